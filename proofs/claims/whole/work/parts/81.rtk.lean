/-! runTree: both sides -/
theorem k_runTree {X : mz_X} {m : mz_M} {a1 : Int32} {R : Int32 → Int32 → mz_M → Prop} (h : z_rel m) (hR : ∀ r m', z_rel m' → R r r m') : mz_gi X mz_sh 111 0 [some (.ref 0), some (.int a1)] m (fun r m1 => mz_gi X mz_sh 185 0 [some (.ref 55), some (.int a1)] m1 (fun r' m2 => R r r' m2)) := by
  have h0 := h
  obtain ⟨g1, g2, g3, g4, g5, g6, g7, g8⟩ := h0
  refine t_A_runTree_0 _ ⟨fun a => t_M_runTree_0 _ ⟨fun _ => hR _ _ h, fun b => absurd a b⟩, fun a => ⟨fun b => ⟨fun c => t_M_runTree_0 _ ⟨fun d => absurd d a, fun _ => ⟨fun _ => ⟨fun _ => hR _ _ h, fun d => absurd (by rw [← g7.1]; exact c) d⟩, fun d => absurd b d⟩⟩, fun c => ?_⟩, fun b => t_M_runTree_0 _ ⟨fun d => absurd d a, fun _ => ⟨fun d => absurd d b, fun _ => hR _ _ h⟩⟩⟩⟩
  obtain ⟨F, hF, rfl⟩ := nI_of2 (n := 100000) (M := 100000) rfl a b
  obtain ⟨_, N, kd, tk, sz, ht, up, lp, ks, t1, t2, t3, t4, t5, t6⟩ := g7.2.2 (g7.2.1.resolve_left c)
  obtain ⟨hA, hM, hl⟩ := z_tree_hAM t1 t2 t4 t5 t6 g3.2.2.2.2.2.1
  have hN := t1.2.1
  have hpa : z_pa N kd sz (m 39) (m 40) ks := ⟨t6.2.1, fun i hi hk x hx => (t6.2.2.2.2.1 i hi hk x hx).2.2, fun i hi => t6.2.2.2.2.2.1 i hi⟩
  have hslot : ∀ x, x < N → kd x = 18 ∨ kd x = 1 → ∃ q, q < 32 ∧ (fun i => m 6 (tk i)) x = nI q := fun x hx hk => (t4 x hx).2.2.2.2.2.2.2.2.2.2 hk
  have hEA : z_eA m N kd tk sz lp (fun i => m 6 (tk i)) (m 39) (m 40) ks := ⟨hA, fun x _ => rfl, hslot, t6.1, rfl, rfl⟩
  have hEM : z_eM m N kd tk sz up (fun i => m 6 (tk i)) ks := ⟨hM, hslot, fun x h1 h2 => (t1.2.2.2.2.2.1 x h1 h2).1⟩
  have k0 : kd 0 = 0 := t1.2.2.2.1
  refine s_R_start (F := F) (fun m1 q1 k1 f1 => t_E_go_0 ?_)
  have hE1 := hEA.fr f1 (by decide)
  refine s_W_into hE1.2.2.2.1 hN ?_
  rw [hE1.2.2.2.2.2]
  refine s_E_go1 t1 hl hpa hF F F (z_in2 N (m 40) (nI 0)) (-1, 0, m 48, z_var m (m 49)) m1 0 (Nat.le_refl _) (Nat.le_refl _) (by omega) (z_val_en t1 hpa t1.1 (by omega)) hE1 (by rw [Nat.sub_self]; exact q1) (by simp) k1 (fun m2 hh k' s' c1 c2 c3 c4 => ?_)
  have f3 : z_fr [47, 48, 49, 50, 51, 52] m m2 := (f1.wk (by decide)).tr c4
  refine t_M_runTree_0 _ ⟨fun d => absurd d a, fun _ => ⟨fun _ => ⟨fun d => absurd (by rw [f3 55 (by decide), ← g7.1] at d; exact d) c, fun _ => ?_⟩, fun d => absurd b d⟩⟩
  refine s_M_begin (F := F) (fun m3 q3 p3 f4 => t_M_goTree_0 ?_)
  have e48 : m 48 = m2 99 := by rw [f3 99 (by decide)]; exact g6.2.2.1
  have e49 : z_var m (m 49) = (fun j => if j < 32 then m2 96 j else m2 97 j) := by
    funext j
    unfold r_in at g5
    simp only [z_var]
    rw [f3 96 (by decide), f3 97 (by decide), g5, g6.2.2.2.1]
  have hEM2 : z_eM m2 N kd tk sz up (fun i => m 6 (tk i)) ks := by
    refine ⟨?_, hEM.2⟩
    have := hEM.1
    unfold z_hM z_links at this ⊢
    rw [f3 70 (by decide), f3 82 (by decide), f3 83 (by decide), f3 84 (by decide), f3 86 (by decide), f3 87 (by decide), f3 88 (by decide), f3 89 (by decide)]
    exact this
  have hEM3 := hEM2.fm f4 (by decide)
  have f5 : z_fm [92, 93, 97, 98, 99] [55, 56, 58, 59, 60, 61] m2 (mz_up m3 92 0 0) := (f4.wk (by decide) (by decide)).up (by decide) (by decide)
  have hEM4 := hEM2.fm f5 (by decide)
  have q4 : q_M (mz_up m3 92 0 0) F (F - F) (-1, 0, m2 99, (fun j => if j < 32 then m2 96 j else m2 97 j)) := by
    rw [Nat.sub_self]
    exact q_M_fm q3 ((z_fm.rf [92] [] _).up (by decide) (by decide)) (by decide) (by decide) (by simp)
  have p4 : p_M (mz_up m3 92 0 0) [] := p_M_fm p3 ((z_fm.rf [92] [] _).up (by decide) (by decide)) (by decide) (by simp)
  have z92 : mz_up m3 92 0 0 92 0 = 0 := by rw [mz_up_k]; simp [upd]
  generalize mz_up m3 92 0 0 = m4 at f5 hEM4 q4 p4 z92
  have hpv : z_pv kd sz up m4 0 := fun c c1 c2 _ => by omega
  have run : ∀ m', z_fm [92, 93] [] m4 m' → z_GW X (fun r m5 => R (m2 47 1) r (mz_up m5 55 57 r)) N kd tk sz up (fun i => m 6 (tk i)) ks (z_in2 N (m 40) (nI 0)) m' := by
    intro m' f6
    refine s_M_run t1 hl hpa hF F F (z_in2 N (m 40) (nI 0)) (-1, 0, m2 99, (fun j => if j < 32 then m2 96 j else m2 97 j)) m' (Nat.le_refl _) (Nat.le_refl _) (z_val_en t1 hpa t1.1 (by omega)) (hEM4.fm f6 (by decide)) (q_M_fm q4 f6 (by decide) (by decide) (by simp)) (p_M_fm p4 f6 (by decide) (by simp)) (by simp) (fun m5 hh2 k2 s2 d1 d2 d3 => ?_)
    rw [e48, e49] at c1
    rw [c1] at d1
    cases d1
    rw [c3]
    have f7 : z_fm [92, 93, 97, 98, 99] [55, 56, 57, 58, 59, 60, 61] m2 (mz_up m5 55 57 hh) := (((f5.wk (by decide) (by decide)).tr (f6.wk (by decide) (by simp))).tr (d3.wk (by decide) (by decide))).uf (by decide)
    have kA : ∀ q, q ∈ [47, 48, 49] → mz_up m5 55 57 hh q = m2 q := fun q hq => f7.1 q (by simp only [List.mem_cons, List.not_mem_nil, or_false] at hq ⊢; omega) (by simp only [List.mem_cons, List.not_mem_nil, or_false] at hq; omega)
    have kM : q_M (mz_up m5 55 57 hh) F (F - k') s' := q_M_fm d2 ((z_fm.rf [] [57] _).uf (by decide)) (by decide) (by decide) (by decide)
    refine hR _ _ (z_rel_run h (fun q hq h5 => ?_) (fun j hj => ?_) ?_)
    · rw [f7.1 q (by simp only [List.mem_cons, List.not_mem_nil, or_false, not_or] at hq ⊢; omega) h5, f3 q (by simp only [List.mem_cons, List.not_mem_nil, or_false, not_or] at hq ⊢; omega)]
    · rw [f7.2 j hj, f3 55 (by decide)]
    · obtain ⟨u0, u1, u2, u3, u4, u5, u6⟩ := c2
      obtain ⟨v0, v1, v2, v3, v4, v5, v6⟩ := kM
      refine ⟨by rw [kA 47 (by decide), u0, v0], Or.inr (by rw [kA 47 (by decide), u0]), by rw [kA 48 (by decide), u5, v5], by rw [kA 49 (by decide), u6, v6], fun _ => ⟨?_, ?_, ?_, ?_⟩⟩
      · rw [kA 47 (by decide), c3, mz_up_k]; simp [upd]
      · rw [kA 47 (by decide), u2, v2]
      · rw [kA 47 (by decide), u3, v3]
      · rw [kA 47 (by decide), u4, v4]
  have hEM4' := hEM4
  obtain ⟨⟨n1, n2, n3⟩, b2, b3⟩ := hEM4'
  obtain ⟨cc1, cc2, cc3, cc4, cc5, cc6, cc7⟩ := n2 0 t1.1
  have hin2 : z_in2 N (m 40) (nI 0) = z_in2 N (m 40) (if ks 0 = [] then m 39 0 else nI (0 + 1)) := by
    rw [z_in2_i hN t1.1, hpa.2.2 0 t1.1, if_pos k0]
  rw [hin2] at run
  refine s_M_gt (n := 0) hEM4 t1.1 (by omega) (by omega) (s_M_advk (by omega) cc1 cc6 (by omega) (by omega) (fun _ => ⟨fun _ => ⟨hEM4, ?_⟩, fun g => absurd z92 g⟩) (fun g => by omega) (fun g => by omega) (fun g => by omega) (fun g => by omega) (fun g => by omega) (fun g => by omega) (fun g => by omega) (fun g => by omega) (fun g => by omega) (fun g1 g2 => by omega))
  by_cases hk : ks 0 = []
  · rw [if_pos hk] at run
    rw [(n3 0 t1.1).1, if_pos hk]
    exact Or.inr (Or.inr (Or.inl ⟨rfl, s_M_lv t1 hpa t1.1 (by omega) hEM4 hpv run⟩))
  · rw [if_neg hk] at run
    obtain ⟨x, t, hx⟩ := List.exists_cons_of_ne_nil hk
    have hxm : x ∈ ks 0 := by rw [hx]; exact List.mem_cons_self
    have s3 := (t1.2.2.2.2.1 0 t1.1).2.2.1
    rw [hx] at s3
    have e : x = 0 + 1 := s3.1
    obtain ⟨v1, v2, v3, v4⟩ := z_pre_kids t1 0 t1.1 x hxm
    subst e
    rw [(n3 0 t1.1).1, if_neg hk]
    have k6 : kd (0 + 1) ≤ 6 := by
      rcases z_cases t1 t1.1 with ⟨_, k⟩ | ⟨k, _⟩ | ⟨k, _⟩ | ⟨k, _⟩ | ⟨k, _⟩ | ⟨k, _⟩ | ⟨k, _⟩ | ⟨k, _⟩
      all_goals first | (exfalso; omega) | exact k _ hxm
    have q := s_M_enter (X := X) (Q := fun r m5 => R (m2 47 1) r (mz_up m5 55 57 r)) t1 hpa v3 (by omega) k6 hEM4 (z_pv.pe t1 (by omega) v3 (by rw [v1]; exact hpv) (by rw [v1]; exact ⟨fun _ => ⟨0, by omega, by rw [z92]; rfl⟩, fun g => by omega⟩)) run
    rw [v1] at q
    exact Or.inr (Or.inr (Or.inr ⟨0 + 1, v3, rfl, q⟩))
