/-! parse: the reference, and both -/
def y_fM (m m' : mz_M) (B : Nat → Int32) (told : List Nat) : Prop := z_fm [73, 74, 75, 76, 77, 78, 79, 80, 81, 82, 83, 84, 85, 86, 87, 88, 89] [24, 26, 33, 34, 43, 44] m m' ∧ m' 55 34 = 0 ∧ m' 55 44 = 0 ∧ m' 55 26 = nI told.length ∧ m' 75 = y_tl B told
theorem s_M_parse {X : mz_X} {m : mz_M} {Q : Int32 → mz_M → Prop} {tk zz : Nat → Nat} {c : Nat} {G : y_G} {lp : Nat → Nat} {res a : Nat} {st : List y_E} {told : List Nat} {raws : Nat} (h13 : ¬ m 55 13 = 0) (h67 : ∀ j, j ≤ c → m 67 j = nI (tk j)) (hT : r_tab m) (ht : y_toks tk zz c) (hrun : y_run tk zz 20018 0 [] [] 0 = (res, a, st, told, raws)) (hs : res = 2 → ∃ e, st = [e] ∧ y_x e = 26) (hG : ∀ e, st = [e] → y_at G (y_ft e) 0 0) (hlp : ∀ e, st = [e] → y_x e = 26 → 1 + z_fht (y_f e) ≤ 200 → lp 0 = 0 ∧ ∀ i, i < 1 + z_fsz (y_f e) → ∀ x, x ∈ (G i).2.2.2.2.2 → lp x = (if (G i).1 = 4 then i + 1 else lp i)) (q1 : res = 1 → ∀ m', y_fM m m' (m 75) told → Q (-10 - nI a) m') (q2 : res = 2 → ∀ e, st = [e] → ¬ 1 + z_fht (y_f e) ≤ 200 → ∀ m', y_fM m m' (m 75) told → Q (-2) m') (q3 : res = 2 → ∀ e, st = [e] → 1 + z_fht (y_f e) ≤ 200 → ∀ m', y_fM m m' (m 75) told → y_cM m' (1 + z_fsz (y_f e)) G → (y_nst G lp (1 + z_fsz (y_f e)) → Q (nI (1 + z_fsz (y_f e))) (mz_up m' 55 34 1)) ∧ (∀ j, y_fst G lp (1 + z_fsz (y_f e)) j → Q (-10000 - nI (G j).2.1) m')) : mz_gi X mz_sh 160 0 [some (.ref 55), none, none] m Q := by
  have hc4 := ht.2.1
  refine t_M_parse_0 ⟨fun g => absurd g h13, fun _ => t_M_goOver_0 ?_⟩
  have f0 : z_fm [73, 74, 75, 76, 77, 78, 79, 80, 81, 82, 83, 84, 85, 86, 87, 88, 89] [24, 26, 33, 34, 43, 44] m (mz_up (mz_up (mz_up (mz_up (mz_up (mz_up m 55 34 0) 55 44 0) 55 24 1) 73 0 0) 55 26 0) 55 33 0) := ((((((z_fm.rf _ _ _).uf (by decide)).uf (by decide)).uf (by decide)).up (by decide) (by decide)).uf (by decide)).uf (by decide)
  have k34 : mz_up (mz_up (mz_up (mz_up (mz_up (mz_up m 55 34 0) 55 44 0) 55 24 1) 73 0 0) 55 26 0) 55 33 0 55 34 = 0 := by simp [mz_up, upd]
  have k44 : mz_up (mz_up (mz_up (mz_up (mz_up (mz_up m 55 34 0) 55 44 0) 55 24 1) 73 0 0) 55 26 0) 55 33 0 55 44 = 0 := by simp [mz_up, upd]
  have k24 : mz_up (mz_up (mz_up (mz_up (mz_up (mz_up m 55 34 0) 55 44 0) 55 24 1) 73 0 0) 55 26 0) 55 33 0 55 24 = nI 1 := by simp [mz_up, upd]; rfl
  have k26 : mz_up (mz_up (mz_up (mz_up (mz_up (mz_up m 55 34 0) 55 44 0) 55 24 1) 73 0 0) 55 26 0) 55 33 0 55 26 = nI 0 := by simp [mz_up, upd, nI_0]
  have k33 : mz_up (mz_up (mz_up (mz_up (mz_up (mz_up m 55 34 0) 55 44 0) 55 24 1) 73 0 0) 55 26 0) 55 33 0 55 33 = nI 0 := by simp [mz_up, upd, nI_0]
  have k73 : mz_up (mz_up (mz_up (mz_up (mz_up (mz_up m 55 34 0) 55 44 0) 55 24 1) 73 0 0) 55 26 0) 55 33 0 73 0 = 0 := by simp [mz_up, upd]
  have k75 : mz_up (mz_up (mz_up (mz_up (mz_up (mz_up m 55 34 0) 55 44 0) 55 24 1) 73 0 0) 55 26 0) 55 33 0 75 = m 75 := by simp [mz_up]
  generalize mz_up (mz_up (mz_up (mz_up (mz_up (mz_up m 55 34 0) 55 44 0) 55 24 1) 73 0 0) 55 26 0) 55 33 0 = m1 at f0 k34 k44 k24 k26 k33 k73 k75
  have hT1 : r_tab m1 := r_tab_fr (fun q hq => f0.1 q (by simp only [List.mem_cons, List.not_mem_nil, or_false] at hq ⊢; omega) (by simp only [List.mem_cons, List.not_mem_nil, or_false] at hq; omega)) hT
  refine s_M_goOver1 (B := m 75) ht 20018 0 [] [] 0 m1 (by omega) (y_inv0 tk zz) rfl (fun j hj => by rw [f0.1 67 (by decide) (by decide)]; exact h67 j hj) hT1 ⟨k24, k73, trivial, k33, fun e he => by cases he⟩ k26 k75 (fun res' a' st' told' raws' hy ha' hi' => ?_)
  rw [hrun] at hy
  cases hy
  have mk : ∀ m2, z_fm [73, 74, 75, 76, 77, 78, 79, 80, 81] [24, 26, 33] m1 m2 → m2 55 26 = nI told.length → m2 75 = y_tl (m 75) told → y_fM m m2 (m 75) told := fun m2 f2 w1 w2 => ⟨f0.tr (f2.wk (by decide) (by decide)), by rw [f2.2 34 (by decide)]; exact k34, by rw [f2.2 44 (by decide)]; exact k44, w1, w2⟩
  refine ⟨fun h1 m2 f2 w1 w2 => ⟨fun g => absurd g (nI_pos (by omega)), fun _ => q1 h1 m2 (mk m2 f2 w1 w2)⟩, fun h2 m2 f2 w1 w2 hm => ?_⟩
  obtain ⟨e, hst, hx⟩ := hs h2
  subst hst
  obtain ⟨t1, t2, t3, t4, t5, t6⟩ := y_final hi' ht ha' hx
  have hfM := mk m2 f2 w1 w2
  obtain ⟨b1, b2, b3, b4, b5⟩ := hm
  have hGe := hG e rfl
  have hraw := b5 e (by simp)
  have hRF : y_RF e = y_ft e := by simp only [y_RF, hx, if_true]; rfl
  rw [hRF] at hraw
  have hsz : z_fsz (y_ft e) = 1 + z_fsz (y_f e) := by simp only [y_ft, z_fsz, Nat.add_zero]
  have hhs := z_fht_sz (y_f e)
  refine ⟨fun _ => ?_, fun g => absurd (by decide) g⟩
  rw [b1, nI_m1 (by simp), show [e].length + 1 - 1 = 1 from rfl, nI_clamp (by decide), show m2 74 1 = nI (y_t e) from b3.2.1]
  refine ⟨mz_inbN (n := 8100) (k := 1) (by decide) (by decide), ?_⟩
  refine s_M_number hGe hraw t6 t5 t2 (fun m3 f3 v43 v82 vL => ?_)
  have all := y_at_all _ _ _ hGe t1
  rw [hsz] at all
  have hts := y_at_ht _ _ _ hGe
  rw [hsz] at hts
  have hup : ∀ i, i < 1 + z_fsz (y_f e) → 1 ≤ (G i).2.2.1 ∧ i + (G i).2.2.1 ≤ 1 + z_fsz (y_f e) ∧ ∀ x, x ∈ (G i).2.2.2.2.2 → (G x).2.2.2.2.1 = i ∧ i < x ∧ x < 1 + z_fsz (y_f e) := fun i hi => by
    obtain ⟨p1, p2, p3, p4, p5, p6, p7, p8, p9⟩ := all i (by omega) (by omega)
    refine ⟨p1, by omega, fun x hx => ⟨(p4 x hx).1, ?_⟩⟩
    have := z_segP_mem _ _ _ p3 x hx
    omega
  refine t_M_measure_0 ?_
  rw [v43]
  refine s_M_measure (kd := fun i => (G i).1) (sz := fun i => (G i).2.2.1) (ht := fun i => (G i).2.2.2.1) (up := fun i => (G i).2.2.2.2.1) (ks := fun i => (G i).2.2.2.2.2) hup (fun i hi => (all i (by omega) (by omega)).2.2.1) (by omega) (by omega) (fun x hx => ?_) (fun x hx => hts x (by omega) (by omega)) (1 + z_fsz (y_f e)) m3 (Nat.le_refl _) vL (fun x x1 x2 => by omega) (fun m4 f4 v85 => ?_)
  · have := (all x (by omega) (by omega)).2.2.2.2.2.1
    have h2 : z_fht (y_ft e) = 1 + z_fht (y_f e) := by simp only [y_ft, z_fht, Nat.max_zero]
    omega
  have hfM4 : y_fM m m4 (m 75) told := by
    obtain ⟨z1, z2, z3, z4, z5⟩ := hfM
    have f4' : z_fm [85] [] m3 m4 := ⟨fun q hq _ => f4 q hq, fun j _ => by rw [f4 55 (by decide)]⟩
    refine ⟨(z1.tr (f3.wk (by decide) (by decide))).tr (f4'.wk (by decide) (by simp)), ?_, ?_, ?_, ?_⟩
    · rw [f4 55 (by decide), f3.2 34 (by decide)]; exact z2
    · rw [f4 55 (by decide), f3.2 44 (by decide)]; exact z3
    · rw [f4 55 (by decide), f3.2 26 (by decide)]; exact z4
    · rw [f4 75 (by decide), f3.1 75 (by decide) (by decide)]; exact z5
  have h0 : (G 0).2.2.2.1 = 1 + z_fht (y_f e) := by rw [hGe.1]
  rw [h0]
  have vL4 : z_links m4 (1 + z_fsz (y_f e)) (fun i => (G i).2.2.1) (fun i => (G i).2.2.2.2.1) (fun i => (G i).2.2.2.2.2) := by
    unfold z_links at vL ⊢
    rw [f4 86 (by decide), f4 87 (by decide), f4 88 (by decide), f4 89 (by decide)]
    exact vL
  have e43 : m4 55 43 = nI (1 + z_fsz (y_f e)) := by rw [f4 55 (by decide)]; exact v43
  have hcM : y_cM m4 (1 + z_fsz (y_f e)) G := ⟨e43, fun i hi => by rw [f4 82 (by decide), f4 83 (by decide), f4 84 (by decide)]; exact ⟨(v82 i hi).1, (v82 i hi).2.1, (v82 i hi).2.2, v85 i hi⟩, vL4⟩
  refine ⟨fun g => ?_, fun g => ?_⟩
  · have hh : 1 + z_fht (y_f e) ≤ 200 := (nI_leI (b := 200) (by omega) (by decide)).mp g
    obtain ⟨lp0, lpx⟩ := hlp e rfl hx hh
    have hpre := y_pre hGe t1 t2 (by omega) t3
    obtain ⟨r1, r2⟩ := q3 h2 e rfl hh m4 hfM4 hcM
    have hlN := y_lple hpre lpx lp0
    have hbk := (y_at_bk _ _ _ hGe t4).2
    rw [hsz] at hbk
    refine t_M_strayToken_0 (s_M_stray1 (kd := fun i => (G i).1) (tk := fun i => (G i).2.1) (lp := lp) hpre ⟨lp0, fun i hi _ x hx => lpx i hi x hx⟩ e43 (fun i hi => (hcM.2.1 i hi).1) (fun i hi => ⟨(hcM.2.1 i hi).2.1, ?_⟩) (fun i hi => (vL4 i hi).2.2.2.2) (fun x hx => hlN x x (Nat.le_refl _) hx) (fun i j h1 h2 h3 h4 => hbk i j (by omega) h1 (by omega) h3 h4) (fun hn => ⟨fun _ => ?_, fun g => absurd (by decide) g⟩) (fun j hj hk hl hb => ⟨fun g => ?_, fun _ => r2 j ⟨hj, hk, hl, hb⟩⟩) (1 + z_fsz (y_f e)) 0 rfl (fun j hj => by omega))
    · have := (all i (by omega) (by omega)).2.2.2.2.2.2.2.1
      omega
    · rw [e43]
      exact r1 hn
    · have := (all j (by omega) (by omega)).2.2.2.2.2.2.2.1
      exact absurd g (nI_pos (by omega))
  · have hh : ¬ 1 + z_fht (y_f e) ≤ 200 := fun h => g (nI_le (b := 200) h (by decide))
    exact q2 h2 e rfl hh m4 hfM4
theorem k_parse {X : mz_X} {m : mz_M} {R : Int32 → Int32 → mz_M → Prop} (h : z_rel m) (hR : ∀ r m', z_rel m' → R r r m') : mz_gi X mz_sh 105 0 [some (.ref 0), none, none] m (fun r m1 => mz_gi X mz_sh 160 0 [some (.ref 55), none, none] m1 (fun r' m2 => R r r' m2)) := by
  have h0 := h
  obtain ⟨g1, g2, g3, g4, g5, g6, g7, g8⟩ := h0
  by_cases h26 : m 2 6 = 0
  · refine t_A_parse_0 ⟨fun _ => t_M_parse_0 ⟨fun _ => hR _ _ h, fun b => absurd (g3.2.2.2.2.2.2.2.2.1 ▸ h26) b⟩, fun b => absurd h26 b⟩
  have e26 : m 2 6 = 1 := g3.2.2.2.2.2.2.2.2.2.1.resolve_left h26
  obtain ⟨tk, zz, c, ht, h24, h3, h6⟩ := y_tokq (g3.2.2.2.2.2.2.2.2.2.2 e26)
  obtain ⟨res, a, st, told, raws, hrun⟩ : ∃ res a st told raws, y_run tk zz 20018 0 [] [] 0 = (res, a, st, told, raws) := ⟨_, _, _, _, _, rfl⟩
  obtain ⟨G, hG0⟩ := y_at_ex (y_ft (st.headD y_e0)) 0 0
  have hG : ∀ e, st = [e] → y_at G (y_ft e) 0 0 := fun e he => by
    rw [he] at hG0
    exact hG0
  -- the loops around statements
  obtain ⟨lp, hlp⟩ : ∃ lp : Nat → Nat, ∀ e, st = [e] → y_x e = 26 → y_inv tk zz a st told raws → a ≤ c → 1 + z_fht (y_f e) ≤ 200 → lp 0 = 0 ∧ ∀ i, i < 1 + z_fsz (y_f e) → ∀ x, x ∈ (G i).2.2.2.2.2 → lp x = (if (G i).1 = 4 then i + 1 else lp i) := by
    by_cases hex : ∃ e, st = [e] ∧ y_x e = 26 ∧ y_inv tk zz a st told raws ∧ a ≤ c ∧ 1 + z_fht (y_f e) ≤ 200
    · obtain ⟨e, he, hx, hi, ha, hh⟩ := hex
      subst he
      obtain ⟨t1, t2, t3, t4, t5, t6⟩ := y_final hi ht ha hx
      have hpre := y_pre (hG e rfl) t1 t2 (by omega) t3
      obtain ⟨lp, l0, l1⟩ := z_td_ex (fun i a x => if (G i).1 = 4 then i + 1 else a) 0 (up := fun i => (G i).2.2.2.2.1) (ks := fun i => (G i).2.2.2.2.2) (N := 1 + z_fsz (y_f e)) (fun i hi x hx => ⟨(z_pre_kids hpre i hi x hx).1, (z_pre_kids hpre i hi x hx).2.1, (z_pre_kids hpre i hi x hx).2.2.1⟩) (fun x h1 h2 => (hpre.2.2.2.2.2.1 x h1 h2).1)
      refine ⟨lp, fun e' he' _ _ _ _ => ?_⟩
      cases he'
      exact ⟨l0, l1⟩
    · exact ⟨fun _ => 0, fun e he hx hi ha hh => absurd ⟨e, he, hx, hi, ha, hh⟩ hex⟩
  have hB : m 10 = m 75 := g4.2.1
  -- what remains alike
  have fin : ∀ m1 m2, a ≤ c → y_inv tk zz a st told raws → y_fA m m1 (m 10) told → (∀ q, q ∉ [73, 74, 75, 76, 77, 78, 79, 80, 81, 82, 83, 84, 85, 86, 87, 88, 89] → q ≠ 55 → q ≠ 0 → m2 q = m1 q) → (∀ j, j ≠ 6 → m2 0 j = m1 0 j) → (∀ j, j ∉ [24, 26, 33, 34, 43, 44] → m2 55 j = m1 55 j) → m2 55 44 = 0 → m2 55 26 = nI told.length → m2 75 = y_tl (m 75) told → r_tree m2 → z_rel m2 := by
    intro m1 m2 ha hi hfA k1 k2 k3 k4 k5 k6 htr
    obtain ⟨z1, z2, z3, z4, z5, z6⟩ := hfA
    have hb := y_bounds hi ht ha
    refine z_rel_par h (fun q hq => ?_) (fun j j6 j8 => ?_) (fun j hj => ?_) ⟨?_, ?_, told.length, by omega, ?_⟩ htr ⟨?_, ?_, fun h9 => ?_⟩
    · have hq' : q ∉ [73, 74, 75, 76, 77, 78, 79, 80, 81, 82, 83, 84, 85, 86, 87, 88, 89] ∧ q ≠ 55 ∧ q ≠ 0 ∧ q ∉ [0, 9, 10, 11, 12, 13, 14, 15, 16, 28, 29, 30, 31, 32, 33, 34, 35, 36, 37, 38, 39, 40] := by
        simp only [List.mem_cons, List.not_mem_nil, or_false, not_or] at hq ⊢
        omega
      rw [k1 q hq'.1 hq'.2.1 hq'.2.2.1, z1 q hq'.2.2.2]
    · rw [k2 j j6, z2 j j6 j8]
    · rw [k3 j hj, z1 55 (by decide)]
    · rw [k1 9 (by decide) (by decide) (by decide), z5, k5]
    · rw [k1 10 (by decide) (by decide) (by decide), z6, k6, hB]
    · rw [k1 9 (by decide) (by decide) (by decide), z5]
    · rw [k2 8 (by decide), z4, k4]
    · exact Or.inl (by rw [k2 8 (by decide), z4])
    · rw [k2 8 (by decide), z4] at h9
      exact absurd h9 (by decide)
  -- the reference's side, over the memory that the class's left
  have ref : ∀ (r : Int32) (m1 : mz_M), a ≤ c → y_inv tk zz a st told raws → (m1 = m1) → y_fA m m1 (m 10) told → (res = 2 → ∃ e, st = [e] ∧ y_x e = 26) → (res = 1 ∨ res = 2) → ∀ m1', (m1' = m1 ∨ m1' = mz_up m1 0 6 1) → (res = 1 → r = -10 - nI a ∧ m1' = m1) → (res = 2 → ∀ e, st = [e] → ¬ 1 + z_fht (y_f e) ≤ 200 → r = -2 ∧ m1' = m1) → (res = 2 → ∀ e, st = [e] → 1 + z_fht (y_f e) ≤ 200 → y_cA m1 (1 + z_fsz (y_f e)) G lp ∧ ((y_nst G lp (1 + z_fsz (y_f e)) ∧ r = nI (1 + z_fsz (y_f e)) ∧ m1' = mz_up m1 0 6 1) ∨ (∃ j, y_fst G lp (1 + z_fsz (y_f e)) j ∧ r = -10000 - nI (G j).2.1 ∧ m1' = m1))) → mz_gi X mz_sh 160 0 [some (.ref 55), none, none] m1' (fun r' m2 => R r r' m2) := by
    intro r m1 ha hi _ hfA hst _ m1' hm1' c1 c2 c3
    have hfA' := hfA
    obtain ⟨z1, z2, z3, z4, z5, z6⟩ := hfA'
    have k1' : ∀ q, q ≠ 0 → m1' q = m1 q := fun q hq => by
      rcases hm1' with e | e
      · rw [e]
      · rw [e, mz_up_n _ _ _ hq]
    have k2' : ∀ j, j ≠ 6 → m1' 0 j = m1 0 j := fun j hj => by
      rcases hm1' with e | e
      · rw [e]
      · rw [e, mz_up_k]
        simp [upd, hj]
    have e75 : m1' 75 = m 75 := by rw [k1' 75 (by decide), z1 75 (by decide)]
    have up : ∀ m2, y_fM m1' m2 (m1' 75) told → (∀ q, q ∉ [73, 74, 75, 76, 77, 78, 79, 80, 81, 82, 83, 84, 85, 86, 87, 88, 89] → q ≠ 55 → q ≠ 0 → m2 q = m1 q) ∧ (∀ j, j ≠ 6 → m2 0 j = m1 0 j) ∧ (∀ j, j ∉ [24, 26, 33, 34, 43, 44] → m2 55 j = m1 55 j) ∧ m2 55 44 = 0 ∧ m2 55 26 = nI told.length ∧ m2 75 = y_tl (m 75) told ∧ m2 0 = m1' 0 ∧ m2 55 34 = 0 := fun m2 hf => by
      obtain ⟨y1, y2, y3, y4, y5⟩ := hf
      rw [e75] at y5
      exact ⟨fun q q1 q2 q3 => by rw [y1.1 q q1 q2, k1' q q3], fun j hj => by rw [y1.1 0 (by decide) (by decide), k2' j hj], fun j hj => by rw [y1.2 j hj, k1' 55 (by decide)], y3, y4, y5, y1.1 0 (by decide) (by decide), y2⟩
    have notree : ∀ m2, m1' = m1 → y_fM m1' m2 (m1' 75) told → z_rel m2 := fun m2 he hf => by
      obtain ⟨u1, u2, u3, u4, u5, u6, u7, u8⟩ := up m2 hf
      have e06 : m2 0 6 = 0 := by rw [u7, he]; exact z3
      exact fin m1 m2 ha hi hfA u1 u2 u3 u4 u5 u6 ⟨by rw [e06, u8], Or.inl e06, fun h9 => by rw [e06] at h9; exact absurd h9 (by decide)⟩
    refine s_M_parse (G := G) (lp := lp) (by rw [k1' 55 (by decide), z1 55 (by decide), ← g3.2.2.2.2.2.2.2.2.1]; exact h26) (fun j hj => by rw [k1' 67 (by decide), z1 67 (by decide), ← g3.2.2.1]; exact h3 j hj) (r_tab_fr (fun q hq => by
        have hq' : q ≠ 0 ∧ q ∉ [0, 9, 10, 11, 12, 13, 14, 15, 16, 28, 29, 30, 31, 32, 33, 34, 35, 36, 37, 38, 39, 40] := by
          simp only [List.mem_cons, List.not_mem_nil, or_false] at hq
          simp only [List.mem_cons, List.not_mem_nil, or_false, not_or]
          omega
        rw [k1' q hq'.1, z1 q hq'.2]) g1) ht hrun hst hG (fun e he hx hh => hlp e he hx hi ha hh) (fun h1 m2 hf => ?_) (fun h2 e he hh m2 hf => ?_) (fun h2 e he hh m2 hf hcM => ?_)
    · obtain ⟨rfl, he⟩ := c1 h1
      exact hR _ _ (notree m2 he hf)
    · obtain ⟨rfl, he'⟩ := c2 h2 e he hh
      exact hR _ _ (notree m2 he' hf)
    · obtain ⟨hcA, hor⟩ := c3 h2 e he hh
      obtain ⟨e', he', hx⟩ := hst h2
      have hee : e = e' := by rw [he] at he'; cases he'; rfl
      subst hee
      subst he
      obtain ⟨t1, t2, t3, t4, t5, t6⟩ := y_final hi ht ha hx
      have hpre := y_pre (hG e rfl) t1 t2 (by omega) t3
      obtain ⟨lp0, lpx⟩ := hlp e rfl hx hi ha hh
      rcases hor with ⟨hn, rfl, he''⟩ | ⟨j, hj, rfl, he''⟩
      · refine ⟨fun _ => ?_, fun j' hj' => ?_⟩
        · obtain ⟨u1, u2, u3, u4, u5, u6, u7, u8⟩ := up m2 hf
          have kk : ∀ q, q ≠ 55 → mz_up m2 55 34 1 q = m2 q := fun q hq => mz_up_n _ _ _ hq
          have k55 : ∀ j, j ≠ 34 → mz_up m2 55 34 1 55 j = m2 55 j := fun j hj => by rw [mz_up_k]; simp [upd, hj]
          have e06 : mz_up m2 55 34 1 0 6 = 1 := by
            rw [kk 0 (by decide), u7, he'', mz_up_k]
            simp [upd]
          have e34 : mz_up m2 55 34 1 55 34 = 1 := by rw [mz_up_k]; simp [upd]
          refine hR _ _ (fin m1 _ ha hi hfA (fun q q1 q2 q3 => by rw [kk q q2]; exact u1 q q1 q2 q3) (fun j hj => by rw [kk 0 (by decide)]; exact u2 j hj) (fun j hj => by rw [k55 j (fun e => by rw [e] at hj; exact hj (by decide))]; exact u3 j hj) (by rw [k55 44 (by decide)]; exact u4) (by rw [k55 26 (by decide)]; exact u5) (by rw [kk 75 (by decide)]; exact u6) ⟨by rw [e06, e34], Or.inr e06, fun _ => ⟨?_, ?_⟩⟩)
          · rw [kk 2 (by decide), u1 2 (by decide) (by decide) (by decide), z1 2 (by decide)]
            exact e26
          · have kA : ∀ q, q ∈ [30, 31, 32, 33, 34, 35, 37, 38, 39, 40] → mz_up m2 55 34 1 q = m1 q := fun q hq => by
              have hq' : q ∉ [73, 74, 75, 76, 77, 78, 79, 80, 81, 82, 83, 84, 85, 86, 87, 88, 89] ∧ q ≠ 55 ∧ q ≠ 0 := by
                simp only [List.mem_cons, List.not_mem_nil, or_false] at hq
                simp only [List.mem_cons, List.not_mem_nil, or_false, not_or]
                omega
              rw [kk q hq'.2.1, u1 q hq'.1 hq'.2.1 hq'.2.2]
            have k6 : mz_up m2 55 34 1 6 = m 6 := by rw [kk 6 (by decide), u1 6 (by decide) (by decide) (by decide), z1 6 (by decide)]
            obtain ⟨A1, A2, A3, A4, A5, A6, A7⟩ := hcA
            obtain ⟨M1, M2, M3⟩ := hcM
            have all := y_at_all _ _ _ (hG e rfl) t1
            have hsz : z_fsz (y_ft e) = 1 + z_fsz (y_f e) := by simp only [y_ft, z_fsz, Nat.add_zero]
            rw [hsz] at all
            have hc4 := ht.2.1
            refine ⟨1 + z_fsz (y_f e), fun i => (G i).1, fun i => (G i).2.1, fun i => (G i).2.2.1, fun i => (G i).2.2.2.1, fun i => (G i).2.2.2.2.1, lp, fun i => (G i).2.2.2.2.2, hpre, ?_, ?_, fun i hi' => ?_, ?_, ?_⟩
            · rw [kA 30 (by decide)]; exact A1
            · rw [k55 43 (by decide)]; exact M1
            · obtain ⟨p1, p2, p3, p4, p5, p6, p7, p8, p9⟩ := all i (by omega) (by omega)
              obtain ⟨x1, x2, x3, x4, x5⟩ := A2 i hi'
              obtain ⟨y1, y2, y3, y4⟩ := M2 i hi'
              rw [kA 31 (by decide), kA 32 (by decide), kA 33 (by decide), kA 34 (by decide), kA 35 (by decide), kk 82 (by decide), kk 83 (by decide), kk 84 (by decide), kk 85 (by decide), k6]
              exact ⟨x1, y1, x2, y2, x3, y3, x4, y4, x5, by simp only; omega, fun hk => h6 _ (p7 hk)⟩
            · unfold z_links at M3 ⊢
              rw [kk 86 (by decide), kk 87 (by decide), kk 88 (by decide), kk 89 (by decide)]
              exact M3
            · refine ⟨by rw [kA 37 (by decide)]; exact A3, by rw [kA 39 (by decide)]; exact A4, lp0, by rw [kA 38 (by decide)]; exact A5, fun i hi' hk x hx' => ?_, fun i hi' => ?_, hn⟩
              · rw [kA 38 (by decide), kA 39 (by decide)]
                exact ⟨lpx i hi' x hx', (A6 i hi' hk x hx').1, (A6 i hi' hk x hx').2⟩
              · unfold z_into
                rw [kA 39 (by decide), kA 40 (by decide)]
                exact A7 i hi'
        · obtain ⟨v1, v2, v3, v4⟩ := hj'
          have := hn j' v1 v2
          omega
      · refine ⟨fun hn => ?_, fun j' hj' => ?_⟩
        · obtain ⟨v1, v2, v3, v4⟩ := hj
          have := hn j v1 v2
          omega
        · have hjj : j = j' := by
            obtain ⟨v1, v2, v3, v4⟩ := hj
            obtain ⟨w1, w2, w3, w4⟩ := hj'
            rcases Nat.lt_trichotomy j j' with g | g | g
            · have := w4 j g v2
              omega
            · exact g
            · have := v4 j' g w2
              omega
          subst hjj
          exact hR _ _ (notree m2 he'' hf)
  refine s_A_parse (G := G) (lp := lp) h26 h24 h3 g1.1 g1.2.1 ht hrun hG (fun ha hi e he hx hh => hlp e he hx hi ha hh) (fun ha hi h1 m1 hfA => ?_) (fun ha hi h2 e he hx hh m1 hfA => ?_) (fun ha hi h2 e he hx hh m1 hfA hcA => ⟨fun hn => ?_, fun j hj => ?_⟩)
  · exact ref _ m1 ha hi rfl hfA (fun g => by omega) (Or.inl h1) m1 (Or.inl rfl) (fun _ => ⟨rfl, rfl⟩) (fun g => by omega) (fun g => by omega)
  · exact ref _ m1 ha hi rfl hfA (fun _ => ⟨e, he, hx⟩) (Or.inr h2) m1 (Or.inl rfl) (fun g => by omega) (fun _ _ _ _ => ⟨rfl, rfl⟩) (fun _ e' he' hh' => by rw [he] at he'; cases he'; exact absurd hh' hh)
  · refine ref _ m1 ha hi rfl hfA (fun _ => ⟨e, he, hx⟩) (Or.inr h2) _ (Or.inr rfl) (fun g => by omega) (fun _ e' he' hh' => by rw [he] at he'; cases he'; exact absurd hh hh') (fun _ e' he' hh' => ?_)
    rw [he] at he'
    cases he'
    exact ⟨hcA, Or.inl ⟨hn, rfl, rfl⟩⟩
  · refine ref _ m1 ha hi rfl hfA (fun _ => ⟨e, he, hx⟩) (Or.inr h2) m1 (Or.inl rfl) (fun g => by omega) (fun _ e' he' hh' => by rw [he] at he'; cases he'; exact absurd hh hh') (fun _ e' he' hh' => ?_)
    rw [he] at he'
    cases he'
    exact ⟨hcA, Or.inr ⟨j, hj, rfl, rfl⟩⟩
