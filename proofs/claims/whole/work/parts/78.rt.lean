/-! the tree's run: the reference's exps -/
theorem z_c12 (v : Int32) : z_calc 12 0 v = if v = 0 then 0 else 1 := by simp [z_calc]
theorem s_M_logic {X : mz_X} {m : mz_M} {Q : Int32 → mz_M → Prop} {i kk : Nat} (hi : i < 4001) (hkb : kk = 7 ∨ kk = 8) (h0 : m 92 i = 0 → Q (m 86 i) m) (h1 : m 92 i = 1 → mz_gi X mz_sh 175 0 [some (.ref 55)] m (fun v m8 => m8 82 i = nI kk ∧ ((kk = 8 ∧ v = 0) ∨ (kk = 7 ∧ v ≠ 0) → mz_gv X mz_sh 174 0 [some (.ref 55), some (.int (z_calc 12 0 v))] m8 (fun m2 => Q (-1) m2)) ∧ (¬ ((kk = 8 ∧ v = 0) ∨ (kk = 7 ∧ v ≠ 0)) → Q (m8 87 i) m8))) (h2 : m 92 i ≠ 0 → m 92 i ≠ 1 → mz_gi X mz_sh 175 0 [some (.ref 55)] m (fun v m8 => mz_gv X mz_sh 174 0 [some (.ref 55), some (.int (z_calc 12 0 v))] m8 (fun m2 => Q (-1) m2))) : mz_gi X mz_sh 180 0 [some (.ref 55), some (.int (nI i)), none, none] m Q := by
  have hin : mz_inb (nI i) 12100 = true := mz_inbN (by omega) (by decide)
  have c : ∀ {b : Nat}, b < 2 ^ 31 → nI kk = nI b → kk = b := fun hb e => (nI_eq (by omega) hb).mp e
  refine t_M_logic_0 _ ?_
  rw [nI_clamp (by omega)]
  refine ⟨hin, fun e => ⟨hin, h0 e⟩, fun e => ?_⟩
  have fin : ∀ v m8, mz_gv X mz_sh 174 0 [some (.ref 55), some (.int (z_calc 12 0 v))] m8 (fun m2 => Q (-1) m2) → ((v = 0 → mz_gi X mz_sh 177 0 [some (.int 0)] m8 (fun r m2 => mz_gv X mz_sh 174 0 [some (.ref 55), some (.int r)] m2 (fun m3 => Q (-1) m3))) ∧ (¬ v = 0 → mz_gi X mz_sh 177 0 [some (.int 1)] m8 (fun r m2 => mz_gv X mz_sh 174 0 [some (.ref 55), some (.int r)] m2 (fun m3 => Q (-1) m3)))) := fun v m8 hq => by
    rw [z_c12] at hq
    refine ⟨fun e0 => ?_, fun e0 => ?_⟩
    · rw [if_pos e0] at hq
      exact t_M_truth_0 _ ⟨fun _ => hq, fun g => absurd rfl g⟩
    · rw [if_neg e0] at hq
      exact t_M_truth_0 _ ⟨fun g => absurd g (by decide), fun _ => hq⟩
  by_cases e1 : m 92 i = 1
  · refine (h1 e1).mono (fun v m8 hm => ⟨fun _ => ⟨fun ev => ⟨hin, fun g => ?_, fun g => ⟨hin, ?_⟩⟩, fun ev => ⟨hin, fun g => ⟨hin, ?_⟩, fun g => ?_⟩⟩, fun g => absurd e1 g⟩)
    · obtain ⟨q0, q1, q2⟩ := hm
      rw [q0] at g
      exact fin v m8 (q1 (Or.inl ⟨c (b := 8) (by decide) g, ev⟩))
    · obtain ⟨q0, q1, q2⟩ := hm
      rw [q0] at g
      have k8 : kk ≠ 8 := fun e => g (by rw [e]; rfl)
      exact q2 (fun h => h.elim (fun g => k8 g.1) (fun g => g.2 ev))
    · obtain ⟨q0, q1, q2⟩ := hm
      rw [q0] at g
      have k8 := c (b := 8) (by decide) g
      exact q2 (fun h => h.elim (fun g => ev g.2) (fun g => by omega))
    · obtain ⟨q0, q1, q2⟩ := hm
      rw [q0] at g
      have k8 : kk ≠ 8 := fun e => g (by rw [e]; rfl)
      exact fin v m8 (q1 (Or.inr ⟨by omega, ev⟩))
  · exact (h2 e e1).mono (fun v m8 hm => ⟨fun g => absurd g e1, fun _ => fin v m8 hm⟩)
/-- the exp x is evaluated -/
def z_ER (X : mz_X) (N F : Nat) (kd tk sz ht up : Nat → Nat) (tv : Nat → Int32) (ks : Nat → List Nat) (d x : Nat) : Prop := ∀ (Q : Int32 → mz_M → Prop) (m : mz_M) (p k : Nat) (s : z_rs) (st : List Int32), z_eM m N kd tk sz up tv ks → q_M m F (F - k) s → k ≤ F → p_M m st → st.length + ht x ≤ 200 → m 92 (up x) = nI p → p ≤ 4 → (∀ h v k' s', z_ev kd sz tv d x k s = (h, v, k', s') → (h ≠ -1 → ∀ m', q_M m' F (F - k') s' → z_fm [92, 93, 98] [55, 59, 60] m m' → Q h m') ∧ (h = -1 → ∀ m', q_M m' F (F - k') s' → p_M m' (v :: st) → m' 92 (up x) = nI (p + 1) → (∀ y, y < x ∨ x + sz x ≤ y → y ≠ up x → m' 92 y = m 92 y ∧ m' 93 y = m 93 y) → z_fm [92, 93, 98] [55, 59, 60] m m' → mz_gi X mz_sh 184 9 [some (.ref 55), some (.int (nI (up x))), none] m' Q)) → z_ent X Q kd (up x) x m
theorem s_M_ER {X : mz_X} {N F : Nat} {kd tk sz ht up : Nat → Nat} {tv : Nat → Int32} {ks : Nat → List Nat} (hp : z_pre N kd sz ht up ks) (hF : F ≤ 100000) : ∀ (d x : Nat), N - x ≤ d → x < N → 7 ≤ kd x → z_ER X N F kd tk sz ht up tv ks d x := by
  have hN := hp.2.1
  intro d
  induction d with
  | zero => intro x h1 h2; omega
  | succ d ih =>
    intro x h1 hx hk Q m p k s st hE hq hkF hpl hDh hph hp4 hQ
    have hx0 : 0 < x := by
      rcases Nat.eq_zero_or_pos x with e | e
      · subst e
        have := hp.2.2.2.1
        omega
      · exact e
    obtain ⟨u1, u2⟩ := hp.2.2.2.2.2.1 x hx0 hx
    refine ⟨fun g => by omega, fun _ => ?_⟩
    refine s_M_burn hq hF (by omega) (fun ht1 m1 q1 f1 => ⟨fun g => absurd g (by decide), fun _ => ?_⟩) (fun ht1 => ⟨fun _ => ?_, fun g => absurd rfl g⟩)
    · obtain ⟨k, rfl⟩ : ∃ k', k = k' + 1 := ⟨k - 1, by omega⟩
      have hq1 : q_M m1 F (F - k) (z_beg s (nI x)) := by
        have : F - (k + 1) + 1 = F - k := by omega
        rw [this] at q1
        exact q1
      have f2 : z_fm [92, 93, 98] [55, 59, 60] m (mz_up (mz_up m1 93 (up x) (nI x)) 92 x 0) := ((f1.wk (by simp) (by decide)).up (by decide) (by decide)).up (by decide) (by decide)
      have hq2 : q_M (mz_up (mz_up m1 93 (up x) (nI x)) 92 x 0) F (F - k) (z_beg s (nI x)) := q_M_fm hq1 (((z_fm.rf [92, 93] [] _).up (by decide) (by decide)).up (by decide) (by decide)) (by decide) (by decide) (by simp)
      have hp2 : p_M (mz_up (mz_up m1 93 (up x) (nI x)) 92 x 0) st := p_M_fm (p_M_fm hpl f1 (by simp) (by decide)) (((z_fm.rf [92, 93] [] _).up (by decide) (by decide)).up (by decide) (by decide)) (by decide) (by simp)
      have h92x : mz_up (mz_up m1 93 (up x) (nI x)) 92 x 0 92 x = nI 0 := by rw [mz_up_k]; simp [upd, nI_0]
      have h92u : mz_up (mz_up m1 93 (up x) (nI x)) 92 x 0 92 (up x) = nI p := by
        rw [mz_up_k, mz_up_n _ _ _ (by decide), f1.1 92 (by simp) (by decide)]
        have : up x ≠ x := by omega
        simp only [upd, this, if_false]
        exact hph
      have hout : ∀ y, y < x ∨ x + sz x ≤ y → y ≠ up x → mz_up (mz_up m1 93 (up x) (nI x)) 92 x 0 92 y = m 92 y ∧ mz_up (mz_up m1 93 (up x) (nI x)) 92 x 0 93 y = m 93 y := fun y hy1 hy2 => by
        have hs := (hp.2.2.2.2.1 x hx).1
        have hyx : y ≠ x := by omega
        rw [mz_up_k, mz_up_n _ _ _ (by decide), mz_up_n _ _ _ (by decide), mz_up_k, f1.1 92 (by simp) (by decide), f1.1 93 (by simp) (by decide)]
        simp [upd, hyx, hy2]
      generalize mz_up (mz_up m1 93 (up x) (nI x)) 92 x 0 = m2 at f2 hq2 hp2 h92x h92u hout
      have hE2 : z_eM m2 N kd tk sz up tv ks := hE.fm f2 (by decide)
      have fin : ∀ v k' s' m', z_ev kd sz tv (d + 1) x (k + 1) s = (-1, v, k', s') → q_M m' F (F - k') s' → p_M m' (v :: st) → m' 92 (up x) = nI p → (∀ y, y < x ∨ x + sz x ≤ y → y ≠ up x → m' 92 y = m 92 y ∧ m' 93 y = m 93 y) → z_fm [92, 93, 98] [55, 59, 60] m m' → z_lv X Q up x m' := by
        intro v k' s' m' hev a1 a2 a3 a4 a5
        refine ⟨fun g => by omega, fun _ => ?_⟩
        rw [a3, nI_1]
        refine (hQ _ _ _ _ hev).2 rfl _ (q_M_fm a1 ((z_fm.rf [92] [] _).up (by decide) (by decide)) (by decide) (by decide) (by simp)) (p_M_fm a2 ((z_fm.rf [92] [] _).up (by decide) (by decide)) (by decide) (by simp)) (by rw [mz_up_k]; simp [upd]) (fun y hy1 hy2 => ?_) (a5.up (by decide) (by decide))
        rw [mz_up_k, mz_up_n _ _ _ (by decide)]
        simp only [upd, hy2, if_false]
        exact a4 y hy1 hy2
      have hE2' := hE2
      obtain ⟨⟨n1, n2, n3⟩, b2, b3⟩ := hE2'
      obtain ⟨c1, c2, c3, c4, c5, c6, c7⟩ := n2 x hx
      obtain ⟨wc, sst, bs, hc⟩ := z_cd_ex hp
      rcases z_cases hp hx with ⟨k0, _⟩ | ⟨k0, ek, k1, k2⟩ | ⟨k0, l, ek, _⟩ | ⟨k0, l, l2, ek, _⟩ | ⟨k0, l, ek, _⟩ | ⟨k0, ek⟩ | ⟨k0, b, ek, k1, k2, k3, k4⟩ | ⟨k0, ek⟩
      · omega
      · -- one part
        obtain ⟨q1, q2, q3, q4, q5, q6, q7⟩ := z_k1 hp hc hx ek
        have k16 : 16 ≤ kd x := by omega
        have l86 : m2 86 x = nI (x + 1) := by rw [(n3 x hx).1, if_neg (by rw [ek]; exact List.cons_ne_nil _ _)]
        have hE1 : z_ent X Q kd x (x + 1) m2 := by
          have ih1 := ih (x + 1) (by omega) q2 (by omega) Q m2 0 k (z_beg s (nI x)) st hE2 hq2 (by omega) hp2 (by omega) (by rw [q6]; exact h92x) (by omega)
          rw [q6] at ih1
          refine ih1 (fun h v k' s' hv => ?_)
          have hev : z_ev kd sz tv (d + 1) x (k + 1) s = (if h ≠ -1 then (h, 0, k', s') else (-1, z_ap (kd x) 0 v, k', s')) := by
            simp only [z_ev]
            rw [if_neg (by omega), if_neg (by omega), hv]
            simp only [k16, true_or, if_true]
          refine ⟨fun hh m3 a1 a2 => ?_, fun hh m3 a1 a2 a3 a4 a5 => ?_⟩
          · rw [if_pos hh] at hev
            exact (hQ _ _ _ _ hev).1 hh m3 a1 (f2.tr a2)
          · rw [if_neg (fun g => g hh)] at hev
            have hE3 := hE2.fm a5 (by decide)
            have x92 : m3 92 x = nI 1 := a3
            have nz : ¬ m3 92 x = 0 := by rw [x92]; decide
            have c1' : m3 82 x = nI (kd x) := (hE3.1.2.1 x hx).1
            have gofin : ∀ r m4, p_M m4 (r :: st) → z_fm [98] [55] m3 m4 → r = z_ap (kd x) 0 v → z_eM m4 N kd tk sz up tv ks ∧ z_af X Q N kd up x (-1) m4 := fun r m4 b1 b2 b3 => by
              have hE4 := hE3.fm b2 (by decide)
              refine ⟨hE4, Or.inr (Or.inr (Or.inl ⟨rfl, ?_⟩))⟩
              rw [b3] at b1
              refine fin _ k' s' m4 hev (q_M_fm a1 b2 (by decide) (by decide) (by decide)) b1 ?_ (fun y hy1 hy2 => ?_) ((f2.tr a5).tr (b2.wk (by decide) (by decide)))
              · rw [b2.1 92 (by decide) (by decide), (a4 (up x) (Or.inl (by omega)) (by omega)).1]
                exact h92u
              · rw [b2.1 92 (by decide) (by decide), b2.1 93 (by decide) (by decide), (a4 y (by omega) (by omega)).1, (a4 y (by omega) (by omega)).2]
                exact hout y hy1 hy2
            refine s_M_gt hE3 hx (by omega) (by omega) (s_M_advk (by omega) c1' c6 (by omega) (by omega) (fun g => by omega) (fun g => by omega) (fun g => by omega) (fun g => by omega) (fun g => by omega) (fun g => by omega) (fun g16 => ⟨fun g => absurd g nz, fun _ => ?_⟩) (fun g17 => ⟨fun g => absurd g nz, fun _ => ?_⟩) (fun g => by omega) (fun g => by omega) (fun g1 g2 => by omega))
            · refine s_M_pop a2 (by omega) (fun m4 b1 b2 => s_M_push b1 (by omega) (fun m5 b3 b4 => gofin _ m5 b3 (b2.tr b4) ?_))
              simp [z_ap, g16, z_calc]
            · refine s_M_pop a2 (by omega) (fun m4 b1 b2 => s_M_push b1 (by omega) (fun m5 b3 b4 => gofin _ m5 b3 (b2.tr b4) ?_))
              simp [z_ap, g17, z_calc]
        have zz : m2 92 x = 0 := h92x
        have go : z_eM m2 N kd tk sz up tv ks ∧ z_af X Q N kd up x (m2 86 x) m2 := ⟨hE2, Or.inr (Or.inr (Or.inr ⟨x + 1, q2, l86, hE1⟩))⟩
        refine s_M_gt hE2 hx (by omega) (by omega) (s_M_advk (by omega) c1 c6 (by omega) (by omega) (fun g => by omega) (fun g => by omega) (fun g => by omega) (fun g => by omega) (fun g => by omega) (fun g => by omega) (fun g16 => ⟨fun _ => go, fun g => absurd zz g⟩) (fun g17 => ⟨fun _ => go, fun g => absurd zz g⟩) (fun g => by omega) (fun g => by omega) (fun g1 g2 => by omega))
      · omega
      · omega
      · omega
      · omega
      · -- two parts
        obtain ⟨q1, q2, q3, q4, q5, q6, q7, q8, q9, q10, q11, q12, q13⟩ := z_k2 hp hc hx ek
        have l86 : m2 86 x = nI (x + 1) := by rw [(n3 x hx).1, if_neg (by rw [ek]; exact List.cons_ne_nil _ _)]
        have hE1 : z_ent X Q kd x (x + 1) m2 := by
          have ih1 := ih (x + 1) (by omega) q2 (by omega) Q m2 0 k (z_beg s (nI x)) st hE2 hq2 (by omega) hp2 (by omega) (by rw [q10]; exact h92x) (by omega)
          rw [q10] at ih1
          refine ih1 (fun h v k' s' hv => ?_)
          have hle := z_ev_le kd sz tv d (x + 1) k (z_beg s (nI x))
          rw [hv] at hle
          simp only at hle
          refine ⟨fun hh m3 a1 a2 => ?_, fun hh m3 a1 a2 a3 a4 a5 => ?_⟩
          · have hev : z_ev kd sz tv (d + 1) x (k + 1) s = (h, 0, k', s') := by
              simp only [z_ev]
              rw [if_neg (by omega), if_neg (by omega), hv]
              simp only [if_pos hh]
            exact (hQ _ _ _ _ hev).1 hh m3 a1 (f2.tr a2)
          · have hE3 := hE2.fm a5 (by decide)
            have x92 : m3 92 x = nI 1 := a3
            have nz : ¬ m3 92 x = 0 := by rw [x92]; decide
            have c1' : m3 82 x = nI (kd x) := (hE3.1.2.1 x hx).1
            -- the second part, over a pile
            have second : ∀ m4 st', p_M m4 st' → st'.length + ht b ≤ 200 → z_fm [98] [55] m3 m4 → ¬ ((kd x = 8 ∧ v = 0) ∨ (kd x = 7 ∧ v ≠ 0)) → (st' = if kd x ≤ 8 then st else v :: st) → z_ent X Q kd x b m4 := by
              intro m4 st' b1 b1' b2 gd b3
              have hE4 := hE3.fm b2 (by decide)
              have ih2 := ih b (by omega) q5 (by omega) Q m4 1 k' s' st' hE4 (q_M_fm a1 b2 (by decide) (by decide) (by decide)) (by omega) b1 b1' (by rw [q11, b2.1 92 (by decide) (by decide)]; exact x92) (by omega)
              rw [q11] at ih2
              refine ih2 (fun h2 v2 k2 s2 hv2 => ?_)
              have hev : z_ev kd sz tv (d + 1) x (k + 1) s = (if h2 ≠ -1 then (h2, 0, k2, s2) else if (kd x = 14 ∨ kd x = 15) ∧ v2 = 0 then (2, 0, k2, s2) else (-1, z_ap (kd x) v v2, k2, s2)) := by
                simp only [z_ev]
                rw [if_neg (by omega), if_neg (by omega), hv]
                have g1 : ¬ (h ≠ -1) := fun g => g hh
                have g2 : ¬ (16 ≤ kd x ∨ kd x = 8 ∧ v = 0 ∨ kd x = 7 ∧ v ≠ 0) := by
                  rintro (g | g)
                  · omega
                  · exact gd g
                simp only [if_neg g1]
                rw [if_neg g2, ← q3, hv2]
              have f4 := (f2.tr a5).tr (b2.wk (l' := [92, 93, 98]) (js' := [55, 59, 60]) (by decide) (by decide))
              refine ⟨fun hh2 m5 d1 d2 => ?_, fun hh2 m5 d1 d2 d3 d4 d5 => ?_⟩
              · rw [if_pos hh2] at hev
                exact (hQ _ _ _ _ hev).1 hh2 m5 d1 (f4.tr d2)
              · rw [if_neg (fun g => g hh2)] at hev
                have hE5 := hE4.fm d5 (by decide)
                have x92' : m5 92 x = nI 2 := d3
                have nz' : ¬ m5 92 x = 0 := by rw [x92']; decide
                have nz1 : ¬ m5 92 x = 1 := by rw [x92']; decide
                have c1'' : m5 82 x = nI (kd x) := (hE5.1.2.1 x hx).1
                have gofin : ∀ r m6, p_M m6 (r :: st) → z_fm [98] [55] m5 m6 → ¬ ((kd x = 14 ∨ kd x = 15) ∧ v2 = 0) → r = z_ap (kd x) v v2 → z_eM m6 N kd tk sz up tv ks ∧ z_af X Q N kd up x (-1) m6 := fun r m6 e1 e2 e3 e4 => by
                  have hE6 := hE5.fm e2 (by decide)
                  refine ⟨hE6, Or.inr (Or.inr (Or.inl ⟨rfl, ?_⟩))⟩
                  rw [e4] at e1
                  rw [if_neg e3] at hev
                  refine fin _ k2 s2 m6 hev (q_M_fm d1 e2 (by decide) (by decide) (by decide)) e1 ?_ (fun y hy1 hy2 => ?_) ((f4.tr d5).tr (e2.wk (by decide) (by decide)))
                  · rw [e2.1 92 (by decide) (by decide), (d4 (up x) (Or.inl (by omega)) (by omega)).1, b2.1 92 (by decide) (by decide), (a4 (up x) (Or.inl (by omega)) (by omega)).1]
                    exact h92u
                  · rw [e2.1 92 (by decide) (by decide), e2.1 93 (by decide) (by decide), (d4 y (by omega) (by omega)).1, (d4 y (by omega) (by omega)).2, b2.1 92 (by decide) (by decide), b2.1 93 (by decide) (by decide), (a4 y (by omega) (by omega)).1, (a4 y (by omega) (by omega)).2]
                    exact hout y hy1 hy2
                by_cases c8 : kd x ≤ 8
                · rw [if_pos c8] at b3
                  subst b3
                  refine s_M_gt hE5 hx (by omega) (by omega) (s_M_advk (by omega) c1'' c6 (by omega) (by omega) (fun g => by omega) (fun g => by omega) (fun g => by omega) (fun g => by omega) (fun g => by omega) (fun g78 => ?_) (fun g => by omega) (fun g => by omega) (fun g => by omega) (fun g => by omega) (fun g1 g2 => by omega))
                  refine s_M_logic (by omega) g78 (fun g => absurd g nz') (fun g => absurd g nz1) (fun _ _ => ?_)
                  refine s_M_pop d2 (by omega) (fun m6 e1 e2 => s_M_push e1 (by omega) (fun m7 e3 e4 => gofin _ m7 e3 (e2.tr e4) (by omega) ?_))
                  unfold z_ap
                  rw [if_pos c8]
                · rw [if_neg c8] at b3
                  subst b3
                  refine s_M_gt hE5 hx (by omega) (by omega) (s_M_advk (by omega) c1'' c6 (by omega) (by omega) (fun g => by omega) (fun g => by omega) (fun g => by omega) (fun g => by omega) (fun g => by omega) (fun g78 => by omega) (fun g => by omega) (fun g => by omega) (fun g => by omega) (fun g => by omega) (fun g1 g2 => ⟨fun g => absurd g nz', fun _ => ⟨fun g => absurd g nz1, fun _ => ?_⟩⟩))
                  refine s_M_joinTwo g1 g2 d2 (by omega) (fun gn m6 e1 e2 => gofin _ m6 e1 e2 gn ?_) (fun ga gb m6 e2 => ⟨hE5.fm e2 (by decide), Or.inr (Or.inl ⟨rfl, ?_⟩)⟩)
                  · unfold z_ap
                    rw [if_neg c8, if_pos g2]
                  · rw [if_pos ⟨ga, gb⟩] at hev
                    exact (hQ _ _ _ _ hev).1 (by decide) m6 (q_M_fm d1 e2 (by decide) (by decide) (by decide)) ((f4.tr d5).tr (e2.wk (by decide) (by decide)))
            have l87 : m3 87 x = nI b := (hE3.1.2.2 x hx).2.2.1 b (by rw [ek]; rfl)
            by_cases c8 : kd x ≤ 8
            · refine s_M_gt hE3 hx (by omega) (by omega) (s_M_advk (by omega) c1' c6 (by omega) (by omega) (fun g => by omega) (fun g => by omega) (fun g => by omega) (fun g => by omega) (fun g => by omega) (fun g78 => ?_) (fun g => by omega) (fun g => by omega) (fun g => by omega) (fun g => by omega) (fun g1 g2 => by omega))
              refine s_M_logic (by omega) g78 (fun g => absurd g nz) (fun _ => ?_) (fun _ g => absurd x92 g)
              refine s_M_pop a2 (by omega) (fun m4 b1 b2 => ⟨by rw [b2.1 82 (by decide) (by decide)]; exact c1', fun gd => ?_, fun gd => ?_⟩)
              · have hev : z_ev kd sz tv (d + 1) x (k + 1) s = (-1, z_ap (kd x) 0 v, k', s') := by
                  simp only [z_ev]
                  rw [if_neg (by omega), if_neg (by omega), hv]
                  have : ¬ (h ≠ -1) := fun g => g hh
                  simp only [if_neg this]
                  exact if_pos (Or.inr gd)
                refine s_M_push b1 (by omega) (fun m5 b3 b4 => ?_)
                have e2 := b2.tr b4
                refine ⟨hE3.fm e2 (by decide), Or.inr (Or.inr (Or.inl ⟨rfl, ?_⟩))⟩
                have ez : z_ap (kd x) 0 v = z_calc 12 0 v := by unfold z_ap; rw [if_pos c8]
                rw [← ez] at b3
                refine fin _ k' s' m5 hev (q_M_fm a1 e2 (by decide) (by decide) (by decide)) b3 ?_ (fun y hy1 hy2 => ?_) ((f2.tr a5).tr (e2.wk (by decide) (by decide)))
                · rw [e2.1 92 (by decide) (by decide), (a4 (up x) (Or.inl (by omega)) (by omega)).1]
                  exact h92u
                · rw [e2.1 92 (by decide) (by decide), e2.1 93 (by decide) (by decide), (a4 y (by omega) (by omega)).1, (a4 y (by omega) (by omega)).2]
                  exact hout y hy1 hy2
              · refine ⟨hE3.fm b2 (by decide), Or.inr (Or.inr (Or.inr ⟨b, q5, ?_, second m4 st b1 (by omega) b2 gd (by rw [if_pos c8])⟩))⟩
                rw [b2.1 87 (by decide) (by decide)]
                exact l87
            · refine s_M_gt hE3 hx (by omega) (by omega) (s_M_advk (by omega) c1' c6 (by omega) (by omega) (fun g => by omega) (fun g => by omega) (fun g => by omega) (fun g => by omega) (fun g => by omega) (fun g78 => by omega) (fun g => by omega) (fun g => by omega) (fun g => by omega) (fun g => by omega) (fun g1 g2 => ⟨fun g => absurd g nz, fun _ => ⟨fun _ => ?_, fun g => absurd x92 g⟩⟩))
              exact ⟨hE3, Or.inr (Or.inr (Or.inr ⟨b, q5, l87, second m3 (v :: st) a2 (by simp only [List.length_cons]; omega) (z_fm.rf _ _ _) (by omega) (by rw [if_neg c8])⟩))⟩
        have zz : m2 92 x = 0 := h92x
        have go : z_eM m2 N kd tk sz up tv ks ∧ z_af X Q N kd up x (m2 86 x) m2 := ⟨hE2, Or.inr (Or.inr (Or.inr ⟨x + 1, q2, l86, hE1⟩))⟩
        refine s_M_gt hE2 hx (by omega) (by omega) (s_M_advk (by omega) c1 c6 (by omega) (by omega) (fun g => by omega) (fun g => by omega) (fun g => by omega) (fun g => by omega) (fun g => by omega) (fun g78 => s_M_logic (by omega) g78 (fun _ => go) (fun g => absurd (zz.symm.trans g) (by decide)) (fun g => absurd zz g)) (fun g => by omega) (fun g => by omega) (fun g => by omega) (fun g => by omega) (fun g1 g2 => ⟨fun _ => go, fun g => absurd zz g⟩))
      · -- a leaf
        have t1 : mz_inb (m2 83 x) 4001 = true := by rw [c2]; exact mz_inbN (by omega) (by decide)
        refine s_M_gt hE2 hx (by omega) (by omega) (s_M_advk (by omega) c1 c6 (by omega) (by omega) (fun g => by omega) (fun g => by omega) (fun g => by omega) (fun g => by omega) (fun g => by omega) (fun g => by omega) (fun g => by omega) (fun g => by omega) (fun g18 => ?_) (fun g19 => ?_) (fun g1 g2 => by omega))
        · obtain ⟨q, hq32, eq⟩ := b2 x hx (Or.inl g18)
          rw [c2, nI_clamp (by omega), c4, eq, nI_clamp (by omega)]
          refine ⟨mz_inbN (by omega) (by decide), mz_inbN hq32 (by decide), s_M_push hp2 (by omega) (fun m3 a1 a2 => ⟨hE2.fm a2 (by decide), Or.inr (Or.inr (Or.inl ⟨rfl, ?_⟩))⟩)⟩
          have hev : z_ev kd sz tv (d + 1) x (k + 1) s = (-1, m2 97 q, k, z_beg s (nI x)) := by
            simp only [z_ev]; rw [if_pos g18, eq, nI_clamp (by omega), hq2.2.2.2.2.2.2]; rfl
          exact fin _ k _ m3 hev (q_M_fm hq2 a2 (by decide) (by decide) (by decide)) a1 (by rw [a2.1 92 (by decide) (by decide)]; exact h92u) (fun y hy1 hy2 => by rw [a2.1 92 (by decide) (by decide), a2.1 93 (by decide) (by decide)]; exact hout y hy1 hy2) (f2.tr (a2.wk (by decide) (by decide)))
        · rw [c2, nI_clamp (by omega), c4]
          refine ⟨mz_inbN (by omega) (by decide), s_M_push hp2 (by omega) (fun m3 a1 a2 => ⟨hE2.fm a2 (by decide), Or.inr (Or.inr (Or.inl ⟨rfl, ?_⟩))⟩)⟩
          have hev : z_ev kd sz tv (d + 1) x (k + 1) s = (-1, tv x, k, z_beg s (nI x)) := by
            simp only [z_ev]; rw [if_neg (by omega), if_pos g19]
          exact fin _ k _ m3 hev (q_M_fm hq2 a2 (by decide) (by decide) (by decide)) a1 (by rw [a2.1 92 (by decide) (by decide)]; exact h92u) (fun y hy1 hy2 => by rw [a2.1 92 (by decide) (by decide), a2.1 93 (by decide) (by decide)]; exact hout y hy1 hy2) (f2.tr (a2.wk (by decide) (by decide)))
    · have hk0 : k = 0 := by omega
      subst hk0
      have hev : z_ev kd sz tv (d + 1) x 0 s = (1, 0, 0, s) := by simp only [z_ev]
      exact (hQ _ _ _ _ hev).1 (by decide) m (by rw [show F - 0 = F by omega] at hq ⊢; exact hq) (z_fm.rf _ _ _)
