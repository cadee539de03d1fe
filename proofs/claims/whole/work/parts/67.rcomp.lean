/-! the reference's compile: every exp -/
theorem z_pg.kd2 {f : Nat → Nat × Int32 × Nat} {lo hi a b w s w' c d : Nat} {E E2 : List Nat} {O0 V0 P0 A0 O V P A O' V' P' A' : Nat → Int32} (h : z_pg f lo hi a b w E O0 V0 P0 A0 O V P A) (h2 : z_pg f s w' c d w' E2 O V P A O' V' P' A') (hs : s = w) (hw : w' ≤ hi) (h3 : a ≤ c) (h4 : d ≤ b) : z_pg f lo hi a b w' (E2 ++ E) O0 V0 P0 A0 O' V' P' A' := by
  subst hs
  exact h.kid h2 hw h3 h4
theorem z_ct.w {m0 m : mz_M} {w w' : Nat} {O V P C A B : Nat → Int32} (h : z_ct m0 m w O V P C A B) (e : w = w') : z_ct m0 m w' O V P C A B := e ▸ h
theorem z_pg.w {f : Nat → Nat × Int32 × Nat} {lo hi a b w w' : Nat} {E : List Nat} {O0 V0 P0 A0 O V P A : Nat → Int32} (h : z_pg f lo hi a b w E O0 V0 P0 A0 O V P A) (e : w = w') : z_pg f lo hi a b w' E O0 V0 P0 A0 O V P A := e ▸ h
theorem s_M_CE {X : mz_X} {f : Nat → Nat × Int32 × Nat} {m0 : mz_M} {N : Nat} {kd tk sz ht up wc st bs lp : Nat → Nat} {tv : Nat → Int32} {ks : Nat → List Nat} (hp : z_pre N kd sz ht up ks) (hc : z_cd N kd ks wc st bs) (hM : z_hM m0 N kd tk sz up tv ks) (hf : ∀ i, i < N → ∀ p e, (p, e) ∈ z_wl kd ks wc st bs lp tv i → f p = e) (hb : ∀ x, x < N → st x + wc x ≤ 8000) : ∀ (n x : Nat), N - x ≤ n → x < N → 7 ≤ kd x → z_CE X f m0 st wc sz x := by
  intro n
  induction n with
  | zero => intro x h1 h2; omega
  | succ n ih =>
    intro x h1 hx hk Q m O V P C A B h hP hQ
    have hM' := hM
    obtain ⟨n1, n2, n3⟩ := hM'
    obtain ⟨c1, c2, c3, c4, c5, c6, c7⟩ := n2 x hx
    have hbx := hb x hx
    have hwx := hc.1 x hx
    rcases z_cases hp hx with ⟨k, _⟩ | ⟨k, e, k1, k2⟩ | ⟨k, l, e, _⟩ | ⟨k, l, l2, e, _⟩ | ⟨k, l, e, _⟩ | ⟨k, e⟩ | ⟨k, b, e, k1, k2, k3, k4⟩ | ⟨k, e⟩
    · omega
    · obtain ⟨q1, q2, q3, q4, q5, q6, q7⟩ := z_k1 hp hc hx e
      have ho : z_ow (kd x) 1 = 1 := by unfold z_ow; rcases k with k | k | k | k <;> rw [k] <;> rfl
      have s1 := (hp.2.2.2.2.1 (x + 1) q2).1
      refine s_M_first hM hx e q2 q6 (by omega) s1 q4 (by omega) hbx (ih (x + 1) (by omega) q2 (by omega)) h hP (fun m' O' V' P' C' A' B' h' pg' e1 g => ?_)
      rcases g with g | ⟨_, rfl, rfl⟩
      · omega
      · rw [(n3 (x + 1) q2).2.2.2.1, if_neg (by omega), q6, if_pos q3]
        exact s_M_last hp hc hM hf hx (by omega) hbx (by omega) h' pg' (fun m2 O2 V2 h2 pg2 => hQ m2 O2 V2 P' A' h2 pg2)
    · omega
    · omega
    · omega
    · omega
    · obtain ⟨q1, q2, q3, q4, q5, q6, q7, q8, q9, q10, q11, q12, q13⟩ := z_k2 hp hc hx e
      have s1 := (hp.2.2.2.2.1 (x + 1) q2).1
      have s2 := (hp.2.2.2.2.1 b q5).1
      refine s_M_first hM hx e q2 q10 (by omega) s1 q7 (by omega) hbx (ih (x + 1) (by omega) q2 (by omega)) h hP (fun m' O' V' P' C' A' B' h' pg' e1 g => ?_)
      rcases g with g | ⟨_, rfl, rfl⟩
      · omega
      rw [(n3 (x + 1) q2).2.2.2.1, if_neg (by omega), q10, if_neg (by omega), ← q3]
      have l89 : m0 89 b = nI x := by rw [(n3 b q5).2.2.2.2, if_neg (by omega), q11]
      have l88 : m0 88 b = -1 := by rw [(n3 b q5).2.2.2.1, if_neg (by omega), q11, if_pos q6]
      have k3' : kd x = 7 ∨ kd x = 8 ∨ (9 ≤ kd x ∧ kd x ≤ 15) := by omega
      have hbe : 7 ≤ kd b := k3
      rcases k3' with k' | k' | k'
      · have ho : z_ow (kd x) 2 = 4 := by rw [k']; rfl
        have hbb : z_wb (kd x) = 3 := by rw [k']; rfl
        have hz : z_wl kd ks wc st bs lp tv x = [(st (x + 1) + wc (x + 1), 14, nI (st (x + 1) + wc (x + 1) + 3), bs x + 1), (st (x + 1) + wc (x + 1) + 1, 0, 1, bs x), (st (x + 1) + wc (x + 1) + 2, 13, nI (st x + wc x), bs x + 1), (st x + wc x - 1, 12, 0, bs x + 1)] := by simp [z_wl, k']
        have f1 := hf x hx (st (x + 1) + wc (x + 1)) (14, nI (st (x + 1) + wc (x + 1) + 3), bs x + 1) (by rw [hz]; simp)
        have f2 := hf x hx (st (x + 1) + wc (x + 1) + 1) (0, 1, bs x) (by rw [hz]; simp)
        have f3 := hf x hx (st (x + 1) + wc (x + 1) + 2) (13, nI (st x + wc x), bs x + 1) (by rw [hz]; simp)
        have f4 := hf x hx (st x + wc x - 1) (12, 0, bs x + 1) (by rw [hz]; simp)
        refine s_M_dn (k := 1) (kk := kd x) (a := 0) h' (by omega) (by omega) e1 c1 c6 (by decide) (by omega) (fun g => by omega) (fun m2 w2 O2 V2 C2 A2 B2 h2 g0 g1 g2 g3 => ?_)
        obtain ⟨rfl, rfl, g⟩ := g1 rfl
        rcases g with g | ⟨_, rfl, rfl, rfl, rfl⟩ | g
        · omega
        · have pg2 := ((((((pg'.addp 14 (v := 0) (by rw [f1]) (by omega)).add f2 (by omega)).addp 13 (v := 0) (by rw [f3]) (by omega)).perm (E' := [st (x + 1) + wc (x + 1), st (x + 1) + wc (x + 1) + 2]) (by simp)).fix (v := nI (st (x + 1) + wc (x + 1) + 3)) (by rw [f1]) (by omega) (by omega)).uA (i := x) (nI (st (x + 1) + wc (x + 1) + 2)) (Nat.le_refl _) (by omega)).uP (i := x) (nI (1 + 1)) (Nat.le_refl _) (by omega)
          have pg3 := pg2.uP (i := b) 0 (by omega) (by omega)
          refine ih b (by omega) q5 hbe Q m2 _ _ _ C2 _ B2 (h2.w (by omega)) (by simp [upd]) (fun m3 O3 V3 P3 A3 h3 p3 => ?_)
          have pg4 := pg3.kd2 p3 (by omega) (by omega) (by omega) (by omega)
          have eA : A3 x = nI (st (x + 1) + wc (x + 1) + 2) := by
            rw [p3.2.2.2.1 x (Or.inl (by omega))]; simp [upd]
          rw [l89, l88]
          have e82 : m3 82 x = nI (kd x) := by rw [h3.1 82 (by decide)]; exact c1
          refine s_M_lv0 (by omega) (s_M_lvk (by omega) e82 c6 (fun g => by omega) (fun g => by omega) (fun g => by omega) (fun g => by omega) (fun g => by omega) (fun g => by omega) (fun g => by omega) (fun _ => ?_) (fun g => by omega) (fun g1 g2 => by omega) (fun g => by omega) (fun g => by omega))
          refine s_M_emit h3 (by omega) (fun m4 h4 => ?_)
          rw [h4.2.2.2.2.2.2.2.1, eA, h4.2.2.1, nI_clamp (by omega)]
          refine ⟨mz_inbN (by omega) (by decide), ?_⟩
          have h5 := h4.u91 (st (x + 1) + wc (x + 1) + 2) (nI (st b + wc b + 1))
          rw [h5.1 89 (by decide), h5.1 88 (by decide)]
          rw [show st x + wc x - 1 = st b + wc b by omega] at f4
          have pg5 := (pg4.add f4 (by omega)).fix (v := nI (st b + wc b + 1)) (by rw [f3]; congr 1; omega) (by omega) (by omega)
          exact hQ _ _ _ _ _ (h5.w (by omega)) (pg5.w (by omega))
        · omega
      · have ho : z_ow (kd x) 2 = 4 := by rw [k']; rfl
        have hbb : z_wb (kd x) = 1 := by rw [k']; rfl
        have hz : z_wl kd ks wc st bs lp tv x = [(st (x + 1) + wc (x + 1), 14, nI (st x + wc x - 1), bs x + 1), (st x + wc x - 3, 12, 0, bs x + 1), (st x + wc x - 2, 13, nI (st x + wc x), bs x + 1), (st x + wc x - 1, 0, 0, bs x)] := by simp [z_wl, k']
        have f1 := hf x hx (st (x + 1) + wc (x + 1)) (14, nI (st x + wc x - 1), bs x + 1) (by rw [hz]; simp)
        have f2 := hf x hx (st x + wc x - 3) (12, 0, bs x + 1) (by rw [hz]; simp)
        have f3 := hf x hx (st x + wc x - 2) (13, nI (st x + wc x), bs x + 1) (by rw [hz]; simp)
        have f4 := hf x hx (st x + wc x - 1) (0, 0, bs x) (by rw [hz]; simp)
        rw [show st x + wc x - 3 = st b + wc b by omega] at f2
        rw [show st x + wc x - 2 = st b + wc b + 1 by omega] at f3
        rw [show st x + wc x - 1 = st b + wc b + 2 by omega] at f4
        refine s_M_dn (k := 1) (kk := kd x) (a := 0) h' (by omega) (by omega) e1 c1 c6 (by decide) (by omega) (fun g => by omega) (fun m2 w2 O2 V2 C2 A2 B2 h2 g0 g1 g2 g3 => ?_)
        obtain ⟨rfl, rfl, g⟩ := g1 rfl
        rcases g with ⟨_, rfl, rfl, rfl, rfl⟩ | g | g
        · have pg2 := ((pg'.addp 14 (v := 0) (by rw [f1]) (by omega)).uA (i := x) (nI (st (x + 1) + wc (x + 1))) (Nat.le_refl _) (by omega)).uP (i := x) (nI (1 + 1)) (Nat.le_refl _) (by omega)
          have pg3 := pg2.uP (i := b) 0 (by omega) (by omega)
          refine ih b (by omega) q5 hbe Q m2 _ _ _ C2 _ B2 (h2.w (by omega)) (by simp [upd]) (fun m3 O3 V3 P3 A3 h3 p3 => ?_)
          have pg4 := pg3.kd2 p3 (by omega) (by omega) (by omega) (by omega)
          have eA : A3 x = nI (st (x + 1) + wc (x + 1)) := by
            rw [p3.2.2.2.1 x (Or.inl (by omega))]; simp [upd]
          rw [l89, l88]
          have e82 : m3 82 x = nI (kd x) := by rw [h3.1 82 (by decide)]; exact c1
          refine s_M_lv0 (by omega) (s_M_lvk (by omega) e82 c6 (fun g => by omega) (fun g => by omega) (fun g => by omega) (fun g => by omega) (fun g => by omega) (fun g => by omega) (fun g => by omega) (fun g => by omega) (fun _ => ?_) (fun g1 g2 => by omega) (fun g => by omega) (fun g => by omega))
          refine s_M_bA h3 (by omega) (by omega) eA (by omega) (fun m4 h4 => ?_)
          rw [h4.1 89 (by decide), h4.1 88 (by decide)]
          have pg5 := ((((((pg4.add f2 (by omega)).addp 13 (v := 0) (by rw [f3]) (by omega)).perm (E' := [st (x + 1) + wc (x + 1), st b + wc b + 1]) (by simp)).fix (v := nI (st b + wc b + 2)) (by rw [f1]; congr 1; omega) (by omega) (by omega)).add f4 (by omega)).fix (v := nI (st b + wc b + 3)) (by rw [f3]; congr 1; omega) (by omega) (by omega))
          exact hQ _ _ _ _ _ (h4.w (by omega)) (pg5.w (by omega))
        · omega
        · omega
      · have ho : z_ow (kd x) 2 = 1 := by
          unfold z_ow
          rw [if_neg (by omega), if_neg (by omega), if_neg (by omega), if_neg (by omega), if_neg (by omega)]
        have hbb : z_wb (kd x) = 0 := by
          unfold z_wb
          rw [if_neg (by omega), if_neg (by omega), if_neg (by omega), if_neg (by omega)]
        refine s_M_dn (k := 1) (kk := kd x) (a := 0) h' (by omega) (by omega) e1 c1 c6 (by decide) (by omega) (fun g => by omega) (fun m2 w2 O2 V2 C2 A2 B2 h2 g0 g1 g2 g3 => ?_)
        obtain ⟨rfl, rfl, g⟩ := g1 rfl
        rcases g with g | g | ⟨_, rfl, rfl, rfl, rfl⟩
        · omega
        · omega
        · have pg2 := (pg'.uP (i := x) (nI (1 + 1)) (Nat.le_refl _) (by omega)).uP (i := b) 0 (by omega) (by omega)
          refine ih b (by omega) q5 hbe Q m2 _ _ _ C2 _ B2 (h2.w (by omega)) (by simp [upd]) (fun m3 O3 V3 P3 A3 h3 p3 => ?_)
          have pg3 := pg2.kd2 p3 (by omega) (by omega) (by omega) (by omega)
          rw [l89, l88]
          exact s_M_last hp hc hM hf hx (by omega) hbx (by omega) h3 pg3 (fun m4 O4 V4 h4 pg4 => hQ m4 O4 V4 P3 A3 h4 pg4)
    · have ho : wc x = 1 := by
        rw [hwx, e]
        rcases k with k | k <;> rw [k] <;> rfl
      rw [(n3 x hx).1, if_pos e]
      exact s_M_last hp hc hM hf hx (by omega) hbx (by omega) h (z_pg.start (by omega)) (fun m' O' V' h' pg' => hQ m' O' V' P A h' pg')
