/-! the reference's compile: IF and WHILE; every statement -/
theorem s_M_CS3a {X : mz_X} {f : Nat → Nat × Int32 × Nat} {m0 : mz_M} {N x l : Nat} {kd tk sz ht up wc st bs lp : Nat → Nat} {tv : Nat → Int32} {ks : Nat → List Nat} (hp : z_pre N kd sz ht up ks) (hc : z_cd N kd ks wc st bs) (hl : z_lps N kd lp ks) (hM : z_hM m0 N kd tk sz up tv ks) (hf : ∀ i, i < N → ∀ p e, (p, e) ∈ z_wl kd ks wc st bs lp tv i → f p = e) (hb : ∀ x, x < N → st x + wc x ≤ 8000) (hx : x < N) (k : kd x = 3) (e : ks x = [x + 1, l]) (hE : z_CE X f m0 st wc sz (x + 1)) (hS : z_CS X f m0 st wc sz lp l) : z_CS X f m0 st wc sz lp x := by
  intro Q m O V P C A B L h hP hL hQ
  have hM' := hM
  obtain ⟨n1, n2, n3⟩ := hM'
  obtain ⟨c1, c2, c3, c4, c5, c6, c7⟩ := n2 x hx
  have hbx := hb x hx
  obtain ⟨q1, q2, q3, q4, q5, q6, q7, q8, q9, q10, q11, q12, q13⟩ := z_k2 hp hc hx e
  have s1 := (hp.2.2.2.2.1 (x + 1) q2).1
  have s2 := (hp.2.2.2.2.1 l q5).1
  have ho : z_ow (kd x) 2 = 1 := by rw [k]; rfl
  have hbb : z_wb (kd x) = 1 := by rw [k]; rfl
  have hz : z_wl kd ks wc st bs lp tv x = [(st (x + 1) + wc (x + 1), 14, nI (st x + wc x), 1)] := by simp [z_wl, k, e]
  have f1 := hf x hx (st (x + 1) + wc (x + 1)) (14, nI (st x + wc x), 1) (by rw [hz]; simp)
  have hlpl : lp l = lp x := by
    have := hl.2.1 x hx (Or.inr (Or.inl k)) l (by rw [e]; simp)
    rw [if_neg (by omega)] at this
    exact this
  refine s_M_first hM hx e q2 q10 (by omega) s1 q7 (by omega) hbx hE h hP (fun m' O' V' P' C' A' B' h' pg' e1 g => ?_)
  rcases g with g | ⟨_, rfl, rfl⟩
  · omega
  rw [(n3 (x + 1) q2).2.2.2.1, if_neg (by omega), q10, if_neg (by omega), ← q3]
  have l89 : m0 89 l = nI x := by rw [(n3 l q5).2.2.2.2, if_neg (by omega), q11]
  have l88 : m0 88 l = -1 := by rw [(n3 l q5).2.2.2.1, if_neg (by omega), q11, if_pos q6]
  refine s_M_dn (k := 1) (kk := kd x) (a := 0) h' (by omega) (by omega) e1 c1 c6 (by decide) (by omega) (fun g => by omega) (fun m2 w2 O2 V2 C2 A2 B2 h2 g0 g1 g2 g3 => ?_)
  obtain ⟨rfl, rfl, g⟩ := g1 rfl
  rcases g with ⟨_, rfl, rfl, rfl, rfl⟩ | g | g
  · have pg2 := ((pg'.addp 14 (v := 0) (by rw [f1]) (by omega)).uA (i := x) (nI (st (x + 1) + wc (x + 1))) (Nat.le_refl _) (by omega)).uP (i := x) (nI (1 + 1)) (Nat.le_refl _) (by omega)
    have pg3 := pg2.uP (i := l) 0 (by omega) (by omega)
    refine hS Q m2 _ _ _ C2 _ B2 L (h2.w (by omega)) (by simp [upd]) (fun g => ?_) (fun m3 O3 V3 P3 C3 A3 B3 L3 h3 p3 l4 l5 l6 => ?_)
    · rw [hlpl] at g ⊢
      exact ⟨((hL g).1.keep (fun q hq => pg3.2.1 q (Or.inl hq))).wk (by omega), (hL g).2⟩
    · rw [hlpl] at l4 l5 l6
      have pg4 := pg3.kd2 p3 (by omega) (by omega) (by omega) (by omega)
      have eA : A3 x = nI (st (x + 1) + wc (x + 1)) := by
        rw [p3.2.2.2.1 x (Or.inl (by omega))]; simp [upd]
      rw [l89, l88]
      have e82 : m3 82 x = nI (kd x) := by rw [h3.1 82 (by decide)]; exact c1
      have e84 : m3 84 x = nI 2 := by rw [h3.1 84 (by decide), c5, e]; rfl
      refine s_M_lv0 (by omega) (s_M_lvk (by omega) e82 c6 (fun g => by omega) (fun g => by omega) (fun g => by omega) (fun _ => ⟨fun g => absurd (e84.symm.trans g) (by decide), fun _ => ?_⟩) (fun g => by omega) (fun g => by omega) (fun g => by omega) (fun g => by omega) (fun g => by omega) (fun g1 g2 => by omega) (fun g => by omega) (fun g => by omega))
      rw [h3.2.2.2.2.2.2.2.1, eA, h3.2.2.1, nI_clamp (by omega)]
      refine ⟨mz_inbN (by omega) (by decide), ?_⟩
      have h5 := h3.u91 (st (x + 1) + wc (x + 1)) (nI (st l + wc l))
      rw [h5.1 89 (by decide), h5.1 88 (by decide)]
      have pg5 := (pg4.perm (E' := (st (x + 1) + wc (x + 1)) :: L3) (fun p hp => by
        rcases List.mem_append.mp hp with g | g
        · exact List.mem_cons_of_mem _ g
        · rw [List.mem_singleton.mp g]; exact List.mem_cons_self)).fix (v := nI (st l + wc l)) (by rw [f1]; congr 1; omega) (by omega) (by omega)
      refine hQ _ _ _ _ _ _ _ L3 (h5.w (by omega)) (pg5.w (by omega)) (fun p hp => ?_) (fun g => ?_) (fun y hy => l6 y (by omega))
      · have := l4 p hp
        exact ⟨this.1, this.2.1, by omega, by omega⟩
      · refine ((l5 g).keepM (fun q hq => ?_)).wk (by omega)
        have hne : q ≠ st (x + 1) + wc (x + 1) := by
          rcases List.mem_append.mp hq with g' | g'
          · have := (l4 q g').2.2.1
            omega
          · have := (hL g).1.lt q g'
            omega
        simp [upd, hne]
  · omega
  · omega
theorem s_M_CS3b {X : mz_X} {f : Nat → Nat × Int32 × Nat} {m0 : mz_M} {N x l l2 : Nat} {kd tk sz ht up wc st bs lp : Nat → Nat} {tv : Nat → Int32} {ks : Nat → List Nat} (hp : z_pre N kd sz ht up ks) (hc : z_cd N kd ks wc st bs) (hl : z_lps N kd lp ks) (hM : z_hM m0 N kd tk sz up tv ks) (hf : ∀ i, i < N → ∀ p e, (p, e) ∈ z_wl kd ks wc st bs lp tv i → f p = e) (hb : ∀ x, x < N → st x + wc x ≤ 8000) (hx : x < N) (k : kd x = 3) (e : ks x = [x + 1, l, l2]) (hE : z_CE X f m0 st wc sz (x + 1)) (hS : z_CS X f m0 st wc sz lp l) (hS2 : z_CS X f m0 st wc sz lp l2) : z_CS X f m0 st wc sz lp x := by
  intro Q m O V P C A B L h hP hL hQ
  have hM' := hM
  obtain ⟨n1, n2, n3⟩ := hM'
  obtain ⟨c1, c2, c3, c4, c5, c6, c7⟩ := n2 x hx
  have hbx := hb x hx
  obtain ⟨q1, q2, q3, q4, q5, q6, q7, q8, q9, q10, q11, q12, q13, q14, q15, q16⟩ := z_k3 hp hc hx e
  have s1 := (hp.2.2.2.2.1 (x + 1) q2).1
  have s2 := (hp.2.2.2.2.1 l q5).1
  have s3 := (hp.2.2.2.2.1 l2 q8).1
  have ho : z_ow (kd x) 3 = 2 := by rw [k]; rfl
  have hbb : z_wb (kd x) = 1 := by rw [k]; rfl
  have hz : z_wl kd ks wc st bs lp tv x = [(st (x + 1) + wc (x + 1), 14, nI (st l + wc l + 1), 1), (st l + wc l, 13, nI (st x + wc x), 0)] := by simp [z_wl, k, e]
  have f1 := hf x hx (st (x + 1) + wc (x + 1)) (14, nI (st l + wc l + 1), 1) (by rw [hz]; simp)
  have f2 := hf x hx (st l + wc l) (13, nI (st x + wc x), 0) (by rw [hz]; simp)
  have hlpl : lp l = lp x := by
    have := hl.2.1 x hx (Or.inr (Or.inl k)) l (by rw [e]; simp)
    rw [if_neg (by omega)] at this
    exact this
  have hlpl2 : lp l2 = lp x := by
    have := hl.2.1 x hx (Or.inr (Or.inl k)) l2 (by rw [e]; simp)
    rw [if_neg (by omega)] at this
    exact this
  have hlw : 0 < lp x → lp x - 1 < x := fun g => (z_lpw hp hl x x (Nat.le_refl _) hx (by omega) g).1
  refine s_M_first hM hx e q2 q14 (by omega) s1 q10 (by omega) hbx hE h hP (fun m' O' V' P' C' A' B' h' pg' e1 g => ?_)
  rcases g with g | ⟨_, rfl, rfl⟩
  · omega
  rw [(n3 (x + 1) q2).2.2.2.1, if_neg (by omega), q14, if_neg (by omega), ← q3]
  have l89 : m0 89 l = nI x := by rw [(n3 l q5).2.2.2.2, if_neg (by omega), q15]
  have l88 : m0 88 l = nI l2 := by rw [(n3 l q5).2.2.2.1, if_neg (by omega), q15, if_neg (by omega), ← q6]
  have l289 : m0 89 l2 = nI x := by rw [(n3 l2 q8).2.2.2.2, if_neg (by omega), q16]
  have l288 : m0 88 l2 = -1 := by rw [(n3 l2 q8).2.2.2.1, if_neg (by omega), q16, if_pos q9]
  refine s_M_dn (k := 1) (kk := kd x) (a := 0) h' (by omega) (by omega) e1 c1 c6 (by decide) (by omega) (fun g => by omega) (fun m2 w2 O2 V2 C2 A2 B2 h2 g0 g1 g2 g3 => ?_)
  obtain ⟨rfl, rfl, g⟩ := g1 rfl
  rcases g with ⟨_, rfl, rfl, rfl, rfl⟩ | g | g
  · have pg2 := ((pg'.addp 14 (v := 0) (by rw [f1]) (by omega)).uA (i := x) (nI (st (x + 1) + wc (x + 1))) (Nat.le_refl _) (by omega)).uP (i := x) (nI (1 + 1)) (Nat.le_refl _) (by omega)
    have pg3 := pg2.uP (i := l) 0 (by omega) (by omega)
    refine hS Q m2 _ _ _ C2 _ B2 L (h2.w (by omega)) (by simp [upd]) (fun g => ?_) (fun m3 O3 V3 P3 C3 A3 B3 L3 h3 p3 l4 l5 l6 => ?_)
    · rw [hlpl] at g ⊢
      exact ⟨((hL g).1.keep (fun q hq => pg3.2.1 q (Or.inl hq))).wk (by omega), (hL g).2⟩
    · rw [hlpl] at l4 l5 l6
      have pg4 := pg3.kd2 p3 (by omega) (by omega) (by omega) (by omega)
      have eA : A3 x = nI (st (x + 1) + wc (x + 1)) := by
        rw [p3.2.2.2.1 x (Or.inl (by omega))]; simp [upd]
      have eP : P3 x = nI 2 := by
        rw [p3.2.2.1 x (Or.inl (by omega))]
        have : x ≠ l := by omega
        simp [upd, this]
      rw [l89, l88]
      refine s_M_dn (k := 2) (kk := kd x) (a := st (x + 1) + wc (x + 1)) h3 (by omega) (by omega) eP c1 c6 (by decide) (by omega) (fun _ _ => ⟨eA, by omega⟩) (fun m4 w4 O4 V4 C4 A4 B4 h4 g0 g1 g2 g3 => ?_)
      obtain ⟨rfl, rfl, g⟩ := g2 rfl
      rcases g with ⟨_, rfl, rfl, rfl, rfl⟩ | g
      · have pg5 := ((pg4.addp 13 (v := 0) (by rw [f2]) (by omega)).perm (E' := (st (x + 1) + wc (x + 1)) :: (st l + wc l) :: L3) (fun p hp => by
          rcases List.mem_cons.mp hp with g | g
          · rw [g]; exact List.mem_cons_of_mem _ List.mem_cons_self
          · rcases List.mem_append.mp g with g | g
            · exact List.mem_cons_of_mem _ (List.mem_cons_of_mem _ g)
            · rw [List.mem_singleton.mp g]; exact List.mem_cons_self)).fix (v := nI (st l + wc l + 1)) (by rw [f1]) (by omega) (by omega)
        have pg6 := (pg5.uP (i := x) (nI (2 + 1)) (Nat.le_refl _) (by omega)).uP (i := l2) 0 (by omega) (by omega)
        refine hS2 Q m4 _ _ _ C4 _ _ (L3 ++ L) (h4.w (by omega)) (by simp [upd]) (fun g => ?_) (fun m5 O5 V5 P5 C5 A5 B5 L5 h5 p5 l7 l8 l9 => ?_)
        · rw [hlpl2] at g ⊢
          have hlw' := hlw g
          refine ⟨((l5 g).keepM (fun q hq => ?_)).wk (by omega), ?_⟩
          · have hne : q ≠ st (x + 1) + wc (x + 1) ∧ q ≠ st l + wc l := by
              rcases List.mem_append.mp hq with g' | g'
              · have := (l4 q g').2.2
                omega
              · have := (hL g).1.lt q g'
                omega
            simp [upd, hne.1, hne.2]
          · have : lp x - 1 ≠ x := by omega
            simp only [upd, this, if_false]
            rw [(l6 (lp x - 1) (Or.inl (by omega))).2]
            exact (hL g).2
        · rw [hlpl2] at l7 l8 l9
          have pg7 := pg6.kd2 p5 (by omega) (by omega) (by omega) (by omega)
          have eB : B5 x = nI (st l + wc l) := by
            rw [(l9 x (Or.inl (by omega))).2]; simp [upd]
          rw [l289, l288]
          have e82 : m5 82 x = nI (kd x) := by rw [h5.1 82 (by decide)]; exact c1
          have e84 : m5 84 x = nI 3 := by rw [h5.1 84 (by decide), c5, e]; rfl
          refine s_M_lv0 (by omega) (s_M_lvk (by omega) e82 c6 (fun g => by omega) (fun g => by omega) (fun g => by omega) (fun _ => ⟨fun _ => ?_, fun g => absurd e84 g⟩) (fun g => by omega) (fun g => by omega) (fun g => by omega) (fun g => by omega) (fun g => by omega) (fun g1 g2 => by omega) (fun g => by omega) (fun g => by omega))
          rw [h5.2.2.2.2.2.2.2.2, eB, h5.2.2.1, nI_clamp (by omega)]
          refine ⟨mz_inbN (by omega) (by decide), ?_⟩
          have h6 := h5.u91 (st l + wc l) (nI (st l2 + wc l2))
          rw [h6.1 89 (by decide), h6.1 88 (by decide)]
          have pg8 := (pg7.perm (E' := (st l + wc l) :: (L5 ++ L3)) (fun p hp => by
            rcases List.mem_append.mp hp with g | g
            · exact List.mem_cons_of_mem _ (List.mem_append.mpr (Or.inl g))
            · rcases List.mem_cons.mp g with g | g
              · rw [g]; exact List.mem_cons_self
              · exact List.mem_cons_of_mem _ (List.mem_append.mpr (Or.inr g)))).fix (v := nI (st l2 + wc l2)) (by rw [f2]; congr 1; omega) (by omega) (by omega)
          refine hQ _ _ _ _ _ _ _ (L5 ++ L3) (h6.w (by omega)) (pg8.w (by omega)) (fun p hp => ?_) (fun g => ?_) (fun y hy => ?_)
          · rcases List.mem_append.mp hp with g | g
            · have := l7 p g
              exact ⟨this.1, this.2.1, by omega, by omega⟩
            · have := l4 p g
              exact ⟨this.1, this.2.1, by omega, by omega⟩
          · rw [List.append_assoc]
            refine ((l8 g).keepM (fun q hq => ?_)).wk (by omega)
            have hne : q ≠ st l + wc l := by
              rcases List.mem_append.mp hq with g' | g'
              · have := (l7 q g').2.2.1
                omega
              · rcases List.mem_append.mp g' with g' | g'
                · have := (l4 q g').2.2
                  omega
                · have := (hL g).1.lt q g'
                  omega
            simp [upd, hne]
          · have r1 := l9 y (by omega)
            have r2 := l6 y (by omega)
            refine ⟨fun g => (r1.1 g).trans (r2.1 g), r1.2.trans ?_⟩
            have : y ≠ x := by omega
            simp only [upd, this, if_false]
            exact r2.2
      · omega
  · omega
  · omega
theorem s_M_CS4 {X : mz_X} {f : Nat → Nat × Int32 × Nat} {m0 : mz_M} {N x l : Nat} {kd tk sz ht up wc st bs lp : Nat → Nat} {tv : Nat → Int32} {ks : Nat → List Nat} (hp : z_pre N kd sz ht up ks) (hc : z_cd N kd ks wc st bs) (hl : z_lps N kd lp ks) (hM : z_hM m0 N kd tk sz up tv ks) (hf : ∀ i, i < N → ∀ p e, (p, e) ∈ z_wl kd ks wc st bs lp tv i → f p = e) (hb : ∀ x, x < N → st x + wc x ≤ 8000) (hx : x < N) (k : kd x = 4) (e : ks x = [x + 1, l]) (hE : z_CE X f m0 st wc sz (x + 1)) (hS : z_CS X f m0 st wc sz lp l) : z_CS X f m0 st wc sz lp x := by
  intro Q m O V P C A B L h hP hL hQ
  have hM' := hM
  obtain ⟨n1, n2, n3⟩ := hM'
  obtain ⟨c1, c2, c3, c4, c5, c6, c7⟩ := n2 x hx
  have hbx := hb x hx
  obtain ⟨q1, q2, q3, q4, q5, q6, q7, q8, q9, q10, q11, q12, q13⟩ := z_k2 hp hc hx e
  have s1 := (hp.2.2.2.2.1 (x + 1) q2).1
  have s2 := (hp.2.2.2.2.1 l q5).1
  have ho : z_ow (kd x) 2 = 2 := by rw [k]; rfl
  have hbb : z_wb (kd x) = 1 := by rw [k]; rfl
  have hz : z_wl kd ks wc st bs lp tv x = [(st (x + 1) + wc (x + 1), 14, nI (st x + wc x), 1), (st x + wc x - 1, 13, nI (st x), 0)] := by simp [z_wl, k]
  have f1 := hf x hx (st (x + 1) + wc (x + 1)) (14, nI (st x + wc x), 1) (by rw [hz]; simp)
  have f2 := hf x hx (st x + wc x - 1) (13, nI (st x), 0) (by rw [hz]; simp)
  rw [show st x + wc x - 1 = st l + wc l by omega] at f2
  have hlpl : lp l = x + 1 := by
    have := hl.2.1 x hx (Or.inr (Or.inr k)) l (by rw [e]; simp)
    rw [if_pos k] at this
    exact this
  have hlw : 0 < lp x → lp x - 1 < x := fun g => (z_lpw hp hl x x (Nat.le_refl _) hx (by omega) g).1
  refine s_M_first hM hx e q2 q10 (by omega) s1 q7 (by omega) hbx hE h hP (fun m' O' V' P' C' A' B' h' pg' e1 g => ?_)
  rcases g with ⟨_, rfl, rfl⟩ | g
  case inr => omega
  rw [(n3 (x + 1) q2).2.2.2.1, if_neg (by omega), q10, if_neg (by omega), ← q3]
  have l89 : m0 89 l = nI x := by rw [(n3 l q5).2.2.2.2, if_neg (by omega), q11]
  have l88 : m0 88 l = -1 := by rw [(n3 l q5).2.2.2.1, if_neg (by omega), q11, if_pos q6]
  refine s_M_dn (k := 1) (kk := kd x) (a := 0) h' (by omega) (by omega) e1 c1 c6 (by decide) (by omega) (fun g => by omega) (fun m2 w2 O2 V2 C2 A2 B2 h2 g0 g1 g2 g3 => ?_)
  obtain ⟨rfl, rfl, g⟩ := g1 rfl
  rcases g with ⟨_, rfl, rfl, rfl, rfl⟩ | g | g
  · have pg2 := ((pg'.addp 14 (v := 0) (by rw [f1]) (by omega)).uA (i := x) (nI (st (x + 1) + wc (x + 1))) (Nat.le_refl _) (by omega)).uP (i := x) (nI (1 + 1)) (Nat.le_refl _) (by omega)
    have pg3 := pg2.uP (i := l) 0 (by omega) (by omega)
    refine hS Q m2 _ _ _ _ _ _ [] (h2.w (by omega)) (by simp [upd]) (fun g => ?_) (fun m3 O3 V3 P3 C3 A3 B3 L3 h3 p3 l4 l5 l6 => ?_)
    · rw [hlpl, Nat.add_sub_cancel]
      exact ⟨by simp [upd, z_chn], by simp [upd]⟩
    · rw [hlpl, Nat.add_sub_cancel] at l4 l5
      rw [hlpl] at l6
      have pg4 := pg3.kd2 p3 (by omega) (by omega) (by omega) (by omega)
      have eA : A3 x = nI (st (x + 1) + wc (x + 1)) := by
        rw [p3.2.2.2.1 x (Or.inl (by omega))]; simp [upd]
      have eB : B3 x = nI (st x) := by
        rw [(l6 x (Or.inl (by omega))).2]; simp [upd]
      have l5' := l5 (by omega)
      rw [List.append_nil] at l5'
      rw [l89, l88]
      have e82 : m3 82 x = nI (kd x) := by rw [h3.1 82 (by decide)]; exact c1
      refine s_M_lv0 (by omega) (s_M_lvk (by omega) e82 c6 (fun g => by omega) (fun g => by omega) (fun g => by omega) (fun g => by omega) (fun _ => ?_) (fun g => by omega) (fun g => by omega) (fun g => by omega) (fun g => by omega) (fun g1 g2 => by omega) (fun g => by omega) (fun g => by omega))
      refine s_M_bW (b := st l + wc l) (L := L3) h3 (by omega) (by omega) eA (by omega) (by omega) (l5'.keepM (fun q hq => ?_)) (fun m4 h4 => ?_)
      · have := l4 q hq
        have n1 : q ≠ st l + wc l := by omega
        have n2 : q ≠ st (x + 1) + wc (x + 1) := by omega
        simp [upd, n1, n2]
      · rw [eB] at h4
        rw [h4.1 89 (by decide), h4.1 88 (by decide)]
        have pg5 := (((pg4.add f2 (by omega)).perm (E' := (st (x + 1) + wc (x + 1)) :: L3) (fun p hp => by
          rcases List.mem_append.mp hp with g | g
          · exact List.mem_cons_of_mem _ g
          · rw [List.mem_singleton.mp g]; exact List.mem_cons_self)).fix (v := nI (st l + wc l + 1)) (by rw [f1]; congr 1; omega) (by omega) (by omega)).fixL (v := nI (st l + wc l + 1)) (fun p hp => by
            have := l4 p hp
            refine ⟨?_, by omega, by omega⟩
            rw [this.2.1]
            congr 1
            omega)
        refine hQ _ _ _ _ _ _ _ [] (h4.w (by omega)) (pg5.w (by omega)) (fun p hp => by cases hp) (fun g => ?_) (fun y hy => ?_)
        · have hlw' := hlw g
          have eC : C3 (lp x - 1) = C (lp x - 1) := by
            rw [(l6 (lp x - 1) (Or.inl (by omega))).1 (by omega)]
            have : lp x - 1 ≠ x := by omega
            simp [upd, this]
          rw [eC]
          exact ((hL g).1.keep (fun q hq => pg5.2.1 q (Or.inl hq))).wk (by omega)
        · have r1 := l6 y (by omega)
          have hne : y ≠ x := by omega
          refine ⟨fun _ => (r1.1 (by omega)).trans ?_, r1.2.trans ?_⟩
          · simp [upd, hne]
          · simp [upd, hne]
  · omega
  · omega
theorem s_M_CS {X : mz_X} {f : Nat → Nat × Int32 × Nat} {m0 : mz_M} {N : Nat} {kd tk sz ht up wc st bs lp : Nat → Nat} {tv : Nat → Int32} {ks : Nat → List Nat} (hp : z_pre N kd sz ht up ks) (hc : z_cd N kd ks wc st bs) (hl : z_lps N kd lp ks) (hM : z_hM m0 N kd tk sz up tv ks) (hf : ∀ i, i < N → ∀ p e, (p, e) ∈ z_wl kd ks wc st bs lp tv i → f p = e) (hb : ∀ x, x < N → st x + wc x ≤ 8000) : ∀ (n x : Nat), N - x ≤ n → x < N → kd x ≤ 6 → z_CS X f m0 st wc sz lp x := by
  have hE : ∀ x, x < N → 7 ≤ kd x → z_CE X f m0 st wc sz x := fun x h1 h2 => s_M_CE hp hc hM hf hb N x (by omega) h1 h2
  intro n
  induction n with
  | zero => intro x h1 h2; omega
  | succ n ih =>
    intro x h1 hx hk
    rcases z_cases hp hx with ⟨k, k1⟩ | ⟨k, e, k1, k2⟩ | ⟨k, l, e, k1, k2, k3⟩ | ⟨k, l, l2, e, k1, k2, k3, k4⟩ | ⟨k, l, e, k1, k2, k3⟩ | ⟨k, e⟩ | ⟨k, b, e, k1, k2, k3, k4⟩ | ⟨k, e⟩
    · refine s_M_CS0 hp hc hl hM hb hx k (fun y hy => ?_)
      obtain ⟨u1, u2, u3, u4⟩ := z_pre_kids hp x hx y hy
      exact ih y (by omega) u3 (k1 y hy)
    · have q := z_k1 hp hc hx e
      exact s_M_CS12 hp hc hM hf hb hx (by omega) e (hE _ q.2.1 (by omega))
    · obtain ⟨q1, q2, q3, q4, q5, _⟩ := z_k2 hp hc hx e
      exact s_M_CS3a hp hc hl hM hf hb hx k e (hE _ q2 (by omega)) (ih l (by omega) q5 (by omega))
    · obtain ⟨q1, q2, q3, q4, q5, q6, q7, q8, _⟩ := z_k3 hp hc hx e
      exact s_M_CS3b hp hc hl hM hf hb hx k e (hE _ q2 (by omega)) (ih l (by omega) q5 (by omega)) (ih l2 (by omega) q8 (by omega))
    · obtain ⟨q1, q2, q3, q4, q5, _⟩ := z_k2 hp hc hx e
      exact s_M_CS4 hp hc hl hM hf hb hx k e (hE _ q2 (by omega)) (ih l (by omega) q5 (by omega))
    · exact s_M_CS5 hp hc hl hM hf hb hx k e
    · omega
    · omega
