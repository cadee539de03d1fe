/-! behind an expression: its value on the pile -/
theorem z_Dx {N : Nat} {kd sz ht up wc st bs lp : Nat → Nat} {tv : Nat → Int32} {ks : Nat → List Nat} (h : z_pre N kd sz ht up ks) (hc : z_cd N kd ks wc st bs) {f : Nat → Nat × Int32 × Nat} (hf : ∀ i, i < N → ∀ p e, (p, e) ∈ z_wl kd ks wc st bs lp tv i → f p = e) (hf0 : f (wc 0) = (16, 0, 0)) {i : Nat} (hi : i < N) (hk7 : 7 ≤ kd i) : (f (st i + wc i)).2.2 = bs i + 1 := by
  have h0 : 0 < i := by
    rcases Nat.eq_zero_or_pos i with g | g
    · subst g; rw [h.2.2.2.1] at hk7; omega
    · exact g
  obtain ⟨u1, u2⟩ := h.2.2.2.2.2.1 i h0 hi
  have hy : up i < N := by omega
  have hS : ∀ j, j < N → (f (st j)).2.2 = bs j := fun j hj => z_DS h hc hf hf0 N j (by omega) hj
  have hb := hc.2.2.2.2 (up i) hy i u2
  rw [if_neg (by omega)] at hb
  generalize hyy : up i = y at *
  rcases z_cases h hy with ⟨k, kx⟩ | ⟨k, e, e1, e2⟩ | ⟨k, l, e, el, e1, e2⟩ | ⟨k, l, l2, e, el, el2, e1, e2⟩ | ⟨k, l, e, el, e1, e2⟩ | ⟨k, e⟩ | ⟨k, b, e, e1, e2, e3, e4⟩ | ⟨k, e⟩
  · have := kx i u2; omega
  · obtain ⟨q1, q2, q3, q4, q5, q6, q7⟩ := z_k1 h hc hy e
    have ho : z_ow (kd y) 1 = 1 := by unfold z_ow; rcases k with k | k | k | k <;> rw [k] <;> rfl
    rw [e] at u2
    have u := List.mem_singleton.mp u2
    subst u
    rw [show st (y + 1) + wc (y + 1) = st y + wc y - 1 by omega]
    rcases k with k | k | k | k
    · rw [if_pos (by omega)] at hb
      rw [hf y hy _ (2, tv y, 1) (by rw [show z_wl kd ks wc st bs lp tv y = [(st y + wc y - 1, 2, tv y, 1)] by simp [z_wl, k]]; exact List.mem_cons_self), hb]
    · rw [if_pos (by omega)] at hb
      rw [hf y hy _ (15, 0, 1) (by rw [show z_wl kd ks wc st bs lp tv y = [(st y + wc y - 1, 15, 0, 1)] by simp [z_wl, k]]; exact List.mem_cons_self), hb]
    · rw [if_neg (by omega), if_neg (by omega)] at hb
      rw [hf y hy _ (10, 0, bs y + 1) (by rw [show z_wl kd ks wc st bs lp tv y = [(st y + wc y - 1, 10, 0, bs y + 1)] by simp [z_wl, k]]; exact List.mem_cons_self), hb]
    · rw [if_neg (by omega), if_neg (by omega)] at hb
      rw [hf y hy _ (11, 0, bs y + 1) (by rw [show z_wl kd ks wc st bs lp tv y = [(st y + wc y - 1, 11, 0, bs y + 1)] by simp [z_wl, k]]; exact List.mem_cons_self), hb]
  · rw [if_pos (by omega)] at hb
    rw [e] at u2
    simp only [List.mem_cons, List.not_mem_nil, or_false] at u2
    rcases u2 with u | u
    · subst u
      rw [hf y hy _ (14, nI (st y + wc y), 1) (by rw [show z_wl kd ks wc st bs lp tv y = [(st (y + 1) + wc (y + 1), 14, nI (st y + wc y), 1)] by simp [z_wl, k, e]]; exact List.mem_cons_self), hb]
    · rw [u] at hk7; omega
  · rw [if_pos (by omega)] at hb
    rw [e] at u2
    simp only [List.mem_cons, List.not_mem_nil, or_false] at u2
    rcases u2 with u | u | u
    · subst u
      rw [hf y hy _ (14, nI (st l + wc l + 1), 1) (by rw [show z_wl kd ks wc st bs lp tv y = [(st (y + 1) + wc (y + 1), 14, nI (st l + wc l + 1), 1), (st l + wc l, 13, nI (st y + wc y), 0)] by simp [z_wl, k, e]]; exact List.mem_cons_self), hb]
    · rw [u] at hk7; omega
    · rw [u] at hk7; omega
  · rw [if_pos (by omega)] at hb
    rw [e] at u2
    simp only [List.mem_cons, List.not_mem_nil, or_false] at u2
    rcases u2 with u | u
    · subst u
      rw [hf y hy _ (14, nI (st y + wc y), 1) (by rw [show z_wl kd ks wc st bs lp tv y = [(st (y + 1) + wc (y + 1), 14, nI (st y + wc y), 1), (st y + wc y - 1, 13, nI (st y), 0)] by simp [z_wl, k]]; exact List.mem_cons_self), hb]
    · rw [u] at hk7; omega
  · rw [e] at u2; cases u2
  · obtain ⟨q1, q2, q3, q4, q5, q6, q7, q8, q9, q10⟩ := z_k2 h hc hy e
    rw [if_neg (by omega)] at hb
    rw [e] at u2
    simp only [List.mem_cons, List.not_mem_nil, or_false] at u2
    have k3 : kd y = 7 ∨ kd y = 8 ∨ (9 ≤ kd y ∧ kd y ≤ 15) := by omega
    rcases k3 with k' | k' | k'
    · rw [if_neg (by omega)] at hb
      have ho : z_ow (kd y) 2 = 4 := by rw [k']; rfl
      have hbb : z_wb (kd y) = 3 := by rw [k']; rfl
      have hz : z_wl kd ks wc st bs lp tv y = [(st (y + 1) + wc (y + 1), 14, nI (st (y + 1) + wc (y + 1) + 3), bs y + 1), (st (y + 1) + wc (y + 1) + 1, 0, 1, bs y), (st (y + 1) + wc (y + 1) + 2, 13, nI (st y + wc y), bs y + 1), (st y + wc y - 1, 12, 0, bs y + 1)] := by simp [z_wl, k']
      rcases u2 with u | u
      · subst u
        rw [hf y hy _ _ (by rw [hz]; exact List.mem_cons_self), hb]
      · subst u
        rw [show st i + wc i = st y + wc y - 1 by omega, hf y hy _ _ (by rw [hz]; exact List.mem_cons_of_mem _ (List.mem_cons_of_mem _ (List.mem_cons_of_mem _ List.mem_cons_self))), hb]
    · rw [if_neg (by omega)] at hb
      have ho : z_ow (kd y) 2 = 4 := by rw [k']; rfl
      have hbb : z_wb (kd y) = 1 := by rw [k']; rfl
      have hz : z_wl kd ks wc st bs lp tv y = [(st (y + 1) + wc (y + 1), 14, nI (st y + wc y - 1), bs y + 1), (st y + wc y - 3, 12, 0, bs y + 1), (st y + wc y - 2, 13, nI (st y + wc y), bs y + 1), (st y + wc y - 1, 0, 0, bs y)] := by simp [z_wl, k']
      rcases u2 with u | u
      · subst u
        rw [hf y hy _ _ (by rw [hz]; exact List.mem_cons_self), hb]
      · subst u
        rw [show st i + wc i = st y + wc y - 3 by omega, hf y hy _ _ (by rw [hz]; exact List.mem_cons_of_mem _ List.mem_cons_self), hb]
    · have ho : z_ow (kd y) 2 = 1 := by
        unfold z_ow
        rw [if_neg (by omega), if_neg (by omega), if_neg (by omega), if_neg (by omega), if_neg (by omega)]
      have hbb : z_wb (kd y) = 0 := by
        unfold z_wb
        rw [if_neg (by omega), if_neg (by omega), if_neg (by omega), if_neg (by omega)]
      have hz : z_wl kd ks wc st bs lp tv y = [(st y + wc y - 1, z_kw (kd y), 0, bs y + 2)] := by
        unfold z_wl
        rw [if_neg (by omega), if_neg (by omega), if_neg (by omega), if_neg (by omega), if_neg (by omega), if_neg (by omega), if_neg (by omega), if_neg (by omega), if_neg (by omega), if_pos (by omega)]
      rcases u2 with u | u
      · subst u
        rw [if_neg (by omega)] at hb
        have hb2 := hc.2.2.2.2 y hy b (by rw [e]; simp)
        rw [if_neg (by omega), if_neg (by omega), if_pos ⟨k', by omega⟩] at hb2
        rw [show st (y + 1) + wc (y + 1) = st b by omega, hS b q5, hb2, hb]
      · subst u
        rw [if_pos ⟨k', by omega⟩] at hb
        rw [show st i + wc i = st y + wc y - 1 by omega, hf y hy _ _ (by rw [hz]; exact List.mem_cons_self), hb]
  · rw [e] at u2; cases u2
