/-! every word keeps the pile -/
theorem z_wdf {N : Nat} {kd sz ht up wc st bs lp : Nat → Nat} {tv : Nat → Int32} {ks : Nat → List Nat} (h : z_pre N kd sz ht up ks) (hc : z_cd N kd ks wc st bs) {f : Nat → Nat × Int32 × Nat} (hf : ∀ i, i < N → ∀ p e, (p, e) ∈ z_wl kd ks wc st bs lp tv i → f p = e) (hf0 : f (wc 0) = (16, 0, 0)) (hl : z_lps N kd lp ks) (htv : ∀ i, i < N → kd i = 18 ∨ kd i = 1 → ∃ q, q < 32 ∧ tv i = nI q) : ∀ p, p < wc 0 + 1 → z_wd (wc 0 + 1) (fun p => (f p).1) (fun p => (f p).2.1) (fun p => (f p).2.2) p := by
  intro p hp
  have hN := h.1
  have hS : ∀ j, j < N → (f (st j)).2.2 = bs j := fun j hj => z_DS h hc hf hf0 N j (by omega) hj
  have hE : ∀ j, j < N → kd j ≤ 6 → (f (st j + wc j)).2.2 = 0 := fun j hj hk => z_De h hc hf hf0 (i := j) (fun x _ hx => hS x hx) j j (Nat.le_refl _) hj (Nat.le_refl _) (by have := (h.2.2.2.2.1 j hj).1; omega) hk
  have hX : ∀ j, j < N → 7 ≤ kd j → (f (st j + wc j)).2.2 = bs j + 1 := fun j hj hk => z_Dx h hc hf hf0 hj hk
  have hin : ∀ j, j < N → st j + wc j ≤ wc 0 := fun j hj => by
    have := z_nest h hc j 0 j (by omega) (by omega) (by omega) (by rw [h.2.2.1]; omega)
    have := hc.2.1
    omega
  by_cases hp0 : p = wc 0
  · subst hp0
    refine ⟨?_, Or.inr (Or.inr (Or.inr (Or.inr (Or.inr (Or.inr (Or.inr (Or.inr ?_)))))))⟩
    · show (f (wc 0)).2.2 ≤ 202; rw [hf0]; exact Nat.zero_le _
    · show (f (wc 0)).1 = 16; rw [hf0]
  · obtain ⟨j, j1, j2, e, je⟩ := z_cov (lp := lp) (tv := tv) h hc N 0 p (by omega) (by omega) (by have := hc.2.1; omega) (by have := hc.2.1; omega)
    have hj : j < N := by rw [h.2.2.1] at j2; omega
    have fe := hf j hj p e je
    have hbs := z_bsh h hc j j (Nat.le_refl _) hj
    have hw := hc.1 j hj
    have hen := hin j hj
    have hpW : p + 1 < wc 0 + 1 := by omega
    rcases z_cases h hj with ⟨k, kx⟩ | ⟨k, ke, e1, e2⟩ | ⟨k, l, ke, el, e1, e2⟩ | ⟨k, l, l2, ke, el, el2, e1, e2⟩ | ⟨k, l, ke, el, e1, e2⟩ | ⟨k, ke⟩ | ⟨k, b, ke, e1, e2, e3, e4⟩ | ⟨k, ke⟩
    · simp [z_wl, k] at je
    · obtain ⟨q1, q2, q3, q4, q5, q6, q7⟩ := z_k1 h hc hj ke
      have ho : z_ow (kd j) 1 = 1 := by unfold z_ow; rcases k with k | k | k | k <;> rw [k] <;> rfl
      rcases k with k | k | k | k
      · rw [show z_wl kd ks wc st bs lp tv j = [(st j + wc j - 1, 2, tv j, 1)] by simp [z_wl, k]] at je
        simp only [List.mem_singleton, Prod.mk.injEq] at je
        rw [je.2] at fe
        exact w_2 fe (by omega) hpW (by rw [show p + 1 = st j + wc j by omega, hE j hj (by omega)]) (htv j hj (Or.inr k))
      · rw [show z_wl kd ks wc st bs lp tv j = [(st j + wc j - 1, 15, 0, 1)] by simp [z_wl, k]] at je
        simp only [List.mem_singleton, Prod.mk.injEq] at je
        rw [je.2] at fe
        exact w_15 fe (by omega) hpW (by rw [show p + 1 = st j + wc j by omega, hE j hj (by omega)])
      · rw [show z_wl kd ks wc st bs lp tv j = [(st j + wc j - 1, 10, 0, bs j + 1)] by simp [z_wl, k]] at je
        simp only [List.mem_singleton, Prod.mk.injEq] at je
        rw [je.2] at fe
        exact w_10 fe (by omega) (by omega) (by omega) hpW (by omega) (by rw [show p + 1 = st j + wc j by omega, hX j hj (by omega)])
      · rw [show z_wl kd ks wc st bs lp tv j = [(st j + wc j - 1, 11, 0, bs j + 1)] by simp [z_wl, k]] at je
        simp only [List.mem_singleton, Prod.mk.injEq] at je
        rw [je.2] at fe
        exact w_10 fe (by omega) (by omega) (by omega) hpW (by omega) (by rw [show p + 1 = st j + wc j by omega, hX j hj (by omega)])
    · obtain ⟨q1, q2, q3, q4, q5, q6, q7, q8, q9, q10⟩ := z_k2 h hc hj ke
      have ho : z_ow (kd j) 2 = 1 := by rw [k]; rfl
      have hb : z_wb (kd j) = 1 := by rw [k]; rfl
      rw [show z_wl kd ks wc st bs lp tv j = [(st (j + 1) + wc (j + 1), 14, nI (st j + wc j), 1)] by simp [z_wl, k, ke]] at je
      simp only [List.mem_singleton, Prod.mk.injEq] at je
      rw [je.2] at fe
      exact w_14 (t := st j + wc j) fe (by omega) hpW (by rw [show p + 1 = st l by omega, hS l q5, z_bs0 h hc q5 (by omega)]) rfl (by omega) (by rw [hE j hj (by omega)])
    · obtain ⟨q1, q2, q3, q4, q5, q6, q7, q8, q9, q10, q11, q12, q13, q14⟩ := z_k3 h hc hj ke
      have ho : z_ow (kd j) 3 = 2 := by rw [k]; rfl
      have hb : z_wb (kd j) = 1 := by rw [k]; rfl
      rw [show z_wl kd ks wc st bs lp tv j = [(st (j + 1) + wc (j + 1), 14, nI (st l + wc l + 1), 1), (st l + wc l, 13, nI (st j + wc j), 0)] by simp [z_wl, k, ke]] at je
      simp only [List.mem_cons, List.not_mem_nil, or_false, Prod.mk.injEq] at je
      rcases je with je | je
      · rw [je.2] at fe
        exact w_14 (t := st l + wc l + 1) fe (by omega) hpW (by rw [show p + 1 = st l by omega, hS l q5, z_bs0 h hc q5 (by omega)]) rfl (by omega) (by rw [show st l + wc l + 1 = st l2 by omega, hS l2 q8, z_bs0 h hc q8 (by omega)])
      · rw [je.2] at fe
        exact w_13 (t := st j + wc j) fe (by omega) rfl (by omega) (hE j hj (by omega))
    · obtain ⟨q1, q2, q3, q4, q5, q6, q7, q8, q9, q10⟩ := z_k2 h hc hj ke
      have ho : z_ow (kd j) 2 = 2 := by rw [k]; rfl
      have hb : z_wb (kd j) = 1 := by rw [k]; rfl
      rw [show z_wl kd ks wc st bs lp tv j = [(st (j + 1) + wc (j + 1), 14, nI (st j + wc j), 1), (st j + wc j - 1, 13, nI (st j), 0)] by simp [z_wl, k]] at je
      simp only [List.mem_cons, List.not_mem_nil, or_false, Prod.mk.injEq] at je
      rcases je with je | je
      · rw [je.2] at fe
        exact w_14 (t := st j + wc j) fe (by omega) hpW (by rw [show p + 1 = st l by omega, hS l q5, z_bs0 h hc q5 (by omega)]) rfl (by omega) (by rw [hE j hj (by omega)])
      · rw [je.2] at fe
        exact w_13 (t := st j) fe (by omega) rfl (by omega) (by rw [hS j hj, z_bs0 h hc hj (by omega)])
    · have hlp := z_lpw h hl j j (Nat.le_refl _) hj (by omega) (hl.2.2 j hj k)
      have hw4 : lp j - 1 < N := by omega
      have hwe := hin _ hw4
      rcases k with k | k
      · rw [show z_wl kd ks wc st bs lp tv j = [(st j, 13, nI (st (lp j - 1) + wc (lp j - 1)), 0)] by simp [z_wl, k]] at je
        simp only [List.mem_singleton, Prod.mk.injEq] at je
        rw [je.2] at fe
        exact w_13 (t := st (lp j - 1) + wc (lp j - 1)) fe (by omega) rfl (by omega) (hE _ hw4 (by omega))
      · rw [show z_wl kd ks wc st bs lp tv j = [(st j, 13, nI (st (lp j - 1)), 0)] by simp [z_wl, k]] at je
        simp only [List.mem_singleton, Prod.mk.injEq] at je
        rw [je.2] at fe
        exact w_13 (t := st (lp j - 1)) fe (by omega) rfl (by omega) (by rw [hS _ hw4, z_bs0 h hc hw4 (by omega)])
    · obtain ⟨q1, q2, q3, q4, q5, q6, q7, q8, q9, q10⟩ := z_k2 h hc hj ke
      have k3 : kd j = 7 ∨ kd j = 8 ∨ (9 ≤ kd j ∧ kd j ≤ 15) := by omega
      have hbb := hc.2.2.2.2 j hj b (by rw [ke]; simp)
      rw [if_neg (by omega), if_neg (by omega)] at hbb
      rcases k3 with k' | k' | k'
      · rw [if_neg (by omega)] at hbb
        have ho : z_ow (kd j) 2 = 4 := by rw [k']; rfl
        have hb : z_wb (kd j) = 3 := by rw [k']; rfl
        have hz : z_wl kd ks wc st bs lp tv j = [(st (j + 1) + wc (j + 1), 14, nI (st (j + 1) + wc (j + 1) + 3), bs j + 1), (st (j + 1) + wc (j + 1) + 1, 0, 1, bs j), (st (j + 1) + wc (j + 1) + 2, 13, nI (st j + wc j), bs j + 1), (st j + wc j - 1, 12, 0, bs j + 1)] := by simp [z_wl, k']
        have f2 := hf j hj (st (j + 1) + wc (j + 1) + 1) (0, 1, bs j) (by rw [hz]; simp)
        have f3 := hf j hj (st (j + 1) + wc (j + 1) + 2) (13, nI (st j + wc j), bs j + 1) (by rw [hz]; simp)
        rw [hz] at je
        simp only [List.mem_cons, List.not_mem_nil, or_false, Prod.mk.injEq] at je
        rcases je with je | je | je | je
        · rw [je.2] at fe
          exact w_14 (t := st (j + 1) + wc (j + 1) + 3) fe (by omega) hpW (by rw [je.1, f2]) rfl (by omega) (by rw [show st (j + 1) + wc (j + 1) + 3 = st b by omega, hS b q5, hbb])
        · rw [je.2] at fe
          exact w_0 fe (by omega) hpW (by rw [je.1, show st (j + 1) + wc (j + 1) + 1 + 1 = st (j + 1) + wc (j + 1) + 2 by omega, f3])
        · rw [je.2] at fe
          exact w_13 (t := st j + wc j) fe (by omega) rfl (by omega) (hX j hj (by omega))
        · rw [je.2] at fe
          exact w_10 fe (by omega) (by omega) (by omega) hpW (by omega) (by rw [show p + 1 = st j + wc j by omega, hX j hj (by omega)])
      · rw [if_neg (by omega)] at hbb
        have ho : z_ow (kd j) 2 = 4 := by rw [k']; rfl
        have hb : z_wb (kd j) = 1 := by rw [k']; rfl
        have hz : z_wl kd ks wc st bs lp tv j = [(st (j + 1) + wc (j + 1), 14, nI (st j + wc j - 1), bs j + 1), (st j + wc j - 3, 12, 0, bs j + 1), (st j + wc j - 2, 13, nI (st j + wc j), bs j + 1), (st j + wc j - 1, 0, 0, bs j)] := by simp [z_wl, k']
        have f2 := hf j hj (st j + wc j - 1) (0, 0, bs j) (by rw [hz]; simp)
        have f3 := hf j hj (st j + wc j - 2) (13, nI (st j + wc j), bs j + 1) (by rw [hz]; simp)
        rw [hz] at je
        simp only [List.mem_cons, List.not_mem_nil, or_false, Prod.mk.injEq] at je
        rcases je with je | je | je | je
        · rw [je.2] at fe
          exact w_14 (t := st j + wc j - 1) fe (by omega) hpW (by rw [show p + 1 = st b by omega, hS b q5, hbb]) rfl (by omega) (by rw [f2])
        · rw [je.2] at fe
          exact w_10 fe (by omega) (by omega) (by omega) hpW (by omega) (by rw [show p + 1 = st j + wc j - 2 by omega, f3])
        · rw [je.2] at fe
          exact w_13 (t := st j + wc j) fe (by omega) rfl (by omega) (hX j hj (by omega))
        · rw [je.2] at fe
          exact w_0 fe (by omega) hpW (by rw [show p + 1 = st j + wc j by omega, hX j hj (by omega)])
      · have ho : z_ow (kd j) 2 = 1 := by
          unfold z_ow
          rw [if_neg (by omega), if_neg (by omega), if_neg (by omega), if_neg (by omega), if_neg (by omega)]
        have hz : z_wl kd ks wc st bs lp tv j = [(st j + wc j - 1, z_kw (kd j), 0, bs j + 2)] := by
          unfold z_wl
          rw [if_neg (by omega), if_neg (by omega), if_neg (by omega), if_neg (by omega), if_neg (by omega), if_neg (by omega), if_neg (by omega), if_neg (by omega), if_neg (by omega), if_pos (by omega)]
        rw [hz] at je
        simp only [List.mem_singleton, Prod.mk.injEq] at je
        rw [je.2] at fe
        have hk1 : 3 ≤ z_kw (kd j) ∧ z_kw (kd j) ≤ 9 := by unfold z_kw; split <;> omega
        exact w_3 fe (by omega) hk1.1 hk1.2 hpW (by omega) (by rw [show p + 1 = st j + wc j by omega, hX j hj (by omega)])
    · have ho : wc j = 1 := by
        rw [hw, ke]
        rcases k with k | k <;> rw [k] <;> rfl
      rcases k with k | k
      · rw [show z_wl kd ks wc st bs lp tv j = [(st j, 1, tv j, bs j)] by simp [z_wl, k]] at je
        simp only [List.mem_singleton, Prod.mk.injEq] at je
        rw [je.2] at fe
        exact w_1 fe (by omega) hpW (by rw [show p + 1 = st j + wc j by omega, hX j hj (by omega)]) (htv j hj (Or.inl k))
      · rw [show z_wl kd ks wc st bs lp tv j = [(st j, 0, tv j, bs j)] by simp [z_wl, k]] at je
        simp only [List.mem_singleton, Prod.mk.injEq] at je
        rw [je.2] at fe
        exact w_0 fe (by omega) hpW (by rw [show p + 1 = st j + wc j by omega, hX j hj (by omega)])
