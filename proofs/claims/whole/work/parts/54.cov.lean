/-! every place is some node's -/
theorem z_listcov {wc sz : Nat → Nat} {p : Nat} : ∀ (l : List Nat) (lo hi a : Nat), (∀ j, j < hi → 1 ≤ sz j) → z_segP sz lo hi l → a ≤ p → p < a + (l.map wc).sum → ∃ x, x ∈ l ∧ a + z_off wc 0 l x ≤ p ∧ p < a + z_off wc 0 l x + wc x := by
  intro l
  induction l with
  | nil => intro lo hi a _ h h1 h2; simp at h2; omega
  | cons x t ih =>
    intro lo hi a hpos h h1 h2
    obtain ⟨a1, a2, a3⟩ := h
    simp only [List.map_cons, List.sum_cons] at h2
    by_cases hp : p < a + wc x
    · exact ⟨x, List.mem_cons_self, by simp only [z_off, if_true]; omega, by simp only [z_off, if_true]; omega⟩
    · obtain ⟨y, y1, y2, y3⟩ := ih _ _ (a + wc x) hpos a3 (by omega) (by omega)
      by_cases hxy : x = y
      · exfalso
        subst hxy
        have := z_segP_mem _ _ _ a3 x y1
        have := hpos x a2
        omega
      · refine ⟨y, List.mem_cons_of_mem _ y1, ?_, ?_⟩ <;> simp only [z_off, if_neg hxy] <;> omega
theorem z_cov {N : Nat} {kd sz ht up wc st bs lp : Nat → Nat} {tv : Nat → Int32} {ks : Nat → List Nat} (h : z_pre N kd sz ht up ks) (hc : z_cd N kd ks wc st bs) : ∀ (n i p : Nat), N - i ≤ n → i < N → st i ≤ p → p < st i + wc i → ∃ j, i ≤ j ∧ j < i + sz i ∧ ∃ e, (p, e) ∈ z_wl kd ks wc st bs lp tv j := by
  intro n
  induction n with
  | zero => intro i p h1 h2; omega
  | succ n ih =>
    intro i p hn hi h1 h2
    have hsi := (h.2.2.2.2.1 i hi).1
    have own : (∃ e, (p, e) ∈ z_wl kd ks wc st bs lp tv i) → ∃ j, i ≤ j ∧ j < i + sz i ∧ ∃ e, (p, e) ∈ z_wl kd ks wc st bs lp tv j := fun he => ⟨i, Nat.le_refl _, by omega, he⟩
    have rec' : ∀ d, d ∈ ks i → st d ≤ p → p < st d + wc d → ∃ j, i ≤ j ∧ j < i + sz i ∧ ∃ e, (p, e) ∈ z_wl kd ks wc st bs lp tv j := by
      intro d hd g1 g2
      obtain ⟨q1, q2, q3, q4⟩ := z_pre_kids h i hi d hd
      obtain ⟨j, j1, j2, j3⟩ := ih d p (by omega) q3 g1 g2
      exact ⟨j, by omega, by omega, j3⟩
    have hw := hc.1 i hi
    rcases z_cases h hi with ⟨k, _⟩ | ⟨k, e, _⟩ | ⟨k, l, e, _⟩ | ⟨k, l, l2, e, _⟩ | ⟨k, l, e, _⟩ | ⟨k, e⟩ | ⟨k, b, e, _⟩ | ⟨k, e⟩
    · have ho : z_ow (kd i) (ks i).length = 0 := by rw [k]; rfl
      obtain ⟨x, x1, x2, x3⟩ := z_listcov (wc := wc) (ks i) (i + 1) (i + sz i) (st i) (fun j hj => (h.2.2.2.2.1 j (by have := (h.2.2.2.2.1 i hi).2.1; omega)).1) (h.2.2.2.2.1 i hi).2.2.1 h1 (by omega)
      have := hc.2.2.1 i hi x x1
      rw [show z_wb (kd i) = 0 by rw [k]; rfl] at this
      exact rec' x x1 (by omega) (by omega)
    · obtain ⟨q1, q2, q3, q4, q5, q6, q7⟩ := z_k1 h hc hi e
      have ho : z_ow (kd i) 1 = 1 := by unfold z_ow; rcases k with k | k | k | k <;> rw [k] <;> rfl
      by_cases hp : p < st (i + 1) + wc (i + 1)
      · exact rec' (i + 1) (by rw [e]; exact List.mem_cons_self) (by omega) hp
      · have hpe : p = st i + wc i - 1 := by omega
        refine own ?_
        subst hpe
        rcases k with k | k | k | k
        · exact ⟨_, by rw [show z_wl kd ks wc st bs lp tv i = [(st i + wc i - 1, 2, tv i, 1)] by simp [z_wl, k]]; exact List.mem_cons_self⟩
        · exact ⟨_, by rw [show z_wl kd ks wc st bs lp tv i = [(st i + wc i - 1, 15, 0, 1)] by simp [z_wl, k]]; exact List.mem_cons_self⟩
        · exact ⟨_, by rw [show z_wl kd ks wc st bs lp tv i = [(st i + wc i - 1, 10, 0, bs i + 1)] by simp [z_wl, k]]; exact List.mem_cons_self⟩
        · exact ⟨_, by rw [show z_wl kd ks wc st bs lp tv i = [(st i + wc i - 1, 11, 0, bs i + 1)] by simp [z_wl, k]]; exact List.mem_cons_self⟩
    · obtain ⟨q1, q2, q3, q4, q5, q6, q7, q8, q9, q10⟩ := z_k2 h hc hi e
      have ho : z_ow (kd i) 2 = 1 := by rw [k]; rfl
      have hb : z_wb (kd i) = 1 := by rw [k]; rfl
      have hz : z_wl kd ks wc st bs lp tv i = [(st (i + 1) + wc (i + 1), 14, nI (st i + wc i), 1)] := by simp [z_wl, k, e]
      by_cases hp : p < st (i + 1) + wc (i + 1)
      · exact rec' (i + 1) (by rw [e]; exact List.mem_cons_self) (by omega) hp
      · by_cases hp2 : p = st (i + 1) + wc (i + 1)
        · subst hp2
          exact own ⟨_, by rw [hz]; exact List.mem_cons_self⟩
        · exact rec' l (by rw [e]; simp) (by omega) (by omega)
    · obtain ⟨q1, q2, q3, q4, q5, q6, q7, q8, q9, q10, q11, q12, q13, q14⟩ := z_k3 h hc hi e
      have ho : z_ow (kd i) 3 = 2 := by rw [k]; rfl
      have hb : z_wb (kd i) = 1 := by rw [k]; rfl
      have hz : z_wl kd ks wc st bs lp tv i = [(st (i + 1) + wc (i + 1), 14, nI (st l + wc l + 1), 1), (st l + wc l, 13, nI (st i + wc i), 0)] := by simp [z_wl, k, e]
      by_cases hp : p < st (i + 1) + wc (i + 1)
      · exact rec' (i + 1) (by rw [e]; exact List.mem_cons_self) (by omega) hp
      · by_cases hp2 : p = st (i + 1) + wc (i + 1)
        · subst hp2
          exact own ⟨_, by rw [hz]; exact List.mem_cons_self⟩
        · by_cases hp3 : p < st l + wc l
          · exact rec' l (by rw [e]; simp) (by omega) hp3
          · by_cases hp4 : p = st l + wc l
            · subst hp4
              exact own ⟨_, by rw [hz]; exact List.mem_cons_of_mem _ List.mem_cons_self⟩
            · exact rec' l2 (by rw [e]; simp) (by omega) (by omega)
    · obtain ⟨q1, q2, q3, q4, q5, q6, q7, q8, q9, q10⟩ := z_k2 h hc hi e
      have ho : z_ow (kd i) 2 = 2 := by rw [k]; rfl
      have hb : z_wb (kd i) = 1 := by rw [k]; rfl
      have hz : z_wl kd ks wc st bs lp tv i = [(st (i + 1) + wc (i + 1), 14, nI (st i + wc i), 1), (st i + wc i - 1, 13, nI (st i), 0)] := by simp [z_wl, k]
      by_cases hp : p < st (i + 1) + wc (i + 1)
      · exact rec' (i + 1) (by rw [e]; exact List.mem_cons_self) (by omega) hp
      · by_cases hp2 : p = st (i + 1) + wc (i + 1)
        · subst hp2
          exact own ⟨_, by rw [hz]; exact List.mem_cons_self⟩
        · by_cases hp3 : p < st l + wc l
          · exact rec' l (by rw [e]; simp) (by omega) hp3
          · have hp4 : p = st i + wc i - 1 := by omega
            subst hp4
            exact own ⟨_, by rw [hz]; exact List.mem_cons_of_mem _ List.mem_cons_self⟩
    · have ho : wc i = 1 := by
        rw [hw, e]
        rcases k with k | k <;> rw [k] <;> rfl
      have hp : p = st i := by omega
      subst hp
      refine own ?_
      rcases k with k | k
      · exact ⟨_, by rw [show z_wl kd ks wc st bs lp tv i = [(st i, 13, nI (st (lp i - 1) + wc (lp i - 1)), 0)] by simp [z_wl, k]]; exact List.mem_cons_self⟩
      · exact ⟨_, by rw [show z_wl kd ks wc st bs lp tv i = [(st i, 13, nI (st (lp i - 1)), 0)] by simp [z_wl, k]]; exact List.mem_cons_self⟩
    · obtain ⟨q1, q2, q3, q4, q5, q6, q7, q8, q9, q10⟩ := z_k2 h hc hi e
      have k3 : kd i = 7 ∨ kd i = 8 ∨ (9 ≤ kd i ∧ kd i ≤ 15) := by omega
      by_cases hp : p < st (i + 1) + wc (i + 1)
      · exact rec' (i + 1) (by rw [e]; exact List.mem_cons_self) (by omega) hp
      · rcases k3 with k' | k' | k'
        · have ho : z_ow (kd i) 2 = 4 := by rw [k']; rfl
          have hb : z_wb (kd i) = 3 := by rw [k']; rfl
          have hz : z_wl kd ks wc st bs lp tv i = [(st (i + 1) + wc (i + 1), 14, nI (st (i + 1) + wc (i + 1) + 3), bs i + 1), (st (i + 1) + wc (i + 1) + 1, 0, 1, bs i), (st (i + 1) + wc (i + 1) + 2, 13, nI (st i + wc i), bs i + 1), (st i + wc i - 1, 12, 0, bs i + 1)] := by simp [z_wl, k']
          by_cases hp2 : p < st (i + 1) + wc (i + 1) + 3
          · refine own ?_
            rw [hz]
            have : p = st (i + 1) + wc (i + 1) ∨ p = st (i + 1) + wc (i + 1) + 1 ∨ p = st (i + 1) + wc (i + 1) + 2 := by omega
            rcases this with g | g | g
            · subst g; exact ⟨_, List.mem_cons_self⟩
            · subst g; exact ⟨_, List.mem_cons_of_mem _ List.mem_cons_self⟩
            · subst g; exact ⟨_, List.mem_cons_of_mem _ (List.mem_cons_of_mem _ List.mem_cons_self)⟩
          · by_cases hp3 : p < st b + wc b
            · exact rec' b (by rw [e]; simp) (by omega) hp3
            · have hp4 : p = st i + wc i - 1 := by omega
              subst hp4
              exact own ⟨_, by rw [hz]; exact List.mem_cons_of_mem _ (List.mem_cons_of_mem _ (List.mem_cons_of_mem _ List.mem_cons_self))⟩
        · have ho : z_ow (kd i) 2 = 4 := by rw [k']; rfl
          have hb : z_wb (kd i) = 1 := by rw [k']; rfl
          have hz : z_wl kd ks wc st bs lp tv i = [(st (i + 1) + wc (i + 1), 14, nI (st i + wc i - 1), bs i + 1), (st i + wc i - 3, 12, 0, bs i + 1), (st i + wc i - 2, 13, nI (st i + wc i), bs i + 1), (st i + wc i - 1, 0, 0, bs i)] := by simp [z_wl, k']
          by_cases hp2 : p = st (i + 1) + wc (i + 1)
          · subst hp2
            exact own ⟨_, by rw [hz]; exact List.mem_cons_self⟩
          · by_cases hp3 : p < st b + wc b
            · exact rec' b (by rw [e]; simp) (by omega) hp3
            · refine own ?_
              rw [hz]
              have : p = st i + wc i - 3 ∨ p = st i + wc i - 2 ∨ p = st i + wc i - 1 := by omega
              rcases this with g | g | g
              · subst g; exact ⟨_, List.mem_cons_of_mem _ List.mem_cons_self⟩
              · subst g; exact ⟨_, List.mem_cons_of_mem _ (List.mem_cons_of_mem _ List.mem_cons_self)⟩
              · subst g; exact ⟨_, List.mem_cons_of_mem _ (List.mem_cons_of_mem _ (List.mem_cons_of_mem _ List.mem_cons_self))⟩
        · have ho : z_ow (kd i) 2 = 1 := by
            unfold z_ow
            rw [if_neg (by omega), if_neg (by omega), if_neg (by omega), if_neg (by omega), if_neg (by omega)]
          have hb : z_wb (kd i) = 0 := by
            unfold z_wb
            rw [if_neg (by omega), if_neg (by omega), if_neg (by omega), if_neg (by omega)]
          have hz : z_wl kd ks wc st bs lp tv i = [(st i + wc i - 1, z_kw (kd i), 0, bs i + 2)] := by
            unfold z_wl
            rw [if_neg (by omega), if_neg (by omega), if_neg (by omega), if_neg (by omega), if_neg (by omega), if_neg (by omega), if_neg (by omega), if_neg (by omega), if_neg (by omega), if_pos (by omega)]
          by_cases hp3 : p < st b + wc b
          · exact rec' b (by rw [e]; simp) (by omega) hp3
          · have hp4 : p = st i + wc i - 1 := by omega
            subst hp4
            exact own ⟨_, by rw [hz]; exact List.mem_cons_self⟩
    · have ho : wc i = 1 := by
        rw [hw, e]
        rcases k with k | k <;> rw [k] <;> rfl
      have hp : p = st i := by omega
      subst hp
      refine own ?_
      rcases k with k | k
      · exact ⟨_, by rw [show z_wl kd ks wc st bs lp tv i = [(st i, 1, tv i, bs i)] by simp [z_wl, k]]; exact List.mem_cons_self⟩
      · exact ⟨_, by rw [show z_wl kd ks wc st bs lp tv i = [(st i, 0, tv i, bs i)] by simp [z_wl, k]]; exact List.mem_cons_self⟩
