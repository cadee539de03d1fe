/-! where a node begins; behind an expression -/
theorem z_DS {N : Nat} {kd sz ht up wc st bs lp : Nat → Nat} {tv : Nat → Int32} {ks : Nat → List Nat} (h : z_pre N kd sz ht up ks) (hc : z_cd N kd ks wc st bs) {f : Nat → Nat × Int32 × Nat} (hf : ∀ i, i < N → ∀ p e, (p, e) ∈ z_wl kd ks wc st bs lp tv i → f p = e) (hf0 : f (wc 0) = (16, 0, 0)) : ∀ (n i : Nat), N - i ≤ n → i < N → (f (st i)).2.2 = bs i := by
  intro n
  induction n with
  | zero => intro i h1 h2; omega
  | succ n ih =>
    intro i h1 hi
    have hS : ∀ j, i < j → j < N → (f (st j)).2.2 = bs j := fun j g1 g2 => ih j (by omega) g2
    have hw := hc.1 i hi
    have hsi := (h.2.2.2.2.1 i hi).1
    rcases z_cases h hi with ⟨k, kx⟩ | ⟨k, e, e1, e2⟩ | ⟨k, l, e, el, e1, e2⟩ | ⟨k, l, l2, e, el, el2, e1, e2⟩ | ⟨k, l, e, el, e1, e2⟩ | ⟨k, e⟩ | ⟨k, b, e, e1, e2, e3, e4⟩ | ⟨k, e⟩
    · cases hk : ks i with
      | nil =>
        rw [hk, k] at hw
        have hw0 : wc i = 0 := by rw [hw]; rfl
        have g := z_De h hc hf hf0 hS i i (Nat.le_refl _) hi (Nat.le_refl _) (by omega) (by omega)
        rw [hw0, Nat.add_zero] at g
        rw [g, z_bs0 h hc hi (by omega)]
      | cons x t =>
        have hm : x ∈ ks i := by rw [hk]; exact List.mem_cons_self
        obtain ⟨v1, v2, v3, v4⟩ := z_pre_kids h i hi x hm
        have hst := hc.2.2.1 i hi x hm
        rw [hk] at hst
        simp only [z_off, if_true, Nat.add_zero] at hst
        rw [← hst, hS x v2 v3, z_bs0 h hc v3 (kx x hm), z_bs0 h hc hi (by omega)]
    · obtain ⟨q1, q2, q3, q4, q5, q6, q7⟩ := z_k1 h hc hi e
      have hb := hc.2.2.2.2 i hi (i + 1) (by rw [e]; exact List.mem_cons_self)
      rw [← q4, hS (i + 1) (by omega) q2, hb, if_neg (by omega)]
      rcases k with k | k | k | k
      · rw [if_pos (by omega), z_bs0 h hc hi (by omega)]
      · rw [if_pos (by omega), z_bs0 h hc hi (by omega)]
      · rw [if_neg (by omega), if_neg (by omega)]
      · rw [if_neg (by omega), if_neg (by omega)]
    · obtain ⟨q1, q2, q3, q4, q5, q6, q7, q8, q9, q10⟩ := z_k2 h hc hi e
      have hb := hc.2.2.2.2 i hi (i + 1) (by rw [e]; exact List.mem_cons_self)
      rw [← q7, hS (i + 1) (by omega) q2, hb, if_neg (by omega), if_pos (by omega), z_bs0 h hc hi (by omega)]
    · obtain ⟨q1, q2, q3, q4, q5, q6, q7, q8, q9, q10, q11, q12, q13, q14⟩ := z_k3 h hc hi e
      have hb := hc.2.2.2.2 i hi (i + 1) (by rw [e]; exact List.mem_cons_self)
      rw [← q10, hS (i + 1) (by omega) q2, hb, if_neg (by omega), if_pos (by omega), z_bs0 h hc hi (by omega)]
    · obtain ⟨q1, q2, q3, q4, q5, q6, q7, q8, q9, q10⟩ := z_k2 h hc hi e
      have hb := hc.2.2.2.2 i hi (i + 1) (by rw [e]; exact List.mem_cons_self)
      rw [← q7, hS (i + 1) (by omega) q2, hb, if_neg (by omega), if_pos (by omega), z_bs0 h hc hi (by omega)]
    · rw [z_bs0 h hc hi (by omega)]
      rcases k with k | k
      · rw [hf i hi (st i) (13, nI (st (lp i - 1) + wc (lp i - 1)), 0) (by rw [show z_wl kd ks wc st bs lp tv i = [(st i, 13, nI (st (lp i - 1) + wc (lp i - 1)), 0)] by simp [z_wl, k]]; exact List.mem_cons_self)]
      · rw [hf i hi (st i) (13, nI (st (lp i - 1)), 0) (by rw [show z_wl kd ks wc st bs lp tv i = [(st i, 13, nI (st (lp i - 1)), 0)] by simp [z_wl, k]]; exact List.mem_cons_self)]
    · obtain ⟨q1, q2, q3, q4, q5, q6, q7, q8, q9, q10⟩ := z_k2 h hc hi e
      have hb := hc.2.2.2.2 i hi (i + 1) (by rw [e]; exact List.mem_cons_self)
      rw [← q7, hS (i + 1) (by omega) q2, hb, if_neg (by omega), if_neg (by omega), if_neg (fun g => g.2 rfl)]
    · rcases k with k | k
      · rw [hf i hi (st i) (1, tv i, bs i) (by rw [show z_wl kd ks wc st bs lp tv i = [(st i, 1, tv i, bs i)] by simp [z_wl, k]]; exact List.mem_cons_self)]
      · rw [hf i hi (st i) (0, tv i, bs i) (by rw [show z_wl kd ks wc st bs lp tv i = [(st i, 0, tv i, bs i)] by simp [z_wl, k]]; exact List.mem_cons_self)]
