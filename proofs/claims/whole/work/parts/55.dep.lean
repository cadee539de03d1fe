/-! how deep the pile is -/
def z_lps (N : Nat) (kd lp : Nat → Nat) (ks : Nat → List Nat) : Prop := lp 0 = 0 ∧ (∀ i, i < N → kd i = 0 ∨ kd i = 3 ∨ kd i = 4 → ∀ x, x ∈ ks i → lp x = (if kd i = 4 then i + 1 else lp i)) ∧ (∀ i, i < N → kd i = 5 ∨ kd i = 6 → 0 < lp i)
theorem z_bs0 {N : Nat} {kd sz ht up wc st bs : Nat → Nat} {ks : Nat → List Nat} (h : z_pre N kd sz ht up ks) (hc : z_cd N kd ks wc st bs) {i : Nat} (hi : i < N) (hk : kd i ≤ 6) : bs i = 0 := by
  by_cases h0 : i = 0
  · subst h0; exact hc.2.2.2.1
  · obtain ⟨u1, u2⟩ := h.2.2.2.2.2.1 i (by omega) hi
    rw [hc.2.2.2.2 (up i) (by omega) i u2, if_pos hk]
theorem z_par {N : Nat} {kd sz ht up : Nat → Nat} {ks : Nat → List Nat} (h : z_pre N kd sz ht up ks) {i : Nat} (hi : i < N) (hk : kd i ≤ 6) (h0 : 0 < i) : kd (up i) = 0 ∨ kd (up i) = 3 ∨ kd (up i) = 4 := by
  obtain ⟨u1, u2⟩ := h.2.2.2.2.2.1 i h0 hi
  rcases z_cases h (show up i < N by omega) with ⟨k, _⟩ | ⟨k, e, e1, e2⟩ | ⟨k, l, e, _⟩ | ⟨k, l, l2, e, _⟩ | ⟨k, l, e, _⟩ | ⟨k, e⟩ | ⟨k, b, e, e1, e2, e3, e4⟩ | ⟨k, e⟩
  · exact Or.inl k
  · rw [e] at u2
    have := List.mem_singleton.mp u2
    rw [this] at hk; omega
  · exact Or.inr (Or.inl k)
  · exact Or.inr (Or.inl k)
  · exact Or.inr (Or.inr k)
  · rw [e] at u2; cases u2
  · rw [e] at u2
    simp only [List.mem_cons, List.not_mem_nil, or_false] at u2
    rcases u2 with u | u <;> rw [u] at hk <;> omega
  · rw [e] at u2; cases u2
theorem z_lpw {N : Nat} {kd sz ht up lp : Nat → Nat} {ks : Nat → List Nat} (h : z_pre N kd sz ht up ks) (hl : z_lps N kd lp ks) : ∀ (n i : Nat), i ≤ n → i < N → kd i ≤ 6 → 0 < lp i → lp i - 1 < i ∧ kd (lp i - 1) = 4 ∧ i < lp i - 1 + sz (lp i - 1) := by
  intro n
  induction n with
  | zero =>
    intro i h1 h2 h3 h4
    have : i = 0 := by omega
    subst this
    rw [hl.1] at h4; omega
  | succ n ih =>
    intro i h1 h2 h3 h4
    by_cases h0 : i = 0
    · subst h0; rw [hl.1] at h4; omega
    · obtain ⟨u1, u2⟩ := h.2.2.2.2.2.1 i (by omega) h2
      obtain ⟨v1, v2, v3, v4⟩ := z_pre_kids h (up i) (by omega) i u2
      have hp := z_par h h2 h3 (by omega)
      have e := hl.2.1 (up i) (by omega) hp i u2
      have hs := (h.2.2.2.2.1 i h2).1
      by_cases hk : kd (up i) = 4
      · rw [if_pos hk] at e
        rw [e]
        exact ⟨by omega, by rw [Nat.add_sub_cancel]; exact hk, by rw [Nat.add_sub_cancel]; omega⟩
      · rw [if_neg hk] at e
        rw [e] at h4 ⊢
        have g := ih (up i) (by omega) (by omega) (by omega) h4
        have hl2 := z_lam h (up i - (lp (up i) - 1)) (lp (up i) - 1) (up i) (Nat.le_refl _) (by omega) (by omega) g.2.2
        exact ⟨by omega, g.2.1, by omega⟩
theorem z_bsh {N : Nat} {kd sz ht up wc st bs : Nat → Nat} {ks : Nat → List Nat} (h : z_pre N kd sz ht up ks) (hc : z_cd N kd ks wc st bs) : ∀ (n i : Nat), i ≤ n → i < N → bs i + ht i ≤ 200 := by
  intro n
  induction n with
  | zero =>
    intro i h1 h2
    have : i = 0 := by omega
    subst this
    have := hc.2.2.2.1
    have := (h.2.2.2.2.1 0 h2).2.2.2.2.2
    omega
  | succ n ih =>
    intro i h1 h2
    by_cases h0 : i = 0
    · subst h0
      have := hc.2.2.2.1
      have := (h.2.2.2.2.1 0 h2).2.2.2.2.2
      omega
    · obtain ⟨u1, u2⟩ := h.2.2.2.2.2.1 i (by omega) h2
      have g := ih (up i) (by omega) (by omega)
      have hh := ((h.2.2.2.2.1 (up i) (by omega)).2.2.2.1 i u2).2
      have hi := (h.2.2.2.2.1 i h2).2.2.2.2.2
      have hb := hc.2.2.2.2 (up i) (by omega) i u2
      split at hb
      · omega
      · split at hb
        · omega
        · split at hb <;> omega
/-- behind a statement: nothing on the pile -/
theorem z_De {N : Nat} {kd sz ht up wc st bs lp : Nat → Nat} {tv : Nat → Int32} {ks : Nat → List Nat} (h : z_pre N kd sz ht up ks) (hc : z_cd N kd ks wc st bs) {f : Nat → Nat × Int32 × Nat} (hf : ∀ i, i < N → ∀ p e, (p, e) ∈ z_wl kd ks wc st bs lp tv i → f p = e) (hf0 : f (wc 0) = (16, 0, 0)) {i : Nat} (hS : ∀ j, i < j → j < N → (f (st j)).2.2 = bs j) : ∀ (n a : Nat), a ≤ n → a < N → a ≤ i → i < a + sz a → kd a ≤ 6 → (f (st a + wc a)).2.2 = 0 := by
  intro n
  induction n with
  | zero =>
    intro a h1 h2 h3 h4 h5
    have : a = 0 := by omega
    subst this
    rw [hc.2.1, Nat.zero_add, hf0]
  | succ n ih =>
    intro a h1 h2 h3 h4 h5
    by_cases h0 : a = 0
    · subst h0; rw [hc.2.1, Nat.zero_add, hf0]
    · obtain ⟨u1, u2⟩ := h.2.2.2.2.2.1 a (by omega) h2
      obtain ⟨v1, v2, v3, v4⟩ := z_pre_kids h (up a) (by omega) a u2
      have hy : up a < N := by omega
      have rec' : kd (up a) ≤ 6 → (f (st (up a) + wc (up a))).2.2 = 0 := fun hk => ih (up a) (by omega) hy (by omega) (by omega) hk
      have hw := hc.1 (up a) hy
      rcases z_cases h hy with ⟨k, kx⟩ | ⟨k, e, e1, e2⟩ | ⟨k, l, e, _⟩ | ⟨k, l, l2, e, _⟩ | ⟨k, l, e, _⟩ | ⟨k, e⟩ | ⟨k, b, e, e1, e2, e3, e4⟩ | ⟨k, e⟩
      · have ho : z_ow (kd (up a)) (ks (up a)).length = 0 := by rw [k]; rfl
        have hb : z_wb (kd (up a)) = 0 := by rw [k]; rfl
        have hst := hc.2.2.1 (up a) hy a u2
        rw [hb] at hst
        have key : ∀ (l : List Nat) (lo hi : Nat), z_segP sz lo hi l → (∀ j, j < hi → 1 ≤ sz j) → a ∈ l → (a + sz a = hi ∧ z_off wc 0 l a + wc a = (l.map wc).sum) ∨ (a + sz a < hi ∧ (a + sz a) ∈ l ∧ z_off wc 0 l (a + sz a) = z_off wc 0 l a + wc a) := by
          intro l
          induction l with
          | nil => intro lo hi _ _ hm; cases hm
          | cons x t iht =>
            intro lo hi hl hpos hm
            obtain ⟨a1, a2, a3⟩ := hl
            by_cases hx : x = a
            · subst hx
              cases t with
              | nil =>
                left
                exact ⟨a3, by simp [z_off]⟩
              | cons y t =>
                right
                obtain ⟨b1, b2, b3⟩ := a3
                have := hpos x a2
                refine ⟨by omega, by rw [← b1]; simp, ?_⟩
                rw [← b1]
                have hne : ¬ x = y := by omega
                simp [z_off, hne]
            · have hm' := (List.mem_cons.mp hm).resolve_left (fun e => hx e.symm)
              have hmm := z_segP_mem _ _ _ a3 a hm'
              rcases iht _ _ a3 hpos hm' with ⟨g1, g2⟩ | ⟨g1, g2, g3⟩
              · left
                refine ⟨g1, ?_⟩
                simp only [z_off, if_neg hx, List.map_cons, List.sum_cons]
                omega
              · right
                have hsz := hpos a (by omega)
                have hne : ¬ x = a + sz a := by have := hpos x a2; omega
                refine ⟨g1, List.mem_cons_of_mem _ g2, ?_⟩
                simp only [z_off, if_neg hx, if_neg hne]
                omega
        rcases key _ _ _ (h.2.2.2.2.1 (up a) hy).2.2.1 (fun j hj => (h.2.2.2.2.1 j (by have := (h.2.2.2.2.1 (up a) hy).2.1; omega)).1) u2 with ⟨g1, g2⟩ | ⟨g1, g2, g3⟩
        · rw [show st a + wc a = st (up a) + wc (up a) by omega]
          exact rec' (by omega)
        · have hn := hc.2.2.1 (up a) hy _ g2
          rw [hb] at hn
          obtain ⟨w1, w2, w3, w4⟩ := z_pre_kids h (up a) hy _ g2
          rw [show st a + wc a = st (a + sz a) by omega, hS (a + sz a) (by omega) w3]
          exact z_bs0 h hc w3 (kx _ g2)
      · rw [e] at u2
        have := List.mem_singleton.mp u2
        rw [this] at h5; omega
      · obtain ⟨q1, q2, q3, q4, q5, q6, q7, q8, q9, q10⟩ := z_k2 h hc hy e
        have ho : z_ow (kd (up a)) 2 = 1 := by rw [k]; rfl
        have hb : z_wb (kd (up a)) = 1 := by rw [k]; rfl
        rw [e] at u2
        simp only [List.mem_cons, List.not_mem_nil, or_false] at u2
        rcases u2 with u | u
        · rw [u] at h5; omega
        · rw [show st a + wc a = st (up a) + wc (up a) by have := congrArg st u; have := congrArg wc u; omega]
          exact rec' (by omega)
      · obtain ⟨q1, q2, q3, q4, q5, q6, q7, q8, q9, q10, q11, q12, q13, q14⟩ := z_k3 h hc hy e
        have ho : z_ow (kd (up a)) 3 = 2 := by rw [k]; rfl
        have hb : z_wb (kd (up a)) = 1 := by rw [k]; rfl
        have hz : z_wl kd ks wc st bs lp tv (up a) = [(st (up a + 1) + wc (up a + 1), 14, nI (st l + wc l + 1), 1), (st l + wc l, 13, nI (st (up a) + wc (up a)), 0)] := by simp [z_wl, k, e]
        rw [e] at u2
        simp only [List.mem_cons, List.not_mem_nil, or_false] at u2
        rcases u2 with u | u | u
        · rw [u] at h5; omega
        · rw [u, hf (up a) hy (st l + wc l) (13, nI (st (up a) + wc (up a)), 0) (by rw [hz]; exact List.mem_cons_of_mem _ List.mem_cons_self)]
        · rw [show st a + wc a = st (up a) + wc (up a) by have := congrArg st u; have := congrArg wc u; omega]
          exact rec' (by omega)
      · obtain ⟨q1, q2, q3, q4, q5, q6, q7, q8, q9, q10⟩ := z_k2 h hc hy e
        have ho : z_ow (kd (up a)) 2 = 2 := by rw [k]; rfl
        have hb : z_wb (kd (up a)) = 1 := by rw [k]; rfl
        have hz : z_wl kd ks wc st bs lp tv (up a) = [(st (up a + 1) + wc (up a + 1), 14, nI (st (up a) + wc (up a)), 1), (st (up a) + wc (up a) - 1, 13, nI (st (up a)), 0)] := by simp [z_wl, k]
        rw [e] at u2
        simp only [List.mem_cons, List.not_mem_nil, or_false] at u2
        rcases u2 with u | u
        · rw [u] at h5; omega
        · rw [show st a + wc a = st (up a) + wc (up a) - 1 by have := congrArg st u; have := congrArg wc u; omega, hf (up a) hy _ (13, nI (st (up a)), 0) (by rw [hz]; exact List.mem_cons_of_mem _ List.mem_cons_self)]
      · rw [e] at u2; cases u2
      · rw [e] at u2
        simp only [List.mem_cons, List.not_mem_nil, or_false] at u2
        rcases u2 with u | u <;> rw [u] at h5 <;> omega
      · rw [e] at u2; cases u2
