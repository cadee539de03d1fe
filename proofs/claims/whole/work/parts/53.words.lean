/-! the words of a node: place, word, value, the pile's depth before it -/
def z_wl (kd : Nat → Nat) (ks : Nat → List Nat) (wc st bs lp : Nat → Nat) (tv : Nat → Int32) (i : Nat) : List (Nat × Nat × Int32 × Nat) :=
  if kd i = 0 then []
  else if kd i = 1 then [(st i + wc i - 1, 2, tv i, 1)]
  else if kd i = 2 then [(st i + wc i - 1, 15, 0, 1)]
  else if kd i = 3 then (if (ks i).length = 3 then [(st (i + 1) + wc (i + 1), 14, nI (st ((ks i).getD 1 0) + wc ((ks i).getD 1 0) + 1), 1), (st ((ks i).getD 1 0) + wc ((ks i).getD 1 0), 13, nI (st i + wc i), 0)] else [(st (i + 1) + wc (i + 1), 14, nI (st i + wc i), 1)])
  else if kd i = 4 then [(st (i + 1) + wc (i + 1), 14, nI (st i + wc i), 1), (st i + wc i - 1, 13, nI (st i), 0)]
  else if kd i = 5 then [(st i, 13, nI (st (lp i - 1) + wc (lp i - 1)), 0)]
  else if kd i = 6 then [(st i, 13, nI (st (lp i - 1)), 0)]
  else if kd i = 7 then [(st (i + 1) + wc (i + 1), 14, nI (st (i + 1) + wc (i + 1) + 3), bs i + 1), (st (i + 1) + wc (i + 1) + 1, 0, 1, bs i), (st (i + 1) + wc (i + 1) + 2, 13, nI (st i + wc i), bs i + 1), (st i + wc i - 1, 12, 0, bs i + 1)]
  else if kd i = 8 then [(st (i + 1) + wc (i + 1), 14, nI (st i + wc i - 1), bs i + 1), (st i + wc i - 3, 12, 0, bs i + 1), (st i + wc i - 2, 13, nI (st i + wc i), bs i + 1), (st i + wc i - 1, 0, 0, bs i)]
  else if kd i ≤ 15 then [(st i + wc i - 1, z_kw (kd i), 0, bs i + 2)]
  else if kd i ≤ 17 then [(st i + wc i - 1, kd i - 6, 0, bs i + 1)]
  else if kd i = 18 then [(st i, 1, tv i, bs i)]
  else [(st i, 0, tv i, bs i)]
/-- a node's words stand in it, in none of its parts; and each at a place of its own -/
theorem z_wl_out {N : Nat} {kd sz ht up wc st bs lp : Nat → Nat} {tv : Nat → Int32} {ks : Nat → List Nat} (h : z_pre N kd sz ht up ks) (hc : z_cd N kd ks wc st bs) {i : Nat} (hi : i < N) : (∀ p e, (p, e) ∈ z_wl kd ks wc st bs lp tv i → st i ≤ p ∧ p < st i + wc i ∧ ∀ d, d ∈ ks i → p < st d ∨ st d + wc d ≤ p) ∧ (∀ p e e', (p, e) ∈ z_wl kd ks wc st bs lp tv i → (p, e') ∈ z_wl kd ks wc st bs lp tv i → e = e') := by
  have hw := hc.1 i hi
  rcases z_cases h hi with ⟨k, _⟩ | ⟨k, e, _⟩ | ⟨k, l, e, _⟩ | ⟨k, l, l2, e, _⟩ | ⟨k, l, e, _⟩ | ⟨k, e⟩ | ⟨k, b, e, _⟩ | ⟨k, e⟩
  · simp [z_wl, k]
  · obtain ⟨q1, q2, q3, q4, q5, q6, q7⟩ := z_k1 h hc hi e
    have ho : z_ow (kd i) 1 = 1 := by unfold z_ow; rcases k with k | k | k | k <;> rw [k] <;> rfl
    have hz : ∃ a b c, z_wl kd ks wc st bs lp tv i = [(st i + wc i - 1, a, b, c)] := by
      rcases k with k | k | k | k
      · exact ⟨2, tv i, 1, by simp [z_wl, k]⟩
      · exact ⟨15, 0, 1, by simp [z_wl, k]⟩
      · exact ⟨10, 0, bs i + 1, by simp [z_wl, k]⟩
      · exact ⟨11, 0, bs i + 1, by simp [z_wl, k]⟩
    obtain ⟨a, b, c, hz⟩ := hz
    rw [hz, e]
    refine ⟨fun p x hp => ?_, fun p x x' hp hp' => ?_⟩
    · simp only [List.mem_singleton, Prod.mk.injEq] at hp
      refine ⟨by omega, by omega, fun d hd => ?_⟩
      rw [List.mem_singleton.mp hd]
      omega
    · simp only [List.mem_singleton, Prod.mk.injEq] at hp hp'
      rw [hp.2, hp'.2]
  · obtain ⟨q1, q2, q3, q4, q5, q6, q7, q8, q9, q10⟩ := z_k2 h hc hi e
    have ho : z_ow (kd i) 2 = 1 := by rw [k]; rfl
    have hb : z_wb (kd i) = 1 := by rw [k]; rfl
    have hz : z_wl kd ks wc st bs lp tv i = [(st (i + 1) + wc (i + 1), 14, nI (st i + wc i), 1)] := by simp [z_wl, k, e]
    rw [hz, e]
    refine ⟨fun p x hp => ?_, fun p x x' hp hp' => ?_⟩
    · simp only [List.mem_singleton, Prod.mk.injEq] at hp
      refine ⟨by omega, by omega, fun d hd => ?_⟩
      simp only [List.mem_cons, List.not_mem_nil, or_false] at hd
      rcases hd with hd | hd <;> subst hd <;> omega
    · simp only [List.mem_singleton, Prod.mk.injEq] at hp hp'
      rw [hp.2, hp'.2]
  · obtain ⟨q1, q2, q3, q4, q5, q6, q7, q8, q9, q10, q11, q12, q13, q14⟩ := z_k3 h hc hi e
    have ho : z_ow (kd i) 3 = 2 := by rw [k]; rfl
    have hb : z_wb (kd i) = 1 := by rw [k]; rfl
    have hz : z_wl kd ks wc st bs lp tv i = [(st (i + 1) + wc (i + 1), 14, nI (st l + wc l + 1), 1), (st l + wc l, 13, nI (st i + wc i), 0)] := by simp [z_wl, k, e]
    rw [hz, e]
    refine ⟨fun p x hp => ?_, fun p x x' hp hp' => ?_⟩
    · simp only [List.mem_cons, List.not_mem_nil, or_false, Prod.mk.injEq] at hp
      refine ⟨by omega, by omega, fun d hd => ?_⟩
      simp only [List.mem_cons, List.not_mem_nil, or_false] at hd
      rcases hd with hd | hd | hd <;> subst hd <;> omega
    · simp only [List.mem_cons, List.not_mem_nil, or_false, Prod.mk.injEq] at hp hp'
      rcases hp with hp | hp <;> rcases hp' with hp' | hp' <;> first | (exfalso; omega) | rw [hp.2, hp'.2]
  · obtain ⟨q1, q2, q3, q4, q5, q6, q7, q8, q9, q10⟩ := z_k2 h hc hi e
    have ho : z_ow (kd i) 2 = 2 := by rw [k]; rfl
    have hb : z_wb (kd i) = 1 := by rw [k]; rfl
    have hz : z_wl kd ks wc st bs lp tv i = [(st (i + 1) + wc (i + 1), 14, nI (st i + wc i), 1), (st i + wc i - 1, 13, nI (st i), 0)] := by simp [z_wl, k]
    rw [hz, e]
    refine ⟨fun p x hp => ?_, fun p x x' hp hp' => ?_⟩
    · simp only [List.mem_cons, List.not_mem_nil, or_false, Prod.mk.injEq] at hp
      refine ⟨by omega, by omega, fun d hd => ?_⟩
      simp only [List.mem_cons, List.not_mem_nil, or_false] at hd
      rcases hd with hd | hd <;> subst hd <;> omega
    · simp only [List.mem_cons, List.not_mem_nil, or_false, Prod.mk.injEq] at hp hp'
      rcases hp with hp | hp <;> rcases hp' with hp' | hp' <;> first | (exfalso; omega) | rw [hp.2, hp'.2]
  · have ho : wc i = 1 := by
      rw [hw, e]
      rcases k with k | k <;> rw [k] <;> rfl
    have hz : ∃ a b c, z_wl kd ks wc st bs lp tv i = [(st i, a, b, c)] := by
      rcases k with k | k
      · exact ⟨_, _, _, by simp [z_wl, k]; exact ⟨rfl, rfl, rfl⟩⟩
      · exact ⟨_, _, _, by simp [z_wl, k]; exact ⟨rfl, rfl, rfl⟩⟩
    obtain ⟨a, b, c, hz⟩ := hz
    rw [hz, e]
    refine ⟨fun p x hp => ?_, fun p x x' hp hp' => ?_⟩
    · simp only [List.mem_singleton, Prod.mk.injEq] at hp
      refine ⟨by omega, by omega, fun d hd => by cases hd⟩
    · simp only [List.mem_singleton, Prod.mk.injEq] at hp hp'
      rw [hp.2, hp'.2]
  · obtain ⟨q1, q2, q3, q4, q5, q6, q7, q8, q9, q10⟩ := z_k2 h hc hi e
    have k3 : kd i = 7 ∨ kd i = 8 ∨ (9 ≤ kd i ∧ kd i ≤ 15) := by omega
    rcases k3 with k' | k' | k'
    · have ho : z_ow (kd i) 2 = 4 := by rw [k']; rfl
      have hb : z_wb (kd i) = 3 := by rw [k']; rfl
      have hz : z_wl kd ks wc st bs lp tv i = [(st (i + 1) + wc (i + 1), 14, nI (st (i + 1) + wc (i + 1) + 3), bs i + 1), (st (i + 1) + wc (i + 1) + 1, 0, 1, bs i), (st (i + 1) + wc (i + 1) + 2, 13, nI (st i + wc i), bs i + 1), (st i + wc i - 1, 12, 0, bs i + 1)] := by simp [z_wl, k']
      rw [hz, e]
      refine ⟨fun p x hp => ?_, fun p x x' hp hp' => ?_⟩
      · simp only [List.mem_cons, List.not_mem_nil, or_false, Prod.mk.injEq] at hp
        refine ⟨by omega, by omega, fun d hd => ?_⟩
        simp only [List.mem_cons, List.not_mem_nil, or_false] at hd
        rcases hd with hd | hd <;> subst hd <;> omega
      · simp only [List.mem_cons, List.not_mem_nil, or_false, Prod.mk.injEq] at hp hp'
        rcases hp with hp | hp | hp | hp <;> rcases hp' with hp' | hp' | hp' | hp' <;> first | (exfalso; omega) | rw [hp.2, hp'.2]
    · have ho : z_ow (kd i) 2 = 4 := by rw [k']; rfl
      have hb : z_wb (kd i) = 1 := by rw [k']; rfl
      have hz : z_wl kd ks wc st bs lp tv i = [(st (i + 1) + wc (i + 1), 14, nI (st i + wc i - 1), bs i + 1), (st i + wc i - 3, 12, 0, bs i + 1), (st i + wc i - 2, 13, nI (st i + wc i), bs i + 1), (st i + wc i - 1, 0, 0, bs i)] := by simp [z_wl, k']
      rw [hz, e]
      refine ⟨fun p x hp => ?_, fun p x x' hp hp' => ?_⟩
      · simp only [List.mem_cons, List.not_mem_nil, or_false, Prod.mk.injEq] at hp
        refine ⟨by omega, by omega, fun d hd => ?_⟩
        simp only [List.mem_cons, List.not_mem_nil, or_false] at hd
        rcases hd with hd | hd <;> subst hd <;> omega
      · simp only [List.mem_cons, List.not_mem_nil, or_false, Prod.mk.injEq] at hp hp'
        rcases hp with hp | hp | hp | hp <;> rcases hp' with hp' | hp' | hp' | hp' <;> first | (exfalso; omega) | rw [hp.2, hp'.2]
    · have ho : z_ow (kd i) 2 = 1 := by
        unfold z_ow
        rw [if_neg (by omega), if_neg (by omega), if_neg (by omega), if_neg (by omega), if_neg (by omega)]
      have hb : z_wb (kd i) = 0 := by
        unfold z_wb
        rw [if_neg (by omega), if_neg (by omega), if_neg (by omega), if_neg (by omega)]
      have hz : z_wl kd ks wc st bs lp tv i = [(st i + wc i - 1, z_kw (kd i), 0, bs i + 2)] := by
        unfold z_wl
        rw [if_neg (by omega), if_neg (by omega), if_neg (by omega), if_neg (by omega), if_neg (by omega), if_neg (by omega), if_neg (by omega), if_neg (by omega), if_neg (by omega), if_pos (by omega)]
      rw [hz, e]
      refine ⟨fun p x hp => ?_, fun p x x' hp hp' => ?_⟩
      · simp only [List.mem_singleton, Prod.mk.injEq] at hp
        refine ⟨by omega, by omega, fun d hd => ?_⟩
        simp only [List.mem_cons, List.not_mem_nil, or_false] at hd
        rcases hd with hd | hd <;> subst hd <;> omega
      · simp only [List.mem_singleton, Prod.mk.injEq] at hp hp'
        rw [hp.2, hp'.2]
  · have ho : wc i = 1 := by
      rw [hw, e]
      rcases k with k | k <;> rw [k] <;> rfl
    have hz : ∃ a b c, z_wl kd ks wc st bs lp tv i = [(st i, a, b, c)] := by
      rcases k with k | k
      · exact ⟨1, tv i, bs i, by simp [z_wl, k]⟩
      · exact ⟨0, tv i, bs i, by simp [z_wl, k]⟩
    obtain ⟨a, b, c, hz⟩ := hz
    rw [hz, e]
    refine ⟨fun p x hp => ?_, fun p x x' hp hp' => ?_⟩
    · simp only [List.mem_singleton, Prod.mk.injEq] at hp
      refine ⟨by omega, by omega, fun d hd => by cases hd⟩
    · simp only [List.mem_singleton, Prod.mk.injEq] at hp hp'
      rw [hp.2, hp'.2]
theorem z_wl_uni {N : Nat} {kd sz ht up wc st bs lp : Nat → Nat} {tv : Nat → Int32} {ks : Nat → List Nat} (h : z_pre N kd sz ht up ks) (hc : z_cd N kd ks wc st bs) {i j p : Nat} {e e' : Nat × Int32 × Nat} (hi : i < N) (hj : j < N) (h1 : (p, e) ∈ z_wl kd ks wc st bs lp tv i) (h2 : (p, e') ∈ z_wl kd ks wc st bs lp tv j) : e = e' := by
  have key : ∀ i j e e', i < N → j < N → i < j → (p, e) ∈ z_wl kd ks wc st bs lp tv i → (p, e') ∈ z_wl kd ks wc st bs lp tv j → False := by
    intro i j e e' hi hj hij h1 h2
    obtain ⟨a1, a2, a3⟩ := (z_wl_out h hc hi).1 p e h1
    obtain ⟨b1, b2, b3⟩ := (z_wl_out h hc hj).1 p e' h2
    by_cases hs : j < i + sz i
    · obtain ⟨d, d1, d2, d3, d4, d5⟩ := z_below h hi hij hs
      have := z_nest h hc (j - d) d j (Nat.le_refl _) (by omega) d3 d4
      have := a3 d d1
      omega
    · have := z_aft h hc i 0 i j (by omega) (by omega) (by omega) (by omega) (by rw [h.2.2.1]; omega)
      omega
  rcases Nat.lt_trichotomy i j with g | g | g
  · exact absurd (key i j e e' hi hj g h1 h2) id
  · subst g
    exact (z_wl_out h hc hi).2 p e e' h1 h2
  · exact absurd (key j i e' e hj hi g h2 h1) id
theorem z_wl_f {N : Nat} {kd sz ht up wc st bs : Nat → Nat} {ks : Nat → List Nat} (h : z_pre N kd sz ht up ks) (hc : z_cd N kd ks wc st bs) (lp : Nat → Nat) (tv : Nat → Int32) : ∃ f : Nat → Nat × Int32 × Nat, (∀ i, i < N → ∀ p e, (p, e) ∈ z_wl kd ks wc st bs lp tv i → f p = e) ∧ f (wc 0) = (16, 0, 0) := by
  classical
  refine ⟨fun p => if hp : ∃ e, ∃ i, i < N ∧ (p, e) ∈ z_wl kd ks wc st bs lp tv i then hp.choose else (16, 0, 0), fun i hi p e he => ?_, ?_⟩
  · have hp : ∃ e, ∃ i, i < N ∧ (p, e) ∈ z_wl kd ks wc st bs lp tv i := ⟨e, i, hi, he⟩
    show (if hp : ∃ e, ∃ i, i < N ∧ (p, e) ∈ z_wl kd ks wc st bs lp tv i then hp.choose else (16, 0, 0)) = e
    rw [dif_pos hp]
    obtain ⟨j, hj, hje⟩ := hp.choose_spec
    exact z_wl_uni h hc hj hi hje he
  · show (if hp : ∃ e, ∃ i, i < N ∧ (wc 0, e) ∈ z_wl kd ks wc st bs lp tv i then hp.choose else (16, 0, 0)) = _
    rw [dif_neg]
    rintro ⟨e, i, hi, he⟩
    have h1 := (z_wl_out h hc hi).1 _ _ he
    have h2 := z_nest h hc i 0 i (by omega) (by omega) (by omega) (by rw [h.2.2.1]; omega)
    have h3 := hc.2.1
    omega
