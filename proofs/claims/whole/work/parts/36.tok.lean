/-! SIGNS AND TOKENS -/
/-- the kind of a sign; whether the next byte is the same -/
def z_sgk (c : Int32) (e : Bool) : Int32 := if c = 33 then 18 else if c = 37 then 17 else if c = 38 then (if e = true then 10 else -1) else if c = 40 then 21 else if c = 41 then 22 else if c = 42 then 15 else if c = 43 then 13 else if c = 45 then 14 else if c = 47 then 16 else if c = 59 then 20 else if c = 60 then 12 else if c = 61 then (if e = true then 11 else 19) else if c = 123 then 23 else if c = 124 then (if e = true then 9 else -1) else if c = 125 then 24 else -1
def z_d2 (b : Nat) : Int32 := z_ix ([124, 38, 61] : List Int32) (nI b).toInt8.toInt32 3 0
def z_d1 (b : Nat) : Int32 := z_ix ([60, 43, 45, 42, 47, 37, 33, 61, 59, 40, 41, 123, 125] : List Int32) (nI b).toInt8.toInt32 13 0
theorem z_sgA : ∀ b, b < 256 → ∀ e : Bool, z_sgk (nI b) e = (if 0 ≤ z_d2 b ∧ e = true then 9 + z_d2 b else if 0 ≤ z_d1 b then 12 + z_d1 b else -1) := by decide +kernel
theorem z_sgr : ∀ b, b < 256 → ∀ e : Bool, (z_sgk (nI b) e = -1 ∨ (9 ≤ z_sgk (nI b) e ∧ z_sgk (nI b) e ≤ 24)) ∧ ((9 ≤ z_sgk (nI b) e ∧ z_sgk (nI b) e ≤ 11) ↔ (0 ≤ z_d2 b ∧ e = true)) := by decide +kernel
theorem z_ld : ∀ b, b < 256 → z_dig (nI b) = true → z_let (nI b) = false := by decide +kernel
theorem z_c16 : ∀ b, b < 256 → ((nI b).toUInt32 % 65536).toInt32 = nI b := by decide +kernel
theorem z_let0 : ∀ b, b < 256 → z_let (nI b) = true → ¬ nI b = 0 := by decide +kernel
theorem s_M_signKind {X : mz_X} {m : mz_M} {Q : Int32 → mz_M → Prop} {c d : Int32} (hQ : Q (z_sgk c (decide (d = c))) m) : mz_gi X mz_sh 140 0 [some (.int c), some (.int d)] m Q := by
  unfold z_sgk at hQ
  refine t_M_signKind_0 _ _ ⟨fun h => ?_, fun h => ?_, fun h => ?_, fun h => ?_, fun h => ?_, fun h => ?_, fun h => ?_, fun h => ?_, fun h => ?_, fun h => ?_, fun h => ?_, fun h => ?_, fun h => ?_, fun h => ?_, fun h => ?_, fun a1 a2 a3 a4 a5 a6 a7 a8 a9 a10 a11 a12 a13 a14 a15 => ?_⟩
  · subst h; exact hQ
  · subst h; exact hQ
  · subst h
    refine ⟨fun h2 => ?_, fun h2 => ?_⟩
    · simp [h2] at hQ; exact hQ
    · simp [h2] at hQ; exact hQ
  · subst h; exact hQ
  · subst h; exact hQ
  · subst h; exact hQ
  · subst h; exact hQ
  · subst h; exact hQ
  · subst h; exact hQ
  · subst h; exact hQ
  · subst h; exact hQ
  · subst h
    refine ⟨fun h2 => ?_, fun h2 => ?_⟩
    · simp [h2] at hQ; exact hQ
    · simp [h2] at hQ; exact hQ
  · subst h; exact hQ
  · subst h
    refine ⟨fun h2 => ?_, fun h2 => ?_⟩
    · simp [h2] at hQ; exact hQ
    · simp [h2] at hQ; exact hQ
  · subst h; exact hQ
  · rw [if_neg a1, if_neg a2, if_neg a3, if_neg a4, if_neg a5, if_neg a6, if_neg a7, if_neg a8, if_neg a9, if_neg a10, if_neg a11, if_neg a12, if_neg a13, if_neg a14, if_neg a15] at hQ
    exact hQ
/-- whether the byte behind a place is the same -/
def z_e (t : Nat → Int32) (n i : Nat) : Bool := decide (i + 1 < n) && decide (t (i + 1) = t i)
def z_sgT (t : Nat → Int32) (n : Nat) (s : z_LS) (i : Nat) : Option (z_LS × Nat) :=
  if z_sgk (t i) (z_e t n i) = -1 then none else if 9 ≤ z_sgk (t i) (z_e t n i) ∧ z_sgk (t i) (z_e t n i) ≤ 11 then some (z_put s (z_sgk (t i) (z_e t n i)) (nI i) 2 0, 2) else some (z_put s (z_sgk (t i) (z_e t n i)) (nI i) 1 0, 1)
theorem s_K_addSign {X : mz_X} {m : mz_M} {Q : Int32 → mz_M → Prop} {s : z_LS} {n i : Nat} (hn : n ≤ 4000) (hlen : m 2 10 = nI n) (ht : z_txt (m 1) n) (hi : i < n) (hc : s.1 ≤ 4000) (hR : z_RA m s) (h1 : ∀ s' z m', z_sgT (m 1) n s i = some (s', z) → z_RA m' s' → z_frA m m' → Q (nI z) m') (h2 : z_sgT (m 1) n s i = none → Q 0 m) : mz_gi X mz_sh 70 0 [some (.ref 2), some (.int (nI i)), none, none] m Q := by
  obtain ⟨b, hb, e⟩ := ht i hi
  unfold z_sgT at h1 h2
  rw [e] at h1 h2
  refine t_K_addSign_0 _ ⟨mz_inbN (by omega) (by decide), ?_⟩
  rw [nI_clamp (by omega), e, z_c16 b hb]
  have hA := z_sgA b hb (z_e (m 1) n i)
  have hG := z_sgr b hb (z_e (m 1) n i)
  have single : ¬ (0 ≤ z_d2 b ∧ z_e (m 1) n i = true) → mz_gi X mz_sh 194 0 [some (.ref 317), some (.int (nI b))] m (fun r10 m8 => ((0 ≤ r10 → mz_gi X mz_sh 71 0 [some (.ref 2), some (.int (12 + r10)), some (.int (nI i)), some (.int 1), some (.int 0)] m8 (fun r15 m13 => Q r15 m13)) ∧ (¬ (0 ≤ r10) → Q 0 m8))) := by
    intro hno
    rw [if_neg hno] at hA
    have hno2 : ¬ (9 ≤ z_sgk (nI b) (z_e (m 1) n i) ∧ z_sgk (nI b) (z_e (m 1) n i) ≤ 11) := fun h => hno (hG.2.mp h)
    refine s_J_index7 hb ⟨fun h => ?_, fun h => ?_⟩
    · have h : 0 ≤ z_d1 b := h
      have h3 : z_sgk (nI b) (z_e (m 1) n i) = 12 + z_d1 b := by rw [hA, if_pos h]
      refine s_K_add hc hR (fun m' g1 g2 => h1 _ 1 m' ?_ g1 g2)
      have hne : ¬ z_sgk (nI b) (z_e (m 1) n i) = -1 := by
        intro h4
        have : ∀ b, b < 256 → 0 ≤ z_d1 b → ¬ 12 + z_d1 b = -1 := by decide +kernel
        exact this b hb h (h3 ▸ h4)
      rw [if_neg hne, if_neg hno2, h3]
      rfl
    · refine h2 ?_
      have h : ¬ 0 ≤ z_d1 b := h
      have h3 : z_sgk (nI b) (z_e (m 1) n i) = -1 := by rw [hA, if_neg h]
      rw [if_pos h3]
  refine s_J_index6 hb ⟨fun h => ?_, fun h => ?_⟩
  · exact single (fun h3 => absurd h (Int32.not_lt.mpr h3.1))
  · have h0 : 0 ≤ z_d2 b := Int32.not_lt.mp h
    rw [nI_1]
    refine ⟨fun h3 => ?_, fun h3 => ⟨?_, fun h4 => ?_, fun h4 => ?_⟩⟩
    · rw [hlen] at h3
      refine single (fun h4 => ?_)
      have h5 := h4.2
      simp only [z_e, Bool.and_eq_true, decide_eq_true_eq] at h5
      exact nI_ge h5.1 (by omega) h3
    · rw [hlen] at h3
      exact mz_inbN (Nat.lt_of_lt_of_le (Nat.lt_of_not_le (fun h4 => h3 (nI_le h4 (by omega)))) hn) (by decide)
    · rw [hlen] at h3
      have h5 : i + 1 < n := Nat.lt_of_not_le (fun h4 => h3 (nI_le h4 (by omega)))
      rw [nI_clamp (by omega)] at h4
      have he : z_e (m 1) n i = true := by simp [z_e, h5, h4, e]
      rw [he] at hA hG h1
      rw [if_pos ⟨h0, rfl⟩] at hA
      have hin := hG.2.mpr ⟨h0, rfl⟩
      refine s_K_add hc hR (fun m' g1 g2 => h1 _ 2 m' ?_ g1 g2)
      have hne : ¬ z_sgk (nI b) true = -1 := by
        intro h6
        rw [h6] at hin
        exact absurd hin.1 (by decide)
      rw [if_neg hne, if_pos hin, hA]
      rfl
    · refine single (fun h5 => h4 ?_)
      have h6 := h5.2
      simp only [z_e, Bool.and_eq_true, decide_eq_true_eq] at h6
      rw [nI_clamp (by omega), h6.2, e]
