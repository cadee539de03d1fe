/-! A TOKEN; ALL TOKENS -/
def z_tok (t : Nat → Int32) (n : Nat) (s : z_LS) (i : Nat) : Option (z_LS × Nat) :=
  if z_let (t i) = true then (match z_nmT t s i (z_end t z_nd (n - i) i - i) with | some s' => some (s', z_end t z_nd (n - i) i - i) | none => none)
  else if z_dig (t i) = true then some (z_put s 2 (nI i) (nI (z_end t z_dig (n - i) i - i)) (z_num t (n - i) i 0), z_end t z_dig (n - i) i - i)
  else z_sgT t n s i
theorem s_K_addToken {X : mz_X} {m : mz_M} {Q : Int32 → mz_M → Prop} {s : z_LS} {n i : Nat} (hn : n ≤ 4000) (hlen : m 2 10 = nI n) (ht : z_txt (m 1) n) (hi : i < n) (hc : s.1 ≤ 4000) (hk : s.2.1 ≤ 32) (hok : z_nok s.2.2.2.2.2.2.1 s.2.2.2.2.2.2.2 n s.2.1) (hR : z_RA m s) (h1 : ∀ s' z m', z_tok (m 1) n s i = some (s', z) → z_RA m' s' → z_frA m m' → Q (nI z) m') (h2 : z_tok (m 1) n s i = none → Q 0 m) : mz_gi X mz_sh 67 0 [some (.ref 2), some (.int (nI i))] m Q := by
  obtain ⟨b, hb, e⟩ := ht i hi
  have hin : mz_inb (nI i) 4000 = true := mz_inbN (by omega) (by decide)
  refine t_K_addToken_0 _ ⟨hin, ?_⟩
  rw [nI_clamp (by omega)]
  refine s_K_isDigit ⟨fun h => ⟨hin, s_K_isLetter ⟨fun h3 => ?_, fun h3 => ?_⟩⟩, fun h => ?_⟩
  · unfold z_tok at h1 h2
    rw [z_b0.mp h3, z_b0.mp h] at h1 h2
    simp only [Bool.false_eq_true, if_false] at h1 h2
    exact s_K_addSign hn hlen ht hi hc hR h1 h2
  · have hl : z_let (m 1 i) = true := by
      cases hz : z_let (m 1 i) with
      | true => rfl
      | false => exact absurd (z_b0.mpr hz) h3
    unfold z_tok at h1 h2
    rw [if_pos hl] at h1 h2
    refine t_K_addWordOrName_0 _ (s_K_addWord1 hn hlen hc hk hok hR (n - i) i (by omega) (Nat.le_refl _) (fun s' m' g1 g2 g3 => h1 s' _ m' ?_ g2 g3) (fun g => h2 ?_))
    · rw [g1]
    · rw [g]
  · have hd : z_dig (m 1 i) = true := by
      cases hz : z_dig (m 1 i) with
      | true => rfl
      | false => exact absurd (z_b0.mpr hz) h
    have hl : ¬ z_let (m 1 i) = true := by
      rw [e] at hd ⊢
      rw [z_ld b hb hd]
      decide
    unfold z_tok at h1
    rw [if_neg hl, if_pos hd] at h1
    exact s_K_addNumber hn hlen hc hR (by omega) (fun m' g1 g2 => h1 _ _ m' rfl g1 g2)
theorem s_M_readToken {X : mz_X} {m : mz_M} {Q : Int32 → mz_M → Prop} {s : z_LS} {n i : Nat} (hn : n ≤ 4000) (hlen : m 55 12 = nI n) (ht : z_txt (m 66) n) (hi : i < n) (hc : s.1 ≤ 4000) (hk : s.2.1 ≤ 32) (hok : z_nok s.2.2.2.2.2.2.1 s.2.2.2.2.2.2.2 n s.2.1) (hR : z_RB m s) (h1 : ∀ s' z m', z_tok (m 66) n s i = some (s', z) → z_RB m' s' → z_frB m m' → Q 1 m') (h2 : z_tok (m 66) n s i = none → Q 0 m) : mz_gi X mz_sh 143 0 [some (.ref 55), some (.int (nI i)), none, none, none] m Q := by
  obtain ⟨b, hb, e⟩ := ht i hi
  refine t_M_readToken_0 _ (s_M_byteAt hn hlen (by omega) ?_)
  rw [if_pos hi, nI_1]
  refine s_M_isLetter ⟨fun h => s_M_isDigit ⟨fun h3 => s_M_byteAt (i := i + 1) hn hlen (by omega) ?_, fun h3 => ?_⟩, fun h => ?_⟩
  · unfold z_tok at h1 h2
    rw [z_b0.mp h3, z_b0.mp h] at h1 h2
    simp only [Bool.false_eq_true, if_false] at h1 h2
    unfold z_sgT at h1 h2
    have hE : decide ((if i + 1 < n then m 66 (i + 1) else -1) = m 66 i) = z_e (m 66) n i := by
      unfold z_e
      by_cases h4 : i + 1 < n
      · rw [if_pos h4]
        simp [h4]
      · rw [if_neg h4]
        have h5 : ¬ (-1 : Int32) = nI b := by
          have : ∀ b, b < 256 → ¬ (-1 : Int32) = nI b := by decide +kernel
          exact this b hb
        rw [e]
        simp [h4, h5]
    refine s_M_signKind ?_
    rw [hE]
    have hG := z_sgr b hb (z_e (m 66) n i)
    rw [← e] at hG
    refine ⟨fun h4 => ?_, fun h4 => ?_⟩
    · have hne : ¬ z_sgk (m 66 i) (z_e (m 66) n i) = -1 := by
        intro h5
        rw [h5] at h4
        exact absurd h4 (by decide)
      have h9 : 9 ≤ z_sgk (m 66 i) (z_e (m 66) n i) := by
        rcases hG.1 with h5 | h5
        · exact absurd h5 hne
        · exact h5.1
      rw [if_neg hne] at h1
      refine ⟨fun h5 => absurd h5 (Int32.not_lt.mpr h9), fun _ => ⟨fun h5 => ?_, fun h5 => ?_⟩⟩
      · rw [if_neg (fun h6 => absurd h5 (Int32.not_lt.mpr h6.2))] at h1
        exact s_M_add hc hR (fun m' g1 g2 => h1 _ _ m' rfl g1 g2)
      · rw [if_pos ⟨h9, Int32.not_lt.mp h5⟩] at h1
        exact s_M_add hc hR (fun m' g1 g2 => h1 _ _ m' rfl g1 g2)
    · have h5 : z_sgk (m 66 i) (z_e (m 66) n i) = -1 := by
        rcases hG.1 with h5 | h5
        · exact h5
        · exact absurd (Int32.le_trans (by decide) h5.1) h4
      rw [if_pos h5] at h2
      exact h2 rfl
  · have hd : z_dig (m 66 i) = true := by
      cases hz : z_dig (m 66 i) with
      | true => rfl
      | false => exact absurd (z_b0.mpr hz) h3
    unfold z_tok at h1
    rw [z_b0.mp h, hd] at h1
    simp only [Bool.false_eq_true, if_false, if_true] at h1
    exact s_M_number1 hn hlen hc hR (n - i) i 0 (by omega) (Nat.le_refl _) (fun m' g1 g2 => h1 _ _ m' rfl g1 g2)
  · have hl : z_let (m 66 i) = true := by
      cases hz : z_let (m 66 i) with
      | true => rfl
      | false => exact absurd (z_b0.mpr hz) h
    unfold z_tok at h1 h2
    rw [if_pos hl] at h1 h2
    have hae : i < z_end (m 66) z_nd (n - i) i := by
      obtain ⟨k, hk2⟩ : ∃ k, n - i = k + 1 := ⟨n - i - 1, by omega⟩
      rw [hk2]
      have hnd : z_nd (m 66 i) = true := by rw [z_nd, hl, Bool.true_or]
      simp only [z_end, hnd, if_true]
      have := z_end_ge (m 66) z_nd k (i + 1)
      omega
    have h0 : ¬ m 66 i = 0 := by
      rw [e] at hl ⊢
      exact z_let0 b hb hl
    refine t_M_readName_0 _ (s_M_readName1 hn hlen ht h0 hc hk hok hR (n - i) i (by omega) (Nat.le_refl _) hae (fun s' m' g1 g2 g3 => ⟨Or.inr rfl, h1 s' (z_end (m 66) z_nd (n - i) i - i) m' (by rw [g1]) g2 g3⟩) (fun g => ⟨Or.inl rfl, h2 (by rw [g])⟩))
