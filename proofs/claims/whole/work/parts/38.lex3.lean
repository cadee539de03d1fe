/-! ALL TOKENS -/
theorem z_if {P : Int32 → Prop} {c : Prop} {d : Decidable c} {a b : Int32} (h1 : P a) (h2 : P b) : P (@ite _ c d a b) := by
  by_cases h : c
  · rw [if_pos h]; exact h1
  · rw [if_neg h]; exact h2
theorem z_end_lt {t : Nat → Int32} {p : Int32 → Bool} {n i : Nat} (hi : i < n) (h : p (t i) = true) : i < z_end t p (n - i) i ∧ z_end t p (n - i) i ≤ n := by
  obtain ⟨k, hk⟩ : ∃ k, n - i = k + 1 := ⟨n - i - 1, by omega⟩
  rw [hk]
  simp only [z_end, h, if_true]
  have := z_end_ge t p k (i + 1)
  omega
/-- what holds of the tokens so far -/
def z_sok (n : Nat) (s : z_LS) (i : Nat) : Prop := s.1 ≤ i ∧ i ≤ n ∧ s.2.1 ≤ 32 ∧ z_nok s.2.2.2.2.2.2.1 s.2.2.2.2.2.2.2 n s.2.1
theorem z_nok_nam {n k a z : Nat} {nb nz : Nat → Int32} (h : z_nok nb nz n k) (ha : a + z ≤ n) : z_nok (upd nb k (nI a)) (upd nz k (nI z)) n (k + 1) := by
  intro s hs
  by_cases h1 : s = k
  · subst h1
    exact ⟨a, z, by simp [upd], by simp [upd], ha⟩
  · obtain ⟨p, q, h2, h3, h4⟩ := h s (by omega)
    exact ⟨p, q, by simp [upd, h1, h2], by simp [upd, h1, h3], h4⟩
theorem z_tok_ok {t : Nat → Int32} {n i z : Nat} {s s' : z_LS} (hi : i < n) (h : z_sok n s i) (ht : z_tok t n s i = some (s', z)) : 0 < z ∧ i + z ≤ n ∧ z_sok n s' (i + z) := by
  obtain ⟨h1, h2, h3, h4⟩ := h
  unfold z_tok at ht
  split at ht
  · rename_i hl
    have hnd : z_nd (t i) = true := by rw [z_nd, hl, Bool.true_or]
    obtain ⟨g1, g2⟩ := z_end_lt (p := z_nd) hi hnd
    split at ht
    · rename_i s2 hs2
      cases ht
      refine ⟨by omega, by omega, ?_⟩
      unfold z_nmT at hs2
      split at hs2
      · split at hs2
        · split at hs2
          · cases hs2
            exact ⟨by simp only [z_put]; omega, by omega, h3, h4⟩
          · split at hs2
            · rename_i hlt
              cases hs2
              refine ⟨by simp only [z_put, z_nam]; omega, by omega, by simp only [z_put, z_nam]; omega, ?_⟩
              exact z_nok_nam h4 (by omega)
            · cases hs2
        · cases hs2
      · cases hs2
        exact ⟨by simp only [z_put]; omega, by omega, h3, h4⟩
    · cases ht
  · split at ht
    · rename_i hd
      obtain ⟨g1, g2⟩ := z_end_lt (p := z_dig) hi hd
      cases ht
      exact ⟨by omega, by omega, by simp only [z_put]; omega, by omega, h3, h4⟩
    · unfold z_sgT at ht
      split at ht
      · cases ht
      · rename_i hne
        split at ht
        · rename_i h9
          cases ht
          have h5 : i + 1 < n := by
            cases he : z_e t n i with
            | true =>
              unfold z_e at he
              rw [Bool.and_eq_true, decide_eq_true_eq] at he
              exact he.1
            | false =>
              rw [he] at h9
              have : ∀ c : Int32, ¬ (9 ≤ z_sgk c false ∧ z_sgk c false ≤ 11) := by
                intro c
                have hmem : z_sgk c false ∈ ([18, 17, -1, 21, 22, 15, 13, 14, 16, 20, 12, 19, 23, 24] : List Int32) := by
                  unfold z_sgk
                  simp only [Bool.false_eq_true, if_false]
                  iterate 15 refine z_if (P := fun x => x ∈ ([18, 17, -1, 21, 22, 15, 13, 14, 16, 20, 12, 19, 23, 24] : List Int32)) (by decide) ?_
                  decide
                have hall : ∀ x ∈ ([18, 17, -1, 21, 22, 15, 13, 14, 16, 20, 12, 19, 23, 24] : List Int32), ¬ (9 ≤ x ∧ x ≤ 11) := by decide
                exact hall _ hmem
              exact absurd h9 (this _)
          exact ⟨by omega, by omega, by simp only [z_put]; omega, by omega, h3, h4⟩
        · cases ht
          exact ⟨by omega, by omega, by simp only [z_put]; omega, by omega, h3, h4⟩
/-- the newest token's size is the token's -/
theorem z_tok_sz {t : Nat → Int32} {n i z : Nat} {s s' : z_LS} (ht : z_tok t n s i = some (s', z)) : s'.1 = s.1 + 1 ∧ s'.2.2.2.2.1 s.1 = nI z := by
  unfold z_tok at ht
  split at ht
  · split at ht
    · rename_i s2 hs2
      cases ht
      unfold z_nmT at hs2
      split at hs2
      · split at hs2
        · split at hs2
          · cases hs2; exact ⟨rfl, by simp [z_put, upd]⟩
          · split at hs2
            · cases hs2; exact ⟨rfl, by simp [z_put, z_nam, upd]⟩
            · cases hs2
        · cases hs2
      · cases hs2; exact ⟨rfl, by simp [z_put, upd]⟩
    · cases ht
  · split at ht
    · cases ht; exact ⟨rfl, by simp [z_put, upd]⟩
    · unfold z_sgT at ht
      split at ht
      · cases ht
      · split at ht
        · cases ht; exact ⟨rfl, by simp [z_put, upd]; rfl⟩
        · cases ht; exact ⟨rfl, by simp [z_put, upd]; rfl⟩
/-- all tokens from a place on: fuel, place, tokens so far; the place of the error -/
def z_lexr (t : Nat → Int32) (n : Nat) : Nat → Nat → z_LS → z_LS × Option Nat
  | 0, _, s => (s, none)
  | k + 1, i, s => if i < n then (match z_tok t n s i with
    | none => (s, some i)
    | some (s', z) => z_lexr t n k (z_sk t false (n - (i + z)) (i + z)) s') else (s, none)
/-- THE END behind -/
def z_fin (n : Nat) (s : z_LS) : z_LS := (s.1, s.2.1, upd s.2.2.1 s.1 0, upd s.2.2.2.1 s.1 (nI n), upd s.2.2.2.2.1 s.1 0, upd s.2.2.2.2.2.1 s.1 0, s.2.2.2.2.2.2)
def z_frA6 (m m' : mz_M) : Prop := (∀ q, q ∉ [2, 3, 4, 5, 6, 7, 8] → m' q = m q) ∧ ∀ j, j ≠ 4 → j ≠ 5 → j ≠ 6 → m' 2 j = m 2 j
theorem s_K_read1 {X : mz_X} {Q : Int32 → mz_M → Prop} {n : Nat} {t : Nat → Int32} (hn : n ≤ 4000) (ht : z_txt t n) : ∀ (k i : Nat) (s : z_LS) (m : mz_M), n - i < k → z_sok n s i → m 2 10 = nI n → m 1 = t → z_RA m s → (∀ s' m', z_lexr t n k i s = (s', none) → z_RA m' (z_fin n s') → z_frA6 m m' → m' 2 6 = 1 → Q (-1) m') → (∀ s' p m', z_lexr t n k i s = (s', some p) → z_RA m' s' → z_frA m m' → Q (nI p) m') → mz_gi X mz_sh 65 21 [some (.ref 2), none, some (.int (nI i)), none] m Q := by
  intro k
  induction k with
  | zero => intro i s m hk; omega
  | succ k ih =>
    intro i s m hk hs hlen ht1 hR h1 h2
    have hs0 := hs
    obtain ⟨s1, s2, s3, s4⟩ := hs0
    refine t_K_read_1 _ ⟨fun h => ?_, fun h => ?_⟩
    · rw [hlen] at h
      have hin : ¬ i < n := fun h3 => nI_ge h3 (by omega) h
      simp only [z_lexr, if_neg hin] at h1
      obtain ⟨e1, e2, e3, e4, e5, e6, e7, e8⟩ := hR
      rw [hlen]
      refine t_K_put_0 _ _ _ _ ⟨fun h3 => ?_, fun _ => ?_⟩
      · rw [e1] at h3
        exact absurd h3 (nI_ge (b := 4001) (by omega) (by decide))
      · rw [e1, nI_clamp (by omega)]
        have hib : mz_inb (nI s.1) 4001 = true := mz_inbN (by omega) (by decide)
        refine ⟨hib, hib, hib, hib, h1 s _ rfl ⟨?_, ?_, ?_, ?_, ?_, ?_, ?_, ?_⟩ ⟨fun q hq => ?_, fun j j4 j5 j6 => ?_⟩ ?_⟩
        · simp [mz_up, upd, z_fin, e1]
        · simp [mz_up, upd, z_fin, e2]
        · simp [mz_up, z_fin, e3]
        · simp [mz_up, z_fin, e4]
        · simp [mz_up, z_fin, e5]
        · simp [mz_up, z_fin, e6]
        · simp [mz_up, z_fin, e7]
        · simp [mz_up, z_fin, e8]
        · simp only [List.mem_cons, List.not_mem_nil, or_false, not_or] at hq
          simp [mz_up, hq]
        · simp [mz_up, upd, j6]
        · simp [mz_up, upd]
    · rw [hlen] at h
      have hin : i < n := Nat.lt_of_not_le (fun h3 => h (nI_le h3 (by omega)))
      have ht' : z_txt (m 1) n := by rw [ht1]; exact ht
      refine s_K_addToken hn hlen ht' hin (by omega) s3 s4 hR (fun s' z m' g1 g2 g3 => ?_) (fun g1 => ?_)
      · rw [ht1] at g1
        obtain ⟨q1, q2, q3⟩ := z_tok_ok hin hs g1
        have hm1 : m' 1 = t := by rw [g3.1 1 (by decide), ht1]
        have hm10 : m' 2 10 = nI n := by rw [g3.2 10 (by decide) (by decide), hlen]
        refine ⟨fun _ => ?_, fun h3 => absurd (nI_lt (a := 0) q1 (by omega)) h3⟩
        rw [nI_add]
        refine s_K_behindBlanks hn hm10 q2 ?_
        rw [hm1]
        have hge := z_sk_ge t (n - (i + z)) false (i + z)
        simp only [z_lexr, if_pos hin, g1] at h1 h2
        refine ih _ s' m' (by omega) ⟨by have := q3.1; omega, by omega, q3.2.2⟩ hm10 hm1 g2 (fun s2 m2 w1 w2 w3 w4 => h1 s2 m2 w1 w2 ⟨fun q hq => (w3.1 q hq).trans (g3.1 q hq), fun j j4 j5 j6 => (w3.2 j j4 j5 j6).trans (g3.2 j j4 j5)⟩ w4) (fun s2 p m2 w1 w2 w3 => h2 s2 p m2 w1 w2 (g3.tr w3))
      · rw [ht1] at g1
        refine ⟨fun h3 => absurd h3 (by decide), fun _ => ?_⟩
        simp only [z_lexr, if_pos hin, g1] at h2
        exact h2 s i m rfl hR (z_frA.rf m)
theorem z_lexr_frB {m m1 m2 : mz_M} (h : z_frB m m1) (h2 : z_frB m1 m2) : z_frB m m2 := h.tr h2
def z_frB13 (m m' : mz_M) : Prop := (∀ q, q ∉ [55, 67, 68, 69, 70, 71, 72] → m' q = m q) ∧ ∀ j, j ≠ 13 → j ≠ 18 → j ≠ 21 → m' 55 j = m 55 j
theorem s_M_lex1 {X : mz_X} {Q : Int32 → mz_M → Prop} {n : Nat} {t : Nat → Int32} (hn : n ≤ 4000) (ht : z_txt t n) : ∀ (k i : Nat) (s : z_LS) (m : mz_M), n - i < k → z_sok n s i → m 55 12 = nI n → m 66 = t → z_RB m s → (∀ s' m', z_lexr t n k i s = (s', none) → z_RB m' (z_fin n s') → z_frB13 m m' → m' 55 13 = 1 → Q (nI s'.1) m') → (∀ s' p m', z_lexr t n k i s = (s', some p) → z_RB m' s' → z_frB m m' → Q ((-10) - nI p) m') → mz_gi X mz_sh 144 25 [some (.ref 55), some (.int (nI i))] m Q := by
  intro k
  induction k with
  | zero => intro i s m hk; omega
  | succ k ih =>
    intro i s m hk hs hlen ht1 hR h1 h2
    have hs0 := hs
    obtain ⟨s1, s2, s3, s4⟩ := hs0
    refine t_M_lex_1 _ ⟨fun h => ?_, fun h => ?_⟩
    · rw [hlen] at h
      have hin : ¬ i < n := fun h3 => nI_ge h3 (by omega) h
      simp only [z_lexr, if_neg hin] at h1
      obtain ⟨e1, e2, e3, e4, e5, e6, e7, e8⟩ := hR
      rw [hlen, e1, nI_clamp (by omega)]
      have hib : mz_inb (nI s.1) 4001 = true := mz_inbN (by omega) (by decide)
      refine ⟨hib, hib, hib, hib, h1 s _ rfl ⟨?_, ?_, ?_, ?_, ?_, ?_, ?_, ?_⟩ ⟨fun q hq => ?_, fun j j4 j5 j6 => ?_⟩ ?_⟩
      · simp [mz_up, upd, z_fin, e1]
      · simp [mz_up, upd, z_fin, e2]
      · simp [mz_up, z_fin, e3]
      · simp [mz_up, z_fin, e4]
      · simp [mz_up, z_fin, e5]
      · simp [mz_up, z_fin, e6]
      · simp [mz_up, z_fin, e7]
      · simp [mz_up, z_fin, e8]
      · simp only [List.mem_cons, List.not_mem_nil, or_false, not_or] at hq
        simp [mz_up, hq]
      · simp [mz_up, upd, j4]
      · simp [mz_up, upd]
    · rw [hlen] at h
      have hin : i < n := Nat.lt_of_not_le (fun h3 => h (nI_le h3 (by omega)))
      have ht' : z_txt (m 66) n := by rw [ht1]; exact ht
      refine s_M_readToken hn hlen ht' hin (by omega) s3 s4 hR (fun s' z m' g1 g2 g3 => ?_) (fun g1 => ?_)
      · rw [ht1] at g1
        obtain ⟨q1, q2, q3⟩ := z_tok_ok hin hs g1
        have hm1 : m' 66 = t := by rw [g3.1 66 (by decide), ht1]
        have hm10 : m' 55 12 = nI n := by rw [g3.2 12 (by decide) (by decide), hlen]
        refine ⟨fun h3 => absurd h3 (by decide), fun _ => ?_⟩
        obtain ⟨w1, w2⟩ := z_tok_sz g1
        have g2' := g2
        obtain ⟨e1, e2, e3, e4, e5, e6, e7, e8⟩ := g2'
        rw [e1, w1, nI_pred, nI_clamp (by omega), e5, w2, nI_add]
        refine ⟨mz_inbN (by omega) (by decide), s_M_skip hn hm10 q2 ?_⟩
        rw [hm1]
        have hge := z_sk_ge t (n - (i + z)) false (i + z)
        simp only [z_lexr, if_pos hin, g1] at h1 h2
        refine ih _ s' m' (by omega) ⟨by have := q3.1; omega, by omega, q3.2.2⟩ hm10 hm1 g2 (fun s2 m2 w1 w2 w3 w4 => h1 s2 m2 w1 w2 ⟨fun q hq => (w3.1 q hq).trans (g3.1 q hq), fun j j4 j5 j6 => (w3.2 j j4 j5 j6).trans (g3.2 j j5 j6)⟩ w4) (fun s2 p m2 w1 w2 w3 => h2 s2 p m2 w1 w2 (g3.tr w3))
      · rw [ht1] at g1
        refine ⟨fun _ => ?_, fun h3 => absurd rfl h3⟩
        simp only [z_lexr, if_pos hin, g1] at h2
        exact h2 s i m rfl hR (z_frB.rf m)
