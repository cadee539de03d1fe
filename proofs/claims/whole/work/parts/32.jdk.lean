/-! TEXTS -/
theorem s_J_length0 {X : mz_X} {m : mz_M} {Q : Int32 → mz_M → Prop} (h : Q 5 m) : mz_gi X mz_sh 192 0 [some (.ref 310)] m Q := t_J_length0_0 (t_J_coder0_0 h)
theorem s_J_length1 {X : mz_X} {m : mz_M} {Q : Int32 → mz_M → Prop} (h : Q 2 m) : mz_gi X mz_sh 192 0 [some (.ref 311)] m Q := t_J_length1_0 (t_J_coder1_0 h)
theorem s_J_length2 {X : mz_X} {m : mz_M} {Q : Int32 → mz_M → Prop} (h : Q 4 m) : mz_gi X mz_sh 192 0 [some (.ref 312)] m Q := t_J_length2_0 (t_J_coder2_0 h)
theorem s_J_length3 {X : mz_X} {m : mz_M} {Q : Int32 → mz_M → Prop} (h : Q 5 m) : mz_gi X mz_sh 192 0 [some (.ref 313)] m Q := t_J_length3_0 (t_J_coder3_0 h)
theorem s_J_length4 {X : mz_X} {m : mz_M} {Q : Int32 → mz_M → Prop} (h : Q 5 m) : mz_gi X mz_sh 192 0 [some (.ref 314)] m Q := t_J_length4_0 (t_J_coder4_0 h)
theorem s_J_length5 {X : mz_X} {m : mz_M} {Q : Int32 → mz_M → Prop} (h : Q 4 m) : mz_gi X mz_sh 192 0 [some (.ref 315)] m Q := t_J_length5_0 (t_J_coder5_0 h)
theorem s_J_length6 {X : mz_X} {m : mz_M} {Q : Int32 → mz_M → Prop} (h : Q 3 m) : mz_gi X mz_sh 192 0 [some (.ref 316)] m Q := t_J_length6_0 (t_J_coder6_0 h)
theorem s_J_length7 {X : mz_X} {m : mz_M} {Q : Int32 → mz_M → Prop} (h : Q 13 m) : mz_gi X mz_sh 192 0 [some (.ref 317)] m Q := t_J_length7_0 (t_J_coder7_0 h)
theorem s_J_check {X : mz_X} {m : mz_M} {Q : mz_M → Prop} {i n : Nat} (hi : i < n) (hn : n < 2 ^ 31) (h : Q m) : mz_gv X mz_sh 198 0 [some (.int (nI i)), some (.int (nI n))] m Q := by
  refine t_J_check_0 _ _ (t_J_pcheck_0 _ _ ⟨fun h1 => nI_pos (by omega) h1, fun _ => ⟨fun _ => h, fun h1 => h1 (nI_lt hi hn)⟩⟩)
theorem s_J_ch0 : ∀ i, i < 5 → (((([112, 114, 105, 110, 116] : List Int32).getD i 0) &&& 255).toUInt32 % 65536).toInt32 = ([112, 114, 105, 110, 116] : List Int32).getD i 0 ∧ narrow .char (.int (([112, 114, 105, 110, 116] : List Int32).getD i 0)) = .int (([112, 114, 105, 110, 116] : List Int32).getD i 0) := by decide +kernel
theorem s_J_charAt0 {X : mz_X} {m : mz_M} {Q : Int32 → mz_M → Prop} {i : Nat} (hi : i < 5) (h : Q (([112, 114, 105, 110, 116] : List Int32).getD i 0) m) : mz_gi X mz_sh 193 0 [some (.ref 310), some (.int (nI i))] m Q := by
  obtain ⟨e1, e2⟩ := s_J_ch0 i hi
  refine t_J_charAt0_0 _ (t_J_isLatin10_0 ⟨fun h1 => absurd h1 (by decide), fun _ => t_J_lcharAt0_0 _ (s_J_check (n := 5) hi (by decide) ?_)⟩)
  rw [nI_clamp (by omega), e1]
  exact ⟨mz_inbN hi (by decide), e2, e2, h⟩
theorem s_J_ch1 : ∀ i, i < 2 → (((([105, 102] : List Int32).getD i 0) &&& 255).toUInt32 % 65536).toInt32 = ([105, 102] : List Int32).getD i 0 ∧ narrow .char (.int (([105, 102] : List Int32).getD i 0)) = .int (([105, 102] : List Int32).getD i 0) := by decide +kernel
theorem s_J_charAt1 {X : mz_X} {m : mz_M} {Q : Int32 → mz_M → Prop} {i : Nat} (hi : i < 2) (h : Q (([105, 102] : List Int32).getD i 0) m) : mz_gi X mz_sh 193 0 [some (.ref 311), some (.int (nI i))] m Q := by
  obtain ⟨e1, e2⟩ := s_J_ch1 i hi
  refine t_J_charAt1_0 _ (t_J_isLatin11_0 ⟨fun h1 => absurd h1 (by decide), fun _ => t_J_lcharAt1_0 _ (s_J_check (n := 2) hi (by decide) ?_)⟩)
  rw [nI_clamp (by omega), e1]
  exact ⟨mz_inbN hi (by decide), e2, e2, h⟩
theorem s_J_ch2 : ∀ i, i < 4 → (((([101, 108, 115, 101] : List Int32).getD i 0) &&& 255).toUInt32 % 65536).toInt32 = ([101, 108, 115, 101] : List Int32).getD i 0 ∧ narrow .char (.int (([101, 108, 115, 101] : List Int32).getD i 0)) = .int (([101, 108, 115, 101] : List Int32).getD i 0) := by decide +kernel
theorem s_J_charAt2 {X : mz_X} {m : mz_M} {Q : Int32 → mz_M → Prop} {i : Nat} (hi : i < 4) (h : Q (([101, 108, 115, 101] : List Int32).getD i 0) m) : mz_gi X mz_sh 193 0 [some (.ref 312), some (.int (nI i))] m Q := by
  obtain ⟨e1, e2⟩ := s_J_ch2 i hi
  refine t_J_charAt2_0 _ (t_J_isLatin12_0 ⟨fun h1 => absurd h1 (by decide), fun _ => t_J_lcharAt2_0 _ (s_J_check (n := 4) hi (by decide) ?_)⟩)
  rw [nI_clamp (by omega), e1]
  exact ⟨mz_inbN hi (by decide), e2, e2, h⟩
theorem s_J_ch3 : ∀ i, i < 5 → (((([119, 104, 105, 108, 101] : List Int32).getD i 0) &&& 255).toUInt32 % 65536).toInt32 = ([119, 104, 105, 108, 101] : List Int32).getD i 0 ∧ narrow .char (.int (([119, 104, 105, 108, 101] : List Int32).getD i 0)) = .int (([119, 104, 105, 108, 101] : List Int32).getD i 0) := by decide +kernel
theorem s_J_charAt3 {X : mz_X} {m : mz_M} {Q : Int32 → mz_M → Prop} {i : Nat} (hi : i < 5) (h : Q (([119, 104, 105, 108, 101] : List Int32).getD i 0) m) : mz_gi X mz_sh 193 0 [some (.ref 313), some (.int (nI i))] m Q := by
  obtain ⟨e1, e2⟩ := s_J_ch3 i hi
  refine t_J_charAt3_0 _ (t_J_isLatin13_0 ⟨fun h1 => absurd h1 (by decide), fun _ => t_J_lcharAt3_0 _ (s_J_check (n := 5) hi (by decide) ?_)⟩)
  rw [nI_clamp (by omega), e1]
  exact ⟨mz_inbN hi (by decide), e2, e2, h⟩
theorem s_J_ch4 : ∀ i, i < 5 → (((([98, 114, 101, 97, 107] : List Int32).getD i 0) &&& 255).toUInt32 % 65536).toInt32 = ([98, 114, 101, 97, 107] : List Int32).getD i 0 ∧ narrow .char (.int (([98, 114, 101, 97, 107] : List Int32).getD i 0)) = .int (([98, 114, 101, 97, 107] : List Int32).getD i 0) := by decide +kernel
theorem s_J_charAt4 {X : mz_X} {m : mz_M} {Q : Int32 → mz_M → Prop} {i : Nat} (hi : i < 5) (h : Q (([98, 114, 101, 97, 107] : List Int32).getD i 0) m) : mz_gi X mz_sh 193 0 [some (.ref 314), some (.int (nI i))] m Q := by
  obtain ⟨e1, e2⟩ := s_J_ch4 i hi
  refine t_J_charAt4_0 _ (t_J_isLatin14_0 ⟨fun h1 => absurd h1 (by decide), fun _ => t_J_lcharAt4_0 _ (s_J_check (n := 5) hi (by decide) ?_)⟩)
  rw [nI_clamp (by omega), e1]
  exact ⟨mz_inbN hi (by decide), e2, e2, h⟩
theorem s_J_ch5 : ∀ i, i < 4 → (((([110, 101, 120, 116] : List Int32).getD i 0) &&& 255).toUInt32 % 65536).toInt32 = ([110, 101, 120, 116] : List Int32).getD i 0 ∧ narrow .char (.int (([110, 101, 120, 116] : List Int32).getD i 0)) = .int (([110, 101, 120, 116] : List Int32).getD i 0) := by decide +kernel
theorem s_J_charAt5 {X : mz_X} {m : mz_M} {Q : Int32 → mz_M → Prop} {i : Nat} (hi : i < 4) (h : Q (([110, 101, 120, 116] : List Int32).getD i 0) m) : mz_gi X mz_sh 193 0 [some (.ref 315), some (.int (nI i))] m Q := by
  obtain ⟨e1, e2⟩ := s_J_ch5 i hi
  refine t_J_charAt5_0 _ (t_J_isLatin15_0 ⟨fun h1 => absurd h1 (by decide), fun _ => t_J_lcharAt5_0 _ (s_J_check (n := 4) hi (by decide) ?_)⟩)
  rw [nI_clamp (by omega), e1]
  exact ⟨mz_inbN hi (by decide), e2, e2, h⟩
/-- the first place of a byte, or -1 -/
def z_ix (l : List Int32) (c : Int32) : Nat → Nat → Int32
  | 0, _ => -1
  | k + 1, j => if l.getD j 0 = c then nI j else z_ix l c k (j + 1)
theorem s_J_can {X : mz_X} {m : mz_M} {Q : Int32 → mz_M → Prop} {b : Nat} (hb : b < 256) (h : Q 1 m) : mz_gi X mz_sh 200 0 [some (.int (nI b))] m Q :=
  t_J_can_0 _ ⟨fun h1 => absurd h1 (nI_pos (by omega)), fun _ => ⟨fun h1 => absurd h1 (nI_nlt (a := 255) (by omega) (by decide)), fun _ => h⟩⟩
theorem s_J_ixc6 {X : mz_X} {m : mz_M} {Q : Int32 → mz_M → Prop} {c : Int32} : ∀ (k j : Nat), j + k = 3 → Q (z_ix ([124, 38, 61] : List Int32) c k j) m → mz_gi X mz_sh 202 7 [some (.ref 336), none, none, some (.int (nI 3)), some (.int c), some (.int (nI j))] m Q := by
  intro k
  induction k with
  | zero =>
    intro j hj h
    exact t_J_lindexC6_1 _ _ _ ⟨fun _ => h, fun h1 => absurd (nI_le (by omega) (by omega)) h1⟩
  | succ k ih =>
    intro j hj h
    refine t_J_lindexC6_1 _ _ _ ⟨fun h1 => absurd h1 (nI_ge (by omega) (by decide)), fun _ => ⟨mz_inbN (by omega) (by decide), ?_⟩⟩
    rw [nI_clamp (by omega), nI_1]
    refine ⟨fun h1 => ?_, fun h1 => ih (j + 1) (by omega) ?_⟩
    · simpa only [z_ix, if_pos h1] using h
    · simpa only [z_ix, if_neg h1] using h
theorem s_J_index6 {X : mz_X} {m : mz_M} {Q : Int32 → mz_M → Prop} {b : Nat} (hb : b < 256) (h : Q (z_ix ([124, 38, 61] : List Int32) (nI b).toInt8.toInt32 3 0) m) : mz_gi X mz_sh 194 0 [some (.ref 316), some (.int (nI b))] m Q := by
  refine t_J_index6_0 _ (t_J_index26_0 _ _ (t_J_isLatin16_0 ⟨fun h1 => absurd h1 (by decide), fun _ => s_J_length6 (t_J_lindex6_0 _ _ _ (s_J_can hb ⟨fun h1 => absurd h1 (by decide), fun _ => ⟨fun _ => t_J_lindexC6_0 _ _ _ ?_, fun h1 => absurd (by decide) h1⟩⟩))⟩))
  exact s_J_ixc6 3 0 (by omega) h
theorem s_J_ixc7 {X : mz_X} {m : mz_M} {Q : Int32 → mz_M → Prop} {c : Int32} : ∀ (k j : Nat), j + k = 13 → Q (z_ix ([60, 43, 45, 42, 47, 37, 33, 61, 59, 40, 41, 123, 125] : List Int32) c k j) m → mz_gi X mz_sh 202 7 [some (.ref 337), none, none, some (.int (nI 13)), some (.int c), some (.int (nI j))] m Q := by
  intro k
  induction k with
  | zero =>
    intro j hj h
    exact t_J_lindexC7_1 _ _ _ ⟨fun _ => h, fun h1 => absurd (nI_le (by omega) (by omega)) h1⟩
  | succ k ih =>
    intro j hj h
    refine t_J_lindexC7_1 _ _ _ ⟨fun h1 => absurd h1 (nI_ge (by omega) (by decide)), fun _ => ⟨mz_inbN (by omega) (by decide), ?_⟩⟩
    rw [nI_clamp (by omega), nI_1]
    refine ⟨fun h1 => ?_, fun h1 => ih (j + 1) (by omega) ?_⟩
    · simpa only [z_ix, if_pos h1] using h
    · simpa only [z_ix, if_neg h1] using h
theorem s_J_index7 {X : mz_X} {m : mz_M} {Q : Int32 → mz_M → Prop} {b : Nat} (hb : b < 256) (h : Q (z_ix ([60, 43, 45, 42, 47, 37, 33, 61, 59, 40, 41, 123, 125] : List Int32) (nI b).toInt8.toInt32 13 0) m) : mz_gi X mz_sh 194 0 [some (.ref 317), some (.int (nI b))] m Q := by
  refine t_J_index7_0 _ (t_J_index27_0 _ _ (t_J_isLatin17_0 ⟨fun h1 => absurd h1 (by decide), fun _ => s_J_length7 (t_J_lindex7_0 _ _ _ (s_J_can hb ⟨fun h1 => absurd h1 (by decide), fun _ => ⟨fun _ => t_J_lindexC7_0 _ _ _ ?_, fun h1 => absurd (by decide) h1⟩⟩))⟩))
  exact s_J_ixc7 13 0 (by omega) h
