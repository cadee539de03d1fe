/-! TOKENS: what both sides make of a text -/
/-- to where a run of bytes goes: how many places are left, the place -/
def z_end (t : Nat → Int32) (p : Int32 → Bool) : Nat → Nat → Nat
  | 0, i => i
  | k + 1, i => if p (t i) = true then z_end t p k (i + 1) else i
theorem z_end_ge (t : Nat → Int32) (p : Int32 → Bool) : ∀ (k i : Nat), i ≤ z_end t p k i ∧ z_end t p k i ≤ i + k := by
  intro k
  induction k with
  | zero => intro i; exact ⟨Nat.le_refl _, Nat.le_refl _⟩
  | succ k ih =>
    intro i
    simp only [z_end]
    split
    · have := ih (i + 1); omega
    · omega
def z_num (t : Nat → Int32) : Nat → Nat → Int32 → Int32
  | 0, _, v => v
  | k + 1, i, v => if z_dig (t i) = true then z_num t k (i + 1) (v * 10 + (t i - 48)) else v
theorem z_ar (v c : Int32) : v * 10 + (c - 48) = 10 * v + c - 48 := by
  rw [Int32.mul_comm v 10, Int32.sub_eq_add_neg, Int32.sub_eq_add_neg, Int32.add_assoc]
/-- tokens so far: how many, how many names, kinds, places, sizes, worths, the names' places and sizes -/
abbrev z_LS : Type := Nat × Nat × (Nat → Int32) × (Nat → Int32) × (Nat → Int32) × (Nat → Int32) × (Nat → Int32) × (Nat → Int32)
def z_RA (m : mz_M) (s : z_LS) : Prop := m 2 4 = nI s.1 ∧ m 2 5 = nI s.2.1 ∧ m 3 = s.2.2.1 ∧ m 4 = s.2.2.2.1 ∧ m 5 = s.2.2.2.2.1 ∧ m 6 = s.2.2.2.2.2.1 ∧ m 7 = s.2.2.2.2.2.2.1 ∧ m 8 = s.2.2.2.2.2.2.2
def z_RB (m : mz_M) (s : z_LS) : Prop := m 55 18 = nI s.1 ∧ m 55 21 = nI s.2.1 ∧ m 67 = s.2.2.1 ∧ m 68 = s.2.2.2.1 ∧ m 69 = s.2.2.2.2.1 ∧ m 70 = s.2.2.2.2.2.1 ∧ m 71 = s.2.2.2.2.2.2.1 ∧ m 72 = s.2.2.2.2.2.2.2
def z_frA (m m' : mz_M) : Prop := (∀ q, q ∉ [2, 3, 4, 5, 6, 7, 8] → m' q = m q) ∧ ∀ j, j ≠ 4 → j ≠ 5 → m' 2 j = m 2 j
def z_frB (m m' : mz_M) : Prop := (∀ q, q ∉ [55, 67, 68, 69, 70, 71, 72] → m' q = m q) ∧ ∀ j, j ≠ 18 → j ≠ 21 → m' 55 j = m 55 j
theorem z_frA.rf (m : mz_M) : z_frA m m := ⟨fun _ _ => rfl, fun _ _ _ => rfl⟩
theorem z_frB.rf (m : mz_M) : z_frB m m := ⟨fun _ _ => rfl, fun _ _ _ => rfl⟩
theorem z_frA.tr {m m1 m2 : mz_M} (h : z_frA m m1) (h2 : z_frA m1 m2) : z_frA m m2 := ⟨fun q hq => (h2.1 q hq).trans (h.1 q hq), fun j a b => (h2.2 j a b).trans (h.2 j a b)⟩
theorem z_frB.tr {m m1 m2 : mz_M} (h : z_frB m m1) (h2 : z_frB m1 m2) : z_frB m m2 := ⟨fun q hq => (h2.1 q hq).trans (h.1 q hq), fun j a b => (h2.2 j a b).trans (h.2 j a b)⟩
/-- a token more -/
def z_put (s : z_LS) (k b z w : Int32) : z_LS := (s.1 + 1, s.2.1, upd s.2.2.1 s.1 k, upd s.2.2.2.1 s.1 b, upd s.2.2.2.2.1 s.1 z, upd s.2.2.2.2.2.1 s.1 w, s.2.2.2.2.2.2)
/-- a name more -/
def z_nam (s : z_LS) (b z : Int32) : z_LS := (s.1, s.2.1 + 1, s.2.2.1, s.2.2.2.1, s.2.2.2.2.1, s.2.2.2.2.2.1, upd s.2.2.2.2.2.2.1 s.2.1 b, upd s.2.2.2.2.2.2.2 s.2.1 z)
theorem s_K_add {X : mz_X} {m : mz_M} {Q : Int32 → mz_M → Prop} {s : z_LS} {k b z w : Int32} (hc : s.1 ≤ 4000) (hR : z_RA m s) (hQ : ∀ m', z_RA m' (z_put s k b z w) → z_frA m m' → Q z m') : mz_gi X mz_sh 71 0 [some (.ref 2), some (.int k), some (.int b), some (.int z), some (.int w)] m Q := by
  obtain ⟨h1, h2, h3, h4, h5, h6, h7, h8⟩ := hR
  refine t_K_add_0 _ _ _ _ (t_K_put_0 _ _ _ _ ⟨fun h => ?_, fun _ => ?_⟩)
  · rw [h1] at h
    exact absurd h (nI_ge (b := 4001) (by omega) (by decide))
  · rw [h1, nI_clamp (by omega)]
    have hi : mz_inb (nI s.1) 4001 = true := mz_inbN (by omega) (by decide)
    refine ⟨hi, hi, hi, hi, hQ _ ?_ ?_⟩
    · refine ⟨?_, ?_, ?_, ?_, ?_, ?_, ?_, ?_⟩
      · simp [mz_up, upd, z_put, h1, nI_1]
      · simp [mz_up, upd, z_put, h2]
      · simp [mz_up, z_put, h3]
      · simp [mz_up, z_put, h4]
      · simp [mz_up, z_put, h5]
      · simp [mz_up, z_put, h6]
      · simp [mz_up, z_put, h7]
      · simp [mz_up, z_put, h8]
    · refine ⟨fun q hq => ?_, fun j hj4 hj5 => ?_⟩
      · simp only [List.mem_cons, List.not_mem_nil, or_false, not_or] at hq
        simp [mz_up, hq]
      · simp [mz_up, upd, hj4]
theorem s_M_add {X : mz_X} {m : mz_M} {Q : mz_M → Prop} {s : z_LS} {k b z w : Int32} (hc : s.1 ≤ 4000) (hR : z_RB m s) (hQ : ∀ m', z_RB m' (z_put s k b z w) → z_frB m m' → Q m') : mz_gv X mz_sh 141 0 [some (.ref 55), some (.int k), some (.int b), some (.int z), some (.int w)] m Q := by
  obtain ⟨h1, h2, h3, h4, h5, h6, h7, h8⟩ := hR
  refine t_M_add_0 _ _ _ _ ?_
  rw [h1, nI_clamp (by omega)]
  have hi : mz_inb (nI s.1) 4001 = true := mz_inbN (by omega) (by decide)
  refine ⟨hi, hi, hi, hi, hQ _ ?_ ?_⟩
  · refine ⟨?_, ?_, ?_, ?_, ?_, ?_, ?_, ?_⟩
    · simp [mz_up, upd, z_put, nI_1]
    · simp [mz_up, upd, z_put, h2]
    · simp [mz_up, z_put, h3]
    · simp [mz_up, z_put, h4]
    · simp [mz_up, z_put, h5]
    · simp [mz_up, z_put, h6]
    · simp [mz_up, z_put, h7]
    · simp [mz_up, z_put, h8]
  · refine ⟨fun q hq => ?_, fun j hj4 hj5 => ?_⟩
    · simp only [List.mem_cons, List.not_mem_nil, or_false, not_or] at hq
      simp [mz_up, hq]
    · simp [mz_up, upd, hj4]
/-- numbers -/
theorem s_K_addNumber1 {X : mz_X} {m : mz_M} {Q : Int32 → mz_M → Prop} {s : z_LS} {n a : Nat} (hn : n ≤ 4000) (hlen : m 2 10 = nI n) (hc : s.1 ≤ 4000) (hR : z_RA m s) (ha : a ≤ n) : ∀ (k i : Nat) (v : Int32), i + k = n → a ≤ i → (∀ m', z_RA m' (z_put s 2 (nI a) (nI (z_end (m 1) z_dig k i - a)) (z_num (m 1) k i v)) → z_frA m m' → Q (nI (z_end (m 1) z_dig k i - a)) m') → mz_gi X mz_sh 68 4 [some (.ref 2), some (.int (nI a)), some (.int (nI i)), some (.int v)] m Q := by
  intro k
  induction k with
  | zero =>
    intro i v hi hai hQ
    refine t_K_addNumber_1 _ _ _ ⟨fun _ => ?_, fun h => ?_⟩
    · rw [pk_sub hai]
      exact s_K_add hc hR hQ
    · rw [hlen] at h
      exact absurd (nI_le (by omega) (by omega)) h
  | succ k ih =>
    intro i v hi hai hQ
    refine t_K_addNumber_1 _ _ _ ⟨fun h => ?_, fun _ => ⟨mz_inbN (by omega) (by decide), ?_⟩⟩
    · rw [hlen] at h
      exact absurd h (nI_ge (by omega) (by omega))
    · rw [nI_clamp (by omega)]
      refine s_K_isDigit ⟨fun h => ?_, fun h => ⟨mz_inbN (by omega) (by decide), ?_⟩⟩
      · have hd := z_b0.mp h
        rw [pk_sub hai]
        simp only [z_end, z_num, hd, Bool.false_eq_true, if_false] at hQ
        exact s_K_add hc hR hQ
      · have hd : z_dig (m 1 i) = true := by
          cases hz : z_dig (m 1 i) with
          | true => rfl
          | false => exact absurd (z_b0.mpr hz) h
        simp only [z_end, z_num, hd, if_true] at hQ
        rw [nI_1]
        exact ih (i + 1) _ (by omega) (by omega) hQ
theorem s_K_addNumber {X : mz_X} {m : mz_M} {Q : Int32 → mz_M → Prop} {s : z_LS} {n a : Nat} (hn : n ≤ 4000) (hlen : m 2 10 = nI n) (hc : s.1 ≤ 4000) (hR : z_RA m s) (ha : a ≤ n) (hQ : ∀ m', z_RA m' (z_put s 2 (nI a) (nI (z_end (m 1) z_dig (n - a) a - a)) (z_num (m 1) (n - a) a 0)) → z_frA m m' → Q (nI (z_end (m 1) z_dig (n - a) a - a)) m') : mz_gi X mz_sh 68 0 [some (.ref 2), some (.int (nI a)), none, none] m Q :=
  t_K_addNumber_0 _ (s_K_addNumber1 hn hlen hc hR ha (n - a) a 0 (by omega) (Nat.le_refl _) hQ)
/-- what a name or word gives -/
def z_nmT (t : Nat → Int32) (s : z_LS) (a z : Nat) : Option z_LS :=
  if z_wk t a z = 1 then (if z ≤ 16 then (match z_slot t s.2.2.2.2.2.2.1 s.2.2.2.2.2.2.2 a z s.2.1 0 with
    | some q => some (z_put s 1 (nI a) (nI z) (nI q))
    | none => if s.2.1 < 32 then some (z_put (z_nam s (nI a) (nI z)) 1 (nI a) (nI z) (nI s.2.1)) else none) else none)
  else some (z_put s (z_wk t a z) (nI a) (nI z) 0)
theorem z_RA_nam {m : mz_M} {s : z_LS} {b z : Int32} (h : z_RA m s) : z_RA (mz_up (mz_up (mz_up m 7 s.2.1 b) 8 s.2.1 z) 2 5 (nI (s.2.1 + 1))) (z_nam s b z) ∧ z_frA m (mz_up (mz_up (mz_up m 7 s.2.1 b) 8 s.2.1 z) 2 5 (nI (s.2.1 + 1))) := by
  obtain ⟨h1, h2, h3, h4, h5, h6, h7, h8⟩ := h
  refine ⟨⟨?_, ?_, ?_, ?_, ?_, ?_, ?_, ?_⟩, fun q hq => ?_, fun j hj4 hj5 => ?_⟩
  · simp [mz_up, upd, z_nam, h1]
  · simp [mz_up, upd, z_nam]
  · simp [mz_up, z_nam, h3]
  · simp [mz_up, z_nam, h4]
  · simp [mz_up, z_nam, h5]
  · simp [mz_up, z_nam, h6]
  · simp [mz_up, z_nam, h7]
  · simp [mz_up, z_nam, h8]
  · simp only [List.mem_cons, List.not_mem_nil, or_false, not_or] at hq
    simp [mz_up, hq]
  · simp [mz_up, upd, hj5]
theorem z_RB_nam {m : mz_M} {s : z_LS} {b z : Int32} (h : z_RB m s) : z_RB (mz_up (mz_up (mz_up m 71 s.2.1 b) 72 s.2.1 z) 55 21 (nI (s.2.1 + 1))) (z_nam s b z) ∧ z_frB m (mz_up (mz_up (mz_up m 71 s.2.1 b) 72 s.2.1 z) 55 21 (nI (s.2.1 + 1))) := by
  obtain ⟨h1, h2, h3, h4, h5, h6, h7, h8⟩ := h
  refine ⟨⟨?_, ?_, ?_, ?_, ?_, ?_, ?_, ?_⟩, fun q hq => ?_, fun j hj4 hj5 => ?_⟩
  · simp [mz_up, upd, z_nam, h1]
  · simp [mz_up, upd, z_nam]
  · simp [mz_up, z_nam, h3]
  · simp [mz_up, z_nam, h4]
  · simp [mz_up, z_nam, h5]
  · simp [mz_up, z_nam, h6]
  · simp [mz_up, z_nam, h7]
  · simp [mz_up, z_nam, h8]
  · simp only [List.mem_cons, List.not_mem_nil, or_false, not_or] at hq
    simp [mz_up, hq]
  · simp [mz_up, upd, hj5]
theorem s_K_nmT {X : mz_X} {m : mz_M} {Q : Int32 → mz_M → Prop} {s : z_LS} {n a z : Nat} (hn : n ≤ 4000) (hc : s.1 ≤ 4000) (hk : s.2.1 ≤ 32) (hok : z_nok s.2.2.2.2.2.2.1 s.2.2.2.2.2.2.2 n s.2.1) (hR : z_RA m s) (ha : a + z ≤ n) (h1 : ∀ s' m', z_nmT (m 1) s a z = some s' → z_RA m' s' → z_frA m m' → Q (nI z) m') (h2 : z_nmT (m 1) s a z = none → Q 0 m) :
    mz_gi X mz_sh 75 0 [some (.ref 2), some (.int (nI a)), some (.int (nI z)), none] m (fun r5 m3 => ((r5 = 1 → ((nI z ≤ 16 → mz_gi X mz_sh 73 0 [some (.ref 2), some (.int (nI a)), some (.int (nI z)), none] m3 (fun r12 m10 => ((r12 = (-1) → Q 0 m10) ∧ (¬ (r12 = (-1)) → mz_gi X mz_sh 71 0 [some (.ref 2), some (.int 1), some (.int (nI a)), some (.int (nI z)), some (.int r12)] m10 (fun r18 m16 => Q r18 m16))))) ∧ (¬ (nI z ≤ 16) → Q 0 m3))) ∧ (¬ (r5 = 1) → mz_gi X mz_sh 71 0 [some (.ref 2), some (.int r5), some (.int (nI a)), some (.int (nI z)), some (.int 0)] m3 (fun r23 m21 => Q r23 m21)))) := by
  have hR0 := hR
  obtain ⟨e1, e2, e3, e4, e5, e6, e7, e8⟩ := hR0
  have hne : ∀ q : Nat, q ≤ 32 → ¬ nI q = -1 := by decide +kernel
  unfold z_nmT at h1 h2
  refine s_K_wordKind (by omega) ⟨fun hw => ?_, fun hw => ?_⟩
  · rw [if_pos hw] at h1 h2
    refine ⟨fun hz => ?_, fun hz => ?_⟩
    · have hz2 : z ≤ 16 := (nI_leI (b := 16) (by omega) (by decide)).mp hz
      rw [if_pos hz2] at h1 h2
      rw [← e7, ← e8] at h1 h2 hok
      refine s_K_slotOf hn hk e2 hok ha (fun q hq => ?_) (fun hq hlt => ?_) (fun hq hlt => ?_)
      · have hq32 : q ≤ 32 := by
          have aux : ∀ (r s0 q : Nat), z_slot (m 1) (m 7) (m 8) a z r s0 = some q → q < s0 + r := by
            intro r
            induction r with
            | zero => intro s0 q h; cases h
            | succ r ih =>
              intro s0 q h
              simp only [z_slot] at h
              split at h
              · cases h; omega
              · have := ih _ _ h; omega
          have := aux _ _ _ hq
          omega
        refine ⟨fun h => absurd h (hne q hq32), fun _ => s_K_add hc hR (fun m' g1 g2 => h1 _ m' ?_ g1 g2)⟩
        rw [hq]
      · refine ⟨fun h => absurd h (hne _ hk), fun _ => ?_⟩
        obtain ⟨g1, g2⟩ := z_RA_nam (b := nI a) (z := nI z) hR
        refine s_K_add (s := z_nam s (nI a) (nI z)) hc g1 (fun m' g3 g4 => h1 _ m' ?_ g3 (g2.tr g4))
        rw [hq]
        simp only [if_pos hlt]
      · refine ⟨fun _ => h2 ?_, fun h => absurd rfl h⟩
        rw [hq]
        simp only [if_neg hlt]
    · have hz2 : ¬ z ≤ 16 := fun h => hz (nI_le (b := 16) h (by decide))
      rw [if_neg hz2] at h2
      exact h2 rfl
  · rw [if_neg hw] at h1
    exact s_K_add hc hR (fun m' g1 g2 => h1 _ m' rfl g1 g2)
def z_nd (c : Int32) : Bool := z_let c || z_dig c
theorem s_K_addWord1 {X : mz_X} {m : mz_M} {Q : Int32 → mz_M → Prop} {s : z_LS} {n a : Nat} (hn : n ≤ 4000) (hlen : m 2 10 = nI n) (hc : s.1 ≤ 4000) (hk : s.2.1 ≤ 32) (hok : z_nok s.2.2.2.2.2.2.1 s.2.2.2.2.2.2.2 n s.2.1) (hR : z_RA m s) : ∀ (k i : Nat), i + k = n → a ≤ i → (∀ s' m', z_nmT (m 1) s a (z_end (m 1) z_nd k i - a) = some s' → z_RA m' s' → z_frA m m' → Q (nI (z_end (m 1) z_nd k i - a)) m') → (z_nmT (m 1) s a (z_end (m 1) z_nd k i - a) = none → Q 0 m) → mz_gi X mz_sh 69 2 [some (.ref 2), some (.int (nI a)), some (.int (nI i)), none, none, none] m Q := by
  intro k
  induction k with
  | zero =>
    intro i hi hai h1 h2
    refine t_K_addWordOrName_1 _ _ ⟨fun _ => ?_, fun h => ?_⟩
    · rw [pk_sub hai]
      exact s_K_nmT hn hc hk hok hR (by omega) h1 h2
    · rw [hlen] at h
      exact absurd (nI_le (by omega) (by omega)) h
  | succ k ih =>
    intro i hi hai h1 h2
    have hgo : z_nd (m 1 i) = true → mz_gi X mz_sh 69 2 [some (.ref 2), some (.int (nI a)), some (.int (nI i + 1)), none, none, none] m Q := by
      intro hg
      simp only [z_end, hg, if_true] at h1 h2
      rw [nI_1]
      exact ih (i + 1) (by omega) (by omega) h1 h2
    refine t_K_addWordOrName_1 _ _ ⟨fun h => ?_, fun _ => ⟨mz_inbN (by omega) (by decide), ?_⟩⟩
    · rw [hlen] at h
      exact absurd h (nI_ge (by omega) (by omega))
    · rw [nI_clamp (by omega)]
      refine s_K_isLetter ⟨fun h => ⟨mz_inbN (by omega) (by decide), s_K_isDigit ⟨fun h3 => ?_, fun h3 => ?_⟩⟩, fun h => ?_⟩
      · have hno : z_nd (m 1 i) = false := by rw [z_nd, z_b0.mp h, z_b0.mp h3]; rfl
        simp only [z_end, hno, Bool.false_eq_true, if_false] at h1 h2
        rw [pk_sub hai]
        exact s_K_nmT hn hc hk hok hR (by omega) h1 h2
      · refine hgo ?_
        cases hz : z_dig (m 1 i) with
        | true => rw [z_nd, hz, Bool.or_true]
        | false => exact absurd (z_b0.mpr hz) h3
      · refine hgo ?_
        cases hz : z_let (m 1 i) with
        | true => rw [z_nd, hz, Bool.true_or]
        | false => exact absurd (z_b0.mpr hz) h
