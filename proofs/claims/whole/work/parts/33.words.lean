/-! WORDS -/
/-- the bytes from a place on are those of a word -/
def z_spl (t : Nat → Int32) (a : Nat) (w : List Int32) : Nat → Nat → Bool
  | 0, _ => true
  | k + 1, j => decide (t (a + j) = w.getD j 0) && z_spl t a w k (j + 1)
def z_sp (t : Nat → Int32) (a z : Nat) (w : List Int32) : Bool := decide (z = w.length) && z_spl t a w w.length 0
def z_w0 : List Int32 := [112, 114, 105, 110, 116]
theorem s_K_isSpelled01 {X : mz_X} {m : mz_M} {Q : Int32 → mz_M → Prop} {a : Nat} (ha : a + 5 ≤ 4000) : ∀ (k j : Nat), j + k = 5 → Q (z_b (z_spl (m 1) a z_w0 k j)) m → mz_gi X mz_sh 77 13 [some (.ref 2), some (.int (nI a)), some (.int (nI 5)), some (.ref 310), some (.int (nI j))] m Q := by
  intro k
  induction k with
  | zero =>
    intro j hj h
    exact t_K_isSpelled0_1 _ _ _ ⟨fun _ => h, fun h1 => absurd (nI_le (by omega) (by omega)) h1⟩
  | succ k ih =>
    intro j hj h
    refine t_K_isSpelled0_1 _ _ _ ⟨fun h1 => absurd h1 (nI_ge (by omega) (by decide)), fun _ => ?_⟩
    rw [nI_add, nI_clamp (by omega), nI_1]
    refine ⟨mz_inbN (by omega) (by decide), s_J_charAt0 (by omega) ⟨fun h1 => ih (j + 1) (by omega) ?_, fun h1 => ?_⟩⟩
    · have h2 : m 1 (a + j) = z_w0.getD j 0 := h1
      simpa only [z_spl, h2, decide_true, Bool.true_and] using h
    · have h2 : ¬ m 1 (a + j) = z_w0.getD j 0 := h1
      simp only [z_spl, h2, decide_false, Bool.false_and] at h
      exact h
theorem s_K_isSpelled0 {X : mz_X} {m : mz_M} {Q : Int32 → mz_M → Prop} {a z : Nat} (ha : a + z ≤ 4000) (h : Q (z_b (z_sp (m 1) a z z_w0)) m) : mz_gi X mz_sh 77 0 [some (.ref 2), some (.int (nI a)), some (.int (nI z)), some (.ref 310), none] m Q := by
  refine t_K_isSpelled0_0 _ _ (s_J_length0 ⟨fun h1 => ?_, fun h1 => ?_⟩)
  · have hz : z = 5 := (nI_eq (b := 5) (by omega) (by decide)).mp h1
    subst hz
    exact s_K_isSpelled01 ha 5 0 (by omega) h
  · have hz : ¬ z = 5 := fun h2 => h1 (by rw [h2]; rfl)
    have e : z_sp (m 1) a z z_w0 = false := by
      simp [z_sp, z_w0, hz]
    rw [e] at h
    exact h
def z_w1 : List Int32 := [105, 102]
theorem s_K_isSpelled11 {X : mz_X} {m : mz_M} {Q : Int32 → mz_M → Prop} {a : Nat} (ha : a + 2 ≤ 4000) : ∀ (k j : Nat), j + k = 2 → Q (z_b (z_spl (m 1) a z_w1 k j)) m → mz_gi X mz_sh 77 13 [some (.ref 2), some (.int (nI a)), some (.int (nI 2)), some (.ref 311), some (.int (nI j))] m Q := by
  intro k
  induction k with
  | zero =>
    intro j hj h
    exact t_K_isSpelled1_1 _ _ _ ⟨fun _ => h, fun h1 => absurd (nI_le (by omega) (by omega)) h1⟩
  | succ k ih =>
    intro j hj h
    refine t_K_isSpelled1_1 _ _ _ ⟨fun h1 => absurd h1 (nI_ge (by omega) (by decide)), fun _ => ?_⟩
    rw [nI_add, nI_clamp (by omega), nI_1]
    refine ⟨mz_inbN (by omega) (by decide), s_J_charAt1 (by omega) ⟨fun h1 => ih (j + 1) (by omega) ?_, fun h1 => ?_⟩⟩
    · have h2 : m 1 (a + j) = z_w1.getD j 0 := h1
      simpa only [z_spl, h2, decide_true, Bool.true_and] using h
    · have h2 : ¬ m 1 (a + j) = z_w1.getD j 0 := h1
      simp only [z_spl, h2, decide_false, Bool.false_and] at h
      exact h
theorem s_K_isSpelled1 {X : mz_X} {m : mz_M} {Q : Int32 → mz_M → Prop} {a z : Nat} (ha : a + z ≤ 4000) (h : Q (z_b (z_sp (m 1) a z z_w1)) m) : mz_gi X mz_sh 77 0 [some (.ref 2), some (.int (nI a)), some (.int (nI z)), some (.ref 311), none] m Q := by
  refine t_K_isSpelled1_0 _ _ (s_J_length1 ⟨fun h1 => ?_, fun h1 => ?_⟩)
  · have hz : z = 2 := (nI_eq (b := 2) (by omega) (by decide)).mp h1
    subst hz
    exact s_K_isSpelled11 ha 2 0 (by omega) h
  · have hz : ¬ z = 2 := fun h2 => h1 (by rw [h2]; rfl)
    have e : z_sp (m 1) a z z_w1 = false := by
      simp [z_sp, z_w1, hz]
    rw [e] at h
    exact h
def z_w2 : List Int32 := [101, 108, 115, 101]
theorem s_K_isSpelled21 {X : mz_X} {m : mz_M} {Q : Int32 → mz_M → Prop} {a : Nat} (ha : a + 4 ≤ 4000) : ∀ (k j : Nat), j + k = 4 → Q (z_b (z_spl (m 1) a z_w2 k j)) m → mz_gi X mz_sh 77 13 [some (.ref 2), some (.int (nI a)), some (.int (nI 4)), some (.ref 312), some (.int (nI j))] m Q := by
  intro k
  induction k with
  | zero =>
    intro j hj h
    exact t_K_isSpelled2_1 _ _ _ ⟨fun _ => h, fun h1 => absurd (nI_le (by omega) (by omega)) h1⟩
  | succ k ih =>
    intro j hj h
    refine t_K_isSpelled2_1 _ _ _ ⟨fun h1 => absurd h1 (nI_ge (by omega) (by decide)), fun _ => ?_⟩
    rw [nI_add, nI_clamp (by omega), nI_1]
    refine ⟨mz_inbN (by omega) (by decide), s_J_charAt2 (by omega) ⟨fun h1 => ih (j + 1) (by omega) ?_, fun h1 => ?_⟩⟩
    · have h2 : m 1 (a + j) = z_w2.getD j 0 := h1
      simpa only [z_spl, h2, decide_true, Bool.true_and] using h
    · have h2 : ¬ m 1 (a + j) = z_w2.getD j 0 := h1
      simp only [z_spl, h2, decide_false, Bool.false_and] at h
      exact h
theorem s_K_isSpelled2 {X : mz_X} {m : mz_M} {Q : Int32 → mz_M → Prop} {a z : Nat} (ha : a + z ≤ 4000) (h : Q (z_b (z_sp (m 1) a z z_w2)) m) : mz_gi X mz_sh 77 0 [some (.ref 2), some (.int (nI a)), some (.int (nI z)), some (.ref 312), none] m Q := by
  refine t_K_isSpelled2_0 _ _ (s_J_length2 ⟨fun h1 => ?_, fun h1 => ?_⟩)
  · have hz : z = 4 := (nI_eq (b := 4) (by omega) (by decide)).mp h1
    subst hz
    exact s_K_isSpelled21 ha 4 0 (by omega) h
  · have hz : ¬ z = 4 := fun h2 => h1 (by rw [h2]; rfl)
    have e : z_sp (m 1) a z z_w2 = false := by
      simp [z_sp, z_w2, hz]
    rw [e] at h
    exact h
def z_w3 : List Int32 := [119, 104, 105, 108, 101]
theorem s_K_isSpelled31 {X : mz_X} {m : mz_M} {Q : Int32 → mz_M → Prop} {a : Nat} (ha : a + 5 ≤ 4000) : ∀ (k j : Nat), j + k = 5 → Q (z_b (z_spl (m 1) a z_w3 k j)) m → mz_gi X mz_sh 77 13 [some (.ref 2), some (.int (nI a)), some (.int (nI 5)), some (.ref 313), some (.int (nI j))] m Q := by
  intro k
  induction k with
  | zero =>
    intro j hj h
    exact t_K_isSpelled3_1 _ _ _ ⟨fun _ => h, fun h1 => absurd (nI_le (by omega) (by omega)) h1⟩
  | succ k ih =>
    intro j hj h
    refine t_K_isSpelled3_1 _ _ _ ⟨fun h1 => absurd h1 (nI_ge (by omega) (by decide)), fun _ => ?_⟩
    rw [nI_add, nI_clamp (by omega), nI_1]
    refine ⟨mz_inbN (by omega) (by decide), s_J_charAt3 (by omega) ⟨fun h1 => ih (j + 1) (by omega) ?_, fun h1 => ?_⟩⟩
    · have h2 : m 1 (a + j) = z_w3.getD j 0 := h1
      simpa only [z_spl, h2, decide_true, Bool.true_and] using h
    · have h2 : ¬ m 1 (a + j) = z_w3.getD j 0 := h1
      simp only [z_spl, h2, decide_false, Bool.false_and] at h
      exact h
theorem s_K_isSpelled3 {X : mz_X} {m : mz_M} {Q : Int32 → mz_M → Prop} {a z : Nat} (ha : a + z ≤ 4000) (h : Q (z_b (z_sp (m 1) a z z_w3)) m) : mz_gi X mz_sh 77 0 [some (.ref 2), some (.int (nI a)), some (.int (nI z)), some (.ref 313), none] m Q := by
  refine t_K_isSpelled3_0 _ _ (s_J_length3 ⟨fun h1 => ?_, fun h1 => ?_⟩)
  · have hz : z = 5 := (nI_eq (b := 5) (by omega) (by decide)).mp h1
    subst hz
    exact s_K_isSpelled31 ha 5 0 (by omega) h
  · have hz : ¬ z = 5 := fun h2 => h1 (by rw [h2]; rfl)
    have e : z_sp (m 1) a z z_w3 = false := by
      simp [z_sp, z_w3, hz]
    rw [e] at h
    exact h
def z_w4 : List Int32 := [98, 114, 101, 97, 107]
theorem s_K_isSpelled41 {X : mz_X} {m : mz_M} {Q : Int32 → mz_M → Prop} {a : Nat} (ha : a + 5 ≤ 4000) : ∀ (k j : Nat), j + k = 5 → Q (z_b (z_spl (m 1) a z_w4 k j)) m → mz_gi X mz_sh 77 13 [some (.ref 2), some (.int (nI a)), some (.int (nI 5)), some (.ref 314), some (.int (nI j))] m Q := by
  intro k
  induction k with
  | zero =>
    intro j hj h
    exact t_K_isSpelled4_1 _ _ _ ⟨fun _ => h, fun h1 => absurd (nI_le (by omega) (by omega)) h1⟩
  | succ k ih =>
    intro j hj h
    refine t_K_isSpelled4_1 _ _ _ ⟨fun h1 => absurd h1 (nI_ge (by omega) (by decide)), fun _ => ?_⟩
    rw [nI_add, nI_clamp (by omega), nI_1]
    refine ⟨mz_inbN (by omega) (by decide), s_J_charAt4 (by omega) ⟨fun h1 => ih (j + 1) (by omega) ?_, fun h1 => ?_⟩⟩
    · have h2 : m 1 (a + j) = z_w4.getD j 0 := h1
      simpa only [z_spl, h2, decide_true, Bool.true_and] using h
    · have h2 : ¬ m 1 (a + j) = z_w4.getD j 0 := h1
      simp only [z_spl, h2, decide_false, Bool.false_and] at h
      exact h
theorem s_K_isSpelled4 {X : mz_X} {m : mz_M} {Q : Int32 → mz_M → Prop} {a z : Nat} (ha : a + z ≤ 4000) (h : Q (z_b (z_sp (m 1) a z z_w4)) m) : mz_gi X mz_sh 77 0 [some (.ref 2), some (.int (nI a)), some (.int (nI z)), some (.ref 314), none] m Q := by
  refine t_K_isSpelled4_0 _ _ (s_J_length4 ⟨fun h1 => ?_, fun h1 => ?_⟩)
  · have hz : z = 5 := (nI_eq (b := 5) (by omega) (by decide)).mp h1
    subst hz
    exact s_K_isSpelled41 ha 5 0 (by omega) h
  · have hz : ¬ z = 5 := fun h2 => h1 (by rw [h2]; rfl)
    have e : z_sp (m 1) a z z_w4 = false := by
      simp [z_sp, z_w4, hz]
    rw [e] at h
    exact h
def z_w5 : List Int32 := [110, 101, 120, 116]
theorem s_K_isSpelled51 {X : mz_X} {m : mz_M} {Q : Int32 → mz_M → Prop} {a : Nat} (ha : a + 4 ≤ 4000) : ∀ (k j : Nat), j + k = 4 → Q (z_b (z_spl (m 1) a z_w5 k j)) m → mz_gi X mz_sh 77 13 [some (.ref 2), some (.int (nI a)), some (.int (nI 4)), some (.ref 315), some (.int (nI j))] m Q := by
  intro k
  induction k with
  | zero =>
    intro j hj h
    exact t_K_isSpelled5_1 _ _ _ ⟨fun _ => h, fun h1 => absurd (nI_le (by omega) (by omega)) h1⟩
  | succ k ih =>
    intro j hj h
    refine t_K_isSpelled5_1 _ _ _ ⟨fun h1 => absurd h1 (nI_ge (by omega) (by decide)), fun _ => ?_⟩
    rw [nI_add, nI_clamp (by omega), nI_1]
    refine ⟨mz_inbN (by omega) (by decide), s_J_charAt5 (by omega) ⟨fun h1 => ih (j + 1) (by omega) ?_, fun h1 => ?_⟩⟩
    · have h2 : m 1 (a + j) = z_w5.getD j 0 := h1
      simpa only [z_spl, h2, decide_true, Bool.true_and] using h
    · have h2 : ¬ m 1 (a + j) = z_w5.getD j 0 := h1
      simp only [z_spl, h2, decide_false, Bool.false_and] at h
      exact h
theorem s_K_isSpelled5 {X : mz_X} {m : mz_M} {Q : Int32 → mz_M → Prop} {a z : Nat} (ha : a + z ≤ 4000) (h : Q (z_b (z_sp (m 1) a z z_w5)) m) : mz_gi X mz_sh 77 0 [some (.ref 2), some (.int (nI a)), some (.int (nI z)), some (.ref 315), none] m Q := by
  refine t_K_isSpelled5_0 _ _ (s_J_length5 ⟨fun h1 => ?_, fun h1 => ?_⟩)
  · have hz : z = 4 := (nI_eq (b := 4) (by omega) (by decide)).mp h1
    subst hz
    exact s_K_isSpelled51 ha 4 0 (by omega) h
  · have hz : ¬ z = 4 := fun h2 => h1 (by rw [h2]; rfl)
    have e : z_sp (m 1) a z z_w5 = false := by
      simp [z_sp, z_w5, hz]
    rw [e] at h
    exact h
/-- the kind of a word, or 1 -/
def z_wk (t : Nat → Int32) (a z : Nat) : Int32 := if z_sp t a z z_w0 = true then 3 else if z_sp t a z z_w1 = true then 4 else if z_sp t a z z_w2 = true then 5 else if z_sp t a z z_w3 = true then 6 else if z_sp t a z z_w4 = true then 7 else if z_sp t a z z_w5 = true then 8 else 1
theorem s_K_wordKind {X : mz_X} {m : mz_M} {Q : Int32 → mz_M → Prop} {a z : Nat} (ha : a + z ≤ 4000) (h : Q (z_wk (m 1) a z) m) : mz_gi X mz_sh 75 0 [some (.ref 2), some (.int (nI a)), some (.int (nI z)), none] m Q := by
  refine t_K_wordKind_0 _ _ ?_
  have hb1 : ∀ {b : Bool}, ¬ z_b b = 0 → b = true := by
    intro b hb
    cases b with
    | true => rfl
    | false => exact absurd rfl hb
  unfold z_wk at h
  refine t_K_wordKind_1 _ _ 3 ⟨fun h1 => absurd h1 (by decide), fun _ => t_K_spelling_0 _ ⟨fun _ => ?_, fun h1 => absurd h1 (by decide), fun h1 => absurd h1 (by decide), fun h1 => absurd h1 (by decide), fun h1 => absurd h1 (by decide), fun h1 _ _ _ _ => absurd rfl h1⟩⟩
  refine Or.inl ⟨rfl, s_K_isSpelled0 ha ⟨fun h0 => ?_, fun h0 => ?_⟩⟩
  rotate_left
  · rw [if_pos (hb1 h0)] at h
    exact h
  rw [if_neg (by rw [z_b0.mp h0]; decide)] at h
  rw [show ((3 : Int32) + 1) = 4 from rfl]
  refine t_K_wordKind_1 _ _ 4 ⟨fun h1 => absurd h1 (by decide), fun _ => t_K_spelling_0 _ ⟨fun h1 => absurd h1 (by decide), fun _ => ?_, fun h1 => absurd h1 (by decide), fun h1 => absurd h1 (by decide), fun h1 => absurd h1 (by decide), fun _ h1 _ _ _ => absurd rfl h1⟩⟩
  refine Or.inr (Or.inl ⟨rfl, s_K_isSpelled1 ha ⟨fun h0 => ?_, fun h0 => ?_⟩⟩)
  rotate_left
  · rw [if_pos (hb1 h0)] at h
    exact h
  rw [if_neg (by rw [z_b0.mp h0]; decide)] at h
  rw [show ((4 : Int32) + 1) = 5 from rfl]
  refine t_K_wordKind_1 _ _ 5 ⟨fun h1 => absurd h1 (by decide), fun _ => t_K_spelling_0 _ ⟨fun h1 => absurd h1 (by decide), fun h1 => absurd h1 (by decide), fun _ => ?_, fun h1 => absurd h1 (by decide), fun h1 => absurd h1 (by decide), fun _ _ h1 _ _ => absurd rfl h1⟩⟩
  refine Or.inr (Or.inr (Or.inl ⟨rfl, s_K_isSpelled2 ha ⟨fun h0 => ?_, fun h0 => ?_⟩⟩))
  rotate_left
  · rw [if_pos (hb1 h0)] at h
    exact h
  rw [if_neg (by rw [z_b0.mp h0]; decide)] at h
  rw [show ((5 : Int32) + 1) = 6 from rfl]
  refine t_K_wordKind_1 _ _ 6 ⟨fun h1 => absurd h1 (by decide), fun _ => t_K_spelling_0 _ ⟨fun h1 => absurd h1 (by decide), fun h1 => absurd h1 (by decide), fun h1 => absurd h1 (by decide), fun _ => ?_, fun h1 => absurd h1 (by decide), fun _ _ _ h1 _ => absurd rfl h1⟩⟩
  refine Or.inr (Or.inr (Or.inr (Or.inl ⟨rfl, s_K_isSpelled3 ha ⟨fun h0 => ?_, fun h0 => ?_⟩⟩)))
  rotate_left
  · rw [if_pos (hb1 h0)] at h
    exact h
  rw [if_neg (by rw [z_b0.mp h0]; decide)] at h
  rw [show ((6 : Int32) + 1) = 7 from rfl]
  refine t_K_wordKind_1 _ _ 7 ⟨fun h1 => absurd h1 (by decide), fun _ => t_K_spelling_0 _ ⟨fun h1 => absurd h1 (by decide), fun h1 => absurd h1 (by decide), fun h1 => absurd h1 (by decide), fun h1 => absurd h1 (by decide), fun _ => ?_, fun _ _ _ _ h1 => absurd rfl h1⟩⟩
  refine Or.inr (Or.inr (Or.inr (Or.inr (Or.inl ⟨rfl, s_K_isSpelled4 ha ⟨fun h0 => ?_, fun h0 => ?_⟩⟩))))
  rotate_left
  · rw [if_pos (hb1 h0)] at h
    exact h
  rw [if_neg (by rw [z_b0.mp h0]; decide)] at h
  rw [show ((7 : Int32) + 1) = 8 from rfl]
  refine t_K_wordKind_1 _ _ 8 ⟨fun h1 => absurd h1 (by decide), fun _ => t_K_spelling_0 _ ⟨fun h1 => absurd h1 (by decide), fun h1 => absurd h1 (by decide), fun h1 => absurd h1 (by decide), fun h1 => absurd h1 (by decide), fun h1 => absurd h1 (by decide), fun _ _ _ _ _ => ?_⟩⟩
  refine Or.inr (Or.inr (Or.inr (Or.inr (Or.inr ⟨rfl, s_K_isSpelled5 ha ⟨fun h0 => ?_, fun h0 => ?_⟩⟩))))
  rotate_left
  · rw [if_pos (hb1 h0)] at h
    exact h
  rw [if_neg (by rw [z_b0.mp h0]; decide)] at h
  rw [show ((8 : Int32) + 1) = 9 from rfl]
  exact t_K_wordKind_1 _ _ 9 ⟨fun _ => h, fun h1 => absurd (by decide) h1⟩
