/-! PURE ROWS AND SMALL METHODS -/
theorem mz_inbN {k n : Nat} (h : k < n) (hn : n < 2 ^ 31) : mz_inb (nI k) n = true := by
  have h1 : k < 2 ^ 31 := Nat.lt_trans h hn
  simp only [mz_inb, Bool.and_eq_true, decide_eq_true_eq]
  exact ⟨nI_pos' h1, by rw [nI_clamp h1]; exact h⟩
theorem mz_up_k (m : mz_M) (k i : Nat) (v : Int32) : mz_up m k i v k = upd (m k) i v := by simp [mz_up]
theorem mz_up_n (m : mz_M) {k q : Nat} (i : Nat) (v : Int32) (h : q ≠ k) : mz_up m k i v q = m q := by simp [mz_up, h]
def z_b (b : Bool) : Int32 := if b = true then 1 else 0
theorem z_b0 {b : Bool} : z_b b = 0 ↔ b = false := by cases b <;> decide
theorem z_b01 (b : Bool) : z_b b = 0 ∨ z_b b = 1 := by cases b <;> decide
def z_dig (c : Int32) : Bool := decide (48 ≤ c) && decide (c ≤ 57)
def z_let (c : Int32) : Bool := (decide (97 ≤ c) && decide (c ≤ 122)) || ((decide (65 ≤ c) && decide (c ≤ 90)) || decide (c = 95))
def z_blk (c : Int32) : Bool := decide (c = 9) || (decide (c = 10) || (decide (c = 13) || decide (c = 32)))
theorem s_K_isBlank {X : mz_X} {m : mz_M} {Q : Int32 → mz_M → Prop} {c : Int32} (h : Q (z_b (z_blk c)) m) : mz_gi X mz_sh 78 0 [some (.int c)] m Q := by
  refine t_K_isBlank_0 c ?_
  simp only [z_blk] at h
  refine ⟨fun h1 => ?_, fun h1 => ⟨fun h2 => ?_, fun h2 => ⟨fun h3 => ?_, fun h3 => ⟨fun h4 => ?_, fun h4 => ?_⟩⟩⟩⟩ <;> simp_all [z_b]
theorem s_K_isDigit {X : mz_X} {m : mz_M} {Q : Int32 → mz_M → Prop} {c : Int32} (h : Q (z_b (z_dig c)) m) : mz_gi X mz_sh 79 0 [some (.int c)] m Q := by
  refine t_K_isDigit_0 c ⟨fun h1 => ?_, fun h1 => ⟨fun h2 => ?_, fun h2 => ?_⟩⟩
  · have e : z_dig c = false := by simp [z_dig, Int32.not_le.mpr h1]
    rw [e] at h; exact h
  · have e : z_dig c = false := by simp [z_dig, Int32.not_le.mpr h2]
    rw [e] at h; exact h
  · have e : z_dig c = true := by simp [z_dig, Int32.not_lt.mp h1, Int32.not_lt.mp h2]
    rw [e] at h; exact h
theorem s_M_isDigit {X : mz_X} {m : mz_M} {Q : Int32 → mz_M → Prop} {c : Int32} (h : Q (z_b (z_dig c)) m) : mz_gi X mz_sh 136 0 [some (.int c)] m Q := by
  refine t_M_isDigit_0 c ⟨fun h1 => ?_, fun h1 => ⟨fun h2 => ?_, fun h2 => ?_⟩⟩
  · have e : z_dig c = false := by simp [z_dig, Int32.not_le.mpr h1]
    rw [e] at h; exact h
  · have e : z_dig c = false := by simp [z_dig, Int32.not_le.mpr h2]
    rw [e] at h; exact h
  · have e : z_dig c = true := by simp [z_dig, Int32.not_lt.mp h1, Int32.not_lt.mp h2]
    rw [e] at h; exact h
theorem z_let_tree {P : Int32 → Prop} {c : Int32} (h : P (z_b (z_let c))) : ((c < 97 → ((c < 65 → ((c = 95 → P 1) ∧ (¬ (c = 95) → P 0))) ∧ (¬ (c < 65) → ((c ≤ 90 → P 1) ∧ (¬ (c ≤ 90) → ((c = 95 → P 1) ∧ (¬ (c = 95) → P 0))))))) ∧ (¬ (c < 97) → ((c ≤ 122 → P 1) ∧ (¬ (c ≤ 122) → ((c < 65 → ((c = 95 → P 1) ∧ (¬ (c = 95) → P 0))) ∧ (¬ (c < 65) → ((c ≤ 90 → P 1) ∧ (¬ (c ≤ 90) → ((c = 95 → P 1) ∧ (¬ (c = 95) → P 0)))))))))) := by
  have hlt : ∀ a b : Int32, (a < b) = ¬ (b ≤ a) := fun a b => propext Int32.not_le.symm
  simp only [hlt, Classical.not_not]
  simp only [z_let] at h
  refine ⟨fun h1 => ⟨fun h2 => ⟨fun h3 => ?_, fun h3 => ?_⟩, fun h2 => ⟨fun h3 => ?_, fun h3 => ⟨fun h4 => ?_, fun h4 => ?_⟩⟩⟩, fun h1 => ⟨fun h2 => ?_, fun h2 => ⟨fun h3 => ⟨fun h4 => ?_, fun h4 => ?_⟩, fun h3 => ⟨fun h4 => ?_, fun h4 => ⟨fun h5 => ?_, fun h5 => ?_⟩⟩⟩⟩⟩ <;> simp_all [z_b]
theorem s_K_isLetter {X : mz_X} {m : mz_M} {Q : Int32 → mz_M → Prop} {c : Int32} (h : Q (z_b (z_let c)) m) : mz_gi X mz_sh 80 0 [some (.int c)] m Q := t_K_isLetter_0 c (z_let_tree (P := fun r => Q r m) h)
theorem s_M_isLetter {X : mz_X} {m : mz_M} {Q : Int32 → mz_M → Prop} {c : Int32} (h : Q (z_b (z_let c)) m) : mz_gi X mz_sh 135 0 [some (.int c)] m Q := t_M_isLetter_0 c (z_let_tree (P := fun r => Q r m) h)
/-- behind blanks and remarks: whether a remark stands open, how many places are left, the place -/
def z_sk (t : Nat → Int32) : Bool → Nat → Nat → Nat
  | _, 0, i => i
  | r, k + 1, i => if (r || (z_blk (t i) || decide (t i = 35))) = true then z_sk t (!decide (t i = 10) && (r || decide (t i = 35))) k (i + 1) else i
theorem z_sk_ge (t : Nat → Int32) : ∀ (k : Nat) (r : Bool) (i : Nat), i ≤ z_sk t r k i ∧ z_sk t r k i ≤ i + k := by
  intro k
  induction k with
  | zero => intro r i; exact ⟨Nat.le_refl _, Nat.le_refl _⟩
  | succ k ih =>
    intro r i
    simp only [z_sk]
    split
    · have := ih (!decide (t i = 10) && (r || decide (t i = 35))) (i + 1)
      omega
    · omega
theorem s_K_behindBlanks1 {X : mz_X} {m : mz_M} {Q : Int32 → mz_M → Prop} {n : Nat} (hn : n ≤ 4000) (hlen : m 2 10 = nI n) : ∀ (k i : Nat) (r : Bool), i + k = n → Q (nI (z_sk (m 1) r k i)) m → mz_gi X mz_sh 66 4 [some (.ref 2), none, some (.int (nI i)), some (.int (z_b r))] m Q := by
  intro k
  induction k with
  | zero =>
    intro i r hi hQ
    refine t_K_behindBlanks_1 (nI i) (z_b r) ⟨fun _ => hQ, fun h => ?_⟩
    rw [hlen] at h
    exact absurd (nI_le (by omega) (by omega)) h
  | succ k ih =>
    intro i r hi hQ
    have hc : (nI i).toNatClampNeg = i := nI_clamp (by omega)
    have hin : mz_inb (nI i) 4000 = true := mz_inbN (by omega) (by decide)
    have hnext : ∀ r', (!decide (m 1 i = 10) && (r || decide (m 1 i = 35))) = r' → (r || (z_blk (m 1 i) || decide (m 1 i = 35))) = true → mz_gi X mz_sh 66 4 [some (.ref 2), none, some (.int (nI i + 1)), some (.int (z_b r'))] m Q := by
      intro r' hr' hgo
      rw [nI_1]
      refine ih (i + 1) r' (by omega) ?_
      simp only [z_sk, if_pos hgo] at hQ
      rw [← hr']
      exact hQ
    refine t_K_behindBlanks_1 (nI i) (z_b r) ⟨fun h => ?_, fun _ => ?_⟩
    · rw [hlen] at h
      exact absurd h (nI_ge (by omega) (by omega))
    · rw [hc]
      have hrem : (z_b r = 0 → r = false) ∧ (¬ z_b r = 0 → r = true) := by cases r <;> simp [z_b]
      have step1 : (z_blk (m 1 i) || decide (m 1 i = 35)) = true ∨ r = true → mz_inb (nI i) 4000 = true ∧ ((m 1 i = 10 → mz_gi X mz_sh 66 4 [some (.ref 2), none, some (.int (nI i + 1)), some (.int 0)] m Q) ∧ (¬ m 1 i = 10 → (z_b r = 0 → mz_inb (nI i) 4000 = true ∧ ((m 1 i = 35 → mz_gi X mz_sh 66 4 [some (.ref 2), none, some (.int (nI i + 1)), some (.int 1)] m Q) ∧ (¬ m 1 i = 35 → mz_gi X mz_sh 66 4 [some (.ref 2), none, some (.int (nI i + 1)), some (.int 0)] m Q))) ∧ (¬ z_b r = 0 → mz_gi X mz_sh 66 4 [some (.ref 2), none, some (.int (nI i + 1)), some (.int 1)] m Q))) := by
        intro hgo
        have hgo' : (r || (z_blk (m 1 i) || decide (m 1 i = 35))) = true := by
          rcases hgo with h | h
          · rw [h, Bool.or_true]
          · rw [h, Bool.true_or]
        refine ⟨hin, fun h10 => ?_, fun h10 => ⟨fun hr => ⟨hin, fun h35 => ?_, fun h35 => ?_⟩, fun hr => ?_⟩⟩
        · exact hnext false (by simp [h10]) hgo'
        · exact hnext true (by simp [h10, h35]) hgo'
        · exact hnext false (by simp [h35, hrem.1 hr]) hgo'
        · exact hnext true (by simp [h10, hrem.2 hr]) hgo'
      refine ⟨fun hr => ⟨hin, ?_⟩, fun hr => ?_⟩
      · refine s_K_isBlank ?_
        have hr0 := hrem.1 hr
        refine ⟨fun hb => ⟨hin, fun h35 => ?_, fun h35 => ?_⟩, fun hb => ?_⟩
        · exact step1 (Or.inl (by simp [h35]))
        · have : (r || (z_blk (m 1 i) || decide (m 1 i = 35))) = false := by simp [hr0, z_b0.mp hb, h35]
          simp only [z_sk, this, Bool.false_eq_true, if_false] at hQ
          exact hQ
        · have hb1 : z_blk (m 1 i) = true := by
            cases hz : z_blk (m 1 i) with
            | true => rfl
            | false => exact absurd (z_b0.mpr hz) hb
          exact step1 (Or.inl (by rw [hb1, Bool.true_or]))
      · exact step1 (Or.inr (hrem.2 hr))
theorem s_K_behindBlanks {X : mz_X} {m : mz_M} {Q : Int32 → mz_M → Prop} {n i : Nat} (hn : n ≤ 4000) (hlen : m 2 10 = nI n) (hi : i ≤ n) (hQ : Q (nI (z_sk (m 1) false (n - i) i)) m) : mz_gi X mz_sh 66 0 [some (.ref 2), some (.int (nI i)), none, none] m Q :=
  t_K_behindBlanks_0 (nI i) (s_K_behindBlanks1 hn hlen (n - i) i false (by omega) hQ)
