/-! THE REFERENCE'S BLANKS; SAME BYTES, SLOTS ON BOTH SIDES -/
theorem s_M_byteAt {X : mz_X} {m : mz_M} {Q : Int32 → mz_M → Prop} {n i : Nat} (hn : n ≤ 4000) (hlen : m 55 12 = nI n) (hi : i ≤ 4000) (hQ : Q (if i < n then m 66 i else -1) m) : mz_gi X mz_sh 134 0 [some (.ref 55), some (.int (nI i))] m Q := by
  refine t_M_byteAt_0 (nI i) ⟨fun h => ?_, fun h => ?_⟩
  · rw [hlen] at h
    have h2 : ¬ i < n := fun h3 => nI_ge h3 (by omega) h
    rw [if_neg h2] at hQ
    exact hQ
  · rw [hlen] at h
    have h2 : i < n := Nat.lt_of_not_le (fun h3 => h (nI_le h3 (by omega)))
    rw [if_pos h2] at hQ
    rw [nI_clamp (by omega)]
    exact ⟨mz_inbN (by omega) (by decide), hQ⟩
theorem z_sk_stop {t : Nat → Int32} {k i : Nat} (h : z_blk (t i) = false) (h2 : ¬ t i = 35) : z_sk t false (k + 1) i = i := by
  simp [z_sk, h, h2]
theorem z_sk_blk {t : Nat → Int32} {k i : Nat} (h : z_blk (t i) = true) : z_sk t false (k + 1) i = z_sk t false k (i + 1) := by
  have h35 : ¬ t i = 35 := by
    intro h2
    rw [h2] at h
    exact absurd h (by decide)
  simp [z_sk, h, h35]
theorem z_sk_rem {t : Nat → Int32} {k i : Nat} (h : t i = 35) : z_sk t false (k + 1) i = z_sk t true k (i + 1) := by
  simp [z_sk, h]
theorem z_sk_r10 {t : Nat → Int32} {k i : Nat} (h : t i = 10) : z_sk t true (k + 1) i = z_sk t false k (i + 1) := by
  simp [z_sk, h]
theorem z_sk_rno {t : Nat → Int32} {k i : Nat} (h : ¬ t i = 10) : z_sk t true (k + 1) i = z_sk t true k (i + 1) := by
  simp [z_sk, h]
theorem s_M_skip12 {X : mz_X} {m : mz_M} {Q : Int32 → mz_M → Prop} {n : Nat} (hn : n ≤ 4000) (hlen : m 55 12 = nI n) : ∀ (k : Nat), (∀ i, i + k = n → Q (nI (z_sk (m 66) false k i)) m → mz_gi X mz_sh 137 4 [some (.ref 55), none, some (.int (nI i)), some (.int 1), none] m Q) ∧ (∀ i, i + k = n → Q (nI (z_sk (m 66) true k i)) m → mz_gi X mz_sh 137 63 [some (.ref 55), none, some (.int (nI i)), some (.int 1), none] m Q) := by
  intro k
  have hend : ∀ i, Q (nI i) m → mz_gi X mz_sh 137 4 [some (.ref 55), none, some (.int (nI i)), some (.int 0), none] m Q := by
    intro i hQ
    exact t_M_skip_1 (nI i) 0 ⟨fun _ => hQ, fun h => absurd rfl h⟩
  induction k with
  | zero =>
    have hS : ∀ i, i + 0 = n → Q (nI (z_sk (m 66) false 0 i)) m → mz_gi X mz_sh 137 4 [some (.ref 55), none, some (.int (nI i)), some (.int 1), none] m Q := by
      intro i hi hQ
      refine t_M_skip_1 (nI i) 1 ⟨fun h => absurd h (by decide), fun _ => ?_⟩
      refine s_M_byteAt hn hlen (by omega) ?_
      rw [if_neg (by omega)]
      refine ⟨fun h => absurd h (by decide), fun _ => ⟨fun h => absurd h (by decide), fun _ => ⟨fun h => absurd h (by decide), fun _ => ⟨fun h => absurd h (by decide), fun _ => ⟨fun h => absurd h (by decide), fun _ => ⟨fun h => absurd h (by decide), fun _ => ?_⟩⟩⟩⟩⟩⟩
      exact hend i hQ
    refine ⟨hS, fun i hi hQ => ?_⟩
    refine t_M_skip_2 (nI i) 1 ⟨fun _ => hS i hi hQ, fun h => ?_⟩
    rw [hlen] at h
    exact absurd (nI_le (by omega) (by omega)) h
  | succ k ih =>
    have hS : ∀ i, i + (k + 1) = n → Q (nI (z_sk (m 66) false (k + 1) i)) m → mz_gi X mz_sh 137 4 [some (.ref 55), none, some (.int (nI i)), some (.int 1), none] m Q := by
      intro i hi hQ
      refine t_M_skip_1 (nI i) 1 ⟨fun h => absurd h (by decide), fun _ => ?_⟩
      refine s_M_byteAt hn hlen (by omega) ?_
      rw [if_pos (by omega)]
      have hA : (m 66 i = 35 ∨ z_blk (m 66 i) = true) → ((m 66 i = 35 → mz_gi X mz_sh 137 63 [some (.ref 55), none, some (.int (nI i)), some (.int 1), none] m Q) ∧ (¬ m 66 i = 35 → mz_gi X mz_sh 137 4 [some (.ref 55), none, some (.int (nI i + 1)), some (.int 1), none] m Q)) := by
        intro hor
        refine ⟨fun h35 => ?_, fun h35 => ?_⟩
        · refine t_M_skip_2 (nI i) 1 ⟨fun h => ?_, fun _ => ⟨mz_inbN (by omega) (by decide), ?_⟩⟩
          · rw [hlen] at h
            exact absurd h (nI_ge (by omega) (by omega))
          · rw [nI_clamp (by omega)]
            refine ⟨fun h => absurd (h35.symm.trans h) (by decide), fun _ => ?_⟩
            rw [nI_1]
            refine ih.2 (i + 1) (by omega) ?_
            rw [z_sk_rem h35] at hQ
            exact hQ
        · rcases hor with h | h
          · exact absurd h h35
          · rw [nI_1]
            refine ih.1 (i + 1) (by omega) ?_
            rw [z_sk_blk h] at hQ
            exact hQ
      refine ⟨fun h => hA (Or.inr (by rw [h]; decide)), fun h9 => ⟨fun h => hA (Or.inr (by rw [h]; decide)), fun h10 => ⟨fun h => hA (Or.inr (by rw [h]; decide)), fun h13 => ⟨fun h => hA (Or.inr (by rw [h]; decide)), fun h32 => ⟨fun h => hA (Or.inl h), fun h35 => ⟨fun h => absurd h h35, fun _ => ?_⟩⟩⟩⟩⟩⟩
      refine hend i ?_
      rw [z_sk_stop (by simp [z_blk, h9, h10, h13, h32]) h35] at hQ
      exact hQ
    refine ⟨hS, fun i hi hQ => ?_⟩
    refine t_M_skip_2 (nI i) 1 ⟨fun h => ?_, fun _ => ⟨mz_inbN (by omega) (by decide), ?_⟩⟩
    · rw [hlen] at h
      exact absurd h (nI_ge (by omega) (by omega))
    · rw [nI_clamp (by omega)]
      refine ⟨fun h10 => hS i hi ?_, fun h10 => ?_⟩
      · rw [z_sk_r10 h10] at hQ
        rw [z_sk_blk (by rw [h10]; decide)]
        exact hQ
      · rw [nI_1]
        refine ih.2 (i + 1) (by omega) ?_
        rw [z_sk_rno h10] at hQ
        exact hQ
theorem s_M_skip {X : mz_X} {m : mz_M} {Q : Int32 → mz_M → Prop} {n i : Nat} (hn : n ≤ 4000) (hlen : m 55 12 = nI n) (hi : i ≤ n) (hQ : Q (nI (z_sk (m 66) false (n - i) i)) m) : mz_gi X mz_sh 137 0 [some (.ref 55), some (.int (nI i)), none, none, none] m Q :=
  t_M_skip_0 (nI i) ((s_M_skip12 hn hlen (n - i)).1 i (by omega) hQ)
/-- so many bytes from two places on are the same -/
def z_same (t : Nat → Int32) (a b : Nat) : Nat → Nat → Bool
  | 0, _ => true
  | k + 1, j => decide (t (a + j) = t (b + j)) && z_same t a b k (j + 1)
theorem s_K_sameBytes1 {X : mz_X} {m : mz_M} {Q : Int32 → mz_M → Prop} {a b z : Nat} (ha : a + z ≤ 4000) (hb : b + z ≤ 4000) : ∀ (k j : Nat), j + k = z → Q (z_b (z_same (m 1) a b k j)) m → mz_gi X mz_sh 74 3 [some (.ref 2), some (.int (nI a)), some (.int (nI b)), some (.int (nI z)), some (.int (nI j))] m Q := by
  intro k
  induction k with
  | zero =>
    intro j hj hQ
    exact t_K_sameBytes_1 _ _ _ _ ⟨fun _ => hQ, fun h => absurd (nI_le (by omega) (by omega)) h⟩
  | succ k ih =>
    intro j hj hQ
    refine t_K_sameBytes_1 _ _ _ _ ⟨fun h => absurd h (nI_ge (by omega) (by omega)), fun _ => ?_⟩
    rw [nI_add, nI_add, nI_clamp (by omega), nI_clamp (by omega), nI_1]
    refine ⟨mz_inbN (by omega) (by decide), mz_inbN (by omega) (by decide), fun h => ?_, fun h => ?_⟩
    · refine ih (j + 1) (by omega) ?_
      simpa [z_same, h] using hQ
    · simpa [z_same, h, z_b] using hQ
theorem s_K_sameBytes {X : mz_X} {m : mz_M} {Q : Int32 → mz_M → Prop} {a b z : Nat} (ha : a + z ≤ 4000) (hb : b + z ≤ 4000) (hQ : Q (z_b (z_same (m 1) a b z 0)) m) : mz_gi X mz_sh 74 0 [some (.ref 2), some (.int (nI a)), some (.int (nI b)), some (.int (nI z)), none] m Q := by
  refine t_K_sameBytes_0 _ _ _ ?_
  have h := s_K_sameBytes1 (X := X) ha hb z 0 (by omega) hQ
  rw [nI_0] at h
  exact h
/-- the slot of the bytes at a place, or none -/
def z_slot (t nb nz : Nat → Int32) (a z : Nat) : Nat → Nat → Option Nat
  | 0, _ => none
  | k + 1, s => if nz s = nI z ∧ z_same t (nb s).toNatClampNeg a z 0 = true then some s else z_slot t nb nz a z k (s + 1)
/-- names stand in the text -/
def z_nok (nb nz : Nat → Int32) (n k : Nat) : Prop := ∀ s, s < k → ∃ p z : Nat, nb s = nI p ∧ nz s = nI z ∧ p + z ≤ n
theorem s_K_slotOf1 {X : mz_X} {m : mz_M} {Q : Int32 → mz_M → Prop} {n k a z : Nat} (hn : n ≤ 4000) (hk : k ≤ 32) (hnm : m 2 5 = nI k) (hok : z_nok (m 7) (m 8) n k) (ha : a + z ≤ n) : ∀ (r s : Nat), s + r = k → (∀ q, z_slot (m 1) (m 7) (m 8) a z r s = some q → Q (nI q) m) → (z_slot (m 1) (m 7) (m 8) a z r s = none → k < 32 → Q (nI k) (mz_up (mz_up (mz_up m 7 k (nI a)) 8 k (nI z)) 2 5 (nI (k + 1)))) → (z_slot (m 1) (m 7) (m 8) a z r s = none → ¬ k < 32 → Q (-1) m) → mz_gi X mz_sh 73 2 [some (.ref 2), some (.int (nI a)), some (.int (nI z)), some (.int (nI s))] m Q := by
  intro r
  induction r with
  | zero =>
    intro s hs _ h2 h3
    refine t_K_slotOf_1 _ _ _ ⟨fun _ => ?_, fun h => ?_⟩
    · rw [hnm]
      refine ⟨fun h => ?_, fun h => ?_⟩
      · have hk2 : k < 32 := (nI_ltI (b := 32) (by omega) (by decide)).mp h
        rw [nI_1, nI_pred, nI_clamp (by omega)]
        exact ⟨mz_inbN (by omega) (by decide), mz_inbN (by omega) (by decide), h2 rfl hk2⟩
      · have hk2 : ¬ k < 32 := fun h4 => h (nI_lt (b := 32) h4 (by decide))
        exact h3 rfl hk2
    · rw [hnm] at h
      exact absurd (nI_le (by omega) (by omega)) h
  | succ r ih =>
    intro s hs h1 h2 h3
    obtain ⟨p, y, e1, e2, e3⟩ := hok s (by omega)
    refine t_K_slotOf_1 _ _ _ ⟨fun h => ?_, fun _ => ⟨mz_inbN (by omega) (by decide), ?_⟩⟩
    · rw [hnm] at h
      exact absurd h (nI_ge (by omega) (by omega))
    · rw [nI_clamp (by omega)]
      have hnext : ¬ (m 8 s = nI z ∧ z_same (m 1) (m 7 s).toNatClampNeg a z 0 = true) → mz_gi X mz_sh 73 2 [some (.ref 2), some (.int (nI a)), some (.int (nI z)), some (.int (nI s + 1))] m Q := by
        intro hno
        rw [nI_1]
        simp only [z_slot, if_neg hno] at h1 h2 h3
        exact ih (s + 1) (by omega) h1 h2 h3
      refine ⟨fun h => ⟨mz_inbN (by omega) (by decide), ?_⟩, fun h => hnext (fun h4 => h h4.1)⟩
      have hyz : y = z := by
        rw [e2] at h
        exact (nI_eq (by omega) (by omega)).mp h
      rw [e1]
      refine s_K_sameBytes (by omega) (by omega) ?_
      have hp : (m 7 s).toNatClampNeg = p := by rw [e1]; exact nI_clamp (by omega)
      rw [hp] at hnext
      refine ⟨fun h5 => hnext (fun h6 => ?_), fun h5 => ?_⟩
      · rw [h6.2] at h5
        exact absurd h5 (by decide)
      · have h7 : z_same (m 1) p a z 0 = true := by
          cases hz : z_same (m 1) p a z 0 with
          | true => rfl
          | false => exact absurd (z_b0.mpr hz) h5
        refine h1 s ?_
        simp only [z_slot]
        rw [hp, if_pos ⟨h, h7⟩]
theorem s_K_slotOf {X : mz_X} {m : mz_M} {Q : Int32 → mz_M → Prop} {n k a z : Nat} (hn : n ≤ 4000) (hk : k ≤ 32) (hnm : m 2 5 = nI k) (hok : z_nok (m 7) (m 8) n k) (ha : a + z ≤ n) (h1 : ∀ q, z_slot (m 1) (m 7) (m 8) a z k 0 = some q → Q (nI q) m) (h2 : z_slot (m 1) (m 7) (m 8) a z k 0 = none → k < 32 → Q (nI k) (mz_up (mz_up (mz_up m 7 k (nI a)) 8 k (nI z)) 2 5 (nI (k + 1)))) (h3 : z_slot (m 1) (m 7) (m 8) a z k 0 = none → ¬ k < 32 → Q (-1) m) : mz_gi X mz_sh 73 0 [some (.ref 2), some (.int (nI a)), some (.int (nI z)), none] m Q := by
  refine t_K_slotOf_0 _ _ ?_
  have h := s_K_slotOf1 (X := X) hn hk hnm hok ha k 0 (by omega) h1 h2 h3
  rw [nI_0] at h
  exact h
theorem s_M_slotOf2 {X : mz_X} {m : mz_M} {Q : Int32 → mz_M → Prop} {a z s p : Nat} (ha : a + z ≤ 4000) (hp : m 71 s = nI p) (hpz : p + z ≤ 4000) (hs : s < 32) : ∀ (r j : Nat) (f : Bool), j + r = z → (f = true → z_same (m 66) p a r j = true → Q (nI s) m) → (¬ (f = true ∧ z_same (m 66) p a r j = true) → mz_gi X mz_sh 139 2 [some (.ref 55), some (.int (nI a)), some (.int (nI z)), some (.int (nI s + 1)), none, none] m Q) → mz_gi X mz_sh 139 30 [some (.ref 55), some (.int (nI a)), some (.int (nI z)), some (.int (nI s)), some (.int (z_b f)), some (.int (nI j))] m Q := by
  intro r
  induction r with
  | zero =>
    intro j f hj h1 h2
    refine t_M_slotOf_2 _ _ _ _ _ ⟨fun _ => ⟨fun h => h2 (fun h3 => ?_), fun h => ?_⟩, fun h => absurd (nI_le (by omega) (by omega)) h⟩
    · rw [z_b0.mp h] at h3
      exact absurd h3.1 (by decide)
    · refine h1 ?_ rfl
      cases f with
      | true => rfl
      | false => exact absurd rfl h
  | succ r ih =>
    intro j f hj h1 h2
    refine t_M_slotOf_2 _ _ _ _ _ ⟨fun h => absurd h (nI_ge (by omega) (by omega)), fun _ => ⟨fun h => ?_, fun h => ?_⟩⟩
    · have hf := z_b0.mp h
      have h4 := h2 (fun h3 => by rw [hf] at h3; exact absurd h3.1 (by decide))
      exact ⟨fun _ => h4, fun h5 => absurd h h5⟩
    · have hf : f = true := by
        cases f with
        | true => rfl
        | false => exact absurd rfl h
      subst hf
      rw [nI_clamp (show s < 2 ^ 31 by omega), hp, nI_add, nI_add, nI_clamp (by omega), nI_clamp (by omega), nI_1]
      refine ⟨mz_inbN hs (by decide), mz_inbN (by omega) (by decide), mz_inbN (by omega) (by decide), fun h5 => ?_, fun h5 => ?_⟩
      · refine ih (j + 1) true (by omega) (fun _ h6 => h1 rfl ?_) (fun h6 => h2 (fun h7 => h6 ⟨rfl, ?_⟩))
        · simp [z_same, h5, h6]
        · simpa [z_same, h5] using h7.2
      · refine ih (j + 1) false (by omega) (fun h6 => by cases h6) (fun _ => h2 (fun h7 => ?_))
        simp [z_same, h5] at h7
theorem s_M_slotOf1 {X : mz_X} {m : mz_M} {Q : Int32 → mz_M → Prop} {n k a z : Nat} (hn : n ≤ 4000) (hk : k ≤ 32) (hnm : m 55 21 = nI k) (hok : z_nok (m 71) (m 72) n k) (ha : a + z ≤ n) : ∀ (r s : Nat), s + r = k → (∀ q, z_slot (m 66) (m 71) (m 72) a z r s = some q → Q (nI q) m) → (z_slot (m 66) (m 71) (m 72) a z r s = none → k < 32 → Q (nI k) (mz_up (mz_up (mz_up m 71 k (nI a)) 72 k (nI z)) 55 21 (nI (k + 1)))) → (z_slot (m 66) (m 71) (m 72) a z r s = none → ¬ k < 32 → Q (-1) m) → mz_gi X mz_sh 139 2 [some (.ref 55), some (.int (nI a)), some (.int (nI z)), some (.int (nI s)), none, none] m Q := by
  intro r
  induction r with
  | zero =>
    intro s hs _ h2 h3
    refine t_M_slotOf_1 _ _ _ ⟨fun _ => ?_, fun h => ?_⟩
    · rw [hnm]
      refine ⟨fun h => h3 rfl ?_, fun h => ?_⟩
      · have : k = 32 := (nI_eq (b := 32) (by omega) (by decide)).mp h
        omega
      · have hk2 : k < 32 := by
          rcases Nat.lt_or_ge k 32 with h4 | h4
          · exact h4
          · exact absurd (by rw [show k = 32 by omega]; rfl) h
        rw [nI_1, nI_pred, nI_clamp (by omega)]
        exact ⟨mz_inbN (by omega) (by decide), mz_inbN (by omega) (by decide), h2 rfl hk2⟩
    · rw [hnm] at h
      exact absurd (nI_le (by omega) (by omega)) h
  | succ r ih =>
    intro s hs h1 h2 h3
    obtain ⟨p, y, e1, e2, e3⟩ := hok s (by omega)
    have hp : (m 71 s).toNatClampNeg = p := by rw [e1]; exact nI_clamp (by omega)
    refine t_M_slotOf_1 _ _ _ ⟨fun h => ?_, fun _ => ⟨mz_inbN (by omega) (by decide), ?_⟩⟩
    · rw [hnm] at h
      exact absurd h (nI_ge (by omega) (by omega))
    · rw [nI_clamp (by omega)]
      have hnext : ¬ (m 72 s = nI z ∧ z_same (m 66) p a z 0 = true) → mz_gi X mz_sh 139 2 [some (.ref 55), some (.int (nI a)), some (.int (nI z)), some (.int (nI s + 1)), none, none] m Q := by
        intro hno
        rw [nI_1]
        simp only [z_slot, hp, if_neg hno] at h1 h2 h3
        exact ih (s + 1) (by omega) h1 h2 h3
      refine ⟨fun h => ?_, fun h => ?_⟩
      · have hyz : y = z := by
          rw [e2] at h
          exact (nI_eq (by omega) (by omega)).mp h
        have g := s_M_slotOf2 (X := X) (Q := Q) (m := m) (a := a) (z := z) (s := s) (p := p) (by omega) e1 (by omega) (by omega) z 0 true (by omega) (fun _ h7 => h1 s (by simp only [z_slot, hp]; rw [if_pos ⟨h, h7⟩])) (fun h7 => hnext (fun h8 => h7 ⟨rfl, h8.2⟩))
        rw [nI_0] at g
        exact g
      · have g : ∀ (r j : Nat), j + r = z → mz_gi X mz_sh 139 30 [some (.ref 55), some (.int (nI a)), some (.int (nI z)), some (.int (nI s)), some (.int 0), some (.int (nI j))] m Q := by
          intro r j _
          have hn2 := hnext (fun h8 => h h8.1)
          by_cases hjz : nI z ≤ nI j
          · exact t_M_slotOf_2 _ _ _ _ _ ⟨fun _ => ⟨fun _ => hn2, fun h9 => absurd rfl h9⟩, fun h9 => absurd hjz h9⟩
          · exact t_M_slotOf_2 _ _ _ _ _ ⟨fun h9 => absurd h9 hjz, fun _ => ⟨fun _ => ⟨fun _ => hn2, fun h9 => absurd rfl h9⟩, fun h9 => absurd rfl h9⟩⟩
        have g0 := g z 0 (by omega)
        rw [nI_0] at g0
        exact g0
theorem s_M_slotOf {X : mz_X} {m : mz_M} {Q : Int32 → mz_M → Prop} {n k a z : Nat} (hn : n ≤ 4000) (hk : k ≤ 32) (hnm : m 55 21 = nI k) (hok : z_nok (m 71) (m 72) n k) (ha : a + z ≤ n) (h1 : ∀ q, z_slot (m 66) (m 71) (m 72) a z k 0 = some q → Q (nI q) m) (h2 : z_slot (m 66) (m 71) (m 72) a z k 0 = none → k < 32 → Q (nI k) (mz_up (mz_up (mz_up m 71 k (nI a)) 72 k (nI z)) 55 21 (nI (k + 1)))) (h3 : z_slot (m 66) (m 71) (m 72) a z k 0 = none → ¬ k < 32 → Q (-1) m) : mz_gi X mz_sh 139 0 [some (.ref 55), some (.int (nI a)), some (.int (nI z)), none, none, none] m Q := by
  refine t_M_slotOf_0 _ _ ?_
  have h := s_M_slotOf1 (X := X) hn hk hnm hok ha k 0 (by omega) h1 h2 h3
  rw [nI_0] at h
  exact h
