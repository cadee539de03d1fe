/-! paths found; strays -/
theorem s_W_find {X : mz_X} {m : mz_M} {Q : mz_M → Prop} {N : Nat} {kd sz ht up lp : Nat → Nat} {ks : Nat → List Nat} (hp : z_pre N kd sz ht up ks) (hlp : ∀ i, i < N → ∀ x, x ∈ ks i → lp x = (if kd i = 4 then i + 1 else lp i)) (hlp0 : lp 0 = 0) (h30 : m 30 5 = nI N) (hA : ∀ x, x < N → m 31 x = nI (kd x) ∧ m 33 x = nI (ks x).length ∧ m 35 x = nI (sz x)) (hQ : ∀ m', z_fr [37, 38, 39, 40] m m' → m' 37 1 = nI N → m' 39 0 = nI N → m' 38 0 = -1 → (∀ i, i < N → kd i = 0 ∨ kd i = 3 ∨ kd i = 4 → ∀ x, x ∈ ks i → m' 38 x = nI (lp x) - 1 ∧ m' 39 x = y_nx kd sz i x (m' 39 i)) → (∀ i, i < N → m' 40 i = (if kd i = 0 then z_in2 N (m' 40) (if ks i = [] then m' 39 i else nI (i + 1)) else nI i)) → Q m') : mz_gv X mz_sh 28 0 [some (.ref 37), some (.ref 30), none] m Q := by
  refine t_W_find_0 ?_
  rw [h30]
  have f1 : z_fr [37, 38, 39, 40] m (mz_up (mz_up (mz_up m 37 1 (nI N)) 39 0 (nI N)) 38 0 (-1)) := (((z_fr.rf _ _).up (by decide)).up (by decide)).up (by decide)
  refine s_W_find1 (tk := fun _ => 0) hp hlp hlp0 N 0 _ rfl (Or.inr ⟨by rw [f1 30 (by decide)]; exact h30, fun x hx => by rw [f1 31 (by decide), f1 33 (by decide), f1 35 (by decide)]; exact hA x hx⟩) (by simp [mz_up, upd]) (by simp [mz_up, upd]) (by simp [mz_up, upd]) (fun j hj => by omega) (fun m2 f2 w1 w2 w3 => ?_)
  have e37 : m2 37 1 = nI N := by rw [f2 37 (by decide)]; simp [mz_up, upd]
  refine s_W_find2 (nx := m2 39) hp w1 (fun i hi hk x hx => (w3 i hi hk x hx).2) N m2 (Nat.le_refl _) e37 rfl (fun x hx => by rw [f2 31 (by decide), f2 33 (by decide), f1 31 (by decide), f1 33 (by decide)]; exact ⟨(hA x hx).1, (hA x hx).2.1⟩) (fun x x1 x2 => by omega) (fun m3 f3 w4 => ?_)
  refine hQ m3 ((f1.tr (f2.wk (by decide))).tr (f3.wk (by decide))) (by rw [f3 37 (by decide)]; exact e37) (by rw [f3 39 (by decide)]; exact w1) (by rw [f3 38 (by decide)]; exact w2) (fun i hi hk x hx => ?_) (fun i hi => ?_)
  · rw [f3 38 (by decide), f3 39 (by decide)]
    exact w3 i hi hk x hx
  · rw [f3 39 (by decide)]
    exact w4 i hi
theorem y_lple {N : Nat} {kd sz ht up lp : Nat → Nat} {ks : Nat → List Nat} (hp : z_pre N kd sz ht up ks) (hlp : ∀ i, i < N → ∀ x, x ∈ ks i → lp x = (if kd i = 4 then i + 1 else lp i)) (hlp0 : lp 0 = 0) : ∀ (n x : Nat), x ≤ n → x < N → lp x ≤ N := by
  intro n
  induction n with
  | zero =>
    intro x h1 h2
    have : x = 0 := by omega
    subst this
    omega
  | succ n ih =>
    intro x h1 h2
    by_cases h0 : x = 0
    · subst h0; omega
    · obtain ⟨u1, u2⟩ := hp.2.2.2.2.2.1 x (by omega) h2
      rw [hlp (up x) (by omega) x u2]
      split
      · omega
      · exact ih (up x) (by omega) (by omega)
theorem s_W_firstStray1 {X : mz_X} {m : mz_M} {Q : Int32 → mz_M → Prop} {N : Nat} {kd tk lp : Nat → Nat} (hN : N ≤ 4001) (h30 : m 30 5 = nI N) (h31 : ∀ x, x < N → m 31 x = nI (kd x) ∧ m 32 x = nI (tk x) ∧ kd x ≤ 19) (h38 : ∀ x, x < N → kd x = 5 ∨ kd x = 6 → m 38 x = nI (lp x) - 1 ∧ lp x ≤ N) (hno : (∀ j, j < N → kd j = 5 ∨ kd j = 6 → 0 < lp j) → Q (-1) m) (hst : ∀ j, j < N → kd j = 5 ∨ kd j = 6 → lp j = 0 → (∀ j', j' < j → kd j' = 5 ∨ kd j' = 6 → 0 < lp j') → Q (nI (tk j)) m) : ∀ (k i : Nat), k + i = N → (∀ j, j < i → kd j = 5 ∨ kd j = 6 → 0 < lp j) → mz_gi X mz_sh 30 2 [some (.ref 37), some (.ref 30), some (.int (nI i)), none] m Q := by
  intro k
  induction k with
  | zero =>
    intro i hk hi
    have : i = N := by omega
    subst this
    exact t_W_firstStray_1 _ ⟨fun _ => hno hi, fun g => absurd (by rw [h30]; exact nI_le (Nat.le_refl _) (by omega)) g⟩
  | succ k ih =>
    intro i hk hi
    have hiN : i < N := by omega
    obtain ⟨a1, a2, a3⟩ := h31 i hiN
    have hin : mz_inb (nI i) 4001 = true := mz_inbN (by omega) (by decide)
    have cc : ∀ {b : Nat}, b < 2 ^ 31 → nI (kd i) = nI b → kd i = b := fun hb e => (nI_eq (by omega) hb).mp e
    have next : (kd i = 5 ∨ kd i = 6 → 0 < lp i) → mz_gi X mz_sh 30 2 [some (.ref 37), some (.ref 30), some (.int (nI i + 1)), none] m Q := fun h => by
      rw [nI_1]
      refine ih (i + 1) (by omega) (fun j hj hkj => ?_)
      by_cases e : j = i
      · subst e; exact h hkj
      · exact hi j (by omega) hkj
    have leaf : kd i = 5 ∨ kd i = 6 → (m 38 i = -1 → mz_inb (nI i) 4001 = true ∧ Q (m 32 i) m) ∧ (¬ m 38 i = -1 → mz_gi X mz_sh 30 2 [some (.ref 37), some (.ref 30), some (.int (nI i + 1)), none] m Q) := fun hk56 => by
      obtain ⟨b1, b2⟩ := h38 i hiN hk56
      refine ⟨fun g => ⟨hin, ?_⟩, fun g => next (fun _ => ?_)⟩
      · have h0 : lp i = 0 := by
          rcases Nat.eq_zero_or_pos (lp i) with e | e
          · exact e
          · rw [b1, nI_m1 e] at g
            have e1 := congrArg Int32.toInt g
            rw [nI_toInt (by omega)] at e1
            have : (-1 : Int32).toInt = -1 := by decide
            omega
        rw [a2]
        exact hst i hiN hk56 h0 hi
      · rcases Nat.eq_zero_or_pos (lp i) with e | e
        · rw [b1, e] at g
          exact absurd (by decide) g
        · exact e
    refine t_W_firstStray_1 _ ⟨fun g => ?_, fun _ => ⟨hin, ?_⟩⟩
    · rw [h30] at g
      exact absurd g (nI_ge (by omega) (by omega))
    rw [nI_clamp (by omega), a1]
    refine ⟨fun g => ⟨hin, leaf (Or.inl (cc (b := 5) (by decide) g))⟩, fun g5 => ⟨hin, fun g => ⟨hin, leaf (Or.inr (cc (b := 6) (by decide) g))⟩, fun g6 => next (fun h => ?_)⟩⟩
    rcases h with e | e
    · exact absurd (by rw [e]; rfl) g5
    · exact absurd (by rw [e]; rfl) g6
theorem s_M_stray2 {X : mz_X} {m : mz_M} {Q : Int32 → mz_M → Prop} {N j0 : Nat} {kd tk sz ht up lp : Nat → Nat} {ks : Nat → List Nat} (hp : z_pre N kd sz ht up ks) (hl : lp 0 = 0 ∧ (∀ i, i < N → kd i = 0 ∨ kd i = 3 ∨ kd i = 4 → ∀ x, x ∈ ks i → lp x = (if kd i = 4 then i + 1 else lp i))) (h43 : m 55 43 = nI N) (h82 : ∀ i, i < N → m 82 i = nI (kd i)) (h83 : ∀ i, i < N → m 83 i = nI (tk i) ∧ tk i ≤ 4001) (h89 : ∀ i, i < N → m 89 i = (if i = 0 then -1 else nI (up i))) (hj0 : j0 < N) (hord : ∀ j, j0 < j → j < N → kd j = 5 ∨ kd j = 6 → tk j0 < tk j) (hQ : Q (nI (tk j0)) m) : ∀ (k i : Nat), k + i = N → j0 < i → mz_gi X mz_sh 159 4 [some (.ref 55), some (.int (nI (tk j0))), some (.int (nI i))] m Q := by
  have hN := hp.2.1
  have ht0 := (h83 j0 hj0).2
  intro k
  induction k with
  | zero =>
    intro i hk hi
    have : i = N := by omega
    subst this
    exact t_M_strayToken_1 _ _ ⟨fun _ => hQ, fun g => absurd (by rw [h43]; exact nI_le (Nat.le_refl _) (by omega)) g⟩
  | succ k ih =>
    intro i hk hi
    have hiN : i < N := by omega
    have hin : mz_inb (nI i) 12100 = true := mz_inbN (by omega) (by decide)
    have hk19 : kd i ≤ 19 := by
      rcases z_cases hp hiN with ⟨k, _⟩ | ⟨k, e, _⟩ | ⟨k, l, e, _⟩ | ⟨k, l, l2, e, _⟩ | ⟨k, l, e, _⟩ | ⟨k, e⟩ | ⟨k, b, e, _⟩ | ⟨k, e⟩ <;> omega
    have cc : ∀ {b : Nat}, b < 2 ^ 31 → nI (kd i) = nI b → kd i = b := fun hb e => (nI_eq (by omega) hb).mp e
    have next := ih (i + 1) (by omega) (by omega)
    have h83i := (h83 i hiN)
    have br : kd i = 5 ∨ kd i = 6 → mz_gi X mz_sh 158 0 [some (.ref 55), some (.int (nI i)), none] m (fun r10 m8 => (0 ≤ r10 → mz_gi X mz_sh 159 4 [some (.ref 55), some (.int (nI (tk j0))), some (.int (nI i + 1))] m8 Q) ∧ (¬ 0 ≤ r10 → (nI (tk j0) < 0 → mz_inb (nI i) 12100 = true ∧ mz_gi X mz_sh 159 4 [some (.ref 55), some (.int (m8 83 i)), some (.int (nI i + 1))] m8 Q) ∧ (¬ nI (tk j0) < 0 → mz_inb (nI i) 12100 = true ∧ (nI (tk j0) ≤ m8 83 i → mz_gi X mz_sh 159 4 [some (.ref 55), some (.int (nI (tk j0))), some (.int (nI i + 1))] m8 Q) ∧ (¬ nI (tk j0) ≤ m8 83 i → mz_inb (nI i) 12100 = true ∧ mz_gi X mz_sh 159 4 [some (.ref 55), some (.int (m8 83 i)), some (.int (nI i + 1))] m8 Q)))) := fun hk56 => by
      refine s_M_whileOf (kd := kd) (lp := lp) hp hl h82 h89 hiN (by omega) ⟨fun _ => by rw [nI_1]; exact next, fun _ => ⟨fun g => absurd g (nI_pos (by omega)), fun _ => ⟨hin, fun _ => by rw [nI_1]; exact next, fun g => absurd ?_ g⟩⟩⟩
      rw [h83i.1]
      exact nI_le (Nat.le_of_lt (hord i hi hiN hk56)) (by omega)
    refine t_M_strayToken_1 _ _ ⟨fun g => ?_, fun _ => ⟨hin, ?_⟩⟩
    · rw [h43] at g
      exact absurd g (nI_ge (by omega) (by omega))
    rw [nI_clamp (by omega), h82 i hiN]
    exact ⟨fun g => br (Or.inl (cc (b := 5) (by decide) g)), fun _ => ⟨hin, fun g => br (Or.inr (cc (b := 6) (by decide) g)), fun _ => by rw [nI_1]; exact next⟩⟩
theorem s_M_stray1 {X : mz_X} {m : mz_M} {Q : Int32 → mz_M → Prop} {N : Nat} {kd tk sz ht up lp : Nat → Nat} {ks : Nat → List Nat} (hp : z_pre N kd sz ht up ks) (hl : lp 0 = 0 ∧ (∀ i, i < N → kd i = 0 ∨ kd i = 3 ∨ kd i = 4 → ∀ x, x ∈ ks i → lp x = (if kd i = 4 then i + 1 else lp i))) (h43 : m 55 43 = nI N) (h82 : ∀ i, i < N → m 82 i = nI (kd i)) (h83 : ∀ i, i < N → m 83 i = nI (tk i) ∧ tk i ≤ 4001) (h89 : ∀ i, i < N → m 89 i = (if i = 0 then -1 else nI (up i))) (hlN : ∀ x, x < N → lp x ≤ N) (hord : ∀ i j, i < j → j < N → kd i = 5 ∨ kd i = 6 → kd j = 5 ∨ kd j = 6 → tk i < tk j) (hno : (∀ j, j < N → kd j = 5 ∨ kd j = 6 → 0 < lp j) → Q (-1) m) (hst : ∀ j, j < N → kd j = 5 ∨ kd j = 6 → lp j = 0 → (∀ j', j' < j → kd j' = 5 ∨ kd j' = 6 → 0 < lp j') → Q (nI (tk j)) m) : ∀ (k i : Nat), k + i = N → (∀ j, j < i → kd j = 5 ∨ kd j = 6 → 0 < lp j) → mz_gi X mz_sh 159 4 [some (.ref 55), some (.int (-1)), some (.int (nI i))] m Q := by
  have hN := hp.2.1
  intro k
  induction k with
  | zero =>
    intro i hk hi
    have : i = N := by omega
    subst this
    exact t_M_strayToken_1 _ _ ⟨fun _ => hno hi, fun g => absurd (by rw [h43]; exact nI_le (Nat.le_refl _) (by omega)) g⟩
  | succ k ih =>
    intro i hk hi
    have hiN : i < N := by omega
    have hin : mz_inb (nI i) 12100 = true := mz_inbN (by omega) (by decide)
    have hk19 : kd i ≤ 19 := by
      rcases z_cases hp hiN with ⟨k, _⟩ | ⟨k, e, _⟩ | ⟨k, l, e, _⟩ | ⟨k, l, l2, e, _⟩ | ⟨k, l, e, _⟩ | ⟨k, e⟩ | ⟨k, b, e, _⟩ | ⟨k, e⟩ <;> omega
    have cc : ∀ {b : Nat}, b < 2 ^ 31 → nI (kd i) = nI b → kd i = b := fun hb e => (nI_eq (by omega) hb).mp e
    have next : (kd i = 5 ∨ kd i = 6 → 0 < lp i) → mz_gi X mz_sh 159 4 [some (.ref 55), some (.int (-1)), some (.int (nI i + 1))] m Q := fun h => by
      rw [nI_1]
      refine ih (i + 1) (by omega) (fun j hj hkj => ?_)
      by_cases e : j = i
      · subst e; exact h hkj
      · exact hi j (by omega) hkj
    have h83i := (h83 i hiN)
    have br : kd i = 5 ∨ kd i = 6 → mz_gi X mz_sh 158 0 [some (.ref 55), some (.int (nI i)), none] m (fun r10 m8 => (0 ≤ r10 → mz_gi X mz_sh 159 4 [some (.ref 55), some (.int (-1)), some (.int (nI i + 1))] m8 Q) ∧ (¬ 0 ≤ r10 → ((-1 : Int32) < 0 → mz_inb (nI i) 12100 = true ∧ mz_gi X mz_sh 159 4 [some (.ref 55), some (.int (m8 83 i)), some (.int (nI i + 1))] m8 Q) ∧ (¬ (-1 : Int32) < 0 → mz_inb (nI i) 12100 = true ∧ ((-1 : Int32) ≤ m8 83 i → mz_gi X mz_sh 159 4 [some (.ref 55), some (.int (-1)), some (.int (nI i + 1))] m8 Q) ∧ (¬ (-1 : Int32) ≤ m8 83 i → mz_inb (nI i) 12100 = true ∧ mz_gi X mz_sh 159 4 [some (.ref 55), some (.int (m8 83 i)), some (.int (nI i + 1))] m8 Q)))) := fun hk56 => by
      refine s_M_whileOf (kd := kd) (lp := lp) hp hl h82 h89 hiN (by omega) ⟨fun g => next (fun _ => ?_), fun g => ⟨fun _ => ⟨hin, ?_⟩, fun g => absurd (by decide) g⟩⟩
      · rcases Nat.eq_zero_or_pos (lp i) with e | e
        · rw [e] at g
          exact absurd g (by decide)
        · exact e
      · have h0 : lp i = 0 := by
          rcases Nat.eq_zero_or_pos (lp i) with e | e
          · exact e
          · have := hlN i hiN
            rw [nI_m1 e] at g
            exact absurd (nI_pos' (by omega)) g
        rw [h83i.1, nI_1]
        exact s_M_stray2 hp hl h43 h82 h83 h89 hiN (fun j h1 h2 h3 => hord i j h1 h2 hk56 h3) (hst i hiN hk56 h0 hi) k (i + 1) (by omega) (by omega)
    refine t_M_strayToken_1 _ _ ⟨fun g => ?_, fun _ => ⟨hin, ?_⟩⟩
    · rw [h43] at g
      exact absurd g (nI_ge (by omega) (by omega))
    rw [nI_clamp (by omega), h82 i hiN]
    refine ⟨fun g => br (Or.inl (cc (b := 5) (by decide) g)), fun g5 => ⟨hin, fun g => br (Or.inr (cc (b := 6) (by decide) g)), fun g6 => next (fun h => ?_)⟩⟩
    rcases h with e | e
    · exact absurd (by rw [e]; rfl) g5
    · exact absurd (by rw [e]; rfl) g6
