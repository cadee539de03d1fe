/-! makeSets -/
def x_k2 (s : Nat) : Nat → Nat → Nat → Option Nat
  | 0, _, c => some c
  | n + 1, y, c => match x_k1 s y c with
    | none => none
    | some c' => x_k2 s n (y + 1) c'
def x_k3 : Nat → Nat → Nat → Option Nat
  | 0, s, c => bif Nat.beq s c then some c else none
  | n + 1, s, c => bif Nat.blt s c then (match x_k2 s 36 0 c with
    | none => none
    | some c' => x_k3 n (s + 1) c') else none
theorem x_u62 (m0 : mz_M) (W B1 c s y : Nat) (hy : y < 36) : mz_up (x_mm m0 W B1 (36 * s + y) c) 62 (36 * s + y) (Int32.ofInt (z_goe s y)) = x_mm m0 W B1 (36 * s + (y + 1)) c := by
  funext q j
  unfold mz_up
  by_cases e : q = 62
  · subst e
    rw [if_pos rfl]
    show upd (fun j => if j < 36 * s + y then Int32.ofInt (z_goe (j / 36) (j % 36)) else 0) (36 * s + y) (Int32.ofInt (z_goe s y)) j = if j < 36 * s + (y + 1) then Int32.ofInt (z_goe (j / 36) (j % 36)) else 0
    unfold upd
    by_cases g : j = 36 * s + y
    · rw [if_pos g, g, show (36 * s + y) / 36 = s by omega, show (36 * s + y) % 36 = y by omega, if_pos (by omega)]
    · rw [if_neg g]
      show (if j < 36 * s + y then Int32.ofInt (z_goe (j / 36) (j % 36)) else 0) = _
      by_cases g2 : j < 36 * s + y
      · rw [if_pos g2, if_pos (by omega)]
      · rw [if_neg g2, if_neg (by omega)]
  · rw [if_neg e]
    unfold x_mm
    rw [if_neg e, if_neg e]
theorem x_s_ms3 {X : mz_X} {m0 : mz_M} (hT : x_tb m0) {s : Nat} {Q : mz_M → Prop} : ∀ (n y c c' W : Nat), n + y = 36 → s < c → c ≤ 63 → W < 2 ^ 109 → x_k2 s n y c = some c' → (∀ W', W' < 2 ^ 109 → c ≤ c' → c' ≤ 63 → mz_gv X mz_sh 130 35 [some (.ref 55), none, some (.int (nI (s + 1))), none] (x_mm m0 W' (109 * c') (36 * (s + 1)) c') Q) → mz_gv X mz_sh 130 45 [some (.ref 55), none, some (.int (nI s)), some (.int (nI y))] (x_mm m0 W (109 * c) (36 * s + y) c) Q := by
  intro n
  induction n with
  | zero =>
    intro y c c' W hn hs hc hW hk h
    cases hk
    refine t_M_makeSets_3 _ _ ⟨fun _ => ?_, fun g => absurd (nI_le (a := 36) (b := y) (by omega) (by omega)) g⟩
    rw [show nI s + 1 = nI (s + 1) from nI_add s 1, show 36 * s + y = 36 * (s + 1) by omega]
    exact h W hW (Nat.le_refl _) hc
  | succ n ih =>
    intro y c c' W hn hs hc hW hk h
    simp only [x_k2] at hk
    cases hk1 : x_k1 s y c with
    | none => rw [hk1] at hk; cases hk
    | some c1 =>
      rw [hk1] at hk
      have hm := x_s_move (X := X) (B2 := 36 * s + y) (Q := fun r6 m4 => mz_inb ((36 * nI s) + nI y) 4320 = true ∧ mz_gv X mz_sh 130 45 [some (.ref 55), none, some (.int (nI s)), some (.int (nI y + 1))] (mz_up m4 62 (((36 * nI s) + nI y).toNatClampNeg) r6) Q) hT hs hc (show y < 36 by omega) hW hk1
      have hcc : c ≤ c1 ∧ c1 ≤ 63 := by
        have := x_s_move (X := X) (m0 := m0) (B2 := 36 * s + y) (Q := fun _ _ => True) hT hs hc (show y < 36 by omega) hW hk1 (fun _ _ => trivial)
        exact ⟨this.1, this.2.1⟩
      refine t_M_makeSets_3 _ _ ⟨fun g => absurd ((nI_leI (a := 36) (b := y) (by omega) (by omega)).mp g) (by omega), fun _ => ?_⟩
      refine (hm (fun W' hW' => ?_)).2.2
      have e2 : (36 : Int32) * nI s + nI y = nI (36 * s + y) := by
        rw [show (36 : Int32) = nI 36 from rfl, nI_mul, nI_add]
      rw [e2, nI_clamp (by omega), show nI y + 1 = nI (y + 1) from nI_add y 1, x_u62 m0 W' _ c1 s y (by omega)]
      refine ⟨mz_inbN (by omega) (by decide), ih (y + 1) c1 c' W' (by omega) (by omega) hcc.2 hW' hk (fun W2 a b d => h W2 a (by omega) d)⟩
theorem x_s_ms2 {X : mz_X} {m0 : mz_M} (hT : x_tb m0) {Q : mz_M → Prop} (h : ∀ W, Q (x_mm m0 W (109 * 63) (36 * 63) 63)) : ∀ (n s c W : Nat), n + s = 63 → c ≤ 63 → W < 2 ^ 109 → x_k3 n s c = some 63 → mz_gv X mz_sh 130 35 [some (.ref 55), none, some (.int (nI s)), none] (x_mm m0 W (109 * c) (36 * s) c) Q := by
  intro n
  induction n with
  | zero =>
    intro s c W hn hc hW hk
    simp only [x_k3] at hk
    obtain ⟨h1, h2⟩ := x_bt hk
    have e1 := Nat.eq_of_beq_eq_true h1
    have e2 : c = 63 := by cases h2; rfl
    subst e1
    subst e2
    refine t_M_makeSets_2 _ ⟨fun _ => h W, fun g => absurd (nI_le (Nat.le_refl 63) (by omega)) g⟩
  | succ n ih =>
    intro s c W hn hc hW hk
    simp only [x_k3] at hk
    obtain ⟨h1, h2⟩ := x_bt hk
    rw [Nat.blt_eq] at h1
    cases hk2 : x_k2 s 36 0 c with
    | none => rw [hk2] at h2; cases h2
    | some c1 =>
      rw [hk2] at h2
      refine t_M_makeSets_2 _ ⟨fun g => absurd ((nI_leI (a := c) (b := s) (by omega) (by omega)).mp g) (by omega), fun _ => ?_⟩
      exact x_s_ms3 hT 36 0 c c1 W (by omega) h1 hc hW hk2 (fun W' a b d => ih (s + 1) c1 W' (by omega) d a h2)
theorem x_kk : x_k3 63 0 1 = some 63 := by decide +kernel
theorem x_kc : x_cl 20 1 = some (z_sL.getD 0 0) := by decide +kernel
theorem x_s_ms1 {X : mz_X} {m0 : mz_M} (hT : x_tb m0) {Q : mz_M → Prop} (h : ∀ W, Q (x_mm m0 W (109 * 63) (36 * 63) 63)) : ∀ (n i W : Nat), n + i = 109 → W < 2 ^ 109 → (∀ j, j < i → W.testBit j = false) → mz_gv X mz_sh 130 2 [some (.ref 55), some (.int (nI i)), none, none] (x_mm m0 W 0 0 0) Q := by
  intro n
  induction n with
  | zero =>
    intro i W hn hW hz
    refine t_M_makeSets_1 _ ⟨fun _ => ?_, fun g => absurd (nI_le (a := 109) (b := i) (by omega) (by omega)) g⟩
    rw [x_z109 hW (fun j hj => hz j (by omega)), show vp_nar .boolean 1 = 1 by decide, x_u63]
    refine x_s_num hT (c := 0) (t := 0) (f := 20) (W' := z_sL.getD 0 0) x_kc rfl (Nat.le_refl _) (by omega) (by omega) ?_
    exact x_s_ms2 hT h 63 0 1 _ (by omega) (by omega) (x_sB 0 (by omega)) x_kk
  | succ n ih =>
    intro i W hn hW hz
    refine t_M_makeSets_1 _ ⟨fun g => absurd ((nI_leI (a := 109) (b := i) (by omega) (by omega)).mp g) (by omega), fun _ => ?_⟩
    rw [show nI i + 1 = nI (i + 1) from nI_add i 1, nI_clamp (by omega), show vp_nar .boolean 0 = 0 by decide, x_u63z]
    have := x_clr hW hz
    exact ⟨mz_inbN (by omega) (by decide), ih (i + 1) _ (by omega) this.1 this.2⟩
theorem x_s_ms {X : mz_X} {m0 : mz_M} (hT : x_tb m0) (hz : m0 = x_mm m0 0 0 0 0) {Q : mz_M → Prop} (h : ∀ W, Q (x_mm m0 W (109 * 63) (36 * 63) 63)) : mz_gv X mz_sh 130 0 [some (.ref 55), none, none, none] m0 Q := by
  refine t_M_makeSets_0 ?_
  rw [hz]
  exact x_s_ms1 hT h 109 0 0 (by omega) (by decide) (fun j _ => Nat.zero_testBit j)
