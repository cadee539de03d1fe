/-! numberSet -/
theorem x_sB : ∀ s, s < 63 → z_sL.getD s 0 < 2 ^ 109 := by decide +kernel
theorem x_sN : ∀ s, s < 63 → ∀ t, t < s → ¬ z_sL.getD s 0 = z_sL.getD t 0 := by decide +kernel
theorem x_bit {s l c : Nat} (hs : s < c) (hl : l < 109) : (decide (109 * s + l < 109 * c) && (z_sL.getD ((109 * s + l) / 109) 0).testBit ((109 * s + l) % 109)) = (z_sL.getD s 0).testBit l := by
  rw [show (109 * s + l) / 109 = s by omega, show (109 * s + l) % 109 = l by omega, show decide (109 * s + l < 109 * c) = true by rw [decide_eq_true_eq]; omega]
  rfl
theorem x_zbi {a b : Bool} : z_b a = z_b b ↔ a = b := by cases a <;> cases b <;> decide
theorem x_s_cmp {X : mz_X} {m0 : mz_M} {W B2 c s : Nat} (hs : s < c) (hc : c ≤ 63) (hW : W < 2 ^ 109) {Q : Int32 → mz_M → Prop} (h1 : W = z_sL.getD s 0 → Q (nI s) (x_mm m0 W (109 * c) B2 c)) (h2 : ¬ W = z_sL.getD s 0 → mz_gi X mz_sh 128 6 [some (.ref 55), some (.int (nI (s + 1))), none, none] (x_mm m0 W (109 * c) B2 c) Q) : ∀ (n i : Nat) (b : Bool), n + i = 109 → (b = true → ∀ j, j < i → W.testBit j = (z_sL.getD s 0).testBit j) → (b = false → ¬ W = z_sL.getD s 0) → mz_gi X mz_sh 128 18 [some (.ref 55), some (.int (nI s)), some (.int (z_b b)), some (.int (nI i))] (x_mm m0 W (109 * c) B2 c) Q := by
  have e1 : nI s + 1 = nI (s + 1) := nI_add s 1
  have hSB := x_sB s (by omega)
  intro n
  induction n with
  | zero =>
    intro i b hn hb hb2
    refine t_M_numberSet_2 _ _ _ ⟨fun _ => ?_, fun g => absurd (nI_le (a := 109) (b := i) (by omega) (by omega)) g⟩
    rw [e1]
    cases b with
    | false => exact ⟨fun _ => h2 (hb2 rfl), fun g => absurd rfl g⟩
    | true =>
      refine ⟨fun g => absurd g (by decide), fun _ => h1 ?_⟩
      apply Nat.eq_of_testBit_eq
      intro j
      by_cases hj : j < 109
      · exact hb rfl j (by omega)
      · rw [Nat.testBit_lt_two_pow (Nat.lt_of_lt_of_le hW (Nat.pow_le_pow_right (by decide) (by omega))), Nat.testBit_lt_two_pow (Nat.lt_of_lt_of_le hSB (Nat.pow_le_pow_right (by decide) (by omega)))]
  | succ n ih =>
    intro i b hn hb hb2
    refine t_M_numberSet_2 _ _ _ ⟨fun g => absurd ((nI_leI (a := 109) (b := i) (by omega) (by omega)).mp g) (by omega), fun _ => ?_⟩
    rw [e1]
    cases b with
    | false => exact ⟨fun _ => ⟨fun _ => h2 (hb2 rfl), fun g => absurd rfl g⟩, fun g => absurd rfl g⟩
    | true =>
      refine ⟨fun g => absurd g (by decide), fun _ => ?_⟩
      have e2 : (109 : Int32) * nI s + nI i = nI (109 * s + i) := by
        rw [show (109 : Int32) = nI 109 from rfl, nI_mul, nI_add]
      have e3 : nI i + 1 = nI (i + 1) := nI_add i 1
      rw [e2, e3]
      simp only [nI_clamp (n := 109 * s + i) (by omega), nI_clamp (n := i) (by omega), x_r61, x_r63, x_bit hs (show i < 109 by omega), x_zbi]
      refine ⟨mz_inbN (by omega) (by decide), mz_inbN (by omega) (by decide), fun g => ?_, fun g => ?_⟩
      · refine ih (i + 1) true (by omega) (fun _ j hj => ?_) (fun e => by cases e)
        by_cases ej : j = i
        · subst ej; exact g.symm
        · exact hb rfl j (by omega)
      · exact ih (i + 1) false (by omega) (fun e => by cases e) (fun _ e => g (by rw [e]))
theorem x_s_copy {X : mz_X} {m0 : mz_M} {B2 c : Nat} (hc : c < 63) {Q : Int32 → mz_M → Prop} (h : Q (nI c) (x_mm m0 (z_sL.getD c 0) (109 * (c + 1)) B2 (c + 1))) : ∀ (n i : Nat), n + i = 109 → mz_gi X mz_sh 128 74 [some (.ref 55), some (.int (nI i)), none, none] (x_mm m0 (z_sL.getD c 0) (109 * c + i) B2 c) Q := by
  intro n
  induction n with
  | zero =>
    intro i hn
    refine t_M_numberSet_3 _ ⟨fun _ => ?_, fun g => absurd (nI_le (a := 109) (b := i) (by omega) (by omega)) g⟩
    rw [x_r557, show nI c + 1 = nI (c + 1) from nI_add c 1, nI_m1 (by omega), show c + 1 - 1 = c by omega]
    have e : mz_up (x_mm m0 (z_sL.getD c 0) (109 * c + i) B2 c) 55 7 (nI (c + 1)) = x_mm m0 (z_sL.getD c 0) (109 * (c + 1)) B2 (c + 1) := by
      rw [show 109 * c + i = 109 * (c + 1) by omega]
      funext q j
      unfold mz_up
      by_cases e : q = 55
      · subst e
        rw [if_pos rfl]
        show upd (upd (m0 55) 7 (nI c)) 7 (nI (c + 1)) j = upd (m0 55) 7 (nI (c + 1)) j
        unfold upd
        by_cases g : j = 7
        · rw [if_pos g, if_pos g]
        · rw [if_neg g, if_neg g, if_neg g]
      · rw [if_neg e]
        unfold x_mm
        rw [if_neg e, if_neg e]
    rw [e]
    exact h
  | succ n ih =>
    intro i hn
    refine t_M_numberSet_3 _ ⟨fun g => absurd ((nI_leI (a := 109) (b := i) (by omega) (by omega)).mp g) (by omega), fun _ => ?_⟩
    have e2 : (109 : Int32) * nI c + nI i = nI (109 * c + i) := by
      rw [show (109 : Int32) = nI 109 from rfl, nI_mul, nI_add]
    have hv : ∀ b : Bool, vp_nar .boolean (z_b b) = z_b b := by decide
    rw [x_r557, e2, show nI i + 1 = nI (i + 1) from nI_add i 1, nI_clamp (by omega), nI_clamp (by omega), x_r63, hv]
    refine ⟨mz_inbN (by omega) (by decide), mz_inbN (by omega) (by decide), ?_⟩
    have e : mz_up (x_mm m0 (z_sL.getD c 0) (109 * c + i) B2 c) 61 (109 * c + i) (z_b ((z_sL.getD c 0).testBit i)) = x_mm m0 (z_sL.getD c 0) (109 * c + (i + 1)) B2 c := by
      funext q j
      unfold mz_up
      by_cases e : q = 61
      · subst e
        rw [if_pos rfl]
        show upd (fun j => z_b (decide (j < 109 * c + i) && (z_sL.getD (j / 109) 0).testBit (j % 109))) (109 * c + i) (z_b ((z_sL.getD c 0).testBit i)) j = z_b (decide (j < 109 * c + (i + 1)) && (z_sL.getD (j / 109) 0).testBit (j % 109))
        unfold upd
        by_cases g : j = 109 * c + i
        · rw [if_pos g, g, show (109 * c + i) / 109 = c by omega, show (109 * c + i) % 109 = i by omega, show decide (109 * c + i < 109 * c + (i + 1)) = true by rw [decide_eq_true_eq]; omega]
          rfl
        · rw [if_neg g]
          show z_b (decide (j < 109 * c + i) && (z_sL.getD (j / 109) 0).testBit (j % 109)) = _
          by_cases g2 : j < 109 * c + i
          · rw [show decide (j < 109 * c + i) = true by rw [decide_eq_true_eq]; omega, show decide (j < 109 * c + (i + 1)) = true by rw [decide_eq_true_eq]; omega]
          · rw [show decide (j < 109 * c + i) = false by rw [decide_eq_false_iff_not]; omega, show decide (j < 109 * c + (i + 1)) = false by rw [decide_eq_false_iff_not]; omega]
      · rw [if_neg e]
        unfold x_mm
        rw [if_neg e, if_neg e]
    rw [e]
    exact ih (i + 1) (by omega)
theorem x_s_num1 {X : mz_X} {m0 : mz_M} {W B2 c t : Nat} (hW : W = z_sL.getD t 0) (ht : t ≤ c) (hc : c ≤ 63) (ht2 : t < 63) {Q : Int32 → mz_M → Prop} (h : Q (nI t) (x_mm m0 W (109 * (max c (t + 1))) B2 (max c (t + 1)))) : ∀ (n s : Nat), n + s = t → mz_gi X mz_sh 128 6 [some (.ref 55), some (.int (nI s)), none, none] (x_mm m0 W (109 * c) B2 c) Q := by
  have hWB : W < 2 ^ 109 := by rw [hW]; exact x_sB t ht2
  intro n
  induction n with
  | zero =>
    intro s hn
    have hs : s = t := by omega
    subst hs
    by_cases g : s = c
    · subst g
      rw [show max s (s + 1) = s + 1 by omega] at h
      refine t_M_numberSet_1 _ ⟨fun _ => ?_, fun g => absurd (nI_le (Nat.le_refl s) (by omega)) g⟩
      subst hW
      exact x_s_copy ht2 h 109 0 (by omega)
    · rw [show max c (s + 1) = c by omega] at h
      refine t_M_numberSet_1 _ ⟨fun g => absurd ((nI_leI (a := c) (b := s) (by omega) (by omega)).mp g) (by omega), fun _ => ?_⟩
      exact x_s_cmp (by omega) hc hWB (fun _ => h) (fun g => absurd hW g) 109 0 true (by omega) (fun _ j hj => absurd hj (by omega)) (fun e => by cases e)
  | succ n ih =>
    intro s hn
    refine t_M_numberSet_1 _ ⟨fun g => absurd ((nI_leI (a := c) (b := s) (by omega) (by omega)).mp g) (by omega), fun _ => ?_⟩
    refine x_s_cmp (by omega) hc hWB (fun g => absurd (hW.symm.trans g) (x_sN t ht2 s (by omega))) (fun _ => ih (s + 1) (by omega)) 109 0 true (by omega) (fun _ j hj => absurd hj (by omega)) (fun e => by cases e)
theorem x_s_num {X : mz_X} {m0 : mz_M} (hT : x_tb m0) {W W' B2 c t f : Nat} (hcl : x_cl f W = some W') (hW : W' = z_sL.getD t 0) (ht : t ≤ c) (hc : c ≤ 63) (ht2 : t < 63) {Q : Int32 → mz_M → Prop} (h : Q (nI t) (x_mm m0 W' (109 * (max c (t + 1))) B2 (max c (t + 1)))) : mz_gi X mz_sh 128 0 [some (.ref 55), none, none, none] (x_mm m0 W (109 * c) B2 c) Q :=
  t_M_numberSet_0 (x_s_close hT hcl (x_s_num1 hW ht hc ht2 h t 0 (by omega)))
/-! move -/
def x_md (A y r : Nat) : Nat → Nat → Bool → Nat → Nat × Bool
  | 0, _, b, W => (W, b)
  | n + 1, d, b, W => bif A.testBit (z_iaL.getD r 0 + d) && Nat.beq (x_bl r d) y then x_md A y r n (d + 1) true (W ||| 2 ^ (z_iaL.getD r 0 + d + 1)) else x_md A y r n (d + 1) b W
def x_mr (A y : Nat) : Nat → Nat → Bool → Nat → Nat × Bool
  | 0, _, b, W => (W, b)
  | n + 1, r, b, W => x_mr A y n (r + 1) (x_md A y r (z_loL.getD r 0) 0 b W).2 (x_md A y r (z_loL.getD r 0) 0 b W).1
theorem x_s_move3 {X : mz_X} {m0 : mz_M} (hT : x_tb m0) {B2 c s y r : Nat} (hs : s < c) (hc : c ≤ 63) (hy : y < 36) (hr : r < 32) {Q : Int32 → mz_M → Prop} : ∀ (n d : Nat) (b : Bool) (W : Nat), n + d = z_loL.getD r 0 → mz_gi X mz_sh 129 29 [some (.ref 55), some (.int (nI s)), some (.int (nI y)), some (.int (z_b (x_md (z_sL.getD s 0) y r n d b W).2)), some (.int (nI (r + 1))), none] (x_mm m0 (x_md (z_sL.getD s 0) y r n d b W).1 (109 * c) B2 c) Q → mz_gi X mz_sh 129 39 [some (.ref 55), some (.int (nI s)), some (.int (nI y)), some (.int (z_b b)), some (.int (nI r)), some (.int (nI d))] (x_mm m0 W (109 * c) B2 c) Q := by
  have l0 := x_loB r hr
  have l1 := x_iaB r hr
  have l2 := x_raB r hr
  have e1 : nI r + 1 = nI (r + 1) := nI_add r 1
  have hi : mz_inb (nI r) 32 = true := mz_inbN (by omega) (by decide)
  have hi2 : mz_inb (nI r) 33 = true := mz_inbN (by omega) (by decide)
  intro n
  induction n with
  | zero =>
    intro d b W hn h
    refine t_M_move_3 _ _ _ _ _ ?_
    simp only [nI_clamp (n := r) (by omega), x_r57 hT, nI_leI (a := z_loL.getD r 0) (b := d) (by omega) (by omega)]
    refine ⟨hi, fun _ => ?_, fun g => absurd (show z_loL.getD r 0 ≤ d by omega) g⟩
    rw [e1]
    exact h
  | succ n ih =>
    intro d b W hn h
    refine t_M_move_3 _ _ _ _ _ ?_
    have e2 : nI d + 1 = nI (d + 1) := nI_add d 1
    have e3 : (109 : Int32) * nI s + nI (z_iaL.getD r 0) + nI d = nI (109 * s + (z_iaL.getD r 0 + d)) := by
      rw [show (109 : Int32) = nI 109 from rfl, nI_mul, nI_add, nI_add, Nat.add_assoc]
    have e4 : nI (z_iaL.getD r 0) + nI d + 1 = nI (z_iaL.getD r 0 + d + 1) := by
      rw [nI_add]; exact nI_add _ 1
    simp only [nI_clamp (n := r) (by omega), x_r57 hT, x_r60 hT, nI_leI (a := z_loL.getD r 0) (b := d) (by omega) (by omega), e2, e3, nI_clamp (n := 109 * s + (z_iaL.getD r 0 + d)) (by omega), x_r61, x_bit hs (show z_iaL.getD r 0 + d < 109 by omega)]
    simp only [x_md] at h
    refine ⟨hi, fun g => absurd g (by omega), fun _ => ⟨hi2, mz_inbN (by omega) (by decide), fun g0 => ?_, fun g0 => ?_⟩⟩
    · rw [z_b0.mp g0, Bool.false_and, cond_false] at h
      exact ih (d + 1) b W (by omega) h
    · have g1 : (z_sL.getD s 0).testBit (z_iaL.getD r 0 + d) = true := z_b_t.2 g0
      rw [g1, Bool.true_and] at h
      have l3 := x_roB (z_raL.getD r 0 + d) (by omega)
      refine x_s_bp hT hr (by omega) (fun gd => ?_) (fun gd => absurd (by omega) gd)
      simp only [nI_eq (a := x_bl r d) (b := y) (by unfold x_bl; omega) (by omega), x_r60 hT, e4, nI_clamp (n := z_iaL.getD r 0 + d + 1) (by omega)]
      refine ⟨fun gy => ⟨hi2, mz_inbN (by omega) (by decide), ?_⟩, fun gy => ?_⟩
      · rw [gy, Nat.beq_refl, cond_true] at h
        rw [show vp_nar .boolean 1 = 1 by decide, x_u63]
        exact ih (d + 1) true _ (by omega) h
      · rw [show Nat.beq (x_bl r d) y = false from by rw [← Bool.not_eq_true, Nat.beq_eq]; exact gy, cond_false] at h
        exact ih (d + 1) b W (by omega) h
theorem x_s_move2 {X : mz_X} {m0 : mz_M} (hT : x_tb m0) {B2 c s y : Nat} (hs : s < c) (hc : c ≤ 63) (hy : y < 36) {Q : Int32 → mz_M → Prop} : ∀ (n r : Nat) (b : Bool) (W : Nat), n + r = 32 → ((x_mr (z_sL.getD s 0) y n r b W).2 = false → Q (-1) (x_mm m0 (x_mr (z_sL.getD s 0) y n r b W).1 (109 * c) B2 c)) → ((x_mr (z_sL.getD s 0) y n r b W).2 = true → mz_gi X mz_sh 128 0 [some (.ref 55), none, none, none] (x_mm m0 (x_mr (z_sL.getD s 0) y n r b W).1 (109 * c) B2 c) Q) → mz_gi X mz_sh 129 29 [some (.ref 55), some (.int (nI s)), some (.int (nI y)), some (.int (z_b b)), some (.int (nI r)), none] (x_mm m0 W (109 * c) B2 c) Q := by
  intro n
  induction n with
  | zero =>
    intro r b W hn h1 h2
    refine t_M_move_2 _ _ _ _ ⟨fun _ => ⟨fun g => h1 (z_b0.mp g), fun g => h2 (z_b_t.2 g)⟩, fun g => absurd (nI_le (a := 32) (b := r) (by omega) (by omega)) g⟩
  | succ n ih =>
    intro r b W hn h1 h2
    refine t_M_move_2 _ _ _ _ ⟨fun g => absurd ((nI_leI (a := 32) (b := r) (by omega) (by omega)).mp g) (by omega), fun _ => ?_⟩
    exact x_s_move3 hT hs hc hy (by omega) (z_loL.getD r 0) 0 b W (by omega) (ih (r + 1) _ _ (by omega) h1 h2)
theorem x_z109 {W : Nat} (hW : W < 2 ^ 109) (h : ∀ j, j < 109 → W.testBit j = false) : W = 0 := by
  apply Nat.eq_of_testBit_eq
  intro j
  rw [Nat.zero_testBit]
  by_cases hj : j < 109
  · exact h j hj
  · exact Nat.testBit_lt_two_pow (Nat.lt_of_lt_of_le hW (Nat.pow_le_pow_right (by decide) (by omega)))
theorem x_clr {W i : Nat} (hW : W < 2 ^ 109) (h : ∀ j, j < i → W.testBit j = false) : (W &&& (W ^^^ 2 ^ i)) < 2 ^ 109 ∧ ∀ j, j < i + 1 → (W &&& (W ^^^ 2 ^ i)).testBit j = false := by
  refine ⟨Nat.lt_of_le_of_lt Nat.and_le_left hW, fun j hj => ?_⟩
  rw [Nat.testBit_and, Nat.testBit_xor, Nat.testBit_two_pow]
  by_cases g : j = i
  · subst g
    cases W.testBit j <;> simp
  · rw [h j (by omega)]
    rfl
theorem x_s_move1 {X : mz_X} {m0 : mz_M} {B1 B2 c : Nat} {u v : Int32} {Q : Int32 → mz_M → Prop} (h : mz_gi X mz_sh 129 29 [some (.ref 55), some (.int u), some (.int v), some (.int 0), some (.int 0), none] (x_mm m0 0 B1 B2 c) Q) : ∀ (n i W : Nat), n + i = 109 → W < 2 ^ 109 → (∀ j, j < i → W.testBit j = false) → mz_gi X mz_sh 129 5 [some (.ref 55), some (.int u), some (.int v), some (.int 0), some (.int (nI i)), none] (x_mm m0 W B1 B2 c) Q := by
  intro n
  induction n with
  | zero =>
    intro i W hn hW hz
    refine t_M_move_1 _ _ _ _ ⟨fun _ => ?_, fun g => absurd (nI_le (a := 109) (b := i) (by omega) (by omega)) g⟩
    rw [x_z109 hW (fun j hj => hz j (by omega))]
    exact h
  | succ n ih =>
    intro i W hn hW hz
    refine t_M_move_1 _ _ _ _ ⟨fun g => absurd ((nI_leI (a := 109) (b := i) (by omega) (by omega)).mp g) (by omega), fun _ => ?_⟩
    rw [show nI i + 1 = nI (i + 1) from nI_add i 1, nI_clamp (by omega), show vp_nar .boolean 0 = 0 by decide, x_u63z]
    have := x_clr hW hz
    exact ⟨mz_inbN (by omega) (by decide), ih (i + 1) _ (by omega) this.1 this.2⟩
/-- one move: how many sets there are then, none if it isn't as the tables say -/
def x_k1 (s y c : Nat) : Option Nat :=
  bif (x_mr (z_sL.getD s 0) y 32 0 false 0).2 then (match x_cl 20 (x_mr (z_sL.getD s 0) y 32 0 false 0).1 with
    | none => none
    | some W' => bif (Nat.beq W' (z_sL.getD (z_goe s y).toNat 0) && decide (0 ≤ z_goe s y)) && (Nat.ble (z_goe s y).toNat c && Nat.blt (z_goe s y).toNat 63) then some (max c ((z_goe s y).toNat + 1)) else none)
  else bif decide (z_goe s y = -1) && Nat.beq (x_mr (z_sL.getD s 0) y 32 0 false 0).1 0 then some c else none
theorem x_s_move {X : mz_X} {m0 : mz_M} (hT : x_tb m0) {B2 c c' s y W : Nat} (hs : s < c) (hc : c ≤ 63) (hy : y < 36) (hW : W < 2 ^ 109) {Q : Int32 → mz_M → Prop} (hk : x_k1 s y c = some c') (h : ∀ W', W' < 2 ^ 109 → Q (Int32.ofInt (z_goe s y)) (x_mm m0 W' (109 * c') B2 c')) : c ≤ c' ∧ c' ≤ 63 ∧ mz_gi X mz_sh 129 0 [some (.ref 55), some (.int (nI s)), some (.int (nI y)), none, none, none] (x_mm m0 W (109 * c) B2 c) Q := by
  unfold x_k1 at hk
  cases hb : (x_mr (z_sL.getD s 0) y 32 0 false 0).2 with
  | true =>
    rw [hb, cond_true] at hk
    cases hcl : x_cl 20 (x_mr (z_sL.getD s 0) y 32 0 false 0).1 with
    | none => rw [hcl] at hk; cases hk
    | some W' =>
      rw [hcl] at hk
      obtain ⟨h1, h2⟩ := x_bt hk
      cases h2
      simp only [Bool.and_eq_true, decide_eq_true_eq] at h1
      obtain ⟨⟨a1, a2⟩, a3, a4⟩ := h1
      have b1 := Nat.eq_of_beq_eq_true a1
      have b3 := Nat.le_of_ble_eq_true a3
      rw [Nat.blt_eq] at a4
      refine ⟨by omega, by omega, t_M_move_0 _ _ (x_s_move1 ?_ 109 0 W (by omega) hW (fun j hj => absurd hj (by omega)))⟩
      refine x_s_move2 hT hs hc hy 32 0 false 0 (by omega) (fun e => by rw [hb] at e; cases e) (fun _ => ?_)
      refine x_s_num hT hcl b1 b3 hc a4 ?_
      have e : nI (z_goe s y).toNat = Int32.ofInt (z_goe s y) := by
        conv => rhs; rw [← Int.toNat_of_nonneg a2]
        rfl
      rw [e]
      exact h W' (by rw [b1]; exact x_sB _ a4)
  | false =>
    rw [hb, cond_false] at hk
    obtain ⟨h1, h2⟩ := x_bt hk
    cases h2
    simp only [Bool.and_eq_true, decide_eq_true_eq] at h1
    have b1 := Nat.eq_of_beq_eq_true h1.2
    refine ⟨Nat.le_refl _, hc, t_M_move_0 _ _ (x_s_move1 ?_ 109 0 W (by omega) hW (fun j hj => absurd hj (by omega)))⟩
    refine x_s_move2 hT hs hc hy 32 0 false 0 (by omega) (fun _ => ?_) (fun e => by rw [hb] at e; cases e)
    rw [b1]
    have := h 0 (by decide)
    rw [h1.1] at this
    exact this
