/-! the reference's sets: what the memory holds while they are made -/
def x_mm (m0 : mz_M) (W B1 B2 c : Nat) : mz_M := fun q => if q = 63 then (fun j => z_b (W.testBit j)) else if q = 61 then (fun j => z_b (decide (j < B1) && (z_sL.getD (j / 109) 0).testBit (j % 109))) else if q = 62 then (fun j => if j < B2 then Int32.ofInt (z_goe (j / 36) (j % 36)) else 0) else if q = 55 then upd (m0 55) 7 (nI c) else m0 q
def x_tb (m0 : mz_M) : Prop := m0 56 = (fun j => nI (z_leL.getD j 0)) ∧ m0 57 = (fun j => nI (z_loL.getD j 0)) ∧ m0 58 = (fun j => nI (z_roL.getD j 0)) ∧ m0 59 = (fun j => nI (z_raL.getD j 0)) ∧ m0 60 = (fun j => nI (z_iaL.getD j 0))
theorem x_r56 {m0 : mz_M} (h : x_tb m0) (W B1 B2 c : Nat) : x_mm m0 W B1 B2 c 56 = fun j => nI (z_leL.getD j 0) := h.1
theorem x_r57 {m0 : mz_M} (h : x_tb m0) (W B1 B2 c : Nat) : x_mm m0 W B1 B2 c 57 = fun j => nI (z_loL.getD j 0) := h.2.1
theorem x_r58 {m0 : mz_M} (h : x_tb m0) (W B1 B2 c : Nat) : x_mm m0 W B1 B2 c 58 = fun j => nI (z_roL.getD j 0) := h.2.2.1
theorem x_r59 {m0 : mz_M} (h : x_tb m0) (W B1 B2 c : Nat) : x_mm m0 W B1 B2 c 59 = fun j => nI (z_raL.getD j 0) := h.2.2.2.1
theorem x_r60 {m0 : mz_M} (h : x_tb m0) (W B1 B2 c : Nat) : x_mm m0 W B1 B2 c 60 = fun j => nI (z_iaL.getD j 0) := h.2.2.2.2
theorem x_r63 (m0 : mz_M) (W B1 B2 c : Nat) : x_mm m0 W B1 B2 c 63 = fun j => z_b (W.testBit j) := rfl
theorem x_r61 (m0 : mz_M) (W B1 B2 c : Nat) : x_mm m0 W B1 B2 c 61 = fun j => z_b (decide (j < B1) && (z_sL.getD (j / 109) 0).testBit (j % 109)) := rfl
theorem x_r557 (m0 : mz_M) (W B1 B2 c : Nat) : x_mm m0 W B1 B2 c 55 7 = nI c := rfl
theorem x_u63 (m0 : mz_M) (W B1 B2 c k : Nat) : mz_up (x_mm m0 W B1 B2 c) 63 k 1 = x_mm m0 (W ||| 2 ^ k) B1 B2 c := by
  funext q j
  unfold mz_up
  by_cases e : q = 63
  · subst e
    rw [if_pos rfl]
    show upd (fun j => z_b (W.testBit j)) k 1 j = z_b ((W ||| 2 ^ k).testBit j)
    unfold upd
    rw [Nat.testBit_or, Nat.testBit_two_pow]
    by_cases g : j = k
    · subst g
      rw [if_pos rfl]
      simp [z_b]
    · rw [if_neg g]
      have : decide (k = j) = false := by rw [decide_eq_false_iff_not]; omega
      rw [this, Bool.or_false]
  · rw [if_neg e]
    unfold x_mm
    rw [if_neg e, if_neg e]
theorem x_u63z (m0 : mz_M) (W B1 B2 c k : Nat) : mz_up (x_mm m0 W B1 B2 c) 63 k 0 = x_mm m0 (W &&& (W ^^^ 2 ^ k)) B1 B2 c := by
  funext q j
  unfold mz_up
  by_cases e : q = 63
  · subst e
    rw [if_pos rfl]
    show upd (fun j => z_b (W.testBit j)) k 0 j = z_b ((W &&& (W ^^^ 2 ^ k)).testBit j)
    unfold upd
    rw [Nat.testBit_and, Nat.testBit_xor, Nat.testBit_two_pow]
    by_cases g : j = k
    · subst g
      rw [if_pos rfl]
      cases W.testBit j <;> simp [z_b]
    · rw [if_neg g]
      have : decide (k = j) = false := by rw [decide_eq_false_iff_not]; omega
      rw [this, Bool.xor_false, Bool.and_self]
  · rw [if_neg e]
    unfold x_mm
    rw [if_neg e, if_neg e]
theorem x_iaB : ∀ r, r < 32 → z_iaL.getD r 0 + z_loL.getD r 0 < 109 := by decide +kernel
theorem x_raB : ∀ r, r < 32 → z_raL.getD r 0 + z_loL.getD r 0 ≤ 77 := by decide +kernel
theorem x_loB : ∀ r, r < 32 → z_loL.getD r 0 < 10 := by decide +kernel
theorem x_leB : ∀ r, r < 32 → z_leL.getD r 0 < 36 := by decide +kernel
theorem x_roB : ∀ r, r < 77 → z_roL.getD r 0 < 36 := by decide +kernel
/-! behindPoint, open -/
def x_bl (r d : Nat) : Nat := z_roL.getD (z_raL.getD r 0 + d) 0
theorem x_s_bp {X : mz_X} {m0 : mz_M} (hT : x_tb m0) {W B1 B2 c r d : Nat} {Q : Int32 → mz_M → Prop} (hr : r < 32) (hd : d < 20) (h1 : d < z_loL.getD r 0 → Q (nI (x_bl r d)) (x_mm m0 W B1 B2 c)) (h2 : ¬ d < z_loL.getD r 0 → Q (-1) (x_mm m0 W B1 B2 c)) : mz_gi X mz_sh 125 0 [some (.ref 55), some (.int (nI r)), some (.int (nI d))] (x_mm m0 W B1 B2 c) Q := by
  refine t_M_behindPoint_0 _ _ ?_
  have l1 := x_loB r hr
  have l2 := x_raB r hr
  simp only [nI_clamp (n := r) (by omega), x_r57 hT, x_r58 hT, x_r59 hT, nI_leI (a := z_loL.getD r 0) (b := d) (by omega) (by omega), nI_add]
  refine ⟨mz_inbN hr (by decide), fun g => h2 (by omega), fun g => ⟨mz_inbN (by omega) (by decide), mz_inbN (by omega) (by decide), ?_⟩⟩
  rw [nI_clamp (by omega)]
  exact h1 (by omega)
def x_po (l : Nat) : Nat → Nat → Bool → Nat → Nat × Bool
  | 0, _, b, W => (W, b)
  | n + 1, r, b, W => bif Nat.beq (z_leL.getD r 0) l && !W.testBit (z_iaL.getD r 0) then x_po l n (r + 1) true (W ||| 2 ^ (z_iaL.getD r 0)) else x_po l n (r + 1) b W
theorem x_s_open1 {X : mz_X} {m0 : mz_M} (hT : x_tb m0) {B1 B2 c l : Nat} (hl : 25 ≤ l) (hl2 : l < 100) {Q : Int32 → mz_M → Prop} : ∀ (n r : Nat) (b : Bool) (W : Nat), n + r = 32 → Q (z_b (x_po l n r b W).2) (x_mm m0 (x_po l n r b W).1 B1 B2 c) → mz_gi X mz_sh 127 4 [some (.ref 55), some (.int (nI l)), some (.int (z_b b)), some (.int (nI r))] (x_mm m0 W B1 B2 c) Q := by
  intro n
  induction n with
  | zero =>
    intro r b W hn h
    refine t_M_open_1 _ _ _ ⟨fun _ => ⟨z_b01 b, h⟩, fun g => absurd (nI_le (a := 32) (b := r) (by omega) (by omega)) g⟩
  | succ n ih =>
    intro r b W hn h
    have l1 := x_iaB r (by omega)
    have l2 := x_leB r (by omega)
    refine t_M_open_1 _ _ _ ⟨fun g => absurd ((nI_leI (a := 32) (b := r) (by omega) (by omega)).mp g) (by omega), fun _ => ⟨fun g => absurd ((nI_ltI (a := l) (b := 25) (by omega) (by omega)).mp g) (by omega), fun _ => ?_⟩⟩
    simp only [nI_clamp (n := r) (by omega), x_r56 hT, x_r60 hT, x_r63, nI_clamp (n := z_iaL.getD r 0) (by omega), nI_eq (a := z_leL.getD r 0) (b := l) (by omega) (by omega), z_b0]
    have e1 : nI r + 1 = nI (r + 1) := nI_add r 1
    have hi : mz_inb (nI r) 32 = true := mz_inbN (by omega) (by decide)
    have hi2 : mz_inb (nI r) 33 = true := mz_inbN (by omega) (by decide)
    have hi3 : mz_inb (nI (z_iaL.getD r 0)) 109 = true := mz_inbN (by omega) (by decide)
    rw [e1]
    simp only [x_po] at h
    refine ⟨hi, fun ge => ⟨hi2, hi3, fun g0 => ⟨hi2, hi3, ?_⟩, fun g0 => ?_⟩, fun gn => ?_⟩
    · have e2 : (Nat.beq (z_leL.getD r 0) l && !W.testBit (z_iaL.getD r 0)) = true := by rw [g0, ge, Nat.beq_refl]; rfl
      rw [e2, cond_true] at h
      rw [show vp_nar .boolean 1 = 1 by decide, x_u63]
      exact ih (r + 1) true _ (by omega) h
    · have e2 : (Nat.beq (z_leL.getD r 0) l && !W.testBit (z_iaL.getD r 0)) = false := by rw [Bool.not_eq_false _ |>.mp g0]; simp
      rw [e2, cond_false] at h
      exact ih (r + 1) b _ (by omega) h
    · have e2 : (Nat.beq (z_leL.getD r 0) l && !W.testBit (z_iaL.getD r 0)) = false := by
        have : Nat.beq (z_leL.getD r 0) l = false := by
          rw [← Bool.not_eq_true, Nat.beq_eq]
          exact gn
        rw [this]; rfl
      rw [e2, cond_false] at h
      exact ih (r + 1) b _ (by omega) h
def x_op1 (l W : Nat) : Nat × Bool := bif Nat.blt l 25 then (W, false) else x_po l 32 0 false W
theorem x_s_open {X : mz_X} {m0 : mz_M} (hT : x_tb m0) {W B1 B2 c l : Nat} (hl : l < 100) {Q : Int32 → mz_M → Prop} (h : Q (z_b (x_op1 l W).2) (x_mm m0 (x_op1 l W).1 B1 B2 c)) : mz_gi X mz_sh 127 0 [some (.ref 55), some (.int (nI l)), none, none] (x_mm m0 W B1 B2 c) Q := by
  refine t_M_open_0 _ ?_
  unfold x_op1 at h
  by_cases g : l < 25
  · rw [show Nat.blt l 25 = true from by rw [Nat.blt_eq]; exact g, cond_true] at h
    refine t_M_open_1 _ _ _ ⟨fun _ => ⟨Or.inl rfl, h⟩, fun _ => ⟨fun _ => ⟨Or.inl rfl, h⟩, fun g2 => absurd (nI_lt g (by decide)) g2⟩⟩
  · rw [show Nat.blt l 25 = false from by rw [← Bool.not_eq_true, Nat.blt_eq]; exact g, cond_false] at h
    exact x_s_open1 hT (by omega) hl 32 0 false W (by omega) h
theorem x_s_openm {X : mz_X} {m : mz_M} {Q : Int32 → mz_M → Prop} (h : Q 0 m) : mz_gi X mz_sh 127 0 [some (.ref 55), some (.int (-1)), none, none] m Q := by
  refine t_M_open_0 _ ?_
  exact t_M_open_1 _ _ _ ⟨fun _ => ⟨Or.inl rfl, h⟩, fun _ => ⟨fun _ => ⟨Or.inl rfl, h⟩, fun g2 => absurd (show (-1 : Int32) < 25 by decide) g2⟩⟩
/-! close -/
def x_cd (r : Nat) : Nat → Nat → Bool → Nat → Nat × Bool
  | 0, _, b, W => (W, b)
  | n + 1, d, b, W => bif W.testBit (z_iaL.getD r 0 + d) then (bif Nat.blt d (z_loL.getD r 0) then x_cd r n (d + 1) ((x_op1 (x_bl r d) W).2 || b) (x_op1 (x_bl r d) W).1 else x_cd r n (d + 1) b W) else x_cd r n (d + 1) b W
theorem x_s_close3 {X : mz_X} {m0 : mz_M} (hT : x_tb m0) {B1 B2 c r : Nat} (hr : r < 32) {Q : mz_M → Prop} : ∀ (n d : Nat) (b : Bool) (W : Nat), n + d = z_loL.getD r 0 + 1 → mz_gv X mz_sh 126 10 [some (.ref 55), some (.int (z_b (x_cd r n d b W).2)), some (.int (nI (r + 1))), none] (x_mm m0 (x_cd r n d b W).1 B1 B2 c) Q → mz_gv X mz_sh 126 18 [some (.ref 55), some (.int (z_b b)), some (.int (nI r)), some (.int (nI d))] (x_mm m0 W B1 B2 c) Q := by
  have l0 := x_loB r hr
  have l1 := x_iaB r hr
  have l2 := x_raB r hr
  have e1 : nI r + 1 = nI (r + 1) := nI_add r 1
  have hi : mz_inb (nI r) 32 = true := mz_inbN (by omega) (by decide)
  have hi2 : mz_inb (nI r) 33 = true := mz_inbN (by omega) (by decide)
  intro n
  induction n with
  | zero =>
    intro d b W hn h
    refine t_M_close_3 _ _ _ ?_
    simp only [nI_clamp (n := r) (by omega), x_r57 hT, nI_ltI (a := z_loL.getD r 0) (b := d) (by omega) (by omega)]
    refine ⟨hi, fun _ => ?_, fun g => absurd (show z_loL.getD r 0 < d by omega) g⟩
    rw [e1]
    exact h
  | succ n ih =>
    intro d b W hn h
    refine t_M_close_3 _ _ _ ?_
    have e2 : nI d + 1 = nI (d + 1) := nI_add d 1
    have hb : ∀ {m'}, mz_gv X mz_sh 126 18 [some (.ref 55), some (.int (z_b b)), some (.int (nI r)), some (.int (nI (d + 1)))] m' Q → ((z_b b = 0 → mz_gv X mz_sh 126 18 [some (.ref 55), some (.int 0), some (.int (nI r)), some (.int (nI (d + 1)))] m' Q) ∧ (¬ (z_b b = 0) → mz_gv X mz_sh 126 18 [some (.ref 55), some (.int 1), some (.int (nI r)), some (.int (nI (d + 1)))] m' Q)) := by
      intro m' hm
      cases b with
      | false => exact ⟨fun _ => hm, fun g => absurd rfl g⟩
      | true => exact ⟨fun g => absurd g (by decide), fun _ => hm⟩
    simp only [nI_clamp (n := r) (by omega), x_r57 hT, x_r60 hT, nI_ltI (a := z_loL.getD r 0) (b := d) (by omega) (by omega), nI_add, nI_clamp (n := z_iaL.getD r 0 + d) (by omega), x_r63, e2]
    simp only [x_cd] at h
    refine ⟨hi, fun g => absurd g (by omega), fun _ => ⟨hi2, mz_inbN (by omega) (by decide), fun g0 => ?_, fun g0 => ?_⟩⟩
    · rw [z_b0.mp g0, cond_false] at h
      exact hb (ih (d + 1) b W (by omega) h)
    · have g1 : W.testBit (z_iaL.getD r 0 + d) = true := z_b_t.2 g0
      rw [g1, cond_true] at h
      refine x_s_bp hT hr (by omega) (fun gd => ?_) (fun gd => ?_)
      · rw [show Nat.blt d (z_loL.getD r 0) = true from by rw [Nat.blt_eq]; exact gd, cond_true] at h
        have l3 := x_roB (z_raL.getD r 0 + d) (by omega)
        refine x_s_open hT (show x_bl r d < 100 by unfold x_bl; omega) ?_
        have h' := ih (d + 1) _ _ (by omega) h
        cases hq : (x_op1 (x_bl r d) W).2 with
        | false =>
          rw [hq, Bool.false_or] at h'
          exact ⟨fun _ => hb h', fun g => absurd rfl g⟩
        | true =>
          rw [hq, Bool.true_or] at h'
          exact ⟨fun g => absurd g (by decide), fun _ => h'⟩
      · rw [show Nat.blt d (z_loL.getD r 0) = false from by rw [← Bool.not_eq_true, Nat.blt_eq]; exact gd, cond_false] at h
        refine x_s_openm ?_
        exact ⟨fun _ => hb (ih (d + 1) b W (by omega) h), fun g => absurd rfl g⟩
def x_cr : Nat → Nat → Bool → Nat → Nat × Bool
  | 0, _, b, W => (W, b)
  | n + 1, r, b, W => x_cr n (r + 1) (x_cd r (z_loL.getD r 0 + 1) 0 b W).2 (x_cd r (z_loL.getD r 0 + 1) 0 b W).1
theorem x_s_close2 {X : mz_X} {m0 : mz_M} (hT : x_tb m0) {B1 B2 c : Nat} {Q : mz_M → Prop} : ∀ (n r : Nat) (b : Bool) (W : Nat), n + r = 32 → mz_gv X mz_sh 126 2 [some (.ref 55), some (.int (z_b (x_cr n r b W).2)), none, none] (x_mm m0 (x_cr n r b W).1 B1 B2 c) Q → mz_gv X mz_sh 126 10 [some (.ref 55), some (.int (z_b b)), some (.int (nI r)), none] (x_mm m0 W B1 B2 c) Q := by
  intro n
  induction n with
  | zero =>
    intro r b W hn h
    exact t_M_close_2 _ _ ⟨fun _ => h, fun g => absurd (nI_le (a := 32) (b := r) (by omega) (by omega)) g⟩
  | succ n ih =>
    intro r b W hn h
    refine t_M_close_2 _ _ ⟨fun g => absurd ((nI_leI (a := 32) (b := r) (by omega) (by omega)).mp g) (by omega), fun _ => ?_⟩
    exact x_s_close3 hT (by omega) (z_loL.getD r 0 + 1) 0 b W (by omega) (ih (r + 1) _ _ (by omega) h)
def x_cl : Nat → Nat → Option Nat
  | 0, _ => none
  | n + 1, W => bif (x_cr 32 0 false W).2 then x_cl n (x_cr 32 0 false W).1 else some (x_cr 32 0 false W).1
theorem x_s_close1 {X : mz_X} {m0 : mz_M} (hT : x_tb m0) {B1 B2 c : Nat} {Q : mz_M → Prop} : ∀ (n W W' : Nat), x_cl n W = some W' → Q (x_mm m0 W' B1 B2 c) → mz_gv X mz_sh 126 2 [some (.ref 55), some (.int 1), none, none] (x_mm m0 W B1 B2 c) Q := by
  intro n
  induction n with
  | zero => intro W W' h; cases h
  | succ n ih =>
    intro W W' h hq
    simp only [x_cl] at h
    refine t_M_close_1 _ ⟨fun g => absurd g (by decide), fun _ => ?_⟩
    refine x_s_close2 hT 32 0 false W (by omega) ?_
    cases hb : (x_cr 32 0 false W).2 with
    | true =>
      rw [hb, cond_true] at h
      exact ih _ _ h hq
    | false =>
      rw [hb, cond_false] at h
      cases h
      exact t_M_close_1 _ ⟨fun _ => hq, fun g => absurd rfl g⟩
theorem x_s_close {X : mz_X} {m0 : mz_M} (hT : x_tb m0) {B1 B2 c n W W' : Nat} {Q : mz_M → Prop} (h : x_cl n W = some W') (hq : Q (x_mm m0 W' B1 B2 c)) : mz_gv X mz_sh 126 0 [some (.ref 55), none, none, none] (x_mm m0 W B1 B2 c) Q := t_M_close_0 (x_s_close1 hT n W W' h hq)
