/-! THE REFERENCE'S WORDS, NAMES, NUMBERS (the first seven rows: of kit/laws/BITS.to-paste) -/
theorem wb_tb (n : Nat) : (lN n).toBitVec = BitVec.ofNat 64 n := rfl
theorem wb_inj {a b : Int64} (h : a.toBitVec = b.toBitVec) : a = b := Int64.toBitVec_inj.mp h
theorem wb_c : ∀ k, k < 64 → ((nI k).toInt64 &&& 63) = lN k := by decide +kernel
theorem wb_sm : ∀ k, k < 64 → (BitVec.ofNat 64 k).smod 64 = BitVec.ofNat 64 k := by decide +kernel
theorem wb_shl (n : Nat) {k : Nat} (hk : k < 64) : lN n <<< ((nI k).toInt64 &&& 63) = lN (n * 2 ^ k) := by
  rw [wb_c k hk]
  apply wb_inj
  rw [Int64.toBitVec_shiftLeft, wb_tb, wb_tb, wb_tb, wb_sm k hk]
  apply BitVec.eq_of_toNat_eq
  rw [BitVec.shiftLeft_eq', BitVec.toNat_shiftLeft, BitVec.toNat_ofNat, BitVec.toNat_ofNat, BitVec.toNat_ofNat, Nat.mod_eq_of_lt (show k < 2 ^ 64 by omega), Nat.shiftLeft_eq, Nat.mul_mod, Nat.mod_mod, ← Nat.mul_mod]
theorem u_tn {n : Nat} (h : n < 2 ^ 64) : (UInt64.ofNat n).toNat = n := Nat.mod_eq_of_lt h
theorem g_or {k p a b : Nat} (hp : 2 ^ k = p) (ha : a < p) (h : b * p + a < 2 ^ 64) : lN (b * p) ||| lN a = lN (b * p + a) := by
  subst hp
  have h1 : b * 2 ^ k ||| a = b * 2 ^ k + a := by rw [← Nat.shiftLeft_eq, Nat.shiftLeft_add_eq_or_of_lt ha]
  have h3 : UInt64.ofNat (b * 2 ^ k) ||| UInt64.ofNat a = UInt64.ofNat (b * 2 ^ k + a) := UInt64.toNat_inj.mp (by rw [UInt64.toNat_or, u_tn (by omega), u_tn (by omega), u_tn h, h1])
  have h2 := congrArg UInt64.toInt64 h3
  exact h2
/-- the bytes from a place on as one number -/
def z_pk (t : Nat → Int32) (a : Nat) : Nat → Nat
  | 0 => 0
  | j + 1 => z_pk t a j * 256 + (t (a + j)).toNatClampNeg
/-- the text's bytes -/
def z_txt (t : Nat → Int32) (n : Nat) : Prop := ∀ j, j < n → ∃ b : Nat, b < 256 ∧ t j = nI b
theorem z_pk_lt {t : Nat → Int32} {n a : Nat} (h : z_txt t n) : ∀ j, a + j ≤ n → z_pk t a j < 256 ^ j := by
  intro j
  induction j with
  | zero => intro _; exact Nat.zero_lt_one
  | succ j ih =>
    intro hj
    obtain ⟨b, hb, e⟩ := h (a + j) (by omega)
    have h1 := ih (by omega)
    simp only [z_pk, e, nI_clamp (show b < 2 ^ 31 by omega), Nat.pow_succ]
    omega
theorem z_cmp0 (x y : Int64) : lg_cmp x y = 0 ↔ x = y := by
  unfold lg_cmp
  split
  · rename_i h
    refine ⟨fun h2 => absurd h2 (by decide), fun h2 => ?_⟩
    subst h2
    exact absurd h (Int64.lt_irrefl)
  · split
    · rename_i h; exact ⟨fun _ => h, fun _ => rfl⟩
    · rename_i h; exact ⟨fun h2 => absurd h2 (by decide), fun h2 => absurd h2 h⟩
theorem z_step {v b : Nat} (hv : v < 2 ^ 40) (hb : b < 256) : (lN v <<< ((8 : Int32).toInt64 &&& 63)) ||| (nI b).toInt64 = lN (v * 256 + b) := by
  rw [show (8 : Int32) = nI 8 from rfl, wb_shl v (by decide), nI_l (by omega)]
  exact g_or (k := 8) (p := 256) (by decide) hb (by omega)
theorem z_lNeq {a b : Nat} (ha : a < 2 ^ 63) (hb : b < 2 ^ 63) : lN a = lN b ↔ a = b := pk_lEQ ha hb
/-- the number's words are the spelled ones -/
theorem z_wk_pk {t : Nat → Int32} {n a z : Nat} (ht : z_txt t n) (ha : a + z ≤ n) (hz : 0 < z) (h0 : ¬ t a = 0) : z_wk t a z = (if z ≤ 5 then (if z_pk t a z = 482955849332 then 3 else if z_pk t a z = 26982 then 4 else if z_pk t a z = 1701606245 then 5 else if z_pk t a z = 512852847717 then 6 else if z_pk t a z = 422826041707 then 7 else if z_pk t a z = 1852143732 then 8 else 1) else 1) := by
  obtain ⟨b0, hb0, e0⟩ := ht a (by omega)
  have hp0 : 0 < b0 := by
    rcases Nat.eq_zero_or_pos b0 with h | h
    · rw [h] at e0; exact absurd (e0.trans nI_0) h0
    · exact h
  have hcl : ∀ b : Nat, b < 256 → (nI b).toNatClampNeg = b := fun b hb => nI_clamp (by omega)
  have hnI : ∀ (b c : Nat), b < 256 → c < 256 → (nI b = nI c ↔ b = c) := fun b c h1 h2 => nI_eq (by omega) (by omega)
  have hno : ∀ (w : List Int32), z ≠ w.length → z_sp t a z w = false := by
    intro w hw
    simp [z_sp, hw]
  match z, hz, ha with
  | 1, _, ha =>
    have e : z_wk t a 1 = 1 := by
      unfold z_wk
      rw [hno z_w0 (by decide), hno z_w1 (by decide), hno z_w2 (by decide), hno z_w3 (by decide), hno z_w4 (by decide), hno z_w5 (by decide)]
      rfl
    rw [e, if_pos (by decide)]
    have ep : z_pk t a 1 = b0 := by simp [z_pk, e0, hcl b0 hb0]
    rw [ep, if_neg (by omega), if_neg (by omega), if_neg (by omega), if_neg (by omega), if_neg (by omega), if_neg (by omega)]
  | 2, _, ha =>
    obtain ⟨b1, hb1, e1⟩ := ht (a + 1) (by omega)
    have ep : z_pk t a 2 = b0 * 256 + b1 := by simp [z_pk, e0, e1, hcl b0 hb0, hcl b1 hb1]
    have es : z_sp t a 2 z_w1 = decide (b0 = 105 ∧ b1 = 102) := by
      simp [z_sp, z_w1, z_spl, e0, e1, show (105 : Int32) = nI 105 from rfl, show (102 : Int32) = nI 102 from rfl, hnI b0 105 hb0 (by decide), hnI b1 102 hb1 (by decide)]
    unfold z_wk
    rw [hno z_w0 (by decide), hno z_w2 (by decide), hno z_w3 (by decide), hno z_w4 (by decide), hno z_w5 (by decide), es, ep, if_pos (show 2 ≤ 5 by decide)]
    by_cases h : b0 = 105 ∧ b1 = 102
    · obtain ⟨rfl, rfl⟩ := h
      decide
    · have h2 : ¬ b0 * 256 + b1 = 26982 := by omega
      rw [if_neg (show ¬ b0 * 256 + b1 = 482955849332 by omega), if_neg h2, if_neg (show ¬ b0 * 256 + b1 = 1701606245 by omega), if_neg (show ¬ b0 * 256 + b1 = 512852847717 by omega), if_neg (show ¬ b0 * 256 + b1 = 422826041707 by omega), if_neg (show ¬ b0 * 256 + b1 = 1852143732 by omega)]
      simp [h]
  | 3, _, ha =>
    obtain ⟨b1, hb1, e1⟩ := ht (a + 1) (by omega)
    obtain ⟨b2, hb2, e2⟩ := ht (a + 2) (by omega)
    have ep : z_pk t a 3 = (b0 * 256 + b1) * 256 + b2 := by simp [z_pk, e0, e1, e2, hcl b0 hb0, hcl b1 hb1, hcl b2 hb2]
    have e : z_wk t a 3 = 1 := by
      unfold z_wk
      rw [hno z_w0 (by decide), hno z_w1 (by decide), hno z_w2 (by decide), hno z_w3 (by decide), hno z_w4 (by decide), hno z_w5 (by decide)]
      rfl
    rw [e, ep, if_pos (by decide), if_neg (by omega), if_neg (by omega), if_neg (by omega), if_neg (by omega), if_neg (by omega), if_neg (by omega)]
  | 4, _, ha =>
    obtain ⟨b1, hb1, e1⟩ := ht (a + 1) (by omega)
    obtain ⟨b2, hb2, e2⟩ := ht (a + 2) (by omega)
    obtain ⟨b3, hb3, e3⟩ := ht (a + 3) (by omega)
    have ep : z_pk t a 4 = ((b0 * 256 + b1) * 256 + b2) * 256 + b3 := by simp [z_pk, e0, e1, e2, e3, hcl b0 hb0, hcl b1 hb1, hcl b2 hb2, hcl b3 hb3]
    have es2 : z_sp t a 4 z_w2 = decide (b0 = 101 ∧ b1 = 108 ∧ b2 = 115 ∧ b3 = 101) := by
      simp [z_sp, z_w2, z_spl, e0, e1, e2, e3, show (101 : Int32) = nI 101 from rfl, show (108 : Int32) = nI 108 from rfl, show (115 : Int32) = nI 115 from rfl, hnI b0 101 hb0 (by decide), hnI b1 108 hb1 (by decide), hnI b2 115 hb2 (by decide), hnI b3 101 hb3 (by decide)]
    have es5 : z_sp t a 4 z_w5 = decide (b0 = 110 ∧ b1 = 101 ∧ b2 = 120 ∧ b3 = 116) := by
      simp [z_sp, z_w5, z_spl, e0, e1, e2, e3, show (110 : Int32) = nI 110 from rfl, show (101 : Int32) = nI 101 from rfl, show (120 : Int32) = nI 120 from rfl, show (116 : Int32) = nI 116 from rfl, hnI b0 110 hb0 (by decide), hnI b1 101 hb1 (by decide), hnI b2 120 hb2 (by decide), hnI b3 116 hb3 (by decide)]
    unfold z_wk
    rw [hno z_w0 (by decide), hno z_w1 (by decide), hno z_w3 (by decide), hno z_w4 (by decide), es2, es5, ep, if_pos (show 4 ≤ 5 by decide)]
    rw [if_neg (show ¬ ((b0 * 256 + b1) * 256 + b2) * 256 + b3 = 482955849332 by omega), if_neg (show ¬ ((b0 * 256 + b1) * 256 + b2) * 256 + b3 = 26982 by omega), if_neg (show ¬ ((b0 * 256 + b1) * 256 + b2) * 256 + b3 = 512852847717 by omega), if_neg (show ¬ ((b0 * 256 + b1) * 256 + b2) * 256 + b3 = 422826041707 by omega)]
    by_cases h : b0 = 101 ∧ b1 = 108 ∧ b2 = 115 ∧ b3 = 101
    · obtain ⟨rfl, rfl, rfl, rfl⟩ := h
      decide
    · have h2 : ¬ ((b0 * 256 + b1) * 256 + b2) * 256 + b3 = 1701606245 := by omega
      rw [if_neg h2]
      by_cases h3 : b0 = 110 ∧ b1 = 101 ∧ b2 = 120 ∧ b3 = 116
      · obtain ⟨rfl, rfl, rfl, rfl⟩ := h3
        decide
      · have h4 : ¬ ((b0 * 256 + b1) * 256 + b2) * 256 + b3 = 1852143732 := by omega
        rw [if_neg h4]
        simp [h, h3]
  | 5, _, ha =>
    obtain ⟨b1, hb1, e1⟩ := ht (a + 1) (by omega)
    obtain ⟨b2, hb2, e2⟩ := ht (a + 2) (by omega)
    obtain ⟨b3, hb3, e3⟩ := ht (a + 3) (by omega)
    obtain ⟨b4, hb4, e4⟩ := ht (a + 4) (by omega)
    have ep : z_pk t a 5 = (((b0 * 256 + b1) * 256 + b2) * 256 + b3) * 256 + b4 := by simp [z_pk, e0, e1, e2, e3, e4, hcl b0 hb0, hcl b1 hb1, hcl b2 hb2, hcl b3 hb3, hcl b4 hb4]
    have es0 : z_sp t a 5 z_w0 = decide (b0 = 112 ∧ b1 = 114 ∧ b2 = 105 ∧ b3 = 110 ∧ b4 = 116) := by
      simp [z_sp, z_w0, z_spl, e0, e1, e2, e3, e4, show (112 : Int32) = nI 112 from rfl, show (114 : Int32) = nI 114 from rfl, show (105 : Int32) = nI 105 from rfl, show (110 : Int32) = nI 110 from rfl, show (116 : Int32) = nI 116 from rfl, hnI b0 112 hb0 (by decide), hnI b1 114 hb1 (by decide), hnI b2 105 hb2 (by decide), hnI b3 110 hb3 (by decide), hnI b4 116 hb4 (by decide)]
    have es3 : z_sp t a 5 z_w3 = decide (b0 = 119 ∧ b1 = 104 ∧ b2 = 105 ∧ b3 = 108 ∧ b4 = 101) := by
      simp [z_sp, z_w3, z_spl, e0, e1, e2, e3, e4, show (119 : Int32) = nI 119 from rfl, show (104 : Int32) = nI 104 from rfl, show (105 : Int32) = nI 105 from rfl, show (108 : Int32) = nI 108 from rfl, show (101 : Int32) = nI 101 from rfl, hnI b0 119 hb0 (by decide), hnI b1 104 hb1 (by decide), hnI b2 105 hb2 (by decide), hnI b3 108 hb3 (by decide), hnI b4 101 hb4 (by decide)]
    have es4 : z_sp t a 5 z_w4 = decide (b0 = 98 ∧ b1 = 114 ∧ b2 = 101 ∧ b3 = 97 ∧ b4 = 107) := by
      simp [z_sp, z_w4, z_spl, e0, e1, e2, e3, e4, show (98 : Int32) = nI 98 from rfl, show (114 : Int32) = nI 114 from rfl, show (101 : Int32) = nI 101 from rfl, show (97 : Int32) = nI 97 from rfl, show (107 : Int32) = nI 107 from rfl, hnI b0 98 hb0 (by decide), hnI b1 114 hb1 (by decide), hnI b2 101 hb2 (by decide), hnI b3 97 hb3 (by decide), hnI b4 107 hb4 (by decide)]
    unfold z_wk
    rw [hno z_w1 (by decide), hno z_w2 (by decide), hno z_w5 (by decide), es0, es3, es4, ep, if_pos (show 5 ≤ 5 by decide)]
    generalize hV : (((b0 * 256 + b1) * 256 + b2) * 256 + b3) * 256 + b4 = V
    rw [if_neg (show ¬ V = 26982 by omega), if_neg (show ¬ V = 1701606245 by omega), if_neg (show ¬ V = 1852143732 by omega)]
    by_cases h : b0 = 112 ∧ b1 = 114 ∧ b2 = 105 ∧ b3 = 110 ∧ b4 = 116
    · have hv : V = 482955849332 := by omega
      simp [h, hv]
    · have hv : ¬ V = 482955849332 := by omega
      by_cases h3 : b0 = 119 ∧ b1 = 104 ∧ b2 = 105 ∧ b3 = 108 ∧ b4 = 101
      · have hv3 : V = 512852847717 := by omega
        simp [h, h3, hv3]
      · have hv3 : ¬ V = 512852847717 := by omega
        by_cases h4 : b0 = 98 ∧ b1 = 114 ∧ b2 = 101 ∧ b3 = 97 ∧ b4 = 107
        · have hv4 : V = 422826041707 := by omega
          simp [h, h3, h4, hv4]
        · have hv4 : ¬ V = 422826041707 := by omega
          simp [h, h3, h4, hv, hv3, hv4]
  | z + 6, _, ha =>
    have e : z_wk t a (z + 6) = 1 := by
      unfold z_wk
      rw [hno z_w0 (by simp [z_w0]), hno z_w1 (by simp [z_w1]), hno z_w2 (by simp [z_w2]), hno z_w3 (by simp [z_w3]), hno z_w4 (by simp [z_w4]), hno z_w5 (by simp [z_w5])]
      rfl
    rw [e, if_neg (by omega)]
theorem z_wtail {P : Int32 → Prop} {V : Nat} (hV : V < 2 ^ 40) (h : P (if V = 482955849332 then 3 else if V = 26982 then 4 else if V = 1701606245 then 5 else if V = 512852847717 then 6 else if V = 422826041707 then 7 else if V = 1852143732 then 8 else 1)) : (((lg_cmp (lN V) 482955849332) = 0 → P 3) ∧ (¬ ((lg_cmp (lN V) 482955849332) = 0) → (((lg_cmp (lN V) 26982) = 0 → P 4) ∧ (¬ ((lg_cmp (lN V) 26982) = 0) → (((lg_cmp (lN V) 1701606245) = 0 → P 5) ∧ (¬ ((lg_cmp (lN V) 1701606245) = 0) → (((lg_cmp (lN V) 512852847717) = 0 → P 6) ∧ (¬ ((lg_cmp (lN V) 512852847717) = 0) → (((lg_cmp (lN V) 422826041707) = 0 → P 7) ∧ (¬ ((lg_cmp (lN V) 422826041707) = 0) → (((lg_cmp (lN V) 1852143732) = 0 → P 8) ∧ (¬ ((lg_cmp (lN V) 1852143732) = 0) → P 1)))))))))))) := by
  have hc : ∀ c : Nat, c < 2 ^ 63 → (lg_cmp (lN V) (lN c) = 0 ↔ V = c) := fun c hc => (z_cmp0 _ _).trans (z_lNeq (by omega) hc)
  rw [show (482955849332 : Int64) = lN 482955849332 from rfl, show (26982 : Int64) = lN 26982 from rfl, show (1701606245 : Int64) = lN 1701606245 from rfl, show (512852847717 : Int64) = lN 512852847717 from rfl, show (422826041707 : Int64) = lN 422826041707 from rfl, show (1852143732 : Int64) = lN 1852143732 from rfl]
  rw [hc _ (by decide), hc _ (by decide), hc _ (by decide), hc _ (by decide), hc _ (by decide), hc _ (by decide)]
  refine ⟨fun h1 => ?_, fun h1 => ⟨fun h2 => ?_, fun h2 => ⟨fun h3 => ?_, fun h3 => ⟨fun h4 => ?_, fun h4 => ⟨fun h5 => ?_, fun h5 => ⟨fun h6 => ?_, fun h6 => ?_⟩⟩⟩⟩⟩⟩
  · rw [if_pos h1] at h; exact h
  · rw [if_neg h1, if_pos h2] at h; exact h
  · rw [if_neg h1, if_neg h2, if_pos h3] at h; exact h
  · rw [if_neg h1, if_neg h2, if_neg h3, if_pos h4] at h; exact h
  · rw [if_neg h1, if_neg h2, if_neg h3, if_neg h4, if_pos h5] at h; exact h
  · rw [if_neg h1, if_neg h2, if_neg h3, if_neg h4, if_neg h5, if_pos h6] at h; exact h
  · rw [if_neg h1, if_neg h2, if_neg h3, if_neg h4, if_neg h5, if_neg h6] at h; exact h
theorem s_M_wordOf1 {X : mz_X} {m : mz_M} {Q : Int32 → mz_M → Prop} {n a z : Nat} (hn : n ≤ 4000) (ht : z_txt (m 66) n) (ha : a + z ≤ n) (hz : z ≤ 5) : ∀ (k j : Nat), j + k = z → Q (if z_pk (m 66) a z = 482955849332 then 3 else if z_pk (m 66) a z = 26982 then 4 else if z_pk (m 66) a z = 1701606245 then 5 else if z_pk (m 66) a z = 512852847717 then 6 else if z_pk (m 66) a z = 422826041707 then 7 else if z_pk (m 66) a z = 1852143732 then 8 else 1) m → mz_gi X mz_sh 138 5 [some (.ref 55), some (.int (nI a)), some (.int (nI z)), some (.long (lN (z_pk (m 66) a j))), none, some (.int (nI j))] m Q := by
  intro k
  have hb : ∀ j, j ≤ z → z_pk (m 66) a j < 2 ^ 40 := by
    intro j hj
    have h1 := z_pk_lt (a := a) ht j (by omega)
    have h2 : (256 : Nat) ^ j ≤ 256 ^ 5 := Nat.pow_le_pow_right (by decide) (by omega)
    have h3 : (256 : Nat) ^ 5 = 2 ^ 40 := by decide
    omega
  induction k with
  | zero =>
    intro j hj hQ
    have : j = z := by omega
    subst this
    exact t_M_wordOf_1 _ _ _ _ ⟨fun _ => z_wtail (P := fun r => Q r m) (hb j (Nat.le_refl _)) hQ, fun h => absurd (nI_le (Nat.le_refl _) (by omega)) h⟩
  | succ k ih =>
    intro j hj hQ
    refine t_M_wordOf_1 _ _ _ _ ⟨fun h => absurd h (nI_ge (by omega) (by omega)), fun _ => ⟨fun h => absurd h (nI_nlt (a := 5) hz (by decide)), fun _ => ?_⟩⟩
    obtain ⟨b, hb2, e⟩ := ht (a + j) (by omega)
    rw [nI_add, nI_clamp (by omega), e, z_step (hb j (by omega)) hb2, nI_1]
    refine ⟨mz_inbN (by omega) (by decide), ?_⟩
    have g := ih (j + 1) (by omega) hQ
    simp only [z_pk, e, nI_clamp (show b < 2 ^ 31 by omega)] at g
    exact g
theorem s_M_wordOf {X : mz_X} {m : mz_M} {Q : Int32 → mz_M → Prop} {n a z : Nat} (hn : n ≤ 4000) (ht : z_txt (m 66) n) (ha : a + z ≤ n) (hz : 0 < z) (h0 : ¬ m 66 a = 0) (hQ : Q (z_wk (m 66) a z) m) : mz_gi X mz_sh 138 0 [some (.ref 55), some (.int (nI a)), some (.int (nI z)), none, none, none] m Q := by
  refine t_M_wordOf_0 _ _ ?_
  rw [z_wk_pk ht ha hz h0] at hQ
  by_cases h5 : z ≤ 5
  · rw [if_pos h5] at hQ
    have g := s_M_wordOf1 (X := X) hn ht ha h5 z 0 (by omega) hQ
    rw [nI_0] at g
    exact g
  · rw [if_neg h5] at hQ
    refine t_M_wordOf_1 _ _ _ _ ⟨fun h => absurd h (nI_nle hz (by omega)), fun _ => ⟨fun _ => z_wtail (V := 0) (P := fun r => Q r m) (by decide) hQ, fun h => absurd (nI_lt (a := 5) (by omega) (by omega)) h⟩⟩
theorem s_M_nmT {X : mz_X} {m : mz_M} {Q : Int32 → mz_M → Prop} {s : z_LS} {n a z : Nat} (hn : n ≤ 4000) (ht : z_txt (m 66) n) (hz : 0 < z) (h0 : ¬ m 66 a = 0) (hc : s.1 ≤ 4000) (hk : s.2.1 ≤ 32) (hok : z_nok s.2.2.2.2.2.2.1 s.2.2.2.2.2.2.2 n s.2.1) (hR : z_RB m s) (ha : a + z ≤ n) (h1 : ∀ s' m', z_nmT (m 66) s a z = some s' → z_RB m' s' → z_frB m m' → Q 1 m') (h2 : z_nmT (m 66) s a z = none → Q 0 m) :
    mz_gi X mz_sh 138 0 [some (.ref 55), some (.int (nI a)), some (.int (nI z)), none, none, none] m (fun r19 m17 => ((r19 = 1 → ((nI z ≤ 16 → mz_gi X mz_sh 139 0 [some (.ref 55), some (.int (nI a)), some (.int (nI z)), none, none, none] m17 (fun r26 m24 => ((0 ≤ r26 → mz_gv X mz_sh 141 0 [some (.ref 55), some (.int r19), some (.int (nI a)), some (.int (nI z)), some (.int r26)] m24 (fun m29 => Q 1 m29)) ∧ (¬ (0 ≤ r26) → Q 0 m24)))) ∧ (¬ (nI z ≤ 16) → Q 0 m17))) ∧ (¬ (r19 = 1) → mz_gv X mz_sh 141 0 [some (.ref 55), some (.int r19), some (.int (nI a)), some (.int (nI z)), some (.int 0)] m17 (fun m34 => Q 1 m34)))) := by
  have hR0 := hR
  obtain ⟨e1, e2, e3, e4, e5, e6, e7, e8⟩ := hR0
  unfold z_nmT at h1 h2
  refine s_M_wordOf hn ht ha hz h0 ⟨fun hw => ?_, fun hw => ?_⟩
  · rw [if_pos hw] at h1 h2
    rw [hw]
    refine ⟨fun hz => ?_, fun hz => ?_⟩
    · have hz2 : z ≤ 16 := (nI_leI (b := 16) (by omega) (by decide)).mp hz
      rw [if_pos hz2] at h1 h2
      rw [← e7, ← e8] at h1 h2 hok
      refine s_M_slotOf hn hk e2 hok ha (fun q hq => ?_) (fun hq hlt => ?_) (fun hq hlt => ?_)
      · have hq32 : q < 2 ^ 31 := by
          have aux : ∀ (r s0 q : Nat), z_slot (m 66) (m 71) (m 72) a z r s0 = some q → q < s0 + r := by
            intro r
            induction r with
            | zero => intro s0 q h; cases h
            | succ r ih =>
              intro s0 q h
              simp only [z_slot] at h
              split at h
              · cases h; omega
              · have := ih _ _ h; omega
          have := aux _ _ _ hq
          omega
        refine ⟨fun _ => s_M_add hc hR (fun m' g1 g2 => h1 _ m' ?_ g1 g2), fun h => absurd (nI_pos' hq32) h⟩
        rw [hq]
      · refine ⟨fun _ => ?_, fun h => absurd (nI_pos' (by omega)) h⟩
        obtain ⟨g1, g2⟩ := z_RB_nam (b := nI a) (z := nI z) hR
        refine s_M_add (s := z_nam s (nI a) (nI z)) hc g1 (fun m' g3 g4 => h1 _ m' ?_ g3 (g2.tr g4))
        rw [hq]
        simp only [if_pos hlt]
      · refine ⟨fun h => absurd h (by decide), fun _ => h2 ?_⟩
        rw [hq]
        simp only [if_neg hlt]
    · have hz2 : ¬ z ≤ 16 := fun h => hz (nI_le (b := 16) h (by decide))
      rw [if_neg hz2] at h2
      exact h2 rfl
  · rw [if_neg hw] at h1
    exact s_M_add hc hR (fun m' g1 g2 => h1 _ m' rfl g1 g2)
theorem s_M_readName1 {X : mz_X} {m : mz_M} {Q : Int32 → mz_M → Prop} {s : z_LS} {n a : Nat} (hn : n ≤ 4000) (hlen : m 55 12 = nI n) (ht : z_txt (m 66) n) (h0 : ¬ m 66 a = 0) (hc : s.1 ≤ 4000) (hk : s.2.1 ≤ 32) (hok : z_nok s.2.2.2.2.2.2.1 s.2.2.2.2.2.2.2 n s.2.1) (hR : z_RB m s) : ∀ (k i : Nat), i + k = n → a ≤ i → a < z_end (m 66) z_nd k i → (∀ s' m', z_nmT (m 66) s a (z_end (m 66) z_nd k i - a) = some s' → z_RB m' s' → z_frB m m' → Q 1 m') → (z_nmT (m 66) s a (z_end (m 66) z_nd k i - a) = none → Q 0 m) → mz_gi X mz_sh 142 2 [some (.ref 55), some (.int (nI a)), some (.int (nI i)), none, none] m Q := by
  intro k
  induction k with
  | zero =>
    intro i hi hai hae h1 h2
    refine t_M_readName_1 _ _ (s_M_byteAt hn hlen (by omega) ?_)
    rw [if_neg (by omega)]
    refine s_M_isLetter ⟨fun _ => s_M_byteAt hn hlen (by omega) ?_, fun h => absurd (by decide) h⟩
    rw [if_neg (by omega)]
    refine s_M_isDigit ⟨fun _ => ?_, fun h => absurd (by decide) h⟩
    rw [pk_sub hai]
    have hae2 : a < i := hae
    exact s_M_nmT hn ht (by omega) h0 hc hk hok hR (by omega) h1 h2
  | succ k ih =>
    intro i hi hai hae h1 h2
    have hgo : z_nd (m 66 i) = true → mz_gi X mz_sh 142 2 [some (.ref 55), some (.int (nI a)), some (.int (nI i + 1)), none, none] m Q := by
      intro hg
      simp only [z_end, hg, if_true] at h1 h2 hae
      rw [nI_1]
      exact ih (i + 1) (by omega) (by omega) hae h1 h2
    refine t_M_readName_1 _ _ (s_M_byteAt hn hlen (by omega) ?_)
    rw [if_pos (by omega)]
    refine s_M_isLetter ⟨fun h => s_M_byteAt hn hlen (by omega) ?_, fun h => ?_⟩
    · rw [if_pos (by omega)]
      refine s_M_isDigit ⟨fun h3 => ?_, fun h3 => ?_⟩
      · have hno : z_nd (m 66 i) = false := by rw [z_nd, z_b0.mp h, z_b0.mp h3]; rfl
        simp only [z_end, hno, Bool.false_eq_true, if_false] at h1 h2 hae
        rw [pk_sub hai]
        exact s_M_nmT hn ht (by omega) h0 hc hk hok hR (by omega) h1 h2
      · refine hgo ?_
        cases hz : z_dig (m 66 i) with
        | true => rw [z_nd, hz, Bool.or_true]
        | false => exact absurd (z_b0.mpr hz) h3
    · refine hgo ?_
      cases hz : z_let (m 66 i) with
      | true => rw [z_nd, hz, Bool.true_or]
      | false => exact absurd (z_b0.mpr hz) h
/-- numbers -/
theorem s_M_number1 {X : mz_X} {m : mz_M} {Q : Int32 → mz_M → Prop} {s : z_LS} {n a : Nat} (hn : n ≤ 4000) (hlen : m 55 12 = nI n) (hc : s.1 ≤ 4000) (hR : z_RB m s) : ∀ (k i : Nat) (v : Int32), i + k = n → a ≤ i → (∀ m', z_RB m' (z_put s 2 (nI a) (nI (z_end (m 66) z_dig k i - a)) (z_num (m 66) k i v)) → z_frB m m' → Q 1 m') → mz_gi X mz_sh 143 31 [some (.ref 55), some (.int (nI a)), none, some (.int (nI i)), some (.int v)] m Q := by
  intro k
  induction k with
  | zero =>
    intro i v hi hai hQ
    refine t_M_readToken_1 _ _ _ (s_M_byteAt hn hlen (by omega) ?_)
    rw [if_neg (by omega)]
    refine s_M_isDigit ⟨fun _ => ?_, fun h => absurd (by decide) h⟩
    rw [pk_sub hai]
    exact s_M_add hc hR hQ
  | succ k ih =>
    intro i v hi hai hQ
    refine t_M_readToken_1 _ _ _ (s_M_byteAt hn hlen (by omega) ?_)
    rw [if_pos (by omega)]
    refine s_M_isDigit ⟨fun h => ?_, fun h => s_M_byteAt hn hlen (by omega) ?_⟩
    · have hd := z_b0.mp h
      rw [pk_sub hai]
      simp only [z_end, z_num, hd, Bool.false_eq_true, if_false] at hQ
      exact s_M_add hc hR hQ
    · have hd : z_dig (m 66 i) = true := by
        cases hz : z_dig (m 66 i) with
        | true => rfl
        | false => exact absurd (z_b0.mpr hz) h
      rw [if_pos (by omega)]
      simp only [z_end, z_num, hd, if_true] at hQ
      rw [nI_1, ← z_ar]
      exact ih (i + 1) _ (by omega) (by omega) hQ
