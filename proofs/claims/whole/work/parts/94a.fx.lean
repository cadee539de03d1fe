/-! a fast machine for the constructors: ints as numbers, cells as rows of 32 bits -/
abbrev x_V : Type := Nat ⊕ Nat
def x_dv : x_V → Value
  | .inl u => .int (Int32.ofNat u)
  | .inr k => .ref k
def x_mL (L : List (Option x_V)) : mz_L := L.map (fun o => o.map x_dv)
def x_mS (S : List x_V) : List Value := S.map x_dv
def x_rd (a i : Nat) : Nat := (a >>> (32 * i)) % 4294967296
def x_wr (a i v : Nat) : Nat := a ^^^ (((a >>> (32 * i)) % 4294967296 ^^^ (v % 4294967296)) <<< (32 * i))
def x_dm (E : List Nat) : mz_M := fun k i => Int32.ofNat (x_rd (E.getD k 0) i)
def x_nu (v : Int32) : Nat := v.toUInt32.toNat
theorem x_nu_of (v : Int32) : Int32.ofNat (x_nu v) = v := by
  unfold x_nu
  cases v with
  | _ u => exact congrArg Int32.ofUInt32 (UInt32.ofNat_toNat (x := u))
/-- whole numbers are made before they go on -/
def x_fs {α : Type} (v : Nat) (k : Nat → α) : α := match v with | 0 => k 0 | n + 1 => k (n + 1)
theorem x_fs_eq {α : Type} (v : Nat) (k : Nat → α) : x_fs v k = k v := by cases v <;> rfl
theorem x_rd_wr (a i j v : Nat) : x_rd (x_wr a i v) j = if j = i then v % 4294967296 else x_rd a j := by
  unfold x_rd x_wr
  rw [show (4294967296 : Nat) = 2 ^ 32 from rfl]
  apply Nat.eq_of_testBit_eq
  intro k
  by_cases hk : k < 32
  · by_cases hj : j = i
    · subst hj
      rw [if_pos rfl]
      simp only [Nat.testBit_mod_two_pow, Nat.testBit_shiftRight, Nat.testBit_xor, Nat.testBit_shiftLeft, hk, decide_true, Bool.true_and]
      rw [show 32 * j + k - 32 * j = k by omega]
      have h1 : decide (32 * j + k ≥ 32 * j) = true := by rw [decide_eq_true_eq]; omega
      simp only [h1, hk, decide_true, Bool.true_and]
      cases a.testBit (32 * j + k) <;> cases v.testBit k <;> rfl
    · rw [if_neg hj]
      simp only [Nat.testBit_mod_two_pow, Nat.testBit_shiftRight, Nat.testBit_xor, Nat.testBit_shiftLeft, hk, decide_true, Bool.true_and]
      rcases Nat.lt_or_ge j i with g | g
      · have h1 : decide (32 * j + k ≥ 32 * i) = false := by rw [decide_eq_false_iff_not]; omega
        simp only [h1, Bool.false_and, Bool.xor_false]
      · have h1 : decide (32 * j + k - 32 * i < 32) = false := by rw [decide_eq_false_iff_not]; omega
        simp only [h1, Bool.false_and, Bool.xor_false, Bool.and_false]
  · split <;> simp only [Nat.testBit_mod_two_pow, hk, decide_false, Bool.false_and]
theorem x_of_mod (v : Nat) : Int32.ofNat (v % 4294967296) = Int32.ofNat v := by
  rw [← Int32.toInt_inj, Int32.toInt_ofNat', Int32.toInt_ofNat', Int.bmod_def, Int.bmod_def, show Int32.size = 4294967296 from rfl]
  omega
def x_lt (x y : Nat) : Bool := Nat.blt ((x + 2147483648) % 4294967296) ((y + 2147483648) % 4294967296)
theorem x_toInt (u : Nat) : (Int32.ofNat u).toInt = (((u + 2147483648) % 4294967296 : Nat) : Int) - 2147483648 := by
  rw [Int32.toInt_ofNat', Int.bmod_def, show Int32.size = 4294967296 from rfl]
  omega
theorem x_lt_iff (x y : Nat) : Int32.ofNat x < Int32.ofNat y ↔ x_lt x y = true := by
  rw [Int32.lt_iff_toInt_lt, x_toInt, x_toInt]
  unfold x_lt
  rw [Nat.blt_eq]
  omega
theorem x_eq_iff (x y : Nat) : Int32.ofNat x = Int32.ofNat y ↔ Nat.beq (x % 4294967296) (y % 4294967296) = true := by
  rw [← Int32.toInt_inj, x_toInt, x_toInt, Nat.beq_eq]
  omega
