/-! the fast machine: one instruction -/
def x_e_iaload (r1 r2 : Nat) (val : Value) (pc : Nat) (L : List (Option x_V)) (S : List x_V) (sh : List mz_K) (E : List Nat) : Option (Nat × List (Option x_V) × List x_V × List mz_K × List Nat) :=
  (match S with
    | .inl i :: .inr a :: S => bif Nat.blt a mz_B then (match sh[a]? with
        | some (.inl (.int, n)) => bif Nat.blt i n && Nat.blt n 2147483648 then x_fs (x_rd (E.getD a 0) i) (fun w => some (pc + 1, L, .inl w :: S, sh, E)) else none
        | _ => none)
      else bif Nat.beq (a - mz_B) 50 then none else (match mz_oal (a - mz_B) mz_arrs with
        | some (.int, n, f) => bif Nat.blt i n && Nat.blt n 2147483648 then x_fs (x_nu (f i)) (fun w => some (pc + 1, L, .inl w :: S, sh, E)) else none
        | _ => none)
    | _ => none)
def x_e_arraylength (r1 r2 : Nat) (val : Value) (pc : Nat) (L : List (Option x_V)) (S : List x_V) (sh : List mz_K) (E : List Nat) : Option (Nat × List (Option x_V) × List x_V × List mz_K × List Nat) :=
  (match S with
    | .inr a :: S => bif Nat.blt a mz_B then (match sh[a]? with
        | some (.inl (.int, n)) => some (pc + 1, L, .inl n :: S, sh, E)
        | _ => none)
      else bif Nat.beq (a - mz_B) 50 then none else (match mz_oal (a - mz_B) mz_arrs with
        | some (_, n, _) => x_fs n (fun w => some (pc + 1, L, .inl w :: S, sh, E))
        | _ => none)
    | _ => none)
def x_ex (ins : Instr) (r1 r2 : Nat) (val : Value) (pc : Nat) (L : List (Option x_V)) (S : List x_V) (sh : List mz_K) (E : List Nat) : Option (Nat × List (Option x_V) × List x_V × List mz_K × List Nat) :=
  match ins with
  | .aload_n _ => (match L[r1]? with | some (some (.inr k)) => some (pc + 1, L, .inr k :: S, sh, E) | _ => none)
  | .aload _ => (match L[r1]? with | some (some (.inr k)) => some (pc + 2, L, .inr k :: S, sh, E) | _ => none)
  | .iload_n _ => (match L[r1]? with | some (some (.inl k)) => some (pc + 1, L, .inl k :: S, sh, E) | _ => none)
  | .iload _ => (match L[r1]? with | some (some (.inl k)) => some (pc + 2, L, .inl k :: S, sh, E) | _ => none)
  | .istore_n _ => (match S with | .inl u :: S => bif Nat.blt r1 L.length then some (pc + 1, L.set r1 (some (.inl u)), S, sh, E) else none | _ => none)
  | .istore _ => (match S with | .inl u :: S => bif Nat.blt r1 L.length then some (pc + 2, L.set r1 (some (.inl u)), S, sh, E) else none | _ => none)
  | .astore_n _ => (match S with | .inr u :: S => bif Nat.blt r1 L.length then some (pc + 1, L.set r1 (some (.inr u)), S, sh, E) else none | _ => none)
  | .iinc _ _ => (match L[r1]?, val with | some (some (.inl u)), .int d => bif Nat.blt r1 L.length then x_fs ((u + x_nu d) % 4294967296) (fun w => some (pc + 3, L.set r1 (some (.inl w)), S, sh, E)) else none | _, _ => none)
  | .iconst _ => (match val with | .int v => x_fs (x_nu v) (fun w => some (pc + 1, L, .inl w :: S, sh, E)) | _ => none)
  | .bipush _ => (match val with | .int v => x_fs (x_nu v) (fun w => some (pc + 2, L, .inl w :: S, sh, E)) | _ => none)
  | .sipush _ => (match val with | .int v => x_fs (x_nu v) (fun w => some (pc + 3, L, .inl w :: S, sh, E)) | _ => none)
  | .ldc _ => (match val with | .int v => x_fs (x_nu v) (fun w => some (pc + 2, L, .inl w :: S, sh, E)) | _ => none)
  | .getstatic _ => (match val with | .ref k => some (pc + 3, L, .inr k :: S, sh, E) | _ => none)
  | .iadd => (match S with | .inl y :: .inl x :: S => x_fs ((x + y) % 4294967296) (fun w => some (pc + 1, L, .inl w :: S, sh, E)) | _ => none)
  | .isub => (match S with | .inl y :: .inl x :: S => x_fs ((x + (4294967296 - y % 4294967296)) % 4294967296) (fun w => some (pc + 1, L, .inl w :: S, sh, E)) | _ => none)
  | .imul => (match S with | .inl y :: .inl x :: S => x_fs ((x * y) % 4294967296) (fun w => some (pc + 1, L, .inl w :: S, sh, E)) | _ => none)
  | .iand => (match S with | .inl y :: .inl x :: S => x_fs (x &&& y) (fun w => some (pc + 1, L, .inl w :: S, sh, E)) | _ => none)
  | .ior => (match S with | .inl y :: .inl x :: S => x_fs (x ||| y) (fun w => some (pc + 1, L, .inl w :: S, sh, E)) | _ => none)
  | .ishl => (match S with | .inl y :: .inl x :: S => bif Nat.blt y 32 && Nat.blt x 2 then x_fs (x <<< y) (fun w => some (pc + 1, L, .inl w :: S, sh, E)) else none | _ => none)
  | .ishr => (match S with | .inl y :: .inl x :: S => bif Nat.blt y 32 && Nat.blt x 2147483648 then x_fs (x >>> y) (fun w => some (pc + 1, L, .inl w :: S, sh, E)) else none | _ => none)
  | .ineg => (match S with | .inl x :: S => x_fs ((4294967296 - x % 4294967296) % 4294967296) (fun w => some (pc + 1, L, .inl w :: S, sh, E)) | _ => none)
  | .dup => (match S with | .inl x :: S => some (pc + 1, L, .inl x :: .inl x :: S, sh, E) | .inr x :: S => some (pc + 1, L, .inr x :: .inr x :: S, sh, E) | _ => none)
  | .dup2 => (match S with | .inl x :: .inr y :: S => some (pc + 1, L, .inl x :: .inr y :: .inl x :: .inr y :: S, sh, E) | _ => none)
  | .pop => (match S with | .inl _ :: S => some (pc + 1, L, S, sh, E) | .inr _ :: S => some (pc + 1, L, S, sh, E) | _ => none)
  | .goto _ => some (r1, L, S, sh, E)
  | .ifCond c _ => (match S with
    | .inl x :: S => (match c with
      | .eq => some ((bif Nat.beq (x % 4294967296) 0 then r1 else pc + 3), L, S, sh, E)
      | .ne => some ((bif Nat.beq (x % 4294967296) 0 then pc + 3 else r1), L, S, sh, E)
      | .lt => some ((bif x_lt x 0 then r1 else pc + 3), L, S, sh, E)
      | .ge => some ((bif x_lt x 0 then pc + 3 else r1), L, S, sh, E)
      | .gt => some ((bif x_lt 0 x then r1 else pc + 3), L, S, sh, E)
      | .le => some ((bif x_lt 0 x then pc + 3 else r1), L, S, sh, E))
    | _ => none)
  | .if_icmp c _ => (match S with
    | .inl y :: .inl x :: S => (match c with
      | .eq => some ((bif Nat.beq (x % 4294967296) (y % 4294967296) then r1 else pc + 3), L, S, sh, E)
      | .ne => some ((bif Nat.beq (x % 4294967296) (y % 4294967296) then pc + 3 else r1), L, S, sh, E)
      | .lt => some ((bif x_lt x y then r1 else pc + 3), L, S, sh, E)
      | .ge => some ((bif x_lt x y then pc + 3 else r1), L, S, sh, E)
      | .gt => some ((bif x_lt y x then r1 else pc + 3), L, S, sh, E)
      | .le => some ((bif x_lt y x then pc + 3 else r1), L, S, sh, E))
    | _ => none)
  | .getfield _ => (match S with
    | .inr a :: S => bif Nat.beq r1 100 then none else (match sh[a]? with
        | some (.inr (ci, fs)) => bif Nat.beq ci r1 && Nat.blt a mz_B then (match fs[r2]? with
          | some none => x_fs (x_rd (E.getD a 0) r2) (fun w => some (pc + 3, L, .inl w :: S, sh, E))
          | some (some (some j)) => some (pc + 3, L, .inr j :: S, sh, E)
          | _ => none) else none
        | _ => none)
    | _ => none)
  | .putfield _ => (match S with
    | .inl x :: .inr a :: S => (match sh[a]? with
        | some (.inr (ci, fs)) => bif Nat.beq ci r1 && (Nat.blt a mz_B && Nat.blt a E.length) then (match fs[r2]?, val with
          | some none, .null => x_fs (x_wr (E.getD a 0) r2 x) (fun w => some (pc + 3, L, S, sh, E.set a w))
          | some none, .int _ => bif Nat.blt x 2 then x_fs (x_wr (E.getD a 0) r2 x) (fun w => some (pc + 3, L, S, sh, E.set a w)) else none
          | _, _ => none) else none
        | _ => none)
    | .inr j :: .inr a :: S => (match sh[a]? with
        | some (.inr (ci, fs)) => bif Nat.beq ci r1 && (Nat.blt a mz_B && (Nat.blt j sh.length && Nat.blt j mz_B)) then (match fs[r2]?, val with
          | some (some _), .ref _ => some (pc + 3, L, S, sh.set a (.inr (ci, fs.set r2 (some (some j)))), E)
          | _, _ => none) else none
        | _ => none)
    | _ => none)
  | .iaload => x_e_iaload r1 r2 val pc L S sh E
  | .baload => (match S with
    | .inl i :: .inr a :: S => bif Nat.blt a mz_B then (match sh[a]? with
        | some (.inl (.boolean, n)) => bif Nat.blt i n && Nat.blt n 2147483648 then x_fs (x_rd (E.getD a 0) i) (fun w => some (pc + 1, L, .inl w :: S, sh, E)) else none
        | _ => none)
      else none
    | _ => none)
  | .iastore => (match S with
    | .inl x :: .inl i :: .inr a :: S => bif Nat.blt a mz_B && Nat.blt a E.length then (match sh[a]? with
        | some (.inl (.int, n)) => bif Nat.blt i n && Nat.blt n 2147483648 then x_fs (x_wr (E.getD a 0) i x) (fun w => some (pc + 1, L, S, sh, E.set a w)) else none
        | _ => none) else none
    | _ => none)
  | .bastore => (match S with
    | .inl x :: .inl i :: .inr a :: S => bif Nat.blt a mz_B && Nat.blt a E.length then (match sh[a]? with
        | some (.inl (.boolean, n)) => bif Nat.blt x 2 && (Nat.blt i n && Nat.blt n 2147483648) then x_fs (x_wr (E.getD a 0) i x) (fun w => some (pc + 1, L, S, sh, E.set a w)) else none
        | _ => none) else none
    | _ => none)
  | .arraylength => x_e_arraylength r1 r2 val pc L S sh E
  | .newarray aty => (match S with
    | .inl n :: S => bif (Nat.blt sh.length mz_B && (mz_wL sh.length (x_mL L) && mz_wS sh.length (x_mS S))) && (Nat.beq E.length sh.length && Nat.ble n 100000) then (match aty with
        | .int => some (pc + 2, L, .inr sh.length :: S, sh ++ [.inl (.int, n)], E ++ [0])
        | .boolean => some (pc + 2, L, .inr sh.length :: S, sh ++ [.inl (.boolean, n)], E ++ [0])
        | _ => none) else none
    | _ => none)
  | .new _ => bif (Nat.blt sh.length mz_B && (mz_wL sh.length (x_mL L) && mz_wS sh.length (x_mS S))) && Nat.beq E.length sh.length then some (pc + 3, L, .inr sh.length :: S, sh ++ [.inr (r1, mz_n0 r1)], E ++ [0]) else none
  | .invokespecial _ => (match S with | .inr a :: S => bif Nat.beq r1 9999 && (Nat.blt a mz_B && Nat.ble (((x_mS S).map fun v => v.category).sum) 8) then some (pc + 3, L, S, sh, E) else none | _ => none)
  | _ => none
theorem x_mL_get {L : List (Option x_V)} {r : Nat} {v : x_V} (h : L[r]? = some (some v)) : (x_mL L)[r]? = some (some (x_dv v)) := by
  unfold x_mL
  rw [List.getElem?_map, h]
  rfl
theorem x_sok (L : List (Option x_V)) (i : Nat) : mz_sok (x_mL L) i = true := by
  cases i with
  | zero => rfl
  | succ j =>
    simp only [mz_sok]
    have hw : ∀ o, (x_mL L)[j]? = some (some o) → ∃ w, x_dv w = o := by
      intro o h
      unfold x_mL at h
      rw [List.getElem?_map] at h
      cases h2 : L[j]? with
      | none => rw [h2] at h; cases h
      | some o2 =>
        rw [h2] at h
        cases o2 with
        | none => cases h
        | some w => cases h; exact ⟨w, rfl⟩
    split
    · rename_i h
      obtain ⟨w, hw⟩ := hw _ h
      cases w <;> cases hw
    · rename_i h
      obtain ⟨w, hw⟩ := hw _ h
      cases w <;> cases hw
    · rfl
theorem x_put {L : List (Option x_V)} {r : Nat} {v : x_V} (h : Nat.blt r L.length = true) : mz_put (x_mL L) r (x_dv v) = some (x_mL (L.set r (some v))) := by
  unfold mz_put
  have h2 : (x_mL L).length = L.length := by unfold x_mL; rw [List.length_map]
  rw [h2, h, x_sok]
  simp only [Bool.and_self, cond_true]
  unfold x_mL
  rw [List.map_set]
  rfl
theorem x_dm_up {E : List Nat} {a : Nat} (h : Nat.blt a E.length = true) (i v : Nat) : x_dm (E.set a (x_wr (E.getD a 0) i v)) = mz_up (x_dm E) a i (Int32.ofNat v) := by
  have h' : a < E.length := by rw [Nat.blt_eq] at h; exact h
  funext k j
  unfold x_dm mz_up
  by_cases e : k = a
  · subst e
    rw [if_pos rfl]
    have : (E.set k (x_wr (E.getD k 0) i v)).getD k 0 = x_wr (E.getD k 0) i v := by
      rw [List.getD_eq_getElem?_getD, List.getElem?_set_self h']
      rfl
    rw [this, x_rd_wr]
    unfold upd
    by_cases e2 : j = i
    · subst e2
      rw [if_pos rfl, if_pos rfl, x_of_mod]
    · rw [if_neg e2, if_neg e2]
  · rw [if_neg e]
    have : (E.set a (x_wr (E.getD a 0) i v)).getD k 0 = E.getD k 0 := by
      simp only [List.getD_eq_getElem?_getD]
      rw [List.getElem?_set_ne (fun e' => e e'.symm)]
    rw [this]
theorem x_rd0 (i : Nat) : x_rd 0 i = 0 := by
  unfold x_rd
  rw [Nat.zero_shiftRight]
theorem x_dm_z {E : List Nat} {n : Nat} (h : Nat.beq E.length n = true) : x_dm (E ++ [0]) = mz_z (x_dm E) n := by
  have h' : E.length = n := Nat.eq_of_beq_eq_true h
  subst h'
  funext k j
  unfold x_dm mz_z
  by_cases e : k = E.length
  · subst e
    rw [if_pos rfl, List.getD_eq_getElem?_getD, List.getElem?_append_right (Nat.le_refl _), Nat.sub_self]
    show Int32.ofNat (x_rd 0 j) = 0
    rw [x_rd0]
    rfl
  · rw [if_neg e]
    have : (E ++ [0]).getD k 0 = E.getD k 0 := by
      simp only [List.getD_eq_getElem?_getD]
      rcases Nat.lt_or_ge k E.length with g | g
      · rw [List.getElem?_append_left g]
      · rw [List.getElem?_append_right g, List.getElem?_eq_none_iff.mpr g]
        have : k - E.length ≥ 1 := by omega
        rw [List.getElem?_eq_none_iff.mpr (by simpa using this)]
    rw [this]
theorem x_inb {i n : Nat} (h : (Nat.blt i n && Nat.blt n 2147483648) = true) : mz_inb (Int32.ofNat i) n = true ∧ (Int32.ofNat i).toNatClampNeg = i := by
  simp only [Bool.and_eq_true, Nat.blt_eq] at h
  exact ⟨mz_inbN h.1 (by omega), nI_clamp (n := i) (by omega)⟩
theorem x_add (x y : Nat) : Int32.ofNat x + Int32.ofNat y = Int32.ofNat ((x + y) % 4294967296) := by
  rw [x_of_mod]
  exact nI_add x y
theorem x_mul (x y : Nat) : Int32.ofNat x * Int32.ofNat y = Int32.ofNat ((x * y) % 4294967296) := by
  rw [x_of_mod]
  exact nI_mul x y
theorem x_negl (y : Nat) : - Int32.ofNat y = Int32.ofNat (4294967296 - y % 4294967296) := by
  rw [← Int32.toInt_inj, Int32.toInt_neg, x_toInt, x_toInt, Int.bmod_def]
  omega
theorem x_sub (x y : Nat) : Int32.ofNat x - Int32.ofNat y = Int32.ofNat ((x + (4294967296 - y % 4294967296)) % 4294967296) := by
  rw [Int32.sub_eq_add_neg, x_negl, x_add]
theorem x_and (x y : Nat) : Int32.ofNat x &&& Int32.ofNat y = Int32.ofNat (x &&& y) := by
  rw [← Int32.toBitVec_inj]
  simp [BitVec.ofNat_and]
theorem x_or (x y : Nat) : Int32.ofNat x ||| Int32.ofNat y = Int32.ofNat (x ||| y) := by
  rw [← Int32.toBitVec_inj]
  simp [BitVec.ofNat_or]
theorem x_shl : ∀ y, y < 32 → ∀ x, x < 2 → Int32.ofNat x <<< (Int32.ofNat y &&& 31) = Int32.ofNat (x <<< y) := by decide +kernel
theorem x_shr {x y : Nat} (hy : y < 32) (hx : x < 2147483648) : Int32.ofNat x >>> (Int32.ofNat y &&& 31) = Int32.ofNat (x >>> y) := by
  have h31 : ∀ y, y < 32 → Int32.ofNat y &&& 31 = Int32.ofNat y ∧ (Int32.ofNat y).toBitVec.smod 32 = BitVec.ofNat 32 y := by decide +kernel
  obtain ⟨e1, e2⟩ := h31 y hy
  rw [e1, ← Int32.toBitVec_inj, Int32.toBitVec_shiftRight]
  rw [e2]
  have e3 : (Int32.ofNat x).toBitVec = BitVec.ofNat 32 x := rfl
  have e4 : (Int32.ofNat (x >>> y)).toBitVec = BitVec.ofNat 32 (x >>> y) := rfl
  rw [e3, e4]
  have e5 : (BitVec.ofNat 32 x).msb = false := by
    rw [BitVec.msb_eq_false_iff_two_mul_lt]
    rw [BitVec.toNat_ofNat]
    omega
  apply BitVec.eq_of_toNat_eq
  rw [BitVec.sshiftRight_eq', BitVec.sshiftRight_eq_of_msb_false e5, BitVec.toNat_ushiftRight, BitVec.toNat_ofNat, BitVec.toNat_ofNat, BitVec.toNat_ofNat]
  have : x >>> y ≤ x := Nat.shiftRight_le x y
  rw [Nat.mod_eq_of_lt (show x < 2 ^ 32 by omega), Nat.mod_eq_of_lt (show y < 2 ^ 32 by omega), Nat.mod_eq_of_lt (show x >>> y < 2 ^ 32 by omega)]
