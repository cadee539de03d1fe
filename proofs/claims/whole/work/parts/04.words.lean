/-! ONE INSTRUCTION OF THE SMALL MACHINE IS ONE OF THE MACHINE -/
def mz_fw (own : String) (idx r1 r2 : Nat) : List Cond := bif Nat.beq r1 100 then (bif Nat.beq r2 0 then [.fieldLink own idx "java/lang/String" "value" "[B"] else [.fieldLink own idx "java/lang/String" "coder" "B"]) else match vwCl[r1]? with
  | some q => [.fieldLink own idx (q.2.1 r2).1 (q.2.1 r2).2.1 (q.2.1 r2).2.2.1]
  | none => []
/-- the tables' words that an instruction needs -/
def mz_wd (own : String) (ins : Instr) (r1 r2 : Nat) (val : Value) : List Cond := match ins with
  | .getfield idx => mz_fw own idx r1 r2
  | .putfield idx => mz_fw own idx r1 r2
  | .getstatic idx => (match mz_sts[r1]? with | some q => [.fieldLink own idx q.1 q.2.1 q.2.2.1] | none => [])
  | .ldc idx => (match val with | .int v => [.constant own idx v] | _ => [])
  | .ldc_w idx => (match val with | .int v => [.constant own idx v] | _ => [])
  | .ldc2_w idx => (match val with | .long v => [.constantLong own idx v] | _ => [])
  | .new idx => (match vwCl[r1]? with | some q => [.classLink own idx q.1, .instantiable q.1 q.2.2, .initialized q.1] | none => [])
  | .newarray ty => [.arrayClass (newarray.typeOf ty)]
  | .invokespecial idx => bif Nat.beq r1 9999 then [.methodLink own idx objectInit, .instanceMethod objectInit] else (match mz_md[r1]? with
    | some N => (match val with | .int _ => [.instanceMethod N.1, .initialized N.1.cls] | _ => [.methodLink own idx N.1, .instanceMethod N.1, .initialized N.1.cls])
    | none => [])
  | .invokevirtual idx => (match mz_md[r1]? with | some N => [.methodLink own idx N.1, .instanceMethod N.1, .selects N.1.cls N.1 N.1, .initialized N.1.cls] | none => [])
  | .invokestatic idx => bif Nat.beq r1 9997 then [.methodLink own idx Lib.Math.max.name, .static Lib.Math.max.name, .initialized "java/lang/Math"] else bif Nat.beq r1 9996 then [.methodLink own idx Lib.Math.min.name, .static Lib.Math.min.name, .initialized "java/lang/Math"] else bif Nat.beq r1 9998 then [.methodLink own idx arraycopyName, .native arraycopyName, .static arraycopyName, .initialized "java/lang/System"] else (match mz_md[r1]? with | some N => [.methodLink own idx N.1, .static N.1, .initialized N.1.cls] | none => [])
  | _ => []
def mz_tyc (ci k : Nat) : FieldType := match ci with
  | 0 => tyX0 k
  | 1 => tyX1 k
  | 2 => tyX2 k
  | 3 => tyX3 k
  | 4 => tyX4 k
  | 5 => tyX5 k
  | 6 => tyX6 k
  | 7 => tyX7 k
  | 8 => tyX8 k
  | 9 => tyX9 k
  | _ => tyX10 k
def mz_kd : FieldType → Value → Bool
  | .int, .null => true
  | .boolean, .int _ => true
  | .object _, .ref _ => true
  | .array _, .ref _ => true
  | _, _ => false
def mz_d0 : FieldType → Option (Option Nat) → Bool
  | .int, none => true
  | .boolean, none => true
  | .object _, some none => true
  | .array _, some none => true
  | _, _ => false
def mz_cal (M N : mz_D) (n : Nat) : Bool := decide ((parseMethodDescriptor N.1.desc).map (fun d => d.parameters.length) = some n) && (Nat.ble (N.2.2.2.2.1 + 1) M.2.2.2.2.1 && (Nat.ble (8 + (N.2.2.1 + 11) + N.2.2.2.2.2.1) M.2.2.2.2.2.1 && (decide (N.1.cls ≠ "java/lang/invoke/MethodHandle") && decide (N.1.cls ≠ "java/lang/invoke/VarHandle"))))
/-- what else is to be looked at, by program -/
def mz_ck (M : mz_D) (pc : Nat) (ins : Instr) (r1 r2 : Nat) (val : Value) : Bool := match ins with
  | .aload_n k => Nat.beq k.val r1
  | .iload_n k => Nat.beq k.val r1
  | .lload_n k => Nat.beq k.val r1
  | .istore_n k => Nat.beq k.val r1 && Nat.blt r1 M.2.2.1
  | .astore_n k => Nat.beq k.val r1 && Nat.blt r1 M.2.2.1
  | .lstore_n k => Nat.beq k.val r1 && Nat.blt (r1 + 1) M.2.2.1
  | .aload k => Nat.beq k r1
  | .iload k => Nat.beq k r1
  | .istore k => Nat.beq k r1 && Nat.blt r1 M.2.2.1
  | .iinc k n => Nat.beq k r1 && (Nat.blt r1 M.2.2.1 && decide (val = .int (Int32.ofInt n)))
  | .iconst n => decide (val = .int (Int32.ofInt n))
  | .bipush n => decide (val = .int (Int8.ofInt n).toInt32)
  | .sipush n => decide (val = .int (Int16.ofInt n).toInt32)
  | .lconst n => decide (val = .long (Int64.ofNat n.val))
  | .goto off => decide ((pc : Int) + off = (r1 : Int))
  | .ifCond _ off => decide ((pc : Int) + off = (r1 : Int))
  | .if_icmp _ off => decide ((pc : Int) + off = (r1 : Int))
  | .tableswitch d lo hi offs => decide (0 ≤ (pc : Int) + d) && (offs.toList.all (fun o => decide (0 ≤ (pc : Int) + o)) && decide ((offs.size : Int) = hi - lo + 1))
  | .lookupswitch d ps => (ps.toList.zip (ps.toList.drop 1)).all (fun (a, next) => a.1 < next.1) && (decide (0 ≤ (pc : Int) + d) && ps.toList.all (fun q => decide (0 ≤ (pc : Int) + q.2)))
  | .getstatic _ => (match mz_sts[r1]? with | some q => decide (q.2.2.2 = val) && (match val with | .int _ => true | .ref k => Nat.ble mz_B k | _ => false) | none => false)
  | .ldc idx => (match val with | .int _ => true | .ref k => (match mz_txs[r1]? with | some q => decide (q.1 = M.1.cls) && (Nat.beq q.2.1 idx && Nat.beq k (mz_B + 10 + r1)) | none => false) | _ => false)
  | .getfield _ => Nat.beq r1 100 || (match vwCl[r1]? with | some q => Nat.blt r2 q.2.2 | none => false)
  | .putfield _ => (match vwCl[r1]? with | some q => Nat.blt r2 q.2.2 && ((!(q.2.1 r2).2.2.2 || (decide (M.1.name = "<init>") && decide ((q.2.1 r2).1 = M.1.cls))) && mz_kd (mz_tyc r1 r2) val) | none => false)
  | .new _ => (match vwCl[r1]? with | some q => Nat.beq (mz_n0 r1).length q.2.2 && (List.range q.2.2).all (fun j => match (mz_n0 r1)[j]? with | some x => mz_d0 (mz_tyc r1 j) x | none => false) | none => false)
  | .invokespecial idx => bif Nat.beq r1 9999 then Nat.ble 1 M.2.2.2.2.1 && Nat.ble 20 M.2.2.2.2.2.1 else (match mz_md[r1]? with | some N => mz_cal M N (r2 - 1) && (Nat.ble 1 r2 && (decide (N.1.name = "<init>") && (decide (N.2.2.2.1 = none) && (match val with | .int _ => decide ((M.1.cls, idx, N.1) ∈ mz_nst) | _ => true)))) | none => false)
  | .invokevirtual _ => (match mz_md[r1]? with | some N => mz_cal M N (r2 - 1) && (Nat.ble 1 r2 && (match val with | .ref ci => (match vwCl[ci]? with | some q => decide (q.1 = N.1.cls) | none => false) | .null => decide (N.1.cls = "java/lang/String") | _ => false)) | none => false)
  | .invokestatic _ => bif Nat.beq r1 9997 || Nat.beq r1 9996 then Nat.ble 1 M.2.2.2.2.1 && Nat.ble 21 M.2.2.2.2.2.1 else bif Nat.beq r1 9998 then Nat.ble 1 M.2.2.2.2.1 && Nat.ble (8 + (nativeFrameWords "java/lang/System" "arraycopy" 5 + 11)) M.2.2.2.2.2.1 else (match mz_md[r1]? with | some N => mz_cal M N r2 | none => false)
  | _ => true
/-- the tables' words that hold in every method -/
def mz_lw : List Cond := lw_tbl.filter goodWord
def mz_k1 : mz_K → Nat
  | .inl (_, n) => n
  | .inr (_, fs) => fs.length
def mz_sl (sh : List mz_K) : Nat := (sh.map mz_k1).sum
theorem mz_sl_push (sh : List mz_K) (c : mz_K) : mz_sl (sh ++ [c]) = mz_sl sh + mz_k1 c := by simp [mz_sl]
def mz_tys (cy : FieldType → ClassId) : List (ClassId × FieldType) := [(cy .int, .int), (cy .boolean, .boolean)]
def mz_Cx (X : mz_X) (M : mz_D) (p : Program) (R : Room) (s : State) (m : MethodId) (args : Array Value) (meth : Method) (c : Code) (D : va_G) (cy : FieldType → ClassId) (A : Nat → Prop) (ov : Nat → Value) : Prop :=
  p.tables.exec = Jvm.exec ∧ c.code = M.2.1 ∧ c.maxLocals = M.2.2.1 ∧ s.vm.findClass M.1.cls = some m.cls ∧ (∀ w ∈ mz_lw, w.before args s = true) ∧ (M.1.name = "<init>" → meth.name = "<init>") ∧ va_K D vwCl (mz_tys cy) s ∧ mz_Old X ov A s s.heap ∧ (∀ q, s.heap.size ≤ q → A q) ∧ M.2.2.2.2.1 ≤ R.frames ∧ M.2.2.2.2.2.1 ≤ R.locals
def mz_Rl (D : va_G) (cy : FieldType → ClassId) (A : Nat → Prop) (s : State) (H : Heap) (locs : List Loc) (ad : Nat → Nat) (sh : List mz_K) (mm : mz_M) : Prop :=
  va_P D vwCl (mz_W cy ad mm 0 sh) H ∧ va_D A (mz_W cy ad mm 0 sh) ∧ va_S A s.heap H locs ∧ mz_wf sh ∧ sh.length ≤ mz_B
theorem mz_v_ref (ad : Nat → Nat) {ov : Nat → Value} (ho : ∀ j, ov j = .null ∨ ∃ t, ov j = .ref t) (k : Nat) : mz_v ad ov (.ref k) = .null ∨ ∃ a, mz_v ad ov (.ref k) = .ref a := by
  simp only [mz_v]
  cases Nat.blt k mz_B with
  | true => exact Or.inr ⟨_, rfl⟩
  | false => exact ho (k - mz_B)
theorem mz_v_lo {ad : Nat → Nat} {ov : Nat → Value} {k : Nat} (h : Nat.blt k mz_B = true) : mz_v ad ov (.ref k) = .ref (ad k) := by simp [mz_v, h]
theorem mz_v_hi {ad : Nat → Nat} {ov : Nat → Value} {k : Nat} (h : Nat.blt k mz_B = false) : mz_v ad ov (.ref k) = ov (k - mz_B) := by simp [mz_v, h]
theorem mz_cls (ci : Nat) (q : vw_C) (h : vwCl[ci]? = some q) : (∀ k, k < q.2.2 → parseFieldDescriptor (q.2.1 k).2.2.1 = some (mz_tyc ci k)) ∧ (∀ a, a < q.2.2 → ∀ b, b < q.2.2 → a ≠ b → (q.2.1 a).2.1 ≠ (q.2.1 b).2.1) := by
  match ci, h with
  | 0, h => cases h; exact ⟨tyX0_ok, nmX0⟩
  | 1, h => cases h; exact ⟨tyX1_ok, nmX1⟩
  | 2, h => cases h; exact ⟨tyX2_ok, nmX2⟩
  | 3, h => cases h; exact ⟨tyX3_ok, nmX3⟩
  | 4, h => cases h; exact ⟨tyX4_ok, nmX4⟩
  | 5, h => cases h; exact ⟨tyX5_ok, nmX5⟩
  | 6, h => cases h; exact ⟨tyX6_ok, nmX6⟩
  | 7, h => cases h; exact ⟨tyX7_ok, nmX7⟩
  | 8, h => cases h; exact ⟨tyX8_ok, nmX8⟩
  | 9, h => cases h; exact ⟨tyX9_ok, nmX9⟩
  | 10, h => cases h; exact ⟨tyX10_ok, nmX10⟩
  | k + 11, h => simp [vwCl] at h
theorem mz_lw_of {w : Cond} (h : w ∈ lw_tbl) (hg : goodWord w = true) : w ∈ mz_lw := List.mem_filter.mpr ⟨h, hg⟩
set_option maxRecDepth 100000 in
theorem mz_wst0 : (vwCl.flatMap (fun q => u_ws q.1 q.2.1 q.2.2)).all (fun w => decide (w ∈ lw_tbl) && goodWord w) = true := by decide +kernel
theorem mz_wst (ci : Nat) (q : vw_C) (h : vwCl[ci]? = some q) : ∀ w ∈ u_ws q.1 q.2.1 q.2.2, w ∈ mz_lw := by
  intro w hw
  have h1 := List.all_eq_true.mp mz_wst0 w (List.mem_flatMap.mpr ⟨q, List.mem_of_getElem? h, hw⟩)
  rw [Bool.and_eq_true, decide_eq_true_eq] at h1
  exact mz_lw_of h1.1 h1.2
set_option maxRecDepth 100000 in
theorem mz_w_obj : Cond.code objectInit ⟨#[0xb1]⟩ 1 none ∈ mz_lw := mz_lw_of (List.mem_of_getElem? (i := 133) rfl) rfl
set_option maxRecDepth 100000 in
theorem mz_w_max : Cond.code Lib.Math.max.name Lib.Math.max.code 2 (some .int) ∈ mz_lw := mz_lw_of (List.mem_of_getElem? (i := 709) (by decide +kernel)) rfl
set_option maxRecDepth 100000 in
theorem mz_w_min : Cond.code Lib.Math.min.name Lib.Math.min.code 2 (some .int) ∈ mz_lw := mz_lw_of (List.mem_of_getElem? (i := 712) (by decide +kernel)) rfl
