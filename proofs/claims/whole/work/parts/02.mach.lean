/-! THE SMALL MACHINE: cells are numbered by the order in which they were made; references are these numbers (from mz_B on: old cells); a shape says what a cell is, the contents (ints alone) stand in a function of cell and place. -/
abbrev mz_K : Type := (FieldType × Nat) ⊕ (Nat × List (Option (Option Nat)))
abbrev mz_M : Type := Nat → Nat → Int32
abbrev mz_L : Type := List (Option Value)
abbrev mz_S : Type := Nat × mz_L × List Value × List mz_K × mz_M
abbrev mz_X : Type := Nat × (Nat → Int32)
def mz_at : List mz_E → Nat → Option (Instr × Nat × Nat × Nat × Value)
  | [], _ => none
  | e :: t, pc => bif Nat.beq e.1 pc then some e.2 else mz_at t pc
def mz_up (m : mz_M) (k i : Nat) (v : Int32) : mz_M := fun q => if q = k then upd (m k) i v else m q
def mz_z (m : mz_M) (k : Nat) : mz_M := fun q => if q = k then (fun _ => 0) else m q
def mz_cp (m : mz_M) (a b : Nat) (sp dp n : Nat) : mz_M := fun q => if q = b then va_cpy (m a) (m b) sp dp n else m q
def mz_inb (i : Int32) (n : Nat) : Bool := decide (0 ≤ i) && decide (i.toNatClampNeg < n)
def mz_oal (j : Nat) : List (Nat × FieldType × List Int32) → Option (FieldType × Nat × (Nat → Int32))
  | [] => none
  | e :: t => bif Nat.beq e.1 j then some (e.2.1, e.2.2.length, fun i => e.2.2.getD i 0) else mz_oal j t
/-- an old array: the script is number 50 -/
def mz_oa (X : mz_X) (j : Nat) : Option (FieldType × Nat × (Nat → Int32)) := bif Nat.beq j 50 then some (.int, X.1, X.2) else mz_oal j mz_arrs
def mz_sok (L : mz_L) : Nat → Bool
  | 0 => true
  | j + 1 => match L[j]? with
    | some (some (.long _)) => false
    | some (some (.double _)) => false
    | _ => true
def mz_put (L : mz_L) (i : Nat) (v : Value) : Option mz_L := bif Nat.blt i L.length && mz_sok L i then some (L.set i (some v)) else none
def mz_put2 (L : mz_L) (i : Nat) (v : Value) : Option mz_L := bif Nat.blt (i + 1) L.length && mz_sok L i then some ((L.set i (some v)).set (i + 1) none) else none
def mz_wv (n : Nat) : Value → Bool
  | .ref k => Nat.blt k n || Nat.ble mz_B k
  | _ => true
def mz_wL (n : Nat) : mz_L → Bool
  | [] => true
  | none :: t => mz_wL n t
  | some v :: t => mz_wv n v && mz_wL n t
def mz_wS (n : Nat) : List Value → Bool
  | [] => true
  | v :: t => mz_wv n v && mz_wS n t
def mz_tsw (pc : Nat) (d lo hi : Int) (offs : Array Int) (x : Int32) : Nat :=
  if x.toInt < lo then ((pc : Int) + d).toNat else if hi < x.toInt then ((pc : Int) + d).toNat else match offs[(x.toInt - lo).toNat]? with
    | some o => ((pc : Int) + o).toNat
    | none => 0
/-- one instruction that is no call and no return: whether it is well done, and what is then -/
def mz_ex (X : mz_X) (ins : Instr) (r1 r2 : Nat) (val : Value) (pc : Nat) (L : mz_L) (S : List Value) (sh : List mz_K) (m : mz_M) : Option (Bool × mz_S) :=
  match ins with
  | .aload_n _ => match L[r1]? with | some (some (.ref k)) => some (true, pc + 1, L, .ref k :: S, sh, m) | _ => none
  | .aload _ => match L[r1]? with | some (some (.ref k)) => some (true, pc + 2, L, .ref k :: S, sh, m) | _ => none
  | .iload_n _ => match L[r1]? with | some (some (.int x)) => some (true, pc + 1, L, .int x :: S, sh, m) | _ => none
  | .iload _ => match L[r1]? with | some (some (.int x)) => some (true, pc + 2, L, .int x :: S, sh, m) | _ => none
  | .lload_n _ => match L[r1]? with | some (some (.long x)) => some (true, pc + 1, L, .long x :: S, sh, m) | _ => none
  | .istore_n _ => match S with | .int x :: S => (match mz_put L r1 (.int x) with | some L' => some (true, pc + 1, L', S, sh, m) | none => none) | _ => none
  | .istore _ => match S with | .int x :: S => (match mz_put L r1 (.int x) with | some L' => some (true, pc + 2, L', S, sh, m) | none => none) | _ => none
  | .astore_n _ => match S with | .ref x :: S => (match mz_put L r1 (.ref x) with | some L' => some (true, pc + 1, L', S, sh, m) | none => none) | _ => none
  | .lstore_n _ => match S with | .long x :: S => (match mz_put2 L r1 (.long x) with | some L' => some (true, pc + 1, L', S, sh, m) | none => none) | _ => none
  | .iinc _ _ => match L[r1]?, val with | some (some (.int x)), .int d => (match mz_put L r1 (.int (x + d)) with | some L' => some (true, pc + 3, L', S, sh, m) | none => none) | _, _ => none
  | .iconst _ => match val with | .int v => some (true, pc + 1, L, .int v :: S, sh, m) | _ => none
  | .bipush _ => match val with | .int v => some (true, pc + 2, L, .int v :: S, sh, m) | _ => none
  | .sipush _ => match val with | .int v => some (true, pc + 3, L, .int v :: S, sh, m) | _ => none
  | .lconst _ => match val with | .long v => some (true, pc + 1, L, .long v :: S, sh, m) | _ => none
  | .ldc _ => match val with | .int v => some (true, pc + 2, L, .int v :: S, sh, m) | .ref k => some (true, pc + 2, L, .ref k :: S, sh, m) | _ => none
  | .ldc_w _ => match val with | .int v => some (true, pc + 3, L, .int v :: S, sh, m) | _ => none
  | .ldc2_w _ => match val with | .long v => some (true, pc + 3, L, .long v :: S, sh, m) | _ => none
  | .getstatic _ => some (true, pc + 3, L, val :: S, sh, m)
  | .iadd => match S with | .int y :: .int x :: S => some (true, pc + 1, L, .int (x + y) :: S, sh, m) | _ => none
  | .isub => match S with | .int y :: .int x :: S => some (true, pc + 1, L, .int (x - y) :: S, sh, m) | _ => none
  | .imul => match S with | .int y :: .int x :: S => some (true, pc + 1, L, .int (x * y) :: S, sh, m) | _ => none
  | .idiv => match S with | .int y :: .int x :: S => some (!decide (y = 0), pc + 1, L, .int (x / y) :: S, sh, m) | _ => none
  | .irem => match S with | .int y :: .int x :: S => some (!decide (y = 0), pc + 1, L, .int (x - x / y * y) :: S, sh, m) | _ => none
  | .ineg => match S with | .int x :: S => some (true, pc + 1, L, .int (-x) :: S, sh, m) | _ => none
  | .iand => match S with | .int y :: .int x :: S => some (true, pc + 1, L, .int (x &&& y) :: S, sh, m) | _ => none
  | .ior => match S with | .int y :: .int x :: S => some (true, pc + 1, L, .int (x ||| y) :: S, sh, m) | _ => none
  | .ishl => match S with | .int y :: .int x :: S => some (true, pc + 1, L, .int (x <<< (y &&& 31)) :: S, sh, m) | _ => none
  | .ishr => match S with | .int y :: .int x :: S => some (true, pc + 1, L, .int (x >>> (y &&& 31)) :: S, sh, m) | _ => none
  | .i2b => match S with | .int x :: S => some (true, pc + 1, L, .int x.toInt8.toInt32 :: S, sh, m) | _ => none
  | .i2c => match S with | .int x :: S => some (true, pc + 1, L, .int (x.toUInt32 % 65536).toInt32 :: S, sh, m) | _ => none
  | .i2l => match S with | .int x :: S => some (true, pc + 1, L, .long x.toInt64 :: S, sh, m) | _ => none
  | .l2i => match S with | .long x :: S => some (true, pc + 1, L, .int x.toInt32 :: S, sh, m) | _ => none
  | .land => match S with | .long y :: .long x :: S => some (true, pc + 1, L, .long (x &&& y) :: S, sh, m) | _ => none
  | .lor => match S with | .long y :: .long x :: S => some (true, pc + 1, L, .long (x ||| y) :: S, sh, m) | _ => none
  | .lshl => match S with | .int y :: .long x :: S => some (true, pc + 1, L, .long (x <<< (y.toInt64 &&& 63)) :: S, sh, m) | _ => none
  | .lushr => match S with | .int y :: .long x :: S => some (true, pc + 1, L, .long (x.toUInt64 >>> (y.toInt64.toUInt64 &&& Int64.toUInt64 63)).toInt64 :: S, sh, m) | _ => none
  | .lcmp => match S with | .long y :: .long x :: S => some (true, pc + 1, L, .int (lg_cmp x y) :: S, sh, m) | _ => none
  | .dup => match S with | .int x :: S => some (true, pc + 1, L, .int x :: .int x :: S, sh, m) | .ref x :: S => some (true, pc + 1, L, .ref x :: .ref x :: S, sh, m) | _ => none
  | .dup2 => match S with | .int x :: .ref y :: S => some (true, pc + 1, L, .int x :: .ref y :: .int x :: .ref y :: S, sh, m) | _ => none
  | .pop => match S with | .int _ :: S => some (true, pc + 1, L, S, sh, m) | .ref _ :: S => some (true, pc + 1, L, S, sh, m) | _ => none
  | .goto _ => some (true, r1, L, S, sh, m)
  | .ifCond c _ => match S with
    | .int x :: S => (match c with
      | .eq => some (true, (if x = 0 then r1 else pc + 3), L, S, sh, m)
      | .ne => some (true, (if x = 0 then pc + 3 else r1), L, S, sh, m)
      | .lt => some (true, (if x < 0 then r1 else pc + 3), L, S, sh, m)
      | .ge => some (true, (if 0 ≤ x then r1 else pc + 3), L, S, sh, m)
      | .gt => some (true, (if 0 < x then r1 else pc + 3), L, S, sh, m)
      | .le => some (true, (if x ≤ 0 then r1 else pc + 3), L, S, sh, m))
    | _ => none
  | .if_icmp c _ => match S with
    | .int y :: .int x :: S => (match c with
      | .eq => some (true, (if x = y then r1 else pc + 3), L, S, sh, m)
      | .ne => some (true, (if x = y then pc + 3 else r1), L, S, sh, m)
      | .lt => some (true, (if x < y then r1 else pc + 3), L, S, sh, m)
      | .ge => some (true, (if y ≤ x then r1 else pc + 3), L, S, sh, m)
      | .gt => some (true, (if y < x then r1 else pc + 3), L, S, sh, m)
      | .le => some (true, (if x ≤ y then r1 else pc + 3), L, S, sh, m))
    | _ => none
  | .tableswitch d lo hi offs => match S with | .int x :: S => some (true, mz_tsw pc d lo hi offs x, L, S, sh, m) | _ => none
  | .lookupswitch d ps => match S with | .int x :: S => some (true, ((pc : Int) + Op.lookupswitch.offset ps.toList d x.toInt).toNat, L, S, sh, m) | _ => none
  | .getfield _ => match S with
    | .ref a :: S => bif Nat.beq r1 100 then (match mz_txs[a - (mz_B + 10)]? with
        | some _ => bif Nat.ble (mz_B + 10) a then (bif Nat.beq r2 0 then some (true, pc + 3, L, .ref (a + 20) :: S, sh, m) else some (true, pc + 3, L, .int 0 :: S, sh, m)) else none
        | none => none)
      else (match sh[a]? with
        | some (.inr (ci, fs)) => bif Nat.beq ci r1 && Nat.blt a mz_B then (match fs[r2]? with
          | some none => some (true, pc + 3, L, .int (m a r2) :: S, sh, m)
          | some (some (some j)) => some (true, pc + 3, L, .ref j :: S, sh, m)
          | _ => none) else none
        | _ => none)
    | _ => none
  | .putfield _ => match S with
    | .int x :: .ref a :: S => (match sh[a]? with
        | some (.inr (ci, fs)) => bif Nat.beq ci r1 && Nat.blt a mz_B then (match fs[r2]?, val with
          | some none, .null => some (true, pc + 3, L, S, sh, mz_up m a r2 x)
          | some none, .int _ => some (decide (x = 0) || decide (x = 1), pc + 3, L, S, sh, mz_up m a r2 x)
          | _, _ => none) else none
        | _ => none)
    | .ref j :: .ref a :: S => (match sh[a]? with
        | some (.inr (ci, fs)) => bif Nat.beq ci r1 && (Nat.blt a mz_B && (Nat.blt j sh.length && Nat.blt j mz_B)) then (match fs[r2]?, val with
          | some (some _), .ref _ => some (true, pc + 3, L, S, sh.set a (.inr (ci, fs.set r2 (some (some j)))), m)
          | _, _ => none) else none
        | _ => none)
    | _ => none
  | .iaload => match S with
    | .int i :: .ref a :: S => bif Nat.blt a mz_B then (match sh[a]? with
        | some (.inl (.int, n)) => some (mz_inb i n, pc + 1, L, .int (m a i.toNatClampNeg) :: S, sh, m)
        | _ => none)
      else (match mz_oa X (a - mz_B) with
        | some (.int, n, f) => some (mz_inb i n, pc + 1, L, .int (f i.toNatClampNeg) :: S, sh, m)
        | _ => none)
    | _ => none
  | .baload => match S with
    | .int i :: .ref a :: S => bif Nat.blt a mz_B then (match sh[a]? with
        | some (.inl (.boolean, n)) => some (mz_inb i n, pc + 1, L, .int (m a i.toNatClampNeg) :: S, sh, m)
        | _ => none)
      else (match mz_oa X (a - mz_B) with
        | some (.byte, n, f) => some (mz_inb i n, pc + 1, L, .int (f i.toNatClampNeg) :: S, sh, m)
        | _ => none)
    | _ => none
  | .iastore => match S with
    | .int x :: .int i :: .ref a :: S => bif Nat.blt a mz_B then (match sh[a]? with
        | some (.inl (.int, n)) => some (mz_inb i n, pc + 1, L, S, sh, mz_up m a i.toNatClampNeg x)
        | _ => none) else none
    | _ => none
  | .bastore => match S with
    | .int x :: .int i :: .ref a :: S => bif Nat.blt a mz_B then (match sh[a]? with
        | some (.inl (.boolean, n)) => some (mz_inb i n, pc + 1, L, S, sh, mz_up m a i.toNatClampNeg (vp_nar .boolean x))
        | _ => none) else none
    | _ => none
  | .arraylength => match S with
    | .ref a :: S => bif Nat.blt a mz_B then (match sh[a]? with
        | some (.inl (.int, n)) => some (true, pc + 1, L, .int (Int32.ofNat n) :: S, sh, m)
        | _ => none)
      else (match mz_oa X (a - mz_B) with
        | some (_, n, _) => some (true, pc + 1, L, .int (Int32.ofNat n) :: S, sh, m)
        | _ => none)
    | _ => none
  | .newarray aty => match S with
    | .int n :: S => bif Nat.blt sh.length mz_B && (mz_wL sh.length L && mz_wS sh.length S) then (match aty with
        | .int => some (decide (0 ≤ n) && decide (n.toNatClampNeg ≤ 100000), pc + 2, L, .ref sh.length :: S, sh ++ [.inl (.int, n.toNatClampNeg)], mz_z m sh.length)
        | .boolean => some (decide (0 ≤ n) && decide (n.toNatClampNeg ≤ 100000), pc + 2, L, .ref sh.length :: S, sh ++ [.inl (.boolean, n.toNatClampNeg)], mz_z m sh.length)
        | _ => none) else none
    | _ => none
  | .new _ => bif Nat.blt sh.length mz_B && (mz_wL sh.length L && mz_wS sh.length S) then some (true, pc + 3, L, .ref sh.length :: S, sh ++ [.inr (r1, mz_n0 r1)], mz_z m sh.length) else none
  | .invokespecial _ => match S with | .ref a :: S => bif Nat.beq r1 9999 && (Nat.blt a mz_B && Nat.ble ((S.map fun v => v.category).sum) 8) then some (true, pc + 3, L, S, sh, m) else none | _ => none
  | .invokestatic _ => bif Nat.beq r1 9997 then (match S with
      | .int y :: .int x :: S => bif Nat.ble ((S.map fun v => v.category).sum) 8 then some (true, pc + 3, L, .int (if x < y then y else x) :: S, sh, m) else none
      | _ => none)
    else bif Nat.beq r1 9996 then (match S with
      | .int y :: .int x :: S => bif Nat.ble ((S.map fun v => v.category).sum) 8 then some (true, pc + 3, L, .int (if y < x then y else x) :: S, sh, m) else none
      | _ => none)
    else (match S with
      | .int n :: .int dp :: .ref b :: .int sp :: .ref a :: S => bif Nat.beq r1 9998 && (Nat.blt a mz_B && (Nat.blt b mz_B && Nat.ble ((S.map fun v => v.category).sum) 8)) then (match sh[a]?, sh[b]? with
          | some (.inl (.int, n0)), some (.inl (.int, n1)) => some (decide (0 ≤ sp) && (decide (0 ≤ dp) && (decide (0 ≤ n) && (decide (sp.toNatClampNeg + n.toNatClampNeg ≤ n0) && decide (dp.toNatClampNeg + n.toNatClampNeg ≤ n1)))), pc + 3, L, S, sh, mz_cp m a b sp.toNatClampNeg dp.toNatClampNeg n.toNatClampNeg)
          | _, _ => none) else none
      | _ => none)
  | _ => none
/-- the class of a receiver -/
def mz_rc (sh : List mz_K) (val : Value) (a : Nat) : Bool := match val with
  | .ref c => (match sh[a]? with | some (.inr (ci, _)) => Nat.beq ci c && Nat.blt a mz_B | _ => false)
  | .null => Nat.ble (mz_B + 10) a && Nat.blt (a - (mz_B + 10)) 8
  | _ => false
/-- a method's locals at its entry -/
def mz_en : List Value → mz_L
  | [] => []
  | .long x :: t => some (.long x) :: none :: mz_en t
  | .double x :: t => some (.double x) :: none :: mz_en t
  | v :: t => some v :: mz_en t
def mz_L0 (n : Nat) (vs : List Value) : mz_L := mz_en vs ++ List.replicate (n - (mz_en vs).length) none
/-- whether a call is well made: what stands below is small, the references are known, the receiver is there -/
def mz_cok (ins : Instr) (r2 : Nat) (val : Value) (L : mz_L) (S : List Value) (sh : List mz_K) : Bool :=
  Nat.ble r2 S.length && (Nat.ble (((S.drop r2).map fun v => v.category).sum) 8 && (mz_wL sh.length L && (mz_wS sh.length S && (match ins with
    | .invokevirtual _ => (match (S.take r2).reverse with | .ref a :: _ => mz_rc sh val a | _ => false)
    | .invokespecial _ => (match (S.take r2).reverse with | .ref a :: _ => Nat.blt a mz_B | _ => false)
    | .invokestatic _ => true
    | _ => false))))
def mz_isc : Instr → Nat → Bool
  | .invokevirtual _, r => Nat.blt 0 r && Nat.blt r 9000
  | .invokespecial _, r => Nat.blt 0 r && Nat.blt r 9000
  | .invokestatic _, r => Nat.blt 0 r && Nat.blt r 9000
  | _, _ => false
/-- what a return gives: none it is no return, some none it is a wrong one -/
def mz_rt (ret : Option FieldType) (ins : Instr) (S : List Value) : Option (Option (Option Value)) := match ins with
  | .ireturn => (match ret, S with
    | some .int, [.int v] => some (some (some (.int v)))
    | some .boolean, [.int v] => bif decide (v = 0) || decide (v = 1) then some (some (some (.int v))) else some none
    | some .char, [.int v] => bif decide (narrow .char (.int v) = .int v) then some (some (some (.int v))) else some none
    | some .byte, [.int v] => bif decide (narrow .byte (.int v) = .int v) then some (some (some (.int v))) else some none
    | _, _ => some none)
  | .return_ => (match ret, S with | none, [] => some (some none) | _, _ => some none)
  | .areturn => (match ret, S with | some (.object _), [.ref k] => some (some (some (.ref k))) | _, _ => some none)
  | _ => none
def mz_run (X : mz_X) : Nat → Nat → Nat → mz_L → List Value → List mz_K → mz_M → Option (Option Value × List mz_K × mz_M)
  | 0, _, _, _, _, _, _ => none
  | n + 1, i, pc, L, S, sh, m => match mz_md[i]? with
    | none => none
    | some M => match mz_at M.2.2.2.2.2.2 pc with
      | none => none
      | some (ins, _, r1, r2, val) => match mz_rt M.2.2.2.1 ins S with
        | some (some v) => some (v, sh, m)
        | some none => none
        | none => bif mz_isc ins r1 then (bif mz_cok ins r2 val L S sh then (match mz_md[r1]? with
              | none => none
              | some N => bif Nat.ble (mz_en (S.take r2).reverse).length N.2.2.1 then (match mz_run X n r1 0 (mz_L0 N.2.2.1 (S.take r2).reverse) [] sh m with
                | none => none
                | some (v, sh', m') => mz_run X n i (pc + 3) L (v.toList ++ S.drop r2) sh' m') else none) else none)
          else (match mz_ex X ins r1 r2 val pc L S sh m with
            | some (true, pc', L', S', sh', m') => mz_run X n i pc' L' S' sh' m'
            | _ => none)
