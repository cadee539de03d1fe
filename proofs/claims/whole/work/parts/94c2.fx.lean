/-! the fast machine: each kind of instruction by itself -/
def x_e_aload_n (r1 r2 : Nat) (val : Value) (pc : Nat) (L : List (Option x_V)) (S : List x_V) (sh : List mz_K) (E : List Nat) : Option (Nat × List (Option x_V) × List x_V × List mz_K × List Nat) :=
  (match L[r1]? with | some (some (.inr k)) => some (pc + 1, L, .inr k :: S, sh, E) | _ => none)
def x_e_aload (r1 r2 : Nat) (val : Value) (pc : Nat) (L : List (Option x_V)) (S : List x_V) (sh : List mz_K) (E : List Nat) : Option (Nat × List (Option x_V) × List x_V × List mz_K × List Nat) :=
  (match L[r1]? with | some (some (.inr k)) => some (pc + 2, L, .inr k :: S, sh, E) | _ => none)
def x_e_iload_n (r1 r2 : Nat) (val : Value) (pc : Nat) (L : List (Option x_V)) (S : List x_V) (sh : List mz_K) (E : List Nat) : Option (Nat × List (Option x_V) × List x_V × List mz_K × List Nat) :=
  (match L[r1]? with | some (some (.inl k)) => some (pc + 1, L, .inl k :: S, sh, E) | _ => none)
def x_e_iload (r1 r2 : Nat) (val : Value) (pc : Nat) (L : List (Option x_V)) (S : List x_V) (sh : List mz_K) (E : List Nat) : Option (Nat × List (Option x_V) × List x_V × List mz_K × List Nat) :=
  (match L[r1]? with | some (some (.inl k)) => some (pc + 2, L, .inl k :: S, sh, E) | _ => none)
def x_e_istore_n (r1 r2 : Nat) (val : Value) (pc : Nat) (L : List (Option x_V)) (S : List x_V) (sh : List mz_K) (E : List Nat) : Option (Nat × List (Option x_V) × List x_V × List mz_K × List Nat) :=
  (match S with | .inl u :: S => bif Nat.blt r1 L.length then some (pc + 1, L.set r1 (some (.inl u)), S, sh, E) else none | _ => none)
def x_e_istore (r1 r2 : Nat) (val : Value) (pc : Nat) (L : List (Option x_V)) (S : List x_V) (sh : List mz_K) (E : List Nat) : Option (Nat × List (Option x_V) × List x_V × List mz_K × List Nat) :=
  (match S with | .inl u :: S => bif Nat.blt r1 L.length then some (pc + 2, L.set r1 (some (.inl u)), S, sh, E) else none | _ => none)
def x_e_astore_n (r1 r2 : Nat) (val : Value) (pc : Nat) (L : List (Option x_V)) (S : List x_V) (sh : List mz_K) (E : List Nat) : Option (Nat × List (Option x_V) × List x_V × List mz_K × List Nat) :=
  (match S with | .inr u :: S => bif Nat.blt r1 L.length then some (pc + 1, L.set r1 (some (.inr u)), S, sh, E) else none | _ => none)
def x_e_iinc (r1 r2 : Nat) (val : Value) (pc : Nat) (L : List (Option x_V)) (S : List x_V) (sh : List mz_K) (E : List Nat) : Option (Nat × List (Option x_V) × List x_V × List mz_K × List Nat) :=
  (match L[r1]?, val with | some (some (.inl u)), .int d => bif Nat.blt r1 L.length then x_fs ((u + x_nu d) % 4294967296) (fun w => some (pc + 3, L.set r1 (some (.inl w)), S, sh, E)) else none | _, _ => none)
def x_e_iconst (r1 r2 : Nat) (val : Value) (pc : Nat) (L : List (Option x_V)) (S : List x_V) (sh : List mz_K) (E : List Nat) : Option (Nat × List (Option x_V) × List x_V × List mz_K × List Nat) :=
  (match val with | .int v => x_fs (x_nu v) (fun w => some (pc + 1, L, .inl w :: S, sh, E)) | _ => none)
def x_e_bipush (r1 r2 : Nat) (val : Value) (pc : Nat) (L : List (Option x_V)) (S : List x_V) (sh : List mz_K) (E : List Nat) : Option (Nat × List (Option x_V) × List x_V × List mz_K × List Nat) :=
  (match val with | .int v => x_fs (x_nu v) (fun w => some (pc + 2, L, .inl w :: S, sh, E)) | _ => none)
def x_e_sipush (r1 r2 : Nat) (val : Value) (pc : Nat) (L : List (Option x_V)) (S : List x_V) (sh : List mz_K) (E : List Nat) : Option (Nat × List (Option x_V) × List x_V × List mz_K × List Nat) :=
  (match val with | .int v => x_fs (x_nu v) (fun w => some (pc + 3, L, .inl w :: S, sh, E)) | _ => none)
def x_e_ldc (r1 r2 : Nat) (val : Value) (pc : Nat) (L : List (Option x_V)) (S : List x_V) (sh : List mz_K) (E : List Nat) : Option (Nat × List (Option x_V) × List x_V × List mz_K × List Nat) :=
  (match val with | .int v => x_fs (x_nu v) (fun w => some (pc + 2, L, .inl w :: S, sh, E)) | _ => none)
def x_e_getstatic (r1 r2 : Nat) (val : Value) (pc : Nat) (L : List (Option x_V)) (S : List x_V) (sh : List mz_K) (E : List Nat) : Option (Nat × List (Option x_V) × List x_V × List mz_K × List Nat) :=
  (match val with | .ref k => some (pc + 3, L, .inr k :: S, sh, E) | _ => none)
def x_e_iadd (r1 r2 : Nat) (val : Value) (pc : Nat) (L : List (Option x_V)) (S : List x_V) (sh : List mz_K) (E : List Nat) : Option (Nat × List (Option x_V) × List x_V × List mz_K × List Nat) :=
  (match S with | .inl y :: .inl x :: S => x_fs ((x + y) % 4294967296) (fun w => some (pc + 1, L, .inl w :: S, sh, E)) | _ => none)
def x_e_isub (r1 r2 : Nat) (val : Value) (pc : Nat) (L : List (Option x_V)) (S : List x_V) (sh : List mz_K) (E : List Nat) : Option (Nat × List (Option x_V) × List x_V × List mz_K × List Nat) :=
  (match S with | .inl y :: .inl x :: S => x_fs ((x + (4294967296 - y % 4294967296)) % 4294967296) (fun w => some (pc + 1, L, .inl w :: S, sh, E)) | _ => none)
def x_e_imul (r1 r2 : Nat) (val : Value) (pc : Nat) (L : List (Option x_V)) (S : List x_V) (sh : List mz_K) (E : List Nat) : Option (Nat × List (Option x_V) × List x_V × List mz_K × List Nat) :=
  (match S with | .inl y :: .inl x :: S => x_fs ((x * y) % 4294967296) (fun w => some (pc + 1, L, .inl w :: S, sh, E)) | _ => none)
def x_e_iand (r1 r2 : Nat) (val : Value) (pc : Nat) (L : List (Option x_V)) (S : List x_V) (sh : List mz_K) (E : List Nat) : Option (Nat × List (Option x_V) × List x_V × List mz_K × List Nat) :=
  (match S with | .inl y :: .inl x :: S => x_fs (x &&& y) (fun w => some (pc + 1, L, .inl w :: S, sh, E)) | _ => none)
def x_e_ior (r1 r2 : Nat) (val : Value) (pc : Nat) (L : List (Option x_V)) (S : List x_V) (sh : List mz_K) (E : List Nat) : Option (Nat × List (Option x_V) × List x_V × List mz_K × List Nat) :=
  (match S with | .inl y :: .inl x :: S => x_fs (x ||| y) (fun w => some (pc + 1, L, .inl w :: S, sh, E)) | _ => none)
def x_e_ishl (r1 r2 : Nat) (val : Value) (pc : Nat) (L : List (Option x_V)) (S : List x_V) (sh : List mz_K) (E : List Nat) : Option (Nat × List (Option x_V) × List x_V × List mz_K × List Nat) :=
  (match S with | .inl y :: .inl x :: S => bif Nat.blt y 32 && Nat.blt x 2 then x_fs (x <<< y) (fun w => some (pc + 1, L, .inl w :: S, sh, E)) else none | _ => none)
def x_e_ishr (r1 r2 : Nat) (val : Value) (pc : Nat) (L : List (Option x_V)) (S : List x_V) (sh : List mz_K) (E : List Nat) : Option (Nat × List (Option x_V) × List x_V × List mz_K × List Nat) :=
  (match S with | .inl y :: .inl x :: S => bif Nat.blt y 32 && Nat.blt x 2147483648 then x_fs (x >>> y) (fun w => some (pc + 1, L, .inl w :: S, sh, E)) else none | _ => none)
def x_e_ineg (r1 r2 : Nat) (val : Value) (pc : Nat) (L : List (Option x_V)) (S : List x_V) (sh : List mz_K) (E : List Nat) : Option (Nat × List (Option x_V) × List x_V × List mz_K × List Nat) :=
  (match S with | .inl x :: S => x_fs ((4294967296 - x % 4294967296) % 4294967296) (fun w => some (pc + 1, L, .inl w :: S, sh, E)) | _ => none)
def x_e_dup (r1 r2 : Nat) (val : Value) (pc : Nat) (L : List (Option x_V)) (S : List x_V) (sh : List mz_K) (E : List Nat) : Option (Nat × List (Option x_V) × List x_V × List mz_K × List Nat) :=
  (match S with | .inl x :: S => some (pc + 1, L, .inl x :: .inl x :: S, sh, E) | .inr x :: S => some (pc + 1, L, .inr x :: .inr x :: S, sh, E) | _ => none)
def x_e_dup2 (r1 r2 : Nat) (val : Value) (pc : Nat) (L : List (Option x_V)) (S : List x_V) (sh : List mz_K) (E : List Nat) : Option (Nat × List (Option x_V) × List x_V × List mz_K × List Nat) :=
  (match S with | .inl x :: .inr y :: S => some (pc + 1, L, .inl x :: .inr y :: .inl x :: .inr y :: S, sh, E) | _ => none)
def x_e_pop (r1 r2 : Nat) (val : Value) (pc : Nat) (L : List (Option x_V)) (S : List x_V) (sh : List mz_K) (E : List Nat) : Option (Nat × List (Option x_V) × List x_V × List mz_K × List Nat) :=
  (match S with | .inl _ :: S => some (pc + 1, L, S, sh, E) | .inr _ :: S => some (pc + 1, L, S, sh, E) | _ => none)
def x_e_goto (r1 r2 : Nat) (val : Value) (pc : Nat) (L : List (Option x_V)) (S : List x_V) (sh : List mz_K) (E : List Nat) : Option (Nat × List (Option x_V) × List x_V × List mz_K × List Nat) :=
  some (r1, L, S, sh, E)
def x_e_ifCond_eq (r1 r2 : Nat) (val : Value) (pc : Nat) (L : List (Option x_V)) (S : List x_V) (sh : List mz_K) (E : List Nat) : Option (Nat × List (Option x_V) × List x_V × List mz_K × List Nat) :=
  match S with
  | .inl x :: S => some ((bif Nat.beq (x % 4294967296) 0 then r1 else pc + 3), L, S, sh, E)
  | _ => none
def x_e_ifCond_ne (r1 r2 : Nat) (val : Value) (pc : Nat) (L : List (Option x_V)) (S : List x_V) (sh : List mz_K) (E : List Nat) : Option (Nat × List (Option x_V) × List x_V × List mz_K × List Nat) :=
  match S with
  | .inl x :: S => some ((bif Nat.beq (x % 4294967296) 0 then pc + 3 else r1), L, S, sh, E)
  | _ => none
def x_e_ifCond_lt (r1 r2 : Nat) (val : Value) (pc : Nat) (L : List (Option x_V)) (S : List x_V) (sh : List mz_K) (E : List Nat) : Option (Nat × List (Option x_V) × List x_V × List mz_K × List Nat) :=
  match S with
  | .inl x :: S => some ((bif x_lt x 0 then r1 else pc + 3), L, S, sh, E)
  | _ => none
def x_e_ifCond_ge (r1 r2 : Nat) (val : Value) (pc : Nat) (L : List (Option x_V)) (S : List x_V) (sh : List mz_K) (E : List Nat) : Option (Nat × List (Option x_V) × List x_V × List mz_K × List Nat) :=
  match S with
  | .inl x :: S => some ((bif x_lt x 0 then pc + 3 else r1), L, S, sh, E)
  | _ => none
def x_e_ifCond_gt (r1 r2 : Nat) (val : Value) (pc : Nat) (L : List (Option x_V)) (S : List x_V) (sh : List mz_K) (E : List Nat) : Option (Nat × List (Option x_V) × List x_V × List mz_K × List Nat) :=
  match S with
  | .inl x :: S => some ((bif x_lt 0 x then r1 else pc + 3), L, S, sh, E)
  | _ => none
def x_e_ifCond_le (r1 r2 : Nat) (val : Value) (pc : Nat) (L : List (Option x_V)) (S : List x_V) (sh : List mz_K) (E : List Nat) : Option (Nat × List (Option x_V) × List x_V × List mz_K × List Nat) :=
  match S with
  | .inl x :: S => some ((bif x_lt 0 x then pc + 3 else r1), L, S, sh, E)
  | _ => none
def x_e_if_icmp_eq (r1 r2 : Nat) (val : Value) (pc : Nat) (L : List (Option x_V)) (S : List x_V) (sh : List mz_K) (E : List Nat) : Option (Nat × List (Option x_V) × List x_V × List mz_K × List Nat) :=
  match S with
  | .inl y :: .inl x :: S => some ((bif Nat.beq (x % 4294967296) (y % 4294967296) then r1 else pc + 3), L, S, sh, E)
  | _ => none
def x_e_if_icmp_ne (r1 r2 : Nat) (val : Value) (pc : Nat) (L : List (Option x_V)) (S : List x_V) (sh : List mz_K) (E : List Nat) : Option (Nat × List (Option x_V) × List x_V × List mz_K × List Nat) :=
  match S with
  | .inl y :: .inl x :: S => some ((bif Nat.beq (x % 4294967296) (y % 4294967296) then pc + 3 else r1), L, S, sh, E)
  | _ => none
def x_e_if_icmp_lt (r1 r2 : Nat) (val : Value) (pc : Nat) (L : List (Option x_V)) (S : List x_V) (sh : List mz_K) (E : List Nat) : Option (Nat × List (Option x_V) × List x_V × List mz_K × List Nat) :=
  match S with
  | .inl y :: .inl x :: S => some ((bif x_lt x y then r1 else pc + 3), L, S, sh, E)
  | _ => none
def x_e_if_icmp_ge (r1 r2 : Nat) (val : Value) (pc : Nat) (L : List (Option x_V)) (S : List x_V) (sh : List mz_K) (E : List Nat) : Option (Nat × List (Option x_V) × List x_V × List mz_K × List Nat) :=
  match S with
  | .inl y :: .inl x :: S => some ((bif x_lt x y then pc + 3 else r1), L, S, sh, E)
  | _ => none
def x_e_if_icmp_gt (r1 r2 : Nat) (val : Value) (pc : Nat) (L : List (Option x_V)) (S : List x_V) (sh : List mz_K) (E : List Nat) : Option (Nat × List (Option x_V) × List x_V × List mz_K × List Nat) :=
  match S with
  | .inl y :: .inl x :: S => some ((bif x_lt y x then r1 else pc + 3), L, S, sh, E)
  | _ => none
def x_e_if_icmp_le (r1 r2 : Nat) (val : Value) (pc : Nat) (L : List (Option x_V)) (S : List x_V) (sh : List mz_K) (E : List Nat) : Option (Nat × List (Option x_V) × List x_V × List mz_K × List Nat) :=
  match S with
  | .inl y :: .inl x :: S => some ((bif x_lt y x then pc + 3 else r1), L, S, sh, E)
  | _ => none
def x_e_getfield (r1 r2 : Nat) (val : Value) (pc : Nat) (L : List (Option x_V)) (S : List x_V) (sh : List mz_K) (E : List Nat) : Option (Nat × List (Option x_V) × List x_V × List mz_K × List Nat) :=
  (match S with
    | .inr a :: S => bif Nat.beq r1 100 then none else (match sh[a]? with
        | some (.inr (ci, fs)) => bif Nat.beq ci r1 && Nat.blt a mz_B then (match fs[r2]? with
          | some none => x_fs (x_rd (E.getD a 0) r2) (fun w => some (pc + 3, L, .inl w :: S, sh, E))
          | some (some (some j)) => some (pc + 3, L, .inr j :: S, sh, E)
          | _ => none) else none
        | _ => none)
    | _ => none)
def x_e_putfield (r1 r2 : Nat) (val : Value) (pc : Nat) (L : List (Option x_V)) (S : List x_V) (sh : List mz_K) (E : List Nat) : Option (Nat × List (Option x_V) × List x_V × List mz_K × List Nat) :=
  (match S with
    | .inl x :: .inr a :: S => (match sh[a]? with
        | some (.inr (ci, fs)) => bif Nat.beq ci r1 && (Nat.blt a mz_B && Nat.blt a E.length) then (match fs[r2]?, val with
          | some none, .null => x_fs (x_wr (E.getD a 0) r2 x) (fun w => some (pc + 3, L, S, sh, E.set a w))
          | some none, .int _ => bif Nat.blt x 2 then x_fs (x_wr (E.getD a 0) r2 x) (fun w => some (pc + 3, L, S, sh, E.set a w)) else none
          | _, _ => none) else none
        | _ => none)
    | .inr j :: .inr a :: S => (match sh[a]? with
        | some (.inr (ci, fs)) => bif Nat.beq ci r1 && (Nat.blt a mz_B && (Nat.blt j sh.length && Nat.blt j mz_B)) then (match fs[r2]?, val with
          | some (some _), .ref _ => some (pc + 3, L, S, sh.set a (.inr (ci, fs.set r2 (some (some j)))), E)
          | _, _ => none) else none
        | _ => none)
    | _ => none)
def x_e_baload (r1 r2 : Nat) (val : Value) (pc : Nat) (L : List (Option x_V)) (S : List x_V) (sh : List mz_K) (E : List Nat) : Option (Nat × List (Option x_V) × List x_V × List mz_K × List Nat) :=
  (match S with
    | .inl i :: .inr a :: S => bif Nat.blt a mz_B then (match sh[a]? with
        | some (.inl (.boolean, n)) => bif Nat.blt i n && Nat.blt n 2147483648 then x_fs (x_rd (E.getD a 0) i) (fun w => some (pc + 1, L, .inl w :: S, sh, E)) else none
        | _ => none)
      else none
    | _ => none)
def x_e_iastore (r1 r2 : Nat) (val : Value) (pc : Nat) (L : List (Option x_V)) (S : List x_V) (sh : List mz_K) (E : List Nat) : Option (Nat × List (Option x_V) × List x_V × List mz_K × List Nat) :=
  (match S with
    | .inl x :: .inl i :: .inr a :: S => bif Nat.blt a mz_B && Nat.blt a E.length then (match sh[a]? with
        | some (.inl (.int, n)) => bif Nat.blt i n && Nat.blt n 2147483648 then x_fs (x_wr (E.getD a 0) i x) (fun w => some (pc + 1, L, S, sh, E.set a w)) else none
        | _ => none) else none
    | _ => none)
def x_e_bastore (r1 r2 : Nat) (val : Value) (pc : Nat) (L : List (Option x_V)) (S : List x_V) (sh : List mz_K) (E : List Nat) : Option (Nat × List (Option x_V) × List x_V × List mz_K × List Nat) :=
  (match S with
    | .inl x :: .inl i :: .inr a :: S => bif Nat.blt a mz_B && Nat.blt a E.length then (match sh[a]? with
        | some (.inl (.boolean, n)) => bif Nat.blt x 2 && (Nat.blt i n && Nat.blt n 2147483648) then x_fs (x_wr (E.getD a 0) i x) (fun w => some (pc + 1, L, S, sh, E.set a w)) else none
        | _ => none) else none
    | _ => none)
def x_e_newarray_int (r1 r2 : Nat) (val : Value) (pc : Nat) (L : List (Option x_V)) (S : List x_V) (sh : List mz_K) (E : List Nat) : Option (Nat × List (Option x_V) × List x_V × List mz_K × List Nat) :=
  match S with
  | .inl n :: S => bif (Nat.blt sh.length mz_B && (mz_wL sh.length (x_mL L) && mz_wS sh.length (x_mS S))) && (Nat.beq E.length sh.length && Nat.ble n 100000) then some (pc + 2, L, .inr sh.length :: S, sh ++ [.inl (.int, n)], E ++ [0]) else none
  | _ => none
def x_e_newarray_boolean (r1 r2 : Nat) (val : Value) (pc : Nat) (L : List (Option x_V)) (S : List x_V) (sh : List mz_K) (E : List Nat) : Option (Nat × List (Option x_V) × List x_V × List mz_K × List Nat) :=
  match S with
  | .inl n :: S => bif (Nat.blt sh.length mz_B && (mz_wL sh.length (x_mL L) && mz_wS sh.length (x_mS S))) && (Nat.beq E.length sh.length && Nat.ble n 100000) then some (pc + 2, L, .inr sh.length :: S, sh ++ [.inl (.boolean, n)], E ++ [0]) else none
  | _ => none
def x_e_new (r1 r2 : Nat) (val : Value) (pc : Nat) (L : List (Option x_V)) (S : List x_V) (sh : List mz_K) (E : List Nat) : Option (Nat × List (Option x_V) × List x_V × List mz_K × List Nat) :=
  bif (Nat.blt sh.length mz_B && (mz_wL sh.length (x_mL L) && mz_wS sh.length (x_mS S))) && Nat.beq E.length sh.length then some (pc + 3, L, .inr sh.length :: S, sh ++ [.inr (r1, mz_n0 r1)], E ++ [0]) else none
def x_e_invokespecial (r1 r2 : Nat) (val : Value) (pc : Nat) (L : List (Option x_V)) (S : List x_V) (sh : List mz_K) (E : List Nat) : Option (Nat × List (Option x_V) × List x_V × List mz_K × List Nat) :=
  (match S with | .inr a :: S => bif Nat.beq r1 9999 && (Nat.blt a mz_B && Nat.ble (((x_mS S).map fun v => v.category).sum) 8) then some (pc + 3, L, S, sh, E) else none | _ => none)
def x_e_none (r1 r2 : Nat) (val : Value) (pc : Nat) (L : List (Option x_V)) (S : List x_V) (sh : List mz_K) (E : List Nat) : Option (Nat × List (Option x_V) × List x_V × List mz_K × List Nat) := none
def x_op : Instr → Option (Nat → Nat → Value → Nat → List (Option x_V) → List x_V → List mz_K → List Nat → Option (Nat × List (Option x_V) × List x_V × List mz_K × List Nat))
  | .aload_n _ => some x_e_aload_n
  | .aload _ => some x_e_aload
  | .iload_n _ => some x_e_iload_n
  | .iload _ => some x_e_iload
  | .istore_n _ => some x_e_istore_n
  | .istore _ => some x_e_istore
  | .astore_n _ => some x_e_astore_n
  | .iinc _ _ => some x_e_iinc
  | .iconst _ => some x_e_iconst
  | .bipush _ => some x_e_bipush
  | .sipush _ => some x_e_sipush
  | .ldc _ => some x_e_ldc
  | .getstatic _ => some x_e_getstatic
  | .iadd => some x_e_iadd
  | .isub => some x_e_isub
  | .imul => some x_e_imul
  | .iand => some x_e_iand
  | .ior => some x_e_ior
  | .ishl => some x_e_ishl
  | .ishr => some x_e_ishr
  | .ineg => some x_e_ineg
  | .dup => some x_e_dup
  | .dup2 => some x_e_dup2
  | .pop => some x_e_pop
  | .goto _ => some x_e_goto
  | .ifCond .eq _ => some x_e_ifCond_eq
  | .ifCond .ne _ => some x_e_ifCond_ne
  | .ifCond .lt _ => some x_e_ifCond_lt
  | .ifCond .ge _ => some x_e_ifCond_ge
  | .ifCond .gt _ => some x_e_ifCond_gt
  | .ifCond .le _ => some x_e_ifCond_le
  | .if_icmp .eq _ => some x_e_if_icmp_eq
  | .if_icmp .ne _ => some x_e_if_icmp_ne
  | .if_icmp .lt _ => some x_e_if_icmp_lt
  | .if_icmp .ge _ => some x_e_if_icmp_ge
  | .if_icmp .gt _ => some x_e_if_icmp_gt
  | .if_icmp .le _ => some x_e_if_icmp_le
  | .getfield _ => some x_e_getfield
  | .putfield _ => some x_e_putfield
  | .iaload => some x_e_iaload
  | .baload => some x_e_baload
  | .iastore => some x_e_iastore
  | .bastore => some x_e_bastore
  | .arraylength => some x_e_arraylength
  | .newarray .int => some x_e_newarray_int
  | .newarray .boolean => some x_e_newarray_boolean
  | .new _ => some x_e_new
  | .invokespecial _ => some x_e_invokespecial
  | _ => none
theorem x_op_ok {ins : Instr} {r1 r2 : Nat} {val : Value} {pc : Nat} {L : List (Option x_V)} {S : List x_V} {sh : List mz_K} {E : List Nat} {q : Nat × List (Option x_V) × List x_V × List mz_K × List Nat} {g : Nat → Nat → Value → Nat → List (Option x_V) → List x_V → List mz_K → List Nat → Option (Nat × List (Option x_V) × List x_V × List mz_K × List Nat)} (hg : x_op ins = some g) (h : g r1 r2 val pc L S sh E = some q) : x_ex ins r1 r2 val pc L S sh E = some q := by
  cases ins
  case ifCond c o =>
    cases S with
    | nil => cases c <;> (cases hg; cases h)
    | cons v S => cases v <;> cases c <;> (cases hg; exact h)
  case if_icmp c o =>
    cases S with
    | nil => cases c <;> (cases hg; cases h)
    | cons v S =>
      cases v
      · cases S with
        | nil => cases c <;> (cases hg; cases h)
        | cons v S => cases v <;> cases c <;> (cases hg; exact h)
      · cases c <;> (cases hg; cases h)
  case newarray c =>
    cases S with
    | nil => cases c <;> first | (cases hg; done) | (cases hg; cases h; done)
    | cons v S => cases v <;> cases c <;> first | (cases hg; done) | (cases hg; exact h)
  case aload_n => cases hg; exact h
  case aload => cases hg; exact h
  case iload_n => cases hg; exact h
  case iload => cases hg; exact h
  case istore_n => cases hg; exact h
  case istore => cases hg; exact h
  case astore_n => cases hg; exact h
  case iinc => cases hg; exact h
  case iconst => cases hg; exact h
  case bipush => cases hg; exact h
  case sipush => cases hg; exact h
  case ldc => cases hg; exact h
  case getstatic => cases hg; exact h
  case iadd => cases hg; exact h
  case isub => cases hg; exact h
  case imul => cases hg; exact h
  case iand => cases hg; exact h
  case ior => cases hg; exact h
  case ishl => cases hg; exact h
  case ishr => cases hg; exact h
  case ineg => cases hg; exact h
  case dup => cases hg; exact h
  case dup2 => cases hg; exact h
  case pop => cases hg; exact h
  case goto => cases hg; exact h
  case getfield => cases hg; exact h
  case putfield => cases hg; exact h
  case iaload => cases hg; exact h
  case baload => cases hg; exact h
  case iastore => cases hg; exact h
  case bastore => cases hg; exact h
  case arraylength => cases hg; exact h
  case new => cases hg; exact h
  case invokespecial => cases hg; exact h
  all_goals cases hg
