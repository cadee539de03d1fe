/-! the fast machine with what comes then -/
abbrev x_C : Type := Nat → List (Option x_V) → List x_V → List mz_K → List Nat → Bool
noncomputable def x_gl {α : Type} (L : List α) : Nat → Option α := List.rec (motive := fun _ => Nat → Option α) (fun _ => none) (fun a _ ih n => Nat.rec (motive := fun _ => Option α) (some a) (fun n' _ => ih n') n) L
theorem x_gl_eq {α : Type} (L : List α) : ∀ n, x_gl L n = L[n]? := by
  induction L with
  | nil => intro n; rfl
  | cons a t ih =>
    intro n
    cases n with
    | zero => rfl
    | succ n => show x_gl t n = t[n]?; exact ih n
theorem x_cm {α : Type} {c : Bool} {a b : α} : (bif c then a else b) = if c = true then a else b := by cases c <;> rfl
noncomputable def x_h_iaload (r1 r2 : Nat) (val : Value) (pc : Nat) (L : List (Option x_V)) (S : List x_V) (sh : List mz_K) (E : List Nat) (kk : x_C) : Bool :=
  (match S with
    | .inl i :: .inr a :: S => bif Nat.blt a mz_B then (match sh[a]? with
        | some (.inl (.int, n)) => bif Nat.blt i n && Nat.blt n 2147483648 then x_fs (x_rd (E.getD a 0) i) (fun w => kk (pc + 1) L (.inl w :: S) sh E) else false
        | _ => false)
      else bif Nat.beq (a - mz_B) 50 then false else (match mz_oal (a - mz_B) mz_arrs with
        | some (.int, n, f) => bif Nat.blt i n && Nat.blt n 2147483648 then x_fs (x_nu (f i)) (fun w => kk (pc + 1) L (.inl w :: S) sh E) else false
        | _ => false)
    | _ => false)
noncomputable def x_h_arraylength (r1 r2 : Nat) (val : Value) (pc : Nat) (L : List (Option x_V)) (S : List x_V) (sh : List mz_K) (E : List Nat) (kk : x_C) : Bool :=
  (match S with
    | .inr a :: S => bif Nat.blt a mz_B then (match sh[a]? with
        | some (.inl (.int, n)) => kk (pc + 1) L (.inl n :: S) sh E
        | _ => false)
      else bif Nat.beq (a - mz_B) 50 then false else (match mz_oal (a - mz_B) mz_arrs with
        | some (_, n, _) => x_fs n (fun w => kk (pc + 1) L (.inl w :: S) sh E)
        | _ => false)
    | _ => false)
noncomputable def x_h_aload_n (r1 r2 : Nat) (val : Value) (pc : Nat) (L : List (Option x_V)) (S : List x_V) (sh : List mz_K) (E : List Nat) (kk : x_C) : Bool :=
  (match x_gl L r1 with | some (some (.inr k)) => kk (pc + 1) L (.inr k :: S) sh E | _ => false)
noncomputable def x_h_aload (r1 r2 : Nat) (val : Value) (pc : Nat) (L : List (Option x_V)) (S : List x_V) (sh : List mz_K) (E : List Nat) (kk : x_C) : Bool :=
  (match x_gl L r1 with | some (some (.inr k)) => kk (pc + 2) L (.inr k :: S) sh E | _ => false)
noncomputable def x_h_iload_n (r1 r2 : Nat) (val : Value) (pc : Nat) (L : List (Option x_V)) (S : List x_V) (sh : List mz_K) (E : List Nat) (kk : x_C) : Bool :=
  (match x_gl L r1 with | some (some (.inl k)) => kk (pc + 1) L (.inl k :: S) sh E | _ => false)
noncomputable def x_h_iload (r1 r2 : Nat) (val : Value) (pc : Nat) (L : List (Option x_V)) (S : List x_V) (sh : List mz_K) (E : List Nat) (kk : x_C) : Bool :=
  (match x_gl L r1 with | some (some (.inl k)) => kk (pc + 2) L (.inl k :: S) sh E | _ => false)
noncomputable def x_h_istore_n (r1 r2 : Nat) (val : Value) (pc : Nat) (L : List (Option x_V)) (S : List x_V) (sh : List mz_K) (E : List Nat) (kk : x_C) : Bool :=
  (match S with | .inl u :: S => bif Nat.blt r1 L.length then kk (pc + 1) (L.set r1 (some (.inl u))) S sh E else false | _ => false)
noncomputable def x_h_istore (r1 r2 : Nat) (val : Value) (pc : Nat) (L : List (Option x_V)) (S : List x_V) (sh : List mz_K) (E : List Nat) (kk : x_C) : Bool :=
  (match S with | .inl u :: S => bif Nat.blt r1 L.length then kk (pc + 2) (L.set r1 (some (.inl u))) S sh E else false | _ => false)
noncomputable def x_h_astore_n (r1 r2 : Nat) (val : Value) (pc : Nat) (L : List (Option x_V)) (S : List x_V) (sh : List mz_K) (E : List Nat) (kk : x_C) : Bool :=
  (match S with | .inr u :: S => bif Nat.blt r1 L.length then kk (pc + 1) (L.set r1 (some (.inr u))) S sh E else false | _ => false)
noncomputable def x_h_iinc (r1 r2 : Nat) (val : Value) (pc : Nat) (L : List (Option x_V)) (S : List x_V) (sh : List mz_K) (E : List Nat) (kk : x_C) : Bool :=
  (match x_gl L r1, val with | some (some (.inl u)), .int d => bif Nat.blt r1 L.length then x_fs ((u + x_nu d) % 4294967296) (fun w => kk (pc + 3) (L.set r1 (some (.inl w))) S sh E) else false | _, _ => false)
noncomputable def x_h_iconst (r1 r2 : Nat) (val : Value) (pc : Nat) (L : List (Option x_V)) (S : List x_V) (sh : List mz_K) (E : List Nat) (kk : x_C) : Bool :=
  (match val with | .int v => x_fs (x_nu v) (fun w => kk (pc + 1) L (.inl w :: S) sh E) | _ => false)
noncomputable def x_h_bipush (r1 r2 : Nat) (val : Value) (pc : Nat) (L : List (Option x_V)) (S : List x_V) (sh : List mz_K) (E : List Nat) (kk : x_C) : Bool :=
  (match val with | .int v => x_fs (x_nu v) (fun w => kk (pc + 2) L (.inl w :: S) sh E) | _ => false)
noncomputable def x_h_sipush (r1 r2 : Nat) (val : Value) (pc : Nat) (L : List (Option x_V)) (S : List x_V) (sh : List mz_K) (E : List Nat) (kk : x_C) : Bool :=
  (match val with | .int v => x_fs (x_nu v) (fun w => kk (pc + 3) L (.inl w :: S) sh E) | _ => false)
noncomputable def x_h_ldc (r1 r2 : Nat) (val : Value) (pc : Nat) (L : List (Option x_V)) (S : List x_V) (sh : List mz_K) (E : List Nat) (kk : x_C) : Bool :=
  (match val with | .int v => x_fs (x_nu v) (fun w => kk (pc + 2) L (.inl w :: S) sh E) | _ => false)
noncomputable def x_h_getstatic (r1 r2 : Nat) (val : Value) (pc : Nat) (L : List (Option x_V)) (S : List x_V) (sh : List mz_K) (E : List Nat) (kk : x_C) : Bool :=
  (match val with | .ref k => kk (pc + 3) L (.inr k :: S) sh E | _ => false)
noncomputable def x_h_iadd (r1 r2 : Nat) (val : Value) (pc : Nat) (L : List (Option x_V)) (S : List x_V) (sh : List mz_K) (E : List Nat) (kk : x_C) : Bool :=
  (match S with | .inl y :: .inl x :: S => x_fs ((x + y) % 4294967296) (fun w => kk (pc + 1) L (.inl w :: S) sh E) | _ => false)
noncomputable def x_h_isub (r1 r2 : Nat) (val : Value) (pc : Nat) (L : List (Option x_V)) (S : List x_V) (sh : List mz_K) (E : List Nat) (kk : x_C) : Bool :=
  (match S with | .inl y :: .inl x :: S => x_fs ((x + (4294967296 - y % 4294967296)) % 4294967296) (fun w => kk (pc + 1) L (.inl w :: S) sh E) | _ => false)
noncomputable def x_h_imul (r1 r2 : Nat) (val : Value) (pc : Nat) (L : List (Option x_V)) (S : List x_V) (sh : List mz_K) (E : List Nat) (kk : x_C) : Bool :=
  (match S with | .inl y :: .inl x :: S => x_fs ((x * y) % 4294967296) (fun w => kk (pc + 1) L (.inl w :: S) sh E) | _ => false)
noncomputable def x_h_iand (r1 r2 : Nat) (val : Value) (pc : Nat) (L : List (Option x_V)) (S : List x_V) (sh : List mz_K) (E : List Nat) (kk : x_C) : Bool :=
  (match S with | .inl y :: .inl x :: S => x_fs (x &&& y) (fun w => kk (pc + 1) L (.inl w :: S) sh E) | _ => false)
noncomputable def x_h_ior (r1 r2 : Nat) (val : Value) (pc : Nat) (L : List (Option x_V)) (S : List x_V) (sh : List mz_K) (E : List Nat) (kk : x_C) : Bool :=
  (match S with | .inl y :: .inl x :: S => x_fs (x ||| y) (fun w => kk (pc + 1) L (.inl w :: S) sh E) | _ => false)
noncomputable def x_h_ishl (r1 r2 : Nat) (val : Value) (pc : Nat) (L : List (Option x_V)) (S : List x_V) (sh : List mz_K) (E : List Nat) (kk : x_C) : Bool :=
  (match S with | .inl y :: .inl x :: S => bif Nat.blt y 32 && Nat.blt x 2 then x_fs (x <<< y) (fun w => kk (pc + 1) L (.inl w :: S) sh E) else false | _ => false)
noncomputable def x_h_ishr (r1 r2 : Nat) (val : Value) (pc : Nat) (L : List (Option x_V)) (S : List x_V) (sh : List mz_K) (E : List Nat) (kk : x_C) : Bool :=
  (match S with | .inl y :: .inl x :: S => bif Nat.blt y 32 && Nat.blt x 2147483648 then x_fs (x >>> y) (fun w => kk (pc + 1) L (.inl w :: S) sh E) else false | _ => false)
noncomputable def x_h_ineg (r1 r2 : Nat) (val : Value) (pc : Nat) (L : List (Option x_V)) (S : List x_V) (sh : List mz_K) (E : List Nat) (kk : x_C) : Bool :=
  (match S with | .inl x :: S => x_fs ((4294967296 - x % 4294967296) % 4294967296) (fun w => kk (pc + 1) L (.inl w :: S) sh E) | _ => false)
noncomputable def x_h_dup (r1 r2 : Nat) (val : Value) (pc : Nat) (L : List (Option x_V)) (S : List x_V) (sh : List mz_K) (E : List Nat) (kk : x_C) : Bool :=
  (match S with | .inl x :: S => kk (pc + 1) L (.inl x :: .inl x :: S) sh E | .inr x :: S => kk (pc + 1) L (.inr x :: .inr x :: S) sh E | _ => false)
noncomputable def x_h_dup2 (r1 r2 : Nat) (val : Value) (pc : Nat) (L : List (Option x_V)) (S : List x_V) (sh : List mz_K) (E : List Nat) (kk : x_C) : Bool :=
  (match S with | .inl x :: .inr y :: S => kk (pc + 1) L (.inl x :: .inr y :: .inl x :: .inr y :: S) sh E | _ => false)
noncomputable def x_h_pop (r1 r2 : Nat) (val : Value) (pc : Nat) (L : List (Option x_V)) (S : List x_V) (sh : List mz_K) (E : List Nat) (kk : x_C) : Bool :=
  (match S with | .inl _ :: S => kk (pc + 1) L S sh E | .inr _ :: S => kk (pc + 1) L S sh E | _ => false)
noncomputable def x_h_goto (r1 r2 : Nat) (val : Value) (pc : Nat) (L : List (Option x_V)) (S : List x_V) (sh : List mz_K) (E : List Nat) (kk : x_C) : Bool :=
  kk r1 L S sh E
noncomputable def x_h_ifCond_eq (r1 r2 : Nat) (val : Value) (pc : Nat) (L : List (Option x_V)) (S : List x_V) (sh : List mz_K) (E : List Nat) (kk : x_C) : Bool :=
  match S with
  | .inl x :: S => kk ((bif Nat.beq (x % 4294967296) 0 then r1 else pc + 3)) L S sh E
  | _ => false
noncomputable def x_h_ifCond_ne (r1 r2 : Nat) (val : Value) (pc : Nat) (L : List (Option x_V)) (S : List x_V) (sh : List mz_K) (E : List Nat) (kk : x_C) : Bool :=
  match S with
  | .inl x :: S => kk ((bif Nat.beq (x % 4294967296) 0 then pc + 3 else r1)) L S sh E
  | _ => false
noncomputable def x_h_ifCond_lt (r1 r2 : Nat) (val : Value) (pc : Nat) (L : List (Option x_V)) (S : List x_V) (sh : List mz_K) (E : List Nat) (kk : x_C) : Bool :=
  match S with
  | .inl x :: S => kk ((bif x_lt x 0 then r1 else pc + 3)) L S sh E
  | _ => false
noncomputable def x_h_ifCond_ge (r1 r2 : Nat) (val : Value) (pc : Nat) (L : List (Option x_V)) (S : List x_V) (sh : List mz_K) (E : List Nat) (kk : x_C) : Bool :=
  match S with
  | .inl x :: S => kk ((bif x_lt x 0 then pc + 3 else r1)) L S sh E
  | _ => false
noncomputable def x_h_ifCond_gt (r1 r2 : Nat) (val : Value) (pc : Nat) (L : List (Option x_V)) (S : List x_V) (sh : List mz_K) (E : List Nat) (kk : x_C) : Bool :=
  match S with
  | .inl x :: S => kk ((bif x_lt 0 x then r1 else pc + 3)) L S sh E
  | _ => false
noncomputable def x_h_ifCond_le (r1 r2 : Nat) (val : Value) (pc : Nat) (L : List (Option x_V)) (S : List x_V) (sh : List mz_K) (E : List Nat) (kk : x_C) : Bool :=
  match S with
  | .inl x :: S => kk ((bif x_lt 0 x then pc + 3 else r1)) L S sh E
  | _ => false
noncomputable def x_h_if_icmp_eq (r1 r2 : Nat) (val : Value) (pc : Nat) (L : List (Option x_V)) (S : List x_V) (sh : List mz_K) (E : List Nat) (kk : x_C) : Bool :=
  match S with
  | .inl y :: .inl x :: S => kk ((bif Nat.beq (x % 4294967296) (y % 4294967296) then r1 else pc + 3)) L S sh E
  | _ => false
noncomputable def x_h_if_icmp_ne (r1 r2 : Nat) (val : Value) (pc : Nat) (L : List (Option x_V)) (S : List x_V) (sh : List mz_K) (E : List Nat) (kk : x_C) : Bool :=
  match S with
  | .inl y :: .inl x :: S => kk ((bif Nat.beq (x % 4294967296) (y % 4294967296) then pc + 3 else r1)) L S sh E
  | _ => false
noncomputable def x_h_if_icmp_lt (r1 r2 : Nat) (val : Value) (pc : Nat) (L : List (Option x_V)) (S : List x_V) (sh : List mz_K) (E : List Nat) (kk : x_C) : Bool :=
  match S with
  | .inl y :: .inl x :: S => kk ((bif x_lt x y then r1 else pc + 3)) L S sh E
  | _ => false
noncomputable def x_h_if_icmp_ge (r1 r2 : Nat) (val : Value) (pc : Nat) (L : List (Option x_V)) (S : List x_V) (sh : List mz_K) (E : List Nat) (kk : x_C) : Bool :=
  match S with
  | .inl y :: .inl x :: S => kk ((bif x_lt x y then pc + 3 else r1)) L S sh E
  | _ => false
noncomputable def x_h_if_icmp_gt (r1 r2 : Nat) (val : Value) (pc : Nat) (L : List (Option x_V)) (S : List x_V) (sh : List mz_K) (E : List Nat) (kk : x_C) : Bool :=
  match S with
  | .inl y :: .inl x :: S => kk ((bif x_lt y x then r1 else pc + 3)) L S sh E
  | _ => false
noncomputable def x_h_if_icmp_le (r1 r2 : Nat) (val : Value) (pc : Nat) (L : List (Option x_V)) (S : List x_V) (sh : List mz_K) (E : List Nat) (kk : x_C) : Bool :=
  match S with
  | .inl y :: .inl x :: S => kk ((bif x_lt y x then pc + 3 else r1)) L S sh E
  | _ => false
noncomputable def x_h_getfield (r1 r2 : Nat) (val : Value) (pc : Nat) (L : List (Option x_V)) (S : List x_V) (sh : List mz_K) (E : List Nat) (kk : x_C) : Bool :=
  (match S with
    | .inr a :: S => bif Nat.beq r1 100 then false else (match sh[a]? with
        | some (.inr (ci, fs)) => bif Nat.beq ci r1 && Nat.blt a mz_B then (match fs[r2]? with
          | some none => x_fs (x_rd (E.getD a 0) r2) (fun w => kk (pc + 3) L (.inl w :: S) sh E)
          | some (some (some j)) => kk (pc + 3) L (.inr j :: S) sh E
          | _ => false) else false
        | _ => false)
    | _ => false)
noncomputable def x_h_putfield (r1 r2 : Nat) (val : Value) (pc : Nat) (L : List (Option x_V)) (S : List x_V) (sh : List mz_K) (E : List Nat) (kk : x_C) : Bool :=
  (match S with
    | .inl x :: .inr a :: S => (match sh[a]? with
        | some (.inr (ci, fs)) => bif Nat.beq ci r1 && (Nat.blt a mz_B && Nat.blt a E.length) then (match fs[r2]?, val with
          | some none, .null => x_fs (x_wr (E.getD a 0) r2 x) (fun w => kk (pc + 3) L S sh (E.set a w))
          | some none, .int _ => bif Nat.blt x 2 then x_fs (x_wr (E.getD a 0) r2 x) (fun w => kk (pc + 3) L S sh (E.set a w)) else false
          | _, _ => false) else false
        | _ => false)
    | .inr j :: .inr a :: S => (match sh[a]? with
        | some (.inr (ci, fs)) => bif Nat.beq ci r1 && (Nat.blt a mz_B && (Nat.blt j sh.length && Nat.blt j mz_B)) then (match fs[r2]?, val with
          | some (some _), .ref _ => kk (pc + 3) L S (sh.set a (.inr (ci, fs.set r2 (some (some j))))) E
          | _, _ => false) else false
        | _ => false)
    | _ => false)
noncomputable def x_h_baload (r1 r2 : Nat) (val : Value) (pc : Nat) (L : List (Option x_V)) (S : List x_V) (sh : List mz_K) (E : List Nat) (kk : x_C) : Bool :=
  (match S with
    | .inl i :: .inr a :: S => bif Nat.blt a mz_B then (match sh[a]? with
        | some (.inl (.boolean, n)) => bif Nat.blt i n && Nat.blt n 2147483648 then x_fs (x_rd (E.getD a 0) i) (fun w => kk (pc + 1) L (.inl w :: S) sh E) else false
        | _ => false)
      else false
    | _ => false)
noncomputable def x_h_iastore (r1 r2 : Nat) (val : Value) (pc : Nat) (L : List (Option x_V)) (S : List x_V) (sh : List mz_K) (E : List Nat) (kk : x_C) : Bool :=
  (match S with
    | .inl x :: .inl i :: .inr a :: S => bif Nat.blt a mz_B && Nat.blt a E.length then (match sh[a]? with
        | some (.inl (.int, n)) => bif Nat.blt i n && Nat.blt n 2147483648 then x_fs (x_wr (E.getD a 0) i x) (fun w => kk (pc + 1) L S sh (E.set a w)) else false
        | _ => false) else false
    | _ => false)
noncomputable def x_h_bastore (r1 r2 : Nat) (val : Value) (pc : Nat) (L : List (Option x_V)) (S : List x_V) (sh : List mz_K) (E : List Nat) (kk : x_C) : Bool :=
  (match S with
    | .inl x :: .inl i :: .inr a :: S => bif Nat.blt a mz_B && Nat.blt a E.length then (match sh[a]? with
        | some (.inl (.boolean, n)) => bif Nat.blt x 2 && (Nat.blt i n && Nat.blt n 2147483648) then x_fs (x_wr (E.getD a 0) i x) (fun w => kk (pc + 1) L S sh (E.set a w)) else false
        | _ => false) else false
    | _ => false)
noncomputable def x_h_newarray_int (r1 r2 : Nat) (val : Value) (pc : Nat) (L : List (Option x_V)) (S : List x_V) (sh : List mz_K) (E : List Nat) (kk : x_C) : Bool :=
  match S with
  | .inl n :: S => bif (Nat.blt sh.length mz_B && (mz_wL sh.length (x_mL L) && mz_wS sh.length (x_mS S))) && (Nat.beq E.length sh.length && Nat.ble n 100000) then kk (pc + 2) L (.inr sh.length :: S) (sh ++ [.inl (.int, n)]) (E ++ [0]) else false
  | _ => false
noncomputable def x_h_newarray_boolean (r1 r2 : Nat) (val : Value) (pc : Nat) (L : List (Option x_V)) (S : List x_V) (sh : List mz_K) (E : List Nat) (kk : x_C) : Bool :=
  match S with
  | .inl n :: S => bif (Nat.blt sh.length mz_B && (mz_wL sh.length (x_mL L) && mz_wS sh.length (x_mS S))) && (Nat.beq E.length sh.length && Nat.ble n 100000) then kk (pc + 2) L (.inr sh.length :: S) (sh ++ [.inl (.boolean, n)]) (E ++ [0]) else false
  | _ => false
noncomputable def x_h_new (r1 r2 : Nat) (val : Value) (pc : Nat) (L : List (Option x_V)) (S : List x_V) (sh : List mz_K) (E : List Nat) (kk : x_C) : Bool :=
  bif (Nat.blt sh.length mz_B && (mz_wL sh.length (x_mL L) && mz_wS sh.length (x_mS S))) && Nat.beq E.length sh.length then kk (pc + 3) L (.inr sh.length :: S) (sh ++ [.inr (r1, mz_n0 r1)]) (E ++ [0]) else false
noncomputable def x_h_invokespecial (r1 r2 : Nat) (val : Value) (pc : Nat) (L : List (Option x_V)) (S : List x_V) (sh : List mz_K) (E : List Nat) (kk : x_C) : Bool :=
  (match S with | .inr a :: S => bif Nat.beq r1 9999 && (Nat.blt a mz_B && Nat.ble (((x_mS S).map fun v => v.category).sum) 8) then kk (pc + 3) L S sh E else false | _ => false)
theorem x_k_iaload {r1 r2 : Nat} {val : Value} {pc : Nat} {L : List (Option x_V)} {S : List x_V} {sh : List mz_K} {E : List Nat} {kk : x_C} (h : x_h_iaload r1 r2 val pc L S sh E kk = true) : ∃ pc' L' S' sh' E', x_e_iaload r1 r2 val pc L S sh E = some (pc', L', S', sh', E') ∧ kk pc' L' S' sh' E' = true := by
  unfold x_h_iaload at h
  unfold x_e_iaload
  try simp only [x_fs_eq, x_gl_eq, x_cm] at h
  try simp only [x_fs_eq, x_gl_eq, x_cm]
  (repeat' split at h) <;> first | (cases h; done) | exact ⟨_, _, _, _, _, rfl, h⟩ | (refine ⟨_, _, _, _, _, ?_, h⟩; simp only [*, if_true, if_false, Bool.false_eq_true, reduceIte]; done)
theorem x_k_arraylength {r1 r2 : Nat} {val : Value} {pc : Nat} {L : List (Option x_V)} {S : List x_V} {sh : List mz_K} {E : List Nat} {kk : x_C} (h : x_h_arraylength r1 r2 val pc L S sh E kk = true) : ∃ pc' L' S' sh' E', x_e_arraylength r1 r2 val pc L S sh E = some (pc', L', S', sh', E') ∧ kk pc' L' S' sh' E' = true := by
  unfold x_h_arraylength at h
  unfold x_e_arraylength
  try simp only [x_fs_eq, x_gl_eq, x_cm] at h
  try simp only [x_fs_eq, x_gl_eq, x_cm]
  (repeat' split at h) <;> first | (cases h; done) | exact ⟨_, _, _, _, _, rfl, h⟩ | (refine ⟨_, _, _, _, _, ?_, h⟩; simp only [*, if_true, if_false, Bool.false_eq_true, reduceIte]; done)
theorem x_k_aload_n {r1 r2 : Nat} {val : Value} {pc : Nat} {L : List (Option x_V)} {S : List x_V} {sh : List mz_K} {E : List Nat} {kk : x_C} (h : x_h_aload_n r1 r2 val pc L S sh E kk = true) : ∃ pc' L' S' sh' E', x_e_aload_n r1 r2 val pc L S sh E = some (pc', L', S', sh', E') ∧ kk pc' L' S' sh' E' = true := by
  unfold x_h_aload_n at h
  unfold x_e_aload_n
  try simp only [x_fs_eq, x_gl_eq, x_cm] at h
  try simp only [x_fs_eq, x_gl_eq, x_cm]
  (repeat' split at h) <;> first | (cases h; done) | exact ⟨_, _, _, _, _, rfl, h⟩ | (refine ⟨_, _, _, _, _, ?_, h⟩; simp only [*, if_true, if_false, Bool.false_eq_true, reduceIte]; done)
theorem x_k_aload {r1 r2 : Nat} {val : Value} {pc : Nat} {L : List (Option x_V)} {S : List x_V} {sh : List mz_K} {E : List Nat} {kk : x_C} (h : x_h_aload r1 r2 val pc L S sh E kk = true) : ∃ pc' L' S' sh' E', x_e_aload r1 r2 val pc L S sh E = some (pc', L', S', sh', E') ∧ kk pc' L' S' sh' E' = true := by
  unfold x_h_aload at h
  unfold x_e_aload
  try simp only [x_fs_eq, x_gl_eq, x_cm] at h
  try simp only [x_fs_eq, x_gl_eq, x_cm]
  (repeat' split at h) <;> first | (cases h; done) | exact ⟨_, _, _, _, _, rfl, h⟩ | (refine ⟨_, _, _, _, _, ?_, h⟩; simp only [*, if_true, if_false, Bool.false_eq_true, reduceIte]; done)
theorem x_k_iload_n {r1 r2 : Nat} {val : Value} {pc : Nat} {L : List (Option x_V)} {S : List x_V} {sh : List mz_K} {E : List Nat} {kk : x_C} (h : x_h_iload_n r1 r2 val pc L S sh E kk = true) : ∃ pc' L' S' sh' E', x_e_iload_n r1 r2 val pc L S sh E = some (pc', L', S', sh', E') ∧ kk pc' L' S' sh' E' = true := by
  unfold x_h_iload_n at h
  unfold x_e_iload_n
  try simp only [x_fs_eq, x_gl_eq, x_cm] at h
  try simp only [x_fs_eq, x_gl_eq, x_cm]
  (repeat' split at h) <;> first | (cases h; done) | exact ⟨_, _, _, _, _, rfl, h⟩ | (refine ⟨_, _, _, _, _, ?_, h⟩; simp only [*, if_true, if_false, Bool.false_eq_true, reduceIte]; done)
theorem x_k_iload {r1 r2 : Nat} {val : Value} {pc : Nat} {L : List (Option x_V)} {S : List x_V} {sh : List mz_K} {E : List Nat} {kk : x_C} (h : x_h_iload r1 r2 val pc L S sh E kk = true) : ∃ pc' L' S' sh' E', x_e_iload r1 r2 val pc L S sh E = some (pc', L', S', sh', E') ∧ kk pc' L' S' sh' E' = true := by
  unfold x_h_iload at h
  unfold x_e_iload
  try simp only [x_fs_eq, x_gl_eq, x_cm] at h
  try simp only [x_fs_eq, x_gl_eq, x_cm]
  (repeat' split at h) <;> first | (cases h; done) | exact ⟨_, _, _, _, _, rfl, h⟩ | (refine ⟨_, _, _, _, _, ?_, h⟩; simp only [*, if_true, if_false, Bool.false_eq_true, reduceIte]; done)
theorem x_k_istore_n {r1 r2 : Nat} {val : Value} {pc : Nat} {L : List (Option x_V)} {S : List x_V} {sh : List mz_K} {E : List Nat} {kk : x_C} (h : x_h_istore_n r1 r2 val pc L S sh E kk = true) : ∃ pc' L' S' sh' E', x_e_istore_n r1 r2 val pc L S sh E = some (pc', L', S', sh', E') ∧ kk pc' L' S' sh' E' = true := by
  unfold x_h_istore_n at h
  unfold x_e_istore_n
  try simp only [x_fs_eq, x_gl_eq, x_cm] at h
  try simp only [x_fs_eq, x_gl_eq, x_cm]
  (repeat' split at h) <;> first | (cases h; done) | exact ⟨_, _, _, _, _, rfl, h⟩ | (refine ⟨_, _, _, _, _, ?_, h⟩; simp only [*, if_true, if_false, Bool.false_eq_true, reduceIte]; done)
theorem x_k_istore {r1 r2 : Nat} {val : Value} {pc : Nat} {L : List (Option x_V)} {S : List x_V} {sh : List mz_K} {E : List Nat} {kk : x_C} (h : x_h_istore r1 r2 val pc L S sh E kk = true) : ∃ pc' L' S' sh' E', x_e_istore r1 r2 val pc L S sh E = some (pc', L', S', sh', E') ∧ kk pc' L' S' sh' E' = true := by
  unfold x_h_istore at h
  unfold x_e_istore
  try simp only [x_fs_eq, x_gl_eq, x_cm] at h
  try simp only [x_fs_eq, x_gl_eq, x_cm]
  (repeat' split at h) <;> first | (cases h; done) | exact ⟨_, _, _, _, _, rfl, h⟩ | (refine ⟨_, _, _, _, _, ?_, h⟩; simp only [*, if_true, if_false, Bool.false_eq_true, reduceIte]; done)
theorem x_k_astore_n {r1 r2 : Nat} {val : Value} {pc : Nat} {L : List (Option x_V)} {S : List x_V} {sh : List mz_K} {E : List Nat} {kk : x_C} (h : x_h_astore_n r1 r2 val pc L S sh E kk = true) : ∃ pc' L' S' sh' E', x_e_astore_n r1 r2 val pc L S sh E = some (pc', L', S', sh', E') ∧ kk pc' L' S' sh' E' = true := by
  unfold x_h_astore_n at h
  unfold x_e_astore_n
  try simp only [x_fs_eq, x_gl_eq, x_cm] at h
  try simp only [x_fs_eq, x_gl_eq, x_cm]
  (repeat' split at h) <;> first | (cases h; done) | exact ⟨_, _, _, _, _, rfl, h⟩ | (refine ⟨_, _, _, _, _, ?_, h⟩; simp only [*, if_true, if_false, Bool.false_eq_true, reduceIte]; done)
theorem x_k_iinc {r1 r2 : Nat} {val : Value} {pc : Nat} {L : List (Option x_V)} {S : List x_V} {sh : List mz_K} {E : List Nat} {kk : x_C} (h : x_h_iinc r1 r2 val pc L S sh E kk = true) : ∃ pc' L' S' sh' E', x_e_iinc r1 r2 val pc L S sh E = some (pc', L', S', sh', E') ∧ kk pc' L' S' sh' E' = true := by
  unfold x_h_iinc at h
  unfold x_e_iinc
  try simp only [x_fs_eq, x_gl_eq, x_cm] at h
  try simp only [x_fs_eq, x_gl_eq, x_cm]
  (repeat' split at h) <;> first | (cases h; done) | exact ⟨_, _, _, _, _, rfl, h⟩ | (refine ⟨_, _, _, _, _, ?_, h⟩; simp only [*, if_true, if_false, Bool.false_eq_true, reduceIte]; done)
theorem x_k_iconst {r1 r2 : Nat} {val : Value} {pc : Nat} {L : List (Option x_V)} {S : List x_V} {sh : List mz_K} {E : List Nat} {kk : x_C} (h : x_h_iconst r1 r2 val pc L S sh E kk = true) : ∃ pc' L' S' sh' E', x_e_iconst r1 r2 val pc L S sh E = some (pc', L', S', sh', E') ∧ kk pc' L' S' sh' E' = true := by
  unfold x_h_iconst at h
  unfold x_e_iconst
  try simp only [x_fs_eq, x_gl_eq, x_cm] at h
  try simp only [x_fs_eq, x_gl_eq, x_cm]
  (repeat' split at h) <;> first | (cases h; done) | exact ⟨_, _, _, _, _, rfl, h⟩ | (refine ⟨_, _, _, _, _, ?_, h⟩; simp only [*, if_true, if_false, Bool.false_eq_true, reduceIte]; done)
theorem x_k_bipush {r1 r2 : Nat} {val : Value} {pc : Nat} {L : List (Option x_V)} {S : List x_V} {sh : List mz_K} {E : List Nat} {kk : x_C} (h : x_h_bipush r1 r2 val pc L S sh E kk = true) : ∃ pc' L' S' sh' E', x_e_bipush r1 r2 val pc L S sh E = some (pc', L', S', sh', E') ∧ kk pc' L' S' sh' E' = true := by
  unfold x_h_bipush at h
  unfold x_e_bipush
  try simp only [x_fs_eq, x_gl_eq, x_cm] at h
  try simp only [x_fs_eq, x_gl_eq, x_cm]
  (repeat' split at h) <;> first | (cases h; done) | exact ⟨_, _, _, _, _, rfl, h⟩ | (refine ⟨_, _, _, _, _, ?_, h⟩; simp only [*, if_true, if_false, Bool.false_eq_true, reduceIte]; done)
theorem x_k_sipush {r1 r2 : Nat} {val : Value} {pc : Nat} {L : List (Option x_V)} {S : List x_V} {sh : List mz_K} {E : List Nat} {kk : x_C} (h : x_h_sipush r1 r2 val pc L S sh E kk = true) : ∃ pc' L' S' sh' E', x_e_sipush r1 r2 val pc L S sh E = some (pc', L', S', sh', E') ∧ kk pc' L' S' sh' E' = true := by
  unfold x_h_sipush at h
  unfold x_e_sipush
  try simp only [x_fs_eq, x_gl_eq, x_cm] at h
  try simp only [x_fs_eq, x_gl_eq, x_cm]
  (repeat' split at h) <;> first | (cases h; done) | exact ⟨_, _, _, _, _, rfl, h⟩ | (refine ⟨_, _, _, _, _, ?_, h⟩; simp only [*, if_true, if_false, Bool.false_eq_true, reduceIte]; done)
theorem x_k_ldc {r1 r2 : Nat} {val : Value} {pc : Nat} {L : List (Option x_V)} {S : List x_V} {sh : List mz_K} {E : List Nat} {kk : x_C} (h : x_h_ldc r1 r2 val pc L S sh E kk = true) : ∃ pc' L' S' sh' E', x_e_ldc r1 r2 val pc L S sh E = some (pc', L', S', sh', E') ∧ kk pc' L' S' sh' E' = true := by
  unfold x_h_ldc at h
  unfold x_e_ldc
  try simp only [x_fs_eq, x_gl_eq, x_cm] at h
  try simp only [x_fs_eq, x_gl_eq, x_cm]
  (repeat' split at h) <;> first | (cases h; done) | exact ⟨_, _, _, _, _, rfl, h⟩ | (refine ⟨_, _, _, _, _, ?_, h⟩; simp only [*, if_true, if_false, Bool.false_eq_true, reduceIte]; done)
theorem x_k_getstatic {r1 r2 : Nat} {val : Value} {pc : Nat} {L : List (Option x_V)} {S : List x_V} {sh : List mz_K} {E : List Nat} {kk : x_C} (h : x_h_getstatic r1 r2 val pc L S sh E kk = true) : ∃ pc' L' S' sh' E', x_e_getstatic r1 r2 val pc L S sh E = some (pc', L', S', sh', E') ∧ kk pc' L' S' sh' E' = true := by
  unfold x_h_getstatic at h
  unfold x_e_getstatic
  try simp only [x_fs_eq, x_gl_eq, x_cm] at h
  try simp only [x_fs_eq, x_gl_eq, x_cm]
  (repeat' split at h) <;> first | (cases h; done) | exact ⟨_, _, _, _, _, rfl, h⟩ | (refine ⟨_, _, _, _, _, ?_, h⟩; simp only [*, if_true, if_false, Bool.false_eq_true, reduceIte]; done)
theorem x_k_iadd {r1 r2 : Nat} {val : Value} {pc : Nat} {L : List (Option x_V)} {S : List x_V} {sh : List mz_K} {E : List Nat} {kk : x_C} (h : x_h_iadd r1 r2 val pc L S sh E kk = true) : ∃ pc' L' S' sh' E', x_e_iadd r1 r2 val pc L S sh E = some (pc', L', S', sh', E') ∧ kk pc' L' S' sh' E' = true := by
  unfold x_h_iadd at h
  unfold x_e_iadd
  try simp only [x_fs_eq, x_gl_eq, x_cm] at h
  try simp only [x_fs_eq, x_gl_eq, x_cm]
  (repeat' split at h) <;> first | (cases h; done) | exact ⟨_, _, _, _, _, rfl, h⟩ | (refine ⟨_, _, _, _, _, ?_, h⟩; simp only [*, if_true, if_false, Bool.false_eq_true, reduceIte]; done)
theorem x_k_isub {r1 r2 : Nat} {val : Value} {pc : Nat} {L : List (Option x_V)} {S : List x_V} {sh : List mz_K} {E : List Nat} {kk : x_C} (h : x_h_isub r1 r2 val pc L S sh E kk = true) : ∃ pc' L' S' sh' E', x_e_isub r1 r2 val pc L S sh E = some (pc', L', S', sh', E') ∧ kk pc' L' S' sh' E' = true := by
  unfold x_h_isub at h
  unfold x_e_isub
  try simp only [x_fs_eq, x_gl_eq, x_cm] at h
  try simp only [x_fs_eq, x_gl_eq, x_cm]
  (repeat' split at h) <;> first | (cases h; done) | exact ⟨_, _, _, _, _, rfl, h⟩ | (refine ⟨_, _, _, _, _, ?_, h⟩; simp only [*, if_true, if_false, Bool.false_eq_true, reduceIte]; done)
theorem x_k_imul {r1 r2 : Nat} {val : Value} {pc : Nat} {L : List (Option x_V)} {S : List x_V} {sh : List mz_K} {E : List Nat} {kk : x_C} (h : x_h_imul r1 r2 val pc L S sh E kk = true) : ∃ pc' L' S' sh' E', x_e_imul r1 r2 val pc L S sh E = some (pc', L', S', sh', E') ∧ kk pc' L' S' sh' E' = true := by
  unfold x_h_imul at h
  unfold x_e_imul
  try simp only [x_fs_eq, x_gl_eq, x_cm] at h
  try simp only [x_fs_eq, x_gl_eq, x_cm]
  (repeat' split at h) <;> first | (cases h; done) | exact ⟨_, _, _, _, _, rfl, h⟩ | (refine ⟨_, _, _, _, _, ?_, h⟩; simp only [*, if_true, if_false, Bool.false_eq_true, reduceIte]; done)
theorem x_k_iand {r1 r2 : Nat} {val : Value} {pc : Nat} {L : List (Option x_V)} {S : List x_V} {sh : List mz_K} {E : List Nat} {kk : x_C} (h : x_h_iand r1 r2 val pc L S sh E kk = true) : ∃ pc' L' S' sh' E', x_e_iand r1 r2 val pc L S sh E = some (pc', L', S', sh', E') ∧ kk pc' L' S' sh' E' = true := by
  unfold x_h_iand at h
  unfold x_e_iand
  try simp only [x_fs_eq, x_gl_eq, x_cm] at h
  try simp only [x_fs_eq, x_gl_eq, x_cm]
  (repeat' split at h) <;> first | (cases h; done) | exact ⟨_, _, _, _, _, rfl, h⟩ | (refine ⟨_, _, _, _, _, ?_, h⟩; simp only [*, if_true, if_false, Bool.false_eq_true, reduceIte]; done)
theorem x_k_ior {r1 r2 : Nat} {val : Value} {pc : Nat} {L : List (Option x_V)} {S : List x_V} {sh : List mz_K} {E : List Nat} {kk : x_C} (h : x_h_ior r1 r2 val pc L S sh E kk = true) : ∃ pc' L' S' sh' E', x_e_ior r1 r2 val pc L S sh E = some (pc', L', S', sh', E') ∧ kk pc' L' S' sh' E' = true := by
  unfold x_h_ior at h
  unfold x_e_ior
  try simp only [x_fs_eq, x_gl_eq, x_cm] at h
  try simp only [x_fs_eq, x_gl_eq, x_cm]
  (repeat' split at h) <;> first | (cases h; done) | exact ⟨_, _, _, _, _, rfl, h⟩ | (refine ⟨_, _, _, _, _, ?_, h⟩; simp only [*, if_true, if_false, Bool.false_eq_true, reduceIte]; done)
theorem x_k_ishl {r1 r2 : Nat} {val : Value} {pc : Nat} {L : List (Option x_V)} {S : List x_V} {sh : List mz_K} {E : List Nat} {kk : x_C} (h : x_h_ishl r1 r2 val pc L S sh E kk = true) : ∃ pc' L' S' sh' E', x_e_ishl r1 r2 val pc L S sh E = some (pc', L', S', sh', E') ∧ kk pc' L' S' sh' E' = true := by
  unfold x_h_ishl at h
  unfold x_e_ishl
  try simp only [x_fs_eq, x_gl_eq, x_cm] at h
  try simp only [x_fs_eq, x_gl_eq, x_cm]
  (repeat' split at h) <;> first | (cases h; done) | exact ⟨_, _, _, _, _, rfl, h⟩ | (refine ⟨_, _, _, _, _, ?_, h⟩; simp only [*, if_true, if_false, Bool.false_eq_true, reduceIte]; done)
theorem x_k_ishr {r1 r2 : Nat} {val : Value} {pc : Nat} {L : List (Option x_V)} {S : List x_V} {sh : List mz_K} {E : List Nat} {kk : x_C} (h : x_h_ishr r1 r2 val pc L S sh E kk = true) : ∃ pc' L' S' sh' E', x_e_ishr r1 r2 val pc L S sh E = some (pc', L', S', sh', E') ∧ kk pc' L' S' sh' E' = true := by
  unfold x_h_ishr at h
  unfold x_e_ishr
  try simp only [x_fs_eq, x_gl_eq, x_cm] at h
  try simp only [x_fs_eq, x_gl_eq, x_cm]
  (repeat' split at h) <;> first | (cases h; done) | exact ⟨_, _, _, _, _, rfl, h⟩ | (refine ⟨_, _, _, _, _, ?_, h⟩; simp only [*, if_true, if_false, Bool.false_eq_true, reduceIte]; done)
theorem x_k_ineg {r1 r2 : Nat} {val : Value} {pc : Nat} {L : List (Option x_V)} {S : List x_V} {sh : List mz_K} {E : List Nat} {kk : x_C} (h : x_h_ineg r1 r2 val pc L S sh E kk = true) : ∃ pc' L' S' sh' E', x_e_ineg r1 r2 val pc L S sh E = some (pc', L', S', sh', E') ∧ kk pc' L' S' sh' E' = true := by
  unfold x_h_ineg at h
  unfold x_e_ineg
  try simp only [x_fs_eq, x_gl_eq, x_cm] at h
  try simp only [x_fs_eq, x_gl_eq, x_cm]
  (repeat' split at h) <;> first | (cases h; done) | exact ⟨_, _, _, _, _, rfl, h⟩ | (refine ⟨_, _, _, _, _, ?_, h⟩; simp only [*, if_true, if_false, Bool.false_eq_true, reduceIte]; done)
theorem x_k_dup {r1 r2 : Nat} {val : Value} {pc : Nat} {L : List (Option x_V)} {S : List x_V} {sh : List mz_K} {E : List Nat} {kk : x_C} (h : x_h_dup r1 r2 val pc L S sh E kk = true) : ∃ pc' L' S' sh' E', x_e_dup r1 r2 val pc L S sh E = some (pc', L', S', sh', E') ∧ kk pc' L' S' sh' E' = true := by
  unfold x_h_dup at h
  unfold x_e_dup
  try simp only [x_fs_eq, x_gl_eq, x_cm] at h
  try simp only [x_fs_eq, x_gl_eq, x_cm]
  (repeat' split at h) <;> first | (cases h; done) | exact ⟨_, _, _, _, _, rfl, h⟩ | (refine ⟨_, _, _, _, _, ?_, h⟩; simp only [*, if_true, if_false, Bool.false_eq_true, reduceIte]; done)
theorem x_k_dup2 {r1 r2 : Nat} {val : Value} {pc : Nat} {L : List (Option x_V)} {S : List x_V} {sh : List mz_K} {E : List Nat} {kk : x_C} (h : x_h_dup2 r1 r2 val pc L S sh E kk = true) : ∃ pc' L' S' sh' E', x_e_dup2 r1 r2 val pc L S sh E = some (pc', L', S', sh', E') ∧ kk pc' L' S' sh' E' = true := by
  unfold x_h_dup2 at h
  unfold x_e_dup2
  try simp only [x_fs_eq, x_gl_eq, x_cm] at h
  try simp only [x_fs_eq, x_gl_eq, x_cm]
  (repeat' split at h) <;> first | (cases h; done) | exact ⟨_, _, _, _, _, rfl, h⟩ | (refine ⟨_, _, _, _, _, ?_, h⟩; simp only [*, if_true, if_false, Bool.false_eq_true, reduceIte]; done)
theorem x_k_pop {r1 r2 : Nat} {val : Value} {pc : Nat} {L : List (Option x_V)} {S : List x_V} {sh : List mz_K} {E : List Nat} {kk : x_C} (h : x_h_pop r1 r2 val pc L S sh E kk = true) : ∃ pc' L' S' sh' E', x_e_pop r1 r2 val pc L S sh E = some (pc', L', S', sh', E') ∧ kk pc' L' S' sh' E' = true := by
  unfold x_h_pop at h
  unfold x_e_pop
  try simp only [x_fs_eq, x_gl_eq, x_cm] at h
  try simp only [x_fs_eq, x_gl_eq, x_cm]
  (repeat' split at h) <;> first | (cases h; done) | exact ⟨_, _, _, _, _, rfl, h⟩ | (refine ⟨_, _, _, _, _, ?_, h⟩; simp only [*, if_true, if_false, Bool.false_eq_true, reduceIte]; done)
theorem x_k_goto {r1 r2 : Nat} {val : Value} {pc : Nat} {L : List (Option x_V)} {S : List x_V} {sh : List mz_K} {E : List Nat} {kk : x_C} (h : x_h_goto r1 r2 val pc L S sh E kk = true) : ∃ pc' L' S' sh' E', x_e_goto r1 r2 val pc L S sh E = some (pc', L', S', sh', E') ∧ kk pc' L' S' sh' E' = true := by
  unfold x_h_goto at h
  unfold x_e_goto
  try simp only [x_fs_eq, x_gl_eq, x_cm] at h
  try simp only [x_fs_eq, x_gl_eq, x_cm]
  (repeat' split at h) <;> first | (cases h; done) | exact ⟨_, _, _, _, _, rfl, h⟩ | (refine ⟨_, _, _, _, _, ?_, h⟩; simp only [*, if_true, if_false, Bool.false_eq_true, reduceIte]; done)
theorem x_k_ifCond_eq {r1 r2 : Nat} {val : Value} {pc : Nat} {L : List (Option x_V)} {S : List x_V} {sh : List mz_K} {E : List Nat} {kk : x_C} (h : x_h_ifCond_eq r1 r2 val pc L S sh E kk = true) : ∃ pc' L' S' sh' E', x_e_ifCond_eq r1 r2 val pc L S sh E = some (pc', L', S', sh', E') ∧ kk pc' L' S' sh' E' = true := by
  unfold x_h_ifCond_eq at h
  unfold x_e_ifCond_eq
  split at h
  · exact ⟨_, _, _, _, _, rfl, h⟩
  · cases h
theorem x_k_ifCond_ne {r1 r2 : Nat} {val : Value} {pc : Nat} {L : List (Option x_V)} {S : List x_V} {sh : List mz_K} {E : List Nat} {kk : x_C} (h : x_h_ifCond_ne r1 r2 val pc L S sh E kk = true) : ∃ pc' L' S' sh' E', x_e_ifCond_ne r1 r2 val pc L S sh E = some (pc', L', S', sh', E') ∧ kk pc' L' S' sh' E' = true := by
  unfold x_h_ifCond_ne at h
  unfold x_e_ifCond_ne
  split at h
  · exact ⟨_, _, _, _, _, rfl, h⟩
  · cases h
theorem x_k_ifCond_lt {r1 r2 : Nat} {val : Value} {pc : Nat} {L : List (Option x_V)} {S : List x_V} {sh : List mz_K} {E : List Nat} {kk : x_C} (h : x_h_ifCond_lt r1 r2 val pc L S sh E kk = true) : ∃ pc' L' S' sh' E', x_e_ifCond_lt r1 r2 val pc L S sh E = some (pc', L', S', sh', E') ∧ kk pc' L' S' sh' E' = true := by
  unfold x_h_ifCond_lt at h
  unfold x_e_ifCond_lt
  split at h
  · exact ⟨_, _, _, _, _, rfl, h⟩
  · cases h
theorem x_k_ifCond_ge {r1 r2 : Nat} {val : Value} {pc : Nat} {L : List (Option x_V)} {S : List x_V} {sh : List mz_K} {E : List Nat} {kk : x_C} (h : x_h_ifCond_ge r1 r2 val pc L S sh E kk = true) : ∃ pc' L' S' sh' E', x_e_ifCond_ge r1 r2 val pc L S sh E = some (pc', L', S', sh', E') ∧ kk pc' L' S' sh' E' = true := by
  unfold x_h_ifCond_ge at h
  unfold x_e_ifCond_ge
  split at h
  · exact ⟨_, _, _, _, _, rfl, h⟩
  · cases h
theorem x_k_ifCond_gt {r1 r2 : Nat} {val : Value} {pc : Nat} {L : List (Option x_V)} {S : List x_V} {sh : List mz_K} {E : List Nat} {kk : x_C} (h : x_h_ifCond_gt r1 r2 val pc L S sh E kk = true) : ∃ pc' L' S' sh' E', x_e_ifCond_gt r1 r2 val pc L S sh E = some (pc', L', S', sh', E') ∧ kk pc' L' S' sh' E' = true := by
  unfold x_h_ifCond_gt at h
  unfold x_e_ifCond_gt
  split at h
  · exact ⟨_, _, _, _, _, rfl, h⟩
  · cases h
theorem x_k_ifCond_le {r1 r2 : Nat} {val : Value} {pc : Nat} {L : List (Option x_V)} {S : List x_V} {sh : List mz_K} {E : List Nat} {kk : x_C} (h : x_h_ifCond_le r1 r2 val pc L S sh E kk = true) : ∃ pc' L' S' sh' E', x_e_ifCond_le r1 r2 val pc L S sh E = some (pc', L', S', sh', E') ∧ kk pc' L' S' sh' E' = true := by
  unfold x_h_ifCond_le at h
  unfold x_e_ifCond_le
  split at h
  · exact ⟨_, _, _, _, _, rfl, h⟩
  · cases h
theorem x_k_if_icmp_eq {r1 r2 : Nat} {val : Value} {pc : Nat} {L : List (Option x_V)} {S : List x_V} {sh : List mz_K} {E : List Nat} {kk : x_C} (h : x_h_if_icmp_eq r1 r2 val pc L S sh E kk = true) : ∃ pc' L' S' sh' E', x_e_if_icmp_eq r1 r2 val pc L S sh E = some (pc', L', S', sh', E') ∧ kk pc' L' S' sh' E' = true := by
  unfold x_h_if_icmp_eq at h
  unfold x_e_if_icmp_eq
  split at h
  · exact ⟨_, _, _, _, _, rfl, h⟩
  · cases h
theorem x_k_if_icmp_ne {r1 r2 : Nat} {val : Value} {pc : Nat} {L : List (Option x_V)} {S : List x_V} {sh : List mz_K} {E : List Nat} {kk : x_C} (h : x_h_if_icmp_ne r1 r2 val pc L S sh E kk = true) : ∃ pc' L' S' sh' E', x_e_if_icmp_ne r1 r2 val pc L S sh E = some (pc', L', S', sh', E') ∧ kk pc' L' S' sh' E' = true := by
  unfold x_h_if_icmp_ne at h
  unfold x_e_if_icmp_ne
  split at h
  · exact ⟨_, _, _, _, _, rfl, h⟩
  · cases h
theorem x_k_if_icmp_lt {r1 r2 : Nat} {val : Value} {pc : Nat} {L : List (Option x_V)} {S : List x_V} {sh : List mz_K} {E : List Nat} {kk : x_C} (h : x_h_if_icmp_lt r1 r2 val pc L S sh E kk = true) : ∃ pc' L' S' sh' E', x_e_if_icmp_lt r1 r2 val pc L S sh E = some (pc', L', S', sh', E') ∧ kk pc' L' S' sh' E' = true := by
  unfold x_h_if_icmp_lt at h
  unfold x_e_if_icmp_lt
  split at h
  · exact ⟨_, _, _, _, _, rfl, h⟩
  · cases h
theorem x_k_if_icmp_ge {r1 r2 : Nat} {val : Value} {pc : Nat} {L : List (Option x_V)} {S : List x_V} {sh : List mz_K} {E : List Nat} {kk : x_C} (h : x_h_if_icmp_ge r1 r2 val pc L S sh E kk = true) : ∃ pc' L' S' sh' E', x_e_if_icmp_ge r1 r2 val pc L S sh E = some (pc', L', S', sh', E') ∧ kk pc' L' S' sh' E' = true := by
  unfold x_h_if_icmp_ge at h
  unfold x_e_if_icmp_ge
  split at h
  · exact ⟨_, _, _, _, _, rfl, h⟩
  · cases h
theorem x_k_if_icmp_gt {r1 r2 : Nat} {val : Value} {pc : Nat} {L : List (Option x_V)} {S : List x_V} {sh : List mz_K} {E : List Nat} {kk : x_C} (h : x_h_if_icmp_gt r1 r2 val pc L S sh E kk = true) : ∃ pc' L' S' sh' E', x_e_if_icmp_gt r1 r2 val pc L S sh E = some (pc', L', S', sh', E') ∧ kk pc' L' S' sh' E' = true := by
  unfold x_h_if_icmp_gt at h
  unfold x_e_if_icmp_gt
  split at h
  · exact ⟨_, _, _, _, _, rfl, h⟩
  · cases h
theorem x_k_if_icmp_le {r1 r2 : Nat} {val : Value} {pc : Nat} {L : List (Option x_V)} {S : List x_V} {sh : List mz_K} {E : List Nat} {kk : x_C} (h : x_h_if_icmp_le r1 r2 val pc L S sh E kk = true) : ∃ pc' L' S' sh' E', x_e_if_icmp_le r1 r2 val pc L S sh E = some (pc', L', S', sh', E') ∧ kk pc' L' S' sh' E' = true := by
  unfold x_h_if_icmp_le at h
  unfold x_e_if_icmp_le
  split at h
  · exact ⟨_, _, _, _, _, rfl, h⟩
  · cases h
theorem x_k_getfield {r1 r2 : Nat} {val : Value} {pc : Nat} {L : List (Option x_V)} {S : List x_V} {sh : List mz_K} {E : List Nat} {kk : x_C} (h : x_h_getfield r1 r2 val pc L S sh E kk = true) : ∃ pc' L' S' sh' E', x_e_getfield r1 r2 val pc L S sh E = some (pc', L', S', sh', E') ∧ kk pc' L' S' sh' E' = true := by
  unfold x_h_getfield at h
  unfold x_e_getfield
  try simp only [x_fs_eq, x_gl_eq, x_cm] at h
  try simp only [x_fs_eq, x_gl_eq, x_cm]
  (repeat' split at h) <;> first | (cases h; done) | exact ⟨_, _, _, _, _, rfl, h⟩ | (refine ⟨_, _, _, _, _, ?_, h⟩; simp only [*, if_true, if_false, Bool.false_eq_true, reduceIte]; done)
theorem x_k_putfield {r1 r2 : Nat} {val : Value} {pc : Nat} {L : List (Option x_V)} {S : List x_V} {sh : List mz_K} {E : List Nat} {kk : x_C} (h : x_h_putfield r1 r2 val pc L S sh E kk = true) : ∃ pc' L' S' sh' E', x_e_putfield r1 r2 val pc L S sh E = some (pc', L', S', sh', E') ∧ kk pc' L' S' sh' E' = true := by
  unfold x_h_putfield at h
  unfold x_e_putfield
  try simp only [x_fs_eq, x_gl_eq, x_cm] at h
  try simp only [x_fs_eq, x_gl_eq, x_cm]
  (repeat' split at h) <;> first | (cases h; done) | exact ⟨_, _, _, _, _, rfl, h⟩ | (refine ⟨_, _, _, _, _, ?_, h⟩; simp only [*, if_true, if_false, Bool.false_eq_true, reduceIte]; done)
theorem x_k_baload {r1 r2 : Nat} {val : Value} {pc : Nat} {L : List (Option x_V)} {S : List x_V} {sh : List mz_K} {E : List Nat} {kk : x_C} (h : x_h_baload r1 r2 val pc L S sh E kk = true) : ∃ pc' L' S' sh' E', x_e_baload r1 r2 val pc L S sh E = some (pc', L', S', sh', E') ∧ kk pc' L' S' sh' E' = true := by
  unfold x_h_baload at h
  unfold x_e_baload
  try simp only [x_fs_eq, x_gl_eq, x_cm] at h
  try simp only [x_fs_eq, x_gl_eq, x_cm]
  (repeat' split at h) <;> first | (cases h; done) | exact ⟨_, _, _, _, _, rfl, h⟩ | (refine ⟨_, _, _, _, _, ?_, h⟩; simp only [*, if_true, if_false, Bool.false_eq_true, reduceIte]; done)
theorem x_k_iastore {r1 r2 : Nat} {val : Value} {pc : Nat} {L : List (Option x_V)} {S : List x_V} {sh : List mz_K} {E : List Nat} {kk : x_C} (h : x_h_iastore r1 r2 val pc L S sh E kk = true) : ∃ pc' L' S' sh' E', x_e_iastore r1 r2 val pc L S sh E = some (pc', L', S', sh', E') ∧ kk pc' L' S' sh' E' = true := by
  unfold x_h_iastore at h
  unfold x_e_iastore
  try simp only [x_fs_eq, x_gl_eq, x_cm] at h
  try simp only [x_fs_eq, x_gl_eq, x_cm]
  (repeat' split at h) <;> first | (cases h; done) | exact ⟨_, _, _, _, _, rfl, h⟩ | (refine ⟨_, _, _, _, _, ?_, h⟩; simp only [*, if_true, if_false, Bool.false_eq_true, reduceIte]; done)
theorem x_k_bastore {r1 r2 : Nat} {val : Value} {pc : Nat} {L : List (Option x_V)} {S : List x_V} {sh : List mz_K} {E : List Nat} {kk : x_C} (h : x_h_bastore r1 r2 val pc L S sh E kk = true) : ∃ pc' L' S' sh' E', x_e_bastore r1 r2 val pc L S sh E = some (pc', L', S', sh', E') ∧ kk pc' L' S' sh' E' = true := by
  unfold x_h_bastore at h
  unfold x_e_bastore
  try simp only [x_fs_eq, x_gl_eq, x_cm] at h
  try simp only [x_fs_eq, x_gl_eq, x_cm]
  (repeat' split at h) <;> first | (cases h; done) | exact ⟨_, _, _, _, _, rfl, h⟩ | (refine ⟨_, _, _, _, _, ?_, h⟩; simp only [*, if_true, if_false, Bool.false_eq_true, reduceIte]; done)
theorem x_k_newarray_int {r1 r2 : Nat} {val : Value} {pc : Nat} {L : List (Option x_V)} {S : List x_V} {sh : List mz_K} {E : List Nat} {kk : x_C} (h : x_h_newarray_int r1 r2 val pc L S sh E kk = true) : ∃ pc' L' S' sh' E', x_e_newarray_int r1 r2 val pc L S sh E = some (pc', L', S', sh', E') ∧ kk pc' L' S' sh' E' = true := by
  unfold x_h_newarray_int at h
  unfold x_e_newarray_int
  try simp only [x_fs_eq, x_gl_eq, x_cm] at h
  try simp only [x_fs_eq, x_gl_eq, x_cm]
  (repeat' split at h) <;> first | (cases h; done) | exact ⟨_, _, _, _, _, rfl, h⟩ | (refine ⟨_, _, _, _, _, ?_, h⟩; simp only [*, if_true, if_false, Bool.false_eq_true, reduceIte]; done)
theorem x_k_newarray_boolean {r1 r2 : Nat} {val : Value} {pc : Nat} {L : List (Option x_V)} {S : List x_V} {sh : List mz_K} {E : List Nat} {kk : x_C} (h : x_h_newarray_boolean r1 r2 val pc L S sh E kk = true) : ∃ pc' L' S' sh' E', x_e_newarray_boolean r1 r2 val pc L S sh E = some (pc', L', S', sh', E') ∧ kk pc' L' S' sh' E' = true := by
  unfold x_h_newarray_boolean at h
  unfold x_e_newarray_boolean
  try simp only [x_fs_eq, x_gl_eq, x_cm] at h
  try simp only [x_fs_eq, x_gl_eq, x_cm]
  (repeat' split at h) <;> first | (cases h; done) | exact ⟨_, _, _, _, _, rfl, h⟩ | (refine ⟨_, _, _, _, _, ?_, h⟩; simp only [*, if_true, if_false, Bool.false_eq_true, reduceIte]; done)
theorem x_k_new {r1 r2 : Nat} {val : Value} {pc : Nat} {L : List (Option x_V)} {S : List x_V} {sh : List mz_K} {E : List Nat} {kk : x_C} (h : x_h_new r1 r2 val pc L S sh E kk = true) : ∃ pc' L' S' sh' E', x_e_new r1 r2 val pc L S sh E = some (pc', L', S', sh', E') ∧ kk pc' L' S' sh' E' = true := by
  unfold x_h_new at h
  unfold x_e_new
  try simp only [x_fs_eq, x_gl_eq, x_cm] at h
  try simp only [x_fs_eq, x_gl_eq, x_cm]
  (repeat' split at h) <;> first | (cases h; done) | exact ⟨_, _, _, _, _, rfl, h⟩ | (refine ⟨_, _, _, _, _, ?_, h⟩; simp only [*, if_true, if_false, Bool.false_eq_true, reduceIte]; done)
theorem x_k_invokespecial {r1 r2 : Nat} {val : Value} {pc : Nat} {L : List (Option x_V)} {S : List x_V} {sh : List mz_K} {E : List Nat} {kk : x_C} (h : x_h_invokespecial r1 r2 val pc L S sh E kk = true) : ∃ pc' L' S' sh' E', x_e_invokespecial r1 r2 val pc L S sh E = some (pc', L', S', sh', E') ∧ kk pc' L' S' sh' E' = true := by
  unfold x_h_invokespecial at h
  unfold x_e_invokespecial
  try simp only [x_fs_eq, x_gl_eq, x_cm] at h
  try simp only [x_fs_eq, x_gl_eq, x_cm]
  (repeat' split at h) <;> first | (cases h; done) | exact ⟨_, _, _, _, _, rfl, h⟩ | (refine ⟨_, _, _, _, _, ?_, h⟩; simp only [*, if_true, if_false, Bool.false_eq_true, reduceIte]; done)
