/-! the fast machine: frames, calls and returns -/
abbrev x_F : Type := Nat × Nat × List (Option x_V) × List x_V
abbrev x_S : Type := List x_F × List mz_K × List Nat
def x_L0 (n : Nat) (vs : List x_V) : List (Option x_V) := vs.map some ++ List.replicate (n - vs.length) none
def x_isr : Instr → Bool
  | .ireturn => true
  | .return_ => true
  | .areturn => true
  | _ => false
def x_stp : x_S → Option x_S
  | ([], _, _) => none
  | ((i, pc, L, S) :: fs, sh, E) => match mz_md[i]? with
    | none => none
    | some M => match mz_at M.2.2.2.2.2.2 pc with
      | none => none
      | some (ins, _, r1, r2, val) => bif x_isr ins then (match fs with
          | [] => none
          | (i2, pc2, L2, S2) :: fs' => (match mz_rt M.2.2.2.1 ins (x_mS S) with
            | some (some none) => some ((i2, pc2, L2, S2) :: fs', sh, E)
            | some (some (some _)) => (match S with
              | v :: _ => some ((i2, pc2, L2, v :: S2) :: fs', sh, E)
              | [] => none)
            | _ => none))
        else bif mz_isc ins r1 then (bif mz_cok ins r2 val (x_mL L) (x_mS S) sh then (match mz_md[r1]? with
            | none => none
            | some N => bif Nat.ble r2 N.2.2.1 then some ((r1, 0, x_L0 N.2.2.1 (S.take r2).reverse, []) :: (i, pc + 3, L, S.drop r2) :: fs, sh, E) else none) else none)
        else (match x_op ins with
         | none => none
         | some g => match g r1 r2 val pc L S sh E with
          | none => none
          | some (pc', L', S', sh', E') => x_fs pc' (fun pc'' => some ((i, pc'', L', S') :: fs, sh', E')))
def x_K (X : mz_X) (Q : Option Value → List mz_K → mz_M → Prop) : List x_F → Option Value → List mz_K → mz_M → Prop
  | [] => Q
  | f :: fs => fun v sh m => mz_go X f.1 f.2.1 (x_mL f.2.2.1) (v.toList ++ x_mS f.2.2.2) sh m (x_K X Q fs)
def x_ok (X : mz_X) (Q : Option Value → List mz_K → mz_M → Prop) (s : x_S) : Prop :=
  match s.1 with
  | [] => False
  | f :: fs => mz_go X f.1 f.2.1 (x_mL f.2.2.1) (x_mS f.2.2.2) s.2.1 (x_dm s.2.2) (x_K X Q fs)
theorem x_en (vs : List x_V) : mz_en (x_mS vs) = x_mL (vs.map some) := by
  induction vs with
  | nil => rfl
  | cons v t ih =>
    cases v with
    | inl u => show some _ :: mz_en (x_mS t) = _; rw [ih]; rfl
    | inr u => show some _ :: mz_en (x_mS t) = _; rw [ih]; rfl
theorem x_L0_eq (n : Nat) (vs : List x_V) : mz_L0 n (x_mS vs) = x_mL (x_L0 n vs) := by
  unfold mz_L0 x_L0
  rw [x_en]
  unfold x_mL
  rw [List.map_append, List.map_replicate, List.length_map, List.length_map]
  rfl
theorem x_rt_S {ret : Option FieldType} {ins : Instr} {S : List Value} {w : Value} (h : mz_rt ret ins S = some (some (some w))) : S = [w] := by
  unfold mz_rt at h
  split at h
  · split at h
    · cases h; rfl
    · obtain h | h := Bool.eq_false_or_eq_true (decide (_ = (0 : Int32)) || decide (_ = (1 : Int32))) |>.elim (fun e => Or.inl (by rw [e] at h; exact h)) (fun e => Or.inr (by rw [e] at h; exact h))
      · cases h; rfl
      · cases h
    · rename_i v
      cases hb : decide (narrow .char (.int v) = .int v) with
      | true => rw [hb] at h; cases h; rfl
      | false => rw [hb] at h; cases h
    · rename_i v
      cases hb : decide (narrow .byte (.int v) = .int v) with
      | true => rw [hb] at h; cases h; rfl
      | false => rw [hb] at h; cases h
    · cases h
  · split at h <;> cases h
  · split at h <;> cases h
    rfl
  · cases h
theorem x_stp_ok {X : mz_X} {Q : Option Value → List mz_K → mz_M → Prop} {s s' : x_S} (h : x_stp s = some s') (hk : x_ok X Q s') : x_ok X Q s := by
  obtain ⟨fr, sh, E⟩ := s
  cases fr with
  | nil => cases h
  | cons f fs =>
    obtain ⟨i, pc, L, S⟩ := f
    show mz_go X i pc (x_mL L) (x_mS S) sh (x_dm E) (x_K X Q fs)
    unfold x_stp at h
    simp only at h
    cases hM : mz_md[i]? with
    | none => rw [hM] at h; cases h
    | some M =>
      rw [hM] at h
      simp only at h
      cases hat : mz_at M.2.2.2.2.2.2 pc with
      | none => rw [hat] at h; cases h
      | some q =>
        obtain ⟨ins, len, r1, r2, val⟩ := q
        rw [hat] at h
        simp only at h
        cases hr : x_isr ins with
        | true =>
          rw [hr] at h
          simp only [cond_true] at h
          cases fs with
          | nil => cases h
          | cons g fs' =>
            obtain ⟨i2, pc2, L2, S2⟩ := g
            simp only at h
            cases ht : mz_rt M.2.2.2.1 ins (x_mS S) with
            | none => rw [ht] at h; cases h
            | some o =>
              rw [ht] at h
              cases o with
              | none => cases h
              | some v =>
                refine mz_go_ret M hM hat ht ?_
                cases v with
                | none => cases h; exact hk
                | some w =>
                  have hS := x_rt_S ht
                  cases S with
                  | nil => cases hS
                  | cons v t =>
                    cases h
                    have : t = [] := by
                      cases t with
                      | nil => rfl
                      | cons a b => cases hS
                    subst this
                    have hw : x_dv v = w := (List.cons.inj hS).1
                    subst hw
                    exact hk
        | false =>
          rw [hr] at h
          simp only [cond_false] at h
          cases hc : mz_isc ins r1 with
          | true =>
            rw [hc] at h
            simp only [cond_true] at h
            obtain ⟨hck, h⟩ := x_bt h
            cases hN : mz_md[r1]? with
            | none => rw [hN] at h; cases h
            | some N =>
              rw [hN] at h
              simp only at h
              obtain ⟨hle, h⟩ := x_bt h
              cases h
              have e1 : ((x_mS S).take r2).reverse = x_mS ((S.take r2).reverse) := by
                unfold x_mS
                rw [List.map_reverse, List.map_take]
              have e2 : (x_mS S).drop r2 = x_mS (S.drop r2) := by
                unfold x_mS
                rw [List.map_drop]
              refine mz_go_call M N (Q1 := x_K X Q ((i, pc + 3, L, S.drop r2) :: fs)) hM hat hc hck hN ?_ (by rw [e1]; exact x_L0_eq _ _) hk ?_
              · rw [e1, x_en]
                unfold x_mL
                rw [List.length_map, List.length_map, List.length_reverse]
                refine Nat.ble_eq_true_of_le (Nat.le_trans ?_ (Nat.le_of_ble_eq_true hle))
                rw [List.length_take]
                exact Nat.min_le_left _ _
              · intro v sh' m' hv
                rw [e2]
                exact hv
          | false =>
            rw [hc] at h
            simp only [cond_false] at h
            cases hg : x_op ins with
            | none => rw [hg] at h; cases h
            | some g =>
             rw [hg] at h
             simp only at h
             cases hx : g r1 r2 val pc L S sh E with
             | none => rw [hx] at h; cases h
             | some q =>
              obtain ⟨pc', L', S', sh', E'⟩ := q
              rw [hx] at h
              simp only [x_fs_eq] at h
              cases h
              have hx' := x_ex_ok (X := X) (x_op_ok hg hx)
              refine mz_go_blk M 1 hM (g := true) (pc' := pc') (L' := x_mL L') (S' := x_mS S') (sh' := sh') (m' := x_dm E') ?_ rfl hk
              simp only [mz_blk, hat, hx', Bool.and_self]
/-- 2 ^ k instructions -/
def x_d : Nat → x_S → Option x_S
  | 0, s => x_stp s
  | k + 1, s => match x_d k s with
    | none => none
    | some s' => x_d k s'
theorem x_d_ok {X : mz_X} {Q : Option Value → List mz_K → mz_M → Prop} (k : Nat) : ∀ {s s' : x_S}, x_d k s = some s' → x_ok X Q s' → x_ok X Q s := by
  induction k with
  | zero => intro s s' h; exact x_stp_ok h
  | succ k ih =>
    intro s s' h hk
    simp only [x_d] at h
    cases h1 : x_d k s with
    | none => rw [h1] at h; cases h
    | some s1 => rw [h1] at h; exact ih h1 (ih h hk)
/-- rows are laid out before they go on -/
def x_fl {α β : Type} : List α → (List α → β) → β
  | [], k => k []
  | a :: t, k => x_fl t (fun t' => k (a :: t'))
theorem x_fl_eq {α β : Type} (l : List α) : ∀ (k : List α → β), x_fl l k = k l := by
  induction l with
  | nil => intro k; rfl
  | cons a t ih => intro k; simp only [x_fl]; rw [ih]
def x_ff {β : Type} : List x_F → (List x_F → β) → β
  | [], k => k []
  | (i, pc, L, S) :: t, k => x_fl L (fun L' => x_fl S (fun S' => x_ff t (fun t' => k ((i, pc, L', S') :: t'))))
theorem x_ff_eq {β : Type} (l : List x_F) : ∀ (k : List x_F → β), x_ff l k = k l := by
  induction l with
  | nil => intro k; rfl
  | cons a t ih =>
    intro k
    obtain ⟨i, pc, L, S⟩ := a
    simp only [x_ff]
    rw [x_fl_eq, x_fl_eq, ih]
def x_fe {β : Type} : List Nat → (List Nat → β) → β
  | [], k => k []
  | a :: t, k => x_fs a (fun a' => x_fe t (fun t' => k (a' :: t')))
theorem x_fe_eq {β : Type} (l : List Nat) : ∀ (k : List Nat → β), x_fe l k = k l := by
  induction l with
  | nil => intro k; rfl
  | cons a t ih =>
    intro k
    simp only [x_fe]
    rw [x_fs_eq, ih]
/-- n times 64 instructions -/
def x_c : Nat → x_S → Option x_S
  | 0, s => some s
  | n + 1, s => match x_d 6 s with
    | none => none
    | some (fr, sh, E) => x_ff fr (fun fr' => x_fl sh (fun sh' => x_fe E (fun E' => x_c n (fr', sh', E'))))
theorem x_c_ok {X : mz_X} {Q : Option Value → List mz_K → mz_M → Prop} (n : Nat) : ∀ {s s' : x_S}, x_c n s = some s' → x_ok X Q s' → x_ok X Q s := by
  induction n with
  | zero => intro s s' h hk; cases h; exact hk
  | succ n ih =>
    intro s s' h hk
    simp only [x_c] at h
    cases h1 : x_d 6 s with
    | none => rw [h1] at h; cases h
    | some s1 =>
      obtain ⟨fr, sh, E⟩ := s1
      rw [h1] at h
      simp only [x_ff_eq, x_fl_eq, x_fe_eq] at h
      exact x_d_ok 6 h1 (ih h hk)
def x_b0 : x_S := ([(0, 0, [some (.inr 350), none, none, none], [])], [], [])
