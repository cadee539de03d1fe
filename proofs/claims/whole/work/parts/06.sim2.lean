theorem mz_lko (pc : Nat) (d x : Int) (ps : List (Int × Int)) (h2 : 0 ≤ (pc : Int) + d) (h3 : ps.all (fun q => decide (0 ≤ (pc : Int) + q.2)) = true) : 0 ≤ (pc : Int) + Op.lookupswitch.offset ps d x := by
  induction ps with
  | nil => simpa [Op.lookupswitch.offset] using h2
  | cons q t ih =>
    simp only [List.all_cons, Bool.and_eq_true, decide_eq_true_eq] at h3
    simp only [Op.lookupswitch.offset]
    split <;> first | exact h3.1 | exact ih h3.2 | (split <;> first | exact h3.1 | exact ih h3.2 | exact h2) | exact h2
section
variable {p : Program} {l : Launch} {e : Env} {R : Room} {s : State} {m : MethodId} {args : Array Value} {below : List Frame} {meth : Method} {c : Code} {Q : State → Prop} {H : Heap} {locs : List Loc} {cells slots : Nat}
variable {X : mz_X} {M : mz_D} {D : va_G} {cy : FieldType → ClassId} {A : Nat → Prop} {ov : Nat → Value} {ad : Nat → Nat}
variable {pc : Nat} {ls : Array Slot} {L : mz_L} {S : List Value} {sh : List mz_K} {mm : mz_M}
set_option maxHeartbeats 4000000 in
/-- numbers, the stack, branches -/
theorem mz_s_num (hx : p.tables.exec = Jvm.exec) (hb : c.code = M.2.1) (ho : ∀ j, ov j = .null ∨ ∃ t, ov j = .ref t) {ins : Instr} {len r1 r2 : Nat} {val : Value} (hd : decode M.2.1 pc = .ok (ins, len)) (hln : mz_ln ins = 0 ∨ len = mz_ln ins) (hck : mz_ck M pc ins r1 r2 val = true) (hR : mz_Rl D cy A s H locs ad sh mm) (hl : lv_has ls M.2.2.1 (mz_lv (mz_v ad ov) 0 L)) {st : mz_S} (he : mz_ex X ins r1 r2 val pc L S sh mm = some (true, st))
    (hg : match ins with | .iadd | .isub | .imul | .idiv | .irem | .ineg | .iand | .ior | .ishl | .ishr | .i2b | .i2c | .i2l | .l2i | .land | .lor | .lshl | .lushr | .lcmp | .dup | .dup2 | .pop | .goto _ | .ifCond _ _ | .if_icmp _ _ | .tableswitch _ _ _ _ | .lookupswitch _ _ => True | _ => False)
    (kk : mz_K1 p l e R s m args below meth c Q M D cy A ov ad sh cells slots st) : W p l e R s m args below meth c H locs cells slots Q (F0 m pc ls (S.map (mz_v ad ov))) := by
  cases ins with
  | iadd =>
    cases S with
    | nil => cases he
    | cons v2 S =>
      cases v2 with
      | int x2 =>
        cases S with
        | nil => cases he
        | cons v1 S =>
          cases v1 with
          | int x1 =>
            cases he
            have e1 : len = 1 := by simpa [mz_ln] using hln
            subst e1
            exact lv_iadd hx hb hd (mz_K1.same kk hR hl)
          | _ => cases he
      | _ => cases he
  | isub =>
    cases S with
    | nil => cases he
    | cons v2 S =>
      cases v2 with
      | int x2 =>
        cases S with
        | nil => cases he
        | cons v1 S =>
          cases v1 with
          | int x1 =>
            cases he
            have e1 : len = 1 := by simpa [mz_ln] using hln
            subst e1
            exact lv_isub hx hb hd (mz_K1.same kk hR hl)
          | _ => cases he
      | _ => cases he
  | imul =>
    cases S with
    | nil => cases he
    | cons v2 S =>
      cases v2 with
      | int x2 =>
        cases S with
        | nil => cases he
        | cons v1 S =>
          cases v1 with
          | int x1 =>
            cases he
            have e1 : len = 1 := by simpa [mz_ln] using hln
            subst e1
            exact lv_imul hx hb hd (mz_K1.same kk hR hl)
          | _ => cases he
      | _ => cases he
  | iand =>
    cases S with
    | nil => cases he
    | cons v2 S =>
      cases v2 with
      | int x2 =>
        cases S with
        | nil => cases he
        | cons v1 S =>
          cases v1 with
          | int x1 =>
            cases he
            have e1 : len = 1 := by simpa [mz_ln] using hln
            subst e1
            exact lv_iand hx hb hd (mz_K1.same kk hR hl)
          | _ => cases he
      | _ => cases he
  | ior =>
    cases S with
    | nil => cases he
    | cons v2 S =>
      cases v2 with
      | int x2 =>
        cases S with
        | nil => cases he
        | cons v1 S =>
          cases v1 with
          | int x1 =>
            cases he
            have e1 : len = 1 := by simpa [mz_ln] using hln
            subst e1
            exact lv_ior hx hb hd (mz_K1.same kk hR hl)
          | _ => cases he
      | _ => cases he
  | ishl =>
    cases S with
    | nil => cases he
    | cons v2 S =>
      cases v2 with
      | int x2 =>
        cases S with
        | nil => cases he
        | cons v1 S =>
          cases v1 with
          | int x1 =>
            cases he
            have e1 : len = 1 := by simpa [mz_ln] using hln
            subst e1
            exact lv_ishl hx hb hd (mz_K1.same kk hR hl)
          | _ => cases he
      | _ => cases he
  | ishr =>
    cases S with
    | nil => cases he
    | cons v2 S =>
      cases v2 with
      | int x2 =>
        cases S with
        | nil => cases he
        | cons v1 S =>
          cases v1 with
          | int x1 =>
            cases he
            have e1 : len = 1 := by simpa [mz_ln] using hln
            subst e1
            exact lv_ishr hx hb hd (mz_K1.same kk hR hl)
          | _ => cases he
      | _ => cases he
  | idiv =>
    cases S with
    | nil => cases he
    | cons v2 S =>
      cases v2 with
      | int x2 =>
        cases S with
        | nil => cases he
        | cons v1 S =>
          cases v1 with
          | int x1 =>
            have hz : ¬ x2 = 0 := by
              simp only [mz_ex, Option.some.injEq, Prod.mk.injEq, Bool.not_eq_true', decide_eq_false_iff_not] at he
              exact he.1
            simp only [mz_ex, hz, decide_false, Bool.not_false] at he
            cases he
            have e1 : len = 1 := by simpa [mz_ln] using hln
            subst e1
            exact lv_idiv hx hb hd hz (mz_K1.same kk hR hl)
          | _ => cases he
      | _ => cases he
  | irem =>
    cases S with
    | nil => cases he
    | cons v2 S =>
      cases v2 with
      | int x2 =>
        cases S with
        | nil => cases he
        | cons v1 S =>
          cases v1 with
          | int x1 =>
            have hz : ¬ x2 = 0 := by
              simp only [mz_ex, Option.some.injEq, Prod.mk.injEq, Bool.not_eq_true', decide_eq_false_iff_not] at he
              exact he.1
            simp only [mz_ex, hz, decide_false, Bool.not_false] at he
            cases he
            have e1 : len = 1 := by simpa [mz_ln] using hln
            subst e1
            exact lv_irem hx hb hd hz (mz_K1.same kk hR hl)
          | _ => cases he
      | _ => cases he
  | ineg =>
    cases S with
    | nil => cases he
    | cons v1 S =>
      cases v1 with
      | int x1 =>
        cases he
        have e1 : len = 1 := by simpa [mz_ln] using hln
        subst e1
        exact lv_ineg hx hb hd (mz_K1.same kk hR hl)
      | _ => cases he
  | i2b =>
    cases S with
    | nil => cases he
    | cons v1 S =>
      cases v1 with
      | int x1 =>
        cases he
        have e1 : len = 1 := by simpa [mz_ln] using hln
        subst e1
        exact lv_i2b hx hb hd rfl (mz_K1.same kk hR hl)
      | _ => cases he
  | i2c =>
    cases S with
    | nil => cases he
    | cons v1 S =>
      cases v1 with
      | int x1 =>
        cases he
        have e1 : len = 1 := by simpa [mz_ln] using hln
        subst e1
        exact lv_i2c hx hb hd rfl (mz_K1.same kk hR hl)
      | _ => cases he
  | i2l =>
    cases S with
    | nil => cases he
    | cons v1 S =>
      cases v1 with
      | int x1 =>
        cases he
        have e1 : len = 1 := by simpa [mz_ln] using hln
        subst e1
        exact lv_i2l hx hb hd rfl (mz_K1.same kk hR hl)
      | _ => cases he
  | l2i =>
    cases S with
    | nil => cases he
    | cons v1 S =>
      cases v1 with
      | long x1 =>
        cases he
        have e1 : len = 1 := by simpa [mz_ln] using hln
        subst e1
        exact lv_l2i hx hb hd rfl (mz_K1.same kk hR hl)
      | _ => cases he
  | land =>
    cases S with
    | nil => cases he
    | cons v2 S =>
      cases v2 with
      | long x2 =>
        cases S with
        | nil => cases he
        | cons v1 S =>
          cases v1 with
          | long x1 =>
            cases he
            have e1 : len = 1 := by simpa [mz_ln] using hln
            subst e1
            exact lv_land hx hb hd (mz_K1.same kk hR hl)
          | _ => cases he
      | _ => cases he
  | lor =>
    cases S with
    | nil => cases he
    | cons v2 S =>
      cases v2 with
      | long x2 =>
        cases S with
        | nil => cases he
        | cons v1 S =>
          cases v1 with
          | long x1 =>
            cases he
            have e1 : len = 1 := by simpa [mz_ln] using hln
            subst e1
            exact lv_lor hx hb hd (mz_K1.same kk hR hl)
          | _ => cases he
      | _ => cases he
  | lshl =>
    cases S with
    | nil => cases he
    | cons v2 S =>
      cases v2 with
      | int x2 =>
        cases S with
        | nil => cases he
        | cons v1 S =>
          cases v1 with
          | long x1 =>
            cases he
            have e1 : len = 1 := by simpa [mz_ln] using hln
            subst e1
            exact lv_lshl hx hb hd rfl (mz_K1.same kk hR hl)
          | _ => cases he
      | _ => cases he
  | lushr =>
    cases S with
    | nil => cases he
    | cons v2 S =>
      cases v2 with
      | int x2 =>
        cases S with
        | nil => cases he
        | cons v1 S =>
          cases v1 with
          | long x1 =>
            cases he
            have e1 : len = 1 := by simpa [mz_ln] using hln
            subst e1
            exact lv_lushr hx hb hd rfl (mz_K1.same kk hR hl)
          | _ => cases he
      | _ => cases he
  | lcmp =>
    cases S with
    | nil => cases he
    | cons v2 S =>
      cases v2 with
      | long x2 =>
        cases S with
        | nil => cases he
        | cons v1 S =>
          cases v1 with
          | long x1 =>
            cases he
            have e1 : len = 1 := by simpa [mz_ln] using hln
            subst e1
            exact W.lcmp hx hb hd (mz_K1.same kk hR hl)
          | _ => cases he
      | _ => cases he
  | dup =>
    cases S with
    | nil => cases he
    | cons v S =>
      cases v with
      | int x =>
        cases he
        have e1 : len = 1 := by simpa [mz_ln] using hln
        subst e1
        exact lv_dup hx hb hd (by rw [mz_v_cat ad ho]; rfl) (mz_K1.same kk hR hl)
      | ref x =>
        cases he
        have e1 : len = 1 := by simpa [mz_ln] using hln
        subst e1
        exact lv_dup hx hb hd (by rw [mz_v_cat ad ho]; rfl) (mz_K1.same kk hR hl)
      | _ => cases he
  | pop =>
    cases S with
    | nil => cases he
    | cons v S =>
      cases v with
      | int x =>
        cases he
        have e1 : len = 1 := by simpa [mz_ln] using hln
        subst e1
        exact lv_pop hx hb hd (by rw [mz_v_cat ad ho]; rfl) (mz_K1.same kk hR hl)
      | ref x =>
        cases he
        have e1 : len = 1 := by simpa [mz_ln] using hln
        subst e1
        exact lv_pop hx hb hd (by rw [mz_v_cat ad ho]; rfl) (mz_K1.same kk hR hl)
      | _ => cases he
  | dup2 =>
    cases S with
    | nil => cases he
    | cons v2 S =>
      cases v2 with
      | int x2 =>
        cases S with
        | nil => cases he
        | cons v1 S =>
          cases v1 with
          | ref x1 =>
            cases he
            have e1 : len = 1 := by simpa [mz_ln] using hln
            subst e1
            exact lv_dup2_11 hx hb hd (by rw [mz_v_cat ad ho]; rfl) (by rw [mz_v_cat ad ho]; rfl) (mz_K1.same kk hR hl)
          | _ => cases he
      | _ => cases he
  | goto off =>
    cases he
    have e1 : len = 3 := by simpa [mz_ln] using hln
    subst e1
    simp only [mz_ck, decide_eq_true_eq] at hck
    exact lv_goto hx hb hd hck (mz_K1.same kk hR hl)
  | ifCond cnd off =>
    cases S with
    | nil => cases he
    | cons v1 S =>
      cases v1 with
      | int x1 =>
        have hck2 : (pc : Int) + off = (r1 : Int) := of_decide_eq_true hck
        have e1 : len = 3 := by simpa [mz_ln] using hln
        subst e1
        cases cnd with
        | eq =>
          cases he
          refine lv_if_eq hx hb hd hck2 (fun h => ?_) (fun h => ?_)
          · have g := mz_K1.same kk hR hl
            rw [if_pos h] at g
            exact g
          · have g := mz_K1.same kk hR hl
            rw [if_neg h] at g
            exact g
        | ne =>
          cases he
          refine lv_if_ne hx hb hd hck2 (fun h => ?_) (fun h => ?_)
          · have g := mz_K1.same kk hR hl
            rw [if_neg h] at g
            exact g
          · have g := mz_K1.same kk hR hl
            rw [if_pos h] at g
            exact g
        | lt =>
          cases he
          refine lv_if_lt hx hb hd hck2 (fun h => ?_) (fun h => ?_)
          · have g := mz_K1.same kk hR hl
            rw [if_pos h] at g
            exact g
          · have g := mz_K1.same kk hR hl
            rw [if_neg h] at g
            exact g
        | ge =>
          cases he
          refine lv_if_ge hx hb hd hck2 (fun h => ?_) (fun h => ?_)
          · have g := mz_K1.same kk hR hl
            rw [if_pos h] at g
            exact g
          · have g := mz_K1.same kk hR hl
            rw [if_neg h] at g
            exact g
        | gt =>
          cases he
          refine lv_if_gt hx hb hd hck2 (fun h => ?_) (fun h => ?_)
          · have g := mz_K1.same kk hR hl
            rw [if_pos h] at g
            exact g
          · have g := mz_K1.same kk hR hl
            rw [if_neg h] at g
            exact g
        | le =>
          cases he
          refine lv_if_le hx hb hd hck2 (fun h => ?_) (fun h => ?_)
          · have g := mz_K1.same kk hR hl
            rw [if_pos h] at g
            exact g
          · have g := mz_K1.same kk hR hl
            rw [if_neg h] at g
            exact g
      | _ => cases he
  | if_icmp cnd off =>
    cases S with
    | nil => cases he
    | cons v2 S =>
      cases v2 with
      | int x2 =>
        cases S with
        | nil => cases he
        | cons v1 S =>
          cases v1 with
          | int x1 =>
            have hck2 : (pc : Int) + off = (r1 : Int) := of_decide_eq_true hck
            have e1 : len = 3 := by simpa [mz_ln] using hln
            subst e1
            cases cnd with
            | eq =>
              cases he
              refine lv_icmp_eq hx hb hd hck2 (fun h => ?_) (fun h => ?_)
              · have g := mz_K1.same kk hR hl
                rw [if_pos h] at g
                exact g
              · have g := mz_K1.same kk hR hl
                rw [if_neg h] at g
                exact g
            | ne =>
              cases he
              refine lv_icmp_ne hx hb hd hck2 (fun h => ?_) (fun h => ?_)
              · have g := mz_K1.same kk hR hl
                rw [if_neg h] at g
                exact g
              · have g := mz_K1.same kk hR hl
                rw [if_pos h] at g
                exact g
            | lt =>
              cases he
              refine lv_icmp_lt hx hb hd hck2 (fun h => ?_) (fun h => ?_)
              · have g := mz_K1.same kk hR hl
                rw [if_pos h] at g
                exact g
              · have g := mz_K1.same kk hR hl
                rw [if_neg h] at g
                exact g
            | ge =>
              cases he
              refine lv_icmp_ge hx hb hd hck2 (fun h => ?_) (fun h => ?_)
              · have g := mz_K1.same kk hR hl
                rw [if_pos h] at g
                exact g
              · have g := mz_K1.same kk hR hl
                rw [if_neg h] at g
                exact g
            | gt =>
              cases he
              refine lv_icmp_gt hx hb hd hck2 (fun h => ?_) (fun h => ?_)
              · have g := mz_K1.same kk hR hl
                rw [if_pos h] at g
                exact g
              · have g := mz_K1.same kk hR hl
                rw [if_neg h] at g
                exact g
            | le =>
              cases he
              refine lv_icmp_le hx hb hd hck2 (fun h => ?_) (fun h => ?_)
              · have g := mz_K1.same kk hR hl
                rw [if_pos h] at g
                exact g
              · have g := mz_K1.same kk hR hl
                rw [if_neg h] at g
                exact g
          | _ => cases he
      | _ => cases he
  | tableswitch d lo hi offs =>
    cases S with
    | nil => cases he
    | cons v1 S =>
      cases v1 with
      | int x1 =>
        cases he
        simp only [mz_ck, Bool.and_eq_true, decide_eq_true_eq] at hck
        obtain ⟨h1, h2, h3⟩ := hck
        have g := mz_K1.same kk hR hl
        by_cases q1 : x1.toInt < lo
        · simp only [mz_tsw, if_pos q1] at g
          exact lv_tableOut hx hb hd (Or.inl q1) (by omega) g
        · by_cases q2 : hi < x1.toInt
          · simp only [mz_tsw, if_neg q1, if_pos q2] at g
            exact lv_tableOut hx hb hd (Or.inr q2) (by omega) g
          · simp only [mz_tsw, if_neg q1, if_neg q2] at g
            have hlt : (x1.toInt - lo).toNat < offs.size := by omega
            have ho2 : offs[(x1.toInt - lo).toNat]? = some (offs[(x1.toInt - lo).toNat]'hlt) := Array.getElem?_eq_getElem hlt
            rw [ho2] at g
            have h4 := List.all_eq_true.mp h2 (offs[(x1.toInt - lo).toNat]'hlt) (Array.getElem_mem_toList hlt)
            simp only [decide_eq_true_eq] at h4
            exact lv_tableIn (tgt := ((pc : Int) + (offs[(x1.toInt - lo).toNat]'hlt)).toNat) hx hb hd q1 q2 ho2 (by omega) g
      | _ => cases he
  | lookupswitch d ps =>
    cases S with
    | nil => cases he
    | cons v1 S =>
      cases v1 with
      | int x1 =>
        cases he
        simp only [mz_ck, Bool.and_eq_true, decide_eq_true_eq] at hck
        obtain ⟨h1, h2, h3⟩ := hck
        have g := mz_K1.same kk hR hl
        have h5 : 0 ≤ (pc : Int) + Op.lookupswitch.offset ps.toList d x1.toInt := mz_lko _ _ _ _ h2 h3
        exact lv_lookup hx hb hd h1 rfl (by omega) g
      | _ => cases he
  | _ => exact absurd hg (by simp)
end
