section
variable {p : Program} {l : Launch} {e : Env} {R : Room} {s : State} {m : MethodId} {args : Array Value} {below : List Frame} {meth : Method} {c : Code} {Q : State → Prop} {H : Heap} {locs : List Loc} {cells slots : Nat}
variable {X : mz_X} {M : mz_D} {D : va_G} {cy : FieldType → ClassId} {A : Nat → Prop} {ov : Nat → Value} {ad : Nat → Nat}
variable {pc : Nat} {ls : Array Slot} {L : mz_L} {S : List Value} {sh : List mz_K} {mm : mz_M}
theorem mz_W_upm {cy : FieldType → ClassId} {ad : Nat → Nat} {mm : mz_M} {sh : List mz_K} {a n : Nat} {ty : FieldType} {i : Nat} {x : Int32} (hs : sh[a]? = some (.inl (ty, n))) : mz_W cy ad (mz_up mm a i x) 0 sh = (mz_W cy ad mm 0 sh).set a (ad a, .inl (cy ty, n, .inl (upd (mm a) i x))) := by
  rw [mz_W_up (m := mm) (g := upd (mm a) i x) hs (by simp [mz_up]) (fun q hq => by simp [mz_up, hq])]
  rfl
set_option maxHeartbeats 4000000 in
theorem mz_s_ald (C0 : mz_Cx X M p R s m args meth c D cy A ov) {ins : Instr} {r1 r2 : Nat} {val : Value} (hi : ins = .iaload ∨ ins = .baload) (hd : decode M.2.1 pc = .ok (ins, 1)) (hR : mz_Rl D cy A s H locs ad sh mm) (hl : lv_has ls M.2.2.1 (mz_lv (mz_v ad ov) 0 L)) {st : mz_S} (he : mz_ex X ins r1 r2 val pc L S sh mm = some (true, st))
    (kk : mz_K1 p l e R s m args below meth c Q M D cy A ov ad sh cells slots st) : W p l e R s m args below meth c H locs cells slots Q (F0 m pc ls (S.map (mz_v ad ov))) := by
  obtain ⟨hx, hb, hml, hown, hts, hin, hK, hO, hA, hRf, hRl⟩ := C0
  have he0 := he
  rcases hi with rfl | rfl
  · cases S with
    | nil => cases he
    | cons v S =>
      cases v with
      | int i =>
        cases S with
        | nil => cases he
        | cons v S =>
          cases v with
          | ref a =>
            simp only [mz_ex] at he
            cases hlt : Nat.blt a mz_B with
            | true =>
              simp only [hlt, cond_true] at he
              cases hs : sh[a]? with
              | none => rw [hs] at he; cases he
              | some k =>
                rw [hs] at he
                rcases k with ⟨ty, n⟩ | ⟨ci, fs⟩
                · cases ty with
                  | int =>
                    simp only [Option.some.injEq, Prod.mk.injEq] at he
                    obtain ⟨h1, rfl⟩ := he
                    have hpos := mz_W_at (cy := cy) (ad := ad) (m := mm) hs
                    rw [List.map_cons, List.map_cons, mz_v_lo hlt]
                    exact va_iald hx hb hK hR.1 a 0 hpos rfl (mz_inb_in h1) hd (mz_K1.same kk hR hl)
                  | _ => cases he
                · cases he
            | false =>
              simp only [hlt, cond_false] at he
              cases hs : mz_oa X (a - mz_B) with
              | none => rw [hs] at he; cases he
              | some k =>
                rw [hs] at he
                obtain ⟨ty, n, f⟩ := k
                cases ty with
                | int =>
                  simp only [Option.some.injEq, Prod.mk.injEq] at he
                  obtain ⟨h1, rfl⟩ := he
                  obtain ⟨t, t1, t2⟩ := hO.2.1 _ _ hs
                  rw [List.map_cons, List.map_cons, mz_v_hi hlt, t1]
                  exact va_ti hx hb t2 hR.2.2.1 (mz_inb_in h1) rfl hd (mz_K1.same kk hR hl)
                | _ => cases he
          | _ => cases he
      | _ => cases he
  · cases S with
    | nil => cases he
    | cons v S =>
      cases v with
      | int i =>
        cases S with
        | nil => cases he
        | cons v S =>
          cases v with
          | ref a =>
            simp only [mz_ex] at he
            cases hlt : Nat.blt a mz_B with
            | true =>
              simp only [hlt, cond_true] at he
              cases hs : sh[a]? with
              | none => rw [hs] at he; cases he
              | some k =>
                rw [hs] at he
                rcases k with ⟨ty, n⟩ | ⟨ci, fs⟩
                · cases ty with
                  | boolean =>
                    simp only [Option.some.injEq, Prod.mk.injEq] at he
                    obtain ⟨h1, rfl⟩ := he
                    have hpos := mz_W_at (cy := cy) (ad := ad) (m := mm) hs
                    rw [List.map_cons, List.map_cons, mz_v_lo hlt]
                    exact va_zald hx hb hK hR.1 a 1 hpos rfl (mz_inb_in h1) hd (mz_K1.same kk hR hl)
                  | _ => cases he
                · cases he
            | false =>
              simp only [hlt, cond_false] at he
              cases hs : mz_oa X (a - mz_B) with
              | none => rw [hs] at he; cases he
              | some k =>
                rw [hs] at he
                obtain ⟨ty, n, f⟩ := k
                cases ty with
                | byte =>
                  simp only [Option.some.injEq, Prod.mk.injEq] at he
                  obtain ⟨h1, rfl⟩ := he
                  obtain ⟨t, t1, t2⟩ := hO.2.1 _ _ hs
                  rw [List.map_cons, List.map_cons, mz_v_hi hlt, t1]
                  exact va_tb hx hb t2 hR.2.2.1 (mz_inb_in h1) rfl hd (mz_K1.same kk hR hl)
                | _ => cases he
          | _ => cases he
      | _ => cases he
set_option maxHeartbeats 4000000 in
theorem mz_s_ast (C0 : mz_Cx X M p R s m args meth c D cy A ov) {ins : Instr} {r1 r2 : Nat} {val : Value} (hi : ins = .iastore ∨ ins = .bastore) (hd : decode M.2.1 pc = .ok (ins, 1)) (hR : mz_Rl D cy A s H locs ad sh mm) (hl : lv_has ls M.2.2.1 (mz_lv (mz_v ad ov) 0 L)) {st : mz_S} (he : mz_ex X ins r1 r2 val pc L S sh mm = some (true, st))
    (kk : mz_K1 p l e R s m args below meth c Q M D cy A ov ad sh cells slots st) : W p l e R s m args below meth c H locs cells slots Q (F0 m pc ls (S.map (mz_v ad ov))) := by
  obtain ⟨hx, hb, hml, hown, hts, hin, hK, hO, hA, hRf, hRl⟩ := C0
  rcases hi with rfl | rfl
  · cases S with
    | nil => cases he
    | cons v S =>
      cases v with
      | int x =>
        cases S with
        | nil => cases he
        | cons v S =>
          cases v with
          | int i =>
            cases S with
            | nil => cases he
            | cons v S =>
              cases v with
              | ref a =>
                simp only [mz_ex] at he
                cases hlt : Nat.blt a mz_B with
                | true =>
                  simp only [hlt, cond_true] at he
                  cases hs : sh[a]? with
                  | none => rw [hs] at he; cases he
                  | some k =>
                    rw [hs] at he
                    rcases k with ⟨ty, n⟩ | ⟨ci, fs⟩
                    · cases ty with
                      | int =>
                        simp only [Option.some.injEq, Prod.mk.injEq] at he
                        obtain ⟨h1, rfl⟩ := he
                        have hpos := mz_W_at (cy := cy) (ad := ad) (m := mm) hs
                        rw [List.map_cons, List.map_cons, List.map_cons, mz_v_lo hlt]
                        refine va_iast hx hb hK hR.1 hR.2.1 hR.2.2.1 a 0 hpos rfl (mz_inb_in h1) hd (fun H1 locs1 g1 g2 g3 => ?_)
                        rw [← mz_W_upm (i := i.toNatClampNeg) (x := x) hs] at g1 g2
                        exact mz_K1.same kk ⟨g1, g2, g3, hR.2.2.2⟩ hl
                      | _ => cases he
                    · cases he
                | false => simp only [hlt, cond_false] at he; cases he
              | _ => cases he
          | _ => cases he
      | _ => cases he
  · cases S with
    | nil => cases he
    | cons v S =>
      cases v with
      | int x =>
        cases S with
        | nil => cases he
        | cons v S =>
          cases v with
          | int i =>
            cases S with
            | nil => cases he
            | cons v S =>
              cases v with
              | ref a =>
                simp only [mz_ex] at he
                cases hlt : Nat.blt a mz_B with
                | true =>
                  simp only [hlt, cond_true] at he
                  cases hs : sh[a]? with
                  | none => rw [hs] at he; cases he
                  | some k =>
                    rw [hs] at he
                    rcases k with ⟨ty, n⟩ | ⟨ci, fs⟩
                    · cases ty with
                      | boolean =>
                        simp only [Option.some.injEq, Prod.mk.injEq] at he
                        obtain ⟨h1, rfl⟩ := he
                        have hpos := mz_W_at (cy := cy) (ad := ad) (m := mm) hs
                        rw [List.map_cons, List.map_cons, List.map_cons, mz_v_lo hlt]
                        refine va_zast hx hb hK hR.1 hR.2.1 hR.2.2.1 a 1 hpos rfl (mz_inb_in h1) hd (fun H1 locs1 g1 g2 g3 => ?_)
                        rw [← mz_W_upm (i := i.toNatClampNeg) (x := vp_nar .boolean x) hs] at g1 g2
                        exact mz_K1.same kk ⟨g1, g2, g3, hR.2.2.2⟩ hl
                      | _ => cases he
                    · cases he
                | false => simp only [hlt, cond_false] at he; cases he
              | _ => cases he
          | _ => cases he
      | _ => cases he
set_option maxHeartbeats 4000000 in
theorem mz_s_len (C0 : mz_Cx X M p R s m args meth c D cy A ov) {r1 r2 : Nat} {val : Value} (hd : decode M.2.1 pc = .ok (.arraylength, 1)) (hR : mz_Rl D cy A s H locs ad sh mm) (hl : lv_has ls M.2.2.1 (mz_lv (mz_v ad ov) 0 L)) {st : mz_S} (he : mz_ex X .arraylength r1 r2 val pc L S sh mm = some (true, st))
    (kk : mz_K1 p l e R s m args below meth c Q M D cy A ov ad sh cells slots st) : W p l e R s m args below meth c H locs cells slots Q (F0 m pc ls (S.map (mz_v ad ov))) := by
  obtain ⟨hx, hb, hml, hown, hts, hin, hK, hO, hA, hRf, hRl⟩ := C0
  cases S with
  | nil => cases he
  | cons v S =>
    cases v with
    | ref a =>
      simp only [mz_ex] at he
      cases hlt : Nat.blt a mz_B with
      | true =>
        simp only [hlt, cond_true] at he
        cases hs : sh[a]? with
        | none => rw [hs] at he; cases he
        | some k =>
          rw [hs] at he
          rcases k with ⟨ty, n⟩ | ⟨ci, fs⟩
          · cases ty with
            | int =>
              cases he
              have hpos := mz_W_at (cy := cy) (ad := ad) (m := mm) hs
              rw [List.map_cons, mz_v_lo hlt]
              exact va_alen (ty := .int) hx hb hK hR.1 a 0 hpos rfl rfl hd (mz_K1.same kk hR hl)
            | _ => cases he
          · cases he
      | false =>
        simp only [hlt, cond_false] at he
        cases hs : mz_oa X (a - mz_B) with
        | none => rw [hs] at he; cases he
        | some k =>
          rw [hs] at he
          obtain ⟨ty, n, f⟩ := k
          cases he
          obtain ⟨t, t1, t2⟩ := hO.2.1 _ _ hs
          rw [List.map_cons, mz_v_hi hlt, t1]
          exact va_tlen hx hb t2 hR.2.2.1 rfl hd (mz_K1.same kk hR hl)
    | _ => cases he
/-- behind a new cell -/
theorem mz_new_end {k : mz_K} {e0 : va_E} {q : Nat} {H1 : Heap} {v : Nat} (hwS : mz_wS sh.length S = true) (hwL : mz_wL sh.length L = true) (hlt : Nat.blt sh.length mz_B = true) (hR : mz_Rl D cy A s H locs ad sh mm) (hl : lv_has ls M.2.2.1 (mz_lv (mz_v ad ov) 0 L)) (hke : mz_c cy (fun j => if j = sh.length then q else ad j) (mz_z mm sh.length sh.length) k = e0) (hnr : ∀ (ci : Nat) (fs : List (Option (Option Nat))) (i j : Nat), k = .inr (ci, fs) → fs[i]? = some (some (some j)) → False)
    (hP : va_P D vwCl (mz_W cy ad mm 0 sh ++ [(q, e0)]) H1) (hD : va_D A (mz_W cy ad mm 0 sh ++ [(q, e0)])) (hS : va_S A s.heap H1 locs)
    (kk : mz_K1 p l e R s m args below meth c Q M D cy A ov ad sh cells slots (v, L, .ref sh.length :: S, sh ++ [k], mz_z mm sh.length)) : W p l e R s m args below meth c H1 locs (cells + 1) (slots + mz_k1 k) Q (F0 m v ls (.ref q :: S.map (mz_v ad ov))) := by
  rw [Nat.blt_eq] at hlt
  have hag : ∀ j, j < sh.length → (fun j => if j = sh.length then q else ad j) j = ad j := fun j hj => if_neg (Nat.ne_of_lt hj)
  have e1 := mz_W_push (cy := cy) (ad := ad) (m := mm) (m' := mz_z mm sh.length) (q := q) hR.2.2.2.1 (fun j hj => by simp [mz_z, Nat.ne_of_lt hj]) hke
  rw [← e1] at hP hD
  have g := kk _ H1 locs ls hag ⟨hP, hD, hS, mz_wf_push hR.2.2.2.1 hnr, by rw [List.length_append, List.length_singleton]; omega⟩ (by rw [mz_wL_v hR.2.2.2.2 hag L 0 hwL]; exact hl)
  simp only [List.length_append, List.length_singleton, Nat.add_sub_cancel_left, mz_sl_push] at g
  rw [List.map_cons, mz_wS_v hR.2.2.2.2 hag S hwS, mz_v_lo (by rw [Nat.blt_eq]; exact hlt), if_pos rfl] at g
  exact g
set_option maxHeartbeats 4000000 in
theorem mz_s_newa (C0 : mz_Cx X M p R s m args meth c D cy A ov) {aty : ArrayType} {r1 r2 : Nat} {val : Value} (hd : decode M.2.1 pc = .ok (.newarray aty, 2)) (hwd : ∀ w ∈ mz_wd M.1.cls (.newarray aty) r1 r2 val, w.before args s = true) (hR : mz_Rl D cy A s H locs ad sh mm) (hl : lv_has ls M.2.2.1 (mz_lv (mz_v ad ov) 0 L)) {st : mz_S} (he : mz_ex X (.newarray aty) r1 r2 val pc L S sh mm = some (true, st)) (hrc : cells + (st.2.2.2.1.length - sh.length) ≤ R.cells) (hrs : slots + (mz_sl st.2.2.2.1 - mz_sl sh) ≤ R.slots)
    (kk : mz_K1 p l e R s m args below meth c Q M D cy A ov ad sh cells slots st) : W p l e R s m args below meth c H locs cells slots Q (F0 m pc ls (S.map (mz_v ad ov))) := by
  obtain ⟨hx, hb, hml, hown, hts, hin, hK, hO, hA, hRf, hRl⟩ := C0
  cases S with
  | nil => cases he
  | cons v S =>
    cases v with
    | int n =>
      simp only [mz_ex] at he
      cases hcc : (Nat.blt sh.length mz_B && (mz_wL sh.length L && mz_wS sh.length S)) with
      | false => simp only [hcc, cond_false] at he; cases he
      | true =>
        simp only [hcc, cond_true] at he
        rw [Bool.and_eq_true, Bool.and_eq_true] at hcc
        obtain ⟨h1, h2, h3⟩ := hcc
        have hw : (Cond.arrayClass (newarray.typeOf aty)).before args s = true := hwd _ (by simp [mz_wd])
        cases aty with
        | int =>
          simp only [Option.some.injEq, Prod.mk.injEq, Bool.and_eq_true, decide_eq_true_eq] at he
          obtain ⟨⟨h4, h5⟩, rfl⟩ := he
          simp only [List.length_append, List.length_singleton, Nat.add_sub_cancel_left, mz_sl_push] at hrc hrs
          refine va_newa (atype := .int) (ty := .int) (a0 := (n.toNatClampNeg, .inl (fun _ => 0))) hx hb hw rfl hK hR.1 hR.2.1 hR.2.2.1 hA (fun cA => rfl) (Int32.not_lt.mpr h4) rfl (by show n.toNatClampNeg * 4 ≤ _; omega) hrc hrs hd (fun q cA H1 gK gP gD gS => ?_)
          have hcA : cA = cy .int := by
            have z1 : va_RA s cA .int := (gK.2 2 (cA, .int) rfl).2
            have z2 : va_RA s (cy .int) .int := (hK.2 0 (cy .int, .int) rfl).2
            exact Option.some.inj (z1.symm.trans z2)
          subst hcA
          exact mz_new_end (k := .inl (.int, n.toNatClampNeg)) h3 h2 h1 hR hl (by simp [mz_c, mz_z]) (fun _ _ _ _ z => by cases z) gP gD gS kk
        | boolean =>
          simp only [Option.some.injEq, Prod.mk.injEq, Bool.and_eq_true, decide_eq_true_eq] at he
          obtain ⟨⟨h4, h5⟩, rfl⟩ := he
          simp only [List.length_append, List.length_singleton, Nat.add_sub_cancel_left, mz_sl_push] at hrc hrs
          refine va_newa (atype := .boolean) (ty := .boolean) (a0 := (n.toNatClampNeg, .inl (fun _ => 0))) hx hb hw rfl hK hR.1 hR.2.1 hR.2.2.1 hA (fun cA => rfl) (Int32.not_lt.mpr h4) rfl (by show n.toNatClampNeg * 1 ≤ _; omega) hrc hrs hd (fun q cA H1 gK gP gD gS => ?_)
          have hcA : cA = cy .boolean := by
            have z1 : va_RA s cA .boolean := (gK.2 2 (cA, .boolean) rfl).2
            have z2 : va_RA s (cy .boolean) .boolean := (hK.2 1 (cy .boolean, .boolean) rfl).2
            exact Option.some.inj (z1.symm.trans z2)
          subst hcA
          exact mz_new_end (k := .inl (.boolean, n.toNatClampNeg)) h3 h2 h1 hR hl (by simp [mz_c, mz_z]) (fun _ _ _ _ z => by cases z) gP gD gS kk
        | _ => cases he
    | _ => cases he
set_option maxHeartbeats 4000000 in
theorem mz_s_new (C0 : mz_Cx X M p R s m args meth c D cy A ov) {idx r1 r2 : Nat} {val : Value} (hd : decode M.2.1 pc = .ok (.new idx, 3)) (hwd : ∀ w ∈ mz_wd M.1.cls (.new idx) r1 r2 val, w.before args s = true) (hck : mz_ck M pc (.new idx) r1 r2 val = true) (hR : mz_Rl D cy A s H locs ad sh mm) (hl : lv_has ls M.2.2.1 (mz_lv (mz_v ad ov) 0 L)) {st : mz_S} (he : mz_ex X (.new idx) r1 r2 val pc L S sh mm = some (true, st)) (hrc : cells + (st.2.2.2.1.length - sh.length) ≤ R.cells) (hrs : slots + (mz_sl st.2.2.2.1 - mz_sl sh) ≤ R.slots)
    (kk : mz_K1 p l e R s m args below meth c Q M D cy A ov ad sh cells slots st) : W p l e R s m args below meth c H locs cells slots Q (F0 m pc ls (S.map (mz_v ad ov))) := by
  obtain ⟨hx, hb, hml, hown, hts, hin, hK, hO, hA, hRf, hRl⟩ := C0
  simp only [mz_ex] at he
  cases hcc : (Nat.blt sh.length mz_B && (mz_wL sh.length L && mz_wS sh.length S)) with
  | false => simp only [hcc, cond_false] at he; cases he
  | true =>
    simp only [hcc, cond_true] at he
    cases he
    rw [Bool.and_eq_true, Bool.and_eq_true] at hcc
    obtain ⟨h1, h2, h3⟩ := hcc
    simp only [mz_ck] at hck
    cases hq : vwCl[r1]? with
    | none => rw [hq] at hck; cases hck
    | some q =>
      rw [hq] at hck
      simp only [Bool.and_eq_true] at hck
      have hN : (mz_n0 r1).length = q.2.2 := Nat.eq_of_beq_eq_true hck.1
      have hws : ∀ w ∈ ([.classLink M.1.cls idx q.1, .instantiable q.1 q.2.2, .initialized q.1] : List Cond), w.before args s = true := fun w hw => hwd w (by simp only [mz_wd, hq]; exact hw)
      simp only [List.length_append, List.length_singleton, Nat.add_sub_cancel_left, mz_sl_push, mz_k1, hN] at hrc hrs
      obtain ⟨hty, hnm⟩ := mz_cls r1 q hq
      refine va_new (ci := r1) (fs := mz_fs ad (fun _ => 0) 0 (mz_n0 r1)) (C := q.1) (T := q.2.1) (N := q.2.2) hx hb hts (mz_wst r1 q hq) (mz_tyc r1) hty hown (hws _ (by simp)) (hws _ (by simp)) (hws _ (by simp)) hK hR.1 hR.2.1 hR.2.2.1 hA hq (fun j hj => ?_) hrc hrs hd (fun qa H1 gP gD gS => ?_)
      · have hj2 := List.all_eq_true.mp hck.2 j (List.mem_range.mpr hj)
        have hjl : j < (mz_n0 r1).length := by rw [hN]; exact hj
        have e2 : (mz_n0 r1)[j]? = some ((mz_n0 r1)[j]'hjl) := List.getElem?_eq_getElem hjl
        rw [e2] at hj2
        simp only at hj2
        have e3 : vp_V (mz_fs ad (fun _ => 0) 0 (mz_n0 r1)) j = mz_f1 ad (fun _ => 0) j ((mz_n0 r1)[j]'hjl) := by
          unfold vp_V
          rw [List.getD_eq_getElem?_getD, mz_fs_get, e2]
          simp
        rw [e3]
        generalize (mz_n0 r1)[j]'hjl = z at hj2
        generalize mz_tyc r1 j = ty at hj2
        rcases z with _ | _ | z <;> cases ty <;> first | rfl | cases hj2
      · have g := mz_new_end (k := .inr (r1, mz_n0 r1)) (H1 := H1) (q := qa) h3 h2 h1 hR hl (by simp only [mz_c, mz_z, if_true]; rw [mz_n0_ad ad]) (fun ci fs i j z z2 => by cases z; exact mz_n0_noref z2) gP gD gS kk
        simp only [mz_k1, hN] at g
        exact g
theorem mz_cat_map (ho : ∀ j, ov j = .null ∨ ∃ t, ov j = .ref t) (S : List Value) : ((S.map (mz_v ad ov)).map fun v => v.category) = S.map fun v => v.category := by
  rw [List.map_map]
  exact List.map_congr_left (fun v _ => mz_v_cat ad ho v)
set_option maxHeartbeats 4000000 in
theorem mz_s_obj (C0 : mz_Cx X M p R s m args meth c D cy A ov) {idx r1 r2 : Nat} {val : Value} (hd : decode M.2.1 pc = .ok (.invokespecial idx, 3)) (hwd : ∀ w ∈ mz_wd M.1.cls (.invokespecial idx) r1 r2 val, w.before args s = true) (hck : mz_ck M pc (.invokespecial idx) r1 r2 val = true) (hR : mz_Rl D cy A s H locs ad sh mm) (hl : lv_has ls M.2.2.1 (mz_lv (mz_v ad ov) 0 L)) {st : mz_S} (he : mz_ex X (.invokespecial idx) r1 r2 val pc L S sh mm = some (true, st))
    (kk : mz_K1 p l e R s m args below meth c Q M D cy A ov ad sh cells slots st) : W p l e R s m args below meth c H locs cells slots Q (F0 m pc ls (S.map (mz_v ad ov))) := by
  obtain ⟨hx, hb, hml, hown, hts, hin, hK, hO, hA, hRf, hRl⟩ := C0
  cases S with
  | nil => cases he
  | cons v S =>
    cases v with
    | ref a =>
      simp only [mz_ex] at he
      cases hcc : (Nat.beq r1 9999 && (Nat.blt a mz_B && Nat.ble ((S.map fun v => v.category).sum) 8)) with
      | false => simp only [hcc, cond_false] at he; cases he
      | true =>
        simp only [hcc, cond_true] at he
        cases he
        rw [Bool.and_eq_true, Bool.and_eq_true, Nat.ble_eq] at hcc
        simp only [mz_ck, hcc.1, cond_true, Bool.and_eq_true, Nat.ble_eq] at hck
        have hws : ∀ w ∈ ([.methodLink M.1.cls idx objectInit, .instanceMethod objectInit] : List Cond), w.before args s = true := fun w hw => hwd w (by simp only [mz_wd, hcc.1, cond_true]; exact hw)
        rw [List.map_cons, mz_v_lo hcc.2.1]
        have g := mz_K1.same kk hR hl
        refine W.objInit hx hb hown (hws _ (by simp)) (hws _ (by simp)) (hts _ mz_w_obj) rfl (by rw [hml]; exact hl.1) rfl hd (by omega) ?_ g
        show 2 * 0 + ((S.map (mz_v ad ov)).map fun v => v.category).sum + 12 ≤ R.locals
        rw [mz_cat_map hO.2.2.2.1]
        omega
    | _ => cases he
set_option maxHeartbeats 4000000 in
theorem mz_s_max (C0 : mz_Cx X M p R s m args meth c D cy A ov) {idx r1 r2 : Nat} {val : Value} (hd : decode M.2.1 pc = .ok (.invokestatic idx, 3)) (hwd : ∀ w ∈ mz_wd M.1.cls (.invokestatic idx) r1 r2 val, w.before args s = true) (hck : mz_ck M pc (.invokestatic idx) r1 r2 val = true) (hR : mz_Rl D cy A s H locs ad sh mm) (hl : lv_has ls M.2.2.1 (mz_lv (mz_v ad ov) 0 L)) {st : mz_S} (he : mz_ex X (.invokestatic idx) r1 r2 val pc L S sh mm = some (true, st)) (hrc : cells + (st.2.2.2.1.length - sh.length) ≤ R.cells) (hrs : slots + (mz_sl st.2.2.2.1 - mz_sl sh) ≤ R.slots) (h9 : Nat.beq r1 9997 = true ∨ (Nat.beq r1 9997 = false ∧ Nat.beq r1 9996 = true))
    (kk : mz_K1 p l e R s m args below meth c Q M D cy A ov ad sh cells slots st) : W p l e R s m args below meth c H locs cells slots Q (F0 m pc ls (S.map (mz_v ad ov))) := by
  obtain ⟨hx, hb, hml, hown, hts, hin, hK, hO, hA, hRf, hRl⟩ := C0
  rcases h9 with h97 | ⟨h97, h96⟩
  · simp only [mz_ck, h97, Bool.true_or, cond_true, Bool.and_eq_true, Nat.ble_eq] at hck
    have hws : ∀ w ∈ ([.methodLink M.1.cls idx Lib.Math.max.name, .static Lib.Math.max.name, .initialized "java/lang/Math"] : List Cond), w.before args s = true := fun w hw => hwd w (by simp only [mz_wd, h97, cond_true]; exact hw)
    simp only [mz_ex, h97, cond_true] at he
    split at he
    · rename_i y x S
      cases hcc : Nat.ble ((S.map fun v => v.category).sum) 8 with
      | false => simp only [hcc, cond_false] at he; cases he
      | true =>
        simp only [hcc, cond_true] at he
        cases he
        rw [Nat.ble_eq] at hcc
        simp only [Nat.sub_self, Nat.add_zero] at hrc hrs
        refine va_mmax hx hb (by rw [hml]; exact hl.1.symm) hown (hws _ (by simp)) (hws _ (by simp)) (hws _ (by simp)) (hts _ mz_w_max) (by omega) ?_ hrc hrs hd (mz_K1.same kk hR hl)
        rw [mz_cat_map hO.2.2.2.1]
        omega
    · cases he
  · simp only [mz_ck, h97, h96, Bool.or_true, cond_true, Bool.and_eq_true, Nat.ble_eq] at hck
    have hws : ∀ w ∈ ([.methodLink M.1.cls idx Lib.Math.min.name, .static Lib.Math.min.name, .initialized "java/lang/Math"] : List Cond), w.before args s = true := fun w hw => hwd w (by simp only [mz_wd, h97, h96, cond_false, cond_true]; exact hw)
    simp only [mz_ex, h97, h96, cond_false, cond_true] at he
    split at he
    · rename_i y x S
      cases hcc : Nat.ble ((S.map fun v => v.category).sum) 8 with
      | false => simp only [hcc, cond_false] at he; cases he
      | true =>
        simp only [hcc, cond_true] at he
        cases he
        rw [Nat.ble_eq] at hcc
        simp only [Nat.sub_self, Nat.add_zero] at hrc hrs
        refine va_mmin hx hb (by rw [hml]; exact hl.1.symm) hown (hws _ (by simp)) (hws _ (by simp)) (hws _ (by simp)) (hts _ mz_w_min) (by omega) ?_ hrc hrs hd (mz_K1.same kk hR hl)
        rw [mz_cat_map hO.2.2.2.1]
        omega
    · cases he
set_option maxHeartbeats 4000000 in
theorem mz_s_cpy (C0 : mz_Cx X M p R s m args meth c D cy A ov) {idx r1 r2 : Nat} {val : Value} (hd : decode M.2.1 pc = .ok (.invokestatic idx, 3)) (hwd : ∀ w ∈ mz_wd M.1.cls (.invokestatic idx) r1 r2 val, w.before args s = true) (hck : mz_ck M pc (.invokestatic idx) r1 r2 val = true) (hR : mz_Rl D cy A s H locs ad sh mm) (hl : lv_has ls M.2.2.1 (mz_lv (mz_v ad ov) 0 L)) {st : mz_S} (he : mz_ex X (.invokestatic idx) r1 r2 val pc L S sh mm = some (true, st)) (h97 : Nat.beq r1 9997 = false) (h96 : Nat.beq r1 9996 = false)
    (kk : mz_K1 p l e R s m args below meth c Q M D cy A ov ad sh cells slots st) : W p l e R s m args below meth c H locs cells slots Q (F0 m pc ls (S.map (mz_v ad ov))) := by
  obtain ⟨hx, hb, hml, hown, hts, hin, hK, hO, hA, hRf, hRl⟩ := C0
  simp only [mz_ex, h97, h96, cond_false] at he
  split at he
  · rename_i n dp b sp a S
    cases hcc : (Nat.beq r1 9998 && (Nat.blt a mz_B && (Nat.blt b mz_B && Nat.ble ((S.map fun v => v.category).sum) 8))) with
    | false => simp only [hcc, cond_false] at he; cases he
    | true =>
      simp only [hcc, cond_true] at he
      rw [Bool.and_eq_true, Bool.and_eq_true, Bool.and_eq_true, Nat.ble_eq] at hcc
      obtain ⟨h98, hla, hlb, hcat⟩ := hcc
      simp only [mz_ck, h97, h96, Bool.or_self, cond_false, h98, cond_true, Bool.and_eq_true, Nat.ble_eq] at hck
      have hws : ∀ w ∈ ([.methodLink M.1.cls idx arraycopyName, .native arraycopyName, .static arraycopyName, .initialized "java/lang/System"] : List Cond), w.before args s = true := fun w hw => hwd w (by simp only [mz_wd, h97, h96, cond_false, h98, cond_true]; exact hw)
      cases hsa : sh[a]? with
      | none => rw [hsa] at he; cases he
      | some ka =>
        cases hsb : sh[b]? with
        | none => rw [hsa, hsb] at he; rcases ka with ⟨ta, n0⟩ | ka <;> (try cases ta) <;> cases he
        | some kb =>
          rw [hsa, hsb] at he
          rcases ka with ⟨ta, n0⟩ | ka
          · rcases kb with ⟨tb, n1⟩ | kb
            · cases ta with
              | int =>
                cases tb with
                | int =>
                  simp only [Option.some.injEq, Prod.mk.injEq, Bool.and_eq_true, decide_eq_true_eq] at he
                  obtain ⟨⟨g1, g2, g3, g4, g5⟩, rfl⟩ := he
                  simp only [List.map_cons]
                  rw [mz_v_lo hla, mz_v_lo hlb]
                  refine va_copyi (ty := .int) hx hb (by rw [hml]; exact hl.1.symm) hown (hws _ (by simp)) (hws _ (by simp)) (hws _ (by simp)) (hws _ (by simp)) hK hR.1 hR.2.1 hR.2.2.1 a b 0 0 (mz_W_at hsa) (mz_W_at hsb) rfl rfl rfl (Int32.not_lt.mpr g1) (Int32.not_lt.mpr g2) (Int32.not_lt.mpr g3) g4 g5 (fun _ _ => rfl) (by omega) ?_ hd (fun H1 locs1 q1 q2 q3 => ?_)
                  · rw [mz_cat_map hO.2.2.2.1]
                    omega
                  · have e1 : mz_W cy ad (mz_cp mm a b sp.toNatClampNeg dp.toNatClampNeg n.toNatClampNeg) 0 sh = (mz_W cy ad mm 0 sh).set b (ad b, .inl (cy .int, n1, .inl (va_cpy (mm a) (mm b) sp.toNatClampNeg dp.toNatClampNeg n.toNatClampNeg))) := by
                      rw [mz_W_up (m := mm) (g := va_cpy (mm a) (mm b) sp.toNatClampNeg dp.toNatClampNeg n.toNatClampNeg) hsb (by simp [mz_cp]) (fun q hq => by simp [mz_cp, hq])]
                      rfl
                    rw [← e1] at q1 q2
                    exact mz_K1.same kk ⟨q1, q2, q3, hR.2.2.2⟩ hl
                | _ => cases he
              | _ => cases he
            · cases ta <;> cases he
          · cases he
  · cases he
end
