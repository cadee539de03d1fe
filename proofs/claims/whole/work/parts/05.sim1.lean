/-- how long an instruction is (0: a switch) -/
def mz_ln : Instr → Nat
  | .aload _ => 2
  | .iload _ => 2
  | .istore _ => 2
  | .bipush _ => 2
  | .ldc _ => 2
  | .newarray _ => 2
  | .iinc _ _ => 3
  | .sipush _ => 3
  | .ldc_w _ => 3
  | .ldc2_w _ => 3
  | .getstatic _ => 3
  | .getfield _ => 3
  | .putfield _ => 3
  | .goto _ => 3
  | .ifCond _ _ => 3
  | .if_icmp _ _ => 3
  | .new _ => 3
  | .invokespecial _ => 3
  | .invokevirtual _ => 3
  | .invokestatic _ => 3
  | .tableswitch _ _ _ _ => 0
  | .lookupswitch _ _ => 0
  | _ => 1
section
variable {p : Program} {l : Launch} {e : Env} {R : Room} {s : State} {m : MethodId} {args : Array Value} {below : List Frame} {meth : Method} {c : Code} {Q : State → Prop} {H : Heap} {locs : List Loc} {cells slots : Nat}
variable {X : mz_X} {M : mz_D} {D : va_G} {cy : FieldType → ClassId} {A : Nat → Prop} {ov : Nat → Value} {ad : Nat → Nat}
variable {pc : Nat} {ls : Array Slot} {L : mz_L} {S : List Value} {sh : List mz_K} {mm : mz_M}
/-- the goal behind one instruction -/
def mz_K1 (p : Program) (l : Launch) (e : Env) (R : Room) (s : State) (m : MethodId) (args : Array Value) (below : List Frame) (meth : Method) (c : Code) (Q : State → Prop) (M : mz_D) (D : va_G) (cy : FieldType → ClassId) (A : Nat → Prop) (ov : Nat → Value) (ad : Nat → Nat) (sh : List mz_K) (cells slots : Nat) (st : mz_S) : Prop :=
  ∀ (ad' : Nat → Nat) (H' : Heap) (locs' : List Loc) (ls' : Array Slot), (∀ k, k < sh.length → ad' k = ad k) → mz_Rl D cy A s H' locs' ad' st.2.2.2.1 st.2.2.2.2 → lv_has ls' M.2.2.1 (mz_lv (mz_v ad' ov) 0 st.2.1) → W p l e R s m args below meth c H' locs' (cells + (st.2.2.2.1.length - sh.length)) (slots + (mz_sl st.2.2.2.1 - mz_sl sh)) Q (F0 m st.1 ls' (st.2.2.1.map (mz_v ad' ov)))
theorem mz_K1.same {H : Heap} {locs : List Loc} {cells slots pc : Nat} {ls : Array Slot} {L : mz_L} {S : List Value} {sh : List mz_K} {mm : mz_M} {ad : Nat → Nat}
    (kk : mz_K1 p l e R s m args below meth c Q M D cy A ov ad sh cells slots (pc, L, S, sh, mm)) (hR : mz_Rl D cy A s H locs ad sh mm) (hl : lv_has ls M.2.2.1 (mz_lv (mz_v ad ov) 0 L)) : W p l e R s m args below meth c H locs cells slots Q (F0 m pc ls (S.map (mz_v ad ov))) := by
  have h := kk ad H locs ls (fun _ _ => rfl) hR hl
  simpa using h
theorem mz_K1.mem {H : Heap} {locs : List Loc} {cells slots pc : Nat} {ls : Array Slot} {L : mz_L} {S : List Value} {sh sh' : List mz_K} {mm : mz_M} {ad : Nat → Nat} (h1 : sh'.length = sh.length) (h2 : mz_sl sh' = mz_sl sh)
    (kk : mz_K1 p l e R s m args below meth c Q M D cy A ov ad sh cells slots (pc, L, S, sh', mm)) (hR : mz_Rl D cy A s H locs ad sh' mm) (hl : lv_has ls M.2.2.1 (mz_lv (mz_v ad ov) 0 L)) : W p l e R s m args below meth c H locs cells slots Q (F0 m pc ls (S.map (mz_v ad ov))) := by
  have h := kk ad H locs ls (fun _ _ => rfl) hR hl
  simpa [h1, h2] using h
theorem mz_put_lt {L L' : mz_L} {i : Nat} {v : Value} (h : mz_put L i v = some L') : i < L.length := by
  unfold mz_put at h
  cases hb : (Nat.blt i L.length && mz_sok L i) with
  | false => rw [hb] at h; cases h
  | true => rw [Bool.and_eq_true, Nat.blt_eq] at hb; exact hb.1
theorem mz_put2_lt {L L' : mz_L} {i : Nat} {v : Value} (h : mz_put2 L i v = some L') : i + 1 < L.length := by
  unfold mz_put2 at h
  cases hb : (Nat.blt (i + 1) L.length && mz_sok L i) with
  | false => rw [hb] at h; cases h
  | true => rw [Bool.and_eq_true, Nat.blt_eq] at hb; exact hb.1
set_option maxHeartbeats 4000000 in
/-- loads, stores, constants -/
theorem mz_s_loc (hx : p.tables.exec = Jvm.exec) (hb : c.code = M.2.1) (hml : c.maxLocals = M.2.2.1) (hown : s.vm.findClass M.1.cls = some m.cls) (hO : mz_Old X ov A s s.heap) {ins : Instr} {len r1 r2 : Nat} {val : Value} (hwd : ∀ w ∈ mz_wd M.1.cls ins r1 r2 val, w.before args s = true) (hd : decode M.2.1 pc = .ok (ins, len)) (hln : mz_ln ins = 0 ∨ len = mz_ln ins) (hck : mz_ck M pc ins r1 r2 val = true) (hR : mz_Rl D cy A s H locs ad sh mm) (hl : lv_has ls M.2.2.1 (mz_lv (mz_v ad ov) 0 L)) {st : mz_S} (he : mz_ex X ins r1 r2 val pc L S sh mm = some (true, st))
    (hg : match ins with | .aload_n _ | .aload _ | .iload_n _ | .iload _ | .lload_n _ | .istore_n _ | .istore _ | .astore_n _ | .lstore_n _ | .iinc _ _ | .iconst _ | .bipush _ | .sipush _ | .lconst _ | .ldc _ | .ldc_w _ | .ldc2_w _ | .getstatic _ => True | _ => False)
    (kk : mz_K1 p l e R s m args below meth c Q M D cy A ov ad sh cells slots st) : W p l e R s m args below meth c H locs cells slots Q (F0 m pc ls (S.map (mz_v ad ov))) := by
  have ho := hO.2.2.2.1
  cases ins with
  | aload_n k =>
    simp only [mz_ex] at he
    split at he
    · rename_i q hq
      cases he
      have e1 : len = 1 := by simpa [mz_ln] using hln
      subst e1
      have hk : k.val = r1 := Nat.eq_of_beq_eq_true hck
      have hr := mz_lv_at hl hq
      have g := mz_K1.same kk hR hl
      rcases mz_v_ref ad ho q with h | ⟨a, h⟩
      · rw [List.map_cons, h] at g
        rw [h] at hr
        exact lv_aload_nN hx hb hd hk hr g
      · rw [List.map_cons, h] at g
        rw [h] at hr
        exact lv_aload_n hx hb hd hk hr g
    · cases he
  | aload k =>
    simp only [mz_ex] at he
    split at he
    · rename_i q hq
      cases he
      have e1 : len = 2 := by simpa [mz_ln] using hln
      subst e1
      have hk : k = r1 := Nat.eq_of_beq_eq_true hck
      subst hk
      have hr := mz_lv_at hl hq
      have g := mz_K1.same kk hR hl
      rcases mz_v_ref ad ho q with h | ⟨a, h⟩
      · rw [List.map_cons, h] at g
        rw [h] at hr
        exact lv_aloadN hx hb hd hr g
      · rw [List.map_cons, h] at g
        rw [h] at hr
        exact lv_aload hx hb hd hr g
    · cases he
  | iload_n k =>
    simp only [mz_ex] at he
    split at he
    · rename_i q hq
      cases he
      have e1 : len = 1 := by simpa [mz_ln] using hln
      subst e1
      exact lv_iload_n hx hb hd (Nat.eq_of_beq_eq_true hck) (mz_lv_at hl hq) (mz_K1.same kk hR hl)
    · cases he
  | iload k =>
    simp only [mz_ex] at he
    split at he
    · rename_i q hq
      cases he
      have e1 : len = 2 := by simpa [mz_ln] using hln
      subst e1
      have hk : k = r1 := Nat.eq_of_beq_eq_true hck
      subst hk
      exact lv_iload hx hb hd (mz_lv_at hl hq) (mz_K1.same kk hR hl)
    · cases he
  | lload_n k =>
    simp only [mz_ex] at he
    split at he
    · rename_i q hq
      cases he
      have e1 : len = 1 := by simpa [mz_ln] using hln
      subst e1
      exact lv_lload_n hx hb hd (Nat.eq_of_beq_eq_true hck) (mz_lv_at hl hq) (mz_K1.same kk hR hl)
    · cases he
  | istore_n k =>
    cases S with
    | nil => cases he
    | cons v S' =>
      cases v with
      | int q =>
        simp only [mz_ex] at he
        cases hL' : mz_put L r1 (.int q) with
        | none => rw [hL'] at he; cases he
        | some L' =>
          rw [hL'] at he
          cases he
          have e1 : len = 1 := by simpa [mz_ln] using hln
          subst e1
          simp only [mz_ck, Bool.and_eq_true, Nat.blt_eq] at hck
          have hn : r1 < M.2.2.1 := hck.2
          exact lv_istore_n hx hb hd (Nat.eq_of_beq_eq_true hck.1) hl hn rfl (fun ls' hl' => mz_K1.same kk hR (mz_lv_put (v := .int q) ho hL' hl'))
      | _ => cases he
  | istore k =>
    cases S with
    | nil => cases he
    | cons v S' =>
      cases v with
      | int q =>
        simp only [mz_ex] at he
        cases hL' : mz_put L r1 (.int q) with
        | none => rw [hL'] at he; cases he
        | some L' =>
          rw [hL'] at he
          cases he
          have e1 : len = 2 := by simpa [mz_ln] using hln
          subst e1
          simp only [mz_ck, Bool.and_eq_true, Nat.blt_eq] at hck
          have hk : k = r1 := Nat.eq_of_beq_eq_true hck.1
          subst hk
          have hn : k < M.2.2.1 := hck.2
          exact lv_istore hx hb hd hl hn rfl (fun ls' hl' => mz_K1.same kk hR (mz_lv_put (v := .int q) ho hL' hl'))
      | _ => cases he
  | astore_n k =>
    cases S with
    | nil => cases he
    | cons v S' =>
      cases v with
      | ref q =>
        simp only [mz_ex] at he
        cases hL' : mz_put L r1 (.ref q) with
        | none => rw [hL'] at he; cases he
        | some L' =>
          rw [hL'] at he
          cases he
          have e1 : len = 1 := by simpa [mz_ln] using hln
          subst e1
          simp only [mz_ck, Bool.and_eq_true, Nat.blt_eq] at hck
          have hn : r1 < M.2.2.1 := hck.2
          have hp : ∀ ls', lv_has ls' M.2.2.1 ((r1, mz_v ad ov (.ref q)) :: (mz_lv (mz_v ad ov) 0 L).filter (fun q => !(q.1 == r1) && !(q.1 + 1 == r1 && q.2.category == 2))) → lv_has ls' M.2.2.1 (mz_lv (mz_v ad ov) 0 L') := fun ls' hl' => mz_lv_put (v := .ref q) ho hL' hl'
          rcases mz_v_ref ad ho q with h | ⟨a, h⟩
          · rw [h] at hp
            rw [List.map_cons, h]
            exact lv_astore_nN hx hb hd (Nat.eq_of_beq_eq_true hck.1) hl hn rfl (fun ls' hl' => mz_K1.same kk hR (hp ls' hl'))
          · rw [h] at hp
            rw [List.map_cons, h]
            exact lv_astore_n hx hb hd (Nat.eq_of_beq_eq_true hck.1) hl hn rfl (fun ls' hl' => mz_K1.same kk hR (hp ls' hl'))
      | _ => cases he
  | lstore_n k =>
    cases S with
    | nil => cases he
    | cons v S' =>
      cases v with
      | long q =>
        simp only [mz_ex] at he
        cases hL' : mz_put2 L r1 (.long q) with
        | none => rw [hL'] at he; cases he
        | some L' =>
          rw [hL'] at he
          cases he
          have e1 : len = 1 := by simpa [mz_ln] using hln
          subst e1
          simp only [mz_ck, Bool.and_eq_true, Nat.blt_eq] at hck
          have hn : r1 + 1 < M.2.2.1 := hck.2
          exact lv_lstore_n hx hb hd (Nat.eq_of_beq_eq_true hck.1) hl hn rfl (fun ls' hl' => mz_K1.same kk hR (mz_lv_put2 (v := .long q) ho hL' hl'))
      | _ => cases he
  | iinc k n =>
    simp only [mz_ex] at he
    split at he
    · rename_i x d hq hv
      split at he
      · rename_i L' hL'
        cases he
        have e1 : len = 3 := by simpa [mz_ln] using hln
        subst e1
        simp only [mz_ck, Bool.and_eq_true, decide_eq_true_eq, Nat.blt_eq] at hck
        have hk : k = r1 := Nat.eq_of_beq_eq_true hck.1
        subst hk
        have hd' : d = Int32.ofInt n := by have := hck.2.2; cases this; rfl
        have hn : k < M.2.2.1 := hck.2.1
        obtain ⟨j, hj⟩ := List.mem_iff_getElem?.mp (mz_lv_mem (f := mz_v ad ov) L 0 k (.int x) hq)
        rw [Nat.zero_add] at hj
        exact lv_iinc (v := x + d) hx hb hd hl hj (by rw [hd']) hn rfl (fun ls' hl' => mz_K1.same kk hR (mz_lv_put (v := .int (x + d)) ho hL' hl'))
      · cases he
    · cases he
  | iconst n =>
    simp only [mz_ex] at he
    split at he
    · cases he
      have e1 : len = 1 := by simpa [mz_ln] using hln
      subst e1
      simp only [mz_ck, decide_eq_true_eq, Value.int.injEq] at hck
      exact lv_iconst hx hb hd hck.symm (mz_K1.same kk hR hl)
    · cases he
  | bipush n =>
    simp only [mz_ex] at he
    split at he
    · cases he
      have e1 : len = 2 := by simpa [mz_ln] using hln
      subst e1
      simp only [mz_ck, decide_eq_true_eq, Value.int.injEq] at hck
      exact lv_bipush hx hb hd hck.symm (mz_K1.same kk hR hl)
    · cases he
  | sipush n =>
    simp only [mz_ex] at he
    split at he
    · cases he
      have e1 : len = 3 := by simpa [mz_ln] using hln
      subst e1
      simp only [mz_ck, decide_eq_true_eq, Value.int.injEq] at hck
      exact lv_sipush hx hb hd hck.symm (mz_K1.same kk hR hl)
    · cases he
  | lconst n =>
    simp only [mz_ex] at he
    split at he
    · cases he
      have e1 : len = 1 := by simpa [mz_ln] using hln
      subst e1
      simp only [mz_ck, decide_eq_true_eq, Value.long.injEq] at hck
      exact lv_lconst hx hb hd hck.symm (mz_K1.same kk hR hl)
    · cases he
  | ldc idx =>
    simp only [mz_ex] at he
    split at he
    · cases he
      have e1 : len = 2 := by simpa [mz_ln] using hln
      subst e1
      exact lv_ldc hx hb hown (hwd _ (by simp [mz_wd])) hd (mz_K1.same kk hR hl)
    · rename_i k
      cases he
      have e1 : len = 2 := by simpa [mz_ln] using hln
      subst e1
      simp only [mz_ck] at hck
      split at hck
      · rename_i q hq
        simp only [Bool.and_eq_true, decide_eq_true_eq] at hck
        obtain ⟨h1, h2, h3⟩ := hck
        have h2 := Nat.eq_of_beq_eq_true h2
        have h3 := Nat.eq_of_beq_eq_true h3
        subst h2; subst h3
        obtain ⟨t, t1, t2, -⟩ := hO.2.2.1 r1 q hq
        rw [h1] at t2
        have g := mz_K1.same kk hR hl
        rw [List.map_cons, mz_v_hi (by rw [Bool.eq_false_iff]; intro z; rw [Nat.blt_eq] at z; omega), show mz_B + 10 + r1 - mz_B = 10 + r1 by omega, t1] at g
        exact va_ldcS hx hb hown t2 hd g
      · cases hck
    · cases he
  | ldc_w idx =>
    simp only [mz_ex] at he
    split at he
    · cases he
      have e1 : len = 3 := by simpa [mz_ln] using hln
      subst e1
      exact lv_ldcw hx hb hown (hwd _ (by simp [mz_wd])) hd (mz_K1.same kk hR hl)
    · cases he
  | ldc2_w idx =>
    simp only [mz_ex] at he
    split at he
    · cases he
      have e1 : len = 3 := by simpa [mz_ln] using hln
      subst e1
      exact lv_ldc2 hx hb hown (hwd _ (by simp [mz_wd])) hd (mz_K1.same kk hR hl)
    · cases he
  | getstatic idx =>
    simp only [mz_ex] at he
    cases he
    have e1 : len = 3 := by simpa [mz_ln] using hln
    subst e1
    simp only [mz_ck] at hck
    split at hck
    · rename_i q hq
      simp only [Bool.and_eq_true, decide_eq_true_eq] at hck
      have hZ := hO.1 r1 q hq
      rw [hck.1] at hZ
      have hvv : mz_v ad ov val = mz_v (fun _ => 0) ov val := by
        cases val with
        | ref k =>
          have h2 := hck.2
          simp only [Nat.ble_eq] at h2
          rw [mz_v_hi (by rw [Bool.eq_false_iff]; intro z; rw [Nat.blt_eq] at z; omega), mz_v_hi (by rw [Bool.eq_false_iff]; intro z; rw [Nat.blt_eq] at z; omega)]
        | _ => rfl
      have g := mz_K1.same kk hR hl
      rw [List.map_cons, hvv] at g
      exact va_gets hx hb hZ hR.2.2.1 hown (hwd _ (by simp [mz_wd, hq])) (fun _ z => z) hd g
    · cases hck
  | _ => exact absurd hg (by simp)
end
