/-! THE SMALL MACHINE'S RUNS ARE RUNS OF THE MACHINE -/
def mz_Good (M : mz_D) : Prop := ∀ (pc : Nat) (ins : Instr) (len r1 r2 : Nat) (val : Value), mz_at M.2.2.2.2.2.2 pc = some (ins, len, r1, r2, val) → decode M.2.1 pc = .ok (ins, len) ∧ (mz_ln ins = 0 ∨ len = mz_ln ins) ∧ mz_ck M pc ins r1 r2 val = true ∧ ∀ w ∈ mz_wd M.1.cls ins r1 r2 val, w ∈ mz_lw
/-- what is asked of the tables -/
def mz_Tab : Prop := (∀ (i : Nat) (M : mz_D), mz_md[i]? = some M → mz_Good M) ∧ (∀ (i : Nat) (M : mz_D), 0 < i → mz_md[i]? = some M → Cond.code M.1 M.2.1 M.2.2.1 M.2.2.2.1 ∈ mz_lw ∧ plainName M.1.cls = true)
section
variable {p : Program} {l : Launch} {e : Env} {R : Room} {s : State} {m : MethodId} {args : Array Value} {below : List Frame} {meth : Method} {c : Code} {Q : State → Prop} {H : Heap} {locs : List Loc} {cells slots : Nat}
variable {X : mz_X} {M : mz_D} {D : va_G} {cy : FieldType → ClassId} {A : Nat → Prop} {ov : Nat → Value} {ad : Nat → Nat}
variable {pc : Nat} {ls : Array Slot} {L : mz_L} {S : List Value} {sh : List mz_K} {mm : mz_M}
set_option maxHeartbeats 4000000 in
theorem mz_sim1 (hG : mz_Good M) (C0 : mz_Cx X M p R s m args meth c D cy A ov) {ins : Instr} {len r1 r2 : Nat} {val : Value} (hat : mz_at M.2.2.2.2.2.2 pc = some (ins, len, r1, r2, val)) (hR : mz_Rl D cy A s H locs ad sh mm) (hl : lv_has ls M.2.2.1 (mz_lv (mz_v ad ov) 0 L)) {st : mz_S} (he : mz_ex X ins r1 r2 val pc L S sh mm = some (true, st)) (hrc : cells + (st.2.2.2.1.length - sh.length) ≤ R.cells) (hrs : slots + (mz_sl st.2.2.2.1 - mz_sl sh) ≤ R.slots)
    (kk : mz_K1 p l e R s m args below meth c Q M D cy A ov ad sh cells slots st) : W p l e R s m args below meth c H locs cells slots Q (F0 m pc ls (S.map (mz_v ad ov))) := by
  obtain ⟨hd, hln, hck, hw0⟩ := hG pc ins len r1 r2 val hat
  obtain ⟨hx, hb, hml, hown, hts, hin, hK, hO, hA, hRf, hRl⟩ := id C0
  have hwd : ∀ w ∈ mz_wd M.1.cls ins r1 r2 val, w.before args s = true := fun w hw => hts w (hw0 w hw)
  have h3 : mz_ln ins ≠ 0 → len = mz_ln ins := fun h => hln.resolve_left h
  cases ins with
  | getfield idx => exact mz_s_get C0 hd (h3 (by simp [mz_ln])) hwd hck hR hl he kk
  | putfield idx => exact mz_s_put C0 hd (h3 (by simp [mz_ln])) hwd hck hR hl he kk
  | iaload =>
    have e1 := h3 (by simp [mz_ln]); rw [e1] at hd
    exact mz_s_ald C0 (Or.inl rfl) hd hR hl he kk
  | baload =>
    have e1 := h3 (by simp [mz_ln]); rw [e1] at hd
    exact mz_s_ald C0 (Or.inr rfl) hd hR hl he kk
  | iastore =>
    have e1 := h3 (by simp [mz_ln]); rw [e1] at hd
    exact mz_s_ast C0 (Or.inl rfl) hd hR hl he kk
  | bastore =>
    have e1 := h3 (by simp [mz_ln]); rw [e1] at hd
    exact mz_s_ast C0 (Or.inr rfl) hd hR hl he kk
  | arraylength =>
    have e1 := h3 (by simp [mz_ln]); rw [e1] at hd
    exact mz_s_len C0 hd hR hl he kk
  | newarray aty =>
    have e1 := h3 (by simp [mz_ln]); rw [e1] at hd
    exact mz_s_newa C0 hd hwd hR hl he hrc hrs kk
  | new idx =>
    have e1 := h3 (by simp [mz_ln]); rw [e1] at hd
    exact mz_s_new C0 hd hwd hck hR hl he hrc hrs kk
  | invokespecial idx =>
    have e1 := h3 (by simp [mz_ln]); rw [e1] at hd
    exact mz_s_obj C0 hd hwd hck hR hl he kk
  | invokestatic idx =>
    have e1 := h3 (by simp [mz_ln]); rw [e1] at hd
    cases h97 : Nat.beq r1 9997 with
    | true => exact mz_s_max C0 hd hwd hck hR hl he hrc hrs (Or.inl h97) kk
    | false =>
      cases h96 : Nat.beq r1 9996 with
      | true => exact mz_s_max C0 hd hwd hck hR hl he hrc hrs (Or.inr ⟨h97, h96⟩) kk
      | false => exact mz_s_cpy C0 hd hwd hck hR hl he h97 h96 kk
  | _ => first | exact mz_s_loc hx hb hml hown hO hwd hd hln hck hR hl he trivial kk | exact mz_s_num hx hb hO.2.2.2.1 hd hln hck hR hl he trivial kk | (simp [mz_ex] at he; done)
theorem mz_run_mono (X : mz_X) : ∀ (n i pc : Nat) (L : mz_L) (S : List Value) (sh : List mz_K) (m : mz_M) (v : Option Value) (sh' : List mz_K) (m' : mz_M), mz_run X n i pc L S sh m = some (v, sh', m') → sh.length ≤ sh'.length ∧ mz_sl sh ≤ mz_sl sh' := by
  intro n
  induction n with
  | zero => intro i pc L S sh m v sh' m' h; cases h
  | succ n ih =>
    intro i pc L S sh m v sh' m' h
    simp only [mz_run] at h
    cases hM : mz_md[i]? with
    | none => rw [hM] at h; cases h
    | some M =>
      rw [hM] at h
      simp only at h
      cases hat : mz_at M.2.2.2.2.2.2 pc with
      | none => rw [hat] at h; cases h
      | some q =>
        obtain ⟨ins, len, r1, r2, val⟩ := q
        rw [hat] at h
        simp only at h
        cases hrt : mz_rt M.2.2.2.1 ins S with
        | some x =>
          rw [hrt] at h
          cases x with
          | none => cases h
          | some w => cases h; exact ⟨Nat.le_refl _, Nat.le_refl _⟩
        | none =>
          rw [hrt] at h
          simp only at h
          cases hc : mz_isc ins r1 with
          | true =>
            simp only [hc, cond_true] at h
            cases hk : mz_cok ins r2 val L S sh with
            | false => simp only [hk, cond_false] at h; cases h
            | true =>
              simp only [hk, cond_true] at h
              cases hN : mz_md[r1]? with
              | none => rw [hN] at h; cases h
              | some N =>
                rw [hN] at h
                simp only at h
                cases hle : Nat.ble (mz_en (S.take r2).reverse).length N.2.2.1 with
                | false => simp only [hle, cond_false] at h; cases h
                | true =>
                  simp only [hle, cond_true] at h
                  cases hr : mz_run X n r1 0 (mz_L0 N.2.2.1 (S.take r2).reverse) [] sh m with
                  | none => rw [hr] at h; cases h
                  | some q =>
                    obtain ⟨v1, sh1, m1⟩ := q
                    rw [hr] at h
                    have h1 := ih _ _ _ _ _ _ _ _ _ hr
                    have h2 := ih _ _ _ _ _ _ _ _ _ h
                    omega
          | false =>
            simp only [hc, cond_false] at h
            cases hx : mz_ex X ins r1 r2 val pc L S sh m with
            | none => rw [hx] at h; cases h
            | some q =>
              obtain ⟨g, pc1, L1, S1, sh1, m1⟩ := q
              rw [hx] at h
              cases g with
              | false => cases h
              | true =>
                have h1 := mz_ex_mono _ _ _ _ _ _ _ _ _ _ _ _ hx
                have h2 := ih _ _ _ _ _ _ _ _ _ h
                simp only at h1
                omega
theorem mz_en_len {f : Value → Value} (hf : ∀ v, (f v).category = v.category) : ∀ vs : List Value, (lg_sl (vs.map f)).length = (mz_en vs).length := by
  intro vs
  induction vs with
  | nil => rfl
  | cons v t ih =>
    have e1 : lg_sl ((v :: t).map f) = (if (f v).category = 2 then [Slot.val (f v), Slot.second] else [Slot.val (f v)]) ++ lg_sl (t.map f) := rfl
    rw [e1, List.length_append, ih, hf]
    cases v <;> simp [mz_en, Value.category] <;> omega
theorem mz_en_args {f : Value → Value} (hf : ∀ v, (f v).category = v.category) : ∀ (vs : List Value) (i k : Nat), mz_lv f i (mz_en vs ++ List.replicate k none) = lv_args i (vs.map f) := by
  intro vs
  induction vs with
  | nil =>
    intro i k
    simp only [mz_en, List.nil_append, List.map_nil, lv_args]
    induction k generalizing i with
    | zero => rfl
    | succ k ih => rw [List.replicate_succ]; exact ih (i + 1)
  | cons v t ih =>
    intro i k
    have e1 : lv_args i ((v :: t).map f) = (i, f v) :: lv_args (if (f v).category = 2 then i + 2 else i + 1) (t.map f) := rfl
    rw [e1, hf]
    cases v <;> simp [mz_en, mz_lv, Value.category, ih]
/-- the end of a method that is called -/
def mz_Qc (X : mz_X) (D : va_G) (cy : FieldType → ClassId) (ov : Nat → Value) (ad : Nat → Nat) (sh : List mz_K) (mm : mz_M) (sz : Nat) (v : Option Value) (sh' : List mz_K) (mm' : mz_M) : Array Value → State → Outcome → State → Prop := fun _ st o t =>
  ∃ ad' : Nat → Nat, o = .returned (v.map (mz_v ad' ov)) ∧ (∀ k, k < sh.length → ad' k = ad k) ∧ va_P D vwCl (mz_W cy ad' mm' 0 sh') t.heap ∧ va_D (va_A (mz_W cy ad mm 0 sh) sz) (mz_W cy ad' mm' 0 sh') ∧ va_F (va_A (mz_W cy ad mm 0 sh) sz) st t ∧ mz_wf sh' ∧ sh'.length ≤ mz_B
def mz_Pc (X : mz_X) (D : va_G) (cy : FieldType → ClassId) (ov : Nat → Value) (ad : Nat → Nat) (sh : List mz_K) (mm : mz_M) (sz : Nat) (vs : List Value) : Array Value → State → Prop :=
  va_Pc (vs.map (mz_v ad ov)) (fun U => U.heap.size = sz ∧ va_P D vwCl (mz_W cy ad mm 0 sh) U.heap ∧ va_K D vwCl (mz_tys cy) U ∧ va_D (fun _ => True) (mz_W cy ad mm 0 sh) ∧ mz_Old X ov (va_A (mz_W cy ad mm 0 sh) sz) U U.heap)
def mz_ws (N : mz_D) : List Cond := Cond.code N.1 N.2.1 N.2.2.1 N.2.2.2.1 :: mz_lw
/-- what the induction says -/
def mz_Sim (X : mz_X) (n : Nat) : Prop := ∀ (i pc : Nat) (L : mz_L) (S : List Value) (sh : List mz_K) (mm : mz_M) (v : Option Value) (sh' : List mz_K) (mm' : mz_M) (M : mz_D), mz_run X n i pc L S sh mm = some (v, sh', mm') → mz_md[i]? = some M →
  ∀ (p : Program) (l : Launch) (e : Env) (R : Room) (s : State) (m : MethodId) (args : Array Value) (below : List Frame) (meth : Method) (c : Code) (D : va_G) (cy : FieldType → ClassId) (A : Nat → Prop) (ov : Nat → Value) (ad : Nat → Nat) (Q : State → Prop) (H : Heap) (locs : List Loc) (ls : Array Slot) (cells slots : Nat),
    mz_Cx X M p R s m args meth c D cy A ov → mz_Rl D cy A s H locs ad sh mm → lv_has ls M.2.2.1 (mz_lv (mz_v ad ov) 0 L) → cells + (sh'.length - sh.length) ≤ R.cells → slots + (mz_sl sh' - mz_sl sh) ≤ R.slots →
    (∀ (ad' : Nat → Nat) (H' : Heap) (locs' : List Loc) (ls' : Array Slot) (pc' : Nat) (ins : Instr), (∀ k, k < sh.length → ad' k = ad k) → mz_Rl D cy A s H' locs' ad' sh' mm' → decode M.2.1 pc' = .ok (ins, 1) → mz_rt M.2.2.2.1 ins v.toList = some (some v) → W p l e R s m args below meth c H' locs' (cells + (sh'.length - sh.length)) (slots + (mz_sl sh' - mz_sl sh)) Q (F0 m pc' ls' (v.toList.map (mz_v ad' ov)))) →
    W p l e R s m args below meth c H locs cells slots Q (F0 m pc ls (S.map (mz_v ad ov)))
theorem mz_rt_S {ret : Option FieldType} {ins : Instr} {S : List Value} {v : Option Value} (h : mz_rt ret ins S = some (some v)) : S = v.toList ∧ mz_ln ins = 1 := by
  unfold mz_rt at h
  simp only [cond_eq_ite] at h
  (repeat' split at h) <;> first | (cases h; done) | (cases h; exact ⟨rfl, rfl⟩)
set_option maxHeartbeats 4000000 in
theorem mz_met {n : Nat} (hT : mz_Tab) (hS : mz_Sim X n) {j : Nat} {N : mz_D} (hj : 0 < j) (hN : mz_md[j]? = some N) {vs : List Value} (hvs : (mz_en vs).length ≤ N.2.2.1) {sh' : List mz_K} {mm' : mz_M} {v : Option Value} (hrun : mz_run X n j 0 (mz_L0 N.2.2.1 vs) [] sh mm = some (v, sh', mm')) (hwf : mz_wf sh) (hle : sh.length ≤ mz_B) (l : Launch) (D : va_G) (cy : FieldType → ClassId) (ov : Nat → Value) (ad : Nat → Nat) (sz : Nat) :
    Met l N.1 (mz_ws N) { frames := N.2.2.2.2.1, cells := sh'.length - sh.length, slots := mz_sl sh' - mz_sl sh, locals := N.2.2.2.2.2.1 } (mz_Pc X D cy ov ad sh mm sz vs) (mz_Qc X D cy ov ad sh mm sz v sh' mm') (sh'.length - sh.length) (mz_sl sh' - mz_sl sh) (va_A (mz_W cy ad mm 0 sh) sz) := by
  refine Met.ofW (cc := N.2.1) (maxL := N.2.2.1) (ret := N.2.2.2.1) (hT.2 j N hj hN).2 rfl ?_
  intro p e s m args below meth c s₁ B hml hv
  obtain ⟨rfl, hsz, hP, hK, hD0, hO⟩ := hv
  have ho := hO.2.2.2.1
  have hx := B.exec
  have hb := B.bytes
  have hr := B.returns
  have hts0 := atoms_spec (ws := mz_ws N) B.pre
  have hts : ∀ w ∈ mz_lw, w.before _ s = true := fun w hw => hts0 w (List.mem_cons_of_mem _ hw)
  have hown : s.vm.findClass N.1.cls = some m.cls := findClass_of_methodNamed B.named
  have hlocks := B.notSynchronized
  have hin : meth.name = N.1.name := (name_of_methodNamed B.named B.method).1
  subst hsz
  have hD := hD0.self (sz := s.heap.size)
  have hl := lv_entry (vs.map (mz_v ad ov)) (n := N.2.2.1) (by rw [mz_en_len (mz_v_cat ad ho)]; exact hvs)
  rw [lg_entry_eq]
  generalize (lg_sl (vs.map (mz_v ad ov)) ++ List.replicate (N.2.2.1 - (lg_sl (vs.map (mz_v ad ov))).length) Slot.unset).toArray = ls at hl ⊢
  rw [← mz_en_args (mz_v_cat ad ho) vs 0 (N.2.2.1 - (mz_en vs).length)] at hl
  have hS0 : va_S (va_A (mz_W cy ad mm 0 sh) s.heap.size) s.heap s.heap [] := va_S.rf
  refine hS j 0 (mz_L0 N.2.2.1 vs) [] sh mm v sh' mm' N hrun hN p l e _ s m _ below meth c D cy (va_A (mz_W cy ad mm 0 sh) s.heap.size) ov ad _ s.heap [] ls 0 0 ⟨hx, hb, hml, hown, hts, fun h => hin.trans h, hK, hO, fun q h => Or.inr h, Nat.le_refl _, Nat.le_refl _⟩ ⟨hP, hD, hS0, hwf, hle⟩ hl (Nat.le_of_eq (Nat.zero_add _)) (Nat.le_of_eq (Nat.zero_add _)) ?_
  intro ad' H' locs' ls' pc' ins hag hR' hd' hrt
  rw [Nat.zero_add, Nat.zero_add]
  have hq : ∀ t : State, t.heap = H' → s.WarmedH t.vm → mz_Qc X D cy ov ad sh mm s.heap.size v sh' mm' (vs.map (mz_v ad ov)).toArray s (.returned (v.map (mz_v ad' ov))) t := by
    intro t ht _
    refine ⟨ad', rfl, hag, by rw [ht]; exact hR'.1, hR'.2.1, ⟨by rw [ht]; exact hR'.2.2.1.1, fun q h1 h2 => by rw [ht]; exact hR'.2.2.1.2.1 q h1 h2⟩, hR'.2.2.2.1, hR'.2.2.2.2⟩
  cases ins with
  | ireturn =>
    cases hret : N.2.2.2.1 with
    | none => rw [hret] at hrt; cases v <;> cases hrt
    | some ty =>
      rw [hret] at hrt hr
      cases v with
      | none => cases ty <;> cases hrt
      | some v =>
        cases v with
        | int x =>
          have hn : narrow ty (.int x) = .int x := by
            cases ty with
            | int => rfl
            | boolean =>
              simp only [mz_rt, Option.toList, cond_eq_ite] at hrt
              split at hrt
              · rename_i h
                rw [Bool.or_eq_true, decide_eq_true_eq, decide_eq_true_eq] at h
                rcases h with h | h <;> subst h <;> decide
              · cases hrt
            | char =>
              simp only [mz_rt, Option.toList, cond_eq_ite] at hrt
              split at hrt
              · rename_i h
                rwa [decide_eq_true_eq] at h
              · cases hrt
            | byte =>
              simp only [mz_rt, Option.toList, cond_eq_ite] at hrt
              split at hrt
              · rename_i h
                rwa [decide_eq_true_eq] at h
              · cases hrt
            | _ => cases hrt
          exact W.zret hx hb hr hn hq hR'.2.2.1.2.2 hd'
        | _ => cases ty <;> cases hrt
  | return_ =>
    cases hret : N.2.2.2.1 with
    | some ty => rw [hret] at hrt; cases v <;> cases hrt
    | none =>
      rw [hret] at hrt hr
      cases v with
      | none => exact W.vret hx hb hr hq hR'.2.2.1.2.2 hd'
      | some v => cases hrt
  | areturn =>
    cases hret : N.2.2.2.1 with
    | none => rw [hret] at hrt; cases v <;> cases hrt
    | some ty =>
      rw [hret] at hrt hr
      cases v with
      | none => cases ty <;> cases hrt
      | some v =>
        cases v with
        | ref k =>
          cases ty with
          | object nm =>
            exact W.aret hx hb hr (Or.inl ⟨_, rfl⟩) (mz_v_ref ad' ho k) hq hR'.2.2.1.2.2 hd'
          | _ => cases hrt
        | _ => cases ty <;> cases hrt
  | _ => cases hrt
end
