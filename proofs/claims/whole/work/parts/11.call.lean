section
variable {p : Program} {l : Launch} {e : Env} {R : Room} {s : State} {m : MethodId} {args : Array Value} {below : List Frame} {meth : Method} {c : Code} {Q : State → Prop} {H : Heap} {locs : List Loc} {cells slots : Nat}
variable {X : mz_X} {M : mz_D} {D : va_G} {cy : FieldType → ClassId} {A : Nat → Prop} {ov : Nat → Value} {ad : Nat → Nat}
variable {pc : Nat} {ls : Array Slot} {L : mz_L} {S : List Value} {sh : List mz_K} {mm : mz_M}
theorem mz_blind {sz : Nat} {vs : List Value} : FrameBlind (mz_Pc X D cy ov ad sh mm sz vs) := by
  intro a U g mk q
  obtain ⟨q0, q1, qP, qK, qD, qO⟩ := q
  exact ⟨q0, q1, qP, va_K.moved (u := U) (U := U.calling g mk a) (Vm.Alike.refl U.vm) qK, qD, mz_Old.same (s := U) (U := U.calling g mk a) rfl qO⟩
theorem mz_sub (hR : mz_Rl D cy A s H locs ad sh mm) (hA : ∀ q, s.heap.size ≤ q → A q) : ∀ q, va_A (mz_W cy ad mm 0 sh) H.size q → A q := by
  intro q h
  rcases h with ⟨k, e, h⟩ | h
  · exact hR.2.1.2 k (q, e) h
  · exact hA q (Nat.le_trans hR.2.2.1.1 h)
theorem mz_pre (C0 : mz_Cx X M p R s m args meth c D cy A ov) (hR : mz_Rl D cy A s H locs ad sh mm) (vs : List Value) : ∀ U : State, U.heap = H → s.WarmedH U.vm → mz_Pc X D cy ov ad sh mm H.size vs (vs.map (mz_v ad ov)).toArray U := by
  obtain ⟨hx, hb, hml, hown, hts, hin, hK, hO, hA, hRf, hRl⟩ := C0
  intro U hU hW
  refine ⟨rfl, by rw [hU], by rw [hU]; exact hR.1, va_K.moved hW.alike hK, hR.2.1.weaken (fun _ _ _ _ => trivial), ?_⟩
  rw [hU]
  have h1 : mz_Old X ov A s H := hO.kept hR.2.2.1.2.1
  exact (h1.warm hW).narrow (mz_sub hR hA)
/-- behind a call -/
theorem mz_call_end (C0 : mz_Cx X M p R s m args meth c D cy A ov) (hR : mz_Rl D cy A s H locs ad sh mm) {sh1 : List mz_K} {mm1 : mz_M} {v : Option Value} {mc ms : Nat} {a : Array Value} {rest : List Value} {st0 : List Value}
    (hr : va_Run p l e R s m args below meth c H locs cells slots mc ms (F0 m pc ls st0) rest (mz_Qc X D cy ov ad sh mm H.size v sh1 mm1 a) (va_A (mz_W cy ad mm 0 sh) H.size))
    (kk : ∀ (ad' : Nat → Nat) (H' : Heap) (locs' : List Loc), (∀ k, k < sh.length → ad' k = ad k) → mz_Rl D cy A s H' locs' ad' sh1 mm1 → W p l e R s m args below meth c H' locs' (cells + mc) (slots + ms) Q (F0 m (pc + 3) ls ((v.map (mz_v ad' ov)).toList ++ rest))) :
    W p l e R s m args below meth c H locs cells slots Q (F0 m pc ls st0) := by
  intro T hT Xs
  obtain ⟨v1, st₀, t, T', L', h0, X', hL, e1, e2, ⟨ad', ho, hag, hP', hD', hF, hwf, hle⟩, st⟩ := hr T hT Xs
  cases ho
  have hA : ∀ q, s.heap.size ≤ q → A q := C0.2.2.2.2.2.2.2.2.1
  have hsub := mz_sub hR hA
  rw [va_F, h0] at hF
  have g := kk ad' t.heap (locs ++ L') hag ⟨hP', hD'.weaken (fun _ _ _ z => hsub _ z), ⟨Nat.le_trans hR.2.2.1.1 hF.1, fun q h1 h2 => (hF.2 q (Nat.lt_of_lt_of_le h1 hR.2.2.1.1) (fun z => h2 (hsub q z))).trans (hR.2.2.1.2.1 q h1 h2), fun z hz => by
    rcases List.mem_append.mp hz with hz | hz
    · exact hR.2.2.1.2.2 z hz
    · exact hsub _ (hL z hz)⟩, hwf, hle⟩
  obtain ⟨t2, a1, b1⟩ := g T' e1 X'
  exact ⟨t2, st t2 a1, b1⟩
theorem mz_goodIn (hT : mz_Tab) {j : Nat} {N : mz_D} (hj : 0 < j) (hN : mz_md[j]? = some N) : GoodIn mz_lw (mz_ws N) := by
  intro w hw
  rcases List.mem_cons.mp hw with h | h
  · subst h
    exact ⟨(hT.2 j N hj hN).1, Or.inl rfl⟩
  · exact ⟨h, good_of_word (List.mem_filter.mp h).2⟩
set_option maxHeartbeats 4000000 in
theorem mz_call {n : Nat} (hT : mz_Tab) (hS : mz_Sim X n) (hG : mz_Good M) (C0 : mz_Cx X M p R s m args meth c D cy A ov) {ins : Instr} {len r1 r2 : Nat} {val : Value} (hat : mz_at M.2.2.2.2.2.2 pc = some (ins, len, r1, r2, val)) (hc : mz_isc ins r1 = true) (hk : mz_cok ins r2 val L S sh = true) {N : mz_D} (hN : mz_md[r1]? = some N) (hle : Nat.ble (mz_en (S.take r2).reverse).length N.2.2.1 = true) {v : Option Value} {sh1 : List mz_K} {mm1 : mz_M} (hrun : mz_run X n r1 0 (mz_L0 N.2.2.1 (S.take r2).reverse) [] sh mm = some (v, sh1, mm1))
    (hR : mz_Rl D cy A s H locs ad sh mm) (hl : lv_has ls M.2.2.1 (mz_lv (mz_v ad ov) 0 L)) (hrc : cells + (sh1.length - sh.length) ≤ R.cells) (hrs : slots + (mz_sl sh1 - mz_sl sh) ≤ R.slots)
    (kk : ∀ (ad' : Nat → Nat) (H' : Heap) (locs' : List Loc), (∀ k, k < sh.length → ad' k = ad k) → mz_Rl D cy A s H' locs' ad' sh1 mm1 → W p l e R s m args below meth c H' locs' (cells + (sh1.length - sh.length)) (slots + (mz_sl sh1 - mz_sl sh)) Q (F0 m (pc + 3) ls ((v.toList ++ S.drop r2).map (mz_v ad' ov)))) :
    W p l e R s m args below meth c H locs cells slots Q (F0 m pc ls (S.map (mz_v ad ov))) := by
  obtain ⟨hd, hln, hck, hw0⟩ := hG pc ins len r1 r2 val hat
  obtain ⟨hx, hb, hml, hown, hts, hin, hK, hO, hA, hRf, hRl⟩ := id C0
  have ho := hO.2.2.2.1
  have hwd : ∀ w ∈ mz_wd M.1.cls ins r1 r2 val, w.before args s = true := fun w hw => hts w (hw0 w hw)
  have hj : 0 < r1 := by
    cases ins <;> first | (simp only [mz_isc, Bool.and_eq_true, Nat.blt_eq] at hc; exact hc.1) | cases hc
  have hj2 : r1 < 9000 := by
    cases ins <;> first | (simp only [mz_isc, Bool.and_eq_true, Nat.blt_eq] at hc; exact hc.2) | cases hc
  have hn98 : Nat.beq r1 9998 = false := by
    rw [Bool.eq_false_iff]; intro z; have := Nat.eq_of_beq_eq_true z; omega
  have hn97 : Nat.beq r1 9997 = false := by
    rw [Bool.eq_false_iff]; intro z; have := Nat.eq_of_beq_eq_true z; omega
  have hn96 : Nat.beq r1 9996 = false := by
    rw [Bool.eq_false_iff]; intro z; have := Nat.eq_of_beq_eq_true z; omega
  have hn99 : Nat.beq r1 9999 = false := by
    rw [Bool.eq_false_iff]; intro z; have := Nat.eq_of_beq_eq_true z; omega
  have hM := mz_met (mm := mm) hT hS hj hN (Nat.le_of_ble_eq_true hle) hrun hR.2.2.2.1 hR.2.2.2.2 l D cy ov ad H.size
  have hGi := mz_goodIn hT hj hN
  simp only [mz_cok, Bool.and_eq_true, Nat.ble_eq] at hk
  obtain ⟨k1, k2, k3, k4, k5⟩ := hk
  have hrest : (((S.drop r2).map (mz_v ad ov)).map fun v => v.category).sum ≤ 8 := by rw [mz_cat_map ho]; exact k2
  have hwS : mz_wS sh.length (S.drop r2) = true := by
    have aux : ∀ (k : Nat) (S : List Value), mz_wS sh.length S = true → mz_wS sh.length (S.drop k) = true := by
      intro k
      induction k with
      | zero => intro S h; exact h
      | succ k ih =>
        intro S h
        cases S with
        | nil => rfl
        | cons x t =>
          simp only [mz_wS, Bool.and_eq_true] at h
          exact ih t h.2
    exact aux r2 S k4
  have hend : ∀ {a : Array Value} (hr : va_Run p l e R s m args below meth c H locs cells slots (sh1.length - sh.length) (mz_sl sh1 - mz_sl sh) (F0 m pc ls (S.map (mz_v ad ov))) ((S.drop r2).map (mz_v ad ov)) (mz_Qc X D cy ov ad sh mm H.size v sh1 mm1 a) (va_A (mz_W cy ad mm 0 sh) H.size)), W p l e R s m args below meth c H locs cells slots Q (F0 m pc ls (S.map (mz_v ad ov))) := by
    intro a hr
    refine mz_call_end C0 hR hr (fun ad' H' locs' hag hR' => ?_)
    have g := kk ad' H' locs' hag hR'
    rw [List.map_append, mz_wS_v hR.2.2.2.2 hag _ hwS] at g
    rw [show (v.map (mz_v ad' ov)).toList = v.toList.map (mz_v ad' ov) by cases v <;> rfl]
    exact g
  have hsplit : S = (S.take r2).reverse.reverse ++ S.drop r2 := by rw [List.reverse_reverse, List.take_append_drop]
  have hlenT : (S.take r2).reverse.length = r2 := by rw [List.length_reverse, List.length_take]; omega
  cases ins with
  | invokestatic idx =>
    have e1 : len = 3 := hln.resolve_left (by simp [mz_ln])
    rw [e1] at hd
    simp only [mz_ck, hn97, hn96, Bool.or_self, hn98, cond_false, hN, mz_cal, Bool.and_eq_true, decide_eq_true_eq, Nat.ble_eq] at hck
    obtain ⟨q1, q2, q3, q4, q5⟩ := hck
    have hws : ∀ w ∈ ([.methodLink M.1.cls idx N.1, .static N.1, .initialized N.1.cls] : List Cond), w.before args s = true := fun w hw => hwd w (by simp only [mz_wd, hn97, hn96, hn98, cond_false, hN]; exact hw)
    refine hend (va_runS (As := (S.take r2).reverse.map (mz_v ad ov)) (rest := (S.drop r2).map (mz_v ad ov)) ⟨hx, hb, hml, hown, hts⟩ hM ⟨callB_of (ws' := mz_lw) r2 hts hGi rfl rfl rfl (hws _ (by simp)) (hws _ (by simp)) ⟨q4, q5, q1⟩ ⟨by show N.2.2.2.2.1 + 1 ≤ _; omega, by show 8 + (N.2.2.1 + 11) + N.2.2.2.2.2.1 ≤ _; omega⟩, hws _ (by simp)⟩ ⟨mz_blind, mz_pre C0 hR _⟩ rfl (by rw [List.length_map]; exact hlenT) hl.1 ?_ (lv_room hrest) hd ⟨hrc, hrs⟩)
    show S.map (mz_v ad ov) = _
    rw [← List.map_reverse, ← List.map_append]
    congr 1
  | invokevirtual idx =>
    have e1 : len = 3 := hln.resolve_left (by simp [mz_ln])
    rw [e1] at hd
    simp only [mz_ck, hN, mz_cal, Bool.and_eq_true, decide_eq_true_eq, Nat.ble_eq] at hck
    obtain ⟨⟨q1, q2, q3, q4, q5⟩, q6, q7⟩ := hck
    have hws : ∀ w ∈ ([.methodLink M.1.cls idx N.1, .instanceMethod N.1, .selects N.1.cls N.1 N.1, .initialized N.1.cls] : List Cond), w.before args s = true := fun w hw => hwd w (by simp only [mz_wd, hN]; exact hw)
    simp only at k5
    cases hrev : (S.take r2).reverse with
    | nil => rw [hrev] at k5; cases k5
    | cons v0 as =>
      rw [hrev] at k5
      cases v0 with
      | ref a =>
        simp only at k5
        have hcell : ∃ (b : Nat) (cellB : Cell), mz_v ad ov (.ref a) = .ref b ∧ H[b]? = some cellB ∧ cellB.vm.isStatics = false ∧ s.vm.findClass N.1.cls = some cellB.cls := by
          cases val with
          | ref ci =>
            simp only [mz_rc] at k5
            cases hs : sh[a]? with
            | none => rw [hs] at k5; cases k5
            | some kd =>
              rw [hs] at k5
              rcases kd with ⟨ty, z⟩ | ⟨ci', fs⟩
              · cases k5
              · simp only [Bool.and_eq_true] at k5
                have hci : ci' = ci := Nat.eq_of_beq_eq_true k5.1
                subst hci
                simp only at q7
                cases hq : vwCl[ci']? with
                | none => rw [hq] at q7; cases q7
                | some q =>
                  rw [hq] at q7
                  simp only [decide_eq_true_eq] at q7
                  obtain ⟨cell, g1, g2, g3⟩ := va_recv hK hR.1 (ci := ci') (q0 := a) hq (mz_W_at hs)
                  exact ⟨ad a, cell, mz_v_lo k5.2, g1, g2, by rw [← q7]; exact g3⟩
          | null =>
            simp only [mz_rc, Bool.and_eq_true, Nat.ble_eq, Nat.blt_eq] at k5
            simp only [decide_eq_true_eq] at q7
            have hlt : a - (mz_B + 10) < mz_txs.length := k5.2
            obtain ⟨t, t1, t2, t3, t4, t5⟩ := hO.2.2.1 _ _ (List.getElem?_eq_getElem hlt)
            rw [mz_ar1 k5.1] at t1
            obtain ⟨cell, g1, g2, g3, -⟩ := t3.kept hR.2.2.1.2.1
            exact ⟨t, cell, by rw [mz_v_hi (mz_nblt (mz_ar3 k5.1)), t1], g1, g2, by rw [q7]; exact g3⟩
          | _ => cases k5
        obtain ⟨b, cellB, hb0, hb1, hb2, hb3⟩ := hcell
        rw [hrev] at hM hlenT hsplit
        have hpre := mz_pre C0 hR (Value.ref a :: as)
        rw [List.map_cons, hb0] at hpre
        refine hend (va_runV (C := N.1.cls) (As := as.map (mz_v ad ov)) (b := b) (rest := (S.drop r2).map (mz_v ad ov)) ⟨hx, hb, hml, hown, hts⟩ hM ⟨callB_of (ws' := mz_lw) (r2 - 1) hts hGi rfl rfl rfl (hws _ (by simp)) (hws _ (by simp)) ⟨q4, q5, q1⟩ ⟨by show N.2.2.2.2.1 + 1 ≤ _; omega, by show 8 + (N.2.2.1 + 11) + N.2.2.2.2.2.1 ≤ _; omega⟩, hws _ (by simp), hws _ (by simp)⟩ ⟨mz_blind, ⟨cellB, hb1, hb2, hb3⟩, hpre⟩ rfl (by rw [List.length_map]; simp only [List.length_cons] at hlenT; omega) hl.1 ?_ (lv_room hrest) hd ⟨hrc, hrs⟩)
        show S.map (mz_v ad ov) = _
        have hsm := congrArg (List.map (mz_v ad ov)) hsplit
        rw [hsm]
        simp only [List.reverse_cons, List.append_assoc, List.map_append, List.map_cons, List.map_nil, List.singleton_append, hb0, List.map_reverse]
      | _ => cases k5
  | invokespecial idx =>
    have e1 : len = 3 := hln.resolve_left (by simp [mz_ln])
    rw [e1] at hd
    simp only [mz_ck, hn99, cond_false, hN, mz_cal, Bool.and_eq_true, decide_eq_true_eq, Nat.ble_eq] at hck
    obtain ⟨⟨q1, q2, q3, q4, q5⟩, q6, q7, q8, q9⟩ := hck
    simp only at k5
    cases hrev : (S.take r2).reverse with
    | nil => rw [hrev] at k5; cases k5
    | cons v0 as =>
      rw [hrev] at k5
      cases v0 with
      | ref a =>
        simp only at k5
        have hb0 : mz_v ad ov (.ref a) = .ref (ad a) := mz_v_lo k5
        rw [hrev] at hM hlenT hsplit
        have hpre := mz_pre C0 hR (Value.ref a :: as)
        rw [List.map_cons, hb0] at hpre
        have hst : S.map (mz_v ad ov) = (as.map (mz_v ad ov)).reverse ++ Value.ref (ad a) :: (S.drop r2).map (mz_v ad ov) := by
          have hsm := congrArg (List.map (mz_v ad ov)) hsplit
          rw [hsm]
          simp only [List.reverse_cons, List.append_assoc, List.map_append, List.map_cons, List.map_nil, List.singleton_append, hb0, List.map_reverse]
        have hnest : (∀ b, val ≠ .int b) ∨ ∃ b, val = .int b := by
          cases val <;> first | exact Or.inr ⟨_, rfl⟩ | exact Or.inl (fun b z => by cases z)
        rcases hnest with hv | ⟨b, hv⟩
        · have hws : ∀ w ∈ ([.methodLink M.1.cls idx N.1, .instanceMethod N.1, .initialized N.1.cls] : List Cond), w.before args s = true := fun w hw => hwd w (by
            simp only [mz_wd, hn99, cond_false, hN]
            cases val <;> first | exact hw | exact absurd rfl (hv _))
          refine hend (va_runI (n := r2 - 1) (bytes := N.2.1) (maxL := N.2.2.1) (As := as.map (mz_v ad ov)) (b := ad a) (rest := (S.drop r2).map (mz_v ad ov)) ⟨hx, hb, hml, hown, hts⟩ hM ⟨?_, q7, hws _ (by simp)⟩ ⟨mz_blind, hpre⟩ rfl (by rw [List.length_map]; simp only [List.length_cons] at hlenT; omega) hl.1 hst (lv_room hrest) hd ⟨hrc, hrs⟩)
          exact callB_of (ret := none) (ws' := mz_lw) (r2 - 1) hts hGi (by rw [mz_ws, q8]) rfl rfl (hws _ (by simp)) (hws _ (by simp)) ⟨q4, q5, q1⟩ ⟨by show N.2.2.2.2.1 + 1 ≤ _; omega, by show 8 + (N.2.2.1 + 11) + N.2.2.2.2.2.1 ≤ _; omega⟩
        · have hws : ∀ w ∈ ([.instanceMethod N.1, .initialized N.1.cls] : List Cond), w.before args s = true := fun w hw => hwd w (by
            simp only [mz_wd, hn99, cond_false, hN, hv]
            exact hw)
          have hnst : (M.1.cls, idx, N.1) ∈ mz_nst := by
            rw [hv] at q9
            simpa using q9
          refine hend (va_runIN (n := r2 - 1) (bytes := N.2.1) (maxL := N.2.2.1) (host := "TinyFront") (As := as.map (mz_v ad ov)) (b := ad a) (rest := (S.drop r2).map (mz_v ad ov)) ⟨hx, hb, hml, hown, hts⟩ hM ⟨?_, q7, hws _ (by simp)⟩ ⟨mz_blind, hpre⟩ rfl (by rw [List.length_map]; simp only [List.length_cons] at hlenT; omega) hl.1 hst (lv_room hrest) hd ⟨hrc, hrs⟩)
          exact va_cnB (ret := none) (ws' := mz_lw) (r2 - 1) hts hGi (by rw [mz_ws, q8]) rfl rfl (hO.2.2.2.2 _ hnst) (hws _ (by simp)) ⟨q4, q5, q1⟩ ⟨by show N.2.2.2.2.1 + 1 ≤ _; omega, by show 8 + (N.2.2.1 + 11) + N.2.2.2.2.2.1 ≤ _; omega⟩
      | _ => cases k5
  | _ => cases hc
set_option maxHeartbeats 4000000 in
theorem mz_sim (X : mz_X) (hT : mz_Tab) : ∀ n, mz_Sim X n := by
  intro n
  induction n with
  | zero => intro i pc L S sh mm v sh' mm' M h; cases h
  | succ n ih =>
    intro i pc L S sh mm v sh' mm' M h hM p l e R s m args below meth c D cy A ov ad Q H locs ls cells slots C0 hR hl hrc hrs kk
    have hG := hT.1 i M hM
    have hmono := mz_run_mono X (n + 1) i pc L S sh mm v sh' mm' h
    simp only [mz_run, hM] at h
    cases hat : mz_at M.2.2.2.2.2.2 pc with
    | none => rw [hat] at h; cases h
    | some q =>
      obtain ⟨ins, len, r1, r2, val⟩ := q
      rw [hat] at h
      simp only at h
      cases hrt : mz_rt M.2.2.2.1 ins S with
      | some x =>
        rw [hrt] at h
        cases x with
        | none => cases h
        | some w =>
          cases h
          obtain ⟨hS, hln1⟩ := mz_rt_S hrt
          obtain ⟨hd, hln, -, -⟩ := hG pc ins len r1 r2 val hat
          have e1 : len = 1 := by rw [hln.resolve_left (by rw [hln1]; decide), hln1]
          rw [e1] at hd
          have g := kk ad H locs ls pc ins (fun _ _ => rfl) hR hd (by rw [← hS]; exact hrt)
          rw [← hS] at g
          simpa using g
      | none =>
        rw [hrt] at h
        simp only at h
        cases hc : mz_isc ins r1 with
        | true =>
          simp only [hc, cond_true] at h
          cases hk : mz_cok ins r2 val L S sh with
          | false => simp only [hk, cond_false] at h; cases h
          | true =>
            simp only [hk, cond_true] at h
            cases hN : mz_md[r1]? with
            | none => rw [hN] at h; cases h
            | some N =>
              rw [hN] at h
              simp only at h
              cases hle : Nat.ble (mz_en (S.take r2).reverse).length N.2.2.1 with
              | false => simp only [hle, cond_false] at h; cases h
              | true =>
                simp only [hle, cond_true] at h
                cases hr : mz_run X n r1 0 (mz_L0 N.2.2.1 (S.take r2).reverse) [] sh mm with
                | none => rw [hr] at h; cases h
                | some q =>
                  obtain ⟨v1, sh1, m1⟩ := q
                  rw [hr] at h
                  simp only at h
                  have h1 := mz_run_mono X _ _ _ _ _ _ _ _ _ _ hr
                  have h2 := mz_run_mono X _ _ _ _ _ _ _ _ _ _ h
                  have hwL : mz_wL sh.length L = true := by
                    simp only [mz_cok, Bool.and_eq_true] at hk
                    exact hk.2.2.1
                  refine mz_call hT ih hG C0 hat hc hk hN hle hr hR hl (by omega) (by omega) (fun ad' H' locs' hag hR' => ?_)
                  refine ih i (pc + 3) L (v1.toList ++ S.drop r2) sh1 m1 v sh' mm' M h hM p l e R s m args below meth c D cy A ov ad' Q H' locs' ls _ _ C0 hR' (by rw [mz_wL_v hR.2.2.2.2 hag L 0 hwL]; exact hl) (by omega) (by omega) ?_
                  intro ad2 H2 locs2 ls2 pc2 ins2 hag2 hR2 hd2 hrt2
                  have g := kk ad2 H2 locs2 ls2 pc2 ins2 (fun k hk => (hag2 k (by omega)).trans (hag k hk)) hR2 hd2 hrt2
                  rw [show cells + (sh1.length - sh.length) + (sh'.length - sh1.length) = cells + (sh'.length - sh.length) by omega, show slots + (mz_sl sh1 - mz_sl sh) + (mz_sl sh' - mz_sl sh1) = slots + (mz_sl sh' - mz_sl sh) by omega]
                  exact g
        | false =>
          simp only [hc, cond_false] at h
          cases hx : mz_ex X ins r1 r2 val pc L S sh mm with
          | none => rw [hx] at h; cases h
          | some q =>
            obtain ⟨g, pc1, L1, S1, sh1, m1⟩ := q
            rw [hx] at h
            cases g with
            | false => cases h
            | true =>
              simp only at h
              have h1 := mz_ex_mono _ _ _ _ _ _ _ _ _ _ _ _ hx
              have h2 := mz_run_mono X _ _ _ _ _ _ _ _ _ _ h
              simp only at h1
              refine mz_sim1 hG C0 hat hR hl hx (by simp only; omega) (by simp only; omega) ?_
              intro ad' H' locs' ls' hag hR' hl'
              simp only at hR' hl' ⊢
              refine ih i pc1 L1 S1 sh1 m1 v sh' mm' M h hM p l e R s m args below meth c D cy A ov ad' Q H' locs' ls' _ _ C0 hR' hl' (by omega) (by omega) ?_
              intro ad2 H2 locs2 ls2 pc2 ins2 hag2 hR2 hd2 hrt2
              have g := kk ad2 H2 locs2 ls2 pc2 ins2 (fun k hk => (hag2 k (by omega)).trans (hag k hk)) hR2 hd2 hrt2
              rw [show cells + (sh1.length - sh.length) + (sh'.length - sh1.length) = cells + (sh'.length - sh.length) by omega, show slots + (mz_sl sh1 - mz_sl sh) + (mz_sl sh' - mz_sl sh1) = slots + (mz_sl sh' - mz_sl sh) by omega]
              exact g
end
