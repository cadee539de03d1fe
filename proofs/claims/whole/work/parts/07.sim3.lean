theorem mz_nblt {a b : Nat} (h : b ≤ a) : Nat.blt a b = false := by
  rw [Bool.eq_false_iff]; intro z; rw [Nat.blt_eq] at z; omega
theorem mz_ar1 {a b : Nat} (h : b + 10 ≤ a) : 10 + (a - (b + 10)) = a - b := by omega
theorem mz_ar2 {a b : Nat} (h : b + 10 ≤ a) : a + 20 - b = 30 + (a - (b + 10)) := by omega
theorem mz_ar3 {a b : Nat} (h : b + 10 ≤ a) : b ≤ a := by omega
theorem mz_ar4 {a b : Nat} (h : b + 10 ≤ a) : b ≤ a + 20 := by omega
theorem mz_wf_set {sh : List mz_K} {a ci r j : Nat} {fs : List (Option (Option Nat))} (hw : mz_wf sh) (h : sh[a]? = some (.inr (ci, fs))) (hj : j < sh.length ∧ j < mz_B) : mz_wf (sh.set a (.inr (ci, fs.set r (some (some j))))) := by
  intro a' ci' fs' k j' h1 h2
  rw [List.length_set]
  rw [List.getElem?_set] at h1
  by_cases e1 : a = a'
  · rw [if_pos e1] at h1
    split at h1
    · cases h1
      rw [List.getElem?_set] at h2
      by_cases e2 : r = k
      · rw [if_pos e2] at h2
        split at h2
        · cases h2; exact hj
        · cases h2
      · rw [if_neg e2] at h2
        exact hw a ci fs k j' h h2
    · cases h1
  · rw [if_neg e1] at h1
    exact hw a' ci' fs' k j' h1 h2
theorem mz_wf_push {sh : List mz_K} {c : mz_K} (hw : mz_wf sh) (hc : ∀ (ci : Nat) (fs : List (Option (Option Nat))) (k j : Nat), c = .inr (ci, fs) → fs[k]? = some (some (some j)) → False) : mz_wf (sh ++ [c]) := by
  intro a ci fs k j h1 h2
  rw [List.length_append, List.length_singleton]
  by_cases ha : a < sh.length
  · rw [List.getElem?_append_left ha] at h1
    have := hw a ci fs k j h1 h2
    omega
  · rw [List.getElem?_append_right (Nat.not_lt.mp ha)] at h1
    have hz : a - sh.length < 1 := (List.getElem?_eq_some_iff.mp h1).1
    rw [show a - sh.length = 0 by omega] at h1
    cases h1
    exact (hc ci fs k j rfl h2).elim
theorem mz_sl_set {sh : List mz_K} {a : Nat} {c c' : mz_K} (h : sh[a]? = some c) (h1 : mz_k1 c' = mz_k1 c) : mz_sl (sh.set a c') = mz_sl sh := by
  induction sh generalizing a with
  | nil => rfl
  | cons x t ih =>
    cases a with
    | zero =>
      simp only [List.getElem?_cons_zero, Option.some.injEq] at h
      subst h
      simp [mz_sl, h1]
    | succ a =>
      simp only [List.getElem?_cons_succ] at h
      have := ih h
      simp only [mz_sl, List.set_cons_succ, List.map_cons, List.sum_cons] at this ⊢
      rw [this]
theorem mz_n0_noref {ci k j : Nat} (h : (mz_n0 ci)[k]? = some (some (some j))) : False := by
  have hall : ∀ ci, (mz_n0 ci).all (fun x => match x with | some (some _) => false | _ => true) = true := by
    intro ci
    unfold mz_n0
    split <;> rfl
  have h1 := List.all_eq_true.mp (hall ci) _ (List.mem_of_getElem? h)
  cases h1
theorem mz_n0_ad (ad ad' : Nat → Nat) (g : Nat → Int32) (ci : Nat) : mz_fs ad' g 0 (mz_n0 ci) = mz_fs ad g 0 (mz_n0 ci) := by
  apply List.ext_getElem?
  intro k
  rw [mz_fs_get, mz_fs_get]
  cases hk : (mz_n0 ci)[k]? with
  | none => rfl
  | some x =>
    rcases x with _ | _ | j
    · rfl
    · rfl
    · exact (mz_n0_noref hk).elim
section
variable {p : Program} {l : Launch} {e : Env} {R : Room} {s : State} {m : MethodId} {args : Array Value} {below : List Frame} {meth : Method} {c : Code} {Q : State → Prop} {H : Heap} {locs : List Loc} {cells slots : Nat}
variable {X : mz_X} {M : mz_D} {D : va_G} {cy : FieldType → ClassId} {A : Nat → Prop} {ov : Nat → Value} {ad : Nat → Nat}
variable {pc : Nat} {ls : Array Slot} {L : mz_L} {S : List Value} {sh : List mz_K} {mm : mz_M}
set_option maxHeartbeats 4000000 in
theorem mz_s_get (C0 : mz_Cx X M p R s m args meth c D cy A ov) {idx len r1 r2 : Nat} {val : Value} (hd : decode M.2.1 pc = .ok (.getfield idx, len)) (hln : len = 3) (hwd : ∀ w ∈ mz_wd M.1.cls (.getfield idx) r1 r2 val, w.before args s = true) (hck : mz_ck M pc (.getfield idx) r1 r2 val = true) (hR : mz_Rl D cy A s H locs ad sh mm) (hl : lv_has ls M.2.2.1 (mz_lv (mz_v ad ov) 0 L)) {st : mz_S} (he : mz_ex X (.getfield idx) r1 r2 val pc L S sh mm = some (true, st))
    (kk : mz_K1 p l e R s m args below meth c Q M D cy A ov ad sh cells slots st) : W p l e R s m args below meth c H locs cells slots Q (F0 m pc ls (S.map (mz_v ad ov))) := by
  obtain ⟨hx, hb, hml, hown, hts, hin, hK, hO, hA, hRf, hRl⟩ := C0
  subst hln
  cases S with
  | nil => cases he
  | cons v S =>
    cases v with
    | ref a =>
      simp only [mz_ex] at he
      cases h100 : Nat.beq r1 100 with
      | true =>
        simp only [h100, cond_true] at he
        cases ht : mz_txs[a - (mz_B + 10)]? with
        | none => rw [ht] at he; cases he
        | some q =>
          rw [ht] at he
          cases hbl : Nat.ble (mz_B + 10) a with
          | false => simp only [hbl, cond_false] at he; cases he
          | true =>
            simp only [hbl, cond_true] at he
            have hle : mz_B + 10 ≤ a := Nat.le_of_ble_eq_true hbl
            obtain ⟨t, t1, t2, t3, t4, t5⟩ := hO.2.2.1 _ q ht
            rw [mz_ar1 hle] at t1
            have e0 : mz_v ad ov (.ref a) = .ref t := by rw [mz_v_hi (mz_nblt (mz_ar3 hle)), t1]
            cases hr2 : Nat.beq r2 0 with
            | true =>
              simp only [hr2, cond_true] at he
              cases he
              have g := mz_K1.same kk hR hl
              rw [List.map_cons, mz_v_hi (k := a + 20) (mz_nblt (mz_ar4 hle)), mz_ar2 hle] at g
              rw [List.map_cons, e0]
              exact vk_getf hx hb t5 hR.2.2.1 hown (hwd _ (by simp [mz_wd, mz_fw, h100, hr2])) (fun _ z => z) hd g
            | false =>
              simp only [hr2, cond_false] at he
              cases he
              have g := mz_K1.same kk hR hl
              rw [List.map_cons, e0]
              exact vk_getf hx hb t4 hR.2.2.1 hown (hwd _ (by simp [mz_wd, mz_fw, h100, hr2])) (fun _ z => z) hd g
      | false =>
        simp only [h100, cond_false] at he
        cases hs : sh[a]? with
        | none => rw [hs] at he; cases he
        | some k =>
          rw [hs] at he
          rcases k with ⟨ty, n⟩ | ⟨ci, fs⟩
          · cases he
          · simp only at he
            cases hcc : (Nat.beq ci r1 && Nat.blt a mz_B) with
            | false => simp only [hcc, cond_false] at he; cases he
            | true =>
              simp only [hcc, cond_true] at he
              rw [Bool.and_eq_true] at hcc
              have hci : ci = r1 := Nat.eq_of_beq_eq_true hcc.1
              subst hci
              simp only [mz_ck, h100, Bool.false_or] at hck
              cases hq : vwCl[ci]? with
              | none => rw [hq] at hck; cases hck
              | some q =>
                rw [hq] at hck
                have hk2 : r2 < q.2.2 := by simpa using hck
                have hlink : (Cond.fieldLink M.1.cls idx (q.2.1 r2).1 (q.2.1 r2).2.1 (q.2.1 r2).2.2.1).before args s = true := hwd _ (by simp [mz_wd, mz_fw, h100, hq])
                have hpos := mz_W_at (cy := cy) (ad := ad) (m := mm) hs
                cases hf : fs[r2]? with
                | none => rw [hf] at he; cases he
                | some x =>
                  rw [hf] at he
                  rcases x with _ | _ | j
                  · cases he
                    have g := mz_K1.same kk hR hl
                    rw [List.map_cons, mz_v_lo hcc.2]
                    exact va_get (D := D) (ci := ci) (v := .int (mm a r2)) (C := q.1) (T := q.2.1) (N := q.2.2) hx hb hts (mz_wst ci q hq) hown hK hR.1 a hpos hq r2 hk2 hlink (fun _ z => z) (by rw [mz_fs_get, hf]; simp [mz_f1]) hd g
                  · cases he
                  · cases he
                    have g := mz_K1.same kk hR hl
                    rw [List.map_cons, mz_v_lo (k := j) (by rw [Nat.blt_eq]; exact (hR.2.2.2.1 a ci fs r2 j hs hf).2)] at g
                    rw [List.map_cons, mz_v_lo hcc.2]
                    exact va_get (D := D) (ci := ci) (v := .ref (ad j)) (C := q.1) (T := q.2.1) (N := q.2.2) hx hb hts (mz_wst ci q hq) hown hK hR.1 a hpos hq r2 hk2 hlink (fun _ z => z) (by rw [mz_fs_get, hf]; simp [mz_f1]) hd g
    | _ => cases he
set_option maxHeartbeats 4000000 in
/-- a field of ints or of references is written -/
theorem mz_s_put0 (C0 : mz_Cx X M p R s m args meth c D cy A ov) {idx r1 r2 a : Nat} {val v v' : Value} {fs : List (Option (Option Nat))} (hd : decode M.2.1 pc = .ok (.putfield idx, 3)) (hwd : ∀ w ∈ mz_wd M.1.cls (.putfield idx) r1 r2 val, w.before args s = true) (hck : mz_ck M pc (.putfield idx) r1 r2 val = true) (hP : va_P D vwCl (mz_W cy ad mm 0 sh) H) (hD : va_D A (mz_W cy ad mm 0 sh)) (hS : va_S A s.heap H locs)
    (hs : sh[a]? = some (.inr (r1, fs))) (hr : r2 < fs.length) (h100 : Nat.beq r1 100 = false) (hv : ∀ ty, mz_kd ty val = true → narrow ty v' = v' ∧ fits ty v' = true) {rest : List Value}
    (kk : ∀ (H1 : Heap) (locs1 : List Loc), va_P D vwCl ((mz_W cy ad mm 0 sh).set a (ad a, .inr (r1, (mz_fs ad (mm a) 0 fs).set r2 v'))) H1 → va_D A ((mz_W cy ad mm 0 sh).set a (ad a, .inr (r1, (mz_fs ad (mm a) 0 fs).set r2 v'))) → va_S A s.heap H1 locs1 → W p l e R s m args below meth c H1 locs1 cells slots Q (F0 m (pc + 3) ls rest)) :
    W p l e R s m args below meth c H locs cells slots Q (F0 m pc ls (v' :: .ref (ad a) :: rest)) := by
  obtain ⟨hx, hb, hml, hown, hts, hin, hK, hO, hA, hRf, hRl⟩ := C0
  simp only [mz_ck] at hck
  cases hq : vwCl[r1]? with
  | none => rw [hq] at hck; cases hck
  | some q =>
    rw [hq] at hck
    simp only [Bool.and_eq_true, Bool.or_eq_true, decide_eq_true_eq, Bool.not_eq_true', Nat.blt_eq] at hck
    obtain ⟨hk2, hfi, hkd⟩ := hck
    obtain ⟨hn, hf⟩ := hv _ hkd
    have hlink : (Cond.fieldLink M.1.cls idx (q.2.1 r2).1 (q.2.1 r2).2.1 (q.2.1 r2).2.2.1).before args s = true := hwd _ (by simp [mz_wd, mz_fw, h100, hq])
    have hpos := mz_W_at (cy := cy) (ad := ad) (m := mm) hs
    obtain ⟨hty, hnm⟩ := mz_cls r1 q hq
    cases hfin : (q.2.1 r2).2.2.2 with
    | false =>
      exact va_put (D := D) (ci := r1) (v := v') (ty := mz_tyc r1 r2) (C := q.1) (T := q.2.1) (N := q.2.2) hx hb hts (mz_wst r1 q hq) (mz_tyc r1) hty hnm hown hK hP hD hS a hpos hq r2 hk2 hlink (fun _ z => z) hfin (hty r2 hk2) hn hf (by rw [mz_fs_len]; exact hr) hd kk
    | true =>
      rcases hfi with hfi | hfi
      · rw [hfin] at hfi; cases hfi
      · exact va_putF (D := D) (ci := r1) (v := v') (ty := mz_tyc r1 r2) (C := q.1) (T := q.2.1) (N := q.2.2) hx hb hts (mz_wst r1 q hq) (mz_tyc r1) hty hnm hown hK hP hD hS a hpos hq r2 hk2 hlink (fun _ z => z) hfin (hin hfi.1) hfi.2 (hty r2 hk2) hn hf (by rw [mz_fs_len]; exact hr) hd kk
set_option maxHeartbeats 4000000 in
theorem mz_s_put (C0 : mz_Cx X M p R s m args meth c D cy A ov) {idx len r1 r2 : Nat} {val : Value} (hd : decode M.2.1 pc = .ok (.putfield idx, len)) (hln : len = 3) (hwd : ∀ w ∈ mz_wd M.1.cls (.putfield idx) r1 r2 val, w.before args s = true) (hck : mz_ck M pc (.putfield idx) r1 r2 val = true) (hR : mz_Rl D cy A s H locs ad sh mm) (hl : lv_has ls M.2.2.1 (mz_lv (mz_v ad ov) 0 L)) {st : mz_S} (he : mz_ex X (.putfield idx) r1 r2 val pc L S sh mm = some (true, st))
    (kk : mz_K1 p l e R s m args below meth c Q M D cy A ov ad sh cells slots st) : W p l e R s m args below meth c H locs cells slots Q (F0 m pc ls (S.map (mz_v ad ov))) := by
  subst hln
  have h100 : Nat.beq r1 100 = false := by
    cases h : Nat.beq r1 100 with
    | false => rfl
    | true =>
      have := Nat.eq_of_beq_eq_true h
      subst this
      simp [mz_ck, vwCl] at hck
  cases S with
  | nil => cases he
  | cons v S =>
    cases v with
    | int x =>
      cases S with
      | nil => cases he
      | cons v S =>
        cases v with
        | ref a =>
          simp only [mz_ex] at he
          cases hs : sh[a]? with
          | none => rw [hs] at he; cases he
          | some k =>
            rw [hs] at he
            rcases k with ⟨ty, n⟩ | ⟨ci, fs⟩
            · cases he
            · simp only at he
              cases hcc : (Nat.beq ci r1 && Nat.blt a mz_B) with
              | false => simp only [hcc, cond_false] at he; cases he
              | true =>
                simp only [hcc, cond_true] at he
                rw [Bool.and_eq_true] at hcc
                have hci : ci = r1 := Nat.eq_of_beq_eq_true hcc.1
                subst hci
                have key : fs[r2]? = some none → (∀ ty, mz_kd ty val = true → narrow ty (.int x) = .int x ∧ fits ty (.int x) = true) → st = (pc + 3, L, S, sh, mz_up mm a r2 x) → W p l e R s m args below meth c H locs cells slots Q (F0 m pc ls ((Value.int x :: .ref a :: S).map (mz_v ad ov))) := by
                  intro hf hv hst
                  subst hst
                  rw [List.map_cons, List.map_cons, mz_v_lo hcc.2]
                  refine mz_s_put0 C0 hd hwd hck hR.1 hR.2.1 hR.2.2.1 hs (List.getElem?_eq_some_iff.mp hf).1 h100 (v := .null) hv (fun H1 locs1 g1 g2 g3 => ?_)
                  have e1 : mz_W cy ad (mz_up mm a r2 x) 0 sh = (mz_W cy ad mm 0 sh).set a (ad a, .inr (ci, (mz_fs ad (mm a) 0 fs).set r2 (.int x))) := by
                    rw [mz_W_up (m := mm) (g := upd (mm a) r2 x) hs (by simp [mz_up]) (fun q hq => by simp [mz_up, hq])]
                    simp only [mz_c, mz_fs_up hf]
                  rw [← e1] at g1 g2
                  exact mz_K1.same kk ⟨g1, g2, g3, hR.2.2.2⟩ hl
                cases hf : fs[r2]? with
                | none => rw [hf] at he; cases he
                | some z =>
                  rw [hf] at he
                  cases z with
                  | some z => cases val <;> cases he
                  | none =>
                    cases val with
                    | null =>
                      cases he
                      exact key hf (fun ty h => by cases ty <;> first | exact ⟨rfl, rfl⟩ | cases h) rfl
                    | int b =>
                      simp only [Option.some.injEq, Prod.mk.injEq, Bool.or_eq_true, decide_eq_true_eq] at he
                      refine key hf (fun ty h => ?_) he.2.symm
                      rcases he.1 with h0 | h0 <;> subst h0 <;> (cases ty <;> first | exact ⟨by decide, by decide⟩ | cases h)
                    | _ => cases he
        | _ => cases he
    | ref j =>
      cases S with
      | nil => cases he
      | cons v S =>
        cases v with
        | ref a =>
          simp only [mz_ex] at he
          cases hs : sh[a]? with
          | none => rw [hs] at he; cases he
          | some k =>
            rw [hs] at he
            rcases k with ⟨ty, n⟩ | ⟨ci, fs⟩
            · cases he
            · simp only at he
              cases hcc : (Nat.beq ci r1 && (Nat.blt a mz_B && (Nat.blt j sh.length && Nat.blt j mz_B))) with
              | false => simp only [hcc, cond_false] at he; cases he
              | true =>
                simp only [hcc, cond_true] at he
                rw [Bool.and_eq_true, Bool.and_eq_true, Bool.and_eq_true] at hcc
                obtain ⟨hc1, hc2, hc3, hc4⟩ := hcc
                have hci : ci = r1 := Nat.eq_of_beq_eq_true hc1
                subst hci
                cases hf : fs[r2]? with
                | none => rw [hf] at he; cases he
                | some z =>
                  rw [hf] at he
                  cases z with
                  | none => cases val <;> cases he
                  | some z =>
                    cases val with
                    | ref b =>
                      cases he
                      have hlt : r2 < fs.length := (List.getElem?_eq_some_iff.mp hf).1
                      rw [List.map_cons, List.map_cons, mz_v_lo hc2, mz_v_lo hc4]
                      refine mz_s_put0 C0 hd hwd hck hR.1 hR.2.1 hR.2.2.1 hs hlt h100 (v := .null) (fun ty h => by cases ty <;> first | exact ⟨rfl, rfl⟩ | cases h) (fun H1 locs1 g1 g2 g3 => ?_)
                      have ha : a < sh.length := (List.getElem?_eq_some_iff.mp hs).1
                      have e1 : mz_W cy ad mm 0 (sh.set a (.inr (ci, fs.set r2 (some (some j))))) = (mz_W cy ad mm 0 sh).set a (ad a, .inr (ci, (mz_fs ad (mm a) 0 fs).set r2 (.ref (ad j)))) := by
                        rw [mz_W_set ha]
                        simp only [mz_c, mz_fs_set hlt]
                      rw [← e1] at g1 g2
                      exact mz_K1.mem (by rw [List.length_set]) (mz_sl_set hs (by simp [mz_k1])) kk ⟨g1, g2, g3, mz_wf_set hR.2.2.2.1 hs ⟨by rwa [Nat.blt_eq] at hc3, by rwa [Nat.blt_eq] at hc4⟩, by rw [List.length_set]; exact hR.2.2.2.2⟩ hl
                    | _ => cases he
        | _ => cases he
    | _ => cases he
end
