set_option maxRecDepth 100000 in
theorem mz_insts : (vwCl.all (fun q => decide (Cond.instantiable q.1 q.2.2 ∈ lw_tbl))) = true := by decide +kernel
set_option maxRecDepth 100000 in
theorem mz_acl : Cond.arrayClass .int ∈ lw_tbl ∧ Cond.arrayClass .boolean ∈ lw_tbl := by decide +kernel
theorem mz_arr0 {args : Array Value} {s : State} {ty : FieldType} (h : (Cond.arrayClass ty).before args s = true) (hp : ∀ cA, s.vm.findClass ("[" ++ ty.toString) = some cA → va_RA s cA ty) : ∃ cA : ClassId, ArrOfT s cA ty ∧ va_RA s cA ty := by
  obtain ⟨cA, kA, comp, h1, h2, h3⟩ := Cond.arrayClass_spec h
  exact ⟨cA, fun n z => ⟨fun k h => (by cases h), kA, h2, comp, h3⟩, hp cA h1⟩
/-- the law's run of the small machine gives the walk -/
theorem mz_start {p : Program} {e : Env} {s : State} {m : MethodId} {below : List Frame} {meth : Method} {c : Code} (l : Launch) {b L : Nat} {xs : Nat → Int32} (hlaw : ∃ (n : Nat) (sh' : List mz_K) (m' : mz_M), mz_run (L, xs) n 0 0 [some (.ref (mz_B + 50)), none, none, none] [] [] (fun _ _ => 0) = some (some (.int 1), sh', m') ∧ sh'.length ≤ 600000 ∧ mz_sl sh' ≤ 7302250) (C0 : lw_At p s m meth c b L xs) : W p l e room_1 s m #[Value.ref b] below meth c s.heap [] 0 0 (lw_Z below #[Value.ref b] s) (entryFrame m ([Value.ref b] : List Value).toArray 4) := by
  obtain ⟨hx, hb, hr, hml, hown, hts, hX, hbl, hlocks, hgv⟩ := C0
  obtain ⟨n, sh', m', hrun, hn1, hn2⟩ := hlaw
  obtain ⟨ov, hov, hO⟩ := mz_old0 hts hX hbl hgv
  have hA : ∀ q : Nat, s.heap.size ≤ q → (fun q : Nat => s.heap.size ≤ q) q := fun _ h => h
  have hkn : ∀ (k : Nat), ∃ (cC : ClassId) (iS : Nat → Nat), ∀ q, vwCl[k]? = some q → u_Kn s q.1 q.2.1 q.2.2 cC iS := by
    intro k
    cases hq : vwCl[k]? with
    | none => exact ⟨0, fun _ => 0, fun q h => by cases h⟩
    | some q =>
      have hi : Cond.instantiable q.1 q.2.2 ∈ lw_tbl := by simpa using List.all_eq_true.mp mz_insts q (List.mem_of_getElem? hq)
      obtain ⟨cC, iS, h⟩ := u_known (C := q.1) (T := q.2.1) (N := q.2.2) (n := q.2.2) hts (fun w hw => (List.mem_filter.mp (mz_wst k q hq w hw)).1) (hts _ hi)
      exact ⟨cC, iS, fun q' h' => by cases h'; exact h⟩
  obtain ⟨dC, hdC⟩ : ∃ dC : Nat → ClassId, ∀ k, ∃ iS : Nat → Nat, ∀ q, vwCl[k]? = some q → u_Kn s q.1 q.2.1 q.2.2 (dC k) iS := ⟨fun k => (hkn k).choose, fun k => (hkn k).choose_spec⟩
  obtain ⟨dI, hdI⟩ : ∃ dI : Nat → Nat → Nat, ∀ k, ∀ q, vwCl[k]? = some q → u_Kn s q.1 q.2.1 q.2.2 (dC k) (dI k) := ⟨fun k => (hdC k).choose, fun k => (hdC k).choose_spec⟩
  obtain ⟨c1, a1, r1⟩ := mz_arr0 (hts _ mz_acl.1) (fun cA h => h)
  obtain ⟨c2, a2, r2⟩ := mz_arr0 (hts _ mz_acl.2) (fun cA h => h)
  obtain ⟨cy, hcy1, hcy2⟩ : ∃ cy : FieldType → ClassId, cy .int = c1 ∧ cy .boolean = c2 := ⟨fun t => match t with | .int => c1 | _ => c2, rfl, rfl⟩
  have hK : va_K (dC, dI) vwCl (mz_tys cy) s := by
    refine ⟨fun k q hq => hdI k q hq, fun k q hq => ?_⟩
    match k, hq with
    | 0, hq => cases hq; rw [hcy1]; exact ⟨a1, r1⟩
    | 1, hq => cases hq; rw [hcy2]; exact ⟨a2, r2⟩
    | k + 2, hq => simp [mz_tys] at hq
  have hl := lv_entry ([.ref b]) (n := 4) (Nat.le_of_ble_eq_true rfl)
  rw [lg_entry_eq]
  generalize (lg_sl ([.ref b]) ++ List.replicate (4 - (lg_sl ([.ref b])).length) Slot.unset).toArray = ls at hl ⊢
  refine mz_sim (L, xs) mz_tab n 0 0 _ [] [] (fun _ _ => 0) (some (.int 1)) sh' m' mz_m0 hrun rfl p l e room_1 s m _ below meth c (dC, dI) cy (fun q => s.heap.size ≤ q) ov (fun _ => 0) _ s.heap [] ls 0 0 ⟨hx, hb, hml, hown, fun w hw => hts w (List.mem_filter.mp hw).1, fun h => absurd h (by decide), hK, hO, hA, Nat.le_of_ble_eq_true rfl, Nat.le_of_ble_eq_true rfl⟩ ⟨fun k q h => by simp [mz_W] at h, ⟨fun i j p q h => by simp [mz_W] at h, fun k q h => by simp [mz_W] at h⟩, va_S.rf, fun a ci fs k j h => by simp at h, Nat.zero_le _⟩ ?_ ?_ ?_ ?_
  · have e1 : mz_lv (mz_v (fun _ => 0) ov) 0 [some (.ref (mz_B + 50)), none, none, none] = [(0, Value.ref b)] := by
      show [(0, mz_v (fun _ => 0) ov (.ref (mz_B + 50)))] = _
      rw [mz_v_hi (mz_nblt (Nat.le_add_right _ _)), Nat.add_sub_cancel_left, hov]
    rw [e1]
    exact hl
  · show 0 + (sh'.length - 0) ≤ 600000
    omega
  · show 0 + (mz_sl sh' - mz_sl []) ≤ 7302250
    omega
  · intro ad' H' locs' ls' pc' ins _ hR' hd hrt
    have hins : ins = .ireturn := by
      cases ins <;> first | rfl | cases hrt
    subst hins
    refine W.widen (k := 600000) (n := 7302250) (by show 0 + (sh'.length - 0) ≤ 600000; omega) (by show 0 + (mz_sl sh' - mz_sl []) ≤ 7302250; omega) ?_
    refine va_forget hR'.2.2.1.2.2 ?_
    exact lw_ret hx hb hr hlocks hd
