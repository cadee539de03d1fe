/-! the fast machine does what the small machine does -/
theorem x_bt {α : Type} {c : Bool} {a : Option α} {q : α} (h : (bif c then a else none) = some q) : c = true ∧ a = some q := by
  cases c with
  | true => exact ⟨rfl, h⟩
  | false => cases h
theorem x_bf {α : Type} {c : Bool} {a : Option α} {q : α} (h : (bif c then none else a) = some q) : c = false ∧ a = some q := by
  cases c with
  | true => cases h
  | false => exact ⟨rfl, h⟩
theorem x_ex_ok {X : mz_X} {ins : Instr} {r1 r2 : Nat} {val : Value} {pc : Nat} {L : List (Option x_V)} {S : List x_V} {sh : List mz_K} {E : List Nat} {q : Nat × List (Option x_V) × List x_V × List mz_K × List Nat} (h : x_ex ins r1 r2 val pc L S sh E = some q) : mz_ex X ins r1 r2 val pc (x_mL L) (x_mS S) sh (x_dm E) = some (true, q.1, x_mL q.2.1, x_mS q.2.2.1, q.2.2.2.1, x_dm q.2.2.2.2) := by
  unfold x_ex at h
  split at h
  · split at h <;> first | (cases h; done) | (rename_i heq; cases h; simp only [mz_ex]; rw [x_mL_get heq]; rfl)
  · split at h <;> first | (cases h; done) | (rename_i heq; cases h; simp only [mz_ex]; rw [x_mL_get heq]; rfl)
  · split at h <;> first | (cases h; done) | (rename_i heq; cases h; simp only [mz_ex]; rw [x_mL_get heq]; rfl)
  · split at h <;> first | (cases h; done) | (rename_i heq; cases h; simp only [mz_ex]; rw [x_mL_get heq]; rfl)
  · split at h
    · obtain ⟨h1, h2⟩ := x_bt h
      cases h2
      rename_i u S
      show (match mz_put (x_mL L) r1 (x_dv (.inl u)) with | some L' => some (true, pc + 1, L', x_mS S, sh, x_dm E) | none => none) = _
      rw [x_put h1]
    · cases h
  · split at h
    · obtain ⟨h1, h2⟩ := x_bt h
      cases h2
      rename_i u S
      show (match mz_put (x_mL L) r1 (x_dv (.inl u)) with | some L' => some (true, pc + 2, L', x_mS S, sh, x_dm E) | none => none) = _
      rw [x_put h1]
    · cases h
  · split at h
    · obtain ⟨h1, h2⟩ := x_bt h
      cases h2
      rename_i u S
      show (match mz_put (x_mL L) r1 (x_dv (.inr u)) with | some L' => some (true, pc + 1, L', x_mS S, sh, x_dm E) | none => none) = _
      rw [x_put h1]
    · cases h
  · split at h
    · obtain ⟨h1, h2⟩ := x_bt h
      rw [x_fs_eq] at h2
      cases h2
      rename_i u d heq
      simp only [mz_ex]
      rw [x_mL_get heq]
      show (match mz_put (x_mL L) r1 (.int (Int32.ofNat u + d)) with | some L' => some (true, pc + 3, L', x_mS S, sh, x_dm E) | none => none) = _
      have e : Value.int (Int32.ofNat u + d) = x_dv (.inl ((u + x_nu d) % 4294967296)) := by
        show Value.int _ = Value.int _
        rw [← x_add, x_nu_of]
      rw [e, x_put h1]
    · cases h
  · split at h
    · rw [x_fs_eq] at h
      cases h
      show some (true, pc + 1, x_mL L, Value.int _ :: x_mS S, sh, x_dm E) = some (true, pc + 1, x_mL L, Value.int (Int32.ofNat (x_nu _)) :: x_mS S, sh, x_dm E)
      rw [x_nu_of]
    · cases h
  · split at h
    · rw [x_fs_eq] at h
      cases h
      show some (true, pc + 2, x_mL L, Value.int _ :: x_mS S, sh, x_dm E) = some (true, pc + 2, x_mL L, Value.int (Int32.ofNat (x_nu _)) :: x_mS S, sh, x_dm E)
      rw [x_nu_of]
    · cases h
  · split at h
    · rw [x_fs_eq] at h
      cases h
      show some (true, pc + 3, x_mL L, Value.int _ :: x_mS S, sh, x_dm E) = some (true, pc + 3, x_mL L, Value.int (Int32.ofNat (x_nu _)) :: x_mS S, sh, x_dm E)
      rw [x_nu_of]
    · cases h
  · split at h
    · rw [x_fs_eq] at h
      cases h
      show some (true, pc + 2, x_mL L, Value.int _ :: x_mS S, sh, x_dm E) = some (true, pc + 2, x_mL L, Value.int (Int32.ofNat (x_nu _)) :: x_mS S, sh, x_dm E)
      rw [x_nu_of]
    · cases h
  · split at h <;> first | (cases h; done) | (cases h; rfl)
  · split at h
    · rw [x_fs_eq] at h
      cases h
      rename_i y x S
      show some (true, pc + 1, x_mL L, Value.int (Int32.ofNat x + Int32.ofNat y) :: x_mS S, sh, x_dm E) = _
      rw [x_add]
      rfl
    · cases h
  · split at h
    · rw [x_fs_eq] at h
      cases h
      rename_i y x S
      show some (true, pc + 1, x_mL L, Value.int (Int32.ofNat x - Int32.ofNat y) :: x_mS S, sh, x_dm E) = _
      rw [x_sub]
      rfl
    · cases h
  · split at h
    · rw [x_fs_eq] at h
      cases h
      rename_i y x S
      show some (true, pc + 1, x_mL L, Value.int (Int32.ofNat x * Int32.ofNat y) :: x_mS S, sh, x_dm E) = _
      rw [x_mul]
      rfl
    · cases h
  · split at h
    · rw [x_fs_eq] at h
      cases h
      rename_i y x S
      show some (true, pc + 1, x_mL L, Value.int (Int32.ofNat x &&& Int32.ofNat y) :: x_mS S, sh, x_dm E) = _
      rw [x_and]
      rfl
    · cases h
  · split at h
    · rw [x_fs_eq] at h
      cases h
      rename_i y x S
      show some (true, pc + 1, x_mL L, Value.int (Int32.ofNat x ||| Int32.ofNat y) :: x_mS S, sh, x_dm E) = _
      rw [x_or]
      rfl
    · cases h
  · split at h
    · obtain ⟨h1, h2⟩ := x_bt h
      rw [x_fs_eq] at h2
      cases h2
      rename_i y x S
      simp only [Bool.and_eq_true, Nat.blt_eq] at h1
      show some (true, pc + 1, x_mL L, Value.int (Int32.ofNat x <<< (Int32.ofNat y &&& 31)) :: x_mS S, sh, x_dm E) = _
      rw [x_shl y h1.1 x h1.2]
      rfl
    · cases h
  · split at h
    · obtain ⟨h1, h2⟩ := x_bt h
      rw [x_fs_eq] at h2
      cases h2
      rename_i y x S
      simp only [Bool.and_eq_true, Nat.blt_eq] at h1
      show some (true, pc + 1, x_mL L, Value.int (Int32.ofNat x >>> (Int32.ofNat y &&& 31)) :: x_mS S, sh, x_dm E) = _
      rw [x_shr h1.1 h1.2]
      rfl
    · cases h
  · split at h
    · rw [x_fs_eq] at h
      cases h
      rename_i x S
      show some (true, pc + 1, x_mL L, Value.int (- Int32.ofNat x) :: x_mS S, sh, x_dm E) = some (true, pc + 1, x_mL L, Value.int (Int32.ofNat ((4294967296 - x % 4294967296) % 4294967296)) :: x_mS S, sh, x_dm E)
      rw [x_negl, x_of_mod]
    · cases h
  · split at h <;> first | (cases h; done) | (cases h; rfl)
  · split at h <;> first | (cases h; done) | (cases h; rfl)
  · split at h <;> first | (cases h; done) | (cases h; rfl)
  · cases h
    rfl
  · split at h
    · rename_i x S
      have z0 : (0 : Int32) = Int32.ofNat 0 := rfl
      split at h <;> (have h' := Option.some.inj h; clear h; subst h')
      · show some (true, (if Int32.ofNat x = 0 then r1 else pc + 3), x_mL L, x_mS S, sh, x_dm E) = _
        by_cases g : Nat.beq (x % 4294967296) 0 = true
        · rw [if_pos (by rw [z0]; exact (x_eq_iff x 0).mpr g), g]
          rfl
        · rw [if_neg (by rw [z0]; exact fun e => g ((x_eq_iff x 0).mp e)), Bool.not_eq_true _ |>.mp g]
          rfl
      · show some (true, (if Int32.ofNat x = 0 then pc + 3 else r1), x_mL L, x_mS S, sh, x_dm E) = _
        by_cases g : Nat.beq (x % 4294967296) 0 = true
        · rw [if_pos (by rw [z0]; exact (x_eq_iff x 0).mpr g), g]
          rfl
        · rw [if_neg (by rw [z0]; exact fun e => g ((x_eq_iff x 0).mp e)), Bool.not_eq_true _ |>.mp g]
          rfl
      · show some (true, (if Int32.ofNat x < 0 then r1 else pc + 3), x_mL L, x_mS S, sh, x_dm E) = _
        by_cases g : x_lt x 0 = true
        · rw [if_pos (by rw [z0]; exact (x_lt_iff x 0).mpr g), g]
          rfl
        · rw [if_neg (by rw [z0]; exact fun e => g ((x_lt_iff x 0).mp e)), Bool.not_eq_true _ |>.mp g]
          rfl
      · show some (true, (if 0 ≤ Int32.ofNat x then r1 else pc + 3), x_mL L, x_mS S, sh, x_dm E) = _
        by_cases g : x_lt x 0 = true
        · rw [if_neg (by rw [z0, Int32.not_le]; exact (x_lt_iff x 0).mpr g), g]
          rfl
        · rw [if_pos (by rw [z0, ← Int32.not_lt]; exact fun e => g ((x_lt_iff x 0).mp e)), Bool.not_eq_true _ |>.mp g]
          rfl
      · show some (true, (if 0 < Int32.ofNat x then r1 else pc + 3), x_mL L, x_mS S, sh, x_dm E) = _
        by_cases g : x_lt 0 x = true
        · rw [if_pos (by rw [z0]; exact (x_lt_iff 0 x).mpr g), g]
          rfl
        · rw [if_neg (by rw [z0]; exact fun e => g ((x_lt_iff 0 x).mp e)), Bool.not_eq_true _ |>.mp g]
          rfl
      · show some (true, (if Int32.ofNat x ≤ 0 then r1 else pc + 3), x_mL L, x_mS S, sh, x_dm E) = _
        by_cases g : x_lt 0 x = true
        · rw [if_neg (by rw [z0, Int32.not_le]; exact (x_lt_iff 0 x).mpr g), g]
          rfl
        · rw [if_pos (by rw [z0, ← Int32.not_lt]; exact fun e => g ((x_lt_iff 0 x).mp e)), Bool.not_eq_true _ |>.mp g]
          rfl
    · cases h
  · split at h
    · rename_i y x S
      split at h <;> (have h' := Option.some.inj h; clear h; subst h')
      · show some (true, (if Int32.ofNat x = Int32.ofNat y then r1 else pc + 3), x_mL L, x_mS S, sh, x_dm E) = _
        by_cases g : Nat.beq (x % 4294967296) (y % 4294967296) = true
        · rw [if_pos ((x_eq_iff x y).mpr g), g]
          rfl
        · rw [if_neg (fun e => g ((x_eq_iff x y).mp e)), Bool.not_eq_true _ |>.mp g]
          rfl
      · show some (true, (if Int32.ofNat x = Int32.ofNat y then pc + 3 else r1), x_mL L, x_mS S, sh, x_dm E) = _
        by_cases g : Nat.beq (x % 4294967296) (y % 4294967296) = true
        · rw [if_pos ((x_eq_iff x y).mpr g), g]
          rfl
        · rw [if_neg (fun e => g ((x_eq_iff x y).mp e)), Bool.not_eq_true _ |>.mp g]
          rfl
      · show some (true, (if Int32.ofNat x < Int32.ofNat y then r1 else pc + 3), x_mL L, x_mS S, sh, x_dm E) = _
        by_cases g : x_lt x y = true
        · rw [if_pos ((x_lt_iff x y).mpr g), g]
          rfl
        · rw [if_neg (fun e => g ((x_lt_iff x y).mp e)), Bool.not_eq_true _ |>.mp g]
          rfl
      · show some (true, (if Int32.ofNat y ≤ Int32.ofNat x then r1 else pc + 3), x_mL L, x_mS S, sh, x_dm E) = _
        by_cases g : x_lt x y = true
        · rw [if_neg (by rw [Int32.not_le]; exact (x_lt_iff x y).mpr g), g]
          rfl
        · rw [if_pos (by rw [← Int32.not_lt]; exact fun e => g ((x_lt_iff x y).mp e)), Bool.not_eq_true _ |>.mp g]
          rfl
      · show some (true, (if Int32.ofNat y < Int32.ofNat x then r1 else pc + 3), x_mL L, x_mS S, sh, x_dm E) = _
        by_cases g : x_lt y x = true
        · rw [if_pos ((x_lt_iff y x).mpr g), g]
          rfl
        · rw [if_neg (fun e => g ((x_lt_iff y x).mp e)), Bool.not_eq_true _ |>.mp g]
          rfl
      · show some (true, (if Int32.ofNat x ≤ Int32.ofNat y then r1 else pc + 3), x_mL L, x_mS S, sh, x_dm E) = _
        by_cases g : x_lt y x = true
        · rw [if_neg (by rw [Int32.not_le]; exact (x_lt_iff y x).mpr g), g]
          rfl
        · rw [if_pos (by rw [← Int32.not_lt]; exact fun e => g ((x_lt_iff y x).mp e)), Bool.not_eq_true _ |>.mp g]
          rfl
    · cases h
  · -- getfield
    split at h
    · rename_i a S
      obtain ⟨h1, h2⟩ := x_bf h
      split at h2
      · rename_i ci fs hsh
        obtain ⟨h3, h4⟩ := x_bt h2
        simp only [mz_ex, x_mS, List.map_cons, x_dv, h1, cond_false, hsh, h3, cond_true]
        split at h4
        · rename_i hfs
          rw [x_fs_eq] at h4
          cases h4
          try rw [hfs]
          rfl
        · rename_i j hfs
          cases h4
          try rw [hfs]
          rfl
        · cases h4
      · cases h2
    · cases h
  · -- putfield
    split at h
    · rename_i x a S
      split at h
      · rename_i ci fs hsh
        obtain ⟨h3, h4⟩ := x_bt h
        simp only [Bool.and_eq_true] at h3
        obtain ⟨h3a, h3b, h3c⟩ := h3
        simp only [mz_ex, x_mS, List.map_cons, x_dv, hsh, h3a, h3b, Bool.and_self, cond_true]
        split at h4
        · rename_i hfs
          rw [x_fs_eq] at h4
          cases h4
          try rw [hfs]
          show some (true, pc + 3, x_mL L, List.map x_dv S, sh, mz_up (x_dm E) a r2 (Int32.ofNat x)) = _
          rw [← x_dm_up h3c]
        · rename_i v hfs
          obtain ⟨h5, h6⟩ := x_bt h4
          rw [x_fs_eq] at h6
          cases h6
          try rw [hfs]
          show some (decide (Int32.ofNat x = 0) || decide (Int32.ofNat x = 1), pc + 3, x_mL L, List.map x_dv S, sh, mz_up (x_dm E) a r2 (Int32.ofNat x)) = _
          rw [← x_dm_up h3c]
          have h01 : ∀ x, x < 2 → (decide (Int32.ofNat x = 0) || decide (Int32.ofNat x = 1)) = true := by decide +kernel
          rw [h01 x (by rw [Nat.blt_eq] at h5; exact h5)]
        · cases h4
      · cases h
    · rename_i j a S
      split at h
      · rename_i ci fs hsh
        obtain ⟨h3, h4⟩ := x_bt h
        simp only [mz_ex, x_mS, List.map_cons, x_dv, hsh, h3, cond_true]
        split at h4
        · rename_i o v hfs
          cases h4
          first | rw [hfs] | rfl
        · cases h4
      · cases h
    · cases h
  · -- iaload
    unfold x_e_iaload at h
    split at h
    · rename_i i a S
      by_cases hB : Nat.blt a mz_B = true
      · rw [hB] at h
        simp only [cond_true] at h
        split at h
        · rename_i n hsh
          obtain ⟨h1, h2⟩ := x_bt h
          rw [x_fs_eq] at h2
          cases h2
          obtain ⟨i1, i2⟩ := x_inb h1
          simp only [mz_ex, x_mS, List.map_cons, x_dv, hB, cond_true, hsh, i1, i2]
          rfl
        · cases h
      · rw [Bool.not_eq_true] at hB
        rw [hB] at h
        simp only [cond_false] at h
        obtain ⟨h0, h1⟩ := x_bf h
        split at h1
        · rename_i n f hoa
          obtain ⟨h2, h3⟩ := x_bt h1
          rw [x_fs_eq] at h3
          cases h3
          obtain ⟨i1, i2⟩ := x_inb h2
          have hoa' : mz_oa X (a - mz_B) = some (.int, n, f) := by
            unfold mz_oa
            rw [h0, cond_false]
            exact hoa
          simp only [mz_ex, x_mS, List.map_cons, x_dv, hB, cond_false, hoa', i1, i2, x_nu_of]
        · cases h1
    · cases h
  · -- baload
    split at h
    · rename_i i a S
      obtain ⟨hB, h⟩ := x_bt h
      split at h
      · rename_i n hsh
        obtain ⟨h1, h2⟩ := x_bt h
        rw [x_fs_eq] at h2
        cases h2
        obtain ⟨i1, i2⟩ := x_inb h1
        simp only [mz_ex, x_mS, List.map_cons, x_dv, hB, cond_true, hsh, i1, i2]
        rfl
      · cases h
    · cases h
  · -- iastore
    split at h
    · rename_i x i a S
      obtain ⟨hB, h⟩ := x_bt h
      simp only [Bool.and_eq_true] at hB
      split at h
      · rename_i n hsh
        obtain ⟨h1, h2⟩ := x_bt h
        rw [x_fs_eq] at h2
        cases h2
        obtain ⟨i1, i2⟩ := x_inb h1
        simp only [mz_ex, x_mS, List.map_cons, x_dv, hB.1, cond_true, hsh, i1, i2, x_dm_up hB.2]
      · cases h
    · cases h
  · -- bastore
    split at h
    · rename_i x i a S
      obtain ⟨hB, h⟩ := x_bt h
      simp only [Bool.and_eq_true] at hB
      split at h
      · rename_i n hsh
        obtain ⟨h1, h2⟩ := x_bt h
        rw [x_fs_eq] at h2
        cases h2
        rw [Bool.and_eq_true] at h1
        obtain ⟨i1, i2⟩ := x_inb h1.2
        have hn : ∀ x, x < 2 → vp_nar .boolean (Int32.ofNat x) = Int32.ofNat x := by decide +kernel
        have hx := h1.1
        rw [Nat.blt_eq] at hx
        simp only [mz_ex, x_mS, List.map_cons, x_dv, hB.1, cond_true, hsh, i1, i2, hn x hx, x_dm_up hB.2]
      · cases h
    · cases h
  · -- arraylength
    unfold x_e_arraylength at h
    split at h
    · rename_i a S
      by_cases hB : Nat.blt a mz_B = true
      · rw [hB] at h
        simp only [cond_true] at h
        split at h
        · rename_i n hsh
          cases h
          simp only [mz_ex, x_mS, List.map_cons, x_dv, hB, cond_true, hsh]
        · cases h
      · rw [Bool.not_eq_true] at hB
        rw [hB] at h
        simp only [cond_false] at h
        obtain ⟨h0, h1⟩ := x_bf h
        split at h1
        · rename_i t n f hoa
          rw [x_fs_eq] at h1
          cases h1
          have hoa' : mz_oa X (a - mz_B) = some (t, n, f) := by
            unfold mz_oa
            rw [h0, cond_false]
            exact hoa
          simp only [mz_ex, x_mS, List.map_cons, x_dv, hB, cond_false, hoa']
        · cases h1
    · cases h
  · -- newarray
    split at h
    · rename_i n S
      obtain ⟨h1, h2⟩ := x_bt h
      rw [Bool.and_eq_true] at h1
      have g1 := h1.1
      have g23 := h1.2
      rw [Bool.and_eq_true] at g23
      have g2 := g23.1
      have g3 := g23.2
      have hn : n ≤ 100000 := Nat.le_of_ble_eq_true g3
      have c1 : (Int32.ofNat n).toNatClampNeg = n := nI_clamp (n := n) (by omega)
      have c2 : (0 : Int32) ≤ Int32.ofNat n := nI_pos' (n := n) (by omega)
      have g1' : (Nat.blt sh.length mz_B && (mz_wL sh.length (x_mL L) && mz_wS sh.length (List.map x_dv S))) = true := g1
      split at h2
      · cases h2
        simp only [mz_ex, x_mS, List.map_cons, x_dv, g1', cond_true, c1, c2, hn, decide_true, Bool.and_self, x_dm_z g2]
      · cases h2
        simp only [mz_ex, x_mS, List.map_cons, x_dv, g1', cond_true, c1, c2, hn, decide_true, Bool.and_self, x_dm_z g2]
      · cases h2
    · cases h
  · -- new
    obtain ⟨h1, h2⟩ := x_bt h
    rw [Bool.and_eq_true] at h1
    cases h2
    simp only [mz_ex, h1.1, cond_true, x_dm_z h1.2]
    rfl
  · -- Object's own
    split at h
    · rename_i a S
      obtain ⟨h1, h2⟩ := x_bt h
      cases h2
      have h1' : (Nat.beq r1 9999 && (Nat.blt a mz_B && Nat.ble (((List.map x_dv S).map fun v => v.category).sum) 8)) = true := h1
      simp only [mz_ex, x_mS, List.map_cons, x_dv, h1', cond_true]
    · cases h
  · cases h
