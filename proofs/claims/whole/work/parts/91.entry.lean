-- ===== end of PART A; then your names; then what follows =====
/-! THE CLAIM OUT OF ONE WALK OF THE LAW'S BODY. Your part is whole_start (and what it stands on); all else here is the same for every law, but numbers. -/
def R_law : String := "TinyFrontLaw"
def lw_P (b : Addr) (xs : List Int32) (args : Array Value) (s : State) : Prop := args = #[.ref b] ∧ s.IntsAt b xs ∧ xs.length ≤ 2048 ∧ (Jvm.Cond.and given_1 narrow_1).before args s = true
def lw_Q (_ : Array Value) (s : State) (o : Outcome) (t : State) : Prop := o = .returned (some (.int 1)) ∧ Framed s o t [] 600000 7302250
def lw_Z (below : List Frame) (a : Array Value) (s : State) : State → Prop := fun t => ∃ o, t.status = .running ∧ Ended t below o ∧ lw_Q a s o t
/-- the law's own end, with 1 on the stack, nothing written that was there before, its room as the claim has it -/
theorem lw_ret {p : Program} {l : Launch} {e : Env} {s : State} {m : MethodId} {below : List Frame} {meth : Method} {c : Code} {b : Nat} (hx : p.tables.exec = Jvm.exec) (hb : c.code = code) (hr : meth.sig.returnType = ret) (hlocks : meth.locks = false) {pc : Nat} {H : Heap} {ls : Array Slot} (hdg : decode code pc = .ok (.ireturn, 1)) : W p l e room_1 s m #[Value.ref b] below meth c H [] 600000 7302250 (lw_Z below #[Value.ref b] s) (F0 m pc ls [.int 1]) := by
  intro T hT X
  obtain ⟨fs, hret, hrun, hended, hW, hframe⟩ := X.leave (v := some (.int 1)) (hlocks := hlocks) (fun h => by rw [hr] at h; cases h)
  have hmeth' : T.vm.method? m = some meth := X.method'
  refine ⟨T.setFrames fs, ?_, .returned (some (.int 1)), hrun, hended, rfl, ⟨_, rfl⟩, hW, hframe⟩
  jvm_step X.here [X.here.top, hx, hb, hdg, hmeth', hr, ret, narrow_b1]
  (try refine ⟨rfl, ?_⟩); (try refine ⟨rfl, ?_⟩)
  first | (intro acts; rw [hret _ acts rfl rfl rfl]) | rw [hret _ _ rfl rfl rfl]
  exact Steps.refl _
/-- what holds at the law's entry: the machine, the code, the tables' words (any of lw_tbl by 'hts w (by decide +kernel)'), the script of L ints xs at the cell b, what the Statement gives of the start (any of its parts by flat_of_before) -/
def lw_At (p : Program) (s : State) (m : MethodId) (meth : Method) (c : Code) (b L : Nat) (xs : Nat → Int32) : Prop :=
  p.tables.exec = Jvm.exec ∧ c.code = code ∧ meth.sig.returnType = ret ∧ c.maxLocals = 4 ∧ s.vm.findClass R_law = some m.cls ∧ (∀ w ∈ lw_tbl, w.before #[Value.ref b] s = true) ∧ va_X b L xs s s.heap ∧ b < s.heap.size ∧ meth.locks = false ∧ (Jvm.Cond.and given_1 narrow_1).before #[Value.ref b] s = true
theorem mz_str_args {own : String} {idx a : Nat} {A : Array Value} {U : State} (h : (Term.string own idx).eval A U none [] U = some (.ref a)) : (Term.string own idx).eval #[] U none [] U = some (.ref a) := h
def mz_F : List Cond := flatC (Jvm.Cond.and given_1 narrow_1)
theorem mz_sarr {args : Array Value} {s : State} {A : Nat → Prop} (hA : ∀ a : Nat, a < s.heap.size → ¬ A a) (hF : ∀ c ∈ mz_F, c.before args s = true) (C n : String) (l : List Int32) (h1 : Nat.blt l.length 1000 && (decide (Cond.arrayOf (.static C n "[I") .int ∈ mz_F) && (decide (Cond.eq (.length (.static C n "[I")) (.int (Int32.ofNat l.length)) ∈ mz_F) && (List.range l.length).all (fun j => decide (Cond.eq (.elem (.static C n "[I") (.int (Int32.ofNat j))) (.int (l.getD j 0)) ∈ mz_F)))) = true) :
    ∃ t : Nat, (Term.static C n "[I").eval args s none [] s = some (.ref t) ∧ va_T .int t l.length (fun i => .int (l.getD i 0)) A s s.heap := by
  simp only [Bool.and_eq_true, decide_eq_true_eq, Nat.blt_eq] at h1
  obtain ⟨h0, h2, h3, h4⟩ := h1
  refine va_Tof (Nat.lt_trans h0 (by decide)) (hF _ h2) (va_eqt (hF _ h3)) (fun j hj => va_eqt (hF _ ?_)) hA
  have h5 := List.all_eq_true.mp h4 j (List.mem_range.mpr hj)
  simpa using h5
set_option maxRecDepth 100000 in
theorem mz_in0 : (Nat.blt mz_a0.length 1000 && (decide (Cond.arrayOf (.static "TinyFront$Code" "OWN_WORDS" "[I") .int ∈ mz_F) && (decide (Cond.eq (.length (.static "TinyFront$Code" "OWN_WORDS" "[I")) (.int (Int32.ofNat mz_a0.length)) ∈ mz_F) && (List.range mz_a0.length).all (fun j => decide (Cond.eq (.elem (.static "TinyFront$Code" "OWN_WORDS" "[I") (.int (Int32.ofNat j))) (.int (mz_a0.getD j 0)) ∈ mz_F))))) = true := by decide +kernel
set_option maxRecDepth 100000 in
theorem mz_in1 : (Nat.blt mz_a1.length 1000 && (decide (Cond.arrayOf (.static "TinyFront$Code" "WORDS_BETWEEN" "[I") .int ∈ mz_F) && (decide (Cond.eq (.length (.static "TinyFront$Code" "WORDS_BETWEEN" "[I")) (.int (Int32.ofNat mz_a1.length)) ∈ mz_F) && (List.range mz_a1.length).all (fun j => decide (Cond.eq (.elem (.static "TinyFront$Code" "WORDS_BETWEEN" "[I") (.int (Int32.ofNat j))) (.int (mz_a1.getD j 0)) ∈ mz_F))))) = true := by decide +kernel
set_option maxRecDepth 100000 in
theorem mz_in2 : (Nat.blt mz_a2.length 1000 && (decide (Cond.arrayOf (.static "TinyFront$Code" "WORD_OF" "[I") .int ∈ mz_F) && (decide (Cond.eq (.length (.static "TinyFront$Code" "WORD_OF" "[I")) (.int (Int32.ofNat mz_a2.length)) ∈ mz_F) && (List.range mz_a2.length).all (fun j => decide (Cond.eq (.elem (.static "TinyFront$Code" "WORD_OF" "[I") (.int (Int32.ofNat j))) (.int (mz_a2.getD j 0)) ∈ mz_F))))) = true := by decide +kernel
set_option maxRecDepth 100000 in
theorem mz_in3 : (Nat.blt mz_a3.length 1000 && (decide (Cond.arrayOf (.static "TinyFront$Parser" "NODE_OF" "[I") .int ∈ mz_F) && (decide (Cond.eq (.length (.static "TinyFront$Parser" "NODE_OF" "[I")) (.int (Int32.ofNat mz_a3.length)) ∈ mz_F) && (List.range mz_a3.length).all (fun j => decide (Cond.eq (.elem (.static "TinyFront$Parser" "NODE_OF" "[I") (.int (Int32.ofNat j))) (.int (mz_a3.getD j 0)) ∈ mz_F))))) = true := by decide +kernel
set_option maxRecDepth 100000 in
theorem mz_in4 : (Nat.blt mz_a4.length 1000 && (decide (Cond.arrayOf (.static "TinyFront$Parser" "PARTS_OF" "[I") .int ∈ mz_F) && (decide (Cond.eq (.length (.static "TinyFront$Parser" "PARTS_OF" "[I")) (.int (Int32.ofNat mz_a4.length)) ∈ mz_F) && (List.range mz_a4.length).all (fun j => decide (Cond.eq (.elem (.static "TinyFront$Parser" "PARTS_OF" "[I") (.int (Int32.ofNat j))) (.int (mz_a4.getD j 0)) ∈ mz_F))))) = true := by decide +kernel
set_option maxRecDepth 100000 in
theorem mz_in5 : (Nat.blt mz_a5.length 1000 && (decide (Cond.arrayOf (.static "TinyFront$Parser" "TOKEN_AT" "[I") .int ∈ mz_F) && (decide (Cond.eq (.length (.static "TinyFront$Parser" "TOKEN_AT" "[I")) (.int (Int32.ofNat mz_a5.length)) ∈ mz_F) && (List.range mz_a5.length).all (fun j => decide (Cond.eq (.elem (.static "TinyFront$Parser" "TOKEN_AT" "[I") (.int (Int32.ofNat j))) (.int (mz_a5.getD j 0)) ∈ mz_F))))) = true := by decide +kernel
set_option maxRecDepth 100000 in
theorem mz_in6 : (Nat.blt mz_a6.length 1000 && (decide (Cond.arrayOf (.static "TinyFront$Table" "LETTER_OF" "[I") .int ∈ mz_F) && (decide (Cond.eq (.length (.static "TinyFront$Table" "LETTER_OF" "[I")) (.int (Int32.ofNat mz_a6.length)) ∈ mz_F) && (List.range mz_a6.length).all (fun j => decide (Cond.eq (.elem (.static "TinyFront$Table" "LETTER_OF" "[I") (.int (Int32.ofNat j))) (.int (mz_a6.getD j 0)) ∈ mz_F))))) = true := by decide +kernel
set_option maxRecDepth 100000 in
theorem mz_in7 : (Nat.blt mz_a7.length 1000 && (decide (Cond.arrayOf (.static "TinyFront$Table" "ROWS" "[I") .int ∈ mz_F) && (decide (Cond.eq (.length (.static "TinyFront$Table" "ROWS" "[I")) (.int (Int32.ofNat mz_a7.length)) ∈ mz_F) && (List.range mz_a7.length).all (fun j => decide (Cond.eq (.elem (.static "TinyFront$Table" "ROWS" "[I") (.int (Int32.ofNat j))) (.int (mz_a7.getD j 0)) ∈ mz_F))))) = true := by decide +kernel
set_option maxRecDepth 100000 in
theorem mz_nsin : (mz_nst.all (fun q => decide (Cond.methodLinkNest q.1 q.2.1 q.2.2 "TinyFront" ∈ lw_tbl))) = true := by decide +kernel
def mz_stm (i : Nat) : Term := match mz_txs[i]? with
  | some q => .string q.1 q.2.1
  | none => .arg 0
def mz_slen : List Nat := mz_txs.map (fun q => q.2.2.2.length)
def mz_sbyt : List (List Int32) := mz_txs.map (fun q => q.2.2.2)
set_option maxRecDepth 100000 in
theorem mz_sin : (List.range 8).all (fun i => decide (mz_slen.getD i 0 < 2 ^ 31) && (decide (Cond.exactly (mz_stm i) "java/lang/String" ∈ mz_F) && (decide (Cond.eq (.field (mz_stm i) "java/lang/String" "coder" "B") (.int 0) ∈ mz_F) && (decide (Cond.arrayOf (.field (mz_stm i) "java/lang/String" "value" "[B") .byte ∈ mz_F) && (decide (Cond.eq (.length (.field (mz_stm i) "java/lang/String" "value" "[B")) (.int (Int32.ofNat (mz_slen.getD i 0))) ∈ mz_F) && (List.range (mz_slen.getD i 0)).all (fun j => decide (Cond.eq (.elem (.field (mz_stm i) "java/lang/String" "value" "[B") (.int (Int32.ofNat j))) (.int ((mz_sbyt.getD i []).getD j 0)) ∈ mz_F))))))) = true := by decide +kernel
set_option maxRecDepth 100000 in
theorem mz_sne : (List.range 8).all (fun i => (List.range 8).all (fun j => Nat.beq i j || (decide (Cond.not (Cond.eq (mz_stm i) (mz_stm j)) ∈ mz_F) || decide (Cond.not (Cond.eq (mz_stm j) (mz_stm i)) ∈ mz_F)))) = true := by decide +kernel
set_option maxRecDepth 100000 in
theorem mz_ssr : (mz_txs.all (fun q => decide (Cond.stringRef q.1 q.2.1 q.2.2.1 ∈ lw_tbl))) = true := by decide +kernel
set_option maxRecDepth 100000 in
theorem mz_sst : (mz_sts.all (fun q => decide (Cond.laysStatic q.1 q.2.1 q.2.2.1 ∈ lw_tbl) && (decide (Cond.initialized q.1 ∈ lw_tbl) && (match q.2.2.2 with | .int v => decide (Cond.eq (.static q.1 q.2.1 q.2.2.1) (.int v) ∈ mz_F) | .ref k => Nat.blt k (mz_B + 8) && Nat.ble mz_B k || (Nat.beq k (mz_B + 99) && decide (Cond.isRef (.static q.1 q.2.1 q.2.2.1) ∈ mz_F)) | _ => false)))) = true := by decide +kernel
def mz_snm : List (String × String) := [("TinyFront$Code", "OWN_WORDS"), ("TinyFront$Code", "WORDS_BETWEEN"), ("TinyFront$Code", "WORD_OF"), ("TinyFront$Parser", "NODE_OF"), ("TinyFront$Parser", "PARTS_OF"), ("TinyFront$Parser", "TOKEN_AT"), ("TinyFront$Table", "LETTER_OF"), ("TinyFront$Table", "ROWS")]
theorem mz_s8 : (mz_sts.all (fun q => match q.2.2.2 with | .ref k => Nat.beq k (mz_B + 99) || (match mz_snm[k - mz_B]? with | some z => decide (q.1 = z.1) && (decide (q.2.1 = z.2) && decide (q.2.2.1 = "[I")) | none => false) | _ => true)) = true := by decide +kernel
/-- the old cells at the law's entry -/
theorem mz_old0 {s : State} {b L : Nat} {xs : Nat → Int32} (hts : ∀ w ∈ lw_tbl, w.before #[Value.ref b] s = true) (hX : va_X b L xs s s.heap) (hbl : b < s.heap.size) (hgv : (Jvm.Cond.and given_1 narrow_1).before #[Value.ref b] s = true) : ∃ ov : Nat → Value, ov 50 = .ref b ∧ mz_Old (L, xs) ov (fun q => s.heap.size ≤ q) s s.heap := by
  have hF : ∀ c ∈ mz_F, c.before #[Value.ref b] s = true := flat_of_before _ hgv
  have hA : ∀ a : Nat, a < s.heap.size → ¬ (fun q => s.heap.size ≤ q) a := fun a h h2 => Nat.not_le.mpr h h2
  obtain ⟨t0, e0, T0⟩ := mz_sarr hA hF "TinyFront$Code" "OWN_WORDS" mz_a0 mz_in0
  obtain ⟨t1, e1, T1⟩ := mz_sarr hA hF "TinyFront$Code" "WORDS_BETWEEN" mz_a1 mz_in1
  obtain ⟨t2, e2, T2⟩ := mz_sarr hA hF "TinyFront$Code" "WORD_OF" mz_a2 mz_in2
  obtain ⟨t3, e3, T3⟩ := mz_sarr hA hF "TinyFront$Parser" "NODE_OF" mz_a3 mz_in3
  obtain ⟨t4, e4, T4⟩ := mz_sarr hA hF "TinyFront$Parser" "PARTS_OF" mz_a4 mz_in4
  obtain ⟨t5, e5, T5⟩ := mz_sarr hA hF "TinyFront$Parser" "TOKEN_AT" mz_a5 mz_in5
  obtain ⟨t6, e6, T6⟩ := mz_sarr hA hF "TinyFront$Table" "LETTER_OF" mz_a6 mz_in6
  obtain ⟨t7, e7, T7⟩ := mz_sarr hA hF "TinyFront$Table" "ROWS" mz_a7 mz_in7
  have hsin : ∀ i, i < 8 → _ := fun i hi => List.all_eq_true.mp mz_sin i (List.mem_range.mpr hi)
  simp only [Bool.and_eq_true, decide_eq_true_eq] at hsin
  obtain ⟨adK, adV, hS, hSe⟩ := vk_Sof (args := #[Value.ref b]) (s := s) (N := 8) (tm := mz_stm) (len := mz_slen) (byt := mz_sbyt) (A := fun q => s.heap.size ≤ q) (fun i hi => (hsin i hi).1) (fun i hi => hF _ (hsin i hi).2.1) (fun i hi => hF _ (hsin i hi).2.2.1) (fun i hi => hF _ (hsin i hi).2.2.2.1) (fun i hi => hF _ (hsin i hi).2.2.2.2.1) (fun i hi j hj => hF _ (by simpa using List.all_eq_true.mp (hsin i hi).2.2.2.2.2 j (List.mem_range.mpr hj))) (fun i j hi hj hij => by
    have h1 := List.all_eq_true.mp (List.all_eq_true.mp mz_sne i (List.mem_range.mpr hi)) j (List.mem_range.mpr hj)
    simp only [Bool.or_eq_true, decide_eq_true_eq] at h1
    rcases h1 with h1 | h1 | h1
    · exact absurd (Nat.eq_of_beq_eq_true h1) hij
    · exact Or.inl (hF _ h1)
    · exact Or.inr (hF _ h1)) hA
  have hsts : ∀ q ∈ mz_sts, _ := fun q hq => List.all_eq_true.mp mz_sst q hq
  simp only [Bool.and_eq_true, decide_eq_true_eq] at hsts
  have hfm : ∃ w : Value, (w = .null ∨ ∃ t, w = .ref t) ∧ va_Z "jdk/internal/util/Preconditions" "SIOOBE_FORMATTER" "Ljava/util/function/BiFunction;" w (fun q => s.heap.size ≤ q) s s.heap := by
    have h1 := hsts ("jdk/internal/util/Preconditions", "SIOOBE_FORMATTER", "Ljava/util/function/BiFunction;", .ref (mz_B + 99)) (by decide +kernel)
    have h2 : Cond.isRef (.static "jdk/internal/util/Preconditions" "SIOOBE_FORMATTER" "Ljava/util/function/BiFunction;") ∈ mz_F := by
      have h3 := h1.2.2
      simp only [Bool.or_eq_true, Bool.and_eq_true, decide_eq_true_eq, Nat.blt_eq] at h3
      rcases h3 with h3 | h3
      · exact absurd h3.1 (by decide)
      · exact h3.2
    rcases va_Zqof (hts _ h1.1) (hts _ h1.2.1) (hF _ h2) hA with h | ⟨t, h⟩
    · exact ⟨_, Or.inl rfl, h⟩
    · exact ⟨_, Or.inr ⟨t, rfl⟩, h⟩
  obtain ⟨w, hw, hwZ⟩ := hfm
  obtain ⟨tA, hTA⟩ : ∃ tA : Nat → Nat, ∀ j (z : String × String), mz_snm[j]? = some z → (Term.static z.1 z.2 "[I").eval #[Value.ref b] s none [] s = some (.ref (tA j)) := by
    refine ⟨fun j => match j with | 0 => t0 | 1 => t1 | 2 => t2 | 3 => t3 | 4 => t4 | 5 => t5 | 6 => t6 | _ => t7, fun j z hz => ?_⟩
    match j, hz with
    | 0, hz => cases hz; exact e0
    | 1, hz => cases hz; exact e1
    | 2, hz => cases hz; exact e2
    | 3, hz => cases hz; exact e3
    | 4, hz => cases hz; exact e4
    | 5, hz => cases hz; exact e5
    | 6, hz => cases hz; exact e6
    | 7, hz => cases hz; exact e7
    | k + 8, hz => simp [mz_snm] at hz
  have f0 : tA 0 = t0 := by
    have := hTA 0 _ rfl
    rw [e0] at this
    cases this
    rfl
  have f1 : tA 1 = t1 := by
    have := hTA 1 _ rfl
    rw [e1] at this
    cases this
    rfl
  have f2 : tA 2 = t2 := by
    have := hTA 2 _ rfl
    rw [e2] at this
    cases this
    rfl
  have f3 : tA 3 = t3 := by
    have := hTA 3 _ rfl
    rw [e3] at this
    cases this
    rfl
  have f4 : tA 4 = t4 := by
    have := hTA 4 _ rfl
    rw [e4] at this
    cases this
    rfl
  have f5 : tA 5 = t5 := by
    have := hTA 5 _ rfl
    rw [e5] at this
    cases this
    rfl
  have f6 : tA 6 = t6 := by
    have := hTA 6 _ rfl
    rw [e6] at this
    cases this
    rfl
  have f7 : tA 7 = t7 := by
    have := hTA 7 _ rfl
    rw [e7] at this
    cases this
    rfl
  have hO : ∀ ov : Nat → Value, (∀ j, j < 8 → ov j = .ref (tA j)) → (∀ i, i < 8 → ov (10 + i) = .ref (adK i)) → (∀ i, i < 8 → ov (30 + i) = .ref (adV i)) → ov 50 = .ref b → ov 99 = w → (∀ j, ov j = .null ∨ ∃ t, ov j = .ref t) → mz_Old (L, xs) ov (fun q => s.heap.size ≤ q) s s.heap := by
    intro ov o1 o2 o3 o4 o5 o6
    refine ⟨fun k q hq => ?_, fun j q hq => ?_, fun j q hq => ?_, o6, fun q hq => va_Nw.of rfl (hts _ (by simpa using List.all_eq_true.mp mz_nsin q hq))⟩
    · have hm := List.mem_of_getElem? hq
      obtain ⟨g1, g2, g3⟩ := hsts q hm
      have g4 := List.all_eq_true.mp mz_s8 q hm
      obtain ⟨C, n, d, v⟩ := q
      cases v with
      | int v => exact va_Zof (hts _ g1) (hts _ g2) (va_eqi (hF _ (by simpa using g3))) hA
      | ref k =>
        simp only [Bool.or_eq_true] at g4
        rcases g4 with g4 | g4
        · have e1 := Nat.eq_of_beq_eq_true g4
          subst e1
          have e2 : (C, n, d) = ("jdk/internal/util/Preconditions", "SIOOBE_FORMATTER", "Ljava/util/function/BiFunction;") := by
            have h9 : ∀ q ∈ mz_sts, q.2.2.2 = .ref (mz_B + 99) → (q.1, q.2.1, q.2.2.1) = ("jdk/internal/util/Preconditions", "SIOOBE_FORMATTER", "Ljava/util/function/BiFunction;") := by decide +kernel
            exact h9 _ hm rfl
          cases e2
          show va_Z _ _ _ (ov 99) _ _ _
          rw [o5]
          exact hwZ
        · cases hz : mz_snm[k - mz_B]? with
          | none => rw [hz] at g4; cases g4
          | some z =>
            rw [hz] at g4
            simp only [Bool.and_eq_true, decide_eq_true_eq] at g4
            obtain ⟨i1, i2, i3⟩ := g4
            subst i1; subst i2; subst i3
            have hk8 : k - mz_B < 8 := (List.getElem?_eq_some_iff.mp hz).1
            have hkB : mz_B ≤ k := by
              simp only [Bool.or_eq_true, Bool.and_eq_true, decide_eq_true_eq, Nat.blt_eq, Nat.ble_eq] at g3
              rcases g3 with g3 | g3
              · exact g3.2
              · have := Nat.eq_of_beq_eq_true g3.1
                rw [this]
                exact Nat.le_add_right _ _
            rw [mz_v_hi (mz_nblt hkB), o1 _ hk8]
            exact va_Zof (hts _ g1) (hts _ g2) (hTA _ z hz) hA
      | _ => exact absurd g3 (by simp)
    · unfold mz_oa at hq
      cases h50 : Nat.beq j 50 with
      | true =>
        rw [h50] at hq
        simp only [cond_true, Option.some.injEq] at hq
        subst hq
        have e1 := Nat.eq_of_beq_eq_true h50
        subst e1
        obtain ⟨scr, x1, x2, x3, x4, x5⟩ := hX
        exact ⟨b, o4, scr, x1, x2, x3, Nat.le_of_eq x4.symm, by rw [x4]; rfl, x5, hA b hbl⟩
      | false =>
        rw [h50] at hq
        simp only [cond_false] at hq
        have hal : ∀ (l : List (Nat × FieldType × List Int32)), mz_oal j l = some q → ∃ e ∈ l, e.1 = j ∧ q = (e.2.1, e.2.2.length, fun i => e.2.2.getD i 0) := by
          intro l
          induction l with
          | nil => intro h; cases h
          | cons e t ih =>
            intro h
            simp only [mz_oal] at h
            cases hb : Nat.beq e.1 j with
            | true =>
              rw [hb] at h
              simp only [cond_true, Option.some.injEq] at h
              exact ⟨e, List.mem_cons_self, Nat.eq_of_beq_eq_true hb, h.symm⟩
            | false =>
              rw [hb] at h
              obtain ⟨e', h1, h2⟩ := ih h
              exact ⟨e', List.mem_cons_of_mem _ h1, h2⟩
        obtain ⟨e, he, hej, hqe⟩ := hal _ hq
        subst hej
        subst hqe
        have hst : ∀ i, i < 8 → ∀ (l : List Int32), l = mz_sbyt.getD i [] → l.length = mz_slen.getD i 0 → ∃ t, ov (30 + i) = .ref t ∧ va_T .byte t l.length (fun j => .int (l.getD j 0)) (fun q => s.heap.size ≤ q) s s.heap := by
          intro i hi l hl1 hl2
          refine ⟨adV i, o3 i hi, ?_⟩
          rw [hl2, hl1]
          exact (hS.1 i hi).2.2.2
        unfold mz_arrs at he
        simp only [List.mem_cons, List.not_mem_nil, or_false] at he
        rcases he with rfl | rfl | rfl | rfl | rfl | rfl | rfl | rfl | rfl | rfl | rfl | rfl | rfl | rfl | rfl | rfl
        · exact ⟨t0, by rw [o1 0 (by decide), f0], T0⟩
        · exact ⟨t1, by rw [o1 1 (by decide), f1], T1⟩
        · exact ⟨t2, by rw [o1 2 (by decide), f2], T2⟩
        · exact ⟨t3, by rw [o1 3 (by decide), f3], T3⟩
        · exact ⟨t4, by rw [o1 4 (by decide), f4], T4⟩
        · exact ⟨t5, by rw [o1 5 (by decide), f5], T5⟩
        · exact ⟨t6, by rw [o1 6 (by decide), f6], T6⟩
        · exact ⟨t7, by rw [o1 7 (by decide), f7], T7⟩
        · exact hst 0 (by decide) _ rfl rfl
        · exact hst 1 (by decide) _ rfl rfl
        · exact hst 2 (by decide) _ rfl rfl
        · exact hst 3 (by decide) _ rfl rfl
        · exact hst 4 (by decide) _ rfl rfl
        · exact hst 5 (by decide) _ rfl rfl
        · exact hst 6 (by decide) _ rfl rfl
        · exact hst 7 (by decide) _ rfl rfl
    · have hj : j < 8 := (List.getElem?_eq_some_iff.mp hq).1
      obtain ⟨s1, s2, s3, s4⟩ := hS.1 j hj
      have hsr : (Cond.stringRef q.1 q.2.1 q.2.2.1).before #[Value.ref b] s = true := hts _ (by simpa using List.all_eq_true.mp mz_ssr q (List.mem_of_getElem? hq))
      have hev := hSe j hj
      unfold mz_stm at hev
      rw [hq] at hev
      exact ⟨adK j, o2 j hj, ⟨va_tabs rfl rfl hsr, mz_str_args hev⟩, s1, s2, by rw [o3 j hj]; exact s3⟩
  refine ⟨fun j => if j < 8 then .ref (tA j) else if 10 ≤ j ∧ j < 18 then .ref (adK (j - 10)) else if 30 ≤ j ∧ j < 38 then .ref (adV (j - 30)) else if j = 50 then .ref b else if j = 99 then w else .null, by simp, hO _ ?_ ?_ ?_ ?_ ?_ ?_⟩
  · intro j hj; simp [hj]
  · intro i hi
    have h1 : ¬ 10 + i < 8 := by omega
    have h2 : 10 ≤ 10 + i ∧ 10 + i < 18 := by omega
    simp only [h1, h2, if_false, if_true, and_self, Nat.add_sub_cancel_left]
  · intro i hi
    have h1 : ¬ 30 + i < 8 := by omega
    have h2 : ¬ (10 ≤ 30 + i ∧ 30 + i < 18) := by omega
    have h3 : 30 ≤ 30 + i ∧ 30 + i < 38 := by omega
    simp only [h1, h2, h3, if_false, if_true, and_self, Nat.add_sub_cancel_left]
  · simp
  · simp
  · intro j
    dsimp only
    repeat' split
    all_goals first | exact hw | exact Or.inl rfl | exact Or.inr ⟨_, rfl⟩
