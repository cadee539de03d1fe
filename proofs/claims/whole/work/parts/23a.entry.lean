-- ===== end of PART A; then your names; then what follows =====
/-! THE CLAIM OUT OF ONE WALK OF THE LAW'S BODY. Your part is whole_start (and what it stands on); all else here is the same for every law, but numbers. -/
def R_law : String := "TinyFrontLaw"
def lw_P (b : Addr) (xs : List Int32) (args : Array Value) (s : State) : Prop := args = #[.ref b] ∧ s.IntsAt b xs ∧ xs.length ≤ 2048 ∧ (Jvm.Cond.and given_1 narrow_1).before args s = true
def lw_Q (_ : Array Value) (s : State) (o : Outcome) (t : State) : Prop := o = .returned (some (.int 1)) ∧ Framed s o t [] 600000 7302250
def lw_Z (below : List Frame) (a : Array Value) (s : State) : State → Prop := fun t => ∃ o, t.status = .running ∧ Ended t below o ∧ lw_Q a s o t
/-- the law's own end, with 1 on the stack, nothing written that was there before, its room as the claim has it -/
theorem lw_ret {p : Program} {l : Launch} {e : Env} {s : State} {m : MethodId} {below : List Frame} {meth : Method} {c : Code} {b : Nat} (hx : p.tables.exec = Jvm.exec) (hb : c.code = code) (hr : meth.sig.returnType = ret) (hlocks : meth.locks = false) {pc : Nat} {H : Heap} {ls : Array Slot} (hdg : decode code pc = .ok (.ireturn, 1)) : W p l e room_1 s m #[Value.ref b] below meth c H [] 600000 7302250 (lw_Z below #[Value.ref b] s) (F0 m pc ls [.int 1]) := by
  intro T hT X
  obtain ⟨fs, hret, hrun, hended, hW, hframe⟩ := X.leave (v := some (.int 1)) (hlocks := hlocks) (fun h => by rw [hr] at h; cases h)
  have hmeth' : T.vm.method? m = some meth := X.method'
  refine ⟨T.setFrames fs, ?_, .returned (some (.int 1)), hrun, hended, rfl, ⟨_, rfl⟩, hW, hframe⟩
  jvm_step X.here [X.here.top, hx, hb, hdg, hmeth', hr, ret, narrow_b1]
  (try refine ⟨rfl, ?_⟩); (try refine ⟨rfl, ?_⟩)
  first | (intro acts; rw [hret _ acts rfl rfl rfl]) | rw [hret _ _ rfl rfl rfl]
  exact Steps.refl _
/-- what holds at the law's entry: the machine, the code, the tables' words (any of lw_tbl by 'hts w (by decide +kernel)'), the script of L ints xs at the cell b, what the Statement gives of the start (any of its parts by flat_of_before) -/
def lw_At (p : Program) (s : State) (m : MethodId) (meth : Method) (c : Code) (b L : Nat) (xs : Nat → Int32) : Prop :=
  p.tables.exec = Jvm.exec ∧ c.code = code ∧ meth.sig.returnType = ret ∧ c.maxLocals = 4 ∧ s.vm.findClass R_law = some m.cls ∧ (∀ w ∈ lw_tbl, w.before #[Value.ref b] s = true) ∧ va_X b L xs s s.heap ∧ b < s.heap.size ∧ meth.locks = false ∧ (Jvm.Cond.and given_1 narrow_1).before #[Value.ref b] s = true
def mz_F : List Cond := flatC (Jvm.Cond.and given_1 narrow_1)
def mz_sc (C n : String) (l : List Int32) : List Cond := Cond.arrayOf (.static C n "[I") .int :: Cond.eq (.length (.static C n "[I")) (.int (Int32.ofNat l.length)) :: (List.range l.length).map (fun j => Cond.eq (.elem (.static C n "[I") (.int (Int32.ofNat j))) (.int (l.getD j 0)))
def mz_tc (own : String) (idx : Nat) (l : List Int32) : List Cond := [Cond.exactly (.string own idx) "java/lang/String", Cond.eq (.field (.string own idx) "java/lang/String" "coder" "B") (.int 0), Cond.arrayOf (.field (.string own idx) "java/lang/String" "value" "[B") .byte, Cond.eq (.length (.field (.string own idx) "java/lang/String" "value" "[B")) (.int (Int32.ofNat l.length))] ++ (List.range l.length).map (fun j => Cond.eq (.elem (.field (.string own idx) "java/lang/String" "value" "[B") (.int (Int32.ofNat j))) (.int (l.getD j 0)))
theorem mz_seg {k n : Nat} {l : List Cond} (h : (mz_F.drop k).take n = l) : ∀ c ∈ l, c ∈ mz_F := by
  intro c hc
  rw [← h] at hc
  exact List.mem_of_mem_drop (List.mem_of_mem_take hc)
theorem mz_sarr {args : Array Value} {s : State} {A : Nat → Prop} (hA : ∀ a : Nat, a < s.heap.size → ¬ A a) (hF : ∀ c ∈ mz_F, c.before args s = true) (C n : String) (l : List Int32) (hl : l.length < 1000) (h : ∀ c ∈ mz_sc C n l, c ∈ mz_F) : ∃ t : Nat, (Term.static C n "[I").eval args s none [] s = some (.ref t) ∧ va_T .int t l.length (fun i => .int (l.getD i 0)) A s s.heap := by
  refine va_Tof (Nat.lt_trans hl (by decide)) (hF _ (h _ List.mem_cons_self)) (va_eqt (hF _ (h _ (List.mem_cons_of_mem _ List.mem_cons_self)))) (fun j hj => va_eqt (hF _ (h _ ?_))) hA
  exact List.mem_cons_of_mem _ (List.mem_cons_of_mem _ (List.mem_map.mpr ⟨j, List.mem_range.mpr hj, rfl⟩))
theorem mz_stx {args : Array Value} {s : State} {A : Nat → Prop} (hA : ∀ a : Nat, a < s.heap.size → ¬ A a) (hF : ∀ c ∈ mz_F, c.before args s = true) (own : String) (idx : Nat) (l : List Int32) (hl : l.length < 1000) (h : ∀ c ∈ mz_tc own idx l, c ∈ mz_F) : ∃ a v : Nat, (Term.string own idx).eval args s none [] s = some (.ref a) ∧ va_O "java/lang/String" a A s s.heap ∧ va_OF "java/lang/String" "coder" "B" (.int 0) a A s s.heap ∧ va_OF "java/lang/String" "value" "[B" (.ref v) a A s s.heap ∧ va_T .byte v l.length (fun i => .int (l.getD i 0)) A s s.heap := by
  have h0 := hF _ (h (Cond.exactly (.string own idx) "java/lang/String") (by simp [mz_tc]))
  have h1 := hF _ (h (Cond.eq (.field (.string own idx) "java/lang/String" "coder" "B") (.int 0)) (by simp [mz_tc]))
  have h2 := hF _ (h (Cond.arrayOf (.field (.string own idx) "java/lang/String" "value" "[B") .byte) (by simp [mz_tc]))
  have h3 := hF _ (h (Cond.eq (.length (.field (.string own idx) "java/lang/String" "value" "[B")) (.int (Int32.ofNat l.length))) (by simp [mz_tc]))
  obtain ⟨a, c, cell, k, q1, -⟩ := Cond.exactly_spec (args := args) (first := s) (o := none) (s := s) (idx := []) h0
  obtain ⟨v, e1, e2⟩ := va_Tof (A := A) (ty := .byte) (N := l.length) (f := fun i => .int (l.getD i 0)) (Nat.lt_trans hl (by decide)) h2 (va_eqt h3) (fun j hj => va_eqt (hF _ (h _ (List.mem_append_right _ (List.mem_map.mpr ⟨j, List.mem_range.mpr hj, rfl⟩))))) hA
  exact ⟨a, v, q1, va_Oof h0 q1 hA, vk_OFof q1 (va_eqt h1) hA, vk_OFof q1 e1 hA, e2⟩
set_option maxRecDepth 100000 in
theorem mz_in0 : (mz_F.drop 262).take 22 = mz_sc "TinyFront$Code" "OWN_WORDS" mz_a0 := by decide +kernel
set_option maxRecDepth 100000 in
theorem mz_in1 : (mz_F.drop 285).take 22 = mz_sc "TinyFront$Code" "WORDS_BETWEEN" mz_a1 := by decide +kernel
set_option maxRecDepth 100000 in
theorem mz_in2 : (mz_F.drop 308).take 22 = mz_sc "TinyFront$Code" "WORD_OF" mz_a2 := by decide +kernel
set_option maxRecDepth 100000 in
theorem mz_in3 : (mz_F.drop 157).take 34 = mz_sc "TinyFront$Parser" "NODE_OF" mz_a3 := by decide +kernel
set_option maxRecDepth 100000 in
theorem mz_in4 : (mz_F.drop 192).take 34 = mz_sc "TinyFront$Parser" "PARTS_OF" mz_a4 := by decide +kernel
set_option maxRecDepth 100000 in
theorem mz_in5 : (mz_F.drop 227).take 34 = mz_sc "TinyFront$Parser" "TOKEN_AT" mz_a5 := by decide +kernel
set_option maxRecDepth 100000 in
theorem mz_in6 : (mz_F.drop 117).take 34 = mz_sc "TinyFront$Table" "LETTER_OF" mz_a6 := by decide +kernel
set_option maxRecDepth 100000 in
theorem mz_in7 : (mz_F.drop 5).take 111 = mz_sc "TinyFront$Table" "ROWS" mz_a7 := by decide +kernel
def mz_b0 : List Int32 := [112, 114, 105, 110, 116]
set_option maxRecDepth 100000 in
theorem mz_jn0 : (mz_F.drop 330).take 9 = mz_tc "TinyFront$Tokens" 109 mz_b0 := by decide +kernel
def mz_b1 : List Int32 := [105, 102]
set_option maxRecDepth 100000 in
theorem mz_jn1 : (mz_F.drop 339).take 6 = mz_tc "TinyFront$Tokens" 111 mz_b1 := by decide +kernel
def mz_b2 : List Int32 := [101, 108, 115, 101]
set_option maxRecDepth 100000 in
theorem mz_jn2 : (mz_F.drop 346).take 8 = mz_tc "TinyFront$Tokens" 113 mz_b2 := by decide +kernel
def mz_b3 : List Int32 := [119, 104, 105, 108, 101]
set_option maxRecDepth 100000 in
theorem mz_jn3 : (mz_F.drop 356).take 9 = mz_tc "TinyFront$Tokens" 115 mz_b3 := by decide +kernel
def mz_b4 : List Int32 := [98, 114, 101, 97, 107]
set_option maxRecDepth 100000 in
theorem mz_jn4 : (mz_F.drop 368).take 9 = mz_tc "TinyFront$Tokens" 117 mz_b4 := by decide +kernel
def mz_b5 : List Int32 := [110, 101, 120, 116]
set_option maxRecDepth 100000 in
theorem mz_jn5 : (mz_F.drop 381).take 8 = mz_tc "TinyFront$Tokens" 119 mz_b5 := by decide +kernel
def mz_b6 : List Int32 := [124, 38, 61]
set_option maxRecDepth 100000 in
theorem mz_jn6 : (mz_F.drop 394).take 7 = mz_tc "TinyFront$Tokens" 88 mz_b6 := by decide +kernel
def mz_b7 : List Int32 := [60, 43, 45, 42, 47, 37, 33, 61, 59, 40, 41, 123, 125]
set_option maxRecDepth 100000 in
theorem mz_jn7 : (mz_F.drop 407).take 17 = mz_tc "TinyFront$Tokens" 95 mz_b7 := by decide +kernel
set_option maxRecDepth 100000 in
theorem mz_ssr : (mz_txs.all (fun q => decide (Cond.stringRef q.1 q.2.1 q.2.2.1 ∈ lw_tbl))) = true := by decide +kernel
set_option maxRecDepth 100000 in
theorem mz_sst : (mz_sts.all (fun q => decide (Cond.laysStatic q.1 q.2.1 q.2.2.1 ∈ lw_tbl) && decide (Cond.initialized q.1 ∈ lw_tbl))) = true := by decide +kernel
set_option maxRecDepth 100000 in
theorem mz_nsin : (mz_nst.all (fun q => decide (Cond.methodLinkNest q.1 q.2.1 q.2.2 "TinyFront" ∈ lw_tbl))) = true := by decide +kernel
set_option maxRecDepth 100000 in
theorem mz_kn8 : (mz_F.drop 151).take 1 = [Cond.eq (.static "java/lang/String" "COMPACT_STRINGS" "Z") (.int 1)] := by decide +kernel
set_option maxRecDepth 100000 in
theorem mz_kn9 : (mz_F.drop 153).take 1 = [Cond.eq (.static "java/lang/StringUTF16" "$assertionsDisabled" "Z") (.int 1)] := by decide +kernel
set_option maxRecDepth 100000 in
theorem mz_kn10 : (mz_F.drop 154).take 1 = [Cond.eq (.static "java/lang/StringUTF16" "HI_BYTE_SHIFT" "I") (.int 0)] := by decide +kernel
set_option maxRecDepth 100000 in
theorem mz_kn11 : (mz_F.drop 155).take 1 = [Cond.eq (.static "java/lang/StringUTF16" "LO_BYTE_SHIFT" "I") (.int 8)] := by decide +kernel
set_option maxRecDepth 100000 in
theorem mz_kn12 : (mz_F.drop 152).take 1 = [Cond.isRef (.static "jdk/internal/util/Preconditions" "SIOOBE_FORMATTER" "Ljava/util/function/BiFunction;")] := by decide +kernel
