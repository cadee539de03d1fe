set_option maxRecDepth 100000 in
theorem t_K_read_0 {X : mz_X} {m : mz_M} {Q : Int32 → mz_M → Prop} (a1 : Int32)
    (h : mz_gi X mz_sh 66 0 [some (.ref 2), some (.int 0), none, none] (mz_up (mz_up (mz_up m 2 10 a1) 2 4 0) 2 5 0) (fun r3 m1 => mz_gi X mz_sh 65 21 [some (.ref 2), none, some (.int r3), none] m1 Q)) :
    mz_gi X mz_sh 65 0 [some (.ref 2), some (.int a1), none, none] m Q := by
  refine mz_go_blk mz_m65 11 (pc' := 17) (L' := [some (.ref 2), some (.int a1), none, none]) (S' := [.int 0, .ref 2]) (sh' := mz_sh) (m' := mz_up (mz_up (mz_up m 2 10 a1) 2 4 0) 2 5 0) (g := true) rfl rfl (rfl) ?_
  refine mz_go_call mz_m65 mz_m66 rfl rfl rfl rfl rfl rfl rfl h (fun v sh1 m1 hv => ?_)
  obtain ⟨r3, rfl, rfl, h2⟩ := hv
  refine mz_go_blk mz_m65 1 (pc' := 21) (L' := [some (.ref 2), some (.int a1), some (.int r3), none]) (S' := []) (sh' := mz_sh) (m' := m1) (g := true) rfl rfl (rfl) ?_
  exact mz_go.forget (L := [some (.ref 2), none, some (.int r3), none]) (mz_lel_cons rfl (mz_lel_cons trivial (mz_lel_cons rfl (mz_lel_cons trivial (mz_lel_nil))))) h2
set_option maxRecDepth 100000 in
theorem t_K_read_1 {X : mz_X} {m : mz_M} {Q : Int32 → mz_M → Prop} (l2 : Int32)
    (h : (((m 2 10) ≤ l2 → mz_gv X mz_sh 72 0 [some (.ref 2), some (.int 0), some (.int (m 2 10)), some (.int 0), some (.int 0)] m (fun m3 => Q (-1) (mz_up m3 2 6 1))) ∧ (¬ ((m 2 10) ≤ l2) → mz_gi X mz_sh 67 0 [some (.ref 2), some (.int l2)] m (fun r8 m6 => ((0 < r8 → mz_gi X mz_sh 66 0 [some (.ref 2), some (.int (l2 + r8)), none, none] m6 (fun r13 m11 => mz_gi X mz_sh 65 21 [some (.ref 2), none, some (.int r13), none] m11 Q)) ∧ (¬ (0 < r8) → Q l2 m6)))))) :
    mz_gi X mz_sh 65 21 [some (.ref 2), none, some (.int l2), none] m Q := by
  refine mz_go_blk mz_m65 4 (pc' := (if (m 2 10) ≤ l2 then 52 else 29)) (L' := [some (.ref 2), none, some (.int l2), none]) (S' := []) (sh' := mz_sh) (m' := m) (g := true) rfl rfl (rfl) ?_
  refine mz_go_if (fun c1 => ?_) (fun c1 => ?_)
  · have h2 := h.1 c1
    refine mz_go_blk mz_m65 6 (pc' := 60) (L' := [some (.ref 2), none, some (.int l2), none]) (S' := [.int 0, .int 0, .int (m 2 10), .int 0, .ref 2]) (sh' := mz_sh) (m' := m) (g := true) rfl rfl (rfl) ?_
    refine mz_go_call mz_m65 mz_m72 rfl rfl rfl rfl rfl rfl rfl h2 (fun v sh1 m3 hv => ?_)
    obtain ⟨rfl, rfl, h4⟩ := hv
    refine mz_go_blk mz_m65 4 (pc' := 69) (L' := [some (.ref 2), none, some (.int l2), none]) (S' := [.int (-1)]) (sh' := mz_sh) (m' := mz_up m3 2 6 1) (g := (decide (1 = 0) || decide (1 = 1)) && true) rfl rfl (mz_and2 (by decide) (rfl)) ?_
    exact mz_go_ret mz_m65 rfl rfl rfl ⟨_, rfl, rfl, h4⟩
  · have h5 := h.2 c1
    refine mz_go_blk mz_m65 2 (pc' := 31) (L' := [some (.ref 2), none, some (.int l2), none]) (S' := [.int l2, .ref 2]) (sh' := mz_sh) (m' := m) (g := true) rfl rfl (rfl) ?_
    refine mz_go_call mz_m65 mz_m67 rfl rfl rfl rfl rfl rfl rfl h5 (fun v sh1 m6 hv => ?_)
    obtain ⟨r8, rfl, rfl, h7⟩ := hv
    refine mz_go_blk mz_m65 3 (pc' := (if 0 < r8 then 41 else 39)) (L' := [some (.ref 2), none, some (.int l2), some (.int r8)]) (S' := []) (sh' := mz_sh) (m' := m6) (g := true) rfl rfl (rfl) ?_
    refine mz_go_if (fun c9 => ?_) (fun c9 => ?_)
    · have h10 := h7.1 c9
      refine mz_go_blk mz_m65 4 (pc' := 45) (L' := [some (.ref 2), none, some (.int l2), some (.int r8)]) (S' := [.int (l2 + r8), .ref 2]) (sh' := mz_sh) (m' := m6) (g := true) rfl rfl (rfl) ?_
      refine mz_go_call mz_m65 mz_m66 rfl rfl rfl rfl rfl rfl rfl h10 (fun v sh1 m11 hv => ?_)
      obtain ⟨r13, rfl, rfl, h12⟩ := hv
      refine mz_go_blk mz_m65 2 (pc' := 21) (L' := [some (.ref 2), none, some (.int r13), some (.int r8)]) (S' := []) (sh' := mz_sh) (m' := m11) (g := true) rfl rfl (rfl) ?_
      exact mz_go.forget (L := [some (.ref 2), none, some (.int r13), none]) (mz_lel_cons rfl (mz_lel_cons trivial (mz_lel_cons rfl (mz_lel_cons trivial (mz_lel_nil))))) h12
    · have h14 := h7.2 c9
      refine mz_go_blk mz_m65 1 (pc' := 40) (L' := [some (.ref 2), none, some (.int l2), some (.int r8)]) (S' := [.int l2]) (sh' := mz_sh) (m' := m6) (g := true) rfl rfl (rfl) ?_
      exact mz_go_ret mz_m65 rfl rfl rfl ⟨_, rfl, rfl, h14⟩
set_option maxRecDepth 100000 in
theorem t_K_behindBlanks_0 {X : mz_X} {m : mz_M} {Q : Int32 → mz_M → Prop} (a1 : Int32)
    (h : mz_gi X mz_sh 66 4 [some (.ref 2), none, some (.int a1), some (.int 0)] m Q) :
    mz_gi X mz_sh 66 0 [some (.ref 2), some (.int a1), none, none] m Q := by
  refine mz_go_blk mz_m66 4 (pc' := 4) (L' := [some (.ref 2), some (.int a1), some (.int a1), some (.int 0)]) (S' := []) (sh' := mz_sh) (m' := m) (g := true) rfl rfl (rfl) ?_
  exact mz_go.forget (L := [some (.ref 2), none, some (.int a1), some (.int 0)]) (mz_lel_cons rfl (mz_lel_cons trivial (mz_lel_cons rfl (mz_lel_cons rfl (mz_lel_nil))))) h
set_option maxRecDepth 100000 in
theorem t_K_behindBlanks_1 {X : mz_X} {m : mz_M} {Q : Int32 → mz_M → Prop} (l2 : Int32) (l3 : Int32)
    (h : (((m 2 10) ≤ l2 → Q l2 m) ∧ (¬ ((m 2 10) ≤ l2) → ((l3 = 0 → mz_inb l2 4000 = true ∧ mz_gi X mz_sh 78 0 [some (.int (m 1 l2.toNatClampNeg))] m (fun r10 m8 => ((r10 = 0 → mz_inb l2 4000 = true ∧ (((m8 1 l2.toNatClampNeg) = 35 → mz_inb l2 4000 = true ∧ (((m8 1 l2.toNatClampNeg) = 10 → mz_gi X mz_sh 66 4 [some (.ref 2), none, some (.int (l2 + 1)), some (.int 0)] m8 Q) ∧ (¬ ((m8 1 l2.toNatClampNeg) = 10) → ((l3 = 0 → mz_inb l2 4000 = true ∧ (((m8 1 l2.toNatClampNeg) = 35 → mz_gi X mz_sh 66 4 [some (.ref 2), none, some (.int (l2 + 1)), some (.int 1)] m8 Q) ∧ (¬ ((m8 1 l2.toNatClampNeg) = 35) → mz_gi X mz_sh 66 4 [some (.ref 2), none, some (.int (l2 + 1)), some (.int 0)] m8 Q))) ∧ (¬ (l3 = 0) → mz_gi X mz_sh 66 4 [some (.ref 2), none, some (.int (l2 + 1)), some (.int 1)] m8 Q))))) ∧ (¬ ((m8 1 l2.toNatClampNeg) = 35) → Q l2 m8))) ∧ (¬ (r10 = 0) → mz_inb l2 4000 = true ∧ (((m8 1 l2.toNatClampNeg) = 10 → mz_gi X mz_sh 66 4 [some (.ref 2), none, some (.int (l2 + 1)), some (.int 0)] m8 Q) ∧ (¬ ((m8 1 l2.toNatClampNeg) = 10) → ((l3 = 0 → mz_inb l2 4000 = true ∧ (((m8 1 l2.toNatClampNeg) = 35 → mz_gi X mz_sh 66 4 [some (.ref 2), none, some (.int (l2 + 1)), some (.int 1)] m8 Q) ∧ (¬ ((m8 1 l2.toNatClampNeg) = 35) → mz_gi X mz_sh 66 4 [some (.ref 2), none, some (.int (l2 + 1)), some (.int 0)] m8 Q))) ∧ (¬ (l3 = 0) → mz_gi X mz_sh 66 4 [some (.ref 2), none, some (.int (l2 + 1)), some (.int 1)] m8 Q)))))))) ∧ (¬ (l3 = 0) → mz_inb l2 4000 = true ∧ (((m 1 l2.toNatClampNeg) = 10 → mz_gi X mz_sh 66 4 [some (.ref 2), none, some (.int (l2 + 1)), some (.int 0)] m Q) ∧ (¬ ((m 1 l2.toNatClampNeg) = 10) → ((l3 = 0 → mz_inb l2 4000 = true ∧ (((m 1 l2.toNatClampNeg) = 35 → mz_gi X mz_sh 66 4 [some (.ref 2), none, some (.int (l2 + 1)), some (.int 1)] m Q) ∧ (¬ ((m 1 l2.toNatClampNeg) = 35) → mz_gi X mz_sh 66 4 [some (.ref 2), none, some (.int (l2 + 1)), some (.int 0)] m Q))) ∧ (¬ (l3 = 0) → mz_gi X mz_sh 66 4 [some (.ref 2), none, some (.int (l2 + 1)), some (.int 1)] m Q))))))))) :
    mz_gi X mz_sh 66 4 [some (.ref 2), none, some (.int l2), some (.int l3)] m Q := by
  refine mz_go_blk mz_m66 4 (pc' := (if (m 2 10) ≤ l2 then 77 else 12)) (L' := [some (.ref 2), none, some (.int l2), some (.int l3)]) (S' := []) (sh' := mz_sh) (m' := m) (g := true) rfl rfl (rfl) ?_
  refine mz_go_if (fun c1 => ?_) (fun c1 => ?_)
  · have h2 := h.1 c1
    refine mz_go_blk mz_m66 1 (pc' := 78) (L' := [some (.ref 2), none, some (.int l2), some (.int l3)]) (S' := [.int l2]) (sh' := mz_sh) (m' := m) (g := true) rfl rfl (rfl) ?_
    exact mz_go_ret mz_m66 rfl rfl rfl ⟨_, rfl, rfl, h2⟩
  · have h3 := h.2 c1
    refine mz_go_blk mz_m66 2 (pc' := (if l3 = 0 then 16 else 39)) (L' := [some (.ref 2), none, some (.int l2), some (.int l3)]) (S' := []) (sh' := mz_sh) (m' := m) (g := true) rfl rfl (rfl) ?_
    refine mz_go_if (fun c4 => ?_) (fun c4 => ?_)
    · have h5 := h3.1 c4
      obtain ⟨g6, h7⟩ := h5
      refine mz_go_blk mz_m66 4 (pc' := 22) (L' := [some (.ref 2), none, some (.int l2), some (.int l3)]) (S' := [.int (m 1 l2.toNatClampNeg)]) (sh' := mz_sh) (m' := m) (g := mz_inb l2 4000 && true) rfl rfl (mz_and2 (g6) (rfl)) ?_
      refine mz_go_call mz_m66 mz_m78 rfl rfl rfl rfl rfl rfl rfl h7 (fun v sh1 m8 hv => ?_)
      obtain ⟨r10, rfl, rfl, h9⟩ := hv
      refine mz_go_blk mz_m66 1 (pc' := (if r10 = 0 then 28 else 39)) (L' := [some (.ref 2), none, some (.int l2), some (.int l3)]) (S' := []) (sh' := mz_sh) (m' := m8) (g := true) rfl rfl (rfl) ?_
      refine mz_go_if (fun c11 => ?_) (fun c11 => ?_)
      · have h12 := h9.1 c11
        obtain ⟨g13, h14⟩ := h12
        refine mz_go_blk mz_m66 6 (pc' := (if (m8 1 l2.toNatClampNeg) = 35 then 39 else 77)) (L' := [some (.ref 2), none, some (.int l2), some (.int l3)]) (S' := []) (sh' := mz_sh) (m' := m8) (g := mz_inb l2 4000 && true) rfl rfl (mz_and2 (g13) (rfl)) ?_
        refine mz_go_if (fun c15 => ?_) (fun c15 => ?_)
        · have h16 := h14.1 c15
          obtain ⟨g17, h18⟩ := h16
          refine mz_go_blk mz_m66 6 (pc' := (if (m8 1 l2.toNatClampNeg) = 10 then 69 else 50)) (L' := [some (.ref 2), none, some (.int l2), some (.int l3)]) (S' := []) (sh' := mz_sh) (m' := m8) (g := mz_inb l2 4000 && true) rfl rfl (mz_and2 (g17) (rfl)) ?_
          refine mz_go_if (fun c19 => ?_) (fun c19 => ?_)
          · have h20 := h18.1 c19
            refine mz_go_blk mz_m66 4 (pc' := 4) (L' := [some (.ref 2), none, some (.int (l2 + 1)), some (.int 0)]) (S' := []) (sh' := mz_sh) (m' := m8) (g := true) rfl rfl (rfl) ?_
            exact h20
          · have h21 := h18.2 c19
            refine mz_go_blk mz_m66 2 (pc' := (if l3 = 0 then 54 else 65)) (L' := [some (.ref 2), none, some (.int l2), some (.int l3)]) (S' := []) (sh' := mz_sh) (m' := m8) (g := true) rfl rfl (rfl) ?_
            refine mz_go_if (fun c22 => ?_) (fun c22 => ?_)
            · have h23 := h21.1 c22
              obtain ⟨g24, h25⟩ := h23
              refine mz_go_blk mz_m66 6 (pc' := (if (m8 1 l2.toNatClampNeg) = 35 then 65 else 69)) (L' := [some (.ref 2), none, some (.int l2), some (.int l3)]) (S' := []) (sh' := mz_sh) (m' := m8) (g := mz_inb l2 4000 && true) rfl rfl (mz_and2 (g24) (rfl)) ?_
              refine mz_go_if (fun c26 => ?_) (fun c26 => ?_)
              · have h27 := h25.1 c26
                refine mz_go_blk mz_m66 5 (pc' := 4) (L' := [some (.ref 2), none, some (.int (l2 + 1)), some (.int 1)]) (S' := []) (sh' := mz_sh) (m' := m8) (g := true) rfl rfl (rfl) ?_
                exact h27
              · have h28 := h25.2 c26
                refine mz_go_blk mz_m66 4 (pc' := 4) (L' := [some (.ref 2), none, some (.int (l2 + 1)), some (.int 0)]) (S' := []) (sh' := mz_sh) (m' := m8) (g := true) rfl rfl (rfl) ?_
                exact h28
            · have h29 := h21.2 c22
              refine mz_go_blk mz_m66 5 (pc' := 4) (L' := [some (.ref 2), none, some (.int (l2 + 1)), some (.int 1)]) (S' := []) (sh' := mz_sh) (m' := m8) (g := true) rfl rfl (rfl) ?_
              exact h29
        · have h30 := h14.2 c15
          refine mz_go_blk mz_m66 1 (pc' := 78) (L' := [some (.ref 2), none, some (.int l2), some (.int l3)]) (S' := [.int l2]) (sh' := mz_sh) (m' := m8) (g := true) rfl rfl (rfl) ?_
          exact mz_go_ret mz_m66 rfl rfl rfl ⟨_, rfl, rfl, h30⟩
      · have h31 := h9.2 c11
        obtain ⟨g32, h33⟩ := h31
        refine mz_go_blk mz_m66 6 (pc' := (if (m8 1 l2.toNatClampNeg) = 10 then 69 else 50)) (L' := [some (.ref 2), none, some (.int l2), some (.int l3)]) (S' := []) (sh' := mz_sh) (m' := m8) (g := mz_inb l2 4000 && true) rfl rfl (mz_and2 (g32) (rfl)) ?_
        refine mz_go_if (fun c34 => ?_) (fun c34 => ?_)
        · have h35 := h33.1 c34
          refine mz_go_blk mz_m66 4 (pc' := 4) (L' := [some (.ref 2), none, some (.int (l2 + 1)), some (.int 0)]) (S' := []) (sh' := mz_sh) (m' := m8) (g := true) rfl rfl (rfl) ?_
          exact h35
        · have h36 := h33.2 c34
          refine mz_go_blk mz_m66 2 (pc' := (if l3 = 0 then 54 else 65)) (L' := [some (.ref 2), none, some (.int l2), some (.int l3)]) (S' := []) (sh' := mz_sh) (m' := m8) (g := true) rfl rfl (rfl) ?_
          refine mz_go_if (fun c37 => ?_) (fun c37 => ?_)
          · have h38 := h36.1 c37
            obtain ⟨g39, h40⟩ := h38
            refine mz_go_blk mz_m66 6 (pc' := (if (m8 1 l2.toNatClampNeg) = 35 then 65 else 69)) (L' := [some (.ref 2), none, some (.int l2), some (.int l3)]) (S' := []) (sh' := mz_sh) (m' := m8) (g := mz_inb l2 4000 && true) rfl rfl (mz_and2 (g39) (rfl)) ?_
            refine mz_go_if (fun c41 => ?_) (fun c41 => ?_)
            · have h42 := h40.1 c41
              refine mz_go_blk mz_m66 5 (pc' := 4) (L' := [some (.ref 2), none, some (.int (l2 + 1)), some (.int 1)]) (S' := []) (sh' := mz_sh) (m' := m8) (g := true) rfl rfl (rfl) ?_
              exact h42
            · have h43 := h40.2 c41
              refine mz_go_blk mz_m66 4 (pc' := 4) (L' := [some (.ref 2), none, some (.int (l2 + 1)), some (.int 0)]) (S' := []) (sh' := mz_sh) (m' := m8) (g := true) rfl rfl (rfl) ?_
              exact h43
          · have h44 := h36.2 c37
            refine mz_go_blk mz_m66 5 (pc' := 4) (L' := [some (.ref 2), none, some (.int (l2 + 1)), some (.int 1)]) (S' := []) (sh' := mz_sh) (m' := m8) (g := true) rfl rfl (rfl) ?_
            exact h44
    · have h45 := h3.2 c4
      obtain ⟨g46, h47⟩ := h45
      refine mz_go_blk mz_m66 6 (pc' := (if (m 1 l2.toNatClampNeg) = 10 then 69 else 50)) (L' := [some (.ref 2), none, some (.int l2), some (.int l3)]) (S' := []) (sh' := mz_sh) (m' := m) (g := mz_inb l2 4000 && true) rfl rfl (mz_and2 (g46) (rfl)) ?_
      refine mz_go_if (fun c48 => ?_) (fun c48 => ?_)
      · have h49 := h47.1 c48
        refine mz_go_blk mz_m66 4 (pc' := 4) (L' := [some (.ref 2), none, some (.int (l2 + 1)), some (.int 0)]) (S' := []) (sh' := mz_sh) (m' := m) (g := true) rfl rfl (rfl) ?_
        exact h49
      · have h50 := h47.2 c48
        refine mz_go_blk mz_m66 2 (pc' := (if l3 = 0 then 54 else 65)) (L' := [some (.ref 2), none, some (.int l2), some (.int l3)]) (S' := []) (sh' := mz_sh) (m' := m) (g := true) rfl rfl (rfl) ?_
        refine mz_go_if (fun c51 => ?_) (fun c51 => ?_)
        · have h52 := h50.1 c51
          obtain ⟨g53, h54⟩ := h52
          refine mz_go_blk mz_m66 6 (pc' := (if (m 1 l2.toNatClampNeg) = 35 then 65 else 69)) (L' := [some (.ref 2), none, some (.int l2), some (.int l3)]) (S' := []) (sh' := mz_sh) (m' := m) (g := mz_inb l2 4000 && true) rfl rfl (mz_and2 (g53) (rfl)) ?_
          refine mz_go_if (fun c55 => ?_) (fun c55 => ?_)
          · have h56 := h54.1 c55
            refine mz_go_blk mz_m66 5 (pc' := 4) (L' := [some (.ref 2), none, some (.int (l2 + 1)), some (.int 1)]) (S' := []) (sh' := mz_sh) (m' := m) (g := true) rfl rfl (rfl) ?_
            exact h56
          · have h57 := h54.2 c55
            refine mz_go_blk mz_m66 4 (pc' := 4) (L' := [some (.ref 2), none, some (.int (l2 + 1)), some (.int 0)]) (S' := []) (sh' := mz_sh) (m' := m) (g := true) rfl rfl (rfl) ?_
            exact h57
        · have h58 := h50.2 c51
          refine mz_go_blk mz_m66 5 (pc' := 4) (L' := [some (.ref 2), none, some (.int (l2 + 1)), some (.int 1)]) (S' := []) (sh' := mz_sh) (m' := m) (g := true) rfl rfl (rfl) ?_
          exact h58
set_option maxRecDepth 100000 in
theorem t_K_addToken_0 {X : mz_X} {m : mz_M} {Q : Int32 → mz_M → Prop} (a1 : Int32)
    (h : mz_inb a1 4000 = true ∧ mz_gi X mz_sh 79 0 [some (.int (m 1 a1.toNatClampNeg))] m (fun r5 m3 => ((r5 = 0 → mz_inb a1 4000 = true ∧ mz_gi X mz_sh 80 0 [some (.int (m3 1 a1.toNatClampNeg))] m3 (fun r12 m10 => ((r12 = 0 → mz_gi X mz_sh 70 0 [some (.ref 2), some (.int a1), none, none] m10 (fun r17 m15 => Q r17 m15)) ∧ (¬ (r12 = 0) → mz_gi X mz_sh 69 0 [some (.ref 2), some (.int a1), none, none, none, none] m10 (fun r21 m19 => Q r21 m19))))) ∧ (¬ (r5 = 0) → mz_gi X mz_sh 68 0 [some (.ref 2), some (.int a1), none, none] m3 (fun r25 m23 => Q r25 m23))))) :
    mz_gi X mz_sh 67 0 [some (.ref 2), some (.int a1)] m Q := by
  obtain ⟨g1, h2⟩ := h
  refine mz_go_blk mz_m67 4 (pc' := 6) (L' := [some (.ref 2), some (.int a1)]) (S' := [.int (m 1 a1.toNatClampNeg)]) (sh' := mz_sh) (m' := m) (g := mz_inb a1 4000 && true) rfl rfl (mz_and2 (g1) (rfl)) ?_
  refine mz_go_call mz_m67 mz_m79 rfl rfl rfl rfl rfl rfl rfl h2 (fun v sh1 m3 hv => ?_)
  obtain ⟨r5, rfl, rfl, h4⟩ := hv
  refine mz_go_blk mz_m67 1 (pc' := (if r5 = 0 then 18 else 12)) (L' := [some (.ref 2), some (.int a1)]) (S' := []) (sh' := mz_sh) (m' := m3) (g := true) rfl rfl (rfl) ?_
  refine mz_go_if (fun c6 => ?_) (fun c6 => ?_)
  · have h7 := h4.1 c6
    obtain ⟨g8, h9⟩ := h7
    refine mz_go_blk mz_m67 4 (pc' := 24) (L' := [some (.ref 2), some (.int a1)]) (S' := [.int (m3 1 a1.toNatClampNeg)]) (sh' := mz_sh) (m' := m3) (g := mz_inb a1 4000 && true) rfl rfl (mz_and2 (g8) (rfl)) ?_
    refine mz_go_call mz_m67 mz_m80 rfl rfl rfl rfl rfl rfl rfl h9 (fun v sh1 m10 hv => ?_)
    obtain ⟨r12, rfl, rfl, h11⟩ := hv
    refine mz_go_blk mz_m67 1 (pc' := (if r12 = 0 then 36 else 30)) (L' := [some (.ref 2), some (.int a1)]) (S' := []) (sh' := mz_sh) (m' := m10) (g := true) rfl rfl (rfl) ?_
    refine mz_go_if (fun c13 => ?_) (fun c13 => ?_)
    · have h14 := h11.1 c13
      refine mz_go_blk mz_m67 2 (pc' := 38) (L' := [some (.ref 2), some (.int a1)]) (S' := [.int a1, .ref 2]) (sh' := mz_sh) (m' := m10) (g := true) rfl rfl (rfl) ?_
      refine mz_go_call mz_m67 mz_m70 rfl rfl rfl rfl rfl rfl rfl h14 (fun v sh1 m15 hv => ?_)
      obtain ⟨r17, rfl, rfl, h16⟩ := hv
      exact mz_go_ret mz_m67 rfl rfl rfl ⟨_, rfl, rfl, h16⟩
    · have h18 := h11.2 c13
      refine mz_go_blk mz_m67 2 (pc' := 32) (L' := [some (.ref 2), some (.int a1)]) (S' := [.int a1, .ref 2]) (sh' := mz_sh) (m' := m10) (g := true) rfl rfl (rfl) ?_
      refine mz_go_call mz_m67 mz_m69 rfl rfl rfl rfl rfl rfl rfl h18 (fun v sh1 m19 hv => ?_)
      obtain ⟨r21, rfl, rfl, h20⟩ := hv
      exact mz_go_ret mz_m67 rfl rfl rfl ⟨_, rfl, rfl, h20⟩
  · have h22 := h4.2 c6
    refine mz_go_blk mz_m67 2 (pc' := 14) (L' := [some (.ref 2), some (.int a1)]) (S' := [.int a1, .ref 2]) (sh' := mz_sh) (m' := m3) (g := true) rfl rfl (rfl) ?_
    refine mz_go_call mz_m67 mz_m68 rfl rfl rfl rfl rfl rfl rfl h22 (fun v sh1 m23 hv => ?_)
    obtain ⟨r25, rfl, rfl, h24⟩ := hv
    exact mz_go_ret mz_m67 rfl rfl rfl ⟨_, rfl, rfl, h24⟩
set_option maxRecDepth 100000 in
theorem t_K_addNumber_0 {X : mz_X} {m : mz_M} {Q : Int32 → mz_M → Prop} (a1 : Int32)
    (h : mz_gi X mz_sh 68 4 [some (.ref 2), some (.int a1), some (.int a1), some (.int 0)] m Q) :
    mz_gi X mz_sh 68 0 [some (.ref 2), some (.int a1), none, none] m Q := by
  refine mz_go_blk mz_m68 4 (pc' := 4) (L' := [some (.ref 2), some (.int a1), some (.int a1), some (.int 0)]) (S' := []) (sh' := mz_sh) (m' := m) (g := true) rfl rfl (rfl) ?_
  exact h
set_option maxRecDepth 100000 in
theorem t_K_addNumber_1 {X : mz_X} {m : mz_M} {Q : Int32 → mz_M → Prop} (l1 : Int32) (l2 : Int32) (l3 : Int32)
    (h : (((m 2 10) ≤ l2 → mz_gi X mz_sh 71 0 [some (.ref 2), some (.int 2), some (.int l1), some (.int (l2 - l1)), some (.int l3)] m (fun r5 m3 => Q r5 m3)) ∧ (¬ ((m 2 10) ≤ l2) → mz_inb l2 4000 = true ∧ mz_gi X mz_sh 79 0 [some (.int (m 1 l2.toNatClampNeg))] m (fun r11 m9 => ((r11 = 0 → mz_gi X mz_sh 71 0 [some (.ref 2), some (.int 2), some (.int l1), some (.int (l2 - l1)), some (.int l3)] m9 (fun r16 m14 => Q r16 m14)) ∧ (¬ (r11 = 0) → mz_inb l2 4000 = true ∧ mz_gi X mz_sh 68 4 [some (.ref 2), some (.int l1), some (.int (l2 + 1)), some (.int ((l3 * 10) + ((m9 1 l2.toNatClampNeg) - 48)))] m9 Q)))))) :
    mz_gi X mz_sh 68 4 [some (.ref 2), some (.int l1), some (.int l2), some (.int l3)] m Q := by
  refine mz_go_blk mz_m68 4 (pc' := (if (m 2 10) ≤ l2 then 45 else 12)) (L' := [some (.ref 2), some (.int l1), some (.int l2), some (.int l3)]) (S' := []) (sh' := mz_sh) (m' := m) (g := true) rfl rfl (rfl) ?_
  refine mz_go_if (fun c1 => ?_) (fun c1 => ?_)
  · have h2 := h.1 c1
    refine mz_go_blk mz_m68 7 (pc' := 52) (L' := [some (.ref 2), some (.int l1), some (.int l2), some (.int l3)]) (S' := [.int l3, .int (l2 - l1), .int l1, .int 2, .ref 2]) (sh' := mz_sh) (m' := m) (g := true) rfl rfl (rfl) ?_
    refine mz_go_call mz_m68 mz_m71 rfl rfl rfl rfl rfl rfl rfl h2 (fun v sh1 m3 hv => ?_)
    obtain ⟨r5, rfl, rfl, h4⟩ := hv
    exact mz_go_ret mz_m68 rfl rfl rfl ⟨_, rfl, rfl, h4⟩
  · have h6 := h.2 c1
    obtain ⟨g7, h8⟩ := h6
    refine mz_go_blk mz_m68 4 (pc' := 18) (L' := [some (.ref 2), some (.int l1), some (.int l2), some (.int l3)]) (S' := [.int (m 1 l2.toNatClampNeg)]) (sh' := mz_sh) (m' := m) (g := mz_inb l2 4000 && true) rfl rfl (mz_and2 (g7) (rfl)) ?_
    refine mz_go_call mz_m68 mz_m79 rfl rfl rfl rfl rfl rfl rfl h8 (fun v sh1 m9 hv => ?_)
    obtain ⟨r11, rfl, rfl, h10⟩ := hv
    refine mz_go_blk mz_m68 1 (pc' := (if r11 = 0 then 45 else 24)) (L' := [some (.ref 2), some (.int l1), some (.int l2), some (.int l3)]) (S' := []) (sh' := mz_sh) (m' := m9) (g := true) rfl rfl (rfl) ?_
    refine mz_go_if (fun c12 => ?_) (fun c12 => ?_)
    · have h13 := h10.1 c12
      refine mz_go_blk mz_m68 7 (pc' := 52) (L' := [some (.ref 2), some (.int l1), some (.int l2), some (.int l3)]) (S' := [.int l3, .int (l2 - l1), .int l1, .int 2, .ref 2]) (sh' := mz_sh) (m' := m9) (g := true) rfl rfl (rfl) ?_
      refine mz_go_call mz_m68 mz_m71 rfl rfl rfl rfl rfl rfl rfl h13 (fun v sh1 m14 hv => ?_)
      obtain ⟨r16, rfl, rfl, h15⟩ := hv
      exact mz_go_ret mz_m68 rfl rfl rfl ⟨_, rfl, rfl, h15⟩
    · have h17 := h10.2 c12
      obtain ⟨g18, h19⟩ := h17
      refine mz_go_blk mz_m68 13 (pc' := 4) (L' := [some (.ref 2), some (.int l1), some (.int (l2 + 1)), some (.int ((l3 * 10) + ((m9 1 l2.toNatClampNeg) - 48)))]) (S' := []) (sh' := mz_sh) (m' := m9) (g := mz_inb l2 4000 && true) rfl rfl (mz_and2 (g18) (rfl)) ?_
      exact h19
set_option maxRecDepth 100000 in
theorem t_K_addWordOrName_0 {X : mz_X} {m : mz_M} {Q : Int32 → mz_M → Prop} (a1 : Int32)
    (h : mz_gi X mz_sh 69 2 [some (.ref 2), some (.int a1), some (.int a1), none, none, none] m Q) :
    mz_gi X mz_sh 69 0 [some (.ref 2), some (.int a1), none, none, none, none] m Q := by
  refine mz_go_blk mz_m69 2 (pc' := 2) (L' := [some (.ref 2), some (.int a1), some (.int a1), none, none, none]) (S' := []) (sh' := mz_sh) (m' := m) (g := true) rfl rfl (rfl) ?_
  exact h
set_option maxRecDepth 100000 in
theorem t_K_addWordOrName_1 {X : mz_X} {m : mz_M} {Q : Int32 → mz_M → Prop} (l1 : Int32) (l2 : Int32)
    (h : (((m 2 10) ≤ l2 → mz_gi X mz_sh 75 0 [some (.ref 2), some (.int l1), some (.int (l2 - l1)), none] m (fun r5 m3 => ((r5 = 1 → (((l2 - l1) ≤ 16 → mz_gi X mz_sh 73 0 [some (.ref 2), some (.int l1), some (.int (l2 - l1)), none] m3 (fun r12 m10 => ((r12 = (-1) → Q 0 m10) ∧ (¬ (r12 = (-1)) → mz_gi X mz_sh 71 0 [some (.ref 2), some (.int 1), some (.int l1), some (.int (l2 - l1)), some (.int r12)] m10 (fun r18 m16 => Q r18 m16))))) ∧ (¬ ((l2 - l1) ≤ 16) → Q 0 m3))) ∧ (¬ (r5 = 1) → mz_gi X mz_sh 71 0 [some (.ref 2), some (.int r5), some (.int l1), some (.int (l2 - l1)), some (.int 0)] m3 (fun r23 m21 => Q r23 m21))))) ∧ (¬ ((m 2 10) ≤ l2) → mz_inb l2 4000 = true ∧ mz_gi X mz_sh 80 0 [some (.int (m 1 l2.toNatClampNeg))] m (fun r29 m27 => ((r29 = 0 → mz_inb l2 4000 = true ∧ mz_gi X mz_sh 79 0 [some (.int (m27 1 l2.toNatClampNeg))] m27 (fun r36 m34 => ((r36 = 0 → mz_gi X mz_sh 75 0 [some (.ref 2), some (.int l1), some (.int (l2 - l1)), none] m34 (fun r41 m39 => ((r41 = 1 → (((l2 - l1) ≤ 16 → mz_gi X mz_sh 73 0 [some (.ref 2), some (.int l1), some (.int (l2 - l1)), none] m39 (fun r48 m46 => ((r48 = (-1) → Q 0 m46) ∧ (¬ (r48 = (-1)) → mz_gi X mz_sh 71 0 [some (.ref 2), some (.int 1), some (.int l1), some (.int (l2 - l1)), some (.int r48)] m46 (fun r54 m52 => Q r54 m52))))) ∧ (¬ ((l2 - l1) ≤ 16) → Q 0 m39))) ∧ (¬ (r41 = 1) → mz_gi X mz_sh 71 0 [some (.ref 2), some (.int r41), some (.int l1), some (.int (l2 - l1)), some (.int 0)] m39 (fun r59 m57 => Q r59 m57))))) ∧ (¬ (r36 = 0) → mz_gi X mz_sh 69 2 [some (.ref 2), some (.int l1), some (.int (l2 + 1)), none, none, none] m34 Q)))) ∧ (¬ (r29 = 0) → mz_gi X mz_sh 69 2 [some (.ref 2), some (.int l1), some (.int (l2 + 1)), none, none, none] m27 Q)))))) :
    mz_gi X mz_sh 69 2 [some (.ref 2), some (.int l1), some (.int l2), none, none, none] m Q := by
  refine mz_go_blk mz_m69 4 (pc' := (if (m 2 10) ≤ l2 then 40 else 10)) (L' := [some (.ref 2), some (.int l1), some (.int l2), none, none, none]) (S' := []) (sh' := mz_sh) (m' := m) (g := true) rfl rfl (rfl) ?_
  refine mz_go_if (fun c1 => ?_) (fun c1 => ?_)
  · have h2 := h.1 c1
    refine mz_go_blk mz_m69 7 (pc' := 47) (L' := [some (.ref 2), some (.int l1), some (.int l2), some (.int (l2 - l1)), none, none]) (S' := [.int (l2 - l1), .int l1, .ref 2]) (sh' := mz_sh) (m' := m) (g := true) rfl rfl (rfl) ?_
    refine mz_go_call mz_m69 mz_m75 rfl rfl rfl rfl rfl rfl rfl h2 (fun v sh1 m3 hv => ?_)
    obtain ⟨r5, rfl, rfl, h4⟩ := hv
    refine mz_go_blk mz_m69 4 (pc' := (if r5 = 1 then 68 else 58)) (L' := [some (.ref 2), some (.int l1), some (.int l2), some (.int (l2 - l1)), some (.int r5), none]) (S' := []) (sh' := mz_sh) (m' := m3) (g := true) rfl rfl (rfl) ?_
    refine mz_go_if (fun c6 => ?_) (fun c6 => ?_)
    · have h7 := h4.1 c6
      refine mz_go_blk mz_m69 3 (pc' := (if (l2 - l1) ≤ 16 then 78 else 74)) (L' := [some (.ref 2), some (.int l1), some (.int l2), some (.int (l2 - l1)), some (.int r5), none]) (S' := []) (sh' := mz_sh) (m' := m3) (g := true) rfl rfl (rfl) ?_
      refine mz_go_if (fun c8 => ?_) (fun c8 => ?_)
      · have h9 := h7.1 c8
        refine mz_go_blk mz_m69 3 (pc' := 81) (L' := [some (.ref 2), some (.int l1), some (.int l2), some (.int (l2 - l1)), some (.int r5), none]) (S' := [.int (l2 - l1), .int l1, .ref 2]) (sh' := mz_sh) (m' := m3) (g := true) rfl rfl (rfl) ?_
        refine mz_go_call mz_m69 mz_m73 rfl rfl rfl rfl rfl rfl rfl h9 (fun v sh1 m10 hv => ?_)
        obtain ⟨r12, rfl, rfl, h11⟩ := hv
        refine mz_go_blk mz_m69 4 (pc' := (if r12 = (-1) then 92 else 96)) (L' := [some (.ref 2), some (.int l1), some (.int l2), some (.int (l2 - l1)), some (.int r5), some (.int r12)]) (S' := []) (sh' := mz_sh) (m' := m10) (g := true) rfl rfl (rfl) ?_
        refine mz_go_if (fun c13 => ?_) (fun c13 => ?_)
        · have h14 := h11.1 c13
          refine mz_go_blk mz_m69 2 (pc' := 105) (L' := [some (.ref 2), some (.int l1), some (.int l2), some (.int (l2 - l1)), some (.int r5), some (.int r12)]) (S' := [.int 0]) (sh' := mz_sh) (m' := m10) (g := true) rfl rfl (rfl) ?_
          exact mz_go_ret mz_m69 rfl rfl rfl ⟨_, rfl, rfl, h14⟩
        · have h15 := h11.2 c13
          refine mz_go_blk mz_m69 5 (pc' := 102) (L' := [some (.ref 2), some (.int l1), some (.int l2), some (.int (l2 - l1)), some (.int r5), some (.int r12)]) (S' := [.int r12, .int (l2 - l1), .int l1, .int 1, .ref 2]) (sh' := mz_sh) (m' := m10) (g := true) rfl rfl (rfl) ?_
          refine mz_go_call mz_m69 mz_m71 rfl rfl rfl rfl rfl rfl rfl h15 (fun v sh1 m16 hv => ?_)
          obtain ⟨r18, rfl, rfl, h17⟩ := hv
          exact mz_go_ret mz_m69 rfl rfl rfl ⟨_, rfl, rfl, h17⟩
      · have h19 := h7.2 c8
        refine mz_go_blk mz_m69 8 (pc' := 105) (L' := [some (.ref 2), some (.int l1), some (.int l2), some (.int (l2 - l1)), some (.int r5), some (.int (-1))]) (S' := [.int 0]) (sh' := mz_sh) (m' := m3) (g := true) rfl rfl (rfl) ?_
        exact mz_go_ret mz_m69 rfl rfl rfl ⟨_, rfl, rfl, h19⟩
    · have h20 := h4.2 c6
      refine mz_go_blk mz_m69 5 (pc' := 64) (L' := [some (.ref 2), some (.int l1), some (.int l2), some (.int (l2 - l1)), some (.int r5), none]) (S' := [.int 0, .int (l2 - l1), .int l1, .int r5, .ref 2]) (sh' := mz_sh) (m' := m3) (g := true) rfl rfl (rfl) ?_
      refine mz_go_call mz_m69 mz_m71 rfl rfl rfl rfl rfl rfl rfl h20 (fun v sh1 m21 hv => ?_)
      obtain ⟨r23, rfl, rfl, h22⟩ := hv
      exact mz_go_ret mz_m69 rfl rfl rfl ⟨_, rfl, rfl, h22⟩
  · have h24 := h.2 c1
    obtain ⟨g25, h26⟩ := h24
    refine mz_go_blk mz_m69 4 (pc' := 16) (L' := [some (.ref 2), some (.int l1), some (.int l2), none, none, none]) (S' := [.int (m 1 l2.toNatClampNeg)]) (sh' := mz_sh) (m' := m) (g := mz_inb l2 4000 && true) rfl rfl (mz_and2 (g25) (rfl)) ?_
    refine mz_go_call mz_m69 mz_m80 rfl rfl rfl rfl rfl rfl rfl h26 (fun v sh1 m27 hv => ?_)
    obtain ⟨r29, rfl, rfl, h28⟩ := hv
    refine mz_go_blk mz_m69 1 (pc' := (if r29 = 0 then 22 else 34)) (L' := [some (.ref 2), some (.int l1), some (.int l2), none, none, none]) (S' := []) (sh' := mz_sh) (m' := m27) (g := true) rfl rfl (rfl) ?_
    refine mz_go_if (fun c30 => ?_) (fun c30 => ?_)
    · have h31 := h28.1 c30
      obtain ⟨g32, h33⟩ := h31
      refine mz_go_blk mz_m69 4 (pc' := 28) (L' := [some (.ref 2), some (.int l1), some (.int l2), none, none, none]) (S' := [.int (m27 1 l2.toNatClampNeg)]) (sh' := mz_sh) (m' := m27) (g := mz_inb l2 4000 && true) rfl rfl (mz_and2 (g32) (rfl)) ?_
      refine mz_go_call mz_m69 mz_m79 rfl rfl rfl rfl rfl rfl rfl h33 (fun v sh1 m34 hv => ?_)
      obtain ⟨r36, rfl, rfl, h35⟩ := hv
      refine mz_go_blk mz_m69 1 (pc' := (if r36 = 0 then 40 else 34)) (L' := [some (.ref 2), some (.int l1), some (.int l2), none, none, none]) (S' := []) (sh' := mz_sh) (m' := m34) (g := true) rfl rfl (rfl) ?_
      refine mz_go_if (fun c37 => ?_) (fun c37 => ?_)
      · have h38 := h35.1 c37
        refine mz_go_blk mz_m69 7 (pc' := 47) (L' := [some (.ref 2), some (.int l1), some (.int l2), some (.int (l2 - l1)), none, none]) (S' := [.int (l2 - l1), .int l1, .ref 2]) (sh' := mz_sh) (m' := m34) (g := true) rfl rfl (rfl) ?_
        refine mz_go_call mz_m69 mz_m75 rfl rfl rfl rfl rfl rfl rfl h38 (fun v sh1 m39 hv => ?_)
        obtain ⟨r41, rfl, rfl, h40⟩ := hv
        refine mz_go_blk mz_m69 4 (pc' := (if r41 = 1 then 68 else 58)) (L' := [some (.ref 2), some (.int l1), some (.int l2), some (.int (l2 - l1)), some (.int r41), none]) (S' := []) (sh' := mz_sh) (m' := m39) (g := true) rfl rfl (rfl) ?_
        refine mz_go_if (fun c42 => ?_) (fun c42 => ?_)
        · have h43 := h40.1 c42
          refine mz_go_blk mz_m69 3 (pc' := (if (l2 - l1) ≤ 16 then 78 else 74)) (L' := [some (.ref 2), some (.int l1), some (.int l2), some (.int (l2 - l1)), some (.int r41), none]) (S' := []) (sh' := mz_sh) (m' := m39) (g := true) rfl rfl (rfl) ?_
          refine mz_go_if (fun c44 => ?_) (fun c44 => ?_)
          · have h45 := h43.1 c44
            refine mz_go_blk mz_m69 3 (pc' := 81) (L' := [some (.ref 2), some (.int l1), some (.int l2), some (.int (l2 - l1)), some (.int r41), none]) (S' := [.int (l2 - l1), .int l1, .ref 2]) (sh' := mz_sh) (m' := m39) (g := true) rfl rfl (rfl) ?_
            refine mz_go_call mz_m69 mz_m73 rfl rfl rfl rfl rfl rfl rfl h45 (fun v sh1 m46 hv => ?_)
            obtain ⟨r48, rfl, rfl, h47⟩ := hv
            refine mz_go_blk mz_m69 4 (pc' := (if r48 = (-1) then 92 else 96)) (L' := [some (.ref 2), some (.int l1), some (.int l2), some (.int (l2 - l1)), some (.int r41), some (.int r48)]) (S' := []) (sh' := mz_sh) (m' := m46) (g := true) rfl rfl (rfl) ?_
            refine mz_go_if (fun c49 => ?_) (fun c49 => ?_)
            · have h50 := h47.1 c49
              refine mz_go_blk mz_m69 2 (pc' := 105) (L' := [some (.ref 2), some (.int l1), some (.int l2), some (.int (l2 - l1)), some (.int r41), some (.int r48)]) (S' := [.int 0]) (sh' := mz_sh) (m' := m46) (g := true) rfl rfl (rfl) ?_
              exact mz_go_ret mz_m69 rfl rfl rfl ⟨_, rfl, rfl, h50⟩
            · have h51 := h47.2 c49
              refine mz_go_blk mz_m69 5 (pc' := 102) (L' := [some (.ref 2), some (.int l1), some (.int l2), some (.int (l2 - l1)), some (.int r41), some (.int r48)]) (S' := [.int r48, .int (l2 - l1), .int l1, .int 1, .ref 2]) (sh' := mz_sh) (m' := m46) (g := true) rfl rfl (rfl) ?_
              refine mz_go_call mz_m69 mz_m71 rfl rfl rfl rfl rfl rfl rfl h51 (fun v sh1 m52 hv => ?_)
              obtain ⟨r54, rfl, rfl, h53⟩ := hv
              exact mz_go_ret mz_m69 rfl rfl rfl ⟨_, rfl, rfl, h53⟩
          · have h55 := h43.2 c44
            refine mz_go_blk mz_m69 8 (pc' := 105) (L' := [some (.ref 2), some (.int l1), some (.int l2), some (.int (l2 - l1)), some (.int r41), some (.int (-1))]) (S' := [.int 0]) (sh' := mz_sh) (m' := m39) (g := true) rfl rfl (rfl) ?_
            exact mz_go_ret mz_m69 rfl rfl rfl ⟨_, rfl, rfl, h55⟩
        · have h56 := h40.2 c42
          refine mz_go_blk mz_m69 5 (pc' := 64) (L' := [some (.ref 2), some (.int l1), some (.int l2), some (.int (l2 - l1)), some (.int r41), none]) (S' := [.int 0, .int (l2 - l1), .int l1, .int r41, .ref 2]) (sh' := mz_sh) (m' := m39) (g := true) rfl rfl (rfl) ?_
          refine mz_go_call mz_m69 mz_m71 rfl rfl rfl rfl rfl rfl rfl h56 (fun v sh1 m57 hv => ?_)
          obtain ⟨r59, rfl, rfl, h58⟩ := hv
          exact mz_go_ret mz_m69 rfl rfl rfl ⟨_, rfl, rfl, h58⟩
      · have h60 := h35.2 c37
        refine mz_go_blk mz_m69 2 (pc' := 2) (L' := [some (.ref 2), some (.int l1), some (.int (l2 + 1)), none, none, none]) (S' := []) (sh' := mz_sh) (m' := m34) (g := true) rfl rfl (rfl) ?_
        exact h60
    · have h61 := h28.2 c30
      refine mz_go_blk mz_m69 2 (pc' := 2) (L' := [some (.ref 2), some (.int l1), some (.int (l2 + 1)), none, none, none]) (S' := []) (sh' := mz_sh) (m' := m27) (g := true) rfl rfl (rfl) ?_
      exact h61
set_option maxRecDepth 100000 in
theorem t_K_addSign_0 {X : mz_X} {m : mz_M} {Q : Int32 → mz_M → Prop} (a1 : Int32)
    (h : mz_inb a1 4000 = true ∧ mz_gi X mz_sh 194 0 [some (.ref 316), some (.int (((m 1 a1.toNatClampNeg).toUInt32 % 65536).toInt32))] m (fun r5 m3 => ((r5 < 0 → mz_gi X mz_sh 194 0 [some (.ref 317), some (.int (((m 1 a1.toNatClampNeg).toUInt32 % 65536).toInt32))] m3 (fun r10 m8 => ((0 ≤ r10 → mz_gi X mz_sh 71 0 [some (.ref 2), some (.int (12 + r10)), some (.int a1), some (.int 1), some (.int 0)] m8 (fun r15 m13 => Q r15 m13)) ∧ (¬ (0 ≤ r10) → Q 0 m8)))) ∧ (¬ (r5 < 0) → (((m3 2 10) ≤ (a1 + 1) → mz_gi X mz_sh 194 0 [some (.ref 317), some (.int (((m 1 a1.toNatClampNeg).toUInt32 % 65536).toInt32))] m3 (fun r22 m20 => ((0 ≤ r22 → mz_gi X mz_sh 71 0 [some (.ref 2), some (.int (12 + r22)), some (.int a1), some (.int 1), some (.int 0)] m20 (fun r27 m25 => Q r27 m25)) ∧ (¬ (0 ≤ r22) → Q 0 m20)))) ∧ (¬ ((m3 2 10) ≤ (a1 + 1)) → mz_inb (a1 + 1) 4000 = true ∧ (((m3 1 ((a1 + 1).toNatClampNeg)) = (((m 1 a1.toNatClampNeg).toUInt32 % 65536).toInt32) → mz_gi X mz_sh 71 0 [some (.ref 2), some (.int (9 + r5)), some (.int a1), some (.int 2), some (.int 0)] m3 (fun r36 m34 => Q r36 m34)) ∧ (¬ ((m3 1 ((a1 + 1).toNatClampNeg)) = (((m 1 a1.toNatClampNeg).toUInt32 % 65536).toInt32)) → mz_gi X mz_sh 194 0 [some (.ref 317), some (.int (((m 1 a1.toNatClampNeg).toUInt32 % 65536).toInt32))] m3 (fun r40 m38 => ((0 ≤ r40 → mz_gi X mz_sh 71 0 [some (.ref 2), some (.int (12 + r40)), some (.int a1), some (.int 1), some (.int 0)] m38 (fun r45 m43 => Q r45 m43)) ∧ (¬ (0 ≤ r40) → Q 0 m38))))))))))) :
    mz_gi X mz_sh 70 0 [some (.ref 2), some (.int a1), none, none] m Q := by
  obtain ⟨g1, h2⟩ := h
  refine mz_go_blk mz_m70 8 (pc' := 11) (L' := [some (.ref 2), some (.int a1), some (.int (((m 1 a1.toNatClampNeg).toUInt32 % 65536).toInt32)), none]) (S' := [.int (((m 1 a1.toNatClampNeg).toUInt32 % 65536).toInt32), .ref 316]) (sh' := mz_sh) (m' := m) (g := mz_inb a1 4000 && true) rfl rfl (mz_and2 (g1) (rfl)) ?_
  refine mz_go_call mz_m70 mz_m194 rfl rfl rfl rfl rfl rfl rfl h2 (fun v sh1 m3 hv => ?_)
  obtain ⟨r5, rfl, rfl, h4⟩ := hv
  refine mz_go_blk mz_m70 3 (pc' := (if r5 < 0 then 53 else 19)) (L' := [some (.ref 2), some (.int a1), some (.int (((m 1 a1.toNatClampNeg).toUInt32 % 65536).toInt32)), some (.int r5)]) (S' := []) (sh' := mz_sh) (m' := m3) (g := true) rfl rfl (rfl) ?_
  refine mz_go_if (fun c6 => ?_) (fun c6 => ?_)
  · have h7 := h4.1 c6
    refine mz_go_blk mz_m70 2 (pc' := 56) (L' := [some (.ref 2), some (.int a1), some (.int (((m 1 a1.toNatClampNeg).toUInt32 % 65536).toInt32)), some (.int r5)]) (S' := [.int (((m 1 a1.toNatClampNeg).toUInt32 % 65536).toInt32), .ref 317]) (sh' := mz_sh) (m' := m3) (g := true) rfl rfl (rfl) ?_
    refine mz_go_call mz_m70 mz_m194 rfl rfl rfl rfl rfl rfl rfl h7 (fun v sh1 m8 hv => ?_)
    obtain ⟨r10, rfl, rfl, h9⟩ := hv
    refine mz_go_blk mz_m70 3 (pc' := (if 0 ≤ r10 then 68 else 64)) (L' := [some (.ref 2), some (.int a1), some (.int (((m 1 a1.toNatClampNeg).toUInt32 % 65536).toInt32)), some (.int r10)]) (S' := []) (sh' := mz_sh) (m' := m8) (g := true) rfl rfl (rfl) ?_
    refine mz_go_if (fun c11 => ?_) (fun c11 => ?_)
    · have h12 := h9.1 c11
      refine mz_go_blk mz_m70 7 (pc' := 76) (L' := [some (.ref 2), some (.int a1), some (.int (((m 1 a1.toNatClampNeg).toUInt32 % 65536).toInt32)), some (.int r10)]) (S' := [.int 0, .int 1, .int a1, .int (12 + r10), .ref 2]) (sh' := mz_sh) (m' := m8) (g := true) rfl rfl (rfl) ?_
      refine mz_go_call mz_m70 mz_m71 rfl rfl rfl rfl rfl rfl rfl h12 (fun v sh1 m13 hv => ?_)
      obtain ⟨r15, rfl, rfl, h14⟩ := hv
      exact mz_go_ret mz_m70 rfl rfl rfl ⟨_, rfl, rfl, h14⟩
    · have h16 := h9.2 c11
      refine mz_go_blk mz_m70 2 (pc' := 79) (L' := [some (.ref 2), some (.int a1), some (.int (((m 1 a1.toNatClampNeg).toUInt32 % 65536).toInt32)), some (.int r10)]) (S' := [.int 0]) (sh' := mz_sh) (m' := m8) (g := true) rfl rfl (rfl) ?_
      exact mz_go_ret mz_m70 rfl rfl rfl ⟨_, rfl, rfl, h16⟩
  · have h17 := h4.2 c6
    refine mz_go_blk mz_m70 6 (pc' := (if (m3 2 10) ≤ (a1 + 1) then 53 else 29)) (L' := [some (.ref 2), some (.int a1), some (.int (((m 1 a1.toNatClampNeg).toUInt32 % 65536).toInt32)), some (.int r5)]) (S' := []) (sh' := mz_sh) (m' := m3) (g := true) rfl rfl (rfl) ?_
    refine mz_go_if (fun c18 => ?_) (fun c18 => ?_)
    · have h19 := h17.1 c18
      refine mz_go_blk mz_m70 2 (pc' := 56) (L' := [some (.ref 2), some (.int a1), some (.int (((m 1 a1.toNatClampNeg).toUInt32 % 65536).toInt32)), some (.int r5)]) (S' := [.int (((m 1 a1.toNatClampNeg).toUInt32 % 65536).toInt32), .ref 317]) (sh' := mz_sh) (m' := m3) (g := true) rfl rfl (rfl) ?_
      refine mz_go_call mz_m70 mz_m194 rfl rfl rfl rfl rfl rfl rfl h19 (fun v sh1 m20 hv => ?_)
      obtain ⟨r22, rfl, rfl, h21⟩ := hv
      refine mz_go_blk mz_m70 3 (pc' := (if 0 ≤ r22 then 68 else 64)) (L' := [some (.ref 2), some (.int a1), some (.int (((m 1 a1.toNatClampNeg).toUInt32 % 65536).toInt32)), some (.int r22)]) (S' := []) (sh' := mz_sh) (m' := m20) (g := true) rfl rfl (rfl) ?_
      refine mz_go_if (fun c23 => ?_) (fun c23 => ?_)
      · have h24 := h21.1 c23
        refine mz_go_blk mz_m70 7 (pc' := 76) (L' := [some (.ref 2), some (.int a1), some (.int (((m 1 a1.toNatClampNeg).toUInt32 % 65536).toInt32)), some (.int r22)]) (S' := [.int 0, .int 1, .int a1, .int (12 + r22), .ref 2]) (sh' := mz_sh) (m' := m20) (g := true) rfl rfl (rfl) ?_
        refine mz_go_call mz_m70 mz_m71 rfl rfl rfl rfl rfl rfl rfl h24 (fun v sh1 m25 hv => ?_)
        obtain ⟨r27, rfl, rfl, h26⟩ := hv
        exact mz_go_ret mz_m70 rfl rfl rfl ⟨_, rfl, rfl, h26⟩
      · have h28 := h21.2 c23
        refine mz_go_blk mz_m70 2 (pc' := 79) (L' := [some (.ref 2), some (.int a1), some (.int (((m 1 a1.toNatClampNeg).toUInt32 % 65536).toInt32)), some (.int r22)]) (S' := [.int 0]) (sh' := mz_sh) (m' := m20) (g := true) rfl rfl (rfl) ?_
        exact mz_go_ret mz_m70 rfl rfl rfl ⟨_, rfl, rfl, h28⟩
    · have h29 := h17.2 c18
      obtain ⟨g30, h31⟩ := h29
      refine mz_go_blk mz_m70 8 (pc' := (if (m3 1 ((a1 + 1).toNatClampNeg)) = (((m 1 a1.toNatClampNeg).toUInt32 % 65536).toInt32) then 41 else 53)) (L' := [some (.ref 2), some (.int a1), some (.int (((m 1 a1.toNatClampNeg).toUInt32 % 65536).toInt32)), some (.int r5)]) (S' := []) (sh' := mz_sh) (m' := m3) (g := mz_inb (a1 + 1) 4000 && true) rfl rfl (mz_and2 (g30) (rfl)) ?_
      refine mz_go_if (fun c32 => ?_) (fun c32 => ?_)
      · have h33 := h31.1 c32
        refine mz_go_blk mz_m70 7 (pc' := 49) (L' := [some (.ref 2), some (.int a1), some (.int (((m 1 a1.toNatClampNeg).toUInt32 % 65536).toInt32)), some (.int r5)]) (S' := [.int 0, .int 2, .int a1, .int (9 + r5), .ref 2]) (sh' := mz_sh) (m' := m3) (g := true) rfl rfl (rfl) ?_
        refine mz_go_call mz_m70 mz_m71 rfl rfl rfl rfl rfl rfl rfl h33 (fun v sh1 m34 hv => ?_)
        obtain ⟨r36, rfl, rfl, h35⟩ := hv
        exact mz_go_ret mz_m70 rfl rfl rfl ⟨_, rfl, rfl, h35⟩
      · have h37 := h31.2 c32
        refine mz_go_blk mz_m70 2 (pc' := 56) (L' := [some (.ref 2), some (.int a1), some (.int (((m 1 a1.toNatClampNeg).toUInt32 % 65536).toInt32)), some (.int r5)]) (S' := [.int (((m 1 a1.toNatClampNeg).toUInt32 % 65536).toInt32), .ref 317]) (sh' := mz_sh) (m' := m3) (g := true) rfl rfl (rfl) ?_
        refine mz_go_call mz_m70 mz_m194 rfl rfl rfl rfl rfl rfl rfl h37 (fun v sh1 m38 hv => ?_)
        obtain ⟨r40, rfl, rfl, h39⟩ := hv
        refine mz_go_blk mz_m70 3 (pc' := (if 0 ≤ r40 then 68 else 64)) (L' := [some (.ref 2), some (.int a1), some (.int (((m 1 a1.toNatClampNeg).toUInt32 % 65536).toInt32)), some (.int r40)]) (S' := []) (sh' := mz_sh) (m' := m38) (g := true) rfl rfl (rfl) ?_
        refine mz_go_if (fun c41 => ?_) (fun c41 => ?_)
        · have h42 := h39.1 c41
          refine mz_go_blk mz_m70 7 (pc' := 76) (L' := [some (.ref 2), some (.int a1), some (.int (((m 1 a1.toNatClampNeg).toUInt32 % 65536).toInt32)), some (.int r40)]) (S' := [.int 0, .int 1, .int a1, .int (12 + r40), .ref 2]) (sh' := mz_sh) (m' := m38) (g := true) rfl rfl (rfl) ?_
          refine mz_go_call mz_m70 mz_m71 rfl rfl rfl rfl rfl rfl rfl h42 (fun v sh1 m43 hv => ?_)
          obtain ⟨r45, rfl, rfl, h44⟩ := hv
          exact mz_go_ret mz_m70 rfl rfl rfl ⟨_, rfl, rfl, h44⟩
        · have h46 := h39.2 c41
          refine mz_go_blk mz_m70 2 (pc' := 79) (L' := [some (.ref 2), some (.int a1), some (.int (((m 1 a1.toNatClampNeg).toUInt32 % 65536).toInt32)), some (.int r40)]) (S' := [.int 0]) (sh' := mz_sh) (m' := m38) (g := true) rfl rfl (rfl) ?_
          exact mz_go_ret mz_m70 rfl rfl rfl ⟨_, rfl, rfl, h46⟩
set_option maxRecDepth 100000 in
theorem t_K_add_0 {X : mz_X} {m : mz_M} {Q : Int32 → mz_M → Prop} (a1 : Int32) (a2 : Int32) (a3 : Int32) (a4 : Int32)
    (h : mz_gv X mz_sh 72 0 [some (.ref 2), some (.int a1), some (.int a2), some (.int a3), some (.int a4)] m (fun m1 => Q a3 (mz_up m1 2 4 ((m1 2 4) + 1)))) :
    mz_gi X mz_sh 71 0 [some (.ref 2), some (.int a1), some (.int a2), some (.int a3), some (.int a4)] m Q := by
  refine mz_go_blk mz_m71 5 (pc' := 6) (L' := [some (.ref 2), some (.int a1), some (.int a2), some (.int a3), some (.int a4)]) (S' := [.int a4, .int a3, .int a2, .int a1, .ref 2]) (sh' := mz_sh) (m' := m) (g := true) rfl rfl (rfl) ?_
  refine mz_go_call mz_m71 mz_m72 rfl rfl rfl rfl rfl rfl rfl h (fun v sh1 m1 hv => ?_)
  obtain ⟨rfl, rfl, h2⟩ := hv
  refine mz_go_blk mz_m71 7 (pc' := 20) (L' := [some (.ref 2), some (.int a1), some (.int a2), some (.int a3), some (.int a4)]) (S' := [.int a3]) (sh' := mz_sh) (m' := mz_up m1 2 4 ((m1 2 4) + 1)) (g := true) rfl rfl (rfl) ?_
  exact mz_go_ret mz_m71 rfl rfl rfl ⟨_, rfl, rfl, h2⟩
set_option maxRecDepth 100000 in
theorem t_K_put_0 {X : mz_X} {m : mz_M} {Q : mz_M → Prop} (a1 : Int32) (a2 : Int32) (a3 : Int32) (a4 : Int32)
    (h : ((4001 ≤ (m 2 4) → Q m) ∧ (¬ (4001 ≤ (m 2 4)) → mz_inb (m 2 4) 4001 = true ∧ mz_inb (m 2 4) 4001 = true ∧ mz_inb (m 2 4) 4001 = true ∧ mz_inb (m 2 4) 4001 = true ∧ Q (mz_up (mz_up (mz_up (mz_up m 3 ((m 2 4).toNatClampNeg) a1) 4 ((m 2 4).toNatClampNeg) a2) 5 ((m 2 4).toNatClampNeg) a3) 6 ((m 2 4).toNatClampNeg) a4)))) :
    mz_gv X mz_sh 72 0 [some (.ref 2), some (.int a1), some (.int a2), some (.int a3), some (.int a4)] m Q := by
  refine mz_go_blk mz_m72 6 (pc' := (if 4001 ≤ (m 2 4) then 53 else 12)) (L' := [some (.ref 2), some (.int a1), some (.int a2), some (.int a3), some (.int a4)]) (S' := []) (sh' := mz_sh) (m' := m) (g := true) rfl rfl (rfl) ?_
  refine mz_go_if (fun c1 => ?_) (fun c1 => ?_)
  · have h2 := h.1 c1
    exact mz_go_ret mz_m72 rfl rfl rfl ⟨rfl, rfl, h2⟩
  · have h3 := h.2 c1
    obtain ⟨g4, g5, g6, g7, h8⟩ := h3
    refine mz_go_blk mz_m72 24 (pc' := 53) (L' := [some (.ref 2), some (.int a1), some (.int a2), some (.int a3), some (.int a4)]) (S' := []) (sh' := mz_sh) (m' := mz_up (mz_up (mz_up (mz_up m 3 ((m 2 4).toNatClampNeg) a1) 4 ((m 2 4).toNatClampNeg) a2) 5 ((m 2 4).toNatClampNeg) a3) 6 ((m 2 4).toNatClampNeg) a4) (g := mz_inb (m 2 4) 4001 && (mz_inb (m 2 4) 4001 && (mz_inb (m 2 4) 4001 && (mz_inb (m 2 4) 4001 && true)))) rfl rfl (mz_and2 (g7) (mz_and2 (g6) (mz_and2 (g5) (mz_and2 (g4) (rfl))))) ?_
    exact mz_go_ret mz_m72 rfl rfl rfl ⟨rfl, rfl, h8⟩
set_option maxRecDepth 100000 in
theorem t_K_slotOf_0 {X : mz_X} {m : mz_M} {Q : Int32 → mz_M → Prop} (a1 : Int32) (a2 : Int32)
    (h : mz_gi X mz_sh 73 2 [some (.ref 2), some (.int a1), some (.int a2), some (.int 0)] m Q) :
    mz_gi X mz_sh 73 0 [some (.ref 2), some (.int a1), some (.int a2), none] m Q := by
  refine mz_go_blk mz_m73 2 (pc' := 2) (L' := [some (.ref 2), some (.int a1), some (.int a2), some (.int 0)]) (S' := []) (sh' := mz_sh) (m' := m) (g := true) rfl rfl (rfl) ?_
  exact h
set_option maxRecDepth 100000 in
theorem t_K_slotOf_1 {X : mz_X} {m : mz_M} {Q : Int32 → mz_M → Prop} (l1 : Int32) (l2 : Int32) (l3 : Int32)
    (h : (((m 2 5) ≤ l3 → (((m 2 5) < 32 → mz_inb (m 2 5) 32 = true ∧ mz_inb (m 2 5) 32 = true ∧ Q (((m 2 5) + 1) - 1) (mz_up (mz_up (mz_up m 7 ((m 2 5).toNatClampNeg) l1) 8 ((m 2 5).toNatClampNeg) l2) 2 5 ((m 2 5) + 1))) ∧ (¬ ((m 2 5) < 32) → Q (-1) m))) ∧ (¬ ((m 2 5) ≤ l3) → mz_inb l3 32 = true ∧ (((m 8 l3.toNatClampNeg) = l2 → mz_inb l3 32 = true ∧ mz_gi X mz_sh 74 0 [some (.ref 2), some (.int (m 7 l3.toNatClampNeg)), some (.int l1), some (.int l2), none] m (fun r18 m16 => ((r18 = 0 → mz_gi X mz_sh 73 2 [some (.ref 2), some (.int l1), some (.int l2), some (.int (l3 + 1))] m16 Q) ∧ (¬ (r18 = 0) → Q l3 m16)))) ∧ (¬ ((m 8 l3.toNatClampNeg) = l2) → mz_gi X mz_sh 73 2 [some (.ref 2), some (.int l1), some (.int l2), some (.int (l3 + 1))] m Q))))) :
    mz_gi X mz_sh 73 2 [some (.ref 2), some (.int l1), some (.int l2), some (.int l3)] m Q := by
  refine mz_go_blk mz_m73 4 (pc' := (if (m 2 5) ≤ l3 then 43 else 10)) (L' := [some (.ref 2), some (.int l1), some (.int l2), some (.int l3)]) (S' := []) (sh' := mz_sh) (m' := m) (g := true) rfl rfl (rfl) ?_
  refine mz_go_if (fun c1 => ?_) (fun c1 => ?_)
  · have h2 := h.1 c1
    refine mz_go_blk mz_m73 4 (pc' := (if (m 2 5) < 32 then 54 else 52)) (L' := [some (.ref 2), some (.int l1), some (.int l2), some (.int l3)]) (S' := []) (sh' := mz_sh) (m' := m) (g := true) rfl rfl (rfl) ?_
    refine mz_go_if (fun c3 => ?_) (fun c3 => ?_)
    · have h4 := h2.1 c3
      obtain ⟨g5, g6, h7⟩ := h4
      refine mz_go_blk mz_m73 22 (pc' := 90) (L' := [some (.ref 2), some (.int l1), some (.int l2), some (.int l3)]) (S' := [.int (((m 2 5) + 1) - 1)]) (sh' := mz_sh) (m' := mz_up (mz_up (mz_up m 7 ((m 2 5).toNatClampNeg) l1) 8 ((m 2 5).toNatClampNeg) l2) 2 5 ((m 2 5) + 1)) (g := mz_inb (m 2 5) 32 && (mz_inb (m 2 5) 32 && true)) rfl rfl (mz_and2 (g6) (mz_and2 (g5) (rfl))) ?_
      exact mz_go_ret mz_m73 rfl rfl rfl ⟨_, rfl, rfl, h7⟩
    · have h8 := h2.2 c3
      refine mz_go_blk mz_m73 1 (pc' := 53) (L' := [some (.ref 2), some (.int l1), some (.int l2), some (.int l3)]) (S' := [.int (-1)]) (sh' := mz_sh) (m' := m) (g := true) rfl rfl (rfl) ?_
      exact mz_go_ret mz_m73 rfl rfl rfl ⟨_, rfl, rfl, h8⟩
  · have h9 := h.2 c1
    obtain ⟨g10, h11⟩ := h9
    refine mz_go_blk mz_m73 6 (pc' := (if (m 8 l3.toNatClampNeg) = l2 then 20 else 37)) (L' := [some (.ref 2), some (.int l1), some (.int l2), some (.int l3)]) (S' := []) (sh' := mz_sh) (m' := m) (g := mz_inb l3 32 && true) rfl rfl (mz_and2 (g10) (rfl)) ?_
    refine mz_go_if (fun c12 => ?_) (fun c12 => ?_)
    · have h13 := h11.1 c12
      obtain ⟨g14, h15⟩ := h13
      refine mz_go_blk mz_m73 7 (pc' := 29) (L' := [some (.ref 2), some (.int l1), some (.int l2), some (.int l3)]) (S' := [.int l2, .int l1, .int (m 7 l3.toNatClampNeg), .ref 2]) (sh' := mz_sh) (m' := m) (g := mz_inb l3 32 && true) rfl rfl (mz_and2 (g14) (rfl)) ?_
      refine mz_go_call mz_m73 mz_m74 rfl rfl rfl rfl rfl rfl rfl h15 (fun v sh1 m16 hv => ?_)
      obtain ⟨r18, rfl, rfl, h17⟩ := hv
      refine mz_go_blk mz_m73 1 (pc' := (if r18 = 0 then 37 else 35)) (L' := [some (.ref 2), some (.int l1), some (.int l2), some (.int l3)]) (S' := []) (sh' := mz_sh) (m' := m16) (g := true) rfl rfl (rfl) ?_
      refine mz_go_if (fun c19 => ?_) (fun c19 => ?_)
      · have h20 := h17.1 c19
        refine mz_go_blk mz_m73 2 (pc' := 2) (L' := [some (.ref 2), some (.int l1), some (.int l2), some (.int (l3 + 1))]) (S' := []) (sh' := mz_sh) (m' := m16) (g := true) rfl rfl (rfl) ?_
        exact h20
      · have h21 := h17.2 c19
        refine mz_go_blk mz_m73 1 (pc' := 36) (L' := [some (.ref 2), some (.int l1), some (.int l2), some (.int l3)]) (S' := [.int l3]) (sh' := mz_sh) (m' := m16) (g := true) rfl rfl (rfl) ?_
        exact mz_go_ret mz_m73 rfl rfl rfl ⟨_, rfl, rfl, h21⟩
    · have h22 := h11.2 c12
      refine mz_go_blk mz_m73 2 (pc' := 2) (L' := [some (.ref 2), some (.int l1), some (.int l2), some (.int (l3 + 1))]) (S' := []) (sh' := mz_sh) (m' := m) (g := true) rfl rfl (rfl) ?_
      exact h22
set_option maxRecDepth 100000 in
theorem t_K_sameBytes_0 {X : mz_X} {m : mz_M} {Q : Int32 → mz_M → Prop} (a1 : Int32) (a2 : Int32) (a3 : Int32)
    (h : mz_gi X mz_sh 74 3 [some (.ref 2), some (.int a1), some (.int a2), some (.int a3), some (.int 0)] m Q) :
    mz_gi X mz_sh 74 0 [some (.ref 2), some (.int a1), some (.int a2), some (.int a3), none] m Q := by
  refine mz_go_blk mz_m74 2 (pc' := 3) (L' := [some (.ref 2), some (.int a1), some (.int a2), some (.int a3), some (.int 0)]) (S' := []) (sh' := mz_sh) (m' := m) (g := true) rfl rfl (rfl) ?_
  exact h
set_option maxRecDepth 100000 in
theorem t_K_sameBytes_1 {X : mz_X} {m : mz_M} {Q : Int32 → mz_M → Prop} (l1 : Int32) (l2 : Int32) (l3 : Int32) (l4 : Int32)
    (h : ((l3 ≤ l4 → Q 1 m) ∧ (¬ (l3 ≤ l4) → mz_inb (l1 + l4) 4000 = true ∧ mz_inb (l2 + l4) 4000 = true ∧ (((m 1 ((l1 + l4).toNatClampNeg)) = (m 1 ((l2 + l4).toNatClampNeg)) → mz_gi X mz_sh 74 3 [some (.ref 2), some (.int l1), some (.int l2), some (.int l3), some (.int (l4 + 1))] m Q) ∧ (¬ ((m 1 ((l1 + l4).toNatClampNeg)) = (m 1 ((l2 + l4).toNatClampNeg))) → Q 0 m))))) :
    mz_gi X mz_sh 74 3 [some (.ref 2), some (.int l1), some (.int l2), some (.int l3), some (.int l4)] m Q := by
  refine mz_go_blk mz_m74 3 (pc' := (if l3 ≤ l4 then 38 else 9)) (L' := [some (.ref 2), some (.int l1), some (.int l2), some (.int l3), some (.int l4)]) (S' := []) (sh' := mz_sh) (m' := m) (g := true) rfl rfl (rfl) ?_
  refine mz_go_if (fun c1 => ?_) (fun c1 => ?_)
  · have h2 := h.1 c1
    refine mz_go_blk mz_m74 1 (pc' := 39) (L' := [some (.ref 2), some (.int l1), some (.int l2), some (.int l3), some (.int l4)]) (S' := [.int 1]) (sh' := mz_sh) (m' := m) (g := true) rfl rfl (rfl) ?_
    exact mz_go_ret mz_m74 rfl rfl rfl ⟨_, rfl, rfl, h2⟩
  · have h3 := h.2 c1
    obtain ⟨g4, g5, h6⟩ := h3
    refine mz_go_blk mz_m74 13 (pc' := (if (m 1 ((l1 + l4).toNatClampNeg)) = (m 1 ((l2 + l4).toNatClampNeg)) then 32 else 30)) (L' := [some (.ref 2), some (.int l1), some (.int l2), some (.int l3), some (.int l4)]) (S' := []) (sh' := mz_sh) (m' := m) (g := mz_inb (l2 + l4) 4000 && (mz_inb (l1 + l4) 4000 && true)) rfl rfl (mz_and2 (g5) (mz_and2 (g4) (rfl))) ?_
    refine mz_go_if (fun c7 => ?_) (fun c7 => ?_)
    · have h8 := h6.1 c7
      refine mz_go_blk mz_m74 2 (pc' := 3) (L' := [some (.ref 2), some (.int l1), some (.int l2), some (.int l3), some (.int (l4 + 1))]) (S' := []) (sh' := mz_sh) (m' := m) (g := true) rfl rfl (rfl) ?_
      exact h8
    · have h9 := h6.2 c7
      refine mz_go_blk mz_m74 1 (pc' := 31) (L' := [some (.ref 2), some (.int l1), some (.int l2), some (.int l3), some (.int l4)]) (S' := [.int 0]) (sh' := mz_sh) (m' := m) (g := true) rfl rfl (rfl) ?_
      exact mz_go_ret mz_m74 rfl rfl rfl ⟨_, rfl, rfl, h9⟩
set_option maxRecDepth 100000 in
theorem t_K_wordKind_0 {X : mz_X} {m : mz_M} {Q : Int32 → mz_M → Prop} (a1 : Int32) (a2 : Int32)
    (h : mz_gi X mz_sh 75 2 [some (.ref 2), some (.int a1), some (.int a2), some (.int 3)] m Q) :
    mz_gi X mz_sh 75 0 [some (.ref 2), some (.int a1), some (.int a2), none] m Q := by
  refine mz_go_blk mz_m75 2 (pc' := 2) (L' := [some (.ref 2), some (.int a1), some (.int a2), some (.int 3)]) (S' := []) (sh' := mz_sh) (m' := m) (g := true) rfl rfl (rfl) ?_
  exact h
set_option maxRecDepth 100000 in
theorem t_K_wordKind_1 {X : mz_X} {m : mz_M} {Q : Int32 → mz_M → Prop} (l1 : Int32) (l2 : Int32) (l3 : Int32)
    (h : ((8 < l3 → Q 1 m) ∧ (¬ (8 < l3) → mz_gr X mz_sh 76 0 [some (.int l3)] m (fun r6 m4 => (r6 = 310 ∧ mz_gi X mz_sh 77 0 [some (.ref 2), some (.int l1), some (.int l2), some (.ref 310), none] m4 (fun r9 m7 => ((r9 = 0 → mz_gi X mz_sh 75 2 [some (.ref 2), some (.int l1), some (.int l2), some (.int (l3 + 1))] m7 Q) ∧ (¬ (r9 = 0) → Q l3 m7)))) ∨ (r6 = 311 ∧ mz_gi X mz_sh 77 0 [some (.ref 2), some (.int l1), some (.int l2), some (.ref 311), none] m4 (fun r15 m13 => ((r15 = 0 → mz_gi X mz_sh 75 2 [some (.ref 2), some (.int l1), some (.int l2), some (.int (l3 + 1))] m13 Q) ∧ (¬ (r15 = 0) → Q l3 m13)))) ∨ (r6 = 312 ∧ mz_gi X mz_sh 77 0 [some (.ref 2), some (.int l1), some (.int l2), some (.ref 312), none] m4 (fun r21 m19 => ((r21 = 0 → mz_gi X mz_sh 75 2 [some (.ref 2), some (.int l1), some (.int l2), some (.int (l3 + 1))] m19 Q) ∧ (¬ (r21 = 0) → Q l3 m19)))) ∨ (r6 = 313 ∧ mz_gi X mz_sh 77 0 [some (.ref 2), some (.int l1), some (.int l2), some (.ref 313), none] m4 (fun r27 m25 => ((r27 = 0 → mz_gi X mz_sh 75 2 [some (.ref 2), some (.int l1), some (.int l2), some (.int (l3 + 1))] m25 Q) ∧ (¬ (r27 = 0) → Q l3 m25)))) ∨ (r6 = 314 ∧ mz_gi X mz_sh 77 0 [some (.ref 2), some (.int l1), some (.int l2), some (.ref 314), none] m4 (fun r33 m31 => ((r33 = 0 → mz_gi X mz_sh 75 2 [some (.ref 2), some (.int l1), some (.int l2), some (.int (l3 + 1))] m31 Q) ∧ (¬ (r33 = 0) → Q l3 m31)))) ∨ (r6 = 315 ∧ mz_gi X mz_sh 77 0 [some (.ref 2), some (.int l1), some (.int l2), some (.ref 315), none] m4 (fun r39 m37 => ((r39 = 0 → mz_gi X mz_sh 75 2 [some (.ref 2), some (.int l1), some (.int l2), some (.int (l3 + 1))] m37 Q) ∧ (¬ (r39 = 0) → Q l3 m37)))))))) :
    mz_gi X mz_sh 75 2 [some (.ref 2), some (.int l1), some (.int l2), some (.int l3)] m Q := by
  refine mz_go_blk mz_m75 3 (pc' := (if 8 < l3 then 29 else 8)) (L' := [some (.ref 2), some (.int l1), some (.int l2), some (.int l3)]) (S' := []) (sh' := mz_sh) (m' := m) (g := true) rfl rfl (rfl) ?_
  refine mz_go_if (fun c1 => ?_) (fun c1 => ?_)
  · have h2 := h.1 c1
    refine mz_go_blk mz_m75 1 (pc' := 30) (L' := [some (.ref 2), some (.int l1), some (.int l2), some (.int l3)]) (S' := [.int 1]) (sh' := mz_sh) (m' := m) (g := true) rfl rfl (rfl) ?_
    exact mz_go_ret mz_m75 rfl rfl rfl ⟨_, rfl, rfl, h2⟩
  · have h3 := h.2 c1
    refine mz_go_blk mz_m75 4 (pc' := 12) (L' := [some (.ref 2), some (.int l1), some (.int l2), some (.int l3)]) (S' := [.int l3, .int l2, .int l1, .ref 2]) (sh' := mz_sh) (m' := m) (g := true) rfl rfl (rfl) ?_
    refine mz_go_call mz_m75 mz_m76 rfl rfl rfl rfl rfl rfl rfl h3 (fun v sh1 m4 hv => ?_)
    obtain ⟨r6, rfl, rfl, h5⟩ := hv
    rcases h5 with ⟨rfl, h5k310⟩ | ⟨rfl, h5k311⟩ | ⟨rfl, h5k312⟩ | ⟨rfl, h5k313⟩ | ⟨rfl, h5k314⟩ | ⟨rfl, h5k315⟩
    · refine mz_go_call mz_m75 mz_m77 rfl rfl rfl rfl rfl rfl rfl h5k310 (fun v sh1 m7 hv => ?_)
      obtain ⟨r9, rfl, rfl, h8⟩ := hv
      refine mz_go_blk mz_m75 1 (pc' := (if r9 = 0 then 23 else 21)) (L' := [some (.ref 2), some (.int l1), some (.int l2), some (.int l3)]) (S' := []) (sh' := mz_sh) (m' := m7) (g := true) rfl rfl (rfl) ?_
      refine mz_go_if (fun c10 => ?_) (fun c10 => ?_)
      · have h11 := h8.1 c10
        refine mz_go_blk mz_m75 2 (pc' := 2) (L' := [some (.ref 2), some (.int l1), some (.int l2), some (.int (l3 + 1))]) (S' := []) (sh' := mz_sh) (m' := m7) (g := true) rfl rfl (rfl) ?_
        exact h11
      · have h12 := h8.2 c10
        refine mz_go_blk mz_m75 1 (pc' := 22) (L' := [some (.ref 2), some (.int l1), some (.int l2), some (.int l3)]) (S' := [.int l3]) (sh' := mz_sh) (m' := m7) (g := true) rfl rfl (rfl) ?_
        exact mz_go_ret mz_m75 rfl rfl rfl ⟨_, rfl, rfl, h12⟩
    · refine mz_go_call mz_m75 mz_m77 rfl rfl rfl rfl rfl rfl rfl h5k311 (fun v sh1 m13 hv => ?_)
      obtain ⟨r15, rfl, rfl, h14⟩ := hv
      refine mz_go_blk mz_m75 1 (pc' := (if r15 = 0 then 23 else 21)) (L' := [some (.ref 2), some (.int l1), some (.int l2), some (.int l3)]) (S' := []) (sh' := mz_sh) (m' := m13) (g := true) rfl rfl (rfl) ?_
      refine mz_go_if (fun c16 => ?_) (fun c16 => ?_)
      · have h17 := h14.1 c16
        refine mz_go_blk mz_m75 2 (pc' := 2) (L' := [some (.ref 2), some (.int l1), some (.int l2), some (.int (l3 + 1))]) (S' := []) (sh' := mz_sh) (m' := m13) (g := true) rfl rfl (rfl) ?_
        exact h17
      · have h18 := h14.2 c16
        refine mz_go_blk mz_m75 1 (pc' := 22) (L' := [some (.ref 2), some (.int l1), some (.int l2), some (.int l3)]) (S' := [.int l3]) (sh' := mz_sh) (m' := m13) (g := true) rfl rfl (rfl) ?_
        exact mz_go_ret mz_m75 rfl rfl rfl ⟨_, rfl, rfl, h18⟩
    · refine mz_go_call mz_m75 mz_m77 rfl rfl rfl rfl rfl rfl rfl h5k312 (fun v sh1 m19 hv => ?_)
      obtain ⟨r21, rfl, rfl, h20⟩ := hv
      refine mz_go_blk mz_m75 1 (pc' := (if r21 = 0 then 23 else 21)) (L' := [some (.ref 2), some (.int l1), some (.int l2), some (.int l3)]) (S' := []) (sh' := mz_sh) (m' := m19) (g := true) rfl rfl (rfl) ?_
      refine mz_go_if (fun c22 => ?_) (fun c22 => ?_)
      · have h23 := h20.1 c22
        refine mz_go_blk mz_m75 2 (pc' := 2) (L' := [some (.ref 2), some (.int l1), some (.int l2), some (.int (l3 + 1))]) (S' := []) (sh' := mz_sh) (m' := m19) (g := true) rfl rfl (rfl) ?_
        exact h23
      · have h24 := h20.2 c22
        refine mz_go_blk mz_m75 1 (pc' := 22) (L' := [some (.ref 2), some (.int l1), some (.int l2), some (.int l3)]) (S' := [.int l3]) (sh' := mz_sh) (m' := m19) (g := true) rfl rfl (rfl) ?_
        exact mz_go_ret mz_m75 rfl rfl rfl ⟨_, rfl, rfl, h24⟩
    · refine mz_go_call mz_m75 mz_m77 rfl rfl rfl rfl rfl rfl rfl h5k313 (fun v sh1 m25 hv => ?_)
      obtain ⟨r27, rfl, rfl, h26⟩ := hv
      refine mz_go_blk mz_m75 1 (pc' := (if r27 = 0 then 23 else 21)) (L' := [some (.ref 2), some (.int l1), some (.int l2), some (.int l3)]) (S' := []) (sh' := mz_sh) (m' := m25) (g := true) rfl rfl (rfl) ?_
      refine mz_go_if (fun c28 => ?_) (fun c28 => ?_)
      · have h29 := h26.1 c28
        refine mz_go_blk mz_m75 2 (pc' := 2) (L' := [some (.ref 2), some (.int l1), some (.int l2), some (.int (l3 + 1))]) (S' := []) (sh' := mz_sh) (m' := m25) (g := true) rfl rfl (rfl) ?_
        exact h29
      · have h30 := h26.2 c28
        refine mz_go_blk mz_m75 1 (pc' := 22) (L' := [some (.ref 2), some (.int l1), some (.int l2), some (.int l3)]) (S' := [.int l3]) (sh' := mz_sh) (m' := m25) (g := true) rfl rfl (rfl) ?_
        exact mz_go_ret mz_m75 rfl rfl rfl ⟨_, rfl, rfl, h30⟩
    · refine mz_go_call mz_m75 mz_m77 rfl rfl rfl rfl rfl rfl rfl h5k314 (fun v sh1 m31 hv => ?_)
      obtain ⟨r33, rfl, rfl, h32⟩ := hv
      refine mz_go_blk mz_m75 1 (pc' := (if r33 = 0 then 23 else 21)) (L' := [some (.ref 2), some (.int l1), some (.int l2), some (.int l3)]) (S' := []) (sh' := mz_sh) (m' := m31) (g := true) rfl rfl (rfl) ?_
      refine mz_go_if (fun c34 => ?_) (fun c34 => ?_)
      · have h35 := h32.1 c34
        refine mz_go_blk mz_m75 2 (pc' := 2) (L' := [some (.ref 2), some (.int l1), some (.int l2), some (.int (l3 + 1))]) (S' := []) (sh' := mz_sh) (m' := m31) (g := true) rfl rfl (rfl) ?_
        exact h35
      · have h36 := h32.2 c34
        refine mz_go_blk mz_m75 1 (pc' := 22) (L' := [some (.ref 2), some (.int l1), some (.int l2), some (.int l3)]) (S' := [.int l3]) (sh' := mz_sh) (m' := m31) (g := true) rfl rfl (rfl) ?_
        exact mz_go_ret mz_m75 rfl rfl rfl ⟨_, rfl, rfl, h36⟩
    · refine mz_go_call mz_m75 mz_m77 rfl rfl rfl rfl rfl rfl rfl h5k315 (fun v sh1 m37 hv => ?_)
      obtain ⟨r39, rfl, rfl, h38⟩ := hv
      refine mz_go_blk mz_m75 1 (pc' := (if r39 = 0 then 23 else 21)) (L' := [some (.ref 2), some (.int l1), some (.int l2), some (.int l3)]) (S' := []) (sh' := mz_sh) (m' := m37) (g := true) rfl rfl (rfl) ?_
      refine mz_go_if (fun c40 => ?_) (fun c40 => ?_)
      · have h41 := h38.1 c40
        refine mz_go_blk mz_m75 2 (pc' := 2) (L' := [some (.ref 2), some (.int l1), some (.int l2), some (.int (l3 + 1))]) (S' := []) (sh' := mz_sh) (m' := m37) (g := true) rfl rfl (rfl) ?_
        exact h41
      · have h42 := h38.2 c40
        refine mz_go_blk mz_m75 1 (pc' := 22) (L' := [some (.ref 2), some (.int l1), some (.int l2), some (.int l3)]) (S' := [.int l3]) (sh' := mz_sh) (m' := m37) (g := true) rfl rfl (rfl) ?_
        exact mz_go_ret mz_m75 rfl rfl rfl ⟨_, rfl, rfl, h42⟩
set_option maxRecDepth 100000 in
theorem t_K_spelling_0 {X : mz_X} {m : mz_M} {Q : Nat → mz_M → Prop} (a0 : Int32)
    (h : ((a0 = 3 → Q 310 m) ∧ (a0 = 4 → Q 311 m) ∧ (a0 = 5 → Q 312 m) ∧ (a0 = 6 → Q 313 m) ∧ (a0 = 7 → Q 314 m) ∧ (¬ a0 = 3 → ¬ a0 = 4 → ¬ a0 = 5 → ¬ a0 = 6 → ¬ a0 = 7 → Q 315 m))) :
    mz_gr X mz_sh 76 0 [some (.int a0)] m Q := by
  refine mz_go_blk mz_m76 2 (pc' := (mz_tsw 1 50 3 7 #[35, 38, 41, 44, 47] a0)) (L' := [some (.int a0)]) (S' := []) (sh' := mz_sh) (m' := m) (g := true) rfl rfl (rfl) ?_
  by_cases c2 : a0 = 3
  · have h1 := h.1 c2
    rw [show mz_tsw 1 50 3 7 #[35, 38, 41, 44, 47] a0 = 36 by rw [c2]; decide +kernel]
    refine mz_go_blk mz_m76 1 (pc' := 38) (L' := [some (.int a0)]) (S' := [.ref 310]) (sh' := mz_sh) (m' := m) (g := true) rfl rfl (rfl) ?_
    exact mz_go_ret mz_m76 rfl rfl rfl ⟨_, rfl, rfl, h1⟩
  have h3 := h.2
  by_cases c5 : a0 = 4
  · have h4 := h3.1 c5
    rw [show mz_tsw 1 50 3 7 #[35, 38, 41, 44, 47] a0 = 39 by rw [c5]; decide +kernel]
    refine mz_go_blk mz_m76 1 (pc' := 41) (L' := [some (.int a0)]) (S' := [.ref 311]) (sh' := mz_sh) (m' := m) (g := true) rfl rfl (rfl) ?_
    exact mz_go_ret mz_m76 rfl rfl rfl ⟨_, rfl, rfl, h4⟩
  have h6 := h3.2
  by_cases c8 : a0 = 5
  · have h7 := h6.1 c8
    rw [show mz_tsw 1 50 3 7 #[35, 38, 41, 44, 47] a0 = 42 by rw [c8]; decide +kernel]
    refine mz_go_blk mz_m76 1 (pc' := 44) (L' := [some (.int a0)]) (S' := [.ref 312]) (sh' := mz_sh) (m' := m) (g := true) rfl rfl (rfl) ?_
    exact mz_go_ret mz_m76 rfl rfl rfl ⟨_, rfl, rfl, h7⟩
  have h9 := h6.2
  by_cases c11 : a0 = 6
  · have h10 := h9.1 c11
    rw [show mz_tsw 1 50 3 7 #[35, 38, 41, 44, 47] a0 = 45 by rw [c11]; decide +kernel]
    refine mz_go_blk mz_m76 1 (pc' := 47) (L' := [some (.int a0)]) (S' := [.ref 313]) (sh' := mz_sh) (m' := m) (g := true) rfl rfl (rfl) ?_
    exact mz_go_ret mz_m76 rfl rfl rfl ⟨_, rfl, rfl, h10⟩
  have h12 := h9.2
  by_cases c14 : a0 = 7
  · have h13 := h12.1 c14
    rw [show mz_tsw 1 50 3 7 #[35, 38, 41, 44, 47] a0 = 48 by rw [c14]; decide +kernel]
    refine mz_go_blk mz_m76 1 (pc' := 50) (L' := [some (.int a0)]) (S' := [.ref 314]) (sh' := mz_sh) (m' := m) (g := true) rfl rfl (rfl) ?_
    exact mz_go_ret mz_m76 rfl rfl rfl ⟨_, rfl, rfl, h13⟩
  have h15 := h12.2
  have h15d := h15 c2 c5 c8 c11 c14
  rw [show mz_tsw 1 50 3 7 #[35, 38, 41, 44, 47] a0 = 51 from (by
        refine mz_tswd _ _ _ _ _ a0 51 (by decide +kernel) (fun k hk z => ?_)
        match k, hk, z with
        | 0, _, z => exact absurd (mz_tI (by rw [z]; decide +kernel)) c2
        | 1, _, z => exact absurd (mz_tI (by rw [z]; decide +kernel)) c5
        | 2, _, z => exact absurd (mz_tI (by rw [z]; decide +kernel)) c8
        | 3, _, z => exact absurd (mz_tI (by rw [z]; decide +kernel)) c11
        | 4, _, z => exact absurd (mz_tI (by rw [z]; decide +kernel)) c14
        | k + 5, hk, _ => exact absurd hk (by simp only [Array.size]; simp)
      )]
  refine mz_go_blk mz_m76 1 (pc' := 53) (L' := [some (.int a0)]) (S' := [.ref 315]) (sh' := mz_sh) (m' := m) (g := true) rfl rfl (rfl) ?_
  exact mz_go_ret mz_m76 rfl rfl rfl ⟨_, rfl, rfl, h15d⟩
set_option maxRecDepth 100000 in
theorem t_K_isSpelled0_0 {X : mz_X} {m : mz_M} {Q : Int32 → mz_M → Prop} (a1 : Int32) (a2 : Int32)
    (h : mz_gi X mz_sh 192 0 [some (.ref 310)] m (fun r3 m1 => ((a2 = r3 → mz_gi X mz_sh 77 13 [some (.ref 2), some (.int a1), some (.int a2), some (.ref 310), some (.int 0)] m1 Q) ∧ (¬ (a2 = r3) → Q 0 m1)))) :
    mz_gi X mz_sh 77 0 [some (.ref 2), some (.int a1), some (.int a2), some (.ref 310), none] m Q := by
  refine mz_go_blk mz_m77 2 (pc' := 2) (L' := [some (.ref 2), some (.int a1), some (.int a2), some (.ref 310), none]) (S' := [.ref 310, .int a2]) (sh' := mz_sh) (m' := m) (g := true) rfl rfl (rfl) ?_
  refine mz_go_call mz_m77 mz_m192 rfl rfl rfl rfl rfl rfl rfl h (fun v sh1 m1 hv => ?_)
  obtain ⟨r3, rfl, rfl, h2⟩ := hv
  refine mz_go_blk mz_m77 1 (pc' := (if a2 = r3 then 10 else 8)) (L' := [some (.ref 2), some (.int a1), some (.int a2), some (.ref 310), none]) (S' := []) (sh' := mz_sh) (m' := m1) (g := true) rfl rfl (rfl) ?_
  refine mz_go_if (fun c4 => ?_) (fun c4 => ?_)
  · have h5 := h2.1 c4
    refine mz_go_blk mz_m77 2 (pc' := 13) (L' := [some (.ref 2), some (.int a1), some (.int a2), some (.ref 310), some (.int 0)]) (S' := []) (sh' := mz_sh) (m' := m1) (g := true) rfl rfl (rfl) ?_
    exact h5
  · have h6 := h2.2 c4
    refine mz_go_blk mz_m77 1 (pc' := 9) (L' := [some (.ref 2), some (.int a1), some (.int a2), some (.ref 310), none]) (S' := [.int 0]) (sh' := mz_sh) (m' := m1) (g := true) rfl rfl (rfl) ?_
    exact mz_go_ret mz_m77 rfl rfl rfl ⟨_, rfl, rfl, h6⟩
set_option maxRecDepth 100000 in
theorem t_K_isSpelled0_1 {X : mz_X} {m : mz_M} {Q : Int32 → mz_M → Prop} (l1 : Int32) (l2 : Int32) (l4 : Int32)
    (h : ((l2 ≤ l4 → Q 1 m) ∧ (¬ (l2 ≤ l4) → mz_inb (l1 + l4) 4000 = true ∧ mz_gi X mz_sh 193 0 [some (.ref 310), some (.int l4)] m (fun r8 m6 => (((m 1 ((l1 + l4).toNatClampNeg)) = r8 → mz_gi X mz_sh 77 13 [some (.ref 2), some (.int l1), some (.int l2), some (.ref 310), some (.int (l4 + 1))] m6 Q) ∧ (¬ ((m 1 ((l1 + l4).toNatClampNeg)) = r8) → Q 0 m6)))))) :
    mz_gi X mz_sh 77 13 [some (.ref 2), some (.int l1), some (.int l2), some (.ref 310), some (.int l4)] m Q := by
  refine mz_go_blk mz_m77 3 (pc' := (if l2 ≤ l4 then 45 else 19)) (L' := [some (.ref 2), some (.int l1), some (.int l2), some (.ref 310), some (.int l4)]) (S' := []) (sh' := mz_sh) (m' := m) (g := true) rfl rfl (rfl) ?_
  refine mz_go_if (fun c1 => ?_) (fun c1 => ?_)
  · have h2 := h.1 c1
    refine mz_go_blk mz_m77 1 (pc' := 46) (L' := [some (.ref 2), some (.int l1), some (.int l2), some (.ref 310), some (.int l4)]) (S' := [.int 1]) (sh' := mz_sh) (m' := m) (g := true) rfl rfl (rfl) ?_
    exact mz_go_ret mz_m77 rfl rfl rfl ⟨_, rfl, rfl, h2⟩
  · have h3 := h.2 c1
    obtain ⟨g4, h5⟩ := h3
    refine mz_go_blk mz_m77 8 (pc' := 31) (L' := [some (.ref 2), some (.int l1), some (.int l2), some (.ref 310), some (.int l4)]) (S' := [.int l4, .ref 310, .int (m 1 ((l1 + l4).toNatClampNeg))]) (sh' := mz_sh) (m' := m) (g := mz_inb (l1 + l4) 4000 && true) rfl rfl (mz_and2 (g4) (rfl)) ?_
    refine mz_go_call mz_m77 mz_m193 rfl rfl rfl rfl rfl rfl rfl h5 (fun v sh1 m6 hv => ?_)
    obtain ⟨r8, rfl, rfl, h7⟩ := hv
    refine mz_go_blk mz_m77 1 (pc' := (if (m 1 ((l1 + l4).toNatClampNeg)) = r8 then 39 else 37)) (L' := [some (.ref 2), some (.int l1), some (.int l2), some (.ref 310), some (.int l4)]) (S' := []) (sh' := mz_sh) (m' := m6) (g := true) rfl rfl (rfl) ?_
    refine mz_go_if (fun c9 => ?_) (fun c9 => ?_)
    · have h10 := h7.1 c9
      refine mz_go_blk mz_m77 2 (pc' := 13) (L' := [some (.ref 2), some (.int l1), some (.int l2), some (.ref 310), some (.int (l4 + 1))]) (S' := []) (sh' := mz_sh) (m' := m6) (g := true) rfl rfl (rfl) ?_
      exact h10
    · have h11 := h7.2 c9
      refine mz_go_blk mz_m77 1 (pc' := 38) (L' := [some (.ref 2), some (.int l1), some (.int l2), some (.ref 310), some (.int l4)]) (S' := [.int 0]) (sh' := mz_sh) (m' := m6) (g := true) rfl rfl (rfl) ?_
      exact mz_go_ret mz_m77 rfl rfl rfl ⟨_, rfl, rfl, h11⟩
set_option maxRecDepth 100000 in
theorem t_K_isSpelled1_0 {X : mz_X} {m : mz_M} {Q : Int32 → mz_M → Prop} (a1 : Int32) (a2 : Int32)
    (h : mz_gi X mz_sh 192 0 [some (.ref 311)] m (fun r3 m1 => ((a2 = r3 → mz_gi X mz_sh 77 13 [some (.ref 2), some (.int a1), some (.int a2), some (.ref 311), some (.int 0)] m1 Q) ∧ (¬ (a2 = r3) → Q 0 m1)))) :
    mz_gi X mz_sh 77 0 [some (.ref 2), some (.int a1), some (.int a2), some (.ref 311), none] m Q := by
  refine mz_go_blk mz_m77 2 (pc' := 2) (L' := [some (.ref 2), some (.int a1), some (.int a2), some (.ref 311), none]) (S' := [.ref 311, .int a2]) (sh' := mz_sh) (m' := m) (g := true) rfl rfl (rfl) ?_
  refine mz_go_call mz_m77 mz_m192 rfl rfl rfl rfl rfl rfl rfl h (fun v sh1 m1 hv => ?_)
  obtain ⟨r3, rfl, rfl, h2⟩ := hv
  refine mz_go_blk mz_m77 1 (pc' := (if a2 = r3 then 10 else 8)) (L' := [some (.ref 2), some (.int a1), some (.int a2), some (.ref 311), none]) (S' := []) (sh' := mz_sh) (m' := m1) (g := true) rfl rfl (rfl) ?_
  refine mz_go_if (fun c4 => ?_) (fun c4 => ?_)
  · have h5 := h2.1 c4
    refine mz_go_blk mz_m77 2 (pc' := 13) (L' := [some (.ref 2), some (.int a1), some (.int a2), some (.ref 311), some (.int 0)]) (S' := []) (sh' := mz_sh) (m' := m1) (g := true) rfl rfl (rfl) ?_
    exact h5
  · have h6 := h2.2 c4
    refine mz_go_blk mz_m77 1 (pc' := 9) (L' := [some (.ref 2), some (.int a1), some (.int a2), some (.ref 311), none]) (S' := [.int 0]) (sh' := mz_sh) (m' := m1) (g := true) rfl rfl (rfl) ?_
    exact mz_go_ret mz_m77 rfl rfl rfl ⟨_, rfl, rfl, h6⟩
set_option maxRecDepth 100000 in
theorem t_K_isSpelled1_1 {X : mz_X} {m : mz_M} {Q : Int32 → mz_M → Prop} (l1 : Int32) (l2 : Int32) (l4 : Int32)
    (h : ((l2 ≤ l4 → Q 1 m) ∧ (¬ (l2 ≤ l4) → mz_inb (l1 + l4) 4000 = true ∧ mz_gi X mz_sh 193 0 [some (.ref 311), some (.int l4)] m (fun r8 m6 => (((m 1 ((l1 + l4).toNatClampNeg)) = r8 → mz_gi X mz_sh 77 13 [some (.ref 2), some (.int l1), some (.int l2), some (.ref 311), some (.int (l4 + 1))] m6 Q) ∧ (¬ ((m 1 ((l1 + l4).toNatClampNeg)) = r8) → Q 0 m6)))))) :
    mz_gi X mz_sh 77 13 [some (.ref 2), some (.int l1), some (.int l2), some (.ref 311), some (.int l4)] m Q := by
  refine mz_go_blk mz_m77 3 (pc' := (if l2 ≤ l4 then 45 else 19)) (L' := [some (.ref 2), some (.int l1), some (.int l2), some (.ref 311), some (.int l4)]) (S' := []) (sh' := mz_sh) (m' := m) (g := true) rfl rfl (rfl) ?_
  refine mz_go_if (fun c1 => ?_) (fun c1 => ?_)
  · have h2 := h.1 c1
    refine mz_go_blk mz_m77 1 (pc' := 46) (L' := [some (.ref 2), some (.int l1), some (.int l2), some (.ref 311), some (.int l4)]) (S' := [.int 1]) (sh' := mz_sh) (m' := m) (g := true) rfl rfl (rfl) ?_
    exact mz_go_ret mz_m77 rfl rfl rfl ⟨_, rfl, rfl, h2⟩
  · have h3 := h.2 c1
    obtain ⟨g4, h5⟩ := h3
    refine mz_go_blk mz_m77 8 (pc' := 31) (L' := [some (.ref 2), some (.int l1), some (.int l2), some (.ref 311), some (.int l4)]) (S' := [.int l4, .ref 311, .int (m 1 ((l1 + l4).toNatClampNeg))]) (sh' := mz_sh) (m' := m) (g := mz_inb (l1 + l4) 4000 && true) rfl rfl (mz_and2 (g4) (rfl)) ?_
    refine mz_go_call mz_m77 mz_m193 rfl rfl rfl rfl rfl rfl rfl h5 (fun v sh1 m6 hv => ?_)
    obtain ⟨r8, rfl, rfl, h7⟩ := hv
    refine mz_go_blk mz_m77 1 (pc' := (if (m 1 ((l1 + l4).toNatClampNeg)) = r8 then 39 else 37)) (L' := [some (.ref 2), some (.int l1), some (.int l2), some (.ref 311), some (.int l4)]) (S' := []) (sh' := mz_sh) (m' := m6) (g := true) rfl rfl (rfl) ?_
    refine mz_go_if (fun c9 => ?_) (fun c9 => ?_)
    · have h10 := h7.1 c9
      refine mz_go_blk mz_m77 2 (pc' := 13) (L' := [some (.ref 2), some (.int l1), some (.int l2), some (.ref 311), some (.int (l4 + 1))]) (S' := []) (sh' := mz_sh) (m' := m6) (g := true) rfl rfl (rfl) ?_
      exact h10
    · have h11 := h7.2 c9
      refine mz_go_blk mz_m77 1 (pc' := 38) (L' := [some (.ref 2), some (.int l1), some (.int l2), some (.ref 311), some (.int l4)]) (S' := [.int 0]) (sh' := mz_sh) (m' := m6) (g := true) rfl rfl (rfl) ?_
      exact mz_go_ret mz_m77 rfl rfl rfl ⟨_, rfl, rfl, h11⟩
set_option maxRecDepth 100000 in
theorem t_K_isSpelled2_0 {X : mz_X} {m : mz_M} {Q : Int32 → mz_M → Prop} (a1 : Int32) (a2 : Int32)
    (h : mz_gi X mz_sh 192 0 [some (.ref 312)] m (fun r3 m1 => ((a2 = r3 → mz_gi X mz_sh 77 13 [some (.ref 2), some (.int a1), some (.int a2), some (.ref 312), some (.int 0)] m1 Q) ∧ (¬ (a2 = r3) → Q 0 m1)))) :
    mz_gi X mz_sh 77 0 [some (.ref 2), some (.int a1), some (.int a2), some (.ref 312), none] m Q := by
  refine mz_go_blk mz_m77 2 (pc' := 2) (L' := [some (.ref 2), some (.int a1), some (.int a2), some (.ref 312), none]) (S' := [.ref 312, .int a2]) (sh' := mz_sh) (m' := m) (g := true) rfl rfl (rfl) ?_
  refine mz_go_call mz_m77 mz_m192 rfl rfl rfl rfl rfl rfl rfl h (fun v sh1 m1 hv => ?_)
  obtain ⟨r3, rfl, rfl, h2⟩ := hv
  refine mz_go_blk mz_m77 1 (pc' := (if a2 = r3 then 10 else 8)) (L' := [some (.ref 2), some (.int a1), some (.int a2), some (.ref 312), none]) (S' := []) (sh' := mz_sh) (m' := m1) (g := true) rfl rfl (rfl) ?_
  refine mz_go_if (fun c4 => ?_) (fun c4 => ?_)
  · have h5 := h2.1 c4
    refine mz_go_blk mz_m77 2 (pc' := 13) (L' := [some (.ref 2), some (.int a1), some (.int a2), some (.ref 312), some (.int 0)]) (S' := []) (sh' := mz_sh) (m' := m1) (g := true) rfl rfl (rfl) ?_
    exact h5
  · have h6 := h2.2 c4
    refine mz_go_blk mz_m77 1 (pc' := 9) (L' := [some (.ref 2), some (.int a1), some (.int a2), some (.ref 312), none]) (S' := [.int 0]) (sh' := mz_sh) (m' := m1) (g := true) rfl rfl (rfl) ?_
    exact mz_go_ret mz_m77 rfl rfl rfl ⟨_, rfl, rfl, h6⟩
set_option maxRecDepth 100000 in
theorem t_K_isSpelled2_1 {X : mz_X} {m : mz_M} {Q : Int32 → mz_M → Prop} (l1 : Int32) (l2 : Int32) (l4 : Int32)
    (h : ((l2 ≤ l4 → Q 1 m) ∧ (¬ (l2 ≤ l4) → mz_inb (l1 + l4) 4000 = true ∧ mz_gi X mz_sh 193 0 [some (.ref 312), some (.int l4)] m (fun r8 m6 => (((m 1 ((l1 + l4).toNatClampNeg)) = r8 → mz_gi X mz_sh 77 13 [some (.ref 2), some (.int l1), some (.int l2), some (.ref 312), some (.int (l4 + 1))] m6 Q) ∧ (¬ ((m 1 ((l1 + l4).toNatClampNeg)) = r8) → Q 0 m6)))))) :
    mz_gi X mz_sh 77 13 [some (.ref 2), some (.int l1), some (.int l2), some (.ref 312), some (.int l4)] m Q := by
  refine mz_go_blk mz_m77 3 (pc' := (if l2 ≤ l4 then 45 else 19)) (L' := [some (.ref 2), some (.int l1), some (.int l2), some (.ref 312), some (.int l4)]) (S' := []) (sh' := mz_sh) (m' := m) (g := true) rfl rfl (rfl) ?_
  refine mz_go_if (fun c1 => ?_) (fun c1 => ?_)
  · have h2 := h.1 c1
    refine mz_go_blk mz_m77 1 (pc' := 46) (L' := [some (.ref 2), some (.int l1), some (.int l2), some (.ref 312), some (.int l4)]) (S' := [.int 1]) (sh' := mz_sh) (m' := m) (g := true) rfl rfl (rfl) ?_
    exact mz_go_ret mz_m77 rfl rfl rfl ⟨_, rfl, rfl, h2⟩
  · have h3 := h.2 c1
    obtain ⟨g4, h5⟩ := h3
    refine mz_go_blk mz_m77 8 (pc' := 31) (L' := [some (.ref 2), some (.int l1), some (.int l2), some (.ref 312), some (.int l4)]) (S' := [.int l4, .ref 312, .int (m 1 ((l1 + l4).toNatClampNeg))]) (sh' := mz_sh) (m' := m) (g := mz_inb (l1 + l4) 4000 && true) rfl rfl (mz_and2 (g4) (rfl)) ?_
    refine mz_go_call mz_m77 mz_m193 rfl rfl rfl rfl rfl rfl rfl h5 (fun v sh1 m6 hv => ?_)
    obtain ⟨r8, rfl, rfl, h7⟩ := hv
    refine mz_go_blk mz_m77 1 (pc' := (if (m 1 ((l1 + l4).toNatClampNeg)) = r8 then 39 else 37)) (L' := [some (.ref 2), some (.int l1), some (.int l2), some (.ref 312), some (.int l4)]) (S' := []) (sh' := mz_sh) (m' := m6) (g := true) rfl rfl (rfl) ?_
    refine mz_go_if (fun c9 => ?_) (fun c9 => ?_)
    · have h10 := h7.1 c9
      refine mz_go_blk mz_m77 2 (pc' := 13) (L' := [some (.ref 2), some (.int l1), some (.int l2), some (.ref 312), some (.int (l4 + 1))]) (S' := []) (sh' := mz_sh) (m' := m6) (g := true) rfl rfl (rfl) ?_
      exact h10
    · have h11 := h7.2 c9
      refine mz_go_blk mz_m77 1 (pc' := 38) (L' := [some (.ref 2), some (.int l1), some (.int l2), some (.ref 312), some (.int l4)]) (S' := [.int 0]) (sh' := mz_sh) (m' := m6) (g := true) rfl rfl (rfl) ?_
      exact mz_go_ret mz_m77 rfl rfl rfl ⟨_, rfl, rfl, h11⟩
set_option maxRecDepth 100000 in
theorem t_K_isSpelled3_0 {X : mz_X} {m : mz_M} {Q : Int32 → mz_M → Prop} (a1 : Int32) (a2 : Int32)
    (h : mz_gi X mz_sh 192 0 [some (.ref 313)] m (fun r3 m1 => ((a2 = r3 → mz_gi X mz_sh 77 13 [some (.ref 2), some (.int a1), some (.int a2), some (.ref 313), some (.int 0)] m1 Q) ∧ (¬ (a2 = r3) → Q 0 m1)))) :
    mz_gi X mz_sh 77 0 [some (.ref 2), some (.int a1), some (.int a2), some (.ref 313), none] m Q := by
  refine mz_go_blk mz_m77 2 (pc' := 2) (L' := [some (.ref 2), some (.int a1), some (.int a2), some (.ref 313), none]) (S' := [.ref 313, .int a2]) (sh' := mz_sh) (m' := m) (g := true) rfl rfl (rfl) ?_
  refine mz_go_call mz_m77 mz_m192 rfl rfl rfl rfl rfl rfl rfl h (fun v sh1 m1 hv => ?_)
  obtain ⟨r3, rfl, rfl, h2⟩ := hv
  refine mz_go_blk mz_m77 1 (pc' := (if a2 = r3 then 10 else 8)) (L' := [some (.ref 2), some (.int a1), some (.int a2), some (.ref 313), none]) (S' := []) (sh' := mz_sh) (m' := m1) (g := true) rfl rfl (rfl) ?_
  refine mz_go_if (fun c4 => ?_) (fun c4 => ?_)
  · have h5 := h2.1 c4
    refine mz_go_blk mz_m77 2 (pc' := 13) (L' := [some (.ref 2), some (.int a1), some (.int a2), some (.ref 313), some (.int 0)]) (S' := []) (sh' := mz_sh) (m' := m1) (g := true) rfl rfl (rfl) ?_
    exact h5
  · have h6 := h2.2 c4
    refine mz_go_blk mz_m77 1 (pc' := 9) (L' := [some (.ref 2), some (.int a1), some (.int a2), some (.ref 313), none]) (S' := [.int 0]) (sh' := mz_sh) (m' := m1) (g := true) rfl rfl (rfl) ?_
    exact mz_go_ret mz_m77 rfl rfl rfl ⟨_, rfl, rfl, h6⟩
set_option maxRecDepth 100000 in
theorem t_K_isSpelled3_1 {X : mz_X} {m : mz_M} {Q : Int32 → mz_M → Prop} (l1 : Int32) (l2 : Int32) (l4 : Int32)
    (h : ((l2 ≤ l4 → Q 1 m) ∧ (¬ (l2 ≤ l4) → mz_inb (l1 + l4) 4000 = true ∧ mz_gi X mz_sh 193 0 [some (.ref 313), some (.int l4)] m (fun r8 m6 => (((m 1 ((l1 + l4).toNatClampNeg)) = r8 → mz_gi X mz_sh 77 13 [some (.ref 2), some (.int l1), some (.int l2), some (.ref 313), some (.int (l4 + 1))] m6 Q) ∧ (¬ ((m 1 ((l1 + l4).toNatClampNeg)) = r8) → Q 0 m6)))))) :
    mz_gi X mz_sh 77 13 [some (.ref 2), some (.int l1), some (.int l2), some (.ref 313), some (.int l4)] m Q := by
  refine mz_go_blk mz_m77 3 (pc' := (if l2 ≤ l4 then 45 else 19)) (L' := [some (.ref 2), some (.int l1), some (.int l2), some (.ref 313), some (.int l4)]) (S' := []) (sh' := mz_sh) (m' := m) (g := true) rfl rfl (rfl) ?_
  refine mz_go_if (fun c1 => ?_) (fun c1 => ?_)
  · have h2 := h.1 c1
    refine mz_go_blk mz_m77 1 (pc' := 46) (L' := [some (.ref 2), some (.int l1), some (.int l2), some (.ref 313), some (.int l4)]) (S' := [.int 1]) (sh' := mz_sh) (m' := m) (g := true) rfl rfl (rfl) ?_
    exact mz_go_ret mz_m77 rfl rfl rfl ⟨_, rfl, rfl, h2⟩
  · have h3 := h.2 c1
    obtain ⟨g4, h5⟩ := h3
    refine mz_go_blk mz_m77 8 (pc' := 31) (L' := [some (.ref 2), some (.int l1), some (.int l2), some (.ref 313), some (.int l4)]) (S' := [.int l4, .ref 313, .int (m 1 ((l1 + l4).toNatClampNeg))]) (sh' := mz_sh) (m' := m) (g := mz_inb (l1 + l4) 4000 && true) rfl rfl (mz_and2 (g4) (rfl)) ?_
    refine mz_go_call mz_m77 mz_m193 rfl rfl rfl rfl rfl rfl rfl h5 (fun v sh1 m6 hv => ?_)
    obtain ⟨r8, rfl, rfl, h7⟩ := hv
    refine mz_go_blk mz_m77 1 (pc' := (if (m 1 ((l1 + l4).toNatClampNeg)) = r8 then 39 else 37)) (L' := [some (.ref 2), some (.int l1), some (.int l2), some (.ref 313), some (.int l4)]) (S' := []) (sh' := mz_sh) (m' := m6) (g := true) rfl rfl (rfl) ?_
    refine mz_go_if (fun c9 => ?_) (fun c9 => ?_)
    · have h10 := h7.1 c9
      refine mz_go_blk mz_m77 2 (pc' := 13) (L' := [some (.ref 2), some (.int l1), some (.int l2), some (.ref 313), some (.int (l4 + 1))]) (S' := []) (sh' := mz_sh) (m' := m6) (g := true) rfl rfl (rfl) ?_
      exact h10
    · have h11 := h7.2 c9
      refine mz_go_blk mz_m77 1 (pc' := 38) (L' := [some (.ref 2), some (.int l1), some (.int l2), some (.ref 313), some (.int l4)]) (S' := [.int 0]) (sh' := mz_sh) (m' := m6) (g := true) rfl rfl (rfl) ?_
      exact mz_go_ret mz_m77 rfl rfl rfl ⟨_, rfl, rfl, h11⟩
set_option maxRecDepth 100000 in
theorem t_K_isSpelled4_0 {X : mz_X} {m : mz_M} {Q : Int32 → mz_M → Prop} (a1 : Int32) (a2 : Int32)
    (h : mz_gi X mz_sh 192 0 [some (.ref 314)] m (fun r3 m1 => ((a2 = r3 → mz_gi X mz_sh 77 13 [some (.ref 2), some (.int a1), some (.int a2), some (.ref 314), some (.int 0)] m1 Q) ∧ (¬ (a2 = r3) → Q 0 m1)))) :
    mz_gi X mz_sh 77 0 [some (.ref 2), some (.int a1), some (.int a2), some (.ref 314), none] m Q := by
  refine mz_go_blk mz_m77 2 (pc' := 2) (L' := [some (.ref 2), some (.int a1), some (.int a2), some (.ref 314), none]) (S' := [.ref 314, .int a2]) (sh' := mz_sh) (m' := m) (g := true) rfl rfl (rfl) ?_
  refine mz_go_call mz_m77 mz_m192 rfl rfl rfl rfl rfl rfl rfl h (fun v sh1 m1 hv => ?_)
  obtain ⟨r3, rfl, rfl, h2⟩ := hv
  refine mz_go_blk mz_m77 1 (pc' := (if a2 = r3 then 10 else 8)) (L' := [some (.ref 2), some (.int a1), some (.int a2), some (.ref 314), none]) (S' := []) (sh' := mz_sh) (m' := m1) (g := true) rfl rfl (rfl) ?_
  refine mz_go_if (fun c4 => ?_) (fun c4 => ?_)
  · have h5 := h2.1 c4
    refine mz_go_blk mz_m77 2 (pc' := 13) (L' := [some (.ref 2), some (.int a1), some (.int a2), some (.ref 314), some (.int 0)]) (S' := []) (sh' := mz_sh) (m' := m1) (g := true) rfl rfl (rfl) ?_
    exact h5
  · have h6 := h2.2 c4
    refine mz_go_blk mz_m77 1 (pc' := 9) (L' := [some (.ref 2), some (.int a1), some (.int a2), some (.ref 314), none]) (S' := [.int 0]) (sh' := mz_sh) (m' := m1) (g := true) rfl rfl (rfl) ?_
    exact mz_go_ret mz_m77 rfl rfl rfl ⟨_, rfl, rfl, h6⟩
set_option maxRecDepth 100000 in
theorem t_K_isSpelled4_1 {X : mz_X} {m : mz_M} {Q : Int32 → mz_M → Prop} (l1 : Int32) (l2 : Int32) (l4 : Int32)
    (h : ((l2 ≤ l4 → Q 1 m) ∧ (¬ (l2 ≤ l4) → mz_inb (l1 + l4) 4000 = true ∧ mz_gi X mz_sh 193 0 [some (.ref 314), some (.int l4)] m (fun r8 m6 => (((m 1 ((l1 + l4).toNatClampNeg)) = r8 → mz_gi X mz_sh 77 13 [some (.ref 2), some (.int l1), some (.int l2), some (.ref 314), some (.int (l4 + 1))] m6 Q) ∧ (¬ ((m 1 ((l1 + l4).toNatClampNeg)) = r8) → Q 0 m6)))))) :
    mz_gi X mz_sh 77 13 [some (.ref 2), some (.int l1), some (.int l2), some (.ref 314), some (.int l4)] m Q := by
  refine mz_go_blk mz_m77 3 (pc' := (if l2 ≤ l4 then 45 else 19)) (L' := [some (.ref 2), some (.int l1), some (.int l2), some (.ref 314), some (.int l4)]) (S' := []) (sh' := mz_sh) (m' := m) (g := true) rfl rfl (rfl) ?_
  refine mz_go_if (fun c1 => ?_) (fun c1 => ?_)
  · have h2 := h.1 c1
    refine mz_go_blk mz_m77 1 (pc' := 46) (L' := [some (.ref 2), some (.int l1), some (.int l2), some (.ref 314), some (.int l4)]) (S' := [.int 1]) (sh' := mz_sh) (m' := m) (g := true) rfl rfl (rfl) ?_
    exact mz_go_ret mz_m77 rfl rfl rfl ⟨_, rfl, rfl, h2⟩
  · have h3 := h.2 c1
    obtain ⟨g4, h5⟩ := h3
    refine mz_go_blk mz_m77 8 (pc' := 31) (L' := [some (.ref 2), some (.int l1), some (.int l2), some (.ref 314), some (.int l4)]) (S' := [.int l4, .ref 314, .int (m 1 ((l1 + l4).toNatClampNeg))]) (sh' := mz_sh) (m' := m) (g := mz_inb (l1 + l4) 4000 && true) rfl rfl (mz_and2 (g4) (rfl)) ?_
    refine mz_go_call mz_m77 mz_m193 rfl rfl rfl rfl rfl rfl rfl h5 (fun v sh1 m6 hv => ?_)
    obtain ⟨r8, rfl, rfl, h7⟩ := hv
    refine mz_go_blk mz_m77 1 (pc' := (if (m 1 ((l1 + l4).toNatClampNeg)) = r8 then 39 else 37)) (L' := [some (.ref 2), some (.int l1), some (.int l2), some (.ref 314), some (.int l4)]) (S' := []) (sh' := mz_sh) (m' := m6) (g := true) rfl rfl (rfl) ?_
    refine mz_go_if (fun c9 => ?_) (fun c9 => ?_)
    · have h10 := h7.1 c9
      refine mz_go_blk mz_m77 2 (pc' := 13) (L' := [some (.ref 2), some (.int l1), some (.int l2), some (.ref 314), some (.int (l4 + 1))]) (S' := []) (sh' := mz_sh) (m' := m6) (g := true) rfl rfl (rfl) ?_
      exact h10
    · have h11 := h7.2 c9
      refine mz_go_blk mz_m77 1 (pc' := 38) (L' := [some (.ref 2), some (.int l1), some (.int l2), some (.ref 314), some (.int l4)]) (S' := [.int 0]) (sh' := mz_sh) (m' := m6) (g := true) rfl rfl (rfl) ?_
      exact mz_go_ret mz_m77 rfl rfl rfl ⟨_, rfl, rfl, h11⟩
set_option maxRecDepth 100000 in
theorem t_K_isSpelled5_0 {X : mz_X} {m : mz_M} {Q : Int32 → mz_M → Prop} (a1 : Int32) (a2 : Int32)
    (h : mz_gi X mz_sh 192 0 [some (.ref 315)] m (fun r3 m1 => ((a2 = r3 → mz_gi X mz_sh 77 13 [some (.ref 2), some (.int a1), some (.int a2), some (.ref 315), some (.int 0)] m1 Q) ∧ (¬ (a2 = r3) → Q 0 m1)))) :
    mz_gi X mz_sh 77 0 [some (.ref 2), some (.int a1), some (.int a2), some (.ref 315), none] m Q := by
  refine mz_go_blk mz_m77 2 (pc' := 2) (L' := [some (.ref 2), some (.int a1), some (.int a2), some (.ref 315), none]) (S' := [.ref 315, .int a2]) (sh' := mz_sh) (m' := m) (g := true) rfl rfl (rfl) ?_
  refine mz_go_call mz_m77 mz_m192 rfl rfl rfl rfl rfl rfl rfl h (fun v sh1 m1 hv => ?_)
  obtain ⟨r3, rfl, rfl, h2⟩ := hv
  refine mz_go_blk mz_m77 1 (pc' := (if a2 = r3 then 10 else 8)) (L' := [some (.ref 2), some (.int a1), some (.int a2), some (.ref 315), none]) (S' := []) (sh' := mz_sh) (m' := m1) (g := true) rfl rfl (rfl) ?_
  refine mz_go_if (fun c4 => ?_) (fun c4 => ?_)
  · have h5 := h2.1 c4
    refine mz_go_blk mz_m77 2 (pc' := 13) (L' := [some (.ref 2), some (.int a1), some (.int a2), some (.ref 315), some (.int 0)]) (S' := []) (sh' := mz_sh) (m' := m1) (g := true) rfl rfl (rfl) ?_
    exact h5
  · have h6 := h2.2 c4
    refine mz_go_blk mz_m77 1 (pc' := 9) (L' := [some (.ref 2), some (.int a1), some (.int a2), some (.ref 315), none]) (S' := [.int 0]) (sh' := mz_sh) (m' := m1) (g := true) rfl rfl (rfl) ?_
    exact mz_go_ret mz_m77 rfl rfl rfl ⟨_, rfl, rfl, h6⟩
set_option maxRecDepth 100000 in
theorem t_K_isSpelled5_1 {X : mz_X} {m : mz_M} {Q : Int32 → mz_M → Prop} (l1 : Int32) (l2 : Int32) (l4 : Int32)
    (h : ((l2 ≤ l4 → Q 1 m) ∧ (¬ (l2 ≤ l4) → mz_inb (l1 + l4) 4000 = true ∧ mz_gi X mz_sh 193 0 [some (.ref 315), some (.int l4)] m (fun r8 m6 => (((m 1 ((l1 + l4).toNatClampNeg)) = r8 → mz_gi X mz_sh 77 13 [some (.ref 2), some (.int l1), some (.int l2), some (.ref 315), some (.int (l4 + 1))] m6 Q) ∧ (¬ ((m 1 ((l1 + l4).toNatClampNeg)) = r8) → Q 0 m6)))))) :
    mz_gi X mz_sh 77 13 [some (.ref 2), some (.int l1), some (.int l2), some (.ref 315), some (.int l4)] m Q := by
  refine mz_go_blk mz_m77 3 (pc' := (if l2 ≤ l4 then 45 else 19)) (L' := [some (.ref 2), some (.int l1), some (.int l2), some (.ref 315), some (.int l4)]) (S' := []) (sh' := mz_sh) (m' := m) (g := true) rfl rfl (rfl) ?_
  refine mz_go_if (fun c1 => ?_) (fun c1 => ?_)
  · have h2 := h.1 c1
    refine mz_go_blk mz_m77 1 (pc' := 46) (L' := [some (.ref 2), some (.int l1), some (.int l2), some (.ref 315), some (.int l4)]) (S' := [.int 1]) (sh' := mz_sh) (m' := m) (g := true) rfl rfl (rfl) ?_
    exact mz_go_ret mz_m77 rfl rfl rfl ⟨_, rfl, rfl, h2⟩
  · have h3 := h.2 c1
    obtain ⟨g4, h5⟩ := h3
    refine mz_go_blk mz_m77 8 (pc' := 31) (L' := [some (.ref 2), some (.int l1), some (.int l2), some (.ref 315), some (.int l4)]) (S' := [.int l4, .ref 315, .int (m 1 ((l1 + l4).toNatClampNeg))]) (sh' := mz_sh) (m' := m) (g := mz_inb (l1 + l4) 4000 && true) rfl rfl (mz_and2 (g4) (rfl)) ?_
    refine mz_go_call mz_m77 mz_m193 rfl rfl rfl rfl rfl rfl rfl h5 (fun v sh1 m6 hv => ?_)
    obtain ⟨r8, rfl, rfl, h7⟩ := hv
    refine mz_go_blk mz_m77 1 (pc' := (if (m 1 ((l1 + l4).toNatClampNeg)) = r8 then 39 else 37)) (L' := [some (.ref 2), some (.int l1), some (.int l2), some (.ref 315), some (.int l4)]) (S' := []) (sh' := mz_sh) (m' := m6) (g := true) rfl rfl (rfl) ?_
    refine mz_go_if (fun c9 => ?_) (fun c9 => ?_)
    · have h10 := h7.1 c9
      refine mz_go_blk mz_m77 2 (pc' := 13) (L' := [some (.ref 2), some (.int l1), some (.int l2), some (.ref 315), some (.int (l4 + 1))]) (S' := []) (sh' := mz_sh) (m' := m6) (g := true) rfl rfl (rfl) ?_
      exact h10
    · have h11 := h7.2 c9
      refine mz_go_blk mz_m77 1 (pc' := 38) (L' := [some (.ref 2), some (.int l1), some (.int l2), some (.ref 315), some (.int l4)]) (S' := [.int 0]) (sh' := mz_sh) (m' := m6) (g := true) rfl rfl (rfl) ?_
      exact mz_go_ret mz_m77 rfl rfl rfl ⟨_, rfl, rfl, h11⟩
set_option maxRecDepth 100000 in
theorem t_K_isBlank_0 {X : mz_X} {m : mz_M} {Q : Int32 → mz_M → Prop} (a0 : Int32)
    (h : ((a0 = 9 → Q 1 m) ∧ (¬ (a0 = 9) → ((a0 = 10 → Q 1 m) ∧ (¬ (a0 = 10) → ((a0 = 13 → Q 1 m) ∧ (¬ (a0 = 13) → ((a0 = 32 → Q 1 m) ∧ (¬ (a0 = 32) → Q 0 m))))))))) :
    mz_gi X mz_sh 78 0 [some (.int a0)] m Q := by
  refine mz_go_blk mz_m78 3 (pc' := (if a0 = 9 then 24 else 6)) (L' := [some (.int a0)]) (S' := []) (sh' := mz_sh) (m' := m) (g := true) rfl rfl (rfl) ?_
  refine mz_go_if (fun c1 => ?_) (fun c1 => ?_)
  · have h2 := h.1 c1
    refine mz_go_blk mz_m78 2 (pc' := 29) (L' := [some (.int a0)]) (S' := [.int 1]) (sh' := mz_sh) (m' := m) (g := true) rfl rfl (rfl) ?_
    exact mz_go_ret mz_m78 rfl rfl rfl ⟨_, rfl, rfl, h2⟩
  · have h3 := h.2 c1
    refine mz_go_blk mz_m78 3 (pc' := (if a0 = 10 then 24 else 12)) (L' := [some (.int a0)]) (S' := []) (sh' := mz_sh) (m' := m) (g := true) rfl rfl (rfl) ?_
    refine mz_go_if (fun c4 => ?_) (fun c4 => ?_)
    · have h5 := h3.1 c4
      refine mz_go_blk mz_m78 2 (pc' := 29) (L' := [some (.int a0)]) (S' := [.int 1]) (sh' := mz_sh) (m' := m) (g := true) rfl rfl (rfl) ?_
      exact mz_go_ret mz_m78 rfl rfl rfl ⟨_, rfl, rfl, h5⟩
    · have h6 := h3.2 c4
      refine mz_go_blk mz_m78 3 (pc' := (if a0 = 13 then 24 else 18)) (L' := [some (.int a0)]) (S' := []) (sh' := mz_sh) (m' := m) (g := true) rfl rfl (rfl) ?_
      refine mz_go_if (fun c7 => ?_) (fun c7 => ?_)
      · have h8 := h6.1 c7
        refine mz_go_blk mz_m78 2 (pc' := 29) (L' := [some (.int a0)]) (S' := [.int 1]) (sh' := mz_sh) (m' := m) (g := true) rfl rfl (rfl) ?_
        exact mz_go_ret mz_m78 rfl rfl rfl ⟨_, rfl, rfl, h8⟩
      · have h9 := h6.2 c7
        refine mz_go_blk mz_m78 3 (pc' := (if a0 = 32 then 24 else 28)) (L' := [some (.int a0)]) (S' := []) (sh' := mz_sh) (m' := m) (g := true) rfl rfl (rfl) ?_
        refine mz_go_if (fun c10 => ?_) (fun c10 => ?_)
        · have h11 := h9.1 c10
          refine mz_go_blk mz_m78 2 (pc' := 29) (L' := [some (.int a0)]) (S' := [.int 1]) (sh' := mz_sh) (m' := m) (g := true) rfl rfl (rfl) ?_
          exact mz_go_ret mz_m78 rfl rfl rfl ⟨_, rfl, rfl, h11⟩
        · have h12 := h9.2 c10
          refine mz_go_blk mz_m78 1 (pc' := 29) (L' := [some (.int a0)]) (S' := [.int 0]) (sh' := mz_sh) (m' := m) (g := true) rfl rfl (rfl) ?_
          exact mz_go_ret mz_m78 rfl rfl rfl ⟨_, rfl, rfl, h12⟩
set_option maxRecDepth 100000 in
theorem t_K_isDigit_0 {X : mz_X} {m : mz_M} {Q : Int32 → mz_M → Prop} (a0 : Int32)
    (h : ((a0 < 48 → Q 0 m) ∧ (¬ (a0 < 48) → ((57 < a0 → Q 0 m) ∧ (¬ (57 < a0) → Q 1 m))))) :
    mz_gi X mz_sh 79 0 [some (.int a0)] m Q := by
  refine mz_go_blk mz_m79 3 (pc' := (if a0 < 48 then 16 else 6)) (L' := [some (.int a0)]) (S' := []) (sh' := mz_sh) (m' := m) (g := true) rfl rfl (rfl) ?_
  refine mz_go_if (fun c1 => ?_) (fun c1 => ?_)
  · have h2 := h.1 c1
    refine mz_go_blk mz_m79 1 (pc' := 17) (L' := [some (.int a0)]) (S' := [.int 0]) (sh' := mz_sh) (m' := m) (g := true) rfl rfl (rfl) ?_
    exact mz_go_ret mz_m79 rfl rfl rfl ⟨_, rfl, rfl, h2⟩
  · have h3 := h.2 c1
    refine mz_go_blk mz_m79 3 (pc' := (if 57 < a0 then 16 else 12)) (L' := [some (.int a0)]) (S' := []) (sh' := mz_sh) (m' := m) (g := true) rfl rfl (rfl) ?_
    refine mz_go_if (fun c4 => ?_) (fun c4 => ?_)
    · have h5 := h3.1 c4
      refine mz_go_blk mz_m79 1 (pc' := 17) (L' := [some (.int a0)]) (S' := [.int 0]) (sh' := mz_sh) (m' := m) (g := true) rfl rfl (rfl) ?_
      exact mz_go_ret mz_m79 rfl rfl rfl ⟨_, rfl, rfl, h5⟩
    · have h6 := h3.2 c4
      refine mz_go_blk mz_m79 2 (pc' := 17) (L' := [some (.int a0)]) (S' := [.int 1]) (sh' := mz_sh) (m' := m) (g := true) rfl rfl (rfl) ?_
      exact mz_go_ret mz_m79 rfl rfl rfl ⟨_, rfl, rfl, h6⟩
set_option maxRecDepth 100000 in
theorem t_K_isLetter_0 {X : mz_X} {m : mz_M} {Q : Int32 → mz_M → Prop} (a0 : Int32)
    (h : ((a0 < 97 → ((a0 < 65 → ((a0 = 95 → Q 1 m) ∧ (¬ (a0 = 95) → Q 0 m))) ∧ (¬ (a0 < 65) → ((a0 ≤ 90 → Q 1 m) ∧ (¬ (a0 ≤ 90) → ((a0 = 95 → Q 1 m) ∧ (¬ (a0 = 95) → Q 0 m))))))) ∧ (¬ (a0 < 97) → ((a0 ≤ 122 → Q 1 m) ∧ (¬ (a0 ≤ 122) → ((a0 < 65 → ((a0 = 95 → Q 1 m) ∧ (¬ (a0 = 95) → Q 0 m))) ∧ (¬ (a0 < 65) → ((a0 ≤ 90 → Q 1 m) ∧ (¬ (a0 ≤ 90) → ((a0 = 95 → Q 1 m) ∧ (¬ (a0 = 95) → Q 0 m))))))))))) :
    mz_gi X mz_sh 80 0 [some (.int a0)] m Q := by
  refine mz_go_blk mz_m80 3 (pc' := (if a0 < 97 then 12 else 6)) (L' := [some (.int a0)]) (S' := []) (sh' := mz_sh) (m' := m) (g := true) rfl rfl (rfl) ?_
  refine mz_go_if (fun c1 => ?_) (fun c1 => ?_)
  · have h2 := h.1 c1
    refine mz_go_blk mz_m80 3 (pc' := (if a0 < 65 then 24 else 18)) (L' := [some (.int a0)]) (S' := []) (sh' := mz_sh) (m' := m) (g := true) rfl rfl (rfl) ?_
    refine mz_go_if (fun c3 => ?_) (fun c3 => ?_)
    · have h4 := h2.1 c3
      refine mz_go_blk mz_m80 3 (pc' := (if a0 = 95 then 30 else 34)) (L' := [some (.int a0)]) (S' := []) (sh' := mz_sh) (m' := m) (g := true) rfl rfl (rfl) ?_
      refine mz_go_if (fun c5 => ?_) (fun c5 => ?_)
      · have h6 := h4.1 c5
        refine mz_go_blk mz_m80 2 (pc' := 35) (L' := [some (.int a0)]) (S' := [.int 1]) (sh' := mz_sh) (m' := m) (g := true) rfl rfl (rfl) ?_
        exact mz_go_ret mz_m80 rfl rfl rfl ⟨_, rfl, rfl, h6⟩
      · have h7 := h4.2 c5
        refine mz_go_blk mz_m80 1 (pc' := 35) (L' := [some (.int a0)]) (S' := [.int 0]) (sh' := mz_sh) (m' := m) (g := true) rfl rfl (rfl) ?_
        exact mz_go_ret mz_m80 rfl rfl rfl ⟨_, rfl, rfl, h7⟩
    · have h8 := h2.2 c3
      refine mz_go_blk mz_m80 3 (pc' := (if a0 ≤ 90 then 30 else 24)) (L' := [some (.int a0)]) (S' := []) (sh' := mz_sh) (m' := m) (g := true) rfl rfl (rfl) ?_
      refine mz_go_if (fun c9 => ?_) (fun c9 => ?_)
      · have h10 := h8.1 c9
        refine mz_go_blk mz_m80 2 (pc' := 35) (L' := [some (.int a0)]) (S' := [.int 1]) (sh' := mz_sh) (m' := m) (g := true) rfl rfl (rfl) ?_
        exact mz_go_ret mz_m80 rfl rfl rfl ⟨_, rfl, rfl, h10⟩
      · have h11 := h8.2 c9
        refine mz_go_blk mz_m80 3 (pc' := (if a0 = 95 then 30 else 34)) (L' := [some (.int a0)]) (S' := []) (sh' := mz_sh) (m' := m) (g := true) rfl rfl (rfl) ?_
        refine mz_go_if (fun c12 => ?_) (fun c12 => ?_)
        · have h13 := h11.1 c12
          refine mz_go_blk mz_m80 2 (pc' := 35) (L' := [some (.int a0)]) (S' := [.int 1]) (sh' := mz_sh) (m' := m) (g := true) rfl rfl (rfl) ?_
          exact mz_go_ret mz_m80 rfl rfl rfl ⟨_, rfl, rfl, h13⟩
        · have h14 := h11.2 c12
          refine mz_go_blk mz_m80 1 (pc' := 35) (L' := [some (.int a0)]) (S' := [.int 0]) (sh' := mz_sh) (m' := m) (g := true) rfl rfl (rfl) ?_
          exact mz_go_ret mz_m80 rfl rfl rfl ⟨_, rfl, rfl, h14⟩
  · have h15 := h.2 c1
    refine mz_go_blk mz_m80 3 (pc' := (if a0 ≤ 122 then 30 else 12)) (L' := [some (.int a0)]) (S' := []) (sh' := mz_sh) (m' := m) (g := true) rfl rfl (rfl) ?_
    refine mz_go_if (fun c16 => ?_) (fun c16 => ?_)
    · have h17 := h15.1 c16
      refine mz_go_blk mz_m80 2 (pc' := 35) (L' := [some (.int a0)]) (S' := [.int 1]) (sh' := mz_sh) (m' := m) (g := true) rfl rfl (rfl) ?_
      exact mz_go_ret mz_m80 rfl rfl rfl ⟨_, rfl, rfl, h17⟩
    · have h18 := h15.2 c16
      refine mz_go_blk mz_m80 3 (pc' := (if a0 < 65 then 24 else 18)) (L' := [some (.int a0)]) (S' := []) (sh' := mz_sh) (m' := m) (g := true) rfl rfl (rfl) ?_
      refine mz_go_if (fun c19 => ?_) (fun c19 => ?_)
      · have h20 := h18.1 c19
        refine mz_go_blk mz_m80 3 (pc' := (if a0 = 95 then 30 else 34)) (L' := [some (.int a0)]) (S' := []) (sh' := mz_sh) (m' := m) (g := true) rfl rfl (rfl) ?_
        refine mz_go_if (fun c21 => ?_) (fun c21 => ?_)
        · have h22 := h20.1 c21
          refine mz_go_blk mz_m80 2 (pc' := 35) (L' := [some (.int a0)]) (S' := [.int 1]) (sh' := mz_sh) (m' := m) (g := true) rfl rfl (rfl) ?_
          exact mz_go_ret mz_m80 rfl rfl rfl ⟨_, rfl, rfl, h22⟩
        · have h23 := h20.2 c21
          refine mz_go_blk mz_m80 1 (pc' := 35) (L' := [some (.int a0)]) (S' := [.int 0]) (sh' := mz_sh) (m' := m) (g := true) rfl rfl (rfl) ?_
          exact mz_go_ret mz_m80 rfl rfl rfl ⟨_, rfl, rfl, h23⟩
      · have h24 := h18.2 c19
        refine mz_go_blk mz_m80 3 (pc' := (if a0 ≤ 90 then 30 else 24)) (L' := [some (.int a0)]) (S' := []) (sh' := mz_sh) (m' := m) (g := true) rfl rfl (rfl) ?_
        refine mz_go_if (fun c25 => ?_) (fun c25 => ?_)
        · have h26 := h24.1 c25
          refine mz_go_blk mz_m80 2 (pc' := 35) (L' := [some (.int a0)]) (S' := [.int 1]) (sh' := mz_sh) (m' := m) (g := true) rfl rfl (rfl) ?_
          exact mz_go_ret mz_m80 rfl rfl rfl ⟨_, rfl, rfl, h26⟩
        · have h27 := h24.2 c25
          refine mz_go_blk mz_m80 3 (pc' := (if a0 = 95 then 30 else 34)) (L' := [some (.int a0)]) (S' := []) (sh' := mz_sh) (m' := m) (g := true) rfl rfl (rfl) ?_
          refine mz_go_if (fun c28 => ?_) (fun c28 => ?_)
          · have h29 := h27.1 c28
            refine mz_go_blk mz_m80 2 (pc' := 35) (L' := [some (.int a0)]) (S' := [.int 1]) (sh' := mz_sh) (m' := m) (g := true) rfl rfl (rfl) ?_
            exact mz_go_ret mz_m80 rfl rfl rfl ⟨_, rfl, rfl, h29⟩
          · have h30 := h27.2 c28
            refine mz_go_blk mz_m80 1 (pc' := 35) (L' := [some (.int a0)]) (S' := [.int 0]) (sh' := mz_sh) (m' := m) (g := true) rfl rfl (rfl) ?_
            exact mz_go_ret mz_m80 rfl rfl rfl ⟨_, rfl, rfl, h30⟩
