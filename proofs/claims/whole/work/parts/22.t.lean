set_option maxRecDepth 100000 in
theorem t_M_isEmpty_0 {X : mz_X} {m : mz_M} {Q : Int32 → mz_M → Prop} (a0 : Int32)
    (h : ((a0 = 25 → Q 1 m) ∧ (¬ (a0 = 25) → ((a0 = 26 → Q 1 m) ∧ (¬ (a0 = 26) → Q 0 m))))) :
    mz_gi X mz_sh 119 0 [some (.int a0)] m Q := by
  refine mz_go_blk mz_m119 3 (pc' := (if a0 = 25 then 12 else 6)) (L' := [some (.int a0)]) (S' := []) (sh' := mz_sh) (m' := m) (g := true) rfl rfl (rfl) ?_
  refine mz_go_if (fun c1 => ?_) (fun c1 => ?_)
  · have h2 := h.1 c1
    refine mz_go_blk mz_m119 2 (pc' := 17) (L' := [some (.int a0)]) (S' := [.int 1]) (sh' := mz_sh) (m' := m) (g := true) rfl rfl (rfl) ?_
    exact mz_go_ret mz_m119 rfl rfl rfl ⟨_, rfl, rfl, h2⟩
  · have h3 := h.2 c1
    refine mz_go_blk mz_m119 3 (pc' := (if a0 = 26 then 12 else 16)) (L' := [some (.int a0)]) (S' := []) (sh' := mz_sh) (m' := m) (g := true) rfl rfl (rfl) ?_
    refine mz_go_if (fun c4 => ?_) (fun c4 => ?_)
    · have h5 := h3.1 c4
      refine mz_go_blk mz_m119 2 (pc' := 17) (L' := [some (.int a0)]) (S' := [.int 1]) (sh' := mz_sh) (m' := m) (g := true) rfl rfl (rfl) ?_
      exact mz_go_ret mz_m119 rfl rfl rfl ⟨_, rfl, rfl, h5⟩
    · have h6 := h3.2 c4
      refine mz_go_blk mz_m119 1 (pc' := 17) (L' := [some (.int a0)]) (S' := [.int 0]) (sh' := mz_sh) (m' := m) (g := true) rfl rfl (rfl) ?_
      exact mz_go_ret mz_m119 rfl rfl rfl ⟨_, rfl, rfl, h6⟩
set_option maxRecDepth 100000 in
theorem t_M_takeFirst_0 {X : mz_X} {m : mz_M} {Q : Int32 → mz_M → Prop} (a1 : Int32) (a2 : Int32) (a3 : Int32)
    (h : mz_gi X mz_sh 120 6 [some (.ref 55), some (.int a1), some (.int a2), some (.int a3), some (.int 0), some (.int 0), none, none] m Q) :
    mz_gi X mz_sh 120 0 [some (.ref 55), some (.int a1), some (.int a2), some (.int a3), none, none, none, none] m Q := by
  refine mz_go_blk mz_m120 4 (pc' := 6) (L' := [some (.ref 55), some (.int a1), some (.int a2), some (.int a3), some (.int 0), some (.int 0), none, none]) (S' := []) (sh' := mz_sh) (m' := m) (g := true) rfl rfl (rfl) ?_
  exact h
set_option maxRecDepth 100000 in
theorem t_M_takeFirst_1 {X : mz_X} {m : mz_M} {Q : Int32 → mz_M → Prop} (l1 : Int32) (l2 : Int32) (l3 : Int32) (l4 : Int32) (l5 : Int32)
    (h : ((25 ≤ l5 → (l4 = 0 ∨ l4 = 1) ∧ Q l4 m) ∧ (¬ (25 ≤ l5) → ((25 ≤ l2 → mz_inb ((25 * (l2 - 25)) + l5) 900 = true ∧ (((m 64 (((25 * (l2 - 25)) + l5).toNatClampNeg)) = 0 → mz_gi X mz_sh 120 6 [some (.ref 55), some (.int l1), some (.int l2), some (.int l3), some (.int l4), some (.int (l5 + 1)), none, none] m Q) ∧ (¬ ((m 64 (((25 * (l2 - 25)) + l5).toNatClampNeg)) = 0) → ((l3 = 0 → mz_inb ((25 * (l1 - 25)) + l5) 900 = true ∧ (((m 64 (((25 * (l1 - 25)) + l5).toNatClampNeg)) = 0 → ((l3 = 0 → mz_inb ((25 * (l1 - 25)) + l5) 900 = true ∧ mz_gi X mz_sh 120 6 [some (.ref 55), some (.int l1), some (.int l2), some (.int l3), some (.int 1), some (.int (l5 + 1)), none, none] (mz_up m 64 (((25 * (l1 - 25)) + l5).toNatClampNeg) (vp_nar .boolean 1)) Q) ∧ (¬ (l3 = 0) → mz_inb ((25 * (l1 - 25)) + l5) 900 = true ∧ mz_gi X mz_sh 120 6 [some (.ref 55), some (.int l1), some (.int l2), some (.int l3), some (.int 1), some (.int (l5 + 1)), none, none] (mz_up m 65 (((25 * (l1 - 25)) + l5).toNatClampNeg) (vp_nar .boolean 1)) Q))) ∧ (¬ ((m 64 (((25 * (l1 - 25)) + l5).toNatClampNeg)) = 0) → mz_gi X mz_sh 120 6 [some (.ref 55), some (.int l1), some (.int l2), some (.int l3), some (.int l4), some (.int (l5 + 1)), none, none] m Q))) ∧ (¬ (l3 = 0) → mz_inb ((25 * (l1 - 25)) + l5) 900 = true ∧ (((m 65 (((25 * (l1 - 25)) + l5).toNatClampNeg)) = 0 → ((l3 = 0 → mz_inb ((25 * (l1 - 25)) + l5) 900 = true ∧ mz_gi X mz_sh 120 6 [some (.ref 55), some (.int l1), some (.int l2), some (.int l3), some (.int 1), some (.int (l5 + 1)), none, none] (mz_up m 64 (((25 * (l1 - 25)) + l5).toNatClampNeg) (vp_nar .boolean 1)) Q) ∧ (¬ (l3 = 0) → mz_inb ((25 * (l1 - 25)) + l5) 900 = true ∧ mz_gi X mz_sh 120 6 [some (.ref 55), some (.int l1), some (.int l2), some (.int l3), some (.int 1), some (.int (l5 + 1)), none, none] (mz_up m 65 (((25 * (l1 - 25)) + l5).toNatClampNeg) (vp_nar .boolean 1)) Q))) ∧ (¬ ((m 65 (((25 * (l1 - 25)) + l5).toNatClampNeg)) = 0) → mz_gi X mz_sh 120 6 [some (.ref 55), some (.int l1), some (.int l2), some (.int l3), some (.int l4), some (.int (l5 + 1)), none, none] m Q))))))) ∧ (¬ (25 ≤ l2) → ((l5 = l2 → ((l3 = 0 → mz_inb ((25 * (l1 - 25)) + l5) 900 = true ∧ (((m 64 (((25 * (l1 - 25)) + l5).toNatClampNeg)) = 0 → ((l3 = 0 → mz_inb ((25 * (l1 - 25)) + l5) 900 = true ∧ mz_gi X mz_sh 120 6 [some (.ref 55), some (.int l1), some (.int l2), some (.int l3), some (.int 1), some (.int (l5 + 1)), none, none] (mz_up m 64 (((25 * (l1 - 25)) + l5).toNatClampNeg) (vp_nar .boolean 1)) Q) ∧ (¬ (l3 = 0) → mz_inb ((25 * (l1 - 25)) + l5) 900 = true ∧ mz_gi X mz_sh 120 6 [some (.ref 55), some (.int l1), some (.int l2), some (.int l3), some (.int 1), some (.int (l5 + 1)), none, none] (mz_up m 65 (((25 * (l1 - 25)) + l5).toNatClampNeg) (vp_nar .boolean 1)) Q))) ∧ (¬ ((m 64 (((25 * (l1 - 25)) + l5).toNatClampNeg)) = 0) → mz_gi X mz_sh 120 6 [some (.ref 55), some (.int l1), some (.int l2), some (.int l3), some (.int l4), some (.int (l5 + 1)), none, none] m Q))) ∧ (¬ (l3 = 0) → mz_inb ((25 * (l1 - 25)) + l5) 900 = true ∧ (((m 65 (((25 * (l1 - 25)) + l5).toNatClampNeg)) = 0 → ((l3 = 0 → mz_inb ((25 * (l1 - 25)) + l5) 900 = true ∧ mz_gi X mz_sh 120 6 [some (.ref 55), some (.int l1), some (.int l2), some (.int l3), some (.int 1), some (.int (l5 + 1)), none, none] (mz_up m 64 (((25 * (l1 - 25)) + l5).toNatClampNeg) (vp_nar .boolean 1)) Q) ∧ (¬ (l3 = 0) → mz_inb ((25 * (l1 - 25)) + l5) 900 = true ∧ mz_gi X mz_sh 120 6 [some (.ref 55), some (.int l1), some (.int l2), some (.int l3), some (.int 1), some (.int (l5 + 1)), none, none] (mz_up m 65 (((25 * (l1 - 25)) + l5).toNatClampNeg) (vp_nar .boolean 1)) Q))) ∧ (¬ ((m 65 (((25 * (l1 - 25)) + l5).toNatClampNeg)) = 0) → mz_gi X mz_sh 120 6 [some (.ref 55), some (.int l1), some (.int l2), some (.int l3), some (.int l4), some (.int (l5 + 1)), none, none] m Q))))) ∧ (¬ (l5 = l2) → mz_gi X mz_sh 120 6 [some (.ref 55), some (.int l1), some (.int l2), some (.int l3), some (.int l4), some (.int (l5 + 1)), none, none] m Q))))))) :
    mz_gi X mz_sh 120 6 [some (.ref 55), some (.int l1), some (.int l2), some (.int l3), some (.int l4), some (.int l5), none, none] m Q := by
  refine mz_go_blk mz_m120 3 (pc' := (if 25 ≤ l5 then 126 else 13)) (L' := [some (.ref 55), some (.int l1), some (.int l2), some (.int l3), some (.int l4), some (.int l5), none, none]) (S' := []) (sh' := mz_sh) (m' := m) (g := true) rfl rfl (rfl) ?_
  refine mz_go_if (fun c1 => ?_) (fun c1 => ?_)
  · have h2 := h.1 c1
    refine mz_go_blk mz_m120 1 (pc' := 128) (L' := [some (.ref 55), some (.int l1), some (.int l2), some (.int l3), some (.int l4), some (.int l5), none, none]) (S' := [.int l4]) (sh' := mz_sh) (m' := m) (g := true) rfl rfl (rfl) ?_
    exact mz_go_ret mz_m120 rfl rfl (mz_rtb h2.1) ⟨_, rfl, rfl, h2.2⟩
  · have h3 := h.2 c1
    refine mz_go_blk mz_m120 3 (pc' := (if 25 ≤ l2 then 33 else 19)) (L' := [some (.ref 55), some (.int l1), some (.int l2), some (.int l3), some (.int l4), some (.int l5), none, none]) (S' := []) (sh' := mz_sh) (m' := m) (g := true) rfl rfl (rfl) ?_
    refine mz_go_if (fun c4 => ?_) (fun c4 => ?_)
    · have h5 := h3.1 c4
      obtain ⟨g6, h7⟩ := h5
      refine mz_go_blk mz_m120 21 (pc' := (if (m 64 (((25 * (l2 - 25)) + l5).toNatClampNeg)) = 0 then 120 else 67)) (L' := [some (.ref 55), some (.int l1), some (.int l2), some (.int l3), some (.int l4), some (.int l5), some (.int (m 64 (((25 * (l2 - 25)) + l5).toNatClampNeg))), some (.int ((25 * (l1 - 25)) + l5))]) (S' := []) (sh' := mz_sh) (m' := m) (g := mz_inb ((25 * (l2 - 25)) + l5) 900 && true) rfl rfl (mz_and2 (g6) (rfl)) ?_
      refine mz_go_if (fun c8 => ?_) (fun c8 => ?_)
      · have h9 := h7.1 c8
        refine mz_go_blk mz_m120 2 (pc' := 6) (L' := [some (.ref 55), some (.int l1), some (.int l2), some (.int l3), some (.int l4), some (.int (l5 + 1)), some (.int (m 64 (((25 * (l2 - 25)) + l5).toNatClampNeg))), some (.int ((25 * (l1 - 25)) + l5))]) (S' := []) (sh' := mz_sh) (m' := m) (g := true) rfl rfl (rfl) ?_
        exact mz_go.forget (L := [some (.ref 55), some (.int l1), some (.int l2), some (.int l3), some (.int l4), some (.int (l5 + 1)), none, none]) (mz_lel_cons rfl (mz_lel_cons rfl (mz_lel_cons rfl (mz_lel_cons rfl (mz_lel_cons rfl (mz_lel_cons rfl (mz_lel_cons trivial (mz_lel_cons trivial (mz_lel_nil))))))))) h9
      · have h10 := h7.2 c8
        refine mz_go_blk mz_m120 2 (pc' := (if l3 = 0 then 84 else 71)) (L' := [some (.ref 55), some (.int l1), some (.int l2), some (.int l3), some (.int l4), some (.int l5), some (.int (m 64 (((25 * (l2 - 25)) + l5).toNatClampNeg))), some (.int ((25 * (l1 - 25)) + l5))]) (S' := []) (sh' := mz_sh) (m' := m) (g := true) rfl rfl (rfl) ?_
        refine mz_go_if (fun c11 => ?_) (fun c11 => ?_)
        · have h12 := h10.1 c11
          obtain ⟨g13, h14⟩ := h12
          refine mz_go_blk mz_m120 5 (pc' := (if (m 64 (((25 * (l1 - 25)) + l5).toNatClampNeg)) = 0 then 94 else 120)) (L' := [some (.ref 55), some (.int l1), some (.int l2), some (.int l3), some (.int l4), some (.int l5), some (.int (m 64 (((25 * (l2 - 25)) + l5).toNatClampNeg))), some (.int ((25 * (l1 - 25)) + l5))]) (S' := []) (sh' := mz_sh) (m' := m) (g := mz_inb ((25 * (l1 - 25)) + l5) 900 && true) rfl rfl (mz_and2 (g13) (rfl)) ?_
          refine mz_go_if (fun c15 => ?_) (fun c15 => ?_)
          · have h16 := h14.1 c15
            refine mz_go_blk mz_m120 4 (pc' := (if l3 = 0 then 112 else 101)) (L' := [some (.ref 55), some (.int l1), some (.int l2), some (.int l3), some (.int 1), some (.int l5), some (.int (m 64 (((25 * (l2 - 25)) + l5).toNatClampNeg))), some (.int ((25 * (l1 - 25)) + l5))]) (S' := []) (sh' := mz_sh) (m' := m) (g := true) rfl rfl (rfl) ?_
            refine mz_go_if (fun c17 => ?_) (fun c17 => ?_)
            · have h18 := h16.1 c17
              obtain ⟨g19, h20⟩ := h18
              refine mz_go_blk mz_m120 7 (pc' := 6) (L' := [some (.ref 55), some (.int l1), some (.int l2), some (.int l3), some (.int 1), some (.int (l5 + 1)), some (.int (m 64 (((25 * (l2 - 25)) + l5).toNatClampNeg))), some (.int ((25 * (l1 - 25)) + l5))]) (S' := []) (sh' := mz_sh) (m' := mz_up m 64 (((25 * (l1 - 25)) + l5).toNatClampNeg) (vp_nar .boolean 1)) (g := mz_inb ((25 * (l1 - 25)) + l5) 900 && true) rfl rfl (mz_and2 (g19) (rfl)) ?_
              exact mz_go.forget (L := [some (.ref 55), some (.int l1), some (.int l2), some (.int l3), some (.int 1), some (.int (l5 + 1)), none, none]) (mz_lel_cons rfl (mz_lel_cons rfl (mz_lel_cons rfl (mz_lel_cons rfl (mz_lel_cons rfl (mz_lel_cons rfl (mz_lel_cons trivial (mz_lel_cons trivial (mz_lel_nil))))))))) h20
            · have h21 := h16.2 c17
              obtain ⟨g22, h23⟩ := h21
              refine mz_go_blk mz_m120 8 (pc' := 6) (L' := [some (.ref 55), some (.int l1), some (.int l2), some (.int l3), some (.int 1), some (.int (l5 + 1)), some (.int (m 64 (((25 * (l2 - 25)) + l5).toNatClampNeg))), some (.int ((25 * (l1 - 25)) + l5))]) (S' := []) (sh' := mz_sh) (m' := mz_up m 65 (((25 * (l1 - 25)) + l5).toNatClampNeg) (vp_nar .boolean 1)) (g := mz_inb ((25 * (l1 - 25)) + l5) 900 && true) rfl rfl (mz_and2 (g22) (rfl)) ?_
              exact mz_go.forget (L := [some (.ref 55), some (.int l1), some (.int l2), some (.int l3), some (.int 1), some (.int (l5 + 1)), none, none]) (mz_lel_cons rfl (mz_lel_cons rfl (mz_lel_cons rfl (mz_lel_cons rfl (mz_lel_cons rfl (mz_lel_cons rfl (mz_lel_cons trivial (mz_lel_cons trivial (mz_lel_nil))))))))) h23
          · have h24 := h14.2 c15
            refine mz_go_blk mz_m120 2 (pc' := 6) (L' := [some (.ref 55), some (.int l1), some (.int l2), some (.int l3), some (.int l4), some (.int (l5 + 1)), some (.int (m 64 (((25 * (l2 - 25)) + l5).toNatClampNeg))), some (.int ((25 * (l1 - 25)) + l5))]) (S' := []) (sh' := mz_sh) (m' := m) (g := true) rfl rfl (rfl) ?_
            exact mz_go.forget (L := [some (.ref 55), some (.int l1), some (.int l2), some (.int l3), some (.int l4), some (.int (l5 + 1)), none, none]) (mz_lel_cons rfl (mz_lel_cons rfl (mz_lel_cons rfl (mz_lel_cons rfl (mz_lel_cons rfl (mz_lel_cons rfl (mz_lel_cons trivial (mz_lel_cons trivial (mz_lel_nil))))))))) h24
        · have h25 := h10.2 c11
          obtain ⟨g26, h27⟩ := h25
          refine mz_go_blk mz_m120 5 (pc' := (if (m 65 (((25 * (l1 - 25)) + l5).toNatClampNeg)) = 0 then 94 else 81)) (L' := [some (.ref 55), some (.int l1), some (.int l2), some (.int l3), some (.int l4), some (.int l5), some (.int (m 64 (((25 * (l2 - 25)) + l5).toNatClampNeg))), some (.int ((25 * (l1 - 25)) + l5))]) (S' := []) (sh' := mz_sh) (m' := m) (g := mz_inb ((25 * (l1 - 25)) + l5) 900 && true) rfl rfl (mz_and2 (g26) (rfl)) ?_
          refine mz_go_if (fun c28 => ?_) (fun c28 => ?_)
          · have h29 := h27.1 c28
            refine mz_go_blk mz_m120 4 (pc' := (if l3 = 0 then 112 else 101)) (L' := [some (.ref 55), some (.int l1), some (.int l2), some (.int l3), some (.int 1), some (.int l5), some (.int (m 64 (((25 * (l2 - 25)) + l5).toNatClampNeg))), some (.int ((25 * (l1 - 25)) + l5))]) (S' := []) (sh' := mz_sh) (m' := m) (g := true) rfl rfl (rfl) ?_
            refine mz_go_if (fun c30 => ?_) (fun c30 => ?_)
            · have h31 := h29.1 c30
              obtain ⟨g32, h33⟩ := h31
              refine mz_go_blk mz_m120 7 (pc' := 6) (L' := [some (.ref 55), some (.int l1), some (.int l2), some (.int l3), some (.int 1), some (.int (l5 + 1)), some (.int (m 64 (((25 * (l2 - 25)) + l5).toNatClampNeg))), some (.int ((25 * (l1 - 25)) + l5))]) (S' := []) (sh' := mz_sh) (m' := mz_up m 64 (((25 * (l1 - 25)) + l5).toNatClampNeg) (vp_nar .boolean 1)) (g := mz_inb ((25 * (l1 - 25)) + l5) 900 && true) rfl rfl (mz_and2 (g32) (rfl)) ?_
              exact mz_go.forget (L := [some (.ref 55), some (.int l1), some (.int l2), some (.int l3), some (.int 1), some (.int (l5 + 1)), none, none]) (mz_lel_cons rfl (mz_lel_cons rfl (mz_lel_cons rfl (mz_lel_cons rfl (mz_lel_cons rfl (mz_lel_cons rfl (mz_lel_cons trivial (mz_lel_cons trivial (mz_lel_nil))))))))) h33
            · have h34 := h29.2 c30
              obtain ⟨g35, h36⟩ := h34
              refine mz_go_blk mz_m120 8 (pc' := 6) (L' := [some (.ref 55), some (.int l1), some (.int l2), some (.int l3), some (.int 1), some (.int (l5 + 1)), some (.int (m 64 (((25 * (l2 - 25)) + l5).toNatClampNeg))), some (.int ((25 * (l1 - 25)) + l5))]) (S' := []) (sh' := mz_sh) (m' := mz_up m 65 (((25 * (l1 - 25)) + l5).toNatClampNeg) (vp_nar .boolean 1)) (g := mz_inb ((25 * (l1 - 25)) + l5) 900 && true) rfl rfl (mz_and2 (g35) (rfl)) ?_
              exact mz_go.forget (L := [some (.ref 55), some (.int l1), some (.int l2), some (.int l3), some (.int 1), some (.int (l5 + 1)), none, none]) (mz_lel_cons rfl (mz_lel_cons rfl (mz_lel_cons rfl (mz_lel_cons rfl (mz_lel_cons rfl (mz_lel_cons rfl (mz_lel_cons trivial (mz_lel_cons trivial (mz_lel_nil))))))))) h36
          · have h37 := h27.2 c28
            refine mz_go_blk mz_m120 3 (pc' := 6) (L' := [some (.ref 55), some (.int l1), some (.int l2), some (.int l3), some (.int l4), some (.int (l5 + 1)), some (.int (m 64 (((25 * (l2 - 25)) + l5).toNatClampNeg))), some (.int ((25 * (l1 - 25)) + l5))]) (S' := []) (sh' := mz_sh) (m' := m) (g := true) rfl rfl (rfl) ?_
            exact mz_go.forget (L := [some (.ref 55), some (.int l1), some (.int l2), some (.int l3), some (.int l4), some (.int (l5 + 1)), none, none]) (mz_lel_cons rfl (mz_lel_cons rfl (mz_lel_cons rfl (mz_lel_cons rfl (mz_lel_cons rfl (mz_lel_cons rfl (mz_lel_cons trivial (mz_lel_cons trivial (mz_lel_nil))))))))) h37
    · have h38 := h3.2 c4
      refine mz_go_blk mz_m120 3 (pc' := (if l5 = l2 then 25 else 29)) (L' := [some (.ref 55), some (.int l1), some (.int l2), some (.int l3), some (.int l4), some (.int l5), none, none]) (S' := []) (sh' := mz_sh) (m' := m) (g := true) rfl rfl (rfl) ?_
      refine mz_go_if (fun c39 => ?_) (fun c39 => ?_)
      · have h40 := h38.1 c39
        refine mz_go_blk mz_m120 15 (pc' := (if l3 = 0 then 84 else 71)) (L' := [some (.ref 55), some (.int l1), some (.int l2), some (.int l3), some (.int l4), some (.int l5), some (.int 1), some (.int ((25 * (l1 - 25)) + l5))]) (S' := []) (sh' := mz_sh) (m' := m) (g := true) rfl rfl (rfl) ?_
        refine mz_go_if (fun c41 => ?_) (fun c41 => ?_)
        · have h42 := h40.1 c41
          obtain ⟨g43, h44⟩ := h42
          refine mz_go_blk mz_m120 5 (pc' := (if (m 64 (((25 * (l1 - 25)) + l5).toNatClampNeg)) = 0 then 94 else 120)) (L' := [some (.ref 55), some (.int l1), some (.int l2), some (.int l3), some (.int l4), some (.int l5), some (.int 1), some (.int ((25 * (l1 - 25)) + l5))]) (S' := []) (sh' := mz_sh) (m' := m) (g := mz_inb ((25 * (l1 - 25)) + l5) 900 && true) rfl rfl (mz_and2 (g43) (rfl)) ?_
          refine mz_go_if (fun c45 => ?_) (fun c45 => ?_)
          · have h46 := h44.1 c45
            refine mz_go_blk mz_m120 4 (pc' := (if l3 = 0 then 112 else 101)) (L' := [some (.ref 55), some (.int l1), some (.int l2), some (.int l3), some (.int 1), some (.int l5), some (.int 1), some (.int ((25 * (l1 - 25)) + l5))]) (S' := []) (sh' := mz_sh) (m' := m) (g := true) rfl rfl (rfl) ?_
            refine mz_go_if (fun c47 => ?_) (fun c47 => ?_)
            · have h48 := h46.1 c47
              obtain ⟨g49, h50⟩ := h48
              refine mz_go_blk mz_m120 7 (pc' := 6) (L' := [some (.ref 55), some (.int l1), some (.int l2), some (.int l3), some (.int 1), some (.int (l5 + 1)), some (.int 1), some (.int ((25 * (l1 - 25)) + l5))]) (S' := []) (sh' := mz_sh) (m' := mz_up m 64 (((25 * (l1 - 25)) + l5).toNatClampNeg) (vp_nar .boolean 1)) (g := mz_inb ((25 * (l1 - 25)) + l5) 900 && true) rfl rfl (mz_and2 (g49) (rfl)) ?_
              exact mz_go.forget (L := [some (.ref 55), some (.int l1), some (.int l2), some (.int l3), some (.int 1), some (.int (l5 + 1)), none, none]) (mz_lel_cons rfl (mz_lel_cons rfl (mz_lel_cons rfl (mz_lel_cons rfl (mz_lel_cons rfl (mz_lel_cons rfl (mz_lel_cons trivial (mz_lel_cons trivial (mz_lel_nil))))))))) h50
            · have h51 := h46.2 c47
              obtain ⟨g52, h53⟩ := h51
              refine mz_go_blk mz_m120 8 (pc' := 6) (L' := [some (.ref 55), some (.int l1), some (.int l2), some (.int l3), some (.int 1), some (.int (l5 + 1)), some (.int 1), some (.int ((25 * (l1 - 25)) + l5))]) (S' := []) (sh' := mz_sh) (m' := mz_up m 65 (((25 * (l1 - 25)) + l5).toNatClampNeg) (vp_nar .boolean 1)) (g := mz_inb ((25 * (l1 - 25)) + l5) 900 && true) rfl rfl (mz_and2 (g52) (rfl)) ?_
              exact mz_go.forget (L := [some (.ref 55), some (.int l1), some (.int l2), some (.int l3), some (.int 1), some (.int (l5 + 1)), none, none]) (mz_lel_cons rfl (mz_lel_cons rfl (mz_lel_cons rfl (mz_lel_cons rfl (mz_lel_cons rfl (mz_lel_cons rfl (mz_lel_cons trivial (mz_lel_cons trivial (mz_lel_nil))))))))) h53
          · have h54 := h44.2 c45
            refine mz_go_blk mz_m120 2 (pc' := 6) (L' := [some (.ref 55), some (.int l1), some (.int l2), some (.int l3), some (.int l4), some (.int (l5 + 1)), some (.int 1), some (.int ((25 * (l1 - 25)) + l5))]) (S' := []) (sh' := mz_sh) (m' := m) (g := true) rfl rfl (rfl) ?_
            exact mz_go.forget (L := [some (.ref 55), some (.int l1), some (.int l2), some (.int l3), some (.int l4), some (.int (l5 + 1)), none, none]) (mz_lel_cons rfl (mz_lel_cons rfl (mz_lel_cons rfl (mz_lel_cons rfl (mz_lel_cons rfl (mz_lel_cons rfl (mz_lel_cons trivial (mz_lel_cons trivial (mz_lel_nil))))))))) h54
        · have h55 := h40.2 c41
          obtain ⟨g56, h57⟩ := h55
          refine mz_go_blk mz_m120 5 (pc' := (if (m 65 (((25 * (l1 - 25)) + l5).toNatClampNeg)) = 0 then 94 else 81)) (L' := [some (.ref 55), some (.int l1), some (.int l2), some (.int l3), some (.int l4), some (.int l5), some (.int 1), some (.int ((25 * (l1 - 25)) + l5))]) (S' := []) (sh' := mz_sh) (m' := m) (g := mz_inb ((25 * (l1 - 25)) + l5) 900 && true) rfl rfl (mz_and2 (g56) (rfl)) ?_
          refine mz_go_if (fun c58 => ?_) (fun c58 => ?_)
          · have h59 := h57.1 c58
            refine mz_go_blk mz_m120 4 (pc' := (if l3 = 0 then 112 else 101)) (L' := [some (.ref 55), some (.int l1), some (.int l2), some (.int l3), some (.int 1), some (.int l5), some (.int 1), some (.int ((25 * (l1 - 25)) + l5))]) (S' := []) (sh' := mz_sh) (m' := m) (g := true) rfl rfl (rfl) ?_
            refine mz_go_if (fun c60 => ?_) (fun c60 => ?_)
            · have h61 := h59.1 c60
              obtain ⟨g62, h63⟩ := h61
              refine mz_go_blk mz_m120 7 (pc' := 6) (L' := [some (.ref 55), some (.int l1), some (.int l2), some (.int l3), some (.int 1), some (.int (l5 + 1)), some (.int 1), some (.int ((25 * (l1 - 25)) + l5))]) (S' := []) (sh' := mz_sh) (m' := mz_up m 64 (((25 * (l1 - 25)) + l5).toNatClampNeg) (vp_nar .boolean 1)) (g := mz_inb ((25 * (l1 - 25)) + l5) 900 && true) rfl rfl (mz_and2 (g62) (rfl)) ?_
              exact mz_go.forget (L := [some (.ref 55), some (.int l1), some (.int l2), some (.int l3), some (.int 1), some (.int (l5 + 1)), none, none]) (mz_lel_cons rfl (mz_lel_cons rfl (mz_lel_cons rfl (mz_lel_cons rfl (mz_lel_cons rfl (mz_lel_cons rfl (mz_lel_cons trivial (mz_lel_cons trivial (mz_lel_nil))))))))) h63
            · have h64 := h59.2 c60
              obtain ⟨g65, h66⟩ := h64
              refine mz_go_blk mz_m120 8 (pc' := 6) (L' := [some (.ref 55), some (.int l1), some (.int l2), some (.int l3), some (.int 1), some (.int (l5 + 1)), some (.int 1), some (.int ((25 * (l1 - 25)) + l5))]) (S' := []) (sh' := mz_sh) (m' := mz_up m 65 (((25 * (l1 - 25)) + l5).toNatClampNeg) (vp_nar .boolean 1)) (g := mz_inb ((25 * (l1 - 25)) + l5) 900 && true) rfl rfl (mz_and2 (g65) (rfl)) ?_
              exact mz_go.forget (L := [some (.ref 55), some (.int l1), some (.int l2), some (.int l3), some (.int 1), some (.int (l5 + 1)), none, none]) (mz_lel_cons rfl (mz_lel_cons rfl (mz_lel_cons rfl (mz_lel_cons rfl (mz_lel_cons rfl (mz_lel_cons rfl (mz_lel_cons trivial (mz_lel_cons trivial (mz_lel_nil))))))))) h66
          · have h67 := h57.2 c58
            refine mz_go_blk mz_m120 3 (pc' := 6) (L' := [some (.ref 55), some (.int l1), some (.int l2), some (.int l3), some (.int l4), some (.int (l5 + 1)), some (.int 1), some (.int ((25 * (l1 - 25)) + l5))]) (S' := []) (sh' := mz_sh) (m' := m) (g := true) rfl rfl (rfl) ?_
            exact mz_go.forget (L := [some (.ref 55), some (.int l1), some (.int l2), some (.int l3), some (.int l4), some (.int (l5 + 1)), none, none]) (mz_lel_cons rfl (mz_lel_cons rfl (mz_lel_cons rfl (mz_lel_cons rfl (mz_lel_cons rfl (mz_lel_cons rfl (mz_lel_cons trivial (mz_lel_cons trivial (mz_lel_nil))))))))) h67
      · have h68 := h38.2 c39
        refine mz_go_blk mz_m120 15 (pc' := 6) (L' := [some (.ref 55), some (.int l1), some (.int l2), some (.int l3), some (.int l4), some (.int (l5 + 1)), some (.int 0), some (.int ((25 * (l1 - 25)) + l5))]) (S' := []) (sh' := mz_sh) (m' := m) (g := true) rfl rfl (rfl) ?_
        exact mz_go.forget (L := [some (.ref 55), some (.int l1), some (.int l2), some (.int l3), some (.int l4), some (.int (l5 + 1)), none, none]) (mz_lel_cons rfl (mz_lel_cons rfl (mz_lel_cons rfl (mz_lel_cons rfl (mz_lel_cons rfl (mz_lel_cons rfl (mz_lel_cons trivial (mz_lel_cons trivial (mz_lel_nil))))))))) h68
set_option maxRecDepth 100000 in
theorem t_M_makeFirsts_0 {X : mz_X} {m : mz_M} {Q : mz_M → Prop}
    (h : mz_gv X mz_sh 121 2 [some (.ref 55), some (.int 1), none, none, none, none] m Q) :
    mz_gv X mz_sh 121 0 [some (.ref 55), none, none, none, none, none] m Q := by
  refine mz_go_blk mz_m121 2 (pc' := 2) (L' := [some (.ref 55), some (.int 1), none, none, none, none]) (S' := []) (sh' := mz_sh) (m' := m) (g := true) rfl rfl (rfl) ?_
  exact h
set_option maxRecDepth 100000 in
theorem t_M_makeFirsts_1 {X : mz_X} {m : mz_M} {Q : mz_M → Prop} (l1 : Int32)
    (h : ((l1 = 0 → Q m) ∧ (¬ (l1 = 0) → mz_gv X mz_sh 121 10 [some (.ref 55), some (.int 0), some (.int 0), none, none, none] m Q))) :
    mz_gv X mz_sh 121 2 [some (.ref 55), some (.int l1), none, none, none, none] m Q := by
  refine mz_go_blk mz_m121 2 (pc' := (if l1 = 0 then 99 else 6)) (L' := [some (.ref 55), some (.int l1), none, none, none, none]) (S' := []) (sh' := mz_sh) (m' := m) (g := true) rfl rfl (rfl) ?_
  refine mz_go_if (fun c1 => ?_) (fun c1 => ?_)
  · have h2 := h.1 c1
    exact mz_go_ret mz_m121 rfl rfl rfl ⟨rfl, rfl, h2⟩
  · have h3 := h.2 c1
    refine mz_go_blk mz_m121 4 (pc' := 10) (L' := [some (.ref 55), some (.int 0), some (.int 0), none, none, none]) (S' := []) (sh' := mz_sh) (m' := m) (g := true) rfl rfl (rfl) ?_
    exact h3
set_option maxRecDepth 100000 in
theorem t_M_makeFirsts_2 {X : mz_X} {m : mz_M} {Q : mz_M → Prop} (l1 : Int32) (l2 : Int32)
    (h : ((32 ≤ l2 → mz_gv X mz_sh 121 2 [some (.ref 55), some (.int l1), none, none, none, none] m Q) ∧ (¬ (32 ≤ l2) → mz_gv X mz_sh 121 21 [some (.ref 55), some (.int l1), some (.int l2), some (.int 1), some (.int 0), none] m Q))) :
    mz_gv X mz_sh 121 10 [some (.ref 55), some (.int l1), some (.int l2), none, none, none] m Q := by
  refine mz_go_blk mz_m121 3 (pc' := (if 32 ≤ l2 then 96 else 16)) (L' := [some (.ref 55), some (.int l1), some (.int l2), none, none, none]) (S' := []) (sh' := mz_sh) (m' := m) (g := true) rfl rfl (rfl) ?_
  refine mz_go_if (fun c1 => ?_) (fun c1 => ?_)
  · have h2 := h.1 c1
    refine mz_go_blk mz_m121 1 (pc' := 2) (L' := [some (.ref 55), some (.int l1), some (.int l2), none, none, none]) (S' := []) (sh' := mz_sh) (m' := m) (g := true) rfl rfl (rfl) ?_
    exact mz_go.forget (L := [some (.ref 55), some (.int l1), none, none, none, none]) (mz_lel_cons rfl (mz_lel_cons rfl (mz_lel_cons trivial (mz_lel_cons trivial (mz_lel_cons trivial (mz_lel_cons trivial (mz_lel_nil))))))) h2
  · have h3 := h.2 c1
    refine mz_go_blk mz_m121 4 (pc' := 21) (L' := [some (.ref 55), some (.int l1), some (.int l2), some (.int 1), some (.int 0), none]) (S' := []) (sh' := mz_sh) (m' := m) (g := true) rfl rfl (rfl) ?_
    exact h3
set_option maxRecDepth 100000 in
theorem t_M_makeFirsts_3 {X : mz_X} {m : mz_M} {Q : mz_M → Prop} (l1 : Int32) (l2 : Int32) (l3 : Int32) (l4 : Int32)
    (h : mz_inb l2 32 = true ∧ (((m 57 l2.toNatClampNeg) ≤ l4 → mz_gv X mz_sh 121 10 [some (.ref 55), some (.int l1), some (.int (l2 + 1)), none, none, none] m Q) ∧ (¬ ((m 57 l2.toNatClampNeg) ≤ l4) → ((l3 = 0 → mz_gv X mz_sh 121 10 [some (.ref 55), some (.int l1), some (.int (l2 + 1)), none, none, none] m Q) ∧ (¬ (l3 = 0) → mz_inb l2 33 = true ∧ mz_inb ((m 59 l2.toNatClampNeg) + l4) 77 = true ∧ mz_inb l2 32 = true ∧ mz_gi X mz_sh 120 0 [some (.ref 55), some (.int (m 56 l2.toNatClampNeg)), some (.int (m 58 (((m 59 l2.toNatClampNeg) + l4).toNatClampNeg))), some (.int 0), none, none, none, none] m (fun r15 m13 => ((r15 = 0 → ((l1 = 0 → mz_gi X mz_sh 119 0 [some (.int (m 58 (((m 59 l2.toNatClampNeg) + l4).toNatClampNeg)))] m13 (fun r22 m20 => mz_gv X mz_sh 121 21 [some (.ref 55), some (.int 0), some (.int l2), some (.int r22), some (.int (l4 + 1)), none] m20 Q)) ∧ (¬ (l1 = 0) → mz_gi X mz_sh 119 0 [some (.int (m 58 (((m 59 l2.toNatClampNeg) + l4).toNatClampNeg)))] m13 (fun r26 m24 => mz_gv X mz_sh 121 21 [some (.ref 55), some (.int 1), some (.int l2), some (.int r26), some (.int (l4 + 1)), none] m24 Q)))) ∧ (¬ (r15 = 0) → mz_gi X mz_sh 119 0 [some (.int (m 58 (((m 59 l2.toNatClampNeg) + l4).toNatClampNeg)))] m13 (fun r30 m28 => mz_gv X mz_sh 121 21 [some (.ref 55), some (.int 1), some (.int l2), some (.int r30), some (.int (l4 + 1)), none] m28 Q))))))))) :
    mz_gv X mz_sh 121 21 [some (.ref 55), some (.int l1), some (.int l2), some (.int l3), some (.int l4), none] m Q := by
  obtain ⟨g1, h2⟩ := h
  refine mz_go_blk mz_m121 6 (pc' := (if (m 57 l2.toNatClampNeg) ≤ l4 then 90 else 32)) (L' := [some (.ref 55), some (.int l1), some (.int l2), some (.int l3), some (.int l4), none]) (S' := []) (sh' := mz_sh) (m' := m) (g := mz_inb l2 32 && true) rfl rfl (mz_and2 (g1) (rfl)) ?_
  refine mz_go_if (fun c3 => ?_) (fun c3 => ?_)
  · have h4 := h2.1 c3
    refine mz_go_blk mz_m121 2 (pc' := 10) (L' := [some (.ref 55), some (.int l1), some (.int (l2 + 1)), some (.int l3), some (.int l4), none]) (S' := []) (sh' := mz_sh) (m' := m) (g := true) rfl rfl (rfl) ?_
    exact mz_go.forget (L := [some (.ref 55), some (.int l1), some (.int (l2 + 1)), none, none, none]) (mz_lel_cons rfl (mz_lel_cons rfl (mz_lel_cons rfl (mz_lel_cons trivial (mz_lel_cons trivial (mz_lel_cons trivial (mz_lel_nil))))))) h4
  · have h5 := h2.2 c3
    refine mz_go_blk mz_m121 2 (pc' := (if l3 = 0 then 90 else 36)) (L' := [some (.ref 55), some (.int l1), some (.int l2), some (.int l3), some (.int l4), none]) (S' := []) (sh' := mz_sh) (m' := m) (g := true) rfl rfl (rfl) ?_
    refine mz_go_if (fun c6 => ?_) (fun c6 => ?_)
    · have h7 := h5.1 c6
      refine mz_go_blk mz_m121 2 (pc' := 10) (L' := [some (.ref 55), some (.int l1), some (.int (l2 + 1)), some (.int l3), some (.int l4), none]) (S' := []) (sh' := mz_sh) (m' := m) (g := true) rfl rfl (rfl) ?_
      exact mz_go.forget (L := [some (.ref 55), some (.int l1), some (.int (l2 + 1)), none, none, none]) (mz_lel_cons rfl (mz_lel_cons rfl (mz_lel_cons rfl (mz_lel_cons trivial (mz_lel_cons trivial (mz_lel_cons trivial (mz_lel_nil))))))) h7
    · have h8 := h5.2 c6
      obtain ⟨g9, g10, g11, h12⟩ := h8
      refine mz_go_blk mz_m121 17 (pc' := 62) (L' := [some (.ref 55), some (.int l1), some (.int l2), some (.int l3), some (.int l4), some (.int (m 58 (((m 59 l2.toNatClampNeg) + l4).toNatClampNeg)))]) (S' := [.int 0, .int (m 58 (((m 59 l2.toNatClampNeg) + l4).toNatClampNeg)), .int (m 56 l2.toNatClampNeg), .ref 55]) (sh' := mz_sh) (m' := m) (g := mz_inb l2 32 && (mz_inb ((m 59 l2.toNatClampNeg) + l4) 77 && (mz_inb l2 33 && true))) rfl rfl (mz_and2 (g11) (mz_and2 (g10) (mz_and2 (g9) (rfl)))) ?_
      refine mz_go_call mz_m121 mz_m120 rfl rfl rfl rfl rfl rfl rfl h12 (fun v sh1 m13 hv => ?_)
      obtain ⟨r15, rfl, rfl, h14⟩ := hv
      refine mz_go_blk mz_m121 1 (pc' := (if r15 = 0 then 68 else 72)) (L' := [some (.ref 55), some (.int l1), some (.int l2), some (.int l3), some (.int l4), some (.int (m 58 (((m 59 l2.toNatClampNeg) + l4).toNatClampNeg)))]) (S' := []) (sh' := mz_sh) (m' := m13) (g := true) rfl rfl (rfl) ?_
      refine mz_go_if (fun c16 => ?_) (fun c16 => ?_)
      · have h17 := h14.1 c16
        refine mz_go_blk mz_m121 2 (pc' := (if l1 = 0 then 76 else 72)) (L' := [some (.ref 55), some (.int l1), some (.int l2), some (.int l3), some (.int l4), some (.int (m 58 (((m 59 l2.toNatClampNeg) + l4).toNatClampNeg)))]) (S' := []) (sh' := mz_sh) (m' := m13) (g := true) rfl rfl (rfl) ?_
        refine mz_go_if (fun c18 => ?_) (fun c18 => ?_)
        · have h19 := h17.1 c18
          refine mz_go_blk mz_m121 3 (pc' := 80) (L' := [some (.ref 55), some (.int 0), some (.int l2), some (.int l3), some (.int l4), some (.int (m 58 (((m 59 l2.toNatClampNeg) + l4).toNatClampNeg)))]) (S' := [.int (m 58 (((m 59 l2.toNatClampNeg) + l4).toNatClampNeg))]) (sh' := mz_sh) (m' := m13) (g := true) rfl rfl (rfl) ?_
          refine mz_go_call mz_m121 mz_m119 rfl rfl rfl rfl rfl rfl rfl h19 (fun v sh1 m20 hv => ?_)
          obtain ⟨r22, rfl, rfl, h21⟩ := hv
          refine mz_go_blk mz_m121 3 (pc' := 21) (L' := [some (.ref 55), some (.int 0), some (.int l2), some (.int r22), some (.int (l4 + 1)), some (.int (m 58 (((m 59 l2.toNatClampNeg) + l4).toNatClampNeg)))]) (S' := []) (sh' := mz_sh) (m' := m20) (g := true) rfl rfl (rfl) ?_
          exact mz_go.forget (L := [some (.ref 55), some (.int 0), some (.int l2), some (.int r22), some (.int (l4 + 1)), none]) (mz_lel_cons rfl (mz_lel_cons rfl (mz_lel_cons rfl (mz_lel_cons rfl (mz_lel_cons rfl (mz_lel_cons trivial (mz_lel_nil))))))) h21
        · have h23 := h17.2 c18
          refine mz_go_blk mz_m121 4 (pc' := 80) (L' := [some (.ref 55), some (.int 1), some (.int l2), some (.int l3), some (.int l4), some (.int (m 58 (((m 59 l2.toNatClampNeg) + l4).toNatClampNeg)))]) (S' := [.int (m 58 (((m 59 l2.toNatClampNeg) + l4).toNatClampNeg))]) (sh' := mz_sh) (m' := m13) (g := true) rfl rfl (rfl) ?_
          refine mz_go_call mz_m121 mz_m119 rfl rfl rfl rfl rfl rfl rfl h23 (fun v sh1 m24 hv => ?_)
          obtain ⟨r26, rfl, rfl, h25⟩ := hv
          refine mz_go_blk mz_m121 3 (pc' := 21) (L' := [some (.ref 55), some (.int 1), some (.int l2), some (.int r26), some (.int (l4 + 1)), some (.int (m 58 (((m 59 l2.toNatClampNeg) + l4).toNatClampNeg)))]) (S' := []) (sh' := mz_sh) (m' := m24) (g := true) rfl rfl (rfl) ?_
          exact mz_go.forget (L := [some (.ref 55), some (.int 1), some (.int l2), some (.int r26), some (.int (l4 + 1)), none]) (mz_lel_cons rfl (mz_lel_cons rfl (mz_lel_cons rfl (mz_lel_cons rfl (mz_lel_cons rfl (mz_lel_cons trivial (mz_lel_nil))))))) h25
      · have h27 := h14.2 c16
        refine mz_go_blk mz_m121 4 (pc' := 80) (L' := [some (.ref 55), some (.int 1), some (.int l2), some (.int l3), some (.int l4), some (.int (m 58 (((m 59 l2.toNatClampNeg) + l4).toNatClampNeg)))]) (S' := [.int (m 58 (((m 59 l2.toNatClampNeg) + l4).toNatClampNeg))]) (sh' := mz_sh) (m' := m13) (g := true) rfl rfl (rfl) ?_
        refine mz_go_call mz_m121 mz_m119 rfl rfl rfl rfl rfl rfl rfl h27 (fun v sh1 m28 hv => ?_)
        obtain ⟨r30, rfl, rfl, h29⟩ := hv
        refine mz_go_blk mz_m121 3 (pc' := 21) (L' := [some (.ref 55), some (.int 1), some (.int l2), some (.int r30), some (.int (l4 + 1)), some (.int (m 58 (((m 59 l2.toNatClampNeg) + l4).toNatClampNeg)))]) (S' := []) (sh' := mz_sh) (m' := m28) (g := true) rfl rfl (rfl) ?_
        exact mz_go.forget (L := [some (.ref 55), some (.int 1), some (.int l2), some (.int r30), some (.int (l4 + 1)), none]) (mz_lel_cons rfl (mz_lel_cons rfl (mz_lel_cons rfl (mz_lel_cons rfl (mz_lel_cons rfl (mz_lel_cons trivial (mz_lel_nil))))))) h29
set_option maxRecDepth 100000 in
theorem t_M_takeFollow_0 {X : mz_X} {m : mz_M} {Q : Int32 → mz_M → Prop} (a1 : Int32) (a2 : Int32)
    (h : mz_gi X mz_sh 122 5 [some (.ref 55), some (.int a1), some (.int a2), some (.int 0), some (.int 0), none] m Q) :
    mz_gi X mz_sh 122 0 [some (.ref 55), some (.int a1), some (.int a2), none, none, none] m Q := by
  refine mz_go_blk mz_m122 4 (pc' := 5) (L' := [some (.ref 55), some (.int a1), some (.int a2), some (.int 0), some (.int 0), none]) (S' := []) (sh' := mz_sh) (m' := m) (g := true) rfl rfl (rfl) ?_
  exact h
set_option maxRecDepth 100000 in
theorem t_M_takeFollow_1 {X : mz_X} {m : mz_M} {Q : Int32 → mz_M → Prop} (l1 : Int32) (l2 : Int32) (l3 : Int32) (l4 : Int32)
    (h : ((25 ≤ l4 → (l3 = 0 ∨ l3 = 1) ∧ Q l3 m) ∧ (¬ (25 ≤ l4) → mz_inb ((25 * (l2 - 25)) + l4) 900 = true ∧ (((m 65 (((25 * (l2 - 25)) + l4).toNatClampNeg)) = 0 → mz_gi X mz_sh 122 5 [some (.ref 55), some (.int l1), some (.int l2), some (.int l3), some (.int (l4 + 1)), none] m Q) ∧ (¬ ((m 65 (((25 * (l2 - 25)) + l4).toNatClampNeg)) = 0) → mz_inb ((25 * (l1 - 25)) + l4) 900 = true ∧ (((m 65 (((25 * (l1 - 25)) + l4).toNatClampNeg)) = 0 → mz_inb ((25 * (l1 - 25)) + l4) 900 = true ∧ mz_gi X mz_sh 122 5 [some (.ref 55), some (.int l1), some (.int l2), some (.int 1), some (.int (l4 + 1)), none] (mz_up m 65 (((25 * (l1 - 25)) + l4).toNatClampNeg) (vp_nar .boolean 1)) Q) ∧ (¬ ((m 65 (((25 * (l1 - 25)) + l4).toNatClampNeg)) = 0) → mz_gi X mz_sh 122 5 [some (.ref 55), some (.int l1), some (.int l2), some (.int l3), some (.int (l4 + 1)), none] m Q))))))) :
    mz_gi X mz_sh 122 5 [some (.ref 55), some (.int l1), some (.int l2), some (.int l3), some (.int l4), none] m Q := by
  refine mz_go_blk mz_m122 3 (pc' := (if 25 ≤ l4 then 68 else 12)) (L' := [some (.ref 55), some (.int l1), some (.int l2), some (.int l3), some (.int l4), none]) (S' := []) (sh' := mz_sh) (m' := m) (g := true) rfl rfl (rfl) ?_
  refine mz_go_if (fun c1 => ?_) (fun c1 => ?_)
  · have h2 := h.1 c1
    refine mz_go_blk mz_m122 1 (pc' := 69) (L' := [some (.ref 55), some (.int l1), some (.int l2), some (.int l3), some (.int l4), none]) (S' := [.int l3]) (sh' := mz_sh) (m' := m) (g := true) rfl rfl (rfl) ?_
    exact mz_go_ret mz_m122 rfl rfl (mz_rtb h2.1) ⟨_, rfl, rfl, h2.2⟩
  · have h3 := h.2 c1
    obtain ⟨g4, h5⟩ := h3
    refine mz_go_blk mz_m122 19 (pc' := (if (m 65 (((25 * (l2 - 25)) + l4).toNatClampNeg)) = 0 then 62 else 42)) (L' := [some (.ref 55), some (.int l1), some (.int l2), some (.int l3), some (.int l4), some (.int ((25 * (l1 - 25)) + l4))]) (S' := []) (sh' := mz_sh) (m' := m) (g := mz_inb ((25 * (l2 - 25)) + l4) 900 && true) rfl rfl (mz_and2 (g4) (rfl)) ?_
    refine mz_go_if (fun c6 => ?_) (fun c6 => ?_)
    · have h7 := h5.1 c6
      refine mz_go_blk mz_m122 2 (pc' := 5) (L' := [some (.ref 55), some (.int l1), some (.int l2), some (.int l3), some (.int (l4 + 1)), some (.int ((25 * (l1 - 25)) + l4))]) (S' := []) (sh' := mz_sh) (m' := m) (g := true) rfl rfl (rfl) ?_
      exact mz_go.forget (L := [some (.ref 55), some (.int l1), some (.int l2), some (.int l3), some (.int (l4 + 1)), none]) (mz_lel_cons rfl (mz_lel_cons rfl (mz_lel_cons rfl (mz_lel_cons rfl (mz_lel_cons rfl (mz_lel_cons trivial (mz_lel_nil))))))) h7
    · have h8 := h5.2 c6
      obtain ⟨g9, h10⟩ := h8
      refine mz_go_blk mz_m122 5 (pc' := (if (m 65 (((25 * (l1 - 25)) + l4).toNatClampNeg)) = 0 then 52 else 62)) (L' := [some (.ref 55), some (.int l1), some (.int l2), some (.int l3), some (.int l4), some (.int ((25 * (l1 - 25)) + l4))]) (S' := []) (sh' := mz_sh) (m' := m) (g := mz_inb ((25 * (l1 - 25)) + l4) 900 && true) rfl rfl (mz_and2 (g9) (rfl)) ?_
      refine mz_go_if (fun c11 => ?_) (fun c11 => ?_)
      · have h12 := h10.1 c11
        obtain ⟨g13, h14⟩ := h12
        refine mz_go_blk mz_m122 9 (pc' := 5) (L' := [some (.ref 55), some (.int l1), some (.int l2), some (.int 1), some (.int (l4 + 1)), some (.int ((25 * (l1 - 25)) + l4))]) (S' := []) (sh' := mz_sh) (m' := mz_up m 65 (((25 * (l1 - 25)) + l4).toNatClampNeg) (vp_nar .boolean 1)) (g := mz_inb ((25 * (l1 - 25)) + l4) 900 && true) rfl rfl (mz_and2 (g13) (rfl)) ?_
        exact mz_go.forget (L := [some (.ref 55), some (.int l1), some (.int l2), some (.int 1), some (.int (l4 + 1)), none]) (mz_lel_cons rfl (mz_lel_cons rfl (mz_lel_cons rfl (mz_lel_cons rfl (mz_lel_cons rfl (mz_lel_cons trivial (mz_lel_nil))))))) h14
      · have h15 := h10.2 c11
        refine mz_go_blk mz_m122 2 (pc' := 5) (L' := [some (.ref 55), some (.int l1), some (.int l2), some (.int l3), some (.int (l4 + 1)), some (.int ((25 * (l1 - 25)) + l4))]) (S' := []) (sh' := mz_sh) (m' := m) (g := true) rfl rfl (rfl) ?_
        exact mz_go.forget (L := [some (.ref 55), some (.int l1), some (.int l2), some (.int l3), some (.int (l4 + 1)), none]) (mz_lel_cons rfl (mz_lel_cons rfl (mz_lel_cons rfl (mz_lel_cons rfl (mz_lel_cons rfl (mz_lel_cons trivial (mz_lel_nil))))))) h15
set_option maxRecDepth 100000 in
theorem t_M_followsOf_0 {X : mz_X} {m : mz_M} {Q : Int32 → mz_M → Prop} (a1 : Int32) (a2 : Int32)
    (h : mz_inb a1 33 = true ∧ mz_inb ((m 59 a1.toNatClampNeg) + a2) 77 = true ∧ ((25 ≤ (m 58 (((m 59 a1.toNatClampNeg) + a2).toNatClampNeg)) → mz_gi X mz_sh 123 33 [some (.ref 55), some (.int a1), none, some (.int (m 58 (((m 59 a1.toNatClampNeg) + a2).toNatClampNeg))), some (.int 0), some (.int (a2 + 1)), some (.int 1), none] m Q) ∧ (¬ (25 ≤ (m 58 (((m 59 a1.toNatClampNeg) + a2).toNatClampNeg))) → Q 0 m))) :
    mz_gi X mz_sh 123 0 [some (.ref 55), some (.int a1), some (.int a2), none, none, none, none, none] m Q := by
  obtain ⟨g1, g2, h3⟩ := h
  refine mz_go_blk mz_m123 13 (pc' := (if 25 ≤ (m 58 (((m 59 a1.toNatClampNeg) + a2).toNatClampNeg)) then 22 else 20)) (L' := [some (.ref 55), some (.int a1), some (.int a2), some (.int (m 58 (((m 59 a1.toNatClampNeg) + a2).toNatClampNeg))), none, none, none, none]) (S' := []) (sh' := mz_sh) (m' := m) (g := mz_inb ((m 59 a1.toNatClampNeg) + a2) 77 && (mz_inb a1 33 && true)) rfl rfl (mz_and2 (g2) (mz_and2 (g1) (rfl))) ?_
  refine mz_go_if (fun c4 => ?_) (fun c4 => ?_)
  · have h5 := h3.1 c4
    refine mz_go_blk mz_m123 8 (pc' := 33) (L' := [some (.ref 55), some (.int a1), some (.int a2), some (.int (m 58 (((m 59 a1.toNatClampNeg) + a2).toNatClampNeg))), some (.int 0), some (.int (a2 + 1)), some (.int 1), none]) (S' := []) (sh' := mz_sh) (m' := m) (g := true) rfl rfl (rfl) ?_
    exact mz_go.forget (L := [some (.ref 55), some (.int a1), none, some (.int (m 58 (((m 59 a1.toNatClampNeg) + a2).toNatClampNeg))), some (.int 0), some (.int (a2 + 1)), some (.int 1), none]) (mz_lel_cons rfl (mz_lel_cons rfl (mz_lel_cons trivial (mz_lel_cons rfl (mz_lel_cons rfl (mz_lel_cons rfl (mz_lel_cons rfl (mz_lel_cons trivial (mz_lel_nil))))))))) h5
  · have h6 := h3.2 c4
    refine mz_go_blk mz_m123 1 (pc' := 21) (L' := [some (.ref 55), some (.int a1), some (.int a2), some (.int (m 58 (((m 59 a1.toNatClampNeg) + a2).toNatClampNeg))), none, none, none, none]) (S' := [.int 0]) (sh' := mz_sh) (m' := m) (g := true) rfl rfl (rfl) ?_
    exact mz_go_ret mz_m123 rfl rfl rfl ⟨_, rfl, rfl, h6⟩
set_option maxRecDepth 100000 in
theorem t_M_followsOf_1 {X : mz_X} {m : mz_M} {Q : Int32 → mz_M → Prop} (l1 : Int32) (l3 : Int32) (l4 : Int32) (l5 : Int32) (l6 : Int32)
    (h : mz_inb l1 32 = true ∧ (((m 57 l1.toNatClampNeg) ≤ l5 → ((l6 = 0 → (l4 = 0 ∨ l4 = 1) ∧ Q l4 m) ∧ (¬ (l6 = 0) → mz_inb l1 32 = true ∧ mz_gi X mz_sh 122 0 [some (.ref 55), some (.int l3), some (.int (m 56 l1.toNatClampNeg)), none, none, none] m (fun r12 m10 => ((r12 = 0 → ((l4 = 0 → Q 0 m10) ∧ (¬ (l4 = 0) → Q 1 m10))) ∧ (¬ (r12 = 0) → Q 1 m10)))))) ∧ (¬ ((m 57 l1.toNatClampNeg) ≤ l5) → ((l6 = 0 → ((l6 = 0 → (l4 = 0 ∨ l4 = 1) ∧ Q l4 m) ∧ (¬ (l6 = 0) → mz_inb l1 32 = true ∧ mz_gi X mz_sh 122 0 [some (.ref 55), some (.int l3), some (.int (m 56 l1.toNatClampNeg)), none, none, none] m (fun r29 m27 => ((r29 = 0 → ((l4 = 0 → Q 0 m27) ∧ (¬ (l4 = 0) → Q 1 m27))) ∧ (¬ (r29 = 0) → Q 1 m27)))))) ∧ (¬ (l6 = 0) → mz_inb l1 33 = true ∧ mz_inb ((m 59 l1.toNatClampNeg) + l5) 77 = true ∧ mz_gi X mz_sh 120 0 [some (.ref 55), some (.int l3), some (.int (m 58 (((m 59 l1.toNatClampNeg) + l5).toNatClampNeg))), some (.int 1), none, none, none, none] m (fun r42 m40 => ((r42 = 0 → ((l4 = 0 → mz_gi X mz_sh 119 0 [some (.int (m 58 (((m 59 l1.toNatClampNeg) + l5).toNatClampNeg)))] m40 (fun r49 m47 => mz_gi X mz_sh 123 33 [some (.ref 55), some (.int l1), none, some (.int l3), some (.int 0), some (.int (l5 + 1)), some (.int r49), none] m47 Q)) ∧ (¬ (l4 = 0) → mz_gi X mz_sh 119 0 [some (.int (m 58 (((m 59 l1.toNatClampNeg) + l5).toNatClampNeg)))] m40 (fun r53 m51 => mz_gi X mz_sh 123 33 [some (.ref 55), some (.int l1), none, some (.int l3), some (.int 1), some (.int (l5 + 1)), some (.int r53), none] m51 Q)))) ∧ (¬ (r42 = 0) → mz_gi X mz_sh 119 0 [some (.int (m 58 (((m 59 l1.toNatClampNeg) + l5).toNatClampNeg)))] m40 (fun r57 m55 => mz_gi X mz_sh 123 33 [some (.ref 55), some (.int l1), none, some (.int l3), some (.int 1), some (.int (l5 + 1)), some (.int r57), none] m55 Q))))))))) :
    mz_gi X mz_sh 123 33 [some (.ref 55), some (.int l1), none, some (.int l3), some (.int l4), some (.int l5), some (.int l6), none] m Q := by
  obtain ⟨g1, h2⟩ := h
  refine mz_go_blk mz_m123 6 (pc' := (if (m 57 l1.toNatClampNeg) ≤ l5 then 101 else 44)) (L' := [some (.ref 55), some (.int l1), none, some (.int l3), some (.int l4), some (.int l5), some (.int l6), none]) (S' := []) (sh' := mz_sh) (m' := m) (g := mz_inb l1 32 && true) rfl rfl (mz_and2 (g1) (rfl)) ?_
  refine mz_go_if (fun c3 => ?_) (fun c3 => ?_)
  · have h4 := h2.1 c3
    refine mz_go_blk mz_m123 2 (pc' := (if l6 = 0 then 133 else 106)) (L' := [some (.ref 55), some (.int l1), none, some (.int l3), some (.int l4), some (.int l5), some (.int l6), none]) (S' := []) (sh' := mz_sh) (m' := m) (g := true) rfl rfl (rfl) ?_
    refine mz_go_if (fun c5 => ?_) (fun c5 => ?_)
    · have h6 := h4.1 c5
      refine mz_go_blk mz_m123 1 (pc' := 135) (L' := [some (.ref 55), some (.int l1), none, some (.int l3), some (.int l4), some (.int l5), some (.int l6), none]) (S' := [.int l4]) (sh' := mz_sh) (m' := m) (g := true) rfl rfl (rfl) ?_
      exact mz_go_ret mz_m123 rfl rfl (mz_rtb h6.1) ⟨_, rfl, rfl, h6.2⟩
    · have h7 := h4.2 c5
      obtain ⟨g8, h9⟩ := h7
      refine mz_go_blk mz_m123 6 (pc' := 114) (L' := [some (.ref 55), some (.int l1), none, some (.int l3), some (.int l4), some (.int l5), some (.int l6), none]) (S' := [.int (m 56 l1.toNatClampNeg), .int l3, .ref 55]) (sh' := mz_sh) (m' := m) (g := mz_inb l1 32 && true) rfl rfl (mz_and2 (g8) (rfl)) ?_
      refine mz_go_call mz_m123 mz_m122 rfl rfl rfl rfl rfl rfl rfl h9 (fun v sh1 m10 hv => ?_)
      obtain ⟨r12, rfl, rfl, h11⟩ := hv
      refine mz_go_blk mz_m123 1 (pc' := (if r12 = 0 then 120 else 125)) (L' := [some (.ref 55), some (.int l1), none, some (.int l3), some (.int l4), some (.int l5), some (.int l6), none]) (S' := []) (sh' := mz_sh) (m' := m10) (g := true) rfl rfl (rfl) ?_
      refine mz_go_if (fun c13 => ?_) (fun c13 => ?_)
      · have h14 := h11.1 c13
        refine mz_go_blk mz_m123 2 (pc' := (if l4 = 0 then 129 else 125)) (L' := [some (.ref 55), some (.int l1), none, some (.int l3), some (.int l4), some (.int l5), some (.int l6), none]) (S' := []) (sh' := mz_sh) (m' := m10) (g := true) rfl rfl (rfl) ?_
        refine mz_go_if (fun c15 => ?_) (fun c15 => ?_)
        · have h16 := h14.1 c15
          refine mz_go_blk mz_m123 2 (pc' := 135) (L' := [some (.ref 55), some (.int l1), none, some (.int l3), some (.int l4), some (.int l5), some (.int l6), none]) (S' := [.int 0]) (sh' := mz_sh) (m' := m10) (g := true) rfl rfl (rfl) ?_
          exact mz_go_ret mz_m123 rfl rfl rfl ⟨_, rfl, rfl, h16⟩
        · have h17 := h14.2 c15
          refine mz_go_blk mz_m123 2 (pc' := 135) (L' := [some (.ref 55), some (.int l1), none, some (.int l3), some (.int l4), some (.int l5), some (.int l6), none]) (S' := [.int 1]) (sh' := mz_sh) (m' := m10) (g := true) rfl rfl (rfl) ?_
          exact mz_go_ret mz_m123 rfl rfl rfl ⟨_, rfl, rfl, h17⟩
      · have h18 := h11.2 c13
        refine mz_go_blk mz_m123 2 (pc' := 135) (L' := [some (.ref 55), some (.int l1), none, some (.int l3), some (.int l4), some (.int l5), some (.int l6), none]) (S' := [.int 1]) (sh' := mz_sh) (m' := m10) (g := true) rfl rfl (rfl) ?_
        exact mz_go_ret mz_m123 rfl rfl rfl ⟨_, rfl, rfl, h18⟩
  · have h19 := h2.2 c3
    refine mz_go_blk mz_m123 2 (pc' := (if l6 = 0 then 101 else 49)) (L' := [some (.ref 55), some (.int l1), none, some (.int l3), some (.int l4), some (.int l5), some (.int l6), none]) (S' := []) (sh' := mz_sh) (m' := m) (g := true) rfl rfl (rfl) ?_
    refine mz_go_if (fun c20 => ?_) (fun c20 => ?_)
    · have h21 := h19.1 c20
      refine mz_go_blk mz_m123 2 (pc' := (if l6 = 0 then 133 else 106)) (L' := [some (.ref 55), some (.int l1), none, some (.int l3), some (.int l4), some (.int l5), some (.int l6), none]) (S' := []) (sh' := mz_sh) (m' := m) (g := true) rfl rfl (rfl) ?_
      refine mz_go_if (fun c22 => ?_) (fun c22 => ?_)
      · have h23 := h21.1 c22
        refine mz_go_blk mz_m123 1 (pc' := 135) (L' := [some (.ref 55), some (.int l1), none, some (.int l3), some (.int l4), some (.int l5), some (.int l6), none]) (S' := [.int l4]) (sh' := mz_sh) (m' := m) (g := true) rfl rfl (rfl) ?_
        exact mz_go_ret mz_m123 rfl rfl (mz_rtb h23.1) ⟨_, rfl, rfl, h23.2⟩
      · have h24 := h21.2 c22
        obtain ⟨g25, h26⟩ := h24
        refine mz_go_blk mz_m123 6 (pc' := 114) (L' := [some (.ref 55), some (.int l1), none, some (.int l3), some (.int l4), some (.int l5), some (.int l6), none]) (S' := [.int (m 56 l1.toNatClampNeg), .int l3, .ref 55]) (sh' := mz_sh) (m' := m) (g := mz_inb l1 32 && true) rfl rfl (mz_and2 (g25) (rfl)) ?_
        refine mz_go_call mz_m123 mz_m122 rfl rfl rfl rfl rfl rfl rfl h26 (fun v sh1 m27 hv => ?_)
        obtain ⟨r29, rfl, rfl, h28⟩ := hv
        refine mz_go_blk mz_m123 1 (pc' := (if r29 = 0 then 120 else 125)) (L' := [some (.ref 55), some (.int l1), none, some (.int l3), some (.int l4), some (.int l5), some (.int l6), none]) (S' := []) (sh' := mz_sh) (m' := m27) (g := true) rfl rfl (rfl) ?_
        refine mz_go_if (fun c30 => ?_) (fun c30 => ?_)
        · have h31 := h28.1 c30
          refine mz_go_blk mz_m123 2 (pc' := (if l4 = 0 then 129 else 125)) (L' := [some (.ref 55), some (.int l1), none, some (.int l3), some (.int l4), some (.int l5), some (.int l6), none]) (S' := []) (sh' := mz_sh) (m' := m27) (g := true) rfl rfl (rfl) ?_
          refine mz_go_if (fun c32 => ?_) (fun c32 => ?_)
          · have h33 := h31.1 c32
            refine mz_go_blk mz_m123 2 (pc' := 135) (L' := [some (.ref 55), some (.int l1), none, some (.int l3), some (.int l4), some (.int l5), some (.int l6), none]) (S' := [.int 0]) (sh' := mz_sh) (m' := m27) (g := true) rfl rfl (rfl) ?_
            exact mz_go_ret mz_m123 rfl rfl rfl ⟨_, rfl, rfl, h33⟩
          · have h34 := h31.2 c32
            refine mz_go_blk mz_m123 2 (pc' := 135) (L' := [some (.ref 55), some (.int l1), none, some (.int l3), some (.int l4), some (.int l5), some (.int l6), none]) (S' := [.int 1]) (sh' := mz_sh) (m' := m27) (g := true) rfl rfl (rfl) ?_
            exact mz_go_ret mz_m123 rfl rfl rfl ⟨_, rfl, rfl, h34⟩
        · have h35 := h28.2 c30
          refine mz_go_blk mz_m123 2 (pc' := 135) (L' := [some (.ref 55), some (.int l1), none, some (.int l3), some (.int l4), some (.int l5), some (.int l6), none]) (S' := [.int 1]) (sh' := mz_sh) (m' := m27) (g := true) rfl rfl (rfl) ?_
          exact mz_go_ret mz_m123 rfl rfl rfl ⟨_, rfl, rfl, h35⟩
    · have h36 := h19.2 c20
      obtain ⟨g37, g38, h39⟩ := h36
      refine mz_go_blk mz_m123 14 (pc' := 70) (L' := [some (.ref 55), some (.int l1), none, some (.int l3), some (.int l4), some (.int l5), some (.int l6), some (.int (m 58 (((m 59 l1.toNatClampNeg) + l5).toNatClampNeg)))]) (S' := [.int 1, .int (m 58 (((m 59 l1.toNatClampNeg) + l5).toNatClampNeg)), .int l3, .ref 55]) (sh' := mz_sh) (m' := m) (g := mz_inb ((m 59 l1.toNatClampNeg) + l5) 77 && (mz_inb l1 33 && true)) rfl rfl (mz_and2 (g38) (mz_and2 (g37) (rfl))) ?_
      refine mz_go_call mz_m123 mz_m120 rfl rfl rfl rfl rfl rfl rfl h39 (fun v sh1 m40 hv => ?_)
      obtain ⟨r42, rfl, rfl, h41⟩ := hv
      refine mz_go_blk mz_m123 1 (pc' := (if r42 = 0 then 76 else 81)) (L' := [some (.ref 55), some (.int l1), none, some (.int l3), some (.int l4), some (.int l5), some (.int l6), some (.int (m 58 (((m 59 l1.toNatClampNeg) + l5).toNatClampNeg)))]) (S' := []) (sh' := mz_sh) (m' := m40) (g := true) rfl rfl (rfl) ?_
      refine mz_go_if (fun c43 => ?_) (fun c43 => ?_)
      · have h44 := h41.1 c43
        refine mz_go_blk mz_m123 2 (pc' := (if l4 = 0 then 85 else 81)) (L' := [some (.ref 55), some (.int l1), none, some (.int l3), some (.int l4), some (.int l5), some (.int l6), some (.int (m 58 (((m 59 l1.toNatClampNeg) + l5).toNatClampNeg)))]) (S' := []) (sh' := mz_sh) (m' := m40) (g := true) rfl rfl (rfl) ?_
        refine mz_go_if (fun c45 => ?_) (fun c45 => ?_)
        · have h46 := h44.1 c45
          refine mz_go_blk mz_m123 3 (pc' := 90) (L' := [some (.ref 55), some (.int l1), none, some (.int l3), some (.int 0), some (.int l5), some (.int l6), some (.int (m 58 (((m 59 l1.toNatClampNeg) + l5).toNatClampNeg)))]) (S' := [.int (m 58 (((m 59 l1.toNatClampNeg) + l5).toNatClampNeg))]) (sh' := mz_sh) (m' := m40) (g := true) rfl rfl (rfl) ?_
          refine mz_go_call mz_m123 mz_m119 rfl rfl rfl rfl rfl rfl rfl h46 (fun v sh1 m47 hv => ?_)
          obtain ⟨r49, rfl, rfl, h48⟩ := hv
          refine mz_go_blk mz_m123 3 (pc' := 33) (L' := [some (.ref 55), some (.int l1), none, some (.int l3), some (.int 0), some (.int (l5 + 1)), some (.int r49), some (.int (m 58 (((m 59 l1.toNatClampNeg) + l5).toNatClampNeg)))]) (S' := []) (sh' := mz_sh) (m' := m47) (g := true) rfl rfl (rfl) ?_
          exact mz_go.forget (L := [some (.ref 55), some (.int l1), none, some (.int l3), some (.int 0), some (.int (l5 + 1)), some (.int r49), none]) (mz_lel_cons rfl (mz_lel_cons rfl (mz_lel_cons trivial (mz_lel_cons rfl (mz_lel_cons rfl (mz_lel_cons rfl (mz_lel_cons rfl (mz_lel_cons trivial (mz_lel_nil))))))))) h48
        · have h50 := h44.2 c45
          refine mz_go_blk mz_m123 4 (pc' := 90) (L' := [some (.ref 55), some (.int l1), none, some (.int l3), some (.int 1), some (.int l5), some (.int l6), some (.int (m 58 (((m 59 l1.toNatClampNeg) + l5).toNatClampNeg)))]) (S' := [.int (m 58 (((m 59 l1.toNatClampNeg) + l5).toNatClampNeg))]) (sh' := mz_sh) (m' := m40) (g := true) rfl rfl (rfl) ?_
          refine mz_go_call mz_m123 mz_m119 rfl rfl rfl rfl rfl rfl rfl h50 (fun v sh1 m51 hv => ?_)
          obtain ⟨r53, rfl, rfl, h52⟩ := hv
          refine mz_go_blk mz_m123 3 (pc' := 33) (L' := [some (.ref 55), some (.int l1), none, some (.int l3), some (.int 1), some (.int (l5 + 1)), some (.int r53), some (.int (m 58 (((m 59 l1.toNatClampNeg) + l5).toNatClampNeg)))]) (S' := []) (sh' := mz_sh) (m' := m51) (g := true) rfl rfl (rfl) ?_
          exact mz_go.forget (L := [some (.ref 55), some (.int l1), none, some (.int l3), some (.int 1), some (.int (l5 + 1)), some (.int r53), none]) (mz_lel_cons rfl (mz_lel_cons rfl (mz_lel_cons trivial (mz_lel_cons rfl (mz_lel_cons rfl (mz_lel_cons rfl (mz_lel_cons rfl (mz_lel_cons trivial (mz_lel_nil))))))))) h52
      · have h54 := h41.2 c43
        refine mz_go_blk mz_m123 4 (pc' := 90) (L' := [some (.ref 55), some (.int l1), none, some (.int l3), some (.int 1), some (.int l5), some (.int l6), some (.int (m 58 (((m 59 l1.toNatClampNeg) + l5).toNatClampNeg)))]) (S' := [.int (m 58 (((m 59 l1.toNatClampNeg) + l5).toNatClampNeg))]) (sh' := mz_sh) (m' := m40) (g := true) rfl rfl (rfl) ?_
        refine mz_go_call mz_m123 mz_m119 rfl rfl rfl rfl rfl rfl rfl h54 (fun v sh1 m55 hv => ?_)
        obtain ⟨r57, rfl, rfl, h56⟩ := hv
        refine mz_go_blk mz_m123 3 (pc' := 33) (L' := [some (.ref 55), some (.int l1), none, some (.int l3), some (.int 1), some (.int (l5 + 1)), some (.int r57), some (.int (m 58 (((m 59 l1.toNatClampNeg) + l5).toNatClampNeg)))]) (S' := []) (sh' := mz_sh) (m' := m55) (g := true) rfl rfl (rfl) ?_
        exact mz_go.forget (L := [some (.ref 55), some (.int l1), none, some (.int l3), some (.int 1), some (.int (l5 + 1)), some (.int r57), none]) (mz_lel_cons rfl (mz_lel_cons rfl (mz_lel_cons trivial (mz_lel_cons rfl (mz_lel_cons rfl (mz_lel_cons rfl (mz_lel_cons rfl (mz_lel_cons trivial (mz_lel_nil))))))))) h56
set_option maxRecDepth 100000 in
theorem t_M_makeFollows_0 {X : mz_X} {m : mz_M} {Q : mz_M → Prop}
    (h : mz_gv X mz_sh 124 9 [some (.ref 55), some (.int 1), none, none] (mz_up m 65 0 (vp_nar .boolean 1)) Q) :
    mz_gv X mz_sh 124 0 [some (.ref 55), none, none, none] m Q := by
  refine mz_go_blk mz_m124 7 (pc' := 9) (L' := [some (.ref 55), some (.int 1), none, none]) (S' := []) (sh' := mz_sh) (m' := mz_up m 65 0 (vp_nar .boolean 1)) (g := mz_inb 0 900 && true) rfl rfl (mz_and2 (by decide) (rfl)) ?_
  exact h
set_option maxRecDepth 100000 in
theorem t_M_makeFollows_1 {X : mz_X} {m : mz_M} {Q : mz_M → Prop} (l1 : Int32)
    (h : ((l1 = 0 → Q m) ∧ (¬ (l1 = 0) → mz_gv X mz_sh 124 17 [some (.ref 55), some (.int 0), some (.int 0), none] m Q))) :
    mz_gv X mz_sh 124 9 [some (.ref 55), some (.int l1), none, none] m Q := by
  refine mz_go_blk mz_m124 2 (pc' := (if l1 = 0 then 69 else 13)) (L' := [some (.ref 55), some (.int l1), none, none]) (S' := []) (sh' := mz_sh) (m' := m) (g := true) rfl rfl (rfl) ?_
  refine mz_go_if (fun c1 => ?_) (fun c1 => ?_)
  · have h2 := h.1 c1
    exact mz_go_ret mz_m124 rfl rfl rfl ⟨rfl, rfl, h2⟩
  · have h3 := h.2 c1
    refine mz_go_blk mz_m124 4 (pc' := 17) (L' := [some (.ref 55), some (.int 0), some (.int 0), none]) (S' := []) (sh' := mz_sh) (m' := m) (g := true) rfl rfl (rfl) ?_
    exact h3
set_option maxRecDepth 100000 in
theorem t_M_makeFollows_2 {X : mz_X} {m : mz_M} {Q : mz_M → Prop} (l1 : Int32) (l2 : Int32)
    (h : ((32 ≤ l2 → mz_gv X mz_sh 124 9 [some (.ref 55), some (.int l1), none, none] m Q) ∧ (¬ (32 ≤ l2) → mz_gv X mz_sh 124 25 [some (.ref 55), some (.int l1), some (.int l2), some (.int 0)] m Q))) :
    mz_gv X mz_sh 124 17 [some (.ref 55), some (.int l1), some (.int l2), none] m Q := by
  refine mz_go_blk mz_m124 3 (pc' := (if 32 ≤ l2 then 66 else 23)) (L' := [some (.ref 55), some (.int l1), some (.int l2), none]) (S' := []) (sh' := mz_sh) (m' := m) (g := true) rfl rfl (rfl) ?_
  refine mz_go_if (fun c1 => ?_) (fun c1 => ?_)
  · have h2 := h.1 c1
    refine mz_go_blk mz_m124 1 (pc' := 9) (L' := [some (.ref 55), some (.int l1), some (.int l2), none]) (S' := []) (sh' := mz_sh) (m' := m) (g := true) rfl rfl (rfl) ?_
    exact mz_go.forget (L := [some (.ref 55), some (.int l1), none, none]) (mz_lel_cons rfl (mz_lel_cons rfl (mz_lel_cons trivial (mz_lel_cons trivial (mz_lel_nil))))) h2
  · have h3 := h.2 c1
    refine mz_go_blk mz_m124 2 (pc' := 25) (L' := [some (.ref 55), some (.int l1), some (.int l2), some (.int 0)]) (S' := []) (sh' := mz_sh) (m' := m) (g := true) rfl rfl (rfl) ?_
    exact h3
set_option maxRecDepth 100000 in
theorem t_M_makeFollows_3 {X : mz_X} {m : mz_M} {Q : mz_M → Prop} (l1 : Int32) (l2 : Int32) (l3 : Int32)
    (h : mz_inb l2 32 = true ∧ (((m 57 l2.toNatClampNeg) ≤ l3 → mz_gv X mz_sh 124 17 [some (.ref 55), some (.int l1), some (.int (l2 + 1)), none] m Q) ∧ (¬ ((m 57 l2.toNatClampNeg) ≤ l3) → mz_gi X mz_sh 123 0 [some (.ref 55), some (.int l2), some (.int l3), none, none, none, none, none] m (fun r8 m6 => ((r8 = 0 → ((l1 = 0 → mz_gv X mz_sh 124 25 [some (.ref 55), some (.int 0), some (.int l2), some (.int (l3 + 1))] m6 Q) ∧ (¬ (l1 = 0) → mz_gv X mz_sh 124 25 [some (.ref 55), some (.int 1), some (.int l2), some (.int (l3 + 1))] m6 Q))) ∧ (¬ (r8 = 0) → mz_gv X mz_sh 124 25 [some (.ref 55), some (.int 1), some (.int l2), some (.int (l3 + 1))] m6 Q)))))) :
    mz_gv X mz_sh 124 25 [some (.ref 55), some (.int l1), some (.int l2), some (.int l3)] m Q := by
  obtain ⟨g1, h2⟩ := h
  refine mz_go_blk mz_m124 6 (pc' := (if (m 57 l2.toNatClampNeg) ≤ l3 then 60 else 35)) (L' := [some (.ref 55), some (.int l1), some (.int l2), some (.int l3)]) (S' := []) (sh' := mz_sh) (m' := m) (g := mz_inb l2 32 && true) rfl rfl (mz_and2 (g1) (rfl)) ?_
  refine mz_go_if (fun c3 => ?_) (fun c3 => ?_)
  · have h4 := h2.1 c3
    refine mz_go_blk mz_m124 2 (pc' := 17) (L' := [some (.ref 55), some (.int l1), some (.int (l2 + 1)), some (.int l3)]) (S' := []) (sh' := mz_sh) (m' := m) (g := true) rfl rfl (rfl) ?_
    exact mz_go.forget (L := [some (.ref 55), some (.int l1), some (.int (l2 + 1)), none]) (mz_lel_cons rfl (mz_lel_cons rfl (mz_lel_cons rfl (mz_lel_cons trivial (mz_lel_nil))))) h4
  · have h5 := h2.2 c3
    refine mz_go_blk mz_m124 3 (pc' := 38) (L' := [some (.ref 55), some (.int l1), some (.int l2), some (.int l3)]) (S' := [.int l3, .int l2, .ref 55]) (sh' := mz_sh) (m' := m) (g := true) rfl rfl (rfl) ?_
    refine mz_go_call mz_m124 mz_m123 rfl rfl rfl rfl rfl rfl rfl h5 (fun v sh1 m6 hv => ?_)
    obtain ⟨r8, rfl, rfl, h7⟩ := hv
    refine mz_go_blk mz_m124 1 (pc' := (if r8 = 0 then 44 else 48)) (L' := [some (.ref 55), some (.int l1), some (.int l2), some (.int l3)]) (S' := []) (sh' := mz_sh) (m' := m6) (g := true) rfl rfl (rfl) ?_
    refine mz_go_if (fun c9 => ?_) (fun c9 => ?_)
    · have h10 := h7.1 c9
      refine mz_go_blk mz_m124 2 (pc' := (if l1 = 0 then 52 else 48)) (L' := [some (.ref 55), some (.int l1), some (.int l2), some (.int l3)]) (S' := []) (sh' := mz_sh) (m' := m6) (g := true) rfl rfl (rfl) ?_
      refine mz_go_if (fun c11 => ?_) (fun c11 => ?_)
      · have h12 := h10.1 c11
        refine mz_go_blk mz_m124 4 (pc' := 25) (L' := [some (.ref 55), some (.int 0), some (.int l2), some (.int (l3 + 1))]) (S' := []) (sh' := mz_sh) (m' := m6) (g := true) rfl rfl (rfl) ?_
        exact h12
      · have h13 := h10.2 c11
        refine mz_go_blk mz_m124 5 (pc' := 25) (L' := [some (.ref 55), some (.int 1), some (.int l2), some (.int (l3 + 1))]) (S' := []) (sh' := mz_sh) (m' := m6) (g := true) rfl rfl (rfl) ?_
        exact h13
    · have h14 := h7.2 c9
      refine mz_go_blk mz_m124 5 (pc' := 25) (L' := [some (.ref 55), some (.int 1), some (.int l2), some (.int (l3 + 1))]) (S' := []) (sh' := mz_sh) (m' := m6) (g := true) rfl rfl (rfl) ?_
      exact h14
set_option maxRecDepth 100000 in
theorem t_M_behindPoint_0 {X : mz_X} {m : mz_M} {Q : Int32 → mz_M → Prop} (a1 : Int32) (a2 : Int32)
    (h : mz_inb a1 32 = true ∧ (((m 57 a1.toNatClampNeg) ≤ a2 → Q (-1) m) ∧ (¬ ((m 57 a1.toNatClampNeg) ≤ a2) → mz_inb a1 33 = true ∧ mz_inb ((m 59 a1.toNatClampNeg) + a2) 77 = true ∧ Q (m 58 (((m 59 a1.toNatClampNeg) + a2).toNatClampNeg)) m))) :
    mz_gi X mz_sh 125 0 [some (.ref 55), some (.int a1), some (.int a2)] m Q := by
  obtain ⟨g1, h2⟩ := h
  refine mz_go_blk mz_m125 6 (pc' := (if (m 57 a1.toNatClampNeg) ≤ a2 then 26 else 10)) (L' := [some (.ref 55), some (.int a1), some (.int a2)]) (S' := []) (sh' := mz_sh) (m' := m) (g := mz_inb a1 32 && true) rfl rfl (mz_and2 (g1) (rfl)) ?_
  refine mz_go_if (fun c3 => ?_) (fun c3 => ?_)
  · have h4 := h2.1 c3
    refine mz_go_blk mz_m125 1 (pc' := 27) (L' := [some (.ref 55), some (.int a1), some (.int a2)]) (S' := [.int (-1)]) (sh' := mz_sh) (m' := m) (g := true) rfl rfl (rfl) ?_
    exact mz_go_ret mz_m125 rfl rfl rfl ⟨_, rfl, rfl, h4⟩
  · have h5 := h2.2 c3
    obtain ⟨g6, g7, h8⟩ := h5
    refine mz_go_blk mz_m125 10 (pc' := 27) (L' := [some (.ref 55), some (.int a1), some (.int a2)]) (S' := [.int (m 58 (((m 59 a1.toNatClampNeg) + a2).toNatClampNeg))]) (sh' := mz_sh) (m' := m) (g := mz_inb ((m 59 a1.toNatClampNeg) + a2) 77 && (mz_inb a1 33 && true)) rfl rfl (mz_and2 (g7) (mz_and2 (g6) (rfl))) ?_
    exact mz_go_ret mz_m125 rfl rfl rfl ⟨_, rfl, rfl, h8⟩
set_option maxRecDepth 100000 in
theorem t_M_close_0 {X : mz_X} {m : mz_M} {Q : mz_M → Prop}
    (h : mz_gv X mz_sh 126 2 [some (.ref 55), some (.int 1), none, none] m Q) :
    mz_gv X mz_sh 126 0 [some (.ref 55), none, none, none] m Q := by
  refine mz_go_blk mz_m126 2 (pc' := 2) (L' := [some (.ref 55), some (.int 1), none, none]) (S' := []) (sh' := mz_sh) (m' := m) (g := true) rfl rfl (rfl) ?_
  exact h
set_option maxRecDepth 100000 in
theorem t_M_close_1 {X : mz_X} {m : mz_M} {Q : mz_M → Prop} (l1 : Int32)
    (h : ((l1 = 0 → Q m) ∧ (¬ (l1 = 0) → mz_gv X mz_sh 126 10 [some (.ref 55), some (.int 0), some (.int 0), none] m Q))) :
    mz_gv X mz_sh 126 2 [some (.ref 55), some (.int l1), none, none] m Q := by
  refine mz_go_blk mz_m126 2 (pc' := (if l1 = 0 then 82 else 6)) (L' := [some (.ref 55), some (.int l1), none, none]) (S' := []) (sh' := mz_sh) (m' := m) (g := true) rfl rfl (rfl) ?_
  refine mz_go_if (fun c1 => ?_) (fun c1 => ?_)
  · have h2 := h.1 c1
    exact mz_go_ret mz_m126 rfl rfl rfl ⟨rfl, rfl, h2⟩
  · have h3 := h.2 c1
    refine mz_go_blk mz_m126 4 (pc' := 10) (L' := [some (.ref 55), some (.int 0), some (.int 0), none]) (S' := []) (sh' := mz_sh) (m' := m) (g := true) rfl rfl (rfl) ?_
    exact h3
set_option maxRecDepth 100000 in
theorem t_M_close_2 {X : mz_X} {m : mz_M} {Q : mz_M → Prop} (l1 : Int32) (l2 : Int32)
    (h : ((32 ≤ l2 → mz_gv X mz_sh 126 2 [some (.ref 55), some (.int l1), none, none] m Q) ∧ (¬ (32 ≤ l2) → mz_gv X mz_sh 126 18 [some (.ref 55), some (.int l1), some (.int l2), some (.int 0)] m Q))) :
    mz_gv X mz_sh 126 10 [some (.ref 55), some (.int l1), some (.int l2), none] m Q := by
  refine mz_go_blk mz_m126 3 (pc' := (if 32 ≤ l2 then 79 else 16)) (L' := [some (.ref 55), some (.int l1), some (.int l2), none]) (S' := []) (sh' := mz_sh) (m' := m) (g := true) rfl rfl (rfl) ?_
  refine mz_go_if (fun c1 => ?_) (fun c1 => ?_)
  · have h2 := h.1 c1
    refine mz_go_blk mz_m126 1 (pc' := 2) (L' := [some (.ref 55), some (.int l1), some (.int l2), none]) (S' := []) (sh' := mz_sh) (m' := m) (g := true) rfl rfl (rfl) ?_
    exact mz_go.forget (L := [some (.ref 55), some (.int l1), none, none]) (mz_lel_cons rfl (mz_lel_cons rfl (mz_lel_cons trivial (mz_lel_cons trivial (mz_lel_nil))))) h2
  · have h3 := h.2 c1
    refine mz_go_blk mz_m126 2 (pc' := 18) (L' := [some (.ref 55), some (.int l1), some (.int l2), some (.int 0)]) (S' := []) (sh' := mz_sh) (m' := m) (g := true) rfl rfl (rfl) ?_
    exact h3
set_option maxRecDepth 100000 in
theorem t_M_close_3 {X : mz_X} {m : mz_M} {Q : mz_M → Prop} (l1 : Int32) (l2 : Int32) (l3 : Int32)
    (h : mz_inb l2 32 = true ∧ (((m 57 l2.toNatClampNeg) < l3 → mz_gv X mz_sh 126 10 [some (.ref 55), some (.int l1), some (.int (l2 + 1)), none] m Q) ∧ (¬ ((m 57 l2.toNatClampNeg) < l3) → mz_inb l2 33 = true ∧ mz_inb ((m 60 l2.toNatClampNeg) + l3) 109 = true ∧ (((m 63 (((m 60 l2.toNatClampNeg) + l3).toNatClampNeg)) = 0 → ((l1 = 0 → mz_gv X mz_sh 126 18 [some (.ref 55), some (.int 0), some (.int l2), some (.int (l3 + 1))] m Q) ∧ (¬ (l1 = 0) → mz_gv X mz_sh 126 18 [some (.ref 55), some (.int 1), some (.int l2), some (.int (l3 + 1))] m Q))) ∧ (¬ ((m 63 (((m 60 l2.toNatClampNeg) + l3).toNatClampNeg)) = 0) → mz_gi X mz_sh 125 0 [some (.ref 55), some (.int l2), some (.int l3)] m (fun r17 m15 => mz_gi X mz_sh 127 0 [some (.ref 55), some (.int r17), none, none] m15 (fun r20 m18 => ((r20 = 0 → ((l1 = 0 → mz_gv X mz_sh 126 18 [some (.ref 55), some (.int 0), some (.int l2), some (.int (l3 + 1))] m18 Q) ∧ (¬ (l1 = 0) → mz_gv X mz_sh 126 18 [some (.ref 55), some (.int 1), some (.int l2), some (.int (l3 + 1))] m18 Q))) ∧ (¬ (r20 = 0) → mz_gv X mz_sh 126 18 [some (.ref 55), some (.int 1), some (.int l2), some (.int (l3 + 1))] m18 Q))))))))) :
    mz_gv X mz_sh 126 18 [some (.ref 55), some (.int l1), some (.int l2), some (.int l3)] m Q := by
  obtain ⟨g1, h2⟩ := h
  refine mz_go_blk mz_m126 6 (pc' := (if (m 57 l2.toNatClampNeg) < l3 then 73 else 28)) (L' := [some (.ref 55), some (.int l1), some (.int l2), some (.int l3)]) (S' := []) (sh' := mz_sh) (m' := m) (g := mz_inb l2 32 && true) rfl rfl (mz_and2 (g1) (rfl)) ?_
  refine mz_go_if (fun c3 => ?_) (fun c3 => ?_)
  · have h4 := h2.1 c3
    refine mz_go_blk mz_m126 2 (pc' := 10) (L' := [some (.ref 55), some (.int l1), some (.int (l2 + 1)), some (.int l3)]) (S' := []) (sh' := mz_sh) (m' := m) (g := true) rfl rfl (rfl) ?_
    exact mz_go.forget (L := [some (.ref 55), some (.int l1), some (.int (l2 + 1)), none]) (mz_lel_cons rfl (mz_lel_cons rfl (mz_lel_cons rfl (mz_lel_cons trivial (mz_lel_nil))))) h4
  · have h5 := h2.2 c3
    obtain ⟨g6, g7, h8⟩ := h5
    refine mz_go_blk mz_m126 10 (pc' := (if (m 63 (((m 60 l2.toNatClampNeg) + l3).toNatClampNeg)) = 0 then 57 else 44)) (L' := [some (.ref 55), some (.int l1), some (.int l2), some (.int l3)]) (S' := []) (sh' := mz_sh) (m' := m) (g := mz_inb ((m 60 l2.toNatClampNeg) + l3) 109 && (mz_inb l2 33 && true)) rfl rfl (mz_and2 (g7) (mz_and2 (g6) (rfl))) ?_
    refine mz_go_if (fun c9 => ?_) (fun c9 => ?_)
    · have h10 := h8.1 c9
      refine mz_go_blk mz_m126 2 (pc' := (if l1 = 0 then 65 else 61)) (L' := [some (.ref 55), some (.int l1), some (.int l2), some (.int l3)]) (S' := []) (sh' := mz_sh) (m' := m) (g := true) rfl rfl (rfl) ?_
      refine mz_go_if (fun c11 => ?_) (fun c11 => ?_)
      · have h12 := h10.1 c11
        refine mz_go_blk mz_m126 4 (pc' := 18) (L' := [some (.ref 55), some (.int 0), some (.int l2), some (.int (l3 + 1))]) (S' := []) (sh' := mz_sh) (m' := m) (g := true) rfl rfl (rfl) ?_
        exact h12
      · have h13 := h10.2 c11
        refine mz_go_blk mz_m126 5 (pc' := 18) (L' := [some (.ref 55), some (.int 1), some (.int l2), some (.int (l3 + 1))]) (S' := []) (sh' := mz_sh) (m' := m) (g := true) rfl rfl (rfl) ?_
        exact h13
    · have h14 := h8.2 c9
      refine mz_go_blk mz_m126 4 (pc' := 48) (L' := [some (.ref 55), some (.int l1), some (.int l2), some (.int l3)]) (S' := [.int l3, .int l2, .ref 55, .ref 55]) (sh' := mz_sh) (m' := m) (g := true) rfl rfl (rfl) ?_
      refine mz_go_call mz_m126 mz_m125 rfl rfl rfl rfl rfl rfl rfl h14 (fun v sh1 m15 hv => ?_)
      obtain ⟨r17, rfl, rfl, h16⟩ := hv
      refine mz_go_call mz_m126 mz_m127 rfl rfl rfl rfl rfl rfl rfl h16 (fun v sh1 m18 hv => ?_)
      obtain ⟨r20, rfl, rfl, h19⟩ := hv
      refine mz_go_blk mz_m126 1 (pc' := (if r20 = 0 then 57 else 61)) (L' := [some (.ref 55), some (.int l1), some (.int l2), some (.int l3)]) (S' := []) (sh' := mz_sh) (m' := m18) (g := true) rfl rfl (rfl) ?_
      refine mz_go_if (fun c21 => ?_) (fun c21 => ?_)
      · have h22 := h19.1 c21
        refine mz_go_blk mz_m126 2 (pc' := (if l1 = 0 then 65 else 61)) (L' := [some (.ref 55), some (.int l1), some (.int l2), some (.int l3)]) (S' := []) (sh' := mz_sh) (m' := m18) (g := true) rfl rfl (rfl) ?_
        refine mz_go_if (fun c23 => ?_) (fun c23 => ?_)
        · have h24 := h22.1 c23
          refine mz_go_blk mz_m126 4 (pc' := 18) (L' := [some (.ref 55), some (.int 0), some (.int l2), some (.int (l3 + 1))]) (S' := []) (sh' := mz_sh) (m' := m18) (g := true) rfl rfl (rfl) ?_
          exact h24
        · have h25 := h22.2 c23
          refine mz_go_blk mz_m126 5 (pc' := 18) (L' := [some (.ref 55), some (.int 1), some (.int l2), some (.int (l3 + 1))]) (S' := []) (sh' := mz_sh) (m' := m18) (g := true) rfl rfl (rfl) ?_
          exact h25
      · have h26 := h19.2 c21
        refine mz_go_blk mz_m126 5 (pc' := 18) (L' := [some (.ref 55), some (.int 1), some (.int l2), some (.int (l3 + 1))]) (S' := []) (sh' := mz_sh) (m' := m18) (g := true) rfl rfl (rfl) ?_
        exact h26
set_option maxRecDepth 100000 in
theorem t_M_open_0 {X : mz_X} {m : mz_M} {Q : Int32 → mz_M → Prop} (a1 : Int32)
    (h : mz_gi X mz_sh 127 4 [some (.ref 55), some (.int a1), some (.int 0), some (.int 0)] m Q) :
    mz_gi X mz_sh 127 0 [some (.ref 55), some (.int a1), none, none] m Q := by
  refine mz_go_blk mz_m127 4 (pc' := 4) (L' := [some (.ref 55), some (.int a1), some (.int 0), some (.int 0)]) (S' := []) (sh' := mz_sh) (m' := m) (g := true) rfl rfl (rfl) ?_
  exact h
set_option maxRecDepth 100000 in
theorem t_M_open_1 {X : mz_X} {m : mz_M} {Q : Int32 → mz_M → Prop} (l1 : Int32) (l2 : Int32) (l3 : Int32)
    (h : ((32 ≤ l3 → (l2 = 0 ∨ l2 = 1) ∧ Q l2 m) ∧ (¬ (32 ≤ l3) → ((l1 < 25 → (l2 = 0 ∨ l2 = 1) ∧ Q l2 m) ∧ (¬ (l1 < 25) → mz_inb l3 32 = true ∧ (((m 56 l3.toNatClampNeg) = l1 → mz_inb l3 33 = true ∧ mz_inb (m 60 l3.toNatClampNeg) 109 = true ∧ (((m 63 ((m 60 l3.toNatClampNeg).toNatClampNeg)) = 0 → mz_inb l3 33 = true ∧ mz_inb (m 60 l3.toNatClampNeg) 109 = true ∧ mz_gi X mz_sh 127 4 [some (.ref 55), some (.int l1), some (.int 1), some (.int (l3 + 1))] (mz_up m 63 ((m 60 l3.toNatClampNeg).toNatClampNeg) (vp_nar .boolean 1)) Q) ∧ (¬ ((m 63 ((m 60 l3.toNatClampNeg).toNatClampNeg)) = 0) → mz_gi X mz_sh 127 4 [some (.ref 55), some (.int l1), some (.int l2), some (.int (l3 + 1))] m Q))) ∧ (¬ ((m 56 l3.toNatClampNeg) = l1) → mz_gi X mz_sh 127 4 [some (.ref 55), some (.int l1), some (.int l2), some (.int (l3 + 1))] m Q))))))) :
    mz_gi X mz_sh 127 4 [some (.ref 55), some (.int l1), some (.int l2), some (.int l3)] m Q := by
  refine mz_go_blk mz_m127 3 (pc' := (if 32 ≤ l3 then 60 else 10)) (L' := [some (.ref 55), some (.int l1), some (.int l2), some (.int l3)]) (S' := []) (sh' := mz_sh) (m' := m) (g := true) rfl rfl (rfl) ?_
  refine mz_go_if (fun c1 => ?_) (fun c1 => ?_)
  · have h2 := h.1 c1
    refine mz_go_blk mz_m127 1 (pc' := 61) (L' := [some (.ref 55), some (.int l1), some (.int l2), some (.int l3)]) (S' := [.int l2]) (sh' := mz_sh) (m' := m) (g := true) rfl rfl (rfl) ?_
    exact mz_go_ret mz_m127 rfl rfl (mz_rtb h2.1) ⟨_, rfl, rfl, h2.2⟩
  · have h3 := h.2 c1
    refine mz_go_blk mz_m127 3 (pc' := (if l1 < 25 then 60 else 16)) (L' := [some (.ref 55), some (.int l1), some (.int l2), some (.int l3)]) (S' := []) (sh' := mz_sh) (m' := m) (g := true) rfl rfl (rfl) ?_
    refine mz_go_if (fun c4 => ?_) (fun c4 => ?_)
    · have h5 := h3.1 c4
      refine mz_go_blk mz_m127 1 (pc' := 61) (L' := [some (.ref 55), some (.int l1), some (.int l2), some (.int l3)]) (S' := [.int l2]) (sh' := mz_sh) (m' := m) (g := true) rfl rfl (rfl) ?_
      exact mz_go_ret mz_m127 rfl rfl (mz_rtb h5.1) ⟨_, rfl, rfl, h5.2⟩
    · have h6 := h3.2 c4
      obtain ⟨g7, h8⟩ := h6
      refine mz_go_blk mz_m127 6 (pc' := (if (m 56 l3.toNatClampNeg) = l1 then 26 else 54)) (L' := [some (.ref 55), some (.int l1), some (.int l2), some (.int l3)]) (S' := []) (sh' := mz_sh) (m' := m) (g := mz_inb l3 32 && true) rfl rfl (mz_and2 (g7) (rfl)) ?_
      refine mz_go_if (fun c9 => ?_) (fun c9 => ?_)
      · have h10 := h8.1 c9
        obtain ⟨g11, g12, h13⟩ := h10
        refine mz_go_blk mz_m127 8 (pc' := (if (m 63 ((m 60 l3.toNatClampNeg).toNatClampNeg)) = 0 then 40 else 54)) (L' := [some (.ref 55), some (.int l1), some (.int l2), some (.int l3)]) (S' := []) (sh' := mz_sh) (m' := m) (g := mz_inb (m 60 l3.toNatClampNeg) 109 && (mz_inb l3 33 && true)) rfl rfl (mz_and2 (g12) (mz_and2 (g11) (rfl))) ?_
        refine mz_go_if (fun c14 => ?_) (fun c14 => ?_)
        · have h15 := h13.1 c14
          obtain ⟨g16, g17, h18⟩ := h15
          refine mz_go_blk mz_m127 12 (pc' := 4) (L' := [some (.ref 55), some (.int l1), some (.int 1), some (.int (l3 + 1))]) (S' := []) (sh' := mz_sh) (m' := mz_up m 63 ((m 60 l3.toNatClampNeg).toNatClampNeg) (vp_nar .boolean 1)) (g := mz_inb (m 60 l3.toNatClampNeg) 109 && (mz_inb l3 33 && true)) rfl rfl (mz_and2 (g17) (mz_and2 (g16) (rfl))) ?_
          exact h18
        · have h19 := h13.2 c14
          refine mz_go_blk mz_m127 2 (pc' := 4) (L' := [some (.ref 55), some (.int l1), some (.int l2), some (.int (l3 + 1))]) (S' := []) (sh' := mz_sh) (m' := m) (g := true) rfl rfl (rfl) ?_
          exact h19
      · have h20 := h8.2 c9
        refine mz_go_blk mz_m127 2 (pc' := 4) (L' := [some (.ref 55), some (.int l1), some (.int l2), some (.int (l3 + 1))]) (S' := []) (sh' := mz_sh) (m' := m) (g := true) rfl rfl (rfl) ?_
        exact h20
set_option maxRecDepth 100000 in
theorem t_M_numberSet_0 {X : mz_X} {m : mz_M} {Q : Int32 → mz_M → Prop}
    (h : mz_gv X mz_sh 126 0 [some (.ref 55), none, none, none] m (fun m1 => mz_gi X mz_sh 128 6 [some (.ref 55), some (.int 0), none, none] m1 Q)) :
    mz_gi X mz_sh 128 0 [some (.ref 55), none, none, none] m Q := by
  refine mz_go_blk mz_m128 1 (pc' := 1) (L' := [some (.ref 55), none, none, none]) (S' := [.ref 55]) (sh' := mz_sh) (m' := m) (g := true) rfl rfl (rfl) ?_
  refine mz_go_call mz_m128 mz_m126 rfl rfl rfl rfl rfl rfl rfl h (fun v sh1 m1 hv => ?_)
  obtain ⟨rfl, rfl, h2⟩ := hv
  refine mz_go_blk mz_m128 2 (pc' := 6) (L' := [some (.ref 55), some (.int 0), none, none]) (S' := []) (sh' := mz_sh) (m' := m1) (g := true) rfl rfl (rfl) ?_
  exact h2
set_option maxRecDepth 100000 in
theorem t_M_numberSet_1 {X : mz_X} {m : mz_M} {Q : Int32 → mz_M → Prop} (l1 : Int32)
    (h : (((m 55 7) ≤ l1 → mz_gi X mz_sh 128 74 [some (.ref 55), some (.int 0), none, none] m Q) ∧ (¬ ((m 55 7) ≤ l1) → mz_gi X mz_sh 128 18 [some (.ref 55), some (.int l1), some (.int 1), some (.int 0)] m Q))) :
    mz_gi X mz_sh 128 6 [some (.ref 55), some (.int l1), none, none] m Q := by
  refine mz_go_blk mz_m128 4 (pc' := (if (m 55 7) ≤ l1 then 72 else 14)) (L' := [some (.ref 55), some (.int l1), none, none]) (S' := []) (sh' := mz_sh) (m' := m) (g := true) rfl rfl (rfl) ?_
  refine mz_go_if (fun c1 => ?_) (fun c1 => ?_)
  · have h2 := h.1 c1
    refine mz_go_blk mz_m128 2 (pc' := 74) (L' := [some (.ref 55), some (.int 0), none, none]) (S' := []) (sh' := mz_sh) (m' := m) (g := true) rfl rfl (rfl) ?_
    exact h2
  · have h3 := h.2 c1
    refine mz_go_blk mz_m128 4 (pc' := 18) (L' := [some (.ref 55), some (.int l1), some (.int 1), some (.int 0)]) (S' := []) (sh' := mz_sh) (m' := m) (g := true) rfl rfl (rfl) ?_
    exact h3
set_option maxRecDepth 100000 in
theorem t_M_numberSet_2 {X : mz_X} {m : mz_M} {Q : Int32 → mz_M → Prop} (l1 : Int32) (l2 : Int32) (l3 : Int32)
    (h : ((109 ≤ l3 → ((l2 = 0 → mz_gi X mz_sh 128 6 [some (.ref 55), some (.int (l1 + 1)), none, none] m Q) ∧ (¬ (l2 = 0) → Q l1 m))) ∧ (¬ (109 ≤ l3) → ((l2 = 0 → ((l2 = 0 → mz_gi X mz_sh 128 6 [some (.ref 55), some (.int (l1 + 1)), none, none] m Q) ∧ (¬ (l2 = 0) → Q l1 m))) ∧ (¬ (l2 = 0) → mz_inb ((109 * l1) + l3) 13080 = true ∧ mz_inb l3 109 = true ∧ (((m 61 (((109 * l1) + l3).toNatClampNeg)) = (m 63 l3.toNatClampNeg) → mz_gi X mz_sh 128 18 [some (.ref 55), some (.int l1), some (.int 1), some (.int (l3 + 1))] m Q) ∧ (¬ ((m 61 (((109 * l1) + l3).toNatClampNeg)) = (m 63 l3.toNatClampNeg)) → mz_gi X mz_sh 128 18 [some (.ref 55), some (.int l1), some (.int 0), some (.int (l3 + 1))] m Q))))))) :
    mz_gi X mz_sh 128 18 [some (.ref 55), some (.int l1), some (.int l2), some (.int l3)] m Q := by
  refine mz_go_blk mz_m128 3 (pc' := (if 109 ≤ l3 then 60 else 24)) (L' := [some (.ref 55), some (.int l1), some (.int l2), some (.int l3)]) (S' := []) (sh' := mz_sh) (m' := m) (g := true) rfl rfl (rfl) ?_
  refine mz_go_if (fun c1 => ?_) (fun c1 => ?_)
  · have h2 := h.1 c1
    refine mz_go_blk mz_m128 2 (pc' := (if l2 = 0 then 66 else 64)) (L' := [some (.ref 55), some (.int l1), some (.int l2), some (.int l3)]) (S' := []) (sh' := mz_sh) (m' := m) (g := true) rfl rfl (rfl) ?_
    refine mz_go_if (fun c3 => ?_) (fun c3 => ?_)
    · have h4 := h2.1 c3
      refine mz_go_blk mz_m128 2 (pc' := 6) (L' := [some (.ref 55), some (.int (l1 + 1)), some (.int l2), some (.int l3)]) (S' := []) (sh' := mz_sh) (m' := m) (g := true) rfl rfl (rfl) ?_
      exact mz_go.forget (L := [some (.ref 55), some (.int (l1 + 1)), none, none]) (mz_lel_cons rfl (mz_lel_cons rfl (mz_lel_cons trivial (mz_lel_cons trivial (mz_lel_nil))))) h4
    · have h5 := h2.2 c3
      refine mz_go_blk mz_m128 1 (pc' := 65) (L' := [some (.ref 55), some (.int l1), some (.int l2), some (.int l3)]) (S' := [.int l1]) (sh' := mz_sh) (m' := m) (g := true) rfl rfl (rfl) ?_
      exact mz_go_ret mz_m128 rfl rfl rfl ⟨_, rfl, rfl, h5⟩
  · have h6 := h.2 c1
    refine mz_go_blk mz_m128 2 (pc' := (if l2 = 0 then 60 else 28)) (L' := [some (.ref 55), some (.int l1), some (.int l2), some (.int l3)]) (S' := []) (sh' := mz_sh) (m' := m) (g := true) rfl rfl (rfl) ?_
    refine mz_go_if (fun c7 => ?_) (fun c7 => ?_)
    · have h8 := h6.1 c7
      refine mz_go_blk mz_m128 2 (pc' := (if l2 = 0 then 66 else 64)) (L' := [some (.ref 55), some (.int l1), some (.int l2), some (.int l3)]) (S' := []) (sh' := mz_sh) (m' := m) (g := true) rfl rfl (rfl) ?_
      refine mz_go_if (fun c9 => ?_) (fun c9 => ?_)
      · have h10 := h8.1 c9
        refine mz_go_blk mz_m128 2 (pc' := 6) (L' := [some (.ref 55), some (.int (l1 + 1)), some (.int l2), some (.int l3)]) (S' := []) (sh' := mz_sh) (m' := m) (g := true) rfl rfl (rfl) ?_
        exact mz_go.forget (L := [some (.ref 55), some (.int (l1 + 1)), none, none]) (mz_lel_cons rfl (mz_lel_cons rfl (mz_lel_cons trivial (mz_lel_cons trivial (mz_lel_nil))))) h10
      · have h11 := h8.2 c9
        refine mz_go_blk mz_m128 1 (pc' := 65) (L' := [some (.ref 55), some (.int l1), some (.int l2), some (.int l3)]) (S' := [.int l1]) (sh' := mz_sh) (m' := m) (g := true) rfl rfl (rfl) ?_
        exact mz_go_ret mz_m128 rfl rfl rfl ⟨_, rfl, rfl, h11⟩
    · have h12 := h6.2 c7
      obtain ⟨g13, g14, h15⟩ := h12
      refine mz_go_blk mz_m128 13 (pc' := (if (m 61 (((109 * l1) + l3).toNatClampNeg)) = (m 63 l3.toNatClampNeg) then 48 else 52)) (L' := [some (.ref 55), some (.int l1), some (.int l2), some (.int l3)]) (S' := []) (sh' := mz_sh) (m' := m) (g := mz_inb l3 109 && (mz_inb ((109 * l1) + l3) 13080 && true)) rfl rfl (mz_and2 (g14) (mz_and2 (g13) (rfl))) ?_
      refine mz_go_if (fun c16 => ?_) (fun c16 => ?_)
      · have h17 := h15.1 c16
        refine mz_go_blk mz_m128 5 (pc' := 18) (L' := [some (.ref 55), some (.int l1), some (.int 1), some (.int (l3 + 1))]) (S' := []) (sh' := mz_sh) (m' := m) (g := true) rfl rfl (rfl) ?_
        exact h17
      · have h18 := h15.2 c16
        refine mz_go_blk mz_m128 4 (pc' := 18) (L' := [some (.ref 55), some (.int l1), some (.int 0), some (.int (l3 + 1))]) (S' := []) (sh' := mz_sh) (m' := m) (g := true) rfl rfl (rfl) ?_
        exact h18
set_option maxRecDepth 100000 in
theorem t_M_numberSet_3 {X : mz_X} {m : mz_M} {Q : Int32 → mz_M → Prop} (l1 : Int32)
    (h : ((109 ≤ l1 → Q (((m 55 7) + 1) - 1) (mz_up m 55 7 ((m 55 7) + 1))) ∧ (¬ (109 ≤ l1) → mz_inb l1 109 = true ∧ mz_inb ((109 * (m 55 7)) + l1) 13080 = true ∧ mz_gi X mz_sh 128 74 [some (.ref 55), some (.int (l1 + 1)), none, none] (mz_up m 61 (((109 * (m 55 7)) + l1).toNatClampNeg) (vp_nar .boolean (m 63 l1.toNatClampNeg))) Q))) :
    mz_gi X mz_sh 128 74 [some (.ref 55), some (.int l1), none, none] m Q := by
  refine mz_go_blk mz_m128 3 (pc' := (if 109 ≤ l1 then 106 else 80)) (L' := [some (.ref 55), some (.int l1), none, none]) (S' := []) (sh' := mz_sh) (m' := m) (g := true) rfl rfl (rfl) ?_
  refine mz_go_if (fun c1 => ?_) (fun c1 => ?_)
  · have h2 := h.1 c1
    refine mz_go_blk mz_m128 10 (pc' := 122) (L' := [some (.ref 55), some (.int l1), none, none]) (S' := [.int (((m 55 7) + 1) - 1)]) (sh' := mz_sh) (m' := mz_up m 55 7 ((m 55 7) + 1)) (g := true) rfl rfl (rfl) ?_
    exact mz_go_ret mz_m128 rfl rfl rfl ⟨_, rfl, rfl, h2⟩
  · have h3 := h.2 c1
    obtain ⟨g4, g5, h6⟩ := h3
    refine mz_go_blk mz_m128 15 (pc' := 74) (L' := [some (.ref 55), some (.int (l1 + 1)), none, none]) (S' := []) (sh' := mz_sh) (m' := mz_up m 61 (((109 * (m 55 7)) + l1).toNatClampNeg) (vp_nar .boolean (m 63 l1.toNatClampNeg))) (g := mz_inb ((109 * (m 55 7)) + l1) 13080 && (mz_inb l1 109 && true)) rfl rfl (mz_and2 (g5) (mz_and2 (g4) (rfl))) ?_
    exact h6
set_option maxRecDepth 100000 in
theorem t_M_move_0 {X : mz_X} {m : mz_M} {Q : Int32 → mz_M → Prop} (a1 : Int32) (a2 : Int32)
    (h : mz_gi X mz_sh 129 5 [some (.ref 55), some (.int a1), some (.int a2), some (.int 0), some (.int 0), none] m Q) :
    mz_gi X mz_sh 129 0 [some (.ref 55), some (.int a1), some (.int a2), none, none, none] m Q := by
  refine mz_go_blk mz_m129 4 (pc' := 5) (L' := [some (.ref 55), some (.int a1), some (.int a2), some (.int 0), some (.int 0), none]) (S' := []) (sh' := mz_sh) (m' := m) (g := true) rfl rfl (rfl) ?_
  exact h
set_option maxRecDepth 100000 in
theorem t_M_move_1 {X : mz_X} {m : mz_M} {Q : Int32 → mz_M → Prop} (l1 : Int32) (l2 : Int32) (l3 : Int32) (l4 : Int32)
    (h : ((109 ≤ l4 → mz_gi X mz_sh 129 29 [some (.ref 55), some (.int l1), some (.int l2), some (.int l3), some (.int 0), none] m Q) ∧ (¬ (109 ≤ l4) → mz_inb l4 109 = true ∧ mz_gi X mz_sh 129 5 [some (.ref 55), some (.int l1), some (.int l2), some (.int l3), some (.int (l4 + 1)), none] (mz_up m 63 l4.toNatClampNeg (vp_nar .boolean 0)) Q))) :
    mz_gi X mz_sh 129 5 [some (.ref 55), some (.int l1), some (.int l2), some (.int l3), some (.int l4), none] m Q := by
  refine mz_go_blk mz_m129 3 (pc' := (if 109 ≤ l4 then 26 else 12)) (L' := [some (.ref 55), some (.int l1), some (.int l2), some (.int l3), some (.int l4), none]) (S' := []) (sh' := mz_sh) (m' := m) (g := true) rfl rfl (rfl) ?_
  refine mz_go_if (fun c1 => ?_) (fun c1 => ?_)
  · have h2 := h.1 c1
    refine mz_go_blk mz_m129 2 (pc' := 29) (L' := [some (.ref 55), some (.int l1), some (.int l2), some (.int l3), some (.int 0), none]) (S' := []) (sh' := mz_sh) (m' := m) (g := true) rfl rfl (rfl) ?_
    exact h2
  · have h3 := h.2 c1
    obtain ⟨g4, h5⟩ := h3
    refine mz_go_blk mz_m129 7 (pc' := 5) (L' := [some (.ref 55), some (.int l1), some (.int l2), some (.int l3), some (.int (l4 + 1)), none]) (S' := []) (sh' := mz_sh) (m' := mz_up m 63 l4.toNatClampNeg (vp_nar .boolean 0)) (g := mz_inb l4 109 && true) rfl rfl (mz_and2 (g4) (rfl)) ?_
    exact h5
set_option maxRecDepth 100000 in
theorem t_M_move_2 {X : mz_X} {m : mz_M} {Q : Int32 → mz_M → Prop} (l1 : Int32) (l2 : Int32) (l3 : Int32) (l4 : Int32)
    (h : ((32 ≤ l4 → ((l3 = 0 → Q (-1) m) ∧ (¬ (l3 = 0) → mz_gi X mz_sh 128 0 [some (.ref 55), none, none, none] m (fun r8 m6 => Q r8 m6)))) ∧ (¬ (32 ≤ l4) → mz_gi X mz_sh 129 39 [some (.ref 55), some (.int l1), some (.int l2), some (.int l3), some (.int l4), some (.int 0)] m Q))) :
    mz_gi X mz_sh 129 29 [some (.ref 55), some (.int l1), some (.int l2), some (.int l3), some (.int l4), none] m Q := by
  refine mz_go_blk mz_m129 3 (pc' := (if 32 ≤ l4 then 118 else 36)) (L' := [some (.ref 55), some (.int l1), some (.int l2), some (.int l3), some (.int l4), none]) (S' := []) (sh' := mz_sh) (m' := m) (g := true) rfl rfl (rfl) ?_
  refine mz_go_if (fun c1 => ?_) (fun c1 => ?_)
  · have h2 := h.1 c1
    refine mz_go_blk mz_m129 2 (pc' := (if l3 = 0 then 129 else 122)) (L' := [some (.ref 55), some (.int l1), some (.int l2), some (.int l3), some (.int l4), none]) (S' := []) (sh' := mz_sh) (m' := m) (g := true) rfl rfl (rfl) ?_
    refine mz_go_if (fun c3 => ?_) (fun c3 => ?_)
    · have h4 := h2.1 c3
      refine mz_go_blk mz_m129 1 (pc' := 130) (L' := [some (.ref 55), some (.int l1), some (.int l2), some (.int l3), some (.int l4), none]) (S' := [.int (-1)]) (sh' := mz_sh) (m' := m) (g := true) rfl rfl (rfl) ?_
      exact mz_go_ret mz_m129 rfl rfl rfl ⟨_, rfl, rfl, h4⟩
    · have h5 := h2.2 c3
      refine mz_go_blk mz_m129 1 (pc' := 123) (L' := [some (.ref 55), some (.int l1), some (.int l2), some (.int l3), some (.int l4), none]) (S' := [.ref 55]) (sh' := mz_sh) (m' := m) (g := true) rfl rfl (rfl) ?_
      refine mz_go_call mz_m129 mz_m128 rfl rfl rfl rfl rfl rfl rfl h5 (fun v sh1 m6 hv => ?_)
      obtain ⟨r8, rfl, rfl, h7⟩ := hv
      refine mz_go_blk mz_m129 1 (pc' := 130) (L' := [some (.ref 55), some (.int l1), some (.int l2), some (.int l3), some (.int l4), none]) (S' := [.int r8]) (sh' := mz_sh) (m' := m6) (g := true) rfl rfl (rfl) ?_
      exact mz_go_ret mz_m129 rfl rfl rfl ⟨_, rfl, rfl, h7⟩
  · have h9 := h.2 c1
    refine mz_go_blk mz_m129 2 (pc' := 39) (L' := [some (.ref 55), some (.int l1), some (.int l2), some (.int l3), some (.int l4), some (.int 0)]) (S' := []) (sh' := mz_sh) (m' := m) (g := true) rfl rfl (rfl) ?_
    exact h9
set_option maxRecDepth 100000 in
theorem t_M_move_3 {X : mz_X} {m : mz_M} {Q : Int32 → mz_M → Prop} (l1 : Int32) (l2 : Int32) (l3 : Int32) (l4 : Int32) (l5 : Int32)
    (h : mz_inb l4 32 = true ∧ (((m 57 l4.toNatClampNeg) ≤ l5 → mz_gi X mz_sh 129 29 [some (.ref 55), some (.int l1), some (.int l2), some (.int l3), some (.int (l4 + 1)), none] m Q) ∧ (¬ ((m 57 l4.toNatClampNeg) ≤ l5) → mz_inb l4 33 = true ∧ mz_inb (((109 * l1) + (m 60 l4.toNatClampNeg)) + l5) 13080 = true ∧ (((m 61 ((((109 * l1) + (m 60 l4.toNatClampNeg)) + l5).toNatClampNeg)) = 0 → mz_gi X mz_sh 129 39 [some (.ref 55), some (.int l1), some (.int l2), some (.int l3), some (.int l4), some (.int (l5 + 1))] m Q) ∧ (¬ ((m 61 ((((109 * l1) + (m 60 l4.toNatClampNeg)) + l5).toNatClampNeg)) = 0) → mz_gi X mz_sh 125 0 [some (.ref 55), some (.int l4), some (.int l5)] m (fun r14 m12 => ((r14 = l2 → mz_inb l4 33 = true ∧ mz_inb (((m12 60 l4.toNatClampNeg) + l5) + 1) 109 = true ∧ mz_gi X mz_sh 129 39 [some (.ref 55), some (.int l1), some (.int l2), some (.int 1), some (.int l4), some (.int (l5 + 1))] (mz_up m12 63 ((((m12 60 l4.toNatClampNeg) + l5) + 1).toNatClampNeg) (vp_nar .boolean 1)) Q) ∧ (¬ (r14 = l2) → mz_gi X mz_sh 129 39 [some (.ref 55), some (.int l1), some (.int l2), some (.int l3), some (.int l4), some (.int (l5 + 1))] m12 Q)))))))) :
    mz_gi X mz_sh 129 39 [some (.ref 55), some (.int l1), some (.int l2), some (.int l3), some (.int l4), some (.int l5)] m Q := by
  obtain ⟨g1, h2⟩ := h
  refine mz_go_blk mz_m129 6 (pc' := (if (m 57 l4.toNatClampNeg) ≤ l5 then 112 else 51)) (L' := [some (.ref 55), some (.int l1), some (.int l2), some (.int l3), some (.int l4), some (.int l5)]) (S' := []) (sh' := mz_sh) (m' := m) (g := mz_inb l4 32 && true) rfl rfl (mz_and2 (g1) (rfl)) ?_
  refine mz_go_if (fun c3 => ?_) (fun c3 => ?_)
  · have h4 := h2.1 c3
    refine mz_go_blk mz_m129 2 (pc' := 29) (L' := [some (.ref 55), some (.int l1), some (.int l2), some (.int l3), some (.int (l4 + 1)), some (.int l5)]) (S' := []) (sh' := mz_sh) (m' := m) (g := true) rfl rfl (rfl) ?_
    exact mz_go.forget (L := [some (.ref 55), some (.int l1), some (.int l2), some (.int l3), some (.int (l4 + 1)), none]) (mz_lel_cons rfl (mz_lel_cons rfl (mz_lel_cons rfl (mz_lel_cons rfl (mz_lel_cons rfl (mz_lel_cons trivial (mz_lel_nil))))))) h4
  · have h5 := h2.2 c3
    obtain ⟨g6, g7, h8⟩ := h5
    refine mz_go_blk mz_m129 14 (pc' := (if (m 61 ((((109 * l1) + (m 60 l4.toNatClampNeg)) + l5).toNatClampNeg)) = 0 then 106 else 74)) (L' := [some (.ref 55), some (.int l1), some (.int l2), some (.int l3), some (.int l4), some (.int l5)]) (S' := []) (sh' := mz_sh) (m' := m) (g := mz_inb (((109 * l1) + (m 60 l4.toNatClampNeg)) + l5) 13080 && (mz_inb l4 33 && true)) rfl rfl (mz_and2 (g7) (mz_and2 (g6) (rfl))) ?_
    refine mz_go_if (fun c9 => ?_) (fun c9 => ?_)
    · have h10 := h8.1 c9
      refine mz_go_blk mz_m129 2 (pc' := 39) (L' := [some (.ref 55), some (.int l1), some (.int l2), some (.int l3), some (.int l4), some (.int (l5 + 1))]) (S' := []) (sh' := mz_sh) (m' := m) (g := true) rfl rfl (rfl) ?_
      exact h10
    · have h11 := h8.2 c9
      refine mz_go_blk mz_m129 3 (pc' := 79) (L' := [some (.ref 55), some (.int l1), some (.int l2), some (.int l3), some (.int l4), some (.int l5)]) (S' := [.int l5, .int l4, .ref 55]) (sh' := mz_sh) (m' := m) (g := true) rfl rfl (rfl) ?_
      refine mz_go_call mz_m129 mz_m125 rfl rfl rfl rfl rfl rfl rfl h11 (fun v sh1 m12 hv => ?_)
      obtain ⟨r14, rfl, rfl, h13⟩ := hv
      refine mz_go_blk mz_m129 2 (pc' := (if r14 = l2 then 86 else 106)) (L' := [some (.ref 55), some (.int l1), some (.int l2), some (.int l3), some (.int l4), some (.int l5)]) (S' := []) (sh' := mz_sh) (m' := m12) (g := true) rfl rfl (rfl) ?_
      refine mz_go_if (fun c15 => ?_) (fun c15 => ?_)
      · have h16 := h13.1 c15
        obtain ⟨g17, g18, h19⟩ := h16
        refine mz_go_blk mz_m129 16 (pc' := 39) (L' := [some (.ref 55), some (.int l1), some (.int l2), some (.int 1), some (.int l4), some (.int (l5 + 1))]) (S' := []) (sh' := mz_sh) (m' := mz_up m12 63 ((((m12 60 l4.toNatClampNeg) + l5) + 1).toNatClampNeg) (vp_nar .boolean 1)) (g := mz_inb (((m12 60 l4.toNatClampNeg) + l5) + 1) 109 && (mz_inb l4 33 && true)) rfl rfl (mz_and2 (g18) (mz_and2 (g17) (rfl))) ?_
        exact h19
      · have h20 := h13.2 c15
        refine mz_go_blk mz_m129 2 (pc' := 39) (L' := [some (.ref 55), some (.int l1), some (.int l2), some (.int l3), some (.int l4), some (.int (l5 + 1))]) (S' := []) (sh' := mz_sh) (m' := m12) (g := true) rfl rfl (rfl) ?_
        exact h20
set_option maxRecDepth 100000 in
theorem t_M_makeSets_0 {X : mz_X} {m : mz_M} {Q : mz_M → Prop}
    (h : mz_gv X mz_sh 130 2 [some (.ref 55), some (.int 0), none, none] m Q) :
    mz_gv X mz_sh 130 0 [some (.ref 55), none, none, none] m Q := by
  refine mz_go_blk mz_m130 2 (pc' := 2) (L' := [some (.ref 55), some (.int 0), none, none]) (S' := []) (sh' := mz_sh) (m' := m) (g := true) rfl rfl (rfl) ?_
  exact h
set_option maxRecDepth 100000 in
theorem t_M_makeSets_1 {X : mz_X} {m : mz_M} {Q : mz_M → Prop} (l1 : Int32)
    (h : ((109 ≤ l1 → mz_gi X mz_sh 128 0 [some (.ref 55), none, none, none] (mz_up m 63 0 (vp_nar .boolean 1)) (fun r5 m3 => mz_gv X mz_sh 130 35 [some (.ref 55), none, some (.int r5), none] m3 Q)) ∧ (¬ (109 ≤ l1) → mz_inb l1 109 = true ∧ mz_gv X mz_sh 130 2 [some (.ref 55), some (.int (l1 + 1)), none, none] (mz_up m 63 l1.toNatClampNeg (vp_nar .boolean 0)) Q))) :
    mz_gv X mz_sh 130 2 [some (.ref 55), some (.int l1), none, none] m Q := by
  refine mz_go_blk mz_m130 3 (pc' := (if 109 ≤ l1 then 21 else 8)) (L' := [some (.ref 55), some (.int l1), none, none]) (S' := []) (sh' := mz_sh) (m' := m) (g := true) rfl rfl (rfl) ?_
  refine mz_go_if (fun c1 => ?_) (fun c1 => ?_)
  · have h2 := h.1 c1
    refine mz_go_blk mz_m130 6 (pc' := 29) (L' := [some (.ref 55), some (.int l1), none, none]) (S' := [.ref 55]) (sh' := mz_sh) (m' := mz_up m 63 0 (vp_nar .boolean 1)) (g := mz_inb 0 109 && true) rfl rfl (mz_and2 (by decide) (rfl)) ?_
    refine mz_go_call mz_m130 mz_m128 rfl rfl rfl rfl rfl rfl rfl h2 (fun v sh1 m3 hv => ?_)
    obtain ⟨r5, rfl, rfl, h4⟩ := hv
    refine mz_go_blk mz_m130 3 (pc' := 35) (L' := [some (.ref 55), some (.int r5), some (.int r5), none]) (S' := []) (sh' := mz_sh) (m' := m3) (g := true) rfl rfl (rfl) ?_
    exact mz_go.forget (L := [some (.ref 55), none, some (.int r5), none]) (mz_lel_cons rfl (mz_lel_cons trivial (mz_lel_cons rfl (mz_lel_cons trivial (mz_lel_nil))))) h4
  · have h6 := h.2 c1
    obtain ⟨g7, h8⟩ := h6
    refine mz_go_blk mz_m130 7 (pc' := 2) (L' := [some (.ref 55), some (.int (l1 + 1)), none, none]) (S' := []) (sh' := mz_sh) (m' := mz_up m 63 l1.toNatClampNeg (vp_nar .boolean 0)) (g := mz_inb l1 109 && true) rfl rfl (mz_and2 (g7) (rfl)) ?_
    exact h8
set_option maxRecDepth 100000 in
theorem t_M_makeSets_2 {X : mz_X} {m : mz_M} {Q : mz_M → Prop} (l2 : Int32)
    (h : (((m 55 7) ≤ l2 → Q m) ∧ (¬ ((m 55 7) ≤ l2) → mz_gv X mz_sh 130 45 [some (.ref 55), none, some (.int l2), some (.int 0)] m Q))) :
    mz_gv X mz_sh 130 35 [some (.ref 55), none, some (.int l2), none] m Q := by
  refine mz_go_blk mz_m130 4 (pc' := (if (m 55 7) ≤ l2 then 80 else 43)) (L' := [some (.ref 55), none, some (.int l2), none]) (S' := []) (sh' := mz_sh) (m' := m) (g := true) rfl rfl (rfl) ?_
  refine mz_go_if (fun c1 => ?_) (fun c1 => ?_)
  · have h2 := h.1 c1
    exact mz_go_ret mz_m130 rfl rfl rfl ⟨rfl, rfl, h2⟩
  · have h3 := h.2 c1
    refine mz_go_blk mz_m130 2 (pc' := 45) (L' := [some (.ref 55), none, some (.int l2), some (.int 0)]) (S' := []) (sh' := mz_sh) (m' := m) (g := true) rfl rfl (rfl) ?_
    exact h3
set_option maxRecDepth 100000 in
theorem t_M_makeSets_3 {X : mz_X} {m : mz_M} {Q : mz_M → Prop} (l2 : Int32) (l3 : Int32)
    (h : ((36 ≤ l3 → mz_gv X mz_sh 130 35 [some (.ref 55), none, some (.int (l2 + 1)), none] m Q) ∧ (¬ (36 ≤ l3) → mz_gi X mz_sh 129 0 [some (.ref 55), some (.int l2), some (.int l3), none, none, none] m (fun r6 m4 => mz_inb ((36 * l2) + l3) 4320 = true ∧ mz_gv X mz_sh 130 45 [some (.ref 55), none, some (.int l2), some (.int (l3 + 1))] (mz_up m4 62 (((36 * l2) + l3).toNatClampNeg) r6) Q)))) :
    mz_gv X mz_sh 130 45 [some (.ref 55), none, some (.int l2), some (.int l3)] m Q := by
  refine mz_go_blk mz_m130 3 (pc' := (if 36 ≤ l3 then 74 else 51)) (L' := [some (.ref 55), none, some (.int l2), some (.int l3)]) (S' := []) (sh' := mz_sh) (m' := m) (g := true) rfl rfl (rfl) ?_
  refine mz_go_if (fun c1 => ?_) (fun c1 => ?_)
  · have h2 := h.1 c1
    refine mz_go_blk mz_m130 2 (pc' := 35) (L' := [some (.ref 55), none, some (.int (l2 + 1)), some (.int l3)]) (S' := []) (sh' := mz_sh) (m' := m) (g := true) rfl rfl (rfl) ?_
    exact mz_go.forget (L := [some (.ref 55), none, some (.int (l2 + 1)), none]) (mz_lel_cons rfl (mz_lel_cons trivial (mz_lel_cons rfl (mz_lel_cons trivial (mz_lel_nil))))) h2
  · have h3 := h.2 c1
    refine mz_go_blk mz_m130 10 (pc' := 64) (L' := [some (.ref 55), none, some (.int l2), some (.int l3)]) (S' := [.int l3, .int l2, .ref 55, .int ((36 * l2) + l3), .ref 62]) (sh' := mz_sh) (m' := m) (g := true) rfl rfl (rfl) ?_
    refine mz_go_call mz_m130 mz_m129 rfl rfl rfl rfl rfl rfl rfl h3 (fun v sh1 m4 hv => ?_)
    obtain ⟨r6, rfl, rfl, h5⟩ := hv
    obtain ⟨g7, h8⟩ := h5
    refine mz_go_blk mz_m130 3 (pc' := 45) (L' := [some (.ref 55), none, some (.int l2), some (.int (l3 + 1))]) (S' := []) (sh' := mz_sh) (m' := mz_up m4 62 (((36 * l2) + l3).toNatClampNeg) r6) (g := mz_inb ((36 * l2) + l3) 4320 && true) rfl rfl (mz_and2 (g7) (rfl)) ?_
    exact h8
set_option maxRecDepth 100000 in
theorem t_M_forgetTokens_0 {X : mz_X} {m : mz_M} {Q : mz_M → Prop}
    (h : Q (mz_up (mz_up (mz_up m 55 13 0) 55 34 0) 55 44 0)) :
    mz_gv X mz_sh 131 0 [some (.ref 55)] m Q := by
  refine mz_go_blk mz_m131 9 (pc' := 15) (L' := [some (.ref 55)]) (S' := []) (sh' := mz_sh) (m' := mz_up (mz_up (mz_up m 55 13 0) 55 34 0) 55 44 0) (g := (decide (0 = 0) || decide (0 = 1)) && ((decide (0 = 0) || decide (0 = 1)) && ((decide (0 = 0) || decide (0 = 1)) && true))) rfl rfl (mz_and2 (by decide) (mz_and2 (by decide) (mz_and2 (by decide) (rfl)))) ?_
  exact mz_go_ret mz_m131 rfl rfl rfl ⟨rfl, rfl, h⟩
set_option maxRecDepth 100000 in
theorem t_M_feed_0 {X : mz_X} {m : mz_M} {Q : Int32 → mz_M → Prop} (a1 : Int64) (a3 : Int32)
    (h : ((a3 < 1 → Q (-1) m) ∧ (¬ (a3 < 1) → ((a3 ≤ 8 → ((((m 55 12) + a3) ≤ 4000 → mz_gi X mz_sh 132 33 [some (.ref 55), some (.long a1), none, none, some (.int (a3 - 1))] m Q) ∧ (¬ (((m 55 12) + a3) ≤ 4000) → Q (-2) m))) ∧ (¬ (a3 ≤ 8) → Q (-1) m))))) :
    mz_gi X mz_sh 132 0 [some (.ref 55), some (.long a1), none, some (.int a3), none] m Q := by
  refine mz_go_blk mz_m132 3 (pc' := (if a3 < 1 then 11 else 5)) (L' := [some (.ref 55), some (.long a1), none, some (.int a3), none]) (S' := []) (sh' := mz_sh) (m' := m) (g := true) rfl rfl (rfl) ?_
  refine mz_go_if (fun c1 => ?_) (fun c1 => ?_)
  · have h2 := h.1 c1
    refine mz_go_blk mz_m132 1 (pc' := 12) (L' := [some (.ref 55), some (.long a1), none, some (.int a3), none]) (S' := [.int (-1)]) (sh' := mz_sh) (m' := m) (g := true) rfl rfl (rfl) ?_
    exact mz_go_ret mz_m132 rfl rfl rfl ⟨_, rfl, rfl, h2⟩
  · have h3 := h.2 c1
    refine mz_go_blk mz_m132 3 (pc' := (if a3 ≤ 8 then 13 else 11)) (L' := [some (.ref 55), some (.long a1), none, some (.int a3), none]) (S' := []) (sh' := mz_sh) (m' := m) (g := true) rfl rfl (rfl) ?_
    refine mz_go_if (fun c4 => ?_) (fun c4 => ?_)
    · have h5 := h3.1 c4
      refine mz_go_blk mz_m132 6 (pc' := (if ((m 55 12) + a3) ≤ 4000 then 28 else 25)) (L' := [some (.ref 55), some (.long a1), none, some (.int a3), none]) (S' := []) (sh' := mz_sh) (m' := m) (g := true) rfl rfl (rfl) ?_
      refine mz_go_if (fun c6 => ?_) (fun c6 => ?_)
      · have h7 := h5.1 c6
        refine mz_go_blk mz_m132 4 (pc' := 33) (L' := [some (.ref 55), some (.long a1), none, some (.int a3), some (.int (a3 - 1))]) (S' := []) (sh' := mz_sh) (m' := m) (g := true) rfl rfl (rfl) ?_
        exact mz_go.forget (L := [some (.ref 55), some (.long a1), none, none, some (.int (a3 - 1))]) (mz_lel_cons rfl (mz_lel_cons rfl (mz_lel_cons trivial (mz_lel_cons trivial (mz_lel_cons rfl (mz_lel_nil)))))) h7
      · have h8 := h5.2 c6
        refine mz_go_blk mz_m132 1 (pc' := 27) (L' := [some (.ref 55), some (.long a1), none, some (.int a3), none]) (S' := [.int (-2)]) (sh' := mz_sh) (m' := m) (g := true) rfl rfl (rfl) ?_
        exact mz_go_ret mz_m132 rfl rfl rfl ⟨_, rfl, rfl, h8⟩
    · have h9 := h3.2 c4
      refine mz_go_blk mz_m132 1 (pc' := 12) (L' := [some (.ref 55), some (.long a1), none, some (.int a3), none]) (S' := [.int (-1)]) (sh' := mz_sh) (m' := m) (g := true) rfl rfl (rfl) ?_
      exact mz_go_ret mz_m132 rfl rfl rfl ⟨_, rfl, rfl, h9⟩
set_option maxRecDepth 100000 in
theorem t_M_feed_1 {X : mz_X} {m : mz_M} {Q : Int32 → mz_M → Prop} (l1 : Int64) (l4 : Int32)
    (h : ((l4 < 0 → mz_gv X mz_sh 131 0 [some (.ref 55)] m (fun m3 => Q (m3 55 12) m3)) ∧ (¬ (l4 < 0) → mz_inb (m 55 12) 4000 = true ∧ mz_gi X mz_sh 132 33 [some (.ref 55), some (.long l1), none, none, some (.int (l4 + (-1)))] (mz_up (mz_up m 66 ((m 55 12).toNatClampNeg) ((((l1.toUInt64 >>> ((8 * l4).toInt64.toUInt64 &&& Int64.toUInt64 63)).toInt64).toInt32) &&& 255)) 55 12 ((m 55 12) + 1)) Q))) :
    mz_gi X mz_sh 132 33 [some (.ref 55), some (.long l1), none, none, some (.int l4)] m Q := by
  refine mz_go_blk mz_m132 2 (pc' := (if l4 < 0 then 75 else 38)) (L' := [some (.ref 55), some (.long l1), none, none, some (.int l4)]) (S' := []) (sh' := mz_sh) (m' := m) (g := true) rfl rfl (rfl) ?_
  refine mz_go_if (fun c1 => ?_) (fun c1 => ?_)
  · have h2 := h.1 c1
    refine mz_go_blk mz_m132 1 (pc' := 76) (L' := [some (.ref 55), some (.long l1), none, none, some (.int l4)]) (S' := [.ref 55]) (sh' := mz_sh) (m' := m) (g := true) rfl rfl (rfl) ?_
    refine mz_go_call mz_m132 mz_m131 rfl rfl rfl rfl rfl rfl rfl h2 (fun v sh1 m3 hv => ?_)
    obtain ⟨rfl, rfl, h4⟩ := hv
    refine mz_go_blk mz_m132 2 (pc' := 83) (L' := [some (.ref 55), some (.long l1), none, none, some (.int l4)]) (S' := [.int (m3 55 12)]) (sh' := mz_sh) (m' := m3) (g := true) rfl rfl (rfl) ?_
    exact mz_go_ret mz_m132 rfl rfl rfl ⟨_, rfl, rfl, h4⟩
  · have h5 := h.2 c1
    obtain ⟨g6, h7⟩ := h5
    refine mz_go_blk mz_m132 21 (pc' := 33) (L' := [some (.ref 55), some (.long l1), none, none, some (.int (l4 + (-1)))]) (S' := []) (sh' := mz_sh) (m' := mz_up (mz_up m 66 ((m 55 12).toNatClampNeg) ((((l1.toUInt64 >>> ((8 * l4).toInt64.toUInt64 &&& Int64.toUInt64 63)).toInt64).toInt32) &&& 255)) 55 12 ((m 55 12) + 1)) (g := mz_inb (m 55 12) 4000 && true) rfl rfl (mz_and2 (g6) (rfl)) ?_
    exact h7
set_option maxRecDepth 100000 in
theorem t_M_clear_0 {X : mz_X} {m : mz_M} {Q : Int32 → mz_M → Prop}
    (h : mz_gv X mz_sh 131 0 [some (.ref 55)] (mz_up m 55 12 0) (fun m1 => mz_gi X mz_sh 133 16 [some (.ref 55), some (.int (m 55 12)), some (.int 0)] m1 Q)) :
    mz_gi X mz_sh 133 0 [some (.ref 55), none, none] m Q := by
  refine mz_go_blk mz_m133 7 (pc' := 11) (L' := [some (.ref 55), some (.int (m 55 12)), none]) (S' := [.ref 55]) (sh' := mz_sh) (m' := mz_up m 55 12 0) (g := true) rfl rfl (rfl) ?_
  refine mz_go_call mz_m133 mz_m131 rfl rfl rfl rfl rfl rfl rfl h (fun v sh1 m1 hv => ?_)
  obtain ⟨rfl, rfl, h2⟩ := hv
  refine mz_go_blk mz_m133 2 (pc' := 16) (L' := [some (.ref 55), some (.int (m 55 12)), some (.int 0)]) (S' := []) (sh' := mz_sh) (m' := m1) (g := true) rfl rfl (rfl) ?_
  exact h2
set_option maxRecDepth 100000 in
theorem t_M_clear_1 {X : mz_X} {m : mz_M} {Q : Int32 → mz_M → Prop} (l1 : Int32) (l2 : Int32)
    (h : ((32 ≤ l2 → Q l1 (mz_up m 55 56 0)) ∧ (¬ (32 ≤ l2) → mz_inb l2 32 = true ∧ mz_gi X mz_sh 133 16 [some (.ref 55), some (.int l1), some (.int (l2 + 1))] (mz_up m 96 l2.toNatClampNeg 0) Q))) :
    mz_gi X mz_sh 133 16 [some (.ref 55), some (.int l1), some (.int l2)] m Q := by
  refine mz_go_blk mz_m133 3 (pc' := (if 32 ≤ l2 then 35 else 22)) (L' := [some (.ref 55), some (.int l1), some (.int l2)]) (S' := []) (sh' := mz_sh) (m' := m) (g := true) rfl rfl (rfl) ?_
  refine mz_go_if (fun c1 => ?_) (fun c1 => ?_)
  · have h2 := h.1 c1
    refine mz_go_blk mz_m133 4 (pc' := 41) (L' := [some (.ref 55), some (.int l1), some (.int l2)]) (S' := [.int l1]) (sh' := mz_sh) (m' := mz_up m 55 56 0) (g := (decide (0 = 0) || decide (0 = 1)) && true) rfl rfl (mz_and2 (by decide) (rfl)) ?_
    exact mz_go_ret mz_m133 rfl rfl rfl ⟨_, rfl, rfl, h2⟩
  · have h3 := h.2 c1
    obtain ⟨g4, h5⟩ := h3
    refine mz_go_blk mz_m133 7 (pc' := 16) (L' := [some (.ref 55), some (.int l1), some (.int (l2 + 1))]) (S' := []) (sh' := mz_sh) (m' := mz_up m 96 l2.toNatClampNeg 0) (g := mz_inb l2 32 && true) rfl rfl (mz_and2 (g4) (rfl)) ?_
    exact h5
set_option maxRecDepth 100000 in
theorem t_M_byteAt_0 {X : mz_X} {m : mz_M} {Q : Int32 → mz_M → Prop} (a1 : Int32)
    (h : (((m 55 12) ≤ a1 → Q (-1) m) ∧ (¬ ((m 55 12) ≤ a1) → mz_inb a1 4000 = true ∧ Q (m 66 a1.toNatClampNeg) m))) :
    mz_gi X mz_sh 134 0 [some (.ref 55), some (.int a1)] m Q := by
  refine mz_go_blk mz_m134 4 (pc' := (if (m 55 12) ≤ a1 then 17 else 8)) (L' := [some (.ref 55), some (.int a1)]) (S' := []) (sh' := mz_sh) (m' := m) (g := true) rfl rfl (rfl) ?_
  refine mz_go_if (fun c1 => ?_) (fun c1 => ?_)
  · have h2 := h.1 c1
    refine mz_go_blk mz_m134 1 (pc' := 18) (L' := [some (.ref 55), some (.int a1)]) (S' := [.int (-1)]) (sh' := mz_sh) (m' := m) (g := true) rfl rfl (rfl) ?_
    exact mz_go_ret mz_m134 rfl rfl rfl ⟨_, rfl, rfl, h2⟩
  · have h3 := h.2 c1
    obtain ⟨g4, h5⟩ := h3
    refine mz_go_blk mz_m134 5 (pc' := 18) (L' := [some (.ref 55), some (.int a1)]) (S' := [.int (m 66 a1.toNatClampNeg)]) (sh' := mz_sh) (m' := m) (g := mz_inb a1 4000 && true) rfl rfl (mz_and2 (g4) (rfl)) ?_
    exact mz_go_ret mz_m134 rfl rfl rfl ⟨_, rfl, rfl, h5⟩
set_option maxRecDepth 100000 in
theorem t_M_isLetter_0 {X : mz_X} {m : mz_M} {Q : Int32 → mz_M → Prop} (a0 : Int32)
    (h : ((a0 < 97 → ((a0 < 65 → ((a0 = 95 → Q 1 m) ∧ (¬ (a0 = 95) → Q 0 m))) ∧ (¬ (a0 < 65) → ((a0 ≤ 90 → Q 1 m) ∧ (¬ (a0 ≤ 90) → ((a0 = 95 → Q 1 m) ∧ (¬ (a0 = 95) → Q 0 m))))))) ∧ (¬ (a0 < 97) → ((a0 ≤ 122 → Q 1 m) ∧ (¬ (a0 ≤ 122) → ((a0 < 65 → ((a0 = 95 → Q 1 m) ∧ (¬ (a0 = 95) → Q 0 m))) ∧ (¬ (a0 < 65) → ((a0 ≤ 90 → Q 1 m) ∧ (¬ (a0 ≤ 90) → ((a0 = 95 → Q 1 m) ∧ (¬ (a0 = 95) → Q 0 m))))))))))) :
    mz_gi X mz_sh 135 0 [some (.int a0)] m Q := by
  refine mz_go_blk mz_m135 3 (pc' := (if a0 < 97 then 12 else 6)) (L' := [some (.int a0)]) (S' := []) (sh' := mz_sh) (m' := m) (g := true) rfl rfl (rfl) ?_
  refine mz_go_if (fun c1 => ?_) (fun c1 => ?_)
  · have h2 := h.1 c1
    refine mz_go_blk mz_m135 3 (pc' := (if a0 < 65 then 24 else 18)) (L' := [some (.int a0)]) (S' := []) (sh' := mz_sh) (m' := m) (g := true) rfl rfl (rfl) ?_
    refine mz_go_if (fun c3 => ?_) (fun c3 => ?_)
    · have h4 := h2.1 c3
      refine mz_go_blk mz_m135 3 (pc' := (if a0 = 95 then 30 else 34)) (L' := [some (.int a0)]) (S' := []) (sh' := mz_sh) (m' := m) (g := true) rfl rfl (rfl) ?_
      refine mz_go_if (fun c5 => ?_) (fun c5 => ?_)
      · have h6 := h4.1 c5
        refine mz_go_blk mz_m135 2 (pc' := 35) (L' := [some (.int a0)]) (S' := [.int 1]) (sh' := mz_sh) (m' := m) (g := true) rfl rfl (rfl) ?_
        exact mz_go_ret mz_m135 rfl rfl rfl ⟨_, rfl, rfl, h6⟩
      · have h7 := h4.2 c5
        refine mz_go_blk mz_m135 1 (pc' := 35) (L' := [some (.int a0)]) (S' := [.int 0]) (sh' := mz_sh) (m' := m) (g := true) rfl rfl (rfl) ?_
        exact mz_go_ret mz_m135 rfl rfl rfl ⟨_, rfl, rfl, h7⟩
    · have h8 := h2.2 c3
      refine mz_go_blk mz_m135 3 (pc' := (if a0 ≤ 90 then 30 else 24)) (L' := [some (.int a0)]) (S' := []) (sh' := mz_sh) (m' := m) (g := true) rfl rfl (rfl) ?_
      refine mz_go_if (fun c9 => ?_) (fun c9 => ?_)
      · have h10 := h8.1 c9
        refine mz_go_blk mz_m135 2 (pc' := 35) (L' := [some (.int a0)]) (S' := [.int 1]) (sh' := mz_sh) (m' := m) (g := true) rfl rfl (rfl) ?_
        exact mz_go_ret mz_m135 rfl rfl rfl ⟨_, rfl, rfl, h10⟩
      · have h11 := h8.2 c9
        refine mz_go_blk mz_m135 3 (pc' := (if a0 = 95 then 30 else 34)) (L' := [some (.int a0)]) (S' := []) (sh' := mz_sh) (m' := m) (g := true) rfl rfl (rfl) ?_
        refine mz_go_if (fun c12 => ?_) (fun c12 => ?_)
        · have h13 := h11.1 c12
          refine mz_go_blk mz_m135 2 (pc' := 35) (L' := [some (.int a0)]) (S' := [.int 1]) (sh' := mz_sh) (m' := m) (g := true) rfl rfl (rfl) ?_
          exact mz_go_ret mz_m135 rfl rfl rfl ⟨_, rfl, rfl, h13⟩
        · have h14 := h11.2 c12
          refine mz_go_blk mz_m135 1 (pc' := 35) (L' := [some (.int a0)]) (S' := [.int 0]) (sh' := mz_sh) (m' := m) (g := true) rfl rfl (rfl) ?_
          exact mz_go_ret mz_m135 rfl rfl rfl ⟨_, rfl, rfl, h14⟩
  · have h15 := h.2 c1
    refine mz_go_blk mz_m135 3 (pc' := (if a0 ≤ 122 then 30 else 12)) (L' := [some (.int a0)]) (S' := []) (sh' := mz_sh) (m' := m) (g := true) rfl rfl (rfl) ?_
    refine mz_go_if (fun c16 => ?_) (fun c16 => ?_)
    · have h17 := h15.1 c16
      refine mz_go_blk mz_m135 2 (pc' := 35) (L' := [some (.int a0)]) (S' := [.int 1]) (sh' := mz_sh) (m' := m) (g := true) rfl rfl (rfl) ?_
      exact mz_go_ret mz_m135 rfl rfl rfl ⟨_, rfl, rfl, h17⟩
    · have h18 := h15.2 c16
      refine mz_go_blk mz_m135 3 (pc' := (if a0 < 65 then 24 else 18)) (L' := [some (.int a0)]) (S' := []) (sh' := mz_sh) (m' := m) (g := true) rfl rfl (rfl) ?_
      refine mz_go_if (fun c19 => ?_) (fun c19 => ?_)
      · have h20 := h18.1 c19
        refine mz_go_blk mz_m135 3 (pc' := (if a0 = 95 then 30 else 34)) (L' := [some (.int a0)]) (S' := []) (sh' := mz_sh) (m' := m) (g := true) rfl rfl (rfl) ?_
        refine mz_go_if (fun c21 => ?_) (fun c21 => ?_)
        · have h22 := h20.1 c21
          refine mz_go_blk mz_m135 2 (pc' := 35) (L' := [some (.int a0)]) (S' := [.int 1]) (sh' := mz_sh) (m' := m) (g := true) rfl rfl (rfl) ?_
          exact mz_go_ret mz_m135 rfl rfl rfl ⟨_, rfl, rfl, h22⟩
        · have h23 := h20.2 c21
          refine mz_go_blk mz_m135 1 (pc' := 35) (L' := [some (.int a0)]) (S' := [.int 0]) (sh' := mz_sh) (m' := m) (g := true) rfl rfl (rfl) ?_
          exact mz_go_ret mz_m135 rfl rfl rfl ⟨_, rfl, rfl, h23⟩
      · have h24 := h18.2 c19
        refine mz_go_blk mz_m135 3 (pc' := (if a0 ≤ 90 then 30 else 24)) (L' := [some (.int a0)]) (S' := []) (sh' := mz_sh) (m' := m) (g := true) rfl rfl (rfl) ?_
        refine mz_go_if (fun c25 => ?_) (fun c25 => ?_)
        · have h26 := h24.1 c25
          refine mz_go_blk mz_m135 2 (pc' := 35) (L' := [some (.int a0)]) (S' := [.int 1]) (sh' := mz_sh) (m' := m) (g := true) rfl rfl (rfl) ?_
          exact mz_go_ret mz_m135 rfl rfl rfl ⟨_, rfl, rfl, h26⟩
        · have h27 := h24.2 c25
          refine mz_go_blk mz_m135 3 (pc' := (if a0 = 95 then 30 else 34)) (L' := [some (.int a0)]) (S' := []) (sh' := mz_sh) (m' := m) (g := true) rfl rfl (rfl) ?_
          refine mz_go_if (fun c28 => ?_) (fun c28 => ?_)
          · have h29 := h27.1 c28
            refine mz_go_blk mz_m135 2 (pc' := 35) (L' := [some (.int a0)]) (S' := [.int 1]) (sh' := mz_sh) (m' := m) (g := true) rfl rfl (rfl) ?_
            exact mz_go_ret mz_m135 rfl rfl rfl ⟨_, rfl, rfl, h29⟩
          · have h30 := h27.2 c28
            refine mz_go_blk mz_m135 1 (pc' := 35) (L' := [some (.int a0)]) (S' := [.int 0]) (sh' := mz_sh) (m' := m) (g := true) rfl rfl (rfl) ?_
            exact mz_go_ret mz_m135 rfl rfl rfl ⟨_, rfl, rfl, h30⟩
set_option maxRecDepth 100000 in
theorem t_M_isDigit_0 {X : mz_X} {m : mz_M} {Q : Int32 → mz_M → Prop} (a0 : Int32)
    (h : ((a0 < 48 → Q 0 m) ∧ (¬ (a0 < 48) → ((57 < a0 → Q 0 m) ∧ (¬ (57 < a0) → Q 1 m))))) :
    mz_gi X mz_sh 136 0 [some (.int a0)] m Q := by
  refine mz_go_blk mz_m136 3 (pc' := (if a0 < 48 then 16 else 6)) (L' := [some (.int a0)]) (S' := []) (sh' := mz_sh) (m' := m) (g := true) rfl rfl (rfl) ?_
  refine mz_go_if (fun c1 => ?_) (fun c1 => ?_)
  · have h2 := h.1 c1
    refine mz_go_blk mz_m136 1 (pc' := 17) (L' := [some (.int a0)]) (S' := [.int 0]) (sh' := mz_sh) (m' := m) (g := true) rfl rfl (rfl) ?_
    exact mz_go_ret mz_m136 rfl rfl rfl ⟨_, rfl, rfl, h2⟩
  · have h3 := h.2 c1
    refine mz_go_blk mz_m136 3 (pc' := (if 57 < a0 then 16 else 12)) (L' := [some (.int a0)]) (S' := []) (sh' := mz_sh) (m' := m) (g := true) rfl rfl (rfl) ?_
    refine mz_go_if (fun c4 => ?_) (fun c4 => ?_)
    · have h5 := h3.1 c4
      refine mz_go_blk mz_m136 1 (pc' := 17) (L' := [some (.int a0)]) (S' := [.int 0]) (sh' := mz_sh) (m' := m) (g := true) rfl rfl (rfl) ?_
      exact mz_go_ret mz_m136 rfl rfl rfl ⟨_, rfl, rfl, h5⟩
    · have h6 := h3.2 c4
      refine mz_go_blk mz_m136 2 (pc' := 17) (L' := [some (.int a0)]) (S' := [.int 1]) (sh' := mz_sh) (m' := m) (g := true) rfl rfl (rfl) ?_
      exact mz_go_ret mz_m136 rfl rfl rfl ⟨_, rfl, rfl, h6⟩
set_option maxRecDepth 100000 in
theorem t_M_skip_0 {X : mz_X} {m : mz_M} {Q : Int32 → mz_M → Prop} (a1 : Int32)
    (h : mz_gi X mz_sh 137 4 [some (.ref 55), none, some (.int a1), some (.int 1), none] m Q) :
    mz_gi X mz_sh 137 0 [some (.ref 55), some (.int a1), none, none, none] m Q := by
  refine mz_go_blk mz_m137 4 (pc' := 4) (L' := [some (.ref 55), some (.int a1), some (.int a1), some (.int 1), none]) (S' := []) (sh' := mz_sh) (m' := m) (g := true) rfl rfl (rfl) ?_
  exact mz_go.forget (L := [some (.ref 55), none, some (.int a1), some (.int 1), none]) (mz_lel_cons rfl (mz_lel_cons trivial (mz_lel_cons rfl (mz_lel_cons rfl (mz_lel_cons trivial (mz_lel_nil)))))) h
set_option maxRecDepth 100000 in
theorem t_M_skip_1 {X : mz_X} {m : mz_M} {Q : Int32 → mz_M → Prop} (l2 : Int32) (l3 : Int32)
    (h : ((l3 = 0 → Q l2 m) ∧ (¬ (l3 = 0) → mz_gi X mz_sh 134 0 [some (.ref 55), some (.int l2)] m (fun r6 m4 => ((r6 = 9 → ((r6 = 35 → mz_gi X mz_sh 137 63 [some (.ref 55), none, some (.int l2), some (.int 1), none] m4 Q) ∧ (¬ (r6 = 35) → mz_gi X mz_sh 137 4 [some (.ref 55), none, some (.int (l2 + 1)), some (.int 1), none] m4 Q))) ∧ (¬ (r6 = 9) → ((r6 = 10 → ((r6 = 35 → mz_gi X mz_sh 137 63 [some (.ref 55), none, some (.int l2), some (.int 1), none] m4 Q) ∧ (¬ (r6 = 35) → mz_gi X mz_sh 137 4 [some (.ref 55), none, some (.int (l2 + 1)), some (.int 1), none] m4 Q))) ∧ (¬ (r6 = 10) → ((r6 = 13 → ((r6 = 35 → mz_gi X mz_sh 137 63 [some (.ref 55), none, some (.int l2), some (.int 1), none] m4 Q) ∧ (¬ (r6 = 35) → mz_gi X mz_sh 137 4 [some (.ref 55), none, some (.int (l2 + 1)), some (.int 1), none] m4 Q))) ∧ (¬ (r6 = 13) → ((r6 = 32 → ((r6 = 35 → mz_gi X mz_sh 137 63 [some (.ref 55), none, some (.int l2), some (.int 1), none] m4 Q) ∧ (¬ (r6 = 35) → mz_gi X mz_sh 137 4 [some (.ref 55), none, some (.int (l2 + 1)), some (.int 1), none] m4 Q))) ∧ (¬ (r6 = 32) → ((r6 = 35 → ((r6 = 35 → mz_gi X mz_sh 137 63 [some (.ref 55), none, some (.int l2), some (.int 1), none] m4 Q) ∧ (¬ (r6 = 35) → mz_gi X mz_sh 137 4 [some (.ref 55), none, some (.int (l2 + 1)), some (.int 1), none] m4 Q))) ∧ (¬ (r6 = 35) → ((r6 = 35 → mz_gi X mz_sh 137 63 [some (.ref 55), none, some (.int l2), some (.int 0), none] m4 Q) ∧ (¬ (r6 = 35) → mz_gi X mz_sh 137 4 [some (.ref 55), none, some (.int l2), some (.int 0), none] m4 Q)))))))))))))))) :
    mz_gi X mz_sh 137 4 [some (.ref 55), none, some (.int l2), some (.int l3), none] m Q := by
  refine mz_go_blk mz_m137 2 (pc' := (if l3 = 0 then 98 else 8)) (L' := [some (.ref 55), none, some (.int l2), some (.int l3), none]) (S' := []) (sh' := mz_sh) (m' := m) (g := true) rfl rfl (rfl) ?_
  refine mz_go_if (fun c1 => ?_) (fun c1 => ?_)
  · have h2 := h.1 c1
    refine mz_go_blk mz_m137 1 (pc' := 99) (L' := [some (.ref 55), none, some (.int l2), some (.int l3), none]) (S' := [.int l2]) (sh' := mz_sh) (m' := m) (g := true) rfl rfl (rfl) ?_
    exact mz_go_ret mz_m137 rfl rfl rfl ⟨_, rfl, rfl, h2⟩
  · have h3 := h.2 c1
    refine mz_go_blk mz_m137 2 (pc' := 10) (L' := [some (.ref 55), none, some (.int l2), some (.int l3), none]) (S' := [.int l2, .ref 55]) (sh' := mz_sh) (m' := m) (g := true) rfl rfl (rfl) ?_
    refine mz_go_call mz_m137 mz_m134 rfl rfl rfl rfl rfl rfl rfl h3 (fun v sh1 m4 hv => ?_)
    obtain ⟨r6, rfl, rfl, h5⟩ := hv
    refine mz_go_blk mz_m137 4 (pc' := (if r6 = 9 then 50 else 22)) (L' := [some (.ref 55), none, some (.int l2), some (.int l3), some (.int r6)]) (S' := []) (sh' := mz_sh) (m' := m4) (g := true) rfl rfl (rfl) ?_
    refine mz_go_if (fun c7 => ?_) (fun c7 => ?_)
    · have h8 := h5.1 c7
      refine mz_go_blk mz_m137 6 (pc' := (if r6 = 35 then 63 else 88)) (L' := [some (.ref 55), none, some (.int l2), some (.int 1), some (.int r6)]) (S' := []) (sh' := mz_sh) (m' := m4) (g := true) rfl rfl (rfl) ?_
      refine mz_go_if (fun c9 => ?_) (fun c9 => ?_)
      · have h10 := h8.1 c9
        exact mz_go.forget (L := [some (.ref 55), none, some (.int l2), some (.int 1), none]) (mz_lel_cons rfl (mz_lel_cons trivial (mz_lel_cons rfl (mz_lel_cons rfl (mz_lel_cons trivial (mz_lel_nil)))))) h10
      · have h11 := h8.2 c9
        refine mz_go_blk mz_m137 4 (pc' := 4) (L' := [some (.ref 55), none, some (.int (l2 + 1)), some (.int 1), some (.int r6)]) (S' := []) (sh' := mz_sh) (m' := m4) (g := true) rfl rfl (rfl) ?_
        exact mz_go.forget (L := [some (.ref 55), none, some (.int (l2 + 1)), some (.int 1), none]) (mz_lel_cons rfl (mz_lel_cons trivial (mz_lel_cons rfl (mz_lel_cons rfl (mz_lel_cons trivial (mz_lel_nil)))))) h11
    · have h12 := h5.2 c7
      refine mz_go_blk mz_m137 3 (pc' := (if r6 = 10 then 50 else 29)) (L' := [some (.ref 55), none, some (.int l2), some (.int l3), some (.int r6)]) (S' := []) (sh' := mz_sh) (m' := m4) (g := true) rfl rfl (rfl) ?_
      refine mz_go_if (fun c13 => ?_) (fun c13 => ?_)
      · have h14 := h12.1 c13
        refine mz_go_blk mz_m137 6 (pc' := (if r6 = 35 then 63 else 88)) (L' := [some (.ref 55), none, some (.int l2), some (.int 1), some (.int r6)]) (S' := []) (sh' := mz_sh) (m' := m4) (g := true) rfl rfl (rfl) ?_
        refine mz_go_if (fun c15 => ?_) (fun c15 => ?_)
        · have h16 := h14.1 c15
          exact mz_go.forget (L := [some (.ref 55), none, some (.int l2), some (.int 1), none]) (mz_lel_cons rfl (mz_lel_cons trivial (mz_lel_cons rfl (mz_lel_cons rfl (mz_lel_cons trivial (mz_lel_nil)))))) h16
        · have h17 := h14.2 c15
          refine mz_go_blk mz_m137 4 (pc' := 4) (L' := [some (.ref 55), none, some (.int (l2 + 1)), some (.int 1), some (.int r6)]) (S' := []) (sh' := mz_sh) (m' := m4) (g := true) rfl rfl (rfl) ?_
          exact mz_go.forget (L := [some (.ref 55), none, some (.int (l2 + 1)), some (.int 1), none]) (mz_lel_cons rfl (mz_lel_cons trivial (mz_lel_cons rfl (mz_lel_cons rfl (mz_lel_cons trivial (mz_lel_nil)))))) h17
      · have h18 := h12.2 c13
        refine mz_go_blk mz_m137 3 (pc' := (if r6 = 13 then 50 else 36)) (L' := [some (.ref 55), none, some (.int l2), some (.int l3), some (.int r6)]) (S' := []) (sh' := mz_sh) (m' := m4) (g := true) rfl rfl (rfl) ?_
        refine mz_go_if (fun c19 => ?_) (fun c19 => ?_)
        · have h20 := h18.1 c19
          refine mz_go_blk mz_m137 6 (pc' := (if r6 = 35 then 63 else 88)) (L' := [some (.ref 55), none, some (.int l2), some (.int 1), some (.int r6)]) (S' := []) (sh' := mz_sh) (m' := m4) (g := true) rfl rfl (rfl) ?_
          refine mz_go_if (fun c21 => ?_) (fun c21 => ?_)
          · have h22 := h20.1 c21
            exact mz_go.forget (L := [some (.ref 55), none, some (.int l2), some (.int 1), none]) (mz_lel_cons rfl (mz_lel_cons trivial (mz_lel_cons rfl (mz_lel_cons rfl (mz_lel_cons trivial (mz_lel_nil)))))) h22
          · have h23 := h20.2 c21
            refine mz_go_blk mz_m137 4 (pc' := 4) (L' := [some (.ref 55), none, some (.int (l2 + 1)), some (.int 1), some (.int r6)]) (S' := []) (sh' := mz_sh) (m' := m4) (g := true) rfl rfl (rfl) ?_
            exact mz_go.forget (L := [some (.ref 55), none, some (.int (l2 + 1)), some (.int 1), none]) (mz_lel_cons rfl (mz_lel_cons trivial (mz_lel_cons rfl (mz_lel_cons rfl (mz_lel_cons trivial (mz_lel_nil)))))) h23
        · have h24 := h18.2 c19
          refine mz_go_blk mz_m137 3 (pc' := (if r6 = 32 then 50 else 43)) (L' := [some (.ref 55), none, some (.int l2), some (.int l3), some (.int r6)]) (S' := []) (sh' := mz_sh) (m' := m4) (g := true) rfl rfl (rfl) ?_
          refine mz_go_if (fun c25 => ?_) (fun c25 => ?_)
          · have h26 := h24.1 c25
            refine mz_go_blk mz_m137 6 (pc' := (if r6 = 35 then 63 else 88)) (L' := [some (.ref 55), none, some (.int l2), some (.int 1), some (.int r6)]) (S' := []) (sh' := mz_sh) (m' := m4) (g := true) rfl rfl (rfl) ?_
            refine mz_go_if (fun c27 => ?_) (fun c27 => ?_)
            · have h28 := h26.1 c27
              exact mz_go.forget (L := [some (.ref 55), none, some (.int l2), some (.int 1), none]) (mz_lel_cons rfl (mz_lel_cons trivial (mz_lel_cons rfl (mz_lel_cons rfl (mz_lel_cons trivial (mz_lel_nil)))))) h28
            · have h29 := h26.2 c27
              refine mz_go_blk mz_m137 4 (pc' := 4) (L' := [some (.ref 55), none, some (.int (l2 + 1)), some (.int 1), some (.int r6)]) (S' := []) (sh' := mz_sh) (m' := m4) (g := true) rfl rfl (rfl) ?_
              exact mz_go.forget (L := [some (.ref 55), none, some (.int (l2 + 1)), some (.int 1), none]) (mz_lel_cons rfl (mz_lel_cons trivial (mz_lel_cons rfl (mz_lel_cons rfl (mz_lel_cons trivial (mz_lel_nil)))))) h29
          · have h30 := h24.2 c25
            refine mz_go_blk mz_m137 3 (pc' := (if r6 = 35 then 50 else 54)) (L' := [some (.ref 55), none, some (.int l2), some (.int l3), some (.int r6)]) (S' := []) (sh' := mz_sh) (m' := m4) (g := true) rfl rfl (rfl) ?_
            refine mz_go_if (fun c31 => ?_) (fun c31 => ?_)
            · have h32 := h30.1 c31
              refine mz_go_blk mz_m137 6 (pc' := (if r6 = 35 then 63 else 88)) (L' := [some (.ref 55), none, some (.int l2), some (.int 1), some (.int r6)]) (S' := []) (sh' := mz_sh) (m' := m4) (g := true) rfl rfl (rfl) ?_
              refine mz_go_if (fun c33 => ?_) (fun c33 => ?_)
              · have h34 := h32.1 c33
                exact mz_go.forget (L := [some (.ref 55), none, some (.int l2), some (.int 1), none]) (mz_lel_cons rfl (mz_lel_cons trivial (mz_lel_cons rfl (mz_lel_cons rfl (mz_lel_cons trivial (mz_lel_nil)))))) h34
              · have h35 := h32.2 c33
                refine mz_go_blk mz_m137 4 (pc' := 4) (L' := [some (.ref 55), none, some (.int (l2 + 1)), some (.int 1), some (.int r6)]) (S' := []) (sh' := mz_sh) (m' := m4) (g := true) rfl rfl (rfl) ?_
                exact mz_go.forget (L := [some (.ref 55), none, some (.int (l2 + 1)), some (.int 1), none]) (mz_lel_cons rfl (mz_lel_cons trivial (mz_lel_cons rfl (mz_lel_cons rfl (mz_lel_cons trivial (mz_lel_nil)))))) h35
            · have h36 := h30.2 c31
              refine mz_go_blk mz_m137 5 (pc' := (if r6 = 35 then 63 else 88)) (L' := [some (.ref 55), none, some (.int l2), some (.int 0), some (.int r6)]) (S' := []) (sh' := mz_sh) (m' := m4) (g := true) rfl rfl (rfl) ?_
              refine mz_go_if (fun c37 => ?_) (fun c37 => ?_)
              · have h38 := h36.1 c37
                exact mz_go.forget (L := [some (.ref 55), none, some (.int l2), some (.int 0), none]) (mz_lel_cons rfl (mz_lel_cons trivial (mz_lel_cons rfl (mz_lel_cons rfl (mz_lel_cons trivial (mz_lel_nil)))))) h38
              · have h39 := h36.2 c37
                refine mz_go_blk mz_m137 3 (pc' := 4) (L' := [some (.ref 55), none, some (.int l2), some (.int 0), some (.int r6)]) (S' := []) (sh' := mz_sh) (m' := m4) (g := true) rfl rfl (rfl) ?_
                exact mz_go.forget (L := [some (.ref 55), none, some (.int l2), some (.int 0), none]) (mz_lel_cons rfl (mz_lel_cons trivial (mz_lel_cons rfl (mz_lel_cons rfl (mz_lel_cons trivial (mz_lel_nil)))))) h39
set_option maxRecDepth 100000 in
theorem t_M_skip_2 {X : mz_X} {m : mz_M} {Q : Int32 → mz_M → Prop} (l2 : Int32) (l3 : Int32)
    (h : (((m 55 12) ≤ l2 → mz_gi X mz_sh 137 4 [some (.ref 55), none, some (.int l2), some (.int l3), none] m Q) ∧ (¬ ((m 55 12) ≤ l2) → mz_inb l2 4000 = true ∧ (((m 66 l2.toNatClampNeg) = 10 → mz_gi X mz_sh 137 4 [some (.ref 55), none, some (.int l2), some (.int l3), none] m Q) ∧ (¬ ((m 66 l2.toNatClampNeg) = 10) → mz_gi X mz_sh 137 63 [some (.ref 55), none, some (.int (l2 + 1)), some (.int l3), none] m Q))))) :
    mz_gi X mz_sh 137 63 [some (.ref 55), none, some (.int l2), some (.int l3), none] m Q := by
  refine mz_go_blk mz_m137 4 (pc' := (if (m 55 12) ≤ l2 then 95 else 71)) (L' := [some (.ref 55), none, some (.int l2), some (.int l3), none]) (S' := []) (sh' := mz_sh) (m' := m) (g := true) rfl rfl (rfl) ?_
  refine mz_go_if (fun c1 => ?_) (fun c1 => ?_)
  · have h2 := h.1 c1
    refine mz_go_blk mz_m137 1 (pc' := 4) (L' := [some (.ref 55), none, some (.int l2), some (.int l3), none]) (S' := []) (sh' := mz_sh) (m' := m) (g := true) rfl rfl (rfl) ?_
    exact h2
  · have h3 := h.2 c1
    obtain ⟨g4, h5⟩ := h3
    refine mz_go_blk mz_m137 6 (pc' := (if (m 66 l2.toNatClampNeg) = 10 then 95 else 82)) (L' := [some (.ref 55), none, some (.int l2), some (.int l3), none]) (S' := []) (sh' := mz_sh) (m' := m) (g := mz_inb l2 4000 && true) rfl rfl (mz_and2 (g4) (rfl)) ?_
    refine mz_go_if (fun c6 => ?_) (fun c6 => ?_)
    · have h7 := h5.1 c6
      refine mz_go_blk mz_m137 1 (pc' := 4) (L' := [some (.ref 55), none, some (.int l2), some (.int l3), none]) (S' := []) (sh' := mz_sh) (m' := m) (g := true) rfl rfl (rfl) ?_
      exact h7
    · have h8 := h5.2 c6
      refine mz_go_blk mz_m137 2 (pc' := 63) (L' := [some (.ref 55), none, some (.int (l2 + 1)), some (.int l3), none]) (S' := []) (sh' := mz_sh) (m' := m) (g := true) rfl rfl (rfl) ?_
      exact h8
set_option maxRecDepth 100000 in
theorem t_M_wordOf_0 {X : mz_X} {m : mz_M} {Q : Int32 → mz_M → Prop} (a1 : Int32) (a2 : Int32)
    (h : mz_gi X mz_sh 138 5 [some (.ref 55), some (.int a1), some (.int a2), some (.long 0), none, some (.int 0)] m Q) :
    mz_gi X mz_sh 138 0 [some (.ref 55), some (.int a1), some (.int a2), none, none, none] m Q := by
  refine mz_go_blk mz_m138 4 (pc' := 5) (L' := [some (.ref 55), some (.int a1), some (.int a2), some (.long 0), none, some (.int 0)]) (S' := []) (sh' := mz_sh) (m' := m) (g := true) rfl rfl (rfl) ?_
  exact h
set_option maxRecDepth 100000 in
theorem t_M_wordOf_1 {X : mz_X} {m : mz_M} {Q : Int32 → mz_M → Prop} (l1 : Int32) (l2 : Int32) (l3 : Int64) (l5 : Int32)
    (h : ((l2 ≤ l5 → (((lg_cmp l3 482955849332) = 0 → Q 3 m) ∧ (¬ ((lg_cmp l3 482955849332) = 0) → (((lg_cmp l3 26982) = 0 → Q 4 m) ∧ (¬ ((lg_cmp l3 26982) = 0) → (((lg_cmp l3 1701606245) = 0 → Q 5 m) ∧ (¬ ((lg_cmp l3 1701606245) = 0) → (((lg_cmp l3 512852847717) = 0 → Q 6 m) ∧ (¬ ((lg_cmp l3 512852847717) = 0) → (((lg_cmp l3 422826041707) = 0 → Q 7 m) ∧ (¬ ((lg_cmp l3 422826041707) = 0) → (((lg_cmp l3 1852143732) = 0 → Q 8 m) ∧ (¬ ((lg_cmp l3 1852143732) = 0) → Q 1 m))))))))))))) ∧ (¬ (l2 ≤ l5) → ((5 < l2 → (((lg_cmp l3 482955849332) = 0 → Q 3 m) ∧ (¬ ((lg_cmp l3 482955849332) = 0) → (((lg_cmp l3 26982) = 0 → Q 4 m) ∧ (¬ ((lg_cmp l3 26982) = 0) → (((lg_cmp l3 1701606245) = 0 → Q 5 m) ∧ (¬ ((lg_cmp l3 1701606245) = 0) → (((lg_cmp l3 512852847717) = 0 → Q 6 m) ∧ (¬ ((lg_cmp l3 512852847717) = 0) → (((lg_cmp l3 422826041707) = 0 → Q 7 m) ∧ (¬ ((lg_cmp l3 422826041707) = 0) → (((lg_cmp l3 1852143732) = 0 → Q 8 m) ∧ (¬ ((lg_cmp l3 1852143732) = 0) → Q 1 m))))))))))))) ∧ (¬ (5 < l2) → mz_inb (l1 + l5) 4000 = true ∧ mz_gi X mz_sh 138 5 [some (.ref 55), some (.int l1), some (.int l2), some (.long ((l3 <<< ((8 : Int32).toInt64 &&& 63)) ||| ((m 66 ((l1 + l5).toNatClampNeg)).toInt64))), none, some (.int (l5 + 1))] m Q))))) :
    mz_gi X mz_sh 138 5 [some (.ref 55), some (.int l1), some (.int l2), some (.long l3), none, some (.int l5)] m Q := by
  refine mz_go_blk mz_m138 3 (pc' := (if l2 ≤ l5 then 38 else 11)) (L' := [some (.ref 55), some (.int l1), some (.int l2), some (.long l3), none, some (.int l5)]) (S' := []) (sh' := mz_sh) (m' := m) (g := true) rfl rfl (rfl) ?_
  refine mz_go_if (fun c1 => ?_) (fun c1 => ?_)
  · have h2 := h.1 c1
    refine mz_go_blk mz_m138 4 (pc' := (if (lg_cmp l3 482955849332) = 0 then 46 else 48)) (L' := [some (.ref 55), some (.int l1), some (.int l2), some (.long l3), none, some (.int l5)]) (S' := []) (sh' := mz_sh) (m' := m) (g := true) rfl rfl (rfl) ?_
    refine mz_go_if (fun c3 => ?_) (fun c3 => ?_)
    · have h4 := h2.1 c3
      refine mz_go_blk mz_m138 1 (pc' := 47) (L' := [some (.ref 55), some (.int l1), some (.int l2), some (.long l3), none, some (.int l5)]) (S' := [.int 3]) (sh' := mz_sh) (m' := m) (g := true) rfl rfl (rfl) ?_
      exact mz_go_ret mz_m138 rfl rfl rfl ⟨_, rfl, rfl, h4⟩
    · have h5 := h2.2 c3
      refine mz_go_blk mz_m138 4 (pc' := (if (lg_cmp l3 26982) = 0 then 56 else 58)) (L' := [some (.ref 55), some (.int l1), some (.int l2), some (.long l3), none, some (.int l5)]) (S' := []) (sh' := mz_sh) (m' := m) (g := true) rfl rfl (rfl) ?_
      refine mz_go_if (fun c6 => ?_) (fun c6 => ?_)
      · have h7 := h5.1 c6
        refine mz_go_blk mz_m138 1 (pc' := 57) (L' := [some (.ref 55), some (.int l1), some (.int l2), some (.long l3), none, some (.int l5)]) (S' := [.int 4]) (sh' := mz_sh) (m' := m) (g := true) rfl rfl (rfl) ?_
        exact mz_go_ret mz_m138 rfl rfl rfl ⟨_, rfl, rfl, h7⟩
      · have h8 := h5.2 c6
        refine mz_go_blk mz_m138 4 (pc' := (if (lg_cmp l3 1701606245) = 0 then 66 else 68)) (L' := [some (.ref 55), some (.int l1), some (.int l2), some (.long l3), none, some (.int l5)]) (S' := []) (sh' := mz_sh) (m' := m) (g := true) rfl rfl (rfl) ?_
        refine mz_go_if (fun c9 => ?_) (fun c9 => ?_)
        · have h10 := h8.1 c9
          refine mz_go_blk mz_m138 1 (pc' := 67) (L' := [some (.ref 55), some (.int l1), some (.int l2), some (.long l3), none, some (.int l5)]) (S' := [.int 5]) (sh' := mz_sh) (m' := m) (g := true) rfl rfl (rfl) ?_
          exact mz_go_ret mz_m138 rfl rfl rfl ⟨_, rfl, rfl, h10⟩
        · have h11 := h8.2 c9
          refine mz_go_blk mz_m138 4 (pc' := (if (lg_cmp l3 512852847717) = 0 then 76 else 79)) (L' := [some (.ref 55), some (.int l1), some (.int l2), some (.long l3), none, some (.int l5)]) (S' := []) (sh' := mz_sh) (m' := m) (g := true) rfl rfl (rfl) ?_
          refine mz_go_if (fun c12 => ?_) (fun c12 => ?_)
          · have h13 := h11.1 c12
            refine mz_go_blk mz_m138 1 (pc' := 78) (L' := [some (.ref 55), some (.int l1), some (.int l2), some (.long l3), none, some (.int l5)]) (S' := [.int 6]) (sh' := mz_sh) (m' := m) (g := true) rfl rfl (rfl) ?_
            exact mz_go_ret mz_m138 rfl rfl rfl ⟨_, rfl, rfl, h13⟩
          · have h14 := h11.2 c12
            refine mz_go_blk mz_m138 4 (pc' := (if (lg_cmp l3 422826041707) = 0 then 87 else 90)) (L' := [some (.ref 55), some (.int l1), some (.int l2), some (.long l3), none, some (.int l5)]) (S' := []) (sh' := mz_sh) (m' := m) (g := true) rfl rfl (rfl) ?_
            refine mz_go_if (fun c15 => ?_) (fun c15 => ?_)
            · have h16 := h14.1 c15
              refine mz_go_blk mz_m138 1 (pc' := 89) (L' := [some (.ref 55), some (.int l1), some (.int l2), some (.long l3), none, some (.int l5)]) (S' := [.int 7]) (sh' := mz_sh) (m' := m) (g := true) rfl rfl (rfl) ?_
              exact mz_go_ret mz_m138 rfl rfl rfl ⟨_, rfl, rfl, h16⟩
            · have h17 := h14.2 c15
              refine mz_go_blk mz_m138 4 (pc' := (if (lg_cmp l3 1852143732) = 0 then 98 else 103)) (L' := [some (.ref 55), some (.int l1), some (.int l2), some (.long l3), none, some (.int l5)]) (S' := []) (sh' := mz_sh) (m' := m) (g := true) rfl rfl (rfl) ?_
              refine mz_go_if (fun c18 => ?_) (fun c18 => ?_)
              · have h19 := h17.1 c18
                refine mz_go_blk mz_m138 2 (pc' := 104) (L' := [some (.ref 55), some (.int l1), some (.int l2), some (.long l3), none, some (.int l5)]) (S' := [.int 8]) (sh' := mz_sh) (m' := m) (g := true) rfl rfl (rfl) ?_
                exact mz_go_ret mz_m138 rfl rfl rfl ⟨_, rfl, rfl, h19⟩
              · have h20 := h17.2 c18
                refine mz_go_blk mz_m138 1 (pc' := 104) (L' := [some (.ref 55), some (.int l1), some (.int l2), some (.long l3), none, some (.int l5)]) (S' := [.int 1]) (sh' := mz_sh) (m' := m) (g := true) rfl rfl (rfl) ?_
                exact mz_go_ret mz_m138 rfl rfl rfl ⟨_, rfl, rfl, h20⟩
  · have h21 := h.2 c1
    refine mz_go_blk mz_m138 3 (pc' := (if 5 < l2 then 38 else 16)) (L' := [some (.ref 55), some (.int l1), some (.int l2), some (.long l3), none, some (.int l5)]) (S' := []) (sh' := mz_sh) (m' := m) (g := true) rfl rfl (rfl) ?_
    refine mz_go_if (fun c22 => ?_) (fun c22 => ?_)
    · have h23 := h21.1 c22
      refine mz_go_blk mz_m138 4 (pc' := (if (lg_cmp l3 482955849332) = 0 then 46 else 48)) (L' := [some (.ref 55), some (.int l1), some (.int l2), some (.long l3), none, some (.int l5)]) (S' := []) (sh' := mz_sh) (m' := m) (g := true) rfl rfl (rfl) ?_
      refine mz_go_if (fun c24 => ?_) (fun c24 => ?_)
      · have h25 := h23.1 c24
        refine mz_go_blk mz_m138 1 (pc' := 47) (L' := [some (.ref 55), some (.int l1), some (.int l2), some (.long l3), none, some (.int l5)]) (S' := [.int 3]) (sh' := mz_sh) (m' := m) (g := true) rfl rfl (rfl) ?_
        exact mz_go_ret mz_m138 rfl rfl rfl ⟨_, rfl, rfl, h25⟩
      · have h26 := h23.2 c24
        refine mz_go_blk mz_m138 4 (pc' := (if (lg_cmp l3 26982) = 0 then 56 else 58)) (L' := [some (.ref 55), some (.int l1), some (.int l2), some (.long l3), none, some (.int l5)]) (S' := []) (sh' := mz_sh) (m' := m) (g := true) rfl rfl (rfl) ?_
        refine mz_go_if (fun c27 => ?_) (fun c27 => ?_)
        · have h28 := h26.1 c27
          refine mz_go_blk mz_m138 1 (pc' := 57) (L' := [some (.ref 55), some (.int l1), some (.int l2), some (.long l3), none, some (.int l5)]) (S' := [.int 4]) (sh' := mz_sh) (m' := m) (g := true) rfl rfl (rfl) ?_
          exact mz_go_ret mz_m138 rfl rfl rfl ⟨_, rfl, rfl, h28⟩
        · have h29 := h26.2 c27
          refine mz_go_blk mz_m138 4 (pc' := (if (lg_cmp l3 1701606245) = 0 then 66 else 68)) (L' := [some (.ref 55), some (.int l1), some (.int l2), some (.long l3), none, some (.int l5)]) (S' := []) (sh' := mz_sh) (m' := m) (g := true) rfl rfl (rfl) ?_
          refine mz_go_if (fun c30 => ?_) (fun c30 => ?_)
          · have h31 := h29.1 c30
            refine mz_go_blk mz_m138 1 (pc' := 67) (L' := [some (.ref 55), some (.int l1), some (.int l2), some (.long l3), none, some (.int l5)]) (S' := [.int 5]) (sh' := mz_sh) (m' := m) (g := true) rfl rfl (rfl) ?_
            exact mz_go_ret mz_m138 rfl rfl rfl ⟨_, rfl, rfl, h31⟩
          · have h32 := h29.2 c30
            refine mz_go_blk mz_m138 4 (pc' := (if (lg_cmp l3 512852847717) = 0 then 76 else 79)) (L' := [some (.ref 55), some (.int l1), some (.int l2), some (.long l3), none, some (.int l5)]) (S' := []) (sh' := mz_sh) (m' := m) (g := true) rfl rfl (rfl) ?_
            refine mz_go_if (fun c33 => ?_) (fun c33 => ?_)
            · have h34 := h32.1 c33
              refine mz_go_blk mz_m138 1 (pc' := 78) (L' := [some (.ref 55), some (.int l1), some (.int l2), some (.long l3), none, some (.int l5)]) (S' := [.int 6]) (sh' := mz_sh) (m' := m) (g := true) rfl rfl (rfl) ?_
              exact mz_go_ret mz_m138 rfl rfl rfl ⟨_, rfl, rfl, h34⟩
            · have h35 := h32.2 c33
              refine mz_go_blk mz_m138 4 (pc' := (if (lg_cmp l3 422826041707) = 0 then 87 else 90)) (L' := [some (.ref 55), some (.int l1), some (.int l2), some (.long l3), none, some (.int l5)]) (S' := []) (sh' := mz_sh) (m' := m) (g := true) rfl rfl (rfl) ?_
              refine mz_go_if (fun c36 => ?_) (fun c36 => ?_)
              · have h37 := h35.1 c36
                refine mz_go_blk mz_m138 1 (pc' := 89) (L' := [some (.ref 55), some (.int l1), some (.int l2), some (.long l3), none, some (.int l5)]) (S' := [.int 7]) (sh' := mz_sh) (m' := m) (g := true) rfl rfl (rfl) ?_
                exact mz_go_ret mz_m138 rfl rfl rfl ⟨_, rfl, rfl, h37⟩
              · have h38 := h35.2 c36
                refine mz_go_blk mz_m138 4 (pc' := (if (lg_cmp l3 1852143732) = 0 then 98 else 103)) (L' := [some (.ref 55), some (.int l1), some (.int l2), some (.long l3), none, some (.int l5)]) (S' := []) (sh' := mz_sh) (m' := m) (g := true) rfl rfl (rfl) ?_
                refine mz_go_if (fun c39 => ?_) (fun c39 => ?_)
                · have h40 := h38.1 c39
                  refine mz_go_blk mz_m138 2 (pc' := 104) (L' := [some (.ref 55), some (.int l1), some (.int l2), some (.long l3), none, some (.int l5)]) (S' := [.int 8]) (sh' := mz_sh) (m' := m) (g := true) rfl rfl (rfl) ?_
                  exact mz_go_ret mz_m138 rfl rfl rfl ⟨_, rfl, rfl, h40⟩
                · have h41 := h38.2 c39
                  refine mz_go_blk mz_m138 1 (pc' := 104) (L' := [some (.ref 55), some (.int l1), some (.int l2), some (.long l3), none, some (.int l5)]) (S' := [.int 1]) (sh' := mz_sh) (m' := m) (g := true) rfl rfl (rfl) ?_
                  exact mz_go_ret mz_m138 rfl rfl rfl ⟨_, rfl, rfl, h41⟩
    · have h42 := h21.2 c22
      obtain ⟨g43, h44⟩ := h42
      refine mz_go_blk mz_m138 14 (pc' := 5) (L' := [some (.ref 55), some (.int l1), some (.int l2), some (.long ((l3 <<< ((8 : Int32).toInt64 &&& 63)) ||| ((m 66 ((l1 + l5).toNatClampNeg)).toInt64))), none, some (.int (l5 + 1))]) (S' := []) (sh' := mz_sh) (m' := m) (g := mz_inb (l1 + l5) 4000 && true) rfl rfl (mz_and2 (g43) (rfl)) ?_
      exact h44
set_option maxRecDepth 100000 in
theorem t_M_slotOf_0 {X : mz_X} {m : mz_M} {Q : Int32 → mz_M → Prop} (a1 : Int32) (a2 : Int32)
    (h : mz_gi X mz_sh 139 2 [some (.ref 55), some (.int a1), some (.int a2), some (.int 0), none, none] m Q) :
    mz_gi X mz_sh 139 0 [some (.ref 55), some (.int a1), some (.int a2), none, none, none] m Q := by
  refine mz_go_blk mz_m139 2 (pc' := 2) (L' := [some (.ref 55), some (.int a1), some (.int a2), some (.int 0), none, none]) (S' := []) (sh' := mz_sh) (m' := m) (g := true) rfl rfl (rfl) ?_
  exact h
set_option maxRecDepth 100000 in
theorem t_M_slotOf_1 {X : mz_X} {m : mz_M} {Q : Int32 → mz_M → Prop} (l1 : Int32) (l2 : Int32) (l3 : Int32)
    (h : (((m 55 21) ≤ l3 → (((m 55 21) = 32 → Q (-1) m) ∧ (¬ ((m 55 21) = 32) → mz_inb (m 55 21) 32 = true ∧ mz_inb (m 55 21) 32 = true ∧ Q (((m 55 21) + 1) - 1) (mz_up (mz_up (mz_up m 71 ((m 55 21).toNatClampNeg) l1) 72 ((m 55 21).toNatClampNeg) l2) 55 21 ((m 55 21) + 1))))) ∧ (¬ ((m 55 21) ≤ l3) → mz_inb l3 32 = true ∧ (((m 72 l3.toNatClampNeg) = l2 → mz_gi X mz_sh 139 30 [some (.ref 55), some (.int l1), some (.int l2), some (.int l3), some (.int 1), some (.int 0)] m Q) ∧ (¬ ((m 72 l3.toNatClampNeg) = l2) → mz_gi X mz_sh 139 30 [some (.ref 55), some (.int l1), some (.int l2), some (.int l3), some (.int 0), some (.int 0)] m Q))))) :
    mz_gi X mz_sh 139 2 [some (.ref 55), some (.int l1), some (.int l2), some (.int l3), none, none] m Q := by
  refine mz_go_blk mz_m139 4 (pc' := (if (m 55 21) ≤ l3 then 93 else 10)) (L' := [some (.ref 55), some (.int l1), some (.int l2), some (.int l3), none, none]) (S' := []) (sh' := mz_sh) (m' := m) (g := true) rfl rfl (rfl) ?_
  refine mz_go_if (fun c1 => ?_) (fun c1 => ?_)
  · have h2 := h.1 c1
    refine mz_go_blk mz_m139 4 (pc' := (if (m 55 21) = 32 then 102 else 104)) (L' := [some (.ref 55), some (.int l1), some (.int l2), some (.int l3), none, none]) (S' := []) (sh' := mz_sh) (m' := m) (g := true) rfl rfl (rfl) ?_
    refine mz_go_if (fun c3 => ?_) (fun c3 => ?_)
    · have h4 := h2.1 c3
      refine mz_go_blk mz_m139 1 (pc' := 103) (L' := [some (.ref 55), some (.int l1), some (.int l2), some (.int l3), none, none]) (S' := [.int (-1)]) (sh' := mz_sh) (m' := m) (g := true) rfl rfl (rfl) ?_
      exact mz_go_ret mz_m139 rfl rfl rfl ⟨_, rfl, rfl, h4⟩
    · have h5 := h2.2 c3
      obtain ⟨g6, g7, h8⟩ := h5
      refine mz_go_blk mz_m139 22 (pc' := 140) (L' := [some (.ref 55), some (.int l1), some (.int l2), some (.int l3), none, none]) (S' := [.int (((m 55 21) + 1) - 1)]) (sh' := mz_sh) (m' := mz_up (mz_up (mz_up m 71 ((m 55 21).toNatClampNeg) l1) 72 ((m 55 21).toNatClampNeg) l2) 55 21 ((m 55 21) + 1)) (g := mz_inb (m 55 21) 32 && (mz_inb (m 55 21) 32 && true)) rfl rfl (mz_and2 (g7) (mz_and2 (g6) (rfl))) ?_
      exact mz_go_ret mz_m139 rfl rfl rfl ⟨_, rfl, rfl, h8⟩
  · have h9 := h.2 c1
    obtain ⟨g10, h11⟩ := h9
    refine mz_go_blk mz_m139 6 (pc' := (if (m 72 l3.toNatClampNeg) = l2 then 20 else 24)) (L' := [some (.ref 55), some (.int l1), some (.int l2), some (.int l3), none, none]) (S' := []) (sh' := mz_sh) (m' := m) (g := mz_inb l3 32 && true) rfl rfl (mz_and2 (g10) (rfl)) ?_
    refine mz_go_if (fun c12 => ?_) (fun c12 => ?_)
    · have h13 := h11.1 c12
      refine mz_go_blk mz_m139 5 (pc' := 30) (L' := [some (.ref 55), some (.int l1), some (.int l2), some (.int l3), some (.int 1), some (.int 0)]) (S' := []) (sh' := mz_sh) (m' := m) (g := true) rfl rfl (rfl) ?_
      exact h13
    · have h14 := h11.2 c12
      refine mz_go_blk mz_m139 4 (pc' := 30) (L' := [some (.ref 55), some (.int l1), some (.int l2), some (.int l3), some (.int 0), some (.int 0)]) (S' := []) (sh' := mz_sh) (m' := m) (g := true) rfl rfl (rfl) ?_
      exact h14
set_option maxRecDepth 100000 in
theorem t_M_slotOf_2 {X : mz_X} {m : mz_M} {Q : Int32 → mz_M → Prop} (l1 : Int32) (l2 : Int32) (l3 : Int32) (l4 : Int32) (l5 : Int32)
    (h : ((l2 ≤ l5 → ((l4 = 0 → mz_gi X mz_sh 139 2 [some (.ref 55), some (.int l1), some (.int l2), some (.int (l3 + 1)), none, none] m Q) ∧ (¬ (l4 = 0) → Q l3 m))) ∧ (¬ (l2 ≤ l5) → ((l4 = 0 → ((l4 = 0 → mz_gi X mz_sh 139 2 [some (.ref 55), some (.int l1), some (.int l2), some (.int (l3 + 1)), none, none] m Q) ∧ (¬ (l4 = 0) → Q l3 m))) ∧ (¬ (l4 = 0) → mz_inb l3 32 = true ∧ mz_inb ((m 71 l3.toNatClampNeg) + l5) 4000 = true ∧ mz_inb (l1 + l5) 4000 = true ∧ (((m 66 (((m 71 l3.toNatClampNeg) + l5).toNatClampNeg)) = (m 66 ((l1 + l5).toNatClampNeg)) → mz_gi X mz_sh 139 30 [some (.ref 55), some (.int l1), some (.int l2), some (.int l3), some (.int 1), some (.int (l5 + 1))] m Q) ∧ (¬ ((m 66 (((m 71 l3.toNatClampNeg) + l5).toNatClampNeg)) = (m 66 ((l1 + l5).toNatClampNeg))) → mz_gi X mz_sh 139 30 [some (.ref 55), some (.int l1), some (.int l2), some (.int l3), some (.int 0), some (.int (l5 + 1))] m Q))))))) :
    mz_gi X mz_sh 139 30 [some (.ref 55), some (.int l1), some (.int l2), some (.int l3), some (.int l4), some (.int l5)] m Q := by
  refine mz_go_blk mz_m139 3 (pc' := (if l2 ≤ l5 then 80 else 36)) (L' := [some (.ref 55), some (.int l1), some (.int l2), some (.int l3), some (.int l4), some (.int l5)]) (S' := []) (sh' := mz_sh) (m' := m) (g := true) rfl rfl (rfl) ?_
  refine mz_go_if (fun c1 => ?_) (fun c1 => ?_)
  · have h2 := h.1 c1
    refine mz_go_blk mz_m139 2 (pc' := (if l4 = 0 then 87 else 85)) (L' := [some (.ref 55), some (.int l1), some (.int l2), some (.int l3), some (.int l4), some (.int l5)]) (S' := []) (sh' := mz_sh) (m' := m) (g := true) rfl rfl (rfl) ?_
    refine mz_go_if (fun c3 => ?_) (fun c3 => ?_)
    · have h4 := h2.1 c3
      refine mz_go_blk mz_m139 2 (pc' := 2) (L' := [some (.ref 55), some (.int l1), some (.int l2), some (.int (l3 + 1)), some (.int l4), some (.int l5)]) (S' := []) (sh' := mz_sh) (m' := m) (g := true) rfl rfl (rfl) ?_
      exact mz_go.forget (L := [some (.ref 55), some (.int l1), some (.int l2), some (.int (l3 + 1)), none, none]) (mz_lel_cons rfl (mz_lel_cons rfl (mz_lel_cons rfl (mz_lel_cons rfl (mz_lel_cons trivial (mz_lel_cons trivial (mz_lel_nil))))))) h4
    · have h5 := h2.2 c3
      refine mz_go_blk mz_m139 1 (pc' := 86) (L' := [some (.ref 55), some (.int l1), some (.int l2), some (.int l3), some (.int l4), some (.int l5)]) (S' := [.int l3]) (sh' := mz_sh) (m' := m) (g := true) rfl rfl (rfl) ?_
      exact mz_go_ret mz_m139 rfl rfl rfl ⟨_, rfl, rfl, h5⟩
  · have h6 := h.2 c1
    refine mz_go_blk mz_m139 2 (pc' := (if l4 = 0 then 80 else 41)) (L' := [some (.ref 55), some (.int l1), some (.int l2), some (.int l3), some (.int l4), some (.int l5)]) (S' := []) (sh' := mz_sh) (m' := m) (g := true) rfl rfl (rfl) ?_
    refine mz_go_if (fun c7 => ?_) (fun c7 => ?_)
    · have h8 := h6.1 c7
      refine mz_go_blk mz_m139 2 (pc' := (if l4 = 0 then 87 else 85)) (L' := [some (.ref 55), some (.int l1), some (.int l2), some (.int l3), some (.int l4), some (.int l5)]) (S' := []) (sh' := mz_sh) (m' := m) (g := true) rfl rfl (rfl) ?_
      refine mz_go_if (fun c9 => ?_) (fun c9 => ?_)
      · have h10 := h8.1 c9
        refine mz_go_blk mz_m139 2 (pc' := 2) (L' := [some (.ref 55), some (.int l1), some (.int l2), some (.int (l3 + 1)), some (.int l4), some (.int l5)]) (S' := []) (sh' := mz_sh) (m' := m) (g := true) rfl rfl (rfl) ?_
        exact mz_go.forget (L := [some (.ref 55), some (.int l1), some (.int l2), some (.int (l3 + 1)), none, none]) (mz_lel_cons rfl (mz_lel_cons rfl (mz_lel_cons rfl (mz_lel_cons rfl (mz_lel_cons trivial (mz_lel_cons trivial (mz_lel_nil))))))) h10
      · have h11 := h8.2 c9
        refine mz_go_blk mz_m139 1 (pc' := 86) (L' := [some (.ref 55), some (.int l1), some (.int l2), some (.int l3), some (.int l4), some (.int l5)]) (S' := [.int l3]) (sh' := mz_sh) (m' := m) (g := true) rfl rfl (rfl) ?_
        exact mz_go_ret mz_m139 rfl rfl rfl ⟨_, rfl, rfl, h11⟩
    · have h12 := h6.2 c7
      obtain ⟨g13, g14, g15, h16⟩ := h12
      refine mz_go_blk mz_m139 16 (pc' := (if (m 66 (((m 71 l3.toNatClampNeg) + l5).toNatClampNeg)) = (m 66 ((l1 + l5).toNatClampNeg)) then 67 else 71)) (L' := [some (.ref 55), some (.int l1), some (.int l2), some (.int l3), some (.int l4), some (.int l5)]) (S' := []) (sh' := mz_sh) (m' := m) (g := mz_inb (l1 + l5) 4000 && (mz_inb ((m 71 l3.toNatClampNeg) + l5) 4000 && (mz_inb l3 32 && true))) rfl rfl (mz_and2 (g15) (mz_and2 (g14) (mz_and2 (g13) (rfl)))) ?_
      refine mz_go_if (fun c17 => ?_) (fun c17 => ?_)
      · have h18 := h16.1 c17
        refine mz_go_blk mz_m139 5 (pc' := 30) (L' := [some (.ref 55), some (.int l1), some (.int l2), some (.int l3), some (.int 1), some (.int (l5 + 1))]) (S' := []) (sh' := mz_sh) (m' := m) (g := true) rfl rfl (rfl) ?_
        exact h18
      · have h19 := h16.2 c17
        refine mz_go_blk mz_m139 4 (pc' := 30) (L' := [some (.ref 55), some (.int l1), some (.int l2), some (.int l3), some (.int 0), some (.int (l5 + 1))]) (S' := []) (sh' := mz_sh) (m' := m) (g := true) rfl rfl (rfl) ?_
        exact h19
set_option maxRecDepth 100000 in
theorem t_M_signKind_0 {X : mz_X} {m : mz_M} {Q : Int32 → mz_M → Prop} (a0 : Int32) (a1 : Int32)
    (h : ((a0 = 33 → Q 18 m) ∧ (a0 = 37 → Q 17 m) ∧ (a0 = 38 → ((a1 = 38 → Q 10 m) ∧ (¬ (a1 = 38) → Q (-1) m))) ∧ (a0 = 40 → Q 21 m) ∧ (a0 = 41 → Q 22 m) ∧ (a0 = 42 → Q 15 m) ∧ (a0 = 43 → Q 13 m) ∧ (a0 = 45 → Q 14 m) ∧ (a0 = 47 → Q 16 m) ∧ (a0 = 59 → Q 20 m) ∧ (a0 = 60 → Q 12 m) ∧ (a0 = 61 → ((a1 = 61 → Q 11 m) ∧ (¬ (a1 = 61) → Q 19 m))) ∧ (a0 = 123 → Q 23 m) ∧ (a0 = 124 → ((a1 = 124 → Q 9 m) ∧ (¬ (a1 = 124) → Q (-1) m))) ∧ (a0 = 125 → Q 24 m) ∧ (¬ a0 = 33 → ¬ a0 = 37 → ¬ a0 = 38 → ¬ a0 = 40 → ¬ a0 = 41 → ¬ a0 = 42 → ¬ a0 = 43 → ¬ a0 = 45 → ¬ a0 = 47 → ¬ a0 = 59 → ¬ a0 = 60 → ¬ a0 = 61 → ¬ a0 = 123 → ¬ a0 = 124 → ¬ a0 = 125 → Q (-1) m))) :
    mz_gi X mz_sh 140 0 [some (.int a0), some (.int a1)] m Q := by
  refine mz_go_blk mz_m140 2 (pc' := (((1 : Int) + Op.lookupswitch.offset (#[(33, 189), (37, 186), (38, 144), (40, 195), (41, 198), (42, 180), (43, 174), (45, 177), (47, 183), (59, 192), (60, 171), (61, 157), (123, 201), (124, 131), (125, 204)] : Array (Int × Int)).toList 207 (a0).toInt).toNat)) (L' := [some (.int a0), some (.int a1)]) (S' := []) (sh' := mz_sh) (m' := m) (g := true) rfl rfl (rfl) ?_
  by_cases c2 : a0 = 33
  · have h1 := h.1 c2
    rw [show ((1 : Int) + Op.lookupswitch.offset (#[(33, 189), (37, 186), (38, 144), (40, 195), (41, 198), (42, 180), (43, 174), (45, 177), (47, 183), (59, 192), (60, 171), (61, 157), (123, 201), (124, 131), (125, 204)] : Array (Int × Int)).toList 207 (a0).toInt).toNat = 190 by rw [c2]; decide +kernel]
    refine mz_go_blk mz_m140 1 (pc' := 192) (L' := [some (.int a0), some (.int a1)]) (S' := [.int 18]) (sh' := mz_sh) (m' := m) (g := true) rfl rfl (rfl) ?_
    exact mz_go_ret mz_m140 rfl rfl rfl ⟨_, rfl, rfl, h1⟩
  have h3 := h.2
  by_cases c5 : a0 = 37
  · have h4 := h3.1 c5
    rw [show ((1 : Int) + Op.lookupswitch.offset (#[(33, 189), (37, 186), (38, 144), (40, 195), (41, 198), (42, 180), (43, 174), (45, 177), (47, 183), (59, 192), (60, 171), (61, 157), (123, 201), (124, 131), (125, 204)] : Array (Int × Int)).toList 207 (a0).toInt).toNat = 187 by rw [c5]; decide +kernel]
    refine mz_go_blk mz_m140 1 (pc' := 189) (L' := [some (.int a0), some (.int a1)]) (S' := [.int 17]) (sh' := mz_sh) (m' := m) (g := true) rfl rfl (rfl) ?_
    exact mz_go_ret mz_m140 rfl rfl rfl ⟨_, rfl, rfl, h4⟩
  have h6 := h3.2
  by_cases c8 : a0 = 38
  · have h7 := h6.1 c8
    rw [show ((1 : Int) + Op.lookupswitch.offset (#[(33, 189), (37, 186), (38, 144), (40, 195), (41, 198), (42, 180), (43, 174), (45, 177), (47, 183), (59, 192), (60, 171), (61, 157), (123, 201), (124, 131), (125, 204)] : Array (Int × Int)).toList 207 (a0).toInt).toNat = 145 by rw [c8]; decide +kernel]
    refine mz_go_blk mz_m140 3 (pc' := (if a1 = 38 then 151 else 156)) (L' := [some (.int a0), some (.int a1)]) (S' := []) (sh' := mz_sh) (m' := m) (g := true) rfl rfl (rfl) ?_
    refine mz_go_if (fun c9 => ?_) (fun c9 => ?_)
    · have h10 := h7.1 c9
      refine mz_go_blk mz_m140 2 (pc' := 157) (L' := [some (.int a0), some (.int a1)]) (S' := [.int 10]) (sh' := mz_sh) (m' := m) (g := true) rfl rfl (rfl) ?_
      exact mz_go_ret mz_m140 rfl rfl rfl ⟨_, rfl, rfl, h10⟩
    · have h11 := h7.2 c9
      refine mz_go_blk mz_m140 1 (pc' := 157) (L' := [some (.int a0), some (.int a1)]) (S' := [.int (-1)]) (sh' := mz_sh) (m' := m) (g := true) rfl rfl (rfl) ?_
      exact mz_go_ret mz_m140 rfl rfl rfl ⟨_, rfl, rfl, h11⟩
  have h12 := h6.2
  by_cases c14 : a0 = 40
  · have h13 := h12.1 c14
    rw [show ((1 : Int) + Op.lookupswitch.offset (#[(33, 189), (37, 186), (38, 144), (40, 195), (41, 198), (42, 180), (43, 174), (45, 177), (47, 183), (59, 192), (60, 171), (61, 157), (123, 201), (124, 131), (125, 204)] : Array (Int × Int)).toList 207 (a0).toInt).toNat = 196 by rw [c14]; decide +kernel]
    refine mz_go_blk mz_m140 1 (pc' := 198) (L' := [some (.int a0), some (.int a1)]) (S' := [.int 21]) (sh' := mz_sh) (m' := m) (g := true) rfl rfl (rfl) ?_
    exact mz_go_ret mz_m140 rfl rfl rfl ⟨_, rfl, rfl, h13⟩
  have h15 := h12.2
  by_cases c17 : a0 = 41
  · have h16 := h15.1 c17
    rw [show ((1 : Int) + Op.lookupswitch.offset (#[(33, 189), (37, 186), (38, 144), (40, 195), (41, 198), (42, 180), (43, 174), (45, 177), (47, 183), (59, 192), (60, 171), (61, 157), (123, 201), (124, 131), (125, 204)] : Array (Int × Int)).toList 207 (a0).toInt).toNat = 199 by rw [c17]; decide +kernel]
    refine mz_go_blk mz_m140 1 (pc' := 201) (L' := [some (.int a0), some (.int a1)]) (S' := [.int 22]) (sh' := mz_sh) (m' := m) (g := true) rfl rfl (rfl) ?_
    exact mz_go_ret mz_m140 rfl rfl rfl ⟨_, rfl, rfl, h16⟩
  have h18 := h15.2
  by_cases c20 : a0 = 42
  · have h19 := h18.1 c20
    rw [show ((1 : Int) + Op.lookupswitch.offset (#[(33, 189), (37, 186), (38, 144), (40, 195), (41, 198), (42, 180), (43, 174), (45, 177), (47, 183), (59, 192), (60, 171), (61, 157), (123, 201), (124, 131), (125, 204)] : Array (Int × Int)).toList 207 (a0).toInt).toNat = 181 by rw [c20]; decide +kernel]
    refine mz_go_blk mz_m140 1 (pc' := 183) (L' := [some (.int a0), some (.int a1)]) (S' := [.int 15]) (sh' := mz_sh) (m' := m) (g := true) rfl rfl (rfl) ?_
    exact mz_go_ret mz_m140 rfl rfl rfl ⟨_, rfl, rfl, h19⟩
  have h21 := h18.2
  by_cases c23 : a0 = 43
  · have h22 := h21.1 c23
    rw [show ((1 : Int) + Op.lookupswitch.offset (#[(33, 189), (37, 186), (38, 144), (40, 195), (41, 198), (42, 180), (43, 174), (45, 177), (47, 183), (59, 192), (60, 171), (61, 157), (123, 201), (124, 131), (125, 204)] : Array (Int × Int)).toList 207 (a0).toInt).toNat = 175 by rw [c23]; decide +kernel]
    refine mz_go_blk mz_m140 1 (pc' := 177) (L' := [some (.int a0), some (.int a1)]) (S' := [.int 13]) (sh' := mz_sh) (m' := m) (g := true) rfl rfl (rfl) ?_
    exact mz_go_ret mz_m140 rfl rfl rfl ⟨_, rfl, rfl, h22⟩
  have h24 := h21.2
  by_cases c26 : a0 = 45
  · have h25 := h24.1 c26
    rw [show ((1 : Int) + Op.lookupswitch.offset (#[(33, 189), (37, 186), (38, 144), (40, 195), (41, 198), (42, 180), (43, 174), (45, 177), (47, 183), (59, 192), (60, 171), (61, 157), (123, 201), (124, 131), (125, 204)] : Array (Int × Int)).toList 207 (a0).toInt).toNat = 178 by rw [c26]; decide +kernel]
    refine mz_go_blk mz_m140 1 (pc' := 180) (L' := [some (.int a0), some (.int a1)]) (S' := [.int 14]) (sh' := mz_sh) (m' := m) (g := true) rfl rfl (rfl) ?_
    exact mz_go_ret mz_m140 rfl rfl rfl ⟨_, rfl, rfl, h25⟩
  have h27 := h24.2
  by_cases c29 : a0 = 47
  · have h28 := h27.1 c29
    rw [show ((1 : Int) + Op.lookupswitch.offset (#[(33, 189), (37, 186), (38, 144), (40, 195), (41, 198), (42, 180), (43, 174), (45, 177), (47, 183), (59, 192), (60, 171), (61, 157), (123, 201), (124, 131), (125, 204)] : Array (Int × Int)).toList 207 (a0).toInt).toNat = 184 by rw [c29]; decide +kernel]
    refine mz_go_blk mz_m140 1 (pc' := 186) (L' := [some (.int a0), some (.int a1)]) (S' := [.int 16]) (sh' := mz_sh) (m' := m) (g := true) rfl rfl (rfl) ?_
    exact mz_go_ret mz_m140 rfl rfl rfl ⟨_, rfl, rfl, h28⟩
  have h30 := h27.2
  by_cases c32 : a0 = 59
  · have h31 := h30.1 c32
    rw [show ((1 : Int) + Op.lookupswitch.offset (#[(33, 189), (37, 186), (38, 144), (40, 195), (41, 198), (42, 180), (43, 174), (45, 177), (47, 183), (59, 192), (60, 171), (61, 157), (123, 201), (124, 131), (125, 204)] : Array (Int × Int)).toList 207 (a0).toInt).toNat = 193 by rw [c32]; decide +kernel]
    refine mz_go_blk mz_m140 1 (pc' := 195) (L' := [some (.int a0), some (.int a1)]) (S' := [.int 20]) (sh' := mz_sh) (m' := m) (g := true) rfl rfl (rfl) ?_
    exact mz_go_ret mz_m140 rfl rfl rfl ⟨_, rfl, rfl, h31⟩
  have h33 := h30.2
  by_cases c35 : a0 = 60
  · have h34 := h33.1 c35
    rw [show ((1 : Int) + Op.lookupswitch.offset (#[(33, 189), (37, 186), (38, 144), (40, 195), (41, 198), (42, 180), (43, 174), (45, 177), (47, 183), (59, 192), (60, 171), (61, 157), (123, 201), (124, 131), (125, 204)] : Array (Int × Int)).toList 207 (a0).toInt).toNat = 172 by rw [c35]; decide +kernel]
    refine mz_go_blk mz_m140 1 (pc' := 174) (L' := [some (.int a0), some (.int a1)]) (S' := [.int 12]) (sh' := mz_sh) (m' := m) (g := true) rfl rfl (rfl) ?_
    exact mz_go_ret mz_m140 rfl rfl rfl ⟨_, rfl, rfl, h34⟩
  have h36 := h33.2
  by_cases c38 : a0 = 61
  · have h37 := h36.1 c38
    rw [show ((1 : Int) + Op.lookupswitch.offset (#[(33, 189), (37, 186), (38, 144), (40, 195), (41, 198), (42, 180), (43, 174), (45, 177), (47, 183), (59, 192), (60, 171), (61, 157), (123, 201), (124, 131), (125, 204)] : Array (Int × Int)).toList 207 (a0).toInt).toNat = 158 by rw [c38]; decide +kernel]
    refine mz_go_blk mz_m140 3 (pc' := (if a1 = 61 then 164 else 169)) (L' := [some (.int a0), some (.int a1)]) (S' := []) (sh' := mz_sh) (m' := m) (g := true) rfl rfl (rfl) ?_
    refine mz_go_if (fun c39 => ?_) (fun c39 => ?_)
    · have h40 := h37.1 c39
      refine mz_go_blk mz_m140 2 (pc' := 171) (L' := [some (.int a0), some (.int a1)]) (S' := [.int 11]) (sh' := mz_sh) (m' := m) (g := true) rfl rfl (rfl) ?_
      exact mz_go_ret mz_m140 rfl rfl rfl ⟨_, rfl, rfl, h40⟩
    · have h41 := h37.2 c39
      refine mz_go_blk mz_m140 1 (pc' := 171) (L' := [some (.int a0), some (.int a1)]) (S' := [.int 19]) (sh' := mz_sh) (m' := m) (g := true) rfl rfl (rfl) ?_
      exact mz_go_ret mz_m140 rfl rfl rfl ⟨_, rfl, rfl, h41⟩
  have h42 := h36.2
  by_cases c44 : a0 = 123
  · have h43 := h42.1 c44
    rw [show ((1 : Int) + Op.lookupswitch.offset (#[(33, 189), (37, 186), (38, 144), (40, 195), (41, 198), (42, 180), (43, 174), (45, 177), (47, 183), (59, 192), (60, 171), (61, 157), (123, 201), (124, 131), (125, 204)] : Array (Int × Int)).toList 207 (a0).toInt).toNat = 202 by rw [c44]; decide +kernel]
    refine mz_go_blk mz_m140 1 (pc' := 204) (L' := [some (.int a0), some (.int a1)]) (S' := [.int 23]) (sh' := mz_sh) (m' := m) (g := true) rfl rfl (rfl) ?_
    exact mz_go_ret mz_m140 rfl rfl rfl ⟨_, rfl, rfl, h43⟩
  have h45 := h42.2
  by_cases c47 : a0 = 124
  · have h46 := h45.1 c47
    rw [show ((1 : Int) + Op.lookupswitch.offset (#[(33, 189), (37, 186), (38, 144), (40, 195), (41, 198), (42, 180), (43, 174), (45, 177), (47, 183), (59, 192), (60, 171), (61, 157), (123, 201), (124, 131), (125, 204)] : Array (Int × Int)).toList 207 (a0).toInt).toNat = 132 by rw [c47]; decide +kernel]
    refine mz_go_blk mz_m140 3 (pc' := (if a1 = 124 then 138 else 143)) (L' := [some (.int a0), some (.int a1)]) (S' := []) (sh' := mz_sh) (m' := m) (g := true) rfl rfl (rfl) ?_
    refine mz_go_if (fun c48 => ?_) (fun c48 => ?_)
    · have h49 := h46.1 c48
      refine mz_go_blk mz_m140 2 (pc' := 144) (L' := [some (.int a0), some (.int a1)]) (S' := [.int 9]) (sh' := mz_sh) (m' := m) (g := true) rfl rfl (rfl) ?_
      exact mz_go_ret mz_m140 rfl rfl rfl ⟨_, rfl, rfl, h49⟩
    · have h50 := h46.2 c48
      refine mz_go_blk mz_m140 1 (pc' := 144) (L' := [some (.int a0), some (.int a1)]) (S' := [.int (-1)]) (sh' := mz_sh) (m' := m) (g := true) rfl rfl (rfl) ?_
      exact mz_go_ret mz_m140 rfl rfl rfl ⟨_, rfl, rfl, h50⟩
  have h51 := h45.2
  by_cases c53 : a0 = 125
  · have h52 := h51.1 c53
    rw [show ((1 : Int) + Op.lookupswitch.offset (#[(33, 189), (37, 186), (38, 144), (40, 195), (41, 198), (42, 180), (43, 174), (45, 177), (47, 183), (59, 192), (60, 171), (61, 157), (123, 201), (124, 131), (125, 204)] : Array (Int × Int)).toList 207 (a0).toInt).toNat = 205 by rw [c53]; decide +kernel]
    refine mz_go_blk mz_m140 1 (pc' := 207) (L' := [some (.int a0), some (.int a1)]) (S' := [.int 24]) (sh' := mz_sh) (m' := m) (g := true) rfl rfl (rfl) ?_
    exact mz_go_ret mz_m140 rfl rfl rfl ⟨_, rfl, rfl, h52⟩
  have h54 := h51.2
  have h54d := h54 c2 c5 c8 c14 c17 c20 c23 c26 c29 c32 c35 c38 c44 c47 c53
  rw [show ((1 : Int) + Op.lookupswitch.offset (#[(33, 189), (37, 186), (38, 144), (40, 195), (41, 198), (42, 180), (43, 174), (45, 177), (47, 183), (59, 192), (60, 171), (61, 157), (123, 201), (124, 131), (125, 204)] : Array (Int × Int)).toList 207 (a0).toInt).toNat = 208 from mz_lswd _ _ _ a0 (by simp only [List.all_cons, List.all_nil, Bool.and_true, Bool.and_eq_true, decide_eq_true_eq]; exact ⟨fun z => c2 (mz_tI (by rw [z]; decide +kernel)), fun z => c5 (mz_tI (by rw [z]; decide +kernel)), fun z => c8 (mz_tI (by rw [z]; decide +kernel)), fun z => c14 (mz_tI (by rw [z]; decide +kernel)), fun z => c17 (mz_tI (by rw [z]; decide +kernel)), fun z => c20 (mz_tI (by rw [z]; decide +kernel)), fun z => c23 (mz_tI (by rw [z]; decide +kernel)), fun z => c26 (mz_tI (by rw [z]; decide +kernel)), fun z => c29 (mz_tI (by rw [z]; decide +kernel)), fun z => c32 (mz_tI (by rw [z]; decide +kernel)), fun z => c35 (mz_tI (by rw [z]; decide +kernel)), fun z => c38 (mz_tI (by rw [z]; decide +kernel)), fun z => c44 (mz_tI (by rw [z]; decide +kernel)), fun z => c47 (mz_tI (by rw [z]; decide +kernel)), fun z => c53 (mz_tI (by rw [z]; decide +kernel))⟩) (by decide)]
  refine mz_go_blk mz_m140 1 (pc' := 209) (L' := [some (.int a0), some (.int a1)]) (S' := [.int (-1)]) (sh' := mz_sh) (m' := m) (g := true) rfl rfl (rfl) ?_
  exact mz_go_ret mz_m140 rfl rfl rfl ⟨_, rfl, rfl, h54d⟩
set_option maxRecDepth 100000 in
theorem t_M_add_0 {X : mz_X} {m : mz_M} {Q : mz_M → Prop} (a1 : Int32) (a2 : Int32) (a3 : Int32) (a4 : Int32)
    (h : mz_inb (m 55 18) 4001 = true ∧ mz_inb (m 55 18) 4001 = true ∧ mz_inb (m 55 18) 4001 = true ∧ mz_inb (m 55 18) 4001 = true ∧ Q (mz_up (mz_up (mz_up (mz_up (mz_up m 67 ((m 55 18).toNatClampNeg) a1) 68 ((m 55 18).toNatClampNeg) a2) 69 ((m 55 18).toNatClampNeg) a3) 70 ((m 55 18).toNatClampNeg) a4) 55 18 ((m 55 18) + 1))) :
    mz_gv X mz_sh 141 0 [some (.ref 55), some (.int a1), some (.int a2), some (.int a3), some (.int a4)] m Q := by
  obtain ⟨g1, g2, g3, g4, h5⟩ := h
  refine mz_go_blk mz_m141 30 (pc' := 51) (L' := [some (.ref 55), some (.int a1), some (.int a2), some (.int a3), some (.int a4)]) (S' := []) (sh' := mz_sh) (m' := mz_up (mz_up (mz_up (mz_up (mz_up m 67 ((m 55 18).toNatClampNeg) a1) 68 ((m 55 18).toNatClampNeg) a2) 69 ((m 55 18).toNatClampNeg) a3) 70 ((m 55 18).toNatClampNeg) a4) 55 18 ((m 55 18) + 1)) (g := mz_inb (m 55 18) 4001 && (mz_inb (m 55 18) 4001 && (mz_inb (m 55 18) 4001 && (mz_inb (m 55 18) 4001 && true)))) rfl rfl (mz_and2 (g4) (mz_and2 (g3) (mz_and2 (g2) (mz_and2 (g1) (rfl))))) ?_
  exact mz_go_ret mz_m141 rfl rfl rfl ⟨rfl, rfl, h5⟩
set_option maxRecDepth 100000 in
theorem t_M_readName_0 {X : mz_X} {m : mz_M} {Q : Int32 → mz_M → Prop} (a1 : Int32)
    (h : mz_gi X mz_sh 142 2 [some (.ref 55), some (.int a1), some (.int a1), none, none] m Q) :
    mz_gi X mz_sh 142 0 [some (.ref 55), some (.int a1), none, none, none] m Q := by
  refine mz_go_blk mz_m142 2 (pc' := 2) (L' := [some (.ref 55), some (.int a1), some (.int a1), none, none]) (S' := []) (sh' := mz_sh) (m' := m) (g := true) rfl rfl (rfl) ?_
  exact h
set_option maxRecDepth 100000 in
theorem t_M_readName_1 {X : mz_X} {m : mz_M} {Q : Int32 → mz_M → Prop} (l1 : Int32) (l2 : Int32)
    (h : mz_gi X mz_sh 134 0 [some (.ref 55), some (.int l2)] m (fun r3 m1 => mz_gi X mz_sh 135 0 [some (.int r3)] m1 (fun r6 m4 => ((r6 = 0 → mz_gi X mz_sh 134 0 [some (.ref 55), some (.int l2)] m4 (fun r11 m9 => mz_gi X mz_sh 136 0 [some (.int r11)] m9 (fun r14 m12 => ((r14 = 0 → mz_gi X mz_sh 138 0 [some (.ref 55), some (.int l1), some (.int (l2 - l1)), none, none, none] m12 (fun r19 m17 => ((r19 = 1 → (((l2 - l1) ≤ 16 → mz_gi X mz_sh 139 0 [some (.ref 55), some (.int l1), some (.int (l2 - l1)), none, none, none] m17 (fun r26 m24 => ((0 ≤ r26 → mz_gv X mz_sh 141 0 [some (.ref 55), some (.int r19), some (.int l1), some (.int (l2 - l1)), some (.int r26)] m24 (fun m29 => Q 1 m29)) ∧ (¬ (0 ≤ r26) → Q 0 m24)))) ∧ (¬ ((l2 - l1) ≤ 16) → Q 0 m17))) ∧ (¬ (r19 = 1) → mz_gv X mz_sh 141 0 [some (.ref 55), some (.int r19), some (.int l1), some (.int (l2 - l1)), some (.int 0)] m17 (fun m34 => Q 1 m34))))) ∧ (¬ (r14 = 0) → mz_gi X mz_sh 142 2 [some (.ref 55), some (.int l1), some (.int (l2 + 1)), none, none] m12 Q))))) ∧ (¬ (r6 = 0) → mz_gi X mz_sh 142 2 [some (.ref 55), some (.int l1), some (.int (l2 + 1)), none, none] m4 Q))))) :
    mz_gi X mz_sh 142 2 [some (.ref 55), some (.int l1), some (.int l2), none, none] m Q := by
  refine mz_go_blk mz_m142 2 (pc' := 4) (L' := [some (.ref 55), some (.int l1), some (.int l2), none, none]) (S' := [.int l2, .ref 55]) (sh' := mz_sh) (m' := m) (g := true) rfl rfl (rfl) ?_
  refine mz_go_call mz_m142 mz_m134 rfl rfl rfl rfl rfl rfl rfl h (fun v sh1 m1 hv => ?_)
  obtain ⟨r3, rfl, rfl, h2⟩ := hv
  refine mz_go_call mz_m142 mz_m135 rfl rfl rfl rfl rfl rfl rfl h2 (fun v sh1 m4 hv => ?_)
  obtain ⟨r6, rfl, rfl, h5⟩ := hv
  refine mz_go_blk mz_m142 1 (pc' := (if r6 = 0 then 13 else 24)) (L' := [some (.ref 55), some (.int l1), some (.int l2), none, none]) (S' := []) (sh' := mz_sh) (m' := m4) (g := true) rfl rfl (rfl) ?_
  refine mz_go_if (fun c7 => ?_) (fun c7 => ?_)
  · have h8 := h5.1 c7
    refine mz_go_blk mz_m142 2 (pc' := 15) (L' := [some (.ref 55), some (.int l1), some (.int l2), none, none]) (S' := [.int l2, .ref 55]) (sh' := mz_sh) (m' := m4) (g := true) rfl rfl (rfl) ?_
    refine mz_go_call mz_m142 mz_m134 rfl rfl rfl rfl rfl rfl rfl h8 (fun v sh1 m9 hv => ?_)
    obtain ⟨r11, rfl, rfl, h10⟩ := hv
    refine mz_go_call mz_m142 mz_m136 rfl rfl rfl rfl rfl rfl rfl h10 (fun v sh1 m12 hv => ?_)
    obtain ⟨r14, rfl, rfl, h13⟩ := hv
    refine mz_go_blk mz_m142 1 (pc' := (if r14 = 0 then 30 else 24)) (L' := [some (.ref 55), some (.int l1), some (.int l2), none, none]) (S' := []) (sh' := mz_sh) (m' := m12) (g := true) rfl rfl (rfl) ?_
    refine mz_go_if (fun c15 => ?_) (fun c15 => ?_)
    · have h16 := h13.1 c15
      refine mz_go_blk mz_m142 5 (pc' := 35) (L' := [some (.ref 55), some (.int l1), some (.int l2), none, none]) (S' := [.int (l2 - l1), .int l1, .ref 55]) (sh' := mz_sh) (m' := m12) (g := true) rfl rfl (rfl) ?_
      refine mz_go_call mz_m142 mz_m138 rfl rfl rfl rfl rfl rfl rfl h16 (fun v sh1 m17 hv => ?_)
      obtain ⟨r19, rfl, rfl, h18⟩ := hv
      refine mz_go_blk mz_m142 6 (pc' := (if r19 = 1 then 47 else 69)) (L' := [some (.ref 55), some (.int l1), some (.int l2), some (.int r19), some (.int 0)]) (S' := []) (sh' := mz_sh) (m' := m17) (g := true) rfl rfl (rfl) ?_
      refine mz_go_if (fun c20 => ?_) (fun c20 => ?_)
      · have h21 := h18.1 c20
        refine mz_go_blk mz_m142 5 (pc' := (if (l2 - l1) ≤ 16 then 59 else 55)) (L' := [some (.ref 55), some (.int l1), some (.int l2), some (.int r19), some (.int 0)]) (S' := []) (sh' := mz_sh) (m' := m17) (g := true) rfl rfl (rfl) ?_
        refine mz_go_if (fun c22 => ?_) (fun c22 => ?_)
        · have h23 := h21.1 c22
          refine mz_go_blk mz_m142 5 (pc' := 64) (L' := [some (.ref 55), some (.int l1), some (.int l2), some (.int r19), some (.int 0)]) (S' := [.int (l2 - l1), .int l1, .ref 55]) (sh' := mz_sh) (m' := m17) (g := true) rfl rfl (rfl) ?_
          refine mz_go_call mz_m142 mz_m139 rfl rfl rfl rfl rfl rfl rfl h23 (fun v sh1 m24 hv => ?_)
          obtain ⟨r26, rfl, rfl, h25⟩ := hv
          refine mz_go_blk mz_m142 3 (pc' := (if 0 ≤ r26 then 76 else 74)) (L' := [some (.ref 55), some (.int l1), some (.int l2), some (.int r19), some (.int r26)]) (S' := []) (sh' := mz_sh) (m' := m24) (g := true) rfl rfl (rfl) ?_
          refine mz_go_if (fun c27 => ?_) (fun c27 => ?_)
          · have h28 := h25.1 c27
            refine mz_go_blk mz_m142 7 (pc' := 84) (L' := [some (.ref 55), some (.int l1), some (.int l2), some (.int r19), some (.int r26)]) (S' := [.int r26, .int (l2 - l1), .int l1, .int r19, .ref 55]) (sh' := mz_sh) (m' := m24) (g := true) rfl rfl (rfl) ?_
            refine mz_go_call mz_m142 mz_m141 rfl rfl rfl rfl rfl rfl rfl h28 (fun v sh1 m29 hv => ?_)
            obtain ⟨rfl, rfl, h30⟩ := hv
            refine mz_go_blk mz_m142 1 (pc' := 88) (L' := [some (.ref 55), some (.int l1), some (.int l2), some (.int r19), some (.int r26)]) (S' := [.int 1]) (sh' := mz_sh) (m' := m29) (g := true) rfl rfl (rfl) ?_
            exact mz_go_ret mz_m142 rfl rfl rfl ⟨_, rfl, rfl, h30⟩
          · have h31 := h25.2 c27
            refine mz_go_blk mz_m142 1 (pc' := 75) (L' := [some (.ref 55), some (.int l1), some (.int l2), some (.int r19), some (.int r26)]) (S' := [.int 0]) (sh' := mz_sh) (m' := m24) (g := true) rfl rfl (rfl) ?_
            exact mz_go_ret mz_m142 rfl rfl rfl ⟨_, rfl, rfl, h31⟩
        · have h32 := h21.2 c22
          refine mz_go_blk mz_m142 6 (pc' := 75) (L' := [some (.ref 55), some (.int l1), some (.int l2), some (.int r19), some (.int (-1))]) (S' := [.int 0]) (sh' := mz_sh) (m' := m17) (g := true) rfl rfl (rfl) ?_
          exact mz_go_ret mz_m142 rfl rfl rfl ⟨_, rfl, rfl, h32⟩
      · have h33 := h18.2 c20
        refine mz_go_blk mz_m142 9 (pc' := 84) (L' := [some (.ref 55), some (.int l1), some (.int l2), some (.int r19), some (.int 0)]) (S' := [.int 0, .int (l2 - l1), .int l1, .int r19, .ref 55]) (sh' := mz_sh) (m' := m17) (g := true) rfl rfl (rfl) ?_
        refine mz_go_call mz_m142 mz_m141 rfl rfl rfl rfl rfl rfl rfl h33 (fun v sh1 m34 hv => ?_)
        obtain ⟨rfl, rfl, h35⟩ := hv
        refine mz_go_blk mz_m142 1 (pc' := 88) (L' := [some (.ref 55), some (.int l1), some (.int l2), some (.int r19), some (.int 0)]) (S' := [.int 1]) (sh' := mz_sh) (m' := m34) (g := true) rfl rfl (rfl) ?_
        exact mz_go_ret mz_m142 rfl rfl rfl ⟨_, rfl, rfl, h35⟩
    · have h36 := h13.2 c15
      refine mz_go_blk mz_m142 2 (pc' := 2) (L' := [some (.ref 55), some (.int l1), some (.int (l2 + 1)), none, none]) (S' := []) (sh' := mz_sh) (m' := m12) (g := true) rfl rfl (rfl) ?_
      exact h36
  · have h37 := h5.2 c7
    refine mz_go_blk mz_m142 2 (pc' := 2) (L' := [some (.ref 55), some (.int l1), some (.int (l2 + 1)), none, none]) (S' := []) (sh' := mz_sh) (m' := m4) (g := true) rfl rfl (rfl) ?_
    exact h37
set_option maxRecDepth 100000 in
theorem t_M_readToken_0 {X : mz_X} {m : mz_M} {Q : Int32 → mz_M → Prop} (a1 : Int32)
    (h : mz_gi X mz_sh 134 0 [some (.ref 55), some (.int a1)] m (fun r3 m1 => mz_gi X mz_sh 135 0 [some (.int r3)] m1 (fun r6 m4 => ((r6 = 0 → mz_gi X mz_sh 136 0 [some (.int r3)] m4 (fun r11 m9 => ((r11 = 0 → mz_gi X mz_sh 134 0 [some (.ref 55), some (.int (a1 + 1))] m9 (fun r16 m14 => mz_gi X mz_sh 140 0 [some (.int r3), some (.int r16)] m14 (fun r19 m17 => ((0 ≤ r19 → ((r19 < 9 → mz_gv X mz_sh 141 0 [some (.ref 55), some (.int r19), some (.int a1), some (.int 1), some (.int 0)] m17 (fun m24 => Q 1 m24)) ∧ (¬ (r19 < 9) → ((11 < r19 → mz_gv X mz_sh 141 0 [some (.ref 55), some (.int r19), some (.int a1), some (.int 1), some (.int 0)] m17 (fun m29 => Q 1 m29)) ∧ (¬ (11 < r19) → mz_gv X mz_sh 141 0 [some (.ref 55), some (.int r19), some (.int a1), some (.int 2), some (.int 0)] m17 (fun m32 => Q 1 m32)))))) ∧ (¬ (0 ≤ r19) → Q 0 m17))))) ∧ (¬ (r11 = 0) → mz_gi X mz_sh 143 31 [some (.ref 55), some (.int a1), none, some (.int a1), some (.int 0)] m9 Q)))) ∧ (¬ (r6 = 0) → mz_gi X mz_sh 142 0 [some (.ref 55), some (.int a1), none, none, none] m4 (fun r39 m37 => (r39 = 0 ∨ r39 = 1) ∧ Q r39 m37)))))) :
    mz_gi X mz_sh 143 0 [some (.ref 55), some (.int a1), none, none, none] m Q := by
  refine mz_go_blk mz_m143 2 (pc' := 2) (L' := [some (.ref 55), some (.int a1), none, none, none]) (S' := [.int a1, .ref 55]) (sh' := mz_sh) (m' := m) (g := true) rfl rfl (rfl) ?_
  refine mz_go_call mz_m143 mz_m134 rfl rfl rfl rfl rfl rfl rfl h (fun v sh1 m1 hv => ?_)
  obtain ⟨r3, rfl, rfl, h2⟩ := hv
  refine mz_go_blk mz_m143 2 (pc' := 7) (L' := [some (.ref 55), some (.int a1), some (.int r3), none, none]) (S' := [.int r3]) (sh' := mz_sh) (m' := m1) (g := true) rfl rfl (rfl) ?_
  refine mz_go_call mz_m143 mz_m135 rfl rfl rfl rfl rfl rfl rfl h2 (fun v sh1 m4 hv => ?_)
  obtain ⟨r6, rfl, rfl, h5⟩ := hv
  refine mz_go_blk mz_m143 1 (pc' := (if r6 = 0 then 19 else 13)) (L' := [some (.ref 55), some (.int a1), some (.int r3), none, none]) (S' := []) (sh' := mz_sh) (m' := m4) (g := true) rfl rfl (rfl) ?_
  refine mz_go_if (fun c7 => ?_) (fun c7 => ?_)
  · have h8 := h5.1 c7
    refine mz_go_blk mz_m143 1 (pc' := 20) (L' := [some (.ref 55), some (.int a1), some (.int r3), none, none]) (S' := [.int r3]) (sh' := mz_sh) (m' := m4) (g := true) rfl rfl (rfl) ?_
    refine mz_go_call mz_m143 mz_m136 rfl rfl rfl rfl rfl rfl rfl h8 (fun v sh1 m9 hv => ?_)
    obtain ⟨r11, rfl, rfl, h10⟩ := hv
    refine mz_go_blk mz_m143 1 (pc' := (if r11 = 0 then 77 else 26)) (L' := [some (.ref 55), some (.int a1), some (.int r3), none, none]) (S' := []) (sh' := mz_sh) (m' := m9) (g := true) rfl rfl (rfl) ?_
    refine mz_go_if (fun c12 => ?_) (fun c12 => ?_)
    · have h13 := h10.1 c12
      refine mz_go_blk mz_m143 5 (pc' := 82) (L' := [some (.ref 55), some (.int a1), some (.int r3), none, none]) (S' := [.int (a1 + 1), .ref 55, .int r3]) (sh' := mz_sh) (m' := m9) (g := true) rfl rfl (rfl) ?_
      refine mz_go_call mz_m143 mz_m134 rfl rfl rfl rfl rfl rfl rfl h13 (fun v sh1 m14 hv => ?_)
      obtain ⟨r16, rfl, rfl, h15⟩ := hv
      refine mz_go_call mz_m143 mz_m140 rfl rfl rfl rfl rfl rfl rfl h15 (fun v sh1 m17 hv => ?_)
      obtain ⟨r19, rfl, rfl, h18⟩ := hv
      refine mz_go_blk mz_m143 3 (pc' := (if 0 ≤ r19 then 95 else 93)) (L' := [some (.ref 55), some (.int a1), some (.int r3), some (.int r19), none]) (S' := []) (sh' := mz_sh) (m' := m17) (g := true) rfl rfl (rfl) ?_
      refine mz_go_if (fun c20 => ?_) (fun c20 => ?_)
      · have h21 := h18.1 c20
        refine mz_go_blk mz_m143 6 (pc' := (if r19 < 9 then 114 else 104)) (L' := [some (.ref 55), some (.int a1), some (.int r3), some (.int r19), none]) (S' := [.int a1, .int r19, .ref 55]) (sh' := mz_sh) (m' := m17) (g := true) rfl rfl (rfl) ?_
        refine mz_go_if (fun c22 => ?_) (fun c22 => ?_)
        · have h23 := h21.1 c22
          refine mz_go_blk mz_m143 2 (pc' := 116) (L' := [some (.ref 55), some (.int a1), some (.int r3), some (.int r19), none]) (S' := [.int 0, .int 1, .int a1, .int r19, .ref 55]) (sh' := mz_sh) (m' := m17) (g := true) rfl rfl (rfl) ?_
          refine mz_go_call mz_m143 mz_m141 rfl rfl rfl rfl rfl rfl rfl h23 (fun v sh1 m24 hv => ?_)
          obtain ⟨rfl, rfl, h25⟩ := hv
          refine mz_go_blk mz_m143 1 (pc' := 120) (L' := [some (.ref 55), some (.int a1), some (.int r3), some (.int r19), none]) (S' := [.int 1]) (sh' := mz_sh) (m' := m24) (g := true) rfl rfl (rfl) ?_
          exact mz_go_ret mz_m143 rfl rfl rfl ⟨_, rfl, rfl, h25⟩
        · have h26 := h21.2 c22
          refine mz_go_blk mz_m143 3 (pc' := (if 11 < r19 then 114 else 110)) (L' := [some (.ref 55), some (.int a1), some (.int r3), some (.int r19), none]) (S' := [.int a1, .int r19, .ref 55]) (sh' := mz_sh) (m' := m17) (g := true) rfl rfl (rfl) ?_
          refine mz_go_if (fun c27 => ?_) (fun c27 => ?_)
          · have h28 := h26.1 c27
            refine mz_go_blk mz_m143 2 (pc' := 116) (L' := [some (.ref 55), some (.int a1), some (.int r3), some (.int r19), none]) (S' := [.int 0, .int 1, .int a1, .int r19, .ref 55]) (sh' := mz_sh) (m' := m17) (g := true) rfl rfl (rfl) ?_
            refine mz_go_call mz_m143 mz_m141 rfl rfl rfl rfl rfl rfl rfl h28 (fun v sh1 m29 hv => ?_)
            obtain ⟨rfl, rfl, h30⟩ := hv
            refine mz_go_blk mz_m143 1 (pc' := 120) (L' := [some (.ref 55), some (.int a1), some (.int r3), some (.int r19), none]) (S' := [.int 1]) (sh' := mz_sh) (m' := m29) (g := true) rfl rfl (rfl) ?_
            exact mz_go_ret mz_m143 rfl rfl rfl ⟨_, rfl, rfl, h30⟩
          · have h31 := h26.2 c27
            refine mz_go_blk mz_m143 3 (pc' := 116) (L' := [some (.ref 55), some (.int a1), some (.int r3), some (.int r19), none]) (S' := [.int 0, .int 2, .int a1, .int r19, .ref 55]) (sh' := mz_sh) (m' := m17) (g := true) rfl rfl (rfl) ?_
            refine mz_go_call mz_m143 mz_m141 rfl rfl rfl rfl rfl rfl rfl h31 (fun v sh1 m32 hv => ?_)
            obtain ⟨rfl, rfl, h33⟩ := hv
            refine mz_go_blk mz_m143 1 (pc' := 120) (L' := [some (.ref 55), some (.int a1), some (.int r3), some (.int r19), none]) (S' := [.int 1]) (sh' := mz_sh) (m' := m32) (g := true) rfl rfl (rfl) ?_
            exact mz_go_ret mz_m143 rfl rfl rfl ⟨_, rfl, rfl, h33⟩
      · have h34 := h18.2 c20
        refine mz_go_blk mz_m143 1 (pc' := 94) (L' := [some (.ref 55), some (.int a1), some (.int r3), some (.int r19), none]) (S' := [.int 0]) (sh' := mz_sh) (m' := m17) (g := true) rfl rfl (rfl) ?_
        exact mz_go_ret mz_m143 rfl rfl rfl ⟨_, rfl, rfl, h34⟩
    · have h35 := h10.2 c12
      refine mz_go_blk mz_m143 4 (pc' := 31) (L' := [some (.ref 55), some (.int a1), some (.int r3), some (.int a1), some (.int 0)]) (S' := []) (sh' := mz_sh) (m' := m9) (g := true) rfl rfl (rfl) ?_
      exact mz_go.forget (L := [some (.ref 55), some (.int a1), none, some (.int a1), some (.int 0)]) (mz_lel_cons rfl (mz_lel_cons rfl (mz_lel_cons trivial (mz_lel_cons rfl (mz_lel_cons rfl (mz_lel_nil)))))) h35
  · have h36 := h5.2 c7
    refine mz_go_blk mz_m143 2 (pc' := 15) (L' := [some (.ref 55), some (.int a1), some (.int r3), none, none]) (S' := [.int a1, .ref 55]) (sh' := mz_sh) (m' := m4) (g := true) rfl rfl (rfl) ?_
    refine mz_go_call mz_m143 mz_m142 rfl rfl rfl rfl rfl rfl rfl h36 (fun v sh1 m37 hv => ?_)
    obtain ⟨r39, rfl, rfl, h38⟩ := hv
    exact mz_go_ret mz_m143 rfl rfl (mz_rtb h38.1) ⟨_, rfl, rfl, h38.2⟩
set_option maxRecDepth 100000 in
theorem t_M_readToken_1 {X : mz_X} {m : mz_M} {Q : Int32 → mz_M → Prop} (l1 : Int32) (l3 : Int32) (l4 : Int32)
    (h : mz_gi X mz_sh 134 0 [some (.ref 55), some (.int l3)] m (fun r3 m1 => mz_gi X mz_sh 136 0 [some (.int r3)] m1 (fun r6 m4 => ((r6 = 0 → mz_gv X mz_sh 141 0 [some (.ref 55), some (.int 2), some (.int l1), some (.int (l3 - l1)), some (.int l4)] m4 (fun m9 => Q 1 m9)) ∧ (¬ (r6 = 0) → mz_gi X mz_sh 134 0 [some (.ref 55), some (.int l3)] m4 (fun r14 m12 => mz_gi X mz_sh 143 31 [some (.ref 55), some (.int l1), none, some (.int (l3 + 1)), some (.int (((10 * l4) + r14) - 48))] m12 Q)))))) :
    mz_gi X mz_sh 143 31 [some (.ref 55), some (.int l1), none, some (.int l3), some (.int l4)] m Q := by
  refine mz_go_blk mz_m143 2 (pc' := 33) (L' := [some (.ref 55), some (.int l1), none, some (.int l3), some (.int l4)]) (S' := [.int l3, .ref 55]) (sh' := mz_sh) (m' := m) (g := true) rfl rfl (rfl) ?_
  refine mz_go_call mz_m143 mz_m134 rfl rfl rfl rfl rfl rfl rfl h (fun v sh1 m1 hv => ?_)
  obtain ⟨r3, rfl, rfl, h2⟩ := hv
  refine mz_go_call mz_m143 mz_m136 rfl rfl rfl rfl rfl rfl rfl h2 (fun v sh1 m4 hv => ?_)
  obtain ⟨r6, rfl, rfl, h5⟩ := hv
  refine mz_go_blk mz_m143 1 (pc' := (if r6 = 0 then 64 else 42)) (L' := [some (.ref 55), some (.int l1), none, some (.int l3), some (.int l4)]) (S' := []) (sh' := mz_sh) (m' := m4) (g := true) rfl rfl (rfl) ?_
  refine mz_go_if (fun c7 => ?_) (fun c7 => ?_)
  · have h8 := h5.1 c7
    refine mz_go_blk mz_m143 7 (pc' := 72) (L' := [some (.ref 55), some (.int l1), none, some (.int l3), some (.int l4)]) (S' := [.int l4, .int (l3 - l1), .int l1, .int 2, .ref 55]) (sh' := mz_sh) (m' := m4) (g := true) rfl rfl (rfl) ?_
    refine mz_go_call mz_m143 mz_m141 rfl rfl rfl rfl rfl rfl rfl h8 (fun v sh1 m9 hv => ?_)
    obtain ⟨rfl, rfl, h10⟩ := hv
    refine mz_go_blk mz_m143 1 (pc' := 76) (L' := [some (.ref 55), some (.int l1), none, some (.int l3), some (.int l4)]) (S' := [.int 1]) (sh' := mz_sh) (m' := m9) (g := true) rfl rfl (rfl) ?_
    exact mz_go_ret mz_m143 rfl rfl rfl ⟨_, rfl, rfl, h10⟩
  · have h11 := h5.2 c7
    refine mz_go_blk mz_m143 5 (pc' := 49) (L' := [some (.ref 55), some (.int l1), none, some (.int l3), some (.int l4)]) (S' := [.int l3, .ref 55, .int (10 * l4)]) (sh' := mz_sh) (m' := m4) (g := true) rfl rfl (rfl) ?_
    refine mz_go_call mz_m143 mz_m134 rfl rfl rfl rfl rfl rfl rfl h11 (fun v sh1 m12 hv => ?_)
    obtain ⟨r14, rfl, rfl, h13⟩ := hv
    refine mz_go_blk mz_m143 6 (pc' := 31) (L' := [some (.ref 55), some (.int l1), none, some (.int (l3 + 1)), some (.int (((10 * l4) + r14) - 48))]) (S' := []) (sh' := mz_sh) (m' := m12) (g := true) rfl rfl (rfl) ?_
    exact h13
set_option maxRecDepth 100000 in
theorem t_M_lex_0 {X : mz_X} {m : mz_M} {Q : Int32 → mz_M → Prop}
    (h : mz_gv X mz_sh 131 0 [some (.ref 55)] m (fun m1 => mz_gi X mz_sh 137 0 [some (.ref 55), some (.int 0), none, none, none] (mz_up (mz_up (mz_up m1 55 56 0) 55 18 0) 55 21 0) (fun r5 m3 => mz_gi X mz_sh 144 25 [some (.ref 55), some (.int r5)] m3 Q))) :
    mz_gi X mz_sh 144 0 [some (.ref 55), none] m Q := by
  refine mz_go_blk mz_m144 1 (pc' := 1) (L' := [some (.ref 55), none]) (S' := [.ref 55]) (sh' := mz_sh) (m' := m) (g := true) rfl rfl (rfl) ?_
  refine mz_go_call mz_m144 mz_m131 rfl rfl rfl rfl rfl rfl rfl h (fun v sh1 m1 hv => ?_)
  obtain ⟨rfl, rfl, h2⟩ := hv
  refine mz_go_blk mz_m144 11 (pc' := 21) (L' := [some (.ref 55), none]) (S' := [.int 0, .ref 55]) (sh' := mz_sh) (m' := mz_up (mz_up (mz_up m1 55 56 0) 55 18 0) 55 21 0) (g := (decide (0 = 0) || decide (0 = 1)) && true) rfl rfl (mz_and2 (by decide) (rfl)) ?_
  refine mz_go_call mz_m144 mz_m137 rfl rfl rfl rfl rfl rfl rfl h2 (fun v sh1 m3 hv => ?_)
  obtain ⟨r5, rfl, rfl, h4⟩ := hv
  refine mz_go_blk mz_m144 1 (pc' := 25) (L' := [some (.ref 55), some (.int r5)]) (S' := []) (sh' := mz_sh) (m' := m3) (g := true) rfl rfl (rfl) ?_
  exact h4
set_option maxRecDepth 100000 in
theorem t_M_lex_1 {X : mz_X} {m : mz_M} {Q : Int32 → mz_M → Prop} (l1 : Int32)
    (h : (((m 55 12) ≤ l1 → mz_inb (m 55 18) 4001 = true ∧ mz_inb (m 55 18) 4001 = true ∧ mz_inb (m 55 18) 4001 = true ∧ mz_inb (m 55 18) 4001 = true ∧ Q (m 55 18) (mz_up (mz_up (mz_up (mz_up (mz_up m 67 ((m 55 18).toNatClampNeg) 0) 68 ((m 55 18).toNatClampNeg) (m 55 12)) 69 ((m 55 18).toNatClampNeg) 0) 70 ((m 55 18).toNatClampNeg) 0) 55 13 1)) ∧ (¬ ((m 55 12) ≤ l1) → mz_gi X mz_sh 143 0 [some (.ref 55), some (.int l1), none, none, none] m (fun r11 m9 => ((r11 = 0 → Q ((-10) - l1) m9) ∧ (¬ (r11 = 0) → mz_inb ((m9 55 18) - 1) 4001 = true ∧ mz_gi X mz_sh 137 0 [some (.ref 55), some (.int (l1 + (m9 69 (((m9 55 18) - 1).toNatClampNeg)))), none, none, none] m9 (fun r19 m17 => mz_gi X mz_sh 144 25 [some (.ref 55), some (.int r19)] m17 Q))))))) :
    mz_gi X mz_sh 144 25 [some (.ref 55), some (.int l1)] m Q := by
  refine mz_go_blk mz_m144 4 (pc' := (if (m 55 12) ≤ l1 then 67 else 33)) (L' := [some (.ref 55), some (.int l1)]) (S' := []) (sh' := mz_sh) (m' := m) (g := true) rfl rfl (rfl) ?_
  refine mz_go_if (fun c1 => ?_) (fun c1 => ?_)
  · have h2 := h.1 c1
    obtain ⟨g3, g4, g5, g6, h7⟩ := h2
    refine mz_go_blk mz_m144 30 (pc' := 119) (L' := [some (.ref 55), some (.int l1)]) (S' := [.int (m 55 18)]) (sh' := mz_sh) (m' := mz_up (mz_up (mz_up (mz_up (mz_up m 67 ((m 55 18).toNatClampNeg) 0) 68 ((m 55 18).toNatClampNeg) (m 55 12)) 69 ((m 55 18).toNatClampNeg) 0) 70 ((m 55 18).toNatClampNeg) 0) 55 13 1) (g := (decide (1 = 0) || decide (1 = 1)) && (mz_inb (m 55 18) 4001 && (mz_inb (m 55 18) 4001 && (mz_inb (m 55 18) 4001 && (mz_inb (m 55 18) 4001 && true))))) rfl rfl (mz_and2 (by decide) (mz_and2 (g6) (mz_and2 (g5) (mz_and2 (g4) (mz_and2 (g3) (rfl)))))) ?_
    exact mz_go_ret mz_m144 rfl rfl rfl ⟨_, rfl, rfl, h7⟩
  · have h8 := h.2 c1
    refine mz_go_blk mz_m144 2 (pc' := 35) (L' := [some (.ref 55), some (.int l1)]) (S' := [.int l1, .ref 55]) (sh' := mz_sh) (m' := m) (g := true) rfl rfl (rfl) ?_
    refine mz_go_call mz_m144 mz_m143 rfl rfl rfl rfl rfl rfl rfl h8 (fun v sh1 m9 hv => ?_)
    obtain ⟨r11, rfl, rfl, h10⟩ := hv
    refine mz_go_blk mz_m144 1 (pc' := (if r11 = 0 then 41 else 46)) (L' := [some (.ref 55), some (.int l1)]) (S' := []) (sh' := mz_sh) (m' := m9) (g := true) rfl rfl (rfl) ?_
    refine mz_go_if (fun c12 => ?_) (fun c12 => ?_)
    · have h13 := h10.1 c12
      refine mz_go_blk mz_m144 3 (pc' := 45) (L' := [some (.ref 55), some (.int l1)]) (S' := [.int ((-10) - l1)]) (sh' := mz_sh) (m' := m9) (g := true) rfl rfl (rfl) ?_
      exact mz_go_ret mz_m144 rfl rfl rfl ⟨_, rfl, rfl, h13⟩
    · have h14 := h10.2 c12
      obtain ⟨g15, h16⟩ := h14
      refine mz_go_blk mz_m144 10 (pc' := 60) (L' := [some (.ref 55), some (.int l1)]) (S' := [.int (l1 + (m9 69 (((m9 55 18) - 1).toNatClampNeg))), .ref 55]) (sh' := mz_sh) (m' := m9) (g := mz_inb ((m9 55 18) - 1) 4001 && true) rfl rfl (mz_and2 (g15) (rfl)) ?_
      refine mz_go_call mz_m144 mz_m137 rfl rfl rfl rfl rfl rfl rfl h16 (fun v sh1 m17 hv => ?_)
      obtain ⟨r19, rfl, rfl, h18⟩ := hv
      refine mz_go_blk mz_m144 2 (pc' := 25) (L' := [some (.ref 55), some (.int r19)]) (S' := []) (sh' := mz_sh) (m' := m17) (g := true) rfl rfl (rfl) ?_
      exact h18
set_option maxRecDepth 100000 in
theorem t_M_token_0 {X : mz_X} {m : mz_M} {Q : Int32 → mz_M → Prop} (a1 : Int32) (a2 : Int32)
    (h : (((m 55 13) = 0 → Q (-1) m) ∧ (¬ ((m 55 13) = 0) → ((a1 < 0 → Q (-1) m) ∧ (¬ (a1 < 0) → ((a1 ≤ (m 55 18) → ((a2 = 0 → mz_inb a1 4001 = true ∧ Q (m 67 a1.toNatClampNeg) m) ∧ (a2 = 1 → mz_inb a1 4001 = true ∧ Q (m 68 a1.toNatClampNeg) m) ∧ (a2 = 2 → mz_inb a1 4001 = true ∧ Q (m 69 a1.toNatClampNeg) m) ∧ (a2 = 3 → mz_inb a1 4001 = true ∧ Q (m 70 a1.toNatClampNeg) m) ∧ (¬ a2 = 0 → ¬ a2 = 1 → ¬ a2 = 2 → ¬ a2 = 3 → Q (-1) m))) ∧ (¬ (a1 ≤ (m 55 18)) → Q (-1) m))))))) :
    mz_gi X mz_sh 145 0 [some (.ref 55), some (.int a1), some (.int a2)] m Q := by
  refine mz_go_blk mz_m145 3 (pc' := (if (m 55 13) = 0 then 19 else 7)) (L' := [some (.ref 55), some (.int a1), some (.int a2)]) (S' := []) (sh' := mz_sh) (m' := m) (g := true) rfl rfl (rfl) ?_
  refine mz_go_if (fun c1 => ?_) (fun c1 => ?_)
  · have h2 := h.1 c1
    refine mz_go_blk mz_m145 1 (pc' := 20) (L' := [some (.ref 55), some (.int a1), some (.int a2)]) (S' := [.int (-1)]) (sh' := mz_sh) (m' := m) (g := true) rfl rfl (rfl) ?_
    exact mz_go_ret mz_m145 rfl rfl rfl ⟨_, rfl, rfl, h2⟩
  · have h3 := h.2 c1
    refine mz_go_blk mz_m145 2 (pc' := (if a1 < 0 then 19 else 11)) (L' := [some (.ref 55), some (.int a1), some (.int a2)]) (S' := []) (sh' := mz_sh) (m' := m) (g := true) rfl rfl (rfl) ?_
    refine mz_go_if (fun c4 => ?_) (fun c4 => ?_)
    · have h5 := h3.1 c4
      refine mz_go_blk mz_m145 1 (pc' := 20) (L' := [some (.ref 55), some (.int a1), some (.int a2)]) (S' := [.int (-1)]) (sh' := mz_sh) (m' := m) (g := true) rfl rfl (rfl) ?_
      exact mz_go_ret mz_m145 rfl rfl rfl ⟨_, rfl, rfl, h5⟩
    · have h6 := h3.2 c4
      refine mz_go_blk mz_m145 4 (pc' := (if a1 ≤ (m 55 18) then 21 else 19)) (L' := [some (.ref 55), some (.int a1), some (.int a2)]) (S' := []) (sh' := mz_sh) (m' := m) (g := true) rfl rfl (rfl) ?_
      refine mz_go_if (fun c7 => ?_) (fun c7 => ?_)
      · have h8 := h6.1 c7
        refine mz_go_blk mz_m145 2 (pc' := (mz_tsw 22 58 0 3 #[30, 37, 44, 51] a2)) (L' := [some (.ref 55), some (.int a1), some (.int a2)]) (S' := []) (sh' := mz_sh) (m' := m) (g := true) rfl rfl (rfl) ?_
        by_cases c10 : a2 = 0
        · have h9 := h8.1 c10
          rw [show mz_tsw 22 58 0 3 #[30, 37, 44, 51] a2 = 52 by rw [c10]; decide +kernel]
          obtain ⟨g11, h12⟩ := h9
          refine mz_go_blk mz_m145 4 (pc' := 58) (L' := [some (.ref 55), some (.int a1), some (.int a2)]) (S' := [.int (m 67 a1.toNatClampNeg)]) (sh' := mz_sh) (m' := m) (g := mz_inb a1 4001 && true) rfl rfl (mz_and2 (g11) (rfl)) ?_
          exact mz_go_ret mz_m145 rfl rfl rfl ⟨_, rfl, rfl, h12⟩
        have h13 := h8.2
        by_cases c15 : a2 = 1
        · have h14 := h13.1 c15
          rw [show mz_tsw 22 58 0 3 #[30, 37, 44, 51] a2 = 59 by rw [c15]; decide +kernel]
          obtain ⟨g16, h17⟩ := h14
          refine mz_go_blk mz_m145 4 (pc' := 65) (L' := [some (.ref 55), some (.int a1), some (.int a2)]) (S' := [.int (m 68 a1.toNatClampNeg)]) (sh' := mz_sh) (m' := m) (g := mz_inb a1 4001 && true) rfl rfl (mz_and2 (g16) (rfl)) ?_
          exact mz_go_ret mz_m145 rfl rfl rfl ⟨_, rfl, rfl, h17⟩
        have h18 := h13.2
        by_cases c20 : a2 = 2
        · have h19 := h18.1 c20
          rw [show mz_tsw 22 58 0 3 #[30, 37, 44, 51] a2 = 66 by rw [c20]; decide +kernel]
          obtain ⟨g21, h22⟩ := h19
          refine mz_go_blk mz_m145 4 (pc' := 72) (L' := [some (.ref 55), some (.int a1), some (.int a2)]) (S' := [.int (m 69 a1.toNatClampNeg)]) (sh' := mz_sh) (m' := m) (g := mz_inb a1 4001 && true) rfl rfl (mz_and2 (g21) (rfl)) ?_
          exact mz_go_ret mz_m145 rfl rfl rfl ⟨_, rfl, rfl, h22⟩
        have h23 := h18.2
        by_cases c25 : a2 = 3
        · have h24 := h23.1 c25
          rw [show mz_tsw 22 58 0 3 #[30, 37, 44, 51] a2 = 73 by rw [c25]; decide +kernel]
          obtain ⟨g26, h27⟩ := h24
          refine mz_go_blk mz_m145 4 (pc' := 79) (L' := [some (.ref 55), some (.int a1), some (.int a2)]) (S' := [.int (m 70 a1.toNatClampNeg)]) (sh' := mz_sh) (m' := m) (g := mz_inb a1 4001 && true) rfl rfl (mz_and2 (g26) (rfl)) ?_
          exact mz_go_ret mz_m145 rfl rfl rfl ⟨_, rfl, rfl, h27⟩
        have h28 := h23.2
        have h28d := h28 c10 c15 c20 c25
        rw [show mz_tsw 22 58 0 3 #[30, 37, 44, 51] a2 = 80 from (by
        refine mz_tswd _ _ _ _ _ a2 80 (by decide +kernel) (fun k hk z => ?_)
        match k, hk, z with
        | 0, _, z => exact absurd (mz_tI (by rw [z]; decide +kernel)) c10
        | 1, _, z => exact absurd (mz_tI (by rw [z]; decide +kernel)) c15
        | 2, _, z => exact absurd (mz_tI (by rw [z]; decide +kernel)) c20
        | 3, _, z => exact absurd (mz_tI (by rw [z]; decide +kernel)) c25
        | k + 4, hk, _ => exact absurd hk (by simp only [Array.size]; simp)
      )]
        refine mz_go_blk mz_m145 1 (pc' := 81) (L' := [some (.ref 55), some (.int a1), some (.int a2)]) (S' := [.int (-1)]) (sh' := mz_sh) (m' := m) (g := true) rfl rfl (rfl) ?_
        exact mz_go_ret mz_m145 rfl rfl rfl ⟨_, rfl, rfl, h28d⟩
      · have h29 := h6.2 c7
        refine mz_go_blk mz_m145 1 (pc' := 20) (L' := [some (.ref 55), some (.int a1), some (.int a2)]) (S' := [.int (-1)]) (sh' := mz_sh) (m' := m) (g := true) rfl rfl (rfl) ?_
        exact mz_go_ret mz_m145 rfl rfl rfl ⟨_, rfl, rfl, h29⟩
set_option maxRecDepth 100000 in
theorem t_M_slots_0 {X : mz_X} {m : mz_M} {Q : Int32 → mz_M → Prop}
    (h : (((m 55 13) = 0 → Q 0 m) ∧ (¬ ((m 55 13) = 0) → Q (m 55 21) m))) :
    mz_gi X mz_sh 146 0 [some (.ref 55)] m Q := by
  refine mz_go_blk mz_m146 3 (pc' := (if (m 55 13) = 0 then 14 else 7)) (L' := [some (.ref 55)]) (S' := []) (sh' := mz_sh) (m' := m) (g := true) rfl rfl (rfl) ?_
  refine mz_go_if (fun c1 => ?_) (fun c1 => ?_)
  · have h2 := h.1 c1
    refine mz_go_blk mz_m146 1 (pc' := 15) (L' := [some (.ref 55)]) (S' := [.int 0]) (sh' := mz_sh) (m' := m) (g := true) rfl rfl (rfl) ?_
    exact mz_go_ret mz_m146 rfl rfl rfl ⟨_, rfl, rfl, h2⟩
  · have h3 := h.2 c1
    refine mz_go_blk mz_m146 3 (pc' := 15) (L' := [some (.ref 55)]) (S' := [.int (m 55 21)]) (sh' := mz_sh) (m' := m) (g := true) rfl rfl (rfl) ?_
    exact mz_go_ret mz_m146 rfl rfl rfl ⟨_, rfl, rfl, h3⟩
set_option maxRecDepth 100000 in
theorem t_M_raw_0 {X : mz_X} {m : mz_M} {Q : Int32 → mz_M → Prop} (a1 : Int32) (a2 : Int32)
    (h : mz_inb (m 55 33) 12100 = true ∧ mz_inb (m 55 33) 12100 = true ∧ mz_inb (m 55 33) 12100 = true ∧ mz_inb (m 55 33) 12100 = true ∧ mz_inb (m 55 33) 12100 = true ∧ mz_inb (m 55 33) 12100 = true ∧ Q (((m 55 33) + 1) - 1) (mz_up (mz_up (mz_up (mz_up (mz_up (mz_up (mz_up m 76 ((m 55 33).toNatClampNeg) a1) 77 ((m 55 33).toNatClampNeg) a2) 78 ((m 55 33).toNatClampNeg) (-1)) 79 ((m 55 33).toNatClampNeg) (-1)) 80 ((m 55 33).toNatClampNeg) (-1)) 81 ((m 55 33).toNatClampNeg) (-1)) 55 33 ((m 55 33) + 1))) :
    mz_gi X mz_sh 147 0 [some (.ref 55), some (.int a1), some (.int a2)] m Q := by
  obtain ⟨g1, g2, g3, g4, g5, g6, h7⟩ := h
  refine mz_go_blk mz_m147 46 (pc' := 76) (L' := [some (.ref 55), some (.int a1), some (.int a2)]) (S' := [.int (((m 55 33) + 1) - 1)]) (sh' := mz_sh) (m' := mz_up (mz_up (mz_up (mz_up (mz_up (mz_up (mz_up m 76 ((m 55 33).toNatClampNeg) a1) 77 ((m 55 33).toNatClampNeg) a2) 78 ((m 55 33).toNatClampNeg) (-1)) 79 ((m 55 33).toNatClampNeg) (-1)) 80 ((m 55 33).toNatClampNeg) (-1)) 81 ((m 55 33).toNatClampNeg) (-1)) 55 33 ((m 55 33) + 1)) (g := mz_inb (m 55 33) 12100 && (mz_inb (m 55 33) 12100 && (mz_inb (m 55 33) 12100 && (mz_inb (m 55 33) 12100 && (mz_inb (m 55 33) 12100 && (mz_inb (m 55 33) 12100 && true)))))) rfl rfl (mz_and2 (g6) (mz_and2 (g5) (mz_and2 (g4) (mz_and2 (g3) (mz_and2 (g2) (mz_and2 (g1) (rfl))))))) ?_
  exact mz_go_ret mz_m147 rfl rfl rfl ⟨_, rfl, rfl, h7⟩
set_option maxRecDepth 100000 in
theorem t_M_hang_0 {X : mz_X} {m : mz_M} {Q : mz_M → Prop} (a1 : Int32) (a2 : Int32)
    (h : mz_inb a2 12100 = true ∧ mz_inb a1 12100 = true ∧ ((0 ≤ (m 78 a1.toNatClampNeg) → mz_inb a1 12100 = true ∧ mz_inb (m 79 a1.toNatClampNeg) 12100 = true ∧ mz_inb a1 12100 = true ∧ Q (mz_up (mz_up (mz_up m 81 a2.toNatClampNeg a1) 80 ((m 79 a1.toNatClampNeg).toNatClampNeg) a2) 79 a1.toNatClampNeg a2)) ∧ (¬ (0 ≤ (m 78 a1.toNatClampNeg)) → mz_inb a1 12100 = true ∧ mz_inb a1 12100 = true ∧ Q (mz_up (mz_up (mz_up m 81 a2.toNatClampNeg a1) 78 a1.toNatClampNeg a2) 79 a1.toNatClampNeg a2)))) :
    mz_gv X mz_sh 148 0 [some (.ref 55), some (.int a1), some (.int a2)] m Q := by
  obtain ⟨g1, g2, h3⟩ := h
  refine mz_go_blk mz_m148 10 (pc' := (if 0 ≤ (m 78 a1.toNatClampNeg) then 26 else 16)) (L' := [some (.ref 55), some (.int a1), some (.int a2)]) (S' := []) (sh' := mz_sh) (m' := mz_up m 81 a2.toNatClampNeg a1) (g := mz_inb a1 12100 && (mz_inb a2 12100 && true)) rfl rfl (mz_and2 (g2) (mz_and2 (g1) (rfl))) ?_
  refine mz_go_if (fun c4 => ?_) (fun c4 => ?_)
  · have h5 := h3.1 c4
    obtain ⟨g6, g7, g8, h9⟩ := h5
    refine mz_go_blk mz_m148 13 (pc' := 45) (L' := [some (.ref 55), some (.int a1), some (.int a2)]) (S' := []) (sh' := mz_sh) (m' := mz_up (mz_up (mz_up m 81 a2.toNatClampNeg a1) 80 ((m 79 a1.toNatClampNeg).toNatClampNeg) a2) 79 a1.toNatClampNeg a2) (g := mz_inb a1 12100 && (mz_inb (m 79 a1.toNatClampNeg) 12100 && (mz_inb a1 12100 && true))) rfl rfl (mz_and2 (g8) (mz_and2 (g7) (mz_and2 (g6) (rfl)))) ?_
    exact mz_go_ret mz_m148 rfl rfl rfl ⟨rfl, rfl, h9⟩
  · have h10 := h3.2 c4
    obtain ⟨g11, g12, h13⟩ := h10
    refine mz_go_blk mz_m148 11 (pc' := 45) (L' := [some (.ref 55), some (.int a1), some (.int a2)]) (S' := []) (sh' := mz_sh) (m' := mz_up (mz_up (mz_up m 81 a2.toNatClampNeg a1) 78 a1.toNatClampNeg a2) 79 a1.toNatClampNeg a2) (g := mz_inb a1 12100 && (mz_inb a1 12100 && true)) rfl rfl (mz_and2 (g12) (mz_and2 (g11) (rfl))) ?_
    exact mz_go_ret mz_m148 rfl rfl rfl ⟨rfl, rfl, h13⟩
set_option maxRecDepth 100000 in
theorem t_M_thing_0 {X : mz_X} {m : mz_M} {Q : Int32 → mz_M → Prop} (a1 : Int32) (a2 : Int32)
    (h : mz_inb (((m 55 24) - a2) + a1) 8100 = true ∧ Q (m 74 ((((m 55 24) - a2) + a1).toNatClampNeg)) m) :
    mz_gi X mz_sh 149 0 [some (.ref 55), some (.int a1), some (.int a2)] m Q := by
  obtain ⟨g1, h2⟩ := h
  refine mz_go_blk mz_m149 9 (pc' := 13) (L' := [some (.ref 55), some (.int a1), some (.int a2)]) (S' := [.int (m 74 ((((m 55 24) - a2) + a1).toNatClampNeg))]) (sh' := mz_sh) (m' := m) (g := mz_inb (((m 55 24) - a2) + a1) 8100 && true) rfl rfl (mz_and2 (g1) (rfl)) ?_
  exact mz_go_ret mz_m149 rfl rfl rfl ⟨_, rfl, rfl, h2⟩
set_option maxRecDepth 100000 in
theorem t_M_one_0 {X : mz_X} {m : mz_M} {Q : Int32 → mz_M → Prop} (a1 : Int32) (a2 : Int32) (a3 : Int32)
    (h : mz_gi X mz_sh 147 0 [some (.ref 55), some (.int a1), some (.int a2)] m (fun r3 m1 => mz_gv X mz_sh 148 0 [some (.ref 55), some (.int r3), some (.int a3)] m1 (fun m4 => Q r3 m4))) :
    mz_gi X mz_sh 150 0 [some (.ref 55), some (.int a1), some (.int a2), some (.int a3), none] m Q := by
  refine mz_go_blk mz_m150 3 (pc' := 3) (L' := [some (.ref 55), some (.int a1), some (.int a2), some (.int a3), none]) (S' := [.int a2, .int a1, .ref 55]) (sh' := mz_sh) (m' := m) (g := true) rfl rfl (rfl) ?_
  refine mz_go_call mz_m150 mz_m147 rfl rfl rfl rfl rfl rfl rfl h (fun v sh1 m1 hv => ?_)
  obtain ⟨r3, rfl, rfl, h2⟩ := hv
  refine mz_go_blk mz_m150 4 (pc' := 12) (L' := [some (.ref 55), some (.int a1), some (.int a2), some (.int a3), some (.int r3)]) (S' := [.int a3, .int r3, .ref 55]) (sh' := mz_sh) (m' := m1) (g := true) rfl rfl (rfl) ?_
  refine mz_go_call mz_m150 mz_m148 rfl rfl rfl rfl rfl rfl rfl h2 (fun v sh1 m4 hv => ?_)
  obtain ⟨rfl, rfl, h5⟩ := hv
  refine mz_go_blk mz_m150 1 (pc' := 17) (L' := [some (.ref 55), some (.int a1), some (.int a2), some (.int a3), some (.int r3)]) (S' := [.int r3]) (sh' := mz_sh) (m' := m4) (g := true) rfl rfl (rfl) ?_
  exact mz_go_ret mz_m150 rfl rfl rfl ⟨_, rfl, rfl, h5⟩
set_option maxRecDepth 100000 in
theorem t_M_two_0 {X : mz_X} {m : mz_M} {Q : Int32 → mz_M → Prop} (a1 : Int32) (a2 : Int32)
    (h : mz_gi X mz_sh 149 0 [some (.ref 55), some (.int 1), some (.int a2)] m (fun r3 m1 => mz_gi X mz_sh 147 0 [some (.ref 55), some (.int a1), some (.int r3)] m1 (fun r6 m4 => mz_gi X mz_sh 149 0 [some (.ref 55), some (.int 0), some (.int a2)] m4 (fun r9 m7 => mz_gv X mz_sh 148 0 [some (.ref 55), some (.int r6), some (.int r9)] m7 (fun m10 => mz_gi X mz_sh 149 0 [some (.ref 55), some (.int 2), some (.int a2)] m10 (fun r14 m12 => mz_gv X mz_sh 148 0 [some (.ref 55), some (.int r6), some (.int r14)] m12 (fun m15 => Q r6 m15))))))) :
    mz_gi X mz_sh 151 0 [some (.ref 55), some (.int a1), some (.int a2), none] m Q := by
  refine mz_go_blk mz_m151 5 (pc' := 5) (L' := [some (.ref 55), some (.int a1), some (.int a2), none]) (S' := [.int a2, .int 1, .ref 55, .int a1, .ref 55]) (sh' := mz_sh) (m' := m) (g := true) rfl rfl (rfl) ?_
  refine mz_go_call mz_m151 mz_m149 rfl rfl rfl rfl rfl rfl rfl h (fun v sh1 m1 hv => ?_)
  obtain ⟨r3, rfl, rfl, h2⟩ := hv
  refine mz_go_call mz_m151 mz_m147 rfl rfl rfl rfl rfl rfl rfl h2 (fun v sh1 m4 hv => ?_)
  obtain ⟨r6, rfl, rfl, h5⟩ := hv
  refine mz_go_blk mz_m151 6 (pc' := 17) (L' := [some (.ref 55), some (.int a1), some (.int a2), some (.int r6)]) (S' := [.int a2, .int 0, .ref 55, .int r6, .ref 55]) (sh' := mz_sh) (m' := m4) (g := true) rfl rfl (rfl) ?_
  refine mz_go_call mz_m151 mz_m149 rfl rfl rfl rfl rfl rfl rfl h5 (fun v sh1 m7 hv => ?_)
  obtain ⟨r9, rfl, rfl, h8⟩ := hv
  refine mz_go_call mz_m151 mz_m148 rfl rfl rfl rfl rfl rfl rfl h8 (fun v sh1 m10 hv => ?_)
  obtain ⟨rfl, rfl, h11⟩ := hv
  refine mz_go_blk mz_m151 5 (pc' := 28) (L' := [some (.ref 55), some (.int a1), some (.int a2), some (.int r6)]) (S' := [.int a2, .int 2, .ref 55, .int r6, .ref 55]) (sh' := mz_sh) (m' := m10) (g := true) rfl rfl (rfl) ?_
  refine mz_go_call mz_m151 mz_m149 rfl rfl rfl rfl rfl rfl rfl h11 (fun v sh1 m12 hv => ?_)
  obtain ⟨r14, rfl, rfl, h13⟩ := hv
  refine mz_go_call mz_m151 mz_m148 rfl rfl rfl rfl rfl rfl rfl h13 (fun v sh1 m15 hv => ?_)
  obtain ⟨rfl, rfl, h16⟩ := hv
  refine mz_go_blk mz_m151 1 (pc' := 35) (L' := [some (.ref 55), some (.int a1), some (.int a2), some (.int r6)]) (S' := [.int r6]) (sh' := mz_sh) (m' := m15) (g := true) rfl rfl (rfl) ?_
  exact mz_go_ret mz_m151 rfl rfl rfl ⟨_, rfl, rfl, h16⟩
set_option maxRecDepth 100000 in
theorem t_M_statement_0 {X : mz_X} {m : mz_M} {Q : Int32 → mz_M → Prop} (a1 : Int32)
    (h : mz_inb a1 32 = true ∧ ((a1 = 3 → mz_gi X mz_sh 149 0 [some (.ref 55), some (.int 0), some (.int (m 57 a1.toNatClampNeg))] m (fun r7 m5 => mz_gi X mz_sh 149 0 [some (.ref 55), some (.int 2), some (.int (m 57 a1.toNatClampNeg))] m5 (fun r10 m8 => mz_gi X mz_sh 150 0 [some (.ref 55), some (.int 1), some (.int r7), some (.int r10), none] m8 (fun r13 m11 => Q r13 m11)))) ∧ (a1 = 4 → mz_gi X mz_sh 149 0 [some (.ref 55), some (.int 0), some (.int (m 57 a1.toNatClampNeg))] m (fun r19 m17 => mz_gi X mz_sh 149 0 [some (.ref 55), some (.int 1), some (.int (m 57 a1.toNatClampNeg))] m17 (fun r22 m20 => mz_gi X mz_sh 150 0 [some (.ref 55), some (.int 2), some (.int r19), some (.int r22), none] m20 (fun r25 m23 => Q r25 m23)))) ∧ (a1 = 5 → ((a1 = 7 → mz_gi X mz_sh 149 0 [some (.ref 55), some (.int 0), some (.int (m 57 a1.toNatClampNeg))] m (fun r33 m31 => mz_gi X mz_sh 147 0 [some (.ref 55), some (.int 4), some (.int r33)] m31 (fun r36 m34 => mz_gi X mz_sh 149 0 [some (.ref 55), some (.int 2), some (.int (m 57 a1.toNatClampNeg))] m34 (fun r39 m37 => mz_gv X mz_sh 148 0 [some (.ref 55), some (.int r36), some (.int r39)] m37 (fun m40 => mz_gi X mz_sh 149 0 [some (.ref 55), some (.int 4), some (.int (m 57 a1.toNatClampNeg))] m40 (fun r44 m42 => mz_gv X mz_sh 148 0 [some (.ref 55), some (.int r36), some (.int r44)] m42 (fun m45 => ((a1 = 6 → mz_gi X mz_sh 149 0 [some (.ref 55), some (.int 6), some (.int (m 57 a1.toNatClampNeg))] m45 (fun r51 m49 => mz_gv X mz_sh 148 0 [some (.ref 55), some (.int r36), some (.int r51)] m49 (fun m52 => mz_gi X mz_sh 152 146 [some (.ref 55), none, none, some (.int r36)] m52 Q))) ∧ (¬ (a1 = 6) → mz_gi X mz_sh 152 146 [some (.ref 55), none, none, some (.int r36)] m45 Q))))))))) ∧ (¬ (a1 = 7) → mz_gi X mz_sh 149 0 [some (.ref 55), some (.int 0), some (.int (m 57 a1.toNatClampNeg))] m (fun r58 m56 => mz_gi X mz_sh 147 0 [some (.ref 55), some (.int 3), some (.int r58)] m56 (fun r61 m59 => mz_gi X mz_sh 149 0 [some (.ref 55), some (.int 2), some (.int (m 57 a1.toNatClampNeg))] m59 (fun r64 m62 => mz_gv X mz_sh 148 0 [some (.ref 55), some (.int r61), some (.int r64)] m62 (fun m65 => mz_gi X mz_sh 149 0 [some (.ref 55), some (.int 4), some (.int (m 57 a1.toNatClampNeg))] m65 (fun r69 m67 => mz_gv X mz_sh 148 0 [some (.ref 55), some (.int r61), some (.int r69)] m67 (fun m70 => ((a1 = 6 → mz_gi X mz_sh 149 0 [some (.ref 55), some (.int 6), some (.int (m 57 a1.toNatClampNeg))] m70 (fun r76 m74 => mz_gv X mz_sh 148 0 [some (.ref 55), some (.int r61), some (.int r76)] m74 (fun m77 => mz_gi X mz_sh 152 146 [some (.ref 55), none, none, some (.int r61)] m77 Q))) ∧ (¬ (a1 = 6) → mz_gi X mz_sh 152 146 [some (.ref 55), none, none, some (.int r61)] m70 Q))))))))))) ∧ (a1 = 6 → ((a1 = 7 → mz_gi X mz_sh 149 0 [some (.ref 55), some (.int 0), some (.int (m 57 a1.toNatClampNeg))] m (fun r87 m85 => mz_gi X mz_sh 147 0 [some (.ref 55), some (.int 4), some (.int r87)] m85 (fun r90 m88 => mz_gi X mz_sh 149 0 [some (.ref 55), some (.int 2), some (.int (m 57 a1.toNatClampNeg))] m88 (fun r93 m91 => mz_gv X mz_sh 148 0 [some (.ref 55), some (.int r90), some (.int r93)] m91 (fun m94 => mz_gi X mz_sh 149 0 [some (.ref 55), some (.int 4), some (.int (m 57 a1.toNatClampNeg))] m94 (fun r98 m96 => mz_gv X mz_sh 148 0 [some (.ref 55), some (.int r90), some (.int r98)] m96 (fun m99 => ((a1 = 6 → mz_gi X mz_sh 149 0 [some (.ref 55), some (.int 6), some (.int (m 57 a1.toNatClampNeg))] m99 (fun r105 m103 => mz_gv X mz_sh 148 0 [some (.ref 55), some (.int r90), some (.int r105)] m103 (fun m106 => mz_gi X mz_sh 152 146 [some (.ref 55), none, none, some (.int r90)] m106 Q))) ∧ (¬ (a1 = 6) → mz_gi X mz_sh 152 146 [some (.ref 55), none, none, some (.int r90)] m99 Q))))))))) ∧ (¬ (a1 = 7) → mz_gi X mz_sh 149 0 [some (.ref 55), some (.int 0), some (.int (m 57 a1.toNatClampNeg))] m (fun r112 m110 => mz_gi X mz_sh 147 0 [some (.ref 55), some (.int 3), some (.int r112)] m110 (fun r115 m113 => mz_gi X mz_sh 149 0 [some (.ref 55), some (.int 2), some (.int (m 57 a1.toNatClampNeg))] m113 (fun r118 m116 => mz_gv X mz_sh 148 0 [some (.ref 55), some (.int r115), some (.int r118)] m116 (fun m119 => mz_gi X mz_sh 149 0 [some (.ref 55), some (.int 4), some (.int (m 57 a1.toNatClampNeg))] m119 (fun r123 m121 => mz_gv X mz_sh 148 0 [some (.ref 55), some (.int r115), some (.int r123)] m121 (fun m124 => ((a1 = 6 → mz_gi X mz_sh 149 0 [some (.ref 55), some (.int 6), some (.int (m 57 a1.toNatClampNeg))] m124 (fun r130 m128 => mz_gv X mz_sh 148 0 [some (.ref 55), some (.int r115), some (.int r130)] m128 (fun m131 => mz_gi X mz_sh 152 146 [some (.ref 55), none, none, some (.int r115)] m131 Q))) ∧ (¬ (a1 = 6) → mz_gi X mz_sh 152 146 [some (.ref 55), none, none, some (.int r115)] m124 Q))))))))))) ∧ (a1 = 7 → ((a1 = 7 → mz_gi X mz_sh 149 0 [some (.ref 55), some (.int 0), some (.int (m 57 a1.toNatClampNeg))] m (fun r141 m139 => mz_gi X mz_sh 147 0 [some (.ref 55), some (.int 4), some (.int r141)] m139 (fun r144 m142 => mz_gi X mz_sh 149 0 [some (.ref 55), some (.int 2), some (.int (m 57 a1.toNatClampNeg))] m142 (fun r147 m145 => mz_gv X mz_sh 148 0 [some (.ref 55), some (.int r144), some (.int r147)] m145 (fun m148 => mz_gi X mz_sh 149 0 [some (.ref 55), some (.int 4), some (.int (m 57 a1.toNatClampNeg))] m148 (fun r152 m150 => mz_gv X mz_sh 148 0 [some (.ref 55), some (.int r144), some (.int r152)] m150 (fun m153 => ((a1 = 6 → mz_gi X mz_sh 149 0 [some (.ref 55), some (.int 6), some (.int (m 57 a1.toNatClampNeg))] m153 (fun r159 m157 => mz_gv X mz_sh 148 0 [some (.ref 55), some (.int r144), some (.int r159)] m157 (fun m160 => mz_gi X mz_sh 152 146 [some (.ref 55), none, none, some (.int r144)] m160 Q))) ∧ (¬ (a1 = 6) → mz_gi X mz_sh 152 146 [some (.ref 55), none, none, some (.int r144)] m153 Q))))))))) ∧ (¬ (a1 = 7) → mz_gi X mz_sh 149 0 [some (.ref 55), some (.int 0), some (.int (m 57 a1.toNatClampNeg))] m (fun r166 m164 => mz_gi X mz_sh 147 0 [some (.ref 55), some (.int 3), some (.int r166)] m164 (fun r169 m167 => mz_gi X mz_sh 149 0 [some (.ref 55), some (.int 2), some (.int (m 57 a1.toNatClampNeg))] m167 (fun r172 m170 => mz_gv X mz_sh 148 0 [some (.ref 55), some (.int r169), some (.int r172)] m170 (fun m173 => mz_gi X mz_sh 149 0 [some (.ref 55), some (.int 4), some (.int (m 57 a1.toNatClampNeg))] m173 (fun r177 m175 => mz_gv X mz_sh 148 0 [some (.ref 55), some (.int r169), some (.int r177)] m175 (fun m178 => ((a1 = 6 → mz_gi X mz_sh 149 0 [some (.ref 55), some (.int 6), some (.int (m 57 a1.toNatClampNeg))] m178 (fun r184 m182 => mz_gv X mz_sh 148 0 [some (.ref 55), some (.int r169), some (.int r184)] m182 (fun m185 => mz_gi X mz_sh 152 146 [some (.ref 55), none, none, some (.int r169)] m185 Q))) ∧ (¬ (a1 = 6) → mz_gi X mz_sh 152 146 [some (.ref 55), none, none, some (.int r169)] m178 Q))))))))))) ∧ (a1 = 8 → mz_gi X mz_sh 149 0 [some (.ref 55), some (.int 0), some (.int (m 57 a1.toNatClampNeg))] m (fun r193 m191 => mz_gi X mz_sh 147 0 [some (.ref 55), some (.int 5), some (.int r193)] m191 (fun r196 m194 => Q r196 m194))) ∧ (¬ a1 = 3 → ¬ a1 = 4 → ¬ a1 = 5 → ¬ a1 = 6 → ¬ a1 = 7 → ¬ a1 = 8 → mz_gi X mz_sh 149 0 [some (.ref 55), some (.int 0), some (.int (m 57 a1.toNatClampNeg))] m (fun r200 m198 => mz_gi X mz_sh 147 0 [some (.ref 55), some (.int 6), some (.int r200)] m198 (fun r203 m201 => Q r203 m201))))) :
    mz_gi X mz_sh 152 0 [some (.ref 55), some (.int a1), none, none] m Q := by
  obtain ⟨g1, h2⟩ := h
  refine mz_go_blk mz_m152 7 (pc' := (mz_tsw 8 152 3 8 #[40, 58, 76, 76, 76, 140] a1)) (L' := [some (.ref 55), some (.int a1), some (.int (m 57 a1.toNatClampNeg)), none]) (S' := []) (sh' := mz_sh) (m' := m) (g := mz_inb a1 32 && true) rfl rfl (mz_and2 (g1) (rfl)) ?_
  by_cases c4 : a1 = 3
  · have h3 := h2.1 c4
    rw [show mz_tsw 8 152 3 8 #[40, 58, 76, 76, 76, 140] a1 = 48 by rw [c4]; decide +kernel]
    refine mz_go_blk mz_m152 5 (pc' := 53) (L' := [some (.ref 55), some (.int a1), some (.int (m 57 a1.toNatClampNeg)), none]) (S' := [.int (m 57 a1.toNatClampNeg), .int 0, .ref 55, .int 1, .ref 55]) (sh' := mz_sh) (m' := m) (g := true) rfl rfl (rfl) ?_
    refine mz_go_call mz_m152 mz_m149 rfl rfl rfl rfl rfl rfl rfl h3 (fun v sh1 m5 hv => ?_)
    obtain ⟨r7, rfl, rfl, h6⟩ := hv
    refine mz_go_blk mz_m152 3 (pc' := 59) (L' := [some (.ref 55), some (.int a1), some (.int (m 57 a1.toNatClampNeg)), none]) (S' := [.int (m 57 a1.toNatClampNeg), .int 2, .ref 55, .int r7, .int 1, .ref 55]) (sh' := mz_sh) (m' := m5) (g := true) rfl rfl (rfl) ?_
    refine mz_go_call mz_m152 mz_m149 rfl rfl rfl rfl rfl rfl rfl h6 (fun v sh1 m8 hv => ?_)
    obtain ⟨r10, rfl, rfl, h9⟩ := hv
    refine mz_go_call mz_m152 mz_m150 rfl rfl rfl rfl rfl rfl rfl h9 (fun v sh1 m11 hv => ?_)
    obtain ⟨r13, rfl, rfl, h12⟩ := hv
    exact mz_go_ret mz_m152 rfl rfl rfl ⟨_, rfl, rfl, h12⟩
  have h14 := h2.2
  by_cases c16 : a1 = 4
  · have h15 := h14.1 c16
    rw [show mz_tsw 8 152 3 8 #[40, 58, 76, 76, 76, 140] a1 = 66 by rw [c16]; decide +kernel]
    refine mz_go_blk mz_m152 5 (pc' := 71) (L' := [some (.ref 55), some (.int a1), some (.int (m 57 a1.toNatClampNeg)), none]) (S' := [.int (m 57 a1.toNatClampNeg), .int 0, .ref 55, .int 2, .ref 55]) (sh' := mz_sh) (m' := m) (g := true) rfl rfl (rfl) ?_
    refine mz_go_call mz_m152 mz_m149 rfl rfl rfl rfl rfl rfl rfl h15 (fun v sh1 m17 hv => ?_)
    obtain ⟨r19, rfl, rfl, h18⟩ := hv
    refine mz_go_blk mz_m152 3 (pc' := 77) (L' := [some (.ref 55), some (.int a1), some (.int (m 57 a1.toNatClampNeg)), none]) (S' := [.int (m 57 a1.toNatClampNeg), .int 1, .ref 55, .int r19, .int 2, .ref 55]) (sh' := mz_sh) (m' := m17) (g := true) rfl rfl (rfl) ?_
    refine mz_go_call mz_m152 mz_m149 rfl rfl rfl rfl rfl rfl rfl h18 (fun v sh1 m20 hv => ?_)
    obtain ⟨r22, rfl, rfl, h21⟩ := hv
    refine mz_go_call mz_m152 mz_m150 rfl rfl rfl rfl rfl rfl rfl h21 (fun v sh1 m23 hv => ?_)
    obtain ⟨r25, rfl, rfl, h24⟩ := hv
    exact mz_go_ret mz_m152 rfl rfl rfl ⟨_, rfl, rfl, h24⟩
  have h26 := h14.2
  by_cases c28 : a1 = 5
  · have h27 := h26.1 c28
    rw [show mz_tsw 8 152 3 8 #[40, 58, 76, 76, 76, 140] a1 = 84 by rw [c28]; decide +kernel]
    refine mz_go_blk mz_m152 4 (pc' := (if a1 = 7 then 91 else 95)) (L' := [some (.ref 55), some (.int a1), some (.int (m 57 a1.toNatClampNeg)), none]) (S' := [.ref 55]) (sh' := mz_sh) (m' := m) (g := true) rfl rfl (rfl) ?_
    refine mz_go_if (fun c29 => ?_) (fun c29 => ?_)
    · have h30 := h27.1 c29
      refine mz_go_blk mz_m152 5 (pc' := 99) (L' := [some (.ref 55), some (.int a1), some (.int (m 57 a1.toNatClampNeg)), none]) (S' := [.int (m 57 a1.toNatClampNeg), .int 0, .ref 55, .int 4, .ref 55]) (sh' := mz_sh) (m' := m) (g := true) rfl rfl (rfl) ?_
      refine mz_go_call mz_m152 mz_m149 rfl rfl rfl rfl rfl rfl rfl h30 (fun v sh1 m31 hv => ?_)
      obtain ⟨r33, rfl, rfl, h32⟩ := hv
      refine mz_go_call mz_m152 mz_m147 rfl rfl rfl rfl rfl rfl rfl h32 (fun v sh1 m34 hv => ?_)
      obtain ⟨r36, rfl, rfl, h35⟩ := hv
      refine mz_go_blk mz_m152 6 (pc' := 111) (L' := [some (.ref 55), some (.int a1), some (.int (m 57 a1.toNatClampNeg)), some (.int r36)]) (S' := [.int (m 57 a1.toNatClampNeg), .int 2, .ref 55, .int r36, .ref 55]) (sh' := mz_sh) (m' := m34) (g := true) rfl rfl (rfl) ?_
      refine mz_go_call mz_m152 mz_m149 rfl rfl rfl rfl rfl rfl rfl h35 (fun v sh1 m37 hv => ?_)
      obtain ⟨r39, rfl, rfl, h38⟩ := hv
      refine mz_go_call mz_m152 mz_m148 rfl rfl rfl rfl rfl rfl rfl h38 (fun v sh1 m40 hv => ?_)
      obtain ⟨rfl, rfl, h41⟩ := hv
      refine mz_go_blk mz_m152 5 (pc' := 122) (L' := [some (.ref 55), some (.int a1), some (.int (m 57 a1.toNatClampNeg)), some (.int r36)]) (S' := [.int (m 57 a1.toNatClampNeg), .int 4, .ref 55, .int r36, .ref 55]) (sh' := mz_sh) (m' := m40) (g := true) rfl rfl (rfl) ?_
      refine mz_go_call mz_m152 mz_m149 rfl rfl rfl rfl rfl rfl rfl h41 (fun v sh1 m42 hv => ?_)
      obtain ⟨r44, rfl, rfl, h43⟩ := hv
      refine mz_go_call mz_m152 mz_m148 rfl rfl rfl rfl rfl rfl rfl h43 (fun v sh1 m45 hv => ?_)
      obtain ⟨rfl, rfl, h46⟩ := hv
      refine mz_go_blk mz_m152 3 (pc' := (if a1 = 6 then 134 else 146)) (L' := [some (.ref 55), some (.int a1), some (.int (m 57 a1.toNatClampNeg)), some (.int r36)]) (S' := []) (sh' := mz_sh) (m' := m45) (g := true) rfl rfl (rfl) ?_
      refine mz_go_if (fun c47 => ?_) (fun c47 => ?_)
      · have h48 := h46.1 c47
        refine mz_go_blk mz_m152 5 (pc' := 140) (L' := [some (.ref 55), some (.int a1), some (.int (m 57 a1.toNatClampNeg)), some (.int r36)]) (S' := [.int (m 57 a1.toNatClampNeg), .int 6, .ref 55, .int r36, .ref 55]) (sh' := mz_sh) (m' := m45) (g := true) rfl rfl (rfl) ?_
        refine mz_go_call mz_m152 mz_m149 rfl rfl rfl rfl rfl rfl rfl h48 (fun v sh1 m49 hv => ?_)
        obtain ⟨r51, rfl, rfl, h50⟩ := hv
        refine mz_go_call mz_m152 mz_m148 rfl rfl rfl rfl rfl rfl rfl h50 (fun v sh1 m52 hv => ?_)
        obtain ⟨rfl, rfl, h53⟩ := hv
        exact mz_go.forget (L := [some (.ref 55), none, none, some (.int r36)]) (mz_lel_cons rfl (mz_lel_cons trivial (mz_lel_cons trivial (mz_lel_cons rfl (mz_lel_nil))))) h53
      · have h54 := h46.2 c47
        exact mz_go.forget (L := [some (.ref 55), none, none, some (.int r36)]) (mz_lel_cons rfl (mz_lel_cons trivial (mz_lel_cons trivial (mz_lel_cons rfl (mz_lel_nil))))) h54
    · have h55 := h27.2 c29
      refine mz_go_blk mz_m152 4 (pc' := 99) (L' := [some (.ref 55), some (.int a1), some (.int (m 57 a1.toNatClampNeg)), none]) (S' := [.int (m 57 a1.toNatClampNeg), .int 0, .ref 55, .int 3, .ref 55]) (sh' := mz_sh) (m' := m) (g := true) rfl rfl (rfl) ?_
      refine mz_go_call mz_m152 mz_m149 rfl rfl rfl rfl rfl rfl rfl h55 (fun v sh1 m56 hv => ?_)
      obtain ⟨r58, rfl, rfl, h57⟩ := hv
      refine mz_go_call mz_m152 mz_m147 rfl rfl rfl rfl rfl rfl rfl h57 (fun v sh1 m59 hv => ?_)
      obtain ⟨r61, rfl, rfl, h60⟩ := hv
      refine mz_go_blk mz_m152 6 (pc' := 111) (L' := [some (.ref 55), some (.int a1), some (.int (m 57 a1.toNatClampNeg)), some (.int r61)]) (S' := [.int (m 57 a1.toNatClampNeg), .int 2, .ref 55, .int r61, .ref 55]) (sh' := mz_sh) (m' := m59) (g := true) rfl rfl (rfl) ?_
      refine mz_go_call mz_m152 mz_m149 rfl rfl rfl rfl rfl rfl rfl h60 (fun v sh1 m62 hv => ?_)
      obtain ⟨r64, rfl, rfl, h63⟩ := hv
      refine mz_go_call mz_m152 mz_m148 rfl rfl rfl rfl rfl rfl rfl h63 (fun v sh1 m65 hv => ?_)
      obtain ⟨rfl, rfl, h66⟩ := hv
      refine mz_go_blk mz_m152 5 (pc' := 122) (L' := [some (.ref 55), some (.int a1), some (.int (m 57 a1.toNatClampNeg)), some (.int r61)]) (S' := [.int (m 57 a1.toNatClampNeg), .int 4, .ref 55, .int r61, .ref 55]) (sh' := mz_sh) (m' := m65) (g := true) rfl rfl (rfl) ?_
      refine mz_go_call mz_m152 mz_m149 rfl rfl rfl rfl rfl rfl rfl h66 (fun v sh1 m67 hv => ?_)
      obtain ⟨r69, rfl, rfl, h68⟩ := hv
      refine mz_go_call mz_m152 mz_m148 rfl rfl rfl rfl rfl rfl rfl h68 (fun v sh1 m70 hv => ?_)
      obtain ⟨rfl, rfl, h71⟩ := hv
      refine mz_go_blk mz_m152 3 (pc' := (if a1 = 6 then 134 else 146)) (L' := [some (.ref 55), some (.int a1), some (.int (m 57 a1.toNatClampNeg)), some (.int r61)]) (S' := []) (sh' := mz_sh) (m' := m70) (g := true) rfl rfl (rfl) ?_
      refine mz_go_if (fun c72 => ?_) (fun c72 => ?_)
      · have h73 := h71.1 c72
        refine mz_go_blk mz_m152 5 (pc' := 140) (L' := [some (.ref 55), some (.int a1), some (.int (m 57 a1.toNatClampNeg)), some (.int r61)]) (S' := [.int (m 57 a1.toNatClampNeg), .int 6, .ref 55, .int r61, .ref 55]) (sh' := mz_sh) (m' := m70) (g := true) rfl rfl (rfl) ?_
        refine mz_go_call mz_m152 mz_m149 rfl rfl rfl rfl rfl rfl rfl h73 (fun v sh1 m74 hv => ?_)
        obtain ⟨r76, rfl, rfl, h75⟩ := hv
        refine mz_go_call mz_m152 mz_m148 rfl rfl rfl rfl rfl rfl rfl h75 (fun v sh1 m77 hv => ?_)
        obtain ⟨rfl, rfl, h78⟩ := hv
        exact mz_go.forget (L := [some (.ref 55), none, none, some (.int r61)]) (mz_lel_cons rfl (mz_lel_cons trivial (mz_lel_cons trivial (mz_lel_cons rfl (mz_lel_nil))))) h78
      · have h79 := h71.2 c72
        exact mz_go.forget (L := [some (.ref 55), none, none, some (.int r61)]) (mz_lel_cons rfl (mz_lel_cons trivial (mz_lel_cons trivial (mz_lel_cons rfl (mz_lel_nil))))) h79
  have h80 := h26.2
  by_cases c82 : a1 = 6
  · have h81 := h80.1 c82
    rw [show mz_tsw 8 152 3 8 #[40, 58, 76, 76, 76, 140] a1 = 84 by rw [c82]; decide +kernel]
    refine mz_go_blk mz_m152 4 (pc' := (if a1 = 7 then 91 else 95)) (L' := [some (.ref 55), some (.int a1), some (.int (m 57 a1.toNatClampNeg)), none]) (S' := [.ref 55]) (sh' := mz_sh) (m' := m) (g := true) rfl rfl (rfl) ?_
    refine mz_go_if (fun c83 => ?_) (fun c83 => ?_)
    · have h84 := h81.1 c83
      refine mz_go_blk mz_m152 5 (pc' := 99) (L' := [some (.ref 55), some (.int a1), some (.int (m 57 a1.toNatClampNeg)), none]) (S' := [.int (m 57 a1.toNatClampNeg), .int 0, .ref 55, .int 4, .ref 55]) (sh' := mz_sh) (m' := m) (g := true) rfl rfl (rfl) ?_
      refine mz_go_call mz_m152 mz_m149 rfl rfl rfl rfl rfl rfl rfl h84 (fun v sh1 m85 hv => ?_)
      obtain ⟨r87, rfl, rfl, h86⟩ := hv
      refine mz_go_call mz_m152 mz_m147 rfl rfl rfl rfl rfl rfl rfl h86 (fun v sh1 m88 hv => ?_)
      obtain ⟨r90, rfl, rfl, h89⟩ := hv
      refine mz_go_blk mz_m152 6 (pc' := 111) (L' := [some (.ref 55), some (.int a1), some (.int (m 57 a1.toNatClampNeg)), some (.int r90)]) (S' := [.int (m 57 a1.toNatClampNeg), .int 2, .ref 55, .int r90, .ref 55]) (sh' := mz_sh) (m' := m88) (g := true) rfl rfl (rfl) ?_
      refine mz_go_call mz_m152 mz_m149 rfl rfl rfl rfl rfl rfl rfl h89 (fun v sh1 m91 hv => ?_)
      obtain ⟨r93, rfl, rfl, h92⟩ := hv
      refine mz_go_call mz_m152 mz_m148 rfl rfl rfl rfl rfl rfl rfl h92 (fun v sh1 m94 hv => ?_)
      obtain ⟨rfl, rfl, h95⟩ := hv
      refine mz_go_blk mz_m152 5 (pc' := 122) (L' := [some (.ref 55), some (.int a1), some (.int (m 57 a1.toNatClampNeg)), some (.int r90)]) (S' := [.int (m 57 a1.toNatClampNeg), .int 4, .ref 55, .int r90, .ref 55]) (sh' := mz_sh) (m' := m94) (g := true) rfl rfl (rfl) ?_
      refine mz_go_call mz_m152 mz_m149 rfl rfl rfl rfl rfl rfl rfl h95 (fun v sh1 m96 hv => ?_)
      obtain ⟨r98, rfl, rfl, h97⟩ := hv
      refine mz_go_call mz_m152 mz_m148 rfl rfl rfl rfl rfl rfl rfl h97 (fun v sh1 m99 hv => ?_)
      obtain ⟨rfl, rfl, h100⟩ := hv
      refine mz_go_blk mz_m152 3 (pc' := (if a1 = 6 then 134 else 146)) (L' := [some (.ref 55), some (.int a1), some (.int (m 57 a1.toNatClampNeg)), some (.int r90)]) (S' := []) (sh' := mz_sh) (m' := m99) (g := true) rfl rfl (rfl) ?_
      refine mz_go_if (fun c101 => ?_) (fun c101 => ?_)
      · have h102 := h100.1 c101
        refine mz_go_blk mz_m152 5 (pc' := 140) (L' := [some (.ref 55), some (.int a1), some (.int (m 57 a1.toNatClampNeg)), some (.int r90)]) (S' := [.int (m 57 a1.toNatClampNeg), .int 6, .ref 55, .int r90, .ref 55]) (sh' := mz_sh) (m' := m99) (g := true) rfl rfl (rfl) ?_
        refine mz_go_call mz_m152 mz_m149 rfl rfl rfl rfl rfl rfl rfl h102 (fun v sh1 m103 hv => ?_)
        obtain ⟨r105, rfl, rfl, h104⟩ := hv
        refine mz_go_call mz_m152 mz_m148 rfl rfl rfl rfl rfl rfl rfl h104 (fun v sh1 m106 hv => ?_)
        obtain ⟨rfl, rfl, h107⟩ := hv
        exact mz_go.forget (L := [some (.ref 55), none, none, some (.int r90)]) (mz_lel_cons rfl (mz_lel_cons trivial (mz_lel_cons trivial (mz_lel_cons rfl (mz_lel_nil))))) h107
      · have h108 := h100.2 c101
        exact mz_go.forget (L := [some (.ref 55), none, none, some (.int r90)]) (mz_lel_cons rfl (mz_lel_cons trivial (mz_lel_cons trivial (mz_lel_cons rfl (mz_lel_nil))))) h108
    · have h109 := h81.2 c83
      refine mz_go_blk mz_m152 4 (pc' := 99) (L' := [some (.ref 55), some (.int a1), some (.int (m 57 a1.toNatClampNeg)), none]) (S' := [.int (m 57 a1.toNatClampNeg), .int 0, .ref 55, .int 3, .ref 55]) (sh' := mz_sh) (m' := m) (g := true) rfl rfl (rfl) ?_
      refine mz_go_call mz_m152 mz_m149 rfl rfl rfl rfl rfl rfl rfl h109 (fun v sh1 m110 hv => ?_)
      obtain ⟨r112, rfl, rfl, h111⟩ := hv
      refine mz_go_call mz_m152 mz_m147 rfl rfl rfl rfl rfl rfl rfl h111 (fun v sh1 m113 hv => ?_)
      obtain ⟨r115, rfl, rfl, h114⟩ := hv
      refine mz_go_blk mz_m152 6 (pc' := 111) (L' := [some (.ref 55), some (.int a1), some (.int (m 57 a1.toNatClampNeg)), some (.int r115)]) (S' := [.int (m 57 a1.toNatClampNeg), .int 2, .ref 55, .int r115, .ref 55]) (sh' := mz_sh) (m' := m113) (g := true) rfl rfl (rfl) ?_
      refine mz_go_call mz_m152 mz_m149 rfl rfl rfl rfl rfl rfl rfl h114 (fun v sh1 m116 hv => ?_)
      obtain ⟨r118, rfl, rfl, h117⟩ := hv
      refine mz_go_call mz_m152 mz_m148 rfl rfl rfl rfl rfl rfl rfl h117 (fun v sh1 m119 hv => ?_)
      obtain ⟨rfl, rfl, h120⟩ := hv
      refine mz_go_blk mz_m152 5 (pc' := 122) (L' := [some (.ref 55), some (.int a1), some (.int (m 57 a1.toNatClampNeg)), some (.int r115)]) (S' := [.int (m 57 a1.toNatClampNeg), .int 4, .ref 55, .int r115, .ref 55]) (sh' := mz_sh) (m' := m119) (g := true) rfl rfl (rfl) ?_
      refine mz_go_call mz_m152 mz_m149 rfl rfl rfl rfl rfl rfl rfl h120 (fun v sh1 m121 hv => ?_)
      obtain ⟨r123, rfl, rfl, h122⟩ := hv
      refine mz_go_call mz_m152 mz_m148 rfl rfl rfl rfl rfl rfl rfl h122 (fun v sh1 m124 hv => ?_)
      obtain ⟨rfl, rfl, h125⟩ := hv
      refine mz_go_blk mz_m152 3 (pc' := (if a1 = 6 then 134 else 146)) (L' := [some (.ref 55), some (.int a1), some (.int (m 57 a1.toNatClampNeg)), some (.int r115)]) (S' := []) (sh' := mz_sh) (m' := m124) (g := true) rfl rfl (rfl) ?_
      refine mz_go_if (fun c126 => ?_) (fun c126 => ?_)
      · have h127 := h125.1 c126
        refine mz_go_blk mz_m152 5 (pc' := 140) (L' := [some (.ref 55), some (.int a1), some (.int (m 57 a1.toNatClampNeg)), some (.int r115)]) (S' := [.int (m 57 a1.toNatClampNeg), .int 6, .ref 55, .int r115, .ref 55]) (sh' := mz_sh) (m' := m124) (g := true) rfl rfl (rfl) ?_
        refine mz_go_call mz_m152 mz_m149 rfl rfl rfl rfl rfl rfl rfl h127 (fun v sh1 m128 hv => ?_)
        obtain ⟨r130, rfl, rfl, h129⟩ := hv
        refine mz_go_call mz_m152 mz_m148 rfl rfl rfl rfl rfl rfl rfl h129 (fun v sh1 m131 hv => ?_)
        obtain ⟨rfl, rfl, h132⟩ := hv
        exact mz_go.forget (L := [some (.ref 55), none, none, some (.int r115)]) (mz_lel_cons rfl (mz_lel_cons trivial (mz_lel_cons trivial (mz_lel_cons rfl (mz_lel_nil))))) h132
      · have h133 := h125.2 c126
        exact mz_go.forget (L := [some (.ref 55), none, none, some (.int r115)]) (mz_lel_cons rfl (mz_lel_cons trivial (mz_lel_cons trivial (mz_lel_cons rfl (mz_lel_nil))))) h133
  have h134 := h80.2
  by_cases c136 : a1 = 7
  · have h135 := h134.1 c136
    rw [show mz_tsw 8 152 3 8 #[40, 58, 76, 76, 76, 140] a1 = 84 by rw [c136]; decide +kernel]
    refine mz_go_blk mz_m152 4 (pc' := (if a1 = 7 then 91 else 95)) (L' := [some (.ref 55), some (.int a1), some (.int (m 57 a1.toNatClampNeg)), none]) (S' := [.ref 55]) (sh' := mz_sh) (m' := m) (g := true) rfl rfl (rfl) ?_
    refine mz_go_if (fun c137 => ?_) (fun c137 => ?_)
    · have h138 := h135.1 c137
      refine mz_go_blk mz_m152 5 (pc' := 99) (L' := [some (.ref 55), some (.int a1), some (.int (m 57 a1.toNatClampNeg)), none]) (S' := [.int (m 57 a1.toNatClampNeg), .int 0, .ref 55, .int 4, .ref 55]) (sh' := mz_sh) (m' := m) (g := true) rfl rfl (rfl) ?_
      refine mz_go_call mz_m152 mz_m149 rfl rfl rfl rfl rfl rfl rfl h138 (fun v sh1 m139 hv => ?_)
      obtain ⟨r141, rfl, rfl, h140⟩ := hv
      refine mz_go_call mz_m152 mz_m147 rfl rfl rfl rfl rfl rfl rfl h140 (fun v sh1 m142 hv => ?_)
      obtain ⟨r144, rfl, rfl, h143⟩ := hv
      refine mz_go_blk mz_m152 6 (pc' := 111) (L' := [some (.ref 55), some (.int a1), some (.int (m 57 a1.toNatClampNeg)), some (.int r144)]) (S' := [.int (m 57 a1.toNatClampNeg), .int 2, .ref 55, .int r144, .ref 55]) (sh' := mz_sh) (m' := m142) (g := true) rfl rfl (rfl) ?_
      refine mz_go_call mz_m152 mz_m149 rfl rfl rfl rfl rfl rfl rfl h143 (fun v sh1 m145 hv => ?_)
      obtain ⟨r147, rfl, rfl, h146⟩ := hv
      refine mz_go_call mz_m152 mz_m148 rfl rfl rfl rfl rfl rfl rfl h146 (fun v sh1 m148 hv => ?_)
      obtain ⟨rfl, rfl, h149⟩ := hv
      refine mz_go_blk mz_m152 5 (pc' := 122) (L' := [some (.ref 55), some (.int a1), some (.int (m 57 a1.toNatClampNeg)), some (.int r144)]) (S' := [.int (m 57 a1.toNatClampNeg), .int 4, .ref 55, .int r144, .ref 55]) (sh' := mz_sh) (m' := m148) (g := true) rfl rfl (rfl) ?_
      refine mz_go_call mz_m152 mz_m149 rfl rfl rfl rfl rfl rfl rfl h149 (fun v sh1 m150 hv => ?_)
      obtain ⟨r152, rfl, rfl, h151⟩ := hv
      refine mz_go_call mz_m152 mz_m148 rfl rfl rfl rfl rfl rfl rfl h151 (fun v sh1 m153 hv => ?_)
      obtain ⟨rfl, rfl, h154⟩ := hv
      refine mz_go_blk mz_m152 3 (pc' := (if a1 = 6 then 134 else 146)) (L' := [some (.ref 55), some (.int a1), some (.int (m 57 a1.toNatClampNeg)), some (.int r144)]) (S' := []) (sh' := mz_sh) (m' := m153) (g := true) rfl rfl (rfl) ?_
      refine mz_go_if (fun c155 => ?_) (fun c155 => ?_)
      · have h156 := h154.1 c155
        refine mz_go_blk mz_m152 5 (pc' := 140) (L' := [some (.ref 55), some (.int a1), some (.int (m 57 a1.toNatClampNeg)), some (.int r144)]) (S' := [.int (m 57 a1.toNatClampNeg), .int 6, .ref 55, .int r144, .ref 55]) (sh' := mz_sh) (m' := m153) (g := true) rfl rfl (rfl) ?_
        refine mz_go_call mz_m152 mz_m149 rfl rfl rfl rfl rfl rfl rfl h156 (fun v sh1 m157 hv => ?_)
        obtain ⟨r159, rfl, rfl, h158⟩ := hv
        refine mz_go_call mz_m152 mz_m148 rfl rfl rfl rfl rfl rfl rfl h158 (fun v sh1 m160 hv => ?_)
        obtain ⟨rfl, rfl, h161⟩ := hv
        exact mz_go.forget (L := [some (.ref 55), none, none, some (.int r144)]) (mz_lel_cons rfl (mz_lel_cons trivial (mz_lel_cons trivial (mz_lel_cons rfl (mz_lel_nil))))) h161
      · have h162 := h154.2 c155
        exact mz_go.forget (L := [some (.ref 55), none, none, some (.int r144)]) (mz_lel_cons rfl (mz_lel_cons trivial (mz_lel_cons trivial (mz_lel_cons rfl (mz_lel_nil))))) h162
    · have h163 := h135.2 c137
      refine mz_go_blk mz_m152 4 (pc' := 99) (L' := [some (.ref 55), some (.int a1), some (.int (m 57 a1.toNatClampNeg)), none]) (S' := [.int (m 57 a1.toNatClampNeg), .int 0, .ref 55, .int 3, .ref 55]) (sh' := mz_sh) (m' := m) (g := true) rfl rfl (rfl) ?_
      refine mz_go_call mz_m152 mz_m149 rfl rfl rfl rfl rfl rfl rfl h163 (fun v sh1 m164 hv => ?_)
      obtain ⟨r166, rfl, rfl, h165⟩ := hv
      refine mz_go_call mz_m152 mz_m147 rfl rfl rfl rfl rfl rfl rfl h165 (fun v sh1 m167 hv => ?_)
      obtain ⟨r169, rfl, rfl, h168⟩ := hv
      refine mz_go_blk mz_m152 6 (pc' := 111) (L' := [some (.ref 55), some (.int a1), some (.int (m 57 a1.toNatClampNeg)), some (.int r169)]) (S' := [.int (m 57 a1.toNatClampNeg), .int 2, .ref 55, .int r169, .ref 55]) (sh' := mz_sh) (m' := m167) (g := true) rfl rfl (rfl) ?_
      refine mz_go_call mz_m152 mz_m149 rfl rfl rfl rfl rfl rfl rfl h168 (fun v sh1 m170 hv => ?_)
      obtain ⟨r172, rfl, rfl, h171⟩ := hv
      refine mz_go_call mz_m152 mz_m148 rfl rfl rfl rfl rfl rfl rfl h171 (fun v sh1 m173 hv => ?_)
      obtain ⟨rfl, rfl, h174⟩ := hv
      refine mz_go_blk mz_m152 5 (pc' := 122) (L' := [some (.ref 55), some (.int a1), some (.int (m 57 a1.toNatClampNeg)), some (.int r169)]) (S' := [.int (m 57 a1.toNatClampNeg), .int 4, .ref 55, .int r169, .ref 55]) (sh' := mz_sh) (m' := m173) (g := true) rfl rfl (rfl) ?_
      refine mz_go_call mz_m152 mz_m149 rfl rfl rfl rfl rfl rfl rfl h174 (fun v sh1 m175 hv => ?_)
      obtain ⟨r177, rfl, rfl, h176⟩ := hv
      refine mz_go_call mz_m152 mz_m148 rfl rfl rfl rfl rfl rfl rfl h176 (fun v sh1 m178 hv => ?_)
      obtain ⟨rfl, rfl, h179⟩ := hv
      refine mz_go_blk mz_m152 3 (pc' := (if a1 = 6 then 134 else 146)) (L' := [some (.ref 55), some (.int a1), some (.int (m 57 a1.toNatClampNeg)), some (.int r169)]) (S' := []) (sh' := mz_sh) (m' := m178) (g := true) rfl rfl (rfl) ?_
      refine mz_go_if (fun c180 => ?_) (fun c180 => ?_)
      · have h181 := h179.1 c180
        refine mz_go_blk mz_m152 5 (pc' := 140) (L' := [some (.ref 55), some (.int a1), some (.int (m 57 a1.toNatClampNeg)), some (.int r169)]) (S' := [.int (m 57 a1.toNatClampNeg), .int 6, .ref 55, .int r169, .ref 55]) (sh' := mz_sh) (m' := m178) (g := true) rfl rfl (rfl) ?_
        refine mz_go_call mz_m152 mz_m149 rfl rfl rfl rfl rfl rfl rfl h181 (fun v sh1 m182 hv => ?_)
        obtain ⟨r184, rfl, rfl, h183⟩ := hv
        refine mz_go_call mz_m152 mz_m148 rfl rfl rfl rfl rfl rfl rfl h183 (fun v sh1 m185 hv => ?_)
        obtain ⟨rfl, rfl, h186⟩ := hv
        exact mz_go.forget (L := [some (.ref 55), none, none, some (.int r169)]) (mz_lel_cons rfl (mz_lel_cons trivial (mz_lel_cons trivial (mz_lel_cons rfl (mz_lel_nil))))) h186
      · have h187 := h179.2 c180
        exact mz_go.forget (L := [some (.ref 55), none, none, some (.int r169)]) (mz_lel_cons rfl (mz_lel_cons trivial (mz_lel_cons trivial (mz_lel_cons rfl (mz_lel_nil))))) h187
  have h188 := h134.2
  by_cases c190 : a1 = 8
  · have h189 := h188.1 c190
    rw [show mz_tsw 8 152 3 8 #[40, 58, 76, 76, 76, 140] a1 = 148 by rw [c190]; decide +kernel]
    refine mz_go_blk mz_m152 5 (pc' := 153) (L' := [some (.ref 55), some (.int a1), some (.int (m 57 a1.toNatClampNeg)), none]) (S' := [.int (m 57 a1.toNatClampNeg), .int 0, .ref 55, .int 5, .ref 55]) (sh' := mz_sh) (m' := m) (g := true) rfl rfl (rfl) ?_
    refine mz_go_call mz_m152 mz_m149 rfl rfl rfl rfl rfl rfl rfl h189 (fun v sh1 m191 hv => ?_)
    obtain ⟨r193, rfl, rfl, h192⟩ := hv
    refine mz_go_call mz_m152 mz_m147 rfl rfl rfl rfl rfl rfl rfl h192 (fun v sh1 m194 hv => ?_)
    obtain ⟨r196, rfl, rfl, h195⟩ := hv
    exact mz_go_ret mz_m152 rfl rfl rfl ⟨_, rfl, rfl, h195⟩
  have h197 := h188.2
  have h197d := h197 c4 c16 c28 c82 c136 c190
  rw [show mz_tsw 8 152 3 8 #[40, 58, 76, 76, 76, 140] a1 = 160 from (by
        refine mz_tswd _ _ _ _ _ a1 160 (by decide +kernel) (fun k hk z => ?_)
        match k, hk, z with
        | 0, _, z => exact absurd (mz_tI (by rw [z]; decide +kernel)) c4
        | 1, _, z => exact absurd (mz_tI (by rw [z]; decide +kernel)) c16
        | 2, _, z => exact absurd (mz_tI (by rw [z]; decide +kernel)) c28
        | 3, _, z => exact absurd (mz_tI (by rw [z]; decide +kernel)) c82
        | 4, _, z => exact absurd (mz_tI (by rw [z]; decide +kernel)) c136
        | 5, _, z => exact absurd (mz_tI (by rw [z]; decide +kernel)) c190
        | k + 6, hk, _ => exact absurd hk (by simp only [Array.size]; simp)
      )]
  refine mz_go_blk mz_m152 5 (pc' := 166) (L' := [some (.ref 55), some (.int a1), some (.int (m 57 a1.toNatClampNeg)), none]) (S' := [.int (m 57 a1.toNatClampNeg), .int 0, .ref 55, .int 6, .ref 55]) (sh' := mz_sh) (m' := m) (g := true) rfl rfl (rfl) ?_
  refine mz_go_call mz_m152 mz_m149 rfl rfl rfl rfl rfl rfl rfl h197d (fun v sh1 m198 hv => ?_)
  obtain ⟨r200, rfl, rfl, h199⟩ := hv
  refine mz_go_call mz_m152 mz_m147 rfl rfl rfl rfl rfl rfl rfl h199 (fun v sh1 m201 hv => ?_)
  obtain ⟨r203, rfl, rfl, h202⟩ := hv
  exact mz_go_ret mz_m152 rfl rfl rfl ⟨_, rfl, rfl, h202⟩
set_option maxRecDepth 100000 in
theorem t_M_statement_1 {X : mz_X} {m : mz_M} {Q : Int32 → mz_M → Prop} (l3 : Int32)
    (h : Q l3 m) :
    mz_gi X mz_sh 152 146 [some (.ref 55), none, none, some (.int l3)] m Q := by
  refine mz_go_blk mz_m152 1 (pc' := 147) (L' := [some (.ref 55), none, none, some (.int l3)]) (S' := [.int l3]) (sh' := mz_sh) (m' := m) (g := true) rfl rfl (rfl) ?_
  exact mz_go_ret mz_m152 rfl rfl rfl ⟨_, rfl, rfl, h⟩
set_option maxRecDepth 100000 in
theorem t_M_reduce_0 {X : mz_X} {m : mz_M} {Q : Int32 → mz_M → Prop} (a1 : Int32)
    (h : mz_inb a1 32 = true ∧ ((a1 < 3 → mz_gi X mz_sh 153 24 [some (.ref 55), some (.int a1), some (.int (m 57 a1.toNatClampNeg))] m Q) ∧ (¬ (a1 < 3) → ((9 < a1 → mz_gi X mz_sh 153 24 [some (.ref 55), some (.int a1), some (.int (m 57 a1.toNatClampNeg))] m Q) ∧ (¬ (9 < a1) → mz_gi X mz_sh 152 0 [some (.ref 55), some (.int a1), none, none] m (fun r11 m9 => Q r11 m9)))))) :
    mz_gi X mz_sh 153 0 [some (.ref 55), some (.int a1), none] m Q := by
  obtain ⟨g1, h2⟩ := h
  refine mz_go_blk mz_m153 8 (pc' := (if a1 < 3 then 24 else 12)) (L' := [some (.ref 55), some (.int a1), some (.int (m 57 a1.toNatClampNeg))]) (S' := []) (sh' := mz_sh) (m' := m) (g := mz_inb a1 32 && true) rfl rfl (mz_and2 (g1) (rfl)) ?_
  refine mz_go_if (fun c3 => ?_) (fun c3 => ?_)
  · have h4 := h2.1 c3
    exact h4
  · have h5 := h2.2 c3
    refine mz_go_blk mz_m153 3 (pc' := (if 9 < a1 then 24 else 18)) (L' := [some (.ref 55), some (.int a1), some (.int (m 57 a1.toNatClampNeg))]) (S' := []) (sh' := mz_sh) (m' := m) (g := true) rfl rfl (rfl) ?_
    refine mz_go_if (fun c6 => ?_) (fun c6 => ?_)
    · have h7 := h5.1 c6
      exact h7
    · have h8 := h5.2 c6
      refine mz_go_blk mz_m153 2 (pc' := 20) (L' := [some (.ref 55), some (.int a1), some (.int (m 57 a1.toNatClampNeg))]) (S' := [.int a1, .ref 55]) (sh' := mz_sh) (m' := m) (g := true) rfl rfl (rfl) ?_
      refine mz_go_call mz_m153 mz_m152 rfl rfl rfl rfl rfl rfl rfl h8 (fun v sh1 m9 hv => ?_)
      obtain ⟨r11, rfl, rfl, h10⟩ := hv
      exact mz_go_ret mz_m153 rfl rfl rfl ⟨_, rfl, rfl, h10⟩
set_option maxRecDepth 100000 in
theorem t_M_reduce_1 {X : mz_X} {m : mz_M} {Q : Int32 → mz_M → Prop} (l1 : Int32) (l2 : Int32)
    (h : ((l1 = 1 → mz_gi X mz_sh 147 0 [some (.ref 55), some (.int 0), some (.int 0)] m (fun r5 m3 => Q r5 m3)) ∧ (l1 = 2 → mz_gi X mz_sh 149 0 [some (.ref 55), some (.int 0), some (.int l2)] m (fun r11 m9 => mz_gi X mz_sh 149 0 [some (.ref 55), some (.int 1), some (.int l2)] m9 (fun r14 m12 => mz_gv X mz_sh 148 0 [some (.ref 55), some (.int r11), some (.int r14)] m12 (fun m15 => mz_gi X mz_sh 149 0 [some (.ref 55), some (.int 0), some (.int l2)] m15 (fun r19 m17 => Q r19 m17))))) ∧ (l1 = 11 → mz_gi X mz_sh 149 0 [some (.ref 55), some (.int 1), some (.int l2)] m (fun r25 m23 => mz_gi X mz_sh 149 0 [some (.ref 55), some (.int 0), some (.int l2)] m23 (fun r28 m26 => mz_inb r25 12100 = true ∧ mz_gi X mz_sh 149 0 [some (.ref 55), some (.int 1), some (.int l2)] (mz_up m26 77 r25.toNatClampNeg r28) (fun r33 m31 => Q r33 m31)))) ∧ (l1 = 12 → mz_gi X mz_sh 151 0 [some (.ref 55), some (.int 7), some (.int l2), none] m (fun r39 m37 => Q r39 m37)) ∧ (l1 = 14 → mz_gi X mz_sh 151 0 [some (.ref 55), some (.int 8), some (.int l2), none] m (fun r45 m43 => Q r45 m43)) ∧ (l1 = 16 → mz_gi X mz_sh 151 0 [some (.ref 55), some (.int (l1 - 7)), some (.int l2), none] m (fun r51 m49 => Q r51 m49)) ∧ (l1 = 17 → mz_gi X mz_sh 151 0 [some (.ref 55), some (.int (l1 - 7)), some (.int l2), none] m (fun r57 m55 => Q r57 m55)) ∧ (l1 = 19 → mz_gi X mz_sh 151 0 [some (.ref 55), some (.int (l1 - 8)), some (.int l2), none] m (fun r63 m61 => Q r63 m61)) ∧ (l1 = 20 → mz_gi X mz_sh 151 0 [some (.ref 55), some (.int (l1 - 8)), some (.int l2), none] m (fun r69 m67 => Q r69 m67)) ∧ (l1 = 22 → mz_gi X mz_sh 151 0 [some (.ref 55), some (.int (l1 - 9)), some (.int l2), none] m (fun r75 m73 => Q r75 m73)) ∧ (l1 = 23 → mz_gi X mz_sh 151 0 [some (.ref 55), some (.int (l1 - 9)), some (.int l2), none] m (fun r81 m79 => Q r81 m79)) ∧ (l1 = 24 → mz_gi X mz_sh 151 0 [some (.ref 55), some (.int (l1 - 9)), some (.int l2), none] m (fun r87 m85 => Q r87 m85)) ∧ (l1 = 26 → mz_gi X mz_sh 149 0 [some (.ref 55), some (.int 0), some (.int l2)] m (fun r93 m91 => mz_gi X mz_sh 149 0 [some (.ref 55), some (.int 1), some (.int l2)] m91 (fun r96 m94 => mz_gi X mz_sh 150 0 [some (.ref 55), some (.int (l1 - 10)), some (.int r93), some (.int r96), none] m94 (fun r99 m97 => Q r99 m97)))) ∧ (l1 = 27 → mz_gi X mz_sh 149 0 [some (.ref 55), some (.int 0), some (.int l2)] m (fun r105 m103 => mz_gi X mz_sh 149 0 [some (.ref 55), some (.int 1), some (.int l2)] m103 (fun r108 m106 => mz_gi X mz_sh 150 0 [some (.ref 55), some (.int (l1 - 10)), some (.int r105), some (.int r108), none] m106 (fun r111 m109 => Q r111 m109)))) ∧ (l1 = 29 → mz_gi X mz_sh 149 0 [some (.ref 55), some (.int 0), some (.int l2)] m (fun r117 m115 => mz_gi X mz_sh 147 0 [some (.ref 55), some (.int (l1 - 11)), some (.int r117)] m115 (fun r120 m118 => Q r120 m118))) ∧ (l1 = 30 → mz_gi X mz_sh 149 0 [some (.ref 55), some (.int 0), some (.int l2)] m (fun r126 m124 => mz_gi X mz_sh 147 0 [some (.ref 55), some (.int (l1 - 11)), some (.int r126)] m124 (fun r129 m127 => Q r129 m127))) ∧ (l1 = 31 → mz_gi X mz_sh 149 0 [some (.ref 55), some (.int 1), some (.int l2)] m (fun r135 m133 => Q r135 m133)) ∧ (¬ l1 = 1 → ¬ l1 = 2 → ¬ l1 = 11 → ¬ l1 = 12 → ¬ l1 = 14 → ¬ l1 = 16 → ¬ l1 = 17 → ¬ l1 = 19 → ¬ l1 = 20 → ¬ l1 = 22 → ¬ l1 = 23 → ¬ l1 = 24 → ¬ l1 = 26 → ¬ l1 = 27 → ¬ l1 = 29 → ¬ l1 = 30 → ¬ l1 = 31 → mz_gi X mz_sh 149 0 [some (.ref 55), some (.int 0), some (.int l2)] m (fun r139 m137 => Q r139 m137)))) :
    mz_gi X mz_sh 153 24 [some (.ref 55), some (.int l1), some (.int l2)] m Q := by
  refine mz_go_blk mz_m153 2 (pc' := (mz_tsw 25 282 1 31 #[139, 146, 282, 282, 282, 282, 282, 282, 282, 282, 169, 193, 282, 201, 282, 209, 209, 282, 219, 219, 282, 229, 229, 229, 282, 239, 239, 282, 260, 260, 275] l1)) (L' := [some (.ref 55), some (.int l1), some (.int l2)]) (S' := []) (sh' := mz_sh) (m' := m) (g := true) rfl rfl (rfl) ?_
  by_cases c2 : l1 = 1
  · have h1 := h.1 c2
    rw [show mz_tsw 25 282 1 31 #[139, 146, 282, 282, 282, 282, 282, 282, 282, 282, 169, 193, 282, 201, 282, 209, 209, 282, 219, 219, 282, 229, 229, 229, 282, 239, 239, 282, 260, 260, 275] l1 = 164 by rw [c2]; decide +kernel]
    refine mz_go_blk mz_m153 3 (pc' := 167) (L' := [some (.ref 55), some (.int l1), some (.int l2)]) (S' := [.int 0, .int 0, .ref 55]) (sh' := mz_sh) (m' := m) (g := true) rfl rfl (rfl) ?_
    refine mz_go_call mz_m153 mz_m147 rfl rfl rfl rfl rfl rfl rfl h1 (fun v sh1 m3 hv => ?_)
    obtain ⟨r5, rfl, rfl, h4⟩ := hv
    exact mz_go_ret mz_m153 rfl rfl rfl ⟨_, rfl, rfl, h4⟩
  have h6 := h.2
  by_cases c8 : l1 = 2
  · have h7 := h6.1 c8
    rw [show mz_tsw 25 282 1 31 #[139, 146, 282, 282, 282, 282, 282, 282, 282, 282, 169, 193, 282, 201, 282, 209, 209, 282, 219, 219, 282, 229, 229, 229, 282, 239, 239, 282, 260, 260, 275] l1 = 171 by rw [c8]; decide +kernel]
    refine mz_go_blk mz_m153 4 (pc' := 175) (L' := [some (.ref 55), some (.int l1), some (.int l2)]) (S' := [.int l2, .int 0, .ref 55, .ref 55]) (sh' := mz_sh) (m' := m) (g := true) rfl rfl (rfl) ?_
    refine mz_go_call mz_m153 mz_m149 rfl rfl rfl rfl rfl rfl rfl h7 (fun v sh1 m9 hv => ?_)
    obtain ⟨r11, rfl, rfl, h10⟩ := hv
    refine mz_go_blk mz_m153 3 (pc' := 181) (L' := [some (.ref 55), some (.int l1), some (.int l2)]) (S' := [.int l2, .int 1, .ref 55, .int r11, .ref 55]) (sh' := mz_sh) (m' := m9) (g := true) rfl rfl (rfl) ?_
    refine mz_go_call mz_m153 mz_m149 rfl rfl rfl rfl rfl rfl rfl h10 (fun v sh1 m12 hv => ?_)
    obtain ⟨r14, rfl, rfl, h13⟩ := hv
    refine mz_go_call mz_m153 mz_m148 rfl rfl rfl rfl rfl rfl rfl h13 (fun v sh1 m15 hv => ?_)
    obtain ⟨rfl, rfl, h16⟩ := hv
    refine mz_go_blk mz_m153 3 (pc' := 190) (L' := [some (.ref 55), some (.int l1), some (.int l2)]) (S' := [.int l2, .int 0, .ref 55]) (sh' := mz_sh) (m' := m15) (g := true) rfl rfl (rfl) ?_
    refine mz_go_call mz_m153 mz_m149 rfl rfl rfl rfl rfl rfl rfl h16 (fun v sh1 m17 hv => ?_)
    obtain ⟨r19, rfl, rfl, h18⟩ := hv
    exact mz_go_ret mz_m153 rfl rfl rfl ⟨_, rfl, rfl, h18⟩
  have h20 := h6.2
  by_cases c22 : l1 = 11
  · have h21 := h20.1 c22
    rw [show mz_tsw 25 282 1 31 #[139, 146, 282, 282, 282, 282, 282, 282, 282, 282, 169, 193, 282, 201, 282, 209, 209, 282, 219, 219, 282, 229, 229, 229, 282, 239, 239, 282, 260, 260, 275] l1 = 194 by rw [c22]; decide +kernel]
    refine mz_go_blk mz_m153 5 (pc' := 201) (L' := [some (.ref 55), some (.int l1), some (.int l2)]) (S' := [.int l2, .int 1, .ref 55, .ref 77]) (sh' := mz_sh) (m' := m) (g := true) rfl rfl (rfl) ?_
    refine mz_go_call mz_m153 mz_m149 rfl rfl rfl rfl rfl rfl rfl h21 (fun v sh1 m23 hv => ?_)
    obtain ⟨r25, rfl, rfl, h24⟩ := hv
    refine mz_go_blk mz_m153 3 (pc' := 207) (L' := [some (.ref 55), some (.int l1), some (.int l2)]) (S' := [.int l2, .int 0, .ref 55, .int r25, .ref 77]) (sh' := mz_sh) (m' := m23) (g := true) rfl rfl (rfl) ?_
    refine mz_go_call mz_m153 mz_m149 rfl rfl rfl rfl rfl rfl rfl h24 (fun v sh1 m26 hv => ?_)
    obtain ⟨r28, rfl, rfl, h27⟩ := hv
    obtain ⟨g29, h30⟩ := h27
    refine mz_go_blk mz_m153 4 (pc' := 214) (L' := [some (.ref 55), some (.int l1), some (.int l2)]) (S' := [.int l2, .int 1, .ref 55]) (sh' := mz_sh) (m' := mz_up m26 77 r25.toNatClampNeg r28) (g := mz_inb r25 12100 && true) rfl rfl (mz_and2 (g29) (rfl)) ?_
    refine mz_go_call mz_m153 mz_m149 rfl rfl rfl rfl rfl rfl rfl h30 (fun v sh1 m31 hv => ?_)
    obtain ⟨r33, rfl, rfl, h32⟩ := hv
    exact mz_go_ret mz_m153 rfl rfl rfl ⟨_, rfl, rfl, h32⟩
  have h34 := h20.2
  by_cases c36 : l1 = 12
  · have h35 := h34.1 c36
    rw [show mz_tsw 25 282 1 31 #[139, 146, 282, 282, 282, 282, 282, 282, 282, 282, 169, 193, 282, 201, 282, 209, 209, 282, 219, 219, 282, 229, 229, 229, 282, 239, 239, 282, 260, 260, 275] l1 = 218 by rw [c36]; decide +kernel]
    refine mz_go_blk mz_m153 3 (pc' := 222) (L' := [some (.ref 55), some (.int l1), some (.int l2)]) (S' := [.int l2, .int 7, .ref 55]) (sh' := mz_sh) (m' := m) (g := true) rfl rfl (rfl) ?_
    refine mz_go_call mz_m153 mz_m151 rfl rfl rfl rfl rfl rfl rfl h35 (fun v sh1 m37 hv => ?_)
    obtain ⟨r39, rfl, rfl, h38⟩ := hv
    exact mz_go_ret mz_m153 rfl rfl rfl ⟨_, rfl, rfl, h38⟩
  have h40 := h34.2
  by_cases c42 : l1 = 14
  · have h41 := h40.1 c42
    rw [show mz_tsw 25 282 1 31 #[139, 146, 282, 282, 282, 282, 282, 282, 282, 282, 169, 193, 282, 201, 282, 209, 209, 282, 219, 219, 282, 229, 229, 229, 282, 239, 239, 282, 260, 260, 275] l1 = 226 by rw [c42]; decide +kernel]
    refine mz_go_blk mz_m153 3 (pc' := 230) (L' := [some (.ref 55), some (.int l1), some (.int l2)]) (S' := [.int l2, .int 8, .ref 55]) (sh' := mz_sh) (m' := m) (g := true) rfl rfl (rfl) ?_
    refine mz_go_call mz_m153 mz_m151 rfl rfl rfl rfl rfl rfl rfl h41 (fun v sh1 m43 hv => ?_)
    obtain ⟨r45, rfl, rfl, h44⟩ := hv
    exact mz_go_ret mz_m153 rfl rfl rfl ⟨_, rfl, rfl, h44⟩
  have h46 := h40.2
  by_cases c48 : l1 = 16
  · have h47 := h46.1 c48
    rw [show mz_tsw 25 282 1 31 #[139, 146, 282, 282, 282, 282, 282, 282, 282, 282, 169, 193, 282, 201, 282, 209, 209, 282, 219, 219, 282, 229, 229, 229, 282, 239, 239, 282, 260, 260, 275] l1 = 234 by rw [c48]; decide +kernel]
    refine mz_go_blk mz_m153 5 (pc' := 240) (L' := [some (.ref 55), some (.int l1), some (.int l2)]) (S' := [.int l2, .int (l1 - 7), .ref 55]) (sh' := mz_sh) (m' := m) (g := true) rfl rfl (rfl) ?_
    refine mz_go_call mz_m153 mz_m151 rfl rfl rfl rfl rfl rfl rfl h47 (fun v sh1 m49 hv => ?_)
    obtain ⟨r51, rfl, rfl, h50⟩ := hv
    exact mz_go_ret mz_m153 rfl rfl rfl ⟨_, rfl, rfl, h50⟩
  have h52 := h46.2
  by_cases c54 : l1 = 17
  · have h53 := h52.1 c54
    rw [show mz_tsw 25 282 1 31 #[139, 146, 282, 282, 282, 282, 282, 282, 282, 282, 169, 193, 282, 201, 282, 209, 209, 282, 219, 219, 282, 229, 229, 229, 282, 239, 239, 282, 260, 260, 275] l1 = 234 by rw [c54]; decide +kernel]
    refine mz_go_blk mz_m153 5 (pc' := 240) (L' := [some (.ref 55), some (.int l1), some (.int l2)]) (S' := [.int l2, .int (l1 - 7), .ref 55]) (sh' := mz_sh) (m' := m) (g := true) rfl rfl (rfl) ?_
    refine mz_go_call mz_m153 mz_m151 rfl rfl rfl rfl rfl rfl rfl h53 (fun v sh1 m55 hv => ?_)
    obtain ⟨r57, rfl, rfl, h56⟩ := hv
    exact mz_go_ret mz_m153 rfl rfl rfl ⟨_, rfl, rfl, h56⟩
  have h58 := h52.2
  by_cases c60 : l1 = 19
  · have h59 := h58.1 c60
    rw [show mz_tsw 25 282 1 31 #[139, 146, 282, 282, 282, 282, 282, 282, 282, 282, 169, 193, 282, 201, 282, 209, 209, 282, 219, 219, 282, 229, 229, 229, 282, 239, 239, 282, 260, 260, 275] l1 = 244 by rw [c60]; decide +kernel]
    refine mz_go_blk mz_m153 5 (pc' := 250) (L' := [some (.ref 55), some (.int l1), some (.int l2)]) (S' := [.int l2, .int (l1 - 8), .ref 55]) (sh' := mz_sh) (m' := m) (g := true) rfl rfl (rfl) ?_
    refine mz_go_call mz_m153 mz_m151 rfl rfl rfl rfl rfl rfl rfl h59 (fun v sh1 m61 hv => ?_)
    obtain ⟨r63, rfl, rfl, h62⟩ := hv
    exact mz_go_ret mz_m153 rfl rfl rfl ⟨_, rfl, rfl, h62⟩
  have h64 := h58.2
  by_cases c66 : l1 = 20
  · have h65 := h64.1 c66
    rw [show mz_tsw 25 282 1 31 #[139, 146, 282, 282, 282, 282, 282, 282, 282, 282, 169, 193, 282, 201, 282, 209, 209, 282, 219, 219, 282, 229, 229, 229, 282, 239, 239, 282, 260, 260, 275] l1 = 244 by rw [c66]; decide +kernel]
    refine mz_go_blk mz_m153 5 (pc' := 250) (L' := [some (.ref 55), some (.int l1), some (.int l2)]) (S' := [.int l2, .int (l1 - 8), .ref 55]) (sh' := mz_sh) (m' := m) (g := true) rfl rfl (rfl) ?_
    refine mz_go_call mz_m153 mz_m151 rfl rfl rfl rfl rfl rfl rfl h65 (fun v sh1 m67 hv => ?_)
    obtain ⟨r69, rfl, rfl, h68⟩ := hv
    exact mz_go_ret mz_m153 rfl rfl rfl ⟨_, rfl, rfl, h68⟩
  have h70 := h64.2
  by_cases c72 : l1 = 22
  · have h71 := h70.1 c72
    rw [show mz_tsw 25 282 1 31 #[139, 146, 282, 282, 282, 282, 282, 282, 282, 282, 169, 193, 282, 201, 282, 209, 209, 282, 219, 219, 282, 229, 229, 229, 282, 239, 239, 282, 260, 260, 275] l1 = 254 by rw [c72]; decide +kernel]
    refine mz_go_blk mz_m153 5 (pc' := 260) (L' := [some (.ref 55), some (.int l1), some (.int l2)]) (S' := [.int l2, .int (l1 - 9), .ref 55]) (sh' := mz_sh) (m' := m) (g := true) rfl rfl (rfl) ?_
    refine mz_go_call mz_m153 mz_m151 rfl rfl rfl rfl rfl rfl rfl h71 (fun v sh1 m73 hv => ?_)
    obtain ⟨r75, rfl, rfl, h74⟩ := hv
    exact mz_go_ret mz_m153 rfl rfl rfl ⟨_, rfl, rfl, h74⟩
  have h76 := h70.2
  by_cases c78 : l1 = 23
  · have h77 := h76.1 c78
    rw [show mz_tsw 25 282 1 31 #[139, 146, 282, 282, 282, 282, 282, 282, 282, 282, 169, 193, 282, 201, 282, 209, 209, 282, 219, 219, 282, 229, 229, 229, 282, 239, 239, 282, 260, 260, 275] l1 = 254 by rw [c78]; decide +kernel]
    refine mz_go_blk mz_m153 5 (pc' := 260) (L' := [some (.ref 55), some (.int l1), some (.int l2)]) (S' := [.int l2, .int (l1 - 9), .ref 55]) (sh' := mz_sh) (m' := m) (g := true) rfl rfl (rfl) ?_
    refine mz_go_call mz_m153 mz_m151 rfl rfl rfl rfl rfl rfl rfl h77 (fun v sh1 m79 hv => ?_)
    obtain ⟨r81, rfl, rfl, h80⟩ := hv
    exact mz_go_ret mz_m153 rfl rfl rfl ⟨_, rfl, rfl, h80⟩
  have h82 := h76.2
  by_cases c84 : l1 = 24
  · have h83 := h82.1 c84
    rw [show mz_tsw 25 282 1 31 #[139, 146, 282, 282, 282, 282, 282, 282, 282, 282, 169, 193, 282, 201, 282, 209, 209, 282, 219, 219, 282, 229, 229, 229, 282, 239, 239, 282, 260, 260, 275] l1 = 254 by rw [c84]; decide +kernel]
    refine mz_go_blk mz_m153 5 (pc' := 260) (L' := [some (.ref 55), some (.int l1), some (.int l2)]) (S' := [.int l2, .int (l1 - 9), .ref 55]) (sh' := mz_sh) (m' := m) (g := true) rfl rfl (rfl) ?_
    refine mz_go_call mz_m153 mz_m151 rfl rfl rfl rfl rfl rfl rfl h83 (fun v sh1 m85 hv => ?_)
    obtain ⟨r87, rfl, rfl, h86⟩ := hv
    exact mz_go_ret mz_m153 rfl rfl rfl ⟨_, rfl, rfl, h86⟩
  have h88 := h82.2
  by_cases c90 : l1 = 26
  · have h89 := h88.1 c90
    rw [show mz_tsw 25 282 1 31 #[139, 146, 282, 282, 282, 282, 282, 282, 282, 282, 169, 193, 282, 201, 282, 209, 209, 282, 219, 219, 282, 229, 229, 229, 282, 239, 239, 282, 260, 260, 275] l1 = 264 by rw [c90]; decide +kernel]
    refine mz_go_blk mz_m153 7 (pc' := 272) (L' := [some (.ref 55), some (.int l1), some (.int l2)]) (S' := [.int l2, .int 0, .ref 55, .int (l1 - 10), .ref 55]) (sh' := mz_sh) (m' := m) (g := true) rfl rfl (rfl) ?_
    refine mz_go_call mz_m153 mz_m149 rfl rfl rfl rfl rfl rfl rfl h89 (fun v sh1 m91 hv => ?_)
    obtain ⟨r93, rfl, rfl, h92⟩ := hv
    refine mz_go_blk mz_m153 3 (pc' := 278) (L' := [some (.ref 55), some (.int l1), some (.int l2)]) (S' := [.int l2, .int 1, .ref 55, .int r93, .int (l1 - 10), .ref 55]) (sh' := mz_sh) (m' := m91) (g := true) rfl rfl (rfl) ?_
    refine mz_go_call mz_m153 mz_m149 rfl rfl rfl rfl rfl rfl rfl h92 (fun v sh1 m94 hv => ?_)
    obtain ⟨r96, rfl, rfl, h95⟩ := hv
    refine mz_go_call mz_m153 mz_m150 rfl rfl rfl rfl rfl rfl rfl h95 (fun v sh1 m97 hv => ?_)
    obtain ⟨r99, rfl, rfl, h98⟩ := hv
    exact mz_go_ret mz_m153 rfl rfl rfl ⟨_, rfl, rfl, h98⟩
  have h100 := h88.2
  by_cases c102 : l1 = 27
  · have h101 := h100.1 c102
    rw [show mz_tsw 25 282 1 31 #[139, 146, 282, 282, 282, 282, 282, 282, 282, 282, 169, 193, 282, 201, 282, 209, 209, 282, 219, 219, 282, 229, 229, 229, 282, 239, 239, 282, 260, 260, 275] l1 = 264 by rw [c102]; decide +kernel]
    refine mz_go_blk mz_m153 7 (pc' := 272) (L' := [some (.ref 55), some (.int l1), some (.int l2)]) (S' := [.int l2, .int 0, .ref 55, .int (l1 - 10), .ref 55]) (sh' := mz_sh) (m' := m) (g := true) rfl rfl (rfl) ?_
    refine mz_go_call mz_m153 mz_m149 rfl rfl rfl rfl rfl rfl rfl h101 (fun v sh1 m103 hv => ?_)
    obtain ⟨r105, rfl, rfl, h104⟩ := hv
    refine mz_go_blk mz_m153 3 (pc' := 278) (L' := [some (.ref 55), some (.int l1), some (.int l2)]) (S' := [.int l2, .int 1, .ref 55, .int r105, .int (l1 - 10), .ref 55]) (sh' := mz_sh) (m' := m103) (g := true) rfl rfl (rfl) ?_
    refine mz_go_call mz_m153 mz_m149 rfl rfl rfl rfl rfl rfl rfl h104 (fun v sh1 m106 hv => ?_)
    obtain ⟨r108, rfl, rfl, h107⟩ := hv
    refine mz_go_call mz_m153 mz_m150 rfl rfl rfl rfl rfl rfl rfl h107 (fun v sh1 m109 hv => ?_)
    obtain ⟨r111, rfl, rfl, h110⟩ := hv
    exact mz_go_ret mz_m153 rfl rfl rfl ⟨_, rfl, rfl, h110⟩
  have h112 := h100.2
  by_cases c114 : l1 = 29
  · have h113 := h112.1 c114
    rw [show mz_tsw 25 282 1 31 #[139, 146, 282, 282, 282, 282, 282, 282, 282, 282, 169, 193, 282, 201, 282, 209, 209, 282, 219, 219, 282, 229, 229, 229, 282, 239, 239, 282, 260, 260, 275] l1 = 285 by rw [c114]; decide +kernel]
    refine mz_go_blk mz_m153 7 (pc' := 293) (L' := [some (.ref 55), some (.int l1), some (.int l2)]) (S' := [.int l2, .int 0, .ref 55, .int (l1 - 11), .ref 55]) (sh' := mz_sh) (m' := m) (g := true) rfl rfl (rfl) ?_
    refine mz_go_call mz_m153 mz_m149 rfl rfl rfl rfl rfl rfl rfl h113 (fun v sh1 m115 hv => ?_)
    obtain ⟨r117, rfl, rfl, h116⟩ := hv
    refine mz_go_call mz_m153 mz_m147 rfl rfl rfl rfl rfl rfl rfl h116 (fun v sh1 m118 hv => ?_)
    obtain ⟨r120, rfl, rfl, h119⟩ := hv
    exact mz_go_ret mz_m153 rfl rfl rfl ⟨_, rfl, rfl, h119⟩
  have h121 := h112.2
  by_cases c123 : l1 = 30
  · have h122 := h121.1 c123
    rw [show mz_tsw 25 282 1 31 #[139, 146, 282, 282, 282, 282, 282, 282, 282, 282, 169, 193, 282, 201, 282, 209, 209, 282, 219, 219, 282, 229, 229, 229, 282, 239, 239, 282, 260, 260, 275] l1 = 285 by rw [c123]; decide +kernel]
    refine mz_go_blk mz_m153 7 (pc' := 293) (L' := [some (.ref 55), some (.int l1), some (.int l2)]) (S' := [.int l2, .int 0, .ref 55, .int (l1 - 11), .ref 55]) (sh' := mz_sh) (m' := m) (g := true) rfl rfl (rfl) ?_
    refine mz_go_call mz_m153 mz_m149 rfl rfl rfl rfl rfl rfl rfl h122 (fun v sh1 m124 hv => ?_)
    obtain ⟨r126, rfl, rfl, h125⟩ := hv
    refine mz_go_call mz_m153 mz_m147 rfl rfl rfl rfl rfl rfl rfl h125 (fun v sh1 m127 hv => ?_)
    obtain ⟨r129, rfl, rfl, h128⟩ := hv
    exact mz_go_ret mz_m153 rfl rfl rfl ⟨_, rfl, rfl, h128⟩
  have h130 := h121.2
  by_cases c132 : l1 = 31
  · have h131 := h130.1 c132
    rw [show mz_tsw 25 282 1 31 #[139, 146, 282, 282, 282, 282, 282, 282, 282, 282, 169, 193, 282, 201, 282, 209, 209, 282, 219, 219, 282, 229, 229, 229, 282, 239, 239, 282, 260, 260, 275] l1 = 300 by rw [c132]; decide +kernel]
    refine mz_go_blk mz_m153 3 (pc' := 303) (L' := [some (.ref 55), some (.int l1), some (.int l2)]) (S' := [.int l2, .int 1, .ref 55]) (sh' := mz_sh) (m' := m) (g := true) rfl rfl (rfl) ?_
    refine mz_go_call mz_m153 mz_m149 rfl rfl rfl rfl rfl rfl rfl h131 (fun v sh1 m133 hv => ?_)
    obtain ⟨r135, rfl, rfl, h134⟩ := hv
    exact mz_go_ret mz_m153 rfl rfl rfl ⟨_, rfl, rfl, h134⟩
  have h136 := h130.2
  have h136d := h136 c2 c8 c22 c36 c42 c48 c54 c60 c66 c72 c78 c84 c90 c102 c114 c123 c132
  rw [show mz_tsw 25 282 1 31 #[139, 146, 282, 282, 282, 282, 282, 282, 282, 282, 169, 193, 282, 201, 282, 209, 209, 282, 219, 219, 282, 229, 229, 229, 282, 239, 239, 282, 260, 260, 275] l1 = 307 from (by
        refine mz_tswd _ _ _ _ _ l1 307 (by decide +kernel) (fun k hk z => ?_)
        match k, hk, z with
        | 0, _, z => exact absurd (mz_tI (by rw [z]; decide +kernel)) c2
        | 1, _, z => exact absurd (mz_tI (by rw [z]; decide +kernel)) c8
        | 2, _, z => decide +kernel
        | 3, _, z => decide +kernel
        | 4, _, z => decide +kernel
        | 5, _, z => decide +kernel
        | 6, _, z => decide +kernel
        | 7, _, z => decide +kernel
        | 8, _, z => decide +kernel
        | 9, _, z => decide +kernel
        | 10, _, z => exact absurd (mz_tI (by rw [z]; decide +kernel)) c22
        | 11, _, z => exact absurd (mz_tI (by rw [z]; decide +kernel)) c36
        | 12, _, z => decide +kernel
        | 13, _, z => exact absurd (mz_tI (by rw [z]; decide +kernel)) c42
        | 14, _, z => decide +kernel
        | 15, _, z => exact absurd (mz_tI (by rw [z]; decide +kernel)) c48
        | 16, _, z => exact absurd (mz_tI (by rw [z]; decide +kernel)) c54
        | 17, _, z => decide +kernel
        | 18, _, z => exact absurd (mz_tI (by rw [z]; decide +kernel)) c60
        | 19, _, z => exact absurd (mz_tI (by rw [z]; decide +kernel)) c66
        | 20, _, z => decide +kernel
        | 21, _, z => exact absurd (mz_tI (by rw [z]; decide +kernel)) c72
        | 22, _, z => exact absurd (mz_tI (by rw [z]; decide +kernel)) c78
        | 23, _, z => exact absurd (mz_tI (by rw [z]; decide +kernel)) c84
        | 24, _, z => decide +kernel
        | 25, _, z => exact absurd (mz_tI (by rw [z]; decide +kernel)) c90
        | 26, _, z => exact absurd (mz_tI (by rw [z]; decide +kernel)) c102
        | 27, _, z => decide +kernel
        | 28, _, z => exact absurd (mz_tI (by rw [z]; decide +kernel)) c114
        | 29, _, z => exact absurd (mz_tI (by rw [z]; decide +kernel)) c123
        | 30, _, z => exact absurd (mz_tI (by rw [z]; decide +kernel)) c132
        | k + 31, hk, _ => exact absurd hk (by simp only [Array.size]; simp)
      )]
  refine mz_go_blk mz_m153 3 (pc' := 310) (L' := [some (.ref 55), some (.int l1), some (.int l2)]) (S' := [.int l2, .int 0, .ref 55]) (sh' := mz_sh) (m' := m) (g := true) rfl rfl (rfl) ?_
  refine mz_go_call mz_m153 mz_m149 rfl rfl rfl rfl rfl rfl rfl h136d (fun v sh1 m137 hv => ?_)
  obtain ⟨r139, rfl, rfl, h138⟩ := hv
  exact mz_go_ret mz_m153 rfl rfl rfl ⟨_, rfl, rfl, h138⟩
set_option maxRecDepth 100000 in
theorem t_M_ruleFor_0 {X : mz_X} {m : mz_M} {Q : Int32 → mz_M → Prop} (a1 : Int32) (a2 : Int32)
    (h : mz_gi X mz_sh 154 2 [some (.ref 55), some (.int a1), some (.int a2), some (.int 1)] m Q) :
    mz_gi X mz_sh 154 0 [some (.ref 55), some (.int a1), some (.int a2), none] m Q := by
  refine mz_go_blk mz_m154 2 (pc' := 2) (L' := [some (.ref 55), some (.int a1), some (.int a2), some (.int 1)]) (S' := []) (sh' := mz_sh) (m' := m) (g := true) rfl rfl (rfl) ?_
  exact h
set_option maxRecDepth 100000 in
theorem t_M_ruleFor_1 {X : mz_X} {m : mz_M} {Q : Int32 → mz_M → Prop} (l1 : Int32) (l2 : Int32) (l3 : Int32)
    (h : ((32 ≤ l3 → Q (-1) m) ∧ (¬ (32 ≤ l3) → mz_inb l3 33 = true ∧ mz_inb l3 32 = true ∧ mz_inb (((109 * l1) + (m 60 l3.toNatClampNeg)) + (m 57 l3.toNatClampNeg)) 13080 = true ∧ (((m 61 ((((109 * l1) + (m 60 l3.toNatClampNeg)) + (m 57 l3.toNatClampNeg)).toNatClampNeg)) = 0 → mz_gi X mz_sh 154 2 [some (.ref 55), some (.int l1), some (.int l2), some (.int (l3 + 1))] m Q) ∧ (¬ ((m 61 ((((109 * l1) + (m 60 l3.toNatClampNeg)) + (m 57 l3.toNatClampNeg)).toNatClampNeg)) = 0) → mz_inb l3 32 = true ∧ mz_inb ((25 * ((m 56 l3.toNatClampNeg) - 25)) + l2) 900 = true ∧ (((m 65 (((25 * ((m 56 l3.toNatClampNeg) - 25)) + l2).toNatClampNeg)) = 0 → mz_gi X mz_sh 154 2 [some (.ref 55), some (.int l1), some (.int l2), some (.int (l3 + 1))] m Q) ∧ (¬ ((m 65 (((25 * ((m 56 l3.toNatClampNeg) - 25)) + l2).toNatClampNeg)) = 0) → Q l3 m))))))) :
    mz_gi X mz_sh 154 2 [some (.ref 55), some (.int l1), some (.int l2), some (.int l3)] m Q := by
  refine mz_go_blk mz_m154 3 (pc' := (if 32 ≤ l3 then 64 else 8)) (L' := [some (.ref 55), some (.int l1), some (.int l2), some (.int l3)]) (S' := []) (sh' := mz_sh) (m' := m) (g := true) rfl rfl (rfl) ?_
  refine mz_go_if (fun c1 => ?_) (fun c1 => ?_)
  · have h2 := h.1 c1
    refine mz_go_blk mz_m154 1 (pc' := 65) (L' := [some (.ref 55), some (.int l1), some (.int l2), some (.int l3)]) (S' := [.int (-1)]) (sh' := mz_sh) (m' := m) (g := true) rfl rfl (rfl) ?_
    exact mz_go_ret mz_m154 rfl rfl rfl ⟨_, rfl, rfl, h2⟩
  · have h3 := h.2 c1
    obtain ⟨g4, g5, g6, h7⟩ := h3
    refine mz_go_blk mz_m154 17 (pc' := (if (m 61 ((((109 * l1) + (m 60 l3.toNatClampNeg)) + (m 57 l3.toNatClampNeg)).toNatClampNeg)) = 0 then 58 else 34)) (L' := [some (.ref 55), some (.int l1), some (.int l2), some (.int l3)]) (S' := []) (sh' := mz_sh) (m' := m) (g := mz_inb (((109 * l1) + (m 60 l3.toNatClampNeg)) + (m 57 l3.toNatClampNeg)) 13080 && (mz_inb l3 32 && (mz_inb l3 33 && true))) rfl rfl (mz_and2 (g6) (mz_and2 (g5) (mz_and2 (g4) (rfl)))) ?_
    refine mz_go_if (fun c8 => ?_) (fun c8 => ?_)
    · have h9 := h7.1 c8
      refine mz_go_blk mz_m154 2 (pc' := 2) (L' := [some (.ref 55), some (.int l1), some (.int l2), some (.int (l3 + 1))]) (S' := []) (sh' := mz_sh) (m' := m) (g := true) rfl rfl (rfl) ?_
      exact h9
    · have h10 := h7.2 c8
      obtain ⟨g11, g12, h13⟩ := h10
      refine mz_go_blk mz_m154 14 (pc' := (if (m 65 (((25 * ((m 56 l3.toNatClampNeg) - 25)) + l2).toNatClampNeg)) = 0 then 58 else 56)) (L' := [some (.ref 55), some (.int l1), some (.int l2), some (.int l3)]) (S' := []) (sh' := mz_sh) (m' := m) (g := mz_inb ((25 * ((m 56 l3.toNatClampNeg) - 25)) + l2) 900 && (mz_inb l3 32 && true)) rfl rfl (mz_and2 (g12) (mz_and2 (g11) (rfl))) ?_
      refine mz_go_if (fun c14 => ?_) (fun c14 => ?_)
      · have h15 := h13.1 c14
        refine mz_go_blk mz_m154 2 (pc' := 2) (L' := [some (.ref 55), some (.int l1), some (.int l2), some (.int (l3 + 1))]) (S' := []) (sh' := mz_sh) (m' := m) (g := true) rfl rfl (rfl) ?_
        exact h15
      · have h16 := h13.2 c14
        refine mz_go_blk mz_m154 1 (pc' := 57) (L' := [some (.ref 55), some (.int l1), some (.int l2), some (.int l3)]) (S' := [.int l3]) (sh' := mz_sh) (m' := m) (g := true) rfl rfl (rfl) ?_
        exact mz_go_ret mz_m154 rfl rfl rfl ⟨_, rfl, rfl, h16⟩
set_option maxRecDepth 100000 in
theorem t_M_goOver_0 {X : mz_X} {m : mz_M} {Q : Int32 → mz_M → Prop}
    (h : mz_gi X mz_sh 155 24 [some (.ref 55), some (.int 0), none, none, none, none, none] (mz_up (mz_up (mz_up (mz_up m 55 24 1) 73 0 0) 55 26 0) 55 33 0) Q) :
    mz_gi X mz_sh 155 0 [some (.ref 55), none, none, none, none, none, none] m Q := by
  refine mz_go_blk mz_m155 16 (pc' := 24) (L' := [some (.ref 55), some (.int 0), none, none, none, none, none]) (S' := []) (sh' := mz_sh) (m' := mz_up (mz_up (mz_up (mz_up m 55 24 1) 73 0 0) 55 26 0) 55 33 0) (g := mz_inb 0 8100 && true) rfl rfl (mz_and2 (by decide) (rfl)) ?_
  exact h
set_option maxRecDepth 100000 in
theorem t_M_goOver_1 {X : mz_X} {m : mz_M} {Q : Int32 → mz_M → Prop} (l1 : Int32)
    (h : mz_inb ((m 55 24) - 1) 8100 = true ∧ mz_inb l1 4001 = true ∧ mz_inb ((36 * (m 73 (((m 55 24) - 1).toNatClampNeg))) + (m 67 l1.toNatClampNeg)) 4320 = true ∧ (((m 62 (((36 * (m 73 (((m 55 24) - 1).toNatClampNeg))) + (m 67 l1.toNatClampNeg)).toNatClampNeg)) < 0 → mz_gi X mz_sh 154 0 [some (.ref 55), some (.int (m 73 (((m 55 24) - 1).toNatClampNeg))), some (.int (m 67 l1.toNatClampNeg)), none] m (fun r9 m7 => ((0 ≤ r9 → mz_inb (m7 55 26) 60000 = true ∧ mz_gi X mz_sh 153 0 [some (.ref 55), some (.int r9), none] (mz_up (mz_up m7 75 ((m7 55 26).toNatClampNeg) r9) 55 26 ((m7 55 26) + 1)) (fun r16 m14 => mz_inb r9 32 = true ∧ mz_inb (((m14 55 24) - (m14 57 r9.toNatClampNeg)) - 1) 8100 = true ∧ mz_inb r9 32 = true ∧ mz_inb ((36 * (m14 73 ((((m14 55 24) - (m14 57 r9.toNatClampNeg)) - 1).toNatClampNeg))) + (m14 56 r9.toNatClampNeg)) 4320 = true ∧ mz_inb ((m14 55 24) - (m14 57 r9.toNatClampNeg)) 8100 = true ∧ mz_inb ((m14 55 24) - (m14 57 r9.toNatClampNeg)) 8100 = true ∧ mz_gi X mz_sh 155 24 [some (.ref 55), some (.int l1), none, none, none, none, none] (mz_up (mz_up (mz_up (mz_up m14 55 24 ((m14 55 24) - (m14 57 r9.toNatClampNeg))) 73 (((m14 55 24) - (m14 57 r9.toNatClampNeg)).toNatClampNeg) (m14 62 (((36 * (m14 73 ((((m14 55 24) - (m14 57 r9.toNatClampNeg)) - 1).toNatClampNeg))) + (m14 56 r9.toNatClampNeg)).toNatClampNeg))) 74 (((m14 55 24) - (m14 57 r9.toNatClampNeg)).toNatClampNeg) r16) 55 24 (((m14 55 24) - (m14 57 r9.toNatClampNeg)) + 1)) Q)) ∧ (¬ (0 ≤ r9) → (((m 67 l1.toNatClampNeg) = 0 → mz_inb ((109 * (m 73 (((m 55 24) - 1).toNatClampNeg))) + 1) 13080 = true ∧ (((m7 61 (((109 * (m 73 (((m 55 24) - 1).toNatClampNeg))) + 1).toNatClampNeg)) = 0 → Q l1 m7) ∧ (¬ ((m7 61 (((109 * (m 73 (((m 55 24) - 1).toNatClampNeg))) + 1).toNatClampNeg)) = 0) → Q (-1) m7))) ∧ (¬ ((m 67 l1.toNatClampNeg) = 0) → Q l1 m7)))))) ∧ (¬ ((m 62 (((36 * (m 73 (((m 55 24) - 1).toNatClampNeg))) + (m 67 l1.toNatClampNeg)).toNatClampNeg)) < 0) → mz_inb (m 55 24) 8100 = true ∧ mz_inb (m 55 24) 8100 = true ∧ mz_gi X mz_sh 155 24 [some (.ref 55), some (.int (l1 + 1)), none, none, none, none, none] (mz_up (mz_up (mz_up m 73 ((m 55 24).toNatClampNeg) (m 62 (((36 * (m 73 (((m 55 24) - 1).toNatClampNeg))) + (m 67 l1.toNatClampNeg)).toNatClampNeg))) 74 ((m 55 24).toNatClampNeg) l1) 55 24 ((m 55 24) + 1)) Q))) :
    mz_gi X mz_sh 155 24 [some (.ref 55), some (.int l1), none, none, none, none, none] m Q := by
  obtain ⟨g1, g2, g3, h4⟩ := h
  refine mz_go_blk mz_m155 24 (pc' := (if (m 62 (((36 * (m 73 (((m 55 24) - 1).toNatClampNeg))) + (m 67 l1.toNatClampNeg)).toNatClampNeg)) < 0 then 98 else 61)) (L' := [some (.ref 55), some (.int l1), some (.int (m 73 (((m 55 24) - 1).toNatClampNeg))), some (.int (m 67 l1.toNatClampNeg)), some (.int (m 62 (((36 * (m 73 (((m 55 24) - 1).toNatClampNeg))) + (m 67 l1.toNatClampNeg)).toNatClampNeg))), none, none]) (S' := []) (sh' := mz_sh) (m' := m) (g := mz_inb ((36 * (m 73 (((m 55 24) - 1).toNatClampNeg))) + (m 67 l1.toNatClampNeg)) 4320 && (mz_inb l1 4001 && (mz_inb ((m 55 24) - 1) 8100 && true))) rfl rfl (mz_and2 (g3) (mz_and2 (g2) (mz_and2 (g1) (rfl)))) ?_
  refine mz_go_if (fun c5 => ?_) (fun c5 => ?_)
  · have h6 := h4.1 c5
    refine mz_go_blk mz_m155 3 (pc' := 101) (L' := [some (.ref 55), some (.int l1), some (.int (m 73 (((m 55 24) - 1).toNatClampNeg))), some (.int (m 67 l1.toNatClampNeg)), some (.int (m 62 (((36 * (m 73 (((m 55 24) - 1).toNatClampNeg))) + (m 67 l1.toNatClampNeg)).toNatClampNeg))), none, none]) (S' := [.int (m 67 l1.toNatClampNeg), .int (m 73 (((m 55 24) - 1).toNatClampNeg)), .ref 55]) (sh' := mz_sh) (m' := m) (g := true) rfl rfl (rfl) ?_
    refine mz_go_call mz_m155 mz_m154 rfl rfl rfl rfl rfl rfl rfl h6 (fun v sh1 m7 hv => ?_)
    obtain ⟨r9, rfl, rfl, h8⟩ := hv
    refine mz_go_blk mz_m155 3 (pc' := (if 0 ≤ r9 then 135 else 111)) (L' := [some (.ref 55), some (.int l1), some (.int (m 73 (((m 55 24) - 1).toNatClampNeg))), some (.int (m 67 l1.toNatClampNeg)), some (.int (m 62 (((36 * (m 73 (((m 55 24) - 1).toNatClampNeg))) + (m 67 l1.toNatClampNeg)).toNatClampNeg))), some (.int r9), none]) (S' := []) (sh' := mz_sh) (m' := m7) (g := true) rfl rfl (rfl) ?_
    refine mz_go_if (fun c10 => ?_) (fun c10 => ?_)
    · have h11 := h8.1 c10
      obtain ⟨g12, h13⟩ := h11
      refine mz_go_blk mz_m155 14 (pc' := 159) (L' := [some (.ref 55), some (.int l1), some (.int (m 73 (((m 55 24) - 1).toNatClampNeg))), some (.int (m 67 l1.toNatClampNeg)), some (.int (m 62 (((36 * (m 73 (((m 55 24) - 1).toNatClampNeg))) + (m 67 l1.toNatClampNeg)).toNatClampNeg))), some (.int r9), none]) (S' := [.int r9, .ref 55]) (sh' := mz_sh) (m' := mz_up (mz_up m7 75 ((m7 55 26).toNatClampNeg) r9) 55 26 ((m7 55 26) + 1)) (g := mz_inb (m7 55 26) 60000 && true) rfl rfl (mz_and2 (g12) (rfl)) ?_
      refine mz_go_call mz_m155 mz_m153 rfl rfl rfl rfl rfl rfl rfl h13 (fun v sh1 m14 hv => ?_)
      obtain ⟨r16, rfl, rfl, h15⟩ := hv
      obtain ⟨g17, g18, g19, g20, g21, g22, h23⟩ := h15
      refine mz_go_blk mz_m155 45 (pc' := 24) (L' := [some (.ref 55), some (.int l1), some (.int (m 73 (((m 55 24) - 1).toNatClampNeg))), some (.int (m 67 l1.toNatClampNeg)), some (.int (m 62 (((36 * (m 73 (((m 55 24) - 1).toNatClampNeg))) + (m 67 l1.toNatClampNeg)).toNatClampNeg))), some (.int r9), some (.int r16)]) (S' := []) (sh' := mz_sh) (m' := mz_up (mz_up (mz_up (mz_up m14 55 24 ((m14 55 24) - (m14 57 r9.toNatClampNeg))) 73 (((m14 55 24) - (m14 57 r9.toNatClampNeg)).toNatClampNeg) (m14 62 (((36 * (m14 73 ((((m14 55 24) - (m14 57 r9.toNatClampNeg)) - 1).toNatClampNeg))) + (m14 56 r9.toNatClampNeg)).toNatClampNeg))) 74 (((m14 55 24) - (m14 57 r9.toNatClampNeg)).toNatClampNeg) r16) 55 24 (((m14 55 24) - (m14 57 r9.toNatClampNeg)) + 1)) (g := mz_inb ((m14 55 24) - (m14 57 r9.toNatClampNeg)) 8100 && (mz_inb ((m14 55 24) - (m14 57 r9.toNatClampNeg)) 8100 && (mz_inb ((36 * (m14 73 ((((m14 55 24) - (m14 57 r9.toNatClampNeg)) - 1).toNatClampNeg))) + (m14 56 r9.toNatClampNeg)) 4320 && (mz_inb r9 32 && (mz_inb (((m14 55 24) - (m14 57 r9.toNatClampNeg)) - 1) 8100 && (mz_inb r9 32 && true)))))) rfl rfl (mz_and2 (g22) (mz_and2 (g21) (mz_and2 (g20) (mz_and2 (g19) (mz_and2 (g18) (mz_and2 (g17) (rfl))))))) ?_
      exact mz_go.forget (L := [some (.ref 55), some (.int l1), none, none, none, none, none]) (mz_lel_cons rfl (mz_lel_cons rfl (mz_lel_cons trivial (mz_lel_cons trivial (mz_lel_cons trivial (mz_lel_cons trivial (mz_lel_cons trivial (mz_lel_nil)))))))) h23
    · have h24 := h8.2 c10
      refine mz_go_blk mz_m155 2 (pc' := (if (m 67 l1.toNatClampNeg) = 0 then 115 else 133)) (L' := [some (.ref 55), some (.int l1), some (.int (m 73 (((m 55 24) - 1).toNatClampNeg))), some (.int (m 67 l1.toNatClampNeg)), some (.int (m 62 (((36 * (m 73 (((m 55 24) - 1).toNatClampNeg))) + (m 67 l1.toNatClampNeg)).toNatClampNeg))), some (.int r9), none]) (S' := []) (sh' := mz_sh) (m' := m7) (g := true) rfl rfl (rfl) ?_
      refine mz_go_if (fun c25 => ?_) (fun c25 => ?_)
      · have h26 := h24.1 c25
        obtain ⟨g27, h28⟩ := h26
        refine mz_go_blk mz_m155 9 (pc' := (if (m7 61 (((109 * (m 73 (((m 55 24) - 1).toNatClampNeg))) + 1).toNatClampNeg)) = 0 then 133 else 129)) (L' := [some (.ref 55), some (.int l1), some (.int (m 73 (((m 55 24) - 1).toNatClampNeg))), some (.int (m 67 l1.toNatClampNeg)), some (.int (m 62 (((36 * (m 73 (((m 55 24) - 1).toNatClampNeg))) + (m 67 l1.toNatClampNeg)).toNatClampNeg))), some (.int r9), none]) (S' := []) (sh' := mz_sh) (m' := m7) (g := mz_inb ((109 * (m 73 (((m 55 24) - 1).toNatClampNeg))) + 1) 13080 && true) rfl rfl (mz_and2 (g27) (rfl)) ?_
        refine mz_go_if (fun c29 => ?_) (fun c29 => ?_)
        · have h30 := h28.1 c29
          refine mz_go_blk mz_m155 1 (pc' := 134) (L' := [some (.ref 55), some (.int l1), some (.int (m 73 (((m 55 24) - 1).toNatClampNeg))), some (.int (m 67 l1.toNatClampNeg)), some (.int (m 62 (((36 * (m 73 (((m 55 24) - 1).toNatClampNeg))) + (m 67 l1.toNatClampNeg)).toNatClampNeg))), some (.int r9), none]) (S' := [.int l1]) (sh' := mz_sh) (m' := m7) (g := true) rfl rfl (rfl) ?_
          exact mz_go_ret mz_m155 rfl rfl rfl ⟨_, rfl, rfl, h30⟩
        · have h31 := h28.2 c29
          refine mz_go_blk mz_m155 2 (pc' := 134) (L' := [some (.ref 55), some (.int l1), some (.int (m 73 (((m 55 24) - 1).toNatClampNeg))), some (.int (m 67 l1.toNatClampNeg)), some (.int (m 62 (((36 * (m 73 (((m 55 24) - 1).toNatClampNeg))) + (m 67 l1.toNatClampNeg)).toNatClampNeg))), some (.int r9), none]) (S' := [.int (-1)]) (sh' := mz_sh) (m' := m7) (g := true) rfl rfl (rfl) ?_
          exact mz_go_ret mz_m155 rfl rfl rfl ⟨_, rfl, rfl, h31⟩
      · have h32 := h24.2 c25
        refine mz_go_blk mz_m155 1 (pc' := 134) (L' := [some (.ref 55), some (.int l1), some (.int (m 73 (((m 55 24) - 1).toNatClampNeg))), some (.int (m 67 l1.toNatClampNeg)), some (.int (m 62 (((36 * (m 73 (((m 55 24) - 1).toNatClampNeg))) + (m 67 l1.toNatClampNeg)).toNatClampNeg))), some (.int r9), none]) (S' := [.int l1]) (sh' := mz_sh) (m' := m7) (g := true) rfl rfl (rfl) ?_
        exact mz_go_ret mz_m155 rfl rfl rfl ⟨_, rfl, rfl, h32⟩
  · have h33 := h4.2 c5
    obtain ⟨g34, g35, h36⟩ := h33
    refine mz_go_blk mz_m155 21 (pc' := 24) (L' := [some (.ref 55), some (.int (l1 + 1)), some (.int (m 73 (((m 55 24) - 1).toNatClampNeg))), some (.int (m 67 l1.toNatClampNeg)), some (.int (m 62 (((36 * (m 73 (((m 55 24) - 1).toNatClampNeg))) + (m 67 l1.toNatClampNeg)).toNatClampNeg))), none, none]) (S' := []) (sh' := mz_sh) (m' := mz_up (mz_up (mz_up m 73 ((m 55 24).toNatClampNeg) (m 62 (((36 * (m 73 (((m 55 24) - 1).toNatClampNeg))) + (m 67 l1.toNatClampNeg)).toNatClampNeg))) 74 ((m 55 24).toNatClampNeg) l1) 55 24 ((m 55 24) + 1)) (g := mz_inb (m 55 24) 8100 && (mz_inb (m 55 24) 8100 && true)) rfl rfl (mz_and2 (g35) (mz_and2 (g34) (rfl))) ?_
    exact mz_go.forget (L := [some (.ref 55), some (.int (l1 + 1)), none, none, none, none, none]) (mz_lel_cons rfl (mz_lel_cons rfl (mz_lel_cons trivial (mz_lel_cons trivial (mz_lel_cons trivial (mz_lel_cons trivial (mz_lel_cons trivial (mz_lel_nil)))))))) h36
set_option maxRecDepth 100000 in
theorem t_M_number_0 {X : mz_X} {m : mz_M} {Q : mz_M → Prop} (a1 : Int32)
    (h : mz_gv X mz_sh 156 9 [some (.ref 55), some (.int a1), some (.int a1), some (.int (-1)), none] (mz_up m 55 43 0) Q) :
    mz_gv X mz_sh 156 0 [some (.ref 55), some (.int a1), none, none, none] m Q := by
  refine mz_go_blk mz_m156 7 (pc' := 9) (L' := [some (.ref 55), some (.int a1), some (.int a1), some (.int (-1)), none]) (S' := []) (sh' := mz_sh) (m' := mz_up m 55 43 0) (g := true) rfl rfl (rfl) ?_
  exact h
set_option maxRecDepth 100000 in
theorem t_M_number_1 {X : mz_X} {m : mz_M} {Q : mz_M → Prop} (l1 : Int32) (l2 : Int32) (l3 : Int32)
    (h : ((l2 < 0 → Q m) ∧ (¬ (l2 < 0) → mz_inb l2 12100 = true ∧ mz_inb (m 55 43) 12100 = true ∧ mz_inb l2 12100 = true ∧ mz_inb (m 55 43) 12100 = true ∧ mz_inb (m 55 43) 12100 = true ∧ mz_inb (m 55 43) 12100 = true ∧ mz_inb (m 55 43) 12100 = true ∧ mz_inb (m 55 43) 12100 = true ∧ mz_inb (m 55 43) 12100 = true ∧ ((l3 < 0 → mz_gv X mz_sh 156 150 [some (.ref 55), some (.int l1), some (.int l2), some (.int l3), some (.int (m 55 43))] (mz_up (mz_up (mz_up (mz_up (mz_up (mz_up (mz_up (mz_up m 55 43 ((m 55 43) + 1)) 82 ((m 55 43).toNatClampNeg) (m 76 l2.toNatClampNeg)) 83 ((m 55 43).toNatClampNeg) (m 77 l2.toNatClampNeg)) 84 ((m 55 43).toNatClampNeg) 0) 86 ((m 55 43).toNatClampNeg) (-1)) 87 ((m 55 43).toNatClampNeg) (-1)) 88 ((m 55 43).toNatClampNeg) (-1)) 89 ((m 55 43).toNatClampNeg) l3) Q) ∧ (¬ (l3 < 0) → mz_inb l3 12100 = true ∧ mz_inb l3 12100 = true ∧ mz_inb l3 12100 = true ∧ ((0 ≤ ((mz_up (mz_up (mz_up (mz_up (mz_up m 55 43 ((m 55 43) + 1)) 82 ((m 55 43).toNatClampNeg) (m 76 l2.toNatClampNeg)) 83 ((m 55 43).toNatClampNeg) (m 77 l2.toNatClampNeg)) 84 ((m 55 43).toNatClampNeg) 0) 86 ((m 55 43).toNatClampNeg) (-1)) 86 l3.toNatClampNeg) → mz_inb l3 12100 = true ∧ mz_inb ((mz_up (mz_up (mz_up (mz_up (mz_up (mz_up m 55 43 ((m 55 43) + 1)) 82 ((m 55 43).toNatClampNeg) (m 76 l2.toNatClampNeg)) 83 ((m 55 43).toNatClampNeg) (m 77 l2.toNatClampNeg)) 84 ((m 55 43).toNatClampNeg) 0) 86 ((m 55 43).toNatClampNeg) (-1)) 87 ((m 55 43).toNatClampNeg) (-1)) 87 l3.toNatClampNeg) 12100 = true ∧ mz_gv X mz_sh 156 142 [some (.ref 55), some (.int l1), some (.int l2), some (.int l3), some (.int (m 55 43))] (mz_up (mz_up (mz_up (mz_up (mz_up (mz_up (mz_up (mz_up (mz_up (mz_up m 55 43 ((m 55 43) + 1)) 82 ((m 55 43).toNatClampNeg) (m 76 l2.toNatClampNeg)) 83 ((m 55 43).toNatClampNeg) (m 77 l2.toNatClampNeg)) 84 ((m 55 43).toNatClampNeg) 0) 86 ((m 55 43).toNatClampNeg) (-1)) 87 ((m 55 43).toNatClampNeg) (-1)) 88 ((m 55 43).toNatClampNeg) (-1)) 89 ((m 55 43).toNatClampNeg) l3) 84 l3.toNatClampNeg (((mz_up (mz_up (mz_up (mz_up m 55 43 ((m 55 43) + 1)) 82 ((m 55 43).toNatClampNeg) (m 76 l2.toNatClampNeg)) 83 ((m 55 43).toNatClampNeg) (m 77 l2.toNatClampNeg)) 84 ((m 55 43).toNatClampNeg) 0) 84 l3.toNatClampNeg) + 1)) 88 (((mz_up (mz_up (mz_up (mz_up (mz_up (mz_up m 55 43 ((m 55 43) + 1)) 82 ((m 55 43).toNatClampNeg) (m 76 l2.toNatClampNeg)) 83 ((m 55 43).toNatClampNeg) (m 77 l2.toNatClampNeg)) 84 ((m 55 43).toNatClampNeg) 0) 86 ((m 55 43).toNatClampNeg) (-1)) 87 ((m 55 43).toNatClampNeg) (-1)) 87 l3.toNatClampNeg).toNatClampNeg) (m 55 43)) Q) ∧ (¬ (0 ≤ ((mz_up (mz_up (mz_up (mz_up (mz_up m 55 43 ((m 55 43) + 1)) 82 ((m 55 43).toNatClampNeg) (m 76 l2.toNatClampNeg)) 83 ((m 55 43).toNatClampNeg) (m 77 l2.toNatClampNeg)) 84 ((m 55 43).toNatClampNeg) 0) 86 ((m 55 43).toNatClampNeg) (-1)) 86 l3.toNatClampNeg)) → mz_inb l3 12100 = true ∧ mz_gv X mz_sh 156 142 [some (.ref 55), some (.int l1), some (.int l2), some (.int l3), some (.int (m 55 43))] (mz_up (mz_up (mz_up (mz_up (mz_up (mz_up (mz_up (mz_up (mz_up (mz_up m 55 43 ((m 55 43) + 1)) 82 ((m 55 43).toNatClampNeg) (m 76 l2.toNatClampNeg)) 83 ((m 55 43).toNatClampNeg) (m 77 l2.toNatClampNeg)) 84 ((m 55 43).toNatClampNeg) 0) 86 ((m 55 43).toNatClampNeg) (-1)) 87 ((m 55 43).toNatClampNeg) (-1)) 88 ((m 55 43).toNatClampNeg) (-1)) 89 ((m 55 43).toNatClampNeg) l3) 84 l3.toNatClampNeg (((mz_up (mz_up (mz_up (mz_up m 55 43 ((m 55 43) + 1)) 82 ((m 55 43).toNatClampNeg) (m 76 l2.toNatClampNeg)) 83 ((m 55 43).toNatClampNeg) (m 77 l2.toNatClampNeg)) 84 ((m 55 43).toNatClampNeg) 0) 84 l3.toNatClampNeg) + 1)) 86 l3.toNatClampNeg (m 55 43)) Q))))))) :
    mz_gv X mz_sh 156 9 [some (.ref 55), some (.int l1), some (.int l2), some (.int l3), none] m Q := by
  refine mz_go_blk mz_m156 2 (pc' := (if l2 < 0 then 222 else 13)) (L' := [some (.ref 55), some (.int l1), some (.int l2), some (.int l3), none]) (S' := []) (sh' := mz_sh) (m' := m) (g := true) rfl rfl (rfl) ?_
  refine mz_go_if (fun c1 => ?_) (fun c1 => ?_)
  · have h2 := h.1 c1
    exact mz_go_ret mz_m156 rfl rfl rfl ⟨rfl, rfl, h2⟩
  · have h3 := h.2 c1
    obtain ⟨g4, g5, g6, g7, g8, g9, g10, g11, g12, h13⟩ := h3
    refine mz_go_blk mz_m156 52 (pc' := (if l3 < 0 then 150 else 99)) (L' := [some (.ref 55), some (.int l1), some (.int l2), some (.int l3), some (.int (m 55 43))]) (S' := []) (sh' := mz_sh) (m' := mz_up (mz_up (mz_up (mz_up (mz_up (mz_up (mz_up (mz_up m 55 43 ((m 55 43) + 1)) 82 ((m 55 43).toNatClampNeg) (m 76 l2.toNatClampNeg)) 83 ((m 55 43).toNatClampNeg) (m 77 l2.toNatClampNeg)) 84 ((m 55 43).toNatClampNeg) 0) 86 ((m 55 43).toNatClampNeg) (-1)) 87 ((m 55 43).toNatClampNeg) (-1)) 88 ((m 55 43).toNatClampNeg) (-1)) 89 ((m 55 43).toNatClampNeg) l3) (g := mz_inb (m 55 43) 12100 && (mz_inb (m 55 43) 12100 && (mz_inb (m 55 43) 12100 && (mz_inb (m 55 43) 12100 && (mz_inb (m 55 43) 12100 && (mz_inb (m 55 43) 12100 && (mz_inb l2 12100 && (mz_inb (m 55 43) 12100 && (mz_inb l2 12100 && true))))))))) rfl rfl (mz_and2 (g12) (mz_and2 (g11) (mz_and2 (g10) (mz_and2 (g9) (mz_and2 (g8) (mz_and2 (g7) (mz_and2 (g6) (mz_and2 (g5) (mz_and2 (g4) (rfl)))))))))) ?_
    refine mz_go_if (fun c14 => ?_) (fun c14 => ?_)
    · have h15 := h13.1 c14
      exact h15
    · have h16 := h13.2 c14
      obtain ⟨g17, g18, g19, h20⟩ := h16
      refine mz_go_blk mz_m156 13 (pc' := (if 0 ≤ ((mz_up (mz_up (mz_up (mz_up (mz_up m 55 43 ((m 55 43) + 1)) 82 ((m 55 43).toNatClampNeg) (m 76 l2.toNatClampNeg)) 83 ((m 55 43).toNatClampNeg) (m 77 l2.toNatClampNeg)) 84 ((m 55 43).toNatClampNeg) 0) 86 ((m 55 43).toNatClampNeg) (-1)) 86 l3.toNatClampNeg) then 129 else 118)) (L' := [some (.ref 55), some (.int l1), some (.int l2), some (.int l3), some (.int (m 55 43))]) (S' := []) (sh' := mz_sh) (m' := mz_up (mz_up (mz_up (mz_up (mz_up (mz_up (mz_up (mz_up (mz_up m 55 43 ((m 55 43) + 1)) 82 ((m 55 43).toNatClampNeg) (m 76 l2.toNatClampNeg)) 83 ((m 55 43).toNatClampNeg) (m 77 l2.toNatClampNeg)) 84 ((m 55 43).toNatClampNeg) 0) 86 ((m 55 43).toNatClampNeg) (-1)) 87 ((m 55 43).toNatClampNeg) (-1)) 88 ((m 55 43).toNatClampNeg) (-1)) 89 ((m 55 43).toNatClampNeg) l3) 84 l3.toNatClampNeg (((mz_up (mz_up (mz_up (mz_up m 55 43 ((m 55 43) + 1)) 82 ((m 55 43).toNatClampNeg) (m 76 l2.toNatClampNeg)) 83 ((m 55 43).toNatClampNeg) (m 77 l2.toNatClampNeg)) 84 ((m 55 43).toNatClampNeg) 0) 84 l3.toNatClampNeg) + 1)) (g := mz_inb l3 12100 && (mz_inb l3 12100 && (mz_inb l3 12100 && true))) rfl rfl (mz_and2 (g19) (mz_and2 (g18) (mz_and2 (g17) (rfl)))) ?_
      refine mz_go_if (fun c21 => ?_) (fun c21 => ?_)
      · have h22 := h20.1 c21
        obtain ⟨g23, g24, h25⟩ := h22
        refine mz_go_blk mz_m156 8 (pc' := 142) (L' := [some (.ref 55), some (.int l1), some (.int l2), some (.int l3), some (.int (m 55 43))]) (S' := []) (sh' := mz_sh) (m' := mz_up (mz_up (mz_up (mz_up (mz_up (mz_up (mz_up (mz_up (mz_up (mz_up m 55 43 ((m 55 43) + 1)) 82 ((m 55 43).toNatClampNeg) (m 76 l2.toNatClampNeg)) 83 ((m 55 43).toNatClampNeg) (m 77 l2.toNatClampNeg)) 84 ((m 55 43).toNatClampNeg) 0) 86 ((m 55 43).toNatClampNeg) (-1)) 87 ((m 55 43).toNatClampNeg) (-1)) 88 ((m 55 43).toNatClampNeg) (-1)) 89 ((m 55 43).toNatClampNeg) l3) 84 l3.toNatClampNeg (((mz_up (mz_up (mz_up (mz_up m 55 43 ((m 55 43) + 1)) 82 ((m 55 43).toNatClampNeg) (m 76 l2.toNatClampNeg)) 83 ((m 55 43).toNatClampNeg) (m 77 l2.toNatClampNeg)) 84 ((m 55 43).toNatClampNeg) 0) 84 l3.toNatClampNeg) + 1)) 88 (((mz_up (mz_up (mz_up (mz_up (mz_up (mz_up m 55 43 ((m 55 43) + 1)) 82 ((m 55 43).toNatClampNeg) (m 76 l2.toNatClampNeg)) 83 ((m 55 43).toNatClampNeg) (m 77 l2.toNatClampNeg)) 84 ((m 55 43).toNatClampNeg) 0) 86 ((m 55 43).toNatClampNeg) (-1)) 87 ((m 55 43).toNatClampNeg) (-1)) 87 l3.toNatClampNeg).toNatClampNeg) (m 55 43)) (g := mz_inb ((mz_up (mz_up (mz_up (mz_up (mz_up (mz_up m 55 43 ((m 55 43) + 1)) 82 ((m 55 43).toNatClampNeg) (m 76 l2.toNatClampNeg)) 83 ((m 55 43).toNatClampNeg) (m 77 l2.toNatClampNeg)) 84 ((m 55 43).toNatClampNeg) 0) 86 ((m 55 43).toNatClampNeg) (-1)) 87 ((m 55 43).toNatClampNeg) (-1)) 87 l3.toNatClampNeg) 12100 && (mz_inb l3 12100 && true)) rfl rfl (mz_and2 (g24) (mz_and2 (g23) (rfl))) ?_
        exact h25
      · have h26 := h20.2 c21
        obtain ⟨g27, h28⟩ := h26
        refine mz_go_blk mz_m156 6 (pc' := 142) (L' := [some (.ref 55), some (.int l1), some (.int l2), some (.int l3), some (.int (m 55 43))]) (S' := []) (sh' := mz_sh) (m' := mz_up (mz_up (mz_up (mz_up (mz_up (mz_up (mz_up (mz_up (mz_up (mz_up m 55 43 ((m 55 43) + 1)) 82 ((m 55 43).toNatClampNeg) (m 76 l2.toNatClampNeg)) 83 ((m 55 43).toNatClampNeg) (m 77 l2.toNatClampNeg)) 84 ((m 55 43).toNatClampNeg) 0) 86 ((m 55 43).toNatClampNeg) (-1)) 87 ((m 55 43).toNatClampNeg) (-1)) 88 ((m 55 43).toNatClampNeg) (-1)) 89 ((m 55 43).toNatClampNeg) l3) 84 l3.toNatClampNeg (((mz_up (mz_up (mz_up (mz_up m 55 43 ((m 55 43) + 1)) 82 ((m 55 43).toNatClampNeg) (m 76 l2.toNatClampNeg)) 83 ((m 55 43).toNatClampNeg) (m 77 l2.toNatClampNeg)) 84 ((m 55 43).toNatClampNeg) 0) 84 l3.toNatClampNeg) + 1)) 86 l3.toNatClampNeg (m 55 43)) (g := mz_inb l3 12100 && true) rfl rfl (mz_and2 (g27) (rfl)) ?_
        exact h28
set_option maxRecDepth 100000 in
theorem t_M_number_2 {X : mz_X} {m : mz_M} {Q : mz_M → Prop} (l1 : Int32) (l2 : Int32) (l3 : Int32) (l4 : Int32)
    (h : mz_inb l3 12100 = true ∧ mz_gv X mz_sh 156 150 [some (.ref 55), some (.int l1), some (.int l2), some (.int l3), some (.int l4)] (mz_up m 87 l3.toNatClampNeg l4) Q) :
    mz_gv X mz_sh 156 142 [some (.ref 55), some (.int l1), some (.int l2), some (.int l3), some (.int l4)] m Q := by
  obtain ⟨g1, h2⟩ := h
  refine mz_go_blk mz_m156 5 (pc' := 150) (L' := [some (.ref 55), some (.int l1), some (.int l2), some (.int l3), some (.int l4)]) (S' := []) (sh' := mz_sh) (m' := mz_up m 87 l3.toNatClampNeg l4) (g := mz_inb l3 12100 && true) rfl rfl (mz_and2 (g1) (rfl)) ?_
  exact h2
set_option maxRecDepth 100000 in
theorem t_M_number_3 {X : mz_X} {m : mz_M} {Q : mz_M → Prop} (l1 : Int32) (l2 : Int32) (l3 : Int32) (l4 : Int32)
    (h : mz_inb l2 12100 = true ∧ (((m 78 l2.toNatClampNeg) < 0 → mz_gv X mz_sh 156 172 [some (.ref 55), some (.int l1), some (.int l2), some (.int l3), none] m Q) ∧ (¬ ((m 78 l2.toNatClampNeg) < 0) → mz_inb l2 12100 = true ∧ mz_gv X mz_sh 156 219 [some (.ref 55), some (.int l1), some (.int (m 78 l2.toNatClampNeg)), some (.int l4), none] m Q))) :
    mz_gv X mz_sh 156 150 [some (.ref 55), some (.int l1), some (.int l2), some (.int l3), some (.int l4)] m Q := by
  obtain ⟨g1, h2⟩ := h
  refine mz_go_blk mz_m156 5 (pc' := (if (m 78 l2.toNatClampNeg) < 0 then 172 else 159)) (L' := [some (.ref 55), some (.int l1), some (.int l2), some (.int l3), some (.int l4)]) (S' := []) (sh' := mz_sh) (m' := m) (g := mz_inb l2 12100 && true) rfl rfl (mz_and2 (g1) (rfl)) ?_
  refine mz_go_if (fun c3 => ?_) (fun c3 => ?_)
  · have h4 := h2.1 c3
    exact mz_go.forget (L := [some (.ref 55), some (.int l1), some (.int l2), some (.int l3), none]) (mz_lel_cons rfl (mz_lel_cons rfl (mz_lel_cons rfl (mz_lel_cons rfl (mz_lel_cons trivial (mz_lel_nil)))))) h4
  · have h5 := h2.2 c3
    obtain ⟨g6, h7⟩ := h5
    refine mz_go_blk mz_m156 8 (pc' := 219) (L' := [some (.ref 55), some (.int l1), some (.int (m 78 l2.toNatClampNeg)), some (.int l4), some (.int l4)]) (S' := []) (sh' := mz_sh) (m' := m) (g := mz_inb l2 12100 && true) rfl rfl (mz_and2 (g6) (rfl)) ?_
    exact mz_go.forget (L := [some (.ref 55), some (.int l1), some (.int (m 78 l2.toNatClampNeg)), some (.int l4), none]) (mz_lel_cons rfl (mz_lel_cons rfl (mz_lel_cons rfl (mz_lel_cons rfl (mz_lel_cons trivial (mz_lel_nil)))))) h7
set_option maxRecDepth 100000 in
theorem t_M_number_4 {X : mz_X} {m : mz_M} {Q : mz_M → Prop} (l1 : Int32) (l2 : Int32) (l3 : Int32)
    (h : ((l2 = l1 → mz_gv X mz_sh 156 203 [some (.ref 55), some (.int l1), some (.int l2), some (.int l3), none] m Q) ∧ (¬ (l2 = l1) → mz_inb l2 12100 = true ∧ ((0 ≤ (m 80 l2.toNatClampNeg) → mz_gv X mz_sh 156 203 [some (.ref 55), some (.int l1), some (.int l2), some (.int l3), none] m Q) ∧ (¬ (0 ≤ (m 80 l2.toNatClampNeg)) → mz_inb l2 12100 = true ∧ mz_inb l3 12100 = true ∧ mz_gv X mz_sh 156 172 [some (.ref 55), some (.int l1), some (.int (m 81 l2.toNatClampNeg)), some (.int (m 89 l3.toNatClampNeg)), none] m Q))))) :
    mz_gv X mz_sh 156 172 [some (.ref 55), some (.int l1), some (.int l2), some (.int l3), none] m Q := by
  refine mz_go_blk mz_m156 3 (pc' := (if l2 = l1 then 203 else 177)) (L' := [some (.ref 55), some (.int l1), some (.int l2), some (.int l3), none]) (S' := []) (sh' := mz_sh) (m' := m) (g := true) rfl rfl (rfl) ?_
  refine mz_go_if (fun c1 => ?_) (fun c1 => ?_)
  · have h2 := h.1 c1
    exact h2
  · have h3 := h.2 c1
    obtain ⟨g4, h5⟩ := h3
    refine mz_go_blk mz_m156 5 (pc' := (if 0 ≤ (m 80 l2.toNatClampNeg) then 203 else 186)) (L' := [some (.ref 55), some (.int l1), some (.int l2), some (.int l3), none]) (S' := []) (sh' := mz_sh) (m' := m) (g := mz_inb l2 12100 && true) rfl rfl (mz_and2 (g4) (rfl)) ?_
    refine mz_go_if (fun c6 => ?_) (fun c6 => ?_)
    · have h7 := h5.1 c6
      exact h7
    · have h8 := h5.2 c6
      obtain ⟨g9, g10, h11⟩ := h8
      refine mz_go_blk mz_m156 11 (pc' := 172) (L' := [some (.ref 55), some (.int l1), some (.int (m 81 l2.toNatClampNeg)), some (.int (m 89 l3.toNatClampNeg)), none]) (S' := []) (sh' := mz_sh) (m' := m) (g := mz_inb l3 12100 && (mz_inb l2 12100 && true)) rfl rfl (mz_and2 (g10) (mz_and2 (g9) (rfl))) ?_
      exact h11
set_option maxRecDepth 100000 in
theorem t_M_number_5 {X : mz_X} {m : mz_M} {Q : mz_M → Prop} (l1 : Int32) (l2 : Int32) (l3 : Int32)
    (h : ((l2 = l1 → mz_gv X mz_sh 156 219 [some (.ref 55), some (.int l1), some (.int (-1)), some (.int l3), none] m Q) ∧ (¬ (l2 = l1) → mz_inb l2 12100 = true ∧ mz_gv X mz_sh 156 219 [some (.ref 55), some (.int l1), some (.int (m 80 l2.toNatClampNeg)), some (.int l3), none] m Q))) :
    mz_gv X mz_sh 156 203 [some (.ref 55), some (.int l1), some (.int l2), some (.int l3), none] m Q := by
  refine mz_go_blk mz_m156 3 (pc' := (if l2 = l1 then 208 else 212)) (L' := [some (.ref 55), some (.int l1), some (.int l2), some (.int l3), none]) (S' := []) (sh' := mz_sh) (m' := m) (g := true) rfl rfl (rfl) ?_
  refine mz_go_if (fun c1 => ?_) (fun c1 => ?_)
  · have h2 := h.1 c1
    refine mz_go_blk mz_m156 3 (pc' := 219) (L' := [some (.ref 55), some (.int l1), some (.int (-1)), some (.int l3), none]) (S' := []) (sh' := mz_sh) (m' := m) (g := true) rfl rfl (rfl) ?_
    exact h2
  · have h3 := h.2 c1
    obtain ⟨g4, h5⟩ := h3
    refine mz_go_blk mz_m156 5 (pc' := 219) (L' := [some (.ref 55), some (.int l1), some (.int (m 80 l2.toNatClampNeg)), some (.int l3), none]) (S' := []) (sh' := mz_sh) (m' := m) (g := mz_inb l2 12100 && true) rfl rfl (mz_and2 (g4) (rfl)) ?_
    exact h5
set_option maxRecDepth 100000 in
theorem t_M_number_6 {X : mz_X} {m : mz_M} {Q : mz_M → Prop} (l1 : Int32) (l2 : Int32) (l3 : Int32)
    (h : mz_gv X mz_sh 156 9 [some (.ref 55), some (.int l1), some (.int l2), some (.int l3), none] m Q) :
    mz_gv X mz_sh 156 219 [some (.ref 55), some (.int l1), some (.int l2), some (.int l3), none] m Q := by
  refine mz_go_blk mz_m156 1 (pc' := 9) (L' := [some (.ref 55), some (.int l1), some (.int l2), some (.int l3), none]) (S' := []) (sh' := mz_sh) (m' := m) (g := true) rfl rfl (rfl) ?_
  exact h
set_option maxRecDepth 100000 in
theorem t_M_measure_0 {X : mz_X} {m : mz_M} {Q : Int32 → mz_M → Prop}
    (h : mz_gi X mz_sh 157 7 [some (.ref 55), some (.int ((m 55 43) - 1)), none] m Q) :
    mz_gi X mz_sh 157 0 [some (.ref 55), none, none] m Q := by
  refine mz_go_blk mz_m157 5 (pc' := 7) (L' := [some (.ref 55), some (.int ((m 55 43) - 1)), none]) (S' := []) (sh' := mz_sh) (m' := m) (g := true) rfl rfl (rfl) ?_
  exact h
set_option maxRecDepth 100000 in
theorem t_M_measure_1 {X : mz_X} {m : mz_M} {Q : Int32 → mz_M → Prop} (l1 : Int32)
    (h : ((l1 < 0 → Q (m 85 0) m) ∧ (¬ (l1 < 0) → mz_inb l1 12100 = true ∧ mz_inb l1 12100 = true ∧ mz_gi X mz_sh 157 25 [some (.ref 55), some (.int l1), some (.int (m 86 l1.toNatClampNeg))] (mz_up m 85 l1.toNatClampNeg 1) Q))) :
    mz_gi X mz_sh 157 7 [some (.ref 55), some (.int l1), none] m Q := by
  refine mz_go_blk mz_m157 2 (pc' := (if l1 < 0 then 83 else 11)) (L' := [some (.ref 55), some (.int l1), none]) (S' := []) (sh' := mz_sh) (m' := m) (g := true) rfl rfl (rfl) ?_
  refine mz_go_if (fun c1 => ?_) (fun c1 => ?_)
  · have h2 := h.1 c1
    refine mz_go_blk mz_m157 4 (pc' := 89) (L' := [some (.ref 55), some (.int l1), none]) (S' := [.int (m 85 0)]) (sh' := mz_sh) (m' := m) (g := mz_inb 0 12100 && true) rfl rfl (mz_and2 (by decide) (rfl)) ?_
    exact mz_go_ret mz_m157 rfl rfl rfl ⟨_, rfl, rfl, h2⟩
  · have h3 := h.2 c1
    obtain ⟨g4, g5, h6⟩ := h3
    refine mz_go_blk mz_m157 10 (pc' := 25) (L' := [some (.ref 55), some (.int l1), some (.int (m 86 l1.toNatClampNeg))]) (S' := []) (sh' := mz_sh) (m' := mz_up m 85 l1.toNatClampNeg 1) (g := mz_inb l1 12100 && (mz_inb l1 12100 && true)) rfl rfl (mz_and2 (g5) (mz_and2 (g4) (rfl))) ?_
    exact h6
set_option maxRecDepth 100000 in
theorem t_M_measure_2 {X : mz_X} {m : mz_M} {Q : Int32 → mz_M → Prop} (l1 : Int32) (l2 : Int32)
    (h : ((l2 < 0 → mz_gi X mz_sh 157 7 [some (.ref 55), some (.int (l1 + (-1))), none] m Q) ∧ (¬ (l2 < 0) → mz_inb l2 12100 = true ∧ mz_inb l1 12100 = true ∧ (((m 85 l2.toNatClampNeg) < (m 85 l1.toNatClampNeg) → mz_inb l1 12100 = true ∧ mz_inb l1 12100 = true ∧ mz_inb l2 12100 = true ∧ mz_gi X mz_sh 157 25 [some (.ref 55), some (.int l1), some (.int (m 88 l2.toNatClampNeg))] (mz_up m 85 l1.toNatClampNeg (m 85 l1.toNatClampNeg)) Q) ∧ (¬ ((m 85 l2.toNatClampNeg) < (m 85 l1.toNatClampNeg)) → mz_inb l2 12100 = true ∧ mz_inb l1 12100 = true ∧ mz_inb l2 12100 = true ∧ mz_gi X mz_sh 157 25 [some (.ref 55), some (.int l1), some (.int (m 88 l2.toNatClampNeg))] (mz_up m 85 l1.toNatClampNeg ((m 85 l2.toNatClampNeg) + 1)) Q))))) :
    mz_gi X mz_sh 157 25 [some (.ref 55), some (.int l1), some (.int l2)] m Q := by
  refine mz_go_blk mz_m157 2 (pc' := (if l2 < 0 then 77 else 29)) (L' := [some (.ref 55), some (.int l1), some (.int l2)]) (S' := []) (sh' := mz_sh) (m' := m) (g := true) rfl rfl (rfl) ?_
  refine mz_go_if (fun c1 => ?_) (fun c1 => ?_)
  · have h2 := h.1 c1
    refine mz_go_blk mz_m157 2 (pc' := 7) (L' := [some (.ref 55), some (.int (l1 + (-1))), some (.int l2)]) (S' := []) (sh' := mz_sh) (m' := m) (g := true) rfl rfl (rfl) ?_
    exact mz_go.forget (L := [some (.ref 55), some (.int (l1 + (-1))), none]) (mz_lel_cons rfl (mz_lel_cons rfl (mz_lel_cons trivial (mz_lel_nil)))) h2
  · have h3 := h.2 c1
    obtain ⟨g4, g5, h6⟩ := h3
    refine mz_go_blk mz_m157 12 (pc' := (if (m 85 l2.toNatClampNeg) < (m 85 l1.toNatClampNeg) then 60 else 49)) (L' := [some (.ref 55), some (.int l1), some (.int l2)]) (S' := [.int l1, .ref 85]) (sh' := mz_sh) (m' := m) (g := mz_inb l1 12100 && (mz_inb l2 12100 && true)) rfl rfl (mz_and2 (g5) (mz_and2 (g4) (rfl))) ?_
    refine mz_go_if (fun c7 => ?_) (fun c7 => ?_)
    · have h8 := h6.1 c7
      obtain ⟨g9, g10, g11, h12⟩ := h8
      refine mz_go_blk mz_m157 11 (pc' := 25) (L' := [some (.ref 55), some (.int l1), some (.int (m 88 l2.toNatClampNeg))]) (S' := []) (sh' := mz_sh) (m' := mz_up m 85 l1.toNatClampNeg (m 85 l1.toNatClampNeg)) (g := mz_inb l2 12100 && (mz_inb l1 12100 && (mz_inb l1 12100 && true))) rfl rfl (mz_and2 (g11) (mz_and2 (g10) (mz_and2 (g9) (rfl)))) ?_
      exact h12
    · have h13 := h6.2 c7
      obtain ⟨g14, g15, g16, h17⟩ := h13
      refine mz_go_blk mz_m157 14 (pc' := 25) (L' := [some (.ref 55), some (.int l1), some (.int (m 88 l2.toNatClampNeg))]) (S' := []) (sh' := mz_sh) (m' := mz_up m 85 l1.toNatClampNeg ((m 85 l2.toNatClampNeg) + 1)) (g := mz_inb l2 12100 && (mz_inb l1 12100 && (mz_inb l2 12100 && true))) rfl rfl (mz_and2 (g16) (mz_and2 (g15) (mz_and2 (g14) (rfl)))) ?_
      exact h17
set_option maxRecDepth 100000 in
theorem t_M_whileOf_0 {X : mz_X} {m : mz_M} {Q : Int32 → mz_M → Prop} (a1 : Int32)
    (h : mz_inb a1 12100 = true ∧ mz_gi X mz_sh 158 7 [some (.ref 55), none, some (.int (m 89 a1.toNatClampNeg))] m Q) :
    mz_gi X mz_sh 158 0 [some (.ref 55), some (.int a1), none] m Q := by
  obtain ⟨g1, h2⟩ := h
  refine mz_go_blk mz_m158 5 (pc' := 7) (L' := [some (.ref 55), some (.int a1), some (.int (m 89 a1.toNatClampNeg))]) (S' := []) (sh' := mz_sh) (m' := m) (g := mz_inb a1 12100 && true) rfl rfl (mz_and2 (g1) (rfl)) ?_
  exact mz_go.forget (L := [some (.ref 55), none, some (.int (m 89 a1.toNatClampNeg))]) (mz_lel_cons rfl (mz_lel_cons trivial (mz_lel_cons rfl (mz_lel_nil)))) h2
set_option maxRecDepth 100000 in
theorem t_M_whileOf_1 {X : mz_X} {m : mz_M} {Q : Int32 → mz_M → Prop} (l2 : Int32)
    (h : ((l2 < 0 → Q l2 m) ∧ (¬ (l2 < 0) → mz_inb l2 12100 = true ∧ (((m 82 l2.toNatClampNeg) = 4 → Q l2 m) ∧ (¬ ((m 82 l2.toNatClampNeg) = 4) → mz_inb l2 12100 = true ∧ mz_gi X mz_sh 158 7 [some (.ref 55), none, some (.int (m 89 l2.toNatClampNeg))] m Q))))) :
    mz_gi X mz_sh 158 7 [some (.ref 55), none, some (.int l2)] m Q := by
  refine mz_go_blk mz_m158 2 (pc' := (if l2 < 0 then 31 else 11)) (L' := [some (.ref 55), none, some (.int l2)]) (S' := []) (sh' := mz_sh) (m' := m) (g := true) rfl rfl (rfl) ?_
  refine mz_go_if (fun c1 => ?_) (fun c1 => ?_)
  · have h2 := h.1 c1
    refine mz_go_blk mz_m158 1 (pc' := 32) (L' := [some (.ref 55), none, some (.int l2)]) (S' := [.int l2]) (sh' := mz_sh) (m' := m) (g := true) rfl rfl (rfl) ?_
    exact mz_go_ret mz_m158 rfl rfl rfl ⟨_, rfl, rfl, h2⟩
  · have h3 := h.2 c1
    obtain ⟨g4, h5⟩ := h3
    refine mz_go_blk mz_m158 6 (pc' := (if (m 82 l2.toNatClampNeg) = 4 then 31 else 21)) (L' := [some (.ref 55), none, some (.int l2)]) (S' := []) (sh' := mz_sh) (m' := m) (g := mz_inb l2 12100 && true) rfl rfl (mz_and2 (g4) (rfl)) ?_
    refine mz_go_if (fun c6 => ?_) (fun c6 => ?_)
    · have h7 := h5.1 c6
      refine mz_go_blk mz_m158 1 (pc' := 32) (L' := [some (.ref 55), none, some (.int l2)]) (S' := [.int l2]) (sh' := mz_sh) (m' := m) (g := true) rfl rfl (rfl) ?_
      exact mz_go_ret mz_m158 rfl rfl rfl ⟨_, rfl, rfl, h7⟩
    · have h8 := h5.2 c6
      obtain ⟨g9, h10⟩ := h8
      refine mz_go_blk mz_m158 6 (pc' := 7) (L' := [some (.ref 55), none, some (.int (m 89 l2.toNatClampNeg))]) (S' := []) (sh' := mz_sh) (m' := m) (g := mz_inb l2 12100 && true) rfl rfl (mz_and2 (g9) (rfl)) ?_
      exact h10
set_option maxRecDepth 100000 in
theorem t_M_strayToken_0 {X : mz_X} {m : mz_M} {Q : Int32 → mz_M → Prop}
    (h : mz_gi X mz_sh 159 4 [some (.ref 55), some (.int (-1)), some (.int 0)] m Q) :
    mz_gi X mz_sh 159 0 [some (.ref 55), none, none] m Q := by
  refine mz_go_blk mz_m159 4 (pc' := 4) (L' := [some (.ref 55), some (.int (-1)), some (.int 0)]) (S' := []) (sh' := mz_sh) (m' := m) (g := true) rfl rfl (rfl) ?_
  exact h
set_option maxRecDepth 100000 in
theorem t_M_strayToken_1 {X : mz_X} {m : mz_M} {Q : Int32 → mz_M → Prop} (l1 : Int32) (l2 : Int32)
    (h : (((m 55 43) ≤ l2 → Q l1 m) ∧ (¬ ((m 55 43) ≤ l2) → mz_inb l2 12100 = true ∧ (((m 82 l2.toNatClampNeg) = 5 → mz_gi X mz_sh 158 0 [some (.ref 55), some (.int l2), none] m (fun r10 m8 => ((0 ≤ r10 → mz_gi X mz_sh 159 4 [some (.ref 55), some (.int l1), some (.int (l2 + 1))] m8 Q) ∧ (¬ (0 ≤ r10) → ((l1 < 0 → mz_inb l2 12100 = true ∧ mz_gi X mz_sh 159 4 [some (.ref 55), some (.int (m8 83 l2.toNatClampNeg)), some (.int (l2 + 1))] m8 Q) ∧ (¬ (l1 < 0) → mz_inb l2 12100 = true ∧ ((l1 ≤ (m8 83 l2.toNatClampNeg) → mz_gi X mz_sh 159 4 [some (.ref 55), some (.int l1), some (.int (l2 + 1))] m8 Q) ∧ (¬ (l1 ≤ (m8 83 l2.toNatClampNeg)) → mz_inb l2 12100 = true ∧ mz_gi X mz_sh 159 4 [some (.ref 55), some (.int (m8 83 l2.toNatClampNeg)), some (.int (l2 + 1))] m8 Q)))))))) ∧ (¬ ((m 82 l2.toNatClampNeg) = 5) → mz_inb l2 12100 = true ∧ (((m 82 l2.toNatClampNeg) = 6 → mz_gi X mz_sh 158 0 [some (.ref 55), some (.int l2), none] m (fun r33 m31 => ((0 ≤ r33 → mz_gi X mz_sh 159 4 [some (.ref 55), some (.int l1), some (.int (l2 + 1))] m31 Q) ∧ (¬ (0 ≤ r33) → ((l1 < 0 → mz_inb l2 12100 = true ∧ mz_gi X mz_sh 159 4 [some (.ref 55), some (.int (m31 83 l2.toNatClampNeg)), some (.int (l2 + 1))] m31 Q) ∧ (¬ (l1 < 0) → mz_inb l2 12100 = true ∧ ((l1 ≤ (m31 83 l2.toNatClampNeg) → mz_gi X mz_sh 159 4 [some (.ref 55), some (.int l1), some (.int (l2 + 1))] m31 Q) ∧ (¬ (l1 ≤ (m31 83 l2.toNatClampNeg)) → mz_inb l2 12100 = true ∧ mz_gi X mz_sh 159 4 [some (.ref 55), some (.int (m31 83 l2.toNatClampNeg)), some (.int (l2 + 1))] m31 Q)))))))) ∧ (¬ ((m 82 l2.toNatClampNeg) = 6) → mz_gi X mz_sh 159 4 [some (.ref 55), some (.int l1), some (.int (l2 + 1))] m Q))))))) :
    mz_gi X mz_sh 159 4 [some (.ref 55), some (.int l1), some (.int l2)] m Q := by
  refine mz_go_blk mz_m159 4 (pc' := (if (m 55 43) ≤ l2 then 68 else 12)) (L' := [some (.ref 55), some (.int l1), some (.int l2)]) (S' := []) (sh' := mz_sh) (m' := m) (g := true) rfl rfl (rfl) ?_
  refine mz_go_if (fun c1 => ?_) (fun c1 => ?_)
  · have h2 := h.1 c1
    refine mz_go_blk mz_m159 1 (pc' := 69) (L' := [some (.ref 55), some (.int l1), some (.int l2)]) (S' := [.int l1]) (sh' := mz_sh) (m' := m) (g := true) rfl rfl (rfl) ?_
    exact mz_go_ret mz_m159 rfl rfl rfl ⟨_, rfl, rfl, h2⟩
  · have h3 := h.2 c1
    obtain ⟨g4, h5⟩ := h3
    refine mz_go_blk mz_m159 6 (pc' := (if (m 82 l2.toNatClampNeg) = 5 then 33 else 22)) (L' := [some (.ref 55), some (.int l1), some (.int l2)]) (S' := []) (sh' := mz_sh) (m' := m) (g := mz_inb l2 12100 && true) rfl rfl (mz_and2 (g4) (rfl)) ?_
    refine mz_go_if (fun c6 => ?_) (fun c6 => ?_)
    · have h7 := h5.1 c6
      refine mz_go_blk mz_m159 2 (pc' := 35) (L' := [some (.ref 55), some (.int l1), some (.int l2)]) (S' := [.int l2, .ref 55]) (sh' := mz_sh) (m' := m) (g := true) rfl rfl (rfl) ?_
      refine mz_go_call mz_m159 mz_m158 rfl rfl rfl rfl rfl rfl rfl h7 (fun v sh1 m8 hv => ?_)
      obtain ⟨r10, rfl, rfl, h9⟩ := hv
      refine mz_go_blk mz_m159 1 (pc' := (if 0 ≤ r10 then 62 else 41)) (L' := [some (.ref 55), some (.int l1), some (.int l2)]) (S' := []) (sh' := mz_sh) (m' := m8) (g := true) rfl rfl (rfl) ?_
      refine mz_go_if (fun c11 => ?_) (fun c11 => ?_)
      · have h12 := h9.1 c11
        refine mz_go_blk mz_m159 2 (pc' := 4) (L' := [some (.ref 55), some (.int l1), some (.int (l2 + 1))]) (S' := []) (sh' := mz_sh) (m' := m8) (g := true) rfl rfl (rfl) ?_
        exact h12
      · have h13 := h9.2 c11
        refine mz_go_blk mz_m159 2 (pc' := (if l1 < 0 then 55 else 45)) (L' := [some (.ref 55), some (.int l1), some (.int l2)]) (S' := []) (sh' := mz_sh) (m' := m8) (g := true) rfl rfl (rfl) ?_
        refine mz_go_if (fun c14 => ?_) (fun c14 => ?_)
        · have h15 := h13.1 c14
          obtain ⟨g16, h17⟩ := h15
          refine mz_go_blk mz_m159 7 (pc' := 4) (L' := [some (.ref 55), some (.int (m8 83 l2.toNatClampNeg)), some (.int (l2 + 1))]) (S' := []) (sh' := mz_sh) (m' := m8) (g := mz_inb l2 12100 && true) rfl rfl (mz_and2 (g16) (rfl)) ?_
          exact h17
        · have h18 := h13.2 c14
          obtain ⟨g19, h20⟩ := h18
          refine mz_go_blk mz_m159 6 (pc' := (if l1 ≤ (m8 83 l2.toNatClampNeg) then 62 else 55)) (L' := [some (.ref 55), some (.int l1), some (.int l2)]) (S' := []) (sh' := mz_sh) (m' := m8) (g := mz_inb l2 12100 && true) rfl rfl (mz_and2 (g19) (rfl)) ?_
          refine mz_go_if (fun c21 => ?_) (fun c21 => ?_)
          · have h22 := h20.1 c21
            refine mz_go_blk mz_m159 2 (pc' := 4) (L' := [some (.ref 55), some (.int l1), some (.int (l2 + 1))]) (S' := []) (sh' := mz_sh) (m' := m8) (g := true) rfl rfl (rfl) ?_
            exact h22
          · have h23 := h20.2 c21
            obtain ⟨g24, h25⟩ := h23
            refine mz_go_blk mz_m159 7 (pc' := 4) (L' := [some (.ref 55), some (.int (m8 83 l2.toNatClampNeg)), some (.int (l2 + 1))]) (S' := []) (sh' := mz_sh) (m' := m8) (g := mz_inb l2 12100 && true) rfl rfl (mz_and2 (g24) (rfl)) ?_
            exact h25
    · have h26 := h5.2 c6
      obtain ⟨g27, h28⟩ := h26
      refine mz_go_blk mz_m159 6 (pc' := (if (m 82 l2.toNatClampNeg) = 6 then 33 else 62)) (L' := [some (.ref 55), some (.int l1), some (.int l2)]) (S' := []) (sh' := mz_sh) (m' := m) (g := mz_inb l2 12100 && true) rfl rfl (mz_and2 (g27) (rfl)) ?_
      refine mz_go_if (fun c29 => ?_) (fun c29 => ?_)
      · have h30 := h28.1 c29
        refine mz_go_blk mz_m159 2 (pc' := 35) (L' := [some (.ref 55), some (.int l1), some (.int l2)]) (S' := [.int l2, .ref 55]) (sh' := mz_sh) (m' := m) (g := true) rfl rfl (rfl) ?_
        refine mz_go_call mz_m159 mz_m158 rfl rfl rfl rfl rfl rfl rfl h30 (fun v sh1 m31 hv => ?_)
        obtain ⟨r33, rfl, rfl, h32⟩ := hv
        refine mz_go_blk mz_m159 1 (pc' := (if 0 ≤ r33 then 62 else 41)) (L' := [some (.ref 55), some (.int l1), some (.int l2)]) (S' := []) (sh' := mz_sh) (m' := m31) (g := true) rfl rfl (rfl) ?_
        refine mz_go_if (fun c34 => ?_) (fun c34 => ?_)
        · have h35 := h32.1 c34
          refine mz_go_blk mz_m159 2 (pc' := 4) (L' := [some (.ref 55), some (.int l1), some (.int (l2 + 1))]) (S' := []) (sh' := mz_sh) (m' := m31) (g := true) rfl rfl (rfl) ?_
          exact h35
        · have h36 := h32.2 c34
          refine mz_go_blk mz_m159 2 (pc' := (if l1 < 0 then 55 else 45)) (L' := [some (.ref 55), some (.int l1), some (.int l2)]) (S' := []) (sh' := mz_sh) (m' := m31) (g := true) rfl rfl (rfl) ?_
          refine mz_go_if (fun c37 => ?_) (fun c37 => ?_)
          · have h38 := h36.1 c37
            obtain ⟨g39, h40⟩ := h38
            refine mz_go_blk mz_m159 7 (pc' := 4) (L' := [some (.ref 55), some (.int (m31 83 l2.toNatClampNeg)), some (.int (l2 + 1))]) (S' := []) (sh' := mz_sh) (m' := m31) (g := mz_inb l2 12100 && true) rfl rfl (mz_and2 (g39) (rfl)) ?_
            exact h40
          · have h41 := h36.2 c37
            obtain ⟨g42, h43⟩ := h41
            refine mz_go_blk mz_m159 6 (pc' := (if l1 ≤ (m31 83 l2.toNatClampNeg) then 62 else 55)) (L' := [some (.ref 55), some (.int l1), some (.int l2)]) (S' := []) (sh' := mz_sh) (m' := m31) (g := mz_inb l2 12100 && true) rfl rfl (mz_and2 (g42) (rfl)) ?_
            refine mz_go_if (fun c44 => ?_) (fun c44 => ?_)
            · have h45 := h43.1 c44
              refine mz_go_blk mz_m159 2 (pc' := 4) (L' := [some (.ref 55), some (.int l1), some (.int (l2 + 1))]) (S' := []) (sh' := mz_sh) (m' := m31) (g := true) rfl rfl (rfl) ?_
              exact h45
            · have h46 := h43.2 c44
              obtain ⟨g47, h48⟩ := h46
              refine mz_go_blk mz_m159 7 (pc' := 4) (L' := [some (.ref 55), some (.int (m31 83 l2.toNatClampNeg)), some (.int (l2 + 1))]) (S' := []) (sh' := mz_sh) (m' := m31) (g := mz_inb l2 12100 && true) rfl rfl (mz_and2 (g47) (rfl)) ?_
              exact h48
      · have h49 := h28.2 c29
        refine mz_go_blk mz_m159 2 (pc' := 4) (L' := [some (.ref 55), some (.int l1), some (.int (l2 + 1))]) (S' := []) (sh' := mz_sh) (m' := m) (g := true) rfl rfl (rfl) ?_
        exact h49
set_option maxRecDepth 100000 in
theorem t_M_parse_0 {X : mz_X} {m : mz_M} {Q : Int32 → mz_M → Prop}
    (h : (((m 55 13) = 0 → Q (-3) m) ∧ (¬ ((m 55 13) = 0) → mz_gi X mz_sh 155 0 [some (.ref 55), none, none, none, none, none, none] (mz_up (mz_up m 55 34 0) 55 44 0) (fun r6 m4 => ((r6 < 0 → mz_inb ((m4 55 24) - 1) 8100 = true ∧ mz_gv X mz_sh 156 0 [some (.ref 55), some (.int (m4 74 (((m4 55 24) - 1).toNatClampNeg))), none, none, none] m4 (fun m11 => mz_gi X mz_sh 157 0 [some (.ref 55), none, none] m11 (fun r15 m13 => ((r15 ≤ 200 → mz_gi X mz_sh 159 0 [some (.ref 55), none, none] m13 (fun r20 m18 => ((r20 < 0 → Q (m18 55 43) (mz_up m18 55 34 1)) ∧ (¬ (r20 < 0) → Q ((-10000) - r20) m18)))) ∧ (¬ (r15 ≤ 200) → Q (-2) m13))))) ∧ (¬ (r6 < 0) → Q ((-10) - r6) m4)))))) :
    mz_gi X mz_sh 160 0 [some (.ref 55), none, none] m Q := by
  refine mz_go_blk mz_m160 3 (pc' := (if (m 55 13) = 0 then 7 else 10)) (L' := [some (.ref 55), none, none]) (S' := []) (sh' := mz_sh) (m' := m) (g := true) rfl rfl (rfl) ?_
  refine mz_go_if (fun c1 => ?_) (fun c1 => ?_)
  · have h2 := h.1 c1
    refine mz_go_blk mz_m160 1 (pc' := 9) (L' := [some (.ref 55), none, none]) (S' := [.int (-3)]) (sh' := mz_sh) (m' := m) (g := true) rfl rfl (rfl) ?_
    exact mz_go_ret mz_m160 rfl rfl rfl ⟨_, rfl, rfl, h2⟩
  · have h3 := h.2 c1
    refine mz_go_blk mz_m160 7 (pc' := 21) (L' := [some (.ref 55), none, none]) (S' := [.ref 55]) (sh' := mz_sh) (m' := mz_up (mz_up m 55 34 0) 55 44 0) (g := (decide (0 = 0) || decide (0 = 1)) && ((decide (0 = 0) || decide (0 = 1)) && true)) rfl rfl (mz_and2 (by decide) (mz_and2 (by decide) (rfl))) ?_
    refine mz_go_call mz_m160 mz_m155 rfl rfl rfl rfl rfl rfl rfl h3 (fun v sh1 m4 hv => ?_)
    obtain ⟨r6, rfl, rfl, h5⟩ := hv
    refine mz_go_blk mz_m160 3 (pc' := (if r6 < 0 then 34 else 29)) (L' := [some (.ref 55), some (.int r6), none]) (S' := []) (sh' := mz_sh) (m' := m4) (g := true) rfl rfl (rfl) ?_
    refine mz_go_if (fun c7 => ?_) (fun c7 => ?_)
    · have h8 := h5.1 c7
      obtain ⟨g9, h10⟩ := h8
      refine mz_go_blk mz_m160 8 (pc' := 46) (L' := [some (.ref 55), some (.int r6), none]) (S' := [.int (m4 74 (((m4 55 24) - 1).toNatClampNeg)), .ref 55]) (sh' := mz_sh) (m' := m4) (g := mz_inb ((m4 55 24) - 1) 8100 && true) rfl rfl (mz_and2 (g9) (rfl)) ?_
      refine mz_go_call mz_m160 mz_m156 rfl rfl rfl rfl rfl rfl rfl h10 (fun v sh1 m11 hv => ?_)
      obtain ⟨rfl, rfl, h12⟩ := hv
      refine mz_go_blk mz_m160 1 (pc' := 50) (L' := [some (.ref 55), some (.int r6), none]) (S' := [.ref 55]) (sh' := mz_sh) (m' := m11) (g := true) rfl rfl (rfl) ?_
      refine mz_go_call mz_m160 mz_m157 rfl rfl rfl rfl rfl rfl rfl h12 (fun v sh1 m13 hv => ?_)
      obtain ⟨r15, rfl, rfl, h14⟩ := hv
      refine mz_go_blk mz_m160 2 (pc' := (if r15 ≤ 200 then 62 else 59)) (L' := [some (.ref 55), some (.int r6), none]) (S' := []) (sh' := mz_sh) (m' := m13) (g := true) rfl rfl (rfl) ?_
      refine mz_go_if (fun c16 => ?_) (fun c16 => ?_)
      · have h17 := h14.1 c16
        refine mz_go_blk mz_m160 1 (pc' := 63) (L' := [some (.ref 55), some (.int r6), none]) (S' := [.ref 55]) (sh' := mz_sh) (m' := m13) (g := true) rfl rfl (rfl) ?_
        refine mz_go_call mz_m160 mz_m159 rfl rfl rfl rfl rfl rfl rfl h17 (fun v sh1 m18 hv => ?_)
        obtain ⟨r20, rfl, rfl, h19⟩ := hv
        refine mz_go_blk mz_m160 3 (pc' := (if r20 < 0 then 77 else 71)) (L' := [some (.ref 55), some (.int r6), some (.int r20)]) (S' := []) (sh' := mz_sh) (m' := m18) (g := true) rfl rfl (rfl) ?_
        refine mz_go_if (fun c21 => ?_) (fun c21 => ?_)
        · have h22 := h19.1 c21
          refine mz_go_blk mz_m160 5 (pc' := 86) (L' := [some (.ref 55), some (.int r6), some (.int r20)]) (S' := [.int (m18 55 43)]) (sh' := mz_sh) (m' := mz_up m18 55 34 1) (g := (decide (1 = 0) || decide (1 = 1)) && true) rfl rfl (mz_and2 (by decide) (rfl)) ?_
          exact mz_go_ret mz_m160 rfl rfl rfl ⟨_, rfl, rfl, h22⟩
        · have h23 := h19.2 c21
          refine mz_go_blk mz_m160 3 (pc' := 76) (L' := [some (.ref 55), some (.int r6), some (.int r20)]) (S' := [.int ((-10000) - r20)]) (sh' := mz_sh) (m' := m18) (g := true) rfl rfl (rfl) ?_
          exact mz_go_ret mz_m160 rfl rfl rfl ⟨_, rfl, rfl, h23⟩
      · have h24 := h14.2 c16
        refine mz_go_blk mz_m160 1 (pc' := 61) (L' := [some (.ref 55), some (.int r6), none]) (S' := [.int (-2)]) (sh' := mz_sh) (m' := m13) (g := true) rfl rfl (rfl) ?_
        exact mz_go_ret mz_m160 rfl rfl rfl ⟨_, rfl, rfl, h24⟩
    · have h25 := h5.2 c7
      refine mz_go_blk mz_m160 3 (pc' := 33) (L' := [some (.ref 55), some (.int r6), none]) (S' := [.int ((-10) - r6)]) (sh' := mz_sh) (m' := m4) (g := true) rfl rfl (rfl) ?_
      exact mz_go_ret mz_m160 rfl rfl rfl ⟨_, rfl, rfl, h25⟩
set_option maxRecDepth 100000 in
theorem t_M_reduced_0 {X : mz_X} {m : mz_M} {Q : Int32 → mz_M → Prop} (a1 : Int32)
    (h : ((a1 = (-1) → Q (m 55 26) m) ∧ (¬ (a1 = (-1)) → ((a1 < 0 → Q (-1) m) ∧ (¬ (a1 < 0) → ((a1 < (m 55 26) → mz_inb a1 60000 = true ∧ Q (m 75 a1.toNatClampNeg) m) ∧ (¬ (a1 < (m 55 26)) → Q (-1) m))))))) :
    mz_gi X mz_sh 161 0 [some (.ref 55), some (.int a1)] m Q := by
  refine mz_go_blk mz_m161 3 (pc' := (if a1 = (-1) then 5 else 12)) (L' := [some (.ref 55), some (.int a1)]) (S' := []) (sh' := mz_sh) (m' := m) (g := true) rfl rfl (rfl) ?_
  refine mz_go_if (fun c1 => ?_) (fun c1 => ?_)
  · have h2 := h.1 c1
    refine mz_go_blk mz_m161 3 (pc' := 34) (L' := [some (.ref 55), some (.int a1)]) (S' := [.int (m 55 26)]) (sh' := mz_sh) (m' := m) (g := true) rfl rfl (rfl) ?_
    exact mz_go_ret mz_m161 rfl rfl rfl ⟨_, rfl, rfl, h2⟩
  · have h3 := h.2 c1
    refine mz_go_blk mz_m161 2 (pc' := (if a1 < 0 then 24 else 16)) (L' := [some (.ref 55), some (.int a1)]) (S' := []) (sh' := mz_sh) (m' := m) (g := true) rfl rfl (rfl) ?_
    refine mz_go_if (fun c4 => ?_) (fun c4 => ?_)
    · have h5 := h3.1 c4
      refine mz_go_blk mz_m161 2 (pc' := 34) (L' := [some (.ref 55), some (.int a1)]) (S' := [.int (-1)]) (sh' := mz_sh) (m' := m) (g := true) rfl rfl (rfl) ?_
      exact mz_go_ret mz_m161 rfl rfl rfl ⟨_, rfl, rfl, h5⟩
    · have h6 := h3.2 c4
      refine mz_go_blk mz_m161 4 (pc' := (if a1 < (m 55 26) then 28 else 24)) (L' := [some (.ref 55), some (.int a1)]) (S' := []) (sh' := mz_sh) (m' := m) (g := true) rfl rfl (rfl) ?_
      refine mz_go_if (fun c7 => ?_) (fun c7 => ?_)
      · have h8 := h6.1 c7
        obtain ⟨g9, h10⟩ := h8
        refine mz_go_blk mz_m161 4 (pc' := 34) (L' := [some (.ref 55), some (.int a1)]) (S' := [.int (m 75 a1.toNatClampNeg)]) (sh' := mz_sh) (m' := m) (g := mz_inb a1 60000 && true) rfl rfl (mz_and2 (g9) (rfl)) ?_
        exact mz_go_ret mz_m161 rfl rfl rfl ⟨_, rfl, rfl, h10⟩
      · have h11 := h6.2 c7
        refine mz_go_blk mz_m161 2 (pc' := 34) (L' := [some (.ref 55), some (.int a1)]) (S' := [.int (-1)]) (sh' := mz_sh) (m' := m) (g := true) rfl rfl (rfl) ?_
        exact mz_go_ret mz_m161 rfl rfl rfl ⟨_, rfl, rfl, h11⟩
set_option maxRecDepth 100000 in
theorem t_M_node_0 {X : mz_X} {m : mz_M} {Q : Int32 → mz_M → Prop} (a1 : Int32) (a2 : Int32)
    (h : (((m 55 34) = 0 → Q (-1) m) ∧ (¬ ((m 55 34) = 0) → ((a1 < 0 → Q (-1) m) ∧ (¬ (a1 < 0) → ((a1 < (m 55 43) → ((a2 = 0 → mz_inb a1 12100 = true ∧ Q (m 82 a1.toNatClampNeg) m) ∧ (a2 = 1 → mz_inb a1 12100 = true ∧ Q (m 83 a1.toNatClampNeg) m) ∧ (a2 = 2 → mz_inb a1 12100 = true ∧ Q (m 84 a1.toNatClampNeg) m) ∧ (a2 = 3 → mz_inb a1 12100 = true ∧ Q (m 85 a1.toNatClampNeg) m) ∧ (a2 = 4 → mz_inb a1 12100 = true ∧ Q (m 86 a1.toNatClampNeg) m) ∧ (a2 = 5 → mz_inb a1 12100 = true ∧ Q (m 87 a1.toNatClampNeg) m) ∧ (¬ a2 = 0 → ¬ a2 = 1 → ¬ a2 = 2 → ¬ a2 = 3 → ¬ a2 = 4 → ¬ a2 = 5 → Q (-1) m))) ∧ (¬ (a1 < (m 55 43)) → Q (-1) m))))))) :
    mz_gi X mz_sh 162 0 [some (.ref 55), some (.int a1), some (.int a2)] m Q := by
  refine mz_go_blk mz_m162 3 (pc' := (if (m 55 34) = 0 then 19 else 7)) (L' := [some (.ref 55), some (.int a1), some (.int a2)]) (S' := []) (sh' := mz_sh) (m' := m) (g := true) rfl rfl (rfl) ?_
  refine mz_go_if (fun c1 => ?_) (fun c1 => ?_)
  · have h2 := h.1 c1
    refine mz_go_blk mz_m162 1 (pc' := 20) (L' := [some (.ref 55), some (.int a1), some (.int a2)]) (S' := [.int (-1)]) (sh' := mz_sh) (m' := m) (g := true) rfl rfl (rfl) ?_
    exact mz_go_ret mz_m162 rfl rfl rfl ⟨_, rfl, rfl, h2⟩
  · have h3 := h.2 c1
    refine mz_go_blk mz_m162 2 (pc' := (if a1 < 0 then 19 else 11)) (L' := [some (.ref 55), some (.int a1), some (.int a2)]) (S' := []) (sh' := mz_sh) (m' := m) (g := true) rfl rfl (rfl) ?_
    refine mz_go_if (fun c4 => ?_) (fun c4 => ?_)
    · have h5 := h3.1 c4
      refine mz_go_blk mz_m162 1 (pc' := 20) (L' := [some (.ref 55), some (.int a1), some (.int a2)]) (S' := [.int (-1)]) (sh' := mz_sh) (m' := m) (g := true) rfl rfl (rfl) ?_
      exact mz_go_ret mz_m162 rfl rfl rfl ⟨_, rfl, rfl, h5⟩
    · have h6 := h3.2 c4
      refine mz_go_blk mz_m162 4 (pc' := (if a1 < (m 55 43) then 21 else 19)) (L' := [some (.ref 55), some (.int a1), some (.int a2)]) (S' := []) (sh' := mz_sh) (m' := m) (g := true) rfl rfl (rfl) ?_
      refine mz_go_if (fun c7 => ?_) (fun c7 => ?_)
      · have h8 := h6.1 c7
        refine mz_go_blk mz_m162 2 (pc' := (mz_tsw 22 80 0 5 #[38, 45, 52, 59, 66, 73] a2)) (L' := [some (.ref 55), some (.int a1), some (.int a2)]) (S' := []) (sh' := mz_sh) (m' := m) (g := true) rfl rfl (rfl) ?_
        by_cases c10 : a2 = 0
        · have h9 := h8.1 c10
          rw [show mz_tsw 22 80 0 5 #[38, 45, 52, 59, 66, 73] a2 = 60 by rw [c10]; decide +kernel]
          obtain ⟨g11, h12⟩ := h9
          refine mz_go_blk mz_m162 4 (pc' := 66) (L' := [some (.ref 55), some (.int a1), some (.int a2)]) (S' := [.int (m 82 a1.toNatClampNeg)]) (sh' := mz_sh) (m' := m) (g := mz_inb a1 12100 && true) rfl rfl (mz_and2 (g11) (rfl)) ?_
          exact mz_go_ret mz_m162 rfl rfl rfl ⟨_, rfl, rfl, h12⟩
        have h13 := h8.2
        by_cases c15 : a2 = 1
        · have h14 := h13.1 c15
          rw [show mz_tsw 22 80 0 5 #[38, 45, 52, 59, 66, 73] a2 = 67 by rw [c15]; decide +kernel]
          obtain ⟨g16, h17⟩ := h14
          refine mz_go_blk mz_m162 4 (pc' := 73) (L' := [some (.ref 55), some (.int a1), some (.int a2)]) (S' := [.int (m 83 a1.toNatClampNeg)]) (sh' := mz_sh) (m' := m) (g := mz_inb a1 12100 && true) rfl rfl (mz_and2 (g16) (rfl)) ?_
          exact mz_go_ret mz_m162 rfl rfl rfl ⟨_, rfl, rfl, h17⟩
        have h18 := h13.2
        by_cases c20 : a2 = 2
        · have h19 := h18.1 c20
          rw [show mz_tsw 22 80 0 5 #[38, 45, 52, 59, 66, 73] a2 = 74 by rw [c20]; decide +kernel]
          obtain ⟨g21, h22⟩ := h19
          refine mz_go_blk mz_m162 4 (pc' := 80) (L' := [some (.ref 55), some (.int a1), some (.int a2)]) (S' := [.int (m 84 a1.toNatClampNeg)]) (sh' := mz_sh) (m' := m) (g := mz_inb a1 12100 && true) rfl rfl (mz_and2 (g21) (rfl)) ?_
          exact mz_go_ret mz_m162 rfl rfl rfl ⟨_, rfl, rfl, h22⟩
        have h23 := h18.2
        by_cases c25 : a2 = 3
        · have h24 := h23.1 c25
          rw [show mz_tsw 22 80 0 5 #[38, 45, 52, 59, 66, 73] a2 = 81 by rw [c25]; decide +kernel]
          obtain ⟨g26, h27⟩ := h24
          refine mz_go_blk mz_m162 4 (pc' := 87) (L' := [some (.ref 55), some (.int a1), some (.int a2)]) (S' := [.int (m 85 a1.toNatClampNeg)]) (sh' := mz_sh) (m' := m) (g := mz_inb a1 12100 && true) rfl rfl (mz_and2 (g26) (rfl)) ?_
          exact mz_go_ret mz_m162 rfl rfl rfl ⟨_, rfl, rfl, h27⟩
        have h28 := h23.2
        by_cases c30 : a2 = 4
        · have h29 := h28.1 c30
          rw [show mz_tsw 22 80 0 5 #[38, 45, 52, 59, 66, 73] a2 = 88 by rw [c30]; decide +kernel]
          obtain ⟨g31, h32⟩ := h29
          refine mz_go_blk mz_m162 4 (pc' := 94) (L' := [some (.ref 55), some (.int a1), some (.int a2)]) (S' := [.int (m 86 a1.toNatClampNeg)]) (sh' := mz_sh) (m' := m) (g := mz_inb a1 12100 && true) rfl rfl (mz_and2 (g31) (rfl)) ?_
          exact mz_go_ret mz_m162 rfl rfl rfl ⟨_, rfl, rfl, h32⟩
        have h33 := h28.2
        by_cases c35 : a2 = 5
        · have h34 := h33.1 c35
          rw [show mz_tsw 22 80 0 5 #[38, 45, 52, 59, 66, 73] a2 = 95 by rw [c35]; decide +kernel]
          obtain ⟨g36, h37⟩ := h34
          refine mz_go_blk mz_m162 4 (pc' := 101) (L' := [some (.ref 55), some (.int a1), some (.int a2)]) (S' := [.int (m 87 a1.toNatClampNeg)]) (sh' := mz_sh) (m' := m) (g := mz_inb a1 12100 && true) rfl rfl (mz_and2 (g36) (rfl)) ?_
          exact mz_go_ret mz_m162 rfl rfl rfl ⟨_, rfl, rfl, h37⟩
        have h38 := h33.2
        have h38d := h38 c10 c15 c20 c25 c30 c35
        rw [show mz_tsw 22 80 0 5 #[38, 45, 52, 59, 66, 73] a2 = 102 from (by
        refine mz_tswd _ _ _ _ _ a2 102 (by decide +kernel) (fun k hk z => ?_)
        match k, hk, z with
        | 0, _, z => exact absurd (mz_tI (by rw [z]; decide +kernel)) c10
        | 1, _, z => exact absurd (mz_tI (by rw [z]; decide +kernel)) c15
        | 2, _, z => exact absurd (mz_tI (by rw [z]; decide +kernel)) c20
        | 3, _, z => exact absurd (mz_tI (by rw [z]; decide +kernel)) c25
        | 4, _, z => exact absurd (mz_tI (by rw [z]; decide +kernel)) c30
        | 5, _, z => exact absurd (mz_tI (by rw [z]; decide +kernel)) c35
        | k + 6, hk, _ => exact absurd hk (by simp only [Array.size]; simp)
      )]
        refine mz_go_blk mz_m162 1 (pc' := 103) (L' := [some (.ref 55), some (.int a1), some (.int a2)]) (S' := [.int (-1)]) (sh' := mz_sh) (m' := m) (g := true) rfl rfl (rfl) ?_
        exact mz_go_ret mz_m162 rfl rfl rfl ⟨_, rfl, rfl, h38d⟩
      · have h39 := h6.2 c7
        refine mz_go_blk mz_m162 1 (pc' := 20) (L' := [some (.ref 55), some (.int a1), some (.int a2)]) (S' := [.int (-1)]) (sh' := mz_sh) (m' := m) (g := true) rfl rfl (rfl) ?_
        exact mz_go_ret mz_m162 rfl rfl rfl ⟨_, rfl, rfl, h39⟩
set_option maxRecDepth 100000 in
theorem t_M_emit_0 {X : mz_X} {m : mz_M} {Q : Int32 → mz_M → Prop} (a1 : Int32) (a2 : Int32)
    (h : mz_inb (m 55 47) 60100 = true ∧ mz_inb (m 55 47) 60100 = true ∧ Q (((m 55 47) + 1) - 1) (mz_up (mz_up (mz_up m 90 ((m 55 47).toNatClampNeg) a1) 91 ((m 55 47).toNatClampNeg) a2) 55 47 ((m 55 47) + 1))) :
    mz_gi X mz_sh 163 0 [some (.ref 55), some (.int a1), some (.int a2)] m Q := by
  obtain ⟨g1, g2, h3⟩ := h
  refine mz_go_blk mz_m163 22 (pc' := 36) (L' := [some (.ref 55), some (.int a1), some (.int a2)]) (S' := [.int (((m 55 47) + 1) - 1)]) (sh' := mz_sh) (m' := mz_up (mz_up (mz_up m 90 ((m 55 47).toNatClampNeg) a1) 91 ((m 55 47).toNatClampNeg) a2) 55 47 ((m 55 47) + 1)) (g := mz_inb (m 55 47) 60100 && (mz_inb (m 55 47) 60100 && true)) rfl rfl (mz_and2 (g2) (mz_and2 (g1) (rfl))) ?_
  exact mz_go_ret mz_m163 rfl rfl rfl ⟨_, rfl, rfl, h3⟩
set_option maxRecDepth 100000 in
theorem t_M_before_0 {X : mz_X} {m : mz_M} {Q : mz_M → Prop} (a1 : Int32) (a2 : Int32)
    (h : mz_inb a1 12100 = true ∧ (((m 82 a1.toNatClampNeg) = 4 → ((a2 = 0 → mz_inb a1 12100 = true ∧ mz_inb a1 12100 = true ∧ mz_gv X mz_sh 164 33 [some (.ref 55), some (.int a1), some (.int a2), some (.int (m 82 a1.toNatClampNeg)), none, none] (mz_up (mz_up m 95 a1.toNatClampNeg (m 55 47)) 93 a1.toNatClampNeg (-1)) Q) ∧ (¬ (a2 = 0) → mz_gv X mz_sh 164 33 [some (.ref 55), some (.int a1), some (.int a2), some (.int (m 82 a1.toNatClampNeg)), none, none] m Q))) ∧ (¬ ((m 82 a1.toNatClampNeg) = 4) → mz_gv X mz_sh 164 33 [some (.ref 55), some (.int a1), some (.int a2), some (.int (m 82 a1.toNatClampNeg)), none, none] m Q))) :
    mz_gv X mz_sh 164 0 [some (.ref 55), some (.int a1), some (.int a2), none, none, none] m Q := by
  obtain ⟨g1, h2⟩ := h
  refine mz_go_blk mz_m164 8 (pc' := (if (m 82 a1.toNatClampNeg) = 4 then 12 else 33)) (L' := [some (.ref 55), some (.int a1), some (.int a2), some (.int (m 82 a1.toNatClampNeg)), none, none]) (S' := []) (sh' := mz_sh) (m' := m) (g := mz_inb a1 12100 && true) rfl rfl (mz_and2 (g1) (rfl)) ?_
  refine mz_go_if (fun c3 => ?_) (fun c3 => ?_)
  · have h4 := h2.1 c3
    refine mz_go_blk mz_m164 2 (pc' := (if a2 = 0 then 16 else 33)) (L' := [some (.ref 55), some (.int a1), some (.int a2), some (.int (m 82 a1.toNatClampNeg)), none, none]) (S' := []) (sh' := mz_sh) (m' := m) (g := true) rfl rfl (rfl) ?_
    refine mz_go_if (fun c5 => ?_) (fun c5 => ?_)
    · have h6 := h4.1 c5
      obtain ⟨g7, g8, h9⟩ := h6
      refine mz_go_blk mz_m164 11 (pc' := 33) (L' := [some (.ref 55), some (.int a1), some (.int a2), some (.int (m 82 a1.toNatClampNeg)), none, none]) (S' := []) (sh' := mz_sh) (m' := mz_up (mz_up m 95 a1.toNatClampNeg (m 55 47)) 93 a1.toNatClampNeg (-1)) (g := mz_inb a1 12100 && (mz_inb a1 12100 && true)) rfl rfl (mz_and2 (g8) (mz_and2 (g7) (rfl))) ?_
      exact h9
    · have h10 := h4.2 c5
      exact h10
  · have h11 := h2.2 c3
    exact h11
set_option maxRecDepth 100000 in
theorem t_M_before_1 {X : mz_X} {m : mz_M} {Q : mz_M → Prop} (l1 : Int32) (l2 : Int32) (l3 : Int32)
    (h : ((l2 = 1 → ((l3 = 8 → mz_gv X mz_sh 164 54 [some (.ref 55), some (.int l1), some (.int l2), some (.int l3), none, none] m Q) ∧ (¬ (l3 = 8) → ((l3 = 3 → mz_gv X mz_sh 164 54 [some (.ref 55), some (.int l1), some (.int l2), some (.int l3), none, none] m Q) ∧ (¬ (l3 = 3) → ((l3 = 4 → mz_gv X mz_sh 164 54 [some (.ref 55), some (.int l1), some (.int l2), some (.int l3), none, none] m Q) ∧ (¬ (l3 = 4) → mz_gv X mz_sh 164 67 [some (.ref 55), some (.int l1), some (.int l2), some (.int l3), none, none] m Q))))))) ∧ (¬ (l2 = 1) → mz_gv X mz_sh 164 67 [some (.ref 55), some (.int l1), some (.int l2), some (.int l3), none, none] m Q))) :
    mz_gv X mz_sh 164 33 [some (.ref 55), some (.int l1), some (.int l2), some (.int l3), none, none] m Q := by
  refine mz_go_blk mz_m164 3 (pc' := (if l2 = 1 then 38 else 67)) (L' := [some (.ref 55), some (.int l1), some (.int l2), some (.int l3), none, none]) (S' := []) (sh' := mz_sh) (m' := m) (g := true) rfl rfl (rfl) ?_
  refine mz_go_if (fun c1 => ?_) (fun c1 => ?_)
  · have h2 := h.1 c1
    refine mz_go_blk mz_m164 3 (pc' := (if l3 = 8 then 54 else 44)) (L' := [some (.ref 55), some (.int l1), some (.int l2), some (.int l3), none, none]) (S' := []) (sh' := mz_sh) (m' := m) (g := true) rfl rfl (rfl) ?_
    refine mz_go_if (fun c3 => ?_) (fun c3 => ?_)
    · have h4 := h2.1 c3
      exact h4
    · have h5 := h2.2 c3
      refine mz_go_blk mz_m164 3 (pc' := (if l3 = 3 then 54 else 49)) (L' := [some (.ref 55), some (.int l1), some (.int l2), some (.int l3), none, none]) (S' := []) (sh' := mz_sh) (m' := m) (g := true) rfl rfl (rfl) ?_
      refine mz_go_if (fun c6 => ?_) (fun c6 => ?_)
      · have h7 := h5.1 c6
        exact h7
      · have h8 := h5.2 c6
        refine mz_go_blk mz_m164 3 (pc' := (if l3 = 4 then 54 else 67)) (L' := [some (.ref 55), some (.int l1), some (.int l2), some (.int l3), none, none]) (S' := []) (sh' := mz_sh) (m' := m) (g := true) rfl rfl (rfl) ?_
        refine mz_go_if (fun c9 => ?_) (fun c9 => ?_)
        · have h10 := h8.1 c9
          exact h10
        · have h11 := h8.2 c9
          exact h11
  · have h12 := h.2 c1
    exact h12
set_option maxRecDepth 100000 in
theorem t_M_before_2 {X : mz_X} {m : mz_M} {Q : mz_M → Prop} (l1 : Int32) (l2 : Int32) (l3 : Int32)
    (h : mz_gi X mz_sh 163 0 [some (.ref 55), some (.int 14), some (.int 0)] m (fun r3 m1 => mz_inb l1 12100 = true ∧ mz_gv X mz_sh 164 67 [some (.ref 55), some (.int l1), some (.int l2), some (.int l3), none, none] (mz_up m1 94 l1.toNatClampNeg r3) Q)) :
    mz_gv X mz_sh 164 54 [some (.ref 55), some (.int l1), some (.int l2), some (.int l3), none, none] m Q := by
  refine mz_go_blk mz_m164 6 (pc' := 63) (L' := [some (.ref 55), some (.int l1), some (.int l2), some (.int l3), none, none]) (S' := [.int 0, .int 14, .ref 55, .int l1, .ref 94]) (sh' := mz_sh) (m' := m) (g := true) rfl rfl (rfl) ?_
  refine mz_go_call mz_m164 mz_m163 rfl rfl rfl rfl rfl rfl rfl h (fun v sh1 m1 hv => ?_)
  obtain ⟨r3, rfl, rfl, h2⟩ := hv
  obtain ⟨g4, h5⟩ := h2
  refine mz_go_blk mz_m164 1 (pc' := 67) (L' := [some (.ref 55), some (.int l1), some (.int l2), some (.int l3), none, none]) (S' := []) (sh' := mz_sh) (m' := mz_up m1 94 l1.toNatClampNeg r3) (g := mz_inb l1 12100 && true) rfl rfl (mz_and2 (g4) (rfl)) ?_
  exact h5
set_option maxRecDepth 100000 in
theorem t_M_before_3 {X : mz_X} {m : mz_M} {Q : mz_M → Prop} (l1 : Int32) (l2 : Int32) (l3 : Int32)
    (h : ((l2 = 1 → ((l3 = 7 → mz_gi X mz_sh 163 0 [some (.ref 55), some (.int 14), some (.int 0)] m (fun r7 m5 => mz_gi X mz_sh 163 0 [some (.ref 55), some (.int 0), some (.int 1)] m5 (fun r10 m8 => mz_gi X mz_sh 163 0 [some (.ref 55), some (.int 13), some (.int 0)] m8 (fun r13 m11 => mz_inb l1 12100 = true ∧ mz_inb r7 60100 = true ∧ mz_gv X mz_sh 164 119 [some (.ref 55), some (.int l1), some (.int l2), some (.int l3), none, none] (mz_up (mz_up m11 94 l1.toNatClampNeg r13) 91 r7.toNatClampNeg (m11 55 47)) Q)))) ∧ (¬ (l3 = 7) → mz_gv X mz_sh 164 119 [some (.ref 55), some (.int l1), some (.int l2), some (.int l3), none, none] m Q))) ∧ (¬ (l2 = 1) → mz_gv X mz_sh 164 119 [some (.ref 55), some (.int l1), some (.int l2), some (.int l3), none, none] m Q))) :
    mz_gv X mz_sh 164 67 [some (.ref 55), some (.int l1), some (.int l2), some (.int l3), none, none] m Q := by
  refine mz_go_blk mz_m164 3 (pc' := (if l2 = 1 then 72 else 119)) (L' := [some (.ref 55), some (.int l1), some (.int l2), some (.int l3), none, none]) (S' := []) (sh' := mz_sh) (m' := m) (g := true) rfl rfl (rfl) ?_
  refine mz_go_if (fun c1 => ?_) (fun c1 => ?_)
  · have h2 := h.1 c1
    refine mz_go_blk mz_m164 3 (pc' := (if l3 = 7 then 78 else 119)) (L' := [some (.ref 55), some (.int l1), some (.int l2), some (.int l3), none, none]) (S' := []) (sh' := mz_sh) (m' := m) (g := true) rfl rfl (rfl) ?_
    refine mz_go_if (fun c3 => ?_) (fun c3 => ?_)
    · have h4 := h2.1 c3
      refine mz_go_blk mz_m164 3 (pc' := 82) (L' := [some (.ref 55), some (.int l1), some (.int l2), some (.int l3), none, none]) (S' := [.int 0, .int 14, .ref 55]) (sh' := mz_sh) (m' := m) (g := true) rfl rfl (rfl) ?_
      refine mz_go_call mz_m164 mz_m163 rfl rfl rfl rfl rfl rfl rfl h4 (fun v sh1 m5 hv => ?_)
      obtain ⟨r7, rfl, rfl, h6⟩ := hv
      refine mz_go_blk mz_m164 4 (pc' := 90) (L' := [some (.ref 55), some (.int l1), some (.int l2), some (.int l3), some (.int r7), none]) (S' := [.int 1, .int 0, .ref 55]) (sh' := mz_sh) (m' := m5) (g := true) rfl rfl (rfl) ?_
      refine mz_go_call mz_m164 mz_m163 rfl rfl rfl rfl rfl rfl rfl h6 (fun v sh1 m8 hv => ?_)
      obtain ⟨r10, rfl, rfl, h9⟩ := hv
      refine mz_go_blk mz_m164 7 (pc' := 104) (L' := [some (.ref 55), some (.int l1), some (.int l2), some (.int l3), some (.int r7), some (.int r10)]) (S' := [.int 0, .int 13, .ref 55, .int l1, .ref 94]) (sh' := mz_sh) (m' := m8) (g := true) rfl rfl (rfl) ?_
      refine mz_go_call mz_m164 mz_m163 rfl rfl rfl rfl rfl rfl rfl h9 (fun v sh1 m11 hv => ?_)
      obtain ⟨r13, rfl, rfl, h12⟩ := hv
      obtain ⟨g14, g15, h16⟩ := h12
      refine mz_go_blk mz_m164 7 (pc' := 119) (L' := [some (.ref 55), some (.int l1), some (.int l2), some (.int l3), some (.int r7), some (.int r10)]) (S' := []) (sh' := mz_sh) (m' := mz_up (mz_up m11 94 l1.toNatClampNeg r13) 91 r7.toNatClampNeg (m11 55 47)) (g := mz_inb r7 60100 && (mz_inb l1 12100 && true)) rfl rfl (mz_and2 (g15) (mz_and2 (g14) (rfl))) ?_
      exact mz_go.forget (L := [some (.ref 55), some (.int l1), some (.int l2), some (.int l3), none, none]) (mz_lel_cons rfl (mz_lel_cons rfl (mz_lel_cons rfl (mz_lel_cons rfl (mz_lel_cons trivial (mz_lel_cons trivial (mz_lel_nil))))))) h16
    · have h17 := h2.2 c3
      exact h17
  · have h18 := h.2 c1
    exact h18
set_option maxRecDepth 100000 in
theorem t_M_before_4 {X : mz_X} {m : mz_M} {Q : mz_M → Prop} (l1 : Int32) (l2 : Int32) (l3 : Int32)
    (h : ((l2 = 2 → ((l3 = 3 → mz_gi X mz_sh 163 0 [some (.ref 55), some (.int 13), some (.int 0)] m (fun r7 m5 => mz_inb l1 12100 = true ∧ mz_inb l1 12100 = true ∧ mz_inb (m5 94 l1.toNatClampNeg) 60100 = true ∧ mz_gv X mz_sh 164 157 [some (.ref 55), none, none, none, none, none] (mz_up (mz_up m5 95 l1.toNatClampNeg r7) 91 ((m5 94 l1.toNatClampNeg).toNatClampNeg) (m5 55 47)) Q)) ∧ (¬ (l3 = 3) → mz_gv X mz_sh 164 157 [some (.ref 55), none, none, none, none, none] m Q))) ∧ (¬ (l2 = 2) → mz_gv X mz_sh 164 157 [some (.ref 55), none, none, none, none, none] m Q))) :
    mz_gv X mz_sh 164 119 [some (.ref 55), some (.int l1), some (.int l2), some (.int l3), none, none] m Q := by
  refine mz_go_blk mz_m164 3 (pc' := (if l2 = 2 then 124 else 157)) (L' := [some (.ref 55), some (.int l1), some (.int l2), some (.int l3), none, none]) (S' := []) (sh' := mz_sh) (m' := m) (g := true) rfl rfl (rfl) ?_
  refine mz_go_if (fun c1 => ?_) (fun c1 => ?_)
  · have h2 := h.1 c1
    refine mz_go_blk mz_m164 3 (pc' := (if l3 = 3 then 129 else 157)) (L' := [some (.ref 55), some (.int l1), some (.int l2), some (.int l3), none, none]) (S' := []) (sh' := mz_sh) (m' := m) (g := true) rfl rfl (rfl) ?_
    refine mz_go_if (fun c3 => ?_) (fun c3 => ?_)
    · have h4 := h2.1 c3
      refine mz_go_blk mz_m164 6 (pc' := 138) (L' := [some (.ref 55), some (.int l1), some (.int l2), some (.int l3), none, none]) (S' := [.int 0, .int 13, .ref 55, .int l1, .ref 95]) (sh' := mz_sh) (m' := m) (g := true) rfl rfl (rfl) ?_
      refine mz_go_call mz_m164 mz_m163 rfl rfl rfl rfl rfl rfl rfl h4 (fun v sh1 m5 hv => ?_)
      obtain ⟨r7, rfl, rfl, h6⟩ := hv
      obtain ⟨g8, g9, g10, h11⟩ := h6
      refine mz_go_blk mz_m164 10 (pc' := 157) (L' := [some (.ref 55), some (.int l1), some (.int l2), some (.int l3), none, none]) (S' := []) (sh' := mz_sh) (m' := mz_up (mz_up m5 95 l1.toNatClampNeg r7) 91 ((m5 94 l1.toNatClampNeg).toNatClampNeg) (m5 55 47)) (g := mz_inb (m5 94 l1.toNatClampNeg) 60100 && (mz_inb l1 12100 && (mz_inb l1 12100 && true))) rfl rfl (mz_and2 (g10) (mz_and2 (g9) (mz_and2 (g8) (rfl)))) ?_
      exact mz_go.forget (L := [some (.ref 55), none, none, none, none, none]) (mz_lel_cons rfl (mz_lel_cons trivial (mz_lel_cons trivial (mz_lel_cons trivial (mz_lel_cons trivial (mz_lel_cons trivial (mz_lel_nil))))))) h11
    · have h12 := h2.2 c3
      exact mz_go.forget (L := [some (.ref 55), none, none, none, none, none]) (mz_lel_cons rfl (mz_lel_cons trivial (mz_lel_cons trivial (mz_lel_cons trivial (mz_lel_cons trivial (mz_lel_cons trivial (mz_lel_nil))))))) h12
  · have h13 := h.2 c1
    exact mz_go.forget (L := [some (.ref 55), none, none, none, none, none]) (mz_lel_cons rfl (mz_lel_cons trivial (mz_lel_cons trivial (mz_lel_cons trivial (mz_lel_cons trivial (mz_lel_cons trivial (mz_lel_nil))))))) h13
set_option maxRecDepth 100000 in
theorem t_M_before_5 {X : mz_X} {m : mz_M} {Q : mz_M → Prop}
    (h : Q m) :
    mz_gv X mz_sh 164 157 [some (.ref 55), none, none, none, none, none] m Q := by
  exact mz_go_ret mz_m164 rfl rfl rfl ⟨rfl, rfl, h⟩
set_option maxRecDepth 100000 in
theorem t_M_behindWhile_0 {X : mz_X} {m : mz_M} {Q : mz_M → Prop} (a1 : Int32)
    (h : mz_inb a1 12100 = true ∧ mz_gi X mz_sh 163 0 [some (.ref 55), some (.int 13), some (.int (m 95 a1.toNatClampNeg))] m (fun r5 m3 => mz_inb a1 12100 = true ∧ mz_inb (m3 94 a1.toNatClampNeg) 60100 = true ∧ mz_inb a1 12100 = true ∧ mz_gv X mz_sh 165 35 [some (.ref 55), none, none, some (.int (m3 93 a1.toNatClampNeg)), none] (mz_up m3 91 ((m3 94 a1.toNatClampNeg).toNatClampNeg) (m3 55 47)) Q)) :
    mz_gv X mz_sh 165 0 [some (.ref 55), some (.int a1), none, none, none] m Q := by
  obtain ⟨g1, h2⟩ := h
  refine mz_go_blk mz_m165 6 (pc' := 9) (L' := [some (.ref 55), some (.int a1), none, none, none]) (S' := [.int (m 95 a1.toNatClampNeg), .int 13, .ref 55]) (sh' := mz_sh) (m' := m) (g := mz_inb a1 12100 && true) rfl rfl (mz_and2 (g1) (rfl)) ?_
  refine mz_go_call mz_m165 mz_m163 rfl rfl rfl rfl rfl rfl rfl h2 (fun v sh1 m3 hv => ?_)
  obtain ⟨r5, rfl, rfl, h4⟩ := hv
  obtain ⟨g6, g7, g8, h9⟩ := h4
  refine mz_go_blk mz_m165 15 (pc' := 35) (L' := [some (.ref 55), some (.int a1), some (.int r5), some (.int (m3 93 a1.toNatClampNeg)), none]) (S' := []) (sh' := mz_sh) (m' := mz_up m3 91 ((m3 94 a1.toNatClampNeg).toNatClampNeg) (m3 55 47)) (g := mz_inb a1 12100 && (mz_inb (m3 94 a1.toNatClampNeg) 60100 && (mz_inb a1 12100 && true))) rfl rfl (mz_and2 (g8) (mz_and2 (g7) (mz_and2 (g6) (rfl)))) ?_
  exact mz_go.forget (L := [some (.ref 55), none, none, some (.int (m3 93 a1.toNatClampNeg)), none]) (mz_lel_cons rfl (mz_lel_cons trivial (mz_lel_cons trivial (mz_lel_cons rfl (mz_lel_cons trivial (mz_lel_nil)))))) h9
set_option maxRecDepth 100000 in
theorem t_M_behindWhile_1 {X : mz_X} {m : mz_M} {Q : mz_M → Prop} (l3 : Int32)
    (h : ((l3 < 0 → Q m) ∧ (¬ (l3 < 0) → mz_inb l3 60100 = true ∧ mz_inb l3 60100 = true ∧ mz_gv X mz_sh 165 35 [some (.ref 55), none, none, some (.int (m 91 l3.toNatClampNeg)), none] (mz_up m 91 l3.toNatClampNeg (m 55 47)) Q))) :
    mz_gv X mz_sh 165 35 [some (.ref 55), none, none, some (.int l3), none] m Q := by
  refine mz_go_blk mz_m165 2 (pc' := (if l3 < 0 then 63 else 39)) (L' := [some (.ref 55), none, none, some (.int l3), none]) (S' := []) (sh' := mz_sh) (m' := m) (g := true) rfl rfl (rfl) ?_
  refine mz_go_if (fun c1 => ?_) (fun c1 => ?_)
  · have h2 := h.1 c1
    exact mz_go_ret mz_m165 rfl rfl rfl ⟨rfl, rfl, h2⟩
  · have h3 := h.2 c1
    obtain ⟨g4, g5, h6⟩ := h3
    refine mz_go_blk mz_m165 14 (pc' := 35) (L' := [some (.ref 55), none, none, some (.int (m 91 l3.toNatClampNeg)), some (.int (m 91 l3.toNatClampNeg))]) (S' := []) (sh' := mz_sh) (m' := mz_up m 91 l3.toNatClampNeg (m 55 47)) (g := mz_inb l3 60100 && (mz_inb l3 60100 && true)) rfl rfl (mz_and2 (g5) (mz_and2 (g4) (rfl))) ?_
    exact mz_go.forget (L := [some (.ref 55), none, none, some (.int (m 91 l3.toNatClampNeg)), none]) (mz_lel_cons rfl (mz_lel_cons trivial (mz_lel_cons trivial (mz_lel_cons rfl (mz_lel_cons trivial (mz_lel_nil)))))) h6
set_option maxRecDepth 100000 in
theorem t_M_behindAnd_0 {X : mz_X} {m : mz_M} {Q : mz_M → Prop} (a1 : Int32)
    (h : mz_gi X mz_sh 163 0 [some (.ref 55), some (.int 12), some (.int 0)] m (fun r3 m1 => mz_gi X mz_sh 163 0 [some (.ref 55), some (.int 13), some (.int 0)] m1 (fun r6 m4 => mz_inb a1 12100 = true ∧ mz_inb (m4 94 a1.toNatClampNeg) 60100 = true ∧ mz_gi X mz_sh 163 0 [some (.ref 55), some (.int 0), some (.int 0)] (mz_up m4 91 ((m4 94 a1.toNatClampNeg).toNatClampNeg) (m4 55 47)) (fun r12 m10 => mz_inb r6 60100 = true ∧ Q (mz_up m10 91 r6.toNatClampNeg (m10 55 47)))))) :
    mz_gv X mz_sh 166 0 [some (.ref 55), some (.int a1), none, none, none] m Q := by
  refine mz_go_blk mz_m166 3 (pc' := 4) (L' := [some (.ref 55), some (.int a1), none, none, none]) (S' := [.int 0, .int 12, .ref 55]) (sh' := mz_sh) (m' := m) (g := true) rfl rfl (rfl) ?_
  refine mz_go_call mz_m166 mz_m163 rfl rfl rfl rfl rfl rfl rfl h (fun v sh1 m1 hv => ?_)
  obtain ⟨r3, rfl, rfl, h2⟩ := hv
  refine mz_go_blk mz_m166 4 (pc' := 12) (L' := [some (.ref 55), some (.int a1), some (.int r3), none, none]) (S' := [.int 0, .int 13, .ref 55]) (sh' := mz_sh) (m' := m1) (g := true) rfl rfl (rfl) ?_
  refine mz_go_call mz_m166 mz_m163 rfl rfl rfl rfl rfl rfl rfl h2 (fun v sh1 m4 hv => ?_)
  obtain ⟨r6, rfl, rfl, h5⟩ := hv
  obtain ⟨g7, g8, h9⟩ := h5
  refine mz_go_blk mz_m166 13 (pc' := 34) (L' := [some (.ref 55), some (.int a1), some (.int r3), some (.int r6), none]) (S' := [.int 0, .int 0, .ref 55]) (sh' := mz_sh) (m' := mz_up m4 91 ((m4 94 a1.toNatClampNeg).toNatClampNeg) (m4 55 47)) (g := mz_inb (m4 94 a1.toNatClampNeg) 60100 && (mz_inb a1 12100 && true)) rfl rfl (mz_and2 (g8) (mz_and2 (g7) (rfl))) ?_
  refine mz_go_call mz_m166 mz_m163 rfl rfl rfl rfl rfl rfl rfl h9 (fun v sh1 m10 hv => ?_)
  obtain ⟨r12, rfl, rfl, h11⟩ := hv
  obtain ⟨g13, h14⟩ := h11
  refine mz_go_blk mz_m166 7 (pc' := 49) (L' := [some (.ref 55), some (.int a1), some (.int r3), some (.int r6), some (.int r12)]) (S' := []) (sh' := mz_sh) (m' := mz_up m10 91 r6.toNatClampNeg (m10 55 47)) (g := mz_inb r6 60100 && true) rfl rfl (mz_and2 (g13) (rfl)) ?_
  exact mz_go_ret mz_m166 rfl rfl rfl ⟨rfl, rfl, h14⟩
set_option maxRecDepth 100000 in
theorem t_M_leave_0 {X : mz_X} {m : mz_M} {Q : mz_M → Prop} (a1 : Int32)
    (h : mz_inb a1 12100 = true ∧ (((m 82 a1.toNatClampNeg) = 5 → mz_gv X mz_sh 167 21 [some (.ref 55), some (.int a1), none, none, none, none, none, none, none, none] m Q) ∧ (¬ ((m 82 a1.toNatClampNeg) = 5) → mz_inb a1 12100 = true ∧ (((m 82 a1.toNatClampNeg) = 6 → mz_gv X mz_sh 167 21 [some (.ref 55), some (.int a1), none, none, none, none, none, none, none, none] m Q) ∧ (¬ ((m 82 a1.toNatClampNeg) = 6) → mz_inb a1 12100 = true ∧ (((m 82 a1.toNatClampNeg) = 0 → mz_gv X mz_sh 167 343 [some (.ref 55), none, none, none, none, none, none, none, none, none] m Q) ∧ ((m 82 a1.toNatClampNeg) = 1 → mz_inb a1 12100 = true ∧ mz_inb (m 83 a1.toNatClampNeg) 4001 = true ∧ mz_gi X mz_sh 163 0 [some (.ref 55), some (.int 2), some (.int (m 70 ((m 83 a1.toNatClampNeg).toNatClampNeg)))] m (fun r23 m21 => mz_gv X mz_sh 167 343 [some (.ref 55), none, none, none, none, none, none, none, none, none] m21 Q)) ∧ ((m 82 a1.toNatClampNeg) = 2 → mz_gi X mz_sh 163 0 [some (.ref 55), some (.int 15), some (.int 0)] m (fun r29 m27 => mz_gv X mz_sh 167 343 [some (.ref 55), none, none, none, none, none, none, none, none, none] m27 Q)) ∧ ((m 82 a1.toNatClampNeg) = 3 → mz_inb a1 12100 = true ∧ (((m 84 a1.toNatClampNeg) = 3 → mz_inb a1 12100 = true ∧ mz_inb (m 95 a1.toNatClampNeg) 60100 = true ∧ mz_gv X mz_sh 167 343 [some (.ref 55), none, none, none, none, none, none, none, none, none] (mz_up m 91 ((m 95 a1.toNatClampNeg).toNatClampNeg) (m 55 47)) Q) ∧ (¬ ((m 84 a1.toNatClampNeg) = 3) → mz_inb a1 12100 = true ∧ mz_inb (m 94 a1.toNatClampNeg) 60100 = true ∧ mz_gv X mz_sh 167 343 [some (.ref 55), none, none, none, none, none, none, none, none, none] (mz_up m 91 ((m 94 a1.toNatClampNeg).toNatClampNeg) (m 55 47)) Q))) ∧ ((m 82 a1.toNatClampNeg) = 4 → mz_gv X mz_sh 165 0 [some (.ref 55), some (.int a1), none, none, none] m (fun m47 => mz_gv X mz_sh 167 343 [some (.ref 55), none, none, none, none, none, none, none, none, none] m47 Q)) ∧ ((m 82 a1.toNatClampNeg) = 5 → mz_inb (-1) 12100 = true ∧ mz_gi X mz_sh 163 0 [some (.ref 55), some (.int 13), some (.int (m 93 ((-1 : Int32).toNatClampNeg)))] m (fun r56 m54 => mz_inb (-1) 12100 = true ∧ mz_gv X mz_sh 167 343 [some (.ref 55), none, none, none, none, none, none, none, none, none] (mz_up m54 93 ((-1 : Int32).toNatClampNeg) r56) Q)) ∧ ((m 82 a1.toNatClampNeg) = 6 → mz_inb (-1) 12100 = true ∧ mz_gi X mz_sh 163 0 [some (.ref 55), some (.int 13), some (.int (m 95 ((-1 : Int32).toNatClampNeg)))] m (fun r66 m64 => mz_gv X mz_sh 167 343 [some (.ref 55), none, none, none, none, none, none, none, none, none] m64 Q)) ∧ ((m 82 a1.toNatClampNeg) = 7 → mz_gi X mz_sh 163 0 [some (.ref 55), some (.int 12), some (.int 0)] m (fun r72 m70 => mz_inb a1 12100 = true ∧ mz_inb (m70 94 a1.toNatClampNeg) 60100 = true ∧ mz_gv X mz_sh 167 343 [some (.ref 55), none, none, none, none, none, none, none, none, none] (mz_up m70 91 ((m70 94 a1.toNatClampNeg).toNatClampNeg) (m70 55 47)) Q)) ∧ ((m 82 a1.toNatClampNeg) = 8 → mz_gv X mz_sh 166 0 [some (.ref 55), some (.int a1), none, none, none] m (fun m79 => mz_gv X mz_sh 167 343 [some (.ref 55), none, none, none, none, none, none, none, none, none] m79 Q)) ∧ ((m 82 a1.toNatClampNeg) = 18 → mz_inb a1 12100 = true ∧ mz_inb (m 83 a1.toNatClampNeg) 4001 = true ∧ mz_gi X mz_sh 163 0 [some (.ref 55), some (.int 1), some (.int (m 70 ((m 83 a1.toNatClampNeg).toNatClampNeg)))] m (fun r89 m87 => mz_gv X mz_sh 167 343 [some (.ref 55), none, none, none, none, none, none, none, none, none] m87 Q)) ∧ ((m 82 a1.toNatClampNeg) = 19 → mz_inb a1 12100 = true ∧ mz_inb (m 83 a1.toNatClampNeg) 4001 = true ∧ mz_gi X mz_sh 163 0 [some (.ref 55), some (.int 0), some (.int (m 70 ((m 83 a1.toNatClampNeg).toNatClampNeg)))] m (fun r98 m96 => mz_gv X mz_sh 167 343 [some (.ref 55), none, none, none, none, none, none, none, none, none] m96 Q)) ∧ (¬ (m 82 a1.toNatClampNeg) = 0 → ¬ (m 82 a1.toNatClampNeg) = 1 → ¬ (m 82 a1.toNatClampNeg) = 2 → ¬ (m 82 a1.toNatClampNeg) = 3 → ¬ (m 82 a1.toNatClampNeg) = 4 → ¬ (m 82 a1.toNatClampNeg) = 5 → ¬ (m 82 a1.toNatClampNeg) = 6 → ¬ (m 82 a1.toNatClampNeg) = 7 → ¬ (m 82 a1.toNatClampNeg) = 8 → ¬ (m 82 a1.toNatClampNeg) = 18 → ¬ (m 82 a1.toNatClampNeg) = 19 → mz_inb a1 12100 = true ∧ mz_gi X mz_sh 168 0 [some (.int (m 82 a1.toNatClampNeg))] m (fun r104 m102 => mz_gi X mz_sh 163 0 [some (.ref 55), some (.int r104), some (.int 0)] m102 (fun r107 m105 => mz_gv X mz_sh 167 343 [some (.ref 55), none, none, none, none, none, none, none, none, none] m105 Q))))))))) :
    mz_gv X mz_sh 167 0 [some (.ref 55), some (.int a1), none, none, none, none, none, none, none, none] m Q := by
  obtain ⟨g1, h2⟩ := h
  refine mz_go_blk mz_m167 6 (pc' := (if (m 82 a1.toNatClampNeg) = 5 then 21 else 10)) (L' := [some (.ref 55), some (.int a1), none, none, none, none, none, none, none, none]) (S' := []) (sh' := mz_sh) (m' := m) (g := mz_inb a1 12100 && true) rfl rfl (mz_and2 (g1) (rfl)) ?_
  refine mz_go_if (fun c3 => ?_) (fun c3 => ?_)
  · have h4 := h2.1 c3
    exact h4
  · have h5 := h2.2 c3
    obtain ⟨g6, h7⟩ := h5
    refine mz_go_blk mz_m167 6 (pc' := (if (m 82 a1.toNatClampNeg) = 6 then 21 else 29)) (L' := [some (.ref 55), some (.int a1), none, none, none, none, none, none, none, none]) (S' := []) (sh' := mz_sh) (m' := m) (g := mz_inb a1 12100 && true) rfl rfl (mz_and2 (g6) (rfl)) ?_
    refine mz_go_if (fun c8 => ?_) (fun c8 => ?_)
    · have h9 := h7.1 c8
      exact h9
    · have h10 := h7.2 c8
      obtain ⟨g11, h12⟩ := h10
      refine mz_go_blk mz_m167 7 (pc' := (mz_tsw 37 290 0 19 #[95, 98, 118, 130, 167, 175, 196, 213, 240, 290, 290, 290, 290, 290, 290, 290, 290, 290, 248, 269] (m 82 a1.toNatClampNeg))) (L' := [some (.ref 55), some (.int a1), some (.int (-1)), none, none, none, none, none, none, none]) (S' := []) (sh' := mz_sh) (m' := m) (g := mz_inb a1 12100 && true) rfl rfl (mz_and2 (g11) (rfl)) ?_
      by_cases c14 : (m 82 a1.toNatClampNeg) = 0
      · have h13 := h12.1 c14
        rw [show mz_tsw 37 290 0 19 #[95, 98, 118, 130, 167, 175, 196, 213, 240, 290, 290, 290, 290, 290, 290, 290, 290, 290, 248, 269] (m 82 a1.toNatClampNeg) = 132 by rw [c14]; decide +kernel]
        refine mz_go_blk mz_m167 1 (pc' := 343) (L' := [some (.ref 55), some (.int a1), some (.int (-1)), none, none, none, none, none, none, none]) (S' := []) (sh' := mz_sh) (m' := m) (g := true) rfl rfl (rfl) ?_
        exact mz_go.forget (L := [some (.ref 55), none, none, none, none, none, none, none, none, none]) (mz_lel_cons rfl (mz_lel_cons trivial (mz_lel_cons trivial (mz_lel_cons trivial (mz_lel_cons trivial (mz_lel_cons trivial (mz_lel_cons trivial (mz_lel_cons trivial (mz_lel_cons trivial (mz_lel_cons trivial (mz_lel_nil))))))))))) h13
      have h15 := h12.2
      by_cases c17 : (m 82 a1.toNatClampNeg) = 1
      · have h16 := h15.1 c17
        rw [show mz_tsw 37 290 0 19 #[95, 98, 118, 130, 167, 175, 196, 213, 240, 290, 290, 290, 290, 290, 290, 290, 290, 290, 248, 269] (m 82 a1.toNatClampNeg) = 135 by rw [c17]; decide +kernel]
        obtain ⟨g18, g19, h20⟩ := h16
        refine mz_go_blk mz_m167 9 (pc' := 148) (L' := [some (.ref 55), some (.int a1), some (.int (-1)), none, none, none, none, none, none, none]) (S' := [.int (m 70 ((m 83 a1.toNatClampNeg).toNatClampNeg)), .int 2, .ref 55]) (sh' := mz_sh) (m' := m) (g := mz_inb (m 83 a1.toNatClampNeg) 4001 && (mz_inb a1 12100 && true)) rfl rfl (mz_and2 (g19) (mz_and2 (g18) (rfl))) ?_
        refine mz_go_call mz_m167 mz_m163 rfl rfl rfl rfl rfl rfl rfl h20 (fun v sh1 m21 hv => ?_)
        obtain ⟨r23, rfl, rfl, h22⟩ := hv
        refine mz_go_blk mz_m167 2 (pc' := 343) (L' := [some (.ref 55), some (.int a1), some (.int (-1)), some (.int r23), none, none, none, none, none, none]) (S' := []) (sh' := mz_sh) (m' := m21) (g := true) rfl rfl (rfl) ?_
        exact mz_go.forget (L := [some (.ref 55), none, none, none, none, none, none, none, none, none]) (mz_lel_cons rfl (mz_lel_cons trivial (mz_lel_cons trivial (mz_lel_cons trivial (mz_lel_cons trivial (mz_lel_cons trivial (mz_lel_cons trivial (mz_lel_cons trivial (mz_lel_cons trivial (mz_lel_cons trivial (mz_lel_nil))))))))))) h22
      have h24 := h15.2
      by_cases c26 : (m 82 a1.toNatClampNeg) = 2
      · have h25 := h24.1 c26
        rw [show mz_tsw 37 290 0 19 #[95, 98, 118, 130, 167, 175, 196, 213, 240, 290, 290, 290, 290, 290, 290, 290, 290, 290, 248, 269] (m 82 a1.toNatClampNeg) = 155 by rw [c26]; decide +kernel]
        refine mz_go_blk mz_m167 3 (pc' := 159) (L' := [some (.ref 55), some (.int a1), some (.int (-1)), none, none, none, none, none, none, none]) (S' := [.int 0, .int 15, .ref 55]) (sh' := mz_sh) (m' := m) (g := true) rfl rfl (rfl) ?_
        refine mz_go_call mz_m167 mz_m163 rfl rfl rfl rfl rfl rfl rfl h25 (fun v sh1 m27 hv => ?_)
        obtain ⟨r29, rfl, rfl, h28⟩ := hv
        refine mz_go_blk mz_m167 2 (pc' := 343) (L' := [some (.ref 55), some (.int a1), some (.int (-1)), none, some (.int r29), none, none, none, none, none]) (S' := []) (sh' := mz_sh) (m' := m27) (g := true) rfl rfl (rfl) ?_
        exact mz_go.forget (L := [some (.ref 55), none, none, none, none, none, none, none, none, none]) (mz_lel_cons rfl (mz_lel_cons trivial (mz_lel_cons trivial (mz_lel_cons trivial (mz_lel_cons trivial (mz_lel_cons trivial (mz_lel_cons trivial (mz_lel_cons trivial (mz_lel_cons trivial (mz_lel_cons trivial (mz_lel_nil))))))))))) h28
      have h30 := h24.2
      by_cases c32 : (m 82 a1.toNatClampNeg) = 3
      · have h31 := h30.1 c32
        rw [show mz_tsw 37 290 0 19 #[95, 98, 118, 130, 167, 175, 196, 213, 240, 290, 290, 290, 290, 290, 290, 290, 290, 290, 248, 269] (m 82 a1.toNatClampNeg) = 167 by rw [c32]; decide +kernel]
        obtain ⟨g33, h34⟩ := h31
        refine mz_go_blk mz_m167 8 (pc' := (if (m 84 a1.toNatClampNeg) = 3 then 181 else 190)) (L' := [some (.ref 55), some (.int a1), some (.int (-1)), none, none, none, none, none, none, none]) (S' := [.ref 91]) (sh' := mz_sh) (m' := m) (g := mz_inb a1 12100 && true) rfl rfl (mz_and2 (g33) (rfl)) ?_
        refine mz_go_if (fun c35 => ?_) (fun c35 => ?_)
        · have h36 := h34.1 c35
          obtain ⟨g37, g38, h39⟩ := h36
          refine mz_go_blk mz_m167 9 (pc' := 343) (L' := [some (.ref 55), some (.int a1), some (.int (-1)), none, none, none, none, none, none, none]) (S' := []) (sh' := mz_sh) (m' := mz_up m 91 ((m 95 a1.toNatClampNeg).toNatClampNeg) (m 55 47)) (g := mz_inb (m 95 a1.toNatClampNeg) 60100 && (mz_inb a1 12100 && true)) rfl rfl (mz_and2 (g38) (mz_and2 (g37) (rfl))) ?_
          exact mz_go.forget (L := [some (.ref 55), none, none, none, none, none, none, none, none, none]) (mz_lel_cons rfl (mz_lel_cons trivial (mz_lel_cons trivial (mz_lel_cons trivial (mz_lel_cons trivial (mz_lel_cons trivial (mz_lel_cons trivial (mz_lel_cons trivial (mz_lel_cons trivial (mz_lel_cons trivial (mz_lel_nil))))))))))) h39
        · have h40 := h34.2 c35
          obtain ⟨g41, g42, h43⟩ := h40
          refine mz_go_blk mz_m167 8 (pc' := 343) (L' := [some (.ref 55), some (.int a1), some (.int (-1)), none, none, none, none, none, none, none]) (S' := []) (sh' := mz_sh) (m' := mz_up m 91 ((m 94 a1.toNatClampNeg).toNatClampNeg) (m 55 47)) (g := mz_inb (m 94 a1.toNatClampNeg) 60100 && (mz_inb a1 12100 && true)) rfl rfl (mz_and2 (g42) (mz_and2 (g41) (rfl))) ?_
          exact mz_go.forget (L := [some (.ref 55), none, none, none, none, none, none, none, none, none]) (mz_lel_cons rfl (mz_lel_cons trivial (mz_lel_cons trivial (mz_lel_cons trivial (mz_lel_cons trivial (mz_lel_cons trivial (mz_lel_cons trivial (mz_lel_cons trivial (mz_lel_cons trivial (mz_lel_cons trivial (mz_lel_nil))))))))))) h43
      have h44 := h30.2
      by_cases c46 : (m 82 a1.toNatClampNeg) = 4
      · have h45 := h44.1 c46
        rw [show mz_tsw 37 290 0 19 #[95, 98, 118, 130, 167, 175, 196, 213, 240, 290, 290, 290, 290, 290, 290, 290, 290, 290, 248, 269] (m 82 a1.toNatClampNeg) = 204 by rw [c46]; decide +kernel]
        refine mz_go_blk mz_m167 2 (pc' := 206) (L' := [some (.ref 55), some (.int a1), some (.int (-1)), none, none, none, none, none, none, none]) (S' := [.int a1, .ref 55]) (sh' := mz_sh) (m' := m) (g := true) rfl rfl (rfl) ?_
        refine mz_go_call mz_m167 mz_m165 rfl rfl rfl rfl rfl rfl rfl h45 (fun v sh1 m47 hv => ?_)
        obtain ⟨rfl, rfl, h48⟩ := hv
        refine mz_go_blk mz_m167 1 (pc' := 343) (L' := [some (.ref 55), some (.int a1), some (.int (-1)), none, none, none, none, none, none, none]) (S' := []) (sh' := mz_sh) (m' := m47) (g := true) rfl rfl (rfl) ?_
        exact mz_go.forget (L := [some (.ref 55), none, none, none, none, none, none, none, none, none]) (mz_lel_cons rfl (mz_lel_cons trivial (mz_lel_cons trivial (mz_lel_cons trivial (mz_lel_cons trivial (mz_lel_cons trivial (mz_lel_cons trivial (mz_lel_cons trivial (mz_lel_cons trivial (mz_lel_cons trivial (mz_lel_nil))))))))))) h48
      have h49 := h44.2
      by_cases c51 : (m 82 a1.toNatClampNeg) = 5
      · have h50 := h49.1 c51
        rw [show mz_tsw 37 290 0 19 #[95, 98, 118, 130, 167, 175, 196, 213, 240, 290, 290, 290, 290, 290, 290, 290, 290, 290, 248, 269] (m 82 a1.toNatClampNeg) = 212 by rw [c51]; decide +kernel]
        obtain ⟨g52, h53⟩ := h50
        refine mz_go_blk mz_m167 9 (pc' := 226) (L' := [some (.ref 55), some (.int a1), some (.int (-1)), none, none, none, none, none, none, none]) (S' := [.int (m 93 ((-1 : Int32).toNatClampNeg)), .int 13, .ref 55, .int (-1), .ref 93]) (sh' := mz_sh) (m' := m) (g := mz_inb (-1) 12100 && true) rfl rfl (mz_and2 (g52) (rfl)) ?_
        refine mz_go_call mz_m167 mz_m163 rfl rfl rfl rfl rfl rfl rfl h53 (fun v sh1 m54 hv => ?_)
        obtain ⟨r56, rfl, rfl, h55⟩ := hv
        obtain ⟨g57, h58⟩ := h55
        refine mz_go_blk mz_m167 2 (pc' := 343) (L' := [some (.ref 55), some (.int a1), some (.int (-1)), none, none, none, none, none, none, none]) (S' := []) (sh' := mz_sh) (m' := mz_up m54 93 ((-1 : Int32).toNatClampNeg) r56) (g := mz_inb (-1) 12100 && true) rfl rfl (mz_and2 (g57) (rfl)) ?_
        exact mz_go.forget (L := [some (.ref 55), none, none, none, none, none, none, none, none, none]) (mz_lel_cons rfl (mz_lel_cons trivial (mz_lel_cons trivial (mz_lel_cons trivial (mz_lel_cons trivial (mz_lel_cons trivial (mz_lel_cons trivial (mz_lel_cons trivial (mz_lel_cons trivial (mz_lel_cons trivial (mz_lel_nil))))))))))) h58
      have h59 := h49.2
      by_cases c61 : (m 82 a1.toNatClampNeg) = 6
      · have h60 := h59.1 c61
        rw [show mz_tsw 37 290 0 19 #[95, 98, 118, 130, 167, 175, 196, 213, 240, 290, 290, 290, 290, 290, 290, 290, 290, 290, 248, 269] (m 82 a1.toNatClampNeg) = 233 by rw [c61]; decide +kernel]
        obtain ⟨g62, h63⟩ := h60
        refine mz_go_blk mz_m167 6 (pc' := 242) (L' := [some (.ref 55), some (.int a1), some (.int (-1)), none, none, none, none, none, none, none]) (S' := [.int (m 95 ((-1 : Int32).toNatClampNeg)), .int 13, .ref 55]) (sh' := mz_sh) (m' := m) (g := mz_inb (-1) 12100 && true) rfl rfl (mz_and2 (g62) (rfl)) ?_
        refine mz_go_call mz_m167 mz_m163 rfl rfl rfl rfl rfl rfl rfl h63 (fun v sh1 m64 hv => ?_)
        obtain ⟨r66, rfl, rfl, h65⟩ := hv
        refine mz_go_blk mz_m167 2 (pc' := 343) (L' := [some (.ref 55), some (.int a1), some (.int (-1)), none, none, some (.int r66), none, none, none, none]) (S' := []) (sh' := mz_sh) (m' := m64) (g := true) rfl rfl (rfl) ?_
        exact mz_go.forget (L := [some (.ref 55), none, none, none, none, none, none, none, none, none]) (mz_lel_cons rfl (mz_lel_cons trivial (mz_lel_cons trivial (mz_lel_cons trivial (mz_lel_cons trivial (mz_lel_cons trivial (mz_lel_cons trivial (mz_lel_cons trivial (mz_lel_cons trivial (mz_lel_cons trivial (mz_lel_nil))))))))))) h65
      have h67 := h59.2
      by_cases c69 : (m 82 a1.toNatClampNeg) = 7
      · have h68 := h67.1 c69
        rw [show mz_tsw 37 290 0 19 #[95, 98, 118, 130, 167, 175, 196, 213, 240, 290, 290, 290, 290, 290, 290, 290, 290, 290, 248, 269] (m 82 a1.toNatClampNeg) = 250 by rw [c69]; decide +kernel]
        refine mz_go_blk mz_m167 3 (pc' := 254) (L' := [some (.ref 55), some (.int a1), some (.int (-1)), none, none, none, none, none, none, none]) (S' := [.int 0, .int 12, .ref 55]) (sh' := mz_sh) (m' := m) (g := true) rfl rfl (rfl) ?_
        refine mz_go_call mz_m167 mz_m163 rfl rfl rfl rfl rfl rfl rfl h68 (fun v sh1 m70 hv => ?_)
        obtain ⟨r72, rfl, rfl, h71⟩ := hv
        obtain ⟨g73, g74, h75⟩ := h71
        refine mz_go_blk mz_m167 11 (pc' := 343) (L' := [some (.ref 55), some (.int a1), some (.int (-1)), none, none, none, some (.int r72), none, none, none]) (S' := []) (sh' := mz_sh) (m' := mz_up m70 91 ((m70 94 a1.toNatClampNeg).toNatClampNeg) (m70 55 47)) (g := mz_inb (m70 94 a1.toNatClampNeg) 60100 && (mz_inb a1 12100 && true)) rfl rfl (mz_and2 (g74) (mz_and2 (g73) (rfl))) ?_
        exact mz_go.forget (L := [some (.ref 55), none, none, none, none, none, none, none, none, none]) (mz_lel_cons rfl (mz_lel_cons trivial (mz_lel_cons trivial (mz_lel_cons trivial (mz_lel_cons trivial (mz_lel_cons trivial (mz_lel_cons trivial (mz_lel_cons trivial (mz_lel_cons trivial (mz_lel_cons trivial (mz_lel_nil))))))))))) h75
      have h76 := h67.2
      by_cases c78 : (m 82 a1.toNatClampNeg) = 8
      · have h77 := h76.1 c78
        rw [show mz_tsw 37 290 0 19 #[95, 98, 118, 130, 167, 175, 196, 213, 240, 290, 290, 290, 290, 290, 290, 290, 290, 290, 248, 269] (m 82 a1.toNatClampNeg) = 277 by rw [c78]; decide +kernel]
        refine mz_go_blk mz_m167 2 (pc' := 279) (L' := [some (.ref 55), some (.int a1), some (.int (-1)), none, none, none, none, none, none, none]) (S' := [.int a1, .ref 55]) (sh' := mz_sh) (m' := m) (g := true) rfl rfl (rfl) ?_
        refine mz_go_call mz_m167 mz_m166 rfl rfl rfl rfl rfl rfl rfl h77 (fun v sh1 m79 hv => ?_)
        obtain ⟨rfl, rfl, h80⟩ := hv
        refine mz_go_blk mz_m167 1 (pc' := 343) (L' := [some (.ref 55), some (.int a1), some (.int (-1)), none, none, none, none, none, none, none]) (S' := []) (sh' := mz_sh) (m' := m79) (g := true) rfl rfl (rfl) ?_
        exact mz_go.forget (L := [some (.ref 55), none, none, none, none, none, none, none, none, none]) (mz_lel_cons rfl (mz_lel_cons trivial (mz_lel_cons trivial (mz_lel_cons trivial (mz_lel_cons trivial (mz_lel_cons trivial (mz_lel_cons trivial (mz_lel_cons trivial (mz_lel_cons trivial (mz_lel_cons trivial (mz_lel_nil))))))))))) h80
      have h81 := h76.2
      by_cases c83 : (m 82 a1.toNatClampNeg) = 18
      · have h82 := h81.1 c83
        rw [show mz_tsw 37 290 0 19 #[95, 98, 118, 130, 167, 175, 196, 213, 240, 290, 290, 290, 290, 290, 290, 290, 290, 290, 248, 269] (m 82 a1.toNatClampNeg) = 285 by rw [c83]; decide +kernel]
        obtain ⟨g84, g85, h86⟩ := h82
        refine mz_go_blk mz_m167 9 (pc' := 298) (L' := [some (.ref 55), some (.int a1), some (.int (-1)), none, none, none, none, none, none, none]) (S' := [.int (m 70 ((m 83 a1.toNatClampNeg).toNatClampNeg)), .int 1, .ref 55]) (sh' := mz_sh) (m' := m) (g := mz_inb (m 83 a1.toNatClampNeg) 4001 && (mz_inb a1 12100 && true)) rfl rfl (mz_and2 (g85) (mz_and2 (g84) (rfl))) ?_
        refine mz_go_call mz_m167 mz_m163 rfl rfl rfl rfl rfl rfl rfl h86 (fun v sh1 m87 hv => ?_)
        obtain ⟨r89, rfl, rfl, h88⟩ := hv
        refine mz_go_blk mz_m167 2 (pc' := 343) (L' := [some (.ref 55), some (.int a1), some (.int (-1)), none, none, none, none, some (.int r89), none, none]) (S' := []) (sh' := mz_sh) (m' := m87) (g := true) rfl rfl (rfl) ?_
        exact mz_go.forget (L := [some (.ref 55), none, none, none, none, none, none, none, none, none]) (mz_lel_cons rfl (mz_lel_cons trivial (mz_lel_cons trivial (mz_lel_cons trivial (mz_lel_cons trivial (mz_lel_cons trivial (mz_lel_cons trivial (mz_lel_cons trivial (mz_lel_cons trivial (mz_lel_cons trivial (mz_lel_nil))))))))))) h88
      have h90 := h81.2
      by_cases c92 : (m 82 a1.toNatClampNeg) = 19
      · have h91 := h90.1 c92
        rw [show mz_tsw 37 290 0 19 #[95, 98, 118, 130, 167, 175, 196, 213, 240, 290, 290, 290, 290, 290, 290, 290, 290, 290, 248, 269] (m 82 a1.toNatClampNeg) = 306 by rw [c92]; decide +kernel]
        obtain ⟨g93, g94, h95⟩ := h91
        refine mz_go_blk mz_m167 9 (pc' := 319) (L' := [some (.ref 55), some (.int a1), some (.int (-1)), none, none, none, none, none, none, none]) (S' := [.int (m 70 ((m 83 a1.toNatClampNeg).toNatClampNeg)), .int 0, .ref 55]) (sh' := mz_sh) (m' := m) (g := mz_inb (m 83 a1.toNatClampNeg) 4001 && (mz_inb a1 12100 && true)) rfl rfl (mz_and2 (g94) (mz_and2 (g93) (rfl))) ?_
        refine mz_go_call mz_m167 mz_m163 rfl rfl rfl rfl rfl rfl rfl h95 (fun v sh1 m96 hv => ?_)
        obtain ⟨r98, rfl, rfl, h97⟩ := hv
        refine mz_go_blk mz_m167 2 (pc' := 343) (L' := [some (.ref 55), some (.int a1), some (.int (-1)), none, none, none, none, none, some (.int r98), none]) (S' := []) (sh' := mz_sh) (m' := m96) (g := true) rfl rfl (rfl) ?_
        exact mz_go.forget (L := [some (.ref 55), none, none, none, none, none, none, none, none, none]) (mz_lel_cons rfl (mz_lel_cons trivial (mz_lel_cons trivial (mz_lel_cons trivial (mz_lel_cons trivial (mz_lel_cons trivial (mz_lel_cons trivial (mz_lel_cons trivial (mz_lel_cons trivial (mz_lel_cons trivial (mz_lel_nil))))))))))) h97
      have h99 := h90.2
      have h99d := h99 c14 c17 c26 c32 c46 c51 c61 c69 c78 c83 c92
      rw [show mz_tsw 37 290 0 19 #[95, 98, 118, 130, 167, 175, 196, 213, 240, 290, 290, 290, 290, 290, 290, 290, 290, 290, 248, 269] (m 82 a1.toNatClampNeg) = 327 from (by
        refine mz_tswd _ _ _ _ _ (m 82 a1.toNatClampNeg) 327 (by decide +kernel) (fun k hk z => ?_)
        match k, hk, z with
        | 0, _, z => exact absurd (mz_tI (by rw [z]; decide +kernel)) c14
        | 1, _, z => exact absurd (mz_tI (by rw [z]; decide +kernel)) c17
        | 2, _, z => exact absurd (mz_tI (by rw [z]; decide +kernel)) c26
        | 3, _, z => exact absurd (mz_tI (by rw [z]; decide +kernel)) c32
        | 4, _, z => exact absurd (mz_tI (by rw [z]; decide +kernel)) c46
        | 5, _, z => exact absurd (mz_tI (by rw [z]; decide +kernel)) c51
        | 6, _, z => exact absurd (mz_tI (by rw [z]; decide +kernel)) c61
        | 7, _, z => exact absurd (mz_tI (by rw [z]; decide +kernel)) c69
        | 8, _, z => exact absurd (mz_tI (by rw [z]; decide +kernel)) c78
        | 9, _, z => decide +kernel
        | 10, _, z => decide +kernel
        | 11, _, z => decide +kernel
        | 12, _, z => decide +kernel
        | 13, _, z => decide +kernel
        | 14, _, z => decide +kernel
        | 15, _, z => decide +kernel
        | 16, _, z => decide +kernel
        | 17, _, z => decide +kernel
        | 18, _, z => exact absurd (mz_tI (by rw [z]; decide +kernel)) c83
        | 19, _, z => exact absurd (mz_tI (by rw [z]; decide +kernel)) c92
        | k + 20, hk, _ => exact absurd hk (by simp only [Array.size]; simp)
      )]
      obtain ⟨g100, h101⟩ := h99d
      refine mz_go_blk mz_m167 5 (pc' := 334) (L' := [some (.ref 55), some (.int a1), some (.int (-1)), none, none, none, none, none, none, none]) (S' := [.int (m 82 a1.toNatClampNeg), .ref 55]) (sh' := mz_sh) (m' := m) (g := mz_inb a1 12100 && true) rfl rfl (mz_and2 (g100) (rfl)) ?_
      refine mz_go_call mz_m167 mz_m168 rfl rfl rfl rfl rfl rfl rfl h101 (fun v sh1 m102 hv => ?_)
      obtain ⟨r104, rfl, rfl, h103⟩ := hv
      refine mz_go_blk mz_m167 1 (pc' := 338) (L' := [some (.ref 55), some (.int a1), some (.int (-1)), none, none, none, none, none, none, none]) (S' := [.int 0, .int r104, .ref 55]) (sh' := mz_sh) (m' := m102) (g := true) rfl rfl (rfl) ?_
      refine mz_go_call mz_m167 mz_m163 rfl rfl rfl rfl rfl rfl rfl h103 (fun v sh1 m105 hv => ?_)
      obtain ⟨r107, rfl, rfl, h106⟩ := hv
      refine mz_go_blk mz_m167 1 (pc' := 343) (L' := [some (.ref 55), some (.int a1), some (.int (-1)), none, none, none, none, none, none, some (.int r107)]) (S' := []) (sh' := mz_sh) (m' := m105) (g := true) rfl rfl (rfl) ?_
      exact mz_go.forget (L := [some (.ref 55), none, none, none, none, none, none, none, none, none]) (mz_lel_cons rfl (mz_lel_cons trivial (mz_lel_cons trivial (mz_lel_cons trivial (mz_lel_cons trivial (mz_lel_cons trivial (mz_lel_cons trivial (mz_lel_cons trivial (mz_lel_cons trivial (mz_lel_cons trivial (mz_lel_nil))))))))))) h106
set_option maxRecDepth 100000 in
theorem t_M_leave_1 {X : mz_X} {m : mz_M} {Q : mz_M → Prop} (l1 : Int32)
    (h : mz_gi X mz_sh 158 0 [some (.ref 55), some (.int l1), none] m (fun r3 m1 => mz_inb l1 12100 = true ∧ (((m1 82 l1.toNatClampNeg) = 0 → mz_gv X mz_sh 167 343 [some (.ref 55), none, none, none, none, none, none, none, none, none] m1 Q) ∧ ((m1 82 l1.toNatClampNeg) = 1 → mz_inb l1 12100 = true ∧ mz_inb (m1 83 l1.toNatClampNeg) 4001 = true ∧ mz_gi X mz_sh 163 0 [some (.ref 55), some (.int 2), some (.int (m1 70 ((m1 83 l1.toNatClampNeg).toNatClampNeg)))] m1 (fun r16 m14 => mz_gv X mz_sh 167 343 [some (.ref 55), none, none, none, none, none, none, none, none, none] m14 Q)) ∧ ((m1 82 l1.toNatClampNeg) = 2 → mz_gi X mz_sh 163 0 [some (.ref 55), some (.int 15), some (.int 0)] m1 (fun r22 m20 => mz_gv X mz_sh 167 343 [some (.ref 55), none, none, none, none, none, none, none, none, none] m20 Q)) ∧ ((m1 82 l1.toNatClampNeg) = 3 → mz_inb l1 12100 = true ∧ (((m1 84 l1.toNatClampNeg) = 3 → mz_inb l1 12100 = true ∧ mz_inb (m1 95 l1.toNatClampNeg) 60100 = true ∧ mz_gv X mz_sh 167 343 [some (.ref 55), none, none, none, none, none, none, none, none, none] (mz_up m1 91 ((m1 95 l1.toNatClampNeg).toNatClampNeg) (m1 55 47)) Q) ∧ (¬ ((m1 84 l1.toNatClampNeg) = 3) → mz_inb l1 12100 = true ∧ mz_inb (m1 94 l1.toNatClampNeg) 60100 = true ∧ mz_gv X mz_sh 167 343 [some (.ref 55), none, none, none, none, none, none, none, none, none] (mz_up m1 91 ((m1 94 l1.toNatClampNeg).toNatClampNeg) (m1 55 47)) Q))) ∧ ((m1 82 l1.toNatClampNeg) = 4 → mz_gv X mz_sh 165 0 [some (.ref 55), some (.int l1), none, none, none] m1 (fun m40 => mz_gv X mz_sh 167 343 [some (.ref 55), none, none, none, none, none, none, none, none, none] m40 Q)) ∧ ((m1 82 l1.toNatClampNeg) = 5 → mz_inb r3 12100 = true ∧ mz_gi X mz_sh 163 0 [some (.ref 55), some (.int 13), some (.int (m1 93 r3.toNatClampNeg))] m1 (fun r49 m47 => mz_inb r3 12100 = true ∧ mz_gv X mz_sh 167 343 [some (.ref 55), none, none, none, none, none, none, none, none, none] (mz_up m47 93 r3.toNatClampNeg r49) Q)) ∧ ((m1 82 l1.toNatClampNeg) = 6 → mz_inb r3 12100 = true ∧ mz_gi X mz_sh 163 0 [some (.ref 55), some (.int 13), some (.int (m1 95 r3.toNatClampNeg))] m1 (fun r59 m57 => mz_gv X mz_sh 167 343 [some (.ref 55), none, none, none, none, none, none, none, none, none] m57 Q)) ∧ ((m1 82 l1.toNatClampNeg) = 7 → mz_gi X mz_sh 163 0 [some (.ref 55), some (.int 12), some (.int 0)] m1 (fun r65 m63 => mz_inb l1 12100 = true ∧ mz_inb (m63 94 l1.toNatClampNeg) 60100 = true ∧ mz_gv X mz_sh 167 343 [some (.ref 55), none, none, none, none, none, none, none, none, none] (mz_up m63 91 ((m63 94 l1.toNatClampNeg).toNatClampNeg) (m63 55 47)) Q)) ∧ ((m1 82 l1.toNatClampNeg) = 8 → mz_gv X mz_sh 166 0 [some (.ref 55), some (.int l1), none, none, none] m1 (fun m72 => mz_gv X mz_sh 167 343 [some (.ref 55), none, none, none, none, none, none, none, none, none] m72 Q)) ∧ ((m1 82 l1.toNatClampNeg) = 18 → mz_inb l1 12100 = true ∧ mz_inb (m1 83 l1.toNatClampNeg) 4001 = true ∧ mz_gi X mz_sh 163 0 [some (.ref 55), some (.int 1), some (.int (m1 70 ((m1 83 l1.toNatClampNeg).toNatClampNeg)))] m1 (fun r82 m80 => mz_gv X mz_sh 167 343 [some (.ref 55), none, none, none, none, none, none, none, none, none] m80 Q)) ∧ ((m1 82 l1.toNatClampNeg) = 19 → mz_inb l1 12100 = true ∧ mz_inb (m1 83 l1.toNatClampNeg) 4001 = true ∧ mz_gi X mz_sh 163 0 [some (.ref 55), some (.int 0), some (.int (m1 70 ((m1 83 l1.toNatClampNeg).toNatClampNeg)))] m1 (fun r91 m89 => mz_gv X mz_sh 167 343 [some (.ref 55), none, none, none, none, none, none, none, none, none] m89 Q)) ∧ (¬ (m1 82 l1.toNatClampNeg) = 0 → ¬ (m1 82 l1.toNatClampNeg) = 1 → ¬ (m1 82 l1.toNatClampNeg) = 2 → ¬ (m1 82 l1.toNatClampNeg) = 3 → ¬ (m1 82 l1.toNatClampNeg) = 4 → ¬ (m1 82 l1.toNatClampNeg) = 5 → ¬ (m1 82 l1.toNatClampNeg) = 6 → ¬ (m1 82 l1.toNatClampNeg) = 7 → ¬ (m1 82 l1.toNatClampNeg) = 8 → ¬ (m1 82 l1.toNatClampNeg) = 18 → ¬ (m1 82 l1.toNatClampNeg) = 19 → mz_inb l1 12100 = true ∧ mz_gi X mz_sh 168 0 [some (.int (m1 82 l1.toNatClampNeg))] m1 (fun r97 m95 => mz_gi X mz_sh 163 0 [some (.ref 55), some (.int r97), some (.int 0)] m95 (fun r100 m98 => mz_gv X mz_sh 167 343 [some (.ref 55), none, none, none, none, none, none, none, none, none] m98 Q)))))) :
    mz_gv X mz_sh 167 21 [some (.ref 55), some (.int l1), none, none, none, none, none, none, none, none] m Q := by
  refine mz_go_blk mz_m167 2 (pc' := 23) (L' := [some (.ref 55), some (.int l1), none, none, none, none, none, none, none, none]) (S' := [.int l1, .ref 55]) (sh' := mz_sh) (m' := m) (g := true) rfl rfl (rfl) ?_
  refine mz_go_call mz_m167 mz_m158 rfl rfl rfl rfl rfl rfl rfl h (fun v sh1 m1 hv => ?_)
  obtain ⟨r3, rfl, rfl, h2⟩ := hv
  obtain ⟨g4, h5⟩ := h2
  refine mz_go_blk mz_m167 7 (pc' := (mz_tsw 37 290 0 19 #[95, 98, 118, 130, 167, 175, 196, 213, 240, 290, 290, 290, 290, 290, 290, 290, 290, 290, 248, 269] (m1 82 l1.toNatClampNeg))) (L' := [some (.ref 55), some (.int l1), some (.int r3), none, none, none, none, none, none, none]) (S' := []) (sh' := mz_sh) (m' := m1) (g := mz_inb l1 12100 && true) rfl rfl (mz_and2 (g4) (rfl)) ?_
  by_cases c7 : (m1 82 l1.toNatClampNeg) = 0
  · have h6 := h5.1 c7
    rw [show mz_tsw 37 290 0 19 #[95, 98, 118, 130, 167, 175, 196, 213, 240, 290, 290, 290, 290, 290, 290, 290, 290, 290, 248, 269] (m1 82 l1.toNatClampNeg) = 132 by rw [c7]; decide +kernel]
    refine mz_go_blk mz_m167 1 (pc' := 343) (L' := [some (.ref 55), some (.int l1), some (.int r3), none, none, none, none, none, none, none]) (S' := []) (sh' := mz_sh) (m' := m1) (g := true) rfl rfl (rfl) ?_
    exact mz_go.forget (L := [some (.ref 55), none, none, none, none, none, none, none, none, none]) (mz_lel_cons rfl (mz_lel_cons trivial (mz_lel_cons trivial (mz_lel_cons trivial (mz_lel_cons trivial (mz_lel_cons trivial (mz_lel_cons trivial (mz_lel_cons trivial (mz_lel_cons trivial (mz_lel_cons trivial (mz_lel_nil))))))))))) h6
  have h8 := h5.2
  by_cases c10 : (m1 82 l1.toNatClampNeg) = 1
  · have h9 := h8.1 c10
    rw [show mz_tsw 37 290 0 19 #[95, 98, 118, 130, 167, 175, 196, 213, 240, 290, 290, 290, 290, 290, 290, 290, 290, 290, 248, 269] (m1 82 l1.toNatClampNeg) = 135 by rw [c10]; decide +kernel]
    obtain ⟨g11, g12, h13⟩ := h9
    refine mz_go_blk mz_m167 9 (pc' := 148) (L' := [some (.ref 55), some (.int l1), some (.int r3), none, none, none, none, none, none, none]) (S' := [.int (m1 70 ((m1 83 l1.toNatClampNeg).toNatClampNeg)), .int 2, .ref 55]) (sh' := mz_sh) (m' := m1) (g := mz_inb (m1 83 l1.toNatClampNeg) 4001 && (mz_inb l1 12100 && true)) rfl rfl (mz_and2 (g12) (mz_and2 (g11) (rfl))) ?_
    refine mz_go_call mz_m167 mz_m163 rfl rfl rfl rfl rfl rfl rfl h13 (fun v sh1 m14 hv => ?_)
    obtain ⟨r16, rfl, rfl, h15⟩ := hv
    refine mz_go_blk mz_m167 2 (pc' := 343) (L' := [some (.ref 55), some (.int l1), some (.int r3), some (.int r16), none, none, none, none, none, none]) (S' := []) (sh' := mz_sh) (m' := m14) (g := true) rfl rfl (rfl) ?_
    exact mz_go.forget (L := [some (.ref 55), none, none, none, none, none, none, none, none, none]) (mz_lel_cons rfl (mz_lel_cons trivial (mz_lel_cons trivial (mz_lel_cons trivial (mz_lel_cons trivial (mz_lel_cons trivial (mz_lel_cons trivial (mz_lel_cons trivial (mz_lel_cons trivial (mz_lel_cons trivial (mz_lel_nil))))))))))) h15
  have h17 := h8.2
  by_cases c19 : (m1 82 l1.toNatClampNeg) = 2
  · have h18 := h17.1 c19
    rw [show mz_tsw 37 290 0 19 #[95, 98, 118, 130, 167, 175, 196, 213, 240, 290, 290, 290, 290, 290, 290, 290, 290, 290, 248, 269] (m1 82 l1.toNatClampNeg) = 155 by rw [c19]; decide +kernel]
    refine mz_go_blk mz_m167 3 (pc' := 159) (L' := [some (.ref 55), some (.int l1), some (.int r3), none, none, none, none, none, none, none]) (S' := [.int 0, .int 15, .ref 55]) (sh' := mz_sh) (m' := m1) (g := true) rfl rfl (rfl) ?_
    refine mz_go_call mz_m167 mz_m163 rfl rfl rfl rfl rfl rfl rfl h18 (fun v sh1 m20 hv => ?_)
    obtain ⟨r22, rfl, rfl, h21⟩ := hv
    refine mz_go_blk mz_m167 2 (pc' := 343) (L' := [some (.ref 55), some (.int l1), some (.int r3), none, some (.int r22), none, none, none, none, none]) (S' := []) (sh' := mz_sh) (m' := m20) (g := true) rfl rfl (rfl) ?_
    exact mz_go.forget (L := [some (.ref 55), none, none, none, none, none, none, none, none, none]) (mz_lel_cons rfl (mz_lel_cons trivial (mz_lel_cons trivial (mz_lel_cons trivial (mz_lel_cons trivial (mz_lel_cons trivial (mz_lel_cons trivial (mz_lel_cons trivial (mz_lel_cons trivial (mz_lel_cons trivial (mz_lel_nil))))))))))) h21
  have h23 := h17.2
  by_cases c25 : (m1 82 l1.toNatClampNeg) = 3
  · have h24 := h23.1 c25
    rw [show mz_tsw 37 290 0 19 #[95, 98, 118, 130, 167, 175, 196, 213, 240, 290, 290, 290, 290, 290, 290, 290, 290, 290, 248, 269] (m1 82 l1.toNatClampNeg) = 167 by rw [c25]; decide +kernel]
    obtain ⟨g26, h27⟩ := h24
    refine mz_go_blk mz_m167 8 (pc' := (if (m1 84 l1.toNatClampNeg) = 3 then 181 else 190)) (L' := [some (.ref 55), some (.int l1), some (.int r3), none, none, none, none, none, none, none]) (S' := [.ref 91]) (sh' := mz_sh) (m' := m1) (g := mz_inb l1 12100 && true) rfl rfl (mz_and2 (g26) (rfl)) ?_
    refine mz_go_if (fun c28 => ?_) (fun c28 => ?_)
    · have h29 := h27.1 c28
      obtain ⟨g30, g31, h32⟩ := h29
      refine mz_go_blk mz_m167 9 (pc' := 343) (L' := [some (.ref 55), some (.int l1), some (.int r3), none, none, none, none, none, none, none]) (S' := []) (sh' := mz_sh) (m' := mz_up m1 91 ((m1 95 l1.toNatClampNeg).toNatClampNeg) (m1 55 47)) (g := mz_inb (m1 95 l1.toNatClampNeg) 60100 && (mz_inb l1 12100 && true)) rfl rfl (mz_and2 (g31) (mz_and2 (g30) (rfl))) ?_
      exact mz_go.forget (L := [some (.ref 55), none, none, none, none, none, none, none, none, none]) (mz_lel_cons rfl (mz_lel_cons trivial (mz_lel_cons trivial (mz_lel_cons trivial (mz_lel_cons trivial (mz_lel_cons trivial (mz_lel_cons trivial (mz_lel_cons trivial (mz_lel_cons trivial (mz_lel_cons trivial (mz_lel_nil))))))))))) h32
    · have h33 := h27.2 c28
      obtain ⟨g34, g35, h36⟩ := h33
      refine mz_go_blk mz_m167 8 (pc' := 343) (L' := [some (.ref 55), some (.int l1), some (.int r3), none, none, none, none, none, none, none]) (S' := []) (sh' := mz_sh) (m' := mz_up m1 91 ((m1 94 l1.toNatClampNeg).toNatClampNeg) (m1 55 47)) (g := mz_inb (m1 94 l1.toNatClampNeg) 60100 && (mz_inb l1 12100 && true)) rfl rfl (mz_and2 (g35) (mz_and2 (g34) (rfl))) ?_
      exact mz_go.forget (L := [some (.ref 55), none, none, none, none, none, none, none, none, none]) (mz_lel_cons rfl (mz_lel_cons trivial (mz_lel_cons trivial (mz_lel_cons trivial (mz_lel_cons trivial (mz_lel_cons trivial (mz_lel_cons trivial (mz_lel_cons trivial (mz_lel_cons trivial (mz_lel_cons trivial (mz_lel_nil))))))))))) h36
  have h37 := h23.2
  by_cases c39 : (m1 82 l1.toNatClampNeg) = 4
  · have h38 := h37.1 c39
    rw [show mz_tsw 37 290 0 19 #[95, 98, 118, 130, 167, 175, 196, 213, 240, 290, 290, 290, 290, 290, 290, 290, 290, 290, 248, 269] (m1 82 l1.toNatClampNeg) = 204 by rw [c39]; decide +kernel]
    refine mz_go_blk mz_m167 2 (pc' := 206) (L' := [some (.ref 55), some (.int l1), some (.int r3), none, none, none, none, none, none, none]) (S' := [.int l1, .ref 55]) (sh' := mz_sh) (m' := m1) (g := true) rfl rfl (rfl) ?_
    refine mz_go_call mz_m167 mz_m165 rfl rfl rfl rfl rfl rfl rfl h38 (fun v sh1 m40 hv => ?_)
    obtain ⟨rfl, rfl, h41⟩ := hv
    refine mz_go_blk mz_m167 1 (pc' := 343) (L' := [some (.ref 55), some (.int l1), some (.int r3), none, none, none, none, none, none, none]) (S' := []) (sh' := mz_sh) (m' := m40) (g := true) rfl rfl (rfl) ?_
    exact mz_go.forget (L := [some (.ref 55), none, none, none, none, none, none, none, none, none]) (mz_lel_cons rfl (mz_lel_cons trivial (mz_lel_cons trivial (mz_lel_cons trivial (mz_lel_cons trivial (mz_lel_cons trivial (mz_lel_cons trivial (mz_lel_cons trivial (mz_lel_cons trivial (mz_lel_cons trivial (mz_lel_nil))))))))))) h41
  have h42 := h37.2
  by_cases c44 : (m1 82 l1.toNatClampNeg) = 5
  · have h43 := h42.1 c44
    rw [show mz_tsw 37 290 0 19 #[95, 98, 118, 130, 167, 175, 196, 213, 240, 290, 290, 290, 290, 290, 290, 290, 290, 290, 248, 269] (m1 82 l1.toNatClampNeg) = 212 by rw [c44]; decide +kernel]
    obtain ⟨g45, h46⟩ := h43
    refine mz_go_blk mz_m167 9 (pc' := 226) (L' := [some (.ref 55), some (.int l1), some (.int r3), none, none, none, none, none, none, none]) (S' := [.int (m1 93 r3.toNatClampNeg), .int 13, .ref 55, .int r3, .ref 93]) (sh' := mz_sh) (m' := m1) (g := mz_inb r3 12100 && true) rfl rfl (mz_and2 (g45) (rfl)) ?_
    refine mz_go_call mz_m167 mz_m163 rfl rfl rfl rfl rfl rfl rfl h46 (fun v sh1 m47 hv => ?_)
    obtain ⟨r49, rfl, rfl, h48⟩ := hv
    obtain ⟨g50, h51⟩ := h48
    refine mz_go_blk mz_m167 2 (pc' := 343) (L' := [some (.ref 55), some (.int l1), some (.int r3), none, none, none, none, none, none, none]) (S' := []) (sh' := mz_sh) (m' := mz_up m47 93 r3.toNatClampNeg r49) (g := mz_inb r3 12100 && true) rfl rfl (mz_and2 (g50) (rfl)) ?_
    exact mz_go.forget (L := [some (.ref 55), none, none, none, none, none, none, none, none, none]) (mz_lel_cons rfl (mz_lel_cons trivial (mz_lel_cons trivial (mz_lel_cons trivial (mz_lel_cons trivial (mz_lel_cons trivial (mz_lel_cons trivial (mz_lel_cons trivial (mz_lel_cons trivial (mz_lel_cons trivial (mz_lel_nil))))))))))) h51
  have h52 := h42.2
  by_cases c54 : (m1 82 l1.toNatClampNeg) = 6
  · have h53 := h52.1 c54
    rw [show mz_tsw 37 290 0 19 #[95, 98, 118, 130, 167, 175, 196, 213, 240, 290, 290, 290, 290, 290, 290, 290, 290, 290, 248, 269] (m1 82 l1.toNatClampNeg) = 233 by rw [c54]; decide +kernel]
    obtain ⟨g55, h56⟩ := h53
    refine mz_go_blk mz_m167 6 (pc' := 242) (L' := [some (.ref 55), some (.int l1), some (.int r3), none, none, none, none, none, none, none]) (S' := [.int (m1 95 r3.toNatClampNeg), .int 13, .ref 55]) (sh' := mz_sh) (m' := m1) (g := mz_inb r3 12100 && true) rfl rfl (mz_and2 (g55) (rfl)) ?_
    refine mz_go_call mz_m167 mz_m163 rfl rfl rfl rfl rfl rfl rfl h56 (fun v sh1 m57 hv => ?_)
    obtain ⟨r59, rfl, rfl, h58⟩ := hv
    refine mz_go_blk mz_m167 2 (pc' := 343) (L' := [some (.ref 55), some (.int l1), some (.int r3), none, none, some (.int r59), none, none, none, none]) (S' := []) (sh' := mz_sh) (m' := m57) (g := true) rfl rfl (rfl) ?_
    exact mz_go.forget (L := [some (.ref 55), none, none, none, none, none, none, none, none, none]) (mz_lel_cons rfl (mz_lel_cons trivial (mz_lel_cons trivial (mz_lel_cons trivial (mz_lel_cons trivial (mz_lel_cons trivial (mz_lel_cons trivial (mz_lel_cons trivial (mz_lel_cons trivial (mz_lel_cons trivial (mz_lel_nil))))))))))) h58
  have h60 := h52.2
  by_cases c62 : (m1 82 l1.toNatClampNeg) = 7
  · have h61 := h60.1 c62
    rw [show mz_tsw 37 290 0 19 #[95, 98, 118, 130, 167, 175, 196, 213, 240, 290, 290, 290, 290, 290, 290, 290, 290, 290, 248, 269] (m1 82 l1.toNatClampNeg) = 250 by rw [c62]; decide +kernel]
    refine mz_go_blk mz_m167 3 (pc' := 254) (L' := [some (.ref 55), some (.int l1), some (.int r3), none, none, none, none, none, none, none]) (S' := [.int 0, .int 12, .ref 55]) (sh' := mz_sh) (m' := m1) (g := true) rfl rfl (rfl) ?_
    refine mz_go_call mz_m167 mz_m163 rfl rfl rfl rfl rfl rfl rfl h61 (fun v sh1 m63 hv => ?_)
    obtain ⟨r65, rfl, rfl, h64⟩ := hv
    obtain ⟨g66, g67, h68⟩ := h64
    refine mz_go_blk mz_m167 11 (pc' := 343) (L' := [some (.ref 55), some (.int l1), some (.int r3), none, none, none, some (.int r65), none, none, none]) (S' := []) (sh' := mz_sh) (m' := mz_up m63 91 ((m63 94 l1.toNatClampNeg).toNatClampNeg) (m63 55 47)) (g := mz_inb (m63 94 l1.toNatClampNeg) 60100 && (mz_inb l1 12100 && true)) rfl rfl (mz_and2 (g67) (mz_and2 (g66) (rfl))) ?_
    exact mz_go.forget (L := [some (.ref 55), none, none, none, none, none, none, none, none, none]) (mz_lel_cons rfl (mz_lel_cons trivial (mz_lel_cons trivial (mz_lel_cons trivial (mz_lel_cons trivial (mz_lel_cons trivial (mz_lel_cons trivial (mz_lel_cons trivial (mz_lel_cons trivial (mz_lel_cons trivial (mz_lel_nil))))))))))) h68
  have h69 := h60.2
  by_cases c71 : (m1 82 l1.toNatClampNeg) = 8
  · have h70 := h69.1 c71
    rw [show mz_tsw 37 290 0 19 #[95, 98, 118, 130, 167, 175, 196, 213, 240, 290, 290, 290, 290, 290, 290, 290, 290, 290, 248, 269] (m1 82 l1.toNatClampNeg) = 277 by rw [c71]; decide +kernel]
    refine mz_go_blk mz_m167 2 (pc' := 279) (L' := [some (.ref 55), some (.int l1), some (.int r3), none, none, none, none, none, none, none]) (S' := [.int l1, .ref 55]) (sh' := mz_sh) (m' := m1) (g := true) rfl rfl (rfl) ?_
    refine mz_go_call mz_m167 mz_m166 rfl rfl rfl rfl rfl rfl rfl h70 (fun v sh1 m72 hv => ?_)
    obtain ⟨rfl, rfl, h73⟩ := hv
    refine mz_go_blk mz_m167 1 (pc' := 343) (L' := [some (.ref 55), some (.int l1), some (.int r3), none, none, none, none, none, none, none]) (S' := []) (sh' := mz_sh) (m' := m72) (g := true) rfl rfl (rfl) ?_
    exact mz_go.forget (L := [some (.ref 55), none, none, none, none, none, none, none, none, none]) (mz_lel_cons rfl (mz_lel_cons trivial (mz_lel_cons trivial (mz_lel_cons trivial (mz_lel_cons trivial (mz_lel_cons trivial (mz_lel_cons trivial (mz_lel_cons trivial (mz_lel_cons trivial (mz_lel_cons trivial (mz_lel_nil))))))))))) h73
  have h74 := h69.2
  by_cases c76 : (m1 82 l1.toNatClampNeg) = 18
  · have h75 := h74.1 c76
    rw [show mz_tsw 37 290 0 19 #[95, 98, 118, 130, 167, 175, 196, 213, 240, 290, 290, 290, 290, 290, 290, 290, 290, 290, 248, 269] (m1 82 l1.toNatClampNeg) = 285 by rw [c76]; decide +kernel]
    obtain ⟨g77, g78, h79⟩ := h75
    refine mz_go_blk mz_m167 9 (pc' := 298) (L' := [some (.ref 55), some (.int l1), some (.int r3), none, none, none, none, none, none, none]) (S' := [.int (m1 70 ((m1 83 l1.toNatClampNeg).toNatClampNeg)), .int 1, .ref 55]) (sh' := mz_sh) (m' := m1) (g := mz_inb (m1 83 l1.toNatClampNeg) 4001 && (mz_inb l1 12100 && true)) rfl rfl (mz_and2 (g78) (mz_and2 (g77) (rfl))) ?_
    refine mz_go_call mz_m167 mz_m163 rfl rfl rfl rfl rfl rfl rfl h79 (fun v sh1 m80 hv => ?_)
    obtain ⟨r82, rfl, rfl, h81⟩ := hv
    refine mz_go_blk mz_m167 2 (pc' := 343) (L' := [some (.ref 55), some (.int l1), some (.int r3), none, none, none, none, some (.int r82), none, none]) (S' := []) (sh' := mz_sh) (m' := m80) (g := true) rfl rfl (rfl) ?_
    exact mz_go.forget (L := [some (.ref 55), none, none, none, none, none, none, none, none, none]) (mz_lel_cons rfl (mz_lel_cons trivial (mz_lel_cons trivial (mz_lel_cons trivial (mz_lel_cons trivial (mz_lel_cons trivial (mz_lel_cons trivial (mz_lel_cons trivial (mz_lel_cons trivial (mz_lel_cons trivial (mz_lel_nil))))))))))) h81
  have h83 := h74.2
  by_cases c85 : (m1 82 l1.toNatClampNeg) = 19
  · have h84 := h83.1 c85
    rw [show mz_tsw 37 290 0 19 #[95, 98, 118, 130, 167, 175, 196, 213, 240, 290, 290, 290, 290, 290, 290, 290, 290, 290, 248, 269] (m1 82 l1.toNatClampNeg) = 306 by rw [c85]; decide +kernel]
    obtain ⟨g86, g87, h88⟩ := h84
    refine mz_go_blk mz_m167 9 (pc' := 319) (L' := [some (.ref 55), some (.int l1), some (.int r3), none, none, none, none, none, none, none]) (S' := [.int (m1 70 ((m1 83 l1.toNatClampNeg).toNatClampNeg)), .int 0, .ref 55]) (sh' := mz_sh) (m' := m1) (g := mz_inb (m1 83 l1.toNatClampNeg) 4001 && (mz_inb l1 12100 && true)) rfl rfl (mz_and2 (g87) (mz_and2 (g86) (rfl))) ?_
    refine mz_go_call mz_m167 mz_m163 rfl rfl rfl rfl rfl rfl rfl h88 (fun v sh1 m89 hv => ?_)
    obtain ⟨r91, rfl, rfl, h90⟩ := hv
    refine mz_go_blk mz_m167 2 (pc' := 343) (L' := [some (.ref 55), some (.int l1), some (.int r3), none, none, none, none, none, some (.int r91), none]) (S' := []) (sh' := mz_sh) (m' := m89) (g := true) rfl rfl (rfl) ?_
    exact mz_go.forget (L := [some (.ref 55), none, none, none, none, none, none, none, none, none]) (mz_lel_cons rfl (mz_lel_cons trivial (mz_lel_cons trivial (mz_lel_cons trivial (mz_lel_cons trivial (mz_lel_cons trivial (mz_lel_cons trivial (mz_lel_cons trivial (mz_lel_cons trivial (mz_lel_cons trivial (mz_lel_nil))))))))))) h90
  have h92 := h83.2
  have h92d := h92 c7 c10 c19 c25 c39 c44 c54 c62 c71 c76 c85
  rw [show mz_tsw 37 290 0 19 #[95, 98, 118, 130, 167, 175, 196, 213, 240, 290, 290, 290, 290, 290, 290, 290, 290, 290, 248, 269] (m1 82 l1.toNatClampNeg) = 327 from (by
        refine mz_tswd _ _ _ _ _ (m1 82 l1.toNatClampNeg) 327 (by decide +kernel) (fun k hk z => ?_)
        match k, hk, z with
        | 0, _, z => exact absurd (mz_tI (by rw [z]; decide +kernel)) c7
        | 1, _, z => exact absurd (mz_tI (by rw [z]; decide +kernel)) c10
        | 2, _, z => exact absurd (mz_tI (by rw [z]; decide +kernel)) c19
        | 3, _, z => exact absurd (mz_tI (by rw [z]; decide +kernel)) c25
        | 4, _, z => exact absurd (mz_tI (by rw [z]; decide +kernel)) c39
        | 5, _, z => exact absurd (mz_tI (by rw [z]; decide +kernel)) c44
        | 6, _, z => exact absurd (mz_tI (by rw [z]; decide +kernel)) c54
        | 7, _, z => exact absurd (mz_tI (by rw [z]; decide +kernel)) c62
        | 8, _, z => exact absurd (mz_tI (by rw [z]; decide +kernel)) c71
        | 9, _, z => decide +kernel
        | 10, _, z => decide +kernel
        | 11, _, z => decide +kernel
        | 12, _, z => decide +kernel
        | 13, _, z => decide +kernel
        | 14, _, z => decide +kernel
        | 15, _, z => decide +kernel
        | 16, _, z => decide +kernel
        | 17, _, z => decide +kernel
        | 18, _, z => exact absurd (mz_tI (by rw [z]; decide +kernel)) c76
        | 19, _, z => exact absurd (mz_tI (by rw [z]; decide +kernel)) c85
        | k + 20, hk, _ => exact absurd hk (by simp only [Array.size]; simp)
      )]
  obtain ⟨g93, h94⟩ := h92d
  refine mz_go_blk mz_m167 5 (pc' := 334) (L' := [some (.ref 55), some (.int l1), some (.int r3), none, none, none, none, none, none, none]) (S' := [.int (m1 82 l1.toNatClampNeg), .ref 55]) (sh' := mz_sh) (m' := m1) (g := mz_inb l1 12100 && true) rfl rfl (mz_and2 (g93) (rfl)) ?_
  refine mz_go_call mz_m167 mz_m168 rfl rfl rfl rfl rfl rfl rfl h94 (fun v sh1 m95 hv => ?_)
  obtain ⟨r97, rfl, rfl, h96⟩ := hv
  refine mz_go_blk mz_m167 1 (pc' := 338) (L' := [some (.ref 55), some (.int l1), some (.int r3), none, none, none, none, none, none, none]) (S' := [.int 0, .int r97, .ref 55]) (sh' := mz_sh) (m' := m95) (g := true) rfl rfl (rfl) ?_
  refine mz_go_call mz_m167 mz_m163 rfl rfl rfl rfl rfl rfl rfl h96 (fun v sh1 m98 hv => ?_)
  obtain ⟨r100, rfl, rfl, h99⟩ := hv
  refine mz_go_blk mz_m167 1 (pc' := 343) (L' := [some (.ref 55), some (.int l1), some (.int r3), none, none, none, none, none, none, some (.int r100)]) (S' := []) (sh' := mz_sh) (m' := m98) (g := true) rfl rfl (rfl) ?_
  exact mz_go.forget (L := [some (.ref 55), none, none, none, none, none, none, none, none, none]) (mz_lel_cons rfl (mz_lel_cons trivial (mz_lel_cons trivial (mz_lel_cons trivial (mz_lel_cons trivial (mz_lel_cons trivial (mz_lel_cons trivial (mz_lel_cons trivial (mz_lel_cons trivial (mz_lel_cons trivial (mz_lel_nil))))))))))) h99
set_option maxRecDepth 100000 in
theorem t_M_leave_2 {X : mz_X} {m : mz_M} {Q : mz_M → Prop}
    (h : Q m) :
    mz_gv X mz_sh 167 343 [some (.ref 55), none, none, none, none, none, none, none, none, none] m Q := by
  exact mz_go_ret mz_m167 rfl rfl rfl ⟨rfl, rfl, h⟩
set_option maxRecDepth 100000 in
theorem t_M_wordFor_0 {X : mz_X} {m : mz_M} {Q : Int32 → mz_M → Prop} (a0 : Int32)
    (h : ((a0 = 9 → Q 8 m) ∧ (a0 = 10 → Q 9 m) ∧ (a0 = 11 → Q 3 m) ∧ (a0 = 12 → Q 4 m) ∧ (a0 = 13 → Q 5 m) ∧ (a0 = 14 → Q 6 m) ∧ (a0 = 15 → Q 7 m) ∧ (a0 = 16 → Q 10 m) ∧ (¬ a0 = 9 → ¬ a0 = 10 → ¬ a0 = 11 → ¬ a0 = 12 → ¬ a0 = 13 → ¬ a0 = 14 → ¬ a0 = 15 → ¬ a0 = 16 → Q 11 m))) :
    mz_gi X mz_sh 168 0 [some (.int a0)] m Q := by
  refine mz_go_blk mz_m168 2 (pc' := (mz_tsw 1 68 9 16 #[47, 50, 53, 55, 57, 59, 62, 65] a0)) (L' := [some (.int a0)]) (S' := []) (sh' := mz_sh) (m' := m) (g := true) rfl rfl (rfl) ?_
  by_cases c2 : a0 = 9
  · have h1 := h.1 c2
    rw [show mz_tsw 1 68 9 16 #[47, 50, 53, 55, 57, 59, 62, 65] a0 = 48 by rw [c2]; decide +kernel]
    refine mz_go_blk mz_m168 1 (pc' := 50) (L' := [some (.int a0)]) (S' := [.int 8]) (sh' := mz_sh) (m' := m) (g := true) rfl rfl (rfl) ?_
    exact mz_go_ret mz_m168 rfl rfl rfl ⟨_, rfl, rfl, h1⟩
  have h3 := h.2
  by_cases c5 : a0 = 10
  · have h4 := h3.1 c5
    rw [show mz_tsw 1 68 9 16 #[47, 50, 53, 55, 57, 59, 62, 65] a0 = 51 by rw [c5]; decide +kernel]
    refine mz_go_blk mz_m168 1 (pc' := 53) (L' := [some (.int a0)]) (S' := [.int 9]) (sh' := mz_sh) (m' := m) (g := true) rfl rfl (rfl) ?_
    exact mz_go_ret mz_m168 rfl rfl rfl ⟨_, rfl, rfl, h4⟩
  have h6 := h3.2
  by_cases c8 : a0 = 11
  · have h7 := h6.1 c8
    rw [show mz_tsw 1 68 9 16 #[47, 50, 53, 55, 57, 59, 62, 65] a0 = 54 by rw [c8]; decide +kernel]
    refine mz_go_blk mz_m168 1 (pc' := 55) (L' := [some (.int a0)]) (S' := [.int 3]) (sh' := mz_sh) (m' := m) (g := true) rfl rfl (rfl) ?_
    exact mz_go_ret mz_m168 rfl rfl rfl ⟨_, rfl, rfl, h7⟩
  have h9 := h6.2
  by_cases c11 : a0 = 12
  · have h10 := h9.1 c11
    rw [show mz_tsw 1 68 9 16 #[47, 50, 53, 55, 57, 59, 62, 65] a0 = 56 by rw [c11]; decide +kernel]
    refine mz_go_blk mz_m168 1 (pc' := 57) (L' := [some (.int a0)]) (S' := [.int 4]) (sh' := mz_sh) (m' := m) (g := true) rfl rfl (rfl) ?_
    exact mz_go_ret mz_m168 rfl rfl rfl ⟨_, rfl, rfl, h10⟩
  have h12 := h9.2
  by_cases c14 : a0 = 13
  · have h13 := h12.1 c14
    rw [show mz_tsw 1 68 9 16 #[47, 50, 53, 55, 57, 59, 62, 65] a0 = 58 by rw [c14]; decide +kernel]
    refine mz_go_blk mz_m168 1 (pc' := 59) (L' := [some (.int a0)]) (S' := [.int 5]) (sh' := mz_sh) (m' := m) (g := true) rfl rfl (rfl) ?_
    exact mz_go_ret mz_m168 rfl rfl rfl ⟨_, rfl, rfl, h13⟩
  have h15 := h12.2
  by_cases c17 : a0 = 14
  · have h16 := h15.1 c17
    rw [show mz_tsw 1 68 9 16 #[47, 50, 53, 55, 57, 59, 62, 65] a0 = 60 by rw [c17]; decide +kernel]
    refine mz_go_blk mz_m168 1 (pc' := 62) (L' := [some (.int a0)]) (S' := [.int 6]) (sh' := mz_sh) (m' := m) (g := true) rfl rfl (rfl) ?_
    exact mz_go_ret mz_m168 rfl rfl rfl ⟨_, rfl, rfl, h16⟩
  have h18 := h15.2
  by_cases c20 : a0 = 15
  · have h19 := h18.1 c20
    rw [show mz_tsw 1 68 9 16 #[47, 50, 53, 55, 57, 59, 62, 65] a0 = 63 by rw [c20]; decide +kernel]
    refine mz_go_blk mz_m168 1 (pc' := 65) (L' := [some (.int a0)]) (S' := [.int 7]) (sh' := mz_sh) (m' := m) (g := true) rfl rfl (rfl) ?_
    exact mz_go_ret mz_m168 rfl rfl rfl ⟨_, rfl, rfl, h19⟩
  have h21 := h18.2
  by_cases c23 : a0 = 16
  · have h22 := h21.1 c23
    rw [show mz_tsw 1 68 9 16 #[47, 50, 53, 55, 57, 59, 62, 65] a0 = 66 by rw [c23]; decide +kernel]
    refine mz_go_blk mz_m168 1 (pc' := 68) (L' := [some (.int a0)]) (S' := [.int 10]) (sh' := mz_sh) (m' := m) (g := true) rfl rfl (rfl) ?_
    exact mz_go_ret mz_m168 rfl rfl rfl ⟨_, rfl, rfl, h22⟩
  have h24 := h21.2
  have h24d := h24 c2 c5 c8 c11 c14 c17 c20 c23
  rw [show mz_tsw 1 68 9 16 #[47, 50, 53, 55, 57, 59, 62, 65] a0 = 69 from (by
        refine mz_tswd _ _ _ _ _ a0 69 (by decide +kernel) (fun k hk z => ?_)
        match k, hk, z with
        | 0, _, z => exact absurd (mz_tI (by rw [z]; decide +kernel)) c2
        | 1, _, z => exact absurd (mz_tI (by rw [z]; decide +kernel)) c5
        | 2, _, z => exact absurd (mz_tI (by rw [z]; decide +kernel)) c8
        | 3, _, z => exact absurd (mz_tI (by rw [z]; decide +kernel)) c11
        | 4, _, z => exact absurd (mz_tI (by rw [z]; decide +kernel)) c14
        | 5, _, z => exact absurd (mz_tI (by rw [z]; decide +kernel)) c17
        | 6, _, z => exact absurd (mz_tI (by rw [z]; decide +kernel)) c20
        | 7, _, z => exact absurd (mz_tI (by rw [z]; decide +kernel)) c23
        | k + 8, hk, _ => exact absurd hk (by simp only [Array.size]; simp)
      )]
  refine mz_go_blk mz_m168 1 (pc' := 71) (L' := [some (.int a0)]) (S' := [.int 11]) (sh' := mz_sh) (m' := m) (g := true) rfl rfl (rfl) ?_
  exact mz_go_ret mz_m168 rfl rfl rfl ⟨_, rfl, rfl, h24d⟩
set_option maxRecDepth 100000 in
theorem t_M_compile_0 {X : mz_X} {m : mz_M} {Q : Int32 → mz_M → Prop}
    (h : (((m 55 34) = 0 → Q (-3) m) ∧ (¬ ((m 55 34) = 0) → mz_gi X mz_sh 169 31 [some (.ref 55), some (.int 0), some (.int (m 86 0)), none] (mz_up (mz_up m 55 47 0) 92 0 0) Q))) :
    mz_gi X mz_sh 169 0 [some (.ref 55), none, none, none] m Q := by
  refine mz_go_blk mz_m169 3 (pc' := (if (m 55 34) = 0 then 7 else 10)) (L' := [some (.ref 55), none, none, none]) (S' := []) (sh' := mz_sh) (m' := m) (g := true) rfl rfl (rfl) ?_
  refine mz_go_if (fun c1 => ?_) (fun c1 => ?_)
  · have h2 := h.1 c1
    refine mz_go_blk mz_m169 1 (pc' := 9) (L' := [some (.ref 55), none, none, none]) (S' := [.int (-3)]) (sh' := mz_sh) (m' := m) (g := true) rfl rfl (rfl) ?_
    exact mz_go_ret mz_m169 rfl rfl rfl ⟨_, rfl, rfl, h2⟩
  · have h3 := h.2 c1
    refine mz_go_blk mz_m169 15 (pc' := 31) (L' := [some (.ref 55), some (.int 0), some (.int (m 86 0)), none]) (S' := []) (sh' := mz_sh) (m' := mz_up (mz_up m 55 47 0) 92 0 0) (g := mz_inb 0 12100 && (mz_inb 0 12100 && true)) rfl rfl (mz_and2 (by decide) (mz_and2 (by decide) (rfl))) ?_
    exact h3
set_option maxRecDepth 100000 in
theorem t_M_compile_1 {X : mz_X} {m : mz_M} {Q : Int32 → mz_M → Prop} (l1 : Int32) (l2 : Int32)
    (h : ((l1 < 0 → mz_gi X mz_sh 163 0 [some (.ref 55), some (.int 16), some (.int 0)] m (fun r5 m3 => Q (m3 55 47) (mz_up m3 55 44 1))) ∧ (¬ (l1 < 0) → ((l2 < 0 → mz_gv X mz_sh 167 0 [some (.ref 55), some (.int l1), none, none, none, none, none, none, none, none] m (fun m9 => mz_inb l1 12100 = true ∧ mz_inb l1 12100 = true ∧ mz_gi X mz_sh 169 31 [some (.ref 55), some (.int (m9 89 l1.toNatClampNeg)), some (.int (m9 88 l1.toNatClampNeg)), none] m9 Q)) ∧ (¬ (l2 < 0) → mz_inb l1 12100 = true ∧ mz_gv X mz_sh 164 0 [some (.ref 55), some (.int l1), some (.int (m 92 l1.toNatClampNeg)), none, none, none] m (fun m17 => mz_inb l1 12100 = true ∧ mz_inb l1 12100 = true ∧ mz_inb l2 12100 = true ∧ mz_inb l2 12100 = true ∧ mz_gi X mz_sh 169 31 [some (.ref 55), some (.int l2), some (.int (m17 86 l2.toNatClampNeg)), none] (mz_up (mz_up m17 92 l1.toNatClampNeg ((m17 92 l1.toNatClampNeg) + 1)) 92 l2.toNatClampNeg 0) Q)))))) :
    mz_gi X mz_sh 169 31 [some (.ref 55), some (.int l1), some (.int l2), none] m Q := by
  refine mz_go_blk mz_m169 2 (pc' := (if l1 < 0 then 101 else 35)) (L' := [some (.ref 55), some (.int l1), some (.int l2), none]) (S' := []) (sh' := mz_sh) (m' := m) (g := true) rfl rfl (rfl) ?_
  refine mz_go_if (fun c1 => ?_) (fun c1 => ?_)
  · have h2 := h.1 c1
    refine mz_go_blk mz_m169 3 (pc' := 105) (L' := [some (.ref 55), some (.int l1), some (.int l2), none]) (S' := [.int 0, .int 16, .ref 55]) (sh' := mz_sh) (m' := m) (g := true) rfl rfl (rfl) ?_
    refine mz_go_call mz_m169 mz_m163 rfl rfl rfl rfl rfl rfl rfl h2 (fun v sh1 m3 hv => ?_)
    obtain ⟨r5, rfl, rfl, h4⟩ := hv
    refine mz_go_blk mz_m169 6 (pc' := 118) (L' := [some (.ref 55), some (.int l1), some (.int l2), some (.int r5)]) (S' := [.int (m3 55 47)]) (sh' := mz_sh) (m' := mz_up m3 55 44 1) (g := (decide (1 = 0) || decide (1 = 1)) && true) rfl rfl (mz_and2 (by decide) (rfl)) ?_
    exact mz_go_ret mz_m169 rfl rfl rfl ⟨_, rfl, rfl, h4⟩
  · have h6 := h.2 c1
    refine mz_go_blk mz_m169 2 (pc' := (if l2 < 0 then 79 else 39)) (L' := [some (.ref 55), some (.int l1), some (.int l2), none]) (S' := []) (sh' := mz_sh) (m' := m) (g := true) rfl rfl (rfl) ?_
    refine mz_go_if (fun c7 => ?_) (fun c7 => ?_)
    · have h8 := h6.1 c7
      refine mz_go_blk mz_m169 2 (pc' := 81) (L' := [some (.ref 55), some (.int l1), some (.int l2), none]) (S' := [.int l1, .ref 55]) (sh' := mz_sh) (m' := m) (g := true) rfl rfl (rfl) ?_
      refine mz_go_call mz_m169 mz_m167 rfl rfl rfl rfl rfl rfl rfl h8 (fun v sh1 m9 hv => ?_)
      obtain ⟨rfl, rfl, h10⟩ := hv
      obtain ⟨g11, g12, h13⟩ := h10
      refine mz_go_blk mz_m169 11 (pc' := 31) (L' := [some (.ref 55), some (.int (m9 89 l1.toNatClampNeg)), some (.int (m9 88 l1.toNatClampNeg)), none]) (S' := []) (sh' := mz_sh) (m' := m9) (g := mz_inb l1 12100 && (mz_inb l1 12100 && true)) rfl rfl (mz_and2 (g12) (mz_and2 (g11) (rfl))) ?_
      exact h13
    · have h14 := h6.2 c7
      obtain ⟨g15, h16⟩ := h14
      refine mz_go_blk mz_m169 6 (pc' := 47) (L' := [some (.ref 55), some (.int l1), some (.int l2), none]) (S' := [.int (m 92 l1.toNatClampNeg), .int l1, .ref 55]) (sh' := mz_sh) (m' := m) (g := mz_inb l1 12100 && true) rfl rfl (mz_and2 (g15) (rfl)) ?_
      refine mz_go_call mz_m169 mz_m164 rfl rfl rfl rfl rfl rfl rfl h16 (fun v sh1 m17 hv => ?_)
      obtain ⟨rfl, rfl, h18⟩ := hv
      obtain ⟨g19, g20, g21, g22, h23⟩ := h18
      refine mz_go_blk mz_m169 21 (pc' := 31) (L' := [some (.ref 55), some (.int l2), some (.int (m17 86 l2.toNatClampNeg)), none]) (S' := []) (sh' := mz_sh) (m' := mz_up (mz_up m17 92 l1.toNatClampNeg ((m17 92 l1.toNatClampNeg) + 1)) 92 l2.toNatClampNeg 0) (g := mz_inb l2 12100 && (mz_inb l2 12100 && (mz_inb l1 12100 && (mz_inb l1 12100 && true)))) rfl rfl (mz_and2 (g22) (mz_and2 (g21) (mz_and2 (g20) (mz_and2 (g19) (rfl))))) ?_
      exact h23
set_option maxRecDepth 100000 in
theorem t_M_code_0 {X : mz_X} {m : mz_M} {Q : Int32 → mz_M → Prop} (a1 : Int32) (a2 : Int32)
    (h : (((m 55 44) = 0 → Q (-1) m) ∧ (¬ ((m 55 44) = 0) → ((a1 < 0 → Q (-1) m) ∧ (¬ (a1 < 0) → (((m 55 47) ≤ a1 → Q (-1) m) ∧ (¬ ((m 55 47) ≤ a1) → ((a2 < 0 → Q (-1) m) ∧ (¬ (a2 < 0) → ((a2 ≤ 1 → ((a2 = 0 → mz_inb a1 60100 = true ∧ Q (m 90 a1.toNatClampNeg) m) ∧ (¬ (a2 = 0) → mz_inb a1 60100 = true ∧ Q (m 91 a1.toNatClampNeg) m))) ∧ (¬ (a2 ≤ 1) → Q (-1) m))))))))))) :
    mz_gi X mz_sh 170 0 [some (.ref 55), some (.int a1), some (.int a2)] m Q := by
  refine mz_go_blk mz_m170 3 (pc' := (if (m 55 44) = 0 then 28 else 7)) (L' := [some (.ref 55), some (.int a1), some (.int a2)]) (S' := []) (sh' := mz_sh) (m' := m) (g := true) rfl rfl (rfl) ?_
  refine mz_go_if (fun c1 => ?_) (fun c1 => ?_)
  · have h2 := h.1 c1
    refine mz_go_blk mz_m170 1 (pc' := 29) (L' := [some (.ref 55), some (.int a1), some (.int a2)]) (S' := [.int (-1)]) (sh' := mz_sh) (m' := m) (g := true) rfl rfl (rfl) ?_
    exact mz_go_ret mz_m170 rfl rfl rfl ⟨_, rfl, rfl, h2⟩
  · have h3 := h.2 c1
    refine mz_go_blk mz_m170 2 (pc' := (if a1 < 0 then 28 else 11)) (L' := [some (.ref 55), some (.int a1), some (.int a2)]) (S' := []) (sh' := mz_sh) (m' := m) (g := true) rfl rfl (rfl) ?_
    refine mz_go_if (fun c4 => ?_) (fun c4 => ?_)
    · have h5 := h3.1 c4
      refine mz_go_blk mz_m170 1 (pc' := 29) (L' := [some (.ref 55), some (.int a1), some (.int a2)]) (S' := [.int (-1)]) (sh' := mz_sh) (m' := m) (g := true) rfl rfl (rfl) ?_
      exact mz_go_ret mz_m170 rfl rfl rfl ⟨_, rfl, rfl, h5⟩
    · have h6 := h3.2 c4
      refine mz_go_blk mz_m170 4 (pc' := (if (m 55 47) ≤ a1 then 28 else 19)) (L' := [some (.ref 55), some (.int a1), some (.int a2)]) (S' := []) (sh' := mz_sh) (m' := m) (g := true) rfl rfl (rfl) ?_
      refine mz_go_if (fun c7 => ?_) (fun c7 => ?_)
      · have h8 := h6.1 c7
        refine mz_go_blk mz_m170 1 (pc' := 29) (L' := [some (.ref 55), some (.int a1), some (.int a2)]) (S' := [.int (-1)]) (sh' := mz_sh) (m' := m) (g := true) rfl rfl (rfl) ?_
        exact mz_go_ret mz_m170 rfl rfl rfl ⟨_, rfl, rfl, h8⟩
      · have h9 := h6.2 c7
        refine mz_go_blk mz_m170 2 (pc' := (if a2 < 0 then 28 else 23)) (L' := [some (.ref 55), some (.int a1), some (.int a2)]) (S' := []) (sh' := mz_sh) (m' := m) (g := true) rfl rfl (rfl) ?_
        refine mz_go_if (fun c10 => ?_) (fun c10 => ?_)
        · have h11 := h9.1 c10
          refine mz_go_blk mz_m170 1 (pc' := 29) (L' := [some (.ref 55), some (.int a1), some (.int a2)]) (S' := [.int (-1)]) (sh' := mz_sh) (m' := m) (g := true) rfl rfl (rfl) ?_
          exact mz_go_ret mz_m170 rfl rfl rfl ⟨_, rfl, rfl, h11⟩
        · have h12 := h9.2 c10
          refine mz_go_blk mz_m170 3 (pc' := (if a2 ≤ 1 then 30 else 28)) (L' := [some (.ref 55), some (.int a1), some (.int a2)]) (S' := []) (sh' := mz_sh) (m' := m) (g := true) rfl rfl (rfl) ?_
          refine mz_go_if (fun c13 => ?_) (fun c13 => ?_)
          · have h14 := h12.1 c13
            refine mz_go_blk mz_m170 2 (pc' := (if a2 = 0 then 34 else 43)) (L' := [some (.ref 55), some (.int a1), some (.int a2)]) (S' := []) (sh' := mz_sh) (m' := m) (g := true) rfl rfl (rfl) ?_
            refine mz_go_if (fun c15 => ?_) (fun c15 => ?_)
            · have h16 := h14.1 c15
              obtain ⟨g17, h18⟩ := h16
              refine mz_go_blk mz_m170 5 (pc' := 49) (L' := [some (.ref 55), some (.int a1), some (.int a2)]) (S' := [.int (m 90 a1.toNatClampNeg)]) (sh' := mz_sh) (m' := m) (g := mz_inb a1 60100 && true) rfl rfl (mz_and2 (g17) (rfl)) ?_
              exact mz_go_ret mz_m170 rfl rfl rfl ⟨_, rfl, rfl, h18⟩
            · have h19 := h14.2 c15
              obtain ⟨g20, h21⟩ := h19
              refine mz_go_blk mz_m170 4 (pc' := 49) (L' := [some (.ref 55), some (.int a1), some (.int a2)]) (S' := [.int (m 91 a1.toNatClampNeg)]) (sh' := mz_sh) (m' := m) (g := mz_inb a1 60100 && true) rfl rfl (mz_and2 (g20) (rfl)) ?_
              exact mz_go_ret mz_m170 rfl rfl rfl ⟨_, rfl, rfl, h21⟩
          · have h22 := h12.2 c13
            refine mz_go_blk mz_m170 1 (pc' := 29) (L' := [some (.ref 55), some (.int a1), some (.int a2)]) (S' := [.int (-1)]) (sh' := mz_sh) (m' := m) (g := true) rfl rfl (rfl) ?_
            exact mz_go_ret mz_m170 rfl rfl rfl ⟨_, rfl, rfl, h22⟩
set_option maxRecDepth 100000 in
theorem t_M_input_0 {X : mz_X} {m : mz_M} {Q : Int32 → mz_M → Prop} (a1 : Int32) (a2 : Int32)
    (h : ((a1 < 0 → Q 0 m) ∧ (¬ (a1 < 0) → ((a1 < 32 → mz_inb a1 32 = true ∧ mz_inb a1 32 = true ∧ Q (m 96 a1.toNatClampNeg) (mz_up m 96 a1.toNatClampNeg a2)) ∧ (¬ (a1 < 32) → Q 0 m))))) :
    mz_gi X mz_sh 171 0 [some (.ref 55), some (.int a1), some (.int a2), none] m Q := by
  refine mz_go_blk mz_m171 2 (pc' := (if a1 < 0 then 10 else 4)) (L' := [some (.ref 55), some (.int a1), some (.int a2), none]) (S' := []) (sh' := mz_sh) (m' := m) (g := true) rfl rfl (rfl) ?_
  refine mz_go_if (fun c1 => ?_) (fun c1 => ?_)
  · have h2 := h.1 c1
    refine mz_go_blk mz_m171 1 (pc' := 11) (L' := [some (.ref 55), some (.int a1), some (.int a2), none]) (S' := [.int 0]) (sh' := mz_sh) (m' := m) (g := true) rfl rfl (rfl) ?_
    exact mz_go_ret mz_m171 rfl rfl rfl ⟨_, rfl, rfl, h2⟩
  · have h3 := h.2 c1
    refine mz_go_blk mz_m171 3 (pc' := (if a1 < 32 then 12 else 10)) (L' := [some (.ref 55), some (.int a1), some (.int a2), none]) (S' := []) (sh' := mz_sh) (m' := m) (g := true) rfl rfl (rfl) ?_
    refine mz_go_if (fun c4 => ?_) (fun c4 => ?_)
    · have h5 := h3.1 c4
      obtain ⟨g6, g7, h8⟩ := h5
      refine mz_go_blk mz_m171 11 (pc' := 27) (L' := [some (.ref 55), some (.int a1), some (.int a2), some (.int (m 96 a1.toNatClampNeg))]) (S' := [.int (m 96 a1.toNatClampNeg)]) (sh' := mz_sh) (m' := mz_up m 96 a1.toNatClampNeg a2) (g := mz_inb a1 32 && (mz_inb a1 32 && true)) rfl rfl (mz_and2 (g7) (mz_and2 (g6) (rfl))) ?_
      exact mz_go_ret mz_m171 rfl rfl rfl ⟨_, rfl, rfl, h8⟩
    · have h9 := h3.2 c4
      refine mz_go_blk mz_m171 1 (pc' := 11) (L' := [some (.ref 55), some (.int a1), some (.int a2), none]) (S' := [.int 0]) (sh' := mz_sh) (m' := m) (g := true) rfl rfl (rfl) ?_
      exact mz_go_ret mz_m171 rfl rfl rfl ⟨_, rfl, rfl, h9⟩
set_option maxRecDepth 100000 in
theorem t_M_begin_0 {X : mz_X} {m : mz_M} {Q : mz_M → Prop} (a1 : Int32)
    (h : mz_gv X mz_sh 172 32 [some (.ref 55), none, some (.int 0)] (mz_up (mz_up (mz_up (mz_up (mz_up (mz_up m 55 56 1) 55 58 a1) 55 59 0) 55 60 (-1)) 55 61 0) 55 55 0) Q) :
    mz_gv X mz_sh 172 0 [some (.ref 55), some (.int a1), none] m Q := by
  refine mz_go_blk mz_m172 20 (pc' := 32) (L' := [some (.ref 55), some (.int a1), some (.int 0)]) (S' := []) (sh' := mz_sh) (m' := mz_up (mz_up (mz_up (mz_up (mz_up (mz_up m 55 56 1) 55 58 a1) 55 59 0) 55 60 (-1)) 55 61 0) 55 55 0) (g := (decide (1 = 0) || decide (1 = 1)) && true) rfl rfl (mz_and2 (by decide) (rfl)) ?_
  exact mz_go.forget (L := [some (.ref 55), none, some (.int 0)]) (mz_lel_cons rfl (mz_lel_cons trivial (mz_lel_cons rfl (mz_lel_nil)))) h
set_option maxRecDepth 100000 in
theorem t_M_begin_1 {X : mz_X} {m : mz_M} {Q : mz_M → Prop} (l2 : Int32)
    (h : ((32 ≤ l2 → Q m) ∧ (¬ (32 ≤ l2) → mz_inb l2 32 = true ∧ mz_inb l2 32 = true ∧ mz_gv X mz_sh 172 32 [some (.ref 55), none, some (.int (l2 + 1))] (mz_up m 97 l2.toNatClampNeg (m 96 l2.toNatClampNeg)) Q))) :
    mz_gv X mz_sh 172 32 [some (.ref 55), none, some (.int l2)] m Q := by
  refine mz_go_blk mz_m172 3 (pc' := (if 32 ≤ l2 then 56 else 38)) (L' := [some (.ref 55), none, some (.int l2)]) (S' := []) (sh' := mz_sh) (m' := m) (g := true) rfl rfl (rfl) ?_
  refine mz_go_if (fun c1 => ?_) (fun c1 => ?_)
  · have h2 := h.1 c1
    exact mz_go_ret mz_m172 rfl rfl rfl ⟨rfl, rfl, h2⟩
  · have h3 := h.2 c1
    obtain ⟨g4, g5, h6⟩ := h3
    refine mz_go_blk mz_m172 10 (pc' := 32) (L' := [some (.ref 55), none, some (.int (l2 + 1))]) (S' := []) (sh' := mz_sh) (m' := mz_up m 97 l2.toNatClampNeg (m 96 l2.toNatClampNeg)) (g := mz_inb l2 32 && (mz_inb l2 32 && true)) rfl rfl (mz_and2 (g5) (mz_and2 (g4) (rfl))) ?_
    exact h6
set_option maxRecDepth 100000 in
theorem t_M_burn_0 {X : mz_X} {m : mz_M} {Q : Int32 → mz_M → Prop} (a1 : Int32)
    (h : (((m 55 59) = (m 55 58) → Q 0 m) ∧ (¬ ((m 55 59) = (m 55 58)) → Q 1 (mz_up (mz_up m 55 59 ((m 55 59) + 1)) 55 60 a1)))) :
    mz_gi X mz_sh 173 0 [some (.ref 55), some (.int a1)] m Q := by
  refine mz_go_blk mz_m173 5 (pc' := (if (m 55 59) = (m 55 58) then 11 else 13)) (L' := [some (.ref 55), some (.int a1)]) (S' := []) (sh' := mz_sh) (m' := m) (g := true) rfl rfl (rfl) ?_
  refine mz_go_if (fun c1 => ?_) (fun c1 => ?_)
  · have h2 := h.1 c1
    refine mz_go_blk mz_m173 1 (pc' := 12) (L' := [some (.ref 55), some (.int a1)]) (S' := [.int 0]) (sh' := mz_sh) (m' := m) (g := true) rfl rfl (rfl) ?_
    exact mz_go_ret mz_m173 rfl rfl rfl ⟨_, rfl, rfl, h2⟩
  · have h3 := h.2 c1
    refine mz_go_blk mz_m173 10 (pc' := 29) (L' := [some (.ref 55), some (.int a1)]) (S' := [.int 1]) (sh' := mz_sh) (m' := mz_up (mz_up m 55 59 ((m 55 59) + 1)) 55 60 a1) (g := true) rfl rfl (rfl) ?_
    exact mz_go_ret mz_m173 rfl rfl rfl ⟨_, rfl, rfl, h3⟩
set_option maxRecDepth 100000 in
theorem t_M_push_0 {X : mz_X} {m : mz_M} {Q : mz_M → Prop} (a1 : Int32)
    (h : mz_inb (m 55 55) 12200 = true ∧ Q (mz_up (mz_up m 98 ((m 55 55).toNatClampNeg) a1) 55 55 ((m 55 55) + 1))) :
    mz_gv X mz_sh 174 0 [some (.ref 55), some (.int a1)] m Q := by
  obtain ⟨g1, h2⟩ := h
  refine mz_go_blk mz_m174 12 (pc' := 20) (L' := [some (.ref 55), some (.int a1)]) (S' := []) (sh' := mz_sh) (m' := mz_up (mz_up m 98 ((m 55 55).toNatClampNeg) a1) 55 55 ((m 55 55) + 1)) (g := mz_inb (m 55 55) 12200 && true) rfl rfl (mz_and2 (g1) (rfl)) ?_
  exact mz_go_ret mz_m174 rfl rfl rfl ⟨rfl, rfl, h2⟩
set_option maxRecDepth 100000 in
theorem t_M_pop_0 {X : mz_X} {m : mz_M} {Q : Int32 → mz_M → Prop}
    (h : mz_inb ((m 55 55) - 1) 12200 = true ∧ Q (m 98 (((m 55 55) - 1).toNatClampNeg)) (mz_up m 55 55 ((m 55 55) - 1))) :
    mz_gi X mz_sh 175 0 [some (.ref 55)] m Q := by
  obtain ⟨g1, h2⟩ := h
  refine mz_go_blk mz_m175 11 (pc' := 19) (L' := [some (.ref 55)]) (S' := [.int (m 98 (((m 55 55) - 1).toNatClampNeg))]) (sh' := mz_sh) (m' := mz_up m 55 55 ((m 55 55) - 1)) (g := mz_inb ((m 55 55) - 1) 12200 && true) rfl rfl (mz_and2 (g1) (rfl)) ?_
  exact mz_go_ret mz_m175 rfl rfl rfl ⟨_, rfl, rfl, h2⟩
set_option maxRecDepth 100000 in
theorem t_M_print_0 {X : mz_X} {m : mz_M} {Q : mz_M → Prop} (a1 : Int32)
    (h : ((1000 ≤ (m 55 61) → Q (mz_up m 55 61 ((m 55 61) + 1))) ∧ (¬ (1000 ≤ (m 55 61)) → mz_inb (m 55 61) 1000 = true ∧ Q (mz_up (mz_up m 99 ((m 55 61).toNatClampNeg) a1) 55 61 ((m 55 61) + 1))))) :
    mz_gv X mz_sh 176 0 [some (.ref 55), some (.int a1)] m Q := by
  refine mz_go_blk mz_m176 4 (pc' := (if 1000 ≤ (m 55 61) then 20 else 10)) (L' := [some (.ref 55), some (.int a1)]) (S' := []) (sh' := mz_sh) (m' := m) (g := true) rfl rfl (rfl) ?_
  refine mz_go_if (fun c1 => ?_) (fun c1 => ?_)
  · have h2 := h.1 c1
    refine mz_go_blk mz_m176 6 (pc' := 30) (L' := [some (.ref 55), some (.int a1)]) (S' := []) (sh' := mz_sh) (m' := mz_up m 55 61 ((m 55 61) + 1)) (g := true) rfl rfl (rfl) ?_
    exact mz_go_ret mz_m176 rfl rfl rfl ⟨rfl, rfl, h2⟩
  · have h3 := h.2 c1
    obtain ⟨g4, h5⟩ := h3
    refine mz_go_blk mz_m176 12 (pc' := 30) (L' := [some (.ref 55), some (.int a1)]) (S' := []) (sh' := mz_sh) (m' := mz_up (mz_up m 99 ((m 55 61).toNatClampNeg) a1) 55 61 ((m 55 61) + 1)) (g := mz_inb (m 55 61) 1000 && true) rfl rfl (mz_and2 (g4) (rfl)) ?_
    exact mz_go_ret mz_m176 rfl rfl rfl ⟨rfl, rfl, h5⟩
set_option maxRecDepth 100000 in
theorem t_M_truth_0 {X : mz_X} {m : mz_M} {Q : Int32 → mz_M → Prop} (a0 : Int32)
    (h : ((a0 = 0 → Q 0 m) ∧ (¬ (a0 = 0) → Q 1 m))) :
    mz_gi X mz_sh 177 0 [some (.int a0)] m Q := by
  refine mz_go_blk mz_m177 2 (pc' := (if a0 = 0 then 8 else 4)) (L' := [some (.int a0)]) (S' := []) (sh' := mz_sh) (m' := m) (g := true) rfl rfl (rfl) ?_
  refine mz_go_if (fun c1 => ?_) (fun c1 => ?_)
  · have h2 := h.1 c1
    refine mz_go_blk mz_m177 1 (pc' := 9) (L' := [some (.int a0)]) (S' := [.int 0]) (sh' := mz_sh) (m' := m) (g := true) rfl rfl (rfl) ?_
    exact mz_go_ret mz_m177 rfl rfl rfl ⟨_, rfl, rfl, h2⟩
  · have h3 := h.2 c1
    refine mz_go_blk mz_m177 2 (pc' := 9) (L' := [some (.int a0)]) (S' := [.int 1]) (sh' := mz_sh) (m' := m) (g := true) rfl rfl (rfl) ?_
    exact mz_go_ret mz_m177 rfl rfl rfl ⟨_, rfl, rfl, h3⟩
set_option maxRecDepth 100000 in
theorem t_M_join_0 {X : mz_X} {m : mz_M} {Q : Int32 → mz_M → Prop} (a0 : Int32) (a1 : Int32) (a2 : Int32)
    (h : ((a0 = 9 → ((a1 = a2 → mz_gi X mz_sh 177 0 [some (.int 1)] m (fun r7 m5 => Q r7 m5)) ∧ (¬ (a1 = a2) → mz_gi X mz_sh 177 0 [some (.int 0)] m (fun r11 m9 => Q r11 m9)))) ∧ (a0 = 10 → ((a2 ≤ a1 → mz_gi X mz_sh 177 0 [some (.int 0)] m (fun r19 m17 => Q r19 m17)) ∧ (¬ (a2 ≤ a1) → mz_gi X mz_sh 177 0 [some (.int 1)] m (fun r23 m21 => Q r23 m21)))) ∧ (a0 = 11 → Q (a1 + a2) m) ∧ (a0 = 12 → Q (a1 - a2) m) ∧ (a0 = 13 → Q (a1 * a2) m) ∧ (a0 = 14 → ¬ a2 = 0 ∧ Q (a1 / a2) m) ∧ (¬ a0 = 9 → ¬ a0 = 10 → ¬ a0 = 11 → ¬ a0 = 12 → ¬ a0 = 13 → ¬ a0 = 14 → ¬ a2 = 0 ∧ Q (a1 - a1 / a2 * a2) m))) :
    mz_gi X mz_sh 178 0 [some (.int a0), some (.int a1), some (.int a2)] m Q := by
  refine mz_go_blk mz_m178 2 (pc' := (mz_tsw 1 83 9 14 #[39, 53, 67, 71, 75, 79] a0)) (L' := [some (.int a0), some (.int a1), some (.int a2)]) (S' := []) (sh' := mz_sh) (m' := m) (g := true) rfl rfl (rfl) ?_
  by_cases c2 : a0 = 9
  · have h1 := h.1 c2
    rw [show mz_tsw 1 83 9 14 #[39, 53, 67, 71, 75, 79] a0 = 40 by rw [c2]; decide +kernel]
    refine mz_go_blk mz_m178 3 (pc' := (if a1 = a2 then 45 else 49)) (L' := [some (.int a0), some (.int a1), some (.int a2)]) (S' := []) (sh' := mz_sh) (m' := m) (g := true) rfl rfl (rfl) ?_
    refine mz_go_if (fun c3 => ?_) (fun c3 => ?_)
    · have h4 := h1.1 c3
      refine mz_go_blk mz_m178 2 (pc' := 50) (L' := [some (.int a0), some (.int a1), some (.int a2)]) (S' := [.int 1]) (sh' := mz_sh) (m' := m) (g := true) rfl rfl (rfl) ?_
      refine mz_go_call mz_m178 mz_m177 rfl rfl rfl rfl rfl rfl rfl h4 (fun v sh1 m5 hv => ?_)
      obtain ⟨r7, rfl, rfl, h6⟩ := hv
      exact mz_go_ret mz_m178 rfl rfl rfl ⟨_, rfl, rfl, h6⟩
    · have h8 := h1.2 c3
      refine mz_go_blk mz_m178 1 (pc' := 50) (L' := [some (.int a0), some (.int a1), some (.int a2)]) (S' := [.int 0]) (sh' := mz_sh) (m' := m) (g := true) rfl rfl (rfl) ?_
      refine mz_go_call mz_m178 mz_m177 rfl rfl rfl rfl rfl rfl rfl h8 (fun v sh1 m9 hv => ?_)
      obtain ⟨r11, rfl, rfl, h10⟩ := hv
      exact mz_go_ret mz_m178 rfl rfl rfl ⟨_, rfl, rfl, h10⟩
  have h12 := h.2
  by_cases c14 : a0 = 10
  · have h13 := h12.1 c14
    rw [show mz_tsw 1 83 9 14 #[39, 53, 67, 71, 75, 79] a0 = 54 by rw [c14]; decide +kernel]
    refine mz_go_blk mz_m178 3 (pc' := (if a2 ≤ a1 then 63 else 59)) (L' := [some (.int a0), some (.int a1), some (.int a2)]) (S' := []) (sh' := mz_sh) (m' := m) (g := true) rfl rfl (rfl) ?_
    refine mz_go_if (fun c15 => ?_) (fun c15 => ?_)
    · have h16 := h13.1 c15
      refine mz_go_blk mz_m178 1 (pc' := 64) (L' := [some (.int a0), some (.int a1), some (.int a2)]) (S' := [.int 0]) (sh' := mz_sh) (m' := m) (g := true) rfl rfl (rfl) ?_
      refine mz_go_call mz_m178 mz_m177 rfl rfl rfl rfl rfl rfl rfl h16 (fun v sh1 m17 hv => ?_)
      obtain ⟨r19, rfl, rfl, h18⟩ := hv
      exact mz_go_ret mz_m178 rfl rfl rfl ⟨_, rfl, rfl, h18⟩
    · have h20 := h13.2 c15
      refine mz_go_blk mz_m178 2 (pc' := 64) (L' := [some (.int a0), some (.int a1), some (.int a2)]) (S' := [.int 1]) (sh' := mz_sh) (m' := m) (g := true) rfl rfl (rfl) ?_
      refine mz_go_call mz_m178 mz_m177 rfl rfl rfl rfl rfl rfl rfl h20 (fun v sh1 m21 hv => ?_)
      obtain ⟨r23, rfl, rfl, h22⟩ := hv
      exact mz_go_ret mz_m178 rfl rfl rfl ⟨_, rfl, rfl, h22⟩
  have h24 := h12.2
  by_cases c26 : a0 = 11
  · have h25 := h24.1 c26
    rw [show mz_tsw 1 83 9 14 #[39, 53, 67, 71, 75, 79] a0 = 68 by rw [c26]; decide +kernel]
    refine mz_go_blk mz_m178 3 (pc' := 71) (L' := [some (.int a0), some (.int a1), some (.int a2)]) (S' := [.int (a1 + a2)]) (sh' := mz_sh) (m' := m) (g := true) rfl rfl (rfl) ?_
    exact mz_go_ret mz_m178 rfl rfl rfl ⟨_, rfl, rfl, h25⟩
  have h27 := h24.2
  by_cases c29 : a0 = 12
  · have h28 := h27.1 c29
    rw [show mz_tsw 1 83 9 14 #[39, 53, 67, 71, 75, 79] a0 = 72 by rw [c29]; decide +kernel]
    refine mz_go_blk mz_m178 3 (pc' := 75) (L' := [some (.int a0), some (.int a1), some (.int a2)]) (S' := [.int (a1 - a2)]) (sh' := mz_sh) (m' := m) (g := true) rfl rfl (rfl) ?_
    exact mz_go_ret mz_m178 rfl rfl rfl ⟨_, rfl, rfl, h28⟩
  have h30 := h27.2
  by_cases c32 : a0 = 13
  · have h31 := h30.1 c32
    rw [show mz_tsw 1 83 9 14 #[39, 53, 67, 71, 75, 79] a0 = 76 by rw [c32]; decide +kernel]
    refine mz_go_blk mz_m178 3 (pc' := 79) (L' := [some (.int a0), some (.int a1), some (.int a2)]) (S' := [.int (a1 * a2)]) (sh' := mz_sh) (m' := m) (g := true) rfl rfl (rfl) ?_
    exact mz_go_ret mz_m178 rfl rfl rfl ⟨_, rfl, rfl, h31⟩
  have h33 := h30.2
  by_cases c35 : a0 = 14
  · have h34 := h33.1 c35
    rw [show mz_tsw 1 83 9 14 #[39, 53, 67, 71, 75, 79] a0 = 80 by rw [c35]; decide +kernel]
    obtain ⟨g36, h37⟩ := h34
    refine mz_go_blk mz_m178 3 (pc' := 83) (L' := [some (.int a0), some (.int a1), some (.int a2)]) (S' := [.int (a1 / a2)]) (sh' := mz_sh) (m' := m) (g := !decide (a2 = 0) && true) rfl rfl (mz_and2 (mz_ne0 g36) (rfl)) ?_
    exact mz_go_ret mz_m178 rfl rfl rfl ⟨_, rfl, rfl, h37⟩
  have h38 := h33.2
  have h38d := h38 c2 c14 c26 c29 c32 c35
  rw [show mz_tsw 1 83 9 14 #[39, 53, 67, 71, 75, 79] a0 = 84 from (by
        refine mz_tswd _ _ _ _ _ a0 84 (by decide +kernel) (fun k hk z => ?_)
        match k, hk, z with
        | 0, _, z => exact absurd (mz_tI (by rw [z]; decide +kernel)) c2
        | 1, _, z => exact absurd (mz_tI (by rw [z]; decide +kernel)) c14
        | 2, _, z => exact absurd (mz_tI (by rw [z]; decide +kernel)) c26
        | 3, _, z => exact absurd (mz_tI (by rw [z]; decide +kernel)) c29
        | 4, _, z => exact absurd (mz_tI (by rw [z]; decide +kernel)) c32
        | 5, _, z => exact absurd (mz_tI (by rw [z]; decide +kernel)) c35
        | k + 6, hk, _ => exact absurd hk (by simp only [Array.size]; simp)
      )]
  obtain ⟨g39, h40⟩ := h38d
  refine mz_go_blk mz_m178 3 (pc' := 87) (L' := [some (.int a0), some (.int a1), some (.int a2)]) (S' := [.int (a1 - a1 / a2 * a2)]) (sh' := mz_sh) (m' := m) (g := !decide (a2 = 0) && true) rfl rfl (mz_and2 (mz_ne0 g39) (rfl)) ?_
  exact mz_go_ret mz_m178 rfl rfl rfl ⟨_, rfl, rfl, h40⟩
set_option maxRecDepth 100000 in
theorem t_M_joinTwo_0 {X : mz_X} {m : mz_M} {Q : Int32 → mz_M → Prop} (a1 : Int32)
    (h : mz_gi X mz_sh 175 0 [some (.ref 55)] m (fun r3 m1 => mz_gi X mz_sh 175 0 [some (.ref 55)] m1 (fun r6 m4 => ((a1 = 14 → ((r3 = 0 → Q (-3) m4) ∧ (¬ (r3 = 0) → mz_gi X mz_sh 178 0 [some (.int a1), some (.int r6), some (.int r3)] m4 (fun r14 m12 => mz_gv X mz_sh 174 0 [some (.ref 55), some (.int r14)] m12 (fun m15 => Q (-1) m15))))) ∧ (¬ (a1 = 14) → ((a1 = 15 → ((r3 = 0 → Q (-3) m4) ∧ (¬ (r3 = 0) → mz_gi X mz_sh 178 0 [some (.int a1), some (.int r6), some (.int r3)] m4 (fun r25 m23 => mz_gv X mz_sh 174 0 [some (.ref 55), some (.int r25)] m23 (fun m26 => Q (-1) m26))))) ∧ (¬ (a1 = 15) → mz_gi X mz_sh 178 0 [some (.int a1), some (.int r6), some (.int r3)] m4 (fun r31 m29 => mz_gv X mz_sh 174 0 [some (.ref 55), some (.int r31)] m29 (fun m32 => Q (-1) m32))))))))) :
    mz_gi X mz_sh 179 0 [some (.ref 55), some (.int a1), none, none] m Q := by
  refine mz_go_blk mz_m179 1 (pc' := 1) (L' := [some (.ref 55), some (.int a1), none, none]) (S' := [.ref 55]) (sh' := mz_sh) (m' := m) (g := true) rfl rfl (rfl) ?_
  refine mz_go_call mz_m179 mz_m175 rfl rfl rfl rfl rfl rfl rfl h (fun v sh1 m1 hv => ?_)
  obtain ⟨r3, rfl, rfl, h2⟩ := hv
  refine mz_go_blk mz_m179 2 (pc' := 6) (L' := [some (.ref 55), some (.int a1), some (.int r3), none]) (S' := [.ref 55]) (sh' := mz_sh) (m' := m1) (g := true) rfl rfl (rfl) ?_
  refine mz_go_call mz_m179 mz_m175 rfl rfl rfl rfl rfl rfl rfl h2 (fun v sh1 m4 hv => ?_)
  obtain ⟨r6, rfl, rfl, h5⟩ := hv
  refine mz_go_blk mz_m179 4 (pc' := (if a1 = 14 then 22 else 16)) (L' := [some (.ref 55), some (.int a1), some (.int r3), some (.int r6)]) (S' := []) (sh' := mz_sh) (m' := m4) (g := true) rfl rfl (rfl) ?_
  refine mz_go_if (fun c7 => ?_) (fun c7 => ?_)
  · have h8 := h5.1 c7
    refine mz_go_blk mz_m179 2 (pc' := (if r3 = 0 then 26 else 29)) (L' := [some (.ref 55), some (.int a1), some (.int r3), some (.int r6)]) (S' := []) (sh' := mz_sh) (m' := m4) (g := true) rfl rfl (rfl) ?_
    refine mz_go_if (fun c9 => ?_) (fun c9 => ?_)
    · have h10 := h8.1 c9
      refine mz_go_blk mz_m179 1 (pc' := 28) (L' := [some (.ref 55), some (.int a1), some (.int r3), some (.int r6)]) (S' := [.int (-3)]) (sh' := mz_sh) (m' := m4) (g := true) rfl rfl (rfl) ?_
      exact mz_go_ret mz_m179 rfl rfl rfl ⟨_, rfl, rfl, h10⟩
    · have h11 := h8.2 c9
      refine mz_go_blk mz_m179 4 (pc' := 33) (L' := [some (.ref 55), some (.int a1), some (.int r3), some (.int r6)]) (S' := [.int r3, .int r6, .int a1, .ref 55]) (sh' := mz_sh) (m' := m4) (g := true) rfl rfl (rfl) ?_
      refine mz_go_call mz_m179 mz_m178 rfl rfl rfl rfl rfl rfl rfl h11 (fun v sh1 m12 hv => ?_)
      obtain ⟨r14, rfl, rfl, h13⟩ := hv
      refine mz_go_call mz_m179 mz_m174 rfl rfl rfl rfl rfl rfl rfl h13 (fun v sh1 m15 hv => ?_)
      obtain ⟨rfl, rfl, h16⟩ := hv
      refine mz_go_blk mz_m179 1 (pc' := 40) (L' := [some (.ref 55), some (.int a1), some (.int r3), some (.int r6)]) (S' := [.int (-1)]) (sh' := mz_sh) (m' := m15) (g := true) rfl rfl (rfl) ?_
      exact mz_go_ret mz_m179 rfl rfl rfl ⟨_, rfl, rfl, h16⟩
  · have h17 := h5.2 c7
    refine mz_go_blk mz_m179 3 (pc' := (if a1 = 15 then 22 else 29)) (L' := [some (.ref 55), some (.int a1), some (.int r3), some (.int r6)]) (S' := []) (sh' := mz_sh) (m' := m4) (g := true) rfl rfl (rfl) ?_
    refine mz_go_if (fun c18 => ?_) (fun c18 => ?_)
    · have h19 := h17.1 c18
      refine mz_go_blk mz_m179 2 (pc' := (if r3 = 0 then 26 else 29)) (L' := [some (.ref 55), some (.int a1), some (.int r3), some (.int r6)]) (S' := []) (sh' := mz_sh) (m' := m4) (g := true) rfl rfl (rfl) ?_
      refine mz_go_if (fun c20 => ?_) (fun c20 => ?_)
      · have h21 := h19.1 c20
        refine mz_go_blk mz_m179 1 (pc' := 28) (L' := [some (.ref 55), some (.int a1), some (.int r3), some (.int r6)]) (S' := [.int (-3)]) (sh' := mz_sh) (m' := m4) (g := true) rfl rfl (rfl) ?_
        exact mz_go_ret mz_m179 rfl rfl rfl ⟨_, rfl, rfl, h21⟩
      · have h22 := h19.2 c20
        refine mz_go_blk mz_m179 4 (pc' := 33) (L' := [some (.ref 55), some (.int a1), some (.int r3), some (.int r6)]) (S' := [.int r3, .int r6, .int a1, .ref 55]) (sh' := mz_sh) (m' := m4) (g := true) rfl rfl (rfl) ?_
        refine mz_go_call mz_m179 mz_m178 rfl rfl rfl rfl rfl rfl rfl h22 (fun v sh1 m23 hv => ?_)
        obtain ⟨r25, rfl, rfl, h24⟩ := hv
        refine mz_go_call mz_m179 mz_m174 rfl rfl rfl rfl rfl rfl rfl h24 (fun v sh1 m26 hv => ?_)
        obtain ⟨rfl, rfl, h27⟩ := hv
        refine mz_go_blk mz_m179 1 (pc' := 40) (L' := [some (.ref 55), some (.int a1), some (.int r3), some (.int r6)]) (S' := [.int (-1)]) (sh' := mz_sh) (m' := m26) (g := true) rfl rfl (rfl) ?_
        exact mz_go_ret mz_m179 rfl rfl rfl ⟨_, rfl, rfl, h27⟩
    · have h28 := h17.2 c18
      refine mz_go_blk mz_m179 4 (pc' := 33) (L' := [some (.ref 55), some (.int a1), some (.int r3), some (.int r6)]) (S' := [.int r3, .int r6, .int a1, .ref 55]) (sh' := mz_sh) (m' := m4) (g := true) rfl rfl (rfl) ?_
      refine mz_go_call mz_m179 mz_m178 rfl rfl rfl rfl rfl rfl rfl h28 (fun v sh1 m29 hv => ?_)
      obtain ⟨r31, rfl, rfl, h30⟩ := hv
      refine mz_go_call mz_m179 mz_m174 rfl rfl rfl rfl rfl rfl rfl h30 (fun v sh1 m32 hv => ?_)
      obtain ⟨rfl, rfl, h33⟩ := hv
      refine mz_go_blk mz_m179 1 (pc' := 40) (L' := [some (.ref 55), some (.int a1), some (.int r3), some (.int r6)]) (S' := [.int (-1)]) (sh' := mz_sh) (m' := m32) (g := true) rfl rfl (rfl) ?_
      exact mz_go_ret mz_m179 rfl rfl rfl ⟨_, rfl, rfl, h33⟩
set_option maxRecDepth 100000 in
theorem t_M_logic_0 {X : mz_X} {m : mz_M} {Q : Int32 → mz_M → Prop} (a1 : Int32)
    (h : mz_inb a1 12100 = true ∧ (((m 92 a1.toNatClampNeg) = 0 → mz_inb a1 12100 = true ∧ Q (m 86 a1.toNatClampNeg) m) ∧ (¬ ((m 92 a1.toNatClampNeg) = 0) → mz_gi X mz_sh 175 0 [some (.ref 55)] m (fun r10 m8 => (((m 92 a1.toNatClampNeg) = 1 → ((r10 = 0 → mz_inb a1 12100 = true ∧ (((m8 82 a1.toNatClampNeg) = 8 → ((r10 = 0 → mz_gi X mz_sh 177 0 [some (.int 0)] m8 (fun r23 m21 => mz_gv X mz_sh 174 0 [some (.ref 55), some (.int r23)] m21 (fun m24 => Q (-1) m24))) ∧ (¬ (r10 = 0) → mz_gi X mz_sh 177 0 [some (.int 1)] m8 (fun r29 m27 => mz_gv X mz_sh 174 0 [some (.ref 55), some (.int r29)] m27 (fun m30 => Q (-1) m30))))) ∧ (¬ ((m8 82 a1.toNatClampNeg) = 8) → mz_inb a1 12100 = true ∧ Q (m8 87 a1.toNatClampNeg) m8))) ∧ (¬ (r10 = 0) → mz_inb a1 12100 = true ∧ (((m8 82 a1.toNatClampNeg) = 8 → mz_inb a1 12100 = true ∧ Q (m8 87 a1.toNatClampNeg) m8) ∧ (¬ ((m8 82 a1.toNatClampNeg) = 8) → ((r10 = 0 → mz_gi X mz_sh 177 0 [some (.int 0)] m8 (fun r47 m45 => mz_gv X mz_sh 174 0 [some (.ref 55), some (.int r47)] m45 (fun m48 => Q (-1) m48))) ∧ (¬ (r10 = 0) → mz_gi X mz_sh 177 0 [some (.int 1)] m8 (fun r53 m51 => mz_gv X mz_sh 174 0 [some (.ref 55), some (.int r53)] m51 (fun m54 => Q (-1) m54))))))))) ∧ (¬ ((m 92 a1.toNatClampNeg) = 1) → ((r10 = 0 → mz_gi X mz_sh 177 0 [some (.int 0)] m8 (fun r61 m59 => mz_gv X mz_sh 174 0 [some (.ref 55), some (.int r61)] m59 (fun m62 => Q (-1) m62))) ∧ (¬ (r10 = 0) → mz_gi X mz_sh 177 0 [some (.int 1)] m8 (fun r67 m65 => mz_gv X mz_sh 174 0 [some (.ref 55), some (.int r67)] m65 (fun m68 => Q (-1) m68)))))))))) :
    mz_gi X mz_sh 180 0 [some (.ref 55), some (.int a1), none, none] m Q := by
  obtain ⟨g1, h2⟩ := h
  refine mz_go_blk mz_m180 7 (pc' := (if (m 92 a1.toNatClampNeg) = 0 then 11 else 18)) (L' := [some (.ref 55), some (.int a1), some (.int (m 92 a1.toNatClampNeg)), none]) (S' := []) (sh' := mz_sh) (m' := m) (g := mz_inb a1 12100 && true) rfl rfl (mz_and2 (g1) (rfl)) ?_
  refine mz_go_if (fun c3 => ?_) (fun c3 => ?_)
  · have h4 := h2.1 c3
    obtain ⟨g5, h6⟩ := h4
    refine mz_go_blk mz_m180 4 (pc' := 17) (L' := [some (.ref 55), some (.int a1), some (.int (m 92 a1.toNatClampNeg)), none]) (S' := [.int (m 86 a1.toNatClampNeg)]) (sh' := mz_sh) (m' := m) (g := mz_inb a1 12100 && true) rfl rfl (mz_and2 (g5) (rfl)) ?_
    exact mz_go_ret mz_m180 rfl rfl rfl ⟨_, rfl, rfl, h6⟩
  · have h7 := h2.2 c3
    refine mz_go_blk mz_m180 1 (pc' := 19) (L' := [some (.ref 55), some (.int a1), some (.int (m 92 a1.toNatClampNeg)), none]) (S' := [.ref 55]) (sh' := mz_sh) (m' := m) (g := true) rfl rfl (rfl) ?_
    refine mz_go_call mz_m180 mz_m175 rfl rfl rfl rfl rfl rfl rfl h7 (fun v sh1 m8 hv => ?_)
    obtain ⟨r10, rfl, rfl, h9⟩ := hv
    refine mz_go_blk mz_m180 4 (pc' := (if (m 92 a1.toNatClampNeg) = 1 then 28 else 63)) (L' := [some (.ref 55), some (.int a1), some (.int (m 92 a1.toNatClampNeg)), some (.int r10)]) (S' := []) (sh' := mz_sh) (m' := m8) (g := true) rfl rfl (rfl) ?_
    refine mz_go_if (fun c11 => ?_) (fun c11 => ?_)
    · have h12 := h9.1 c11
      refine mz_go_blk mz_m180 2 (pc' := (if r10 = 0 then 36 else 32)) (L' := [some (.ref 55), some (.int a1), some (.int (m 92 a1.toNatClampNeg)), some (.int r10)]) (S' := []) (sh' := mz_sh) (m' := m8) (g := true) rfl rfl (rfl) ?_
      refine mz_go_if (fun c13 => ?_) (fun c13 => ?_)
      · have h14 := h12.1 c13
        obtain ⟨g15, h16⟩ := h14
        refine mz_go_blk mz_m180 7 (pc' := (if (m8 82 a1.toNatClampNeg) = 8 then 48 else 52)) (L' := [some (.ref 55), some (.int a1), some (.int (m 92 a1.toNatClampNeg)), some (.int r10)]) (S' := [.int 0]) (sh' := mz_sh) (m' := m8) (g := mz_inb a1 12100 && true) rfl rfl (mz_and2 (g15) (rfl)) ?_
        refine mz_go_if (fun c17 => ?_) (fun c17 => ?_)
        · have h18 := h16.1 c17
          refine mz_go_blk mz_m180 6 (pc' := (if r10 = 0 then 72 else 68)) (L' := [some (.ref 55), some (.int a1), some (.int (m 92 a1.toNatClampNeg)), some (.int r10)]) (S' := [.ref 55]) (sh' := mz_sh) (m' := m8) (g := true) rfl rfl (rfl) ?_
          refine mz_go_if (fun c19 => ?_) (fun c19 => ?_)
          · have h20 := h18.1 c19
            refine mz_go_blk mz_m180 1 (pc' := 73) (L' := [some (.ref 55), some (.int a1), some (.int (m 92 a1.toNatClampNeg)), some (.int r10)]) (S' := [.int 0, .ref 55]) (sh' := mz_sh) (m' := m8) (g := true) rfl rfl (rfl) ?_
            refine mz_go_call mz_m180 mz_m177 rfl rfl rfl rfl rfl rfl rfl h20 (fun v sh1 m21 hv => ?_)
            obtain ⟨r23, rfl, rfl, h22⟩ := hv
            refine mz_go_call mz_m180 mz_m174 rfl rfl rfl rfl rfl rfl rfl h22 (fun v sh1 m24 hv => ?_)
            obtain ⟨rfl, rfl, h25⟩ := hv
            refine mz_go_blk mz_m180 1 (pc' := 80) (L' := [some (.ref 55), some (.int a1), some (.int (m 92 a1.toNatClampNeg)), some (.int r10)]) (S' := [.int (-1)]) (sh' := mz_sh) (m' := m24) (g := true) rfl rfl (rfl) ?_
            exact mz_go_ret mz_m180 rfl rfl rfl ⟨_, rfl, rfl, h25⟩
          · have h26 := h18.2 c19
            refine mz_go_blk mz_m180 2 (pc' := 73) (L' := [some (.ref 55), some (.int a1), some (.int (m 92 a1.toNatClampNeg)), some (.int r10)]) (S' := [.int 1, .ref 55]) (sh' := mz_sh) (m' := m8) (g := true) rfl rfl (rfl) ?_
            refine mz_go_call mz_m180 mz_m177 rfl rfl rfl rfl rfl rfl rfl h26 (fun v sh1 m27 hv => ?_)
            obtain ⟨r29, rfl, rfl, h28⟩ := hv
            refine mz_go_call mz_m180 mz_m174 rfl rfl rfl rfl rfl rfl rfl h28 (fun v sh1 m30 hv => ?_)
            obtain ⟨rfl, rfl, h31⟩ := hv
            refine mz_go_blk mz_m180 1 (pc' := 80) (L' := [some (.ref 55), some (.int a1), some (.int (m 92 a1.toNatClampNeg)), some (.int r10)]) (S' := [.int (-1)]) (sh' := mz_sh) (m' := m30) (g := true) rfl rfl (rfl) ?_
            exact mz_go_ret mz_m180 rfl rfl rfl ⟨_, rfl, rfl, h31⟩
        · have h32 := h16.2 c17
          obtain ⟨g33, h34⟩ := h32
          refine mz_go_blk mz_m180 6 (pc' := 62) (L' := [some (.ref 55), some (.int a1), some (.int (m 92 a1.toNatClampNeg)), some (.int r10)]) (S' := [.int (m8 87 a1.toNatClampNeg)]) (sh' := mz_sh) (m' := m8) (g := mz_inb a1 12100 && true) rfl rfl (mz_and2 (g33) (rfl)) ?_
          exact mz_go_ret mz_m180 rfl rfl rfl ⟨_, rfl, rfl, h34⟩
      · have h35 := h12.2 c13
        obtain ⟨g36, h37⟩ := h35
        refine mz_go_blk mz_m180 8 (pc' := (if (m8 82 a1.toNatClampNeg) = 8 then 48 else 52)) (L' := [some (.ref 55), some (.int a1), some (.int (m 92 a1.toNatClampNeg)), some (.int r10)]) (S' := [.int 1]) (sh' := mz_sh) (m' := m8) (g := mz_inb a1 12100 && true) rfl rfl (mz_and2 (g36) (rfl)) ?_
        refine mz_go_if (fun c38 => ?_) (fun c38 => ?_)
        · have h39 := h37.1 c38
          obtain ⟨g40, h41⟩ := h39
          refine mz_go_blk mz_m180 7 (pc' := 62) (L' := [some (.ref 55), some (.int a1), some (.int (m 92 a1.toNatClampNeg)), some (.int r10)]) (S' := [.int (m8 87 a1.toNatClampNeg)]) (sh' := mz_sh) (m' := m8) (g := mz_inb a1 12100 && true) rfl rfl (mz_and2 (g40) (rfl)) ?_
          exact mz_go_ret mz_m180 rfl rfl rfl ⟨_, rfl, rfl, h41⟩
        · have h42 := h37.2 c38
          refine mz_go_blk mz_m180 5 (pc' := (if r10 = 0 then 72 else 68)) (L' := [some (.ref 55), some (.int a1), some (.int (m 92 a1.toNatClampNeg)), some (.int r10)]) (S' := [.ref 55]) (sh' := mz_sh) (m' := m8) (g := true) rfl rfl (rfl) ?_
          refine mz_go_if (fun c43 => ?_) (fun c43 => ?_)
          · have h44 := h42.1 c43
            refine mz_go_blk mz_m180 1 (pc' := 73) (L' := [some (.ref 55), some (.int a1), some (.int (m 92 a1.toNatClampNeg)), some (.int r10)]) (S' := [.int 0, .ref 55]) (sh' := mz_sh) (m' := m8) (g := true) rfl rfl (rfl) ?_
            refine mz_go_call mz_m180 mz_m177 rfl rfl rfl rfl rfl rfl rfl h44 (fun v sh1 m45 hv => ?_)
            obtain ⟨r47, rfl, rfl, h46⟩ := hv
            refine mz_go_call mz_m180 mz_m174 rfl rfl rfl rfl rfl rfl rfl h46 (fun v sh1 m48 hv => ?_)
            obtain ⟨rfl, rfl, h49⟩ := hv
            refine mz_go_blk mz_m180 1 (pc' := 80) (L' := [some (.ref 55), some (.int a1), some (.int (m 92 a1.toNatClampNeg)), some (.int r10)]) (S' := [.int (-1)]) (sh' := mz_sh) (m' := m48) (g := true) rfl rfl (rfl) ?_
            exact mz_go_ret mz_m180 rfl rfl rfl ⟨_, rfl, rfl, h49⟩
          · have h50 := h42.2 c43
            refine mz_go_blk mz_m180 2 (pc' := 73) (L' := [some (.ref 55), some (.int a1), some (.int (m 92 a1.toNatClampNeg)), some (.int r10)]) (S' := [.int 1, .ref 55]) (sh' := mz_sh) (m' := m8) (g := true) rfl rfl (rfl) ?_
            refine mz_go_call mz_m180 mz_m177 rfl rfl rfl rfl rfl rfl rfl h50 (fun v sh1 m51 hv => ?_)
            obtain ⟨r53, rfl, rfl, h52⟩ := hv
            refine mz_go_call mz_m180 mz_m174 rfl rfl rfl rfl rfl rfl rfl h52 (fun v sh1 m54 hv => ?_)
            obtain ⟨rfl, rfl, h55⟩ := hv
            refine mz_go_blk mz_m180 1 (pc' := 80) (L' := [some (.ref 55), some (.int a1), some (.int (m 92 a1.toNatClampNeg)), some (.int r10)]) (S' := [.int (-1)]) (sh' := mz_sh) (m' := m54) (g := true) rfl rfl (rfl) ?_
            exact mz_go_ret mz_m180 rfl rfl rfl ⟨_, rfl, rfl, h55⟩
    · have h56 := h9.2 c11
      refine mz_go_blk mz_m180 3 (pc' := (if r10 = 0 then 72 else 68)) (L' := [some (.ref 55), some (.int a1), some (.int (m 92 a1.toNatClampNeg)), some (.int r10)]) (S' := [.ref 55]) (sh' := mz_sh) (m' := m8) (g := true) rfl rfl (rfl) ?_
      refine mz_go_if (fun c57 => ?_) (fun c57 => ?_)
      · have h58 := h56.1 c57
        refine mz_go_blk mz_m180 1 (pc' := 73) (L' := [some (.ref 55), some (.int a1), some (.int (m 92 a1.toNatClampNeg)), some (.int r10)]) (S' := [.int 0, .ref 55]) (sh' := mz_sh) (m' := m8) (g := true) rfl rfl (rfl) ?_
        refine mz_go_call mz_m180 mz_m177 rfl rfl rfl rfl rfl rfl rfl h58 (fun v sh1 m59 hv => ?_)
        obtain ⟨r61, rfl, rfl, h60⟩ := hv
        refine mz_go_call mz_m180 mz_m174 rfl rfl rfl rfl rfl rfl rfl h60 (fun v sh1 m62 hv => ?_)
        obtain ⟨rfl, rfl, h63⟩ := hv
        refine mz_go_blk mz_m180 1 (pc' := 80) (L' := [some (.ref 55), some (.int a1), some (.int (m 92 a1.toNatClampNeg)), some (.int r10)]) (S' := [.int (-1)]) (sh' := mz_sh) (m' := m62) (g := true) rfl rfl (rfl) ?_
        exact mz_go_ret mz_m180 rfl rfl rfl ⟨_, rfl, rfl, h63⟩
      · have h64 := h56.2 c57
        refine mz_go_blk mz_m180 2 (pc' := 73) (L' := [some (.ref 55), some (.int a1), some (.int (m 92 a1.toNatClampNeg)), some (.int r10)]) (S' := [.int 1, .ref 55]) (sh' := mz_sh) (m' := m8) (g := true) rfl rfl (rfl) ?_
        refine mz_go_call mz_m180 mz_m177 rfl rfl rfl rfl rfl rfl rfl h64 (fun v sh1 m65 hv => ?_)
        obtain ⟨r67, rfl, rfl, h66⟩ := hv
        refine mz_go_call mz_m180 mz_m174 rfl rfl rfl rfl rfl rfl rfl h66 (fun v sh1 m68 hv => ?_)
        obtain ⟨rfl, rfl, h69⟩ := hv
        refine mz_go_blk mz_m180 1 (pc' := 80) (L' := [some (.ref 55), some (.int a1), some (.int (m 92 a1.toNatClampNeg)), some (.int r10)]) (S' := [.int (-1)]) (sh' := mz_sh) (m' := m68) (g := true) rfl rfl (rfl) ?_
        exact mz_go_ret mz_m180 rfl rfl rfl ⟨_, rfl, rfl, h69⟩
set_option maxRecDepth 100000 in
theorem t_M_choose_0 {X : mz_X} {m : mz_M} {Q : Int32 → mz_M → Prop} (a1 : Int32)
    (h : mz_inb a1 12100 = true ∧ (((m 92 a1.toNatClampNeg) = 0 → mz_inb a1 12100 = true ∧ Q (m 86 a1.toNatClampNeg) m) ∧ (¬ ((m 92 a1.toNatClampNeg) = 0) → mz_inb a1 12100 = true ∧ (((m 92 a1.toNatClampNeg) = 2 → Q (-1) m) ∧ (¬ ((m 92 a1.toNatClampNeg) = 2) → mz_inb a1 12100 = true ∧ mz_inb (m 86 a1.toNatClampNeg) 12100 = true ∧ mz_gi X mz_sh 175 0 [some (.ref 55)] m (fun r18 m16 => ((r18 = 0 → mz_inb a1 12100 = true ∧ (((m16 84 a1.toNatClampNeg) = 3 → mz_inb a1 12100 = true ∧ Q (m16 87 a1.toNatClampNeg) m16) ∧ (¬ ((m16 84 a1.toNatClampNeg) = 3) → Q (-1) m16))) ∧ (¬ (r18 = 0) → Q (m 88 ((m 86 a1.toNatClampNeg).toNatClampNeg)) m16)))))))) :
    mz_gi X mz_sh 181 0 [some (.ref 55), some (.int a1), none] m Q := by
  obtain ⟨g1, h2⟩ := h
  refine mz_go_blk mz_m181 5 (pc' := (if (m 92 a1.toNatClampNeg) = 0 then 9 else 16)) (L' := [some (.ref 55), some (.int a1), none]) (S' := []) (sh' := mz_sh) (m' := m) (g := mz_inb a1 12100 && true) rfl rfl (mz_and2 (g1) (rfl)) ?_
  refine mz_go_if (fun c3 => ?_) (fun c3 => ?_)
  · have h4 := h2.1 c3
    obtain ⟨g5, h6⟩ := h4
    refine mz_go_blk mz_m181 4 (pc' := 15) (L' := [some (.ref 55), some (.int a1), none]) (S' := [.int (m 86 a1.toNatClampNeg)]) (sh' := mz_sh) (m' := m) (g := mz_inb a1 12100 && true) rfl rfl (mz_and2 (g5) (rfl)) ?_
    exact mz_go_ret mz_m181 rfl rfl rfl ⟨_, rfl, rfl, h6⟩
  · have h7 := h2.2 c3
    obtain ⟨g8, h9⟩ := h7
    refine mz_go_blk mz_m181 6 (pc' := (if (m 92 a1.toNatClampNeg) = 2 then 26 else 28)) (L' := [some (.ref 55), some (.int a1), none]) (S' := []) (sh' := mz_sh) (m' := m) (g := mz_inb a1 12100 && true) rfl rfl (mz_and2 (g8) (rfl)) ?_
    refine mz_go_if (fun c10 => ?_) (fun c10 => ?_)
    · have h11 := h9.1 c10
      refine mz_go_blk mz_m181 1 (pc' := 27) (L' := [some (.ref 55), some (.int a1), none]) (S' := [.int (-1)]) (sh' := mz_sh) (m' := m) (g := true) rfl rfl (rfl) ?_
      exact mz_go_ret mz_m181 rfl rfl rfl ⟨_, rfl, rfl, h11⟩
    · have h12 := h9.2 c10
      obtain ⟨g13, g14, h15⟩ := h12
      refine mz_go_blk mz_m181 9 (pc' := 41) (L' := [some (.ref 55), some (.int a1), some (.int (m 88 ((m 86 a1.toNatClampNeg).toNatClampNeg)))]) (S' := [.ref 55]) (sh' := mz_sh) (m' := m) (g := mz_inb (m 86 a1.toNatClampNeg) 12100 && (mz_inb a1 12100 && true)) rfl rfl (mz_and2 (g14) (mz_and2 (g13) (rfl))) ?_
      refine mz_go_call mz_m181 mz_m175 rfl rfl rfl rfl rfl rfl rfl h15 (fun v sh1 m16 hv => ?_)
      obtain ⟨r18, rfl, rfl, h17⟩ := hv
      refine mz_go_blk mz_m181 1 (pc' := (if r18 = 0 then 51 else 47)) (L' := [some (.ref 55), some (.int a1), some (.int (m 88 ((m 86 a1.toNatClampNeg).toNatClampNeg)))]) (S' := []) (sh' := mz_sh) (m' := m16) (g := true) rfl rfl (rfl) ?_
      refine mz_go_if (fun c19 => ?_) (fun c19 => ?_)
      · have h20 := h17.1 c19
        obtain ⟨g21, h22⟩ := h20
        refine mz_go_blk mz_m181 6 (pc' := (if (m16 84 a1.toNatClampNeg) = 3 then 61 else 70)) (L' := [some (.ref 55), some (.int a1), some (.int (m 88 ((m 86 a1.toNatClampNeg).toNatClampNeg)))]) (S' := []) (sh' := mz_sh) (m' := m16) (g := mz_inb a1 12100 && true) rfl rfl (mz_and2 (g21) (rfl)) ?_
        refine mz_go_if (fun c23 => ?_) (fun c23 => ?_)
        · have h24 := h22.1 c23
          obtain ⟨g25, h26⟩ := h24
          refine mz_go_blk mz_m181 5 (pc' := 71) (L' := [some (.ref 55), some (.int a1), some (.int (m 88 ((m 86 a1.toNatClampNeg).toNatClampNeg)))]) (S' := [.int (m16 87 a1.toNatClampNeg)]) (sh' := mz_sh) (m' := m16) (g := mz_inb a1 12100 && true) rfl rfl (mz_and2 (g25) (rfl)) ?_
          exact mz_go_ret mz_m181 rfl rfl rfl ⟨_, rfl, rfl, h26⟩
        · have h27 := h22.2 c23
          refine mz_go_blk mz_m181 1 (pc' := 71) (L' := [some (.ref 55), some (.int a1), some (.int (m 88 ((m 86 a1.toNatClampNeg).toNatClampNeg)))]) (S' := [.int (-1)]) (sh' := mz_sh) (m' := m16) (g := true) rfl rfl (rfl) ?_
          exact mz_go_ret mz_m181 rfl rfl rfl ⟨_, rfl, rfl, h27⟩
      · have h28 := h17.2 c19
        refine mz_go_blk mz_m181 2 (pc' := 71) (L' := [some (.ref 55), some (.int a1), some (.int (m 88 ((m 86 a1.toNatClampNeg).toNatClampNeg)))]) (S' := [.int (m 88 ((m 86 a1.toNatClampNeg).toNatClampNeg))]) (sh' := mz_sh) (m' := m16) (g := true) rfl rfl (rfl) ?_
        exact mz_go_ret mz_m181 rfl rfl rfl ⟨_, rfl, rfl, h28⟩
set_option maxRecDepth 100000 in
theorem t_M_round_0 {X : mz_X} {m : mz_M} {Q : Int32 → mz_M → Prop} (a1 : Int32)
    (h : mz_inb a1 12100 = true ∧ (((m 92 a1.toNatClampNeg) = 1 → mz_gi X mz_sh 175 0 [some (.ref 55)] m (fun r7 m5 => ((r7 = 0 → Q (-1) m5) ∧ (¬ (r7 = 0) → mz_inb a1 12100 = true ∧ Q (m5 87 a1.toNatClampNeg) m5)))) ∧ (¬ ((m 92 a1.toNatClampNeg) = 1) → mz_inb a1 12100 = true ∧ mz_gi X mz_sh 173 0 [some (.ref 55), some (.int a1)] (mz_up m 92 a1.toNatClampNeg 0) (fun r18 m16 => ((r18 = 0 → Q (-2) m16) ∧ (¬ (r18 = 0) → mz_inb a1 12100 = true ∧ Q (m16 86 a1.toNatClampNeg) m16)))))) :
    mz_gi X mz_sh 182 0 [some (.ref 55), some (.int a1)] m Q := by
  obtain ⟨g1, h2⟩ := h
  refine mz_go_blk mz_m182 6 (pc' := (if (m 92 a1.toNatClampNeg) = 1 then 10 else 28)) (L' := [some (.ref 55), some (.int a1)]) (S' := []) (sh' := mz_sh) (m' := m) (g := mz_inb a1 12100 && true) rfl rfl (mz_and2 (g1) (rfl)) ?_
  refine mz_go_if (fun c3 => ?_) (fun c3 => ?_)
  · have h4 := h2.1 c3
    refine mz_go_blk mz_m182 1 (pc' := 11) (L' := [some (.ref 55), some (.int a1)]) (S' := [.ref 55]) (sh' := mz_sh) (m' := m) (g := true) rfl rfl (rfl) ?_
    refine mz_go_call mz_m182 mz_m175 rfl rfl rfl rfl rfl rfl rfl h4 (fun v sh1 m5 hv => ?_)
    obtain ⟨r7, rfl, rfl, h6⟩ := hv
    refine mz_go_blk mz_m182 1 (pc' := (if r7 = 0 then 26 else 17)) (L' := [some (.ref 55), some (.int a1)]) (S' := []) (sh' := mz_sh) (m' := m5) (g := true) rfl rfl (rfl) ?_
    refine mz_go_if (fun c8 => ?_) (fun c8 => ?_)
    · have h9 := h6.1 c8
      refine mz_go_blk mz_m182 1 (pc' := 27) (L' := [some (.ref 55), some (.int a1)]) (S' := [.int (-1)]) (sh' := mz_sh) (m' := m5) (g := true) rfl rfl (rfl) ?_
      exact mz_go_ret mz_m182 rfl rfl rfl ⟨_, rfl, rfl, h9⟩
    · have h10 := h6.2 c8
      obtain ⟨g11, h12⟩ := h10
      refine mz_go_blk mz_m182 5 (pc' := 27) (L' := [some (.ref 55), some (.int a1)]) (S' := [.int (m5 87 a1.toNatClampNeg)]) (sh' := mz_sh) (m' := m5) (g := mz_inb a1 12100 && true) rfl rfl (mz_and2 (g11) (rfl)) ?_
      exact mz_go_ret mz_m182 rfl rfl rfl ⟨_, rfl, rfl, h12⟩
  · have h13 := h2.2 c3
    obtain ⟨g14, h15⟩ := h13
    refine mz_go_blk mz_m182 7 (pc' := 37) (L' := [some (.ref 55), some (.int a1)]) (S' := [.int a1, .ref 55]) (sh' := mz_sh) (m' := mz_up m 92 a1.toNatClampNeg 0) (g := mz_inb a1 12100 && true) rfl rfl (mz_and2 (g14) (rfl)) ?_
    refine mz_go_call mz_m182 mz_m173 rfl rfl rfl rfl rfl rfl rfl h15 (fun v sh1 m16 hv => ?_)
    obtain ⟨r18, rfl, rfl, h17⟩ := hv
    refine mz_go_blk mz_m182 1 (pc' := (if r18 = 0 then 52 else 43)) (L' := [some (.ref 55), some (.int a1)]) (S' := []) (sh' := mz_sh) (m' := m16) (g := true) rfl rfl (rfl) ?_
    refine mz_go_if (fun c19 => ?_) (fun c19 => ?_)
    · have h20 := h17.1 c19
      refine mz_go_blk mz_m182 1 (pc' := 54) (L' := [some (.ref 55), some (.int a1)]) (S' := [.int (-2)]) (sh' := mz_sh) (m' := m16) (g := true) rfl rfl (rfl) ?_
      exact mz_go_ret mz_m182 rfl rfl rfl ⟨_, rfl, rfl, h20⟩
    · have h21 := h17.2 c19
      obtain ⟨g22, h23⟩ := h21
      refine mz_go_blk mz_m182 5 (pc' := 54) (L' := [some (.ref 55), some (.int a1)]) (S' := [.int (m16 86 a1.toNatClampNeg)]) (sh' := mz_sh) (m' := m16) (g := mz_inb a1 12100 && true) rfl rfl (mz_and2 (g22) (rfl)) ?_
      exact mz_go_ret mz_m182 rfl rfl rfl ⟨_, rfl, rfl, h23⟩
set_option maxRecDepth 100000 in
theorem t_M_advance_0 {X : mz_X} {m : mz_M} {Q : Int32 → mz_M → Prop} (a1 : Int32)
    (h : mz_inb a1 12100 = true ∧ (((m 82 a1.toNatClampNeg) = 0 → mz_inb a1 12100 = true ∧ (((m 92 a1.toNatClampNeg) = 0 → mz_inb a1 12100 = true ∧ Q (m 86 a1.toNatClampNeg) m) ∧ (¬ ((m 92 a1.toNatClampNeg) = 0) → mz_inb a1 12100 = true ∧ mz_inb (m 93 a1.toNatClampNeg) 12100 = true ∧ Q (m 88 ((m 93 a1.toNatClampNeg).toNatClampNeg)) m))) ∧ ((m 82 a1.toNatClampNeg) = 1 → mz_inb a1 12100 = true ∧ (((m 92 a1.toNatClampNeg) = 0 → mz_inb a1 12100 = true ∧ Q (m 86 a1.toNatClampNeg) m) ∧ (¬ ((m 92 a1.toNatClampNeg) = 0) → (((m 82 a1.toNatClampNeg) = 1 → mz_inb a1 12100 = true ∧ mz_inb (m 83 a1.toNatClampNeg) 4001 = true ∧ mz_gi X mz_sh 175 0 [some (.ref 55)] m (fun r32 m30 => mz_inb (m 70 ((m 83 a1.toNatClampNeg).toNatClampNeg)) 32 = true ∧ mz_gi X mz_sh 183 186 [some (.ref 55), none, none] (mz_up m30 97 ((m 70 ((m 83 a1.toNatClampNeg).toNatClampNeg)).toNatClampNeg) r32) Q)) ∧ (¬ ((m 82 a1.toNatClampNeg) = 1) → mz_gi X mz_sh 175 0 [some (.ref 55)] m (fun r38 m36 => mz_gv X mz_sh 176 0 [some (.ref 55), some (.int r38)] m36 (fun m39 => mz_gi X mz_sh 183 186 [some (.ref 55), none, none] m39 Q))))))) ∧ ((m 82 a1.toNatClampNeg) = 2 → mz_inb a1 12100 = true ∧ (((m 92 a1.toNatClampNeg) = 0 → mz_inb a1 12100 = true ∧ Q (m 86 a1.toNatClampNeg) m) ∧ (¬ ((m 92 a1.toNatClampNeg) = 0) → (((m 82 a1.toNatClampNeg) = 1 → mz_inb a1 12100 = true ∧ mz_inb (m 83 a1.toNatClampNeg) 4001 = true ∧ mz_gi X mz_sh 175 0 [some (.ref 55)] m (fun r58 m56 => mz_inb (m 70 ((m 83 a1.toNatClampNeg).toNatClampNeg)) 32 = true ∧ mz_gi X mz_sh 183 186 [some (.ref 55), none, none] (mz_up m56 97 ((m 70 ((m 83 a1.toNatClampNeg).toNatClampNeg)).toNatClampNeg) r58) Q)) ∧ (¬ ((m 82 a1.toNatClampNeg) = 1) → mz_gi X mz_sh 175 0 [some (.ref 55)] m (fun r64 m62 => mz_gv X mz_sh 176 0 [some (.ref 55), some (.int r64)] m62 (fun m65 => mz_gi X mz_sh 183 186 [some (.ref 55), none, none] m65 Q))))))) ∧ ((m 82 a1.toNatClampNeg) = 3 → mz_gi X mz_sh 181 0 [some (.ref 55), some (.int a1), none] m (fun r72 m70 => Q r72 m70)) ∧ ((m 82 a1.toNatClampNeg) = 4 → mz_gi X mz_sh 182 0 [some (.ref 55), some (.int a1)] m (fun r78 m76 => Q r78 m76)) ∧ ((m 82 a1.toNatClampNeg) = 7 → mz_gi X mz_sh 180 0 [some (.ref 55), some (.int a1), none, none] m (fun r84 m82 => Q r84 m82)) ∧ ((m 82 a1.toNatClampNeg) = 8 → mz_gi X mz_sh 180 0 [some (.ref 55), some (.int a1), none, none] m (fun r90 m88 => Q r90 m88)) ∧ ((m 82 a1.toNatClampNeg) = 16 → mz_inb a1 12100 = true ∧ (((m 92 a1.toNatClampNeg) = 0 → mz_inb a1 12100 = true ∧ Q (m 86 a1.toNatClampNeg) m) ∧ (¬ ((m 92 a1.toNatClampNeg) = 0) → (((m 82 a1.toNatClampNeg) = 17 → mz_gi X mz_sh 175 0 [some (.ref 55)] m (fun r105 m103 => ((r105 = 0 → mz_gi X mz_sh 177 0 [some (.int 1)] m103 (fun r110 m108 => mz_gv X mz_sh 174 0 [some (.ref 55), some (.int r110)] m108 (fun m111 => Q (-1) m111))) ∧ (¬ (r105 = 0) → mz_gi X mz_sh 177 0 [some (.int 0)] m103 (fun r116 m114 => mz_gv X mz_sh 174 0 [some (.ref 55), some (.int r116)] m114 (fun m117 => Q (-1) m117)))))) ∧ (¬ ((m 82 a1.toNatClampNeg) = 17) → mz_gi X mz_sh 175 0 [some (.ref 55)] m (fun r122 m120 => mz_gv X mz_sh 174 0 [some (.ref 55), some (.int (-r122))] m120 (fun m123 => Q (-1) m123))))))) ∧ ((m 82 a1.toNatClampNeg) = 17 → mz_inb a1 12100 = true ∧ (((m 92 a1.toNatClampNeg) = 0 → mz_inb a1 12100 = true ∧ Q (m 86 a1.toNatClampNeg) m) ∧ (¬ ((m 92 a1.toNatClampNeg) = 0) → (((m 82 a1.toNatClampNeg) = 17 → mz_gi X mz_sh 175 0 [some (.ref 55)] m (fun r139 m137 => ((r139 = 0 → mz_gi X mz_sh 177 0 [some (.int 1)] m137 (fun r144 m142 => mz_gv X mz_sh 174 0 [some (.ref 55), some (.int r144)] m142 (fun m145 => Q (-1) m145))) ∧ (¬ (r139 = 0) → mz_gi X mz_sh 177 0 [some (.int 0)] m137 (fun r150 m148 => mz_gv X mz_sh 174 0 [some (.ref 55), some (.int r150)] m148 (fun m151 => Q (-1) m151)))))) ∧ (¬ ((m 82 a1.toNatClampNeg) = 17) → mz_gi X mz_sh 175 0 [some (.ref 55)] m (fun r156 m154 => mz_gv X mz_sh 174 0 [some (.ref 55), some (.int (-r156))] m154 (fun m157 => Q (-1) m157))))))) ∧ ((m 82 a1.toNatClampNeg) = 18 → mz_inb a1 12100 = true ∧ mz_inb (m 83 a1.toNatClampNeg) 4001 = true ∧ mz_inb (m 70 ((m 83 a1.toNatClampNeg).toNatClampNeg)) 32 = true ∧ mz_gv X mz_sh 174 0 [some (.ref 55), some (.int (m 97 ((m 70 ((m 83 a1.toNatClampNeg).toNatClampNeg)).toNatClampNeg)))] m (fun m166 => Q (-1) m166)) ∧ ((m 82 a1.toNatClampNeg) = 19 → mz_inb a1 12100 = true ∧ mz_inb (m 83 a1.toNatClampNeg) 4001 = true ∧ mz_gv X mz_sh 174 0 [some (.ref 55), some (.int (m 70 ((m 83 a1.toNatClampNeg).toNatClampNeg)))] m (fun m174 => Q (-1) m174)) ∧ (¬ (m 82 a1.toNatClampNeg) = 0 → ¬ (m 82 a1.toNatClampNeg) = 1 → ¬ (m 82 a1.toNatClampNeg) = 2 → ¬ (m 82 a1.toNatClampNeg) = 3 → ¬ (m 82 a1.toNatClampNeg) = 4 → ¬ (m 82 a1.toNatClampNeg) = 7 → ¬ (m 82 a1.toNatClampNeg) = 8 → ¬ (m 82 a1.toNatClampNeg) = 16 → ¬ (m 82 a1.toNatClampNeg) = 17 → ¬ (m 82 a1.toNatClampNeg) = 18 → ¬ (m 82 a1.toNatClampNeg) = 19 → mz_inb a1 12100 = true ∧ (((m 92 a1.toNatClampNeg) = 0 → mz_inb a1 12100 = true ∧ Q (m 86 a1.toNatClampNeg) m) ∧ (¬ ((m 92 a1.toNatClampNeg) = 0) → mz_inb a1 12100 = true ∧ (((m 92 a1.toNatClampNeg) = 1 → mz_inb a1 12100 = true ∧ Q (m 87 a1.toNatClampNeg) m) ∧ (¬ ((m 92 a1.toNatClampNeg) = 1) → mz_gi X mz_sh 179 0 [some (.ref 55), some (.int (m 82 a1.toNatClampNeg)), none, none] m (fun r193 m191 => Q r193 m191)))))))) :
    mz_gi X mz_sh 183 0 [some (.ref 55), some (.int a1), none] m Q := by
  obtain ⟨g1, h2⟩ := h
  refine mz_go_blk mz_m183 7 (pc' := (mz_tsw 8 288 0 19 #[96, 126, 126, 180, 186, 288, 288, 192, 192, 288, 288, 288, 288, 288, 288, 288, 198, 198, 249, 271] (m 82 a1.toNatClampNeg))) (L' := [some (.ref 55), some (.int a1), some (.int (m 82 a1.toNatClampNeg))]) (S' := []) (sh' := mz_sh) (m' := m) (g := mz_inb a1 12100 && true) rfl rfl (mz_and2 (g1) (rfl)) ?_
  by_cases c4 : (m 82 a1.toNatClampNeg) = 0
  · have h3 := h2.1 c4
    rw [show mz_tsw 8 288 0 19 #[96, 126, 126, 180, 186, 288, 288, 192, 192, 288, 288, 288, 288, 288, 288, 288, 198, 198, 249, 271] (m 82 a1.toNatClampNeg) = 104 by rw [c4]; decide +kernel]
    obtain ⟨g5, h6⟩ := h3
    refine mz_go_blk mz_m183 5 (pc' := (if (m 92 a1.toNatClampNeg) = 0 then 113 else 122)) (L' := [some (.ref 55), some (.int a1), some (.int (m 82 a1.toNatClampNeg))]) (S' := []) (sh' := mz_sh) (m' := m) (g := mz_inb a1 12100 && true) rfl rfl (mz_and2 (g5) (rfl)) ?_
    refine mz_go_if (fun c7 => ?_) (fun c7 => ?_)
    · have h8 := h6.1 c7
      obtain ⟨g9, h10⟩ := h8
      refine mz_go_blk mz_m183 5 (pc' := 133) (L' := [some (.ref 55), some (.int a1), some (.int (m 82 a1.toNatClampNeg))]) (S' := [.int (m 86 a1.toNatClampNeg)]) (sh' := mz_sh) (m' := m) (g := mz_inb a1 12100 && true) rfl rfl (mz_and2 (g9) (rfl)) ?_
      exact mz_go_ret mz_m183 rfl rfl rfl ⟨_, rfl, rfl, h10⟩
    · have h11 := h6.2 c7
      obtain ⟨g12, g13, h14⟩ := h11
      refine mz_go_blk mz_m183 7 (pc' := 133) (L' := [some (.ref 55), some (.int a1), some (.int (m 82 a1.toNatClampNeg))]) (S' := [.int (m 88 ((m 93 a1.toNatClampNeg).toNatClampNeg))]) (sh' := mz_sh) (m' := m) (g := mz_inb (m 93 a1.toNatClampNeg) 12100 && (mz_inb a1 12100 && true)) rfl rfl (mz_and2 (g13) (mz_and2 (g12) (rfl))) ?_
      exact mz_go_ret mz_m183 rfl rfl rfl ⟨_, rfl, rfl, h14⟩
  have h15 := h2.2
  by_cases c17 : (m 82 a1.toNatClampNeg) = 1
  · have h16 := h15.1 c17
    rw [show mz_tsw 8 288 0 19 #[96, 126, 126, 180, 186, 288, 288, 192, 192, 288, 288, 288, 288, 288, 288, 288, 198, 198, 249, 271] (m 82 a1.toNatClampNeg) = 134 by rw [c17]; decide +kernel]
    obtain ⟨g18, h19⟩ := h16
    refine mz_go_blk mz_m183 5 (pc' := (if (m 92 a1.toNatClampNeg) = 0 then 143 else 150)) (L' := [some (.ref 55), some (.int a1), some (.int (m 82 a1.toNatClampNeg))]) (S' := []) (sh' := mz_sh) (m' := m) (g := mz_inb a1 12100 && true) rfl rfl (mz_and2 (g18) (rfl)) ?_
    refine mz_go_if (fun c20 => ?_) (fun c20 => ?_)
    · have h21 := h19.1 c20
      obtain ⟨g22, h23⟩ := h21
      refine mz_go_blk mz_m183 4 (pc' := 149) (L' := [some (.ref 55), some (.int a1), some (.int (m 82 a1.toNatClampNeg))]) (S' := [.int (m 86 a1.toNatClampNeg)]) (sh' := mz_sh) (m' := m) (g := mz_inb a1 12100 && true) rfl rfl (mz_and2 (g22) (rfl)) ?_
      exact mz_go_ret mz_m183 rfl rfl rfl ⟨_, rfl, rfl, h23⟩
    · have h24 := h19.2 c20
      refine mz_go_blk mz_m183 3 (pc' := (if (m 82 a1.toNatClampNeg) = 1 then 155 else 178)) (L' := [some (.ref 55), some (.int a1), some (.int (m 82 a1.toNatClampNeg))]) (S' := []) (sh' := mz_sh) (m' := m) (g := true) rfl rfl (rfl) ?_
      refine mz_go_if (fun c25 => ?_) (fun c25 => ?_)
      · have h26 := h24.1 c25
        obtain ⟨g27, g28, h29⟩ := h26
        refine mz_go_blk mz_m183 10 (pc' := 171) (L' := [some (.ref 55), some (.int a1), some (.int (m 82 a1.toNatClampNeg))]) (S' := [.ref 55, .int (m 70 ((m 83 a1.toNatClampNeg).toNatClampNeg)), .ref 97]) (sh' := mz_sh) (m' := m) (g := mz_inb (m 83 a1.toNatClampNeg) 4001 && (mz_inb a1 12100 && true)) rfl rfl (mz_and2 (g28) (mz_and2 (g27) (rfl))) ?_
        refine mz_go_call mz_m183 mz_m175 rfl rfl rfl rfl rfl rfl rfl h29 (fun v sh1 m30 hv => ?_)
        obtain ⟨r32, rfl, rfl, h31⟩ := hv
        obtain ⟨g33, h34⟩ := h31
        refine mz_go_blk mz_m183 2 (pc' := 186) (L' := [some (.ref 55), some (.int a1), some (.int (m 82 a1.toNatClampNeg))]) (S' := []) (sh' := mz_sh) (m' := mz_up m30 97 ((m 70 ((m 83 a1.toNatClampNeg).toNatClampNeg)).toNatClampNeg) r32) (g := mz_inb (m 70 ((m 83 a1.toNatClampNeg).toNatClampNeg)) 32 && true) rfl rfl (mz_and2 (g33) (rfl)) ?_
        exact mz_go.forget (L := [some (.ref 55), none, none]) (mz_lel_cons rfl (mz_lel_cons trivial (mz_lel_cons trivial (mz_lel_nil)))) h34
      · have h35 := h24.2 c25
        refine mz_go_blk mz_m183 2 (pc' := 180) (L' := [some (.ref 55), some (.int a1), some (.int (m 82 a1.toNatClampNeg))]) (S' := [.ref 55, .ref 55]) (sh' := mz_sh) (m' := m) (g := true) rfl rfl (rfl) ?_
        refine mz_go_call mz_m183 mz_m175 rfl rfl rfl rfl rfl rfl rfl h35 (fun v sh1 m36 hv => ?_)
        obtain ⟨r38, rfl, rfl, h37⟩ := hv
        refine mz_go_call mz_m183 mz_m176 rfl rfl rfl rfl rfl rfl rfl h37 (fun v sh1 m39 hv => ?_)
        obtain ⟨rfl, rfl, h40⟩ := hv
        exact mz_go.forget (L := [some (.ref 55), none, none]) (mz_lel_cons rfl (mz_lel_cons trivial (mz_lel_cons trivial (mz_lel_nil)))) h40
  have h41 := h15.2
  by_cases c43 : (m 82 a1.toNatClampNeg) = 2
  · have h42 := h41.1 c43
    rw [show mz_tsw 8 288 0 19 #[96, 126, 126, 180, 186, 288, 288, 192, 192, 288, 288, 288, 288, 288, 288, 288, 198, 198, 249, 271] (m 82 a1.toNatClampNeg) = 134 by rw [c43]; decide +kernel]
    obtain ⟨g44, h45⟩ := h42
    refine mz_go_blk mz_m183 5 (pc' := (if (m 92 a1.toNatClampNeg) = 0 then 143 else 150)) (L' := [some (.ref 55), some (.int a1), some (.int (m 82 a1.toNatClampNeg))]) (S' := []) (sh' := mz_sh) (m' := m) (g := mz_inb a1 12100 && true) rfl rfl (mz_and2 (g44) (rfl)) ?_
    refine mz_go_if (fun c46 => ?_) (fun c46 => ?_)
    · have h47 := h45.1 c46
      obtain ⟨g48, h49⟩ := h47
      refine mz_go_blk mz_m183 4 (pc' := 149) (L' := [some (.ref 55), some (.int a1), some (.int (m 82 a1.toNatClampNeg))]) (S' := [.int (m 86 a1.toNatClampNeg)]) (sh' := mz_sh) (m' := m) (g := mz_inb a1 12100 && true) rfl rfl (mz_and2 (g48) (rfl)) ?_
      exact mz_go_ret mz_m183 rfl rfl rfl ⟨_, rfl, rfl, h49⟩
    · have h50 := h45.2 c46
      refine mz_go_blk mz_m183 3 (pc' := (if (m 82 a1.toNatClampNeg) = 1 then 155 else 178)) (L' := [some (.ref 55), some (.int a1), some (.int (m 82 a1.toNatClampNeg))]) (S' := []) (sh' := mz_sh) (m' := m) (g := true) rfl rfl (rfl) ?_
      refine mz_go_if (fun c51 => ?_) (fun c51 => ?_)
      · have h52 := h50.1 c51
        obtain ⟨g53, g54, h55⟩ := h52
        refine mz_go_blk mz_m183 10 (pc' := 171) (L' := [some (.ref 55), some (.int a1), some (.int (m 82 a1.toNatClampNeg))]) (S' := [.ref 55, .int (m 70 ((m 83 a1.toNatClampNeg).toNatClampNeg)), .ref 97]) (sh' := mz_sh) (m' := m) (g := mz_inb (m 83 a1.toNatClampNeg) 4001 && (mz_inb a1 12100 && true)) rfl rfl (mz_and2 (g54) (mz_and2 (g53) (rfl))) ?_
        refine mz_go_call mz_m183 mz_m175 rfl rfl rfl rfl rfl rfl rfl h55 (fun v sh1 m56 hv => ?_)
        obtain ⟨r58, rfl, rfl, h57⟩ := hv
        obtain ⟨g59, h60⟩ := h57
        refine mz_go_blk mz_m183 2 (pc' := 186) (L' := [some (.ref 55), some (.int a1), some (.int (m 82 a1.toNatClampNeg))]) (S' := []) (sh' := mz_sh) (m' := mz_up m56 97 ((m 70 ((m 83 a1.toNatClampNeg).toNatClampNeg)).toNatClampNeg) r58) (g := mz_inb (m 70 ((m 83 a1.toNatClampNeg).toNatClampNeg)) 32 && true) rfl rfl (mz_and2 (g59) (rfl)) ?_
        exact mz_go.forget (L := [some (.ref 55), none, none]) (mz_lel_cons rfl (mz_lel_cons trivial (mz_lel_cons trivial (mz_lel_nil)))) h60
      · have h61 := h50.2 c51
        refine mz_go_blk mz_m183 2 (pc' := 180) (L' := [some (.ref 55), some (.int a1), some (.int (m 82 a1.toNatClampNeg))]) (S' := [.ref 55, .ref 55]) (sh' := mz_sh) (m' := m) (g := true) rfl rfl (rfl) ?_
        refine mz_go_call mz_m183 mz_m175 rfl rfl rfl rfl rfl rfl rfl h61 (fun v sh1 m62 hv => ?_)
        obtain ⟨r64, rfl, rfl, h63⟩ := hv
        refine mz_go_call mz_m183 mz_m176 rfl rfl rfl rfl rfl rfl rfl h63 (fun v sh1 m65 hv => ?_)
        obtain ⟨rfl, rfl, h66⟩ := hv
        exact mz_go.forget (L := [some (.ref 55), none, none]) (mz_lel_cons rfl (mz_lel_cons trivial (mz_lel_cons trivial (mz_lel_nil)))) h66
  have h67 := h41.2
  by_cases c69 : (m 82 a1.toNatClampNeg) = 3
  · have h68 := h67.1 c69
    rw [show mz_tsw 8 288 0 19 #[96, 126, 126, 180, 186, 288, 288, 192, 192, 288, 288, 288, 288, 288, 288, 288, 198, 198, 249, 271] (m 82 a1.toNatClampNeg) = 188 by rw [c69]; decide +kernel]
    refine mz_go_blk mz_m183 2 (pc' := 190) (L' := [some (.ref 55), some (.int a1), some (.int (m 82 a1.toNatClampNeg))]) (S' := [.int a1, .ref 55]) (sh' := mz_sh) (m' := m) (g := true) rfl rfl (rfl) ?_
    refine mz_go_call mz_m183 mz_m181 rfl rfl rfl rfl rfl rfl rfl h68 (fun v sh1 m70 hv => ?_)
    obtain ⟨r72, rfl, rfl, h71⟩ := hv
    exact mz_go_ret mz_m183 rfl rfl rfl ⟨_, rfl, rfl, h71⟩
  have h73 := h67.2
  by_cases c75 : (m 82 a1.toNatClampNeg) = 4
  · have h74 := h73.1 c75
    rw [show mz_tsw 8 288 0 19 #[96, 126, 126, 180, 186, 288, 288, 192, 192, 288, 288, 288, 288, 288, 288, 288, 198, 198, 249, 271] (m 82 a1.toNatClampNeg) = 194 by rw [c75]; decide +kernel]
    refine mz_go_blk mz_m183 2 (pc' := 196) (L' := [some (.ref 55), some (.int a1), some (.int (m 82 a1.toNatClampNeg))]) (S' := [.int a1, .ref 55]) (sh' := mz_sh) (m' := m) (g := true) rfl rfl (rfl) ?_
    refine mz_go_call mz_m183 mz_m182 rfl rfl rfl rfl rfl rfl rfl h74 (fun v sh1 m76 hv => ?_)
    obtain ⟨r78, rfl, rfl, h77⟩ := hv
    exact mz_go_ret mz_m183 rfl rfl rfl ⟨_, rfl, rfl, h77⟩
  have h79 := h73.2
  by_cases c81 : (m 82 a1.toNatClampNeg) = 7
  · have h80 := h79.1 c81
    rw [show mz_tsw 8 288 0 19 #[96, 126, 126, 180, 186, 288, 288, 192, 192, 288, 288, 288, 288, 288, 288, 288, 198, 198, 249, 271] (m 82 a1.toNatClampNeg) = 200 by rw [c81]; decide +kernel]
    refine mz_go_blk mz_m183 2 (pc' := 202) (L' := [some (.ref 55), some (.int a1), some (.int (m 82 a1.toNatClampNeg))]) (S' := [.int a1, .ref 55]) (sh' := mz_sh) (m' := m) (g := true) rfl rfl (rfl) ?_
    refine mz_go_call mz_m183 mz_m180 rfl rfl rfl rfl rfl rfl rfl h80 (fun v sh1 m82 hv => ?_)
    obtain ⟨r84, rfl, rfl, h83⟩ := hv
    exact mz_go_ret mz_m183 rfl rfl rfl ⟨_, rfl, rfl, h83⟩
  have h85 := h79.2
  by_cases c87 : (m 82 a1.toNatClampNeg) = 8
  · have h86 := h85.1 c87
    rw [show mz_tsw 8 288 0 19 #[96, 126, 126, 180, 186, 288, 288, 192, 192, 288, 288, 288, 288, 288, 288, 288, 198, 198, 249, 271] (m 82 a1.toNatClampNeg) = 200 by rw [c87]; decide +kernel]
    refine mz_go_blk mz_m183 2 (pc' := 202) (L' := [some (.ref 55), some (.int a1), some (.int (m 82 a1.toNatClampNeg))]) (S' := [.int a1, .ref 55]) (sh' := mz_sh) (m' := m) (g := true) rfl rfl (rfl) ?_
    refine mz_go_call mz_m183 mz_m180 rfl rfl rfl rfl rfl rfl rfl h86 (fun v sh1 m88 hv => ?_)
    obtain ⟨r90, rfl, rfl, h89⟩ := hv
    exact mz_go_ret mz_m183 rfl rfl rfl ⟨_, rfl, rfl, h89⟩
  have h91 := h85.2
  by_cases c93 : (m 82 a1.toNatClampNeg) = 16
  · have h92 := h91.1 c93
    rw [show mz_tsw 8 288 0 19 #[96, 126, 126, 180, 186, 288, 288, 192, 192, 288, 288, 288, 288, 288, 288, 288, 198, 198, 249, 271] (m 82 a1.toNatClampNeg) = 206 by rw [c93]; decide +kernel]
    obtain ⟨g94, h95⟩ := h92
    refine mz_go_blk mz_m183 5 (pc' := (if (m 92 a1.toNatClampNeg) = 0 then 215 else 222)) (L' := [some (.ref 55), some (.int a1), some (.int (m 82 a1.toNatClampNeg))]) (S' := []) (sh' := mz_sh) (m' := m) (g := mz_inb a1 12100 && true) rfl rfl (mz_and2 (g94) (rfl)) ?_
    refine mz_go_if (fun c96 => ?_) (fun c96 => ?_)
    · have h97 := h95.1 c96
      obtain ⟨g98, h99⟩ := h97
      refine mz_go_blk mz_m183 4 (pc' := 221) (L' := [some (.ref 55), some (.int a1), some (.int (m 82 a1.toNatClampNeg))]) (S' := [.int (m 86 a1.toNatClampNeg)]) (sh' := mz_sh) (m' := m) (g := mz_inb a1 12100 && true) rfl rfl (mz_and2 (g98) (rfl)) ?_
      exact mz_go_ret mz_m183 rfl rfl rfl ⟨_, rfl, rfl, h99⟩
    · have h100 := h95.2 c96
      refine mz_go_blk mz_m183 4 (pc' := (if (m 82 a1.toNatClampNeg) = 17 then 229 else 247)) (L' := [some (.ref 55), some (.int a1), some (.int (m 82 a1.toNatClampNeg))]) (S' := [.ref 55]) (sh' := mz_sh) (m' := m) (g := true) rfl rfl (rfl) ?_
      refine mz_go_if (fun c101 => ?_) (fun c101 => ?_)
      · have h102 := h100.1 c101
        refine mz_go_blk mz_m183 1 (pc' := 230) (L' := [some (.ref 55), some (.int a1), some (.int (m 82 a1.toNatClampNeg))]) (S' := [.ref 55, .ref 55]) (sh' := mz_sh) (m' := m) (g := true) rfl rfl (rfl) ?_
        refine mz_go_call mz_m183 mz_m175 rfl rfl rfl rfl rfl rfl rfl h102 (fun v sh1 m103 hv => ?_)
        obtain ⟨r105, rfl, rfl, h104⟩ := hv
        refine mz_go_blk mz_m183 1 (pc' := (if r105 = 0 then 236 else 240)) (L' := [some (.ref 55), some (.int a1), some (.int (m 82 a1.toNatClampNeg))]) (S' := [.ref 55]) (sh' := mz_sh) (m' := m103) (g := true) rfl rfl (rfl) ?_
        refine mz_go_if (fun c106 => ?_) (fun c106 => ?_)
        · have h107 := h104.1 c106
          refine mz_go_blk mz_m183 2 (pc' := 241) (L' := [some (.ref 55), some (.int a1), some (.int (m 82 a1.toNatClampNeg))]) (S' := [.int 1, .ref 55]) (sh' := mz_sh) (m' := m103) (g := true) rfl rfl (rfl) ?_
          refine mz_go_call mz_m183 mz_m177 rfl rfl rfl rfl rfl rfl rfl h107 (fun v sh1 m108 hv => ?_)
          obtain ⟨r110, rfl, rfl, h109⟩ := hv
          refine mz_go_blk mz_m183 1 (pc' := 252) (L' := [some (.ref 55), some (.int a1), some (.int (m 82 a1.toNatClampNeg))]) (S' := [.int r110, .ref 55]) (sh' := mz_sh) (m' := m108) (g := true) rfl rfl (rfl) ?_
          refine mz_go_call mz_m183 mz_m174 rfl rfl rfl rfl rfl rfl rfl h109 (fun v sh1 m111 hv => ?_)
          obtain ⟨rfl, rfl, h112⟩ := hv
          refine mz_go_blk mz_m183 1 (pc' := 256) (L' := [some (.ref 55), some (.int a1), some (.int (m 82 a1.toNatClampNeg))]) (S' := [.int (-1)]) (sh' := mz_sh) (m' := m111) (g := true) rfl rfl (rfl) ?_
          exact mz_go_ret mz_m183 rfl rfl rfl ⟨_, rfl, rfl, h112⟩
        · have h113 := h104.2 c106
          refine mz_go_blk mz_m183 1 (pc' := 241) (L' := [some (.ref 55), some (.int a1), some (.int (m 82 a1.toNatClampNeg))]) (S' := [.int 0, .ref 55]) (sh' := mz_sh) (m' := m103) (g := true) rfl rfl (rfl) ?_
          refine mz_go_call mz_m183 mz_m177 rfl rfl rfl rfl rfl rfl rfl h113 (fun v sh1 m114 hv => ?_)
          obtain ⟨r116, rfl, rfl, h115⟩ := hv
          refine mz_go_blk mz_m183 1 (pc' := 252) (L' := [some (.ref 55), some (.int a1), some (.int (m 82 a1.toNatClampNeg))]) (S' := [.int r116, .ref 55]) (sh' := mz_sh) (m' := m114) (g := true) rfl rfl (rfl) ?_
          refine mz_go_call mz_m183 mz_m174 rfl rfl rfl rfl rfl rfl rfl h115 (fun v sh1 m117 hv => ?_)
          obtain ⟨rfl, rfl, h118⟩ := hv
          refine mz_go_blk mz_m183 1 (pc' := 256) (L' := [some (.ref 55), some (.int a1), some (.int (m 82 a1.toNatClampNeg))]) (S' := [.int (-1)]) (sh' := mz_sh) (m' := m117) (g := true) rfl rfl (rfl) ?_
          exact mz_go_ret mz_m183 rfl rfl rfl ⟨_, rfl, rfl, h118⟩
      · have h119 := h100.2 c101
        refine mz_go_blk mz_m183 1 (pc' := 248) (L' := [some (.ref 55), some (.int a1), some (.int (m 82 a1.toNatClampNeg))]) (S' := [.ref 55, .ref 55]) (sh' := mz_sh) (m' := m) (g := true) rfl rfl (rfl) ?_
        refine mz_go_call mz_m183 mz_m175 rfl rfl rfl rfl rfl rfl rfl h119 (fun v sh1 m120 hv => ?_)
        obtain ⟨r122, rfl, rfl, h121⟩ := hv
        refine mz_go_blk mz_m183 1 (pc' := 252) (L' := [some (.ref 55), some (.int a1), some (.int (m 82 a1.toNatClampNeg))]) (S' := [.int (-r122), .ref 55]) (sh' := mz_sh) (m' := m120) (g := true) rfl rfl (rfl) ?_
        refine mz_go_call mz_m183 mz_m174 rfl rfl rfl rfl rfl rfl rfl h121 (fun v sh1 m123 hv => ?_)
        obtain ⟨rfl, rfl, h124⟩ := hv
        refine mz_go_blk mz_m183 1 (pc' := 256) (L' := [some (.ref 55), some (.int a1), some (.int (m 82 a1.toNatClampNeg))]) (S' := [.int (-1)]) (sh' := mz_sh) (m' := m123) (g := true) rfl rfl (rfl) ?_
        exact mz_go_ret mz_m183 rfl rfl rfl ⟨_, rfl, rfl, h124⟩
  have h125 := h91.2
  by_cases c127 : (m 82 a1.toNatClampNeg) = 17
  · have h126 := h125.1 c127
    rw [show mz_tsw 8 288 0 19 #[96, 126, 126, 180, 186, 288, 288, 192, 192, 288, 288, 288, 288, 288, 288, 288, 198, 198, 249, 271] (m 82 a1.toNatClampNeg) = 206 by rw [c127]; decide +kernel]
    obtain ⟨g128, h129⟩ := h126
    refine mz_go_blk mz_m183 5 (pc' := (if (m 92 a1.toNatClampNeg) = 0 then 215 else 222)) (L' := [some (.ref 55), some (.int a1), some (.int (m 82 a1.toNatClampNeg))]) (S' := []) (sh' := mz_sh) (m' := m) (g := mz_inb a1 12100 && true) rfl rfl (mz_and2 (g128) (rfl)) ?_
    refine mz_go_if (fun c130 => ?_) (fun c130 => ?_)
    · have h131 := h129.1 c130
      obtain ⟨g132, h133⟩ := h131
      refine mz_go_blk mz_m183 4 (pc' := 221) (L' := [some (.ref 55), some (.int a1), some (.int (m 82 a1.toNatClampNeg))]) (S' := [.int (m 86 a1.toNatClampNeg)]) (sh' := mz_sh) (m' := m) (g := mz_inb a1 12100 && true) rfl rfl (mz_and2 (g132) (rfl)) ?_
      exact mz_go_ret mz_m183 rfl rfl rfl ⟨_, rfl, rfl, h133⟩
    · have h134 := h129.2 c130
      refine mz_go_blk mz_m183 4 (pc' := (if (m 82 a1.toNatClampNeg) = 17 then 229 else 247)) (L' := [some (.ref 55), some (.int a1), some (.int (m 82 a1.toNatClampNeg))]) (S' := [.ref 55]) (sh' := mz_sh) (m' := m) (g := true) rfl rfl (rfl) ?_
      refine mz_go_if (fun c135 => ?_) (fun c135 => ?_)
      · have h136 := h134.1 c135
        refine mz_go_blk mz_m183 1 (pc' := 230) (L' := [some (.ref 55), some (.int a1), some (.int (m 82 a1.toNatClampNeg))]) (S' := [.ref 55, .ref 55]) (sh' := mz_sh) (m' := m) (g := true) rfl rfl (rfl) ?_
        refine mz_go_call mz_m183 mz_m175 rfl rfl rfl rfl rfl rfl rfl h136 (fun v sh1 m137 hv => ?_)
        obtain ⟨r139, rfl, rfl, h138⟩ := hv
        refine mz_go_blk mz_m183 1 (pc' := (if r139 = 0 then 236 else 240)) (L' := [some (.ref 55), some (.int a1), some (.int (m 82 a1.toNatClampNeg))]) (S' := [.ref 55]) (sh' := mz_sh) (m' := m137) (g := true) rfl rfl (rfl) ?_
        refine mz_go_if (fun c140 => ?_) (fun c140 => ?_)
        · have h141 := h138.1 c140
          refine mz_go_blk mz_m183 2 (pc' := 241) (L' := [some (.ref 55), some (.int a1), some (.int (m 82 a1.toNatClampNeg))]) (S' := [.int 1, .ref 55]) (sh' := mz_sh) (m' := m137) (g := true) rfl rfl (rfl) ?_
          refine mz_go_call mz_m183 mz_m177 rfl rfl rfl rfl rfl rfl rfl h141 (fun v sh1 m142 hv => ?_)
          obtain ⟨r144, rfl, rfl, h143⟩ := hv
          refine mz_go_blk mz_m183 1 (pc' := 252) (L' := [some (.ref 55), some (.int a1), some (.int (m 82 a1.toNatClampNeg))]) (S' := [.int r144, .ref 55]) (sh' := mz_sh) (m' := m142) (g := true) rfl rfl (rfl) ?_
          refine mz_go_call mz_m183 mz_m174 rfl rfl rfl rfl rfl rfl rfl h143 (fun v sh1 m145 hv => ?_)
          obtain ⟨rfl, rfl, h146⟩ := hv
          refine mz_go_blk mz_m183 1 (pc' := 256) (L' := [some (.ref 55), some (.int a1), some (.int (m 82 a1.toNatClampNeg))]) (S' := [.int (-1)]) (sh' := mz_sh) (m' := m145) (g := true) rfl rfl (rfl) ?_
          exact mz_go_ret mz_m183 rfl rfl rfl ⟨_, rfl, rfl, h146⟩
        · have h147 := h138.2 c140
          refine mz_go_blk mz_m183 1 (pc' := 241) (L' := [some (.ref 55), some (.int a1), some (.int (m 82 a1.toNatClampNeg))]) (S' := [.int 0, .ref 55]) (sh' := mz_sh) (m' := m137) (g := true) rfl rfl (rfl) ?_
          refine mz_go_call mz_m183 mz_m177 rfl rfl rfl rfl rfl rfl rfl h147 (fun v sh1 m148 hv => ?_)
          obtain ⟨r150, rfl, rfl, h149⟩ := hv
          refine mz_go_blk mz_m183 1 (pc' := 252) (L' := [some (.ref 55), some (.int a1), some (.int (m 82 a1.toNatClampNeg))]) (S' := [.int r150, .ref 55]) (sh' := mz_sh) (m' := m148) (g := true) rfl rfl (rfl) ?_
          refine mz_go_call mz_m183 mz_m174 rfl rfl rfl rfl rfl rfl rfl h149 (fun v sh1 m151 hv => ?_)
          obtain ⟨rfl, rfl, h152⟩ := hv
          refine mz_go_blk mz_m183 1 (pc' := 256) (L' := [some (.ref 55), some (.int a1), some (.int (m 82 a1.toNatClampNeg))]) (S' := [.int (-1)]) (sh' := mz_sh) (m' := m151) (g := true) rfl rfl (rfl) ?_
          exact mz_go_ret mz_m183 rfl rfl rfl ⟨_, rfl, rfl, h152⟩
      · have h153 := h134.2 c135
        refine mz_go_blk mz_m183 1 (pc' := 248) (L' := [some (.ref 55), some (.int a1), some (.int (m 82 a1.toNatClampNeg))]) (S' := [.ref 55, .ref 55]) (sh' := mz_sh) (m' := m) (g := true) rfl rfl (rfl) ?_
        refine mz_go_call mz_m183 mz_m175 rfl rfl rfl rfl rfl rfl rfl h153 (fun v sh1 m154 hv => ?_)
        obtain ⟨r156, rfl, rfl, h155⟩ := hv
        refine mz_go_blk mz_m183 1 (pc' := 252) (L' := [some (.ref 55), some (.int a1), some (.int (m 82 a1.toNatClampNeg))]) (S' := [.int (-r156), .ref 55]) (sh' := mz_sh) (m' := m154) (g := true) rfl rfl (rfl) ?_
        refine mz_go_call mz_m183 mz_m174 rfl rfl rfl rfl rfl rfl rfl h155 (fun v sh1 m157 hv => ?_)
        obtain ⟨rfl, rfl, h158⟩ := hv
        refine mz_go_blk mz_m183 1 (pc' := 256) (L' := [some (.ref 55), some (.int a1), some (.int (m 82 a1.toNatClampNeg))]) (S' := [.int (-1)]) (sh' := mz_sh) (m' := m157) (g := true) rfl rfl (rfl) ?_
        exact mz_go_ret mz_m183 rfl rfl rfl ⟨_, rfl, rfl, h158⟩
  have h159 := h125.2
  by_cases c161 : (m 82 a1.toNatClampNeg) = 18
  · have h160 := h159.1 c161
    rw [show mz_tsw 8 288 0 19 #[96, 126, 126, 180, 186, 288, 288, 192, 192, 288, 288, 288, 288, 288, 288, 288, 198, 198, 249, 271] (m 82 a1.toNatClampNeg) = 257 by rw [c161]; decide +kernel]
    obtain ⟨g162, g163, g164, h165⟩ := h160
    refine mz_go_blk mz_m183 11 (pc' := 274) (L' := [some (.ref 55), some (.int a1), some (.int (m 82 a1.toNatClampNeg))]) (S' := [.int (m 97 ((m 70 ((m 83 a1.toNatClampNeg).toNatClampNeg)).toNatClampNeg)), .ref 55]) (sh' := mz_sh) (m' := m) (g := mz_inb (m 70 ((m 83 a1.toNatClampNeg).toNatClampNeg)) 32 && (mz_inb (m 83 a1.toNatClampNeg) 4001 && (mz_inb a1 12100 && true))) rfl rfl (mz_and2 (g164) (mz_and2 (g163) (mz_and2 (g162) (rfl)))) ?_
    refine mz_go_call mz_m183 mz_m174 rfl rfl rfl rfl rfl rfl rfl h165 (fun v sh1 m166 hv => ?_)
    obtain ⟨rfl, rfl, h167⟩ := hv
    refine mz_go_blk mz_m183 1 (pc' := 278) (L' := [some (.ref 55), some (.int a1), some (.int (m 82 a1.toNatClampNeg))]) (S' := [.int (-1)]) (sh' := mz_sh) (m' := m166) (g := true) rfl rfl (rfl) ?_
    exact mz_go_ret mz_m183 rfl rfl rfl ⟨_, rfl, rfl, h167⟩
  have h168 := h159.2
  by_cases c170 : (m 82 a1.toNatClampNeg) = 19
  · have h169 := h168.1 c170
    rw [show mz_tsw 8 288 0 19 #[96, 126, 126, 180, 186, 288, 288, 192, 192, 288, 288, 288, 288, 288, 288, 288, 198, 198, 249, 271] (m 82 a1.toNatClampNeg) = 279 by rw [c170]; decide +kernel]
    obtain ⟨g171, g172, h173⟩ := h169
    refine mz_go_blk mz_m183 8 (pc' := 291) (L' := [some (.ref 55), some (.int a1), some (.int (m 82 a1.toNatClampNeg))]) (S' := [.int (m 70 ((m 83 a1.toNatClampNeg).toNatClampNeg)), .ref 55]) (sh' := mz_sh) (m' := m) (g := mz_inb (m 83 a1.toNatClampNeg) 4001 && (mz_inb a1 12100 && true)) rfl rfl (mz_and2 (g172) (mz_and2 (g171) (rfl))) ?_
    refine mz_go_call mz_m183 mz_m174 rfl rfl rfl rfl rfl rfl rfl h173 (fun v sh1 m174 hv => ?_)
    obtain ⟨rfl, rfl, h175⟩ := hv
    refine mz_go_blk mz_m183 1 (pc' := 295) (L' := [some (.ref 55), some (.int a1), some (.int (m 82 a1.toNatClampNeg))]) (S' := [.int (-1)]) (sh' := mz_sh) (m' := m174) (g := true) rfl rfl (rfl) ?_
    exact mz_go_ret mz_m183 rfl rfl rfl ⟨_, rfl, rfl, h175⟩
  have h176 := h168.2
  have h176d := h176 c4 c17 c43 c69 c75 c81 c87 c93 c127 c161 c170
  rw [show mz_tsw 8 288 0 19 #[96, 126, 126, 180, 186, 288, 288, 192, 192, 288, 288, 288, 288, 288, 288, 288, 198, 198, 249, 271] (m 82 a1.toNatClampNeg) = 296 from (by
        refine mz_tswd _ _ _ _ _ (m 82 a1.toNatClampNeg) 296 (by decide +kernel) (fun k hk z => ?_)
        match k, hk, z with
        | 0, _, z => exact absurd (mz_tI (by rw [z]; decide +kernel)) c4
        | 1, _, z => exact absurd (mz_tI (by rw [z]; decide +kernel)) c17
        | 2, _, z => exact absurd (mz_tI (by rw [z]; decide +kernel)) c43
        | 3, _, z => exact absurd (mz_tI (by rw [z]; decide +kernel)) c69
        | 4, _, z => exact absurd (mz_tI (by rw [z]; decide +kernel)) c75
        | 5, _, z => decide +kernel
        | 6, _, z => decide +kernel
        | 7, _, z => exact absurd (mz_tI (by rw [z]; decide +kernel)) c81
        | 8, _, z => exact absurd (mz_tI (by rw [z]; decide +kernel)) c87
        | 9, _, z => decide +kernel
        | 10, _, z => decide +kernel
        | 11, _, z => decide +kernel
        | 12, _, z => decide +kernel
        | 13, _, z => decide +kernel
        | 14, _, z => decide +kernel
        | 15, _, z => decide +kernel
        | 16, _, z => exact absurd (mz_tI (by rw [z]; decide +kernel)) c93
        | 17, _, z => exact absurd (mz_tI (by rw [z]; decide +kernel)) c127
        | 18, _, z => exact absurd (mz_tI (by rw [z]; decide +kernel)) c161
        | 19, _, z => exact absurd (mz_tI (by rw [z]; decide +kernel)) c170
        | k + 20, hk, _ => exact absurd hk (by simp only [Array.size]; simp)
      )]
  obtain ⟨g177, h178⟩ := h176d
  refine mz_go_blk mz_m183 5 (pc' := (if (m 92 a1.toNatClampNeg) = 0 then 305 else 314)) (L' := [some (.ref 55), some (.int a1), some (.int (m 82 a1.toNatClampNeg))]) (S' := []) (sh' := mz_sh) (m' := m) (g := mz_inb a1 12100 && true) rfl rfl (mz_and2 (g177) (rfl)) ?_
  refine mz_go_if (fun c179 => ?_) (fun c179 => ?_)
  · have h180 := h178.1 c179
    obtain ⟨g181, h182⟩ := h180
    refine mz_go_blk mz_m183 5 (pc' := 338) (L' := [some (.ref 55), some (.int a1), some (.int (m 82 a1.toNatClampNeg))]) (S' := [.int (m 86 a1.toNatClampNeg)]) (sh' := mz_sh) (m' := m) (g := mz_inb a1 12100 && true) rfl rfl (mz_and2 (g181) (rfl)) ?_
    exact mz_go_ret mz_m183 rfl rfl rfl ⟨_, rfl, rfl, h182⟩
  · have h183 := h178.2 c179
    obtain ⟨g184, h185⟩ := h183
    refine mz_go_blk mz_m183 6 (pc' := (if (m 92 a1.toNatClampNeg) = 1 then 324 else 333)) (L' := [some (.ref 55), some (.int a1), some (.int (m 82 a1.toNatClampNeg))]) (S' := []) (sh' := mz_sh) (m' := m) (g := mz_inb a1 12100 && true) rfl rfl (mz_and2 (g184) (rfl)) ?_
    refine mz_go_if (fun c186 => ?_) (fun c186 => ?_)
    · have h187 := h185.1 c186
      obtain ⟨g188, h189⟩ := h187
      refine mz_go_blk mz_m183 5 (pc' := 338) (L' := [some (.ref 55), some (.int a1), some (.int (m 82 a1.toNatClampNeg))]) (S' := [.int (m 87 a1.toNatClampNeg)]) (sh' := mz_sh) (m' := m) (g := mz_inb a1 12100 && true) rfl rfl (mz_and2 (g188) (rfl)) ?_
      exact mz_go_ret mz_m183 rfl rfl rfl ⟨_, rfl, rfl, h189⟩
    · have h190 := h185.2 c186
      refine mz_go_blk mz_m183 2 (pc' := 335) (L' := [some (.ref 55), some (.int a1), some (.int (m 82 a1.toNatClampNeg))]) (S' := [.int (m 82 a1.toNatClampNeg), .ref 55]) (sh' := mz_sh) (m' := m) (g := true) rfl rfl (rfl) ?_
      refine mz_go_call mz_m183 mz_m179 rfl rfl rfl rfl rfl rfl rfl h190 (fun v sh1 m191 hv => ?_)
      obtain ⟨r193, rfl, rfl, h192⟩ := hv
      exact mz_go_ret mz_m183 rfl rfl rfl ⟨_, rfl, rfl, h192⟩
set_option maxRecDepth 100000 in
theorem t_M_advance_1 {X : mz_X} {m : mz_M} {Q : Int32 → mz_M → Prop}
    (h : Q (-1) m) :
    mz_gi X mz_sh 183 186 [some (.ref 55), none, none] m Q := by
  refine mz_go_blk mz_m183 1 (pc' := 187) (L' := [some (.ref 55), none, none]) (S' := [.int (-1)]) (sh' := mz_sh) (m' := m) (g := true) rfl rfl (rfl) ?_
  exact mz_go_ret mz_m183 rfl rfl rfl ⟨_, rfl, rfl, h⟩
set_option maxRecDepth 100000 in
theorem t_M_goTree_0 {X : mz_X} {m : mz_M} {Q : Int32 → mz_M → Prop}
    (h : mz_gi X mz_sh 184 9 [some (.ref 55), some (.int 0), none] (mz_up m 92 0 0) Q) :
    mz_gi X mz_sh 184 0 [some (.ref 55), none, none] m Q := by
  refine mz_go_blk mz_m184 7 (pc' := 9) (L' := [some (.ref 55), some (.int 0), none]) (S' := []) (sh' := mz_sh) (m' := mz_up m 92 0 0) (g := mz_inb 0 12100 && true) rfl rfl (mz_and2 (by decide) (rfl)) ?_
  exact h
set_option maxRecDepth 100000 in
theorem t_M_goTree_1 {X : mz_X} {m : mz_M} {Q : Int32 → mz_M → Prop} (l1 : Int32)
    (h : ((l1 < 0 → Q 0 m) ∧ (¬ (l1 < 0) → mz_inb l1 12100 = true ∧ (((m 82 l1.toNatClampNeg) = 5 → mz_gi X mz_sh 158 0 [some (.ref 55), some (.int l1), none] m (fun r10 m8 => mz_inb r10 12100 = true ∧ (((m8 89 r10.toNatClampNeg) < 0 → mz_gi X mz_sh 184 9 [some (.ref 55), some (.int (m8 89 r10.toNatClampNeg)), none] m8 Q) ∧ (¬ ((m8 89 r10.toNatClampNeg) < 0) → mz_inb (m8 89 r10.toNatClampNeg) 12100 = true ∧ mz_inb (m8 89 r10.toNatClampNeg) 12100 = true ∧ mz_gi X mz_sh 184 9 [some (.ref 55), some (.int (m8 89 r10.toNatClampNeg)), none] (mz_up m8 92 ((m8 89 r10.toNatClampNeg).toNatClampNeg) ((m8 92 ((m8 89 r10.toNatClampNeg).toNatClampNeg)) + 1)) Q)))) ∧ (¬ ((m 82 l1.toNatClampNeg) = 5) → mz_inb l1 12100 = true ∧ (((m 82 l1.toNatClampNeg) = 6 → mz_gi X mz_sh 158 0 [some (.ref 55), some (.int l1), none] m (fun r26 m24 => mz_inb r26 12100 = true ∧ mz_gi X mz_sh 183 0 [some (.ref 55), some (.int r26), none] (mz_up m24 92 r26.toNatClampNeg 2) (fun r31 m29 => ((r31 = (-2) → Q 1 m29) ∧ (¬ (r31 = (-2)) → ((r31 = (-3) → Q 2 m29) ∧ (¬ (r31 = (-3)) → ((r31 < 0 → mz_inb r26 12100 = true ∧ (((m29 89 r26.toNatClampNeg) < 0 → mz_gi X mz_sh 184 9 [some (.ref 55), some (.int (m29 89 r26.toNatClampNeg)), none] m29 Q) ∧ (¬ ((m29 89 r26.toNatClampNeg) < 0) → mz_inb (m29 89 r26.toNatClampNeg) 12100 = true ∧ mz_inb (m29 89 r26.toNatClampNeg) 12100 = true ∧ mz_gi X mz_sh 184 9 [some (.ref 55), some (.int (m29 89 r26.toNatClampNeg)), none] (mz_up m29 92 ((m29 89 r26.toNatClampNeg).toNatClampNeg) ((m29 92 ((m29 89 r26.toNatClampNeg).toNatClampNeg)) + 1)) Q))) ∧ (¬ (r31 < 0) → mz_inb r31 12100 = true ∧ (((m29 82 r31.toNatClampNeg) = 0 → mz_inb r26 12100 = true ∧ mz_inb r31 12100 = true ∧ mz_gi X mz_sh 184 9 [some (.ref 55), some (.int r31), none] (mz_up (mz_up m29 93 r26.toNatClampNeg r31) 92 r31.toNatClampNeg 0) Q) ∧ (¬ ((m29 82 r31.toNatClampNeg) = 0) → mz_gi X mz_sh 173 0 [some (.ref 55), some (.int r31)] m29 (fun r59 m57 => ((r59 = 0 → Q 1 m57) ∧ (¬ (r59 = 0) → mz_inb r26 12100 = true ∧ mz_inb r31 12100 = true ∧ mz_gi X mz_sh 184 9 [some (.ref 55), some (.int r31), none] (mz_up (mz_up m57 93 r26.toNatClampNeg r31) 92 r31.toNatClampNeg 0) Q)))))))))))))) ∧ (¬ ((m 82 l1.toNatClampNeg) = 6) → mz_gi X mz_sh 183 0 [some (.ref 55), some (.int l1), none] m (fun r69 m67 => ((r69 = (-2) → Q 1 m67) ∧ (¬ (r69 = (-2)) → ((r69 = (-3) → Q 2 m67) ∧ (¬ (r69 = (-3)) → ((r69 < 0 → mz_inb l1 12100 = true ∧ (((m67 89 l1.toNatClampNeg) < 0 → mz_gi X mz_sh 184 9 [some (.ref 55), some (.int (m67 89 l1.toNatClampNeg)), none] m67 Q) ∧ (¬ ((m67 89 l1.toNatClampNeg) < 0) → mz_inb (m67 89 l1.toNatClampNeg) 12100 = true ∧ mz_inb (m67 89 l1.toNatClampNeg) 12100 = true ∧ mz_gi X mz_sh 184 9 [some (.ref 55), some (.int (m67 89 l1.toNatClampNeg)), none] (mz_up m67 92 ((m67 89 l1.toNatClampNeg).toNatClampNeg) ((m67 92 ((m67 89 l1.toNatClampNeg).toNatClampNeg)) + 1)) Q))) ∧ (¬ (r69 < 0) → mz_inb r69 12100 = true ∧ (((m67 82 r69.toNatClampNeg) = 0 → mz_inb l1 12100 = true ∧ mz_inb r69 12100 = true ∧ mz_gi X mz_sh 184 9 [some (.ref 55), some (.int r69), none] (mz_up (mz_up m67 93 l1.toNatClampNeg r69) 92 r69.toNatClampNeg 0) Q) ∧ (¬ ((m67 82 r69.toNatClampNeg) = 0) → mz_gi X mz_sh 173 0 [some (.ref 55), some (.int r69)] m67 (fun r97 m95 => ((r97 = 0 → Q 1 m95) ∧ (¬ (r97 = 0) → mz_inb l1 12100 = true ∧ mz_inb r69 12100 = true ∧ mz_gi X mz_sh 184 9 [some (.ref 55), some (.int r69), none] (mz_up (mz_up m95 93 l1.toNatClampNeg r69) 92 r69.toNatClampNeg 0) Q))))))))))))))))))) :
    mz_gi X mz_sh 184 9 [some (.ref 55), some (.int l1), none] m Q := by
  refine mz_go_blk mz_m184 2 (pc' := (if l1 < 0 then 155 else 13)) (L' := [some (.ref 55), some (.int l1), none]) (S' := []) (sh' := mz_sh) (m' := m) (g := true) rfl rfl (rfl) ?_
  refine mz_go_if (fun c1 => ?_) (fun c1 => ?_)
  · have h2 := h.1 c1
    refine mz_go_blk mz_m184 1 (pc' := 156) (L' := [some (.ref 55), some (.int l1), none]) (S' := [.int 0]) (sh' := mz_sh) (m' := m) (g := true) rfl rfl (rfl) ?_
    exact mz_go_ret mz_m184 rfl rfl rfl ⟨_, rfl, rfl, h2⟩
  · have h3 := h.2 c1
    obtain ⟨g4, h5⟩ := h3
    refine mz_go_blk mz_m184 6 (pc' := (if (m 82 l1.toNatClampNeg) = 5 then 23 else 34)) (L' := [some (.ref 55), some (.int l1), none]) (S' := []) (sh' := mz_sh) (m' := m) (g := mz_inb l1 12100 && true) rfl rfl (mz_and2 (g4) (rfl)) ?_
    refine mz_go_if (fun c6 => ?_) (fun c6 => ?_)
    · have h7 := h5.1 c6
      refine mz_go_blk mz_m184 2 (pc' := 25) (L' := [some (.ref 55), some (.int l1), none]) (S' := [.int l1, .ref 55]) (sh' := mz_sh) (m' := m) (g := true) rfl rfl (rfl) ?_
      refine mz_go_call mz_m184 mz_m158 rfl rfl rfl rfl rfl rfl rfl h7 (fun v sh1 m8 hv => ?_)
      obtain ⟨r10, rfl, rfl, h9⟩ := hv
      obtain ⟨g11, h12⟩ := h9
      refine mz_go_blk mz_m184 19 (pc' := (if (m8 89 r10.toNatClampNeg) < 0 then 152 else 142)) (L' := [some (.ref 55), some (.int (m8 89 r10.toNatClampNeg)), some (.int (-1))]) (S' := []) (sh' := mz_sh) (m' := m8) (g := mz_inb r10 12100 && true) rfl rfl (mz_and2 (g11) (rfl)) ?_
      refine mz_go_if (fun c13 => ?_) (fun c13 => ?_)
      · have h14 := h12.1 c13
        refine mz_go_blk mz_m184 1 (pc' := 9) (L' := [some (.ref 55), some (.int (m8 89 r10.toNatClampNeg)), some (.int (-1))]) (S' := []) (sh' := mz_sh) (m' := m8) (g := true) rfl rfl (rfl) ?_
        exact mz_go.forget (L := [some (.ref 55), some (.int (m8 89 r10.toNatClampNeg)), none]) (mz_lel_cons rfl (mz_lel_cons rfl (mz_lel_cons trivial (mz_lel_nil)))) h14
      · have h15 := h12.2 c13
        obtain ⟨g16, g17, h18⟩ := h15
        refine mz_go_blk mz_m184 9 (pc' := 9) (L' := [some (.ref 55), some (.int (m8 89 r10.toNatClampNeg)), some (.int (-1))]) (S' := []) (sh' := mz_sh) (m' := mz_up m8 92 ((m8 89 r10.toNatClampNeg).toNatClampNeg) ((m8 92 ((m8 89 r10.toNatClampNeg).toNatClampNeg)) + 1)) (g := mz_inb (m8 89 r10.toNatClampNeg) 12100 && (mz_inb (m8 89 r10.toNatClampNeg) 12100 && true)) rfl rfl (mz_and2 (g17) (mz_and2 (g16) (rfl))) ?_
        exact mz_go.forget (L := [some (.ref 55), some (.int (m8 89 r10.toNatClampNeg)), none]) (mz_lel_cons rfl (mz_lel_cons rfl (mz_lel_cons trivial (mz_lel_nil)))) h18
    · have h19 := h5.2 c6
      obtain ⟨g20, h21⟩ := h19
      refine mz_go_blk mz_m184 6 (pc' := (if (m 82 l1.toNatClampNeg) = 6 then 45 else 67)) (L' := [some (.ref 55), some (.int l1), none]) (S' := []) (sh' := mz_sh) (m' := m) (g := mz_inb l1 12100 && true) rfl rfl (mz_and2 (g20) (rfl)) ?_
      refine mz_go_if (fun c22 => ?_) (fun c22 => ?_)
      · have h23 := h21.1 c22
        refine mz_go_blk mz_m184 2 (pc' := 47) (L' := [some (.ref 55), some (.int l1), none]) (S' := [.int l1, .ref 55]) (sh' := mz_sh) (m' := m) (g := true) rfl rfl (rfl) ?_
        refine mz_go_call mz_m184 mz_m158 rfl rfl rfl rfl rfl rfl rfl h23 (fun v sh1 m24 hv => ?_)
        obtain ⟨r26, rfl, rfl, h25⟩ := hv
        obtain ⟨g27, h28⟩ := h25
        refine mz_go_blk mz_m184 8 (pc' := 60) (L' := [some (.ref 55), some (.int r26), none]) (S' := [.int r26, .ref 55]) (sh' := mz_sh) (m' := mz_up m24 92 r26.toNatClampNeg 2) (g := mz_inb r26 12100 && true) rfl rfl (mz_and2 (g27) (rfl)) ?_
        refine mz_go_call mz_m184 mz_m183 rfl rfl rfl rfl rfl rfl rfl h28 (fun v sh1 m29 hv => ?_)
        obtain ⟨r31, rfl, rfl, h30⟩ := hv
        refine mz_go_blk mz_m184 5 (pc' := (if r31 = (-2) then 79 else 81)) (L' := [some (.ref 55), some (.int r26), some (.int r31)]) (S' := []) (sh' := mz_sh) (m' := m29) (g := true) rfl rfl (rfl) ?_
        refine mz_go_if (fun c32 => ?_) (fun c32 => ?_)
        · have h33 := h30.1 c32
          refine mz_go_blk mz_m184 1 (pc' := 80) (L' := [some (.ref 55), some (.int r26), some (.int r31)]) (S' := [.int 1]) (sh' := mz_sh) (m' := m29) (g := true) rfl rfl (rfl) ?_
          exact mz_go_ret mz_m184 rfl rfl rfl ⟨_, rfl, rfl, h33⟩
        · have h34 := h30.2 c32
          refine mz_go_blk mz_m184 3 (pc' := (if r31 = (-3) then 87 else 89)) (L' := [some (.ref 55), some (.int r26), some (.int r31)]) (S' := []) (sh' := mz_sh) (m' := m29) (g := true) rfl rfl (rfl) ?_
          refine mz_go_if (fun c35 => ?_) (fun c35 => ?_)
          · have h36 := h34.1 c35
            refine mz_go_blk mz_m184 1 (pc' := 88) (L' := [some (.ref 55), some (.int r26), some (.int r31)]) (S' := [.int 2]) (sh' := mz_sh) (m' := m29) (g := true) rfl rfl (rfl) ?_
            exact mz_go_ret mz_m184 rfl rfl rfl ⟨_, rfl, rfl, h36⟩
          · have h37 := h34.2 c35
            refine mz_go_blk mz_m184 2 (pc' := (if r31 < 0 then 131 else 93)) (L' := [some (.ref 55), some (.int r26), some (.int r31)]) (S' := []) (sh' := mz_sh) (m' := m29) (g := true) rfl rfl (rfl) ?_
            refine mz_go_if (fun c38 => ?_) (fun c38 => ?_)
            · have h39 := h37.1 c38
              obtain ⟨g40, h41⟩ := h39
              refine mz_go_blk mz_m184 7 (pc' := (if (m29 89 r26.toNatClampNeg) < 0 then 152 else 142)) (L' := [some (.ref 55), some (.int (m29 89 r26.toNatClampNeg)), some (.int r31)]) (S' := []) (sh' := mz_sh) (m' := m29) (g := mz_inb r26 12100 && true) rfl rfl (mz_and2 (g40) (rfl)) ?_
              refine mz_go_if (fun c42 => ?_) (fun c42 => ?_)
              · have h43 := h41.1 c42
                refine mz_go_blk mz_m184 1 (pc' := 9) (L' := [some (.ref 55), some (.int (m29 89 r26.toNatClampNeg)), some (.int r31)]) (S' := []) (sh' := mz_sh) (m' := m29) (g := true) rfl rfl (rfl) ?_
                exact mz_go.forget (L := [some (.ref 55), some (.int (m29 89 r26.toNatClampNeg)), none]) (mz_lel_cons rfl (mz_lel_cons rfl (mz_lel_cons trivial (mz_lel_nil)))) h43
              · have h44 := h41.2 c42
                obtain ⟨g45, g46, h47⟩ := h44
                refine mz_go_blk mz_m184 9 (pc' := 9) (L' := [some (.ref 55), some (.int (m29 89 r26.toNatClampNeg)), some (.int r31)]) (S' := []) (sh' := mz_sh) (m' := mz_up m29 92 ((m29 89 r26.toNatClampNeg).toNatClampNeg) ((m29 92 ((m29 89 r26.toNatClampNeg).toNatClampNeg)) + 1)) (g := mz_inb (m29 89 r26.toNatClampNeg) 12100 && (mz_inb (m29 89 r26.toNatClampNeg) 12100 && true)) rfl rfl (mz_and2 (g46) (mz_and2 (g45) (rfl))) ?_
                exact mz_go.forget (L := [some (.ref 55), some (.int (m29 89 r26.toNatClampNeg)), none]) (mz_lel_cons rfl (mz_lel_cons rfl (mz_lel_cons trivial (mz_lel_nil)))) h47
            · have h48 := h37.2 c38
              obtain ⟨g49, h50⟩ := h48
              refine mz_go_blk mz_m184 5 (pc' := (if (m29 82 r31.toNatClampNeg) = 0 then 112 else 102)) (L' := [some (.ref 55), some (.int r26), some (.int r31)]) (S' := []) (sh' := mz_sh) (m' := m29) (g := mz_inb r31 12100 && true) rfl rfl (mz_and2 (g49) (rfl)) ?_
              refine mz_go_if (fun c51 => ?_) (fun c51 => ?_)
              · have h52 := h50.1 c51
                obtain ⟨g53, g54, h55⟩ := h52
                refine mz_go_blk mz_m184 14 (pc' := 9) (L' := [some (.ref 55), some (.int r31), some (.int r31)]) (S' := []) (sh' := mz_sh) (m' := mz_up (mz_up m29 93 r26.toNatClampNeg r31) 92 r31.toNatClampNeg 0) (g := mz_inb r31 12100 && (mz_inb r26 12100 && true)) rfl rfl (mz_and2 (g54) (mz_and2 (g53) (rfl))) ?_
                exact mz_go.forget (L := [some (.ref 55), some (.int r31), none]) (mz_lel_cons rfl (mz_lel_cons rfl (mz_lel_cons trivial (mz_lel_nil)))) h55
              · have h56 := h50.2 c51
                refine mz_go_blk mz_m184 2 (pc' := 104) (L' := [some (.ref 55), some (.int r26), some (.int r31)]) (S' := [.int r31, .ref 55]) (sh' := mz_sh) (m' := m29) (g := true) rfl rfl (rfl) ?_
                refine mz_go_call mz_m184 mz_m173 rfl rfl rfl rfl rfl rfl rfl h56 (fun v sh1 m57 hv => ?_)
                obtain ⟨r59, rfl, rfl, h58⟩ := hv
                refine mz_go_blk mz_m184 1 (pc' := (if r59 = 0 then 110 else 112)) (L' := [some (.ref 55), some (.int r26), some (.int r31)]) (S' := []) (sh' := mz_sh) (m' := m57) (g := true) rfl rfl (rfl) ?_
                refine mz_go_if (fun c60 => ?_) (fun c60 => ?_)
                · have h61 := h58.1 c60
                  refine mz_go_blk mz_m184 1 (pc' := 111) (L' := [some (.ref 55), some (.int r26), some (.int r31)]) (S' := [.int 1]) (sh' := mz_sh) (m' := m57) (g := true) rfl rfl (rfl) ?_
                  exact mz_go_ret mz_m184 rfl rfl rfl ⟨_, rfl, rfl, h61⟩
                · have h62 := h58.2 c60
                  obtain ⟨g63, g64, h65⟩ := h62
                  refine mz_go_blk mz_m184 14 (pc' := 9) (L' := [some (.ref 55), some (.int r31), some (.int r31)]) (S' := []) (sh' := mz_sh) (m' := mz_up (mz_up m57 93 r26.toNatClampNeg r31) 92 r31.toNatClampNeg 0) (g := mz_inb r31 12100 && (mz_inb r26 12100 && true)) rfl rfl (mz_and2 (g64) (mz_and2 (g63) (rfl))) ?_
                  exact mz_go.forget (L := [some (.ref 55), some (.int r31), none]) (mz_lel_cons rfl (mz_lel_cons rfl (mz_lel_cons trivial (mz_lel_nil)))) h65
      · have h66 := h21.2 c22
        refine mz_go_blk mz_m184 2 (pc' := 69) (L' := [some (.ref 55), some (.int l1), none]) (S' := [.int l1, .ref 55]) (sh' := mz_sh) (m' := m) (g := true) rfl rfl (rfl) ?_
        refine mz_go_call mz_m184 mz_m183 rfl rfl rfl rfl rfl rfl rfl h66 (fun v sh1 m67 hv => ?_)
        obtain ⟨r69, rfl, rfl, h68⟩ := hv
        refine mz_go_blk mz_m184 4 (pc' := (if r69 = (-2) then 79 else 81)) (L' := [some (.ref 55), some (.int l1), some (.int r69)]) (S' := []) (sh' := mz_sh) (m' := m67) (g := true) rfl rfl (rfl) ?_
        refine mz_go_if (fun c70 => ?_) (fun c70 => ?_)
        · have h71 := h68.1 c70
          refine mz_go_blk mz_m184 1 (pc' := 80) (L' := [some (.ref 55), some (.int l1), some (.int r69)]) (S' := [.int 1]) (sh' := mz_sh) (m' := m67) (g := true) rfl rfl (rfl) ?_
          exact mz_go_ret mz_m184 rfl rfl rfl ⟨_, rfl, rfl, h71⟩
        · have h72 := h68.2 c70
          refine mz_go_blk mz_m184 3 (pc' := (if r69 = (-3) then 87 else 89)) (L' := [some (.ref 55), some (.int l1), some (.int r69)]) (S' := []) (sh' := mz_sh) (m' := m67) (g := true) rfl rfl (rfl) ?_
          refine mz_go_if (fun c73 => ?_) (fun c73 => ?_)
          · have h74 := h72.1 c73
            refine mz_go_blk mz_m184 1 (pc' := 88) (L' := [some (.ref 55), some (.int l1), some (.int r69)]) (S' := [.int 2]) (sh' := mz_sh) (m' := m67) (g := true) rfl rfl (rfl) ?_
            exact mz_go_ret mz_m184 rfl rfl rfl ⟨_, rfl, rfl, h74⟩
          · have h75 := h72.2 c73
            refine mz_go_blk mz_m184 2 (pc' := (if r69 < 0 then 131 else 93)) (L' := [some (.ref 55), some (.int l1), some (.int r69)]) (S' := []) (sh' := mz_sh) (m' := m67) (g := true) rfl rfl (rfl) ?_
            refine mz_go_if (fun c76 => ?_) (fun c76 => ?_)
            · have h77 := h75.1 c76
              obtain ⟨g78, h79⟩ := h77
              refine mz_go_blk mz_m184 7 (pc' := (if (m67 89 l1.toNatClampNeg) < 0 then 152 else 142)) (L' := [some (.ref 55), some (.int (m67 89 l1.toNatClampNeg)), some (.int r69)]) (S' := []) (sh' := mz_sh) (m' := m67) (g := mz_inb l1 12100 && true) rfl rfl (mz_and2 (g78) (rfl)) ?_
              refine mz_go_if (fun c80 => ?_) (fun c80 => ?_)
              · have h81 := h79.1 c80
                refine mz_go_blk mz_m184 1 (pc' := 9) (L' := [some (.ref 55), some (.int (m67 89 l1.toNatClampNeg)), some (.int r69)]) (S' := []) (sh' := mz_sh) (m' := m67) (g := true) rfl rfl (rfl) ?_
                exact mz_go.forget (L := [some (.ref 55), some (.int (m67 89 l1.toNatClampNeg)), none]) (mz_lel_cons rfl (mz_lel_cons rfl (mz_lel_cons trivial (mz_lel_nil)))) h81
              · have h82 := h79.2 c80
                obtain ⟨g83, g84, h85⟩ := h82
                refine mz_go_blk mz_m184 9 (pc' := 9) (L' := [some (.ref 55), some (.int (m67 89 l1.toNatClampNeg)), some (.int r69)]) (S' := []) (sh' := mz_sh) (m' := mz_up m67 92 ((m67 89 l1.toNatClampNeg).toNatClampNeg) ((m67 92 ((m67 89 l1.toNatClampNeg).toNatClampNeg)) + 1)) (g := mz_inb (m67 89 l1.toNatClampNeg) 12100 && (mz_inb (m67 89 l1.toNatClampNeg) 12100 && true)) rfl rfl (mz_and2 (g84) (mz_and2 (g83) (rfl))) ?_
                exact mz_go.forget (L := [some (.ref 55), some (.int (m67 89 l1.toNatClampNeg)), none]) (mz_lel_cons rfl (mz_lel_cons rfl (mz_lel_cons trivial (mz_lel_nil)))) h85
            · have h86 := h75.2 c76
              obtain ⟨g87, h88⟩ := h86
              refine mz_go_blk mz_m184 5 (pc' := (if (m67 82 r69.toNatClampNeg) = 0 then 112 else 102)) (L' := [some (.ref 55), some (.int l1), some (.int r69)]) (S' := []) (sh' := mz_sh) (m' := m67) (g := mz_inb r69 12100 && true) rfl rfl (mz_and2 (g87) (rfl)) ?_
              refine mz_go_if (fun c89 => ?_) (fun c89 => ?_)
              · have h90 := h88.1 c89
                obtain ⟨g91, g92, h93⟩ := h90
                refine mz_go_blk mz_m184 14 (pc' := 9) (L' := [some (.ref 55), some (.int r69), some (.int r69)]) (S' := []) (sh' := mz_sh) (m' := mz_up (mz_up m67 93 l1.toNatClampNeg r69) 92 r69.toNatClampNeg 0) (g := mz_inb r69 12100 && (mz_inb l1 12100 && true)) rfl rfl (mz_and2 (g92) (mz_and2 (g91) (rfl))) ?_
                exact mz_go.forget (L := [some (.ref 55), some (.int r69), none]) (mz_lel_cons rfl (mz_lel_cons rfl (mz_lel_cons trivial (mz_lel_nil)))) h93
              · have h94 := h88.2 c89
                refine mz_go_blk mz_m184 2 (pc' := 104) (L' := [some (.ref 55), some (.int l1), some (.int r69)]) (S' := [.int r69, .ref 55]) (sh' := mz_sh) (m' := m67) (g := true) rfl rfl (rfl) ?_
                refine mz_go_call mz_m184 mz_m173 rfl rfl rfl rfl rfl rfl rfl h94 (fun v sh1 m95 hv => ?_)
                obtain ⟨r97, rfl, rfl, h96⟩ := hv
                refine mz_go_blk mz_m184 1 (pc' := (if r97 = 0 then 110 else 112)) (L' := [some (.ref 55), some (.int l1), some (.int r69)]) (S' := []) (sh' := mz_sh) (m' := m95) (g := true) rfl rfl (rfl) ?_
                refine mz_go_if (fun c98 => ?_) (fun c98 => ?_)
                · have h99 := h96.1 c98
                  refine mz_go_blk mz_m184 1 (pc' := 111) (L' := [some (.ref 55), some (.int l1), some (.int r69)]) (S' := [.int 1]) (sh' := mz_sh) (m' := m95) (g := true) rfl rfl (rfl) ?_
                  exact mz_go_ret mz_m184 rfl rfl rfl ⟨_, rfl, rfl, h99⟩
                · have h100 := h96.2 c98
                  obtain ⟨g101, g102, h103⟩ := h100
                  refine mz_go_blk mz_m184 14 (pc' := 9) (L' := [some (.ref 55), some (.int r69), some (.int r69)]) (S' := []) (sh' := mz_sh) (m' := mz_up (mz_up m95 93 l1.toNatClampNeg r69) 92 r69.toNatClampNeg 0) (g := mz_inb r69 12100 && (mz_inb l1 12100 && true)) rfl rfl (mz_and2 (g102) (mz_and2 (g101) (rfl))) ?_
                  exact mz_go.forget (L := [some (.ref 55), some (.int r69), none]) (mz_lel_cons rfl (mz_lel_cons rfl (mz_lel_cons trivial (mz_lel_nil)))) h103
set_option maxRecDepth 100000 in
theorem t_M_runTree_0 {X : mz_X} {m : mz_M} {Q : Int32 → mz_M → Prop} (a1 : Int32)
    (h : ((a1 < 0 → Q (-1) m) ∧ (¬ (a1 < 0) → ((a1 ≤ 100000 → (((m 55 34) = 0 → Q (-3) m) ∧ (¬ ((m 55 34) = 0) → mz_gv X mz_sh 172 0 [some (.ref 55), some (.int a1), none] m (fun m9 => mz_gi X mz_sh 184 0 [some (.ref 55), none, none] m9 (fun r13 m11 => Q r13 (mz_up m11 55 57 r13)))))) ∧ (¬ (a1 ≤ 100000) → Q (-1) m))))) :
    mz_gi X mz_sh 185 0 [some (.ref 55), some (.int a1)] m Q := by
  refine mz_go_blk mz_m185 2 (pc' := (if a1 < 0 then 11 else 4)) (L' := [some (.ref 55), some (.int a1)]) (S' := []) (sh' := mz_sh) (m' := m) (g := true) rfl rfl (rfl) ?_
  refine mz_go_if (fun c1 => ?_) (fun c1 => ?_)
  · have h2 := h.1 c1
    refine mz_go_blk mz_m185 1 (pc' := 12) (L' := [some (.ref 55), some (.int a1)]) (S' := [.int (-1)]) (sh' := mz_sh) (m' := m) (g := true) rfl rfl (rfl) ?_
    exact mz_go_ret mz_m185 rfl rfl rfl ⟨_, rfl, rfl, h2⟩
  · have h3 := h.2 c1
    refine mz_go_blk mz_m185 3 (pc' := (if a1 ≤ 100000 then 13 else 11)) (L' := [some (.ref 55), some (.int a1)]) (S' := []) (sh' := mz_sh) (m' := m) (g := true) rfl rfl (rfl) ?_
    refine mz_go_if (fun c4 => ?_) (fun c4 => ?_)
    · have h5 := h3.1 c4
      refine mz_go_blk mz_m185 3 (pc' := (if (m 55 34) = 0 then 20 else 23)) (L' := [some (.ref 55), some (.int a1)]) (S' := []) (sh' := mz_sh) (m' := m) (g := true) rfl rfl (rfl) ?_
      refine mz_go_if (fun c6 => ?_) (fun c6 => ?_)
      · have h7 := h5.1 c6
        refine mz_go_blk mz_m185 1 (pc' := 22) (L' := [some (.ref 55), some (.int a1)]) (S' := [.int (-3)]) (sh' := mz_sh) (m' := m) (g := true) rfl rfl (rfl) ?_
        exact mz_go_ret mz_m185 rfl rfl rfl ⟨_, rfl, rfl, h7⟩
      · have h8 := h5.2 c6
        refine mz_go_blk mz_m185 2 (pc' := 25) (L' := [some (.ref 55), some (.int a1)]) (S' := [.int a1, .ref 55]) (sh' := mz_sh) (m' := m) (g := true) rfl rfl (rfl) ?_
        refine mz_go_call mz_m185 mz_m172 rfl rfl rfl rfl rfl rfl rfl h8 (fun v sh1 m9 hv => ?_)
        obtain ⟨rfl, rfl, h10⟩ := hv
        refine mz_go_blk mz_m185 2 (pc' := 30) (L' := [some (.ref 55), some (.int a1)]) (S' := [.ref 55, .ref 55]) (sh' := mz_sh) (m' := m9) (g := true) rfl rfl (rfl) ?_
        refine mz_go_call mz_m185 mz_m184 rfl rfl rfl rfl rfl rfl rfl h10 (fun v sh1 m11 hv => ?_)
        obtain ⟨r13, rfl, rfl, h12⟩ := hv
        refine mz_go_blk mz_m185 3 (pc' := 40) (L' := [some (.ref 55), some (.int a1)]) (S' := [.int r13]) (sh' := mz_sh) (m' := mz_up m11 55 57 r13) (g := true) rfl rfl (rfl) ?_
        exact mz_go_ret mz_m185 rfl rfl rfl ⟨_, rfl, rfl, h12⟩
    · have h14 := h3.2 c4
      refine mz_go_blk mz_m185 1 (pc' := 12) (L' := [some (.ref 55), some (.int a1)]) (S' := [.int (-1)]) (sh' := mz_sh) (m' := m) (g := true) rfl rfl (rfl) ?_
      exact mz_go_ret mz_m185 rfl rfl rfl ⟨_, rfl, rfl, h14⟩
set_option maxRecDepth 100000 in
theorem t_M_word_0 {X : mz_X} {m : mz_M} {Q : Int32 → mz_M → Prop} (a1 : Int32)
    (h : mz_inb a1 60100 = true ∧ mz_inb a1 60100 = true ∧ (((m 90 a1.toNatClampNeg) < 3 → mz_gi X mz_sh 186 63 [some (.ref 55), some (.int a1), some (.int (m 90 a1.toNatClampNeg)), some (.int (m 91 a1.toNatClampNeg)), none] m Q) ∧ (¬ ((m 90 a1.toNatClampNeg) < 3) → ((9 < (m 90 a1.toNatClampNeg) → mz_gi X mz_sh 186 63 [some (.ref 55), some (.int a1), some (.int (m 90 a1.toNatClampNeg)), some (.int (m 91 a1.toNatClampNeg)), none] m Q) ∧ (¬ (9 < (m 90 a1.toNatClampNeg)) → (((m 90 a1.toNatClampNeg) < 8 → mz_gi X mz_sh 179 0 [some (.ref 55), some (.int ((m 90 a1.toNatClampNeg) + 8)), none, none] m (fun r14 m12 => ((r14 = (-3) → Q (-3) m12) ∧ (¬ (r14 = (-3)) → Q (a1 + 1) m12)))) ∧ (¬ ((m 90 a1.toNatClampNeg) < 8) → mz_gi X mz_sh 179 0 [some (.ref 55), some (.int ((m 90 a1.toNatClampNeg) + 1)), none, none] m (fun r21 m19 => ((r21 = (-3) → Q (-3) m19) ∧ (¬ (r21 = (-3)) → Q (a1 + 1) m19)))))))))) :
    mz_gi X mz_sh 186 0 [some (.ref 55), some (.int a1), none, none, none] m Q := by
  obtain ⟨g1, g2, h3⟩ := h
  refine mz_go_blk mz_m186 13 (pc' := (if (m 90 a1.toNatClampNeg) < 3 then 63 else 19)) (L' := [some (.ref 55), some (.int a1), some (.int (m 90 a1.toNatClampNeg)), some (.int (m 91 a1.toNatClampNeg)), none]) (S' := []) (sh' := mz_sh) (m' := m) (g := mz_inb a1 60100 && (mz_inb a1 60100 && true)) rfl rfl (mz_and2 (g2) (mz_and2 (g1) (rfl))) ?_
  refine mz_go_if (fun c4 => ?_) (fun c4 => ?_)
  · have h5 := h3.1 c4
    exact h5
  · have h6 := h3.2 c4
    refine mz_go_blk mz_m186 3 (pc' := (if 9 < (m 90 a1.toNatClampNeg) then 63 else 25)) (L' := [some (.ref 55), some (.int a1), some (.int (m 90 a1.toNatClampNeg)), some (.int (m 91 a1.toNatClampNeg)), none]) (S' := []) (sh' := mz_sh) (m' := m) (g := true) rfl rfl (rfl) ?_
    refine mz_go_if (fun c7 => ?_) (fun c7 => ?_)
    · have h8 := h6.1 c7
      exact h8
    · have h9 := h6.2 c7
      refine mz_go_blk mz_m186 3 (pc' := (if (m 90 a1.toNatClampNeg) < 8 then 37 else 31)) (L' := [some (.ref 55), some (.int a1), some (.int (m 90 a1.toNatClampNeg)), some (.int (m 91 a1.toNatClampNeg)), none]) (S' := []) (sh' := mz_sh) (m' := m) (g := true) rfl rfl (rfl) ?_
      refine mz_go_if (fun c10 => ?_) (fun c10 => ?_)
      · have h11 := h9.1 c10
        refine mz_go_blk mz_m186 6 (pc' := 46) (L' := [some (.ref 55), some (.int a1), some (.int (m 90 a1.toNatClampNeg)), some (.int (m 91 a1.toNatClampNeg)), some (.int ((m 90 a1.toNatClampNeg) + 8))]) (S' := [.int ((m 90 a1.toNatClampNeg) + 8), .ref 55]) (sh' := mz_sh) (m' := m) (g := true) rfl rfl (rfl) ?_
        refine mz_go_call mz_m186 mz_m179 rfl rfl rfl rfl rfl rfl rfl h11 (fun v sh1 m12 hv => ?_)
        obtain ⟨r14, rfl, rfl, h13⟩ := hv
        refine mz_go_blk mz_m186 2 (pc' := (if r14 = (-3) then 54 else 59)) (L' := [some (.ref 55), some (.int a1), some (.int (m 90 a1.toNatClampNeg)), some (.int (m 91 a1.toNatClampNeg)), some (.int ((m 90 a1.toNatClampNeg) + 8))]) (S' := []) (sh' := mz_sh) (m' := m12) (g := true) rfl rfl (rfl) ?_
        refine mz_go_if (fun c15 => ?_) (fun c15 => ?_)
        · have h16 := h13.1 c15
          refine mz_go_blk mz_m186 2 (pc' := 62) (L' := [some (.ref 55), some (.int a1), some (.int (m 90 a1.toNatClampNeg)), some (.int (m 91 a1.toNatClampNeg)), some (.int ((m 90 a1.toNatClampNeg) + 8))]) (S' := [.int (-3)]) (sh' := mz_sh) (m' := m12) (g := true) rfl rfl (rfl) ?_
          exact mz_go_ret mz_m186 rfl rfl rfl ⟨_, rfl, rfl, h16⟩
        · have h17 := h13.2 c15
          refine mz_go_blk mz_m186 3 (pc' := 62) (L' := [some (.ref 55), some (.int a1), some (.int (m 90 a1.toNatClampNeg)), some (.int (m 91 a1.toNatClampNeg)), some (.int ((m 90 a1.toNatClampNeg) + 8))]) (S' := [.int (a1 + 1)]) (sh' := mz_sh) (m' := m12) (g := true) rfl rfl (rfl) ?_
          exact mz_go_ret mz_m186 rfl rfl rfl ⟨_, rfl, rfl, h17⟩
      · have h18 := h9.2 c10
        refine mz_go_blk mz_m186 7 (pc' := 46) (L' := [some (.ref 55), some (.int a1), some (.int (m 90 a1.toNatClampNeg)), some (.int (m 91 a1.toNatClampNeg)), some (.int ((m 90 a1.toNatClampNeg) + 1))]) (S' := [.int ((m 90 a1.toNatClampNeg) + 1), .ref 55]) (sh' := mz_sh) (m' := m) (g := true) rfl rfl (rfl) ?_
        refine mz_go_call mz_m186 mz_m179 rfl rfl rfl rfl rfl rfl rfl h18 (fun v sh1 m19 hv => ?_)
        obtain ⟨r21, rfl, rfl, h20⟩ := hv
        refine mz_go_blk mz_m186 2 (pc' := (if r21 = (-3) then 54 else 59)) (L' := [some (.ref 55), some (.int a1), some (.int (m 90 a1.toNatClampNeg)), some (.int (m 91 a1.toNatClampNeg)), some (.int ((m 90 a1.toNatClampNeg) + 1))]) (S' := []) (sh' := mz_sh) (m' := m19) (g := true) rfl rfl (rfl) ?_
        refine mz_go_if (fun c22 => ?_) (fun c22 => ?_)
        · have h23 := h20.1 c22
          refine mz_go_blk mz_m186 2 (pc' := 62) (L' := [some (.ref 55), some (.int a1), some (.int (m 90 a1.toNatClampNeg)), some (.int (m 91 a1.toNatClampNeg)), some (.int ((m 90 a1.toNatClampNeg) + 1))]) (S' := [.int (-3)]) (sh' := mz_sh) (m' := m19) (g := true) rfl rfl (rfl) ?_
          exact mz_go_ret mz_m186 rfl rfl rfl ⟨_, rfl, rfl, h23⟩
        · have h24 := h20.2 c22
          refine mz_go_blk mz_m186 3 (pc' := 62) (L' := [some (.ref 55), some (.int a1), some (.int (m 90 a1.toNatClampNeg)), some (.int (m 91 a1.toNatClampNeg)), some (.int ((m 90 a1.toNatClampNeg) + 1))]) (S' := [.int (a1 + 1)]) (sh' := mz_sh) (m' := m19) (g := true) rfl rfl (rfl) ?_
          exact mz_go_ret mz_m186 rfl rfl rfl ⟨_, rfl, rfl, h24⟩
set_option maxRecDepth 100000 in
theorem t_M_word_1 {X : mz_X} {m : mz_M} {Q : Int32 → mz_M → Prop} (l1 : Int32) (l2 : Int32) (l3 : Int32)
    (h : ((l2 = 0 → mz_gv X mz_sh 174 0 [some (.ref 55), some (.int l3)] m (fun m3 => Q (l1 + 1) m3)) ∧ (l2 = 1 → mz_inb l3 32 = true ∧ mz_gv X mz_sh 174 0 [some (.ref 55), some (.int (m 97 l3.toNatClampNeg))] m (fun m10 => Q (l1 + 1) m10)) ∧ (l2 = 2 → mz_gi X mz_sh 175 0 [some (.ref 55)] m (fun r17 m15 => mz_inb l3 32 = true ∧ Q (l1 + 1) (mz_up m15 97 l3.toNatClampNeg r17))) ∧ (l2 = 10 → mz_gi X mz_sh 175 0 [some (.ref 55)] m (fun r25 m23 => mz_gv X mz_sh 174 0 [some (.ref 55), some (.int (-r25))] m23 (fun m26 => Q (l1 + 1) m26))) ∧ (l2 = 11 → mz_gi X mz_sh 175 0 [some (.ref 55)] m (fun r33 m31 => ((r33 = 0 → mz_gi X mz_sh 177 0 [some (.int 1)] m31 (fun r38 m36 => mz_gv X mz_sh 174 0 [some (.ref 55), some (.int r38)] m36 (fun m39 => Q (l1 + 1) m39))) ∧ (¬ (r33 = 0) → mz_gi X mz_sh 177 0 [some (.int 0)] m31 (fun r44 m42 => mz_gv X mz_sh 174 0 [some (.ref 55), some (.int r44)] m42 (fun m45 => Q (l1 + 1) m45)))))) ∧ (l2 = 12 → mz_gi X mz_sh 175 0 [some (.ref 55)] m (fun r52 m50 => ((r52 = 0 → mz_gi X mz_sh 177 0 [some (.int 0)] m50 (fun r57 m55 => mz_gv X mz_sh 174 0 [some (.ref 55), some (.int r57)] m55 (fun m58 => Q (l1 + 1) m58))) ∧ (¬ (r52 = 0) → mz_gi X mz_sh 177 0 [some (.int 1)] m50 (fun r63 m61 => mz_gv X mz_sh 174 0 [some (.ref 55), some (.int r63)] m61 (fun m64 => Q (l1 + 1) m64)))))) ∧ (l2 = 13 → Q l3 m) ∧ (l2 = 14 → mz_gi X mz_sh 175 0 [some (.ref 55)] m (fun r74 m72 => ((r74 = 0 → Q l3 m72) ∧ (¬ (r74 = 0) → Q (l1 + 1) m72)))) ∧ (l2 = 15 → mz_gi X mz_sh 175 0 [some (.ref 55)] m (fun r83 m81 => mz_gv X mz_sh 176 0 [some (.ref 55), some (.int r83)] m81 (fun m84 => Q (l1 + 1) m84))) ∧ (¬ l2 = 0 → ¬ l2 = 1 → ¬ l2 = 2 → ¬ l2 = 10 → ¬ l2 = 11 → ¬ l2 = 12 → ¬ l2 = 13 → ¬ l2 = 14 → ¬ l2 = 15 → Q (-1) m))) :
    mz_gi X mz_sh 186 63 [some (.ref 55), some (.int l1), some (.int l2), some (.int l3), none] m Q := by
  refine mz_go_blk mz_m186 2 (pc' := (mz_tsw 64 205 0 15 #[80, 89, 103, 205, 205, 205, 205, 205, 205, 205, 117, 130, 153, 176, 178, 193] l2)) (L' := [some (.ref 55), some (.int l1), some (.int l2), some (.int l3), none]) (S' := []) (sh' := mz_sh) (m' := m) (g := true) rfl rfl (rfl) ?_
  by_cases c2 : l2 = 0
  · have h1 := h.1 c2
    rw [show mz_tsw 64 205 0 15 #[80, 89, 103, 205, 205, 205, 205, 205, 205, 205, 117, 130, 153, 176, 178, 193] l2 = 144 by rw [c2]; decide +kernel]
    refine mz_go_blk mz_m186 2 (pc' := 146) (L' := [some (.ref 55), some (.int l1), some (.int l2), some (.int l3), none]) (S' := [.int l3, .ref 55]) (sh' := mz_sh) (m' := m) (g := true) rfl rfl (rfl) ?_
    refine mz_go_call mz_m186 mz_m174 rfl rfl rfl rfl rfl rfl rfl h1 (fun v sh1 m3 hv => ?_)
    obtain ⟨rfl, rfl, h4⟩ := hv
    refine mz_go_blk mz_m186 3 (pc' := 152) (L' := [some (.ref 55), some (.int l1), some (.int l2), some (.int l3), none]) (S' := [.int (l1 + 1)]) (sh' := mz_sh) (m' := m3) (g := true) rfl rfl (rfl) ?_
    exact mz_go_ret mz_m186 rfl rfl rfl ⟨_, rfl, rfl, h4⟩
  have h5 := h.2
  by_cases c7 : l2 = 1
  · have h6 := h5.1 c7
    rw [show mz_tsw 64 205 0 15 #[80, 89, 103, 205, 205, 205, 205, 205, 205, 205, 117, 130, 153, 176, 178, 193] l2 = 153 by rw [c7]; decide +kernel]
    obtain ⟨g8, h9⟩ := h6
    refine mz_go_blk mz_m186 5 (pc' := 160) (L' := [some (.ref 55), some (.int l1), some (.int l2), some (.int l3), none]) (S' := [.int (m 97 l3.toNatClampNeg), .ref 55]) (sh' := mz_sh) (m' := m) (g := mz_inb l3 32 && true) rfl rfl (mz_and2 (g8) (rfl)) ?_
    refine mz_go_call mz_m186 mz_m174 rfl rfl rfl rfl rfl rfl rfl h9 (fun v sh1 m10 hv => ?_)
    obtain ⟨rfl, rfl, h11⟩ := hv
    refine mz_go_blk mz_m186 3 (pc' := 166) (L' := [some (.ref 55), some (.int l1), some (.int l2), some (.int l3), none]) (S' := [.int (l1 + 1)]) (sh' := mz_sh) (m' := m10) (g := true) rfl rfl (rfl) ?_
    exact mz_go_ret mz_m186 rfl rfl rfl ⟨_, rfl, rfl, h11⟩
  have h12 := h5.2
  by_cases c14 : l2 = 2
  · have h13 := h12.1 c14
    rw [show mz_tsw 64 205 0 15 #[80, 89, 103, 205, 205, 205, 205, 205, 205, 205, 117, 130, 153, 176, 178, 193] l2 = 167 by rw [c14]; decide +kernel]
    refine mz_go_blk mz_m186 4 (pc' := 173) (L' := [some (.ref 55), some (.int l1), some (.int l2), some (.int l3), none]) (S' := [.ref 55, .int l3, .ref 97]) (sh' := mz_sh) (m' := m) (g := true) rfl rfl (rfl) ?_
    refine mz_go_call mz_m186 mz_m175 rfl rfl rfl rfl rfl rfl rfl h13 (fun v sh1 m15 hv => ?_)
    obtain ⟨r17, rfl, rfl, h16⟩ := hv
    obtain ⟨g18, h19⟩ := h16
    refine mz_go_blk mz_m186 4 (pc' := 180) (L' := [some (.ref 55), some (.int l1), some (.int l2), some (.int l3), none]) (S' := [.int (l1 + 1)]) (sh' := mz_sh) (m' := mz_up m15 97 l3.toNatClampNeg r17) (g := mz_inb l3 32 && true) rfl rfl (mz_and2 (g18) (rfl)) ?_
    exact mz_go_ret mz_m186 rfl rfl rfl ⟨_, rfl, rfl, h19⟩
  have h20 := h12.2
  by_cases c22 : l2 = 10
  · have h21 := h20.1 c22
    rw [show mz_tsw 64 205 0 15 #[80, 89, 103, 205, 205, 205, 205, 205, 205, 205, 117, 130, 153, 176, 178, 193] l2 = 181 by rw [c22]; decide +kernel]
    refine mz_go_blk mz_m186 2 (pc' := 183) (L' := [some (.ref 55), some (.int l1), some (.int l2), some (.int l3), none]) (S' := [.ref 55, .ref 55]) (sh' := mz_sh) (m' := m) (g := true) rfl rfl (rfl) ?_
    refine mz_go_call mz_m186 mz_m175 rfl rfl rfl rfl rfl rfl rfl h21 (fun v sh1 m23 hv => ?_)
    obtain ⟨r25, rfl, rfl, h24⟩ := hv
    refine mz_go_blk mz_m186 1 (pc' := 187) (L' := [some (.ref 55), some (.int l1), some (.int l2), some (.int l3), none]) (S' := [.int (-r25), .ref 55]) (sh' := mz_sh) (m' := m23) (g := true) rfl rfl (rfl) ?_
    refine mz_go_call mz_m186 mz_m174 rfl rfl rfl rfl rfl rfl rfl h24 (fun v sh1 m26 hv => ?_)
    obtain ⟨rfl, rfl, h27⟩ := hv
    refine mz_go_blk mz_m186 3 (pc' := 193) (L' := [some (.ref 55), some (.int l1), some (.int l2), some (.int l3), none]) (S' := [.int (l1 + 1)]) (sh' := mz_sh) (m' := m26) (g := true) rfl rfl (rfl) ?_
    exact mz_go_ret mz_m186 rfl rfl rfl ⟨_, rfl, rfl, h27⟩
  have h28 := h20.2
  by_cases c30 : l2 = 11
  · have h29 := h28.1 c30
    rw [show mz_tsw 64 205 0 15 #[80, 89, 103, 205, 205, 205, 205, 205, 205, 205, 117, 130, 153, 176, 178, 193] l2 = 194 by rw [c30]; decide +kernel]
    refine mz_go_blk mz_m186 2 (pc' := 196) (L' := [some (.ref 55), some (.int l1), some (.int l2), some (.int l3), none]) (S' := [.ref 55, .ref 55]) (sh' := mz_sh) (m' := m) (g := true) rfl rfl (rfl) ?_
    refine mz_go_call mz_m186 mz_m175 rfl rfl rfl rfl rfl rfl rfl h29 (fun v sh1 m31 hv => ?_)
    obtain ⟨r33, rfl, rfl, h32⟩ := hv
    refine mz_go_blk mz_m186 1 (pc' := (if r33 = 0 then 202 else 206)) (L' := [some (.ref 55), some (.int l1), some (.int l2), some (.int l3), none]) (S' := [.ref 55]) (sh' := mz_sh) (m' := m31) (g := true) rfl rfl (rfl) ?_
    refine mz_go_if (fun c34 => ?_) (fun c34 => ?_)
    · have h35 := h32.1 c34
      refine mz_go_blk mz_m186 2 (pc' := 207) (L' := [some (.ref 55), some (.int l1), some (.int l2), some (.int l3), none]) (S' := [.int 1, .ref 55]) (sh' := mz_sh) (m' := m31) (g := true) rfl rfl (rfl) ?_
      refine mz_go_call mz_m186 mz_m177 rfl rfl rfl rfl rfl rfl rfl h35 (fun v sh1 m36 hv => ?_)
      obtain ⟨r38, rfl, rfl, h37⟩ := hv
      refine mz_go_call mz_m186 mz_m174 rfl rfl rfl rfl rfl rfl rfl h37 (fun v sh1 m39 hv => ?_)
      obtain ⟨rfl, rfl, h40⟩ := hv
      refine mz_go_blk mz_m186 3 (pc' := 216) (L' := [some (.ref 55), some (.int l1), some (.int l2), some (.int l3), none]) (S' := [.int (l1 + 1)]) (sh' := mz_sh) (m' := m39) (g := true) rfl rfl (rfl) ?_
      exact mz_go_ret mz_m186 rfl rfl rfl ⟨_, rfl, rfl, h40⟩
    · have h41 := h32.2 c34
      refine mz_go_blk mz_m186 1 (pc' := 207) (L' := [some (.ref 55), some (.int l1), some (.int l2), some (.int l3), none]) (S' := [.int 0, .ref 55]) (sh' := mz_sh) (m' := m31) (g := true) rfl rfl (rfl) ?_
      refine mz_go_call mz_m186 mz_m177 rfl rfl rfl rfl rfl rfl rfl h41 (fun v sh1 m42 hv => ?_)
      obtain ⟨r44, rfl, rfl, h43⟩ := hv
      refine mz_go_call mz_m186 mz_m174 rfl rfl rfl rfl rfl rfl rfl h43 (fun v sh1 m45 hv => ?_)
      obtain ⟨rfl, rfl, h46⟩ := hv
      refine mz_go_blk mz_m186 3 (pc' := 216) (L' := [some (.ref 55), some (.int l1), some (.int l2), some (.int l3), none]) (S' := [.int (l1 + 1)]) (sh' := mz_sh) (m' := m45) (g := true) rfl rfl (rfl) ?_
      exact mz_go_ret mz_m186 rfl rfl rfl ⟨_, rfl, rfl, h46⟩
  have h47 := h28.2
  by_cases c49 : l2 = 12
  · have h48 := h47.1 c49
    rw [show mz_tsw 64 205 0 15 #[80, 89, 103, 205, 205, 205, 205, 205, 205, 205, 117, 130, 153, 176, 178, 193] l2 = 217 by rw [c49]; decide +kernel]
    refine mz_go_blk mz_m186 2 (pc' := 219) (L' := [some (.ref 55), some (.int l1), some (.int l2), some (.int l3), none]) (S' := [.ref 55, .ref 55]) (sh' := mz_sh) (m' := m) (g := true) rfl rfl (rfl) ?_
    refine mz_go_call mz_m186 mz_m175 rfl rfl rfl rfl rfl rfl rfl h48 (fun v sh1 m50 hv => ?_)
    obtain ⟨r52, rfl, rfl, h51⟩ := hv
    refine mz_go_blk mz_m186 1 (pc' := (if r52 = 0 then 229 else 225)) (L' := [some (.ref 55), some (.int l1), some (.int l2), some (.int l3), none]) (S' := [.ref 55]) (sh' := mz_sh) (m' := m50) (g := true) rfl rfl (rfl) ?_
    refine mz_go_if (fun c53 => ?_) (fun c53 => ?_)
    · have h54 := h51.1 c53
      refine mz_go_blk mz_m186 1 (pc' := 230) (L' := [some (.ref 55), some (.int l1), some (.int l2), some (.int l3), none]) (S' := [.int 0, .ref 55]) (sh' := mz_sh) (m' := m50) (g := true) rfl rfl (rfl) ?_
      refine mz_go_call mz_m186 mz_m177 rfl rfl rfl rfl rfl rfl rfl h54 (fun v sh1 m55 hv => ?_)
      obtain ⟨r57, rfl, rfl, h56⟩ := hv
      refine mz_go_call mz_m186 mz_m174 rfl rfl rfl rfl rfl rfl rfl h56 (fun v sh1 m58 hv => ?_)
      obtain ⟨rfl, rfl, h59⟩ := hv
      refine mz_go_blk mz_m186 3 (pc' := 239) (L' := [some (.ref 55), some (.int l1), some (.int l2), some (.int l3), none]) (S' := [.int (l1 + 1)]) (sh' := mz_sh) (m' := m58) (g := true) rfl rfl (rfl) ?_
      exact mz_go_ret mz_m186 rfl rfl rfl ⟨_, rfl, rfl, h59⟩
    · have h60 := h51.2 c53
      refine mz_go_blk mz_m186 2 (pc' := 230) (L' := [some (.ref 55), some (.int l1), some (.int l2), some (.int l3), none]) (S' := [.int 1, .ref 55]) (sh' := mz_sh) (m' := m50) (g := true) rfl rfl (rfl) ?_
      refine mz_go_call mz_m186 mz_m177 rfl rfl rfl rfl rfl rfl rfl h60 (fun v sh1 m61 hv => ?_)
      obtain ⟨r63, rfl, rfl, h62⟩ := hv
      refine mz_go_call mz_m186 mz_m174 rfl rfl rfl rfl rfl rfl rfl h62 (fun v sh1 m64 hv => ?_)
      obtain ⟨rfl, rfl, h65⟩ := hv
      refine mz_go_blk mz_m186 3 (pc' := 239) (L' := [some (.ref 55), some (.int l1), some (.int l2), some (.int l3), none]) (S' := [.int (l1 + 1)]) (sh' := mz_sh) (m' := m64) (g := true) rfl rfl (rfl) ?_
      exact mz_go_ret mz_m186 rfl rfl rfl ⟨_, rfl, rfl, h65⟩
  have h66 := h47.2
  by_cases c68 : l2 = 13
  · have h67 := h66.1 c68
    rw [show mz_tsw 64 205 0 15 #[80, 89, 103, 205, 205, 205, 205, 205, 205, 205, 117, 130, 153, 176, 178, 193] l2 = 240 by rw [c68]; decide +kernel]
    refine mz_go_blk mz_m186 1 (pc' := 241) (L' := [some (.ref 55), some (.int l1), some (.int l2), some (.int l3), none]) (S' := [.int l3]) (sh' := mz_sh) (m' := m) (g := true) rfl rfl (rfl) ?_
    exact mz_go_ret mz_m186 rfl rfl rfl ⟨_, rfl, rfl, h67⟩
  have h69 := h66.2
  by_cases c71 : l2 = 14
  · have h70 := h69.1 c71
    rw [show mz_tsw 64 205 0 15 #[80, 89, 103, 205, 205, 205, 205, 205, 205, 205, 117, 130, 153, 176, 178, 193] l2 = 242 by rw [c71]; decide +kernel]
    refine mz_go_blk mz_m186 1 (pc' := 243) (L' := [some (.ref 55), some (.int l1), some (.int l2), some (.int l3), none]) (S' := [.ref 55]) (sh' := mz_sh) (m' := m) (g := true) rfl rfl (rfl) ?_
    refine mz_go_call mz_m186 mz_m175 rfl rfl rfl rfl rfl rfl rfl h70 (fun v sh1 m72 hv => ?_)
    obtain ⟨r74, rfl, rfl, h73⟩ := hv
    refine mz_go_blk mz_m186 1 (pc' := (if r74 = 0 then 255 else 249)) (L' := [some (.ref 55), some (.int l1), some (.int l2), some (.int l3), none]) (S' := []) (sh' := mz_sh) (m' := m72) (g := true) rfl rfl (rfl) ?_
    refine mz_go_if (fun c75 => ?_) (fun c75 => ?_)
    · have h76 := h73.1 c75
      refine mz_go_blk mz_m186 1 (pc' := 256) (L' := [some (.ref 55), some (.int l1), some (.int l2), some (.int l3), none]) (S' := [.int l3]) (sh' := mz_sh) (m' := m72) (g := true) rfl rfl (rfl) ?_
      exact mz_go_ret mz_m186 rfl rfl rfl ⟨_, rfl, rfl, h76⟩
    · have h77 := h73.2 c75
      refine mz_go_blk mz_m186 4 (pc' := 256) (L' := [some (.ref 55), some (.int l1), some (.int l2), some (.int l3), none]) (S' := [.int (l1 + 1)]) (sh' := mz_sh) (m' := m72) (g := true) rfl rfl (rfl) ?_
      exact mz_go_ret mz_m186 rfl rfl rfl ⟨_, rfl, rfl, h77⟩
  have h78 := h69.2
  by_cases c80 : l2 = 15
  · have h79 := h78.1 c80
    rw [show mz_tsw 64 205 0 15 #[80, 89, 103, 205, 205, 205, 205, 205, 205, 205, 117, 130, 153, 176, 178, 193] l2 = 257 by rw [c80]; decide +kernel]
    refine mz_go_blk mz_m186 2 (pc' := 259) (L' := [some (.ref 55), some (.int l1), some (.int l2), some (.int l3), none]) (S' := [.ref 55, .ref 55]) (sh' := mz_sh) (m' := m) (g := true) rfl rfl (rfl) ?_
    refine mz_go_call mz_m186 mz_m175 rfl rfl rfl rfl rfl rfl rfl h79 (fun v sh1 m81 hv => ?_)
    obtain ⟨r83, rfl, rfl, h82⟩ := hv
    refine mz_go_call mz_m186 mz_m176 rfl rfl rfl rfl rfl rfl rfl h82 (fun v sh1 m84 hv => ?_)
    obtain ⟨rfl, rfl, h85⟩ := hv
    refine mz_go_blk mz_m186 3 (pc' := 268) (L' := [some (.ref 55), some (.int l1), some (.int l2), some (.int l3), none]) (S' := [.int (l1 + 1)]) (sh' := mz_sh) (m' := m84) (g := true) rfl rfl (rfl) ?_
    exact mz_go_ret mz_m186 rfl rfl rfl ⟨_, rfl, rfl, h85⟩
  have h86 := h78.2
  have h86d := h86 c2 c7 c14 c22 c30 c49 c68 c71 c80
  rw [show mz_tsw 64 205 0 15 #[80, 89, 103, 205, 205, 205, 205, 205, 205, 205, 117, 130, 153, 176, 178, 193] l2 = 269 from (by
        refine mz_tswd _ _ _ _ _ l2 269 (by decide +kernel) (fun k hk z => ?_)
        match k, hk, z with
        | 0, _, z => exact absurd (mz_tI (by rw [z]; decide +kernel)) c2
        | 1, _, z => exact absurd (mz_tI (by rw [z]; decide +kernel)) c7
        | 2, _, z => exact absurd (mz_tI (by rw [z]; decide +kernel)) c14
        | 3, _, z => decide +kernel
        | 4, _, z => decide +kernel
        | 5, _, z => decide +kernel
        | 6, _, z => decide +kernel
        | 7, _, z => decide +kernel
        | 8, _, z => decide +kernel
        | 9, _, z => decide +kernel
        | 10, _, z => exact absurd (mz_tI (by rw [z]; decide +kernel)) c22
        | 11, _, z => exact absurd (mz_tI (by rw [z]; decide +kernel)) c30
        | 12, _, z => exact absurd (mz_tI (by rw [z]; decide +kernel)) c49
        | 13, _, z => exact absurd (mz_tI (by rw [z]; decide +kernel)) c68
        | 14, _, z => exact absurd (mz_tI (by rw [z]; decide +kernel)) c71
        | 15, _, z => exact absurd (mz_tI (by rw [z]; decide +kernel)) c80
        | k + 16, hk, _ => exact absurd hk (by simp only [Array.size]; simp)
      )]
  refine mz_go_blk mz_m186 1 (pc' := 270) (L' := [some (.ref 55), some (.int l1), some (.int l2), some (.int l3), none]) (S' := [.int (-1)]) (sh' := mz_sh) (m' := m) (g := true) rfl rfl (rfl) ?_
  exact mz_go_ret mz_m186 rfl rfl rfl ⟨_, rfl, rfl, h86d⟩
set_option maxRecDepth 100000 in
theorem t_M_goCode_0 {X : mz_X} {m : mz_M} {Q : Int32 → mz_M → Prop}
    (h : mz_gi X mz_sh 187 2 [some (.ref 55), some (.int 0)] m Q) :
    mz_gi X mz_sh 187 0 [some (.ref 55), none] m Q := by
  refine mz_go_blk mz_m187 2 (pc' := 2) (L' := [some (.ref 55), some (.int 0)]) (S' := []) (sh' := mz_sh) (m' := m) (g := true) rfl rfl (rfl) ?_
  exact h
set_option maxRecDepth 100000 in
theorem t_M_goCode_1 {X : mz_X} {m : mz_M} {Q : Int32 → mz_M → Prop} (l1 : Int32)
    (h : ((l1 < 0 → ((l1 = (-3) → Q 2 m) ∧ (¬ (l1 = (-3)) → Q 0 m))) ∧ (¬ (l1 < 0) → mz_gi X mz_sh 173 0 [some (.ref 55), some (.int l1)] m (fun r9 m7 => ((r9 = 0 → Q 1 m7) ∧ (¬ (r9 = 0) → mz_gi X mz_sh 186 0 [some (.ref 55), some (.int l1), none, none, none] m7 (fun r15 m13 => mz_gi X mz_sh 187 2 [some (.ref 55), some (.int r15)] m13 Q))))))) :
    mz_gi X mz_sh 187 2 [some (.ref 55), some (.int l1)] m Q := by
  refine mz_go_blk mz_m187 2 (pc' := (if l1 < 0 then 25 else 6)) (L' := [some (.ref 55), some (.int l1)]) (S' := []) (sh' := mz_sh) (m' := m) (g := true) rfl rfl (rfl) ?_
  refine mz_go_if (fun c1 => ?_) (fun c1 => ?_)
  · have h2 := h.1 c1
    refine mz_go_blk mz_m187 3 (pc' := (if l1 = (-3) then 31 else 35)) (L' := [some (.ref 55), some (.int l1)]) (S' := []) (sh' := mz_sh) (m' := m) (g := true) rfl rfl (rfl) ?_
    refine mz_go_if (fun c3 => ?_) (fun c3 => ?_)
    · have h4 := h2.1 c3
      refine mz_go_blk mz_m187 2 (pc' := 36) (L' := [some (.ref 55), some (.int l1)]) (S' := [.int 2]) (sh' := mz_sh) (m' := m) (g := true) rfl rfl (rfl) ?_
      exact mz_go_ret mz_m187 rfl rfl rfl ⟨_, rfl, rfl, h4⟩
    · have h5 := h2.2 c3
      refine mz_go_blk mz_m187 1 (pc' := 36) (L' := [some (.ref 55), some (.int l1)]) (S' := [.int 0]) (sh' := mz_sh) (m' := m) (g := true) rfl rfl (rfl) ?_
      exact mz_go_ret mz_m187 rfl rfl rfl ⟨_, rfl, rfl, h5⟩
  · have h6 := h.2 c1
    refine mz_go_blk mz_m187 2 (pc' := 8) (L' := [some (.ref 55), some (.int l1)]) (S' := [.int l1, .ref 55]) (sh' := mz_sh) (m' := m) (g := true) rfl rfl (rfl) ?_
    refine mz_go_call mz_m187 mz_m173 rfl rfl rfl rfl rfl rfl rfl h6 (fun v sh1 m7 hv => ?_)
    obtain ⟨r9, rfl, rfl, h8⟩ := hv
    refine mz_go_blk mz_m187 1 (pc' := (if r9 = 0 then 14 else 16)) (L' := [some (.ref 55), some (.int l1)]) (S' := []) (sh' := mz_sh) (m' := m7) (g := true) rfl rfl (rfl) ?_
    refine mz_go_if (fun c10 => ?_) (fun c10 => ?_)
    · have h11 := h8.1 c10
      refine mz_go_blk mz_m187 1 (pc' := 15) (L' := [some (.ref 55), some (.int l1)]) (S' := [.int 1]) (sh' := mz_sh) (m' := m7) (g := true) rfl rfl (rfl) ?_
      exact mz_go_ret mz_m187 rfl rfl rfl ⟨_, rfl, rfl, h11⟩
    · have h12 := h8.2 c10
      refine mz_go_blk mz_m187 2 (pc' := 18) (L' := [some (.ref 55), some (.int l1)]) (S' := [.int l1, .ref 55]) (sh' := mz_sh) (m' := m7) (g := true) rfl rfl (rfl) ?_
      refine mz_go_call mz_m187 mz_m186 rfl rfl rfl rfl rfl rfl rfl h12 (fun v sh1 m13 hv => ?_)
      obtain ⟨r15, rfl, rfl, h14⟩ := hv
      refine mz_go_blk mz_m187 2 (pc' := 2) (L' := [some (.ref 55), some (.int r15)]) (S' := []) (sh' := mz_sh) (m' := m13) (g := true) rfl rfl (rfl) ?_
      exact h14
set_option maxRecDepth 100000 in
theorem t_M_runCode_0 {X : mz_X} {m : mz_M} {Q : Int32 → mz_M → Prop} (a1 : Int32)
    (h : ((a1 < 0 → Q (-1) m) ∧ (¬ (a1 < 0) → ((a1 ≤ 100000 → (((m 55 44) = 0 → Q (-3) m) ∧ (¬ ((m 55 44) = 0) → mz_gv X mz_sh 172 0 [some (.ref 55), some (.int a1), none] m (fun m9 => mz_gi X mz_sh 187 0 [some (.ref 55), none] m9 (fun r13 m11 => Q r13 (mz_up m11 55 57 r13)))))) ∧ (¬ (a1 ≤ 100000) → Q (-1) m))))) :
    mz_gi X mz_sh 188 0 [some (.ref 55), some (.int a1)] m Q := by
  refine mz_go_blk mz_m188 2 (pc' := (if a1 < 0 then 11 else 4)) (L' := [some (.ref 55), some (.int a1)]) (S' := []) (sh' := mz_sh) (m' := m) (g := true) rfl rfl (rfl) ?_
  refine mz_go_if (fun c1 => ?_) (fun c1 => ?_)
  · have h2 := h.1 c1
    refine mz_go_blk mz_m188 1 (pc' := 12) (L' := [some (.ref 55), some (.int a1)]) (S' := [.int (-1)]) (sh' := mz_sh) (m' := m) (g := true) rfl rfl (rfl) ?_
    exact mz_go_ret mz_m188 rfl rfl rfl ⟨_, rfl, rfl, h2⟩
  · have h3 := h.2 c1
    refine mz_go_blk mz_m188 3 (pc' := (if a1 ≤ 100000 then 13 else 11)) (L' := [some (.ref 55), some (.int a1)]) (S' := []) (sh' := mz_sh) (m' := m) (g := true) rfl rfl (rfl) ?_
    refine mz_go_if (fun c4 => ?_) (fun c4 => ?_)
    · have h5 := h3.1 c4
      refine mz_go_blk mz_m188 3 (pc' := (if (m 55 44) = 0 then 20 else 23)) (L' := [some (.ref 55), some (.int a1)]) (S' := []) (sh' := mz_sh) (m' := m) (g := true) rfl rfl (rfl) ?_
      refine mz_go_if (fun c6 => ?_) (fun c6 => ?_)
      · have h7 := h5.1 c6
        refine mz_go_blk mz_m188 1 (pc' := 22) (L' := [some (.ref 55), some (.int a1)]) (S' := [.int (-3)]) (sh' := mz_sh) (m' := m) (g := true) rfl rfl (rfl) ?_
        exact mz_go_ret mz_m188 rfl rfl rfl ⟨_, rfl, rfl, h7⟩
      · have h8 := h5.2 c6
        refine mz_go_blk mz_m188 2 (pc' := 25) (L' := [some (.ref 55), some (.int a1)]) (S' := [.int a1, .ref 55]) (sh' := mz_sh) (m' := m) (g := true) rfl rfl (rfl) ?_
        refine mz_go_call mz_m188 mz_m172 rfl rfl rfl rfl rfl rfl rfl h8 (fun v sh1 m9 hv => ?_)
        obtain ⟨rfl, rfl, h10⟩ := hv
        refine mz_go_blk mz_m188 2 (pc' := 30) (L' := [some (.ref 55), some (.int a1)]) (S' := [.ref 55, .ref 55]) (sh' := mz_sh) (m' := m9) (g := true) rfl rfl (rfl) ?_
        refine mz_go_call mz_m188 mz_m187 rfl rfl rfl rfl rfl rfl rfl h10 (fun v sh1 m11 hv => ?_)
        obtain ⟨r13, rfl, rfl, h12⟩ := hv
        refine mz_go_blk mz_m188 3 (pc' := 40) (L' := [some (.ref 55), some (.int a1)]) (S' := [.int r13]) (sh' := mz_sh) (m' := mz_up m11 55 57 r13) (g := true) rfl rfl (rfl) ?_
        exact mz_go_ret mz_m188 rfl rfl rfl ⟨_, rfl, rfl, h12⟩
    · have h14 := h3.2 c4
      refine mz_go_blk mz_m188 1 (pc' := 12) (L' := [some (.ref 55), some (.int a1)]) (S' := [.int (-1)]) (sh' := mz_sh) (m' := m) (g := true) rfl rfl (rfl) ?_
      exact mz_go_ret mz_m188 rfl rfl rfl ⟨_, rfl, rfl, h14⟩
set_option maxRecDepth 100000 in
theorem t_M_ran_0 {X : mz_X} {m : mz_M} {Q : Int32 → mz_M → Prop} (a1 : Int32)
    (h : (((m 55 56) = 0 → Q (-1) m) ∧ (¬ ((m 55 56) = 0) → ((a1 = 0 → Q (m 55 57) m) ∧ (a1 = 1 → Q (m 55 59) m) ∧ (a1 = 2 → Q (m 55 61) m) ∧ (a1 = 3 → Q (m 55 60) m) ∧ (¬ a1 = 0 → ¬ a1 = 1 → ¬ a1 = 2 → ¬ a1 = 3 → Q (-1) m))))) :
    mz_gi X mz_sh 189 0 [some (.ref 55), some (.int a1)] m Q := by
  refine mz_go_blk mz_m189 3 (pc' := (if (m 55 56) = 0 then 7 else 9)) (L' := [some (.ref 55), some (.int a1)]) (S' := []) (sh' := mz_sh) (m' := m) (g := true) rfl rfl (rfl) ?_
  refine mz_go_if (fun c1 => ?_) (fun c1 => ?_)
  · have h2 := h.1 c1
    refine mz_go_blk mz_m189 1 (pc' := 8) (L' := [some (.ref 55), some (.int a1)]) (S' := [.int (-1)]) (sh' := mz_sh) (m' := m) (g := true) rfl rfl (rfl) ?_
    exact mz_go_ret mz_m189 rfl rfl rfl ⟨_, rfl, rfl, h2⟩
  · have h3 := h.2 c1
    refine mz_go_blk mz_m189 2 (pc' := (mz_tsw 10 50 0 3 #[30, 35, 40, 45] a1)) (L' := [some (.ref 55), some (.int a1)]) (S' := []) (sh' := mz_sh) (m' := m) (g := true) rfl rfl (rfl) ?_
    by_cases c5 : a1 = 0
    · have h4 := h3.1 c5
      rw [show mz_tsw 10 50 0 3 #[30, 35, 40, 45] a1 = 40 by rw [c5]; decide +kernel]
      refine mz_go_blk mz_m189 2 (pc' := 44) (L' := [some (.ref 55), some (.int a1)]) (S' := [.int (m 55 57)]) (sh' := mz_sh) (m' := m) (g := true) rfl rfl (rfl) ?_
      exact mz_go_ret mz_m189 rfl rfl rfl ⟨_, rfl, rfl, h4⟩
    have h6 := h3.2
    by_cases c8 : a1 = 1
    · have h7 := h6.1 c8
      rw [show mz_tsw 10 50 0 3 #[30, 35, 40, 45] a1 = 45 by rw [c8]; decide +kernel]
      refine mz_go_blk mz_m189 2 (pc' := 49) (L' := [some (.ref 55), some (.int a1)]) (S' := [.int (m 55 59)]) (sh' := mz_sh) (m' := m) (g := true) rfl rfl (rfl) ?_
      exact mz_go_ret mz_m189 rfl rfl rfl ⟨_, rfl, rfl, h7⟩
    have h9 := h6.2
    by_cases c11 : a1 = 2
    · have h10 := h9.1 c11
      rw [show mz_tsw 10 50 0 3 #[30, 35, 40, 45] a1 = 50 by rw [c11]; decide +kernel]
      refine mz_go_blk mz_m189 2 (pc' := 54) (L' := [some (.ref 55), some (.int a1)]) (S' := [.int (m 55 61)]) (sh' := mz_sh) (m' := m) (g := true) rfl rfl (rfl) ?_
      exact mz_go_ret mz_m189 rfl rfl rfl ⟨_, rfl, rfl, h10⟩
    have h12 := h9.2
    by_cases c14 : a1 = 3
    · have h13 := h12.1 c14
      rw [show mz_tsw 10 50 0 3 #[30, 35, 40, 45] a1 = 55 by rw [c14]; decide +kernel]
      refine mz_go_blk mz_m189 2 (pc' := 59) (L' := [some (.ref 55), some (.int a1)]) (S' := [.int (m 55 60)]) (sh' := mz_sh) (m' := m) (g := true) rfl rfl (rfl) ?_
      exact mz_go_ret mz_m189 rfl rfl rfl ⟨_, rfl, rfl, h13⟩
    have h15 := h12.2
    have h15d := h15 c5 c8 c11 c14
    rw [show mz_tsw 10 50 0 3 #[30, 35, 40, 45] a1 = 60 from (by
        refine mz_tswd _ _ _ _ _ a1 60 (by decide +kernel) (fun k hk z => ?_)
        match k, hk, z with
        | 0, _, z => exact absurd (mz_tI (by rw [z]; decide +kernel)) c5
        | 1, _, z => exact absurd (mz_tI (by rw [z]; decide +kernel)) c8
        | 2, _, z => exact absurd (mz_tI (by rw [z]; decide +kernel)) c11
        | 3, _, z => exact absurd (mz_tI (by rw [z]; decide +kernel)) c14
        | k + 4, hk, _ => exact absurd hk (by simp only [Array.size]; simp)
      )]
    refine mz_go_blk mz_m189 1 (pc' := 61) (L' := [some (.ref 55), some (.int a1)]) (S' := [.int (-1)]) (sh' := mz_sh) (m' := m) (g := true) rfl rfl (rfl) ?_
    exact mz_go_ret mz_m189 rfl rfl rfl ⟨_, rfl, rfl, h15d⟩
set_option maxRecDepth 100000 in
theorem t_M_out_0 {X : mz_X} {m : mz_M} {Q : Int32 → mz_M → Prop} (a1 : Int32)
    (h : (((m 55 56) = 0 → Q 0 m) ∧ (¬ ((m 55 56) = 0) → ((a1 < 0 → Q 0 m) ∧ (¬ (a1 < 0) → (((m 55 61) ≤ a1 → Q 0 m) ∧ (¬ ((m 55 61) ≤ a1) → ((a1 < 1000 → mz_inb a1 1000 = true ∧ Q (m 99 a1.toNatClampNeg) m) ∧ (¬ (a1 < 1000) → Q 0 m))))))))) :
    mz_gi X mz_sh 190 0 [some (.ref 55), some (.int a1)] m Q := by
  refine mz_go_blk mz_m190 3 (pc' := (if (m 55 56) = 0 then 26 else 7)) (L' := [some (.ref 55), some (.int a1)]) (S' := []) (sh' := mz_sh) (m' := m) (g := true) rfl rfl (rfl) ?_
  refine mz_go_if (fun c1 => ?_) (fun c1 => ?_)
  · have h2 := h.1 c1
    refine mz_go_blk mz_m190 2 (pc' := 36) (L' := [some (.ref 55), some (.int a1)]) (S' := [.int 0]) (sh' := mz_sh) (m' := m) (g := true) rfl rfl (rfl) ?_
    exact mz_go_ret mz_m190 rfl rfl rfl ⟨_, rfl, rfl, h2⟩
  · have h3 := h.2 c1
    refine mz_go_blk mz_m190 2 (pc' := (if a1 < 0 then 26 else 11)) (L' := [some (.ref 55), some (.int a1)]) (S' := []) (sh' := mz_sh) (m' := m) (g := true) rfl rfl (rfl) ?_
    refine mz_go_if (fun c4 => ?_) (fun c4 => ?_)
    · have h5 := h3.1 c4
      refine mz_go_blk mz_m190 2 (pc' := 36) (L' := [some (.ref 55), some (.int a1)]) (S' := [.int 0]) (sh' := mz_sh) (m' := m) (g := true) rfl rfl (rfl) ?_
      exact mz_go_ret mz_m190 rfl rfl rfl ⟨_, rfl, rfl, h5⟩
    · have h6 := h3.2 c4
      refine mz_go_blk mz_m190 4 (pc' := (if (m 55 61) ≤ a1 then 26 else 19)) (L' := [some (.ref 55), some (.int a1)]) (S' := []) (sh' := mz_sh) (m' := m) (g := true) rfl rfl (rfl) ?_
      refine mz_go_if (fun c7 => ?_) (fun c7 => ?_)
      · have h8 := h6.1 c7
        refine mz_go_blk mz_m190 2 (pc' := 36) (L' := [some (.ref 55), some (.int a1)]) (S' := [.int 0]) (sh' := mz_sh) (m' := m) (g := true) rfl rfl (rfl) ?_
        exact mz_go_ret mz_m190 rfl rfl rfl ⟨_, rfl, rfl, h8⟩
      · have h9 := h6.2 c7
        refine mz_go_blk mz_m190 3 (pc' := (if a1 < 1000 then 30 else 26)) (L' := [some (.ref 55), some (.int a1)]) (S' := []) (sh' := mz_sh) (m' := m) (g := true) rfl rfl (rfl) ?_
        refine mz_go_if (fun c10 => ?_) (fun c10 => ?_)
        · have h11 := h9.1 c10
          obtain ⟨g12, h13⟩ := h11
          refine mz_go_blk mz_m190 4 (pc' := 36) (L' := [some (.ref 55), some (.int a1)]) (S' := [.int (m 99 a1.toNatClampNeg)]) (sh' := mz_sh) (m' := m) (g := mz_inb a1 1000 && true) rfl rfl (mz_and2 (g12) (rfl)) ?_
          exact mz_go_ret mz_m190 rfl rfl rfl ⟨_, rfl, rfl, h13⟩
        · have h14 := h9.2 c10
          refine mz_go_blk mz_m190 2 (pc' := 36) (L' := [some (.ref 55), some (.int a1)]) (S' := [.int 0]) (sh' := mz_sh) (m' := m) (g := true) rfl rfl (rfl) ?_
          exact mz_go_ret mz_m190 rfl rfl rfl ⟨_, rfl, rfl, h14⟩
set_option maxRecDepth 100000 in
theorem t_M_value_0 {X : mz_X} {m : mz_M} {Q : Int32 → mz_M → Prop} (a1 : Int32)
    (h : (((m 55 56) = 0 → Q 0 m) ∧ (¬ ((m 55 56) = 0) → ((a1 < 0 → Q 0 m) ∧ (¬ (a1 < 0) → ((a1 < 32 → mz_inb a1 32 = true ∧ Q (m 97 a1.toNatClampNeg) m) ∧ (¬ (a1 < 32) → Q 0 m))))))) :
    mz_gi X mz_sh 191 0 [some (.ref 55), some (.int a1)] m Q := by
  refine mz_go_blk mz_m191 3 (pc' := (if (m 55 56) = 0 then 17 else 7)) (L' := [some (.ref 55), some (.int a1)]) (S' := []) (sh' := mz_sh) (m' := m) (g := true) rfl rfl (rfl) ?_
  refine mz_go_if (fun c1 => ?_) (fun c1 => ?_)
  · have h2 := h.1 c1
    refine mz_go_blk mz_m191 2 (pc' := 27) (L' := [some (.ref 55), some (.int a1)]) (S' := [.int 0]) (sh' := mz_sh) (m' := m) (g := true) rfl rfl (rfl) ?_
    exact mz_go_ret mz_m191 rfl rfl rfl ⟨_, rfl, rfl, h2⟩
  · have h3 := h.2 c1
    refine mz_go_blk mz_m191 2 (pc' := (if a1 < 0 then 17 else 11)) (L' := [some (.ref 55), some (.int a1)]) (S' := []) (sh' := mz_sh) (m' := m) (g := true) rfl rfl (rfl) ?_
    refine mz_go_if (fun c4 => ?_) (fun c4 => ?_)
    · have h5 := h3.1 c4
      refine mz_go_blk mz_m191 2 (pc' := 27) (L' := [some (.ref 55), some (.int a1)]) (S' := [.int 0]) (sh' := mz_sh) (m' := m) (g := true) rfl rfl (rfl) ?_
      exact mz_go_ret mz_m191 rfl rfl rfl ⟨_, rfl, rfl, h5⟩
    · have h6 := h3.2 c4
      refine mz_go_blk mz_m191 3 (pc' := (if a1 < 32 then 21 else 17)) (L' := [some (.ref 55), some (.int a1)]) (S' := []) (sh' := mz_sh) (m' := m) (g := true) rfl rfl (rfl) ?_
      refine mz_go_if (fun c7 => ?_) (fun c7 => ?_)
      · have h8 := h6.1 c7
        obtain ⟨g9, h10⟩ := h8
        refine mz_go_blk mz_m191 4 (pc' := 27) (L' := [some (.ref 55), some (.int a1)]) (S' := [.int (m 97 a1.toNatClampNeg)]) (sh' := mz_sh) (m' := m) (g := mz_inb a1 32 && true) rfl rfl (mz_and2 (g9) (rfl)) ?_
        exact mz_go_ret mz_m191 rfl rfl rfl ⟨_, rfl, rfl, h10⟩
      · have h11 := h6.2 c7
        refine mz_go_blk mz_m191 2 (pc' := 27) (L' := [some (.ref 55), some (.int a1)]) (S' := [.int 0]) (sh' := mz_sh) (m' := m) (g := true) rfl rfl (rfl) ?_
        exact mz_go_ret mz_m191 rfl rfl rfl ⟨_, rfl, rfl, h11⟩
