set_option maxRecDepth 100000 in
theorem t_C_wordOf_0 {X : mz_X} {m : mz_M} {Q : Int32 → mz_M → Prop} (a0 : Int32)
    (h : ((a0 < 0 → Q (-1) m) ∧ (¬ (a0 < 0) → ((20 ≤ a0 → Q (-1) m) ∧ (¬ (20 ≤ a0) → mz_inb a0 20 = true ∧ Q (mz_a2.getD a0.toNatClampNeg 0) m))))) :
    mz_gi X mz_sh 2 0 [some (.int a0)] m Q := by
  refine mz_go_blk mz_m2 2 (pc' := (if a0 < 0 then 20 else 4)) (L' := [some (.int a0)]) (S' := []) (sh' := mz_sh) (m' := m) (g := true) rfl rfl (rfl) ?_
  refine mz_go_if (fun c1 => ?_) (fun c1 => ?_)
  · have h2 := h.1 c1
    refine mz_go_blk mz_m2 1 (pc' := 21) (L' := [some (.int a0)]) (S' := [.int (-1)]) (sh' := mz_sh) (m' := m) (g := true) rfl rfl (rfl) ?_
    exact mz_go_ret mz_m2 rfl rfl rfl ⟨_, rfl, rfl, h2⟩
  · have h3 := h.2 c1
    refine mz_go_blk mz_m2 4 (pc' := (if 20 ≤ a0 then 20 else 12)) (L' := [some (.int a0)]) (S' := []) (sh' := mz_sh) (m' := m) (g := true) rfl rfl (rfl) ?_
    refine mz_go_if (fun c4 => ?_) (fun c4 => ?_)
    · have h5 := h3.1 c4
      refine mz_go_blk mz_m2 1 (pc' := 21) (L' := [some (.int a0)]) (S' := [.int (-1)]) (sh' := mz_sh) (m' := m) (g := true) rfl rfl (rfl) ?_
      exact mz_go_ret mz_m2 rfl rfl rfl ⟨_, rfl, rfl, h5⟩
    · have h6 := h3.2 c4
      obtain ⟨g7, h8⟩ := h6
      refine mz_go_blk mz_m2 4 (pc' := 21) (L' := [some (.int a0)]) (S' := [.int (mz_a2.getD a0.toNatClampNeg 0)]) (sh' := mz_sh) (m' := m) (g := mz_inb a0 20 && true) rfl rfl (mz_and2 (g7) (rfl)) ?_
      exact mz_go_ret mz_m2 rfl rfl rfl ⟨_, rfl, rfl, h8⟩
set_option maxRecDepth 100000 in
theorem t_C_make_0 {X : mz_X} {m : mz_M} {Q : mz_M → Prop}
    (h : mz_gv X mz_sh 3 8 [some (.ref 41), some (.ref 30), some (.ref 37), some (.ref 2), some (.int ((m 30 5) - 1))] m Q) :
    mz_gv X mz_sh 3 0 [some (.ref 41), some (.ref 30), some (.ref 37), some (.ref 2), none] m Q := by
  refine mz_go_blk mz_m3 5 (pc' := 8) (L' := [some (.ref 41), some (.ref 30), some (.ref 37), some (.ref 2), some (.int ((m 30 5) - 1))]) (S' := []) (sh' := mz_sh) (m' := m) (g := true) rfl rfl (rfl) ?_
  exact h
set_option maxRecDepth 100000 in
theorem t_C_make_1 {X : mz_X} {m : mz_M} {Q : mz_M → Prop} (l4 : Int32)
    (h : ((l4 < 0 → mz_gv X mz_sh 3 36 [some (.ref 41), some (.ref 30), some (.ref 37), some (.ref 2), some (.int 0)] (mz_up m 44 0 0) Q) ∧ (¬ (l4 < 0) → mz_gv X mz_sh 4 0 [some (.ref 41), some (.ref 30), some (.int l4), none, none, none] m (fun m4 => mz_gv X mz_sh 3 8 [some (.ref 41), some (.ref 30), some (.ref 37), some (.ref 2), some (.int (l4 + (-1)))] m4 Q)))) :
    mz_gv X mz_sh 3 8 [some (.ref 41), some (.ref 30), some (.ref 37), some (.ref 2), some (.int l4)] m Q := by
  refine mz_go_blk mz_m3 2 (pc' := (if l4 < 0 then 26 else 13)) (L' := [some (.ref 41), some (.ref 30), some (.ref 37), some (.ref 2), some (.int l4)]) (S' := []) (sh' := mz_sh) (m' := m) (g := true) rfl rfl (rfl) ?_
  refine mz_go_if (fun c1 => ?_) (fun c1 => ?_)
  · have h2 := h.1 c1
    refine mz_go_blk mz_m3 7 (pc' := 36) (L' := [some (.ref 41), some (.ref 30), some (.ref 37), some (.ref 2), some (.int 0)]) (S' := []) (sh' := mz_sh) (m' := mz_up m 44 0 0) (g := mz_inb 0 4001 && true) rfl rfl (mz_and2 (by decide) (rfl)) ?_
    exact h2
  · have h3 := h.2 c1
    refine mz_go_blk mz_m3 3 (pc' := 17) (L' := [some (.ref 41), some (.ref 30), some (.ref 37), some (.ref 2), some (.int l4)]) (S' := [.int l4, .ref 30, .ref 41]) (sh' := mz_sh) (m' := m) (g := true) rfl rfl (rfl) ?_
    refine mz_go_call mz_m3 mz_m4 rfl rfl rfl rfl rfl rfl rfl h3 (fun v sh1 m4 hv => ?_)
    obtain ⟨rfl, rfl, h5⟩ := hv
    refine mz_go_blk mz_m3 2 (pc' := 8) (L' := [some (.ref 41), some (.ref 30), some (.ref 37), some (.ref 2), some (.int (l4 + (-1)))]) (S' := []) (sh' := mz_sh) (m' := m4) (g := true) rfl rfl (rfl) ?_
    exact h5
set_option maxRecDepth 100000 in
theorem t_C_make_2 {X : mz_X} {m : mz_M} {Q : mz_M → Prop} (l4 : Int32)
    (h : (((m 30 5) ≤ l4 → mz_gv X mz_sh 13 0 [some (.ref 41), some (.int (m 45 0)), some (.int 16), some (.int 0)] m (fun m3 => Q (mz_up m3 41 2 ((m3 45 0) + 1)))) ∧ (¬ ((m 30 5) ≤ l4) → mz_gv X mz_sh 5 0 [some (.ref 41), some (.ref 30), some (.int l4), none, none, none] m (fun m6 => mz_gv X mz_sh 6 0 [some (.ref 41), some (.ref 30), some (.ref 37), some (.ref 2), some (.int l4)] m6 (fun m8 => mz_gv X mz_sh 3 36 [some (.ref 41), some (.ref 30), some (.ref 37), some (.ref 2), some (.int (l4 + 1))] m8 Q))))) :
    mz_gv X mz_sh 3 36 [some (.ref 41), some (.ref 30), some (.ref 37), some (.ref 2), some (.int l4)] m Q := by
  refine mz_go_blk mz_m3 4 (pc' := (if (m 30 5) ≤ l4 then 67 else 45)) (L' := [some (.ref 41), some (.ref 30), some (.ref 37), some (.ref 2), some (.int l4)]) (S' := []) (sh' := mz_sh) (m' := m) (g := true) rfl rfl (rfl) ?_
  refine mz_go_if (fun c1 => ?_) (fun c1 => ?_)
  · have h2 := h.1 c1
    refine mz_go_blk mz_m3 7 (pc' := 77) (L' := [some (.ref 41), some (.ref 30), some (.ref 37), some (.ref 2), some (.int l4)]) (S' := [.int 0, .int 16, .int (m 45 0), .ref 41]) (sh' := mz_sh) (m' := m) (g := mz_inb 0 4001 && true) rfl rfl (mz_and2 (by decide) (rfl)) ?_
    refine mz_go_call mz_m3 mz_m13 rfl rfl rfl rfl rfl rfl rfl h2 (fun v sh1 m3 hv => ?_)
    obtain ⟨rfl, rfl, h4⟩ := hv
    refine mz_go_blk mz_m3 8 (pc' := 92) (L' := [some (.ref 41), some (.ref 30), some (.ref 37), some (.ref 2), some (.int l4)]) (S' := []) (sh' := mz_sh) (m' := mz_up m3 41 2 ((m3 45 0) + 1)) (g := mz_inb 0 4001 && true) rfl rfl (mz_and2 (by decide) (rfl)) ?_
    exact mz_go_ret mz_m3 rfl rfl rfl ⟨rfl, rfl, h4⟩
  · have h5 := h.2 c1
    refine mz_go_blk mz_m3 3 (pc' := 49) (L' := [some (.ref 41), some (.ref 30), some (.ref 37), some (.ref 2), some (.int l4)]) (S' := [.int l4, .ref 30, .ref 41]) (sh' := mz_sh) (m' := m) (g := true) rfl rfl (rfl) ?_
    refine mz_go_call mz_m3 mz_m5 rfl rfl rfl rfl rfl rfl rfl h5 (fun v sh1 m6 hv => ?_)
    obtain ⟨rfl, rfl, h7⟩ := hv
    refine mz_go_blk mz_m3 5 (pc' := 58) (L' := [some (.ref 41), some (.ref 30), some (.ref 37), some (.ref 2), some (.int l4)]) (S' := [.int l4, .ref 2, .ref 37, .ref 30, .ref 41]) (sh' := mz_sh) (m' := m6) (g := true) rfl rfl (rfl) ?_
    refine mz_go_call mz_m3 mz_m6 rfl rfl rfl rfl rfl rfl rfl h7 (fun v sh1 m8 hv => ?_)
    obtain ⟨rfl, rfl, h9⟩ := hv
    refine mz_go_blk mz_m3 2 (pc' := 36) (L' := [some (.ref 41), some (.ref 30), some (.ref 37), some (.ref 2), some (.int (l4 + 1))]) (S' := []) (sh' := mz_sh) (m' := m8) (g := true) rfl rfl (rfl) ?_
    exact h9
set_option maxRecDepth 100000 in
theorem t_C_measure_0 {X : mz_X} {m : mz_M} {Q : mz_M → Prop} (a2 : Int32)
    (h : mz_inb a2 4001 = true ∧ mz_inb (m 31 a2.toNatClampNeg) 20 = true ∧ mz_inb a2 4001 = true ∧ (((m 31 a2.toNatClampNeg) = 3 → mz_inb a2 4001 = true ∧ (((m 33 a2.toNatClampNeg) = 3 → mz_gv X mz_sh 4 42 [some (.ref 41), some (.ref 30), some (.int a2), some (.int ((mz_a0.getD (m 31 a2.toNatClampNeg).toNatClampNeg 0) + 1)), some (.int (a2 + 1)), some (.int 0)] m Q) ∧ (¬ ((m 33 a2.toNatClampNeg) = 3) → mz_gv X mz_sh 4 42 [some (.ref 41), some (.ref 30), some (.int a2), some (.int (mz_a0.getD (m 31 a2.toNatClampNeg).toNatClampNeg 0)), some (.int (a2 + 1)), some (.int 0)] m Q))) ∧ (¬ ((m 31 a2.toNatClampNeg) = 3) → mz_gv X mz_sh 4 42 [some (.ref 41), some (.ref 30), some (.int a2), some (.int (mz_a0.getD (m 31 a2.toNatClampNeg).toNatClampNeg 0)), some (.int (a2 + 1)), some (.int 0)] m Q))) :
    mz_gv X mz_sh 4 0 [some (.ref 41), some (.ref 30), some (.int a2), none, none, none] m Q := by
  obtain ⟨g1, g2, g3, h4⟩ := h
  refine mz_go_blk mz_m4 13 (pc' := (if (m 31 a2.toNatClampNeg) = 3 then 21 else 34)) (L' := [some (.ref 41), some (.ref 30), some (.int a2), some (.int (mz_a0.getD (m 31 a2.toNatClampNeg).toNatClampNeg 0)), none, none]) (S' := []) (sh' := mz_sh) (m' := m) (g := mz_inb a2 4001 && (mz_inb (m 31 a2.toNatClampNeg) 20 && (mz_inb a2 4001 && true))) rfl rfl (mz_and2 (g3) (mz_and2 (g2) (mz_and2 (g1) (rfl)))) ?_
  refine mz_go_if (fun c5 => ?_) (fun c5 => ?_)
  · have h6 := h4.1 c5
    obtain ⟨g7, h8⟩ := h6
    refine mz_go_blk mz_m4 6 (pc' := (if (m 33 a2.toNatClampNeg) = 3 then 31 else 34)) (L' := [some (.ref 41), some (.ref 30), some (.int a2), some (.int (mz_a0.getD (m 31 a2.toNatClampNeg).toNatClampNeg 0)), none, none]) (S' := []) (sh' := mz_sh) (m' := m) (g := mz_inb a2 4001 && true) rfl rfl (mz_and2 (g7) (rfl)) ?_
    refine mz_go_if (fun c9 => ?_) (fun c9 => ?_)
    · have h10 := h8.1 c9
      refine mz_go_blk mz_m4 7 (pc' := 42) (L' := [some (.ref 41), some (.ref 30), some (.int a2), some (.int ((mz_a0.getD (m 31 a2.toNatClampNeg).toNatClampNeg 0) + 1)), some (.int (a2 + 1)), some (.int 0)]) (S' := []) (sh' := mz_sh) (m' := m) (g := true) rfl rfl (rfl) ?_
      exact h10
    · have h11 := h8.2 c9
      refine mz_go_blk mz_m4 6 (pc' := 42) (L' := [some (.ref 41), some (.ref 30), some (.int a2), some (.int (mz_a0.getD (m 31 a2.toNatClampNeg).toNatClampNeg 0)), some (.int (a2 + 1)), some (.int 0)]) (S' := []) (sh' := mz_sh) (m' := m) (g := true) rfl rfl (rfl) ?_
      exact h11
  · have h12 := h4.2 c5
    refine mz_go_blk mz_m4 6 (pc' := 42) (L' := [some (.ref 41), some (.ref 30), some (.int a2), some (.int (mz_a0.getD (m 31 a2.toNatClampNeg).toNatClampNeg 0)), some (.int (a2 + 1)), some (.int 0)]) (S' := []) (sh' := mz_sh) (m' := m) (g := true) rfl rfl (rfl) ?_
    exact h12
set_option maxRecDepth 100000 in
theorem t_C_measure_1 {X : mz_X} {m : mz_M} {Q : mz_M → Prop} (l2 : Int32) (l3 : Int32) (l4 : Int32) (l5 : Int32)
    (h : mz_inb l2 4001 = true ∧ (((m 33 l2.toNatClampNeg) ≤ l5 → mz_inb l2 4001 = true ∧ Q (mz_up m 45 l2.toNatClampNeg l3)) ∧ (¬ ((m 33 l2.toNatClampNeg) ≤ l5) → (((m 30 5) ≤ l4 → mz_inb l2 4001 = true ∧ Q (mz_up m 45 l2.toNatClampNeg l3)) ∧ (¬ ((m 30 5) ≤ l4) → mz_inb l4 4001 = true ∧ mz_gi X mz_sh 87 0 [some (.ref 30), some (.int l4)] m (fun r17 m15 => mz_gv X mz_sh 4 42 [some (.ref 41), some (.ref 30), some (.int l2), some (.int (l3 + (m 45 l4.toNatClampNeg))), some (.int r17), some (.int (l5 + 1))] m15 Q)))))) :
    mz_gv X mz_sh 4 42 [some (.ref 41), some (.ref 30), some (.int l2), some (.int l3), some (.int l4), some (.int l5)] m Q := by
  obtain ⟨g1, h2⟩ := h
  refine mz_go_blk mz_m4 6 (pc' := (if (m 33 l2.toNatClampNeg) ≤ l5 then 86 else 53)) (L' := [some (.ref 41), some (.ref 30), some (.int l2), some (.int l3), some (.int l4), some (.int l5)]) (S' := []) (sh' := mz_sh) (m' := m) (g := mz_inb l2 4001 && true) rfl rfl (mz_and2 (g1) (rfl)) ?_
  refine mz_go_if (fun c3 => ?_) (fun c3 => ?_)
  · have h4 := h2.1 c3
    obtain ⟨g5, h6⟩ := h4
    refine mz_go_blk mz_m4 5 (pc' := 93) (L' := [some (.ref 41), some (.ref 30), some (.int l2), some (.int l3), some (.int l4), some (.int l5)]) (S' := []) (sh' := mz_sh) (m' := mz_up m 45 l2.toNatClampNeg l3) (g := mz_inb l2 4001 && true) rfl rfl (mz_and2 (g5) (rfl)) ?_
    exact mz_go_ret mz_m4 rfl rfl rfl ⟨rfl, rfl, h6⟩
  · have h7 := h2.2 c3
    refine mz_go_blk mz_m4 4 (pc' := (if (m 30 5) ≤ l4 then 86 else 62)) (L' := [some (.ref 41), some (.ref 30), some (.int l2), some (.int l3), some (.int l4), some (.int l5)]) (S' := []) (sh' := mz_sh) (m' := m) (g := true) rfl rfl (rfl) ?_
    refine mz_go_if (fun c8 => ?_) (fun c8 => ?_)
    · have h9 := h7.1 c8
      obtain ⟨g10, h11⟩ := h9
      refine mz_go_blk mz_m4 5 (pc' := 93) (L' := [some (.ref 41), some (.ref 30), some (.int l2), some (.int l3), some (.int l4), some (.int l5)]) (S' := []) (sh' := mz_sh) (m' := mz_up m 45 l2.toNatClampNeg l3) (g := mz_inb l2 4001 && true) rfl rfl (mz_and2 (g10) (rfl)) ?_
      exact mz_go_ret mz_m4 rfl rfl rfl ⟨rfl, rfl, h11⟩
    · have h12 := h7.2 c8
      obtain ⟨g13, h14⟩ := h12
      refine mz_go_blk mz_m4 9 (pc' := 75) (L' := [some (.ref 41), some (.ref 30), some (.int l2), some (.int (l3 + (m 45 l4.toNatClampNeg))), some (.int l4), some (.int l5)]) (S' := [.int l4, .ref 30]) (sh' := mz_sh) (m' := m) (g := mz_inb l4 4001 && true) rfl rfl (mz_and2 (g13) (rfl)) ?_
      refine mz_go_call mz_m4 mz_m87 rfl rfl rfl rfl rfl rfl rfl h14 (fun v sh1 m15 hv => ?_)
      obtain ⟨r17, rfl, rfl, h16⟩ := hv
      refine mz_go_blk mz_m4 3 (pc' := 42) (L' := [some (.ref 41), some (.ref 30), some (.int l2), some (.int (l3 + (m 45 l4.toNatClampNeg))), some (.int r17), some (.int (l5 + 1))]) (S' := []) (sh' := mz_sh) (m' := m15) (g := true) rfl rfl (rfl) ?_
      exact h16
set_option maxRecDepth 100000 in
theorem t_C_placeParts_0 {X : mz_X} {m : mz_M} {Q : mz_M → Prop} (a2 : Int32)
    (h : mz_inb a2 4001 = true ∧ mz_gv X mz_sh 5 15 [some (.ref 41), some (.ref 30), some (.int a2), some (.int (m 44 a2.toNatClampNeg)), some (.int (a2 + 1)), some (.int 0)] m Q) :
    mz_gv X mz_sh 5 0 [some (.ref 41), some (.ref 30), some (.int a2), none, none, none] m Q := by
  obtain ⟨g1, h2⟩ := h
  refine mz_go_blk mz_m5 11 (pc' := 15) (L' := [some (.ref 41), some (.ref 30), some (.int a2), some (.int (m 44 a2.toNatClampNeg)), some (.int (a2 + 1)), some (.int 0)]) (S' := []) (sh' := mz_sh) (m' := m) (g := mz_inb a2 4001 && true) rfl rfl (mz_and2 (g1) (rfl)) ?_
  exact h2
set_option maxRecDepth 100000 in
theorem t_C_placeParts_1 {X : mz_X} {m : mz_M} {Q : mz_M → Prop} (l2 : Int32) (l3 : Int32) (l4 : Int32) (l5 : Int32)
    (h : mz_inb l2 4001 = true ∧ (((m 33 l2.toNatClampNeg) ≤ l5 → Q m) ∧ (¬ ((m 33 l2.toNatClampNeg) ≤ l5) → (((m 30 5) ≤ l4 → Q m) ∧ (¬ ((m 30 5) ≤ l4) → mz_inb l4 4001 = true ∧ mz_inb l4 4001 = true ∧ mz_inb l2 4001 = true ∧ mz_inb (m 31 l2.toNatClampNeg) 20 = true ∧ mz_gi X mz_sh 87 0 [some (.ref 30), some (.int l4)] (mz_up m 44 l4.toNatClampNeg l3) (fun r16 m14 => mz_gv X mz_sh 5 15 [some (.ref 41), some (.ref 30), some (.int l2), some (.int (l3 + ((m 45 l4.toNatClampNeg) + (mz_a1.getD (m 31 l2.toNatClampNeg).toNatClampNeg 0)))), some (.int r16), some (.int (l5 + 1))] m14 Q)))))) :
    mz_gv X mz_sh 5 15 [some (.ref 41), some (.ref 30), some (.int l2), some (.int l3), some (.int l4), some (.int l5)] m Q := by
  obtain ⟨g1, h2⟩ := h
  refine mz_go_blk mz_m5 6 (pc' := (if (m 33 l2.toNatClampNeg) ≤ l5 then 78 else 26)) (L' := [some (.ref 41), some (.ref 30), some (.int l2), some (.int l3), some (.int l4), some (.int l5)]) (S' := []) (sh' := mz_sh) (m' := m) (g := mz_inb l2 4001 && true) rfl rfl (mz_and2 (g1) (rfl)) ?_
  refine mz_go_if (fun c3 => ?_) (fun c3 => ?_)
  · have h4 := h2.1 c3
    exact mz_go_ret mz_m5 rfl rfl rfl ⟨rfl, rfl, h4⟩
  · have h5 := h2.2 c3
    refine mz_go_blk mz_m5 4 (pc' := (if (m 30 5) ≤ l4 then 78 else 35)) (L' := [some (.ref 41), some (.ref 30), some (.int l2), some (.int l3), some (.int l4), some (.int l5)]) (S' := []) (sh' := mz_sh) (m' := m) (g := true) rfl rfl (rfl) ?_
    refine mz_go_if (fun c6 => ?_) (fun c6 => ?_)
    · have h7 := h5.1 c6
      exact mz_go_ret mz_m5 rfl rfl rfl ⟨rfl, rfl, h7⟩
    · have h8 := h5.2 c6
      obtain ⟨g9, g10, g11, g12, h13⟩ := h8
      refine mz_go_blk mz_m5 21 (pc' := 67) (L' := [some (.ref 41), some (.ref 30), some (.int l2), some (.int (l3 + ((m 45 l4.toNatClampNeg) + (mz_a1.getD (m 31 l2.toNatClampNeg).toNatClampNeg 0)))), some (.int l4), some (.int l5)]) (S' := [.int l4, .ref 30]) (sh' := mz_sh) (m' := mz_up m 44 l4.toNatClampNeg l3) (g := mz_inb (m 31 l2.toNatClampNeg) 20 && (mz_inb l2 4001 && (mz_inb l4 4001 && (mz_inb l4 4001 && true)))) rfl rfl (mz_and2 (g12) (mz_and2 (g11) (mz_and2 (g10) (mz_and2 (g9) (rfl))))) ?_
      refine mz_go_call mz_m5 mz_m87 rfl rfl rfl rfl rfl rfl rfl h13 (fun v sh1 m14 hv => ?_)
      obtain ⟨r16, rfl, rfl, h15⟩ := hv
      refine mz_go_blk mz_m5 3 (pc' := 15) (L' := [some (.ref 41), some (.ref 30), some (.int l2), some (.int (l3 + ((m 45 l4.toNatClampNeg) + (mz_a1.getD (m 31 l2.toNatClampNeg).toNatClampNeg 0)))), some (.int r16), some (.int (l5 + 1))]) (S' := []) (sh' := mz_sh) (m' := m14) (g := true) rfl rfl (rfl) ?_
      exact h15
set_option maxRecDepth 100000 in
theorem t_C_write_0 {X : mz_X} {m : mz_M} {Q : mz_M → Prop} (a4 : Int32)
    (h : mz_inb a4 4001 = true ∧ (((m 31 a4.toNatClampNeg) = 0 → Q m) ∧ ((m 31 a4.toNatClampNeg) = 1 → mz_gi X mz_sh 12 0 [some (.ref 41), some (.int a4)] m (fun r10 m8 => mz_inb a4 4001 = true ∧ mz_inb (m8 31 a4.toNatClampNeg) 20 = true ∧ mz_inb a4 4001 = true ∧ mz_inb (m8 32 a4.toNatClampNeg) 4001 = true ∧ mz_gv X mz_sh 13 0 [some (.ref 41), some (.int (r10 - 1)), some (.int (mz_a2.getD (m8 31 a4.toNatClampNeg).toNatClampNeg 0)), some (.int (m8 6 ((m8 32 a4.toNatClampNeg).toNatClampNeg)))] m8 (fun m16 => Q m16))) ∧ ((m 31 a4.toNatClampNeg) = 3 → mz_gv X mz_sh 7 0 [some (.ref 41), some (.ref 30), some (.int a4), none, none] m (fun m21 => Q m21)) ∧ ((m 31 a4.toNatClampNeg) = 4 → mz_gv X mz_sh 8 0 [some (.ref 41), some (.int a4)] m (fun m26 => Q m26)) ∧ ((m 31 a4.toNatClampNeg) = 5 → mz_inb a4 4001 = true ∧ mz_inb a4 4001 = true ∧ mz_gi X mz_sh 12 0 [some (.ref 41), some (.int (m 38 a4.toNatClampNeg))] m (fun r36 m34 => mz_gv X mz_sh 13 0 [some (.ref 41), some (.int (m 44 a4.toNatClampNeg)), some (.int 13), some (.int r36)] m34 (fun m37 => Q m37))) ∧ ((m 31 a4.toNatClampNeg) = 6 → mz_inb a4 4001 = true ∧ mz_inb a4 4001 = true ∧ mz_gi X mz_sh 11 0 [some (.ref 41), some (.int (m 38 a4.toNatClampNeg))] m (fun r47 m45 => mz_gv X mz_sh 13 0 [some (.ref 41), some (.int (m 44 a4.toNatClampNeg)), some (.int 13), some (.int r47)] m45 (fun m48 => Q m48))) ∧ ((m 31 a4.toNatClampNeg) = 7 → mz_gv X mz_sh 10 0 [some (.ref 41), some (.int a4), none, none] m (fun m53 => Q m53)) ∧ ((m 31 a4.toNatClampNeg) = 8 → mz_gv X mz_sh 9 0 [some (.ref 41), some (.int a4), none] m (fun m58 => Q m58)) ∧ ((m 31 a4.toNatClampNeg) = 18 → mz_gi X mz_sh 12 0 [some (.ref 41), some (.int a4)] m (fun r65 m63 => mz_inb a4 4001 = true ∧ mz_inb (m63 31 a4.toNatClampNeg) 20 = true ∧ mz_inb a4 4001 = true ∧ mz_inb (m63 32 a4.toNatClampNeg) 4001 = true ∧ mz_gv X mz_sh 13 0 [some (.ref 41), some (.int (r65 - 1)), some (.int (mz_a2.getD (m63 31 a4.toNatClampNeg).toNatClampNeg 0)), some (.int (m63 6 ((m63 32 a4.toNatClampNeg).toNatClampNeg)))] m63 (fun m71 => Q m71))) ∧ ((m 31 a4.toNatClampNeg) = 19 → mz_gi X mz_sh 12 0 [some (.ref 41), some (.int a4)] m (fun r78 m76 => mz_inb a4 4001 = true ∧ mz_inb (m76 31 a4.toNatClampNeg) 20 = true ∧ mz_inb a4 4001 = true ∧ mz_inb (m76 32 a4.toNatClampNeg) 4001 = true ∧ mz_gv X mz_sh 13 0 [some (.ref 41), some (.int (r78 - 1)), some (.int (mz_a2.getD (m76 31 a4.toNatClampNeg).toNatClampNeg 0)), some (.int (m76 6 ((m76 32 a4.toNatClampNeg).toNatClampNeg)))] m76 (fun m84 => Q m84))) ∧ (¬ (m 31 a4.toNatClampNeg) = 0 → ¬ (m 31 a4.toNatClampNeg) = 1 → ¬ (m 31 a4.toNatClampNeg) = 3 → ¬ (m 31 a4.toNatClampNeg) = 4 → ¬ (m 31 a4.toNatClampNeg) = 5 → ¬ (m 31 a4.toNatClampNeg) = 6 → ¬ (m 31 a4.toNatClampNeg) = 7 → ¬ (m 31 a4.toNatClampNeg) = 8 → ¬ (m 31 a4.toNatClampNeg) = 18 → ¬ (m 31 a4.toNatClampNeg) = 19 → mz_gi X mz_sh 12 0 [some (.ref 41), some (.int a4)] m (fun r89 m87 => mz_inb a4 4001 = true ∧ mz_inb (m87 31 a4.toNatClampNeg) 20 = true ∧ mz_gv X mz_sh 13 0 [some (.ref 41), some (.int (r89 - 1)), some (.int (mz_a2.getD (m87 31 a4.toNatClampNeg).toNatClampNeg 0)), some (.int 0)] m87 (fun m93 => Q m93))))) :
    mz_gv X mz_sh 6 0 [some (.ref 41), some (.ref 30), some (.ref 37), some (.ref 2), some (.int a4)] m Q := by
  obtain ⟨g1, h2⟩ := h
  refine mz_go_blk mz_m6 5 (pc' := (mz_tsw 7 225 0 19 #[93, 187, 225, 96, 106, 133, 160, 115, 124, 225, 225, 225, 225, 225, 225, 225, 225, 225, 187, 187] (m 31 a4.toNatClampNeg))) (L' := [some (.ref 41), some (.ref 30), some (.ref 37), some (.ref 2), some (.int a4)]) (S' := []) (sh' := mz_sh) (m' := m) (g := mz_inb a4 4001 && true) rfl rfl (mz_and2 (g1) (rfl)) ?_
  by_cases c4 : (m 31 a4.toNatClampNeg) = 0
  · have h3 := h2.1 c4
    rw [show mz_tsw 7 225 0 19 #[93, 187, 225, 96, 106, 133, 160, 115, 124, 225, 225, 225, 225, 225, 225, 225, 225, 225, 187, 187] (m 31 a4.toNatClampNeg) = 100 by rw [c4]; decide +kernel]
    refine mz_go_blk mz_m6 1 (pc' := 256) (L' := [some (.ref 41), some (.ref 30), some (.ref 37), some (.ref 2), some (.int a4)]) (S' := []) (sh' := mz_sh) (m' := m) (g := true) rfl rfl (rfl) ?_
    exact mz_go_ret mz_m6 rfl rfl rfl ⟨rfl, rfl, h3⟩
  have h5 := h2.2
  by_cases c7 : (m 31 a4.toNatClampNeg) = 1
  · have h6 := h5.1 c7
    rw [show mz_tsw 7 225 0 19 #[93, 187, 225, 96, 106, 133, 160, 115, 124, 225, 225, 225, 225, 225, 225, 225, 225, 225, 187, 187] (m 31 a4.toNatClampNeg) = 194 by rw [c7]; decide +kernel]
    refine mz_go_blk mz_m6 3 (pc' := 198) (L' := [some (.ref 41), some (.ref 30), some (.ref 37), some (.ref 2), some (.int a4)]) (S' := [.int a4, .ref 41, .ref 41]) (sh' := mz_sh) (m' := m) (g := true) rfl rfl (rfl) ?_
    refine mz_go_call mz_m6 mz_m12 rfl rfl rfl rfl rfl rfl rfl h6 (fun v sh1 m8 hv => ?_)
    obtain ⟨r10, rfl, rfl, h9⟩ := hv
    obtain ⟨g11, g12, g13, g14, h15⟩ := h9
    refine mz_go_blk mz_m6 15 (pc' := 226) (L' := [some (.ref 41), some (.ref 30), some (.ref 37), some (.ref 2), some (.int a4)]) (S' := [.int (m8 6 ((m8 32 a4.toNatClampNeg).toNatClampNeg)), .int (mz_a2.getD (m8 31 a4.toNatClampNeg).toNatClampNeg 0), .int (r10 - 1), .ref 41]) (sh' := mz_sh) (m' := m8) (g := mz_inb (m8 32 a4.toNatClampNeg) 4001 && (mz_inb a4 4001 && (mz_inb (m8 31 a4.toNatClampNeg) 20 && (mz_inb a4 4001 && true)))) rfl rfl (mz_and2 (g14) (mz_and2 (g13) (mz_and2 (g12) (mz_and2 (g11) (rfl))))) ?_
    refine mz_go_call mz_m6 mz_m13 rfl rfl rfl rfl rfl rfl rfl h15 (fun v sh1 m16 hv => ?_)
    obtain ⟨rfl, rfl, h17⟩ := hv
    refine mz_go_blk mz_m6 1 (pc' := 256) (L' := [some (.ref 41), some (.ref 30), some (.ref 37), some (.ref 2), some (.int a4)]) (S' := []) (sh' := mz_sh) (m' := m16) (g := true) rfl rfl (rfl) ?_
    exact mz_go_ret mz_m6 rfl rfl rfl ⟨rfl, rfl, h17⟩
  have h18 := h5.2
  by_cases c20 : (m 31 a4.toNatClampNeg) = 3
  · have h19 := h18.1 c20
    rw [show mz_tsw 7 225 0 19 #[93, 187, 225, 96, 106, 133, 160, 115, 124, 225, 225, 225, 225, 225, 225, 225, 225, 225, 187, 187] (m 31 a4.toNatClampNeg) = 103 by rw [c20]; decide +kernel]
    refine mz_go_blk mz_m6 3 (pc' := 107) (L' := [some (.ref 41), some (.ref 30), some (.ref 37), some (.ref 2), some (.int a4)]) (S' := [.int a4, .ref 30, .ref 41]) (sh' := mz_sh) (m' := m) (g := true) rfl rfl (rfl) ?_
    refine mz_go_call mz_m6 mz_m7 rfl rfl rfl rfl rfl rfl rfl h19 (fun v sh1 m21 hv => ?_)
    obtain ⟨rfl, rfl, h22⟩ := hv
    refine mz_go_blk mz_m6 1 (pc' := 256) (L' := [some (.ref 41), some (.ref 30), some (.ref 37), some (.ref 2), some (.int a4)]) (S' := []) (sh' := mz_sh) (m' := m21) (g := true) rfl rfl (rfl) ?_
    exact mz_go_ret mz_m6 rfl rfl rfl ⟨rfl, rfl, h22⟩
  have h23 := h18.2
  by_cases c25 : (m 31 a4.toNatClampNeg) = 4
  · have h24 := h23.1 c25
    rw [show mz_tsw 7 225 0 19 #[93, 187, 225, 96, 106, 133, 160, 115, 124, 225, 225, 225, 225, 225, 225, 225, 225, 225, 187, 187] (m 31 a4.toNatClampNeg) = 113 by rw [c25]; decide +kernel]
    refine mz_go_blk mz_m6 2 (pc' := 116) (L' := [some (.ref 41), some (.ref 30), some (.ref 37), some (.ref 2), some (.int a4)]) (S' := [.int a4, .ref 41]) (sh' := mz_sh) (m' := m) (g := true) rfl rfl (rfl) ?_
    refine mz_go_call mz_m6 mz_m8 rfl rfl rfl rfl rfl rfl rfl h24 (fun v sh1 m26 hv => ?_)
    obtain ⟨rfl, rfl, h27⟩ := hv
    refine mz_go_blk mz_m6 1 (pc' := 256) (L' := [some (.ref 41), some (.ref 30), some (.ref 37), some (.ref 2), some (.int a4)]) (S' := []) (sh' := mz_sh) (m' := m26) (g := true) rfl rfl (rfl) ?_
    exact mz_go_ret mz_m6 rfl rfl rfl ⟨rfl, rfl, h27⟩
  have h28 := h23.2
  by_cases c30 : (m 31 a4.toNatClampNeg) = 5
  · have h29 := h28.1 c30
    rw [show mz_tsw 7 225 0 19 #[93, 187, 225, 96, 106, 133, 160, 115, 124, 225, 225, 225, 225, 225, 225, 225, 225, 225, 187, 187] (m 31 a4.toNatClampNeg) = 140 by rw [c30]; decide +kernel]
    obtain ⟨g31, g32, h33⟩ := h29
    refine mz_go_blk mz_m6 11 (pc' := 158) (L' := [some (.ref 41), some (.ref 30), some (.ref 37), some (.ref 2), some (.int a4)]) (S' := [.int (m 38 a4.toNatClampNeg), .ref 41, .int 13, .int (m 44 a4.toNatClampNeg), .ref 41]) (sh' := mz_sh) (m' := m) (g := mz_inb a4 4001 && (mz_inb a4 4001 && true)) rfl rfl (mz_and2 (g32) (mz_and2 (g31) (rfl))) ?_
    refine mz_go_call mz_m6 mz_m12 rfl rfl rfl rfl rfl rfl rfl h33 (fun v sh1 m34 hv => ?_)
    obtain ⟨r36, rfl, rfl, h35⟩ := hv
    refine mz_go_call mz_m6 mz_m13 rfl rfl rfl rfl rfl rfl rfl h35 (fun v sh1 m37 hv => ?_)
    obtain ⟨rfl, rfl, h38⟩ := hv
    refine mz_go_blk mz_m6 1 (pc' := 256) (L' := [some (.ref 41), some (.ref 30), some (.ref 37), some (.ref 2), some (.int a4)]) (S' := []) (sh' := mz_sh) (m' := m37) (g := true) rfl rfl (rfl) ?_
    exact mz_go_ret mz_m6 rfl rfl rfl ⟨rfl, rfl, h38⟩
  have h39 := h28.2
  by_cases c41 : (m 31 a4.toNatClampNeg) = 6
  · have h40 := h39.1 c41
    rw [show mz_tsw 7 225 0 19 #[93, 187, 225, 96, 106, 133, 160, 115, 124, 225, 225, 225, 225, 225, 225, 225, 225, 225, 187, 187] (m 31 a4.toNatClampNeg) = 167 by rw [c41]; decide +kernel]
    obtain ⟨g42, g43, h44⟩ := h40
    refine mz_go_blk mz_m6 11 (pc' := 185) (L' := [some (.ref 41), some (.ref 30), some (.ref 37), some (.ref 2), some (.int a4)]) (S' := [.int (m 38 a4.toNatClampNeg), .ref 41, .int 13, .int (m 44 a4.toNatClampNeg), .ref 41]) (sh' := mz_sh) (m' := m) (g := mz_inb a4 4001 && (mz_inb a4 4001 && true)) rfl rfl (mz_and2 (g43) (mz_and2 (g42) (rfl))) ?_
    refine mz_go_call mz_m6 mz_m11 rfl rfl rfl rfl rfl rfl rfl h44 (fun v sh1 m45 hv => ?_)
    obtain ⟨r47, rfl, rfl, h46⟩ := hv
    refine mz_go_call mz_m6 mz_m13 rfl rfl rfl rfl rfl rfl rfl h46 (fun v sh1 m48 hv => ?_)
    obtain ⟨rfl, rfl, h49⟩ := hv
    refine mz_go_blk mz_m6 1 (pc' := 256) (L' := [some (.ref 41), some (.ref 30), some (.ref 37), some (.ref 2), some (.int a4)]) (S' := []) (sh' := mz_sh) (m' := m48) (g := true) rfl rfl (rfl) ?_
    exact mz_go_ret mz_m6 rfl rfl rfl ⟨rfl, rfl, h49⟩
  have h50 := h39.2
  by_cases c52 : (m 31 a4.toNatClampNeg) = 7
  · have h51 := h50.1 c52
    rw [show mz_tsw 7 225 0 19 #[93, 187, 225, 96, 106, 133, 160, 115, 124, 225, 225, 225, 225, 225, 225, 225, 225, 225, 187, 187] (m 31 a4.toNatClampNeg) = 122 by rw [c52]; decide +kernel]
    refine mz_go_blk mz_m6 2 (pc' := 125) (L' := [some (.ref 41), some (.ref 30), some (.ref 37), some (.ref 2), some (.int a4)]) (S' := [.int a4, .ref 41]) (sh' := mz_sh) (m' := m) (g := true) rfl rfl (rfl) ?_
    refine mz_go_call mz_m6 mz_m10 rfl rfl rfl rfl rfl rfl rfl h51 (fun v sh1 m53 hv => ?_)
    obtain ⟨rfl, rfl, h54⟩ := hv
    refine mz_go_blk mz_m6 1 (pc' := 256) (L' := [some (.ref 41), some (.ref 30), some (.ref 37), some (.ref 2), some (.int a4)]) (S' := []) (sh' := mz_sh) (m' := m53) (g := true) rfl rfl (rfl) ?_
    exact mz_go_ret mz_m6 rfl rfl rfl ⟨rfl, rfl, h54⟩
  have h55 := h50.2
  by_cases c57 : (m 31 a4.toNatClampNeg) = 8
  · have h56 := h55.1 c57
    rw [show mz_tsw 7 225 0 19 #[93, 187, 225, 96, 106, 133, 160, 115, 124, 225, 225, 225, 225, 225, 225, 225, 225, 225, 187, 187] (m 31 a4.toNatClampNeg) = 131 by rw [c57]; decide +kernel]
    refine mz_go_blk mz_m6 2 (pc' := 134) (L' := [some (.ref 41), some (.ref 30), some (.ref 37), some (.ref 2), some (.int a4)]) (S' := [.int a4, .ref 41]) (sh' := mz_sh) (m' := m) (g := true) rfl rfl (rfl) ?_
    refine mz_go_call mz_m6 mz_m9 rfl rfl rfl rfl rfl rfl rfl h56 (fun v sh1 m58 hv => ?_)
    obtain ⟨rfl, rfl, h59⟩ := hv
    refine mz_go_blk mz_m6 1 (pc' := 256) (L' := [some (.ref 41), some (.ref 30), some (.ref 37), some (.ref 2), some (.int a4)]) (S' := []) (sh' := mz_sh) (m' := m58) (g := true) rfl rfl (rfl) ?_
    exact mz_go_ret mz_m6 rfl rfl rfl ⟨rfl, rfl, h59⟩
  have h60 := h55.2
  by_cases c62 : (m 31 a4.toNatClampNeg) = 18
  · have h61 := h60.1 c62
    rw [show mz_tsw 7 225 0 19 #[93, 187, 225, 96, 106, 133, 160, 115, 124, 225, 225, 225, 225, 225, 225, 225, 225, 225, 187, 187] (m 31 a4.toNatClampNeg) = 194 by rw [c62]; decide +kernel]
    refine mz_go_blk mz_m6 3 (pc' := 198) (L' := [some (.ref 41), some (.ref 30), some (.ref 37), some (.ref 2), some (.int a4)]) (S' := [.int a4, .ref 41, .ref 41]) (sh' := mz_sh) (m' := m) (g := true) rfl rfl (rfl) ?_
    refine mz_go_call mz_m6 mz_m12 rfl rfl rfl rfl rfl rfl rfl h61 (fun v sh1 m63 hv => ?_)
    obtain ⟨r65, rfl, rfl, h64⟩ := hv
    obtain ⟨g66, g67, g68, g69, h70⟩ := h64
    refine mz_go_blk mz_m6 15 (pc' := 226) (L' := [some (.ref 41), some (.ref 30), some (.ref 37), some (.ref 2), some (.int a4)]) (S' := [.int (m63 6 ((m63 32 a4.toNatClampNeg).toNatClampNeg)), .int (mz_a2.getD (m63 31 a4.toNatClampNeg).toNatClampNeg 0), .int (r65 - 1), .ref 41]) (sh' := mz_sh) (m' := m63) (g := mz_inb (m63 32 a4.toNatClampNeg) 4001 && (mz_inb a4 4001 && (mz_inb (m63 31 a4.toNatClampNeg) 20 && (mz_inb a4 4001 && true)))) rfl rfl (mz_and2 (g69) (mz_and2 (g68) (mz_and2 (g67) (mz_and2 (g66) (rfl))))) ?_
    refine mz_go_call mz_m6 mz_m13 rfl rfl rfl rfl rfl rfl rfl h70 (fun v sh1 m71 hv => ?_)
    obtain ⟨rfl, rfl, h72⟩ := hv
    refine mz_go_blk mz_m6 1 (pc' := 256) (L' := [some (.ref 41), some (.ref 30), some (.ref 37), some (.ref 2), some (.int a4)]) (S' := []) (sh' := mz_sh) (m' := m71) (g := true) rfl rfl (rfl) ?_
    exact mz_go_ret mz_m6 rfl rfl rfl ⟨rfl, rfl, h72⟩
  have h73 := h60.2
  by_cases c75 : (m 31 a4.toNatClampNeg) = 19
  · have h74 := h73.1 c75
    rw [show mz_tsw 7 225 0 19 #[93, 187, 225, 96, 106, 133, 160, 115, 124, 225, 225, 225, 225, 225, 225, 225, 225, 225, 187, 187] (m 31 a4.toNatClampNeg) = 194 by rw [c75]; decide +kernel]
    refine mz_go_blk mz_m6 3 (pc' := 198) (L' := [some (.ref 41), some (.ref 30), some (.ref 37), some (.ref 2), some (.int a4)]) (S' := [.int a4, .ref 41, .ref 41]) (sh' := mz_sh) (m' := m) (g := true) rfl rfl (rfl) ?_
    refine mz_go_call mz_m6 mz_m12 rfl rfl rfl rfl rfl rfl rfl h74 (fun v sh1 m76 hv => ?_)
    obtain ⟨r78, rfl, rfl, h77⟩ := hv
    obtain ⟨g79, g80, g81, g82, h83⟩ := h77
    refine mz_go_blk mz_m6 15 (pc' := 226) (L' := [some (.ref 41), some (.ref 30), some (.ref 37), some (.ref 2), some (.int a4)]) (S' := [.int (m76 6 ((m76 32 a4.toNatClampNeg).toNatClampNeg)), .int (mz_a2.getD (m76 31 a4.toNatClampNeg).toNatClampNeg 0), .int (r78 - 1), .ref 41]) (sh' := mz_sh) (m' := m76) (g := mz_inb (m76 32 a4.toNatClampNeg) 4001 && (mz_inb a4 4001 && (mz_inb (m76 31 a4.toNatClampNeg) 20 && (mz_inb a4 4001 && true)))) rfl rfl (mz_and2 (g82) (mz_and2 (g81) (mz_and2 (g80) (mz_and2 (g79) (rfl))))) ?_
    refine mz_go_call mz_m6 mz_m13 rfl rfl rfl rfl rfl rfl rfl h83 (fun v sh1 m84 hv => ?_)
    obtain ⟨rfl, rfl, h85⟩ := hv
    refine mz_go_blk mz_m6 1 (pc' := 256) (L' := [some (.ref 41), some (.ref 30), some (.ref 37), some (.ref 2), some (.int a4)]) (S' := []) (sh' := mz_sh) (m' := m84) (g := true) rfl rfl (rfl) ?_
    exact mz_go_ret mz_m6 rfl rfl rfl ⟨rfl, rfl, h85⟩
  have h86 := h73.2
  have h86d := h86 c4 c7 c20 c25 c30 c41 c52 c57 c62 c75
  rw [show mz_tsw 7 225 0 19 #[93, 187, 225, 96, 106, 133, 160, 115, 124, 225, 225, 225, 225, 225, 225, 225, 225, 225, 187, 187] (m 31 a4.toNatClampNeg) = 232 from (by
        refine mz_tswd _ _ _ _ _ (m 31 a4.toNatClampNeg) 232 (by decide +kernel) (fun k hk z => ?_)
        match k, hk, z with
        | 0, _, z => exact absurd (mz_tI (by rw [z]; decide +kernel)) c4
        | 1, _, z => exact absurd (mz_tI (by rw [z]; decide +kernel)) c7
        | 2, _, z => decide +kernel
        | 3, _, z => exact absurd (mz_tI (by rw [z]; decide +kernel)) c20
        | 4, _, z => exact absurd (mz_tI (by rw [z]; decide +kernel)) c25
        | 5, _, z => exact absurd (mz_tI (by rw [z]; decide +kernel)) c30
        | 6, _, z => exact absurd (mz_tI (by rw [z]; decide +kernel)) c41
        | 7, _, z => exact absurd (mz_tI (by rw [z]; decide +kernel)) c52
        | 8, _, z => exact absurd (mz_tI (by rw [z]; decide +kernel)) c57
        | 9, _, z => decide +kernel
        | 10, _, z => decide +kernel
        | 11, _, z => decide +kernel
        | 12, _, z => decide +kernel
        | 13, _, z => decide +kernel
        | 14, _, z => decide +kernel
        | 15, _, z => decide +kernel
        | 16, _, z => decide +kernel
        | 17, _, z => decide +kernel
        | 18, _, z => exact absurd (mz_tI (by rw [z]; decide +kernel)) c62
        | 19, _, z => exact absurd (mz_tI (by rw [z]; decide +kernel)) c75
        | k + 20, hk, _ => exact absurd hk (by simp only [Array.size]; simp)
      )]
  refine mz_go_blk mz_m6 3 (pc' := 236) (L' := [some (.ref 41), some (.ref 30), some (.ref 37), some (.ref 2), some (.int a4)]) (S' := [.int a4, .ref 41, .ref 41]) (sh' := mz_sh) (m' := m) (g := true) rfl rfl (rfl) ?_
  refine mz_go_call mz_m6 mz_m12 rfl rfl rfl rfl rfl rfl rfl h86d (fun v sh1 m87 hv => ?_)
  obtain ⟨r89, rfl, rfl, h88⟩ := hv
  obtain ⟨g90, g91, h92⟩ := h88
  refine mz_go_blk mz_m6 9 (pc' := 253) (L' := [some (.ref 41), some (.ref 30), some (.ref 37), some (.ref 2), some (.int a4)]) (S' := [.int 0, .int (mz_a2.getD (m87 31 a4.toNatClampNeg).toNatClampNeg 0), .int (r89 - 1), .ref 41]) (sh' := mz_sh) (m' := m87) (g := mz_inb (m87 31 a4.toNatClampNeg) 20 && (mz_inb a4 4001 && true)) rfl rfl (mz_and2 (g91) (mz_and2 (g90) (rfl))) ?_
  refine mz_go_call mz_m6 mz_m13 rfl rfl rfl rfl rfl rfl rfl h92 (fun v sh1 m93 hv => ?_)
  obtain ⟨rfl, rfl, h94⟩ := hv
  exact mz_go_ret mz_m6 rfl rfl rfl ⟨rfl, rfl, h94⟩
set_option maxRecDepth 100000 in
theorem t_C_writeIf_0 {X : mz_X} {m : mz_M} {Q : mz_M → Prop} (a2 : Int32)
    (h : mz_gi X mz_sh 87 0 [some (.ref 30), some (.int (a2 + 1))] m (fun r3 m1 => mz_inb a2 4001 = true ∧ (((m1 33 a2.toNatClampNeg) = 3 → mz_gi X mz_sh 87 0 [some (.ref 30), some (.int r3)] m1 (fun r10 m8 => mz_gi X mz_sh 11 0 [some (.ref 41), some (.int r10)] m8 (fun r13 m11 => mz_gi X mz_sh 11 0 [some (.ref 41), some (.int r3)] m11 (fun r16 m14 => mz_gv X mz_sh 13 0 [some (.ref 41), some (.int (r16 - 1)), some (.int 14), some (.int r13)] m14 (fun m17 => mz_gi X mz_sh 12 0 [some (.ref 41), some (.int a2)] m17 (fun r21 m19 => mz_gv X mz_sh 13 0 [some (.ref 41), some (.int (r13 - 1)), some (.int 13), some (.int r21)] m19 (fun m22 => Q m22))))))) ∧ (¬ ((m1 33 a2.toNatClampNeg) = 3) → mz_gi X mz_sh 11 0 [some (.ref 41), some (.int r3)] m1 (fun r27 m25 => mz_gi X mz_sh 12 0 [some (.ref 41), some (.int a2)] m25 (fun r30 m28 => mz_gv X mz_sh 13 0 [some (.ref 41), some (.int (r27 - 1)), some (.int 14), some (.int r30)] m28 (fun m31 => Q m31))))))) :
    mz_gv X mz_sh 7 0 [some (.ref 41), some (.ref 30), some (.int a2), none, none] m Q := by
  refine mz_go_blk mz_m7 4 (pc' := 4) (L' := [some (.ref 41), some (.ref 30), some (.int a2), none, none]) (S' := [.int (a2 + 1), .ref 30]) (sh' := mz_sh) (m' := m) (g := true) rfl rfl (rfl) ?_
  refine mz_go_call mz_m7 mz_m87 rfl rfl rfl rfl rfl rfl rfl h (fun v sh1 m1 hv => ?_)
  obtain ⟨r3, rfl, rfl, h2⟩ := hv
  obtain ⟨g4, h5⟩ := h2
  refine mz_go_blk mz_m7 7 (pc' := (if (m1 33 a2.toNatClampNeg) = 3 then 18 else 62)) (L' := [some (.ref 41), some (.ref 30), some (.int a2), some (.int r3), none]) (S' := []) (sh' := mz_sh) (m' := m1) (g := mz_inb a2 4001 && true) rfl rfl (mz_and2 (g4) (rfl)) ?_
  refine mz_go_if (fun c6 => ?_) (fun c6 => ?_)
  · have h7 := h5.1 c6
    refine mz_go_blk mz_m7 3 (pc' := 21) (L' := [some (.ref 41), some (.ref 30), some (.int a2), some (.int r3), none]) (S' := [.int r3, .ref 30, .ref 41]) (sh' := mz_sh) (m' := m1) (g := true) rfl rfl (rfl) ?_
    refine mz_go_call mz_m7 mz_m87 rfl rfl rfl rfl rfl rfl rfl h7 (fun v sh1 m8 hv => ?_)
    obtain ⟨r10, rfl, rfl, h9⟩ := hv
    refine mz_go_call mz_m7 mz_m11 rfl rfl rfl rfl rfl rfl rfl h9 (fun v sh1 m11 hv => ?_)
    obtain ⟨r13, rfl, rfl, h12⟩ := hv
    refine mz_go_blk mz_m7 4 (pc' := 32) (L' := [some (.ref 41), some (.ref 30), some (.int a2), some (.int r3), some (.int r13)]) (S' := [.int r3, .ref 41, .ref 41]) (sh' := mz_sh) (m' := m11) (g := true) rfl rfl (rfl) ?_
    refine mz_go_call mz_m7 mz_m11 rfl rfl rfl rfl rfl rfl rfl h12 (fun v sh1 m14 hv => ?_)
    obtain ⟨r16, rfl, rfl, h15⟩ := hv
    refine mz_go_blk mz_m7 4 (pc' := 41) (L' := [some (.ref 41), some (.ref 30), some (.int a2), some (.int r3), some (.int r13)]) (S' := [.int r13, .int 14, .int (r16 - 1), .ref 41]) (sh' := mz_sh) (m' := m14) (g := true) rfl rfl (rfl) ?_
    refine mz_go_call mz_m7 mz_m13 rfl rfl rfl rfl rfl rfl rfl h15 (fun v sh1 m17 hv => ?_)
    obtain ⟨rfl, rfl, h18⟩ := hv
    refine mz_go_blk mz_m7 7 (pc' := 53) (L' := [some (.ref 41), some (.ref 30), some (.int a2), some (.int r3), some (.int r13)]) (S' := [.int a2, .ref 41, .int 13, .int (r13 - 1), .ref 41]) (sh' := mz_sh) (m' := m17) (g := true) rfl rfl (rfl) ?_
    refine mz_go_call mz_m7 mz_m12 rfl rfl rfl rfl rfl rfl rfl h18 (fun v sh1 m19 hv => ?_)
    obtain ⟨r21, rfl, rfl, h20⟩ := hv
    refine mz_go_call mz_m7 mz_m13 rfl rfl rfl rfl rfl rfl rfl h20 (fun v sh1 m22 hv => ?_)
    obtain ⟨rfl, rfl, h23⟩ := hv
    refine mz_go_blk mz_m7 1 (pc' := 80) (L' := [some (.ref 41), some (.ref 30), some (.int a2), some (.int r3), some (.int r13)]) (S' := []) (sh' := mz_sh) (m' := m22) (g := true) rfl rfl (rfl) ?_
    exact mz_go_ret mz_m7 rfl rfl rfl ⟨rfl, rfl, h23⟩
  · have h24 := h5.2 c6
    refine mz_go_blk mz_m7 3 (pc' := 65) (L' := [some (.ref 41), some (.ref 30), some (.int a2), some (.int r3), none]) (S' := [.int r3, .ref 41, .ref 41]) (sh' := mz_sh) (m' := m1) (g := true) rfl rfl (rfl) ?_
    refine mz_go_call mz_m7 mz_m11 rfl rfl rfl rfl rfl rfl rfl h24 (fun v sh1 m25 hv => ?_)
    obtain ⟨r27, rfl, rfl, h26⟩ := hv
    refine mz_go_blk mz_m7 5 (pc' := 74) (L' := [some (.ref 41), some (.ref 30), some (.int a2), some (.int r3), none]) (S' := [.int a2, .ref 41, .int 14, .int (r27 - 1), .ref 41]) (sh' := mz_sh) (m' := m25) (g := true) rfl rfl (rfl) ?_
    refine mz_go_call mz_m7 mz_m12 rfl rfl rfl rfl rfl rfl rfl h26 (fun v sh1 m28 hv => ?_)
    obtain ⟨r30, rfl, rfl, h29⟩ := hv
    refine mz_go_call mz_m7 mz_m13 rfl rfl rfl rfl rfl rfl rfl h29 (fun v sh1 m31 hv => ?_)
    obtain ⟨rfl, rfl, h32⟩ := hv
    exact mz_go_ret mz_m7 rfl rfl rfl ⟨rfl, rfl, h32⟩
set_option maxRecDepth 100000 in
theorem t_C_writeWhile_0 {X : mz_X} {m : mz_M} {Q : mz_M → Prop} (a1 : Int32)
    (h : mz_gi X mz_sh 12 0 [some (.ref 41), some (.int (a1 + 1))] m (fun r3 m1 => mz_gi X mz_sh 12 0 [some (.ref 41), some (.int a1)] m1 (fun r6 m4 => mz_gv X mz_sh 13 0 [some (.ref 41), some (.int r3), some (.int 14), some (.int r6)] m4 (fun m7 => mz_gi X mz_sh 12 0 [some (.ref 41), some (.int a1)] m7 (fun r11 m9 => mz_inb a1 4001 = true ∧ mz_gv X mz_sh 13 0 [some (.ref 41), some (.int (r11 - 1)), some (.int 13), some (.int (m9 44 a1.toNatClampNeg))] m9 (fun m14 => Q m14)))))) :
    mz_gv X mz_sh 8 0 [some (.ref 41), some (.int a1)] m Q := by
  refine mz_go_blk mz_m8 5 (pc' := 5) (L' := [some (.ref 41), some (.int a1)]) (S' := [.int (a1 + 1), .ref 41, .ref 41]) (sh' := mz_sh) (m' := m) (g := true) rfl rfl (rfl) ?_
  refine mz_go_call mz_m8 mz_m12 rfl rfl rfl rfl rfl rfl rfl h (fun v sh1 m1 hv => ?_)
  obtain ⟨r3, rfl, rfl, h2⟩ := hv
  refine mz_go_blk mz_m8 3 (pc' := 12) (L' := [some (.ref 41), some (.int a1)]) (S' := [.int a1, .ref 41, .int 14, .int r3, .ref 41]) (sh' := mz_sh) (m' := m1) (g := true) rfl rfl (rfl) ?_
  refine mz_go_call mz_m8 mz_m12 rfl rfl rfl rfl rfl rfl rfl h2 (fun v sh1 m4 hv => ?_)
  obtain ⟨r6, rfl, rfl, h5⟩ := hv
  refine mz_go_call mz_m8 mz_m13 rfl rfl rfl rfl rfl rfl rfl h5 (fun v sh1 m7 hv => ?_)
  obtain ⟨rfl, rfl, h8⟩ := hv
  refine mz_go_blk mz_m8 3 (pc' := 21) (L' := [some (.ref 41), some (.int a1)]) (S' := [.int a1, .ref 41, .ref 41]) (sh' := mz_sh) (m' := m7) (g := true) rfl rfl (rfl) ?_
  refine mz_go_call mz_m8 mz_m12 rfl rfl rfl rfl rfl rfl rfl h8 (fun v sh1 m9 hv => ?_)
  obtain ⟨r11, rfl, rfl, h10⟩ := hv
  obtain ⟨g12, h13⟩ := h10
  refine mz_go_blk mz_m8 7 (pc' := 34) (L' := [some (.ref 41), some (.int a1)]) (S' := [.int (m9 44 a1.toNatClampNeg), .int 13, .int (r11 - 1), .ref 41]) (sh' := mz_sh) (m' := m9) (g := mz_inb a1 4001 && true) rfl rfl (mz_and2 (g12) (rfl)) ?_
  refine mz_go_call mz_m8 mz_m13 rfl rfl rfl rfl rfl rfl rfl h13 (fun v sh1 m14 hv => ?_)
  obtain ⟨rfl, rfl, h15⟩ := hv
  exact mz_go_ret mz_m8 rfl rfl rfl ⟨rfl, rfl, h15⟩
set_option maxRecDepth 100000 in
theorem t_C_writeAnd_0 {X : mz_X} {m : mz_M} {Q : mz_M → Prop} (a1 : Int32)
    (h : mz_gi X mz_sh 12 0 [some (.ref 41), some (.int a1)] m (fun r3 m1 => mz_gi X mz_sh 12 0 [some (.ref 41), some (.int (a1 + 1))] m1 (fun r6 m4 => mz_gv X mz_sh 13 0 [some (.ref 41), some (.int r6), some (.int 14), some (.int (r3 - 1))] m4 (fun m7 => mz_gv X mz_sh 13 0 [some (.ref 41), some (.int (r3 - 3)), some (.int 12), some (.int 0)] m7 (fun m9 => mz_gv X mz_sh 13 0 [some (.ref 41), some (.int (r3 - 2)), some (.int 13), some (.int r3)] m9 (fun m11 => mz_gv X mz_sh 13 0 [some (.ref 41), some (.int (r3 - 1)), some (.int 0), some (.int 0)] m11 (fun m13 => Q m13))))))) :
    mz_gv X mz_sh 9 0 [some (.ref 41), some (.int a1), none] m Q := by
  refine mz_go_blk mz_m9 2 (pc' := 2) (L' := [some (.ref 41), some (.int a1), none]) (S' := [.int a1, .ref 41]) (sh' := mz_sh) (m' := m) (g := true) rfl rfl (rfl) ?_
  refine mz_go_call mz_m9 mz_m12 rfl rfl rfl rfl rfl rfl rfl h (fun v sh1 m1 hv => ?_)
  obtain ⟨r3, rfl, rfl, h2⟩ := hv
  refine mz_go_blk mz_m9 6 (pc' := 11) (L' := [some (.ref 41), some (.int a1), some (.int r3)]) (S' := [.int (a1 + 1), .ref 41, .ref 41]) (sh' := mz_sh) (m' := m1) (g := true) rfl rfl (rfl) ?_
  refine mz_go_call mz_m9 mz_m12 rfl rfl rfl rfl rfl rfl rfl h2 (fun v sh1 m4 hv => ?_)
  obtain ⟨r6, rfl, rfl, h5⟩ := hv
  refine mz_go_blk mz_m9 4 (pc' := 19) (L' := [some (.ref 41), some (.int a1), some (.int r3)]) (S' := [.int (r3 - 1), .int 14, .int r6, .ref 41]) (sh' := mz_sh) (m' := m4) (g := true) rfl rfl (rfl) ?_
  refine mz_go_call mz_m9 mz_m13 rfl rfl rfl rfl rfl rfl rfl h5 (fun v sh1 m7 hv => ?_)
  obtain ⟨rfl, rfl, h8⟩ := hv
  refine mz_go_blk mz_m9 6 (pc' := 29) (L' := [some (.ref 41), some (.int a1), some (.int r3)]) (S' := [.int 0, .int 12, .int (r3 - 3), .ref 41]) (sh' := mz_sh) (m' := m7) (g := true) rfl rfl (rfl) ?_
  refine mz_go_call mz_m9 mz_m13 rfl rfl rfl rfl rfl rfl rfl h8 (fun v sh1 m9 hv => ?_)
  obtain ⟨rfl, rfl, h10⟩ := hv
  refine mz_go_blk mz_m9 6 (pc' := 39) (L' := [some (.ref 41), some (.int a1), some (.int r3)]) (S' := [.int r3, .int 13, .int (r3 - 2), .ref 41]) (sh' := mz_sh) (m' := m9) (g := true) rfl rfl (rfl) ?_
  refine mz_go_call mz_m9 mz_m13 rfl rfl rfl rfl rfl rfl rfl h10 (fun v sh1 m11 hv => ?_)
  obtain ⟨rfl, rfl, h12⟩ := hv
  refine mz_go_blk mz_m9 6 (pc' := 48) (L' := [some (.ref 41), some (.int a1), some (.int r3)]) (S' := [.int 0, .int 0, .int (r3 - 1), .ref 41]) (sh' := mz_sh) (m' := m11) (g := true) rfl rfl (rfl) ?_
  refine mz_go_call mz_m9 mz_m13 rfl rfl rfl rfl rfl rfl rfl h12 (fun v sh1 m13 hv => ?_)
  obtain ⟨rfl, rfl, h14⟩ := hv
  exact mz_go_ret mz_m9 rfl rfl rfl ⟨rfl, rfl, h14⟩
set_option maxRecDepth 100000 in
theorem t_C_writeOr_0 {X : mz_X} {m : mz_M} {Q : mz_M → Prop} (a1 : Int32)
    (h : mz_gi X mz_sh 12 0 [some (.ref 41), some (.int a1)] m (fun r3 m1 => mz_gi X mz_sh 12 0 [some (.ref 41), some (.int (a1 + 1))] m1 (fun r6 m4 => mz_gv X mz_sh 13 0 [some (.ref 41), some (.int r6), some (.int 14), some (.int (r6 + 3))] m4 (fun m7 => mz_gv X mz_sh 13 0 [some (.ref 41), some (.int (r6 + 1)), some (.int 0), some (.int 1)] m7 (fun m9 => mz_gv X mz_sh 13 0 [some (.ref 41), some (.int (r6 + 2)), some (.int 13), some (.int r3)] m9 (fun m11 => mz_gv X mz_sh 13 0 [some (.ref 41), some (.int (r3 - 1)), some (.int 12), some (.int 0)] m11 (fun m13 => Q m13))))))) :
    mz_gv X mz_sh 10 0 [some (.ref 41), some (.int a1), none, none] m Q := by
  refine mz_go_blk mz_m10 2 (pc' := 2) (L' := [some (.ref 41), some (.int a1), none, none]) (S' := [.int a1, .ref 41]) (sh' := mz_sh) (m' := m) (g := true) rfl rfl (rfl) ?_
  refine mz_go_call mz_m10 mz_m12 rfl rfl rfl rfl rfl rfl rfl h (fun v sh1 m1 hv => ?_)
  obtain ⟨r3, rfl, rfl, h2⟩ := hv
  refine mz_go_blk mz_m10 5 (pc' := 10) (L' := [some (.ref 41), some (.int a1), some (.int r3), none]) (S' := [.int (a1 + 1), .ref 41]) (sh' := mz_sh) (m' := m1) (g := true) rfl rfl (rfl) ?_
  refine mz_go_call mz_m10 mz_m12 rfl rfl rfl rfl rfl rfl rfl h2 (fun v sh1 m4 hv => ?_)
  obtain ⟨r6, rfl, rfl, h5⟩ := hv
  refine mz_go_blk mz_m10 7 (pc' := 21) (L' := [some (.ref 41), some (.int a1), some (.int r3), some (.int r6)]) (S' := [.int (r6 + 3), .int 14, .int r6, .ref 41]) (sh' := mz_sh) (m' := m4) (g := true) rfl rfl (rfl) ?_
  refine mz_go_call mz_m10 mz_m13 rfl rfl rfl rfl rfl rfl rfl h5 (fun v sh1 m7 hv => ?_)
  obtain ⟨rfl, rfl, h8⟩ := hv
  refine mz_go_blk mz_m10 6 (pc' := 30) (L' := [some (.ref 41), some (.int a1), some (.int r3), some (.int r6)]) (S' := [.int 1, .int 0, .int (r6 + 1), .ref 41]) (sh' := mz_sh) (m' := m7) (g := true) rfl rfl (rfl) ?_
  refine mz_go_call mz_m10 mz_m13 rfl rfl rfl rfl rfl rfl rfl h8 (fun v sh1 m9 hv => ?_)
  obtain ⟨rfl, rfl, h10⟩ := hv
  refine mz_go_blk mz_m10 6 (pc' := 40) (L' := [some (.ref 41), some (.int a1), some (.int r3), some (.int r6)]) (S' := [.int r3, .int 13, .int (r6 + 2), .ref 41]) (sh' := mz_sh) (m' := m9) (g := true) rfl rfl (rfl) ?_
  refine mz_go_call mz_m10 mz_m13 rfl rfl rfl rfl rfl rfl rfl h10 (fun v sh1 m11 hv => ?_)
  obtain ⟨rfl, rfl, h12⟩ := hv
  refine mz_go_blk mz_m10 6 (pc' := 50) (L' := [some (.ref 41), some (.int a1), some (.int r3), some (.int r6)]) (S' := [.int 0, .int 12, .int (r3 - 1), .ref 41]) (sh' := mz_sh) (m' := m11) (g := true) rfl rfl (rfl) ?_
  refine mz_go_call mz_m10 mz_m13 rfl rfl rfl rfl rfl rfl rfl h12 (fun v sh1 m13 hv => ?_)
  obtain ⟨rfl, rfl, h14⟩ := hv
  exact mz_go_ret mz_m10 rfl rfl rfl ⟨rfl, rfl, h14⟩
set_option maxRecDepth 100000 in
theorem t_C_startOf_0 {X : mz_X} {m : mz_M} {Q : Int32 → mz_M → Prop} (a1 : Int32)
    (h : ((a1 < 0 → Q 0 m) ∧ (¬ (a1 < 0) → ((4001 ≤ a1 → Q 0 m) ∧ (¬ (4001 ≤ a1) → mz_inb a1 4001 = true ∧ Q (m 44 a1.toNatClampNeg) m))))) :
    mz_gi X mz_sh 11 0 [some (.ref 41), some (.int a1)] m Q := by
  refine mz_go_blk mz_m11 2 (pc' := (if a1 < 0 then 20 else 4)) (L' := [some (.ref 41), some (.int a1)]) (S' := []) (sh' := mz_sh) (m' := m) (g := true) rfl rfl (rfl) ?_
  refine mz_go_if (fun c1 => ?_) (fun c1 => ?_)
  · have h2 := h.1 c1
    refine mz_go_blk mz_m11 1 (pc' := 21) (L' := [some (.ref 41), some (.int a1)]) (S' := [.int 0]) (sh' := mz_sh) (m' := m) (g := true) rfl rfl (rfl) ?_
    exact mz_go_ret mz_m11 rfl rfl rfl ⟨_, rfl, rfl, h2⟩
  · have h3 := h.2 c1
    refine mz_go_blk mz_m11 3 (pc' := (if 4001 ≤ a1 then 20 else 11)) (L' := [some (.ref 41), some (.int a1)]) (S' := []) (sh' := mz_sh) (m' := m) (g := true) rfl rfl (rfl) ?_
    refine mz_go_if (fun c4 => ?_) (fun c4 => ?_)
    · have h5 := h3.1 c4
      refine mz_go_blk mz_m11 1 (pc' := 21) (L' := [some (.ref 41), some (.int a1)]) (S' := [.int 0]) (sh' := mz_sh) (m' := m) (g := true) rfl rfl (rfl) ?_
      exact mz_go_ret mz_m11 rfl rfl rfl ⟨_, rfl, rfl, h5⟩
    · have h6 := h3.2 c4
      obtain ⟨g7, h8⟩ := h6
      refine mz_go_blk mz_m11 5 (pc' := 21) (L' := [some (.ref 41), some (.int a1)]) (S' := [.int (m 44 a1.toNatClampNeg)]) (sh' := mz_sh) (m' := m) (g := mz_inb a1 4001 && true) rfl rfl (mz_and2 (g7) (rfl)) ?_
      exact mz_go_ret mz_m11 rfl rfl rfl ⟨_, rfl, rfl, h8⟩
set_option maxRecDepth 100000 in
theorem t_C_endOf_0 {X : mz_X} {m : mz_M} {Q : Int32 → mz_M → Prop} (a1 : Int32)
    (h : ((a1 < 0 → Q 0 m) ∧ (¬ (a1 < 0) → ((4001 ≤ a1 → Q 0 m) ∧ (¬ (4001 ≤ a1) → mz_inb a1 4001 = true ∧ mz_inb a1 4001 = true ∧ Q ((m 44 a1.toNatClampNeg) + (m 45 a1.toNatClampNeg)) m))))) :
    mz_gi X mz_sh 12 0 [some (.ref 41), some (.int a1)] m Q := by
  refine mz_go_blk mz_m12 2 (pc' := (if a1 < 0 then 27 else 4)) (L' := [some (.ref 41), some (.int a1)]) (S' := []) (sh' := mz_sh) (m' := m) (g := true) rfl rfl (rfl) ?_
  refine mz_go_if (fun c1 => ?_) (fun c1 => ?_)
  · have h2 := h.1 c1
    refine mz_go_blk mz_m12 1 (pc' := 28) (L' := [some (.ref 41), some (.int a1)]) (S' := [.int 0]) (sh' := mz_sh) (m' := m) (g := true) rfl rfl (rfl) ?_
    exact mz_go_ret mz_m12 rfl rfl rfl ⟨_, rfl, rfl, h2⟩
  · have h3 := h.2 c1
    refine mz_go_blk mz_m12 3 (pc' := (if 4001 ≤ a1 then 27 else 11)) (L' := [some (.ref 41), some (.int a1)]) (S' := []) (sh' := mz_sh) (m' := m) (g := true) rfl rfl (rfl) ?_
    refine mz_go_if (fun c4 => ?_) (fun c4 => ?_)
    · have h5 := h3.1 c4
      refine mz_go_blk mz_m12 1 (pc' := 28) (L' := [some (.ref 41), some (.int a1)]) (S' := [.int 0]) (sh' := mz_sh) (m' := m) (g := true) rfl rfl (rfl) ?_
      exact mz_go_ret mz_m12 rfl rfl rfl ⟨_, rfl, rfl, h5⟩
    · have h6 := h3.2 c4
      obtain ⟨g7, g8, h9⟩ := h6
      refine mz_go_blk mz_m12 10 (pc' := 28) (L' := [some (.ref 41), some (.int a1)]) (S' := [.int ((m 44 a1.toNatClampNeg) + (m 45 a1.toNatClampNeg))]) (sh' := mz_sh) (m' := m) (g := mz_inb a1 4001 && (mz_inb a1 4001 && true)) rfl rfl (mz_and2 (g8) (mz_and2 (g7) (rfl))) ?_
      exact mz_go_ret mz_m12 rfl rfl rfl ⟨_, rfl, rfl, h9⟩
set_option maxRecDepth 100000 in
theorem t_C_put_0 {X : mz_X} {m : mz_M} {Q : mz_M → Prop} (a1 : Int32) (a2 : Int32) (a3 : Int32)
    (h : ((a1 < 0 → Q m) ∧ (¬ (a1 < 0) → ((8001 ≤ a1 → Q m) ∧ (¬ (8001 ≤ a1) → mz_inb a1 8001 = true ∧ mz_inb a1 8001 = true ∧ Q (mz_up (mz_up m 42 a1.toNatClampNeg a2) 43 a1.toNatClampNeg a3)))))) :
    mz_gv X mz_sh 13 0 [some (.ref 41), some (.int a1), some (.int a2), some (.int a3)] m Q := by
  refine mz_go_blk mz_m13 2 (pc' := (if a1 < 0 then 25 else 4)) (L' := [some (.ref 41), some (.int a1), some (.int a2), some (.int a3)]) (S' := []) (sh' := mz_sh) (m' := m) (g := true) rfl rfl (rfl) ?_
  refine mz_go_if (fun c1 => ?_) (fun c1 => ?_)
  · have h2 := h.1 c1
    exact mz_go_ret mz_m13 rfl rfl rfl ⟨rfl, rfl, h2⟩
  · have h3 := h.2 c1
    refine mz_go_blk mz_m13 3 (pc' := (if 8001 ≤ a1 then 25 else 11)) (L' := [some (.ref 41), some (.int a1), some (.int a2), some (.int a3)]) (S' := []) (sh' := mz_sh) (m' := m) (g := true) rfl rfl (rfl) ?_
    refine mz_go_if (fun c4 => ?_) (fun c4 => ?_)
    · have h5 := h3.1 c4
      exact mz_go_ret mz_m13 rfl rfl rfl ⟨rfl, rfl, h5⟩
    · have h6 := h3.2 c4
      obtain ⟨g7, g8, h9⟩ := h6
      refine mz_go_blk mz_m13 10 (pc' := 25) (L' := [some (.ref 41), some (.int a1), some (.int a2), some (.int a3)]) (S' := []) (sh' := mz_sh) (m' := mz_up (mz_up m 42 a1.toNatClampNeg a2) 43 a1.toNatClampNeg a3) (g := mz_inb a1 8001 && (mz_inb a1 8001 && true)) rfl rfl (mz_and2 (g8) (mz_and2 (g7) (rfl))) ?_
      exact mz_go_ret mz_m13 rfl rfl rfl ⟨rfl, rfl, h9⟩
set_option maxRecDepth 100000 in
theorem t_R_start_0 {X : mz_X} {m : mz_M} {Q : mz_M → Prop} (a1 : Int32)
    (h : Q (mz_cp (mz_up (mz_up (mz_up (mz_up (mz_up (mz_up m 47 0 1) 47 1 (-1)) 47 2 a1) 47 3 0) 47 4 (-1)) 47 5 0) 46 49 0 0 32)) :
    mz_gv X mz_sh 35 0 [some (.ref 47), some (.int a1), some (.ref 46)] m Q := by
  refine mz_go_blk mz_m35 25 (pc' := 42) (L' := [some (.ref 47), some (.int a1), some (.ref 46)]) (S' := []) (sh' := mz_sh) (m' := mz_cp (mz_up (mz_up (mz_up (mz_up (mz_up (mz_up m 47 0 1) 47 1 (-1)) 47 2 a1) 47 3 0) 47 4 (-1)) 47 5 0) 46 49 0 0 32) (g := (decide (0 ≤ 0) && (decide (0 ≤ 0) && (decide (0 ≤ 32) && (decide (0 + 32 ≤ 32) && decide (0 + 32 ≤ 32))))) && ((decide (1 = 0) || decide (1 = 1)) && true)) rfl rfl (mz_and2 (by decide) (mz_and2 (by decide) (rfl))) ?_
  exact mz_go_ret mz_m35 rfl rfl rfl ⟨rfl, rfl, h⟩
set_option maxRecDepth 100000 in
theorem t_R_forget_0 {X : mz_X} {m : mz_M} {Q : mz_M → Prop}
    (h : Q (mz_up m 47 0 0)) :
    mz_gv X mz_sh 36 0 [some (.ref 47)] m Q := by
  refine mz_go_blk mz_m36 3 (pc' := 5) (L' := [some (.ref 47)]) (S' := []) (sh' := mz_sh) (m' := mz_up m 47 0 0) (g := (decide (0 = 0) || decide (0 = 1)) && true) rfl rfl (mz_and2 (by decide) (rfl)) ?_
  exact mz_go_ret mz_m36 rfl rfl rfl ⟨rfl, rfl, h⟩
set_option maxRecDepth 100000 in
theorem t_R_isGoing_0 {X : mz_X} {m : mz_M} {Q : Int32 → mz_M → Prop}
    (h : (((m 47 1) = (-1) → Q 1 m) ∧ (¬ ((m 47 1) = (-1)) → Q 0 m))) :
    mz_gi X mz_sh 37 0 [some (.ref 47)] m Q := by
  refine mz_go_blk mz_m37 4 (pc' := (if (m 47 1) = (-1) then 8 else 12)) (L' := [some (.ref 47)]) (S' := []) (sh' := mz_sh) (m' := m) (g := true) rfl rfl (rfl) ?_
  refine mz_go_if (fun c1 => ?_) (fun c1 => ?_)
  · have h2 := h.1 c1
    refine mz_go_blk mz_m37 2 (pc' := 13) (L' := [some (.ref 47)]) (S' := [.int 1]) (sh' := mz_sh) (m' := m) (g := true) rfl rfl (rfl) ?_
    exact mz_go_ret mz_m37 rfl rfl rfl ⟨_, rfl, rfl, h2⟩
  · have h3 := h.2 c1
    refine mz_go_blk mz_m37 1 (pc' := 13) (L' := [some (.ref 47)]) (S' := [.int 0]) (sh' := mz_sh) (m' := m) (g := true) rfl rfl (rfl) ?_
    exact mz_go_ret mz_m37 rfl rfl rfl ⟨_, rfl, rfl, h3⟩
set_option maxRecDepth 100000 in
theorem t_R_begins_0 {X : mz_X} {m : mz_M} {Q : Int32 → mz_M → Prop} (a1 : Int32)
    (h : (((m 47 3) < (m 47 2) → Q 1 (mz_up (mz_up m 47 3 ((m 47 3) + 1)) 47 4 a1)) ∧ (¬ ((m 47 3) < (m 47 2)) → Q 0 (mz_up m 47 1 1)))) :
    mz_gi X mz_sh 38 0 [some (.ref 47), some (.int a1)] m Q := by
  refine mz_go_blk mz_m38 5 (pc' := (if (m 47 3) < (m 47 2) then 18 else 11)) (L' := [some (.ref 47), some (.int a1)]) (S' := []) (sh' := mz_sh) (m' := m) (g := true) rfl rfl (rfl) ?_
  refine mz_go_if (fun c1 => ?_) (fun c1 => ?_)
  · have h2 := h.1 c1
    refine mz_go_blk mz_m38 10 (pc' := 34) (L' := [some (.ref 47), some (.int a1)]) (S' := [.int 1]) (sh' := mz_sh) (m' := mz_up (mz_up m 47 3 ((m 47 3) + 1)) 47 4 a1) (g := true) rfl rfl (rfl) ?_
    exact mz_go_ret mz_m38 rfl rfl rfl ⟨_, rfl, rfl, h2⟩
  · have h3 := h.2 c1
    refine mz_go_blk mz_m38 4 (pc' := 17) (L' := [some (.ref 47), some (.int a1)]) (S' := [.int 0]) (sh' := mz_sh) (m' := mz_up m 47 1 1) (g := true) rfl rfl (rfl) ?_
    exact mz_go_ret mz_m38 rfl rfl rfl ⟨_, rfl, rfl, h3⟩
set_option maxRecDepth 100000 in
theorem t_R_print_0 {X : mz_X} {m : mz_M} {Q : mz_M → Prop} (a1 : Int32)
    (h : ((1000 ≤ (m 47 5) → Q (mz_up m 47 5 ((m 47 5) + 1))) ∧ (¬ (1000 ≤ (m 47 5)) → mz_inb (m 47 5) 1000 = true ∧ Q (mz_up (mz_up m 48 ((m 47 5).toNatClampNeg) a1) 47 5 ((m 47 5) + 1))))) :
    mz_gv X mz_sh 39 0 [some (.ref 47), some (.int a1)] m Q := by
  refine mz_go_blk mz_m39 4 (pc' := (if 1000 ≤ (m 47 5) then 20 else 10)) (L' := [some (.ref 47), some (.int a1)]) (S' := []) (sh' := mz_sh) (m' := m) (g := true) rfl rfl (rfl) ?_
  refine mz_go_if (fun c1 => ?_) (fun c1 => ?_)
  · have h2 := h.1 c1
    refine mz_go_blk mz_m39 6 (pc' := 30) (L' := [some (.ref 47), some (.int a1)]) (S' := []) (sh' := mz_sh) (m' := mz_up m 47 5 ((m 47 5) + 1)) (g := true) rfl rfl (rfl) ?_
    exact mz_go_ret mz_m39 rfl rfl rfl ⟨rfl, rfl, h2⟩
  · have h3 := h.2 c1
    obtain ⟨g4, h5⟩ := h3
    refine mz_go_blk mz_m39 12 (pc' := 30) (L' := [some (.ref 47), some (.int a1)]) (S' := []) (sh' := mz_sh) (m' := mz_up (mz_up m 48 ((m 47 5).toNatClampNeg) a1) 47 5 ((m 47 5) + 1)) (g := mz_inb (m 47 5) 1000 && true) rfl rfl (mz_and2 (g4) (rfl)) ?_
    exact mz_go_ret mz_m39 rfl rfl rfl ⟨rfl, rfl, h5⟩
set_option maxRecDepth 100000 in
theorem t_R_printedValue_0 {X : mz_X} {m : mz_M} {Q : Int32 → mz_M → Prop} (a1 : Int32)
    (h : ((a1 < 0 → Q 0 m) ∧ (¬ (a1 < 0) → (((m 47 5) ≤ a1 → Q 0 m) ∧ (¬ ((m 47 5) ≤ a1) → ((1000 ≤ a1 → Q 0 m) ∧ (¬ (1000 ≤ a1) → mz_inb a1 1000 = true ∧ Q (m 48 a1.toNatClampNeg) m))))))) :
    mz_gi X mz_sh 40 0 [some (.ref 47), some (.int a1)] m Q := by
  refine mz_go_blk mz_m40 2 (pc' := (if a1 < 0 then 28 else 4)) (L' := [some (.ref 47), some (.int a1)]) (S' := []) (sh' := mz_sh) (m' := m) (g := true) rfl rfl (rfl) ?_
  refine mz_go_if (fun c1 => ?_) (fun c1 => ?_)
  · have h2 := h.1 c1
    refine mz_go_blk mz_m40 1 (pc' := 29) (L' := [some (.ref 47), some (.int a1)]) (S' := [.int 0]) (sh' := mz_sh) (m' := m) (g := true) rfl rfl (rfl) ?_
    exact mz_go_ret mz_m40 rfl rfl rfl ⟨_, rfl, rfl, h2⟩
  · have h3 := h.2 c1
    refine mz_go_blk mz_m40 4 (pc' := (if (m 47 5) ≤ a1 then 28 else 12)) (L' := [some (.ref 47), some (.int a1)]) (S' := []) (sh' := mz_sh) (m' := m) (g := true) rfl rfl (rfl) ?_
    refine mz_go_if (fun c4 => ?_) (fun c4 => ?_)
    · have h5 := h3.1 c4
      refine mz_go_blk mz_m40 1 (pc' := 29) (L' := [some (.ref 47), some (.int a1)]) (S' := [.int 0]) (sh' := mz_sh) (m' := m) (g := true) rfl rfl (rfl) ?_
      exact mz_go_ret mz_m40 rfl rfl rfl ⟨_, rfl, rfl, h5⟩
    · have h6 := h3.2 c4
      refine mz_go_blk mz_m40 3 (pc' := (if 1000 ≤ a1 then 28 else 19)) (L' := [some (.ref 47), some (.int a1)]) (S' := []) (sh' := mz_sh) (m' := m) (g := true) rfl rfl (rfl) ?_
      refine mz_go_if (fun c7 => ?_) (fun c7 => ?_)
      · have h8 := h6.1 c7
        refine mz_go_blk mz_m40 1 (pc' := 29) (L' := [some (.ref 47), some (.int a1)]) (S' := [.int 0]) (sh' := mz_sh) (m' := m) (g := true) rfl rfl (rfl) ?_
        exact mz_go_ret mz_m40 rfl rfl rfl ⟨_, rfl, rfl, h8⟩
      · have h9 := h6.2 c7
        obtain ⟨g10, h11⟩ := h9
        refine mz_go_blk mz_m40 5 (pc' := 29) (L' := [some (.ref 47), some (.int a1)]) (S' := [.int (m 48 a1.toNatClampNeg)]) (sh' := mz_sh) (m' := m) (g := mz_inb a1 1000 && true) rfl rfl (mz_and2 (g10) (rfl)) ?_
        exact mz_go_ret mz_m40 rfl rfl rfl ⟨_, rfl, rfl, h11⟩
set_option maxRecDepth 100000 in
theorem t_R_load_0 {X : mz_X} {m : mz_M} {Q : Int32 → mz_M → Prop} (a1 : Int32)
    (h : ((a1 < 0 → Q 0 m) ∧ (¬ (a1 < 0) → ((32 ≤ a1 → Q 0 m) ∧ (¬ (32 ≤ a1) → mz_inb a1 32 = true ∧ Q (m 49 a1.toNatClampNeg) m))))) :
    mz_gi X mz_sh 41 0 [some (.ref 47), some (.int a1)] m Q := by
  refine mz_go_blk mz_m41 2 (pc' := (if a1 < 0 then 19 else 4)) (L' := [some (.ref 47), some (.int a1)]) (S' := []) (sh' := mz_sh) (m' := m) (g := true) rfl rfl (rfl) ?_
  refine mz_go_if (fun c1 => ?_) (fun c1 => ?_)
  · have h2 := h.1 c1
    refine mz_go_blk mz_m41 1 (pc' := 20) (L' := [some (.ref 47), some (.int a1)]) (S' := [.int 0]) (sh' := mz_sh) (m' := m) (g := true) rfl rfl (rfl) ?_
    exact mz_go_ret mz_m41 rfl rfl rfl ⟨_, rfl, rfl, h2⟩
  · have h3 := h.2 c1
    refine mz_go_blk mz_m41 3 (pc' := (if 32 ≤ a1 then 19 else 10)) (L' := [some (.ref 47), some (.int a1)]) (S' := []) (sh' := mz_sh) (m' := m) (g := true) rfl rfl (rfl) ?_
    refine mz_go_if (fun c4 => ?_) (fun c4 => ?_)
    · have h5 := h3.1 c4
      refine mz_go_blk mz_m41 1 (pc' := 20) (L' := [some (.ref 47), some (.int a1)]) (S' := [.int 0]) (sh' := mz_sh) (m' := m) (g := true) rfl rfl (rfl) ?_
      exact mz_go_ret mz_m41 rfl rfl rfl ⟨_, rfl, rfl, h5⟩
    · have h6 := h3.2 c4
      obtain ⟨g7, h8⟩ := h6
      refine mz_go_blk mz_m41 5 (pc' := 20) (L' := [some (.ref 47), some (.int a1)]) (S' := [.int (m 49 a1.toNatClampNeg)]) (sh' := mz_sh) (m' := m) (g := mz_inb a1 32 && true) rfl rfl (mz_and2 (g7) (rfl)) ?_
      exact mz_go_ret mz_m41 rfl rfl rfl ⟨_, rfl, rfl, h8⟩
set_option maxRecDepth 100000 in
theorem t_R_store_0 {X : mz_X} {m : mz_M} {Q : mz_M → Prop} (a1 : Int32) (a2 : Int32)
    (h : ((a1 < 0 → Q m) ∧ (¬ (a1 < 0) → ((32 ≤ a1 → Q m) ∧ (¬ (32 ≤ a1) → mz_inb a1 32 = true ∧ Q (mz_up m 49 a1.toNatClampNeg a2)))))) :
    mz_gv X mz_sh 42 0 [some (.ref 47), some (.int a1), some (.int a2)] m Q := by
  refine mz_go_blk mz_m42 2 (pc' := (if a1 < 0 then 17 else 4)) (L' := [some (.ref 47), some (.int a1), some (.int a2)]) (S' := []) (sh' := mz_sh) (m' := m) (g := true) rfl rfl (rfl) ?_
  refine mz_go_if (fun c1 => ?_) (fun c1 => ?_)
  · have h2 := h.1 c1
    exact mz_go_ret mz_m42 rfl rfl rfl ⟨rfl, rfl, h2⟩
  · have h3 := h.2 c1
    refine mz_go_blk mz_m42 3 (pc' := (if 32 ≤ a1 then 17 else 10)) (L' := [some (.ref 47), some (.int a1), some (.int a2)]) (S' := []) (sh' := mz_sh) (m' := m) (g := true) rfl rfl (rfl) ?_
    refine mz_go_if (fun c4 => ?_) (fun c4 => ?_)
    · have h5 := h3.1 c4
      exact mz_go_ret mz_m42 rfl rfl rfl ⟨rfl, rfl, h5⟩
    · have h6 := h3.2 c4
      obtain ⟨g7, h8⟩ := h6
      refine mz_go_blk mz_m42 5 (pc' := 17) (L' := [some (.ref 47), some (.int a1), some (.int a2)]) (S' := []) (sh' := mz_sh) (m' := mz_up m 49 a1.toNatClampNeg a2) (g := mz_inb a1 32 && true) rfl rfl (mz_and2 (g7) (rfl)) ?_
      exact mz_go_ret mz_m42 rfl rfl rfl ⟨rfl, rfl, h8⟩
set_option maxRecDepth 100000 in
theorem t_R_calculate_0 {X : mz_X} {m : mz_M} {Q : Int32 → mz_M → Prop} (a1 : Int32) (a2 : Int32) (a3 : Int32)
    (h : ((a1 = 3 → Q (a2 + a3) m) ∧ (a1 = 4 → Q (a2 - a3) m) ∧ (a1 = 5 → Q (a2 * a3) m) ∧ (a1 = 6 → ((a3 = 0 → mz_gi X mz_sh 44 0 [some (.ref 47)] m (fun r16 m14 => Q r16 m14)) ∧ (¬ (a3 = 0) → ¬ a3 = 0 ∧ Q (a2 / a3) m))) ∧ (a1 = 7 → ((a3 = 0 → mz_gi X mz_sh 44 0 [some (.ref 47)] m (fun r27 m25 => Q r27 m25)) ∧ (¬ (a3 = 0) → ¬ a3 = 0 ∧ Q (a2 - a2 / a3 * a3) m))) ∧ (a1 = 8 → ((a2 = a3 → Q 1 m) ∧ (¬ (a2 = a3) → Q 0 m))) ∧ (a1 = 9 → ((a3 ≤ a2 → Q 0 m) ∧ (¬ (a3 ≤ a2) → Q 1 m))) ∧ (a1 = 10 → Q (-a3) m) ∧ (a1 = 11 → ((a3 = 0 → Q 1 m) ∧ (¬ (a3 = 0) → Q 0 m))) ∧ (¬ a1 = 3 → ¬ a1 = 4 → ¬ a1 = 5 → ¬ a1 = 6 → ¬ a1 = 7 → ¬ a1 = 8 → ¬ a1 = 9 → ¬ a1 = 10 → ¬ a1 = 11 → ((a3 = 0 → Q 0 m) ∧ (¬ (a3 = 0) → Q 1 m))))) :
    mz_gi X mz_sh 43 0 [some (.ref 47), some (.int a1), some (.int a2), some (.int a3)] m Q := by
  refine mz_go_blk mz_m43 2 (pc' := (mz_tsw 1 128 3 11 #[51, 55, 59, 63, 78, 93, 104, 115, 118] a1)) (L' := [some (.ref 47), some (.int a1), some (.int a2), some (.int a3)]) (S' := []) (sh' := mz_sh) (m' := m) (g := true) rfl rfl (rfl) ?_
  by_cases c2 : a1 = 3
  · have h1 := h.1 c2
    rw [show mz_tsw 1 128 3 11 #[51, 55, 59, 63, 78, 93, 104, 115, 118] a1 = 52 by rw [c2]; decide +kernel]
    refine mz_go_blk mz_m43 3 (pc' := 55) (L' := [some (.ref 47), some (.int a1), some (.int a2), some (.int a3)]) (S' := [.int (a2 + a3)]) (sh' := mz_sh) (m' := m) (g := true) rfl rfl (rfl) ?_
    exact mz_go_ret mz_m43 rfl rfl rfl ⟨_, rfl, rfl, h1⟩
  have h3 := h.2
  by_cases c5 : a1 = 4
  · have h4 := h3.1 c5
    rw [show mz_tsw 1 128 3 11 #[51, 55, 59, 63, 78, 93, 104, 115, 118] a1 = 56 by rw [c5]; decide +kernel]
    refine mz_go_blk mz_m43 3 (pc' := 59) (L' := [some (.ref 47), some (.int a1), some (.int a2), some (.int a3)]) (S' := [.int (a2 - a3)]) (sh' := mz_sh) (m' := m) (g := true) rfl rfl (rfl) ?_
    exact mz_go_ret mz_m43 rfl rfl rfl ⟨_, rfl, rfl, h4⟩
  have h6 := h3.2
  by_cases c8 : a1 = 5
  · have h7 := h6.1 c8
    rw [show mz_tsw 1 128 3 11 #[51, 55, 59, 63, 78, 93, 104, 115, 118] a1 = 60 by rw [c8]; decide +kernel]
    refine mz_go_blk mz_m43 3 (pc' := 63) (L' := [some (.ref 47), some (.int a1), some (.int a2), some (.int a3)]) (S' := [.int (a2 * a3)]) (sh' := mz_sh) (m' := m) (g := true) rfl rfl (rfl) ?_
    exact mz_go_ret mz_m43 rfl rfl rfl ⟨_, rfl, rfl, h7⟩
  have h9 := h6.2
  by_cases c11 : a1 = 6
  · have h10 := h9.1 c11
    rw [show mz_tsw 1 128 3 11 #[51, 55, 59, 63, 78, 93, 104, 115, 118] a1 = 64 by rw [c11]; decide +kernel]
    refine mz_go_blk mz_m43 2 (pc' := (if a3 = 0 then 68 else 75)) (L' := [some (.ref 47), some (.int a1), some (.int a2), some (.int a3)]) (S' := []) (sh' := mz_sh) (m' := m) (g := true) rfl rfl (rfl) ?_
    refine mz_go_if (fun c12 => ?_) (fun c12 => ?_)
    · have h13 := h10.1 c12
      refine mz_go_blk mz_m43 1 (pc' := 69) (L' := [some (.ref 47), some (.int a1), some (.int a2), some (.int a3)]) (S' := [.ref 47]) (sh' := mz_sh) (m' := m) (g := true) rfl rfl (rfl) ?_
      refine mz_go_call mz_m43 mz_m44 rfl rfl rfl rfl rfl rfl rfl h13 (fun v sh1 m14 hv => ?_)
      obtain ⟨r16, rfl, rfl, h15⟩ := hv
      refine mz_go_blk mz_m43 1 (pc' := 78) (L' := [some (.ref 47), some (.int a1), some (.int a2), some (.int a3)]) (S' := [.int r16]) (sh' := mz_sh) (m' := m14) (g := true) rfl rfl (rfl) ?_
      exact mz_go_ret mz_m43 rfl rfl rfl ⟨_, rfl, rfl, h15⟩
    · have h17 := h10.2 c12
      obtain ⟨g18, h19⟩ := h17
      refine mz_go_blk mz_m43 3 (pc' := 78) (L' := [some (.ref 47), some (.int a1), some (.int a2), some (.int a3)]) (S' := [.int (a2 / a3)]) (sh' := mz_sh) (m' := m) (g := !decide (a3 = 0) && true) rfl rfl (mz_and2 (mz_ne0 g18) (rfl)) ?_
      exact mz_go_ret mz_m43 rfl rfl rfl ⟨_, rfl, rfl, h19⟩
  have h20 := h9.2
  by_cases c22 : a1 = 7
  · have h21 := h20.1 c22
    rw [show mz_tsw 1 128 3 11 #[51, 55, 59, 63, 78, 93, 104, 115, 118] a1 = 79 by rw [c22]; decide +kernel]
    refine mz_go_blk mz_m43 2 (pc' := (if a3 = 0 then 83 else 90)) (L' := [some (.ref 47), some (.int a1), some (.int a2), some (.int a3)]) (S' := []) (sh' := mz_sh) (m' := m) (g := true) rfl rfl (rfl) ?_
    refine mz_go_if (fun c23 => ?_) (fun c23 => ?_)
    · have h24 := h21.1 c23
      refine mz_go_blk mz_m43 1 (pc' := 84) (L' := [some (.ref 47), some (.int a1), some (.int a2), some (.int a3)]) (S' := [.ref 47]) (sh' := mz_sh) (m' := m) (g := true) rfl rfl (rfl) ?_
      refine mz_go_call mz_m43 mz_m44 rfl rfl rfl rfl rfl rfl rfl h24 (fun v sh1 m25 hv => ?_)
      obtain ⟨r27, rfl, rfl, h26⟩ := hv
      refine mz_go_blk mz_m43 1 (pc' := 93) (L' := [some (.ref 47), some (.int a1), some (.int a2), some (.int a3)]) (S' := [.int r27]) (sh' := mz_sh) (m' := m25) (g := true) rfl rfl (rfl) ?_
      exact mz_go_ret mz_m43 rfl rfl rfl ⟨_, rfl, rfl, h26⟩
    · have h28 := h21.2 c23
      obtain ⟨g29, h30⟩ := h28
      refine mz_go_blk mz_m43 3 (pc' := 93) (L' := [some (.ref 47), some (.int a1), some (.int a2), some (.int a3)]) (S' := [.int (a2 - a2 / a3 * a3)]) (sh' := mz_sh) (m' := m) (g := !decide (a3 = 0) && true) rfl rfl (mz_and2 (mz_ne0 g29) (rfl)) ?_
      exact mz_go_ret mz_m43 rfl rfl rfl ⟨_, rfl, rfl, h30⟩
  have h31 := h20.2
  by_cases c33 : a1 = 8
  · have h32 := h31.1 c33
    rw [show mz_tsw 1 128 3 11 #[51, 55, 59, 63, 78, 93, 104, 115, 118] a1 = 94 by rw [c33]; decide +kernel]
    refine mz_go_blk mz_m43 3 (pc' := (if a2 = a3 then 99 else 103)) (L' := [some (.ref 47), some (.int a1), some (.int a2), some (.int a3)]) (S' := []) (sh' := mz_sh) (m' := m) (g := true) rfl rfl (rfl) ?_
    refine mz_go_if (fun c34 => ?_) (fun c34 => ?_)
    · have h35 := h32.1 c34
      refine mz_go_blk mz_m43 2 (pc' := 104) (L' := [some (.ref 47), some (.int a1), some (.int a2), some (.int a3)]) (S' := [.int 1]) (sh' := mz_sh) (m' := m) (g := true) rfl rfl (rfl) ?_
      exact mz_go_ret mz_m43 rfl rfl rfl ⟨_, rfl, rfl, h35⟩
    · have h36 := h32.2 c34
      refine mz_go_blk mz_m43 1 (pc' := 104) (L' := [some (.ref 47), some (.int a1), some (.int a2), some (.int a3)]) (S' := [.int 0]) (sh' := mz_sh) (m' := m) (g := true) rfl rfl (rfl) ?_
      exact mz_go_ret mz_m43 rfl rfl rfl ⟨_, rfl, rfl, h36⟩
  have h37 := h31.2
  by_cases c39 : a1 = 9
  · have h38 := h37.1 c39
    rw [show mz_tsw 1 128 3 11 #[51, 55, 59, 63, 78, 93, 104, 115, 118] a1 = 105 by rw [c39]; decide +kernel]
    refine mz_go_blk mz_m43 3 (pc' := (if a3 ≤ a2 then 114 else 110)) (L' := [some (.ref 47), some (.int a1), some (.int a2), some (.int a3)]) (S' := []) (sh' := mz_sh) (m' := m) (g := true) rfl rfl (rfl) ?_
    refine mz_go_if (fun c40 => ?_) (fun c40 => ?_)
    · have h41 := h38.1 c40
      refine mz_go_blk mz_m43 1 (pc' := 115) (L' := [some (.ref 47), some (.int a1), some (.int a2), some (.int a3)]) (S' := [.int 0]) (sh' := mz_sh) (m' := m) (g := true) rfl rfl (rfl) ?_
      exact mz_go_ret mz_m43 rfl rfl rfl ⟨_, rfl, rfl, h41⟩
    · have h42 := h38.2 c40
      refine mz_go_blk mz_m43 2 (pc' := 115) (L' := [some (.ref 47), some (.int a1), some (.int a2), some (.int a3)]) (S' := [.int 1]) (sh' := mz_sh) (m' := m) (g := true) rfl rfl (rfl) ?_
      exact mz_go_ret mz_m43 rfl rfl rfl ⟨_, rfl, rfl, h42⟩
  have h43 := h37.2
  by_cases c45 : a1 = 10
  · have h44 := h43.1 c45
    rw [show mz_tsw 1 128 3 11 #[51, 55, 59, 63, 78, 93, 104, 115, 118] a1 = 116 by rw [c45]; decide +kernel]
    refine mz_go_blk mz_m43 2 (pc' := 118) (L' := [some (.ref 47), some (.int a1), some (.int a2), some (.int a3)]) (S' := [.int (-a3)]) (sh' := mz_sh) (m' := m) (g := true) rfl rfl (rfl) ?_
    exact mz_go_ret mz_m43 rfl rfl rfl ⟨_, rfl, rfl, h44⟩
  have h46 := h43.2
  by_cases c48 : a1 = 11
  · have h47 := h46.1 c48
    rw [show mz_tsw 1 128 3 11 #[51, 55, 59, 63, 78, 93, 104, 115, 118] a1 = 119 by rw [c48]; decide +kernel]
    refine mz_go_blk mz_m43 2 (pc' := (if a3 = 0 then 123 else 127)) (L' := [some (.ref 47), some (.int a1), some (.int a2), some (.int a3)]) (S' := []) (sh' := mz_sh) (m' := m) (g := true) rfl rfl (rfl) ?_
    refine mz_go_if (fun c49 => ?_) (fun c49 => ?_)
    · have h50 := h47.1 c49
      refine mz_go_blk mz_m43 2 (pc' := 128) (L' := [some (.ref 47), some (.int a1), some (.int a2), some (.int a3)]) (S' := [.int 1]) (sh' := mz_sh) (m' := m) (g := true) rfl rfl (rfl) ?_
      exact mz_go_ret mz_m43 rfl rfl rfl ⟨_, rfl, rfl, h50⟩
    · have h51 := h47.2 c49
      refine mz_go_blk mz_m43 1 (pc' := 128) (L' := [some (.ref 47), some (.int a1), some (.int a2), some (.int a3)]) (S' := [.int 0]) (sh' := mz_sh) (m' := m) (g := true) rfl rfl (rfl) ?_
      exact mz_go_ret mz_m43 rfl rfl rfl ⟨_, rfl, rfl, h51⟩
  have h52 := h46.2
  have h52d := h52 c2 c5 c8 c11 c22 c33 c39 c45 c48
  rw [show mz_tsw 1 128 3 11 #[51, 55, 59, 63, 78, 93, 104, 115, 118] a1 = 129 from (by
        refine mz_tswd _ _ _ _ _ a1 129 (by decide +kernel) (fun k hk z => ?_)
        match k, hk, z with
        | 0, _, z => exact absurd (mz_tI (by rw [z]; decide +kernel)) c2
        | 1, _, z => exact absurd (mz_tI (by rw [z]; decide +kernel)) c5
        | 2, _, z => exact absurd (mz_tI (by rw [z]; decide +kernel)) c8
        | 3, _, z => exact absurd (mz_tI (by rw [z]; decide +kernel)) c11
        | 4, _, z => exact absurd (mz_tI (by rw [z]; decide +kernel)) c22
        | 5, _, z => exact absurd (mz_tI (by rw [z]; decide +kernel)) c33
        | 6, _, z => exact absurd (mz_tI (by rw [z]; decide +kernel)) c39
        | 7, _, z => exact absurd (mz_tI (by rw [z]; decide +kernel)) c45
        | 8, _, z => exact absurd (mz_tI (by rw [z]; decide +kernel)) c48
        | k + 9, hk, _ => exact absurd hk (by simp only [Array.size]; simp)
      )]
  refine mz_go_blk mz_m43 2 (pc' := (if a3 = 0 then 137 else 133)) (L' := [some (.ref 47), some (.int a1), some (.int a2), some (.int a3)]) (S' := []) (sh' := mz_sh) (m' := m) (g := true) rfl rfl (rfl) ?_
  refine mz_go_if (fun c53 => ?_) (fun c53 => ?_)
  · have h54 := h52d.1 c53
    refine mz_go_blk mz_m43 1 (pc' := 138) (L' := [some (.ref 47), some (.int a1), some (.int a2), some (.int a3)]) (S' := [.int 0]) (sh' := mz_sh) (m' := m) (g := true) rfl rfl (rfl) ?_
    exact mz_go_ret mz_m43 rfl rfl rfl ⟨_, rfl, rfl, h54⟩
  · have h55 := h52d.2 c53
    refine mz_go_blk mz_m43 2 (pc' := 138) (L' := [some (.ref 47), some (.int a1), some (.int a2), some (.int a3)]) (S' := [.int 1]) (sh' := mz_sh) (m' := m) (g := true) rfl rfl (rfl) ?_
    exact mz_go_ret mz_m43 rfl rfl rfl ⟨_, rfl, rfl, h55⟩
set_option maxRecDepth 100000 in
theorem t_R_divided_0 {X : mz_X} {m : mz_M} {Q : Int32 → mz_M → Prop}
    (h : Q 0 (mz_up m 47 1 2)) :
    mz_gi X mz_sh 44 0 [some (.ref 47)] m Q := by
  refine mz_go_blk mz_m44 4 (pc' := 6) (L' := [some (.ref 47)]) (S' := [.int 0]) (sh' := mz_sh) (m' := mz_up m 47 1 2) (g := true) rfl rfl (rfl) ?_
  exact mz_go_ret mz_m44 rfl rfl rfl ⟨_, rfl, rfl, h⟩
set_option maxRecDepth 100000 in
theorem t_E_go_0 {X : mz_X} {m : mz_M} {Q : mz_M → Prop}
    (h : mz_gi X mz_sh 32 0 [some (.ref 37), some (.int 0)] m (fun r3 m1 => mz_gv X mz_sh 89 11 [some (.ref 50), some (.int r3), some (.int 0)] m1 Q)) :
    mz_gv X mz_sh 89 0 [some (.ref 50), none, none] m Q := by
  refine mz_go_blk mz_m89 3 (pc' := 5) (L' := [some (.ref 50), none, none]) (S' := [.int 0, .ref 37]) (sh' := mz_sh) (m' := m) (g := true) rfl rfl (rfl) ?_
  refine mz_go_call mz_m89 mz_m32 rfl rfl rfl rfl rfl rfl rfl h (fun v sh1 m1 hv => ?_)
  obtain ⟨r3, rfl, rfl, h2⟩ := hv
  refine mz_go_blk mz_m89 3 (pc' := 11) (L' := [some (.ref 50), some (.int r3), some (.int 0)]) (S' := []) (sh' := mz_sh) (m' := m1) (g := true) rfl rfl (rfl) ?_
  exact h2
set_option maxRecDepth 100000 in
theorem t_E_go_1 {X : mz_X} {m : mz_M} {Q : mz_M → Prop} (l1 : Int32) (l2 : Int32)
    (h : (((m 47 2) < l2 → mz_gi X mz_sh 37 0 [some (.ref 47)] m (fun r5 m3 => ((r5 = 0 → Q m3) ∧ (¬ (r5 = 0) → Q (mz_up m3 47 1 0))))) ∧ (¬ ((m 47 2) < l2) → mz_gi X mz_sh 37 0 [some (.ref 47)] m (fun r12 m10 => ((r12 = 0 → mz_gi X mz_sh 37 0 [some (.ref 47)] m10 (fun r17 m15 => ((r17 = 0 → Q m15) ∧ (¬ (r17 = 0) → Q (mz_up m15 47 1 0))))) ∧ (¬ (r12 = 0) → ((l1 = (m10 37 1) → mz_gi X mz_sh 37 0 [some (.ref 47)] m10 (fun r26 m24 => ((r26 = 0 → Q m24) ∧ (¬ (r26 = 0) → Q (mz_up m24 47 1 0))))) ∧ (¬ (l1 = (m10 37 1)) → ((0 ≤ l1 → mz_gi X mz_sh 91 0 [some (.ref 50), some (.int l1)] m10 (fun r35 m33 => mz_gv X mz_sh 89 11 [some (.ref 50), some (.int r35), some (.int (l2 + 1))] m33 Q)) ∧ (¬ (0 ≤ l1) → mz_gi X mz_sh 31 0 [some (.int l1)] m10 (fun r39 m37 => mz_gi X mz_sh 90 0 [some (.ref 50), some (.int r39)] m37 (fun r42 m40 => mz_gv X mz_sh 89 11 [some (.ref 50), some (.int r42), some (.int (l2 + 1))] m40 Q)))))))))))) :
    mz_gv X mz_sh 89 11 [some (.ref 50), some (.int l1), some (.int l2)] m Q := by
  refine mz_go_blk mz_m89 5 (pc' := (if (m 47 2) < l2 then 70 else 22)) (L' := [some (.ref 50), some (.int l1), some (.int l2)]) (S' := []) (sh' := mz_sh) (m' := m) (g := true) rfl rfl (rfl) ?_
  refine mz_go_if (fun c1 => ?_) (fun c1 => ?_)
  · have h2 := h.1 c1
    refine mz_go_blk mz_m89 2 (pc' := 74) (L' := [some (.ref 50), some (.int l1), some (.int l2)]) (S' := [.ref 47]) (sh' := mz_sh) (m' := m) (g := true) rfl rfl (rfl) ?_
    refine mz_go_call mz_m89 mz_m37 rfl rfl rfl rfl rfl rfl rfl h2 (fun v sh1 m3 hv => ?_)
    obtain ⟨r5, rfl, rfl, h4⟩ := hv
    refine mz_go_blk mz_m89 1 (pc' := (if r5 = 0 then 88 else 80)) (L' := [some (.ref 50), some (.int l1), some (.int l2)]) (S' := []) (sh' := mz_sh) (m' := m3) (g := true) rfl rfl (rfl) ?_
    refine mz_go_if (fun c6 => ?_) (fun c6 => ?_)
    · have h7 := h4.1 c6
      exact mz_go_ret mz_m89 rfl rfl rfl ⟨rfl, rfl, h7⟩
    · have h8 := h4.2 c6
      refine mz_go_blk mz_m89 4 (pc' := 88) (L' := [some (.ref 50), some (.int l1), some (.int l2)]) (S' := []) (sh' := mz_sh) (m' := mz_up m3 47 1 0) (g := true) rfl rfl (rfl) ?_
      exact mz_go_ret mz_m89 rfl rfl rfl ⟨rfl, rfl, h8⟩
  · have h9 := h.2 c1
    refine mz_go_blk mz_m89 2 (pc' := 26) (L' := [some (.ref 50), some (.int l1), some (.int l2)]) (S' := [.ref 47]) (sh' := mz_sh) (m' := m) (g := true) rfl rfl (rfl) ?_
    refine mz_go_call mz_m89 mz_m37 rfl rfl rfl rfl rfl rfl rfl h9 (fun v sh1 m10 hv => ?_)
    obtain ⟨r12, rfl, rfl, h11⟩ := hv
    refine mz_go_blk mz_m89 1 (pc' := (if r12 = 0 then 70 else 32)) (L' := [some (.ref 50), some (.int l1), some (.int l2)]) (S' := []) (sh' := mz_sh) (m' := m10) (g := true) rfl rfl (rfl) ?_
    refine mz_go_if (fun c13 => ?_) (fun c13 => ?_)
    · have h14 := h11.1 c13
      refine mz_go_blk mz_m89 2 (pc' := 74) (L' := [some (.ref 50), some (.int l1), some (.int l2)]) (S' := [.ref 47]) (sh' := mz_sh) (m' := m10) (g := true) rfl rfl (rfl) ?_
      refine mz_go_call mz_m89 mz_m37 rfl rfl rfl rfl rfl rfl rfl h14 (fun v sh1 m15 hv => ?_)
      obtain ⟨r17, rfl, rfl, h16⟩ := hv
      refine mz_go_blk mz_m89 1 (pc' := (if r17 = 0 then 88 else 80)) (L' := [some (.ref 50), some (.int l1), some (.int l2)]) (S' := []) (sh' := mz_sh) (m' := m15) (g := true) rfl rfl (rfl) ?_
      refine mz_go_if (fun c18 => ?_) (fun c18 => ?_)
      · have h19 := h16.1 c18
        exact mz_go_ret mz_m89 rfl rfl rfl ⟨rfl, rfl, h19⟩
      · have h20 := h16.2 c18
        refine mz_go_blk mz_m89 4 (pc' := 88) (L' := [some (.ref 50), some (.int l1), some (.int l2)]) (S' := []) (sh' := mz_sh) (m' := mz_up m15 47 1 0) (g := true) rfl rfl (rfl) ?_
        exact mz_go_ret mz_m89 rfl rfl rfl ⟨rfl, rfl, h20⟩
    · have h21 := h11.2 c13
      refine mz_go_blk mz_m89 5 (pc' := (if l1 = (m10 37 1) then 70 else 43)) (L' := [some (.ref 50), some (.int l1), some (.int l2)]) (S' := []) (sh' := mz_sh) (m' := m10) (g := true) rfl rfl (rfl) ?_
      refine mz_go_if (fun c22 => ?_) (fun c22 => ?_)
      · have h23 := h21.1 c22
        refine mz_go_blk mz_m89 2 (pc' := 74) (L' := [some (.ref 50), some (.int l1), some (.int l2)]) (S' := [.ref 47]) (sh' := mz_sh) (m' := m10) (g := true) rfl rfl (rfl) ?_
        refine mz_go_call mz_m89 mz_m37 rfl rfl rfl rfl rfl rfl rfl h23 (fun v sh1 m24 hv => ?_)
        obtain ⟨r26, rfl, rfl, h25⟩ := hv
        refine mz_go_blk mz_m89 1 (pc' := (if r26 = 0 then 88 else 80)) (L' := [some (.ref 50), some (.int l1), some (.int l2)]) (S' := []) (sh' := mz_sh) (m' := m24) (g := true) rfl rfl (rfl) ?_
        refine mz_go_if (fun c27 => ?_) (fun c27 => ?_)
        · have h28 := h25.1 c27
          exact mz_go_ret mz_m89 rfl rfl rfl ⟨rfl, rfl, h28⟩
        · have h29 := h25.2 c27
          refine mz_go_blk mz_m89 4 (pc' := 88) (L' := [some (.ref 50), some (.int l1), some (.int l2)]) (S' := []) (sh' := mz_sh) (m' := mz_up m24 47 1 0) (g := true) rfl rfl (rfl) ?_
          exact mz_go_ret mz_m89 rfl rfl rfl ⟨rfl, rfl, h29⟩
      · have h30 := h21.2 c22
        refine mz_go_blk mz_m89 2 (pc' := (if 0 ≤ l1 then 58 else 47)) (L' := [some (.ref 50), some (.int l1), some (.int l2)]) (S' := []) (sh' := mz_sh) (m' := m10) (g := true) rfl rfl (rfl) ?_
        refine mz_go_if (fun c31 => ?_) (fun c31 => ?_)
        · have h32 := h30.1 c31
          refine mz_go_blk mz_m89 2 (pc' := 60) (L' := [some (.ref 50), some (.int l1), some (.int l2)]) (S' := [.int l1, .ref 50]) (sh' := mz_sh) (m' := m10) (g := true) rfl rfl (rfl) ?_
          refine mz_go_call mz_m89 mz_m91 rfl rfl rfl rfl rfl rfl rfl h32 (fun v sh1 m33 hv => ?_)
          obtain ⟨r35, rfl, rfl, h34⟩ := hv
          refine mz_go_blk mz_m89 3 (pc' := 11) (L' := [some (.ref 50), some (.int r35), some (.int (l2 + 1))]) (S' := []) (sh' := mz_sh) (m' := m33) (g := true) rfl rfl (rfl) ?_
          exact h34
        · have h36 := h30.2 c31
          refine mz_go_blk mz_m89 2 (pc' := 49) (L' := [some (.ref 50), some (.int l1), some (.int l2)]) (S' := [.int l1, .ref 50]) (sh' := mz_sh) (m' := m10) (g := true) rfl rfl (rfl) ?_
          refine mz_go_call mz_m89 mz_m31 rfl rfl rfl rfl rfl rfl rfl h36 (fun v sh1 m37 hv => ?_)
          obtain ⟨r39, rfl, rfl, h38⟩ := hv
          refine mz_go_call mz_m89 mz_m90 rfl rfl rfl rfl rfl rfl rfl h38 (fun v sh1 m40 hv => ?_)
          obtain ⟨r42, rfl, rfl, h41⟩ := hv
          refine mz_go_blk mz_m89 4 (pc' := 11) (L' := [some (.ref 50), some (.int r42), some (.int (l2 + 1))]) (S' := []) (sh' := mz_sh) (m' := m40) (g := true) rfl rfl (rfl) ?_
          exact h41
set_option maxRecDepth 100000 in
theorem t_E_goRound_0 {X : mz_X} {m : mz_M} {Q : Int32 → mz_M → Prop} (a1 : Int32)
    (h : mz_gi X mz_sh 38 0 [some (.ref 47), some (.int a1)] m (fun r3 m1 => ((r3 = 0 → Q (m1 37 1) m1) ∧ (¬ (r3 = 0) → mz_gv X mz_sh 94 0 [some (.ref 50), some (.int (a1 + 1)), none, none, none] m1 (fun m7 => (((m7 50 7) = 0 → mz_gi X mz_sh 33 0 [some (.ref 37), some (.int a1)] m7 (fun r13 m11 => Q r13 m11)) ∧ (¬ ((m7 50 7) = 0) → mz_gi X mz_sh 87 0 [some (.ref 30), some (.int (a1 + 1))] m7 (fun r17 m15 => mz_gi X mz_sh 32 0 [some (.ref 37), some (.int r17)] m15 (fun r20 m18 => Q r20 m18))))))))) :
    mz_gi X mz_sh 90 0 [some (.ref 50), some (.int a1)] m Q := by
  refine mz_go_blk mz_m90 3 (pc' := 5) (L' := [some (.ref 50), some (.int a1)]) (S' := [.int a1, .ref 47]) (sh' := mz_sh) (m' := m) (g := true) rfl rfl (rfl) ?_
  refine mz_go_call mz_m90 mz_m38 rfl rfl rfl rfl rfl rfl rfl h (fun v sh1 m1 hv => ?_)
  obtain ⟨r3, rfl, rfl, h2⟩ := hv
  refine mz_go_blk mz_m90 1 (pc' := (if r3 = 0 then 11 else 19)) (L' := [some (.ref 50), some (.int a1)]) (S' := []) (sh' := mz_sh) (m' := m1) (g := true) rfl rfl (rfl) ?_
  refine mz_go_if (fun c4 => ?_) (fun c4 => ?_)
  · have h5 := h2.1 c4
    refine mz_go_blk mz_m90 3 (pc' := 18) (L' := [some (.ref 50), some (.int a1)]) (S' := [.int (m1 37 1)]) (sh' := mz_sh) (m' := m1) (g := true) rfl rfl (rfl) ?_
    exact mz_go_ret mz_m90 rfl rfl rfl ⟨_, rfl, rfl, h5⟩
  · have h6 := h2.2 c4
    refine mz_go_blk mz_m90 4 (pc' := 23) (L' := [some (.ref 50), some (.int a1)]) (S' := [.int (a1 + 1), .ref 50]) (sh' := mz_sh) (m' := m1) (g := true) rfl rfl (rfl) ?_
    refine mz_go_call mz_m90 mz_m94 rfl rfl rfl rfl rfl rfl rfl h6 (fun v sh1 m7 hv => ?_)
    obtain ⟨rfl, rfl, h8⟩ := hv
    refine mz_go_blk mz_m90 3 (pc' := (if (m7 50 7) = 0 then 53 else 33)) (L' := [some (.ref 50), some (.int a1)]) (S' := []) (sh' := mz_sh) (m' := m7) (g := true) rfl rfl (rfl) ?_
    refine mz_go_if (fun c9 => ?_) (fun c9 => ?_)
    · have h10 := h8.1 c9
      refine mz_go_blk mz_m90 3 (pc' := 58) (L' := [some (.ref 50), some (.int a1)]) (S' := [.int a1, .ref 37]) (sh' := mz_sh) (m' := m7) (g := true) rfl rfl (rfl) ?_
      refine mz_go_call mz_m90 mz_m33 rfl rfl rfl rfl rfl rfl rfl h10 (fun v sh1 m11 hv => ?_)
      obtain ⟨r13, rfl, rfl, h12⟩ := hv
      exact mz_go_ret mz_m90 rfl rfl rfl ⟨_, rfl, rfl, h12⟩
    · have h14 := h8.2 c9
      refine mz_go_blk mz_m90 7 (pc' := 44) (L' := [some (.ref 50), some (.int a1)]) (S' := [.int (a1 + 1), .ref 30, .ref 37]) (sh' := mz_sh) (m' := m7) (g := true) rfl rfl (rfl) ?_
      refine mz_go_call mz_m90 mz_m87 rfl rfl rfl rfl rfl rfl rfl h14 (fun v sh1 m15 hv => ?_)
      obtain ⟨r17, rfl, rfl, h16⟩ := hv
      refine mz_go_call mz_m90 mz_m32 rfl rfl rfl rfl rfl rfl rfl h16 (fun v sh1 m18 hv => ?_)
      obtain ⟨r20, rfl, rfl, h19⟩ := hv
      refine mz_go_blk mz_m90 1 (pc' := 61) (L' := [some (.ref 50), some (.int a1)]) (S' := [.int r20]) (sh' := mz_sh) (m' := m18) (g := true) rfl rfl (rfl) ?_
      exact mz_go_ret mz_m90 rfl rfl rfl ⟨_, rfl, rfl, h19⟩
set_option maxRecDepth 100000 in
theorem t_E_goStatement_0 {X : mz_X} {m : mz_M} {Q : Int32 → mz_M → Prop} (a1 : Int32)
    (h : mz_gi X mz_sh 38 0 [some (.ref 47), some (.int a1)] m (fun r3 m1 => ((r3 = 0 → Q (m1 37 1) m1) ∧ (¬ (r3 = 0) → mz_inb a1 4001 = true ∧ (((m1 31 a1.toNatClampNeg) = 4 → mz_gi X mz_sh 31 0 [some (.int a1)] m1 (fun r13 m11 => Q r13 m11)) ∧ ((m1 31 a1.toNatClampNeg) = 5 → mz_inb a1 4001 = true ∧ mz_gi X mz_sh 33 0 [some (.ref 37), some (.int (m1 38 a1.toNatClampNeg))] m1 (fun r21 m19 => Q r21 m19)) ∧ ((m1 31 a1.toNatClampNeg) = 6 → mz_inb a1 4001 = true ∧ mz_gi X mz_sh 31 0 [some (.int (m1 38 a1.toNatClampNeg))] m1 (fun r29 m27 => Q r29 m27)) ∧ (¬ (m1 31 a1.toNatClampNeg) = 4 → ¬ (m1 31 a1.toNatClampNeg) = 5 → ¬ (m1 31 a1.toNatClampNeg) = 6 → mz_gv X mz_sh 94 0 [some (.ref 50), some (.int (a1 + 1)), none, none, none] m1 (fun m31 => mz_gi X mz_sh 37 0 [some (.ref 47)] m31 (fun r35 m33 => ((r35 = 0 → Q (m33 37 1) m33) ∧ (¬ (r35 = 0) → mz_gi X mz_sh 92 0 [some (.ref 50), some (.int a1)] m33 (fun r41 m39 => Q r41 m39))))))))))) :
    mz_gi X mz_sh 91 0 [some (.ref 50), some (.int a1)] m Q := by
  refine mz_go_blk mz_m91 3 (pc' := 5) (L' := [some (.ref 50), some (.int a1)]) (S' := [.int a1, .ref 47]) (sh' := mz_sh) (m' := m) (g := true) rfl rfl (rfl) ?_
  refine mz_go_call mz_m91 mz_m38 rfl rfl rfl rfl rfl rfl rfl h (fun v sh1 m1 hv => ?_)
  obtain ⟨r3, rfl, rfl, h2⟩ := hv
  refine mz_go_blk mz_m91 1 (pc' := (if r3 = 0 then 11 else 19)) (L' := [some (.ref 50), some (.int a1)]) (S' := []) (sh' := mz_sh) (m' := m1) (g := true) rfl rfl (rfl) ?_
  refine mz_go_if (fun c4 => ?_) (fun c4 => ?_)
  · have h5 := h2.1 c4
    refine mz_go_blk mz_m91 3 (pc' := 18) (L' := [some (.ref 50), some (.int a1)]) (S' := [.int (m1 37 1)]) (sh' := mz_sh) (m' := m1) (g := true) rfl rfl (rfl) ?_
    exact mz_go_ret mz_m91 rfl rfl rfl ⟨_, rfl, rfl, h5⟩
  · have h6 := h2.2 c4
    obtain ⟨g7, h8⟩ := h6
    refine mz_go_blk mz_m91 6 (pc' := (mz_tsw 28 63 4 6 #[28, 33, 50] (m1 31 a1.toNatClampNeg))) (L' := [some (.ref 50), some (.int a1)]) (S' := []) (sh' := mz_sh) (m' := m1) (g := mz_inb a1 4001 && true) rfl rfl (mz_and2 (g7) (rfl)) ?_
    by_cases c10 : (m1 31 a1.toNatClampNeg) = 4
    · have h9 := h8.1 c10
      rw [show mz_tsw 28 63 4 6 #[28, 33, 50] (m1 31 a1.toNatClampNeg) = 56 by rw [c10]; decide +kernel]
      refine mz_go_blk mz_m91 1 (pc' := 57) (L' := [some (.ref 50), some (.int a1)]) (S' := [.int a1]) (sh' := mz_sh) (m' := m1) (g := true) rfl rfl (rfl) ?_
      refine mz_go_call mz_m91 mz_m31 rfl rfl rfl rfl rfl rfl rfl h9 (fun v sh1 m11 hv => ?_)
      obtain ⟨r13, rfl, rfl, h12⟩ := hv
      exact mz_go_ret mz_m91 rfl rfl rfl ⟨_, rfl, rfl, h12⟩
    have h14 := h8.2
    by_cases c16 : (m1 31 a1.toNatClampNeg) = 5
    · have h15 := h14.1 c16
      rw [show mz_tsw 28 63 4 6 #[28, 33, 50] (m1 31 a1.toNatClampNeg) = 61 by rw [c16]; decide +kernel]
      obtain ⟨g17, h18⟩ := h15
      refine mz_go_blk mz_m91 7 (pc' := 74) (L' := [some (.ref 50), some (.int a1)]) (S' := [.int (m1 38 a1.toNatClampNeg), .ref 37]) (sh' := mz_sh) (m' := m1) (g := mz_inb a1 4001 && true) rfl rfl (mz_and2 (g17) (rfl)) ?_
      refine mz_go_call mz_m91 mz_m33 rfl rfl rfl rfl rfl rfl rfl h18 (fun v sh1 m19 hv => ?_)
      obtain ⟨r21, rfl, rfl, h20⟩ := hv
      exact mz_go_ret mz_m91 rfl rfl rfl ⟨_, rfl, rfl, h20⟩
    have h22 := h14.2
    by_cases c24 : (m1 31 a1.toNatClampNeg) = 6
    · have h23 := h22.1 c24
      rw [show mz_tsw 28 63 4 6 #[28, 33, 50] (m1 31 a1.toNatClampNeg) = 78 by rw [c24]; decide +kernel]
      obtain ⟨g25, h26⟩ := h23
      refine mz_go_blk mz_m91 5 (pc' := 87) (L' := [some (.ref 50), some (.int a1)]) (S' := [.int (m1 38 a1.toNatClampNeg)]) (sh' := mz_sh) (m' := m1) (g := mz_inb a1 4001 && true) rfl rfl (mz_and2 (g25) (rfl)) ?_
      refine mz_go_call mz_m91 mz_m31 rfl rfl rfl rfl rfl rfl rfl h26 (fun v sh1 m27 hv => ?_)
      obtain ⟨r29, rfl, rfl, h28⟩ := hv
      exact mz_go_ret mz_m91 rfl rfl rfl ⟨_, rfl, rfl, h28⟩
    have h30 := h22.2
    have h30d := h30 c10 c16 c24
    rw [show mz_tsw 28 63 4 6 #[28, 33, 50] (m1 31 a1.toNatClampNeg) = 91 from (by
        refine mz_tswd _ _ _ _ _ (m1 31 a1.toNatClampNeg) 91 (by decide +kernel) (fun k hk z => ?_)
        match k, hk, z with
        | 0, _, z => exact absurd (mz_tI (by rw [z]; decide +kernel)) c10
        | 1, _, z => exact absurd (mz_tI (by rw [z]; decide +kernel)) c16
        | 2, _, z => exact absurd (mz_tI (by rw [z]; decide +kernel)) c24
        | k + 3, hk, _ => exact absurd hk (by simp only [Array.size]; simp)
      )]
    refine mz_go_blk mz_m91 4 (pc' := 95) (L' := [some (.ref 50), some (.int a1)]) (S' := [.int (a1 + 1), .ref 50]) (sh' := mz_sh) (m' := m1) (g := true) rfl rfl (rfl) ?_
    refine mz_go_call mz_m91 mz_m94 rfl rfl rfl rfl rfl rfl rfl h30d (fun v sh1 m31 hv => ?_)
    obtain ⟨rfl, rfl, h32⟩ := hv
    refine mz_go_blk mz_m91 2 (pc' := 102) (L' := [some (.ref 50), some (.int a1)]) (S' := [.ref 47]) (sh' := mz_sh) (m' := m31) (g := true) rfl rfl (rfl) ?_
    refine mz_go_call mz_m91 mz_m37 rfl rfl rfl rfl rfl rfl rfl h32 (fun v sh1 m33 hv => ?_)
    obtain ⟨r35, rfl, rfl, h34⟩ := hv
    refine mz_go_blk mz_m91 1 (pc' := (if r35 = 0 then 116 else 108)) (L' := [some (.ref 50), some (.int a1)]) (S' := []) (sh' := mz_sh) (m' := m33) (g := true) rfl rfl (rfl) ?_
    refine mz_go_if (fun c36 => ?_) (fun c36 => ?_)
    · have h37 := h34.1 c36
      refine mz_go_blk mz_m91 3 (pc' := 123) (L' := [some (.ref 50), some (.int a1)]) (S' := [.int (m33 37 1)]) (sh' := mz_sh) (m' := m33) (g := true) rfl rfl (rfl) ?_
      exact mz_go_ret mz_m91 rfl rfl rfl ⟨_, rfl, rfl, h37⟩
    · have h38 := h34.2 c36
      refine mz_go_blk mz_m91 2 (pc' := 110) (L' := [some (.ref 50), some (.int a1)]) (S' := [.int a1, .ref 50]) (sh' := mz_sh) (m' := m33) (g := true) rfl rfl (rfl) ?_
      refine mz_go_call mz_m91 mz_m92 rfl rfl rfl rfl rfl rfl rfl h38 (fun v sh1 m39 hv => ?_)
      obtain ⟨r41, rfl, rfl, h40⟩ := hv
      refine mz_go_blk mz_m91 1 (pc' := 123) (L' := [some (.ref 50), some (.int a1)]) (S' := [.int r41]) (sh' := mz_sh) (m' := m39) (g := true) rfl rfl (rfl) ?_
      exact mz_go_ret mz_m91 rfl rfl rfl ⟨_, rfl, rfl, h40⟩
set_option maxRecDepth 100000 in
theorem t_E_useResult_0 {X : mz_X} {m : mz_M} {Q : Int32 → mz_M → Prop} (a1 : Int32)
    (h : mz_inb a1 4001 = true ∧ (((m 31 a1.toNatClampNeg) = 3 → mz_gi X mz_sh 93 0 [some (.ref 50), some (.int a1), none] m (fun r7 m5 => Q r7 m5)) ∧ (¬ ((m 31 a1.toNatClampNeg) = 3) → mz_inb a1 4001 = true ∧ (((m 31 a1.toNatClampNeg) = 1 → mz_inb a1 4001 = true ∧ mz_inb (m 32 a1.toNatClampNeg) 4001 = true ∧ mz_gv X mz_sh 42 0 [some (.ref 47), some (.int (m 6 ((m 32 a1.toNatClampNeg).toNatClampNeg))), some (.int (m 50 7))] m (fun m16 => mz_gi X mz_sh 33 0 [some (.ref 37), some (.int a1)] m16 (fun r20 m18 => Q r20 m18))) ∧ (¬ ((m 31 a1.toNatClampNeg) = 1) → mz_gv X mz_sh 39 0 [some (.ref 47), some (.int (m 50 7))] m (fun m22 => mz_gi X mz_sh 33 0 [some (.ref 37), some (.int a1)] m22 (fun r26 m24 => Q r26 m24))))))) :
    mz_gi X mz_sh 92 0 [some (.ref 50), some (.int a1)] m Q := by
  obtain ⟨g1, h2⟩ := h
  refine mz_go_blk mz_m92 7 (pc' := (if (m 31 a1.toNatClampNeg) = 3 then 13 else 19)) (L' := [some (.ref 50), some (.int a1)]) (S' := []) (sh' := mz_sh) (m' := m) (g := mz_inb a1 4001 && true) rfl rfl (mz_and2 (g1) (rfl)) ?_
  refine mz_go_if (fun c3 => ?_) (fun c3 => ?_)
  · have h4 := h2.1 c3
    refine mz_go_blk mz_m92 2 (pc' := 15) (L' := [some (.ref 50), some (.int a1)]) (S' := [.int a1, .ref 50]) (sh' := mz_sh) (m' := m) (g := true) rfl rfl (rfl) ?_
    refine mz_go_call mz_m92 mz_m93 rfl rfl rfl rfl rfl rfl rfl h4 (fun v sh1 m5 hv => ?_)
    obtain ⟨r7, rfl, rfl, h6⟩ := hv
    exact mz_go_ret mz_m92 rfl rfl rfl ⟨_, rfl, rfl, h6⟩
  · have h8 := h2.2 c3
    obtain ⟨g9, h10⟩ := h8
    refine mz_go_blk mz_m92 7 (pc' := (if (m 31 a1.toNatClampNeg) = 1 then 32 else 63)) (L' := [some (.ref 50), some (.int a1)]) (S' := []) (sh' := mz_sh) (m' := m) (g := mz_inb a1 4001 && true) rfl rfl (mz_and2 (g9) (rfl)) ?_
    refine mz_go_if (fun c11 => ?_) (fun c11 => ?_)
    · have h12 := h10.1 c11
      obtain ⟨g13, g14, h15⟩ := h12
      refine mz_go_blk mz_m92 13 (pc' := 57) (L' := [some (.ref 50), some (.int a1)]) (S' := [.int (m 50 7), .int (m 6 ((m 32 a1.toNatClampNeg).toNatClampNeg)), .ref 47]) (sh' := mz_sh) (m' := m) (g := mz_inb (m 32 a1.toNatClampNeg) 4001 && (mz_inb a1 4001 && true)) rfl rfl (mz_and2 (g14) (mz_and2 (g13) (rfl))) ?_
      refine mz_go_call mz_m92 mz_m42 rfl rfl rfl rfl rfl rfl rfl h15 (fun v sh1 m16 hv => ?_)
      obtain ⟨rfl, rfl, h17⟩ := hv
      refine mz_go_blk mz_m92 4 (pc' := 79) (L' := [some (.ref 50), some (.int a1)]) (S' := [.int a1, .ref 37]) (sh' := mz_sh) (m' := m16) (g := true) rfl rfl (rfl) ?_
      refine mz_go_call mz_m92 mz_m33 rfl rfl rfl rfl rfl rfl rfl h17 (fun v sh1 m18 hv => ?_)
      obtain ⟨r20, rfl, rfl, h19⟩ := hv
      exact mz_go_ret mz_m92 rfl rfl rfl ⟨_, rfl, rfl, h19⟩
    · have h21 := h10.2 c11
      refine mz_go_blk mz_m92 4 (pc' := 71) (L' := [some (.ref 50), some (.int a1)]) (S' := [.int (m 50 7), .ref 47]) (sh' := mz_sh) (m' := m) (g := true) rfl rfl (rfl) ?_
      refine mz_go_call mz_m92 mz_m39 rfl rfl rfl rfl rfl rfl rfl h21 (fun v sh1 m22 hv => ?_)
      obtain ⟨rfl, rfl, h23⟩ := hv
      refine mz_go_blk mz_m92 3 (pc' := 79) (L' := [some (.ref 50), some (.int a1)]) (S' := [.int a1, .ref 37]) (sh' := mz_sh) (m' := m22) (g := true) rfl rfl (rfl) ?_
      refine mz_go_call mz_m92 mz_m33 rfl rfl rfl rfl rfl rfl rfl h23 (fun v sh1 m24 hv => ?_)
      obtain ⟨r26, rfl, rfl, h25⟩ := hv
      exact mz_go_ret mz_m92 rfl rfl rfl ⟨_, rfl, rfl, h25⟩
set_option maxRecDepth 100000 in
theorem t_E_chooseList_0 {X : mz_X} {m : mz_M} {Q : Int32 → mz_M → Prop} (a1 : Int32)
    (h : mz_gi X mz_sh 87 0 [some (.ref 30), some (.int (a1 + 1))] m (fun r3 m1 => (((m1 50 7) = 0 → mz_inb a1 4001 = true ∧ (((m1 33 a1.toNatClampNeg) = 3 → mz_gi X mz_sh 87 0 [some (.ref 30), some (.int r3)] m1 (fun r12 m10 => mz_gi X mz_sh 32 0 [some (.ref 37), some (.int r12)] m10 (fun r15 m13 => Q r15 m13))) ∧ (¬ ((m1 33 a1.toNatClampNeg) = 3) → mz_gi X mz_sh 33 0 [some (.ref 37), some (.int a1)] m1 (fun r19 m17 => Q r19 m17)))) ∧ (¬ ((m1 50 7) = 0) → mz_gi X mz_sh 32 0 [some (.ref 37), some (.int r3)] m1 (fun r23 m21 => Q r23 m21))))) :
    mz_gi X mz_sh 93 0 [some (.ref 50), some (.int a1), none] m Q := by
  refine mz_go_blk mz_m93 5 (pc' := 7) (L' := [some (.ref 50), some (.int a1), none]) (S' := [.int (a1 + 1), .ref 30]) (sh' := mz_sh) (m' := m) (g := true) rfl rfl (rfl) ?_
  refine mz_go_call mz_m93 mz_m87 rfl rfl rfl rfl rfl rfl rfl h (fun v sh1 m1 hv => ?_)
  obtain ⟨r3, rfl, rfl, h2⟩ := hv
  refine mz_go_blk mz_m93 4 (pc' := (if (m1 50 7) = 0 then 27 else 18)) (L' := [some (.ref 50), some (.int a1), some (.int r3)]) (S' := []) (sh' := mz_sh) (m' := m1) (g := true) rfl rfl (rfl) ?_
  refine mz_go_if (fun c4 => ?_) (fun c4 => ?_)
  · have h5 := h2.1 c4
    obtain ⟨g6, h7⟩ := h5
    refine mz_go_blk mz_m93 7 (pc' := (if (m1 33 a1.toNatClampNeg) = 3 then 40 else 58)) (L' := [some (.ref 50), some (.int a1), some (.int r3)]) (S' := []) (sh' := mz_sh) (m' := m1) (g := mz_inb a1 4001 && true) rfl rfl (mz_and2 (g6) (rfl)) ?_
    refine mz_go_if (fun c8 => ?_) (fun c8 => ?_)
    · have h9 := h7.1 c8
      refine mz_go_blk mz_m93 5 (pc' := 49) (L' := [some (.ref 50), some (.int a1), some (.int r3)]) (S' := [.int r3, .ref 30, .ref 37]) (sh' := mz_sh) (m' := m1) (g := true) rfl rfl (rfl) ?_
      refine mz_go_call mz_m93 mz_m87 rfl rfl rfl rfl rfl rfl rfl h9 (fun v sh1 m10 hv => ?_)
      obtain ⟨r12, rfl, rfl, h11⟩ := hv
      refine mz_go_call mz_m93 mz_m32 rfl rfl rfl rfl rfl rfl rfl h11 (fun v sh1 m13 hv => ?_)
      obtain ⟨r15, rfl, rfl, h14⟩ := hv
      refine mz_go_blk mz_m93 1 (pc' := 66) (L' := [some (.ref 50), some (.int a1), some (.int r3)]) (S' := [.int r15]) (sh' := mz_sh) (m' := m13) (g := true) rfl rfl (rfl) ?_
      exact mz_go_ret mz_m93 rfl rfl rfl ⟨_, rfl, rfl, h14⟩
    · have h16 := h7.2 c8
      refine mz_go_blk mz_m93 3 (pc' := 63) (L' := [some (.ref 50), some (.int a1), some (.int r3)]) (S' := [.int a1, .ref 37]) (sh' := mz_sh) (m' := m1) (g := true) rfl rfl (rfl) ?_
      refine mz_go_call mz_m93 mz_m33 rfl rfl rfl rfl rfl rfl rfl h16 (fun v sh1 m17 hv => ?_)
      obtain ⟨r19, rfl, rfl, h18⟩ := hv
      exact mz_go_ret mz_m93 rfl rfl rfl ⟨_, rfl, rfl, h18⟩
  · have h20 := h2.2 c4
    refine mz_go_blk mz_m93 3 (pc' := 23) (L' := [some (.ref 50), some (.int a1), some (.int r3)]) (S' := [.int r3, .ref 37]) (sh' := mz_sh) (m' := m1) (g := true) rfl rfl (rfl) ?_
    refine mz_go_call mz_m93 mz_m32 rfl rfl rfl rfl rfl rfl rfl h20 (fun v sh1 m21 hv => ?_)
    obtain ⟨r23, rfl, rfl, h22⟩ := hv
    exact mz_go_ret mz_m93 rfl rfl rfl ⟨_, rfl, rfl, h22⟩
set_option maxRecDepth 100000 in
theorem t_E_evaluate_0 {X : mz_X} {m : mz_M} {Q : mz_M → Prop} (a1 : Int32)
    (h : mz_gi X mz_sh 87 0 [some (.ref 30), some (.int a1)] (mz_up (mz_up m 50 6 0) 50 7 0) (fun r3 m1 => mz_gv X mz_sh 94 24 [some (.ref 50), none, some (.int r3), some (.int a1), some (.int 0)] m1 Q)) :
    mz_gv X mz_sh 94 0 [some (.ref 50), some (.int a1), none, none, none] m Q := by
  refine mz_go_blk mz_m94 9 (pc' := 15) (L' := [some (.ref 50), some (.int a1), none, none, none]) (S' := [.int a1, .ref 30]) (sh' := mz_sh) (m' := mz_up (mz_up m 50 6 0) 50 7 0) (g := true) rfl rfl (rfl) ?_
  refine mz_go_call mz_m94 mz_m87 rfl rfl rfl rfl rfl rfl rfl h (fun v sh1 m1 hv => ?_)
  obtain ⟨r3, rfl, rfl, h2⟩ := hv
  refine mz_go_blk mz_m94 5 (pc' := 24) (L' := [some (.ref 50), some (.int a1), some (.int r3), some (.int a1), some (.int 0)]) (S' := []) (sh' := mz_sh) (m' := m1) (g := true) rfl rfl (rfl) ?_
  exact mz_go.forget (L := [some (.ref 50), none, some (.int r3), some (.int a1), some (.int 0)]) (mz_lel_cons rfl (mz_lel_cons trivial (mz_lel_cons rfl (mz_lel_cons rfl (mz_lel_cons rfl (mz_lel_nil)))))) h2
set_option maxRecDepth 100000 in
theorem t_E_evaluate_1 {X : mz_X} {m : mz_M} {Q : mz_M → Prop} (l2 : Int32) (l3 : Int32) (l4 : Int32)
    (h : ((4001 ≤ l4 → Q m) ∧ (¬ (4001 ≤ l4) → ((l2 ≤ l3 → Q m) ∧ (¬ (l2 ≤ l3) → mz_gi X mz_sh 37 0 [some (.ref 47)] m (fun r9 m7 => ((r9 = 0 → Q m7) ∧ (¬ (r9 = 0) → mz_gi X mz_sh 38 0 [some (.ref 47), some (.int l3)] m7 (fun r15 m13 => ((r15 = 0 → Q m13) ∧ (¬ (r15 = 0) → mz_inb l3 4001 = true ∧ (((m13 33 l3.toNatClampNeg) = 0 → mz_gi X mz_sh 96 0 [some (.ref 50), some (.int l3), none] m13 (fun r25 m23 => mz_gi X mz_sh 97 0 [some (.ref 50), some (.int r25), some (.int (l3 + 1)), none, none, none, none] m23 (fun r28 m26 => mz_gv X mz_sh 94 24 [some (.ref 50), none, some (.int l2), some (.int r28), some (.int (l4 + 1))] m26 Q))) ∧ (¬ ((m13 33 l3.toNatClampNeg) = 0) → mz_gv X mz_sh 95 0 [some (.ref 50), some (.int l3)] m13 (fun m30 => mz_gv X mz_sh 94 24 [some (.ref 50), none, some (.int l2), some (.int (l3 + 1)), some (.int (l4 + 1))] m30 Q)))))))))))))) :
    mz_gv X mz_sh 94 24 [some (.ref 50), none, some (.int l2), some (.int l3), some (.int l4)] m Q := by
  refine mz_go_blk mz_m94 3 (pc' := (if 4001 ≤ l4 then 101 else 32)) (L' := [some (.ref 50), none, some (.int l2), some (.int l3), some (.int l4)]) (S' := []) (sh' := mz_sh) (m' := m) (g := true) rfl rfl (rfl) ?_
  refine mz_go_if (fun c1 => ?_) (fun c1 => ?_)
  · have h2 := h.1 c1
    exact mz_go_ret mz_m94 rfl rfl rfl ⟨rfl, rfl, h2⟩
  · have h3 := h.2 c1
    refine mz_go_blk mz_m94 3 (pc' := (if l2 ≤ l3 then 101 else 37)) (L' := [some (.ref 50), none, some (.int l2), some (.int l3), some (.int l4)]) (S' := []) (sh' := mz_sh) (m' := m) (g := true) rfl rfl (rfl) ?_
    refine mz_go_if (fun c4 => ?_) (fun c4 => ?_)
    · have h5 := h3.1 c4
      exact mz_go_ret mz_m94 rfl rfl rfl ⟨rfl, rfl, h5⟩
    · have h6 := h3.2 c4
      refine mz_go_blk mz_m94 2 (pc' := 41) (L' := [some (.ref 50), none, some (.int l2), some (.int l3), some (.int l4)]) (S' := [.ref 47]) (sh' := mz_sh) (m' := m) (g := true) rfl rfl (rfl) ?_
      refine mz_go_call mz_m94 mz_m37 rfl rfl rfl rfl rfl rfl rfl h6 (fun v sh1 m7 hv => ?_)
      obtain ⟨r9, rfl, rfl, h8⟩ := hv
      refine mz_go_blk mz_m94 1 (pc' := (if r9 = 0 then 101 else 47)) (L' := [some (.ref 50), none, some (.int l2), some (.int l3), some (.int l4)]) (S' := []) (sh' := mz_sh) (m' := m7) (g := true) rfl rfl (rfl) ?_
      refine mz_go_if (fun c10 => ?_) (fun c10 => ?_)
      · have h11 := h8.1 c10
        exact mz_go_ret mz_m94 rfl rfl rfl ⟨rfl, rfl, h11⟩
      · have h12 := h8.2 c10
        refine mz_go_blk mz_m94 3 (pc' := 52) (L' := [some (.ref 50), none, some (.int l2), some (.int l3), some (.int l4)]) (S' := [.int l3, .ref 47]) (sh' := mz_sh) (m' := m7) (g := true) rfl rfl (rfl) ?_
        refine mz_go_call mz_m94 mz_m38 rfl rfl rfl rfl rfl rfl rfl h12 (fun v sh1 m13 hv => ?_)
        obtain ⟨r15, rfl, rfl, h14⟩ := hv
        refine mz_go_blk mz_m94 1 (pc' := (if r15 = 0 then 58 else 59)) (L' := [some (.ref 50), none, some (.int l2), some (.int l3), some (.int l4)]) (S' := []) (sh' := mz_sh) (m' := m13) (g := true) rfl rfl (rfl) ?_
        refine mz_go_if (fun c16 => ?_) (fun c16 => ?_)
        · have h17 := h14.1 c16
          exact mz_go_ret mz_m94 rfl rfl rfl ⟨rfl, rfl, h17⟩
        · have h18 := h14.2 c16
          obtain ⟨g19, h20⟩ := h18
          refine mz_go_blk mz_m94 6 (pc' := (if (m13 33 l3.toNatClampNeg) = 0 then 71 else 87)) (L' := [some (.ref 50), none, some (.int l2), some (.int l3), some (.int l4)]) (S' := []) (sh' := mz_sh) (m' := m13) (g := mz_inb l3 4001 && true) rfl rfl (mz_and2 (g19) (rfl)) ?_
          refine mz_go_if (fun c21 => ?_) (fun c21 => ?_)
          · have h22 := h20.1 c21
            refine mz_go_blk mz_m94 3 (pc' := 74) (L' := [some (.ref 50), none, some (.int l2), some (.int l3), some (.int l4)]) (S' := [.int l3, .ref 50, .ref 50]) (sh' := mz_sh) (m' := m13) (g := true) rfl rfl (rfl) ?_
            refine mz_go_call mz_m94 mz_m96 rfl rfl rfl rfl rfl rfl rfl h22 (fun v sh1 m23 hv => ?_)
            obtain ⟨r25, rfl, rfl, h24⟩ := hv
            refine mz_go_blk mz_m94 3 (pc' := 80) (L' := [some (.ref 50), none, some (.int l2), some (.int l3), some (.int l4)]) (S' := [.int (l3 + 1), .int r25, .ref 50]) (sh' := mz_sh) (m' := m23) (g := true) rfl rfl (rfl) ?_
            refine mz_go_call mz_m94 mz_m97 rfl rfl rfl rfl rfl rfl rfl h24 (fun v sh1 m26 hv => ?_)
            obtain ⟨r28, rfl, rfl, h27⟩ := hv
            refine mz_go_blk mz_m94 4 (pc' := 24) (L' := [some (.ref 50), none, some (.int l2), some (.int r28), some (.int (l4 + 1))]) (S' := []) (sh' := mz_sh) (m' := m26) (g := true) rfl rfl (rfl) ?_
            exact h27
          · have h29 := h20.2 c21
            refine mz_go_blk mz_m94 2 (pc' := 89) (L' := [some (.ref 50), none, some (.int l2), some (.int l3), some (.int l4)]) (S' := [.int l3, .ref 50]) (sh' := mz_sh) (m' := m13) (g := true) rfl rfl (rfl) ?_
            refine mz_go_call mz_m94 mz_m95 rfl rfl rfl rfl rfl rfl rfl h29 (fun v sh1 m30 hv => ?_)
            obtain ⟨rfl, rfl, h31⟩ := hv
            refine mz_go_blk mz_m94 3 (pc' := 24) (L' := [some (.ref 50), none, some (.int l2), some (.int (l3 + 1)), some (.int (l4 + 1))]) (S' := []) (sh' := mz_sh) (m' := m30) (g := true) rfl rfl (rfl) ?_
            exact h31
set_option maxRecDepth 100000 in
theorem t_E_waitForParts_0 {X : mz_X} {m : mz_M} {Q : mz_M → Prop} (a1 : Int32)
    (h : ((200 ≤ (m 50 6) → Q m) ∧ (¬ (200 ≤ (m 50 6)) → mz_inb (m 50 6) 200 = true ∧ Q (mz_up (mz_up m 51 ((m 50 6).toNatClampNeg) a1) 50 6 ((m 50 6) + 1))))) :
    mz_gv X mz_sh 95 0 [some (.ref 50), some (.int a1)] m Q := by
  refine mz_go_blk mz_m95 4 (pc' := (if 200 ≤ (m 50 6) then 30 else 10)) (L' := [some (.ref 50), some (.int a1)]) (S' := []) (sh' := mz_sh) (m' := m) (g := true) rfl rfl (rfl) ?_
  refine mz_go_if (fun c1 => ?_) (fun c1 => ?_)
  · have h2 := h.1 c1
    exact mz_go_ret mz_m95 rfl rfl rfl ⟨rfl, rfl, h2⟩
  · have h3 := h.2 c1
    obtain ⟨g4, h5⟩ := h3
    refine mz_go_blk mz_m95 12 (pc' := 30) (L' := [some (.ref 50), some (.int a1)]) (S' := []) (sh' := mz_sh) (m' := mz_up (mz_up m 51 ((m 50 6).toNatClampNeg) a1) 50 6 ((m 50 6) + 1)) (g := mz_inb (m 50 6) 200 && true) rfl rfl (mz_and2 (g4) (rfl)) ?_
    exact mz_go_ret mz_m95 rfl rfl rfl ⟨rfl, rfl, h5⟩
set_option maxRecDepth 100000 in
theorem t_E_worthOf_0 {X : mz_X} {m : mz_M} {Q : Int32 → mz_M → Prop} (a1 : Int32)
    (h : mz_inb a1 4001 = true ∧ mz_inb (m 32 a1.toNatClampNeg) 4001 = true ∧ mz_inb a1 4001 = true ∧ (((m 31 a1.toNatClampNeg) = 18 → mz_gi X mz_sh 41 0 [some (.ref 47), some (.int (m 6 ((m 32 a1.toNatClampNeg).toNatClampNeg)))] m (fun r9 m7 => Q r9 m7)) ∧ (¬ ((m 31 a1.toNatClampNeg) = 18) → Q (m 6 ((m 32 a1.toNatClampNeg).toNatClampNeg)) m))) :
    mz_gi X mz_sh 96 0 [some (.ref 50), some (.int a1), none] m Q := by
  obtain ⟨g1, g2, g3, h4⟩ := h
  refine mz_go_blk mz_m96 17 (pc' := (if (m 31 a1.toNatClampNeg) = 18 then 32 else 43)) (L' := [some (.ref 50), some (.int a1), some (.int (m 6 ((m 32 a1.toNatClampNeg).toNatClampNeg)))]) (S' := []) (sh' := mz_sh) (m' := m) (g := mz_inb a1 4001 && (mz_inb (m 32 a1.toNatClampNeg) 4001 && (mz_inb a1 4001 && true))) rfl rfl (mz_and2 (g3) (mz_and2 (g2) (mz_and2 (g1) (rfl)))) ?_
  refine mz_go_if (fun c5 => ?_) (fun c5 => ?_)
  · have h6 := h4.1 c5
    refine mz_go_blk mz_m96 3 (pc' := 37) (L' := [some (.ref 50), some (.int a1), some (.int (m 6 ((m 32 a1.toNatClampNeg).toNatClampNeg)))]) (S' := [.int (m 6 ((m 32 a1.toNatClampNeg).toNatClampNeg)), .ref 47]) (sh' := mz_sh) (m' := m) (g := true) rfl rfl (rfl) ?_
    refine mz_go_call mz_m96 mz_m41 rfl rfl rfl rfl rfl rfl rfl h6 (fun v sh1 m7 hv => ?_)
    obtain ⟨r9, rfl, rfl, h8⟩ := hv
    refine mz_go_blk mz_m96 1 (pc' := 44) (L' := [some (.ref 50), some (.int a1), some (.int (m 6 ((m 32 a1.toNatClampNeg).toNatClampNeg)))]) (S' := [.int r9]) (sh' := mz_sh) (m' := m7) (g := true) rfl rfl (rfl) ?_
    exact mz_go_ret mz_m96 rfl rfl rfl ⟨_, rfl, rfl, h8⟩
  · have h10 := h4.2 c5
    refine mz_go_blk mz_m96 1 (pc' := 44) (L' := [some (.ref 50), some (.int a1), some (.int (m 6 ((m 32 a1.toNatClampNeg).toNatClampNeg)))]) (S' := [.int (m 6 ((m 32 a1.toNatClampNeg).toNatClampNeg))]) (sh' := mz_sh) (m' := m) (g := true) rfl rfl (rfl) ?_
    exact mz_go_ret mz_m96 rfl rfl rfl ⟨_, rfl, rfl, h10⟩
set_option maxRecDepth 100000 in
theorem t_E_settle_0 {X : mz_X} {m : mz_M} {Q : Int32 → mz_M → Prop} (a1 : Int32) (a2 : Int32)
    (h : mz_gi X mz_sh 97 5 [some (.ref 50), none, none, some (.int a1), some (.int a2), none, none] m Q) :
    mz_gi X mz_sh 97 0 [some (.ref 50), some (.int a1), some (.int a2), none, none, none, none] m Q := by
  refine mz_go_blk mz_m97 4 (pc' := 5) (L' := [some (.ref 50), some (.int a1), some (.int a2), some (.int a1), some (.int a2), none, none]) (S' := []) (sh' := mz_sh) (m' := m) (g := true) rfl rfl (rfl) ?_
  exact mz_go.forget (L := [some (.ref 50), none, none, some (.int a1), some (.int a2), none, none]) (mz_lel_cons rfl (mz_lel_cons trivial (mz_lel_cons trivial (mz_lel_cons rfl (mz_lel_cons rfl (mz_lel_cons trivial (mz_lel_cons trivial (mz_lel_nil)))))))) h
set_option maxRecDepth 100000 in
theorem t_E_settle_1 {X : mz_X} {m : mz_M} {Q : Int32 → mz_M → Prop} (l3 : Int32) (l4 : Int32)
    (h : (((m 50 6) ≤ 0 → Q l4 (mz_up m 50 7 l3)) ∧ (¬ ((m 50 6) ≤ 0) → mz_gi X mz_sh 37 0 [some (.ref 47)] m (fun r6 m4 => ((r6 = 0 → Q l4 (mz_up m4 50 7 l3)) ∧ (¬ (r6 = 0) → mz_inb ((m4 50 6) - 1) 200 = true ∧ mz_gi X mz_sh 87 0 [some (.ref 30), some (.int (m4 51 (((m4 50 6) - 1).toNatClampNeg)))] m4 (fun r14 m12 => ((r14 ≤ l4 → mz_inb (m4 51 (((m4 50 6) - 1).toNatClampNeg)) 4001 = true ∧ mz_gi X mz_sh 2 0 [some (.int (m12 31 ((m4 51 (((m4 50 6) - 1).toNatClampNeg)).toNatClampNeg)))] (mz_up m12 50 6 ((m12 50 6) - 1)) (fun r21 m19 => mz_inb (m19 50 6) 200 = true ∧ mz_gi X mz_sh 43 0 [some (.ref 47), some (.int r21), some (.int (m19 52 ((m19 50 6).toNatClampNeg))), some (.int l3)] m19 (fun r26 m24 => mz_gi X mz_sh 97 5 [some (.ref 50), none, none, some (.int r26), some (.int r14), none, none] m24 Q))) ∧ (¬ (r14 ≤ l4) → mz_inb (m4 51 (((m4 50 6) - 1).toNatClampNeg)) 4001 = true ∧ mz_gi X mz_sh 98 0 [some (.int (m12 31 ((m4 51 (((m4 50 6) - 1).toNatClampNeg)).toNatClampNeg))), some (.int l3)] m12 (fun r32 m30 => ((r32 = 0 → mz_inb ((m30 50 6) - 1) 200 = true ∧ Q l4 (mz_up m30 52 (((m30 50 6) - 1).toNatClampNeg) l3)) ∧ (¬ (r32 = 0) → mz_inb (m4 51 (((m4 50 6) - 1).toNatClampNeg)) 4001 = true ∧ mz_gi X mz_sh 2 0 [some (.int (m30 31 ((m4 51 (((m4 50 6) - 1).toNatClampNeg)).toNatClampNeg)))] (mz_up m30 50 6 ((m30 50 6) - 1)) (fun r42 m40 => mz_inb (m40 50 6) 200 = true ∧ mz_gi X mz_sh 43 0 [some (.ref 47), some (.int r42), some (.int (m40 52 ((m40 50 6).toNatClampNeg))), some (.int l3)] m40 (fun r47 m45 => mz_gi X mz_sh 97 5 [some (.ref 50), none, none, some (.int r47), some (.int r14), none, none] m45 Q)))))))))))))) :
    mz_gi X mz_sh 97 5 [some (.ref 50), none, none, some (.int l3), some (.int l4), none, none] m Q := by
  refine mz_go_blk mz_m97 3 (pc' := (if (m 50 6) ≤ 0 then 133 else 12)) (L' := [some (.ref 50), none, none, some (.int l3), some (.int l4), none, none]) (S' := []) (sh' := mz_sh) (m' := m) (g := true) rfl rfl (rfl) ?_
  refine mz_go_if (fun c1 => ?_) (fun c1 => ?_)
  · have h2 := h.1 c1
    refine mz_go_blk mz_m97 4 (pc' := 140) (L' := [some (.ref 50), none, none, some (.int l3), some (.int l4), none, none]) (S' := [.int l4]) (sh' := mz_sh) (m' := mz_up m 50 7 l3) (g := true) rfl rfl (rfl) ?_
    exact mz_go_ret mz_m97 rfl rfl rfl ⟨_, rfl, rfl, h2⟩
  · have h3 := h.2 c1
    refine mz_go_blk mz_m97 2 (pc' := 16) (L' := [some (.ref 50), none, none, some (.int l3), some (.int l4), none, none]) (S' := [.ref 47]) (sh' := mz_sh) (m' := m) (g := true) rfl rfl (rfl) ?_
    refine mz_go_call mz_m97 mz_m37 rfl rfl rfl rfl rfl rfl rfl h3 (fun v sh1 m4 hv => ?_)
    obtain ⟨r6, rfl, rfl, h5⟩ := hv
    refine mz_go_blk mz_m97 1 (pc' := (if r6 = 0 then 133 else 22)) (L' := [some (.ref 50), none, none, some (.int l3), some (.int l4), none, none]) (S' := []) (sh' := mz_sh) (m' := m4) (g := true) rfl rfl (rfl) ?_
    refine mz_go_if (fun c7 => ?_) (fun c7 => ?_)
    · have h8 := h5.1 c7
      refine mz_go_blk mz_m97 4 (pc' := 140) (L' := [some (.ref 50), none, none, some (.int l3), some (.int l4), none, none]) (S' := [.int l4]) (sh' := mz_sh) (m' := mz_up m4 50 7 l3) (g := true) rfl rfl (rfl) ?_
      exact mz_go_ret mz_m97 rfl rfl rfl ⟨_, rfl, rfl, h8⟩
    · have h9 := h5.2 c7
      obtain ⟨g10, h11⟩ := h9
      refine mz_go_blk mz_m97 11 (pc' := 41) (L' := [some (.ref 50), none, none, some (.int l3), some (.int l4), some (.int (m4 51 (((m4 50 6) - 1).toNatClampNeg))), none]) (S' := [.int (m4 51 (((m4 50 6) - 1).toNatClampNeg)), .ref 30]) (sh' := mz_sh) (m' := m4) (g := mz_inb ((m4 50 6) - 1) 200 && true) rfl rfl (mz_and2 (g10) (rfl)) ?_
      refine mz_go_call mz_m97 mz_m87 rfl rfl rfl rfl rfl rfl rfl h11 (fun v sh1 m12 hv => ?_)
      obtain ⟨r14, rfl, rfl, h13⟩ := hv
      refine mz_go_blk mz_m97 4 (pc' := (if r14 ≤ l4 then 85 else 53)) (L' := [some (.ref 50), none, none, some (.int l3), some (.int l4), some (.int (m4 51 (((m4 50 6) - 1).toNatClampNeg))), some (.int r14)]) (S' := []) (sh' := mz_sh) (m' := m12) (g := true) rfl rfl (rfl) ?_
      refine mz_go_if (fun c15 => ?_) (fun c15 => ?_)
      · have h16 := h13.1 c15
        obtain ⟨g17, h18⟩ := h16
        refine mz_go_blk mz_m97 15 (pc' := 113) (L' := [some (.ref 50), none, none, some (.int l3), some (.int r14), some (.int (m4 51 (((m4 50 6) - 1).toNatClampNeg))), some (.int r14)]) (S' := [.int (m12 31 ((m4 51 (((m4 50 6) - 1).toNatClampNeg)).toNatClampNeg)), .ref 47]) (sh' := mz_sh) (m' := mz_up m12 50 6 ((m12 50 6) - 1)) (g := mz_inb (m4 51 (((m4 50 6) - 1).toNatClampNeg)) 4001 && true) rfl rfl (mz_and2 (g17) (rfl)) ?_
        refine mz_go_call mz_m97 mz_m2 rfl rfl rfl rfl rfl rfl rfl h18 (fun v sh1 m19 hv => ?_)
        obtain ⟨r21, rfl, rfl, h20⟩ := hv
        obtain ⟨g22, h23⟩ := h20
        refine mz_go_blk mz_m97 6 (pc' := 126) (L' := [some (.ref 50), none, none, some (.int l3), some (.int r14), some (.int (m4 51 (((m4 50 6) - 1).toNatClampNeg))), some (.int r14)]) (S' := [.int l3, .int (m19 52 ((m19 50 6).toNatClampNeg)), .int r21, .ref 47]) (sh' := mz_sh) (m' := m19) (g := mz_inb (m19 50 6) 200 && true) rfl rfl (mz_and2 (g22) (rfl)) ?_
        refine mz_go_call mz_m97 mz_m43 rfl rfl rfl rfl rfl rfl rfl h23 (fun v sh1 m24 hv => ?_)
        obtain ⟨r26, rfl, rfl, h25⟩ := hv
        refine mz_go_blk mz_m97 2 (pc' := 5) (L' := [some (.ref 50), none, none, some (.int r26), some (.int r14), some (.int (m4 51 (((m4 50 6) - 1).toNatClampNeg))), some (.int r14)]) (S' := []) (sh' := mz_sh) (m' := m24) (g := true) rfl rfl (rfl) ?_
        exact mz_go.forget (L := [some (.ref 50), none, none, some (.int r26), some (.int r14), none, none]) (mz_lel_cons rfl (mz_lel_cons trivial (mz_lel_cons trivial (mz_lel_cons rfl (mz_lel_cons rfl (mz_lel_cons trivial (mz_lel_cons trivial (mz_lel_nil)))))))) h25
      · have h27 := h13.2 c15
        obtain ⟨g28, h29⟩ := h27
        refine mz_go_blk mz_m97 6 (pc' := 64) (L' := [some (.ref 50), none, none, some (.int l3), some (.int l4), some (.int (m4 51 (((m4 50 6) - 1).toNatClampNeg))), some (.int r14)]) (S' := [.int l3, .int (m12 31 ((m4 51 (((m4 50 6) - 1).toNatClampNeg)).toNatClampNeg))]) (sh' := mz_sh) (m' := m12) (g := mz_inb (m4 51 (((m4 50 6) - 1).toNatClampNeg)) 4001 && true) rfl rfl (mz_and2 (g28) (rfl)) ?_
        refine mz_go_call mz_m97 mz_m98 rfl rfl rfl rfl rfl rfl rfl h29 (fun v sh1 m30 hv => ?_)
        obtain ⟨r32, rfl, rfl, h31⟩ := hv
        refine mz_go_blk mz_m97 1 (pc' := (if r32 = 0 then 70 else 85)) (L' := [some (.ref 50), none, none, some (.int l3), some (.int l4), some (.int (m4 51 (((m4 50 6) - 1).toNatClampNeg))), some (.int r14)]) (S' := []) (sh' := mz_sh) (m' := m30) (g := true) rfl rfl (rfl) ?_
        refine mz_go_if (fun c33 => ?_) (fun c33 => ?_)
        · have h34 := h31.1 c33
          obtain ⟨g35, h36⟩ := h34
          refine mz_go_blk mz_m97 9 (pc' := 84) (L' := [some (.ref 50), none, none, some (.int l3), some (.int l4), some (.int (m4 51 (((m4 50 6) - 1).toNatClampNeg))), some (.int r14)]) (S' := [.int l4]) (sh' := mz_sh) (m' := mz_up m30 52 (((m30 50 6) - 1).toNatClampNeg) l3) (g := mz_inb ((m30 50 6) - 1) 200 && true) rfl rfl (mz_and2 (g35) (rfl)) ?_
          exact mz_go_ret mz_m97 rfl rfl rfl ⟨_, rfl, rfl, h36⟩
        · have h37 := h31.2 c33
          obtain ⟨g38, h39⟩ := h37
          refine mz_go_blk mz_m97 15 (pc' := 113) (L' := [some (.ref 50), none, none, some (.int l3), some (.int r14), some (.int (m4 51 (((m4 50 6) - 1).toNatClampNeg))), some (.int r14)]) (S' := [.int (m30 31 ((m4 51 (((m4 50 6) - 1).toNatClampNeg)).toNatClampNeg)), .ref 47]) (sh' := mz_sh) (m' := mz_up m30 50 6 ((m30 50 6) - 1)) (g := mz_inb (m4 51 (((m4 50 6) - 1).toNatClampNeg)) 4001 && true) rfl rfl (mz_and2 (g38) (rfl)) ?_
          refine mz_go_call mz_m97 mz_m2 rfl rfl rfl rfl rfl rfl rfl h39 (fun v sh1 m40 hv => ?_)
          obtain ⟨r42, rfl, rfl, h41⟩ := hv
          obtain ⟨g43, h44⟩ := h41
          refine mz_go_blk mz_m97 6 (pc' := 126) (L' := [some (.ref 50), none, none, some (.int l3), some (.int r14), some (.int (m4 51 (((m4 50 6) - 1).toNatClampNeg))), some (.int r14)]) (S' := [.int l3, .int (m40 52 ((m40 50 6).toNatClampNeg)), .int r42, .ref 47]) (sh' := mz_sh) (m' := m40) (g := mz_inb (m40 50 6) 200 && true) rfl rfl (mz_and2 (g43) (rfl)) ?_
          refine mz_go_call mz_m97 mz_m43 rfl rfl rfl rfl rfl rfl rfl h44 (fun v sh1 m45 hv => ?_)
          obtain ⟨r47, rfl, rfl, h46⟩ := hv
          refine mz_go_blk mz_m97 2 (pc' := 5) (L' := [some (.ref 50), none, none, some (.int r47), some (.int r14), some (.int (m4 51 (((m4 50 6) - 1).toNatClampNeg))), some (.int r14)]) (S' := []) (sh' := mz_sh) (m' := m45) (g := true) rfl rfl (rfl) ?_
          exact mz_go.forget (L := [some (.ref 50), none, none, some (.int r47), some (.int r14), none, none]) (mz_lel_cons rfl (mz_lel_cons trivial (mz_lel_cons trivial (mz_lel_cons rfl (mz_lel_cons rfl (mz_lel_cons trivial (mz_lel_cons trivial (mz_lel_nil)))))))) h46
set_option maxRecDepth 100000 in
theorem t_E_isDecided_0 {X : mz_X} {m : mz_M} {Q : Int32 → mz_M → Prop} (a0 : Int32) (a1 : Int32)
    (h : ((a0 = 8 → ((a1 = 0 → Q 1 m) ∧ (¬ (a1 = 0) → ((a0 = 7 → ((a1 = 0 → Q 0 m) ∧ (¬ (a1 = 0) → Q 1 m))) ∧ (¬ (a0 = 7) → Q 0 m))))) ∧ (¬ (a0 = 8) → ((a0 = 7 → ((a1 = 0 → Q 0 m) ∧ (¬ (a1 = 0) → Q 1 m))) ∧ (¬ (a0 = 7) → Q 0 m))))) :
    mz_gi X mz_sh 98 0 [some (.int a0), some (.int a1)] m Q := by
  refine mz_go_blk mz_m98 3 (pc' := (if a0 = 8 then 6 else 10)) (L' := [some (.int a0), some (.int a1)]) (S' := []) (sh' := mz_sh) (m' := m) (g := true) rfl rfl (rfl) ?_
  refine mz_go_if (fun c1 => ?_) (fun c1 => ?_)
  · have h2 := h.1 c1
    refine mz_go_blk mz_m98 2 (pc' := (if a1 = 0 then 20 else 10)) (L' := [some (.int a0), some (.int a1)]) (S' := []) (sh' := mz_sh) (m' := m) (g := true) rfl rfl (rfl) ?_
    refine mz_go_if (fun c3 => ?_) (fun c3 => ?_)
    · have h4 := h2.1 c3
      refine mz_go_blk mz_m98 2 (pc' := 25) (L' := [some (.int a0), some (.int a1)]) (S' := [.int 1]) (sh' := mz_sh) (m' := m) (g := true) rfl rfl (rfl) ?_
      exact mz_go_ret mz_m98 rfl rfl rfl ⟨_, rfl, rfl, h4⟩
    · have h5 := h2.2 c3
      refine mz_go_blk mz_m98 3 (pc' := (if a0 = 7 then 16 else 24)) (L' := [some (.int a0), some (.int a1)]) (S' := []) (sh' := mz_sh) (m' := m) (g := true) rfl rfl (rfl) ?_
      refine mz_go_if (fun c6 => ?_) (fun c6 => ?_)
      · have h7 := h5.1 c6
        refine mz_go_blk mz_m98 2 (pc' := (if a1 = 0 then 24 else 20)) (L' := [some (.int a0), some (.int a1)]) (S' := []) (sh' := mz_sh) (m' := m) (g := true) rfl rfl (rfl) ?_
        refine mz_go_if (fun c8 => ?_) (fun c8 => ?_)
        · have h9 := h7.1 c8
          refine mz_go_blk mz_m98 1 (pc' := 25) (L' := [some (.int a0), some (.int a1)]) (S' := [.int 0]) (sh' := mz_sh) (m' := m) (g := true) rfl rfl (rfl) ?_
          exact mz_go_ret mz_m98 rfl rfl rfl ⟨_, rfl, rfl, h9⟩
        · have h10 := h7.2 c8
          refine mz_go_blk mz_m98 2 (pc' := 25) (L' := [some (.int a0), some (.int a1)]) (S' := [.int 1]) (sh' := mz_sh) (m' := m) (g := true) rfl rfl (rfl) ?_
          exact mz_go_ret mz_m98 rfl rfl rfl ⟨_, rfl, rfl, h10⟩
      · have h11 := h5.2 c6
        refine mz_go_blk mz_m98 1 (pc' := 25) (L' := [some (.int a0), some (.int a1)]) (S' := [.int 0]) (sh' := mz_sh) (m' := m) (g := true) rfl rfl (rfl) ?_
        exact mz_go_ret mz_m98 rfl rfl rfl ⟨_, rfl, rfl, h11⟩
  · have h12 := h.2 c1
    refine mz_go_blk mz_m98 3 (pc' := (if a0 = 7 then 16 else 24)) (L' := [some (.int a0), some (.int a1)]) (S' := []) (sh' := mz_sh) (m' := m) (g := true) rfl rfl (rfl) ?_
    refine mz_go_if (fun c13 => ?_) (fun c13 => ?_)
    · have h14 := h12.1 c13
      refine mz_go_blk mz_m98 2 (pc' := (if a1 = 0 then 24 else 20)) (L' := [some (.int a0), some (.int a1)]) (S' := []) (sh' := mz_sh) (m' := m) (g := true) rfl rfl (rfl) ?_
      refine mz_go_if (fun c15 => ?_) (fun c15 => ?_)
      · have h16 := h14.1 c15
        refine mz_go_blk mz_m98 1 (pc' := 25) (L' := [some (.int a0), some (.int a1)]) (S' := [.int 0]) (sh' := mz_sh) (m' := m) (g := true) rfl rfl (rfl) ?_
        exact mz_go_ret mz_m98 rfl rfl rfl ⟨_, rfl, rfl, h16⟩
      · have h17 := h14.2 c15
        refine mz_go_blk mz_m98 2 (pc' := 25) (L' := [some (.int a0), some (.int a1)]) (S' := [.int 1]) (sh' := mz_sh) (m' := m) (g := true) rfl rfl (rfl) ?_
        exact mz_go_ret mz_m98 rfl rfl rfl ⟨_, rfl, rfl, h17⟩
    · have h18 := h12.2 c13
      refine mz_go_blk mz_m98 1 (pc' := 25) (L' := [some (.int a0), some (.int a1)]) (S' := [.int 0]) (sh' := mz_sh) (m' := m) (g := true) rfl rfl (rfl) ?_
      exact mz_go_ret mz_m98 rfl rfl rfl ⟨_, rfl, rfl, h18⟩
set_option maxRecDepth 100000 in
theorem t_G_go_0 {X : mz_X} {m : mz_M} {Q : mz_M → Prop}
    (h : mz_gv X mz_sh 15 9 [some (.ref 53), some (.int 0), some (.int 0)] (mz_up m 53 3 0) Q) :
    mz_gv X mz_sh 15 0 [some (.ref 53), none, none] m Q := by
  refine mz_go_blk mz_m15 7 (pc' := 9) (L' := [some (.ref 53), some (.int 0), some (.int 0)]) (S' := []) (sh' := mz_sh) (m' := mz_up m 53 3 0) (g := true) rfl rfl (rfl) ?_
  exact h
set_option maxRecDepth 100000 in
theorem t_G_go_1 {X : mz_X} {m : mz_M} {Q : mz_M → Prop} (l1 : Int32) (l2 : Int32)
    (h : (((m 47 2) < l2 → Q m) ∧ (¬ ((m 47 2) < l2) → mz_gi X mz_sh 37 0 [some (.ref 47)] m (fun r6 m4 => ((r6 = 0 → Q m4) ∧ (¬ (r6 = 0) → ((l1 < 0 → Q m4) ∧ (¬ (l1 < 0) → (((m4 41 2) ≤ l1 → Q m4) ∧ (¬ ((m4 41 2) ≤ l1) → mz_gi X mz_sh 38 0 [some (.ref 47), some (.int l1)] m4 (fun r18 m16 => ((r18 = 0 → Q m16) ∧ (¬ (r18 = 0) → mz_inb l1 8001 = true ∧ mz_inb l1 8001 = true ∧ mz_gi X mz_sh 16 0 [some (.ref 53), some (.int l1), some (.int (m16 42 l1.toNatClampNeg)), some (.int (m16 43 l1.toNatClampNeg))] m16 (fun r27 m25 => mz_gv X mz_sh 15 9 [some (.ref 53), some (.int r27), some (.int (l2 + 1))] m25 Q)))))))))))))) :
    mz_gv X mz_sh 15 9 [some (.ref 53), some (.int l1), some (.int l2)] m Q := by
  refine mz_go_blk mz_m15 5 (pc' := (if (m 47 2) < l2 then 87 else 20)) (L' := [some (.ref 53), some (.int l1), some (.int l2)]) (S' := []) (sh' := mz_sh) (m' := m) (g := true) rfl rfl (rfl) ?_
  refine mz_go_if (fun c1 => ?_) (fun c1 => ?_)
  · have h2 := h.1 c1
    exact mz_go_ret mz_m15 rfl rfl rfl ⟨rfl, rfl, h2⟩
  · have h3 := h.2 c1
    refine mz_go_blk mz_m15 2 (pc' := 24) (L' := [some (.ref 53), some (.int l1), some (.int l2)]) (S' := [.ref 47]) (sh' := mz_sh) (m' := m) (g := true) rfl rfl (rfl) ?_
    refine mz_go_call mz_m15 mz_m37 rfl rfl rfl rfl rfl rfl rfl h3 (fun v sh1 m4 hv => ?_)
    obtain ⟨r6, rfl, rfl, h5⟩ := hv
    refine mz_go_blk mz_m15 1 (pc' := (if r6 = 0 then 87 else 30)) (L' := [some (.ref 53), some (.int l1), some (.int l2)]) (S' := []) (sh' := mz_sh) (m' := m4) (g := true) rfl rfl (rfl) ?_
    refine mz_go_if (fun c7 => ?_) (fun c7 => ?_)
    · have h8 := h5.1 c7
      exact mz_go_ret mz_m15 rfl rfl rfl ⟨rfl, rfl, h8⟩
    · have h9 := h5.2 c7
      refine mz_go_blk mz_m15 2 (pc' := (if l1 < 0 then 56 else 34)) (L' := [some (.ref 53), some (.int l1), some (.int l2)]) (S' := []) (sh' := mz_sh) (m' := m4) (g := true) rfl rfl (rfl) ?_
      refine mz_go_if (fun c10 => ?_) (fun c10 => ?_)
      · have h11 := h9.1 c10
        exact mz_go_ret mz_m15 rfl rfl rfl ⟨rfl, rfl, h11⟩
      · have h12 := h9.2 c10
        refine mz_go_blk mz_m15 5 (pc' := (if (m4 41 2) ≤ l1 then 56 else 45)) (L' := [some (.ref 53), some (.int l1), some (.int l2)]) (S' := []) (sh' := mz_sh) (m' := m4) (g := true) rfl rfl (rfl) ?_
        refine mz_go_if (fun c13 => ?_) (fun c13 => ?_)
        · have h14 := h12.1 c13
          exact mz_go_ret mz_m15 rfl rfl rfl ⟨rfl, rfl, h14⟩
        · have h15 := h12.2 c13
          refine mz_go_blk mz_m15 3 (pc' := 50) (L' := [some (.ref 53), some (.int l1), some (.int l2)]) (S' := [.int l1, .ref 47]) (sh' := mz_sh) (m' := m4) (g := true) rfl rfl (rfl) ?_
          refine mz_go_call mz_m15 mz_m38 rfl rfl rfl rfl rfl rfl rfl h15 (fun v sh1 m16 hv => ?_)
          obtain ⟨r18, rfl, rfl, h17⟩ := hv
          refine mz_go_blk mz_m15 1 (pc' := (if r18 = 0 then 56 else 57)) (L' := [some (.ref 53), some (.int l1), some (.int l2)]) (S' := []) (sh' := mz_sh) (m' := m16) (g := true) rfl rfl (rfl) ?_
          refine mz_go_if (fun c19 => ?_) (fun c19 => ?_)
          · have h20 := h17.1 c19
            exact mz_go_ret mz_m15 rfl rfl rfl ⟨rfl, rfl, h20⟩
          · have h21 := h17.2 c19
            obtain ⟨g22, g23, h24⟩ := h21
            refine mz_go_blk mz_m15 12 (pc' := 77) (L' := [some (.ref 53), some (.int l1), some (.int l2)]) (S' := [.int (m16 43 l1.toNatClampNeg), .int (m16 42 l1.toNatClampNeg), .int l1, .ref 53]) (sh' := mz_sh) (m' := m16) (g := mz_inb l1 8001 && (mz_inb l1 8001 && true)) rfl rfl (mz_and2 (g23) (mz_and2 (g22) (rfl))) ?_
            refine mz_go_call mz_m15 mz_m16 rfl rfl rfl rfl rfl rfl rfl h24 (fun v sh1 m25 hv => ?_)
            obtain ⟨r27, rfl, rfl, h26⟩ := hv
            refine mz_go_blk mz_m15 3 (pc' := 9) (L' := [some (.ref 53), some (.int r27), some (.int (l2 + 1))]) (S' := []) (sh' := mz_sh) (m' := m25) (g := true) rfl rfl (rfl) ?_
            exact h26
set_option maxRecDepth 100000 in
theorem t_G_goWord_0 {X : mz_X} {m : mz_M} {Q : Int32 → mz_M → Prop} (a1 : Int32) (a2 : Int32) (a3 : Int32)
    (h : ((a2 = 0 → mz_gv X mz_sh 19 0 [some (.ref 53), some (.int a3)] m (fun m3 => Q (a1 + 1) m3)) ∧ (a2 = 1 → mz_gi X mz_sh 41 0 [some (.ref 47), some (.int a3)] m (fun r10 m8 => mz_gv X mz_sh 19 0 [some (.ref 53), some (.int r10)] m8 (fun m11 => Q (a1 + 1) m11))) ∧ (a2 = 2 → mz_gi X mz_sh 20 0 [some (.ref 53)] m (fun r18 m16 => mz_gv X mz_sh 42 0 [some (.ref 47), some (.int a3), some (.int r18)] m16 (fun m19 => Q (a1 + 1) m19))) ∧ (a2 = 13 → Q a3 m) ∧ (a2 = 14 → mz_gi X mz_sh 20 0 [some (.ref 53)] m (fun r29 m27 => ((r29 = 0 → Q a3 m27) ∧ (¬ (r29 = 0) → Q (a1 + 1) m27)))) ∧ (a2 = 15 → mz_gi X mz_sh 20 0 [some (.ref 53)] m (fun r38 m36 => mz_gv X mz_sh 39 0 [some (.ref 47), some (.int r38)] m36 (fun m39 => Q (a1 + 1) m39))) ∧ (a2 = 16 → Q a1 (mz_up m 47 1 0)) ∧ (¬ a2 = 0 → ¬ a2 = 1 → ¬ a2 = 2 → ¬ a2 = 13 → ¬ a2 = 14 → ¬ a2 = 15 → ¬ a2 = 16 → mz_gv X mz_sh 17 0 [some (.ref 53), some (.int a2), none, none] m (fun m45 => Q (a1 + 1) m45)))) :
    mz_gi X mz_sh 16 0 [some (.ref 53), some (.int a1), some (.int a2), some (.int a3)] m Q := by
  refine mz_go_blk mz_m16 2 (pc' := (mz_tsw 1 166 0 16 #[83, 92, 108, 166, 166, 166, 166, 166, 166, 166, 166, 166, 166, 124, 126, 141, 156] a2)) (L' := [some (.ref 53), some (.int a1), some (.int a2), some (.int a3)]) (S' := []) (sh' := mz_sh) (m' := m) (g := true) rfl rfl (rfl) ?_
  by_cases c2 : a2 = 0
  · have h1 := h.1 c2
    rw [show mz_tsw 1 166 0 16 #[83, 92, 108, 166, 166, 166, 166, 166, 166, 166, 166, 166, 166, 124, 126, 141, 156] a2 = 84 by rw [c2]; decide +kernel]
    refine mz_go_blk mz_m16 2 (pc' := 86) (L' := [some (.ref 53), some (.int a1), some (.int a2), some (.int a3)]) (S' := [.int a3, .ref 53]) (sh' := mz_sh) (m' := m) (g := true) rfl rfl (rfl) ?_
    refine mz_go_call mz_m16 mz_m19 rfl rfl rfl rfl rfl rfl rfl h1 (fun v sh1 m3 hv => ?_)
    obtain ⟨rfl, rfl, h4⟩ := hv
    refine mz_go_blk mz_m16 3 (pc' := 92) (L' := [some (.ref 53), some (.int a1), some (.int a2), some (.int a3)]) (S' := [.int (a1 + 1)]) (sh' := mz_sh) (m' := m3) (g := true) rfl rfl (rfl) ?_
    exact mz_go_ret mz_m16 rfl rfl rfl ⟨_, rfl, rfl, h4⟩
  have h5 := h.2
  by_cases c7 : a2 = 1
  · have h6 := h5.1 c7
    rw [show mz_tsw 1 166 0 16 #[83, 92, 108, 166, 166, 166, 166, 166, 166, 166, 166, 166, 166, 124, 126, 141, 156] a2 = 93 by rw [c7]; decide +kernel]
    refine mz_go_blk mz_m16 4 (pc' := 99) (L' := [some (.ref 53), some (.int a1), some (.int a2), some (.int a3)]) (S' := [.int a3, .ref 47, .ref 53]) (sh' := mz_sh) (m' := m) (g := true) rfl rfl (rfl) ?_
    refine mz_go_call mz_m16 mz_m41 rfl rfl rfl rfl rfl rfl rfl h6 (fun v sh1 m8 hv => ?_)
    obtain ⟨r10, rfl, rfl, h9⟩ := hv
    refine mz_go_call mz_m16 mz_m19 rfl rfl rfl rfl rfl rfl rfl h9 (fun v sh1 m11 hv => ?_)
    obtain ⟨rfl, rfl, h12⟩ := hv
    refine mz_go_blk mz_m16 3 (pc' := 108) (L' := [some (.ref 53), some (.int a1), some (.int a2), some (.int a3)]) (S' := [.int (a1 + 1)]) (sh' := mz_sh) (m' := m11) (g := true) rfl rfl (rfl) ?_
    exact mz_go_ret mz_m16 rfl rfl rfl ⟨_, rfl, rfl, h12⟩
  have h13 := h5.2
  by_cases c15 : a2 = 2
  · have h14 := h13.1 c15
    rw [show mz_tsw 1 166 0 16 #[83, 92, 108, 166, 166, 166, 166, 166, 166, 166, 166, 166, 166, 124, 126, 141, 156] a2 = 109 by rw [c15]; decide +kernel]
    refine mz_go_blk mz_m16 4 (pc' := 115) (L' := [some (.ref 53), some (.int a1), some (.int a2), some (.int a3)]) (S' := [.ref 53, .int a3, .ref 47]) (sh' := mz_sh) (m' := m) (g := true) rfl rfl (rfl) ?_
    refine mz_go_call mz_m16 mz_m20 rfl rfl rfl rfl rfl rfl rfl h14 (fun v sh1 m16 hv => ?_)
    obtain ⟨r18, rfl, rfl, h17⟩ := hv
    refine mz_go_call mz_m16 mz_m42 rfl rfl rfl rfl rfl rfl rfl h17 (fun v sh1 m19 hv => ?_)
    obtain ⟨rfl, rfl, h20⟩ := hv
    refine mz_go_blk mz_m16 3 (pc' := 124) (L' := [some (.ref 53), some (.int a1), some (.int a2), some (.int a3)]) (S' := [.int (a1 + 1)]) (sh' := mz_sh) (m' := m19) (g := true) rfl rfl (rfl) ?_
    exact mz_go_ret mz_m16 rfl rfl rfl ⟨_, rfl, rfl, h20⟩
  have h21 := h13.2
  by_cases c23 : a2 = 13
  · have h22 := h21.1 c23
    rw [show mz_tsw 1 166 0 16 #[83, 92, 108, 166, 166, 166, 166, 166, 166, 166, 166, 166, 166, 124, 126, 141, 156] a2 = 125 by rw [c23]; decide +kernel]
    refine mz_go_blk mz_m16 1 (pc' := 126) (L' := [some (.ref 53), some (.int a1), some (.int a2), some (.int a3)]) (S' := [.int a3]) (sh' := mz_sh) (m' := m) (g := true) rfl rfl (rfl) ?_
    exact mz_go_ret mz_m16 rfl rfl rfl ⟨_, rfl, rfl, h22⟩
  have h24 := h21.2
  by_cases c26 : a2 = 14
  · have h25 := h24.1 c26
    rw [show mz_tsw 1 166 0 16 #[83, 92, 108, 166, 166, 166, 166, 166, 166, 166, 166, 166, 166, 124, 126, 141, 156] a2 = 127 by rw [c26]; decide +kernel]
    refine mz_go_blk mz_m16 1 (pc' := 128) (L' := [some (.ref 53), some (.int a1), some (.int a2), some (.int a3)]) (S' := [.ref 53]) (sh' := mz_sh) (m' := m) (g := true) rfl rfl (rfl) ?_
    refine mz_go_call mz_m16 mz_m20 rfl rfl rfl rfl rfl rfl rfl h25 (fun v sh1 m27 hv => ?_)
    obtain ⟨r29, rfl, rfl, h28⟩ := hv
    refine mz_go_blk mz_m16 1 (pc' := (if r29 = 0 then 140 else 134)) (L' := [some (.ref 53), some (.int a1), some (.int a2), some (.int a3)]) (S' := []) (sh' := mz_sh) (m' := m27) (g := true) rfl rfl (rfl) ?_
    refine mz_go_if (fun c30 => ?_) (fun c30 => ?_)
    · have h31 := h28.1 c30
      refine mz_go_blk mz_m16 1 (pc' := 141) (L' := [some (.ref 53), some (.int a1), some (.int a2), some (.int a3)]) (S' := [.int a3]) (sh' := mz_sh) (m' := m27) (g := true) rfl rfl (rfl) ?_
      exact mz_go_ret mz_m16 rfl rfl rfl ⟨_, rfl, rfl, h31⟩
    · have h32 := h28.2 c30
      refine mz_go_blk mz_m16 4 (pc' := 141) (L' := [some (.ref 53), some (.int a1), some (.int a2), some (.int a3)]) (S' := [.int (a1 + 1)]) (sh' := mz_sh) (m' := m27) (g := true) rfl rfl (rfl) ?_
      exact mz_go_ret mz_m16 rfl rfl rfl ⟨_, rfl, rfl, h32⟩
  have h33 := h24.2
  by_cases c35 : a2 = 15
  · have h34 := h33.1 c35
    rw [show mz_tsw 1 166 0 16 #[83, 92, 108, 166, 166, 166, 166, 166, 166, 166, 166, 166, 166, 124, 126, 141, 156] a2 = 142 by rw [c35]; decide +kernel]
    refine mz_go_blk mz_m16 3 (pc' := 147) (L' := [some (.ref 53), some (.int a1), some (.int a2), some (.int a3)]) (S' := [.ref 53, .ref 47]) (sh' := mz_sh) (m' := m) (g := true) rfl rfl (rfl) ?_
    refine mz_go_call mz_m16 mz_m20 rfl rfl rfl rfl rfl rfl rfl h34 (fun v sh1 m36 hv => ?_)
    obtain ⟨r38, rfl, rfl, h37⟩ := hv
    refine mz_go_call mz_m16 mz_m39 rfl rfl rfl rfl rfl rfl rfl h37 (fun v sh1 m39 hv => ?_)
    obtain ⟨rfl, rfl, h40⟩ := hv
    refine mz_go_blk mz_m16 3 (pc' := 156) (L' := [some (.ref 53), some (.int a1), some (.int a2), some (.int a3)]) (S' := [.int (a1 + 1)]) (sh' := mz_sh) (m' := m39) (g := true) rfl rfl (rfl) ?_
    exact mz_go_ret mz_m16 rfl rfl rfl ⟨_, rfl, rfl, h40⟩
  have h41 := h33.2
  by_cases c43 : a2 = 16
  · have h42 := h41.1 c43
    rw [show mz_tsw 1 166 0 16 #[83, 92, 108, 166, 166, 166, 166, 166, 166, 166, 166, 166, 166, 124, 126, 141, 156] a2 = 157 by rw [c43]; decide +kernel]
    refine mz_go_blk mz_m16 5 (pc' := 166) (L' := [some (.ref 53), some (.int a1), some (.int a2), some (.int a3)]) (S' := [.int a1]) (sh' := mz_sh) (m' := mz_up m 47 1 0) (g := true) rfl rfl (rfl) ?_
    exact mz_go_ret mz_m16 rfl rfl rfl ⟨_, rfl, rfl, h42⟩
  have h44 := h41.2
  have h44d := h44 c2 c7 c15 c23 c26 c35 c43
  rw [show mz_tsw 1 166 0 16 #[83, 92, 108, 166, 166, 166, 166, 166, 166, 166, 166, 166, 166, 124, 126, 141, 156] a2 = 167 from (by
        refine mz_tswd _ _ _ _ _ a2 167 (by decide +kernel) (fun k hk z => ?_)
        match k, hk, z with
        | 0, _, z => exact absurd (mz_tI (by rw [z]; decide +kernel)) c2
        | 1, _, z => exact absurd (mz_tI (by rw [z]; decide +kernel)) c7
        | 2, _, z => exact absurd (mz_tI (by rw [z]; decide +kernel)) c15
        | 3, _, z => decide +kernel
        | 4, _, z => decide +kernel
        | 5, _, z => decide +kernel
        | 6, _, z => decide +kernel
        | 7, _, z => decide +kernel
        | 8, _, z => decide +kernel
        | 9, _, z => decide +kernel
        | 10, _, z => decide +kernel
        | 11, _, z => decide +kernel
        | 12, _, z => decide +kernel
        | 13, _, z => exact absurd (mz_tI (by rw [z]; decide +kernel)) c23
        | 14, _, z => exact absurd (mz_tI (by rw [z]; decide +kernel)) c26
        | 15, _, z => exact absurd (mz_tI (by rw [z]; decide +kernel)) c35
        | 16, _, z => exact absurd (mz_tI (by rw [z]; decide +kernel)) c43
        | k + 17, hk, _ => exact absurd hk (by simp only [Array.size]; simp)
      )]
  refine mz_go_blk mz_m16 2 (pc' := 169) (L' := [some (.ref 53), some (.int a1), some (.int a2), some (.int a3)]) (S' := [.int a2, .ref 53]) (sh' := mz_sh) (m' := m) (g := true) rfl rfl (rfl) ?_
  refine mz_go_call mz_m16 mz_m17 rfl rfl rfl rfl rfl rfl rfl h44d (fun v sh1 m45 hv => ?_)
  obtain ⟨rfl, rfl, h46⟩ := hv
  refine mz_go_blk mz_m16 3 (pc' := 175) (L' := [some (.ref 53), some (.int a1), some (.int a2), some (.int a3)]) (S' := [.int (a1 + 1)]) (sh' := mz_sh) (m' := m45) (g := true) rfl rfl (rfl) ?_
  exact mz_go_ret mz_m16 rfl rfl rfl ⟨_, rfl, rfl, h46⟩
set_option maxRecDepth 100000 in
theorem t_G_replaceUppermost_0 {X : mz_X} {m : mz_M} {Q : mz_M → Prop} (a1 : Int32)
    (h : mz_gi X mz_sh 20 0 [some (.ref 53)] m (fun r3 m1 => mz_gi X mz_sh 18 0 [some (.int a1)] m1 (fun r6 m4 => ((r6 = 0 → mz_gi X mz_sh 20 0 [some (.ref 53)] m4 (fun r11 m9 => mz_gi X mz_sh 43 0 [some (.ref 47), some (.int a1), some (.int r11), some (.int r3)] m9 (fun r14 m12 => mz_gv X mz_sh 19 0 [some (.ref 53), some (.int r14)] m12 (fun m15 => Q m15)))) ∧ (¬ (r6 = 0) → mz_gi X mz_sh 43 0 [some (.ref 47), some (.int a1), some (.int 0), some (.int r3)] m4 (fun r20 m18 => mz_gv X mz_sh 19 0 [some (.ref 53), some (.int r20)] m18 (fun m21 => Q m21))))))) :
    mz_gv X mz_sh 17 0 [some (.ref 53), some (.int a1), none, none] m Q := by
  refine mz_go_blk mz_m17 1 (pc' := 1) (L' := [some (.ref 53), some (.int a1), none, none]) (S' := [.ref 53]) (sh' := mz_sh) (m' := m) (g := true) rfl rfl (rfl) ?_
  refine mz_go_call mz_m17 mz_m20 rfl rfl rfl rfl rfl rfl rfl h (fun v sh1 m1 hv => ?_)
  obtain ⟨r3, rfl, rfl, h2⟩ := hv
  refine mz_go_blk mz_m17 2 (pc' := 6) (L' := [some (.ref 53), some (.int a1), some (.int r3), none]) (S' := [.int a1]) (sh' := mz_sh) (m' := m1) (g := true) rfl rfl (rfl) ?_
  refine mz_go_call mz_m17 mz_m18 rfl rfl rfl rfl rfl rfl rfl h2 (fun v sh1 m4 hv => ?_)
  obtain ⟨r6, rfl, rfl, h5⟩ := hv
  refine mz_go_blk mz_m17 1 (pc' := (if r6 = 0 then 16 else 12)) (L' := [some (.ref 53), some (.int a1), some (.int r3), none]) (S' := []) (sh' := mz_sh) (m' := m4) (g := true) rfl rfl (rfl) ?_
  refine mz_go_if (fun c7 => ?_) (fun c7 => ?_)
  · have h8 := h5.1 c7
    refine mz_go_blk mz_m17 1 (pc' := 17) (L' := [some (.ref 53), some (.int a1), some (.int r3), none]) (S' := [.ref 53]) (sh' := mz_sh) (m' := m4) (g := true) rfl rfl (rfl) ?_
    refine mz_go_call mz_m17 mz_m20 rfl rfl rfl rfl rfl rfl rfl h8 (fun v sh1 m9 hv => ?_)
    obtain ⟨r11, rfl, rfl, h10⟩ := hv
    refine mz_go_blk mz_m17 7 (pc' := 29) (L' := [some (.ref 53), some (.int a1), some (.int r3), some (.int r11)]) (S' := [.int r3, .int r11, .int a1, .ref 47, .ref 53]) (sh' := mz_sh) (m' := m9) (g := true) rfl rfl (rfl) ?_
    refine mz_go_call mz_m17 mz_m43 rfl rfl rfl rfl rfl rfl rfl h10 (fun v sh1 m12 hv => ?_)
    obtain ⟨r14, rfl, rfl, h13⟩ := hv
    refine mz_go_call mz_m17 mz_m19 rfl rfl rfl rfl rfl rfl rfl h13 (fun v sh1 m15 hv => ?_)
    obtain ⟨rfl, rfl, h16⟩ := hv
    exact mz_go_ret mz_m17 rfl rfl rfl ⟨rfl, rfl, h16⟩
  · have h17 := h5.2 c7
    refine mz_go_blk mz_m17 9 (pc' := 29) (L' := [some (.ref 53), some (.int a1), some (.int r3), some (.int 0)]) (S' := [.int r3, .int 0, .int a1, .ref 47, .ref 53]) (sh' := mz_sh) (m' := m4) (g := true) rfl rfl (rfl) ?_
    refine mz_go_call mz_m17 mz_m43 rfl rfl rfl rfl rfl rfl rfl h17 (fun v sh1 m18 hv => ?_)
    obtain ⟨r20, rfl, rfl, h19⟩ := hv
    refine mz_go_call mz_m17 mz_m19 rfl rfl rfl rfl rfl rfl rfl h19 (fun v sh1 m21 hv => ?_)
    obtain ⟨rfl, rfl, h22⟩ := hv
    exact mz_go_ret mz_m17 rfl rfl rfl ⟨rfl, rfl, h22⟩
set_option maxRecDepth 100000 in
theorem t_G_isOfOne_0 {X : mz_X} {m : mz_M} {Q : Int32 → mz_M → Prop} (a0 : Int32)
    (h : ((a0 = 10 → Q 1 m) ∧ (¬ (a0 = 10) → ((a0 = 11 → Q 1 m) ∧ (¬ (a0 = 11) → ((a0 = 12 → Q 1 m) ∧ (¬ (a0 = 12) → Q 0 m))))))) :
    mz_gi X mz_sh 18 0 [some (.int a0)] m Q := by
  refine mz_go_blk mz_m18 3 (pc' := (if a0 = 10 then 18 else 6)) (L' := [some (.int a0)]) (S' := []) (sh' := mz_sh) (m' := m) (g := true) rfl rfl (rfl) ?_
  refine mz_go_if (fun c1 => ?_) (fun c1 => ?_)
  · have h2 := h.1 c1
    refine mz_go_blk mz_m18 2 (pc' := 23) (L' := [some (.int a0)]) (S' := [.int 1]) (sh' := mz_sh) (m' := m) (g := true) rfl rfl (rfl) ?_
    exact mz_go_ret mz_m18 rfl rfl rfl ⟨_, rfl, rfl, h2⟩
  · have h3 := h.2 c1
    refine mz_go_blk mz_m18 3 (pc' := (if a0 = 11 then 18 else 12)) (L' := [some (.int a0)]) (S' := []) (sh' := mz_sh) (m' := m) (g := true) rfl rfl (rfl) ?_
    refine mz_go_if (fun c4 => ?_) (fun c4 => ?_)
    · have h5 := h3.1 c4
      refine mz_go_blk mz_m18 2 (pc' := 23) (L' := [some (.int a0)]) (S' := [.int 1]) (sh' := mz_sh) (m' := m) (g := true) rfl rfl (rfl) ?_
      exact mz_go_ret mz_m18 rfl rfl rfl ⟨_, rfl, rfl, h5⟩
    · have h6 := h3.2 c4
      refine mz_go_blk mz_m18 3 (pc' := (if a0 = 12 then 18 else 22)) (L' := [some (.int a0)]) (S' := []) (sh' := mz_sh) (m' := m) (g := true) rfl rfl (rfl) ?_
      refine mz_go_if (fun c7 => ?_) (fun c7 => ?_)
      · have h8 := h6.1 c7
        refine mz_go_blk mz_m18 2 (pc' := 23) (L' := [some (.int a0)]) (S' := [.int 1]) (sh' := mz_sh) (m' := m) (g := true) rfl rfl (rfl) ?_
        exact mz_go_ret mz_m18 rfl rfl rfl ⟨_, rfl, rfl, h8⟩
      · have h9 := h6.2 c7
        refine mz_go_blk mz_m18 1 (pc' := 23) (L' := [some (.int a0)]) (S' := [.int 0]) (sh' := mz_sh) (m' := m) (g := true) rfl rfl (rfl) ?_
        exact mz_go_ret mz_m18 rfl rfl rfl ⟨_, rfl, rfl, h9⟩
set_option maxRecDepth 100000 in
theorem t_G_push_0 {X : mz_X} {m : mz_M} {Q : mz_M → Prop} (a1 : Int32)
    (h : ((208 ≤ (m 53 3) → Q m) ∧ (¬ (208 ≤ (m 53 3)) → mz_inb (m 53 3) 208 = true ∧ Q (mz_up (mz_up m 54 ((m 53 3).toNatClampNeg) a1) 53 3 ((m 53 3) + 1))))) :
    mz_gv X mz_sh 19 0 [some (.ref 53), some (.int a1)] m Q := by
  refine mz_go_blk mz_m19 4 (pc' := (if 208 ≤ (m 53 3) then 30 else 10)) (L' := [some (.ref 53), some (.int a1)]) (S' := []) (sh' := mz_sh) (m' := m) (g := true) rfl rfl (rfl) ?_
  refine mz_go_if (fun c1 => ?_) (fun c1 => ?_)
  · have h2 := h.1 c1
    exact mz_go_ret mz_m19 rfl rfl rfl ⟨rfl, rfl, h2⟩
  · have h3 := h.2 c1
    obtain ⟨g4, h5⟩ := h3
    refine mz_go_blk mz_m19 12 (pc' := 30) (L' := [some (.ref 53), some (.int a1)]) (S' := []) (sh' := mz_sh) (m' := mz_up (mz_up m 54 ((m 53 3).toNatClampNeg) a1) 53 3 ((m 53 3) + 1)) (g := mz_inb (m 53 3) 208 && true) rfl rfl (mz_and2 (g4) (rfl)) ?_
    exact mz_go_ret mz_m19 rfl rfl rfl ⟨rfl, rfl, h5⟩
set_option maxRecDepth 100000 in
theorem t_G_pop_0 {X : mz_X} {m : mz_M} {Q : Int32 → mz_M → Prop}
    (h : (((m 53 3) = 0 → Q 0 m) ∧ (¬ ((m 53 3) = 0) → mz_inb ((m 53 3) - 1) 208 = true ∧ Q (m 54 (((m 53 3) - 1).toNatClampNeg)) (mz_up m 53 3 ((m 53 3) - 1))))) :
    mz_gi X mz_sh 20 0 [some (.ref 53)] m Q := by
  refine mz_go_blk mz_m20 3 (pc' := (if (m 53 3) = 0 then 7 else 9)) (L' := [some (.ref 53)]) (S' := []) (sh' := mz_sh) (m' := m) (g := true) rfl rfl (rfl) ?_
  refine mz_go_if (fun c1 => ?_) (fun c1 => ?_)
  · have h2 := h.1 c1
    refine mz_go_blk mz_m20 1 (pc' := 8) (L' := [some (.ref 53)]) (S' := [.int 0]) (sh' := mz_sh) (m' := m) (g := true) rfl rfl (rfl) ?_
    exact mz_go_ret mz_m20 rfl rfl rfl ⟨_, rfl, rfl, h2⟩
  · have h3 := h.2 c1
    obtain ⟨g4, h5⟩ := h3
    refine mz_go_blk mz_m20 11 (pc' := 28) (L' := [some (.ref 53)]) (S' := [.int (m 54 (((m 53 3) - 1).toNatClampNeg))]) (sh' := mz_sh) (m' := mz_up m 53 3 ((m 53 3) - 1)) (g := mz_inb ((m 53 3) - 1) 208 && true) rfl rfl (mz_and2 (g4) (rfl)) ?_
    exact mz_go_ret mz_m20 rfl rfl rfl ⟨_, rfl, rfl, h5⟩
set_option maxRecDepth 100000 in
theorem t_A_feed_0 {X : mz_X} {m : mz_M} {Q : Int32 → mz_M → Prop} (a1 : Int64) (a3 : Int32)
    (h : ((a3 < 1 → Q (-1) m) ∧ (¬ (a3 < 1) → ((a3 ≤ 8 → ((((m 0 1) + a3) ≤ 4000 → mz_gi X mz_sh 100 33 [some (.ref 0), some (.long a1), none, none, some (.int (a3 - 1))] m Q) ∧ (¬ (((m 0 1) + a3) ≤ 4000) → Q (-2) m))) ∧ (¬ (a3 ≤ 8) → Q (-1) m))))) :
    mz_gi X mz_sh 100 0 [some (.ref 0), some (.long a1), none, some (.int a3), none] m Q := by
  refine mz_go_blk mz_m100 3 (pc' := (if a3 < 1 then 11 else 5)) (L' := [some (.ref 0), some (.long a1), none, some (.int a3), none]) (S' := []) (sh' := mz_sh) (m' := m) (g := true) rfl rfl (rfl) ?_
  refine mz_go_if (fun c1 => ?_) (fun c1 => ?_)
  · have h2 := h.1 c1
    refine mz_go_blk mz_m100 1 (pc' := 12) (L' := [some (.ref 0), some (.long a1), none, some (.int a3), none]) (S' := [.int (-1)]) (sh' := mz_sh) (m' := m) (g := true) rfl rfl (rfl) ?_
    exact mz_go_ret mz_m100 rfl rfl rfl ⟨_, rfl, rfl, h2⟩
  · have h3 := h.2 c1
    refine mz_go_blk mz_m100 3 (pc' := (if a3 ≤ 8 then 13 else 11)) (L' := [some (.ref 0), some (.long a1), none, some (.int a3), none]) (S' := []) (sh' := mz_sh) (m' := m) (g := true) rfl rfl (rfl) ?_
    refine mz_go_if (fun c4 => ?_) (fun c4 => ?_)
    · have h5 := h3.1 c4
      refine mz_go_blk mz_m100 6 (pc' := (if ((m 0 1) + a3) ≤ 4000 then 28 else 25)) (L' := [some (.ref 0), some (.long a1), none, some (.int a3), none]) (S' := []) (sh' := mz_sh) (m' := m) (g := true) rfl rfl (rfl) ?_
      refine mz_go_if (fun c6 => ?_) (fun c6 => ?_)
      · have h7 := h5.1 c6
        refine mz_go_blk mz_m100 4 (pc' := 33) (L' := [some (.ref 0), some (.long a1), none, some (.int a3), some (.int (a3 - 1))]) (S' := []) (sh' := mz_sh) (m' := m) (g := true) rfl rfl (rfl) ?_
        exact mz_go.forget (L := [some (.ref 0), some (.long a1), none, none, some (.int (a3 - 1))]) (mz_lel_cons rfl (mz_lel_cons rfl (mz_lel_cons trivial (mz_lel_cons trivial (mz_lel_cons rfl (mz_lel_nil)))))) h7
      · have h8 := h5.2 c6
        refine mz_go_blk mz_m100 1 (pc' := 27) (L' := [some (.ref 0), some (.long a1), none, some (.int a3), none]) (S' := [.int (-2)]) (sh' := mz_sh) (m' := m) (g := true) rfl rfl (rfl) ?_
        exact mz_go_ret mz_m100 rfl rfl rfl ⟨_, rfl, rfl, h8⟩
    · have h9 := h3.2 c4
      refine mz_go_blk mz_m100 1 (pc' := 12) (L' := [some (.ref 0), some (.long a1), none, some (.int a3), none]) (S' := [.int (-1)]) (sh' := mz_sh) (m' := m) (g := true) rfl rfl (rfl) ?_
      exact mz_go_ret mz_m100 rfl rfl rfl ⟨_, rfl, rfl, h9⟩
set_option maxRecDepth 100000 in
theorem t_A_feed_1 {X : mz_X} {m : mz_M} {Q : Int32 → mz_M → Prop} (l1 : Int64) (l4 : Int32)
    (h : ((l4 < 0 → mz_gv X mz_sh 116 0 [some (.ref 0)] m (fun m3 => Q (m3 0 1) m3)) ∧ (¬ (l4 < 0) → mz_inb (m 0 1) 4000 = true ∧ mz_gi X mz_sh 100 33 [some (.ref 0), some (.long l1), none, none, some (.int (l4 + (-1)))] (mz_up (mz_up m 1 ((m 0 1).toNatClampNeg) ((((l1.toUInt64 >>> ((8 * l4).toInt64.toUInt64 &&& Int64.toUInt64 63)).toInt64).toInt32) &&& 255)) 0 1 ((m 0 1) + 1)) Q))) :
    mz_gi X mz_sh 100 33 [some (.ref 0), some (.long l1), none, none, some (.int l4)] m Q := by
  refine mz_go_blk mz_m100 2 (pc' := (if l4 < 0 then 75 else 38)) (L' := [some (.ref 0), some (.long l1), none, none, some (.int l4)]) (S' := []) (sh' := mz_sh) (m' := m) (g := true) rfl rfl (rfl) ?_
  refine mz_go_if (fun c1 => ?_) (fun c1 => ?_)
  · have h2 := h.1 c1
    refine mz_go_blk mz_m100 1 (pc' := 76) (L' := [some (.ref 0), some (.long l1), none, none, some (.int l4)]) (S' := [.ref 0]) (sh' := mz_sh) (m' := m) (g := true) rfl rfl (rfl) ?_
    refine mz_go_call mz_m100 mz_m116 rfl rfl rfl rfl rfl rfl rfl h2 (fun v sh1 m3 hv => ?_)
    obtain ⟨rfl, rfl, h4⟩ := hv
    refine mz_go_blk mz_m100 2 (pc' := 83) (L' := [some (.ref 0), some (.long l1), none, none, some (.int l4)]) (S' := [.int (m3 0 1)]) (sh' := mz_sh) (m' := m3) (g := true) rfl rfl (rfl) ?_
    exact mz_go_ret mz_m100 rfl rfl rfl ⟨_, rfl, rfl, h4⟩
  · have h5 := h.2 c1
    obtain ⟨g6, h7⟩ := h5
    refine mz_go_blk mz_m100 21 (pc' := 33) (L' := [some (.ref 0), some (.long l1), none, none, some (.int (l4 + (-1)))]) (S' := []) (sh' := mz_sh) (m' := mz_up (mz_up m 1 ((m 0 1).toNatClampNeg) ((((l1.toUInt64 >>> ((8 * l4).toInt64.toUInt64 &&& Int64.toUInt64 63)).toInt64).toInt32) &&& 255)) 0 1 ((m 0 1) + 1)) (g := mz_inb (m 0 1) 4000 && true) rfl rfl (mz_and2 (g6) (rfl)) ?_
    exact h7
set_option maxRecDepth 100000 in
theorem t_A_clear_0 {X : mz_X} {m : mz_M} {Q : Int32 → mz_M → Prop}
    (h : mz_gv X mz_sh 116 0 [some (.ref 0)] (mz_up m 0 1 0) (fun m1 => mz_gv X mz_sh 203 0 [some (.ref 46), some (.int 0), none, none] m1 (fun m3 => mz_gv X mz_sh 36 0 [some (.ref 47)] m3 (fun m5 => Q (m 0 1) m5)))) :
    mz_gi X mz_sh 101 0 [some (.ref 0), none] m Q := by
  refine mz_go_blk mz_m101 7 (pc' := 11) (L' := [some (.ref 0), some (.int (m 0 1))]) (S' := [.ref 0]) (sh' := mz_sh) (m' := mz_up m 0 1 0) (g := true) rfl rfl (rfl) ?_
  refine mz_go_call mz_m101 mz_m116 rfl rfl rfl rfl rfl rfl rfl h (fun v sh1 m1 hv => ?_)
  obtain ⟨rfl, rfl, h2⟩ := hv
  refine mz_go_blk mz_m101 3 (pc' := 19) (L' := [some (.ref 0), some (.int (m 0 1))]) (S' := [.int 0, .ref 46]) (sh' := mz_sh) (m' := m1) (g := true) rfl rfl (rfl) ?_
  refine mz_go_call mz_m101 mz_m203 rfl rfl rfl rfl rfl rfl rfl h2 (fun v sh1 m3 hv => ?_)
  obtain ⟨rfl, rfl, h4⟩ := hv
  refine mz_go_blk mz_m101 2 (pc' := 26) (L' := [some (.ref 0), some (.int (m 0 1))]) (S' := [.ref 47]) (sh' := mz_sh) (m' := m3) (g := true) rfl rfl (rfl) ?_
  refine mz_go_call mz_m101 mz_m36 rfl rfl rfl rfl rfl rfl rfl h4 (fun v sh1 m5 hv => ?_)
  obtain ⟨rfl, rfl, h6⟩ := hv
  refine mz_go_blk mz_m101 1 (pc' := 30) (L' := [some (.ref 0), some (.int (m 0 1))]) (S' := [.int (m 0 1)]) (sh' := mz_sh) (m' := m5) (g := true) rfl rfl (rfl) ?_
  exact mz_go_ret mz_m101 rfl rfl rfl ⟨_, rfl, rfl, h6⟩
set_option maxRecDepth 100000 in
theorem t_A_lex_0 {X : mz_X} {m : mz_M} {Q : Int32 → mz_M → Prop}
    (h : mz_gv X mz_sh 116 0 [some (.ref 0)] m (fun m1 => mz_gv X mz_sh 36 0 [some (.ref 47)] m1 (fun m3 => mz_gi X mz_sh 65 0 [some (.ref 2), some (.int (m3 0 1)), none, none] m3 (fun r7 m5 => ((r7 = (-1) → Q (m5 2 4) m5) ∧ (¬ (r7 = (-1)) → Q ((-10) - r7) m5)))))) :
    mz_gi X mz_sh 102 0 [some (.ref 0), none] m Q := by
  refine mz_go_blk mz_m102 1 (pc' := 1) (L' := [some (.ref 0), none]) (S' := [.ref 0]) (sh' := mz_sh) (m' := m) (g := true) rfl rfl (rfl) ?_
  refine mz_go_call mz_m102 mz_m116 rfl rfl rfl rfl rfl rfl rfl h (fun v sh1 m1 hv => ?_)
  obtain ⟨rfl, rfl, h2⟩ := hv
  refine mz_go_blk mz_m102 2 (pc' := 8) (L' := [some (.ref 0), none]) (S' := [.ref 47]) (sh' := mz_sh) (m' := m1) (g := true) rfl rfl (rfl) ?_
  refine mz_go_call mz_m102 mz_m36 rfl rfl rfl rfl rfl rfl rfl h2 (fun v sh1 m3 hv => ?_)
  obtain ⟨rfl, rfl, h4⟩ := hv
  refine mz_go_blk mz_m102 4 (pc' := 19) (L' := [some (.ref 0), none]) (S' := [.int (m3 0 1), .ref 2]) (sh' := mz_sh) (m' := m3) (g := true) rfl rfl (rfl) ?_
  refine mz_go_call mz_m102 mz_m65 rfl rfl rfl rfl rfl rfl rfl h4 (fun v sh1 m5 hv => ?_)
  obtain ⟨r7, rfl, rfl, h6⟩ := hv
  refine mz_go_blk mz_m102 4 (pc' := (if r7 = (-1) then 28 else 38)) (L' := [some (.ref 0), some (.int r7)]) (S' := []) (sh' := mz_sh) (m' := m5) (g := true) rfl rfl (rfl) ?_
  refine mz_go_if (fun c8 => ?_) (fun c8 => ?_)
  · have h9 := h6.1 c8
    refine mz_go_blk mz_m102 4 (pc' := 42) (L' := [some (.ref 0), some (.int r7)]) (S' := [.int (m5 2 4)]) (sh' := mz_sh) (m' := m5) (g := true) rfl rfl (rfl) ?_
    exact mz_go_ret mz_m102 rfl rfl rfl ⟨_, rfl, rfl, h9⟩
  · have h10 := h6.2 c8
    refine mz_go_blk mz_m102 3 (pc' := 42) (L' := [some (.ref 0), some (.int r7)]) (S' := [.int ((-10) - r7)]) (sh' := mz_sh) (m' := m5) (g := true) rfl rfl (rfl) ?_
    exact mz_go_ret mz_m102 rfl rfl rfl ⟨_, rfl, rfl, h10⟩
set_option maxRecDepth 100000 in
theorem t_A_token_0 {X : mz_X} {m : mz_M} {Q : Int32 → mz_M → Prop} (a1 : Int32) (a2 : Int32)
    (h : (((m 2 6) = 0 → Q (-1) m) ∧ (¬ ((m 2 6) = 0) → ((a1 < 0 → Q (-1) m) ∧ (¬ (a1 < 0) → ((a1 ≤ (m 2 4) → ((a2 = 0 → mz_inb a1 4001 = true ∧ Q (m 3 a1.toNatClampNeg) m) ∧ (a2 = 1 → mz_inb a1 4001 = true ∧ Q (m 4 a1.toNatClampNeg) m) ∧ (a2 = 2 → mz_inb a1 4001 = true ∧ Q (m 5 a1.toNatClampNeg) m) ∧ (a2 = 3 → mz_inb a1 4001 = true ∧ Q (m 6 a1.toNatClampNeg) m) ∧ (¬ a2 = 0 → ¬ a2 = 1 → ¬ a2 = 2 → ¬ a2 = 3 → Q (-1) m))) ∧ (¬ (a1 ≤ (m 2 4)) → Q (-1) m))))))) :
    mz_gi X mz_sh 103 0 [some (.ref 0), some (.int a1), some (.int a2)] m Q := by
  refine mz_go_blk mz_m103 4 (pc' := (if (m 2 6) = 0 then 25 else 10)) (L' := [some (.ref 0), some (.int a1), some (.int a2)]) (S' := []) (sh' := mz_sh) (m' := m) (g := true) rfl rfl (rfl) ?_
  refine mz_go_if (fun c1 => ?_) (fun c1 => ?_)
  · have h2 := h.1 c1
    refine mz_go_blk mz_m103 1 (pc' := 26) (L' := [some (.ref 0), some (.int a1), some (.int a2)]) (S' := [.int (-1)]) (sh' := mz_sh) (m' := m) (g := true) rfl rfl (rfl) ?_
    exact mz_go_ret mz_m103 rfl rfl rfl ⟨_, rfl, rfl, h2⟩
  · have h3 := h.2 c1
    refine mz_go_blk mz_m103 2 (pc' := (if a1 < 0 then 25 else 14)) (L' := [some (.ref 0), some (.int a1), some (.int a2)]) (S' := []) (sh' := mz_sh) (m' := m) (g := true) rfl rfl (rfl) ?_
    refine mz_go_if (fun c4 => ?_) (fun c4 => ?_)
    · have h5 := h3.1 c4
      refine mz_go_blk mz_m103 1 (pc' := 26) (L' := [some (.ref 0), some (.int a1), some (.int a2)]) (S' := [.int (-1)]) (sh' := mz_sh) (m' := m) (g := true) rfl rfl (rfl) ?_
      exact mz_go_ret mz_m103 rfl rfl rfl ⟨_, rfl, rfl, h5⟩
    · have h6 := h3.2 c4
      refine mz_go_blk mz_m103 5 (pc' := (if a1 ≤ (m 2 4) then 27 else 25)) (L' := [some (.ref 0), some (.int a1), some (.int a2)]) (S' := []) (sh' := mz_sh) (m' := m) (g := true) rfl rfl (rfl) ?_
      refine mz_go_if (fun c7 => ?_) (fun c7 => ?_)
      · have h8 := h6.1 c7
        refine mz_go_blk mz_m103 2 (pc' := (mz_tsw 28 72 0 3 #[32, 42, 52, 62] a2)) (L' := [some (.ref 0), some (.int a1), some (.int a2)]) (S' := []) (sh' := mz_sh) (m' := m) (g := true) rfl rfl (rfl) ?_
        by_cases c10 : a2 = 0
        · have h9 := h8.1 c10
          rw [show mz_tsw 28 72 0 3 #[32, 42, 52, 62] a2 = 60 by rw [c10]; decide +kernel]
          obtain ⟨g11, h12⟩ := h9
          refine mz_go_blk mz_m103 5 (pc' := 69) (L' := [some (.ref 0), some (.int a1), some (.int a2)]) (S' := [.int (m 3 a1.toNatClampNeg)]) (sh' := mz_sh) (m' := m) (g := mz_inb a1 4001 && true) rfl rfl (mz_and2 (g11) (rfl)) ?_
          exact mz_go_ret mz_m103 rfl rfl rfl ⟨_, rfl, rfl, h12⟩
        have h13 := h8.2
        by_cases c15 : a2 = 1
        · have h14 := h13.1 c15
          rw [show mz_tsw 28 72 0 3 #[32, 42, 52, 62] a2 = 70 by rw [c15]; decide +kernel]
          obtain ⟨g16, h17⟩ := h14
          refine mz_go_blk mz_m103 5 (pc' := 79) (L' := [some (.ref 0), some (.int a1), some (.int a2)]) (S' := [.int (m 4 a1.toNatClampNeg)]) (sh' := mz_sh) (m' := m) (g := mz_inb a1 4001 && true) rfl rfl (mz_and2 (g16) (rfl)) ?_
          exact mz_go_ret mz_m103 rfl rfl rfl ⟨_, rfl, rfl, h17⟩
        have h18 := h13.2
        by_cases c20 : a2 = 2
        · have h19 := h18.1 c20
          rw [show mz_tsw 28 72 0 3 #[32, 42, 52, 62] a2 = 80 by rw [c20]; decide +kernel]
          obtain ⟨g21, h22⟩ := h19
          refine mz_go_blk mz_m103 5 (pc' := 89) (L' := [some (.ref 0), some (.int a1), some (.int a2)]) (S' := [.int (m 5 a1.toNatClampNeg)]) (sh' := mz_sh) (m' := m) (g := mz_inb a1 4001 && true) rfl rfl (mz_and2 (g21) (rfl)) ?_
          exact mz_go_ret mz_m103 rfl rfl rfl ⟨_, rfl, rfl, h22⟩
        have h23 := h18.2
        by_cases c25 : a2 = 3
        · have h24 := h23.1 c25
          rw [show mz_tsw 28 72 0 3 #[32, 42, 52, 62] a2 = 90 by rw [c25]; decide +kernel]
          obtain ⟨g26, h27⟩ := h24
          refine mz_go_blk mz_m103 5 (pc' := 99) (L' := [some (.ref 0), some (.int a1), some (.int a2)]) (S' := [.int (m 6 a1.toNatClampNeg)]) (sh' := mz_sh) (m' := m) (g := mz_inb a1 4001 && true) rfl rfl (mz_and2 (g26) (rfl)) ?_
          exact mz_go_ret mz_m103 rfl rfl rfl ⟨_, rfl, rfl, h27⟩
        have h28 := h23.2
        have h28d := h28 c10 c15 c20 c25
        rw [show mz_tsw 28 72 0 3 #[32, 42, 52, 62] a2 = 100 from (by
        refine mz_tswd _ _ _ _ _ a2 100 (by decide +kernel) (fun k hk z => ?_)
        match k, hk, z with
        | 0, _, z => exact absurd (mz_tI (by rw [z]; decide +kernel)) c10
        | 1, _, z => exact absurd (mz_tI (by rw [z]; decide +kernel)) c15
        | 2, _, z => exact absurd (mz_tI (by rw [z]; decide +kernel)) c20
        | 3, _, z => exact absurd (mz_tI (by rw [z]; decide +kernel)) c25
        | k + 4, hk, _ => exact absurd hk (by simp only [Array.size]; simp)
      )]
        refine mz_go_blk mz_m103 1 (pc' := 101) (L' := [some (.ref 0), some (.int a1), some (.int a2)]) (S' := [.int (-1)]) (sh' := mz_sh) (m' := m) (g := true) rfl rfl (rfl) ?_
        exact mz_go_ret mz_m103 rfl rfl rfl ⟨_, rfl, rfl, h28d⟩
      · have h29 := h6.2 c7
        refine mz_go_blk mz_m103 1 (pc' := 26) (L' := [some (.ref 0), some (.int a1), some (.int a2)]) (S' := [.int (-1)]) (sh' := mz_sh) (m' := m) (g := true) rfl rfl (rfl) ?_
        exact mz_go_ret mz_m103 rfl rfl rfl ⟨_, rfl, rfl, h29⟩
set_option maxRecDepth 100000 in
theorem t_A_slots_0 {X : mz_X} {m : mz_M} {Q : Int32 → mz_M → Prop}
    (h : (((m 2 6) = 0 → Q 0 m) ∧ (¬ ((m 2 6) = 0) → Q (m 2 5) m))) :
    mz_gi X mz_sh 104 0 [some (.ref 0)] m Q := by
  refine mz_go_blk mz_m104 4 (pc' := (if (m 2 6) = 0 then 20 else 10)) (L' := [some (.ref 0)]) (S' := []) (sh' := mz_sh) (m' := m) (g := true) rfl rfl (rfl) ?_
  refine mz_go_if (fun c1 => ?_) (fun c1 => ?_)
  · have h2 := h.1 c1
    refine mz_go_blk mz_m104 1 (pc' := 21) (L' := [some (.ref 0)]) (S' := [.int 0]) (sh' := mz_sh) (m' := m) (g := true) rfl rfl (rfl) ?_
    exact mz_go_ret mz_m104 rfl rfl rfl ⟨_, rfl, rfl, h2⟩
  · have h3 := h.2 c1
    refine mz_go_blk mz_m104 4 (pc' := 21) (L' := [some (.ref 0)]) (S' := [.int (m 2 5)]) (sh' := mz_sh) (m' := m) (g := true) rfl rfl (rfl) ?_
    exact mz_go_ret mz_m104 rfl rfl rfl ⟨_, rfl, rfl, h3⟩
set_option maxRecDepth 100000 in
theorem t_A_parse_0 {X : mz_X} {m : mz_M} {Q : Int32 → mz_M → Prop}
    (h : (((m 2 6) = 0 → Q (-3) m) ∧ (¬ ((m 2 6) = 0) → mz_gv X mz_sh 117 0 [some (.ref 0)] m (fun m4 => mz_gi X mz_sh 22 0 [some (.ref 9), some (.ref 2), none, none, none] m4 (fun r8 m6 => ((r8 = (-1) → mz_gi X mz_sh 83 0 [some (.ref 11)] m6 (fun r13 m11 => ((r13 ≤ 200 → mz_gv X mz_sh 84 0 [some (.ref 30), some (.ref 11), none, none] m11 (fun m16 => mz_gv X mz_sh 28 0 [some (.ref 37), some (.ref 30), none] m16 (fun m18 => mz_gi X mz_sh 30 0 [some (.ref 37), some (.ref 30), none, none] m18 (fun r22 m20 => ((r22 = (-1) → Q (m20 30 5) (mz_up m20 0 6 1)) ∧ (¬ (r22 = (-1)) → Q ((-10000) - r22) m20)))))) ∧ (¬ (r13 ≤ 200) → Q (-2) m11)))) ∧ (¬ (r8 = (-1)) → Q ((-10) - r8) m6))))))) :
    mz_gi X mz_sh 105 0 [some (.ref 0), none, none] m Q := by
  refine mz_go_blk mz_m105 4 (pc' := (if (m 2 6) = 0 then 10 else 13)) (L' := [some (.ref 0), none, none]) (S' := []) (sh' := mz_sh) (m' := m) (g := true) rfl rfl (rfl) ?_
  refine mz_go_if (fun c1 => ?_) (fun c1 => ?_)
  · have h2 := h.1 c1
    refine mz_go_blk mz_m105 1 (pc' := 12) (L' := [some (.ref 0), none, none]) (S' := [.int (-3)]) (sh' := mz_sh) (m' := m) (g := true) rfl rfl (rfl) ?_
    exact mz_go_ret mz_m105 rfl rfl rfl ⟨_, rfl, rfl, h2⟩
  · have h3 := h.2 c1
    refine mz_go_blk mz_m105 1 (pc' := 14) (L' := [some (.ref 0), none, none]) (S' := [.ref 0]) (sh' := mz_sh) (m' := m) (g := true) rfl rfl (rfl) ?_
    refine mz_go_call mz_m105 mz_m117 rfl rfl rfl rfl rfl rfl rfl h3 (fun v sh1 m4 hv => ?_)
    obtain ⟨rfl, rfl, h5⟩ := hv
    refine mz_go_blk mz_m105 4 (pc' := 25) (L' := [some (.ref 0), none, none]) (S' := [.ref 2, .ref 9]) (sh' := mz_sh) (m' := m4) (g := true) rfl rfl (rfl) ?_
    refine mz_go_call mz_m105 mz_m22 rfl rfl rfl rfl rfl rfl rfl h5 (fun v sh1 m6 hv => ?_)
    obtain ⟨r8, rfl, rfl, h7⟩ := hv
    refine mz_go_blk mz_m105 4 (pc' := (if r8 = (-1) then 39 else 34)) (L' := [some (.ref 0), some (.int r8), none]) (S' := []) (sh' := mz_sh) (m' := m6) (g := true) rfl rfl (rfl) ?_
    refine mz_go_if (fun c9 => ?_) (fun c9 => ?_)
    · have h10 := h7.1 c9
      refine mz_go_blk mz_m105 3 (pc' := 46) (L' := [some (.ref 0), some (.int r8), none]) (S' := [.ref 11]) (sh' := mz_sh) (m' := m6) (g := true) rfl rfl (rfl) ?_
      refine mz_go_call mz_m105 mz_m83 rfl rfl rfl rfl rfl rfl rfl h10 (fun v sh1 m11 hv => ?_)
      obtain ⟨r13, rfl, rfl, h12⟩ := hv
      refine mz_go_blk mz_m105 2 (pc' := (if r13 ≤ 200 then 58 else 55)) (L' := [some (.ref 0), some (.int r8), none]) (S' := []) (sh' := mz_sh) (m' := m11) (g := true) rfl rfl (rfl) ?_
      refine mz_go_if (fun c14 => ?_) (fun c14 => ?_)
      · have h15 := h12.1 c14
        refine mz_go_blk mz_m105 5 (pc' := 69) (L' := [some (.ref 0), some (.int r8), none]) (S' := [.ref 11, .ref 30]) (sh' := mz_sh) (m' := m11) (g := true) rfl rfl (rfl) ?_
        refine mz_go_call mz_m105 mz_m84 rfl rfl rfl rfl rfl rfl rfl h15 (fun v sh1 m16 hv => ?_)
        obtain ⟨rfl, rfl, h17⟩ := hv
        refine mz_go_blk mz_m105 4 (pc' := 80) (L' := [some (.ref 0), some (.int r8), none]) (S' := [.ref 30, .ref 37]) (sh' := mz_sh) (m' := m16) (g := true) rfl rfl (rfl) ?_
        refine mz_go_call mz_m105 mz_m28 rfl rfl rfl rfl rfl rfl rfl h17 (fun v sh1 m18 hv => ?_)
        obtain ⟨rfl, rfl, h19⟩ := hv
        refine mz_go_blk mz_m105 4 (pc' := 91) (L' := [some (.ref 0), some (.int r8), none]) (S' := [.ref 30, .ref 37]) (sh' := mz_sh) (m' := m18) (g := true) rfl rfl (rfl) ?_
        refine mz_go_call mz_m105 mz_m30 rfl rfl rfl rfl rfl rfl rfl h19 (fun v sh1 m20 hv => ?_)
        obtain ⟨r22, rfl, rfl, h21⟩ := hv
        refine mz_go_blk mz_m105 4 (pc' := (if r22 = (-1) then 106 else 100)) (L' := [some (.ref 0), some (.int r8), some (.int r22)]) (S' := []) (sh' := mz_sh) (m' := m20) (g := true) rfl rfl (rfl) ?_
        refine mz_go_if (fun c23 => ?_) (fun c23 => ?_)
        · have h24 := h21.1 c23
          refine mz_go_blk mz_m105 6 (pc' := 118) (L' := [some (.ref 0), some (.int r8), some (.int r22)]) (S' := [.int (m20 30 5)]) (sh' := mz_sh) (m' := mz_up m20 0 6 1) (g := (decide (1 = 0) || decide (1 = 1)) && true) rfl rfl (mz_and2 (by decide) (rfl)) ?_
          exact mz_go_ret mz_m105 rfl rfl rfl ⟨_, rfl, rfl, h24⟩
        · have h25 := h21.2 c23
          refine mz_go_blk mz_m105 3 (pc' := 105) (L' := [some (.ref 0), some (.int r8), some (.int r22)]) (S' := [.int ((-10000) - r22)]) (sh' := mz_sh) (m' := m20) (g := true) rfl rfl (rfl) ?_
          exact mz_go_ret mz_m105 rfl rfl rfl ⟨_, rfl, rfl, h25⟩
      · have h26 := h12.2 c14
        refine mz_go_blk mz_m105 1 (pc' := 57) (L' := [some (.ref 0), some (.int r8), none]) (S' := [.int (-2)]) (sh' := mz_sh) (m' := m11) (g := true) rfl rfl (rfl) ?_
        exact mz_go_ret mz_m105 rfl rfl rfl ⟨_, rfl, rfl, h26⟩
    · have h27 := h7.2 c9
      refine mz_go_blk mz_m105 3 (pc' := 38) (L' := [some (.ref 0), some (.int r8), none]) (S' := [.int ((-10) - r8)]) (sh' := mz_sh) (m' := m6) (g := true) rfl rfl (rfl) ?_
      exact mz_go_ret mz_m105 rfl rfl rfl ⟨_, rfl, rfl, h27⟩
set_option maxRecDepth 100000 in
theorem t_A_reduced_0 {X : mz_X} {m : mz_M} {Q : Int32 → mz_M → Prop} (a1 : Int32)
    (h : ((a1 = (-1) → Q (m 9 1) m) ∧ (¬ (a1 = (-1)) → ((a1 < 0 → Q (-1) m) ∧ (¬ (a1 < 0) → (((m 9 1) ≤ a1 → Q (-1) m) ∧ (¬ ((m 9 1) ≤ a1) → mz_inb a1 16016 = true ∧ Q (m 10 a1.toNatClampNeg) m))))))) :
    mz_gi X mz_sh 106 0 [some (.ref 0), some (.int a1)] m Q := by
  refine mz_go_blk mz_m106 3 (pc' := (if a1 = (-1) then 5 else 13)) (L' := [some (.ref 0), some (.int a1)]) (S' := []) (sh' := mz_sh) (m' := m) (g := true) rfl rfl (rfl) ?_
  refine mz_go_if (fun c1 => ?_) (fun c1 => ?_)
  · have h2 := h.1 c1
    refine mz_go_blk mz_m106 3 (pc' := 12) (L' := [some (.ref 0), some (.int a1)]) (S' := [.int (m 9 1)]) (sh' := mz_sh) (m' := m) (g := true) rfl rfl (rfl) ?_
    exact mz_go_ret mz_m106 rfl rfl rfl ⟨_, rfl, rfl, h2⟩
  · have h3 := h.2 c1
    refine mz_go_blk mz_m106 2 (pc' := (if a1 < 0 then 40 else 17)) (L' := [some (.ref 0), some (.int a1)]) (S' := []) (sh' := mz_sh) (m' := m) (g := true) rfl rfl (rfl) ?_
    refine mz_go_if (fun c4 => ?_) (fun c4 => ?_)
    · have h5 := h3.1 c4
      refine mz_go_blk mz_m106 1 (pc' := 41) (L' := [some (.ref 0), some (.int a1)]) (S' := [.int (-1)]) (sh' := mz_sh) (m' := m) (g := true) rfl rfl (rfl) ?_
      exact mz_go_ret mz_m106 rfl rfl rfl ⟨_, rfl, rfl, h5⟩
    · have h6 := h3.2 c4
      refine mz_go_blk mz_m106 5 (pc' := (if (m 9 1) ≤ a1 then 40 else 28)) (L' := [some (.ref 0), some (.int a1)]) (S' := []) (sh' := mz_sh) (m' := m) (g := true) rfl rfl (rfl) ?_
      refine mz_go_if (fun c7 => ?_) (fun c7 => ?_)
      · have h8 := h6.1 c7
        refine mz_go_blk mz_m106 1 (pc' := 41) (L' := [some (.ref 0), some (.int a1)]) (S' := [.int (-1)]) (sh' := mz_sh) (m' := m) (g := true) rfl rfl (rfl) ?_
        exact mz_go_ret mz_m106 rfl rfl rfl ⟨_, rfl, rfl, h8⟩
      · have h9 := h6.2 c7
        obtain ⟨g10, h11⟩ := h9
        refine mz_go_blk mz_m106 6 (pc' := 41) (L' := [some (.ref 0), some (.int a1)]) (S' := [.int (m 10 a1.toNatClampNeg)]) (sh' := mz_sh) (m' := m) (g := mz_inb a1 16016 && true) rfl rfl (mz_and2 (g10) (rfl)) ?_
        exact mz_go_ret mz_m106 rfl rfl rfl ⟨_, rfl, rfl, h11⟩
set_option maxRecDepth 100000 in
theorem t_A_node_0 {X : mz_X} {m : mz_M} {Q : Int32 → mz_M → Prop} (a1 : Int32) (a2 : Int32)
    (h : (((m 0 6) = 0 → Q (-1) m) ∧ (¬ ((m 0 6) = 0) → ((a1 < 0 → Q (-1) m) ∧ (¬ (a1 < 0) → ((a1 < (m 30 5) → ((a2 = 0 → mz_inb a1 4001 = true ∧ Q (m 31 a1.toNatClampNeg) m) ∧ (a2 = 1 → mz_inb a1 4001 = true ∧ Q (m 32 a1.toNatClampNeg) m) ∧ (a2 = 2 → mz_inb a1 4001 = true ∧ Q (m 33 a1.toNatClampNeg) m) ∧ (a2 = 3 → mz_inb a1 4001 = true ∧ Q (m 34 a1.toNatClampNeg) m) ∧ (a2 = 4 → mz_inb a1 4001 = true ∧ (((m 33 a1.toNatClampNeg) ≤ 0 → Q (-1) m) ∧ (¬ ((m 33 a1.toNatClampNeg) ≤ 0) → Q (a1 + 1) m))) ∧ (a2 = 5 → mz_gi X mz_sh 86 0 [some (.ref 30), some (.int a1), none, none] m (fun r41 m39 => Q r41 m39)) ∧ (¬ a2 = 0 → ¬ a2 = 1 → ¬ a2 = 2 → ¬ a2 = 3 → ¬ a2 = 4 → ¬ a2 = 5 → Q (-1) m))) ∧ (¬ (a1 < (m 30 5)) → Q (-1) m))))))) :
    mz_gi X mz_sh 107 0 [some (.ref 0), some (.int a1), some (.int a2)] m Q := by
  refine mz_go_blk mz_m107 3 (pc' := (if (m 0 6) = 0 then 22 else 7)) (L' := [some (.ref 0), some (.int a1), some (.int a2)]) (S' := []) (sh' := mz_sh) (m' := m) (g := true) rfl rfl (rfl) ?_
  refine mz_go_if (fun c1 => ?_) (fun c1 => ?_)
  · have h2 := h.1 c1
    refine mz_go_blk mz_m107 1 (pc' := 23) (L' := [some (.ref 0), some (.int a1), some (.int a2)]) (S' := [.int (-1)]) (sh' := mz_sh) (m' := m) (g := true) rfl rfl (rfl) ?_
    exact mz_go_ret mz_m107 rfl rfl rfl ⟨_, rfl, rfl, h2⟩
  · have h3 := h.2 c1
    refine mz_go_blk mz_m107 2 (pc' := (if a1 < 0 then 22 else 11)) (L' := [some (.ref 0), some (.int a1), some (.int a2)]) (S' := []) (sh' := mz_sh) (m' := m) (g := true) rfl rfl (rfl) ?_
    refine mz_go_if (fun c4 => ?_) (fun c4 => ?_)
    · have h5 := h3.1 c4
      refine mz_go_blk mz_m107 1 (pc' := 23) (L' := [some (.ref 0), some (.int a1), some (.int a2)]) (S' := [.int (-1)]) (sh' := mz_sh) (m' := m) (g := true) rfl rfl (rfl) ?_
      exact mz_go_ret mz_m107 rfl rfl rfl ⟨_, rfl, rfl, h5⟩
    · have h6 := h3.2 c4
      refine mz_go_blk mz_m107 5 (pc' := (if a1 < (m 30 5) then 24 else 22)) (L' := [some (.ref 0), some (.int a1), some (.int a2)]) (S' := []) (sh' := mz_sh) (m' := m) (g := true) rfl rfl (rfl) ?_
      refine mz_go_if (fun c7 => ?_) (fun c7 => ?_)
      · have h8 := h6.1 c7
        refine mz_go_blk mz_m107 2 (pc' := (mz_tsw 25 108 0 5 #[39, 49, 59, 69, 79, 99] a2)) (L' := [some (.ref 0), some (.int a1), some (.int a2)]) (S' := []) (sh' := mz_sh) (m' := m) (g := true) rfl rfl (rfl) ?_
        by_cases c10 : a2 = 0
        · have h9 := h8.1 c10
          rw [show mz_tsw 25 108 0 5 #[39, 49, 59, 69, 79, 99] a2 = 64 by rw [c10]; decide +kernel]
          obtain ⟨g11, h12⟩ := h9
          refine mz_go_blk mz_m107 5 (pc' := 73) (L' := [some (.ref 0), some (.int a1), some (.int a2)]) (S' := [.int (m 31 a1.toNatClampNeg)]) (sh' := mz_sh) (m' := m) (g := mz_inb a1 4001 && true) rfl rfl (mz_and2 (g11) (rfl)) ?_
          exact mz_go_ret mz_m107 rfl rfl rfl ⟨_, rfl, rfl, h12⟩
        have h13 := h8.2
        by_cases c15 : a2 = 1
        · have h14 := h13.1 c15
          rw [show mz_tsw 25 108 0 5 #[39, 49, 59, 69, 79, 99] a2 = 74 by rw [c15]; decide +kernel]
          obtain ⟨g16, h17⟩ := h14
          refine mz_go_blk mz_m107 5 (pc' := 83) (L' := [some (.ref 0), some (.int a1), some (.int a2)]) (S' := [.int (m 32 a1.toNatClampNeg)]) (sh' := mz_sh) (m' := m) (g := mz_inb a1 4001 && true) rfl rfl (mz_and2 (g16) (rfl)) ?_
          exact mz_go_ret mz_m107 rfl rfl rfl ⟨_, rfl, rfl, h17⟩
        have h18 := h13.2
        by_cases c20 : a2 = 2
        · have h19 := h18.1 c20
          rw [show mz_tsw 25 108 0 5 #[39, 49, 59, 69, 79, 99] a2 = 84 by rw [c20]; decide +kernel]
          obtain ⟨g21, h22⟩ := h19
          refine mz_go_blk mz_m107 5 (pc' := 93) (L' := [some (.ref 0), some (.int a1), some (.int a2)]) (S' := [.int (m 33 a1.toNatClampNeg)]) (sh' := mz_sh) (m' := m) (g := mz_inb a1 4001 && true) rfl rfl (mz_and2 (g21) (rfl)) ?_
          exact mz_go_ret mz_m107 rfl rfl rfl ⟨_, rfl, rfl, h22⟩
        have h23 := h18.2
        by_cases c25 : a2 = 3
        · have h24 := h23.1 c25
          rw [show mz_tsw 25 108 0 5 #[39, 49, 59, 69, 79, 99] a2 = 94 by rw [c25]; decide +kernel]
          obtain ⟨g26, h27⟩ := h24
          refine mz_go_blk mz_m107 5 (pc' := 103) (L' := [some (.ref 0), some (.int a1), some (.int a2)]) (S' := [.int (m 34 a1.toNatClampNeg)]) (sh' := mz_sh) (m' := m) (g := mz_inb a1 4001 && true) rfl rfl (mz_and2 (g26) (rfl)) ?_
          exact mz_go_ret mz_m107 rfl rfl rfl ⟨_, rfl, rfl, h27⟩
        have h28 := h23.2
        by_cases c30 : a2 = 4
        · have h29 := h28.1 c30
          rw [show mz_tsw 25 108 0 5 #[39, 49, 59, 69, 79, 99] a2 = 104 by rw [c30]; decide +kernel]
          obtain ⟨g31, h32⟩ := h29
          refine mz_go_blk mz_m107 6 (pc' := (if (m 33 a1.toNatClampNeg) ≤ 0 then 122 else 116)) (L' := [some (.ref 0), some (.int a1), some (.int a2)]) (S' := []) (sh' := mz_sh) (m' := m) (g := mz_inb a1 4001 && true) rfl rfl (mz_and2 (g31) (rfl)) ?_
          refine mz_go_if (fun c33 => ?_) (fun c33 => ?_)
          · have h34 := h32.1 c33
            refine mz_go_blk mz_m107 1 (pc' := 123) (L' := [some (.ref 0), some (.int a1), some (.int a2)]) (S' := [.int (-1)]) (sh' := mz_sh) (m' := m) (g := true) rfl rfl (rfl) ?_
            exact mz_go_ret mz_m107 rfl rfl rfl ⟨_, rfl, rfl, h34⟩
          · have h35 := h32.2 c33
            refine mz_go_blk mz_m107 4 (pc' := 123) (L' := [some (.ref 0), some (.int a1), some (.int a2)]) (S' := [.int (a1 + 1)]) (sh' := mz_sh) (m' := m) (g := true) rfl rfl (rfl) ?_
            exact mz_go_ret mz_m107 rfl rfl rfl ⟨_, rfl, rfl, h35⟩
        have h36 := h28.2
        by_cases c38 : a2 = 5
        · have h37 := h36.1 c38
          rw [show mz_tsw 25 108 0 5 #[39, 49, 59, 69, 79, 99] a2 = 124 by rw [c38]; decide +kernel]
          refine mz_go_blk mz_m107 3 (pc' := 129) (L' := [some (.ref 0), some (.int a1), some (.int a2)]) (S' := [.int a1, .ref 30]) (sh' := mz_sh) (m' := m) (g := true) rfl rfl (rfl) ?_
          refine mz_go_call mz_m107 mz_m86 rfl rfl rfl rfl rfl rfl rfl h37 (fun v sh1 m39 hv => ?_)
          obtain ⟨r41, rfl, rfl, h40⟩ := hv
          exact mz_go_ret mz_m107 rfl rfl rfl ⟨_, rfl, rfl, h40⟩
        have h42 := h36.2
        have h42d := h42 c10 c15 c20 c25 c30 c38
        rw [show mz_tsw 25 108 0 5 #[39, 49, 59, 69, 79, 99] a2 = 133 from (by
        refine mz_tswd _ _ _ _ _ a2 133 (by decide +kernel) (fun k hk z => ?_)
        match k, hk, z with
        | 0, _, z => exact absurd (mz_tI (by rw [z]; decide +kernel)) c10
        | 1, _, z => exact absurd (mz_tI (by rw [z]; decide +kernel)) c15
        | 2, _, z => exact absurd (mz_tI (by rw [z]; decide +kernel)) c20
        | 3, _, z => exact absurd (mz_tI (by rw [z]; decide +kernel)) c25
        | 4, _, z => exact absurd (mz_tI (by rw [z]; decide +kernel)) c30
        | 5, _, z => exact absurd (mz_tI (by rw [z]; decide +kernel)) c38
        | k + 6, hk, _ => exact absurd hk (by simp only [Array.size]; simp)
      )]
        refine mz_go_blk mz_m107 1 (pc' := 134) (L' := [some (.ref 0), some (.int a1), some (.int a2)]) (S' := [.int (-1)]) (sh' := mz_sh) (m' := m) (g := true) rfl rfl (rfl) ?_
        exact mz_go_ret mz_m107 rfl rfl rfl ⟨_, rfl, rfl, h42d⟩
      · have h43 := h6.2 c7
        refine mz_go_blk mz_m107 1 (pc' := 23) (L' := [some (.ref 0), some (.int a1), some (.int a2)]) (S' := [.int (-1)]) (sh' := mz_sh) (m' := m) (g := true) rfl rfl (rfl) ?_
        exact mz_go_ret mz_m107 rfl rfl rfl ⟨_, rfl, rfl, h43⟩
set_option maxRecDepth 100000 in
theorem t_A_compile_0 {X : mz_X} {m : mz_M} {Q : Int32 → mz_M → Prop}
    (h : (((m 0 6) = 0 → Q (-3) m) ∧ (¬ ((m 0 6) = 0) → mz_gv X mz_sh 3 0 [some (.ref 41), some (.ref 30), some (.ref 37), some (.ref 2), none] m (fun m4 => Q (m4 41 2) (mz_up m4 0 8 1))))) :
    mz_gi X mz_sh 108 0 [some (.ref 0)] m Q := by
  refine mz_go_blk mz_m108 3 (pc' := (if (m 0 6) = 0 then 7 else 10)) (L' := [some (.ref 0)]) (S' := []) (sh' := mz_sh) (m' := m) (g := true) rfl rfl (rfl) ?_
  refine mz_go_if (fun c1 => ?_) (fun c1 => ?_)
  · have h2 := h.1 c1
    refine mz_go_blk mz_m108 1 (pc' := 9) (L' := [some (.ref 0)]) (S' := [.int (-3)]) (sh' := mz_sh) (m' := m) (g := true) rfl rfl (rfl) ?_
    exact mz_go_ret mz_m108 rfl rfl rfl ⟨_, rfl, rfl, h2⟩
  · have h3 := h.2 c1
    refine mz_go_blk mz_m108 8 (pc' := 26) (L' := [some (.ref 0)]) (S' := [.ref 2, .ref 37, .ref 30, .ref 41]) (sh' := mz_sh) (m' := m) (g := true) rfl rfl (rfl) ?_
    refine mz_go_call mz_m108 mz_m3 rfl rfl rfl rfl rfl rfl rfl h3 (fun v sh1 m4 hv => ?_)
    obtain ⟨rfl, rfl, h5⟩ := hv
    refine mz_go_blk mz_m108 6 (pc' := 41) (L' := [some (.ref 0)]) (S' := [.int (m4 41 2)]) (sh' := mz_sh) (m' := mz_up m4 0 8 1) (g := (decide (1 = 0) || decide (1 = 1)) && true) rfl rfl (mz_and2 (by decide) (rfl)) ?_
    exact mz_go_ret mz_m108 rfl rfl rfl ⟨_, rfl, rfl, h5⟩
set_option maxRecDepth 100000 in
theorem t_A_code_0 {X : mz_X} {m : mz_M} {Q : Int32 → mz_M → Prop} (a1 : Int32) (a2 : Int32)
    (h : (((m 0 8) = 0 → Q (-1) m) ∧ (¬ ((m 0 8) = 0) → ((a1 < 0 → Q (-1) m) ∧ (¬ (a1 < 0) → ((a1 < (m 41 2) → ((a2 = 0 → mz_inb a1 8001 = true ∧ Q (m 42 a1.toNatClampNeg) m) ∧ (a2 = 1 → mz_inb a1 8001 = true ∧ Q (m 43 a1.toNatClampNeg) m) ∧ (¬ a2 = 0 → ¬ a2 = 1 → Q (-1) m))) ∧ (¬ (a1 < (m 41 2)) → Q (-1) m))))))) :
    mz_gi X mz_sh 109 0 [some (.ref 0), some (.int a1), some (.int a2)] m Q := by
  refine mz_go_blk mz_m109 3 (pc' := (if (m 0 8) = 0 then 22 else 7)) (L' := [some (.ref 0), some (.int a1), some (.int a2)]) (S' := []) (sh' := mz_sh) (m' := m) (g := true) rfl rfl (rfl) ?_
  refine mz_go_if (fun c1 => ?_) (fun c1 => ?_)
  · have h2 := h.1 c1
    refine mz_go_blk mz_m109 1 (pc' := 23) (L' := [some (.ref 0), some (.int a1), some (.int a2)]) (S' := [.int (-1)]) (sh' := mz_sh) (m' := m) (g := true) rfl rfl (rfl) ?_
    exact mz_go_ret mz_m109 rfl rfl rfl ⟨_, rfl, rfl, h2⟩
  · have h3 := h.2 c1
    refine mz_go_blk mz_m109 2 (pc' := (if a1 < 0 then 22 else 11)) (L' := [some (.ref 0), some (.int a1), some (.int a2)]) (S' := []) (sh' := mz_sh) (m' := m) (g := true) rfl rfl (rfl) ?_
    refine mz_go_if (fun c4 => ?_) (fun c4 => ?_)
    · have h5 := h3.1 c4
      refine mz_go_blk mz_m109 1 (pc' := 23) (L' := [some (.ref 0), some (.int a1), some (.int a2)]) (S' := [.int (-1)]) (sh' := mz_sh) (m' := m) (g := true) rfl rfl (rfl) ?_
      exact mz_go_ret mz_m109 rfl rfl rfl ⟨_, rfl, rfl, h5⟩
    · have h6 := h3.2 c4
      refine mz_go_blk mz_m109 5 (pc' := (if a1 < (m 41 2) then 24 else 22)) (L' := [some (.ref 0), some (.int a1), some (.int a2)]) (S' := []) (sh' := mz_sh) (m' := m) (g := true) rfl rfl (rfl) ?_
      refine mz_go_if (fun c7 => ?_) (fun c7 => ?_)
      · have h8 := h6.1 c7
        refine mz_go_blk mz_m109 2 (pc' := (((25 : Int) + Op.lookupswitch.offset (#[(0, 27), (1, 37)] : Array (Int × Int)).toList 47 (a2).toInt).toNat)) (L' := [some (.ref 0), some (.int a1), some (.int a2)]) (S' := []) (sh' := mz_sh) (m' := m) (g := true) rfl rfl (rfl) ?_
        by_cases c10 : a2 = 0
        · have h9 := h8.1 c10
          rw [show ((25 : Int) + Op.lookupswitch.offset (#[(0, 27), (1, 37)] : Array (Int × Int)).toList 47 (a2).toInt).toNat = 52 by rw [c10]; decide +kernel]
          obtain ⟨g11, h12⟩ := h9
          refine mz_go_blk mz_m109 5 (pc' := 61) (L' := [some (.ref 0), some (.int a1), some (.int a2)]) (S' := [.int (m 42 a1.toNatClampNeg)]) (sh' := mz_sh) (m' := m) (g := mz_inb a1 8001 && true) rfl rfl (mz_and2 (g11) (rfl)) ?_
          exact mz_go_ret mz_m109 rfl rfl rfl ⟨_, rfl, rfl, h12⟩
        have h13 := h8.2
        by_cases c15 : a2 = 1
        · have h14 := h13.1 c15
          rw [show ((25 : Int) + Op.lookupswitch.offset (#[(0, 27), (1, 37)] : Array (Int × Int)).toList 47 (a2).toInt).toNat = 62 by rw [c15]; decide +kernel]
          obtain ⟨g16, h17⟩ := h14
          refine mz_go_blk mz_m109 5 (pc' := 71) (L' := [some (.ref 0), some (.int a1), some (.int a2)]) (S' := [.int (m 43 a1.toNatClampNeg)]) (sh' := mz_sh) (m' := m) (g := mz_inb a1 8001 && true) rfl rfl (mz_and2 (g16) (rfl)) ?_
          exact mz_go_ret mz_m109 rfl rfl rfl ⟨_, rfl, rfl, h17⟩
        have h18 := h13.2
        have h18d := h18 c10 c15
        rw [show ((25 : Int) + Op.lookupswitch.offset (#[(0, 27), (1, 37)] : Array (Int × Int)).toList 47 (a2).toInt).toNat = 72 from mz_lswd _ _ _ a2 (by simp only [List.all_cons, List.all_nil, Bool.and_true, Bool.and_eq_true, decide_eq_true_eq]; exact ⟨fun z => c10 (mz_tI (by rw [z]; decide +kernel)), fun z => c15 (mz_tI (by rw [z]; decide +kernel))⟩) (by decide)]
        refine mz_go_blk mz_m109 1 (pc' := 73) (L' := [some (.ref 0), some (.int a1), some (.int a2)]) (S' := [.int (-1)]) (sh' := mz_sh) (m' := m) (g := true) rfl rfl (rfl) ?_
        exact mz_go_ret mz_m109 rfl rfl rfl ⟨_, rfl, rfl, h18d⟩
      · have h19 := h6.2 c7
        refine mz_go_blk mz_m109 1 (pc' := 23) (L' := [some (.ref 0), some (.int a1), some (.int a2)]) (S' := [.int (-1)]) (sh' := mz_sh) (m' := m) (g := true) rfl rfl (rfl) ?_
        exact mz_go_ret mz_m109 rfl rfl rfl ⟨_, rfl, rfl, h19⟩
set_option maxRecDepth 100000 in
theorem t_A_input_0 {X : mz_X} {m : mz_M} {Q : Int32 → mz_M → Prop} (a1 : Int32) (a2 : Int32)
    (h : ((a1 < 0 → Q 0 m) ∧ (¬ (a1 < 0) → ((a1 < 32 → mz_inb a1 32 = true ∧ mz_inb a1 32 = true ∧ Q (m 46 a1.toNatClampNeg) (mz_up m 46 a1.toNatClampNeg a2)) ∧ (¬ (a1 < 32) → Q 0 m))))) :
    mz_gi X mz_sh 110 0 [some (.ref 0), some (.int a1), some (.int a2), none] m Q := by
  refine mz_go_blk mz_m110 2 (pc' := (if a1 < 0 then 10 else 4)) (L' := [some (.ref 0), some (.int a1), some (.int a2), none]) (S' := []) (sh' := mz_sh) (m' := m) (g := true) rfl rfl (rfl) ?_
  refine mz_go_if (fun c1 => ?_) (fun c1 => ?_)
  · have h2 := h.1 c1
    refine mz_go_blk mz_m110 1 (pc' := 11) (L' := [some (.ref 0), some (.int a1), some (.int a2), none]) (S' := [.int 0]) (sh' := mz_sh) (m' := m) (g := true) rfl rfl (rfl) ?_
    exact mz_go_ret mz_m110 rfl rfl rfl ⟨_, rfl, rfl, h2⟩
  · have h3 := h.2 c1
    refine mz_go_blk mz_m110 3 (pc' := (if a1 < 32 then 12 else 10)) (L' := [some (.ref 0), some (.int a1), some (.int a2), none]) (S' := []) (sh' := mz_sh) (m' := m) (g := true) rfl rfl (rfl) ?_
    refine mz_go_if (fun c4 => ?_) (fun c4 => ?_)
    · have h5 := h3.1 c4
      obtain ⟨g6, g7, h8⟩ := h5
      refine mz_go_blk mz_m110 11 (pc' := 27) (L' := [some (.ref 0), some (.int a1), some (.int a2), some (.int (m 46 a1.toNatClampNeg))]) (S' := [.int (m 46 a1.toNatClampNeg)]) (sh' := mz_sh) (m' := mz_up m 46 a1.toNatClampNeg a2) (g := mz_inb a1 32 && (mz_inb a1 32 && true)) rfl rfl (mz_and2 (g7) (mz_and2 (g6) (rfl))) ?_
      exact mz_go_ret mz_m110 rfl rfl rfl ⟨_, rfl, rfl, h8⟩
    · have h9 := h3.2 c4
      refine mz_go_blk mz_m110 1 (pc' := 11) (L' := [some (.ref 0), some (.int a1), some (.int a2), none]) (S' := [.int 0]) (sh' := mz_sh) (m' := m) (g := true) rfl rfl (rfl) ?_
      exact mz_go_ret mz_m110 rfl rfl rfl ⟨_, rfl, rfl, h9⟩
set_option maxRecDepth 100000 in
theorem t_A_runTree_0 {X : mz_X} {m : mz_M} {Q : Int32 → mz_M → Prop} (a1 : Int32)
    (h : ((a1 < 0 → Q (-1) m) ∧ (¬ (a1 < 0) → ((a1 ≤ 100000 → (((m 0 6) = 0 → Q (-3) m) ∧ (¬ ((m 0 6) = 0) → mz_gv X mz_sh 35 0 [some (.ref 47), some (.int a1), some (.ref 46)] m (fun m9 => mz_gv X mz_sh 89 0 [some (.ref 50), none, none] m9 (fun m11 => Q (m11 47 1) m11))))) ∧ (¬ (a1 ≤ 100000) → Q (-1) m))))) :
    mz_gi X mz_sh 111 0 [some (.ref 0), some (.int a1)] m Q := by
  refine mz_go_blk mz_m111 2 (pc' := (if a1 < 0 then 10 else 4)) (L' := [some (.ref 0), some (.int a1)]) (S' := []) (sh' := mz_sh) (m' := m) (g := true) rfl rfl (rfl) ?_
  refine mz_go_if (fun c1 => ?_) (fun c1 => ?_)
  · have h2 := h.1 c1
    refine mz_go_blk mz_m111 1 (pc' := 11) (L' := [some (.ref 0), some (.int a1)]) (S' := [.int (-1)]) (sh' := mz_sh) (m' := m) (g := true) rfl rfl (rfl) ?_
    exact mz_go_ret mz_m111 rfl rfl rfl ⟨_, rfl, rfl, h2⟩
  · have h3 := h.2 c1
    refine mz_go_blk mz_m111 3 (pc' := (if a1 ≤ 100000 then 12 else 10)) (L' := [some (.ref 0), some (.int a1)]) (S' := []) (sh' := mz_sh) (m' := m) (g := true) rfl rfl (rfl) ?_
    refine mz_go_if (fun c4 => ?_) (fun c4 => ?_)
    · have h5 := h3.1 c4
      refine mz_go_blk mz_m111 3 (pc' := (if (m 0 6) = 0 then 19 else 22)) (L' := [some (.ref 0), some (.int a1)]) (S' := []) (sh' := mz_sh) (m' := m) (g := true) rfl rfl (rfl) ?_
      refine mz_go_if (fun c6 => ?_) (fun c6 => ?_)
      · have h7 := h5.1 c6
        refine mz_go_blk mz_m111 1 (pc' := 21) (L' := [some (.ref 0), some (.int a1)]) (S' := [.int (-3)]) (sh' := mz_sh) (m' := m) (g := true) rfl rfl (rfl) ?_
        exact mz_go_ret mz_m111 rfl rfl rfl ⟨_, rfl, rfl, h7⟩
      · have h8 := h5.2 c6
        refine mz_go_blk mz_m111 5 (pc' := 31) (L' := [some (.ref 0), some (.int a1)]) (S' := [.ref 46, .int a1, .ref 47]) (sh' := mz_sh) (m' := m) (g := true) rfl rfl (rfl) ?_
        refine mz_go_call mz_m111 mz_m35 rfl rfl rfl rfl rfl rfl rfl h8 (fun v sh1 m9 hv => ?_)
        obtain ⟨rfl, rfl, h10⟩ := hv
        refine mz_go_blk mz_m111 2 (pc' := 38) (L' := [some (.ref 0), some (.int a1)]) (S' := [.ref 50]) (sh' := mz_sh) (m' := m9) (g := true) rfl rfl (rfl) ?_
        refine mz_go_call mz_m111 mz_m89 rfl rfl rfl rfl rfl rfl rfl h10 (fun v sh1 m11 hv => ?_)
        obtain ⟨rfl, rfl, h12⟩ := hv
        refine mz_go_blk mz_m111 3 (pc' := 48) (L' := [some (.ref 0), some (.int a1)]) (S' := [.int (m11 47 1)]) (sh' := mz_sh) (m' := m11) (g := true) rfl rfl (rfl) ?_
        exact mz_go_ret mz_m111 rfl rfl rfl ⟨_, rfl, rfl, h12⟩
    · have h13 := h3.2 c4
      refine mz_go_blk mz_m111 1 (pc' := 11) (L' := [some (.ref 0), some (.int a1)]) (S' := [.int (-1)]) (sh' := mz_sh) (m' := m) (g := true) rfl rfl (rfl) ?_
      exact mz_go_ret mz_m111 rfl rfl rfl ⟨_, rfl, rfl, h13⟩
set_option maxRecDepth 100000 in
theorem t_A_runCode_0 {X : mz_X} {m : mz_M} {Q : Int32 → mz_M → Prop} (a1 : Int32)
    (h : ((a1 < 0 → Q (-1) m) ∧ (¬ (a1 < 0) → ((a1 ≤ 100000 → (((m 0 8) = 0 → Q (-3) m) ∧ (¬ ((m 0 8) = 0) → mz_gv X mz_sh 35 0 [some (.ref 47), some (.int a1), some (.ref 46)] m (fun m9 => mz_gv X mz_sh 15 0 [some (.ref 53), none, none] m9 (fun m11 => Q (m11 47 1) m11))))) ∧ (¬ (a1 ≤ 100000) → Q (-1) m))))) :
    mz_gi X mz_sh 112 0 [some (.ref 0), some (.int a1)] m Q := by
  refine mz_go_blk mz_m112 2 (pc' := (if a1 < 0 then 10 else 4)) (L' := [some (.ref 0), some (.int a1)]) (S' := []) (sh' := mz_sh) (m' := m) (g := true) rfl rfl (rfl) ?_
  refine mz_go_if (fun c1 => ?_) (fun c1 => ?_)
  · have h2 := h.1 c1
    refine mz_go_blk mz_m112 1 (pc' := 11) (L' := [some (.ref 0), some (.int a1)]) (S' := [.int (-1)]) (sh' := mz_sh) (m' := m) (g := true) rfl rfl (rfl) ?_
    exact mz_go_ret mz_m112 rfl rfl rfl ⟨_, rfl, rfl, h2⟩
  · have h3 := h.2 c1
    refine mz_go_blk mz_m112 3 (pc' := (if a1 ≤ 100000 then 12 else 10)) (L' := [some (.ref 0), some (.int a1)]) (S' := []) (sh' := mz_sh) (m' := m) (g := true) rfl rfl (rfl) ?_
    refine mz_go_if (fun c4 => ?_) (fun c4 => ?_)
    · have h5 := h3.1 c4
      refine mz_go_blk mz_m112 3 (pc' := (if (m 0 8) = 0 then 19 else 22)) (L' := [some (.ref 0), some (.int a1)]) (S' := []) (sh' := mz_sh) (m' := m) (g := true) rfl rfl (rfl) ?_
      refine mz_go_if (fun c6 => ?_) (fun c6 => ?_)
      · have h7 := h5.1 c6
        refine mz_go_blk mz_m112 1 (pc' := 21) (L' := [some (.ref 0), some (.int a1)]) (S' := [.int (-3)]) (sh' := mz_sh) (m' := m) (g := true) rfl rfl (rfl) ?_
        exact mz_go_ret mz_m112 rfl rfl rfl ⟨_, rfl, rfl, h7⟩
      · have h8 := h5.2 c6
        refine mz_go_blk mz_m112 5 (pc' := 31) (L' := [some (.ref 0), some (.int a1)]) (S' := [.ref 46, .int a1, .ref 47]) (sh' := mz_sh) (m' := m) (g := true) rfl rfl (rfl) ?_
        refine mz_go_call mz_m112 mz_m35 rfl rfl rfl rfl rfl rfl rfl h8 (fun v sh1 m9 hv => ?_)
        obtain ⟨rfl, rfl, h10⟩ := hv
        refine mz_go_blk mz_m112 2 (pc' := 38) (L' := [some (.ref 0), some (.int a1)]) (S' := [.ref 53]) (sh' := mz_sh) (m' := m9) (g := true) rfl rfl (rfl) ?_
        refine mz_go_call mz_m112 mz_m15 rfl rfl rfl rfl rfl rfl rfl h10 (fun v sh1 m11 hv => ?_)
        obtain ⟨rfl, rfl, h12⟩ := hv
        refine mz_go_blk mz_m112 3 (pc' := 48) (L' := [some (.ref 0), some (.int a1)]) (S' := [.int (m11 47 1)]) (sh' := mz_sh) (m' := m11) (g := true) rfl rfl (rfl) ?_
        exact mz_go_ret mz_m112 rfl rfl rfl ⟨_, rfl, rfl, h12⟩
    · have h13 := h3.2 c4
      refine mz_go_blk mz_m112 1 (pc' := 11) (L' := [some (.ref 0), some (.int a1)]) (S' := [.int (-1)]) (sh' := mz_sh) (m' := m) (g := true) rfl rfl (rfl) ?_
      exact mz_go_ret mz_m112 rfl rfl rfl ⟨_, rfl, rfl, h13⟩
set_option maxRecDepth 100000 in
theorem t_A_ran_0 {X : mz_X} {m : mz_M} {Q : Int32 → mz_M → Prop} (a1 : Int32)
    (h : (((m 47 0) = 0 → Q (-1) m) ∧ (¬ ((m 47 0) = 0) → ((a1 = 0 → Q (m 47 1) m) ∧ (a1 = 1 → Q (m 47 3) m) ∧ (a1 = 2 → Q (m 47 5) m) ∧ (a1 = 3 → Q (m 47 4) m) ∧ (¬ a1 = 0 → ¬ a1 = 1 → ¬ a1 = 2 → ¬ a1 = 3 → Q (-1) m))))) :
    mz_gi X mz_sh 113 0 [some (.ref 0), some (.int a1)] m Q := by
  refine mz_go_blk mz_m113 4 (pc' := (if (m 47 0) = 0 then 10 else 12)) (L' := [some (.ref 0), some (.int a1)]) (S' := []) (sh' := mz_sh) (m' := m) (g := true) rfl rfl (rfl) ?_
  refine mz_go_if (fun c1 => ?_) (fun c1 => ?_)
  · have h2 := h.1 c1
    refine mz_go_blk mz_m113 1 (pc' := 11) (L' := [some (.ref 0), some (.int a1)]) (S' := [.int (-1)]) (sh' := mz_sh) (m' := m) (g := true) rfl rfl (rfl) ?_
    exact mz_go_ret mz_m113 rfl rfl rfl ⟨_, rfl, rfl, h2⟩
  · have h3 := h.2 c1
    refine mz_go_blk mz_m113 2 (pc' := (mz_tsw 13 63 0 3 #[31, 39, 47, 55] a1)) (L' := [some (.ref 0), some (.int a1)]) (S' := []) (sh' := mz_sh) (m' := m) (g := true) rfl rfl (rfl) ?_
    by_cases c5 : a1 = 0
    · have h4 := h3.1 c5
      rw [show mz_tsw 13 63 0 3 #[31, 39, 47, 55] a1 = 44 by rw [c5]; decide +kernel]
      refine mz_go_blk mz_m113 3 (pc' := 51) (L' := [some (.ref 0), some (.int a1)]) (S' := [.int (m 47 1)]) (sh' := mz_sh) (m' := m) (g := true) rfl rfl (rfl) ?_
      exact mz_go_ret mz_m113 rfl rfl rfl ⟨_, rfl, rfl, h4⟩
    have h6 := h3.2
    by_cases c8 : a1 = 1
    · have h7 := h6.1 c8
      rw [show mz_tsw 13 63 0 3 #[31, 39, 47, 55] a1 = 52 by rw [c8]; decide +kernel]
      refine mz_go_blk mz_m113 3 (pc' := 59) (L' := [some (.ref 0), some (.int a1)]) (S' := [.int (m 47 3)]) (sh' := mz_sh) (m' := m) (g := true) rfl rfl (rfl) ?_
      exact mz_go_ret mz_m113 rfl rfl rfl ⟨_, rfl, rfl, h7⟩
    have h9 := h6.2
    by_cases c11 : a1 = 2
    · have h10 := h9.1 c11
      rw [show mz_tsw 13 63 0 3 #[31, 39, 47, 55] a1 = 60 by rw [c11]; decide +kernel]
      refine mz_go_blk mz_m113 3 (pc' := 67) (L' := [some (.ref 0), some (.int a1)]) (S' := [.int (m 47 5)]) (sh' := mz_sh) (m' := m) (g := true) rfl rfl (rfl) ?_
      exact mz_go_ret mz_m113 rfl rfl rfl ⟨_, rfl, rfl, h10⟩
    have h12 := h9.2
    by_cases c14 : a1 = 3
    · have h13 := h12.1 c14
      rw [show mz_tsw 13 63 0 3 #[31, 39, 47, 55] a1 = 68 by rw [c14]; decide +kernel]
      refine mz_go_blk mz_m113 3 (pc' := 75) (L' := [some (.ref 0), some (.int a1)]) (S' := [.int (m 47 4)]) (sh' := mz_sh) (m' := m) (g := true) rfl rfl (rfl) ?_
      exact mz_go_ret mz_m113 rfl rfl rfl ⟨_, rfl, rfl, h13⟩
    have h15 := h12.2
    have h15d := h15 c5 c8 c11 c14
    rw [show mz_tsw 13 63 0 3 #[31, 39, 47, 55] a1 = 76 from (by
        refine mz_tswd _ _ _ _ _ a1 76 (by decide +kernel) (fun k hk z => ?_)
        match k, hk, z with
        | 0, _, z => exact absurd (mz_tI (by rw [z]; decide +kernel)) c5
        | 1, _, z => exact absurd (mz_tI (by rw [z]; decide +kernel)) c8
        | 2, _, z => exact absurd (mz_tI (by rw [z]; decide +kernel)) c11
        | 3, _, z => exact absurd (mz_tI (by rw [z]; decide +kernel)) c14
        | k + 4, hk, _ => exact absurd hk (by simp only [Array.size]; simp)
      )]
    refine mz_go_blk mz_m113 1 (pc' := 77) (L' := [some (.ref 0), some (.int a1)]) (S' := [.int (-1)]) (sh' := mz_sh) (m' := m) (g := true) rfl rfl (rfl) ?_
    exact mz_go_ret mz_m113 rfl rfl rfl ⟨_, rfl, rfl, h15d⟩
set_option maxRecDepth 100000 in
theorem t_A_out_0 {X : mz_X} {m : mz_M} {Q : Int32 → mz_M → Prop} (a1 : Int32)
    (h : (((m 47 0) = 0 → Q 0 m) ∧ (¬ ((m 47 0) = 0) → mz_gi X mz_sh 40 0 [some (.ref 47), some (.int a1)] m (fun r6 m4 => Q r6 m4)))) :
    mz_gi X mz_sh 114 0 [some (.ref 0), some (.int a1)] m Q := by
  refine mz_go_blk mz_m114 4 (pc' := (if (m 47 0) = 0 then 21 else 10)) (L' := [some (.ref 0), some (.int a1)]) (S' := []) (sh' := mz_sh) (m' := m) (g := true) rfl rfl (rfl) ?_
  refine mz_go_if (fun c1 => ?_) (fun c1 => ?_)
  · have h2 := h.1 c1
    refine mz_go_blk mz_m114 1 (pc' := 22) (L' := [some (.ref 0), some (.int a1)]) (S' := [.int 0]) (sh' := mz_sh) (m' := m) (g := true) rfl rfl (rfl) ?_
    exact mz_go_ret mz_m114 rfl rfl rfl ⟨_, rfl, rfl, h2⟩
  · have h3 := h.2 c1
    refine mz_go_blk mz_m114 3 (pc' := 15) (L' := [some (.ref 0), some (.int a1)]) (S' := [.int a1, .ref 47]) (sh' := mz_sh) (m' := m) (g := true) rfl rfl (rfl) ?_
    refine mz_go_call mz_m114 mz_m40 rfl rfl rfl rfl rfl rfl rfl h3 (fun v sh1 m4 hv => ?_)
    obtain ⟨r6, rfl, rfl, h5⟩ := hv
    refine mz_go_blk mz_m114 1 (pc' := 22) (L' := [some (.ref 0), some (.int a1)]) (S' := [.int r6]) (sh' := mz_sh) (m' := m4) (g := true) rfl rfl (rfl) ?_
    exact mz_go_ret mz_m114 rfl rfl rfl ⟨_, rfl, rfl, h5⟩
set_option maxRecDepth 100000 in
theorem t_A_value_0 {X : mz_X} {m : mz_M} {Q : Int32 → mz_M → Prop} (a1 : Int32)
    (h : (((m 47 0) = 0 → Q 0 m) ∧ (¬ ((m 47 0) = 0) → mz_gi X mz_sh 41 0 [some (.ref 47), some (.int a1)] m (fun r6 m4 => Q r6 m4)))) :
    mz_gi X mz_sh 115 0 [some (.ref 0), some (.int a1)] m Q := by
  refine mz_go_blk mz_m115 4 (pc' := (if (m 47 0) = 0 then 21 else 10)) (L' := [some (.ref 0), some (.int a1)]) (S' := []) (sh' := mz_sh) (m' := m) (g := true) rfl rfl (rfl) ?_
  refine mz_go_if (fun c1 => ?_) (fun c1 => ?_)
  · have h2 := h.1 c1
    refine mz_go_blk mz_m115 1 (pc' := 22) (L' := [some (.ref 0), some (.int a1)]) (S' := [.int 0]) (sh' := mz_sh) (m' := m) (g := true) rfl rfl (rfl) ?_
    exact mz_go_ret mz_m115 rfl rfl rfl ⟨_, rfl, rfl, h2⟩
  · have h3 := h.2 c1
    refine mz_go_blk mz_m115 3 (pc' := 15) (L' := [some (.ref 0), some (.int a1)]) (S' := [.int a1, .ref 47]) (sh' := mz_sh) (m' := m) (g := true) rfl rfl (rfl) ?_
    refine mz_go_call mz_m115 mz_m41 rfl rfl rfl rfl rfl rfl rfl h3 (fun v sh1 m4 hv => ?_)
    obtain ⟨r6, rfl, rfl, h5⟩ := hv
    refine mz_go_blk mz_m115 1 (pc' := 22) (L' := [some (.ref 0), some (.int a1)]) (S' := [.int r6]) (sh' := mz_sh) (m' := m4) (g := true) rfl rfl (rfl) ?_
    exact mz_go_ret mz_m115 rfl rfl rfl ⟨_, rfl, rfl, h5⟩
set_option maxRecDepth 100000 in
theorem t_A_forgetTokens_0 {X : mz_X} {m : mz_M} {Q : mz_M → Prop}
    (h : mz_gv X mz_sh 117 0 [some (.ref 0)] (mz_up m 2 6 0) (fun m1 => Q m1)) :
    mz_gv X mz_sh 116 0 [some (.ref 0)] m Q := by
  refine mz_go_blk mz_m116 5 (pc' := 9) (L' := [some (.ref 0)]) (S' := [.ref 0]) (sh' := mz_sh) (m' := mz_up m 2 6 0) (g := (decide (0 = 0) || decide (0 = 1)) && true) rfl rfl (mz_and2 (by decide) (rfl)) ?_
  refine mz_go_call mz_m116 mz_m117 rfl rfl rfl rfl rfl rfl rfl h (fun v sh1 m1 hv => ?_)
  obtain ⟨rfl, rfl, h2⟩ := hv
  exact mz_go_ret mz_m116 rfl rfl rfl ⟨rfl, rfl, h2⟩
set_option maxRecDepth 100000 in
theorem t_A_forgetTree_0 {X : mz_X} {m : mz_M} {Q : mz_M → Prop}
    (h : Q (mz_up (mz_up m 0 6 0) 0 8 0)) :
    mz_gv X mz_sh 117 0 [some (.ref 0)] m Q := by
  refine mz_go_blk mz_m117 6 (pc' := 10) (L' := [some (.ref 0)]) (S' := []) (sh' := mz_sh) (m' := mz_up (mz_up m 0 6 0) 0 8 0) (g := (decide (0 = 0) || decide (0 = 1)) && ((decide (0 = 0) || decide (0 = 1)) && true)) rfl rfl (mz_and2 (by decide) (mz_and2 (by decide) (rfl))) ?_
  exact mz_go_ret mz_m117 rfl rfl rfl ⟨rfl, rfl, h⟩
