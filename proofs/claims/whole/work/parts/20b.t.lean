set_option maxRecDepth 100000 in
theorem t_P_read_0 {X : mz_X} {m : mz_M} {Q : Int32 → mz_M → Prop}
    (h : mz_gv X mz_sh 23 0 [some (.ref 9), some (.int 0), some (.int 0)] (mz_up (mz_up (mz_up m 9 1 0) 11 5 0) 9 6 0) (fun m1 => mz_gi X mz_sh 22 28 [some (.ref 9), some (.ref 2), some (.int 0), some (.int 0), none] m1 Q)) :
    mz_gi X mz_sh 22 0 [some (.ref 9), some (.ref 2), none, none, none] m Q := by
  refine mz_go_blk mz_m22 13 (pc' := 21) (L' := [some (.ref 9), some (.ref 2), none, none, none]) (S' := [.int 0, .int 0, .ref 9]) (sh' := mz_sh) (m' := mz_up (mz_up (mz_up m 9 1 0) 11 5 0) 9 6 0) (g := true) rfl rfl (rfl) ?_
  refine mz_go_call mz_m22 mz_m23 rfl rfl rfl rfl rfl rfl rfl h (fun v sh1 m1 hv => ?_)
  obtain ⟨rfl, rfl, h2⟩ := hv
  refine mz_go_blk mz_m22 4 (pc' := 28) (L' := [some (.ref 9), some (.ref 2), some (.int 0), some (.int 0), none]) (S' := []) (sh' := mz_sh) (m' := m1) (g := true) rfl rfl (rfl) ?_
  exact h2
set_option maxRecDepth 100000 in
theorem t_P_read_1 {X : mz_X} {m : mz_M} {Q : Int32 → mz_M → Prop} (l2 : Int32) (l3 : Int32)
    (h : ((20018 ≤ l3 → Q l2 m) ∧ (¬ (20018 ≤ l3) → (((m 2 4) < l2 → Q l2 m) ∧ (¬ ((m 2 4) < l2) → mz_inb ((m 9 6) - 1) 8004 = true ∧ mz_inb l2 4001 = true ∧ mz_gi X mz_sh 46 0 [some (.ref 18), some (.int (m 28 (((m 9 6) - 1).toNatClampNeg))), some (.int (m 3 l2.toNatClampNeg)), none] m (fun r12 m10 => ((r12 = 0 → Q l2 m10) ∧ (¬ (r12 = 0) → ((r12 = 1000 → mz_inb ((m10 9 6) - 1) 8004 = true ∧ mz_gv X mz_sh 82 0 [some (.ref 11), some (.int 0), some (.int 0), some (.int (m10 29 (((m10 9 6) - 1).toNatClampNeg))), none, none, none] m10 (fun m20 => Q (-1) m20)) ∧ (¬ (r12 = 1000) → ((r12 ≤ 0 → mz_gv X mz_sh 24 0 [some (.ref 9), some (.int (-r12)), none, none] m10 (fun m25 => mz_gi X mz_sh 22 28 [some (.ref 9), some (.ref 2), some (.int l2), some (.int (l3 + 1)), none] m25 Q)) ∧ (¬ (r12 ≤ 0) → mz_gv X mz_sh 23 0 [some (.ref 9), some (.int r12), some (.int l2)] m10 (fun m28 => mz_gi X mz_sh 22 28 [some (.ref 9), some (.ref 2), some (.int (l2 + 1)), some (.int (l3 + 1)), none] m28 Q))))))))))))) :
    mz_gi X mz_sh 22 28 [some (.ref 9), some (.ref 2), some (.int l2), some (.int l3), none] m Q := by
  refine mz_go_blk mz_m22 3 (pc' := (if 20018 ≤ l3 then 137 else 35)) (L' := [some (.ref 9), some (.ref 2), some (.int l2), some (.int l3), none]) (S' := []) (sh' := mz_sh) (m' := m) (g := true) rfl rfl (rfl) ?_
  refine mz_go_if (fun c1 => ?_) (fun c1 => ?_)
  · have h2 := h.1 c1
    refine mz_go_blk mz_m22 1 (pc' := 138) (L' := [some (.ref 9), some (.ref 2), some (.int l2), some (.int l3), none]) (S' := [.int l2]) (sh' := mz_sh) (m' := m) (g := true) rfl rfl (rfl) ?_
    exact mz_go_ret mz_m22 rfl rfl rfl ⟨_, rfl, rfl, h2⟩
  · have h3 := h.2 c1
    refine mz_go_blk mz_m22 4 (pc' := (if (m 2 4) < l2 then 137 else 43)) (L' := [some (.ref 9), some (.ref 2), some (.int l2), some (.int l3), none]) (S' := []) (sh' := mz_sh) (m' := m) (g := true) rfl rfl (rfl) ?_
    refine mz_go_if (fun c4 => ?_) (fun c4 => ?_)
    · have h5 := h3.1 c4
      refine mz_go_blk mz_m22 1 (pc' := 138) (L' := [some (.ref 9), some (.ref 2), some (.int l2), some (.int l3), none]) (S' := [.int l2]) (sh' := mz_sh) (m' := m) (g := true) rfl rfl (rfl) ?_
      exact mz_go_ret mz_m22 rfl rfl rfl ⟨_, rfl, rfl, h5⟩
    · have h6 := h3.2 c4
      obtain ⟨g7, g8, h9⟩ := h6
      refine mz_go_blk mz_m22 13 (pc' := 64) (L' := [some (.ref 9), some (.ref 2), some (.int l2), some (.int l3), none]) (S' := [.int (m 3 l2.toNatClampNeg), .int (m 28 (((m 9 6) - 1).toNatClampNeg)), .ref 18]) (sh' := mz_sh) (m' := m) (g := mz_inb l2 4001 && (mz_inb ((m 9 6) - 1) 8004 && true)) rfl rfl (mz_and2 (g8) (mz_and2 (g7) (rfl))) ?_
      refine mz_go_call mz_m22 mz_m46 rfl rfl rfl rfl rfl rfl rfl h9 (fun v sh1 m10 hv => ?_)
      obtain ⟨r12, rfl, rfl, h11⟩ := hv
      refine mz_go_blk mz_m22 3 (pc' := (if r12 = 0 then 74 else 76)) (L' := [some (.ref 9), some (.ref 2), some (.int l2), some (.int l3), some (.int r12)]) (S' := []) (sh' := mz_sh) (m' := m10) (g := true) rfl rfl (rfl) ?_
      refine mz_go_if (fun c13 => ?_) (fun c13 => ?_)
      · have h14 := h11.1 c13
        refine mz_go_blk mz_m22 1 (pc' := 75) (L' := [some (.ref 9), some (.ref 2), some (.int l2), some (.int l3), some (.int r12)]) (S' := [.int l2]) (sh' := mz_sh) (m' := m10) (g := true) rfl rfl (rfl) ?_
        exact mz_go_ret mz_m22 rfl rfl rfl ⟨_, rfl, rfl, h14⟩
      · have h15 := h11.2 c13
        refine mz_go_blk mz_m22 3 (pc' := (if r12 = 1000 then 84 else 106)) (L' := [some (.ref 9), some (.ref 2), some (.int l2), some (.int l3), some (.int r12)]) (S' := []) (sh' := mz_sh) (m' := m10) (g := true) rfl rfl (rfl) ?_
        refine mz_go_if (fun c16 => ?_) (fun c16 => ?_)
        · have h17 := h15.1 c16
          obtain ⟨g18, h19⟩ := h17
          refine mz_go_blk mz_m22 11 (pc' := 101) (L' := [some (.ref 9), some (.ref 2), some (.int l2), some (.int l3), some (.int r12)]) (S' := [.int (m10 29 (((m10 9 6) - 1).toNatClampNeg)), .int 0, .int 0, .ref 11]) (sh' := mz_sh) (m' := m10) (g := mz_inb ((m10 9 6) - 1) 8004 && true) rfl rfl (mz_and2 (g18) (rfl)) ?_
          refine mz_go_call mz_m22 mz_m82 rfl rfl rfl rfl rfl rfl rfl h19 (fun v sh1 m20 hv => ?_)
          obtain ⟨rfl, rfl, h21⟩ := hv
          refine mz_go_blk mz_m22 1 (pc' := 105) (L' := [some (.ref 9), some (.ref 2), some (.int l2), some (.int l3), some (.int r12)]) (S' := [.int (-1)]) (sh' := mz_sh) (m' := m20) (g := true) rfl rfl (rfl) ?_
          exact mz_go_ret mz_m22 rfl rfl rfl ⟨_, rfl, rfl, h21⟩
        · have h22 := h15.2 c16
          refine mz_go_blk mz_m22 2 (pc' := (if r12 ≤ 0 then 124 else 111)) (L' := [some (.ref 9), some (.ref 2), some (.int l2), some (.int l3), some (.int r12)]) (S' := []) (sh' := mz_sh) (m' := m10) (g := true) rfl rfl (rfl) ?_
          refine mz_go_if (fun c23 => ?_) (fun c23 => ?_)
          · have h24 := h22.1 c23
            refine mz_go_blk mz_m22 3 (pc' := 128) (L' := [some (.ref 9), some (.ref 2), some (.int l2), some (.int l3), some (.int r12)]) (S' := [.int (-r12), .ref 9]) (sh' := mz_sh) (m' := m10) (g := true) rfl rfl (rfl) ?_
            refine mz_go_call mz_m22 mz_m24 rfl rfl rfl rfl rfl rfl rfl h24 (fun v sh1 m25 hv => ?_)
            obtain ⟨rfl, rfl, h26⟩ := hv
            refine mz_go_blk mz_m22 2 (pc' := 28) (L' := [some (.ref 9), some (.ref 2), some (.int l2), some (.int (l3 + 1)), some (.int r12)]) (S' := []) (sh' := mz_sh) (m' := m25) (g := true) rfl rfl (rfl) ?_
            exact mz_go.forget (L := [some (.ref 9), some (.ref 2), some (.int l2), some (.int (l3 + 1)), none]) (mz_lel_cons rfl (mz_lel_cons rfl (mz_lel_cons rfl (mz_lel_cons rfl (mz_lel_cons trivial (mz_lel_nil)))))) h26
          · have h27 := h22.2 c23
            refine mz_go_blk mz_m22 3 (pc' := 115) (L' := [some (.ref 9), some (.ref 2), some (.int l2), some (.int l3), some (.int r12)]) (S' := [.int l2, .int r12, .ref 9]) (sh' := mz_sh) (m' := m10) (g := true) rfl rfl (rfl) ?_
            refine mz_go_call mz_m22 mz_m23 rfl rfl rfl rfl rfl rfl rfl h27 (fun v sh1 m28 hv => ?_)
            obtain ⟨rfl, rfl, h29⟩ := hv
            refine mz_go_blk mz_m22 4 (pc' := 28) (L' := [some (.ref 9), some (.ref 2), some (.int (l2 + 1)), some (.int (l3 + 1)), some (.int r12)]) (S' := []) (sh' := mz_sh) (m' := m28) (g := true) rfl rfl (rfl) ?_
            exact mz_go.forget (L := [some (.ref 9), some (.ref 2), some (.int (l2 + 1)), some (.int (l3 + 1)), none]) (mz_lel_cons rfl (mz_lel_cons rfl (mz_lel_cons rfl (mz_lel_cons rfl (mz_lel_cons trivial (mz_lel_nil)))))) h29
set_option maxRecDepth 100000 in
theorem t_P_push_0 {X : mz_X} {m : mz_M} {Q : mz_M → Prop} (a1 : Int32) (a2 : Int32)
    (h : ((8004 ≤ (m 9 6) → Q m) ∧ (¬ (8004 ≤ (m 9 6)) → mz_inb (m 9 6) 8004 = true ∧ mz_inb (m 9 6) 8004 = true ∧ Q (mz_up (mz_up (mz_up m 28 ((m 9 6).toNatClampNeg) a1) 29 ((m 9 6).toNatClampNeg) a2) 9 6 ((m 9 6) + 1))))) :
    mz_gv X mz_sh 23 0 [some (.ref 9), some (.int a1), some (.int a2)] m Q := by
  refine mz_go_blk mz_m23 4 (pc' := (if 8004 ≤ (m 9 6) then 40 else 10)) (L' := [some (.ref 9), some (.int a1), some (.int a2)]) (S' := []) (sh' := mz_sh) (m' := m) (g := true) rfl rfl (rfl) ?_
  refine mz_go_if (fun c1 => ?_) (fun c1 => ?_)
  · have h2 := h.1 c1
    exact mz_go_ret mz_m23 rfl rfl rfl ⟨rfl, rfl, h2⟩
  · have h3 := h.2 c1
    obtain ⟨g4, g5, h6⟩ := h3
    refine mz_go_blk mz_m23 18 (pc' := 40) (L' := [some (.ref 9), some (.int a1), some (.int a2)]) (S' := []) (sh' := mz_sh) (m' := mz_up (mz_up (mz_up m 28 ((m 9 6).toNatClampNeg) a1) 29 ((m 9 6).toNatClampNeg) a2) 9 6 ((m 9 6) + 1)) (g := mz_inb (m 9 6) 8004 && (mz_inb (m 9 6) 8004 && true)) rfl rfl (mz_and2 (g5) (mz_and2 (g4) (rfl))) ?_
    exact mz_go_ret mz_m23 rfl rfl rfl ⟨rfl, rfl, h6⟩
set_option maxRecDepth 100000 in
theorem t_P_reduce_0 {X : mz_X} {m : mz_M} {Q : mz_M → Prop} (a1 : Int32)
    (h : mz_gv X mz_sh 25 0 [some (.ref 9), some (.int a1)] m (fun m1 => mz_gi X mz_sh 47 0 [some (.ref 18), some (.int a1)] m1 (fun r5 m3 => ((1 ≤ ((m1 9 6) - r5) → mz_gv X mz_sh 26 0 [some (.ref 9), some (.int a1), some (.int ((m1 9 6) - r5)), none] m3 (fun m8 => ((a1 = 2 → mz_inb ((m1 9 6) - r5) 8004 = true ∧ mz_inb (((m1 9 6) - r5) - 1) 8004 = true ∧ mz_gi X mz_sh 48 0 [some (.ref 18), some (.int a1)] (mz_up m8 9 6 ((m1 9 6) - r5)) (fun r17 m15 => mz_gi X mz_sh 46 0 [some (.ref 18), some (.int (m8 28 ((((m1 9 6) - r5) - 1).toNatClampNeg))), some (.int r17), none] m15 (fun r20 m18 => mz_gv X mz_sh 23 0 [some (.ref 9), some (.int r20), some (.int ((m8 29 (((m1 9 6) - r5).toNatClampNeg)) + 1))] m18 (fun m21 => Q m21)))) ∧ (¬ (a1 = 2) → mz_inb (((m1 9 6) - r5) - 1) 8004 = true ∧ mz_gi X mz_sh 48 0 [some (.ref 18), some (.int a1)] (mz_up m8 9 6 ((m1 9 6) - r5)) (fun r28 m26 => mz_gi X mz_sh 46 0 [some (.ref 18), some (.int (m8 28 ((((m1 9 6) - r5) - 1).toNatClampNeg))), some (.int r28), none] m26 (fun r31 m29 => mz_gv X mz_sh 23 0 [some (.ref 9), some (.int r31), some (.int 0)] m29 (fun m32 => Q m32))))))) ∧ (¬ (1 ≤ ((m1 9 6) - r5)) → Q m3))))) :
    mz_gv X mz_sh 24 0 [some (.ref 9), some (.int a1), none, none] m Q := by
  refine mz_go_blk mz_m24 2 (pc' := 2) (L' := [some (.ref 9), some (.int a1), none, none]) (S' := [.int a1, .ref 9]) (sh' := mz_sh) (m' := m) (g := true) rfl rfl (rfl) ?_
  refine mz_go_call mz_m24 mz_m25 rfl rfl rfl rfl rfl rfl rfl h (fun v sh1 m1 hv => ?_)
  obtain ⟨rfl, rfl, h2⟩ := hv
  refine mz_go_blk mz_m24 5 (pc' := 14) (L' := [some (.ref 9), some (.int a1), none, none]) (S' := [.int a1, .ref 18, .int (m1 9 6)]) (sh' := mz_sh) (m' := m1) (g := true) rfl rfl (rfl) ?_
  refine mz_go_call mz_m24 mz_m47 rfl rfl rfl rfl rfl rfl rfl h2 (fun v sh1 m3 hv => ?_)
  obtain ⟨r5, rfl, rfl, h4⟩ := hv
  refine mz_go_blk mz_m24 5 (pc' := (if 1 ≤ ((m1 9 6) - r5) then 25 else 24)) (L' := [some (.ref 9), some (.int a1), some (.int ((m1 9 6) - r5)), none]) (S' := []) (sh' := mz_sh) (m' := m3) (g := true) rfl rfl (rfl) ?_
  refine mz_go_if (fun c6 => ?_) (fun c6 => ?_)
  · have h7 := h4.1 c6
    refine mz_go_blk mz_m24 3 (pc' := 28) (L' := [some (.ref 9), some (.int a1), some (.int ((m1 9 6) - r5)), none]) (S' := [.int ((m1 9 6) - r5), .int a1, .ref 9]) (sh' := mz_sh) (m' := m3) (g := true) rfl rfl (rfl) ?_
    refine mz_go_call mz_m24 mz_m26 rfl rfl rfl rfl rfl rfl rfl h7 (fun v sh1 m8 hv => ?_)
    obtain ⟨rfl, rfl, h9⟩ := hv
    refine mz_go_blk mz_m24 3 (pc' := (if a1 = 2 then 36 else 47)) (L' := [some (.ref 9), some (.int a1), some (.int ((m1 9 6) - r5)), none]) (S' := []) (sh' := mz_sh) (m' := m8) (g := true) rfl rfl (rfl) ?_
    refine mz_go_if (fun c10 => ?_) (fun c10 => ?_)
    · have h11 := h9.1 c10
      obtain ⟨g12, g13, h14⟩ := h11
      refine mz_go_blk mz_m24 23 (pc' := 72) (L' := [some (.ref 9), some (.int a1), some (.int ((m1 9 6) - r5)), some (.int ((m8 29 (((m1 9 6) - r5).toNatClampNeg)) + 1))]) (S' := [.int a1, .ref 18, .int (m8 28 ((((m1 9 6) - r5) - 1).toNatClampNeg)), .ref 18, .ref 9]) (sh' := mz_sh) (m' := mz_up m8 9 6 ((m1 9 6) - r5)) (g := mz_inb (((m1 9 6) - r5) - 1) 8004 && (mz_inb ((m1 9 6) - r5) 8004 && true)) rfl rfl (mz_and2 (g13) (mz_and2 (g12) (rfl))) ?_
      refine mz_go_call mz_m24 mz_m48 rfl rfl rfl rfl rfl rfl rfl h14 (fun v sh1 m15 hv => ?_)
      obtain ⟨r17, rfl, rfl, h16⟩ := hv
      refine mz_go_call mz_m24 mz_m46 rfl rfl rfl rfl rfl rfl rfl h16 (fun v sh1 m18 hv => ?_)
      obtain ⟨r20, rfl, rfl, h19⟩ := hv
      refine mz_go_blk mz_m24 1 (pc' := 79) (L' := [some (.ref 9), some (.int a1), some (.int ((m1 9 6) - r5)), some (.int ((m8 29 (((m1 9 6) - r5).toNatClampNeg)) + 1))]) (S' := [.int ((m8 29 (((m1 9 6) - r5).toNatClampNeg)) + 1), .int r20, .ref 9]) (sh' := mz_sh) (m' := m18) (g := true) rfl rfl (rfl) ?_
      refine mz_go_call mz_m24 mz_m23 rfl rfl rfl rfl rfl rfl rfl h19 (fun v sh1 m21 hv => ?_)
      obtain ⟨rfl, rfl, h22⟩ := hv
      exact mz_go_ret mz_m24 rfl rfl rfl ⟨rfl, rfl, h22⟩
    · have h23 := h9.2 c10
      obtain ⟨g24, h25⟩ := h23
      refine mz_go_blk mz_m24 17 (pc' := 72) (L' := [some (.ref 9), some (.int a1), some (.int ((m1 9 6) - r5)), some (.int 0)]) (S' := [.int a1, .ref 18, .int (m8 28 ((((m1 9 6) - r5) - 1).toNatClampNeg)), .ref 18, .ref 9]) (sh' := mz_sh) (m' := mz_up m8 9 6 ((m1 9 6) - r5)) (g := mz_inb (((m1 9 6) - r5) - 1) 8004 && true) rfl rfl (mz_and2 (g24) (rfl)) ?_
      refine mz_go_call mz_m24 mz_m48 rfl rfl rfl rfl rfl rfl rfl h25 (fun v sh1 m26 hv => ?_)
      obtain ⟨r28, rfl, rfl, h27⟩ := hv
      refine mz_go_call mz_m24 mz_m46 rfl rfl rfl rfl rfl rfl rfl h27 (fun v sh1 m29 hv => ?_)
      obtain ⟨r31, rfl, rfl, h30⟩ := hv
      refine mz_go_blk mz_m24 1 (pc' := 79) (L' := [some (.ref 9), some (.int a1), some (.int ((m1 9 6) - r5)), some (.int 0)]) (S' := [.int 0, .int r31, .ref 9]) (sh' := mz_sh) (m' := m29) (g := true) rfl rfl (rfl) ?_
      refine mz_go_call mz_m24 mz_m23 rfl rfl rfl rfl rfl rfl rfl h30 (fun v sh1 m32 hv => ?_)
      obtain ⟨rfl, rfl, h33⟩ := hv
      exact mz_go_ret mz_m24 rfl rfl rfl ⟨rfl, rfl, h33⟩
  · have h34 := h4.2 c6
    exact mz_go_ret mz_m24 rfl rfl rfl ⟨rfl, rfl, h34⟩
set_option maxRecDepth 100000 in
theorem t_P_tell_0 {X : mz_X} {m : mz_M} {Q : mz_M → Prop} (a1 : Int32)
    (h : ((16016 ≤ (m 9 1) → Q m) ∧ (¬ (16016 ≤ (m 9 1)) → mz_inb (m 9 1) 16016 = true ∧ Q (mz_up (mz_up m 10 ((m 9 1).toNatClampNeg) a1) 9 1 ((m 9 1) + 1))))) :
    mz_gv X mz_sh 25 0 [some (.ref 9), some (.int a1)] m Q := by
  refine mz_go_blk mz_m25 4 (pc' := (if 16016 ≤ (m 9 1) then 30 else 10)) (L' := [some (.ref 9), some (.int a1)]) (S' := []) (sh' := mz_sh) (m' := m) (g := true) rfl rfl (rfl) ?_
  refine mz_go_if (fun c1 => ?_) (fun c1 => ?_)
  · have h2 := h.1 c1
    exact mz_go_ret mz_m25 rfl rfl rfl ⟨rfl, rfl, h2⟩
  · have h3 := h.2 c1
    obtain ⟨g4, h5⟩ := h3
    refine mz_go_blk mz_m25 12 (pc' := 30) (L' := [some (.ref 9), some (.int a1)]) (S' := []) (sh' := mz_sh) (m' := mz_up (mz_up m 10 ((m 9 1).toNatClampNeg) a1) 9 1 ((m 9 1) + 1)) (g := mz_inb (m 9 1) 16016 && true) rfl rfl (mz_and2 (g4) (rfl)) ?_
    exact mz_go_ret mz_m25 rfl rfl rfl ⟨rfl, rfl, h5⟩
set_option maxRecDepth 100000 in
theorem t_P_grow_0 {X : mz_X} {m : mz_M} {Q : mz_M → Prop} (a1 : Int32) (a2 : Int32)
    (h : mz_inb a1 32 = true ∧ (((mz_a3.getD a1.toNatClampNeg 0) = (-1) → Q m) ∧ (¬ ((mz_a3.getD a1.toNatClampNeg 0) = (-1)) → ((a1 = 11 → mz_inb (a2 + 1) 8004 = true ∧ mz_inb a1 32 = true ∧ mz_inb a1 32 = true ∧ mz_inb (a2 + (mz_a5.getD a1.toNatClampNeg 0)) 8004 = true ∧ mz_gv X mz_sh 82 0 [some (.ref 11), some (.int (mz_a3.getD a1.toNatClampNeg 0)), some (.int (m 29 ((a2 + (mz_a5.getD a1.toNatClampNeg 0)).toNatClampNeg))), some (.int (m 29 ((a2 + 1).toNatClampNeg))), none, none, none] m (fun m13 => Q m13)) ∧ (¬ (a1 = 11) → mz_inb a1 32 = true ∧ mz_inb a1 32 = true ∧ mz_inb a1 32 = true ∧ mz_inb (a2 + (mz_a5.getD a1.toNatClampNeg 0)) 8004 = true ∧ mz_gv X mz_sh 82 0 [some (.ref 11), some (.int (mz_a3.getD a1.toNatClampNeg 0)), some (.int (m 29 ((a2 + (mz_a5.getD a1.toNatClampNeg 0)).toNatClampNeg))), some (.int (mz_a4.getD a1.toNatClampNeg 0)), none, none, none] m (fun m21 => Q m21)))))) :
    mz_gv X mz_sh 26 0 [some (.ref 9), some (.int a1), some (.int a2), none] m Q := by
  obtain ⟨g1, h2⟩ := h
  refine mz_go_blk mz_m26 5 (pc' := (if (mz_a3.getD a1.toNatClampNeg 0) = (-1) then 9 else 10)) (L' := [some (.ref 9), some (.int a1), some (.int a2), none]) (S' := []) (sh' := mz_sh) (m' := m) (g := mz_inb a1 32 && true) rfl rfl (mz_and2 (g1) (rfl)) ?_
  refine mz_go_if (fun c3 => ?_) (fun c3 => ?_)
  · have h4 := h2.1 c3
    exact mz_go_ret mz_m26 rfl rfl rfl ⟨rfl, rfl, h4⟩
  · have h5 := h2.2 c3
    refine mz_go_blk mz_m26 3 (pc' := (if a1 = 11 then 16 else 27)) (L' := [some (.ref 9), some (.int a1), some (.int a2), none]) (S' := []) (sh' := mz_sh) (m' := m) (g := true) rfl rfl (rfl) ?_
    refine mz_go_if (fun c6 => ?_) (fun c6 => ?_)
    · have h7 := h5.1 c6
      obtain ⟨g8, g9, g10, g11, h12⟩ := h7
      refine mz_go_blk mz_m26 22 (pc' := 55) (L' := [some (.ref 9), some (.int a1), some (.int a2), some (.int (m 29 ((a2 + 1).toNatClampNeg)))]) (S' := [.int (m 29 ((a2 + 1).toNatClampNeg)), .int (m 29 ((a2 + (mz_a5.getD a1.toNatClampNeg 0)).toNatClampNeg)), .int (mz_a3.getD a1.toNatClampNeg 0), .ref 11]) (sh' := mz_sh) (m' := m) (g := mz_inb (a2 + (mz_a5.getD a1.toNatClampNeg 0)) 8004 && (mz_inb a1 32 && (mz_inb a1 32 && (mz_inb (a2 + 1) 8004 && true)))) rfl rfl (mz_and2 (g11) (mz_and2 (g10) (mz_and2 (g9) (mz_and2 (g8) (rfl))))) ?_
      refine mz_go_call mz_m26 mz_m82 rfl rfl rfl rfl rfl rfl rfl h12 (fun v sh1 m13 hv => ?_)
      obtain ⟨rfl, rfl, h14⟩ := hv
      exact mz_go_ret mz_m26 rfl rfl rfl ⟨rfl, rfl, h14⟩
    · have h15 := h5.2 c6
      obtain ⟨g16, g17, g18, g19, h20⟩ := h15
      refine mz_go_blk mz_m26 18 (pc' := 55) (L' := [some (.ref 9), some (.int a1), some (.int a2), some (.int (mz_a4.getD a1.toNatClampNeg 0))]) (S' := [.int (mz_a4.getD a1.toNatClampNeg 0), .int (m 29 ((a2 + (mz_a5.getD a1.toNatClampNeg 0)).toNatClampNeg)), .int (mz_a3.getD a1.toNatClampNeg 0), .ref 11]) (sh' := mz_sh) (m' := m) (g := mz_inb (a2 + (mz_a5.getD a1.toNatClampNeg 0)) 8004 && (mz_inb a1 32 && (mz_inb a1 32 && (mz_inb a1 32 && true)))) rfl rfl (mz_and2 (g19) (mz_and2 (g18) (mz_and2 (g17) (mz_and2 (g16) (rfl))))) ?_
      refine mz_go_call mz_m26 mz_m82 rfl rfl rfl rfl rfl rfl rfl h20 (fun v sh1 m21 hv => ?_)
      obtain ⟨rfl, rfl, h22⟩ := hv
      exact mz_go_ret mz_m26 rfl rfl rfl ⟨rfl, rfl, h22⟩
set_option maxRecDepth 100000 in
theorem t_T_add_0 {X : mz_X} {m : mz_M} {Q : mz_M → Prop} (a1 : Int32) (a2 : Int32) (a3 : Int32)
    (h : (((m 11 5) < 4001 → mz_gv X mz_sh 82 25 [some (.ref 11), some (.int a1), some (.int a2), some (.int a3), some (.int 0), some (.int ((m 11 5) - 1)), some (.int 0)] m Q) ∧ (¬ ((m 11 5) < 4001) → Q m))) :
    mz_gv X mz_sh 82 0 [some (.ref 11), some (.int a1), some (.int a2), some (.int a3), none, none, none] m Q := by
  refine mz_go_blk mz_m82 4 (pc' := (if (m 11 5) < 4001 then 11 else 10)) (L' := [some (.ref 11), some (.int a1), some (.int a2), some (.int a3), none, none, none]) (S' := []) (sh' := mz_sh) (m' := m) (g := true) rfl rfl (rfl) ?_
  refine mz_go_if (fun c1 => ?_) (fun c1 => ?_)
  · have h2 := h.1 c1
    refine mz_go_blk mz_m82 9 (pc' := 25) (L' := [some (.ref 11), some (.int a1), some (.int a2), some (.int a3), some (.int 0), some (.int ((m 11 5) - 1)), some (.int 0)]) (S' := []) (sh' := mz_sh) (m' := m) (g := true) rfl rfl (rfl) ?_
    exact h2
  · have h3 := h.2 c1
    exact mz_go_ret mz_m82 rfl rfl rfl ⟨rfl, rfl, h3⟩
set_option maxRecDepth 100000 in
theorem t_T_add_1 {X : mz_X} {m : mz_M} {Q : mz_M → Prop} (l1 : Int32) (l2 : Int32) (l3 : Int32) (l4 : Int32) (l5 : Int32) (l6 : Int32)
    (h : ((l3 ≤ l6 → mz_inb (m 11 5) 4001 = true ∧ mz_inb (m 11 5) 4001 = true ∧ mz_inb (m 11 5) 4001 = true ∧ mz_inb (m 11 5) 4001 = true ∧ mz_inb (m 11 5) 4001 = true ∧ Q (mz_up (mz_up (mz_up (mz_up (mz_up (mz_up m 12 ((m 11 5).toNatClampNeg) l1) 13 ((m 11 5).toNatClampNeg) l2) 14 ((m 11 5).toNatClampNeg) l3) 15 ((m 11 5).toNatClampNeg) (l4 + 1)) 16 ((m 11 5).toNatClampNeg) ((m 11 5) - l5)) 11 5 ((m 11 5) + 1))) ∧ (¬ (l3 ≤ l6) → ((l5 < 0 → mz_inb (m 11 5) 4001 = true ∧ mz_inb (m 11 5) 4001 = true ∧ mz_inb (m 11 5) 4001 = true ∧ mz_inb (m 11 5) 4001 = true ∧ mz_inb (m 11 5) 4001 = true ∧ Q (mz_up (mz_up (mz_up (mz_up (mz_up (mz_up m 12 ((m 11 5).toNatClampNeg) l1) 13 ((m 11 5).toNatClampNeg) l2) 14 ((m 11 5).toNatClampNeg) l3) 15 ((m 11 5).toNatClampNeg) (l4 + 1)) 16 ((m 11 5).toNatClampNeg) ((m 11 5) - l5)) 11 5 ((m 11 5) + 1))) ∧ (¬ (l5 < 0) → mz_inb l5 4001 = true ∧ mz_inb l5 4001 = true ∧ mz_gv X mz_sh 82 25 [some (.ref 11), some (.int l1), some (.int l2), some (.int l3), some (.int (if l4 < (m 15 l5.toNatClampNeg) then m 15 l5.toNatClampNeg else l4)), some (.int (l5 - (m 16 l5.toNatClampNeg))), some (.int (l6 + 1))] m Q))))) :
    mz_gv X mz_sh 82 25 [some (.ref 11), some (.int l1), some (.int l2), some (.int l3), some (.int l4), some (.int l5), some (.int l6)] m Q := by
  refine mz_go_blk mz_m82 3 (pc' := (if l3 ≤ l6 then 68 else 31)) (L' := [some (.ref 11), some (.int l1), some (.int l2), some (.int l3), some (.int l4), some (.int l5), some (.int l6)]) (S' := []) (sh' := mz_sh) (m' := m) (g := true) rfl rfl (rfl) ?_
  refine mz_go_if (fun c1 => ?_) (fun c1 => ?_)
  · have h2 := h.1 c1
    obtain ⟨g3, g4, g5, g6, g7, h8⟩ := h2
    refine mz_go_blk mz_m82 41 (pc' := 137) (L' := [some (.ref 11), some (.int l1), some (.int l2), some (.int l3), some (.int l4), some (.int l5), some (.int l6)]) (S' := []) (sh' := mz_sh) (m' := mz_up (mz_up (mz_up (mz_up (mz_up (mz_up m 12 ((m 11 5).toNatClampNeg) l1) 13 ((m 11 5).toNatClampNeg) l2) 14 ((m 11 5).toNatClampNeg) l3) 15 ((m 11 5).toNatClampNeg) (l4 + 1)) 16 ((m 11 5).toNatClampNeg) ((m 11 5) - l5)) 11 5 ((m 11 5) + 1)) (g := mz_inb (m 11 5) 4001 && (mz_inb (m 11 5) 4001 && (mz_inb (m 11 5) 4001 && (mz_inb (m 11 5) 4001 && (mz_inb (m 11 5) 4001 && true))))) rfl rfl (mz_and2 (g7) (mz_and2 (g6) (mz_and2 (g5) (mz_and2 (g4) (mz_and2 (g3) (rfl)))))) ?_
    exact mz_go_ret mz_m82 rfl rfl rfl ⟨rfl, rfl, h8⟩
  · have h9 := h.2 c1
    refine mz_go_blk mz_m82 2 (pc' := (if l5 < 0 then 68 else 36)) (L' := [some (.ref 11), some (.int l1), some (.int l2), some (.int l3), some (.int l4), some (.int l5), some (.int l6)]) (S' := []) (sh' := mz_sh) (m' := m) (g := true) rfl rfl (rfl) ?_
    refine mz_go_if (fun c10 => ?_) (fun c10 => ?_)
    · have h11 := h9.1 c10
      obtain ⟨g12, g13, g14, g15, g16, h17⟩ := h11
      refine mz_go_blk mz_m82 41 (pc' := 137) (L' := [some (.ref 11), some (.int l1), some (.int l2), some (.int l3), some (.int l4), some (.int l5), some (.int l6)]) (S' := []) (sh' := mz_sh) (m' := mz_up (mz_up (mz_up (mz_up (mz_up (mz_up m 12 ((m 11 5).toNatClampNeg) l1) 13 ((m 11 5).toNatClampNeg) l2) 14 ((m 11 5).toNatClampNeg) l3) 15 ((m 11 5).toNatClampNeg) (l4 + 1)) 16 ((m 11 5).toNatClampNeg) ((m 11 5) - l5)) 11 5 ((m 11 5) + 1)) (g := mz_inb (m 11 5) 4001 && (mz_inb (m 11 5) 4001 && (mz_inb (m 11 5) 4001 && (mz_inb (m 11 5) 4001 && (mz_inb (m 11 5) 4001 && true))))) rfl rfl (mz_and2 (g16) (mz_and2 (g15) (mz_and2 (g14) (mz_and2 (g13) (mz_and2 (g12) (rfl)))))) ?_
      exact mz_go_ret mz_m82 rfl rfl rfl ⟨rfl, rfl, h17⟩
    · have h18 := h9.2 c10
      obtain ⟨g19, g20, h21⟩ := h18
      refine mz_go_blk mz_m82 16 (pc' := 25) (L' := [some (.ref 11), some (.int l1), some (.int l2), some (.int l3), some (.int (if l4 < (m 15 l5.toNatClampNeg) then m 15 l5.toNatClampNeg else l4)), some (.int (l5 - (m 16 l5.toNatClampNeg))), some (.int (l6 + 1))]) (S' := []) (sh' := mz_sh) (m' := m) (g := mz_inb l5 4001 && (mz_inb l5 4001 && true)) rfl rfl (mz_and2 (g20) (mz_and2 (g19) (rfl))) ?_
      exact h21
set_option maxRecDepth 100000 in
theorem t_T_heightOfLatest_0 {X : mz_X} {m : mz_M} {Q : Int32 → mz_M → Prop}
    (h : (((m 11 5) ≤ 0 → Q 0 m) ∧ (¬ ((m 11 5) ≤ 0) → mz_inb ((m 11 5) - 1) 4001 = true ∧ Q (m 15 (((m 11 5) - 1).toNatClampNeg)) m))) :
    mz_gi X mz_sh 83 0 [some (.ref 11)] m Q := by
  refine mz_go_blk mz_m83 3 (pc' := (if (m 11 5) ≤ 0 then 21 else 7)) (L' := [some (.ref 11)]) (S' := []) (sh' := mz_sh) (m' := m) (g := true) rfl rfl (rfl) ?_
  refine mz_go_if (fun c1 => ?_) (fun c1 => ?_)
  · have h2 := h.1 c1
    refine mz_go_blk mz_m83 1 (pc' := 22) (L' := [some (.ref 11)]) (S' := [.int 0]) (sh' := mz_sh) (m' := m) (g := true) rfl rfl (rfl) ?_
    exact mz_go_ret mz_m83 rfl rfl rfl ⟨_, rfl, rfl, h2⟩
  · have h3 := h.2 c1
    obtain ⟨g4, h5⟩ := h3
    refine mz_go_blk mz_m83 8 (pc' := 22) (L' := [some (.ref 11)]) (S' := [.int (m 15 (((m 11 5) - 1).toNatClampNeg))]) (sh' := mz_sh) (m' := m) (g := mz_inb ((m 11 5) - 1) 4001 && true) rfl rfl (mz_and2 (g4) (rfl)) ?_
    exact mz_go_ret mz_m83 rfl rfl rfl ⟨_, rfl, rfl, h5⟩
set_option maxRecDepth 100000 in
theorem t_T_takeInOrder_0 {X : mz_X} {m : mz_M} {Q : mz_M → Prop}
    (h : (((m 11 5) = 0 → Q (mz_up m 30 5 (m 11 5))) ∧ (¬ ((m 11 5) = 0) → mz_inb ((m 11 5) - 1) 4001 = true ∧ mz_gv X mz_sh 84 35 [some (.ref 30), some (.ref 11), some (.int ((m 11 5) - 1)), none] (mz_up (mz_up m 30 5 (m 11 5)) 36 (((m 11 5) - 1).toNatClampNeg) 0) Q))) :
    mz_gv X mz_sh 84 0 [some (.ref 30), some (.ref 11), none, none] m Q := by
  refine mz_go_blk mz_m84 7 (pc' := (if (m 11 5) = 0 then 15 else 16)) (L' := [some (.ref 30), some (.ref 11), none, none]) (S' := []) (sh' := mz_sh) (m' := mz_up m 30 5 (m 11 5)) (g := true) rfl rfl (rfl) ?_
  refine mz_go_if (fun c1 => ?_) (fun c1 => ?_)
  · have h2 := h.1 c1
    exact mz_go_ret mz_m84 rfl rfl rfl ⟨rfl, rfl, h2⟩
  · have h3 := h.2 c1
    obtain ⟨g4, h5⟩ := h3
    refine mz_go_blk mz_m84 13 (pc' := 35) (L' := [some (.ref 30), some (.ref 11), some (.int ((m 11 5) - 1)), none]) (S' := []) (sh' := mz_sh) (m' := mz_up (mz_up m 30 5 (m 11 5)) 36 (((m 11 5) - 1).toNatClampNeg) 0) (g := mz_inb ((m 11 5) - 1) 4001 && true) rfl rfl (mz_and2 (g4) (rfl)) ?_
    exact h5
set_option maxRecDepth 100000 in
theorem t_T_takeInOrder_1 {X : mz_X} {m : mz_M} {Q : mz_M → Prop} (l2 : Int32)
    (h : ((l2 < 0 → Q m) ∧ (¬ (l2 < 0) → mz_inb l2 4001 = true ∧ mz_inb l2 4001 = true ∧ mz_inb (m 36 l2.toNatClampNeg) 4001 = true ∧ mz_inb l2 4001 = true ∧ mz_inb (m 36 l2.toNatClampNeg) 4001 = true ∧ mz_inb l2 4001 = true ∧ mz_inb (m 36 l2.toNatClampNeg) 4001 = true ∧ mz_inb l2 4001 = true ∧ mz_inb (m 36 l2.toNatClampNeg) 4001 = true ∧ mz_inb l2 4001 = true ∧ mz_inb (m 36 l2.toNatClampNeg) 4001 = true ∧ mz_gv X mz_sh 85 0 [some (.ref 30), some (.ref 11), some (.int l2), none, none, none] (mz_up (mz_up (mz_up (mz_up (mz_up m 31 ((m 36 l2.toNatClampNeg).toNatClampNeg) (m 12 l2.toNatClampNeg)) 32 ((m 36 l2.toNatClampNeg).toNatClampNeg) (m 13 l2.toNatClampNeg)) 33 ((m 36 l2.toNatClampNeg).toNatClampNeg) (m 14 l2.toNatClampNeg)) 34 ((m 36 l2.toNatClampNeg).toNatClampNeg) (m 15 l2.toNatClampNeg)) 35 ((m 36 l2.toNatClampNeg).toNatClampNeg) (m 16 l2.toNatClampNeg)) (fun m16 => mz_gv X mz_sh 84 35 [some (.ref 30), some (.ref 11), some (.int (l2 + (-1))), none] m16 Q)))) :
    mz_gv X mz_sh 84 35 [some (.ref 30), some (.ref 11), some (.int l2), none] m Q := by
  refine mz_go_blk mz_m84 2 (pc' := (if l2 < 0 then 118 else 39)) (L' := [some (.ref 30), some (.ref 11), some (.int l2), none]) (S' := []) (sh' := mz_sh) (m' := m) (g := true) rfl rfl (rfl) ?_
  refine mz_go_if (fun c1 => ?_) (fun c1 => ?_)
  · have h2 := h.1 c1
    exact mz_go_ret mz_m84 rfl rfl rfl ⟨rfl, rfl, h2⟩
  · have h3 := h.2 c1
    obtain ⟨g4, g5, g6, g7, g8, g9, g10, g11, g12, g13, g14, h15⟩ := h3
    refine mz_go_blk mz_m84 48 (pc' := 109) (L' := [some (.ref 30), some (.ref 11), some (.int l2), some (.int (m 36 l2.toNatClampNeg))]) (S' := [.int l2, .ref 11, .ref 30]) (sh' := mz_sh) (m' := mz_up (mz_up (mz_up (mz_up (mz_up m 31 ((m 36 l2.toNatClampNeg).toNatClampNeg) (m 12 l2.toNatClampNeg)) 32 ((m 36 l2.toNatClampNeg).toNatClampNeg) (m 13 l2.toNatClampNeg)) 33 ((m 36 l2.toNatClampNeg).toNatClampNeg) (m 14 l2.toNatClampNeg)) 34 ((m 36 l2.toNatClampNeg).toNatClampNeg) (m 15 l2.toNatClampNeg)) 35 ((m 36 l2.toNatClampNeg).toNatClampNeg) (m 16 l2.toNatClampNeg)) (g := mz_inb (m 36 l2.toNatClampNeg) 4001 && (mz_inb l2 4001 && (mz_inb (m 36 l2.toNatClampNeg) 4001 && (mz_inb l2 4001 && (mz_inb (m 36 l2.toNatClampNeg) 4001 && (mz_inb l2 4001 && (mz_inb (m 36 l2.toNatClampNeg) 4001 && (mz_inb l2 4001 && (mz_inb (m 36 l2.toNatClampNeg) 4001 && (mz_inb l2 4001 && (mz_inb l2 4001 && true))))))))))) rfl rfl (mz_and2 (g14) (mz_and2 (g13) (mz_and2 (g12) (mz_and2 (g11) (mz_and2 (g10) (mz_and2 (g9) (mz_and2 (g8) (mz_and2 (g7) (mz_and2 (g6) (mz_and2 (g5) (mz_and2 (g4) (rfl)))))))))))) ?_
    refine mz_go_call mz_m84 mz_m85 rfl rfl rfl rfl rfl rfl rfl h15 (fun v sh1 m16 hv => ?_)
    obtain ⟨rfl, rfl, h17⟩ := hv
    refine mz_go_blk mz_m84 2 (pc' := 35) (L' := [some (.ref 30), some (.ref 11), some (.int (l2 + (-1))), some (.int (m 36 l2.toNatClampNeg))]) (S' := []) (sh' := mz_sh) (m' := m16) (g := true) rfl rfl (rfl) ?_
    exact mz_go.forget (L := [some (.ref 30), some (.ref 11), some (.int (l2 + (-1))), none]) (mz_lel_cons rfl (mz_lel_cons rfl (mz_lel_cons rfl (mz_lel_cons trivial (mz_lel_nil))))) h17
set_option maxRecDepth 100000 in
theorem t_T_placeParts_0 {X : mz_X} {m : mz_M} {Q : mz_M → Prop} (a2 : Int32)
    (h : mz_inb a2 4001 = true ∧ mz_inb a2 4001 = true ∧ mz_gv X mz_sh 85 22 [some (.ref 30), some (.ref 11), some (.int a2), some (.int ((m 36 a2.toNatClampNeg) + (m 16 a2.toNatClampNeg))), some (.int (a2 - 1)), some (.int 0)] m Q) :
    mz_gv X mz_sh 85 0 [some (.ref 30), some (.ref 11), some (.int a2), none, none, none] m Q := by
  obtain ⟨g1, g2, h3⟩ := h
  refine mz_go_blk mz_m85 16 (pc' := 22) (L' := [some (.ref 30), some (.ref 11), some (.int a2), some (.int ((m 36 a2.toNatClampNeg) + (m 16 a2.toNatClampNeg))), some (.int (a2 - 1)), some (.int 0)]) (S' := []) (sh' := mz_sh) (m' := m) (g := mz_inb a2 4001 && (mz_inb a2 4001 && true)) rfl rfl (mz_and2 (g2) (mz_and2 (g1) (rfl))) ?_
  exact h3
set_option maxRecDepth 100000 in
theorem t_T_placeParts_1 {X : mz_X} {m : mz_M} {Q : mz_M → Prop} (l2 : Int32) (l3 : Int32) (l4 : Int32) (l5 : Int32)
    (h : mz_inb l2 4001 = true ∧ (((m 14 l2.toNatClampNeg) ≤ l5 → Q m) ∧ (¬ ((m 14 l2.toNatClampNeg) ≤ l5) → ((l4 < 0 → Q m) ∧ (¬ (l4 < 0) → mz_inb l4 4001 = true ∧ mz_inb l4 4001 = true ∧ mz_inb l4 4001 = true ∧ mz_gv X mz_sh 85 22 [some (.ref 30), some (.ref 11), some (.int l2), some (.int (l3 - (m 16 l4.toNatClampNeg))), some (.int (l4 - (m 16 l4.toNatClampNeg))), some (.int (l5 + 1))] (mz_up m 36 l4.toNatClampNeg (l3 - (m 16 l4.toNatClampNeg))) Q))))) :
    mz_gv X mz_sh 85 22 [some (.ref 30), some (.ref 11), some (.int l2), some (.int l3), some (.int l4), some (.int l5)] m Q := by
  obtain ⟨g1, h2⟩ := h
  refine mz_go_blk mz_m85 6 (pc' := (if (m 14 l2.toNatClampNeg) ≤ l5 then 74 else 33)) (L' := [some (.ref 30), some (.ref 11), some (.int l2), some (.int l3), some (.int l4), some (.int l5)]) (S' := []) (sh' := mz_sh) (m' := m) (g := mz_inb l2 4001 && true) rfl rfl (mz_and2 (g1) (rfl)) ?_
  refine mz_go_if (fun c3 => ?_) (fun c3 => ?_)
  · have h4 := h2.1 c3
    exact mz_go_ret mz_m85 rfl rfl rfl ⟨rfl, rfl, h4⟩
  · have h5 := h2.2 c3
    refine mz_go_blk mz_m85 2 (pc' := (if l4 < 0 then 74 else 38)) (L' := [some (.ref 30), some (.ref 11), some (.int l2), some (.int l3), some (.int l4), some (.int l5)]) (S' := []) (sh' := mz_sh) (m' := m) (g := true) rfl rfl (rfl) ?_
    refine mz_go_if (fun c6 => ?_) (fun c6 => ?_)
    · have h7 := h5.1 c6
      exact mz_go_ret mz_m85 rfl rfl rfl ⟨rfl, rfl, h7⟩
    · have h8 := h5.2 c6
      obtain ⟨g9, g10, g11, h12⟩ := h8
      refine mz_go_blk mz_m85 21 (pc' := 22) (L' := [some (.ref 30), some (.ref 11), some (.int l2), some (.int (l3 - (m 16 l4.toNatClampNeg))), some (.int (l4 - (m 16 l4.toNatClampNeg))), some (.int (l5 + 1))]) (S' := []) (sh' := mz_sh) (m' := mz_up m 36 l4.toNatClampNeg (l3 - (m 16 l4.toNatClampNeg))) (g := mz_inb l4 4001 && (mz_inb l4 4001 && (mz_inb l4 4001 && true))) rfl rfl (mz_and2 (g11) (mz_and2 (g10) (mz_and2 (g9) (rfl)))) ?_
      exact h12
set_option maxRecDepth 100000 in
theorem t_T_lastPart_0 {X : mz_X} {m : mz_M} {Q : Int32 → mz_M → Prop} (a1 : Int32)
    (h : mz_gi X mz_sh 86 4 [some (.ref 30), some (.int a1), some (.int (-1)), some (.int 0)] m Q) :
    mz_gi X mz_sh 86 0 [some (.ref 30), some (.int a1), none, none] m Q := by
  refine mz_go_blk mz_m86 4 (pc' := 4) (L' := [some (.ref 30), some (.int a1), some (.int (-1)), some (.int 0)]) (S' := []) (sh' := mz_sh) (m' := m) (g := true) rfl rfl (rfl) ?_
  exact h
set_option maxRecDepth 100000 in
theorem t_T_lastPart_1 {X : mz_X} {m : mz_M} {Q : Int32 → mz_M → Prop} (l1 : Int32) (l2 : Int32) (l3 : Int32)
    (h : mz_inb l1 4001 = true ∧ (((m 33 l1.toNatClampNeg) ≤ l3 → Q l2 m) ∧ (¬ ((m 33 l1.toNatClampNeg) ≤ l3) → ((l3 = 0 → mz_gi X mz_sh 86 4 [some (.ref 30), some (.int l1), some (.int (l1 + 1)), some (.int (l3 + 1))] m Q) ∧ (¬ (l3 = 0) → mz_gi X mz_sh 87 0 [some (.ref 30), some (.int l2)] m (fun r11 m9 => mz_gi X mz_sh 86 4 [some (.ref 30), some (.int l1), some (.int r11), some (.int (l3 + 1))] m9 Q)))))) :
    mz_gi X mz_sh 86 4 [some (.ref 30), some (.int l1), some (.int l2), some (.int l3)] m Q := by
  obtain ⟨g1, h2⟩ := h
  refine mz_go_blk mz_m86 6 (pc' := (if (m 33 l1.toNatClampNeg) ≤ l3 then 36 else 14)) (L' := [some (.ref 30), some (.int l1), some (.int l2), some (.int l3)]) (S' := []) (sh' := mz_sh) (m' := m) (g := mz_inb l1 4001 && true) rfl rfl (mz_and2 (g1) (rfl)) ?_
  refine mz_go_if (fun c3 => ?_) (fun c3 => ?_)
  · have h4 := h2.1 c3
    refine mz_go_blk mz_m86 1 (pc' := 37) (L' := [some (.ref 30), some (.int l1), some (.int l2), some (.int l3)]) (S' := [.int l2]) (sh' := mz_sh) (m' := m) (g := true) rfl rfl (rfl) ?_
    exact mz_go_ret mz_m86 rfl rfl rfl ⟨_, rfl, rfl, h4⟩
  · have h5 := h2.2 c3
    refine mz_go_blk mz_m86 2 (pc' := (if l3 = 0 then 18 else 24)) (L' := [some (.ref 30), some (.int l1), some (.int l2), some (.int l3)]) (S' := []) (sh' := mz_sh) (m' := m) (g := true) rfl rfl (rfl) ?_
    refine mz_go_if (fun c6 => ?_) (fun c6 => ?_)
    · have h7 := h5.1 c6
      refine mz_go_blk mz_m86 7 (pc' := 4) (L' := [some (.ref 30), some (.int l1), some (.int (l1 + 1)), some (.int (l3 + 1))]) (S' := []) (sh' := mz_sh) (m' := m) (g := true) rfl rfl (rfl) ?_
      exact h7
    · have h8 := h5.2 c6
      refine mz_go_blk mz_m86 2 (pc' := 26) (L' := [some (.ref 30), some (.int l1), some (.int l2), some (.int l3)]) (S' := [.int l2, .ref 30]) (sh' := mz_sh) (m' := m) (g := true) rfl rfl (rfl) ?_
      refine mz_go_call mz_m86 mz_m87 rfl rfl rfl rfl rfl rfl rfl h8 (fun v sh1 m9 hv => ?_)
      obtain ⟨r11, rfl, rfl, h10⟩ := hv
      refine mz_go_blk mz_m86 3 (pc' := 4) (L' := [some (.ref 30), some (.int l1), some (.int r11), some (.int (l3 + 1))]) (S' := []) (sh' := mz_sh) (m' := m9) (g := true) rfl rfl (rfl) ?_
      exact h10
set_option maxRecDepth 100000 in
theorem t_T_behind_0 {X : mz_X} {m : mz_M} {Q : Int32 → mz_M → Prop} (a1 : Int32)
    (h : ((a1 < 0 → Q (m 30 5) m) ∧ (¬ (a1 < 0) → (((m 30 5) ≤ a1 → Q (m 30 5) m) ∧ (¬ ((m 30 5) ≤ a1) → mz_inb a1 4001 = true ∧ Q (a1 + (m 35 a1.toNatClampNeg)) m))))) :
    mz_gi X mz_sh 87 0 [some (.ref 30), some (.int a1)] m Q := by
  refine mz_go_blk mz_m87 2 (pc' := (if a1 < 0 then 23 else 4)) (L' := [some (.ref 30), some (.int a1)]) (S' := []) (sh' := mz_sh) (m' := m) (g := true) rfl rfl (rfl) ?_
  refine mz_go_if (fun c1 => ?_) (fun c1 => ?_)
  · have h2 := h.1 c1
    refine mz_go_blk mz_m87 2 (pc' := 27) (L' := [some (.ref 30), some (.int a1)]) (S' := [.int (m 30 5)]) (sh' := mz_sh) (m' := m) (g := true) rfl rfl (rfl) ?_
    exact mz_go_ret mz_m87 rfl rfl rfl ⟨_, rfl, rfl, h2⟩
  · have h3 := h.2 c1
    refine mz_go_blk mz_m87 4 (pc' := (if (m 30 5) ≤ a1 then 23 else 12)) (L' := [some (.ref 30), some (.int a1)]) (S' := []) (sh' := mz_sh) (m' := m) (g := true) rfl rfl (rfl) ?_
    refine mz_go_if (fun c4 => ?_) (fun c4 => ?_)
    · have h5 := h3.1 c4
      refine mz_go_blk mz_m87 2 (pc' := 27) (L' := [some (.ref 30), some (.int a1)]) (S' := [.int (m 30 5)]) (sh' := mz_sh) (m' := m) (g := true) rfl rfl (rfl) ?_
      exact mz_go_ret mz_m87 rfl rfl rfl ⟨_, rfl, rfl, h5⟩
    · have h6 := h3.2 c4
      obtain ⟨g7, h8⟩ := h6
      refine mz_go_blk mz_m87 7 (pc' := 27) (L' := [some (.ref 30), some (.int a1)]) (S' := [.int (a1 + (m 35 a1.toNatClampNeg))]) (sh' := mz_sh) (m' := m) (g := mz_inb a1 4001 && true) rfl rfl (mz_and2 (g7) (rfl)) ?_
      exact mz_go_ret mz_m87 rfl rfl rfl ⟨_, rfl, rfl, h8⟩
set_option maxRecDepth 100000 in
theorem t_B_act_0 {X : mz_X} {m : mz_M} {Q : Int32 → mz_M → Prop} (a1 : Int32) (a2 : Int32)
    (h : ((((a1 * 36) + a2) < 0 → Q 0 m) ∧ (¬ (((a1 * 36) + a2) < 0) → ((2304 ≤ ((a1 * 36) + a2) → Q 0 m) ∧ (¬ (2304 ≤ ((a1 * 36) + a2)) → mz_inb ((a1 * 36) + a2) 2304 = true ∧ Q (m 19 (((a1 * 36) + a2).toNatClampNeg)) m))))) :
    mz_gi X mz_sh 46 0 [some (.ref 18), some (.int a1), some (.int a2), none] m Q := by
  refine mz_go_blk mz_m46 8 (pc' := (if ((a1 * 36) + a2) < 0 then 29 else 11)) (L' := [some (.ref 18), some (.int a1), some (.int a2), some (.int ((a1 * 36) + a2))]) (S' := []) (sh' := mz_sh) (m' := m) (g := true) rfl rfl (rfl) ?_
  refine mz_go_if (fun c1 => ?_) (fun c1 => ?_)
  · have h2 := h.1 c1
    refine mz_go_blk mz_m46 1 (pc' := 30) (L' := [some (.ref 18), some (.int a1), some (.int a2), some (.int ((a1 * 36) + a2))]) (S' := [.int 0]) (sh' := mz_sh) (m' := m) (g := true) rfl rfl (rfl) ?_
    exact mz_go_ret mz_m46 rfl rfl rfl ⟨_, rfl, rfl, h2⟩
  · have h3 := h.2 c1
    refine mz_go_blk mz_m46 5 (pc' := (if 2304 ≤ ((a1 * 36) + a2) then 29 else 20)) (L' := [some (.ref 18), some (.int a1), some (.int a2), some (.int ((a1 * 36) + a2))]) (S' := []) (sh' := mz_sh) (m' := m) (g := true) rfl rfl (rfl) ?_
    refine mz_go_if (fun c4 => ?_) (fun c4 => ?_)
    · have h5 := h3.1 c4
      refine mz_go_blk mz_m46 1 (pc' := 30) (L' := [some (.ref 18), some (.int a1), some (.int a2), some (.int ((a1 * 36) + a2))]) (S' := [.int 0]) (sh' := mz_sh) (m' := m) (g := true) rfl rfl (rfl) ?_
      exact mz_go_ret mz_m46 rfl rfl rfl ⟨_, rfl, rfl, h5⟩
    · have h6 := h3.2 c4
      obtain ⟨g7, h8⟩ := h6
      refine mz_go_blk mz_m46 5 (pc' := 30) (L' := [some (.ref 18), some (.int a1), some (.int a2), some (.int ((a1 * 36) + a2))]) (S' := [.int (m 19 (((a1 * 36) + a2).toNatClampNeg))]) (sh' := mz_sh) (m' := m) (g := mz_inb ((a1 * 36) + a2) 2304 && true) rfl rfl (mz_and2 (g7) (rfl)) ?_
      exact mz_go_ret mz_m46 rfl rfl rfl ⟨_, rfl, rfl, h8⟩
set_option maxRecDepth 100000 in
theorem t_B_lengthOf_0 {X : mz_X} {m : mz_M} {Q : Int32 → mz_M → Prop} (a1 : Int32)
    (h : mz_inb a1 32 = true ∧ Q (m 21 a1.toNatClampNeg) m) :
    mz_gi X mz_sh 47 0 [some (.ref 18), some (.int a1)] m Q := by
  obtain ⟨g1, h2⟩ := h
  refine mz_go_blk mz_m47 4 (pc' := 6) (L' := [some (.ref 18), some (.int a1)]) (S' := [.int (m 21 a1.toNatClampNeg)]) (sh' := mz_sh) (m' := m) (g := mz_inb a1 32 && true) rfl rfl (mz_and2 (g1) (rfl)) ?_
  exact mz_go_ret mz_m47 rfl rfl rfl ⟨_, rfl, rfl, h2⟩
set_option maxRecDepth 100000 in
theorem t_B_letterOf_0 {X : mz_X} {m : mz_M} {Q : Int32 → mz_M → Prop} (a1 : Int32)
    (h : mz_inb a1 32 = true ∧ Q (mz_a6.getD a1.toNatClampNeg 0) m) :
    mz_gi X mz_sh 48 0 [some (.ref 18), some (.int a1)] m Q := by
  obtain ⟨g1, h2⟩ := h
  refine mz_go_blk mz_m48 3 (pc' := 5) (L' := [some (.ref 18), some (.int a1)]) (S' := [.int (mz_a6.getD a1.toNatClampNeg 0)]) (sh' := mz_sh) (m' := m) (g := mz_inb a1 32 && true) rfl rfl (mz_and2 (g1) (rfl)) ?_
  exact mz_go_ret mz_m48 rfl rfl rfl ⟨_, rfl, rfl, h2⟩
set_option maxRecDepth 100000 in
theorem t_W_find_0 {X : mz_X} {m : mz_M} {Q : mz_M → Prop}
    (h : mz_gv X mz_sh 28 27 [some (.ref 37), some (.ref 30), some (.int 0)] (mz_up (mz_up (mz_up m 37 1 (m 30 5)) 39 0 (m 30 5)) 38 0 (-1)) Q) :
    mz_gv X mz_sh 28 0 [some (.ref 37), some (.ref 30), none] m Q := by
  refine mz_go_blk mz_m28 17 (pc' := 27) (L' := [some (.ref 37), some (.ref 30), some (.int 0)]) (S' := []) (sh' := mz_sh) (m' := mz_up (mz_up (mz_up m 37 1 (m 30 5)) 39 0 (m 30 5)) 38 0 (-1)) (g := mz_inb 0 4001 && (mz_inb 0 4001 && true)) rfl rfl (mz_and2 (by decide) (mz_and2 (by decide) (rfl))) ?_
  exact h
set_option maxRecDepth 100000 in
theorem t_W_find_1 {X : mz_X} {m : mz_M} {Q : mz_M → Prop} (l2 : Int32)
    (h : (((m 30 5) ≤ l2 → mz_gv X mz_sh 28 54 [some (.ref 37), some (.ref 30), some (.int ((m 30 5) - 1))] m Q) ∧ (¬ ((m 30 5) ≤ l2) → mz_gv X mz_sh 29 0 [some (.ref 37), some (.ref 30), some (.int l2), none, none, none, none, none] m (fun m4 => mz_gv X mz_sh 28 27 [some (.ref 37), some (.ref 30), some (.int (l2 + 1))] m4 Q)))) :
    mz_gv X mz_sh 28 27 [some (.ref 37), some (.ref 30), some (.int l2)] m Q := by
  refine mz_go_blk mz_m28 4 (pc' := (if (m 30 5) ≤ l2 then 47 else 35)) (L' := [some (.ref 37), some (.ref 30), some (.int l2)]) (S' := []) (sh' := mz_sh) (m' := m) (g := true) rfl rfl (rfl) ?_
  refine mz_go_if (fun c1 => ?_) (fun c1 => ?_)
  · have h2 := h.1 c1
    refine mz_go_blk mz_m28 5 (pc' := 54) (L' := [some (.ref 37), some (.ref 30), some (.int ((m 30 5) - 1))]) (S' := []) (sh' := mz_sh) (m' := m) (g := true) rfl rfl (rfl) ?_
    exact h2
  · have h3 := h.2 c1
    refine mz_go_blk mz_m28 3 (pc' := 38) (L' := [some (.ref 37), some (.ref 30), some (.int l2)]) (S' := [.int l2, .ref 30, .ref 37]) (sh' := mz_sh) (m' := m) (g := true) rfl rfl (rfl) ?_
    refine mz_go_call mz_m28 mz_m29 rfl rfl rfl rfl rfl rfl rfl h3 (fun v sh1 m4 hv => ?_)
    obtain ⟨rfl, rfl, h5⟩ := hv
    refine mz_go_blk mz_m28 2 (pc' := 27) (L' := [some (.ref 37), some (.ref 30), some (.int (l2 + 1))]) (S' := []) (sh' := mz_sh) (m' := m4) (g := true) rfl rfl (rfl) ?_
    exact h5
set_option maxRecDepth 100000 in
theorem t_W_find_2 {X : mz_X} {m : mz_M} {Q : mz_M → Prop} (l2 : Int32)
    (h : ((l2 < 0 → Q m) ∧ (¬ (l2 < 0) → mz_inb l2 4001 = true ∧ mz_inb l2 4001 = true ∧ (((m 31 l2.toNatClampNeg) = 0 → mz_inb l2 4001 = true ∧ (((m 33 l2.toNatClampNeg) ≤ 0 → mz_inb l2 4001 = true ∧ mz_gi X mz_sh 32 0 [some (.ref 37), some (.int (m 39 l2.toNatClampNeg))] (mz_up m 40 l2.toNatClampNeg l2) (fun r17 m15 => mz_inb l2 4001 = true ∧ mz_gv X mz_sh 28 54 [some (.ref 37), some (.ref 30), some (.int (l2 + (-1)))] (mz_up m15 40 l2.toNatClampNeg r17) Q)) ∧ (¬ ((m 33 l2.toNatClampNeg) ≤ 0) → mz_gi X mz_sh 32 0 [some (.ref 37), some (.int (l2 + 1))] (mz_up m 40 l2.toNatClampNeg l2) (fun r23 m21 => mz_inb l2 4001 = true ∧ mz_gv X mz_sh 28 54 [some (.ref 37), some (.ref 30), some (.int (l2 + (-1)))] (mz_up m21 40 l2.toNatClampNeg r23) Q)))) ∧ (¬ ((m 31 l2.toNatClampNeg) = 0) → mz_gv X mz_sh 28 54 [some (.ref 37), some (.ref 30), some (.int (l2 + (-1)))] (mz_up m 40 l2.toNatClampNeg l2) Q))))) :
    mz_gv X mz_sh 28 54 [some (.ref 37), some (.ref 30), some (.int l2)] m Q := by
  refine mz_go_blk mz_m28 2 (pc' := (if l2 < 0 then 111 else 58)) (L' := [some (.ref 37), some (.ref 30), some (.int l2)]) (S' := []) (sh' := mz_sh) (m' := m) (g := true) rfl rfl (rfl) ?_
  refine mz_go_if (fun c1 => ?_) (fun c1 => ?_)
  · have h2 := h.1 c1
    exact mz_go_ret mz_m28 rfl rfl rfl ⟨rfl, rfl, h2⟩
  · have h3 := h.2 c1
    obtain ⟨g4, g5, h6⟩ := h3
    refine mz_go_blk mz_m28 10 (pc' := (if (m 31 l2.toNatClampNeg) = 0 then 74 else 105)) (L' := [some (.ref 37), some (.ref 30), some (.int l2)]) (S' := []) (sh' := mz_sh) (m' := mz_up m 40 l2.toNatClampNeg l2) (g := mz_inb l2 4001 && (mz_inb l2 4001 && true)) rfl rfl (mz_and2 (g5) (mz_and2 (g4) (rfl))) ?_
    refine mz_go_if (fun c7 => ?_) (fun c7 => ?_)
    · have h8 := h6.1 c7
      obtain ⟨g9, h10⟩ := h8
      refine mz_go_blk mz_m28 9 (pc' := (if (m 33 l2.toNatClampNeg) ≤ 0 then 95 else 89)) (L' := [some (.ref 37), some (.ref 30), some (.int l2)]) (S' := [.ref 37, .int l2, .ref 40]) (sh' := mz_sh) (m' := mz_up m 40 l2.toNatClampNeg l2) (g := mz_inb l2 4001 && true) rfl rfl (mz_and2 (g9) (rfl)) ?_
      refine mz_go_if (fun c11 => ?_) (fun c11 => ?_)
      · have h12 := h10.1 c11
        obtain ⟨g13, h14⟩ := h12
        refine mz_go_blk mz_m28 4 (pc' := 101) (L' := [some (.ref 37), some (.ref 30), some (.int l2)]) (S' := [.int (m 39 l2.toNatClampNeg), .ref 37, .int l2, .ref 40]) (sh' := mz_sh) (m' := mz_up m 40 l2.toNatClampNeg l2) (g := mz_inb l2 4001 && true) rfl rfl (mz_and2 (g13) (rfl)) ?_
        refine mz_go_call mz_m28 mz_m32 rfl rfl rfl rfl rfl rfl rfl h14 (fun v sh1 m15 hv => ?_)
        obtain ⟨r17, rfl, rfl, h16⟩ := hv
        obtain ⟨g18, h19⟩ := h16
        refine mz_go_blk mz_m28 3 (pc' := 54) (L' := [some (.ref 37), some (.ref 30), some (.int (l2 + (-1)))]) (S' := []) (sh' := mz_sh) (m' := mz_up m15 40 l2.toNatClampNeg r17) (g := mz_inb l2 4001 && true) rfl rfl (mz_and2 (g18) (rfl)) ?_
        exact h19
      · have h20 := h10.2 c11
        refine mz_go_blk mz_m28 4 (pc' := 101) (L' := [some (.ref 37), some (.ref 30), some (.int l2)]) (S' := [.int (l2 + 1), .ref 37, .int l2, .ref 40]) (sh' := mz_sh) (m' := mz_up m 40 l2.toNatClampNeg l2) (g := true) rfl rfl (rfl) ?_
        refine mz_go_call mz_m28 mz_m32 rfl rfl rfl rfl rfl rfl rfl h20 (fun v sh1 m21 hv => ?_)
        obtain ⟨r23, rfl, rfl, h22⟩ := hv
        obtain ⟨g24, h25⟩ := h22
        refine mz_go_blk mz_m28 3 (pc' := 54) (L' := [some (.ref 37), some (.ref 30), some (.int (l2 + (-1)))]) (S' := []) (sh' := mz_sh) (m' := mz_up m21 40 l2.toNatClampNeg r23) (g := mz_inb l2 4001 && true) rfl rfl (mz_and2 (g24) (rfl)) ?_
        exact h25
    · have h26 := h6.2 c7
      refine mz_go_blk mz_m28 2 (pc' := 54) (L' := [some (.ref 37), some (.ref 30), some (.int (l2 + (-1)))]) (S' := []) (sh' := mz_sh) (m' := mz_up m 40 l2.toNatClampNeg l2) (g := true) rfl rfl (rfl) ?_
      exact h26
set_option maxRecDepth 100000 in
theorem t_W_placeStatements_0 {X : mz_X} {m : mz_M} {Q : mz_M → Prop} (a2 : Int32)
    (h : mz_inb a2 4001 = true ∧ (((m 31 a2.toNatClampNeg) = 0 → mz_gv X mz_sh 29 30 [some (.ref 37), some (.ref 30), some (.int a2), some (.int (m 31 a2.toNatClampNeg)), some (.int (a2 + 1)), some (.int 0), none, none] m Q) ∧ (¬ ((m 31 a2.toNatClampNeg) = 0) → (((m 31 a2.toNatClampNeg) = 3 → mz_gv X mz_sh 29 30 [some (.ref 37), some (.ref 30), some (.int a2), some (.int (m 31 a2.toNatClampNeg)), some (.int (a2 + 1)), some (.int 0), none, none] m Q) ∧ (¬ ((m 31 a2.toNatClampNeg) = 3) → (((m 31 a2.toNatClampNeg) = 4 → mz_gv X mz_sh 29 30 [some (.ref 37), some (.ref 30), some (.int a2), some (.int (m 31 a2.toNatClampNeg)), some (.int (a2 + 1)), some (.int 0), none, none] m Q) ∧ (¬ ((m 31 a2.toNatClampNeg) = 4) → Q m))))))) :
    mz_gv X mz_sh 29 0 [some (.ref 37), some (.ref 30), some (.int a2), none, none, none, none, none] m Q := by
  obtain ⟨g1, h2⟩ := h
  refine mz_go_blk mz_m29 7 (pc' := (if (m 31 a2.toNatClampNeg) = 0 then 22 else 11)) (L' := [some (.ref 37), some (.ref 30), some (.int a2), some (.int (m 31 a2.toNatClampNeg)), none, none, none, none]) (S' := []) (sh' := mz_sh) (m' := m) (g := mz_inb a2 4001 && true) rfl rfl (mz_and2 (g1) (rfl)) ?_
  refine mz_go_if (fun c3 => ?_) (fun c3 => ?_)
  · have h4 := h2.1 c3
    refine mz_go_blk mz_m29 6 (pc' := 30) (L' := [some (.ref 37), some (.ref 30), some (.int a2), some (.int (m 31 a2.toNatClampNeg)), some (.int (a2 + 1)), some (.int 0), none, none]) (S' := []) (sh' := mz_sh) (m' := m) (g := true) rfl rfl (rfl) ?_
    exact h4
  · have h5 := h2.2 c3
    refine mz_go_blk mz_m29 3 (pc' := (if (m 31 a2.toNatClampNeg) = 3 then 22 else 16)) (L' := [some (.ref 37), some (.ref 30), some (.int a2), some (.int (m 31 a2.toNatClampNeg)), none, none, none, none]) (S' := []) (sh' := mz_sh) (m' := m) (g := true) rfl rfl (rfl) ?_
    refine mz_go_if (fun c6 => ?_) (fun c6 => ?_)
    · have h7 := h5.1 c6
      refine mz_go_blk mz_m29 6 (pc' := 30) (L' := [some (.ref 37), some (.ref 30), some (.int a2), some (.int (m 31 a2.toNatClampNeg)), some (.int (a2 + 1)), some (.int 0), none, none]) (S' := []) (sh' := mz_sh) (m' := m) (g := true) rfl rfl (rfl) ?_
      exact h7
    · have h8 := h5.2 c6
      refine mz_go_blk mz_m29 3 (pc' := (if (m 31 a2.toNatClampNeg) = 4 then 22 else 21)) (L' := [some (.ref 37), some (.ref 30), some (.int a2), some (.int (m 31 a2.toNatClampNeg)), none, none, none, none]) (S' := []) (sh' := mz_sh) (m' := m) (g := true) rfl rfl (rfl) ?_
      refine mz_go_if (fun c9 => ?_) (fun c9 => ?_)
      · have h10 := h8.1 c9
        refine mz_go_blk mz_m29 6 (pc' := 30) (L' := [some (.ref 37), some (.ref 30), some (.int a2), some (.int (m 31 a2.toNatClampNeg)), some (.int (a2 + 1)), some (.int 0), none, none]) (S' := []) (sh' := mz_sh) (m' := m) (g := true) rfl rfl (rfl) ?_
        exact h10
      · have h11 := h8.2 c9
        exact mz_go_ret mz_m29 rfl rfl rfl ⟨rfl, rfl, h11⟩
set_option maxRecDepth 100000 in
theorem t_W_placeStatements_1 {X : mz_X} {m : mz_M} {Q : mz_M → Prop} (l2 : Int32) (l3 : Int32) (l4 : Int32) (l5 : Int32)
    (h : mz_inb l2 4001 = true ∧ (((m 33 l2.toNatClampNeg) ≤ l5 → Q m) ∧ (¬ ((m 33 l2.toNatClampNeg) ≤ l5) → (((m 30 5) ≤ l4 → Q m) ∧ (¬ ((m 30 5) ≤ l4) → mz_gi X mz_sh 87 0 [some (.ref 30), some (.int l4)] m (fun r11 m9 => ((l3 = 0 → mz_inb l2 4001 = true ∧ (((m9 33 l2.toNatClampNeg) ≤ (l5 + 1) → ((l3 = 4 → mz_gi X mz_sh 31 0 [some (.int l2)] m9 (fun r22 m20 => mz_inb l4 4001 = true ∧ ((l3 = 4 → mz_inb l4 4001 = true ∧ mz_gv X mz_sh 29 30 [some (.ref 37), some (.ref 30), some (.int l2), some (.int l3), some (.int r11), some (.int (l5 + 1)), none, none] (mz_up (mz_up m20 39 l4.toNatClampNeg r22) 38 l4.toNatClampNeg l2) Q) ∧ (¬ (l3 = 4) → mz_inb l2 4001 = true ∧ mz_inb l4 4001 = true ∧ mz_gv X mz_sh 29 30 [some (.ref 37), some (.ref 30), some (.int l2), some (.int l3), some (.int r11), some (.int (l5 + 1)), none, none] (mz_up (mz_up m20 39 l4.toNatClampNeg r22) 38 l4.toNatClampNeg (m20 38 l2.toNatClampNeg)) Q)))) ∧ (¬ (l3 = 4) → mz_inb l2 4001 = true ∧ mz_inb l4 4001 = true ∧ ((l3 = 4 → mz_inb l4 4001 = true ∧ mz_gv X mz_sh 29 30 [some (.ref 37), some (.ref 30), some (.int l2), some (.int l3), some (.int r11), some (.int (l5 + 1)), none, none] (mz_up (mz_up m9 39 l4.toNatClampNeg (m9 39 l2.toNatClampNeg)) 38 l4.toNatClampNeg l2) Q) ∧ (¬ (l3 = 4) → mz_inb l2 4001 = true ∧ mz_inb l4 4001 = true ∧ mz_gv X mz_sh 29 30 [some (.ref 37), some (.ref 30), some (.int l2), some (.int l3), some (.int r11), some (.int (l5 + 1)), none, none] (mz_up (mz_up m9 39 l4.toNatClampNeg (m9 39 l2.toNatClampNeg)) 38 l4.toNatClampNeg (m9 38 l2.toNatClampNeg)) Q))))) ∧ (¬ ((m9 33 l2.toNatClampNeg) ≤ (l5 + 1)) → mz_inb l4 4001 = true ∧ ((l3 = 4 → mz_inb l4 4001 = true ∧ mz_gv X mz_sh 29 30 [some (.ref 37), some (.ref 30), some (.int l2), some (.int l3), some (.int r11), some (.int (l5 + 1)), none, none] (mz_up (mz_up m9 39 l4.toNatClampNeg r11) 38 l4.toNatClampNeg l2) Q) ∧ (¬ (l3 = 4) → mz_inb l2 4001 = true ∧ mz_inb l4 4001 = true ∧ mz_gv X mz_sh 29 30 [some (.ref 37), some (.ref 30), some (.int l2), some (.int l3), some (.int r11), some (.int (l5 + 1)), none, none] (mz_up (mz_up m9 39 l4.toNatClampNeg r11) 38 l4.toNatClampNeg (m9 38 l2.toNatClampNeg)) Q))))) ∧ (¬ (l3 = 0) → ((l3 = 4 → mz_gi X mz_sh 31 0 [some (.int l2)] m9 (fun r61 m59 => mz_inb l4 4001 = true ∧ ((l3 = 4 → mz_inb l4 4001 = true ∧ mz_gv X mz_sh 29 30 [some (.ref 37), some (.ref 30), some (.int l2), some (.int l3), some (.int r11), some (.int (l5 + 1)), none, none] (mz_up (mz_up m59 39 l4.toNatClampNeg r61) 38 l4.toNatClampNeg l2) Q) ∧ (¬ (l3 = 4) → mz_inb l2 4001 = true ∧ mz_inb l4 4001 = true ∧ mz_gv X mz_sh 29 30 [some (.ref 37), some (.ref 30), some (.int l2), some (.int l3), some (.int r11), some (.int (l5 + 1)), none, none] (mz_up (mz_up m59 39 l4.toNatClampNeg r61) 38 l4.toNatClampNeg (m59 38 l2.toNatClampNeg)) Q)))) ∧ (¬ (l3 = 4) → mz_inb l2 4001 = true ∧ mz_inb l4 4001 = true ∧ ((l3 = 4 → mz_inb l4 4001 = true ∧ mz_gv X mz_sh 29 30 [some (.ref 37), some (.ref 30), some (.int l2), some (.int l3), some (.int r11), some (.int (l5 + 1)), none, none] (mz_up (mz_up m9 39 l4.toNatClampNeg (m9 39 l2.toNatClampNeg)) 38 l4.toNatClampNeg l2) Q) ∧ (¬ (l3 = 4) → mz_inb l2 4001 = true ∧ mz_inb l4 4001 = true ∧ mz_gv X mz_sh 29 30 [some (.ref 37), some (.ref 30), some (.int l2), some (.int l3), some (.int r11), some (.int (l5 + 1)), none, none] (mz_up (mz_up m9 39 l4.toNatClampNeg (m9 39 l2.toNatClampNeg)) 38 l4.toNatClampNeg (m9 38 l2.toNatClampNeg)) Q)))))))))))) :
    mz_gv X mz_sh 29 30 [some (.ref 37), some (.ref 30), some (.int l2), some (.int l3), some (.int l4), some (.int l5), none, none] m Q := by
  obtain ⟨g1, h2⟩ := h
  refine mz_go_blk mz_m29 6 (pc' := (if (m 33 l2.toNatClampNeg) ≤ l5 then 149 else 41)) (L' := [some (.ref 37), some (.ref 30), some (.int l2), some (.int l3), some (.int l4), some (.int l5), none, none]) (S' := []) (sh' := mz_sh) (m' := m) (g := mz_inb l2 4001 && true) rfl rfl (mz_and2 (g1) (rfl)) ?_
  refine mz_go_if (fun c3 => ?_) (fun c3 => ?_)
  · have h4 := h2.1 c3
    exact mz_go_ret mz_m29 rfl rfl rfl ⟨rfl, rfl, h4⟩
  · have h5 := h2.2 c3
    refine mz_go_blk mz_m29 4 (pc' := (if (m 30 5) ≤ l4 then 149 else 50)) (L' := [some (.ref 37), some (.ref 30), some (.int l2), some (.int l3), some (.int l4), some (.int l5), none, none]) (S' := []) (sh' := mz_sh) (m' := m) (g := true) rfl rfl (rfl) ?_
    refine mz_go_if (fun c6 => ?_) (fun c6 => ?_)
    · have h7 := h5.1 c6
      exact mz_go_ret mz_m29 rfl rfl rfl ⟨rfl, rfl, h7⟩
    · have h8 := h5.2 c6
      refine mz_go_blk mz_m29 2 (pc' := 53) (L' := [some (.ref 37), some (.ref 30), some (.int l2), some (.int l3), some (.int l4), some (.int l5), none, none]) (S' := [.int l4, .ref 30]) (sh' := mz_sh) (m' := m) (g := true) rfl rfl (rfl) ?_
      refine mz_go_call mz_m29 mz_m87 rfl rfl rfl rfl rfl rfl rfl h8 (fun v sh1 m9 hv => ?_)
      obtain ⟨r11, rfl, rfl, h10⟩ := hv
      refine mz_go_blk mz_m29 3 (pc' := (if l3 = 0 then 62 else 79)) (L' := [some (.ref 37), some (.ref 30), some (.int l2), some (.int l3), some (.int l4), some (.int l5), some (.int r11), none]) (S' := []) (sh' := mz_sh) (m' := m9) (g := true) rfl rfl (rfl) ?_
      refine mz_go_if (fun c12 => ?_) (fun c12 => ?_)
      · have h13 := h10.1 c12
        obtain ⟨g14, h15⟩ := h13
        refine mz_go_blk mz_m29 8 (pc' := (if (m9 33 l2.toNatClampNeg) ≤ (l5 + 1) then 79 else 75)) (L' := [some (.ref 37), some (.ref 30), some (.int l2), some (.int l3), some (.int l4), some (.int l5), some (.int r11), none]) (S' := []) (sh' := mz_sh) (m' := m9) (g := mz_inb l2 4001 && true) rfl rfl (mz_and2 (g14) (rfl)) ?_
        refine mz_go_if (fun c16 => ?_) (fun c16 => ?_)
        · have h17 := h15.1 c16
          refine mz_go_blk mz_m29 10 (pc' := (if l3 = 4 then 103 else 110)) (L' := [some (.ref 37), some (.ref 30), some (.int l2), some (.int l3), some (.int l4), some (.int l5), some (.int r11), some (.int 0)]) (S' := [.int l4, .ref 39]) (sh' := mz_sh) (m' := m9) (g := true) rfl rfl (rfl) ?_
          refine mz_go_if (fun c18 => ?_) (fun c18 => ?_)
          · have h19 := h17.1 c18
            refine mz_go_blk mz_m29 1 (pc' := 104) (L' := [some (.ref 37), some (.ref 30), some (.int l2), some (.int l3), some (.int l4), some (.int l5), some (.int r11), some (.int 0)]) (S' := [.int l2, .int l4, .ref 39]) (sh' := mz_sh) (m' := m9) (g := true) rfl rfl (rfl) ?_
            refine mz_go_call mz_m29 mz_m31 rfl rfl rfl rfl rfl rfl rfl h19 (fun v sh1 m20 hv => ?_)
            obtain ⟨r22, rfl, rfl, h21⟩ := hv
            obtain ⟨g23, h24⟩ := h21
            refine mz_go_blk mz_m29 8 (pc' := (if l3 = 4 then 128 else 132)) (L' := [some (.ref 37), some (.ref 30), some (.int l2), some (.int l3), some (.int l4), some (.int l5), some (.int r11), some (.int 0)]) (S' := [.int l4, .ref 38]) (sh' := mz_sh) (m' := mz_up m20 39 l4.toNatClampNeg r22) (g := mz_inb l4 4001 && true) rfl rfl (mz_and2 (g23) (rfl)) ?_
            refine mz_go_if (fun c25 => ?_) (fun c25 => ?_)
            · have h26 := h24.1 c25
              obtain ⟨g27, h28⟩ := h26
              refine mz_go_blk mz_m29 7 (pc' := 30) (L' := [some (.ref 37), some (.ref 30), some (.int l2), some (.int l3), some (.int r11), some (.int (l5 + 1)), some (.int r11), some (.int 0)]) (S' := []) (sh' := mz_sh) (m' := mz_up (mz_up m20 39 l4.toNatClampNeg r22) 38 l4.toNatClampNeg l2) (g := mz_inb l4 4001 && true) rfl rfl (mz_and2 (g27) (rfl)) ?_
              exact mz_go.forget (L := [some (.ref 37), some (.ref 30), some (.int l2), some (.int l3), some (.int r11), some (.int (l5 + 1)), none, none]) (mz_lel_cons rfl (mz_lel_cons rfl (mz_lel_cons rfl (mz_lel_cons rfl (mz_lel_cons rfl (mz_lel_cons rfl (mz_lel_cons trivial (mz_lel_cons trivial (mz_lel_nil))))))))) h28
            · have h29 := h24.2 c25
              obtain ⟨g30, g31, h32⟩ := h29
              refine mz_go_blk mz_m29 9 (pc' := 30) (L' := [some (.ref 37), some (.ref 30), some (.int l2), some (.int l3), some (.int r11), some (.int (l5 + 1)), some (.int r11), some (.int 0)]) (S' := []) (sh' := mz_sh) (m' := mz_up (mz_up m20 39 l4.toNatClampNeg r22) 38 l4.toNatClampNeg (m20 38 l2.toNatClampNeg)) (g := mz_inb l4 4001 && (mz_inb l2 4001 && true)) rfl rfl (mz_and2 (g31) (mz_and2 (g30) (rfl))) ?_
              exact mz_go.forget (L := [some (.ref 37), some (.ref 30), some (.int l2), some (.int l3), some (.int r11), some (.int (l5 + 1)), none, none]) (mz_lel_cons rfl (mz_lel_cons rfl (mz_lel_cons rfl (mz_lel_cons rfl (mz_lel_cons rfl (mz_lel_cons rfl (mz_lel_cons trivial (mz_lel_cons trivial (mz_lel_nil))))))))) h32
          · have h33 := h17.2 c18
            obtain ⟨g34, g35, h36⟩ := h33
            refine mz_go_blk mz_m29 11 (pc' := (if l3 = 4 then 128 else 132)) (L' := [some (.ref 37), some (.ref 30), some (.int l2), some (.int l3), some (.int l4), some (.int l5), some (.int r11), some (.int 0)]) (S' := [.int l4, .ref 38]) (sh' := mz_sh) (m' := mz_up m9 39 l4.toNatClampNeg (m9 39 l2.toNatClampNeg)) (g := mz_inb l4 4001 && (mz_inb l2 4001 && true)) rfl rfl (mz_and2 (g35) (mz_and2 (g34) (rfl))) ?_
            refine mz_go_if (fun c37 => ?_) (fun c37 => ?_)
            · have h38 := h36.1 c37
              obtain ⟨g39, h40⟩ := h38
              refine mz_go_blk mz_m29 7 (pc' := 30) (L' := [some (.ref 37), some (.ref 30), some (.int l2), some (.int l3), some (.int r11), some (.int (l5 + 1)), some (.int r11), some (.int 0)]) (S' := []) (sh' := mz_sh) (m' := mz_up (mz_up m9 39 l4.toNatClampNeg (m9 39 l2.toNatClampNeg)) 38 l4.toNatClampNeg l2) (g := mz_inb l4 4001 && true) rfl rfl (mz_and2 (g39) (rfl)) ?_
              exact mz_go.forget (L := [some (.ref 37), some (.ref 30), some (.int l2), some (.int l3), some (.int r11), some (.int (l5 + 1)), none, none]) (mz_lel_cons rfl (mz_lel_cons rfl (mz_lel_cons rfl (mz_lel_cons rfl (mz_lel_cons rfl (mz_lel_cons rfl (mz_lel_cons trivial (mz_lel_cons trivial (mz_lel_nil))))))))) h40
            · have h41 := h36.2 c37
              obtain ⟨g42, g43, h44⟩ := h41
              refine mz_go_blk mz_m29 9 (pc' := 30) (L' := [some (.ref 37), some (.ref 30), some (.int l2), some (.int l3), some (.int r11), some (.int (l5 + 1)), some (.int r11), some (.int 0)]) (S' := []) (sh' := mz_sh) (m' := mz_up (mz_up m9 39 l4.toNatClampNeg (m9 39 l2.toNatClampNeg)) 38 l4.toNatClampNeg (m9 38 l2.toNatClampNeg)) (g := mz_inb l4 4001 && (mz_inb l2 4001 && true)) rfl rfl (mz_and2 (g43) (mz_and2 (g42) (rfl))) ?_
              exact mz_go.forget (L := [some (.ref 37), some (.ref 30), some (.int l2), some (.int l3), some (.int r11), some (.int (l5 + 1)), none, none]) (mz_lel_cons rfl (mz_lel_cons rfl (mz_lel_cons rfl (mz_lel_cons rfl (mz_lel_cons rfl (mz_lel_cons rfl (mz_lel_cons trivial (mz_lel_cons trivial (mz_lel_nil))))))))) h44
        · have h45 := h15.2 c16
          obtain ⟨g46, h47⟩ := h45
          refine mz_go_blk mz_m29 17 (pc' := (if l3 = 4 then 128 else 132)) (L' := [some (.ref 37), some (.ref 30), some (.int l2), some (.int l3), some (.int l4), some (.int l5), some (.int r11), some (.int 1)]) (S' := [.int l4, .ref 38]) (sh' := mz_sh) (m' := mz_up m9 39 l4.toNatClampNeg r11) (g := mz_inb l4 4001 && true) rfl rfl (mz_and2 (g46) (rfl)) ?_
          refine mz_go_if (fun c48 => ?_) (fun c48 => ?_)
          · have h49 := h47.1 c48
            obtain ⟨g50, h51⟩ := h49
            refine mz_go_blk mz_m29 7 (pc' := 30) (L' := [some (.ref 37), some (.ref 30), some (.int l2), some (.int l3), some (.int r11), some (.int (l5 + 1)), some (.int r11), some (.int 1)]) (S' := []) (sh' := mz_sh) (m' := mz_up (mz_up m9 39 l4.toNatClampNeg r11) 38 l4.toNatClampNeg l2) (g := mz_inb l4 4001 && true) rfl rfl (mz_and2 (g50) (rfl)) ?_
            exact mz_go.forget (L := [some (.ref 37), some (.ref 30), some (.int l2), some (.int l3), some (.int r11), some (.int (l5 + 1)), none, none]) (mz_lel_cons rfl (mz_lel_cons rfl (mz_lel_cons rfl (mz_lel_cons rfl (mz_lel_cons rfl (mz_lel_cons rfl (mz_lel_cons trivial (mz_lel_cons trivial (mz_lel_nil))))))))) h51
          · have h52 := h47.2 c48
            obtain ⟨g53, g54, h55⟩ := h52
            refine mz_go_blk mz_m29 9 (pc' := 30) (L' := [some (.ref 37), some (.ref 30), some (.int l2), some (.int l3), some (.int r11), some (.int (l5 + 1)), some (.int r11), some (.int 1)]) (S' := []) (sh' := mz_sh) (m' := mz_up (mz_up m9 39 l4.toNatClampNeg r11) 38 l4.toNatClampNeg (m9 38 l2.toNatClampNeg)) (g := mz_inb l4 4001 && (mz_inb l2 4001 && true)) rfl rfl (mz_and2 (g54) (mz_and2 (g53) (rfl))) ?_
            exact mz_go.forget (L := [some (.ref 37), some (.ref 30), some (.int l2), some (.int l3), some (.int r11), some (.int (l5 + 1)), none, none]) (mz_lel_cons rfl (mz_lel_cons rfl (mz_lel_cons rfl (mz_lel_cons rfl (mz_lel_cons rfl (mz_lel_cons rfl (mz_lel_cons trivial (mz_lel_cons trivial (mz_lel_nil))))))))) h55
      · have h56 := h10.2 c12
        refine mz_go_blk mz_m29 10 (pc' := (if l3 = 4 then 103 else 110)) (L' := [some (.ref 37), some (.ref 30), some (.int l2), some (.int l3), some (.int l4), some (.int l5), some (.int r11), some (.int 0)]) (S' := [.int l4, .ref 39]) (sh' := mz_sh) (m' := m9) (g := true) rfl rfl (rfl) ?_
        refine mz_go_if (fun c57 => ?_) (fun c57 => ?_)
        · have h58 := h56.1 c57
          refine mz_go_blk mz_m29 1 (pc' := 104) (L' := [some (.ref 37), some (.ref 30), some (.int l2), some (.int l3), some (.int l4), some (.int l5), some (.int r11), some (.int 0)]) (S' := [.int l2, .int l4, .ref 39]) (sh' := mz_sh) (m' := m9) (g := true) rfl rfl (rfl) ?_
          refine mz_go_call mz_m29 mz_m31 rfl rfl rfl rfl rfl rfl rfl h58 (fun v sh1 m59 hv => ?_)
          obtain ⟨r61, rfl, rfl, h60⟩ := hv
          obtain ⟨g62, h63⟩ := h60
          refine mz_go_blk mz_m29 8 (pc' := (if l3 = 4 then 128 else 132)) (L' := [some (.ref 37), some (.ref 30), some (.int l2), some (.int l3), some (.int l4), some (.int l5), some (.int r11), some (.int 0)]) (S' := [.int l4, .ref 38]) (sh' := mz_sh) (m' := mz_up m59 39 l4.toNatClampNeg r61) (g := mz_inb l4 4001 && true) rfl rfl (mz_and2 (g62) (rfl)) ?_
          refine mz_go_if (fun c64 => ?_) (fun c64 => ?_)
          · have h65 := h63.1 c64
            obtain ⟨g66, h67⟩ := h65
            refine mz_go_blk mz_m29 7 (pc' := 30) (L' := [some (.ref 37), some (.ref 30), some (.int l2), some (.int l3), some (.int r11), some (.int (l5 + 1)), some (.int r11), some (.int 0)]) (S' := []) (sh' := mz_sh) (m' := mz_up (mz_up m59 39 l4.toNatClampNeg r61) 38 l4.toNatClampNeg l2) (g := mz_inb l4 4001 && true) rfl rfl (mz_and2 (g66) (rfl)) ?_
            exact mz_go.forget (L := [some (.ref 37), some (.ref 30), some (.int l2), some (.int l3), some (.int r11), some (.int (l5 + 1)), none, none]) (mz_lel_cons rfl (mz_lel_cons rfl (mz_lel_cons rfl (mz_lel_cons rfl (mz_lel_cons rfl (mz_lel_cons rfl (mz_lel_cons trivial (mz_lel_cons trivial (mz_lel_nil))))))))) h67
          · have h68 := h63.2 c64
            obtain ⟨g69, g70, h71⟩ := h68
            refine mz_go_blk mz_m29 9 (pc' := 30) (L' := [some (.ref 37), some (.ref 30), some (.int l2), some (.int l3), some (.int r11), some (.int (l5 + 1)), some (.int r11), some (.int 0)]) (S' := []) (sh' := mz_sh) (m' := mz_up (mz_up m59 39 l4.toNatClampNeg r61) 38 l4.toNatClampNeg (m59 38 l2.toNatClampNeg)) (g := mz_inb l4 4001 && (mz_inb l2 4001 && true)) rfl rfl (mz_and2 (g70) (mz_and2 (g69) (rfl))) ?_
            exact mz_go.forget (L := [some (.ref 37), some (.ref 30), some (.int l2), some (.int l3), some (.int r11), some (.int (l5 + 1)), none, none]) (mz_lel_cons rfl (mz_lel_cons rfl (mz_lel_cons rfl (mz_lel_cons rfl (mz_lel_cons rfl (mz_lel_cons rfl (mz_lel_cons trivial (mz_lel_cons trivial (mz_lel_nil))))))))) h71
        · have h72 := h56.2 c57
          obtain ⟨g73, g74, h75⟩ := h72
          refine mz_go_blk mz_m29 11 (pc' := (if l3 = 4 then 128 else 132)) (L' := [some (.ref 37), some (.ref 30), some (.int l2), some (.int l3), some (.int l4), some (.int l5), some (.int r11), some (.int 0)]) (S' := [.int l4, .ref 38]) (sh' := mz_sh) (m' := mz_up m9 39 l4.toNatClampNeg (m9 39 l2.toNatClampNeg)) (g := mz_inb l4 4001 && (mz_inb l2 4001 && true)) rfl rfl (mz_and2 (g74) (mz_and2 (g73) (rfl))) ?_
          refine mz_go_if (fun c76 => ?_) (fun c76 => ?_)
          · have h77 := h75.1 c76
            obtain ⟨g78, h79⟩ := h77
            refine mz_go_blk mz_m29 7 (pc' := 30) (L' := [some (.ref 37), some (.ref 30), some (.int l2), some (.int l3), some (.int r11), some (.int (l5 + 1)), some (.int r11), some (.int 0)]) (S' := []) (sh' := mz_sh) (m' := mz_up (mz_up m9 39 l4.toNatClampNeg (m9 39 l2.toNatClampNeg)) 38 l4.toNatClampNeg l2) (g := mz_inb l4 4001 && true) rfl rfl (mz_and2 (g78) (rfl)) ?_
            exact mz_go.forget (L := [some (.ref 37), some (.ref 30), some (.int l2), some (.int l3), some (.int r11), some (.int (l5 + 1)), none, none]) (mz_lel_cons rfl (mz_lel_cons rfl (mz_lel_cons rfl (mz_lel_cons rfl (mz_lel_cons rfl (mz_lel_cons rfl (mz_lel_cons trivial (mz_lel_cons trivial (mz_lel_nil))))))))) h79
          · have h80 := h75.2 c76
            obtain ⟨g81, g82, h83⟩ := h80
            refine mz_go_blk mz_m29 9 (pc' := 30) (L' := [some (.ref 37), some (.ref 30), some (.int l2), some (.int l3), some (.int r11), some (.int (l5 + 1)), some (.int r11), some (.int 0)]) (S' := []) (sh' := mz_sh) (m' := mz_up (mz_up m9 39 l4.toNatClampNeg (m9 39 l2.toNatClampNeg)) 38 l4.toNatClampNeg (m9 38 l2.toNatClampNeg)) (g := mz_inb l4 4001 && (mz_inb l2 4001 && true)) rfl rfl (mz_and2 (g82) (mz_and2 (g81) (rfl))) ?_
            exact mz_go.forget (L := [some (.ref 37), some (.ref 30), some (.int l2), some (.int l3), some (.int r11), some (.int (l5 + 1)), none, none]) (mz_lel_cons rfl (mz_lel_cons rfl (mz_lel_cons rfl (mz_lel_cons rfl (mz_lel_cons rfl (mz_lel_cons rfl (mz_lel_cons trivial (mz_lel_cons trivial (mz_lel_nil))))))))) h83
set_option maxRecDepth 100000 in
theorem t_W_firstStray_0 {X : mz_X} {m : mz_M} {Q : Int32 → mz_M → Prop}
    (h : mz_gi X mz_sh 30 2 [some (.ref 37), some (.ref 30), some (.int 0), none] m Q) :
    mz_gi X mz_sh 30 0 [some (.ref 37), some (.ref 30), none, none] m Q := by
  refine mz_go_blk mz_m30 2 (pc' := 2) (L' := [some (.ref 37), some (.ref 30), some (.int 0), none]) (S' := []) (sh' := mz_sh) (m' := m) (g := true) rfl rfl (rfl) ?_
  exact h
set_option maxRecDepth 100000 in
theorem t_W_firstStray_1 {X : mz_X} {m : mz_M} {Q : Int32 → mz_M → Prop} (l2 : Int32)
    (h : (((m 30 5) ≤ l2 → Q (-1) m) ∧ (¬ ((m 30 5) ≤ l2) → mz_inb l2 4001 = true ∧ (((m 31 l2.toNatClampNeg) = 5 → mz_inb l2 4001 = true ∧ (((m 38 l2.toNatClampNeg) = (-1) → mz_inb l2 4001 = true ∧ Q (m 32 l2.toNatClampNeg) m) ∧ (¬ ((m 38 l2.toNatClampNeg) = (-1)) → mz_gi X mz_sh 30 2 [some (.ref 37), some (.ref 30), some (.int (l2 + 1)), none] m Q))) ∧ (¬ ((m 31 l2.toNatClampNeg) = 5) → mz_inb l2 4001 = true ∧ (((m 31 l2.toNatClampNeg) = 6 → mz_inb l2 4001 = true ∧ (((m 38 l2.toNatClampNeg) = (-1) → mz_inb l2 4001 = true ∧ Q (m 32 l2.toNatClampNeg) m) ∧ (¬ ((m 38 l2.toNatClampNeg) = (-1)) → mz_gi X mz_sh 30 2 [some (.ref 37), some (.ref 30), some (.int (l2 + 1)), none] m Q))) ∧ (¬ ((m 31 l2.toNatClampNeg) = 6) → mz_gi X mz_sh 30 2 [some (.ref 37), some (.ref 30), some (.int (l2 + 1)), none] m Q))))))) :
    mz_gi X mz_sh 30 2 [some (.ref 37), some (.ref 30), some (.int l2), none] m Q := by
  refine mz_go_blk mz_m30 4 (pc' := (if (m 30 5) ≤ l2 then 64 else 10)) (L' := [some (.ref 37), some (.ref 30), some (.int l2), none]) (S' := []) (sh' := mz_sh) (m' := m) (g := true) rfl rfl (rfl) ?_
  refine mz_go_if (fun c1 => ?_) (fun c1 => ?_)
  · have h2 := h.1 c1
    refine mz_go_blk mz_m30 1 (pc' := 65) (L' := [some (.ref 37), some (.ref 30), some (.int l2), none]) (S' := [.int (-1)]) (sh' := mz_sh) (m' := m) (g := true) rfl rfl (rfl) ?_
    exact mz_go_ret mz_m30 rfl rfl rfl ⟨_, rfl, rfl, h2⟩
  · have h3 := h.2 c1
    obtain ⟨g4, h5⟩ := h3
    refine mz_go_blk mz_m30 6 (pc' := (if (m 31 l2.toNatClampNeg) = 5 then 31 else 20)) (L' := [some (.ref 37), some (.ref 30), some (.int l2), none]) (S' := []) (sh' := mz_sh) (m' := m) (g := mz_inb l2 4001 && true) rfl rfl (mz_and2 (g4) (rfl)) ?_
    refine mz_go_if (fun c6 => ?_) (fun c6 => ?_)
    · have h7 := h5.1 c6
      obtain ⟨g8, h9⟩ := h7
      refine mz_go_blk mz_m30 11 (pc' := (if (m 38 l2.toNatClampNeg) = (-1) then 51 else 58)) (L' := [some (.ref 37), some (.ref 30), some (.int l2), some (.int 1)]) (S' := []) (sh' := mz_sh) (m' := m) (g := mz_inb l2 4001 && true) rfl rfl (mz_and2 (g8) (rfl)) ?_
      refine mz_go_if (fun c10 => ?_) (fun c10 => ?_)
      · have h11 := h9.1 c10
        obtain ⟨g12, h13⟩ := h11
        refine mz_go_blk mz_m30 4 (pc' := 57) (L' := [some (.ref 37), some (.ref 30), some (.int l2), some (.int 1)]) (S' := [.int (m 32 l2.toNatClampNeg)]) (sh' := mz_sh) (m' := m) (g := mz_inb l2 4001 && true) rfl rfl (mz_and2 (g12) (rfl)) ?_
        exact mz_go_ret mz_m30 rfl rfl rfl ⟨_, rfl, rfl, h13⟩
      · have h14 := h9.2 c10
        refine mz_go_blk mz_m30 2 (pc' := 2) (L' := [some (.ref 37), some (.ref 30), some (.int (l2 + 1)), some (.int 1)]) (S' := []) (sh' := mz_sh) (m' := m) (g := true) rfl rfl (rfl) ?_
        exact mz_go.forget (L := [some (.ref 37), some (.ref 30), some (.int (l2 + 1)), none]) (mz_lel_cons rfl (mz_lel_cons rfl (mz_lel_cons rfl (mz_lel_cons trivial (mz_lel_nil))))) h14
    · have h15 := h5.2 c6
      obtain ⟨g16, h17⟩ := h15
      refine mz_go_blk mz_m30 6 (pc' := (if (m 31 l2.toNatClampNeg) = 6 then 31 else 35)) (L' := [some (.ref 37), some (.ref 30), some (.int l2), none]) (S' := []) (sh' := mz_sh) (m' := m) (g := mz_inb l2 4001 && true) rfl rfl (mz_and2 (g16) (rfl)) ?_
      refine mz_go_if (fun c18 => ?_) (fun c18 => ?_)
      · have h19 := h17.1 c18
        obtain ⟨g20, h21⟩ := h19
        refine mz_go_blk mz_m30 11 (pc' := (if (m 38 l2.toNatClampNeg) = (-1) then 51 else 58)) (L' := [some (.ref 37), some (.ref 30), some (.int l2), some (.int 1)]) (S' := []) (sh' := mz_sh) (m' := m) (g := mz_inb l2 4001 && true) rfl rfl (mz_and2 (g20) (rfl)) ?_
        refine mz_go_if (fun c22 => ?_) (fun c22 => ?_)
        · have h23 := h21.1 c22
          obtain ⟨g24, h25⟩ := h23
          refine mz_go_blk mz_m30 4 (pc' := 57) (L' := [some (.ref 37), some (.ref 30), some (.int l2), some (.int 1)]) (S' := [.int (m 32 l2.toNatClampNeg)]) (sh' := mz_sh) (m' := m) (g := mz_inb l2 4001 && true) rfl rfl (mz_and2 (g24) (rfl)) ?_
          exact mz_go_ret mz_m30 rfl rfl rfl ⟨_, rfl, rfl, h25⟩
        · have h26 := h21.2 c22
          refine mz_go_blk mz_m30 2 (pc' := 2) (L' := [some (.ref 37), some (.ref 30), some (.int (l2 + 1)), some (.int 1)]) (S' := []) (sh' := mz_sh) (m' := m) (g := true) rfl rfl (rfl) ?_
          exact mz_go.forget (L := [some (.ref 37), some (.ref 30), some (.int (l2 + 1)), none]) (mz_lel_cons rfl (mz_lel_cons rfl (mz_lel_cons rfl (mz_lel_cons trivial (mz_lel_nil))))) h26
      · have h27 := h17.2 c18
        refine mz_go_blk mz_m30 6 (pc' := 2) (L' := [some (.ref 37), some (.ref 30), some (.int (l2 + 1)), some (.int 0)]) (S' := []) (sh' := mz_sh) (m' := m) (g := true) rfl rfl (rfl) ?_
        exact mz_go.forget (L := [some (.ref 37), some (.ref 30), some (.int (l2 + 1)), none]) (mz_lel_cons rfl (mz_lel_cons rfl (mz_lel_cons rfl (mz_lel_cons trivial (mz_lel_nil))))) h27
set_option maxRecDepth 100000 in
theorem t_W_round_0 {X : mz_X} {m : mz_M} {Q : Int32 → mz_M → Prop} (a0 : Int32)
    (h : Q ((-1) - a0) m) :
    mz_gi X mz_sh 31 0 [some (.int a0)] m Q := by
  refine mz_go_blk mz_m31 3 (pc' := 3) (L' := [some (.int a0)]) (S' := [.int ((-1) - a0)]) (sh' := mz_sh) (m' := m) (g := true) rfl rfl (rfl) ?_
  exact mz_go_ret mz_m31 rfl rfl rfl ⟨_, rfl, rfl, h⟩
set_option maxRecDepth 100000 in
theorem t_W_into_0 {X : mz_X} {m : mz_M} {Q : Int32 → mz_M → Prop} (a1 : Int32)
    (h : ((a1 < 0 → Q a1 m) ∧ (¬ (a1 < 0) → (((m 37 1) ≤ a1 → Q a1 m) ∧ (¬ ((m 37 1) ≤ a1) → mz_inb a1 4001 = true ∧ Q (m 40 a1.toNatClampNeg) m))))) :
    mz_gi X mz_sh 32 0 [some (.ref 37), some (.int a1)] m Q := by
  refine mz_go_blk mz_m32 2 (pc' := (if a1 < 0 then 21 else 4)) (L' := [some (.ref 37), some (.int a1)]) (S' := []) (sh' := mz_sh) (m' := m) (g := true) rfl rfl (rfl) ?_
  refine mz_go_if (fun c1 => ?_) (fun c1 => ?_)
  · have h2 := h.1 c1
    refine mz_go_blk mz_m32 1 (pc' := 22) (L' := [some (.ref 37), some (.int a1)]) (S' := [.int a1]) (sh' := mz_sh) (m' := m) (g := true) rfl rfl (rfl) ?_
    exact mz_go_ret mz_m32 rfl rfl rfl ⟨_, rfl, rfl, h2⟩
  · have h3 := h.2 c1
    refine mz_go_blk mz_m32 4 (pc' := (if (m 37 1) ≤ a1 then 21 else 12)) (L' := [some (.ref 37), some (.int a1)]) (S' := []) (sh' := mz_sh) (m' := m) (g := true) rfl rfl (rfl) ?_
    refine mz_go_if (fun c4 => ?_) (fun c4 => ?_)
    · have h5 := h3.1 c4
      refine mz_go_blk mz_m32 1 (pc' := 22) (L' := [some (.ref 37), some (.int a1)]) (S' := [.int a1]) (sh' := mz_sh) (m' := m) (g := true) rfl rfl (rfl) ?_
      exact mz_go_ret mz_m32 rfl rfl rfl ⟨_, rfl, rfl, h5⟩
    · have h6 := h3.2 c4
      obtain ⟨g7, h8⟩ := h6
      refine mz_go_blk mz_m32 5 (pc' := 22) (L' := [some (.ref 37), some (.int a1)]) (S' := [.int (m 40 a1.toNatClampNeg)]) (sh' := mz_sh) (m' := m) (g := mz_inb a1 4001 && true) rfl rfl (mz_and2 (g7) (rfl)) ?_
      exact mz_go_ret mz_m32 rfl rfl rfl ⟨_, rfl, rfl, h8⟩
set_option maxRecDepth 100000 in
theorem t_W_behind_0 {X : mz_X} {m : mz_M} {Q : Int32 → mz_M → Prop} (a1 : Int32)
    (h : ((a1 < 0 → Q (m 37 1) m) ∧ (¬ (a1 < 0) → (((m 37 1) ≤ a1 → Q (m 37 1) m) ∧ (¬ ((m 37 1) ≤ a1) → mz_inb a1 4001 = true ∧ mz_gi X mz_sh 32 0 [some (.ref 37), some (.int (m 39 a1.toNatClampNeg))] m (fun r11 m9 => Q r11 m9)))))) :
    mz_gi X mz_sh 33 0 [some (.ref 37), some (.int a1)] m Q := by
  refine mz_go_blk mz_m33 2 (pc' := (if a1 < 0 then 25 else 4)) (L' := [some (.ref 37), some (.int a1)]) (S' := []) (sh' := mz_sh) (m' := m) (g := true) rfl rfl (rfl) ?_
  refine mz_go_if (fun c1 => ?_) (fun c1 => ?_)
  · have h2 := h.1 c1
    refine mz_go_blk mz_m33 2 (pc' := 29) (L' := [some (.ref 37), some (.int a1)]) (S' := [.int (m 37 1)]) (sh' := mz_sh) (m' := m) (g := true) rfl rfl (rfl) ?_
    exact mz_go_ret mz_m33 rfl rfl rfl ⟨_, rfl, rfl, h2⟩
  · have h3 := h.2 c1
    refine mz_go_blk mz_m33 4 (pc' := (if (m 37 1) ≤ a1 then 25 else 12)) (L' := [some (.ref 37), some (.int a1)]) (S' := []) (sh' := mz_sh) (m' := m) (g := true) rfl rfl (rfl) ?_
    refine mz_go_if (fun c4 => ?_) (fun c4 => ?_)
    · have h5 := h3.1 c4
      refine mz_go_blk mz_m33 2 (pc' := 29) (L' := [some (.ref 37), some (.int a1)]) (S' := [.int (m 37 1)]) (sh' := mz_sh) (m' := m) (g := true) rfl rfl (rfl) ?_
      exact mz_go_ret mz_m33 rfl rfl rfl ⟨_, rfl, rfl, h5⟩
    · have h6 := h3.2 c4
      obtain ⟨g7, h8⟩ := h6
      refine mz_go_blk mz_m33 5 (pc' := 19) (L' := [some (.ref 37), some (.int a1)]) (S' := [.int (m 39 a1.toNatClampNeg), .ref 37]) (sh' := mz_sh) (m' := m) (g := mz_inb a1 4001 && true) rfl rfl (mz_and2 (g7) (rfl)) ?_
      refine mz_go_call mz_m33 mz_m32 rfl rfl rfl rfl rfl rfl rfl h8 (fun v sh1 m9 hv => ?_)
      obtain ⟨r11, rfl, rfl, h10⟩ := hv
      refine mz_go_blk mz_m33 1 (pc' := 29) (L' := [some (.ref 37), some (.int a1)]) (S' := [.int r11]) (sh' := mz_sh) (m' := m9) (g := true) rfl rfl (rfl) ?_
      exact mz_go_ret mz_m33 rfl rfl rfl ⟨_, rfl, rfl, h10⟩
