set_option maxRecDepth 100000 in
theorem t_L_law_1 {X : mz_X} {m : mz_M} {Q : Int32 → mz_M → Prop} (l3 : Int32)
    (h : ((((Int32.ofNat X.1) - 4) < l3 → Q 1 m) ∧ (¬ (((Int32.ofNat X.1) - 4) < l3) → mz_inb l3 X.1 = true ∧ ((((X.2 l3.toNatClampNeg) &&& 15) = 0 → mz_inb (l3 + 1) X.1 = true ∧ mz_inb (l3 + 2) X.1 = true ∧ mz_inb (l3 + 3) X.1 = true ∧ mz_gi X mz_sh 100 0 [some (.ref 0), some (.long ((((X.2 (l3 + 1).toNatClampNeg).toInt64) <<< ((32 : Int32).toInt64 &&& 63)) ||| (((X.2 (l3 + 2).toNatClampNeg).toInt64) &&& 4294967295))), none, some (.int (X.2 (l3 + 3).toNatClampNeg)), none] m (fun r14 m12 => mz_inb (l3 + 1) X.1 = true ∧ mz_inb (l3 + 2) X.1 = true ∧ mz_inb (l3 + 3) X.1 = true ∧ mz_gi X mz_sh 132 0 [some (.ref 55), some (.long ((((X.2 (l3 + 1).toNatClampNeg).toInt64) <<< ((32 : Int32).toInt64 &&& 63)) ||| (((X.2 (l3 + 2).toNatClampNeg).toInt64) &&& 4294967295))), none, some (.int (X.2 (l3 + 3).toNatClampNeg)), none] m12 (fun r21 m19 => ((r14 = r21 → mz_gi X mz_sh 0 18 [some (.ref 350), some (.ref 0), some (.ref 55), some (.int (l3 + 4))] m19 Q) ∧ (¬ (r14 = r21) → Q 0 m19))))) ∧ (((X.2 l3.toNatClampNeg) &&& 15) = 1 → mz_gi X mz_sh 101 0 [some (.ref 0), none] m (fun r30 m28 => mz_gi X mz_sh 133 0 [some (.ref 55), none, none] m28 (fun r33 m31 => ((r30 = r33 → mz_gi X mz_sh 0 18 [some (.ref 350), some (.ref 0), some (.ref 55), some (.int (l3 + 4))] m31 Q) ∧ (¬ (r30 = r33) → Q 0 m31))))) ∧ (((X.2 l3.toNatClampNeg) &&& 15) = 2 → mz_gi X mz_sh 102 0 [some (.ref 0), none] m (fun r42 m40 => mz_gi X mz_sh 144 0 [some (.ref 55), none] m40 (fun r45 m43 => ((r42 = r45 → mz_gi X mz_sh 0 18 [some (.ref 350), some (.ref 0), some (.ref 55), some (.int (l3 + 4))] m43 Q) ∧ (¬ (r42 = r45) → Q 0 m43))))) ∧ (((X.2 l3.toNatClampNeg) &&& 15) = 3 → mz_inb (l3 + 1) X.1 = true ∧ mz_inb (l3 + 2) X.1 = true ∧ mz_gi X mz_sh 103 0 [some (.ref 0), some (.int (X.2 (l3 + 1).toNatClampNeg)), some (.int (X.2 (l3 + 2).toNatClampNeg))] m (fun r57 m55 => mz_inb (l3 + 1) X.1 = true ∧ mz_inb (l3 + 2) X.1 = true ∧ mz_gi X mz_sh 145 0 [some (.ref 55), some (.int (X.2 (l3 + 1).toNatClampNeg)), some (.int (X.2 (l3 + 2).toNatClampNeg))] m55 (fun r63 m61 => ((r57 = r63 → mz_gi X mz_sh 0 18 [some (.ref 350), some (.ref 0), some (.ref 55), some (.int (l3 + 4))] m61 Q) ∧ (¬ (r57 = r63) → Q 0 m61))))) ∧ (((X.2 l3.toNatClampNeg) &&& 15) = 4 → mz_gi X mz_sh 104 0 [some (.ref 0)] m (fun r72 m70 => mz_gi X mz_sh 146 0 [some (.ref 55)] m70 (fun r75 m73 => ((r72 = r75 → mz_gi X mz_sh 0 18 [some (.ref 350), some (.ref 0), some (.ref 55), some (.int (l3 + 4))] m73 Q) ∧ (¬ (r72 = r75) → Q 0 m73))))) ∧ (((X.2 l3.toNatClampNeg) &&& 15) = 5 → mz_gi X mz_sh 105 0 [some (.ref 0), none, none] m (fun r84 m82 => mz_gi X mz_sh 160 0 [some (.ref 55), none, none] m82 (fun r87 m85 => ((r84 = r87 → mz_gi X mz_sh 0 18 [some (.ref 350), some (.ref 0), some (.ref 55), some (.int (l3 + 4))] m85 Q) ∧ (¬ (r84 = r87) → Q 0 m85))))) ∧ (((X.2 l3.toNatClampNeg) &&& 15) = 6 → mz_inb (l3 + 1) X.1 = true ∧ mz_gi X mz_sh 106 0 [some (.ref 0), some (.int (X.2 (l3 + 1).toNatClampNeg))] m (fun r98 m96 => mz_inb (l3 + 1) X.1 = true ∧ mz_gi X mz_sh 161 0 [some (.ref 55), some (.int (X.2 (l3 + 1).toNatClampNeg))] m96 (fun r103 m101 => ((r98 = r103 → mz_gi X mz_sh 0 18 [some (.ref 350), some (.ref 0), some (.ref 55), some (.int (l3 + 4))] m101 Q) ∧ (¬ (r98 = r103) → Q 0 m101))))) ∧ (((X.2 l3.toNatClampNeg) &&& 15) = 7 → mz_inb (l3 + 1) X.1 = true ∧ mz_inb (l3 + 2) X.1 = true ∧ mz_gi X mz_sh 107 0 [some (.ref 0), some (.int (X.2 (l3 + 1).toNatClampNeg)), some (.int (X.2 (l3 + 2).toNatClampNeg))] m (fun r115 m113 => mz_inb (l3 + 1) X.1 = true ∧ mz_inb (l3 + 2) X.1 = true ∧ mz_gi X mz_sh 162 0 [some (.ref 55), some (.int (X.2 (l3 + 1).toNatClampNeg)), some (.int (X.2 (l3 + 2).toNatClampNeg))] m113 (fun r121 m119 => ((r115 = r121 → mz_gi X mz_sh 0 18 [some (.ref 350), some (.ref 0), some (.ref 55), some (.int (l3 + 4))] m119 Q) ∧ (¬ (r115 = r121) → Q 0 m119))))) ∧ (((X.2 l3.toNatClampNeg) &&& 15) = 8 → mz_gi X mz_sh 108 0 [some (.ref 0)] m (fun r130 m128 => mz_gi X mz_sh 169 0 [some (.ref 55), none, none, none] m128 (fun r133 m131 => ((r130 = r133 → mz_gi X mz_sh 0 18 [some (.ref 350), some (.ref 0), some (.ref 55), some (.int (l3 + 4))] m131 Q) ∧ (¬ (r130 = r133) → Q 0 m131))))) ∧ (((X.2 l3.toNatClampNeg) &&& 15) = 9 → mz_inb (l3 + 1) X.1 = true ∧ mz_inb (l3 + 2) X.1 = true ∧ mz_gi X mz_sh 109 0 [some (.ref 0), some (.int (X.2 (l3 + 1).toNatClampNeg)), some (.int (X.2 (l3 + 2).toNatClampNeg))] m (fun r145 m143 => mz_inb (l3 + 1) X.1 = true ∧ mz_inb (l3 + 2) X.1 = true ∧ mz_gi X mz_sh 170 0 [some (.ref 55), some (.int (X.2 (l3 + 1).toNatClampNeg)), some (.int (X.2 (l3 + 2).toNatClampNeg))] m143 (fun r151 m149 => ((r145 = r151 → mz_gi X mz_sh 0 18 [some (.ref 350), some (.ref 0), some (.ref 55), some (.int (l3 + 4))] m149 Q) ∧ (¬ (r145 = r151) → Q 0 m149))))) ∧ (((X.2 l3.toNatClampNeg) &&& 15) = 10 → mz_inb (l3 + 1) X.1 = true ∧ mz_inb (l3 + 2) X.1 = true ∧ mz_gi X mz_sh 110 0 [some (.ref 0), some (.int (X.2 (l3 + 1).toNatClampNeg)), some (.int (X.2 (l3 + 2).toNatClampNeg)), none] m (fun r163 m161 => mz_inb (l3 + 1) X.1 = true ∧ mz_inb (l3 + 2) X.1 = true ∧ mz_gi X mz_sh 171 0 [some (.ref 55), some (.int (X.2 (l3 + 1).toNatClampNeg)), some (.int (X.2 (l3 + 2).toNatClampNeg)), none] m161 (fun r169 m167 => ((r163 = r169 → mz_gi X mz_sh 0 18 [some (.ref 350), some (.ref 0), some (.ref 55), some (.int (l3 + 4))] m167 Q) ∧ (¬ (r163 = r169) → Q 0 m167))))) ∧ (((X.2 l3.toNatClampNeg) &&& 15) = 11 → mz_inb (l3 + 1) X.1 = true ∧ mz_gi X mz_sh 111 0 [some (.ref 0), some (.int (X.2 (l3 + 1).toNatClampNeg))] m (fun r180 m178 => mz_inb (l3 + 1) X.1 = true ∧ mz_gi X mz_sh 185 0 [some (.ref 55), some (.int (X.2 (l3 + 1).toNatClampNeg))] m178 (fun r185 m183 => ((r180 = r185 → mz_gi X mz_sh 0 18 [some (.ref 350), some (.ref 0), some (.ref 55), some (.int (l3 + 4))] m183 Q) ∧ (¬ (r180 = r185) → Q 0 m183))))) ∧ (((X.2 l3.toNatClampNeg) &&& 15) = 12 → mz_inb (l3 + 1) X.1 = true ∧ mz_gi X mz_sh 112 0 [some (.ref 0), some (.int (X.2 (l3 + 1).toNatClampNeg))] m (fun r196 m194 => mz_inb (l3 + 1) X.1 = true ∧ mz_gi X mz_sh 188 0 [some (.ref 55), some (.int (X.2 (l3 + 1).toNatClampNeg))] m194 (fun r201 m199 => ((r196 = r201 → mz_gi X mz_sh 0 18 [some (.ref 350), some (.ref 0), some (.ref 55), some (.int (l3 + 4))] m199 Q) ∧ (¬ (r196 = r201) → Q 0 m199))))) ∧ (((X.2 l3.toNatClampNeg) &&& 15) = 13 → mz_inb (l3 + 1) X.1 = true ∧ mz_gi X mz_sh 113 0 [some (.ref 0), some (.int (X.2 (l3 + 1).toNatClampNeg))] m (fun r212 m210 => mz_inb (l3 + 1) X.1 = true ∧ mz_gi X mz_sh 189 0 [some (.ref 55), some (.int (X.2 (l3 + 1).toNatClampNeg))] m210 (fun r217 m215 => ((r212 = r217 → mz_gi X mz_sh 0 18 [some (.ref 350), some (.ref 0), some (.ref 55), some (.int (l3 + 4))] m215 Q) ∧ (¬ (r212 = r217) → Q 0 m215))))) ∧ (((X.2 l3.toNatClampNeg) &&& 15) = 14 → mz_inb (l3 + 1) X.1 = true ∧ mz_gi X mz_sh 114 0 [some (.ref 0), some (.int (X.2 (l3 + 1).toNatClampNeg))] m (fun r228 m226 => mz_inb (l3 + 1) X.1 = true ∧ mz_gi X mz_sh 190 0 [some (.ref 55), some (.int (X.2 (l3 + 1).toNatClampNeg))] m226 (fun r233 m231 => ((r228 = r233 → mz_gi X mz_sh 0 18 [some (.ref 350), some (.ref 0), some (.ref 55), some (.int (l3 + 4))] m231 Q) ∧ (¬ (r228 = r233) → Q 0 m231))))) ∧ (((X.2 l3.toNatClampNeg) &&& 15) = 15 → mz_inb (l3 + 1) X.1 = true ∧ mz_gi X mz_sh 115 0 [some (.ref 0), some (.int (X.2 (l3 + 1).toNatClampNeg))] m (fun r244 m242 => mz_inb (l3 + 1) X.1 = true ∧ mz_gi X mz_sh 191 0 [some (.ref 55), some (.int (X.2 (l3 + 1).toNatClampNeg))] m242 (fun r249 m247 => ((r244 = r249 → mz_gi X mz_sh 0 18 [some (.ref 350), some (.ref 0), some (.ref 55), some (.int (l3 + 4))] m247 Q) ∧ (¬ (r244 = r249) → Q 0 m247))))) ∧ (¬ ((X.2 l3.toNatClampNeg) &&& 15) = 0 → ¬ ((X.2 l3.toNatClampNeg) &&& 15) = 1 → ¬ ((X.2 l3.toNatClampNeg) &&& 15) = 2 → ¬ ((X.2 l3.toNatClampNeg) &&& 15) = 3 → ¬ ((X.2 l3.toNatClampNeg) &&& 15) = 4 → ¬ ((X.2 l3.toNatClampNeg) &&& 15) = 5 → ¬ ((X.2 l3.toNatClampNeg) &&& 15) = 6 → ¬ ((X.2 l3.toNatClampNeg) &&& 15) = 7 → ¬ ((X.2 l3.toNatClampNeg) &&& 15) = 8 → ¬ ((X.2 l3.toNatClampNeg) &&& 15) = 9 → ¬ ((X.2 l3.toNatClampNeg) &&& 15) = 10 → ¬ ((X.2 l3.toNatClampNeg) &&& 15) = 11 → ¬ ((X.2 l3.toNatClampNeg) &&& 15) = 12 → ¬ ((X.2 l3.toNatClampNeg) &&& 15) = 13 → ¬ ((X.2 l3.toNatClampNeg) &&& 15) = 14 → ¬ ((X.2 l3.toNatClampNeg) &&& 15) = 15 → mz_gi X mz_sh 0 18 [some (.ref 350), some (.ref 0), some (.ref 55), some (.int (l3 + 4))] m Q))))) :
    mz_gi X mz_sh 0 18 [some (.ref 350), some (.ref 0), some (.ref 55), some (.int l3)] m Q := by
  refine mz_go_blk mz_m0 6 (pc' := (if ((Int32.ofNat X.1) - 4) < l3 then 516 else 26)) (L' := [some (.ref 350), some (.ref 0), some (.ref 55), some (.int l3)]) (S' := []) (sh' := mz_sh) (m' := m) (g := true) rfl rfl (rfl) ?_
  refine mz_go_if (fun c1 => ?_) (fun c1 => ?_)
  · have h2 := h.1 c1
    refine mz_go_blk mz_m0 1 (pc' := 517) (L' := [some (.ref 350), some (.ref 0), some (.ref 55), some (.int l3)]) (S' := [.int 1]) (sh' := mz_sh) (m' := m) (g := true) rfl rfl (rfl) ?_
    exact mz_go_ret mz_m0 rfl rfl rfl ⟨_, rfl, rfl, h2⟩
  · have h3 := h.2 c1
    obtain ⟨g4, h5⟩ := h3
    refine mz_go_blk mz_m0 6 (pc' := (mz_tsw 32 478 0 15 #[80, 143, 156, 169, 202, 215, 228, 251, 284, 297, 330, 363, 386, 409, 432, 455] ((X.2 l3.toNatClampNeg) &&& 15))) (L' := [some (.ref 350), some (.ref 0), some (.ref 55), some (.int l3)]) (S' := []) (sh' := mz_sh) (m' := m) (g := mz_inb l3 X.1 && true) rfl rfl (mz_and2 (g4) (rfl)) ?_
    by_cases c7 : ((X.2 l3.toNatClampNeg) &&& 15) = 0
    · have h6 := h5.1 c7
      rw [show mz_tsw 32 478 0 15 #[80, 143, 156, 169, 202, 215, 228, 251, 284, 297, 330, 363, 386, 409, 432, 455] ((X.2 l3.toNatClampNeg) &&& 15) = 112 by rw [c7]; decide +kernel]
      obtain ⟨g8, g9, g10, h11⟩ := h6
      refine mz_go_blk mz_m0 23 (pc' := 138) (L' := [some (.ref 350), some (.ref 0), some (.ref 55), some (.int l3)]) (S' := [.int (X.2 (l3 + 3).toNatClampNeg), .long ((((X.2 (l3 + 1).toNatClampNeg).toInt64) <<< ((32 : Int32).toInt64 &&& 63)) ||| (((X.2 (l3 + 2).toNatClampNeg).toInt64) &&& 4294967295)), .ref 0]) (sh' := mz_sh) (m' := m) (g := mz_inb (l3 + 3) X.1 && (mz_inb (l3 + 2) X.1 && (mz_inb (l3 + 1) X.1 && true))) rfl rfl (mz_and2 (g10) (mz_and2 (g9) (mz_and2 (g8) (rfl)))) ?_
      refine mz_go_call mz_m0 mz_m100 rfl rfl rfl rfl rfl rfl rfl h11 (fun v sh1 m12 hv => ?_)
      obtain ⟨r14, rfl, rfl, h13⟩ := hv
      obtain ⟨g15, g16, g17, h18⟩ := h13
      refine mz_go_blk mz_m0 23 (pc' := 167) (L' := [some (.ref 350), some (.ref 0), some (.ref 55), some (.int l3)]) (S' := [.int (X.2 (l3 + 3).toNatClampNeg), .long ((((X.2 (l3 + 1).toNatClampNeg).toInt64) <<< ((32 : Int32).toInt64 &&& 63)) ||| (((X.2 (l3 + 2).toNatClampNeg).toInt64) &&& 4294967295)), .ref 55, .int r14]) (sh' := mz_sh) (m' := m12) (g := mz_inb (l3 + 3) X.1 && (mz_inb (l3 + 2) X.1 && (mz_inb (l3 + 1) X.1 && true))) rfl rfl (mz_and2 (g17) (mz_and2 (g16) (mz_and2 (g15) (rfl)))) ?_
      refine mz_go_call mz_m0 mz_m132 rfl rfl rfl rfl rfl rfl rfl h18 (fun v sh1 m19 hv => ?_)
      obtain ⟨r21, rfl, rfl, h20⟩ := hv
      refine mz_go_blk mz_m0 1 (pc' := (if r14 = r21 then 510 else 173)) (L' := [some (.ref 350), some (.ref 0), some (.ref 55), some (.int l3)]) (S' := []) (sh' := mz_sh) (m' := m19) (g := true) rfl rfl (rfl) ?_
      refine mz_go_if (fun c22 => ?_) (fun c22 => ?_)
      · have h23 := h20.1 c22
        refine mz_go_blk mz_m0 2 (pc' := 18) (L' := [some (.ref 350), some (.ref 0), some (.ref 55), some (.int (l3 + 4))]) (S' := []) (sh' := mz_sh) (m' := m19) (g := true) rfl rfl (rfl) ?_
        exact h23
      · have h24 := h20.2 c22
        refine mz_go_blk mz_m0 1 (pc' := 174) (L' := [some (.ref 350), some (.ref 0), some (.ref 55), some (.int l3)]) (S' := [.int 0]) (sh' := mz_sh) (m' := m19) (g := true) rfl rfl (rfl) ?_
        exact mz_go_ret mz_m0 rfl rfl rfl ⟨_, rfl, rfl, h24⟩
    have h25 := h5.2
    by_cases c27 : ((X.2 l3.toNatClampNeg) &&& 15) = 1
    · have h26 := h25.1 c27
      rw [show mz_tsw 32 478 0 15 #[80, 143, 156, 169, 202, 215, 228, 251, 284, 297, 330, 363, 386, 409, 432, 455] ((X.2 l3.toNatClampNeg) &&& 15) = 175 by rw [c27]; decide +kernel]
      refine mz_go_blk mz_m0 1 (pc' := 176) (L' := [some (.ref 350), some (.ref 0), some (.ref 55), some (.int l3)]) (S' := [.ref 0]) (sh' := mz_sh) (m' := m) (g := true) rfl rfl (rfl) ?_
      refine mz_go_call mz_m0 mz_m101 rfl rfl rfl rfl rfl rfl rfl h26 (fun v sh1 m28 hv => ?_)
      obtain ⟨r30, rfl, rfl, h29⟩ := hv
      refine mz_go_blk mz_m0 1 (pc' := 180) (L' := [some (.ref 350), some (.ref 0), some (.ref 55), some (.int l3)]) (S' := [.ref 55, .int r30]) (sh' := mz_sh) (m' := m28) (g := true) rfl rfl (rfl) ?_
      refine mz_go_call mz_m0 mz_m133 rfl rfl rfl rfl rfl rfl rfl h29 (fun v sh1 m31 hv => ?_)
      obtain ⟨r33, rfl, rfl, h32⟩ := hv
      refine mz_go_blk mz_m0 1 (pc' := (if r30 = r33 then 510 else 186)) (L' := [some (.ref 350), some (.ref 0), some (.ref 55), some (.int l3)]) (S' := []) (sh' := mz_sh) (m' := m31) (g := true) rfl rfl (rfl) ?_
      refine mz_go_if (fun c34 => ?_) (fun c34 => ?_)
      · have h35 := h32.1 c34
        refine mz_go_blk mz_m0 2 (pc' := 18) (L' := [some (.ref 350), some (.ref 0), some (.ref 55), some (.int (l3 + 4))]) (S' := []) (sh' := mz_sh) (m' := m31) (g := true) rfl rfl (rfl) ?_
        exact h35
      · have h36 := h32.2 c34
        refine mz_go_blk mz_m0 1 (pc' := 187) (L' := [some (.ref 350), some (.ref 0), some (.ref 55), some (.int l3)]) (S' := [.int 0]) (sh' := mz_sh) (m' := m31) (g := true) rfl rfl (rfl) ?_
        exact mz_go_ret mz_m0 rfl rfl rfl ⟨_, rfl, rfl, h36⟩
    have h37 := h25.2
    by_cases c39 : ((X.2 l3.toNatClampNeg) &&& 15) = 2
    · have h38 := h37.1 c39
      rw [show mz_tsw 32 478 0 15 #[80, 143, 156, 169, 202, 215, 228, 251, 284, 297, 330, 363, 386, 409, 432, 455] ((X.2 l3.toNatClampNeg) &&& 15) = 188 by rw [c39]; decide +kernel]
      refine mz_go_blk mz_m0 1 (pc' := 189) (L' := [some (.ref 350), some (.ref 0), some (.ref 55), some (.int l3)]) (S' := [.ref 0]) (sh' := mz_sh) (m' := m) (g := true) rfl rfl (rfl) ?_
      refine mz_go_call mz_m0 mz_m102 rfl rfl rfl rfl rfl rfl rfl h38 (fun v sh1 m40 hv => ?_)
      obtain ⟨r42, rfl, rfl, h41⟩ := hv
      refine mz_go_blk mz_m0 1 (pc' := 193) (L' := [some (.ref 350), some (.ref 0), some (.ref 55), some (.int l3)]) (S' := [.ref 55, .int r42]) (sh' := mz_sh) (m' := m40) (g := true) rfl rfl (rfl) ?_
      refine mz_go_call mz_m0 mz_m144 rfl rfl rfl rfl rfl rfl rfl h41 (fun v sh1 m43 hv => ?_)
      obtain ⟨r45, rfl, rfl, h44⟩ := hv
      refine mz_go_blk mz_m0 1 (pc' := (if r42 = r45 then 510 else 199)) (L' := [some (.ref 350), some (.ref 0), some (.ref 55), some (.int l3)]) (S' := []) (sh' := mz_sh) (m' := m43) (g := true) rfl rfl (rfl) ?_
      refine mz_go_if (fun c46 => ?_) (fun c46 => ?_)
      · have h47 := h44.1 c46
        refine mz_go_blk mz_m0 2 (pc' := 18) (L' := [some (.ref 350), some (.ref 0), some (.ref 55), some (.int (l3 + 4))]) (S' := []) (sh' := mz_sh) (m' := m43) (g := true) rfl rfl (rfl) ?_
        exact h47
      · have h48 := h44.2 c46
        refine mz_go_blk mz_m0 1 (pc' := 200) (L' := [some (.ref 350), some (.ref 0), some (.ref 55), some (.int l3)]) (S' := [.int 0]) (sh' := mz_sh) (m' := m43) (g := true) rfl rfl (rfl) ?_
        exact mz_go_ret mz_m0 rfl rfl rfl ⟨_, rfl, rfl, h48⟩
    have h49 := h37.2
    by_cases c51 : ((X.2 l3.toNatClampNeg) &&& 15) = 3
    · have h50 := h49.1 c51
      rw [show mz_tsw 32 478 0 15 #[80, 143, 156, 169, 202, 215, 228, 251, 284, 297, 330, 363, 386, 409, 432, 455] ((X.2 l3.toNatClampNeg) &&& 15) = 201 by rw [c51]; decide +kernel]
      obtain ⟨g52, g53, h54⟩ := h50
      refine mz_go_blk mz_m0 11 (pc' := 212) (L' := [some (.ref 350), some (.ref 0), some (.ref 55), some (.int l3)]) (S' := [.int (X.2 (l3 + 2).toNatClampNeg), .int (X.2 (l3 + 1).toNatClampNeg), .ref 0]) (sh' := mz_sh) (m' := m) (g := mz_inb (l3 + 2) X.1 && (mz_inb (l3 + 1) X.1 && true)) rfl rfl (mz_and2 (g53) (mz_and2 (g52) (rfl))) ?_
      refine mz_go_call mz_m0 mz_m103 rfl rfl rfl rfl rfl rfl rfl h54 (fun v sh1 m55 hv => ?_)
      obtain ⟨r57, rfl, rfl, h56⟩ := hv
      obtain ⟨g58, g59, h60⟩ := h56
      refine mz_go_blk mz_m0 11 (pc' := 226) (L' := [some (.ref 350), some (.ref 0), some (.ref 55), some (.int l3)]) (S' := [.int (X.2 (l3 + 2).toNatClampNeg), .int (X.2 (l3 + 1).toNatClampNeg), .ref 55, .int r57]) (sh' := mz_sh) (m' := m55) (g := mz_inb (l3 + 2) X.1 && (mz_inb (l3 + 1) X.1 && true)) rfl rfl (mz_and2 (g59) (mz_and2 (g58) (rfl))) ?_
      refine mz_go_call mz_m0 mz_m145 rfl rfl rfl rfl rfl rfl rfl h60 (fun v sh1 m61 hv => ?_)
      obtain ⟨r63, rfl, rfl, h62⟩ := hv
      refine mz_go_blk mz_m0 1 (pc' := (if r57 = r63 then 510 else 232)) (L' := [some (.ref 350), some (.ref 0), some (.ref 55), some (.int l3)]) (S' := []) (sh' := mz_sh) (m' := m61) (g := true) rfl rfl (rfl) ?_
      refine mz_go_if (fun c64 => ?_) (fun c64 => ?_)
      · have h65 := h62.1 c64
        refine mz_go_blk mz_m0 2 (pc' := 18) (L' := [some (.ref 350), some (.ref 0), some (.ref 55), some (.int (l3 + 4))]) (S' := []) (sh' := mz_sh) (m' := m61) (g := true) rfl rfl (rfl) ?_
        exact h65
      · have h66 := h62.2 c64
        refine mz_go_blk mz_m0 1 (pc' := 233) (L' := [some (.ref 350), some (.ref 0), some (.ref 55), some (.int l3)]) (S' := [.int 0]) (sh' := mz_sh) (m' := m61) (g := true) rfl rfl (rfl) ?_
        exact mz_go_ret mz_m0 rfl rfl rfl ⟨_, rfl, rfl, h66⟩
    have h67 := h49.2
    by_cases c69 : ((X.2 l3.toNatClampNeg) &&& 15) = 4
    · have h68 := h67.1 c69
      rw [show mz_tsw 32 478 0 15 #[80, 143, 156, 169, 202, 215, 228, 251, 284, 297, 330, 363, 386, 409, 432, 455] ((X.2 l3.toNatClampNeg) &&& 15) = 234 by rw [c69]; decide +kernel]
      refine mz_go_blk mz_m0 1 (pc' := 235) (L' := [some (.ref 350), some (.ref 0), some (.ref 55), some (.int l3)]) (S' := [.ref 0]) (sh' := mz_sh) (m' := m) (g := true) rfl rfl (rfl) ?_
      refine mz_go_call mz_m0 mz_m104 rfl rfl rfl rfl rfl rfl rfl h68 (fun v sh1 m70 hv => ?_)
      obtain ⟨r72, rfl, rfl, h71⟩ := hv
      refine mz_go_blk mz_m0 1 (pc' := 239) (L' := [some (.ref 350), some (.ref 0), some (.ref 55), some (.int l3)]) (S' := [.ref 55, .int r72]) (sh' := mz_sh) (m' := m70) (g := true) rfl rfl (rfl) ?_
      refine mz_go_call mz_m0 mz_m146 rfl rfl rfl rfl rfl rfl rfl h71 (fun v sh1 m73 hv => ?_)
      obtain ⟨r75, rfl, rfl, h74⟩ := hv
      refine mz_go_blk mz_m0 1 (pc' := (if r72 = r75 then 510 else 245)) (L' := [some (.ref 350), some (.ref 0), some (.ref 55), some (.int l3)]) (S' := []) (sh' := mz_sh) (m' := m73) (g := true) rfl rfl (rfl) ?_
      refine mz_go_if (fun c76 => ?_) (fun c76 => ?_)
      · have h77 := h74.1 c76
        refine mz_go_blk mz_m0 2 (pc' := 18) (L' := [some (.ref 350), some (.ref 0), some (.ref 55), some (.int (l3 + 4))]) (S' := []) (sh' := mz_sh) (m' := m73) (g := true) rfl rfl (rfl) ?_
        exact h77
      · have h78 := h74.2 c76
        refine mz_go_blk mz_m0 1 (pc' := 246) (L' := [some (.ref 350), some (.ref 0), some (.ref 55), some (.int l3)]) (S' := [.int 0]) (sh' := mz_sh) (m' := m73) (g := true) rfl rfl (rfl) ?_
        exact mz_go_ret mz_m0 rfl rfl rfl ⟨_, rfl, rfl, h78⟩
    have h79 := h67.2
    by_cases c81 : ((X.2 l3.toNatClampNeg) &&& 15) = 5
    · have h80 := h79.1 c81
      rw [show mz_tsw 32 478 0 15 #[80, 143, 156, 169, 202, 215, 228, 251, 284, 297, 330, 363, 386, 409, 432, 455] ((X.2 l3.toNatClampNeg) &&& 15) = 247 by rw [c81]; decide +kernel]
      refine mz_go_blk mz_m0 1 (pc' := 248) (L' := [some (.ref 350), some (.ref 0), some (.ref 55), some (.int l3)]) (S' := [.ref 0]) (sh' := mz_sh) (m' := m) (g := true) rfl rfl (rfl) ?_
      refine mz_go_call mz_m0 mz_m105 rfl rfl rfl rfl rfl rfl rfl h80 (fun v sh1 m82 hv => ?_)
      obtain ⟨r84, rfl, rfl, h83⟩ := hv
      refine mz_go_blk mz_m0 1 (pc' := 252) (L' := [some (.ref 350), some (.ref 0), some (.ref 55), some (.int l3)]) (S' := [.ref 55, .int r84]) (sh' := mz_sh) (m' := m82) (g := true) rfl rfl (rfl) ?_
      refine mz_go_call mz_m0 mz_m160 rfl rfl rfl rfl rfl rfl rfl h83 (fun v sh1 m85 hv => ?_)
      obtain ⟨r87, rfl, rfl, h86⟩ := hv
      refine mz_go_blk mz_m0 1 (pc' := (if r84 = r87 then 510 else 258)) (L' := [some (.ref 350), some (.ref 0), some (.ref 55), some (.int l3)]) (S' := []) (sh' := mz_sh) (m' := m85) (g := true) rfl rfl (rfl) ?_
      refine mz_go_if (fun c88 => ?_) (fun c88 => ?_)
      · have h89 := h86.1 c88
        refine mz_go_blk mz_m0 2 (pc' := 18) (L' := [some (.ref 350), some (.ref 0), some (.ref 55), some (.int (l3 + 4))]) (S' := []) (sh' := mz_sh) (m' := m85) (g := true) rfl rfl (rfl) ?_
        exact h89
      · have h90 := h86.2 c88
        refine mz_go_blk mz_m0 1 (pc' := 259) (L' := [some (.ref 350), some (.ref 0), some (.ref 55), some (.int l3)]) (S' := [.int 0]) (sh' := mz_sh) (m' := m85) (g := true) rfl rfl (rfl) ?_
        exact mz_go_ret mz_m0 rfl rfl rfl ⟨_, rfl, rfl, h90⟩
    have h91 := h79.2
    by_cases c93 : ((X.2 l3.toNatClampNeg) &&& 15) = 6
    · have h92 := h91.1 c93
      rw [show mz_tsw 32 478 0 15 #[80, 143, 156, 169, 202, 215, 228, 251, 284, 297, 330, 363, 386, 409, 432, 455] ((X.2 l3.toNatClampNeg) &&& 15) = 260 by rw [c93]; decide +kernel]
      obtain ⟨g94, h95⟩ := h92
      refine mz_go_blk mz_m0 6 (pc' := 266) (L' := [some (.ref 350), some (.ref 0), some (.ref 55), some (.int l3)]) (S' := [.int (X.2 (l3 + 1).toNatClampNeg), .ref 0]) (sh' := mz_sh) (m' := m) (g := mz_inb (l3 + 1) X.1 && true) rfl rfl (mz_and2 (g94) (rfl)) ?_
      refine mz_go_call mz_m0 mz_m106 rfl rfl rfl rfl rfl rfl rfl h95 (fun v sh1 m96 hv => ?_)
      obtain ⟨r98, rfl, rfl, h97⟩ := hv
      obtain ⟨g99, h100⟩ := h97
      refine mz_go_blk mz_m0 6 (pc' := 275) (L' := [some (.ref 350), some (.ref 0), some (.ref 55), some (.int l3)]) (S' := [.int (X.2 (l3 + 1).toNatClampNeg), .ref 55, .int r98]) (sh' := mz_sh) (m' := m96) (g := mz_inb (l3 + 1) X.1 && true) rfl rfl (mz_and2 (g99) (rfl)) ?_
      refine mz_go_call mz_m0 mz_m161 rfl rfl rfl rfl rfl rfl rfl h100 (fun v sh1 m101 hv => ?_)
      obtain ⟨r103, rfl, rfl, h102⟩ := hv
      refine mz_go_blk mz_m0 1 (pc' := (if r98 = r103 then 510 else 281)) (L' := [some (.ref 350), some (.ref 0), some (.ref 55), some (.int l3)]) (S' := []) (sh' := mz_sh) (m' := m101) (g := true) rfl rfl (rfl) ?_
      refine mz_go_if (fun c104 => ?_) (fun c104 => ?_)
      · have h105 := h102.1 c104
        refine mz_go_blk mz_m0 2 (pc' := 18) (L' := [some (.ref 350), some (.ref 0), some (.ref 55), some (.int (l3 + 4))]) (S' := []) (sh' := mz_sh) (m' := m101) (g := true) rfl rfl (rfl) ?_
        exact h105
      · have h106 := h102.2 c104
        refine mz_go_blk mz_m0 1 (pc' := 282) (L' := [some (.ref 350), some (.ref 0), some (.ref 55), some (.int l3)]) (S' := [.int 0]) (sh' := mz_sh) (m' := m101) (g := true) rfl rfl (rfl) ?_
        exact mz_go_ret mz_m0 rfl rfl rfl ⟨_, rfl, rfl, h106⟩
    have h107 := h91.2
    by_cases c109 : ((X.2 l3.toNatClampNeg) &&& 15) = 7
    · have h108 := h107.1 c109
      rw [show mz_tsw 32 478 0 15 #[80, 143, 156, 169, 202, 215, 228, 251, 284, 297, 330, 363, 386, 409, 432, 455] ((X.2 l3.toNatClampNeg) &&& 15) = 283 by rw [c109]; decide +kernel]
      obtain ⟨g110, g111, h112⟩ := h108
      refine mz_go_blk mz_m0 11 (pc' := 294) (L' := [some (.ref 350), some (.ref 0), some (.ref 55), some (.int l3)]) (S' := [.int (X.2 (l3 + 2).toNatClampNeg), .int (X.2 (l3 + 1).toNatClampNeg), .ref 0]) (sh' := mz_sh) (m' := m) (g := mz_inb (l3 + 2) X.1 && (mz_inb (l3 + 1) X.1 && true)) rfl rfl (mz_and2 (g111) (mz_and2 (g110) (rfl))) ?_
      refine mz_go_call mz_m0 mz_m107 rfl rfl rfl rfl rfl rfl rfl h112 (fun v sh1 m113 hv => ?_)
      obtain ⟨r115, rfl, rfl, h114⟩ := hv
      obtain ⟨g116, g117, h118⟩ := h114
      refine mz_go_blk mz_m0 11 (pc' := 308) (L' := [some (.ref 350), some (.ref 0), some (.ref 55), some (.int l3)]) (S' := [.int (X.2 (l3 + 2).toNatClampNeg), .int (X.2 (l3 + 1).toNatClampNeg), .ref 55, .int r115]) (sh' := mz_sh) (m' := m113) (g := mz_inb (l3 + 2) X.1 && (mz_inb (l3 + 1) X.1 && true)) rfl rfl (mz_and2 (g117) (mz_and2 (g116) (rfl))) ?_
      refine mz_go_call mz_m0 mz_m162 rfl rfl rfl rfl rfl rfl rfl h118 (fun v sh1 m119 hv => ?_)
      obtain ⟨r121, rfl, rfl, h120⟩ := hv
      refine mz_go_blk mz_m0 1 (pc' := (if r115 = r121 then 510 else 314)) (L' := [some (.ref 350), some (.ref 0), some (.ref 55), some (.int l3)]) (S' := []) (sh' := mz_sh) (m' := m119) (g := true) rfl rfl (rfl) ?_
      refine mz_go_if (fun c122 => ?_) (fun c122 => ?_)
      · have h123 := h120.1 c122
        refine mz_go_blk mz_m0 2 (pc' := 18) (L' := [some (.ref 350), some (.ref 0), some (.ref 55), some (.int (l3 + 4))]) (S' := []) (sh' := mz_sh) (m' := m119) (g := true) rfl rfl (rfl) ?_
        exact h123
      · have h124 := h120.2 c122
        refine mz_go_blk mz_m0 1 (pc' := 315) (L' := [some (.ref 350), some (.ref 0), some (.ref 55), some (.int l3)]) (S' := [.int 0]) (sh' := mz_sh) (m' := m119) (g := true) rfl rfl (rfl) ?_
        exact mz_go_ret mz_m0 rfl rfl rfl ⟨_, rfl, rfl, h124⟩
    have h125 := h107.2
    by_cases c127 : ((X.2 l3.toNatClampNeg) &&& 15) = 8
    · have h126 := h125.1 c127
      rw [show mz_tsw 32 478 0 15 #[80, 143, 156, 169, 202, 215, 228, 251, 284, 297, 330, 363, 386, 409, 432, 455] ((X.2 l3.toNatClampNeg) &&& 15) = 316 by rw [c127]; decide +kernel]
      refine mz_go_blk mz_m0 1 (pc' := 317) (L' := [some (.ref 350), some (.ref 0), some (.ref 55), some (.int l3)]) (S' := [.ref 0]) (sh' := mz_sh) (m' := m) (g := true) rfl rfl (rfl) ?_
      refine mz_go_call mz_m0 mz_m108 rfl rfl rfl rfl rfl rfl rfl h126 (fun v sh1 m128 hv => ?_)
      obtain ⟨r130, rfl, rfl, h129⟩ := hv
      refine mz_go_blk mz_m0 1 (pc' := 321) (L' := [some (.ref 350), some (.ref 0), some (.ref 55), some (.int l3)]) (S' := [.ref 55, .int r130]) (sh' := mz_sh) (m' := m128) (g := true) rfl rfl (rfl) ?_
      refine mz_go_call mz_m0 mz_m169 rfl rfl rfl rfl rfl rfl rfl h129 (fun v sh1 m131 hv => ?_)
      obtain ⟨r133, rfl, rfl, h132⟩ := hv
      refine mz_go_blk mz_m0 1 (pc' := (if r130 = r133 then 510 else 327)) (L' := [some (.ref 350), some (.ref 0), some (.ref 55), some (.int l3)]) (S' := []) (sh' := mz_sh) (m' := m131) (g := true) rfl rfl (rfl) ?_
      refine mz_go_if (fun c134 => ?_) (fun c134 => ?_)
      · have h135 := h132.1 c134
        refine mz_go_blk mz_m0 2 (pc' := 18) (L' := [some (.ref 350), some (.ref 0), some (.ref 55), some (.int (l3 + 4))]) (S' := []) (sh' := mz_sh) (m' := m131) (g := true) rfl rfl (rfl) ?_
        exact h135
      · have h136 := h132.2 c134
        refine mz_go_blk mz_m0 1 (pc' := 328) (L' := [some (.ref 350), some (.ref 0), some (.ref 55), some (.int l3)]) (S' := [.int 0]) (sh' := mz_sh) (m' := m131) (g := true) rfl rfl (rfl) ?_
        exact mz_go_ret mz_m0 rfl rfl rfl ⟨_, rfl, rfl, h136⟩
    have h137 := h125.2
    by_cases c139 : ((X.2 l3.toNatClampNeg) &&& 15) = 9
    · have h138 := h137.1 c139
      rw [show mz_tsw 32 478 0 15 #[80, 143, 156, 169, 202, 215, 228, 251, 284, 297, 330, 363, 386, 409, 432, 455] ((X.2 l3.toNatClampNeg) &&& 15) = 329 by rw [c139]; decide +kernel]
      obtain ⟨g140, g141, h142⟩ := h138
      refine mz_go_blk mz_m0 11 (pc' := 340) (L' := [some (.ref 350), some (.ref 0), some (.ref 55), some (.int l3)]) (S' := [.int (X.2 (l3 + 2).toNatClampNeg), .int (X.2 (l3 + 1).toNatClampNeg), .ref 0]) (sh' := mz_sh) (m' := m) (g := mz_inb (l3 + 2) X.1 && (mz_inb (l3 + 1) X.1 && true)) rfl rfl (mz_and2 (g141) (mz_and2 (g140) (rfl))) ?_
      refine mz_go_call mz_m0 mz_m109 rfl rfl rfl rfl rfl rfl rfl h142 (fun v sh1 m143 hv => ?_)
      obtain ⟨r145, rfl, rfl, h144⟩ := hv
      obtain ⟨g146, g147, h148⟩ := h144
      refine mz_go_blk mz_m0 11 (pc' := 354) (L' := [some (.ref 350), some (.ref 0), some (.ref 55), some (.int l3)]) (S' := [.int (X.2 (l3 + 2).toNatClampNeg), .int (X.2 (l3 + 1).toNatClampNeg), .ref 55, .int r145]) (sh' := mz_sh) (m' := m143) (g := mz_inb (l3 + 2) X.1 && (mz_inb (l3 + 1) X.1 && true)) rfl rfl (mz_and2 (g147) (mz_and2 (g146) (rfl))) ?_
      refine mz_go_call mz_m0 mz_m170 rfl rfl rfl rfl rfl rfl rfl h148 (fun v sh1 m149 hv => ?_)
      obtain ⟨r151, rfl, rfl, h150⟩ := hv
      refine mz_go_blk mz_m0 1 (pc' := (if r145 = r151 then 510 else 360)) (L' := [some (.ref 350), some (.ref 0), some (.ref 55), some (.int l3)]) (S' := []) (sh' := mz_sh) (m' := m149) (g := true) rfl rfl (rfl) ?_
      refine mz_go_if (fun c152 => ?_) (fun c152 => ?_)
      · have h153 := h150.1 c152
        refine mz_go_blk mz_m0 2 (pc' := 18) (L' := [some (.ref 350), some (.ref 0), some (.ref 55), some (.int (l3 + 4))]) (S' := []) (sh' := mz_sh) (m' := m149) (g := true) rfl rfl (rfl) ?_
        exact h153
      · have h154 := h150.2 c152
        refine mz_go_blk mz_m0 1 (pc' := 361) (L' := [some (.ref 350), some (.ref 0), some (.ref 55), some (.int l3)]) (S' := [.int 0]) (sh' := mz_sh) (m' := m149) (g := true) rfl rfl (rfl) ?_
        exact mz_go_ret mz_m0 rfl rfl rfl ⟨_, rfl, rfl, h154⟩
    have h155 := h137.2
    by_cases c157 : ((X.2 l3.toNatClampNeg) &&& 15) = 10
    · have h156 := h155.1 c157
      rw [show mz_tsw 32 478 0 15 #[80, 143, 156, 169, 202, 215, 228, 251, 284, 297, 330, 363, 386, 409, 432, 455] ((X.2 l3.toNatClampNeg) &&& 15) = 362 by rw [c157]; decide +kernel]
      obtain ⟨g158, g159, h160⟩ := h156
      refine mz_go_blk mz_m0 11 (pc' := 373) (L' := [some (.ref 350), some (.ref 0), some (.ref 55), some (.int l3)]) (S' := [.int (X.2 (l3 + 2).toNatClampNeg), .int (X.2 (l3 + 1).toNatClampNeg), .ref 0]) (sh' := mz_sh) (m' := m) (g := mz_inb (l3 + 2) X.1 && (mz_inb (l3 + 1) X.1 && true)) rfl rfl (mz_and2 (g159) (mz_and2 (g158) (rfl))) ?_
      refine mz_go_call mz_m0 mz_m110 rfl rfl rfl rfl rfl rfl rfl h160 (fun v sh1 m161 hv => ?_)
      obtain ⟨r163, rfl, rfl, h162⟩ := hv
      obtain ⟨g164, g165, h166⟩ := h162
      refine mz_go_blk mz_m0 11 (pc' := 387) (L' := [some (.ref 350), some (.ref 0), some (.ref 55), some (.int l3)]) (S' := [.int (X.2 (l3 + 2).toNatClampNeg), .int (X.2 (l3 + 1).toNatClampNeg), .ref 55, .int r163]) (sh' := mz_sh) (m' := m161) (g := mz_inb (l3 + 2) X.1 && (mz_inb (l3 + 1) X.1 && true)) rfl rfl (mz_and2 (g165) (mz_and2 (g164) (rfl))) ?_
      refine mz_go_call mz_m0 mz_m171 rfl rfl rfl rfl rfl rfl rfl h166 (fun v sh1 m167 hv => ?_)
      obtain ⟨r169, rfl, rfl, h168⟩ := hv
      refine mz_go_blk mz_m0 1 (pc' := (if r163 = r169 then 510 else 393)) (L' := [some (.ref 350), some (.ref 0), some (.ref 55), some (.int l3)]) (S' := []) (sh' := mz_sh) (m' := m167) (g := true) rfl rfl (rfl) ?_
      refine mz_go_if (fun c170 => ?_) (fun c170 => ?_)
      · have h171 := h168.1 c170
        refine mz_go_blk mz_m0 2 (pc' := 18) (L' := [some (.ref 350), some (.ref 0), some (.ref 55), some (.int (l3 + 4))]) (S' := []) (sh' := mz_sh) (m' := m167) (g := true) rfl rfl (rfl) ?_
        exact h171
      · have h172 := h168.2 c170
        refine mz_go_blk mz_m0 1 (pc' := 394) (L' := [some (.ref 350), some (.ref 0), some (.ref 55), some (.int l3)]) (S' := [.int 0]) (sh' := mz_sh) (m' := m167) (g := true) rfl rfl (rfl) ?_
        exact mz_go_ret mz_m0 rfl rfl rfl ⟨_, rfl, rfl, h172⟩
    have h173 := h155.2
    by_cases c175 : ((X.2 l3.toNatClampNeg) &&& 15) = 11
    · have h174 := h173.1 c175
      rw [show mz_tsw 32 478 0 15 #[80, 143, 156, 169, 202, 215, 228, 251, 284, 297, 330, 363, 386, 409, 432, 455] ((X.2 l3.toNatClampNeg) &&& 15) = 395 by rw [c175]; decide +kernel]
      obtain ⟨g176, h177⟩ := h174
      refine mz_go_blk mz_m0 6 (pc' := 401) (L' := [some (.ref 350), some (.ref 0), some (.ref 55), some (.int l3)]) (S' := [.int (X.2 (l3 + 1).toNatClampNeg), .ref 0]) (sh' := mz_sh) (m' := m) (g := mz_inb (l3 + 1) X.1 && true) rfl rfl (mz_and2 (g176) (rfl)) ?_
      refine mz_go_call mz_m0 mz_m111 rfl rfl rfl rfl rfl rfl rfl h177 (fun v sh1 m178 hv => ?_)
      obtain ⟨r180, rfl, rfl, h179⟩ := hv
      obtain ⟨g181, h182⟩ := h179
      refine mz_go_blk mz_m0 6 (pc' := 410) (L' := [some (.ref 350), some (.ref 0), some (.ref 55), some (.int l3)]) (S' := [.int (X.2 (l3 + 1).toNatClampNeg), .ref 55, .int r180]) (sh' := mz_sh) (m' := m178) (g := mz_inb (l3 + 1) X.1 && true) rfl rfl (mz_and2 (g181) (rfl)) ?_
      refine mz_go_call mz_m0 mz_m185 rfl rfl rfl rfl rfl rfl rfl h182 (fun v sh1 m183 hv => ?_)
      obtain ⟨r185, rfl, rfl, h184⟩ := hv
      refine mz_go_blk mz_m0 1 (pc' := (if r180 = r185 then 510 else 416)) (L' := [some (.ref 350), some (.ref 0), some (.ref 55), some (.int l3)]) (S' := []) (sh' := mz_sh) (m' := m183) (g := true) rfl rfl (rfl) ?_
      refine mz_go_if (fun c186 => ?_) (fun c186 => ?_)
      · have h187 := h184.1 c186
        refine mz_go_blk mz_m0 2 (pc' := 18) (L' := [some (.ref 350), some (.ref 0), some (.ref 55), some (.int (l3 + 4))]) (S' := []) (sh' := mz_sh) (m' := m183) (g := true) rfl rfl (rfl) ?_
        exact h187
      · have h188 := h184.2 c186
        refine mz_go_blk mz_m0 1 (pc' := 417) (L' := [some (.ref 350), some (.ref 0), some (.ref 55), some (.int l3)]) (S' := [.int 0]) (sh' := mz_sh) (m' := m183) (g := true) rfl rfl (rfl) ?_
        exact mz_go_ret mz_m0 rfl rfl rfl ⟨_, rfl, rfl, h188⟩
    have h189 := h173.2
    by_cases c191 : ((X.2 l3.toNatClampNeg) &&& 15) = 12
    · have h190 := h189.1 c191
      rw [show mz_tsw 32 478 0 15 #[80, 143, 156, 169, 202, 215, 228, 251, 284, 297, 330, 363, 386, 409, 432, 455] ((X.2 l3.toNatClampNeg) &&& 15) = 418 by rw [c191]; decide +kernel]
      obtain ⟨g192, h193⟩ := h190
      refine mz_go_blk mz_m0 6 (pc' := 424) (L' := [some (.ref 350), some (.ref 0), some (.ref 55), some (.int l3)]) (S' := [.int (X.2 (l3 + 1).toNatClampNeg), .ref 0]) (sh' := mz_sh) (m' := m) (g := mz_inb (l3 + 1) X.1 && true) rfl rfl (mz_and2 (g192) (rfl)) ?_
      refine mz_go_call mz_m0 mz_m112 rfl rfl rfl rfl rfl rfl rfl h193 (fun v sh1 m194 hv => ?_)
      obtain ⟨r196, rfl, rfl, h195⟩ := hv
      obtain ⟨g197, h198⟩ := h195
      refine mz_go_blk mz_m0 6 (pc' := 433) (L' := [some (.ref 350), some (.ref 0), some (.ref 55), some (.int l3)]) (S' := [.int (X.2 (l3 + 1).toNatClampNeg), .ref 55, .int r196]) (sh' := mz_sh) (m' := m194) (g := mz_inb (l3 + 1) X.1 && true) rfl rfl (mz_and2 (g197) (rfl)) ?_
      refine mz_go_call mz_m0 mz_m188 rfl rfl rfl rfl rfl rfl rfl h198 (fun v sh1 m199 hv => ?_)
      obtain ⟨r201, rfl, rfl, h200⟩ := hv
      refine mz_go_blk mz_m0 1 (pc' := (if r196 = r201 then 510 else 439)) (L' := [some (.ref 350), some (.ref 0), some (.ref 55), some (.int l3)]) (S' := []) (sh' := mz_sh) (m' := m199) (g := true) rfl rfl (rfl) ?_
      refine mz_go_if (fun c202 => ?_) (fun c202 => ?_)
      · have h203 := h200.1 c202
        refine mz_go_blk mz_m0 2 (pc' := 18) (L' := [some (.ref 350), some (.ref 0), some (.ref 55), some (.int (l3 + 4))]) (S' := []) (sh' := mz_sh) (m' := m199) (g := true) rfl rfl (rfl) ?_
        exact h203
      · have h204 := h200.2 c202
        refine mz_go_blk mz_m0 1 (pc' := 440) (L' := [some (.ref 350), some (.ref 0), some (.ref 55), some (.int l3)]) (S' := [.int 0]) (sh' := mz_sh) (m' := m199) (g := true) rfl rfl (rfl) ?_
        exact mz_go_ret mz_m0 rfl rfl rfl ⟨_, rfl, rfl, h204⟩
    have h205 := h189.2
    by_cases c207 : ((X.2 l3.toNatClampNeg) &&& 15) = 13
    · have h206 := h205.1 c207
      rw [show mz_tsw 32 478 0 15 #[80, 143, 156, 169, 202, 215, 228, 251, 284, 297, 330, 363, 386, 409, 432, 455] ((X.2 l3.toNatClampNeg) &&& 15) = 441 by rw [c207]; decide +kernel]
      obtain ⟨g208, h209⟩ := h206
      refine mz_go_blk mz_m0 6 (pc' := 447) (L' := [some (.ref 350), some (.ref 0), some (.ref 55), some (.int l3)]) (S' := [.int (X.2 (l3 + 1).toNatClampNeg), .ref 0]) (sh' := mz_sh) (m' := m) (g := mz_inb (l3 + 1) X.1 && true) rfl rfl (mz_and2 (g208) (rfl)) ?_
      refine mz_go_call mz_m0 mz_m113 rfl rfl rfl rfl rfl rfl rfl h209 (fun v sh1 m210 hv => ?_)
      obtain ⟨r212, rfl, rfl, h211⟩ := hv
      obtain ⟨g213, h214⟩ := h211
      refine mz_go_blk mz_m0 6 (pc' := 456) (L' := [some (.ref 350), some (.ref 0), some (.ref 55), some (.int l3)]) (S' := [.int (X.2 (l3 + 1).toNatClampNeg), .ref 55, .int r212]) (sh' := mz_sh) (m' := m210) (g := mz_inb (l3 + 1) X.1 && true) rfl rfl (mz_and2 (g213) (rfl)) ?_
      refine mz_go_call mz_m0 mz_m189 rfl rfl rfl rfl rfl rfl rfl h214 (fun v sh1 m215 hv => ?_)
      obtain ⟨r217, rfl, rfl, h216⟩ := hv
      refine mz_go_blk mz_m0 1 (pc' := (if r212 = r217 then 510 else 462)) (L' := [some (.ref 350), some (.ref 0), some (.ref 55), some (.int l3)]) (S' := []) (sh' := mz_sh) (m' := m215) (g := true) rfl rfl (rfl) ?_
      refine mz_go_if (fun c218 => ?_) (fun c218 => ?_)
      · have h219 := h216.1 c218
        refine mz_go_blk mz_m0 2 (pc' := 18) (L' := [some (.ref 350), some (.ref 0), some (.ref 55), some (.int (l3 + 4))]) (S' := []) (sh' := mz_sh) (m' := m215) (g := true) rfl rfl (rfl) ?_
        exact h219
      · have h220 := h216.2 c218
        refine mz_go_blk mz_m0 1 (pc' := 463) (L' := [some (.ref 350), some (.ref 0), some (.ref 55), some (.int l3)]) (S' := [.int 0]) (sh' := mz_sh) (m' := m215) (g := true) rfl rfl (rfl) ?_
        exact mz_go_ret mz_m0 rfl rfl rfl ⟨_, rfl, rfl, h220⟩
    have h221 := h205.2
    by_cases c223 : ((X.2 l3.toNatClampNeg) &&& 15) = 14
    · have h222 := h221.1 c223
      rw [show mz_tsw 32 478 0 15 #[80, 143, 156, 169, 202, 215, 228, 251, 284, 297, 330, 363, 386, 409, 432, 455] ((X.2 l3.toNatClampNeg) &&& 15) = 464 by rw [c223]; decide +kernel]
      obtain ⟨g224, h225⟩ := h222
      refine mz_go_blk mz_m0 6 (pc' := 470) (L' := [some (.ref 350), some (.ref 0), some (.ref 55), some (.int l3)]) (S' := [.int (X.2 (l3 + 1).toNatClampNeg), .ref 0]) (sh' := mz_sh) (m' := m) (g := mz_inb (l3 + 1) X.1 && true) rfl rfl (mz_and2 (g224) (rfl)) ?_
      refine mz_go_call mz_m0 mz_m114 rfl rfl rfl rfl rfl rfl rfl h225 (fun v sh1 m226 hv => ?_)
      obtain ⟨r228, rfl, rfl, h227⟩ := hv
      obtain ⟨g229, h230⟩ := h227
      refine mz_go_blk mz_m0 6 (pc' := 479) (L' := [some (.ref 350), some (.ref 0), some (.ref 55), some (.int l3)]) (S' := [.int (X.2 (l3 + 1).toNatClampNeg), .ref 55, .int r228]) (sh' := mz_sh) (m' := m226) (g := mz_inb (l3 + 1) X.1 && true) rfl rfl (mz_and2 (g229) (rfl)) ?_
      refine mz_go_call mz_m0 mz_m190 rfl rfl rfl rfl rfl rfl rfl h230 (fun v sh1 m231 hv => ?_)
      obtain ⟨r233, rfl, rfl, h232⟩ := hv
      refine mz_go_blk mz_m0 1 (pc' := (if r228 = r233 then 510 else 485)) (L' := [some (.ref 350), some (.ref 0), some (.ref 55), some (.int l3)]) (S' := []) (sh' := mz_sh) (m' := m231) (g := true) rfl rfl (rfl) ?_
      refine mz_go_if (fun c234 => ?_) (fun c234 => ?_)
      · have h235 := h232.1 c234
        refine mz_go_blk mz_m0 2 (pc' := 18) (L' := [some (.ref 350), some (.ref 0), some (.ref 55), some (.int (l3 + 4))]) (S' := []) (sh' := mz_sh) (m' := m231) (g := true) rfl rfl (rfl) ?_
        exact h235
      · have h236 := h232.2 c234
        refine mz_go_blk mz_m0 1 (pc' := 486) (L' := [some (.ref 350), some (.ref 0), some (.ref 55), some (.int l3)]) (S' := [.int 0]) (sh' := mz_sh) (m' := m231) (g := true) rfl rfl (rfl) ?_
        exact mz_go_ret mz_m0 rfl rfl rfl ⟨_, rfl, rfl, h236⟩
    have h237 := h221.2
    by_cases c239 : ((X.2 l3.toNatClampNeg) &&& 15) = 15
    · have h238 := h237.1 c239
      rw [show mz_tsw 32 478 0 15 #[80, 143, 156, 169, 202, 215, 228, 251, 284, 297, 330, 363, 386, 409, 432, 455] ((X.2 l3.toNatClampNeg) &&& 15) = 487 by rw [c239]; decide +kernel]
      obtain ⟨g240, h241⟩ := h238
      refine mz_go_blk mz_m0 6 (pc' := 493) (L' := [some (.ref 350), some (.ref 0), some (.ref 55), some (.int l3)]) (S' := [.int (X.2 (l3 + 1).toNatClampNeg), .ref 0]) (sh' := mz_sh) (m' := m) (g := mz_inb (l3 + 1) X.1 && true) rfl rfl (mz_and2 (g240) (rfl)) ?_
      refine mz_go_call mz_m0 mz_m115 rfl rfl rfl rfl rfl rfl rfl h241 (fun v sh1 m242 hv => ?_)
      obtain ⟨r244, rfl, rfl, h243⟩ := hv
      obtain ⟨g245, h246⟩ := h243
      refine mz_go_blk mz_m0 6 (pc' := 502) (L' := [some (.ref 350), some (.ref 0), some (.ref 55), some (.int l3)]) (S' := [.int (X.2 (l3 + 1).toNatClampNeg), .ref 55, .int r244]) (sh' := mz_sh) (m' := m242) (g := mz_inb (l3 + 1) X.1 && true) rfl rfl (mz_and2 (g245) (rfl)) ?_
      refine mz_go_call mz_m0 mz_m191 rfl rfl rfl rfl rfl rfl rfl h246 (fun v sh1 m247 hv => ?_)
      obtain ⟨r249, rfl, rfl, h248⟩ := hv
      refine mz_go_blk mz_m0 1 (pc' := (if r244 = r249 then 510 else 508)) (L' := [some (.ref 350), some (.ref 0), some (.ref 55), some (.int l3)]) (S' := []) (sh' := mz_sh) (m' := m247) (g := true) rfl rfl (rfl) ?_
      refine mz_go_if (fun c250 => ?_) (fun c250 => ?_)
      · have h251 := h248.1 c250
        refine mz_go_blk mz_m0 2 (pc' := 18) (L' := [some (.ref 350), some (.ref 0), some (.ref 55), some (.int (l3 + 4))]) (S' := []) (sh' := mz_sh) (m' := m247) (g := true) rfl rfl (rfl) ?_
        exact h251
      · have h252 := h248.2 c250
        refine mz_go_blk mz_m0 1 (pc' := 509) (L' := [some (.ref 350), some (.ref 0), some (.ref 55), some (.int l3)]) (S' := [.int 0]) (sh' := mz_sh) (m' := m247) (g := true) rfl rfl (rfl) ?_
        exact mz_go_ret mz_m0 rfl rfl rfl ⟨_, rfl, rfl, h252⟩
    have h253 := h237.2
    have h253d := h253 c7 c27 c39 c51 c69 c81 c93 c109 c127 c139 c157 c175 c191 c207 c223 c239
    rw [show mz_tsw 32 478 0 15 #[80, 143, 156, 169, 202, 215, 228, 251, 284, 297, 330, 363, 386, 409, 432, 455] ((X.2 l3.toNatClampNeg) &&& 15) = 510 from (by
        refine mz_tswd _ _ _ _ _ ((X.2 l3.toNatClampNeg) &&& 15) 510 (by decide +kernel) (fun k hk z => ?_)
        match k, hk, z with
        | 0, _, z => exact absurd (mz_tI (by rw [z]; decide +kernel)) c7
        | 1, _, z => exact absurd (mz_tI (by rw [z]; decide +kernel)) c27
        | 2, _, z => exact absurd (mz_tI (by rw [z]; decide +kernel)) c39
        | 3, _, z => exact absurd (mz_tI (by rw [z]; decide +kernel)) c51
        | 4, _, z => exact absurd (mz_tI (by rw [z]; decide +kernel)) c69
        | 5, _, z => exact absurd (mz_tI (by rw [z]; decide +kernel)) c81
        | 6, _, z => exact absurd (mz_tI (by rw [z]; decide +kernel)) c93
        | 7, _, z => exact absurd (mz_tI (by rw [z]; decide +kernel)) c109
        | 8, _, z => exact absurd (mz_tI (by rw [z]; decide +kernel)) c127
        | 9, _, z => exact absurd (mz_tI (by rw [z]; decide +kernel)) c139
        | 10, _, z => exact absurd (mz_tI (by rw [z]; decide +kernel)) c157
        | 11, _, z => exact absurd (mz_tI (by rw [z]; decide +kernel)) c175
        | 12, _, z => exact absurd (mz_tI (by rw [z]; decide +kernel)) c191
        | 13, _, z => exact absurd (mz_tI (by rw [z]; decide +kernel)) c207
        | 14, _, z => exact absurd (mz_tI (by rw [z]; decide +kernel)) c223
        | 15, _, z => exact absurd (mz_tI (by rw [z]; decide +kernel)) c239
        | k + 16, hk, _ => exact absurd hk (by simp only [Array.size]; simp)
      )]
    refine mz_go_blk mz_m0 2 (pc' := 18) (L' := [some (.ref 350), some (.ref 0), some (.ref 55), some (.int (l3 + 4))]) (S' := []) (sh' := mz_sh) (m' := m) (g := true) rfl rfl (rfl) ?_
    exact h253d
