set_option maxRecDepth 100000 in
theorem t_J_coder0_0 {X : mz_X} {m : mz_M} {Q : Int32 → mz_M → Prop}
    (h : Q 0 m) :
    mz_gi X mz_sh 196 0 [some (.ref 310)] m Q := by
  refine mz_go_blk mz_m196 5 (pc' := 14) (L' := [some (.ref 310)]) (S' := [.int 0]) (sh' := mz_sh) (m' := m) (g := true) rfl rfl (rfl) ?_
  exact mz_go_ret mz_m196 rfl rfl rfl ⟨_, rfl, rfl, h⟩
set_option maxRecDepth 100000 in
theorem t_J_length0_0 {X : mz_X} {m : mz_M} {Q : Int32 → mz_M → Prop}
    (h : mz_gi X mz_sh 196 0 [some (.ref 310)] m (fun r3 m1 => Q (5 >>> (r3 &&& 31)) m1)) :
    mz_gi X mz_sh 192 0 [some (.ref 310)] m Q := by
  refine mz_go_blk mz_m192 4 (pc' := 6) (L' := [some (.ref 310)]) (S' := [.ref 310, .int 5]) (sh' := mz_sh) (m' := m) (g := true) rfl rfl (rfl) ?_
  refine mz_go_call mz_m192 mz_m196 rfl rfl rfl rfl rfl rfl rfl h (fun v sh1 m1 hv => ?_)
  obtain ⟨r3, rfl, rfl, h2⟩ := hv
  refine mz_go_blk mz_m192 1 (pc' := 10) (L' := [some (.ref 310)]) (S' := [.int (5 >>> (r3 &&& 31))]) (sh' := mz_sh) (m' := m1) (g := true) rfl rfl (rfl) ?_
  exact mz_go_ret mz_m192 rfl rfl rfl ⟨_, rfl, rfl, h2⟩
set_option maxRecDepth 100000 in
theorem t_J_isLatin10_0 {X : mz_X} {m : mz_M} {Q : Int32 → mz_M → Prop}
    (h : Q 1 m) :
    mz_gi X mz_sh 197 0 [some (.ref 310)] m Q := by
  refine mz_go_blk mz_m197 7 (pc' := 18) (L' := [some (.ref 310)]) (S' := [.int 1]) (sh' := mz_sh) (m' := m) (g := true) rfl rfl (rfl) ?_
  exact mz_go_ret mz_m197 rfl rfl rfl ⟨_, rfl, rfl, h⟩
set_option maxRecDepth 100000 in
theorem t_J_coder1_0 {X : mz_X} {m : mz_M} {Q : Int32 → mz_M → Prop}
    (h : Q 0 m) :
    mz_gi X mz_sh 196 0 [some (.ref 311)] m Q := by
  refine mz_go_blk mz_m196 5 (pc' := 14) (L' := [some (.ref 311)]) (S' := [.int 0]) (sh' := mz_sh) (m' := m) (g := true) rfl rfl (rfl) ?_
  exact mz_go_ret mz_m196 rfl rfl rfl ⟨_, rfl, rfl, h⟩
set_option maxRecDepth 100000 in
theorem t_J_length1_0 {X : mz_X} {m : mz_M} {Q : Int32 → mz_M → Prop}
    (h : mz_gi X mz_sh 196 0 [some (.ref 311)] m (fun r3 m1 => Q (2 >>> (r3 &&& 31)) m1)) :
    mz_gi X mz_sh 192 0 [some (.ref 311)] m Q := by
  refine mz_go_blk mz_m192 4 (pc' := 6) (L' := [some (.ref 311)]) (S' := [.ref 311, .int 2]) (sh' := mz_sh) (m' := m) (g := true) rfl rfl (rfl) ?_
  refine mz_go_call mz_m192 mz_m196 rfl rfl rfl rfl rfl rfl rfl h (fun v sh1 m1 hv => ?_)
  obtain ⟨r3, rfl, rfl, h2⟩ := hv
  refine mz_go_blk mz_m192 1 (pc' := 10) (L' := [some (.ref 311)]) (S' := [.int (2 >>> (r3 &&& 31))]) (sh' := mz_sh) (m' := m1) (g := true) rfl rfl (rfl) ?_
  exact mz_go_ret mz_m192 rfl rfl rfl ⟨_, rfl, rfl, h2⟩
set_option maxRecDepth 100000 in
theorem t_J_isLatin11_0 {X : mz_X} {m : mz_M} {Q : Int32 → mz_M → Prop}
    (h : Q 1 m) :
    mz_gi X mz_sh 197 0 [some (.ref 311)] m Q := by
  refine mz_go_blk mz_m197 7 (pc' := 18) (L' := [some (.ref 311)]) (S' := [.int 1]) (sh' := mz_sh) (m' := m) (g := true) rfl rfl (rfl) ?_
  exact mz_go_ret mz_m197 rfl rfl rfl ⟨_, rfl, rfl, h⟩
set_option maxRecDepth 100000 in
theorem t_J_coder2_0 {X : mz_X} {m : mz_M} {Q : Int32 → mz_M → Prop}
    (h : Q 0 m) :
    mz_gi X mz_sh 196 0 [some (.ref 312)] m Q := by
  refine mz_go_blk mz_m196 5 (pc' := 14) (L' := [some (.ref 312)]) (S' := [.int 0]) (sh' := mz_sh) (m' := m) (g := true) rfl rfl (rfl) ?_
  exact mz_go_ret mz_m196 rfl rfl rfl ⟨_, rfl, rfl, h⟩
set_option maxRecDepth 100000 in
theorem t_J_length2_0 {X : mz_X} {m : mz_M} {Q : Int32 → mz_M → Prop}
    (h : mz_gi X mz_sh 196 0 [some (.ref 312)] m (fun r3 m1 => Q (4 >>> (r3 &&& 31)) m1)) :
    mz_gi X mz_sh 192 0 [some (.ref 312)] m Q := by
  refine mz_go_blk mz_m192 4 (pc' := 6) (L' := [some (.ref 312)]) (S' := [.ref 312, .int 4]) (sh' := mz_sh) (m' := m) (g := true) rfl rfl (rfl) ?_
  refine mz_go_call mz_m192 mz_m196 rfl rfl rfl rfl rfl rfl rfl h (fun v sh1 m1 hv => ?_)
  obtain ⟨r3, rfl, rfl, h2⟩ := hv
  refine mz_go_blk mz_m192 1 (pc' := 10) (L' := [some (.ref 312)]) (S' := [.int (4 >>> (r3 &&& 31))]) (sh' := mz_sh) (m' := m1) (g := true) rfl rfl (rfl) ?_
  exact mz_go_ret mz_m192 rfl rfl rfl ⟨_, rfl, rfl, h2⟩
set_option maxRecDepth 100000 in
theorem t_J_isLatin12_0 {X : mz_X} {m : mz_M} {Q : Int32 → mz_M → Prop}
    (h : Q 1 m) :
    mz_gi X mz_sh 197 0 [some (.ref 312)] m Q := by
  refine mz_go_blk mz_m197 7 (pc' := 18) (L' := [some (.ref 312)]) (S' := [.int 1]) (sh' := mz_sh) (m' := m) (g := true) rfl rfl (rfl) ?_
  exact mz_go_ret mz_m197 rfl rfl rfl ⟨_, rfl, rfl, h⟩
set_option maxRecDepth 100000 in
theorem t_J_coder3_0 {X : mz_X} {m : mz_M} {Q : Int32 → mz_M → Prop}
    (h : Q 0 m) :
    mz_gi X mz_sh 196 0 [some (.ref 313)] m Q := by
  refine mz_go_blk mz_m196 5 (pc' := 14) (L' := [some (.ref 313)]) (S' := [.int 0]) (sh' := mz_sh) (m' := m) (g := true) rfl rfl (rfl) ?_
  exact mz_go_ret mz_m196 rfl rfl rfl ⟨_, rfl, rfl, h⟩
set_option maxRecDepth 100000 in
theorem t_J_length3_0 {X : mz_X} {m : mz_M} {Q : Int32 → mz_M → Prop}
    (h : mz_gi X mz_sh 196 0 [some (.ref 313)] m (fun r3 m1 => Q (5 >>> (r3 &&& 31)) m1)) :
    mz_gi X mz_sh 192 0 [some (.ref 313)] m Q := by
  refine mz_go_blk mz_m192 4 (pc' := 6) (L' := [some (.ref 313)]) (S' := [.ref 313, .int 5]) (sh' := mz_sh) (m' := m) (g := true) rfl rfl (rfl) ?_
  refine mz_go_call mz_m192 mz_m196 rfl rfl rfl rfl rfl rfl rfl h (fun v sh1 m1 hv => ?_)
  obtain ⟨r3, rfl, rfl, h2⟩ := hv
  refine mz_go_blk mz_m192 1 (pc' := 10) (L' := [some (.ref 313)]) (S' := [.int (5 >>> (r3 &&& 31))]) (sh' := mz_sh) (m' := m1) (g := true) rfl rfl (rfl) ?_
  exact mz_go_ret mz_m192 rfl rfl rfl ⟨_, rfl, rfl, h2⟩
set_option maxRecDepth 100000 in
theorem t_J_isLatin13_0 {X : mz_X} {m : mz_M} {Q : Int32 → mz_M → Prop}
    (h : Q 1 m) :
    mz_gi X mz_sh 197 0 [some (.ref 313)] m Q := by
  refine mz_go_blk mz_m197 7 (pc' := 18) (L' := [some (.ref 313)]) (S' := [.int 1]) (sh' := mz_sh) (m' := m) (g := true) rfl rfl (rfl) ?_
  exact mz_go_ret mz_m197 rfl rfl rfl ⟨_, rfl, rfl, h⟩
set_option maxRecDepth 100000 in
theorem t_J_coder4_0 {X : mz_X} {m : mz_M} {Q : Int32 → mz_M → Prop}
    (h : Q 0 m) :
    mz_gi X mz_sh 196 0 [some (.ref 314)] m Q := by
  refine mz_go_blk mz_m196 5 (pc' := 14) (L' := [some (.ref 314)]) (S' := [.int 0]) (sh' := mz_sh) (m' := m) (g := true) rfl rfl (rfl) ?_
  exact mz_go_ret mz_m196 rfl rfl rfl ⟨_, rfl, rfl, h⟩
set_option maxRecDepth 100000 in
theorem t_J_length4_0 {X : mz_X} {m : mz_M} {Q : Int32 → mz_M → Prop}
    (h : mz_gi X mz_sh 196 0 [some (.ref 314)] m (fun r3 m1 => Q (5 >>> (r3 &&& 31)) m1)) :
    mz_gi X mz_sh 192 0 [some (.ref 314)] m Q := by
  refine mz_go_blk mz_m192 4 (pc' := 6) (L' := [some (.ref 314)]) (S' := [.ref 314, .int 5]) (sh' := mz_sh) (m' := m) (g := true) rfl rfl (rfl) ?_
  refine mz_go_call mz_m192 mz_m196 rfl rfl rfl rfl rfl rfl rfl h (fun v sh1 m1 hv => ?_)
  obtain ⟨r3, rfl, rfl, h2⟩ := hv
  refine mz_go_blk mz_m192 1 (pc' := 10) (L' := [some (.ref 314)]) (S' := [.int (5 >>> (r3 &&& 31))]) (sh' := mz_sh) (m' := m1) (g := true) rfl rfl (rfl) ?_
  exact mz_go_ret mz_m192 rfl rfl rfl ⟨_, rfl, rfl, h2⟩
set_option maxRecDepth 100000 in
theorem t_J_isLatin14_0 {X : mz_X} {m : mz_M} {Q : Int32 → mz_M → Prop}
    (h : Q 1 m) :
    mz_gi X mz_sh 197 0 [some (.ref 314)] m Q := by
  refine mz_go_blk mz_m197 7 (pc' := 18) (L' := [some (.ref 314)]) (S' := [.int 1]) (sh' := mz_sh) (m' := m) (g := true) rfl rfl (rfl) ?_
  exact mz_go_ret mz_m197 rfl rfl rfl ⟨_, rfl, rfl, h⟩
set_option maxRecDepth 100000 in
theorem t_J_coder5_0 {X : mz_X} {m : mz_M} {Q : Int32 → mz_M → Prop}
    (h : Q 0 m) :
    mz_gi X mz_sh 196 0 [some (.ref 315)] m Q := by
  refine mz_go_blk mz_m196 5 (pc' := 14) (L' := [some (.ref 315)]) (S' := [.int 0]) (sh' := mz_sh) (m' := m) (g := true) rfl rfl (rfl) ?_
  exact mz_go_ret mz_m196 rfl rfl rfl ⟨_, rfl, rfl, h⟩
set_option maxRecDepth 100000 in
theorem t_J_length5_0 {X : mz_X} {m : mz_M} {Q : Int32 → mz_M → Prop}
    (h : mz_gi X mz_sh 196 0 [some (.ref 315)] m (fun r3 m1 => Q (4 >>> (r3 &&& 31)) m1)) :
    mz_gi X mz_sh 192 0 [some (.ref 315)] m Q := by
  refine mz_go_blk mz_m192 4 (pc' := 6) (L' := [some (.ref 315)]) (S' := [.ref 315, .int 4]) (sh' := mz_sh) (m' := m) (g := true) rfl rfl (rfl) ?_
  refine mz_go_call mz_m192 mz_m196 rfl rfl rfl rfl rfl rfl rfl h (fun v sh1 m1 hv => ?_)
  obtain ⟨r3, rfl, rfl, h2⟩ := hv
  refine mz_go_blk mz_m192 1 (pc' := 10) (L' := [some (.ref 315)]) (S' := [.int (4 >>> (r3 &&& 31))]) (sh' := mz_sh) (m' := m1) (g := true) rfl rfl (rfl) ?_
  exact mz_go_ret mz_m192 rfl rfl rfl ⟨_, rfl, rfl, h2⟩
set_option maxRecDepth 100000 in
theorem t_J_isLatin15_0 {X : mz_X} {m : mz_M} {Q : Int32 → mz_M → Prop}
    (h : Q 1 m) :
    mz_gi X mz_sh 197 0 [some (.ref 315)] m Q := by
  refine mz_go_blk mz_m197 7 (pc' := 18) (L' := [some (.ref 315)]) (S' := [.int 1]) (sh' := mz_sh) (m' := m) (g := true) rfl rfl (rfl) ?_
  exact mz_go_ret mz_m197 rfl rfl rfl ⟨_, rfl, rfl, h⟩
set_option maxRecDepth 100000 in
theorem t_J_coder6_0 {X : mz_X} {m : mz_M} {Q : Int32 → mz_M → Prop}
    (h : Q 0 m) :
    mz_gi X mz_sh 196 0 [some (.ref 316)] m Q := by
  refine mz_go_blk mz_m196 5 (pc' := 14) (L' := [some (.ref 316)]) (S' := [.int 0]) (sh' := mz_sh) (m' := m) (g := true) rfl rfl (rfl) ?_
  exact mz_go_ret mz_m196 rfl rfl rfl ⟨_, rfl, rfl, h⟩
set_option maxRecDepth 100000 in
theorem t_J_length6_0 {X : mz_X} {m : mz_M} {Q : Int32 → mz_M → Prop}
    (h : mz_gi X mz_sh 196 0 [some (.ref 316)] m (fun r3 m1 => Q (3 >>> (r3 &&& 31)) m1)) :
    mz_gi X mz_sh 192 0 [some (.ref 316)] m Q := by
  refine mz_go_blk mz_m192 4 (pc' := 6) (L' := [some (.ref 316)]) (S' := [.ref 316, .int 3]) (sh' := mz_sh) (m' := m) (g := true) rfl rfl (rfl) ?_
  refine mz_go_call mz_m192 mz_m196 rfl rfl rfl rfl rfl rfl rfl h (fun v sh1 m1 hv => ?_)
  obtain ⟨r3, rfl, rfl, h2⟩ := hv
  refine mz_go_blk mz_m192 1 (pc' := 10) (L' := [some (.ref 316)]) (S' := [.int (3 >>> (r3 &&& 31))]) (sh' := mz_sh) (m' := m1) (g := true) rfl rfl (rfl) ?_
  exact mz_go_ret mz_m192 rfl rfl rfl ⟨_, rfl, rfl, h2⟩
set_option maxRecDepth 100000 in
theorem t_J_isLatin16_0 {X : mz_X} {m : mz_M} {Q : Int32 → mz_M → Prop}
    (h : Q 1 m) :
    mz_gi X mz_sh 197 0 [some (.ref 316)] m Q := by
  refine mz_go_blk mz_m197 7 (pc' := 18) (L' := [some (.ref 316)]) (S' := [.int 1]) (sh' := mz_sh) (m' := m) (g := true) rfl rfl (rfl) ?_
  exact mz_go_ret mz_m197 rfl rfl rfl ⟨_, rfl, rfl, h⟩
set_option maxRecDepth 100000 in
theorem t_J_coder7_0 {X : mz_X} {m : mz_M} {Q : Int32 → mz_M → Prop}
    (h : Q 0 m) :
    mz_gi X mz_sh 196 0 [some (.ref 317)] m Q := by
  refine mz_go_blk mz_m196 5 (pc' := 14) (L' := [some (.ref 317)]) (S' := [.int 0]) (sh' := mz_sh) (m' := m) (g := true) rfl rfl (rfl) ?_
  exact mz_go_ret mz_m196 rfl rfl rfl ⟨_, rfl, rfl, h⟩
set_option maxRecDepth 100000 in
theorem t_J_length7_0 {X : mz_X} {m : mz_M} {Q : Int32 → mz_M → Prop}
    (h : mz_gi X mz_sh 196 0 [some (.ref 317)] m (fun r3 m1 => Q (13 >>> (r3 &&& 31)) m1)) :
    mz_gi X mz_sh 192 0 [some (.ref 317)] m Q := by
  refine mz_go_blk mz_m192 4 (pc' := 6) (L' := [some (.ref 317)]) (S' := [.ref 317, .int 13]) (sh' := mz_sh) (m' := m) (g := true) rfl rfl (rfl) ?_
  refine mz_go_call mz_m192 mz_m196 rfl rfl rfl rfl rfl rfl rfl h (fun v sh1 m1 hv => ?_)
  obtain ⟨r3, rfl, rfl, h2⟩ := hv
  refine mz_go_blk mz_m192 1 (pc' := 10) (L' := [some (.ref 317)]) (S' := [.int (13 >>> (r3 &&& 31))]) (sh' := mz_sh) (m' := m1) (g := true) rfl rfl (rfl) ?_
  exact mz_go_ret mz_m192 rfl rfl rfl ⟨_, rfl, rfl, h2⟩
set_option maxRecDepth 100000 in
theorem t_J_isLatin17_0 {X : mz_X} {m : mz_M} {Q : Int32 → mz_M → Prop}
    (h : Q 1 m) :
    mz_gi X mz_sh 197 0 [some (.ref 317)] m Q := by
  refine mz_go_blk mz_m197 7 (pc' := 18) (L' := [some (.ref 317)]) (S' := [.int 1]) (sh' := mz_sh) (m' := m) (g := true) rfl rfl (rfl) ?_
  exact mz_go_ret mz_m197 rfl rfl rfl ⟨_, rfl, rfl, h⟩
set_option maxRecDepth 100000 in
theorem t_J_pcheck_0 {X : mz_X} {m : mz_M} {Q : Int32 → mz_M → Prop} (a0 : Int32) (a1 : Int32)
    (h : ((a0 < 0 → False) ∧ (¬ (a0 < 0) → ((a0 < a1 → Q a0 m) ∧ (¬ (a0 < a1) → False))))) :
    mz_gi X mz_sh 204 0 [some (.int a0), some (.int a1), some (.ref 399)] m Q := by
  refine mz_go_blk mz_m204 2 (pc' := (if a0 < 0 then 9 else 4)) (L' := [some (.int a0), some (.int a1), some (.ref 399)]) (S' := []) (sh' := mz_sh) (m' := m) (g := true) rfl rfl (rfl) ?_
  refine mz_go_if (fun c1 => ?_) (fun c1 => ?_)
  · have h2 := h.1 c1
    exact h2.elim
  · have h3 := h.2 c1
    refine mz_go_blk mz_m204 3 (pc' := (if a0 < a1 then 16 else 9)) (L' := [some (.int a0), some (.int a1), some (.ref 399)]) (S' := []) (sh' := mz_sh) (m' := m) (g := true) rfl rfl (rfl) ?_
    refine mz_go_if (fun c4 => ?_) (fun c4 => ?_)
    · have h5 := h3.1 c4
      refine mz_go_blk mz_m204 1 (pc' := 17) (L' := [some (.int a0), some (.int a1), some (.ref 399)]) (S' := [.int a0]) (sh' := mz_sh) (m' := m) (g := true) rfl rfl (rfl) ?_
      exact mz_go_ret mz_m204 rfl rfl rfl ⟨_, rfl, rfl, h5⟩
    · have h6 := h3.2 c4
      exact h6.elim
set_option maxRecDepth 100000 in
theorem t_J_check_0 {X : mz_X} {m : mz_M} {Q : mz_M → Prop} (a0 : Int32) (a1 : Int32)
    (h : mz_gi X mz_sh 204 0 [some (.int a0), some (.int a1), some (.ref 399)] m (fun r3 m1 => Q m1)) :
    mz_gv X mz_sh 198 0 [some (.int a0), some (.int a1)] m Q := by
  refine mz_go_blk mz_m198 3 (pc' := 5) (L' := [some (.int a0), some (.int a1)]) (S' := [.ref 399, .int a1, .int a0]) (sh' := mz_sh) (m' := m) (g := true) rfl rfl (rfl) ?_
  refine mz_go_call mz_m198 mz_m204 rfl rfl rfl rfl rfl rfl rfl h (fun v sh1 m1 hv => ?_)
  obtain ⟨r3, rfl, rfl, h2⟩ := hv
  refine mz_go_blk mz_m198 1 (pc' := 9) (L' := [some (.int a0), some (.int a1)]) (S' := []) (sh' := mz_sh) (m' := m1) (g := true) rfl rfl (rfl) ?_
  exact mz_go_ret mz_m198 rfl rfl rfl ⟨rfl, rfl, h2⟩
set_option maxRecDepth 100000 in
theorem t_J_can_0 {X : mz_X} {m : mz_M} {Q : Int32 → mz_M → Prop} (a0 : Int32)
    (h : ((a0 < 0 → Q 0 m) ∧ (¬ (a0 < 0) → ((255 < a0 → Q 0 m) ∧ (¬ (255 < a0) → Q 1 m))))) :
    mz_gi X mz_sh 200 0 [some (.int a0)] m Q := by
  refine mz_go_blk mz_m200 2 (pc' := (if a0 < 0 then 15 else 4)) (L' := [some (.int a0)]) (S' := []) (sh' := mz_sh) (m' := m) (g := true) rfl rfl (rfl) ?_
  refine mz_go_if (fun c1 => ?_) (fun c1 => ?_)
  · have h2 := h.1 c1
    refine mz_go_blk mz_m200 1 (pc' := 16) (L' := [some (.int a0)]) (S' := [.int 0]) (sh' := mz_sh) (m' := m) (g := true) rfl rfl (rfl) ?_
    exact mz_go_ret mz_m200 rfl rfl rfl ⟨_, rfl, rfl, h2⟩
  · have h3 := h.2 c1
    refine mz_go_blk mz_m200 3 (pc' := (if 255 < a0 then 15 else 11)) (L' := [some (.int a0)]) (S' := []) (sh' := mz_sh) (m' := m) (g := true) rfl rfl (rfl) ?_
    refine mz_go_if (fun c4 => ?_) (fun c4 => ?_)
    · have h5 := h3.1 c4
      refine mz_go_blk mz_m200 1 (pc' := 16) (L' := [some (.int a0)]) (S' := [.int 0]) (sh' := mz_sh) (m' := m) (g := true) rfl rfl (rfl) ?_
      exact mz_go_ret mz_m200 rfl rfl rfl ⟨_, rfl, rfl, h5⟩
    · have h6 := h3.2 c4
      refine mz_go_blk mz_m200 2 (pc' := 16) (L' := [some (.int a0)]) (S' := [.int 1]) (sh' := mz_sh) (m' := m) (g := true) rfl rfl (rfl) ?_
      exact mz_go_ret mz_m200 rfl rfl rfl ⟨_, rfl, rfl, h6⟩
set_option maxRecDepth 100000 in
theorem t_J_lcharAt0_0 {X : mz_X} {m : mz_M} {Q : Int32 → mz_M → Prop} (a1 : Int32)
    (h : mz_gv X mz_sh 198 0 [some (.int a1), some (.int 5)] m (fun m1 => mz_inb a1 5 = true ∧ narrow .char (.int ((((([112, 114, 105, 110, 116] : List Int32).getD a1.toNatClampNeg 0) &&& 255).toUInt32 % 65536).toInt32)) = .int ((((([112, 114, 105, 110, 116] : List Int32).getD a1.toNatClampNeg 0) &&& 255).toUInt32 % 65536).toInt32) ∧ Q ((((([112, 114, 105, 110, 116] : List Int32).getD a1.toNatClampNeg 0) &&& 255).toUInt32 % 65536).toInt32) m1)) :
    mz_gi X mz_sh 199 0 [some (.ref 330), some (.int a1)] m Q := by
  refine mz_go_blk mz_m199 3 (pc' := 3) (L' := [some (.ref 330), some (.int a1)]) (S' := [.int 5, .int a1]) (sh' := mz_sh) (m' := m) (g := true) rfl rfl (rfl) ?_
  refine mz_go_call mz_m199 mz_m198 rfl rfl rfl rfl rfl rfl rfl h (fun v sh1 m1 hv => ?_)
  obtain ⟨rfl, rfl, h2⟩ := hv
  obtain ⟨g3, h4⟩ := h2
  refine mz_go_blk mz_m199 6 (pc' := 14) (L' := [some (.ref 330), some (.int a1)]) (S' := [.int ((((([112, 114, 105, 110, 116] : List Int32).getD a1.toNatClampNeg 0) &&& 255).toUInt32 % 65536).toInt32)]) (sh' := mz_sh) (m' := m1) (g := mz_inb a1 5 && true) rfl rfl (mz_and2 (g3) (rfl)) ?_
  exact mz_go_ret mz_m199 rfl rfl (mz_rtchar h4.1) ⟨_, rfl, rfl, h4.2⟩
set_option maxRecDepth 100000 in
theorem t_J_charAt0_0 {X : mz_X} {m : mz_M} {Q : Int32 → mz_M → Prop} (a1 : Int32)
    (h : mz_gi X mz_sh 197 0 [some (.ref 310)] m (fun r3 m1 => ((r3 = 0 → False) ∧ (¬ (r3 = 0) → mz_gi X mz_sh 199 0 [some (.ref 330), some (.int a1)] m1 (fun r9 m7 => narrow .char (.int r9) = .int r9 ∧ Q r9 m7))))) :
    mz_gi X mz_sh 193 0 [some (.ref 310), some (.int a1)] m Q := by
  refine mz_go_blk mz_m193 1 (pc' := 1) (L' := [some (.ref 310), some (.int a1)]) (S' := [.ref 310]) (sh' := mz_sh) (m' := m) (g := true) rfl rfl (rfl) ?_
  refine mz_go_call mz_m193 mz_m197 rfl rfl rfl rfl rfl rfl rfl h (fun v sh1 m1 hv => ?_)
  obtain ⟨r3, rfl, rfl, h2⟩ := hv
  refine mz_go_blk mz_m193 1 (pc' := (if r3 = 0 then 16 else 7)) (L' := [some (.ref 310), some (.int a1)]) (S' := []) (sh' := mz_sh) (m' := m1) (g := true) rfl rfl (rfl) ?_
  refine mz_go_if (fun c4 => ?_) (fun c4 => ?_)
  · have h5 := h2.1 c4
    exact h5.elim
  · have h6 := h2.2 c4
    refine mz_go_blk mz_m193 3 (pc' := 12) (L' := [some (.ref 310), some (.int a1)]) (S' := [.int a1, .ref 330]) (sh' := mz_sh) (m' := m1) (g := true) rfl rfl (rfl) ?_
    refine mz_go_call mz_m193 mz_m199 rfl rfl rfl rfl rfl rfl rfl h6 (fun v sh1 m7 hv => ?_)
    obtain ⟨r9, rfl, rfl, h8⟩ := hv
    exact mz_go_ret mz_m193 rfl rfl (mz_rtchar h8.1) ⟨_, rfl, rfl, h8.2⟩
set_option maxRecDepth 100000 in
theorem t_J_lcharAt1_0 {X : mz_X} {m : mz_M} {Q : Int32 → mz_M → Prop} (a1 : Int32)
    (h : mz_gv X mz_sh 198 0 [some (.int a1), some (.int 2)] m (fun m1 => mz_inb a1 2 = true ∧ narrow .char (.int ((((([105, 102] : List Int32).getD a1.toNatClampNeg 0) &&& 255).toUInt32 % 65536).toInt32)) = .int ((((([105, 102] : List Int32).getD a1.toNatClampNeg 0) &&& 255).toUInt32 % 65536).toInt32) ∧ Q ((((([105, 102] : List Int32).getD a1.toNatClampNeg 0) &&& 255).toUInt32 % 65536).toInt32) m1)) :
    mz_gi X mz_sh 199 0 [some (.ref 331), some (.int a1)] m Q := by
  refine mz_go_blk mz_m199 3 (pc' := 3) (L' := [some (.ref 331), some (.int a1)]) (S' := [.int 2, .int a1]) (sh' := mz_sh) (m' := m) (g := true) rfl rfl (rfl) ?_
  refine mz_go_call mz_m199 mz_m198 rfl rfl rfl rfl rfl rfl rfl h (fun v sh1 m1 hv => ?_)
  obtain ⟨rfl, rfl, h2⟩ := hv
  obtain ⟨g3, h4⟩ := h2
  refine mz_go_blk mz_m199 6 (pc' := 14) (L' := [some (.ref 331), some (.int a1)]) (S' := [.int ((((([105, 102] : List Int32).getD a1.toNatClampNeg 0) &&& 255).toUInt32 % 65536).toInt32)]) (sh' := mz_sh) (m' := m1) (g := mz_inb a1 2 && true) rfl rfl (mz_and2 (g3) (rfl)) ?_
  exact mz_go_ret mz_m199 rfl rfl (mz_rtchar h4.1) ⟨_, rfl, rfl, h4.2⟩
set_option maxRecDepth 100000 in
theorem t_J_charAt1_0 {X : mz_X} {m : mz_M} {Q : Int32 → mz_M → Prop} (a1 : Int32)
    (h : mz_gi X mz_sh 197 0 [some (.ref 311)] m (fun r3 m1 => ((r3 = 0 → False) ∧ (¬ (r3 = 0) → mz_gi X mz_sh 199 0 [some (.ref 331), some (.int a1)] m1 (fun r9 m7 => narrow .char (.int r9) = .int r9 ∧ Q r9 m7))))) :
    mz_gi X mz_sh 193 0 [some (.ref 311), some (.int a1)] m Q := by
  refine mz_go_blk mz_m193 1 (pc' := 1) (L' := [some (.ref 311), some (.int a1)]) (S' := [.ref 311]) (sh' := mz_sh) (m' := m) (g := true) rfl rfl (rfl) ?_
  refine mz_go_call mz_m193 mz_m197 rfl rfl rfl rfl rfl rfl rfl h (fun v sh1 m1 hv => ?_)
  obtain ⟨r3, rfl, rfl, h2⟩ := hv
  refine mz_go_blk mz_m193 1 (pc' := (if r3 = 0 then 16 else 7)) (L' := [some (.ref 311), some (.int a1)]) (S' := []) (sh' := mz_sh) (m' := m1) (g := true) rfl rfl (rfl) ?_
  refine mz_go_if (fun c4 => ?_) (fun c4 => ?_)
  · have h5 := h2.1 c4
    exact h5.elim
  · have h6 := h2.2 c4
    refine mz_go_blk mz_m193 3 (pc' := 12) (L' := [some (.ref 311), some (.int a1)]) (S' := [.int a1, .ref 331]) (sh' := mz_sh) (m' := m1) (g := true) rfl rfl (rfl) ?_
    refine mz_go_call mz_m193 mz_m199 rfl rfl rfl rfl rfl rfl rfl h6 (fun v sh1 m7 hv => ?_)
    obtain ⟨r9, rfl, rfl, h8⟩ := hv
    exact mz_go_ret mz_m193 rfl rfl (mz_rtchar h8.1) ⟨_, rfl, rfl, h8.2⟩
set_option maxRecDepth 100000 in
theorem t_J_lcharAt2_0 {X : mz_X} {m : mz_M} {Q : Int32 → mz_M → Prop} (a1 : Int32)
    (h : mz_gv X mz_sh 198 0 [some (.int a1), some (.int 4)] m (fun m1 => mz_inb a1 4 = true ∧ narrow .char (.int ((((([101, 108, 115, 101] : List Int32).getD a1.toNatClampNeg 0) &&& 255).toUInt32 % 65536).toInt32)) = .int ((((([101, 108, 115, 101] : List Int32).getD a1.toNatClampNeg 0) &&& 255).toUInt32 % 65536).toInt32) ∧ Q ((((([101, 108, 115, 101] : List Int32).getD a1.toNatClampNeg 0) &&& 255).toUInt32 % 65536).toInt32) m1)) :
    mz_gi X mz_sh 199 0 [some (.ref 332), some (.int a1)] m Q := by
  refine mz_go_blk mz_m199 3 (pc' := 3) (L' := [some (.ref 332), some (.int a1)]) (S' := [.int 4, .int a1]) (sh' := mz_sh) (m' := m) (g := true) rfl rfl (rfl) ?_
  refine mz_go_call mz_m199 mz_m198 rfl rfl rfl rfl rfl rfl rfl h (fun v sh1 m1 hv => ?_)
  obtain ⟨rfl, rfl, h2⟩ := hv
  obtain ⟨g3, h4⟩ := h2
  refine mz_go_blk mz_m199 6 (pc' := 14) (L' := [some (.ref 332), some (.int a1)]) (S' := [.int ((((([101, 108, 115, 101] : List Int32).getD a1.toNatClampNeg 0) &&& 255).toUInt32 % 65536).toInt32)]) (sh' := mz_sh) (m' := m1) (g := mz_inb a1 4 && true) rfl rfl (mz_and2 (g3) (rfl)) ?_
  exact mz_go_ret mz_m199 rfl rfl (mz_rtchar h4.1) ⟨_, rfl, rfl, h4.2⟩
set_option maxRecDepth 100000 in
theorem t_J_charAt2_0 {X : mz_X} {m : mz_M} {Q : Int32 → mz_M → Prop} (a1 : Int32)
    (h : mz_gi X mz_sh 197 0 [some (.ref 312)] m (fun r3 m1 => ((r3 = 0 → False) ∧ (¬ (r3 = 0) → mz_gi X mz_sh 199 0 [some (.ref 332), some (.int a1)] m1 (fun r9 m7 => narrow .char (.int r9) = .int r9 ∧ Q r9 m7))))) :
    mz_gi X mz_sh 193 0 [some (.ref 312), some (.int a1)] m Q := by
  refine mz_go_blk mz_m193 1 (pc' := 1) (L' := [some (.ref 312), some (.int a1)]) (S' := [.ref 312]) (sh' := mz_sh) (m' := m) (g := true) rfl rfl (rfl) ?_
  refine mz_go_call mz_m193 mz_m197 rfl rfl rfl rfl rfl rfl rfl h (fun v sh1 m1 hv => ?_)
  obtain ⟨r3, rfl, rfl, h2⟩ := hv
  refine mz_go_blk mz_m193 1 (pc' := (if r3 = 0 then 16 else 7)) (L' := [some (.ref 312), some (.int a1)]) (S' := []) (sh' := mz_sh) (m' := m1) (g := true) rfl rfl (rfl) ?_
  refine mz_go_if (fun c4 => ?_) (fun c4 => ?_)
  · have h5 := h2.1 c4
    exact h5.elim
  · have h6 := h2.2 c4
    refine mz_go_blk mz_m193 3 (pc' := 12) (L' := [some (.ref 312), some (.int a1)]) (S' := [.int a1, .ref 332]) (sh' := mz_sh) (m' := m1) (g := true) rfl rfl (rfl) ?_
    refine mz_go_call mz_m193 mz_m199 rfl rfl rfl rfl rfl rfl rfl h6 (fun v sh1 m7 hv => ?_)
    obtain ⟨r9, rfl, rfl, h8⟩ := hv
    exact mz_go_ret mz_m193 rfl rfl (mz_rtchar h8.1) ⟨_, rfl, rfl, h8.2⟩
set_option maxRecDepth 100000 in
theorem t_J_lcharAt3_0 {X : mz_X} {m : mz_M} {Q : Int32 → mz_M → Prop} (a1 : Int32)
    (h : mz_gv X mz_sh 198 0 [some (.int a1), some (.int 5)] m (fun m1 => mz_inb a1 5 = true ∧ narrow .char (.int ((((([119, 104, 105, 108, 101] : List Int32).getD a1.toNatClampNeg 0) &&& 255).toUInt32 % 65536).toInt32)) = .int ((((([119, 104, 105, 108, 101] : List Int32).getD a1.toNatClampNeg 0) &&& 255).toUInt32 % 65536).toInt32) ∧ Q ((((([119, 104, 105, 108, 101] : List Int32).getD a1.toNatClampNeg 0) &&& 255).toUInt32 % 65536).toInt32) m1)) :
    mz_gi X mz_sh 199 0 [some (.ref 333), some (.int a1)] m Q := by
  refine mz_go_blk mz_m199 3 (pc' := 3) (L' := [some (.ref 333), some (.int a1)]) (S' := [.int 5, .int a1]) (sh' := mz_sh) (m' := m) (g := true) rfl rfl (rfl) ?_
  refine mz_go_call mz_m199 mz_m198 rfl rfl rfl rfl rfl rfl rfl h (fun v sh1 m1 hv => ?_)
  obtain ⟨rfl, rfl, h2⟩ := hv
  obtain ⟨g3, h4⟩ := h2
  refine mz_go_blk mz_m199 6 (pc' := 14) (L' := [some (.ref 333), some (.int a1)]) (S' := [.int ((((([119, 104, 105, 108, 101] : List Int32).getD a1.toNatClampNeg 0) &&& 255).toUInt32 % 65536).toInt32)]) (sh' := mz_sh) (m' := m1) (g := mz_inb a1 5 && true) rfl rfl (mz_and2 (g3) (rfl)) ?_
  exact mz_go_ret mz_m199 rfl rfl (mz_rtchar h4.1) ⟨_, rfl, rfl, h4.2⟩
set_option maxRecDepth 100000 in
theorem t_J_charAt3_0 {X : mz_X} {m : mz_M} {Q : Int32 → mz_M → Prop} (a1 : Int32)
    (h : mz_gi X mz_sh 197 0 [some (.ref 313)] m (fun r3 m1 => ((r3 = 0 → False) ∧ (¬ (r3 = 0) → mz_gi X mz_sh 199 0 [some (.ref 333), some (.int a1)] m1 (fun r9 m7 => narrow .char (.int r9) = .int r9 ∧ Q r9 m7))))) :
    mz_gi X mz_sh 193 0 [some (.ref 313), some (.int a1)] m Q := by
  refine mz_go_blk mz_m193 1 (pc' := 1) (L' := [some (.ref 313), some (.int a1)]) (S' := [.ref 313]) (sh' := mz_sh) (m' := m) (g := true) rfl rfl (rfl) ?_
  refine mz_go_call mz_m193 mz_m197 rfl rfl rfl rfl rfl rfl rfl h (fun v sh1 m1 hv => ?_)
  obtain ⟨r3, rfl, rfl, h2⟩ := hv
  refine mz_go_blk mz_m193 1 (pc' := (if r3 = 0 then 16 else 7)) (L' := [some (.ref 313), some (.int a1)]) (S' := []) (sh' := mz_sh) (m' := m1) (g := true) rfl rfl (rfl) ?_
  refine mz_go_if (fun c4 => ?_) (fun c4 => ?_)
  · have h5 := h2.1 c4
    exact h5.elim
  · have h6 := h2.2 c4
    refine mz_go_blk mz_m193 3 (pc' := 12) (L' := [some (.ref 313), some (.int a1)]) (S' := [.int a1, .ref 333]) (sh' := mz_sh) (m' := m1) (g := true) rfl rfl (rfl) ?_
    refine mz_go_call mz_m193 mz_m199 rfl rfl rfl rfl rfl rfl rfl h6 (fun v sh1 m7 hv => ?_)
    obtain ⟨r9, rfl, rfl, h8⟩ := hv
    exact mz_go_ret mz_m193 rfl rfl (mz_rtchar h8.1) ⟨_, rfl, rfl, h8.2⟩
set_option maxRecDepth 100000 in
theorem t_J_lcharAt4_0 {X : mz_X} {m : mz_M} {Q : Int32 → mz_M → Prop} (a1 : Int32)
    (h : mz_gv X mz_sh 198 0 [some (.int a1), some (.int 5)] m (fun m1 => mz_inb a1 5 = true ∧ narrow .char (.int ((((([98, 114, 101, 97, 107] : List Int32).getD a1.toNatClampNeg 0) &&& 255).toUInt32 % 65536).toInt32)) = .int ((((([98, 114, 101, 97, 107] : List Int32).getD a1.toNatClampNeg 0) &&& 255).toUInt32 % 65536).toInt32) ∧ Q ((((([98, 114, 101, 97, 107] : List Int32).getD a1.toNatClampNeg 0) &&& 255).toUInt32 % 65536).toInt32) m1)) :
    mz_gi X mz_sh 199 0 [some (.ref 334), some (.int a1)] m Q := by
  refine mz_go_blk mz_m199 3 (pc' := 3) (L' := [some (.ref 334), some (.int a1)]) (S' := [.int 5, .int a1]) (sh' := mz_sh) (m' := m) (g := true) rfl rfl (rfl) ?_
  refine mz_go_call mz_m199 mz_m198 rfl rfl rfl rfl rfl rfl rfl h (fun v sh1 m1 hv => ?_)
  obtain ⟨rfl, rfl, h2⟩ := hv
  obtain ⟨g3, h4⟩ := h2
  refine mz_go_blk mz_m199 6 (pc' := 14) (L' := [some (.ref 334), some (.int a1)]) (S' := [.int ((((([98, 114, 101, 97, 107] : List Int32).getD a1.toNatClampNeg 0) &&& 255).toUInt32 % 65536).toInt32)]) (sh' := mz_sh) (m' := m1) (g := mz_inb a1 5 && true) rfl rfl (mz_and2 (g3) (rfl)) ?_
  exact mz_go_ret mz_m199 rfl rfl (mz_rtchar h4.1) ⟨_, rfl, rfl, h4.2⟩
set_option maxRecDepth 100000 in
theorem t_J_charAt4_0 {X : mz_X} {m : mz_M} {Q : Int32 → mz_M → Prop} (a1 : Int32)
    (h : mz_gi X mz_sh 197 0 [some (.ref 314)] m (fun r3 m1 => ((r3 = 0 → False) ∧ (¬ (r3 = 0) → mz_gi X mz_sh 199 0 [some (.ref 334), some (.int a1)] m1 (fun r9 m7 => narrow .char (.int r9) = .int r9 ∧ Q r9 m7))))) :
    mz_gi X mz_sh 193 0 [some (.ref 314), some (.int a1)] m Q := by
  refine mz_go_blk mz_m193 1 (pc' := 1) (L' := [some (.ref 314), some (.int a1)]) (S' := [.ref 314]) (sh' := mz_sh) (m' := m) (g := true) rfl rfl (rfl) ?_
  refine mz_go_call mz_m193 mz_m197 rfl rfl rfl rfl rfl rfl rfl h (fun v sh1 m1 hv => ?_)
  obtain ⟨r3, rfl, rfl, h2⟩ := hv
  refine mz_go_blk mz_m193 1 (pc' := (if r3 = 0 then 16 else 7)) (L' := [some (.ref 314), some (.int a1)]) (S' := []) (sh' := mz_sh) (m' := m1) (g := true) rfl rfl (rfl) ?_
  refine mz_go_if (fun c4 => ?_) (fun c4 => ?_)
  · have h5 := h2.1 c4
    exact h5.elim
  · have h6 := h2.2 c4
    refine mz_go_blk mz_m193 3 (pc' := 12) (L' := [some (.ref 314), some (.int a1)]) (S' := [.int a1, .ref 334]) (sh' := mz_sh) (m' := m1) (g := true) rfl rfl (rfl) ?_
    refine mz_go_call mz_m193 mz_m199 rfl rfl rfl rfl rfl rfl rfl h6 (fun v sh1 m7 hv => ?_)
    obtain ⟨r9, rfl, rfl, h8⟩ := hv
    exact mz_go_ret mz_m193 rfl rfl (mz_rtchar h8.1) ⟨_, rfl, rfl, h8.2⟩
set_option maxRecDepth 100000 in
theorem t_J_lcharAt5_0 {X : mz_X} {m : mz_M} {Q : Int32 → mz_M → Prop} (a1 : Int32)
    (h : mz_gv X mz_sh 198 0 [some (.int a1), some (.int 4)] m (fun m1 => mz_inb a1 4 = true ∧ narrow .char (.int ((((([110, 101, 120, 116] : List Int32).getD a1.toNatClampNeg 0) &&& 255).toUInt32 % 65536).toInt32)) = .int ((((([110, 101, 120, 116] : List Int32).getD a1.toNatClampNeg 0) &&& 255).toUInt32 % 65536).toInt32) ∧ Q ((((([110, 101, 120, 116] : List Int32).getD a1.toNatClampNeg 0) &&& 255).toUInt32 % 65536).toInt32) m1)) :
    mz_gi X mz_sh 199 0 [some (.ref 335), some (.int a1)] m Q := by
  refine mz_go_blk mz_m199 3 (pc' := 3) (L' := [some (.ref 335), some (.int a1)]) (S' := [.int 4, .int a1]) (sh' := mz_sh) (m' := m) (g := true) rfl rfl (rfl) ?_
  refine mz_go_call mz_m199 mz_m198 rfl rfl rfl rfl rfl rfl rfl h (fun v sh1 m1 hv => ?_)
  obtain ⟨rfl, rfl, h2⟩ := hv
  obtain ⟨g3, h4⟩ := h2
  refine mz_go_blk mz_m199 6 (pc' := 14) (L' := [some (.ref 335), some (.int a1)]) (S' := [.int ((((([110, 101, 120, 116] : List Int32).getD a1.toNatClampNeg 0) &&& 255).toUInt32 % 65536).toInt32)]) (sh' := mz_sh) (m' := m1) (g := mz_inb a1 4 && true) rfl rfl (mz_and2 (g3) (rfl)) ?_
  exact mz_go_ret mz_m199 rfl rfl (mz_rtchar h4.1) ⟨_, rfl, rfl, h4.2⟩
set_option maxRecDepth 100000 in
theorem t_J_charAt5_0 {X : mz_X} {m : mz_M} {Q : Int32 → mz_M → Prop} (a1 : Int32)
    (h : mz_gi X mz_sh 197 0 [some (.ref 315)] m (fun r3 m1 => ((r3 = 0 → False) ∧ (¬ (r3 = 0) → mz_gi X mz_sh 199 0 [some (.ref 335), some (.int a1)] m1 (fun r9 m7 => narrow .char (.int r9) = .int r9 ∧ Q r9 m7))))) :
    mz_gi X mz_sh 193 0 [some (.ref 315), some (.int a1)] m Q := by
  refine mz_go_blk mz_m193 1 (pc' := 1) (L' := [some (.ref 315), some (.int a1)]) (S' := [.ref 315]) (sh' := mz_sh) (m' := m) (g := true) rfl rfl (rfl) ?_
  refine mz_go_call mz_m193 mz_m197 rfl rfl rfl rfl rfl rfl rfl h (fun v sh1 m1 hv => ?_)
  obtain ⟨r3, rfl, rfl, h2⟩ := hv
  refine mz_go_blk mz_m193 1 (pc' := (if r3 = 0 then 16 else 7)) (L' := [some (.ref 315), some (.int a1)]) (S' := []) (sh' := mz_sh) (m' := m1) (g := true) rfl rfl (rfl) ?_
  refine mz_go_if (fun c4 => ?_) (fun c4 => ?_)
  · have h5 := h2.1 c4
    exact h5.elim
  · have h6 := h2.2 c4
    refine mz_go_blk mz_m193 3 (pc' := 12) (L' := [some (.ref 315), some (.int a1)]) (S' := [.int a1, .ref 335]) (sh' := mz_sh) (m' := m1) (g := true) rfl rfl (rfl) ?_
    refine mz_go_call mz_m193 mz_m199 rfl rfl rfl rfl rfl rfl rfl h6 (fun v sh1 m7 hv => ?_)
    obtain ⟨r9, rfl, rfl, h8⟩ := hv
    exact mz_go_ret mz_m193 rfl rfl (mz_rtchar h8.1) ⟨_, rfl, rfl, h8.2⟩
set_option maxRecDepth 100000 in
theorem t_J_lindexC6_0 {X : mz_X} {m : mz_M} {Q : Int32 → mz_M → Prop} (a1 : Int32) (a2 : Int32) (a3 : Int32)
    (h : mz_gi X mz_sh 202 7 [some (.ref 336), none, none, some (.int a3), some (.int a1.toInt8.toInt32), some (.int a2)] m Q) :
    mz_gi X mz_sh 202 0 [some (.ref 336), some (.int a1), some (.int a2), some (.int a3), none, none] m Q := by
  refine mz_go_blk mz_m202 5 (pc' := 7) (L' := [some (.ref 336), some (.int a1), some (.int a2), some (.int a3), some (.int a1.toInt8.toInt32), some (.int a2)]) (S' := []) (sh' := mz_sh) (m' := m) (g := true) rfl rfl (rfl) ?_
  exact mz_go.forget (L := [some (.ref 336), none, none, some (.int a3), some (.int a1.toInt8.toInt32), some (.int a2)]) (mz_lel_cons rfl (mz_lel_cons trivial (mz_lel_cons trivial (mz_lel_cons rfl (mz_lel_cons rfl (mz_lel_cons rfl (mz_lel_nil))))))) h
set_option maxRecDepth 100000 in
theorem t_J_lindexC6_1 {X : mz_X} {m : mz_M} {Q : Int32 → mz_M → Prop} (l3 : Int32) (l4 : Int32) (l5 : Int32)
    (h : ((l3 ≤ l5 → Q (-1) m) ∧ (¬ (l3 ≤ l5) → mz_inb l5 3 = true ∧ (((([124, 38, 61] : List Int32).getD l5.toNatClampNeg 0) = l4 → Q l5 m) ∧ (¬ ((([124, 38, 61] : List Int32).getD l5.toNatClampNeg 0) = l4) → mz_gi X mz_sh 202 7 [some (.ref 336), none, none, some (.int l3), some (.int l4), some (.int (l5 + 1))] m Q))))) :
    mz_gi X mz_sh 202 7 [some (.ref 336), none, none, some (.int l3), some (.int l4), some (.int l5)] m Q := by
  refine mz_go_blk mz_m202 3 (pc' := (if l3 ≤ l5 then 31 else 13)) (L' := [some (.ref 336), none, none, some (.int l3), some (.int l4), some (.int l5)]) (S' := []) (sh' := mz_sh) (m' := m) (g := true) rfl rfl (rfl) ?_
  refine mz_go_if (fun c1 => ?_) (fun c1 => ?_)
  · have h2 := h.1 c1
    refine mz_go_blk mz_m202 1 (pc' := 32) (L' := [some (.ref 336), none, none, some (.int l3), some (.int l4), some (.int l5)]) (S' := [.int (-1)]) (sh' := mz_sh) (m' := m) (g := true) rfl rfl (rfl) ?_
    exact mz_go_ret mz_m202 rfl rfl rfl ⟨_, rfl, rfl, h2⟩
  · have h3 := h.2 c1
    obtain ⟨g4, h5⟩ := h3
    refine mz_go_blk mz_m202 5 (pc' := (if (([124, 38, 61] : List Int32).getD l5.toNatClampNeg 0) = l4 then 22 else 25)) (L' := [some (.ref 336), none, none, some (.int l3), some (.int l4), some (.int l5)]) (S' := []) (sh' := mz_sh) (m' := m) (g := mz_inb l5 3 && true) rfl rfl (mz_and2 (g4) (rfl)) ?_
    refine mz_go_if (fun c6 => ?_) (fun c6 => ?_)
    · have h7 := h5.1 c6
      refine mz_go_blk mz_m202 1 (pc' := 24) (L' := [some (.ref 336), none, none, some (.int l3), some (.int l4), some (.int l5)]) (S' := [.int l5]) (sh' := mz_sh) (m' := m) (g := true) rfl rfl (rfl) ?_
      exact mz_go_ret mz_m202 rfl rfl rfl ⟨_, rfl, rfl, h7⟩
    · have h8 := h5.2 c6
      refine mz_go_blk mz_m202 2 (pc' := 7) (L' := [some (.ref 336), none, none, some (.int l3), some (.int l4), some (.int (l5 + 1))]) (S' := []) (sh' := mz_sh) (m' := m) (g := true) rfl rfl (rfl) ?_
      exact h8
set_option maxRecDepth 100000 in
theorem t_J_lindex6_0 {X : mz_X} {m : mz_M} {Q : Int32 → mz_M → Prop} (a1 : Int32) (a2 : Int32) (a3 : Int32)
    (h : mz_gi X mz_sh 200 0 [some (.int a1)] m (fun r3 m1 => ((r3 = 0 → Q (-1) m1) ∧ (¬ (r3 = 0) → (((if a2 < 0 then 0 else a2) < (if 3 < a3 then 3 else a3) → mz_gi X mz_sh 202 0 [some (.ref 336), some (.int a1), some (.int (if a2 < 0 then 0 else a2)), some (.int (if 3 < a3 then 3 else a3)), none, none] m1 (fun r11 m9 => Q r11 m9)) ∧ (¬ ((if a2 < 0 then 0 else a2) < (if 3 < a3 then 3 else a3)) → Q (-1) m1)))))) :
    mz_gi X mz_sh 201 0 [some (.ref 336), some (.int a1), some (.int a2), some (.int a3)] m Q := by
  refine mz_go_blk mz_m201 1 (pc' := 1) (L' := [some (.ref 336), some (.int a1), some (.int a2), some (.int a3)]) (S' := [.int a1]) (sh' := mz_sh) (m' := m) (g := true) rfl rfl (rfl) ?_
  refine mz_go_call mz_m201 mz_m200 rfl rfl rfl rfl rfl rfl rfl h (fun v sh1 m1 hv => ?_)
  obtain ⟨r3, rfl, rfl, h2⟩ := hv
  refine mz_go_blk mz_m201 1 (pc' := (if r3 = 0 then 7 else 9)) (L' := [some (.ref 336), some (.int a1), some (.int a2), some (.int a3)]) (S' := []) (sh' := mz_sh) (m' := m1) (g := true) rfl rfl (rfl) ?_
  refine mz_go_if (fun c4 => ?_) (fun c4 => ?_)
  · have h5 := h2.1 c4
    refine mz_go_blk mz_m201 1 (pc' := 8) (L' := [some (.ref 336), some (.int a1), some (.int a2), some (.int a3)]) (S' := [.int (-1)]) (sh' := mz_sh) (m' := m1) (g := true) rfl rfl (rfl) ?_
    exact mz_go_ret mz_m201 rfl rfl rfl ⟨_, rfl, rfl, h5⟩
  · have h6 := h2.2 c4
    refine mz_go_blk mz_m201 12 (pc' := (if (if a2 < 0 then 0 else a2) < (if 3 < a3 then 3 else a3) then 29 else 27)) (L' := [some (.ref 336), some (.int a1), some (.int (if a2 < 0 then 0 else a2)), some (.int (if 3 < a3 then 3 else a3))]) (S' := []) (sh' := mz_sh) (m' := m1) (g := true) rfl rfl (rfl) ?_
    refine mz_go_if (fun c7 => ?_) (fun c7 => ?_)
    · have h8 := h6.1 c7
      refine mz_go_blk mz_m201 4 (pc' := 33) (L' := [some (.ref 336), some (.int a1), some (.int (if a2 < 0 then 0 else a2)), some (.int (if 3 < a3 then 3 else a3))]) (S' := [.int (if 3 < a3 then 3 else a3), .int (if a2 < 0 then 0 else a2), .int a1, .ref 336]) (sh' := mz_sh) (m' := m1) (g := true) rfl rfl (rfl) ?_
      refine mz_go_call mz_m201 mz_m202 rfl rfl rfl rfl rfl rfl rfl h8 (fun v sh1 m9 hv => ?_)
      obtain ⟨r11, rfl, rfl, h10⟩ := hv
      exact mz_go_ret mz_m201 rfl rfl rfl ⟨_, rfl, rfl, h10⟩
    · have h12 := h6.2 c7
      refine mz_go_blk mz_m201 1 (pc' := 28) (L' := [some (.ref 336), some (.int a1), some (.int (if a2 < 0 then 0 else a2)), some (.int (if 3 < a3 then 3 else a3))]) (S' := [.int (-1)]) (sh' := mz_sh) (m' := m1) (g := true) rfl rfl (rfl) ?_
      exact mz_go_ret mz_m201 rfl rfl rfl ⟨_, rfl, rfl, h12⟩
set_option maxRecDepth 100000 in
theorem t_J_index26_0 {X : mz_X} {m : mz_M} {Q : Int32 → mz_M → Prop} (a1 : Int32) (a2 : Int32)
    (h : mz_gi X mz_sh 197 0 [some (.ref 316)] m (fun r3 m1 => ((r3 = 0 → mz_gi X mz_sh 192 0 [some (.ref 316)] m1 (fun r8 m6 => False)) ∧ (¬ (r3 = 0) → mz_gi X mz_sh 192 0 [some (.ref 316)] m1 (fun r12 m10 => mz_gi X mz_sh 201 0 [some (.ref 336), some (.int a1), some (.int a2), some (.int r12)] m10 (fun r15 m13 => Q r15 m13)))))) :
    mz_gi X mz_sh 195 0 [some (.ref 316), some (.int a1), some (.int a2)] m Q := by
  refine mz_go_blk mz_m195 1 (pc' := 1) (L' := [some (.ref 316), some (.int a1), some (.int a2)]) (S' := [.ref 316]) (sh' := mz_sh) (m' := m) (g := true) rfl rfl (rfl) ?_
  refine mz_go_call mz_m195 mz_m197 rfl rfl rfl rfl rfl rfl rfl h (fun v sh1 m1 hv => ?_)
  obtain ⟨r3, rfl, rfl, h2⟩ := hv
  refine mz_go_blk mz_m195 1 (pc' := (if r3 = 0 then 23 else 7)) (L' := [some (.ref 316), some (.int a1), some (.int a2)]) (S' := []) (sh' := mz_sh) (m' := m1) (g := true) rfl rfl (rfl) ?_
  refine mz_go_if (fun c4 => ?_) (fun c4 => ?_)
  · have h5 := h2.1 c4
    refine mz_go_blk mz_m195 5 (pc' := 30) (L' := [some (.ref 316), some (.int a1), some (.int a2)]) (S' := [.ref 316, .int a2, .int a1, .ref 336]) (sh' := mz_sh) (m' := m1) (g := true) rfl rfl (rfl) ?_
    refine mz_go_call mz_m195 mz_m192 rfl rfl rfl rfl rfl rfl rfl h5 (fun v sh1 m6 hv => ?_)
    obtain ⟨r8, rfl, rfl, h7⟩ := hv
    exact h7.elim
  · have h9 := h2.2 c4
    refine mz_go_blk mz_m195 5 (pc' := 14) (L' := [some (.ref 316), some (.int a1), some (.int a2)]) (S' := [.ref 316, .int a2, .int a1, .ref 336]) (sh' := mz_sh) (m' := m1) (g := true) rfl rfl (rfl) ?_
    refine mz_go_call mz_m195 mz_m192 rfl rfl rfl rfl rfl rfl rfl h9 (fun v sh1 m10 hv => ?_)
    obtain ⟨r12, rfl, rfl, h11⟩ := hv
    refine mz_go_call mz_m195 mz_m201 rfl rfl rfl rfl rfl rfl rfl h11 (fun v sh1 m13 hv => ?_)
    obtain ⟨r15, rfl, rfl, h14⟩ := hv
    refine mz_go_blk mz_m195 1 (pc' := 36) (L' := [some (.ref 316), some (.int a1), some (.int a2)]) (S' := [.int r15]) (sh' := mz_sh) (m' := m13) (g := true) rfl rfl (rfl) ?_
    exact mz_go_ret mz_m195 rfl rfl rfl ⟨_, rfl, rfl, h14⟩
set_option maxRecDepth 100000 in
theorem t_J_index6_0 {X : mz_X} {m : mz_M} {Q : Int32 → mz_M → Prop} (a1 : Int32)
    (h : mz_gi X mz_sh 195 0 [some (.ref 316), some (.int a1), some (.int 0)] m (fun r3 m1 => Q r3 m1)) :
    mz_gi X mz_sh 194 0 [some (.ref 316), some (.int a1)] m Q := by
  refine mz_go_blk mz_m194 3 (pc' := 3) (L' := [some (.ref 316), some (.int a1)]) (S' := [.int 0, .int a1, .ref 316]) (sh' := mz_sh) (m' := m) (g := true) rfl rfl (rfl) ?_
  refine mz_go_call mz_m194 mz_m195 rfl rfl rfl rfl rfl rfl rfl h (fun v sh1 m1 hv => ?_)
  obtain ⟨r3, rfl, rfl, h2⟩ := hv
  exact mz_go_ret mz_m194 rfl rfl rfl ⟨_, rfl, rfl, h2⟩
set_option maxRecDepth 100000 in
theorem t_J_lindexC7_0 {X : mz_X} {m : mz_M} {Q : Int32 → mz_M → Prop} (a1 : Int32) (a2 : Int32) (a3 : Int32)
    (h : mz_gi X mz_sh 202 7 [some (.ref 337), none, none, some (.int a3), some (.int a1.toInt8.toInt32), some (.int a2)] m Q) :
    mz_gi X mz_sh 202 0 [some (.ref 337), some (.int a1), some (.int a2), some (.int a3), none, none] m Q := by
  refine mz_go_blk mz_m202 5 (pc' := 7) (L' := [some (.ref 337), some (.int a1), some (.int a2), some (.int a3), some (.int a1.toInt8.toInt32), some (.int a2)]) (S' := []) (sh' := mz_sh) (m' := m) (g := true) rfl rfl (rfl) ?_
  exact mz_go.forget (L := [some (.ref 337), none, none, some (.int a3), some (.int a1.toInt8.toInt32), some (.int a2)]) (mz_lel_cons rfl (mz_lel_cons trivial (mz_lel_cons trivial (mz_lel_cons rfl (mz_lel_cons rfl (mz_lel_cons rfl (mz_lel_nil))))))) h
set_option maxRecDepth 100000 in
theorem t_J_lindexC7_1 {X : mz_X} {m : mz_M} {Q : Int32 → mz_M → Prop} (l3 : Int32) (l4 : Int32) (l5 : Int32)
    (h : ((l3 ≤ l5 → Q (-1) m) ∧ (¬ (l3 ≤ l5) → mz_inb l5 13 = true ∧ (((([60, 43, 45, 42, 47, 37, 33, 61, 59, 40, 41, 123, 125] : List Int32).getD l5.toNatClampNeg 0) = l4 → Q l5 m) ∧ (¬ ((([60, 43, 45, 42, 47, 37, 33, 61, 59, 40, 41, 123, 125] : List Int32).getD l5.toNatClampNeg 0) = l4) → mz_gi X mz_sh 202 7 [some (.ref 337), none, none, some (.int l3), some (.int l4), some (.int (l5 + 1))] m Q))))) :
    mz_gi X mz_sh 202 7 [some (.ref 337), none, none, some (.int l3), some (.int l4), some (.int l5)] m Q := by
  refine mz_go_blk mz_m202 3 (pc' := (if l3 ≤ l5 then 31 else 13)) (L' := [some (.ref 337), none, none, some (.int l3), some (.int l4), some (.int l5)]) (S' := []) (sh' := mz_sh) (m' := m) (g := true) rfl rfl (rfl) ?_
  refine mz_go_if (fun c1 => ?_) (fun c1 => ?_)
  · have h2 := h.1 c1
    refine mz_go_blk mz_m202 1 (pc' := 32) (L' := [some (.ref 337), none, none, some (.int l3), some (.int l4), some (.int l5)]) (S' := [.int (-1)]) (sh' := mz_sh) (m' := m) (g := true) rfl rfl (rfl) ?_
    exact mz_go_ret mz_m202 rfl rfl rfl ⟨_, rfl, rfl, h2⟩
  · have h3 := h.2 c1
    obtain ⟨g4, h5⟩ := h3
    refine mz_go_blk mz_m202 5 (pc' := (if (([60, 43, 45, 42, 47, 37, 33, 61, 59, 40, 41, 123, 125] : List Int32).getD l5.toNatClampNeg 0) = l4 then 22 else 25)) (L' := [some (.ref 337), none, none, some (.int l3), some (.int l4), some (.int l5)]) (S' := []) (sh' := mz_sh) (m' := m) (g := mz_inb l5 13 && true) rfl rfl (mz_and2 (g4) (rfl)) ?_
    refine mz_go_if (fun c6 => ?_) (fun c6 => ?_)
    · have h7 := h5.1 c6
      refine mz_go_blk mz_m202 1 (pc' := 24) (L' := [some (.ref 337), none, none, some (.int l3), some (.int l4), some (.int l5)]) (S' := [.int l5]) (sh' := mz_sh) (m' := m) (g := true) rfl rfl (rfl) ?_
      exact mz_go_ret mz_m202 rfl rfl rfl ⟨_, rfl, rfl, h7⟩
    · have h8 := h5.2 c6
      refine mz_go_blk mz_m202 2 (pc' := 7) (L' := [some (.ref 337), none, none, some (.int l3), some (.int l4), some (.int (l5 + 1))]) (S' := []) (sh' := mz_sh) (m' := m) (g := true) rfl rfl (rfl) ?_
      exact h8
set_option maxRecDepth 100000 in
theorem t_J_lindex7_0 {X : mz_X} {m : mz_M} {Q : Int32 → mz_M → Prop} (a1 : Int32) (a2 : Int32) (a3 : Int32)
    (h : mz_gi X mz_sh 200 0 [some (.int a1)] m (fun r3 m1 => ((r3 = 0 → Q (-1) m1) ∧ (¬ (r3 = 0) → (((if a2 < 0 then 0 else a2) < (if 13 < a3 then 13 else a3) → mz_gi X mz_sh 202 0 [some (.ref 337), some (.int a1), some (.int (if a2 < 0 then 0 else a2)), some (.int (if 13 < a3 then 13 else a3)), none, none] m1 (fun r11 m9 => Q r11 m9)) ∧ (¬ ((if a2 < 0 then 0 else a2) < (if 13 < a3 then 13 else a3)) → Q (-1) m1)))))) :
    mz_gi X mz_sh 201 0 [some (.ref 337), some (.int a1), some (.int a2), some (.int a3)] m Q := by
  refine mz_go_blk mz_m201 1 (pc' := 1) (L' := [some (.ref 337), some (.int a1), some (.int a2), some (.int a3)]) (S' := [.int a1]) (sh' := mz_sh) (m' := m) (g := true) rfl rfl (rfl) ?_
  refine mz_go_call mz_m201 mz_m200 rfl rfl rfl rfl rfl rfl rfl h (fun v sh1 m1 hv => ?_)
  obtain ⟨r3, rfl, rfl, h2⟩ := hv
  refine mz_go_blk mz_m201 1 (pc' := (if r3 = 0 then 7 else 9)) (L' := [some (.ref 337), some (.int a1), some (.int a2), some (.int a3)]) (S' := []) (sh' := mz_sh) (m' := m1) (g := true) rfl rfl (rfl) ?_
  refine mz_go_if (fun c4 => ?_) (fun c4 => ?_)
  · have h5 := h2.1 c4
    refine mz_go_blk mz_m201 1 (pc' := 8) (L' := [some (.ref 337), some (.int a1), some (.int a2), some (.int a3)]) (S' := [.int (-1)]) (sh' := mz_sh) (m' := m1) (g := true) rfl rfl (rfl) ?_
    exact mz_go_ret mz_m201 rfl rfl rfl ⟨_, rfl, rfl, h5⟩
  · have h6 := h2.2 c4
    refine mz_go_blk mz_m201 12 (pc' := (if (if a2 < 0 then 0 else a2) < (if 13 < a3 then 13 else a3) then 29 else 27)) (L' := [some (.ref 337), some (.int a1), some (.int (if a2 < 0 then 0 else a2)), some (.int (if 13 < a3 then 13 else a3))]) (S' := []) (sh' := mz_sh) (m' := m1) (g := true) rfl rfl (rfl) ?_
    refine mz_go_if (fun c7 => ?_) (fun c7 => ?_)
    · have h8 := h6.1 c7
      refine mz_go_blk mz_m201 4 (pc' := 33) (L' := [some (.ref 337), some (.int a1), some (.int (if a2 < 0 then 0 else a2)), some (.int (if 13 < a3 then 13 else a3))]) (S' := [.int (if 13 < a3 then 13 else a3), .int (if a2 < 0 then 0 else a2), .int a1, .ref 337]) (sh' := mz_sh) (m' := m1) (g := true) rfl rfl (rfl) ?_
      refine mz_go_call mz_m201 mz_m202 rfl rfl rfl rfl rfl rfl rfl h8 (fun v sh1 m9 hv => ?_)
      obtain ⟨r11, rfl, rfl, h10⟩ := hv
      exact mz_go_ret mz_m201 rfl rfl rfl ⟨_, rfl, rfl, h10⟩
    · have h12 := h6.2 c7
      refine mz_go_blk mz_m201 1 (pc' := 28) (L' := [some (.ref 337), some (.int a1), some (.int (if a2 < 0 then 0 else a2)), some (.int (if 13 < a3 then 13 else a3))]) (S' := [.int (-1)]) (sh' := mz_sh) (m' := m1) (g := true) rfl rfl (rfl) ?_
      exact mz_go_ret mz_m201 rfl rfl rfl ⟨_, rfl, rfl, h12⟩
set_option maxRecDepth 100000 in
theorem t_J_index27_0 {X : mz_X} {m : mz_M} {Q : Int32 → mz_M → Prop} (a1 : Int32) (a2 : Int32)
    (h : mz_gi X mz_sh 197 0 [some (.ref 317)] m (fun r3 m1 => ((r3 = 0 → mz_gi X mz_sh 192 0 [some (.ref 317)] m1 (fun r8 m6 => False)) ∧ (¬ (r3 = 0) → mz_gi X mz_sh 192 0 [some (.ref 317)] m1 (fun r12 m10 => mz_gi X mz_sh 201 0 [some (.ref 337), some (.int a1), some (.int a2), some (.int r12)] m10 (fun r15 m13 => Q r15 m13)))))) :
    mz_gi X mz_sh 195 0 [some (.ref 317), some (.int a1), some (.int a2)] m Q := by
  refine mz_go_blk mz_m195 1 (pc' := 1) (L' := [some (.ref 317), some (.int a1), some (.int a2)]) (S' := [.ref 317]) (sh' := mz_sh) (m' := m) (g := true) rfl rfl (rfl) ?_
  refine mz_go_call mz_m195 mz_m197 rfl rfl rfl rfl rfl rfl rfl h (fun v sh1 m1 hv => ?_)
  obtain ⟨r3, rfl, rfl, h2⟩ := hv
  refine mz_go_blk mz_m195 1 (pc' := (if r3 = 0 then 23 else 7)) (L' := [some (.ref 317), some (.int a1), some (.int a2)]) (S' := []) (sh' := mz_sh) (m' := m1) (g := true) rfl rfl (rfl) ?_
  refine mz_go_if (fun c4 => ?_) (fun c4 => ?_)
  · have h5 := h2.1 c4
    refine mz_go_blk mz_m195 5 (pc' := 30) (L' := [some (.ref 317), some (.int a1), some (.int a2)]) (S' := [.ref 317, .int a2, .int a1, .ref 337]) (sh' := mz_sh) (m' := m1) (g := true) rfl rfl (rfl) ?_
    refine mz_go_call mz_m195 mz_m192 rfl rfl rfl rfl rfl rfl rfl h5 (fun v sh1 m6 hv => ?_)
    obtain ⟨r8, rfl, rfl, h7⟩ := hv
    exact h7.elim
  · have h9 := h2.2 c4
    refine mz_go_blk mz_m195 5 (pc' := 14) (L' := [some (.ref 317), some (.int a1), some (.int a2)]) (S' := [.ref 317, .int a2, .int a1, .ref 337]) (sh' := mz_sh) (m' := m1) (g := true) rfl rfl (rfl) ?_
    refine mz_go_call mz_m195 mz_m192 rfl rfl rfl rfl rfl rfl rfl h9 (fun v sh1 m10 hv => ?_)
    obtain ⟨r12, rfl, rfl, h11⟩ := hv
    refine mz_go_call mz_m195 mz_m201 rfl rfl rfl rfl rfl rfl rfl h11 (fun v sh1 m13 hv => ?_)
    obtain ⟨r15, rfl, rfl, h14⟩ := hv
    refine mz_go_blk mz_m195 1 (pc' := 36) (L' := [some (.ref 317), some (.int a1), some (.int a2)]) (S' := [.int r15]) (sh' := mz_sh) (m' := m13) (g := true) rfl rfl (rfl) ?_
    exact mz_go_ret mz_m195 rfl rfl rfl ⟨_, rfl, rfl, h14⟩
set_option maxRecDepth 100000 in
theorem t_J_index7_0 {X : mz_X} {m : mz_M} {Q : Int32 → mz_M → Prop} (a1 : Int32)
    (h : mz_gi X mz_sh 195 0 [some (.ref 317), some (.int a1), some (.int 0)] m (fun r3 m1 => Q r3 m1)) :
    mz_gi X mz_sh 194 0 [some (.ref 317), some (.int a1)] m Q := by
  refine mz_go_blk mz_m194 3 (pc' := 3) (L' := [some (.ref 317), some (.int a1)]) (S' := [.int 0, .int a1, .ref 317]) (sh' := mz_sh) (m' := m) (g := true) rfl rfl (rfl) ?_
  refine mz_go_call mz_m194 mz_m195 rfl rfl rfl rfl rfl rfl rfl h (fun v sh1 m1 hv => ?_)
  obtain ⟨r3, rfl, rfl, h2⟩ := hv
  exact mz_go_ret mz_m194 rfl rfl rfl ⟨_, rfl, rfl, h2⟩
set_option maxRecDepth 100000 in
theorem t_J_fill_0 {X : mz_X} {m : mz_M} {Q : mz_M → Prop} (a1 : Int32)
    (h : mz_gv X mz_sh 203 5 [some (.ref 46), some (.int a1), some (.int 0), some (.int 32)] m Q) :
    mz_gv X mz_sh 203 0 [some (.ref 46), some (.int a1), none, none] m Q := by
  refine mz_go_blk mz_m203 5 (pc' := 5) (L' := [some (.ref 46), some (.int a1), some (.int 0), some (.int 32)]) (S' := []) (sh' := mz_sh) (m' := m) (g := true) rfl rfl (rfl) ?_
  exact h
set_option maxRecDepth 100000 in
theorem t_J_fill_1 {X : mz_X} {m : mz_M} {Q : mz_M → Prop} (l1 : Int32) (l2 : Int32) (l3 : Int32)
    (h : ((l3 ≤ l2 → Q m) ∧ (¬ (l3 ≤ l2) → mz_inb l2 32 = true ∧ mz_gv X mz_sh 203 5 [some (.ref 46), some (.int l1), some (.int (l2 + 1)), some (.int l3)] (mz_up m 46 l2.toNatClampNeg l1) Q))) :
    mz_gv X mz_sh 203 5 [some (.ref 46), some (.int l1), some (.int l2), some (.int l3)] m Q := by
  refine mz_go_blk mz_m203 3 (pc' := (if l3 ≤ l2 then 20 else 10)) (L' := [some (.ref 46), some (.int l1), some (.int l2), some (.int l3)]) (S' := []) (sh' := mz_sh) (m' := m) (g := true) rfl rfl (rfl) ?_
  refine mz_go_if (fun c1 => ?_) (fun c1 => ?_)
  · have h2 := h.1 c1
    exact mz_go_ret mz_m203 rfl rfl rfl ⟨rfl, rfl, h2⟩
  · have h3 := h.2 c1
    obtain ⟨g4, h5⟩ := h3
    refine mz_go_blk mz_m203 6 (pc' := 5) (L' := [some (.ref 46), some (.int l1), some (.int (l2 + 1)), some (.int l3)]) (S' := []) (sh' := mz_sh) (m' := mz_up m 46 l2.toNatClampNeg l1) (g := mz_inb l2 32 && true) rfl rfl (mz_and2 (g4) (rfl)) ?_
    exact h5
