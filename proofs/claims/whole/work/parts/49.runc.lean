/-! runCode -/
def z_var (m : mz_M) (o : Nat → Int32) : Nat → Int32 := fun j => if j < 32 then m 46 j else o j
theorem s_R_start {X : mz_X} {m : mz_M} {Q : mz_M → Prop} {F : Nat} (hQ : ∀ m', q_A m' F 0 (-1, 0, m 48, z_var m (m 49)) → m' 47 1 = -1 → z_fr [47, 49] m m' → Q m') : mz_gv X mz_sh 35 0 [some (.ref 47), some (.int (nI F)), some (.ref 46)] m Q := by
  refine t_R_start_0 _ (hQ _ ⟨?_, ?_, ?_, ?_, ?_, ?_, ?_⟩ ?_ (fun q hq => ?_))
  · simp [mz_cp, mz_up, upd]
  · simp [mz_cp, mz_up, upd]
  · simp [mz_cp, mz_up, upd, nI_0]
  · simp [mz_cp, mz_up, upd]
  · simp [mz_cp, mz_up, upd, nI_0]
  · simp [mz_cp, mz_up]
  · funext j
    simp [mz_cp, mz_up, z_var, va_cpy]
  · simp [mz_cp, mz_up, upd]
  · simp only [List.mem_cons, List.not_mem_nil, or_false, not_or] at hq
    simp [mz_cp, mz_up, hq]
theorem s_M_begin1 {X : mz_X} {Q : mz_M → Prop} : ∀ (k j : Nat) (m : mz_M), j + k = 32 → (∀ m', (∀ q, q ≠ 97 → m' q = m q) → (∀ i, m' 97 i = if j ≤ i ∧ i < 32 then m 96 i else m 97 i) → Q m') → mz_gv X mz_sh 172 32 [some (.ref 55), none, some (.int (nI j))] m Q := by
  intro k
  induction k with
  | zero =>
    intro j m hj h
    have : j = 32 := by omega
    subst this
    refine t_M_begin_1 _ ⟨fun _ => h m (fun _ _ => rfl) (fun i => ?_), fun h1 => absurd (by decide) h1⟩
    rw [if_neg (by omega)]
  | succ k ih =>
    intro j m hj h
    have hin : mz_inb (nI j) 32 = true := mz_inbN (by omega) (by decide)
    refine t_M_begin_1 _ ⟨fun h1 => absurd h1 (nI_ge (b := 32) (by omega) (by decide)), fun _ => ⟨hin, hin, ?_⟩⟩
    rw [nI_1, nI_clamp (by omega)]
    refine ih (j + 1) _ (by omega) (fun m' g1 g2 => h m' (fun q hq => ?_) (fun i => ?_))
    · rw [g1 q hq, mz_up_n _ _ _ hq]
    · rw [g2 i, mz_up_k, mz_up_n _ _ _ (by decide)]
      by_cases h1 : i = j
      · subst h1
        rw [if_neg (by omega), if_pos (by omega)]
        simp [upd]
      · by_cases h2 : j + 1 ≤ i ∧ i < 32
        · rw [if_pos h2, if_pos (by omega)]
        · rw [if_neg h2, if_neg (by omega)]
          simp [upd, h1]
theorem s_M_begin {X : mz_X} {m : mz_M} {Q : mz_M → Prop} {F : Nat} (hQ : ∀ m', q_M m' F 0 (-1, 0, m 99, (fun j => if j < 32 then m 96 j else m 97 j)) → p_M m' [] → z_fm [97] [55, 56, 58, 59, 60, 61] m m' → Q m') : mz_gv X mz_sh 172 0 [some (.ref 55), some (.int (nI F)), none] m Q := by
  refine t_M_begin_0 _ (s_M_begin1 32 0 _ rfl (fun m' g1 g2 => hQ m' ⟨?_, ?_, ?_, ?_, ?_, ?_, ?_⟩ ⟨?_, trivial⟩ ⟨fun q hq h5 => ?_, fun j hj => ?_⟩))
  · rw [g1 55 (by decide)]; simp [mz_up, upd]
  · rw [g1 55 (by decide)]; simp [mz_up, upd]
  · rw [g1 55 (by decide)]; simp [mz_up, upd, nI_0]
  · rw [g1 55 (by decide)]; simp [mz_up, upd]
  · rw [g1 55 (by decide)]; simp [mz_up, upd, nI_0]
  · rw [g1 99 (by decide)]; simp [mz_up]
  · funext i
    rw [g2 i]
    simp [mz_up]
  · rw [g1 55 (by decide)]; simp [mz_up, upd, nI_0]
  · simp only [List.mem_cons, List.not_mem_nil, or_false] at hq
    rw [g1 q hq]
    simp [mz_up, h5]
  · simp only [List.mem_cons, List.not_mem_nil, or_false, not_or] at hj
    rw [g1 55 (by decide)]
    simp [mz_up, upd, hj]
/-- a run touches neither text nor tokens nor tree nor code -/
theorem z_rel_run {m m' : mz_M} (h : z_rel m) (h1 : ∀ q, q ∉ [47, 48, 49, 50, 51, 52, 53, 54, 92, 93, 97, 98, 99] → q ≠ 55 → m' q = m q) (h2 : ∀ j, j ∉ [55, 56, 57, 58, 59, 60, 61] → m' 55 j = m 55 j) (hr : r_run m') : z_rel m' := by
  obtain ⟨g1, g2, g3, g4, g5, g6, g7, g8⟩ := h
  have hq : ∀ l : List Nat, l.all (fun q => decide (q ∉ [47, 48, 49, 50, 51, 52, 53, 54, 92, 93, 97, 98, 99]) && decide (q ≠ 55)) = true → ∀ q, q ∈ l → m' q = m q := fun l hl q hql => by
    have := List.all_eq_true.mp hl q hql
    simp only [Bool.and_eq_true, decide_eq_true_eq] at this
    exact h1 q this.1 this.2
  refine ⟨r_tab_fr (hq _ (by decide)) g1, ?_, ?_, ?_, ?_, hr, ?_, ?_⟩
  · unfold r_text at g2 ⊢
    rw [hq [0] (by decide) 0 (by decide), h2 12 (by decide), hq [1] (by decide) 1 (by decide), hq [66] (by decide) 66 (by decide)]
    exact g2
  · unfold r_tok at g3 ⊢
    rw [hq [2] (by decide) 2 (by decide), h2 18 (by decide), h2 21 (by decide), h2 13 (by decide), hq [3] (by decide) 3 (by decide), hq [4] (by decide) 4 (by decide), hq [5] (by decide) 5 (by decide), hq [6] (by decide) 6 (by decide), hq [7] (by decide) 7 (by decide), hq [8] (by decide) 8 (by decide), hq [67] (by decide) 67 (by decide), hq [68] (by decide) 68 (by decide), hq [69] (by decide) 69 (by decide), hq [70] (by decide) 70 (by decide), hq [71] (by decide) 71 (by decide), hq [72] (by decide) 72 (by decide)]
    obtain ⟨q1, q2, q3, q4, q5, q6, q7, q8, q9, q10, q11⟩ := g3
    exact ⟨q1, q2, q3, q4, q5, q6, q7, q8, q9, q10, fun h9 => z_tg_fr (hq _ (by decide)) (q11 h9)⟩
  · unfold r_red at g4 ⊢
    rw [hq [9] (by decide) 9 (by decide), h2 26 (by decide), hq [10] (by decide) 10 (by decide), hq [75] (by decide) 75 (by decide)]
    exact g4
  · unfold r_in at g5 ⊢
    rw [hq [46] (by decide) 46 (by decide), hq [96] (by decide) 96 (by decide)]
    exact g5
  · unfold r_tree at g7 ⊢
    rw [hq [0] (by decide) 0 (by decide), h2 34 (by decide), hq [2] (by decide) 2 (by decide)]
    exact ⟨g7.1, g7.2.1, fun h9 => ⟨(g7.2.2 h9).1, z_tree_fr (hq _ (by decide)) (h2 43 (by decide)) (g7.2.2 h9).2⟩⟩
  · unfold r_code at g8 ⊢
    rw [hq [0] (by decide) 0 (by decide), h2 44 (by decide)]
    exact ⟨g8.1, g8.2.1, fun h9 => z_code_fr (hq _ (by decide)) (h2 47 (by decide)) (g8.2.2 h9)⟩
theorem k_runCode {X : mz_X} {m : mz_M} {a1 : Int32} {R : Int32 → Int32 → mz_M → Prop} (h : z_rel m) (hR : ∀ r m', z_rel m' → R r r m') : mz_gi X mz_sh 112 0 [some (.ref 0), some (.int a1)] m (fun r m1 => mz_gi X mz_sh 188 0 [some (.ref 55), some (.int a1)] m1 (fun r' m2 => R r r' m2)) := by
  have h0 := h
  obtain ⟨g1, g2, g3, g4, g5, g6, g7, g8⟩ := h0
  refine t_A_runCode_0 _ ⟨fun a => t_M_runCode_0 _ ⟨fun _ => hR _ _ h, fun b => absurd a b⟩, fun a => ⟨fun b => ⟨fun c => t_M_runCode_0 _ ⟨fun d => absurd d a, fun _ => ⟨fun _ => ⟨fun _ => hR _ _ h, fun d => absurd (by rw [← g8.1]; exact c) d⟩, fun d => absurd b d⟩⟩, fun c => ?_⟩, fun b => t_M_runCode_0 _ ⟨fun d => absurd d a, fun _ => ⟨fun d => absurd d b, fun _ => hR _ _ h⟩⟩⟩⟩
  obtain ⟨F, hF, rfl⟩ := nI_of2 (n := 100000) (M := 100000) rfl a b
  have hcode := g8.2.2 (g8.2.1.resolve_left c)
  obtain ⟨W, op, va, dp, W1, W2, W3, W4, W5, W6⟩ := hcode
  refine s_R_start (F := F) (fun m1 q1 k1 f1 => t_G_go_0 ?_)
  have f2 : z_fr [47, 48, 49, 53, 54] m (mz_up m1 53 3 0) := (f1.wk (by decide)).up (by decide)
  refine s_G_go1 (op := op) (va := va) (dp := dp) W2 hF F 0 0 [] (-1, 0, m 48, z_var m (m 49)) _ (by omega) (by omega) (by rw [W5]; rfl) (Nat.le_refl _) (q_A_fr q1 ((z_fr.rf [53] _).up (by decide)) (by decide) (by decide) (by decide)) (by rw [mz_up_n _ _ _ (by decide)]; exact k1) ⟨by rw [mz_up_k]; simp [upd, nI_0], trivial⟩ (by rw [f2 41 (by decide)]; exact W3) (fun j hj => ?_) (fun m2 hh k' s' c1 c2 c3 c4 => ?_)
  · rw [f2 42 (by decide), f2 43 (by decide)]
    exact ⟨(W6 j hj).1, (W6 j hj).2.2.1, (W6 j hj).2.2.2.2⟩
  · have f3 : z_fr [47, 48, 49, 53, 54] m m2 := f2.tr c4
    refine t_M_runCode_0 _ ⟨fun d => absurd d a, fun _ => ⟨fun _ => ⟨fun d => absurd (by rw [f3 55 (by decide), ← g8.1] at d; exact d) c, fun _ => ?_⟩, fun d => absurd b d⟩⟩
    refine s_M_begin (F := F) (fun m3 q3 p3 f4 => t_M_goCode_0 ?_)
    have e48 : m 48 = m2 99 := by rw [f3 99 (by decide)]; exact g6.2.2.1
    have e49 : z_var m (m 49) = (fun j => if j < 32 then m2 96 j else m2 97 j) := by
      funext j
      unfold r_in at g5
      simp only [z_var]
      rw [f3 96 (by decide), f3 97 (by decide), g5, g6.2.2.2.1]
    refine s_M_goCode1 (op := op) (va := va) (dp := dp) W2 hF F 0 0 [] (-1, 0, m2 99, (fun j => if j < 32 then m2 96 j else m2 97 j)) _ (by omega) (by omega) (by rw [W5]; rfl) (Nat.le_refl _) q3 p3 (fun j hj => ?_) (fun m4 hh2 k2 s2 d1 d2 d3 => ?_)
    · rw [f4.1 90 (by decide) (by decide), f4.1 91 (by decide) (by decide), f3 90 (by decide), f3 91 (by decide)]
      exact ⟨(W6 j hj).2.1, (W6 j hj).2.2.2.1, (W6 j hj).2.2.2.2⟩
    · rw [e48, e49] at c1
      rw [c1] at d1
      cases d1
      rw [c3]
      have f5 : z_fm [97, 98, 99] [55, 56, 57, 58, 59, 60, 61] m2 (mz_up m4 55 57 hh) := ((f4.wk (by decide) (by decide)).tr (d3.wk (by decide) (by decide))).uf (by decide)
      have kA : ∀ q, q ∈ [47, 48, 49] → mz_up m4 55 57 hh q = m2 q := fun q hq => f5.1 q (by simp only [List.mem_cons, List.not_mem_nil, or_false] at hq ⊢; omega) (by simp only [List.mem_cons, List.not_mem_nil, or_false] at hq; omega)
      have kM : q_M (mz_up m4 55 57 hh) F (F - k') s' := q_M_fm d2 ((z_fm.rf [] [57] _).uf (by decide)) (by decide) (by decide) (by decide)
      refine hR _ _ (z_rel_run h (fun q hq h5 => ?_) (fun j hj => ?_) ?_)
      · rw [f5.1 q (by simp only [List.mem_cons, List.not_mem_nil, or_false, not_or] at hq ⊢; omega) h5, f3 q (by simp only [List.mem_cons, List.not_mem_nil, or_false, not_or] at hq ⊢; omega)]
      · rw [f5.2 j hj, f3 55 (by decide)]
      · obtain ⟨u0, u1, u2, u3, u4, u5, u6⟩ := c2
        obtain ⟨v0, v1, v2, v3, v4, v5, v6⟩ := kM
        refine ⟨by rw [kA 47 (by decide), u0, v0], Or.inr (by rw [kA 47 (by decide), u0]), by rw [kA 48 (by decide), u5, v5], by rw [kA 49 (by decide), u6, v6], fun _ => ⟨?_, ?_, ?_, ?_⟩⟩
        · rw [kA 47 (by decide), c3, mz_up_k]; simp [upd]
        · rw [kA 47 (by decide), u2, v2]
        · rw [kA 47 (by decide), u3, v3]
        · rw [kA 47 (by decide), u4, v4]
