/-! compile: both sides -/
theorem z_rel_com {m m' : mz_M} (h : z_rel m) (h1 : ∀ q, q ∉ [41, 42, 43, 44, 45, 90, 91, 92, 93, 94, 95] → q ≠ 0 → q ≠ 55 → m' q = m q) (h0 : ∀ j, j ≠ 8 → m' 0 j = m 0 j) (h2 : ∀ j, j ∉ [44, 47] → m' 55 j = m 55 j) (hr : r_code m') : z_rel m' := by
  obtain ⟨g1, g2, g3, g4, g5, g6, g7, g8⟩ := h
  have hq : ∀ l : List Nat, l.all (fun q => decide (q ∉ [41, 42, 43, 44, 45, 90, 91, 92, 93, 94, 95]) && (decide (q ≠ 0) && decide (q ≠ 55))) = true → ∀ q, q ∈ l → m' q = m q := fun l hl q hql => by
    have := List.all_eq_true.mp hl q hql
    simp only [Bool.and_eq_true, decide_eq_true_eq] at this
    exact h1 q this.1 this.2.1 this.2.2
  refine ⟨r_tab_fr (hq _ (by decide)) g1, ?_, ?_, ?_, ?_, ?_, ?_, hr⟩
  · unfold r_text at g2 ⊢
    rw [h0 1 (by decide), h2 12 (by decide), hq [1] (by decide) 1 (by decide), hq [66] (by decide) 66 (by decide)]
    exact g2
  · unfold r_tok at g3 ⊢
    rw [hq [2] (by decide) 2 (by decide), h2 18 (by decide), h2 21 (by decide), h2 13 (by decide), hq [3] (by decide) 3 (by decide), hq [4] (by decide) 4 (by decide), hq [5] (by decide) 5 (by decide), hq [6] (by decide) 6 (by decide), hq [7] (by decide) 7 (by decide), hq [8] (by decide) 8 (by decide), hq [67] (by decide) 67 (by decide), hq [68] (by decide) 68 (by decide), hq [69] (by decide) 69 (by decide), hq [70] (by decide) 70 (by decide), hq [71] (by decide) 71 (by decide), hq [72] (by decide) 72 (by decide)]
    obtain ⟨q1, q2, q3, q4, q5, q6, q7, q8, q9, q10, q11⟩ := g3
    exact ⟨q1, q2, q3, q4, q5, q6, q7, q8, q9, q10, fun h9 => z_tg_fr (hq _ (by decide)) (q11 h9)⟩
  · unfold r_red at g4 ⊢
    rw [hq [9] (by decide) 9 (by decide), h2 26 (by decide), hq [10] (by decide) 10 (by decide), hq [75] (by decide) 75 (by decide)]
    exact g4
  · unfold r_in at g5 ⊢
    rw [hq [46] (by decide) 46 (by decide), hq [96] (by decide) 96 (by decide)]
    exact g5
  · unfold r_run at g6 ⊢
    rw [hq [47] (by decide) 47 (by decide), hq [48] (by decide) 48 (by decide), hq [49] (by decide) 49 (by decide), hq [97] (by decide) 97 (by decide), hq [99] (by decide) 99 (by decide), h2 56 (by decide), h2 57 (by decide), h2 59 (by decide), h2 60 (by decide), h2 61 (by decide)]
    exact g6
  · unfold r_tree at g7 ⊢
    rw [h0 6 (by decide), h2 34 (by decide), hq [2] (by decide) 2 (by decide)]
    exact ⟨g7.1, g7.2.1, fun h9 => ⟨(g7.2.2 h9).1, z_tree_fr (hq _ (by decide)) (h2 43 (by decide)) (g7.2.2 h9).2⟩⟩
/-- what a known tree gives both compilers -/
theorem z_tree_hAM {m : mz_M} {N : Nat} {kd tk sz ht up lp : Nat → Nat} {ks : Nat → List Nat} (h1 : z_pre N kd sz ht up ks) (h2 : m 30 5 = nI N) (h4 : ∀ i, i < N → m 31 i = nI (kd i) ∧ m 82 i = nI (kd i) ∧ m 32 i = nI (tk i) ∧ m 83 i = nI (tk i) ∧ m 33 i = nI (ks i).length ∧ m 84 i = nI (ks i).length ∧ m 34 i = nI (ht i) ∧ m 85 i = nI (ht i) ∧ m 35 i = nI (sz i) ∧ tk i ≤ 4000 ∧ (kd i = 18 ∨ kd i = 1 → ∃ q, q < 32 ∧ m 6 (tk i) = nI q)) (h5 : z_links m N sz up ks) (h6 : z_paths m N kd sz lp ks) (h70 : m 6 = m 70) : z_hA m N kd tk sz lp ks ∧ z_hM m N kd tk sz up (fun i => m 6 (tk i)) ks ∧ z_lps N kd lp ks := by
  have hN := h1.2.1
  have kk : ∀ i, i < N → kd i ≤ 19 := fun i hi => by
    rcases z_cases h1 hi with ⟨k, _⟩ | ⟨k, e, _⟩ | ⟨k, l, e, _⟩ | ⟨k, l, l2, e, _⟩ | ⟨k, l, e, _⟩ | ⟨k, e⟩ | ⟨k, b, e, _⟩ | ⟨k, e⟩ <;> omega
  obtain ⟨p1, p2, p3, p4, p5, p6, p7⟩ := h6
  have hA : z_hA m N kd tk sz lp ks := by
    refine ⟨h2, hN, fun i hi => ?_⟩
    obtain ⟨c1, c2, c3, c4, c5, c6, c7, c8, c9, c10, c11⟩ := h4 i hi
    obtain ⟨s1, s2, s3, s4, s5, s6⟩ := h1.2.2.2.2.1 i hi
    refine ⟨c1, c3, c5, c9, kk i hi, c10, fun hk => ?_, s3, s2, s1⟩
    by_cases h0 : i = 0
    · subst h0
      have := h1.2.2.2.1
      omega
    · obtain ⟨u1, u2⟩ := h1.2.2.2.2.2.1 i (by omega) hi
      exact (p5 (up i) (by omega) (z_par h1 hi (by omega) (by omega)) i u2).2.1
  refine ⟨hA, ⟨hN, fun i hi => ?_, h5⟩, p3, fun i hi hk x hx => (p5 i hi hk x hx).1, p7⟩
  obtain ⟨c1, c2, c3, c4, c5, c6, c7, c8, c9, c10, c11⟩ := h4 i hi
  have hlen := hA.len hi
  have hs2 := (h1.2.2.2.2.1 i hi).2.1
  exact ⟨c2, c4, c10, by rw [← h70], c6, kk i hi, by omega⟩
theorem k_compile {X : mz_X} {m : mz_M} {R : Int32 → Int32 → mz_M → Prop} (h : z_rel m) (hR : ∀ r m', z_rel m' → R r r m') : mz_gi X mz_sh 108 0 [some (.ref 0)] m (fun r m1 => mz_gi X mz_sh 169 0 [some (.ref 55), none, none, none] m1 (fun r' m2 => R r r' m2)) := by
  have h0 := h
  obtain ⟨g1, g2, g3, g4, g5, g6, g7, g8⟩ := h0
  refine t_A_compile_0 ⟨fun a => t_M_compile_0 ⟨fun _ => hR _ _ h, fun b => absurd (g7.1 ▸ a) b⟩, fun a => ?_⟩
  obtain ⟨_, N, kd, tk, sz, ht, up, lp, ks, t1, t2, t3, t4, t5, t6⟩ := g7.2.2 (g7.2.1.resolve_left a)
  obtain ⟨hA, hM, hl⟩ := z_tree_hAM t1 t2 t4 t5 t6 g3.2.2.2.2.2.1
  obtain ⟨wc, st, bs, hc⟩ := z_cd_ex t1
  obtain ⟨f, hf, hf0⟩ := z_wl_f t1 hc lp (fun i => m 6 (tk i))
  have hw0 : wc 0 ≤ 8000 := by
    have q1 := z_wcs t1 hc N 0 (by omega) t1.1
    rw [Nat.zero_add, t1.2.2.1] at q1
    have q2 := t1.2.2.2.2.2.2
    simp only [z_sum] at q1
    omega
  have hst0 := hc.2.1
  have hb : ∀ x, x < N → st x + wc x ≤ 8000 := fun x hx => by
    have := z_nest t1 hc x 0 x (by omega) (by omega) (by omega) (by rw [t1.2.2.1]; omega)
    omega
  refine s_C_make (f := f) (tv := fun i => m 6 (tk i)) t1 hc hl hw0 hf hf0 hA (fun x hx => rfl) (fun m1 f1 w1 w2 => ?_)
  rw [w1]
  have f1' : ∀ q, q ∉ [41, 42, 43, 44, 45] → q ≠ 0 → mz_up m1 0 8 1 q = m q := fun q hq h0 => by rw [mz_up_n _ _ _ h0]; exact f1 q hq
  refine t_M_compile_0 ⟨fun b => absurd ?_ a, fun _ => ?_⟩
  · rw [f1' 55 (by decide) (by decide)] at b
    exact g7.1.trans b
  generalize hm2 : mz_up m1 0 8 1 = m2 at f1'
  have hM2 : z_hM m2 N kd tk sz up (fun i => m 6 (tk i)) ks := by
    unfold z_hM z_links at hM ⊢
    rw [f1' 82 (by decide) (by decide), f1' 83 (by decide) (by decide), f1' 70 (by decide) (by decide), f1' 84 (by decide) (by decide), f1' 86 (by decide) (by decide), f1' 87 (by decide) (by decide), f1' 88 (by decide) (by decide), f1' 89 (by decide) (by decide)]
    exact hM
  have c0 : z_ct m2 (mz_up (mz_up m2 55 47 0) 92 0 0) (st 0) (m2 90) (m2 91) (upd (m2 92) 0 0) (m2 93) (m2 94) (m2 95) := by
    refine ⟨((z_fr.rf _ _).up (by decide)).up (by decide), fun j hj => ?_, ?_, ?_, ?_, ?_, ?_, ?_, ?_⟩
    · rw [mz_up_n _ _ _ (by decide), mz_up_k]; simp [upd, hj]
    · rw [mz_up_n _ _ _ (by decide), mz_up_k, hst0]; simp [upd, nI_0]
    · rw [mz_up_n _ _ _ (by decide), mz_up_n _ _ _ (by decide)]
    · rw [mz_up_n _ _ _ (by decide), mz_up_n _ _ _ (by decide)]
    · rw [mz_up_k, mz_up_n _ _ _ (by decide)]
    · rw [mz_up_n _ _ _ (by decide), mz_up_n _ _ _ (by decide)]
    · rw [mz_up_n _ _ _ (by decide), mz_up_n _ _ _ (by decide)]
    · rw [mz_up_n _ _ _ (by decide), mz_up_n _ _ _ (by decide)]
  have hlp0 := hl.1
  refine s_M_CS (f := f) t1 hc hl hM2 hf hb N 0 (by omega) t1.1 (by rw [t1.2.2.2.1]; omega) _ _ _ _ _ _ _ _ [] c0 (by simp [upd]) (fun g => by omega) (fun m3 O3 V3 P3 C3 A3 B3 L2 h3 p3 l1 l2 l3 => ?_)
  have hL2 : L2 = [] := by
    cases L2 with
    | nil => rfl
    | cons p t => exact absurd (l1 p List.mem_cons_self).1 (by omega)
  subst hL2
  rw [(hM2.2.2 0 t1.1).2.2.2.2, if_pos rfl]
  refine t_M_compile_1 _ _ ⟨fun _ => s_M_emit h3 (by omega) (fun m4 h4 => ?_), fun g => absurd (by decide) g⟩
  have rt : z_rt f (st 0) (st 0 + wc 0 + 1) [] (upd O3 (st 0 + wc 0) (nI 16)) (upd V3 (st 0 + wc 0) 0) := p3.2.2.2.2.1.add (by rw [hst0, Nat.zero_add]; exact hf0)
  have e47 : m4 55 47 = nI (wc 0 + 1) := by rw [h4.2.2.1, hst0, Nat.zero_add]
  rw [e47]
  have fq : ∀ q, q ∉ [55, 90, 91, 92, 93, 94, 95] → mz_up m4 55 44 1 q = m2 q := fun q hq => by
    rw [mz_up_n _ _ _ (fun e => hq (by rw [e]; decide))]
    exact h4.1 q hq
  have f55 : ∀ j, j ∉ [44, 47] → mz_up m4 55 44 1 55 j = m2 55 j := fun j hj => by
    simp only [List.mem_cons, List.not_mem_nil, or_false, not_or] at hj
    rw [mz_up_k]
    simp only [upd, hj.1, if_false]
    exact h4.2.1 j hj.2
  refine hR _ _ (z_rel_com h (fun q hq q0 q55 => ?_) (fun j hj => ?_) (fun j hj => ?_) ⟨?_, ?_, fun _ => ?_⟩)
  · rw [fq q (fun e => by simp only [List.mem_cons, List.not_mem_nil, or_false, not_or] at hq e; omega)]
    exact f1' q (fun e => by simp only [List.mem_cons, List.not_mem_nil, or_false, not_or] at hq e; omega) q0
  · rw [fq 0 (by decide), ← hm2, mz_up_k]
    simp only [upd, hj, if_false]
    rw [f1 0 (by decide)]
  · rw [f55 j hj, f1' 55 (by decide) (by decide)]
  · rw [fq 0 (by decide), ← hm2, mz_up_k, mz_up_k]
    simp [upd]
  · rw [fq 0 (by decide), ← hm2, mz_up_k]
    simp [upd]
  · have k41 : ∀ q, q ∈ [41, 42, 43] → mz_up m4 55 44 1 q = m1 q := fun q hq => by
      simp only [List.mem_cons, List.not_mem_nil, or_false] at hq
      rw [fq q (fun e => by simp only [List.mem_cons, List.not_mem_nil, or_false] at e; omega), ← hm2, mz_up_n _ _ _ (by omega)]
    refine ⟨wc 0 + 1, fun p => (f p).1, fun p => (f p).2.1, fun p => (f p).2.2, by omega, by omega, ?_, ?_, ?_, fun q hq => ⟨?_, ?_, ?_, ?_, z_wdf t1 hc hf hf0 hl (fun i hi hk => (t4 i hi).2.2.2.2.2.2.2.2.2.2 hk) q hq⟩⟩
    · rw [k41 41 (by decide)]; exact w1
    · rw [mz_up_k]; simp only [upd]; exact e47
    · have := z_DS t1 hc hf hf0 N 0 (by omega) t1.1
      rw [hst0, hc.2.2.2.1] at this
      exact this
    · rw [k41 42 (by decide)]; exact (w2 q hq).1
    · rw [mz_up_n _ _ _ (by decide), h4.2.2.2.1]; exact (rt q (by omega) (by omega)).1
    · rw [k41 43 (by decide)]; exact (w2 q hq).2
    · rw [mz_up_n _ _ _ (by decide), h4.2.2.2.2.1]; exact (rt q (by omega) (by omega)).2 (by simp)
