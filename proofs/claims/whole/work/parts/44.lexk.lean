/-! lex -/
theorem k_lex {X : mz_X} {m : mz_M} {R : Int32 → Int32 → mz_M → Prop} (h : z_rel m) (hR : ∀ r m', z_rel m' → R r r m') : mz_gi X mz_sh 102 0 [some (.ref 0), none] m (fun r m1 => mz_gi X mz_sh 144 0 [some (.ref 55), none] m1 (fun r' m2 => R r r' m2)) := by
  have h0 := h
  obtain ⟨g1, ⟨n, n1, n2, n3, n4, n5⟩, g3, g4, g5, g6, g7, g8⟩ := h0
  obtain ⟨q1, q2, q3, q4, q5, q6, q7, q8, q9, q10, q11⟩ := g3
  refine t_A_lex_0 (s_A_forgetTokens (t_R_forget_0 ?_))
  generalize hma : mz_up (mz_up (mz_up (mz_up m 2 6 0) 0 6 0) 0 8 0) 47 0 0 = ma
  have b1 : ∀ q, q ∉ [0, 2, 47] → ma q = m q := fun q hq => by
    simp only [List.mem_cons, List.not_mem_nil, or_false, not_or] at hq
    obtain ⟨p0, p1, p2⟩ := hq
    rw [← hma, mz_up_n _ _ _ p2, mz_up_n _ _ _ p0, mz_up_n _ _ _ p0, mz_up_n _ _ _ p1]
  have b0 : ∀ j, ma 0 j = upd (upd (m 0) 6 0) 8 0 j := fun j => by
    rw [← hma, mz_up_n _ _ _ (by decide), mz_up_k, mz_up_k, mz_up_n _ _ _ (by decide)]
  have b2 : ∀ j, ma 2 j = upd (m 2) 6 0 j := fun j => by
    rw [← hma, mz_up_n _ _ _ (by decide), mz_up_n _ _ _ (by decide), mz_up_n _ _ _ (by decide), mz_up_k]
  have b47 : ∀ j, ma 47 j = upd (m 47) 0 0 j := fun j => by
    rw [← hma, mz_up_k, mz_up_n _ _ _ (by decide), mz_up_n _ _ _ (by decide), mz_up_n _ _ _ (by decide)]
  have hl : ma 0 1 = nI n := by rw [b0]; exact n2
  rw [hl]
  refine t_K_read_0 _ ?_
  generalize hmb : mz_up (mz_up (mz_up ma 2 10 (nI n)) 2 4 0) 2 5 0 = mb
  have c1 : ∀ q, q ≠ 2 → mb q = ma q := fun q hq => by rw [← hmb, mz_up_n _ _ _ hq, mz_up_n _ _ _ hq, mz_up_n _ _ _ hq]
  have c2 : ∀ j, mb 2 j = upd (upd (upd (ma 2) 10 (nI n)) 4 0) 5 0 j := fun j => by rw [← hmb, mz_up_k, mz_up_k, mz_up_k]
  have hlen : mb 2 10 = nI n := by rw [c2]; rfl
  have ht : mb 1 = m 1 := by rw [c1 1 (by decide), b1 1 (by decide)]
  refine s_K_behindBlanks (i := 0) n1 hlen (Nat.zero_le _) ?_
  rw [ht, Nat.sub_zero]
  have hge := z_sk_ge (m 1) n false 0
  have hs0 : z_sok n (0, 0, m 3, m 4, m 5, m 6, m 7, m 8) (z_sk (m 1) false n 0) := ⟨Nat.zero_le _, by omega, Nat.zero_le _, fun s hs => by cases hs⟩
  have hRA : z_RA mb (0, 0, m 3, m 4, m 5, m 6, m 7, m 8) := ⟨by rw [c2]; rfl, by rw [c2]; rfl, by rw [c1 3 (by decide), b1 3 (by decide)], by rw [c1 4 (by decide), b1 4 (by decide)], by rw [c1 5 (by decide), b1 5 (by decide)], by rw [c1 6 (by decide), b1 6 (by decide)], by rw [c1 7 (by decide), b1 7 (by decide)], by rw [c1 8 (by decide), b1 8 (by decide)]⟩
  have htg0 : z_tgS (0, 0, m 3, m 4, m 5, m 6, m 7, m 8) (z_sk (m 1) false n 0) := ⟨fun _ => 0, fun _ => 0, fun _ => 0, Nat.zero_le _, fun j hj => by cases hj⟩
  refine s_K_read1 n1 n5 (n + 1) (z_sk (m 1) false n 0) _ mb (by omega) hs0 hlen ht hRA (fun s' m1 w1 w2 w3 w4 => ⟨fun _ => ?_, fun h9 => absurd rfl h9⟩) (fun s' p m1 w1 w2 w3 => ⟨fun h9 => ?_, fun _ => ?_⟩)
  · have d1 : ∀ q, q ∉ [0, 2, 3, 4, 5, 6, 7, 8, 47] → m1 q = m q := fun q hq => by
      simp only [List.mem_cons, List.not_mem_nil, or_false, not_or] at hq
      obtain ⟨p0, p1, p2, p3, p4, p5, p6, p7, p8⟩ := hq
      rw [w3.1 q (by simp only [List.mem_cons, List.not_mem_nil, or_false, not_or]; exact ⟨p1, p2, p3, p4, p5, p6, p7⟩), c1 q p1, b1 q (by simp only [List.mem_cons, List.not_mem_nil, or_false, not_or]; exact ⟨p0, p1, p8⟩)]
    refine t_M_lex_0 (t_M_forgetTokens_0 ?_)
    generalize hmc : mz_up (mz_up (mz_up (mz_up (mz_up (mz_up m1 55 13 0) 55 34 0) 55 44 0) 55 56 0) 55 18 0) 55 21 0 = mc
    have e1 : ∀ q, q ≠ 55 → mc q = m1 q := fun q hq => by rw [← hmc, mz_up_n _ _ _ hq, mz_up_n _ _ _ hq, mz_up_n _ _ _ hq, mz_up_n _ _ _ hq, mz_up_n _ _ _ hq, mz_up_n _ _ _ hq]
    have e2 : ∀ j, mc 55 j = upd (upd (upd (upd (upd (upd (m 55) 13 0) 34 0) 44 0) 56 0) 18 0) 21 0 j := fun j => by rw [← hmc, mz_up_k, mz_up_k, mz_up_k, mz_up_k, mz_up_k, mz_up_k, d1 55 (by decide)]
    have hlenM : mc 55 12 = nI n := by rw [e2]; exact n3
    have htM : mc 66 = m 1 := by rw [e1 66 (by decide), d1 66 (by decide), n4]
    refine s_M_skip (i := 0) n1 hlenM (Nat.zero_le _) ?_
    rw [htM, Nat.sub_zero]
    have hRB : z_RB mc (0, 0, m 3, m 4, m 5, m 6, m 7, m 8) := ⟨by rw [e2]; rfl, by rw [e2]; rfl, by rw [e1 67 (by decide), d1 67 (by decide), q3], by rw [e1 68 (by decide), d1 68 (by decide), q4], by rw [e1 69 (by decide), d1 69 (by decide), q5], by rw [e1 70 (by decide), d1 70 (by decide), q6], by rw [e1 71 (by decide), d1 71 (by decide), q7], by rw [e1 72 (by decide), d1 72 (by decide), q8]⟩
    refine s_M_lex1 n1 n5 (n + 1) (z_sk (m 1) false n 0) _ mc (by omega) hs0 hlenM htM hRB (fun s2 m2 v1 v2 v3 v4 => ?_) (fun s2 p m2 v1 v2 v3 => ?_)
    · rw [w1] at v1
      cases v1
      have k1 : ∀ q, q ∉ [0, 2, 3, 4, 5, 6, 7, 8, 47, 55, 67, 68, 69, 70, 71, 72] → m2 q = m q := fun q hq => by
        simp only [List.mem_cons, List.not_mem_nil, or_false, not_or] at hq
        obtain ⟨p0, p1, p2, p3, p4, p5, p6, p7, p8, p9, p10, p11, p12, p13, p14, p15⟩ := hq
        rw [v3.1 q (by simp only [List.mem_cons, List.not_mem_nil, or_false, not_or]; exact ⟨p9, p10, p11, p12, p13, p14, p15⟩), e1 q p9, d1 q (by simp only [List.mem_cons, List.not_mem_nil, or_false, not_or]; exact ⟨p0, p1, p2, p3, p4, p5, p6, p7, p8⟩)]
      have k2 : ∀ q, q ∈ [0, 2, 3, 4, 5, 6, 7, 8, 47] → m2 q = m1 q := fun q hq => by
        rw [v3.1 q (by simp only [List.mem_cons, List.not_mem_nil, or_false] at hq ⊢; omega), e1 q (by simp only [List.mem_cons, List.not_mem_nil, or_false] at hq; omega)]
      have k3 : ∀ j, j ≠ 13 → j ≠ 18 → j ≠ 21 → m2 55 j = upd (upd (upd (upd (upd (upd (m 55) 13 0) 34 0) 44 0) 56 0) 18 0) 21 0 j := fun j j1 j2 j3 => by rw [v3.2 j j1 j2 j3, e2]
      have hRA2 : z_RA m2 (z_fin n s') := by
        obtain ⟨z1, z2, z3, z4, z5, z6, z7, z8⟩ := w2
        exact ⟨by rw [k2 2 (by decide)]; exact z1, by rw [k2 2 (by decide)]; exact z2, by rw [k2 3 (by decide)]; exact z3, by rw [k2 4 (by decide)]; exact z4, by rw [k2 5 (by decide)]; exact z5, by rw [k2 6 (by decide)]; exact z6, by rw [k2 7 (by decide)]; exact z7, by rw [k2 8 (by decide)]; exact z8⟩
      have hans : m1 2 4 = nI s'.1 := w2.1
      rw [hans]
      obtain ⟨t1, t2, t3⟩ := z_tgS_lexr _ _ _ _ (by omega) hs0 htg0 w1
      have h0c : ∀ j, m2 0 j = upd (upd (m 0) 6 0) 8 0 j := fun j => by rw [k2 0 (by decide), w3.1 0 (by decide), c1 0 (by decide), b0]
      have h47c : ∀ j, m2 47 j = upd (m 47) 0 0 j := fun j => by rw [k2 47 (by decide), w3.1 47 (by decide), c1 47 (by decide), b47]
      refine hR _ _ (z_rel_no h (fun q hq => k1 q ?_) (by rw [k3 26 (by decide) (by decide) (by decide)]; rfl) ⟨n, n1, by rw [h0c]; exact n2, by rw [k3 12 (by decide) (by decide) (by decide)]; exact n3, by rw [k1 1 (by decide), k1 66 (by decide), n4], by rw [k1 1 (by decide)]; exact n5⟩ ?_ ?_ ?_ (by rw [h0c]; rfl) (by rw [h0c]; rfl) (by rw [k3 34 (by decide) (by decide) (by decide)]; rfl) (by rw [k3 44 (by decide) (by decide) (by decide)]; rfl))
      · simp only [List.mem_cons, List.not_mem_nil, or_false] at hq ⊢
        omega
      · have h26 : m2 2 6 = 1 := by rw [k2 2 (by decide)]; exact w4
        have hh := hRA2
        obtain ⟨z1, z2, z3, z4, z5, z6, z7, z8⟩ := hh
        obtain ⟨y1, y2, y3, y4, y5, y6, y7, y8⟩ := v2
        exact ⟨by rw [z1, y1], by rw [z2, y2], by rw [z3, y3], by rw [z4, y4], by rw [z5, y5], by rw [z6, y6], by rw [z7, y7], by rw [z8, y8], by rw [h26, v4], Or.inr h26, fun _ => z_tg_of n1 t1 t2 t3 hRA2⟩
      · unfold r_in at g5 ⊢
        rw [k1 46 (by decide), k1 96 (by decide)]; exact g5
      · obtain ⟨u1, u2, u3, u4, u5⟩ := g6
        refine ⟨by rw [h47c, k3 56 (by decide) (by decide) (by decide)]; rfl, Or.inl (by rw [h47c]; rfl), ?_, ?_, fun h9 => absurd h9 ?_⟩
        · rw [k1 48 (by decide), k1 99 (by decide)]; exact u3
        · rw [k1 49 (by decide), k1 97 (by decide)]; exact u4
        · rw [h47c]; simp [upd]
    · rw [w1] at v1
      cases v1
  · exfalso
    have hp : ∀ (k i : Nat) (s s' : z_LS), i ≤ n → n - i < k → z_sok n s i → z_lexr (m 1) n k i s = (s', some p) → p ≤ n := by
      intro k
      induction k with
      | zero => intro i s s' _ hk; omega
      | succ k ih =>
        intro i s s' hi hk ho hl
        simp only [z_lexr] at hl
        split at hl
        · rename_i hi2
          split at hl
          · cases hl; omega
          · rename_i s2 z hz
            obtain ⟨p1, p2, p3⟩ := z_tok_ok hi2 ho hz
            have hge := z_sk_ge (m 1) (n - (i + z)) false (i + z)
            exact ih _ s2 s' (by omega) (by omega) ⟨by have := p3.1; omega, by omega, p3.2.2⟩ hl
        · cases hl
    have := hp _ _ _ _ (by omega) (by omega) hs0 w1
    have h8 : ¬ nI p < 0 := nI_pos (by omega)
    rw [h9] at h8
    exact h8 (by decide)
  · have d1 : ∀ q, q ∉ [0, 2, 3, 4, 5, 6, 7, 8, 47] → m1 q = m q := fun q hq => by
      simp only [List.mem_cons, List.not_mem_nil, or_false, not_or] at hq
      obtain ⟨p0, p1, p2, p3, p4, p5, p6, p7, p8⟩ := hq
      rw [w3.1 q (by simp only [List.mem_cons, List.not_mem_nil, or_false, not_or]; exact ⟨p1, p2, p3, p4, p5, p6, p7⟩), c1 q p1, b1 q (by simp only [List.mem_cons, List.not_mem_nil, or_false, not_or]; exact ⟨p0, p1, p8⟩)]
    refine t_M_lex_0 (t_M_forgetTokens_0 ?_)
    generalize hmc : mz_up (mz_up (mz_up (mz_up (mz_up (mz_up m1 55 13 0) 55 34 0) 55 44 0) 55 56 0) 55 18 0) 55 21 0 = mc
    have e1 : ∀ q, q ≠ 55 → mc q = m1 q := fun q hq => by rw [← hmc, mz_up_n _ _ _ hq, mz_up_n _ _ _ hq, mz_up_n _ _ _ hq, mz_up_n _ _ _ hq, mz_up_n _ _ _ hq, mz_up_n _ _ _ hq]
    have e2 : ∀ j, mc 55 j = upd (upd (upd (upd (upd (upd (m 55) 13 0) 34 0) 44 0) 56 0) 18 0) 21 0 j := fun j => by rw [← hmc, mz_up_k, mz_up_k, mz_up_k, mz_up_k, mz_up_k, mz_up_k, d1 55 (by decide)]
    have hlenM : mc 55 12 = nI n := by rw [e2]; exact n3
    have htM : mc 66 = m 1 := by rw [e1 66 (by decide), d1 66 (by decide), n4]
    refine s_M_skip (i := 0) n1 hlenM (Nat.zero_le _) ?_
    rw [htM, Nat.sub_zero]
    have hRB : z_RB mc (0, 0, m 3, m 4, m 5, m 6, m 7, m 8) := ⟨by rw [e2]; rfl, by rw [e2]; rfl, by rw [e1 67 (by decide), d1 67 (by decide), q3], by rw [e1 68 (by decide), d1 68 (by decide), q4], by rw [e1 69 (by decide), d1 69 (by decide), q5], by rw [e1 70 (by decide), d1 70 (by decide), q6], by rw [e1 71 (by decide), d1 71 (by decide), q7], by rw [e1 72 (by decide), d1 72 (by decide), q8]⟩
    refine s_M_lex1 n1 n5 (n + 1) (z_sk (m 1) false n 0) _ mc (by omega) hs0 hlenM htM hRB (fun s2 m2 v1 v2 v3 v4 => ?_) (fun s2 p2 m2 v1 v2 v3 => ?_)
    · rw [w1] at v1
      cases v1
    · rw [w1] at v1
      cases v1
      have k1 : ∀ q, q ∉ [0, 2, 3, 4, 5, 6, 7, 8, 47, 55, 67, 68, 69, 70, 71, 72] → m2 q = m q := fun q hq => by
        simp only [List.mem_cons, List.not_mem_nil, or_false, not_or] at hq
        obtain ⟨p0, p1, p2, p3, p4, p5, p6, p7, p8, p9, p10, p11, p12, p13, p14, p15⟩ := hq
        rw [v3.1 q (by simp only [List.mem_cons, List.not_mem_nil, or_false, not_or]; exact ⟨p9, p10, p11, p12, p13, p14, p15⟩), e1 q p9, d1 q (by simp only [List.mem_cons, List.not_mem_nil, or_false, not_or]; exact ⟨p0, p1, p2, p3, p4, p5, p6, p7, p8⟩)]
      have k2 : ∀ q, q ∈ [0, 2, 3, 4, 5, 6, 7, 8, 47] → m2 q = m1 q := fun q hq => by
        rw [v3.1 q (by simp only [List.mem_cons, List.not_mem_nil, or_false] at hq ⊢; omega), e1 q (by simp only [List.mem_cons, List.not_mem_nil, or_false] at hq; omega)]
      have k3 : ∀ j, j ≠ 18 → j ≠ 21 → m2 55 j = upd (upd (upd (upd (upd (upd (m 55) 13 0) 34 0) 44 0) 56 0) 18 0) 21 0 j := fun j j2 j3 => by rw [v3.2 j j2 j3, e2]
      have h0c : ∀ j, m2 0 j = upd (upd (m 0) 6 0) 8 0 j := fun j => by rw [k2 0 (by decide), w3.1 0 (by decide), c1 0 (by decide), b0]
      have h47c : ∀ j, m2 47 j = upd (m 47) 0 0 j := fun j => by rw [k2 47 (by decide), w3.1 47 (by decide), c1 47 (by decide), b47]
      have h26 : m2 2 6 = 0 := by rw [k2 2 (by decide), w3.2 6 (by decide) (by decide), c2]; simp only [upd]; rw [b2]; rfl
      refine hR _ _ (z_rel_no h (fun q hq => k1 q ?_) (by rw [k3 26 (by decide) (by decide)]; rfl) ⟨n, n1, by rw [h0c]; exact n2, by rw [k3 12 (by decide) (by decide)]; exact n3, by rw [k1 1 (by decide), k1 66 (by decide), n4], by rw [k1 1 (by decide)]; exact n5⟩ ?_ ?_ ?_ (by rw [h0c]; rfl) (by rw [h0c]; rfl) (by rw [k3 34 (by decide) (by decide)]; rfl) (by rw [k3 44 (by decide) (by decide)]; rfl))
      · simp only [List.mem_cons, List.not_mem_nil, or_false] at hq ⊢
        omega
      · obtain ⟨z1, z2, z3, z4, z5, z6, z7, z8⟩ := w2
        obtain ⟨y1, y2, y3, y4, y5, y6, y7, y8⟩ := v2
        exact ⟨by rw [k2 2 (by decide), z1, y1], by rw [k2 2 (by decide), z2, y2], by rw [k2 3 (by decide), z3, y3], by rw [k2 4 (by decide), z4, y4], by rw [k2 5 (by decide), z5, y5], by rw [k2 6 (by decide), z6, y6], by rw [k2 7 (by decide), z7, y7], by rw [k2 8 (by decide), z8, y8], by rw [h26, k3 13 (by decide) (by decide)]; rfl, Or.inl h26, fun h9 => by rw [h26] at h9; exact absurd h9 (by decide)⟩
      · unfold r_in at g5 ⊢
        rw [k1 46 (by decide), k1 96 (by decide)]; exact g5
      · obtain ⟨u1, u2, u3, u4, u5⟩ := g6
        refine ⟨by rw [h47c, k3 56 (by decide) (by decide)]; rfl, Or.inl (by rw [h47c]; rfl), ?_, ?_, fun h9 => absurd h9 ?_⟩
        · rw [k1 48 (by decide), k1 99 (by decide)]; exact u3
        · rw [k1 49 (by decide), k1 97 (by decide)]; exact u4
        · rw [h47c]; simp [upd]
