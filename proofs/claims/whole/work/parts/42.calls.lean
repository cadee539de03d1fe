/-! feed, clear, lex -/
theorem s_A_forgetTokens {X : mz_X} {m : mz_M} {Q : mz_M → Prop} (h : Q (mz_up (mz_up (mz_up m 2 6 0) 0 6 0) 0 8 0)) : mz_gv X mz_sh 116 0 [some (.ref 0)] m Q := t_A_forgetTokens_0 (t_A_forgetTree_0 h)
theorem z_and255 (x : Int32) : ∃ b : Nat, b < 256 ∧ x &&& 255 = nI b := by
  refine ⟨(x &&& 255).toBitVec.toNat, ?_, ?_⟩
  · have h : (x &&& 255).toBitVec = x.toBitVec &&& 255#32 := rfl
    rw [h, BitVec.toNat_and]
    exact Nat.lt_of_le_of_lt Nat.and_le_right (by decide)
  · apply Int32.toBitVec_inj.mp
    show _ = BitVec.ofNat 32 _
    rw [BitVec.ofNat_toNat]
    simp
def z_by (l1 : Int64) (k : Nat) : Int32 := (((l1.toUInt64 >>> ((8 * nI k).toInt64.toUInt64 &&& Int64.toUInt64 63)).toInt64).toInt32) &&& 255
def z_fd (l1 : Int64) : Nat → Nat → (Nat → Int32) → (Nat → Int32)
  | 0, _, t => t
  | k + 1, n, t => z_fd l1 k (n + 1) (upd t n (z_by l1 k))
theorem z_fd_txt (l1 : Int64) : ∀ (k n : Nat) (t : Nat → Int32), z_txt t n → z_txt (z_fd l1 k n t) (n + k) := by
  intro k
  induction k with
  | zero => intro n t h; exact h
  | succ k ih =>
    intro n t h
    have := ih (n + 1) (upd t n (z_by l1 k)) (fun j hj => by
      by_cases h1 : j = n
      · subst h1
        obtain ⟨b, hb, e⟩ := z_and255 (((l1.toUInt64 >>> ((8 * nI k).toInt64.toUInt64 &&& Int64.toUInt64 63)).toInt64).toInt32)
        exact ⟨b, hb, by simp only [upd, if_true]; exact e⟩
      · obtain ⟨b, hb, e⟩ := h j (by omega)
        exact ⟨b, hb, by simp only [upd, h1, if_false]; exact e⟩)
    simp only [z_fd]
    rw [show n + (k + 1) = n + 1 + k by omega]
    exact this
theorem s_A_feed1 {X : mz_X} {Q : Int32 → mz_M → Prop} {l1 : Int64} : ∀ (k n : Nat) (m : mz_M), n + k ≤ 4000 → m 0 1 = nI n → (∀ m', (∀ q, q ≠ 0 → q ≠ 1 → m' q = m q) → m' 0 1 = nI (n + k) → m' 1 = z_fd l1 k n (m 1) → mz_gv X mz_sh 116 0 [some (.ref 0)] m' (fun m3 => Q (m3 0 1) m3)) → mz_gi X mz_sh 100 33 [some (.ref 0), some (.long l1), none, none, some (.int (nI k - 1))] m Q := by
  intro k
  induction k with
  | zero =>
    intro n m hn hm h
    exact t_A_feed_1 _ _ ⟨fun _ => h m (fun _ _ _ => rfl) hm rfl, fun h1 => absurd (by decide) h1⟩
  | succ k ih =>
    intro n m hn hm h
    rw [nI_pred]
    refine t_A_feed_1 _ _ ⟨fun h1 => absurd h1 (nI_pos (by omega)), fun _ => ⟨by rw [hm]; exact mz_inbN (by omega) (by decide), ?_⟩⟩
    rw [show nI k + (-1) = nI k - 1 from (Int32.sub_eq_add_neg _ _).symm]
    refine ih (n + 1) _ (by omega) (by rw [hm, nI_1]; simp [mz_up, upd]) (fun m' g1 g2 g3 => h m' (fun q q1 q2 => ?_) (by rw [g2]; congr 1; omega) ?_)
    · rw [g1 q q1 q2]
      simp [mz_up, q1, q2]
    · rw [g3, hm, nI_clamp (by omega)]
      simp only [z_fd]
      rw [mz_up_n _ _ _ (by decide), mz_up_k]
      rfl
theorem s_M_feed1 {X : mz_X} {Q : Int32 → mz_M → Prop} {l1 : Int64} : ∀ (k n : Nat) (m : mz_M), n + k ≤ 4000 → m 55 12 = nI n → (∀ m', (∀ q, q ≠ 55 → q ≠ 66 → m' q = m q) → (∀ j, j ≠ 12 → m' 55 j = m 55 j) → m' 55 12 = nI (n + k) → m' 66 = z_fd l1 k n (m 66) → mz_gv X mz_sh 131 0 [some (.ref 55)] m' (fun m3 => Q (m3 55 12) m3)) → mz_gi X mz_sh 132 33 [some (.ref 55), some (.long l1), none, none, some (.int (nI k - 1))] m Q := by
  intro k
  induction k with
  | zero =>
    intro n m hn hm h
    exact t_M_feed_1 _ _ ⟨fun _ => h m (fun _ _ _ => rfl) (fun _ _ => rfl) hm rfl, fun h1 => absurd (by decide) h1⟩
  | succ k ih =>
    intro n m hn hm h
    rw [nI_pred]
    refine t_M_feed_1 _ _ ⟨fun h1 => absurd h1 (nI_pos (by omega)), fun _ => ⟨by rw [hm]; exact mz_inbN (by omega) (by decide), ?_⟩⟩
    rw [show nI k + (-1) = nI k - 1 from (Int32.sub_eq_add_neg _ _).symm]
    refine ih (n + 1) _ (by omega) (by rw [hm, nI_1]; simp [mz_up, upd]) (fun m' g1 g4 g2 g3 => h m' (fun q q1 q2 => ?_) (fun j hj => ?_) (by rw [g2]; congr 1; omega) ?_)
    · rw [g1 q q1 q2]
      simp [mz_up, q1, q2]
    · rw [g4 j hj]
      simp [mz_up, upd, hj]
    · rw [g3, hm, nI_clamp (by omega)]
      simp only [z_fd]
      rw [mz_up_n _ _ _ (by decide), mz_up_k]
      rfl
/-- nothing is known of a tree or of code -/
theorem z_rel_no {m m' : mz_M} (h : z_rel m) (h1 : ∀ q, q ∈ [9, 10, 19, 21, 56, 57, 60, 61, 62, 65, 75] → m' q = m q) (h2 : m' 55 26 = m 55 26) (ht : r_text m') (hk : r_tok m') (hi : r_in m') (hr : r_run m') (h6 : m' 0 6 = 0) (h8 : m' 0 8 = 0) (h34 : m' 55 34 = 0) (h44 : m' 55 44 = 0) : z_rel m' := by
  obtain ⟨g1, g2, g3, g4, g5, g6, g7, g8⟩ := h
  refine ⟨r_tab_fr (fun q hq => h1 q (by simp only [List.mem_cons, List.not_mem_nil, or_false] at hq ⊢; omega)) g1, ht, hk, ?_, hi, hr, ⟨by rw [h6, h34], Or.inl h6, fun h9 => ?_⟩, ⟨by rw [h8, h44], Or.inl h8, fun h9 => ?_⟩⟩
  · unfold r_red at g4 ⊢
    rw [h1 9 (by decide), h1 10 (by decide), h1 75 (by decide), h2]
    exact g4
  · rw [h6] at h9; exact absurd h9 (by decide)
  · rw [h8] at h9; exact absurd h9 (by decide)
theorem k_feed {X : mz_X} {m : mz_M} {l1 : Int64} {a3 : Int32} {R : Int32 → Int32 → mz_M → Prop} (h : z_rel m) (hR : ∀ r m', z_rel m' → R r r m') : mz_gi X mz_sh 100 0 [some (.ref 0), some (.long l1), none, some (.int a3), none] m (fun r m1 => mz_gi X mz_sh 132 0 [some (.ref 55), some (.long l1), none, some (.int a3), none] m1 (fun r' m2 => R r r' m2)) := by
  have h0 := h
  obtain ⟨g1, ⟨n, n1, n2, n3, n4, n5⟩, g3, g4, g5, g6, g7, g8⟩ := h0
  have e12 : m 0 1 = m 55 12 := by rw [n2, n3]
  refine t_A_feed_0 _ _ ⟨fun q => t_M_feed_0 _ _ ⟨fun _ => hR _ _ h, fun q1 => absurd q q1⟩, fun q => ⟨fun q1 => ⟨fun q2 => ?_, fun q2 => t_M_feed_0 _ _ ⟨fun q3 => absurd q3 q, fun _ => ⟨fun _ => ⟨fun q3 => absurd (by rw [e12]; exact q3) q2, fun _ => hR _ _ h⟩, fun q3 => absurd q1 q3⟩⟩⟩, fun q1 => t_M_feed_0 _ _ ⟨fun q3 => absurd q3 q, fun _ => ⟨fun q3 => absurd q3 q1, fun _ => hR _ _ h⟩⟩⟩⟩
  obtain ⟨k, hk, rfl⟩ := nI_of2 (n := 8) (M := 8) rfl (fun hh => q (Int32.lt_trans hh (by decide))) q1
  have hnk : n + k ≤ 4000 := by
    rw [n2, nI_add] at q2
    exact (nI_leI (by omega) (b := 4000) (by decide)).mp q2
  refine s_A_feed1 k n m hnk n2 (fun m1 w1 w2 w3 => s_A_forgetTokens (t_M_feed_0 _ _ ⟨fun q3 => absurd q3 q, fun _ => ⟨fun _ => ⟨fun _ => ?_, fun q3 => absurd ?_ q3⟩, fun q3 => absurd q1 q3⟩⟩))
  · have e55 : ∀ j, mz_up (mz_up (mz_up m1 2 6 0) 0 6 0) 0 8 0 55 j = m 55 j := fun j => by
      rw [mz_up_n _ _ _ (by decide), mz_up_n _ _ _ (by decide), mz_up_n _ _ _ (by decide), w1 55 (by decide) (by decide)]
    refine s_M_feed1 k n _ hnk (by rw [e55, n3]) (fun m2 v1 v4 v2 v3 => t_M_forgetTokens_0 ?_)
    have hA : ∀ q, q ≠ 0 → q ≠ 1 → q ≠ 2 → q ≠ 55 → q ≠ 66 → (mz_up (mz_up (mz_up m2 55 13 0) 55 34 0) 55 44 0) q = m q := fun q p0 p1 p2 p3 p4 => by
      rw [mz_up_n _ _ _ p3, mz_up_n _ _ _ p3, mz_up_n _ _ _ p3, v1 q p3 p4, mz_up_n _ _ _ p0, mz_up_n _ _ _ p0, mz_up_n _ _ _ p2, w1 q p0 p1]
    have hA' : ∀ l : List Nat, l.all (fun q => decide (q ≠ 0) && (decide (q ≠ 1) && (decide (q ≠ 2) && (decide (q ≠ 55) && decide (q ≠ 66))))) = true → ∀ q, q ∈ l → (mz_up (mz_up (mz_up m2 55 13 0) 55 34 0) 55 44 0) q = m q := fun l hl q hql => by
      have := List.all_eq_true.mp hl q hql
      simp only [Bool.and_eq_true, decide_eq_true_eq] at this
      exact hA q this.1 this.2.1 this.2.2.1 this.2.2.2.1 this.2.2.2.2
    have hB : ∀ j, j ≠ 12 → j ≠ 13 → j ≠ 34 → j ≠ 44 → (mz_up (mz_up (mz_up m2 55 13 0) 55 34 0) 55 44 0) 55 j = m 55 j := fun j j1 j2 j3 j4 => by
      simp only [mz_up_k, upd, j2, j3, j4, if_false]
      rw [v4 j j1, e55]
    have hC : (mz_up (mz_up (mz_up m2 55 13 0) 55 34 0) 55 44 0) 55 12 = nI (n + k) := by
      simp only [mz_up_k, upd]
      exact v2
    have hD : (mz_up (mz_up (mz_up m2 55 13 0) 55 34 0) 55 44 0) 0 1 = nI (n + k) := by
      rw [mz_up_n _ _ _ (by decide), mz_up_n _ _ _ (by decide), mz_up_n _ _ _ (by decide), v1 0 (by decide) (by decide)]
      simp only [mz_up_k, upd]
      rw [mz_up_n _ _ _ (by decide)]
      exact w2
    have h2c : ∀ j, (mz_up (mz_up (mz_up m2 55 13 0) 55 34 0) 55 44 0) 2 j = upd (m 2) 6 0 j := fun j => by
      rw [mz_up_n _ _ _ (by decide), mz_up_n _ _ _ (by decide), mz_up_n _ _ _ (by decide), v1 2 (by decide) (by decide), mz_up_n _ _ _ (by decide), mz_up_n _ _ _ (by decide), mz_up_k, w1 2 (by decide) (by decide)]
    have h0c : ∀ j, (mz_up (mz_up (mz_up m2 55 13 0) 55 34 0) 55 44 0) 0 j = upd (upd (m1 0) 6 0) 8 0 j := fun j => by
      rw [mz_up_n _ _ _ (by decide), mz_up_n _ _ _ (by decide), mz_up_n _ _ _ (by decide), v1 0 (by decide) (by decide), mz_up_k, mz_up_k, mz_up_n _ _ _ (by decide)]
    have hr : (mz_up (mz_up (mz_up m1 2 6 0) 0 6 0) 0 8 0) 0 1 = (mz_up (mz_up (mz_up m2 55 13 0) 55 34 0) 55 44 0) 55 12 := by
      rw [hC, mz_up_k, mz_up_k, mz_up_n _ _ _ (by decide)]
      simp only [upd]
      exact w2
    rw [hr]
    refine hR _ _ (z_rel_no h (hA' _ (by decide)) (hB 26 (by decide) (by decide) (by decide) (by decide)) ?_ ?_ ?_ ?_ ?_ ?_ ?_ ?_)
    · refine ⟨n + k, hnk, hD, hC, ?_, ?_⟩
      · rw [mz_up_n _ _ _ (by decide), mz_up_n _ _ _ (by decide), mz_up_n _ _ _ (by decide), v1 1 (by decide) (by decide), mz_up_n _ _ _ (by decide), mz_up_n _ _ _ (by decide), mz_up_n _ _ _ (by decide), w3, mz_up_n _ _ _ (by decide), mz_up_n _ _ _ (by decide), mz_up_n _ _ _ (by decide), v3, mz_up_n _ _ _ (by decide), mz_up_n _ _ _ (by decide), mz_up_n _ _ _ (by decide), w1 66 (by decide) (by decide), n4]
      · rw [mz_up_n _ _ _ (by decide), mz_up_n _ _ _ (by decide), mz_up_n _ _ _ (by decide), v1 1 (by decide) (by decide), mz_up_n _ _ _ (by decide), mz_up_n _ _ _ (by decide), mz_up_n _ _ _ (by decide), w3]
        exact z_fd_txt _ _ _ _ n5
    · obtain ⟨q1, q2, q3, q4, q5, q6, q7, q8, q9, q10, q11⟩ := g3
      refine ⟨?_, ?_, ?_, ?_, ?_, ?_, ?_, ?_, ?_, Or.inl ?_, fun h9 => absurd h9 ?_⟩
      · rw [h2c, hB 18 (by decide) (by decide) (by decide) (by decide), ← q1]; rfl
      · rw [h2c, hB 21 (by decide) (by decide) (by decide) (by decide), ← q2]; rfl
      · rw [hA' [3, 67] (by decide) 3 (by decide), hA' [3, 67] (by decide) 67 (by decide)]; exact q3
      · rw [hA' [4, 68] (by decide) 4 (by decide), hA' [4, 68] (by decide) 68 (by decide)]; exact q4
      · rw [hA' [5, 69] (by decide) 5 (by decide), hA' [5, 69] (by decide) 69 (by decide)]; exact q5
      · rw [hA' [6, 70] (by decide) 6 (by decide), hA' [6, 70] (by decide) 70 (by decide)]; exact q6
      · rw [hA' [7, 71] (by decide) 7 (by decide), hA' [7, 71] (by decide) 71 (by decide)]; exact q7
      · rw [hA' [8, 72] (by decide) 8 (by decide), hA' [8, 72] (by decide) 72 (by decide)]; exact q8
      · rw [h2c]; simp [mz_up, upd]
      · rw [h2c]; rfl
      · rw [h2c]; simp [upd]
    · unfold r_in at g5 ⊢
      rw [hA' [46, 96] (by decide) 46 (by decide), hA' [46, 96] (by decide) 96 (by decide)]; exact g5
    · unfold r_run at g6 ⊢
      rw [hA' [47] (by decide) 47 (by decide), hA' [48] (by decide) 48 (by decide), hA' [49] (by decide) 49 (by decide), hA' [99] (by decide) 99 (by decide), hA' [97] (by decide) 97 (by decide), hB 56 (by decide) (by decide) (by decide) (by decide), hB 57 (by decide) (by decide) (by decide) (by decide), hB 59 (by decide) (by decide) (by decide) (by decide), hB 60 (by decide) (by decide) (by decide) (by decide), hB 61 (by decide) (by decide) (by decide) (by decide)]
      exact g6
    · rw [h0c]; rfl
    · rw [h0c]; rfl
    · simp [mz_up, upd]
    · simp [mz_up, upd]
  · rw [mz_up_n _ _ _ (by decide), mz_up_n _ _ _ (by decide), mz_up_n _ _ _ (by decide), w1 55 (by decide) (by decide), ← e12]
    exact q2
