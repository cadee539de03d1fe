/-! clear, lex -/
theorem z_slot_lt {t nb nz : Nat → Int32} {a z : Nat} : ∀ (k s q : Nat), z_slot t nb nz a z k s = some q → q < s + k := by
  intro k
  induction k with
  | zero => intro s q h; cases h
  | succ k ih =>
    intro s q h
    simp only [z_slot] at h
    split at h
    · cases h; omega
    · have := ih _ _ h; omega
theorem z_wk_r (t : Nat → Int32) (a z : Nat) : ∃ kk : Nat, z_wk t a z = nI kk ∧ 1 ≤ kk ∧ kk ≤ 8 ∧ (kk = 1 → z_wk t a z = 1) := by
  unfold z_wk
  split
  · exact ⟨3, rfl, by omega, by omega, fun h => by omega⟩
  · split
    · exact ⟨4, rfl, by omega, by omega, fun h => by omega⟩
    · split
      · exact ⟨5, rfl, by omega, by omega, fun h => by omega⟩
      · split
        · exact ⟨6, rfl, by omega, by omega, fun h => by omega⟩
        · split
          · exact ⟨7, rfl, by omega, by omega, fun h => by omega⟩
          · split
            · exact ⟨8, rfl, by omega, by omega, fun h => by omega⟩
            · exact ⟨1, rfl, by omega, by omega, fun _ => rfl⟩
theorem z_sgk_r (c : Int32) (e : Bool) (h : ¬ z_sgk c e = -1) : ∃ kk : Nat, z_sgk c e = nI kk ∧ 9 ≤ kk ∧ kk ≤ 24 := by
  have hmem : z_sgk c e ∈ ([-1, 9, 10, 11, 12, 13, 14, 15, 16, 17, 18, 19, 20, 21, 22, 23, 24] : List Int32) := by
    unfold z_sgk
    cases e
    · simp only [Bool.false_eq_true, if_false]
      iterate 15 refine z_if (P := fun x => x ∈ ([-1, 9, 10, 11, 12, 13, 14, 15, 16, 17, 18, 19, 20, 21, 22, 23, 24] : List Int32)) (by decide) ?_
      decide
    · simp only [if_true]
      iterate 15 refine z_if (P := fun x => x ∈ ([-1, 9, 10, 11, 12, 13, 14, 15, 16, 17, 18, 19, 20, 21, 22, 23, 24] : List Int32)) (by decide) ?_
      decide
  have hall : ∀ x ∈ ([-1, 9, 10, 11, 12, 13, 14, 15, 16, 17, 18, 19, 20, 21, 22, 23, 24] : List Int32), x = -1 ∨ ∃ kk : Nat, kk ∈ List.range 25 ∧ x = nI kk ∧ 9 ≤ kk := by decide +kernel
  rcases hall _ hmem with h1 | ⟨kk, h1, h2, h3⟩
  · exact absurd h1 h
  · exact ⟨kk, h2, h3, by have := List.mem_range.mp h1; omega⟩
/-- what one token brings -/
theorem z_tok_fact {t : Nat → Int32} {n i z : Nat} {s s' : z_LS} (ht : z_tok t n s i = some (s', z)) : ∃ (kk : Nat) (ww : Int32), 1 ≤ kk ∧ kk ≤ 24 ∧ s'.1 = s.1 + 1 ∧ s.2.1 ≤ s'.2.1 ∧ s'.2.2.1 = upd s.2.2.1 s.1 (nI kk) ∧ s'.2.2.2.2.1 = upd s.2.2.2.2.1 s.1 (nI z) ∧ s'.2.2.2.2.2.1 = upd s.2.2.2.2.2.1 s.1 ww ∧ (kk = 9 ∨ kk = 10 → z = 2) ∧ (kk = 1 → ∃ q, q < s'.2.1 ∧ ww = nI q) := by
  unfold z_tok at ht
  split at ht
  · split at ht
    · rename_i s2 hs2
      cases ht
      unfold z_nmT at hs2
      split at hs2
      · split at hs2
        · split at hs2
          · rename_i q hq
            cases hs2
            have := z_slot_lt _ _ _ hq
            exact ⟨1, nI q, by omega, by omega, rfl, Nat.le_refl _, rfl, rfl, rfl, fun h => by omega, fun _ => ⟨q, by simp only [z_put]; omega, rfl⟩⟩
          · split at hs2
            · cases hs2
              exact ⟨1, nI s.2.1, by omega, by omega, rfl, Nat.le_succ _, rfl, rfl, rfl, fun h => by omega, fun _ => ⟨s.2.1, by simp only [z_put, z_nam]; omega, rfl⟩⟩
            · cases hs2
        · cases hs2
      · rename_i hne
        cases hs2
        obtain ⟨kk, e, k1, k2, k3⟩ := z_wk_r t i (z_end t z_nd (n - i) i - i)
        refine ⟨kk, 0, k1, by omega, rfl, Nat.le_refl _, ?_, rfl, rfl, fun h => by omega, fun h => absurd (k3 h) hne⟩
        simp only [z_put]
        rw [e]
    · cases ht
  · split at ht
    · cases ht
      exact ⟨2, _, by omega, by omega, rfl, Nat.le_refl _, rfl, rfl, rfl, fun h => by omega, fun h => by omega⟩
    · unfold z_sgT at ht
      split at ht
      · cases ht
      · rename_i hne
        obtain ⟨kk, e, k1, k2⟩ := z_sgk_r _ _ hne
        split at ht
        · cases ht
          refine ⟨kk, 0, by omega, k2, rfl, Nat.le_refl _, ?_, rfl, rfl, fun _ => rfl, fun h => by omega⟩
          simp only [z_put]
          rw [e]
        · rename_i h9
          cases ht
          refine ⟨kk, 0, by omega, k2, rfl, Nat.le_refl _, ?_, rfl, rfl, fun h => absurd ?_ h9, fun h => by omega⟩
          · simp only [z_put]
            rw [e]
          · rw [e]
            rcases h with h | h <;> subst h <;> decide
def z_tgS (s : z_LS) (i : Nat) : Prop := ∃ kd z b : Nat → Nat, b s.1 ≤ i ∧ ∀ j, j < s.1 → s.2.2.1 j = nI (kd j) ∧ 1 ≤ kd j ∧ kd j ≤ 24 ∧ s.2.2.2.2.1 j = nI (z j) ∧ 1 ≤ z j ∧ b j + z j ≤ b (j + 1) ∧ (kd j = 9 ∨ kd j = 10 → z j = 2) ∧ (kd j = 1 → ∃ q, q < s.2.1 ∧ s.2.2.2.2.2.1 j = nI q)
theorem z_tgS_tok {t : Nat → Int32} {n i z : Nat} {s s' : z_LS} (hi : i < n) (ho : z_sok n s i) (h : z_tgS s i) (ht : z_tok t n s i = some (s', z)) : z_tgS s' (i + z) := by
  obtain ⟨kd, zz, b, h1, h2⟩ := h
  obtain ⟨kk, ww, f1, f2, f3, f4, f5, f6, f7, f8, f9⟩ := z_tok_fact ht
  obtain ⟨p1, p2, p3⟩ := z_tok_ok hi ho ht
  refine ⟨fun j => if j = s.1 then kk else kd j, fun j => if j = s.1 then z else zz j, fun j => if j = s.1 + 1 then i + z else b j, ?_, fun j hj => ?_⟩
  · rw [f3]; simp
  · rw [f5, f6, f7]
    by_cases hjs : j = s.1
    · subst hjs
      simp only [upd, if_true]
      refine ⟨trivial, f1, f2, trivial, by omega, ?_, f8, f9⟩
      rw [if_neg (by omega)]
      omega
    · obtain ⟨q1, q2, q3, q4, q5, q6, q7, q8⟩ := h2 j (by omega)
      simp only [upd, hjs, if_false]
      refine ⟨q1, q2, q3, q4, q5, ?_, q7, fun h9 => ?_⟩
      · rw [if_neg (by omega), if_neg (by omega)]
        exact q6
      · obtain ⟨q, w1, w2⟩ := q8 h9
        exact ⟨q, by omega, w2⟩
theorem z_tgS_mono {s : z_LS} {i k : Nat} (h : z_tgS s i) (hk : i ≤ k) : z_tgS s k := by
  obtain ⟨kd, zz, b, h1, h2⟩ := h
  exact ⟨kd, zz, b, by omega, h2⟩
theorem z_tgS_lexr {t : Nat → Int32} {n : Nat} : ∀ (k i : Nat) (s s' : z_LS), n - i < k → z_sok n s i → z_tgS s i → z_lexr t n k i s = (s', none) → z_tgS s' n ∧ s'.1 ≤ n ∧ s'.2.1 ≤ 32 := by
  intro k
  induction k with
  | zero => intro i s s' hk; omega
  | succ k ih =>
    intro i s s' hk ho h hl
    simp only [z_lexr] at hl
    split at hl
    · rename_i hi
      split at hl
      · cases hl
      · rename_i s2 z hz
        obtain ⟨p1, p2, p3⟩ := z_tok_ok hi ho hz
        have hge := z_sk_ge t (n - (i + z)) false (i + z)
        refine ih _ s2 s' (by omega) ⟨by have := p3.1; omega, by omega, p3.2.2⟩ (z_tgS_mono (z_tgS_tok hi ho h hz) (by omega)) hl
    · cases hl
      exact ⟨z_tgS_mono h ho.2.1, by have := ho.1; have := ho.2.1; omega, ho.2.2.1⟩
theorem z_tg_of {m : mz_M} {s : z_LS} {n : Nat} (hn : n ≤ 4000) (h : z_tgS s n) (h1 : s.1 ≤ n) (h2 : s.2.1 ≤ 32) (hR : z_RA m (z_fin n s)) : z_tg m := by
  obtain ⟨kd, z, b, g1, g2⟩ := h
  obtain ⟨e1, e2, e3, e4, e5, e6, e7, e8⟩ := hR
  refine ⟨s.1, n, s.2.1, kd, z, b, h1, hn, h2, e1, e2, ?_, g1, fun j hj => ?_⟩
  · rw [e3]; simp [z_fin, upd]
  · obtain ⟨q1, q2, q3, q4, q5, q6, q7, q8⟩ := g2 j hj
    have hne : j ≠ s.1 := by omega
    rw [e3, e5, e6]
    simp only [z_fin, upd, hne, if_false]
    exact ⟨q1, q2, q3, q4, q5, q6, q7, q8⟩
theorem s_J_fill {X : mz_X} {Q : mz_M → Prop} : ∀ (k j : Nat) (m : mz_M), j + k = 32 → (∀ m', (∀ q, q ≠ 46 → m' q = m q) → (∀ i, m' 46 i = if j ≤ i ∧ i < 32 then 0 else m 46 i) → Q m') → mz_gv X mz_sh 203 5 [some (.ref 46), some (.int 0), some (.int (nI j)), some (.int 32)] m Q := by
  intro k
  induction k with
  | zero =>
    intro j m hj h
    have : j = 32 := by omega
    subst this
    refine t_J_fill_1 _ _ _ ⟨fun _ => h m (fun _ _ => rfl) (fun i => ?_), fun h1 => absurd (by decide) h1⟩
    rw [if_neg (by omega)]
  | succ k ih =>
    intro j m hj h
    refine t_J_fill_1 _ _ _ ⟨fun h1 => absurd h1 (nI_ge (b := 32) (by omega) (by decide)), fun _ => ⟨mz_inbN (by omega) (by decide), ?_⟩⟩
    rw [nI_1, nI_clamp (by omega)]
    refine ih (j + 1) _ (by omega) (fun m' g1 g2 => h m' (fun q hq => ?_) (fun i => ?_))
    · rw [g1 q hq, mz_up_n _ _ _ hq]
    · rw [g2 i, mz_up_k]
      by_cases h1 : i = j
      · subst h1
        rw [if_neg (by omega), if_pos (by omega)]
        simp [upd]
      · by_cases h2 : j + 1 ≤ i ∧ i < 32
        · rw [if_pos h2, if_pos (by omega)]
        · rw [if_neg h2, if_neg (by omega)]
          simp [upd, h1]
theorem s_M_clear1 {X : mz_X} {Q : Int32 → mz_M → Prop} {l1 : Int32} : ∀ (k j : Nat) (m : mz_M), j + k = 32 → (∀ m', (∀ q, q ≠ 96 → m' q = m q) → (∀ i, m' 96 i = if j ≤ i ∧ i < 32 then 0 else m 96 i) → Q l1 (mz_up m' 55 56 0)) → mz_gi X mz_sh 133 16 [some (.ref 55), some (.int l1), some (.int (nI j))] m Q := by
  intro k
  induction k with
  | zero =>
    intro j m hj h
    have : j = 32 := by omega
    subst this
    refine t_M_clear_1 _ _ ⟨fun _ => h m (fun _ _ => rfl) (fun i => ?_), fun h1 => absurd (by decide) h1⟩
    rw [if_neg (by omega)]
  | succ k ih =>
    intro j m hj h
    refine t_M_clear_1 _ _ ⟨fun h1 => absurd h1 (nI_ge (b := 32) (by omega) (by decide)), fun _ => ⟨mz_inbN (by omega) (by decide), ?_⟩⟩
    rw [nI_1, nI_clamp (by omega)]
    refine ih (j + 1) _ (by omega) (fun m' g1 g2 => h m' (fun q hq => ?_) (fun i => ?_))
    · rw [g1 q hq, mz_up_n _ _ _ hq]
    · rw [g2 i, mz_up_k]
      by_cases h1 : i = j
      · subst h1
        rw [if_neg (by omega), if_pos (by omega)]
        simp [upd]
      · by_cases h2 : j + 1 ≤ i ∧ i < 32
        · rw [if_pos h2, if_pos (by omega)]
        · rw [if_neg h2, if_neg (by omega)]
          simp [upd, h1]
theorem z_txt0 (t : Nat → Int32) : z_txt t 0 := fun j hj => by omega
theorem k_clear {X : mz_X} {m : mz_M} {R : Int32 → Int32 → mz_M → Prop} (h : z_rel m) (hR : ∀ r m', z_rel m' → R r r m') : mz_gi X mz_sh 101 0 [some (.ref 0), none] m (fun r m1 => mz_gi X mz_sh 133 0 [some (.ref 55), none, none] m1 (fun r' m2 => R r r' m2)) := by
  have h0 := h
  obtain ⟨g1, ⟨n, n1, n2, n3, n4, n5⟩, g3, g4, g5, g6, g7, g8⟩ := h0
  refine t_A_clear_0 (s_A_forgetTokens (t_J_fill_0 _ (s_J_fill 32 0 _ rfl (fun m1 w1 w2 => t_R_forget_0 (t_M_clear_0 (t_M_forgetTokens_0 (s_M_clear1 32 0 _ rfl (fun m2 v1 v2 => ?_))))))))
  have a1 : ∀ q, q ∉ [0, 2, 46, 47, 55, 96] → mz_up m2 55 56 0 q = m q := fun q hq => by
    simp only [List.mem_cons, List.not_mem_nil, or_false, not_or] at hq
    obtain ⟨p0, p1, p2, p3, p4, p5⟩ := hq
    rw [mz_up_n _ _ _ p4, v1 q p5, mz_up_n _ _ _ p4, mz_up_n _ _ _ p4, mz_up_n _ _ _ p4, mz_up_n _ _ _ p4, mz_up_n _ _ _ p3, w1 q p2, mz_up_n _ _ _ p0, mz_up_n _ _ _ p0, mz_up_n _ _ _ p1, mz_up_n _ _ _ p0]
  have a55 : ∀ j, mz_up m2 55 56 0 55 j = upd (upd (upd (upd (upd (m 55) 12 0) 13 0) 34 0) 44 0) 56 0 j := fun j => by
    rw [mz_up_k, v1 55 (by decide), mz_up_k, mz_up_k, mz_up_k, mz_up_k, mz_up_n _ _ _ (by decide), w1 55 (by decide), mz_up_n _ _ _ (by decide), mz_up_n _ _ _ (by decide), mz_up_n _ _ _ (by decide), mz_up_n _ _ _ (by decide)]
  have a0 : ∀ j, mz_up m2 55 56 0 0 j = upd (upd (upd (m 0) 1 0) 6 0) 8 0 j := fun j => by
    rw [mz_up_n _ _ _ (by decide), v1 0 (by decide), mz_up_n _ _ _ (by decide), mz_up_n _ _ _ (by decide), mz_up_n _ _ _ (by decide), mz_up_n _ _ _ (by decide), mz_up_n _ _ _ (by decide), w1 0 (by decide), mz_up_k, mz_up_k, mz_up_n _ _ _ (by decide), mz_up_k]
  have a2 : ∀ j, mz_up m2 55 56 0 2 j = upd (m 2) 6 0 j := fun j => by
    rw [mz_up_n _ _ _ (by decide), v1 2 (by decide), mz_up_n _ _ _ (by decide), mz_up_n _ _ _ (by decide), mz_up_n _ _ _ (by decide), mz_up_n _ _ _ (by decide), mz_up_n _ _ _ (by decide), w1 2 (by decide), mz_up_n _ _ _ (by decide), mz_up_n _ _ _ (by decide), mz_up_k, mz_up_n _ _ _ (by decide)]
  have a47 : ∀ j, mz_up m2 55 56 0 47 j = upd (m 47) 0 0 j := fun j => by
    rw [mz_up_n _ _ _ (by decide), v1 47 (by decide), mz_up_n _ _ _ (by decide), mz_up_n _ _ _ (by decide), mz_up_n _ _ _ (by decide), mz_up_n _ _ _ (by decide), mz_up_k, w1 47 (by decide), mz_up_n _ _ _ (by decide), mz_up_n _ _ _ (by decide), mz_up_n _ _ _ (by decide), mz_up_n _ _ _ (by decide)]
  have a46 : ∀ j, mz_up m2 55 56 0 46 j = if 0 ≤ j ∧ j < 32 then 0 else m 46 j := fun j => by
    rw [mz_up_n _ _ _ (by decide), v1 46 (by decide), mz_up_n _ _ _ (by decide), mz_up_n _ _ _ (by decide), mz_up_n _ _ _ (by decide), mz_up_n _ _ _ (by decide), mz_up_n _ _ _ (by decide), w2 j, mz_up_n _ _ _ (by decide), mz_up_n _ _ _ (by decide), mz_up_n _ _ _ (by decide), mz_up_n _ _ _ (by decide)]
  have a96 : ∀ j, mz_up m2 55 56 0 96 j = if 0 ≤ j ∧ j < 32 then 0 else m 96 j := fun j => by
    rw [mz_up_n _ _ _ (by decide), v2 j, mz_up_n _ _ _ (by decide), mz_up_n _ _ _ (by decide), mz_up_n _ _ _ (by decide), mz_up_n _ _ _ (by decide), mz_up_n _ _ _ (by decide), w1 96 (by decide), mz_up_n _ _ _ (by decide), mz_up_n _ _ _ (by decide), mz_up_n _ _ _ (by decide), mz_up_n _ _ _ (by decide)]
  have hr : (mz_up m1 47 0 0) 55 12 = m 0 1 := by
    rw [mz_up_n _ _ _ (by decide), w1 55 (by decide), mz_up_n _ _ _ (by decide), mz_up_n _ _ _ (by decide), mz_up_n _ _ _ (by decide), mz_up_n _ _ _ (by decide), n2, n3]
  rw [hr]
  refine hR _ _ (z_rel_no h (fun q hq => a1 q ?_) (by rw [a55]; rfl) ⟨0, by decide, by rw [a0]; rfl, by rw [a55]; rfl, ?_, z_txt0 _⟩ ?_ ?_ ?_ (by rw [a0]; rfl) (by rw [a0]; rfl) (by rw [a55]; rfl) (by rw [a55]; rfl))
  · simp only [List.mem_cons, List.not_mem_nil, or_false] at hq ⊢
    omega
  · rw [a1 1 (by decide), a1 66 (by decide), n4]
  · obtain ⟨q1, q2, q3, q4, q5, q6, q7, q8, q9, q10, q11⟩ := g3
    refine ⟨?_, ?_, ?_, ?_, ?_, ?_, ?_, ?_, ?_, Or.inl ?_, fun h9 => absurd h9 ?_⟩
    · rw [a2, a55]; exact q1
    · rw [a2, a55]; exact q2
    · rw [a1 3 (by decide), a1 67 (by decide)]; exact q3
    · rw [a1 4 (by decide), a1 68 (by decide)]; exact q4
    · rw [a1 5 (by decide), a1 69 (by decide)]; exact q5
    · rw [a1 6 (by decide), a1 70 (by decide)]; exact q6
    · rw [a1 7 (by decide), a1 71 (by decide)]; exact q7
    · rw [a1 8 (by decide), a1 72 (by decide)]; exact q8
    · rw [a2, a55]; rfl
    · rw [a2]; rfl
    · rw [a2]; simp [upd]
  · unfold r_in at g5 ⊢
    funext j
    rw [a46, a96, g5]
  · obtain ⟨q1, q2, q3, q4, q5⟩ := g6
    refine ⟨by rw [a47, a55]; rfl, Or.inl (by rw [a47]; rfl), ?_, ?_, fun h9 => absurd h9 ?_⟩
    · rw [a1 48 (by decide), a1 99 (by decide)]; exact q3
    · rw [a1 49 (by decide), a1 97 (by decide)]; exact q4
    · rw [a47]; simp [upd]
