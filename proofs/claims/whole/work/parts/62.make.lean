/-! the class's code: a node's words -/
theorem nI_m1 {a : Nat} (h : 1 ≤ a) : nI a - 1 = nI (a - 1) := nI_sub (b := 1) h
theorem nI_m2 {a : Nat} (h : 2 ≤ a) : nI a - 2 = nI (a - 2) := nI_sub (b := 2) h
theorem nI_m3 {a : Nat} (h : 3 ≤ a) : nI a - 3 = nI (a - 3) := nI_sub (b := 3) h
theorem nI_p2 (a : Nat) : nI a + 2 = nI (a + 2) := nI_add a 2
theorem nI_p3 (a : Nat) : nI a + 3 = nI (a + 3) := nI_add a 3
theorem s_C_placeParts {X : mz_X} {m : mz_M} {Q : mz_M → Prop} {N i P : Nat} {kd tk sz lp wc : Nat → Nat} {ks : Nat → List Nat} (h : z_hA m N kd tk sz lp ks) (hiN : i < N) (hw : ∀ x, x < N → m 45 x = nI (wc x)) (hP : m 44 i = nI P) (hQ : ∀ m', z_fr [44] m m' → (∀ x, x ∈ ks i → m' 44 x = nI (P + z_off wc (z_wb (kd i)) (ks i) x)) → (∀ x, x ∉ ks i → m' 44 x = m 44 x) → Q m') : mz_gv X mz_sh 5 0 [some (.ref 41), some (.ref 30), some (.int (nI i)), none, none, none] m Q := by
  have h' := h
  obtain ⟨h1, h2, h3⟩ := h'
  obtain ⟨c1, c2, c3, c4, c5, c6, c7, c8, c9, c10⟩ := h3 i hiN
  refine t_C_placeParts_0 _ ⟨mz_inbN (by omega) (by decide), ?_⟩
  rw [nI_clamp (by omega), hP, nI_1]
  exact s_C_placeParts1 hiN c9 (ks i) (i + 1) P 0 m h hw c8 (by omega) (by omega) hQ
def z_wE (m : mz_M) (N : Nat) (kd tk sz lp wc st : Nat → Nat) (tv : Nat → Int32) (ks : Nat → List Nat) (i : Nat) : Prop := z_hA m N kd tk sz lp ks ∧ (∀ x, x < N → m 45 x = nI (wc x)) ∧ (∀ x, x < N → m 6 (tk x) = tv x) ∧ m 44 i = nI (st i) ∧ (∀ x, x ∈ ks i → m 44 x = nI (st x)) ∧ (kd i = 5 ∨ kd i = 6 → 0 < lp i ∧ lp i - 1 < N ∧ m 44 (lp i - 1) = nI (st (lp i - 1)))
theorem z_wE.fr {m m' : mz_M} {N i : Nat} {kd tk sz lp wc st : Nat → Nat} {tv : Nat → Int32} {ks : Nat → List Nat} (h : z_wE m N kd tk sz lp wc st tv ks i) (hf : z_fr [42, 43] m m') : z_wE m' N kd tk sz lp wc st tv ks i := by
  obtain ⟨a, b⟩ := h
  refine ⟨a.fr hf (by decide), ?_⟩
  rw [hf 45 (by decide), hf 6 (by decide), hf 44 (by decide)]
  exact b
theorem s_C_wIf {X : mz_X} {m : mz_M} {Q : mz_M → Prop} {f : Nat → Nat × Int32 × Nat} {S : Nat → Prop} {N i : Nat} {kd tk sz ht up lp wc st bs : Nat → Nat} {tv : Nat → Int32} {ks : Nat → List Nat} (h : z_pre N kd sz ht up ks) (hc : z_cd N kd ks wc st bs) (hE : z_wE m N kd tk sz lp wc st tv ks i) (hi : i < N) (hb : st i + wc i ≤ 8000) (hf : ∀ p e, (p, e) ∈ z_wl kd ks wc st bs lp tv i → f p = e) (hw : z_wf f m S) (hk : kd i = 3) (hQ : ∀ m', z_fr [42, 43] m m' → z_wf f m' (fun q => S q ∨ ∃ e, (q, e) ∈ z_wl kd ks wc st bs lp tv i) → Q m') : mz_gv X mz_sh 7 0 [some (.ref 41), some (.ref 30), some (.int (nI i)), none, none] m Q := by
  have hE' := hE
  obtain ⟨⟨a1, a2, a3⟩, b2, b3, b4, b5, b6⟩ := hE'
  obtain ⟨c1, c2, c3, c4, c5, c6, c7, c8, c9, c10⟩ := a3 i hi
  rcases z_cases h hi with ⟨k, _⟩ | ⟨k, e, _⟩ | ⟨k, l, e, _⟩ | ⟨k, l, l2, e, _⟩ | ⟨k, l, e, _⟩ | ⟨k, e⟩ | ⟨k, b, e, _⟩ | ⟨k, e⟩
  · omega
  · omega
  · obtain ⟨q1, q2, q3, q4, q5, q6, q7, q8, q9, q10⟩ := z_k2 h hc hi e
    have ho : z_ow (kd i) 2 = 1 := by rw [k]; rfl
    have hbb : z_wb (kd i) = 1 := by rw [k]; rfl
    have hz : z_wl kd ks wc st bs lp tv i = [(st (i + 1) + wc (i + 1), 14, nI (st i + wc i), 1)] := by simp [z_wl, k, e]
    refine t_C_writeIf_0 _ ?_
    rw [nI_1]
    refine s_T_behind a2 a1 q2 (a3 _ q2).2.2.2.1 ?_
    rw [← q3, nI_clamp (by omega), c3, e]
    refine ⟨mz_inbN (by omega) (by decide), fun g => absurd g (show ¬ nI 2 = 3 by decide), fun _ => ?_⟩
    refine s_C_startOf (by omega) (b5 l (by rw [e]; simp)) ?_
    refine s_C_endOf (by omega) b4 (b2 i hi) ?_
    rw [nI_m1 (by omega), show st l - 1 = st (i + 1) + wc (i + 1) by omega]
    refine s_C_put (o := 14) (d := 1) (by omega) (hf _ _ (by rw [hz]; simp)) hw (fun m1 f1 w1 => hQ m1 f1 (w1.mono (fun q hq => ?_)))
    rcases hq with hq | ⟨x, hx⟩
    · exact Or.inl hq
    · rw [hz] at hx
      simp only [List.mem_cons, List.not_mem_nil, or_false, Prod.mk.injEq] at hx
      exact Or.inr hx.1
  · obtain ⟨q1, q2, q3, q4, q5, q6, q7, q8, q9, q10, q11, q12, q13, q14⟩ := z_k3 h hc hi e
    have ho : z_ow (kd i) 3 = 2 := by rw [k]; rfl
    have hbb : z_wb (kd i) = 1 := by rw [k]; rfl
    have hz : z_wl kd ks wc st bs lp tv i = [(st (i + 1) + wc (i + 1), 14, nI (st l + wc l + 1), 1), (st l + wc l, 13, nI (st i + wc i), 0)] := by simp [z_wl, k, e]
    refine t_C_writeIf_0 _ ?_
    rw [nI_1]
    refine s_T_behind a2 a1 q2 (a3 _ q2).2.2.2.1 ?_
    rw [← q3, nI_clamp (by omega), c3, e]
    refine ⟨mz_inbN (by omega) (by decide), fun _ => ?_, fun g => absurd rfl g⟩
    refine s_T_behind a2 a1 q5 (a3 _ q5).2.2.2.1 ?_
    rw [← q6]
    refine s_C_startOf (by omega) (b5 l2 (by rw [e]; simp)) ?_
    refine s_C_startOf (by omega) (b5 l (by rw [e]; simp)) ?_
    rw [nI_m1 (a := st l) (by omega), show st l - 1 = st (i + 1) + wc (i + 1) by omega, nI_m1 (a := st l2) (by omega), show st l2 - 1 = st l + wc l by omega, show st l2 = st l + wc l + 1 by omega]
    refine s_C_put (o := 14) (d := 1) (by omega) (hf _ _ (by rw [hz]; simp)) hw (fun m1 f1 w1 => ?_)
    obtain ⟨_, d2, d3, d4, d5, d6⟩ := hE.fr f1
    refine s_C_endOf (by omega) d4 (d2 i hi) ?_
    refine s_C_put (o := 13) (d := 0) (by omega) (hf _ _ (by rw [hz]; simp)) w1 (fun m2 f2 w2 => hQ m2 (f1.tr f2) (w2.mono (fun q hq => ?_)))
    rcases hq with hq | ⟨x, hx⟩
    · exact Or.inl (Or.inl hq)
    · rw [hz] at hx
      simp only [List.mem_cons, List.not_mem_nil, or_false, Prod.mk.injEq] at hx
      rcases hx with hx | hx
      · exact Or.inl (Or.inr hx.1)
      · exact Or.inr hx.1
  · omega
  · omega
  · omega
  · omega
theorem s_C_wWhile {X : mz_X} {m : mz_M} {Q : mz_M → Prop} {f : Nat → Nat × Int32 × Nat} {S : Nat → Prop} {N i : Nat} {kd tk sz ht up lp wc st bs : Nat → Nat} {tv : Nat → Int32} {ks : Nat → List Nat} (h : z_pre N kd sz ht up ks) (hc : z_cd N kd ks wc st bs) (hE : z_wE m N kd tk sz lp wc st tv ks i) (hi : i < N) (hb : st i + wc i ≤ 8000) (hf : ∀ p e, (p, e) ∈ z_wl kd ks wc st bs lp tv i → f p = e) (hw : z_wf f m S) (hk : kd i = 4) (hQ : ∀ m', z_fr [42, 43] m m' → z_wf f m' (fun q => S q ∨ ∃ e, (q, e) ∈ z_wl kd ks wc st bs lp tv i) → Q m') : mz_gv X mz_sh 8 0 [some (.ref 41), some (.int (nI i))] m Q := by
  have hE' := hE
  obtain ⟨⟨a1, a2, a3⟩, b2, b3, b4, b5, b6⟩ := hE'
  obtain ⟨l, e⟩ : ∃ l, ks i = [i + 1, l] := by
    rcases z_cases h hi with ⟨k, _⟩ | ⟨k, e, _⟩ | ⟨k, l, e, _⟩ | ⟨k, l, l2, e, _⟩ | ⟨k, l, e, _⟩ | ⟨k, e⟩ | ⟨k, b, e, _⟩ | ⟨k, e⟩
    all_goals first | (exfalso; omega) | exact ⟨_, e⟩
  obtain ⟨q1, q2, q3, q4, q5, q6, q7, q8, q9, q10⟩ := z_k2 h hc hi e
  have ho : z_ow (kd i) 2 = 2 := by rw [hk]; rfl
  have hbb : z_wb (kd i) = 1 := by rw [hk]; rfl
  have hz : z_wl kd ks wc st bs lp tv i = [(st (i + 1) + wc (i + 1), 14, nI (st i + wc i), 1), (st i + wc i - 1, 13, nI (st i), 0)] := by simp [z_wl, hk]
  refine t_C_writeWhile_0 _ ?_
  rw [nI_1]
  refine s_C_endOf (by omega) (b5 _ (by rw [e]; simp)) (b2 _ q2) ?_
  refine s_C_endOf (by omega) b4 (b2 i hi) ?_
  refine s_C_put (o := 14) (d := 1) (by omega) (hf _ _ (by rw [hz]; simp)) hw (fun m1 f1 w1 => ?_)
  obtain ⟨_, d2, d3, d4, d5, d6⟩ := hE.fr f1
  refine s_C_endOf (by omega) d4 (d2 i hi) ?_
  rw [nI_m1 (by omega), nI_clamp (by omega), d4]
  refine ⟨mz_inbN (by omega) (by decide), s_C_put (o := 13) (d := 0) (by omega) (hf _ _ (by rw [hz]; simp)) w1 (fun m2 f2 w2 => hQ m2 (f1.tr f2) (w2.mono (fun q hq => ?_)))⟩
  rcases hq with hq | ⟨x, hx⟩
  · exact Or.inl (Or.inl hq)
  · rw [hz] at hx
    simp only [List.mem_cons, List.not_mem_nil, or_false, Prod.mk.injEq] at hx
    rcases hx with hx | hx
    · exact Or.inl (Or.inr hx.1)
    · exact Or.inr hx.1
theorem s_C_wAnd {X : mz_X} {m : mz_M} {Q : mz_M → Prop} {f : Nat → Nat × Int32 × Nat} {S : Nat → Prop} {N i : Nat} {kd tk sz ht up lp wc st bs : Nat → Nat} {tv : Nat → Int32} {ks : Nat → List Nat} (h : z_pre N kd sz ht up ks) (hc : z_cd N kd ks wc st bs) (hE : z_wE m N kd tk sz lp wc st tv ks i) (hi : i < N) (hb : st i + wc i ≤ 8000) (hf : ∀ p e, (p, e) ∈ z_wl kd ks wc st bs lp tv i → f p = e) (hw : z_wf f m S) (hk : kd i = 8) (hQ : ∀ m', z_fr [42, 43] m m' → z_wf f m' (fun q => S q ∨ ∃ e, (q, e) ∈ z_wl kd ks wc st bs lp tv i) → Q m') : mz_gv X mz_sh 9 0 [some (.ref 41), some (.int (nI i)), none] m Q := by
  have hE' := hE
  obtain ⟨⟨a1, a2, a3⟩, b2, b3, b4, b5, b6⟩ := hE'
  obtain ⟨l, e⟩ : ∃ l, ks i = [i + 1, l] := by
    rcases z_cases h hi with ⟨k, _⟩ | ⟨k, e, _⟩ | ⟨k, l, e, _⟩ | ⟨k, l, l2, e, _⟩ | ⟨k, l, e, _⟩ | ⟨k, e⟩ | ⟨k, b, e, _⟩ | ⟨k, e⟩
    all_goals first | (exfalso; omega) | exact ⟨_, e⟩
  obtain ⟨q1, q2, q3, q4, q5, q6, q7, q8, q9, q10⟩ := z_k2 h hc hi e
  have ho : z_ow (kd i) 2 = 4 := by rw [hk]; rfl
  have hbb : z_wb (kd i) = 1 := by rw [hk]; rfl
  have hz : z_wl kd ks wc st bs lp tv i = [(st (i + 1) + wc (i + 1), 14, nI (st i + wc i - 1), bs i + 1), (st i + wc i - 3, 12, 0, bs i + 1), (st i + wc i - 2, 13, nI (st i + wc i), bs i + 1), (st i + wc i - 1, 0, 0, bs i)] := by simp [z_wl, hk]
  refine t_C_writeAnd_0 _ ?_
  rw [nI_1]
  refine s_C_endOf (by omega) b4 (b2 i hi) ?_
  refine s_C_endOf (by omega) (b5 _ (by rw [e]; simp)) (b2 _ q2) ?_
  rw [nI_m1 (by omega), nI_m2 (by omega), nI_m3 (by omega)]
  refine s_C_put (o := 14) (d := bs i + 1) (by omega) (hf _ _ (by rw [hz]; simp)) hw (fun m1 f1 w1 => ?_)
  refine s_C_put (o := 12) (d := bs i + 1) (by omega) (hf _ _ (by rw [hz]; simp)) w1 (fun m2 f2 w2 => ?_)
  refine s_C_put (o := 13) (d := bs i + 1) (by omega) (hf _ _ (by rw [hz]; simp)) w2 (fun m3 f3 w3 => ?_)
  refine s_C_put (o := 0) (d := bs i) (by omega) (hf _ _ (by rw [hz]; simp)) w3 (fun m4 f4 w4 => hQ m4 (((f1.tr f2).tr f3).tr f4) (w4.mono (fun q hq => ?_)))
  rcases hq with hq | ⟨x, hx⟩
  · exact Or.inl (Or.inl (Or.inl (Or.inl hq)))
  · rw [hz] at hx
    simp only [List.mem_cons, List.not_mem_nil, or_false, Prod.mk.injEq] at hx
    rcases hx with hx | hx | hx | hx
    · exact Or.inl (Or.inl (Or.inl (Or.inr hx.1)))
    · exact Or.inl (Or.inl (Or.inr hx.1))
    · exact Or.inl (Or.inr hx.1)
    · exact Or.inr hx.1
theorem s_C_wOr {X : mz_X} {m : mz_M} {Q : mz_M → Prop} {f : Nat → Nat × Int32 × Nat} {S : Nat → Prop} {N i : Nat} {kd tk sz ht up lp wc st bs : Nat → Nat} {tv : Nat → Int32} {ks : Nat → List Nat} (h : z_pre N kd sz ht up ks) (hc : z_cd N kd ks wc st bs) (hE : z_wE m N kd tk sz lp wc st tv ks i) (hi : i < N) (hb : st i + wc i ≤ 8000) (hf : ∀ p e, (p, e) ∈ z_wl kd ks wc st bs lp tv i → f p = e) (hw : z_wf f m S) (hk : kd i = 7) (hQ : ∀ m', z_fr [42, 43] m m' → z_wf f m' (fun q => S q ∨ ∃ e, (q, e) ∈ z_wl kd ks wc st bs lp tv i) → Q m') : mz_gv X mz_sh 10 0 [some (.ref 41), some (.int (nI i)), none, none] m Q := by
  have hE' := hE
  obtain ⟨⟨a1, a2, a3⟩, b2, b3, b4, b5, b6⟩ := hE'
  obtain ⟨l, e⟩ : ∃ l, ks i = [i + 1, l] := by
    rcases z_cases h hi with ⟨k, _⟩ | ⟨k, e, _⟩ | ⟨k, l, e, _⟩ | ⟨k, l, l2, e, _⟩ | ⟨k, l, e, _⟩ | ⟨k, e⟩ | ⟨k, b, e, _⟩ | ⟨k, e⟩
    all_goals first | (exfalso; omega) | exact ⟨_, e⟩
  obtain ⟨q1, q2, q3, q4, q5, q6, q7, q8, q9, q10⟩ := z_k2 h hc hi e
  have ho : z_ow (kd i) 2 = 4 := by rw [hk]; rfl
  have hbb : z_wb (kd i) = 3 := by rw [hk]; rfl
  have hz : z_wl kd ks wc st bs lp tv i = [(st (i + 1) + wc (i + 1), 14, nI (st (i + 1) + wc (i + 1) + 3), bs i + 1), (st (i + 1) + wc (i + 1) + 1, 0, 1, bs i), (st (i + 1) + wc (i + 1) + 2, 13, nI (st i + wc i), bs i + 1), (st i + wc i - 1, 12, 0, bs i + 1)] := by simp [z_wl, hk]
  refine t_C_writeOr_0 _ ?_
  rw [nI_1]
  refine s_C_endOf (by omega) b4 (b2 i hi) ?_
  refine s_C_endOf (by omega) (b5 _ (by rw [e]; simp)) (b2 _ q2) ?_
  rw [nI_m1 (by omega), nI_p2, nI_p3, nI_1]
  refine s_C_put (o := 14) (d := bs i + 1) (by omega) (hf _ _ (by rw [hz]; simp)) hw (fun m1 f1 w1 => ?_)
  refine s_C_put (o := 0) (d := bs i) (by omega) (hf _ _ (by rw [hz]; simp)) w1 (fun m2 f2 w2 => ?_)
  refine s_C_put (o := 13) (d := bs i + 1) (by omega) (hf _ _ (by rw [hz]; simp)) w2 (fun m3 f3 w3 => ?_)
  refine s_C_put (o := 12) (d := bs i + 1) (by omega) (hf _ _ (by rw [hz]; simp)) w3 (fun m4 f4 w4 => hQ m4 (((f1.tr f2).tr f3).tr f4) (w4.mono (fun q hq => ?_)))
  rcases hq with hq | ⟨x, hx⟩
  · exact Or.inl (Or.inl (Or.inl (Or.inl hq)))
  · rw [hz] at hx
    simp only [List.mem_cons, List.not_mem_nil, or_false, Prod.mk.injEq] at hx
    rcases hx with hx | hx | hx | hx
    · exact Or.inl (Or.inl (Or.inl (Or.inr hx.1)))
    · exact Or.inl (Or.inl (Or.inr hx.1))
    · exact Or.inl (Or.inr hx.1)
    · exact Or.inr hx.1
/-- a node's one word at its end -/
theorem z_wl1 {N : Nat} {kd sz ht up wc st bs lp : Nat → Nat} {tv : Nat → Int32} {ks : Nat → List Nat} (h : z_pre N kd sz ht up ks) (hc : z_cd N kd ks wc st bs) {i : Nat} (hi : i < N) (hk : kd i = 1 ∨ kd i = 2 ∨ 9 ≤ kd i) : 1 ≤ wc i ∧ kd i ≤ 19 ∧ ∃ o d, mz_a2.getD (kd i) 0 = nI o ∧ z_wl kd ks wc st bs lp tv i = [(st i + wc i - 1, o, (if kd i = 1 ∨ kd i = 18 ∨ kd i = 19 then tv i else 0), d)] := by
  have hw := hc.1 i hi
  have kk : kd i ≤ 19 := by
    rcases z_cases h hi with ⟨k, _⟩ | ⟨k, e, _⟩ | ⟨k, l, e, _⟩ | ⟨k, l, l2, e, _⟩ | ⟨k, l, e, _⟩ | ⟨k, e⟩ | ⟨k, b, e, _⟩ | ⟨k, e⟩ <;> omega
  have ho : z_ow (kd i) (ks i).length = 1 := by
    unfold z_ow
    rw [if_neg (by omega), if_neg (by omega), if_neg (by omega), if_neg (by omega), if_neg (by omega)]
  obtain ⟨y1, y2, y3, y4, y5, y6⟩ := mz_a2k (kd i) (by omega)
  refine ⟨by omega, kk, ?_⟩
  have hc5 : kd i = 1 ∨ kd i = 2 ∨ (9 ≤ kd i ∧ kd i ≤ 15) ∨ (16 ≤ kd i ∧ kd i ≤ 17) ∨ kd i = 18 ∨ kd i = 19 := by omega
  rcases hc5 with k | k | k | k | k | k
  · refine ⟨2, 1, y1 k, ?_⟩
    simp [z_wl, k]
  · refine ⟨15, 1, y2 k, ?_⟩
    simp [z_wl, k]
  · refine ⟨z_kw (kd i), bs i + 2, y3 k.1 k.2, ?_⟩
    unfold z_wl
    rw [if_neg (by omega), if_neg (by omega), if_neg (by omega), if_neg (by omega), if_neg (by omega), if_neg (by omega), if_neg (by omega), if_neg (by omega), if_neg (by omega), if_pos (by omega), if_neg (by omega)]
  · refine ⟨kd i - 6, bs i + 1, y4 k.1 k.2, ?_⟩
    unfold z_wl
    rw [if_neg (by omega), if_neg (by omega), if_neg (by omega), if_neg (by omega), if_neg (by omega), if_neg (by omega), if_neg (by omega), if_neg (by omega), if_neg (by omega), if_neg (by omega), if_pos (by omega), if_neg (by omega)]
  · have hk0 : ks i = [] := by
      rcases z_cases h hi with ⟨k, _⟩ | ⟨k, e, _⟩ | ⟨k, l, e, _⟩ | ⟨k, l, l2, e, _⟩ | ⟨k, l, e, _⟩ | ⟨k, e⟩ | ⟨k, b, e, _⟩ | ⟨k, e⟩
      all_goals first | (exfalso; omega) | exact e
    have w1 : wc i = 1 := by rw [hw, ho, hk0]; rfl
    refine ⟨1, bs i, y5 k, ?_⟩
    simp [z_wl, k, w1]
  · have hk0 : ks i = [] := by
      rcases z_cases h hi with ⟨k, _⟩ | ⟨k, e, _⟩ | ⟨k, l, e, _⟩ | ⟨k, l, l2, e, _⟩ | ⟨k, l, e, _⟩ | ⟨k, e⟩ | ⟨k, b, e, _⟩ | ⟨k, e⟩
      all_goals first | (exfalso; omega) | exact e
    have w1 : wc i = 1 := by rw [hw, ho, hk0]; rfl
    refine ⟨0, bs i, y6 k, ?_⟩
    simp [z_wl, k, w1]
theorem s_C_write {X : mz_X} {m : mz_M} {Q : mz_M → Prop} {f : Nat → Nat × Int32 × Nat} {S : Nat → Prop} {N i : Nat} {kd tk sz ht up lp wc st bs : Nat → Nat} {tv : Nat → Int32} {ks : Nat → List Nat} (h : z_pre N kd sz ht up ks) (hc : z_cd N kd ks wc st bs) (hE : z_wE m N kd tk sz lp wc st tv ks i) (hi : i < N) (hb : st i + wc i ≤ 8000) (hf : ∀ p e, (p, e) ∈ z_wl kd ks wc st bs lp tv i → f p = e) (hw : z_wf f m S) (hQ : ∀ m', z_fr [42, 43] m m' → z_wf f m' (fun q => S q ∨ ∃ e, (q, e) ∈ z_wl kd ks wc st bs lp tv i) → Q m') : mz_gv X mz_sh 6 0 [some (.ref 41), some (.ref 30), some (.ref 37), some (.ref 2), some (.int (nI i))] m Q := by
  have hE' := hE
  obtain ⟨⟨a1, a2, a3⟩, b2, b3, b4, b5, b6⟩ := hE'
  obtain ⟨c1, c2, c3, c4, c5, c6, c7, c8, c9, c10⟩ := a3 i hi
  have hin : mz_inb (nI i) 4001 = true := mz_inbN (by omega) (by decide)
  have hdone : ∀ {p o d : Nat} {v : Int32} {m' : mz_M}, z_wl kd ks wc st bs lp tv i = [(p, o, v, d)] → z_fr [42, 43] m m' → z_wf f m' (fun q => S q ∨ q = p) → Q m' := fun hz f1 w1 => hQ _ f1 (w1.mono (fun q hq => by
    rcases hq with hq | ⟨x, hx⟩
    · exact Or.inl hq
    · rw [hz] at hx
      simp only [List.mem_cons, List.not_mem_nil, or_false, Prod.mk.injEq] at hx
      exact Or.inr hx.1))
  have hkd : ∀ c, c < 2 ^ 31 → nI (kd i) = nI c → kd i = c := fun c hc' g => nI_eqc (c := c) rfl (by omega) hc' g
  have last : (kd i = 1 ∨ kd i = 2 ∨ 9 ≤ kd i) → ∀ v, v = (if kd i = 1 ∨ kd i = 18 ∨ kd i = 19 then tv i else 0) → mz_gv X mz_sh 13 0 [some (.ref 41), some (.int (nI (st i + wc i) - 1)), some (.int (mz_a2.getD (kd i) 0)), some (.int v)] m Q := by
    intro hk v hv
    obtain ⟨w1, w2, o, d, w3, w4⟩ := z_wl1 (lp := lp) (tv := tv) h hc hi hk
    rw [nI_m1 (by omega), w3, hv]
    exact s_C_put (d := d) (by omega) (hf _ _ (by rw [w4]; simp)) hw (fun m' f1 w' => hdone w4 f1 w')
  refine t_C_write_0 _ ?_
  rw [nI_clamp (by omega), c1]
  refine ⟨hin, fun g => ?_, fun g => ?_, fun g => ?_, fun g => ?_, fun g => ?_, fun g => ?_, fun g => ?_, fun g => ?_, fun g => ?_, fun g => ?_, fun g0 g1 g3 g4 g5 g6 g7 g8 g18 g19 => ?_⟩
  · have k := hkd 0 (by decide) g
    refine hQ m (z_fr.rf _ _) (hw.mono (fun q hq => ?_))
    rcases hq with hq | ⟨x, hx⟩
    · exact hq
    · simp [z_wl, k] at hx
  · have k := hkd 1 (by decide) g
    refine s_C_endOf (by omega) b4 (b2 i hi) ⟨hin, ?_, hin, ?_, ?_⟩
    · rw [c1]; exact mz_inbN (by omega) (by decide)
    · rw [c2]; exact mz_inbN (by omega) (by decide)
    · rw [c1, c2, nI_clamp (show kd i < 2 ^ 31 by omega), nI_clamp (by omega), b3 i hi]
      exact last (by omega) _ (by rw [if_pos (by omega)])
  · exact s_C_wIf h hc hE hi hb hf hw (hkd 3 (by decide) g) hQ
  · exact s_C_wWhile h hc hE hi hb hf hw (hkd 4 (by decide) g) hQ
  · have k := hkd 5 (by decide) g
    obtain ⟨d1, d2, d3⟩ := b6 (Or.inl k)
    refine ⟨hin, hin, ?_⟩
    rw [c7 (Or.inl k), nI_m1 d1, b4]
    have hz : z_wl kd ks wc st bs lp tv i = [(st i, 13, nI (st (lp i - 1) + wc (lp i - 1)), 0)] := by simp [z_wl, k]
    refine s_C_endOf (by omega) d3 (b2 _ d2) ?_
    exact s_C_put (o := 13) (d := 0) (by omega) (hf _ _ (by rw [hz]; simp)) hw (fun m' f1 w' => hdone hz f1 w')
  · have k := hkd 6 (by decide) g
    obtain ⟨d1, d2, d3⟩ := b6 (Or.inr k)
    refine ⟨hin, hin, ?_⟩
    rw [c7 (Or.inr k), nI_m1 d1, b4]
    have hz : z_wl kd ks wc st bs lp tv i = [(st i, 13, nI (st (lp i - 1)), 0)] := by simp [z_wl, k]
    refine s_C_startOf (by omega) d3 ?_
    exact s_C_put (o := 13) (d := 0) (by omega) (hf _ _ (by rw [hz]; simp)) hw (fun m' f1 w' => hdone hz f1 w')
  · exact s_C_wOr h hc hE hi hb hf hw (hkd 7 (by decide) g) hQ
  · exact s_C_wAnd h hc hE hi hb hf hw (hkd 8 (by decide) g) hQ
  · have k := hkd 18 (by decide) g
    refine s_C_endOf (by omega) b4 (b2 i hi) ⟨hin, ?_, hin, ?_, ?_⟩
    · rw [c1]; exact mz_inbN (by omega) (by decide)
    · rw [c2]; exact mz_inbN (by omega) (by decide)
    · rw [c1, c2, nI_clamp (show kd i < 2 ^ 31 by omega), nI_clamp (by omega), b3 i hi]
      exact last (by omega) _ (by rw [if_pos (by omega)])
  · have k := hkd 19 (by decide) g
    refine s_C_endOf (by omega) b4 (b2 i hi) ⟨hin, ?_, hin, ?_, ?_⟩
    · rw [c1]; exact mz_inbN (by omega) (by decide)
    · rw [c2]; exact mz_inbN (by omega) (by decide)
    · rw [c1, c2, nI_clamp (show kd i < 2 ^ 31 by omega), nI_clamp (by omega), b3 i hi]
      exact last (by omega) _ (by rw [if_pos (by omega)])
  · have n0 : kd i ≠ 0 := fun e => g0 (by rw [e]; rfl)
    have n1 : kd i ≠ 1 := fun e => g1 (by rw [e]; rfl)
    have n3 : kd i ≠ 3 := fun e => g3 (by rw [e]; rfl)
    have n4 : kd i ≠ 4 := fun e => g4 (by rw [e]; rfl)
    have n5 : kd i ≠ 5 := fun e => g5 (by rw [e]; rfl)
    have n6 : kd i ≠ 6 := fun e => g6 (by rw [e]; rfl)
    have n7 : kd i ≠ 7 := fun e => g7 (by rw [e]; rfl)
    have n8 : kd i ≠ 8 := fun e => g8 (by rw [e]; rfl)
    have n18 : kd i ≠ 18 := fun e => g18 (by rw [e]; rfl)
    have n19 : kd i ≠ 19 := fun e => g19 (by rw [e]; rfl)
    refine s_C_endOf (by omega) b4 (b2 i hi) ⟨hin, ?_, ?_⟩
    · rw [c1]; exact mz_inbN (by omega) (by decide)
    · rw [c1, nI_clamp (show kd i < 2 ^ 31 by omega)]
      exact last (by omega) _ (by rw [if_neg (by omega)])
