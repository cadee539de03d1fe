theorem mz_oal_mem {j : Nat} {q : FieldType × Nat × (Nat → Int32)} : ∀ (l : List (Nat × FieldType × List Int32)), mz_oal j l = some q → ∃ e ∈ l, e.1 = j ∧ q = (e.2.1, e.2.2.length, fun i => e.2.2.getD i 0) := by
  intro l
  induction l with
  | nil => intro h; cases h
  | cons e t ih =>
    intro h
    simp only [mz_oal] at h
    cases hb : Nat.beq e.1 j with
    | true =>
      rw [hb] at h
      simp only [cond_true, Option.some.injEq] at h
      exact ⟨e, List.mem_cons_self, Nat.eq_of_beq_eq_true hb, h.symm⟩
    | false =>
      rw [hb] at h
      obtain ⟨e', h1, h2⟩ := ih h
      exact ⟨e', List.mem_cons_of_mem _ h1, h2⟩
theorem mz_old2 {X : mz_X} {ov : Nat → Value} {A : Nat → Prop} {s : State} {b : Nat} {t0 : Nat} {t1 : Nat} {t2 : Nat} {t3 : Nat} {t4 : Nat} {t5 : Nat} {t6 : Nat} {t7 : Nat} {v0 : Nat} {v1 : Nat} {v2 : Nat} {v3 : Nat} {v4 : Nat} {v5 : Nat} {v6 : Nat} {v7 : Nat} (T0 : va_T .int t0 mz_a0.length (fun i => .int (mz_a0.getD i 0)) A s s.heap) (o0 : ov 0 = .ref t0) (T1 : va_T .int t1 mz_a1.length (fun i => .int (mz_a1.getD i 0)) A s s.heap) (o1 : ov 1 = .ref t1) (T2 : va_T .int t2 mz_a2.length (fun i => .int (mz_a2.getD i 0)) A s s.heap) (o2 : ov 2 = .ref t2) (T3 : va_T .int t3 mz_a3.length (fun i => .int (mz_a3.getD i 0)) A s s.heap) (o3 : ov 3 = .ref t3) (T4 : va_T .int t4 mz_a4.length (fun i => .int (mz_a4.getD i 0)) A s s.heap) (o4 : ov 4 = .ref t4) (T5 : va_T .int t5 mz_a5.length (fun i => .int (mz_a5.getD i 0)) A s s.heap) (o5 : ov 5 = .ref t5) (T6 : va_T .int t6 mz_a6.length (fun i => .int (mz_a6.getD i 0)) A s s.heap) (o6 : ov 6 = .ref t6) (T7 : va_T .int t7 mz_a7.length (fun i => .int (mz_a7.getD i 0)) A s s.heap) (o7 : ov 7 = .ref t7) (V0 : va_T .byte v0 mz_b0.length (fun i => .int (mz_b0.getD i 0)) A s s.heap) (p0 : ov 30 = .ref v0) (V1 : va_T .byte v1 mz_b1.length (fun i => .int (mz_b1.getD i 0)) A s s.heap) (p1 : ov 31 = .ref v1) (V2 : va_T .byte v2 mz_b2.length (fun i => .int (mz_b2.getD i 0)) A s s.heap) (p2 : ov 32 = .ref v2) (V3 : va_T .byte v3 mz_b3.length (fun i => .int (mz_b3.getD i 0)) A s s.heap) (p3 : ov 33 = .ref v3) (V4 : va_T .byte v4 mz_b4.length (fun i => .int (mz_b4.getD i 0)) A s s.heap) (p4 : ov 34 = .ref v4) (V5 : va_T .byte v5 mz_b5.length (fun i => .int (mz_b5.getD i 0)) A s s.heap) (p5 : ov 35 = .ref v5) (V6 : va_T .byte v6 mz_b6.length (fun i => .int (mz_b6.getD i 0)) A s s.heap) (p6 : ov 36 = .ref v6) (V7 : va_T .byte v7 mz_b7.length (fun i => .int (mz_b7.getD i 0)) A s s.heap) (p7 : ov 37 = .ref v7) (hX : va_T .int b X.1 (fun i => .int (X.2 i)) A s s.heap) (oX : ov 50 = .ref b) : ∀ (j : Nat) (q : FieldType × Nat × (Nat → Int32)), mz_oa X j = some q → ∃ t, ov j = .ref t ∧ va_T q.1 t q.2.1 (fun i => .int (q.2.2 i)) A s s.heap := by
  intro j q hq
  unfold mz_oa at hq
  cases h50 : Nat.beq j 50 with
  | true =>
    rw [h50] at hq
    simp only [cond_true, Option.some.injEq] at hq
    have e1 := Nat.eq_of_beq_eq_true h50
    subst e1
    subst hq
    exact ⟨b, oX, hX⟩
  | false =>
    rw [h50] at hq
    simp only [cond_false] at hq
    obtain ⟨e, he, hej, hqe⟩ := mz_oal_mem _ hq
    subst hej
    subst hqe
    unfold mz_arrs at he
    rcases List.mem_cons.mp he with h | he
    · rw [h]
      exact ⟨_, o0, T0⟩
    rcases List.mem_cons.mp he with h | he
    · rw [h]
      exact ⟨_, o1, T1⟩
    rcases List.mem_cons.mp he with h | he
    · rw [h]
      exact ⟨_, o2, T2⟩
    rcases List.mem_cons.mp he with h | he
    · rw [h]
      exact ⟨_, o3, T3⟩
    rcases List.mem_cons.mp he with h | he
    · rw [h]
      exact ⟨_, o4, T4⟩
    rcases List.mem_cons.mp he with h | he
    · rw [h]
      exact ⟨_, o5, T5⟩
    rcases List.mem_cons.mp he with h | he
    · rw [h]
      exact ⟨_, o6, T6⟩
    rcases List.mem_cons.mp he with h | he
    · rw [h]
      exact ⟨_, o7, T7⟩
    rcases List.mem_cons.mp he with h | he
    · rw [h]
      exact ⟨_, p0, V0⟩
    rcases List.mem_cons.mp he with h | he
    · rw [h]
      exact ⟨_, p1, V1⟩
    rcases List.mem_cons.mp he with h | he
    · rw [h]
      exact ⟨_, p2, V2⟩
    rcases List.mem_cons.mp he with h | he
    · rw [h]
      exact ⟨_, p3, V3⟩
    rcases List.mem_cons.mp he with h | he
    · rw [h]
      exact ⟨_, p4, V4⟩
    rcases List.mem_cons.mp he with h | he
    · rw [h]
      exact ⟨_, p5, V5⟩
    rcases List.mem_cons.mp he with h | he
    · rw [h]
      exact ⟨_, p6, V6⟩
    rcases List.mem_cons.mp he with h | he
    · rw [h]
      exact ⟨_, p7, V7⟩
    exact absurd he List.not_mem_nil
set_option maxHeartbeats 4000000 in
/-- the old cells at the law's entry -/
theorem mz_old0 {s : State} {b L : Nat} {xs : Nat → Int32} (hts : ∀ w ∈ lw_tbl, w.before #[Value.ref b] s = true) (hX : va_X b L xs s s.heap) (hbl : b < s.heap.size) (hgv : (Jvm.Cond.and given_1 narrow_1).before #[Value.ref b] s = true) : ∃ ov : Nat → Value, ov 50 = .ref b ∧ mz_Old (L, xs) ov (fun q => s.heap.size ≤ q) s s.heap := by
  have hF : ∀ c ∈ mz_F, c.before #[Value.ref b] s = true := flat_of_before _ hgv
  have hA : ∀ a : Nat, a < s.heap.size → ¬ (fun q => s.heap.size ≤ q) a := fun a h h2 => Nat.not_le.mpr h h2
  obtain ⟨t0, e0, T0⟩ := mz_sarr hA hF "TinyFront$Code" "OWN_WORDS" mz_a0 (by decide) (mz_seg mz_in0)
  obtain ⟨t1, e1, T1⟩ := mz_sarr hA hF "TinyFront$Code" "WORDS_BETWEEN" mz_a1 (by decide) (mz_seg mz_in1)
  obtain ⟨t2, e2, T2⟩ := mz_sarr hA hF "TinyFront$Code" "WORD_OF" mz_a2 (by decide) (mz_seg mz_in2)
  obtain ⟨t3, e3, T3⟩ := mz_sarr hA hF "TinyFront$Parser" "NODE_OF" mz_a3 (by decide) (mz_seg mz_in3)
  obtain ⟨t4, e4, T4⟩ := mz_sarr hA hF "TinyFront$Parser" "PARTS_OF" mz_a4 (by decide) (mz_seg mz_in4)
  obtain ⟨t5, e5, T5⟩ := mz_sarr hA hF "TinyFront$Parser" "TOKEN_AT" mz_a5 (by decide) (mz_seg mz_in5)
  obtain ⟨t6, e6, T6⟩ := mz_sarr hA hF "TinyFront$Table" "LETTER_OF" mz_a6 (by decide) (mz_seg mz_in6)
  obtain ⟨t7, e7, T7⟩ := mz_sarr hA hF "TinyFront$Table" "ROWS" mz_a7 (by decide) (mz_seg mz_in7)
  obtain ⟨a0, v0, f0, O0, C0, D0, V0⟩ := mz_stx hA hF "TinyFront$Tokens" 109 mz_b0 (by decide) (mz_seg mz_jn0)
  obtain ⟨a1, v1, f1, O1, C1, D1, V1⟩ := mz_stx hA hF "TinyFront$Tokens" 111 mz_b1 (by decide) (mz_seg mz_jn1)
  obtain ⟨a2, v2, f2, O2, C2, D2, V2⟩ := mz_stx hA hF "TinyFront$Tokens" 113 mz_b2 (by decide) (mz_seg mz_jn2)
  obtain ⟨a3, v3, f3, O3, C3, D3, V3⟩ := mz_stx hA hF "TinyFront$Tokens" 115 mz_b3 (by decide) (mz_seg mz_jn3)
  obtain ⟨a4, v4, f4, O4, C4, D4, V4⟩ := mz_stx hA hF "TinyFront$Tokens" 117 mz_b4 (by decide) (mz_seg mz_jn4)
  obtain ⟨a5, v5, f5, O5, C5, D5, V5⟩ := mz_stx hA hF "TinyFront$Tokens" 119 mz_b5 (by decide) (mz_seg mz_jn5)
  obtain ⟨a6, v6, f6, O6, C6, D6, V6⟩ := mz_stx hA hF "TinyFront$Tokens" 88 mz_b6 (by decide) (mz_seg mz_jn6)
  obtain ⟨a7, v7, f7, O7, C7, D7, V7⟩ := mz_stx hA hF "TinyFront$Tokens" 95 mz_b7 (by decide) (mz_seg mz_jn7)
  have hst : ∀ q ∈ mz_sts, Cond.laysStatic q.1 q.2.1 q.2.2.1 ∈ lw_tbl ∧ Cond.initialized q.1 ∈ lw_tbl := fun q hq => by
    have h := List.all_eq_true.mp mz_sst q hq
    rw [Bool.and_eq_true, decide_eq_true_eq, decide_eq_true_eq] at h
    exact h
  have hfm : ∃ w : Value, (w = .null ∨ ∃ t, w = .ref t) ∧ va_Z "jdk/internal/util/Preconditions" "SIOOBE_FORMATTER" "Ljava/util/function/BiFunction;" w (fun q => s.heap.size ≤ q) s s.heap := by
    have h1 := hst _ (List.mem_of_getElem? (i := 12) rfl)
    rcases va_Zqof (hts _ h1.1) (hts _ h1.2) (hF _ (mz_seg mz_kn12 _ List.mem_cons_self)) hA with h | ⟨t, h⟩
    · exact ⟨_, Or.inl rfl, h⟩
    · exact ⟨_, Or.inr ⟨t, rfl⟩, h⟩
  obtain ⟨w, hw, hwZ⟩ := hfm
  obtain ⟨ov, o0, o1, o2, o3, o4, o5, o6, o7, r0, r1, r2, r3, r4, r5, r6, r7, p0, p1, p2, p3, p4, p5, p6, p7, oX, oW, oA⟩ : ∃ ov : Nat → Value, ov 0 = .ref t0 ∧ ov 1 = .ref t1 ∧ ov 2 = .ref t2 ∧ ov 3 = .ref t3 ∧ ov 4 = .ref t4 ∧ ov 5 = .ref t5 ∧ ov 6 = .ref t6 ∧ ov 7 = .ref t7 ∧ ov 10 = .ref a0 ∧ ov 11 = .ref a1 ∧ ov 12 = .ref a2 ∧ ov 13 = .ref a3 ∧ ov 14 = .ref a4 ∧ ov 15 = .ref a5 ∧ ov 16 = .ref a6 ∧ ov 17 = .ref a7 ∧ ov 30 = .ref v0 ∧ ov 31 = .ref v1 ∧ ov 32 = .ref v2 ∧ ov 33 = .ref v3 ∧ ov 34 = .ref v4 ∧ ov 35 = .ref v5 ∧ ov 36 = .ref v6 ∧ ov 37 = .ref v7 ∧ ov 50 = .ref b ∧ ov 99 = w ∧ ∀ j, ov j = .null ∨ ∃ t, ov j = .ref t := ⟨fun j => match j with | 0 => .ref t0 | 1 => .ref t1 | 2 => .ref t2 | 3 => .ref t3 | 4 => .ref t4 | 5 => .ref t5 | 6 => .ref t6 | 7 => .ref t7 | 10 => .ref a0 | 11 => .ref a1 | 12 => .ref a2 | 13 => .ref a3 | 14 => .ref a4 | 15 => .ref a5 | 16 => .ref a6 | 17 => .ref a7 | 30 => .ref v0 | 31 => .ref v1 | 32 => .ref v2 | 33 => .ref v3 | 34 => .ref v4 | 35 => .ref v5 | 36 => .ref v6 | 37 => .ref v7 | 50 => .ref b | 99 => w | _ => .null, rfl, rfl, rfl, rfl, rfl, rfl, rfl, rfl, rfl, rfl, rfl, rfl, rfl, rfl, rfl, rfl, rfl, rfl, rfl, rfl, rfl, rfl, rfl, rfl, rfl, rfl, fun j => by
    dsimp only
    split <;> first | exact hw | exact Or.inl rfl | exact Or.inr ⟨_, rfl⟩⟩
  refine ⟨ov, oX, ?_, mz_old2 T0 o0 T1 o1 T2 o2 T3 o3 T4 o4 T5 o5 T6 o6 T7 o7 V0 p0 V1 p1 V2 p2 V3 p3 V4 p4 V5 p5 V6 p6 V7 p7 (b := b) ?_ oX, ?_, oA, fun q hq => va_Nw.of rfl (hts _ (by simpa using List.all_eq_true.mp mz_nsin q hq))⟩
  · intro k q hq
    have hm := hst q (List.mem_of_getElem? hq)
    match k, hq with
    | 0, hq =>
      cases hq
      show va_Z _ _ _ (ov 0) _ _ _
      rw [o0]
      exact va_Zof (hts _ hm.1) (hts _ hm.2) e0 hA
    | 1, hq =>
      cases hq
      show va_Z _ _ _ (ov 1) _ _ _
      rw [o1]
      exact va_Zof (hts _ hm.1) (hts _ hm.2) e1 hA
    | 2, hq =>
      cases hq
      show va_Z _ _ _ (ov 2) _ _ _
      rw [o2]
      exact va_Zof (hts _ hm.1) (hts _ hm.2) e2 hA
    | 3, hq =>
      cases hq
      show va_Z _ _ _ (ov 3) _ _ _
      rw [o3]
      exact va_Zof (hts _ hm.1) (hts _ hm.2) e3 hA
    | 4, hq =>
      cases hq
      show va_Z _ _ _ (ov 4) _ _ _
      rw [o4]
      exact va_Zof (hts _ hm.1) (hts _ hm.2) e4 hA
    | 5, hq =>
      cases hq
      show va_Z _ _ _ (ov 5) _ _ _
      rw [o5]
      exact va_Zof (hts _ hm.1) (hts _ hm.2) e5 hA
    | 6, hq =>
      cases hq
      show va_Z _ _ _ (ov 6) _ _ _
      rw [o6]
      exact va_Zof (hts _ hm.1) (hts _ hm.2) e6 hA
    | 7, hq =>
      cases hq
      show va_Z _ _ _ (ov 7) _ _ _
      rw [o7]
      exact va_Zof (hts _ hm.1) (hts _ hm.2) e7 hA
    | 8, hq => cases hq; exact va_Zof (hts _ hm.1) (hts _ hm.2) (va_eqi (hF _ (mz_seg mz_kn8 _ List.mem_cons_self))) hA
    | 9, hq => cases hq; exact va_Zof (hts _ hm.1) (hts _ hm.2) (va_eqi (hF _ (mz_seg mz_kn9 _ List.mem_cons_self))) hA
    | 10, hq => cases hq; exact va_Zof (hts _ hm.1) (hts _ hm.2) (va_eqi (hF _ (mz_seg mz_kn10 _ List.mem_cons_self))) hA
    | 11, hq => cases hq; exact va_Zof (hts _ hm.1) (hts _ hm.2) (va_eqi (hF _ (mz_seg mz_kn11 _ List.mem_cons_self))) hA
    | 12, hq =>
      cases hq
      show va_Z _ _ _ (ov 99) _ _ _
      rw [oW]
      exact hwZ
    | k + 13, hq => simp [mz_sts] at hq
  · obtain ⟨scr, x1, x2, x3, x4, x5⟩ := hX
    exact ⟨scr, x1, x2, x3, Nat.le_of_eq x4.symm, by rw [x4], x5, hA b hbl⟩
  · intro j q hq
    have hsr : (Cond.stringRef q.1 q.2.1 q.2.2.1).before #[Value.ref b] s = true := hts _ (by simpa using List.all_eq_true.mp mz_ssr q (List.mem_of_getElem? hq))
    match j, hq with
    | 0, hq => cases hq; exact ⟨a0, r0, vk_R.of hsr f0, O0, C0, by rw [p0]; exact D0⟩
    | 1, hq => cases hq; exact ⟨a1, r1, vk_R.of hsr f1, O1, C1, by rw [p1]; exact D1⟩
    | 2, hq => cases hq; exact ⟨a2, r2, vk_R.of hsr f2, O2, C2, by rw [p2]; exact D2⟩
    | 3, hq => cases hq; exact ⟨a3, r3, vk_R.of hsr f3, O3, C3, by rw [p3]; exact D3⟩
    | 4, hq => cases hq; exact ⟨a4, r4, vk_R.of hsr f4, O4, C4, by rw [p4]; exact D4⟩
    | 5, hq => cases hq; exact ⟨a5, r5, vk_R.of hsr f5, O5, C5, by rw [p5]; exact D5⟩
    | 6, hq => cases hq; exact ⟨a6, r6, vk_R.of hsr f6, O6, C6, by rw [p6]; exact D6⟩
    | 7, hq => cases hq; exact ⟨a7, r7, vk_R.of hsr f7, O7, C7, by rw [p7]; exact D7⟩
    | k + 8, hq => simp [mz_txs] at hq
