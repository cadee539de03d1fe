/-! the code's run: both sides -/
theorem s_G_isOfOne {X : mz_X} {m : mz_M} {Q : Int32 → mz_M → Prop} {w : Nat} (hw : w ≤ 12) (h1 : w < 10 → Q 0 m) (h2 : 10 ≤ w → Q 1 m) : mz_gi X mz_sh 18 0 [some (.int (nI w))] m Q := by
  refine t_G_isOfOne_0 _ ⟨fun h => ?_, fun g1 => ⟨fun h => ?_, fun g2 => ⟨fun h => ?_, fun g3 => ?_⟩⟩⟩
  · have e := nI_eqc (c := 10) rfl (by omega) (by omega) h; exact h2 (by omega)
  · have e := nI_eqc (c := 11) rfl (by omega) (by omega) h; exact h2 (by omega)
  · have e := nI_eqc (c := 12) rfl (by omega) (by omega) h; exact h2 (by omega)
  · have f : ∀ (c : Nat), ¬ nI w = nI c → w ≠ c := fun c hc e => hc (by rw [e])
    have := f 10 g1; have := f 11 g2; have := f 12 g3
    exact h1 (by omega)
theorem z_len1 {st : List Int32} {n : Nat} (h : st.length = n) (hn : 1 ≤ n) : ∃ v t, st = v :: t ∧ t.length + 1 = n := by
  cases st with
  | nil => simp at h; omega
  | cons v t => exact ⟨v, t, rfl, by simpa using h⟩
theorem s_G_go1 {X : mz_X} {Q : mz_M → Prop} {W F : Nat} {op : Nat → Nat} {va : Nat → Int32} {dp : Nat → Nat} (hW : W ≤ 8001) (hF : F ≤ 100000) : ∀ (k t q : Nat) (st : List Int32) (s : z_rs) (m : mz_M), t + k = F → q < W → st.length = dp q → s.2.1 ≤ t → q_A m F t s → m 47 1 = -1 → p_A m st → m 41 2 = nI W → (∀ j, j < W → m 42 j = nI (op j) ∧ m 43 j = va j ∧ z_wd W op va dp j) → (∀ m' h k' s', z_cr op va k q st s = (h, k', s') → q_A m' F (F - k') s' → m' 47 1 = h → z_fr [47, 48, 49, 53, 54] m m' → Q m') → mz_gv X mz_sh 15 9 [some (.ref 53), some (.int (nI q)), some (.int (nI t))] m Q := by
  intro k
  induction k with
  | zero =>
    intro t q st s m htk hq hst hpr hqA hgo hpA hW2 hc hQ
    refine t_G_go_1 _ _ ⟨fun h => ?_, fun _ => t_R_isGoing_0 ⟨fun _ => ⟨fun h => absurd h (by decide), fun _ => ⟨fun h => absurd h (nI_pos (by omega)), fun _ => ⟨fun h => ?_, fun _ => s_R_begins hqA hF (by omega) (fun h => by omega) (fun _ m1 q1 f1 g1 => ⟨fun _ => hQ m1 1 0 s rfl ?_ g1 (f1.wk (by decide)), fun h => absurd rfl h⟩)⟩⟩⟩, fun h => absurd hgo h⟩⟩
    · rw [hqA.2.1] at h
      exact absurd h (nI_nlt (by omega) (by omega))
    · rw [hW2] at h
      exact absurd h (nI_ge hq (by omega))
    · have : F - 0 = t := by omega
      rw [this]; exact q1
  | succ k ih =>
    intro t q st s m htk hq hst hpr hqA hgo hpA hW2 hc hQ
    refine t_G_go_1 _ _ ⟨fun h => ?_, fun _ => t_R_isGoing_0 ⟨fun _ => ⟨fun h => absurd h (by decide), fun _ => ⟨fun h => absurd h (nI_pos (by omega)), fun _ => ⟨fun h => ?_, fun _ => s_R_begins hqA hF (by omega) (fun _ m1 q1 f1 g1 => ⟨fun h => absurd h (by decide), fun _ => ?_⟩) (fun h => by omega)⟩⟩⟩, fun h => absurd hgo h⟩⟩
    · rw [hqA.2.1] at h
      exact absurd h (nI_nlt (by omega) (by omega))
    · rw [hW2] at h
      exact absurd h (nI_ge hq (by omega))
    have hin : mz_inb (nI q) 8001 = true := mz_inbN (by omega) (by decide)
    refine ⟨hin, hin, ?_⟩
    obtain ⟨c1, c2, hdp, c3⟩ := hc q hq
    rw [nI_clamp (by omega), f1 42 (by decide), f1 43 (by decide), c1, c2, nI_1 t]
    have hp1 : p_A m1 st := p_A_fr hpA f1 (by decide) (by decide)
    rw [hgo] at g1
    have nxt : ∀ q' st' s' m2, q' < W → st'.length = dp q' → s'.2.1 ≤ t + 1 → q_A m2 F (t + 1) s' → m2 47 1 = -1 → p_A m2 st' → z_fr [47, 48, 49, 53, 54] m1 m2 → z_cr op va (k + 1) q st s = z_cr op va k q' st' s' → mz_gv X mz_sh 15 9 [some (.ref 53), some (.int (nI q')), some (.int (nI (t + 1)))] m2 Q := by
      intro q' st' s' m2 a1 a2 a3 a4 a5 a6 a7 a8
      have f2 : z_fr [47, 48, 49, 53, 54] m m2 := (f1.wk (by decide)).tr a7
      refine ih (t + 1) q' st' s' m2 (by omega) a1 a2 a3 a4 a5 a6 (by rw [f2 41 (by decide)]; exact hW2) (fun j hj => ?_) (fun m' h k' s'' b1 b2 b3 b4 => hQ m' h k' s'' (a8.trans b1) b2 b3 (f2.tr b4))
      rw [f2 42 (by decide), f2 43 (by decide)]
      exact hc j hj
    have fin : ∀ r h s' m2, ¬ h = -1 → m2 47 1 = h → q_A m2 F (t + 1) s' → z_fr [47, 48, 49, 53, 54] m1 m2 → z_cr op va (k + 1) q st s = (h, k, s') → mz_gv X mz_sh 15 9 [some (.ref 53), some (.int r), some (.int (nI (t + 1)))] m2 Q := by
      intro r h s' m2 a1 a2 a3 a4 a5
      have hq2 : Q m2 := hQ m2 h k s' a5 (by rw [show F - k = t + 1 by omega]; exact a3) a2 ((f1.wk (by decide)).tr a4)
      exact t_G_go_1 _ _ ⟨fun _ => hq2, fun _ => t_R_isGoing_0 ⟨fun h3 => absurd (a2.symm.trans h3) a1, fun _ => ⟨fun _ => hq2, fun h3 => absurd rfl h3⟩⟩⟩
    have hpr1 : (z_beg s (nI q)).2.1 ≤ t + 1 := Nat.le_succ_of_le hpr
    rcases c3 with ⟨o, w1, w2⟩ | ⟨o, w1, w2, v, w3, w4⟩ | ⟨o, w1, w2, v, w3, w4⟩ | ⟨o1, o2, w1, w2, w3⟩ | ⟨o1, o2, w1, w2, w3⟩ | ⟨o, tt, w1, w2, w3⟩ | ⟨o, w1, w2, tt, w3, w4, w5⟩ | ⟨o, w1, w2⟩ | o
    · rw [o]
      refine t_G_goWord_0 _ _ _ ⟨fun _ => ?_, fun h => absurd h (by decide), fun h => absurd h (by decide), fun h => absurd h (by decide), fun h => absurd h (by decide), fun h => absurd h (by decide), fun h => absurd h (by decide), fun h => absurd rfl h⟩
      refine s_G_push hp1 (by omega) (fun m2 p2 f2 => ?_)
      rw [nI_1 q]
      exact nxt (q + 1) (va q :: st) (z_beg s (nI q)) m2 w1 (by simp [hst, w2]) hpr1 (q_A_fr q1 f2 (by decide) (by decide) (by decide)) (by rw [f2 47 (by decide)]; exact g1) p2 (f2.wk (by decide)) (by simp only [z_cr, if_pos o])
    · rw [o, w4]
      refine t_G_goWord_0 _ _ _ ⟨fun h => absurd h (by decide), fun _ => ?_, fun h => absurd h (by decide), fun h => absurd h (by decide), fun h => absurd h (by decide), fun h => absurd h (by decide), fun h => absurd h (by decide), fun _ h => absurd rfl h⟩
      refine s_R_load w3 (s_G_push hp1 (by omega) (fun m2 p2 f2 => ?_))
      rw [nI_1 q]
      refine nxt (q + 1) _ (z_beg s (nI q)) m2 w1 (by simp [hst, w2]) hpr1 (q_A_fr q1 f2 (by decide) (by decide) (by decide)) (by rw [f2 47 (by decide)]; exact g1) p2 (f2.wk (by decide)) ?_
      simp only [z_cr, List.headD_cons, List.tail_cons]
      rw [if_neg (by omega), if_pos o, w4, nI_clamp (by omega), q1.2.2.2.2.2.2]
      all_goals rfl
    · rw [o, w4]
      obtain ⟨b, st', rfl, hl⟩ := z_len1 hst (by omega)
      refine t_G_goWord_0 _ _ _ ⟨fun h => absurd h (by decide), fun h => absurd h (by decide), fun _ => ?_, fun h => absurd h (by decide), fun h => absurd h (by decide), fun h => absurd h (by decide), fun h => absurd h (by decide), fun _ _ h => absurd rfl h⟩
      refine s_G_pop hp1 (by omega) (fun m2 p2 f2 => s_R_store (q_A_fr q1 f2 (by decide) (by decide) (by decide)) w3 (fun m3 q3 f3 => ?_))
      rw [nI_1 q]
      refine nxt (q + 1) st' (z_sto (z_beg s (nI q)) v b) m3 w1 (by omega) hpr1 q3 (by rw [f3 47 (by decide), f2 47 (by decide)]; exact g1) (p_A_fr p2 f3 (by decide) (by decide)) ((f2.wk (by decide)).tr (f3.wk (by decide))) ?_
      simp only [z_cr, List.headD_cons, List.tail_cons]
      rw [if_neg (by omega), if_neg (by omega), if_pos o, w4, nI_clamp (by omega)]
      all_goals rfl
    · obtain ⟨b, st1, rfl, hl1⟩ := z_len1 hst (by omega)
      obtain ⟨a, st2, rfl, hl2⟩ := z_len1 (n := dp q - 1) (st := st1) (by omega) (by omega)
      have hne : ∀ c : Nat, c < 3 ∨ 9 < c → c ≤ 100 → ¬ nI (op q) = nI c := fun c hc1 hc2 h => by
        have := (nI_eq (by omega) (by omega)).mp h
        omega
      refine t_G_goWord_0 _ _ _ ⟨fun h => absurd h (hne 0 (by omega) (by omega)), fun h => absurd h (hne 1 (by omega) (by omega)), fun h => absurd h (hne 2 (by omega) (by omega)), fun h => absurd h (hne 13 (by omega) (by omega)), fun h => absurd h (hne 14 (by omega) (by omega)), fun h => absurd h (hne 15 (by omega) (by omega)), fun h => absurd h (hne 16 (by omega) (by omega)), fun _ _ _ _ _ _ _ => ?_⟩
      refine t_G_replaceUppermost_0 _ (s_G_pop hp1 (by simp only [List.length_cons] at hl1 ⊢; omega) (fun m2 p2 f2 => s_G_isOfOne (by omega) (fun _ => ⟨fun _ => ?_, fun h => absurd rfl h⟩) (fun h => by omega)))
      refine s_G_pop p2 (by omega) (fun m3 p3 f3 => s_R_calculate (by omega) (fun hnd => s_G_push p3 (by omega) (fun m4 p4 f4 => ?_)) (fun h67 hb => s_G_push (st := st2) (p_A_fr p3 ((z_fr.rf [47] _).up (by decide)) (by decide) (by decide)) (by omega) (fun m4 p4 f4 => ?_)))
      · rw [nI_1 q]
        have f5 := (f2.tr f3).tr f4
        refine nxt (q + 1) _ (z_beg s (nI q)) m4 w1 (by simp only [List.length_cons]; omega) hpr1 (q_A_fr q1 f5 (by decide) (by decide) (by decide)) (by rw [f5 47 (by decide)]; exact g1) p4 (f5.wk (by decide)) ?_
        simp only [z_cr, List.headD_cons, List.tail_cons]
        rw [if_neg (by omega), if_neg (by omega), if_neg (by omega), if_pos o2]
        exact if_neg hnd
        all_goals rfl
      · have f5 := f2.tr f3
        have hq3 := q_A_fr q1 f5 (by decide) (by decide) (by decide)
        refine fin _ 2 (z_beg s (nI q)) m4 (by decide) (by rw [f4 47 (by decide), mz_up_k]; simp [upd]) (q_A_fr (m := mz_up m3 47 1 2) ?_ f4 (by decide) (by decide) (by decide)) ?_ ?_
        · obtain ⟨e0, e1, e2, e3, e4, e5, e6⟩ := hq3
          exact ⟨by simp only [mz_up_k, upd]; exact e0, by simp only [mz_up_k, upd]; exact e1, by simp only [mz_up_k, upd]; exact e2, by simp only [mz_up_k, upd]; exact e3, by simp only [mz_up_k, upd]; exact e4, by rw [mz_up_n _ _ _ (by decide)]; exact e5, by rw [mz_up_n _ _ _ (by decide)]; exact e6⟩
        · exact ((f5.wk (l' := [47, 48, 49, 53, 54]) (by decide)).up (by decide)).tr (f4.wk (by decide))
        · simp only [z_cr, List.headD_cons, List.tail_cons]
          rw [if_neg (by omega), if_neg (by omega), if_neg (by omega), if_pos o2]
          exact if_pos ⟨h67, hb⟩
    · obtain ⟨b, st1, rfl, hl1⟩ := z_len1 hst (by omega)
      have hne : ∀ c : Nat, c < 10 ∨ 12 < c → c ≤ 100 → ¬ nI (op q) = nI c := fun c hc1 hc2 h => by
        have := (nI_eq (by omega) (by omega)).mp h
        omega
      refine t_G_goWord_0 _ _ _ ⟨fun h => absurd h (hne 0 (by omega) (by omega)), fun h => absurd h (hne 1 (by omega) (by omega)), fun h => absurd h (hne 2 (by omega) (by omega)), fun h => absurd h (hne 13 (by omega) (by omega)), fun h => absurd h (hne 14 (by omega) (by omega)), fun h => absurd h (hne 15 (by omega) (by omega)), fun h => absurd h (hne 16 (by omega) (by omega)), fun _ _ _ _ _ _ _ => ?_⟩
      refine t_G_replaceUppermost_0 _ (s_G_pop hp1 (by omega) (fun m2 p2 f2 => s_G_isOfOne (by omega) (fun h => by omega) (fun _ => ⟨fun h => absurd h (by decide), fun _ => ?_⟩)))
      refine s_R_calculate (by omega) (fun hnd => s_G_push p2 (by omega) (fun m4 p4 f4 => ?_)) (fun h67 hb => by omega)
      rw [nI_1 q]
      have f5 := f2.tr f4
      refine nxt (q + 1) _ (z_beg s (nI q)) m4 w1 (by simp only [List.length_cons]; omega) hpr1 (q_A_fr q1 f5 (by decide) (by decide) (by decide)) (by rw [f5 47 (by decide)]; exact g1) p4 (f5.wk (by decide)) ?_
      simp only [z_cr, List.headD_cons, List.tail_cons]
      rw [if_neg (by omega), if_neg (by omega), if_neg (by omega), if_neg (by omega), if_pos o2]
      all_goals rfl
    · rw [o, w1]
      refine t_G_goWord_0 _ _ _ ⟨fun h => absurd h (by decide), fun h => absurd h (by decide), fun h => absurd h (by decide), fun _ => ?_, fun h => absurd h (by decide), fun h => absurd h (by decide), fun h => absurd h (by decide), fun _ _ _ h => absurd rfl h⟩
      refine nxt tt st (z_beg s (nI q)) m1 w2 (by omega) hpr1 q1 g1 hp1 (z_fr.rf _ _) ?_
      simp only [z_cr, List.headD_cons, List.tail_cons]
      rw [if_neg (by omega), if_neg (by omega), if_neg (by omega), if_neg (by omega), if_neg (by omega), if_pos o, w1, nI_clamp (by omega)]
    · rw [o, w3]
      obtain ⟨b, st', rfl, hl⟩ := z_len1 hst (by omega)
      have hz : z_cr op va (k + 1) q (b :: st') s = z_cr op va k (if b = 0 then tt else q + 1) st' (z_beg s (nI q)) := by
        simp only [z_cr, List.headD_cons, List.tail_cons]
        rw [if_neg (by omega), if_neg (by omega), if_neg (by omega), if_neg (by omega), if_neg (by omega), if_neg (by omega), if_pos o, w3, nI_clamp (by omega)]
        all_goals rfl
      refine t_G_goWord_0 _ _ _ ⟨fun h => absurd h (by decide), fun h => absurd h (by decide), fun h => absurd h (by decide), fun h => absurd h (by decide), fun _ => ?_, fun h => absurd h (by decide), fun h => absurd h (by decide), fun _ _ _ _ h => absurd rfl h⟩
      refine s_G_pop hp1 (by omega) (fun m2 p2 f2 => ⟨fun h0 => ?_, fun h0 => ?_⟩)
      · exact nxt tt st' (z_beg s (nI q)) m2 w4 (by omega) hpr1 (q_A_fr q1 f2 (by decide) (by decide) (by decide)) (by rw [f2 47 (by decide)]; exact g1) p2 (f2.wk (by decide)) (by rw [hz, if_pos h0])
      · rw [nI_1 q]
        exact nxt (q + 1) st' (z_beg s (nI q)) m2 w1 (by omega) hpr1 (q_A_fr q1 f2 (by decide) (by decide) (by decide)) (by rw [f2 47 (by decide)]; exact g1) p2 (f2.wk (by decide)) (by rw [hz, if_neg h0])
    · rw [o]
      obtain ⟨b, st', rfl, hl⟩ := z_len1 hst (by omega)
      refine t_G_goWord_0 _ _ _ ⟨fun h => absurd h (by decide), fun h => absurd h (by decide), fun h => absurd h (by decide), fun h => absurd h (by decide), fun h => absurd h (by decide), fun _ => ?_, fun h => absurd h (by decide), fun _ _ _ _ _ h => absurd rfl h⟩
      refine s_G_pop hp1 (by omega) (fun m2 p2 f2 => s_R_print (q_A_fr q1 f2 (by decide) (by decide) (by decide)) (by omega) (fun m3 q3 f3 g3 => ?_))
      rw [nI_1 q]
      refine nxt (q + 1) st' _ m3 w1 (by omega) (by simp only [z_prt, z_beg]; omega) q3 (by rw [g3, f2 47 (by decide)]; exact g1) (p_A_fr p2 f3 (by decide) (by decide)) ((f2.wk (by decide)).tr (f3.wk (by decide))) ?_
      simp only [z_cr, List.headD_cons, List.tail_cons]
      rw [if_neg (by omega), if_neg (by omega), if_neg (by omega), if_neg (by omega), if_neg (by omega), if_neg (by omega), if_neg (by omega), if_pos o]
      all_goals rfl
    · rw [o]
      refine t_G_goWord_0 _ _ _ ⟨fun h => absurd h (by decide), fun h => absurd h (by decide), fun h => absurd h (by decide), fun h => absurd h (by decide), fun h => absurd h (by decide), fun h => absurd h (by decide), fun _ => ?_, fun _ _ _ _ _ _ h => absurd rfl h⟩
      refine fin _ 0 (z_beg s (nI q)) _ (by decide) (by rw [mz_up_k]; simp [upd]) ?_ ((z_fr.rf _ _).up (by decide)) ?_
      · obtain ⟨e0, e1, e2, e3, e4, e5, e6⟩ := q1
        exact ⟨by simp only [mz_up_k, upd]; exact e0, by simp only [mz_up_k, upd]; exact e1, by simp only [mz_up_k, upd]; exact e2, by simp only [mz_up_k, upd]; exact e3, by simp only [mz_up_k, upd]; exact e4, by rw [mz_up_n _ _ _ (by decide)]; exact e5, by rw [mz_up_n _ _ _ (by decide)]; exact e6⟩
      · simp only [z_cr, List.headD_cons, List.tail_cons]
        rw [if_neg (by omega), if_neg (by omega), if_neg (by omega), if_neg (by omega), if_neg (by omega), if_neg (by omega), if_neg (by omega), if_neg (by omega)]
