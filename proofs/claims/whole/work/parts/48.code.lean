/-! the code's run: the reference; runCode -/
theorem s_M_goCode1 {X : mz_X} {Q : Int32 → mz_M → Prop} {W F : Nat} {op : Nat → Nat} {va : Nat → Int32} {dp : Nat → Nat} (hW : W ≤ 8001) (hF : F ≤ 100000) : ∀ (k t q : Nat) (st : List Int32) (s : z_rs) (m : mz_M), t + k = F → q < W → st.length = dp q → s.2.1 ≤ t → q_M m F t s → p_M m st → (∀ j, j < W → m 90 j = nI (op j) ∧ m 91 j = va j ∧ z_wd W op va dp j) → (∀ m' h k' s', z_cr op va k q st s = (h, k', s') → q_M m' F (F - k') s' → z_fm [97, 98, 99] [55, 59, 60, 61] m m' → Q h m') → mz_gi X mz_sh 187 2 [some (.ref 55), some (.int (nI q))] m Q := by
  intro k
  induction k with
  | zero =>
    intro t q st s m htk hq hst hpr hqM hpM hc hQ
    refine t_M_goCode_1 _ ⟨fun h => absurd h (nI_pos (by omega)), fun _ => s_M_burn hqM hF (by omega) (fun h => by omega) (fun _ => ⟨fun _ => hQ m 1 0 s rfl ?_ (z_fm.rf _ _ _), fun h => absurd rfl h⟩)⟩
    have : F - 0 = t := by omega
    rw [this]; exact hqM
  | succ k ih =>
    intro t q st s m htk hq hst hpr hqM hpM hc hQ
    refine t_M_goCode_1 _ ⟨fun h => absurd h (nI_pos (by omega)), fun _ => s_M_burn hqM hF (by omega) (fun _ m1 q1 f1 => ⟨fun h => absurd h (by decide), fun _ => ?_⟩) (fun h => by omega)⟩
    have hin : mz_inb (nI q) 60100 = true := mz_inbN (by omega) (by decide)
    obtain ⟨c1, c2, hdp, c3⟩ := hc q hq
    have hp1 : p_M m1 st := p_M_fm hpM f1 (by decide) (by decide)
    have nxt : ∀ q' st' s' m2, q' < W → st'.length = dp q' → s'.2.1 ≤ t + 1 → q_M m2 F (t + 1) s' → p_M m2 st' → z_fm [97, 98, 99] [55, 59, 60, 61] m1 m2 → z_cr op va (k + 1) q st s = z_cr op va k q' st' s' → mz_gi X mz_sh 187 2 [some (.ref 55), some (.int (nI q'))] m2 Q := by
      intro q' st' s' m2 a1 a2 a3 a4 a6 a7 a8
      have f2 : z_fm [97, 98, 99] [55, 59, 60, 61] m m2 := (f1.wk (by decide) (by decide)).tr a7
      refine ih (t + 1) q' st' s' m2 (by omega) a1 a2 a3 a4 a6 (fun j hj => ?_) (fun m' h k' s'' b1 b2 b4 => hQ m' h k' s'' (a8.trans b1) b2 (f2.tr b4))
      rw [f2.1 90 (by decide) (by decide), f2.1 91 (by decide) (by decide)]
      exact hc j hj
    have fin : ∀ h s' m2, q_M m2 F (t + 1) s' → z_fm [97, 98, 99] [55, 59, 60, 61] m1 m2 → z_cr op va (k + 1) q st s = (h, k, s') → Q h m2 := by
      intro h s' m2 a3 a4 a5
      exact hQ m2 h k s' a5 (by rw [show F - k = t + 1 by omega]; exact a3) ((f1.wk (by decide) (by decide)).tr a4)
    have hpr1 : (z_beg s (nI q)).2.1 ≤ t + 1 := Nat.le_succ_of_le hpr
    refine t_M_word_0 _ ?_
    rw [nI_clamp (by omega), f1.1 90 (by decide) (by decide), f1.1 91 (by decide) (by decide), c1, c2]
    refine ⟨hin, hin, ?_⟩
    have n0 : ∀ r, r = nI (q + 1) → True := fun _ _ => trivial
    rcases c3 with ⟨o, w1, w2⟩ | ⟨o, w1, w2, v, w3, w4⟩ | ⟨o, w1, w2, v, w3, w4⟩ | ⟨o1, o2, w1, w2, w3⟩ | ⟨o1, o2, w1, w2, w3⟩ | ⟨o, tt, w1, w2, w3⟩ | ⟨o, w1, w2, tt, w3, w4, w5⟩ | ⟨o, w1, w2⟩ | o
    · rw [o]
      refine ⟨fun _ => t_M_word_1 _ _ _ ⟨fun _ => ?_, fun h => absurd h (by decide), fun h => absurd h (by decide), fun h => absurd h (by decide), fun h => absurd h (by decide), fun h => absurd h (by decide), fun h => absurd h (by decide), fun h => absurd h (by decide), fun h => absurd h (by decide), fun h => absurd rfl h⟩, fun h => absurd (by decide) h⟩
      refine s_M_push hp1 (by omega) (fun m2 p2 f2 => ?_)
      rw [nI_1 q]
      exact nxt (q + 1) (va q :: st) (z_beg s (nI q)) m2 w1 (by simp [hst, w2]) hpr1 (q_M_fm q1 f2 (by decide) (by decide) (by decide)) p2 (f2.wk (by decide) (by decide)) (by simp only [z_cr, if_pos o])
    · rw [o, w4]
      refine ⟨fun _ => t_M_word_1 _ _ _ ⟨fun h => absurd h (by decide), fun _ => ⟨mz_inbN w3 (by decide), ?_⟩, fun h => absurd h (by decide), fun h => absurd h (by decide), fun h => absurd h (by decide), fun h => absurd h (by decide), fun h => absurd h (by decide), fun h => absurd h (by decide), fun h => absurd h (by decide), fun _ h => absurd rfl h⟩, fun h => absurd (by decide) h⟩
      rw [nI_clamp (by omega)]
      refine s_M_push hp1 (by omega) (fun m2 p2 f2 => ?_)
      rw [nI_1 q]
      refine nxt (q + 1) _ (z_beg s (nI q)) m2 w1 (by simp [hst, w2]) hpr1 (q_M_fm q1 f2 (by decide) (by decide) (by decide)) p2 (f2.wk (by decide) (by decide)) ?_
      simp only [z_cr, List.headD_cons, List.tail_cons]
      rw [if_neg (by omega), if_pos o, w4, nI_clamp (by omega), q1.2.2.2.2.2.2]
      all_goals rfl
    · rw [o, w4]
      obtain ⟨b, st', rfl, hl⟩ := z_len1 hst (by omega)
      refine ⟨fun _ => t_M_word_1 _ _ _ ⟨fun h => absurd h (by decide), fun h => absurd h (by decide), fun _ => ?_, fun h => absurd h (by decide), fun h => absurd h (by decide), fun h => absurd h (by decide), fun h => absurd h (by decide), fun h => absurd h (by decide), fun h => absurd h (by decide), fun _ _ h => absurd rfl h⟩, fun h => absurd (by decide) h⟩
      refine s_M_pop hp1 (by omega) (fun m2 p2 f2 => ⟨mz_inbN w3 (by decide), ?_⟩)
      rw [nI_1 q, nI_clamp (by omega)]
      have q2 := q_M_fm q1 f2 (by decide) (by decide) (by decide)
      refine nxt (q + 1) st' (z_sto (z_beg s (nI q)) v b) _ w1 (by omega) hpr1 ?_ (p_M_fm p2 ((z_fm.rf [97] [] _).up (by decide) (by decide)) (by decide) (by decide)) ((f2.wk (by decide) (by decide)).up (by decide) (by decide)) ?_
      · obtain ⟨e0, e1, e2, e3, e4, e5, e6⟩ := q2
        exact ⟨by rw [mz_up_n _ _ _ (by decide)]; exact e0, by rw [mz_up_n _ _ _ (by decide)]; exact e1, by rw [mz_up_n _ _ _ (by decide)]; exact e2, by rw [mz_up_n _ _ _ (by decide)]; exact e3, by rw [mz_up_n _ _ _ (by decide)]; exact e4, by rw [mz_up_n _ _ _ (by decide)]; exact e5, by rw [mz_up_k, e6]; rfl⟩
      · simp only [z_cr, List.headD_cons, List.tail_cons]
        rw [if_neg (by omega), if_neg (by omega), if_pos o, w4, nI_clamp (by omega)]
        all_goals rfl
    · obtain ⟨b, st1, rfl, hl1⟩ := z_len1 hst (by omega)
      obtain ⟨a, st2, rfl, hl2⟩ := z_len1 (n := dp q - 1) (st := st1) (by omega) (by omega)
      have fz : ∀ kk : Nat, 9 ≤ kk → kk ≤ 15 → z_kw kk = op q → (kk = 14 ∨ kk = 15 ↔ op q = 6 ∨ op q = 7) → mz_gi X mz_sh 179 0 [some (.ref 55), some (.int (nI kk)), none, none] m1 (fun r14 m12 => ((r14 = (-3) → mz_gi X mz_sh 187 2 [some (.ref 55), some (.int (-3))] m12 Q) ∧ (¬ (r14 = (-3)) → mz_gi X mz_sh 187 2 [some (.ref 55), some (.int (nI q + 1))] m12 Q))) := by
        intro kk k1 k2 k3 k4
        refine s_M_joinTwo k1 k2 hp1 (by omega) (fun hnd m2 p2 f2 => ⟨fun h => absurd h (by decide), fun _ => ?_⟩) (fun h67 hb m2 f2 => ⟨fun _ => ?_, fun h => absurd rfl h⟩)
        · rw [nI_1 q]
          rw [k3] at p2
          refine nxt (q + 1) _ (z_beg s (nI q)) m2 w1 (by simp only [List.length_cons]; omega) hpr1 (q_M_fm q1 f2 (by decide) (by decide) (by decide)) p2 (f2.wk (by decide) (by decide)) ?_
          simp only [z_cr, List.headD_cons, List.tail_cons]
          rw [if_neg (by omega), if_neg (by omega), if_neg (by omega), if_pos o2]
          exact if_neg (fun h => hnd ⟨k4.mpr h.1, h.2⟩)
        · refine t_M_goCode_1 _ ⟨fun _ => ⟨fun _ => ?_, fun h => absurd rfl h⟩, fun h => absurd (by decide) h⟩
          refine fin 2 (z_beg s (nI q)) m2 (q_M_fm q1 f2 (by decide) (by decide) (by decide)) (f2.wk (by decide) (by decide)) ?_
          simp only [z_cr, List.headD_cons, List.tail_cons]
          rw [if_neg (by omega), if_neg (by omega), if_neg (by omega), if_pos o2]
          exact if_pos ⟨k4.mp h67, hb⟩
      refine ⟨fun h => ?_, fun _ => ⟨fun h => ?_, fun _ => ⟨fun h8 => ?_, fun h8 => ?_⟩⟩⟩
      · have := (nI_ltI (b := 3) (by omega) (by decide)).mp h
        omega
      · have := (nI_ltI (a := 9) (by decide) (by omega)).mp h
        omega
      · have h88 := (nI_ltI (b := 8) (by omega) (by decide)).mp h8
        have e : nI (op q) + 8 = nI (op q + 8) := nI_add _ 8
        rw [e]
        exact fz (op q + 8) (by omega) (by omega) (by unfold z_kw; rw [if_neg (by omega)]; omega) (by omega)
      · have h88 : ¬ op q < 8 := fun h => h8 ((nI_ltI (b := 8) (by omega) (by decide)).mpr h)
        have e : nI (op q) + 1 = nI (op q + 1) := nI_add _ 1
        rw [e]
        exact fz (op q + 1) (by omega) (by omega) (by unfold z_kw; rw [if_pos (by omega)]; omega) (by omega)
    · obtain ⟨b, st1, rfl, hl1⟩ := z_len1 hst (by omega)
      have push : ∀ r, r = z_calc (op q) 0 b → ∀ m2, p_M m2 st1 → z_fm [98] [55] m1 m2 → mz_gv X mz_sh 174 0 [some (.ref 55), some (.int r)] m2 (fun m26 => mz_gi X mz_sh 187 2 [some (.ref 55), some (.int (nI q + 1))] m26 Q) := by
        intro r hr m2 p2 f2
        refine s_M_push p2 (by omega) (fun m4 p4 f4 => ?_)
        rw [nI_1 q]
        have f5 := f2.tr f4
        refine nxt (q + 1) _ (z_beg s (nI q)) m4 w1 (by simp only [List.length_cons]; omega) hpr1 (q_M_fm q1 f5 (by decide) (by decide) (by decide)) p4 (f5.wk (by decide) (by decide)) ?_
        simp only [z_cr, List.headD_cons, List.tail_cons]
        rw [if_neg (by omega), if_neg (by omega), if_neg (by omega), if_neg (by omega), if_pos o2, hr]
        all_goals rfl
      refine ⟨fun h => ?_, fun _ => ⟨fun _ => ?_, fun h => ?_⟩⟩
      · have := (nI_ltI (b := 3) (by omega) (by decide)).mp h
        omega
      · have h3 : op q = 10 ∨ op q = 11 ∨ op q = 12 := by omega
        rcases h3 with e | e | e
        · rw [e]
          refine t_M_word_1 _ _ _ ⟨fun h => absurd h (by decide), fun h => absurd h (by decide), fun h => absurd h (by decide), fun _ => ?_, fun h => absurd h (by decide), fun h => absurd h (by decide), fun h => absurd h (by decide), fun h => absurd h (by decide), fun h => absurd h (by decide), fun _ _ _ h => absurd rfl h⟩
          exact s_M_pop hp1 (by omega) (fun m2 p2 f2 => push _ (by rw [e]; rfl) m2 p2 f2)
        · rw [e]
          refine t_M_word_1 _ _ _ ⟨fun h => absurd h (by decide), fun h => absurd h (by decide), fun h => absurd h (by decide), fun h => absurd h (by decide), fun _ => ?_, fun h => absurd h (by decide), fun h => absurd h (by decide), fun h => absurd h (by decide), fun h => absurd h (by decide), fun _ _ _ _ h => absurd rfl h⟩
          refine s_M_pop hp1 (by omega) (fun m2 p2 f2 => ⟨fun h0 => s_M_truth (push _ ?_ m2 p2 f2), fun h0 => s_M_truth (push _ ?_ m2 p2 f2)⟩)
          · rw [e, h0]; decide
          · rw [e]; simp [z_calc, h0]
        · rw [e]
          refine t_M_word_1 _ _ _ ⟨fun h => absurd h (by decide), fun h => absurd h (by decide), fun h => absurd h (by decide), fun h => absurd h (by decide), fun h => absurd h (by decide), fun _ => ?_, fun h => absurd h (by decide), fun h => absurd h (by decide), fun h => absurd h (by decide), fun _ _ _ _ _ h => absurd rfl h⟩
          refine s_M_pop hp1 (by omega) (fun m2 p2 f2 => ⟨fun h0 => s_M_truth (push _ ?_ m2 p2 f2), fun h0 => s_M_truth (push _ ?_ m2 p2 f2)⟩)
          · rw [e, h0]; decide
          · rw [e]; simp [z_calc, h0]
      · have : ¬ op q ≤ 9 := by omega
        exact absurd ((nI_ltI (a := 9) (by decide) (by omega)).mpr (by omega)) h
    · rw [o, w1]
      refine ⟨fun h => absurd h (by decide), fun _ => ⟨fun _ => t_M_word_1 _ _ _ ⟨fun h => absurd h (by decide), fun h => absurd h (by decide), fun h => absurd h (by decide), fun h => absurd h (by decide), fun h => absurd h (by decide), fun h => absurd h (by decide), fun _ => ?_, fun h => absurd h (by decide), fun h => absurd h (by decide), fun _ _ _ _ _ _ h => absurd rfl h⟩, fun h => absurd (by decide) h⟩⟩
      refine nxt tt st (z_beg s (nI q)) m1 w2 (by omega) hpr1 q1 hp1 (z_fm.rf _ _ _) ?_
      simp only [z_cr, List.headD_cons, List.tail_cons]
      rw [if_neg (by omega), if_neg (by omega), if_neg (by omega), if_neg (by omega), if_neg (by omega), if_pos o, w1, nI_clamp (by omega)]
    · rw [o, w3]
      obtain ⟨b, st', rfl, hl⟩ := z_len1 hst (by omega)
      have hz : z_cr op va (k + 1) q (b :: st') s = z_cr op va k (if b = 0 then tt else q + 1) st' (z_beg s (nI q)) := by
        simp only [z_cr, List.headD_cons, List.tail_cons]
        rw [if_neg (by omega), if_neg (by omega), if_neg (by omega), if_neg (by omega), if_neg (by omega), if_neg (by omega), if_pos o, w3, nI_clamp (by omega)]
        all_goals rfl
      refine ⟨fun h => absurd h (by decide), fun _ => ⟨fun _ => t_M_word_1 _ _ _ ⟨fun h => absurd h (by decide), fun h => absurd h (by decide), fun h => absurd h (by decide), fun h => absurd h (by decide), fun h => absurd h (by decide), fun h => absurd h (by decide), fun h => absurd h (by decide), fun _ => ?_, fun h => absurd h (by decide), fun _ _ _ _ _ _ _ h => absurd rfl h⟩, fun h => absurd (by decide) h⟩⟩
      refine s_M_pop hp1 (by omega) (fun m2 p2 f2 => ⟨fun h0 => ?_, fun h0 => ?_⟩)
      · exact nxt tt st' (z_beg s (nI q)) m2 w4 (by omega) hpr1 (q_M_fm q1 f2 (by decide) (by decide) (by decide)) p2 (f2.wk (by decide) (by decide)) (by rw [hz, if_pos h0])
      · rw [nI_1 q]
        exact nxt (q + 1) st' (z_beg s (nI q)) m2 w1 (by omega) hpr1 (q_M_fm q1 f2 (by decide) (by decide) (by decide)) p2 (f2.wk (by decide) (by decide)) (by rw [hz, if_neg h0])
    · rw [o]
      obtain ⟨b, st', rfl, hl⟩ := z_len1 hst (by omega)
      refine ⟨fun h => absurd h (by decide), fun _ => ⟨fun _ => t_M_word_1 _ _ _ ⟨fun h => absurd h (by decide), fun h => absurd h (by decide), fun h => absurd h (by decide), fun h => absurd h (by decide), fun h => absurd h (by decide), fun h => absurd h (by decide), fun h => absurd h (by decide), fun h => absurd h (by decide), fun _ => ?_, fun _ _ _ _ _ _ _ _ h => absurd rfl h⟩, fun h => absurd (by decide) h⟩⟩
      refine s_M_pop hp1 (by omega) (fun m2 p2 f2 => s_M_print (q_M_fm q1 f2 (by decide) (by decide) (by decide)) (by simp only [z_beg]; omega) (fun m3 q3 f3 => ?_))
      rw [nI_1 q]
      refine nxt (q + 1) st' _ m3 w1 (by omega) (by simp only [z_prt, z_beg]; omega) q3 (p_M_fm p2 f3 (by decide) (by decide)) ((f2.wk (by decide) (by decide)).tr (f3.wk (by decide) (by decide))) ?_
      simp only [z_cr, List.headD_cons, List.tail_cons]
      rw [if_neg (by omega), if_neg (by omega), if_neg (by omega), if_neg (by omega), if_neg (by omega), if_neg (by omega), if_neg (by omega), if_pos o]
      all_goals rfl
    · rw [o]
      refine ⟨fun h => absurd h (by decide), fun _ => ⟨fun _ => t_M_word_1 _ _ _ ⟨fun h => absurd h (by decide), fun h => absurd h (by decide), fun h => absurd h (by decide), fun h => absurd h (by decide), fun h => absurd h (by decide), fun h => absurd h (by decide), fun h => absurd h (by decide), fun h => absurd h (by decide), fun h => absurd h (by decide), fun _ _ _ _ _ _ _ _ _ => ?_⟩, fun h => absurd (by decide) h⟩⟩
      refine t_M_goCode_1 _ ⟨fun _ => ⟨fun h => absurd h (by decide), fun _ => ?_⟩, fun h => absurd (by decide) h⟩
      refine fin 0 (z_beg s (nI q)) m1 q1 (z_fm.rf _ _ _) ?_
      simp only [z_cr, List.headD_cons, List.tail_cons]
      rw [if_neg (by omega), if_neg (by omega), if_neg (by omega), if_neg (by omega), if_neg (by omega), if_neg (by omega), if_neg (by omega), if_neg (by omega)]
