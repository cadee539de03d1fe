/-! the tree's run: the class's go -/
theorem z_st_wv {N : Nat} {kd sz ht up lp : Nat → Nat} {tv nx en : Nat → Int32} {ks : Nat → List Nat} (hp : z_pre N kd sz ht up ks) (hl : z_lps N kd lp ks) (hpa : z_pa N kd sz nx en ks) {w : Int32} (hw : z_wv N kd w) (hwN : w ≠ nI N) {k : Nat} {s : z_rs} {w' : Int32} {k' : Nat} {s' : z_rs} (h : z_st N kd sz lp tv nx en ks w k s = (-1, w', k', s')) : z_wv N kd w' := by
  have hN := hp.2.1
  obtain ⟨wc, st, bs, hc⟩ := z_cd_ex hp
  rcases hw with e | ⟨y, hy, k1, k6, rfl⟩ | ⟨u, hu, k4, rfl⟩
  · exact absurd e hwN
  · have hcy : (nI y).toNatClampNeg = y := nI_clamp (by omega)
    have hnl : ¬ nI y < 0 := nI_pos (by omega)
    unfold z_st at h
    rw [if_neg hnl, hcy] at h
    by_cases c4 : kd y = 4
    · rw [if_pos c4] at h
      have e : -1 - nI y = w' := congrArg (fun r => r.2.1) h
      exact Or.inr (Or.inr ⟨y, hy, c4, e.symm⟩)
    · rw [if_neg c4] at h
      by_cases c5 : kd y = 5
      · rw [if_pos c5] at h
        have g1 := hl.2.2 y hy (Or.inl c5)
        obtain ⟨g2, g3, g4⟩ := z_lpw hp hl y y (Nat.le_refl _) hy (by omega) g1
        cases h
        exact z_val_nx hp hpa (by omega) (by omega)
      · rw [if_neg c5] at h
        by_cases c6 : kd y = 6
        · rw [if_pos c6] at h
          have g1 := hl.2.2 y hy (Or.inr c6)
          obtain ⟨g2, g3, g4⟩ := z_lpw hp hl y y (Nat.le_refl _) hy (by omega) g1
          have e : -1 - nI (lp y - 1) = w' := congrArg (fun r => r.2.1) h
          exact Or.inr (Or.inr ⟨lp y - 1, by omega, g3, e.symm⟩)
        · rw [if_neg c6] at h
          generalize z_ev kd sz tv N (y + 1) k (z_beg s (nI y)) = r at h
          obtain ⟨hh, v, k2, s2⟩ := r
          simp only at h
          by_cases ch : hh ≠ -1
          · rw [if_pos ch] at h
            cases h
            exact absurd rfl ch
          · rw [if_neg ch] at h
            by_cases c1 : kd y = 1
            · rw [if_pos c1] at h
              cases h
              exact z_val_nx hp hpa hy k6
            · rw [if_neg c1] at h
              by_cases c2 : kd y = 2
              · rw [if_pos c2] at h
                cases h
                exact z_val_nx hp hpa hy k6
              · rw [if_neg c2] at h
                have e : w' = (if v ≠ 0 then z_in2 N en (nI (y + 1 + sz (y + 1))) else if (ks y).length = 3 then z_in2 N en (nI (y + 1 + sz (y + 1) + sz (y + 1 + sz (y + 1)))) else z_in2 N en (nx y)) := by
                  cases h
                  rfl
                rw [e]
                rcases z_cases hp hy with ⟨k, _⟩ | ⟨k, e, h1, h2⟩ | ⟨k, l, e, kl, h1, h2⟩ | ⟨k, l, l2, e, kl, kl2, h1, h2⟩ | ⟨k, l, e, _, h1, h2⟩ | ⟨k, e⟩ | ⟨k, b, e, _⟩ | ⟨k, e⟩
                · omega
                · omega
                · obtain ⟨q1, q2, q3, q4, q5, _⟩ := z_k2 hp hc hy e
                  rw [e, ← q3, if_neg (show ¬ [y + 1, l].length = 3 by simp)]
                  split
                  · exact z_val_en hp hpa q5 (by omega)
                  · exact z_val_nx hp hpa hy k6
                · obtain ⟨q1, q2, q3, q4, q5, q6, q7, q8, _⟩ := z_k3 hp hc hy e
                  rw [e, ← q3, ← q6, if_pos (show [y + 1, l, l2].length = 3 from rfl)]
                  split
                  · exact z_val_en hp hpa q5 (by omega)
                  · exact z_val_en hp hpa q8 (by omega)
                · omega
                · omega
                · omega
                · omega
  · unfold z_st at h
    rw [if_pos (z_neg_lt (by omega)), nI_neg2 (by omega), nI_clamp (by omega)] at h
    generalize z_ev kd sz tv N (u + 1) k (z_beg s (nI u)) = r at h
    obtain ⟨hh, v, k2, s2⟩ := r
    simp only at h
    have e : w' = (if v = 0 then z_in2 N en (nx u) else z_in2 N en (nI (u + 1 + sz (u + 1)))) := by
      cases h
      rfl
    rw [e]
    rcases z_cases hp hu with ⟨k, _⟩ | ⟨k, e, h1, h2⟩ | ⟨k, l, e, kl, h1, h2⟩ | ⟨k, l, l2, e, kl, kl2, h1, h2⟩ | ⟨k, l, e, kl, h1, h2⟩ | ⟨k, e⟩ | ⟨k, b, e, _⟩ | ⟨k, e⟩
    · omega
    · omega
    · omega
    · omega
    · obtain ⟨q1, q2, q3, q4, q5, _⟩ := z_k2 hp hc hu e
      rw [← q3]
      split
      · exact z_val_nx hp hpa hu (by omega)
      · exact z_val_en hp hpa q5 (by omega)
    · omega
    · omega
    · omega
theorem s_E_go1 {X : mz_X} {Q : mz_M → Prop} {N F : Nat} {kd tk sz ht up lp : Nat → Nat} {tv nx en : Nat → Int32} {ks : Nat → List Nat} (hp : z_pre N kd sz ht up ks) (hl : z_lps N kd lp ks) (hpa : z_pa N kd sz nx en ks) (hF : F ≤ 100000) : ∀ (n k : Nat) (w : Int32) (s : z_rs) (m : mz_M) (T : Nat), k ≤ n → k ≤ F → T ≤ F - k → z_wv N kd w → z_eA m N kd tk sz lp tv nx en ks → q_A m F (F - k) s → s.2.1 ≤ F - k → m 47 1 = -1 → (∀ m' h k' s', z_go N kd sz lp tv nx en ks n k w s = (h, k', s') → q_A m' F (F - k') s' → m' 47 1 = h → z_fr [47, 48, 49, 50, 51, 52] m m' → Q m') → mz_gv X mz_sh 89 11 [some (.ref 50), some (.int w), some (.int (nI T))] m Q := by
  have hN := hp.2.1
  have stop : ∀ (m : mz_M) (r T : Int32), m 47 1 ≠ -1 → Q m → mz_gv X mz_sh 89 11 [some (.ref 50), some (.int r), some (.int T)] m Q := fun m r T hg hQ =>
    t_E_go_1 _ _ ⟨fun _ => s_R_isGoing (fun g => absurd g hg) (fun _ => ⟨fun _ => hQ, fun g => absurd rfl g⟩), fun _ => s_R_isGoing (fun g => absurd g hg) (fun _ => ⟨fun _ => s_R_isGoing (fun g => absurd g hg) (fun _ => ⟨fun _ => hQ, fun g => absurd rfl g⟩), fun g => absurd rfl g⟩)⟩
  intro n
  induction n with
  | zero =>
    intro k w s m T hkn hkF hT hw hE hq hs hg hQ
    have hk0 : k = 0 := by omega
    subst hk0
    refine t_E_go_1 _ _ ⟨fun g => ?_, fun _ => s_R_isGoing (fun _ => ⟨fun g => absurd g (by decide), fun _ => ⟨fun g => ?_, fun g => ?_⟩⟩) (fun g => absurd hg g)⟩
    · rw [hq.2.1] at g
      exact absurd g (by rw [Int32.not_lt]; exact nI_le (by omega) (by omega))
    · rw [hE.2.2.2.1] at g
      refine s_R_isGoing (fun _ => ⟨fun g => absurd g (by decide), fun _ => ?_⟩) (fun g => absurd hg g)
      refine hQ _ 0 0 s (by simp only [z_go]; rw [if_pos g]) ?_ (by rw [mz_up_k]; simp [upd]) ((z_fr.rf _ _).up (by decide))
      obtain ⟨u0, u1, u2, u3, u4, u5, u6⟩ := hq
      refine ⟨?_, ?_, ?_, ?_, ?_, ?_, ?_⟩
      all_goals first
        | (rw [mz_up_k]; simp only [upd]; first | exact u0 | exact u1 | exact u2 | exact u3 | exact u4)
        | (rw [mz_up_n _ _ _ (by decide)]; first | exact u5 | exact u6)
    · rw [hE.2.2.2.1] at g
      have hgo : z_go N kd sz lp tv nx en ks 0 0 w s = (1, 0, s) := by simp only [z_go]; rw [if_neg g]
      have fin : ∀ r m', q_A m' F F s → m' 47 1 = 1 → z_fr [47] m m' → mz_gv X mz_sh 89 11 [some (.ref 50), some (.int r), some (.int (nI T + 1))] m' Q := fun r m' a1 a2 a3 => stop m' r _ (by rw [a2]; decide) (hQ m' 1 0 s hgo a1 a2 (a3.wk (by decide)))
      rcases hw with e | ⟨y, hy, k1, k6, rfl⟩ | ⟨u, hu, k4, rfl⟩
      · exact absurd e g
      · exact ⟨fun _ => s_E_goStatement hp hl hF hy k1 k6 hE hq hs hkF hg (fun _ r m' a1 a2 a3 => fin r m' a1 a2 a3) (fun k0 hk0 => by omega), fun g' => absurd (Int32.not_lt.mp (nI_pos (by omega))) g'⟩
      · refine ⟨fun g' => absurd (z_neg_lt (show u < 4001 by omega)) (Int32.not_lt.mpr g'), fun _ => t_W_round_0 _ ?_⟩
        rw [nI_neg2 (by omega)]
        exact s_E_goRound hp hF hu k4 hE hq hkF hg (fun _ r m' a1 a2 a3 => fin r m' a1 a2 a3) (fun k0 hk0 => by omega)
  | succ n ih =>
    intro k w s m T hkn hkF hT hw hE hq hs hg hQ
    refine t_E_go_1 _ _ ⟨fun g => ?_, fun _ => s_R_isGoing (fun _ => ⟨fun g => absurd g (by decide), fun _ => ⟨fun g => ?_, fun g => ?_⟩⟩) (fun g => absurd hg g)⟩
    · rw [hq.2.1] at g
      exact absurd g (by rw [Int32.not_lt]; exact nI_le (by omega) (by omega))
    · rw [hE.2.2.2.1] at g
      refine s_R_isGoing (fun _ => ⟨fun g => absurd g (by decide), fun _ => ?_⟩) (fun g => absurd hg g)
      refine hQ _ 0 k s (by simp only [z_go]; rw [if_pos g]) ?_ (by rw [mz_up_k]; simp [upd]) ((z_fr.rf _ _).up (by decide))
      obtain ⟨u0, u1, u2, u3, u4, u5, u6⟩ := hq
      refine ⟨?_, ?_, ?_, ?_, ?_, ?_, ?_⟩
      all_goals first
        | (rw [mz_up_k]; simp only [upd]; first | exact u0 | exact u1 | exact u2 | exact u3 | exact u4)
        | (rw [mz_up_n _ _ _ (by decide)]; first | exact u5 | exact u6)
    · rw [hE.2.2.2.1] at g
      have fin : k = 0 → ∀ r m', q_A m' F F s → m' 47 1 = 1 → z_fr [47] m m' → mz_gv X mz_sh 89 11 [some (.ref 50), some (.int r), some (.int (nI T + 1))] m' Q := fun hk r m' a1 a2 a3 => by
        subst hk
        exact stop m' r _ (by rw [a2]; decide) (hQ m' 1 0 s (by simp only [z_go]; rw [if_neg g]; simp) a1 a2 (a3.wk (by decide)))
      have step : ∀ k0, k = k0 + 1 → ∀ h w' k' s', z_st N kd sz lp tv nx en ks w k0 s = (h, w', k', s') → k' ≤ k0 → s'.2.1 ≤ s.2.1 + 1 → ∀ r m', q_A m' F (F - k') s' → m' 47 1 = h → (h = -1 → r = w') → z_fr [47, 48, 49, 50, 51, 52] m m' → mz_gv X mz_sh 89 11 [some (.ref 50), some (.int r), some (.int (nI T + 1))] m' Q := by
        intro k0 hk0 h w' k' s' hst le1 le2 r m' a1 a2 a3 a4
        subst hk0
        have hgo : z_go N kd sz lp tv nx en ks (n + 1) (k0 + 1) w s = (if h ≠ -1 then (h, k', s') else z_go N kd sz lp tv nx en ks n k' w' s') := by
          simp only [z_go]
          rw [if_neg g, if_neg (by omega), Nat.add_sub_cancel, hst]
        by_cases hh : h = -1
        · rw [if_neg (fun g => g hh)] at hgo
          rw [a3 hh, nI_1]
          refine ih k' w' s' m' (T + 1) (by omega) (by omega) (by omega) (z_st_wv hp hl hpa hw g (hh ▸ hst)) (hE.fr a4 (by decide)) a1 (by omega) (a2.trans hh) (fun m2 h2 k2 s2 c1 c2 c3 c4 => hQ m2 h2 k2 s2 (hgo.trans c1) c2 c3 (a4.tr c4))
        · rw [if_pos hh] at hgo
          exact stop m' r _ (by rw [a2]; exact hh) (hQ m' h k' s' hgo a1 a2 a4)
      rcases hw with e | ⟨y, hy, k1, k6, rfl⟩ | ⟨u, hu, k4, rfl⟩
      · exact absurd e g
      · exact ⟨fun _ => s_E_goStatement hp hl hF hy k1 k6 hE hq hs hkF hg fin step, fun g' => absurd (Int32.not_lt.mp (nI_pos (by omega))) g'⟩
      · refine ⟨fun g' => absurd (z_neg_lt (show u < 4001 by omega)) (Int32.not_lt.mpr g'), fun _ => t_W_round_0 _ ?_⟩
        rw [nI_neg2 (by omega)]
        refine s_E_goRound hp hF hu k4 hE hq hkF hg fin (fun k0 hk0 h w' k' s' hst => ?_)
        have hle : k' ≤ k0 ∧ s'.2 = s.2 := by
          unfold z_st at hst
          rw [if_pos (z_neg_lt (by omega)), nI_neg2 (by omega), nI_clamp (by omega)] at hst
          have hev := z_ev_le kd sz tv N (u + 1) k0 (z_beg s (nI u))
          generalize z_ev kd sz tv N (u + 1) k0 (z_beg s (nI u)) = r at hst hev
          obtain ⟨hh, v, k2, s2⟩ := r
          simp only at hst hev
          cases hst
          exact hev
        exact ⟨hle.1, hle.2, fun r m' a1 a2 a3 a4 => step k0 hk0 h w' k' s' hst hle.1 (by rw [hle.2]; omega) r m' a1 a2 a3 (a4.wk (by decide))⟩
