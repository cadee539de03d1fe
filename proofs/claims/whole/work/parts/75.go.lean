/-! the tree's run: the class's turns -/
theorem s_E_goRound {X : mz_X} {m : mz_M} {Q : Int32 → mz_M → Prop} {N F u k : Nat} {s : z_rs} {kd tk sz ht up lp : Nat → Nat} {tv nx en : Nat → Int32} {ks : Nat → List Nat} (hp : z_pre N kd sz ht up ks) (hF : F ≤ 100000) (hu : u < N) (hk4 : kd u = 4) (hE : z_eA m N kd tk sz lp tv nx en ks) (hq : q_A m F (F - k) s) (hkF : k ≤ F) (hg : m 47 1 = -1) (h0 : k = 0 → ∀ r m', q_A m' F F s → m' 47 1 = 1 → z_fr [47] m m' → Q r m') (hQ : ∀ k0, k = k0 + 1 → ∀ h w' k' s', z_st N kd sz lp tv nx en ks (-1 - nI u) k0 s = (h, w', k', s') → k' ≤ k0 ∧ s'.2 = s.2 ∧ ∀ r m', q_A m' F (F - k') s' → m' 47 1 = h → (h = -1 → r = w') → z_fr [47, 50, 51, 52] m m' → Q r m') : mz_gi X mz_sh 90 0 [some (.ref 50), some (.int (nI u))] m Q := by
  have hN := hp.2.1
  obtain ⟨l, ek, kl, k7, k19⟩ : ∃ l, ks u = [u + 1, l] ∧ kd l = 0 ∧ 7 ≤ kd (u + 1) ∧ kd (u + 1) ≤ 19 := by
    rcases z_cases hp hu with ⟨k, _⟩ | ⟨k, e, _⟩ | ⟨k, l, e, _⟩ | ⟨k, l, l2, e, _⟩ | ⟨k, l, e, h1, h2, h3⟩ | ⟨k, e⟩ | ⟨k, b, e, _⟩ | ⟨k, e⟩
    all_goals first | (exfalso; omega) | exact ⟨_, e, h1, h2, h3⟩
  obtain ⟨wc, st, bs, hc⟩ := z_cd_ex hp
  obtain ⟨q1, q2, q3, q4, q5, q6, q7, q8, q9, q10⟩ := z_k2 hp hc hu ek
  refine t_E_goRound_0 _ (s_R_begins hq hF (by omega) (fun ht m1 a1 f1 e1 => ⟨fun g => absurd g (by decide), fun _ => ?_⟩) (fun ht m1 a1 f1 e1 => ⟨fun _ => ?_, fun g => absurd rfl g⟩))
  · obtain ⟨k0, rfl⟩ : ∃ k0, k = k0 + 1 := ⟨k - 1, by omega⟩
    have a1' : q_A m1 F (F - k0) (z_beg s (nI u)) := by
      have : F - (k0 + 1) + 1 = F - k0 := by omega
      rw [this] at a1
      exact a1
    have hE1 := hE.fr f1 (by decide)
    rw [nI_1]
    refine s_E_evaluate hp hF q2 k7 hE1 a1' (by omega) (e1.trans hg) (fun h v k' s' hv m2 a2 w1 w2 f2 => ?_)
    have hst : z_st N kd sz lp tv nx en ks (-1 - nI u) k0 s = (h, (if v = 0 then z_in2 N en (nx u) else z_in2 N en (nI (u + 1 + sz (u + 1)))), k', s') := by
      unfold z_st
      rw [if_pos (z_neg_lt (by omega)), nI_neg2 (by omega), nI_clamp (by omega), hv]
    have hle := z_ev_le kd sz tv N (u + 1) k0 (z_beg s (nI u))
    rw [hv] at hle
    obtain ⟨r1, r2, r3⟩ := hQ k0 rfl _ _ _ _ hst
    have f3 : z_fr [47, 50, 51, 52] m m2 := (f1.wk (by decide)).tr f2
    have hE2 := hE1.fr f2 (by decide)
    refine ⟨fun g => ?_, fun g => ?_⟩
    · refine s_W_behind hE2.2.2.2.1 hN hu (r3 _ m2 a2 w1 (fun hh => ?_) f3)
      rw [hE2.2.2.2.2.1, hE2.2.2.2.2.2, if_pos (by rw [← w2 hh]; exact g)]
    · refine s_T_behind hN hE2.1.1 q2 (hE2.1.2.2 _ q2).2.2.2.1 (s_W_into hE2.2.2.2.1 hN (r3 _ m2 a2 w1 (fun hh => ?_) f3))
      rw [hE2.2.2.2.2.2, if_neg (by rw [← w2 hh]; exact g)]
  · refine h0 (by omega) _ m1 (by rw [show F - k = F by omega] at a1; exact a1) e1 f1
theorem s_E_goStatement {X : mz_X} {m : mz_M} {Q : Int32 → mz_M → Prop} {N F y k : Nat} {s : z_rs} {kd tk sz ht up lp : Nat → Nat} {tv nx en : Nat → Int32} {ks : Nat → List Nat} (hp : z_pre N kd sz ht up ks) (hl : z_lps N kd lp ks) (hF : F ≤ 100000) (hy : y < N) (hk1 : 1 ≤ kd y) (hk6 : kd y ≤ 6) (hE : z_eA m N kd tk sz lp tv nx en ks) (hq : q_A m F (F - k) s) (hs : s.2.1 ≤ F - k) (hkF : k ≤ F) (hg : m 47 1 = -1) (h0 : k = 0 → ∀ r m', q_A m' F F s → m' 47 1 = 1 → z_fr [47] m m' → Q r m') (hQ : ∀ k0, k = k0 + 1 → ∀ h w' k' s', z_st N kd sz lp tv nx en ks (nI y) k0 s = (h, w', k', s') → k' ≤ k0 → s'.2.1 ≤ s.2.1 + 1 → ∀ r m', q_A m' F (F - k') s' → m' 47 1 = h → (h = -1 → r = w') → z_fr [47, 48, 49, 50, 51, 52] m m' → Q r m') : mz_gi X mz_sh 91 0 [some (.ref 50), some (.int (nI y))] m Q := by
  have hN := hp.2.1
  have hin : mz_inb (nI y) 4001 = true := mz_inbN (by omega) (by decide)
  have hcy : (nI y).toNatClampNeg = y := nI_clamp (by omega)
  have hnl : ¬ nI y < 0 := nI_pos (by omega)
  refine t_E_goStatement_0 _ (s_R_begins hq hF (by omega) (fun ht m1 a1 f1 e1 => ⟨fun g => absurd g (by decide), fun _ => ⟨hin, ?_⟩⟩) (fun ht m1 a1 f1 e1 => ⟨fun _ => ?_, fun g => absurd rfl g⟩))
  · obtain ⟨k0, rfl⟩ : ∃ k0, k = k0 + 1 := ⟨k - 1, by omega⟩
    have a1' : q_A m1 F (F - k0) (z_beg s (nI y)) := by
      have : F - (k0 + 1) + 1 = F - k0 := by omega
      rw [this] at a1
      exact a1
    have hE1 := hE.fr f1 (by decide)
    have hE1' := hE1
    obtain ⟨⟨A1, A2, A3⟩, b2, b3, b4, b5, b6⟩ := hE1'
    obtain ⟨c1, c2, c3, c4, c5, c6, c7, c8, c9, c10⟩ := A3 y hy
    have f1' : z_fr [47, 48, 49, 50, 51, 52] m m1 := f1.wk (by decide)
    have cc : ∀ {b : Nat}, b < 2 ^ 31 → nI (kd y) = nI b → kd y = b := fun hb e => (nI_eq (by omega) hb).mp e
    rw [hcy, c1]
    refine ⟨fun g => ?_, fun g => ?_, fun g => ?_, fun g4 g5 g6 => ?_⟩
    · have k4 := cc (b := 4) (by decide) g
      refine t_W_round_0 _ (hQ k0 rfl (-1) (-1 - nI y) k0 (z_beg s (nI y)) ?_ (Nat.le_refl _) (by simp [z_beg]) _ m1 a1' (e1.trans hg) (fun _ => rfl) f1')
      unfold z_st
      rw [if_neg hnl, hcy, if_pos k4]
    · have k5 := cc (b := 5) (by decide) g
      have g1 := hl.2.2 y hy (Or.inl k5)
      obtain ⟨g2, g3, g4⟩ := z_lpw hp hl y y (Nat.le_refl _) hy (by omega) g1
      rw [c7 (Or.inl k5), nI_m1 g1]
      refine ⟨hin, s_W_behind b4 hN (by omega) (hQ k0 rfl (-1) (z_in2 N en (nx (lp y - 1))) k0 (z_beg s (nI y)) ?_ (Nat.le_refl _) (by simp [z_beg]) _ m1 a1' (e1.trans hg) (fun _ => by rw [b5, b6]) f1')⟩
      unfold z_st
      rw [if_neg hnl, hcy, if_neg (by omega), if_pos k5]
    · have k6 := cc (b := 6) (by decide) g
      have g1 := hl.2.2 y hy (Or.inr k6)
      rw [c7 (Or.inr k6), nI_m1 g1]
      refine ⟨hin, t_W_round_0 _ (hQ k0 rfl (-1) (-1 - nI (lp y - 1)) k0 (z_beg s (nI y)) ?_ (Nat.le_refl _) (by simp [z_beg]) _ m1 a1' (e1.trans hg) (fun _ => rfl) f1')⟩
      unfold z_st
      rw [if_neg hnl, hcy, if_neg (by omega), if_neg (by omega), if_pos k6]
    · have n4 : kd y ≠ 4 := fun e => g4 (by rw [e]; rfl)
      have n5 : kd y ≠ 5 := fun e => g5 (by rw [e]; rfl)
      have n6 : kd y ≠ 6 := fun e => g6 (by rw [e]; rfl)
      obtain ⟨t, ek, k7⟩ : ∃ t, ks y = (y + 1) :: t ∧ 7 ≤ kd (y + 1) := by
        rcases z_cases hp hy with ⟨k, _⟩ | ⟨k, e, h1, h2⟩ | ⟨k, l, e, _, h1, h2⟩ | ⟨k, l, l2, e, _, _, h1, h2⟩ | ⟨k, l, e, _, h1, h2⟩ | ⟨k, e⟩ | ⟨k, b, e, _⟩ | ⟨k, e⟩
        all_goals first | (exfalso; omega) | exact ⟨_, e, h1⟩
      have q2 := (z_pre_kids hp y hy (y + 1) (by rw [ek]; exact List.mem_cons_self)).2.2.1
      rw [nI_1]
      refine s_E_evaluate hp hF q2 k7 hE1 a1' (by omega) (e1.trans hg) (fun h v k' s' hv m2 a2 w1 w2 f2 => ?_)
      have hle := z_ev_le kd sz tv N (y + 1) k0 (z_beg s (nI y))
      rw [hv] at hle
      obtain ⟨le1, le2⟩ := hle
      simp only at le1 le2
      have le3 : s'.2.1 = s.2.1 := by rw [le2]; rfl
      have hE2 := hE1.fr f2 (by decide)
      have hE2' := hE2
      obtain ⟨⟨A1', A2', A3'⟩, b2', b3', b4', b5', b6'⟩ := hE2'
      obtain ⟨c1', c2', c3', c4', c5', c6', c7', c8', c9', c10'⟩ := A3' y hy
      have f3 : z_fr [47, 48, 49, 50, 51, 52] m m2 := f1'.tr (f2.wk (by decide))
      have hst : z_st N kd sz lp tv nx en ks (nI y) k0 s = (if h ≠ -1 then (h, 0, k', s') else if kd y = 1 then (-1, z_in2 N en (nx y), k', z_sto s' (tv y).toNatClampNeg v) else if kd y = 2 then (-1, z_in2 N en (nx y), k', z_prt s' v) else (-1, (if v ≠ 0 then z_in2 N en (nI (y + 1 + sz (y + 1))) else if (ks y).length = 3 then z_in2 N en (nI (y + 1 + sz (y + 1) + sz (y + 1 + sz (y + 1)))) else z_in2 N en (nx y)), k', s')) := by
        unfold z_st
        rw [if_neg hnl, hcy, if_neg n4, if_neg n5, if_neg n6, hv]
      refine s_R_isGoing (fun gi => ⟨fun g => absurd g (by decide), fun _ => ?_⟩) (fun gi => ⟨fun _ => ?_, fun g => absurd rfl g⟩)
      · have hh : h = -1 := w1.symm.trans gi
        rw [if_neg (fun g => g hh)] at hst
        have w2' := w2 hh
        refine t_E_useResult_0 _ ?_
        rw [hcy, c1', c2', nI_clamp (show tk y < 2 ^ 31 by omega), w2']
        refine ⟨hin, fun g3 => ?_, fun g3 => ⟨hin, fun gg1 => ⟨hin, mz_inbN (by omega) (by decide), ?_⟩, fun gg1 => ?_⟩⟩
        · have k3 := cc (b := 3) (by decide) g3
          rw [if_neg (by omega), if_neg (by omega)] at hst
          have hlen : (∃ l, ks y = [y + 1, l] ∧ l = y + 1 + sz (y + 1) ∧ l < N) ∨ (∃ l l2, ks y = [y + 1, l, l2] ∧ l = y + 1 + sz (y + 1) ∧ l < N ∧ l2 = l + sz l ∧ l2 < N) := by
            obtain ⟨wc, st, bs, hc⟩ := z_cd_ex hp
            rcases z_cases hp hy with ⟨k, _⟩ | ⟨k, e, h1, h2⟩ | ⟨k, l, e, _, h1, h2⟩ | ⟨k, l, l2, e, _, _, h1, h2⟩ | ⟨k, l, e, _, h1, h2⟩ | ⟨k, e⟩ | ⟨k, b, e, _⟩ | ⟨k, e⟩
            · omega
            · omega
            · obtain ⟨q1, q2, q3, q4, q5, _⟩ := z_k2 hp hc hy e
              exact Or.inl ⟨l, e, q3, q5⟩
            · obtain ⟨q1, q2, q3, q4, q5, q6, q7, q8, _⟩ := z_k3 hp hc hy e
              exact Or.inr ⟨l, l2, e, q3, q5, q6, q8⟩
            · omega
            · omega
            · omega
            · omega
          refine t_E_chooseList_0 _ ?_
          rw [nI_1]
          refine s_T_behind hN A1' q2 (A3' _ q2).2.2.2.1 ?_
          rw [w2', hcy, c3']
          refine ⟨fun gv => ⟨hin, fun g3' => ?_, fun g3' => ?_⟩, fun gv => ?_⟩
          · rcases hlen with ⟨l, e, _⟩ | ⟨l, l2, e, e2, e3, e4, e5⟩
            · rw [e] at g3'
              exact absurd g3' (show ¬ nI 2 = 3 by decide)
            · rw [← e2]
              refine s_T_behind hN A1' e3 (A3' _ e3).2.2.2.1 (s_W_into b4' hN (hQ k0 rfl _ _ _ _ hst (by omega) (by omega) _ m2 a2 gi (fun _ => ?_) f3))
              rw [b6', if_neg (fun g => g gv), e, if_pos (show [y + 1, l, l2].length = 3 from rfl), ← e2]
          · rcases hlen with ⟨l, e, _⟩ | ⟨l, l2, e, e2, e3, e4, e5⟩
            · refine s_W_behind b4' hN hy (hQ k0 rfl _ _ _ _ hst (by omega) (by omega) _ m2 a2 gi (fun _ => ?_) f3)
              rw [b5', b6', if_neg (fun g => g gv), e, if_neg (show ¬ [y + 1, l].length = 3 by simp)]
            · rw [e] at g3'
              exact absurd (show nI 3 = 3 by rfl) g3'
          · refine s_W_into b4' hN (hQ k0 rfl _ _ _ _ hst (by omega) (by omega) _ m2 a2 gi (fun _ => ?_) f3)
            rw [b6', if_pos gv]
        · have k1 := cc (b := 1) (by decide) gg1
          rw [if_pos k1] at hst
          obtain ⟨q, hq32, eq⟩ := b3' y hy (Or.inr k1)
          rw [b2' y hy, eq]
          refine s_R_store a2 hq32 (fun m3 a3 f4 => ?_)
          have hE3 := hE2.fr f4 (by decide)
          refine s_W_behind hE3.2.2.2.1 hN hy (hQ k0 rfl _ _ _ _ hst (by omega) (by simp only [z_sto]; omega) _ m3 ?_ (by rw [f4 47 (by decide)]; exact gi) (fun _ => by rw [hE3.2.2.2.2.1, hE3.2.2.2.2.2]) (f3.tr (f4.wk (by decide))))
          rw [eq, nI_clamp (by omega)]
          exact a3
        · have n1 : kd y ≠ 1 := fun e => gg1 (by rw [e]; rfl)
          have n3 : kd y ≠ 3 := fun e => g3 (by rw [e]; rfl)
          rw [if_neg n1, if_pos (by omega)] at hst
          refine s_R_print a2 (by omega) (fun m3 a3 f4 w4 => ?_)
          have hE3 := hE2.fr f4 (by decide)
          exact s_W_behind hE3.2.2.2.1 hN hy (hQ k0 rfl _ _ _ _ hst (by omega) (by simp only [z_prt]; omega) _ m3 a3 (by rw [w4]; exact gi) (fun _ => by rw [hE3.2.2.2.2.1, hE3.2.2.2.2.2]) (f3.tr (f4.wk (by decide))))
      · have hh : h ≠ -1 := fun e => gi (w1.trans e)
        rw [if_pos hh] at hst
        exact hQ k0 rfl _ _ _ _ hst (by omega) (by omega) _ m2 a2 w1 (fun g => absurd g hh) f3
  · refine h0 (by omega) _ m1 (by rw [show F - k = F by omega] at a1; exact a1) e1 f1
