/-! the tree's run: the reference's run is z_go -/
theorem s_M_run {X : mz_X} {Q : Int32 → mz_M → Prop} {N F : Nat} {kd tk sz ht up lp : Nat → Nat} {tv nx en : Nat → Int32} {ks : Nat → List Nat} (hp : z_pre N kd sz ht up ks) (hl : z_lps N kd lp ks) (hpa : z_pa N kd sz nx en ks) (hF : F ≤ 100000) : ∀ (n k : Nat) (w : Int32) (s : z_rs) (m : mz_M), k ≤ n → k ≤ F → z_wv N kd w → z_eM m N kd tk sz up tv ks → q_M m F (F - k) s → p_M m [] → s.2.1 ≤ F - k → (∀ m' h k' s', z_go N kd sz lp tv nx en ks n k w s = (h, k', s') → q_M m' F (F - k') s' → z_fm [92, 93, 97, 98, 99] [55, 59, 60, 61] m m' → Q h m') → z_GW X Q N kd tk sz up tv ks w m := by
  have hN := hp.2.1
  intro n
  induction n with
  | zero =>
    intro k w s m hkn hkF hw hE hq hpl hs hQ
    have hk0 : k = 0 := by omega
    subst hk0
    have h1 : w ≠ nI N → ∀ m', q_M m' F F s → z_fm [92, 93, 97, 98, 99] [55, 59, 60, 61] m m' → Q 1 m' := fun g m' a1 a2 => hQ m' 1 0 s (by simp only [z_go]; rw [if_neg g]) a1 a2
    refine ⟨fun e => hQ m 0 0 s (by simp only [z_go]; rw [if_pos e]) hq (z_fm.rf _ _ _), fun y hy h0 k1 k6 e hpe => ?_, fun u hu k4 e hpv => ?_⟩
    · refine ⟨fun g => by omega, fun _ => s_M_burn hq hF (by omega) (fun g => by omega) (fun _ => ⟨fun _ => h1 ?_ m hq (z_fm.rf _ _ _), fun g => absurd rfl g⟩)⟩
      intro e2
      rw [e] at e2
      have := (nI_eq (by omega) (by omega)).mp e2
      omega
    · have f0 : z_fm [92, 93, 97, 98, 99] [55, 59, 60, 61] m (mz_up m 92 u 0) := (z_fm.rf _ _ _).up (by decide) (by decide)
      have hq0 : q_M (mz_up m 92 u 0) F F s := q_M_fm hq ((z_fm.rf [92] [] _).up (by decide) (by decide)) (by decide) (by decide) (by simp)
      refine s_M_burn hq0 hF (by omega) (fun g => by omega) (fun _ => ⟨hE.fm f0 (by decide), fun _ => h1 ?_ _ hq0 f0, fun g => absurd rfl g⟩)
      intro e2
      rw [e] at e2
      have := z_neg_lt (show u < 4001 by omega)
      rw [e2] at this
      exact absurd this (nI_pos (by omega))
  | succ n ih =>
    intro k w s m hkn hkF hw hE hq hpl hs hQ
    -- going on with the next way
    have cont : ∀ k0 w' k' s' m1, k = k0 + 1 → w ≠ nI N → z_st N kd sz lp tv nx en ks w k0 s = (-1, w', k', s') → k' ≤ k0 → s'.2.1 ≤ s.2.1 + 1 → q_M m1 F (F - k') s' → p_M m1 [] → z_eM m1 N kd tk sz up tv ks → z_fm [92, 93, 97, 98, 99] [55, 59, 60, 61] m m1 → ∀ m', z_fm [92, 93] [] m1 m' → z_GW X Q N kd tk sz up tv ks w' m' := by
      intro k0 w' k' s' m1 hk0 hwN hst le1 le2 a1 a2 a3 a4 m' f'
      subst hk0
      have hgo : z_go N kd sz lp tv nx en ks (n + 1) (k0 + 1) w s = z_go N kd sz lp tv nx en ks n k' w' s' := by
        simp only [z_go]
        rw [if_neg hwN, if_neg (by omega), Nat.add_sub_cancel, hst]
        simp
      refine ih k' w' s' m' (by omega) (by omega) (z_st_wv hp hl hpa hw hwN hst) (a3.fm f' (by decide)) (q_M_fm a1 f' (by decide) (by decide) (by simp)) (p_M_fm a2 f' (by decide) (by simp)) (by omega) (fun m2 h2 k2 s2 c1 c2 c3 => hQ m2 h2 k2 s2 (hgo.trans c1) c2 ((a4.tr (f'.wk (by decide) (by simp))).tr c3))
    have stop : ∀ k0 h w' k' s' m1, k = k0 + 1 → w ≠ nI N → z_st N kd sz lp tv nx en ks w k0 s = (h, w', k', s') → h ≠ -1 → q_M m1 F (F - k') s' → z_fm [92, 93, 97, 98, 99] [55, 59, 60, 61] m m1 → Q h m1 := by
      intro k0 h w' k' s' m1 hk0 hwN hst hh a1 a4
      subst hk0
      refine hQ m1 h k' s' ?_ a1 a4
      simp only [z_go]
      rw [if_neg hwN, if_neg (by omega), Nat.add_sub_cancel, hst]
      simp only [if_pos hh]
    have h1 : k = 0 → w ≠ nI N → ∀ m', q_M m' F F s → z_fm [92, 93, 97, 98, 99] [55, 59, 60, 61] m m' → Q 1 m' := fun hk g m' a1 a2 => by
      subst hk
      exact hQ m' 1 0 s (by simp only [z_go]; rw [if_neg g]; simp) a1 a2
    refine ⟨fun e => hQ m 0 k s (by simp only [z_go]; rw [if_pos e]) hq (z_fm.rf _ _ _), fun y hy h0 k1 k6 e hpe => ?_, fun u hu k4 e hpv => ?_⟩
    · have hwN : w ≠ nI N := fun e2 => by
        rw [e] at e2
        have := (nI_eq (by omega) (by omega)).mp e2
        omega
      have hcy : (nI y).toNatClampNeg = y := nI_clamp (by omega)
      have hnl : ¬ nI y < 0 := nI_pos (by omega)
      refine ⟨fun g => by omega, fun _ => s_M_burn hq hF (by omega) (fun ht m1 q1 f1 => ⟨fun g => absurd g (by decide), fun _ => ?_⟩) (fun ht => ⟨fun _ => h1 (by omega) hwN m (by rw [show F - k = F by omega] at hq; exact hq) (z_fm.rf _ _ _), fun g => absurd rfl g⟩)⟩
      obtain ⟨k0, rfl⟩ : ∃ k', k = k' + 1 := ⟨k - 1, by omega⟩
      have hu := (hp.2.2.2.2.2.1 y h0 hy)
      have hq1 : q_M m1 F (F - k0) (z_beg s (nI y)) := by
        have : F - (k0 + 1) + 1 = F - k0 := by omega
        rw [this] at q1
        exact q1
      have f2 : z_fm [92, 93, 97, 98, 99] [55, 59, 60, 61] m (mz_up (mz_up m1 93 (up y) (nI y)) 92 y 0) := ((f1.wk (by simp) (by decide)).up (by decide) (by decide)).up (by decide) (by decide)
      have hq2 : q_M (mz_up (mz_up m1 93 (up y) (nI y)) 92 y 0) F (F - k0) (z_beg s (nI y)) := q_M_fm hq1 (((z_fm.rf [92, 93] [] _).up (by decide) (by decide)).up (by decide) (by decide)) (by decide) (by decide) (by simp)
      have hp2 : p_M (mz_up (mz_up m1 93 (up y) (nI y)) 92 y 0) [] := p_M_fm (p_M_fm hpl f1 (by simp) (by decide)) (((z_fm.rf [92, 93] [] _).up (by decide) (by decide)).up (by decide) (by decide)) (by decide) (by simp)
      have h92y : mz_up (mz_up m1 93 (up y) (nI y)) 92 y 0 92 y = nI 0 := by rw [mz_up_k]; simp [upd, nI_0]
      have hpv : z_pv kd sz up (mz_up (mz_up m1 93 (up y) (nI y)) 92 y 0) y := by
        refine hpe.pv hp h0 hy (fun q hq => ?_) ?_ (fun q hq hq2 => ?_)
        · have : q ≠ y := by omega
          rw [mz_up_k, mz_up_n _ _ _ (by decide), f1.1 92 (by simp) (by decide)]
          simp [upd, this]
        · rw [mz_up_n _ _ _ (by decide), mz_up_k]
          simp [upd]
        · rw [mz_up_n _ _ _ (by decide), mz_up_k, f1.1 93 (by simp) (by decide)]
          simp [upd, hq2]
      generalize mz_up (mz_up m1 93 (up y) (nI y)) 92 y 0 = m2 at f2 hq2 hp2 h92y hpv
      have hE2 : z_eM m2 N kd tk sz up tv ks := hE.fm f2 (by decide)
      have hE2' := hE2
      obtain ⟨⟨n1, n2, n3⟩, b2, b3⟩ := hE2'
      obtain ⟨c1, c2, c3, c4, c5, c6, c7⟩ := n2 y hy
      have hin : mz_inb (nI y) 12100 = true := mz_inbN (by omega) (by decide)
      have z92 : m2 92 y = 0 := h92y
      subst e
      by_cases k5 : kd y = 5
      · have g1 := hl.2.2 y hy (Or.inl k5)
        obtain ⟨g2, g3, g4⟩ := z_lpw hp hl y y (Nat.le_refl _) hy (by omega) g1
        have hst : z_st N kd sz lp tv nx en ks (nI y) k0 s = (-1, z_in2 N en (nx (lp y - 1)), k0, z_beg s (nI y)) := by
          unfold z_st
          rw [if_neg hnl, hcy, if_neg (by omega), if_pos k5]
        have hlv : z_lv X Q up (lp y - 1) m2 := s_M_lv hp hpa (by omega) (by omega) hE2 (z_pv.up' hp (by omega) (by omega) (by omega) hpv) (cont k0 _ k0 _ m2 rfl hwN hst (Nat.le_refl _) (by simp [z_beg]) hq2 hp2 hE2 f2)
        refine t_M_goTree_1 _ ⟨fun g => absurd g hnl, fun _ => ⟨hin, ?_⟩⟩
        rw [hcy, c1]
        refine ⟨fun _ => ?_, fun g => absurd (by rw [k5]; rfl) g⟩
        refine s_M_whileOf (kd := kd) (lp := lp) hp ⟨hl.1, hl.2.1⟩ (fun j hj => (n2 j hj).1) (fun j hj => (n3 j hj).2.2.2.2) hy (by omega) ?_
        rw [nI_m1 g1, nI_clamp (by omega), (n3 (lp y - 1) (by omega)).2.2.2.2]
        refine ⟨mz_inbN (by omega) (by decide), ?_⟩
        by_cases hz : lp y - 1 = 0
        · rw [if_pos hz]
          exact ⟨fun _ => t_M_goTree_1 _ ⟨fun _ => hlv.1 hz, fun g => absurd (by decide) g⟩, fun g => absurd (by decide) g⟩
        · rw [if_neg hz]
          have hu2 := b3 (lp y - 1) (by omega) (by omega)
          refine ⟨fun g => absurd g (nI_pos (by omega)), fun _ => ⟨mz_inbN (by omega) (by decide), mz_inbN (by omega) (by decide), ?_⟩⟩
          rw [nI_clamp (by omega)]
          exact hlv.2 hz
      · by_cases k6' : kd y = 6
        · have g1 := hl.2.2 y hy (Or.inr k6')
          obtain ⟨g2, g3, g4⟩ := z_lpw hp hl y y (Nat.le_refl _) hy (by omega) g1
          have hst : z_st N kd sz lp tv nx en ks (nI y) k0 s = (-1, -1 - nI (lp y - 1), k0, z_beg s (nI y)) := by
            unfold z_st
            rw [if_neg hnl, hcy, if_neg (by omega), if_neg (by omega), if_pos k6']
          have f3 : z_fm [92, 93] [] m2 (mz_up m2 92 (lp y - 1) 2) := (z_fm.rf _ _ _).up (by decide) (by decide)
          have hE3 := hE2.fm f3 (by decide)
          have hpv3 : z_pv kd sz up (mz_up m2 92 (lp y - 1) 2) (lp y - 1) := by
            refine (z_pv.up' hp (by omega) (by omega) (by omega) hpv).keep hp (by omega) (fun q hq => ?_)
            have : q ≠ lp y - 1 := by omega
            rw [mz_up_k, mz_up_n _ _ _ (by decide)]
            simp [upd, this]
          have hr := (cont k0 _ k0 _ m2 rfl hwN hst (Nat.le_refl _) (by simp [z_beg]) hq2 hp2 hE2 f2 _ f3).2.2 (lp y - 1) (by omega) g3 rfl hpv3
          have hlin : mz_inb (nI (lp y - 1)) 12100 = true := mz_inbN (by omega) (by decide)
          refine t_M_goTree_1 _ ⟨fun g => absurd g hnl, fun _ => ⟨hin, ?_⟩⟩
          rw [hcy, c1]
          refine ⟨fun g => absurd (nI_eqc (c := 5) rfl (by omega) (by omega) g) k5, fun _ => ⟨hin, fun _ => ?_, fun g => absurd (by rw [k6']; rfl) g⟩⟩
          refine s_M_whileOf (kd := kd) (lp := lp) hp ⟨hl.1, hl.2.1⟩ (fun j hj => (n2 j hj).1) (fun j hj => (n3 j hj).2.2.2.2) hy (by omega) ?_
          rw [nI_m1 g1, nI_clamp (by omega)]
          refine ⟨hlin, ?_⟩
          have e92 : mz_up m2 92 (lp y - 1) 2 92 (lp y - 1) = 2 := by rw [mz_up_k]; simp [upd]
          refine (s_M_advk (Q := fun r m1 => z_eM m1 N kd tk sz up tv ks ∧ z_af X Q N kd up (lp y - 1) r m1) (by omega) (hE3.1.2.1 _ (by omega)).1 (by omega) (by omega) (by omega) (fun g => by omega) (fun g => by omega) (fun g => by omega) (fun g => by omega) (fun k4 => ?_) (fun g => by omega) (fun g => by omega) (fun g => by omega) (fun g => by omega) (fun g => by omega) (fun g1 g2 => by omega)).mono (fun r m4 hm => z_af_tree hm.1 (by omega) hm.2)
          refine t_M_round_0 _ ?_
          rw [nI_clamp (by omega), e92]
          refine ⟨hlin, fun g => absurd g (by decide), fun _ => ⟨hlin, hr.mono (fun r m4 hm => ⟨fun g => ⟨hm.1, Or.inl ⟨rfl, hm.2.1 g⟩⟩, fun g => ⟨hlin, hm.1, Or.inr (Or.inr (Or.inr ⟨lp y - 1 + 1, by omega, ?_, hm.2.2 g⟩))⟩⟩)⟩⟩
          rw [(hm.1.1.2.2 (lp y - 1) (by omega)).1, if_neg]
          intro ee
          rcases z_cases hp (show lp y - 1 < N by omega) with ⟨k, _⟩ | ⟨k, e, h1, h2⟩ | ⟨k, l, e, kl, h1, h2⟩ | ⟨k, l, l2, e, kl, kl2, h1, h2⟩ | ⟨k, l, e, kl, h1, h2⟩ | ⟨k, e⟩ | ⟨k, b, e, _⟩ | ⟨k, e⟩
          all_goals first | (exfalso; omega) | (rw [e] at ee; cases ee)
        · by_cases k4 : kd y = 4
          · have hst : z_st N kd sz lp tv nx en ks (nI y) k0 s = (-1, -1 - nI y, k0, z_beg s (nI y)) := by
              unfold z_st
              rw [if_neg hnl, hcy, if_pos k4]
            have hr := (cont k0 _ k0 _ m2 rfl hwN hst (Nat.le_refl _) (by simp [z_beg]) hq2 hp2 hE2 f2 _ (z_fm.rf _ _ _)).2.2 y hy k4 rfl hpv
            refine s_M_gt hE2 hy k5 k6' (s_M_advk (by omega) c1 c6 k5 k6' (fun g => by omega) (fun g => by omega) (fun g => by omega) (fun g => by omega) (fun _ => ?_) (fun g => by omega) (fun g => by omega) (fun g => by omega) (fun g => by omega) (fun g => by omega) (fun g1 g2 => by omega))
            refine t_M_round_0 _ ?_
            rw [hcy, z92]
            obtain ⟨l, el⟩ : ∃ l, ks y = [y + 1, l] := by
              rcases z_cases hp hy with ⟨k, _⟩ | ⟨k, e, h1, h2⟩ | ⟨k, l, e, kl, h1, h2⟩ | ⟨k, l, l2, e, kl, kl2, h1, h2⟩ | ⟨k, l, e, kl, h1, h2⟩ | ⟨k, e⟩ | ⟨k, b, e, _⟩ | ⟨k, e⟩
              all_goals first | (exfalso; omega) | exact ⟨_, e⟩
            have q2 := (z_pre_kids hp y hy (y + 1) (by rw [el]; exact List.mem_cons_self)).2.2.1
            refine ⟨hin, fun g => absurd g (by decide), fun _ => ⟨hin, hr.mono (fun r m4 hm => ⟨fun g => ⟨hm.1, Or.inl ⟨rfl, hm.2.1 g⟩⟩, fun g => ⟨hin, hm.1, Or.inr (Or.inr (Or.inr ⟨y + 1, q2, ?_, hm.2.2 g⟩))⟩⟩)⟩⟩
            rw [(hm.1.1.2.2 y hy).1, if_neg (by rw [el]; exact List.cons_ne_nil _ _)]
          · -- SET, PRINT, IF
            obtain ⟨t, ek, k7⟩ : ∃ t, ks y = (y + 1) :: t ∧ 7 ≤ kd (y + 1) := by
              rcases z_cases hp hy with ⟨k, _⟩ | ⟨k, e, h1, h2⟩ | ⟨k, l, e, _, h1, h2⟩ | ⟨k, l, l2, e, _, _, h1, h2⟩ | ⟨k, l, e, _, h1, h2⟩ | ⟨k, e⟩ | ⟨k, b, e, _⟩ | ⟨k, e⟩
              all_goals first | (exfalso; omega) | exact ⟨_, e, h1⟩
            have hkid := z_pre_kids hp y hy (y + 1) (by rw [ek]; exact List.mem_cons_self)
            obtain ⟨v1, v2, q2, v4⟩ := hkid
            have hty := (hp.2.2.2.2.1 y hy)
            have hht := (hty.2.2.2.1 (y + 1) (by rw [ek]; exact List.mem_cons_self)).2
            have hh200 := hty.2.2.2.2.2
            have s1 := (hp.2.2.2.2.1 (y + 1) q2).1
            have hE1 : z_ent X Q kd y (y + 1) m2 := by
              have er := s_M_ER (X := X) (tk := tk) (tv := tv) hp hF N (y + 1) (by omega) q2 k7 Q m2 0 k0 (z_beg s (nI y)) [] hE2 hq2 (by omega) hp2 (by simp only [List.length_nil]; omega) (by rw [v1]; exact h92y) (by omega)
              rw [v1] at er
              refine er (fun h v k' s' hv => ?_)
              have hst : z_st N kd sz lp tv nx en ks (nI y) k0 s = (if h ≠ -1 then (h, 0, k', s') else if kd y = 1 then (-1, z_in2 N en (nx y), k', z_sto s' (tv y).toNatClampNeg v) else if kd y = 2 then (-1, z_in2 N en (nx y), k', z_prt s' v) else (-1, (if v ≠ 0 then z_in2 N en (nI (y + 1 + sz (y + 1))) else if (ks y).length = 3 then z_in2 N en (nI (y + 1 + sz (y + 1) + sz (y + 1 + sz (y + 1)))) else z_in2 N en (nx y)), k', s')) := by
                unfold z_st
                rw [if_neg hnl, hcy, if_neg k4, if_neg k5, if_neg k6', hv]
              have hle := z_ev_le kd sz tv N (y + 1) k0 (z_beg s (nI y))
              rw [hv] at hle
              obtain ⟨le1, le2⟩ := hle
              simp only at le1 le2
              have le3 : s'.2.1 = s.2.1 := by rw [le2]; rfl
              refine ⟨fun hh m3 a1 a2 => ?_, fun hh m3 a1 a2 a3 a4 a5 => ?_⟩
              · rw [if_pos hh] at hst
                exact stop k0 h _ _ _ m3 rfl hwN hst hh a1 (f2.tr (a2.wk (by decide) (by decide)))
              · rw [if_neg (fun g => g hh)] at hst
                have f3 := f2.tr (a5.wk (l' := [92, 93, 97, 98, 99]) (js' := [55, 59, 60, 61]) (by decide) (by decide))
                have hE3 := hE2.fm a5 (by decide)
                have hpv3 : z_pv kd sz up m3 y := hpv.keep hp hy (fun q hq => a4 q (Or.inl (by omega)) (by omega))
                have y92 : m3 92 y = nI 1 := a3
                have nz : ¬ m3 92 y = 0 := by rw [y92]; decide
                have hE3' := hE3
                obtain ⟨⟨n1', n2', n3'⟩, b2', b3'⟩ := hE3'
                obtain ⟨c1', c2', c3', c4', c5', c6', c7'⟩ := n2' y hy
                refine s_M_gt hE3 hy k5 k6' (s_M_advk (by omega) c1' c6 k5 k6' (fun g => by omega) (fun g1 => ⟨fun g => absurd g nz, fun _ => ?_⟩) (fun g2 => ⟨fun g => absurd g nz, fun _ => ?_⟩) (fun g3 => ?_) (fun g => by omega) (fun g => by omega) (fun g => by omega) (fun g => by omega) (fun g => by omega) (fun g => by omega) (fun g1 g2 => by omega))
                · rw [if_pos g1] at hst
                  obtain ⟨q, hq32, eq⟩ := b2' y hy (Or.inr g1)
                  rw [c2', nI_clamp (by omega), c4', eq, nI_clamp (by omega)]
                  refine ⟨mz_inbN (by omega) (by decide), s_M_pop a2 (by simp) (fun m4 d1 d2 => ⟨mz_inbN hq32 (by decide), ?_⟩)⟩
                  have f4 : z_fm [97, 98] [55] m3 (mz_up m4 97 q v) := (d2.wk (by decide) (by decide)).up (by decide) (by decide)
                  have hE4 := hE3.fm f4 (by decide)
                  rw [eq, nI_clamp (by omega)] at hst
                  refine ⟨hE4, Or.inr (Or.inr (Or.inl ⟨rfl, s_M_lv hp hpa hy k6 hE4 (hpv3.keep hp hy (fun z hz => ⟨by rw [f4.1 92 (by decide) (by decide)], by rw [f4.1 93 (by decide) (by decide)]⟩)) (cont k0 _ _ _ _ rfl hwN hst le1 (by simp only [z_sto]; omega) ?_ (p_M_fm d1 ((z_fm.rf [97] [] _).up (by decide) (by decide)) (by decide) (by simp)) hE4 (f3.tr (f4.wk (by decide) (by decide))))⟩))⟩
                  have qa := q_M_fm a1 d2 (by decide) (by decide) (by decide)
                  obtain ⟨w0, w1, w2, w3, w4, w5, w6⟩ := qa
                  refine ⟨?_, ?_, ?_, ?_, ?_, ?_, ?_⟩
                  · rw [mz_up_n _ _ _ (by decide)]; exact w0
                  · rw [mz_up_n _ _ _ (by decide)]; exact w1
                  · rw [mz_up_n _ _ _ (by decide)]; exact w2
                  · rw [mz_up_n _ _ _ (by decide)]; exact w3
                  · rw [mz_up_n _ _ _ (by decide)]; exact w4
                  · rw [mz_up_n _ _ _ (by decide)]; exact w5
                  · rw [mz_up_k, w6]; rfl
                · rw [if_neg (by omega), if_pos g2] at hst
                  refine s_M_pop a2 (by simp) (fun m4 d1 d2 => s_M_print (q_M_fm a1 d2 (by decide) (by decide) (by decide)) (by omega) (fun m5 d3 d4 => ?_))
                  have f4 : z_fm [98, 99] [55, 61] m3 m5 := (d2.wk (by decide) (by decide)).tr (d4.wk (by decide) (by decide))
                  have hE4 := hE3.fm f4 (by decide)
                  exact ⟨hE4, Or.inr (Or.inr (Or.inl ⟨rfl, s_M_lv hp hpa hy k6 hE4 (hpv3.keep hp hy (fun z hz => ⟨by rw [f4.1 92 (by decide) (by decide)], by rw [f4.1 93 (by decide) (by decide)]⟩)) (cont k0 _ _ _ _ rfl hwN hst le1 (by simp only [z_prt]; omega) d3 (p_M_fm d1 d4 (by decide) (by decide)) hE4 (f3.tr (f4.wk (by decide) (by decide))))⟩))⟩
                · rw [if_neg (by omega), if_neg (by omega)] at hst
                  have l86 : m3 86 y = nI (y + 1) := by rw [(n3' y hy).1, if_neg (by rw [ek]; exact List.cons_ne_nil _ _)]
                  refine t_M_choose_0 _ ?_
                  rw [hcy, l86, nI_clamp (show y + 1 < 2 ^ 31 by omega), y92]
                  refine ⟨hin, fun g => absurd g (by decide), fun _ => ⟨hin, fun g => absurd g (by decide), fun _ => ⟨hin, mz_inbN (by omega) (by decide), s_M_pop a2 (by simp) (fun m4 d1 d2 => ?_)⟩⟩⟩
                  have hE4 := hE3.fm d2 (by decide)
                  have hpv4 : z_pv kd sz up m4 y := hpv3.keep hp hy (fun z hz => ⟨by rw [d2.1 92 (by decide) (by decide)], by rw [d2.1 93 (by decide) (by decide)]⟩)
                  have y92' : m4 92 y = 1 := by rw [d2.1 92 (by decide) (by decide)]; exact y92
                  have qa := q_M_fm a1 d2 (by decide) (by decide) (by decide)
                  have f4 := f3.tr (d2.wk (l' := [92, 93, 97, 98, 99]) (js' := [55, 59, 60, 61]) (by decide) (by decide))
                  have cn := cont k0 _ _ _ m4 rfl hwN hst le1 (by omega) qa d1 hE4 f4
                  obtain ⟨wc, sst, bs, hc⟩ := z_cd_ex hp
                  have h84 : m4 84 y = nI (ks y).length := (hE4.1.2.1 y hy).2.2.2.2.1
                  rw [h84]
                  have enter : ∀ l, l < N → kd l = 0 → up l = y → y < l → (∀ m', z_fm [92, 93] [] m4 m' → z_GW X Q N kd tk sz up tv ks (z_in2 N en (nI l)) m') → z_ent X Q kd y l m4 := fun l l1 l2 l3 l4 hG => by
                    have := s_M_enter hp hpa l1 (by omega) (by omega) hE4 (z_pv.pe hp (by omega) l1 (by rw [l3]; exact hpv4) (by rw [l3]; exact ⟨fun g => by omega, fun _ => y92'⟩)) hG
                    rw [l3] at this
                    exact this
                  rcases z_cases hp hy with ⟨k, _⟩ | ⟨k, e, h1, h2⟩ | ⟨k, l, e, kl, h1, h2⟩ | ⟨k, l, l2, e, kl, kl2, h1, h2⟩ | ⟨k, l, e, kl, h1, h2⟩ | ⟨k, e⟩ | ⟨k, b, e, _⟩ | ⟨k, e⟩
                  · omega
                  · omega
                  · obtain ⟨r1, r2, r3, r4, r5, r6, r7, r8, r9, r10, r11, r12, r13⟩ := z_k2 hp hc hy e
                    have hl := (hp.2.2.2.2.1 l r5).1
                    rw [e, if_neg (show ¬ [y + 1, l].length = 3 by simp), ← r3] at cn
                    rw [e]
                    refine ⟨fun gv => ⟨hin, fun g => absurd g (show ¬ nI 2 = 3 by decide), fun _ => ?_⟩, fun gv => ?_⟩
                    · rw [if_neg (fun g => g gv)] at cn
                      exact ⟨hE4, Or.inr (Or.inr (Or.inl ⟨rfl, s_M_lv hp hpa hy k6 hE4 hpv4 cn⟩))⟩
                    · rw [if_pos gv] at cn
                      refine ⟨hE4, Or.inr (Or.inr (Or.inr ⟨l, r5, ?_, enter l r5 kl r11 (by omega) cn⟩))⟩
                      rw [(n3' (y + 1) q2).2.2.2.1, if_neg (by omega), v1, if_neg (by omega), ← r3]
                  · obtain ⟨r1, r2, r3, r4, r5, r6, r7, r8, r9, r10, r11, r12, r13, r14, r15, r16⟩ := z_k3 hp hc hy e
                    rw [e, if_pos (show [y + 1, l, l2].length = 3 from rfl), ← r3, ← r6] at cn
                    rw [e]
                    refine ⟨fun gv => ⟨hin, fun _ => ⟨hin, ?_⟩, fun g => absurd (show nI 3 = 3 from rfl) g⟩, fun gv => ?_⟩
                    · rw [if_neg (fun g => g gv)] at cn
                      refine ⟨hE4, Or.inr (Or.inr (Or.inr ⟨l2, r8, ?_, enter l2 r8 kl2 r16 (by omega) cn⟩))⟩
                      exact (hE4.1.2.2 y hy).2.2.1 l2 (by rw [e]; rfl)
                    · rw [if_pos gv] at cn
                      refine ⟨hE4, Or.inr (Or.inr (Or.inr ⟨l, r5, ?_, enter l r5 kl r15 (by omega) cn⟩))⟩
                      have hl2 := (hp.2.2.2.2.1 l2 r8).1
                      rw [(n3' (y + 1) q2).2.2.2.1, if_neg (by omega), v1, if_neg (by omega), ← r3]
                  · omega
                  · omega
                  · omega
                  · omega
            have l86 : m2 86 y = nI (y + 1) := by rw [(n3 y hy).1, if_neg (by rw [ek]; exact List.cons_ne_nil _ _)]
            have go : z_eM m2 N kd tk sz up tv ks ∧ z_af X Q N kd up y (m2 86 y) m2 := ⟨hE2, Or.inr (Or.inr (Or.inr ⟨y + 1, q2, l86, hE1⟩))⟩
            refine s_M_gt hE2 hy k5 k6' (s_M_advk (by omega) c1 c6 k5 k6' (fun g => by omega) (fun g1 => ⟨fun _ => go, fun g => absurd z92 g⟩) (fun g2 => ⟨fun _ => go, fun g => absurd z92 g⟩) (fun g3 => ?_) (fun g => by omega) (fun g => by omega) (fun g => by omega) (fun g => by omega) (fun g => by omega) (fun g => by omega) (fun g1 g2 => by omega))
            refine t_M_choose_0 _ ?_
            rw [hcy]
            exact ⟨hin, fun _ => ⟨hin, go⟩, fun g => absurd z92 g⟩
    · have hwN : w ≠ nI N := fun e2 => by
        rw [e] at e2
        have := z_neg_lt (show u < 4001 by omega)
        rw [e2] at this
        exact absurd this (nI_pos (by omega))
      obtain ⟨l, ek, kl, k7, k19⟩ : ∃ l, ks u = [u + 1, l] ∧ kd l = 0 ∧ 7 ≤ kd (u + 1) ∧ kd (u + 1) ≤ 19 := by
        rcases z_cases hp hu with ⟨k, _⟩ | ⟨k, e, _⟩ | ⟨k, l, e, _⟩ | ⟨k, l, l2, e, _⟩ | ⟨k, l, e, h1, h2, h3⟩ | ⟨k, e⟩ | ⟨k, b, e, _⟩ | ⟨k, e⟩
        all_goals first | (exfalso; omega) | exact ⟨_, e, h1, h2, h3⟩
      obtain ⟨wc, sst, bs, hc⟩ := z_cd_ex hp
      obtain ⟨r1, r2, r3, r4, r5, r6, r7, r8, r9, r10, r11, r12, r13⟩ := z_k2 hp hc hu ek
      have hls := (hp.2.2.2.2.1 l r5).1
      have hh200 := (hp.2.2.2.2.1 u hu).2.2.2.2.2
      have s1 := (hp.2.2.2.2.1 (u + 1) r2).1
      have f0 : z_fm [92, 93, 97, 98, 99] [55, 59, 60, 61] m (mz_up m 92 u 0) := (z_fm.rf _ _ _).up (by decide) (by decide)
      have hq0 : q_M (mz_up m 92 u 0) F (F - k) s := q_M_fm hq ((z_fm.rf [92] [] _).up (by decide) (by decide)) (by decide) (by decide) (by simp)
      have hp0 : p_M (mz_up m 92 u 0) [] := p_M_fm hpl ((z_fm.rf [92] [] _).up (by decide) (by decide)) (by decide) (by simp)
      have hpv0 : z_pv kd sz up (mz_up m 92 u 0) u := hpv.keep hp hu (fun q hq => by
        have : q ≠ u := by omega
        rw [mz_up_k, mz_up_n _ _ _ (by decide)]
        simp [upd, this])
      have u92 : mz_up m 92 u 0 92 u = nI 0 := by rw [mz_up_k]; simp [upd, nI_0]
      unfold z_rnd
      generalize mz_up m 92 u 0 = m0 at f0 hq0 hp0 hpv0 u92
      have hE0 := hE.fm f0 (by decide)
      refine s_M_burn hq0 hF (by omega) (fun ht m1 q1 f1 => ⟨hE0.fm f1 (by simp), fun g => absurd g (by decide), fun _ => ?_⟩) (fun ht => ⟨hE0, fun _ => h1 (by omega) hwN m0 (by rw [show F - k = F by omega] at hq0; exact hq0) f0, fun g => absurd rfl g⟩)
      obtain ⟨k0, rfl⟩ : ∃ k', k = k' + 1 := ⟨k - 1, by omega⟩
      have hq1 : q_M m1 F (F - k0) (z_beg s (nI u)) := by
        have : F - (k0 + 1) + 1 = F - k0 := by omega
        rw [this] at q1
        exact q1
      have hE1 := hE0.fm f1 (by simp)
      have f1' := f0.tr (f1.wk (l' := [92, 93, 97, 98, 99]) (js' := [55, 59, 60, 61]) (by simp) (by decide))
      subst e
      have er := s_M_ER (X := X) (tk := tk) (tv := tv) hp hF N (u + 1) (by omega) r2 k7 Q m1 0 k0 (z_beg s (nI u)) [] hE1 hq1 (by omega) (p_M_fm hp0 f1 (by simp) (by decide)) (by simp only [List.length_nil]; omega) (by rw [r10, f1.1 92 (by simp) (by decide)]; exact u92) (by omega)
      rw [r10] at er
      refine er (fun h v k' s' hv => ?_)
      have hst : z_st N kd sz lp tv nx en ks (-1 - nI u) k0 s = (h, (if v = 0 then z_in2 N en (nx u) else z_in2 N en (nI (u + 1 + sz (u + 1)))), k', s') := by
        unfold z_st
        rw [if_pos (z_neg_lt (by omega)), nI_neg2 (by omega), nI_clamp (by omega), hv]
      have hle := z_ev_le kd sz tv N (u + 1) k0 (z_beg s (nI u))
      rw [hv] at hle
      obtain ⟨le1, le2⟩ := hle
      simp only at le1 le2
      have le3 : s'.2.1 = s.2.1 := by rw [le2]; rfl
      refine ⟨fun hh m3 a1 a2 => ?_, fun hh m3 a1 a2 a3 a4 a5 => ?_⟩
      · exact stop k0 h _ _ _ m3 rfl hwN hst hh a1 (f1'.tr (a2.wk (by decide) (by decide)))
      · rw [hh] at hst
        have f3 := f1'.tr (a5.wk (l' := [92, 93, 97, 98, 99]) (js' := [55, 59, 60, 61]) (by decide) (by decide))
        have hE3 := hE1.fm a5 (by decide)
        have hpv3 : z_pv kd sz up m3 u := hpv0.keep hp hu (fun q hq => by
          have := a4 q (Or.inl (by omega)) (by omega)
          rw [this.1, this.2, f1.1 92 (by simp) (by decide), f1.1 93 (by simp) (by decide)]
          exact ⟨rfl, rfl⟩)
        have y92 : m3 92 u = 1 := a3
        have hin : mz_inb (nI u) 12100 = true := mz_inbN (by omega) (by decide)
        have hE3' := hE3
        obtain ⟨⟨n1', n2', n3'⟩, b2', b3'⟩ := hE3'
        obtain ⟨c1', c2', c3', c4', c5', c6', c7'⟩ := n2' u hu
        refine s_M_gt hE3 hu (by omega) (by omega) (s_M_advk (by omega) c1' c6' (by omega) (by omega) (fun g => by omega) (fun g => by omega) (fun g => by omega) (fun g => by omega) (fun _ => ?_) (fun g => by omega) (fun g => by omega) (fun g => by omega) (fun g => by omega) (fun g => by omega) (fun g1 g2 => by omega))
        refine t_M_round_0 _ ?_
        rw [nI_clamp (by omega), y92]
        refine ⟨hin, fun _ => s_M_pop a2 (by simp) (fun m4 d1 d2 => ?_), fun g => absurd rfl g⟩
        have hE4 := hE3.fm d2 (by decide)
        have hpv4 : z_pv kd sz up m4 u := hpv3.keep hp hu (fun z hz => ⟨by rw [d2.1 92 (by decide) (by decide)], by rw [d2.1 93 (by decide) (by decide)]⟩)
        have y92' : m4 92 u = 1 := by rw [d2.1 92 (by decide) (by decide)]; exact y92
        have cn := cont k0 _ _ _ m4 rfl hwN hst le1 (by omega) (q_M_fm a1 d2 (by decide) (by decide) (by decide)) d1 hE4 (f3.tr (d2.wk (by decide) (by decide)))
        refine ⟨fun gv => ?_, fun gv => ⟨hin, ?_⟩⟩
        · rw [if_pos gv] at cn
          exact ⟨hE4, Or.inr (Or.inr (Or.inl ⟨rfl, s_M_lv hp hpa hu (by omega) hE4 hpv4 cn⟩))⟩
        · rw [if_neg gv, ← r3] at cn
          refine ⟨hE4, Or.inr (Or.inr (Or.inr ⟨l, r5, (hE4.1.2.2 u hu).2.2.1 l (by rw [ek]; rfl), ?_⟩))⟩
          have := s_M_enter hp hpa r5 (by omega) (by omega) hE4 (z_pv.pe hp (by omega) r5 (by rw [r11]; exact hpv4) (by rw [r11]; exact ⟨fun g => by omega, fun _ => y92'⟩)) cn
          rw [r11] at this
          exact this
