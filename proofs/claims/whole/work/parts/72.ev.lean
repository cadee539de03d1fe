/-! the tree's run: the class's evaluate, by recursion over the exp -/
theorem s_E_isDecided {X : mz_X} {m : mz_M} {Q : Int32 → mz_M → Prop} {k : Nat} {v : Int32} (hk : k ≤ 19) (h1 : (k = 8 ∧ v = 0) ∨ (k = 7 ∧ v ≠ 0) → Q 1 m) (h2 : ¬ ((k = 8 ∧ v = 0) ∨ (k = 7 ∧ v ≠ 0)) → Q 0 m) : mz_gi X mz_sh 98 0 [some (.int (nI k)), some (.int v)] m Q := by
  have c : ∀ {b : Nat}, b < 2 ^ 31 → nI k = nI b → k = b := fun hb e => (nI_eq (by omega) hb).mp e
  refine t_E_isDecided_0 _ _ ⟨fun g8 => ?_, fun g8 => ?_⟩
  · have k8 := c (b := 8) (by decide) g8
    refine ⟨fun g => h1 (Or.inl ⟨k8, g⟩), fun g => ⟨fun g7 => ?_, fun _ => h2 ?_⟩⟩
    · have := c (b := 7) (by decide) g7; omega
    · rintro (⟨_, g'⟩ | ⟨g', _⟩)
      · exact g g'
      · omega
  · have k8 : k ≠ 8 := fun e => g8 (by rw [e]; rfl)
    refine ⟨fun g7 => ⟨fun g => h2 ?_, fun g => h1 (Or.inr ⟨c (b := 7) (by decide) g7, g⟩)⟩, fun g7 => h2 ?_⟩
    · rintro (⟨g', _⟩ | ⟨_, g'⟩)
      · omega
      · exact g' g
    · have k7 : k ≠ 7 := fun e => g7 (by rw [e]; rfl)
      omega
/-- a whole is settled -/
theorem s_E_set1 {X : mz_X} {m : mz_M} {Q : Int32 → mz_M → Prop} {N x D : Nat} {kd tk sz lp : Nat → Nat} {tv nx en : Nat → Int32} {ks : Nat → List Nat} {v : Int32} (hE : z_eA m N kd tk sz lp tv nx en ks) (hx : x < N) (hk : 7 ≤ kd x) (hk2 : kd x ≤ 17) (hg : m 47 1 = -1) (hD : m 50 6 = nI (D + 1)) (hD2 : D < 200) (h51 : m 51 D = nI x) (h1 : ¬ ((kd x = 14 ∨ kd x = 15) ∧ v = 0) → mz_gi X mz_sh 97 5 [some (.ref 50), none, none, some (.int (z_ap (kd x) (m 52 D) v)), some (.int (nI (x + sz x))), none, none] (mz_up m 50 6 (nI D)) Q) (h2 : (kd x = 14 ∨ kd x = 15) → v = 0 → mz_gi X mz_sh 97 5 [some (.ref 50), none, none, some (.int 0), some (.int (nI (x + sz x))), none, none] (mz_up (mz_up m 50 6 (nI D)) 47 1 2) Q) : mz_gi X mz_sh 97 5 [some (.ref 50), none, none, some (.int v), some (.int (nI (x + sz x))), none, none] m Q := by
  obtain ⟨⟨a1, a2, a3⟩, b2, b3, b4, b5, b6⟩ := hE
  obtain ⟨c1, c2, c3, c4, c5, c6, c7, c8, c9, c10⟩ := a3 x hx
  refine t_E_settle_1 _ _ ⟨fun g => ?_, fun _ => s_R_isGoing (fun _ => ⟨fun g => absurd g (by decide), fun _ => ?_⟩) (fun g => absurd hg g)⟩
  · rw [hD] at g
    exact absurd g (nI_ge (a := 0) (by omega) (by omega))
  rw [hD, nI_m1 (by omega), Nat.add_sub_cancel, nI_clamp (by omega), h51]
  refine ⟨mz_inbN hD2 (by decide), s_T_behind a2 a1 hx c4 ⟨fun _ => ⟨mz_inbN (by omega) (by decide), ?_⟩, fun g => absurd (nI_le (by omega) (by omega)) g⟩⟩
  rw [hD, nI_m1 (by omega), Nat.add_sub_cancel, nI_clamp (by omega), c1]
  refine s_E_calc (D := D) hk hk2 (by rw [mz_up_k]; simp [upd]) hD2 (fun g => ?_) (fun g gv => h2 g gv)
  rw [mz_up_n _ _ _ (by decide)]
  exact h1 g
theorem s_E_set2 {X : mz_X} {m : mz_M} {Q : Int32 → mz_M → Prop} {N x D b : Nat} {kd tk sz lp : Nat → Nat} {tv nx en : Nat → Int32} {ks : Nat → List Nat} {v : Int32} (hE : z_eA m N kd tk sz lp tv nx en ks) (hx : x < N) (hk : 7 ≤ kd x) (hk2 : kd x ≤ 15) (hg : m 47 1 = -1) (hD : m 50 6 = nI (D + 1)) (hD2 : D < 200) (h51 : m 51 D = nI x) (hb : b < x + sz x) (h1 : (kd x = 8 ∧ v = 0) ∨ (kd x = 7 ∧ v ≠ 0) → mz_gi X mz_sh 97 5 [some (.ref 50), none, none, some (.int (z_ap (kd x) 0 v)), some (.int (nI (x + sz x))), none, none] (mz_up m 50 6 (nI D)) Q) (h2 : ¬ ((kd x = 8 ∧ v = 0) ∨ (kd x = 7 ∧ v ≠ 0)) → Q (nI b) (mz_up m 52 D v)) : mz_gi X mz_sh 97 5 [some (.ref 50), none, none, some (.int v), some (.int (nI b)), none, none] m Q := by
  obtain ⟨⟨a1, a2, a3⟩, b2, b3, b4, b5, b6⟩ := hE
  obtain ⟨c1, c2, c3, c4, c5, c6, c7, c8, c9, c10⟩ := a3 x hx
  have hin : mz_inb (nI x) 4001 = true := mz_inbN (by omega) (by decide)
  refine t_E_settle_1 _ _ ⟨fun g => ?_, fun _ => s_R_isGoing (fun _ => ⟨fun g => absurd g (by decide), fun _ => ?_⟩) (fun g => absurd hg g)⟩
  · rw [hD] at g
    exact absurd g (nI_ge (a := 0) (by omega) (by omega))
  rw [hD, nI_m1 (by omega), Nat.add_sub_cancel, nI_clamp (by omega), h51]
  refine ⟨mz_inbN hD2 (by decide), s_T_behind a2 a1 hx c4 ⟨fun g => absurd g (nI_ge (by omega) (by omega)), fun _ => ⟨hin, ?_⟩⟩⟩
  rw [nI_clamp (by omega), c1]
  refine s_E_isDecided c5 (fun g => ⟨fun g' => absurd g' (by decide), fun _ => ⟨hin, ?_⟩⟩) (fun g => ⟨fun _ => ⟨?_, ?_⟩, fun g' => absurd rfl g'⟩)
  · rw [c1, hD, nI_m1 (by omega), Nat.add_sub_cancel]
    refine s_E_calc (D := D) hk (by omega) (by rw [mz_up_k]; simp [upd]) hD2 (fun _ => ?_) (fun g' _ => by omega)
    have := h1 g
    have e : z_ap (kd x) 0 v = z_ap (kd x) (mz_up m 50 6 (nI D) 52 D) v := by
      unfold z_ap
      rw [if_pos (by omega), if_pos (by omega)]
    rw [e] at this
    exact this
  · rw [hD, nI_m1 (by omega), Nat.add_sub_cancel]; exact mz_inbN hD2 (by decide)
  · rw [hD, nI_m1 (by omega), Nat.add_sub_cancel, nI_clamp (by omega)]; exact h2 g
def z_EA (X : mz_X) (N F : Nat) (kd tk sz ht lp : Nat → Nat) (tv nx en : Nat → Int32) (ks : Nat → List Nat) (d x : Nat) : Prop := ∀ (Q : mz_M → Prop) (m : mz_M) (T D k : Nat) (s : z_rs) (e : Nat), z_eA m N kd tk sz lp tv nx en ks → q_A m F (F - k) s → k ≤ F → m 47 1 = -1 → m 50 6 = nI D → D + ht x ≤ 200 → T ≤ x → x + sz x ≤ e → e ≤ N → (∀ h v k' s', z_ev kd sz tv d x k s = (h, v, k', s') → (h ≠ -1 → ∀ m', q_A m' F (F - k') s' → m' 47 1 = h → z_fr [47, 50, 51, 52] m m' → Q m') ∧ (h = -1 → ∀ m' T', q_A m' F (F - k') s' → m' 47 1 = -1 → m' 50 6 = nI D → (∀ j, j < D → m' 51 j = m 51 j ∧ m' 52 j = m 52 j) → z_fr [47, 50, 51, 52] m m' → T' < x + sz x → mz_gi X mz_sh 97 5 [some (.ref 50), none, none, some (.int v), some (.int (nI (x + sz x))), none, none] m' (fun r m2 => mz_gv X mz_sh 94 24 [some (.ref 50), none, some (.int (nI e)), some (.int r), some (.int (nI (T' + 1)))] m2 Q))) → mz_gv X mz_sh 94 24 [some (.ref 50), none, some (.int (nI e)), some (.int (nI x)), some (.int (nI T))] m Q
theorem s_E_EA {X : mz_X} {N F : Nat} {kd tk sz ht up lp : Nat → Nat} {tv nx en : Nat → Int32} {ks : Nat → List Nat} (hp : z_pre N kd sz ht up ks) (hF : F ≤ 100000) : ∀ (d x : Nat), N - x ≤ d → x < N → 7 ≤ kd x → z_EA X N F kd tk sz ht lp tv nx en ks d x := by
  intro d
  induction d with
  | zero => intro x h1 h2; omega
  | succ d ih =>
    intro x h1 hx hk Q m T D k s e hE hq hkF hg hD hDh hT hxe heN hQ
    have hE' := hE
    obtain ⟨⟨a1, a2, a3⟩, b2, b3, b4, b5, b6⟩ := hE'
    obtain ⟨c1, c2, c3, c4, c5, c6, c7, c8, c9, c10⟩ := a3 x hx
    have hxs := (hp.2.2.2.2.1 x hx)
    obtain ⟨wc, st, bs, hc⟩ := z_cd_ex hp
    refine t_E_evaluate_1 _ _ _ ⟨fun g => absurd g (nI_ge (b := 4001) (by omega) (by decide)), fun _ => ⟨fun g => absurd g (nI_ge (by omega) (by omega)), fun _ => s_R_isGoing (fun _ => ⟨fun g => absurd g (by decide), fun _ => ?_⟩) (fun g => absurd hg g)⟩⟩
    refine s_R_begins hq hF (by omega) (fun ht1 m1 q1 f1 e1 => ⟨fun g => absurd g (by decide), fun _ => ⟨mz_inbN (by omega) (by decide), ?_⟩⟩) (fun ht1 m1 q1 f1 e1 => ⟨fun _ => ?_, fun g => absurd rfl g⟩)
    · obtain ⟨k, rfl⟩ : ∃ k', k = k' + 1 := ⟨k - 1, by omega⟩
      have hq1 : q_A m1 F (F - k) (z_beg s (nI x)) := by
        have : F - (k + 1) + 1 = F - k := by omega
        rw [this] at q1
        exact q1
      have hg1 : m1 47 1 = -1 := e1.trans hg
      have hE1 := hE.fr f1 (by decide)
      have f1' : z_fr [47, 50, 51, 52] m m1 := f1.wk (by decide)
      have hD1 : m1 50 6 = nI D := by rw [f1 50 (by decide)]; exact hD
      rw [nI_clamp (by omega), show m1 33 x = nI (ks x).length by rw [f1 33 (by decide)]; exact c3]
      rcases z_cases hp hx with ⟨k0, _⟩ | ⟨k0, ek, k1, k2⟩ | ⟨k0, l, ek, _⟩ | ⟨k0, l, l2, ek, _⟩ | ⟨k0, l, ek, _⟩ | ⟨k0, ek⟩ | ⟨k0, b, ek, k1, k2, k3, k4⟩ | ⟨k0, ek⟩
      · omega
      · -- one part
        obtain ⟨q1, q2, q3, q4, q5, q6, q7⟩ := z_k1 hp hc hx ek
        have k16 : 16 ≤ kd x := by omega
        rw [ek]
        refine ⟨fun g => absurd g (show ¬ nI 1 = 0 by decide), fun _ => t_E_waitForParts_0 _ ?_⟩
        rw [hD1]
        refine ⟨fun g => absurd g (nI_ge (b := 200) (by omega) (by decide)), fun _ => ⟨mz_inbN (by omega) (by decide), ?_⟩⟩
        rw [nI_clamp (by omega), nI_1, nI_1, nI_1]
        have f2 : z_fr [47, 50, 51, 52] m1 (mz_up (mz_up m1 51 D (nI x)) 50 6 (nI (D + 1))) := ((z_fr.rf _ _).up (by decide)).up (by decide)
        have hE2 := hE1.fr f2 (by decide)
        refine ih (x + 1) (by omega) q2 (by omega) Q _ (T + 1) (D + 1) k (z_beg s (nI x)) e hE2 (q_A_fr hq1 (((z_fr.rf [50, 51] _).up (by decide)).up (by decide)) (by decide) (by decide) (by decide)) (by omega) (by rw [mz_up_n _ _ _ (by decide), mz_up_n _ _ _ (by decide)]; exact hg1) (by rw [mz_up_k]; simp [upd]) (by omega) (by omega) (by omega) heN (fun h v k' s' hv => ?_)
        have hev : z_ev kd sz tv (d + 1) x (k + 1) s = (if h ≠ -1 then (h, 0, k', s') else (-1, z_ap (kd x) 0 v, k', s')) := by
          simp only [z_ev]
          rw [if_neg (by omega), if_neg (by omega), hv]
          simp only [k16, true_or, if_true]
        have hle := z_ev_le kd sz tv d (x + 1) k (z_beg s (nI x))
        rw [hv] at hle
        simp only at hle
        refine ⟨fun hh m3 q3' w3 f3 => ?_, fun hh m3 T3 q3' w3 w4 w5 f3 w6 => ?_⟩
        · rw [if_pos hh] at hev
          exact (hQ _ _ _ _ hev).1 hh m3 q3' w3 ((f1'.tr f2).tr f3)
        · rw [if_neg (by simp [hh])] at hev
          have h51 : m3 51 D = nI x := by
            rw [(w5 D (by omega)).1, mz_up_n _ _ _ (by decide), mz_up_k]; simp [upd]
          have hE3 := hE2.fr f3 (by decide)
          rw [q3]
          refine s_E_set1 hE3 hx (by omega) (by omega) w3 w4 (by omega) h51 (fun _ => ?_) (fun g _ => by omega)
          have e2 : z_ap (kd x) (m3 52 D) v = z_ap (kd x) 0 v := by
            unfold z_ap
            rw [if_neg (by omega), if_neg (by omega), if_neg (by omega), if_neg (by omega)]
          rw [e2]
          refine (hQ _ _ _ _ hev).2 rfl _ T3 (q_A_fr q3' ((z_fr.rf [50] _).up (by decide)) (by decide) (by decide) (by decide)) (by rw [mz_up_n _ _ _ (by decide)]; exact w3) (by rw [mz_up_k]; simp [upd]) (fun j hj => ?_) (((f1'.tr f2).tr f3).up (by decide)) (by omega)
          rw [mz_up_n _ _ _ (by decide), mz_up_n _ _ _ (by decide), (w5 j (by omega)).1, (w5 j (by omega)).2, mz_up_n _ _ _ (by decide), mz_up_k, mz_up_n _ _ _ (by decide), mz_up_n _ _ _ (by decide), f1 51 (by decide), f1 52 (by decide)]
          have : j ≠ D := by omega
          simp [upd, this]
      · omega
      · omega
      · omega
      · omega
      · -- two parts
        obtain ⟨q1, q2, q3, q4, q5, q6, q7, q8, q9, q10, q11, q12, q13⟩ := z_k2 hp hc hx ek
        have sb := (hp.2.2.2.2.1 b q5).1
        rw [ek]
        refine ⟨fun g => absurd g (show ¬ nI 2 = 0 by decide), fun _ => t_E_waitForParts_0 _ ?_⟩
        rw [hD1]
        refine ⟨fun g => absurd g (nI_ge (b := 200) (by omega) (by decide)), fun _ => ⟨mz_inbN (by omega) (by decide), ?_⟩⟩
        rw [nI_clamp (by omega), nI_1, nI_1, nI_1]
        have f2 : z_fr [47, 50, 51, 52] m1 (mz_up (mz_up m1 51 D (nI x)) 50 6 (nI (D + 1))) := ((z_fr.rf _ _).up (by decide)).up (by decide)
        have hE2 := hE1.fr f2 (by decide)
        refine ih (x + 1) (by omega) q2 (by omega) Q _ (T + 1) (D + 1) k (z_beg s (nI x)) e hE2 (q_A_fr hq1 (((z_fr.rf [50, 51] _).up (by decide)).up (by decide)) (by decide) (by decide) (by decide)) (by omega) (by rw [mz_up_n _ _ _ (by decide), mz_up_n _ _ _ (by decide)]; exact hg1) (by rw [mz_up_k]; simp [upd]) (by omega) (by omega) (by omega) heN (fun h v k' s' hv => ?_)
        have hle := z_ev_le kd sz tv d (x + 1) k (z_beg s (nI x))
        rw [hv] at hle
        simp only at hle
        refine ⟨fun hh m3 q3' w3 f3 => ?_, fun hh m3 T3 q3' w3 w4 w5 f3 w6 => ?_⟩
        · have hev : z_ev kd sz tv (d + 1) x (k + 1) s = (h, 0, k', s') := by
            simp only [z_ev]
            rw [if_neg (by omega), if_neg (by omega), hv]
            simp only [if_pos hh]
          exact (hQ _ _ _ _ hev).1 hh m3 q3' w3 ((f1'.tr f2).tr f3)
        · have h51 : m3 51 D = nI x := by
            rw [(w5 D (by omega)).1, mz_up_n _ _ _ (by decide), mz_up_k]; simp [upd]
          have hE3 := hE2.fr f3 (by decide)
          have hlow : ∀ j, j < D → m3 51 j = m 51 j ∧ m3 52 j = m 52 j := fun j hj => by
            rw [(w5 j (by omega)).1, (w5 j (by omega)).2, mz_up_n _ _ _ (by decide), mz_up_k, mz_up_n _ _ _ (by decide), mz_up_n _ _ _ (by decide), f1 51 (by decide), f1 52 (by decide)]
            have : j ≠ D := by omega
            simp [upd, this]
          rw [← q3]
          refine s_E_set2 hE3 hx (by omega) (by omega) w3 w4 (by omega) h51 (by omega) (fun gd => ?_) (fun gd => ?_)
          · have hev : z_ev kd sz tv (d + 1) x (k + 1) s = (-1, z_ap (kd x) 0 v, k', s') := by
              simp only [z_ev]
              rw [if_neg (by omega), if_neg (by omega), hv]
              have : ¬ (h ≠ -1) := fun g => g hh
              simp only [if_neg this]
              exact if_pos (Or.inr gd)
            exact (hQ _ _ _ _ hev).2 rfl _ T3 (q_A_fr q3' ((z_fr.rf [50] _).up (by decide)) (by decide) (by decide) (by decide)) (by rw [mz_up_n _ _ _ (by decide)]; exact w3) (by rw [mz_up_k]; simp [upd]) (fun j hj => by rw [mz_up_n _ _ _ (by decide), mz_up_n _ _ _ (by decide)]; exact hlow j hj) (((f1'.tr f2).tr f3).up (by decide)) (by omega)
          · have f4 : z_fr [47, 50, 51, 52] m3 (mz_up m3 52 D v) := (z_fr.rf _ _).up (by decide)
            have hE4 := hE3.fr f4 (by decide)
            refine ih b (by omega) q5 (by omega) Q _ (T3 + 1) (D + 1) k' s' e hE4 (q_A_fr q3' ((z_fr.rf [52] _).up (by decide)) (by decide) (by decide) (by decide)) (by omega) (by rw [mz_up_n _ _ _ (by decide)]; exact w3) (by rw [mz_up_n _ _ _ (by decide)]; exact w4) (by omega) (by omega) (by omega) heN (fun h2 v2 k2 s2 hv2 => ?_)
            have hle2 := z_ev_le kd sz tv d b k' s'
            rw [hv2] at hle2
            simp only at hle2
            have hev : z_ev kd sz tv (d + 1) x (k + 1) s = (if h2 ≠ -1 then (h2, 0, k2, s2) else if (kd x = 14 ∨ kd x = 15) ∧ v2 = 0 then (2, 0, k2, s2) else (-1, z_ap (kd x) v v2, k2, s2)) := by
              simp only [z_ev]
              rw [if_neg (by omega), if_neg (by omega), hv]
              have g1 : ¬ (h ≠ -1) := fun g => g hh
              have g2 : ¬ (16 ≤ kd x ∨ kd x = 8 ∧ v = 0 ∨ kd x = 7 ∧ v ≠ 0) := by
                rintro (g | g)
                · omega
                · exact gd g
              simp only [if_neg g1]
              rw [if_neg g2, ← q3, hv2]
            refine ⟨fun hh2 m5 q5' w7 f5 => ?_, fun hh2 m5 T5 q5' w7 w8 w9 f5 w10 => ?_⟩
            · rw [if_pos hh2] at hev
              exact (hQ _ _ _ _ hev).1 hh2 m5 q5' w7 ((((f1'.tr f2).tr f3).tr f4).tr f5)
            · have g1 : ¬ (h2 ≠ -1) := fun g => g hh2
              rw [if_neg g1] at hev
              have h51' : m5 51 D = nI x := by
                rw [(w9 D (by omega)).1, mz_up_n _ _ _ (by decide)]; exact h51
              have h52 : m5 52 D = v := by
                rw [(w9 D (by omega)).2, mz_up_k]; simp [upd]
              have hE5 := hE4.fr f5 (by decide)
              rw [q6]
              refine s_E_set1 hE5 hx (by omega) (by omega) w7 w8 (by omega) h51' (fun gn => ?_) (fun ga gb => ?_)
              · rw [if_neg gn] at hev
                rw [h52]
                refine (hQ _ _ _ _ hev).2 rfl _ T5 (q_A_fr q5' ((z_fr.rf [50] _).up (by decide)) (by decide) (by decide) (by decide)) (by rw [mz_up_n _ _ _ (by decide)]; exact w7) (by rw [mz_up_k]; simp [upd]) (fun j hj => ?_) (((((f1'.tr f2).tr f3).tr f4).tr f5).up (by decide)) (by omega)
                rw [mz_up_n _ _ _ (by decide), mz_up_n _ _ _ (by decide), (w9 j (by omega)).1, (w9 j (by omega)).2, mz_up_n _ _ _ (by decide), mz_up_k]
                have : j ≠ D := by omega
                simp only [upd, this, if_false]
                exact hlow j hj
              · rw [if_pos ⟨ga, gb⟩] at hev
                refine s_E_stop (D := D) (by rw [mz_up_n _ _ _ (by decide), mz_up_k]; simp [upd]) (by omega) (by rw [mz_up_k]; simp [upd]) ?_
                refine (hQ _ _ _ _ hev).1 (by decide) _ ?_ (by rw [mz_up_n _ _ _ (by decide), mz_up_k]; simp [upd]) ((((((f1'.tr f2).tr f3).tr f4).tr f5).up (by decide)).up (by decide) |>.up (by decide))
                obtain ⟨u0, u1, u2, u3, u4, u5, u6⟩ := q5'
                refine ⟨?_, ?_, ?_, ?_, ?_, ?_, ?_⟩
                all_goals first
                  | (rw [mz_up_n _ _ _ (by decide), mz_up_k, mz_up_n _ _ _ (by decide)]; simp only [upd]; first | exact u0 | exact u1 | exact u2 | exact u3 | exact u4)
                  | (rw [mz_up_n _ _ _ (by decide), mz_up_n _ _ _ (by decide), mz_up_n _ _ _ (by decide)]; first | exact u5 | exact u6)
      · -- a leaf
        have s1 : sz x = 1 := by
          have := hxs.2.2.1
          rw [ek] at this
          have : x + 1 = x + sz x := this
          omega
        rw [ek]
        refine ⟨fun _ => ?_, fun g => absurd rfl g⟩
        refine s_E_worthOf hE1 hx k0 (fun g18 => ?_) (fun g19 => ?_)
        · have hev : z_ev kd sz tv (d + 1) x (k + 1) s = (-1, s.2.2.2 (tv x).toNatClampNeg, k, z_beg s (nI x)) := by
            simp only [z_ev]; rw [if_pos g18]
          refine t_E_settle_0 _ _ ?_
          rw [nI_1, nI_1, show x + 1 = x + sz x by omega, show m1 49 (tv x).toNatClampNeg = s.2.2.2 (tv x).toNatClampNeg by rw [hq1.2.2.2.2.2.2]; rfl]
          exact (hQ _ _ _ _ hev).2 rfl m1 T hq1 hg1 hD1 (fun j _ => by rw [f1 51 (by decide), f1 52 (by decide)]; exact ⟨rfl, rfl⟩) f1' (by omega)
        · have hev : z_ev kd sz tv (d + 1) x (k + 1) s = (-1, tv x, k, z_beg s (nI x)) := by
            simp only [z_ev]; rw [if_neg (by omega), if_pos g19]
          refine t_E_settle_0 _ _ ?_
          rw [nI_1, nI_1, show x + 1 = x + sz x by omega]
          exact (hQ _ _ _ _ hev).2 rfl m1 T hq1 hg1 hD1 (fun j _ => by rw [f1 51 (by decide), f1 52 (by decide)]; exact ⟨rfl, rfl⟩) f1' (by omega)
    · have hk0 : k = 0 := by omega
      subst hk0
      have hev : z_ev kd sz tv (d + 1) x 0 s = (1, 0, 0, s) := by simp only [z_ev]
      exact (hQ _ _ _ _ hev).1 (by decide) m1 q1 e1 (f1.wk (by decide))
