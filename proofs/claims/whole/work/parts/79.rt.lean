/-! the tree's run: the reference goes from one way to the next -/
def z_pc (kd : Nat → Nat) (m : mz_M) (p c : Nat) : Prop := (kd p = 0 → ∃ j, j ≤ c ∧ m 92 p = nI j ∧ m 93 p = nI c) ∧ (kd p = 3 ∨ kd p = 4 → m 92 p = 1)
def z_ph (kd : Nat → Nat) (m : mz_M) (p c : Nat) : Prop := (kd p = 0 → ∃ j, j ≤ c ∧ m 92 p = nI j) ∧ (kd p = 3 ∨ kd p = 4 → m 92 p = 1)
def z_pv (kd sz up : Nat → Nat) (m : mz_M) (y : Nat) : Prop := ∀ c, 0 < c → c ≤ y → y < c + sz c → z_pc kd m (up c) c
def z_pe (kd sz up : Nat → Nat) (m : mz_M) (y : Nat) : Prop := (∀ c, 0 < c → c < y → y < c + sz c → z_pc kd m (up c) c) ∧ z_ph kd m (up y) y
def z_rnd (X : mz_X) (Q : Int32 → mz_M → Prop) (N : Nat) (kd tk sz up : Nat → Nat) (tv : Nat → Int32) (ks : Nat → List Nat) (u : Nat) (m : mz_M) : Prop := mz_gi X mz_sh 173 0 [some (.ref 55), some (.int (nI u))] (mz_up m 92 u 0) (fun r m1 => z_eM m1 N kd tk sz up tv ks ∧ (r = 0 → Q 1 m1) ∧ (¬ r = 0 → z_ent X Q kd u (u + 1) m1))
def z_GW (X : mz_X) (Q : Int32 → mz_M → Prop) (N : Nat) (kd tk sz up : Nat → Nat) (tv : Nat → Int32) (ks : Nat → List Nat) (w : Int32) (m : mz_M) : Prop := (w = nI N → Q 0 m) ∧ (∀ y, y < N → 0 < y → 1 ≤ kd y → kd y ≤ 6 → w = nI y → z_pe kd sz up m y → z_ent X Q kd (up y) y m) ∧ (∀ u, u < N → kd u = 4 → w = -1 - nI u → z_pv kd sz up m u → z_rnd X Q N kd tk sz up tv ks u m)
theorem z_anc {N : Nat} {kd sz ht up : Nat → Nat} {ks : Nat → List Nat} (hp : z_pre N kd sz ht up ks) {p c : Nat} (h0 : 0 < p) (hpN : p < N) (h1 : c < p) (h2 : p < c + sz c) : c ≤ up p ∧ up p < c + sz c := by
  obtain ⟨u1, u2⟩ := hp.2.2.2.2.2.1 p h0 hpN
  refine ⟨?_, by omega⟩
  rcases Nat.lt_or_ge (up p) c with g | g
  · exfalso
    obtain ⟨v1, v2, v3, v4⟩ := z_pre_kids hp (up p) (by omega) p u2
    have hps := (hp.2.2.2.2.1 p hpN).1
    obtain ⟨d, d1, d2, d3, d4, d5⟩ := z_below hp (show up p < N by omega) g (by omega)
    have hl := z_lam hp (c - d) d c (Nat.le_refl _) (by omega) d3 d4
    rcases Nat.lt_trichotomy d p with g' | g' | g'
    · have := z_seg_sib _ _ _ d p (hp.2.2.2.2.1 (up p) (by omega)).2.2.1 d1 u2 g'
      omega
    · omega
    · omega
  · exact g
theorem z_pv.pe {kd sz up : Nat → Nat} {m : mz_M} {N : Nat} {ht : Nat → Nat} {ks : Nat → List Nat} (hp : z_pre N kd sz ht up ks) {y : Nat} (h0 : 0 < y) (hy : y < N) (h : z_pv kd sz up m (up y)) (h2 : z_ph kd m (up y) y) : z_pe kd sz up m y := by
  refine ⟨fun c c1 c2 c3 => ?_, h2⟩
  obtain ⟨a1, a2⟩ := z_anc hp h0 hy c2 c3
  exact h c c1 a1 a2
theorem z_pv.up' {kd sz up : Nat → Nat} {m : mz_M} {N : Nat} {ht : Nat → Nat} {ks : Nat → List Nat} (hp : z_pre N kd sz ht up ks) {u y : Nat} (hu : u < N) (h1 : u ≤ y) (h2 : y < u + sz u) (h : z_pv kd sz up m y) : z_pv kd sz up m u := by
  intro c c1 c2 c3
  have := z_lam hp (u - c) c u (Nat.le_refl _) (by omega) c2 c3
  exact h c c1 (by omega) (by omega)
/-- the path's marks stand where nothing on it is touched -/
theorem z_pv.keep {kd sz up : Nat → Nat} {m m' : mz_M} {N : Nat} {ht : Nat → Nat} {ks : Nat → List Nat} (hp : z_pre N kd sz ht up ks) {y : Nat} (hy : y < N) (h : z_pv kd sz up m y) (hk : ∀ q, q < y → m' 92 q = m 92 q ∧ m' 93 q = m 93 q) : z_pv kd sz up m' y := by
  intro c c1 c2 c3
  have hu := (hp.2.2.2.2.2.1 c c1 (by omega)).1
  have := h c c1 c2 c3
  unfold z_pc at this ⊢
  rw [(hk (up c) (by omega)).1, (hk (up c) (by omega)).2]
  exact this
/-- a statement is entered: its parent's mark is set -/
theorem z_pe.pv {kd sz up : Nat → Nat} {m m' : mz_M} {N : Nat} {ht : Nat → Nat} {ks : Nat → List Nat} (hp : z_pre N kd sz ht up ks) {y : Nat} (h0 : 0 < y) (hy : y < N) (h : z_pe kd sz up m y) (h92 : ∀ q, q < y → m' 92 q = m 92 q) (h93 : m' 93 (up y) = nI y) (h93' : ∀ q, q < y → q ≠ up y → m' 93 q = m 93 q) : z_pv kd sz up m' y := by
  intro c c1 c2 c3
  have hu := (hp.2.2.2.2.2.1 c c1 (by omega)).1
  by_cases e : c = y
  · subst e
    have := h.2
    unfold z_pc
    unfold z_ph at this
    rw [h92 (up c) (by omega), h93]
    exact ⟨fun g => let ⟨j, j1, j2⟩ := this.1 g; ⟨j, j1, j2, rfl⟩, this.2⟩
  · have a := z_anc hp h0 hy (by omega) c3
    have := h.1 c c1 (by omega) c3
    unfold z_pc at this ⊢
    rw [h92 (up c) (by omega), h93' (up c) (by omega) (by omega)]
    exact this
theorem s_M_ways {X : mz_X} {Q : Int32 → mz_M → Prop} {N : Nat} {kd tk sz ht up : Nat → Nat} {tv nx en : Nat → Int32} {ks : Nat → List Nat} (hp : z_pre N kd sz ht up ks) (hpa : z_pa N kd sz nx en ks) : ∀ (n p : Nat), N - p = n → p ≤ N → (p < N → 0 < p → kd p ≤ 6 → ∀ m, z_eM m N kd tk sz up tv ks → z_pe kd sz up m p → (∀ m', z_fm [92, 93] [] m m' → z_GW X Q N kd tk sz up tv ks (z_in2 N en (nI p)) m') → z_ent X Q kd (up p) p m) ∧ (∀ i, i < N → kd i ≤ 6 → i + sz i = p → ∀ m, z_eM m N kd tk sz up tv ks → z_pv kd sz up m i → (∀ m', z_fm [92, 93] [] m m' → z_GW X Q N kd tk sz up tv ks (z_in2 N en (nx i)) m') → z_lv X Q up i m) := by
  have hN := hp.2.1
  obtain ⟨pa1, pa2, pa3⟩ := hpa
  intro n
  induction n using Nat.strongRecOn with
  | ind n ih =>
    intro p hn hpN
    have outer : ∀ p', p < p' → p' ≤ N → (p' < N → 0 < p' → kd p' ≤ 6 → ∀ m, z_eM m N kd tk sz up tv ks → z_pe kd sz up m p' → (∀ m', z_fm [92, 93] [] m m' → z_GW X Q N kd tk sz up tv ks (z_in2 N en (nI p')) m') → z_ent X Q kd (up p') p' m) ∧ (∀ i, i < N → kd i ≤ 6 → i + sz i = p' → ∀ m, z_eM m N kd tk sz up tv ks → z_pv kd sz up m i → (∀ m', z_fm [92, 93] [] m m' → z_GW X Q N kd tk sz up tv ks (z_in2 N en (nx i)) m') → z_lv X Q up i m) := fun p' h1 h2 => ih (N - p') (by omega) p' rfl h2
    have first : p < N → 0 < p → kd p ≤ 6 → ∀ m, z_eM m N kd tk sz up tv ks → z_pe kd sz up m p → (∀ m', z_fm [92, 93] [] m m' → z_GW X Q N kd tk sz up tv ks (z_in2 N en (nI p)) m') → z_ent X Q kd (up p) p m := by
      intro h1 h0p h2 m hE hpe hG
      rw [z_in2_i hN h1, pa3 p h1] at hG
      by_cases h0 : kd p = 0
      · rw [if_pos h0] at hG
        refine ⟨fun _ => ?_, fun g => absurd h0 g⟩
        have hu := (hp.2.2.2.2.2.1 p h0p h1)
        have f1 : z_fm [92, 93] [] m (mz_up (mz_up m 93 (up p) (nI p)) 92 p 0) := ((z_fm.rf _ _ _).up (by decide) (by decide)).up (by decide) (by decide)
        have hpv : z_pv kd sz up (mz_up (mz_up m 93 (up p) (nI p)) 92 p 0) p := by
          refine hpe.pv hp h0p h1 (fun q hq => ?_) ?_ (fun q hq hq2 => ?_)
          · have : q ≠ p := by omega
            rw [mz_up_k, mz_up_n _ _ _ (by decide)]
            simp [upd, this]
          · rw [mz_up_n _ _ _ (by decide), mz_up_k]
            simp [upd]
          · rw [mz_up_n _ _ _ (by decide), mz_up_k]
            simp [upd, hq2]
        have z92 : mz_up (mz_up m 93 (up p) (nI p)) 92 p 0 92 p = 0 := by rw [mz_up_k]; simp [upd]
        generalize mz_up (mz_up m 93 (up p) (nI p)) 92 p 0 = m1 at f1 hpv z92
        have hE1 := hE.fm f1 (by decide)
        have hE1' := hE1
        obtain ⟨⟨n1, n2, n3⟩, b2, b3⟩ := hE1'
        obtain ⟨c1, c2, c3, c4, c5, c6, c7⟩ := n2 p h1
        obtain ⟨s1, s2, s3, s4, s5, s6⟩ := hp.2.2.2.2.1 p h1
        refine s_M_gt hE1 h1 (by omega) (by omega) (s_M_advk (by omega) c1 c6 (by omega) (by omega) (fun _ => ⟨fun _ => ⟨hE1, ?_⟩, fun g => absurd z92 g⟩) (fun g => by omega) (fun g => by omega) (fun g => by omega) (fun g => by omega) (fun g => by omega) (fun g => by omega) (fun g => by omega) (fun g => by omega) (fun g => by omega) (fun g1 g2 => by omega))
        by_cases hk : ks p = []
        · rw [if_pos hk] at hG
          rw [(n3 p h1).1, if_pos hk]
          exact Or.inr (Or.inr (Or.inl ⟨rfl, (outer (p + sz p) (by omega) s2).2 p h1 h2 rfl m1 hE1 hpv (fun m' f2 => hG m' (f1.tr f2))⟩))
        · rw [if_neg hk] at hG
          obtain ⟨x, t, hx⟩ := List.exists_cons_of_ne_nil hk
          have hxm : x ∈ ks p := by rw [hx]; exact List.mem_cons_self
          rw [hx] at s3
          have e : x = p + 1 := s3.1
          obtain ⟨v1, v2, v3, v4⟩ := z_pre_kids hp p h1 x hxm
          subst e
          rw [(n3 p h1).1, if_neg hk]
          have k6 : kd (p + 1) ≤ 6 := by
            rcases z_cases hp h1 with ⟨_, k⟩ | ⟨k, _⟩ | ⟨k, _⟩ | ⟨k, _⟩ | ⟨k, _⟩ | ⟨k, _⟩ | ⟨k, _⟩ | ⟨k, _⟩
            all_goals first | (exfalso; omega) | exact k _ hxm
          have q := (outer (p + 1) (by omega) (by omega)).1 v3 (by omega) k6 m1 hE1
          rw [v1] at q
          refine Or.inr (Or.inr (Or.inr ⟨p + 1, v3, rfl, q ?_ (fun m' f2 => hG m' (f1.tr f2))⟩))
          refine z_pv.pe hp (by omega) v3 (by rw [v1]; exact hpv) (by rw [v1]; exact ⟨fun _ => ⟨0, by omega, by rw [z92]; rfl⟩, fun g => by omega⟩)
      · rw [if_neg h0] at hG
        exact (hG m (z_fm.rf _ _ _)).2.1 p h1 h0p (by omega) h2 rfl hpe
    refine ⟨first, ?_⟩
    intro i
    induction i using Nat.strongRecOn with
    | ind i ihi =>
      intro hi hk hip m hE hpv hG
      refine ⟨fun h0 => ?_, fun h0 => ?_⟩
      · subst h0
        rw [pa1, z_in2_N hN] at hG
        exact (hG m (z_fm.rf _ _ _)).1 rfl
      · obtain ⟨u1, u2⟩ := hp.2.2.2.2.2.1 i (by omega) hi
        have u3 := z_par hp hi hk (by omega)
        obtain ⟨v1, v2, v3, v4⟩ := z_pre_kids hp (up i) (by omega) i u2
        have us := (hp.2.2.2.2.1 (up i) (by omega))
        have is := (hp.2.2.2.2.1 i hi).1
        have hpc := hpv i (by omega) (Nat.le_refl _) (by omega)
        rw [pa2 (up i) (by omega) u3 i u2] at hG
        have f1 : z_fm [92, 93] [] m (mz_up m 92 (up i) (m 92 (up i) + 1)) := (z_fm.rf _ _ _).up (by decide) (by decide)
        have hpvu : z_pv kd sz up (mz_up m 92 (up i) (m 92 (up i) + 1)) (up i) := by
          refine (z_pv.up' hp (by omega) (by omega) (by omega) hpv).keep hp (by omega) (fun q hq => ?_)
          have : q ≠ up i := by omega
          rw [mz_up_k, mz_up_n _ _ _ (by decide)]
          simp [upd, this]
        have e92 : mz_up m 92 (up i) (m 92 (up i) + 1) 92 (up i) = m 92 (up i) + 1 := by rw [mz_up_k]; simp [upd]
        have e93 : mz_up m 92 (up i) (m 92 (up i) + 1) 93 = m 93 := by rw [mz_up_n _ _ _ (by decide)]
        generalize mz_up m 92 (up i) (m 92 (up i) + 1) = m1 at f1 hpvu e92 e93
        have hE1 := hE.fm f1 (by decide)
        have hE1' := hE1
        obtain ⟨⟨n1, n2, n3⟩, b2, b3⟩ := hE1'
        obtain ⟨c1, c2, c3, c4, c5, c6, c7⟩ := n2 (up i) (by omega)
        have huin : mz_inb (nI (up i)) 12100 = true := mz_inbN (by omega) (by decide)
        have leave_up : (kd (up i) = 0 → i + sz i = up i + sz (up i)) → kd (up i) ≠ 4 → z_lv X Q up (up i) m1 := by
          intro g0 g4
          rw [if_neg (fun g => g.2 (g0 g.1)), if_neg g4] at hG
          by_cases c3 : up i + sz (up i) = p
          · exact ihi (up i) u1 (by omega) (by omega) c3 m1 hE1 hpvu (fun m' f2 => hG m' (f1.tr f2))
          · exact (outer (up i + sz (up i)) (by omega) us.2.1).2 (up i) (by omega) (by omega) rfl m1 hE1 hpvu (fun m' f2 => hG m' (f1.tr f2))
        refine s_M_gt hE1 (by omega) (by omega) (by omega) (s_M_advk (by omega) c1 c6 (by omega) (by omega) (fun k0 => ?_) (fun g => by omega) (fun g => by omega) (fun k3 => ?_) (fun k4 => ?_) (fun g => by omega) (fun g => by omega) (fun g => by omega) (fun g => by omega) (fun g => by omega) (fun g1 g2 => by omega))
        · obtain ⟨j, j1, j2, j3⟩ := hpc.1 k0
          have e92' : m1 92 (up i) = nI (j + 1) := by rw [e92, j2, nI_1]
          have e93' : m1 93 (up i) = nI i := by rw [e93]; exact j3
          refine ⟨fun g => ?_, fun _ => ?_⟩
          · rw [e92'] at g
            have := nI_eqc (c := 0) rfl (by omega) (by omega) g
            omega
          · rw [e93', nI_clamp (by omega), (n3 i hi).2.2.2.1, if_neg h0]
            refine ⟨mz_inbN (by omega) (by decide), hE1, ?_⟩
            by_cases c1' : i + sz i = up i + sz (up i)
            · rw [if_pos c1']
              exact Or.inr (Or.inr (Or.inl ⟨rfl, leave_up (fun _ => c1') (by omega)⟩))
            · rw [if_neg c1']
              rw [if_pos ⟨k0, c1'⟩] at hG
              have hm := z_segP_nx _ _ _ i us.2.2.1 u2 c1'
              obtain ⟨w1, w2, w3, w4⟩ := z_pre_kids hp (up i) (by omega) _ hm
              rw [hip] at hG hm w1 w3 ⊢
              have k6 : kd p ≤ 6 := by
                rcases z_cases hp (show up i < N by omega) with ⟨_, k⟩ | ⟨k, _⟩ | ⟨k, _⟩ | ⟨k, _⟩ | ⟨k, _⟩ | ⟨k, _⟩ | ⟨k, _⟩ | ⟨k, _⟩
                all_goals first | (exfalso; omega) | exact k _ hm
              have q := first w3 (by omega) k6 m1 hE1
              rw [w1] at q
              refine Or.inr (Or.inr (Or.inr ⟨p, w3, rfl, q ?_ (fun m' f2 => hG m' (f1.tr f2))⟩))
              refine z_pv.pe hp (by omega) w3 (by rw [w1]; exact hpvu) (by rw [w1]; exact ⟨fun _ => ⟨j + 1, by omega, e92'⟩, fun g => by omega⟩)
        · have e2 : m1 92 (up i) = 2 := by rw [e92, hpc.2 (Or.inl k3)]; rfl
          refine t_M_choose_0 _ ?_
          rw [nI_clamp (by omega), e2]
          exact ⟨huin, fun g => absurd g (by decide), fun _ => ⟨huin, fun _ => ⟨hE1, Or.inr (Or.inr (Or.inl ⟨rfl, leave_up (by omega) (by omega)⟩))⟩, fun g => absurd rfl g⟩⟩
        · have e2 : m1 92 (up i) = 2 := by rw [e92, hpc.2 (Or.inr k4)]; rfl
          rw [if_neg (by omega), if_pos k4, z_in2_neg (by omega)] at hG
          have hr := (hG m1 f1).2.2 (up i) (by omega) k4 rfl hpvu
          refine t_M_round_0 _ ?_
          rw [nI_clamp (by omega), e2]
          refine ⟨huin, fun g => absurd g (by decide), fun _ => ⟨huin, hr.mono (fun r m2 hm => ⟨fun g => ⟨hm.1, Or.inl ⟨rfl, hm.2.1 g⟩⟩, fun g => ⟨huin, hm.1, Or.inr (Or.inr (Or.inr ⟨up i + 1, ?_, ?_, hm.2.2 g⟩))⟩⟩)⟩⟩
          · omega
          · rw [(hm.1.1.2.2 (up i) (by omega)).1, if_neg (fun e => by rw [e] at u2; cases u2)]
theorem s_M_enter {X : mz_X} {Q : Int32 → mz_M → Prop} {N p : Nat} {kd tk sz ht up : Nat → Nat} {tv nx en : Nat → Int32} {ks : Nat → List Nat} (hp : z_pre N kd sz ht up ks) (hpa : z_pa N kd sz nx en ks) (h1 : p < N) (h0 : 0 < p) (h6 : kd p ≤ 6) {m : mz_M} (hE : z_eM m N kd tk sz up tv ks) (hpe : z_pe kd sz up m p) (hG : ∀ m', z_fm [92, 93] [] m m' → z_GW X Q N kd tk sz up tv ks (z_in2 N en (nI p)) m') : z_ent X Q kd (up p) p m :=
  (s_M_ways hp hpa _ p rfl (by omega)).1 h1 h0 h6 m hE hpe hG
theorem s_M_lv {X : mz_X} {Q : Int32 → mz_M → Prop} {N i : Nat} {kd tk sz ht up : Nat → Nat} {tv nx en : Nat → Int32} {ks : Nat → List Nat} (hp : z_pre N kd sz ht up ks) (hpa : z_pa N kd sz nx en ks) (h1 : i < N) (h6 : kd i ≤ 6) {m : mz_M} (hE : z_eM m N kd tk sz up tv ks) (hpv : z_pv kd sz up m i) (hG : ∀ m', z_fm [92, 93] [] m m' → z_GW X Q N kd tk sz up tv ks (z_in2 N en (nx i)) m') : z_lv X Q up i m :=
  (s_M_ways hp hpa _ (i + sz i) rfl (hp.2.2.2.2.1 i h1).2.1).2 i h1 h6 rfl m hE hpv hG
