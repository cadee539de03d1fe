/-! the class's parser: the growing tree -/
theorem nI_mul (a b : Nat) : nI a * nI b = nI (a * b) := (Int32.ofNat_mul a b).symm
/-- a forest in the order in which it grew -/
def z_fpm (m : mz_M) : z_F → Nat → Prop
  | .leaf, _ => True
  | .inner _ a _ l r, c => z_fpm m l c ∧ (m 12 (c + z_fsz l) = nI a.1 ∧ m 13 (c + z_fsz l) = nI a.2.1 ∧ m 14 (c + z_fsz l) = nI (z_fln l) ∧ m 15 (c + z_fsz l) = nI (1 + z_fht l) ∧ m 16 (c + z_fsz l) = nI (1 + z_fsz l)) ∧ z_fpm m r (c + z_fsz l + 1)
theorem z_fpm_ap {m : mz_M} : ∀ (F G : z_F) (c : Nat), z_fpm m (z_fap F G) c ↔ (z_fpm m F c ∧ z_fpm m G (c + z_fsz F)) := by
  intro F
  induction F with
  | leaf => intro G c; simp [z_fap, z_fpm, z_fsz]
  | inner s a v l r ihl ihr =>
    intro G c
    simp only [z_fap, z_fpm, ihr G, z_fsz]
    rw [show c + z_fsz l + 1 + z_fsz r = c + (1 + z_fsz l + z_fsz r) by omega]
    constructor
    · rintro ⟨h1, h2, h3, h4⟩; exact ⟨⟨h1, h2, h3⟩, h4⟩
    · rintro ⟨⟨h1, h2, h3⟩, h4⟩; exact ⟨h1, h2, h3, h4⟩
theorem z_fpm_fr {m m' : mz_M} : ∀ (F : z_F) (c : Nat), (∀ i, c ≤ i → i < c + z_fsz F → m' 12 i = m 12 i ∧ m' 13 i = m 13 i ∧ m' 14 i = m 14 i ∧ m' 15 i = m 15 i ∧ m' 16 i = m 16 i) → z_fpm m F c → z_fpm m' F c := by
  intro F
  induction F with
  | leaf => intro c _ _; trivial
  | inner s a v l r ihl ihr =>
    intro c h hm
    simp only [z_fsz] at h
    obtain ⟨h1, ⟨h2, h3, h4, h5, h6⟩, h7⟩ := hm
    obtain ⟨k1, k2, k3, k4, k5⟩ := h (c + z_fsz l) (by omega) (by omega)
    exact ⟨ihl c (fun i i1 i2 => h i i1 (by omega)) h1, ⟨by rw [k1, h2], by rw [k2, h3], by rw [k3, h4], by rw [k4, h5], by rw [k5, h6]⟩, ihr _ (fun i i1 i2 => h i (by omega) (by omega)) h7⟩
theorem z_fsnoc : ∀ (K : z_F) (n : Nat), z_fln K = n + 1 → ∃ K' s a v l, K = z_fap K' (.inner s a v l .leaf) ∧ z_fln K' = n := by
  intro K
  induction K with
  | leaf => intro n h; cases h
  | inner s a v l r ihl ihr =>
    intro n h
    simp only [z_fln] at h
    cases n with
    | zero =>
      cases r with
      | leaf => exact ⟨.leaf, s, a, v, l, rfl, rfl⟩
      | inner s2 a2 v2 l2 r2 => simp only [z_fln] at h; omega
    | succ n =>
      obtain ⟨K', s', a', v', l', e1, e2⟩ := ihr n (by omega)
      exact ⟨.inner s a v l K', s', a', v', l', by rw [e1]; rfl, by simp only [z_fln]; omega⟩
theorem s_T_add1 {X : mz_X} {m : mz_M} {Q : mz_M → Prop} {k t p : Int32} {H : z_F} {N P : Nat} (hN : m 11 5 = nI N) (hN2 : N < 4001) (hP : p = nI P) (hP2 : P ≤ 4001) : ∀ (n : Nat) (K : z_F) (hh : Nat), z_fln K = n → n ≤ P → z_fpm m (z_fap H K) 0 → z_fsz (z_fap H K) ≤ N → hh ≤ 4001 → Q (mz_up (mz_up (mz_up (mz_up (mz_up (mz_up m 12 N k) 13 N t) 14 N p) 15 N (nI (max hh (z_fht K) + 1))) 16 N (nI (N + 1 - z_fsz H))) 11 5 (nI (N + 1))) → mz_gv X mz_sh 82 25 [some (.ref 11), some (.int k), some (.int t), some (.int p), some (.int (nI hh)), some (.int (nI (z_fsz (z_fap H K)) - 1)), some (.int (nI (P - n)))] m Q := by
  intro n
  induction n with
  | zero =>
    intro K hh hK hnP hm hsz hhh hQ
    have hK0 : K = .leaf := by
      cases K with
      | leaf => rfl
      | inner s a v l r => simp only [z_fln] at hK; omega
    subst hK0
    rw [z_fap_nil] at hsz ⊢
    have hin : mz_inb (nI N) 4001 = true := mz_inbN hN2 (by decide)
    subst hP
    refine t_T_add_1 _ _ _ _ _ _ ⟨fun _ => ?_, fun g => absurd (nI_le (by omega) (by omega)) g⟩
    rw [hN, nI_clamp (by omega), nI_1, nI_1]
    refine ⟨hin, hin, hin, hin, hin, ?_⟩
    have e1 : nI N - (nI (z_fsz H) - 1) = nI (N + 1 - z_fsz H) := by
      rw [show N + 1 - z_fsz H = (N - z_fsz H) + 1 by omega, ← nI_1, ← nI_sub hsz]
      rw [Int32.sub_eq_add_neg, Int32.neg_sub, Int32.sub_eq_add_neg, Int32.sub_eq_add_neg, Int32.add_comm 1, Int32.add_assoc]
    rw [e1]
    simp only [z_fht, Nat.max_zero] at hQ
    exact hQ
  | succ n ih =>
    intro K hh hK hnP hm hsz hhh hQ
    obtain ⟨K', s, a, v, l, rfl, e2⟩ := z_fsnoc K n hK
    rw [← z_fap_as] at hm
    have hm' := (z_fpm_ap _ _ _).mp hm
    obtain ⟨m1, m2⟩ := hm'
    rw [Nat.zero_add] at m2
    obtain ⟨_, ⟨_, _, _, m15, m16⟩, _⟩ := m2
    have hsz2 : z_fsz (z_fap H (z_fap K' (.inner s a v l .leaf))) = z_fsz (z_fap H K') + z_fsz l + 1 := by
      rw [← z_fap_as, z_fsz_ap]
      simp only [z_fsz]
      omega
    rw [hsz2] at hsz ⊢
    subst hP
    have hht := z_fht_sz l
    have hin : mz_inb (nI (z_fsz (z_fap H K') + z_fsz l)) 4001 = true := mz_inbN (by omega) (by decide)
    rw [nI_m1 (by omega), Nat.add_sub_cancel]
    refine t_T_add_1 _ _ _ _ _ _ ⟨fun g => absurd g (nI_ge (by omega) (by omega)), fun _ => ⟨fun g => absurd g (nI_pos (by omega)), fun _ => ⟨hin, hin, ?_⟩⟩⟩
    rw [nI_clamp (by omega), m15, m16]
    have e3 : (if nI hh < nI (1 + z_fht l) then nI (1 + z_fht l) else nI hh) = nI (max hh (1 + z_fht l)) := by
      by_cases g : hh < 1 + z_fht l
      · rw [if_pos (nI_lt g (by omega)), Nat.max_eq_right (by omega)]
      · rw [if_neg (nI_nlt (by omega) (by omega)), Nat.max_eq_left (by omega)]
    have e4 : nI (z_fsz (z_fap H K') + z_fsz l) - nI (1 + z_fsz l) = nI (z_fsz (z_fap H K')) - 1 := by
      rw [Nat.add_comm 1, ← nI_add, ← nI_1]
      rw [Int32.sub_eq_add_neg, Int32.sub_eq_add_neg, Int32.neg_add, Int32.sub_eq_add_neg, Int32.add_assoc, ← Int32.add_assoc (nI (z_fsz l)), Int32.add_right_neg, Int32.zero_add]
    rw [e3, e4, nI_1, show P - (n + 1) + 1 = P - n by omega]
    refine ih K' (max hh (1 + z_fht l)) e2 (by omega) m1 (by omega) (by omega) ?_
    have e5 : max (max hh (1 + z_fht l)) (z_fht K') = max hh (z_fht (z_fap K' (.inner s a v l .leaf))) := by
      rw [z_fht_ap]
      simp only [z_fht]
      omega
    rw [e5]
    exact hQ
theorem s_T_add {X : mz_X} {m : mz_M} {Q : mz_M → Prop} {k t id : Nat} {H K : z_F} (hm : z_fpm m (z_fap H K) 0) (hN : m 11 5 = nI (z_fsz (z_fap H K))) (hN2 : z_fsz (z_fap H K) < 4001) (hQ : ∀ m', z_fr [11, 12, 13, 14, 15, 16] m m' → z_fpm m' (z_fap H (.inner 0 (k, t, id) () K .leaf)) 0 → m' 11 5 = nI (z_fsz (z_fap H (.inner 0 (k, t, id) () K .leaf))) → Q m') : mz_gv X mz_sh 82 0 [some (.ref 11), some (.int (nI k)), some (.int (nI t)), some (.int (nI (z_fln K))), none, none, none] m Q := by
  have hs := z_fsz_ap H K
  have hln := z_fln_sz K
  refine t_T_add_0 _ _ _ ⟨fun _ => ?_, fun g => absurd (by rw [hN]; exact nI_lt hN2 (by decide)) g⟩
  rw [hN]
  have e0 : (0 : Int32) = nI (z_fln K - z_fln K) := by rw [Nat.sub_self]; rfl
  have := s_T_add1 (X := X) (m := m) (Q := Q) (k := nI k) (t := nI t) (p := nI (z_fln K)) (H := H) hN hN2 rfl (by omega) (z_fln K) K 0 rfl (Nat.le_refl _) hm (Nat.le_refl _) (by omega) ?_
  · rw [← e0] at this
    exact this
  · have hnew : z_fsz (z_fap H (.inner 0 (k, t, id) () K .leaf)) = z_fsz (z_fap H K) + 1 := by
      rw [z_fsz_ap, hs]
      simp only [z_fsz]
      omega
    refine hQ _ ((((((z_fr.rf _ _).up (by decide)).up (by decide)).up (by decide)).up (by decide)).up (by decide) |>.up (by decide)) ?_ ?_
    · rw [z_fpm_ap]
      have hm' := (z_fpm_ap _ _ _).mp hm
      have hk : ∀ i, i < z_fsz (z_fap H K) → ∀ (m' : mz_M), m' = mz_up (mz_up (mz_up (mz_up (mz_up (mz_up m 12 (z_fsz (z_fap H K)) (nI k)) 13 (z_fsz (z_fap H K)) (nI t)) 14 (z_fsz (z_fap H K)) (nI (z_fln K))) 15 (z_fsz (z_fap H K)) (nI (max 0 (z_fht K) + 1))) 16 (z_fsz (z_fap H K)) (nI (z_fsz (z_fap H K) + 1 - z_fsz H))) 11 5 (nI (z_fsz (z_fap H K) + 1)) → m' 12 i = m 12 i ∧ m' 13 i = m 13 i ∧ m' 14 i = m 14 i ∧ m' 15 i = m 15 i ∧ m' 16 i = m 16 i := by
        intro i hi m' hm'
        have hne : i ≠ z_fsz (z_fap H K) := by omega
        subst hm'
        simp [mz_up, upd, hne]
      refine ⟨z_fpm_fr H 0 (fun i i1 i2 => hk i (by omega) _ rfl) hm'.1, ?_⟩
      rw [Nat.zero_add] at hm' ⊢
      refine ⟨z_fpm_fr K _ (fun i i1 i2 => hk i (by omega) _ rfl) hm'.2, ?_, trivial⟩
      rw [← hs]
      refine ⟨by simp [mz_up, upd], by simp [mz_up, upd], by simp [mz_up, upd], ?_, ?_⟩
      · have e : max 0 (z_fht K) + 1 = 1 + z_fht K := by omega
        rw [e]
        simp [mz_up, upd]
      · have e : z_fsz (z_fap H K) + 1 - z_fsz H = 1 + z_fsz K := by omega
        rw [e]
        simp [mz_up, upd]
    · rw [hnew, mz_up_k]
      simp [upd]
