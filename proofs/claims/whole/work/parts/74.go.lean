/-! the tree's run: every way is one; the class's turns -/
def z_pa (N : Nat) (kd sz : Nat → Nat) (nx en : Nat → Int32) (ks : Nat → List Nat) : Prop := nx 0 = nI N ∧ (∀ i, i < N → kd i = 0 ∨ kd i = 3 ∨ kd i = 4 → ∀ x, x ∈ ks i → nx x = (if kd i = 0 ∧ x + sz x ≠ i + sz i then nI (x + sz x) else if kd i = 4 then -1 - nI i else nx i)) ∧ (∀ i, i < N → en i = (if kd i = 0 then z_in2 N en (if ks i = [] then nx i else nI (i + 1)) else nI i))
theorem z_segP_nx {sz : Nat → Nat} : ∀ (l : List Nat) (lo hi x : Nat), z_segP sz lo hi l → x ∈ l → x + sz x ≠ hi → x + sz x ∈ l := by
  intro l
  induction l with
  | nil => intro lo hi x _ hx; cases hx
  | cons y t ih =>
    intro lo hi x h hx hne
    obtain ⟨a1, a2, a3⟩ := h
    rcases List.mem_cons.mp hx with e | e
    · subst e
      cases t with
      | nil => exact absurd a3 hne
      | cons z t =>
        obtain ⟨b1, b2, b3⟩ := a3
        rw [← b1]
        exact List.mem_cons_of_mem _ List.mem_cons_self
    · exact List.mem_cons_of_mem _ (ih _ _ x a3 e hne)
theorem z_val {N : Nat} {kd sz ht up : Nat → Nat} {nx en : Nat → Int32} {ks : Nat → List Nat} (hp : z_pre N kd sz ht up ks) (hpa : z_pa N kd sz nx en ks) : ∀ (n p : Nat), N - p = n → p ≤ N → (p < N → kd p ≤ 6 → z_wv N kd (en p)) ∧ (∀ i, i < N → kd i ≤ 6 → i + sz i = p → z_wv N kd (z_in2 N en (nx i))) := by
  have hN := hp.2.1
  obtain ⟨pa1, pa2, pa3⟩ := hpa
  intro n
  induction n using Nat.strongRecOn with
  | ind n ih =>
    intro p hn hpN
    have outer : ∀ p', p < p' → p' ≤ N → (p' < N → kd p' ≤ 6 → z_wv N kd (en p')) ∧ (∀ i, i < N → kd i ≤ 6 → i + sz i = p' → z_wv N kd (z_in2 N en (nx i))) := fun p' h1 h2 => ih (N - p') (by omega) p' rfl h2
    have first : p < N → kd p ≤ 6 → z_wv N kd (en p) := by
      intro h1 h2
      rw [pa3 p h1]
      by_cases h0 : kd p = 0
      · rw [if_pos h0]
        obtain ⟨s1, s2, s3, s4, s5, s6⟩ := hp.2.2.2.2.1 p h1
        by_cases hk : ks p = []
        · rw [if_pos hk]
          exact (outer (p + sz p) (by omega) s2).2 p h1 h2 rfl
        · rw [if_neg hk]
          obtain ⟨x, t, hx⟩ := List.exists_cons_of_ne_nil hk
          have hxm : x ∈ ks p := by rw [hx]; exact List.mem_cons_self
          rw [hx] at s3
          have e : x = p + 1 := s3.1
          obtain ⟨u1, u2, u3, u4⟩ := z_pre_kids hp p h1 x hxm
          subst e
          rw [z_in2_i hN u3]
          refine (outer (p + 1) (by omega) (by omega)).1 u3 ?_
          rcases z_cases hp h1 with ⟨_, k⟩ | ⟨k, _⟩ | ⟨k, _⟩ | ⟨k, _⟩ | ⟨k, _⟩ | ⟨k, _⟩ | ⟨k, _⟩ | ⟨k, _⟩
          all_goals first | (exfalso; omega) | exact k _ hxm
      · rw [if_neg h0]
        exact Or.inr (Or.inl ⟨p, h1, by omega, h2, rfl⟩)
    refine ⟨first, ?_⟩
    intro i
    induction i using Nat.strongRecOn with
    | ind i ihi =>
      intro hi hk hip
      by_cases h0 : i = 0
      · subst h0
        rw [pa1, z_in2_N hN]
        exact Or.inl rfl
      · obtain ⟨u1, u2⟩ := hp.2.2.2.2.2.1 i (by omega) hi
        have u3 := z_par hp hi hk (by omega)
        obtain ⟨v1, v2, v3, v4⟩ := z_pre_kids hp (up i) (by omega) i u2
        have us := (hp.2.2.2.2.1 (up i) (by omega))
        rw [pa2 (up i) (by omega) u3 i u2]
        by_cases c1 : kd (up i) = 0 ∧ i + sz i ≠ up i + sz (up i)
        · rw [if_pos c1]
          have hm := z_segP_nx _ _ _ i us.2.2.1 u2 c1.2
          obtain ⟨w1, w2, w3, w4⟩ := z_pre_kids hp (up i) (by omega) _ hm
          rw [z_in2_i hN w3, hip]
          rw [hip] at w3 hm
          refine first w3 ?_
          rcases z_cases hp (show up i < N by omega) with ⟨_, k⟩ | ⟨k, _⟩ | ⟨k, _⟩ | ⟨k, _⟩ | ⟨k, _⟩ | ⟨k, _⟩ | ⟨k, _⟩ | ⟨k, _⟩
          all_goals first | (exfalso; omega) | exact k _ hm
        · rw [if_neg c1]
          by_cases c2 : kd (up i) = 4
          · rw [if_pos c2, z_in2_neg (by omega)]
            exact Or.inr (Or.inr ⟨up i, by omega, c2, rfl⟩)
          · rw [if_neg c2]
            by_cases c3 : up i + sz (up i) = p
            · exact ihi (up i) (by omega) (by omega) (by omega) c3
            · exact (outer (up i + sz (up i)) (by omega) us.2.1).2 (up i) (by omega) (by omega) rfl
theorem z_val_en {N : Nat} {kd sz ht up : Nat → Nat} {nx en : Nat → Int32} {ks : Nat → List Nat} (hp : z_pre N kd sz ht up ks) (hpa : z_pa N kd sz nx en ks) {i : Nat} (hi : i < N) (hk : kd i ≤ 6) : z_wv N kd (z_in2 N en (nI i)) := by
  rw [z_in2_i hp.2.1 hi]
  exact (z_val hp hpa _ i rfl (by omega)).1 hi hk
theorem z_val_nx {N : Nat} {kd sz ht up : Nat → Nat} {nx en : Nat → Int32} {ks : Nat → List Nat} (hp : z_pre N kd sz ht up ks) (hpa : z_pa N kd sz nx en ks) {i : Nat} (hi : i < N) (hk : kd i ≤ 6) : z_wv N kd (z_in2 N en (nx i)) :=
  (z_val hp hpa _ (i + sz i) rfl (hp.2.2.2.2.1 i hi).2.1).2 i hi hk rfl
theorem s_E_evaluate {X : mz_X} {m : mz_M} {Q : mz_M → Prop} {N F x k : Nat} {s : z_rs} {kd tk sz ht up lp : Nat → Nat} {tv nx en : Nat → Int32} {ks : Nat → List Nat} (hp : z_pre N kd sz ht up ks) (hF : F ≤ 100000) (hx : x < N) (hk : 7 ≤ kd x) (hE : z_eA m N kd tk sz lp tv nx en ks) (hq : q_A m F (F - k) s) (hkF : k ≤ F) (hg : m 47 1 = -1) (hQ : ∀ h v k' s', z_ev kd sz tv N x k s = (h, v, k', s') → ∀ m', q_A m' F (F - k') s' → m' 47 1 = h → (h = -1 → m' 50 7 = v) → z_fr [47, 50, 51, 52] m m' → Q m') : mz_gv X mz_sh 94 0 [some (.ref 50), some (.int (nI x)), none, none, none] m Q := by
  have hN := hp.2.1
  refine t_E_evaluate_0 _ ?_
  have f0 : z_fr [47, 50, 51, 52] m (mz_up (mz_up m 50 6 0) 50 7 0) := ((z_fr.rf _ _).up (by decide)).up (by decide)
  have hE0 := hE.fr f0 (by decide)
  have hsx := hp.2.2.2.2.1 x hx
  refine s_T_behind hN hE0.1.1 hx (hE0.1.2.2 x hx).2.2.2.1 ?_
  refine s_E_EA hp hF N x (by omega) hx hk Q _ 0 0 k s (x + sz x) hE0 (q_A_fr hq (((z_fr.rf [50] _).up (by decide)).up (by decide)) (by decide) (by decide) (by decide)) hkF (by rw [mz_up_n _ _ _ (by decide), mz_up_n _ _ _ (by decide)]; exact hg) (by rw [mz_up_k, mz_up_k]; simp [upd, nI_0]) (by omega) (by omega) (Nat.le_refl _) hsx.2.1 (fun h v k' s' hv => ⟨fun hh m' q1 w1 f1 => ?_, fun hh m' T' q1 w1 w2 w3 f1 w4 => ?_⟩)
  · exact hQ h v k' s' hv m' q1 w1 (fun g => absurd g hh) (f0.tr f1)
  · have go : mz_gv X mz_sh 94 24 [some (.ref 50), none, some (.int (nI (x + sz x))), some (.int (nI (x + sz x))), some (.int (nI (T' + 1)))] (mz_up m' 50 7 v) Q := by
      have fin : Q (mz_up m' 50 7 v) := hQ h v k' s' hv _ (q_A_fr q1 ((z_fr.rf [50] _).up (by decide)) (by decide) (by decide) (by decide)) (by rw [mz_up_n _ _ _ (by decide), hh]; exact w1) (fun _ => by rw [mz_up_k]; simp [upd]) ((f0.tr f1).up (by decide))
      exact t_E_evaluate_1 _ _ _ ⟨fun _ => fin, fun _ => ⟨fun _ => fin, fun g => absurd (nI_le (Nat.le_refl _) (by omega)) g⟩⟩
    refine t_E_settle_1 _ _ ⟨fun _ => go, fun g => absurd ?_ g⟩
    rw [w2]
    exact nI_le (a := 0) (b := 0) (by omega) (by omega)
theorem nI_neg2 {u : Nat} (hu : u < 4001) : (-1 - (-1 - nI u) : Int32) = nI u := by
  rw [Int32.sub_eq_add_neg, Int32.neg_sub, Int32.sub_eq_add_neg, Int32.add_comm (nI u), ← Int32.add_assoc, show (-1 + - -1 : Int32) = 0 by decide, Int32.zero_add]
theorem z_neg_lt {u : Nat} (hu : u < 4001) : (-1 - nI u : Int32) < 0 := by
  have h := z_in2_neg (N := 4001) (en := fun _ => 0) hu
  rcases Classical.em ((-1 - nI u : Int32) < 0) with g | g
  · exact g
  · exfalso
    obtain ⟨j, hj, e⟩ := nI_of g
    rw [e] at h
    have h2 := nI_neg2 hu
    rw [e] at h2
    have e3 : (nI u).toInt = u := nI_toInt (by omega)
    have e4 : (nI j).toInt = j := nI_toInt hj
    have e5 : (-1 - nI j : Int32).toInt = -1 - (j : Int) := by
      rw [Int32.toInt_sub, e4]
      show Int.bmod (-1 - (j : Int)) (2 ^ 32) = _
      rw [Int.bmod_def]
      omega
    rw [h2, e3] at e5
    omega
