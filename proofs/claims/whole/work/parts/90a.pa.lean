/-! the class's parser: read -/
theorem s_P_tell {X : mz_X} {m : mz_M} {Q : mz_M → Prop} {B : Nat → Int32} {told : List Nat} {r : Nat} (h9 : m 9 1 = nI told.length) (h10 : m 10 = y_tl B told) (hl : told.length < 16016) (hQ : ∀ m', z_fr [9, 10] m m' → m' 9 1 = nI (r :: told).length → m' 9 6 = m 9 6 → m' 10 = y_tl B (r :: told) → Q m') : mz_gv X mz_sh 25 0 [some (.ref 9), some (.int (nI r))] m Q := by
  refine t_P_tell_0 _ ?_
  rw [h9]
  refine ⟨fun g => absurd g (nI_ge (b := 16016) (by omega) (by decide)), fun _ => ⟨mz_inbN hl (by decide), ?_⟩⟩
  rw [nI_clamp (by omega), nI_1]
  refine hQ _ (((z_fr.rf _ _).up (by decide)).up (by decide)) (by simp [mz_up, upd]) (by simp [mz_up, upd]) ?_
  rw [mz_up_n _ _ _ (by decide), mz_up_k, h10]
  rfl
theorem s_P_reduce {X : mz_X} {m : mz_M} {Q : mz_M → Prop} {B : Nat → Int32} {tk : Nat → Nat} {a r raws : Nat} {told : List Nat} {q t : List y_E} (hT : m 19 = (fun j => Int32.ofInt (z_act (j / 36) (j % 36)))) (hT2 : m 21 = (fun j => nI (z_loL.getD j 0))) (h1 : 1 ≤ r) (h2 : r < 32) (hq : q.map y_x = y_rh r) (hql : q.length = (y_rh r).length) (hok : ∀ e, e ∈ q → y_ok tk a e) (ha1 : 0 < z_act (y_top t) (y_le r)) (ha2 : z_act (y_top t) (y_le r) < 63) (htop : y_top t < 63) (hm : y_mA m (q ++ t)) (hlen : (q ++ t).length ≤ 8001) (hcl : z_fsz (y_cat (q ++ t)) < 4001) (h9 : m 9 1 = nI told.length) (h10 : m 10 = y_tl B told) (htl : told.length < 16016) (hlen2 : t.length + 1 < 8004) (hQ : ∀ m', z_fr [9, 10, 11, 12, 13, 14, 15, 16, 28, 29] m m' → y_mA m' (y_new r raws q (z_act (y_top t) (y_le r)).toNat :: t) → m' 9 1 = nI (r :: told).length → m' 10 = y_tl B (r :: told) → Q m') : mz_gv X mz_sh 24 0 [some (.ref 9), some (.int (nI r)), none, none] m Q := by
  obtain ⟨b1, b2, b3, b4, b5⟩ := hm
  have hlo := List.all_eq_true.mp y_loL r (List.mem_range.mpr h2)
  simp only [decide_eq_true_eq] at hlo
  have c11 := List.all_eq_true.mp y_ck11 r (List.mem_range.mpr h2)
  simp only [Bool.and_eq_true, Bool.or_eq_true, decide_eq_true_eq] at c11
  have k6 := c11.1.1.1.1.2
  have hin : mz_inb (nI r) 32 = true := mz_inbN h2 (by decide)
  have hll : (q ++ t).length = q.length + t.length := List.length_append
  have hle : y_le r < 36 := by
    have : ∀ r, r < 32 → y_le r < 36 := by decide +kernel
    exact this r h2
  refine t_P_reduce_0 _ (s_P_tell (r := r) h9 h10 htl (fun m1 f1 w1 w2 w3 => t_B_lengthOf_0 _ ⟨hin, ?_⟩))
  have h21 : m1 21 (nI r).toNatClampNeg = nI q.length := by
    rw [nI_clamp (by omega), f1 21 (by decide), hT2, hql, hlo]
  rw [h21, w2, b1, nI_sub (by omega), show (q ++ t).length + 1 - q.length = t.length + 1 by omega]
  refine ⟨fun _ => ?_, fun g => absurd (nI_le (a := 1) (by omega) (by omega)) g⟩
  refine s_P_grow (raws := raws) (s := (z_act (y_top t) (y_le r)).toNat) h1 h2 hq hql hok (y_sA_fr (m' := m1) _ (fun i _ => ⟨by rw [f1 28 (by decide)], by rw [f1 29 (by decide)]⟩) b3) (by omega) (by rw [f1 11 (by decide)]; exact b4) hcl (z_fpm_fr (m' := m1) _ 0 (fun i _ _ => by rw [f1 12 (by decide), f1 13 (by decide), f1 14 (by decide), f1 15 (by decide), f1 16 (by decide)]; exact ⟨rfl, rfl, rfl, rfl, rfl⟩) b5) (fun m2 f2 w4 w5 => ?_)
  obtain ⟨s1, s2⟩ := y_sA_ap q t b3
  have hs2 : y_sA m2 t := y_sA_fr _ (fun i _ => ⟨by rw [f2 28 (by decide), f1 28 (by decide)], by rw [f2 29 (by decide), f1 29 (by decide)]⟩) s1
  have h28 : m2 28 0 = 0 := by rw [f2 28 (by decide), f1 28 (by decide)]; exact b2
  have htp : m2 28 t.length = nI (y_top t) := y_sA_top h28 hs2
  have hT' : m2 19 = (fun j => Int32.ofInt (z_act (j / 36) (j % 36))) := by rw [f2 19 (by decide), f1 19 (by decide)]; exact hT
  have hiA : Int32.ofInt (z_act (y_top t) (y_le r)) = nI (z_act (y_top t) (y_le r)).toNat := by
    have := iI_p (z_act (y_top t) (y_le r)).toNat (by omega)
    rw [Int.toNat_of_nonneg (by omega)] at this
    exact this
  have e1 : nI (t.length + 1) - 1 = nI t.length := by rw [nI_m1 (by omega), Nat.add_sub_cancel]
  have f12 : z_fr [9, 10, 11, 12, 13, 14, 15, 16, 28, 29] m m2 := (f1.wk (by decide)).tr (f2.wk (by decide))
  -- the push
  have go : ∀ nn, nn = nI (y_n (y_new r raws q (z_act (y_top t) (y_le r)).toNat)) → mz_gi X mz_sh 46 0 [some (.ref 18), some (.int (nI (y_top t))), some (.int (nI (y_le r))), none] (mz_up m2 9 6 (nI (t.length + 1))) (fun r20 m18 => mz_gv X mz_sh 23 0 [some (.ref 9), some (.int r20), some (.int nn)] m18 (fun m21 => Q m21)) := by
    intro nn hnn
    subst hnn
    have f3 : z_fr [9] m2 (mz_up m2 9 6 (nI (t.length + 1))) := (z_fr.rf _ _).up (by decide)
    refine s_B_act (by rw [f3 19 (by decide)]; exact hT') htop hle ?_
    rw [hiA]
    refine s_P_push (e := y_new r raws q (z_act (y_top t) (y_le r)).toNat) (t := t) (by rw [mz_up_k]; simp [upd]) (by omega) (by rw [f3 28 (by decide)]; exact h28) (y_sA_fr _ (fun i _ => ⟨by rw [f3 28 (by decide)], by rw [f3 29 (by decide)]⟩) hs2) (fun m3 f4 w6 w7 w8 w9 => ?_)
    have f34 : z_fr [9, 28, 29] m2 m3 := (f3.wk (by decide)).tr f4
    refine hQ m3 (f12.tr (f34.wk (by decide))) ⟨by rw [w7]; rfl, w8, w9, ?_, ?_⟩ ?_ ?_
    · rw [f34 11 (by decide)]; exact w4
    · exact z_fpm_fr _ 0 (fun i _ _ => by rw [f34 12 (by decide), f34 13 (by decide), f34 14 (by decide), f34 15 (by decide), f34 16 (by decide)]; exact ⟨rfl, rfl, rfl, rfl, rfl⟩) w5
    · rw [w6, mz_up_k]
      simp only [upd]
      rw [f2 9 (by decide)]
      exact w1
    · rw [f34 10 (by decide), f2 10 (by decide)]
      exact w3
  refine ⟨fun g => ?_, fun g => ?_⟩
  · have r2 := nI_eqc (c := 2) rfl (by omega) (by omega) g
    subst r2
    have hrow : y_rh 2 = [27, 26] := by decide +kernel
    have hql2 : q.length = 2 := by rw [hql, hrow]; rfl
    have hnt := s2 0 (by omega)
    rw [Nat.add_zero, hql2] at hnt
    refine ⟨mz_inbN (by omega) (by decide), by rw [e1]; exact mz_inbN (by omega) (by decide), t_B_letterOf_0 _ ⟨hin, ?_⟩⟩
    rw [nI_clamp (by omega), k6, e1, nI_clamp (by omega), htp, nI_clamp (by omega)]
    refine go _ ?_
    rw [f2 29 (by decide), f1 29 (by decide), hnt, nI_1]
    rfl
  · have n2 : r ≠ 2 := fun e => g (by rw [e]; rfl)
    refine ⟨by rw [e1]; exact mz_inbN (by omega) (by decide), t_B_letterOf_0 _ ⟨hin, ?_⟩⟩
    rw [nI_clamp (by omega), k6, e1, nI_clamp (by omega), htp]
    refine go _ ?_
    show (0 : Int32) = nI (if r = 2 then _ else 0)
    rw [if_neg n2]
    rfl
theorem s_P_read1 {X : mz_X} {Q : Int32 → mz_M → Prop} {tk zz : Nat → Nat} {c : Nat} {B : Nat → Int32} (ht : y_toks tk zz c) : ∀ (n a : Nat) (st : List y_E) (told : List Nat) (raws : Nat) (m : mz_M), a ≤ c → y_inv tk zz a st told raws → n + (told.length + a) = 20018 → m 2 4 = nI c → (∀ j, j ≤ c → m 3 j = nI (tk j)) → m 19 = (fun j => Int32.ofInt (z_act (j / 36) (j % 36))) → m 21 = (fun j => nI (z_loL.getD j 0)) → y_mA m st → m 9 1 = nI told.length → m 10 = y_tl B told → (∀ res a' st' told' raws', y_run tk zz n a st told raws = (res, a', st', told', raws') → a' ≤ c → y_inv tk zz a' st' told' raws' → (res = 1 → ∀ m', z_fr [9, 10, 11, 12, 13, 14, 15, 16, 28, 29] m m' → m' 9 1 = nI told'.length → m' 10 = y_tl B told' → Q (nI a') m') ∧ (res = 2 → ∀ e m', st' = [e] → y_x e = 26 → z_fr [9, 10, 11, 12, 13, 14, 15, 16, 28, 29] m m' → m' 9 1 = nI told'.length → m' 10 = y_tl B told' → m' 11 5 = nI (z_fsz (.inner 0 (0, 0, y_t e) () (y_f e) .leaf)) → z_fpm m' (.inner 0 (0, 0, y_t e) () (y_f e) .leaf) 0 → Q (-1) m')) → mz_gi X mz_sh 22 28 [some (.ref 9), some (.ref 2), some (.int (nI a)), some (.int (nI (told.length + a))), none] m Q := by
  have hc4 := ht.2.1
  intro n
  induction n with
  | zero =>
    intro a st told raws m ha hinv hn
    have := y_bounds hinv ht ha
    omega
  | succ n ih =>
    intro a st told raws m ha hinv hn h24 h3 hT hT2 hm h9 h10 hQ
    have hb := y_bounds hinv ht ha
    obtain ⟨b1, b2, b3, b4, b5⟩ := hm
    have htop := y_top_lt hinv.1
    have hk : tk a < 25 := by
      rcases Nat.lt_or_ge a c with g | g
      · have := ht.2.2.2 a g
        omega
      · have : a = c := by omega
        subst this
        rw [ht.1]
        decide
    have c1 := y_al2 y_ck1_all htop (show tk a < 36 by omega)
    simp only [y_ck1, Bool.and_eq_true, Bool.or_eq_true, decide_eq_true_eq] at c1
    refine t_P_read_1 _ _ ⟨fun g => absurd g (nI_ge (b := 20018) (by omega) (by decide)), fun _ => ⟨fun g => ?_, fun _ => ?_⟩⟩
    · rw [h24] at g
      exact absurd g (nI_nlt ha (by omega))
    rw [b1, nI_m1 (by omega), Nat.add_sub_cancel, nI_clamp (show st.length < 2 ^ 31 by omega), y_sA_top b2 b3, nI_clamp (by omega), h3 a ha]
    refine ⟨mz_inbN (by omega) (by decide), mz_inbN (by omega) (by decide), s_B_act hT htop (by omega) ?_⟩
    have hrun : ∀ res a' st' told' raws', y_run tk zz (n + 1) a st told raws = (res, a', st', told', raws') → a' ≤ c → y_inv tk zz a' st' told' raws' → _ := hQ
    rcases Int.lt_trichotomy (z_act (y_top st) (tk a)) 0 with hlt | heq | hgt
    · -- a reduction
      obtain ⟨r, hr⟩ : ∃ r : Nat, z_act (y_top st) (tk a) = -(r : Int) := ⟨(- z_act (y_top st) (tk a)).toNat, by omega⟩
      have hr1 : 1 ≤ r := by omega
      obtain ⟨h32, q, t, d1, d2, d3, d4, d5, d6, d7, d8, d9⟩ := y_reduce hinv ht ha hr hr1
      have hi : Int32.ofInt (z_act (y_top st) (tk a)) = - nI r := by rw [hr]; exact iI_n r (by omega)
      have hcase : ∀ r, r < 32 → 1 ≤ r → ¬ (- nI r = 0) ∧ ¬ (- nI r = 1000) ∧ (- nI r ≤ 0) ∧ - (- nI r) = nI r := by decide +kernel
      obtain ⟨q1, q2, q3, q4⟩ := hcase r h32 hr1
      rw [hi]
      refine ⟨fun g => absurd g q1, fun _ => ⟨fun g => absurd g q2, fun _ => ⟨fun _ => ?_, fun g => absurd q3 g⟩⟩⟩
      rw [q4]
      subst d1
      have hll : (q ++ t).length = q.length + t.length := List.length_append
      refine s_P_reduce (tk := tk) (a := a) (raws := raws) hT hT2 hr1 h32 d2 d3 d7 d4 d5 d6 ⟨b1, b2, b3, b4, b5⟩ (by omega) (by omega) h9 h10 (by omega) (by omega) (fun m' f' w1 w2 w3 => ?_)
      have e1 : nI (told.length + a) + 1 = nI ((r :: told).length + a) := by rw [nI_1, List.length_cons]; congr 1; omega
      rw [e1]
      have hstep : y_run tk zz (n + 1) a (q ++ t) told raws = y_run tk zz n a (y_new r raws q (z_act (y_top t) (y_le r)).toNat :: t) (r :: told) (raws + y_mk r) := by
        simp only [y_run]
        rw [if_neg (by omega), if_neg (by omega), if_neg (by omega), show (- z_act (y_top (q ++ t)) (tk a)).toNat = r by omega, ← d3, List.take_left, List.drop_left]
      refine ih a _ (r :: told) (raws + y_mk r) m' ha d9 (by rw [List.length_cons]; omega) (by rw [f' 2 (by decide)]; exact h24) (fun j hj => by rw [f' 3 (by decide)]; exact h3 j hj) (by rw [f' 19 (by decide)]; exact hT) (by rw [f' 21 (by decide)]; exact hT2) w1 w2 w3 (fun res a' st' told' raws' hy ha' hi' => ?_)
      obtain ⟨z2, z3⟩ := hQ res a' st' told' raws' (hstep.trans hy) ha' hi'
      exact ⟨fun g m2 f2 => z2 g m2 (f'.tr f2), fun g e m2 g1 g2 f2 => z3 g e m2 g1 g2 (f'.tr f2)⟩
    · -- a wrong token
      rw [heq]
      have hstep : y_run tk zz (n + 1) a st told raws = (1, a, st, told, raws) := by
        simp only [y_run]
        rw [if_pos heq]
      refine ⟨fun _ => (hQ _ _ _ _ _ hstep ha hinv).1 rfl m (z_fr.rf _ _) h9 h10, fun g => absurd (by decide) g⟩
    · by_cases h1000 : z_act (y_top st) (tk a) = 1000
      · have hstep : y_run tk zz (n + 1) a st told raws = (2, a, st, told, raws) := by
          simp only [y_run]
          rw [if_neg (by omega), if_pos h1000]
        rw [h1000]
        obtain ⟨_, e, rfl, hx⟩ := y_accept hinv ht ha h1000
        have ho := (hinv.2.1 e (by simp)).2.1 hx
        refine ⟨fun g => absurd g (by decide), fun _ => ⟨fun _ => ⟨?_, ?_⟩, fun g => absurd (by decide) g⟩⟩
        · rw [b1, nI_m1 (by simp)]; exact mz_inbN (n := 8004) (k := 1) (by decide) (by decide)
        · rw [b1, nI_m1 (by simp), show [e].length + 1 - 1 = 1 from rfl, nI_clamp (by decide), show m 29 1 = nI (y_n e) from b3.2.1, ho.1]
          have hcat : y_cat [e] = y_f e := rfl
          rw [hcat] at b4 b5 hb
          refine s_T_add (k := 0) (t := 0) (id := y_t e) (H := .leaf) (K := y_f e) b5 b4 (by show z_fsz (y_f e) < 4001; omega) (fun m' f' w1 w2 => ?_)
          exact (hQ _ _ _ _ _ hstep ha hinv).2 rfl e m' rfl hx (f'.wk (by decide)) (by rw [f' 9 (by decide)]; exact h9) (by rw [f' 10 (by decide)]; exact h10) w2 w1
      · -- a shift
        obtain ⟨s1, s2, s3⟩ := y_shift hinv ht ha hgt h1000
        have hi : Int32.ofInt (z_act (y_top st) (tk a)) = nI (z_act (y_top st) (tk a)).toNat := by
          have := iI_p (z_act (y_top st) (tk a)).toNat (by omega)
          rw [Int.toNat_of_nonneg (by omega)] at this
          exact this
        have hcase : ∀ r, r < 63 → 1 ≤ r → ¬ (nI r = 0) ∧ ¬ (nI r = 1000) ∧ ¬ (nI r ≤ 0) := by decide +kernel
        obtain ⟨q1, q2, q3⟩ := hcase (z_act (y_top st) (tk a)).toNat (by omega) (by omega)
        rw [hi]
        refine ⟨fun g => absurd g q1, fun _ => ⟨fun g => absurd g q2, fun _ => ⟨fun g => absurd g q3, fun _ => ?_⟩⟩⟩
        have hstep : y_run tk zz (n + 1) a st told raws = y_run tk zz n (a + 1) (y_tk zz (z_act (y_top st) (tk a)).toNat (tk a) a :: st) told raws := by
          simp only [y_run]
          rw [if_neg (by omega), if_neg h1000, if_pos hgt]
        refine s_P_push (e := y_tk zz (z_act (y_top st) (tk a)).toNat (tk a) a) (t := st) b1 (by omega) b2 b3 (fun m' f' w1 w2 w3 w4 => ?_)
        have e1 : nI (told.length + a) + 1 = nI (told.length + (a + 1)) := by rw [nI_1]; rfl
        rw [e1, nI_1]
        have hcat : y_cat (y_tk zz (z_act (y_top st) (tk a)).toNat (tk a) a :: st) = y_cat st := by simp only [y_cat, y_tk, y_f, z_fap_nil]
        refine ih (a + 1) _ told raws m' s1 s3 (by omega) (by rw [f' 2 (by decide)]; exact h24) (fun j hj => by rw [f' 3 (by decide)]; exact h3 j hj) (by rw [f' 19 (by decide)]; exact hT) (by rw [f' 21 (by decide)]; exact hT2) ⟨w2, w3, w4, ?_, ?_⟩ (w1.trans h9) (by rw [f' 10 (by decide)]; exact h10) (fun res a' st' told' raws' hy ha' hi' => ?_)
        · rw [hcat, f' 11 (by decide)]; exact b4
        · rw [hcat]
          exact z_fpm_fr _ 0 (fun i _ _ => by rw [f' 12 (by decide), f' 13 (by decide), f' 14 (by decide), f' 15 (by decide), f' 16 (by decide)]; exact ⟨rfl, rfl, rfl, rfl, rfl⟩) b5
        · obtain ⟨z2, z3⟩ := hQ res a' st' told' raws' (hstep.trans hy) ha' hi'
          exact ⟨fun g m2 f2 => z2 g m2 ((f'.wk (by decide)).tr f2), fun g e m2 g1 g2 f2 => z3 g e m2 g1 g2 ((f'.wk (by decide)).tr f2)⟩
