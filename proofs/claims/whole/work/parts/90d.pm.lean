/-! the reference's parser: its loop -/
theorem s_M_reduce {X : mz_X} {m : mz_M} {Q : Int32 → mz_M → Prop} {tk : Nat → Nat} {c raws s r : Nat} {q t : List y_E} (h1 : 1 ≤ r) (h2 : r < 32) (hq : q.map y_x = y_rh r) (hok : ∀ e, e ∈ q → y_ok tk c e) (hth : y_th m q t) (h57 : m 57 = (fun j => nI (z_loL.getD j 0))) (h33 : m 55 33 = nI raws) (hrw : raws < 12000) (hraw : ∀ e, e ∈ q → z_raw m (-1) (y_RF e)) (hnd : (y_ids q).Nodup) (hlt : ∀ id, id ∈ y_ids q → id < raws) (hQ : ∀ m', y_rp m m' r raws q (y_new r raws q s) → Q (nI (y_t (y_new r raws q s))) m') : mz_gi X mz_sh 153 0 [some (.ref 55), some (.int (nI r)), none] m Q := by
  have hr : r = 1 ∨ r = 2 ∨ r = 3 ∨ r = 4 ∨ r = 5 ∨ r = 6 ∨ r = 7 ∨ r = 8 ∨ r = 9 ∨ r = 10 ∨ r = 11 ∨ r = 12 ∨ r = 13 ∨ r = 14 ∨ r = 15 ∨ r = 16 ∨ r = 17 ∨ r = 18 ∨ r = 19 ∨ r = 20 ∨ r = 21 ∨ r = 22 ∨ r = 23 ∨ r = 24 ∨ r = 25 ∨ r = 26 ∨ r = 27 ∨ r = 28 ∨ r = 29 ∨ r = 30 ∨ r = 31 := by omega
  rcases hr with rfl | rfl | rfl | rfl | rfl | rfl | rfl | rfl | rfl | rfl | rfl | rfl | rfl | rfl | rfl | rfl | rfl | rfl | rfl | rfl | rfl | rfl | rfl | rfl | rfl | rfl | rfl | rfl | rfl | rfl | rfl
  · exact s_Mr1 hq hok hth h57 h33 hrw hraw hnd hlt hQ
  · exact s_Mr2 hq hok hth h57 h33 hrw hraw hnd hlt hQ
  · exact s_Mr3 hq hok hth h57 h33 hrw hraw hnd hlt hQ
  · exact s_Mr4 hq hok hth h57 h33 hrw hraw hnd hlt hQ
  · exact s_Mr5 hq hok hth h57 h33 hrw hraw hnd hlt hQ
  · exact s_Mr6 hq hok hth h57 h33 hrw hraw hnd hlt hQ
  · exact s_Mr7 hq hok hth h57 h33 hrw hraw hnd hlt hQ
  · exact s_Mr8 hq hok hth h57 h33 hrw hraw hnd hlt hQ
  · exact s_Mr9 hq hok hth h57 h33 hrw hraw hnd hlt hQ
  · exact s_Mr10 hq hok hth h57 h33 hrw hraw hnd hlt hQ
  · exact s_Mr11 hq hok hth h57 h33 hrw hraw hnd hlt hQ
  · exact s_Mr12 hq hok hth h57 h33 hrw hraw hnd hlt hQ
  · exact s_Mr13 hq hok hth h57 h33 hrw hraw hnd hlt hQ
  · exact s_Mr14 hq hok hth h57 h33 hrw hraw hnd hlt hQ
  · exact s_Mr15 hq hok hth h57 h33 hrw hraw hnd hlt hQ
  · exact s_Mr16 hq hok hth h57 h33 hrw hraw hnd hlt hQ
  · exact s_Mr17 hq hok hth h57 h33 hrw hraw hnd hlt hQ
  · exact s_Mr18 hq hok hth h57 h33 hrw hraw hnd hlt hQ
  · exact s_Mr19 hq hok hth h57 h33 hrw hraw hnd hlt hQ
  · exact s_Mr20 hq hok hth h57 h33 hrw hraw hnd hlt hQ
  · exact s_Mr21 hq hok hth h57 h33 hrw hraw hnd hlt hQ
  · exact s_Mr22 hq hok hth h57 h33 hrw hraw hnd hlt hQ
  · exact s_Mr23 hq hok hth h57 h33 hrw hraw hnd hlt hQ
  · exact s_Mr24 hq hok hth h57 h33 hrw hraw hnd hlt hQ
  · exact s_Mr25 hq hok hth h57 h33 hrw hraw hnd hlt hQ
  · exact s_Mr26 hq hok hth h57 h33 hrw hraw hnd hlt hQ
  · exact s_Mr27 hq hok hth h57 h33 hrw hraw hnd hlt hQ
  · exact s_Mr28 hq hok hth h57 h33 hrw hraw hnd hlt hQ
  · exact s_Mr29 hq hok hth h57 h33 hrw hraw hnd hlt hQ
  · exact s_Mr30 hq hok hth h57 h33 hrw hraw hnd hlt hQ
  · exact s_Mr31 hq hok hth h57 h33 hrw hraw hnd hlt hQ
theorem y_ck12 : ((List.range 32).all fun r => decide (r = 0) || (decide (z_iaL.getD r 0 + z_loL.getD r 0 < 109) && (decide (26 ≤ z_leL.getD r 0) && decide (z_leL.getD r 0 < 36)))) = true := by decide +kernel
theorem z_b_t {b : Bool} : (z_b b = 0 → b = false) ∧ (¬ z_b b = 0 → b = true) := by cases b <;> simp [z_b]
theorem s_M_ruleFor1 {X : mz_X} {m : mz_M} {Q : Int32 → mz_M → Prop} {f k : Nat} (hf : f < 63) (hk : k < 25) (h56 : m 56 = (fun j => nI (z_leL.getD j 0))) (h57 : m 57 = (fun j => nI (z_loL.getD j 0))) (h60 : m 60 = (fun j => nI (z_iaL.getD j 0))) (h61 : m 61 = (fun j => z_b ((z_sL.getD (j / 109) 0).testBit (j % 109)))) (h65 : m 65 = (fun j => z_b ((z_fL.getD (j / 25) 0).testBit (j % 25)))) : ∀ (n r : Nat), n + r = 32 → 1 ≤ r → (y_rf f k n r = 0 → Q (-1) m) → (∀ r', y_rf f k n r = r' → 0 < r' → Q (nI r') m) → mz_gi X mz_sh 154 2 [some (.ref 55), some (.int (nI f)), some (.int (nI k)), some (.int (nI r))] m Q := by
  intro n
  induction n with
  | zero =>
    intro r hn hr h0 _
    refine t_M_ruleFor_1 _ _ _ ⟨fun _ => h0 rfl, fun g => absurd ?_ g⟩
    exact nI_le (a := 32) (by omega) (by omega)
  | succ n ih =>
    intro r hn hr h0 h1
    have c12 := List.all_eq_true.mp y_ck12 r (List.mem_range.mpr (by omega))
    simp only [Bool.or_eq_true, Bool.and_eq_true, decide_eq_true_eq] at c12
    obtain ⟨k1, k2, k3⟩ := c12.resolve_left (by omega)
    have e1 : (109 * nI f + nI (z_iaL.getD r 0)) + nI (z_loL.getD r 0) = nI (109 * f + (z_iaL.getD r 0 + z_loL.getD r 0)) := by
      rw [show (109 : Int32) = nI 109 from rfl, nI_mul, nI_add, nI_add, Nat.add_assoc]
    have e2 : 25 * (nI (z_leL.getD r 0) - 25) + nI k = nI (25 * (z_leL.getD r 0 - 25) + k) := by
      rw [show (25 : Int32) = nI 25 from rfl, nI_sub (by omega), nI_mul, nI_add]
    have next : (y_rf f k (n + 1) r = y_rf f k n (r + 1)) → mz_gi X mz_sh 154 2 [some (.ref 55), some (.int (nI f)), some (.int (nI k)), some (.int (nI r + 1))] m Q := fun he => by
      rw [nI_1]
      rw [he] at h0 h1
      exact ih (r + 1) (by omega) (by omega) h0 h1
    have hin : mz_inb (nI r) 32 = true := mz_inbN (by omega) (by decide)
    refine t_M_ruleFor_1 _ _ _ ⟨fun g => absurd g (nI_ge (b := 32) (by omega) (by decide)), fun _ => ⟨mz_inbN (by omega) (by decide), hin, ?_⟩⟩
    rw [nI_clamp (by omega), h56, h57, h60]
    show mz_inb (109 * nI f + nI (z_iaL.getD r 0) + nI (z_loL.getD r 0)) 13080 = true ∧ (m 61 (109 * nI f + nI (z_iaL.getD r 0) + nI (z_loL.getD r 0)).toNatClampNeg = 0 → _) ∧ (¬ m 61 (109 * nI f + nI (z_iaL.getD r 0) + nI (z_loL.getD r 0)).toNatClampNeg = 0 → mz_inb (nI r) 32 = true ∧ mz_inb (25 * (nI (z_leL.getD r 0) - 25) + nI k) 900 = true ∧ (m 65 (25 * (nI (z_leL.getD r 0) - 25) + nI k).toNatClampNeg = 0 → _) ∧ (¬ m 65 (25 * (nI (z_leL.getD r 0) - 25) + nI k).toNatClampNeg = 0 → _))
    rw [e1, e2, nI_clamp (by omega), nI_clamp (by omega), h61, h65]
    show _ ∧ (z_b ((z_sL.getD ((109 * f + (z_iaL.getD r 0 + z_loL.getD r 0)) / 109) 0).testBit ((109 * f + (z_iaL.getD r 0 + z_loL.getD r 0)) % 109)) = 0 → _) ∧ (¬ z_b ((z_sL.getD ((109 * f + (z_iaL.getD r 0 + z_loL.getD r 0)) / 109) 0).testBit ((109 * f + (z_iaL.getD r 0 + z_loL.getD r 0)) % 109)) = 0 → _ ∧ _ ∧ (z_b ((z_fL.getD ((25 * (z_leL.getD r 0 - 25) + k) / 25) 0).testBit ((25 * (z_leL.getD r 0 - 25) + k) % 25)) = 0 → _) ∧ (¬ z_b ((z_fL.getD ((25 * (z_leL.getD r 0 - 25) + k) / 25) 0).testBit ((25 * (z_leL.getD r 0 - 25) + k) % 25)) = 0 → _))
    rw [show (109 * f + (z_iaL.getD r 0 + z_loL.getD r 0)) / 109 = f by omega, show (109 * f + (z_iaL.getD r 0 + z_loL.getD r 0)) % 109 = z_iaL.getD r 0 + z_loL.getD r 0 by omega, show (25 * (z_leL.getD r 0 - 25) + k) / 25 = z_leL.getD r 0 - 25 by omega, show (25 * (z_leL.getD r 0 - 25) + k) % 25 = k by omega]
    refine ⟨mz_inbN (by omega) (by decide), fun g => next ?_, fun g => ⟨hin, mz_inbN (by omega) (by decide), fun g2 => next ?_, fun g2 => ?_⟩⟩
    · simp only [y_rf]
      rw [if_neg]
      rw [z_b_t.1 g]
      simp
    · simp only [y_rf]
      rw [if_neg]
      unfold y_le
      rw [z_b_t.1 g2]
      simp
    · refine h1 r ?_ (by omega)
      simp only [y_rf]
      rw [if_pos]
      unfold y_le
      rw [z_b_t.2 g, z_b_t.2 g2]
      rfl
def y_sM (m : mz_M) : List y_E → Prop
  | [] => True
  | e :: t => m 73 (t.length + 1) = nI (y_ph (y_s e)) ∧ m 74 (t.length + 1) = nI (y_t e) ∧ y_sM m t
def y_mM (m : mz_M) (st : List y_E) (raws : Nat) : Prop := m 55 24 = nI (st.length + 1) ∧ m 73 0 = 0 ∧ y_sM m st ∧ m 55 33 = nI raws ∧ ∀ e, e ∈ st → z_raw m (-1) (y_RF e)
theorem y_sM_fr {m m' : mz_M} : ∀ (st : List y_E), (∀ i, i ≤ st.length → m' 73 i = m 73 i ∧ m' 74 i = m 74 i) → y_sM m st → y_sM m' st := by
  intro st
  induction st with
  | nil => intro _ _; trivial
  | cons e t ih =>
    intro h hs
    have := h (t.length + 1) (by simp)
    exact ⟨by rw [this.1]; exact hs.1, by rw [this.2]; exact hs.2.1, ih (fun i hi => h i (by simp only [List.length_cons]; omega)) hs.2.2⟩
theorem y_sM_top {m : mz_M} {st : List y_E} (h0 : m 73 0 = 0) (h : y_sM m st) : m 73 st.length = nI (y_ph (y_top st)) := by
  cases st with
  | nil => exact h0
  | cons e t => exact h.1
theorem y_sM_ap {m : mz_M} : ∀ (q t : List y_E), y_sM m (q ++ t) → y_sM m t ∧ ∀ i, i < q.length → m 74 (t.length + 1 + i) = nI (y_t (q.getD (q.length - 1 - i) y_e0)) := by
  intro q
  induction q with
  | nil => intro t h; exact ⟨h, fun i hi => by simp at hi⟩
  | cons e q ih =>
    intro t h
    obtain ⟨h1, h2, h3⟩ := h
    obtain ⟨g1, g2⟩ := ih t h3
    refine ⟨g1, fun i hi => ?_⟩
    simp only [List.length_cons] at hi ⊢
    by_cases e1 : i = q.length
    · subst e1
      rw [show q.length + 1 - 1 - q.length = 0 by omega]
      have h2' : m 74 ((q ++ t).length + 1) = nI (y_t e) := h2
      rw [List.length_append] at h2'
      rw [show t.length + 1 + q.length = q.length + t.length + 1 by omega]
      exact h2'
    · rw [show q.length + 1 - 1 - i = (q.length - 1 - i) + 1 by omega]
      exact g2 i (by omega)
theorem y_RF_ids {e : y_E} {id : Nat} (h : id ∈ z_fid (y_RF e)) : id ∈ y_ide e := by
  unfold y_RF at h
  unfold y_ide
  split at h
  · rename_i g
    rw [if_pos g]
    simp only [z_fid, List.append_nil] at h
    exact h
  · rename_i g
    rw [if_neg g]
    exact h
theorem y_ids_mem {e : y_E} {id : Nat} : ∀ {st : List y_E}, e ∈ st → id ∈ y_ide e → id ∈ y_ids st := by
  intro st
  induction st with
  | nil => intro h; cases h
  | cons e' t ih =>
    intro h hid
    simp only [y_ids]
    rcases List.mem_cons.mp h with g | g
    · subst g; exact List.mem_append.mpr (Or.inr hid)
    · exact List.mem_append.mpr (Or.inl (ih g hid))
theorem y_ph0 : y_ph 0 = 0 := by decide +kernel
theorem y_phlt {s : Nat} (h : s < 63) : y_ph s < 63 := by
  have := List.all_eq_true.mp y_phb s (List.mem_range.mpr h)
  simpa using this
theorem y_goe_val {m : mz_M} {f x : Nat} (h62 : m 62 = (fun j => Int32.ofInt (z_goe (j / 36) (j % 36)))) (hf : f < 63) (hx : x < 36) : 36 * nI f + nI x = nI (36 * f + x) ∧ m 62 (36 * f + x) = Int32.ofInt (z_goe f x) := by
  refine ⟨by rw [show (36 : Int32) = nI 36 from rfl, nI_mul, nI_add], ?_⟩
  rw [h62]
  show Int32.ofInt (z_goe ((36 * f + x) / 36) ((36 * f + x) % 36)) = _
  rw [show (36 * f + x) / 36 = f by omega, show (36 * f + x) % 36 = x by omega]
theorem s_M_goOver1 {X : mz_X} {Q : Int32 → mz_M → Prop} {tk zz : Nat → Nat} {c : Nat} {B : Nat → Int32} (ht : y_toks tk zz c) : ∀ (n a : Nat) (st : List y_E) (told : List Nat) (raws : Nat) (m : mz_M), a ≤ c → y_inv tk zz a st told raws → n + (told.length + a) = 20018 → (∀ j, j ≤ c → m 67 j = nI (tk j)) → r_tab m → y_mM m st raws → m 55 26 = nI told.length → m 75 = y_tl B told → (∀ res a' st' told' raws', y_run tk zz n a st told raws = (res, a', st', told', raws') → a' ≤ c → y_inv tk zz a' st' told' raws' → (res = 1 → ∀ m', z_fm [73, 74, 75, 76, 77, 78, 79, 80, 81] [24, 26, 33] m m' → m' 55 26 = nI told'.length → m' 75 = y_tl B told' → Q (nI a') m') ∧ (res = 2 → ∀ m', z_fm [73, 74, 75, 76, 77, 78, 79, 80, 81] [24, 26, 33] m m' → m' 55 26 = nI told'.length → m' 75 = y_tl B told' → y_mM m' st' raws' → Q (-1) m')) → mz_gi X mz_sh 155 24 [some (.ref 55), some (.int (nI a)), none, none, none, none, none] m Q := by
  have hc4 := ht.2.1
  intro n
  induction n with
  | zero =>
    intro a st told raws m ha hinv hn
    have := y_bounds hinv ht ha
    omega
  | succ n ih =>
    intro a st told raws m ha hinv hn h67 hT hm h26 h75 hQ
    have hb := y_bounds hinv ht ha
    obtain ⟨b1, b2, b3, b4, b5⟩ := hm
    have hT' := hT
    obtain ⟨_, _, h56, h57, h60, h61, h62, h65⟩ := hT'
    have htop := y_top_lt hinv.1
    have hfi := y_phlt htop
    have hk : tk a < 25 := by
      rcases Nat.lt_or_ge a c with g | g
      · have := ht.2.2.2 a g
        omega
      · have : a = c := by omega
        subst this
        rw [ht.1]
        decide
    have c1 := y_al2 y_ck1_all htop (show tk a < 36 by omega)
    simp only [y_ck1, Bool.and_eq_true, Bool.or_eq_true, decide_eq_true_eq] at c1
    have c2 := y_al2 y_ck2_all htop hk
    obtain ⟨ge1, ge2⟩ := y_goe_val h62 hfi (show tk a < 36 by omega)
    refine t_M_goOver_1 _ ?_
    rw [b1, nI_m1 (by omega), Nat.add_sub_cancel, nI_clamp (show st.length < 2 ^ 31 by omega), y_sM_top b2 b3, nI_clamp (show a < 2 ^ 31 by omega), h67 a ha, ge1, nI_clamp (show 36 * y_ph (y_top st) + tk a < 2 ^ 31 by omega), ge2]
    refine ⟨mz_inbN (by omega) (by decide), mz_inbN (by omega) (by decide), mz_inbN (by omega) (by decide), ?_⟩
    unfold y_ck2 at c2
    by_cases hsh : 0 < z_act (y_top st) (tk a) ∧ z_act (y_top st) (tk a) < 63
    · -- a shift
      obtain ⟨hgt, h63⟩ := hsh
      obtain ⟨s1, s2, s3⟩ := y_shift hinv ht ha hgt (by omega)
      rw [if_pos (by simp only [Bool.and_eq_true, decide_eq_true_eq]; exact ⟨hgt, h63⟩)] at c2
      simp only [decide_eq_true_eq] at c2
      have hph := y_phlt (s := (z_act (y_top st) (tk a)).toNat) (by omega)
      rw [c2, iI_p _ (by omega), nI_clamp (by omega)]
      have hin : mz_inb (nI (st.length + 1)) 8100 = true := mz_inbN (by omega) (by decide)
      refine ⟨fun g => absurd g (nI_pos (by omega)), fun _ => ⟨hin, hin, ?_⟩⟩
      rw [nI_1, nI_1]
      have hstep : y_run tk zz (n + 1) a st told raws = y_run tk zz n (a + 1) (y_tk zz (z_act (y_top st) (tk a)).toNat (tk a) a :: st) told raws := by
        simp only [y_run]
        rw [if_neg (by omega), if_neg (by omega), if_pos hgt]
      have f' : z_fm [73, 74, 75, 76, 77, 78, 79, 80, 81] [24, 26, 33] m (mz_up (mz_up (mz_up m 73 (st.length + 1) (nI (y_ph (z_act (y_top st) (tk a)).toNat))) 74 (st.length + 1) (nI a)) 55 24 (nI (st.length + 1 + 1))) := (((z_fm.rf _ _ _).up (by decide) (by decide)).up (by decide) (by decide)).uf (by decide)
      refine ih (a + 1) _ told raws _ s1 s3 (by omega) (fun j hj => by rw [f'.1 67 (by decide) (by decide)]; exact h67 j hj) (r_tab_fr (fun q hq => f'.1 q (by simp only [List.mem_cons, List.not_mem_nil, or_false] at hq ⊢; omega) (by simp only [List.mem_cons, List.not_mem_nil, or_false] at hq; omega)) hT) ⟨by rw [mz_up_k]; simp [upd], by simp [mz_up, upd, b2], ⟨by simp [mz_up, upd]; rfl, by simp [mz_up, upd]; rfl, y_sM_fr st (fun i hi => ?_) b3⟩, by rw [mz_up_k]; simp only [upd]; rw [mz_up_n _ _ _ (by decide), mz_up_n _ _ _ (by decide)]; exact b4, fun e he => ?_⟩ (by rw [mz_up_k]; simp only [upd]; rw [mz_up_n _ _ _ (by decide), mz_up_n _ _ _ (by decide)]; exact h26) (by rw [mz_up_n _ _ _ (by decide), mz_up_n _ _ _ (by decide), mz_up_n _ _ _ (by decide)]; exact h75) (fun res a' st' told' raws' hy ha' hi' => ?_)
      · have : i ≠ st.length + 1 := by omega
        simp [mz_up, upd, this]
      · rcases List.mem_cons.mp he with g | g
        · subst g
          have hx : tk a ≠ 26 := by omega
          have : y_RF (y_tk zz (z_act (y_top st) (tk a)).toNat (tk a) a) = .leaf := by
            simp only [y_RF, y_tk, y_x, y_f, hx, if_false]
          rw [this]
          trivial
        · refine z_raw_fr _ _ (fun id _ => ?_) (b5 e g)
          unfold y_sm
          simp [mz_up]
      · obtain ⟨z2, z3⟩ := hQ res a' st' told' raws' (hstep.trans hy) ha' hi'
        exact ⟨fun g m2 f2 => z2 g m2 (f'.tr f2), fun g m2 f2 => z3 g m2 (f'.tr f2)⟩
    · rw [if_neg (by simp only [Bool.and_eq_true, decide_eq_true_eq]; exact hsh)] at c2
      simp only [Bool.and_eq_true, decide_eq_true_eq] at c2
      obtain ⟨⟨c2a, c2b⟩, c2c⟩ := c2
      rw [c2a]
      refine ⟨fun _ => ?_, fun g => absurd (by decide) g⟩
      by_cases hlt : z_act (y_top st) (tk a) < 0
      · -- a reduction
        obtain ⟨r, hr⟩ : ∃ r : Nat, z_act (y_top st) (tk a) = -(r : Int) := ⟨(- z_act (y_top st) (tk a)).toNat, by omega⟩
        have hr1 : 1 ≤ r := by omega
        rw [if_pos hlt] at c2b
        have c2b' : y_rf (y_ph (y_top st)) (tk a) 31 1 = r := by omega
        obtain ⟨h32, q, t, d1, d2, d3, d4, d5, d6, d7, d8, d9⟩ := y_reduce hinv ht ha hr hr1
        refine t_M_ruleFor_0 _ _ (s_M_ruleFor1 hfi hk h56 h57 h60 h61 h65 31 1 (by decide) (by decide) (fun g => by omega) (fun r' hr' _ => ?_))
        have : r' = r := by omega
        subst this
        rw [h26, nI_clamp (show told.length < 2 ^ 31 by omega), nI_1]
        refine ⟨fun _ => ⟨mz_inbN (by omega) (by decide), ?_⟩, fun g => absurd (nI_pos' (by omega)) g⟩
        subst d1
        have hll : (q ++ t).length = q.length + t.length := List.length_append
        have hstep : y_run tk zz (n + 1) a (q ++ t) told raws = y_run tk zz n a (y_new r' raws q (z_act (y_top t) (y_le r')).toNat :: t) (r' :: told) (raws + y_mk r') := by
          simp only [y_run]
          rw [if_neg (by omega), if_neg (by omega), if_neg (by omega), show (- z_act (y_top (q ++ t)) (tk a)).toNat = r' by omega, ← d3, List.take_left, List.drop_left]
        have f1 : z_fm [73, 74, 75, 76, 77, 78, 79, 80, 81] [24, 26, 33] m (mz_up (mz_up m 75 told.length (nI r')) 55 26 (nI (told.length + 1))) := ((z_fm.rf _ _ _).up (by decide) (by decide)).uf (by decide)
        obtain ⟨sm1, sm2⟩ := y_sM_ap q t b3
        obtain ⟨_, _, _, _, _, i6, i7, _⟩ := hinv
        rw [y_ids_ap] at i6 i7
        have hndq : (y_ids q).Nodup := (List.nodup_append.mp i6).2.1
        have hdis := (List.nodup_append.mp i6).2.2
        have w26 : mz_up (mz_up m 75 told.length (nI r')) 55 26 (nI (told.length + 1)) 55 26 = nI (told.length + 1) := by rw [mz_up_k]; simp [upd]
        have w75 : mz_up (mz_up m 75 told.length (nI r')) 55 26 (nI (told.length + 1)) 75 = y_tl B (r' :: told) := by
          rw [mz_up_n _ _ _ (by decide), mz_up_k, h75]
          rfl
        have w24 : mz_up (mz_up m 75 told.length (nI r')) 55 26 (nI (told.length + 1)) 55 24 = nI ((q ++ t).length + 1) := by
          rw [mz_up_k]; simp only [upd]; rw [mz_up_n _ _ _ (by decide)]; exact b1
        have w33 : mz_up (mz_up m 75 told.length (nI r')) 55 26 (nI (told.length + 1)) 55 33 = nI raws := by
          rw [mz_up_k]; simp only [upd]; rw [mz_up_n _ _ _ (by decide)]; exact b4
        have wk : ∀ q, q ≠ 55 → q ≠ 75 → mz_up (mz_up m 75 told.length (nI r')) 55 26 (nI (told.length + 1)) q = m q := fun q q1 q2 => by rw [mz_up_n _ _ _ q1, mz_up_n _ _ _ q2]
        generalize mz_up (mz_up m 75 told.length (nI r')) 55 26 (nI (told.length + 1)) = m1 at f1 w26 w75 w24 w33 wk
        have hsm1 : ∀ id, y_sm m m1 id := fun id => ⟨by rw [wk 76 (by decide) (by decide)], by rw [wk 77 (by decide) (by decide)], by rw [wk 78 (by decide) (by decide)], by rw [wk 79 (by decide) (by decide)], by rw [wk 80 (by decide) (by decide)], by rw [wk 81 (by decide) (by decide)]⟩
        refine s_M_reduce (s := (z_act (y_top t) (y_le r')).toNat) hr1 h32 d2 d7 (t := t) ⟨w24, by omega, fun i hi => by rw [wk 74 (by decide) (by decide)]; exact sm2 i hi⟩ (by rw [wk 57 (by decide) (by decide)]; exact h57) w33 (by omega) (fun e he => z_raw_fr _ _ (fun id _ => hsm1 id) (b5 e (List.mem_append.mpr (Or.inl he)))) hndq (fun id hid => i7 id (List.mem_append.mpr (Or.inr hid))) (fun m2 p2 => ?_)
        obtain ⟨p21, p22, p23, p24⟩ := p2
        have hlo := List.all_eq_true.mp y_loL r' (List.mem_range.mpr h32)
        simp only [decide_eq_true_eq] at hlo
        have e57 : m2 57 (nI r').toNatClampNeg = nI q.length := by
          rw [nI_clamp (by omega), p21.1 57 (by decide) (by decide), wk 57 (by decide) (by decide), h57, d3, hlo]
        have e56 : m2 56 (nI r').toNatClampNeg = nI (y_le r') := by
          rw [nI_clamp (by omega), p21.1 56 (by decide) (by decide), wk 56 (by decide) (by decide), h56]
          rfl
        have e24 : m2 55 24 = nI ((q ++ t).length + 1) := by rw [p21.2 24 (by decide)]; exact w24
        have e73 : m2 73 t.length = nI (y_ph (y_top t)) := by
          rw [p21.1 73 (by decide) (by decide), wk 73 (by decide) (by decide)]
          exact y_sM_top b2 sm1
        have hle : y_le r' < 36 ∧ 25 ≤ y_le r' := by
          have : ∀ r, r < 32 → y_le r < 36 ∧ 25 ≤ y_le r := by decide +kernel
          exact this r' h32
        obtain ⟨ge3, ge4⟩ := y_goe_val (m := m2) (f := y_ph (y_top t)) (x := y_le r') (by rw [p21.1 62 (by decide) (by decide), wk 62 (by decide) (by decide)]; exact h62) (y_phlt d6) hle.1
        have c3 := y_al2 y_ck3_all d6 hle.1
        simp only [Bool.or_eq_true, decide_eq_true_eq] at c3
        have c3' := c3.resolve_left (by omega)
        unfold y_ck3 at c3'
        have hpos : decide (0 < z_act (y_top t) (y_le r')) = true := by rw [decide_eq_true_eq]; exact d4
        rw [hpos] at c3'
        simp only [Bool.not_true, Bool.false_or, decide_eq_true_eq] at c3'
        have hph := y_phlt (s := (z_act (y_top t) (y_le r')).toNat) (by omega)
        have hftop := y_phlt d6
        rw [e24, e57, e56, nI_sub (by omega), show (q ++ t).length + 1 - q.length = t.length + 1 by omega, nI_m1 (by omega), Nat.add_sub_cancel, nI_clamp (show t.length < 2 ^ 31 by omega), e73, ge3, nI_clamp (show 36 * y_ph (y_top t) + y_le r' < 2 ^ 31 by omega), nI_clamp (show t.length + 1 < 2 ^ 31 by omega), ge4, c3', iI_p _ (by omega), nI_1]
        refine ⟨mz_inbN (by omega) (by decide), mz_inbN (by omega) (by decide), mz_inbN (by omega) (by decide), mz_inbN (by omega) (by decide), mz_inbN (by omega) (by decide), mz_inbN (by omega) (by decide), ?_⟩
        have f3 : z_fm [73, 74, 75, 76, 77, 78, 79, 80, 81] [24, 26, 33] m2 (mz_up (mz_up (mz_up (mz_up m2 55 24 (nI (t.length + 1))) 73 (t.length + 1) (nI (y_ph (z_act (y_top t) (y_le r')).toNat))) 74 (t.length + 1) (nI (y_t (y_new r' raws q (z_act (y_top t) (y_le r')).toNat)))) 55 24 (nI (t.length + 1 + 1))) := ((((z_fm.rf _ _ _).uf (by decide)).up (by decide) (by decide)).up (by decide) (by decide)).uf (by decide)
        have f13 := (f1.tr (p21.wk (l' := [73, 74, 75, 76, 77, 78, 79, 80, 81]) (js' := [24, 26, 33]) (by decide) (by decide))).tr f3
        refine ih a _ (r' :: told) (raws + y_mk r') _ ha d9 (by rw [List.length_cons]; omega) (fun j hj => by rw [f13.1 67 (by decide) (by decide)]; exact h67 j hj) (r_tab_fr (fun q hq => f13.1 q (by simp only [List.mem_cons, List.not_mem_nil, or_false] at hq ⊢; omega) (by simp only [List.mem_cons, List.not_mem_nil, or_false] at hq; omega)) hT) ⟨by rw [mz_up_k]; simp [upd], ?_, ⟨by simp [mz_up, upd]; rfl, by simp [mz_up, upd], y_sM_fr t (fun i hi => ?_) sm1⟩, ?_, fun e he => ?_⟩ ?_ ?_ (fun res a' st' told' raws' hy ha' hi' => ?_)
        · have h1 : mz_up (mz_up (mz_up (mz_up m2 55 24 (nI (t.length + 1))) 73 (t.length + 1) (nI (y_ph (z_act (y_top t) (y_le r')).toNat))) 74 (t.length + 1) (nI (y_t (y_new r' raws q (z_act (y_top t) (y_le r')).toNat)))) 55 24 (nI (t.length + 1 + 1)) 73 0 = m2 73 0 := by simp [mz_up, upd]
          rw [h1, p21.1 73 (by decide) (by decide), wk 73 (by decide) (by decide)]
          exact b2
        · have : i ≠ t.length + 1 := by omega
          have h1 : mz_up (mz_up (mz_up (mz_up m2 55 24 (nI (t.length + 1))) 73 (t.length + 1) (nI (y_ph (z_act (y_top t) (y_le r')).toNat))) 74 (t.length + 1) (nI (y_t (y_new r' raws q (z_act (y_top t) (y_le r')).toNat)))) 55 24 (nI (t.length + 1 + 1)) 73 i = m2 73 i := by simp [mz_up, upd, this]
          have h2 : mz_up (mz_up (mz_up (mz_up m2 55 24 (nI (t.length + 1))) 73 (t.length + 1) (nI (y_ph (z_act (y_top t) (y_le r')).toNat))) 74 (t.length + 1) (nI (y_t (y_new r' raws q (z_act (y_top t) (y_le r')).toNat)))) 55 24 (nI (t.length + 1 + 1)) 74 i = m2 74 i := by simp [mz_up, upd, this]
          rw [h1, h2, p21.1 73 (by decide) (by decide), wk 73 (by decide) (by decide), p21.1 74 (by decide) (by decide), wk 74 (by decide) (by decide)]
          exact ⟨rfl, rfl⟩
        · have h1 : mz_up (mz_up (mz_up (mz_up m2 55 24 (nI (t.length + 1))) 73 (t.length + 1) (nI (y_ph (z_act (y_top t) (y_le r')).toNat))) 74 (t.length + 1) (nI (y_t (y_new r' raws q (z_act (y_top t) (y_le r')).toNat)))) 55 24 (nI (t.length + 1 + 1)) 55 33 = m2 55 33 := by simp [mz_up, upd]
          rw [h1]
          exact p22
        · have hsm3 : ∀ id, y_sm m2 (mz_up (mz_up (mz_up (mz_up m2 55 24 (nI (t.length + 1))) 73 (t.length + 1) (nI (y_ph (z_act (y_top t) (y_le r')).toNat))) 74 (t.length + 1) (nI (y_t (y_new r' raws q (z_act (y_top t) (y_le r')).toNat)))) 55 24 (nI (t.length + 1 + 1))) id := fun id => by
            unfold y_sm
            simp [mz_up]
          rcases List.mem_cons.mp he with g | g
          · subst g
            exact z_raw_fr _ _ (fun id _ => hsm3 id) p23
          · refine z_raw_fr _ _ (fun id hid => ?_) (b5 e (List.mem_append.mpr (Or.inr g)))
            have hidt : id ∈ y_ids t := y_ids_mem g (y_RF_ids hid)
            have hnq : id ∉ y_ids q := fun hq => hdis id hidt id hq rfl
            have hnr : id ≠ raws := by
              have := i7 id (List.mem_append.mpr (Or.inl hidt))
              omega
            exact ((hsm1 id).tr (p24 id hnq hnr)).tr (hsm3 id)
        · have h1 : mz_up (mz_up (mz_up (mz_up m2 55 24 (nI (t.length + 1))) 73 (t.length + 1) (nI (y_ph (z_act (y_top t) (y_le r')).toNat))) 74 (t.length + 1) (nI (y_t (y_new r' raws q (z_act (y_top t) (y_le r')).toNat)))) 55 24 (nI (t.length + 1 + 1)) 55 26 = m2 55 26 := by simp [mz_up, upd]
          rw [h1, p21.2 26 (by decide), w26, List.length_cons]
        · have h1 : mz_up (mz_up (mz_up (mz_up m2 55 24 (nI (t.length + 1))) 73 (t.length + 1) (nI (y_ph (z_act (y_top t) (y_le r')).toNat))) 74 (t.length + 1) (nI (y_t (y_new r' raws q (z_act (y_top t) (y_le r')).toNat)))) 55 24 (nI (t.length + 1 + 1)) 75 = m2 75 := by simp [mz_up]
          rw [h1, p21.1 75 (by decide) (by decide), w75]
        · obtain ⟨z2, z3⟩ := hQ res a' st' told' raws' (hstep.trans hy) ha' hi'
          exact ⟨fun g m3 f2 => z2 g m3 (f13.tr f2), fun g m3 f2 => z3 g m3 (f13.tr f2)⟩
      · -- the end, or a wrong token
        rw [if_neg hlt] at c2b
        refine t_M_ruleFor_0 _ _ (s_M_ruleFor1 hfi hk h56 h57 h60 h61 h65 31 1 (by decide) (by decide) (fun _ => ?_) (fun r' hr' h0 => by omega))
        have e109 : 109 * nI (y_ph (y_top st)) + 1 = nI (109 * y_ph (y_top st) + 1) := by
          rw [show (109 : Int32) = nI 109 from rfl, nI_mul, nI_1]
        rw [e109, nI_clamp (by omega), h61]
        refine ⟨fun g => absurd g (by decide), fun _ => ⟨fun g => ⟨mz_inbN (by omega) (by decide), ?_⟩, fun g => ?_⟩⟩
        · have hk0 : tk a = 0 := nI_eqc (c := 0) rfl (by omega) (by omega) g
          show (z_b ((z_sL.getD ((109 * y_ph (y_top st) + 1) / 109) 0).testBit ((109 * y_ph (y_top st) + 1) % 109)) = 0 → _) ∧ (¬ z_b ((z_sL.getD ((109 * y_ph (y_top st) + 1) / 109) 0).testBit ((109 * y_ph (y_top st) + 1) % 109)) = 0 → _)
          rw [show (109 * y_ph (y_top st) + 1) / 109 = y_ph (y_top st) by omega, show (109 * y_ph (y_top st) + 1) % 109 = 1 by omega]
          have c2c' : (z_sL.getD (y_ph (y_top st)) 0).testBit 1 = decide (z_act (y_top st) (tk a) = 1000) := by
            have h3 : ¬ decide (z_act (y_top st) (tk a) < 0) = true := by rw [decide_eq_true_eq]; exact hlt
            have h4 : ¬ decide (tk a ≠ 0) = true := by rw [decide_eq_true_eq]; exact fun h => h hk0
            simp only [Bool.or_eq_true] at c2c
            rcases c2c with (g1 | g1) | g1
            · simp only [decide_eq_true_eq] at g1
              exact absurd g1 hlt
            · simp only [decide_eq_true_eq] at g1
              exact absurd hk0 g1
            · exact beq_iff_eq.mp g1
          rw [c2c']
          refine ⟨fun g2 => ?_, fun g2 => ?_⟩
          · have hno := z_b_t.1 g2
            simp only [decide_eq_false_iff_not] at hno
            have h0 : z_act (y_top st) (tk a) = 0 := by omega
            have hstep : y_run tk zz (n + 1) a st told raws = (1, a, st, told, raws) := by
              simp only [y_run]
              rw [if_pos h0]
            exact (hQ _ _ _ _ _ hstep ha hinv).1 rfl m (z_fm.rf _ _ _) h26 h75
          · have hyes := z_b_t.2 g2
            simp only [decide_eq_true_eq] at hyes
            have hstep : y_run tk zz (n + 1) a st told raws = (2, a, st, told, raws) := by
              simp only [y_run]
              rw [if_neg (by omega), if_pos hyes]
            exact (hQ _ _ _ _ _ hstep ha hinv).2 rfl m (z_fm.rf _ _ _) h26 h75 ⟨b1, b2, b3, b4, b5⟩
        · have hk0 : tk a ≠ 0 := fun e => g (by rw [e]; rfl)
          have h0 : z_act (y_top st) (tk a) = 0 := by omega
          have hstep : y_run tk zz (n + 1) a st told raws = (1, a, st, told, raws) := by
            simp only [y_run]
            rw [if_pos h0]
          exact (hQ _ _ _ _ _ hstep ha hinv).1 rfl m (z_fm.rf _ _ _) h26 h75
