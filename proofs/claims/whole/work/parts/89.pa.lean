/-! the class's parser -/
theorem iI_p : ∀ n : Nat, n < 64 → Int32.ofInt (n : Int) = nI n := by decide +kernel
theorem iI_n : ∀ n : Nat, n < 33 → Int32.ofInt (-(n : Int)) = - nI n := by decide +kernel
def y_sA (m : mz_M) : List y_E → Prop
  | [] => True
  | e :: t => m 28 (t.length + 1) = nI (y_s e) ∧ m 29 (t.length + 1) = nI (y_n e) ∧ y_sA m t
def y_mA (m : mz_M) (st : List y_E) : Prop := m 9 6 = nI (st.length + 1) ∧ m 28 0 = 0 ∧ y_sA m st ∧ m 11 5 = nI (z_fsz (y_cat st)) ∧ z_fpm m (y_cat st) 0
def y_tl (B : Nat → Int32) : List Nat → Nat → Int32
  | [] => B
  | r :: t => upd (y_tl B t) t.length (nI r)
theorem y_sA_fr {m m' : mz_M} : ∀ (st : List y_E), (∀ i, i ≤ st.length → m' 28 i = m 28 i ∧ m' 29 i = m 29 i) → y_sA m st → y_sA m' st := by
  intro st
  induction st with
  | nil => intro _ _; trivial
  | cons e t ih =>
    intro h hs
    have := h (t.length + 1) (by simp)
    exact ⟨by rw [this.1]; exact hs.1, by rw [this.2]; exact hs.2.1, ih (fun i hi => h i (by simp only [List.length_cons]; omega)) hs.2.2⟩
theorem y_sA_top {m : mz_M} {st : List y_E} (h0 : m 28 0 = 0) (h : y_sA m st) : m 28 st.length = nI (y_top st) := by
  cases st with
  | nil => exact h0
  | cons e t => exact h.1
theorem y_sA_ap {m : mz_M} : ∀ (q t : List y_E), y_sA m (q ++ t) → y_sA m t ∧ ∀ i, i < q.length → m 29 (t.length + 1 + i) = nI (y_n (q.getD (q.length - 1 - i) y_e0)) := by
  intro q
  induction q with
  | nil => intro t h; exact ⟨h, fun i hi => by simp at hi⟩
  | cons e q ih =>
    intro t h
    obtain ⟨h1, h2, h3⟩ := h
    obtain ⟨g1, g2⟩ := ih t h3
    refine ⟨g1, fun i hi => ?_⟩
    simp only [List.length_cons] at hi ⊢
    by_cases e1 : i = q.length
    · subst e1
      rw [show q.length + 1 - 1 - q.length = 0 by omega]
      have h2' : m 29 ((q ++ t).length + 1) = nI (y_n e) := h2
      rw [List.length_append] at h2'
      rw [show t.length + 1 + q.length = q.length + t.length + 1 by omega]
      exact h2'
    · rw [show q.length + 1 - 1 - i = (q.length - 1 - i) + 1 by omega]
      exact g2 i (by omega)
theorem s_B_act {X : mz_X} {m : mz_M} {Q : Int32 → mz_M → Prop} {s x : Nat} (hT : m 19 = (fun j => Int32.ofInt (z_act (j / 36) (j % 36)))) (hs : s < 63) (hx : x < 36) (hQ : Q (Int32.ofInt (z_act s x)) m) : mz_gi X mz_sh 46 0 [some (.ref 18), some (.int (nI s)), some (.int (nI x)), none] m Q := by
  refine t_B_act_0 _ _ ?_
  have e : nI s * 36 + nI x = nI (s * 36 + x) := by rw [show (36 : Int32) = nI 36 from rfl, nI_mul, nI_add]
  rw [e, nI_clamp (by omega), hT]
  refine ⟨fun g => absurd g (nI_pos (by omega)), fun _ => ⟨fun g => absurd g (nI_ge (b := 2304) (by omega) (by decide)), fun _ => ⟨mz_inbN (by omega) (by decide), ?_⟩⟩⟩
  show Q (Int32.ofInt (z_act ((s * 36 + x) / 36) ((s * 36 + x) % 36))) m
  rw [show (s * 36 + x) / 36 = s by omega, show (s * 36 + x) % 36 = x by omega]
  exact hQ
theorem s_P_push {X : mz_X} {m : mz_M} {Q : mz_M → Prop} {e : y_E} {t : List y_E} (h9 : m 9 6 = nI (t.length + 1)) (hl : t.length + 1 < 8004) (h0 : m 28 0 = 0) (hs : y_sA m t) (hQ : ∀ m', z_fr [9, 28, 29] m m' → m' 9 1 = m 9 1 → m' 9 6 = nI (t.length + 2) → m' 28 0 = 0 → y_sA m' (e :: t) → Q m') : mz_gv X mz_sh 23 0 [some (.ref 9), some (.int (nI (y_s e))), some (.int (nI (y_n e)))] m Q := by
  have hin : mz_inb (nI (t.length + 1)) 8004 = true := mz_inbN hl (by decide)
  refine t_P_push_0 _ _ ?_
  rw [h9]
  refine ⟨fun g => absurd g (nI_ge (b := 8004) (by omega) (by decide)), fun _ => ⟨hin, hin, ?_⟩⟩
  rw [nI_clamp (by omega), nI_1]
  refine hQ _ ((((z_fr.rf _ _).up (by decide)).up (by decide)).up (by decide)) (by simp [mz_up, upd]) (by simp [mz_up, upd]) (by simp [mz_up, upd, h0]) ⟨by simp [mz_up, upd], by simp [mz_up, upd], ?_⟩
  refine y_sA_fr t (fun i hi => ?_) hs
  have : i ≠ t.length + 1 := by omega
  simp [mz_up, upd, this]
theorem y_ck11 : ((List.range 32).all fun r => decide (mz_a3.getD r 0 = Int32.ofInt (y_no r)) && decide (mz_a5.getD r 0 = nI (y_ta r)) && decide (mz_a6.getD r 0 = nI (y_le r)) && decide (-1 ≤ y_no r) && decide (y_no r < 20) && (decide (y_no r < 0) || decide (r = 11) || (decide (mz_a4.getD r 0 = nI ((y_rh r).countP (fun x => decide (27 ≤ x)))) && (y_rh r).all (fun x => decide (x ≠ 26) && decide (x ≠ 25)))) && (decide (y_no r < 0) || (decide (y_ta r < (y_rh r).length)))) = true := by decide +kernel
theorem y_fln_cat {tk : Nat → Nat} {c : Nat} : ∀ (q : List y_E), (∀ e, e ∈ q → y_ok tk c e) → (∀ x, x ∈ q.map y_x → x ≠ 26 ∧ x ≠ 25) → z_fln (y_cat q) = (q.map y_x).countP (fun x => decide (27 ≤ x)) := by
  intro q
  induction q with
  | nil => intro _ _; rfl
  | cons e q ih =>
    intro h hx
    have h1 := ih (fun e' he => h e' (List.mem_cons_of_mem _ he)) (fun x hx' => hx x (List.mem_cons_of_mem _ hx'))
    have h2 := hx (y_x e) List.mem_cons_self
    have ho := h e List.mem_cons_self
    simp only [y_cat, z_fln_ap, List.map_cons]
    by_cases g : 27 ≤ y_x e
    · rw [List.countP_cons_of_pos (by simpa using g), h1]
      obtain ⟨s, a, v, l, e1, _⟩ := ho.2.2.1 g
      rw [e1]
      rfl
    · rw [List.countP_cons_of_neg (by simpa using g), h1, (ho.1 (by omega)).1]
      rfl
theorem s_P_grow {X : mz_X} {m : mz_M} {Q : mz_M → Prop} {tk : Nat → Nat} {a r raws s : Nat} {q t : List y_E} (h1 : 1 ≤ r) (h2 : r < 32) (hq : q.map y_x = y_rh r) (hql : q.length = (y_rh r).length) (hok : ∀ e, e ∈ q → y_ok tk a e) (hs : y_sA m (q ++ t)) (hlen : (q ++ t).length ≤ 8002) (hc : m 11 5 = nI (z_fsz (y_cat (q ++ t)))) (hcl : z_fsz (y_cat (q ++ t)) < 4001) (hf : z_fpm m (y_cat (q ++ t)) 0) (hQ : ∀ m', z_fr [11, 12, 13, 14, 15, 16] m m' → m' 11 5 = nI (z_fsz (y_cat (y_new r raws q s :: t))) → z_fpm m' (y_cat (y_new r raws q s :: t)) 0 → Q m') : mz_gv X mz_sh 26 0 [some (.ref 9), some (.int (nI r)), some (.int (nI (t.length + 1))), none] m Q := by
  have c11 := List.all_eq_true.mp y_ck11 r (List.mem_range.mpr h2)
  simp only [Bool.and_eq_true, Bool.or_eq_true, decide_eq_true_eq] at c11
  obtain ⟨⟨⟨⟨⟨⟨k3, k5⟩, k6⟩, kn1⟩, kn2⟩, k4⟩, kt⟩ := c11
  have hin : mz_inb (nI r) 32 = true := mz_inbN h2 (by decide)
  simp only [List.length_append] at hlen
  obtain ⟨g1, g2⟩ := y_sA_ap q t hs
  refine t_P_grow_0 _ _ ⟨hin, ?_⟩
  rw [nI_clamp (by omega), k3, k5]
  by_cases hn : 0 ≤ y_no r
  · have hno : Int32.ofInt (y_no r) = nI (y_no r).toNat := by
      have := iI_p (y_no r).toNat (by omega)
      rw [Int.toNat_of_nonneg hn] at this
      exact this
    rw [hno]
    have hne : ¬ nI (y_no r).toNat = -1 := fun e => by
      have e1 := congrArg Int32.toInt e
      rw [nI_toInt (by omega)] at e1
      have : (-1 : Int32).toInt = -1 := by decide
      omega
    have kt' : y_ta r < q.length := by rw [hql]; exact kt.resolve_left (by omega)
    have htok : m 29 (t.length + 1 + y_ta r) = nI (y_tok r q) := g2 (y_ta r) kt'
    have e1 : nI (t.length + 1) + nI (y_ta r) = nI (t.length + 1 + y_ta r) := nI_add _ _
    have hcat : y_cat (y_new r raws q s :: t) = z_fap (y_cat t) (.inner 0 ((y_no r).toNat, y_tok r q, y_id r raws q) () (y_cat q) .leaf) := by
      simp only [y_cat, y_new, y_f, if_pos hn]
    rw [y_cat_ap] at hc hcl hf
    refine ⟨fun g => absurd g hne, fun _ => ⟨fun g => ?_, fun g => ?_⟩⟩
    · have r11 := nI_eqc (c := 11) rfl (by omega) (by omega) g
      subst r11
      have hrow : y_rh 11 = [24, 26, 23] := by decide +kernel
      rw [hrow] at hq
      obtain ⟨e1', q, rfl, x1, hq⟩ := y_mc hq
      obtain ⟨e2', q, rfl, x2, hq⟩ := y_mc hq
      obtain ⟨e3', q, rfl, x3, hq⟩ := y_mc hq
      have := y_m0 hq
      subst this
      have f1 := (y_leaf (hok e1' (by simp)) x1 (by decide)).1
      have f3 := (y_leaf (hok e3' (by simp)) x3 (by decide)).1
      have hcq : y_cat [e1', e2', e3'] = y_f e2' := by simp only [y_cat, f1, f3, z_fap, z_fap_nil]
      have hnt : m 29 (t.length + 1 + 1) = nI (z_fln (y_cat [e1', e2', e3'])) := by
        rw [g2 1 (by simp), hcq, ← ((hok e2' (by simp)).2.1 x2).1]
        rfl
      rw [e1, nI_1, nI_clamp (by omega), nI_clamp (by simp only [List.length_cons, List.length_nil] at hlen; omega), htok, hnt]
      refine ⟨mz_inbN (by simp only [List.length_cons, List.length_nil] at hlen; omega) (by decide), hin, hin, mz_inbN (by simp only [List.length_cons, List.length_nil] at hlen kt'; omega) (by decide), ?_⟩
      refine s_T_add (id := y_id 11 raws [e1', e2', e3']) hf hc hcl (fun m' f' w1 w2 => hQ m' f' ?_ ?_)
      · rw [hcat]; exact w2
      · rw [hcat]; exact w1
    · have n11 : r ≠ 11 := fun e => g (by rw [e]; rfl)
      have k4' := (k4.resolve_left (by omega))
      obtain ⟨k4a, k4b⟩ := k4'
      have hfl : z_fln (y_cat q) = (y_rh r).countP (fun x => decide (27 ≤ x)) := by
        rw [← hq]
        refine y_fln_cat q hok (fun x hx => ?_)
        rw [hq] at hx
        have := List.all_eq_true.mp k4b x hx
        simp only [Bool.and_eq_true, decide_eq_true_eq] at this
        exact this
      rw [k4a, ← hfl, e1, nI_clamp (by omega), htok]
      refine ⟨hin, hin, hin, mz_inbN (by omega) (by decide), ?_⟩
      refine s_T_add (id := y_id r raws q) hf hc hcl (fun m' f' w1 w2 => hQ m' f' ?_ ?_)
      · rw [hcat]; exact w2
      · rw [hcat]; exact w1
  · have hno : y_no r = -1 := by omega
    rw [hno]
    have hcat : y_cat (y_new r raws q s :: t) = y_cat (q ++ t) := by
      rw [y_cat_ap]
      simp only [y_cat, y_new, y_f, if_neg hn]
    refine ⟨fun _ => hQ m (z_fr.rf _ _) ?_ ?_, fun g => absurd (by decide) g⟩
    · rw [hcat]; exact hc
    · rw [hcat]; exact hf
