/-! the parsers' run, pure; what stays true -/
def y_gain (zz : Nat → Nat) (j i : Nat) : Int := if i = 0 then 4 * (zz j : Int) else if i = 1 then 1 else if i = 2 then 1 else if i = 3 then 2 else 2 * (zz j : Int)
def y_tk (zz : Nat → Nat) (s k j : Nat) : y_E := (s, k, j, j, .leaf, y_gain zz j)
def y_run (tk zz : Nat → Nat) : Nat → Nat → List y_E → List Nat → Nat → Nat × Nat × List y_E × List Nat × Nat
  | 0, a, st, told, raws => (0, a, st, told, raws)
  | n + 1, a, st, told, raws =>
    if z_act (y_top st) (tk a) = 0 then (1, a, st, told, raws)
    else if z_act (y_top st) (tk a) = 1000 then (2, a, st, told, raws)
    else if 0 < z_act (y_top st) (tk a) then y_run tk zz n (a + 1) (y_tk zz (z_act (y_top st) (tk a)).toNat (tk a) a :: st) told raws
    else y_run tk zz n a (y_new (- z_act (y_top st) (tk a)).toNat raws (st.take (y_rh (- z_act (y_top st) (tk a)).toNat).length) (z_act (y_top (st.drop (y_rh (- z_act (y_top st) (tk a)).toNat).length)) (y_le (- z_act (y_top st) (tk a)).toNat)).toNat :: st.drop (y_rh (- z_act (y_top st) (tk a)).toNat).length) ((- z_act (y_top st) (tk a)).toNat :: told) (raws + y_mk (- z_act (y_top st) (tk a)).toNat)
def y_inv (tk zz : Nat → Nat) (a : Nat) (st : List y_E) (told : List Nat) (raws : Nat) : Prop := y_pth st ∧ (∀ e, e ∈ st → y_ok tk a e) ∧ (∀ e, e ∈ st → y_okp e) ∧ (y_bks st).Pairwise (· < ·) ∧ (∀ b, b ∈ y_bks st → b < a) ∧ (y_ids st).Nodup ∧ (∀ i, i ∈ y_ids st → i < raws) ∧ y_sum 0 st = 4 * (z_sum zz a : Int) - told.length ∧ y_sum 1 st = 2 * (a : Int) - st.length ∧ y_sum 2 st = (a : Int) - z_fsz (y_cat st) ∧ y_sum 3 st = 2 * (a : Int) - raws ∧ y_sum 4 st = 2 * (z_sum zz a : Int) - z_fow (y_cat st)
def y_toks (tk zz : Nat → Nat) (c : Nat) : Prop := tk c = 0 ∧ c ≤ 4000 ∧ z_sum zz c ≤ 4000 ∧ ∀ j, j < c → 1 ≤ tk j ∧ tk j ≤ 24 ∧ 1 ≤ zz j ∧ (tk j = 9 ∨ tk j = 10 → zz j = 2)
theorem y_ck9_all : ((List.range 63).all fun s => (decide (z_act s 0 ≤ 0) || decide (z_act s 0 = 1000)) && (decide (z_act 0 0 < 0) && (decide (0 ≤ y_LB 2 s) && decide (0 ≤ y_LB 4 s)))) = true := by decide +kernel
theorem y_cow : ((List.range 32).all fun r => decide (r = 0) || (decide (y_co 0 r = -1) && decide (y_co 1 r = (y_rh r).length - 1) && decide (y_co 3 r = - (y_mk r : Int)))) = true := by decide +kernel
theorem y_lbt : ((List.range 25).all fun k => decide (y_lb 0 k ≤ 4 * (if k = 9 ∨ k = 10 then 2 else 1)) && decide (y_lb 1 k ≤ 1) && decide (y_lb 2 k ≤ 1) && decide (y_lb 3 k ≤ 2) && decide (y_lb 4 k ≤ 2 * (if k = 9 ∨ k = 10 then 2 else 1))) = true := by decide +kernel
theorem y_loL : ((List.range 32).all fun r => decide ((y_rh r).length = z_loL.getD r 0)) = true := by decide +kernel
theorem y_ok_wk {tk : Nat → Nat} {c c' : Nat} {e : y_E} (h : y_ok tk c e) (hc : c ≤ c') : y_ok tk c' e := by
  obtain ⟨h1, h2, h3, h4⟩ := h
  exact ⟨fun g => ⟨(h1 g).1, (h1 g).2.1, Nat.lt_of_lt_of_le (h1 g).2.2.1 hc, (h1 g).2.2.2⟩, h2, h3, z_fty_wk hc h4⟩
theorem z_sum_le {f : Nat → Nat} : ∀ {a b : Nat}, a ≤ b → z_sum f a ≤ z_sum f b := by
  intro a b h
  induction b with
  | zero => have : a = 0 := by omega
            subst this; exact Nat.le_refl _
  | succ b ih =>
    by_cases e : a = b + 1
    · subst e; exact Nat.le_refl _
    · have := ih (by omega)
      simp only [z_sum]
      omega
theorem y_bounds {tk zz : Nat → Nat} {a c : Nat} {st : List y_E} {told : List Nat} {raws : Nat} (h : y_inv tk zz a st told raws) (ht : y_toks tk zz c) (ha : a ≤ c) : told.length ≤ 16001 ∧ st.length ≤ 2 * a + 1 ∧ z_fsz (y_cat st) ≤ a ∧ raws ≤ 2 * a + 1 ∧ z_fow (y_cat st) ≤ 8000 := by
  obtain ⟨i1, i2, i3, i4, i5, i6, i7, i8, i9, i10, i11, i12⟩ := h
  have g0 := y_sum_ge (i := 0) (by decide) i1 i3
  have g1 := y_sum_ge (i := 1) (by decide) i1 i3
  have g3 := y_sum_ge (i := 3) (by decide) i1 i3
  have c9 := List.all_eq_true.mp y_ck9_all (y_top st) (List.mem_range.mpr (y_top_lt i1))
  simp only [Bool.and_eq_true, decide_eq_true_eq] at c9
  have g2 := y_LBs (i := 2) (by decide) st i1 i3
  have g4 := y_LBs (i := 4) (by decide) st i1 i3
  have hz := z_sum_le (f := zz) ha
  have := ht.2.2.1
  omega
theorem y_shift {tk zz : Nat → Nat} {a c : Nat} {st : List y_E} {told : List Nat} {raws : Nat} (h : y_inv tk zz a st told raws) (ht : y_toks tk zz c) (ha : a ≤ c) (h1 : 0 < z_act (y_top st) (tk a)) (h2 : z_act (y_top st) (tk a) ≠ 1000) : a < c ∧ z_act (y_top st) (tk a) < 63 ∧ y_inv tk zz (a + 1) (y_tk zz (z_act (y_top st) (tk a)).toNat (tk a) a :: st) told raws := by
  have hb := y_bounds h ht ha
  obtain ⟨i1, i2, i3, i4, i5, i6, i7, i8, i9, i10, i11, i12⟩ := h
  have htop := y_top_lt i1
  have hac : a < c := by
    rcases Nat.lt_or_ge a c with g | g
    · exact g
    · have : a = c := by omega
      subst this
      rw [ht.1] at h1 h2
      have c9 := List.all_eq_true.mp y_ck9_all (y_top st) (List.mem_range.mpr htop)
      simp only [Bool.and_eq_true, Bool.or_eq_true, decide_eq_true_eq] at c9
      omega
  obtain ⟨k1, k2, k3, k4⟩ := ht.2.2.2 a hac
  have c1 := y_al2 y_ck1_all htop (show tk a < 36 by omega)
  simp only [y_ck1, Bool.and_eq_true, Bool.or_eq_true, decide_eq_true_eq] at c1
  have h63 : z_act (y_top st) (tk a) < 63 := by omega
  have hl := List.all_eq_true.mp y_lbt (tk a) (List.mem_range.mpr (show tk a < 25 by omega))
  simp only [Bool.and_eq_true, decide_eq_true_eq] at hl
  have hn : ((z_act (y_top st) (tk a)).toNat : Int) = z_act (y_top st) (tk a) := Int.toNat_of_nonneg (by omega)
  refine ⟨hac, h63, ⟨?_, ?_, ?_, ?_, i1⟩, fun e he => ?_, fun e he => ?_, ?_, fun b hb => ?_, ?_, fun i hi => ?_, ?_, ?_, ?_, ?_, ?_⟩
  · show 0 < (z_act (y_top st) (tk a)).toNat
    omega
  · show (z_act (y_top st) (tk a)).toNat < 63
    omega
  · show tk a < 36
    omega
  · show z_act (y_top st) (tk a) = ((z_act (y_top st) (tk a)).toNat : Int)
    exact hn.symm
  · rcases List.mem_cons.mp he with g | g
    · subst g
      refine ⟨fun _ => ⟨rfl, rfl, Nat.lt_succ_self _, rfl⟩, fun g => ?_, fun g => ?_, trivial⟩
      · have : tk a = 26 := g
        omega
      · have : 27 ≤ tk a := g
        omega
    · exact y_ok_wk (i2 e g) (by omega)
  · rcases List.mem_cons.mp he with g | g
    · subst g
      intro i hi
      show y_lb i (tk a) ≤ y_gain zz a i
      have hi5 : i = 0 ∨ i = 1 ∨ i = 2 ∨ i = 3 ∨ i = 4 := by omega
      by_cases h9 : tk a = 9 ∨ tk a = 10
      · have hz := k4 h9
        rw [if_pos h9] at hl
        rcases hi5 with e | e | e | e | e <;> subst e <;> simp only [y_gain] <;> simp <;> omega
      · rw [if_neg h9] at hl
        rcases hi5 with e | e | e | e | e <;> subst e <;> simp only [y_gain] <;> simp <;> omega
    · exact i3 e g
  · have hx : tk a < 25 := by omega
    simp only [y_bks, y_tk, y_x, hx, if_true]
    refine List.pairwise_append.mpr ⟨i4, List.pairwise_singleton _ _, fun b hb b' hb' => ?_⟩
    rw [List.mem_singleton.mp hb']
    exact i5 b hb
  · have hx : tk a < 25 := by omega
    simp only [y_bks, y_tk, y_x, hx, if_true] at hb
    rcases List.mem_append.mp hb with g | g
    · have := i5 b g
      omega
    · have : b = a := List.mem_singleton.mp g
      omega
  · have hx : tk a ≠ 26 := by omega
    simp only [y_ids, y_ide, y_tk, y_x, y_f, hx, if_false, z_fid, List.append_nil]
    exact i6
  · have hx : tk a ≠ 26 := by omega
    simp only [y_ids, y_ide, y_tk, y_x, y_f, hx, if_false, z_fid, List.append_nil] at hi
    exact i7 i hi
  · simp only [y_sum, y_tk, y_p, y_gain, z_sum]
    simp
    omega
  · simp only [y_sum, y_tk, y_p, y_gain, List.length_cons]
    simp
    omega
  · simp only [y_sum, y_tk, y_p, y_gain, y_cat, y_f, z_fap_nil]
    simp
    omega
  · simp only [y_sum, y_tk, y_p, y_gain]
    simp
    omega
  · simp only [y_sum, y_tk, y_p, y_gain, y_cat, y_f, z_fap_nil, z_sum]
    simp
    omega
theorem y_reduce {tk zz : Nat → Nat} {a c : Nat} {st : List y_E} {told : List Nat} {raws : Nat} (h : y_inv tk zz a st told raws) (ht : y_toks tk zz c) (ha : a ≤ c) {r : Nat} (hr : z_act (y_top st) (tk a) = -(r : Int)) (h1 : 1 ≤ r) : r < 32 ∧ ∃ q t, st = q ++ t ∧ q.map y_x = y_rh r ∧ q.length = (y_rh r).length ∧ 0 < z_act (y_top t) (y_le r) ∧ z_act (y_top t) (y_le r) < 63 ∧ y_top t < 63 ∧ (∀ e, e ∈ q → y_ok tk a e) ∧ y_good tk a r raws q (y_new r raws q (z_act (y_top t) (y_le r)).toNat) ∧ y_inv tk zz a (y_new r raws q (z_act (y_top t) (y_le r)).toNat :: t) (r :: told) (raws + y_mk r) := by
  obtain ⟨i1, i2, i3, i4, i5, i6, i7, i8, i9, i10, i11, i12⟩ := h
  have htop := y_top_lt i1
  have hk : tk a < 25 := by
    rcases Nat.lt_or_ge a c with g | g
    · have := ht.2.2.2 a g
      omega
    · have : a = c := by omega
      subst this
      rw [ht.1]
      decide
  have c1 := y_al2 y_ck1_all htop (show tk a < 36 by omega)
  simp only [y_ck1, Bool.and_eq_true, Bool.or_eq_true, decide_eq_true_eq] at c1
  have h32 : r < 32 := by omega
  have c5 := y_al2 y_ck5_all htop hk
  unfold y_ck5 at c5
  have hneg : decide (z_act (y_top st) (tk a) < 0) = true := by rw [decide_eq_true_eq]; omega
  rw [if_pos hneg, show (- z_act (y_top st) (tk a)).toNat = r by omega] at c5
  obtain ⟨q, t, b1, b2, b3, b4, b5, b6⟩ := y_bk_spec (y_rh r) (y_top st) (y_le r) st c5 i1 rfl htop
  subst b1
  have hokq : ∀ e, e ∈ q → y_ok tk a e := fun e he => i2 e (List.mem_append.mpr (Or.inl he))
  have hgood := y_new_good (raws := raws) (s := (z_act (y_top t) (y_le r)).toNat) h1 h32 b2 hokq
  refine ⟨h32, q, t, rfl, b2, b3, b4, b5, b6, hokq, hgood, ?_⟩
  obtain ⟨g1, g2, g3, g4, g5⟩ := hgood
  have hle : y_le r < 36 ∧ 26 ≤ y_le r := by
    have : ∀ r, r < 32 → 1 ≤ r → y_le r < 36 ∧ 26 ≤ y_le r := by decide +kernel
    exact this r h32 h1
  have hco := List.all_eq_true.mp y_cow r (List.mem_range.mpr h32)
  simp only [Bool.or_eq_true, Bool.and_eq_true, decide_eq_true_eq] at hco
  obtain ⟨⟨co0, co1⟩, co3⟩ := hco.resolve_left (by omega)
  have hn : ((z_act (y_top t) (y_le r)).toNat : Int) = z_act (y_top t) (y_le r) := Int.toNat_of_nonneg (by omega)
  have hxn : y_x (y_new r raws q (z_act (y_top t) (y_le r)).toNat) = y_le r := rfl
  have hbn : y_bks (y_new r raws q (z_act (y_top t) (y_le r)).toNat :: t) = y_bks t ++ z_fbk (y_f (y_new r raws q (z_act (y_top t) (y_le r)).toNat)) := by
    simp only [y_bks]
    rw [hxn, if_neg (by omega)]
  have hsub : (y_bks (y_new r raws q (z_act (y_top t) (y_le r)).toNat :: t)).Sublist (y_bks (q ++ t)) := by
    rw [hbn, y_bks_ap]
    exact List.Sublist.append (List.Sublist.refl _) g2
  have hsum : ∀ i, y_sum i (y_new r raws q (z_act (y_top t) (y_le r)).toNat :: t) = y_sum i (q ++ t) + y_co i r := fun i => by
    rw [y_sum_ap]
    show y_sum i t + (y_sum i q + y_co i r) = _
    omega
  have hcat : z_fsz (y_cat (q ++ t)) = z_fsz (y_cat t) + z_fsz (y_cat q) := by rw [y_cat_ap, z_fsz_ap]
  have hcat2 : z_fow (y_cat (q ++ t)) = z_fow (y_cat t) + z_fow (y_cat q) := by rw [y_cat_ap, z_fow_ap]
  refine ⟨⟨?_, ?_, ?_, ?_, y_pth_ap i1⟩, fun e he => ?_, fun e he => ?_, i4.sublist hsub, fun b hb => i5 b (hsub.subset hb), ?_, fun i hi => ?_, ?_, ?_, ?_, ?_, ?_⟩
  · show 0 < (z_act (y_top t) (y_le r)).toNat
    omega
  · show (z_act (y_top t) (y_le r)).toNat < 63
    omega
  · exact hle.1
  · show z_act (y_top t) (y_le r) = ((z_act (y_top t) (y_le r)).toNat : Int)
    exact hn.symm
  · rcases List.mem_cons.mp he with g | g
    · subst g; exact g1
    · exact i2 e (List.mem_append.mpr (Or.inr g))
  · rcases List.mem_cons.mp he with g | g
    · subst g
      exact y_new_okp h1 h32 b2 (fun e he => i3 e (List.mem_append.mpr (Or.inl he)))
    · exact i3 e (List.mem_append.mpr (Or.inr g))
  · rw [y_ids_ap] at i6 i7
    simp only [y_ids]
    rcases g3 with ⟨e1, e2⟩ | ⟨e1, e2⟩
    · rw [e1]; exact i6
    · rw [e1]
      have hnm : raws ∉ y_ids t ++ y_ids q := fun hm => Nat.lt_irrefl _ (i7 raws hm)
      have hp : (y_ids t ++ raws :: y_ids q).Perm (raws :: (y_ids t ++ y_ids q)) := List.perm_middle
      exact hp.nodup_iff.mpr (List.nodup_cons.mpr ⟨hnm, i6⟩)
  · rw [y_ids_ap] at i7
    simp only [y_ids] at hi
    rcases g3 with ⟨e1, e2⟩ | ⟨e1, e2⟩
    · rw [e1] at hi
      have := i7 i hi
      omega
    · rw [e1] at hi
      rcases List.mem_append.mp hi with g | g
      · have := i7 i (List.mem_append.mpr (Or.inl g))
        omega
      · rcases List.mem_cons.mp g with g | g
        · omega
        · have := i7 i (List.mem_append.mpr (Or.inr g))
          omega
  · rw [hsum, i8, co0, List.length_cons]
    omega
  · rw [hsum, i9, co1, List.length_cons, List.length_append, ← b3]
    omega
  · rw [hsum, i10, hcat]
    simp only [y_cat, z_fsz_ap]
    omega
  · rw [hsum, i11, co3]
    omega
  · rw [hsum, i12, hcat2]
    simp only [y_cat, z_fow_ap]
    omega
theorem y_accept {tk zz : Nat → Nat} {a c : Nat} {st : List y_E} {told : List Nat} {raws : Nat} (h : y_inv tk zz a st told raws) (ht : y_toks tk zz c) (ha : a ≤ c) (h1 : z_act (y_top st) (tk a) = 1000) : tk a = 0 ∧ ∃ e, st = [e] ∧ y_x e = 26 := by
  obtain ⟨i1, i2, i3, i4, i5, i6, i7, i8, i9, i10, i11, i12⟩ := h
  have htop := y_top_lt i1
  have hk : tk a < 25 := by
    rcases Nat.lt_or_ge a c with g | g
    · have := ht.2.2.2 a g
      omega
    · have : a = c := by omega
      subst this
      rw [ht.1]
      decide
  have c1 := y_al2 y_ck1_all htop (show tk a < 36 by omega)
  simp only [y_ck1, Bool.and_eq_true, Bool.or_eq_true, decide_eq_true_eq] at c1
  have hk0 : tk a = 0 := by omega
  refine ⟨hk0, ?_⟩
  have c5 := y_al2 y_ck5_all htop hk
  unfold y_ck5 at c5
  have hneg : ¬ decide (z_act (y_top st) (tk a) < 0) = true := by rw [decide_eq_true_eq]; omega
  have h1000 : decide (z_act (y_top st) (tk a) = 1000) = true := by rw [decide_eq_true_eq]; exact h1
  rw [if_neg hneg, if_pos h1000] at c5
  cases st with
  | nil =>
    have c9 := List.all_eq_true.mp y_ck9_all 0 (List.mem_range.mpr (by decide))
    simp only [Bool.and_eq_true, decide_eq_true_eq] at c9
    rw [hk0] at h1
    have h1' : z_act 0 0 = 1000 := h1
    omega
  | cons e t =>
    obtain ⟨p1, p2, p3, p4, p5⟩ := i1
    have hm : (y_top t, y_x e) ∈ y_pr (y_s e) := by
      have c4 := y_al2 y_ck4_all (y_top_lt p5) p3
      unfold y_ck4 at c4
      rw [p4] at c4
      have h1 : decide ((0 : Int) < (y_s e : Int)) = true := by rw [decide_eq_true_eq]; omega
      have h2 : decide ((y_s e : Int) < 63) = true := by rw [decide_eq_true_eq]; omega
      rw [h1, h2] at c4
      simp only [Bool.and_true, Bool.not_true, Bool.false_or, Int.toNat_natCast] at c4
      obtain ⟨q, hq1, hq2⟩ := List.any_eq_true.mp c4
      simp only [Bool.and_eq_true, decide_eq_true_eq] at hq2
      have : q = (y_top t, y_x e) := Prod.ext hq2.1 hq2.2
      rw [← this]
      exact hq1
    have := List.all_eq_true.mp c5 _ hm
    simp only [Bool.and_eq_true, decide_eq_true_eq] at this
    cases t with
    | nil => exact ⟨e, rfl, this.2⟩
    | cons e2 t2 =>
      have h2 : y_s e2 = 0 := this.1
      have := p5.1
      omega
