/-! the parsers' stack: every reduction -/
theorem y_leaf {tk : Nat → Nat} {c : Nat} {e : y_E} (h : y_ok tk c e) {x : Nat} (hx : y_x e = x) (h25 : x < 25) : y_f e = .leaf ∧ y_n e < c ∧ tk (y_n e) = x ∧ y_ide e = [] := by
  obtain ⟨q1, q2, q3, q4⟩ := h.1 (by omega)
  refine ⟨q1, q3, by rw [q4, hx], ?_⟩
  have : y_x e ≠ 26 := by omega
  simp only [y_ide, this, if_false, q1, z_fid, List.append_nil]
theorem y_exp {tk : Nat → Nat} {c : Nat} {e : y_E} (h : y_ok tk c e) {x : Nat} (hx : y_x e = x) (h29 : 29 ≤ x) : ∃ k, z_fks (y_f e) = [k] ∧ 7 ≤ k ∧ k ≤ 19 := by
  obtain ⟨s, a, v, l, e1, e2, e3, e4, e5⟩ := h.2.2.1 (by omega)
  rw [e1]
  exact ⟨a.1, rfl, e5 (by omega)⟩
theorem y_blk {tk : Nat → Nat} {c : Nat} {e : y_E} (h : y_ok tk c e) (hx : y_x e = 28) : z_fks (y_f e) = [0] := by
  obtain ⟨s, a, v, l, e1, e2, e3, e4, e5⟩ := h.2.2.1 (by omega)
  rw [e1]
  show [a.1] = [0]
  rw [e4 hx]
theorem y_ide_n {e : y_E} {x : Nat} (hx : y_x e = x) (h26 : x ≠ 26) : y_ide e = z_fid (y_f e) := by
  have : y_x e ≠ 26 := by omega
  simp only [y_ide, this, if_false, List.nil_append]
theorem y_m0 {q : List y_E} (h : q.map y_x = []) : q = [] := List.map_eq_nil_iff.mp h
theorem y_mc {q : List y_E} {x : Nat} {l : List Nat} (h : q.map y_x = x :: l) : ∃ e q', q = e :: q' ∧ y_x e = x ∧ q'.map y_x = l := by
  cases q with
  | nil => cases h
  | cons e q => simp only [List.map_cons, List.cons.injEq] at h; exact ⟨e, q, rfl, h.1, h.2⟩
theorem y_k2 : ∀ r, r < 32 → y_ta r = 1 → y_rh r = [(y_rh r).getD 0 0, (y_rh r).getD 1 0, (y_rh r).getD 2 0] ∧ 29 ≤ (y_rh r).getD 0 0 ∧ (y_rh r).getD 1 0 < 25 ∧ 29 ≤ (y_rh r).getD 2 0 ∧ 7 ≤ y_no r ∧ y_no r ≤ 15 ∧ 29 ≤ y_le r ∧ y_co 2 r = -1 ∧ (z_ow (y_no r).toNat 2 : Int) = - y_co 4 r := by decide +kernel
theorem y_g2 {tk : Nat → Nat} {c r raws s : Nat} {q : List y_E} (hr : r < 32) (hta : y_ta r = 1) (hq : q.map y_x = y_rh r) (hok : ∀ e, e ∈ q → y_ok tk c e) : y_good tk c r raws q (y_new r raws q s) := by
  obtain ⟨a1, a2, a3, a4, a5, a6, a7, a8, a9⟩ := y_k2 r hr hta
  have h3 : r ≠ 2 ∧ r ≠ 11 ∧ r ≠ 1 := by
    unfold y_ta at hta
    split at hta
    · omega
    · cases hta
  rw [a1] at hq
  obtain ⟨e1, q, rfl, x1, hq⟩ := y_mc hq
  obtain ⟨e2, q, rfl, x2, hq⟩ := y_mc hq
  obtain ⟨e3, q, rfl, x3, hq⟩ := y_mc hq
  have := y_m0 hq
  subst this
  have o1 := hok e1 (by simp)
  have o2 := hok e2 (by simp)
  have o3 := hok e3 (by simp)
  obtain ⟨f2, n2, t2, i2⟩ := y_leaf o2 x2 a3
  obtain ⟨k1, g1, g1a, g1b⟩ := y_exp o1 x1 a2
  obtain ⟨k3, g3, g3a, g3b⟩ := y_exp o3 x3 a4
  have hcat : y_cat [e1, e2, e3] = z_fap (y_f e3) (y_f e1) := by simp only [y_cat, f2, z_fap, z_fap_nil]
  have htok : y_tok r [e1, e2, e3] = y_n e2 := by
    unfold y_tok
    rw [hta]
    rfl
  refine y_good_nd (by omega) h3.1 h3.2.1 h3.2.2 (Or.inr (by omega)) ?_ (fun g => by omega) (by rw [htok]; exact n2) (by rw [hcat]; exact z_fty_ap o3.2.2.2 o1.2.2.2) ?_ ?_ a8 ?_
  · rw [hcat, z_fks_ap, g1, g3]
    exact Or.inr (Or.inr (Or.inr (Or.inr (Or.inr (Or.inl ⟨by omega, k3, k1, rfl, g3a, g3b, g1a, g1b⟩)))))
  · rw [if_neg (by omega), List.nil_append]
    exact y_fbk_cat _ hok
  · simp only [y_ids, i2, y_ide_n x1 (by omega), y_ide_n x3 (by omega), hcat, z_fid_ap, List.nil_append, List.append_nil]
  · have : z_fln (y_cat [e1, e2, e3]) = 2 := by rw [← z_fln_ks, hcat, z_fks_ap, g1, g3]; rfl
    rw [this]
    exact a9
theorem y_ku : ∀ r, r < 32 → (r = 10 ∨ r = 13 ∨ r = 15 ∨ r = 18 ∨ r = 21 ∨ r = 25 ∨ r = 28) → y_rh r = [(y_rh r).getD 0 0] ∧ ((r = 10 ∧ (y_rh r).getD 0 0 = 28 ∧ y_le r = 27) ∨ (29 ≤ (y_rh r).getD 0 0 ∧ 29 ≤ y_le r)) ∧ y_no r = -1 ∧ y_co 2 r = 0 ∧ y_co 4 r = 0 := by decide +kernel
theorem y_gu {tk : Nat → Nat} {c r raws s : Nat} {q : List y_E} (hr : r < 32) (hu : r = 10 ∨ r = 13 ∨ r = 15 ∨ r = 18 ∨ r = 21 ∨ r = 25 ∨ r = 28) (hq : q.map y_x = y_rh r) (hok : ∀ e, e ∈ q → y_ok tk c e) : y_good tk c r raws q (y_new r raws q s) := by
  obtain ⟨a1, a2, a3, a4, a5⟩ := y_ku r hr hu
  rw [a1] at hq
  obtain ⟨e1, q, rfl, x1, hq⟩ := y_mc hq
  have := y_m0 hq
  subst this
  have o1 := hok e1 (by simp)
  have e0 : y_new r raws [e1] s = (s, y_le r, 0, y_t e1, y_f e1, fun i => y_sum i [e1] + y_co i r) := by
    unfold y_new
    rw [a3, if_neg (by omega), if_neg (by decide), if_neg (by omega), if_neg (by omega), if_neg (by decide)]
    rfl
  have hcat : y_cat [e1] = y_f e1 := by simp only [y_cat, z_fap]
  obtain ⟨s', a, v, l, b1, b2, b3, b4, b5⟩ := o1.2.2.1 (by omega)
  rw [e0]
  refine ⟨⟨fun g => ?_, fun g => ?_, fun g => ⟨s', a, v, l, b1, b2, fun g => ?_, fun g => ?_, fun g => ?_⟩, o1.2.2.2⟩, ?_, Or.inl ⟨?_, ?_⟩, ?_, ?_⟩
  · have : y_le r < 25 := g
    omega
  · have : y_le r = 26 := g
    omega
  · have : y_le r = 27 := g
    rcases a2 with a2 | a2
    · have := b4 (by omega)
      omega
    · omega
  · have : y_le r = 28 := g
    omega
  · have : 29 ≤ y_le r := g
    exact b5 (by omega)
  · show (z_fbk (y_f e1)).Sublist _
    have : ¬ y_x e1 < 25 := by omega
    simp only [y_bks, this, if_false, List.nil_append]
    exact List.Sublist.refl _
  · have h1 : y_le r ≠ 26 := by omega
    simp only [y_ids, List.nil_append]
    rw [y_ide_n rfl (show y_x e1 ≠ 26 by omega)]
    simp only [y_ide, y_x, y_f, y_t, h1, if_false, List.nil_append]
  · unfold y_mk
    rw [if_neg (by omega)]
  · show (z_fsz (y_f e1) : Int) = _
    rw [hcat, a4]
    omega
  · show (z_fow (y_f e1) : Int) = _
    rw [hcat, a5]
    omega
theorem y_g31 {tk : Nat → Nat} {c raws s : Nat} {q : List y_E} (hq : q.map y_x = y_rh 31) (hok : ∀ e, e ∈ q → y_ok tk c e) : y_good tk c 31 raws q (y_new 31 raws q s) := by
  have a1 : y_rh 31 = [22, 29, 21] := by decide +kernel
  rw [a1] at hq
  obtain ⟨e1, q, rfl, x1, hq⟩ := y_mc hq
  obtain ⟨e2, q, rfl, x2, hq⟩ := y_mc hq
  obtain ⟨e3, q, rfl, x3, hq⟩ := y_mc hq
  have := y_m0 hq
  subst this
  have o1 := hok e1 (by simp)
  have o2 := hok e2 (by simp)
  have o3 := hok e3 (by simp)
  obtain ⟨f1, n1, t1, i1⟩ := y_leaf o1 x1 (by decide)
  obtain ⟨f3, n3, t3, i3⟩ := y_leaf o3 x3 (by decide)
  have hcat : y_cat [e1, e2, e3] = y_f e2 := by simp only [y_cat, f1, f3, z_fap, z_fap_nil]
  have e0 : y_new 31 raws [e1, e2, e3] s = (s, 35, 0, y_t e2, y_f e2, fun i => y_sum i [e1, e2, e3] + y_co i 31) := by
    unfold y_new
    rw [hcat]
    rfl
  obtain ⟨s', a, v, l, b1, b2, b3, b4, b5⟩ := o2.2.2.1 (by omega)
  rw [e0]
  refine ⟨⟨fun g => absurd g (show ¬ 35 < 25 by decide), fun g => absurd g (show ¬ 35 = 26 by decide), fun g => ⟨s', a, v, l, b1, b2, fun g => absurd g (show ¬ 35 = 27 by decide), fun g => absurd g (show ¬ 35 = 28 by decide), fun g => b5 (by omega)⟩, o2.2.2.2⟩, ?_, Or.inl ⟨?_, by decide +kernel⟩, ?_, ?_⟩
  · show (z_fbk (y_f e2)).Sublist _
    rw [← hcat]
    exact y_fbk_cat _ hok
  · simp only [y_ids, i1, i3, y_ide_n x2 (by decide), List.nil_append, List.append_nil]
    rfl
  · show (z_fsz (y_f e2) : Int) = _
    rw [hcat, show y_co 2 31 = 0 by decide +kernel]
    omega
  · show (z_fow (y_f e2) : Int) = _
    rw [hcat, show y_co 4 31 = 0 by decide +kernel]
    omega
theorem y_g1 {tk : Nat → Nat} {c raws s : Nat} {q : List y_E} (hq : q.map y_x = y_rh 1) : y_good tk c 1 raws q (y_new 1 raws q s) := by
  have a1 : y_rh 1 = [] := by decide +kernel
  rw [a1] at hq
  have := y_m0 hq
  subst this
  have e0 : y_new 1 raws [] s = (s, 26, 0, raws, .leaf, fun i => y_sum i [] + y_co i 1) := rfl
  rw [e0]
  refine ⟨⟨fun g => absurd g (show ¬ 26 < 25 by decide), fun g => ⟨rfl, fun k hk => by cases hk⟩, fun g => absurd g (show ¬ 27 ≤ 26 by decide), trivial⟩, List.nil_sublist _, Or.inr ⟨rfl, by decide +kernel⟩, ?_, ?_⟩
  · rw [show y_co 2 1 = 0 by decide +kernel]; rfl
  · rw [show y_co 4 1 = 0 by decide +kernel]; rfl
theorem y_g2m {tk : Nat → Nat} {c raws s : Nat} {q : List y_E} (hq : q.map y_x = y_rh 2) (hok : ∀ e, e ∈ q → y_ok tk c e) : y_good tk c 2 raws q (y_new 2 raws q s) := by
  have a1 : y_rh 2 = [27, 26] := by decide +kernel
  rw [a1] at hq
  obtain ⟨e1, q, rfl, x1, hq⟩ := y_mc hq
  obtain ⟨e2, q, rfl, x2, hq⟩ := y_mc hq
  have := y_m0 hq
  subst this
  have o1 := hok e1 (by simp)
  have o2 := hok e2 (by simp)
  obtain ⟨m1, m2⟩ := o2.2.1 x2
  obtain ⟨s', a, v, l, b1, b2, b3, b4, b5⟩ := o1.2.2.1 (by omega)
  have hcat : y_cat [e1, e2] = z_fap (y_f e2) (y_f e1) := by simp only [y_cat, z_fap]
  have e0 : y_new 2 raws [e1, e2] s = (s, 26, y_n e2 + 1, y_t e2, z_fap (y_f e2) (y_f e1), fun i => y_sum i [e1, e2] + y_co i 2) := by
    unfold y_new
    rw [hcat]
    rfl
  rw [e0]
  refine ⟨⟨fun g => absurd g (show ¬ 26 < 25 by decide), fun g => ⟨?_, fun k hk => ?_⟩, fun g => absurd g (show ¬ 27 ≤ 26 by decide), z_fty_ap o2.2.2.2 o1.2.2.2⟩, ?_, Or.inl ⟨?_, by decide +kernel⟩, ?_, ?_⟩
  · show y_n e2 + 1 = z_fln (z_fap (y_f e2) (y_f e1))
    rw [z_fln_ap, m1, b1]
    rfl
  · have hk' : k ∈ z_fks (z_fap (y_f e2) (y_f e1)) := hk
    rw [z_fks_ap] at hk'
    rcases List.mem_append.mp hk' with g | g
    · exact m2 k g
    · rw [b1] at g
      have : k = a.1 := List.mem_singleton.mp g
      rw [this]
      exact b3 (by omega)
  · show (z_fbk (z_fap (y_f e2) (y_f e1))).Sublist _
    rw [← hcat]
    exact y_fbk_cat _ hok
  · simp only [y_ids, y_ide_n x1 (by decide), List.nil_append]
    simp only [y_ide, y_x, y_f, y_t] at x2 ⊢
    simp only [x2, if_true, z_fid_ap, List.append_assoc]
  · show (z_fsz (z_fap (y_f e2) (y_f e1)) : Int) = _
    rw [hcat, show y_co 2 2 = 0 by decide +kernel]
    omega
  · show (z_fow (z_fap (y_f e2) (y_f e1)) : Int) = _
    rw [hcat, show y_co 4 2 = 0 by decide +kernel]
    omega
theorem y_g11 {tk : Nat → Nat} {c raws s : Nat} {q : List y_E} (hq : q.map y_x = y_rh 11) (hok : ∀ e, e ∈ q → y_ok tk c e) : y_good tk c 11 raws q (y_new 11 raws q s) := by
  have a1 : y_rh 11 = [24, 26, 23] := by decide +kernel
  rw [a1] at hq
  obtain ⟨e1, q, rfl, x1, hq⟩ := y_mc hq
  obtain ⟨e2, q, rfl, x2, hq⟩ := y_mc hq
  obtain ⟨e3, q, rfl, x3, hq⟩ := y_mc hq
  have := y_m0 hq
  subst this
  have o1 := hok e1 (by simp)
  have o2 := hok e2 (by simp)
  have o3 := hok e3 (by simp)
  obtain ⟨f1, n1, t1, i1⟩ := y_leaf o1 x1 (by decide)
  obtain ⟨f3, n3, t3, i3⟩ := y_leaf o3 x3 (by decide)
  obtain ⟨m1, m2⟩ := o2.2.1 x2
  have hcat : y_cat [e1, e2, e3] = y_f e2 := by simp only [y_cat, f1, f3, z_fap, z_fap_nil]
  have e0 : y_new 11 raws [e1, e2, e3] s = (s, 28, 0, y_t e2, .inner 0 (0, y_n e3, y_t e2) () (y_f e2) .leaf, fun i => y_sum i [e1, e2, e3] + y_co i 11) := by
    unfold y_new
    rw [hcat]
    rfl
  rw [e0]
  refine ⟨⟨fun g => absurd g (show ¬ 28 < 25 by decide), fun g => absurd g (show ¬ 28 = 26 by decide), fun g => ⟨0, (0, y_n e3, y_t e2), (), y_f e2, rfl, rfl, fun g => absurd g (show ¬ 28 = 27 by decide), fun _ => rfl, fun g => absurd g (show ¬ 29 ≤ 28 by decide)⟩, Or.inl ⟨rfl, m2⟩, fun g => absurd g (show ¬ ((0 : Nat) = 18 ∨ (0 : Nat) = 1) by decide), n3, o2.2.2.2, trivial⟩, ?_, Or.inl ⟨?_, by decide +kernel⟩, ?_, ?_⟩
  · simp only [y_f, z_fbk, List.append_nil]
    have := y_fbk_cat _ hok
    rw [hcat] at this
    exact this
  · simp only [y_ids, i1, i3, List.nil_append, List.append_nil]
    simp only [y_ide, y_x, y_f, y_t] at x2 ⊢
    simp [x2, z_fid]
  · simp only [y_f, z_fsz]
    rw [hcat, show y_co 2 11 = -1 by decide +kernel]
    simp only [y_f]
    omega
  · simp only [y_f, z_fow]
    rw [hcat, show y_co 4 11 = 0 by decide +kernel]
    simp [z_ow, y_f]
