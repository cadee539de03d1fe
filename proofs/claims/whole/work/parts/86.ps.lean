/-! the parsers' stack: the rest of the reductions; every one -/
theorem y_g3 {tk : Nat → Nat} {c raws s : Nat} {q : List y_E} (hq : q.map y_x = y_rh 3) (hok : ∀ e, e ∈ q → y_ok tk c e) : y_good tk c 3 raws q (y_new 3 raws q s) := by
  have a1 : y_rh 3 = [20, 29, 19, 1] := by decide +kernel
  have a2 : y_no 3 = 1 := by decide +kernel
  have a3 : y_le 3 = 27 := by decide +kernel
  rw [a1] at hq
  obtain ⟨e1, q, rfl, x1, hq⟩ := y_mc hq
  obtain ⟨e2, q, rfl, x2, hq⟩ := y_mc hq
  obtain ⟨e3, q, rfl, x3, hq⟩ := y_mc hq
  obtain ⟨e4, q, rfl, x4, hq⟩ := y_mc hq
  have := y_m0 hq
  subst this
  have o1 := hok e1 (by simp)
  have o2 := hok e2 (by simp)
  have o3 := hok e3 (by simp)
  have o4 := hok e4 (by simp)
  obtain ⟨f1, n1, t1, i1⟩ := y_leaf o1 x1 (by decide)
  obtain ⟨f3, n3, t3, i3⟩ := y_leaf o3 x3 (by decide)
  obtain ⟨f4, n4, t4, i4⟩ := y_leaf o4 x4 (by decide)
  obtain ⟨k2, g2, g2a, g2b⟩ := y_exp o2 x2 (by decide)
  have hcat : y_cat [e1, e2, e3, e4] = y_f e2 := by simp only [y_cat, f1, f3, f4, z_fap, z_fap_nil]
  have htok : y_tok 3 [e1, e2, e3, e4] = y_n e4 := rfl
  have hks : z_fks (y_cat [e1, e2, e3, e4]) = [k2] := by
    rw [hcat, g2]
  refine y_good_nd (by rw [a2]; decide) (by decide) (by decide) (by decide) (by rw [a2, a3]; decide) ?_ (fun g => ?_) (by rw [htok]; exact n4) ?_ ?_ ?_ (by decide +kernel) ?_
  · rw [hks, a2]
    exact Or.inr (Or.inl ⟨by decide, k2, rfl, g2a, g2b⟩)
  · rw [htok]; exact t4
  · rw [hcat]; exact o2.2.2.2
  · rw [if_neg (by rw [a2]; decide), List.nil_append]
    exact y_fbk_cat _ hok
  · simp only [y_ids, i1, y_ide_n x2 (by decide), i3, i4, hcat, z_fid_ap, z_fid, List.nil_append, List.append_nil]
  · rw [← z_fln_ks, hks, a2, show y_co 4 3 = -1 by decide +kernel]
    rfl
theorem y_g4 {tk : Nat → Nat} {c raws s : Nat} {q : List y_E} (hq : q.map y_x = y_rh 4) (hok : ∀ e, e ∈ q → y_ok tk c e) : y_good tk c 4 raws q (y_new 4 raws q s) := by
  have a1 : y_rh 4 = [20, 29, 3] := by decide +kernel
  have a2 : y_no 4 = 2 := by decide +kernel
  have a3 : y_le 4 = 27 := by decide +kernel
  rw [a1] at hq
  obtain ⟨e1, q, rfl, x1, hq⟩ := y_mc hq
  obtain ⟨e2, q, rfl, x2, hq⟩ := y_mc hq
  obtain ⟨e3, q, rfl, x3, hq⟩ := y_mc hq
  have := y_m0 hq
  subst this
  have o1 := hok e1 (by simp)
  have o2 := hok e2 (by simp)
  have o3 := hok e3 (by simp)
  obtain ⟨f1, n1, t1, i1⟩ := y_leaf o1 x1 (by decide)
  obtain ⟨f3, n3, t3, i3⟩ := y_leaf o3 x3 (by decide)
  obtain ⟨k2, g2, g2a, g2b⟩ := y_exp o2 x2 (by decide)
  have hcat : y_cat [e1, e2, e3] = y_f e2 := by simp only [y_cat, f1, f3, z_fap, z_fap_nil]
  have htok : y_tok 4 [e1, e2, e3] = y_n e3 := rfl
  have hks : z_fks (y_cat [e1, e2, e3]) = [k2] := by
    rw [hcat, g2]
  refine y_good_nd (by rw [a2]; decide) (by decide) (by decide) (by decide) (by rw [a2, a3]; decide) ?_ (fun g => ?_) (by rw [htok]; exact n3) ?_ ?_ ?_ (by decide +kernel) ?_
  · rw [hks, a2]
    exact Or.inr (Or.inl ⟨by decide, k2, rfl, g2a, g2b⟩)
  · rw [a2] at g; exact absurd g (by decide)
  · rw [hcat]; exact o2.2.2.2
  · rw [if_neg (by rw [a2]; decide), List.nil_append]
    exact y_fbk_cat _ hok
  · simp only [y_ids, i1, y_ide_n x2 (by decide), i3, hcat, z_fid_ap, z_fid, List.nil_append, List.append_nil]
  · rw [← z_fln_ks, hks, a2, show y_co 4 4 = -1 by decide +kernel]
    rfl
theorem y_g5 {tk : Nat → Nat} {c raws s : Nat} {q : List y_E} (hq : q.map y_x = y_rh 5) (hok : ∀ e, e ∈ q → y_ok tk c e) : y_good tk c 5 raws q (y_new 5 raws q s) := by
  have a1 : y_rh 5 = [28, 22, 29, 21, 4] := by decide +kernel
  have a2 : y_no 5 = 3 := by decide +kernel
  have a3 : y_le 5 = 27 := by decide +kernel
  rw [a1] at hq
  obtain ⟨e1, q, rfl, x1, hq⟩ := y_mc hq
  obtain ⟨e2, q, rfl, x2, hq⟩ := y_mc hq
  obtain ⟨e3, q, rfl, x3, hq⟩ := y_mc hq
  obtain ⟨e4, q, rfl, x4, hq⟩ := y_mc hq
  obtain ⟨e5, q, rfl, x5, hq⟩ := y_mc hq
  have := y_m0 hq
  subst this
  have o1 := hok e1 (by simp)
  have o2 := hok e2 (by simp)
  have o3 := hok e3 (by simp)
  have o4 := hok e4 (by simp)
  have o5 := hok e5 (by simp)
  obtain ⟨f2, n2, t2, i2⟩ := y_leaf o2 x2 (by decide)
  obtain ⟨f4, n4, t4, i4⟩ := y_leaf o4 x4 (by decide)
  obtain ⟨f5, n5, t5, i5⟩ := y_leaf o5 x5 (by decide)
  obtain ⟨k3, g3, g3a, g3b⟩ := y_exp o3 x3 (by decide)
  have g1 := y_blk o1 x1
  have hcat : y_cat [e1, e2, e3, e4, e5] = z_fap (y_f e3) (y_f e1) := by simp only [y_cat, f2, f4, f5, z_fap, z_fap_nil]
  have htok : y_tok 5 [e1, e2, e3, e4, e5] = y_n e5 := rfl
  have hks : z_fks (y_cat [e1, e2, e3, e4, e5]) = [k3, 0] := by
    rw [hcat, z_fks_ap, g3, g1]
    rfl
  refine y_good_nd (by rw [a2]; decide) (by decide) (by decide) (by decide) (by rw [a2, a3]; decide) ?_ (fun g => ?_) (by rw [htok]; exact n5) ?_ ?_ ?_ (by decide +kernel) ?_
  · rw [hks, a2]
    exact Or.inr (Or.inr (Or.inl ⟨by decide, k3, Or.inl rfl, g3a, g3b⟩))
  · rw [a2] at g; exact absurd g (by decide)
  · rw [hcat]; exact z_fty_ap (o3.2.2.2) o1.2.2.2
  · rw [if_neg (by rw [a2]; decide), List.nil_append]
    exact y_fbk_cat _ hok
  · simp only [y_ids, y_ide_n x1 (by decide), i2, y_ide_n x3 (by decide), i4, i5, hcat, z_fid_ap, z_fid, List.nil_append, List.append_nil]
  · rw [← z_fln_ks, hks, a2, show y_co 4 5 = -1 by decide +kernel]
    rfl
theorem y_g7 {tk : Nat → Nat} {c raws s : Nat} {q : List y_E} (hq : q.map y_x = y_rh 7) (hok : ∀ e, e ∈ q → y_ok tk c e) : y_good tk c 7 raws q (y_new 7 raws q s) := by
  have a1 : y_rh 7 = [28, 22, 29, 21, 6] := by decide +kernel
  have a2 : y_no 7 = 4 := by decide +kernel
  have a3 : y_le 7 = 27 := by decide +kernel
  rw [a1] at hq
  obtain ⟨e1, q, rfl, x1, hq⟩ := y_mc hq
  obtain ⟨e2, q, rfl, x2, hq⟩ := y_mc hq
  obtain ⟨e3, q, rfl, x3, hq⟩ := y_mc hq
  obtain ⟨e4, q, rfl, x4, hq⟩ := y_mc hq
  obtain ⟨e5, q, rfl, x5, hq⟩ := y_mc hq
  have := y_m0 hq
  subst this
  have o1 := hok e1 (by simp)
  have o2 := hok e2 (by simp)
  have o3 := hok e3 (by simp)
  have o4 := hok e4 (by simp)
  have o5 := hok e5 (by simp)
  obtain ⟨f2, n2, t2, i2⟩ := y_leaf o2 x2 (by decide)
  obtain ⟨f4, n4, t4, i4⟩ := y_leaf o4 x4 (by decide)
  obtain ⟨f5, n5, t5, i5⟩ := y_leaf o5 x5 (by decide)
  obtain ⟨k3, g3, g3a, g3b⟩ := y_exp o3 x3 (by decide)
  have g1 := y_blk o1 x1
  have hcat : y_cat [e1, e2, e3, e4, e5] = z_fap (y_f e3) (y_f e1) := by simp only [y_cat, f2, f4, f5, z_fap, z_fap_nil]
  have htok : y_tok 7 [e1, e2, e3, e4, e5] = y_n e5 := rfl
  have hks : z_fks (y_cat [e1, e2, e3, e4, e5]) = [k3, 0] := by
    rw [hcat, z_fks_ap, g3, g1]
    rfl
  refine y_good_nd (by rw [a2]; decide) (by decide) (by decide) (by decide) (by rw [a2, a3]; decide) ?_ (fun g => ?_) (by rw [htok]; exact n5) ?_ ?_ ?_ (by decide +kernel) ?_
  · rw [hks, a2]
    exact Or.inr (Or.inr (Or.inr (Or.inl ⟨by decide, k3, rfl, g3a, g3b⟩)))
  · rw [a2] at g; exact absurd g (by decide)
  · rw [hcat]; exact z_fty_ap (o3.2.2.2) o1.2.2.2
  · rw [if_neg (by rw [a2]; decide), List.nil_append]
    exact y_fbk_cat _ hok
  · simp only [y_ids, y_ide_n x1 (by decide), i2, y_ide_n x3 (by decide), i4, i5, hcat, z_fid_ap, z_fid, List.nil_append, List.append_nil]
  · rw [← z_fln_ks, hks, a2, show y_co 4 7 = -2 by decide +kernel]
    rfl
theorem y_g6 {tk : Nat → Nat} {c raws s : Nat} {q : List y_E} (hq : q.map y_x = y_rh 6) (hok : ∀ e, e ∈ q → y_ok tk c e) : y_good tk c 6 raws q (y_new 6 raws q s) := by
  have a1 : y_rh 6 = [28, 5, 28, 22, 29, 21, 4] := by decide +kernel
  have a2 : y_no 6 = 3 := by decide +kernel
  have a3 : y_le 6 = 27 := by decide +kernel
  rw [a1] at hq
  obtain ⟨e1, q, rfl, x1, hq⟩ := y_mc hq
  obtain ⟨e2, q, rfl, x2, hq⟩ := y_mc hq
  obtain ⟨e3, q, rfl, x3, hq⟩ := y_mc hq
  obtain ⟨e4, q, rfl, x4, hq⟩ := y_mc hq
  obtain ⟨e5, q, rfl, x5, hq⟩ := y_mc hq
  obtain ⟨e6, q, rfl, x6, hq⟩ := y_mc hq
  obtain ⟨e7, q, rfl, x7, hq⟩ := y_mc hq
  have := y_m0 hq
  subst this
  have o1 := hok e1 (by simp)
  have o2 := hok e2 (by simp)
  have o3 := hok e3 (by simp)
  have o4 := hok e4 (by simp)
  have o5 := hok e5 (by simp)
  have o6 := hok e6 (by simp)
  have o7 := hok e7 (by simp)
  obtain ⟨f2, n2, t2, i2⟩ := y_leaf o2 x2 (by decide)
  obtain ⟨f4, n4, t4, i4⟩ := y_leaf o4 x4 (by decide)
  obtain ⟨f6, n6, t6, i6⟩ := y_leaf o6 x6 (by decide)
  obtain ⟨f7, n7, t7, i7⟩ := y_leaf o7 x7 (by decide)
  obtain ⟨k5, g5, g5a, g5b⟩ := y_exp o5 x5 (by decide)
  have g3 := y_blk o3 x3
  have g1 := y_blk o1 x1
  have hcat : y_cat [e1, e2, e3, e4, e5, e6, e7] = z_fap (z_fap (y_f e5) (y_f e3)) (y_f e1) := by simp only [y_cat, f2, f4, f6, f7, z_fap, z_fap_nil]
  have htok : y_tok 6 [e1, e2, e3, e4, e5, e6, e7] = y_n e7 := rfl
  have hks : z_fks (y_cat [e1, e2, e3, e4, e5, e6, e7]) = [k5, 0, 0] := by
    rw [hcat, z_fks_ap, z_fks_ap, g5, g3, g1]
    rfl
  refine y_good_nd (by rw [a2]; decide) (by decide) (by decide) (by decide) (by rw [a2, a3]; decide) ?_ (fun g => ?_) (by rw [htok]; exact n7) ?_ ?_ ?_ (by decide +kernel) ?_
  · rw [hks, a2]
    exact Or.inr (Or.inr (Or.inl ⟨by decide, k5, Or.inr rfl, g5a, g5b⟩))
  · rw [a2] at g; exact absurd g (by decide)
  · rw [hcat]; exact z_fty_ap (z_fty_ap (o5.2.2.2) o3.2.2.2) o1.2.2.2
  · rw [if_neg (by rw [a2]; decide), List.nil_append]
    exact y_fbk_cat _ hok
  · simp only [y_ids, y_ide_n x1 (by decide), i2, y_ide_n x3 (by decide), i4, y_ide_n x5 (by decide), i6, i7, hcat, z_fid_ap, z_fid, List.nil_append, List.append_nil]
  · rw [← z_fln_ks, hks, a2, show y_co 4 6 = -2 by decide +kernel]
    rfl
theorem y_g8 {tk : Nat → Nat} {c raws s : Nat} {q : List y_E} (hq : q.map y_x = y_rh 8) (hok : ∀ e, e ∈ q → y_ok tk c e) : y_good tk c 8 raws q (y_new 8 raws q s) := by
  have a1 : y_rh 8 = [20, 7] := by decide +kernel
  have a2 : y_no 8 = 5 := by decide +kernel
  have a3 : y_le 8 = 27 := by decide +kernel
  rw [a1] at hq
  obtain ⟨e1, q, rfl, x1, hq⟩ := y_mc hq
  obtain ⟨e2, q, rfl, x2, hq⟩ := y_mc hq
  have := y_m0 hq
  subst this
  have o1 := hok e1 (by simp)
  have o2 := hok e2 (by simp)
  obtain ⟨f1, n1, t1, i1⟩ := y_leaf o1 x1 (by decide)
  obtain ⟨f2, n2, t2, i2⟩ := y_leaf o2 x2 (by decide)
  have hcat : y_cat [e1, e2] = .leaf := by simp only [y_cat, f1, f2, z_fap, z_fap_nil]
  have htok : y_tok 8 [e1, e2] = y_n e2 := rfl
  have hks : z_fks (y_cat [e1, e2]) = [] := by rw [hcat]; rfl
  refine y_good_nd (by rw [a2]; decide) (by decide) (by decide) (by decide) (by rw [a2, a3]; decide) ?_ (fun g => ?_) (by rw [htok]; exact n2) ?_ ?_ ?_ (by decide +kernel) ?_
  · rw [hks, a2]
    exact Or.inr (Or.inr (Or.inr (Or.inr (Or.inl ⟨by decide, rfl⟩))))
  · rw [a2] at g; exact absurd g (by decide)
  · rw [hcat]; exact trivial
  · rw [hcat, htok, a2]
    have h1 : y_x e1 < 25 := by omega
    have h2 : y_x e2 < 25 := by omega
    simp only [y_bks, h1, h2, if_true, List.nil_append]
    exact List.sublist_append_left _ _
  · simp only [y_ids, i1, i2, hcat, z_fid_ap, z_fid, List.nil_append, List.append_nil]
  · rw [← z_fln_ks, hks, a2]
    decide +kernel
theorem y_g9 {tk : Nat → Nat} {c raws s : Nat} {q : List y_E} (hq : q.map y_x = y_rh 9) (hok : ∀ e, e ∈ q → y_ok tk c e) : y_good tk c 9 raws q (y_new 9 raws q s) := by
  have a1 : y_rh 9 = [20, 8] := by decide +kernel
  have a2 : y_no 9 = 6 := by decide +kernel
  have a3 : y_le 9 = 27 := by decide +kernel
  rw [a1] at hq
  obtain ⟨e1, q, rfl, x1, hq⟩ := y_mc hq
  obtain ⟨e2, q, rfl, x2, hq⟩ := y_mc hq
  have := y_m0 hq
  subst this
  have o1 := hok e1 (by simp)
  have o2 := hok e2 (by simp)
  obtain ⟨f1, n1, t1, i1⟩ := y_leaf o1 x1 (by decide)
  obtain ⟨f2, n2, t2, i2⟩ := y_leaf o2 x2 (by decide)
  have hcat : y_cat [e1, e2] = .leaf := by simp only [y_cat, f1, f2, z_fap, z_fap_nil]
  have htok : y_tok 9 [e1, e2] = y_n e2 := rfl
  have hks : z_fks (y_cat [e1, e2]) = [] := by rw [hcat]; rfl
  refine y_good_nd (by rw [a2]; decide) (by decide) (by decide) (by decide) (by rw [a2, a3]; decide) ?_ (fun g => ?_) (by rw [htok]; exact n2) ?_ ?_ ?_ (by decide +kernel) ?_
  · rw [hks, a2]
    exact Or.inr (Or.inr (Or.inr (Or.inr (Or.inl ⟨by decide, rfl⟩))))
  · rw [a2] at g; exact absurd g (by decide)
  · rw [hcat]; exact trivial
  · rw [hcat, htok, a2]
    have h1 : y_x e1 < 25 := by omega
    have h2 : y_x e2 < 25 := by omega
    simp only [y_bks, h1, h2, if_true, List.nil_append]
    exact List.sublist_append_left _ _
  · simp only [y_ids, i1, i2, hcat, z_fid_ap, z_fid, List.nil_append, List.append_nil]
  · rw [← z_fln_ks, hks, a2]
    decide +kernel
theorem y_g26 {tk : Nat → Nat} {c raws s : Nat} {q : List y_E} (hq : q.map y_x = y_rh 26) (hok : ∀ e, e ∈ q → y_ok tk c e) : y_good tk c 26 raws q (y_new 26 raws q s) := by
  have a1 : y_rh 26 = [34, 14] := by decide +kernel
  have a2 : y_no 26 = 16 := by decide +kernel
  have a3 : y_le 26 = 34 := by decide +kernel
  rw [a1] at hq
  obtain ⟨e1, q, rfl, x1, hq⟩ := y_mc hq
  obtain ⟨e2, q, rfl, x2, hq⟩ := y_mc hq
  have := y_m0 hq
  subst this
  have o1 := hok e1 (by simp)
  have o2 := hok e2 (by simp)
  obtain ⟨f2, n2, t2, i2⟩ := y_leaf o2 x2 (by decide)
  obtain ⟨k1, g1, g1a, g1b⟩ := y_exp o1 x1 (by decide)
  have hcat : y_cat [e1, e2] = y_f e1 := by simp only [y_cat, f2, z_fap, z_fap_nil]
  have htok : y_tok 26 [e1, e2] = y_n e2 := rfl
  have hks : z_fks (y_cat [e1, e2]) = [k1] := by
    rw [hcat, g1]
  refine y_good_nd (by rw [a2]; decide) (by decide) (by decide) (by decide) (by rw [a2, a3]; decide) ?_ (fun g => ?_) (by rw [htok]; exact n2) ?_ ?_ ?_ (by decide +kernel) ?_
  · rw [hks, a2]
    exact Or.inr (Or.inr (Or.inr (Or.inr (Or.inr (Or.inr (Or.inl ⟨by decide, k1, rfl, g1a, g1b⟩))))))
  · rw [a2] at g; exact absurd g (by decide)
  · rw [hcat]; exact o1.2.2.2
  · rw [if_neg (by rw [a2]; decide), List.nil_append]
    exact y_fbk_cat _ hok
  · simp only [y_ids, y_ide_n x1 (by decide), i2, hcat, z_fid_ap, z_fid, List.nil_append, List.append_nil]
  · rw [← z_fln_ks, hks, a2, show y_co 4 26 = -1 by decide +kernel]
    rfl
theorem y_g27 {tk : Nat → Nat} {c raws s : Nat} {q : List y_E} (hq : q.map y_x = y_rh 27) (hok : ∀ e, e ∈ q → y_ok tk c e) : y_good tk c 27 raws q (y_new 27 raws q s) := by
  have a1 : y_rh 27 = [34, 18] := by decide +kernel
  have a2 : y_no 27 = 17 := by decide +kernel
  have a3 : y_le 27 = 34 := by decide +kernel
  rw [a1] at hq
  obtain ⟨e1, q, rfl, x1, hq⟩ := y_mc hq
  obtain ⟨e2, q, rfl, x2, hq⟩ := y_mc hq
  have := y_m0 hq
  subst this
  have o1 := hok e1 (by simp)
  have o2 := hok e2 (by simp)
  obtain ⟨f2, n2, t2, i2⟩ := y_leaf o2 x2 (by decide)
  obtain ⟨k1, g1, g1a, g1b⟩ := y_exp o1 x1 (by decide)
  have hcat : y_cat [e1, e2] = y_f e1 := by simp only [y_cat, f2, z_fap, z_fap_nil]
  have htok : y_tok 27 [e1, e2] = y_n e2 := rfl
  have hks : z_fks (y_cat [e1, e2]) = [k1] := by
    rw [hcat, g1]
  refine y_good_nd (by rw [a2]; decide) (by decide) (by decide) (by decide) (by rw [a2, a3]; decide) ?_ (fun g => ?_) (by rw [htok]; exact n2) ?_ ?_ ?_ (by decide +kernel) ?_
  · rw [hks, a2]
    exact Or.inr (Or.inr (Or.inr (Or.inr (Or.inr (Or.inr (Or.inl ⟨by decide, k1, rfl, g1a, g1b⟩))))))
  · rw [a2] at g; exact absurd g (by decide)
  · rw [hcat]; exact o1.2.2.2
  · rw [if_neg (by rw [a2]; decide), List.nil_append]
    exact y_fbk_cat _ hok
  · simp only [y_ids, y_ide_n x1 (by decide), i2, hcat, z_fid_ap, z_fid, List.nil_append, List.append_nil]
  · rw [← z_fln_ks, hks, a2, show y_co 4 27 = -1 by decide +kernel]
    rfl
theorem y_g29 {tk : Nat → Nat} {c raws s : Nat} {q : List y_E} (hq : q.map y_x = y_rh 29) (hok : ∀ e, e ∈ q → y_ok tk c e) : y_good tk c 29 raws q (y_new 29 raws q s) := by
  have a1 : y_rh 29 = [1] := by decide +kernel
  have a2 : y_no 29 = 18 := by decide +kernel
  have a3 : y_le 29 = 35 := by decide +kernel
  rw [a1] at hq
  obtain ⟨e1, q, rfl, x1, hq⟩ := y_mc hq
  have := y_m0 hq
  subst this
  have o1 := hok e1 (by simp)
  obtain ⟨f1, n1, t1, i1⟩ := y_leaf o1 x1 (by decide)
  have hcat : y_cat [e1] = .leaf := by simp only [y_cat, f1, z_fap, z_fap_nil]
  have htok : y_tok 29 [e1] = y_n e1 := rfl
  have hks : z_fks (y_cat [e1]) = [] := by rw [hcat]; rfl
  refine y_good_nd (by rw [a2]; decide) (by decide) (by decide) (by decide) (by rw [a2, a3]; decide) ?_ (fun g => ?_) (by rw [htok]; exact n1) ?_ ?_ ?_ (by decide +kernel) ?_
  · rw [hks, a2]
    exact Or.inr (Or.inr (Or.inr (Or.inr (Or.inr (Or.inr (Or.inr ⟨by decide, rfl⟩))))))
  · rw [htok]; exact t1
  · rw [hcat]; exact trivial
  · rw [if_neg (by rw [a2]; decide), List.nil_append]
    exact y_fbk_cat _ hok
  · simp only [y_ids, i1, hcat, z_fid_ap, z_fid, List.nil_append, List.append_nil]
  · rw [← z_fln_ks, hks, a2]
    decide +kernel
theorem y_g30 {tk : Nat → Nat} {c raws s : Nat} {q : List y_E} (hq : q.map y_x = y_rh 30) (hok : ∀ e, e ∈ q → y_ok tk c e) : y_good tk c 30 raws q (y_new 30 raws q s) := by
  have a1 : y_rh 30 = [2] := by decide +kernel
  have a2 : y_no 30 = 19 := by decide +kernel
  have a3 : y_le 30 = 35 := by decide +kernel
  rw [a1] at hq
  obtain ⟨e1, q, rfl, x1, hq⟩ := y_mc hq
  have := y_m0 hq
  subst this
  have o1 := hok e1 (by simp)
  obtain ⟨f1, n1, t1, i1⟩ := y_leaf o1 x1 (by decide)
  have hcat : y_cat [e1] = .leaf := by simp only [y_cat, f1, z_fap, z_fap_nil]
  have htok : y_tok 30 [e1] = y_n e1 := rfl
  have hks : z_fks (y_cat [e1]) = [] := by rw [hcat]; rfl
  refine y_good_nd (by rw [a2]; decide) (by decide) (by decide) (by decide) (by rw [a2, a3]; decide) ?_ (fun g => ?_) (by rw [htok]; exact n1) ?_ ?_ ?_ (by decide +kernel) ?_
  · rw [hks, a2]
    exact Or.inr (Or.inr (Or.inr (Or.inr (Or.inr (Or.inr (Or.inr ⟨by decide, rfl⟩))))))
  · rw [a2] at g; exact absurd g (by decide)
  · rw [hcat]; exact trivial
  · rw [if_neg (by rw [a2]; decide), List.nil_append]
    exact y_fbk_cat _ hok
  · simp only [y_ids, i1, hcat, z_fid_ap, z_fid, List.nil_append, List.append_nil]
  · rw [← z_fln_ks, hks, a2]
    decide +kernel
theorem y_new_good {tk : Nat → Nat} {c r raws s : Nat} {q : List y_E} (h1 : 1 ≤ r) (h2 : r < 32) (hq : q.map y_x = y_rh r) (hok : ∀ e, e ∈ q → y_ok tk c e) : y_good tk c r raws q (y_new r raws q s) := by
  by_cases ht : y_ta r = 1
  · exact y_g2 h2 ht hq hok
  · have hr : r = 1 ∨ r = 2 ∨ r = 3 ∨ r = 4 ∨ r = 5 ∨ r = 6 ∨ r = 7 ∨ r = 8 ∨ r = 9 ∨ r = 11 ∨ r = 26 ∨ r = 27 ∨ r = 29 ∨ r = 30 ∨ r = 31 ∨ (r = 10 ∨ r = 13 ∨ r = 15 ∨ r = 18 ∨ r = 21 ∨ r = 25 ∨ r = 28) := by
      unfold y_ta at ht
      split at ht
      · exact absurd rfl ht
      · omega
    rcases hr with rfl | rfl | rfl | rfl | rfl | rfl | rfl | rfl | rfl | rfl | rfl | rfl | rfl | rfl | rfl | hu
    · exact y_g1 hq
    · exact y_g2m hq hok
    · exact y_g3 hq hok
    · exact y_g4 hq hok
    · exact y_g5 hq hok
    · exact y_g6 hq hok
    · exact y_g7 hq hok
    · exact y_g8 hq hok
    · exact y_g9 hq hok
    · exact y_g11 hq hok
    · exact y_g26 hq hok
    · exact y_g27 hq hok
    · exact y_g29 hq hok
    · exact y_g30 hq hok
    · exact y_g31 hq hok
    · exact y_gu h2 hu hq hok
theorem y_sum_lb {i : Nat} (hi : i < 5) : ∀ (q : List y_E), (∀ e, e ∈ q → y_okp e) → ((q.map y_x).map (y_lb i)).sum ≤ y_sum i q := by
  intro q
  induction q with
  | nil => intro _; exact Int.le_refl _
  | cons e q ih =>
    intro h
    have h1 := ih (fun e' he => h e' (List.mem_cons_of_mem _ he))
    have h2 := h e List.mem_cons_self i hi
    simp only [List.map_cons, List.sum_cons, y_sum]
    omega
theorem y_new_okp {r raws s : Nat} {q : List y_E} (h1 : 1 ≤ r) (h2 : r < 32) (hq : q.map y_x = y_rh r) (hok : ∀ e, e ∈ q → y_okp e) : y_okp (y_new r raws q s) := by
  intro i hi
  have h6 := y_al2 y_ck6_all hi h2
  simp only [Bool.or_eq_true, decide_eq_true_eq] at h6
  have h6' := h6.resolve_left (by omega)
  unfold y_ck6 at h6'
  simp only [decide_eq_true_eq] at h6'
  have h3 := y_sum_lb hi q hok
  rw [hq] at h3
  show y_lb i (y_le r) ≤ y_sum i q + y_co i r
  omega
theorem y_al3 {n k l : Nat} {f : Nat → Nat → Nat → Bool} (h : ((List.range n).all fun i => (List.range k).all fun s => (List.range l).all fun x => f i s x) = true) {i s x : Nat} (hi : i < n) (hs : s < k) (hx : x < l) : f i s x = true := by
  have := List.all_eq_true.mp h i (List.mem_range.mpr hi)
  exact y_al2 this hs hx
theorem y_top_lt {st : List y_E} (h : y_pth st) : y_top st < 63 := by
  cases st with
  | nil => exact (by decide : (0 : Nat) < 63)
  | cons e t => exact h.2.1
/-- the potentials of the whole stack -/
theorem y_LBs {i : Nat} (hi : i < 5) : ∀ (st : List y_E), y_pth st → (∀ e, e ∈ st → y_okp e) → y_LB i (y_top st) ≤ y_sum i st := by
  intro st
  induction st with
  | nil =>
    intro _ _
    have := List.all_eq_true.mp y_ck8_all i (List.mem_range.mpr hi)
    simp only [Bool.and_eq_true, decide_eq_true_eq] at this
    show y_LB i 0 ≤ 0
    omega
  | cons e t ih =>
    intro hp hok
    obtain ⟨p1, p2, p3, p4, p5⟩ := hp
    have h1 := ih p5 (fun e' he => hok e' (List.mem_cons_of_mem _ he))
    have h2 := hok e List.mem_cons_self i hi
    have h7 := y_al3 y_ck7_all hi (y_top_lt p5) p3
    unfold y_ck7 at h7
    rw [p4] at h7
    have g1 : decide ((0 : Int) < (y_s e : Int)) = true := by rw [decide_eq_true_eq]; omega
    have g2 : decide ((y_s e : Int) < 63) = true := by rw [decide_eq_true_eq]; omega
    rw [g1, g2] at h7
    simp only [Bool.and_true, Bool.not_true, Bool.false_or, Int.toNat_natCast, decide_eq_true_eq] at h7
    show y_LB i (y_s e) ≤ y_sum i t + y_p e i
    omega
theorem y_sum_ge {i : Nat} (hi : i < 5) {st : List y_E} (hp : y_pth st) (hok : ∀ e, e ∈ st → y_okp e) : -1 ≤ y_sum i st := by
  have h1 := y_LBs hi st hp hok
  have := List.all_eq_true.mp y_ck8_all i (List.mem_range.mpr hi)
  simp only [Bool.and_eq_true] at this
  have h3 := List.all_eq_true.mp this.2 (y_top st) (List.mem_range.mpr (y_top_lt hp))
  simp only [decide_eq_true_eq] at h3
  omega
