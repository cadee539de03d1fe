/-! the reference's parser: reductions -/
def y_RF (e : y_E) : z_F := if y_x e = 26 then .inner 0 (0, 0, y_t e) () (y_f e) .leaf else y_f e
def y_th (m : mz_M) (q t : List y_E) : Prop := m 55 24 = nI ((q ++ t).length + 1) ∧ (q ++ t).length ≤ 8002 ∧ ∀ i, i < q.length → m 74 (t.length + 1 + i) = nI (y_t (q.getD (q.length - 1 - i) y_e0))
theorem y_th.fm {m m' : mz_M} {q t : List y_E} (h : y_th m q t) (hf : z_fm [76, 77, 78, 79, 80, 81] [33] m m') : y_th m' q t := by
  obtain ⟨h1, h2, h3⟩ := h
  exact ⟨by rw [hf.2 24 (by decide)]; exact h1, h2, fun i hi => by rw [hf.1 74 (by decide) (by decide)]; exact h3 i hi⟩
theorem y_th.f5 {m m' : mz_M} {q t : List y_E} (h : y_th m q t) (hf : m' 55 = m 55) (hf2 : m' 74 = m 74) : y_th m' q t := by
  obtain ⟨h1, h2, h3⟩ := h
  exact ⟨by rw [hf]; exact h1, h2, fun i hi => by rw [hf2]; exact h3 i hi⟩
theorem s_M_thing {X : mz_X} {m : mz_M} {Q : Int32 → mz_M → Prop} {q t : List y_E} {k n : Nat} (h : y_th m q t) (hn : n = q.length) (hk : k < n) (hQ : Q (nI (y_t (q.getD (n - 1 - k) y_e0))) m) : mz_gi X mz_sh 149 0 [some (.ref 55), some (.int (nI k)), some (.int (nI n))] m Q := by
  obtain ⟨h1, h2, h3⟩ := h
  subst hn
  have hll : (q ++ t).length = q.length + t.length := List.length_append
  refine t_M_thing_0 _ _ ?_
  rw [h1, nI_sub (by omega), nI_add, show (q ++ t).length + 1 - q.length + k = t.length + 1 + k by omega, nI_clamp (by omega), h3 k hk]
  exact ⟨mz_inbN (by omega) (by decide), hQ⟩
def y_rp (m m' : mz_M) (r raws : Nat) (q : List y_E) (e : y_E) : Prop := z_fm [76, 77, 78, 79, 80, 81] [33] m m' ∧ m' 55 33 = nI (raws + y_mk r) ∧ z_raw m' (-1) (y_RF e) ∧ ∀ id, id ∉ y_ids q → id ≠ raws → y_sm m m' id
theorem y_RF_n {e : y_E} {x : Nat} (hx : y_x e = x) (h : x ≠ 26) : y_RF e = y_f e := by
  have : y_x e ≠ 26 := by omega
  simp only [y_RF, this, if_false]
theorem y_one {tk : Nat → Nat} {c : Nat} {e : y_E} (h : y_ok tk c e) {x : Nat} (hx : y_x e = x) (h27 : 27 ≤ x) : ∃ s a v l, y_f e = .inner s a v l .leaf ∧ a.2.2 = y_t e := by
  obtain ⟨s, a, v, l, e1, e2, _⟩ := h.2.2.1 (by omega)
  exact ⟨s, a, v, l, e1, e2⟩

theorem s_Mr1 {X : mz_X} {m : mz_M} {Q : Int32 → mz_M → Prop} {tk : Nat → Nat} {c raws s : Nat} {q t : List y_E} (hq : q.map y_x = y_rh 1) (hok : ∀ e, e ∈ q → y_ok tk c e) (hth : y_th m q t) (h57 : m 57 = (fun j => nI (z_loL.getD j 0))) (h33 : m 55 33 = nI raws) (hrw : raws < 12000) (hraw : ∀ e, e ∈ q → z_raw m (-1) (y_RF e)) (hnd : (y_ids q).Nodup) (hlt : ∀ id, id ∈ y_ids q → id < raws) (hQ : ∀ m', y_rp m m' 1 raws q (y_new 1 raws q s) → Q (nI (y_t (y_new 1 raws q s))) m') : mz_gi X mz_sh 153 0 [some (.ref 55), some (.int (nI 1)), none] m Q := by
  have a1 : y_rh 1 = [] := by decide +kernel
  rw [a1] at hq
  have := y_m0 hq
  subst this
  have h57r : m 57 (nI 1).toNatClampNeg = nI 0 := by rw [nI_clamp (by decide), h57]; decide +kernel
  have hin : mz_inb (nI 1) 32 = true := by decide +kernel
  refine t_M_reduce_0 _ ⟨hin, fun _ => ?_, fun g => absurd (by decide) g⟩
  refine t_M_reduce_1 _ _ ⟨fun _ => ?_, fun g => absurd g (by decide), fun g => absurd g (by decide), fun g => absurd g (by decide), fun g => absurd g (by decide), fun g => absurd g (by decide), fun g => absurd g (by decide), fun g => absurd g (by decide), fun g => absurd g (by decide), fun g => absurd g (by decide), fun g => absurd g (by decide), fun g => absurd g (by decide), fun g => absurd g (by decide), fun g => absurd g (by decide), fun g => absurd g (by decide), fun g => absurd g (by decide), fun g => absurd g (by decide), fun m1 m2 m11 m12 m14 m16 m17 m19 m20 m22 m23 m24 m26 m27 m29 m30 m31 => absurd rfl m1⟩
  refine s_M_raw (k := 0) (t := 0) h33 (by omega) (fun m1 p1 w1 => hQ m1 ⟨p1.1, w1, p1.raw, fun id _ h2 => p1.2.2.2.2.2.2.2.2 id h2 (by simp [z_fid])⟩)
theorem s_Mr2 {X : mz_X} {m : mz_M} {Q : Int32 → mz_M → Prop} {tk : Nat → Nat} {c raws s : Nat} {q t : List y_E} (hq : q.map y_x = y_rh 2) (hok : ∀ e, e ∈ q → y_ok tk c e) (hth : y_th m q t) (h57 : m 57 = (fun j => nI (z_loL.getD j 0))) (h33 : m 55 33 = nI raws) (hrw : raws < 12000) (hraw : ∀ e, e ∈ q → z_raw m (-1) (y_RF e)) (hnd : (y_ids q).Nodup) (hlt : ∀ id, id ∈ y_ids q → id < raws) (hQ : ∀ m', y_rp m m' 2 raws q (y_new 2 raws q s) → Q (nI (y_t (y_new 2 raws q s))) m') : mz_gi X mz_sh 153 0 [some (.ref 55), some (.int (nI 2)), none] m Q := by
  have a1 : y_rh 2 = [27, 26] := by decide +kernel
  rw [a1] at hq
  obtain ⟨e1, q, rfl, x1, hq⟩ := y_mc hq
  obtain ⟨e2, q, rfl, x2, hq⟩ := y_mc hq
  have := y_m0 hq
  subst this
  have o1 := hok e1 (by simp)
  have o2 := hok e2 (by simp)
  obtain ⟨s1, a1', v1, l1, b1, c1⟩ := y_one o1 x1 (by decide)
  have h57r : m 57 (nI 2).toNatClampNeg = nI 2 := by rw [nI_clamp (by decide), h57]; decide +kernel
  have hin : mz_inb (nI 2) 32 = true := by decide +kernel
  refine t_M_reduce_0 _ ⟨hin, fun _ => ?_, fun g => absurd (by decide) g⟩
  refine t_M_reduce_1 _ _ ⟨fun g => absurd g (by decide), fun _ => ?_, fun g => absurd g (by decide), fun g => absurd g (by decide), fun g => absurd g (by decide), fun g => absurd g (by decide), fun g => absurd g (by decide), fun g => absurd g (by decide), fun g => absurd g (by decide), fun g => absurd g (by decide), fun g => absurd g (by decide), fun g => absurd g (by decide), fun g => absurd g (by decide), fun g => absurd g (by decide), fun g => absurd g (by decide), fun g => absurd g (by decide), fun g => absurd g (by decide), fun m1 m2 m11 m12 m14 m16 m17 m19 m20 m22 m23 m24 m26 m27 m29 m30 m31 => absurd rfl m2⟩
  rw [h57r]
  refine s_M_thing (k := 0) (n := 2) hth rfl (by decide) (s_M_thing (k := 1) (n := 2) hth rfl (by decide) ?_)
  have hL := hraw e2 (by simp)
  have hS := hraw e1 (by simp)
  rw [y_RF_n x1 (by decide), b1] at hS
  have hL' : y_RF e2 = .inner 0 (0, 0, y_t e2) () (y_f e2) .leaf := by simp only [y_RF, x2, if_true]
  rw [hL'] at hL
  have hids : y_ids [e1, e2] = y_t e2 :: (z_fid (y_f e2) ++ z_fid (y_f e1)) := by simp only [y_ids, y_ide_n x1 (by decide), List.nil_append]; simp [y_ide, x2]
  rw [hids, b1] at hnd hlt
  have pt : y_pt m m (y_t e2) 0 0 (y_f e2) := ⟨z_fm.rf _ _ _, hL.1, hL.2.1, hL.2.2.1, hL.2.2.2.1, hL.2.2.2.2.1, hL.2.2.2.2.2.1, hL.2.2.2.2.2.2.1, fun id _ _ => ⟨rfl, rfl, rfl, rfl, rfl, rfl⟩⟩
  have ht1 : y_t ([e1, e2].getD (2 - 1 - 1) y_e0) = a1'.2.2 := c1.symm
  have ht2 : y_t ([e1, e2].getD (2 - 1 - 0) y_e0) = y_t e2 := rfl
  rw [ht1, ht2]
  refine s_M_hang pt hS hnd (fun id hid => by have := hlt id hid; omega) (fun m1 p1 w1 => ?_)
  refine s_M_thing (k := 0) (n := 2) (hth.fm p1.1) rfl (by decide) ?_
  have hcat : y_cat [e1, e2] = z_fap (y_f e2) (y_f e1) := by simp only [y_cat, z_fap]
  have hnew : y_new 2 raws [e1, e2] s = (s, 26, y_n e2 + 1, y_t e2, z_fap (y_f e2) (y_f e1), fun i => y_sum i [e1, e2] + y_co i 2) := by
    unfold y_new
    rw [hcat]
    rfl
  rw [hnew] at hQ
  rw [← b1] at p1
  refine hQ m1 ⟨p1.1, by rw [w1, h33]; rfl, p1.raw, fun id h1 h2 => p1.2.2.2.2.2.2.2.2 id (fun e => h1 (by rw [hids, e]; exact List.mem_cons_self)) (fun h3 => h1 ?_)⟩
  rw [z_fid_ap] at h3
  rw [hids]
  exact List.mem_cons_of_mem _ h3
theorem s_Mr3 {X : mz_X} {m : mz_M} {Q : Int32 → mz_M → Prop} {tk : Nat → Nat} {c raws s : Nat} {q t : List y_E} (hq : q.map y_x = y_rh 3) (hok : ∀ e, e ∈ q → y_ok tk c e) (hth : y_th m q t) (h57 : m 57 = (fun j => nI (z_loL.getD j 0))) (h33 : m 55 33 = nI raws) (hrw : raws < 12000) (hraw : ∀ e, e ∈ q → z_raw m (-1) (y_RF e)) (hnd : (y_ids q).Nodup) (hlt : ∀ id, id ∈ y_ids q → id < raws) (hQ : ∀ m', y_rp m m' 3 raws q (y_new 3 raws q s) → Q (nI (y_t (y_new 3 raws q s))) m') : mz_gi X mz_sh 153 0 [some (.ref 55), some (.int (nI 3)), none] m Q := by
  have a1 : y_rh 3 = [20, 29, 19, 1] := by decide +kernel
  rw [a1] at hq
  obtain ⟨e1, q, rfl, x1, hq⟩ := y_mc hq
  obtain ⟨e2, q, rfl, x2, hq⟩ := y_mc hq
  obtain ⟨e3, q, rfl, x3, hq⟩ := y_mc hq
  obtain ⟨e4, q, rfl, x4, hq⟩ := y_mc hq
  have := y_m0 hq
  subst this
  have o1 := hok e1 (by simp)
  have o2 := hok e2 (by simp)
  have o3 := hok e3 (by simp)
  have o4 := hok e4 (by simp)
  obtain ⟨f1, n1, t1, i1⟩ := y_leaf o1 x1 (by decide)
  have tn1 := (o1.1 (by omega)).2.1
  obtain ⟨s2, a2', v2, l2, b2, c2⟩ := y_one o2 x2 (by decide)
  obtain ⟨f3, n3, t3, i3⟩ := y_leaf o3 x3 (by decide)
  have tn3 := (o3.1 (by omega)).2.1
  obtain ⟨f4, n4, t4, i4⟩ := y_leaf o4 x4 (by decide)
  have tn4 := (o4.1 (by omega)).2.1
  have h57r : m 57 (nI 3).toNatClampNeg = nI 4 := by rw [nI_clamp (by decide), h57]; decide +kernel
  have hin : mz_inb (nI 3) 32 = true := by decide +kernel
  refine t_M_reduce_0 _ ⟨hin, fun g => absurd g (by decide), fun _ => ⟨fun g => absurd g (by decide), fun _ => ?_⟩⟩
  refine t_M_statement_0 _ ⟨hin, fun _ => ?_, fun g => absurd g (by decide), fun g => absurd g (by decide), fun g => absurd g (by decide), fun g => absurd g (by decide), fun g => absurd g (by decide), fun m3 m4 m5 m6 m7 m8 => absurd rfl m3⟩
  rw [h57r]
  have htk : y_t e4 = y_n e4 := tn4
  have hids : y_ids [e1, e2, e3, e4] = z_fid (y_f e2) := by simp only [y_ids, i1, y_ide_n x2 (by decide), i3, i4, List.nil_append, List.append_nil, List.append_assoc]
  have hS2 := hraw e2 (by simp)
  rw [y_RF_n x2 (by decide), b2] at hS2
  have hnd' : (raws :: y_ids [e1, e2, e3, e4]).Nodup := List.nodup_cons.mpr ⟨fun hm => Nat.lt_irrefl _ (hlt raws hm), hnd⟩
  have hlt' : ∀ id, id ∈ raws :: y_ids [e1, e2, e3, e4] → id < 12100 := fun id hid => by
    rcases List.mem_cons.mp hid with g | g
    · omega
    · have := hlt id g
      omega
  rw [hids] at hnd' hlt'
  rw [b2] at hnd' hlt'
  have hcat : y_cat [e1, e2, e3, e4] = y_f e2 := by simp only [y_cat, f1, f3, f4, z_fap, z_fap_nil]
  have hnew : y_new 3 raws [e1, e2, e3, e4] s = (s, y_le 3, 0, raws, .inner 0 (1, y_n e4, raws) () (y_f e2) .leaf, fun i => y_sum i [e1, e2, e3, e4] + y_co i 3) := by
    unfold y_new
    rw [hcat]
    rfl
  rw [hnew] at hQ
  refine s_M_thing (k := 0) (n := 4) hth rfl (by decide) ?_
  refine s_M_thing (k := 2) (n := 4) hth rfl (by decide) ?_
  rw [show y_t ([e1, e2, e3, e4].getD (4 - 1 - 0) y_e0) = y_n e4 from htk, show y_t ([e1, e2, e3, e4].getD (4 - 1 - 2) y_e0) = a2'.2.2 from c2.symm]
  refine t_M_one_0 _ _ _ (s_M_raw (k := 1) h33 (by omega) (fun m1 p1 w1 => ?_))
  refine s_M_hang p1 hS2 (by simpa only [z_fid, List.nil_append] using hnd') (by simpa only [z_fid, List.nil_append] using hlt') (fun m2 p2 w2 => ?_)
  have p2 : y_pt m m2 raws 1 (y_n e4) (.inner s2 a2' v2 l2 .leaf) := p2
  rw [← b2] at p2
  refine hQ _ ⟨p2.1, ?_, p2.raw, fun id h1 h2 => p2.2.2.2.2.2.2.2.2 id h2 (fun h3 => h1 ?_)⟩
  · rw [w2, w1]; rfl
  · rw [hids]
    simpa only [z_fid_ap, List.append_assoc] using h3
theorem s_Mr4 {X : mz_X} {m : mz_M} {Q : Int32 → mz_M → Prop} {tk : Nat → Nat} {c raws s : Nat} {q t : List y_E} (hq : q.map y_x = y_rh 4) (hok : ∀ e, e ∈ q → y_ok tk c e) (hth : y_th m q t) (h57 : m 57 = (fun j => nI (z_loL.getD j 0))) (h33 : m 55 33 = nI raws) (hrw : raws < 12000) (hraw : ∀ e, e ∈ q → z_raw m (-1) (y_RF e)) (hnd : (y_ids q).Nodup) (hlt : ∀ id, id ∈ y_ids q → id < raws) (hQ : ∀ m', y_rp m m' 4 raws q (y_new 4 raws q s) → Q (nI (y_t (y_new 4 raws q s))) m') : mz_gi X mz_sh 153 0 [some (.ref 55), some (.int (nI 4)), none] m Q := by
  have a1 : y_rh 4 = [20, 29, 3] := by decide +kernel
  rw [a1] at hq
  obtain ⟨e1, q, rfl, x1, hq⟩ := y_mc hq
  obtain ⟨e2, q, rfl, x2, hq⟩ := y_mc hq
  obtain ⟨e3, q, rfl, x3, hq⟩ := y_mc hq
  have := y_m0 hq
  subst this
  have o1 := hok e1 (by simp)
  have o2 := hok e2 (by simp)
  have o3 := hok e3 (by simp)
  obtain ⟨f1, n1, t1, i1⟩ := y_leaf o1 x1 (by decide)
  have tn1 := (o1.1 (by omega)).2.1
  obtain ⟨s2, a2', v2, l2, b2, c2⟩ := y_one o2 x2 (by decide)
  obtain ⟨f3, n3, t3, i3⟩ := y_leaf o3 x3 (by decide)
  have tn3 := (o3.1 (by omega)).2.1
  have h57r : m 57 (nI 4).toNatClampNeg = nI 3 := by rw [nI_clamp (by decide), h57]; decide +kernel
  have hin : mz_inb (nI 4) 32 = true := by decide +kernel
  refine t_M_reduce_0 _ ⟨hin, fun g => absurd g (by decide), fun _ => ⟨fun g => absurd g (by decide), fun _ => ?_⟩⟩
  refine t_M_statement_0 _ ⟨hin, fun g => absurd g (by decide), fun _ => ?_, fun g => absurd g (by decide), fun g => absurd g (by decide), fun g => absurd g (by decide), fun g => absurd g (by decide), fun m3 m4 m5 m6 m7 m8 => absurd rfl m4⟩
  rw [h57r]
  have htk : y_t e3 = y_n e3 := tn3
  have hids : y_ids [e1, e2, e3] = z_fid (y_f e2) := by simp only [y_ids, i1, y_ide_n x2 (by decide), i3, List.nil_append, List.append_nil, List.append_assoc]
  have hS2 := hraw e2 (by simp)
  rw [y_RF_n x2 (by decide), b2] at hS2
  have hnd' : (raws :: y_ids [e1, e2, e3]).Nodup := List.nodup_cons.mpr ⟨fun hm => Nat.lt_irrefl _ (hlt raws hm), hnd⟩
  have hlt' : ∀ id, id ∈ raws :: y_ids [e1, e2, e3] → id < 12100 := fun id hid => by
    rcases List.mem_cons.mp hid with g | g
    · omega
    · have := hlt id g
      omega
  rw [hids] at hnd' hlt'
  rw [b2] at hnd' hlt'
  have hcat : y_cat [e1, e2, e3] = y_f e2 := by simp only [y_cat, f1, f3, z_fap, z_fap_nil]
  have hnew : y_new 4 raws [e1, e2, e3] s = (s, y_le 4, 0, raws, .inner 0 (2, y_n e3, raws) () (y_f e2) .leaf, fun i => y_sum i [e1, e2, e3] + y_co i 4) := by
    unfold y_new
    rw [hcat]
    rfl
  rw [hnew] at hQ
  refine s_M_thing (k := 0) (n := 3) hth rfl (by decide) ?_
  refine s_M_thing (k := 1) (n := 3) hth rfl (by decide) ?_
  rw [show y_t ([e1, e2, e3].getD (3 - 1 - 0) y_e0) = y_n e3 from htk, show y_t ([e1, e2, e3].getD (3 - 1 - 1) y_e0) = a2'.2.2 from c2.symm]
  refine t_M_one_0 _ _ _ (s_M_raw (k := 2) h33 (by omega) (fun m1 p1 w1 => ?_))
  refine s_M_hang p1 hS2 (by simpa only [z_fid, List.nil_append] using hnd') (by simpa only [z_fid, List.nil_append] using hlt') (fun m2 p2 w2 => ?_)
  have p2 : y_pt m m2 raws 2 (y_n e3) (.inner s2 a2' v2 l2 .leaf) := p2
  rw [← b2] at p2
  refine hQ _ ⟨p2.1, ?_, p2.raw, fun id h1 h2 => p2.2.2.2.2.2.2.2.2 id h2 (fun h3 => h1 ?_)⟩
  · rw [w2, w1]; rfl
  · rw [hids]
    simpa only [z_fid_ap, List.append_assoc] using h3
theorem s_Mr5 {X : mz_X} {m : mz_M} {Q : Int32 → mz_M → Prop} {tk : Nat → Nat} {c raws s : Nat} {q t : List y_E} (hq : q.map y_x = y_rh 5) (hok : ∀ e, e ∈ q → y_ok tk c e) (hth : y_th m q t) (h57 : m 57 = (fun j => nI (z_loL.getD j 0))) (h33 : m 55 33 = nI raws) (hrw : raws < 12000) (hraw : ∀ e, e ∈ q → z_raw m (-1) (y_RF e)) (hnd : (y_ids q).Nodup) (hlt : ∀ id, id ∈ y_ids q → id < raws) (hQ : ∀ m', y_rp m m' 5 raws q (y_new 5 raws q s) → Q (nI (y_t (y_new 5 raws q s))) m') : mz_gi X mz_sh 153 0 [some (.ref 55), some (.int (nI 5)), none] m Q := by
  have a1 : y_rh 5 = [28, 22, 29, 21, 4] := by decide +kernel
  rw [a1] at hq
  obtain ⟨e1, q, rfl, x1, hq⟩ := y_mc hq
  obtain ⟨e2, q, rfl, x2, hq⟩ := y_mc hq
  obtain ⟨e3, q, rfl, x3, hq⟩ := y_mc hq
  obtain ⟨e4, q, rfl, x4, hq⟩ := y_mc hq
  obtain ⟨e5, q, rfl, x5, hq⟩ := y_mc hq
  have := y_m0 hq
  subst this
  have o1 := hok e1 (by simp)
  have o2 := hok e2 (by simp)
  have o3 := hok e3 (by simp)
  have o4 := hok e4 (by simp)
  have o5 := hok e5 (by simp)
  obtain ⟨s1, a1', v1, l1, b1, c1⟩ := y_one o1 x1 (by decide)
  obtain ⟨f2, n2, t2, i2⟩ := y_leaf o2 x2 (by decide)
  have tn2 := (o2.1 (by omega)).2.1
  obtain ⟨s3, a3', v3, l3, b3, c3⟩ := y_one o3 x3 (by decide)
  obtain ⟨f4, n4, t4, i4⟩ := y_leaf o4 x4 (by decide)
  have tn4 := (o4.1 (by omega)).2.1
  obtain ⟨f5, n5, t5, i5⟩ := y_leaf o5 x5 (by decide)
  have tn5 := (o5.1 (by omega)).2.1
  have h57r : m 57 (nI 5).toNatClampNeg = nI 5 := by rw [nI_clamp (by decide), h57]; decide +kernel
  have hin : mz_inb (nI 5) 32 = true := by decide +kernel
  refine t_M_reduce_0 _ ⟨hin, fun g => absurd g (by decide), fun _ => ⟨fun g => absurd g (by decide), fun _ => ?_⟩⟩
  refine t_M_statement_0 _ ⟨hin, fun g => absurd g (by decide), fun g => absurd g (by decide), fun _ => ⟨fun g => absurd g (by decide), fun _ => ?_⟩, fun g => absurd g (by decide), fun g => absurd g (by decide), fun g => absurd g (by decide), fun m3 m4 m5 m6 m7 m8 => absurd rfl m5⟩
  rw [h57r]
  have htk : y_t e5 = y_n e5 := tn5
  have hids : y_ids [e1, e2, e3, e4, e5] = z_fid (y_f e3) ++ z_fid (y_f e1) := by simp only [y_ids, y_ide_n x1 (by decide), i2, y_ide_n x3 (by decide), i4, i5, List.nil_append, List.append_nil, List.append_assoc]
  have hS3 := hraw e3 (by simp)
  rw [y_RF_n x3 (by decide), b3] at hS3
  have hS1 := hraw e1 (by simp)
  rw [y_RF_n x1 (by decide), b1] at hS1
  have hnd' : (raws :: y_ids [e1, e2, e3, e4, e5]).Nodup := List.nodup_cons.mpr ⟨fun hm => Nat.lt_irrefl _ (hlt raws hm), hnd⟩
  have hlt' : ∀ id, id ∈ raws :: y_ids [e1, e2, e3, e4, e5] → id < 12100 := fun id hid => by
    rcases List.mem_cons.mp hid with g | g
    · omega
    · have := hlt id g
      omega
  rw [hids] at hnd' hlt'
  rw [b3, b1] at hnd' hlt'
  have hcat : y_cat [e1, e2, e3, e4, e5] = z_fap (y_f e3) (y_f e1) := by simp only [y_cat, f2, f4, f5, z_fap, z_fap_nil]
  have hnew : y_new 5 raws [e1, e2, e3, e4, e5] s = (s, y_le 5, 0, raws, .inner 0 (3, y_n e5, raws) () (z_fap (y_f e3) (y_f e1)) .leaf, fun i => y_sum i [e1, e2, e3, e4, e5] + y_co i 5) := by
    unfold y_new
    rw [hcat]
    rfl
  rw [hnew] at hQ
  refine s_M_thing (k := 0) (n := 5) hth rfl (by decide) ?_
  rw [show y_t ([e1, e2, e3, e4, e5].getD (5 - 1 - 0) y_e0) = y_n e5 from htk]
  refine s_M_raw (k := 3) h33 (by omega) (fun m1 p1 w1 => ?_)
  refine s_M_thing (k := 2) (n := 5) (hth.fm p1.1) rfl (by decide) ?_
  rw [show y_t ([e1, e2, e3, e4, e5].getD (5 - 1 - 2) y_e0) = a3'.2.2 from c3.symm]
  refine s_M_hang p1 hS3 (hnd'.sublist (List.Sublist.cons_cons _ (by simp only [z_fid, List.nil_append]; exact List.sublist_append_left _ _))) (fun id hid => hlt' id ((List.Sublist.cons_cons _ (by simp only [z_fid, List.nil_append]; exact List.sublist_append_left _ _)).subset hid)) (fun m2 p2 w2 => ?_)
  have p2 : y_pt m m2 raws 3 (y_n e5) (.inner s3 a3' v3 l3 .leaf) := p2
  refine s_M_thing (k := 4) (n := 5) (hth.fm p2.1) rfl (by decide) ?_
  rw [show y_t ([e1, e2, e3, e4, e5].getD (5 - 1 - 4) y_e0) = a1'.2.2 from c1.symm]
  refine s_M_hang p2 hS1 hnd' hlt' (fun m3 p3 w3 => ?_)
  refine ⟨fun g => absurd g (by decide), fun _ => t_M_statement_1 _ ?_⟩
  rw [← b3, ← b1] at p3
  refine hQ _ ⟨p3.1, ?_, p3.raw, fun id h1 h2 => p3.2.2.2.2.2.2.2.2 id h2 (fun h3 => h1 ?_)⟩
  · rw [w3, w2, w1]; rfl
  · rw [hids]
    simpa only [z_fid_ap, List.append_assoc] using h3
theorem s_Mr6 {X : mz_X} {m : mz_M} {Q : Int32 → mz_M → Prop} {tk : Nat → Nat} {c raws s : Nat} {q t : List y_E} (hq : q.map y_x = y_rh 6) (hok : ∀ e, e ∈ q → y_ok tk c e) (hth : y_th m q t) (h57 : m 57 = (fun j => nI (z_loL.getD j 0))) (h33 : m 55 33 = nI raws) (hrw : raws < 12000) (hraw : ∀ e, e ∈ q → z_raw m (-1) (y_RF e)) (hnd : (y_ids q).Nodup) (hlt : ∀ id, id ∈ y_ids q → id < raws) (hQ : ∀ m', y_rp m m' 6 raws q (y_new 6 raws q s) → Q (nI (y_t (y_new 6 raws q s))) m') : mz_gi X mz_sh 153 0 [some (.ref 55), some (.int (nI 6)), none] m Q := by
  have a1 : y_rh 6 = [28, 5, 28, 22, 29, 21, 4] := by decide +kernel
  rw [a1] at hq
  obtain ⟨e1, q, rfl, x1, hq⟩ := y_mc hq
  obtain ⟨e2, q, rfl, x2, hq⟩ := y_mc hq
  obtain ⟨e3, q, rfl, x3, hq⟩ := y_mc hq
  obtain ⟨e4, q, rfl, x4, hq⟩ := y_mc hq
  obtain ⟨e5, q, rfl, x5, hq⟩ := y_mc hq
  obtain ⟨e6, q, rfl, x6, hq⟩ := y_mc hq
  obtain ⟨e7, q, rfl, x7, hq⟩ := y_mc hq
  have := y_m0 hq
  subst this
  have o1 := hok e1 (by simp)
  have o2 := hok e2 (by simp)
  have o3 := hok e3 (by simp)
  have o4 := hok e4 (by simp)
  have o5 := hok e5 (by simp)
  have o6 := hok e6 (by simp)
  have o7 := hok e7 (by simp)
  obtain ⟨s1, a1', v1, l1, b1, c1⟩ := y_one o1 x1 (by decide)
  obtain ⟨f2, n2, t2, i2⟩ := y_leaf o2 x2 (by decide)
  have tn2 := (o2.1 (by omega)).2.1
  obtain ⟨s3, a3', v3, l3, b3, c3⟩ := y_one o3 x3 (by decide)
  obtain ⟨f4, n4, t4, i4⟩ := y_leaf o4 x4 (by decide)
  have tn4 := (o4.1 (by omega)).2.1
  obtain ⟨s5, a5', v5, l5, b5, c5⟩ := y_one o5 x5 (by decide)
  obtain ⟨f6, n6, t6, i6⟩ := y_leaf o6 x6 (by decide)
  have tn6 := (o6.1 (by omega)).2.1
  obtain ⟨f7, n7, t7, i7⟩ := y_leaf o7 x7 (by decide)
  have tn7 := (o7.1 (by omega)).2.1
  have h57r : m 57 (nI 6).toNatClampNeg = nI 7 := by rw [nI_clamp (by decide), h57]; decide +kernel
  have hin : mz_inb (nI 6) 32 = true := by decide +kernel
  refine t_M_reduce_0 _ ⟨hin, fun g => absurd g (by decide), fun _ => ⟨fun g => absurd g (by decide), fun _ => ?_⟩⟩
  refine t_M_statement_0 _ ⟨hin, fun g => absurd g (by decide), fun g => absurd g (by decide), fun g => absurd g (by decide), fun _ => ⟨fun g => absurd g (by decide), fun _ => ?_⟩, fun g => absurd g (by decide), fun g => absurd g (by decide), fun m3 m4 m5 m6 m7 m8 => absurd rfl m6⟩
  rw [h57r]
  have htk : y_t e7 = y_n e7 := tn7
  have hids : y_ids [e1, e2, e3, e4, e5, e6, e7] = z_fid (y_f e5) ++ (z_fid (y_f e3) ++ z_fid (y_f e1)) := by simp only [y_ids, y_ide_n x1 (by decide), i2, y_ide_n x3 (by decide), i4, y_ide_n x5 (by decide), i6, i7, List.nil_append, List.append_nil, List.append_assoc]
  have hS5 := hraw e5 (by simp)
  rw [y_RF_n x5 (by decide), b5] at hS5
  have hS3 := hraw e3 (by simp)
  rw [y_RF_n x3 (by decide), b3] at hS3
  have hS1 := hraw e1 (by simp)
  rw [y_RF_n x1 (by decide), b1] at hS1
  have hnd' : (raws :: y_ids [e1, e2, e3, e4, e5, e6, e7]).Nodup := List.nodup_cons.mpr ⟨fun hm => Nat.lt_irrefl _ (hlt raws hm), hnd⟩
  have hlt' : ∀ id, id ∈ raws :: y_ids [e1, e2, e3, e4, e5, e6, e7] → id < 12100 := fun id hid => by
    rcases List.mem_cons.mp hid with g | g
    · omega
    · have := hlt id g
      omega
  rw [hids] at hnd' hlt'
  rw [b5, b3, b1] at hnd' hlt'
  have hcat : y_cat [e1, e2, e3, e4, e5, e6, e7] = z_fap (z_fap (y_f e5) (y_f e3)) (y_f e1) := by simp only [y_cat, f2, f4, f6, f7, z_fap, z_fap_nil]
  have hnew : y_new 6 raws [e1, e2, e3, e4, e5, e6, e7] s = (s, y_le 6, 0, raws, .inner 0 (3, y_n e7, raws) () (z_fap (z_fap (y_f e5) (y_f e3)) (y_f e1)) .leaf, fun i => y_sum i [e1, e2, e3, e4, e5, e6, e7] + y_co i 6) := by
    unfold y_new
    rw [hcat]
    rfl
  rw [hnew] at hQ
  refine s_M_thing (k := 0) (n := 7) hth rfl (by decide) ?_
  rw [show y_t ([e1, e2, e3, e4, e5, e6, e7].getD (7 - 1 - 0) y_e0) = y_n e7 from htk]
  refine s_M_raw (k := 3) h33 (by omega) (fun m1 p1 w1 => ?_)
  refine s_M_thing (k := 2) (n := 7) (hth.fm p1.1) rfl (by decide) ?_
  rw [show y_t ([e1, e2, e3, e4, e5, e6, e7].getD (7 - 1 - 2) y_e0) = a5'.2.2 from c5.symm]
  refine s_M_hang p1 hS5 (hnd'.sublist (List.Sublist.cons_cons _ (by simp only [z_fid, List.nil_append]; exact List.sublist_append_left _ _))) (fun id hid => hlt' id ((List.Sublist.cons_cons _ (by simp only [z_fid, List.nil_append]; exact List.sublist_append_left _ _)).subset hid)) (fun m2 p2 w2 => ?_)
  have p2 : y_pt m m2 raws 3 (y_n e7) (.inner s5 a5' v5 l5 .leaf) := p2
  refine s_M_thing (k := 4) (n := 7) (hth.fm p2.1) rfl (by decide) ?_
  rw [show y_t ([e1, e2, e3, e4, e5, e6, e7].getD (7 - 1 - 4) y_e0) = a3'.2.2 from c3.symm]
  refine s_M_hang p2 hS3 (hnd'.sublist (List.Sublist.cons_cons _ (by rw [← List.append_assoc]; exact List.sublist_append_left _ _))) (fun id hid => hlt' id ((List.Sublist.cons_cons _ (by rw [← List.append_assoc]; exact List.sublist_append_left _ _)).subset hid)) (fun m3 p3 w3 => ?_)
  refine ⟨fun _ => ?_, fun g => absurd rfl g⟩
  refine s_M_thing (k := 6) (n := 7) (hth.fm p3.1) rfl (by decide) ?_
  rw [show y_t ([e1, e2, e3, e4, e5, e6, e7].getD (7 - 1 - 6) y_e0) = a1'.2.2 from c1.symm]
  rw [← List.append_assoc] at hnd' hlt'
  refine s_M_hang p3 hS1 (by rw [z_fid_ap]; exact hnd') (by rw [z_fid_ap]; exact hlt') (fun m4 p4 w4 => ?_)
  refine t_M_statement_1 _ ?_
  rw [← b5, ← b3, ← b1] at p4
  refine hQ _ ⟨p4.1, ?_, p4.raw, fun id h1 h2 => p4.2.2.2.2.2.2.2.2 id h2 (fun h3 => h1 ?_)⟩
  · rw [w4, w3, w2, w1]; rfl
  · rw [hids]
    simpa only [z_fid_ap, List.append_assoc] using h3
theorem s_Mr7 {X : mz_X} {m : mz_M} {Q : Int32 → mz_M → Prop} {tk : Nat → Nat} {c raws s : Nat} {q t : List y_E} (hq : q.map y_x = y_rh 7) (hok : ∀ e, e ∈ q → y_ok tk c e) (hth : y_th m q t) (h57 : m 57 = (fun j => nI (z_loL.getD j 0))) (h33 : m 55 33 = nI raws) (hrw : raws < 12000) (hraw : ∀ e, e ∈ q → z_raw m (-1) (y_RF e)) (hnd : (y_ids q).Nodup) (hlt : ∀ id, id ∈ y_ids q → id < raws) (hQ : ∀ m', y_rp m m' 7 raws q (y_new 7 raws q s) → Q (nI (y_t (y_new 7 raws q s))) m') : mz_gi X mz_sh 153 0 [some (.ref 55), some (.int (nI 7)), none] m Q := by
  have a1 : y_rh 7 = [28, 22, 29, 21, 6] := by decide +kernel
  rw [a1] at hq
  obtain ⟨e1, q, rfl, x1, hq⟩ := y_mc hq
  obtain ⟨e2, q, rfl, x2, hq⟩ := y_mc hq
  obtain ⟨e3, q, rfl, x3, hq⟩ := y_mc hq
  obtain ⟨e4, q, rfl, x4, hq⟩ := y_mc hq
  obtain ⟨e5, q, rfl, x5, hq⟩ := y_mc hq
  have := y_m0 hq
  subst this
  have o1 := hok e1 (by simp)
  have o2 := hok e2 (by simp)
  have o3 := hok e3 (by simp)
  have o4 := hok e4 (by simp)
  have o5 := hok e5 (by simp)
  obtain ⟨s1, a1', v1, l1, b1, c1⟩ := y_one o1 x1 (by decide)
  obtain ⟨f2, n2, t2, i2⟩ := y_leaf o2 x2 (by decide)
  have tn2 := (o2.1 (by omega)).2.1
  obtain ⟨s3, a3', v3, l3, b3, c3⟩ := y_one o3 x3 (by decide)
  obtain ⟨f4, n4, t4, i4⟩ := y_leaf o4 x4 (by decide)
  have tn4 := (o4.1 (by omega)).2.1
  obtain ⟨f5, n5, t5, i5⟩ := y_leaf o5 x5 (by decide)
  have tn5 := (o5.1 (by omega)).2.1
  have h57r : m 57 (nI 7).toNatClampNeg = nI 5 := by rw [nI_clamp (by decide), h57]; decide +kernel
  have hin : mz_inb (nI 7) 32 = true := by decide +kernel
  refine t_M_reduce_0 _ ⟨hin, fun g => absurd g (by decide), fun _ => ⟨fun g => absurd g (by decide), fun _ => ?_⟩⟩
  refine t_M_statement_0 _ ⟨hin, fun g => absurd g (by decide), fun g => absurd g (by decide), fun g => absurd g (by decide), fun g => absurd g (by decide), fun _ => ⟨fun _ => ?_, fun g => absurd rfl g⟩, fun g => absurd g (by decide), fun m3 m4 m5 m6 m7 m8 => absurd rfl m7⟩
  rw [h57r]
  have htk : y_t e5 = y_n e5 := tn5
  have hids : y_ids [e1, e2, e3, e4, e5] = z_fid (y_f e3) ++ z_fid (y_f e1) := by simp only [y_ids, y_ide_n x1 (by decide), i2, y_ide_n x3 (by decide), i4, i5, List.nil_append, List.append_nil, List.append_assoc]
  have hS3 := hraw e3 (by simp)
  rw [y_RF_n x3 (by decide), b3] at hS3
  have hS1 := hraw e1 (by simp)
  rw [y_RF_n x1 (by decide), b1] at hS1
  have hnd' : (raws :: y_ids [e1, e2, e3, e4, e5]).Nodup := List.nodup_cons.mpr ⟨fun hm => Nat.lt_irrefl _ (hlt raws hm), hnd⟩
  have hlt' : ∀ id, id ∈ raws :: y_ids [e1, e2, e3, e4, e5] → id < 12100 := fun id hid => by
    rcases List.mem_cons.mp hid with g | g
    · omega
    · have := hlt id g
      omega
  rw [hids] at hnd' hlt'
  rw [b3, b1] at hnd' hlt'
  have hcat : y_cat [e1, e2, e3, e4, e5] = z_fap (y_f e3) (y_f e1) := by simp only [y_cat, f2, f4, f5, z_fap, z_fap_nil]
  have hnew : y_new 7 raws [e1, e2, e3, e4, e5] s = (s, y_le 7, 0, raws, .inner 0 (4, y_n e5, raws) () (z_fap (y_f e3) (y_f e1)) .leaf, fun i => y_sum i [e1, e2, e3, e4, e5] + y_co i 7) := by
    unfold y_new
    rw [hcat]
    rfl
  rw [hnew] at hQ
  refine s_M_thing (k := 0) (n := 5) hth rfl (by decide) ?_
  rw [show y_t ([e1, e2, e3, e4, e5].getD (5 - 1 - 0) y_e0) = y_n e5 from htk]
  refine s_M_raw (k := 4) h33 (by omega) (fun m1 p1 w1 => ?_)
  refine s_M_thing (k := 2) (n := 5) (hth.fm p1.1) rfl (by decide) ?_
  rw [show y_t ([e1, e2, e3, e4, e5].getD (5 - 1 - 2) y_e0) = a3'.2.2 from c3.symm]
  refine s_M_hang p1 hS3 (hnd'.sublist (List.Sublist.cons_cons _ (by simp only [z_fid, List.nil_append]; exact List.sublist_append_left _ _))) (fun id hid => hlt' id ((List.Sublist.cons_cons _ (by simp only [z_fid, List.nil_append]; exact List.sublist_append_left _ _)).subset hid)) (fun m2 p2 w2 => ?_)
  have p2 : y_pt m m2 raws 4 (y_n e5) (.inner s3 a3' v3 l3 .leaf) := p2
  refine s_M_thing (k := 4) (n := 5) (hth.fm p2.1) rfl (by decide) ?_
  rw [show y_t ([e1, e2, e3, e4, e5].getD (5 - 1 - 4) y_e0) = a1'.2.2 from c1.symm]
  refine s_M_hang p2 hS1 hnd' hlt' (fun m3 p3 w3 => ?_)
  refine ⟨fun g => absurd g (by decide), fun _ => t_M_statement_1 _ ?_⟩
  rw [← b3, ← b1] at p3
  refine hQ _ ⟨p3.1, ?_, p3.raw, fun id h1 h2 => p3.2.2.2.2.2.2.2.2 id h2 (fun h3 => h1 ?_)⟩
  · rw [w3, w2, w1]; rfl
  · rw [hids]
    simpa only [z_fid_ap, List.append_assoc] using h3
theorem s_Mr8 {X : mz_X} {m : mz_M} {Q : Int32 → mz_M → Prop} {tk : Nat → Nat} {c raws s : Nat} {q t : List y_E} (hq : q.map y_x = y_rh 8) (hok : ∀ e, e ∈ q → y_ok tk c e) (hth : y_th m q t) (h57 : m 57 = (fun j => nI (z_loL.getD j 0))) (h33 : m 55 33 = nI raws) (hrw : raws < 12000) (hraw : ∀ e, e ∈ q → z_raw m (-1) (y_RF e)) (hnd : (y_ids q).Nodup) (hlt : ∀ id, id ∈ y_ids q → id < raws) (hQ : ∀ m', y_rp m m' 8 raws q (y_new 8 raws q s) → Q (nI (y_t (y_new 8 raws q s))) m') : mz_gi X mz_sh 153 0 [some (.ref 55), some (.int (nI 8)), none] m Q := by
  have a1 : y_rh 8 = [20, 7] := by decide +kernel
  rw [a1] at hq
  obtain ⟨e1, q, rfl, x1, hq⟩ := y_mc hq
  obtain ⟨e2, q, rfl, x2, hq⟩ := y_mc hq
  have := y_m0 hq
  subst this
  have o1 := hok e1 (by simp)
  have o2 := hok e2 (by simp)
  obtain ⟨f1, n1, t1, i1⟩ := y_leaf o1 x1 (by decide)
  have tn1 := (o1.1 (by omega)).2.1
  obtain ⟨f2, n2, t2, i2⟩ := y_leaf o2 x2 (by decide)
  have tn2 := (o2.1 (by omega)).2.1
  have h57r : m 57 (nI 8).toNatClampNeg = nI 2 := by rw [nI_clamp (by decide), h57]; decide +kernel
  have hin : mz_inb (nI 8) 32 = true := by decide +kernel
  refine t_M_reduce_0 _ ⟨hin, fun g => absurd g (by decide), fun _ => ⟨fun g => absurd g (by decide), fun _ => ?_⟩⟩
  refine t_M_statement_0 _ ⟨hin, fun g => absurd g (by decide), fun g => absurd g (by decide), fun g => absurd g (by decide), fun g => absurd g (by decide), fun g => absurd g (by decide), fun _ => ?_, fun m3 m4 m5 m6 m7 m8 => absurd rfl m8⟩
  rw [h57r]
  have htk : y_t e2 = y_n e2 := tn2
  have hids : y_ids [e1, e2] = [] := by simp only [y_ids, i1, i2, List.nil_append]
  have hnd' : (raws :: y_ids [e1, e2]).Nodup := List.nodup_cons.mpr ⟨fun hm => Nat.lt_irrefl _ (hlt raws hm), hnd⟩
  have hlt' : ∀ id, id ∈ raws :: y_ids [e1, e2] → id < 12100 := fun id hid => by
    rcases List.mem_cons.mp hid with g | g
    · omega
    · have := hlt id g
      omega
  rw [hids] at hnd' hlt'
  have hcat : y_cat [e1, e2] = .leaf := by simp only [y_cat, f1, f2, z_fap, z_fap_nil]
  have hnew : y_new 8 raws [e1, e2] s = (s, y_le 8, 0, raws, .inner 0 (5, y_n e2, raws) () (.leaf) .leaf, fun i => y_sum i [e1, e2] + y_co i 8) := by
    unfold y_new
    rw [hcat]
    rfl
  rw [hnew] at hQ
  refine s_M_thing (k := 0) (n := 2) hth rfl (by decide) ?_
  rw [show y_t ([e1, e2].getD (2 - 1 - 0) y_e0) = y_n e2 from htk]
  refine s_M_raw (k := 5) h33 (by omega) (fun m1 p1 w1 => ?_)
  refine hQ _ ⟨p1.1, ?_, p1.raw, fun id h1 h2 => p1.2.2.2.2.2.2.2.2 id h2 (fun h3 => h1 ?_)⟩
  · rw [w1]; rfl
  · simp [z_fid] at h3
theorem s_Mr9 {X : mz_X} {m : mz_M} {Q : Int32 → mz_M → Prop} {tk : Nat → Nat} {c raws s : Nat} {q t : List y_E} (hq : q.map y_x = y_rh 9) (hok : ∀ e, e ∈ q → y_ok tk c e) (hth : y_th m q t) (h57 : m 57 = (fun j => nI (z_loL.getD j 0))) (h33 : m 55 33 = nI raws) (hrw : raws < 12000) (hraw : ∀ e, e ∈ q → z_raw m (-1) (y_RF e)) (hnd : (y_ids q).Nodup) (hlt : ∀ id, id ∈ y_ids q → id < raws) (hQ : ∀ m', y_rp m m' 9 raws q (y_new 9 raws q s) → Q (nI (y_t (y_new 9 raws q s))) m') : mz_gi X mz_sh 153 0 [some (.ref 55), some (.int (nI 9)), none] m Q := by
  have a1 : y_rh 9 = [20, 8] := by decide +kernel
  rw [a1] at hq
  obtain ⟨e1, q, rfl, x1, hq⟩ := y_mc hq
  obtain ⟨e2, q, rfl, x2, hq⟩ := y_mc hq
  have := y_m0 hq
  subst this
  have o1 := hok e1 (by simp)
  have o2 := hok e2 (by simp)
  obtain ⟨f1, n1, t1, i1⟩ := y_leaf o1 x1 (by decide)
  have tn1 := (o1.1 (by omega)).2.1
  obtain ⟨f2, n2, t2, i2⟩ := y_leaf o2 x2 (by decide)
  have tn2 := (o2.1 (by omega)).2.1
  have h57r : m 57 (nI 9).toNatClampNeg = nI 2 := by rw [nI_clamp (by decide), h57]; decide +kernel
  have hin : mz_inb (nI 9) 32 = true := by decide +kernel
  refine t_M_reduce_0 _ ⟨hin, fun g => absurd g (by decide), fun _ => ⟨fun g => absurd g (by decide), fun _ => ?_⟩⟩
  refine t_M_statement_0 _ ⟨hin, fun g => absurd g (by decide), fun g => absurd g (by decide), fun g => absurd g (by decide), fun g => absurd g (by decide), fun g => absurd g (by decide), fun g => absurd g (by decide), fun _ _ _ _ _ _ => ?_⟩
  rw [h57r]
  have htk : y_t e2 = y_n e2 := tn2
  have hids : y_ids [e1, e2] = [] := by simp only [y_ids, i1, i2, List.nil_append]
  have hnd' : (raws :: y_ids [e1, e2]).Nodup := List.nodup_cons.mpr ⟨fun hm => Nat.lt_irrefl _ (hlt raws hm), hnd⟩
  have hlt' : ∀ id, id ∈ raws :: y_ids [e1, e2] → id < 12100 := fun id hid => by
    rcases List.mem_cons.mp hid with g | g
    · omega
    · have := hlt id g
      omega
  rw [hids] at hnd' hlt'
  have hcat : y_cat [e1, e2] = .leaf := by simp only [y_cat, f1, f2, z_fap, z_fap_nil]
  have hnew : y_new 9 raws [e1, e2] s = (s, y_le 9, 0, raws, .inner 0 (6, y_n e2, raws) () (.leaf) .leaf, fun i => y_sum i [e1, e2] + y_co i 9) := by
    unfold y_new
    rw [hcat]
    rfl
  rw [hnew] at hQ
  refine s_M_thing (k := 0) (n := 2) hth rfl (by decide) ?_
  rw [show y_t ([e1, e2].getD (2 - 1 - 0) y_e0) = y_n e2 from htk]
  refine s_M_raw (k := 6) h33 (by omega) (fun m1 p1 w1 => ?_)
  refine hQ _ ⟨p1.1, ?_, p1.raw, fun id h1 h2 => p1.2.2.2.2.2.2.2.2 id h2 (fun h3 => h1 ?_)⟩
  · rw [w1]; rfl
  · simp [z_fid] at h3
theorem s_Mr10 {X : mz_X} {m : mz_M} {Q : Int32 → mz_M → Prop} {tk : Nat → Nat} {c raws s : Nat} {q t : List y_E} (hq : q.map y_x = y_rh 10) (hok : ∀ e, e ∈ q → y_ok tk c e) (hth : y_th m q t) (h57 : m 57 = (fun j => nI (z_loL.getD j 0))) (h33 : m 55 33 = nI raws) (hrw : raws < 12000) (hraw : ∀ e, e ∈ q → z_raw m (-1) (y_RF e)) (hnd : (y_ids q).Nodup) (hlt : ∀ id, id ∈ y_ids q → id < raws) (hQ : ∀ m', y_rp m m' 10 raws q (y_new 10 raws q s) → Q (nI (y_t (y_new 10 raws q s))) m') : mz_gi X mz_sh 153 0 [some (.ref 55), some (.int (nI 10)), none] m Q := by
  have a1 : y_rh 10 = [28] := by decide +kernel
  rw [a1] at hq
  obtain ⟨e1, q, rfl, x1, hq⟩ := y_mc hq
  have := y_m0 hq
  subst this
  have o1 := hok e1 (by simp)
  obtain ⟨s1, a1', v1, l1, b1, c1⟩ := y_one o1 x1 (by decide)
  have h57r : m 57 (nI 10).toNatClampNeg = nI 1 := by rw [nI_clamp (by decide), h57]; decide +kernel
  have hin : mz_inb (nI 10) 32 = true := by decide +kernel
  refine t_M_reduce_0 _ ⟨hin, fun g => absurd g (by decide), fun _ => ⟨fun _ => ?_, fun g => absurd (by decide) g⟩⟩
  refine t_M_reduce_1 _ _ ⟨fun g => absurd g (by decide), fun g => absurd g (by decide), fun g => absurd g (by decide), fun g => absurd g (by decide), fun g => absurd g (by decide), fun g => absurd g (by decide), fun g => absurd g (by decide), fun g => absurd g (by decide), fun g => absurd g (by decide), fun g => absurd g (by decide), fun g => absurd g (by decide), fun g => absurd g (by decide), fun g => absurd g (by decide), fun g => absurd g (by decide), fun g => absurd g (by decide), fun g => absurd g (by decide), fun g => absurd g (by decide), fun _ _ _ _ _ _ _ _ _ _ _ _ _ _ _ _ _ => ?_⟩
  rw [h57r]
  refine s_M_thing (k := 0) (n := 1) hth rfl (by decide) ?_
  have hcat : y_cat [e1] = y_f e1 := by simp only [y_cat, z_fap]
  have hnew : y_new 10 raws [e1] s = (s, y_le 10, 0, y_t e1, y_f e1, fun i => y_sum i [e1] + y_co i 10) := by
    unfold y_new
    rw [hcat]
    rfl
  rw [hnew] at hQ
  refine hQ m ⟨z_fm.rf _ _ _, by rw [h33]; rfl, ?_, fun id _ _ => ⟨rfl, rfl, rfl, rfl, rfl, rfl⟩⟩
  have h1 := hraw e1 (by simp)
  rw [y_RF_n x1 (by decide)] at h1
  exact h1
theorem s_Mr11 {X : mz_X} {m : mz_M} {Q : Int32 → mz_M → Prop} {tk : Nat → Nat} {c raws s : Nat} {q t : List y_E} (hq : q.map y_x = y_rh 11) (hok : ∀ e, e ∈ q → y_ok tk c e) (hth : y_th m q t) (h57 : m 57 = (fun j => nI (z_loL.getD j 0))) (h33 : m 55 33 = nI raws) (hrw : raws < 12000) (hraw : ∀ e, e ∈ q → z_raw m (-1) (y_RF e)) (hnd : (y_ids q).Nodup) (hlt : ∀ id, id ∈ y_ids q → id < raws) (hQ : ∀ m', y_rp m m' 11 raws q (y_new 11 raws q s) → Q (nI (y_t (y_new 11 raws q s))) m') : mz_gi X mz_sh 153 0 [some (.ref 55), some (.int (nI 11)), none] m Q := by
  have a1 : y_rh 11 = [24, 26, 23] := by decide +kernel
  rw [a1] at hq
  obtain ⟨e1, q, rfl, x1, hq⟩ := y_mc hq
  obtain ⟨e2, q, rfl, x2, hq⟩ := y_mc hq
  obtain ⟨e3, q, rfl, x3, hq⟩ := y_mc hq
  have := y_m0 hq
  subst this
  have o1 := hok e1 (by simp)
  have o2 := hok e2 (by simp)
  have o3 := hok e3 (by simp)
  obtain ⟨f1, n1, t1, i1⟩ := y_leaf o1 x1 (by decide)
  have tn1 := (o1.1 (by omega)).2.1
  obtain ⟨f3, n3, t3, i3⟩ := y_leaf o3 x3 (by decide)
  have tn3 := (o3.1 (by omega)).2.1
  have h57r : m 57 (nI 11).toNatClampNeg = nI 3 := by rw [nI_clamp (by decide), h57]; decide +kernel
  have hin : mz_inb (nI 11) 32 = true := by decide +kernel
  refine t_M_reduce_0 _ ⟨hin, fun g => absurd g (by decide), fun _ => ⟨fun _ => ?_, fun g => absurd (by decide) g⟩⟩
  refine t_M_reduce_1 _ _ ⟨fun g => absurd g (by decide), fun g => absurd g (by decide), fun _ => ?_, fun g => absurd g (by decide), fun g => absurd g (by decide), fun g => absurd g (by decide), fun g => absurd g (by decide), fun g => absurd g (by decide), fun g => absurd g (by decide), fun g => absurd g (by decide), fun g => absurd g (by decide), fun g => absurd g (by decide), fun g => absurd g (by decide), fun g => absurd g (by decide), fun g => absurd g (by decide), fun g => absurd g (by decide), fun g => absurd g (by decide), fun m1 m2 m11 m12 m14 m16 m17 m19 m20 m22 m23 m24 m26 m27 m29 m30 m31 => absurd rfl m11⟩
  rw [h57r]
  refine s_M_thing (k := 1) (n := 3) hth rfl (by decide) (s_M_thing (k := 0) (n := 3) hth rfl (by decide) ?_)
  have hL := hraw e2 (by simp)
  have hL' : y_RF e2 = .inner 0 (0, 0, y_t e2) () (y_f e2) .leaf := by simp only [y_RF, x2, if_true]
  rw [hL'] at hL
  have hids : y_ids [e1, e2, e3] = y_t e2 :: z_fid (y_f e2) := by simp only [y_ids, i1, i3, List.nil_append, List.append_nil]; simp [y_ide, x2]
  rw [hids] at hnd hlt
  have hb := hlt (y_t e2) List.mem_cons_self
  have ht1 : y_t ([e1, e2, e3].getD (3 - 1 - 1) y_e0) = y_t e2 := rfl
  have ht2 : y_t ([e1, e2, e3].getD (3 - 1 - 0) y_e0) = y_n e3 := tn3
  rw [ht1, ht2, nI_clamp (by omega)]
  refine ⟨mz_inbN (by omega) (by decide), ?_⟩
  have fm1 : z_fm [76, 77, 78, 79, 80, 81] [33] m (mz_up m 77 (y_t e2) (nI (y_n e3))) := (z_fm.rf _ _ _).up (by decide) (by decide)
  refine s_M_thing (k := 1) (n := 3) (hth.fm fm1) rfl (by decide) ?_
  have hcat : y_cat [e1, e2, e3] = y_f e2 := by simp only [y_cat, f1, f3, z_fap, z_fap_nil]
  have hnew : y_new 11 raws [e1, e2, e3] s = (s, 28, 0, y_t e2, .inner 0 (0, y_n e3, y_t e2) () (y_f e2) .leaf, fun i => y_sum i [e1, e2, e3] + y_co i 11) := by
    unfold y_new
    rw [hcat]
    rfl
  rw [hnew] at hQ
  simp only [List.nodup_cons] at hnd
  obtain ⟨q1, q2, q3, q4, q5, q6, q7, q8⟩ := hL
  refine hQ _ ⟨fm1, by rw [mz_up_n _ _ _ (by decide), h33]; rfl, ⟨?_, ?_, ?_, ?_, ?_, ?_, ?_, trivial⟩, fun id h1 _ => ?_⟩
  · rw [mz_up_n _ _ _ (by decide)]; exact q1
  · rw [mz_up_k]; simp [upd]
  · rw [mz_up_n _ _ _ (by decide)]; exact q3
  · rw [mz_up_n _ _ _ (by decide)]; exact q4
  · rw [mz_up_n _ _ _ (by decide)]; exact q5
  · rw [mz_up_n _ _ _ (by decide)]; exact q6
  · refine z_raw_fr _ _ (fun id hid => ?_) q7
    have : id ≠ y_t e2 := fun e => hnd.1 (e ▸ hid)
    unfold y_sm
    simp [mz_up, upd, this]
  · have : id ≠ y_t e2 := fun e => h1 (by rw [hids, e]; exact List.mem_cons_self)
    unfold y_sm
    simp [mz_up, upd, this]
theorem s_Mr12 {X : mz_X} {m : mz_M} {Q : Int32 → mz_M → Prop} {tk : Nat → Nat} {c raws s : Nat} {q t : List y_E} (hq : q.map y_x = y_rh 12) (hok : ∀ e, e ∈ q → y_ok tk c e) (hth : y_th m q t) (h57 : m 57 = (fun j => nI (z_loL.getD j 0))) (h33 : m 55 33 = nI raws) (hrw : raws < 12000) (hraw : ∀ e, e ∈ q → z_raw m (-1) (y_RF e)) (hnd : (y_ids q).Nodup) (hlt : ∀ id, id ∈ y_ids q → id < raws) (hQ : ∀ m', y_rp m m' 12 raws q (y_new 12 raws q s) → Q (nI (y_t (y_new 12 raws q s))) m') : mz_gi X mz_sh 153 0 [some (.ref 55), some (.int (nI 12)), none] m Q := by
  have a1 : y_rh 12 = [30, 9, 29] := by decide +kernel
  rw [a1] at hq
  obtain ⟨e1, q, rfl, x1, hq⟩ := y_mc hq
  obtain ⟨e2, q, rfl, x2, hq⟩ := y_mc hq
  obtain ⟨e3, q, rfl, x3, hq⟩ := y_mc hq
  have := y_m0 hq
  subst this
  have o1 := hok e1 (by simp)
  have o2 := hok e2 (by simp)
  have o3 := hok e3 (by simp)
  obtain ⟨s1, a1', v1, l1, b1, c1⟩ := y_one o1 x1 (by decide)
  obtain ⟨f2, n2, t2, i2⟩ := y_leaf o2 x2 (by decide)
  have tn2 := (o2.1 (by omega)).2.1
  obtain ⟨s3, a3', v3, l3, b3, c3⟩ := y_one o3 x3 (by decide)
  have h57r : m 57 (nI 12).toNatClampNeg = nI 3 := by rw [nI_clamp (by decide), h57]; decide +kernel
  have hin : mz_inb (nI 12) 32 = true := by decide +kernel
  refine t_M_reduce_0 _ ⟨hin, fun g => absurd g (by decide), fun _ => ⟨fun _ => ?_, fun g => absurd (by decide) g⟩⟩
  refine t_M_reduce_1 _ _ ⟨fun g => absurd g (by decide), fun g => absurd g (by decide), fun g => absurd g (by decide), fun _ => ?_, fun g => absurd g (by decide), fun g => absurd g (by decide), fun g => absurd g (by decide), fun g => absurd g (by decide), fun g => absurd g (by decide), fun g => absurd g (by decide), fun g => absurd g (by decide), fun g => absurd g (by decide), fun g => absurd g (by decide), fun g => absurd g (by decide), fun g => absurd g (by decide), fun g => absurd g (by decide), fun g => absurd g (by decide), fun m1 m2 m11 m12 m14 m16 m17 m19 m20 m22 m23 m24 m26 m27 m29 m30 m31 => absurd rfl m12⟩
  rw [h57r]
  have htk : y_t e2 = y_n e2 := tn2
  have hids : y_ids [e1, e2, e3] = z_fid (y_f e3) ++ z_fid (y_f e1) := by simp only [y_ids, y_ide_n x1 (by decide), i2, y_ide_n x3 (by decide), List.nil_append, List.append_nil, List.append_assoc]
  have hS3 := hraw e3 (by simp)
  rw [y_RF_n x3 (by decide), b3] at hS3
  have hS1 := hraw e1 (by simp)
  rw [y_RF_n x1 (by decide), b1] at hS1
  have hnd' : (raws :: y_ids [e1, e2, e3]).Nodup := List.nodup_cons.mpr ⟨fun hm => Nat.lt_irrefl _ (hlt raws hm), hnd⟩
  have hlt' : ∀ id, id ∈ raws :: y_ids [e1, e2, e3] → id < 12100 := fun id hid => by
    rcases List.mem_cons.mp hid with g | g
    · omega
    · have := hlt id g
      omega
  rw [hids] at hnd' hlt'
  rw [b3, b1] at hnd' hlt'
  have hcat : y_cat [e1, e2, e3] = z_fap (y_f e3) (y_f e1) := by simp only [y_cat, f2, z_fap, z_fap_nil]
  have hnew : y_new 12 raws [e1, e2, e3] s = (s, y_le 12, 0, raws, .inner 0 (7, y_n e2, raws) () (z_fap (y_f e3) (y_f e1)) .leaf, fun i => y_sum i [e1, e2, e3] + y_co i 12) := by
    unfold y_new
    rw [hcat]
    rfl
  rw [hnew] at hQ
  refine t_M_two_0 _ _ ?_
  refine s_M_thing (k := 1) (n := 3) hth rfl (by decide) ?_
  rw [show y_t ([e1, e2, e3].getD (3 - 1 - 1) y_e0) = y_n e2 from htk]
  refine s_M_raw (k := 7) h33 (by omega) (fun m1 p1 w1 => ?_)
  refine s_M_thing (k := 0) (n := 3) (hth.fm p1.1) rfl (by decide) ?_
  rw [show y_t ([e1, e2, e3].getD (3 - 1 - 0) y_e0) = a3'.2.2 from c3.symm]
  refine s_M_hang p1 hS3 (hnd'.sublist (List.Sublist.cons_cons _ (by simp only [z_fid, List.nil_append]; exact List.sublist_append_left _ _))) (fun id hid => hlt' id ((List.Sublist.cons_cons _ (by simp only [z_fid, List.nil_append]; exact List.sublist_append_left _ _)).subset hid)) (fun m2 p2 w2 => ?_)
  have p2 : y_pt m m2 raws 7 (y_n e2) (.inner s3 a3' v3 l3 .leaf) := p2
  refine s_M_thing (k := 2) (n := 3) (hth.fm p2.1) rfl (by decide) ?_
  rw [show y_t ([e1, e2, e3].getD (3 - 1 - 2) y_e0) = a1'.2.2 from c1.symm]
  refine s_M_hang p2 hS1 hnd' hlt' (fun m3 p3 w3 => ?_)
  rw [← b3, ← b1] at p3
  refine hQ _ ⟨p3.1, ?_, p3.raw, fun id h1 h2 => p3.2.2.2.2.2.2.2.2 id h2 (fun h3 => h1 ?_)⟩
  · rw [w3, w2, w1]; rfl
  · rw [hids]
    simpa only [z_fid_ap, List.append_assoc] using h3
theorem s_Mr13 {X : mz_X} {m : mz_M} {Q : Int32 → mz_M → Prop} {tk : Nat → Nat} {c raws s : Nat} {q t : List y_E} (hq : q.map y_x = y_rh 13) (hok : ∀ e, e ∈ q → y_ok tk c e) (hth : y_th m q t) (h57 : m 57 = (fun j => nI (z_loL.getD j 0))) (h33 : m 55 33 = nI raws) (hrw : raws < 12000) (hraw : ∀ e, e ∈ q → z_raw m (-1) (y_RF e)) (hnd : (y_ids q).Nodup) (hlt : ∀ id, id ∈ y_ids q → id < raws) (hQ : ∀ m', y_rp m m' 13 raws q (y_new 13 raws q s) → Q (nI (y_t (y_new 13 raws q s))) m') : mz_gi X mz_sh 153 0 [some (.ref 55), some (.int (nI 13)), none] m Q := by
  have a1 : y_rh 13 = [30] := by decide +kernel
  rw [a1] at hq
  obtain ⟨e1, q, rfl, x1, hq⟩ := y_mc hq
  have := y_m0 hq
  subst this
  have o1 := hok e1 (by simp)
  obtain ⟨s1, a1', v1, l1, b1, c1⟩ := y_one o1 x1 (by decide)
  have h57r : m 57 (nI 13).toNatClampNeg = nI 1 := by rw [nI_clamp (by decide), h57]; decide +kernel
  have hin : mz_inb (nI 13) 32 = true := by decide +kernel
  refine t_M_reduce_0 _ ⟨hin, fun g => absurd g (by decide), fun _ => ⟨fun _ => ?_, fun g => absurd (by decide) g⟩⟩
  refine t_M_reduce_1 _ _ ⟨fun g => absurd g (by decide), fun g => absurd g (by decide), fun g => absurd g (by decide), fun g => absurd g (by decide), fun g => absurd g (by decide), fun g => absurd g (by decide), fun g => absurd g (by decide), fun g => absurd g (by decide), fun g => absurd g (by decide), fun g => absurd g (by decide), fun g => absurd g (by decide), fun g => absurd g (by decide), fun g => absurd g (by decide), fun g => absurd g (by decide), fun g => absurd g (by decide), fun g => absurd g (by decide), fun g => absurd g (by decide), fun _ _ _ _ _ _ _ _ _ _ _ _ _ _ _ _ _ => ?_⟩
  rw [h57r]
  refine s_M_thing (k := 0) (n := 1) hth rfl (by decide) ?_
  have hcat : y_cat [e1] = y_f e1 := by simp only [y_cat, z_fap]
  have hnew : y_new 13 raws [e1] s = (s, y_le 13, 0, y_t e1, y_f e1, fun i => y_sum i [e1] + y_co i 13) := by
    unfold y_new
    rw [hcat]
    rfl
  rw [hnew] at hQ
  refine hQ m ⟨z_fm.rf _ _ _, by rw [h33]; rfl, ?_, fun id _ _ => ⟨rfl, rfl, rfl, rfl, rfl, rfl⟩⟩
  have h1 := hraw e1 (by simp)
  rw [y_RF_n x1 (by decide)] at h1
  exact h1
theorem s_Mr14 {X : mz_X} {m : mz_M} {Q : Int32 → mz_M → Prop} {tk : Nat → Nat} {c raws s : Nat} {q t : List y_E} (hq : q.map y_x = y_rh 14) (hok : ∀ e, e ∈ q → y_ok tk c e) (hth : y_th m q t) (h57 : m 57 = (fun j => nI (z_loL.getD j 0))) (h33 : m 55 33 = nI raws) (hrw : raws < 12000) (hraw : ∀ e, e ∈ q → z_raw m (-1) (y_RF e)) (hnd : (y_ids q).Nodup) (hlt : ∀ id, id ∈ y_ids q → id < raws) (hQ : ∀ m', y_rp m m' 14 raws q (y_new 14 raws q s) → Q (nI (y_t (y_new 14 raws q s))) m') : mz_gi X mz_sh 153 0 [some (.ref 55), some (.int (nI 14)), none] m Q := by
  have a1 : y_rh 14 = [31, 10, 30] := by decide +kernel
  rw [a1] at hq
  obtain ⟨e1, q, rfl, x1, hq⟩ := y_mc hq
  obtain ⟨e2, q, rfl, x2, hq⟩ := y_mc hq
  obtain ⟨e3, q, rfl, x3, hq⟩ := y_mc hq
  have := y_m0 hq
  subst this
  have o1 := hok e1 (by simp)
  have o2 := hok e2 (by simp)
  have o3 := hok e3 (by simp)
  obtain ⟨s1, a1', v1, l1, b1, c1⟩ := y_one o1 x1 (by decide)
  obtain ⟨f2, n2, t2, i2⟩ := y_leaf o2 x2 (by decide)
  have tn2 := (o2.1 (by omega)).2.1
  obtain ⟨s3, a3', v3, l3, b3, c3⟩ := y_one o3 x3 (by decide)
  have h57r : m 57 (nI 14).toNatClampNeg = nI 3 := by rw [nI_clamp (by decide), h57]; decide +kernel
  have hin : mz_inb (nI 14) 32 = true := by decide +kernel
  refine t_M_reduce_0 _ ⟨hin, fun g => absurd g (by decide), fun _ => ⟨fun _ => ?_, fun g => absurd (by decide) g⟩⟩
  refine t_M_reduce_1 _ _ ⟨fun g => absurd g (by decide), fun g => absurd g (by decide), fun g => absurd g (by decide), fun g => absurd g (by decide), fun _ => ?_, fun g => absurd g (by decide), fun g => absurd g (by decide), fun g => absurd g (by decide), fun g => absurd g (by decide), fun g => absurd g (by decide), fun g => absurd g (by decide), fun g => absurd g (by decide), fun g => absurd g (by decide), fun g => absurd g (by decide), fun g => absurd g (by decide), fun g => absurd g (by decide), fun g => absurd g (by decide), fun m1 m2 m11 m12 m14 m16 m17 m19 m20 m22 m23 m24 m26 m27 m29 m30 m31 => absurd rfl m14⟩
  rw [h57r]
  have htk : y_t e2 = y_n e2 := tn2
  have hids : y_ids [e1, e2, e3] = z_fid (y_f e3) ++ z_fid (y_f e1) := by simp only [y_ids, y_ide_n x1 (by decide), i2, y_ide_n x3 (by decide), List.nil_append, List.append_nil, List.append_assoc]
  have hS3 := hraw e3 (by simp)
  rw [y_RF_n x3 (by decide), b3] at hS3
  have hS1 := hraw e1 (by simp)
  rw [y_RF_n x1 (by decide), b1] at hS1
  have hnd' : (raws :: y_ids [e1, e2, e3]).Nodup := List.nodup_cons.mpr ⟨fun hm => Nat.lt_irrefl _ (hlt raws hm), hnd⟩
  have hlt' : ∀ id, id ∈ raws :: y_ids [e1, e2, e3] → id < 12100 := fun id hid => by
    rcases List.mem_cons.mp hid with g | g
    · omega
    · have := hlt id g
      omega
  rw [hids] at hnd' hlt'
  rw [b3, b1] at hnd' hlt'
  have hcat : y_cat [e1, e2, e3] = z_fap (y_f e3) (y_f e1) := by simp only [y_cat, f2, z_fap, z_fap_nil]
  have hnew : y_new 14 raws [e1, e2, e3] s = (s, y_le 14, 0, raws, .inner 0 (8, y_n e2, raws) () (z_fap (y_f e3) (y_f e1)) .leaf, fun i => y_sum i [e1, e2, e3] + y_co i 14) := by
    unfold y_new
    rw [hcat]
    rfl
  rw [hnew] at hQ
  refine t_M_two_0 _ _ ?_
  refine s_M_thing (k := 1) (n := 3) hth rfl (by decide) ?_
  rw [show y_t ([e1, e2, e3].getD (3 - 1 - 1) y_e0) = y_n e2 from htk]
  refine s_M_raw (k := 8) h33 (by omega) (fun m1 p1 w1 => ?_)
  refine s_M_thing (k := 0) (n := 3) (hth.fm p1.1) rfl (by decide) ?_
  rw [show y_t ([e1, e2, e3].getD (3 - 1 - 0) y_e0) = a3'.2.2 from c3.symm]
  refine s_M_hang p1 hS3 (hnd'.sublist (List.Sublist.cons_cons _ (by simp only [z_fid, List.nil_append]; exact List.sublist_append_left _ _))) (fun id hid => hlt' id ((List.Sublist.cons_cons _ (by simp only [z_fid, List.nil_append]; exact List.sublist_append_left _ _)).subset hid)) (fun m2 p2 w2 => ?_)
  have p2 : y_pt m m2 raws 8 (y_n e2) (.inner s3 a3' v3 l3 .leaf) := p2
  refine s_M_thing (k := 2) (n := 3) (hth.fm p2.1) rfl (by decide) ?_
  rw [show y_t ([e1, e2, e3].getD (3 - 1 - 2) y_e0) = a1'.2.2 from c1.symm]
  refine s_M_hang p2 hS1 hnd' hlt' (fun m3 p3 w3 => ?_)
  rw [← b3, ← b1] at p3
  refine hQ _ ⟨p3.1, ?_, p3.raw, fun id h1 h2 => p3.2.2.2.2.2.2.2.2 id h2 (fun h3 => h1 ?_)⟩
  · rw [w3, w2, w1]; rfl
  · rw [hids]
    simpa only [z_fid_ap, List.append_assoc] using h3
theorem s_Mr15 {X : mz_X} {m : mz_M} {Q : Int32 → mz_M → Prop} {tk : Nat → Nat} {c raws s : Nat} {q t : List y_E} (hq : q.map y_x = y_rh 15) (hok : ∀ e, e ∈ q → y_ok tk c e) (hth : y_th m q t) (h57 : m 57 = (fun j => nI (z_loL.getD j 0))) (h33 : m 55 33 = nI raws) (hrw : raws < 12000) (hraw : ∀ e, e ∈ q → z_raw m (-1) (y_RF e)) (hnd : (y_ids q).Nodup) (hlt : ∀ id, id ∈ y_ids q → id < raws) (hQ : ∀ m', y_rp m m' 15 raws q (y_new 15 raws q s) → Q (nI (y_t (y_new 15 raws q s))) m') : mz_gi X mz_sh 153 0 [some (.ref 55), some (.int (nI 15)), none] m Q := by
  have a1 : y_rh 15 = [31] := by decide +kernel
  rw [a1] at hq
  obtain ⟨e1, q, rfl, x1, hq⟩ := y_mc hq
  have := y_m0 hq
  subst this
  have o1 := hok e1 (by simp)
  obtain ⟨s1, a1', v1, l1, b1, c1⟩ := y_one o1 x1 (by decide)
  have h57r : m 57 (nI 15).toNatClampNeg = nI 1 := by rw [nI_clamp (by decide), h57]; decide +kernel
  have hin : mz_inb (nI 15) 32 = true := by decide +kernel
  refine t_M_reduce_0 _ ⟨hin, fun g => absurd g (by decide), fun _ => ⟨fun _ => ?_, fun g => absurd (by decide) g⟩⟩
  refine t_M_reduce_1 _ _ ⟨fun g => absurd g (by decide), fun g => absurd g (by decide), fun g => absurd g (by decide), fun g => absurd g (by decide), fun g => absurd g (by decide), fun g => absurd g (by decide), fun g => absurd g (by decide), fun g => absurd g (by decide), fun g => absurd g (by decide), fun g => absurd g (by decide), fun g => absurd g (by decide), fun g => absurd g (by decide), fun g => absurd g (by decide), fun g => absurd g (by decide), fun g => absurd g (by decide), fun g => absurd g (by decide), fun g => absurd g (by decide), fun _ _ _ _ _ _ _ _ _ _ _ _ _ _ _ _ _ => ?_⟩
  rw [h57r]
  refine s_M_thing (k := 0) (n := 1) hth rfl (by decide) ?_
  have hcat : y_cat [e1] = y_f e1 := by simp only [y_cat, z_fap]
  have hnew : y_new 15 raws [e1] s = (s, y_le 15, 0, y_t e1, y_f e1, fun i => y_sum i [e1] + y_co i 15) := by
    unfold y_new
    rw [hcat]
    rfl
  rw [hnew] at hQ
  refine hQ m ⟨z_fm.rf _ _ _, by rw [h33]; rfl, ?_, fun id _ _ => ⟨rfl, rfl, rfl, rfl, rfl, rfl⟩⟩
  have h1 := hraw e1 (by simp)
  rw [y_RF_n x1 (by decide)] at h1
  exact h1
theorem s_Mr16 {X : mz_X} {m : mz_M} {Q : Int32 → mz_M → Prop} {tk : Nat → Nat} {c raws s : Nat} {q t : List y_E} (hq : q.map y_x = y_rh 16) (hok : ∀ e, e ∈ q → y_ok tk c e) (hth : y_th m q t) (h57 : m 57 = (fun j => nI (z_loL.getD j 0))) (h33 : m 55 33 = nI raws) (hrw : raws < 12000) (hraw : ∀ e, e ∈ q → z_raw m (-1) (y_RF e)) (hnd : (y_ids q).Nodup) (hlt : ∀ id, id ∈ y_ids q → id < raws) (hQ : ∀ m', y_rp m m' 16 raws q (y_new 16 raws q s) → Q (nI (y_t (y_new 16 raws q s))) m') : mz_gi X mz_sh 153 0 [some (.ref 55), some (.int (nI 16)), none] m Q := by
  have a1 : y_rh 16 = [32, 11, 31] := by decide +kernel
  rw [a1] at hq
  obtain ⟨e1, q, rfl, x1, hq⟩ := y_mc hq
  obtain ⟨e2, q, rfl, x2, hq⟩ := y_mc hq
  obtain ⟨e3, q, rfl, x3, hq⟩ := y_mc hq
  have := y_m0 hq
  subst this
  have o1 := hok e1 (by simp)
  have o2 := hok e2 (by simp)
  have o3 := hok e3 (by simp)
  obtain ⟨s1, a1', v1, l1, b1, c1⟩ := y_one o1 x1 (by decide)
  obtain ⟨f2, n2, t2, i2⟩ := y_leaf o2 x2 (by decide)
  have tn2 := (o2.1 (by omega)).2.1
  obtain ⟨s3, a3', v3, l3, b3, c3⟩ := y_one o3 x3 (by decide)
  have h57r : m 57 (nI 16).toNatClampNeg = nI 3 := by rw [nI_clamp (by decide), h57]; decide +kernel
  have hin : mz_inb (nI 16) 32 = true := by decide +kernel
  refine t_M_reduce_0 _ ⟨hin, fun g => absurd g (by decide), fun _ => ⟨fun _ => ?_, fun g => absurd (by decide) g⟩⟩
  refine t_M_reduce_1 _ _ ⟨fun g => absurd g (by decide), fun g => absurd g (by decide), fun g => absurd g (by decide), fun g => absurd g (by decide), fun g => absurd g (by decide), fun _ => ?_, fun g => absurd g (by decide), fun g => absurd g (by decide), fun g => absurd g (by decide), fun g => absurd g (by decide), fun g => absurd g (by decide), fun g => absurd g (by decide), fun g => absurd g (by decide), fun g => absurd g (by decide), fun g => absurd g (by decide), fun g => absurd g (by decide), fun g => absurd g (by decide), fun m1 m2 m11 m12 m14 m16 m17 m19 m20 m22 m23 m24 m26 m27 m29 m30 m31 => absurd rfl m16⟩
  rw [h57r]
  have htk : y_t e2 = y_n e2 := tn2
  have hids : y_ids [e1, e2, e3] = z_fid (y_f e3) ++ z_fid (y_f e1) := by simp only [y_ids, y_ide_n x1 (by decide), i2, y_ide_n x3 (by decide), List.nil_append, List.append_nil, List.append_assoc]
  have hS3 := hraw e3 (by simp)
  rw [y_RF_n x3 (by decide), b3] at hS3
  have hS1 := hraw e1 (by simp)
  rw [y_RF_n x1 (by decide), b1] at hS1
  have hnd' : (raws :: y_ids [e1, e2, e3]).Nodup := List.nodup_cons.mpr ⟨fun hm => Nat.lt_irrefl _ (hlt raws hm), hnd⟩
  have hlt' : ∀ id, id ∈ raws :: y_ids [e1, e2, e3] → id < 12100 := fun id hid => by
    rcases List.mem_cons.mp hid with g | g
    · omega
    · have := hlt id g
      omega
  rw [hids] at hnd' hlt'
  rw [b3, b1] at hnd' hlt'
  have hcat : y_cat [e1, e2, e3] = z_fap (y_f e3) (y_f e1) := by simp only [y_cat, f2, z_fap, z_fap_nil]
  have hnew : y_new 16 raws [e1, e2, e3] s = (s, y_le 16, 0, raws, .inner 0 (9, y_n e2, raws) () (z_fap (y_f e3) (y_f e1)) .leaf, fun i => y_sum i [e1, e2, e3] + y_co i 16) := by
    unfold y_new
    rw [hcat]
    rfl
  rw [hnew] at hQ
  rw [show nI 16 - 7 = nI 9 by decide]
  refine t_M_two_0 _ _ ?_
  refine s_M_thing (k := 1) (n := 3) hth rfl (by decide) ?_
  rw [show y_t ([e1, e2, e3].getD (3 - 1 - 1) y_e0) = y_n e2 from htk]
  refine s_M_raw (k := 9) h33 (by omega) (fun m1 p1 w1 => ?_)
  refine s_M_thing (k := 0) (n := 3) (hth.fm p1.1) rfl (by decide) ?_
  rw [show y_t ([e1, e2, e3].getD (3 - 1 - 0) y_e0) = a3'.2.2 from c3.symm]
  refine s_M_hang p1 hS3 (hnd'.sublist (List.Sublist.cons_cons _ (by simp only [z_fid, List.nil_append]; exact List.sublist_append_left _ _))) (fun id hid => hlt' id ((List.Sublist.cons_cons _ (by simp only [z_fid, List.nil_append]; exact List.sublist_append_left _ _)).subset hid)) (fun m2 p2 w2 => ?_)
  have p2 : y_pt m m2 raws 9 (y_n e2) (.inner s3 a3' v3 l3 .leaf) := p2
  refine s_M_thing (k := 2) (n := 3) (hth.fm p2.1) rfl (by decide) ?_
  rw [show y_t ([e1, e2, e3].getD (3 - 1 - 2) y_e0) = a1'.2.2 from c1.symm]
  refine s_M_hang p2 hS1 hnd' hlt' (fun m3 p3 w3 => ?_)
  rw [← b3, ← b1] at p3
  refine hQ _ ⟨p3.1, ?_, p3.raw, fun id h1 h2 => p3.2.2.2.2.2.2.2.2 id h2 (fun h3 => h1 ?_)⟩
  · rw [w3, w2, w1]; rfl
  · rw [hids]
    simpa only [z_fid_ap, List.append_assoc] using h3
theorem s_Mr17 {X : mz_X} {m : mz_M} {Q : Int32 → mz_M → Prop} {tk : Nat → Nat} {c raws s : Nat} {q t : List y_E} (hq : q.map y_x = y_rh 17) (hok : ∀ e, e ∈ q → y_ok tk c e) (hth : y_th m q t) (h57 : m 57 = (fun j => nI (z_loL.getD j 0))) (h33 : m 55 33 = nI raws) (hrw : raws < 12000) (hraw : ∀ e, e ∈ q → z_raw m (-1) (y_RF e)) (hnd : (y_ids q).Nodup) (hlt : ∀ id, id ∈ y_ids q → id < raws) (hQ : ∀ m', y_rp m m' 17 raws q (y_new 17 raws q s) → Q (nI (y_t (y_new 17 raws q s))) m') : mz_gi X mz_sh 153 0 [some (.ref 55), some (.int (nI 17)), none] m Q := by
  have a1 : y_rh 17 = [32, 12, 31] := by decide +kernel
  rw [a1] at hq
  obtain ⟨e1, q, rfl, x1, hq⟩ := y_mc hq
  obtain ⟨e2, q, rfl, x2, hq⟩ := y_mc hq
  obtain ⟨e3, q, rfl, x3, hq⟩ := y_mc hq
  have := y_m0 hq
  subst this
  have o1 := hok e1 (by simp)
  have o2 := hok e2 (by simp)
  have o3 := hok e3 (by simp)
  obtain ⟨s1, a1', v1, l1, b1, c1⟩ := y_one o1 x1 (by decide)
  obtain ⟨f2, n2, t2, i2⟩ := y_leaf o2 x2 (by decide)
  have tn2 := (o2.1 (by omega)).2.1
  obtain ⟨s3, a3', v3, l3, b3, c3⟩ := y_one o3 x3 (by decide)
  have h57r : m 57 (nI 17).toNatClampNeg = nI 3 := by rw [nI_clamp (by decide), h57]; decide +kernel
  have hin : mz_inb (nI 17) 32 = true := by decide +kernel
  refine t_M_reduce_0 _ ⟨hin, fun g => absurd g (by decide), fun _ => ⟨fun _ => ?_, fun g => absurd (by decide) g⟩⟩
  refine t_M_reduce_1 _ _ ⟨fun g => absurd g (by decide), fun g => absurd g (by decide), fun g => absurd g (by decide), fun g => absurd g (by decide), fun g => absurd g (by decide), fun g => absurd g (by decide), fun _ => ?_, fun g => absurd g (by decide), fun g => absurd g (by decide), fun g => absurd g (by decide), fun g => absurd g (by decide), fun g => absurd g (by decide), fun g => absurd g (by decide), fun g => absurd g (by decide), fun g => absurd g (by decide), fun g => absurd g (by decide), fun g => absurd g (by decide), fun m1 m2 m11 m12 m14 m16 m17 m19 m20 m22 m23 m24 m26 m27 m29 m30 m31 => absurd rfl m17⟩
  rw [h57r]
  have htk : y_t e2 = y_n e2 := tn2
  have hids : y_ids [e1, e2, e3] = z_fid (y_f e3) ++ z_fid (y_f e1) := by simp only [y_ids, y_ide_n x1 (by decide), i2, y_ide_n x3 (by decide), List.nil_append, List.append_nil, List.append_assoc]
  have hS3 := hraw e3 (by simp)
  rw [y_RF_n x3 (by decide), b3] at hS3
  have hS1 := hraw e1 (by simp)
  rw [y_RF_n x1 (by decide), b1] at hS1
  have hnd' : (raws :: y_ids [e1, e2, e3]).Nodup := List.nodup_cons.mpr ⟨fun hm => Nat.lt_irrefl _ (hlt raws hm), hnd⟩
  have hlt' : ∀ id, id ∈ raws :: y_ids [e1, e2, e3] → id < 12100 := fun id hid => by
    rcases List.mem_cons.mp hid with g | g
    · omega
    · have := hlt id g
      omega
  rw [hids] at hnd' hlt'
  rw [b3, b1] at hnd' hlt'
  have hcat : y_cat [e1, e2, e3] = z_fap (y_f e3) (y_f e1) := by simp only [y_cat, f2, z_fap, z_fap_nil]
  have hnew : y_new 17 raws [e1, e2, e3] s = (s, y_le 17, 0, raws, .inner 0 (10, y_n e2, raws) () (z_fap (y_f e3) (y_f e1)) .leaf, fun i => y_sum i [e1, e2, e3] + y_co i 17) := by
    unfold y_new
    rw [hcat]
    rfl
  rw [hnew] at hQ
  rw [show nI 17 - 7 = nI 10 by decide]
  refine t_M_two_0 _ _ ?_
  refine s_M_thing (k := 1) (n := 3) hth rfl (by decide) ?_
  rw [show y_t ([e1, e2, e3].getD (3 - 1 - 1) y_e0) = y_n e2 from htk]
  refine s_M_raw (k := 10) h33 (by omega) (fun m1 p1 w1 => ?_)
  refine s_M_thing (k := 0) (n := 3) (hth.fm p1.1) rfl (by decide) ?_
  rw [show y_t ([e1, e2, e3].getD (3 - 1 - 0) y_e0) = a3'.2.2 from c3.symm]
  refine s_M_hang p1 hS3 (hnd'.sublist (List.Sublist.cons_cons _ (by simp only [z_fid, List.nil_append]; exact List.sublist_append_left _ _))) (fun id hid => hlt' id ((List.Sublist.cons_cons _ (by simp only [z_fid, List.nil_append]; exact List.sublist_append_left _ _)).subset hid)) (fun m2 p2 w2 => ?_)
  have p2 : y_pt m m2 raws 10 (y_n e2) (.inner s3 a3' v3 l3 .leaf) := p2
  refine s_M_thing (k := 2) (n := 3) (hth.fm p2.1) rfl (by decide) ?_
  rw [show y_t ([e1, e2, e3].getD (3 - 1 - 2) y_e0) = a1'.2.2 from c1.symm]
  refine s_M_hang p2 hS1 hnd' hlt' (fun m3 p3 w3 => ?_)
  rw [← b3, ← b1] at p3
  refine hQ _ ⟨p3.1, ?_, p3.raw, fun id h1 h2 => p3.2.2.2.2.2.2.2.2 id h2 (fun h3 => h1 ?_)⟩
  · rw [w3, w2, w1]; rfl
  · rw [hids]
    simpa only [z_fid_ap, List.append_assoc] using h3
theorem s_Mr18 {X : mz_X} {m : mz_M} {Q : Int32 → mz_M → Prop} {tk : Nat → Nat} {c raws s : Nat} {q t : List y_E} (hq : q.map y_x = y_rh 18) (hok : ∀ e, e ∈ q → y_ok tk c e) (hth : y_th m q t) (h57 : m 57 = (fun j => nI (z_loL.getD j 0))) (h33 : m 55 33 = nI raws) (hrw : raws < 12000) (hraw : ∀ e, e ∈ q → z_raw m (-1) (y_RF e)) (hnd : (y_ids q).Nodup) (hlt : ∀ id, id ∈ y_ids q → id < raws) (hQ : ∀ m', y_rp m m' 18 raws q (y_new 18 raws q s) → Q (nI (y_t (y_new 18 raws q s))) m') : mz_gi X mz_sh 153 0 [some (.ref 55), some (.int (nI 18)), none] m Q := by
  have a1 : y_rh 18 = [32] := by decide +kernel
  rw [a1] at hq
  obtain ⟨e1, q, rfl, x1, hq⟩ := y_mc hq
  have := y_m0 hq
  subst this
  have o1 := hok e1 (by simp)
  obtain ⟨s1, a1', v1, l1, b1, c1⟩ := y_one o1 x1 (by decide)
  have h57r : m 57 (nI 18).toNatClampNeg = nI 1 := by rw [nI_clamp (by decide), h57]; decide +kernel
  have hin : mz_inb (nI 18) 32 = true := by decide +kernel
  refine t_M_reduce_0 _ ⟨hin, fun g => absurd g (by decide), fun _ => ⟨fun _ => ?_, fun g => absurd (by decide) g⟩⟩
  refine t_M_reduce_1 _ _ ⟨fun g => absurd g (by decide), fun g => absurd g (by decide), fun g => absurd g (by decide), fun g => absurd g (by decide), fun g => absurd g (by decide), fun g => absurd g (by decide), fun g => absurd g (by decide), fun g => absurd g (by decide), fun g => absurd g (by decide), fun g => absurd g (by decide), fun g => absurd g (by decide), fun g => absurd g (by decide), fun g => absurd g (by decide), fun g => absurd g (by decide), fun g => absurd g (by decide), fun g => absurd g (by decide), fun g => absurd g (by decide), fun _ _ _ _ _ _ _ _ _ _ _ _ _ _ _ _ _ => ?_⟩
  rw [h57r]
  refine s_M_thing (k := 0) (n := 1) hth rfl (by decide) ?_
  have hcat : y_cat [e1] = y_f e1 := by simp only [y_cat, z_fap]
  have hnew : y_new 18 raws [e1] s = (s, y_le 18, 0, y_t e1, y_f e1, fun i => y_sum i [e1] + y_co i 18) := by
    unfold y_new
    rw [hcat]
    rfl
  rw [hnew] at hQ
  refine hQ m ⟨z_fm.rf _ _ _, by rw [h33]; rfl, ?_, fun id _ _ => ⟨rfl, rfl, rfl, rfl, rfl, rfl⟩⟩
  have h1 := hraw e1 (by simp)
  rw [y_RF_n x1 (by decide)] at h1
  exact h1
theorem s_Mr19 {X : mz_X} {m : mz_M} {Q : Int32 → mz_M → Prop} {tk : Nat → Nat} {c raws s : Nat} {q t : List y_E} (hq : q.map y_x = y_rh 19) (hok : ∀ e, e ∈ q → y_ok tk c e) (hth : y_th m q t) (h57 : m 57 = (fun j => nI (z_loL.getD j 0))) (h33 : m 55 33 = nI raws) (hrw : raws < 12000) (hraw : ∀ e, e ∈ q → z_raw m (-1) (y_RF e)) (hnd : (y_ids q).Nodup) (hlt : ∀ id, id ∈ y_ids q → id < raws) (hQ : ∀ m', y_rp m m' 19 raws q (y_new 19 raws q s) → Q (nI (y_t (y_new 19 raws q s))) m') : mz_gi X mz_sh 153 0 [some (.ref 55), some (.int (nI 19)), none] m Q := by
  have a1 : y_rh 19 = [33, 13, 32] := by decide +kernel
  rw [a1] at hq
  obtain ⟨e1, q, rfl, x1, hq⟩ := y_mc hq
  obtain ⟨e2, q, rfl, x2, hq⟩ := y_mc hq
  obtain ⟨e3, q, rfl, x3, hq⟩ := y_mc hq
  have := y_m0 hq
  subst this
  have o1 := hok e1 (by simp)
  have o2 := hok e2 (by simp)
  have o3 := hok e3 (by simp)
  obtain ⟨s1, a1', v1, l1, b1, c1⟩ := y_one o1 x1 (by decide)
  obtain ⟨f2, n2, t2, i2⟩ := y_leaf o2 x2 (by decide)
  have tn2 := (o2.1 (by omega)).2.1
  obtain ⟨s3, a3', v3, l3, b3, c3⟩ := y_one o3 x3 (by decide)
  have h57r : m 57 (nI 19).toNatClampNeg = nI 3 := by rw [nI_clamp (by decide), h57]; decide +kernel
  have hin : mz_inb (nI 19) 32 = true := by decide +kernel
  refine t_M_reduce_0 _ ⟨hin, fun g => absurd g (by decide), fun _ => ⟨fun _ => ?_, fun g => absurd (by decide) g⟩⟩
  refine t_M_reduce_1 _ _ ⟨fun g => absurd g (by decide), fun g => absurd g (by decide), fun g => absurd g (by decide), fun g => absurd g (by decide), fun g => absurd g (by decide), fun g => absurd g (by decide), fun g => absurd g (by decide), fun _ => ?_, fun g => absurd g (by decide), fun g => absurd g (by decide), fun g => absurd g (by decide), fun g => absurd g (by decide), fun g => absurd g (by decide), fun g => absurd g (by decide), fun g => absurd g (by decide), fun g => absurd g (by decide), fun g => absurd g (by decide), fun m1 m2 m11 m12 m14 m16 m17 m19 m20 m22 m23 m24 m26 m27 m29 m30 m31 => absurd rfl m19⟩
  rw [h57r]
  have htk : y_t e2 = y_n e2 := tn2
  have hids : y_ids [e1, e2, e3] = z_fid (y_f e3) ++ z_fid (y_f e1) := by simp only [y_ids, y_ide_n x1 (by decide), i2, y_ide_n x3 (by decide), List.nil_append, List.append_nil, List.append_assoc]
  have hS3 := hraw e3 (by simp)
  rw [y_RF_n x3 (by decide), b3] at hS3
  have hS1 := hraw e1 (by simp)
  rw [y_RF_n x1 (by decide), b1] at hS1
  have hnd' : (raws :: y_ids [e1, e2, e3]).Nodup := List.nodup_cons.mpr ⟨fun hm => Nat.lt_irrefl _ (hlt raws hm), hnd⟩
  have hlt' : ∀ id, id ∈ raws :: y_ids [e1, e2, e3] → id < 12100 := fun id hid => by
    rcases List.mem_cons.mp hid with g | g
    · omega
    · have := hlt id g
      omega
  rw [hids] at hnd' hlt'
  rw [b3, b1] at hnd' hlt'
  have hcat : y_cat [e1, e2, e3] = z_fap (y_f e3) (y_f e1) := by simp only [y_cat, f2, z_fap, z_fap_nil]
  have hnew : y_new 19 raws [e1, e2, e3] s = (s, y_le 19, 0, raws, .inner 0 (11, y_n e2, raws) () (z_fap (y_f e3) (y_f e1)) .leaf, fun i => y_sum i [e1, e2, e3] + y_co i 19) := by
    unfold y_new
    rw [hcat]
    rfl
  rw [hnew] at hQ
  rw [show nI 19 - 8 = nI 11 by decide]
  refine t_M_two_0 _ _ ?_
  refine s_M_thing (k := 1) (n := 3) hth rfl (by decide) ?_
  rw [show y_t ([e1, e2, e3].getD (3 - 1 - 1) y_e0) = y_n e2 from htk]
  refine s_M_raw (k := 11) h33 (by omega) (fun m1 p1 w1 => ?_)
  refine s_M_thing (k := 0) (n := 3) (hth.fm p1.1) rfl (by decide) ?_
  rw [show y_t ([e1, e2, e3].getD (3 - 1 - 0) y_e0) = a3'.2.2 from c3.symm]
  refine s_M_hang p1 hS3 (hnd'.sublist (List.Sublist.cons_cons _ (by simp only [z_fid, List.nil_append]; exact List.sublist_append_left _ _))) (fun id hid => hlt' id ((List.Sublist.cons_cons _ (by simp only [z_fid, List.nil_append]; exact List.sublist_append_left _ _)).subset hid)) (fun m2 p2 w2 => ?_)
  have p2 : y_pt m m2 raws 11 (y_n e2) (.inner s3 a3' v3 l3 .leaf) := p2
  refine s_M_thing (k := 2) (n := 3) (hth.fm p2.1) rfl (by decide) ?_
  rw [show y_t ([e1, e2, e3].getD (3 - 1 - 2) y_e0) = a1'.2.2 from c1.symm]
  refine s_M_hang p2 hS1 hnd' hlt' (fun m3 p3 w3 => ?_)
  rw [← b3, ← b1] at p3
  refine hQ _ ⟨p3.1, ?_, p3.raw, fun id h1 h2 => p3.2.2.2.2.2.2.2.2 id h2 (fun h3 => h1 ?_)⟩
  · rw [w3, w2, w1]; rfl
  · rw [hids]
    simpa only [z_fid_ap, List.append_assoc] using h3
theorem s_Mr20 {X : mz_X} {m : mz_M} {Q : Int32 → mz_M → Prop} {tk : Nat → Nat} {c raws s : Nat} {q t : List y_E} (hq : q.map y_x = y_rh 20) (hok : ∀ e, e ∈ q → y_ok tk c e) (hth : y_th m q t) (h57 : m 57 = (fun j => nI (z_loL.getD j 0))) (h33 : m 55 33 = nI raws) (hrw : raws < 12000) (hraw : ∀ e, e ∈ q → z_raw m (-1) (y_RF e)) (hnd : (y_ids q).Nodup) (hlt : ∀ id, id ∈ y_ids q → id < raws) (hQ : ∀ m', y_rp m m' 20 raws q (y_new 20 raws q s) → Q (nI (y_t (y_new 20 raws q s))) m') : mz_gi X mz_sh 153 0 [some (.ref 55), some (.int (nI 20)), none] m Q := by
  have a1 : y_rh 20 = [33, 14, 32] := by decide +kernel
  rw [a1] at hq
  obtain ⟨e1, q, rfl, x1, hq⟩ := y_mc hq
  obtain ⟨e2, q, rfl, x2, hq⟩ := y_mc hq
  obtain ⟨e3, q, rfl, x3, hq⟩ := y_mc hq
  have := y_m0 hq
  subst this
  have o1 := hok e1 (by simp)
  have o2 := hok e2 (by simp)
  have o3 := hok e3 (by simp)
  obtain ⟨s1, a1', v1, l1, b1, c1⟩ := y_one o1 x1 (by decide)
  obtain ⟨f2, n2, t2, i2⟩ := y_leaf o2 x2 (by decide)
  have tn2 := (o2.1 (by omega)).2.1
  obtain ⟨s3, a3', v3, l3, b3, c3⟩ := y_one o3 x3 (by decide)
  have h57r : m 57 (nI 20).toNatClampNeg = nI 3 := by rw [nI_clamp (by decide), h57]; decide +kernel
  have hin : mz_inb (nI 20) 32 = true := by decide +kernel
  refine t_M_reduce_0 _ ⟨hin, fun g => absurd g (by decide), fun _ => ⟨fun _ => ?_, fun g => absurd (by decide) g⟩⟩
  refine t_M_reduce_1 _ _ ⟨fun g => absurd g (by decide), fun g => absurd g (by decide), fun g => absurd g (by decide), fun g => absurd g (by decide), fun g => absurd g (by decide), fun g => absurd g (by decide), fun g => absurd g (by decide), fun g => absurd g (by decide), fun _ => ?_, fun g => absurd g (by decide), fun g => absurd g (by decide), fun g => absurd g (by decide), fun g => absurd g (by decide), fun g => absurd g (by decide), fun g => absurd g (by decide), fun g => absurd g (by decide), fun g => absurd g (by decide), fun m1 m2 m11 m12 m14 m16 m17 m19 m20 m22 m23 m24 m26 m27 m29 m30 m31 => absurd rfl m20⟩
  rw [h57r]
  have htk : y_t e2 = y_n e2 := tn2
  have hids : y_ids [e1, e2, e3] = z_fid (y_f e3) ++ z_fid (y_f e1) := by simp only [y_ids, y_ide_n x1 (by decide), i2, y_ide_n x3 (by decide), List.nil_append, List.append_nil, List.append_assoc]
  have hS3 := hraw e3 (by simp)
  rw [y_RF_n x3 (by decide), b3] at hS3
  have hS1 := hraw e1 (by simp)
  rw [y_RF_n x1 (by decide), b1] at hS1
  have hnd' : (raws :: y_ids [e1, e2, e3]).Nodup := List.nodup_cons.mpr ⟨fun hm => Nat.lt_irrefl _ (hlt raws hm), hnd⟩
  have hlt' : ∀ id, id ∈ raws :: y_ids [e1, e2, e3] → id < 12100 := fun id hid => by
    rcases List.mem_cons.mp hid with g | g
    · omega
    · have := hlt id g
      omega
  rw [hids] at hnd' hlt'
  rw [b3, b1] at hnd' hlt'
  have hcat : y_cat [e1, e2, e3] = z_fap (y_f e3) (y_f e1) := by simp only [y_cat, f2, z_fap, z_fap_nil]
  have hnew : y_new 20 raws [e1, e2, e3] s = (s, y_le 20, 0, raws, .inner 0 (12, y_n e2, raws) () (z_fap (y_f e3) (y_f e1)) .leaf, fun i => y_sum i [e1, e2, e3] + y_co i 20) := by
    unfold y_new
    rw [hcat]
    rfl
  rw [hnew] at hQ
  rw [show nI 20 - 8 = nI 12 by decide]
  refine t_M_two_0 _ _ ?_
  refine s_M_thing (k := 1) (n := 3) hth rfl (by decide) ?_
  rw [show y_t ([e1, e2, e3].getD (3 - 1 - 1) y_e0) = y_n e2 from htk]
  refine s_M_raw (k := 12) h33 (by omega) (fun m1 p1 w1 => ?_)
  refine s_M_thing (k := 0) (n := 3) (hth.fm p1.1) rfl (by decide) ?_
  rw [show y_t ([e1, e2, e3].getD (3 - 1 - 0) y_e0) = a3'.2.2 from c3.symm]
  refine s_M_hang p1 hS3 (hnd'.sublist (List.Sublist.cons_cons _ (by simp only [z_fid, List.nil_append]; exact List.sublist_append_left _ _))) (fun id hid => hlt' id ((List.Sublist.cons_cons _ (by simp only [z_fid, List.nil_append]; exact List.sublist_append_left _ _)).subset hid)) (fun m2 p2 w2 => ?_)
  have p2 : y_pt m m2 raws 12 (y_n e2) (.inner s3 a3' v3 l3 .leaf) := p2
  refine s_M_thing (k := 2) (n := 3) (hth.fm p2.1) rfl (by decide) ?_
  rw [show y_t ([e1, e2, e3].getD (3 - 1 - 2) y_e0) = a1'.2.2 from c1.symm]
  refine s_M_hang p2 hS1 hnd' hlt' (fun m3 p3 w3 => ?_)
  rw [← b3, ← b1] at p3
  refine hQ _ ⟨p3.1, ?_, p3.raw, fun id h1 h2 => p3.2.2.2.2.2.2.2.2 id h2 (fun h3 => h1 ?_)⟩
  · rw [w3, w2, w1]; rfl
  · rw [hids]
    simpa only [z_fid_ap, List.append_assoc] using h3
theorem s_Mr21 {X : mz_X} {m : mz_M} {Q : Int32 → mz_M → Prop} {tk : Nat → Nat} {c raws s : Nat} {q t : List y_E} (hq : q.map y_x = y_rh 21) (hok : ∀ e, e ∈ q → y_ok tk c e) (hth : y_th m q t) (h57 : m 57 = (fun j => nI (z_loL.getD j 0))) (h33 : m 55 33 = nI raws) (hrw : raws < 12000) (hraw : ∀ e, e ∈ q → z_raw m (-1) (y_RF e)) (hnd : (y_ids q).Nodup) (hlt : ∀ id, id ∈ y_ids q → id < raws) (hQ : ∀ m', y_rp m m' 21 raws q (y_new 21 raws q s) → Q (nI (y_t (y_new 21 raws q s))) m') : mz_gi X mz_sh 153 0 [some (.ref 55), some (.int (nI 21)), none] m Q := by
  have a1 : y_rh 21 = [33] := by decide +kernel
  rw [a1] at hq
  obtain ⟨e1, q, rfl, x1, hq⟩ := y_mc hq
  have := y_m0 hq
  subst this
  have o1 := hok e1 (by simp)
  obtain ⟨s1, a1', v1, l1, b1, c1⟩ := y_one o1 x1 (by decide)
  have h57r : m 57 (nI 21).toNatClampNeg = nI 1 := by rw [nI_clamp (by decide), h57]; decide +kernel
  have hin : mz_inb (nI 21) 32 = true := by decide +kernel
  refine t_M_reduce_0 _ ⟨hin, fun g => absurd g (by decide), fun _ => ⟨fun _ => ?_, fun g => absurd (by decide) g⟩⟩
  refine t_M_reduce_1 _ _ ⟨fun g => absurd g (by decide), fun g => absurd g (by decide), fun g => absurd g (by decide), fun g => absurd g (by decide), fun g => absurd g (by decide), fun g => absurd g (by decide), fun g => absurd g (by decide), fun g => absurd g (by decide), fun g => absurd g (by decide), fun g => absurd g (by decide), fun g => absurd g (by decide), fun g => absurd g (by decide), fun g => absurd g (by decide), fun g => absurd g (by decide), fun g => absurd g (by decide), fun g => absurd g (by decide), fun g => absurd g (by decide), fun _ _ _ _ _ _ _ _ _ _ _ _ _ _ _ _ _ => ?_⟩
  rw [h57r]
  refine s_M_thing (k := 0) (n := 1) hth rfl (by decide) ?_
  have hcat : y_cat [e1] = y_f e1 := by simp only [y_cat, z_fap]
  have hnew : y_new 21 raws [e1] s = (s, y_le 21, 0, y_t e1, y_f e1, fun i => y_sum i [e1] + y_co i 21) := by
    unfold y_new
    rw [hcat]
    rfl
  rw [hnew] at hQ
  refine hQ m ⟨z_fm.rf _ _ _, by rw [h33]; rfl, ?_, fun id _ _ => ⟨rfl, rfl, rfl, rfl, rfl, rfl⟩⟩
  have h1 := hraw e1 (by simp)
  rw [y_RF_n x1 (by decide)] at h1
  exact h1
theorem s_Mr22 {X : mz_X} {m : mz_M} {Q : Int32 → mz_M → Prop} {tk : Nat → Nat} {c raws s : Nat} {q t : List y_E} (hq : q.map y_x = y_rh 22) (hok : ∀ e, e ∈ q → y_ok tk c e) (hth : y_th m q t) (h57 : m 57 = (fun j => nI (z_loL.getD j 0))) (h33 : m 55 33 = nI raws) (hrw : raws < 12000) (hraw : ∀ e, e ∈ q → z_raw m (-1) (y_RF e)) (hnd : (y_ids q).Nodup) (hlt : ∀ id, id ∈ y_ids q → id < raws) (hQ : ∀ m', y_rp m m' 22 raws q (y_new 22 raws q s) → Q (nI (y_t (y_new 22 raws q s))) m') : mz_gi X mz_sh 153 0 [some (.ref 55), some (.int (nI 22)), none] m Q := by
  have a1 : y_rh 22 = [34, 15, 33] := by decide +kernel
  rw [a1] at hq
  obtain ⟨e1, q, rfl, x1, hq⟩ := y_mc hq
  obtain ⟨e2, q, rfl, x2, hq⟩ := y_mc hq
  obtain ⟨e3, q, rfl, x3, hq⟩ := y_mc hq
  have := y_m0 hq
  subst this
  have o1 := hok e1 (by simp)
  have o2 := hok e2 (by simp)
  have o3 := hok e3 (by simp)
  obtain ⟨s1, a1', v1, l1, b1, c1⟩ := y_one o1 x1 (by decide)
  obtain ⟨f2, n2, t2, i2⟩ := y_leaf o2 x2 (by decide)
  have tn2 := (o2.1 (by omega)).2.1
  obtain ⟨s3, a3', v3, l3, b3, c3⟩ := y_one o3 x3 (by decide)
  have h57r : m 57 (nI 22).toNatClampNeg = nI 3 := by rw [nI_clamp (by decide), h57]; decide +kernel
  have hin : mz_inb (nI 22) 32 = true := by decide +kernel
  refine t_M_reduce_0 _ ⟨hin, fun g => absurd g (by decide), fun _ => ⟨fun _ => ?_, fun g => absurd (by decide) g⟩⟩
  refine t_M_reduce_1 _ _ ⟨fun g => absurd g (by decide), fun g => absurd g (by decide), fun g => absurd g (by decide), fun g => absurd g (by decide), fun g => absurd g (by decide), fun g => absurd g (by decide), fun g => absurd g (by decide), fun g => absurd g (by decide), fun g => absurd g (by decide), fun _ => ?_, fun g => absurd g (by decide), fun g => absurd g (by decide), fun g => absurd g (by decide), fun g => absurd g (by decide), fun g => absurd g (by decide), fun g => absurd g (by decide), fun g => absurd g (by decide), fun m1 m2 m11 m12 m14 m16 m17 m19 m20 m22 m23 m24 m26 m27 m29 m30 m31 => absurd rfl m22⟩
  rw [h57r]
  have htk : y_t e2 = y_n e2 := tn2
  have hids : y_ids [e1, e2, e3] = z_fid (y_f e3) ++ z_fid (y_f e1) := by simp only [y_ids, y_ide_n x1 (by decide), i2, y_ide_n x3 (by decide), List.nil_append, List.append_nil, List.append_assoc]
  have hS3 := hraw e3 (by simp)
  rw [y_RF_n x3 (by decide), b3] at hS3
  have hS1 := hraw e1 (by simp)
  rw [y_RF_n x1 (by decide), b1] at hS1
  have hnd' : (raws :: y_ids [e1, e2, e3]).Nodup := List.nodup_cons.mpr ⟨fun hm => Nat.lt_irrefl _ (hlt raws hm), hnd⟩
  have hlt' : ∀ id, id ∈ raws :: y_ids [e1, e2, e3] → id < 12100 := fun id hid => by
    rcases List.mem_cons.mp hid with g | g
    · omega
    · have := hlt id g
      omega
  rw [hids] at hnd' hlt'
  rw [b3, b1] at hnd' hlt'
  have hcat : y_cat [e1, e2, e3] = z_fap (y_f e3) (y_f e1) := by simp only [y_cat, f2, z_fap, z_fap_nil]
  have hnew : y_new 22 raws [e1, e2, e3] s = (s, y_le 22, 0, raws, .inner 0 (13, y_n e2, raws) () (z_fap (y_f e3) (y_f e1)) .leaf, fun i => y_sum i [e1, e2, e3] + y_co i 22) := by
    unfold y_new
    rw [hcat]
    rfl
  rw [hnew] at hQ
  rw [show nI 22 - 9 = nI 13 by decide]
  refine t_M_two_0 _ _ ?_
  refine s_M_thing (k := 1) (n := 3) hth rfl (by decide) ?_
  rw [show y_t ([e1, e2, e3].getD (3 - 1 - 1) y_e0) = y_n e2 from htk]
  refine s_M_raw (k := 13) h33 (by omega) (fun m1 p1 w1 => ?_)
  refine s_M_thing (k := 0) (n := 3) (hth.fm p1.1) rfl (by decide) ?_
  rw [show y_t ([e1, e2, e3].getD (3 - 1 - 0) y_e0) = a3'.2.2 from c3.symm]
  refine s_M_hang p1 hS3 (hnd'.sublist (List.Sublist.cons_cons _ (by simp only [z_fid, List.nil_append]; exact List.sublist_append_left _ _))) (fun id hid => hlt' id ((List.Sublist.cons_cons _ (by simp only [z_fid, List.nil_append]; exact List.sublist_append_left _ _)).subset hid)) (fun m2 p2 w2 => ?_)
  have p2 : y_pt m m2 raws 13 (y_n e2) (.inner s3 a3' v3 l3 .leaf) := p2
  refine s_M_thing (k := 2) (n := 3) (hth.fm p2.1) rfl (by decide) ?_
  rw [show y_t ([e1, e2, e3].getD (3 - 1 - 2) y_e0) = a1'.2.2 from c1.symm]
  refine s_M_hang p2 hS1 hnd' hlt' (fun m3 p3 w3 => ?_)
  rw [← b3, ← b1] at p3
  refine hQ _ ⟨p3.1, ?_, p3.raw, fun id h1 h2 => p3.2.2.2.2.2.2.2.2 id h2 (fun h3 => h1 ?_)⟩
  · rw [w3, w2, w1]; rfl
  · rw [hids]
    simpa only [z_fid_ap, List.append_assoc] using h3
theorem s_Mr23 {X : mz_X} {m : mz_M} {Q : Int32 → mz_M → Prop} {tk : Nat → Nat} {c raws s : Nat} {q t : List y_E} (hq : q.map y_x = y_rh 23) (hok : ∀ e, e ∈ q → y_ok tk c e) (hth : y_th m q t) (h57 : m 57 = (fun j => nI (z_loL.getD j 0))) (h33 : m 55 33 = nI raws) (hrw : raws < 12000) (hraw : ∀ e, e ∈ q → z_raw m (-1) (y_RF e)) (hnd : (y_ids q).Nodup) (hlt : ∀ id, id ∈ y_ids q → id < raws) (hQ : ∀ m', y_rp m m' 23 raws q (y_new 23 raws q s) → Q (nI (y_t (y_new 23 raws q s))) m') : mz_gi X mz_sh 153 0 [some (.ref 55), some (.int (nI 23)), none] m Q := by
  have a1 : y_rh 23 = [34, 16, 33] := by decide +kernel
  rw [a1] at hq
  obtain ⟨e1, q, rfl, x1, hq⟩ := y_mc hq
  obtain ⟨e2, q, rfl, x2, hq⟩ := y_mc hq
  obtain ⟨e3, q, rfl, x3, hq⟩ := y_mc hq
  have := y_m0 hq
  subst this
  have o1 := hok e1 (by simp)
  have o2 := hok e2 (by simp)
  have o3 := hok e3 (by simp)
  obtain ⟨s1, a1', v1, l1, b1, c1⟩ := y_one o1 x1 (by decide)
  obtain ⟨f2, n2, t2, i2⟩ := y_leaf o2 x2 (by decide)
  have tn2 := (o2.1 (by omega)).2.1
  obtain ⟨s3, a3', v3, l3, b3, c3⟩ := y_one o3 x3 (by decide)
  have h57r : m 57 (nI 23).toNatClampNeg = nI 3 := by rw [nI_clamp (by decide), h57]; decide +kernel
  have hin : mz_inb (nI 23) 32 = true := by decide +kernel
  refine t_M_reduce_0 _ ⟨hin, fun g => absurd g (by decide), fun _ => ⟨fun _ => ?_, fun g => absurd (by decide) g⟩⟩
  refine t_M_reduce_1 _ _ ⟨fun g => absurd g (by decide), fun g => absurd g (by decide), fun g => absurd g (by decide), fun g => absurd g (by decide), fun g => absurd g (by decide), fun g => absurd g (by decide), fun g => absurd g (by decide), fun g => absurd g (by decide), fun g => absurd g (by decide), fun g => absurd g (by decide), fun _ => ?_, fun g => absurd g (by decide), fun g => absurd g (by decide), fun g => absurd g (by decide), fun g => absurd g (by decide), fun g => absurd g (by decide), fun g => absurd g (by decide), fun m1 m2 m11 m12 m14 m16 m17 m19 m20 m22 m23 m24 m26 m27 m29 m30 m31 => absurd rfl m23⟩
  rw [h57r]
  have htk : y_t e2 = y_n e2 := tn2
  have hids : y_ids [e1, e2, e3] = z_fid (y_f e3) ++ z_fid (y_f e1) := by simp only [y_ids, y_ide_n x1 (by decide), i2, y_ide_n x3 (by decide), List.nil_append, List.append_nil, List.append_assoc]
  have hS3 := hraw e3 (by simp)
  rw [y_RF_n x3 (by decide), b3] at hS3
  have hS1 := hraw e1 (by simp)
  rw [y_RF_n x1 (by decide), b1] at hS1
  have hnd' : (raws :: y_ids [e1, e2, e3]).Nodup := List.nodup_cons.mpr ⟨fun hm => Nat.lt_irrefl _ (hlt raws hm), hnd⟩
  have hlt' : ∀ id, id ∈ raws :: y_ids [e1, e2, e3] → id < 12100 := fun id hid => by
    rcases List.mem_cons.mp hid with g | g
    · omega
    · have := hlt id g
      omega
  rw [hids] at hnd' hlt'
  rw [b3, b1] at hnd' hlt'
  have hcat : y_cat [e1, e2, e3] = z_fap (y_f e3) (y_f e1) := by simp only [y_cat, f2, z_fap, z_fap_nil]
  have hnew : y_new 23 raws [e1, e2, e3] s = (s, y_le 23, 0, raws, .inner 0 (14, y_n e2, raws) () (z_fap (y_f e3) (y_f e1)) .leaf, fun i => y_sum i [e1, e2, e3] + y_co i 23) := by
    unfold y_new
    rw [hcat]
    rfl
  rw [hnew] at hQ
  rw [show nI 23 - 9 = nI 14 by decide]
  refine t_M_two_0 _ _ ?_
  refine s_M_thing (k := 1) (n := 3) hth rfl (by decide) ?_
  rw [show y_t ([e1, e2, e3].getD (3 - 1 - 1) y_e0) = y_n e2 from htk]
  refine s_M_raw (k := 14) h33 (by omega) (fun m1 p1 w1 => ?_)
  refine s_M_thing (k := 0) (n := 3) (hth.fm p1.1) rfl (by decide) ?_
  rw [show y_t ([e1, e2, e3].getD (3 - 1 - 0) y_e0) = a3'.2.2 from c3.symm]
  refine s_M_hang p1 hS3 (hnd'.sublist (List.Sublist.cons_cons _ (by simp only [z_fid, List.nil_append]; exact List.sublist_append_left _ _))) (fun id hid => hlt' id ((List.Sublist.cons_cons _ (by simp only [z_fid, List.nil_append]; exact List.sublist_append_left _ _)).subset hid)) (fun m2 p2 w2 => ?_)
  have p2 : y_pt m m2 raws 14 (y_n e2) (.inner s3 a3' v3 l3 .leaf) := p2
  refine s_M_thing (k := 2) (n := 3) (hth.fm p2.1) rfl (by decide) ?_
  rw [show y_t ([e1, e2, e3].getD (3 - 1 - 2) y_e0) = a1'.2.2 from c1.symm]
  refine s_M_hang p2 hS1 hnd' hlt' (fun m3 p3 w3 => ?_)
  rw [← b3, ← b1] at p3
  refine hQ _ ⟨p3.1, ?_, p3.raw, fun id h1 h2 => p3.2.2.2.2.2.2.2.2 id h2 (fun h3 => h1 ?_)⟩
  · rw [w3, w2, w1]; rfl
  · rw [hids]
    simpa only [z_fid_ap, List.append_assoc] using h3
theorem s_Mr24 {X : mz_X} {m : mz_M} {Q : Int32 → mz_M → Prop} {tk : Nat → Nat} {c raws s : Nat} {q t : List y_E} (hq : q.map y_x = y_rh 24) (hok : ∀ e, e ∈ q → y_ok tk c e) (hth : y_th m q t) (h57 : m 57 = (fun j => nI (z_loL.getD j 0))) (h33 : m 55 33 = nI raws) (hrw : raws < 12000) (hraw : ∀ e, e ∈ q → z_raw m (-1) (y_RF e)) (hnd : (y_ids q).Nodup) (hlt : ∀ id, id ∈ y_ids q → id < raws) (hQ : ∀ m', y_rp m m' 24 raws q (y_new 24 raws q s) → Q (nI (y_t (y_new 24 raws q s))) m') : mz_gi X mz_sh 153 0 [some (.ref 55), some (.int (nI 24)), none] m Q := by
  have a1 : y_rh 24 = [34, 17, 33] := by decide +kernel
  rw [a1] at hq
  obtain ⟨e1, q, rfl, x1, hq⟩ := y_mc hq
  obtain ⟨e2, q, rfl, x2, hq⟩ := y_mc hq
  obtain ⟨e3, q, rfl, x3, hq⟩ := y_mc hq
  have := y_m0 hq
  subst this
  have o1 := hok e1 (by simp)
  have o2 := hok e2 (by simp)
  have o3 := hok e3 (by simp)
  obtain ⟨s1, a1', v1, l1, b1, c1⟩ := y_one o1 x1 (by decide)
  obtain ⟨f2, n2, t2, i2⟩ := y_leaf o2 x2 (by decide)
  have tn2 := (o2.1 (by omega)).2.1
  obtain ⟨s3, a3', v3, l3, b3, c3⟩ := y_one o3 x3 (by decide)
  have h57r : m 57 (nI 24).toNatClampNeg = nI 3 := by rw [nI_clamp (by decide), h57]; decide +kernel
  have hin : mz_inb (nI 24) 32 = true := by decide +kernel
  refine t_M_reduce_0 _ ⟨hin, fun g => absurd g (by decide), fun _ => ⟨fun _ => ?_, fun g => absurd (by decide) g⟩⟩
  refine t_M_reduce_1 _ _ ⟨fun g => absurd g (by decide), fun g => absurd g (by decide), fun g => absurd g (by decide), fun g => absurd g (by decide), fun g => absurd g (by decide), fun g => absurd g (by decide), fun g => absurd g (by decide), fun g => absurd g (by decide), fun g => absurd g (by decide), fun g => absurd g (by decide), fun g => absurd g (by decide), fun _ => ?_, fun g => absurd g (by decide), fun g => absurd g (by decide), fun g => absurd g (by decide), fun g => absurd g (by decide), fun g => absurd g (by decide), fun m1 m2 m11 m12 m14 m16 m17 m19 m20 m22 m23 m24 m26 m27 m29 m30 m31 => absurd rfl m24⟩
  rw [h57r]
  have htk : y_t e2 = y_n e2 := tn2
  have hids : y_ids [e1, e2, e3] = z_fid (y_f e3) ++ z_fid (y_f e1) := by simp only [y_ids, y_ide_n x1 (by decide), i2, y_ide_n x3 (by decide), List.nil_append, List.append_nil, List.append_assoc]
  have hS3 := hraw e3 (by simp)
  rw [y_RF_n x3 (by decide), b3] at hS3
  have hS1 := hraw e1 (by simp)
  rw [y_RF_n x1 (by decide), b1] at hS1
  have hnd' : (raws :: y_ids [e1, e2, e3]).Nodup := List.nodup_cons.mpr ⟨fun hm => Nat.lt_irrefl _ (hlt raws hm), hnd⟩
  have hlt' : ∀ id, id ∈ raws :: y_ids [e1, e2, e3] → id < 12100 := fun id hid => by
    rcases List.mem_cons.mp hid with g | g
    · omega
    · have := hlt id g
      omega
  rw [hids] at hnd' hlt'
  rw [b3, b1] at hnd' hlt'
  have hcat : y_cat [e1, e2, e3] = z_fap (y_f e3) (y_f e1) := by simp only [y_cat, f2, z_fap, z_fap_nil]
  have hnew : y_new 24 raws [e1, e2, e3] s = (s, y_le 24, 0, raws, .inner 0 (15, y_n e2, raws) () (z_fap (y_f e3) (y_f e1)) .leaf, fun i => y_sum i [e1, e2, e3] + y_co i 24) := by
    unfold y_new
    rw [hcat]
    rfl
  rw [hnew] at hQ
  rw [show nI 24 - 9 = nI 15 by decide]
  refine t_M_two_0 _ _ ?_
  refine s_M_thing (k := 1) (n := 3) hth rfl (by decide) ?_
  rw [show y_t ([e1, e2, e3].getD (3 - 1 - 1) y_e0) = y_n e2 from htk]
  refine s_M_raw (k := 15) h33 (by omega) (fun m1 p1 w1 => ?_)
  refine s_M_thing (k := 0) (n := 3) (hth.fm p1.1) rfl (by decide) ?_
  rw [show y_t ([e1, e2, e3].getD (3 - 1 - 0) y_e0) = a3'.2.2 from c3.symm]
  refine s_M_hang p1 hS3 (hnd'.sublist (List.Sublist.cons_cons _ (by simp only [z_fid, List.nil_append]; exact List.sublist_append_left _ _))) (fun id hid => hlt' id ((List.Sublist.cons_cons _ (by simp only [z_fid, List.nil_append]; exact List.sublist_append_left _ _)).subset hid)) (fun m2 p2 w2 => ?_)
  have p2 : y_pt m m2 raws 15 (y_n e2) (.inner s3 a3' v3 l3 .leaf) := p2
  refine s_M_thing (k := 2) (n := 3) (hth.fm p2.1) rfl (by decide) ?_
  rw [show y_t ([e1, e2, e3].getD (3 - 1 - 2) y_e0) = a1'.2.2 from c1.symm]
  refine s_M_hang p2 hS1 hnd' hlt' (fun m3 p3 w3 => ?_)
  rw [← b3, ← b1] at p3
  refine hQ _ ⟨p3.1, ?_, p3.raw, fun id h1 h2 => p3.2.2.2.2.2.2.2.2 id h2 (fun h3 => h1 ?_)⟩
  · rw [w3, w2, w1]; rfl
  · rw [hids]
    simpa only [z_fid_ap, List.append_assoc] using h3
theorem s_Mr25 {X : mz_X} {m : mz_M} {Q : Int32 → mz_M → Prop} {tk : Nat → Nat} {c raws s : Nat} {q t : List y_E} (hq : q.map y_x = y_rh 25) (hok : ∀ e, e ∈ q → y_ok tk c e) (hth : y_th m q t) (h57 : m 57 = (fun j => nI (z_loL.getD j 0))) (h33 : m 55 33 = nI raws) (hrw : raws < 12000) (hraw : ∀ e, e ∈ q → z_raw m (-1) (y_RF e)) (hnd : (y_ids q).Nodup) (hlt : ∀ id, id ∈ y_ids q → id < raws) (hQ : ∀ m', y_rp m m' 25 raws q (y_new 25 raws q s) → Q (nI (y_t (y_new 25 raws q s))) m') : mz_gi X mz_sh 153 0 [some (.ref 55), some (.int (nI 25)), none] m Q := by
  have a1 : y_rh 25 = [34] := by decide +kernel
  rw [a1] at hq
  obtain ⟨e1, q, rfl, x1, hq⟩ := y_mc hq
  have := y_m0 hq
  subst this
  have o1 := hok e1 (by simp)
  obtain ⟨s1, a1', v1, l1, b1, c1⟩ := y_one o1 x1 (by decide)
  have h57r : m 57 (nI 25).toNatClampNeg = nI 1 := by rw [nI_clamp (by decide), h57]; decide +kernel
  have hin : mz_inb (nI 25) 32 = true := by decide +kernel
  refine t_M_reduce_0 _ ⟨hin, fun g => absurd g (by decide), fun _ => ⟨fun _ => ?_, fun g => absurd (by decide) g⟩⟩
  refine t_M_reduce_1 _ _ ⟨fun g => absurd g (by decide), fun g => absurd g (by decide), fun g => absurd g (by decide), fun g => absurd g (by decide), fun g => absurd g (by decide), fun g => absurd g (by decide), fun g => absurd g (by decide), fun g => absurd g (by decide), fun g => absurd g (by decide), fun g => absurd g (by decide), fun g => absurd g (by decide), fun g => absurd g (by decide), fun g => absurd g (by decide), fun g => absurd g (by decide), fun g => absurd g (by decide), fun g => absurd g (by decide), fun g => absurd g (by decide), fun _ _ _ _ _ _ _ _ _ _ _ _ _ _ _ _ _ => ?_⟩
  rw [h57r]
  refine s_M_thing (k := 0) (n := 1) hth rfl (by decide) ?_
  have hcat : y_cat [e1] = y_f e1 := by simp only [y_cat, z_fap]
  have hnew : y_new 25 raws [e1] s = (s, y_le 25, 0, y_t e1, y_f e1, fun i => y_sum i [e1] + y_co i 25) := by
    unfold y_new
    rw [hcat]
    rfl
  rw [hnew] at hQ
  refine hQ m ⟨z_fm.rf _ _ _, by rw [h33]; rfl, ?_, fun id _ _ => ⟨rfl, rfl, rfl, rfl, rfl, rfl⟩⟩
  have h1 := hraw e1 (by simp)
  rw [y_RF_n x1 (by decide)] at h1
  exact h1
theorem s_Mr26 {X : mz_X} {m : mz_M} {Q : Int32 → mz_M → Prop} {tk : Nat → Nat} {c raws s : Nat} {q t : List y_E} (hq : q.map y_x = y_rh 26) (hok : ∀ e, e ∈ q → y_ok tk c e) (hth : y_th m q t) (h57 : m 57 = (fun j => nI (z_loL.getD j 0))) (h33 : m 55 33 = nI raws) (hrw : raws < 12000) (hraw : ∀ e, e ∈ q → z_raw m (-1) (y_RF e)) (hnd : (y_ids q).Nodup) (hlt : ∀ id, id ∈ y_ids q → id < raws) (hQ : ∀ m', y_rp m m' 26 raws q (y_new 26 raws q s) → Q (nI (y_t (y_new 26 raws q s))) m') : mz_gi X mz_sh 153 0 [some (.ref 55), some (.int (nI 26)), none] m Q := by
  have a1 : y_rh 26 = [34, 14] := by decide +kernel
  rw [a1] at hq
  obtain ⟨e1, q, rfl, x1, hq⟩ := y_mc hq
  obtain ⟨e2, q, rfl, x2, hq⟩ := y_mc hq
  have := y_m0 hq
  subst this
  have o1 := hok e1 (by simp)
  have o2 := hok e2 (by simp)
  obtain ⟨s1, a1', v1, l1, b1, c1⟩ := y_one o1 x1 (by decide)
  obtain ⟨f2, n2, t2, i2⟩ := y_leaf o2 x2 (by decide)
  have tn2 := (o2.1 (by omega)).2.1
  have h57r : m 57 (nI 26).toNatClampNeg = nI 2 := by rw [nI_clamp (by decide), h57]; decide +kernel
  have hin : mz_inb (nI 26) 32 = true := by decide +kernel
  refine t_M_reduce_0 _ ⟨hin, fun g => absurd g (by decide), fun _ => ⟨fun _ => ?_, fun g => absurd (by decide) g⟩⟩
  refine t_M_reduce_1 _ _ ⟨fun g => absurd g (by decide), fun g => absurd g (by decide), fun g => absurd g (by decide), fun g => absurd g (by decide), fun g => absurd g (by decide), fun g => absurd g (by decide), fun g => absurd g (by decide), fun g => absurd g (by decide), fun g => absurd g (by decide), fun g => absurd g (by decide), fun g => absurd g (by decide), fun g => absurd g (by decide), fun _ => ?_, fun g => absurd g (by decide), fun g => absurd g (by decide), fun g => absurd g (by decide), fun g => absurd g (by decide), fun m1 m2 m11 m12 m14 m16 m17 m19 m20 m22 m23 m24 m26 m27 m29 m30 m31 => absurd rfl m26⟩
  rw [h57r]
  have htk : y_t e2 = y_n e2 := tn2
  have hids : y_ids [e1, e2] = z_fid (y_f e1) := by simp only [y_ids, y_ide_n x1 (by decide), i2, List.nil_append, List.append_nil, List.append_assoc]
  have hS1 := hraw e1 (by simp)
  rw [y_RF_n x1 (by decide), b1] at hS1
  have hnd' : (raws :: y_ids [e1, e2]).Nodup := List.nodup_cons.mpr ⟨fun hm => Nat.lt_irrefl _ (hlt raws hm), hnd⟩
  have hlt' : ∀ id, id ∈ raws :: y_ids [e1, e2] → id < 12100 := fun id hid => by
    rcases List.mem_cons.mp hid with g | g
    · omega
    · have := hlt id g
      omega
  rw [hids] at hnd' hlt'
  rw [b1] at hnd' hlt'
  have hcat : y_cat [e1, e2] = y_f e1 := by simp only [y_cat, f2, z_fap, z_fap_nil]
  have hnew : y_new 26 raws [e1, e2] s = (s, y_le 26, 0, raws, .inner 0 (16, y_n e2, raws) () (y_f e1) .leaf, fun i => y_sum i [e1, e2] + y_co i 26) := by
    unfold y_new
    rw [hcat]
    rfl
  rw [hnew] at hQ
  refine s_M_thing (k := 0) (n := 2) hth rfl (by decide) ?_
  refine s_M_thing (k := 1) (n := 2) hth rfl (by decide) ?_
  rw [show y_t ([e1, e2].getD (2 - 1 - 0) y_e0) = y_n e2 from htk, show y_t ([e1, e2].getD (2 - 1 - 1) y_e0) = a1'.2.2 from c1.symm, show nI 26 - 10 = nI 16 by decide]
  refine t_M_one_0 _ _ _ (s_M_raw (k := 16) h33 (by omega) (fun m1 p1 w1 => ?_))
  refine s_M_hang p1 hS1 (by simpa only [z_fid, List.nil_append] using hnd') (by simpa only [z_fid, List.nil_append] using hlt') (fun m2 p2 w2 => ?_)
  have p2 : y_pt m m2 raws 16 (y_n e2) (.inner s1 a1' v1 l1 .leaf) := p2
  rw [← b1] at p2
  refine hQ _ ⟨p2.1, ?_, p2.raw, fun id h1 h2 => p2.2.2.2.2.2.2.2.2 id h2 (fun h3 => h1 ?_)⟩
  · rw [w2, w1]; rfl
  · rw [hids]
    simpa only [z_fid_ap, List.append_assoc] using h3
theorem s_Mr27 {X : mz_X} {m : mz_M} {Q : Int32 → mz_M → Prop} {tk : Nat → Nat} {c raws s : Nat} {q t : List y_E} (hq : q.map y_x = y_rh 27) (hok : ∀ e, e ∈ q → y_ok tk c e) (hth : y_th m q t) (h57 : m 57 = (fun j => nI (z_loL.getD j 0))) (h33 : m 55 33 = nI raws) (hrw : raws < 12000) (hraw : ∀ e, e ∈ q → z_raw m (-1) (y_RF e)) (hnd : (y_ids q).Nodup) (hlt : ∀ id, id ∈ y_ids q → id < raws) (hQ : ∀ m', y_rp m m' 27 raws q (y_new 27 raws q s) → Q (nI (y_t (y_new 27 raws q s))) m') : mz_gi X mz_sh 153 0 [some (.ref 55), some (.int (nI 27)), none] m Q := by
  have a1 : y_rh 27 = [34, 18] := by decide +kernel
  rw [a1] at hq
  obtain ⟨e1, q, rfl, x1, hq⟩ := y_mc hq
  obtain ⟨e2, q, rfl, x2, hq⟩ := y_mc hq
  have := y_m0 hq
  subst this
  have o1 := hok e1 (by simp)
  have o2 := hok e2 (by simp)
  obtain ⟨s1, a1', v1, l1, b1, c1⟩ := y_one o1 x1 (by decide)
  obtain ⟨f2, n2, t2, i2⟩ := y_leaf o2 x2 (by decide)
  have tn2 := (o2.1 (by omega)).2.1
  have h57r : m 57 (nI 27).toNatClampNeg = nI 2 := by rw [nI_clamp (by decide), h57]; decide +kernel
  have hin : mz_inb (nI 27) 32 = true := by decide +kernel
  refine t_M_reduce_0 _ ⟨hin, fun g => absurd g (by decide), fun _ => ⟨fun _ => ?_, fun g => absurd (by decide) g⟩⟩
  refine t_M_reduce_1 _ _ ⟨fun g => absurd g (by decide), fun g => absurd g (by decide), fun g => absurd g (by decide), fun g => absurd g (by decide), fun g => absurd g (by decide), fun g => absurd g (by decide), fun g => absurd g (by decide), fun g => absurd g (by decide), fun g => absurd g (by decide), fun g => absurd g (by decide), fun g => absurd g (by decide), fun g => absurd g (by decide), fun g => absurd g (by decide), fun _ => ?_, fun g => absurd g (by decide), fun g => absurd g (by decide), fun g => absurd g (by decide), fun m1 m2 m11 m12 m14 m16 m17 m19 m20 m22 m23 m24 m26 m27 m29 m30 m31 => absurd rfl m27⟩
  rw [h57r]
  have htk : y_t e2 = y_n e2 := tn2
  have hids : y_ids [e1, e2] = z_fid (y_f e1) := by simp only [y_ids, y_ide_n x1 (by decide), i2, List.nil_append, List.append_nil, List.append_assoc]
  have hS1 := hraw e1 (by simp)
  rw [y_RF_n x1 (by decide), b1] at hS1
  have hnd' : (raws :: y_ids [e1, e2]).Nodup := List.nodup_cons.mpr ⟨fun hm => Nat.lt_irrefl _ (hlt raws hm), hnd⟩
  have hlt' : ∀ id, id ∈ raws :: y_ids [e1, e2] → id < 12100 := fun id hid => by
    rcases List.mem_cons.mp hid with g | g
    · omega
    · have := hlt id g
      omega
  rw [hids] at hnd' hlt'
  rw [b1] at hnd' hlt'
  have hcat : y_cat [e1, e2] = y_f e1 := by simp only [y_cat, f2, z_fap, z_fap_nil]
  have hnew : y_new 27 raws [e1, e2] s = (s, y_le 27, 0, raws, .inner 0 (17, y_n e2, raws) () (y_f e1) .leaf, fun i => y_sum i [e1, e2] + y_co i 27) := by
    unfold y_new
    rw [hcat]
    rfl
  rw [hnew] at hQ
  refine s_M_thing (k := 0) (n := 2) hth rfl (by decide) ?_
  refine s_M_thing (k := 1) (n := 2) hth rfl (by decide) ?_
  rw [show y_t ([e1, e2].getD (2 - 1 - 0) y_e0) = y_n e2 from htk, show y_t ([e1, e2].getD (2 - 1 - 1) y_e0) = a1'.2.2 from c1.symm, show nI 27 - 10 = nI 17 by decide]
  refine t_M_one_0 _ _ _ (s_M_raw (k := 17) h33 (by omega) (fun m1 p1 w1 => ?_))
  refine s_M_hang p1 hS1 (by simpa only [z_fid, List.nil_append] using hnd') (by simpa only [z_fid, List.nil_append] using hlt') (fun m2 p2 w2 => ?_)
  have p2 : y_pt m m2 raws 17 (y_n e2) (.inner s1 a1' v1 l1 .leaf) := p2
  rw [← b1] at p2
  refine hQ _ ⟨p2.1, ?_, p2.raw, fun id h1 h2 => p2.2.2.2.2.2.2.2.2 id h2 (fun h3 => h1 ?_)⟩
  · rw [w2, w1]; rfl
  · rw [hids]
    simpa only [z_fid_ap, List.append_assoc] using h3
theorem s_Mr28 {X : mz_X} {m : mz_M} {Q : Int32 → mz_M → Prop} {tk : Nat → Nat} {c raws s : Nat} {q t : List y_E} (hq : q.map y_x = y_rh 28) (hok : ∀ e, e ∈ q → y_ok tk c e) (hth : y_th m q t) (h57 : m 57 = (fun j => nI (z_loL.getD j 0))) (h33 : m 55 33 = nI raws) (hrw : raws < 12000) (hraw : ∀ e, e ∈ q → z_raw m (-1) (y_RF e)) (hnd : (y_ids q).Nodup) (hlt : ∀ id, id ∈ y_ids q → id < raws) (hQ : ∀ m', y_rp m m' 28 raws q (y_new 28 raws q s) → Q (nI (y_t (y_new 28 raws q s))) m') : mz_gi X mz_sh 153 0 [some (.ref 55), some (.int (nI 28)), none] m Q := by
  have a1 : y_rh 28 = [35] := by decide +kernel
  rw [a1] at hq
  obtain ⟨e1, q, rfl, x1, hq⟩ := y_mc hq
  have := y_m0 hq
  subst this
  have o1 := hok e1 (by simp)
  obtain ⟨s1, a1', v1, l1, b1, c1⟩ := y_one o1 x1 (by decide)
  have h57r : m 57 (nI 28).toNatClampNeg = nI 1 := by rw [nI_clamp (by decide), h57]; decide +kernel
  have hin : mz_inb (nI 28) 32 = true := by decide +kernel
  refine t_M_reduce_0 _ ⟨hin, fun g => absurd g (by decide), fun _ => ⟨fun _ => ?_, fun g => absurd (by decide) g⟩⟩
  refine t_M_reduce_1 _ _ ⟨fun g => absurd g (by decide), fun g => absurd g (by decide), fun g => absurd g (by decide), fun g => absurd g (by decide), fun g => absurd g (by decide), fun g => absurd g (by decide), fun g => absurd g (by decide), fun g => absurd g (by decide), fun g => absurd g (by decide), fun g => absurd g (by decide), fun g => absurd g (by decide), fun g => absurd g (by decide), fun g => absurd g (by decide), fun g => absurd g (by decide), fun g => absurd g (by decide), fun g => absurd g (by decide), fun g => absurd g (by decide), fun _ _ _ _ _ _ _ _ _ _ _ _ _ _ _ _ _ => ?_⟩
  rw [h57r]
  refine s_M_thing (k := 0) (n := 1) hth rfl (by decide) ?_
  have hcat : y_cat [e1] = y_f e1 := by simp only [y_cat, z_fap]
  have hnew : y_new 28 raws [e1] s = (s, y_le 28, 0, y_t e1, y_f e1, fun i => y_sum i [e1] + y_co i 28) := by
    unfold y_new
    rw [hcat]
    rfl
  rw [hnew] at hQ
  refine hQ m ⟨z_fm.rf _ _ _, by rw [h33]; rfl, ?_, fun id _ _ => ⟨rfl, rfl, rfl, rfl, rfl, rfl⟩⟩
  have h1 := hraw e1 (by simp)
  rw [y_RF_n x1 (by decide)] at h1
  exact h1
theorem s_Mr29 {X : mz_X} {m : mz_M} {Q : Int32 → mz_M → Prop} {tk : Nat → Nat} {c raws s : Nat} {q t : List y_E} (hq : q.map y_x = y_rh 29) (hok : ∀ e, e ∈ q → y_ok tk c e) (hth : y_th m q t) (h57 : m 57 = (fun j => nI (z_loL.getD j 0))) (h33 : m 55 33 = nI raws) (hrw : raws < 12000) (hraw : ∀ e, e ∈ q → z_raw m (-1) (y_RF e)) (hnd : (y_ids q).Nodup) (hlt : ∀ id, id ∈ y_ids q → id < raws) (hQ : ∀ m', y_rp m m' 29 raws q (y_new 29 raws q s) → Q (nI (y_t (y_new 29 raws q s))) m') : mz_gi X mz_sh 153 0 [some (.ref 55), some (.int (nI 29)), none] m Q := by
  have a1 : y_rh 29 = [1] := by decide +kernel
  rw [a1] at hq
  obtain ⟨e1, q, rfl, x1, hq⟩ := y_mc hq
  have := y_m0 hq
  subst this
  have o1 := hok e1 (by simp)
  obtain ⟨f1, n1, t1, i1⟩ := y_leaf o1 x1 (by decide)
  have tn1 := (o1.1 (by omega)).2.1
  have h57r : m 57 (nI 29).toNatClampNeg = nI 1 := by rw [nI_clamp (by decide), h57]; decide +kernel
  have hin : mz_inb (nI 29) 32 = true := by decide +kernel
  refine t_M_reduce_0 _ ⟨hin, fun g => absurd g (by decide), fun _ => ⟨fun _ => ?_, fun g => absurd (by decide) g⟩⟩
  refine t_M_reduce_1 _ _ ⟨fun g => absurd g (by decide), fun g => absurd g (by decide), fun g => absurd g (by decide), fun g => absurd g (by decide), fun g => absurd g (by decide), fun g => absurd g (by decide), fun g => absurd g (by decide), fun g => absurd g (by decide), fun g => absurd g (by decide), fun g => absurd g (by decide), fun g => absurd g (by decide), fun g => absurd g (by decide), fun g => absurd g (by decide), fun g => absurd g (by decide), fun _ => ?_, fun g => absurd g (by decide), fun g => absurd g (by decide), fun m1 m2 m11 m12 m14 m16 m17 m19 m20 m22 m23 m24 m26 m27 m29 m30 m31 => absurd rfl m29⟩
  rw [h57r]
  have htk : y_t e1 = y_n e1 := tn1
  have hids : y_ids [e1] = [] := by simp only [y_ids, i1, List.nil_append]
  have hnd' : (raws :: y_ids [e1]).Nodup := List.nodup_cons.mpr ⟨fun hm => Nat.lt_irrefl _ (hlt raws hm), hnd⟩
  have hlt' : ∀ id, id ∈ raws :: y_ids [e1] → id < 12100 := fun id hid => by
    rcases List.mem_cons.mp hid with g | g
    · omega
    · have := hlt id g
      omega
  rw [hids] at hnd' hlt'
  have hcat : y_cat [e1] = .leaf := by simp only [y_cat, f1, z_fap, z_fap_nil]
  have hnew : y_new 29 raws [e1] s = (s, y_le 29, 0, raws, .inner 0 (18, y_n e1, raws) () (.leaf) .leaf, fun i => y_sum i [e1] + y_co i 29) := by
    unfold y_new
    rw [hcat]
    rfl
  rw [hnew] at hQ
  refine s_M_thing (k := 0) (n := 1) hth rfl (by decide) ?_
  rw [show y_t ([e1].getD (1 - 1 - 0) y_e0) = y_n e1 from htk, show nI 29 - 11 = nI 18 by decide]
  refine s_M_raw (k := 18) h33 (by omega) (fun m1 p1 w1 => ?_)
  refine hQ _ ⟨p1.1, ?_, p1.raw, fun id h1 h2 => p1.2.2.2.2.2.2.2.2 id h2 (fun h3 => h1 ?_)⟩
  · rw [w1]; rfl
  · simp [z_fid] at h3
theorem s_Mr30 {X : mz_X} {m : mz_M} {Q : Int32 → mz_M → Prop} {tk : Nat → Nat} {c raws s : Nat} {q t : List y_E} (hq : q.map y_x = y_rh 30) (hok : ∀ e, e ∈ q → y_ok tk c e) (hth : y_th m q t) (h57 : m 57 = (fun j => nI (z_loL.getD j 0))) (h33 : m 55 33 = nI raws) (hrw : raws < 12000) (hraw : ∀ e, e ∈ q → z_raw m (-1) (y_RF e)) (hnd : (y_ids q).Nodup) (hlt : ∀ id, id ∈ y_ids q → id < raws) (hQ : ∀ m', y_rp m m' 30 raws q (y_new 30 raws q s) → Q (nI (y_t (y_new 30 raws q s))) m') : mz_gi X mz_sh 153 0 [some (.ref 55), some (.int (nI 30)), none] m Q := by
  have a1 : y_rh 30 = [2] := by decide +kernel
  rw [a1] at hq
  obtain ⟨e1, q, rfl, x1, hq⟩ := y_mc hq
  have := y_m0 hq
  subst this
  have o1 := hok e1 (by simp)
  obtain ⟨f1, n1, t1, i1⟩ := y_leaf o1 x1 (by decide)
  have tn1 := (o1.1 (by omega)).2.1
  have h57r : m 57 (nI 30).toNatClampNeg = nI 1 := by rw [nI_clamp (by decide), h57]; decide +kernel
  have hin : mz_inb (nI 30) 32 = true := by decide +kernel
  refine t_M_reduce_0 _ ⟨hin, fun g => absurd g (by decide), fun _ => ⟨fun _ => ?_, fun g => absurd (by decide) g⟩⟩
  refine t_M_reduce_1 _ _ ⟨fun g => absurd g (by decide), fun g => absurd g (by decide), fun g => absurd g (by decide), fun g => absurd g (by decide), fun g => absurd g (by decide), fun g => absurd g (by decide), fun g => absurd g (by decide), fun g => absurd g (by decide), fun g => absurd g (by decide), fun g => absurd g (by decide), fun g => absurd g (by decide), fun g => absurd g (by decide), fun g => absurd g (by decide), fun g => absurd g (by decide), fun g => absurd g (by decide), fun _ => ?_, fun g => absurd g (by decide), fun m1 m2 m11 m12 m14 m16 m17 m19 m20 m22 m23 m24 m26 m27 m29 m30 m31 => absurd rfl m30⟩
  rw [h57r]
  have htk : y_t e1 = y_n e1 := tn1
  have hids : y_ids [e1] = [] := by simp only [y_ids, i1, List.nil_append]
  have hnd' : (raws :: y_ids [e1]).Nodup := List.nodup_cons.mpr ⟨fun hm => Nat.lt_irrefl _ (hlt raws hm), hnd⟩
  have hlt' : ∀ id, id ∈ raws :: y_ids [e1] → id < 12100 := fun id hid => by
    rcases List.mem_cons.mp hid with g | g
    · omega
    · have := hlt id g
      omega
  rw [hids] at hnd' hlt'
  have hcat : y_cat [e1] = .leaf := by simp only [y_cat, f1, z_fap, z_fap_nil]
  have hnew : y_new 30 raws [e1] s = (s, y_le 30, 0, raws, .inner 0 (19, y_n e1, raws) () (.leaf) .leaf, fun i => y_sum i [e1] + y_co i 30) := by
    unfold y_new
    rw [hcat]
    rfl
  rw [hnew] at hQ
  refine s_M_thing (k := 0) (n := 1) hth rfl (by decide) ?_
  rw [show y_t ([e1].getD (1 - 1 - 0) y_e0) = y_n e1 from htk, show nI 30 - 11 = nI 19 by decide]
  refine s_M_raw (k := 19) h33 (by omega) (fun m1 p1 w1 => ?_)
  refine hQ _ ⟨p1.1, ?_, p1.raw, fun id h1 h2 => p1.2.2.2.2.2.2.2.2 id h2 (fun h3 => h1 ?_)⟩
  · rw [w1]; rfl
  · simp [z_fid] at h3
theorem s_Mr31 {X : mz_X} {m : mz_M} {Q : Int32 → mz_M → Prop} {tk : Nat → Nat} {c raws s : Nat} {q t : List y_E} (hq : q.map y_x = y_rh 31) (hok : ∀ e, e ∈ q → y_ok tk c e) (hth : y_th m q t) (h57 : m 57 = (fun j => nI (z_loL.getD j 0))) (h33 : m 55 33 = nI raws) (hrw : raws < 12000) (hraw : ∀ e, e ∈ q → z_raw m (-1) (y_RF e)) (hnd : (y_ids q).Nodup) (hlt : ∀ id, id ∈ y_ids q → id < raws) (hQ : ∀ m', y_rp m m' 31 raws q (y_new 31 raws q s) → Q (nI (y_t (y_new 31 raws q s))) m') : mz_gi X mz_sh 153 0 [some (.ref 55), some (.int (nI 31)), none] m Q := by
  have a1 : y_rh 31 = [22, 29, 21] := by decide +kernel
  rw [a1] at hq
  obtain ⟨e1, q, rfl, x1, hq⟩ := y_mc hq
  obtain ⟨e2, q, rfl, x2, hq⟩ := y_mc hq
  obtain ⟨e3, q, rfl, x3, hq⟩ := y_mc hq
  have := y_m0 hq
  subst this
  have o1 := hok e1 (by simp)
  have o2 := hok e2 (by simp)
  have o3 := hok e3 (by simp)
  obtain ⟨f1, n1, t1, i1⟩ := y_leaf o1 x1 (by decide)
  have tn1 := (o1.1 (by omega)).2.1
  obtain ⟨s2, a2', v2, l2, b2, c2⟩ := y_one o2 x2 (by decide)
  obtain ⟨f3, n3, t3, i3⟩ := y_leaf o3 x3 (by decide)
  have tn3 := (o3.1 (by omega)).2.1
  have h57r : m 57 (nI 31).toNatClampNeg = nI 3 := by rw [nI_clamp (by decide), h57]; decide +kernel
  have hin : mz_inb (nI 31) 32 = true := by decide +kernel
  refine t_M_reduce_0 _ ⟨hin, fun g => absurd g (by decide), fun _ => ⟨fun _ => ?_, fun g => absurd (by decide) g⟩⟩
  refine t_M_reduce_1 _ _ ⟨fun g => absurd g (by decide), fun g => absurd g (by decide), fun g => absurd g (by decide), fun g => absurd g (by decide), fun g => absurd g (by decide), fun g => absurd g (by decide), fun g => absurd g (by decide), fun g => absurd g (by decide), fun g => absurd g (by decide), fun g => absurd g (by decide), fun g => absurd g (by decide), fun g => absurd g (by decide), fun g => absurd g (by decide), fun g => absurd g (by decide), fun g => absurd g (by decide), fun g => absurd g (by decide), fun _ => ?_, fun m1 m2 m11 m12 m14 m16 m17 m19 m20 m22 m23 m24 m26 m27 m29 m30 m31 => absurd rfl m31⟩
  rw [h57r]
  refine s_M_thing (k := 1) (n := 3) hth rfl (by decide) ?_
  have hcat : y_cat [e1, e2, e3] = y_f e2 := by simp only [y_cat, f1, f3, z_fap, z_fap_nil]
  have hnew : y_new 31 raws [e1, e2, e3] s = (s, y_le 31, 0, y_t e2, y_f e2, fun i => y_sum i [e1, e2, e3] + y_co i 31) := by
    unfold y_new
    rw [hcat]
    rfl
  rw [hnew] at hQ
  refine hQ m ⟨z_fm.rf _ _ _, by rw [h33]; rfl, ?_, fun id _ _ => ⟨rfl, rfl, rfl, rfl, rfl, rfl⟩⟩
  have h1 := hraw e2 (by simp)
  rw [y_RF_n x2 (by decide)] at h1
  exact h1
