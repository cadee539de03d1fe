/-! the parsers' stack: entries (set, symbol, note, thing, forest, potentials) -/
abbrev y_E : Type := Nat × Nat × Nat × Nat × z_F × (Nat → Int)
def y_s (e : y_E) : Nat := e.1
def y_x (e : y_E) : Nat := e.2.1
def y_n (e : y_E) : Nat := e.2.2.1
def y_t (e : y_E) : Nat := e.2.2.2.1
def y_f (e : y_E) : z_F := e.2.2.2.2.1
def y_p (e : y_E) : Nat → Int := e.2.2.2.2.2
def y_e0 : y_E := (0, 0, 0, 0, .leaf, fun _ => 0)
def y_top : List y_E → Nat
  | [] => 0
  | e :: _ => y_s e
def y_pth : List y_E → Prop
  | [] => True
  | e :: t => 0 < y_s e ∧ y_s e < 63 ∧ y_x e < 36 ∧ z_act (y_top t) (y_x e) = y_s e ∧ y_pth t
def y_cat : List y_E → z_F
  | [] => .leaf
  | e :: t => z_fap (y_cat t) (y_f e)
def y_bks : List y_E → List Nat
  | [] => []
  | e :: t => y_bks t ++ (if y_x e < 25 then [y_n e] else z_fbk (y_f e))
def y_ide (e : y_E) : List Nat := (if y_x e = 26 then [y_t e] else []) ++ z_fid (y_f e)
def y_ids : List y_E → List Nat
  | [] => []
  | e :: t => y_ids t ++ y_ide e
def y_sum (i : Nat) : List y_E → Int
  | [] => 0
  | e :: t => y_sum i t + y_p e i
theorem y_cat_ap (q t : List y_E) : y_cat (q ++ t) = z_fap (y_cat t) (y_cat q) := by
  induction q with
  | nil => simp only [List.nil_append, y_cat, z_fap_nil]
  | cons e q ih => simp only [List.cons_append, y_cat, ih, z_fap_as]
theorem y_bks_ap (q t : List y_E) : y_bks (q ++ t) = y_bks t ++ y_bks q := by
  induction q with
  | nil => simp only [List.nil_append, y_bks, List.append_nil]
  | cons e q ih => simp only [List.cons_append, y_bks, ih, List.append_assoc]
theorem y_ids_ap (q t : List y_E) : y_ids (q ++ t) = y_ids t ++ y_ids q := by
  induction q with
  | nil => simp only [List.nil_append, y_ids, List.append_nil]
  | cons e q ih => simp only [List.cons_append, y_ids, ih, List.append_assoc]
theorem y_sum_ap (i : Nat) (q t : List y_E) : y_sum i (q ++ t) = y_sum i t + y_sum i q := by
  induction q with
  | nil => simp only [List.nil_append, y_sum, Int.add_zero]
  | cons e q ih => simp only [List.cons_append, y_sum, ih, Int.add_assoc]
theorem y_pth_ap : ∀ {q t : List y_E}, y_pth (q ++ t) → y_pth t := by
  intro q
  induction q with
  | nil => intro t h; exact h
  | cons e q ih => intro t h; exact ih h.2.2.2.2
/-- what the row of a rule tells of the stack -/
theorem y_bk_spec : ∀ (l : List Nat) (s x : Nat) (st : List y_E), y_bk l s x = true → y_pth st → y_top st = s → s < 63 → ∃ q t, st = q ++ t ∧ q.map y_x = l ∧ q.length = l.length ∧ 0 < z_act (y_top t) x ∧ z_act (y_top t) x < 63 ∧ y_top t < 63 := by
  intro l
  induction l with
  | nil =>
    intro s x st h hp ht hs
    simp only [y_bk, Bool.and_eq_true, decide_eq_true_eq] at h
    exact ⟨[], st, rfl, rfl, rfl, by rw [ht]; exact h.1, by rw [ht]; exact h.2, by rw [ht]; exact hs⟩
  | cons y l ih =>
    intro s x st h hp ht hs
    cases st with
    | nil =>
      have : s = 0 := ht.symm
      subst this
      simp [y_bk] at h
    | cons e st =>
      obtain ⟨p1, p2, p3, p4, p5⟩ := hp
      have ht' : y_s e = s := ht
      have htop : y_top st < 63 := by
        cases st with
        | nil => exact (by decide : (0 : Nat) < 63)
        | cons e2 st2 => exact p5.2.1
      have hm : (y_top st, y_x e) ∈ y_pr s := by
        have c4 := y_al2 y_ck4_all htop p3
        unfold y_ck4 at c4
        rw [p4, ht'] at c4
        have h1 : decide ((0 : Int) < (s : Int)) = true := by rw [decide_eq_true_eq]; omega
        have h2 : decide ((s : Int) < 63) = true := by rw [decide_eq_true_eq]; omega
        rw [h1, h2] at c4
        simp only [Bool.and_true, Bool.not_true, Bool.false_or, Int.toNat_natCast] at c4
        obtain ⟨q, hq1, hq2⟩ := List.any_eq_true.mp c4
        simp only [Bool.and_eq_true, decide_eq_true_eq] at hq2
        have : q = (y_top st, y_x e) := Prod.ext hq2.1 hq2.2
        rw [← this]
        exact hq1
      simp only [y_bk, Bool.and_eq_true] at h
      have hq := List.all_eq_true.mp h.2 _ hm
      simp only [Bool.and_eq_true, decide_eq_true_eq] at hq
      obtain ⟨q, t, a1, a2, a3, a4, a5, a6⟩ := ih (y_top st) x st hq.2 p5 rfl htop
      exact ⟨e :: q, t, by rw [a1]; rfl, by rw [List.map_cons, hq.1, a2], by rw [List.length_cons, a3]; rfl, a4, a5, a6⟩
/-- an entry is as its symbol says -/
def y_ok (tk : Nat → Nat) (c : Nat) (e : y_E) : Prop := (y_x e < 25 → y_f e = .leaf ∧ y_t e = y_n e ∧ y_n e < c ∧ tk (y_n e) = y_x e) ∧ (y_x e = 26 → y_n e = z_fln (y_f e) ∧ ∀ k, k ∈ z_fks (y_f e) → k ≤ 6) ∧ (27 ≤ y_x e → ∃ s a v l, y_f e = .inner s a v l .leaf ∧ a.2.2 = y_t e ∧ (y_x e = 27 → a.1 ≤ 6) ∧ (y_x e = 28 → a.1 = 0) ∧ (29 ≤ y_x e → 7 ≤ a.1 ∧ a.1 ≤ 19)) ∧ z_fty tk c (y_f e)
def y_okp (e : y_E) : Prop := ∀ i, i < 5 → y_lb i (y_x e) ≤ y_p e i
def y_ta (r : Nat) : Nat := if r = 12 ∨ r = 14 ∨ r = 16 ∨ r = 17 ∨ r = 19 ∨ r = 20 ∨ r = 22 ∨ r = 23 ∨ r = 24 then 1 else 0
def y_tok (r : Nat) (q : List y_E) : Nat := y_n (q.getD (q.length - 1 - y_ta r) y_e0)
def y_id (r raws : Nat) (q : List y_E) : Nat := if r = 11 then y_t (q.getD 1 y_e0) else raws
def y_mk (r : Nat) : Nat := if r = 1 ∨ (0 ≤ y_no r ∧ r ≠ 11) then 1 else 0
/-- the entry that a reduction makes of the popped ones -/
def y_new (r raws : Nat) (q : List y_E) (s : Nat) : y_E := (s, y_le r, (if r = 2 then y_n (q.getD 1 y_e0) + 1 else 0), (if 0 ≤ y_no r then y_id r raws q else if r = 1 then raws else if r = 2 ∨ r = 31 then y_t (q.getD 1 y_e0) else y_t (q.getD 0 y_e0)), (if 0 ≤ y_no r then .inner 0 ((y_no r).toNat, y_tok r q, y_id r raws q) () (y_cat q) .leaf else y_cat q), fun i => y_sum i q + y_co i r)
def y_good (tk : Nat → Nat) (c r raws : Nat) (q : List y_E) (e : y_E) : Prop := y_ok tk c e ∧ (z_fbk (y_f e)).Sublist (y_bks q) ∧ ((y_ide e = y_ids q ∧ y_mk r = 0) ∨ (y_ide e = raws :: y_ids q ∧ y_mk r = 1)) ∧ (z_fsz (y_f e) : Int) = z_fsz (y_cat q) - y_co 2 r ∧ (z_fow (y_f e) : Int) = z_fow (y_cat q) - y_co 4 r
theorem y_fbk_cat {tk : Nat → Nat} {c : Nat} : ∀ (q : List y_E), (∀ e, e ∈ q → y_ok tk c e) → (z_fbk (y_cat q)).Sublist (y_bks q) := by
  intro q
  induction q with
  | nil => intro _; exact List.Sublist.refl _
  | cons e q ih =>
    intro h
    have h1 := ih (fun e' he => h e' (List.mem_cons_of_mem _ he))
    simp only [y_cat, y_bks, z_fbk_ap]
    refine List.Sublist.append h1 ?_
    split
    · rename_i g
      rw [((h e List.mem_cons_self).1 g).1]
      exact List.nil_sublist _
    · exact List.Sublist.refl _
/-- a node is made -/
theorem y_good_nd {tk : Nat → Nat} {c r raws s : Nat} {q : List y_E} (hn : 0 ≤ y_no r) (h2 : r ≠ 2) (h11 : r ≠ 11) (h1 : r ≠ 1) (hle : (y_le r = 27 ∧ y_no r ≤ 6) ∨ (29 ≤ y_le r ∧ 7 ≤ y_no r ∧ y_no r ≤ 19)) (ht : z_typ (y_no r).toNat (z_fks (y_cat q))) (htk : (y_no r).toNat = 18 ∨ (y_no r).toNat = 1 → tk (y_tok r q) = 1) (hc : y_tok r q < c) (hty : z_fty tk c (y_cat q)) (hb : ((if (y_no r).toNat = 5 ∨ (y_no r).toNat = 6 then [y_tok r q] else []) ++ z_fbk (y_cat q)).Sublist (y_bks q)) (hi : y_ids q = z_fid (y_cat q)) (h3 : y_co 2 r = -1) (h4 : (z_ow (y_no r).toNat (z_fln (y_cat q)) : Int) = - y_co 4 r) : y_good tk c r raws q (y_new r raws q s) := by
  have e1 : y_new r raws q s = (s, y_le r, 0, raws, .inner 0 ((y_no r).toNat, y_tok r q, raws) () (y_cat q) .leaf, fun i => y_sum i q + y_co i r) := by
    simp only [y_new, y_id, if_neg h2, if_neg h11, if_pos hn]
  rw [e1]
  refine ⟨⟨fun g => ?_, fun g => ?_, fun g => ⟨0, ((y_no r).toNat, y_tok r q, raws), (), y_cat q, rfl, rfl, fun g => ?_, fun g => ?_, fun g => ?_⟩, ht, htk, hc, hty, trivial⟩, ?_, Or.inr ⟨?_, ?_⟩, ?_, ?_⟩
  · have : y_le r < 25 := g
    omega
  · have : y_le r = 26 := g
    omega
  · have : y_le r = 27 := g
    simp only
    omega
  · have : y_le r = 28 := g
    omega
  · have : 29 ≤ y_le r := g
    simp only
    omega
  · simp only [y_f, z_fbk, List.append_nil]
    exact hb
  · have : y_le r ≠ 26 := by omega
    simp only [y_ide, y_x, y_f, y_t, this, if_false, List.nil_append, z_fid, List.append_nil, hi]
  · unfold y_mk
    rw [if_pos (Or.inr ⟨hn, h11⟩)]
  · simp only [y_f, z_fsz]
    omega
  · simp only [y_f, z_fow]
    omega
