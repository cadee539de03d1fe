/-! parse: each side -/
def y_ft (e : y_E) : z_F := .inner 0 (0, 0, y_t e) () (y_f e) .leaf
theorem z_rel_par {m m' : mz_M} (h : z_rel m) (h1 : ∀ q, q ∉ [0, 9, 10, 11, 12, 13, 14, 15, 16, 28, 29, 30, 31, 32, 33, 34, 35, 36, 37, 38, 39, 40, 55, 73, 74, 75, 76, 77, 78, 79, 80, 81, 82, 83, 84, 85, 86, 87, 88, 89] → m' q = m q) (h0 : ∀ j, j ≠ 6 → j ≠ 8 → m' 0 j = m 0 j) (h2 : ∀ j, j ∉ [24, 26, 33, 34, 43, 44] → m' 55 j = m 55 j) (hr : r_red m') (ht : r_tree m') (hc : r_code m') : z_rel m' := by
  obtain ⟨g1, g2, g3, g4, g5, g6, g7, g8⟩ := h
  have hq : ∀ l : List Nat, l.all (fun q => decide (q ∉ [0, 9, 10, 11, 12, 13, 14, 15, 16, 28, 29, 30, 31, 32, 33, 34, 35, 36, 37, 38, 39, 40, 55, 73, 74, 75, 76, 77, 78, 79, 80, 81, 82, 83, 84, 85, 86, 87, 88, 89])) = true → ∀ q, q ∈ l → m' q = m q := fun l hl q hql => by
    have := List.all_eq_true.mp hl q hql
    simp only [decide_eq_true_eq] at this
    exact h1 q this
  refine ⟨r_tab_fr (hq _ (by decide)) g1, ?_, ?_, hr, ?_, ?_, ht, hc⟩
  · unfold r_text at g2 ⊢
    rw [h0 1 (by decide) (by decide), h2 12 (by decide), hq [1] (by decide) 1 (by decide), hq [66] (by decide) 66 (by decide)]
    exact g2
  · unfold r_tok at g3 ⊢
    rw [hq [2] (by decide) 2 (by decide), h2 18 (by decide), h2 21 (by decide), h2 13 (by decide), hq [3] (by decide) 3 (by decide), hq [4] (by decide) 4 (by decide), hq [5] (by decide) 5 (by decide), hq [6] (by decide) 6 (by decide), hq [7] (by decide) 7 (by decide), hq [8] (by decide) 8 (by decide), hq [67] (by decide) 67 (by decide), hq [68] (by decide) 68 (by decide), hq [69] (by decide) 69 (by decide), hq [70] (by decide) 70 (by decide), hq [71] (by decide) 71 (by decide), hq [72] (by decide) 72 (by decide)]
    obtain ⟨q1, q2, q3, q4, q5, q6, q7, q8, q9, q10, q11⟩ := g3
    exact ⟨q1, q2, q3, q4, q5, q6, q7, q8, q9, q10, fun h9 => z_tg_fr (hq _ (by decide)) (q11 h9)⟩
  · unfold r_in at g5 ⊢
    rw [hq [46] (by decide) 46 (by decide), hq [96] (by decide) 96 (by decide)]
    exact g5
  · unfold r_run at g6 ⊢
    rw [hq [47] (by decide) 47 (by decide), hq [48] (by decide) 48 (by decide), hq [49] (by decide) 49 (by decide), hq [97] (by decide) 97 (by decide), hq [99] (by decide) 99 (by decide), h2 56 (by decide), h2 57 (by decide), h2 59 (by decide), h2 60 (by decide), h2 61 (by decide)]
    exact g6
theorem y_tokq {m : mz_M} (h : z_tg m) : ∃ (tk zz : Nat → Nat) (c : Nat), y_toks tk zz c ∧ m 2 4 = nI c ∧ (∀ j, j ≤ c → m 3 j = nI (tk j)) ∧ (∀ j, tk j = 1 → ∃ q, q < 32 ∧ m 6 j = nI q) := by
  obtain ⟨c, n, k, kd, z, b, q1, q2, q3, q4, q5, q6, q7, q8⟩ := h
  have hz : ∀ j, j ≤ c → z_sum z j ≤ b j := by
    intro j
    induction j with
    | zero => intro _; exact Nat.zero_le _
    | succ j ih =>
      intro hj
      have h1 := ih (by omega)
      have h2 := (q8 j (by omega)).2.2.2.2.2.1
      simp only [z_sum]
      omega
  refine ⟨fun j => if j < c then kd j else 0, z, c, ⟨if_neg (Nat.lt_irrefl _), by omega, ?_, fun j hj => ?_⟩, q4, fun j hj => ?_, fun j hj => ?_⟩
  · have := hz c (Nat.le_refl _)
    omega
  · obtain ⟨r1, r2, r3, r4, r5, r6, r7, r8⟩ := q8 j hj
    have e : (fun j => if j < c then kd j else 0) j = kd j := if_pos hj
    rw [e]
    exact ⟨r2, r3, r5, r7⟩
  · by_cases g : j < c
    · simp only [g, if_true]
      exact (q8 j g).1
    · have : j = c := by omega
      subst this
      simp only [g, if_false]
      exact q6
  · by_cases g : j < c
    · simp only [g, if_true] at hj
      obtain ⟨q, hq1, hq2⟩ := (q8 j g).2.2.2.2.2.2.2 hj
      exact ⟨q, by omega, hq2⟩
    · simp only [g, if_false] at hj
      omega
theorem y_inv0 (tk zz : Nat → Nat) : y_inv tk zz 0 [] [] 0 := by
  refine ⟨trivial, fun e he => (by cases he), fun e he => (by cases he), List.Pairwise.nil, fun b hb => (by cases hb), List.nodup_nil, fun i hi => (by cases hi), ?_, ?_, ?_, ?_, ?_⟩ <;> simp [y_sum, z_sum, y_cat, z_fsz, z_fow]
/-- what an accepted text gives -/
theorem y_final {tk zz : Nat → Nat} {a c raws : Nat} {e : y_E} {told : List Nat} (hi : y_inv tk zz a [e] told raws) (ht : y_toks tk zz c) (ha : a ≤ c) (hx : y_x e = 26) : z_fty tk (a + 1) (y_ft e) ∧ z_fsz (y_f e) ≤ 4000 ∧ z_fow (y_f e) ≤ 8000 ∧ (z_fbk (y_ft e)).Pairwise (· < ·) ∧ y_t e < 12100 ∧ (∀ id, id ∈ z_fid (y_f e) → id < 12100 ∧ id ≠ y_t e) := by
  have hb := y_bounds hi ht ha
  have hc := ht.2.1
  obtain ⟨i1, i2, i3, i4, i5, i6, i7, i8⟩ := hi
  have ho := i2 e (by simp)
  obtain ⟨m1, m2⟩ := ho.2.1 hx
  have hcat : y_cat [e] = y_f e := rfl
  rw [hcat] at hb
  have hids : y_ids [e] = y_t e :: z_fid (y_f e) := by simp [y_ids, y_ide, hx]
  rw [hids] at i6 i7
  have hbk : y_bks [e] = z_fbk (y_f e) := by
    have : ¬ y_x e < 25 := by omega
    simp only [y_bks, this, if_false, List.nil_append]
  rw [hbk] at i4
  refine ⟨⟨Or.inl ⟨rfl, m2⟩, fun g => absurd g (show ¬ ((0 : Nat) = 18 ∨ (0 : Nat) = 1) by decide), Nat.succ_pos _, z_fty_wk (by omega) ho.2.2.2, trivial⟩, by omega, by omega, ?_, ?_, fun id hid => ⟨?_, fun e' => ?_⟩⟩
  · have : z_fbk (y_ft e) = z_fbk (y_f e) := by
      show (if (0 : Nat) = 5 ∨ (0 : Nat) = 6 then [0] else []) ++ z_fbk (y_f e) ++ [] = _
      rw [if_neg (by decide), List.nil_append, List.append_nil]
    rw [this]
    exact i4
  · have := i7 (y_t e) List.mem_cons_self
    omega
  · have := i7 id (List.mem_cons_of_mem _ hid)
    omega
  · rw [e'] at hid
    exact (List.nodup_cons.mp i6).1 hid
/-- the rows of the tree, as the class keeps them -/
def y_cA (m : mz_M) (N : Nat) (G : y_G) (lp : Nat → Nat) : Prop := m 30 5 = nI N ∧ (∀ i, i < N → m 31 i = nI (G i).1 ∧ m 32 i = nI (G i).2.1 ∧ m 33 i = nI (G i).2.2.2.2.2.length ∧ m 34 i = nI (G i).2.2.2.1 ∧ m 35 i = nI (G i).2.2.1) ∧ m 37 1 = nI N ∧ m 39 0 = nI N ∧ m 38 0 = -1 ∧ (∀ i, i < N → (G i).1 = 0 ∨ (G i).1 = 3 ∨ (G i).1 = 4 → ∀ x, x ∈ (G i).2.2.2.2.2 → m 38 x = nI (lp x) - 1 ∧ m 39 x = y_nx (fun i => (G i).1) (fun i => (G i).2.2.1) i x (m 39 i)) ∧ (∀ i, i < N → m 40 i = (if (G i).1 = 0 then z_in2 N (m 40) (if (G i).2.2.2.2.2 = [] then m 39 i else nI (i + 1)) else nI i))
/-- and as the reference does -/
def y_cM (m : mz_M) (N : Nat) (G : y_G) : Prop := m 55 43 = nI N ∧ (∀ i, i < N → m 82 i = nI (G i).1 ∧ m 83 i = nI (G i).2.1 ∧ m 84 i = nI (G i).2.2.2.2.2.length ∧ m 85 i = nI (G i).2.2.2.1) ∧ z_links m N (fun i => (G i).2.2.1) (fun i => (G i).2.2.2.2.1) (fun i => (G i).2.2.2.2.2)
def y_fA (m m' : mz_M) (B : Nat → Int32) (told : List Nat) : Prop := z_fr [0, 9, 10, 11, 12, 13, 14, 15, 16, 28, 29, 30, 31, 32, 33, 34, 35, 36, 37, 38, 39, 40] m m' ∧ (∀ j, j ≠ 6 → j ≠ 8 → m' 0 j = m 0 j) ∧ m' 0 6 = 0 ∧ m' 0 8 = 0 ∧ m' 9 1 = nI told.length ∧ m' 10 = y_tl B told
def y_nst (G : y_G) (lp : Nat → Nat) (N : Nat) : Prop := ∀ j, j < N → (G j).1 = 5 ∨ (G j).1 = 6 → 0 < lp j
def y_fst (G : y_G) (lp : Nat → Nat) (N j : Nat) : Prop := j < N ∧ ((G j).1 = 5 ∨ (G j).1 = 6) ∧ lp j = 0 ∧ ∀ j', j' < j → (G j').1 = 5 ∨ (G j').1 = 6 → 0 < lp j'
theorem s_A_parse {X : mz_X} {m : mz_M} {Q : Int32 → mz_M → Prop} {tk zz : Nat → Nat} {c : Nat} {G : y_G} {lp : Nat → Nat} {res a : Nat} {st : List y_E} {told : List Nat} {raws : Nat} (h26 : ¬ m 2 6 = 0) (h24 : m 2 4 = nI c) (h3 : ∀ j, j ≤ c → m 3 j = nI (tk j)) (hT : m 19 = (fun j => Int32.ofInt (z_act (j / 36) (j % 36)))) (hT2 : m 21 = (fun j => nI (z_loL.getD j 0))) (ht : y_toks tk zz c) (hrun : y_run tk zz 20018 0 [] [] 0 = (res, a, st, told, raws)) (hG : ∀ e, st = [e] → y_at G (y_ft e) 0 0) (hlp : a ≤ c → y_inv tk zz a st told raws → ∀ e, st = [e] → y_x e = 26 → 1 + z_fht (y_f e) ≤ 200 → lp 0 = 0 ∧ ∀ i, i < 1 + z_fsz (y_f e) → ∀ x, x ∈ (G i).2.2.2.2.2 → lp x = (if (G i).1 = 4 then i + 1 else lp i)) (q1 : a ≤ c → y_inv tk zz a st told raws → res = 1 → ∀ m', y_fA m m' (m 10) told → Q (-10 - nI a) m') (q2 : a ≤ c → y_inv tk zz a st told raws → res = 2 → ∀ e, st = [e] → y_x e = 26 → ¬ 1 + z_fht (y_f e) ≤ 200 → ∀ m', y_fA m m' (m 10) told → Q (-2) m') (q3 : a ≤ c → y_inv tk zz a st told raws → res = 2 → ∀ e, st = [e] → y_x e = 26 → 1 + z_fht (y_f e) ≤ 200 → ∀ m', y_fA m m' (m 10) told → y_cA m' (1 + z_fsz (y_f e)) G lp → (y_nst G lp (1 + z_fsz (y_f e)) → Q (nI (1 + z_fsz (y_f e))) (mz_up m' 0 6 1)) ∧ (∀ j, y_fst G lp (1 + z_fsz (y_f e)) j → Q (-10000 - nI (G j).2.1) m')) : mz_gi X mz_sh 105 0 [some (.ref 0), none, none] m Q := by
  refine t_A_parse_0 ⟨fun g => absurd g h26, fun _ => t_A_forgetTree_0 (t_P_read_0 ?_)⟩
  refine t_P_push_0 _ _ ?_
  have e96 : mz_up (mz_up (mz_up (mz_up (mz_up m 0 6 0) 0 8 0) 9 1 0) 11 5 0) 9 6 0 9 6 = 0 := by simp [mz_up, upd]
  rw [e96]
  refine ⟨fun g => absurd g (by decide), fun _ => ⟨by decide, by decide, ?_⟩⟩
  have f0 : z_fr [0, 9, 10, 11, 12, 13, 14, 15, 16, 28, 29, 30, 31, 32, 33, 34, 35, 36, 37, 38, 39, 40] m (mz_up (mz_up (mz_up (mz_up (mz_up (mz_up (mz_up (mz_up m 0 6 0) 0 8 0) 9 1 0) 11 5 0) 9 6 0) 28 (0 : Int32).toNatClampNeg 0) 29 (0 : Int32).toNatClampNeg 0) 9 6 (0 + 1)) := ((((((((z_fr.rf _ _).up (by decide)).up (by decide)).up (by decide)).up (by decide)).up (by decide)).up (by decide)).up (by decide)).up (by decide)
  have k0 : ∀ j, j ≠ 6 → j ≠ 8 → mz_up (mz_up (mz_up (mz_up (mz_up (mz_up (mz_up (mz_up m 0 6 0) 0 8 0) 9 1 0) 11 5 0) 9 6 0) 28 (0 : Int32).toNatClampNeg 0) 29 (0 : Int32).toNatClampNeg 0) 9 6 (0 + 1) 0 j = m 0 j := fun j h6 h8 => by simp [mz_up, upd, h6, h8]
  have k06 : mz_up (mz_up (mz_up (mz_up (mz_up (mz_up (mz_up (mz_up m 0 6 0) 0 8 0) 9 1 0) 11 5 0) 9 6 0) 28 (0 : Int32).toNatClampNeg 0) 29 (0 : Int32).toNatClampNeg 0) 9 6 (0 + 1) 0 6 = 0 := by simp [mz_up, upd]
  have k08 : mz_up (mz_up (mz_up (mz_up (mz_up (mz_up (mz_up (mz_up m 0 6 0) 0 8 0) 9 1 0) 11 5 0) 9 6 0) 28 (0 : Int32).toNatClampNeg 0) 29 (0 : Int32).toNatClampNeg 0) 9 6 (0 + 1) 0 8 = 0 := by simp [mz_up, upd]
  have k91 : mz_up (mz_up (mz_up (mz_up (mz_up (mz_up (mz_up (mz_up m 0 6 0) 0 8 0) 9 1 0) 11 5 0) 9 6 0) 28 (0 : Int32).toNatClampNeg 0) 29 (0 : Int32).toNatClampNeg 0) 9 6 (0 + 1) 9 1 = nI 0 := by simp [mz_up, upd, nI_0]
  have k96 : mz_up (mz_up (mz_up (mz_up (mz_up (mz_up (mz_up (mz_up m 0 6 0) 0 8 0) 9 1 0) 11 5 0) 9 6 0) 28 (0 : Int32).toNatClampNeg 0) 29 (0 : Int32).toNatClampNeg 0) 9 6 (0 + 1) 9 6 = nI 1 := by rw [mz_up_k]; simp [upd]; rfl
  have k11 : mz_up (mz_up (mz_up (mz_up (mz_up (mz_up (mz_up (mz_up m 0 6 0) 0 8 0) 9 1 0) 11 5 0) 9 6 0) 28 (0 : Int32).toNatClampNeg 0) 29 (0 : Int32).toNatClampNeg 0) 9 6 (0 + 1) 11 5 = nI 0 := by simp [mz_up, upd, nI_0]
  have k28 : mz_up (mz_up (mz_up (mz_up (mz_up (mz_up (mz_up (mz_up m 0 6 0) 0 8 0) 9 1 0) 11 5 0) 9 6 0) 28 (0 : Int32).toNatClampNeg 0) 29 (0 : Int32).toNatClampNeg 0) 9 6 (0 + 1) 28 0 = 0 := by
    have : (0 : Int32).toNatClampNeg = 0 := by decide
    simp [mz_up, upd, this]
  have k10 : mz_up (mz_up (mz_up (mz_up (mz_up (mz_up (mz_up (mz_up m 0 6 0) 0 8 0) 9 1 0) 11 5 0) 9 6 0) 28 (0 : Int32).toNatClampNeg 0) 29 (0 : Int32).toNatClampNeg 0) 9 6 (0 + 1) 10 = m 10 := by simp [mz_up]
  generalize mz_up (mz_up (mz_up (mz_up (mz_up (mz_up (mz_up (mz_up m 0 6 0) 0 8 0) 9 1 0) 11 5 0) 9 6 0) 28 (0 : Int32).toNatClampNeg 0) 29 (0 : Int32).toNatClampNeg 0) 9 6 (0 + 1) = m1 at f0 k0 k06 k08 k91 k96 k11 k28 k10
  have hres := s_P_read1 (X := X) (Q := fun r8 m6 => ((r8 = (-1) → mz_gi X mz_sh 83 0 [some (.ref 11)] m6 (fun r13 m11 => ((r13 ≤ 200 → mz_gv X mz_sh 84 0 [some (.ref 30), some (.ref 11), none, none] m11 (fun m16 => mz_gv X mz_sh 28 0 [some (.ref 37), some (.ref 30), none] m16 (fun m18 => mz_gi X mz_sh 30 0 [some (.ref 37), some (.ref 30), none, none] m18 (fun r22 m20 => ((r22 = (-1) → Q (m20 30 5) (mz_up m20 0 6 1)) ∧ (¬ (r22 = (-1)) → Q ((-10000) - r22) m20)))))) ∧ (¬ (r13 ≤ 200) → Q (-2) m11)))) ∧ (¬ (r8 = (-1)) → Q ((-10) - r8) m6))) (B := m 10) ht 20018 0 [] [] 0 m1 (by omega) (y_inv0 tk zz) rfl (by rw [f0 2 (by decide)]; exact h24) (by rw [f0 3 (by decide)]; exact h3) (by rw [f0 19 (by decide)]; exact hT) (by rw [f0 21 (by decide)]; exact hT2) ⟨k96, k28, trivial, k11, trivial⟩ k91 k10 (fun res' a' st' told' raws' hy ha' hi' => ?_)
  · exact hres
  · rw [hrun] at hy
    cases hy
    have mkA : ∀ m2, z_fr [9, 10, 11, 12, 13, 14, 15, 16, 28, 29] m1 m2 → m2 9 1 = nI told.length → m2 10 = y_tl (m 10) told → y_fA m m2 (m 10) told := fun m2 f2 w1 w2 => ⟨f0.tr (f2.wk (by decide)), fun j h6 h8 => by rw [f2 0 (by decide)]; exact k0 j h6 h8, by rw [f2 0 (by decide)]; exact k06, by rw [f2 0 (by decide)]; exact k08, w1, w2⟩
    have hc4 := ht.2.1
    refine ⟨fun h1 m2 f2 w1 w2 => ⟨fun g => ?_, fun _ => q1 ha' hi' h1 m2 (mkA m2 f2 w1 w2)⟩, fun h2 e m2 hst hx f2 w1 w2 w3 w4 => ⟨fun _ => ?_, fun g => absurd rfl g⟩⟩
    · exfalso
      have e1 := congrArg Int32.toInt g
      rw [nI_toInt (by omega)] at e1
      have : (-1 : Int32).toInt = -1 := by decide
      omega
    · subst hst
      have hfin := y_final hi' ht ha' hx
      obtain ⟨t1, t2, t3, t4, t5, t6⟩ := hfin
      have hsz : z_fsz (.inner 0 (0, 0, y_t e) () (y_f e) .leaf : z_F) = 1 + z_fsz (y_f e) := by simp only [z_fsz, Nat.add_zero]
      rw [hsz] at w3
      have hfA := mkA m2 f2 w1 w2
      have h15 : m2 15 (z_fsz (y_f e)) = nI (1 + z_fht (y_f e)) := by
        have := w4.2.1.2.2.2.1
        rw [Nat.zero_add] at this
        exact this
      have hhs := z_fht_sz (y_f e)
      refine t_T_heightOfLatest_0 ?_
      rw [w3]
      refine ⟨fun g => absurd g (nI_ge (a := 0) (by omega) (by omega)), fun _ => ?_⟩
      rw [nI_m1 (by omega), show 1 + z_fsz (y_f e) - 1 = z_fsz (y_f e) by omega, nI_clamp (by omega), h15]
      refine ⟨mz_inbN (by omega) (by decide), fun g => ?_, fun g => ?_⟩
      · have hh : 1 + z_fht (y_f e) ≤ 200 := (nI_leI (b := 200) (by omega) (by decide)).mp g
        obtain ⟨lp0, lpx⟩ := hlp ha' hi' e rfl hx hh
        have hGe := hG e rfl
        have hpre := y_pre hGe t1 t2 (by omega) t3
        refine s_T_takeInOrder hGe w4 w3 t2 (fun m3 f3 w5 w6 => ?_)
        refine s_W_find hpre lpx lp0 w5 (fun x hx => ⟨(w6 x hx).1, (w6 x hx).2.2.1, (w6 x hx).2.2.2.2⟩) (fun m4 f4 v1 v2 v3 v4 v5 => ?_)
        have fA4 : y_fA m m4 (m 10) told := by
          obtain ⟨z1, z2, z3, z4, z5, z6⟩ := hfA
          refine ⟨(z1.tr (f3.wk (by decide))).tr (f4.wk (by decide)), fun j h6 h8 => ?_, ?_, ?_, ?_, ?_⟩
          · rw [f4 0 (by decide), f3 0 (by decide)]; exact z2 j h6 h8
          · rw [f4 0 (by decide), f3 0 (by decide)]; exact z3
          · rw [f4 0 (by decide), f3 0 (by decide)]; exact z4
          · rw [f4 9 (by decide), f3 9 (by decide)]; exact z5
          · rw [f4 10 (by decide), f3 10 (by decide)]; exact z6
        have e30 : m4 30 5 = nI (1 + z_fsz (y_f e)) := by rw [f4 30 (by decide)]; exact w5
        have hcA : y_cA m4 (1 + z_fsz (y_f e)) G lp := ⟨e30, fun i hi => by rw [f4 31 (by decide), f4 32 (by decide), f4 33 (by decide), f4 34 (by decide), f4 35 (by decide)]; exact w6 i hi, v1, v2, v3, v4, v5⟩
        obtain ⟨r1, r2⟩ := q3 ha' hi' h2 e rfl hx hh m4 fA4 hcA
        have hk19 : ∀ x, x < 1 + z_fsz (y_f e) → (G x).1 ≤ 19 := fun x hx => by
          rcases z_cases hpre hx with ⟨k, _⟩ | ⟨k, e, _⟩ | ⟨k, l, e, _⟩ | ⟨k, l, l2, e, _⟩ | ⟨k, l, e, _⟩ | ⟨k, e⟩ | ⟨k, b, e, _⟩ | ⟨k, e⟩ <;> omega
        have hlN := y_lple hpre lpx lp0
        have hall := y_at_all _ _ _ hGe t1
        have htk : ∀ x, x < 1 + z_fsz (y_f e) → (G x).2.1 ≤ 4000 := fun x hx => by
          have := (hall x (by omega) (by rw [show z_fsz (y_ft e) = 1 + z_fsz (y_f e) from hsz]; omega)).2.2.2.2.2.2.2.1
          omega
        refine t_W_firstStray_0 (s_W_firstStray1 (kd := fun x => (G x).1) (tk := fun x => (G x).2.1) (lp := lp) (N := 1 + z_fsz (y_f e)) (by omega) e30 (fun x hx => ⟨(hcA.2.1 x hx).1, (hcA.2.1 x hx).2.1, hk19 x hx⟩) (fun x hx hk => ?_) (fun hn => ⟨fun _ => by rw [e30]; exact r1 hn, fun g => absurd rfl g⟩) (fun j hj hk hl hb => ⟨fun g => ?_, fun _ => r2 j ⟨hj, hk, hl, hb⟩⟩) (1 + z_fsz (y_f e)) 0 rfl (fun j hj => by omega))
        · refine ⟨?_, hlN x x (Nat.le_refl _) hx⟩
          by_cases h0 : x = 0
          · subst h0
            have := hpre.2.2.2.1
            simp only at this hk
            omega
          · obtain ⟨u1, u2⟩ := hpre.2.2.2.2.2.1 x (by omega) hx
            have u1' : (G x).2.2.2.2.1 < x := u1
            have hk' : (G x).1 ≤ 6 := by
              have hk2 : (G x).1 = 5 ∨ (G x).1 = 6 := hk
              omega
            have u3 := z_par hpre hx hk' (by omega)
            exact (v4 (G x).2.2.2.2.1 (by omega) u3 x u2).1
        · exfalso
          have := htk j hj
          have e1 := congrArg Int32.toInt g
          rw [nI_toInt (by omega)] at e1
          have : (-1 : Int32).toInt = -1 := by decide
          omega
      · have hh : ¬ 1 + z_fht (y_f e) ≤ 200 := fun h => g (nI_le (b := 200) h (by decide))
        exact q2 ha' hi' h2 e rfl hx hh m2 hfA
