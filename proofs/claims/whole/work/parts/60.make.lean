/-! the class's code: word counts, starts, words -/
def z_hA (m : mz_M) (N : Nat) (kd tk sz lp : Nat → Nat) (ks : Nat → List Nat) : Prop := m 30 5 = nI N ∧ N ≤ 4001 ∧ ∀ i, i < N → m 31 i = nI (kd i) ∧ m 32 i = nI (tk i) ∧ m 33 i = nI (ks i).length ∧ m 35 i = nI (sz i) ∧ kd i ≤ 19 ∧ tk i ≤ 4000 ∧ (kd i = 5 ∨ kd i = 6 → m 38 i = nI (lp i) - 1) ∧ z_segP sz (i + 1) (i + sz i) (ks i) ∧ i + sz i ≤ N ∧ 1 ≤ sz i
theorem z_hA.fr {m m' : mz_M} {N : Nat} {kd tk sz lp : Nat → Nat} {ks : Nat → List Nat} {l : List Nat} (h : z_hA m N kd tk sz lp ks) (hf : z_fr l m m') (hl : ∀ q, q ∈ [30, 31, 32, 33, 35, 38] → q ∉ l) : z_hA m' N kd tk sz lp ks := by
  unfold z_hA at h ⊢
  rw [hf 30 (hl 30 (by decide)), hf 31 (hl 31 (by decide)), hf 32 (hl 32 (by decide)), hf 33 (hl 33 (by decide)), hf 35 (hl 35 (by decide)), hf 38 (hl 38 (by decide))]
  exact h
theorem z_hA.len {m : mz_M} {N : Nat} {kd tk sz lp : Nat → Nat} {ks : Nat → List Nat} (h : z_hA m N kd tk sz lp ks) {i : Nat} (hi : i < N) : i + 1 + (ks i).length ≤ i + sz i := by
  obtain ⟨h1, h2, h3⟩ := h
  obtain ⟨_, _, _, _, _, _, _, g1, g2, g3⟩ := h3 i hi
  exact z_segP_len _ _ _ (fun j hj => (h3 j (by omega)).2.2.2.2.2.2.2.2.2) g1
theorem mz_a0k : ∀ k, k ≤ 19 → mz_a0.getD k 0 = nI (z_ow k 0) := by
  have : ∀ k, k < 20 → mz_a0.getD k 0 = nI (z_ow k 0) := by decide +kernel
  exact fun k hk => this k (by omega)
theorem mz_a1k : ∀ k, k ≤ 19 → mz_a1.getD k 0 = nI (z_wb k) := by
  have : ∀ k, k < 20 → mz_a1.getD k 0 = nI (z_wb k) := by decide +kernel
  exact fun k hk => this k (by omega)
theorem s_C_measure1 {X : mz_X} {m : mz_M} {Q : mz_M → Prop} {N i hi : Nat} {kd tk sz lp wc : Nat → Nat} {ks : Nat → List Nat} (h : z_hA m N kd tk sz lp ks) (hiN : i < N) (hhi : hi ≤ N) : ∀ (t : List Nat) (lo acc j : Nat), z_segP sz lo hi t → j + t.length = (ks i).length → (∀ x, x ∈ t → m 45 x = nI (wc x)) → Q (mz_up m 45 i (nI (acc + (t.map wc).sum))) → mz_gv X mz_sh 4 42 [some (.ref 41), some (.ref 30), some (.int (nI i)), some (.int (nI acc)), some (.int (nI lo)), some (.int (nI j))] m Q := by
  have hlen := h.len hiN
  obtain ⟨h1, h2, h3⟩ := h
  obtain ⟨c1, c2, c3, c4, c5, c6, c7, c8, c9, c10⟩ := h3 i hiN
  have hin : mz_inb (nI i) 4001 = true := mz_inbN (by omega) (by decide)
  intro t
  induction t with
  | nil =>
    intro lo acc j hs hj _ hQ
    simp only [List.length_nil] at hj
    simp only [List.map_nil, List.sum_nil, Nat.add_zero] at hQ
    refine t_C_measure_1 _ _ _ _ ⟨hin, fun _ => ⟨hin, ?_⟩, fun g => ?_⟩
    · rw [nI_clamp (by omega)]; exact hQ
    · rw [nI_clamp (by omega), c3] at g
      exact absurd (nI_le (by omega) (by omega)) g
  | cons x t ih =>
    intro lo acc j hs hj hw hQ
    obtain ⟨a1, a2, a3⟩ := hs
    subst a1
    simp only [List.length_cons] at hj
    refine t_C_measure_1 _ _ _ _ ⟨hin, fun g => ?_, fun _ => ⟨fun g => ?_, fun _ => ⟨mz_inbN (by omega) (by decide), ?_⟩⟩⟩
    · rw [nI_clamp (by omega), c3] at g
      exact absurd g (nI_ge (by omega) (by omega))
    · rw [h1] at g
      exact absurd g (nI_ge (by omega) (by omega))
    · refine s_T_behind h2 h1 (by omega) (h3 x (by omega)).2.2.2.1 ?_
      rw [nI_clamp (by omega), hw x List.mem_cons_self, nI_add, nI_1]
      refine ih (x + sz x) (acc + wc x) (j + 1) a3 (by omega) (fun y hy => hw y (List.mem_cons_of_mem _ hy)) ?_
      simp only [List.map_cons, List.sum_cons] at hQ
      rw [Nat.add_assoc]
      exact hQ
theorem s_C_measure {X : mz_X} {m : mz_M} {Q : mz_M → Prop} {N i : Nat} {kd tk sz lp wc : Nat → Nat} {ks : Nat → List Nat} (h : z_hA m N kd tk sz lp ks) (hiN : i < N) (hw : wc i = z_ow (kd i) (ks i).length + ((ks i).map wc).sum) (hk : ∀ x, x ∈ ks i → m 45 x = nI (wc x)) (hQ : Q (mz_up m 45 i (nI (wc i)))) : mz_gv X mz_sh 4 0 [some (.ref 41), some (.ref 30), some (.int (nI i)), none, none, none] m Q := by
  have h' := h
  have hlen := h.len hiN
  obtain ⟨h1, h2, h3⟩ := h'
  obtain ⟨c1, c2, c3, c4, c5, c6, c7, c8, c9, c10⟩ := h3 i hiN
  have hin : mz_inb (nI i) 4001 = true := mz_inbN (by omega) (by decide)
  refine t_C_measure_0 _ ?_
  rw [nI_clamp (by omega), c1, nI_clamp (by omega), c3, nI_1, mz_a0k _ c5]
  have go : ∀ a, a + ((ks i).map wc).sum = wc i → mz_gv X mz_sh 4 42 [some (.ref 41), some (.ref 30), some (.int (nI i)), some (.int (nI a)), some (.int (nI (i + 1))), some (.int 0)] m Q := fun a ha =>
    s_C_measure1 (wc := wc) h hiN c9 (ks i) (i + 1) a 0 c8 (by omega) hk (by rw [ha]; exact hQ)
  refine ⟨hin, mz_inbN (by omega) (by decide), hin, fun g => ⟨hin, fun g3 => ?_, fun g3 => ?_⟩, fun g => ?_⟩
  · have e := nI_eqc (c := 3) rfl (by omega) (by omega) g
    have e3 := nI_eqc (c := 3) rfl (by omega) (by omega) g3
    rw [nI_1]
    refine go _ ?_
    rw [hw, e, e3]
    have : z_ow 3 0 + 1 = z_ow 3 3 := rfl
    omega
  · have e := nI_eqc (c := 3) rfl (by omega) (by omega) g
    have e3 : (ks i).length ≠ 3 := fun e => g3 (by rw [e]; rfl)
    refine go _ ?_
    rw [hw, e]
    have : z_ow 3 (ks i).length = 1 := by unfold z_ow; rw [if_neg (by omega), if_pos rfl, if_neg e3]
    have : z_ow 3 0 = 1 := rfl
    omega
  · have e3 : kd i ≠ 3 := fun e => g (by rw [e]; rfl)
    refine go _ ?_
    rw [hw]
    have : z_ow (kd i) (ks i).length = z_ow (kd i) 0 := by
      unfold z_ow
      rw [if_neg e3, if_neg e3]
    omega
theorem s_C_placeParts1 {X : mz_X} {Q : mz_M → Prop} {N i hi : Nat} {kd tk sz lp wc : Nat → Nat} {ks : Nat → List Nat} (hiN : i < N) (hhi : hi ≤ N) : ∀ (t : List Nat) (lo P j : Nat) (m : mz_M), z_hA m N kd tk sz lp ks → (∀ x, x < N → m 45 x = nI (wc x)) → z_segP sz lo hi t → i < lo → j + t.length = (ks i).length → (∀ m', z_fr [44] m m' → (∀ x, x ∈ t → m' 44 x = nI (P + z_off wc (z_wb (kd i)) t x)) → (∀ x, x ∉ t → m' 44 x = m 44 x) → Q m') → mz_gv X mz_sh 5 15 [some (.ref 41), some (.ref 30), some (.int (nI i)), some (.int (nI P)), some (.int (nI lo)), some (.int (nI j))] m Q := by
  intro t
  induction t with
  | nil =>
    intro lo P j m h hw hs hlo hj hQ
    have hlen := h.len hiN
    obtain ⟨h1, h2, h3⟩ := h
    obtain ⟨c1, c2, c3, c4, c5, c6, c7, c8, c9, c10⟩ := h3 i hiN
    have hin : mz_inb (nI i) 4001 = true := mz_inbN (by omega) (by decide)
    simp only [List.length_nil] at hj
    refine t_C_placeParts_1 _ _ _ _ ⟨hin, fun _ => hQ m (z_fr.rf _ _) (fun x hx => by cases hx) (fun _ _ => rfl), fun g => ?_⟩
    rw [nI_clamp (by omega), c3] at g
    exact absurd (nI_le (by omega) (by omega)) g
  | cons x t ih =>
    intro lo P j m h hw hs hlo hj hQ
    have hlen := h.len hiN
    have h' := h
    obtain ⟨h1, h2, h3⟩ := h'
    obtain ⟨c1, c2, c3, c4, c5, c6, c7, c8, c9, c10⟩ := h3 i hiN
    have hin : mz_inb (nI i) 4001 = true := mz_inbN (by omega) (by decide)
    obtain ⟨a1, a2, a3⟩ := hs
    subst a1
    have hxs := (h3 x (by omega)).2.2.2.2.2.2.2.2.2
    have hinx : mz_inb (nI x) 4001 = true := mz_inbN (by omega) (by decide)
    simp only [List.length_cons] at hj
    refine t_C_placeParts_1 _ _ _ _ ⟨hin, fun g => ?_, fun _ => ⟨fun g => ?_, fun _ => ⟨hinx, hinx, hin, ?_, ?_⟩⟩⟩
    · rw [nI_clamp (by omega), c3] at g
      exact absurd g (nI_ge (by omega) (by omega))
    · rw [h1] at g
      exact absurd g (nI_ge (by omega) (by omega))
    · rw [nI_clamp (by omega), c1]; exact mz_inbN (by omega) (by decide)
    · have f0 : z_fr [44] m (mz_up m 44 x (nI P)) := (z_fr.rf _ _).up (by decide)
      rw [nI_clamp (show x < 2 ^ 31 by omega), nI_clamp (show i < 2 ^ 31 by omega), c1, nI_clamp (show kd i < 2 ^ 31 by omega), mz_a1k _ c5, hw x (by omega), nI_add, nI_add, nI_1]
      refine s_T_behind h2 (by rw [f0 30 (by decide)]; exact h1) (by omega) (by rw [f0 35 (by decide)]; exact (h3 x (by omega)).2.2.2.1) ?_
      refine ih (x + sz x) (P + (wc x + z_wb (kd i))) (j + 1) _ (h.fr f0 (by decide)) (fun y hy => by rw [f0 45 (by decide)]; exact hw y hy) a3 (by omega) (by omega) (fun m' g1 g2 g3 => hQ m' (f0.tr g1) (fun y hy => ?_) (fun y hy => ?_))
      · have hnt : ∀ y, y ∈ t → x < y := fun y hy => by have := z_segP_mem _ _ _ a3 y hy; omega
        simp only [z_off]
        by_cases hxy : x = y
        · subst hxy
          rw [if_pos rfl, g3 x (fun hm => by have := hnt x hm; omega), mz_up_k]
          simp [upd]
        · rw [if_neg hxy, g2 y ((List.mem_cons.mp hy).resolve_left (fun e => hxy e.symm))]
          congr 1
          omega
      · simp only [List.mem_cons, not_or] at hy
        rw [g3 y hy.2, mz_up_k]
        simp [upd, hy.1]
