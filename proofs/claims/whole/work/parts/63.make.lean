/-! the class's code: made -/
theorem s_C_make1 {X : mz_X} {Q : mz_M → Prop} {N : Nat} {kd tk sz ht up lp wc st bs : Nat → Nat} {ks : Nat → List Nat} (h : z_pre N kd sz ht up ks) (hc : z_cd N kd ks wc st bs) : ∀ (k : Nat) (m : mz_M), k ≤ N → z_hA m N kd tk sz lp ks → (∀ x, k ≤ x → x < N → m 45 x = nI (wc x)) → (∀ m', z_fr [44, 45] m m' → (∀ x, x < N → m' 45 x = nI (wc x)) → m' 44 0 = 0 → mz_gv X mz_sh 3 36 [some (.ref 41), some (.ref 30), some (.ref 37), some (.ref 2), some (.int 0)] m' Q) → mz_gv X mz_sh 3 8 [some (.ref 41), some (.ref 30), some (.ref 37), some (.ref 2), some (.int (nI k - 1))] m Q := by
  intro k
  induction k with
  | zero =>
    intro m hk hA hm hQ
    refine t_C_make_1 _ ⟨fun _ => hQ _ ((z_fr.rf _ _).up (by decide)) (fun x hx => ?_) (by simp [mz_up, upd]), fun g => absurd (by decide : nI 0 - 1 < 0) g⟩
    rw [mz_up_n _ _ _ (by decide)]
    exact hm x (by omega) hx
  | succ k ih =>
    intro m hk hA hm hQ
    have hN : N ≤ 4001 := hA.2.1
    rw [nI_m1 (by omega), Nat.add_sub_cancel]
    refine t_C_make_1 _ ⟨fun g => absurd g (nI_pos (by omega)), fun _ => ?_⟩
    refine s_C_measure (wc := wc) hA (by omega) (hc.1 k (by omega)) (fun x hx => ?_) ?_
    · obtain ⟨q1, q2, q3, q4⟩ := z_pre_kids h k (by omega) x hx
      exact hm x (by omega) q3
    · have f0 : z_fr [44, 45] m (mz_up m 45 k (nI (wc k))) := (z_fr.rf _ _).up (by decide)
      rw [show nI k + (-1) = nI k - 1 from (Int32.sub_eq_add_neg _ _).symm]
      refine ih _ (by omega) (hA.fr f0 (by decide)) (fun x h1 h2 => ?_) (fun m' f1 w1 w2 => hQ m' (f0.tr f1) w1 w2)
      rw [mz_up_k]
      by_cases e : x = k
      · subst e; simp [upd]
      · simp only [upd, e, if_false]
        exact hm x (by omega) h2
theorem s_C_make2 {X : mz_X} {Q : mz_M → Prop} {f : Nat → Nat × Int32 × Nat} {N : Nat} {kd tk sz ht up lp wc st bs : Nat → Nat} {tv : Nat → Int32} {ks : Nat → List Nat} (h : z_pre N kd sz ht up ks) (hc : z_cd N kd ks wc st bs) (hl : z_lps N kd lp ks) (hb : wc 0 ≤ 8000) (hf : ∀ i, i < N → ∀ p e, (p, e) ∈ z_wl kd ks wc st bs lp tv i → f p = e) (hf0 : f (wc 0) = (16, 0, 0)) : ∀ (k i : Nat) (m : mz_M), k + i = N → z_hA m N kd tk sz lp ks → (∀ x, x < N → m 45 x = nI (wc x)) → (∀ x, x < N → m 6 (tk x) = tv x) → m 44 0 = 0 → (∀ x, 0 < x → x < N → up x < i → m 44 x = nI (st x)) → z_wf f m (fun q => ∃ j, j < i ∧ ∃ e, (q, e) ∈ z_wl kd ks wc st bs lp tv j) → (∀ m', z_fr [41, 42, 43, 44] m m' → m' 41 2 = nI (wc 0 + 1) → z_wf f m' (fun q => (∃ j, j < N ∧ ∃ e, (q, e) ∈ z_wl kd ks wc st bs lp tv j) ∨ q = wc 0) → Q m') → mz_gv X mz_sh 3 36 [some (.ref 41), some (.ref 30), some (.ref 37), some (.ref 2), some (.int (nI i))] m Q := by
  intro k
  induction k with
  | zero =>
    intro i m hk hA hw ht6 h440 h44 hwf hQ
    have hN : N ≤ 4001 := hA.2.1
    have h1N := h.1
    have hi : i = N := by omega
    subst hi
    refine t_C_make_2 _ ⟨fun _ => ?_, fun g => absurd (by rw [hA.1]; exact nI_le (by omega) (by omega)) g⟩
    rw [hw 0 (by omega)]
    refine s_C_put (o := 16) (d := 0) hb hf0 hwf (fun m1 f1 w1 => ?_)
    refine hQ _ (((f1.wk (by decide)).up (by decide))) ?_ ?_
    · rw [mz_up_k, f1 45 (by decide), hw 0 (by omega), nI_1]
      simp [upd]
    · intro q hq
      rw [mz_up_n _ _ _ (by decide), mz_up_n _ _ _ (by decide)]
      exact w1 q hq
  | succ k ih =>
    intro i m hk hA hw ht6 h440 h44 hwf hQ
    have hN : N ≤ 4001 := hA.2.1
    have hi : i < N := by omega
    have h44' : ∀ x, x ≤ i → m 44 x = nI (st x) := fun x hx => by
      by_cases e : x = 0
      · subst e; rw [h440, hc.2.1]; rfl
      · have := h.2.2.2.2.2.1 x (by omega) (by omega)
        exact h44 x (by omega) (by omega) (by omega)
    refine t_C_make_2 _ ⟨fun g => absurd (hA.1 ▸ g) (nI_ge (a := i) (b := N) (by omega) (by omega)), fun _ => ?_⟩
    refine s_C_placeParts (wc := wc) hA hi hw (h44' i (Nat.le_refl _)) (fun m1 f1 w1 w2 => ?_)
    have nk : ∀ x, x ≤ i → x ∉ ks i := fun x hx hm => by
      have := z_pre_kids h i hi x hm
      omega
    have hst : ∀ x, x ∈ ks i → m1 44 x = nI (st x) := fun x hx => by rw [w1 x hx, hc.2.2.1 i hi x hx]
    have hE : z_wE m1 N kd tk sz lp wc st tv ks i := by
      refine ⟨hA.fr f1 (by decide), ?_, ?_, ?_, hst, fun hk5 => ?_⟩
      · rw [f1 45 (by decide)]; exact hw
      · rw [f1 6 (by decide)]; exact ht6
      · rw [w2 i (nk i (Nat.le_refl _))]; exact h44' i (Nat.le_refl _)
      · have g1 := hl.2.2 i hi hk5
        have g2 := z_lpw h hl i i (Nat.le_refl _) hi (by omega) g1
        refine ⟨g1, by omega, ?_⟩
        rw [w2 _ (nk _ (by omega))]
        exact h44' _ (by omega)
    have hbb : st i + wc i ≤ 8000 := by
      have := z_nest h hc i 0 i (by omega) (by omega) (by omega) (by rw [h.2.2.1]; omega)
      have := hc.2.1
      omega
    have hwf1 : z_wf f m1 (fun q => ∃ j, j < i ∧ ∃ e, (q, e) ∈ z_wl kd ks wc st bs lp tv j) := by
      intro q hq
      rw [f1 42 (by decide), f1 43 (by decide)]
      exact hwf q hq
    refine s_C_write h hc hE hi hbb (hf i hi) hwf1 (fun m2 f2 w3 => ?_)
    rw [nI_1]
    refine ih (i + 1) m2 (by omega) ((hA.fr f1 (by decide)).fr f2 (by decide)) ?_ ?_ ?_ (fun x x1 x2 x3 => ?_) (w3.mono (fun q hq => ?_)) (fun m' f3 w4 w5 => hQ m' (((f1.wk (by decide)).tr (f2.wk (by decide))).tr f3) w4 w5)
    · rw [f2 45 (by decide), f1 45 (by decide)]; exact hw
    · rw [f2 6 (by decide), f1 6 (by decide)]; exact ht6
    · rw [f2 44 (by decide), w2 0 (nk 0 (by omega))]; exact h440
    · rw [f2 44 (by decide)]
      have hu := h.2.2.2.2.2.1 x x1 x2
      by_cases e : up x = i
      · exact hst x (by rw [← e]; exact hu.2)
      · rw [w2 x (fun hm => e (z_pre_kids h i hi x hm).1)]
        exact h44 x x1 x2 (by omega)
    · obtain ⟨j, hj, x, hx⟩ := hq
      by_cases e : j = i
      · subst e; exact Or.inr ⟨x, hx⟩
      · exact Or.inl ⟨j, by omega, x, hx⟩
theorem s_C_make {X : mz_X} {m : mz_M} {Q : mz_M → Prop} {f : Nat → Nat × Int32 × Nat} {N : Nat} {kd tk sz ht up lp wc st bs : Nat → Nat} {tv : Nat → Int32} {ks : Nat → List Nat} (h : z_pre N kd sz ht up ks) (hc : z_cd N kd ks wc st bs) (hl : z_lps N kd lp ks) (hb : wc 0 ≤ 8000) (hf : ∀ i, i < N → ∀ p e, (p, e) ∈ z_wl kd ks wc st bs lp tv i → f p = e) (hf0 : f (wc 0) = (16, 0, 0)) (hA : z_hA m N kd tk sz lp ks) (ht6 : ∀ x, x < N → m 6 (tk x) = tv x) (hQ : ∀ m', z_fr [41, 42, 43, 44, 45] m m' → m' 41 2 = nI (wc 0 + 1) → (∀ p, p < wc 0 + 1 → m' 42 p = nI (f p).1 ∧ m' 43 p = (f p).2.1) → Q m') : mz_gv X mz_sh 3 0 [some (.ref 41), some (.ref 30), some (.ref 37), some (.ref 2), none] m Q := by
  refine t_C_make_0 ?_
  rw [hA.1]
  refine s_C_make1 h hc N m (Nat.le_refl _) hA (fun x h1 h2 => by omega) (fun m1 f1 w1 w2 => ?_)
  refine s_C_make2 (f := f) (tv := tv) h hc hl hb hf hf0 N 0 m1 rfl (hA.fr f1 (by decide)) w1 (by rw [f1 6 (by decide)]; exact ht6) w2 (fun x _ _ h3 => by omega) (fun q hq => by obtain ⟨j, hj, _⟩ := hq; omega) (fun m2 f2 w3 w4 => ?_)
  refine hQ m2 ((f1.wk (by decide)).tr (f2.wk (by decide))) w3 (fun p hp => w4 p ?_)
  by_cases e : p = wc 0
  · exact Or.inr e
  · obtain ⟨j, j1, j2, x, hx⟩ := z_cov (lp := lp) (tv := tv) h hc N 0 p (by omega) h.1 (by rw [hc.2.1]; omega) (by rw [hc.2.1]; omega)
    rw [h.2.2.1] at j2
    exact Or.inl ⟨j, by omega, x, hx⟩
