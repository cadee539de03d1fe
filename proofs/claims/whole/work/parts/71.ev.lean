/-! the tree's run: exps; the class's evaluate -/
def z_ap (k : Nat) (a v : Int32) : Int32 := if k ≤ 8 then z_calc 12 0 v else if k ≤ 15 then z_calc (z_kw k) a v else z_calc (k - 6) 0 v
/-- an exp's value: how it ended (-1: going on), the value, the fuel left, the run -/
def z_ev (kd sz : Nat → Nat) (tv : Nat → Int32) : Nat → Nat → Nat → z_rs → Int32 × Int32 × Nat × z_rs
  | 0, _, k, s => (1, 0, k, s)
  | _ + 1, _, 0, s => (1, 0, 0, s)
  | d + 1, x, k + 1, s =>
    if kd x = 18 then (-1, s.2.2.2 (tv x).toNatClampNeg, k, z_beg s (nI x))
    else if kd x = 19 then (-1, tv x, k, z_beg s (nI x))
    else match z_ev kd sz tv d (x + 1) k (z_beg s (nI x)) with
      | (h, v, k1, s1) =>
        if h ≠ -1 then (h, 0, k1, s1)
        else if 16 ≤ kd x ∨ (kd x = 8 ∧ v = 0) ∨ (kd x = 7 ∧ v ≠ 0) then (-1, z_ap (kd x) 0 v, k1, s1)
        else match z_ev kd sz tv d (x + 1 + sz (x + 1)) k1 s1 with
          | (h2, v2, k2, s2) =>
            if h2 ≠ -1 then (h2, 0, k2, s2)
            else if (kd x = 14 ∨ kd x = 15) ∧ v2 = 0 then (2, 0, k2, s2)
            else (-1, z_ap (kd x) v v2, k2, s2)
theorem z_ev_le (kd sz : Nat → Nat) (tv : Nat → Int32) : ∀ (d x k : Nat) (s : z_rs), (z_ev kd sz tv d x k s).2.2.1 ≤ k ∧ (z_ev kd sz tv d x k s).2.2.2.2 = s.2 := by
  intro d
  induction d with
  | zero => intro x k s; exact ⟨Nat.le_refl _, rfl⟩
  | succ d ih =>
    intro x k s
    cases k with
    | zero => exact ⟨Nat.le_refl _, rfl⟩
    | succ k =>
      simp only [z_ev]
      split
      · exact ⟨by simp, rfl⟩
      · split
        · exact ⟨by simp, rfl⟩
        · have h1 := ih (x + 1) k (z_beg s (nI x))
          generalize z_ev kd sz tv d (x + 1) k (z_beg s (nI x)) = r1 at h1
          obtain ⟨h, v, k1, s1⟩ := r1
          simp only at h1 ⊢
          have e1 : s1.2 = s.2 := h1.2
          split
          · exact ⟨by simp only; omega, e1⟩
          · split
            · exact ⟨by simp only; omega, e1⟩
            · have h2 := ih (x + 1 + sz (x + 1)) k1 s1
              generalize z_ev kd sz tv d (x + 1 + sz (x + 1)) k1 s1 = r2 at h2
              obtain ⟨hh, v2, k2, s2⟩ := r2
              simp only at h2 ⊢
              have e2 : s2.2 = s.2 := h2.2.trans e1
              split
              · exact ⟨by simp only; omega, e2⟩
              · split
                · exact ⟨by simp only; omega, e2⟩
                · exact ⟨by simp only; omega, e2⟩
/-- what the class's run reads of the tree -/
def z_eA (m : mz_M) (N : Nat) (kd tk sz lp : Nat → Nat) (tv nx en : Nat → Int32) (ks : Nat → List Nat) : Prop := z_hA m N kd tk sz lp ks ∧ (∀ x, x < N → m 6 (tk x) = tv x) ∧ (∀ x, x < N → kd x = 18 ∨ kd x = 1 → ∃ q, q < 32 ∧ tv x = nI q) ∧ m 37 1 = nI N ∧ m 39 = nx ∧ m 40 = en
theorem z_eA.fr {m m' : mz_M} {N : Nat} {kd tk sz lp : Nat → Nat} {tv nx en : Nat → Int32} {ks : Nat → List Nat} {l : List Nat} (h : z_eA m N kd tk sz lp tv nx en ks) (hf : z_fr l m m') (hl : ∀ q, q ∈ [6, 30, 31, 32, 33, 35, 37, 38, 39, 40] → q ∉ l) : z_eA m' N kd tk sz lp tv nx en ks := by
  obtain ⟨h1, h2, h3, h4, h5, h6⟩ := h
  refine ⟨h1.fr hf (fun q hq => hl q (by simp only [List.mem_cons, List.not_mem_nil, or_false] at hq ⊢; omega)), ?_, h3, ?_, ?_, ?_⟩
  · rw [hf 6 (hl 6 (by decide))]; exact h2
  · rw [hf 37 (hl 37 (by decide))]; exact h4
  · rw [hf 39 (hl 39 (by decide))]; exact h5
  · rw [hf 40 (hl 40 (by decide))]; exact h6
theorem s_R_isGoing {X : mz_X} {m : mz_M} {Q : Int32 → mz_M → Prop} (h1 : m 47 1 = -1 → Q 1 m) (h2 : m 47 1 ≠ -1 → Q 0 m) : mz_gi X mz_sh 37 0 [some (.ref 47)] m Q := t_R_isGoing_0 ⟨h1, h2⟩
theorem s_C_wordOf {X : mz_X} {m : mz_M} {Q : Int32 → mz_M → Prop} {k : Nat} (hk : k ≤ 19) (hQ : Q (mz_a2.getD k 0) m) : mz_gi X mz_sh 2 0 [some (.int (nI k))] m Q := by
  refine t_C_wordOf_0 _ ⟨fun g => absurd g (nI_pos (by omega)), fun _ => ⟨fun g => absurd g (nI_ge (b := 20) (by omega) (by decide)), fun _ => ⟨mz_inbN (by omega) (by decide), ?_⟩⟩⟩
  rw [nI_clamp (by omega)]
  exact hQ
theorem mz_a2l : ∀ k, k < 20 → 7 ≤ k → k ≤ 8 → mz_a2.getD k 0 = -1 := by decide +kernel
theorem s_R_calcL {X : mz_X} {m : mz_M} {Q : Int32 → mz_M → Prop} {a b : Int32} (h1 : Q (z_calc 12 0 b) m) : mz_gi X mz_sh 43 0 [some (.ref 47), some (.int (-1)), some (.int a), some (.int b)] m Q := by
  refine t_R_calculate_0 _ _ _ ⟨fun g => absurd g (by decide), fun g => absurd g (by decide), fun g => absurd g (by decide), fun g => absurd g (by decide), fun g => absurd g (by decide), fun g => absurd g (by decide), fun g => absurd g (by decide), fun g => absurd g (by decide), fun g => absurd g (by decide), fun _ _ _ _ _ _ _ _ _ => ⟨fun g => ?_, fun g => ?_⟩⟩
  · simp only [z_calc, g] at h1; exact h1
  · simp only [z_calc, g] at h1; exact h1
/-- a whole's value out of its parts' values -/
theorem s_E_calc {X : mz_X} {m : mz_M} {Q : Int32 → mz_M → Prop} {k D : Nat} {v : Int32} (hk : 7 ≤ k) (hk2 : k ≤ 17) (hD : m 50 6 = nI D) (hD2 : D < 200) (h1 : ¬ ((k = 14 ∨ k = 15) ∧ v = 0) → Q (z_ap k (m 52 D) v) m) (h2 : (k = 14 ∨ k = 15) → v = 0 → Q 0 (mz_up m 47 1 2)) : mz_gi X mz_sh 2 0 [some (.int (nI k))] m (fun r m1 => mz_inb (m1 50 6) 200 = true ∧ mz_gi X mz_sh 43 0 [some (.ref 47), some (.int r), some (.int (m1 52 ((m1 50 6).toNatClampNeg))), some (.int v)] m1 Q) := by
  refine s_C_wordOf (by omega) ⟨by rw [hD]; exact mz_inbN hD2 (by decide), ?_⟩
  rw [hD, nI_clamp (by omega)]
  obtain ⟨y1, y2, y3, y4, y5, y6⟩ := mz_a2k k (by omega)
  have hc : k ≤ 8 ∨ (9 ≤ k ∧ k ≤ 15) ∨ 16 ≤ k := by omega
  rcases hc with g | g | g
  · rw [mz_a2l k (by omega) hk g]
    refine s_R_calcL ?_
    have := h1 (by omega)
    simp only [z_ap, g, if_true] at this
    exact this
  · rw [y3 g.1 g.2]
    have hkw : (z_kw k = 6 ∨ z_kw k = 7) ↔ (k = 14 ∨ k = 15) := by
      unfold z_kw
      split <;> omega
    refine s_R_calculate (by unfold z_kw; split <;> omega) (fun g' => ?_) (fun g' hv => h2 (hkw.mp g') hv)
    have := h1 (fun g2 => g' ⟨hkw.mpr g2.1, g2.2⟩)
    unfold z_ap at this
    rw [if_neg (by omega), if_pos g.2] at this
    exact this
  · rw [y4 g (by omega)]
    refine s_R_calculate (by omega) (fun g' => ?_) (fun g' hv => by omega)
    have := h1 (by omega)
    unfold z_ap at this
    rw [if_neg (by omega), if_neg (by omega)] at this
    have hk3 : k = 16 ∨ k = 17 := by omega
    rcases hk3 with e | e <;> subst e <;> simpa [z_calc] using this
theorem s_E_worthOf {X : mz_X} {m : mz_M} {Q : Int32 → mz_M → Prop} {N x : Nat} {kd tk sz lp : Nat → Nat} {tv nx en : Nat → Int32} {ks : Nat → List Nat} (hE : z_eA m N kd tk sz lp tv nx en ks) (hx : x < N) (hk : kd x = 18 ∨ kd x = 19) (h1 : kd x = 18 → Q (m 49 (tv x).toNatClampNeg) m) (h2 : kd x = 19 → Q (tv x) m) : mz_gi X mz_sh 96 0 [some (.ref 50), some (.int (nI x)), none] m Q := by
  obtain ⟨⟨a1, a2, a3⟩, b2, b3, b4, b5, b6⟩ := hE
  obtain ⟨c1, c2, c3, c4, c5, c6, c7, c8, c9, c10⟩ := a3 x hx
  have hin : mz_inb (nI x) 4001 = true := mz_inbN (by omega) (by decide)
  refine t_E_worthOf_0 _ ⟨hin, ?_, hin, ?_⟩
  · rw [nI_clamp (by omega), c2]; exact mz_inbN (by omega) (by decide)
  rw [nI_clamp (by omega), c1, c2, nI_clamp (by omega), b2 x hx]
  refine ⟨fun g => ?_, fun g => ?_⟩
  · have k18 := nI_eqc (c := 18) rfl (by omega) (by omega) g
    obtain ⟨q, hq, e⟩ := b3 x hx (Or.inl k18)
    have := h1 k18
    rw [e, nI_clamp (by omega)] at this
    rw [e]
    exact s_R_load hq this
  · have k18 : kd x ≠ 18 := fun e => g (by rw [e]; rfl)
    exact h2 (by omega)
theorem s_E_stop {X : mz_X} {m : mz_M} {Q : mz_M → Prop} {D : Nat} {v at' e T : Int32} (hD : m 50 6 = nI D) (hD2 : D ≤ 200) (hg : m 47 1 ≠ -1) (hQ : Q (mz_up m 50 7 v)) : mz_gi X mz_sh 97 5 [some (.ref 50), none, none, some (.int v), some (.int at'), none, none] m (fun r m2 => mz_gv X mz_sh 94 24 [some (.ref 50), none, some (.int e), some (.int r), some (.int T)] m2 Q) := by
  have go : mz_gv X mz_sh 94 24 [some (.ref 50), none, some (.int e), some (.int at'), some (.int T)] (mz_up m 50 7 v) Q := by
    refine t_E_evaluate_1 _ _ _ ⟨fun _ => hQ, fun _ => ⟨fun _ => hQ, fun _ => s_R_isGoing (fun g => ?_) (fun _ => ⟨fun _ => hQ, fun g => absurd rfl g⟩)⟩⟩
    rw [mz_up_n _ _ _ (by decide)] at g
    exact absurd g hg
  exact t_E_settle_1 _ _ ⟨fun _ => go, fun _ => s_R_isGoing (fun g => absurd g hg) (fun _ => ⟨fun _ => go, fun g => absurd rfl g⟩)⟩
