/-! the tree's run: the reference's steps -/
theorem s_M_advk {X : mz_X} {m : mz_M} {Q : Int32 → mz_M → Prop} {i kk : Nat} (hi : i < 4001) (hkk : m 82 i = nI kk) (hkb : kk ≤ 19) (h5 : kk ≠ 5) (h6 : kk ≠ 6) (h0 : kk = 0 → (m 92 i = 0 → Q (m 86 i) m) ∧ (¬ m 92 i = 0 → mz_inb (m 93 i) 12100 = true ∧ Q (m 88 (m 93 i).toNatClampNeg) m)) (h1 : kk = 1 → (m 92 i = 0 → Q (m 86 i) m) ∧ (¬ m 92 i = 0 → mz_inb (m 83 i) 4001 = true ∧ mz_gi X mz_sh 175 0 [some (.ref 55)] m (fun r m1 => mz_inb (m 70 (m 83 i).toNatClampNeg) 32 = true ∧ Q (-1) (mz_up m1 97 (m 70 (m 83 i).toNatClampNeg).toNatClampNeg r)))) (h2 : kk = 2 → (m 92 i = 0 → Q (m 86 i) m) ∧ (¬ m 92 i = 0 → mz_gi X mz_sh 175 0 [some (.ref 55)] m (fun r m1 => mz_gv X mz_sh 176 0 [some (.ref 55), some (.int r)] m1 (fun m2 => Q (-1) m2)))) (h3 : kk = 3 → mz_gi X mz_sh 181 0 [some (.ref 55), some (.int (nI i)), none] m Q) (h4 : kk = 4 → mz_gi X mz_sh 182 0 [some (.ref 55), some (.int (nI i))] m Q) (h7 : kk = 7 ∨ kk = 8 → mz_gi X mz_sh 180 0 [some (.ref 55), some (.int (nI i)), none, none] m Q) (h16 : kk = 16 → (m 92 i = 0 → Q (m 86 i) m) ∧ (¬ m 92 i = 0 → mz_gi X mz_sh 175 0 [some (.ref 55)] m (fun r m1 => mz_gv X mz_sh 174 0 [some (.ref 55), some (.int (-r))] m1 (fun m2 => Q (-1) m2)))) (h17 : kk = 17 → (m 92 i = 0 → Q (m 86 i) m) ∧ (¬ m 92 i = 0 → mz_gi X mz_sh 175 0 [some (.ref 55)] m (fun r m1 => mz_gv X mz_sh 174 0 [some (.ref 55), some (.int (if r = 0 then 1 else 0))] m1 (fun m2 => Q (-1) m2)))) (h18 : kk = 18 → mz_inb (m 83 i) 4001 = true ∧ mz_inb (m 70 (m 83 i).toNatClampNeg) 32 = true ∧ mz_gv X mz_sh 174 0 [some (.ref 55), some (.int (m 97 (m 70 (m 83 i).toNatClampNeg).toNatClampNeg))] m (fun m2 => Q (-1) m2)) (h19 : kk = 19 → mz_inb (m 83 i) 4001 = true ∧ mz_gv X mz_sh 174 0 [some (.ref 55), some (.int (m 70 (m 83 i).toNatClampNeg))] m (fun m2 => Q (-1) m2)) (h9 : 9 ≤ kk → kk ≤ 15 → (m 92 i = 0 → Q (m 86 i) m) ∧ (¬ m 92 i = 0 → (m 92 i = 1 → Q (m 87 i) m) ∧ (¬ m 92 i = 1 → mz_gi X mz_sh 179 0 [some (.ref 55), some (.int (nI kk)), none, none] m Q))) : mz_gi X mz_sh 183 0 [some (.ref 55), some (.int (nI i)), none] m Q := by
  have hin : mz_inb (nI i) 12100 = true := mz_inbN (by omega) (by decide)
  have c : ∀ {b : Nat}, b < 2 ^ 31 → nI kk = nI b → kk = b := fun hb e => (nI_eq (by omega) hb).mp e
  refine t_M_advance_0 _ ?_
  rw [nI_clamp (by omega), hkk]
  refine ⟨hin, fun g => ?_, fun g => ?_, fun g => ?_, fun g => ?_, fun g => ?_, fun g => ?_, fun g => ?_, fun g => ?_, fun g => ?_, fun g => ?_, fun g => ?_, fun n0 n1 n2 n3 n4 n7 n8 n16 n17 n18 n19 => ?_⟩
  · obtain ⟨q1, q2⟩ := h0 (c (b := 0) (by decide) g)
    exact ⟨hin, fun e => ⟨hin, q1 e⟩, fun e => ⟨hin, (q2 e).1, (q2 e).2⟩⟩
  · obtain ⟨q1, q2⟩ := h1 (c (b := 1) (by decide) g)
    exact ⟨hin, fun e => ⟨hin, q1 e⟩, fun e => ⟨fun _ => ⟨hin, (q2 e).1, (q2 e).2.mono (fun r m1 hq => ⟨hq.1, t_M_advance_1 hq.2⟩)⟩, fun g' => absurd g g'⟩⟩
  · obtain ⟨q1, q2⟩ := h2 (c (b := 2) (by decide) g)
    have hk2 := c (b := 2) (by decide) g
    refine ⟨hin, fun e => ⟨hin, q1 e⟩, fun e => ⟨fun g' => ?_, fun _ => (q2 e).mono (fun r m1 hq => hq.mono (fun m2 hm => t_M_advance_1 hm))⟩⟩
    have := c (b := 1) (by decide) g'
    omega
  · exact h3 (c (b := 3) (by decide) g)
  · exact h4 (c (b := 4) (by decide) g)
  · exact h7 (Or.inl (c (b := 7) (by decide) g))
  · exact h7 (Or.inr (c (b := 8) (by decide) g))
  · have hk := c (b := 16) (by decide) g
    obtain ⟨q1, q2⟩ := h16 hk
    refine ⟨hin, fun e => ⟨hin, q1 e⟩, fun e => ⟨fun g' => ?_, fun _ => (q2 e)⟩⟩
    have := c (b := 17) (by decide) g'
    omega
  · have hk := c (b := 17) (by decide) g
    obtain ⟨q1, q2⟩ := h17 hk
    refine ⟨hin, fun e => ⟨hin, q1 e⟩, fun e => ⟨fun _ => (q2 e).mono (fun r m1 hq => ⟨fun e0 => ?_, fun e0 => ?_⟩), fun g' => absurd g g'⟩⟩
    · rw [if_pos e0] at hq
      exact t_M_truth_0 _ ⟨fun g => absurd g (by decide), fun _ => hq⟩
    · rw [if_neg e0] at hq
      exact t_M_truth_0 _ ⟨fun _ => hq, fun g => absurd rfl g⟩
  · obtain ⟨q1, q2, q3⟩ := h18 (c (b := 18) (by decide) g)
    exact ⟨hin, q1, q2, q3⟩
  · obtain ⟨q1, q2⟩ := h19 (c (b := 19) (by decide) g)
    exact ⟨hin, q1, q2⟩
  · have m0 : kk ≠ 0 := fun e => n0 (by rw [e]; rfl)
    have m1 : kk ≠ 1 := fun e => n1 (by rw [e]; rfl)
    have m2 : kk ≠ 2 := fun e => n2 (by rw [e]; rfl)
    have m3 : kk ≠ 3 := fun e => n3 (by rw [e]; rfl)
    have m4 : kk ≠ 4 := fun e => n4 (by rw [e]; rfl)
    have m7 : kk ≠ 7 := fun e => n7 (by rw [e]; rfl)
    have m8 : kk ≠ 8 := fun e => n8 (by rw [e]; rfl)
    have m16 : kk ≠ 16 := fun e => n16 (by rw [e]; rfl)
    have m17 : kk ≠ 17 := fun e => n17 (by rw [e]; rfl)
    have m18 : kk ≠ 18 := fun e => n18 (by rw [e]; rfl)
    have m19 : kk ≠ 19 := fun e => n19 (by rw [e]; rfl)
    obtain ⟨q1, q2⟩ := h9 (by omega) (by omega)
    exact ⟨hin, fun e => ⟨hin, q1 e⟩, fun e => ⟨hin, fun e1 => ⟨hin, (q2 e).1 e1⟩, fun e1 => (q2 e).2 e1⟩⟩
/-- leaving a node; entering one -/
def z_lv (X : mz_X) (Q : Int32 → mz_M → Prop) (up : Nat → Nat) (n : Nat) (m : mz_M) : Prop := (n = 0 → Q 0 m) ∧ (n ≠ 0 → mz_gi X mz_sh 184 9 [some (.ref 55), some (.int (nI (up n))), none] (mz_up m 92 (up n) (m 92 (up n) + 1)) Q)
def z_ent (X : mz_X) (Q : Int32 → mz_M → Prop) (kd : Nat → Nat) (n y : Nat) (m : mz_M) : Prop := (kd y = 0 → mz_gi X mz_sh 184 9 [some (.ref 55), some (.int (nI y)), none] (mz_up (mz_up m 93 n (nI y)) 92 y 0) Q) ∧ (kd y ≠ 0 → mz_gi X mz_sh 173 0 [some (.ref 55), some (.int (nI y))] m (fun r m1 => (r = 0 → Q 1 m1) ∧ (¬ r = 0 → mz_gi X mz_sh 184 9 [some (.ref 55), some (.int (nI y)), none] (mz_up (mz_up m1 93 n (nI y)) 92 y 0) Q)))
def z_af (X : mz_X) (Q : Int32 → mz_M → Prop) (N : Nat) (kd up : Nat → Nat) (n : Nat) (r : Int32) (m : mz_M) : Prop := (r = -2 ∧ Q 1 m) ∨ (r = -3 ∧ Q 2 m) ∨ (r = -1 ∧ z_lv X Q up n m) ∨ (∃ y, y < N ∧ r = nI y ∧ z_ent X Q kd n y m)
/-- what the reference's run reads of the tree -/
def z_eM (m : mz_M) (N : Nat) (kd tk sz up : Nat → Nat) (tv : Nat → Int32) (ks : Nat → List Nat) : Prop := z_hM m N kd tk sz up tv ks ∧ (∀ x, x < N → kd x = 18 ∨ kd x = 1 → ∃ q, q < 32 ∧ tv x = nI q) ∧ ∀ x, 0 < x → x < N → up x < x
theorem z_eM.fm {m m' : mz_M} {N : Nat} {kd tk sz up : Nat → Nat} {tv : Nat → Int32} {ks : Nat → List Nat} {l js : List Nat} (h : z_eM m N kd tk sz up tv ks) (hf : z_fm l js m m') (hl : ∀ q, q ∈ [70, 82, 83, 84, 86, 87, 88, 89] → q ∉ l) : z_eM m' N kd tk sz up tv ks := by
  obtain ⟨h1, h2, h3⟩ := h
  refine ⟨?_, h2, h3⟩
  unfold z_hM z_links at h1 ⊢
  rw [hf.1 70 (hl 70 (by decide)) (by decide), hf.1 82 (hl 82 (by decide)) (by decide), hf.1 83 (hl 83 (by decide)) (by decide), hf.1 84 (hl 84 (by decide)) (by decide), hf.1 86 (hl 86 (by decide)) (by decide), hf.1 87 (hl 87 (by decide)) (by decide), hf.1 88 (hl 88 (by decide)) (by decide), hf.1 89 (hl 89 (by decide)) (by decide)]
  exact h1
/-- what stands behind an advance -/
theorem z_af_tree {X : mz_X} {Q : Int32 → mz_M → Prop} {N n : Nat} {kd tk sz up : Nat → Nat} {tv : Nat → Int32} {ks : Nat → List Nat} {r : Int32} {m : mz_M} (hE : z_eM m N kd tk sz up tv ks) (hn : n < N) (h : z_af X Q N kd up n r m) : (r = (-2) → Q 1 m) ∧ (¬ (r = (-2)) → ((r = (-3) → Q 2 m) ∧ (¬ (r = (-3)) → ((r < 0 → mz_inb (nI n) 12100 = true ∧ ((m 89 n < 0 → mz_gi X mz_sh 184 9 [some (.ref 55), some (.int (m 89 n)), none] m Q) ∧ (¬ (m 89 n < 0) → mz_inb (m 89 n) 12100 = true ∧ mz_inb (m 89 n) 12100 = true ∧ mz_gi X mz_sh 184 9 [some (.ref 55), some (.int (m 89 n)), none] (mz_up m 92 (m 89 n).toNatClampNeg (m 92 (m 89 n).toNatClampNeg + 1)) Q))) ∧ (¬ (r < 0) → mz_inb r 12100 = true ∧ ((m 82 r.toNatClampNeg = 0 → mz_inb (nI n) 12100 = true ∧ mz_inb r 12100 = true ∧ mz_gi X mz_sh 184 9 [some (.ref 55), some (.int r), none] (mz_up (mz_up m 93 n r) 92 r.toNatClampNeg 0) Q) ∧ (¬ (m 82 r.toNatClampNeg = 0) → mz_gi X mz_sh 173 0 [some (.ref 55), some (.int r)] m (fun r' m1 => (r' = 0 → Q 1 m1) ∧ (¬ (r' = 0) → mz_inb (nI n) 12100 = true ∧ mz_inb r 12100 = true ∧ mz_gi X mz_sh 184 9 [some (.ref 55), some (.int r), none] (mz_up (mz_up m1 93 n r) 92 r.toNatClampNeg 0) Q))))))))) := by
  obtain ⟨⟨n1, n2, n3⟩, b2, b3⟩ := hE
  have hin : mz_inb (nI n) 12100 = true := mz_inbN (by omega) (by decide)
  rcases h with ⟨rfl, hq⟩ | ⟨rfl, hq⟩ | ⟨rfl, hq⟩ | ⟨y, hy, rfl, hq⟩
  · exact ⟨fun _ => hq, fun g => absurd rfl g⟩
  · exact ⟨fun g => absurd g (by decide), fun _ => ⟨fun _ => hq, fun g => absurd rfl g⟩⟩
  · refine ⟨fun g => absurd g (by decide), fun _ => ⟨fun g => absurd g (by decide), fun _ => ⟨fun _ => ⟨hin, ?_⟩, fun g => absurd (by decide) g⟩⟩⟩
    rw [(n3 n hn).2.2.2.2]
    by_cases h0 : n = 0
    · rw [if_pos h0]
      exact ⟨fun _ => t_M_goTree_1 _ ⟨fun _ => hq.1 h0, fun g => absurd (by decide) g⟩, fun g => absurd (by decide) g⟩
    · rw [if_neg h0]
      have hu := b3 n (by omega) hn
      refine ⟨fun g => absurd g (nI_pos (by omega)), fun _ => ⟨mz_inbN (by omega) (by decide), mz_inbN (by omega) (by decide), ?_⟩⟩
      rw [nI_clamp (by omega)]
      exact hq.2 h0
  · have hyn : ∀ c : Nat, 0 < c → c < 2 ^ 31 → ¬ nI y = -nI c := fun c h1 h2 e => by
      have e1 := congrArg Int32.toInt e
      rw [nI_toInt (by omega), Int32.toInt_neg, nI_toInt h2, Int.bmod_def] at e1
      omega
    have hiy : mz_inb (nI y) 12100 = true := mz_inbN (by omega) (by decide)
    refine ⟨fun g => absurd g (hyn 2 (by decide) (by decide)), fun _ => ⟨fun g => absurd g (hyn 3 (by decide) (by decide)), fun _ => ⟨fun g => absurd g (nI_pos (by omega)), fun _ => ⟨hiy, ?_⟩⟩⟩⟩
    rw [nI_clamp (by omega), (n2 y hy).1]
    refine ⟨fun g => ⟨hin, hiy, hq.1 (nI_eqc (c := 0) rfl (by have := (n2 y hy).2.2.2.2.2.1; omega) (by omega) g)⟩, fun g => ?_⟩
    exact (hq.2 (fun e => g (by rw [e]; rfl))).mono (fun r m1 hm => ⟨hm.1, fun g => ⟨hin, hiy, hm.2 g⟩⟩)
theorem s_M_gt {X : mz_X} {m : mz_M} {Q : Int32 → mz_M → Prop} {N n : Nat} {kd tk sz up : Nat → Nat} {tv : Nat → Int32} {ks : Nat → List Nat} (hE : z_eM m N kd tk sz up tv ks) (hn : n < N) (h5 : kd n ≠ 5) (h6 : kd n ≠ 6) (hQ : mz_gi X mz_sh 183 0 [some (.ref 55), some (.int (nI n)), none] m (fun r m1 => z_eM m1 N kd tk sz up tv ks ∧ z_af X Q N kd up n r m1)) : mz_gi X mz_sh 184 9 [some (.ref 55), some (.int (nI n)), none] m Q := by
  have hE' := hE
  obtain ⟨⟨n1, n2, n3⟩, b2, b3⟩ := hE'
  have hin : mz_inb (nI n) 12100 = true := mz_inbN (by omega) (by decide)
  have hkb := (n2 n hn).2.2.2.2.2.1
  refine t_M_goTree_1 _ ⟨fun g => absurd g (nI_pos (by omega)), fun _ => ⟨hin, ?_⟩⟩
  rw [nI_clamp (by omega), (n2 n hn).1]
  refine ⟨fun g => absurd (nI_eqc (c := 5) rfl (by omega) (by omega) g) h5, fun _ => ⟨hin, fun g => absurd (nI_eqc (c := 6) rfl (by omega) (by omega) g) h6, fun _ => ?_⟩⟩
  exact hQ.mono (fun r m1 hm => z_af_tree hm.1 hn hm.2)
