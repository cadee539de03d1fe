/-! the reference's compile: behind a node -/
theorem s_M_whileOf1 {X : mz_X} {m : mz_M} {Q : Int32 → mz_M → Prop} {N : Nat} {kd sz ht up lp : Nat → Nat} {ks : Nat → List Nat} (h : z_pre N kd sz ht up ks) (hl : lp 0 = 0 ∧ (∀ i, i < N → kd i = 0 ∨ kd i = 3 ∨ kd i = 4 → ∀ x, x ∈ ks i → lp x = (if kd i = 4 then i + 1 else lp i))) (h82 : ∀ i, i < N → m 82 i = nI (kd i)) (h89 : ∀ i, i < N → m 89 i = (if i = 0 then -1 else nI (up i))) : ∀ (n i : Nat), i ≤ n → i < N → kd i ≤ 6 → Q (nI (lp i) - 1) m → mz_gi X mz_sh 158 7 [some (.ref 55), none, some (.int (m 89 i))] m Q := by
  have h4001 := h.2.1
  intro n
  induction n with
  | zero =>
    intro i h1 h2 h3 hQ
    have : i = 0 := by omega
    subst this
    rw [h89 0 h2, if_pos rfl]
    rw [hl.1] at hQ
    exact t_M_whileOf_1 _ ⟨fun _ => hQ, fun g => absurd (by decide) g⟩
  | succ n ih =>
    intro i h1 h2 h3 hQ
    by_cases h0 : i = 0
    · subst h0
      rw [h89 0 h2, if_pos rfl]
      rw [hl.1] at hQ
      exact t_M_whileOf_1 _ ⟨fun _ => hQ, fun g => absurd (by decide) g⟩
    · obtain ⟨u1, u2⟩ := h.2.2.2.2.2.1 i (by omega) h2
      have u3 := z_par h h2 h3 (by omega)
      have u4 := hl.2 (up i) (by omega) u3 i u2
      have hin : mz_inb (nI (up i)) 12100 = true := mz_inbN (by omega) (by decide)
      rw [h89 i h2, if_neg h0]
      refine t_M_whileOf_1 _ ⟨fun g => absurd g (nI_pos (by omega)), fun _ => ⟨hin, ?_⟩⟩
      rw [nI_clamp (by omega), h82 _ (by omega)]
      refine ⟨fun g => ?_, fun g => ⟨hin, ?_⟩⟩
      · have e := nI_eqc (c := 4) rfl (by omega) (by omega) g
        rw [u4, if_pos e, nI_m1 (by omega), Nat.add_sub_cancel] at hQ
        exact hQ
      · have e : kd (up i) ≠ 4 := fun e => g (by rw [e]; rfl)
        rw [u4, if_neg e] at hQ
        exact ih (up i) (by omega) (by omega) (by omega) hQ
theorem s_M_whileOf {X : mz_X} {m : mz_M} {Q : Int32 → mz_M → Prop} {N i : Nat} {kd sz ht up lp : Nat → Nat} {ks : Nat → List Nat} (h : z_pre N kd sz ht up ks) (hl : lp 0 = 0 ∧ (∀ i, i < N → kd i = 0 ∨ kd i = 3 ∨ kd i = 4 → ∀ x, x ∈ ks i → lp x = (if kd i = 4 then i + 1 else lp i))) (h82 : ∀ i, i < N → m 82 i = nI (kd i)) (h89 : ∀ i, i < N → m 89 i = (if i = 0 then -1 else nI (up i))) (hi : i < N) (hk : kd i ≤ 6) (hQ : Q (nI (lp i) - 1) m) : mz_gi X mz_sh 158 0 [some (.ref 55), some (.int (nI i)), none] m Q := by
  have h4001 := h.2.1
  refine t_M_whileOf_0 _ ⟨mz_inbN (by omega) (by decide), ?_⟩
  rw [nI_clamp (by omega)]
  exact s_M_whileOf1 h hl h82 h89 i i (Nat.le_refl _) hi hk hQ
def z_hM (m0 : mz_M) (N : Nat) (kd tk sz up : Nat → Nat) (tv : Nat → Int32) (ks : Nat → List Nat) : Prop := N ≤ 4001 ∧ (∀ i, i < N → m0 82 i = nI (kd i) ∧ m0 83 i = nI (tk i) ∧ tk i ≤ 4000 ∧ m0 70 (tk i) = tv i ∧ m0 84 i = nI (ks i).length ∧ kd i ≤ 19 ∧ (ks i).length ≤ 4001) ∧ z_links m0 N sz up ks
theorem mz_a2w : ∀ k, k < 20 → (k = 9 → mz_a2.getD k 0 = 8) ∧ (k = 10 → mz_a2.getD k 0 = 9) ∧ (k = 11 → mz_a2.getD k 0 = 3) ∧ (k = 12 → mz_a2.getD k 0 = 4) ∧ (k = 13 → mz_a2.getD k 0 = 5) ∧ (k = 14 → mz_a2.getD k 0 = 6) ∧ (k = 15 → mz_a2.getD k 0 = 7) ∧ (k = 16 → mz_a2.getD k 0 = 10) ∧ (k = 17 → mz_a2.getD k 0 = 11) := by decide +kernel
theorem s_M_wordFor {X : mz_X} {m : mz_M} {Q : Int32 → mz_M → Prop} {k : Nat} (h1 : 9 ≤ k) (h2 : k ≤ 17) (hQ : Q (mz_a2.getD k 0) m) : mz_gi X mz_sh 168 0 [some (.int (nI k))] m Q := by
  obtain ⟨y9, y10, y11, y12, y13, y14, y15, y16, y17⟩ := mz_a2w k (by omega)
  have c : ∀ {b : Nat}, b < 2 ^ 31 → nI k = nI b → k = b := fun hb e => (nI_eq (by omega) hb).mp e
  refine t_M_wordFor_0 _ ⟨fun g => ?_, fun g => ?_, fun g => ?_, fun g => ?_, fun g => ?_, fun g => ?_, fun g => ?_, fun g => ?_, fun g9 g10 g11 g12 g13 g14 g15 g16 => ?_⟩
  · rw [y9 (c (b := 9) (by decide) g)] at hQ; exact hQ
  · rw [y10 (c (b := 10) (by decide) g)] at hQ; exact hQ
  · rw [y11 (c (b := 11) (by decide) g)] at hQ; exact hQ
  · rw [y12 (c (b := 12) (by decide) g)] at hQ; exact hQ
  · rw [y13 (c (b := 13) (by decide) g)] at hQ; exact hQ
  · rw [y14 (c (b := 14) (by decide) g)] at hQ; exact hQ
  · rw [y15 (c (b := 15) (by decide) g)] at hQ; exact hQ
  · rw [y16 (c (b := 16) (by decide) g)] at hQ; exact hQ
  · have n9 : k ≠ 9 := fun e => g9 (by rw [e]; rfl)
    have n10 : k ≠ 10 := fun e => g10 (by rw [e]; rfl)
    have n11 : k ≠ 11 := fun e => g11 (by rw [e]; rfl)
    have n12 : k ≠ 12 := fun e => g12 (by rw [e]; rfl)
    have n13 : k ≠ 13 := fun e => g13 (by rw [e]; rfl)
    have n14 : k ≠ 14 := fun e => g14 (by rw [e]; rfl)
    have n15 : k ≠ 15 := fun e => g15 (by rw [e]; rfl)
    have n16 : k ≠ 16 := fun e => g16 (by rw [e]; rfl)
    rw [y17 (by omega)] at hQ; exact hQ
theorem s_M_lv0 {X : mz_X} {m : mz_M} {Q : Int32 → mz_M → Prop} {i : Nat} (hi : i < 4001) (hQ : mz_gv X mz_sh 167 0 [some (.ref 55), some (.int (nI i)), none, none, none, none, none, none, none, none] m (fun m9 => mz_gi X mz_sh 169 31 [some (.ref 55), some (.int (m9 89 i)), some (.int (m9 88 i)), none] m9 Q)) : mz_gi X mz_sh 169 31 [some (.ref 55), some (.int (nI i)), some (.int (-1)), none] m Q := by
  have hin : mz_inb (nI i) 12100 = true := mz_inbN (by omega) (by decide)
  refine t_M_compile_1 _ _ ⟨fun g => absurd g (nI_pos (by omega)), fun _ => ⟨fun _ => ?_, fun g => absurd (by decide) g⟩⟩
  rw [nI_clamp (by omega)]
  exact hQ.mono (fun m1 hm => ⟨hin, hin, hm⟩)
/-- the tree of leave, by the node's kind -/
theorem s_M_lvk {X : mz_X} {m : mz_M} {Q : mz_M → Prop} {i kk : Nat} (hi : i < 4001) (hkk : m 82 i = nI kk) (hkb : kk ≤ 19) (h0 : kk = 0 → Q m) (h1 : kk = 1 → mz_inb (m 83 i) 4001 = true ∧ mz_gi X mz_sh 163 0 [some (.ref 55), some (.int 2), some (.int (m 70 (m 83 i).toNatClampNeg))] m (fun _ m' => Q m')) (h2 : kk = 2 → mz_gi X mz_sh 163 0 [some (.ref 55), some (.int 15), some (.int 0)] m (fun _ m' => Q m')) (h3 : kk = 3 → (m 84 i = 3 → mz_inb (m 95 i) 60100 = true ∧ Q (mz_up m 91 (m 95 i).toNatClampNeg (m 55 47))) ∧ (¬ m 84 i = 3 → mz_inb (m 94 i) 60100 = true ∧ Q (mz_up m 91 (m 94 i).toNatClampNeg (m 55 47)))) (h4 : kk = 4 → mz_gv X mz_sh 165 0 [some (.ref 55), some (.int (nI i)), none, none, none] m Q) (h5 : kk = 5 → mz_gi X mz_sh 158 0 [some (.ref 55), some (.int (nI i)), none] m (fun r m1 => m1 = m ∧ mz_inb r 12100 = true ∧ mz_gi X mz_sh 163 0 [some (.ref 55), some (.int 13), some (.int (m 93 r.toNatClampNeg))] m (fun r2 m2 => Q (mz_up m2 93 r.toNatClampNeg r2)))) (h6 : kk = 6 → mz_gi X mz_sh 158 0 [some (.ref 55), some (.int (nI i)), none] m (fun r m1 => m1 = m ∧ mz_inb r 12100 = true ∧ mz_gi X mz_sh 163 0 [some (.ref 55), some (.int 13), some (.int (m 95 r.toNatClampNeg))] m (fun _ m2 => Q m2))) (h7 : kk = 7 → mz_gi X mz_sh 163 0 [some (.ref 55), some (.int 12), some (.int 0)] m (fun _ m1 => mz_inb (m1 94 i) 60100 = true ∧ Q (mz_up m1 91 (m1 94 i).toNatClampNeg (m1 55 47)))) (h8 : kk = 8 → mz_gv X mz_sh 166 0 [some (.ref 55), some (.int (nI i)), none, none, none] m Q) (h9 : 9 ≤ kk → kk ≤ 17 → mz_gi X mz_sh 163 0 [some (.ref 55), some (.int (mz_a2.getD kk 0)), some (.int 0)] m (fun _ m' => Q m')) (h18 : kk = 18 → mz_inb (m 83 i) 4001 = true ∧ mz_gi X mz_sh 163 0 [some (.ref 55), some (.int 1), some (.int (m 70 (m 83 i).toNatClampNeg))] m (fun _ m' => Q m')) (h19 : kk = 19 → mz_inb (m 83 i) 4001 = true ∧ mz_gi X mz_sh 163 0 [some (.ref 55), some (.int 0), some (.int (m 70 (m 83 i).toNatClampNeg))] m (fun _ m' => Q m')) : mz_gv X mz_sh 167 0 [some (.ref 55), some (.int (nI i)), none, none, none, none, none, none, none, none] m Q := by
  have hin : mz_inb (nI i) 12100 = true := mz_inbN (by omega) (by decide)
  have c : ∀ {b : Nat}, b < 2 ^ 31 → nI kk = nI b → kk = b := fun hb e => (nI_eq (by omega) hb).mp e
  refine t_M_leave_0 _ ?_
  rw [nI_clamp (by omega), hkk]
  refine ⟨hin, fun g5 => ?_, fun g5 => ⟨hin, fun g6 => ?_, fun g6 => ⟨hin, fun g => ?_, fun g => ?_, fun g => ?_, fun g => ?_, fun g => ?_, fun g => absurd g g5, fun g => absurd g g6, fun g => ?_, fun g => ?_, fun g => ?_, fun g => ?_, fun n0 n1 n2 n3 n4 n5 n6 n7 n8 n18 n19 => ?_⟩⟩⟩
  · have k5 := c (b := 5) (by decide) g5
    refine t_M_leave_1 _ ((h5 k5).mono (fun r m1 hm => ?_))
    obtain ⟨rfl, hr, hm⟩ := hm
    rw [nI_clamp (by omega), hkk]
    refine ⟨hin, fun g => ?_, fun g => ?_, fun g => ?_, fun g => ?_, fun g => ?_, fun g => ⟨hr, hm.mono (fun r2 m2 hq => ⟨hr, t_M_leave_2 hq⟩)⟩, fun g => ?_, fun g => ?_, fun g => ?_, fun g => ?_, fun g => ?_, fun n0 n1 n2 n3 n4 n5 n6 n7 n8 n18 n19 => absurd g5 n5⟩
    · have := c (b := 0) (by decide) g; omega
    · have := c (b := 1) (by decide) g; omega
    · have := c (b := 2) (by decide) g; omega
    · have := c (b := 3) (by decide) g; omega
    · have := c (b := 4) (by decide) g; omega
    · have := c (b := 6) (by decide) g; omega
    · have := c (b := 7) (by decide) g; omega
    · have := c (b := 8) (by decide) g; omega
    · have := c (b := 18) (by decide) g; omega
    · have := c (b := 19) (by decide) g; omega
  · have k6 := c (b := 6) (by decide) g6
    refine t_M_leave_1 _ ((h6 k6).mono (fun r m1 hm => ?_))
    obtain ⟨rfl, hr, hm⟩ := hm
    rw [nI_clamp (by omega), hkk]
    refine ⟨hin, fun g => ?_, fun g => ?_, fun g => ?_, fun g => ?_, fun g => ?_, fun g => ?_, fun g => ⟨hr, hm.mono (fun r2 m2 hq => t_M_leave_2 hq)⟩, fun g => ?_, fun g => ?_, fun g => ?_, fun g => ?_, fun n0 n1 n2 n3 n4 n5 n6 n7 n8 n18 n19 => absurd g6 n6⟩
    · have := c (b := 0) (by decide) g; omega
    · have := c (b := 1) (by decide) g; omega
    · have := c (b := 2) (by decide) g; omega
    · have := c (b := 3) (by decide) g; omega
    · have := c (b := 4) (by decide) g; omega
    · have := c (b := 5) (by decide) g; omega
    · have := c (b := 7) (by decide) g; omega
    · have := c (b := 8) (by decide) g; omega
    · have := c (b := 18) (by decide) g; omega
    · have := c (b := 19) (by decide) g; omega
  · exact t_M_leave_2 (h0 (c (b := 0) (by decide) g))
  · obtain ⟨q1, q2⟩ := h1 (c (b := 1) (by decide) g)
    exact ⟨hin, q1, q2.mono (fun _ _ hq => t_M_leave_2 hq)⟩
  · exact (h2 (c (b := 2) (by decide) g)).mono (fun _ _ hq => t_M_leave_2 hq)
  · obtain ⟨q1, q2⟩ := h3 (c (b := 3) (by decide) g)
    exact ⟨hin, fun g3 => ⟨hin, (q1 g3).1, t_M_leave_2 (q1 g3).2⟩, fun g3 => ⟨hin, (q2 g3).1, t_M_leave_2 (q2 g3).2⟩⟩
  · exact (h4 (c (b := 4) (by decide) g)).mono (fun _ hq => t_M_leave_2 hq)
  · exact (h7 (c (b := 7) (by decide) g)).mono (fun _ _ hq => ⟨hin, hq.1, t_M_leave_2 hq.2⟩)
  · exact (h8 (c (b := 8) (by decide) g)).mono (fun _ hq => t_M_leave_2 hq)
  · obtain ⟨q1, q2⟩ := h18 (c (b := 18) (by decide) g)
    exact ⟨hin, q1, q2.mono (fun _ _ hq => t_M_leave_2 hq)⟩
  · obtain ⟨q1, q2⟩ := h19 (c (b := 19) (by decide) g)
    exact ⟨hin, q1, q2.mono (fun _ _ hq => t_M_leave_2 hq)⟩
  · have m0 : kk ≠ 0 := fun e => n0 (by rw [e]; rfl)
    have m1 : kk ≠ 1 := fun e => n1 (by rw [e]; rfl)
    have m2 : kk ≠ 2 := fun e => n2 (by rw [e]; rfl)
    have m3 : kk ≠ 3 := fun e => n3 (by rw [e]; rfl)
    have m4 : kk ≠ 4 := fun e => n4 (by rw [e]; rfl)
    have m5 : kk ≠ 5 := fun e => n5 (by rw [e]; rfl)
    have m6 : kk ≠ 6 := fun e => n6 (by rw [e]; rfl)
    have m7 : kk ≠ 7 := fun e => n7 (by rw [e]; rfl)
    have m8 : kk ≠ 8 := fun e => n8 (by rw [e]; rfl)
    have m18 : kk ≠ 18 := fun e => n18 (by rw [e]; rfl)
    have m19 : kk ≠ 19 := fun e => n19 (by rw [e]; rfl)
    exact ⟨hin, s_M_wordFor (by omega) (by omega) ((h9 (by omega) (by omega)).mono (fun _ _ hq => t_M_leave_2 hq))⟩
def z_chn (V : Nat → Int32) : Int32 → Nat → List Nat → Prop
  | c, _, [] => c = -1
  | c, b, p :: t => c = nI p ∧ p < b ∧ z_chn V (V p) p t
theorem z_chn.keep {V V' : Nat → Int32} : ∀ {L : List Nat} {c : Int32} {b : Nat}, z_chn V c b L → (∀ q, q < b → V' q = V q) → z_chn V' c b L := by
  intro L
  induction L with
  | nil => intro c b h _; exact h
  | cons p t ih =>
    intro c b h hv
    obtain ⟨h1, h2, h3⟩ := h
    refine ⟨h1, h2, ?_⟩
    rw [hv p h2]
    exact ih h3 (fun q hq => hv q (by omega))
theorem z_chn.wk {V : Nat → Int32} {L : List Nat} {c : Int32} {b b' : Nat} (h : z_chn V c b L) (hb : b ≤ b') : z_chn V c b' L := by
  cases L with
  | nil => exact h
  | cons p t => exact ⟨h.1, Nat.lt_of_lt_of_le h.2.1 hb, h.2.2⟩
theorem z_chn.lt {V : Nat → Int32} : ∀ {L : List Nat} {c : Int32} {b : Nat}, z_chn V c b L → ∀ p, p ∈ L → p < b := by
  intro L
  induction L with
  | nil => intro c b _ p hp; cases hp
  | cons q t ih =>
    intro c b h p hp
    obtain ⟨h1, h2, h3⟩ := h
    rcases List.mem_cons.mp hp with e | e
    · subst e; exact h2
    · exact Nat.lt_trans (ih h3 p e) h2
def z_pt (v : Int32) : List Nat → (Nat → Int32) → Nat → Int32
  | [], V => V
  | p :: t, V => z_pt v t (upd V p v)
theorem z_pt_in {v : Int32} : ∀ (L : List Nat) (V : Nat → Int32) (q : Nat), (q ∈ L → z_pt v L V q = v) ∧ (q ∉ L → z_pt v L V q = V q) := by
  intro L
  induction L with
  | nil => intro V q; exact ⟨fun h => (by cases h), fun _ => rfl⟩
  | cons p t ih =>
    intro V q
    simp only [z_pt]
    by_cases ht : q ∈ t
    · exact ⟨fun _ => (ih _ q).1 ht, fun h => absurd (List.mem_cons_of_mem _ ht) h⟩
    · rw [(ih (upd V p v) q).2 ht]
      refine ⟨fun h => ?_, fun h => ?_⟩
      · have : q = p := (List.mem_cons.mp h).resolve_right ht
        subst this
        simp [upd]
      · have : q ≠ p := fun e => h (by rw [e]; exact List.mem_cons_self)
        simp [upd, this]
theorem s_M_bW1 {X : mz_X} {m0 : mz_M} {Q : mz_M → Prop} {w : Nat} {O P C A B : Nat → Int32} : ∀ (L : List Nat) (V : Nat → Int32) (c : Int32) (b : Nat) (m : mz_M), z_ct m0 m w O V P C A B → z_chn V c b L → b ≤ 60100 → (∀ m', z_ct m0 m' w O (z_pt (nI w) L V) P C A B → Q m') → mz_gv X mz_sh 165 35 [some (.ref 55), none, none, some (.int c), none] m Q := by
  intro L
  induction L with
  | nil =>
    intro V c b m h hc hb hQ
    have : c = -1 := hc
    subst this
    exact t_M_behindWhile_1 _ ⟨fun _ => hQ m h, fun g => absurd (by decide) g⟩
  | cons p t ih =>
    intro V c b m h hc hb hQ
    obtain ⟨rfl, h2, h3⟩ := hc
    have hin : mz_inb (nI p) 60100 = true := mz_inbN (by omega) (by decide)
    refine t_M_behindWhile_1 _ ⟨fun g => absurd g (nI_pos (by omega)), fun _ => ⟨hin, hin, ?_⟩⟩
    rw [nI_clamp (by omega), h.2.2.2.2.1, h.2.2.1]
    refine ih (upd V p (nI w)) (V p) p _ (h.u91 p (nI w)) (h3.keep (fun q hq => ?_)) (by omega) hQ
    have : q ≠ p := by omega
    simp [upd, this]
theorem s_M_bW {X : mz_X} {m0 m : mz_M} {Q : mz_M → Prop} {w i a b : Nat} {L : List Nat} {O V P C A B : Nat → Int32} (h : z_ct m0 m w O V P C A B) (hi : i < 4001) (hw : w < 60100) (ha : A i = nI a) (ha2 : a < 60100) (hb : b ≤ 60100) (hc : z_chn (upd (upd V w (B i)) a (nI (w + 1))) (C i) b L) (hQ : ∀ m', z_ct m0 m' (w + 1) (upd O w 13) (z_pt (nI (w + 1)) L (upd (upd V w (B i)) a (nI (w + 1)))) P C A B → Q m') : mz_gv X mz_sh 165 0 [some (.ref 55), some (.int (nI i)), none, none, none] m Q := by
  have hin : mz_inb (nI i) 12100 = true := mz_inbN (by omega) (by decide)
  refine t_M_behindWhile_0 _ ⟨hin, ?_⟩
  rw [nI_clamp (by omega), h.2.2.2.2.2.2.2.2]
  refine s_M_emit h hw (fun m1 h1 => ⟨hin, ?_, hin, ?_⟩)
  · rw [h1.2.2.2.2.2.2.2.1, ha]; exact mz_inbN ha2 (by decide)
  · rw [h1.2.2.2.2.2.2.2.1, h1.2.2.2.2.2.2.1, ha, h1.2.2.1, nI_clamp (by omega)]
    exact s_M_bW1 L _ _ b _ (h1.u91 a (nI (w + 1))) hc hb hQ
theorem s_M_bA {X : mz_X} {m0 m : mz_M} {Q : mz_M → Prop} {w i a : Nat} {O V P C A B : Nat → Int32} (h : z_ct m0 m w O V P C A B) (hi : i < 4001) (hw : w + 3 < 60100) (ha : A i = nI a) (ha2 : a < 60100) (hQ : ∀ m', z_ct m0 m' (w + 3) (upd (upd (upd O w 12) (w + 1) 13) (w + 2) 0) (upd (upd (upd (upd (upd V w 0) (w + 1) 0) a (nI (w + 2))) (w + 2) 0) (w + 1) (nI (w + 3))) P C A B → Q m') : mz_gv X mz_sh 166 0 [some (.ref 55), some (.int (nI i)), none, none, none] m Q := by
  have hin : mz_inb (nI i) 12100 = true := mz_inbN (by omega) (by decide)
  refine t_M_behindAnd_0 _ (s_M_emit h (by omega) (fun m1 h1 => s_M_emit h1 (by omega) (fun m2 h2 => ⟨hin, ?_, ?_⟩)))
  · rw [nI_clamp (by omega), h2.2.2.2.2.2.2.2.1, ha]; exact mz_inbN ha2 (by decide)
  · rw [nI_clamp (by omega), h2.2.2.2.2.2.2.2.1, ha, h2.2.2.1, nI_clamp (by omega)]
    refine s_M_emit (h2.u91 a (nI (w + 1 + 1))) (by omega) (fun m3 h3 => ⟨mz_inbN (by omega) (by decide), ?_⟩)
    rw [h3.2.2.1, nI_clamp (by omega)]
    exact hQ _ (h3.u91 (w + 1) (nI (w + 1 + 1 + 1)))
