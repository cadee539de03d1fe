/-! the reference's compile: its state, its steps -/
def z_ct (m0 m : mz_M) (w : Nat) (O V P C A B : Nat → Int32) : Prop := z_fr [55, 90, 91, 92, 93, 94, 95] m0 m ∧ (∀ j, j ≠ 47 → m 55 j = m0 55 j) ∧ m 55 47 = nI w ∧ m 90 = O ∧ m 91 = V ∧ m 92 = P ∧ m 93 = C ∧ m 94 = A ∧ m 95 = B
theorem z_ct.u91 {m0 m : mz_M} {w : Nat} {O V P C A B : Nat → Int32} (h : z_ct m0 m w O V P C A B) (i : Nat) (v : Int32) : z_ct m0 (mz_up m 91 i v) w O (upd V i v) P C A B := by
  obtain ⟨h1, h2, h3, h4, h5, h6, h7, h8, h9⟩ := h
  exact ⟨h1.up (by decide), fun j hj => by rw [mz_up_n _ _ _ (by decide)]; exact h2 j hj, by rw [mz_up_n _ _ _ (by decide)]; exact h3, by rw [mz_up_n _ _ _ (by decide)]; exact h4, by rw [mz_up_k, h5], by rw [mz_up_n _ _ _ (by decide)]; exact h6, by rw [mz_up_n _ _ _ (by decide)]; exact h7, by rw [mz_up_n _ _ _ (by decide)]; exact h8, by rw [mz_up_n _ _ _ (by decide)]; exact h9⟩
theorem z_ct.u92 {m0 m : mz_M} {w : Nat} {O V P C A B : Nat → Int32} (h : z_ct m0 m w O V P C A B) (i : Nat) (v : Int32) : z_ct m0 (mz_up m 92 i v) w O V (upd P i v) C A B := by
  obtain ⟨h1, h2, h3, h4, h5, h6, h7, h8, h9⟩ := h
  exact ⟨h1.up (by decide), fun j hj => by rw [mz_up_n _ _ _ (by decide)]; exact h2 j hj, by rw [mz_up_n _ _ _ (by decide)]; exact h3, by rw [mz_up_n _ _ _ (by decide)]; exact h4, by rw [mz_up_n _ _ _ (by decide)]; exact h5, by rw [mz_up_k, h6], by rw [mz_up_n _ _ _ (by decide)]; exact h7, by rw [mz_up_n _ _ _ (by decide)]; exact h8, by rw [mz_up_n _ _ _ (by decide)]; exact h9⟩
theorem z_ct.u93 {m0 m : mz_M} {w : Nat} {O V P C A B : Nat → Int32} (h : z_ct m0 m w O V P C A B) (i : Nat) (v : Int32) : z_ct m0 (mz_up m 93 i v) w O V P (upd C i v) A B := by
  obtain ⟨h1, h2, h3, h4, h5, h6, h7, h8, h9⟩ := h
  exact ⟨h1.up (by decide), fun j hj => by rw [mz_up_n _ _ _ (by decide)]; exact h2 j hj, by rw [mz_up_n _ _ _ (by decide)]; exact h3, by rw [mz_up_n _ _ _ (by decide)]; exact h4, by rw [mz_up_n _ _ _ (by decide)]; exact h5, by rw [mz_up_n _ _ _ (by decide)]; exact h6, by rw [mz_up_k, h7], by rw [mz_up_n _ _ _ (by decide)]; exact h8, by rw [mz_up_n _ _ _ (by decide)]; exact h9⟩
theorem z_ct.u94 {m0 m : mz_M} {w : Nat} {O V P C A B : Nat → Int32} (h : z_ct m0 m w O V P C A B) (i : Nat) (v : Int32) : z_ct m0 (mz_up m 94 i v) w O V P C (upd A i v) B := by
  obtain ⟨h1, h2, h3, h4, h5, h6, h7, h8, h9⟩ := h
  exact ⟨h1.up (by decide), fun j hj => by rw [mz_up_n _ _ _ (by decide)]; exact h2 j hj, by rw [mz_up_n _ _ _ (by decide)]; exact h3, by rw [mz_up_n _ _ _ (by decide)]; exact h4, by rw [mz_up_n _ _ _ (by decide)]; exact h5, by rw [mz_up_n _ _ _ (by decide)]; exact h6, by rw [mz_up_n _ _ _ (by decide)]; exact h7, by rw [mz_up_k, h8], by rw [mz_up_n _ _ _ (by decide)]; exact h9⟩
theorem z_ct.u95 {m0 m : mz_M} {w : Nat} {O V P C A B : Nat → Int32} (h : z_ct m0 m w O V P C A B) (i : Nat) (v : Int32) : z_ct m0 (mz_up m 95 i v) w O V P C A (upd B i v) := by
  obtain ⟨h1, h2, h3, h4, h5, h6, h7, h8, h9⟩ := h
  exact ⟨h1.up (by decide), fun j hj => by rw [mz_up_n _ _ _ (by decide)]; exact h2 j hj, by rw [mz_up_n _ _ _ (by decide)]; exact h3, by rw [mz_up_n _ _ _ (by decide)]; exact h4, by rw [mz_up_n _ _ _ (by decide)]; exact h5, by rw [mz_up_n _ _ _ (by decide)]; exact h6, by rw [mz_up_n _ _ _ (by decide)]; exact h7, by rw [mz_up_n _ _ _ (by decide)]; exact h8, by rw [mz_up_k, h9]⟩
theorem s_M_emit {X : mz_X} {m0 m : mz_M} {Q : Int32 → mz_M → Prop} {w : Nat} {O V P C A B : Nat → Int32} {a1 a2 : Int32} (h : z_ct m0 m w O V P C A B) (hw : w < 60100) (hQ : ∀ m', z_ct m0 m' (w + 1) (upd O w a1) (upd V w a2) P C A B → Q (nI w) m') : mz_gi X mz_sh 163 0 [some (.ref 55), some (.int a1), some (.int a2)] m Q := by
  obtain ⟨h1, h2, h3, h4, h5, h6, h7, h8, h9⟩ := h
  refine t_M_emit_0 _ _ ?_
  rw [h3, nI_clamp (by omega), nI_1, nI_m1 (by omega), Nat.add_sub_cancel]
  refine ⟨mz_inbN hw (by decide), mz_inbN hw (by decide), hQ _ ⟨((h1.up (by decide)).up (by decide)).up (by decide), fun j hj => ?_, ?_, ?_, ?_, ?_, ?_, ?_, ?_⟩⟩
  · rw [mz_up_k, mz_up_n _ _ _ (by decide), mz_up_n _ _ _ (by decide)]
    simp only [upd, hj, if_false]
    exact h2 j hj
  · rw [mz_up_k]; simp [upd]
  · rw [mz_up_n _ _ _ (by decide), mz_up_n _ _ _ (by decide), mz_up_k, h4]
  · rw [mz_up_n _ _ _ (by decide), mz_up_k, mz_up_n _ _ _ (by decide), h5]
  · rw [mz_up_n _ _ _ (by decide), mz_up_n _ _ _ (by decide), mz_up_n _ _ _ (by decide), h6]
  · rw [mz_up_n _ _ _ (by decide), mz_up_n _ _ _ (by decide), mz_up_n _ _ _ (by decide), h7]
  · rw [mz_up_n _ _ _ (by decide), mz_up_n _ _ _ (by decide), mz_up_n _ _ _ (by decide), h8]
  · rw [mz_up_n _ _ _ (by decide), mz_up_n _ _ _ (by decide), mz_up_n _ _ _ (by decide), h9]
/-- one step down: before a part -/
theorem s_M_dn0 {X : mz_X} {m0 m : mz_M} {Q : Int32 → mz_M → Prop} {w i x k : Nat} {O V P C A B : Nat → Int32} (h : z_ct m0 m w O V P C A B) (hi : i < 4001) (hx : x < 4001) (hk : P i = nI k) (hQ : mz_gv X mz_sh 164 0 [some (.ref 55), some (.int (nI i)), some (.int (nI k)), none, none, none] m (fun m1 => (m1 92 = P ∧ m1 86 = m0 86 ∧ mz_gi X mz_sh 169 31 [some (.ref 55), some (.int (nI x)), some (.int (m0 86 x)), none] (mz_up (mz_up m1 92 i (nI (k + 1))) 92 x 0) Q))) : mz_gi X mz_sh 169 31 [some (.ref 55), some (.int (nI i)), some (.int (nI x)), none] m Q := by
  have hin : mz_inb (nI i) 12100 = true := mz_inbN (by omega) (by decide)
  have hinx : mz_inb (nI x) 12100 = true := mz_inbN (by omega) (by decide)
  refine t_M_compile_1 _ _ ⟨fun g => absurd g (nI_pos (by omega)), fun _ => ⟨fun g => absurd g (nI_pos (by omega)), fun _ => ⟨hin, ?_⟩⟩⟩
  rw [nI_clamp (by omega), nI_clamp (by omega), h.2.2.2.2.2.1, hk]
  refine hQ.mono (fun m1 hm => ⟨hin, hin, hinx, hinx, ?_⟩)
  obtain ⟨e1, e2, e3⟩ := hm
  rw [e1, e2, hk, nI_1]
  exact e3
theorem s_M_bf {X : mz_X} {m0 m : mz_M} {Q : mz_M → Prop} {w i k kk : Nat} {O V P C A B : Nat → Int32} (h : z_ct m0 m w O V P C A B) (hi : i < 4001) (hkk : m0 82 i = nI kk) (hkb : kk ≤ 19) (hk2 : k < 2 ^ 31) (hw : w + 3 < 60100) {a : Nat} (ha : k = 2 → kk = 3 → A i = nI a ∧ a < 60100) (hQ : ∀ m' w' O' V' C' A' B', z_ct m0 m' w' O' V' P C' A' B' → (k = 0 → w' = w ∧ O' = O ∧ V' = V ∧ A' = A ∧ ((kk = 4 ∧ C' = upd C i (-1) ∧ B' = upd B i (nI w)) ∨ (kk ≠ 4 ∧ C' = C ∧ B' = B))) → (k = 1 → C' = C ∧ B' = B ∧ (((kk = 3 ∨ kk = 4 ∨ kk = 8) ∧ w' = w + 1 ∧ O' = upd O w 14 ∧ V' = upd V w 0 ∧ A' = upd A i (nI w)) ∨ (kk = 7 ∧ w' = w + 3 ∧ O' = upd (upd (upd O w 14) (w + 1) 0) (w + 2) 13 ∧ V' = upd (upd (upd (upd V w 0) (w + 1) 1) (w + 2) 0) w (nI (w + 3)) ∧ A' = upd A i (nI (w + 2))) ∨ ((kk ≠ 3 ∧ kk ≠ 4 ∧ kk ≠ 7 ∧ kk ≠ 8) ∧ w' = w ∧ O' = O ∧ V' = V ∧ A' = A))) → (k = 2 → C' = C ∧ A' = A ∧ ((kk = 3 ∧ w' = w + 1 ∧ O' = upd O w 13 ∧ V' = upd (upd V w 0) a (nI (w + 1)) ∧ B' = upd B i (nI w)) ∨ (kk ≠ 3 ∧ w' = w ∧ O' = O ∧ V' = V ∧ B' = B))) → (3 ≤ k → w' = w ∧ O' = O ∧ V' = V ∧ C' = C ∧ A' = A ∧ B' = B) → Q m') : mz_gv X mz_sh 164 0 [some (.ref 55), some (.int (nI i)), some (.int (nI k)), none, none, none] m Q := by
  have hin : mz_inb (nI i) 12100 = true := mz_inbN (by omega) (by decide)
  have c : ∀ {a b : Nat}, a < 2 ^ 31 → b < 2 ^ 31 → nI a = nI b → a = b := fun ha hb e => (nI_eq ha hb).mp e
  have e82 : m 82 i = nI kk := by rw [h.1 82 (by decide)]; exact hkk
  refine t_M_before_0 _ _ ?_
  rw [nI_clamp (by omega), e82]
  refine ⟨hin, fun g4 => ?_, fun g4 => ?_⟩
  · have k4 : kk = 4 := c (b := 4) (by omega) (by decide) g4
    refine ⟨fun g0 => ?_, fun g0 => ?_⟩
    · have k0 : k = 0 := c (b := 0) (by omega) (by decide) g0
      have h' := (h.u95 i (nI w)).u93 i (-1)
      rw [h.2.2.1]
      refine ⟨hin, hin, t_M_before_1 _ _ _ ⟨fun g => ?_, fun _ => ?_⟩⟩
      · have := c (b := 1) (by omega) (by decide) g
        omega
      · refine t_M_before_3 _ _ _ ⟨fun g => ?_, fun _ => ?_⟩
        · have := c (b := 1) (by omega) (by decide) g
          omega
        · refine t_M_before_4 _ _ _ ⟨fun g => ?_, fun _ => ?_⟩
          · have := c (b := 2) (by omega) (by decide) g
            omega
          · exact t_M_before_5 (hQ _ _ _ _ _ _ _ h' (fun _ => ⟨rfl, rfl, rfl, rfl, Or.inl ⟨k4, rfl, rfl⟩⟩) (fun _ => by omega) (fun _ => by omega) (fun _ => by omega))
    · have k0 : k ≠ 0 := fun e => g0 (by rw [e]; rfl)
      refine t_M_before_1 _ _ _ ⟨fun g => ?_, fun g => ?_⟩
      · have k1 : k = 1 := c (b := 1) (by omega) (by decide) g
        have go : mz_gv X mz_sh 164 54 [some (.ref 55), some (.int (nI i)), some (.int (nI k)), some (.int (nI kk)), none, none] m Q := by
          refine t_M_before_2 _ _ _ (s_M_emit h (by omega) (fun m1 h1 => ⟨hin, ?_⟩))
          rw [nI_clamp (by omega)]
          refine t_M_before_3 _ _ _ ⟨fun _ => ⟨fun g7 => ?_, fun _ => ?_⟩, fun g' => absurd g g'⟩
          · have := c (b := 7) (by omega) (by decide) g7
            omega
          · refine t_M_before_4 _ _ _ ⟨fun g => ?_, fun _ => ?_⟩
            · have := c (b := 2) (by omega) (by decide) g
              omega
            · exact t_M_before_5 (hQ _ _ _ _ _ _ _ (h1.u94 i (nI w)) (fun _ => by omega) (fun _ => ⟨rfl, rfl, Or.inl ⟨by omega, rfl, rfl, rfl, rfl⟩⟩) (fun _ => by omega) (fun _ => by omega))
        exact ⟨fun _ => go, fun _ => ⟨fun _ => go, fun _ => ⟨fun _ => go, fun g' => absurd g4 g'⟩⟩⟩
      · have k1 : k ≠ 1 := fun e => g (by rw [e]; rfl)
        refine t_M_before_3 _ _ _ ⟨fun g' => absurd g' g, fun _ => t_M_before_4 _ _ _ ⟨fun g2 => ⟨fun g3 => ?_, fun _ => ?_⟩, fun _ => ?_⟩⟩
        · have := c (b := 3) (by omega) (by decide) g3
          omega
        · exact t_M_before_5 (hQ _ _ _ _ _ _ _ h (fun _ => by omega) (fun _ => by omega) (fun _ => ⟨rfl, rfl, Or.inr ⟨by omega, rfl, rfl, rfl, rfl⟩⟩) (fun _ => ⟨rfl, rfl, rfl, rfl, rfl, rfl⟩))
        · exact t_M_before_5 (hQ _ _ _ _ _ _ _ h (fun _ => by omega) (fun _ => by omega) (fun _ => ⟨rfl, rfl, Or.inr ⟨by omega, rfl, rfl, rfl, rfl⟩⟩) (fun _ => ⟨rfl, rfl, rfl, rfl, rfl, rfl⟩))
  · have k4 : kk ≠ 4 := fun e => g4 (by rw [e]; rfl)
    refine t_M_before_1 _ _ _ ⟨fun g => ?_, fun g => ?_⟩
    · have k1 : k = 1 := c (b := 1) (by omega) (by decide) g
      have go : (kk = 3 ∨ kk = 8) → mz_gv X mz_sh 164 54 [some (.ref 55), some (.int (nI i)), some (.int (nI k)), some (.int (nI kk)), none, none] m Q := by
        intro hk38
        refine t_M_before_2 _ _ _ (s_M_emit h (by omega) (fun m1 h1 => ⟨hin, ?_⟩))
        rw [nI_clamp (by omega)]
        refine t_M_before_3 _ _ _ ⟨fun _ => ⟨fun g7 => ?_, fun _ => ?_⟩, fun g' => absurd g g'⟩
        · have := c (b := 7) (by omega) (by decide) g7
          omega
        · refine t_M_before_4 _ _ _ ⟨fun g => ?_, fun _ => ?_⟩
          · have := c (b := 2) (by omega) (by decide) g
            omega
          · exact t_M_before_5 (hQ _ _ _ _ _ _ _ (h1.u94 i (nI w)) (fun _ => by omega) (fun _ => ⟨rfl, rfl, Or.inl ⟨by omega, rfl, rfl, rfl, rfl⟩⟩) (fun _ => by omega) (fun _ => by omega))
      refine ⟨fun g8 => go (Or.inr (c (b := 8) (by omega) (by decide) g8)), fun g8 => ⟨fun g3 => go (Or.inl (c (b := 3) (by omega) (by decide) g3)), fun g3 => ⟨fun g' => absurd g' g4, fun _ => ?_⟩⟩⟩
      have k8 : kk ≠ 8 := fun e => g8 (by rw [e]; rfl)
      have k3 : kk ≠ 3 := fun e => g3 (by rw [e]; rfl)
      refine t_M_before_3 _ _ _ ⟨fun _ => ⟨fun g7 => ?_, fun g7 => ?_⟩, fun g' => absurd g g'⟩
      · have k7 : kk = 7 := c (b := 7) (by omega) (by decide) g7
        refine s_M_emit h (by omega) (fun m1 h1 => s_M_emit h1 (by omega) (fun m2 h2 => s_M_emit h2 (by omega) (fun m3 h3 => ⟨hin, mz_inbN (by omega) (by decide), ?_⟩)))
        have h4 := (h3.u94 i (nI (w + 1 + 1))).u91 w (nI (w + 1 + 1 + 1))
        rw [h3.2.2.1, nI_clamp (by omega), nI_clamp (by omega)]
        refine t_M_before_4 _ _ _ ⟨fun g => ?_, fun _ => ?_⟩
        · have := c (b := 2) (by omega) (by decide) g
          omega
        · exact t_M_before_5 (hQ _ _ _ _ _ _ _ h4 (fun _ => by omega) (fun _ => ⟨rfl, rfl, Or.inr (Or.inl ⟨k7, rfl, rfl, rfl, rfl⟩)⟩) (fun _ => by omega) (fun _ => by omega))
      · have k7 : kk ≠ 7 := fun e => g7 (by rw [e]; rfl)
        refine t_M_before_4 _ _ _ ⟨fun g => ?_, fun _ => ?_⟩
        · have := c (b := 2) (by omega) (by decide) g
          omega
        · exact t_M_before_5 (hQ _ _ _ _ _ _ _ h (fun _ => by omega) (fun _ => ⟨rfl, rfl, Or.inr (Or.inr ⟨⟨k3, k4, k7, k8⟩, rfl, rfl, rfl, rfl⟩)⟩) (fun _ => by omega) (fun _ => by omega))
    · have k1 : k ≠ 1 := fun e => g (by rw [e]; rfl)
      refine t_M_before_3 _ _ _ ⟨fun g' => absurd g' g, fun _ => t_M_before_4 _ _ _ ⟨fun g2 => ⟨fun g3 => ?_, fun g3 => ?_⟩, fun g2 => ?_⟩⟩
      · have k2 : k = 2 := c (b := 2) (by omega) (by decide) g2
        have k3 : kk = 3 := c (b := 3) (by omega) (by decide) g3
        obtain ⟨a1, a2⟩ := ha k2 k3
        refine s_M_emit h (by omega) (fun m1 h1 => ?_)
        rw [nI_clamp (by omega), h1.2.2.2.2.2.2.2.1, a1, h1.2.2.1, nI_clamp (by omega)]
        refine ⟨hin, hin, mz_inbN a2 (by decide), t_M_before_5 (hQ _ _ _ _ _ _ _ ((h1.u95 i (nI w)).u91 a (nI (w + 1))) (fun _ => by omega) (fun _ => by omega) (fun _ => ⟨rfl, rfl, Or.inl ⟨k3, rfl, rfl, rfl, rfl⟩⟩) (fun _ => by omega))⟩
      · have k3 : kk ≠ 3 := fun e => g3 (by rw [e]; rfl)
        have k2 : k = 2 := c (b := 2) (by omega) (by decide) g2
        exact t_M_before_5 (hQ _ _ _ _ _ _ _ h (fun _ => by omega) (fun _ => by omega) (fun _ => ⟨rfl, rfl, Or.inr ⟨k3, rfl, rfl, rfl, rfl⟩⟩) (fun _ => by omega))
      · have k2 : k ≠ 2 := fun e => g2 (by rw [e]; rfl)
        exact t_M_before_5 (hQ _ _ _ _ _ _ _ h (fun _ => ⟨rfl, rfl, rfl, rfl, Or.inr ⟨k4, rfl, rfl⟩⟩) (fun _ => by omega) (fun _ => by omega) (fun _ => ⟨rfl, rfl, rfl, rfl, rfl, rfl⟩))
/-- one step down, whole -/
theorem s_M_dn {X : mz_X} {m0 m : mz_M} {Q : Int32 → mz_M → Prop} {w i x k kk : Nat} {O V P C A B : Nat → Int32} (h : z_ct m0 m w O V P C A B) (hi : i < 4001) (hx : x < 4001) (hk : P i = nI k) (hkk : m0 82 i = nI kk) (hkb : kk ≤ 19) (hk2 : k < 2 ^ 31) (hw : w + 3 < 60100) {a : Nat} (ha : k = 2 → kk = 3 → A i = nI a ∧ a < 60100) (hQ : ∀ m' w' O' V' C' A' B', z_ct m0 m' w' O' V' (upd (upd P i (nI (k + 1))) x 0) C' A' B' → (k = 0 → w' = w ∧ O' = O ∧ V' = V ∧ A' = A ∧ ((kk = 4 ∧ C' = upd C i (-1) ∧ B' = upd B i (nI w)) ∨ (kk ≠ 4 ∧ C' = C ∧ B' = B))) → (k = 1 → C' = C ∧ B' = B ∧ (((kk = 3 ∨ kk = 4 ∨ kk = 8) ∧ w' = w + 1 ∧ O' = upd O w 14 ∧ V' = upd V w 0 ∧ A' = upd A i (nI w)) ∨ (kk = 7 ∧ w' = w + 3 ∧ O' = upd (upd (upd O w 14) (w + 1) 0) (w + 2) 13 ∧ V' = upd (upd (upd (upd V w 0) (w + 1) 1) (w + 2) 0) w (nI (w + 3)) ∧ A' = upd A i (nI (w + 2))) ∨ ((kk ≠ 3 ∧ kk ≠ 4 ∧ kk ≠ 7 ∧ kk ≠ 8) ∧ w' = w ∧ O' = O ∧ V' = V ∧ A' = A))) → (k = 2 → C' = C ∧ A' = A ∧ ((kk = 3 ∧ w' = w + 1 ∧ O' = upd O w 13 ∧ V' = upd (upd V w 0) a (nI (w + 1)) ∧ B' = upd B i (nI w)) ∨ (kk ≠ 3 ∧ w' = w ∧ O' = O ∧ V' = V ∧ B' = B))) → (3 ≤ k → w' = w ∧ O' = O ∧ V' = V ∧ C' = C ∧ A' = A ∧ B' = B) → mz_gi X mz_sh 169 31 [some (.ref 55), some (.int (nI x)), some (.int (m0 86 x)), none] m' Q) : mz_gi X mz_sh 169 31 [some (.ref 55), some (.int (nI i)), some (.int (nI x)), none] m Q := by
  refine s_M_dn0 h hi hx hk (s_M_bf h hi hkk hkb hk2 hw ha (fun m1 w' O' V' C' A' B' h1 g0 g1 g2 g3 => ?_))
  exact ⟨h1.2.2.2.2.2.1, h1.1 86 (by decide), hQ _ w' O' V' C' A' B' ((h1.u92 i (nI (k + 1))).u92 x 0) g0 g1 g2 g3⟩
