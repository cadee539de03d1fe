/-! THE RELATION between the class's cells and the reference's; the calls that only read -/
/-- tokens as lex leaves them -/
def z_tg (m : mz_M) : Prop := ∃ (c n k : Nat) (kd z b : Nat → Nat), c ≤ n ∧ n ≤ 4000 ∧ k ≤ 32 ∧ m 2 4 = nI c ∧ m 2 5 = nI k ∧ m 3 c = 0 ∧ b c ≤ n ∧ ∀ j, j < c → m 3 j = nI (kd j) ∧ 1 ≤ kd j ∧ kd j ≤ 24 ∧ m 5 j = nI (z j) ∧ 1 ≤ z j ∧ b j + z j ≤ b (j + 1) ∧ (kd j = 9 ∨ kd j = 10 → z j = 2) ∧ (kd j = 1 → ∃ q, q < k ∧ m 6 j = nI q)
def r_text (m : mz_M) : Prop := ∃ n, n ≤ 4000 ∧ m 0 1 = nI n ∧ m 55 12 = nI n ∧ m 1 = m 66 ∧ z_txt (m 1) n
def r_tok (m : mz_M) : Prop := m 2 4 = m 55 18 ∧ m 2 5 = m 55 21 ∧ m 3 = m 67 ∧ m 4 = m 68 ∧ m 5 = m 69 ∧ m 6 = m 70 ∧ m 7 = m 71 ∧ m 8 = m 72 ∧ m 2 6 = m 55 13 ∧ (m 2 6 = 0 ∨ m 2 6 = 1) ∧ (m 2 6 = 1 → z_tg m)
def r_red (m : mz_M) : Prop := m 9 1 = m 55 26 ∧ m 10 = m 75 ∧ ∃ c, c ≤ 16016 ∧ m 9 1 = nI c
def r_in (m : mz_M) : Prop := m 46 = m 96
def r_run (m : mz_M) : Prop := m 47 0 = m 55 56 ∧ (m 47 0 = 0 ∨ m 47 0 = 1) ∧ m 48 = m 99 ∧ m 49 = m 97 ∧ (m 47 0 = 1 → m 47 1 = m 55 57 ∧ m 47 3 = m 55 59 ∧ m 47 4 = m 55 60 ∧ m 47 5 = m 55 61)
theorem mz_inbC {a : Int32} {n : Nat} (h0 : ¬ a < 0) (h : a < nI n) (hn : n < 2 ^ 31) : mz_inb a n = true := by
  obtain ⟨j, hj, rfl⟩ := nI_of h0
  exact mz_inbN ((nI_ltI hj hn).mp h) hn
theorem mz_inbD {a : Int32} {n : Nat} (h0 : ¬ a < 0) (h : a ≤ nI n) (hn : n < 2 ^ 31 - 1) : mz_inb a (n + 1) = true := by
  obtain ⟨j, hj, rfl⟩ := nI_of h0
  exact mz_inbN (Nat.lt_succ_of_le ((nI_leI hj (by omega)).mp h)) (by omega)
theorem mz_inbW {a : Int32} {n k : Nat} (h : mz_inb a n = true) (hk : n ≤ k) : mz_inb a k = true := by
  simp only [mz_inb, Bool.and_eq_true, decide_eq_true_eq] at h ⊢
  exact ⟨h.1, Nat.lt_of_lt_of_le h.2 hk⟩
theorem k_token {X : mz_X} {m : mz_M} {a1 a2 : Int32} {R : Int32 → Int32 → mz_M → Prop} (h : r_tok m) (hR : ∀ r, R r r m) : mz_gi X mz_sh 103 0 [some (.ref 0), some (.int a1), some (.int a2)] m (fun r m1 => mz_gi X mz_sh 145 0 [some (.ref 55), some (.int a1), some (.int a2)] m1 (fun r' m2 => R r r' m2)) := by
  obtain ⟨e1, e2, e3, e4, e5, e6, e7, e8, e9, e10, e11⟩ := h
  refine t_A_token_0 _ _ ⟨fun h0 => t_M_token_0 _ _ ⟨fun _ => hR _, fun h1 => absurd (e9 ▸ h0) h1⟩, fun h0 => ⟨fun h1 => t_M_token_0 _ _ ⟨fun h2 => absurd (e9.trans h2) h0, fun _ => ⟨fun _ => hR _, fun h2 => absurd h1 h2⟩⟩, fun h1 => ⟨fun h2 => ?_, fun h2 => t_M_token_0 _ _ ⟨fun h3 => absurd (e9.trans h3) h0, fun _ => ⟨fun h3 => absurd h3 h1, fun _ => ⟨fun h3 => absurd (e1 ▸ h3) h2, fun _ => hR _⟩⟩⟩⟩⟩⟩
  obtain ⟨c, n, k, kd, z, b, q1, q2, q3, q4, q5⟩ := e11 (e10.resolve_left h0)
  have hin : mz_inb a1 4001 = true := mz_inbW (mz_inbD h1 (by rw [← q4]; exact h2) (by omega)) (by omega)
  have hB : ∀ T, ((a2 = 0 → mz_inb a1 4001 = true ∧ R T (m 67 a1.toNatClampNeg) m) ∧ (a2 = 1 → mz_inb a1 4001 = true ∧ R T (m 68 a1.toNatClampNeg) m) ∧ (a2 = 2 → mz_inb a1 4001 = true ∧ R T (m 69 a1.toNatClampNeg) m) ∧ (a2 = 3 → mz_inb a1 4001 = true ∧ R T (m 70 a1.toNatClampNeg) m) ∧ (¬ a2 = 0 → ¬ a2 = 1 → ¬ a2 = 2 → ¬ a2 = 3 → R T (-1) m)) → mz_gi X mz_sh 145 0 [some (.ref 55), some (.int a1), some (.int a2)] m (fun r' m2 => R T r' m2) := fun T hT =>
    t_M_token_0 _ _ ⟨fun h3 => absurd (e9.trans h3) h0, fun _ => ⟨fun h3 => absurd h3 h1, fun _ => ⟨fun _ => hT, fun h3 => absurd (e1 ▸ h2) h3⟩⟩⟩
  refine ⟨fun g => ⟨hin, hB _ ?_⟩, fun g => ⟨hin, hB _ ?_⟩, fun g => ⟨hin, hB _ ?_⟩, fun g => ⟨hin, hB _ ?_⟩, fun g0 g1 g2 g3 => hB _ ?_⟩
  · subst g
    exact ⟨fun _ => ⟨hin, by rw [e3]; exact hR _⟩, fun g => absurd g (by decide), fun g => absurd g (by decide), fun g => absurd g (by decide), fun g => absurd rfl g⟩
  · subst g
    exact ⟨fun g => absurd g (by decide), fun _ => ⟨hin, by rw [e4]; exact hR _⟩, fun g => absurd g (by decide), fun g => absurd g (by decide), fun _ g => absurd rfl g⟩
  · subst g
    exact ⟨fun g => absurd g (by decide), fun g => absurd g (by decide), fun _ => ⟨hin, by rw [e5]; exact hR _⟩, fun g => absurd g (by decide), fun _ _ g => absurd rfl g⟩
  · subst g
    exact ⟨fun g => absurd g (by decide), fun g => absurd g (by decide), fun g => absurd g (by decide), fun _ => ⟨hin, by rw [e6]; exact hR _⟩, fun _ _ _ g => absurd rfl g⟩
  · exact ⟨fun g => absurd g g0, fun g => absurd g g1, fun g => absurd g g2, fun g => absurd g g3, fun _ _ _ _ => hR _⟩
theorem k_slots {X : mz_X} {m : mz_M} {R : Int32 → Int32 → mz_M → Prop} (h : r_tok m) (hR : ∀ r, R r r m) : mz_gi X mz_sh 104 0 [some (.ref 0)] m (fun r m1 => mz_gi X mz_sh 146 0 [some (.ref 55)] m1 (fun r' m2 => R r r' m2)) := by
  obtain ⟨e1, e2, e3, e4, e5, e6, e7, e8, e9, e10, e11⟩ := h
  refine t_A_slots_0 ⟨fun h0 => t_M_slots_0 ⟨fun _ => hR _, fun h1 => absurd (e9 ▸ h0) h1⟩, fun h0 => t_M_slots_0 ⟨fun h1 => absurd (e9.trans h1) h0, fun _ => ?_⟩⟩
  rw [e2]
  exact hR _
theorem k_reduced {X : mz_X} {m : mz_M} {a1 : Int32} {R : Int32 → Int32 → mz_M → Prop} (h : r_red m) (hR : ∀ r, R r r m) : mz_gi X mz_sh 106 0 [some (.ref 0), some (.int a1)] m (fun r m1 => mz_gi X mz_sh 161 0 [some (.ref 55), some (.int a1)] m1 (fun r' m2 => R r r' m2)) := by
  obtain ⟨e1, e2, c, hc, e3⟩ := h
  refine t_A_reduced_0 _ ⟨fun h0 => t_M_reduced_0 _ ⟨fun _ => by rw [e1]; exact hR _, fun h1 => absurd h0 h1⟩, fun h0 => ⟨fun h1 => t_M_reduced_0 _ ⟨fun h2 => absurd h2 h0, fun _ => ⟨fun _ => hR _, fun h2 => absurd h1 h2⟩⟩, fun h1 => ⟨fun h2 => t_M_reduced_0 _ ⟨fun h3 => absurd h3 h0, fun _ => ⟨fun h3 => absurd h3 h1, fun _ => ⟨fun h3 => absurd (e1 ▸ h2) (Int32.not_le.mpr h3), fun _ => hR _⟩⟩⟩, fun h2 => ?_⟩⟩⟩
  have hlt : a1 < nI c := by rw [← e3]; exact Int32.not_le.mp h2
  have hin := mz_inbC h1 hlt (by omega)
  refine ⟨mz_inbW hin hc, t_M_reduced_0 _ ⟨fun h3 => absurd h3 h0, fun _ => ⟨fun h3 => absurd h3 h1, fun _ => ⟨fun _ => ⟨mz_inbW hin (by omega), by rw [e2]; exact hR _⟩, fun h3 => absurd (by rw [← e1, e3]; exact hlt) h3⟩⟩⟩⟩
theorem k_ran {X : mz_X} {m : mz_M} {a1 : Int32} {R : Int32 → Int32 → mz_M → Prop} (h : r_run m) (hR : ∀ r, R r r m) : mz_gi X mz_sh 113 0 [some (.ref 0), some (.int a1)] m (fun r m1 => mz_gi X mz_sh 189 0 [some (.ref 55), some (.int a1)] m1 (fun r' m2 => R r r' m2)) := by
  obtain ⟨e1, e2, e3, e4, e5⟩ := h
  refine t_A_ran_0 _ ⟨fun h0 => t_M_ran_0 _ ⟨fun _ => hR _, fun h1 => absurd (e1 ▸ h0) h1⟩, fun h0 => ?_⟩
  obtain ⟨q1, q2, q3, q4⟩ := e5 (e2.resolve_left h0)
  have hB : ∀ T, ((a1 = 0 → R T (m 55 57) m) ∧ (a1 = 1 → R T (m 55 59) m) ∧ (a1 = 2 → R T (m 55 61) m) ∧ (a1 = 3 → R T (m 55 60) m) ∧ (¬ a1 = 0 → ¬ a1 = 1 → ¬ a1 = 2 → ¬ a1 = 3 → R T (-1) m)) → mz_gi X mz_sh 189 0 [some (.ref 55), some (.int a1)] m (fun r' m2 => R T r' m2) := fun T hT =>
    t_M_ran_0 _ ⟨fun h3 => absurd (e1.trans h3) h0, fun _ => hT⟩
  refine ⟨fun g => hB _ ?_, fun g => hB _ ?_, fun g => hB _ ?_, fun g => hB _ ?_, fun g0 g1 g2 g3 => hB _ ?_⟩
  · subst g
    exact ⟨fun _ => by rw [q1]; exact hR _, fun g => absurd g (by decide), fun g => absurd g (by decide), fun g => absurd g (by decide), fun g => absurd rfl g⟩
  · subst g
    exact ⟨fun g => absurd g (by decide), fun _ => by rw [q2]; exact hR _, fun g => absurd g (by decide), fun g => absurd g (by decide), fun _ g => absurd rfl g⟩
  · subst g
    exact ⟨fun g => absurd g (by decide), fun g => absurd g (by decide), fun _ => by rw [q4]; exact hR _, fun g => absurd g (by decide), fun _ _ g => absurd rfl g⟩
  · subst g
    exact ⟨fun g => absurd g (by decide), fun g => absurd g (by decide), fun g => absurd g (by decide), fun _ => by rw [q3]; exact hR _, fun _ _ _ g => absurd rfl g⟩
  · exact ⟨fun g => absurd g g0, fun g => absurd g g1, fun g => absurd g g2, fun g => absurd g g3, fun _ _ _ _ => hR _⟩
theorem k_out {X : mz_X} {m : mz_M} {a1 : Int32} {R : Int32 → Int32 → mz_M → Prop} (h : r_run m) (hR : ∀ r, R r r m) : mz_gi X mz_sh 114 0 [some (.ref 0), some (.int a1)] m (fun r m1 => mz_gi X mz_sh 190 0 [some (.ref 55), some (.int a1)] m1 (fun r' m2 => R r r' m2)) := by
  obtain ⟨e1, e2, e3, e4, e5⟩ := h
  refine t_A_out_0 _ ⟨fun h0 => t_M_out_0 _ ⟨fun _ => hR _, fun h1 => absurd (e1 ▸ h0) h1⟩, fun h0 => ?_⟩
  obtain ⟨q1, q2, q3, q4⟩ := e5 (e2.resolve_left h0)
  have hk : ¬ m 55 56 = 0 := fun h3 => h0 (e1.trans h3)
  refine t_R_printedValue_0 _ ⟨fun h1 => t_M_out_0 _ ⟨fun h3 => absurd h3 hk, fun _ => ⟨fun _ => hR _, fun h3 => absurd h1 h3⟩⟩, fun h1 => ⟨fun h2 => t_M_out_0 _ ⟨fun h3 => absurd h3 hk, fun _ => ⟨fun h3 => absurd h3 h1, fun _ => ⟨fun _ => hR _, fun h3 => absurd (q4 ▸ h2) h3⟩⟩⟩, fun h2 => ⟨fun h4 => t_M_out_0 _ ⟨fun h3 => absurd h3 hk, fun _ => ⟨fun h3 => absurd h3 h1, fun _ => ⟨fun h3 => absurd (q4 ▸ h3) h2, fun _ => ⟨fun h3 => absurd h4 (Int32.not_le.mpr h3), fun _ => hR _⟩⟩⟩⟩, fun h4 => ?_⟩⟩⟩
  have hlt : a1 < nI 1000 := Int32.not_le.mp h4
  have hin := mz_inbC h1 hlt (by decide)
  exact ⟨hin, t_M_out_0 _ ⟨fun h3 => absurd h3 hk, fun _ => ⟨fun h3 => absurd h3 h1, fun _ => ⟨fun h3 => absurd (q4 ▸ h3) h2, fun _ => ⟨fun _ => ⟨hin, by rw [e3]; exact hR _⟩, fun h3 => absurd hlt h3⟩⟩⟩⟩⟩
theorem k_value {X : mz_X} {m : mz_M} {a1 : Int32} {R : Int32 → Int32 → mz_M → Prop} (h : r_run m) (hR : ∀ r, R r r m) : mz_gi X mz_sh 115 0 [some (.ref 0), some (.int a1)] m (fun r m1 => mz_gi X mz_sh 191 0 [some (.ref 55), some (.int a1)] m1 (fun r' m2 => R r r' m2)) := by
  obtain ⟨e1, e2, e3, e4, e5⟩ := h
  refine t_A_value_0 _ ⟨fun h0 => t_M_value_0 _ ⟨fun _ => hR _, fun h1 => absurd (e1 ▸ h0) h1⟩, fun h0 => ?_⟩
  have hk : ¬ m 55 56 = 0 := fun h3 => h0 (e1.trans h3)
  refine t_R_load_0 _ ⟨fun h1 => t_M_value_0 _ ⟨fun h3 => absurd h3 hk, fun _ => ⟨fun _ => hR _, fun h3 => absurd h1 h3⟩⟩, fun h1 => ⟨fun h4 => t_M_value_0 _ ⟨fun h3 => absurd h3 hk, fun _ => ⟨fun h3 => absurd h3 h1, fun _ => ⟨fun h3 => absurd h4 (Int32.not_le.mpr h3), fun _ => hR _⟩⟩⟩, fun h4 => ?_⟩⟩
  have hlt : a1 < nI 32 := Int32.not_le.mp h4
  have hin := mz_inbC h1 hlt (by decide)
  exact ⟨hin, t_M_value_0 _ ⟨fun h3 => absurd h3 hk, fun _ => ⟨fun h3 => absurd h3 h1, fun _ => ⟨fun _ => ⟨hin, by rw [e4]; exact hR _⟩, fun h3 => absurd hlt h3⟩⟩⟩⟩
