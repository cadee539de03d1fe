/-! the class's code: the words -/
def z_wf (f : Nat → Nat × Int32 × Nat) (m : mz_M) (S : Nat → Prop) : Prop := ∀ q, S q → m 42 q = nI (f q).1 ∧ m 43 q = (f q).2.1
theorem z_wf.mono {f : Nat → Nat × Int32 × Nat} {m : mz_M} {S S' : Nat → Prop} (h : z_wf f m S) (hs : ∀ q, S' q → S q) : z_wf f m S' := fun q hq => h q (hs q hq)
theorem s_C_put {X : mz_X} {m : mz_M} {Q : mz_M → Prop} {f : Nat → Nat × Int32 × Nat} {S : Nat → Prop} {p o d : Nat} {v : Int32} (hp : p ≤ 8000) (hfp : f p = (o, v, d)) (hw : z_wf f m S) (hQ : ∀ m', z_fr [42, 43] m m' → z_wf f m' (fun q => S q ∨ q = p) → Q m') : mz_gv X mz_sh 13 0 [some (.ref 41), some (.int (nI p)), some (.int (nI o)), some (.int v)] m Q := by
  have hin : mz_inb (nI p) 8001 = true := mz_inbN (by omega) (by decide)
  refine t_C_put_0 _ _ _ ⟨fun g => absurd g (nI_pos (by omega)), fun _ => ⟨fun g => absurd g (nI_ge (b := 8001) (by omega) (by decide)), fun _ => ⟨hin, hin, ?_⟩⟩⟩
  rw [nI_clamp (by omega)]
  refine hQ _ (((z_fr.rf _ _).up (by decide)).up (by decide)) (fun q hq => ?_)
  rw [mz_up_n _ _ _ (by decide : (42 : Nat) ≠ 43), mz_up_k, mz_up_k, mz_up_n _ _ _ (by decide : (43 : Nat) ≠ 42)]
  by_cases e : q = p
  · subst e
    rw [hfp]
    simp [upd]
  · rcases hq with hq | hq
    · simp only [upd, e, if_false]
      exact hw q hq
    · exact absurd hq e
theorem s_C_endOf {X : mz_X} {m : mz_M} {Q : Int32 → mz_M → Prop} {i a b : Nat} (hi : i < 4001) (h1 : m 44 i = nI a) (h2 : m 45 i = nI b) (hQ : Q (nI (a + b)) m) : mz_gi X mz_sh 12 0 [some (.ref 41), some (.int (nI i))] m Q := by
  have hin : mz_inb (nI i) 4001 = true := mz_inbN (by omega) (by decide)
  refine t_C_endOf_0 _ ⟨fun g => absurd g (nI_pos (by omega)), fun _ => ⟨fun g => absurd g (nI_ge (b := 4001) (by omega) (by decide)), fun _ => ⟨hin, hin, ?_⟩⟩⟩
  rw [nI_clamp (by omega), h1, h2, nI_add]
  exact hQ
theorem s_C_startOf {X : mz_X} {m : mz_M} {Q : Int32 → mz_M → Prop} {i a : Nat} (hi : i < 4001) (h1 : m 44 i = nI a) (hQ : Q (nI a) m) : mz_gi X mz_sh 11 0 [some (.ref 41), some (.int (nI i))] m Q := by
  have hin : mz_inb (nI i) 4001 = true := mz_inbN (by omega) (by decide)
  refine t_C_startOf_0 _ ⟨fun g => absurd g (nI_pos (by omega)), fun _ => ⟨fun g => absurd g (nI_ge (b := 4001) (by omega) (by decide)), fun _ => ⟨hin, ?_⟩⟩⟩
  rw [nI_clamp (by omega), h1]
  exact hQ
theorem nI_sub {a b : Nat} (h : b ≤ a) : nI a - nI b = nI (a - b) := by
  obtain ⟨c, rfl⟩ : ∃ c, a = c + b := ⟨a - b, by omega⟩
  rw [Nat.add_sub_cancel, ← nI_add]
  exact Int32.add_sub_cancel _ _
theorem mz_a2k : ∀ k, k < 20 → (k = 1 → mz_a2.getD k 0 = nI 2) ∧ (k = 2 → mz_a2.getD k 0 = nI 15) ∧ (9 ≤ k → k ≤ 15 → mz_a2.getD k 0 = nI (z_kw k)) ∧ (16 ≤ k → k ≤ 17 → mz_a2.getD k 0 = nI (k - 6)) ∧ (k = 18 → mz_a2.getD k 0 = nI 1) ∧ (k = 19 → mz_a2.getD k 0 = nI 0) := by decide +kernel
