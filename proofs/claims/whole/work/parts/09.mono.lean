theorem mz_ex_mono (X : mz_X) (ins : Instr) (r1 r2 : Nat) (val : Value) (pc : Nat) (L : mz_L) (S : List Value) (sh : List mz_K) (m : mz_M) (g : Bool) (st : mz_S) (h : mz_ex X ins r1 r2 val pc L S sh m = some (g, st)) : sh.length ≤ st.2.2.2.1.length ∧ mz_sl sh ≤ mz_sl st.2.2.2.1 := by
  have hset : ∀ (a : Nat) (ci r j : Nat) (fs : List (Option (Option Nat))), sh[a]? = some (.inr (ci, fs)) → sh.length ≤ (sh.set a (.inr (ci, fs.set r (some (some j))))).length ∧ mz_sl sh ≤ mz_sl (sh.set a (.inr (ci, fs.set r (some (some j))))) := by
    intro a ci r j fs hs
    rw [List.length_set, mz_sl_set hs (by simp [mz_k1])]
    exact ⟨Nat.le_refl _, Nat.le_refl _⟩
  have hpush : ∀ c : mz_K, sh.length ≤ (sh ++ [c]).length ∧ mz_sl sh ≤ mz_sl (sh ++ [c]) := by
    intro c
    rw [List.length_append, mz_sl_push]
    exact ⟨Nat.le_add_right _ _, Nat.le_add_right _ _⟩
  have hsame : sh.length ≤ sh.length ∧ mz_sl sh ≤ mz_sl sh := ⟨Nat.le_refl _, Nat.le_refl _⟩
  unfold mz_ex at h
  cases ins <;> simp only [cond_eq_ite] at h <;> (repeat' split at h) <;> first | (cases h; done) | (cases h; exact hsame) | (cases h; exact hpush _) | (rename_i hs _ _ _ _ _; cases h; exact hset _ _ _ _ _ hs) | (cases h; exact hset _ _ _ _ _ (by assumption))
