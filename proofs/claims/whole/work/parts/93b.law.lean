/-! the law's loop -/
theorem s_L_law {L : Nat} {xs : Nat → Int32} {Q : Int32 → mz_M → Prop} (hL : L ≤ 2048) (hQ : ∀ m, Q 1 m) : ∀ (n i : Nat) (m : mz_M), L - i ≤ n → i ≤ 2052 → z_rel m → mz_gi (L, xs) mz_sh 0 18 [some (.ref 350), some (.ref 0), some (.ref 55), some (.int (nI i))] m Q := by
  have small : ∀ l, l < 4 → nI l - 4 < 0 := by decide +kernel
  have fin : ∀ (i : Nat) (m : mz_M), i ≤ 2052 → ¬ i + 4 ≤ L → mz_gi (L, xs) mz_sh 0 18 [some (.ref 350), some (.ref 0), some (.ref 55), some (.int (nI i))] m Q := by
    intro i m hi hg
    refine t_L_law_1 _ ⟨fun _ => hQ m, fun g => absurd ?_ g⟩
    show nI L - 4 < nI i
    rcases Nat.lt_or_ge L 4 with g4 | g4
    · exact Int32.lt_of_lt_of_le (small L g4) (nI_pos' (by omega))
    · rw [show (4 : Int32) = nI 4 from rfl, nI_sub g4]
      exact nI_lt (by omega) (by omega)
  intro n
  induction n with
  | zero =>
    intro i m hn hi hr
    exact fin i m hi (by omega)
  | succ n ih =>
    intro i m hn hi hr
    by_cases hg : i + 4 ≤ L
    · have next : ∀ (r : Int32) (m' : mz_M), z_rel m' → (r = r → mz_gi (L, xs) mz_sh 0 18 [some (.ref 350), some (.ref 0), some (.ref 55), some (.int (nI i + 4))] m' Q) ∧ (¬ r = r → Q 0 m') := fun r m' hm' => by
        refine ⟨fun _ => ?_, fun g => absurd rfl g⟩
        have e : nI i + 4 = nI (i + 4) := nI_add i 4
        rw [e]
        exact ih (i + 4) m' (by omega) (by omega) hm'
      have hr' := hr
      obtain ⟨g1, g2, g3, g4, g5, g6, g7, g8⟩ := hr'
      have in0 : mz_inb (nI i) L = true := mz_inbN (by omega) (by omega)
      have in1 : mz_inb (nI i + 1) L = true := by rw [nI_1]; exact mz_inbN (by omega) (by omega)
      have in2 : mz_inb (nI i + 2) L = true := by rw [nI_p2]; exact mz_inbN (by omega) (by omega)
      have in3 : mz_inb (nI i + 3) L = true := by rw [nI_p3]; exact mz_inbN (by omega) (by omega)
      refine t_L_law_1 _ ⟨fun g => ?_, fun _ => ⟨in0, ?_⟩⟩
      · exfalso
        have g' : nI L - 4 < nI i := g
        rw [show (4 : Int32) = nI 4 from rfl, nI_sub (by omega)] at g'
        exact absurd g' (nI_nlt (by omega) (by omega))
      have kill : ∀ x : Int32, ¬ x &&& 15 = 0 → ¬ x &&& 15 = 1 → ¬ x &&& 15 = 2 → ¬ x &&& 15 = 3 → ¬ x &&& 15 = 4 → ¬ x &&& 15 = 5 → ¬ x &&& 15 = 6 → ¬ x &&& 15 = 7 → ¬ x &&& 15 = 8 → ¬ x &&& 15 = 9 → ¬ x &&& 15 = 10 → ¬ x &&& 15 = 11 → ¬ x &&& 15 = 12 → ¬ x &&& 15 = 13 → ¬ x &&& 15 = 14 → ¬ x &&& 15 = 15 → mz_gi (L, xs) mz_sh 0 18 [some (.ref 350), some (.ref 0), some (.ref 55), some (.int (nI i + 4))] m Q := fun x _ _ _ _ _ _ _ _ _ _ _ _ _ _ _ _ => (next 0 m hr).1 rfl
      refine ⟨fun _ => ⟨in1, in2, in3, ?_⟩, fun _ => ?_, fun _ => ?_, fun _ => ⟨in1, in2, ?_⟩, fun _ => ?_, fun _ => ?_, fun _ => ⟨in1, ?_⟩, fun _ => ⟨in1, in2, ?_⟩, fun _ => ?_, fun _ => ⟨in1, in2, ?_⟩, fun _ => ⟨in1, in2, ?_⟩, fun _ => ⟨in1, ?_⟩, fun _ => ⟨in1, ?_⟩, fun _ => ⟨in1, ?_⟩, fun _ => ⟨in1, ?_⟩, fun _ => ⟨in1, ?_⟩, kill _⟩
      · exact (k_feed hr (R := fun r r' m2 => (r = r' → mz_gi (L, xs) mz_sh 0 18 [some (.ref 350), some (.ref 0), some (.ref 55), some (.int (nI i + 4))] m2 Q) ∧ (¬ r = r' → Q 0 m2)) next).mono (fun r m1 h => ⟨in1, in2, in3, h⟩)
      · exact k_clear hr (R := fun r r' m2 => (r = r' → mz_gi (L, xs) mz_sh 0 18 [some (.ref 350), some (.ref 0), some (.ref 55), some (.int (nI i + 4))] m2 Q) ∧ (¬ r = r' → Q 0 m2)) next
      · exact k_lex hr (R := fun r r' m2 => (r = r' → mz_gi (L, xs) mz_sh 0 18 [some (.ref 350), some (.ref 0), some (.ref 55), some (.int (nI i + 4))] m2 Q) ∧ (¬ r = r' → Q 0 m2)) next
      · exact (k_token g3 (R := fun r r' m2 => (r = r' → mz_gi (L, xs) mz_sh 0 18 [some (.ref 350), some (.ref 0), some (.ref 55), some (.int (nI i + 4))] m2 Q) ∧ (¬ r = r' → Q 0 m2)) (fun r => next r m hr)).mono (fun r m1 h => ⟨in1, in2, h⟩)
      · exact k_slots g3 (R := fun r r' m2 => (r = r' → mz_gi (L, xs) mz_sh 0 18 [some (.ref 350), some (.ref 0), some (.ref 55), some (.int (nI i + 4))] m2 Q) ∧ (¬ r = r' → Q 0 m2)) (fun r => next r m hr)
      · exact k_parse hr (R := fun r r' m2 => (r = r' → mz_gi (L, xs) mz_sh 0 18 [some (.ref 350), some (.ref 0), some (.ref 55), some (.int (nI i + 4))] m2 Q) ∧ (¬ r = r' → Q 0 m2)) next
      · exact (k_reduced g4 (R := fun r r' m2 => (r = r' → mz_gi (L, xs) mz_sh 0 18 [some (.ref 350), some (.ref 0), some (.ref 55), some (.int (nI i + 4))] m2 Q) ∧ (¬ r = r' → Q 0 m2)) (fun r => next r m hr)).mono (fun r m1 h => ⟨in1, h⟩)
      · exact (k_node g7 (R := fun r r' m2 => (r = r' → mz_gi (L, xs) mz_sh 0 18 [some (.ref 350), some (.ref 0), some (.ref 55), some (.int (nI i + 4))] m2 Q) ∧ (¬ r = r' → Q 0 m2)) (fun r => next r m hr)).mono (fun r m1 h => ⟨in1, in2, h⟩)
      · exact k_compile hr (R := fun r r' m2 => (r = r' → mz_gi (L, xs) mz_sh 0 18 [some (.ref 350), some (.ref 0), some (.ref 55), some (.int (nI i + 4))] m2 Q) ∧ (¬ r = r' → Q 0 m2)) next
      · exact (k_code g8 (R := fun r r' m2 => (r = r' → mz_gi (L, xs) mz_sh 0 18 [some (.ref 350), some (.ref 0), some (.ref 55), some (.int (nI i + 4))] m2 Q) ∧ (¬ r = r' → Q 0 m2)) (fun r => next r m hr)).mono (fun r m1 h => ⟨in1, in2, h⟩)
      · exact (k_input hr (R := fun r r' m2 => (r = r' → mz_gi (L, xs) mz_sh 0 18 [some (.ref 350), some (.ref 0), some (.ref 55), some (.int (nI i + 4))] m2 Q) ∧ (¬ r = r' → Q 0 m2)) next).mono (fun r m1 h => ⟨in1, in2, h⟩)
      · exact (k_runTree hr (R := fun r r' m2 => (r = r' → mz_gi (L, xs) mz_sh 0 18 [some (.ref 350), some (.ref 0), some (.ref 55), some (.int (nI i + 4))] m2 Q) ∧ (¬ r = r' → Q 0 m2)) next).mono (fun r m1 h => ⟨in1, h⟩)
      · exact (k_runCode hr (R := fun r r' m2 => (r = r' → mz_gi (L, xs) mz_sh 0 18 [some (.ref 350), some (.ref 0), some (.ref 55), some (.int (nI i + 4))] m2 Q) ∧ (¬ r = r' → Q 0 m2)) next).mono (fun r m1 h => ⟨in1, h⟩)
      · exact (k_ran g6 (R := fun r r' m2 => (r = r' → mz_gi (L, xs) mz_sh 0 18 [some (.ref 350), some (.ref 0), some (.ref 55), some (.int (nI i + 4))] m2 Q) ∧ (¬ r = r' → Q 0 m2)) (fun r => next r m hr)).mono (fun r m1 h => ⟨in1, h⟩)
      · exact (k_out g6 (R := fun r r' m2 => (r = r' → mz_gi (L, xs) mz_sh 0 18 [some (.ref 350), some (.ref 0), some (.ref 55), some (.int (nI i + 4))] m2 Q) ∧ (¬ r = r' → Q 0 m2)) (fun r => next r m hr)).mono (fun r m1 h => ⟨in1, h⟩)
      · exact (k_value g6 (R := fun r r' m2 => (r = r' → mz_gi (L, xs) mz_sh 0 18 [some (.ref 350), some (.ref 0), some (.ref 55), some (.int (nI i + 4))] m2 Q) ∧ (¬ r = r' → Q 0 m2)) (fun r => next r m hr)).mono (fun r m1 h => ⟨in1, h⟩)
    · exact fin i m hi hg
