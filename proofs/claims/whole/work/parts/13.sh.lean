/-- the shapes of all cells, once the law has made its two objects: cells 0 .. 54 the class, 55 .. 99 the reference -/
def mz_sh : List mz_K := [.inr (9, [some (some 1), none, some (some 2), some (some 9), some (some 30), some (some 37), none, some (some 41), none, some (some 46), some (some 47), some (some 50), some (some 53)]), .inl (.int, 4000), .inr (6, [some (some 3), some (some 4), some (some 5), some (some 6), none, none, none, some (some 7), some (some 8), some (some 1), none]), .inl (.int, 4001), .inl (.int, 4001), .inl (.int, 4001), .inl (.int, 4001), .inl (.int, 32), .inl (.int, 32), .inr (2, [some (some 10), none, some (some 11), some (some 18), some (some 28), some (some 29), none]), .inl (.int, 16016), .inr (7, [some (some 12), some (some 13), some (some 14), some (some 15), some (some 16), none, some (some 17)]), .inl (.int, 4001), .inl (.int, 4001), .inl (.int, 4001), .inl (.int, 4001), .inl (.int, 4001), .inl (.int, 4001), .inr (5, [some (some 19), some (some 20), some (some 21), some (some 22), some (some 23), some (some 24), some (some 25), none, some (some 26), none, some (some 27), none]), .inl (.int, 2304), .inl (.int, 32), .inl (.int, 32), .inl (.int, 36), .inl (.int, 36), .inl (.int, 512), .inl (.int, 64), .inl (.int, 8), .inl (.int, 109), .inl (.int, 8004), .inl (.int, 8004), .inr (7, [some (some 31), some (some 32), some (some 33), some (some 34), some (some 35), none, some (some 36)]), .inl (.int, 4001), .inl (.int, 4001), .inl (.int, 4001), .inl (.int, 4001), .inl (.int, 4001), .inl (.int, 4001), .inr (3, [some (some 38), none, some (some 39), some (some 40)]), .inl (.int, 4001), .inl (.int, 4001), .inl (.int, 4001), .inr (0, [some (some 42), some (some 43), none, some (some 44), some (some 45)]), .inl (.int, 8001), .inl (.int, 8001), .inl (.int, 4001), .inl (.int, 4001), .inl (.int, 32), .inr (4, [none, none, none, none, none, none, some (some 48), some (some 49)]), .inl (.int, 1000), .inl (.int, 32), .inr (8, [some (some 30), some (some 37), some (some 2), some (some 47), some (some 51), some (some 52), none, none]), .inl (.int, 200), .inl (.int, 200), .inr (1, [some (some 41), some (some 47), some (some 54), none]), .inl (.int, 208), .inr (10, [some (some 56), some (some 57), some (some 58), some (some 59), some (some 60), some (some 61), some (some 62), none, some (some 63), some (some 64), some (some 65), some (some 66), none, none, some (some 67), some (some 68), some (some 69), some (some 70), none, some (some 71), some (some 72), none, some (some 73), some (some 74), none, some (some 75), none, some (some 76), some (some 77), some (some 78), some (some 79), some (some 80), some (some 81), none, none, some (some 82), some (some 83), some (some 84), some (some 85), some (some 86), some (some 87), some (some 88), some (some 89), none, none, some (some 90), some (some 91), none, some (some 92), some (some 93), some (some 94), some (some 95), some (some 96), some (some 97), some (some 98), none, none, none, none, none, none, none, some (some 99)]), .inl (.int, 32), .inl (.int, 32), .inl (.int, 77), .inl (.int, 33), .inl (.int, 33), .inl (.boolean, 13080), .inl (.int, 4320), .inl (.boolean, 109), .inl (.boolean, 900), .inl (.boolean, 900), .inl (.int, 4000), .inl (.int, 4001), .inl (.int, 4001), .inl (.int, 4001), .inl (.int, 4001), .inl (.int, 32), .inl (.int, 32), .inl (.int, 8100), .inl (.int, 8100), .inl (.int, 60000), .inl (.int, 12100), .inl (.int, 12100), .inl (.int, 12100), .inl (.int, 12100), .inl (.int, 12100), .inl (.int, 12100), .inl (.int, 12100), .inl (.int, 12100), .inl (.int, 12100), .inl (.int, 12100), .inl (.int, 12100), .inl (.int, 12100), .inl (.int, 12100), .inl (.int, 12100), .inl (.int, 60100), .inl (.int, 60100), .inl (.int, 12100), .inl (.int, 12100), .inl (.int, 12100), .inl (.int, 12100), .inl (.int, 32), .inl (.int, 32), .inl (.int, 12200), .inl (.int, 1000)]
def mz_gi (X : mz_X) (sh : List mz_K) (i pc : Nat) (L : mz_L) (m : mz_M) (Q : Int32 → mz_M → Prop) : Prop := mz_go X i pc L [] sh m (fun v sh' m' => ∃ r, v = some (.int r) ∧ sh' = sh ∧ Q r m')
def mz_gv (X : mz_X) (sh : List mz_K) (i pc : Nat) (L : mz_L) (m : mz_M) (Q : mz_M → Prop) : Prop := mz_go X i pc L [] sh m (fun v sh' m' => v = none ∧ sh' = sh ∧ Q m')
def mz_gr (X : mz_X) (sh : List mz_K) (i pc : Nat) (L : mz_L) (m : mz_M) (Q : Nat → mz_M → Prop) : Prop := mz_go X i pc L [] sh m (fun v sh' m' => ∃ r, v = some (.ref r) ∧ sh' = sh ∧ Q r m')
theorem mz_gi.mono {X : mz_X} {sh : List mz_K} {i pc : Nat} {L : mz_L} {m : mz_M} {Q Q' : Int32 → mz_M → Prop} (h : mz_gi X sh i pc L m Q) (hq : ∀ r m', Q r m' → Q' r m') : mz_gi X sh i pc L m Q' :=
  mz_go.mono h (fun v sh' m' ⟨r, h1, h2, h3⟩ => ⟨r, h1, h2, hq r m' h3⟩)
theorem mz_gv.mono {X : mz_X} {sh : List mz_K} {i pc : Nat} {L : mz_L} {m : mz_M} {Q Q' : mz_M → Prop} (h : mz_gv X sh i pc L m Q) (hq : ∀ m', Q m' → Q' m') : mz_gv X sh i pc L m Q' :=
  mz_go.mono h (fun v sh' m' ⟨h1, h2, h3⟩ => ⟨h1, h2, hq m' h3⟩)
theorem mz_gr.mono {X : mz_X} {sh : List mz_K} {i pc : Nat} {L : mz_L} {m : mz_M} {Q Q' : Nat → mz_M → Prop} (h : mz_gr X sh i pc L m Q) (hq : ∀ r m', Q r m' → Q' r m') : mz_gr X sh i pc L m Q' :=
  mz_go.mono h (fun v sh' m' ⟨r, h1, h2, h3⟩ => ⟨r, h1, h2, hq r m' h3⟩)
theorem mz_and2 {a b : Bool} (h1 : a = true) (h2 : b = true) : (a && b) = true := by rw [h1, h2]; rfl
theorem mz_b01 {v : Int32} (h : v = 0 ∨ v = 1) : (decide (v = 0) || decide (v = 1)) = true := by rcases h with h | h <;> rw [h] <;> rfl
theorem mz_ne0 {v : Int32} (h : ¬ v = 0) : (!decide (v = 0)) = true := by rw [decide_eq_false h]; rfl
theorem mz_cpg {a b c : Int32} {x y z w : Nat} (h : 0 ≤ a ∧ 0 ≤ b ∧ 0 ≤ c ∧ x ≤ y ∧ z ≤ w) : (decide (0 ≤ a) && (decide (0 ≤ b) && (decide (0 ≤ c) && (decide (x ≤ y) && decide (z ≤ w))))) = true := by
  simp only [h.1, h.2.1, h.2.2.1, h.2.2.2.1, h.2.2.2.2, decide_true, Bool.and_self]
theorem mz_rtb {v : Int32} (h : v = 0 ∨ v = 1) : mz_rt (some .boolean) .ireturn [.int v] = some (some (some (.int v))) := by rcases h with h | h <;> rw [h] <;> rfl
theorem mz_rtchar {v : Int32} (h : narrow .char (.int v) = .int v) : mz_rt (some .char) .ireturn [.int v] = some (some (some (.int v))) := by
  simp only [mz_rt, h, decide_true, cond_true]
theorem mz_rtbyte {v : Int32} (h : narrow .byte (.int v) = .int v) : mz_rt (some .byte) .ireturn [.int v] = some (some (some (.int v))) := by
  simp only [mz_rt, h, decide_true, cond_true]
theorem mz_tI {x y : Int32} (h : x.toInt = y.toInt) : x = y := Int32.toInt_inj.mp h
/-- a switch goes on at its default -/
theorem mz_tswd (pc : Nat) (d lo hi : Int) (offs : Array Int) (x : Int32) (t : Nat) (hd : ((pc : Int) + d).toNat = t ∧ (offs.size : Int) = hi - lo + 1) (h : ∀ k : Nat, k < offs.size → x.toInt = lo + (k : Int) → (match offs[k]? with | some o => ((pc : Int) + o).toNat | none => 0) = t) : mz_tsw pc d lo hi offs x = t := by
  unfold mz_tsw
  by_cases h1 : x.toInt < lo
  · rw [if_pos h1]; exact hd.1
  · rw [if_neg h1]
    by_cases h2 : hi < x.toInt
    · rw [if_pos h2]; exact hd.1
    · rw [if_neg h2]
      exact h (x.toInt - lo).toNat (by omega) (by omega)
theorem mz_lko2 (d x : Int) (ps : List (Int × Int)) (h : ps.all (fun q => decide (¬ x = q.1)) = true) : Op.lookupswitch.offset ps d x = d := by
  induction ps with
  | nil => rfl
  | cons q t ih =>
    simp only [List.all_cons, Bool.and_eq_true, decide_eq_true_eq] at h
    simp only [Op.lookupswitch.offset]
    split
    · rename_i h2
      first | exact absurd h2 h.1 | exact absurd h2.symm h.1 | (simp only [beq_iff_eq] at h2; first | exact absurd h2 h.1 | exact absurd h2.symm h.1)
    · first | exact ih h.2 | (split <;> first | rfl | exact ih h.2)
theorem mz_lswd (pc : Nat) (ps : Array (Int × Int)) (d : Int) (x : Int32) (h : ps.toList.all (fun q => decide (¬ x.toInt = q.1)) = true) {t : Nat} (hd : ((pc : Int) + d).toNat = t) : ((pc : Int) + Op.lookupswitch.offset ps.toList d x.toInt).toNat = t := by
  rw [mz_lko2 d x.toInt ps.toList h]
  exact hd
