/-! what the memory holds once both objects are made: the relation -/
def x_ab (p : Nat → Bool) : Nat → Nat → Bool
  | 0, i => p i
  | k + 1, i => x_ab p k i && x_ab p k (i + 2 ^ k)
theorem x_ab_ok {p : Nat → Bool} : ∀ {k i : Nat}, x_ab p k i = true → ∀ j, i ≤ j → j < i + 2 ^ k → p j = true := by
  intro k
  induction k with
  | zero =>
    intro i h j h1 h2
    have : j = i := by
      rw [Nat.pow_zero] at h2
      omega
    subst this
    exact h
  | succ k ih =>
    intro i h j h1 h2
    simp only [x_ab, Bool.and_eq_true] at h
    rw [Nat.pow_succ] at h2
    rcases Nat.lt_or_ge j (i + 2 ^ k) with g | g
    · exact ih h.1 j h1 g
    · exact ih h.2 j g (by omega)
/-- the row of number a is f: as far as n by trial, behind it nothing -/
def x_cf (a n : Nat) (f : Nat → Nat) : Bool := Nat.blt a (2 ^ (32 * n)) && x_ab (fun j => Nat.ble n j || Nat.beq (x_rd a j) (f j)) 12 0
def x_cg (a n : Nat) (f : Nat → Nat) : Bool := x_fs a (fun a' => x_cf a' n f)
theorem x_cg_ok {a n : Nat} {f : Nat → Nat} (h : x_cg a n f = true) (hn : n ≤ 4096) (hz : ∀ j, n ≤ j → Int32.ofNat (f j) = 0) (j : Nat) : Int32.ofNat (x_rd a j) = Int32.ofNat (f j) := by
  unfold x_cg at h
  rw [x_fs_eq] at h
  unfold x_cf at h
  simp only [Bool.and_eq_true] at h
  obtain ⟨h1, h2⟩ := h
  rw [Nat.blt_eq] at h1
  rcases Nat.lt_or_ge j n with g | g
  · have := x_ab_ok h2 j (Nat.zero_le _) (by rw [show 2 ^ 12 = 4096 from rfl]; omega)
    rw [Bool.or_eq_true] at this
    rcases this with e | e
    · exact absurd (Nat.le_of_ble_eq_true e) (by omega)
    · rw [Nat.eq_of_beq_eq_true e]
  · rw [hz j g]
    have : x_rd a j = 0 := by
      unfold x_rd
      rw [Nat.shiftRight_eq_div_pow, Nat.div_eq_of_lt]
      exact Nat.lt_of_lt_of_le h1 (Nat.pow_le_pow_right (by decide) (by omega))
    rw [this]
    rfl
theorem x_i40 (a : Nat) : Int32.ofInt ((a : Int) - 40) = Int32.ofNat ((a + 4294967256) % 4294967296) := by
  rw [x_of_mod, ← Int32.toInt_inj, Int32.toInt_ofInt, x_toInt, Int.bmod_def, show Int32.size = 4294967296 from rfl]
  omega
theorem x_gn {l : List Nat} {n d : Nat} (h : l.length = n) {j : Nat} (hj : n ≤ j) : l.getD j d = d := by
  rw [List.getD_eq_getElem?_getD, List.getElem?_eq_none (by omega)]
  rfl
theorem x_a0z : ∀ k, k < 36 → (z_a0 >>> (11 * k)) % 2048 = 40 := by decide +kernel
theorem x_lz : z_aL.length = 63 ∧ z_gL.length = 63 ∧ z_sL.length = 63 ∧ z_fL.length = 11 ∧ z_loL.length = 32 ∧ z_leL.length = 32 ∧ z_roL.length = 77 ∧ z_raL.length = 33 ∧ z_iaL.length = 33 := by decide +kernel
def x_f19 (j : Nat) : Nat := (((z_aL.getD (j / 36) z_a0) >>> (11 * (j % 36))) % 2048 + 4294967256) % 4294967296
theorem x_c19 : x_cg (x_sE.getD 19 0) 2304 x_f19 = true := by decide +kernel
theorem x_m19 : x_dm x_sE 19 = fun j => Int32.ofInt (z_act (j / 36) (j % 36)) := by
  funext j
  show Int32.ofNat (x_rd (x_sE.getD 19 0) j) = _
  rw [x_cg_ok x_c19 (by decide) (fun j hj => ?_)]
  · exact (x_i40 _).symm
  · unfold x_f19
    rw [x_gn x_lz.1 (by omega), x_a0z _ (Nat.mod_lt _ (by decide))]
    rfl
def x_fl1 (l : List Nat) (j : Nat) : Nat := l.getD j 0
theorem x_mfl {q n : Nat} {l : List Nat} (h : x_cg (x_sE.getD q 0) n (x_fl1 l) = true) (hn : n ≤ 4096) (hl : l.length = n) : x_dm x_sE q = fun j => nI (l.getD j 0) := by
  funext j
  show Int32.ofNat (x_rd (x_sE.getD q 0) j) = _
  rw [x_cg_ok h hn (fun j hj => ?_)]
  · rfl
  · unfold x_fl1
    rw [x_gn hl hj]
    rfl
theorem x_c21 : x_cg (x_sE.getD 21 0) 32 (x_fl1 z_loL) = true := by decide +kernel
theorem x_c56 : x_cg (x_sE.getD 56 0) 32 (x_fl1 z_leL) = true := by decide +kernel
theorem x_c57 : x_cg (x_sE.getD 57 0) 32 (x_fl1 z_loL) = true := by decide +kernel
theorem x_c58 : x_cg (x_sE.getD 58 0) 77 (x_fl1 z_roL) = true := by decide +kernel
theorem x_c59 : x_cg (x_sE.getD 59 0) 33 (x_fl1 z_raL) = true := by decide +kernel
theorem x_c60 : x_cg (x_sE.getD 60 0) 33 (x_fl1 z_iaL) = true := by decide +kernel
def x_f65 (j : Nat) : Nat := bif (z_fL.getD (j / 25) 0).testBit (j % 25) then 1 else 0
theorem x_c65 : x_cg (x_sE.getD 65 0) 900 x_f65 = true := by decide +kernel
theorem x_m65 : x_dm x_sE 65 = fun j => z_b ((z_fL.getD (j / 25) 0).testBit (j % 25)) := by
  funext j
  show Int32.ofNat (x_rd (x_sE.getD 65 0) j) = _
  rw [x_cg_ok x_c65 (by decide) (fun j hj => ?_)]
  · unfold x_f65
    cases (z_fL.getD (j / 25) 0).testBit (j % 25) <;> rfl
  · unfold x_f65
    rw [x_gn x_lz.2.2.2.1 (by omega), Nat.zero_testBit]
    rfl
theorem x_tbE : x_tb (x_dm x_sE) := ⟨x_mfl x_c56 (by decide) x_lz.2.2.2.2.2.1, x_mfl x_c57 (by decide) x_lz.2.2.2.2.1, x_mfl x_c58 (by decide) x_lz.2.2.2.2.2.2.1, x_mfl x_c59 (by decide) x_lz.2.2.2.2.2.2.2.1, x_mfl x_c60 (by decide) x_lz.2.2.2.2.2.2.2.2⟩
/-- cells that hold nothing -/
def x_zl : List Nat := [0, 1, 2, 3, 4, 5, 6, 7, 8, 9, 10, 46, 48, 49, 55, 61, 62, 63, 66, 67, 68, 69, 70, 71, 72, 75, 96, 97, 99]
theorem x_zc : x_zl.all (fun q => Nat.beq (x_sE.getD q 0) 0) = true := by decide +kernel
theorem x_zq {q : Nat} (h : q ∈ x_zl) : x_dm x_sE q = fun _ => 0 := by
  funext j
  show Int32.ofNat (x_rd (x_sE.getD q 0) j) = 0
  rw [Nat.eq_of_beq_eq_true (List.all_eq_true.mp x_zc q h), x_rd0]
  rfl
theorem x_47 : x_dm x_sE 47 0 = 0 := by decide +kernel
theorem x_mz : x_dm x_sE = x_mm (x_dm x_sE) 0 0 0 0 := by
  funext q j
  unfold x_mm
  by_cases e1 : q = 63
  · subst e1
    rw [if_pos rfl, x_zq (by decide), Nat.zero_testBit]
    rfl
  · rw [if_neg e1]
    by_cases e2 : q = 61
    · subst e2
      rw [if_pos rfl, x_zq (by decide)]
      show (0 : Int32) = z_b (decide (j < 0) && _)
      rw [show decide (j < 0) = false from by rw [decide_eq_false_iff_not]; omega, Bool.false_and]
      rfl
    · rw [if_neg e2]
      by_cases e3 : q = 62
      · subst e3
        rw [if_pos rfl, x_zq (by decide)]
        show (0 : Int32) = if j < 0 then _ else 0
        rw [if_neg (by omega)]
      · rw [if_neg e3]
        by_cases e4 : q = 55
        · subst e4
          rw [if_pos rfl, x_zq (by decide)]
          show (0 : Int32) = if j = 7 then nI 0 else 0
          split <;> rfl
        · rw [if_neg e4]
theorem x_rel (W : Nat) : z_rel (x_mm (x_dm x_sE) W (109 * 63) (36 * 63) 63) := by
  have hz : ∀ q, q ∈ x_zl → q ≠ 63 → q ≠ 61 → q ≠ 62 → q ≠ 55 → x_mm (x_dm x_sE) W (109 * 63) (36 * 63) 63 q = fun _ => 0 := fun q h1 h2 h3 h4 h5 => by
    unfold x_mm
    rw [if_neg h2, if_neg h3, if_neg h4, if_neg h5]
    exact x_zq h1
  have h55 : ∀ j, j ≠ 7 → x_mm (x_dm x_sE) W (109 * 63) (36 * 63) 63 55 j = 0 := fun j hj => by
    show upd (x_dm x_sE 55) 7 (nI 63) j = 0
    unfold upd
    rw [if_neg hj, x_zq (by decide)]
  have h47 : x_mm (x_dm x_sE) W (109 * 63) (36 * 63) 63 47 0 = 0 := x_47
  have z0 := hz 0 (by decide) (by decide) (by decide) (by decide) (by decide)
  have z2 := hz 2 (by decide) (by decide) (by decide) (by decide) (by decide)
  have z9 := hz 9 (by decide) (by decide) (by decide) (by decide) (by decide)
  have e : ∀ a b, a ∈ x_zl → b ∈ x_zl → a ≠ 63 → a ≠ 61 → a ≠ 62 → a ≠ 55 → b ≠ 63 → b ≠ 61 → b ≠ 62 → b ≠ 55 → x_mm (x_dm x_sE) W (109 * 63) (36 * 63) 63 a = x_mm (x_dm x_sE) W (109 * 63) (36 * 63) 63 b := fun a b h1 h2 h3 h4 h5 h6 h7 h8 h9 h10 => by rw [hz a h1 h3 h4 h5 h6, hz b h2 h7 h8 h9 h10]
  have n01 : ∀ {P : Prop}, (0 : Int32) = 1 → P := fun h => absurd h (by decide)
  refine ⟨⟨x_m19, x_mfl x_c21 (by decide) x_lz.2.2.2.2.1, x_tbE.1, x_tbE.2.1, x_tbE.2.2.2.2, ?_, ?_, x_m65⟩, ⟨0, by decide, ?_, h55 12 (by decide), e 1 66 (by decide) (by decide) (by decide) (by decide) (by decide) (by decide) (by decide) (by decide) (by decide) (by decide), fun j hj => absurd hj (Nat.not_lt_zero _)⟩, ?_, ?_, ?_, ?_, ?_, ?_⟩
  · funext j
    show z_b (decide (j < 109 * 63) && (z_sL.getD (j / 109) 0).testBit (j % 109)) = _
    by_cases g : j < 109 * 63
    · rw [decide_eq_true g, Bool.true_and]
    · rw [decide_eq_false g, Bool.false_and, x_gn x_lz.2.2.1 (by omega), Nat.zero_testBit]
  · funext j
    show (if j < 36 * 63 then Int32.ofInt (z_goe (j / 36) (j % 36)) else 0) = _
    by_cases g : j < 36 * 63
    · rw [if_pos g]
    · rw [if_neg g]
      unfold z_goe
      rw [x_gn x_lz.2.1 (by omega), x_a0z _ (Nat.mod_lt _ (by decide))]
      rfl
  · rw [z0]
    rfl
  · unfold r_tok
    rw [h55 18 (by decide), h55 21 (by decide), h55 13 (by decide), z2]
    refine ⟨rfl, rfl, ?_, ?_, ?_, ?_, ?_, ?_, rfl, Or.inl rfl, fun h => n01 h⟩
    · exact e 3 67 (by decide) (by decide) (by decide) (by decide) (by decide) (by decide) (by decide) (by decide) (by decide) (by decide)
    · exact e 4 68 (by decide) (by decide) (by decide) (by decide) (by decide) (by decide) (by decide) (by decide) (by decide) (by decide)
    · exact e 5 69 (by decide) (by decide) (by decide) (by decide) (by decide) (by decide) (by decide) (by decide) (by decide) (by decide)
    · exact e 6 70 (by decide) (by decide) (by decide) (by decide) (by decide) (by decide) (by decide) (by decide) (by decide) (by decide)
    · exact e 7 71 (by decide) (by decide) (by decide) (by decide) (by decide) (by decide) (by decide) (by decide) (by decide) (by decide)
    · exact e 8 72 (by decide) (by decide) (by decide) (by decide) (by decide) (by decide) (by decide) (by decide) (by decide) (by decide)
  · unfold r_red
    rw [h55 26 (by decide), z9]
    exact ⟨rfl, e 10 75 (by decide) (by decide) (by decide) (by decide) (by decide) (by decide) (by decide) (by decide) (by decide) (by decide), 0, by decide, rfl⟩
  · exact e 46 96 (by decide) (by decide) (by decide) (by decide) (by decide) (by decide) (by decide) (by decide) (by decide) (by decide)
  · unfold r_run
    rw [h55 56 (by decide), h47]
    exact ⟨rfl, Or.inl rfl, e 48 99 (by decide) (by decide) (by decide) (by decide) (by decide) (by decide) (by decide) (by decide) (by decide) (by decide), e 49 97 (by decide) (by decide) (by decide) (by decide) (by decide) (by decide) (by decide) (by decide) (by decide) (by decide), fun h => n01 h⟩
  · unfold r_tree
    rw [h55 34 (by decide), z0]
    exact ⟨rfl, Or.inl rfl, fun h => n01 h⟩
  · unfold r_code
    rw [h55 44 (by decide), z0]
    exact ⟨rfl, Or.inl rfl, fun h => n01 h⟩
