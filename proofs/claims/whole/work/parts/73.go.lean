/-! the tree's run: ways; the class's go -/
def z_in2 (N : Nat) (en : Nat → Int32) (w : Int32) : Int32 := if 0 ≤ w ∧ w < nI N then en w.toNatClampNeg else w
theorem s_W_into {X : mz_X} {m : mz_M} {Q : Int32 → mz_M → Prop} {N : Nat} {w : Int32} (h1 : m 37 1 = nI N) (hN : N ≤ 4001) (hQ : Q (z_in2 N (m 40) w) m) : mz_gi X mz_sh 32 0 [some (.ref 37), some (.int w)] m Q := by
  refine t_W_into_0 _ ⟨fun g => ?_, fun g => ⟨fun g2 => ?_, fun g2 => ⟨?_, ?_⟩⟩⟩
  · unfold z_in2 at hQ
    rw [if_neg (fun h => absurd g (Int32.not_lt.mpr h.1))] at hQ
    exact hQ
  · unfold z_in2 at hQ
    rw [if_neg (fun h => absurd h.2 (Int32.not_lt.mpr (h1 ▸ g2)))] at hQ
    exact hQ
  · rw [h1] at g2
    exact mz_inbW (mz_inbC g (Int32.not_le.mp g2) (by omega)) hN
  · unfold z_in2 at hQ
    rw [if_pos ⟨Int32.not_lt.mp g, by rw [← h1]; exact Int32.not_le.mp g2⟩] at hQ
    exact hQ
theorem s_W_behind {X : mz_X} {m : mz_M} {Q : Int32 → mz_M → Prop} {N i : Nat} (h1 : m 37 1 = nI N) (hN : N ≤ 4001) (hi : i < N) (hQ : Q (z_in2 N (m 40) (m 39 i)) m) : mz_gi X mz_sh 33 0 [some (.ref 37), some (.int (nI i))] m Q := by
  refine t_W_behind_0 _ ⟨fun g => absurd g (nI_pos (by omega)), fun _ => ⟨fun g => absurd (h1 ▸ g) (nI_ge (a := i) (b := N) (by omega) (by omega)), fun _ => ⟨mz_inbN (by omega) (by decide), ?_⟩⟩⟩
  rw [nI_clamp (by omega)]
  exact s_W_into h1 hN hQ
/-- one turn: how, the next way, the fuel left, the run -/
def z_st (N : Nat) (kd sz lp : Nat → Nat) (tv nx en : Nat → Int32) (ks : Nat → List Nat) (w : Int32) (k : Nat) (s : z_rs) : Int32 × Int32 × Nat × z_rs :=
  if w < 0 then
    match z_ev kd sz tv N ((-1 - w).toNatClampNeg + 1) k (z_beg s (-1 - w)) with
    | (h, v, k', s') => (h, (if v = 0 then z_in2 N en (nx (-1 - w).toNatClampNeg) else z_in2 N en (nI ((-1 - w).toNatClampNeg + 1 + sz ((-1 - w).toNatClampNeg + 1)))), k', s')
  else if kd w.toNatClampNeg = 4 then (-1, -1 - w, k, z_beg s w)
  else if kd w.toNatClampNeg = 5 then (-1, z_in2 N en (nx (lp w.toNatClampNeg - 1)), k, z_beg s w)
  else if kd w.toNatClampNeg = 6 then (-1, -1 - nI (lp w.toNatClampNeg - 1), k, z_beg s w)
  else
    match z_ev kd sz tv N (w.toNatClampNeg + 1) k (z_beg s w) with
    | (h, v, k', s') =>
      if h ≠ -1 then (h, 0, k', s')
      else if kd w.toNatClampNeg = 1 then (-1, z_in2 N en (nx w.toNatClampNeg), k', z_sto s' (tv w.toNatClampNeg).toNatClampNeg v)
      else if kd w.toNatClampNeg = 2 then (-1, z_in2 N en (nx w.toNatClampNeg), k', z_prt s' v)
      else (-1, (if v ≠ 0 then z_in2 N en (nI (w.toNatClampNeg + 1 + sz (w.toNatClampNeg + 1))) else if (ks w.toNatClampNeg).length = 3 then z_in2 N en (nI (w.toNatClampNeg + 1 + sz (w.toNatClampNeg + 1) + sz (w.toNatClampNeg + 1 + sz (w.toNatClampNeg + 1)))) else z_in2 N en (nx w.toNatClampNeg)), k', s')
def z_go (N : Nat) (kd sz lp : Nat → Nat) (tv nx en : Nat → Int32) (ks : Nat → List Nat) : Nat → Nat → Int32 → z_rs → Int32 × Nat × z_rs
  | 0, k, w, s => if w = nI N then (0, k, s) else (1, k, s)
  | n + 1, k, w, s => if w = nI N then (0, k, s) else if k = 0 then (1, 0, s) else
    match z_st N kd sz lp tv nx en ks w (k - 1) s with
    | (h, w', k', s') => if h ≠ -1 then (h, k', s') else z_go N kd sz lp tv nx en ks n k' w' s'
/-- a way -/
def z_wv (N : Nat) (kd : Nat → Nat) (w : Int32) : Prop := w = nI N ∨ (∃ y, y < N ∧ 1 ≤ kd y ∧ kd y ≤ 6 ∧ w = nI y) ∨ (∃ u, u < N ∧ kd u = 4 ∧ w = -1 - nI u)
theorem z_in2_neg {N u : Nat} {en : Nat → Int32} (hu : u < 4001) : z_in2 N en (-1 - nI u) = -1 - nI u := by
  unfold z_in2
  rw [if_neg]
  rintro ⟨h, _⟩
  have : ∀ u, u < 4001 → ¬ (0 : Int32) ≤ -1 - nI u := by
    intro u hu
    rw [Int32.le_iff_toInt_le]
    have e : (-1 - nI u : Int32).toInt = -1 - (u : Int) := by
      rw [Int32.toInt_sub]
      have : (nI u).toInt = u := nI_toInt (by omega)
      rw [this]
      show Int.bmod (-1 - (u : Int)) (2 ^ 32) = _
      rw [Int.bmod_def]
      omega
    rw [e]
    show ¬ (0 : Int) ≤ _
    omega
  exact this u hu h
theorem z_in2_N {N : Nat} {en : Nat → Int32} (hN : N ≤ 4001) : z_in2 N en (nI N) = nI N := by
  unfold z_in2
  rw [if_neg]
  rintro ⟨_, h⟩
  exact absurd h (by rw [Int32.not_lt]; exact nI_le (Nat.le_refl _) (by omega))
theorem z_in2_i {N i : Nat} {en : Nat → Int32} (hN : N ≤ 4001) (hi : i < N) : z_in2 N en (nI i) = en i := by
  unfold z_in2
  rw [if_pos ⟨Int32.not_lt.mp (nI_pos (by omega)), (nI_ltI (by omega) (by omega)).mpr hi⟩, nI_clamp (by omega)]
