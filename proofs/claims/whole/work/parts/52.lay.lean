/-! where the words of a tree stand -/
theorem z_cases {N : Nat} {kd sz ht up : Nat → Nat} {ks : Nat → List Nat} (h : z_pre N kd sz ht up ks) {i : Nat} (hi : i < N) : (kd i = 0 ∧ ∀ x, x ∈ ks i → kd x ≤ 6) ∨ ((kd i = 1 ∨ kd i = 2 ∨ kd i = 16 ∨ kd i = 17) ∧ ks i = [i + 1] ∧ 7 ≤ kd (i + 1) ∧ kd (i + 1) ≤ 19) ∨ (kd i = 3 ∧ ∃ l, ks i = [i + 1, l] ∧ kd l = 0 ∧ 7 ≤ kd (i + 1) ∧ kd (i + 1) ≤ 19) ∨ (kd i = 3 ∧ ∃ l l2, ks i = [i + 1, l, l2] ∧ kd l = 0 ∧ kd l2 = 0 ∧ 7 ≤ kd (i + 1) ∧ kd (i + 1) ≤ 19) ∨ (kd i = 4 ∧ ∃ l, ks i = [i + 1, l] ∧ kd l = 0 ∧ 7 ≤ kd (i + 1) ∧ kd (i + 1) ≤ 19) ∨ ((kd i = 5 ∨ kd i = 6) ∧ ks i = []) ∨ ((7 ≤ kd i ∧ kd i ≤ 15) ∧ ∃ b, ks i = [i + 1, b] ∧ 7 ≤ kd (i + 1) ∧ kd (i + 1) ≤ 19 ∧ 7 ≤ kd b ∧ kd b ≤ 19) ∨ ((kd i = 18 ∨ kd i = 19) ∧ ks i = []) := by
  obtain ⟨s1, s2, s3, s4, s5, s6⟩ := h.2.2.2.2.1 i hi
  have hd : ∀ x t, ks i = x :: t → x = i + 1 := fun x t e => by rw [e] at s3; exact s3.1
  rcases s5 with ⟨k, hx⟩ | ⟨k, e, hl, e1, e2⟩ | ⟨k, e, hl, e1, e2⟩ | ⟨k, e, hl, e1, e2⟩ | ⟨k, hl⟩ | ⟨k, a, b, hl, e1, e2, e3, e4⟩ | ⟨k, e, hl, e1, e2⟩ | ⟨k, hl⟩
  · exact Or.inl ⟨k, fun x hxm => hx _ (List.mem_map_of_mem hxm)⟩
  · obtain ⟨x, hk, rfl⟩ := z_map1 hl
    have := hd _ _ hk
    subst this
    exact Or.inr (Or.inl ⟨by omega, hk, e1, e2⟩)
  · rcases hl with hl | hl
    · obtain ⟨x, y, hk, rfl, hy⟩ := z_map2 hl
      have := hd _ _ hk
      subst this
      exact Or.inr (Or.inr (Or.inl ⟨k, y, hk, hy, e1, e2⟩))
    · obtain ⟨x, y, z, hk, rfl, hy, hz⟩ := z_map3 hl
      have := hd _ _ hk
      subst this
      exact Or.inr (Or.inr (Or.inr (Or.inl ⟨k, y, z, hk, hy, hz, e1, e2⟩)))
  · obtain ⟨x, y, hk, rfl, hy⟩ := z_map2 hl
    have := hd _ _ hk
    subst this
    exact Or.inr (Or.inr (Or.inr (Or.inr (Or.inl ⟨k, y, hk, hy, e1, e2⟩))))
  · exact Or.inr (Or.inr (Or.inr (Or.inr (Or.inr (Or.inl ⟨k, List.map_eq_nil_iff.mp hl⟩)))))
  · obtain ⟨x, y, hk, rfl, rfl⟩ := z_map2 hl
    have := hd _ _ hk
    subst this
    exact Or.inr (Or.inr (Or.inr (Or.inr (Or.inr (Or.inr (Or.inl ⟨k, y, hk, e1, e2, e3, e4⟩))))))
  · obtain ⟨x, hk, rfl⟩ := z_map1 hl
    have := hd _ _ hk
    subst this
    exact Or.inr (Or.inl ⟨by omega, hk, e1, e2⟩)
  · exact Or.inr (Or.inr (Or.inr (Or.inr (Or.inr (Or.inr (Or.inr ⟨k, List.map_eq_nil_iff.mp hl⟩))))))
theorem z_child {sz : Nat → Nat} : ∀ (l : List Nat) (lo hi i : Nat), z_segP sz lo hi l → lo ≤ i → i < hi → ∃ d, d ∈ l ∧ d ≤ i ∧ i < d + sz d := by
  intro l
  induction l with
  | nil => intro lo hi i h h1 h2; have : lo = hi := h; omega
  | cons x t ih =>
    intro lo hi i h h1 h2
    obtain ⟨a1, a2, a3⟩ := h
    by_cases hx : i < x + sz x
    · exact ⟨x, List.mem_cons_self, by omega, hx⟩
    · obtain ⟨d, d1, d2, d3⟩ := ih _ _ i a3 (by omega) h2
      exact ⟨d, List.mem_cons_of_mem _ d1, d2, d3⟩
/-- a node of a subtree is the whole or in one of its parts -/
theorem z_below {N : Nat} {kd sz ht up : Nat → Nat} {ks : Nat → List Nat} (h : z_pre N kd sz ht up ks) {c i : Nat} (hc : c < N) (h1 : c < i) (h2 : i < c + sz c) : ∃ d, d ∈ ks c ∧ c < d ∧ d ≤ i ∧ i < d + sz d ∧ d + sz d ≤ c + sz c := by
  obtain ⟨s1, s2, s3, s4, s5, s6⟩ := h.2.2.2.2.1 c hc
  obtain ⟨d, d1, d2, d3⟩ := z_child _ _ _ i s3 (by omega) h2
  obtain ⟨q1, q2, q3, q4⟩ := z_pre_kids h c hc d d1
  exact ⟨d, d1, q2, d2, d3, q4⟩
theorem z_lam {N : Nat} {kd sz ht up : Nat → Nat} {ks : Nat → List Nat} (h : z_pre N kd sz ht up ks) : ∀ (n c i : Nat), i - c ≤ n → c < N → c ≤ i → i < c + sz c → i + sz i ≤ c + sz c := by
  intro n
  induction n with
  | zero =>
    intro c i hn hc h1 h2
    have : i = c := by omega
    subst this
    exact Nat.le_refl _
  | succ n ih =>
    intro c i hn hc h1 h2
    by_cases he : i = c
    · subst he; exact Nat.le_refl _
    · obtain ⟨d, d1, d2, d3, d4, d5⟩ := z_below h hc (by omega) h2
      have := (h.2.2.2.2.1 c hc).2.1
      have := ih d i (by omega) (by omega) d3 d4
      omega
theorem z_off_le {wc : Nat → Nat} {b : Nat} : ∀ (l : List Nat) (x : Nat), x ∈ l → z_off wc b l x + wc x + b ≤ (l.map wc).sum + l.length * b := by
  intro l
  induction l with
  | nil => intro x hx; cases hx
  | cons y t ih =>
    intro x hx
    simp only [z_off, List.map_cons, List.sum_cons, List.length_cons, Nat.succ_mul]
    by_cases h : y = x
    · subst h
      simp only [if_true]
      omega
    · rw [if_neg h]
      have := ih x ((List.mem_cons.mp hx).resolve_left (fun e => h e.symm))
      omega
theorem z_off_lt {wc sz : Nat → Nat} {b : Nat} : ∀ (l : List Nat) (lo hi x y : Nat), z_segP sz lo hi l → x ∈ l → y ∈ l → x < y → z_off wc b l x + wc x + b ≤ z_off wc b l y := by
  intro l
  induction l with
  | nil => intro lo hi x y _ hx; cases hx
  | cons z t ih =>
    intro lo hi x y h hx hy hxy
    obtain ⟨a1, a2, a3⟩ := h
    simp only [z_off]
    by_cases hzx : z = x
    · subst hzx
      rw [if_pos rfl, if_neg (by omega)]
      omega
    · have hx' := (List.mem_cons.mp hx).resolve_left (fun e => hzx e.symm)
      have := z_segP_mem _ _ _ a3 x hx'
      have hzy : ¬ z = y := by omega
      rw [if_neg hzx, if_neg hzy]
      have := ih _ _ x y a3 hx' ((List.mem_cons.mp hy).resolve_left (fun e => hzy e.symm)) hxy
      omega
theorem z_seg_sib {sz : Nat → Nat} : ∀ (l : List Nat) (lo hi x y : Nat), z_segP sz lo hi l → x ∈ l → y ∈ l → x < y → x + sz x ≤ y := by
  intro l
  induction l with
  | nil => intro lo hi x y _ hx; cases hx
  | cons z t ih =>
    intro lo hi x y h hx hy hxy
    obtain ⟨a1, a2, a3⟩ := h
    by_cases hzx : z = x
    · subst hzx
      have hy' := (List.mem_cons.mp hy).resolve_left (fun e => by omega)
      exact (z_segP_mem _ _ _ a3 y hy').1
    · have hx' := (List.mem_cons.mp hx).resolve_left (fun e => hzx e.symm)
      have := z_segP_mem _ _ _ a3 x hx'
      have hzy : ¬ z = y := by omega
      exact ih _ _ x y a3 hx' ((List.mem_cons.mp hy).resolve_left (fun e => hzy e.symm)) hxy
theorem z_in {N : Nat} {kd sz ht up wc st bs : Nat → Nat} {ks : Nat → List Nat} (h : z_pre N kd sz ht up ks) (hc : z_cd N kd ks wc st bs) {i x : Nat} (hi : i < N) (hx : x ∈ ks i) : st i ≤ st x ∧ st x + wc x ≤ st i + wc i := by
  have h1 := hc.2.2.1 i hi x hx
  have h2 := hc.1 i hi
  have h3 := z_off_le (wc := wc) (b := z_wb (kd i)) _ _ hx
  have h4 : (ks i).length * z_wb (kd i) ≤ z_ow (kd i) (ks i).length + z_wb (kd i) := by
    rcases z_cases h hi with ⟨k, _⟩ | ⟨k, e, _⟩ | ⟨k, l, e, _⟩ | ⟨k, l, l2, e, _⟩ | ⟨k, l, e, _⟩ | ⟨k, e⟩ | ⟨k, b, e, _⟩ | ⟨k, e⟩
    · rw [k]; simp [z_wb]
    · rw [e]; simp
    · rw [e, k]; show 2 * z_wb 3 ≤ z_ow 3 2 + z_wb 3; decide
    · rw [e, k]; show 3 * z_wb 3 ≤ z_ow 3 3 + z_wb 3; decide
    · rw [e, k]; show 2 * z_wb 4 ≤ z_ow 4 2 + z_wb 4; decide
    · rw [e]; simp
    · rw [e]
      have : kd i = 7 ∨ kd i = 8 ∨ (9 ≤ kd i ∧ kd i ≤ 15) := by omega
      rcases this with k' | k' | k'
      · rw [k']; show 2 * z_wb 7 ≤ z_ow 7 2 + z_wb 7; decide
      · rw [k']; show 2 * z_wb 8 ≤ z_ow 8 2 + z_wb 8; decide
      · have : z_wb (kd i) = 0 := by
          unfold z_wb
          rw [if_neg (by omega), if_neg (by omega), if_neg (by omega), if_neg (by omega)]
        rw [this]; simp
    · rw [e]; simp
  omega
theorem z_nest {N : Nat} {kd sz ht up wc st bs : Nat → Nat} {ks : Nat → List Nat} (h : z_pre N kd sz ht up ks) (hc : z_cd N kd ks wc st bs) : ∀ (n c i : Nat), i - c ≤ n → c < N → c ≤ i → i < c + sz c → st c ≤ st i ∧ st i + wc i ≤ st c + wc c := by
  intro n
  induction n with
  | zero =>
    intro c i hn hcN h1 h2
    have : i = c := by omega
    subst this
    exact ⟨Nat.le_refl _, Nat.le_refl _⟩
  | succ n ih =>
    intro c i hn hcN h1 h2
    by_cases he : i = c
    · subst he; exact ⟨Nat.le_refl _, Nat.le_refl _⟩
    · obtain ⟨d, d1, d2, d3, d4, d5⟩ := z_below h hcN (by omega) h2
      have := (h.2.2.2.2.1 c hcN).2.1
      have := ih d i (by omega) (by omega) d3 d4
      have := z_in h hc hcN d1
      omega
theorem z_aft {N : Nat} {kd sz ht up wc st bs : Nat → Nat} {ks : Nat → List Nat} (h : z_pre N kd sz ht up ks) (hc : z_cd N kd ks wc st bs) : ∀ (n c i j : Nat), i - c ≤ n → c < N → c ≤ i → i + sz i ≤ j → j < c + sz c → st i + wc i ≤ st j := by
  intro n
  induction n with
  | zero =>
    intro c i j hn hcN h1 h2 h3
    have : i = c := by omega
    subst this
    omega
  | succ n ih =>
    intro c i j hn hcN h1 h2 h3
    have hcs := (h.2.2.2.2.1 c hcN).2.1
    by_cases he : i = c
    · subst he; omega
    · have hsi := (h.2.2.2.2.1 i (by omega)).1
      obtain ⟨d, d1, d2, d3, d4, d5⟩ := z_below h hcN (by omega : c < i) (by omega)
      by_cases hj : j < d + sz d
      · exact ih d i j (by omega) (by omega) d3 h2 hj
      · obtain ⟨d', e1, e2, e3, e4, e5⟩ := z_below h hcN (by omega : c < j) h3
        have hdd : d < d' := by
          rcases Nat.lt_or_ge d d' with g | g
          · exact g
          · exfalso
            by_cases hdl : d' = d
            · subst hdl; omega
            · have := z_seg_sib _ _ _ d' d (h.2.2.2.2.1 c hcN).2.2.1 e1 d1 (by omega)
              omega
        have q1 := hc.2.2.1 c hcN d d1
        have q2 := hc.2.2.1 c hcN d' e1
        have q3 := z_off_lt (wc := wc) (b := z_wb (kd c)) _ _ _ d d' (h.2.2.2.2.1 c hcN).2.2.1 d1 e1 hdd
        have q4 := z_nest h hc (i - d) d i (Nat.le_refl _) (by omega) d3 d4
        have q5 := z_nest h hc (j - d') d' j (Nat.le_refl _) (by omega) e3 e4
        omega
theorem z_wcs {N : Nat} {kd sz ht up wc st bs : Nat → Nat} {ks : Nat → List Nat} (h : z_pre N kd sz ht up ks) (hc : z_cd N kd ks wc st bs) : ∀ (n i : Nat), N - i ≤ n → i < N → z_sum (fun i => z_ow (kd i) (ks i).length) i + wc i = z_sum (fun i => z_ow (kd i) (ks i).length) (i + sz i) := by
  intro n
  induction n with
  | zero => intro i h1 h2; omega
  | succ n ih =>
    intro i h1 h2
    obtain ⟨s1, s2, s3, s4, s5, s6⟩ := h.2.2.2.2.1 i h2
    have key : ∀ (l : List Nat) (lo hi : Nat), z_segP sz lo hi l → (∀ x, x ∈ l → x ∈ ks i) → z_sum (fun i => z_ow (kd i) (ks i).length) lo + (l.map wc).sum = z_sum (fun i => z_ow (kd i) (ks i).length) hi := by
      intro l
      induction l with
      | nil => intro lo hi hl _; have : lo = hi := hl; subst this; simp
      | cons x t iht =>
        intro lo hi hl hm
        obtain ⟨a1, a2, a3⟩ := hl
        obtain ⟨q1, q2, q3, q4⟩ := z_pre_kids h i h2 x (hm x List.mem_cons_self)
        have g1 := ih x (by omega) q3
        have g2 := iht _ _ a3 (fun y hy => hm y (List.mem_cons_of_mem _ hy))
        subst a1
        simp only [List.map_cons, List.sum_cons]
        omega
    have g := key _ _ _ s3 (fun _ hx => hx)
    have g2 := hc.1 i h2
    simp only [z_sum] at g
    omega
