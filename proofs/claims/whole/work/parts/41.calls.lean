/-! THE WHOLE RELATION; feed, clear, input, lex -/
def z_sum (f : Nat → Nat) : Nat → Nat
  | 0 => 0
  | n + 1 => z_sum f n + f n
/-- nodes in preorder: the parts of a node, one behind the other -/
def z_segP (sz : Nat → Nat) : Nat → Nat → List Nat → Prop
  | lo, hi, [] => lo = hi
  | lo, hi, i :: t => i = lo ∧ i < hi ∧ z_segP sz (i + sz i) hi t
def z_typ (k : Nat) (l : List Nat) : Prop := (k = 0 ∧ ∀ x, x ∈ l → x ≤ 6) ∨ ((k = 1 ∨ k = 2) ∧ ∃ e, l = [e] ∧ 7 ≤ e ∧ e ≤ 19) ∨ (k = 3 ∧ ∃ e, (l = [e, 0] ∨ l = [e, 0, 0]) ∧ 7 ≤ e ∧ e ≤ 19) ∨ (k = 4 ∧ ∃ e, l = [e, 0] ∧ 7 ≤ e ∧ e ≤ 19) ∨ ((k = 5 ∨ k = 6) ∧ l = []) ∨ ((7 ≤ k ∧ k ≤ 15) ∧ ∃ a b, l = [a, b] ∧ 7 ≤ a ∧ a ≤ 19 ∧ 7 ≤ b ∧ b ≤ 19) ∨ ((k = 16 ∨ k = 17) ∧ ∃ e, l = [e] ∧ 7 ≤ e ∧ e ≤ 19) ∨ ((k = 18 ∨ k = 19) ∧ l = [])
/-- a node's own words -/
def z_ow (k n : Nat) : Nat := if k = 0 then 0 else if k = 3 then (if n = 3 then 2 else 1) else if k = 4 then 2 else if k = 7 then 4 else if k = 8 then 4 else 1
def z_pre (N : Nat) (kd sz ht up : Nat → Nat) (ks : Nat → List Nat) : Prop := 1 ≤ N ∧ N ≤ 4001 ∧ sz 0 = N ∧ kd 0 = 0 ∧ (∀ i, i < N → 1 ≤ sz i ∧ i + sz i ≤ N ∧ z_segP sz (i + 1) (i + sz i) (ks i) ∧ (∀ x, x ∈ ks i → up x = i ∧ ht x < ht i) ∧ z_typ (kd i) ((ks i).map kd) ∧ ht i ≤ 200) ∧ (∀ i, 0 < i → i < N → up i < i ∧ i ∈ ks (up i)) ∧ z_sum (fun i => z_ow (kd i) (ks i).length) N ≤ 8000
def z_links (m : mz_M) (N : Nat) (sz up : Nat → Nat) (ks : Nat → List Nat) : Prop := ∀ i, i < N → m 86 i = (if ks i = [] then -1 else nI (i + 1)) ∧ (ks i = [] → m 87 i = -1) ∧ (∀ x, (ks i).getLast? = some x → m 87 i = nI x) ∧ m 88 i = (if i = 0 then -1 else if i + sz i = up i + sz (up i) then -1 else nI (i + sz i)) ∧ m 89 i = (if i = 0 then -1 else nI (up i))
def z_into (m : mz_M) (N : Nat) (w : Int32) : Int32 := if 0 ≤ w ∧ w < nI N then m 40 w.toNatClampNeg else w
def z_paths (m : mz_M) (N : Nat) (kd sz lp : Nat → Nat) (ks : Nat → List Nat) : Prop := m 37 1 = nI N ∧ m 39 0 = nI N ∧ lp 0 = 0 ∧ m 38 0 = -1 ∧ (∀ i, i < N → kd i = 0 ∨ kd i = 3 ∨ kd i = 4 → ∀ x, x ∈ ks i → lp x = (if kd i = 4 then i + 1 else lp i) ∧ m 38 x = nI (lp x) - 1 ∧ m 39 x = (if kd i = 0 ∧ x + sz x ≠ i + sz i then nI (x + sz x) else if kd i = 4 then -1 - nI i else m 39 i)) ∧ (∀ i, i < N → m 40 i = (if kd i = 0 then z_into m N (if ks i = [] then m 39 i else nI (i + 1)) else nI i)) ∧ (∀ i, i < N → kd i = 5 ∨ kd i = 6 → 0 < lp i)
def z_tree (m : mz_M) : Prop := ∃ (N : Nat) (kd tk sz ht up lp : Nat → Nat) (ks : Nat → List Nat), z_pre N kd sz ht up ks ∧ m 30 5 = nI N ∧ m 55 43 = nI N ∧ (∀ i, i < N → m 31 i = nI (kd i) ∧ m 82 i = nI (kd i) ∧ m 32 i = nI (tk i) ∧ m 83 i = nI (tk i) ∧ m 33 i = nI (ks i).length ∧ m 84 i = nI (ks i).length ∧ m 34 i = nI (ht i) ∧ m 85 i = nI (ht i) ∧ m 35 i = nI (sz i) ∧ tk i ≤ 4000 ∧ (kd i = 18 ∨ kd i = 1 → ∃ q, q < 32 ∧ m 6 (tk i) = nI q)) ∧ z_links m N sz up ks ∧ z_paths m N kd sz lp ks
/-- what a word wants of the pile, and where it leads -/
def z_wd (W : Nat) (op : Nat → Nat) (va : Nat → Int32) (dp : Nat → Nat) (q : Nat) : Prop := dp q ≤ 202 ∧ ((op q = 0 ∧ q + 1 < W ∧ dp (q + 1) = dp q + 1) ∨ (op q = 1 ∧ q + 1 < W ∧ dp (q + 1) = dp q + 1 ∧ ∃ v, v < 32 ∧ va q = nI v) ∨ (op q = 2 ∧ q + 1 < W ∧ dp (q + 1) + 1 = dp q ∧ ∃ v, v < 32 ∧ va q = nI v) ∨ (3 ≤ op q ∧ op q ≤ 9 ∧ q + 1 < W ∧ 2 ≤ dp q ∧ dp (q + 1) + 1 = dp q) ∨ (10 ≤ op q ∧ op q ≤ 12 ∧ q + 1 < W ∧ 1 ≤ dp q ∧ dp (q + 1) = dp q) ∨ (op q = 13 ∧ ∃ t, va q = nI t ∧ t < W ∧ dp t = dp q) ∨ (op q = 14 ∧ q + 1 < W ∧ dp (q + 1) + 1 = dp q ∧ ∃ t, va q = nI t ∧ t < W ∧ dp t + 1 = dp q) ∨ (op q = 15 ∧ q + 1 < W ∧ dp (q + 1) + 1 = dp q) ∨ op q = 16)
def z_code (m : mz_M) : Prop := ∃ (W : Nat) (op : Nat → Nat) (va : Nat → Int32) (dp : Nat → Nat), 1 ≤ W ∧ W ≤ 8001 ∧ m 41 2 = nI W ∧ m 55 47 = nI W ∧ dp 0 = 0 ∧ ∀ q, q < W → m 42 q = nI (op q) ∧ m 90 q = nI (op q) ∧ m 43 q = va q ∧ m 91 q = va q ∧ z_wd W op va dp q
def r_tab (m : mz_M) : Prop := m 19 = (fun j => Int32.ofInt (z_act (j / 36) (j % 36))) ∧ m 21 = (fun j => nI (z_loL.getD j 0)) ∧ m 56 = (fun j => nI (z_leL.getD j 0)) ∧ m 57 = (fun j => nI (z_loL.getD j 0)) ∧ m 60 = (fun j => nI (z_iaL.getD j 0)) ∧ m 61 = (fun j => z_b ((z_sL.getD (j / 109) 0).testBit (j % 109))) ∧ m 62 = (fun j => Int32.ofInt (z_goe (j / 36) (j % 36))) ∧ m 65 = (fun j => z_b ((z_fL.getD (j / 25) 0).testBit (j % 25)))
def r_tree (m : mz_M) : Prop := m 0 6 = m 55 34 ∧ (m 0 6 = 0 ∨ m 0 6 = 1) ∧ (m 0 6 = 1 → m 2 6 = 1 ∧ z_tree m)
def r_code (m : mz_M) : Prop := m 0 8 = m 55 44 ∧ (m 0 8 = 0 ∨ m 0 8 = 1) ∧ (m 0 8 = 1 → z_code m)
def z_rel (m : mz_M) : Prop := r_tab m ∧ r_text m ∧ r_tok m ∧ r_red m ∧ r_in m ∧ r_run m ∧ r_tree m ∧ r_code m
theorem r_tab_fr {m m' : mz_M} (h : ∀ q, q ∈ [19, 21, 56, 57, 60, 61, 62, 65] → m' q = m q) (hr : r_tab m) : r_tab m' := by
  unfold r_tab at hr ⊢
  rw [h 19 (by decide), h 21 (by decide), h 56 (by decide), h 57 (by decide), h 60 (by decide), h 61 (by decide), h 62 (by decide), h 65 (by decide)]
  exact hr
theorem z_tree_fr {m m' : mz_M} (h : ∀ q, q ∈ [6, 30, 31, 32, 33, 34, 35, 37, 38, 39, 40, 82, 83, 84, 85, 86, 87, 88, 89] → m' q = m q) (h2 : m' 55 43 = m 55 43) (hr : z_tree m) : z_tree m' := by
  unfold z_tree z_links z_paths z_into at hr ⊢
  rw [h 6 (by decide), h 30 (by decide), h 31 (by decide), h 32 (by decide), h 33 (by decide), h 34 (by decide), h 35 (by decide), h 37 (by decide), h 38 (by decide), h 39 (by decide), h 40 (by decide), h 82 (by decide), h 83 (by decide), h 84 (by decide), h 85 (by decide), h 86 (by decide), h 87 (by decide), h 88 (by decide), h 89 (by decide), h2]
  exact hr
theorem z_code_fr {m m' : mz_M} (h : ∀ q, q ∈ [41, 42, 43, 90, 91] → m' q = m q) (h2 : m' 55 47 = m 55 47) (hr : z_code m) : z_code m' := by
  unfold z_code at hr ⊢
  rw [h 41 (by decide), h 42 (by decide), h 43 (by decide), h 90 (by decide), h 91 (by decide), h2]
  exact hr
theorem z_tg_fr {m m' : mz_M} (h : ∀ q, q ∈ [2, 3, 5, 6] → m' q = m q) (hr : z_tg m) : z_tg m' := by
  unfold z_tg at hr ⊢
  rw [h 2 (by decide), h 3 (by decide), h 5 (by decide), h 6 (by decide)]
  exact hr
theorem k_input {X : mz_X} {m : mz_M} {a1 a2 : Int32} {R : Int32 → Int32 → mz_M → Prop} (h : z_rel m) (hR : ∀ r m', z_rel m' → R r r m') : mz_gi X mz_sh 110 0 [some (.ref 0), some (.int a1), some (.int a2), none] m (fun r m1 => mz_gi X mz_sh 171 0 [some (.ref 55), some (.int a1), some (.int a2), none] m1 (fun r' m2 => R r r' m2)) := by
  refine t_A_input_0 _ _ ⟨fun h0 => t_M_input_0 _ _ ⟨fun _ => hR _ _ h, fun h1 => absurd h0 h1⟩, fun h0 => ⟨fun h1 => ?_, fun h1 => t_M_input_0 _ _ ⟨fun h2 => absurd h2 h0, fun _ => ⟨fun h2 => absurd h2 h1, fun _ => hR _ _ h⟩⟩⟩⟩
  have hin : mz_inb a1 32 = true := mz_inbC (n := 32) h0 h1 (by decide)
  refine ⟨hin, hin, t_M_input_0 _ _ ⟨fun h2 => absurd h2 h0, fun _ => ⟨fun _ => ⟨hin, hin, ?_⟩, fun h2 => absurd h1 h2⟩⟩⟩
  obtain ⟨g1, g2, g3, g4, g5, g6, g7, g8⟩ := h
  have e : mz_up m 46 a1.toNatClampNeg a2 96 a1.toNatClampNeg = m 46 a1.toNatClampNeg := by
    rw [mz_up_n _ _ _ (by decide), ← g5]
  rw [e]
  have hq : ∀ q, q ≠ 46 → q ≠ 96 → mz_up (mz_up m 46 a1.toNatClampNeg a2) 96 a1.toNatClampNeg a2 q = m q := fun q q1 q2 => by rw [mz_up_n _ _ _ q2, mz_up_n _ _ _ q1]
  have hq' : ∀ l : List Nat, l.all (fun q => decide (q ≠ 46) && decide (q ≠ 96)) = true → ∀ q, q ∈ l → mz_up (mz_up m 46 a1.toNatClampNeg a2) 96 a1.toNatClampNeg a2 q = m q := fun l hl q hql => by
    have := List.all_eq_true.mp hl q hql
    simp only [Bool.and_eq_true, decide_eq_true_eq] at this
    exact hq q this.1 this.2
  refine hR _ _ ⟨r_tab_fr (hq' _ (by decide)) g1, ?_, ?_, ?_, ?_, ?_, ?_, ?_⟩
  · unfold r_text at g2 ⊢
    rw [hq 0 (by decide) (by decide), hq 55 (by decide) (by decide), hq 1 (by decide) (by decide), hq 66 (by decide) (by decide)]
    exact g2
  · unfold r_tok at g3 ⊢
    rw [hq 2 (by decide) (by decide), hq 55 (by decide) (by decide), hq 3 (by decide) (by decide), hq 4 (by decide) (by decide), hq 5 (by decide) (by decide), hq 6 (by decide) (by decide), hq 7 (by decide) (by decide), hq 8 (by decide) (by decide), hq 67 (by decide) (by decide), hq 68 (by decide) (by decide), hq 69 (by decide) (by decide), hq 70 (by decide) (by decide), hq 71 (by decide) (by decide), hq 72 (by decide) (by decide)]
    obtain ⟨q1, q2, q3, q4, q5, q6, q7, q8, q9, q10, q11⟩ := g3
    exact ⟨q1, q2, q3, q4, q5, q6, q7, q8, q9, q10, fun h9 => z_tg_fr (hq' _ (by decide)) (q11 h9)⟩
  · unfold r_red at g4 ⊢
    rw [hq 9 (by decide) (by decide), hq 55 (by decide) (by decide), hq 10 (by decide) (by decide), hq 75 (by decide) (by decide)]
    exact g4
  · show mz_up (mz_up m 46 a1.toNatClampNeg a2) 96 a1.toNatClampNeg a2 46 = _
    rw [mz_up_k, mz_up_n _ _ _ (by decide), mz_up_k, mz_up_n _ _ _ (by decide)]
    unfold r_in at g5
    rw [g5]
  · unfold r_run at g6 ⊢
    rw [hq 47 (by decide) (by decide), hq 55 (by decide) (by decide), hq 48 (by decide) (by decide), hq 49 (by decide) (by decide), hq 99 (by decide) (by decide), hq 97 (by decide) (by decide)]
    exact g6
  · unfold r_tree at g7 ⊢
    rw [hq 0 (by decide) (by decide), hq 55 (by decide) (by decide), hq 2 (by decide) (by decide)]
    exact ⟨g7.1, g7.2.1, fun h9 => ⟨(g7.2.2 h9).1, z_tree_fr (hq' _ (by decide)) (by rw [hq 55 (by decide) (by decide)]) (g7.2.2 h9).2⟩⟩
  · unfold r_code at g8 ⊢
    rw [hq 0 (by decide) (by decide), hq 55 (by decide) (by decide)]
    exact ⟨g8.1, g8.2.1, fun h9 => z_code_fr (hq' _ (by decide)) (by rw [hq 55 (by decide) (by decide)]) (g8.2.2 h9)⟩
