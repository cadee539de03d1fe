/-! the class's paths -/
def y_nx (kd sz : Nat → Nat) (i x : Nat) (ni : Int32) : Int32 := if kd i = 0 ∧ x + sz x ≠ i + sz i then nI (x + sz x) else if kd i = 4 then -1 - nI i else ni
theorem s_W_ps1 {X : mz_X} {Q : mz_M → Prop} {N i : Nat} {kd tk sz lp : Nat → Nat} {ks : Nat → List Nat} {l3' : Int32} (hiN : i < N) (hk : kd i = 0 ∨ kd i = 3 ∨ kd i = 4) : ∀ (t : List Nat) (lo j : Nat) (m : mz_M), m 30 5 = nI N → N ≤ 4001 → (∀ x, x < N → m 35 x = nI (sz x) ∧ 1 ≤ sz x) → m 33 i = nI (ks i).length → (ks i).length ≤ 4001 → i + sz i ≤ N → z_segP sz lo (i + sz i) t → i < lo → j + t.length = (ks i).length → (∀ m', z_fr [38, 39] m m' → (∀ x, x ∈ t → m' 38 x = (if kd i = 4 then nI i else m 38 i) ∧ m' 39 x = y_nx kd sz i x (m 39 i)) → (∀ x, x ∉ t → m' 38 x = m 38 x ∧ m' 39 x = m 39 x) → Q m') → mz_gv X mz_sh 29 30 [some (.ref 37), some (.ref 30), some (.int (nI i)), some (.int (nI (kd i))), some (.int (nI lo)), some (.int (nI j)), none, none] m Q := by
  intro t
  induction t with
  | nil =>
    intro lo j m h30 hN h35 h33 hlen hiz hs hlo hj hQ
    simp only [List.length_nil] at hj
    refine t_W_placeStatements_1 _ _ _ _ ⟨mz_inbN (by omega) (by decide), fun _ => hQ m (z_fr.rf _ _) (fun x hx => by cases hx) (fun _ _ => ⟨rfl, rfl⟩), fun g => ?_⟩
    rw [nI_clamp (by omega), h33] at g
    exact absurd (nI_le (by omega) (by omega)) g
  | cons x t ih =>
    intro lo j m h30 hN h35 h33 hlen hiz hs hlo hj hQ
    obtain ⟨a1, a2, a3⟩ := hs
    subst a1
    simp only [List.length_cons] at hj
    have hxs := (h35 x (by omega)).2
    have hinx : mz_inb (nI x) 4001 = true := mz_inbN (by omega) (by decide)
    have hini : mz_inb (nI i) 4001 = true := mz_inbN (by omega) (by decide)
    have cc : ∀ {b : Nat}, b < 2 ^ 31 → nI (kd i) = nI b → kd i = b := fun hb e => (nI_eq (by omega) hb).mp e
    -- one part is placed
    have go : ∀ (vn vl : Int32), vn = y_nx kd sz i x (m 39 i) → vl = (if kd i = 4 then nI i else m 38 i) → mz_gv X mz_sh 29 30 [some (.ref 37), some (.ref 30), some (.int (nI i)), some (.int (nI (kd i))), some (.int (nI (x + sz x))), some (.int (nI j + 1)), none, none] (mz_up (mz_up m 39 x vn) 38 x vl) Q := by
      intro vn vl hvn hvl
      rw [nI_1]
      have f1 : z_fr [38, 39] m (mz_up (mz_up m 39 x vn) 38 x vl) := ((z_fr.rf _ _).up (by decide)).up (by decide)
      have hix : i ≠ x := by omega
      have e38 : mz_up (mz_up m 39 x vn) 38 x vl 38 i = m 38 i := by simp [mz_up, upd, hix]
      have e39 : mz_up (mz_up m 39 x vn) 38 x vl 39 i = m 39 i := by simp [mz_up, upd, hix]
      refine ih (x + sz x) (j + 1) _ (by rw [f1 30 (by decide)]; exact h30) hN (by rw [f1 35 (by decide)]; exact h35) (by rw [f1 33 (by decide)]; exact h33) hlen hiz a3 (by omega) (by omega) (fun m' f2 w1 w2 => ?_)
      rw [e38, e39] at w1
      have hxt : x ∉ t := fun hm => by have := z_segP_mem _ _ _ a3 x hm; omega
      refine hQ m' (f1.tr f2) (fun y hy => ?_) (fun y hy => ?_)
      · rcases List.mem_cons.mp hy with e | e
        · subst e
          rw [(w2 y hxt).1, (w2 y hxt).2]
          simp only [mz_up]
          simp [upd]
          exact ⟨hvl, hvn⟩
        · exact w1 y e
      · simp only [List.mem_cons, not_or] at hy
        rw [(w2 y hy.2).1, (w2 y hy.2).2]
        simp [mz_up, upd, hy.1]
    refine t_W_placeStatements_1 _ _ _ _ ⟨hini, fun g => ?_, fun _ => ⟨fun g => ?_, fun _ => ?_⟩⟩
    · rw [nI_clamp (by omega), h33] at g
      exact absurd g (nI_ge (by omega) (by omega))
    · rw [h30] at g
      exact absurd g (nI_ge (by omega) (by omega))
    refine s_T_behind hN h30 (by omega) (h35 x (by omega)).1 ?_
    rw [nI_clamp (show i < 2 ^ 31 by omega), nI_clamp (show x < 2 ^ 31 by omega), h33, nI_1]
    have hlast : t = [] ↔ x + sz x = i + sz i := by
      cases t with
      | nil => exact ⟨fun _ => a3, fun _ => rfl⟩
      | cons z t =>
        obtain ⟨b1, b2, b3⟩ := a3
        exact ⟨fun h => (by cases h), fun h => by omega⟩
    rw [← nI_1]
    refine ⟨fun g0 => ⟨hini, fun g => ?_, fun g => ?_⟩, fun g0 => ⟨fun g4 => ?_, fun g4 => ?_⟩⟩
    · have k0 := cc (b := 0) (by decide) g0
      have ht : t = [] := by
        cases t with
        | nil => rfl
        | cons z t =>
          simp only [List.length_cons] at hj
          rw [nI_1] at g
          exact absurd g (nI_ge (by omega) (by omega))
      have hx := hlast.mp ht
      refine ⟨fun g4 => ?_, fun _ => ⟨hini, hinx, fun g4 => ?_, fun _ => ⟨hini, hinx, go _ _ ?_ ?_⟩⟩⟩
      · have := cc (b := 4) (by decide) g4; omega
      · have := cc (b := 4) (by decide) g4; omega
      · unfold y_nx
        rw [if_neg (fun h => h.2 hx), if_neg (by omega)]
      · rw [if_neg (by omega)]
    · have k0 := cc (b := 0) (by decide) g0
      have ht : t ≠ [] := by
        intro e
        subst e
        simp only [List.length_nil] at hj
        exact g (by rw [nI_1]; exact nI_le (by omega) (by omega))
      have hx : x + sz x ≠ i + sz i := fun e => ht (hlast.mpr e)
      refine ⟨hinx, fun g4 => ?_, fun _ => ⟨hini, hinx, go _ _ ?_ ?_⟩⟩
      · have := cc (b := 4) (by decide) g4; omega
      · unfold y_nx
        rw [if_pos ⟨k0, hx⟩]
      · rw [if_neg (by omega)]
    · have k4 := cc (b := 4) (by decide) g4
      refine t_W_round_0 _ ⟨hinx, fun _ => ⟨hinx, go _ _ ?_ ?_⟩, fun g => absurd g4 g⟩
      · unfold y_nx
        rw [if_neg (by omega), if_pos k4]
      · rw [if_pos k4]
    · have k4 : kd i ≠ 4 := fun e => g4 (by rw [e]; rfl)
      have k0 : kd i ≠ 0 := fun e => g0 (by rw [e]; rfl)
      refine ⟨hini, hinx, fun g => absurd g g4, fun _ => ⟨hini, hinx, go _ _ ?_ ?_⟩⟩
      · unfold y_nx
        rw [if_neg (by omega), if_neg k4]
      · rw [if_neg k4]
theorem s_W_find1 {X : mz_X} {Q : mz_M → Prop} {N : Nat} {kd tk sz ht up lp : Nat → Nat} {ks : Nat → List Nat} (hp : z_pre N kd sz ht up ks) (hlp : ∀ i, i < N → ∀ x, x ∈ ks i → lp x = (if kd i = 4 then i + 1 else lp i)) (hlp0 : lp 0 = 0) : ∀ (k i : Nat) (m : mz_M), k + i = N → z_hA m N kd tk sz (fun _ => 0) ks ∨ (m 30 5 = nI N ∧ (∀ x, x < N → m 31 x = nI (kd x) ∧ m 33 x = nI (ks x).length ∧ m 35 x = nI (sz x))) → m 37 1 = nI N → m 39 0 = nI N → m 38 0 = -1 → (∀ j, j < i → kd j = 0 ∨ kd j = 3 ∨ kd j = 4 → ∀ x, x ∈ ks j → m 38 x = nI (lp x) - 1 ∧ m 39 x = y_nx kd sz j x (m 39 j)) → (∀ m', z_fr [38, 39] m m' → m' 39 0 = nI N → m' 38 0 = -1 → (∀ j, j < N → kd j = 0 ∨ kd j = 3 ∨ kd j = 4 → ∀ x, x ∈ ks j → m' 38 x = nI (lp x) - 1 ∧ m' 39 x = y_nx kd sz j x (m' 39 j)) → mz_gv X mz_sh 28 54 [some (.ref 37), some (.ref 30), some (.int (nI N - 1))] m' Q) → mz_gv X mz_sh 28 27 [some (.ref 37), some (.ref 30), some (.int (nI i))] m Q := by
  have hN := hp.2.1
  have hlen : ∀ x, x < N → (ks x).length ≤ 4001 := fun x hx => by
    have h1 := (hp.2.2.2.2.1 x hx)
    have h2 := z_segP_len _ _ _ (fun j hj => (hp.2.2.2.2.1 j (by omega)).1) h1.2.2.1
    omega
  intro k
  induction k with
  | zero =>
    intro i m hk hA h37 h39 h38 hinv hQ
    have hA' : m 30 5 = nI N := hA.elim (fun h => h.1) (fun h => h.1)
    have hi : i = N := by omega
    subst hi
    refine t_W_find_1 _ ⟨fun _ => ?_, fun g => absurd (by rw [hA']; exact nI_le (Nat.le_refl _) (by omega)) g⟩
    rw [hA']
    exact hQ m (z_fr.rf _ _) h39 h38 hinv
  | succ k ih =>
    intro i m hk hA h37 h39 h38 hinv hQ
    have hA2 : m 30 5 = nI N ∧ (∀ x, x < N → m 31 x = nI (kd x) ∧ m 33 x = nI (ks x).length ∧ m 35 x = nI (sz x)) := hA.elim (fun h => ⟨h.1, fun x hx => ⟨(h.2.2 x hx).1, (h.2.2 x hx).2.2.1, (h.2.2 x hx).2.2.2.1⟩⟩) id
    obtain ⟨A1, A2⟩ := hA2
    have hi : i < N := by omega
    have hk19 : kd i ≤ 19 := by
      rcases z_cases hp hi with ⟨k, _⟩ | ⟨k, e, _⟩ | ⟨k, l, e, _⟩ | ⟨k, l, l2, e, _⟩ | ⟨k, l, e, _⟩ | ⟨k, e⟩ | ⟨k, b, e, _⟩ | ⟨k, e⟩ <;> omega
    have cc : ∀ {b : Nat}, b < 2 ^ 31 → nI (kd i) = nI b → kd i = b := fun hb e => (nI_eq (by omega) hb).mp e
    -- what this node knows of itself
    have self38 : kd i = 0 ∨ kd i = 3 ∨ kd i = 4 → m 38 i = nI (lp i) - 1 := by
      intro hk3
      by_cases h0 : i = 0
      · subst h0
        rw [h38, hlp0]
        decide
      · obtain ⟨u1, u2⟩ := hp.2.2.2.2.2.1 i (by omega) hi
        exact (hinv (up i) u1 (z_par hp hi (by omega) (by omega)) i u2).1
    refine t_W_find_1 _ ⟨fun g => ?_, fun _ => t_W_placeStatements_0 _ ⟨mz_inbN (by omega) (by decide), ?_⟩⟩
    · rw [A1] at g
      exact absurd g (nI_ge (by omega) (by omega))
    rw [nI_clamp (by omega), (A2 i hi).1, nI_1]
    have next : ∀ m', z_fr [38, 39] m m' → (∀ x, x ∉ ks i → m' 38 x = m 38 x ∧ m' 39 x = m 39 x) → (kd i = 0 ∨ kd i = 3 ∨ kd i = 4 → ∀ x, x ∈ ks i → m' 38 x = (if kd i = 4 then nI i else m 38 i) ∧ m' 39 x = y_nx kd sz i x (m 39 i)) → mz_gv X mz_sh 28 27 [some (.ref 37), some (.ref 30), some (.int (nI (i + 1)))] m' Q := by
      intro m' f1 w1 w2
      have nk : ∀ j, j ≤ i → j ∉ ks i := fun j hj hm => by
        have := z_pre_kids hp i hi j hm
        omega
      refine ih (i + 1) m' (by omega) (Or.inr ⟨by rw [f1 30 (by decide)]; exact A1, fun x hx => by rw [f1 31 (by decide), f1 33 (by decide), f1 35 (by decide)]; exact A2 x hx⟩) (by rw [f1 37 (by decide)]; exact h37) (by rw [(w1 0 (nk 0 (by omega))).2]; exact h39) (by rw [(w1 0 (nk 0 (by omega))).1]; exact h38) (fun j hj hkj x hx => ?_) (fun m2 f2 => hQ m2 (f1.tr f2))
      by_cases e : j = i
      · subst e
        obtain ⟨g1, g2⟩ := w2 hkj x hx
        rw [g1, g2, (w1 j (nk j (Nat.le_refl _))).2]
        refine ⟨?_, rfl⟩
        rw [hlp j hi x hx]
        by_cases k4 : kd j = 4
        · rw [if_pos k4, if_pos k4, nI_m1 (by omega), Nat.add_sub_cancel]
        · rw [if_neg k4, if_neg k4]
          exact self38 hkj
      · have hxn : x ∉ ks i := fun hm => by
          have h1 := (z_pre_kids hp i hi x hm).1
          have h2 := (z_pre_kids hp j (by omega) x hx).1
          omega
        rw [(w1 x hxn).1, (w1 x hxn).2, (w1 j (nk j (by omega))).2]
        exact hinv j (by omega) hkj x hx
    have hs := hp.2.2.2.2.1 i hi
    have place : kd i = 0 ∨ kd i = 3 ∨ kd i = 4 → mz_gv X mz_sh 29 30 [some (.ref 37), some (.ref 30), some (.int (nI i)), some (.int (nI (kd i))), some (.int (nI (i + 1))), some (.int 0), none, none] m (fun m4 => mz_gv X mz_sh 28 27 [some (.ref 37), some (.ref 30), some (.int (nI (i + 1)))] m4 Q) := fun hk3 =>
      s_W_ps1 (kd := kd) (tk := tk) (lp := lp) (l3' := 0) hi hk3 (ks i) (i + 1) 0 m A1 hN (fun x hx => ⟨(A2 x hx).2.2, (hp.2.2.2.2.1 x hx).1⟩) (A2 i hi).2.1 (hlen i hi) hs.2.1 hs.2.2.1 (by omega) (by omega) (fun m' f1 w1 w2 => next m' f1 w2 (fun _ => w1))
    refine ⟨fun g => place (Or.inl (cc (b := 0) (by decide) g)), fun g0 => ⟨fun g => place (Or.inr (Or.inl (cc (b := 3) (by decide) g))), fun g3 => ⟨fun g => place (Or.inr (Or.inr (cc (b := 4) (by decide) g))), fun g4 => ?_⟩⟩⟩
    refine next m (z_fr.rf _ _) (fun _ _ => ⟨rfl, rfl⟩) (fun hk3 => ?_)
    exfalso
    rcases hk3 with e | e | e
    · exact g0 (by rw [e]; rfl)
    · exact g3 (by rw [e]; rfl)
    · exact g4 (by rw [e]; rfl)
/-- what stands behind a statement stands behind all of it -/
theorem y_nxp {N : Nat} {kd sz ht up : Nat → Nat} {nx : Nat → Int32} {ks : Nat → List Nat} (hp : z_pre N kd sz ht up ks) (h0 : nx 0 = nI N) (hn : ∀ i, i < N → kd i = 0 ∨ kd i = 3 ∨ kd i = 4 → ∀ x, x ∈ ks i → nx x = y_nx kd sz i x (nx i)) : ∀ (n i : Nat), i ≤ n → i < N → kd i ≤ 6 → nx i = nI N ∨ (∃ y, i + sz i ≤ y ∧ y < N ∧ nx i = nI y) ∨ (∃ u, u < N ∧ nx i = -1 - nI u) := by
  intro n
  induction n with
  | zero =>
    intro i h1 h2 h3
    have : i = 0 := by omega
    subst this
    exact Or.inl h0
  | succ n ih =>
    intro i h1 h2 h3
    by_cases hi0 : i = 0
    · subst hi0
      exact Or.inl h0
    · obtain ⟨u1, u2⟩ := hp.2.2.2.2.2.1 i (by omega) h2
      have u3 := z_par hp h2 h3 (by omega)
      obtain ⟨v1, v2, v3, v4⟩ := z_pre_kids hp (up i) (by omega) i u2
      have us := (hp.2.2.2.2.1 (up i) (by omega))
      rw [hn (up i) (by omega) u3 i u2]
      unfold y_nx
      by_cases c1 : kd (up i) = 0 ∧ i + sz i ≠ up i + sz (up i)
      · rw [if_pos c1]
        exact Or.inr (Or.inl ⟨i + sz i, Nat.le_refl _, by omega, rfl⟩)
      · rw [if_neg c1]
        by_cases c2 : kd (up i) = 4
        · rw [if_pos c2]
          exact Or.inr (Or.inr ⟨up i, by omega, rfl⟩)
        · rw [if_neg c2]
          rcases ih (up i) (by omega) (by omega) (by omega) with g | ⟨y, y1, y2, y3⟩ | g
          · exact Or.inl g
          · exact Or.inr (Or.inl ⟨y, by omega, y2, y3⟩)
          · exact Or.inr (Or.inr g)
theorem s_W_find2 {X : mz_X} {Q : mz_M → Prop} {N : Nat} {kd sz ht up : Nat → Nat} {nx : Nat → Int32} {ks : Nat → List Nat} (hp : z_pre N kd sz ht up ks) (h0 : nx 0 = nI N) (hn : ∀ i, i < N → kd i = 0 ∨ kd i = 3 ∨ kd i = 4 → ∀ x, x ∈ ks i → nx x = y_nx kd sz i x (nx i)) : ∀ (k : Nat) (m : mz_M), k ≤ N → m 37 1 = nI N → m 39 = nx → (∀ x, x < N → m 31 x = nI (kd x) ∧ m 33 x = nI (ks x).length) → (∀ x, k ≤ x → x < N → m 40 x = (if kd x = 0 then z_in2 N (m 40) (if ks x = [] then nx x else nI (x + 1)) else nI x)) → (∀ m', z_fr [40] m m' → (∀ x, x < N → m' 40 x = (if kd x = 0 then z_in2 N (m' 40) (if ks x = [] then nx x else nI (x + 1)) else nI x)) → Q m') → mz_gv X mz_sh 28 54 [some (.ref 37), some (.ref 30), some (.int (nI k - 1))] m Q := by
  have hN := hp.2.1
  have hlen : ∀ x, x < N → (ks x).length ≤ 4001 := fun x hx => by
    have h1 := (hp.2.2.2.2.1 x hx)
    have h2 := z_segP_len _ _ _ (fun j hj => (hp.2.2.2.2.1 j (by omega)).1) h1.2.2.1
    omega
  intro k
  induction k with
  | zero =>
    intro m hk h37 h39 hA hinv hQ
    exact t_W_find_2 _ ⟨fun _ => hQ m (z_fr.rf _ _) (fun x hx => hinv x (by omega) hx), fun g => absurd (by decide : nI 0 - 1 < 0) g⟩
  | succ k ih =>
    intro m hk h37 h39 hA hinv hQ
    rw [nI_m1 (by omega), Nat.add_sub_cancel]
    have hkN : k < N := by omega
    have hin : mz_inb (nI k) 4001 = true := mz_inbN (by omega) (by decide)
    have hk19 : kd k ≤ 19 := by
      rcases z_cases hp hkN with ⟨k, _⟩ | ⟨k, e, _⟩ | ⟨k, l, e, _⟩ | ⟨k, l, l2, e, _⟩ | ⟨k, l, e, _⟩ | ⟨k, e⟩ | ⟨k, b, e, _⟩ | ⟨k, e⟩ <;> omega
    -- a way that leads behind k is read alike before and after k is written
    have rd : ∀ (w : Int32) (g : Nat → Int32), (w = nI N ∨ (∃ y, k < y ∧ y < N ∧ w = nI y) ∨ (∃ u, u < N ∧ w = -1 - nI u)) → (∀ x, k < x → g x = m 40 x) → z_in2 N g w = z_in2 N (m 40) w := by
      intro w g hw hg
      rcases hw with rfl | ⟨y, y1, y2, rfl⟩ | ⟨u, u1, rfl⟩
      · rw [z_in2_N hN, z_in2_N hN]
      · rw [z_in2_i hN y2, z_in2_i hN y2, hg y y1]
      · rw [z_in2_neg (by omega), z_in2_neg (by omega)]
    have way : ∀ x, x < N → kd x = 0 → ((if ks x = [] then nx x else nI (x + 1)) = nI N ∨ (∃ y, x < y ∧ y < N ∧ (if ks x = [] then nx x else nI (x + 1)) = nI y) ∨ (∃ u, u < N ∧ (if ks x = [] then nx x else nI (x + 1)) = -1 - nI u)) := by
      intro x hx k0
      have hs := hp.2.2.2.2.1 x hx
      by_cases hk0 : ks x = []
      · rw [if_pos hk0]
        rcases y_nxp hp h0 hn x x (Nat.le_refl _) hx (by omega) with g | ⟨y, y1, y2, y3⟩ | g
        · exact Or.inl g
        · exact Or.inr (Or.inl ⟨y, by omega, y2, y3⟩)
        · exact Or.inr (Or.inr g)
      · rw [if_neg hk0]
        obtain ⟨z, t, hz⟩ := List.exists_cons_of_ne_nil hk0
        have hzm : z ∈ ks x := by rw [hz]; exact List.mem_cons_self
        have h3 := hs.2.2.1
        rw [hz] at h3
        have e : z = x + 1 := h3.1
        have := (z_pre_kids hp x hx z hzm).2.2.1
        exact Or.inr (Or.inl ⟨x + 1, by omega, by omega, rfl⟩)
    -- the rest
    have rest : ∀ (m1 : mz_M) (v : Int32), z_fr [40] m m1 → (∀ x, x ≠ k → m1 40 x = m 40 x) → m1 40 k = v → v = (if kd k = 0 then z_in2 N (m 40) (if ks k = [] then nx k else nI (k + 1)) else nI k) → mz_gv X mz_sh 28 54 [some (.ref 37), some (.ref 30), some (.int (nI k + (-1)))] m1 Q := by
      intro m1 v f1 w1 w2 w3
      rw [show nI k + (-1) = nI k - 1 from (Int32.sub_eq_add_neg _ _).symm]
      refine ih m1 (by omega) (by rw [f1 37 (by decide)]; exact h37) (by rw [f1 39 (by decide)]; exact h39) (by rw [f1 31 (by decide), f1 33 (by decide)]; exact hA) (fun x x1 x2 => ?_) (fun m' f2 w4 => hQ m' (f1.tr f2) w4)
      by_cases e : x = k
      · subst e
        rw [w2, w3]
        by_cases k0 : kd x = 0
        · rw [if_pos k0, if_pos k0, rd _ (m1 40) (way x x2 k0) (fun y hy => w1 y (by omega))]
        · rw [if_neg k0, if_neg k0]
      · rw [w1 x e, hinv x (by omega) x2]
        by_cases k0 : kd x = 0
        · rw [if_pos k0, if_pos k0]
          have hw : (if ks x = [] then nx x else nI (x + 1)) = nI N ∨ (∃ y, k < y ∧ y < N ∧ (if ks x = [] then nx x else nI (x + 1)) = nI y) ∨ (∃ u, u < N ∧ (if ks x = [] then nx x else nI (x + 1)) = -1 - nI u) := by
            rcases way x x2 k0 with g | ⟨y, y1, y2, y3⟩ | g
            · exact Or.inl g
            · exact Or.inr (Or.inl ⟨y, by omega, y2, y3⟩)
            · exact Or.inr (Or.inr g)
          rw [rd _ (m1 40) hw (fun y hy => w1 y (by omega))]
        · rw [if_neg k0, if_neg k0]
    refine t_W_find_2 _ ⟨fun g => absurd g (nI_pos (by omega)), fun _ => ⟨hin, hin, ?_⟩⟩
    rw [nI_clamp (by omega), (hA k hkN).1, (hA k hkN).2]
    have f0 : z_fr [40] m (mz_up m 40 k (nI k)) := (z_fr.rf _ _).up (by decide)
    have w0 : ∀ x, x ≠ k → mz_up m 40 k (nI k) 40 x = m 40 x := fun x hx => by rw [mz_up_k]; simp [upd, hx]
    have hlist : kd k = 0 → ∀ (w : Int32), w = (if ks k = [] then nx k else nI (k + 1)) → mz_gi X mz_sh 32 0 [some (.ref 37), some (.int w)] (mz_up m 40 k (nI k)) (fun r17 m15 => mz_inb (nI k) 4001 = true ∧ mz_gv X mz_sh 28 54 [some (.ref 37), some (.ref 30), some (.int (nI k + (-1)))] (mz_up m15 40 k r17) Q) := by
      intro k0 w hw
      refine s_W_into (by rw [f0 37 (by decide)]; exact h37) hN ⟨hin, ?_⟩
      refine rest _ (z_in2 N (mz_up m 40 k (nI k) 40) w) (f0.up (by decide)) (fun x hx => by rw [mz_up_k]; simp only [upd, hx, if_false]; exact w0 x hx) (by rw [mz_up_k]; simp [upd]) ?_
      rw [if_pos k0, hw]
      exact rd _ _ (way k hkN k0) (fun x hx => w0 x (by omega))
    refine ⟨fun g => ⟨hin, fun g2 => ⟨hin, ?_⟩, fun g2 => ?_⟩, fun g => ?_⟩
    · have k0 := (nI_eq (a := kd k) (b := 0) (by omega) (by decide)).mp g
      have hl := hlen k hkN
      have he : ks k = [] := by
        cases hks : ks k with
        | nil => rfl
        | cons z t =>
          rw [hks] at g2 hl
          simp only [List.length_cons] at g2 hl
          exact absurd g2 (nI_ge (a := 0) (by omega) (by omega))
      refine hlist k0 _ ?_
      rw [if_pos he, h39]
    · have k0 := (nI_eq (a := kd k) (b := 0) (by omega) (by decide)).mp g
      have he : ks k ≠ [] := fun e => g2 (by rw [e]; exact nI_le (a := 0) (b := 0) (by omega) (by omega))
      rw [nI_1]
      refine hlist k0 _ ?_
      rw [if_neg he]
    · have k0 : kd k ≠ 0 := fun e => g (by rw [e]; rfl)
      exact rest _ (nI k) f0 w0 (by rw [mz_up_k]; simp [upd]) (by rw [if_neg k0])
