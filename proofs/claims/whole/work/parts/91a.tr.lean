/-! a forest as rows: places in the order of the tree -/
abbrev y_G : Type := Nat → Nat × Nat × Nat × Nat × Nat × List Nat
def y_fro : Nat → z_F → List Nat
  | _, .leaf => []
  | b, .inner _ _ _ l r => b :: y_fro (b + 1 + z_fsz l) r
def y_at (G : y_G) : z_F → Nat → Nat → Prop
  | .leaf, _, _ => True
  | .inner _ a _ l r, b, u => G b = (a.1, a.2.1, 1 + z_fsz l, 1 + z_fht l, u, y_fro (b + 1) l) ∧ y_at G l (b + 1) b ∧ y_at G r (b + 1 + z_fsz l) u
theorem y_at_cg {G G' : y_G} : ∀ (F : z_F) (b u : Nat), (∀ i, b ≤ i → i < b + z_fsz F → G' i = G i) → y_at G F b u → y_at G' F b u := by
  intro F
  induction F with
  | leaf => intro b u _ _; trivial
  | inner s a v l r ihl ihr =>
    intro b u h hm
    simp only [z_fsz] at h
    exact ⟨by rw [h b (by omega) (by omega)]; exact hm.1, ihl _ _ (fun i i1 i2 => h i (by omega) (by omega)) hm.2.1, ihr _ _ (fun i i1 i2 => h i (by omega) (by omega)) hm.2.2⟩
theorem y_at_ex : ∀ (F : z_F) (b u : Nat), ∃ G, y_at G F b u := by
  intro F
  induction F with
  | leaf => intro b u; exact ⟨fun _ => (0, 0, 0, 0, 0, []), trivial⟩
  | inner s a v l r ihl ihr =>
    intro b u
    obtain ⟨G1, h1⟩ := ihl (b + 1) b
    obtain ⟨G2, h2⟩ := ihr (b + 1 + z_fsz l) u
    refine ⟨fun i => if i = b then (a.1, a.2.1, 1 + z_fsz l, 1 + z_fht l, u, y_fro (b + 1) l) else if i < b + 1 + z_fsz l then G1 i else G2 i, ?_, ?_, ?_⟩
    · exact if_pos rfl
    · refine y_at_cg l _ _ (fun i i1 i2 => ?_) h1
      show (if i = b then _ else _) = _
      rw [if_neg (by omega), if_pos (by omega)]
    · refine y_at_cg r _ _ (fun i i1 i2 => ?_) h2
      show (if i = b then _ else _) = _
      rw [if_neg (by omega), if_neg (by omega)]
theorem y_fro_seg {G : y_G} : ∀ (F : z_F) (b u : Nat), y_at G F b u → z_segP (fun i => (G i).2.2.1) b (b + z_fsz F) (y_fro b F) := by
  intro F
  induction F with
  | leaf => intro b u _; exact (Nat.add_zero b).symm
  | inner s a v l r ihl ihr =>
    intro b u h
    have h3 := ihr _ _ h.2.2
    refine ⟨rfl, by simp only [z_fsz]; omega, ?_⟩
    show z_segP _ (b + (G b).2.2.1) _ _
    rw [h.1]
    show z_segP _ (b + (1 + z_fsz l)) _ _
    rw [← Nat.add_assoc]
    simp only [z_fsz]
    rw [show b + (1 + z_fsz l + z_fsz r) = b + 1 + z_fsz l + z_fsz r by omega]
    exact h3
theorem y_fro_mem {G : y_G} : ∀ (F : z_F) (b u : Nat), y_at G F b u → ∀ x, x ∈ y_fro b F → (G x).2.2.2.2.1 = u ∧ (G x).2.2.2.1 ≤ z_fht F ∧ b ≤ x ∧ x < b + z_fsz F := by
  intro F
  induction F with
  | leaf => intro b u _ x hx; cases hx
  | inner s a v l r ihl ihr =>
    intro b u h x hx
    simp only [z_fht, z_fsz]
    rcases List.mem_cons.mp hx with e | e
    · subst e
      rw [h.1]
      exact ⟨rfl, by simp only; omega, Nat.le_refl _, by omega⟩
    · have := ihr _ _ h.2.2 x e
      exact ⟨this.1, by omega, by omega, by omega⟩
theorem y_fro_kd {G : y_G} : ∀ (F : z_F) (b u : Nat), y_at G F b u → (y_fro b F).map (fun i => (G i).1) = z_fks F := by
  intro F
  induction F with
  | leaf => intro b u _; rfl
  | inner s a v l r ihl ihr =>
    intro b u h
    simp only [y_fro, List.map_cons, z_fks]
    rw [ihr _ _ h.2.2, h.1]
theorem y_fro_len : ∀ (F : z_F) (b : Nat), (y_fro b F).length = z_fln F := by
  intro F
  induction F with
  | leaf => intro b; rfl
  | inner s a v l r ihl ihr =>
    intro b
    simp only [y_fro, List.length_cons, z_fln, ihr]
    omega
theorem y_at_all {G : y_G} {tk : Nat → Nat} {c : Nat} : ∀ (F : z_F) (b u : Nat), y_at G F b u → z_fty tk c F → ∀ i, b ≤ i → i < b + z_fsz F → 1 ≤ (G i).2.2.1 ∧ i + (G i).2.2.1 ≤ b + z_fsz F ∧ z_segP (fun i => (G i).2.2.1) (i + 1) (i + (G i).2.2.1) (G i).2.2.2.2.2 ∧ (∀ x, x ∈ (G i).2.2.2.2.2 → (G x).2.2.2.2.1 = i ∧ (G x).2.2.2.1 < (G i).2.2.2.1) ∧ z_typ (G i).1 ((G i).2.2.2.2.2.map (fun i => (G i).1)) ∧ (G i).2.2.2.1 ≤ z_fht F ∧ ((G i).1 = 18 ∨ (G i).1 = 1 → tk (G i).2.1 = 1) ∧ (G i).2.1 < c ∧ ((i ∈ y_fro b F ∧ (G i).2.2.2.2.1 = u) ∨ (b ≤ (G i).2.2.2.2.1 ∧ (G i).2.2.2.2.1 < i ∧ i ∈ (G (G i).2.2.2.2.1).2.2.2.2.2)) := by
  intro F
  induction F with
  | leaf => intro b u _ _ i h1 h2; simp only [z_fsz] at h2; omega
  | inner s a v l r ihl ihr =>
    intro b u h ht i h1 h2
    simp only [z_fsz, z_fht] at h2 ⊢
    obtain ⟨hb, hl, hr⟩ := h
    obtain ⟨t1, t2, t3, t4, t5⟩ := ht
    by_cases e : i = b
    · subst e
      have hs := y_fro_seg l _ _ hl
      have hm := y_fro_mem l _ _ hl
      have hk := y_fro_kd l _ _ hl
      rw [hb]
      simp only
      refine ⟨by omega, by omega, ?_, fun x hx => ⟨(hm x hx).1, ?_⟩, ?_, by omega, t2, t3, Or.inl ⟨List.mem_cons_self, trivial⟩⟩
      · rw [show i + (1 + z_fsz l) = i + 1 + z_fsz l by omega]
        exact hs
      · have := (hm x hx).2.1
        omega
      · rw [hk]; exact t1
    · by_cases e2 : i < b + 1 + z_fsz l
      · obtain ⟨q1, q2, q3, q4, q5, q6, q7, q8, q9⟩ := ihl _ _ hl t4 i (by omega) e2
        refine ⟨q1, by omega, q3, q4, q5, by omega, q7, q8, Or.inr ?_⟩
        rcases q9 with ⟨g1, g2⟩ | ⟨g1, g2, g3⟩
        · rw [g2, hb]
          exact ⟨Nat.le_refl _, by omega, g1⟩
        · exact ⟨by omega, g2, g3⟩
      · obtain ⟨q1, q2, q3, q4, q5, q6, q7, q8, q9⟩ := ihr _ _ hr t5 i (by omega) (by omega)
        refine ⟨q1, by omega, q3, q4, q5, by omega, q7, q8, ?_⟩
        rcases q9 with ⟨g1, g2⟩ | ⟨g1, g2, g3⟩
        · exact Or.inl ⟨List.mem_cons_of_mem _ g1, g2⟩
        · exact Or.inr ⟨by omega, g2, g3⟩
theorem y_at_sum {G : y_G} : ∀ (F : z_F) (b u : Nat), y_at G F b u → z_sum (fun i => z_ow (G i).1 (G i).2.2.2.2.2.length) (b + z_fsz F) = z_sum (fun i => z_ow (G i).1 (G i).2.2.2.2.2.length) b + z_fow F := by
  intro F
  induction F with
  | leaf => intro b u _; rfl
  | inner s a v l r ihl ihr =>
    intro b u h
    obtain ⟨hb, hl, hr⟩ := h
    have h1 := ihl _ _ hl
    have h2 := ihr _ _ hr
    have h0 : z_sum (fun i => z_ow (G i).1 (G i).2.2.2.2.2.length) (b + 1) = z_sum (fun i => z_ow (G i).1 (G i).2.2.2.2.2.length) b + z_ow a.1 (z_fln l) := by
      simp only [z_sum]
      rw [hb]
      simp only [y_fro_len]
    simp only [z_fsz, z_fow]
    rw [show b + (1 + z_fsz l + z_fsz r) = b + 1 + z_fsz l + z_fsz r by omega]
    omega
/-- BREAKs and NEXTs stand in the order of their tokens -/
theorem y_at_bk {G : y_G} : ∀ (F : z_F) (b u : Nat), y_at G F b u → (z_fbk F).Pairwise (· < ·) → (∀ i, b ≤ i → i < b + z_fsz F → (G i).1 = 5 ∨ (G i).1 = 6 → (G i).2.1 ∈ z_fbk F) ∧ (∀ i j, b ≤ i → i < j → j < b + z_fsz F → ((G i).1 = 5 ∨ (G i).1 = 6) → ((G j).1 = 5 ∨ (G j).1 = 6) → (G i).2.1 < (G j).2.1) := by
  intro F
  induction F with
  | leaf => intro b u _ _; exact ⟨fun i h1 h2 => by simp only [z_fsz] at h2; omega, fun i j h1 h2 h3 => by simp only [z_fsz] at h3; omega⟩
  | inner s a v l r ihl ihr =>
    intro b u h hp
    obtain ⟨hb, hl, hr⟩ := h
    simp only [z_fbk] at hp ⊢
    obtain ⟨p1, p2, p3⟩ := List.pairwise_append.mp hp
    obtain ⟨p4, p5, p6⟩ := List.pairwise_append.mp p1
    obtain ⟨l1, l2⟩ := ihl _ _ hl p5
    obtain ⟨r1, r2⟩ := ihr _ _ hr p2
    simp only [z_fsz]
    have hbm : (G b).1 = 5 ∨ (G b).1 = 6 → (G b).2.1 ∈ (if a.1 = 5 ∨ a.1 = 6 then [a.2.1] else []) := by
      intro g
      rw [hb] at g ⊢
      rw [if_pos g]
      exact List.mem_singleton.mpr rfl
    refine ⟨fun i h1 h2 hk => ?_, fun i j h1 h2 h3 hk1 hk2 => ?_⟩
    · by_cases e : i = b
      · subst e
        exact List.mem_append.mpr (Or.inl (List.mem_append.mpr (Or.inl (hbm hk))))
      · by_cases e2 : i < b + 1 + z_fsz l
        · exact List.mem_append.mpr (Or.inl (List.mem_append.mpr (Or.inr (l1 i (by omega) e2 hk))))
        · exact List.mem_append.mpr (Or.inr (r1 i (by omega) (by omega) hk))
    · by_cases e : i = b
      · subst e
        have m1 := hbm hk1
        by_cases e2 : j < i + 1 + z_fsz l
        · exact p6 _ m1 _ (l1 j (by omega) e2 hk2)
        · exact p3 _ (List.mem_append.mpr (Or.inl m1)) _ (r1 j (by omega) (by omega) hk2)
      · by_cases e2 : j < b + 1 + z_fsz l
        · exact l2 i j (by omega) h2 e2 hk1 hk2
        · by_cases e3 : i < b + 1 + z_fsz l
          · exact p3 _ (List.mem_append.mpr (Or.inr (l1 i (by omega) e3 hk1))) _ (r1 j (by omega) (by omega) hk2)
          · exact r2 i j (by omega) h2 (by omega) hk1 hk2
theorem y_pre {G : y_G} {tk : Nat → Nat} {c id : Nat} {F : z_F} (h : y_at G (.inner 0 (0, 0, id) () F .leaf) 0 0) (ht : z_fty tk c (.inner 0 (0, 0, id) () F .leaf)) (hN : z_fsz F ≤ 4000) (hh : z_fht F < 200) (hw : z_fow F ≤ 8000) : z_pre (1 + z_fsz F) (fun i => (G i).1) (fun i => (G i).2.2.1) (fun i => (G i).2.2.2.1) (fun i => (G i).2.2.2.2.1) (fun i => (G i).2.2.2.2.2) := by
  have hsz : z_fsz (.inner 0 (0, 0, id) () F .leaf : z_F) = 1 + z_fsz F := by simp only [z_fsz, Nat.add_zero]
  have hht : z_fht (.inner 0 (0, 0, id) () F .leaf : z_F) = 1 + z_fht F := by simp only [z_fht, Nat.max_zero]
  have all := y_at_all _ _ _ h ht
  rw [hsz, hht] at all
  refine ⟨by omega, by omega, ?_, ?_, fun i hi => ?_, fun i h0 hi => ?_, ?_⟩
  · show (G 0).2.2.1 = _
    rw [h.1]
  · show (G 0).1 = 0
    rw [h.1]
  · obtain ⟨q1, q2, q3, q4, q5, q6, q7, q8, q9⟩ := all i (by omega) (by omega)
    exact ⟨q1, by simp only; omega, q3, q4, q5, by simp only; omega⟩
  · obtain ⟨q1, q2, q3, q4, q5, q6, q7, q8, q9⟩ := all i (by omega) (by omega)
    rcases q9 with ⟨g1, g2⟩ | ⟨g1, g2, g3⟩
    · have : y_fro 0 (.inner 0 (0, 0, id) () F .leaf) = [0] := rfl
      rw [this] at g1
      have := List.mem_singleton.mp g1
      omega
    · exact ⟨g2, g3⟩
  · have := y_at_sum _ _ _ h
    rw [hsz] at this
    simp only [Nat.zero_add, z_sum, z_fow] at this
    have h0 : z_ow 0 (z_fln F) = 0 := rfl
    show z_sum (fun i => z_ow (G i).1 (G i).2.2.2.2.2.length) (1 + z_fsz F) ≤ 8000
    omega
