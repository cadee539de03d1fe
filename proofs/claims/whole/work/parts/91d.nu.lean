/-! the reference's numbering -/
/-- node b stands under u, behind lx if there are parts already -/
def y_stp (m m' : mz_M) (b u p lx : Nat) (k t : Int32) : Prop := z_fm [82, 83, 84, 86, 87, 88, 89] [43] m m' ∧ m' 55 43 = nI (b + 1) ∧ m' 82 b = k ∧ m' 83 b = t ∧ m' 84 b = 0 ∧ m' 86 b = -1 ∧ m' 87 b = -1 ∧ m' 88 b = -1 ∧ m' 89 b = nI u ∧ m' 84 u = m 84 u + 1 ∧ m' 86 u = (if p = 0 then nI b else m 86 u) ∧ m' 87 u = nI b ∧ (0 < p → m' 88 lx = nI b) ∧ (∀ i, i ≠ b → m' 82 i = m 82 i ∧ m' 83 i = m 83 i ∧ m' 89 i = m 89 i) ∧ (∀ i, i ≠ b → i ≠ u → m' 84 i = m 84 i ∧ m' 86 i = m 86 i ∧ m' 87 i = m 87 i) ∧ (∀ i, i ≠ b → (0 < p → i ≠ lx) → m' 88 i = m 88 i)
theorem s_M_n1 {X : mz_X} {m : mz_M} {Q : mz_M → Prop} {root : Int32} {id b u p lx : Nat} (hid : id < 12100) (hb : b < 4001) (hu : u < b) (h43 : m 55 43 = nI b) (hp0 : p = 0 → m 86 u = -1) (hp1 : 0 < p → 0 ≤ m 86 u ∧ m 87 u = nI lx ∧ u < lx ∧ lx < b) (hQ : ∀ m', y_stp m m' b u p lx (m 76 id) (m 77 id) → mz_gv X mz_sh 156 150 [some (.ref 55), some (.int root), some (.int (nI id)), some (.int (nI u)), some (.int (nI b))] m' Q) : mz_gv X mz_sh 156 9 [some (.ref 55), some (.int root), some (.int (nI id)), some (.int (nI u)), none] m Q := by
  have hinid : mz_inb (nI id) 12100 = true := mz_inbN hid (by decide)
  have hinb : mz_inb (nI b) 12100 = true := mz_inbN (by omega) (by decide)
  have hinu : mz_inb (nI u) 12100 = true := mz_inbN (by omega) (by decide)
  have hub : u ≠ b := by omega
  have hbu : b ≠ u := by omega
  refine t_M_number_1 _ _ _ ⟨fun g => absurd g (nI_pos (by omega)), fun _ => ?_⟩
  rw [h43, nI_clamp (show b < 2 ^ 31 by omega), nI_clamp (show id < 2 ^ 31 by omega), nI_clamp (show u < 2 ^ 31 by omega), nI_1]
  have e86 : mz_up (mz_up (mz_up (mz_up (mz_up m 55 43 (nI (b + 1))) 82 b (m 76 id)) 83 b (m 77 id)) 84 b 0) 86 b (-1) 86 u = m 86 u := by simp [mz_up, upd, hub]
  have e87 : mz_up (mz_up (mz_up (mz_up (mz_up (mz_up m 55 43 (nI (b + 1))) 82 b (m 76 id)) 83 b (m 77 id)) 84 b 0) 86 b (-1)) 87 b (-1) 87 u = m 87 u := by simp [mz_up, upd, hub]
  have e84 : mz_up (mz_up (mz_up (mz_up m 55 43 (nI (b + 1))) 82 b (m 76 id)) 83 b (m 77 id)) 84 b 0 84 u = m 84 u := by simp [mz_up, upd, hub]
  rw [e86, e87, e84]
  refine ⟨hinid, hinb, hinid, hinb, hinb, hinb, hinb, hinb, hinb, fun g => absurd g (nI_pos (by omega)), fun _ => ⟨hinu, hinu, hinu, fun g => ?_, fun g => ?_⟩⟩
  · have hp : 0 < p := by
      rcases Nat.eq_zero_or_pos p with e | e
      · rw [hp0 e] at g
        exact absurd g (by decide)
      · exact e
    obtain ⟨g1, g2, g3, g4⟩ := hp1 hp
    rw [g2, nI_clamp (show lx < 2 ^ 31 by omega)]
    refine ⟨hinu, mz_inbN (by omega) (by decide), t_M_number_2 _ _ _ _ ⟨hinu, ?_⟩⟩
    rw [nI_clamp (by omega)]
    have hlb : lx ≠ b := by omega
    have hbl : b ≠ lx := by omega
    refine hQ _ ⟨?_, ?_, ?_, ?_, ?_, ?_, ?_, ?_, ?_, ?_, ?_, ?_, fun _ => ?_, fun i hi => ?_, fun i hi hi2 => ?_, fun i hi hi2 => ?_⟩
    · exact (((((((((((z_fm.rf _ _ _).uf (by decide)).up (by decide) (by decide)).up (by decide) (by decide)).up (by decide) (by decide)).up (by decide) (by decide)).up (by decide) (by decide)).up (by decide) (by decide)).up (by decide) (by decide)).up (by decide) (by decide)).up (by decide) (by decide)).up (by decide) (by decide)
    · simp [mz_up, upd]
    · simp [mz_up, upd]
    · simp [mz_up, upd]
    · simp [mz_up, upd, hbu]
    · simp [mz_up, upd]
    · simp [mz_up, upd, hbu]
    · simp [mz_up, upd, hbl]
    · simp [mz_up, upd]
    · simp [mz_up, upd]
    · rw [if_neg (by omega)]
      simp [mz_up, upd, hub]
    · simp [mz_up, upd]
    · simp [mz_up, upd]
    · simp [mz_up, upd, hi]
    · simp [mz_up, upd, hi, hi2]
    · simp [mz_up, upd, hi, hi2 hp]
  · have hp : p = 0 := by
      rcases Nat.eq_zero_or_pos p with e | e
      · exact e
      · exact absurd (hp1 e).1 g
    refine ⟨hinu, t_M_number_2 _ _ _ _ ⟨hinu, ?_⟩⟩
    rw [nI_clamp (by omega)]
    refine hQ _ ⟨?_, ?_, ?_, ?_, ?_, ?_, ?_, ?_, ?_, ?_, ?_, ?_, fun h => by omega, fun i hi => ?_, fun i hi hi2 => ?_, fun i hi hi2 => ?_⟩
    · exact (((((((((((z_fm.rf _ _ _).uf (by decide)).up (by decide) (by decide)).up (by decide) (by decide)).up (by decide) (by decide)).up (by decide) (by decide)).up (by decide) (by decide)).up (by decide) (by decide)).up (by decide) (by decide)).up (by decide) (by decide)).up (by decide) (by decide)).up (by decide) (by decide)
    · simp [mz_up, upd]
    · simp [mz_up, upd]
    · simp [mz_up, upd]
    · simp [mz_up, upd, hbu]
    · simp [mz_up, upd, hbu]
    · simp [mz_up, upd, hbu]
    · simp [mz_up, upd]
    · simp [mz_up, upd]
    · simp [mz_up, upd]
    · rw [if_pos hp]
      simp [mz_up, upd]
    · simp [mz_up, upd]
    · simp [mz_up, upd, hi]
    · simp [mz_up, upd, hi, hi2]
    · simp [mz_up, upd, hi]
def y_lst : Nat → z_F → Nat
  | b, .leaf => b
  | b, .inner _ _ _ _ .leaf => b
  | b, .inner _ _ _ l r => y_lst (b + 1 + z_fsz l) r
theorem y_lst_last {b : Nat} : ∀ (F : z_F) (b : Nat), F ≠ .leaf → (y_fro b F).getLast? = some (y_lst b F) ∧ b ≤ y_lst b F ∧ y_lst b F < b + z_fsz F := by
  intro F
  induction F with
  | leaf => intro b h; exact absurd rfl h
  | inner s a v l r ihl ihr =>
    intro b _
    cases r with
    | leaf => exact ⟨rfl, Nat.le_refl _, by simp only [z_fsz, y_lst]; omega⟩
    | inner s2 a2 v2 l2 r2 =>
      obtain ⟨h1, h2, h3⟩ := ihr (b + 1 + z_fsz l) (by intro h; cases h)
      refine ⟨?_, ?_, ?_⟩
      · show (b :: y_fro (b + 1 + z_fsz l) (.inner s2 a2 v2 l2 r2)).getLast? = _
        rw [List.getLast?_cons, h1]
        rfl
      · show b ≤ y_lst (b + 1 + z_fsz l) (.inner s2 a2 v2 l2 r2)
        omega
      · show y_lst (b + 1 + z_fsz l) (.inner s2 a2 v2 l2 r2) < _
        have : z_fsz (.inner s a v l (.inner s2 a2 v2 l2 r2)) = 1 + z_fsz l + z_fsz (.inner s2 a2 v2 l2 r2) := rfl
        omega
theorem y_nup {G : y_G} : ∀ (F : z_F) (b u : Nat), y_at G F b u → ∀ i, b ≤ i → i < b + z_fsz F → (G i).2.2.2.2.1 = u ∨ b ≤ (G i).2.2.2.2.1 := by
  intro F
  induction F with
  | leaf => intro b u _ i h1 h2; simp only [z_fsz] at h2; omega
  | inner s a v l r ihl ihr =>
    intro b u h i h1 h2
    obtain ⟨hb, hl, hr⟩ := h
    simp only [z_fsz] at h2
    by_cases e : i = b
    · subst e
      rw [hb]
      exact Or.inl rfl
    · by_cases e2 : i < b + 1 + z_fsz l
      · rcases ihl _ _ hl i (by omega) e2 with g | g
        · exact Or.inr (by omega)
        · exact Or.inr (by omega)
      · rcases ihr _ _ hr i (by omega) (by omega) with g | g
        · exact Or.inl g
        · exact Or.inr (by omega)
theorem y_lid_raw {m : mz_M} {u : Int32} : ∀ (F : z_F), F ≠ .leaf → z_raw m u F → m 80 (z_lid F) = -1 ∧ m 81 (z_lid F) = u := by
  intro F
  induction F with
  | leaf => intro h; exact absurd rfl h
  | inner s a v l r ihl ihr =>
    intro _ hm
    obtain ⟨h1, h2, h3, h4, h5, h6, h7, h8⟩ := hm
    cases r with
    | leaf => exact ⟨h5, h6⟩
    | inner s2 a2 v2 l2 r2 => exact ihr (by intro h; cases h) h8
/-- nodes lo .. hi are numbered; all but their next ones -/
def y_nm (G : y_G) (m : mz_M) (lo hi : Nat) : Prop := ∀ i, lo ≤ i → i < hi → m 82 i = nI (G i).1 ∧ m 83 i = nI (G i).2.1 ∧ m 84 i = nI (G i).2.2.2.2.2.length ∧ m 86 i = (if (G i).2.2.2.2.2 = [] then -1 else nI (i + 1)) ∧ ((G i).2.2.2.2.2 = [] → m 87 i = -1) ∧ (∀ x, (G i).2.2.2.2.2.getLast? = some x → m 87 i = nI x) ∧ m 89 i = nI (G i).2.2.2.2.1
/-- their next ones: of the parts of u up to e -/
def y_n8 (G : y_G) (m : mz_M) (lo hi u e : Nat) : Prop := ∀ i, lo ≤ i → i < hi → m 88 i = (if i + (G i).2.2.1 = (if (G i).2.2.2.2.1 = u then e else (G i).2.2.2.2.1 + (G (G i).2.2.2.2.1).2.2.1) then -1 else nI (i + (G i).2.2.1))
/-- what the numbering of F under u leaves as it was -/
def y_nf (m m' : mz_M) (b e u p lx : Nat) : Prop := z_fm [82, 83, 84, 86, 87, 88, 89] [43] m m' ∧ (∀ i, i < b ∨ e ≤ i → m' 82 i = m 82 i ∧ m' 83 i = m 83 i ∧ m' 89 i = m 89 i) ∧ (∀ i, i < b ∨ e ≤ i → i ≠ u → m' 84 i = m 84 i ∧ m' 86 i = m 86 i ∧ m' 87 i = m 87 i) ∧ (∀ i, i < b ∨ e ≤ i → (0 < p → i ≠ lx) → m' 88 i = m 88 i)
theorem s_M_num {X : mz_X} {Q : mz_M → Prop} {G : y_G} {root : Nat} : ∀ (F : z_F) (b u p lx pid : Nat) (m : mz_M), F ≠ .leaf → y_at G F b u → z_raw m (nI pid) F → (∀ id, id ∈ z_fid F → id < 12100 ∧ id ≠ root) → root < 12100 → b + z_fsz F ≤ 4001 → u < b → m 55 43 = nI b → m 84 u = nI p → p ≤ b → (p = 0 → m 86 u = -1) → (0 < p → 0 ≤ m 86 u ∧ m 87 u = nI lx ∧ u < lx ∧ lx < b) → (∀ m', y_nf m m' b (b + z_fsz F) u p lx → m' 55 43 = nI (b + z_fsz F) → y_nm G m' b (b + z_fsz F) → y_n8 G m' b (b + z_fsz F) u (b + z_fsz F) → m' 84 u = nI (p + z_fln F) → m' 86 u = (if p = 0 then nI b else m 86 u) → m' 87 u = nI (y_lst b F) → (0 < p → m' 88 lx = nI b) → mz_gv X mz_sh 156 172 [some (.ref 55), some (.int (nI root)), some (.int (nI (z_lid F))), some (.int (nI u)), none] m' Q) → mz_gv X mz_sh 156 9 [some (.ref 55), some (.int (nI root)), some (.int (z_fhd F)), some (.int (nI u)), none] m Q := by
  intro F
  induction F with
  | leaf => intro b u p lx pid m h; exact absurd rfl h
  | inner s a v l r ihl ihr =>
    intro b u p lx pid m _ hG hraw hid hrt hsz hu h43 h84 hp41 hp0 hp1 hQ
    simp only [z_fsz] at hsz hQ
    obtain ⟨g1, g2, g3⟩ := hG
    obtain ⟨w1, w2, w3, w4, w5, w6, w7, w8⟩ := hraw
    obtain ⟨hid1, hid2⟩ := hid a.2.2 List.mem_cons_self
    have hidl : ∀ id, id ∈ z_fid l → id < 12100 ∧ id ≠ root := fun id h => hid id (List.mem_cons_of_mem _ (List.mem_append.mpr (Or.inl h)))
    have hidr : ∀ id, id ∈ z_fid r → id < 12100 ∧ id ≠ root := fun id h => hid id (List.mem_cons_of_mem _ (List.mem_append.mpr (Or.inr h)))
    show mz_gv X mz_sh 156 9 [some (.ref 55), some (.int (nI root)), some (.int (nI a.2.2)), some (.int (nI u)), none] m Q
    refine s_M_n1 hid1 (by omega) hu h43 hp0 hp1 (fun m1 st1 => ?_)
    obtain ⟨a0, a43, a82, a83, a84, a86, a87, a88, a89, u84, u86, u87, ulx, o82, o84, o88⟩ := st1
    rw [w1] at a82
    rw [w2] at a83
    rw [h84, nI_1] at u84
    have raws : ∀ id, y_sm m m1 id := fun id => ⟨by rw [a0.1 76 (by decide) (by decide)], by rw [a0.1 77 (by decide) (by decide)], by rw [a0.1 78 (by decide) (by decide)], by rw [a0.1 79 (by decide) (by decide)], by rw [a0.1 80 (by decide) (by decide)], by rw [a0.1 81 (by decide) (by decide)]⟩
    have hinid : mz_inb (nI a.2.2) 12100 = true := mz_inbN hid1 (by decide)
    have hlln := z_fln_sz l
    -- behind the parts of the node
    have behind : ∀ m2, z_fm [82, 83, 84, 86, 87, 88, 89] [43] m1 m2 → m2 55 43 = nI (b + 1 + z_fsz l) → y_nm G m2 (b + 1) (b + 1 + z_fsz l) → y_n8 G m2 (b + 1) (b + 1 + z_fsz l) b (b + 1 + z_fsz l) → m2 84 b = nI (z_fln l) → m2 86 b = (if y_fro (b + 1) l = [] then -1 else nI (b + 1)) → (y_fro (b + 1) l = [] → m2 87 b = -1) → (∀ x, (y_fro (b + 1) l).getLast? = some x → m2 87 b = nI x) → (∀ i, i < b + 1 ∨ b + 1 + z_fsz l ≤ i → m2 82 i = m1 82 i ∧ m2 83 i = m1 83 i ∧ m2 89 i = m1 89 i) → (∀ i, i < b + 1 ∨ b + 1 + z_fsz l ≤ i → i ≠ b → m2 84 i = m1 84 i ∧ m2 86 i = m1 86 i ∧ m2 87 i = m1 87 i) → (∀ i, i < b + 1 ∨ b + 1 + z_fsz l ≤ i → m2 88 i = m1 88 i) → mz_gv X mz_sh 156 172 [some (.ref 55), some (.int (nI root)), some (.int (nI a.2.2)), some (.int (nI u)), none] m2 Q := by
      intro m2 f2 c43 cnm cn8 c84 c86 c87a c87b d82 d84 d88
      have f12 := a0.tr f2
      -- the node itself
      have nmb : m2 82 b = nI a.1 ∧ m2 83 b = nI a.2.1 ∧ m2 89 b = nI u := by
        obtain ⟨q1, q2, q3⟩ := d82 b (Or.inl (by omega))
        exact ⟨by rw [q1, a82], by rw [q2, a83], by rw [q3, a89]⟩
      have nm2 : y_nm G m2 b (b + 1 + z_fsz l) := by
        intro i i1 i2
        by_cases e : i = b
        · subst e
          rw [g1]
          exact ⟨nmb.1, nmb.2.1, by rw [c84, y_fro_len], c86, c87a, c87b, nmb.2.2⟩
        · exact cnm i (by omega) i2
      have x84 : m2 84 u = nI (p + 1) := by rw [(d84 u (Or.inl (by omega)) (by omega)).1]; exact u84
      have x86 : m2 86 u = (if p = 0 then nI b else m 86 u) := by rw [(d84 u (Or.inl (by omega)) (by omega)).2.1]; exact u86
      have x87 : m2 87 u = nI b := by rw [(d84 u (Or.inl (by omega)) (by omega)).2.2]; exact u87
      have x88b : m2 88 b = -1 := by rw [d88 b (Or.inl (by omega))]; exact a88
      have xlx : 0 < p → m2 88 lx = nI b := fun h => by
        have := (hp1 h).2.2.2
        rw [d88 lx (Or.inl (by omega))]
        exact ulx h
      have fr82 : ∀ i, i < b ∨ b + 1 + z_fsz l ≤ i → m2 82 i = m 82 i ∧ m2 83 i = m 83 i ∧ m2 89 i = m 89 i := fun i hi => by
        obtain ⟨q1, q2, q3⟩ := d82 i (by omega)
        obtain ⟨p1, p2, p3⟩ := o82 i (by omega)
        exact ⟨q1.trans p1, q2.trans p2, q3.trans p3⟩
      have fr84 : ∀ i, i < b ∨ b + 1 + z_fsz l ≤ i → i ≠ u → m2 84 i = m 84 i ∧ m2 86 i = m 86 i ∧ m2 87 i = m 87 i := fun i hi hi2 => by
        obtain ⟨q1, q2, q3⟩ := d84 i (by omega) (by omega)
        obtain ⟨p1, p2, p3⟩ := o84 i (by omega) hi2
        exact ⟨q1.trans p1, q2.trans p2, q3.trans p3⟩
      have fr88 : ∀ i, i < b ∨ b + 1 + z_fsz l ≤ i → (0 < p → i ≠ lx) → m2 88 i = m 88 i := fun i hi hi2 => (d88 i (by omega)).trans (o88 i (by omega) hi2)
      have e80 : m2 80 a.2.2 = z_fhd r := by rw [f12.1 80 (by decide) (by decide)]; exact w5
      have hszb : (G b).2.2.1 = 1 + z_fsz l := by rw [g1]
      have hupb : (G b).2.2.2.2.1 = u := by rw [g1]
      by_cases hr : r = .leaf
      · subst hr
        simp only [z_fsz, Nat.add_zero] at hQ
        rw [show b + (1 + z_fsz l) = b + 1 + z_fsz l by omega] at hQ
        refine hQ m2 ⟨f12, fr82, fr84, fr88⟩ c43 nm2 (fun i i1 i2 => ?_) (by rw [x84]; rfl) x86 x87 xlx
        by_cases e : i = b
        · subst e
          rw [x88b, hszb, hupb, if_pos rfl, if_pos (by omega)]
        · rw [cn8 i (by omega) i2]
          -- a node below b is no part of u
          have hupi : b ≤ (G i).2.2.2.2.1 := by
            have := (y_nup l (b + 1) b g2 i (by omega) i2)
            omega
          have eE : (if (G i).2.2.2.2.1 = b then b + 1 + z_fsz l else (G i).2.2.2.2.1 + (G (G i).2.2.2.2.1).2.2.1) = (if (G i).2.2.2.2.1 = u then b + 1 + z_fsz l else (G i).2.2.2.2.1 + (G (G i).2.2.2.2.1).2.2.1) := by
            have hnu : ¬ (G i).2.2.2.2.1 = u := by omega
            rw [if_neg hnu]
            by_cases e2 : (G i).2.2.2.2.1 = b
            · rw [if_pos e2, e2, hszb]
              omega
            · rw [if_neg e2]
          rw [eE]
      · have hrr : z_raw m2 (nI pid) r := z_raw_fr _ _ (fun id _ => ⟨by rw [f12.1 76 (by decide) (by decide)], by rw [f12.1 77 (by decide) (by decide)], by rw [f12.1 78 (by decide) (by decide)], by rw [f12.1 79 (by decide) (by decide)], by rw [f12.1 80 (by decide) (by decide)], by rw [f12.1 81 (by decide) (by decide)]⟩) w8
        have hhd : 0 ≤ z_fhd r := by
          cases r with
          | leaf => exact absurd rfl hr
          | inner s1 a1 v1 l1 r1 =>
            have := (hidr a1.2.2 List.mem_cons_self).1
            exact nI_pos' (by omega)
        have hlid : z_lid (.inner s a v l r) = z_lid r := by
          cases r with
          | leaf => exact absurd rfl hr
          | inner s1 a1 v1 l1 r1 => rfl
        have hlst : y_lst b (.inner s a v l r) = y_lst (b + 1 + z_fsz l) r := by
          cases r with
          | leaf => exact absurd rfl hr
          | inner s1 a1 v1 l1 r1 => rfl
        have hne : ¬ nI a.2.2 = nI root := fun e => hid2 ((nI_eq (by omega) (by omega)).mp e)
        have hlnr : z_fln (.inner s a v l r) = 1 + z_fln r := rfl
        have hsr : 1 ≤ z_fsz r := by
          cases r with
          | leaf => exact absurd rfl hr
          | inner s1 a1 v1 l1 r1 => simp only [z_fsz]; omega
        refine t_M_number_4 _ _ _ ⟨fun e => absurd e hne, fun _ => ?_⟩
        rw [nI_clamp (by omega), e80]
        refine ⟨hinid, fun _ => t_M_number_5 _ _ _ ⟨fun e => absurd e hne, fun _ => ⟨hinid, ?_⟩⟩, fun g => absurd hhd g⟩
        rw [nI_clamp (by omega), e80]
        refine t_M_number_6 _ _ _ (ihr (b + 1 + z_fsz l) u (p + 1) b pid m2 hr g3 hrr hidr hrt (by omega) (by omega) c43 x84 (by omega) (fun h => by omega) (fun _ => ⟨?_, x87, hu, by omega⟩) (fun m3 nf3 e43 enm en8 e84 e86 e87 elx => ?_))
        · rw [x86]
          by_cases hp : p = 0
          · rw [if_pos hp]; exact nI_pos' (by omega)
          · rw [if_neg hp]; exact (hp1 (by omega)).1
        · obtain ⟨n0, n1, n2, n3⟩ := nf3
          rw [hlid, hlst, hlnr, show b + (1 + z_fsz l + z_fsz r) = b + 1 + z_fsz l + z_fsz r by omega] at hQ
          have hxb : ∀ i, b ≤ i → i < b + 1 + z_fsz l → m3 82 i = m2 82 i ∧ m3 83 i = m2 83 i ∧ m3 84 i = m2 84 i ∧ m3 86 i = m2 86 i ∧ m3 87 i = m2 87 i ∧ m3 89 i = m2 89 i := fun i i1 i2 => by
            obtain ⟨q1, q2, q3⟩ := n1 i (Or.inl i2)
            obtain ⟨q4, q5, q6⟩ := n2 i (Or.inl i2) (by omega)
            exact ⟨q1, q2, q4, q5, q6, q3⟩
          refine hQ m3 ⟨f12.tr n0, fun i hi => ?_, fun i hi hi2 => ?_, fun i hi hi2 => ?_⟩ e43 (fun i i1 i2 => ?_) (fun i i1 i2 => ?_) (by rw [e84]; congr 1; omega) ?_ e87 (fun h => ?_)
          · obtain ⟨q1, q2, q3⟩ := n1 i (by omega)
            obtain ⟨p1, p2, p3⟩ := fr82 i (by omega)
            exact ⟨q1.trans p1, q2.trans p2, q3.trans p3⟩
          · obtain ⟨q1, q2, q3⟩ := n2 i (by omega) hi2
            obtain ⟨p1, p2, p3⟩ := fr84 i (by omega) hi2
            exact ⟨q1.trans p1, q2.trans p2, q3.trans p3⟩
          · exact (n3 i (by omega) (fun _ => by omega)).trans (fr88 i (by omega) hi2)
          · by_cases e : i < b + 1 + z_fsz l
            · obtain ⟨q1, q2, q3, q4, q5, q6⟩ := hxb i i1 e
              rw [q1, q2, q3, q4, q5, q6]
              exact nm2 i i1 e
            · exact enm i (by omega) i2
          · by_cases e : i < b + 1 + z_fsz l
            · by_cases e2 : i = b
              · subst e2
                rw [elx (by omega), hszb, hupb, if_pos rfl, if_neg (by omega)]
                congr 1
                omega
              · rw [n3 i (Or.inl e) (fun _ => e2), cn8 i (by omega) e]
                have hupi : b ≤ (G i).2.2.2.2.1 := by
                  have := (y_nup l (b + 1) b g2 i (by omega) e)
                  omega
                have eE : (if (G i).2.2.2.2.1 = b then b + 1 + z_fsz l else (G i).2.2.2.2.1 + (G (G i).2.2.2.2.1).2.2.1) = (if (G i).2.2.2.2.1 = u then b + 1 + z_fsz l + z_fsz r else (G i).2.2.2.2.1 + (G (G i).2.2.2.2.1).2.2.1) := by
                  have hnu : ¬ (G i).2.2.2.2.1 = u := by omega
                  rw [if_neg hnu]
                  by_cases e2 : (G i).2.2.2.2.1 = b
                  · rw [if_pos e2, e2, hszb]
                    omega
                  · rw [if_neg e2]
                rw [eE]
            · exact en8 i (by omega) i2
          · rw [e86, if_neg (by omega)]
            exact x86
          · have := (hp1 h).2.2.2
            rw [n3 lx (Or.inl (by omega)) (fun _ => by omega)]
            exact xlx h
    -- down, or along
    refine t_M_number_3 _ _ _ _ ⟨hinid, ?_⟩
    rw [nI_clamp (by omega), a0.1 78 (by decide) (by decide), w3]
    by_cases hl : l = .leaf
    · subst hl
      refine ⟨fun _ => ?_, fun g => absurd (by decide : z_fhd (.leaf : z_F) < 0) g⟩
      simp only [z_fsz, Nat.add_zero] at behind
      exact behind m1 (z_fm.rf _ _ _) a43 (fun i i1 i2 => by omega) (fun i i1 i2 => by omega) (by rw [a84]; rfl) (by rw [a86]; rfl) (fun _ => a87) (fun x hx => by cases hx) (fun _ _ => ⟨rfl, rfl, rfl⟩) (fun _ _ _ => ⟨rfl, rfl, rfl⟩) (fun _ _ => rfl)
    · have hhd : 0 ≤ z_fhd l := by
        cases l with
        | leaf => exact absurd rfl hl
        | inner s1 a1 v1 l1 r1 =>
          have := (hidl a1.2.2 List.mem_cons_self).1
          exact nI_pos' (by omega)
      refine ⟨fun g => absurd g (Int32.not_lt.mpr hhd), fun _ => ⟨hinid, t_M_number_6 _ _ _ ?_⟩⟩
      have hrl : z_raw m1 (nI a.2.2) l := z_raw_fr _ _ (fun id _ => raws id) w7
      refine ihl (b + 1) b 0 0 a.2.2 m1 hl g2 hrl hidl hrt (by omega) (by omega) a43 a84 (by omega) (fun _ => a86) (fun h => by omega) (fun m2 nf2 e43 enm en8 e84 e86 e87 elx => ?_)
      obtain ⟨n0, n1, n2, n3⟩ := nf2
      -- climb
      obtain ⟨k1, k2⟩ := z_fls_lid l hl
      obtain ⟨lb1, lb2⟩ := hidl (z_lid l) k2
      have hne : ¬ nI (z_lid l) = nI root := fun e => lb2 ((nI_eq (by omega) (by omega)).mp e)
      have hraw2 : z_raw m2 (nI a.2.2) l := z_raw_fr _ _ (fun id _ => ⟨by rw [n0.1 76 (by decide) (by decide)], by rw [n0.1 77 (by decide) (by decide)], by rw [n0.1 78 (by decide) (by decide)], by rw [n0.1 79 (by decide) (by decide)], by rw [n0.1 80 (by decide) (by decide)], by rw [n0.1 81 (by decide) (by decide)]⟩) hrl
      obtain ⟨c80, c81⟩ := y_lid_raw l hl hraw2
      refine t_M_number_4 _ _ _ ⟨fun e => absurd e hne, fun _ => ?_⟩
      rw [nI_clamp (show z_lid l < 2 ^ 31 by omega), c80, c81, nI_clamp (show b < 2 ^ 31 by omega)]
      have hinl : mz_inb (nI (z_lid l)) 12100 = true := mz_inbN lb1 (by decide)
      refine ⟨hinl, fun g => absurd g (by decide), fun _ => ⟨hinl, mz_inbN (by omega) (by decide), ?_⟩⟩
      have e89 : m2 89 b = nI u := by rw [(n1 b (Or.inl (by omega))).2.2]; exact a89
      rw [e89]
      obtain ⟨ll1, ll2, ll3⟩ := y_lst_last (b := 0) l (b + 1) hl
      have hfro : y_fro (b + 1) l ≠ [] := by
        intro e
        rw [e] at ll1
        cases ll1
      refine behind m2 n0 e43 enm en8 (by rw [e84]; congr 1; omega) (by rw [if_neg hfro, e86, if_pos rfl]) (fun h => absurd h hfro) (fun x hx => ?_) (fun i hi => n1 i hi) (fun i hi hi2 => n2 i hi hi2) (fun i hi => n3 i hi (fun h => by omega))
      rw [ll1] at hx
      cases hx
      exact e87
