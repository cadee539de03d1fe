/-! the reference's parser: nodes and links -/
def z_raw (m : mz_M) : Int32 → z_F → Prop
  | _, .leaf => True
  | u, .inner _ a _ l r => m 76 a.2.2 = nI a.1 ∧ m 77 a.2.2 = nI a.2.1 ∧ m 78 a.2.2 = z_fhd l ∧ m 79 a.2.2 = z_fls l ∧ m 80 a.2.2 = z_fhd r ∧ m 81 a.2.2 = u ∧ z_raw m (nI a.2.2) l ∧ z_raw m u r
/-- the links of a number are as they were -/
def y_sm (m m' : mz_M) (id : Nat) : Prop := m' 76 id = m 76 id ∧ m' 77 id = m 77 id ∧ m' 78 id = m 78 id ∧ m' 79 id = m 79 id ∧ m' 80 id = m 80 id ∧ m' 81 id = m 81 id
theorem y_sm.tr {m m1 m2 : mz_M} {id : Nat} (h : y_sm m m1 id) (h2 : y_sm m1 m2 id) : y_sm m m2 id := ⟨h2.1.trans h.1, h2.2.1.trans h.2.1, h2.2.2.1.trans h.2.2.1, h2.2.2.2.1.trans h.2.2.2.1, h2.2.2.2.2.1.trans h.2.2.2.2.1, h2.2.2.2.2.2.trans h.2.2.2.2.2⟩
theorem z_raw_fr {m m' : mz_M} : ∀ (F : z_F) (u : Int32), (∀ id, id ∈ z_fid F → y_sm m m' id) → z_raw m u F → z_raw m' u F := by
  intro F
  induction F with
  | leaf => intro u _ _; trivial
  | inner s a v l r ihl ihr =>
    intro u h hm
    obtain ⟨h1, h2, h3, h4, h5, h6, h7, h8⟩ := hm
    obtain ⟨k1, k2, k3, k4, k5, k6⟩ := h a.2.2 List.mem_cons_self
    exact ⟨by rw [k1, h1], by rw [k2, h2], by rw [k3, h3], by rw [k4, h4], by rw [k5, h5], by rw [k6, h6], ihl _ (fun id hid => h id (List.mem_cons_of_mem _ (List.mem_append.mpr (Or.inl hid)))) h7, ihr _ (fun id hid => h id (List.mem_cons_of_mem _ (List.mem_append.mpr (Or.inr hid)))) h8⟩
def z_lid : z_F → Nat
  | .leaf => 0
  | .inner _ a _ _ .leaf => a.2.2
  | .inner _ _ _ _ r => z_lid r
theorem z_fls_lid : ∀ (F : z_F), F ≠ .leaf → z_fls F = nI (z_lid F) ∧ z_lid F ∈ z_fid F := by
  intro F
  induction F with
  | leaf => intro h; exact absurd rfl h
  | inner s a v l r ihl ihr =>
    intro _
    cases r with
    | leaf => exact ⟨rfl, List.mem_cons_self⟩
    | inner s2 a2 v2 l2 r2 =>
      obtain ⟨h1, h2⟩ := ihr (by intro h; cases h)
      exact ⟨h1, List.mem_cons_of_mem _ (List.mem_append.mpr (Or.inr h2))⟩
theorem z_fls_ap : ∀ (F : z_F) (s : Nat) (a : Nat × Nat × Nat) (v : Unit) (l : z_F), z_fls (z_fap F (.inner s a v l .leaf)) = nI a.2.2 := by
  intro F
  induction F with
  | leaf => intro s a v l; rfl
  | inner s1 a1 v1 l1 r1 ihl ihr =>
    intro s a v l
    cases r1 with
    | leaf => rfl
    | inner s2 a2 v2 l2 r2 => exact ihr s a v l
theorem z_fhd_ap {F G : z_F} (h : F ≠ .leaf) : z_fhd (z_fap F G) = z_fhd F := by
  cases F with
  | leaf => exact absurd rfl h
  | inner s a v l r => rfl
/-- behind the last tree another one is hung -/
theorem z_raw_hang {m m' : mz_M} {u : Int32} {T : z_F} : ∀ (K : z_F), K ≠ .leaf → (z_fid K).Nodup → z_raw m u K → (∀ id, id ∈ z_fid K → m' 76 id = m 76 id ∧ m' 77 id = m 77 id ∧ m' 78 id = m 78 id ∧ m' 79 id = m 79 id ∧ m' 81 id = m 81 id ∧ (id ≠ z_lid K → m' 80 id = m 80 id)) → m' 80 (z_lid K) = z_fhd T → z_raw m' u T → z_raw m' u (z_fap K T) := by
  intro K
  induction K with
  | leaf => intro h; exact absurd rfl h
  | inner s a v l r ihl ihr =>
    intro _ hnd hm hk h80 hT
    obtain ⟨h1, h2, h3, h4, h5, h6, h7, h8⟩ := hm
    obtain ⟨k1, k2, k3, k4, k6, k5⟩ := hk a.2.2 List.mem_cons_self
    simp only [z_fid, List.nodup_cons, List.nodup_append] at hnd
    obtain ⟨nd1, nd2, nd3, nd4⟩ := hnd
    have hl : z_raw m' (nI a.2.2) l := by
      refine z_raw_fr l _ (fun id hid => ?_) h7
      obtain ⟨j1, j2, j3, j4, j6, j5⟩ := hk id (List.mem_cons_of_mem _ (List.mem_append.mpr (Or.inl hid)))
      refine ⟨j1, j2, j3, j4, j5 (fun e => ?_), j6⟩
      cases r with
      | leaf =>
        have : id = a.2.2 := e
        exact nd1 (List.mem_append.mpr (Or.inl (this ▸ hid)))
      | inner s2 a2 v2 l2 r2 =>
        have := (z_fls_lid (.inner s2 a2 v2 l2 r2) (by intro h; cases h)).2
        have e' : id = z_lid (.inner s2 a2 v2 l2 r2) := e
        exact nd4 id hid _ this e'
    cases r with
    | leaf =>
      exact ⟨by rw [k1, h1], by rw [k2, h2], by rw [k3, h3], by rw [k4, h4], h80, by rw [k6, h6], hl, hT⟩
    | inner s2 a2 v2 l2 r2 =>
      have hlid : z_lid (.inner s a v l (.inner s2 a2 v2 l2 r2)) = z_lid (.inner s2 a2 v2 l2 r2) := rfl
      rw [hlid] at h80 k5
      have hin := (z_fls_lid (.inner s2 a2 v2 l2 r2) (by intro h; cases h)).2
      have hne : a.2.2 ≠ z_lid (.inner s2 a2 v2 l2 r2) := fun e => nd1 (List.mem_append.mpr (Or.inr (e ▸ hin)))
      refine ⟨by rw [k1, h1], by rw [k2, h2], by rw [k3, h3], by rw [k4, h4], ?_, by rw [k6, h6], hl, ?_⟩
      · rw [k5 hne, h5]
        rfl
      · exact ihr (by intro h; cases h) nd3 h8 (fun id hid => hk id (List.mem_cons_of_mem _ (List.mem_append.mpr (Or.inr hid)))) h80 hT
/-- a node in the making: its parts so far -/
def y_pt (m0 m : mz_M) (w k t : Nat) (K : z_F) : Prop := z_fm [76, 77, 78, 79, 80, 81] [33] m0 m ∧ m 76 w = nI k ∧ m 77 w = nI t ∧ m 78 w = z_fhd K ∧ m 79 w = z_fls K ∧ m 80 w = -1 ∧ m 81 w = -1 ∧ z_raw m (nI w) K ∧ (∀ id, id ≠ w → id ∉ z_fid K → y_sm m0 m id)
theorem y_pt.raw {m0 m : mz_M} {w k t : Nat} {K : z_F} (h : y_pt m0 m w k t K) : z_raw m (-1) (.inner 0 (k, t, w) () K .leaf) := ⟨h.2.1, h.2.2.1, h.2.2.2.1, h.2.2.2.2.1, h.2.2.2.2.2.1, h.2.2.2.2.2.2.1, h.2.2.2.2.2.2.2.1, trivial⟩
theorem s_M_raw {X : mz_X} {m : mz_M} {Q : Int32 → mz_M → Prop} {w k t : Nat} (h : m 55 33 = nI w) (hw : w < 12100) (hQ : ∀ m', y_pt m m' w k t .leaf → m' 55 33 = nI (w + 1) → Q (nI w) m') : mz_gi X mz_sh 147 0 [some (.ref 55), some (.int (nI k)), some (.int (nI t))] m Q := by
  have hin : mz_inb (nI w) 12100 = true := mz_inbN hw (by decide)
  refine t_M_raw_0 _ _ ?_
  rw [h, nI_clamp (by omega), nI_1, nI_m1 (by omega), Nat.add_sub_cancel]
  refine ⟨hin, hin, hin, hin, hin, hin, hQ _ ⟨?_, by simp [mz_up, upd], by simp [mz_up, upd], by simp [mz_up, upd, z_fhd], by simp [mz_up, upd, z_fls], by simp [mz_up, upd], by simp [mz_up, upd], trivial, fun id hid _ => ?_⟩ (by simp [mz_up, upd])⟩
  · exact (((((((z_fm.rf _ _ _).up (by decide) (by decide)).up (by decide) (by decide)).up (by decide) (by decide)).up (by decide) (by decide)).up (by decide) (by decide)).up (by decide) (by decide)).uf (by decide)
  · unfold y_sm
    simp [mz_up, upd, hid]
theorem s_M_hang {X : mz_X} {m0 m : mz_M} {Q : mz_M → Prop} {w k t : Nat} {K : z_F} {s : Nat} {a : Nat × Nat × Nat} {v : Unit} {l : z_F} (h : y_pt m0 m w k t K) (hT : z_raw m0 (-1) (.inner s a v l .leaf)) (hnd : (w :: (z_fid K ++ z_fid (.inner s a v l .leaf))).Nodup) (hb : ∀ id, id ∈ w :: (z_fid K ++ z_fid (.inner s a v l .leaf)) → id < 12100) (hQ : ∀ m', y_pt m0 m' w k t (z_fap K (.inner s a v l .leaf)) → m' 55 = m 55 → Q m') : mz_gv X mz_sh 148 0 [some (.ref 55), some (.int (nI w)), some (.int (nI a.2.2))] m Q := by
  obtain ⟨p1, p2, p3, p4, p5, p6, p7, p8, p9⟩ := h
  have hid : a.2.2 ∈ z_fid (.inner s a v l .leaf) := List.mem_cons_self
  have hwb : w < 12100 := hb w List.mem_cons_self
  have hab : a.2.2 < 12100 := hb _ (List.mem_cons_of_mem _ (List.mem_append.mpr (Or.inr hid)))
  have hinw : mz_inb (nI w) 12100 = true := mz_inbN hwb (by decide)
  have hina : mz_inb (nI a.2.2) 12100 = true := mz_inbN hab (by decide)
  simp only [List.nodup_cons, List.nodup_append] at hnd
  obtain ⟨nw, nK, nT, nKT⟩ := hnd
  have nwK : w ∉ z_fid K := fun hm => nw (List.mem_append.mpr (Or.inl hm))
  have nwT : w ∉ z_fid (.inner s a v l .leaf) := fun hm => nw (List.mem_append.mpr (Or.inr hm))
  have naw : a.2.2 ≠ w := fun e => nwT (e ▸ hid)
  have naK : a.2.2 ∉ z_fid K := fun hm => nKT _ hm _ hid rfl
  have hTs : ∀ id, id ∈ z_fid (.inner s a v l .leaf) → y_sm m0 m id := fun id hm => p9 id (fun e => nwT (e ▸ hm)) (fun hk => nKT _ hk _ hm rfl)
  have hT' : z_raw m (-1) (.inner s a v l .leaf) := z_raw_fr _ _ hTs hT
  obtain ⟨t1, t2, t3, t4, t5, t6, t7, t8⟩ := hT'
  have nal : a.2.2 ∉ z_fid l := by
    simp only [z_fid, List.append_nil, List.nodup_cons] at nT
    exact nT.1
  have hidl : ∀ id, id ∈ z_fid l → id ∈ z_fid (.inner s a v l .leaf) := fun id hm => List.mem_cons_of_mem _ (List.mem_append.mpr (Or.inl hm))
  refine t_M_hang_0 _ _ ⟨hina, hinw, ?_⟩
  rw [nI_clamp (show w < 2 ^ 31 by omega), nI_clamp (show a.2.2 < 2 ^ 31 by omega), p4, p5]
  by_cases hK : K = .leaf
  · subst hK
    refine ⟨fun g => absurd g (by decide), fun _ => ⟨hinw, hinw, hQ _ ⟨?_, ?_, ?_, ?_, ?_, ?_, ?_, ?_, ?_⟩ (by rw [mz_up_n _ _ _ (by decide), mz_up_n _ _ _ (by decide), mz_up_n _ _ _ (by decide)])⟩⟩
    · exact ((p1.up (by decide) (by decide)).up (by decide) (by decide)).up (by decide) (by decide)
    · simp only [mz_up]; simpa using p2
    · simp only [mz_up]; simpa using p3
    · simp [mz_up, upd, z_fap, z_fhd]
    · simp [mz_up, upd, z_fap, z_fls]
    · simp only [mz_up]; simpa using p6
    · have : w ≠ a.2.2 := fun e => naw e.symm
      simp only [mz_up]
      simp [upd, this]
      exact p7
    · refine ⟨?_, ?_, ?_, ?_, ?_, ?_, ?_, trivial⟩
      · simp only [mz_up]; simpa using t1
      · simp only [mz_up]; simpa using t2
      · simp only [mz_up]; simp [upd, naw]; exact t3
      · simp only [mz_up]; simp [upd, naw]; exact t4
      · simp only [mz_up]; simpa using t5
      · simp [mz_up, upd]
      · refine z_raw_fr l _ (fun id hm => ?_) t7
        have n1 : id ≠ w := fun e => nwT (e ▸ hidl id hm)
        have n2 : id ≠ a.2.2 := fun e => nal (e ▸ hm)
        unfold y_sm
        simp [mz_up, upd, n1, n2]
    · intro id n1 n2
      have n2' : id ∉ z_fid (.inner s a v l .leaf) := n2
      have n3 : id ≠ a.2.2 := fun e => n2' (e ▸ hid)
      refine (p9 id n1 (by simp [z_fid])).tr ?_
      unfold y_sm
      simp [mz_up, upd, n1, n3]
  · obtain ⟨e1, e2⟩ := z_fls_lid K hK
    have hlb : z_lid K < 12100 := hb _ (List.mem_cons_of_mem _ (List.mem_append.mpr (Or.inl e2)))
    have hhd : 0 ≤ z_fhd K := by
      cases K with
      | leaf => exact absurd rfl hK
      | inner s1 a1 v1 l1 r1 =>
        have : a1.2.2 < 12100 := hb _ (List.mem_cons_of_mem _ (List.mem_append.mpr (Or.inl List.mem_cons_self)))
        exact nI_pos' (by omega)
    have nlw : z_lid K ≠ w := fun e => nwK (e ▸ e2)
    have nla : z_lid K ≠ a.2.2 := fun e => naK (e ▸ e2)
    rw [e1, nI_clamp (by omega)]
    refine ⟨fun _ => ⟨hinw, mz_inbN hlb (by decide), hinw, hQ _ ⟨?_, ?_, ?_, ?_, ?_, ?_, ?_, ?_, ?_⟩ (by rw [mz_up_n _ _ _ (by decide), mz_up_n _ _ _ (by decide), mz_up_n _ _ _ (by decide)])⟩, fun g => absurd hhd g⟩
    · exact ((p1.up (by decide) (by decide)).up (by decide) (by decide)).up (by decide) (by decide)
    · simp only [mz_up]; simpa using p2
    · simp only [mz_up]; simpa using p3
    · rw [z_fhd_ap hK]
      simp only [mz_up]; simpa using p4
    · rw [z_fls_ap]
      simp [mz_up, upd]
    · have : w ≠ z_lid K := fun e => nlw e.symm
      simp only [mz_up]
      simp [upd, this]
      exact p6
    · have : w ≠ a.2.2 := fun e => naw e.symm
      simp only [mz_up]
      simp [upd, this]
      exact p7
    · refine z_raw_hang K hK nK p8 (fun id hm => ?_) ?_ ⟨?_, ?_, ?_, ?_, ?_, ?_, ?_, trivial⟩
      · have n1 : id ≠ w := fun e => nwK (e ▸ hm)
        have n2 : id ≠ a.2.2 := fun e => naK (e ▸ hm)
        simp only [mz_up]
        simp [upd, n1, n2]
        intro g1 g2
        exact absurd g2 g1
      · simp [mz_up, upd, z_fhd]
      · simp only [mz_up]; simpa using t1
      · simp only [mz_up]; simpa using t2
      · simp only [mz_up]; simpa using t3
      · simp only [mz_up]; simp [upd, naw]; exact t4
      · have : a.2.2 ≠ z_lid K := fun e => nla e.symm
        simp only [mz_up]; simp [upd, this]; exact t5
      · simp [mz_up, upd]
      · refine z_raw_fr l _ (fun id hm => ?_) t7
        have n1 : id ≠ w := fun e => nwT (e ▸ hidl id hm)
        have n2 : id ≠ a.2.2 := fun e => nal (e ▸ hm)
        have n3 : id ≠ z_lid K := fun e => nKT _ e2 _ (hidl id hm) e.symm
        unfold y_sm
        simp [mz_up, upd, n1, n2, n3]
    · intro id n1 n2
      rw [z_fid_ap] at n2
      have n3 : id ∉ z_fid K := fun hm => n2 (List.mem_append.mpr (Or.inl hm))
      have n4 : id ≠ a.2.2 := fun e => n2 (List.mem_append.mpr (Or.inr (e ▸ hid)))
      have n5 : id ≠ z_lid K := fun e => n3 (e ▸ e2)
      refine (p9 id n1 n3).tr ?_
      unfold y_sm
      simp [mz_up, upd, n1, n4, n5]
