/-! runs: what both sides share; the code's run -/
abbrev z_rs : Type := Int32 × Nat × (Nat → Int32) × (Nat → Int32)
def q_A (m : mz_M) (F t : Nat) (s : z_rs) : Prop := m 47 0 = 1 ∧ m 47 2 = nI F ∧ m 47 3 = nI t ∧ m 47 4 = s.1 ∧ m 47 5 = nI s.2.1 ∧ m 48 = s.2.2.1 ∧ m 49 = s.2.2.2
def q_M (m : mz_M) (F t : Nat) (s : z_rs) : Prop := m 55 56 = 1 ∧ m 55 58 = nI F ∧ m 55 59 = nI t ∧ m 55 60 = s.1 ∧ m 55 61 = nI s.2.1 ∧ m 99 = s.2.2.1 ∧ m 97 = s.2.2.2
/-- all but these cells is as before -/
def z_fr (l : List Nat) (m m' : mz_M) : Prop := ∀ q, q ∉ l → m' q = m q
theorem z_fr.rf (l : List Nat) (m : mz_M) : z_fr l m m := fun _ _ => rfl
theorem z_fr.tr {l : List Nat} {m m1 m2 : mz_M} (h : z_fr l m m1) (h2 : z_fr l m1 m2) : z_fr l m m2 := fun q hq => (h2 q hq).trans (h q hq)
theorem z_fr.up {l : List Nat} {m m1 : mz_M} {k i : Nat} {v : Int32} (h : z_fr l m m1) (hk : k ∈ l) : z_fr l m (mz_up m1 k i v) := fun q hq => by
  have hqk : q ≠ k := fun e => hq (e ▸ hk)
  rw [mz_up_n _ _ _ hqk]
  exact h q hq
theorem z_fr.wk {l l' : List Nat} {m m1 : mz_M} (h : z_fr l m m1) (hl : ∀ q, q ∈ l → q ∈ l') : z_fr l' m m1 := fun q hq => h q (fun h1 => hq (hl q h1))
/-- the same, and of the reference's own fields all but these -/
def z_fm (l js : List Nat) (m m' : mz_M) : Prop := (∀ q, q ∉ l → q ≠ 55 → m' q = m q) ∧ ∀ j, j ∉ js → m' 55 j = m 55 j
theorem z_fm.rf (l js : List Nat) (m : mz_M) : z_fm l js m m := ⟨fun _ _ _ => rfl, fun _ _ => rfl⟩
theorem z_fm.tr {l js : List Nat} {m m1 m2 : mz_M} (h : z_fm l js m m1) (h2 : z_fm l js m1 m2) : z_fm l js m m2 := ⟨fun q hq h5 => (h2.1 q hq h5).trans (h.1 q hq h5), fun j hj => (h2.2 j hj).trans (h.2 j hj)⟩
theorem z_fm.up {l js : List Nat} {m m1 : mz_M} {k i : Nat} {v : Int32} (h : z_fm l js m m1) (hk : k ∈ l) (h5 : k ≠ 55) : z_fm l js m (mz_up m1 k i v) := ⟨fun q hq h6 => by
  have hqk : q ≠ k := fun e => hq (e ▸ hk)
  rw [mz_up_n _ _ _ hqk]
  exact h.1 q hq h6, fun j hj => by rw [mz_up_n _ _ _ (Ne.symm h5)]; exact h.2 j hj⟩
theorem z_fm.uf {l js : List Nat} {m m1 : mz_M} {i : Nat} {v : Int32} (h : z_fm l js m m1) (hk : i ∈ js) : z_fm l js m (mz_up m1 55 i v) := ⟨fun q hq h6 => by
  rw [mz_up_n _ _ _ h6]
  exact h.1 q hq h6, fun j hj => by
  have hji : j ≠ i := fun e => hj (e ▸ hk)
  rw [mz_up_k]
  simp only [upd, hji, if_false]
  exact h.2 j hj⟩
theorem z_fm.wk {l l' js js' : List Nat} {m m1 : mz_M} (h : z_fm l js m m1) (hl : ∀ q, q ∈ l → q ∈ l') (hj : ∀ q, q ∈ js → q ∈ js') : z_fm l' js' m m1 := ⟨fun q hq h5 => h.1 q (fun h1 => hq (hl q h1)) h5, fun j hjj => h.2 j (fun h1 => hjj (hj j h1))⟩
/-- a pile: its uppermost first -/
def z_pl (f : Nat → Int32) : List Int32 → Prop
  | [] => True
  | v :: t => f t.length = v ∧ z_pl f t
theorem z_pl_upd {f : Nat → Int32} {k : Nat} {v : Int32} : ∀ (l : List Int32), l.length ≤ k → z_pl f l → z_pl (upd f k v) l := by
  intro l
  induction l with
  | nil => intro _ _; trivial
  | cons a t ih =>
    intro hk h
    simp only [List.length_cons] at hk
    refine ⟨?_, ih (by omega) h.2⟩
    have : t.length ≠ k := by omega
    simp only [upd, this, if_false]
    exact h.1
def p_A (m : mz_M) (st : List Int32) : Prop := m 53 3 = nI st.length ∧ z_pl (m 54) st
def p_M (m : mz_M) (st : List Int32) : Prop := m 55 55 = nI st.length ∧ z_pl (m 98) st
theorem s_G_push {X : mz_X} {m : mz_M} {Q : mz_M → Prop} {v : Int32} {st : List Int32} (h : p_A m st) (hl : st.length < 208) (hQ : ∀ m', p_A m' (v :: st) → z_fr [53, 54] m m' → Q m') : mz_gv X mz_sh 19 0 [some (.ref 53), some (.int v)] m Q := by
  refine t_G_push_0 _ ⟨fun h1 => ?_, fun _ => ⟨by rw [h.1]; exact mz_inbN hl (by decide), hQ _ ⟨?_, ?_⟩ (((z_fr.rf _ _).up (by decide)).up (by decide))⟩⟩
  · rw [h.1] at h1
    exact absurd h1 (nI_ge (b := 208) hl (by decide))
  · rw [mz_up_k, h.1, nI_1]
    simp [upd]
  · rw [mz_up_n _ _ _ (by decide), mz_up_k, h.1, nI_clamp (by omega)]
    exact ⟨by simp [upd], z_pl_upd _ (Nat.le_refl _) h.2⟩
theorem s_G_pop {X : mz_X} {m : mz_M} {Q : Int32 → mz_M → Prop} {v : Int32} {st : List Int32} (h : p_A m (v :: st)) (hl : st.length < 208) (hQ : ∀ m', p_A m' st → z_fr [53, 54] m m' → Q v m') : mz_gi X mz_sh 20 0 [some (.ref 53)] m Q := by
  obtain ⟨h1, h2, h3⟩ := h
  simp only [List.length_cons] at h1
  refine t_G_pop_0 ⟨fun h0 => ?_, fun _ => ?_⟩
  · rw [h1] at h0
    exact absurd h0 (nI_ne0 (by omega) (by omega))
  · rw [h1, nI_pred, nI_clamp (by omega), h2]
    refine ⟨mz_inbN hl (by decide), hQ _ ⟨?_, ?_⟩ ((z_fr.rf _ _).up (by decide))⟩
    · rw [mz_up_k]; simp [upd]
    · rw [mz_up_n _ _ _ (by decide)]; exact h3
theorem s_M_push {X : mz_X} {m : mz_M} {Q : mz_M → Prop} {v : Int32} {st : List Int32} (h : p_M m st) (hl : st.length < 12200) (hQ : ∀ m', p_M m' (v :: st) → z_fm [98] [55] m m' → Q m') : mz_gv X mz_sh 174 0 [some (.ref 55), some (.int v)] m Q := by
  refine t_M_push_0 _ ⟨by rw [h.1]; exact mz_inbN hl (by decide), hQ _ ⟨?_, ?_⟩ (((z_fm.rf _ _ _).up (by decide) (by decide)).uf (by decide))⟩
  · rw [mz_up_k, h.1, nI_1]
    simp [upd]
  · rw [mz_up_n _ _ _ (by decide), mz_up_k, h.1, nI_clamp (by omega)]
    exact ⟨by simp [upd], z_pl_upd _ (Nat.le_refl _) h.2⟩
theorem s_M_pop {X : mz_X} {m : mz_M} {Q : Int32 → mz_M → Prop} {v : Int32} {st : List Int32} (h : p_M m (v :: st)) (hl : st.length < 12200) (hQ : ∀ m', p_M m' st → z_fm [98] [55] m m' → Q v m') : mz_gi X mz_sh 175 0 [some (.ref 55)] m Q := by
  obtain ⟨h1, h2, h3⟩ := h
  simp only [List.length_cons] at h1
  refine t_M_pop_0 ?_
  rw [h1, nI_pred, nI_clamp (by omega), h2]
  refine ⟨mz_inbN hl (by decide), hQ _ ⟨?_, ?_⟩ ((z_fm.rf _ _ _).uf (by decide))⟩
  · rw [mz_up_k]; simp [upd]
  · rw [mz_up_n _ _ _ (by decide)]; exact h3
def z_prt (s : z_rs) (v : Int32) : z_rs := (s.1, s.2.1 + 1, (if 1000 ≤ s.2.1 then s.2.2.1 else upd s.2.2.1 s.2.1 v), s.2.2.2)
def z_sto (s : z_rs) (k : Nat) (v : Int32) : z_rs := (s.1, s.2.1, s.2.2.1, upd s.2.2.2 k v)
theorem s_R_print {X : mz_X} {m : mz_M} {Q : mz_M → Prop} {v : Int32} {F t : Nat} {s : z_rs} (h : q_A m F t s) (hp : s.2.1 ≤ 100000) (hQ : ∀ m', q_A m' F t (z_prt s v) → z_fr [47, 48] m m' → m' 47 1 = m 47 1 → Q m') : mz_gv X mz_sh 39 0 [some (.ref 47), some (.int v)] m Q := by
  obtain ⟨h0, h1, h2, h3, h4, h5, h6⟩ := h
  have e : ∀ k : Nat, k ≤ 100000 → ((1000 : Int32) ≤ nI k ↔ 1000 ≤ k) := fun k hk => nI_leI (a := 1000) (by decide) (by omega)
  refine t_R_print_0 _ ⟨fun g => hQ _ ⟨?_, ?_, ?_, ?_, ?_, ?_, ?_⟩ ((z_fr.rf _ _).up (by decide)) ?_, fun g => ⟨?_, hQ _ ⟨?_, ?_, ?_, ?_, ?_, ?_, ?_⟩ (((z_fr.rf _ _).up (by decide)).up (by decide)) ?_⟩⟩
  · rw [mz_up_k]; exact h0
  · rw [mz_up_k]; exact h1
  · rw [mz_up_k]; exact h2
  · rw [mz_up_k]; exact h3
  · rw [mz_up_k, h4, nI_1]; rfl
  · rw [mz_up_n _ _ _ (by decide), h5]
    rw [h4] at g
    simp only [z_prt, if_pos ((e _ hp).mp g)]
  · rw [mz_up_n _ _ _ (by decide)]; exact h6
  · rw [mz_up_k]; rfl
  · rw [h4] at g ⊢
    exact mz_inbN (by have := mt (e _ hp).mpr g; omega) (by decide)
  · rw [mz_up_k, mz_up_n _ _ _ (by decide)]; exact h0
  · rw [mz_up_k, mz_up_n _ _ _ (by decide)]; exact h1
  · rw [mz_up_k, mz_up_n _ _ _ (by decide)]; exact h2
  · rw [mz_up_k, mz_up_n _ _ _ (by decide)]; exact h3
  · rw [mz_up_k, h4, nI_1]; rfl
  · rw [mz_up_n _ _ _ (by decide), mz_up_k, h4, h5, nI_clamp (by omega)]
    rw [h4] at g
    simp only [z_prt, if_neg (mt (e _ hp).mpr g)]
  · rw [mz_up_n _ _ _ (by decide), mz_up_n _ _ _ (by decide)]; exact h6
  · rw [mz_up_k, mz_up_n _ _ _ (by decide)]; rfl
theorem s_M_print {X : mz_X} {m : mz_M} {Q : mz_M → Prop} {v : Int32} {F t : Nat} {s : z_rs} (h : q_M m F t s) (hp : s.2.1 ≤ 100000) (hQ : ∀ m', q_M m' F t (z_prt s v) → z_fm [99] [61] m m' → Q m') : mz_gv X mz_sh 176 0 [some (.ref 55), some (.int v)] m Q := by
  obtain ⟨h0, h1, h2, h3, h4, h5, h6⟩ := h
  have e : ∀ k : Nat, k ≤ 100000 → ((1000 : Int32) ≤ nI k ↔ 1000 ≤ k) := fun k hk => nI_leI (a := 1000) (by decide) (by omega)
  refine t_M_print_0 _ ⟨fun g => hQ _ ⟨?_, ?_, ?_, ?_, ?_, ?_, ?_⟩ ((z_fm.rf _ _ _).uf (by decide)), fun g => ⟨?_, hQ _ ⟨?_, ?_, ?_, ?_, ?_, ?_, ?_⟩ (((z_fm.rf _ _ _).up (by decide) (by decide)).uf (by decide))⟩⟩
  · rw [mz_up_k]; exact h0
  · rw [mz_up_k]; exact h1
  · rw [mz_up_k]; exact h2
  · rw [mz_up_k]; exact h3
  · rw [mz_up_k, h4, nI_1]; rfl
  · rw [mz_up_n _ _ _ (by decide), h5]
    rw [h4] at g
    simp only [z_prt, if_pos ((e _ hp).mp g)]
  · rw [mz_up_n _ _ _ (by decide)]; exact h6
  · rw [h4] at g ⊢
    exact mz_inbN (by have := mt (e _ hp).mpr g; omega) (by decide)
  · rw [mz_up_k, mz_up_n _ _ _ (by decide)]; exact h0
  · rw [mz_up_k, mz_up_n _ _ _ (by decide)]; exact h1
  · rw [mz_up_k, mz_up_n _ _ _ (by decide)]; exact h2
  · rw [mz_up_k, mz_up_n _ _ _ (by decide)]; exact h3
  · rw [mz_up_k, h4, nI_1]; rfl
  · rw [mz_up_n _ _ _ (by decide), mz_up_k, h4, h5, nI_clamp (by omega)]
    rw [h4] at g
    simp only [z_prt, if_neg (mt (e _ hp).mpr g)]
  · rw [mz_up_n _ _ _ (by decide), mz_up_n _ _ _ (by decide)]; exact h6
theorem s_R_store {X : mz_X} {m : mz_M} {Q : mz_M → Prop} {v : Int32} {F t k : Nat} {s : z_rs} (h : q_A m F t s) (hk : k < 32) (hQ : ∀ m', q_A m' F t (z_sto s k v) → z_fr [49] m m' → Q m') : mz_gv X mz_sh 42 0 [some (.ref 47), some (.int (nI k)), some (.int v)] m Q := by
  obtain ⟨h0, h1, h2, h3, h4, h5, h6⟩ := h
  refine t_R_store_0 _ _ ⟨fun g => absurd g (nI_pos (by omega)), fun _ => ⟨fun g => absurd g (nI_ge (b := 32) hk (by decide)), fun _ => ⟨mz_inbN hk (by decide), hQ _ ⟨?_, ?_, ?_, ?_, ?_, ?_, ?_⟩ ((z_fr.rf _ _).up (by decide))⟩⟩⟩
  · rw [mz_up_n _ _ _ (by decide)]; exact h0
  · rw [mz_up_n _ _ _ (by decide)]; exact h1
  · rw [mz_up_n _ _ _ (by decide)]; exact h2
  · rw [mz_up_n _ _ _ (by decide)]; exact h3
  · rw [mz_up_n _ _ _ (by decide)]; exact h4
  · rw [mz_up_n _ _ _ (by decide)]; exact h5
  · rw [mz_up_k, h6, nI_clamp (by omega)]; rfl
theorem s_R_load {X : mz_X} {m : mz_M} {Q : Int32 → mz_M → Prop} {k : Nat} (hk : k < 32) (hQ : Q (m 49 k) m) : mz_gi X mz_sh 41 0 [some (.ref 47), some (.int (nI k))] m Q := by
  refine t_R_load_0 _ ⟨fun g => absurd g (nI_pos (by omega)), fun _ => ⟨fun g => absurd g (nI_ge (b := 32) hk (by decide)), fun _ => ⟨mz_inbN hk (by decide), ?_⟩⟩⟩
  rw [nI_clamp (by omega)]
  exact hQ
def z_calc (w : Nat) (a b : Int32) : Int32 := if w = 3 then a + b else if w = 4 then a - b else if w = 5 then a * b else if w = 6 then a / b else if w = 7 then a - a / b * b else if w = 8 then (if a = b then 1 else 0) else if w = 9 then (if b ≤ a then 0 else 1) else if w = 10 then -b else if w = 11 then (if b = 0 then 1 else 0) else (if b = 0 then 0 else 1)
theorem nI_eqc {w c : Nat} {d : Int32} (hd : d = nI c) (hw : w < 2 ^ 31) (hc : c < 2 ^ 31) (h : nI w = d) : w = c := (nI_eq hw hc).mp (h.trans hd)
theorem s_R_calculate {X : mz_X} {m : mz_M} {Q : Int32 → mz_M → Prop} {w : Nat} {a b : Int32} (hw : w ≤ 20) (h1 : ¬ ((w = 6 ∨ w = 7) ∧ b = 0) → Q (z_calc w a b) m) (h2 : (w = 6 ∨ w = 7) → b = 0 → Q 0 (mz_up m 47 1 2)) : mz_gi X mz_sh 43 0 [some (.ref 47), some (.int (nI w)), some (.int a), some (.int b)] m Q := by
  refine t_R_calculate_0 _ _ _ ⟨fun h => ?_, fun h => ?_, fun h => ?_, fun h => ⟨fun h0 => t_R_divided_0 ?_, fun h0 => ⟨h0, ?_⟩⟩, fun h => ⟨fun h0 => t_R_divided_0 ?_, fun h0 => ⟨h0, ?_⟩⟩, fun h => ⟨fun h0 => ?_, fun h0 => ?_⟩, fun h => ⟨fun h0 => ?_, fun h0 => ?_⟩, fun h => ?_, fun h => ⟨fun h0 => ?_, fun h0 => ?_⟩, fun e3 e4 e5 e6 e7 e8 e9 e10 e11 => ?_⟩
  · have e := nI_eqc (c := 3) rfl (by omega) (by omega) h; subst e; exact h1 (by omega)
  · have e := nI_eqc (c := 4) rfl (by omega) (by omega) h; subst e; exact h1 (by omega)
  · have e := nI_eqc (c := 5) rfl (by omega) (by omega) h; subst e; exact h1 (by omega)
  · have e := nI_eqc (c := 6) rfl (by omega) (by omega) h; exact h2 (Or.inl e) h0
  · have e := nI_eqc (c := 6) rfl (by omega) (by omega) h; subst e; exact h1 (fun h3 => h0 h3.2)
  · have e := nI_eqc (c := 7) rfl (by omega) (by omega) h; exact h2 (Or.inr e) h0
  · have e := nI_eqc (c := 7) rfl (by omega) (by omega) h; subst e; exact h1 (fun h3 => h0 h3.2)
  · have e := nI_eqc (c := 8) rfl (by omega) (by omega) h; subst e; have := h1 (by omega); simp only [z_calc, h0, if_true] at this; exact this
  · have e := nI_eqc (c := 8) rfl (by omega) (by omega) h; subst e; have := h1 (by omega); simp only [z_calc, h0, if_false] at this; exact this
  · have e := nI_eqc (c := 9) rfl (by omega) (by omega) h; subst e; have := h1 (by omega); simp only [z_calc, h0, if_true] at this; exact this
  · have e := nI_eqc (c := 9) rfl (by omega) (by omega) h; subst e; have := h1 (by omega); simp only [z_calc, h0, if_false] at this; exact this
  · have e := nI_eqc (c := 10) rfl (by omega) (by omega) h; subst e; exact h1 (by omega)
  · have e := nI_eqc (c := 11) rfl (by omega) (by omega) h; subst e; have := h1 (by omega); simp only [z_calc, h0, if_true] at this; exact this
  · have e := nI_eqc (c := 11) rfl (by omega) (by omega) h; subst e; have := h1 (by omega); simp only [z_calc, h0, if_false] at this; exact this
  · have f : ∀ (c : Nat), ¬ nI w = nI c → w ≠ c := fun c hc e => hc (by rw [e])
    have := f 3 e3; have := f 4 e4; have := f 5 e5; have := f 6 e6; have := f 7 e7; have := f 8 e8; have := f 9 e9; have := f 10 e10; have := f 11 e11
    have g : z_calc w a b = (if b = 0 then 0 else 1) := by simp only [z_calc, *, if_false]
    have h3 := h1 (by omega)
    rw [g] at h3
    exact ⟨fun h0 => by rw [if_pos h0] at h3; exact h3, fun h0 => by rw [if_neg h0] at h3; exact h3⟩
