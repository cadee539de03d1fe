/-! the code's run -/
theorem s_M_truth {X : mz_X} {m : mz_M} {Q : Int32 → mz_M → Prop} {a : Int32} (h : Q (if a = 0 then 0 else 1) m) : mz_gi X mz_sh 177 0 [some (.int a)] m Q :=
  t_M_truth_0 _ ⟨fun h0 => by rw [if_pos h0] at h; exact h, fun h0 => by rw [if_neg h0] at h; exact h⟩
def z_kw (k : Nat) : Nat := if k ≤ 10 then k - 1 else k - 8
theorem s_M_join {X : mz_X} {m : mz_M} {Q : Int32 → mz_M → Prop} {k : Nat} {a b : Int32} (hk : 9 ≤ k) (hk2 : k ≤ 15) (h0 : ¬ ((k = 14 ∨ k = 15) ∧ b = 0)) (h1 : Q (z_calc (z_kw k) a b) m) : mz_gi X mz_sh 178 0 [some (.int (nI k)), some (.int a), some (.int b)] m Q := by
  refine t_M_join_0 _ _ _ ⟨fun h => ⟨fun g => s_M_truth ?_, fun g => s_M_truth ?_⟩, fun h => ⟨fun g => s_M_truth ?_, fun g => s_M_truth ?_⟩, fun h => ?_, fun h => ?_, fun h => ?_, fun h => ?_, fun e9 e10 e11 e12 e13 e14 => ?_⟩
  · have e := nI_eqc (c := 9) rfl (by omega) (by omega) h; subst e; simp only [z_kw, z_calc, g, if_true] at h1; exact h1
  · have e := nI_eqc (c := 9) rfl (by omega) (by omega) h; subst e; simp only [z_kw, z_calc, g, if_false] at h1; exact h1
  · have e := nI_eqc (c := 10) rfl (by omega) (by omega) h; subst e; simp only [z_kw, z_calc, g, if_true] at h1; exact h1
  · have e := nI_eqc (c := 10) rfl (by omega) (by omega) h; subst e; simp only [z_kw, z_calc, g, if_false] at h1; exact h1
  · have e := nI_eqc (c := 11) rfl (by omega) (by omega) h; subst e; exact h1
  · have e := nI_eqc (c := 12) rfl (by omega) (by omega) h; subst e; exact h1
  · have e := nI_eqc (c := 13) rfl (by omega) (by omega) h; subst e; exact h1
  · have e := nI_eqc (c := 14) rfl (by omega) (by omega) h; subst e; exact ⟨fun h3 => h0 ⟨Or.inl rfl, h3⟩, h1⟩
  · have f : ∀ (c : Nat), ¬ nI k = nI c → k ≠ c := fun c hc e => hc (by rw [e])
    have := f 9 e9; have := f 10 e10; have := f 11 e11; have := f 12 e12; have := f 13 e13; have := f 14 e14
    have e : k = 15 := by omega
    subst e
    exact ⟨fun h3 => h0 ⟨Or.inr rfl, h3⟩, h1⟩
theorem s_M_joinTwo {X : mz_X} {m : mz_M} {Q : Int32 → mz_M → Prop} {k : Nat} {a b : Int32} {st : List Int32} (hk : 9 ≤ k) (hk2 : k ≤ 15) (hp : p_M m (b :: a :: st)) (hl : st.length < 12190) (h1 : ¬ ((k = 14 ∨ k = 15) ∧ b = 0) → ∀ m', p_M m' (z_calc (z_kw k) a b :: st) → z_fm [98] [55] m m' → Q (-1) m') (h2 : (k = 14 ∨ k = 15) → b = 0 → ∀ m', z_fm [98] [55] m m' → Q (-3) m') : mz_gi X mz_sh 179 0 [some (.ref 55), some (.int (nI k)), none, none] m Q := by
  refine t_M_joinTwo_0 _ (s_M_pop hp (by simp only [List.length_cons]; omega) (fun m1 p1 f1 => s_M_pop p1 (by omega) (fun m2 p2 f2 => ?_)))
  have fin : ¬ ((k = 14 ∨ k = 15) ∧ b = 0) → mz_gi X mz_sh 178 0 [some (.int (nI k)), some (.int a), some (.int b)] m2 (fun r14 m12 => mz_gv X mz_sh 174 0 [some (.ref 55), some (.int r14)] m12 (fun m15 => Q (-1) m15)) := fun h0 =>
    s_M_join hk hk2 h0 (s_M_push p2 (by omega) (fun m3 p3 f3 => h1 h0 m3 p3 ((f1.tr f2).tr f3)))
  refine ⟨fun h14 => ⟨fun hb => ?_, fun hb => fin (fun h3 => hb h3.2)⟩, fun h14 => ⟨fun h15 => ⟨fun hb => ?_, fun hb => fin (fun h3 => hb h3.2)⟩, fun h15 => fin (fun h3 => ?_)⟩⟩
  · exact h2 (Or.inl (nI_eqc (c := 14) rfl (by omega) (by omega) h14)) hb m2 (f1.tr f2)
  · exact h2 (Or.inr (nI_eqc (c := 15) rfl (by omega) (by omega) h15)) hb m2 (f1.tr f2)
  · rcases h3.1 with e | e
    · exact h14 (by rw [e]; rfl)
    · exact h15 (by rw [e]; rfl)
def z_beg (s : z_rs) (w : Int32) : z_rs := (w, s.2)
theorem s_R_begins {X : mz_X} {m : mz_M} {Q : Int32 → mz_M → Prop} {F t : Nat} {s : z_rs} {w : Int32} (hq : q_A m F t s) (hF : F ≤ 100000) (ht : t ≤ F) (h1 : t < F → ∀ m', q_A m' F (t + 1) (z_beg s w) → z_fr [47] m m' → m' 47 1 = m 47 1 → Q 1 m') (h2 : t = F → ∀ m', q_A m' F t s → z_fr [47] m m' → m' 47 1 = 1 → Q 0 m') : mz_gi X mz_sh 38 0 [some (.ref 47), some (.int w)] m Q := by
  obtain ⟨e0, e1, e2, e3, e4, e5, e6⟩ := hq
  refine t_R_begins_0 _ ⟨fun h => ?_, fun h => ?_⟩
  · rw [e2, e1] at h
    have hlt := (nI_ltI (by omega) (by omega)).mp h
    refine h1 hlt _ ⟨?_, ?_, ?_, ?_, ?_, ?_, ?_⟩ (((z_fr.rf _ _).up (by decide)).up (by decide)) ?_
    · simp only [mz_up_k, upd]; exact e0
    · simp only [mz_up_k, upd]; exact e1
    · simp only [mz_up_k]; rw [e2, nI_1]; rfl
    · simp only [mz_up_k]; rfl
    · simp only [mz_up_k, upd]; exact e4
    · rw [mz_up_n _ _ _ (by decide), mz_up_n _ _ _ (by decide)]; exact e5
    · rw [mz_up_n _ _ _ (by decide), mz_up_n _ _ _ (by decide)]; exact e6
    · simp only [mz_up_k, upd]; rfl
  · rw [e2, e1] at h
    have hge : ¬ t < F := fun h3 => h ((nI_ltI (by omega) (by omega)).mpr h3)
    refine h2 (by omega) _ ⟨?_, ?_, ?_, ?_, ?_, ?_, ?_⟩ ((z_fr.rf _ _).up (by decide)) ?_
    · simp only [mz_up_k, upd]; exact e0
    · simp only [mz_up_k, upd]; exact e1
    · simp only [mz_up_k, upd]; exact e2
    · simp only [mz_up_k, upd]; exact e3
    · simp only [mz_up_k, upd]; exact e4
    · rw [mz_up_n _ _ _ (by decide)]; exact e5
    · rw [mz_up_n _ _ _ (by decide)]; exact e6
    · simp only [mz_up_k]; rfl
theorem s_M_burn {X : mz_X} {m : mz_M} {Q : Int32 → mz_M → Prop} {F t : Nat} {s : z_rs} {w : Int32} (hq : q_M m F t s) (hF : F ≤ 100000) (ht : t ≤ F) (h1 : t < F → ∀ m', q_M m' F (t + 1) (z_beg s w) → z_fm [] [59, 60] m m' → Q 1 m') (h2 : t = F → Q 0 m) : mz_gi X mz_sh 173 0 [some (.ref 55), some (.int w)] m Q := by
  obtain ⟨e0, e1, e2, e3, e4, e5, e6⟩ := hq
  refine t_M_burn_0 _ ⟨fun h => ?_, fun h => ?_⟩
  · rw [e2, e1] at h
    exact h2 ((nI_eq (by omega) (by omega)).mp h)
  · rw [e2, e1] at h
    have hne : t ≠ F := fun h3 => h (by rw [h3])
    refine h1 (by omega) _ ⟨?_, ?_, ?_, ?_, ?_, ?_, ?_⟩ (((z_fm.rf _ _ _).uf (by decide)).uf (by decide))
    · simp only [mz_up_k, upd]; exact e0
    · simp only [mz_up_k, upd]; exact e1
    · simp only [mz_up_k]; rw [e2, nI_1]; rfl
    · simp only [mz_up_k]; rfl
    · simp only [mz_up_k, upd]; exact e4
    · rw [mz_up_n _ _ _ (by decide), mz_up_n _ _ _ (by decide)]; exact e5
    · rw [mz_up_n _ _ _ (by decide), mz_up_n _ _ _ (by decide)]; exact e6
/-- the code's run: fuel left, place, pile, the run: how it ends, the fuel left then, the run -/
def z_cr (op : Nat → Nat) (va : Nat → Int32) : Nat → Nat → List Int32 → z_rs → Int32 × Nat × z_rs
  | 0, _, _, s => (1, 0, s)
  | k + 1, q, st, s0 =>
    if op q = 0 then z_cr op va k (q + 1) (va q :: st) (z_beg s0 (nI q))
    else if op q = 1 then z_cr op va k (q + 1) (s0.2.2.2 (va q).toNatClampNeg :: st) (z_beg s0 (nI q))
    else if op q = 2 then z_cr op va k (q + 1) st.tail (z_sto (z_beg s0 (nI q)) (va q).toNatClampNeg (st.headD 0))
    else if op q ≤ 9 then (if (op q = 6 ∨ op q = 7) ∧ st.headD 0 = 0 then (2, k, z_beg s0 (nI q)) else z_cr op va k (q + 1) (z_calc (op q) (st.tail.headD 0) (st.headD 0) :: st.tail.tail) (z_beg s0 (nI q)))
    else if op q ≤ 12 then z_cr op va k (q + 1) (z_calc (op q) 0 (st.headD 0) :: st.tail) (z_beg s0 (nI q))
    else if op q = 13 then z_cr op va k (va q).toNatClampNeg st (z_beg s0 (nI q))
    else if op q = 14 then z_cr op va k (if st.headD 0 = 0 then (va q).toNatClampNeg else q + 1) st.tail (z_beg s0 (nI q))
    else if op q = 15 then z_cr op va k (q + 1) st.tail (z_prt (z_beg s0 (nI q)) (st.headD 0))
    else (0, k, z_beg s0 (nI q))
theorem q_A_fr {m m' : mz_M} {F t : Nat} {s : z_rs} {l : List Nat} (h : q_A m F t s) (hf : z_fr l m m') (h1 : 47 ∉ l) (h2 : 48 ∉ l) (h3 : 49 ∉ l) : q_A m' F t s := by
  unfold q_A at h ⊢
  rw [hf 47 h1, hf 48 h2, hf 49 h3]
  exact h
theorem p_A_fr {m m' : mz_M} {st : List Int32} {l : List Nat} (h : p_A m st) (hf : z_fr l m m') (h1 : 53 ∉ l) (h2 : 54 ∉ l) : p_A m' st := by
  unfold p_A at h ⊢
  rw [hf 53 h1, hf 54 h2]
  exact h
theorem q_M_fm {m m' : mz_M} {F t : Nat} {s : z_rs} {l js : List Nat} (h : q_M m F t s) (hf : z_fm l js m m') (h1 : 99 ∉ l) (h2 : 97 ∉ l) (h3 : ∀ j, j ∈ [56, 58, 59, 60, 61] → j ∉ js) : q_M m' F t s := by
  unfold q_M at h ⊢
  rw [hf.1 99 h1 (by decide), hf.1 97 h2 (by decide), hf.2 56 (h3 56 (by decide)), hf.2 58 (h3 58 (by decide)), hf.2 59 (h3 59 (by decide)), hf.2 60 (h3 60 (by decide)), hf.2 61 (h3 61 (by decide))]
  exact h
theorem p_M_fm {m m' : mz_M} {st : List Int32} {l js : List Nat} (h : p_M m st) (hf : z_fm l js m m') (h1 : 98 ∉ l) (h2 : 55 ∉ js) : p_M m' st := by
  unfold p_M at h ⊢
  rw [hf.1 98 h1 (by decide), hf.2 55 h2]
  exact h
