/-! the reference's compile: zones of words; exps -/
def z_ag (lo hi : Nat) (F F' : Nat → Int32) : Prop := ∀ p, p < lo ∨ hi ≤ p → F' p = F p
theorem z_ag.rf (lo hi : Nat) (F : Nat → Int32) : z_ag lo hi F F := fun _ _ => rfl
theorem z_ag.tr {lo hi : Nat} {F G H : Nat → Int32} (h : z_ag lo hi F G) (h2 : z_ag lo hi G H) : z_ag lo hi F H := fun p hp => (h2 p hp).trans (h p hp)
theorem z_ag.wk {lo hi lo' hi' : Nat} {F G : Nat → Int32} (h : z_ag lo hi F G) (h1 : lo' ≤ lo) (h2 : hi ≤ hi') : z_ag lo' hi' F G := fun p hp => h p (by omega)
theorem z_ag.up {lo hi : Nat} {F G : Nat → Int32} (h : z_ag lo hi F G) {p : Nat} (v : Int32) (h1 : lo ≤ p) (h2 : p < hi) : z_ag lo hi F (upd G p v) := fun q hq => by
  have : q ≠ p := by omega
  simp only [upd, this, if_false]
  exact h q hq
def z_rt (f : Nat → Nat × Int32 × Nat) (lo hi : Nat) (E : List Nat) (O V : Nat → Int32) : Prop := ∀ p, lo ≤ p → p < hi → O p = nI (f p).1 ∧ (p ∉ E → V p = (f p).2.1)
theorem z_rt.add {f : Nat → Nat × Int32 × Nat} {lo w o d : Nat} {v : Int32} {E : List Nat} {O V : Nat → Int32} (h : z_rt f lo w E O V) (hf : f w = (o, v, d)) : z_rt f lo (w + 1) E (upd O w (nI o)) (upd V w v) := by
  intro p h1 h2
  by_cases e : p = w
  · subst e; simp [upd, hf]
  · simp only [upd, e, if_false]; exact h p h1 (by omega)
theorem z_rt.addp {f : Nat → Nat × Int32 × Nat} {lo w o : Nat} {v : Int32} {E : List Nat} {O V : Nat → Int32} (h : z_rt f lo w E O V) (hf : (f w).1 = o) : z_rt f lo (w + 1) (w :: E) (upd O w (nI o)) (upd V w v) := by
  intro p h1 h2
  by_cases e : p = w
  · subst e; simp [upd, hf]
  · simp only [upd, e, if_false]
    have := h p h1 (by omega)
    exact ⟨this.1, fun hp => this.2 (fun g => hp (List.mem_cons_of_mem _ g))⟩
theorem z_rt.fix {f : Nat → Nat × Int32 × Nat} {lo hi p : Nat} {v : Int32} {E : List Nat} {O V : Nat → Int32} (h : z_rt f lo hi (p :: E) O V) (hf : v = (f p).2.1) : z_rt f lo hi E O (upd V p v) := by
  intro q h1 h2
  by_cases e : q = p
  · subst e; simp only [upd, if_true]; exact ⟨(h q h1 h2).1, fun _ => hf⟩
  · simp only [upd, e, if_false]
    have := h q h1 h2
    exact ⟨this.1, fun hp => this.2 (fun g => (List.mem_cons.mp g).elim e hp)⟩
theorem z_rt.perm {f : Nat → Nat × Int32 × Nat} {lo hi : Nat} {E E' : List Nat} {O V : Nat → Int32} (h : z_rt f lo hi E O V) (he : ∀ p, p ∈ E → p ∈ E') : z_rt f lo hi E' O V := fun p h1 h2 => ⟨(h p h1 h2).1, fun hp => (h p h1 h2).2 (fun g => hp (he p g))⟩
theorem z_rt.sub {f : Nat → Nat × Int32 × Nat} {lo mid hi : Nat} {E1 E2 : List Nat} {O V O' V' : Nat → Int32} (h : z_rt f lo mid E1 O V) (h1 : z_ag mid hi O O') (h2 : z_ag mid hi V V') (h3 : z_rt f mid hi E2 O' V') : z_rt f lo hi (E2 ++ E1) O' V' := by
  intro p g1 g2
  by_cases e : p < mid
  · rw [h1 p (Or.inl e), h2 p (Or.inl e)]
    have := h p g1 e
    exact ⟨this.1, fun hp => this.2 (fun g => hp (List.mem_append.mpr (Or.inr g)))⟩
  · have := h3 p (by omega) g2
    exact ⟨this.1, fun hp => this.2 (fun g => hp (List.mem_append.mpr (Or.inl g)))⟩
/-- a node in progress: its words lo .. hi, its nodes a .. b, written up to w, but for the values at E -/
def z_pg (f : Nat → Nat × Int32 × Nat) (lo hi a b w : Nat) (E : List Nat) (O0 V0 P0 A0 O V P A : Nat → Int32) : Prop := z_ag lo hi O0 O ∧ z_ag lo hi V0 V ∧ z_ag a b P0 P ∧ z_ag a b A0 A ∧ z_rt f lo w E O V ∧ lo ≤ w ∧ w ≤ hi
theorem z_pg.start {f : Nat → Nat × Int32 × Nat} {lo hi a b : Nat} {O V P A : Nat → Int32} (h : lo ≤ hi) : z_pg f lo hi a b lo [] O V P A O V P A := ⟨z_ag.rf _ _ _, z_ag.rf _ _ _, z_ag.rf _ _ _, z_ag.rf _ _ _, fun p h1 h2 => by omega, Nat.le_refl _, h⟩
theorem z_pg.uP {f : Nat → Nat × Int32 × Nat} {lo hi a b w : Nat} {E : List Nat} {O0 V0 P0 A0 O V P A : Nat → Int32} (h : z_pg f lo hi a b w E O0 V0 P0 A0 O V P A) {i : Nat} (v : Int32) (h1 : a ≤ i) (h2 : i < b) : z_pg f lo hi a b w E O0 V0 P0 A0 O V (upd P i v) A := by
  obtain ⟨g1, g2, g3, g4, g5, g6, g7⟩ := h
  exact ⟨g1, g2, g3.up v h1 h2, g4, g5, g6, g7⟩
theorem z_pg.uA {f : Nat → Nat × Int32 × Nat} {lo hi a b w : Nat} {E : List Nat} {O0 V0 P0 A0 O V P A : Nat → Int32} (h : z_pg f lo hi a b w E O0 V0 P0 A0 O V P A) {i : Nat} (v : Int32) (h1 : a ≤ i) (h2 : i < b) : z_pg f lo hi a b w E O0 V0 P0 A0 O V P (upd A i v) := by
  obtain ⟨g1, g2, g3, g4, g5, g6, g7⟩ := h
  exact ⟨g1, g2, g3, g4.up v h1 h2, g5, g6, g7⟩
theorem z_pg.add {f : Nat → Nat × Int32 × Nat} {lo hi a b w o d : Nat} {v : Int32} {E : List Nat} {O0 V0 P0 A0 O V P A : Nat → Int32} (h : z_pg f lo hi a b w E O0 V0 P0 A0 O V P A) (hf : f w = (o, v, d)) (hw : w < hi) : z_pg f lo hi a b (w + 1) E O0 V0 P0 A0 (upd O w (nI o)) (upd V w v) P A := by
  obtain ⟨g1, g2, g3, g4, g5, g6, g7⟩ := h
  exact ⟨g1.up _ g6 hw, g2.up _ g6 hw, g3, g4, g5.add hf, by omega, by omega⟩
theorem z_pg.addp {f : Nat → Nat × Int32 × Nat} {lo hi a b w : Nat} (o : Nat) {v : Int32} {E : List Nat} {O0 V0 P0 A0 O V P A : Nat → Int32} (h : z_pg f lo hi a b w E O0 V0 P0 A0 O V P A) (hf : (f w).1 = o) (hw : w < hi) : z_pg f lo hi a b (w + 1) (w :: E) O0 V0 P0 A0 (upd O w (nI o)) (upd V w v) P A := by
  obtain ⟨g1, g2, g3, g4, g5, g6, g7⟩ := h
  exact ⟨g1.up _ g6 hw, g2.up _ g6 hw, g3, g4, g5.addp hf, by omega, by omega⟩
theorem z_pg.fix {f : Nat → Nat × Int32 × Nat} {lo hi a b w p : Nat} {v : Int32} {E : List Nat} {O0 V0 P0 A0 O V P A : Nat → Int32} (h : z_pg f lo hi a b w (p :: E) O0 V0 P0 A0 O V P A) (hf : v = (f p).2.1) (h1 : lo ≤ p) (h2 : p < hi) : z_pg f lo hi a b w E O0 V0 P0 A0 O (upd V p v) P A := by
  obtain ⟨g1, g2, g3, g4, g5, g6, g7⟩ := h
  exact ⟨g1, g2.up _ h1 h2, g3, g4, g5.fix hf, by omega, by omega⟩
theorem z_pg.perm {f : Nat → Nat × Int32 × Nat} {lo hi a b w : Nat} {E E' : List Nat} {O0 V0 P0 A0 O V P A : Nat → Int32} (h : z_pg f lo hi a b w E O0 V0 P0 A0 O V P A) (he : ∀ p, p ∈ E → p ∈ E') : z_pg f lo hi a b w E' O0 V0 P0 A0 O V P A := by
  obtain ⟨g1, g2, g3, g4, g5, g6, g7⟩ := h
  exact ⟨g1, g2, g3, g4, g5.perm he, g6, g7⟩
theorem z_pg.kid {f : Nat → Nat × Int32 × Nat} {lo hi a b w w' c d : Nat} {E E2 : List Nat} {O0 V0 P0 A0 O V P A O' V' P' A' : Nat → Int32} (h : z_pg f lo hi a b w E O0 V0 P0 A0 O V P A) (h2 : z_pg f w w' c d w' E2 O V P A O' V' P' A') (hw : w' ≤ hi) (h3 : a ≤ c) (h4 : d ≤ b) : z_pg f lo hi a b w' (E2 ++ E) O0 V0 P0 A0 O' V' P' A' := by
  obtain ⟨g1, g2, g3, g4, g5, g6, g7⟩ := h
  obtain ⟨k1, k2, k3, k4, k5, k6, k7⟩ := h2
  exact ⟨g1.tr (k1.wk g6 hw), g2.tr (k2.wk g6 hw), g3.tr (k3.wk h3 h4), g4.tr (k4.wk h3 h4), g5.sub k1 k2 k5, by omega, hw⟩
/-- an exp is compiled -/
def z_CE (X : mz_X) (f : Nat → Nat × Int32 × Nat) (m0 : mz_M) (st wc sz : Nat → Nat) (x : Nat) : Prop := ∀ (Q : Int32 → mz_M → Prop) (m : mz_M) (O V P C A B : Nat → Int32), z_ct m0 m (st x) O V P C A B → P x = 0 → (∀ m' O' V' P' A', z_ct m0 m' (st x + wc x) O' V' P' C A' B → z_pg f (st x) (st x + wc x) x (x + sz x) (st x + wc x) [] O V P A O' V' P' A' → mz_gi X mz_sh 169 31 [some (.ref 55), some (.int (m0 89 x)), some (.int (m0 88 x)), none] m' Q) → mz_gi X mz_sh 169 31 [some (.ref 55), some (.int (nI x)), some (.int (m0 86 x)), none] m Q
/-- the first part, an exp -/
theorem s_M_first {X : mz_X} {f : Nat → Nat × Int32 × Nat} {m0 m : mz_M} {Q : Int32 → mz_M → Prop} {N i : Nat} {t : List Nat} {kd tk sz up wc st : Nat → Nat} {tv : Nat → Int32} {ks : Nat → List Nat} {O V P C A B : Nat → Int32} (hM : z_hM m0 N kd tk sz up tv ks) (hi : i < N) (hks : ks i = (i + 1) :: t) (h1 : i + 1 < N) (h1u : up (i + 1) = i) (hz : i + 1 + sz (i + 1) ≤ i + sz i) (hs1 : 1 ≤ sz (i + 1)) (hst : st (i + 1) = st i) (hwc : st (i + 1) + wc (i + 1) ≤ st i + wc i) (hb : st i + wc i ≤ 8000) (hCE : z_CE X f m0 st wc sz (i + 1)) (h : z_ct m0 m (st i) O V P C A B) (hP : P i = 0) (hQ : ∀ m' O' V' P' C' A' B', z_ct m0 m' (st (i + 1) + wc (i + 1)) O' V' P' C' A' B' → z_pg f (st i) (st i + wc i) i (i + sz i) (st (i + 1) + wc (i + 1)) [] O V P A O' V' P' A' → P' i = nI 1 → ((kd i = 4 ∧ C' = upd C i (-1) ∧ B' = upd B i (nI (st i))) ∨ (kd i ≠ 4 ∧ C' = C ∧ B' = B)) → mz_gi X mz_sh 169 31 [some (.ref 55), some (.int (nI i)), some (.int (m0 88 (i + 1))), none] m' Q) : mz_gi X mz_sh 169 31 [some (.ref 55), some (.int (nI i)), some (.int (m0 86 i)), none] m Q := by
  obtain ⟨n1, n2, n3⟩ := hM
  obtain ⟨c1, c2, c3, c4, c5, c6, c7⟩ := n2 i hi
  rw [(n3 i hi).1, if_neg (by rw [hks]; exact List.cons_ne_nil _ _)]
  refine s_M_dn (k := 0) (kk := kd i) (a := 0) h (by omega) (by omega) hP c1 c6 (by decide) (by omega) (fun g => by omega) (fun m' w' O' V' C' A' B' h' g0 g1 g2 g3 => ?_)
  obtain ⟨rfl, rfl, rfl, rfl, g9⟩ := g0 rfl
  refine hCE Q m' O' V' _ C' A' B' (by rw [hst]; exact h') (by simp [upd]) (fun m2 O2 V2 P2 A2 h2 p2 => ?_)
  rw [(n3 (i + 1) h1).2.2.2.2, if_neg (by omega), h1u]
  have pg : z_pg f (st i) (st i + wc i) i (i + sz i) (st i) [] O' V' P A' O' V' (upd (upd P i (nI (0 + 1))) (i + 1) 0) A' := ((z_pg.start (by omega)).uP _ (Nat.le_refl _) (by omega)).uP _ (by omega) (by omega)
  rw [hst] at p2
  have pk := pg.kid p2 (by omega) (by omega) (by omega)
  have e1 : P2 i = nI 1 := by
    rw [p2.2.2.1 i (Or.inl (by omega))]
    simp [upd]
  rw [hst] at h2
  have hQ' := hQ m2 O2 V2 P2 C' A2 B'
  rw [hst] at hQ'
  exact hQ' h2 pk e1 g9
/-- the one word at the end of a node -/
theorem s_M_last {X : mz_X} {f : Nat → Nat × Int32 × Nat} {m0 m : mz_M} {Q : Int32 → mz_M → Prop} {N i w : Nat} {kd tk sz ht up wc st bs lp : Nat → Nat} {tv : Nat → Int32} {ks : Nat → List Nat} {O V P C A B : Nat → Int32} (hp : z_pre N kd sz ht up ks) (hc : z_cd N kd ks wc st bs) (hM : z_hM m0 N kd tk sz up tv ks) (hf : ∀ i, i < N → ∀ p e, (p, e) ∈ z_wl kd ks wc st bs lp tv i → f p = e) (hi : i < N) (hk : kd i = 1 ∨ kd i = 2 ∨ 9 ≤ kd i) (hb : st i + wc i ≤ 8000) (hw : w + 1 = st i + wc i) (h : z_ct m0 m w O V P C A B) {O0 V0 P0 A0 : Nat → Int32} {E : List Nat} (pg : z_pg f (st i) (st i + wc i) i (i + sz i) w E O0 V0 P0 A0 O V P A) (hQ : ∀ m' O' V', z_ct m0 m' (st i + wc i) O' V' P C A B → z_pg f (st i) (st i + wc i) i (i + sz i) (st i + wc i) E O0 V0 P0 A0 O' V' P A → mz_gi X mz_sh 169 31 [some (.ref 55), some (.int (m0 89 i)), some (.int (m0 88 i)), none] m' Q) : mz_gi X mz_sh 169 31 [some (.ref 55), some (.int (nI i)), some (.int (-1)), none] m Q := by
  obtain ⟨n1, n2, n3⟩ := hM
  obtain ⟨c1, c2, c3, c4, c5, c6, c7⟩ := n2 i hi
  obtain ⟨w1, w2, o, d, w3, w4⟩ := z_wl1 (lp := lp) (tv := tv) hp hc hi hk
  have hfw := hf i hi (st i + wc i - 1) _ (by rw [w4]; exact List.mem_cons_self)
  rw [show st i + wc i - 1 = w by omega] at hfw
  have go : ∀ m', z_ct m0 m' (w + 1) (upd O w (nI o)) (upd V w (if kd i = 1 ∨ kd i = 18 ∨ kd i = 19 then tv i else 0)) P C A B → mz_gi X mz_sh 169 31 [some (.ref 55), some (.int (m' 89 i)), some (.int (m' 88 i)), none] m' Q := fun m' h' => by
    rw [h'.1 89 (by decide), h'.1 88 (by decide)]
    have := hQ m' _ _ (by rw [← hw]; exact h') (by rw [← hw]; exact hw ▸ (pg.add hfw (by omega)))
    exact this
  have e82 : m 82 i = nI (kd i) := by rw [h.1 82 (by decide)]; exact c1
  have e83 : m 83 i = nI (tk i) := by rw [h.1 83 (by decide)]; exact c2
  have e70 : m 70 (tk i) = tv i := by rw [h.1 70 (by decide)]; exact c4
  have t1 : mz_inb (m 83 i) 4001 = true := by rw [e83]; exact mz_inbN (by omega) (by decide)
  obtain ⟨y1, y2, y3, y4, y5, y6⟩ := mz_a2k (kd i) (by omega)
  refine s_M_lv0 (by omega) (s_M_lvk (by omega) e82 c6 (fun g => by omega) (fun g => ?_) (fun g => ?_) (fun g => by omega) (fun g => by omega) (fun g => by omega) (fun g => by omega) (fun g => by omega) (fun g => by omega) (fun g1 g2 => ?_) (fun g => ?_) (fun g => ?_))
  · refine ⟨t1, ?_⟩
    rw [e83, nI_clamp (by omega), e70]
    refine s_M_emit h (by omega) (fun m' h' => go m' ?_)
    rw [if_pos (by omega), ← w3, y1 g]
    exact h'
  · refine s_M_emit h (by omega) (fun m' h' => go m' ?_)
    rw [if_neg (by omega), ← w3, y2 g]
    exact h'
  · refine s_M_emit h (by omega) (fun m' h' => go m' ?_)
    rw [if_neg (by omega), ← w3]
    exact h'
  · refine ⟨t1, ?_⟩
    rw [e83, nI_clamp (by omega), e70]
    refine s_M_emit h (by omega) (fun m' h' => go m' ?_)
    rw [if_pos (by omega), ← w3, y5 g]
    exact h'
  · refine ⟨t1, ?_⟩
    rw [e83, nI_clamp (by omega), e70]
    refine s_M_emit h (by omega) (fun m' h' => go m' ?_)
    rw [if_pos (by omega), ← w3, y6 g]
    exact h'
