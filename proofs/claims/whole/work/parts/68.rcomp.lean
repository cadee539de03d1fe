/-! the reference's compile: statements -/
theorem z_chn.keepM {V V' : Nat → Int32} : ∀ {L : List Nat} {c : Int32} {b : Nat}, z_chn V c b L → (∀ q, q ∈ L → V' q = V q) → z_chn V' c b L := by
  intro L
  induction L with
  | nil => intro c b h _; exact h
  | cons p t ih =>
    intro c b h hv
    obtain ⟨h1, h2, h3⟩ := h
    refine ⟨h1, h2, ?_⟩
    rw [hv p List.mem_cons_self]
    exact ih h3 (fun q hq => hv q (List.mem_cons_of_mem _ hq))
theorem z_pg.fixL {f : Nat → Nat × Int32 × Nat} {lo hi a b w : Nat} {v : Int32} {E : List Nat} {O0 V0 P0 A0 O V P A : Nat → Int32} (h : z_pg f lo hi a b w E O0 V0 P0 A0 O V P A) (he : ∀ p, p ∈ E → (f p).2.1 = v ∧ lo ≤ p ∧ p < hi) : z_pg f lo hi a b w [] O0 V0 P0 A0 O (z_pt v E V) P A := by
  obtain ⟨g1, g2, g3, g4, g5, g6, g7⟩ := h
  refine ⟨g1, fun p hp => ?_, g3, g4, fun p h1 h2 => ⟨(g5 p h1 h2).1, fun _ => ?_⟩, g6, g7⟩
  · rw [(z_pt_in E V p).2 (fun g => by have := he p g; omega)]
    exact g2 p hp
  · by_cases e : p ∈ E
    · rw [(z_pt_in E V p).1 e]; exact (he p e).1.symm
    · rw [(z_pt_in E V p).2 e]; exact (g5 p h1 h2).2 e
/-- a statement is compiled: its open BREAKs are L2 -/
def z_CS (X : mz_X) (f : Nat → Nat × Int32 × Nat) (m0 : mz_M) (st wc sz lp : Nat → Nat) (x : Nat) : Prop := ∀ (Q : Int32 → mz_M → Prop) (m : mz_M) (O V P C A B : Nat → Int32) (L : List Nat), z_ct m0 m (st x) O V P C A B → P x = 0 → (0 < lp x → z_chn V (C (lp x - 1)) (st x) L ∧ B (lp x - 1) = nI (st (lp x - 1))) → (∀ m' O' V' P' C' A' B' L2, z_ct m0 m' (st x + wc x) O' V' P' C' A' B' → z_pg f (st x) (st x + wc x) x (x + sz x) (st x + wc x) L2 O V P A O' V' P' A' → (∀ p, p ∈ L2 → 0 < lp x ∧ (f p).2.1 = nI (st (lp x - 1) + wc (lp x - 1)) ∧ st x ≤ p ∧ p < st x + wc x) → (0 < lp x → z_chn V' (C' (lp x - 1)) (st x + wc x) (L2 ++ L)) → (∀ y, y < x ∨ x + sz x ≤ y → (y + 1 ≠ lp x → C' y = C y) ∧ B' y = B y) → mz_gi X mz_sh 169 31 [some (.ref 55), some (.int (m0 89 x)), some (.int (m0 88 x)), none] m' Q) → mz_gi X mz_sh 169 31 [some (.ref 55), some (.int (nI x)), some (.int (m0 86 x)), none] m Q
theorem s_M_CS12 {X : mz_X} {f : Nat → Nat × Int32 × Nat} {m0 : mz_M} {N x : Nat} {kd tk sz ht up wc st bs lp : Nat → Nat} {tv : Nat → Int32} {ks : Nat → List Nat} (hp : z_pre N kd sz ht up ks) (hc : z_cd N kd ks wc st bs) (hM : z_hM m0 N kd tk sz up tv ks) (hf : ∀ i, i < N → ∀ p e, (p, e) ∈ z_wl kd ks wc st bs lp tv i → f p = e) (hb : ∀ x, x < N → st x + wc x ≤ 8000) (hx : x < N) (k : kd x = 1 ∨ kd x = 2) (e : ks x = [x + 1]) (hE : z_CE X f m0 st wc sz (x + 1)) : z_CS X f m0 st wc sz lp x := by
  intro Q m O V P C A B L h hP hL hQ
  have hM' := hM
  obtain ⟨n1, n2, n3⟩ := hM'
  obtain ⟨q1, q2, q3, q4, q5, q6, q7⟩ := z_k1 hp hc hx e
  have ho : z_ow (kd x) 1 = 1 := by unfold z_ow; rcases k with k | k <;> rw [k] <;> rfl
  have s1 := (hp.2.2.2.2.1 (x + 1) q2).1
  have hbx := hb x hx
  refine s_M_first hM hx e q2 q6 (by omega) s1 q4 (by omega) hbx hE h hP (fun m' O' V' P' C' A' B' h' pg' e1 g => ?_)
  rcases g with g | ⟨_, rfl, rfl⟩
  · omega
  · rw [(n3 (x + 1) q2).2.2.2.1, if_neg (by omega), q6, if_pos q3]
    refine s_M_last hp hc hM hf hx (by omega) hbx (by omega) h' pg' (fun m2 O2 V2 h2 pg2 => hQ m2 O2 V2 P' C' A' B' [] h2 pg2 (fun p hp => by cases hp) (fun g => ?_) (fun y _ => ⟨fun _ => rfl, rfl⟩))
    exact ((hL g).1.keep (fun q hq => pg2.2.1 q (Or.inl hq))).wk (by omega)
theorem s_M_CS5 {X : mz_X} {f : Nat → Nat × Int32 × Nat} {m0 : mz_M} {N x : Nat} {kd tk sz ht up wc st bs lp : Nat → Nat} {tv : Nat → Int32} {ks : Nat → List Nat} (hp : z_pre N kd sz ht up ks) (hc : z_cd N kd ks wc st bs) (hl : z_lps N kd lp ks) (hM : z_hM m0 N kd tk sz up tv ks) (hf : ∀ i, i < N → ∀ p e, (p, e) ∈ z_wl kd ks wc st bs lp tv i → f p = e) (hb : ∀ x, x < N → st x + wc x ≤ 8000) (hx : x < N) (k : kd x = 5 ∨ kd x = 6) (e : ks x = []) : z_CS X f m0 st wc sz lp x := by
  intro Q m O V P C A B L h hP hL hQ
  have hM' := hM
  obtain ⟨n1, n2, n3⟩ := hM'
  obtain ⟨c1, c2, c3, c4, c5, c6, c7⟩ := n2 x hx
  have hbx := hb x hx
  have ho : wc x = 1 := by
    rw [hc.1 x hx, e]
    rcases k with k | k <;> rw [k] <;> rfl
  have g1 := hl.2.2 x hx k
  obtain ⟨g2, g3, g4⟩ := z_lpw hp hl x x (Nat.le_refl _) hx (by omega) g1
  obtain ⟨hL1, hL2⟩ := hL g1
  have e82 : m 82 = m0 82 := h.1 82 (by decide)
  have e89 : m 89 = m0 89 := h.1 89 (by decide)
  rw [(n3 x hx).1, if_pos e]
  refine s_M_lv0 (by omega) (s_M_lvk (by omega) (by rw [e82]; exact c1) c6 (fun g => by omega) (fun g => by omega) (fun g => by omega) (fun g => by omega) (fun g => by omega) (fun k5 => ?_) (fun k6 => ?_) (fun g => by omega) (fun g => by omega) (fun g1 g2 => by omega) (fun g => by omega) (fun g => by omega))
  · refine s_M_whileOf (kd := kd) (lp := lp) hp ⟨hl.1, hl.2.1⟩ (fun j hj => by rw [e82]; exact (n2 j hj).1) (fun j hj => by rw [e89]; exact (n3 j hj).2.2.2.2) hx (by omega) ⟨rfl, ?_⟩
    rw [nI_m1 g1, nI_clamp (by omega), h.2.2.2.2.2.2.1]
    refine ⟨mz_inbN (by omega) (by decide), s_M_emit h (by omega) (fun m2 h2 => ?_)⟩
    have h3 := h2.u93 (lp x - 1) (nI (st x))
    rw [h3.1 89 (by decide), h3.1 88 (by decide)]
    have hz : z_wl kd ks wc st bs lp tv x = [(st x, 13, nI (st (lp x - 1) + wc (lp x - 1)), 0)] := by simp [z_wl, k5]
    have f1 := hf x hx (st x) (13, nI (st (lp x - 1) + wc (lp x - 1)), 0) (by rw [hz]; simp)
    have pg := (z_pg.start (f := f) (lo := st x) (hi := st x + wc x) (a := x) (b := x + sz x) (O := O) (V := V) (P := P) (A := A) (by omega)).addp 13 (v := C (lp x - 1)) (by rw [f1]) (by omega)
    refine hQ _ _ _ _ _ _ _ [st x] (h3.w (by omega)) (pg.w (by omega)) (fun p hp => ?_) (fun _ => ?_) (fun y hy => ⟨fun hy2 => ?_, rfl⟩)
    · rw [List.mem_singleton.mp hp, f1]
      exact ⟨g1, rfl, by omega, by omega⟩
    · refine ⟨by simp [upd], by omega, ?_⟩
      have : upd V (st x) (C (lp x - 1)) (st x) = C (lp x - 1) := by simp [upd]
      rw [this]
      refine hL1.keep (fun q hq => ?_)
      have : q ≠ st x := by omega
      simp [upd, this]
    · have : y ≠ lp x - 1 := by omega
      simp [upd, this]
  · refine s_M_whileOf (kd := kd) (lp := lp) hp ⟨hl.1, hl.2.1⟩ (fun j hj => by rw [e82]; exact (n2 j hj).1) (fun j hj => by rw [e89]; exact (n3 j hj).2.2.2.2) hx (by omega) ⟨rfl, ?_⟩
    rw [nI_m1 g1, nI_clamp (by omega), h.2.2.2.2.2.2.2.2, hL2]
    refine ⟨mz_inbN (by omega) (by decide), s_M_emit h (by omega) (fun m2 h2 => ?_)⟩
    rw [h2.1 89 (by decide), h2.1 88 (by decide)]
    have hz : z_wl kd ks wc st bs lp tv x = [(st x, 13, nI (st (lp x - 1)), 0)] := by simp [z_wl, k6]
    have f1 := hf x hx (st x) (13, nI (st (lp x - 1)), 0) (by rw [hz]; simp)
    have pg := (z_pg.start (f := f) (lo := st x) (hi := st x + wc x) (a := x) (b := x + sz x) (O := O) (V := V) (P := P) (A := A) (by omega)).add f1 (by omega)
    refine hQ _ _ _ _ _ _ _ [] (h2.w (by omega)) (pg.w (by omega)) (fun p hp => by cases hp) (fun _ => ?_) (fun y hy => ⟨fun hy2 => rfl, rfl⟩)
    exact (hL1.keep (fun q hq => pg.2.1 q (Or.inl hq))).wk (by omega)
theorem s_M_CS0 {X : mz_X} {f : Nat → Nat × Int32 × Nat} {m0 : mz_M} {N x : Nat} {kd tk sz ht up wc st bs lp : Nat → Nat} {tv : Nat → Int32} {ks : Nat → List Nat} (hp : z_pre N kd sz ht up ks) (hc : z_cd N kd ks wc st bs) (hl : z_lps N kd lp ks) (hM : z_hM m0 N kd tk sz up tv ks) (hb : ∀ x, x < N → st x + wc x ≤ 8000) (hx : x < N) (k : kd x = 0) (hS : ∀ y, y ∈ ks x → z_CS X f m0 st wc sz lp y) : z_CS X f m0 st wc sz lp x := by
  intro Q m O V P C A B L h hP hL hQ
  have hM' := hM
  obtain ⟨n1, n2, n3⟩ := hM'
  obtain ⟨c1, c2, c3, c4, c5, c6, c7⟩ := n2 x hx
  have hbx := hb x hx
  have hz := (hp.2.2.2.2.1 x hx)
  have hwb : z_wb (kd x) = 0 := by rw [k]; rfl
  have hwc : st x + ((ks x).map wc).sum = st x + wc x := by
    have := hc.1 x hx
    rw [k] at this
    have h0 : z_ow 0 (ks x).length = 0 := rfl
    omega
  have key : ∀ (t : List Nat) (lo w j : Nat) (m : mz_M) (O' V' P' C' A' B' : Nat → Int32) (L2 : List Nat), z_segP sz lo (x + sz x) t → x < lo → (∀ y, y ∈ t → y ∈ ks x) → (∀ y, y ∈ t → st y = w + z_off wc 0 t y) → w + (t.map wc).sum = st x + wc x → j + t.length ≤ 4001 → P' x = nI j → z_ct m0 m w O' V' P' C' A' B' → z_pg f (st x) (st x + wc x) x (x + sz x) w L2 O V P A O' V' P' A' → (∀ p, p ∈ L2 → 0 < lp x ∧ (f p).2.1 = nI (st (lp x - 1) + wc (lp x - 1)) ∧ st x ≤ p ∧ p < st x + wc x) → (0 < lp x → z_chn V' (C' (lp x - 1)) w (L2 ++ L) ∧ B' (lp x - 1) = nI (st (lp x - 1))) → (∀ y, y < x ∨ x + sz x ≤ y → (y + 1 ≠ lp x → C' y = C y) ∧ B' y = B y) → mz_gi X mz_sh 169 31 [some (.ref 55), some (.int (nI x)), some (.int (if t = [] then -1 else nI lo)), none] m Q := by
    intro t
    induction t with
    | nil =>
      intro lo w j m O' V' P' C' A' B' L2 hs hlo hm hst hsum hj hPj h' pg' l1 l2 l3
      simp only [List.map_nil, List.sum_nil, Nat.add_zero] at hsum
      rw [if_pos rfl]
      refine s_M_lv0 (by omega) (s_M_lvk (by omega) (by rw [h'.1 82 (by decide)]; exact c1) c6 (fun _ => ?_) (fun g => by omega) (fun g => by omega) (fun g => by omega) (fun g => by omega) (fun g => by omega) (fun g => by omega) (fun g => by omega) (fun g => by omega) (fun g1 g2 => by omega) (fun g => by omega) (fun g => by omega))
      rw [h'.1 89 (by decide), h'.1 88 (by decide)]
      exact hQ _ _ _ _ _ _ _ L2 (h'.w hsum) (pg'.w hsum) l1 (fun g => by rw [← hsum]; exact (l2 g).1) l3
    | cons y t iht =>
      intro lo w j m O' V' P' C' A' B' L2 hs hlo hm hst hsum hj hPj h' pg' l1 l2 l3
      obtain ⟨a1, a2, a3⟩ := hs
      subst a1
      simp only [List.map_cons, List.sum_cons, List.length_cons] at hsum hj
      rw [if_neg (List.cons_ne_nil _ _)]
      have hyk := hm y List.mem_cons_self
      obtain ⟨u1, u2, u3, u4⟩ := z_pre_kids hp x hx y hyk
      have hys := (hp.2.2.2.2.1 y u3).1
      have hsy : st y = w := by
        have := hst y List.mem_cons_self
        simp only [z_off, if_true] at this
        exact this
      have hlpy : lp y = lp x := by
        have := hl.2.1 x hx (Or.inl k) y hyk
        rw [if_neg (by omega)] at this
        exact this
      refine s_M_dn (k := j) (kk := kd x) (a := 0) h' (by omega) (by omega) hPj c1 c6 (by omega) (by have := pg'.2.2.2.2.2.2; omega) (fun g => by omega) (fun m2 w2 O2 V2 C2 A2 B2 h2 g0 g1 g2 g3 => ?_)
      have hall : w2 = w ∧ O2 = O' ∧ V2 = V' ∧ C2 = C' ∧ A2 = A' ∧ B2 = B' := by
        have hj4 : j = 0 ∨ j = 1 ∨ j = 2 ∨ 3 ≤ j := by omega
        rcases hj4 with e | e | e | e
        · obtain ⟨r1, r2, r3, r4, r5⟩ := g0 e
          rcases r5 with r5 | ⟨_, r6, r7⟩
          · omega
          · exact ⟨r1, r2, r3, r6, r4, r7⟩
        · obtain ⟨r1, r2, r3⟩ := g1 e
          rcases r3 with r3 | r3 | ⟨_, r4, r5, r6, r7⟩
          · omega
          · omega
          · exact ⟨r4, r5, r6, r1, r7, r2⟩
        · obtain ⟨r1, r2, r3⟩ := g2 e
          rcases r3 with r3 | ⟨_, r4, r5, r6, r7⟩
          · omega
          · exact ⟨r4, r5, r6, r1, r2, r7⟩
        · exact ⟨(g3 e).1, (g3 e).2.1, (g3 e).2.2.1, (g3 e).2.2.2.1, (g3 e).2.2.2.2.1, (g3 e).2.2.2.2.2⟩
      obtain ⟨rfl, rfl, rfl, rfl, rfl, rfl⟩ := hall
      have pg2 := (pg'.uP (i := x) (nI (j + 1)) (Nat.le_refl _) (by omega)).uP (i := y) 0 (by omega) (by omega)
      refine hS y hyk Q m2 _ _ _ _ _ _ (L2 ++ L) (h2.w hsy.symm) (by simp [upd]) (fun g => ?_) (fun m3 O3 V3 P3 C3 A3 B3 L3 h3 p3 l4 l5 l6 => ?_)
      · rw [hlpy] at g ⊢
        rw [hsy]
        exact l2 g
      · rw [hlpy] at l4 l5 l6
        have pg3 := pg2.kd2 p3 hsy (by omega) (by omega) (by omega)
        have e3 : P3 x = nI (j + 1) := by
          rw [p3.2.2.1 x (Or.inl (by omega))]
          have : x ≠ y := by omega
          simp [upd, this]
        rw [(n3 y u3).2.2.2.2, if_neg (by omega), u1, (n3 y u3).2.2.2.1, if_neg (by omega), u1]
        have hif : (if y + sz y = x + sz x then (-1 : Int32) else nI (y + sz y)) = (if t = [] then -1 else nI (y + sz y)) := by
          cases t with
          | nil =>
            have : y + sz y = x + sz x := a3
            rw [if_pos this, if_pos rfl]
          | cons z t =>
            obtain ⟨b1, b2, b3⟩ := a3
            rw [if_neg (by omega), if_neg (List.cons_ne_nil _ _)]
        rw [hif]
        refine iht (y + sz y) (st y + wc y) (j + 1) m3 O3 V3 P3 C3 A3 B3 (L3 ++ L2) a3 (by omega) (fun z hz => hm z (List.mem_cons_of_mem _ hz)) (fun z hz => ?_) (by omega) (by omega) e3 h3 pg3 (fun p hp => ?_) (fun g => ?_) (fun z hz => ?_)
        · have := hst z (List.mem_cons_of_mem _ hz)
          have h4 := z_segP_mem _ _ _ a3 z hz
          simp only [z_off] at this
          rw [if_neg (by omega)] at this
          omega
        · rcases List.mem_append.mp hp with g | g
          · have := l4 p g
            exact ⟨this.1, this.2.1, by have := pg'.2.2.2.2.2.1; omega, by omega⟩
          · exact l1 p g
        · rw [List.append_assoc]
          refine ⟨l5 g, ?_⟩
          have hw := z_lpw hp hl x x (Nat.le_refl _) hx (by omega) g
          rw [(l6 (lp x - 1) (Or.inl (by omega))).2]
          exact (l2 g).2
        · have q1 := l6 z (by omega)
          have q2 := l3 z hz
          exact ⟨fun g => (q1.1 g).trans (q2.1 g), q1.2.trans q2.2⟩
  rw [(n3 x hx).1]
  refine key (ks x) (x + 1) (st x) 0 m O V P C A B [] hz.2.2.1 (by omega) (fun _ hy => hy) (fun y hy => ?_) hwc (by omega) hP h (z_pg.start (by omega)) (fun p hp => by cases hp) (fun g => hL g) (fun y _ => ⟨fun _ => rfl, rfl⟩)
  have := hc.2.2.1 x hx y hy
  rw [hwb] at this
  exact this
