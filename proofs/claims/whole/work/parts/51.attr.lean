/-! attributes of a tree: from the parts up, from the whole down; places of words -/
def z_bt {α : Type} (h : Nat → List α → α) (ks : Nat → List Nat) : Nat → Nat → α
  | 0, i => h i []
  | f + 1, i => h i ((ks i).map (z_bt h ks f))
theorem z_bt_eq {α : Type} {h : Nat → List α → α} {ks : Nat → List Nat} {N : Nat} (hk : ∀ i, i < N → ∀ x, x ∈ ks i → i < x ∧ x < N) : ∀ f g i, i < N → N - i ≤ f → N - i ≤ g → z_bt h ks f i = z_bt h ks g i := by
  intro f
  induction f with
  | zero => intro g i h1 h2; omega
  | succ f ih =>
    intro g i h1 h2 h3
    obtain ⟨g', rfl⟩ : ∃ g', g = g' + 1 := ⟨g - 1, by omega⟩
    simp only [z_bt]
    congr 1
    refine List.map_congr_left (fun x hx => ?_)
    have := hk i h1 x hx
    exact ih g' x this.2 (by omega) (by omega)
theorem z_bu_ex {α : Type} (h : Nat → List α → α) {ks : Nat → List Nat} {N : Nat} (hk : ∀ i, i < N → ∀ x, x ∈ ks i → i < x ∧ x < N) : ∃ at' : Nat → α, ∀ i, i < N → at' i = h i ((ks i).map at') := by
  refine ⟨fun i => z_bt h ks (N - i) i, fun i hi => ?_⟩
  obtain ⟨f, hf⟩ : ∃ f, N - i = f + 1 := ⟨N - i - 1, by omega⟩
  show z_bt h ks (N - i) i = _
  rw [hf]
  simp only [z_bt]
  congr 1
  refine List.map_congr_left (fun x hx => ?_)
  have := hk i hi x hx
  exact z_bt_eq hk f (N - x) x this.2 (by omega) (by omega)
def z_tdn {α : Type} (g : Nat → α → Nat → α) (up : Nat → Nat) (a0 : α) : Nat → Nat → α
  | 0, _ => a0
  | f + 1, x => if x = 0 then a0 else g (up x) (z_tdn g up a0 f (up x)) x
theorem z_tdn_eq {α : Type} {g : Nat → α → Nat → α} {up : Nat → Nat} {a0 : α} {N : Nat} (hk : ∀ x, 0 < x → x < N → up x < x) : ∀ f f' x, x < N → x ≤ f → x ≤ f' → z_tdn g up a0 f x = z_tdn g up a0 f' x := by
  intro f
  induction f with
  | zero =>
    intro f' x h1 h2 h3
    have : x = 0 := by omega
    subst this
    cases f' with
    | zero => rfl
    | succ f' => simp [z_tdn]
  | succ f ih =>
    intro f' x h1 h2 h3
    by_cases hx : x = 0
    · subst hx
      cases f' with
      | zero => simp [z_tdn]
      | succ f' => simp [z_tdn]
    · have := hk x (by omega) h1
      obtain ⟨f'', rfl⟩ : ∃ f'', f' = f'' + 1 := ⟨f' - 1, by omega⟩
      simp only [z_tdn, hx, if_false]
      rw [ih f'' (up x) (by omega) (by omega) (by omega)]
theorem z_td_ex {α : Type} (g : Nat → α → Nat → α) (a0 : α) {up : Nat → Nat} {ks : Nat → List Nat} {N : Nat} (hk : ∀ i, i < N → ∀ x, x ∈ ks i → up x = i ∧ i < x ∧ x < N) (hu : ∀ x, 0 < x → x < N → up x < x) : ∃ at' : Nat → α, at' 0 = a0 ∧ ∀ i, i < N → ∀ x, x ∈ ks i → at' x = g i (at' i) x := by
  refine ⟨fun x => z_tdn g up a0 x x, rfl, fun i hi x hx => ?_⟩
  obtain ⟨h1, h2, h3⟩ := hk i hi x hx
  show z_tdn g up a0 x x = _
  obtain ⟨f, rfl⟩ : ∃ f, x = f + 1 := ⟨x - 1, by omega⟩
  simp only [z_tdn]
  rw [if_neg (by omega), h1]
  rw [z_tdn_eq hu f i i (by omega) (by omega) (Nat.le_refl _)]
def z_wb (k : Nat) : Nat := if k = 3 then 1 else if k = 4 then 1 else if k = 7 then 3 else if k = 8 then 1 else 0
def z_off (wc : Nat → Nat) (b : Nat) : List Nat → Nat → Nat
  | [], _ => 0
  | y :: t, x => if y = x then 0 else wc y + b + z_off wc b t x
/-- word counts, starts, and how deep the pile is where a node begins -/
def z_cd (N : Nat) (kd : Nat → Nat) (ks : Nat → List Nat) (wc st bs : Nat → Nat) : Prop := (∀ i, i < N → wc i = z_ow (kd i) (ks i).length + ((ks i).map wc).sum) ∧ st 0 = 0 ∧ (∀ i, i < N → ∀ x, x ∈ ks i → st x = st i + z_off wc (z_wb (kd i)) (ks i) x) ∧ bs 0 = 0 ∧ (∀ i, i < N → ∀ x, x ∈ ks i → bs x = (if kd x ≤ 6 then 0 else if kd i ≤ 6 then 0 else if (9 ≤ kd i ∧ kd i ≤ 15) ∧ x ≠ i + 1 then bs i + 1 else bs i))
theorem z_pre_kids {N : Nat} {kd sz ht up : Nat → Nat} {ks : Nat → List Nat} (h : z_pre N kd sz ht up ks) : ∀ i, i < N → ∀ x, x ∈ ks i → up x = i ∧ i < x ∧ x < N ∧ x + sz x ≤ i + sz i := by
  intro i hi x hx
  obtain ⟨p1, p2, p3, p4, p5, p6, p7⟩ := h
  obtain ⟨s1, s2, s3, s4, s5, s6⟩ := p5 i hi
  have := z_segP_mem _ _ _ s3 x hx
  exact ⟨(s4 x hx).1, by omega, by omega, this.2.2⟩
theorem z_cd_ex {N : Nat} {kd sz ht up : Nat → Nat} {ks : Nat → List Nat} (h : z_pre N kd sz ht up ks) : ∃ wc st bs, z_cd N kd ks wc st bs := by
  have hk := z_pre_kids h
  have hu : ∀ x, 0 < x → x < N → up x < x := fun x h1 h2 => (h.2.2.2.2.2.1 x h1 h2).1
  obtain ⟨wc, hwc⟩ := z_bu_ex (fun i l => z_ow (kd i) (ks i).length + l.sum) (ks := ks) (N := N) (fun i hi x hx => ⟨(hk i hi x hx).2.1, (hk i hi x hx).2.2.1⟩)
  obtain ⟨st, hst0, hst⟩ := z_td_ex (fun i a x => a + z_off wc (z_wb (kd i)) (ks i) x) 0 (up := up) (ks := ks) (N := N) (fun i hi x hx => ⟨(hk i hi x hx).1, (hk i hi x hx).2.1, (hk i hi x hx).2.2.1⟩) hu
  obtain ⟨bs, hbs0, hbs⟩ := z_td_ex (fun i a x => (if kd x ≤ 6 then 0 else if kd i ≤ 6 then 0 else if (9 ≤ kd i ∧ kd i ≤ 15) ∧ x ≠ i + 1 then a + 1 else a)) 0 (up := up) (ks := ks) (N := N) (fun i hi x hx => ⟨(hk i hi x hx).1, (hk i hi x hx).2.1, (hk i hi x hx).2.2.1⟩) hu
  exact ⟨wc, st, bs, hwc, hst0, hst, hbs0, hbs⟩
theorem z_map1 {f : Nat → Nat} {l : List Nat} {a : Nat} (h : l.map f = [a]) : ∃ x, l = [x] ∧ f x = a := by
  cases l with
  | nil => cases h
  | cons x t =>
    cases t with
    | nil => simp only [List.map_cons, List.map_nil, List.cons.injEq, and_true] at h; exact ⟨x, rfl, h⟩
    | cons y t => simp at h
theorem z_map2 {f : Nat → Nat} {l : List Nat} {a b : Nat} (h : l.map f = [a, b]) : ∃ x y, l = [x, y] ∧ f x = a ∧ f y = b := by
  cases l with
  | nil => cases h
  | cons x t =>
    simp only [List.map_cons, List.cons.injEq] at h
    obtain ⟨y, rfl, hy⟩ := z_map1 h.2
    exact ⟨x, y, rfl, h.1, hy⟩
theorem z_map3 {f : Nat → Nat} {l : List Nat} {a b c : Nat} (h : l.map f = [a, b, c]) : ∃ x y z, l = [x, y, z] ∧ f x = a ∧ f y = b ∧ f z = c := by
  cases l with
  | nil => cases h
  | cons x t =>
    simp only [List.map_cons, List.cons.injEq] at h
    obtain ⟨y, z, rfl, hy, hz⟩ := z_map2 h.2
    exact ⟨x, y, z, rfl, h.1, hy, hz⟩
/-- one part -/
theorem z_k1 {N : Nat} {kd sz ht up wc st bs : Nat → Nat} {ks : Nat → List Nat} (h : z_pre N kd sz ht up ks) (hc : z_cd N kd ks wc st bs) {i e : Nat} (hi : i < N) (hk : ks i = [e]) : e = i + 1 ∧ e < N ∧ e + sz e = i + sz i ∧ st e = st i ∧ wc i = z_ow (kd i) 1 + wc e ∧ up e = i ∧ ht e < ht i := by
  have hm : e ∈ ks i := by rw [hk]; exact List.mem_singleton.mpr rfl
  obtain ⟨q1, q2, q3, q4⟩ := z_pre_kids h i hi e hm
  obtain ⟨p1, p2, p3, p4, p5, p6, p7⟩ := h
  obtain ⟨s1, s2, s3, s4, s5, s6⟩ := p5 i hi
  obtain ⟨c1, c2, c3, c4, c5⟩ := hc
  have g1 := c1 i hi
  have g3 := c3 i hi e hm
  rw [hk] at s3 g1 g3
  obtain ⟨t1, t2, t3⟩ := s3
  simp only [z_off, if_true] at g3
  simp only [List.map_cons, List.map_nil, List.sum_cons, List.sum_nil, List.length_cons, List.length_nil, Nat.zero_add, Nat.reduceAdd] at g1
  exact ⟨t1, q3, t3, by omega, by omega, q1, (s4 e hm).2⟩
theorem z_k2 {N : Nat} {kd sz ht up wc st bs : Nat → Nat} {ks : Nat → List Nat} (h : z_pre N kd sz ht up ks) (hc : z_cd N kd ks wc st bs) {i a b : Nat} (hi : i < N) (hk : ks i = [a, b]) : a = i + 1 ∧ a < N ∧ b = a + sz a ∧ a < b ∧ b < N ∧ b + sz b = i + sz i ∧ st a = st i ∧ st b = st i + wc a + z_wb (kd i) ∧ wc i = z_ow (kd i) 2 + wc a + wc b ∧ up a = i ∧ up b = i ∧ ht a < ht i ∧ ht b < ht i := by
  have hma : a ∈ ks i := by rw [hk]; exact List.mem_cons_self
  have hmb : b ∈ ks i := by rw [hk]; exact List.mem_cons_of_mem _ (List.mem_singleton.mpr rfl)
  obtain ⟨q1, q2, q3, q4⟩ := z_pre_kids h i hi a hma
  obtain ⟨r1, r2, r3, r4⟩ := z_pre_kids h i hi b hmb
  obtain ⟨p1, p2, p3, p4, p5, p6, p7⟩ := h
  obtain ⟨s1, s2, s3, s4, s5, s6⟩ := p5 i hi
  obtain ⟨c1, c2, c3, c4, c5⟩ := hc
  have g1 := c1 i hi
  have g3 := c3 i hi a hma
  have g4 := c3 i hi b hmb
  rw [hk] at s3 g1 g3 g4
  obtain ⟨t1, t2, t3, t4, t5⟩ := s3
  have sa := (p5 a q3).1
  have hne : ¬ a = b := by omega
  simp only [z_off, if_true] at g3
  simp only [z_off, if_neg hne, if_true] at g4
  simp only [List.map_cons, List.map_nil, List.sum_cons, List.sum_nil, List.length_cons, List.length_nil, Nat.zero_add, Nat.reduceAdd] at g1
  exact ⟨t1, q3, t3, by omega, r3, t5, by omega, by omega, by omega, q1, r1, (s4 a hma).2, (s4 b hmb).2⟩
theorem z_k3 {N : Nat} {kd sz ht up wc st bs : Nat → Nat} {ks : Nat → List Nat} (h : z_pre N kd sz ht up ks) (hc : z_cd N kd ks wc st bs) {i a b c : Nat} (hi : i < N) (hk : ks i = [a, b, c]) : a = i + 1 ∧ a < N ∧ b = a + sz a ∧ a < b ∧ b < N ∧ c = b + sz b ∧ b < c ∧ c < N ∧ c + sz c = i + sz i ∧ st a = st i ∧ st b = st i + wc a + z_wb (kd i) ∧ st c = st i + wc a + wc b + 2 * z_wb (kd i) ∧ wc i = z_ow (kd i) 3 + wc a + wc b + wc c ∧ up a = i ∧ up b = i ∧ up c = i := by
  have hma : a ∈ ks i := by rw [hk]; exact List.mem_cons_self
  have hmb : b ∈ ks i := by rw [hk]; exact List.mem_cons_of_mem _ List.mem_cons_self
  have hmc : c ∈ ks i := by rw [hk]; exact List.mem_cons_of_mem _ (List.mem_cons_of_mem _ (List.mem_singleton.mpr rfl))
  obtain ⟨q1, q2, q3, q4⟩ := z_pre_kids h i hi a hma
  obtain ⟨r1, r2, r3, r4⟩ := z_pre_kids h i hi b hmb
  obtain ⟨v1, v2, v3, v4⟩ := z_pre_kids h i hi c hmc
  obtain ⟨p1, p2, p3, p4, p5, p6, p7⟩ := h
  obtain ⟨s1, s2, s3, s4, s5, s6⟩ := p5 i hi
  obtain ⟨c1, c2, c3, c4, c5⟩ := hc
  have g1 := c1 i hi
  have g3 := c3 i hi a hma
  have g4 := c3 i hi b hmb
  have g5 := c3 i hi c hmc
  rw [hk] at s3 g1 g3 g4 g5
  obtain ⟨t1, t2, t3, t4, t5, t6, t7⟩ := s3
  have sa := (p5 a q3).1
  have sb := (p5 b r3).1
  have hne : ¬ a = b := by omega
  have hne2 : ¬ a = c := by omega
  have hne3 : ¬ b = c := by omega
  simp only [z_off, if_true] at g3
  simp only [z_off, if_neg hne, if_true] at g4
  simp only [z_off, if_neg hne2, if_neg hne3, if_true] at g5
  simp only [List.map_cons, List.map_nil, List.sum_cons, List.sum_nil, List.length_cons, List.length_nil, Nat.zero_add, Nat.reduceAdd] at g1
  exact ⟨t1, q3, t3, by omega, r3, t5, by omega, v3, t7, by omega, by omega, by omega, by omega, q1, r1, v1⟩
