/-! the class's tree, from the order of growth to the order of the tree -/
def y_plc (m : mz_M) : z_F → Nat → Nat → Prop
  | .leaf, _, _ => True
  | .inner _ _ _ l r, c, b => m 36 (c + z_fsz l) = nI b ∧ y_plc m r (c + z_fsz l + 1) (b + 1 + z_fsz l)
theorem y_plc_fr {m m' : mz_M} : ∀ (F : z_F) (c b : Nat), (∀ i, c ≤ i → i < c + z_fsz F → m' 36 i = m 36 i) → y_plc m F c b → y_plc m' F c b := by
  intro F
  induction F with
  | leaf => intro c b _ _; trivial
  | inner s a v l r ihl ihr =>
    intro c b h hm
    simp only [z_fsz] at h
    exact ⟨by rw [h _ (by omega) (by omega)]; exact hm.1, ihr _ _ (fun i i1 i2 => h i (by omega) (by omega)) hm.2⟩
theorem y_plc_ap {m : mz_M} : ∀ (F R : z_F) (c b : Nat), y_plc m (z_fap F R) c b ↔ (y_plc m F c b ∧ y_plc m R (c + z_fsz F) (b + z_fsz F)) := by
  intro F
  induction F with
  | leaf => intro R c b; simp [z_fap, y_plc, z_fsz]
  | inner s a v l r ihl ihr =>
    intro R c b
    simp only [z_fap, y_plc, ihr R, z_fsz]
    rw [show c + z_fsz l + 1 + z_fsz r = c + (1 + z_fsz l + z_fsz r) by omega, show b + 1 + z_fsz l + z_fsz r = b + (1 + z_fsz l + z_fsz r) by omega]
    constructor
    · rintro ⟨h1, h2, h3⟩; exact ⟨⟨h1, h2⟩, h3⟩
    · rintro ⟨⟨h1, h2⟩, h3⟩; exact ⟨h1, h2, h3⟩
theorem s_T_plp1 {X : mz_X} {Q : mz_M → Prop} {l : z_F} {w c b : Nat} (hw : w = c + z_fsz l) (hw2 : w < 4001) (hb2 : b + z_fsz l ≤ 4001) : ∀ (n : Nat) (K R : z_F) (m : mz_M), l = z_fap K R → z_fln K = n → z_fpm m l c → m 14 w = nI (z_fln l) → y_plc m R (c + z_fsz K) (b + z_fsz K) → (∀ m', z_fr [36] m m' → (∀ i, i < c ∨ w ≤ i → m' 36 i = m 36 i) → y_plc m' l c b → Q m') → mz_gv X mz_sh 85 22 [some (.ref 30), some (.ref 11), some (.int (nI w)), some (.int (nI (b + z_fsz K))), some (.int (nI (c + z_fsz K) - 1)), some (.int (nI (z_fln l - n)))] m Q := by
  intro n
  induction n with
  | zero =>
    intro K R m hl hK hm h14 hR hQ
    have hK0 : K = .leaf := by
      cases K with
      | leaf => rfl
      | inner s a v l r => simp only [z_fln] at hK; omega
    subst hK0
    have hln := z_fln_sz l
    have hin : mz_inb (nI w) 4001 = true := mz_inbN hw2 (by decide)
    refine t_T_placeParts_1 _ _ _ _ ⟨hin, fun _ => hQ m (z_fr.rf _ _) (fun _ _ => rfl) ?_, fun g => ?_⟩
    · rw [hl]
      simpa [z_fap, z_fsz] using hR
    · rw [nI_clamp (by omega), h14] at g
      exact absurd (nI_le (by omega) (by omega)) g
  | succ n ih =>
    intro K R m hl hK hm h14 hR hQ
    obtain ⟨K', s, a, v, ll, rfl, e2⟩ := z_fsnoc K n hK
    have hln := z_fln_sz l
    have hin : mz_inb (nI w) 4001 = true := mz_inbN hw2 (by decide)
    have hsl : z_fsz l = z_fsz K' + (1 + z_fsz ll) + z_fsz R := by
      rw [hl, z_fsz_ap, z_fsz_ap]
      simp only [z_fsz]
      omega
    have hnl : z_fln l = n + 1 + z_fln R := by
      rw [hl, z_fln_ap]
      omega
    have hsk : z_fsz (z_fap K' (.inner s a v ll .leaf)) = z_fsz K' + (1 + z_fsz ll) := by
      rw [z_fsz_ap]
      simp only [z_fsz]
      omega
    have hm2 := hm
    rw [hl, z_fap_as, z_fpm_ap] at hm2
    obtain ⟨_, ⟨_, _, _, m16⟩, _⟩ := hm2.2
    rw [hsk] at hR ⊢
    refine t_T_placeParts_1 _ _ _ _ ⟨hin, fun g => ?_, fun _ => ?_⟩
    · rw [nI_clamp (by omega), h14] at g
      exact absurd g (nI_ge (by omega) (by omega))
    rw [nI_m1 (show 1 ≤ c + (z_fsz K' + (1 + z_fsz ll)) by omega), show c + (z_fsz K' + (1 + z_fsz ll)) - 1 = c + z_fsz K' + z_fsz ll by omega]
    have hin4 : mz_inb (nI (c + z_fsz K' + z_fsz ll)) 4001 = true := mz_inbN (by omega) (by decide)
    refine ⟨fun g => absurd g (nI_pos (by omega)), fun _ => ⟨hin4, hin4, hin4, ?_⟩⟩
    rw [nI_clamp (by omega), m16.2]
    have e3 : nI (b + (z_fsz K' + (1 + z_fsz ll))) - nI (1 + z_fsz ll) = nI (b + z_fsz K') := by
      rw [nI_sub (by omega)]
      congr 1
      omega
    have e4 : nI (c + z_fsz K' + z_fsz ll) - nI (1 + z_fsz ll) = nI (c + z_fsz K') - 1 := by
      rw [Nat.add_comm 1, ← nI_add, ← nI_1]
      rw [Int32.sub_eq_add_neg, Int32.sub_eq_add_neg, Int32.neg_add, Int32.sub_eq_add_neg, Int32.add_assoc, ← Int32.add_assoc (nI (z_fsz ll)), Int32.add_right_neg, Int32.zero_add]
    rw [e3, e4, nI_1, show z_fln l - (n + 1) + 1 = z_fln l - n by omega]
    have f1 : z_fr [36] m (mz_up m 36 (c + z_fsz K' + z_fsz ll) (nI (b + z_fsz K'))) := (z_fr.rf _ _).up (by decide)
    refine ih K' (z_fap (.inner s a v ll .leaf) R) _ (by rw [hl, z_fap_as]) e2 (z_fpm_fr _ _ (fun i _ _ => by rw [f1 12 (by decide), f1 13 (by decide), f1 14 (by decide), f1 15 (by decide), f1 16 (by decide)]; exact ⟨rfl, rfl, rfl, rfl, rfl⟩) hm) (by rw [f1 14 (by decide)]; exact h14) ⟨?_, ?_⟩ (fun m' f2 w1 w2 => hQ m' (f1.tr f2) (fun i hi => ?_) w2)
    · rw [mz_up_k]
      simp [upd]
    · refine y_plc_fr (m := m) R _ _ (fun i i1 i2 => ?_) ?_
      · have : i ≠ c + z_fsz K' + z_fsz ll := by omega
        rw [mz_up_k]
        simp [upd, this]
      · rw [show c + z_fsz K' + z_fsz ll + 1 = c + (z_fsz K' + (1 + z_fsz ll)) by omega, show b + z_fsz K' + 1 + z_fsz ll = b + (z_fsz K' + (1 + z_fsz ll)) by omega]
        exact hR
    · rw [w1 i hi, mz_up_k]
      have : i ≠ c + z_fsz K' + z_fsz ll := by omega
      simp [upd, this]
theorem s_T_tio {X : mz_X} {Q : mz_M → Prop} {G : y_G} : ∀ (F : z_F) (c b u : Nat) (m : mz_M), y_at G F b u → z_fpm m F c → y_plc m F c b → c + z_fsz F ≤ 4001 → b + z_fsz F ≤ 4001 → (∀ m', z_fr [31, 32, 33, 34, 35, 36] m m' → (∀ i, b ≤ i → i < b + z_fsz F → m' 31 i = nI (G i).1 ∧ m' 32 i = nI (G i).2.1 ∧ m' 33 i = nI (G i).2.2.2.2.2.length ∧ m' 34 i = nI (G i).2.2.2.1 ∧ m' 35 i = nI (G i).2.2.1) → (∀ i, i < b ∨ b + z_fsz F ≤ i → m' 31 i = m 31 i ∧ m' 32 i = m 32 i ∧ m' 33 i = m 33 i ∧ m' 34 i = m 34 i ∧ m' 35 i = m 35 i) → (∀ i, i < c ∨ c + z_fsz F ≤ i → m' 36 i = m 36 i) → mz_gv X mz_sh 84 35 [some (.ref 30), some (.ref 11), some (.int (nI c - 1)), none] m' Q) → mz_gv X mz_sh 84 35 [some (.ref 30), some (.ref 11), some (.int (nI (c + z_fsz F) - 1)), none] m Q := by
  intro F
  induction F with
  | leaf =>
    intro c b u m h1 h2 h3 h4 h5 hQ
    exact hQ m (z_fr.rf _ _) (fun i i1 i2 => by simp only [z_fsz] at i2; omega) (fun _ _ => ⟨rfl, rfl, rfl, rfl, rfl⟩) (fun _ _ => rfl)
  | inner s a v l r ihl ihr =>
    intro c b u m h1 h2 h3 h4 h5 hQ
    simp only [z_fsz] at h4 h5 hQ ⊢
    obtain ⟨g1, g2, g3⟩ := h1
    obtain ⟨p1, ⟨p12, p13, p14, p15, p16⟩, p2⟩ := h2
    obtain ⟨q1, q2⟩ := h3
    rw [show c + (1 + z_fsz l + z_fsz r) = c + z_fsz l + 1 + z_fsz r by omega]
    refine ihr (c + z_fsz l + 1) (b + 1 + z_fsz l) u m g3 p2 q2 (by omega) (by omega) (fun m1 f1 w1 w2 w3 => ?_)
    rw [nI_m1 (by omega), Nat.add_sub_cancel]
    have hin : mz_inb (nI (c + z_fsz l)) 4001 = true := mz_inbN (by omega) (by decide)
    have hinb : mz_inb (nI b) 4001 = true := mz_inbN (by omega) (by decide)
    have e36 : m1 36 (c + z_fsz l) = nI b := by rw [w3 _ (Or.inl (by omega))]; exact q1
    refine t_T_takeInOrder_1 _ ⟨fun g => absurd g (nI_pos (by omega)), fun _ => ?_⟩
    rw [nI_clamp (by omega), e36, nI_clamp (by omega), f1 12 (by decide), f1 13 (by decide), f1 14 (by decide), f1 15 (by decide), f1 16 (by decide), p12, p13, p14, p15, p16]
    refine ⟨hin, hin, hinb, hin, hinb, hin, hinb, hin, hinb, hin, hinb, ?_⟩
    have f2 : z_fr [31, 32, 33, 34, 35, 36] m1 (mz_up (mz_up (mz_up (mz_up (mz_up m1 31 b (nI a.1)) 32 b (nI a.2.1)) 33 b (nI (z_fln l))) 34 b (nI (1 + z_fht l))) 35 b (nI (1 + z_fsz l))) := (((((z_fr.rf _ _).up (by decide)).up (by decide)).up (by decide)).up (by decide)).up (by decide)
    have v2 : ∀ i, i ≠ b → mz_up (mz_up (mz_up (mz_up (mz_up m1 31 b (nI a.1)) 32 b (nI a.2.1)) 33 b (nI (z_fln l))) 34 b (nI (1 + z_fht l))) 35 b (nI (1 + z_fsz l)) 31 i = m1 31 i ∧ mz_up (mz_up (mz_up (mz_up (mz_up m1 31 b (nI a.1)) 32 b (nI a.2.1)) 33 b (nI (z_fln l))) 34 b (nI (1 + z_fht l))) 35 b (nI (1 + z_fsz l)) 32 i = m1 32 i ∧ mz_up (mz_up (mz_up (mz_up (mz_up m1 31 b (nI a.1)) 32 b (nI a.2.1)) 33 b (nI (z_fln l))) 34 b (nI (1 + z_fht l))) 35 b (nI (1 + z_fsz l)) 33 i = m1 33 i ∧ mz_up (mz_up (mz_up (mz_up (mz_up m1 31 b (nI a.1)) 32 b (nI a.2.1)) 33 b (nI (z_fln l))) 34 b (nI (1 + z_fht l))) 35 b (nI (1 + z_fsz l)) 34 i = m1 34 i ∧ mz_up (mz_up (mz_up (mz_up (mz_up m1 31 b (nI a.1)) 32 b (nI a.2.1)) 33 b (nI (z_fln l))) 34 b (nI (1 + z_fht l))) 35 b (nI (1 + z_fsz l)) 35 i = m1 35 i := fun i hi => by simp [mz_up, upd, hi]
    have v3 : mz_up (mz_up (mz_up (mz_up (mz_up m1 31 b (nI a.1)) 32 b (nI a.2.1)) 33 b (nI (z_fln l))) 34 b (nI (1 + z_fht l))) 35 b (nI (1 + z_fsz l)) 31 b = nI a.1 ∧ mz_up (mz_up (mz_up (mz_up (mz_up m1 31 b (nI a.1)) 32 b (nI a.2.1)) 33 b (nI (z_fln l))) 34 b (nI (1 + z_fht l))) 35 b (nI (1 + z_fsz l)) 32 b = nI a.2.1 ∧ mz_up (mz_up (mz_up (mz_up (mz_up m1 31 b (nI a.1)) 32 b (nI a.2.1)) 33 b (nI (z_fln l))) 34 b (nI (1 + z_fht l))) 35 b (nI (1 + z_fsz l)) 33 b = nI (z_fln l) ∧ mz_up (mz_up (mz_up (mz_up (mz_up m1 31 b (nI a.1)) 32 b (nI a.2.1)) 33 b (nI (z_fln l))) 34 b (nI (1 + z_fht l))) 35 b (nI (1 + z_fsz l)) 34 b = nI (1 + z_fht l) ∧ mz_up (mz_up (mz_up (mz_up (mz_up m1 31 b (nI a.1)) 32 b (nI a.2.1)) 33 b (nI (z_fln l))) 34 b (nI (1 + z_fht l))) 35 b (nI (1 + z_fsz l)) 35 b = nI (1 + z_fsz l) := by simp [mz_up, upd]
    have v4 : mz_up (mz_up (mz_up (mz_up (mz_up m1 31 b (nI a.1)) 32 b (nI a.2.1)) 33 b (nI (z_fln l))) 34 b (nI (1 + z_fht l))) 35 b (nI (1 + z_fsz l)) 36 = m1 36 := by simp [mz_up]
    generalize mz_up (mz_up (mz_up (mz_up (mz_up m1 31 b (nI a.1)) 32 b (nI a.2.1)) 33 b (nI (z_fln l))) 34 b (nI (1 + z_fht l))) 35 b (nI (1 + z_fsz l)) = m2 at f2 v2 v3 v4
    have f12 := f1.tr f2
    have hpl : z_fpm m2 l c := z_fpm_fr _ _ (fun i _ _ => by rw [f12 12 (by decide), f12 13 (by decide), f12 14 (by decide), f12 15 (by decide), f12 16 (by decide)]; exact ⟨rfl, rfl, rfl, rfl, rfl⟩) p1
    have hln := z_fln_sz l
    refine t_T_placeParts_0 _ ⟨hin, hin, ?_⟩
    rw [nI_clamp (by omega), v4, e36, f12 16 (by decide), p16, nI_add, show b + (1 + z_fsz l) = b + 1 + z_fsz l by omega]
    have hpp := s_T_plp1 (X := X) (Q := fun m16 => mz_gv X mz_sh 84 35 [some (.ref 30), some (.ref 11), some (.int (nI (c + z_fsz l) + (-1))), none] m16 Q) (l := l) (w := c + z_fsz l) (c := c) (b := b + 1) rfl (by omega) (by omega) (z_fln l) l .leaf m2 (z_fap_nil l).symm rfl hpl (by rw [f12 14 (by decide)]; exact p14) trivial (fun m3 f3 w4 w5 => ?_)
    · rw [Nat.sub_self] at hpp
      exact hpp
    · have f123 := f12.tr (f3.wk (l' := [31, 32, 33, 34, 35, 36]) (by decide))
      rw [show nI (c + z_fsz l) + (-1) = nI (c + z_fsz l) - 1 from (Int32.sub_eq_add_neg _ _).symm]
      refine ihl c (b + 1) b m3 g2 (z_fpm_fr _ _ (fun i _ _ => by rw [f3 12 (by decide), f3 13 (by decide), f3 14 (by decide), f3 15 (by decide), f3 16 (by decide)]; exact ⟨rfl, rfl, rfl, rfl, rfl⟩) hpl) w5 (by omega) (by omega) (fun m4 f4 w6 w7 w8 => ?_)
      have k3 : ∀ i, m3 31 i = m2 31 i ∧ m3 32 i = m2 32 i ∧ m3 33 i = m2 33 i ∧ m3 34 i = m2 34 i ∧ m3 35 i = m2 35 i := fun i => by rw [f3 31 (by decide), f3 32 (by decide), f3 33 (by decide), f3 34 (by decide), f3 35 (by decide)]; exact ⟨rfl, rfl, rfl, rfl, rfl⟩
      refine hQ m4 (f123.tr f4) (fun i i1 i2 => ?_) (fun i hi => ?_) (fun i hi => ?_)
      · by_cases e : i = b
        · subst e
          obtain ⟨z1, z2, z3, z4, z5⟩ := w7 i (Or.inl (by omega))
          obtain ⟨y1, y2, y3, y4, y5⟩ := k3 i
          obtain ⟨x1, x2, x3, x4, x5⟩ := v3
          rw [z1, z2, z3, z4, z5, y1, y2, y3, y4, y5, x1, x2, x3, x4, x5, g1]
          exact ⟨rfl, rfl, by rw [y_fro_len], rfl, rfl⟩
        · by_cases e2 : i < b + 1 + z_fsz l
          · exact w6 i (by omega) e2
          · obtain ⟨z1, z2, z3, z4, z5⟩ := w7 i (Or.inr (by omega))
            obtain ⟨y1, y2, y3, y4, y5⟩ := k3 i
            obtain ⟨x1, x2, x3, x4, x5⟩ := v2 i e
            rw [z1, z2, z3, z4, z5, y1, y2, y3, y4, y5, x1, x2, x3, x4, x5]
            exact w1 i (by omega) (by omega)
      · have e : i ≠ b := by omega
        obtain ⟨z1, z2, z3, z4, z5⟩ := w7 i (by omega)
        obtain ⟨y1, y2, y3, y4, y5⟩ := k3 i
        obtain ⟨x1, x2, x3, x4, x5⟩ := v2 i e
        rw [z1, z2, z3, z4, z5, y1, y2, y3, y4, y5, x1, x2, x3, x4, x5]
        exact w2 i (by omega)
      · rw [w8 i (by omega), w4 i (by omega), v4, w3 i (by omega)]
theorem s_T_takeInOrder {X : mz_X} {m : mz_M} {Q : mz_M → Prop} {G : y_G} {a : Nat × Nat × Nat} {F : z_F} (hG : y_at G (.inner 0 a () F .leaf) 0 0) (hm : z_fpm m (.inner 0 a () F .leaf) 0) (hN : m 11 5 = nI (1 + z_fsz F)) (hN2 : z_fsz F ≤ 4000) (hQ : ∀ m', z_fr [30, 31, 32, 33, 34, 35, 36] m m' → m' 30 5 = nI (1 + z_fsz F) → (∀ i, i < 1 + z_fsz F → m' 31 i = nI (G i).1 ∧ m' 32 i = nI (G i).2.1 ∧ m' 33 i = nI (G i).2.2.2.2.2.length ∧ m' 34 i = nI (G i).2.2.2.1 ∧ m' 35 i = nI (G i).2.2.1) → Q m') : mz_gv X mz_sh 84 0 [some (.ref 30), some (.ref 11), none, none] m Q := by
  refine t_T_takeInOrder_0 ?_
  rw [hN]
  refine ⟨fun g => ?_, fun _ => ?_⟩
  · have := nI_eqc (c := 0) rfl (by omega) (by omega) g
    omega
  have e1 : nI (1 + z_fsz F) - 1 = nI (z_fsz F) := by rw [nI_m1 (by omega)]; congr 1; omega
  refine ⟨by rw [e1]; exact mz_inbN (by omega) (by decide), ?_⟩
  have f1 : z_fr [30, 31, 32, 33, 34, 35, 36] m (mz_up (mz_up m 30 5 (nI (1 + z_fsz F))) 36 (nI (1 + z_fsz F) - 1).toNatClampNeg 0) := ((z_fr.rf _ _).up (by decide)).up (by decide)
  have hsz : z_fsz (.inner 0 a () F .leaf : z_F) = 1 + z_fsz F := by simp only [z_fsz, Nat.add_zero]
  have t := s_T_tio (X := X) (Q := Q) (.inner 0 a () F .leaf) 0 0 0 (mz_up (mz_up m 30 5 (nI (1 + z_fsz F))) 36 (nI (1 + z_fsz F) - 1).toNatClampNeg 0) hG (z_fpm_fr _ _ (fun i _ _ => by rw [f1 12 (by decide), f1 13 (by decide), f1 14 (by decide), f1 15 (by decide), f1 16 (by decide)]; exact ⟨rfl, rfl, rfl, rfl, rfl⟩) hm) ⟨by rw [mz_up_k, e1, nI_clamp (by omega), Nat.zero_add]; simp [upd, nI_0], trivial⟩ (by rw [hsz]; omega) (by rw [hsz]; omega) (fun m' f2 w1 w2 w3 => ?_)
  · rw [hsz, Nat.zero_add] at t
    exact t
  · rw [hsz, Nat.zero_add] at w1
    refine t_T_takeInOrder_1 _ ⟨fun _ => hQ m' (f1.tr (f2.wk (by decide))) ?_ (fun i hi => w1 i (by omega) hi), fun g => absurd (by decide : nI 0 - 1 < 0) g⟩
    rw [f2 30 (by decide), mz_up_n _ _ _ (by decide), mz_up_k]
    simp [upd]
