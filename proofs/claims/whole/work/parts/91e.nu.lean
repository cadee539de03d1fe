/-! the reference's numbering, whole; its heights; strays -/
theorem s_M_number {X : mz_X} {m : mz_M} {Q : mz_M → Prop} {G : y_G} {tg : Nat} {F : z_F} (hG : y_at G (.inner 0 (0, 0, tg) () F .leaf) 0 0) (hraw : z_raw m (-1) (.inner 0 (0, 0, tg) () F .leaf)) (hid : ∀ id, id ∈ z_fid F → id < 12100 ∧ id ≠ tg) (htg : tg < 12100) (hN : z_fsz F ≤ 4000) (hQ : ∀ m', z_fm [82, 83, 84, 86, 87, 88, 89] [43] m m' → m' 55 43 = nI (1 + z_fsz F) → (∀ i, i < 1 + z_fsz F → m' 82 i = nI (G i).1 ∧ m' 83 i = nI (G i).2.1 ∧ m' 84 i = nI (G i).2.2.2.2.2.length) → z_links m' (1 + z_fsz F) (fun i => (G i).2.2.1) (fun i => (G i).2.2.2.2.1) (fun i => (G i).2.2.2.2.2) → Q m') : mz_gv X mz_sh 156 0 [some (.ref 55), some (.int (nI tg)), none, none, none] m Q := by
  obtain ⟨g1, g2, _⟩ := hG
  obtain ⟨w1, w2, w3, w4, w5, w6, w7, _⟩ := hraw
  rw [Nat.zero_add] at g2
  have hin : mz_inb (nI tg) 12100 = true := mz_inbN htg (by decide)
  have hin0 : mz_inb (nI 0) 12100 = true := mz_inbN (by decide) (by decide)
  refine t_M_number_0 _ (t_M_number_1 _ _ _ ⟨fun g => absurd g (nI_pos (by omega)), fun _ => ?_⟩)
  have e43 : mz_up m 55 43 0 55 43 = nI 0 := by rw [mz_up_k]; simp [upd, nI_0]
  have e76 : mz_up m 55 43 0 76 tg = nI 0 := by rw [mz_up_n _ _ _ (by decide)]; exact w1
  have e77 : mz_up m 55 43 0 77 tg = nI 0 := by rw [mz_up_n _ _ _ (by decide)]; exact w2
  rw [e43, nI_clamp (show 0 < 2 ^ 31 by decide), nI_clamp (show tg < 2 ^ 31 by omega), e76, e77, nI_1]
  refine ⟨hin, hin0, hin, hin0, hin0, hin0, hin0, hin0, hin0, fun _ => ?_, fun g => absurd (by decide) g⟩
  have a0 : z_fm [82, 83, 84, 86, 87, 88, 89] [43] m (mz_up (mz_up (mz_up (mz_up (mz_up (mz_up (mz_up (mz_up (mz_up m 55 43 0) 55 43 (nI (0 + 1))) 82 0 (nI 0)) 83 0 (nI 0)) 84 0 0) 86 0 (-1)) 87 0 (-1)) 88 0 (-1)) 89 0 (-1)) := (((((((((z_fm.rf _ _ _).uf (by decide)).uf (by decide)).up (by decide) (by decide)).up (by decide) (by decide)).up (by decide) (by decide)).up (by decide) (by decide)).up (by decide) (by decide)).up (by decide) (by decide)).up (by decide) (by decide)
  have b43 : mz_up (mz_up (mz_up (mz_up (mz_up (mz_up (mz_up (mz_up (mz_up m 55 43 0) 55 43 (nI (0 + 1))) 82 0 (nI 0)) 83 0 (nI 0)) 84 0 0) 86 0 (-1)) 87 0 (-1)) 88 0 (-1)) 89 0 (-1) 55 43 = nI 1 := by simp [mz_up, upd]
  have b82 : mz_up (mz_up (mz_up (mz_up (mz_up (mz_up (mz_up (mz_up (mz_up m 55 43 0) 55 43 (nI (0 + 1))) 82 0 (nI 0)) 83 0 (nI 0)) 84 0 0) 86 0 (-1)) 87 0 (-1)) 88 0 (-1)) 89 0 (-1) 82 0 = nI 0 := by simp [mz_up, upd]
  have b83 : mz_up (mz_up (mz_up (mz_up (mz_up (mz_up (mz_up (mz_up (mz_up m 55 43 0) 55 43 (nI (0 + 1))) 82 0 (nI 0)) 83 0 (nI 0)) 84 0 0) 86 0 (-1)) 87 0 (-1)) 88 0 (-1)) 89 0 (-1) 83 0 = nI 0 := by simp [mz_up, upd]
  have b84 : mz_up (mz_up (mz_up (mz_up (mz_up (mz_up (mz_up (mz_up (mz_up m 55 43 0) 55 43 (nI (0 + 1))) 82 0 (nI 0)) 83 0 (nI 0)) 84 0 0) 86 0 (-1)) 87 0 (-1)) 88 0 (-1)) 89 0 (-1) 84 0 = nI 0 := by simp [mz_up, upd, nI_0]
  have b86 : mz_up (mz_up (mz_up (mz_up (mz_up (mz_up (mz_up (mz_up (mz_up m 55 43 0) 55 43 (nI (0 + 1))) 82 0 (nI 0)) 83 0 (nI 0)) 84 0 0) 86 0 (-1)) 87 0 (-1)) 88 0 (-1)) 89 0 (-1) 86 0 = -1 := by simp [mz_up, upd]
  have b87 : mz_up (mz_up (mz_up (mz_up (mz_up (mz_up (mz_up (mz_up (mz_up m 55 43 0) 55 43 (nI (0 + 1))) 82 0 (nI 0)) 83 0 (nI 0)) 84 0 0) 86 0 (-1)) 87 0 (-1)) 88 0 (-1)) 89 0 (-1) 87 0 = -1 := by simp [mz_up, upd]
  have b88 : mz_up (mz_up (mz_up (mz_up (mz_up (mz_up (mz_up (mz_up (mz_up m 55 43 0) 55 43 (nI (0 + 1))) 82 0 (nI 0)) 83 0 (nI 0)) 84 0 0) 86 0 (-1)) 87 0 (-1)) 88 0 (-1)) 89 0 (-1) 88 0 = -1 := by simp [mz_up, upd]
  have b89 : mz_up (mz_up (mz_up (mz_up (mz_up (mz_up (mz_up (mz_up (mz_up m 55 43 0) 55 43 (nI (0 + 1))) 82 0 (nI 0)) 83 0 (nI 0)) 84 0 0) 86 0 (-1)) 87 0 (-1)) 88 0 (-1)) 89 0 (-1) 89 0 = -1 := by simp [mz_up, upd]
  generalize mz_up (mz_up (mz_up (mz_up (mz_up (mz_up (mz_up (mz_up (mz_up m 55 43 0) 55 43 (nI (0 + 1))) 82 0 (nI 0)) 83 0 (nI 0)) 84 0 0) 86 0 (-1)) 87 0 (-1)) 88 0 (-1)) 89 0 (-1) = m1 at a0 b43 b82 b83 b84 b86 b87 b88 b89
  -- at the root again
  have fin : ∀ m2 (u : Int32), Q m2 → mz_gv X mz_sh 156 172 [some (.ref 55), some (.int (nI tg)), some (.int (nI tg)), some (.int u), none] m2 Q := fun m2 u hq =>
    t_M_number_4 _ _ _ ⟨fun _ => t_M_number_5 _ _ _ ⟨fun _ => t_M_number_6 _ _ _ (t_M_number_1 _ _ _ ⟨fun _ => hq, fun g => absurd (by decide) g⟩), fun g => absurd rfl g⟩, fun g => absurd rfl g⟩
  refine t_M_number_3 _ _ _ _ ⟨hin, ?_⟩
  rw [nI_clamp (by omega), a0.1 78 (by decide) (by decide), w3]
  by_cases hF : F = .leaf
  · subst hF
    refine ⟨fun _ => fin m1 _ (hQ m1 a0 b43 (fun i hi => ?_) (fun i hi => ?_)), fun g => absurd (by decide : z_fhd (.leaf : z_F) < 0) g⟩
    · simp only [z_fsz, Nat.add_zero] at hi
      have : i = 0 := by omega
      subst this
      rw [g1]
      exact ⟨b82, b83, b84⟩
    · simp only [z_fsz, Nat.add_zero] at hi
      have : i = 0 := by omega
      subst this
      simp only [g1]
      refine ⟨?_, fun _ => b87, fun x hx => (by cases hx), ?_, ?_⟩
      · rw [b86]; rfl
      · rw [b88]; simp
      · rw [b89]; simp
  · have hhd : 0 ≤ z_fhd F := by
      cases F with
      | leaf => exact absurd rfl hF
      | inner s1 a1 v1 l1 r1 =>
        have := (hid a1.2.2 List.mem_cons_self).1
        exact nI_pos' (by omega)
    refine ⟨fun g => absurd g (Int32.not_lt.mpr hhd), fun _ => ⟨hin, t_M_number_6 _ _ _ ?_⟩⟩
    have hrl : z_raw m1 (nI tg) F := z_raw_fr _ _ (fun id _ => ⟨by rw [a0.1 76 (by decide) (by decide)], by rw [a0.1 77 (by decide) (by decide)], by rw [a0.1 78 (by decide) (by decide)], by rw [a0.1 79 (by decide) (by decide)], by rw [a0.1 80 (by decide) (by decide)], by rw [a0.1 81 (by decide) (by decide)]⟩) w7
    refine s_M_num (root := tg) F 1 0 0 0 tg m1 hF g2 hrl hid htg (by omega) (by omega) b43 b84 (by omega) (fun _ => b86) (fun h => by omega) (fun m2 nf2 e43' enm en8 e84 e86 e87 elx => ?_)
    obtain ⟨n0, n1, n2, n3⟩ := nf2
    obtain ⟨k1, k2⟩ := z_fls_lid F hF
    obtain ⟨lb1, lb2⟩ := hid (z_lid F) k2
    have hne : ¬ nI (z_lid F) = nI tg := fun e => lb2 ((nI_eq (by omega) (by omega)).mp e)
    have hraw2 : z_raw m2 (nI tg) F := z_raw_fr _ _ (fun id _ => ⟨by rw [n0.1 76 (by decide) (by decide)], by rw [n0.1 77 (by decide) (by decide)], by rw [n0.1 78 (by decide) (by decide)], by rw [n0.1 79 (by decide) (by decide)], by rw [n0.1 80 (by decide) (by decide)], by rw [n0.1 81 (by decide) (by decide)]⟩) hrl
    obtain ⟨c80, c81⟩ := y_lid_raw F hF hraw2
    have hinl : mz_inb (nI (z_lid F)) 12100 = true := mz_inbN lb1 (by decide)
    refine t_M_number_4 _ _ _ ⟨fun e => absurd e hne, fun _ => ?_⟩
    rw [nI_clamp (show z_lid F < 2 ^ 31 by omega), c80, c81]
    refine ⟨hinl, fun g => absurd g (by decide), fun _ => ⟨hinl, hin0, fin m2 _ ?_⟩⟩
    obtain ⟨ll1, ll2, ll3⟩ := y_lst_last (b := 0) F 1 hF
    have hfro : y_fro 1 F ≠ [] := by
      intro e
      rw [e] at ll1
      cases ll1
    obtain ⟨q1, q2, q3⟩ := n1 0 (Or.inl (by omega))
    have hks0 : (G 0).2.2.2.2.2 = y_fro 1 F := by rw [g1]
    refine hQ m2 (a0.tr n0) e43' (fun i hi => ?_) (fun i hi => ?_)
    · by_cases e : i = 0
      · subst e
        rw [g1]
        exact ⟨by rw [q1, b82], by rw [q2, b83], by rw [e84, y_fro_len, Nat.zero_add]⟩
      · have := enm i (by omega) hi
        exact ⟨this.1, this.2.1, this.2.2.1⟩
    · by_cases e : i = 0
      · subst e
        simp only [hks0]
        refine ⟨by rw [e86, if_pos rfl, if_neg hfro], fun h => absurd h hfro, fun x hx => ?_, ?_, ?_⟩
        · rw [ll1] at hx
          cases hx
          exact e87
        · rw [n3 0 (Or.inl (by omega)) (fun h => by omega), b88]
          simp
        · rw [q3, b89]
          simp
      · obtain ⟨r1, r2, r3, r4, r5, r6, r7⟩ := enm i (by omega) hi
        refine ⟨r4, r5, r6, ?_, ?_⟩
        · rw [en8 i (by omega) hi, if_neg e]
          have hsz0 : (G 0).2.2.1 = 1 + z_fsz F := by rw [g1]
          by_cases e2 : (G i).2.2.2.2.1 = 0
          · simp only [e2, if_true, hsz0, Nat.zero_add]
          · simp only [e2, if_false]
        · rw [r7, if_neg e]
/-- heights out of the parts' heights -/
def y_mx (ht : Nat → Nat) : List Nat → Nat
  | [] => 0
  | x :: t => max (ht x) (y_mx ht t)
theorem y_fro_ht {G : y_G} : ∀ (F : z_F) (b u : Nat), y_at G F b u → z_fht F = y_mx (fun i => (G i).2.2.2.1) (y_fro b F) := by
  intro F
  induction F with
  | leaf => intro b u _; rfl
  | inner s a v l r ihl ihr =>
    intro b u h
    simp only [z_fht, y_fro, y_mx]
    rw [ihr _ _ h.2.2, h.1]
theorem y_at_ht {G : y_G} : ∀ (F : z_F) (b u : Nat), y_at G F b u → ∀ i, b ≤ i → i < b + z_fsz F → (G i).2.2.2.1 = 1 + y_mx (fun i => (G i).2.2.2.1) (G i).2.2.2.2.2 := by
  intro F
  induction F with
  | leaf => intro b u _ i h1 h2; simp only [z_fsz] at h2; omega
  | inner s a v l r ihl ihr =>
    intro b u h i h1 h2
    obtain ⟨hb, hl, hr⟩ := h
    simp only [z_fsz] at h2
    by_cases e : i = b
    · subst e
      have := y_fro_ht l _ _ hl
      rw [hb]
      simp only
      rw [← this]
    · by_cases e2 : i < b + 1 + z_fsz l
      · exact ihl _ _ hl i (by omega) e2
      · exact ihr _ _ hr i (by omega) (by omega)
theorem s_M_ms2 {X : mz_X} {Q : Int32 → mz_M → Prop} {N n : Nat} {kd sz ht up : Nat → Nat} {ks : Nat → List Nat} (hp1 : ∀ i, i < N → 1 ≤ sz i ∧ i + sz i ≤ N ∧ ∀ x, x ∈ ks i → up x = i ∧ i < x ∧ x < N) (hN : N ≤ 4001) (hn : n < N) (hht : ∀ x, x < N → ht x ≤ 4001) : ∀ (t : List Nat) (lo acc : Nat) (m : mz_M), z_segP sz lo (n + sz n) t → n < lo → (∀ x, x ∈ t → x ∈ ks n) → z_links m N sz up ks → (∀ x, n < x → x < N → m 85 x = nI (ht x)) → m 85 n = nI (1 + acc) → acc ≤ 4001 → (∀ m', z_fr [85] m m' → (∀ x, x ≠ n → m' 85 x = m 85 x) → m' 85 n = nI (1 + max acc (y_mx ht t)) → mz_gi X mz_sh 157 7 [some (.ref 55), some (.int (nI n - 1)), none] m' Q) → mz_gi X mz_sh 157 25 [some (.ref 55), some (.int (nI n)), some (.int (if t = [] then -1 else nI lo))] m Q := by
  intro t
  induction t with
  | nil =>
    intro lo acc m hs hlo hm hL h85 h85n hacc hQ
    rw [if_pos rfl]
    refine t_M_measure_2 _ _ ⟨fun _ => ?_, fun g => absurd (by decide) g⟩
    rw [show nI n + (-1) = nI n - 1 from (Int32.sub_eq_add_neg _ _).symm]
    refine hQ m (z_fr.rf _ _) (fun _ _ => rfl) ?_
    rw [h85n]
    simp only [y_mx, Nat.max_zero]
  | cons x t ih =>
    intro lo acc m hs hlo hm hL h85 h85n hacc hQ
    obtain ⟨a1, a2, a3⟩ := hs
    subst a1
    rw [if_neg (List.cons_ne_nil _ _)]
    have hsn := hp1 n hn
    obtain ⟨u1, u2, u3⟩ := hsn.2.2 x (hm x List.mem_cons_self)
    have hxs := (hp1 x u3).1
    have hinx : mz_inb (nI x) 12100 = true := mz_inbN (by omega) (by decide)
    have hinn : mz_inb (nI n) 12100 = true := mz_inbN (by omega) (by decide)
    have hhx := hht x u3
    have e88 : m 88 x = (if t = [] then -1 else nI (x + sz x)) := by
      rw [(hL x u3).2.2.2.1, if_neg (by omega), u1]
      cases t with
      | nil =>
        have : x + sz x = n + sz n := a3
        rw [if_pos this, if_pos rfl]
      | cons z t =>
        obtain ⟨b1, b2, b3⟩ := a3
        rw [if_neg (by omega), if_neg (List.cons_ne_nil _ _)]
    have next : ∀ acc', acc' = max acc (ht x) → mz_gi X mz_sh 157 25 [some (.ref 55), some (.int (nI n)), some (.int (m 88 x))] (mz_up m 85 n (nI (1 + acc'))) Q := by
      intro acc' hacc'
      rw [e88]
      have f1 : z_fr [85] m (mz_up m 85 n (nI (1 + acc'))) := (z_fr.rf _ _).up (by decide)
      refine ih (x + sz x) acc' _ a3 (by omega) (fun y hy => hm y (List.mem_cons_of_mem _ hy)) ?_ (fun y y1 y2 => ?_) (by rw [mz_up_k]; simp [upd]) (by omega) (fun m' f2 w1 w2 => hQ m' (f1.tr f2) (fun y hy => ?_) ?_)
      · unfold z_links at hL ⊢
        rw [f1 86 (by decide), f1 87 (by decide), f1 88 (by decide), f1 89 (by decide)]
        exact hL
      · have : y ≠ n := by omega
        rw [mz_up_k]
        simp only [upd, this, if_false]
        exact h85 y y1 y2
      · rw [w1 y hy, mz_up_k]
        simp [upd, hy]
      · rw [w2, hacc']
        simp only [y_mx]
        congr 2
        omega
    refine t_M_measure_2 _ _ ⟨fun g => absurd g (nI_pos (by omega)), fun _ => ?_⟩
    rw [nI_clamp (show x < 2 ^ 31 by omega), nI_clamp (show n < 2 ^ 31 by omega), h85 x u2 u3, h85n]
    refine ⟨hinx, hinn, fun g => ⟨hinn, hinn, hinx, ?_⟩, fun g => ⟨hinx, hinn, hinx, ?_⟩⟩
    · have := (nI_ltI (show ht x < 2 ^ 31 by omega) (show 1 + acc < 2 ^ 31 by omega)).mp g
      exact next acc (by omega)
    · have : ¬ ht x < 1 + acc := fun h => g (nI_lt h (by omega))
      rw [nI_1, Nat.add_comm]
      exact next (ht x) (by omega)
theorem s_M_measure {X : mz_X} {Q : Int32 → mz_M → Prop} {N : Nat} {kd sz ht up : Nat → Nat} {ks : Nat → List Nat} (hp1 : ∀ i, i < N → 1 ≤ sz i ∧ i + sz i ≤ N ∧ ∀ x, x ∈ ks i → up x = i ∧ i < x ∧ x < N) (hseg : ∀ i, i < N → z_segP sz (i + 1) (i + sz i) (ks i)) (hN : N ≤ 4001) (hN1 : 1 ≤ N) (hht : ∀ x, x < N → ht x ≤ 4001) (hmx : ∀ x, x < N → ht x = 1 + y_mx ht (ks x)) : ∀ (k : Nat) (m : mz_M), k ≤ N → z_links m N sz up ks → (∀ x, k ≤ x → x < N → m 85 x = nI (ht x)) → (∀ m', z_fr [85] m m' → (∀ x, x < N → m' 85 x = nI (ht x)) → Q (nI (ht 0)) m') → mz_gi X mz_sh 157 7 [some (.ref 55), some (.int (nI k - 1)), none] m Q := by
  intro k
  induction k with
  | zero =>
    intro m hk hL h85 hQ
    refine t_M_measure_1 _ ⟨fun _ => ?_, fun g => absurd (by decide : nI 0 - 1 < 0) g⟩
    rw [h85 0 (by omega) (by omega)]
    exact hQ m (z_fr.rf _ _) (fun x hx => h85 x (by omega) hx)
  | succ k ih =>
    intro m hk hL h85 hQ
    rw [nI_m1 (by omega), Nat.add_sub_cancel]
    have hinn : mz_inb (nI k) 12100 = true := mz_inbN (by omega) (by decide)
    have f1 : z_fr [85] m (mz_up m 85 k 1) := (z_fr.rf _ _).up (by decide)
    refine t_M_measure_1 _ ⟨fun g => absurd g (nI_pos (by omega)), fun _ => ⟨hinn, hinn, ?_⟩⟩
    rw [nI_clamp (by omega), (hL k (by omega)).1]
    refine s_M_ms2 (kd := kd) hp1 hN (by omega) hht (ks k) (k + 1) 0 _ (hseg k (by omega)) (by omega) (fun _ h => h) ?_ (fun x x1 x2 => ?_) (by rw [mz_up_k]; simp [upd]; rfl) (by omega) (fun m' f2 w1 w2 => ?_)
    · unfold z_links at hL ⊢
      rw [f1 86 (by decide), f1 87 (by decide), f1 88 (by decide), f1 89 (by decide)]
      exact hL
    · have : x ≠ k := by omega
      rw [mz_up_k]
      simp only [upd, this, if_false]
      exact h85 x (by omega) x2
    · have f12 := f1.tr f2
      refine ih m' (by omega) ?_ (fun x x1 x2 => ?_) (fun m2 f3 w3 => hQ m2 (f12.tr f3) w3)
      · unfold z_links at hL ⊢
        rw [f12 86 (by decide), f12 87 (by decide), f12 88 (by decide), f12 89 (by decide)]
        exact hL
      · by_cases e : x = k
        · subst e
          rw [w2, hmx x (by omega), Nat.zero_max]
        · rw [w1 x e, mz_up_k]
          simp only [upd, e, if_false]
          exact h85 x (by omega) x2
