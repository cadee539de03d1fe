/-! node, code -/
theorem z_segP_le {sz : Nat → Nat} : ∀ (l : List Nat) (lo hi : Nat), z_segP sz lo hi l → lo ≤ hi := by
  intro l
  induction l with
  | nil => intro lo hi h; exact Nat.le_of_eq h
  | cons i t ih =>
    intro lo hi h
    have := h.1
    have := h.2.1
    omega
theorem z_segP_mem {sz : Nat → Nat} : ∀ (l : List Nat) (lo hi : Nat), z_segP sz lo hi l → ∀ x, x ∈ l → lo ≤ x ∧ x < hi ∧ x + sz x ≤ hi := by
  intro l
  induction l with
  | nil => intro lo hi h x hx; cases hx
  | cons i t ih =>
    intro lo hi h x hx
    obtain ⟨h1, h2, h3⟩ := h
    have hle := z_segP_le _ _ _ h3
    rcases List.mem_cons.mp hx with e | hx
    · subst e
      exact ⟨by omega, h2, hle⟩
    · have := ih _ _ h3 x hx
      omega
theorem z_segP_len {sz : Nat → Nat} : ∀ (l : List Nat) (lo hi : Nat), (∀ i, i < hi → 1 ≤ sz i) → z_segP sz lo hi l → lo + l.length ≤ hi := by
  intro l
  induction l with
  | nil => intro lo hi _ h; exact Nat.le_of_eq h
  | cons i t ih =>
    intro lo hi hp h
    obtain ⟨h1, h2, h3⟩ := h
    have := ih _ _ hp h3
    have := hp i h2
    simp only [List.length_cons]
    omega
theorem s_T_behind {X : mz_X} {m : mz_M} {Q : Int32 → mz_M → Prop} {N i s : Nat} (hN : N ≤ 4001) (h5 : m 30 5 = nI N) (hi : i < N) (hs : m 35 i = nI s) (hQ : Q (nI (i + s)) m) : mz_gi X mz_sh 87 0 [some (.ref 30), some (.int (nI i))] m Q := by
  refine t_T_behind_0 _ ⟨fun h => absurd h (nI_pos (by omega)), fun _ => ⟨fun h => ?_, fun _ => ?_⟩⟩
  · rw [h5] at h
    exact absurd h (nI_ge hi (by omega))
  · rw [nI_clamp (by omega), hs, nI_add]
    exact ⟨mz_inbN (by omega) (by decide), hQ⟩
theorem s_T_lastPart1 {X : mz_X} {m : mz_M} {Q : Int32 → mz_M → Prop} {N i n hi : Nat} {sz : Nat → Nat} (hN : N ≤ 4001) (h5 : m 30 5 = nI N) (hsz : ∀ j, j < N → m 35 j = nI (sz j)) (hi1 : i < N) (hn : m 33 i = nI n) (hnn : n ≤ 4001) (hhi : hi ≤ N) : ∀ (t : List Nat) (x j : Nat), z_segP sz x hi (x :: t) → 1 ≤ j → j + t.length = n → (∀ z, (x :: t).getLast? = some z → Q (nI z) m) → mz_gi X mz_sh 86 4 [some (.ref 30), some (.int (nI i)), some (.int (nI x)), some (.int (nI j))] m Q := by
  intro t
  induction t with
  | nil =>
    intro x j h h1 h2 hQ
    simp only [List.length_nil] at h2
    refine t_T_lastPart_1 _ _ _ ⟨mz_inbN (by omega) (by decide), fun _ => hQ x rfl, fun g => ?_⟩
    rw [nI_clamp (by omega), hn] at g
    exact absurd (nI_le (by omega) (by omega)) g
  | cons y t ih =>
    intro x j h h1 h2 hQ
    obtain ⟨_, a2, a3, a4, a5⟩ := h
    simp only [List.length_cons] at h2
    refine t_T_lastPart_1 _ _ _ ⟨mz_inbN (by omega) (by decide), fun g => ?_, fun _ => ⟨fun g => ?_, fun _ => ?_⟩⟩
    · rw [nI_clamp (by omega), hn] at g
      exact absurd g (nI_ge (by omega) (by omega))
    · exact absurd g (nI_ne0 (by omega) (by omega))
    · refine s_T_behind hN h5 (by omega) (hsz x (by omega)) ?_
      rw [nI_1, ← a3]
      refine ih y (j + 1) ?_ (by omega) (by omega) (fun z hz => hQ z ?_)
      · exact ⟨rfl, a4, a5⟩
      · rw [List.getLast?_cons_cons]; exact hz
theorem k_node {X : mz_X} {m : mz_M} {a1 a2 : Int32} {R : Int32 → Int32 → mz_M → Prop} (h : r_tree m) (hR : ∀ r, R r r m) : mz_gi X mz_sh 107 0 [some (.ref 0), some (.int a1), some (.int a2)] m (fun r m1 => mz_gi X mz_sh 162 0 [some (.ref 55), some (.int a1), some (.int a2)] m1 (fun r' m2 => R r r' m2)) := by
  obtain ⟨e1, e2, e3⟩ := h
  refine t_A_node_0 _ _ ⟨fun h0 => t_M_node_0 _ _ ⟨fun _ => hR _, fun h1 => absurd (e1 ▸ h0) h1⟩, fun h0 => ?_⟩
  have k0 : ¬ m 55 34 = 0 := fun h3 => h0 (e1.trans h3)
  obtain ⟨_, N, kd, tk, sz, ht, up, lp, ks, ⟨p1, p2, p3, p4, p5, p6, p7⟩, n1, n2, n3, n4, n5⟩ := e3 (e2.resolve_left h0)
  refine ⟨fun h1 => t_M_node_0 _ _ ⟨fun h3 => absurd h3 k0, fun _ => ⟨fun _ => hR _, fun h3 => absurd h1 h3⟩⟩, fun h1 => ⟨fun h2 => ?_, fun h2 => t_M_node_0 _ _ ⟨fun h3 => absurd h3 k0, fun _ => ⟨fun h3 => absurd h3 h1, fun _ => ⟨fun h3 => absurd (by rw [n1, ← n2]; exact h3) h2, fun _ => hR _⟩⟩⟩⟩⟩
  obtain ⟨i, hi, rfl⟩ := nI_of h1
  have hiN : i < N := (nI_ltI hi (by omega)).mp (by rw [← n1]; exact h2)
  have hinA : mz_inb (nI i) 4001 = true := mz_inbN (by omega) (by decide)
  have hinM : mz_inb (nI i) 12100 = true := mz_inbN (by omega) (by decide)
  rw [nI_clamp hi]
  obtain ⟨c1, c2, c3, c4, c5, c6, c7, c8, c9, c10, c11⟩ := n3 i hiN
  obtain ⟨l1, l2, l3, l4, l5⟩ := n4 i hiN
  obtain ⟨s1, s2, s3, s4, s5, s6⟩ := p5 i hiN
  have hlen := z_segP_len _ _ _ (fun j hj => (p5 j (by omega)).1) s3
  have hM : ∀ T, ((a2 = 0 → R T (m 82 i) m) ∧ (a2 = 1 → R T (m 83 i) m) ∧ (a2 = 2 → R T (m 84 i) m) ∧ (a2 = 3 → R T (m 85 i) m) ∧ (a2 = 4 → R T (m 86 i) m) ∧ (a2 = 5 → R T (m 87 i) m) ∧ (¬ a2 = 0 → ¬ a2 = 1 → ¬ a2 = 2 → ¬ a2 = 3 → ¬ a2 = 4 → ¬ a2 = 5 → R T (-1) m)) → mz_gi X mz_sh 162 0 [some (.ref 55), some (.int (nI i)), some (.int a2)] m (fun r' m2 => R T r' m2) := by
    intro T ⟨t0, t1, t2, t3, t4, t5, t6⟩
    refine t_M_node_0 _ _ ⟨fun h3 => absurd h3 k0, fun _ => ⟨fun h3 => absurd h3 h1, fun _ => ⟨fun _ => ?_, fun h3 => absurd (by rw [n2, ← n1]; exact h2) h3⟩⟩⟩
    rw [nI_clamp hi]
    exact ⟨fun g => ⟨hinM, t0 g⟩, fun g => ⟨hinM, t1 g⟩, fun g => ⟨hinM, t2 g⟩, fun g => ⟨hinM, t3 g⟩, fun g => ⟨hinM, t4 g⟩, fun g => ⟨hinM, t5 g⟩, t6⟩
  refine ⟨fun g => ⟨hinA, hM _ ?_⟩, fun g => ⟨hinA, hM _ ?_⟩, fun g => ⟨hinA, hM _ ?_⟩, fun g => ⟨hinA, hM _ ?_⟩, fun g => ⟨hinA, fun g4 => hM _ ?_, fun g4 => hM _ ?_⟩, fun g => t_T_lastPart_0 _ ?_, fun g0 g1 g2 g3 g4 g5 => hM _ ?_⟩
  · subst g
    exact ⟨fun _ => by rw [c1, c2]; exact hR _, fun g => absurd g (by decide), fun g => absurd g (by decide), fun g => absurd g (by decide), fun g => absurd g (by decide), fun g => absurd g (by decide), fun g => absurd rfl g⟩
  · subst g
    exact ⟨fun g => absurd g (by decide), fun _ => by rw [c3, c4]; exact hR _, fun g => absurd g (by decide), fun g => absurd g (by decide), fun g => absurd g (by decide), fun g => absurd g (by decide), fun _ g => absurd rfl g⟩
  · subst g
    exact ⟨fun g => absurd g (by decide), fun g => absurd g (by decide), fun _ => by rw [c5, c6]; exact hR _, fun g => absurd g (by decide), fun g => absurd g (by decide), fun g => absurd g (by decide), fun _ _ g => absurd rfl g⟩
  · subst g
    exact ⟨fun g => absurd g (by decide), fun g => absurd g (by decide), fun g => absurd g (by decide), fun _ => by rw [c7, c8]; exact hR _, fun g => absurd g (by decide), fun g => absurd g (by decide), fun _ _ _ g => absurd rfl g⟩
  · subst g
    rw [c5] at g4
    have he : ks i = [] := by
      cases hk : ks i with
      | nil => rfl
      | cons x t =>
        rw [hk] at g4 hlen
        simp only [List.length_cons] at g4 hlen
        exact absurd g4 (nI_nle (by omega) (by omega))
    rw [he, if_pos rfl] at l1
    exact ⟨fun g => absurd g (by decide), fun g => absurd g (by decide), fun g => absurd g (by decide), fun g => absurd g (by decide), fun _ => by rw [l1]; exact hR _, fun g => absurd g (by decide), fun _ _ _ _ g => absurd rfl g⟩
  · subst g
    have he : ¬ ks i = [] := fun hk => by
      rw [c5, hk] at g4
      exact g4 (by decide)
    rw [if_neg he] at l1
    exact ⟨fun g => absurd g (by decide), fun g => absurd g (by decide), fun g => absurd g (by decide), fun g => absurd g (by decide), fun _ => by rw [l1, nI_1]; exact hR _, fun g => absurd g (by decide), fun _ _ _ _ g => absurd rfl g⟩
  · subst g
    have hM5 : ∀ T, R T (m 87 i) m → mz_gi X mz_sh 162 0 [some (.ref 55), some (.int (nI i)), some (.int 5)] m (fun r' m2 => R T r' m2) := fun T hT => hM T ⟨fun g => absurd g (by decide), fun g => absurd g (by decide), fun g => absurd g (by decide), fun g => absurd g (by decide), fun g => absurd g (by decide), fun _ => hT, fun _ _ _ _ _ g => absurd rfl g⟩
    cases hk : ks i with
    | nil =>
      refine t_T_lastPart_1 _ _ _ ⟨hinA, fun _ => hM5 _ (by rw [l2 hk]; exact hR _), fun g => absurd ?_ g⟩
      rw [nI_clamp hi, c5, hk]
      decide
    | cons x t =>
      rw [hk] at s3 hlen c5
      obtain ⟨q1, q2, q3⟩ := s3
      simp only [List.length_cons] at hlen c5
      refine t_T_lastPart_1 _ _ _ ⟨hinA, fun g => ?_, fun _ => ⟨fun _ => ?_, fun g => absurd rfl g⟩⟩
      · rw [nI_clamp hi, c5] at g
        exact absurd g (nI_nle (by omega) (by omega))
      · rw [nI_1, ← q1]
        exact s_T_lastPart1 (n := t.length + 1) (hi := i + sz i) p2 n1 (fun j hj => (n3 j hj).2.2.2.2.2.2.2.2.1) hiN c5 (by omega) s2 t x 1 ⟨rfl, q2, q3⟩ (by omega) (by omega) (fun z hz => hM5 _ (by rw [l3 z (by rw [hk]; exact hz)]; exact hR _))
  · exact ⟨fun g => absurd g g0, fun g => absurd g g1, fun g => absurd g g2, fun g => absurd g g3, fun g => absurd g g4, fun g => absurd g g5, fun _ _ _ _ _ _ => hR _⟩
theorem k_code {X : mz_X} {m : mz_M} {a1 a2 : Int32} {R : Int32 → Int32 → mz_M → Prop} (h : r_code m) (hR : ∀ r, R r r m) : mz_gi X mz_sh 109 0 [some (.ref 0), some (.int a1), some (.int a2)] m (fun r m1 => mz_gi X mz_sh 170 0 [some (.ref 55), some (.int a1), some (.int a2)] m1 (fun r' m2 => R r r' m2)) := by
  obtain ⟨e1, e2, e3⟩ := h
  refine t_A_code_0 _ _ ⟨fun h0 => t_M_code_0 _ _ ⟨fun _ => hR _, fun h1 => absurd (e1 ▸ h0) h1⟩, fun h0 => ?_⟩
  have k0 : ¬ m 55 44 = 0 := fun h3 => h0 (e1.trans h3)
  obtain ⟨W, op, va, dp, W1, W2, W3, W4, W5, W6⟩ := e3 (e2.resolve_left h0)
  refine ⟨fun h1 => t_M_code_0 _ _ ⟨fun h3 => absurd h3 k0, fun _ => ⟨fun _ => hR _, fun h3 => absurd h1 h3⟩⟩, fun h1 => ⟨fun h2 => ?_, fun h2 => t_M_code_0 _ _ ⟨fun h3 => absurd h3 k0, fun _ => ⟨fun h3 => absurd h3 h1, fun _ => ⟨fun _ => hR _, fun h3 => absurd ?_ h3⟩⟩⟩⟩⟩
  · obtain ⟨i, hi, rfl⟩ := nI_of h1
    have hiN : i < W := (nI_ltI hi (by omega)).mp (by rw [← W3]; exact h2)
    have hinA : mz_inb (nI i) 8001 = true := mz_inbN (by omega) (by decide)
    have hinM : mz_inb (nI i) 60100 = true := mz_inbN (by omega) (by decide)
    obtain ⟨c1, c2, c3, c4, c5⟩ := W6 i hiN
    have hM : ∀ T, (a2 < 0 → R T (-1) m) → (¬ a2 < 0 → a2 ≤ 1 → a2 = 0 → R T (m 90 i) m) → (¬ a2 < 0 → a2 ≤ 1 → ¬ a2 = 0 → R T (m 91 i) m) → (¬ a2 < 0 → ¬ a2 ≤ 1 → R T (-1) m) → mz_gi X mz_sh 170 0 [some (.ref 55), some (.int (nI i)), some (.int a2)] m (fun r' m2 => R T r' m2) := by
      intro T t1 t2 t3 t4
      refine t_M_code_0 _ _ ⟨fun h3 => absurd h3 k0, fun _ => ⟨fun h3 => absurd h3 h1, fun _ => ⟨fun h3 => absurd h3 (by rw [W4]; exact nI_ge hiN (by omega)), fun _ => ⟨t1, fun u1 => ⟨fun u2 => ⟨fun u3 => ⟨hinM, ?_⟩, fun u3 => ⟨hinM, ?_⟩⟩, fun u2 => t4 u1 u2⟩⟩⟩⟩⟩
      · rw [nI_clamp hi]; exact t2 u1 u2 u3
      · rw [nI_clamp hi]; exact t3 u1 u2 u3
    rw [nI_clamp hi]
    refine ⟨fun g => ⟨hinA, hM _ (fun u => ?_) (fun _ _ _ => by rw [c1, c2]; exact hR _) (fun _ _ u => absurd g u) (fun _ u => ?_)⟩, fun g => ⟨hinA, hM _ (fun u => ?_) (fun _ _ u => ?_) (fun _ _ _ => by rw [c3, c4]; exact hR _) (fun _ u => ?_)⟩, fun g0 g1 => hM _ (fun _ => hR _) (fun _ _ u => absurd u g0) (fun u1 u2 u3 => ?_) (fun _ _ => hR _)⟩
    · rw [g] at u; exact absurd u (by decide)
    · rw [g] at u; exact absurd (by decide) u
    · rw [g] at u; exact absurd u (by decide)
    · rw [g] at u; exact absurd u (by decide)
    · rw [g] at u; exact absurd (by decide) u
    · exfalso
      obtain ⟨j, hj, rfl⟩ := nI_of u1
      have hj1 := (nI_leI (b := 1) hj (by decide)).mp u2
      have : j = 0 ∨ j = 1 := by omega
      rcases this with e | e
      · exact g0 (by rw [e]; rfl)
      · exact g1 (by rw [e]; rfl)
  · rw [W4]
    rw [W3] at h2
    exact Int32.not_lt.mp h2
