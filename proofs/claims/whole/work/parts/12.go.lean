/-! RUNS, WITHOUT THEIR LENGTH -/
theorem mz_run_le (X : mz_X) : ∀ (n n' i pc : Nat) (L : mz_L) (S : List Value) (sh : List mz_K) (m : mz_M) (r : Option Value × List mz_K × mz_M), n ≤ n' → mz_run X n i pc L S sh m = some r → mz_run X n' i pc L S sh m = some r := by
  intro n
  induction n with
  | zero => intro n' i pc L S sh m r _ h; cases h
  | succ n ih =>
    intro n' i pc L S sh m r hn h
    obtain ⟨k, rfl⟩ : ∃ k, n' = k + 1 := ⟨n' - 1, by omega⟩
    simp only [mz_run] at h ⊢
    cases hM : mz_md[i]? with
    | none => rw [hM] at h; cases h
    | some M =>
      rw [hM] at h
      simp only at h ⊢
      cases hat : mz_at M.2.2.2.2.2.2 pc with
      | none => rw [hat] at h; cases h
      | some q =>
        obtain ⟨ins, len, r1, r2, val⟩ := q
        rw [hat] at h
        simp only at h ⊢
        cases hrt : mz_rt M.2.2.2.1 ins S with
        | some x => rw [hrt] at h; cases x <;> exact h
        | none =>
          rw [hrt] at h
          simp only at h ⊢
          cases hc : mz_isc ins r1 with
          | true =>
            simp only [hc, cond_true] at h ⊢
            cases hk : mz_cok ins r2 val L S sh with
            | false => simp only [hk, cond_false] at h; cases h
            | true =>
              simp only [hk, cond_true] at h ⊢
              cases hN : mz_md[r1]? with
              | none => rw [hN] at h; cases h
              | some N =>
                rw [hN] at h
                simp only at h ⊢
                cases hle : Nat.ble (mz_en (S.take r2).reverse).length N.2.2.1 with
                | false => simp only [hle, cond_false] at h; cases h
                | true =>
                  simp only [hle, cond_true] at h ⊢
                  cases hr : mz_run X n r1 0 (mz_L0 N.2.2.1 (S.take r2).reverse) [] sh m with
                  | none => rw [hr] at h; cases h
                  | some q =>
                    obtain ⟨v1, sh1, m1⟩ := q
                    rw [hr] at h
                    rw [ih k _ _ _ _ _ _ _ (by omega) hr]
                    exact ih k _ _ _ _ _ _ _ (by omega) h
          | false =>
            simp only [hc, cond_false] at h ⊢
            cases hx : mz_ex X ins r1 r2 val pc L S sh m with
            | none => rw [hx] at h; cases h
            | some q =>
              obtain ⟨g, pc1, L1, S1, sh1, m1⟩ := q
              rw [hx] at h
              cases g with
              | false => cases h
              | true => exact ih k _ _ _ _ _ _ _ (by omega) h
def mz_go (X : mz_X) (i pc : Nat) (L : mz_L) (S : List Value) (sh : List mz_K) (m : mz_M) (Q : Option Value → List mz_K → mz_M → Prop) : Prop := ∃ (n : Nat) (v : Option Value) (sh' : List mz_K) (m' : mz_M), mz_run X n i pc L S sh m = some (v, sh', m') ∧ Q v sh' m'
theorem mz_go.mono {X : mz_X} {i pc : Nat} {L : mz_L} {S : List Value} {sh : List mz_K} {m : mz_M} {Q Q' : Option Value → List mz_K → mz_M → Prop} (h : mz_go X i pc L S sh m Q) (hq : ∀ v sh' m', Q v sh' m' → Q' v sh' m') : mz_go X i pc L S sh m Q' := by
  obtain ⟨n, v, sh', m', h1, h2⟩ := h
  exact ⟨n, v, sh', m', h1, hq _ _ _ h2⟩
/-- so many instructions that are no calls and no returns; what must be well for them -/
def mz_blk (X : mz_X) (t : List mz_E) : Nat → Bool × mz_S → Option (Bool × mz_S)
  | 0, st => some st
  | k + 1, (g, pc, L, S, sh, m) => match mz_at t pc with
    | none => none
    | some (ins, _, r1, r2, val) => match mz_ex X ins r1 r2 val pc L S sh m with
      | none => none
      | some (g', st) => mz_blk X t k (g' && g, st)
theorem mz_ex_plain {X : mz_X} {ins : Instr} {r1 r2 : Nat} {val : Value} {pc : Nat} {L : mz_L} {S : List Value} {sh : List mz_K} {m : mz_M} {q : Bool × mz_S} (h : mz_ex X ins r1 r2 val pc L S sh m = some q) (ret : Option FieldType) : mz_rt ret ins S = none ∧ mz_isc ins r1 = false := by
  cases ins with
  | ireturn => cases h
  | return_ => cases h
  | areturn => cases h
  | invokevirtual _ => cases h
  | invokespecial _ =>
    refine ⟨rfl, ?_⟩
    cases hb : Nat.beq r1 9999 with
    | true =>
      have := Nat.eq_of_beq_eq_true hb
      subst this
      rfl
    | false =>
      simp only [mz_ex, hb, Bool.false_and, cond_false] at h
      split at h <;> cases h
  | invokestatic _ =>
    refine ⟨rfl, ?_⟩
    cases h97 : Nat.beq r1 9997 with
    | true =>
      have := Nat.eq_of_beq_eq_true h97
      subst this
      rfl
    | false =>
      cases h96 : Nat.beq r1 9996 with
      | true =>
        have := Nat.eq_of_beq_eq_true h96
        subst this
        rfl
      | false =>
        cases hb : Nat.beq r1 9998 with
        | true =>
          have := Nat.eq_of_beq_eq_true hb
          subst this
          rfl
        | false =>
          simp only [mz_ex, h97, h96, hb, Bool.false_and, cond_false] at h
          split at h <;> cases h
  | _ => exact ⟨rfl, rfl⟩
theorem mz_blk_g {X : mz_X} {t : List mz_E} : ∀ (k : Nat) (g : Bool) (st st' : mz_S), mz_blk X t k (g, st) = some (true, st') → g = true := by
  intro k
  induction k with
  | zero => intro g st st' h; cases h; rfl
  | succ k ih =>
    intro g st st' h
    obtain ⟨pc, L, S, sh, m⟩ := st
    simp only [mz_blk] at h
    cases hat : mz_at t pc with
    | none => rw [hat] at h; cases h
    | some q =>
      obtain ⟨ins, len, r1, r2, val⟩ := q
      rw [hat] at h
      simp only at h
      cases hx : mz_ex X ins r1 r2 val pc L S sh m with
      | none => rw [hx] at h; cases h
      | some q =>
        obtain ⟨g', st1⟩ := q
        rw [hx] at h
        have h1 := ih _ _ _ h
        rw [Bool.and_eq_true] at h1
        exact h1.2
theorem mz_go_blk0 {X : mz_X} {i : Nat} {M : mz_D} (hM : mz_md[i]? = some M) {Q : Option Value → List mz_K → mz_M → Prop} : ∀ (k pc : Nat) (L : mz_L) (S : List Value) (sh : List mz_K) (m : mz_M) (pc' : Nat) (L' : mz_L) (S' : List Value) (sh' : List mz_K) (m' : mz_M), mz_blk X M.2.2.2.2.2.2 k (true, pc, L, S, sh, m) = some (true, pc', L', S', sh', m') → mz_go X i pc' L' S' sh' m' Q → mz_go X i pc L S sh m Q := by
  intro k
  induction k with
  | zero => intro pc L S sh m pc' L' S' sh' m' h hk; cases h; exact hk
  | succ k ih =>
    intro pc L S sh m pc' L' S' sh' m' h hk
    simp only [mz_blk] at h
    cases hat : mz_at M.2.2.2.2.2.2 pc with
    | none => rw [hat] at h; cases h
    | some q =>
      obtain ⟨ins, len, r1, r2, val⟩ := q
      rw [hat] at h
      simp only at h
      cases hx : mz_ex X ins r1 r2 val pc L S sh m with
      | none => rw [hx] at h; cases h
      | some q =>
        obtain ⟨g', pc1, L1, S1, sh1, m1⟩ := q
        rw [hx] at h
        simp only at h
        have hg := mz_blk_g _ _ _ _ h
        rw [Bool.and_true] at hg
        subst hg
        obtain ⟨n, v, sh2, m2, h1, h2⟩ := ih _ _ _ _ _ _ _ _ _ _ h hk
        obtain ⟨p1, p2⟩ := mz_ex_plain hx M.2.2.2.1
        refine ⟨n + 1, v, sh2, m2, ?_, h2⟩
        simp only [mz_run, hM, hat, p1, p2, cond_false, hx]
        exact h1
theorem mz_go_blk {X : mz_X} {i : Nat} (M : mz_D) (k : Nat) {pc : Nat} {L : mz_L} {S : List Value} {sh : List mz_K} {m : mz_M} {Q : Option Value → List mz_K → mz_M → Prop} {g : Bool} {pc' : Nat} {L' : mz_L} {S' : List Value} {sh' : List mz_K} {m' : mz_M} (hM : mz_md[i]? = some M) (h : mz_blk X M.2.2.2.2.2.2 k (true, pc, L, S, sh, m) = some (g, pc', L', S', sh', m')) (hg : g = true) (hk : mz_go X i pc' L' S' sh' m' Q) : mz_go X i pc L S sh m Q := by
  subst hg
  exact mz_go_blk0 hM k _ _ _ _ _ _ _ _ _ _ h hk
theorem mz_go_ret {X : mz_X} {i : Nat} (M : mz_D) {pc : Nat} {L : mz_L} {S : List Value} {sh : List mz_K} {m : mz_M} {Q : Option Value → List mz_K → mz_M → Prop} {q : Instr × Nat × Nat × Nat × Value} {v : Option Value} (hM : mz_md[i]? = some M) (hat : mz_at M.2.2.2.2.2.2 pc = some q) (hr : mz_rt M.2.2.2.1 q.1 S = some (some v)) (hq : Q v sh m) : mz_go X i pc L S sh m Q := by
  obtain ⟨ins, len, r1, r2, val⟩ := q
  refine ⟨1, v, sh, m, ?_, hq⟩
  simp only [mz_run, hM, hat]
  rw [hr]
theorem mz_go_call {X : mz_X} {i : Nat} (M N : mz_D) {pc : Nat} {L : mz_L} {S : List Value} {sh : List mz_K} {m : mz_M} {Q Q1 : Option Value → List mz_K → mz_M → Prop} {ins : Instr} {len r1 r2 : Nat} {val : Value} {L1 : mz_L} (hM : mz_md[i]? = some M) (hat : mz_at M.2.2.2.2.2.2 pc = some (ins, len, r1, r2, val)) (hc : mz_isc ins r1 = true) (hk : mz_cok ins r2 val L S sh = true) (hN : mz_md[r1]? = some N) (hle : Nat.ble (mz_en (S.take r2).reverse).length N.2.2.1 = true) (hL : mz_L0 N.2.2.1 (S.take r2).reverse = L1)
    (h1 : mz_go X r1 0 L1 [] sh m Q1) (h2 : ∀ v sh' m', Q1 v sh' m' → mz_go X i (pc + 3) L (v.toList ++ S.drop r2) sh' m' Q) : mz_go X i pc L S sh m Q := by
  subst hL
  obtain ⟨n1, v1, sh1, m1, g1, g2⟩ := h1
  obtain ⟨n2, v2, sh2, m2, g3, g4⟩ := h2 _ _ _ g2
  refine ⟨n1 + n2 + 1, v2, sh2, m2, ?_, g4⟩
  have hrt : mz_rt M.2.2.2.1 ins S = none := by
    cases ins <;> first | rfl | cases hc
  simp only [mz_run, hM, hat, hrt, hc, cond_true, hk, hN, hle]
  rw [mz_run_le X n1 (n1 + n2) _ _ _ _ _ _ _ (by omega) g1]
  exact mz_run_le X n2 (n1 + n2) _ _ _ _ _ _ _ (by omega) g3
theorem mz_go_if {X : mz_X} {i : Nat} {c : Prop} {hd : Decidable c} {a b : Nat} {L : mz_L} {S : List Value} {sh : List mz_K} {m : mz_M} {Q : Option Value → List mz_K → mz_M → Prop} (h1 : c → mz_go X i a L S sh m Q) (h2 : ¬ c → mz_go X i b L S sh m Q) : mz_go X i (@ite _ c hd a b) L S sh m Q := by
  by_cases h : c
  · rw [if_pos h]; exact h1 h
  · rw [if_neg h]; exact h2 h
/-- a local that isn't read again may be forgotten -/
def mz_le1 : Option Value → Option Value → Prop
  | none, none => True
  | none, some (.int _) => True
  | some v, some v' => v = v'
  | _, _ => False
def mz_lel (L L' : mz_L) : Prop := L.length = L'.length ∧ ∀ (r : Nat) (x y : Option Value), L[r]? = some x → L'[r]? = some y → mz_le1 x y
theorem mz_lel.get {L L' : mz_L} (h : mz_lel L L') {r : Nat} {v : Value} (hr : L[r]? = some (some v)) : L'[r]? = some (some v) := by
  have hlt : r < L'.length := by rw [← h.1]; exact (List.getElem?_eq_some_iff.mp hr).1
  have h2 := List.getElem?_eq_getElem hlt
  have h3 := h.2 r _ _ hr h2
  rw [h2]
  generalize L'[r] = y at h3
  cases y with
  | none => exact h3.elim
  | some w => rw [show v = w from h3]
theorem mz_lel.sok {L L' : mz_L} (h : mz_lel L L') {i : Nat} (hs : mz_sok L i = true) : mz_sok L' i = true := by
  cases i with
  | zero => rfl
  | succ j =>
    simp only [mz_sok] at hs ⊢
    cases hj : L'[j]? with
    | none => rfl
    | some y =>
      have hlt : j < L.length := by rw [h.1]; exact (List.getElem?_eq_some_iff.mp hj).1
      have h2 := List.getElem?_eq_getElem hlt
      have h3 := h.2 j _ _ h2 hj
      rw [h2] at hs
      generalize L[j] = x at h3 hs
      cases x with
      | none =>
        cases y with
        | none => rfl
        | some w => cases w <;> first | rfl | exact h3.elim
      | some v =>
        cases y with
        | none => exact h3.elim
        | some w =>
          have : v = w := h3
          subst this
          exact hs
theorem mz_lel.set {L L' : mz_L} (h : mz_lel L L') (i : Nat) (x : Option Value) (hx : mz_le1 x x) : mz_lel (L.set i x) (L'.set i x) := by
  refine ⟨by rw [List.length_set, List.length_set]; exact h.1, fun r a b ha hb => ?_⟩
  rw [List.getElem?_set] at ha hb
  by_cases hi : i = r
  · rw [if_pos hi] at ha hb
    split at ha
    · split at hb
      · cases ha; cases hb; exact hx
      · cases hb
    · cases ha
  · rw [if_neg hi] at ha hb
    exact h.2 r a b ha hb
theorem mz_lel.put {L L' L1 : mz_L} (h : mz_lel L L') {i : Nat} {v : Value} (hp : mz_put L i v = some L1) : ∃ L2, mz_put L' i v = some L2 ∧ mz_lel L1 L2 := by
  unfold mz_put at hp ⊢
  cases hb : (Nat.blt i L.length && mz_sok L i) with
  | false => rw [hb] at hp; cases hp
  | true =>
    rw [hb] at hp
    cases hp
    rw [Bool.and_eq_true] at hb
    refine ⟨L'.set i (some v), ?_, h.set i _ rfl⟩
    rw [← h.1, hb.1, h.sok hb.2]
    rfl
theorem mz_lel.put2 {L L' L1 : mz_L} (h : mz_lel L L') {i : Nat} {v : Value} (hp : mz_put2 L i v = some L1) : ∃ L2, mz_put2 L' i v = some L2 ∧ mz_lel L1 L2 := by
  unfold mz_put2 at hp ⊢
  cases hb : (Nat.blt (i + 1) L.length && mz_sok L i) with
  | false => rw [hb] at hp; cases hp
  | true =>
    rw [hb] at hp
    cases hp
    rw [Bool.and_eq_true] at hb
    refine ⟨(L'.set i (some v)).set (i + 1) none, ?_, (h.set i (some v) rfl).set (i + 1) none trivial⟩
    rw [← h.1, hb.1, h.sok hb.2]
    rfl
theorem mz_lel.wL {n : Nat} : ∀ {L L' : mz_L}, mz_lel L L' → mz_wL n L = true → mz_wL n L' = true := by
  intro L
  induction L with
  | nil =>
    intro L' h _
    cases L' with
    | nil => rfl
    | cons y t => cases h.1
  | cons x t ih =>
    intro L' h hw
    cases L' with
    | nil => cases h.1
    | cons y t' =>
      have ht : mz_lel t t' := ⟨Nat.succ.inj h.1, fun r a b ha hb => h.2 (r + 1) a b ha hb⟩
      have h0 := h.2 0 x y rfl rfl
      cases x with
      | none =>
        have h1 := ih ht hw
        cases y with
        | none => exact h1
        | some w => cases w <;> first | exact h1 | exact h0.elim
      | some v =>
        simp only [mz_wL, Bool.and_eq_true] at hw
        cases y with
        | none => exact h0.elim
        | some w =>
          have : v = w := h0
          subst this
          simp only [mz_wL, Bool.and_eq_true]
          exact ⟨hw.1, ih ht hw.2⟩
/-- instructions that look at the locals -/
def mz_loc : Instr → Bool
  | .aload_n _ => true
  | .aload _ => true
  | .iload_n _ => true
  | .iload _ => true
  | .lload_n _ => true
  | .istore_n _ => true
  | .istore _ => true
  | .astore_n _ => true
  | .lstore_n _ => true
  | .iinc _ _ => true
  | .newarray _ => true
  | .new _ => true
  | _ => false
theorem mz_cmap {α β : Type} (f : α → β) (b : Bool) (x y : Option α) : Option.map f (cond b x y) = cond b (x.map f) (y.map f) := by cases b <;> rfl
theorem mz_ccong {α : Type} {b : Bool} {x y x' y' : α} (h1 : x = x') (h2 : y = y') : cond b x y = cond b x' y' := by rw [h1, h2]
theorem mz_ex_L {X : mz_X} {ins : Instr} {r1 r2 : Nat} {val : Value} {pc : Nat} (L L' : mz_L) {S : List Value} {sh : List mz_K} {m : mz_M} (hi : mz_loc ins = false) : mz_ex X ins r1 r2 val pc L' S sh m = (mz_ex X ins r1 r2 val pc L S sh m).map (fun q => (q.1, q.2.1, L', q.2.2.2)) := by
  cases ins <;> first | (cases hi; done) | skip
  all_goals (try (simp only [mz_ex]; first | rfl | (split <;> first | rfl | (split <;> rfl))))
  all_goals (simp only [mz_ex]; (repeat' (first | (rw [mz_cmap]; refine mz_ccong ?_ ?_) | split)) <;> rfl)
theorem mz_ex_lel {X : mz_X} {ins : Instr} {r1 r2 : Nat} {val : Value} {pc : Nat} {L L' : mz_L} {S : List Value} {sh : List mz_K} {m : mz_M} {g : Bool} {pc1 : Nat} {L1 : mz_L} {S1 : List Value} {sh1 : List mz_K} {m1 : mz_M} (h : mz_lel L L') (he : mz_ex X ins r1 r2 val pc L S sh m = some (g, pc1, L1, S1, sh1, m1)) : ∃ L2, mz_ex X ins r1 r2 val pc L' S sh m = some (g, pc1, L2, S1, sh1, m1) ∧ mz_lel L1 L2 := by
  cases hi : mz_loc ins with
  | false =>
    have h1 := mz_ex_L (X := X) (r1 := r1) (r2 := r2) (val := val) (pc := pc) (S := S) (sh := sh) (m := m) L L hi
    rw [he] at h1
    simp only [Option.map_some, Option.some.injEq, Prod.mk.injEq] at h1
    rw [mz_ex_L L L' hi, he]
    refine ⟨L', rfl, ?_⟩
    rw [h1.2.2.1]
    exact h
  | true =>
    cases ins <;> first | (cases hi; done) | skip
    case newarray aty =>
      cases S with
      | nil => cases he
      | cons v S =>
        cases v with
        | int n =>
          simp only [mz_ex] at he ⊢
          cases hcc : (Nat.blt sh.length mz_B && (mz_wL sh.length L && mz_wS sh.length S)) with
          | false => simp only [hcc, cond_false] at he; cases he
          | true =>
            have hcc' : (Nat.blt sh.length mz_B && (mz_wL sh.length L' && mz_wS sh.length S)) = true := by
              simp only [Bool.and_eq_true] at hcc ⊢
              exact ⟨hcc.1, h.wL hcc.2.1, hcc.2.2⟩
            simp only [hcc, hcc', cond_true] at he ⊢
            cases aty <;> first | (cases he; done) | (cases he; exact ⟨L', rfl, h⟩)
        | _ => cases he
    case new idx =>
      simp only [mz_ex] at he ⊢
      cases hcc : (Nat.blt sh.length mz_B && (mz_wL sh.length L && mz_wS sh.length S)) with
      | false => simp only [hcc, cond_false] at he; cases he
      | true =>
        have hcc' : (Nat.blt sh.length mz_B && (mz_wL sh.length L' && mz_wS sh.length S)) = true := by
          simp only [Bool.and_eq_true] at hcc ⊢
          exact ⟨hcc.1, h.wL hcc.2.1, hcc.2.2⟩
        simp only [hcc, hcc', cond_true] at he ⊢
        cases he
        exact ⟨L', rfl, h⟩
    case iinc a b =>
      simp only [mz_ex] at he
      split at he
      · rename_i x d hx
        split at he
        · rename_i L2 hL2
          cases he
          obtain ⟨L3, h3, h4⟩ := h.put hL2
          refine ⟨L3, ?_, h4⟩
          simp only [mz_ex, h.get hx, h3]
        · cases he
      · cases he
    case istore_n a =>
      cases S with
      | nil => cases he
      | cons v S =>
        cases v with
        | int q =>
          simp only [mz_ex] at he ⊢
          cases hL : mz_put L r1 (.int q) with
          | none => rw [hL] at he; cases he
          | some L2 => rw [hL] at he; cases he; obtain ⟨L3, h3, h4⟩ := h.put hL; exact ⟨L3, by rw [h3], h4⟩
        | _ => cases he
    case istore a =>
      cases S with
      | nil => cases he
      | cons v S =>
        cases v with
        | int q =>
          simp only [mz_ex] at he ⊢
          cases hL : mz_put L r1 (.int q) with
          | none => rw [hL] at he; cases he
          | some L2 => rw [hL] at he; cases he; obtain ⟨L3, h3, h4⟩ := h.put hL; exact ⟨L3, by rw [h3], h4⟩
        | _ => cases he
    case astore_n a =>
      cases S with
      | nil => cases he
      | cons v S =>
        cases v with
        | ref q =>
          simp only [mz_ex] at he ⊢
          cases hL : mz_put L r1 (.ref q) with
          | none => rw [hL] at he; cases he
          | some L2 => rw [hL] at he; cases he; obtain ⟨L3, h3, h4⟩ := h.put hL; exact ⟨L3, by rw [h3], h4⟩
        | _ => cases he
    case lstore_n a =>
      cases S with
      | nil => cases he
      | cons v S =>
        cases v with
        | long q =>
          simp only [mz_ex] at he ⊢
          cases hL : mz_put2 L r1 (.long q) with
          | none => rw [hL] at he; cases he
          | some L2 => rw [hL] at he; cases he; obtain ⟨L3, h3, h4⟩ := h.put2 hL; exact ⟨L3, by rw [h3], h4⟩
        | _ => cases he
    all_goals
      simp only [mz_ex] at he
      split at he
      · rename_i q hq
        cases he
        exact ⟨L', by simp only [mz_ex, h.get hq], h⟩
      · cases he
theorem mz_run_lel (X : mz_X) : ∀ (n i pc : Nat) (L L' : mz_L) (S : List Value) (sh : List mz_K) (m : mz_M) (r : Option Value × List mz_K × mz_M), mz_lel L L' → mz_run X n i pc L S sh m = some r → mz_run X n i pc L' S sh m = some r := by
  intro n
  induction n with
  | zero => intro i pc L L' S sh m r _ h; cases h
  | succ n ih =>
    intro i pc L L' S sh m r hl h
    simp only [mz_run] at h ⊢
    cases hM : mz_md[i]? with
    | none => rw [hM] at h; cases h
    | some M =>
      rw [hM] at h
      simp only at h ⊢
      cases hat : mz_at M.2.2.2.2.2.2 pc with
      | none => rw [hat] at h; cases h
      | some q =>
        obtain ⟨ins, len, r1, r2, val⟩ := q
        rw [hat] at h
        simp only at h ⊢
        cases hrt : mz_rt M.2.2.2.1 ins S with
        | some x => rw [hrt] at h; cases x <;> exact h
        | none =>
          rw [hrt] at h
          simp only at h ⊢
          cases hc : mz_isc ins r1 with
          | true =>
            simp only [hc, cond_true] at h ⊢
            cases hk : mz_cok ins r2 val L S sh with
            | false => simp only [hk, cond_false] at h; cases h
            | true =>
              have hk' : mz_cok ins r2 val L' S sh = true := by
                simp only [mz_cok, Bool.and_eq_true] at hk ⊢
                exact ⟨hk.1, hk.2.1, hl.wL hk.2.2.1, hk.2.2.2⟩
              simp only [hk, hk', cond_true] at h ⊢
              cases hN : mz_md[r1]? with
              | none => rw [hN] at h; cases h
              | some N =>
                rw [hN] at h
                simp only at h ⊢
                cases hle : Nat.ble (mz_en (S.take r2).reverse).length N.2.2.1 with
                | false => simp only [hle, cond_false] at h; cases h
                | true =>
                  simp only [hle, cond_true] at h ⊢
                  cases hr : mz_run X n r1 0 (mz_L0 N.2.2.1 (S.take r2).reverse) [] sh m with
                  | none => rw [hr] at h; cases h
                  | some q =>
                    obtain ⟨v1, sh1, m1⟩ := q
                    rw [hr] at h
                    exact ih _ _ _ _ _ _ _ _ hl h
          | false =>
            simp only [hc, cond_false] at h ⊢
            cases hx : mz_ex X ins r1 r2 val pc L S sh m with
            | none => rw [hx] at h; cases h
            | some q =>
              obtain ⟨g, pc1, L1, S1, sh1, m1⟩ := q
              rw [hx] at h
              cases g with
              | false => cases h
              | true =>
                obtain ⟨L2, h2, h3⟩ := mz_ex_lel hl hx
                rw [h2]
                exact ih _ _ _ _ _ _ _ _ h3 h
theorem mz_go.forget {X : mz_X} {i pc : Nat} {L L' : mz_L} {S : List Value} {sh : List mz_K} {m : mz_M} {Q : Option Value → List mz_K → mz_M → Prop} (hl : mz_lel L L') (h : mz_go X i pc L S sh m Q) : mz_go X i pc L' S sh m Q := by
  obtain ⟨n, v, sh', m', h1, h2⟩ := h
  exact ⟨n, v, sh', m', mz_run_lel X n i pc L L' S sh m _ hl h1, h2⟩
theorem mz_lel_nil : mz_lel [] [] := ⟨rfl, fun r x y h => by simp at h⟩
theorem mz_lel_cons {x y : Option Value} {L L' : mz_L} (h0 : mz_le1 x y) (h : mz_lel L L') : mz_lel (x :: L) (y :: L') := by
  refine ⟨by rw [List.length_cons, List.length_cons, h.1], fun r a b ha hb => ?_⟩
  cases r with
  | zero => cases ha; cases hb; exact h0
  | succ r => exact h.2 r a b ha hb
