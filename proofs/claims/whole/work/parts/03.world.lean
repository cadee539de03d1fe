/-! FROM THE SMALL MACHINE'S STATES TO HEAPS -/
def mz_v (ad : Nat → Nat) (ov : Nat → Value) : Value → Value
  | .ref k => bif Nat.blt k mz_B then .ref (ad k) else ov (k - mz_B)
  | v => v
def mz_lv (f : Value → Value) : Nat → mz_L → List (Nat × Value)
  | _, [] => []
  | i, none :: t => mz_lv f (i + 1) t
  | i, some v :: t => (i, f v) :: mz_lv f (i + 1) t
def mz_fs (ad : Nat → Nat) (g : Nat → Int32) : Nat → List (Option (Option Nat)) → List Value
  | _, [] => []
  | i, none :: t => .int (g i) :: mz_fs ad g (i + 1) t
  | i, some none :: t => .null :: mz_fs ad g (i + 1) t
  | i, some (some j) :: t => .ref (ad j) :: mz_fs ad g (i + 1) t
def mz_f1 (ad : Nat → Nat) (g : Nat → Int32) (i : Nat) : Option (Option Nat) → Value
  | none => .int (g i)
  | some none => .null
  | some (some j) => .ref (ad j)
def mz_c (cy : FieldType → ClassId) (ad : Nat → Nat) (g : Nat → Int32) : mz_K → va_E
  | .inl (ty, n) => .inl (cy ty, n, .inl g)
  | .inr (ci, fs) => .inr (ci, mz_fs ad g 0 fs)
def mz_W (cy : FieldType → ClassId) (ad : Nat → Nat) (m : mz_M) : Nat → List mz_K → va_W
  | _, [] => []
  | k, c :: t => (ad k, mz_c cy ad (m k) c) :: mz_W cy ad m (k + 1) t
theorem mz_fs_get (ad : Nat → Nat) (g : Nat → Int32) (fs : List (Option (Option Nat))) : ∀ i k : Nat, (mz_fs ad g i fs)[k]? = (fs[k]?).map (mz_f1 ad g (i + k)) := by
  induction fs with
  | nil => intro i k; simp [mz_fs]
  | cons x t ih =>
    intro i k
    cases k with
    | zero => rcases x with _ | _ | j <;> rfl
    | succ n =>
      have e : (mz_fs ad g i (x :: t))[n + 1]? = (mz_fs ad g (i + 1) t)[n]? := by rcases x with _ | _ | j <;> rfl
      rw [e, ih, show i + 1 + n = i + (n + 1) by omega]
      rfl
theorem mz_fs_len (ad : Nat → Nat) (g : Nat → Int32) (fs : List (Option (Option Nat))) : ∀ i : Nat, (mz_fs ad g i fs).length = fs.length := by
  induction fs with
  | nil => intro i; rfl
  | cons x t ih => intro i; rcases x with _ | _ | j <;> simp [mz_fs, ih]
theorem mz_W_get (cy : FieldType → ClassId) (ad : Nat → Nat) (m : mz_M) (sh : List mz_K) : ∀ k q : Nat, (mz_W cy ad m k sh)[q]? = (sh[q]?).map (fun c => (ad (k + q), mz_c cy ad (m (k + q)) c)) := by
  induction sh with
  | nil => intro k q; simp [mz_W]
  | cons c t ih =>
    intro k q
    cases q with
    | zero => rfl
    | succ n =>
      show (mz_W cy ad m (k + 1) t)[n]? = _
      rw [ih, show k + 1 + n = k + (n + 1) by omega]
      rfl
theorem mz_W_at {cy : FieldType → ClassId} {ad : Nat → Nat} {m : mz_M} {sh : List mz_K} {a : Nat} {c : mz_K} (h : sh[a]? = some c) : (mz_W cy ad m 0 sh)[a]? = some (ad a, mz_c cy ad (m a) c) := by
  rw [mz_W_get, h]; simp
theorem mz_fs_up {ad : Nat → Nat} {g : Nat → Int32} {fs : List (Option (Option Nat))} {k : Nat} {v : Int32} (h : fs[k]? = some none) : mz_fs ad (upd g k v) 0 fs = (mz_fs ad g 0 fs).set k (.int v) := by
  apply List.ext_getElem?
  intro q
  rw [List.getElem?_set, mz_fs_get, mz_fs_get, mz_fs_len]
  have hk : k < fs.length := (List.getElem?_eq_some_iff.mp h).1
  by_cases hq : k = q
  · subst hq
    rw [if_pos rfl, if_pos hk, h]
    simp [mz_f1, upd]
  · rw [if_neg hq]
    cases hf : fs[q]? with
    | none => rfl
    | some x =>
      rcases x with _ | _ | j <;> simp [mz_f1, upd, Ne.symm hq]
theorem mz_fs_set {ad : Nat → Nat} {g : Nat → Int32} {fs : List (Option (Option Nat))} {k j : Nat} (hk : k < fs.length) : mz_fs ad g 0 (fs.set k (some (some j))) = (mz_fs ad g 0 fs).set k (.ref (ad j)) := by
  apply List.ext_getElem?
  intro q
  rw [List.getElem?_set, mz_fs_get, mz_fs_get, mz_fs_len, List.getElem?_set]
  by_cases hq : k = q
  · subst hq
    simp [mz_f1, hk]
  · rw [if_neg hq, if_neg hq]
theorem mz_W_up {cy : FieldType → ClassId} {ad : Nat → Nat} {m : mz_M} {sh : List mz_K} {a : Nat} {c : mz_K} {g : Nat → Int32} {m' : mz_M} (h : sh[a]? = some c) (h1 : m' a = g) (h2 : ∀ q, q ≠ a → m' q = m q) : mz_W cy ad m' 0 sh = (mz_W cy ad m 0 sh).set a (ad a, mz_c cy ad g c) := by
  have hlen : ∀ k, (mz_W cy ad m k sh).length = sh.length := by
    intro k
    induction sh generalizing k a with
    | nil => rfl
    | cons x t ih =>
      simp only [mz_W, List.length_cons]
      have : ∀ (t : List mz_K) (k : Nat), (mz_W cy ad m k t).length = t.length := by
        intro t
        induction t with
        | nil => intro k; rfl
        | cons y u ih2 => intro k; simp [mz_W, ih2]
      rw [this]
  apply List.ext_getElem?
  intro q
  rw [List.getElem?_set, mz_W_get, mz_W_get, hlen]
  have ha : a < sh.length := (List.getElem?_eq_some_iff.mp h).1
  by_cases hq : a = q
  · subst hq
    rw [if_pos rfl, if_pos ha, h]
    simp [h1]
  · rw [if_neg hq]
    simp [h2 q (Ne.symm hq)]
theorem mz_W_len (cy : FieldType → ClassId) (ad : Nat → Nat) (m : mz_M) : ∀ (sh : List mz_K) (k : Nat), (mz_W cy ad m k sh).length = sh.length := by
  intro t
  induction t with
  | nil => intro k; rfl
  | cons y u ih2 => intro k; simp [mz_W, ih2]
theorem mz_W_set {cy : FieldType → ClassId} {ad : Nat → Nat} {m : mz_M} {sh : List mz_K} {a : Nat} {c : mz_K} (h : a < sh.length) : mz_W cy ad m 0 (sh.set a c) = (mz_W cy ad m 0 sh).set a (ad a, mz_c cy ad (m a) c) := by
  apply List.ext_getElem?
  intro q
  rw [List.getElem?_set, mz_W_get, mz_W_get, mz_W_len, List.getElem?_set]
  by_cases hq : a = q
  · subst hq
    simp [h]
  · rw [if_neg hq, if_neg hq]
/-- every reference in a field is of a cell that is there -/
def mz_wf (sh : List mz_K) : Prop := ∀ (a ci : Nat) (fs : List (Option (Option Nat))) (k j : Nat), sh[a]? = some (.inr (ci, fs)) → fs[k]? = some (some (some j)) → j < sh.length ∧ j < mz_B
theorem mz_W_ad {cy : FieldType → ClassId} {ad ad' : Nat → Nat} {m : mz_M} {sh : List mz_K} (hw : mz_wf sh) (h : ∀ k, k < sh.length → ad' k = ad k) : mz_W cy ad' m 0 sh = mz_W cy ad m 0 sh := by
  apply List.ext_getElem?
  intro q
  rw [mz_W_get, mz_W_get]
  cases hq : sh[q]? with
  | none => rfl
  | some c =>
    have hlt : q < sh.length := (List.getElem?_eq_some_iff.mp hq).1
    simp only [Option.map_some, Nat.zero_add, h q hlt]
    rcases c with ⟨ty, n⟩ | ⟨ci, fs⟩
    · rfl
    · simp only [mz_c]
      congr 4
      apply List.ext_getElem?
      intro k
      rw [mz_fs_get, mz_fs_get]
      cases hk : fs[k]? with
      | none => rfl
      | some x =>
        rcases x with _ | _ | j
        · rfl
        · rfl
        · simp [mz_f1, h j (hw q ci fs k j hq hk).1]
theorem mz_W_push {cy : FieldType → ClassId} {ad : Nat → Nat} {m : mz_M} {sh : List mz_K} {c : mz_K} {q : Nat} {e : va_E} {m' : mz_M} (hw : mz_wf sh) (hm : ∀ k, k < sh.length → m' k = m k) (he : mz_c cy (fun k => if k = sh.length then q else ad k) (m' sh.length) c = e) :
    mz_W cy (fun k => if k = sh.length then q else ad k) m' 0 (sh ++ [c]) = mz_W cy ad m 0 sh ++ [(q, e)] := by
  have h1 : mz_W cy (fun k => if k = sh.length then q else ad k) m 0 sh = mz_W cy ad m 0 sh := mz_W_ad hw (fun k hk => if_neg (Nat.ne_of_lt hk))
  rw [← h1]
  apply List.ext_getElem?
  intro x
  rw [mz_W_get]
  by_cases hx : x < sh.length
  · rw [List.getElem?_append_left hx, List.getElem?_append_left (by rw [mz_W_len]; exact hx), mz_W_get]
    simp [hm x hx]
  · rw [List.getElem?_append_right (Nat.not_lt.mp hx), List.getElem?_append_right (by rw [mz_W_len]; exact Nat.not_lt.mp hx), mz_W_len]
    by_cases h0 : x = sh.length
    · subst h0
      simp only [Nat.sub_self, List.getElem?_cons_zero, Option.map_some, Nat.zero_add, he, if_true]
    · have : x - sh.length ≠ 0 := by omega
      obtain ⟨z, hz⟩ := Nat.exists_eq_succ_of_ne_zero this
      simp [hz]
theorem mz_lv_mem {f : Value → Value} : ∀ (L : mz_L) (i r : Nat) (v : Value), L[r]? = some (some v) → (i + r, f v) ∈ mz_lv f i L := by
  intro L
  induction L with
  | nil => intro i r v h; simp at h
  | cons x t ih =>
    intro i r v h
    cases r with
    | zero =>
      simp only [List.getElem?_cons_zero, Option.some.injEq] at h
      subst h
      simp [mz_lv]
    | succ r =>
      simp only [List.getElem?_cons_succ] at h
      have h2 := ih (i + 1) r v h
      rw [show i + 1 + r = i + (r + 1) by omega] at h2
      cases x with
      | none => exact h2
      | some w => exact List.mem_cons_of_mem _ h2
theorem mz_lv_of {f : Value → Value} : ∀ (L : mz_L) (i : Nat) (q : Nat × Value), q ∈ mz_lv f i L → ∃ (r : Nat) (v : Value), q = (i + r, f v) ∧ L[r]? = some (some v) := by
  intro L
  induction L with
  | nil => intro i q h; cases h
  | cons x t ih =>
    intro i q h
    cases x with
    | none =>
      obtain ⟨r, v, h1, h2⟩ := ih (i + 1) q h
      exact ⟨r + 1, v, by rw [h1]; congr 1; omega, h2⟩
    | some w =>
      rcases List.mem_cons.mp h with h | h
      · exact ⟨0, w, h, rfl⟩
      · obtain ⟨r, v, h1, h2⟩ := ih (i + 1) q h
        exact ⟨r + 1, v, by rw [h1]; congr 1; omega, h2⟩
theorem mz_lv_at {f : Value → Value} {ls : Array Slot} {nL : Nat} {L : mz_L} {r : Nat} {v : Value} (h : lv_has ls nL (mz_lv f 0 L)) (hr : L[r]? = some (some v)) : ls[r]? = some (.val (f v)) := by
  have h1 := h.2.2 _ (mz_lv_mem (f := f) L 0 r v hr)
  simpa using h1
theorem mz_v_cat (ad : Nat → Nat) {ov : Nat → Value} (ho : ∀ j, ov j = .null ∨ ∃ t, ov j = .ref t) (v : Value) : (mz_v ad ov v).category = v.category := by
  cases v with
  | ref k =>
    simp only [mz_v]
    cases Nat.blt k mz_B with
    | true => rfl
    | false =>
      rcases ho (k - mz_B) with h | ⟨t, h⟩ <;> (simp only [cond_false, h]; rfl)
  | _ => rfl
theorem mz_lv_put {ad : Nat → Nat} {ov : Nat → Value} {ls' : Array Slot} {nL i : Nat} {L L' : mz_L} {v : Value} (ho : ∀ j, ov j = .null ∨ ∃ t, ov j = .ref t) (hp : mz_put L i v = some L') (h : lv_has ls' nL ((i, mz_v ad ov v) :: (mz_lv (mz_v ad ov) 0 L).filter (fun q => !(q.1 == i) && !(q.1 + 1 == i && q.2.category == 2)))) : lv_has ls' nL (mz_lv (mz_v ad ov) 0 L') := by
  refine ⟨h.1, h.2.1, fun q hq => ?_⟩
  unfold mz_put at hp
  cases hb : (Nat.blt i L.length && mz_sok L i) with
  | false => rw [hb] at hp; cases hp
  | true =>
    rw [hb] at hp
    cases hp
    rw [Bool.and_eq_true] at hb
    obtain ⟨r, w, h1, h2⟩ := mz_lv_of _ _ _ hq
    rw [Nat.zero_add] at h1
    subst h1
    rw [List.getElem?_set] at h2
    by_cases hr : i = r
    · subst hr
      rw [if_pos rfl] at h2
      split at h2
      · cases h2
        exact h.2.2 _ List.mem_cons_self
      · cases h2
    · rw [if_neg hr] at h2
      refine h.2.2 _ (List.mem_cons_of_mem _ (List.mem_filter.mpr ⟨by simpa using mz_lv_mem (f := mz_v ad ov) L 0 r w h2, ?_⟩))
      have e1 : (r == i) = false := by simpa using Ne.symm hr
      simp only [e1, Bool.not_false, Bool.true_and, mz_v_cat ad ho]
      by_cases h3 : r + 1 = i
      · subst h3
        have h4 := hb.2
        simp only [mz_sok, h2] at h4
        cases w <;> simp_all [Value.category]
      · simp [h3]
theorem mz_lv_put2 {ad : Nat → Nat} {ov : Nat → Value} {ls' : Array Slot} {nL i : Nat} {L L' : mz_L} {v : Value} (ho : ∀ j, ov j = .null ∨ ∃ t, ov j = .ref t) (hp : mz_put2 L i v = some L') (h : lv_has ls' nL ((i, mz_v ad ov v) :: (mz_lv (mz_v ad ov) 0 L).filter (fun q => !(q.1 == i) && (!(q.1 == i + 1) && !(q.1 + 1 == i && q.2.category == 2))))) : lv_has ls' nL (mz_lv (mz_v ad ov) 0 L') := by
  refine ⟨h.1, h.2.1, fun q hq => ?_⟩
  unfold mz_put2 at hp
  cases hb : (Nat.blt (i + 1) L.length && mz_sok L i) with
  | false => rw [hb] at hp; cases hp
  | true =>
    rw [hb] at hp
    cases hp
    rw [Bool.and_eq_true] at hb
    obtain ⟨r, w, h1, h2⟩ := mz_lv_of _ _ _ hq
    rw [Nat.zero_add] at h1
    subst h1
    rw [List.getElem?_set] at h2
    by_cases hr : i + 1 = r
    · rw [if_pos hr] at h2
      split at h2 <;> cases h2
    · rw [if_neg hr, List.getElem?_set] at h2
      by_cases hr2 : i = r
      · subst hr2
        rw [if_pos rfl] at h2
        split at h2
        · cases h2
          exact h.2.2 _ List.mem_cons_self
        · cases h2
      · rw [if_neg hr2] at h2
        refine h.2.2 _ (List.mem_cons_of_mem _ (List.mem_filter.mpr ⟨by simpa using mz_lv_mem (f := mz_v ad ov) L 0 r w h2, ?_⟩))
        have e1 : (r == i) = false := by simpa using Ne.symm hr2
        have e2 : (r == i + 1) = false := by simpa using Ne.symm hr
        simp only [e1, e2, Bool.not_false, Bool.true_and, mz_v_cat ad ho]
        by_cases h3 : r + 1 = i
        · subst h3
          have h4 := hb.2
          simp only [mz_sok, h2] at h4
          cases w <;> simp_all [Value.category]
        · simp [h3]
theorem mz_wv_v {ad ad' : Nat → Nat} {ov : Nat → Value} {n : Nat} {v : Value} (hn : n ≤ mz_B) (h : ∀ k, k < n → ad' k = ad k) (hv : mz_wv n v = true) : mz_v ad' ov v = mz_v ad ov v := by
  cases v with
  | ref k =>
    simp only [mz_wv, Bool.or_eq_true, Nat.blt_eq, Nat.ble_eq] at hv
    simp only [mz_v]
    rcases hv with hv | hv
    · rw [h k hv]
    · have : Nat.blt k mz_B = false := by
        rw [Bool.eq_false_iff]; intro q; rw [Nat.blt_eq] at q; omega
      rw [this]; rfl
  | _ => rfl
theorem mz_wL_v {ad ad' : Nat → Nat} {ov : Nat → Value} {n : Nat} (hn : n ≤ mz_B) (h : ∀ k, k < n → ad' k = ad k) : ∀ (L : mz_L) (i : Nat), mz_wL n L = true → mz_lv (mz_v ad' ov) i L = mz_lv (mz_v ad ov) i L := by
  intro L
  induction L with
  | nil => intro i _; rfl
  | cons x t ih =>
    intro i hL
    cases x with
    | none => exact ih (i + 1) hL
    | some v =>
      simp only [mz_wL, Bool.and_eq_true] at hL
      simp only [mz_lv, ih (i + 1) hL.2, mz_wv_v hn h hL.1]
theorem mz_wS_v {ad ad' : Nat → Nat} {ov : Nat → Value} {n : Nat} (hn : n ≤ mz_B) (h : ∀ k, k < n → ad' k = ad k) : ∀ (S : List Value), mz_wS n S = true → S.map (mz_v ad' ov) = S.map (mz_v ad ov) := by
  intro S
  induction S with
  | nil => intro _; rfl
  | cons v t ih =>
    intro hS
    simp only [mz_wS, Bool.and_eq_true] at hS
    simp only [List.map_cons, ih hS.2, mz_wv_v hn h hS.1]
theorem mz_inb_in {i : Int32} {n : Nat} (h : mz_inb i n = true) : vp_in i n := by
  simp only [mz_inb, Bool.and_eq_true, decide_eq_true_eq] at h
  intro q
  rcases q with q | q
  · exact absurd q (Int32.not_lt.mpr h.1)
  · omega
/-- the old cells: static fields, static arrays and the script, texts -/
def mz_Old (X : mz_X) (ov : Nat → Value) (A : Nat → Prop) (U : State) (H : Heap) : Prop :=
  (∀ (k : Nat) (q : String × String × String × Value), mz_sts[k]? = some q → va_Z q.1 q.2.1 q.2.2.1 (mz_v (fun _ => 0) ov q.2.2.2) A U H) ∧
  (∀ (j : Nat) (q : FieldType × Nat × (Nat → Int32)), mz_oa X j = some q → ∃ t, ov j = .ref t ∧ va_T q.1 t q.2.1 (fun i => .int (q.2.2 i)) A U H) ∧
  (∀ (j : Nat) (q : String × Nat × String × List Int32), mz_txs[j]? = some q → ∃ t, ov (10 + j) = .ref t ∧ vk_R q.1 q.2.1 q.2.2.1 t U ∧ va_O "java/lang/String" t A U H ∧ va_OF "java/lang/String" "coder" "B" (.int 0) t A U H ∧ va_OF "java/lang/String" "value" "[B" (ov (30 + j)) t A U H) ∧
  (∀ j, ov j = .null ∨ ∃ t, ov j = .ref t) ∧ ∀ q ∈ mz_nst, va_Nw (.methodLinkNest q.1 q.2.1 q.2.2 "TinyFront") U
theorem mz_Old.warm {X : mz_X} {ov : Nat → Value} {A : Nat → Prop} {s U : State} {H : Heap} (hW : s.WarmedH U.vm) (h : mz_Old X ov A s H) : mz_Old X ov A U H := by
  refine ⟨fun k q hk => (h.1 k q hk).moved hW.alike, fun j q hq => ?_, fun j q hq => ?_, h.2.2.2.1, fun q hq => (h.2.2.2.2 q hq).warmM hW⟩
  · obtain ⟨t, h1, h2⟩ := h.2.1 j q hq
    exact ⟨t, h1, h2.moved hW.alike⟩
  · obtain ⟨t, h1, h2, h3, h4, h5⟩ := h.2.2.1 j q hq
    exact ⟨t, h1, h2.warm hW, h3.moved hW.alike, h4.moved hW.alike, h5.moved hW.alike⟩
theorem mz_Old.same {X : mz_X} {ov : Nat → Value} {A : Nat → Prop} {s U : State} {H : Heap} (hW : U.vm = s.vm) (h : mz_Old X ov A s H) : mz_Old X ov A U H := by
  have ha : s.vm.Alike U.vm := by rw [hW]; exact Vm.Alike.refl s.vm
  refine ⟨fun k q hk => (h.1 k q hk).moved ha, fun j q hq => ?_, fun j q hq => ?_, h.2.2.2.1, fun q hq => va_Nw.same rfl hW.symm (h.2.2.2.2 q hq)⟩
  · obtain ⟨t, h1, h2⟩ := h.2.1 j q hq
    exact ⟨t, h1, h2.moved ha⟩
  · obtain ⟨t, h1, h2, h3, h4, h5⟩ := h.2.2.1 j q hq
    exact ⟨t, h1, h2.same hW, h3.moved ha, h4.moved ha, h5.moved ha⟩
theorem mz_Old.kept {X : mz_X} {ov : Nat → Value} {A : Nat → Prop} {U : State} {H H1 : Heap} (h : mz_Old X ov A U H) (hq : ∀ a : Nat, a < H.size → ¬ A a → H1[a]? = H[a]?) : mz_Old X ov A U H1 := by
  refine ⟨fun k q hk => (h.1 k q hk).kept hq, fun j q hj => ?_, fun j q hj => ?_, h.2.2.2⟩
  · obtain ⟨t, h1, h2⟩ := h.2.1 j q hj
    exact ⟨t, h1, h2.kept hq⟩
  · obtain ⟨t, h1, h2, h3, h4, h5⟩ := h.2.2.1 j q hj
    exact ⟨t, h1, h2, h3.kept hq, h4.kept hq, h5.kept hq⟩
theorem mz_Old.narrow {X : mz_X} {ov : Nat → Value} {A B : Nat → Prop} {U : State} {H : Heap} (h : mz_Old X ov A U H) (hAB : ∀ q, B q → A q) : mz_Old X ov B U H := by
  refine ⟨fun k q hk => (h.1 k q hk).narrow hAB, fun j q hj => ?_, fun j q hj => ?_, h.2.2.2⟩
  · obtain ⟨t, h1, h2⟩ := h.2.1 j q hj
    exact ⟨t, h1, h2.narrow hAB⟩
  · obtain ⟨t, h1, h2, h3, h4, h5⟩ := h.2.2.1 j q hj
    exact ⟨t, h1, h2, h3.narrow hAB, h4.narrow hAB, h5.narrow hAB⟩
