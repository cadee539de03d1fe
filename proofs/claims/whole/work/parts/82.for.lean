/-! forests: a node (kind, token, number), its parts, what stands beside it -/
abbrev z_F : Type := Std.DTreeMap.Internal.Impl (Nat × Nat × Nat) (fun _ => Unit)
def z_ndf (k t id : Nat) (l r : z_F) : z_F := .inner 0 (k, t, id) () l r
def z_nil : z_F := .leaf
def z_fsz : z_F → Nat
  | .leaf => 0
  | .inner _ _ _ l r => 1 + z_fsz l + z_fsz r
def z_fln : z_F → Nat
  | .leaf => 0
  | .inner _ _ _ _ r => 1 + z_fln r
def z_fht : z_F → Nat
  | .leaf => 0
  | .inner _ _ _ l r => max (1 + z_fht l) (z_fht r)
def z_fap : z_F → z_F → z_F
  | .leaf, g => g
  | .inner s a v l r, g => .inner s a v l (z_fap r g)
def z_fks : z_F → List Nat
  | .leaf => []
  | .inner _ a _ _ r => a.1 :: z_fks r
def z_fbk : z_F → List Nat
  | .leaf => []
  | .inner _ a _ l r => (if a.1 = 5 ∨ a.1 = 6 then [a.2.1] else []) ++ z_fbk l ++ z_fbk r
def z_fid : z_F → List Nat
  | .leaf => []
  | .inner _ a _ l r => a.2.2 :: (z_fid l ++ z_fid r)
def z_fow : z_F → Nat
  | .leaf => 0
  | .inner _ a _ l r => z_ow a.1 (z_fln l) + z_fow l + z_fow r
/-- well made: kinds fit, a NAME's and a SET's token is a NAME -/
def z_fty (tk : Nat → Nat) (c : Nat) : z_F → Prop
  | .leaf => True
  | .inner _ a _ l r => z_typ a.1 (z_fks l) ∧ (a.1 = 18 ∨ a.1 = 1 → tk a.2.1 = 1) ∧ a.2.1 < c ∧ z_fty tk c l ∧ z_fty tk c r
def z_fhd : z_F → Int32
  | .leaf => -1
  | .inner _ a _ _ _ => nI a.2.2
def z_fls : z_F → Int32
  | .leaf => -1
  | .inner _ a _ _ .leaf => nI a.2.2
  | .inner _ _ _ _ r => z_fls r
theorem z_fap_nil (F : z_F) : z_fap F .leaf = F := by
  induction F with
  | leaf => rfl
  | inner s a v l r ihl ihr => simp only [z_fap, ihr]
theorem z_fap_as (F G H : z_F) : z_fap (z_fap F G) H = z_fap F (z_fap G H) := by
  induction F with
  | leaf => rfl
  | inner s a v l r ihl ihr => simp only [z_fap, ihr]
theorem z_fsz_ap (F G : z_F) : z_fsz (z_fap F G) = z_fsz F + z_fsz G := by
  induction F with
  | leaf => simp [z_fap, z_fsz]
  | inner s a v l r ihl ihr => simp only [z_fap, z_fsz, ihr]; omega
theorem z_fln_ap (F G : z_F) : z_fln (z_fap F G) = z_fln F + z_fln G := by
  induction F with
  | leaf => simp [z_fap, z_fln]
  | inner s a v l r ihl ihr => simp only [z_fap, z_fln, ihr]; omega
theorem z_fht_ap (F G : z_F) : z_fht (z_fap F G) = max (z_fht F) (z_fht G) := by
  induction F with
  | leaf => simp [z_fap, z_fht]
  | inner s a v l r ihl ihr => simp only [z_fap, z_fht, ihr]; omega
theorem z_fks_ap (F G : z_F) : z_fks (z_fap F G) = z_fks F ++ z_fks G := by
  induction F with
  | leaf => rfl
  | inner s a v l r ihl ihr => simp only [z_fap, z_fks, ihr, List.cons_append]
theorem z_fbk_ap (F G : z_F) : z_fbk (z_fap F G) = z_fbk F ++ z_fbk G := by
  induction F with
  | leaf => rfl
  | inner s a v l r ihl ihr => simp only [z_fap, z_fbk, ihr, List.append_assoc]
theorem z_fid_ap (F G : z_F) : z_fid (z_fap F G) = z_fid F ++ z_fid G := by
  induction F with
  | leaf => rfl
  | inner s a v l r ihl ihr => simp only [z_fap, z_fid, ihr, List.cons_append, List.append_assoc]
theorem z_fow_ap (F G : z_F) : z_fow (z_fap F G) = z_fow F + z_fow G := by
  induction F with
  | leaf => simp [z_fap, z_fow]
  | inner s a v l r ihl ihr => simp only [z_fap, z_fow, ihr]; omega
theorem z_fty_ap {tk : Nat → Nat} {c : Nat} {F G : z_F} (h1 : z_fty tk c F) (h2 : z_fty tk c G) : z_fty tk c (z_fap F G) := by
  induction F with
  | leaf => exact h2
  | inner s a v l r ihl ihr => exact ⟨h1.1, h1.2.1, h1.2.2.1, h1.2.2.2.1, ihr h1.2.2.2.2⟩
theorem z_fty_wk {tk : Nat → Nat} {c c' : Nat} (hc : c ≤ c') : ∀ {F : z_F}, z_fty tk c F → z_fty tk c' F := by
  intro F
  induction F with
  | leaf => intro _; trivial
  | inner s a v l r ihl ihr => exact fun h1 => ⟨h1.1, h1.2.1, Nat.lt_of_lt_of_le h1.2.2.1 hc, ihl h1.2.2.2.1, ihr h1.2.2.2.2⟩
theorem z_fln_ks (F : z_F) : (z_fks F).length = z_fln F := by
  induction F with
  | leaf => rfl
  | inner s a v l r ihl ihr => simp only [z_fks, z_fln, List.length_cons, ihr]; omega
theorem z_fln_sz (F : z_F) : z_fln F ≤ z_fsz F := by
  induction F with
  | leaf => exact Nat.le_refl _
  | inner s a v l r ihl ihr => simp only [z_fln, z_fsz]; omega
theorem z_fht_sz (F : z_F) : z_fht F ≤ z_fsz F := by
  induction F with
  | leaf => exact Nat.le_refl _
  | inner s a v l r ihl ihr => simp only [z_fht, z_fsz]; omega
theorem z_fid_sz (F : z_F) : (z_fid F).length = z_fsz F := by
  induction F with
  | leaf => rfl
  | inner s a v l r ihl ihr => simp only [z_fid, z_fsz, List.length_cons, List.length_append, ihl, ihr]; omega
/-- a row of trees that is one tree -/
theorem z_f1 {F : z_F} (h : z_fln F = 1) : ∃ s a v l, F = .inner s a v l .leaf := by
  cases F with
  | leaf => cases h
  | inner s a v l r =>
    cases r with
    | leaf => exact ⟨s, a, v, l, rfl⟩
    | inner s2 a2 v2 l2 r2 => simp only [z_fln] at h; omega
