/-! the fast machine: runs -/
abbrev x_H : Type := Nat → Nat → Value → Nat → List (Option x_V) → List x_V → List mz_K → List Nat → x_C → Bool
noncomputable def x_oq : Instr → Option x_H
  | .aload_n _ => some x_h_aload_n
  | .aload _ => some x_h_aload
  | .iload_n _ => some x_h_iload_n
  | .iload _ => some x_h_iload
  | .istore_n _ => some x_h_istore_n
  | .istore _ => some x_h_istore
  | .astore_n _ => some x_h_astore_n
  | .iinc _ _ => some x_h_iinc
  | .iconst _ => some x_h_iconst
  | .bipush _ => some x_h_bipush
  | .sipush _ => some x_h_sipush
  | .ldc _ => some x_h_ldc
  | .getstatic _ => some x_h_getstatic
  | .iadd => some x_h_iadd
  | .isub => some x_h_isub
  | .imul => some x_h_imul
  | .iand => some x_h_iand
  | .ior => some x_h_ior
  | .ishl => some x_h_ishl
  | .ishr => some x_h_ishr
  | .ineg => some x_h_ineg
  | .dup => some x_h_dup
  | .dup2 => some x_h_dup2
  | .pop => some x_h_pop
  | .goto _ => some x_h_goto
  | .ifCond .eq _ => some x_h_ifCond_eq
  | .ifCond .ne _ => some x_h_ifCond_ne
  | .ifCond .lt _ => some x_h_ifCond_lt
  | .ifCond .ge _ => some x_h_ifCond_ge
  | .ifCond .gt _ => some x_h_ifCond_gt
  | .ifCond .le _ => some x_h_ifCond_le
  | .if_icmp .eq _ => some x_h_if_icmp_eq
  | .if_icmp .ne _ => some x_h_if_icmp_ne
  | .if_icmp .lt _ => some x_h_if_icmp_lt
  | .if_icmp .ge _ => some x_h_if_icmp_ge
  | .if_icmp .gt _ => some x_h_if_icmp_gt
  | .if_icmp .le _ => some x_h_if_icmp_le
  | .getfield _ => some x_h_getfield
  | .putfield _ => some x_h_putfield
  | .iaload => some x_h_iaload
  | .baload => some x_h_baload
  | .iastore => some x_h_iastore
  | .bastore => some x_h_bastore
  | .arraylength => some x_h_arraylength
  | .newarray .int => some x_h_newarray_int
  | .newarray .boolean => some x_h_newarray_boolean
  | .new _ => some x_h_new
  | .invokespecial _ => some x_h_invokespecial
  | _ => none
theorem x_oq_ok {ins : Instr} {g : x_H} (hg : x_oq ins = some g) {r1 r2 : Nat} {val : Value} {pc : Nat} {L : List (Option x_V)} {S : List x_V} {sh : List mz_K} {E : List Nat} {kk : x_C} (h : g r1 r2 val pc L S sh E kk = true) : ∃ pc' L' S' sh' E', x_ex ins r1 r2 val pc L S sh E = some (pc', L', S', sh', E') ∧ kk pc' L' S' sh' E' = true := by
  cases ins
  case ifCond c o =>
    cases c
    case eq => cases hg; obtain ⟨a, b, c, d, e, h1, h2⟩ := x_k_ifCond_eq h; exact ⟨a, b, c, d, e, x_op_ok rfl h1, h2⟩
    case ne => cases hg; obtain ⟨a, b, c, d, e, h1, h2⟩ := x_k_ifCond_ne h; exact ⟨a, b, c, d, e, x_op_ok rfl h1, h2⟩
    case lt => cases hg; obtain ⟨a, b, c, d, e, h1, h2⟩ := x_k_ifCond_lt h; exact ⟨a, b, c, d, e, x_op_ok rfl h1, h2⟩
    case ge => cases hg; obtain ⟨a, b, c, d, e, h1, h2⟩ := x_k_ifCond_ge h; exact ⟨a, b, c, d, e, x_op_ok rfl h1, h2⟩
    case gt => cases hg; obtain ⟨a, b, c, d, e, h1, h2⟩ := x_k_ifCond_gt h; exact ⟨a, b, c, d, e, x_op_ok rfl h1, h2⟩
    case le => cases hg; obtain ⟨a, b, c, d, e, h1, h2⟩ := x_k_ifCond_le h; exact ⟨a, b, c, d, e, x_op_ok rfl h1, h2⟩
  case if_icmp c o =>
    cases c
    case eq => cases hg; obtain ⟨a, b, c, d, e, h1, h2⟩ := x_k_if_icmp_eq h; exact ⟨a, b, c, d, e, x_op_ok rfl h1, h2⟩
    case ne => cases hg; obtain ⟨a, b, c, d, e, h1, h2⟩ := x_k_if_icmp_ne h; exact ⟨a, b, c, d, e, x_op_ok rfl h1, h2⟩
    case lt => cases hg; obtain ⟨a, b, c, d, e, h1, h2⟩ := x_k_if_icmp_lt h; exact ⟨a, b, c, d, e, x_op_ok rfl h1, h2⟩
    case ge => cases hg; obtain ⟨a, b, c, d, e, h1, h2⟩ := x_k_if_icmp_ge h; exact ⟨a, b, c, d, e, x_op_ok rfl h1, h2⟩
    case gt => cases hg; obtain ⟨a, b, c, d, e, h1, h2⟩ := x_k_if_icmp_gt h; exact ⟨a, b, c, d, e, x_op_ok rfl h1, h2⟩
    case le => cases hg; obtain ⟨a, b, c, d, e, h1, h2⟩ := x_k_if_icmp_le h; exact ⟨a, b, c, d, e, x_op_ok rfl h1, h2⟩
  case newarray c =>
    cases c
    case int => cases hg; obtain ⟨a, b, c, d, e, h1, h2⟩ := x_k_newarray_int h; exact ⟨a, b, c, d, e, x_op_ok rfl h1, h2⟩
    case boolean => cases hg; obtain ⟨a, b, c, d, e, h1, h2⟩ := x_k_newarray_boolean h; exact ⟨a, b, c, d, e, x_op_ok rfl h1, h2⟩
    all_goals cases hg
  case aload_n => cases hg; obtain ⟨a, b, c, d, e, h1, h2⟩ := x_k_aload_n h; exact ⟨a, b, c, d, e, x_op_ok rfl h1, h2⟩
  case aload => cases hg; obtain ⟨a, b, c, d, e, h1, h2⟩ := x_k_aload h; exact ⟨a, b, c, d, e, x_op_ok rfl h1, h2⟩
  case iload_n => cases hg; obtain ⟨a, b, c, d, e, h1, h2⟩ := x_k_iload_n h; exact ⟨a, b, c, d, e, x_op_ok rfl h1, h2⟩
  case iload => cases hg; obtain ⟨a, b, c, d, e, h1, h2⟩ := x_k_iload h; exact ⟨a, b, c, d, e, x_op_ok rfl h1, h2⟩
  case istore_n => cases hg; obtain ⟨a, b, c, d, e, h1, h2⟩ := x_k_istore_n h; exact ⟨a, b, c, d, e, x_op_ok rfl h1, h2⟩
  case istore => cases hg; obtain ⟨a, b, c, d, e, h1, h2⟩ := x_k_istore h; exact ⟨a, b, c, d, e, x_op_ok rfl h1, h2⟩
  case astore_n => cases hg; obtain ⟨a, b, c, d, e, h1, h2⟩ := x_k_astore_n h; exact ⟨a, b, c, d, e, x_op_ok rfl h1, h2⟩
  case iinc => cases hg; obtain ⟨a, b, c, d, e, h1, h2⟩ := x_k_iinc h; exact ⟨a, b, c, d, e, x_op_ok rfl h1, h2⟩
  case iconst => cases hg; obtain ⟨a, b, c, d, e, h1, h2⟩ := x_k_iconst h; exact ⟨a, b, c, d, e, x_op_ok rfl h1, h2⟩
  case bipush => cases hg; obtain ⟨a, b, c, d, e, h1, h2⟩ := x_k_bipush h; exact ⟨a, b, c, d, e, x_op_ok rfl h1, h2⟩
  case sipush => cases hg; obtain ⟨a, b, c, d, e, h1, h2⟩ := x_k_sipush h; exact ⟨a, b, c, d, e, x_op_ok rfl h1, h2⟩
  case ldc => cases hg; obtain ⟨a, b, c, d, e, h1, h2⟩ := x_k_ldc h; exact ⟨a, b, c, d, e, x_op_ok rfl h1, h2⟩
  case getstatic => cases hg; obtain ⟨a, b, c, d, e, h1, h2⟩ := x_k_getstatic h; exact ⟨a, b, c, d, e, x_op_ok rfl h1, h2⟩
  case iadd => cases hg; obtain ⟨a, b, c, d, e, h1, h2⟩ := x_k_iadd h; exact ⟨a, b, c, d, e, x_op_ok rfl h1, h2⟩
  case isub => cases hg; obtain ⟨a, b, c, d, e, h1, h2⟩ := x_k_isub h; exact ⟨a, b, c, d, e, x_op_ok rfl h1, h2⟩
  case imul => cases hg; obtain ⟨a, b, c, d, e, h1, h2⟩ := x_k_imul h; exact ⟨a, b, c, d, e, x_op_ok rfl h1, h2⟩
  case iand => cases hg; obtain ⟨a, b, c, d, e, h1, h2⟩ := x_k_iand h; exact ⟨a, b, c, d, e, x_op_ok rfl h1, h2⟩
  case ior => cases hg; obtain ⟨a, b, c, d, e, h1, h2⟩ := x_k_ior h; exact ⟨a, b, c, d, e, x_op_ok rfl h1, h2⟩
  case ishl => cases hg; obtain ⟨a, b, c, d, e, h1, h2⟩ := x_k_ishl h; exact ⟨a, b, c, d, e, x_op_ok rfl h1, h2⟩
  case ishr => cases hg; obtain ⟨a, b, c, d, e, h1, h2⟩ := x_k_ishr h; exact ⟨a, b, c, d, e, x_op_ok rfl h1, h2⟩
  case ineg => cases hg; obtain ⟨a, b, c, d, e, h1, h2⟩ := x_k_ineg h; exact ⟨a, b, c, d, e, x_op_ok rfl h1, h2⟩
  case dup => cases hg; obtain ⟨a, b, c, d, e, h1, h2⟩ := x_k_dup h; exact ⟨a, b, c, d, e, x_op_ok rfl h1, h2⟩
  case dup2 => cases hg; obtain ⟨a, b, c, d, e, h1, h2⟩ := x_k_dup2 h; exact ⟨a, b, c, d, e, x_op_ok rfl h1, h2⟩
  case pop => cases hg; obtain ⟨a, b, c, d, e, h1, h2⟩ := x_k_pop h; exact ⟨a, b, c, d, e, x_op_ok rfl h1, h2⟩
  case goto => cases hg; obtain ⟨a, b, c, d, e, h1, h2⟩ := x_k_goto h; exact ⟨a, b, c, d, e, x_op_ok rfl h1, h2⟩
  case getfield => cases hg; obtain ⟨a, b, c, d, e, h1, h2⟩ := x_k_getfield h; exact ⟨a, b, c, d, e, x_op_ok rfl h1, h2⟩
  case putfield => cases hg; obtain ⟨a, b, c, d, e, h1, h2⟩ := x_k_putfield h; exact ⟨a, b, c, d, e, x_op_ok rfl h1, h2⟩
  case iaload => cases hg; obtain ⟨a, b, c, d, e, h1, h2⟩ := x_k_iaload h; exact ⟨a, b, c, d, e, x_op_ok rfl h1, h2⟩
  case baload => cases hg; obtain ⟨a, b, c, d, e, h1, h2⟩ := x_k_baload h; exact ⟨a, b, c, d, e, x_op_ok rfl h1, h2⟩
  case iastore => cases hg; obtain ⟨a, b, c, d, e, h1, h2⟩ := x_k_iastore h; exact ⟨a, b, c, d, e, x_op_ok rfl h1, h2⟩
  case bastore => cases hg; obtain ⟨a, b, c, d, e, h1, h2⟩ := x_k_bastore h; exact ⟨a, b, c, d, e, x_op_ok rfl h1, h2⟩
  case arraylength => cases hg; obtain ⟨a, b, c, d, e, h1, h2⟩ := x_k_arraylength h; exact ⟨a, b, c, d, e, x_op_ok rfl h1, h2⟩
  case new => cases hg; obtain ⟨a, b, c, d, e, h1, h2⟩ := x_k_new h; exact ⟨a, b, c, d, e, x_op_ok rfl h1, h2⟩
  case invokespecial => cases hg; obtain ⟨a, b, c, d, e, h1, h2⟩ := x_k_invokespecial h; exact ⟨a, b, c, d, e, x_op_ok rfl h1, h2⟩
  all_goals cases hg
noncomputable def x_ft (i pc : Nat) : Option ((x_H × Nat × Nat × Value) ⊕ Unit) := match mz_md[i]? with
  | none => none
  | some M => match mz_at M.2.2.2.2.2.2 pc with
    | none => none
    | some (ins, _, r1, r2, val) => bif x_isr ins || mz_isc ins r1 then some (.inr ()) else (match x_oq ins with
      | none => none
      | some g => some (.inl (g, r1, r2, val)))
abbrev x_G : Type := Nat → Nat → List (Option x_V) → List x_V → List x_F → List mz_K → List Nat → Bool
def x_sl (k : x_G) (s : Option x_S) : Bool := match s with
  | some ((i, pc, L, S) :: fs, sh, E) => k i pc L S fs sh E
  | _ => false
noncomputable def x_T (k : x_G) : x_G := fun i pc L S fs sh E => match x_ft i pc with
  | some (.inl (g, r1, r2, val)) => g r1 r2 val pc L S sh E (fun pc' L' S' sh' E' => x_fs pc' (fun pc'' => k i pc'' L' S' fs sh' E'))
  | some (.inr _) => x_sl k (x_stp ((i, pc, L, S) :: fs, sh, E))
  | none => false
def x_gd (X : mz_X) (Q : Option Value → List mz_K → mz_M → Prop) (k : x_G) : Prop := ∀ i pc L S fs sh E, k i pc L S fs sh E = true → x_ok X Q ((i, pc, L, S) :: fs, sh, E)
theorem x_T_ok {X : mz_X} {Q : Option Value → List mz_K → mz_M → Prop} {k : x_G} (hk : x_gd X Q k) : x_gd X Q (x_T k) := by
  intro i pc L S fs sh E h
  unfold x_T at h
  split at h
  · rename_i g r1 r2 val hft
    unfold x_ft at hft
    cases hM : mz_md[i]? with
    | none => rw [hM] at hft; cases hft
    | some M =>
      rw [hM] at hft
      simp only at hft
      cases hat : mz_at M.2.2.2.2.2.2 pc with
      | none => rw [hat] at hft; cases hft
      | some q =>
        obtain ⟨ins, len, r1', r2', val'⟩ := q
        rw [hat] at hft
        simp only at hft
        cases hb : (x_isr ins || mz_isc ins r1') with
        | true => rw [hb] at hft; cases hft
        | false =>
          rw [hb] at hft
          simp only [cond_false] at hft
          cases hg : x_oq ins with
          | none => rw [hg] at hft; cases hft
          | some g' =>
            rw [hg] at hft
            cases hft
            obtain ⟨pc', L', S', sh', E', h1, h2⟩ := x_oq_ok hg h
            rw [x_fs_eq] at h2
            refine mz_go_blk M 1 hM (g := true) (pc' := pc') (L' := x_mL L') (S' := x_mS S') (sh' := sh') (m' := x_dm E') ?_ rfl (hk _ _ _ _ _ _ _ h2)
            show mz_blk X M.2.2.2.2.2.2 1 (true, pc, x_mL L, x_mS S, sh, x_dm E) = _
            simp only [mz_blk, hat, x_ex_ok (X := X) h1, Bool.and_self]
  · unfold x_sl at h
    split at h
    · rename_i hs
      exact x_stp_ok hs (hk _ _ _ _ _ _ _ h)
    · cases h
  · cases h
noncomputable def x_D1 (k : x_G) : x_G := x_T (x_T k)
noncomputable def x_D2 (k : x_G) : x_G := x_D1 (x_D1 k)
noncomputable def x_D3 (k : x_G) : x_G := x_D2 (x_D2 k)
noncomputable def x_D4 (k : x_G) : x_G := x_D3 (x_D3 k)
noncomputable def x_D5 (k : x_G) : x_G := x_D4 (x_D4 k)
noncomputable def x_D6 (k : x_G) : x_G := x_D5 (x_D5 k)
noncomputable def x_D7 (k : x_G) : x_G := x_D6 (x_D6 k)
noncomputable def x_D8 (k : x_G) : x_G := x_D7 (x_D7 k)
noncomputable def x_D9 (k : x_G) : x_G := x_D8 (x_D8 k)
noncomputable def x_D10 (k : x_G) : x_G := x_D9 (x_D9 k)
noncomputable def x_D11 (k : x_G) : x_G := x_D10 (x_D10 k)
noncomputable def x_D12 (k : x_G) : x_G := x_D11 (x_D11 k)
theorem x_D1_ok {X : mz_X} {Q : Option Value → List mz_K → mz_M → Prop} {k : x_G} (hk : x_gd X Q k) : x_gd X Q (x_D1 k) := x_T_ok (x_T_ok hk)
theorem x_D2_ok {X : mz_X} {Q : Option Value → List mz_K → mz_M → Prop} {k : x_G} (hk : x_gd X Q k) : x_gd X Q (x_D2 k) := x_D1_ok (x_D1_ok hk)
theorem x_D3_ok {X : mz_X} {Q : Option Value → List mz_K → mz_M → Prop} {k : x_G} (hk : x_gd X Q k) : x_gd X Q (x_D3 k) := x_D2_ok (x_D2_ok hk)
theorem x_D4_ok {X : mz_X} {Q : Option Value → List mz_K → mz_M → Prop} {k : x_G} (hk : x_gd X Q k) : x_gd X Q (x_D4 k) := x_D3_ok (x_D3_ok hk)
theorem x_D5_ok {X : mz_X} {Q : Option Value → List mz_K → mz_M → Prop} {k : x_G} (hk : x_gd X Q k) : x_gd X Q (x_D5 k) := x_D4_ok (x_D4_ok hk)
theorem x_D6_ok {X : mz_X} {Q : Option Value → List mz_K → mz_M → Prop} {k : x_G} (hk : x_gd X Q k) : x_gd X Q (x_D6 k) := x_D5_ok (x_D5_ok hk)
theorem x_D7_ok {X : mz_X} {Q : Option Value → List mz_K → mz_M → Prop} {k : x_G} (hk : x_gd X Q k) : x_gd X Q (x_D7 k) := x_D6_ok (x_D6_ok hk)
theorem x_D8_ok {X : mz_X} {Q : Option Value → List mz_K → mz_M → Prop} {k : x_G} (hk : x_gd X Q k) : x_gd X Q (x_D8 k) := x_D7_ok (x_D7_ok hk)
theorem x_D9_ok {X : mz_X} {Q : Option Value → List mz_K → mz_M → Prop} {k : x_G} (hk : x_gd X Q k) : x_gd X Q (x_D9 k) := x_D8_ok (x_D8_ok hk)
theorem x_D10_ok {X : mz_X} {Q : Option Value → List mz_K → mz_M → Prop} {k : x_G} (hk : x_gd X Q k) : x_gd X Q (x_D10 k) := x_D9_ok (x_D9_ok hk)
theorem x_D11_ok {X : mz_X} {Q : Option Value → List mz_K → mz_M → Prop} {k : x_G} (hk : x_gd X Q k) : x_gd X Q (x_D11 k) := x_D10_ok (x_D10_ok hk)
theorem x_D12_ok {X : mz_X} {Q : Option Value → List mz_K → mz_M → Prop} {k : x_G} (hk : x_gd X Q k) : x_gd X Q (x_D12 k) := x_D11_ok (x_D11_ok hk)
def x_fr (k : x_G) : x_G := fun i pc L S fs sh E => x_fl L (fun L' => x_fl S (fun S' => x_ff fs (fun fs' => x_fl sh (fun sh' => x_fe E (fun E' => k i pc L' S' fs' sh' E')))))
theorem x_fr_ok {X : mz_X} {Q : Option Value → List mz_K → mz_M → Prop} {k : x_G} (hk : x_gd X Q k) : x_gd X Q (x_fr k) := by
  intro i pc L S fs sh E h
  unfold x_fr at h
  simp only [x_fl_eq, x_ff_eq, x_fe_eq] at h
  exact hk _ _ _ _ _ _ _ h
noncomputable def x_W (k : x_G) : x_G := x_D12 (x_fr k)
theorem x_W_ok {X : mz_X} {Q : Option Value → List mz_K → mz_M → Prop} {k : x_G} (hk : x_gd X Q k) : x_gd X Q (x_W k) := x_D12_ok (x_fr_ok hk)
def x_eT : FieldType → FieldType → Bool
  | .int, .int => true
  | .boolean, .boolean => true
  | _, _ => false
theorem x_eT_ok {a b : FieldType} (h : x_eT a b = true) : a = b := by
  unfold x_eT at h
  split at h
  · rfl
  · rfl
  · cases h
def x_eK : mz_K → mz_K → Bool
  | .inl (t, n), .inl (t', n') => x_eT t t' && Nat.beq n n'
  | .inr (c, f), .inr (c', f') => Nat.beq c c' && decide (f = f')
  | _, _ => false
theorem x_eK_ok {a b : mz_K} (h : x_eK a b = true) : a = b := by
  unfold x_eK at h
  split at h
  · rw [Bool.and_eq_true] at h
    rw [x_eT_ok h.1, Nat.eq_of_beq_eq_true h.2]
  · rw [Bool.and_eq_true, decide_eq_true_eq] at h
    rw [Nat.eq_of_beq_eq_true h.1, h.2]
  · cases h
def x_eS : List mz_K → List mz_K → Bool
  | [], [] => true
  | a :: t, b :: t' => x_eK a b && x_eS t t'
  | _, _ => false
theorem x_eS_ok : ∀ {a b : List mz_K}, x_eS a b = true → a = b := by
  intro a
  induction a with
  | nil => intro b h; cases b with
    | nil => rfl
    | cons y t => cases h
  | cons x t ih => intro b h; cases b with
    | nil => cases h
    | cons y t' =>
      simp only [x_eS, Bool.and_eq_true] at h
      rw [x_eK_ok h.1, ih h.2]
def x_eV : x_V → x_V → Bool
  | .inl a, .inl b => Nat.beq a b
  | .inr a, .inr b => Nat.beq a b
  | _, _ => false
theorem x_eV_ok {a b : x_V} (h : x_eV a b = true) : a = b := by
  unfold x_eV at h
  split at h
  · rw [Nat.eq_of_beq_eq_true h]
  · rw [Nat.eq_of_beq_eq_true h]
  · cases h
def x_eO : Option x_V → Option x_V → Bool
  | none, none => true
  | some a, some b => x_eV a b
  | _, _ => false
theorem x_eO_ok {a b : Option x_V} (h : x_eO a b = true) : a = b := by
  unfold x_eO at h
  split at h
  · rfl
  · rw [x_eV_ok h]
  · cases h
def x_eL {α : Type} (e : α → α → Bool) : List α → List α → Bool
  | [], [] => true
  | a :: t, b :: t' => e a b && x_eL e t t'
  | _, _ => false
theorem x_eL_ok {α : Type} {e : α → α → Bool} (he : ∀ a b, e a b = true → a = b) : ∀ {a b : List α}, x_eL e a b = true → a = b := by
  intro a
  induction a with
  | nil => intro b h; cases b with
    | nil => rfl
    | cons y t => cases h
  | cons x t ih => intro b h; cases b with
    | nil => cases h
    | cons y t' =>
      simp only [x_eL, Bool.and_eq_true] at h
      rw [he _ _ h.1, ih h.2]
def x_eF (a b : x_F) : Bool := Nat.beq a.1 b.1 && (Nat.beq a.2.1 b.2.1 && (x_eL x_eO a.2.2.1 b.2.2.1 && x_eL x_eV a.2.2.2 b.2.2.2))
theorem x_eF_ok {a b : x_F} (h : x_eF a b = true) : a = b := by
  unfold x_eF at h
  rw [Bool.and_eq_true, Bool.and_eq_true, Bool.and_eq_true] at h
  obtain ⟨a1, a2, a3, a4⟩ := a
  obtain ⟨b1, b2, b3, b4⟩ := b
  have h1 : a1 = b1 := Nat.eq_of_beq_eq_true h.1
  have h2 : a2 = b2 := Nat.eq_of_beq_eq_true h.2.1
  have h3 : a3 = b3 := x_eL_ok (fun _ _ => x_eO_ok) h.2.2.1
  have h4 : a4 = b4 := x_eL_ok (fun _ _ => x_eV_ok) h.2.2.2
  rw [h1, h2, h3, h4]
def x_fin (t : x_S) : x_G := fun i pc L S fs sh E => x_eL x_eF ((i, pc, L, S) :: fs) t.1 && (x_eS sh t.2.1 && decide (E = t.2.2))
theorem x_fin_ok {X : mz_X} {Q : Option Value → List mz_K → mz_M → Prop} {t : x_S} (ht : x_ok X Q t) : x_gd X Q (x_fin t) := by
  intro i pc L S fs sh E h
  unfold x_fin at h
  rw [Bool.and_eq_true, Bool.and_eq_true, decide_eq_true_eq] at h
  rw [x_eL_ok (fun _ _ => x_eF_ok) h.1, x_eS_ok h.2.1, h.2.2]
  exact ht
/-- a run from a state that is laid out -/
def x_at0 (k : x_G) : x_S → Bool
  | ((i, pc, L, S) :: fs, sh, E) => k i pc L S fs sh E
  | _ => false
theorem x_at0_ok {X : mz_X} {Q : Option Value → List mz_K → mz_M → Prop} {k : x_G} {s : x_S} (h : x_at0 k s = true) (hk : x_gd X Q k) : x_ok X Q s := by
  unfold x_at0 at h
  split at h
  · exact hk _ _ _ _ _ _ _ h
  · cases h
