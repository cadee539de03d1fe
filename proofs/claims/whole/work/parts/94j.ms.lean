/-! the law from its first instruction to its end -/
theorem x_sh20 : x_q20.2.1 = mz_sh := x_eS_ok (by decide +kernel)
set_option maxRecDepth 100000 in
theorem x_law {L : Nat} {xs : Nat → Int32} (hL : L ≤ 2048) : x_ok (L, xs) (fun v sh _ => v = some (.int 1) ∧ sh = mz_sh) x_q20 := by
  show mz_go (L, xs) 118 1246 [some (.ref 55), some (.int (Int32.ofNat 77)), some (.int (Int32.ofNat 109)), some (.int (Int32.ofNat 32))] [.ref 55] x_q20.2.1 (x_dm x_sE) (fun v sh m => mz_go (L, xs) 0 15 [some (.ref 350), some (.ref 0), none, none] (v.toList ++ [.ref 55]) sh m (fun v sh _ => v = some (.int 1) ∧ sh = mz_sh))
  rw [x_sh20]
  refine mz_go_call mz_m118 mz_m130 rfl rfl rfl rfl rfl rfl rfl (x_s_ms (Q := fun m => z_rel m) x_tbE x_mz (fun W => x_rel W)) (fun v sh m hv => ?_)
  obtain ⟨rfl, rfl, hm⟩ := hv
  refine mz_go_ret mz_m118 (q := (.return_, 1, 0, 0, .null)) (v := none) rfl rfl rfl ?_
  refine mz_go_blk mz_m0 3 rfl rfl rfl ?_
  have h := s_L_law (xs := xs) (Q := fun r _ => r = 1) hL (fun _ => rfl) L 0 m (by omega) (by omega) hm
  exact mz_go.mono h (fun v sh' m' hq => by
    obtain ⟨r, e1, e2, e3⟩ := hq
    subst e3
    exact ⟨e1, e2⟩)
