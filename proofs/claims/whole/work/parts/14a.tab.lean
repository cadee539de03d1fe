theorem mz_at_mem {pc : Nat} {q : Instr × Nat × Nat × Nat × Value} : ∀ (t : List mz_E), mz_at t pc = some q → (pc, q) ∈ t := by
  intro t
  induction t with
  | nil => intro h; cases h
  | cons e t ih =>
    intro h
    simp only [mz_at] at h
    cases hb : Nat.beq e.1 pc with
    | true =>
      rw [hb] at h
      simp only [cond_true, Option.some.injEq] at h
      have h1 := Nat.eq_of_beq_eq_true hb
      rw [← h1, ← h]
      exact List.mem_cons_self
    | false =>
      rw [hb] at h
      exact List.mem_cons_of_mem _ (ih h)
theorem mz_split {α : Type} {f : α → Bool} {l : List α} (k : Nat) {n : Nat} (h1 : ((l.drop k).take n).all f = true) (h2 : (l.drop (k + n)).all f = true) : (l.drop k).all f = true := by
  have e : l.drop k = (l.drop k).take n ++ l.drop (k + n) := by
    rw [← List.drop_drop, List.take_append_drop]
  rw [e, List.all_append, h1, h2]
  rfl
theorem mz_good_of {M : mz_D} (ps : List Nat) (h1 : (M.2.2.2.2.2.2.all (fun e => decide (decode M.2.1 e.1 = .ok (e.2.1, e.2.2.1)))) = true) (h2 : M.2.2.2.2.2.2.all (fun e => (Nat.beq (mz_ln e.2.1) 0 || Nat.beq e.2.2.1 (mz_ln e.2.1)) && mz_ck M e.1 e.2.1 e.2.2.2.1 e.2.2.2.2.1 e.2.2.2.2.2) = true) (h3 : M.2.2.2.2.2.2.flatMap (fun e => mz_wd M.1.cls e.2.1 e.2.2.2.1 e.2.2.2.2.1 e.2.2.2.2.2) = ps.filterMap (fun k => lw_tbl[k]?)) (h4 : (M.2.2.2.2.2.2.flatMap (fun e => mz_wd M.1.cls e.2.1 e.2.2.2.1 e.2.2.2.2.1 e.2.2.2.2.2)).all goodWord = true) : mz_Good M := by
  intro pc ins len r1 r2 val hat
  have hm := mz_at_mem _ hat
  have g1 := List.all_eq_true.mp h1 _ hm
  have g2 := List.all_eq_true.mp h2 _ hm
  simp only [decide_eq_true_eq] at g1
  simp only [Bool.and_eq_true, Bool.or_eq_true] at g2
  refine ⟨g1, ?_, g2.2, fun w hw => ?_⟩
  · rcases g2.1 with h | h
    · exact Or.inl (Nat.eq_of_beq_eq_true h)
    · exact Or.inr (Nat.eq_of_beq_eq_true h)
  · have h5 : w ∈ M.2.2.2.2.2.2.flatMap (fun e => mz_wd M.1.cls e.2.1 e.2.2.2.1 e.2.2.2.2.1 e.2.2.2.2.2) := List.mem_flatMap.mpr ⟨_, hm, hw⟩
    have h6 := List.all_eq_true.mp h4 w h5
    rw [h3] at h5
    obtain ⟨k, -, hk⟩ := List.mem_filterMap.mp h5
    exact mz_lw_of (List.mem_of_getElem? hk) h6
set_option maxRecDepth 100000 in
theorem mz_h0_0 : ((mz_t0.drop 0).take 70).all (fun e => decide (decode mz_m0.2.1 e.1 = .ok (e.2.1, e.2.2.1))) = true := by decide +kernel
set_option maxRecDepth 100000 in
theorem mz_h0_70 : ((mz_t0.drop 70).take 70).all (fun e => decide (decode mz_m0.2.1 e.1 = .ok (e.2.1, e.2.2.1))) = true := by decide +kernel
set_option maxRecDepth 100000 in
theorem mz_h0_140 : ((mz_t0.drop 140).take 70).all (fun e => decide (decode mz_m0.2.1 e.1 = .ok (e.2.1, e.2.2.1))) = true := by decide +kernel
set_option maxRecDepth 100000 in
theorem mz_h0_210 : ((mz_t0.drop 210).take 70).all (fun e => decide (decode mz_m0.2.1 e.1 = .ok (e.2.1, e.2.2.1))) = true := by decide +kernel
set_option maxRecDepth 100000 in
theorem mz_h0_280 : ((mz_t0.drop 280).take 70).all (fun e => decide (decode mz_m0.2.1 e.1 = .ok (e.2.1, e.2.2.1))) = true := by decide +kernel
set_option maxRecDepth 100000 in
theorem mz_h0 : (mz_t0.drop 0).all (fun e => decide (decode mz_m0.2.1 e.1 = .ok (e.2.1, e.2.2.1))) = true := mz_split 0 mz_h0_0 (mz_split 70 mz_h0_70 (mz_split 140 mz_h0_140 (mz_split 210 mz_h0_210 (mz_split 280 mz_h0_280 (rfl)))))
set_option maxRecDepth 100000 in
theorem mz_g0 : mz_Good mz_m0 := mz_good_of [126, 127, 107, 128, 129, 107, 1058, 1059, 117, 1060, 1061, 117, 1549, 550, 551, 552, 107, 1549, 1304, 1305, 1306, 117, 562, 563, 564, 107, 1312, 1313, 1314, 117, 573, 574, 575, 107, 1316, 1317, 1318, 117, 753, 754, 755, 107, 1363, 1364, 1365, 117, 757, 758, 759, 107, 1367, 1368, 1369, 117, 761, 762, 763, 107, 1371, 1372, 1373, 117, 843, 844, 845, 107, 1427, 1428, 1429, 117, 847, 848, 849, 107, 1431, 1432, 1433, 117, 856, 857, 858, 107, 1435, 1436, 1437, 117, 911, 912, 913, 107, 1462, 1463, 1464, 117, 915, 916, 917, 107, 1466, 1467, 1468, 117, 919, 920, 921, 107, 1470, 1471, 1472, 117, 1008, 1009, 1010, 107, 1525, 1526, 1527, 117, 1041, 1042, 1043, 107, 1537, 1538, 1539, 117, 1045, 1046, 1047, 107, 1541, 1542, 1543, 117, 1053, 1054, 1055, 107, 1545, 1546, 1547, 117] mz_h0 (by decide +kernel) (by decide +kernel) (by decide +kernel)
set_option maxRecDepth 100000 in
theorem mz_g1 : mz_Good mz_m1 := mz_good_of [397, 132, 185, 398, 185, 401, 404, 185, 407, 185, 408] (by decide +kernel) (by decide +kernel) (by decide +kernel) (by decide +kernel)
set_option maxRecDepth 100000 in
theorem mz_g2 : mz_Good mz_m2 := mz_good_of [909, 909] (by decide +kernel) (by decide +kernel) (by decide +kernel) (by decide +kernel)
set_option maxRecDepth 100000 in
theorem mz_g3 : mz_Good mz_m3 := mz_good_of [219, 864, 866, 33, 113, 407, 219, 871, 873, 34, 113, 877, 879, 35, 113, 408, 889, 891, 38, 113, 408, 404] (by decide +kernel) (by decide +kernel) (by decide +kernel) (by decide +kernel)
set_option maxRecDepth 100000 in
theorem mz_g4 : mz_Good mz_m4 := mz_good_of [868, 200, 200, 210, 210, 219, 408, 870, 829, 830, 110, 408] (by decide +kernel) (by decide +kernel) (by decide +kernel) (by decide +kernel)
set_option maxRecDepth 100000 in
theorem mz_g5 : mz_Good mz_m5 := mz_good_of [407, 210, 219, 407, 408, 875, 200, 870, 829, 830, 110] (by decide +kernel) (by decide +kernel) (by decide +kernel) (by decide +kernel)
set_option maxRecDepth 100000 in
theorem mz_g6 : mz_Good mz_m6 := mz_good_of [200, 881, 883, 36, 113, 897, 899, 40, 113, 901, 903, 41, 113, 905, 907, 42, 113, 407, 378, 893, 895, 39, 113, 889, 891, 38, 113, 407, 378, 885, 887, 37, 113, 889, 891, 38, 113, 893, 895, 39, 113, 909, 200, 150, 206, 889, 891, 38, 113, 893, 895, 39, 113, 909, 200, 889, 891, 38, 113] (by decide +kernel) (by decide +kernel) (by decide +kernel) (by decide +kernel)
set_option maxRecDepth 100000 in
theorem mz_g7 : mz_Good mz_m7 := mz_good_of [870, 829, 830, 110, 210, 870, 829, 830, 110, 885, 887, 37, 113, 885, 887, 37, 113, 889, 891, 38, 113, 893, 895, 39, 113, 889, 891, 38, 113, 885, 887, 37, 113, 893, 895, 39, 113, 889, 891, 38, 113] (by decide +kernel) (by decide +kernel) (by decide +kernel) (by decide +kernel)
set_option maxRecDepth 100000 in
theorem mz_g8 : mz_Good mz_m8 := mz_good_of [893, 895, 39, 113, 893, 895, 39, 113, 889, 891, 38, 113, 893, 895, 39, 113, 407, 889, 891, 38, 113] (by decide +kernel) (by decide +kernel) (by decide +kernel) (by decide +kernel)
set_option maxRecDepth 100000 in
theorem mz_g9 : mz_Good mz_m9 := mz_good_of [893, 895, 39, 113, 893, 895, 39, 113, 889, 891, 38, 113, 889, 891, 38, 113, 889, 891, 38, 113, 889, 891, 38, 113] (by decide +kernel) (by decide +kernel) (by decide +kernel) (by decide +kernel)
set_option maxRecDepth 100000 in
theorem mz_g10 : mz_Good mz_m10 := mz_good_of [893, 895, 39, 113, 893, 895, 39, 113, 889, 891, 38, 113, 889, 891, 38, 113, 889, 891, 38, 113, 889, 891, 38, 113] (by decide +kernel) (by decide +kernel) (by decide +kernel) (by decide +kernel)
set_option maxRecDepth 100000 in
theorem mz_g11 : mz_Good mz_m11 := mz_good_of [407] (by decide +kernel) (by decide +kernel) (by decide +kernel) (by decide +kernel)
set_option maxRecDepth 100000 in
theorem mz_g12 : mz_Good mz_m12 := mz_good_of [407, 408] (by decide +kernel) (by decide +kernel) (by decide +kernel) (by decide +kernel)
set_option maxRecDepth 100000 in
theorem mz_g13 : mz_Good mz_m13 := mz_good_of [398, 401] (by decide +kernel) (by decide +kernel) (by decide +kernel) (by decide +kernel)
set_option maxRecDepth 100000 in
theorem mz_g14 : mz_Good mz_m14 := mz_good_of [496, 132, 185, 499, 500, 497, 498] (by decide +kernel) (by decide +kernel) (by decide +kernel) (by decide +kernel)
set_option maxRecDepth 100000 in
theorem mz_g15 : mz_Good mz_m15 := mz_good_of [500, 498, 433, 498, 1016, 937, 938, 114, 497, 405, 498, 1017, 946, 947, 114, 497, 399, 497, 402, 1018, 1020, 52, 116] (by decide +kernel) (by decide +kernel) (by decide +kernel) (by decide +kernel)
set_option maxRecDepth 100000 in
theorem mz_g16 : mz_Good mz_m16 := mz_good_of [1022, 1024, 53, 116, 498, 1026, 959, 960, 114, 1022, 1024, 53, 116, 498, 1027, 1029, 54, 116, 1031, 1001, 1002, 114, 1027, 1029, 54, 116, 498, 1027, 1029, 54, 116, 1032, 1005, 1006, 114, 498, 430, 1033, 1035, 55, 116] (by decide +kernel) (by decide +kernel) (by decide +kernel) (by decide +kernel)
set_option maxRecDepth 100000 in
theorem mz_g17 : mz_Good mz_m17 := mz_good_of [1027, 1029, 54, 116, 1037, 1038, 116, 1027, 1029, 54, 116, 498, 1040, 973, 974, 114, 1022, 1024, 53, 116] (by decide +kernel) (by decide +kernel) (by decide +kernel) (by decide +kernel)
set_option maxRecDepth 100000 in
theorem mz_g18 : mz_Good mz_m18 := mz_good_of [] (by decide +kernel) (by decide +kernel) (by decide +kernel) (by decide +kernel)
set_option maxRecDepth 100000 in
theorem mz_g19 : mz_Good mz_m19 := mz_good_of [500, 499, 500, 500, 500] (by decide +kernel) (by decide +kernel) (by decide +kernel) (by decide +kernel)
set_option maxRecDepth 100000 in
theorem mz_g20 : mz_Good mz_m20 := mz_good_of [500, 500, 500, 499, 500] (by decide +kernel) (by decide +kernel) (by decide +kernel) (by decide +kernel)
set_option maxRecDepth 100000 in
theorem mz_g21 : mz_Good mz_m21 := mz_good_of [191, 132, 185, 343, 345, 192, 193, 110, 195, 110, 347, 237, 238, 111, 239, 240, 111, 349, 185, 350, 185, 351, 352] (by decide +kernel) (by decide +kernel) (by decide +kernel) (by decide +kernel)
