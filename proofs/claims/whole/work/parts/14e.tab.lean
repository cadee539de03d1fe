set_option maxRecDepth 100000 in
theorem mz_g115 : mz_Good mz_m115 := mz_good_of [520, 427, 520, 1057, 959, 960, 114] (by decide +kernel) (by decide +kernel) (by decide +kernel) (by decide +kernel)
set_option maxRecDepth 100000 in
theorem mz_g116 : mz_Good mz_m116 := mz_good_of [512, 157, 558, 560, 15, 107] (by decide +kernel) (by decide +kernel) (by decide +kernel) (by decide +kernel)
set_option maxRecDepth 100000 in
theorem mz_g117 : mz_Good mz_m117 := mz_good_of [516, 518] (by decide +kernel) (by decide +kernel) (by decide +kernel) (by decide +kernel)
set_option maxRecDepth 100000 in
theorem mz_h118_0 : ((mz_t118.drop 0).take 70).all (fun e => decide (decode mz_m118.2.1 e.1 = .ok (e.2.1, e.2.2.1))) = true := by decide +kernel
set_option maxRecDepth 100000 in
theorem mz_h118_70 : ((mz_t118.drop 70).take 70).all (fun e => decide (decode mz_m118.2.1 e.1 = .ok (e.2.1, e.2.2.1))) = true := by decide +kernel
set_option maxRecDepth 100000 in
theorem mz_h118_140 : ((mz_t118.drop 140).take 70).all (fun e => decide (decode mz_m118.2.1 e.1 = .ok (e.2.1, e.2.2.1))) = true := by decide +kernel
set_option maxRecDepth 100000 in
theorem mz_h118_210 : ((mz_t118.drop 210).take 70).all (fun e => decide (decode mz_m118.2.1 e.1 = .ok (e.2.1, e.2.2.1))) = true := by decide +kernel
set_option maxRecDepth 100000 in
theorem mz_h118_280 : ((mz_t118.drop 280).take 70).all (fun e => decide (decode mz_m118.2.1 e.1 = .ok (e.2.1, e.2.2.1))) = true := by decide +kernel
set_option maxRecDepth 100000 in
theorem mz_h118_350 : ((mz_t118.drop 350).take 70).all (fun e => decide (decode mz_m118.2.1 e.1 = .ok (e.2.1, e.2.2.1))) = true := by decide +kernel
set_option maxRecDepth 100000 in
theorem mz_h118_420 : ((mz_t118.drop 420).take 70).all (fun e => decide (decode mz_m118.2.1 e.1 = .ok (e.2.1, e.2.2.1))) = true := by decide +kernel
set_option maxRecDepth 100000 in
theorem mz_h118_490 : ((mz_t118.drop 490).take 70).all (fun e => decide (decode mz_m118.2.1 e.1 = .ok (e.2.1, e.2.2.1))) = true := by decide +kernel
set_option maxRecDepth 100000 in
theorem mz_h118_560 : ((mz_t118.drop 560).take 70).all (fun e => decide (decode mz_m118.2.1 e.1 = .ok (e.2.1, e.2.2.1))) = true := by decide +kernel
set_option maxRecDepth 100000 in
theorem mz_h118_630 : ((mz_t118.drop 630).take 70).all (fun e => decide (decode mz_m118.2.1 e.1 = .ok (e.2.1, e.2.2.1))) = true := by decide +kernel
set_option maxRecDepth 100000 in
theorem mz_h118_700 : ((mz_t118.drop 700).take 70).all (fun e => decide (decode mz_m118.2.1 e.1 = .ok (e.2.1, e.2.2.1))) = true := by decide +kernel
set_option maxRecDepth 100000 in
theorem mz_h118_770 : ((mz_t118.drop 770).take 70).all (fun e => decide (decode mz_m118.2.1 e.1 = .ok (e.2.1, e.2.2.1))) = true := by decide +kernel
set_option maxRecDepth 100000 in
theorem mz_h118 : (mz_t118.drop 0).all (fun e => decide (decode mz_m118.2.1 e.1 = .ok (e.2.1, e.2.2.1))) = true := mz_split 0 mz_h118_0 (mz_split 70 mz_h118_70 (mz_split 140 mz_h118_140 (mz_split 210 mz_h118_210 (mz_split 280 mz_h118_280 (mz_split 350 mz_h118_350 (mz_split 420 mz_h118_420 (mz_split 490 mz_h118_490 (mz_split 560 mz_h118_560 (mz_split 630 mz_h118_630 (mz_split 700 mz_h118_700 (mz_split 770 mz_h118_770 (rfl))))))))))))
set_option maxRecDepth 100000 in
theorem mz_g118 : mz_Good mz_m118 := mz_good_of [1063, 132, 185, 1113, 185, 1114, 185, 1115, 185, 1116, 185, 1117, 1303, 1118, 185, 1119, 1303, 1121, 1303, 1122, 1303, 1123, 185, 1124, 185, 1127, 185, 1128, 185, 1129, 185, 1130, 185, 1132, 185, 1133, 185, 1135, 185, 1136, 1064, 185, 1138, 185, 1140, 185, 1141, 185, 1142, 185, 1143, 185, 1144, 185, 1145, 185, 1148, 185, 1149, 185, 1150, 185, 1151, 185, 1152, 185, 1153, 185, 1154, 185, 1155, 1065, 185, 1158, 1065, 185, 1159, 185, 1161, 185, 1162, 185, 1163, 185, 1164, 185, 1165, 185, 1166, 185, 1167, 185, 1175, 1116, 1117, 1114, 1114, 1117, 1066, 1068, 56, 117, 1077, 1079, 58, 117, 1089, 1091, 61, 117] mz_h118 (by decide +kernel) (by decide +kernel) (by decide +kernel)
