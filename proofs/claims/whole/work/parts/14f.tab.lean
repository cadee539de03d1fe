set_option maxRecDepth 100000 in
theorem mz_g119 : mz_Good mz_m119 := mz_good_of [] (by decide +kernel) (by decide +kernel) (by decide +kernel) (by decide +kernel)
set_option maxRecDepth 100000 in
theorem mz_g120 : mz_Good mz_m120 := mz_good_of [1122, 1123, 1122, 1123, 1122] (by decide +kernel) (by decide +kernel) (by decide +kernel) (by decide +kernel)
set_option maxRecDepth 100000 in
theorem mz_g121 : mz_Good mz_m121 := mz_good_of [1114, 1115, 1116, 1113, 1070, 1072, 57, 117, 1074, 1075, 117] (by decide +kernel) (by decide +kernel) (by decide +kernel) (by decide +kernel)
set_option maxRecDepth 100000 in
theorem mz_g122 : mz_Good mz_m122 := mz_good_of [1123, 1123, 1123] (by decide +kernel) (by decide +kernel) (by decide +kernel) (by decide +kernel)
set_option maxRecDepth 100000 in
theorem mz_g123 : mz_Good mz_m123 := mz_good_of [1115, 1116, 1114, 1115, 1116, 1070, 1072, 57, 117, 1074, 1075, 117, 1113, 1085, 1087, 60, 117] (by decide +kernel) (by decide +kernel) (by decide +kernel) (by decide +kernel)
set_option maxRecDepth 100000 in
theorem mz_g124 : mz_Good mz_m124 := mz_good_of [1123, 1114, 1081, 1083, 59, 117] (by decide +kernel) (by decide +kernel) (by decide +kernel) (by decide +kernel)
set_option maxRecDepth 100000 in
theorem mz_g125 : mz_Good mz_m125 := mz_good_of [1114, 1115, 1116] (by decide +kernel) (by decide +kernel) (by decide +kernel) (by decide +kernel)
set_option maxRecDepth 100000 in
theorem mz_g126 : mz_Good mz_m126 := mz_good_of [1114, 1121, 1117, 1101, 1103, 64, 117, 1105, 1107, 65, 117] (by decide +kernel) (by decide +kernel) (by decide +kernel) (by decide +kernel)
set_option maxRecDepth 100000 in
theorem mz_g127 : mz_Good mz_m127 := mz_good_of [1113, 1121, 1117, 1121, 1117] (by decide +kernel) (by decide +kernel) (by decide +kernel) (by decide +kernel)
set_option maxRecDepth 100000 in
theorem mz_g128 : mz_Good mz_m128 := mz_good_of [1097, 1099, 63, 117, 1120, 1118, 1121, 1118, 1120, 1121, 1120, 1120, 1120] (by decide +kernel) (by decide +kernel) (by decide +kernel) (by decide +kernel)
set_option maxRecDepth 100000 in
theorem mz_g129 : mz_Good mz_m129 := mz_good_of [1121, 1114, 1118, 1117, 1101, 1103, 64, 117, 1121, 1117, 1093, 1095, 62, 117] (by decide +kernel) (by decide +kernel) (by decide +kernel) (by decide +kernel)
set_option maxRecDepth 100000 in
theorem mz_g130 : mz_Good mz_m130 := mz_good_of [1121, 1121, 1093, 1095, 62, 117, 1120, 1119, 1109, 1111, 66, 117] (by decide +kernel) (by decide +kernel) (by decide +kernel) (by decide +kernel)
set_option maxRecDepth 100000 in
theorem mz_g131 : mz_Good mz_m131 := mz_good_of [1126, 1147, 1157] (by decide +kernel) (by decide +kernel) (by decide +kernel) (by decide +kernel)
set_option maxRecDepth 100000 in
theorem mz_g132 : mz_Good mz_m132 := mz_good_of [1125, 1124, 1125, 1125, 1125, 1308, 1310, 67, 117, 1125] (by decide +kernel) (by decide +kernel) (by decide +kernel) (by decide +kernel)
set_option maxRecDepth 100000 in
theorem mz_g133 : mz_Good mz_m133 := mz_good_of [1125, 1125, 1308, 1310, 67, 117, 1165, 1169] (by decide +kernel) (by decide +kernel) (by decide +kernel) (by decide +kernel)
set_option maxRecDepth 100000 in
theorem mz_g134 : mz_Good mz_m134 := mz_good_of [1125, 1124] (by decide +kernel) (by decide +kernel) (by decide +kernel) (by decide +kernel)
set_option maxRecDepth 100000 in
theorem mz_g135 : mz_Good mz_m135 := mz_good_of [] (by decide +kernel) (by decide +kernel) (by decide +kernel) (by decide +kernel)
set_option maxRecDepth 100000 in
theorem mz_g136 : mz_Good mz_m136 := mz_good_of [] (by decide +kernel) (by decide +kernel) (by decide +kernel) (by decide +kernel)
set_option maxRecDepth 100000 in
theorem mz_g137 : mz_Good mz_m137 := mz_good_of [1324, 1326, 69, 117, 1125, 1124] (by decide +kernel) (by decide +kernel) (by decide +kernel) (by decide +kernel)
set_option maxRecDepth 100000 in
theorem mz_g138 : mz_Good mz_m138 := mz_good_of [1124, 1346, 1347, 1348, 1349, 1350, 1351] (by decide +kernel) (by decide +kernel) (by decide +kernel) (by decide +kernel)
set_option maxRecDepth 100000 in
theorem mz_g139 : mz_Good mz_m139 := mz_good_of [1134, 1133, 1124, 1132, 1124, 1134, 1132, 1134, 1133, 1134, 1134, 1134, 1134] (by decide +kernel) (by decide +kernel) (by decide +kernel) (by decide +kernel)
set_option maxRecDepth 100000 in
theorem mz_g140 : mz_Good mz_m140 := mz_good_of [] (by decide +kernel) (by decide +kernel) (by decide +kernel) (by decide +kernel)
set_option maxRecDepth 100000 in
theorem mz_g141 : mz_Good mz_m141 := mz_good_of [1127, 1131, 1128, 1131, 1129, 1131, 1130, 1131, 1131, 1131] (by decide +kernel) (by decide +kernel) (by decide +kernel) (by decide +kernel)
set_option maxRecDepth 100000 in
theorem mz_g142 : mz_Good mz_m142 := mz_good_of [1324, 1326, 69, 117, 1332, 1333, 117, 1324, 1326, 69, 117, 1339, 1340, 117, 1342, 1344, 72, 117, 1352, 1354, 73, 117, 1356, 1358, 74, 117] (by decide +kernel) (by decide +kernel) (by decide +kernel) (by decide +kernel)
