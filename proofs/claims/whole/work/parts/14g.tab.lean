set_option maxRecDepth 100000 in
theorem mz_g143 : mz_Good mz_m143 := mz_good_of [1324, 1326, 69, 117, 1332, 1333, 117, 1335, 1337, 71, 117, 1339, 1340, 117, 1324, 1326, 69, 117, 1339, 1340, 117, 1324, 1326, 69, 117, 1356, 1358, 74, 117, 1324, 1326, 69, 117, 1360, 1361, 117, 1356, 1358, 74, 117] (by decide +kernel) (by decide +kernel) (by decide +kernel) (by decide +kernel)
set_option maxRecDepth 100000 in
theorem mz_g144 : mz_Good mz_m144 := mz_good_of [1308, 1310, 67, 117, 1169, 1131, 1134, 1320, 1322, 68, 117, 1125, 1328, 1330, 70, 117, 1129, 1131, 1320, 1322, 68, 117, 1127, 1131, 1128, 1131, 1125, 1129, 1131, 1130, 1131, 1126, 1131] (by decide +kernel) (by decide +kernel) (by decide +kernel) (by decide +kernel)
set_option maxRecDepth 100000 in
theorem mz_g145 : mz_Good mz_m145 := mz_good_of [1126, 1131, 1127, 1128, 1129, 1130] (by decide +kernel) (by decide +kernel) (by decide +kernel) (by decide +kernel)
set_option maxRecDepth 100000 in
theorem mz_g146 : mz_Good mz_m146 := mz_good_of [1126, 1134] (by decide +kernel) (by decide +kernel) (by decide +kernel) (by decide +kernel)
set_option maxRecDepth 100000 in
theorem mz_g147 : mz_Good mz_m147 := mz_good_of [1140, 1146, 1141, 1146, 1142, 1146, 1143, 1146, 1144, 1146, 1145, 1146, 1146, 1146, 1146] (by decide +kernel) (by decide +kernel) (by decide +kernel) (by decide +kernel)
set_option maxRecDepth 100000 in
theorem mz_g148 : mz_Good mz_m148 := mz_good_of [1145, 1142, 1142, 1144, 1143, 1143] (by decide +kernel) (by decide +kernel) (by decide +kernel) (by decide +kernel)
set_option maxRecDepth 100000 in
theorem mz_g149 : mz_Good mz_m149 := mz_good_of [1136, 1137] (by decide +kernel) (by decide +kernel) (by decide +kernel) (by decide +kernel)
set_option maxRecDepth 100000 in
theorem mz_g150 : mz_Good mz_m150 := mz_good_of [1399, 1401, 81, 117, 1403, 1405, 82, 117] (by decide +kernel) (by decide +kernel) (by decide +kernel) (by decide +kernel)
set_option maxRecDepth 100000 in
theorem mz_g151 : mz_Good mz_m151 := mz_good_of [1391, 1393, 79, 117, 1399, 1401, 81, 117, 1391, 1393, 79, 117, 1403, 1405, 82, 117, 1391, 1393, 79, 117, 1403, 1405, 82, 117] (by decide +kernel) (by decide +kernel) (by decide +kernel) (by decide +kernel)
set_option maxRecDepth 100000 in
theorem mz_g152 : mz_Good mz_m152 := mz_good_of [1114, 1391, 1393, 79, 117, 1391, 1393, 79, 117, 1395, 1397, 80, 117, 1391, 1393, 79, 117, 1391, 1393, 79, 117, 1395, 1397, 80, 117, 1391, 1393, 79, 117, 1399, 1401, 81, 117, 1391, 1393, 79, 117, 1403, 1405, 82, 117, 1391, 1393, 79, 117, 1403, 1405, 82, 117, 1391, 1393, 79, 117, 1403, 1405, 82, 117, 1391, 1393, 79, 117, 1399, 1401, 81, 117, 1391, 1393, 79, 117, 1399, 1401, 81, 117] (by decide +kernel) (by decide +kernel) (by decide +kernel) (by decide +kernel)
set_option maxRecDepth 100000 in
theorem mz_g153 : mz_Good mz_m153 := mz_good_of [1114, 1387, 1389, 78, 117, 1399, 1401, 81, 117, 1391, 1393, 79, 117, 1391, 1393, 79, 117, 1403, 1405, 82, 117, 1391, 1393, 79, 117, 1141, 1391, 1393, 79, 117, 1391, 1393, 79, 117, 1391, 1393, 79, 117, 1407, 1409, 83, 117, 1407, 1409, 83, 117, 1407, 1409, 83, 117, 1407, 1409, 83, 117, 1407, 1409, 83, 117, 1391, 1393, 79, 117, 1391, 1393, 79, 117, 1395, 1397, 80, 117, 1391, 1393, 79, 117, 1399, 1401, 81, 117, 1391, 1393, 79, 117, 1391, 1393, 79, 117] (by decide +kernel) (by decide +kernel) (by decide +kernel) (by decide +kernel)
set_option maxRecDepth 100000 in
theorem mz_g154 : mz_Good mz_m154 := mz_good_of [1118, 1117, 1114, 1123, 1113] (by decide +kernel) (by decide +kernel) (by decide +kernel) (by decide +kernel)
set_option maxRecDepth 100000 in
theorem mz_g155 : mz_Good mz_m155 := mz_good_of [1137, 1135, 1139, 1146, 1135, 1137, 1127, 1119, 1135, 1137, 1136, 1137, 1137, 1137, 1379, 1381, 76, 117, 1118, 1138, 1139, 1139, 1139, 1383, 1385, 77, 117, 1137, 1114, 1137, 1135, 1137, 1119, 1135, 1137, 1113, 1136, 1137, 1137, 1137] (by decide +kernel) (by decide +kernel) (by decide +kernel) (by decide +kernel)
set_option maxRecDepth 100000 in
theorem mz_g156 : mz_Good mz_m156 := mz_good_of [1156, 1156, 1156, 1156, 1148, 1140, 1149, 1141, 1150, 1152, 1153, 1154, 1155, 1150, 1152, 1152, 1154, 1153, 1153, 1142, 1142, 1144, 1145, 1155, 1144] (by decide +kernel) (by decide +kernel) (by decide +kernel) (by decide +kernel)
set_option maxRecDepth 100000 in
theorem mz_g157 : mz_Good mz_m157 := mz_good_of [1156, 1151, 1152, 1151, 1151, 1151, 1151, 1151, 1154, 1151] (by decide +kernel) (by decide +kernel) (by decide +kernel) (by decide +kernel)
set_option maxRecDepth 100000 in
theorem mz_g158 : mz_Good mz_m158 := mz_good_of [1155, 1148, 1155] (by decide +kernel) (by decide +kernel) (by decide +kernel) (by decide +kernel)
set_option maxRecDepth 100000 in
theorem mz_g159 : mz_Good mz_m159 := mz_good_of [1156, 1148, 1148, 1423, 1425, 87, 117, 1149, 1149] (by decide +kernel) (by decide +kernel) (by decide +kernel) (by decide +kernel)
set_option maxRecDepth 100000 in
theorem mz_g160 : mz_Good mz_m160 := mz_good_of [1126, 1147, 1157, 1375, 1377, 75, 117, 1136, 1137, 1411, 1413, 84, 117, 1415, 1417, 85, 117, 1419, 1421, 86, 117, 1147, 1156] (by decide +kernel) (by decide +kernel) (by decide +kernel) (by decide +kernel)
