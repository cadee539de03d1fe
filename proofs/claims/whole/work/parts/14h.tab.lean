set_option maxRecDepth 100000 in
theorem mz_g161 : mz_Good mz_m161 := mz_good_of [1139, 1139, 1138] (by decide +kernel) (by decide +kernel) (by decide +kernel) (by decide +kernel)
set_option maxRecDepth 100000 in
theorem mz_g162 : mz_Good mz_m162 := mz_good_of [1147, 1156, 1148, 1149, 1150, 1151, 1152, 1153] (by decide +kernel) (by decide +kernel) (by decide +kernel) (by decide +kernel)
set_option maxRecDepth 100000 in
theorem mz_g163 : mz_Good mz_m163 := mz_good_of [1158, 1160, 1159, 1160, 1160, 1160, 1160] (by decide +kernel) (by decide +kernel) (by decide +kernel) (by decide +kernel)
set_option maxRecDepth 100000 in
theorem mz_g164 : mz_Good mz_m164 := mz_good_of [1148, 1164, 1160, 1162, 1163, 1443, 1445, 89, 117, 1443, 1445, 89, 117, 1443, 1445, 89, 117, 1163, 1443, 1445, 89, 117, 1159, 1160, 1164, 1443, 1445, 89, 117, 1159, 1163, 1160] (by decide +kernel) (by decide +kernel) (by decide +kernel) (by decide +kernel)
set_option maxRecDepth 100000 in
theorem mz_g165 : mz_Good mz_m165 := mz_good_of [1164, 1443, 1445, 89, 117, 1159, 1163, 1160, 1162, 1159, 1159, 1160] (by decide +kernel) (by decide +kernel) (by decide +kernel) (by decide +kernel)
set_option maxRecDepth 100000 in
theorem mz_g166 : mz_Good mz_m166 := mz_good_of [1443, 1445, 89, 117, 1443, 1445, 89, 117, 1159, 1163, 1160, 1443, 1445, 89, 117, 1159, 1160] (by decide +kernel) (by decide +kernel) (by decide +kernel) (by decide +kernel)
set_option maxRecDepth 100000 in
theorem mz_g167 : mz_Good mz_m167 := mz_good_of [1148, 1148, 1423, 1425, 87, 117, 1148, 1130, 1149, 1443, 1445, 89, 117, 1443, 1445, 89, 117, 1159, 1150, 1164, 1163, 1160, 1451, 1453, 91, 117, 1162, 1162, 1443, 1445, 89, 117, 1164, 1443, 1445, 89, 117, 1443, 1445, 89, 117, 1159, 1163, 1160, 1455, 1457, 92, 117, 1130, 1149, 1443, 1445, 89, 117, 1130, 1149, 1443, 1445, 89, 117, 1148, 1459, 1460, 117, 1443, 1445, 89, 117] (by decide +kernel) (by decide +kernel) (by decide +kernel) (by decide +kernel)
set_option maxRecDepth 100000 in
theorem mz_g168 : mz_Good mz_m168 := mz_good_of [] (by decide +kernel) (by decide +kernel) (by decide +kernel) (by decide +kernel)
set_option maxRecDepth 100000 in
theorem mz_g169 : mz_Good mz_m169 := mz_good_of [1147, 1160, 1161, 1152, 1161, 1439, 1441, 88, 117, 1161, 1161, 1152, 1447, 1449, 90, 117, 1154, 1155, 1443, 1445, 89, 117, 1157, 1160] (by decide +kernel) (by decide +kernel) (by decide +kernel) (by decide +kernel)
set_option maxRecDepth 100000 in
theorem mz_g170 : mz_Good mz_m170 := mz_good_of [1157, 1160, 1158, 1159] (by decide +kernel) (by decide +kernel) (by decide +kernel) (by decide +kernel)
set_option maxRecDepth 100000 in
theorem mz_g171 : mz_Good mz_m171 := mz_good_of [1165, 1165] (by decide +kernel) (by decide +kernel) (by decide +kernel) (by decide +kernel)
set_option maxRecDepth 100000 in
theorem mz_g172 : mz_Good mz_m172 := mz_good_of [1169, 1171, 1172, 1173, 1174, 1168, 1166, 1165] (by decide +kernel) (by decide +kernel) (by decide +kernel) (by decide +kernel)
set_option maxRecDepth 100000 in
theorem mz_g173 : mz_Good mz_m173 := mz_good_of [1172, 1171, 1172, 1172, 1173] (by decide +kernel) (by decide +kernel) (by decide +kernel) (by decide +kernel)
set_option maxRecDepth 100000 in
theorem mz_g174 : mz_Good mz_m174 := mz_good_of [1167, 1168, 1168, 1168] (by decide +kernel) (by decide +kernel) (by decide +kernel) (by decide +kernel)
set_option maxRecDepth 100000 in
theorem mz_g175 : mz_Good mz_m175 := mz_good_of [1168, 1168, 1167, 1168] (by decide +kernel) (by decide +kernel) (by decide +kernel) (by decide +kernel)
set_option maxRecDepth 100000 in
theorem mz_g176 : mz_Good mz_m176 := mz_good_of [1174, 1175, 1174, 1174, 1174] (by decide +kernel) (by decide +kernel) (by decide +kernel) (by decide +kernel)
set_option maxRecDepth 100000 in
theorem mz_g177 : mz_Good mz_m177 := mz_good_of [] (by decide +kernel) (by decide +kernel) (by decide +kernel) (by decide +kernel)
set_option maxRecDepth 100000 in
theorem mz_g178 : mz_Good mz_m178 := mz_good_of [1511, 1512, 117, 1511, 1512, 117] (by decide +kernel) (by decide +kernel) (by decide +kernel) (by decide +kernel)
set_option maxRecDepth 100000 in
theorem mz_g179 : mz_Good mz_m179 := mz_good_of [1487, 1489, 96, 117, 1487, 1489, 96, 117, 1522, 1523, 117, 1514, 1516, 102, 117] (by decide +kernel) (by decide +kernel) (by decide +kernel) (by decide +kernel)
set_option maxRecDepth 100000 in
theorem mz_g180 : mz_Good mz_m180 := mz_good_of [1161, 1152, 1487, 1489, 96, 117, 1148, 1153, 1511, 1512, 117, 1514, 1516, 102, 117] (by decide +kernel) (by decide +kernel) (by decide +kernel) (by decide +kernel)
set_option maxRecDepth 100000 in
theorem mz_g181 : mz_Good mz_m181 := mz_good_of [1161, 1152, 1161, 1154, 1152, 1487, 1489, 96, 117, 1150, 1153] (by decide +kernel) (by decide +kernel) (by decide +kernel) (by decide +kernel)
set_option maxRecDepth 100000 in
theorem mz_g182 : mz_Good mz_m182 := mz_good_of [1161, 1487, 1489, 96, 117, 1153, 1161, 1503, 1505, 100, 117, 1152] (by decide +kernel) (by decide +kernel) (by decide +kernel) (by decide +kernel)
set_option maxRecDepth 100000 in
theorem mz_g183 : mz_Good mz_m183 := mz_good_of [1148, 1161, 1152, 1154, 1162, 1161, 1152, 1166, 1130, 1149, 1487, 1489, 96, 117, 1487, 1489, 96, 117, 1491, 1493, 97, 117, 1495, 1497, 98, 117, 1499, 1501, 99, 117, 1507, 1509, 101, 117, 1161, 1152, 1487, 1489, 96, 117, 1511, 1512, 117, 1487, 1489, 96, 117, 1514, 1516, 102, 117, 1166, 1130, 1149, 1514, 1516, 102, 117, 1130, 1149, 1514, 1516, 102, 117, 1161, 1152, 1161, 1153, 1518, 1520, 103, 117] (by decide +kernel) (by decide +kernel) (by decide +kernel) (by decide +kernel)
set_option maxRecDepth 100000 in
theorem mz_g184 : mz_Good mz_m184 := mz_good_of [1161, 1148, 1423, 1425, 87, 117, 1148, 1423, 1425, 87, 117, 1161, 1483, 1485, 95, 117, 1483, 1485, 95, 117, 1148, 1503, 1505, 100, 117, 1162, 1161, 1155, 1161] (by decide +kernel) (by decide +kernel) (by decide +kernel) (by decide +kernel)
