set_option maxRecDepth 100000 in
theorem mz_g185 : mz_Good mz_m185 := mz_good_of [1474, 1147, 1475, 1477, 93, 117, 1479, 1481, 94, 117, 1170, 1170] (by decide +kernel) (by decide +kernel) (by decide +kernel) (by decide +kernel)
set_option maxRecDepth 100000 in
theorem mz_g186 : mz_Good mz_m186 := mz_good_of [1158, 1159, 1518, 1520, 103, 117, 1514, 1516, 102, 117, 1166, 1514, 1516, 102, 117, 1166, 1487, 1489, 96, 117, 1487, 1489, 96, 117, 1514, 1516, 102, 117, 1487, 1489, 96, 117, 1511, 1512, 117, 1514, 1516, 102, 117, 1487, 1489, 96, 117, 1511, 1512, 117, 1514, 1516, 102, 117, 1487, 1489, 96, 117, 1487, 1489, 96, 117, 1491, 1493, 97, 117] (by decide +kernel) (by decide +kernel) (by decide +kernel) (by decide +kernel)
set_option maxRecDepth 100000 in
theorem mz_g187 : mz_Good mz_m187 := mz_good_of [1503, 1505, 100, 117, 1533, 1535, 105, 117] (by decide +kernel) (by decide +kernel) (by decide +kernel) (by decide +kernel)
set_option maxRecDepth 100000 in
theorem mz_g188 : mz_Good mz_m188 := mz_good_of [1474, 1157, 1475, 1477, 93, 117, 1529, 1531, 104, 117, 1170, 1170] (by decide +kernel) (by decide +kernel) (by decide +kernel) (by decide +kernel)
set_option maxRecDepth 100000 in
theorem mz_g189 : mz_Good mz_m189 := mz_good_of [1169, 1170, 1172, 1174, 1173] (by decide +kernel) (by decide +kernel) (by decide +kernel) (by decide +kernel)
set_option maxRecDepth 100000 in
theorem mz_g190 : mz_Good mz_m190 := mz_good_of [1169, 1174, 1175] (by decide +kernel) (by decide +kernel) (by decide +kernel) (by decide +kernel)
set_option maxRecDepth 100000 in
theorem mz_g191 : mz_Good mz_m191 := mz_good_of [1169, 1166] (by decide +kernel) (by decide +kernel) (by decide +kernel) (by decide +kernel)
set_option maxRecDepth 100000 in
theorem mz_g192 : mz_Good mz_m192 := mz_good_of [1550, 635, 636, 637, 119] (by decide +kernel) (by decide +kernel) (by decide +kernel) (by decide +kernel)
set_option maxRecDepth 100000 in
theorem mz_g193 : mz_Good mz_m193 := mz_good_of [645, 646, 647, 119, 1550, 649, 650, 120, 1550] (by decide +kernel) (by decide +kernel) (by decide +kernel) (by decide +kernel)
set_option maxRecDepth 100000 in
theorem mz_g194 : mz_Good mz_m194 := mz_good_of [696, 697, 698, 119] (by decide +kernel) (by decide +kernel) (by decide +kernel) (by decide +kernel)
set_option maxRecDepth 100000 in
theorem mz_g195 : mz_Good mz_m195 := mz_good_of [645, 646, 647, 119, 1550, 700, 632, 633, 119, 701, 702, 120, 1550, 700, 632, 633, 119] (by decide +kernel) (by decide +kernel) (by decide +kernel) (by decide +kernel)
set_option maxRecDepth 100000 in
theorem mz_g196 : mz_Good mz_m196 := mz_good_of [639, 1551] (by decide +kernel) (by decide +kernel) (by decide +kernel) (by decide +kernel)
set_option maxRecDepth 100000 in
theorem mz_g197 : mz_Good mz_m197 := mz_good_of [639, 1551] (by decide +kernel) (by decide +kernel) (by decide +kernel) (by decide +kernel)
set_option maxRecDepth 100000 in
theorem mz_g198 : mz_Good mz_m198 := mz_good_of [655, 657, 658, 121] (by decide +kernel) (by decide +kernel) (by decide +kernel) (by decide +kernel)
set_option maxRecDepth 100000 in
theorem mz_g199 : mz_Good mz_m199 := mz_good_of [652, 653, 119] (by decide +kernel) (by decide +kernel) (by decide +kernel) (by decide +kernel)
set_option maxRecDepth 100000 in
theorem mz_g200 : mz_Good mz_m200 := mz_good_of [] (by decide +kernel) (by decide +kernel) (by decide +kernel) (by decide +kernel)
set_option maxRecDepth 100000 in
theorem mz_g201 : mz_Good mz_m201 := mz_good_of [704, 705, 120, 707, 708, 123, 710, 711, 123, 713, 714, 120] (by decide +kernel) (by decide +kernel) (by decide +kernel) (by decide +kernel)
set_option maxRecDepth 100000 in
theorem mz_g202 : mz_Good mz_m202 := mz_good_of [] (by decide +kernel) (by decide +kernel) (by decide +kernel) (by decide +kernel)
set_option maxRecDepth 100000 in
theorem mz_g203 : mz_Good mz_m203 := mz_good_of [] (by decide +kernel) (by decide +kernel) (by decide +kernel) (by decide +kernel)
set_option maxRecDepth 100000 in
theorem mz_g204 : mz_Good mz_m204 := mz_good_of [] (by decide +kernel) (by decide +kernel) (by decide +kernel) (by decide +kernel)
