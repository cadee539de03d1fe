set_option maxRecDepth 100000 in
theorem mz_g85 : mz_Good mz_m85 := mz_good_of [221, 215, 208, 215, 221, 215] (by decide +kernel) (by decide +kernel) (by decide +kernel) (by decide +kernel)
set_option maxRecDepth 100000 in
theorem mz_g86 : mz_Good mz_m86 := mz_good_of [208, 855, 829, 830, 110] (by decide +kernel) (by decide +kernel) (by decide +kernel) (by decide +kernel)
set_option maxRecDepth 100000 in
theorem mz_g87 : mz_Good mz_m87 := mz_good_of [216, 215, 216] (by decide +kernel) (by decide +kernel) (by decide +kernel) (by decide +kernel)
set_option maxRecDepth 100000 in
theorem mz_g88 : mz_Good mz_m88 := mz_good_of [465, 132, 185, 470, 185, 471, 472, 473, 466, 467, 468, 469] (by decide +kernel) (by decide +kernel) (by decide +kernel) (by decide +kernel)
set_option maxRecDepth 100000 in
theorem mz_g89 : mz_Good mz_m89 := mz_good_of [467, 935, 836, 837, 112, 469, 434, 469, 936, 937, 938, 114, 467, 380, 940, 833, 112, 941, 943, 43, 115, 988, 990, 49, 115, 469, 936, 937, 938, 114, 469, 429] (by decide +kernel) (by decide +kernel) (by decide +kernel) (by decide +kernel)
set_option maxRecDepth 100000 in
theorem mz_g90 : mz_Good mz_m90 := mz_good_of [469, 945, 946, 947, 114, 467, 380, 949, 951, 44, 115, 473, 467, 466, 953, 829, 830, 110, 935, 836, 837, 112, 467, 984, 985, 986, 112] (by decide +kernel) (by decide +kernel) (by decide +kernel) (by decide +kernel)
set_option maxRecDepth 100000 in
theorem mz_g91 : mz_Good mz_m91 := mz_good_of [469, 945, 946, 947, 114, 467, 380, 466, 201, 940, 833, 112, 467, 467, 377, 984, 985, 986, 112, 467, 377, 940, 833, 112, 949, 951, 44, 115, 469, 936, 937, 938, 114, 992, 994, 50, 115, 467, 380] (by decide +kernel) (by decide +kernel) (by decide +kernel) (by decide +kernel)
set_option maxRecDepth 100000 in
theorem mz_g92 : mz_Good mz_m92 := mz_good_of [466, 201, 996, 998, 51, 115, 466, 201, 469, 468, 148, 466, 205, 473, 1000, 1001, 1002, 114, 469, 473, 1004, 1005, 1006, 114, 467, 984, 985, 986, 112] (by decide +kernel) (by decide +kernel) (by decide +kernel) (by decide +kernel)
set_option maxRecDepth 100000 in
theorem mz_g93 : mz_Good mz_m93 := mz_good_of [466, 953, 829, 830, 110, 473, 467, 935, 836, 837, 112, 466, 211, 467, 466, 953, 829, 830, 110, 935, 836, 837, 112, 467, 984, 985, 986, 112] (by decide +kernel) (by decide +kernel) (by decide +kernel) (by decide +kernel)
set_option maxRecDepth 100000 in
theorem mz_g94 : mz_Good mz_m94 := mz_good_of [472, 473, 466, 953, 829, 830, 110, 469, 936, 937, 938, 114, 469, 945, 946, 947, 114, 466, 211, 954, 956, 45, 115, 962, 964, 46, 115, 980, 982, 48, 115] (by decide +kernel) (by decide +kernel) (by decide +kernel) (by decide +kernel)
set_option maxRecDepth 100000 in
theorem mz_g95 : mz_Good mz_m95 := mz_good_of [472, 470, 472, 472, 472] (by decide +kernel) (by decide +kernel) (by decide +kernel) (by decide +kernel)
set_option maxRecDepth 100000 in
theorem mz_g96 : mz_Good mz_m96 := mz_good_of [468, 148, 466, 205, 466, 201, 469, 958, 959, 960, 114] (by decide +kernel) (by decide +kernel) (by decide +kernel) (by decide +kernel)
set_option maxRecDepth 100000 in
theorem mz_g97 : mz_Good mz_m97 := mz_good_of [472, 469, 936, 937, 938, 114, 470, 472, 466, 953, 829, 830, 110, 466, 201, 966, 967, 115, 471, 472, 472, 472, 469, 466, 201, 969, 970, 113, 471, 472, 972, 973, 974, 114, 473] (by decide +kernel) (by decide +kernel) (by decide +kernel) (by decide +kernel)
set_option maxRecDepth 100000 in
theorem mz_g98 : mz_Good mz_m98 := mz_good_of [] (by decide +kernel) (by decide +kernel) (by decide +kernel) (by decide +kernel)
set_option maxRecDepth 100000 in
theorem mz_g99 : mz_Good mz_m99 := mz_good_of [131, 132, 185, 510, 511, 134, 135, 108, 510, 136, 137, 108, 512, 186, 187, 109, 189, 109, 513, 368, 193, 110, 195, 110, 514, 370, 371, 112, 373, 112, 515, 516, 392, 393, 113, 395, 113, 517, 518, 185, 519, 420, 421, 114, 423, 114, 520, 460, 461, 115, 514, 515, 512, 520, 462, 463, 115, 521, 491, 492, 116, 517, 520, 493, 494, 116, 522] (by decide +kernel) (by decide +kernel) (by decide +kernel) (by decide +kernel)
set_option maxRecDepth 100000 in
theorem mz_g100 : mz_Good mz_m100 := mz_good_of [511, 510, 511, 511, 511, 554, 556, 14, 107, 511] (by decide +kernel) (by decide +kernel) (by decide +kernel) (by decide +kernel)
set_option maxRecDepth 100000 in
theorem mz_g101 : mz_Good mz_m101 := mz_good_of [511, 511, 554, 556, 14, 107, 519, 566, 567, 118, 520, 569, 570, 571, 114] (by decide +kernel) (by decide +kernel) (by decide +kernel) (by decide +kernel)
set_option maxRecDepth 100000 in
theorem mz_g102 : mz_Good mz_m102 := mz_good_of [554, 556, 14, 107, 520, 569, 570, 571, 114, 512, 511, 577, 578, 579, 108, 512, 153] (by decide +kernel) (by decide +kernel) (by decide +kernel) (by decide +kernel)
set_option maxRecDepth 100000 in
theorem mz_g103 : mz_Good mz_m103 := mz_good_of [512, 157, 512, 153, 512, 142, 512, 144, 512, 146, 512, 149] (by decide +kernel) (by decide +kernel) (by decide +kernel) (by decide +kernel)
set_option maxRecDepth 100000 in
theorem mz_g104 : mz_Good mz_m104 := mz_good_of [512, 157, 512, 155] (by decide +kernel) (by decide +kernel) (by decide +kernel) (by decide +kernel)
set_option maxRecDepth 100000 in
theorem mz_g105 : mz_Good mz_m105 := mz_good_of [512, 157, 558, 560, 15, 107, 513, 512, 765, 766, 767, 109, 513, 348, 808, 809, 810, 110, 514, 513, 348, 812, 813, 814, 110, 515, 514, 820, 821, 822, 112, 515, 514, 839, 840, 841, 112, 516, 514, 220] (by decide +kernel) (by decide +kernel) (by decide +kernel) (by decide +kernel)
set_option maxRecDepth 100000 in
theorem mz_g106 : mz_Good mz_m106 := mz_good_of [513, 346, 513, 346, 513, 344] (by decide +kernel) (by decide +kernel) (by decide +kernel) (by decide +kernel)
set_option maxRecDepth 100000 in
theorem mz_g107 : mz_Good mz_m107 := mz_good_of [516, 514, 220, 514, 202, 514, 207, 514, 212, 514, 214, 514, 212, 514, 851, 852, 853, 110] (by decide +kernel) (by decide +kernel) (by decide +kernel) (by decide +kernel)
set_option maxRecDepth 100000 in
theorem mz_g108 : mz_Good mz_m108 := mz_good_of [516, 517, 514, 515, 512, 860, 861, 862, 113, 518, 517, 406] (by decide +kernel) (by decide +kernel) (by decide +kernel) (by decide +kernel)
set_option maxRecDepth 100000 in
theorem mz_g109 : mz_Good mz_m109 := mz_good_of [518, 517, 406, 517, 400, 517, 403] (by decide +kernel) (by decide +kernel) (by decide +kernel) (by decide +kernel)
set_option maxRecDepth 100000 in
theorem mz_g110 : mz_Good mz_m110 := mz_good_of [519, 519] (by decide +kernel) (by decide +kernel) (by decide +kernel) (by decide +kernel)
set_option maxRecDepth 100000 in
theorem mz_g111 : mz_Good mz_m111 := mz_good_of [923, 516, 520, 519, 924, 925, 926, 114, 521, 931, 932, 933, 115, 520, 431] (by decide +kernel) (by decide +kernel) (by decide +kernel) (by decide +kernel)
set_option maxRecDepth 100000 in
theorem mz_g112 : mz_Good mz_m112 := mz_good_of [923, 518, 520, 519, 924, 925, 926, 114, 522, 1012, 1013, 1014, 116, 520, 431] (by decide +kernel) (by decide +kernel) (by decide +kernel) (by decide +kernel)
set_option maxRecDepth 100000 in
theorem mz_g113 : mz_Good mz_m113 := mz_good_of [520, 427, 520, 431, 520, 436, 520, 440, 520, 438] (by decide +kernel) (by decide +kernel) (by decide +kernel) (by decide +kernel)
set_option maxRecDepth 100000 in
theorem mz_g114 : mz_Good mz_m114 := mz_good_of [520, 427, 520, 1049, 1050, 1051, 114] (by decide +kernel) (by decide +kernel) (by decide +kernel) (by decide +kernel)
