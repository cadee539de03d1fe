set_option maxRecDepth 100000 in
theorem mz_g22 : mz_Good mz_m22 := mz_good_of [345, 347, 218, 352, 769, 771, 27, 109, 152, 349, 350, 352, 141, 773, 774, 775, 111, 347, 351, 352, 777, 778, 779, 110, 769, 771, 27, 109, 782, 784, 28, 109] (by decide +kernel) (by decide +kernel) (by decide +kernel) (by decide +kernel)
set_option maxRecDepth 100000 in
theorem mz_g23 : mz_Good mz_m23 := mz_good_of [352, 350, 352, 351, 352, 352, 352] (by decide +kernel) (by decide +kernel) (by decide +kernel) (by decide +kernel)
set_option maxRecDepth 100000 in
theorem mz_g24 : mz_Good mz_m24 := mz_good_of [786, 788, 29, 109, 352, 349, 790, 791, 792, 111, 794, 796, 30, 109, 351, 352, 349, 350, 349, 804, 805, 806, 111, 773, 774, 775, 111, 769, 771, 27, 109] (by decide +kernel) (by decide +kernel) (by decide +kernel) (by decide +kernel)
set_option maxRecDepth 100000 in
theorem mz_g25 : mz_Good mz_m25 := mz_good_of [345, 343, 345, 345, 345] (by decide +kernel) (by decide +kernel) (by decide +kernel) (by decide +kernel)
set_option maxRecDepth 100000 in
theorem mz_g26 : mz_Good mz_m26 := mz_good_of [798, 351, 800, 347, 798, 351, 802, 777, 778, 779, 110] (by decide +kernel) (by decide +kernel) (by decide +kernel) (by decide +kernel)
set_option maxRecDepth 100000 in
theorem mz_g27 : mz_Good mz_m27 := mz_good_of [375, 132, 185, 376, 379, 185, 381, 185, 382] (by decide +kernel) (by decide +kernel) (by decide +kernel) (by decide +kernel)
set_option maxRecDepth 100000 in
theorem mz_g28 : mz_Good mz_m28 := mz_good_of [217, 379, 381, 379, 376, 217, 824, 826, 32, 112, 217, 382, 199, 382, 209, 381, 835, 836, 837, 112] (by decide +kernel) (by decide +kernel) (by decide +kernel) (by decide +kernel)
set_option maxRecDepth 100000 in
theorem mz_g29 : mz_Good mz_m29 := mz_good_of [199, 209, 217, 828, 829, 830, 110, 209, 381, 832, 833, 112, 381, 376, 376] (by decide +kernel) (by decide +kernel) (by decide +kernel) (by decide +kernel)
set_option maxRecDepth 100000 in
theorem mz_g30 : mz_Good mz_m30 := mz_good_of [217, 199, 199, 376, 204] (by decide +kernel) (by decide +kernel) (by decide +kernel) (by decide +kernel)
set_option maxRecDepth 100000 in
theorem mz_g31 : mz_Good mz_m31 := mz_good_of [] (by decide +kernel) (by decide +kernel) (by decide +kernel) (by decide +kernel)
set_option maxRecDepth 100000 in
theorem mz_g32 : mz_Good mz_m32 := mz_good_of [379, 382] (by decide +kernel) (by decide +kernel) (by decide +kernel) (by decide +kernel)
set_option maxRecDepth 100000 in
theorem mz_g33 : mz_Good mz_m33 := mz_good_of [379, 381, 835, 836, 837, 112, 379] (by decide +kernel) (by decide +kernel) (by decide +kernel) (by decide +kernel)
set_option maxRecDepth 100000 in
theorem mz_g34 : mz_Good mz_m34 := mz_good_of [425, 132, 426, 428, 432, 435, 437, 439, 185, 441, 185, 442] (by decide +kernel) (by decide +kernel) (by decide +kernel) (by decide +kernel)
set_option maxRecDepth 100000 in
theorem mz_g35 : mz_Good mz_m35 := mz_good_of [426, 428, 432, 435, 437, 439, 442, 928, 930, 929, 125] (by decide +kernel) (by decide +kernel) (by decide +kernel) (by decide +kernel)
set_option maxRecDepth 100000 in
theorem mz_g36 : mz_Good mz_m36 := mz_good_of [426] (by decide +kernel) (by decide +kernel) (by decide +kernel) (by decide +kernel)
set_option maxRecDepth 100000 in
theorem mz_g37 : mz_Good mz_m37 := mz_good_of [428] (by decide +kernel) (by decide +kernel) (by decide +kernel) (by decide +kernel)
set_option maxRecDepth 100000 in
theorem mz_g38 : mz_Good mz_m38 := mz_good_of [435, 432, 428, 435, 435, 437] (by decide +kernel) (by decide +kernel) (by decide +kernel) (by decide +kernel)
set_option maxRecDepth 100000 in
theorem mz_g39 : mz_Good mz_m39 := mz_good_of [439, 441, 439, 439, 439] (by decide +kernel) (by decide +kernel) (by decide +kernel) (by decide +kernel)
set_option maxRecDepth 100000 in
theorem mz_g40 : mz_Good mz_m40 := mz_good_of [439, 441] (by decide +kernel) (by decide +kernel) (by decide +kernel) (by decide +kernel)
set_option maxRecDepth 100000 in
theorem mz_g41 : mz_Good mz_m41 := mz_good_of [442] (by decide +kernel) (by decide +kernel) (by decide +kernel) (by decide +kernel)
set_option maxRecDepth 100000 in
theorem mz_g42 : mz_Good mz_m42 := mz_good_of [442] (by decide +kernel) (by decide +kernel) (by decide +kernel) (by decide +kernel)
set_option maxRecDepth 100000 in
theorem mz_g43 : mz_Good mz_m43 := mz_good_of [976, 978, 47, 114, 976, 978, 47, 114] (by decide +kernel) (by decide +kernel) (by decide +kernel) (by decide +kernel)
set_option maxRecDepth 100000 in
theorem mz_g44 : mz_Good mz_m44 := mz_good_of [428] (by decide +kernel) (by decide +kernel) (by decide +kernel) (by decide +kernel)
set_option maxRecDepth 100000 in
theorem mz_g45 : mz_Good mz_m45 := mz_good_of [242, 132, 185, 306, 185, 307, 185, 308, 185, 309, 185, 310, 185, 311, 185, 312, 313, 185, 314, 315, 243, 185, 316, 317, 245, 247, 0, 111, 249, 251, 1, 111, 259, 261, 3, 111, 270, 272, 5, 111] (by decide +kernel) (by decide +kernel) (by decide +kernel) (by decide +kernel)
set_option maxRecDepth 100000 in
theorem mz_g46 : mz_Good mz_m46 := mz_good_of [306, 306] (by decide +kernel) (by decide +kernel) (by decide +kernel) (by decide +kernel)
set_option maxRecDepth 100000 in
theorem mz_g47 : mz_Good mz_m47 := mz_good_of [308] (by decide +kernel) (by decide +kernel) (by decide +kernel) (by decide +kernel)
set_option maxRecDepth 100000 in
theorem mz_g48 : mz_Good mz_m48 := mz_good_of [253] (by decide +kernel) (by decide +kernel) (by decide +kernel) (by decide +kernel)
set_option maxRecDepth 100000 in
theorem mz_g49 : mz_Good mz_m49 := mz_good_of [243, 243, 308, 307, 307] (by decide +kernel) (by decide +kernel) (by decide +kernel) (by decide +kernel)
set_option maxRecDepth 100000 in
theorem mz_g50 : mz_Good mz_m50 := mz_good_of [309, 309, 253, 307, 255, 257, 2, 111] (by decide +kernel) (by decide +kernel) (by decide +kernel) (by decide +kernel)
set_option maxRecDepth 100000 in
theorem mz_g51 : mz_Good mz_m51 := mz_good_of [243, 243, 309, 243, 243] (by decide +kernel) (by decide +kernel) (by decide +kernel) (by decide +kernel)
set_option maxRecDepth 100000 in
theorem mz_g52 : mz_Good mz_m52 := mz_good_of [243, 243, 243, 243] (by decide +kernel) (by decide +kernel) (by decide +kernel) (by decide +kernel)
set_option maxRecDepth 100000 in
theorem mz_g53 : mz_Good mz_m53 := mz_good_of [310, 243, 243, 243, 253, 263, 265, 4, 111] (by decide +kernel) (by decide +kernel) (by decide +kernel) (by decide +kernel)
set_option maxRecDepth 100000 in
theorem mz_g54 : mz_Good mz_m54 := mz_good_of [243, 310, 255, 257, 2, 111, 267, 268, 111, 310, 310] (by decide +kernel) (by decide +kernel) (by decide +kernel) (by decide +kernel)
set_option maxRecDepth 100000 in
theorem mz_g55 : mz_Good mz_m55 := mz_good_of [314, 307, 315, 274, 276, 6, 111, 313, 282, 284, 8, 111, 290, 292, 10, 111, 298, 300, 12, 111] (by decide +kernel) (by decide +kernel) (by decide +kernel) (by decide +kernel)
set_option maxRecDepth 100000 in
theorem mz_g56 : mz_Good mz_m56 := mz_good_of [312, 317, 317, 316, 311, 317, 316, 243, 316, 286, 288, 9, 111] (by decide +kernel) (by decide +kernel) (by decide +kernel) (by decide +kernel)
