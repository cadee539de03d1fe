set_option maxRecDepth 100000 in
theorem mz_g57 : mz_Good mz_m57 := mz_good_of [253, 317, 316, 316, 317, 307, 317, 317] (by decide +kernel) (by decide +kernel) (by decide +kernel) (by decide +kernel)
set_option maxRecDepth 100000 in
theorem mz_g58 : mz_Good mz_m58 := mz_good_of [317, 243, 316, 306, 294, 296, 11, 111, 306, 274, 276, 6, 111] (by decide +kernel) (by decide +kernel) (by decide +kernel) (by decide +kernel)
set_option maxRecDepth 100000 in
theorem mz_g59 : mz_Good mz_m59 := mz_good_of [315, 317, 243, 316, 315, 314, 315, 316, 315, 315] (by decide +kernel) (by decide +kernel) (by decide +kernel) (by decide +kernel)
set_option maxRecDepth 100000 in
theorem mz_g60 : mz_Good mz_m60 := mz_good_of [313, 278, 280, 7, 111, 313, 315, 311, 313, 314, 312, 313, 315, 313, 313, 313] (by decide +kernel) (by decide +kernel) (by decide +kernel) (by decide +kernel)
set_option maxRecDepth 100000 in
theorem mz_g61 : mz_Good mz_m61 := mz_good_of [312, 315, 315, 311, 314] (by decide +kernel) (by decide +kernel) (by decide +kernel) (by decide +kernel)
set_option maxRecDepth 100000 in
theorem mz_g62 : mz_Good mz_m62 := mz_good_of [317, 243, 316, 306, 302, 304, 13, 111] (by decide +kernel) (by decide +kernel) (by decide +kernel) (by decide +kernel)
set_option maxRecDepth 100000 in
theorem mz_g63 : mz_Good mz_m63 := mz_good_of [310, 253, 306, 306] (by decide +kernel) (by decide +kernel) (by decide +kernel) (by decide +kernel)
set_option maxRecDepth 100000 in
theorem mz_g64 : mz_Good mz_m64 := mz_good_of [139, 132, 185, 140, 185, 143, 185, 145, 185, 147, 151, 154, 156, 185, 158, 185, 159, 161, 160] (by decide +kernel) (by decide +kernel) (by decide +kernel) (by decide +kernel)
set_option maxRecDepth 100000 in
theorem mz_g65 : mz_Good mz_m65 := mz_good_of [161, 151, 154, 581, 583, 16, 108, 161, 588, 590, 17, 108, 581, 583, 16, 108, 161, 603, 605, 20, 108, 156] (by decide +kernel) (by decide +kernel) (by decide +kernel) (by decide +kernel)
set_option maxRecDepth 100000 in
theorem mz_g66 : mz_Good mz_m66 := mz_good_of [161, 160, 585, 586, 108, 160, 160, 160] (by decide +kernel) (by decide +kernel) (by decide +kernel) (by decide +kernel)
set_option maxRecDepth 100000 in
theorem mz_g67 : mz_Good mz_m67 := mz_good_of [160, 592, 593, 108, 595, 597, 18, 108, 160, 607, 608, 108, 610, 612, 21, 108, 687, 689, 26, 108] (by decide +kernel) (by decide +kernel) (by decide +kernel) (by decide +kernel)
set_option maxRecDepth 100000 in
theorem mz_g68 : mz_Good mz_m68 := mz_good_of [161, 160, 592, 593, 108, 160, 599, 601, 19, 108] (by decide +kernel) (by decide +kernel) (by decide +kernel) (by decide +kernel)
set_option maxRecDepth 100000 in
theorem mz_g69 : mz_Good mz_m69 := mz_good_of [161, 160, 607, 608, 108, 160, 592, 593, 108, 614, 616, 22, 108, 599, 601, 19, 108, 679, 681, 24, 108, 599, 601, 19, 108] (by decide +kernel) (by decide +kernel) (by decide +kernel) (by decide +kernel)
set_option maxRecDepth 100000 in
theorem mz_g70 : mz_Good mz_m70 := mz_good_of [160, 692, 693, 694, 119, 161, 160, 599, 601, 19, 108, 692, 693, 694, 119, 599, 601, 19, 108] (by decide +kernel) (by decide +kernel) (by decide +kernel) (by decide +kernel)
set_option maxRecDepth 100000 in
theorem mz_g71 : mz_Good mz_m71 := mz_good_of [603, 605, 20, 108, 151, 151] (by decide +kernel) (by decide +kernel) (by decide +kernel) (by decide +kernel)
set_option maxRecDepth 100000 in
theorem mz_g72 : mz_Good mz_m72 := mz_good_of [151, 140, 140, 151, 143, 151, 145, 151, 147, 151] (by decide +kernel) (by decide +kernel) (by decide +kernel) (by decide +kernel)
set_option maxRecDepth 100000 in
theorem mz_g73 : mz_Good mz_m73 := mz_good_of [154, 159, 158, 683, 685, 25, 108, 154, 158, 154, 159, 154, 154, 154, 154] (by decide +kernel) (by decide +kernel) (by decide +kernel) (by decide +kernel)
set_option maxRecDepth 100000 in
theorem mz_g74 : mz_Good mz_m74 := mz_good_of [160, 160] (by decide +kernel) (by decide +kernel) (by decide +kernel) (by decide +kernel)
set_option maxRecDepth 100000 in
theorem mz_g75 : mz_Good mz_m75 := mz_good_of [618, 619, 108, 627, 629, 23, 108] (by decide +kernel) (by decide +kernel) (by decide +kernel) (by decide +kernel)
set_option maxRecDepth 100000 in
theorem mz_g76 : mz_Good mz_m76 := mz_good_of [] (by decide +kernel) (by decide +kernel) (by decide +kernel) (by decide +kernel)
set_option maxRecDepth 100000 in
theorem mz_g77 : mz_Good mz_m77 := mz_good_of [631, 632, 633, 119, 160, 641, 642, 643, 119] (by decide +kernel) (by decide +kernel) (by decide +kernel) (by decide +kernel)
set_option maxRecDepth 100000 in
theorem mz_g78 : mz_Good mz_m78 := mz_good_of [] (by decide +kernel) (by decide +kernel) (by decide +kernel) (by decide +kernel)
set_option maxRecDepth 100000 in
theorem mz_g79 : mz_Good mz_m79 := mz_good_of [] (by decide +kernel) (by decide +kernel) (by decide +kernel) (by decide +kernel)
set_option maxRecDepth 100000 in
theorem mz_g80 : mz_Good mz_m80 := mz_good_of [] (by decide +kernel) (by decide +kernel) (by decide +kernel) (by decide +kernel)
set_option maxRecDepth 100000 in
theorem mz_g81 : mz_Good mz_m81 := mz_good_of [197, 132, 185, 198, 185, 203, 185, 208, 185, 213, 185, 215, 216, 185, 221] (by decide +kernel) (by decide +kernel) (by decide +kernel) (by decide +kernel)
set_option maxRecDepth 100000 in
theorem mz_g82 : mz_Good mz_m82 := mz_good_of [216, 216, 213, 781, 708, 123, 215, 198, 216, 203, 216, 208, 216, 213, 216, 215, 216, 216, 216, 216] (by decide +kernel) (by decide +kernel) (by decide +kernel) (by decide +kernel)
set_option maxRecDepth 100000 in
theorem mz_g83 : mz_Good mz_m83 := mz_good_of [216, 213, 216] (by decide +kernel) (by decide +kernel) (by decide +kernel) (by decide +kernel)
set_option maxRecDepth 100000 in
theorem mz_g84 : mz_Good mz_m84 := mz_good_of [216, 216, 216, 221, 216, 216, 221, 198, 198, 203, 203, 208, 208, 213, 213, 215, 215, 816, 818, 31, 110] (by decide +kernel) (by decide +kernel) (by decide +kernel) (by decide +kernel)
