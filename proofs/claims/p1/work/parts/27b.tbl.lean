set_option maxRecDepth 100000 in
theorem gl_wsX00 : GoodIn lw_tbl wsX00 := (goodIn_r _ [292, 294, 296, 298, 300, 302, 304, 306, 308, 310, 312, 314, 316, 318, 320, 322, 324, 326, 328, 330, 332] (by decide +kernel) (by decide +kernel))
set_option maxRecDepth 100000 in
theorem gl_wsX10 : GoodIn lw_tbl wsX10 := (goodIn_r _ [634, 636, 638, 640] (by decide +kernel) (by decide +kernel))
set_option maxRecDepth 100000 in
theorem gl_wsX20 : GoodIn lw_tbl wsX20 := (goodIn_r _ [486, 488, 490, 492, 494, 496, 498, 500, 502, 504, 506, 508, 510, 512, 514] (by decide +kernel) (by decide +kernel))
set_option maxRecDepth 100000 in
theorem gl_wsX30 : GoodIn lw_tbl wsX30 := (goodIn_r _ [702, 704, 706, 708, 710, 712, 714, 716, 718, 720, 722] (by decide +kernel) (by decide +kernel))
set_option maxRecDepth 100000 in
theorem gl_wsX40 : GoodIn lw_tbl wsX40 := (goodIn_r _ [657, 659, 661, 663, 665, 667, 669, 671, 673, 675, 677] (by decide +kernel) (by decide +kernel))
set_option maxRecDepth 100000 in
theorem gl_wsX50 : GoodIn lw_tbl wsX50 := (goodIn_r _ [355, 357, 359, 361, 363, 365, 367, 369, 371, 373, 375] (by decide +kernel) (by decide +kernel))
set_option maxRecDepth 100000 in
theorem gl_wsX60 : GoodIn lw_tbl wsX60 := (goodIn_r _ [540, 542, 544, 546, 548, 550, 552, 554, 556, 558, 560, 562, 564, 566] (by decide +kernel) (by decide +kernel))
set_option maxRecDepth 100000 in
theorem gl_wsX70 : GoodIn lw_tbl wsX70 := (goodIn_r _ [203, 205, 207, 209, 211, 213, 215, 217, 219] (by decide +kernel) (by decide +kernel))
set_option maxRecDepth 100000 in
theorem gl_wsX80 : GoodIn lw_tbl wsX80 := (goodIn_r _ [586, 588, 590, 592, 594, 596, 598, 600, 602, 604, 606] (by decide +kernel) (by decide +kernel))
set_option maxRecDepth 100000 in
theorem gl_wsX90 : GoodIn lw_tbl wsX90 := (goodIn_r _ [393, 395, 397, 399] (by decide +kernel) (by decide +kernel))
set_option maxRecDepth 100000 in
theorem gl_wsX100 : GoodIn lw_tbl wsX100 := (goodIn_r _ [431, 433, 435, 437, 439, 441, 443, 445, 447, 449, 451, 453, 455, 457, 459, 461] (by decide +kernel) (by decide +kernel))
set_option maxRecDepth 100000 in
theorem gl_wsX110 : GoodIn lw_tbl wsX110 := (goodIn_r _ [746, 748, 750, 752, 754, 756, 758, 760, 762, 764, 766, 768, 770, 772, 774, 776, 778, 780, 782, 784, 786] (by decide +kernel) (by decide +kernel))
