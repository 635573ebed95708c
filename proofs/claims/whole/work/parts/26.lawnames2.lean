set_option maxRecDepth 20000 in
theorem lwi_7 : GoodIn lw_tbl wsL_law_r7 := goodIn_r _ [199, 200, 171, 201, 203, 202, 56, 696, 697, 698, 699, 204, 205, 206, 207, 700, 701, 702, 703, 208, 209, 210, 211, 215] rfl (by decide +kernel)
set_option maxRecDepth 20000 in
theorem lwi_8 : GoodIn lw_tbl wsL_law_r8 := goodIn_r _ [57, 212, 213, 214, 216, 217, 218, 219, 224, 225, 226, 227, 229, 231, 233, 235, 236, 237, 238, 239, 240, 241, 244, 247] rfl (by decide +kernel)
set_option maxRecDepth 20000 in
theorem lwi_9 : GoodIn lw_tbl wsL_law_r9 := goodIn_r _ [248, 220, 221, 222, 58, 223, 285, 286, 287, 288, 704, 705, 706, 707, 712, 713, 714, 708, 709, 710, 711, 715, 717, 29] rfl (by decide +kernel)
set_option maxRecDepth 20000 in
theorem lwi_10 : GoodIn lw_tbl wsL_law_r10 := goodIn_r _ [718, 719, 721, 30, 722, 289, 290, 291, 292, 723, 724, 725, 726, 293, 294, 295, 296, 727, 728, 729, 730, 731, 733, 31] rfl (by decide +kernel)
set_option maxRecDepth 20000 in
theorem lwi_11 : GoodIn lw_tbl wsL_law_r11 := goodIn_r _ [734, 297, 298, 299, 300, 301, 302, 303, 304, 305, 306, 735, 736, 737, 738, 739, 740, 741, 742, 307, 308, 309, 310, 243] rfl (by decide +kernel)
set_option maxRecDepth 20000 in
theorem lwi_12 : GoodIn lw_tbl wsL_law_r12 := goodIn_r _ [743, 744, 745, 746, 311, 312, 313, 314, 315, 316, 317, 318, 79, 319, 320, 321, 322, 323, 324, 326, 2, 327, 242, 328] rfl (by decide +kernel)
set_option maxRecDepth 20000 in
theorem lwi_13 : GoodIn lw_tbl wsL_law_r13 := goodIn_r _ [330, 3, 331, 332, 334, 4, 335, 228, 336, 338, 5, 339, 340, 342, 6, 343, 344, 346, 7, 347, 245, 348, 350, 8] rfl (by decide +kernel)
set_option maxRecDepth 20000 in
theorem lwi_14 : GoodIn lw_tbl wsL_law_r14 := goodIn_r _ [351, 352, 353, 354, 355, 356, 358, 9, 359, 747, 748, 749, 750, 594, 751, 753, 32, 754, 755, 757, 33, 758, 759, 761] rfl (by decide +kernel)
set_option maxRecDepth 20000 in
theorem lwi_15 : GoodIn lw_tbl wsL_law_r15 := goodIn_r _ [34, 762, 763, 765, 35, 766, 767, 769, 36, 770, 360, 361, 362, 363, 364, 365, 366, 367, 369, 771, 772, 773, 774, 370] rfl (by decide +kernel)
set_option maxRecDepth 20000 in
theorem lwi_16 : GoodIn lw_tbl wsL_law_r16 := goodIn_r _ [371, 372, 373, 383, 374, 375, 376, 377, 379, 380, 381, 382, 384, 385, 386, 387, 388, 389, 390, 391, 392, 394, 10, 395] rfl (by decide +kernel)
set_option maxRecDepth 20000 in
theorem lwi_17 : GoodIn lw_tbl wsL_law_r17 := goodIn_r _ [396, 398, 11, 399, 400, 402, 12, 403, 404, 406, 13, 407, 408, 410, 14, 411, 412, 414, 15, 415, 416, 418, 16, 419] rfl (by decide +kernel)
set_option maxRecDepth 20000 in
theorem lwi_18 : GoodIn lw_tbl wsL_law_r18 := goodIn_r _ [420, 422, 17, 423, 424, 426, 18, 427, 775, 776, 777, 778, 787, 779, 781, 37, 782, 783, 785, 38, 786, 788, 790, 39] rfl (by decide +kernel)
set_option maxRecDepth 20000 in
theorem lwi_19 : GoodIn lw_tbl wsL_law_r19 := goodIn_r _ [791, 597, 598, 595, 792, 794, 40, 795, 796, 798, 41, 799, 800, 802, 42, 803, 804, 806, 43, 807, 808, 810, 44, 811] rfl (by decide +kernel)
set_option maxRecDepth 20000 in
theorem lwi_20 : GoodIn lw_tbl wsL_law_r20 := goodIn_r _ [428, 429, 430, 431, 232, 432, 433, 434, 435, 812, 813, 814, 815, 436, 437, 438, 439, 234, 816, 817, 818, 819, 440, 441] rfl (by decide +kernel)
set_option maxRecDepth 20000 in
theorem lwi_21 : GoodIn lw_tbl wsL_law_r21 := goodIn_r _ [442, 443, 444, 445, 446, 447, 448, 820, 821, 822, 823, 449, 450, 451, 452, 230, 453, 454, 455, 456, 457, 458, 459, 460] rfl (by decide +kernel)
set_option maxRecDepth 20000 in
theorem lwi_22 : GoodIn lw_tbl wsL_law_r22 := goodIn_r _ [461, 462, 824, 825, 826, 827, 463, 464, 465, 466, 467, 468, 469, 470, 828, 829, 830, 831, 471, 472, 473, 474, 95, 475] rfl (by decide +kernel)
set_option maxRecDepth 20000 in
theorem lwi_23 : GoodIn lw_tbl wsL_law_r23 := goodIn_r _ [476, 477, 478, 173, 480, 481, 482, 483, 484, 486, 19, 487, 488, 489, 490, 491, 493, 20, 494, 495, 497, 21, 498, 832] rfl (by decide +kernel)
set_option maxRecDepth 20000 in
theorem lwi_24 : GoodIn lw_tbl wsL_law_r24 := goodIn_r _ [833, 834, 835, 836, 837, 839, 45, 840, 499, 500, 501, 502, 503, 504, 505, 506, 507, 508, 509, 510, 841, 842, 843, 844] rfl (by decide +kernel)
set_option maxRecDepth 20000 in
theorem lwi_25 : GoodIn lw_tbl wsL_law_r25 := goodIn_r _ [511, 512, 513, 514, 528, 118, 116, 515, 516, 517, 518, 120, 174, 520, 522, 22, 523, 524, 526, 23, 527, 529, 530, 531] rfl (by decide +kernel)
set_option maxRecDepth 20000 in
theorem lwi_26 : GoodIn lw_tbl wsL_law_r26 := goodIn_r _ [532, 533, 534, 535, 536, 538, 24, 539, 117, 540, 541, 59, 542, 845, 846, 847, 848, 849, 850, 607, 851, 853, 46, 854] rfl (by decide +kernel)
set_option maxRecDepth 20000 in
theorem lwi_27 : GoodIn lw_tbl wsL_law_r27 := goodIn_r _ [855, 857, 47, 858, 859, 860, 862, 48, 863, 543, 544, 545, 546, 547, 548, 549, 550, 864, 865, 866, 867, 868, 551, 552] rfl (by decide +kernel)
set_option maxRecDepth 20000 in
theorem lwi_28 : GoodIn lw_tbl wsL_law_r28 := goodIn_r _ [553, 554, 555, 869, 870, 871, 872, 873, 874, 875, 556, 557, 558, 559, 560, 562, 25, 563, 564, 566, 26, 567, 568, 570] rfl (by decide +kernel)
set_option maxRecDepth 20000 in
theorem lwi_29 : GoodIn lw_tbl wsL_law_r29 := goodIn_r _ [27, 571, 246, 876, 877, 878, 879, 572, 573, 574, 575, 880, 881, 882, 883] rfl (by decide +kernel)
set_option maxRecDepth 20000 in
theorem lwx_5 : GoodIn lw_tbl wsX50 := goodIn_r _ [136, 138, 140, 142, 144, 146] rfl (by decide +kernel)
set_option maxRecDepth 20000 in
theorem lwx_6 : GoodIn lw_tbl wsX60 := goodIn_r _ [612, 614, 616, 618, 620, 622, 624, 626, 628, 630, 632, 634, 636, 638, 640, 642, 644, 646, 648, 650, 652, 654, 656, 658, 660, 662, 664, 666, 668, 670] rfl (by decide +kernel)
set_option maxRecDepth 20000 in
theorem lwx_0 : GoodIn lw_tbl wsX00 := goodIn_r _ [80, 82] rfl (by decide +kernel)
set_option maxRecDepth 20000 in
theorem lwx_3 : GoodIn lw_tbl wsX30 := goodIn_r _ [99, 101, 103, 105] rfl (by decide +kernel)
set_option maxRecDepth 20000 in
theorem lwx_2 : GoodIn lw_tbl wsX20 := goodIn_r _ [121, 123, 125, 127] rfl (by decide +kernel)
set_option maxRecDepth 20000 in
theorem lwx_4 : GoodIn lw_tbl wsX40 := goodIn_r _ [176, 178] rfl (by decide +kernel)
set_option maxRecDepth 20000 in
theorem lwx_1 : GoodIn lw_tbl wsX10 := goodIn_r _ [249, 251, 253, 255, 257, 259, 261, 263, 265, 267, 269, 271, 273, 275, 277, 279, 281] rfl (by decide +kernel)
