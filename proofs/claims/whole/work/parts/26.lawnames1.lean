set_option maxRecDepth 20000 in
theorem lwi_1 : GoodIn lw_tbl wsL_law_r1 := goodIn_r _ [60, 61, 50, 576, 577, 54, 62, 63, 64, 65, 66, 67, 68, 130, 70, 131, 72, 73, 51, 132, 86, 87, 52, 133] rfl (by decide +kernel)
set_option maxRecDepth 20000 in
theorem lwi_2 : GoodIn lw_tbl wsL_law_r2 := goodIn_r _ [108, 109, 53, 134, 135, 75, 76, 77, 85, 78, 89, 90, 91, 92, 94, 96, 97, 98, 111, 112, 113, 115, 114, 119] rfl (by decide +kernel)
set_option maxRecDepth 20000 in
theorem lwi_3 : GoodIn lw_tbl wsL_law_r3 := goodIn_r _ [578, 579, 580, 581, 584, 585, 586, 587, 588, 589, 284, 590, 591, 592, 593, 596, 599, 600, 601, 602, 603, 604, 605, 606] rfl (by decide +kernel)
set_option maxRecDepth 20000 in
theorem lwi_4 : GoodIn lw_tbl wsL_law_r4 := goodIn_r _ [608, 609, 610, 673, 611, 149, 150, 151, 152, 159, 165, 55, 153, 154, 155, 156, 157, 158, 160, 162, 0, 163, 164, 166] rfl (by decide +kernel)
set_option maxRecDepth 20000 in
theorem lwi_5 : GoodIn lw_tbl wsL_law_r5 := goodIn_r _ [167, 168, 169, 170, 172, 181, 183, 1, 184, 674, 675, 676, 677, 582, 685, 686, 583, 678, 679, 680, 681, 682, 683, 684] rfl (by decide +kernel)
set_option maxRecDepth 20000 in
theorem lwi_6 : GoodIn lw_tbl wsL_law_r6 := goodIn_r _ [687, 689, 28, 690, 691, 185, 186, 187, 188, 175, 189, 190, 191, 192, 193, 194, 195, 196, 692, 693, 694, 695, 197, 198] rfl (by decide +kernel)
