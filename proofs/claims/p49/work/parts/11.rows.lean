def gHt_0 : List (Nat × Nat × List Nat) := [(0, 0, [80, 81, 44]), (4, 0, [82]), (12, 0, [757]), (18, 0, [1553]), (36, 0, [1550]), (44, 0, [757]), (47, 0, [1528]), (66, 0, [768]), (90, 0, [1552, 1551]), (96, 0, [1363]), (102, 0, [1363]), (108, 0, [1363]), (122, 0, [1363]), (157, 0, [757]), (170, 0, [757]), (192, 0, [1491]), (215, 0, [1482]), (229, 0, [768]), (241, 0, [1381]), (274, 0, [1485]), (288, 0, [188]), (307, 0, [757]), (315, 0, [768]), (330, 0, [768]), (356, 0, [1382]), (373, 0, [188]), (388, 0, [768]), (391, 0, [1381]), (421, 0, [768]), (424, 0, [1379]), (430, 0, [188]), (461, 0, [768]), (475, 0, [1381]), (539, 0, [757]), (559, 0, [768]), (579, 0, [768]), (582, 0, [1379]), (631, 0, [1488]), (637, 0, [192]), (646, 0, [192]), (787, 0, [765]), (825, 0, [227]), (834, 0, [188]), (855, 0, [1383]), (858, 0, [1379]), (891, 0, [768]), (904, 0, [1381]), (1062, 0, [757]), (1076, 0, [768]), (1091, 0, [768]), (1094, 0, [1379]), (1108, 0, [1383]), (1228, 0, [757]), (1244, 0, [1471]), (1262, 0, [1383]), (1278, 0, [1383]), (1293, 0, [1383]), (1304, 0, [1482]), (1311, 0, [215]), (1321, 0, [1488]), (1361, 0, [1471]), (1378, 0, [1383]), (1398, 0, [1383]), (1437, 0, [1505]), (1454, 0, [1525]), (1479, 0, [1525]), (1504, 0, [251]), (1511, 0, [247]), (1515, 0, [243]), (1522, 0, [247]), (1526, 0, [239])]
theorem gOk_0_0 : gAll 0 ((gC_0.drop 0).take 30) gHt_0 = true := by decide +kernel
theorem gOk_0_30 : gAll 0 ((gC_0.drop 30).take 30) gHt_0 = true := by decide +kernel
theorem gOk_0_60 : gAll 0 ((gC_0.drop 60).take 30) gHt_0 = true := by decide +kernel
theorem gOk_0_90 : gAll 0 ((gC_0.drop 90).take 30) gHt_0 = true := by decide +kernel
theorem gOk_0_120 : gAll 0 ((gC_0.drop 120).take 30) gHt_0 = true := by decide +kernel
theorem gOk_0_150 : gAll 0 ((gC_0.drop 150).take 30) gHt_0 = true := by decide +kernel
theorem gOk_0_180 : gAll 0 ((gC_0.drop 180).take 30) gHt_0 = true := by decide +kernel
theorem gOk_0_210 : gAll 0 ((gC_0.drop 210).take 30) gHt_0 = true := by decide +kernel
theorem gOk_0_240 : gAll 0 ((gC_0.drop 240).take 30) gHt_0 = true := by decide +kernel
theorem gOk_0_270 : gAll 0 ((gC_0.drop 270).take 30) gHt_0 = true := by decide +kernel
theorem gOk_0_300 : gAll 0 ((gC_0.drop 300).take 30) gHt_0 = true := by decide +kernel
theorem gOk_0_330 : gAll 0 ((gC_0.drop 330).take 30) gHt_0 = true := by decide +kernel
theorem gOk_0_360 : gAll 0 ((gC_0.drop 360).take 30) gHt_0 = true := by decide +kernel
theorem gOk_0_390 : gAll 0 ((gC_0.drop 390).take 30) gHt_0 = true := by decide +kernel
theorem gOk_0_420 : gAll 0 ((gC_0.drop 420).take 30) gHt_0 = true := by decide +kernel
theorem gOk_0_450 : gAll 0 ((gC_0.drop 450).take 30) gHt_0 = true := by decide +kernel
theorem gOk_0_480 : gAll 0 ((gC_0.drop 480).take 30) gHt_0 = true := by decide +kernel
theorem gOk_0_510 : gAll 0 ((gC_0.drop 510).take 30) gHt_0 = true := by decide +kernel
theorem gOk_0_540 : gAll 0 ((gC_0.drop 540).take 30) gHt_0 = true := by decide +kernel
theorem gOk_0_570 : gAll 0 ((gC_0.drop 570).take 30) gHt_0 = true := by decide +kernel
theorem gOk_0_600 : gAll 0 ((gC_0.drop 600).take 30) gHt_0 = true := by decide +kernel
theorem gOk_0_630 : gAll 0 ((gC_0.drop 630).take 30) gHt_0 = true := by decide +kernel
theorem gOk_0_660 : gAll 0 ((gC_0.drop 660).take 30) gHt_0 = true := by decide +kernel
theorem gOk_0_690 : gAll 0 ((gC_0.drop 690).take 30) gHt_0 = true := by decide +kernel
theorem gOk_0_720 : gAll 0 ((gC_0.drop 720).take 30) gHt_0 = true := by decide +kernel
theorem gOk_0_750 : gAll 0 ((gC_0.drop 750).take 30) gHt_0 = true := by decide +kernel
theorem gOk_0_780 : gAll 0 ((gC_0.drop 780).take 30) gHt_0 = true := by decide +kernel
theorem gOk_0_810 : gAll 0 ((gC_0.drop 810).take 30) gHt_0 = true := by decide +kernel
theorem gOk_0 : gAll 0 gC_0 gHt_0 = true := gAll_cut 0 gC_0 gHt_0 0 30 gOk_0_0 (gAll_cut 0 gC_0 gHt_0 30 30 gOk_0_30 (gAll_cut 0 gC_0 gHt_0 60 30 gOk_0_60 (gAll_cut 0 gC_0 gHt_0 90 30 gOk_0_90 (gAll_cut 0 gC_0 gHt_0 120 30 gOk_0_120 (gAll_cut 0 gC_0 gHt_0 150 30 gOk_0_150 (gAll_cut 0 gC_0 gHt_0 180 30 gOk_0_180 (gAll_cut 0 gC_0 gHt_0 210 30 gOk_0_210 (gAll_cut 0 gC_0 gHt_0 240 30 gOk_0_240 (gAll_cut 0 gC_0 gHt_0 270 30 gOk_0_270 (gAll_cut 0 gC_0 gHt_0 300 30 gOk_0_300 (gAll_cut 0 gC_0 gHt_0 330 30 gOk_0_330 (gAll_cut 0 gC_0 gHt_0 360 30 gOk_0_360 (gAll_cut 0 gC_0 gHt_0 390 30 gOk_0_390 (gAll_cut 0 gC_0 gHt_0 420 30 gOk_0_420 (gAll_cut 0 gC_0 gHt_0 450 30 gOk_0_450 (gAll_cut 0 gC_0 gHt_0 480 30 gOk_0_480 (gAll_cut 0 gC_0 gHt_0 510 30 gOk_0_510 (gAll_cut 0 gC_0 gHt_0 540 30 gOk_0_540 (gAll_cut 0 gC_0 gHt_0 570 30 gOk_0_570 (gAll_cut 0 gC_0 gHt_0 600 30 gOk_0_600 (gAll_cut 0 gC_0 gHt_0 630 30 gOk_0_630 (gAll_cut 0 gC_0 gHt_0 660 30 gOk_0_660 (gAll_cut 0 gC_0 gHt_0 690 30 gOk_0_690 (gAll_cut 0 gC_0 gHt_0 720 30 gOk_0_720 (gAll_cut 0 gC_0 gHt_0 750 30 gOk_0_750 (gAll_cut 0 gC_0 gHt_0 780 30 gOk_0_780 (gAll_cut 0 gC_0 gHt_0 810 30 gOk_0_810 (gAll_nil 0 gC_0 gHt_0 840 (by decide +kernel)))))))))))))))))))))))))))))
theorem gMk_1 : gMok 1 0 3 [759, 43, 758] = true := by decide +kernel
def gHt_1 : List (Nat × Nat × List Nat) := [(2, 0, [760])]
theorem gOk_1 : gAll 1 gC_1 gHt_1 = true := by decide +kernel
theorem gMk_2 : gMok 2 0 7 [770, 43, 769] = true := by decide +kernel
def gHt_2 : List (Nat × Nat × List Nat) := [(10, 0, [790]), (16, 0, [1379]), (21, 0, [1380]), (26, 0, [1381]), (31, 0, [1382])]
theorem gOk_2 : gAll 2 gC_2 gHt_2 = true := by decide +kernel
theorem gMk_3 : gMok 3 0 6 [1493, 43, 1492] = true := by decide +kernel
def gHt_3 : List (Nat × Nat × List Nat) := [(4, 0, [757]), (15, 0, [757]), (26, 0, [757]), (40, 0, [1383]), (76, 0, [757]), (103, 0, [768]), (125, 0, [768]), (148, 0, [768]), (164, 0, [768]), (176, 0, [1381]), (235, 0, [1494]), (247, 0, [1482]), (262, 0, [1485]), (275, 0, [1497]), (295, 0, [757]), (307, 0, [757]), (314, 0, [1501]), (339, 0, [768]), (351, 0, [1381]), (468, 0, [1485]), (492, 0, [1494]), (521, 0, [1497]), (532, 0, [1501]), (541, 0, [765])]
theorem gOk_3_0 : gAll 3 ((gC_3.drop 0).take 30) gHt_3 = true := by decide +kernel
theorem gOk_3_30 : gAll 3 ((gC_3.drop 30).take 30) gHt_3 = true := by decide +kernel
theorem gOk_3_60 : gAll 3 ((gC_3.drop 60).take 30) gHt_3 = true := by decide +kernel
theorem gOk_3_90 : gAll 3 ((gC_3.drop 90).take 30) gHt_3 = true := by decide +kernel
theorem gOk_3_120 : gAll 3 ((gC_3.drop 120).take 30) gHt_3 = true := by decide +kernel
theorem gOk_3_150 : gAll 3 ((gC_3.drop 150).take 30) gHt_3 = true := by decide +kernel
theorem gOk_3_180 : gAll 3 ((gC_3.drop 180).take 30) gHt_3 = true := by decide +kernel
theorem gOk_3_210 : gAll 3 ((gC_3.drop 210).take 30) gHt_3 = true := by decide +kernel
theorem gOk_3_240 : gAll 3 ((gC_3.drop 240).take 30) gHt_3 = true := by decide +kernel
theorem gOk_3_270 : gAll 3 ((gC_3.drop 270).take 30) gHt_3 = true := by decide +kernel
theorem gOk_3_300 : gAll 3 ((gC_3.drop 300).take 30) gHt_3 = true := by decide +kernel
theorem gOk_3 : gAll 3 gC_3 gHt_3 = true := gAll_cut 3 gC_3 gHt_3 0 30 gOk_3_0 (gAll_cut 3 gC_3 gHt_3 30 30 gOk_3_30 (gAll_cut 3 gC_3 gHt_3 60 30 gOk_3_60 (gAll_cut 3 gC_3 gHt_3 90 30 gOk_3_90 (gAll_cut 3 gC_3 gHt_3 120 30 gOk_3_120 (gAll_cut 3 gC_3 gHt_3 150 30 gOk_3_150 (gAll_cut 3 gC_3 gHt_3 180 30 gOk_3_180 (gAll_cut 3 gC_3 gHt_3 210 30 gOk_3_210 (gAll_cut 3 gC_3 gHt_3 240 30 gOk_3_240 (gAll_cut 3 gC_3 gHt_3 270 30 gOk_3_270 (gAll_cut 3 gC_3 gHt_3 300 30 gOk_3_300 (gAll_nil 3 gC_3 gHt_3 330 (by decide +kernel))))))))))))
theorem gMk_4 : gMok 4 0 3 [1484, 43, 1483] = true := by decide +kernel
def gHt_4 : List (Nat × Nat × List Nat) := []
theorem gOk_4 : gAll 4 gC_4 gHt_4 = true := by decide +kernel
theorem gMk_5 : gMok 5 0 3 [1487, 43, 1486] = true := by decide +kernel
def gHt_5 : List (Nat × Nat × List Nat) := []
theorem gOk_5 : gAll 5 gC_5 gHt_5 = true := by decide +kernel
theorem gMk_6 : gMok 6 0 3 [1490, 43, 1489] = true := by decide +kernel
def gHt_6 : List (Nat × Nat × List Nat) := []
theorem gOk_6_0 : gAll 6 ((gC_6.drop 0).take 60) gHt_6 = true := by decide +kernel
theorem gOk_6_60 : gAll 6 ((gC_6.drop 60).take 60) gHt_6 = true := by decide +kernel
theorem gOk_6 : gAll 6 gC_6 gHt_6 = true := gAll_cut 6 gC_6 gHt_6 0 60 gOk_6_0 (gAll_cut 6 gC_6 gHt_6 60 60 gOk_6_60 (gAll_nil 6 gC_6 gHt_6 120 (by decide +kernel)))
theorem gMk_7 : gMok 7 0 1 [767, 43, 766] = true := by decide +kernel
def gHt_7 : List (Nat × Nat × List Nat) := []
theorem gOk_7 : gAll 7 gC_7 gHt_7 = true := by decide +kernel
theorem gMk_8 : gMok 8 0 6 [1385, 43, 1384] = true := by decide +kernel
def gHt_8 : List (Nat × Nat × List Nat) := [(8, 0, [1386]), (14, 0, [1379]), (19, 0, [1380]), (24, 0, [1382])]
theorem gOk_8 : gAll 8 gC_8 gHt_8 = true := by decide +kernel
theorem gMk_9 : gMok 9 0 5 [1473, 43, 1472] = true := by decide +kernel
def gHt_9 : List (Nat × Nat × List Nat) := [(46, 0, [1474]), (147, 0, [1474]), (169, 0, [1477]), (202, 0, [1382])]
theorem gOk_9_0 : gAll 9 ((gC_9.drop 0).take 60) gHt_9 = true := by decide +kernel
theorem gOk_9_60 : gAll 9 ((gC_9.drop 60).take 60) gHt_9 = true := by decide +kernel
theorem gOk_9 : gAll 9 gC_9 gHt_9 = true := gAll_cut 9 gC_9 gHt_9 0 60 gOk_9_0 (gAll_cut 9 gC_9 gHt_9 60 60 gOk_9_60 (gAll_nil 9 gC_9 gHt_9 120 (by decide +kernel)))
theorem gMk_10 : gMok 10 0 2 [1507, 43, 1506] = true := by decide +kernel
def gHt_10 : List (Nat × Nat × List Nat) := [(6, 0, [1383]), (9, 0, [1379]), (37, 0, [1383]), (70, 0, [1383]), (83, 0, [1383]), (96, 0, [1383]), (109, 0, [1383]), (152, 0, [1383]), (191, 0, [1508]), (205, 0, [1509]), (219, 0, [1510]), (239, 0, [1383]), (244, 0, [1511]), (253, 0, [1521]), (269, 0, [1383]), (272, 0, [1379])]
theorem gOk_10_0 : gAll 10 ((gC_10.drop 0).take 60) gHt_10 = true := by decide +kernel
theorem gOk_10_60 : gAll 10 ((gC_10.drop 60).take 60) gHt_10 = true := by decide +kernel
theorem gOk_10_120 : gAll 10 ((gC_10.drop 120).take 60) gHt_10 = true := by decide +kernel
theorem gOk_10 : gAll 10 gC_10 gHt_10 = true := gAll_cut 10 gC_10 gHt_10 0 60 gOk_10_0 (gAll_cut 10 gC_10 gHt_10 60 60 gOk_10_60 (gAll_cut 10 gC_10 gHt_10 120 60 gOk_10_120 (gAll_nil 10 gC_10 gHt_10 180 (by decide +kernel))))
theorem gMk_11 : gMok 11 0 6 [1527, 43, 1526] = true := by decide +kernel
def gHt_11 : List (Nat × Nat × List Nat) := [(9, 0, [768]), (16, 0, [1381]), (35, 0, [1383]), (38, 0, [1382]), (52, 0, [768]), (88, 0, [1471]), (95, 0, [1382]), (109, 0, [768]), (124, 0, [1383]), (159, 0, [768]), (175, 0, [768]), (210, 0, [1471]), (217, 0, [1382]), (231, 0, [768]), (246, 0, [1383]), (281, 0, [768]), (297, 0, [768]), (312, 0, [768]), (315, 0, [1379])]
theorem gOk_11_0 : gAll 11 ((gC_11.drop 0).take 60) gHt_11 = true := by decide +kernel
theorem gOk_11_60 : gAll 11 ((gC_11.drop 60).take 60) gHt_11 = true := by decide +kernel
theorem gOk_11_120 : gAll 11 ((gC_11.drop 120).take 60) gHt_11 = true := by decide +kernel
theorem gOk_11_180 : gAll 11 ((gC_11.drop 180).take 60) gHt_11 = true := by decide +kernel
theorem gOk_11 : gAll 11 gC_11 gHt_11 = true := gAll_cut 11 gC_11 gHt_11 0 60 gOk_11_0 (gAll_cut 11 gC_11 gHt_11 60 60 gOk_11_60 (gAll_cut 11 gC_11 gHt_11 120 60 gOk_11_120 (gAll_cut 11 gC_11 gHt_11 180 60 gOk_11_180 (gAll_nil 11 gC_11 gHt_11 240 (by decide +kernel)))))
theorem gMk_12 : gMok 12 0 2 [762, 43, 761] = true := by decide +kernel
def gHt_12 : List (Nat × Nat × List Nat) := [(0, 0, [763]), (33, 0, [764])]
theorem gOk_12 : gAll 12 gC_12 gHt_12 = true := by decide +kernel
theorem gMk_13 : gMok 13 0 7 [792, 43, 791] = true := by decide +kernel
def gHt_13 : List (Nat × Nat × List Nat) := [(87, 0, [793]), (96, 0, [865]), (103, 0, [1020]), (112, 0, [1024]), (121, 0, [1028]), (134, 0, [1032]), (139, 0, [1073]), (145, 0, [1093]), (152, 0, [1110]), (158, 0, [1142]), (164, 0, [1159]), (170, 0, [1163]), (176, 0, [1167]), (182, 0, [1172]), (188, 0, [1253]), (193, 0, [1320]), (198, 0, [1324]), (204, 0, [1364])]
theorem gOk_13_0 : gAll 13 ((gC_13.drop 0).take 60) gHt_13 = true := by decide +kernel
theorem gOk_13_60 : gAll 13 ((gC_13.drop 60).take 60) gHt_13 = true := by decide +kernel
theorem gOk_13 : gAll 13 gC_13 gHt_13 = true := gAll_cut 13 gC_13 gHt_13 0 60 gOk_13_0 (gAll_cut 13 gC_13 gHt_13 60 60 gOk_13_60 (gAll_nil 13 gC_13 gHt_13 120 (by decide +kernel)))
theorem gMk_14 : gMok 14 0 7 [1496, 43, 1495] = true := by decide +kernel
def gHt_14 : List (Nat × Nat × List Nat) := [(2, 0, [1363])]
theorem gOk_14_0 : gAll 14 ((gC_14.drop 0).take 60) gHt_14 = true := by decide +kernel
theorem gOk_14_60 : gAll 14 ((gC_14.drop 60).take 60) gHt_14 = true := by decide +kernel
theorem gOk_14 : gAll 14 gC_14 gHt_14 = true := gAll_cut 14 gC_14 gHt_14 0 60 gOk_14_0 (gAll_cut 14 gC_14 gHt_14 60 60 gOk_14_60 (gAll_nil 14 gC_14 gHt_14 120 (by decide +kernel)))
theorem gMk_15 : gMok 15 0 6 [1388, 43, 1387] = true := by decide +kernel
def gHt_15 : List (Nat × Nat × List Nat) := [(69, 0, [1389]), (78, 0, [1398]), (84, 0, [1402]), (90, 0, [1407]), (97, 0, [1411]), (106, 0, [1420]), (115, 0, [1429]), (124, 0, [1433]), (134, 0, [1437]), (144, 0, [1437]), (155, 0, [1441]), (158, 0, [765]), (165, 0, [1445]), (172, 0, [1463])]
theorem gOk_15_0 : gAll 15 ((gC_15.drop 0).take 60) gHt_15 = true := by decide +kernel
theorem gOk_15_60 : gAll 15 ((gC_15.drop 60).take 60) gHt_15 = true := by decide +kernel
theorem gOk_15 : gAll 15 gC_15 gHt_15 = true := gAll_cut 15 gC_15 gHt_15 0 60 gOk_15_0 (gAll_cut 15 gC_15 gHt_15 60 60 gOk_15_60 (gAll_nil 15 gC_15 gHt_15 120 (by decide +kernel)))
theorem gMk_16 : gMok 16 0 2 [1476, 43, 1475] = true := by decide +kernel
def gHt_16 : List (Nat × Nat × List Nat) := []
theorem gOk_16 : gAll 16 gC_16 gHt_16 = true := by decide +kernel
theorem gMk_17 : gMok 17 0 3 [1479, 43, 1478] = true := by decide +kernel
def gHt_17 : List (Nat × Nat × List Nat) := [(20, 0, [1480]), (28, 0, [1481])]
theorem gOk_17 : gAll 17 gC_17 gHt_17 = true := by decide +kernel
theorem gMk_18 : gMok 18 2 0 [84, 44, 83] = true := by decide +kernel
def gHt_18 : List (Nat × Nat × List Nat) := [(1, 0, [85, 86, 87]), (5, 0, [88, 89, 47]), (9, 0, [90]), (12, 0, [133]), (16, 0, [88, 89, 47]), (20, 0, [90]), (23, 0, [134]), (27, 0, [88, 89, 47]), (31, 0, [90]), (34, 0, [135]), (38, 0, [88, 89, 47]), (42, 0, [90]), (45, 0, [136]), (49, 0, [88, 89, 47]), (53, 0, [90]), (56, 0, [137]), (60, 0, [114, 115, 48]), (64, 0, [116]), (67, 0, [138]), (71, 0, [88, 89, 47]), (75, 0, [90]), (78, 0, [139])]
theorem gOk_18 : gAll 18 gC_18 gHt_18 = true := by decide +kernel
theorem gMk_19 : gMok 19 1 1 [796, 44, 794, 795] = true := by decide +kernel
def gHt_19 : List (Nat × Nat × List Nat) := [(18, 0, [797, 58, 798, 799]), (22, 0, [798]), (29, 0, [133]), (32, 0, [196]), (39, 0, [800, 59, 809, 810]), (43, 0, [809]), (49, 0, [255, 816, 60]), (54, 0, [133]), (57, 0, [196]), (61, 0, [817]), (66, 0, [133]), (70, 0, [857]), (75, 0, [844])]
theorem gOk_19 : gAll 19 gC_19 gHt_19 = true := by decide +kernel
theorem gMk_20 : gMok 20 0 2 [956, 44, 955] = true := by decide +kernel
def gHt_20 : List (Nat × Nat × List Nat) := [(4, 0, [196]), (12, 0, [200]), (15, 0, [748]), (18, 0, [909]), (22, 0, [909]), (37, 0, [957])]
theorem gOk_20 : gAll 20 gC_20 gHt_20 = true := by decide +kernel
theorem gMk_21 : gMok 21 1 1 [890, 44, 889, 16] = true := by decide +kernel
def gHt_21 : List (Nat × Nat × List Nat) := [(2, 0, [316]), (5, 0, [326]), (15, 0, [800, 59, 891, 810]), (19, 0, [891]), (32, 0, [149]), (37, 0, [149])]
theorem gOk_21 : gAll 21 gC_21 gHt_21 = true := by decide +kernel
theorem gMk_22 : gMok 22 1 0 [246, 44, 244, 245] = true := by decide +kernel
def gHt_22 : List (Nat × Nat × List Nat) := [(1, 0, [147])]
theorem gOk_22 : gAll 22 gC_22 gHt_22 = true := by decide +kernel
theorem gMk_23 : gMok 23 1 0 [1327, 44, 1325, 1326] = true := by decide +kernel
def gHt_23 : List (Nat × Nat × List Nat) := [(1, 0, [137]), (4, 0, [196]), (11, 0, [800, 59, 1328, 810]), (15, 0, [1328]), (23, 0, [137]), (26, 0, [1329, 1330, 78]), (31, 0, [133]), (35, 0, [134]), (38, 0, [1331]), (41, 0, [857]), (46, 0, [137]), (49, 0, [196])]
theorem gOk_23 : gAll 23 gC_23 gHt_23 = true := by decide +kernel
theorem gMk_24 : gMok 24 1 1 [1371, 44, 1370, 38] = true := by decide +kernel
def gHt_24 : List (Nat × Nat × List Nat) := [(6, 0, [137]), (9, 0, [196]), (15, 0, [877, 56, 1372, 879]), (19, 0, [1372]), (27, 0, [137]), (31, 0, [200]), (34, 0, [1329])]
theorem gOk_24 : gAll 24 gC_24 gHt_24 = true := by decide +kernel
theorem gMk_25 : gMok 25 0 1 [1469, 44, 1468] = true := by decide +kernel
def gHt_25 : List (Nat × Nat × List Nat) := [(76, 0, [1470])]
theorem gOk_25 : gAll 25 gC_25 gHt_25 = true := by decide +kernel
theorem gMk_26 : gMok 26 1 0 [242, 44, 240, 241] = true := by decide +kernel
def gHt_26 : List (Nat × Nat × List Nat) := [(1, 0, [146])]
theorem gOk_26 : gAll 26 gC_26 gHt_26 = true := by decide +kernel
theorem gMk_27 : gMok 27 1 4 [1440, 44, 1438, 1439] = true := by decide +kernel
def gHt_27 : List (Nat × Nat × List Nat) := [(4, 0, [1424]), (16, 0, [993]), (24, 0, [989])]
theorem gOk_27 : gAll 27 gC_27 gHt_27 = true := by decide +kernel
theorem gMk_28 : gMok 28 1 5 [1035, 44, 1033, 1034] = true := by decide +kernel
def gHt_28 : List (Nat × Nat × List Nat) := [(2, 0, [873]), (9, 0, [880]), (36, 0, [797, 58, 1036, 799]), (40, 0, [1036]), (49, 0, [887]), (68, 0, [1037]), (77, 0, [950]), (82, 0, [134]), (85, 0, [196]), (93, 0, [134]), (96, 0, [214, 892, 67]), (102, 0, [844]), (105, 0, [748, 893, 68]), (117, 0, [894]), (123, 0, [926]), (126, 0, [857]), (136, 0, [1042]), (141, 0, [88, 89, 47]), (145, 0, [90]), (162, 0, [748, 893, 68]), (175, 0, [894]), (178, 0, [857]), (196, 0, [316]), (203, 0, [88, 89, 47]), (207, 0, [90]), (210, 0, [958]), (223, 0, [1015]), (228, 0, [145]), (233, 0, [145])]
theorem gOk_28_0 : gAll 28 ((gC_28.drop 0).take 60) gHt_28 = true := by decide +kernel
theorem gOk_28_60 : gAll 28 ((gC_28.drop 60).take 60) gHt_28 = true := by decide +kernel
theorem gOk_28_120 : gAll 28 ((gC_28.drop 120).take 60) gHt_28 = true := by decide +kernel
theorem gOk_28 : gAll 28 gC_28 gHt_28 = true := gAll_cut 28 gC_28 gHt_28 0 60 gOk_28_0 (gAll_cut 28 gC_28 gHt_28 60 60 gOk_28_60 (gAll_cut 28 gC_28 gHt_28 120 60 gOk_28_120 (gAll_nil 28 gC_28 gHt_28 180 (by decide +kernel))))
theorem gMk_29 : gMok 29 0 2 [882, 44, 881] = true := by decide +kernel
def gHt_29 : List (Nat × Nat × List Nat) := [(1, 0, [883]), (8, 0, [883]), (19, 0, [797, 58, 886, 799]), (23, 0, [886])]
theorem gOk_29 : gAll 29 gC_29 gHt_29 = true := by decide +kernel
theorem gMk_30 : gMok 30 1 1 [1166, 44, 1164, 1165] = true := by decide +kernel
def gHt_30 : List (Nat × Nat × List Nat) := [(2, 0, [1150]), (12, 0, [136]), (15, 0, [196]), (21, 0, [877, 56, 1154, 879]), (25, 0, [1154]), (32, 0, [136]), (36, 0, [1102]), (41, 0, [136]), (44, 0, [196])]
theorem gOk_30 : gAll 30 gC_30 gHt_30 = true := by decide +kernel
theorem gMk_31 : gMok 31 1 1 [1175, 44, 1173, 1174] = true := by decide +kernel
def gHt_31 : List (Nat × Nat × List Nat) := [(2, 0, [873]), (7, 0, [140]), (13, 0, [800, 59, 1176, 810]), (17, 0, [1176]), (25, 0, [1177]), (31, 0, [316]), (35, 0, [1180]), (43, 0, [1191, 76, 1200, 1201]), (47, 0, [1200]), (55, 0, [1207, 1062, 77]), (61, 0, [1208]), (64, 0, [140])]
theorem gOk_31 : gAll 31 gC_31 gHt_31 = true := by decide +kernel
theorem gMk_32 : gMok 32 1 1 [949, 44, 948, 17] = true := by decide +kernel
def gHt_32 : List (Nat × Nat × List Nat) := [(6, 0, [134]), (9, 0, [196]), (16, 0, [134]), (20, 0, [200]), (23, 0, [214]), (27, 0, [292])]
theorem gOk_32 : gAll 32 gC_32 gHt_32 = true := by decide +kernel
theorem gMk_33 : gMok 33 1 2 [342, 44, 341, 6] = true := by decide +kernel
def gHt_33 : List (Nat × Nat × List Nat) := [(1, 0, [983]), (4, 0, [343]), (13, 0, [147]), (18, 0, [147]), (23, 0, [347]), (32, 0, [354]), (42, 0, [148]), (47, 0, [148]), (52, 0, [146]), (57, 0, [146]), (62, 0, [146]), (67, 0, [146])]
theorem gOk_33 : gAll 33 gC_33 gHt_33 = true := by decide +kernel
theorem gMk_34 : gMok 34 1 0 [230, 44, 228, 229] = true := by decide +kernel
def gHt_34 : List (Nat × Nat × List Nat) := [(6, 0, [134]), (9, 0, [196]), (16, 0, [134]), (20, 0, [200]), (23, 0, [214]), (28, 0, [936]), (37, 0, [936]), (50, 0, [231])]
theorem gOk_34 : gAll 34 gC_34 gHt_34 = true := by decide +kernel
theorem gMk_35 : gMok 35 1 1 [1149, 44, 1148, 28] = true := by decide +kernel
def gHt_35 : List (Nat × Nat × List Nat) := [(2, 0, [1150]), (12, 0, [136]), (15, 0, [196]), (21, 0, [877, 56, 1154, 879]), (25, 0, [1154]), (32, 0, [136]), (36, 0, [200]), (39, 0, [1119])]
theorem gOk_35 : gAll 35 gC_35 gHt_35 = true := by decide +kernel
theorem gMk_36 : gMok 36 1 2 [1524, 44, 1522, 1523] = true := by decide +kernel
def gHt_36 : List (Nat × Nat × List Nat) := [(3, 0, [1415]), (7, 0, [1180])]
theorem gOk_36 : gAll 36 gC_36 gHt_36 = true := by decide +kernel
theorem gMk_37 : gMok 37 1 2 [1466, 44, 1464, 1465] = true := by decide +kernel
def gHt_37 : List (Nat × Nat × List Nat) := [(3, 0, [1415]), (7, 0, [1180]), (10, 0, [1467])]
theorem gOk_37 : gAll 37 gC_37 gHt_37 = true := by decide +kernel
theorem gMk_38 : gMok 38 0 2 [1182, 44, 1181] = true := by decide +kernel
def gHt_38 : List (Nat × Nat × List Nat) := [(29, 0, [326]), (33, 0, [1183]), (39, 0, [1184]), (43, 0, [1189]), (49, 0, [1184]), (53, 0, [1190])]
theorem gOk_38 : gAll 38 gC_38 gHt_38 = true := by decide +kernel
theorem gMk_39 : gMok 39 1 2 [1023, 44, 1021, 1022] = true := by decide +kernel
def gHt_39 : List (Nat × Nat × List Nat) := [(6, 0, [869])]
theorem gOk_39 : gAll 39 gC_39 gHt_39 = true := by decide +kernel
theorem gMk_40 : gMok 40 1 3 [1027, 44, 1025, 1026] = true := by decide +kernel
def gHt_40 : List (Nat × Nat × List Nat) := [(6, 0, [869])]
theorem gOk_40 : gAll 40 gC_40 gHt_40 = true := by decide +kernel
theorem gMk_41 : gMok 41 1 1 [1262, 44, 1261, 33] = true := by decide +kernel
def gHt_41 : List (Nat × Nat × List Nat) := [(2, 0, [1237]), (7, 0, [1237]), (12, 0, [1263]), (15, 0, [1236]), (19, 0, [1236]), (29, 0, [1271]), (37, 0, [1288])]
theorem gOk_41 : gAll 41 gC_41 gHt_41 = true := by decide +kernel
theorem gMk_42 : gMok 42 1 1 [1287, 44, 1286, 36] = true := by decide +kernel
def gHt_42 : List (Nat × Nat × List Nat) := [(17, 0, [139]), (20, 0, [196]), (27, 0, [139]), (31, 0, [200]), (34, 0, [748]), (37, 0, [900])]
theorem gOk_42 : gAll 42 gC_42 gHt_42 = true := by decide +kernel
theorem gMk_43 : gMok 43 0 2 [1314, 44, 1313] = true := by decide +kernel
def gHt_43 : List (Nat × Nat × List Nat) := [(6, 0, [196]), (16, 0, [200]), (19, 0, [748]), (22, 0, [909]), (30, 0, [196]), (38, 0, [200]), (41, 0, [748]), (44, 0, [909])]
theorem gOk_43 : gAll 43 gC_43 gHt_43 = true := by decide +kernel
theorem gMk_44 : gMok 44 0 2 [1311, 44, 1310] = true := by decide +kernel
def gHt_44 : List (Nat × Nat × List Nat) := [(2, 0, [1312]), (8, 0, [196]), (16, 0, [1312])]
theorem gOk_44 : gAll 44 gC_44 gHt_44 = true := by decide +kernel
theorem gMk_45 : gMok 45 1 3 [1432, 44, 1430, 1431] = true := by decide +kernel
def gHt_45 : List (Nat × Nat × List Nat) := [(4, 0, [1424]), (7, 0, [983]), (10, 0, [196])]
theorem gOk_45 : gAll 45 gC_45 gHt_45 = true := by decide +kernel
theorem gMk_46 : gMok 46 1 0 [250, 44, 248, 249] = true := by decide +kernel
def gHt_46 : List (Nat × Nat × List Nat) := [(1, 0, [148])]
theorem gOk_46 : gAll 46 gC_46 gHt_46 = true := by decide +kernel
theorem gMk_47 : gMok 47 1 1 [876, 44, 875, 15] = true := by decide +kernel
def gHt_47 : List (Nat × Nat × List Nat) := [(6, 0, [133]), (9, 0, [196]), (15, 0, [877, 56, 878, 879]), (19, 0, [878]), (27, 0, [133]), (31, 0, [200]), (34, 0, [255])]
theorem gOk_47 : gAll 47 gC_47 gHt_47 = true := by decide +kernel
theorem gMk_48 : gMok 48 1 3 [1423, 44, 1421, 1422] = true := by decide +kernel
def gHt_48 : List (Nat × Nat × List Nat) := [(4, 0, [1424]), (7, 0, [980])]
theorem gOk_48 : gAll 48 gC_48 gHt_48 = true := by decide +kernel
theorem gMk_49 : gMok 49 1 3 [752, 44, 751, 12] = true := by decide +kernel
def gHt_49 : List (Nat × Nat × List Nat) := [(1, 0, [138]), (4, 0, [284]), (8, 0, [134]), (11, 0, [196]), (24, 0, [138]), (27, 0, [123]), (34, 0, [134]), (39, 0, [200]), (42, 0, [214]), (50, 0, [753]), (58, 0, [932]), (61, 0, [904]), (71, 0, [297]), (78, 0, [138]), (83, 0, [932]), (87, 0, [848]), (90, 0, [305])]
theorem gOk_49 : gAll 49 gC_49 gHt_49 = true := by decide +kernel
theorem gMk_50 : gMok 50 1 1 [1291, 44, 1290, 37] = true := by decide +kernel
def gHt_50 : List (Nat × Nat × List Nat) := [(1, 0, [1226]), (6, 0, [1292]), (12, 0, [1228]), (15, 0, [316]), (22, 0, [1228]), (27, 0, [316]), (35, 0, [1230]), (38, 0, [1301]), (44, 0, [1230]), (47, 0, [1301]), (53, 0, [1234]), (56, 0, [836]), (71, 0, [1232]), (74, 0, [196]), (88, 0, [1232]), (91, 0, [196]), (98, 0, [1232]), (103, 0, [1309]), (111, 0, [1232]), (114, 0, [196]), (121, 0, [1232]), (126, 0, [200]), (129, 0, [748]), (132, 0, [909]), (144, 0, [88, 89, 47]), (148, 0, [90]), (167, 0, [1232]), (170, 0, [196]), (179, 0, [1232]), (184, 0, [200]), (187, 0, [748]), (190, 0, [857]), (205, 0, [1315]), (212, 0, [343]), (220, 0, [343]), (234, 0, [958]), (238, 0, [1015]), (259, 0, [145]), (264, 0, [145]), (269, 0, [140])]
theorem gOk_50_0 : gAll 50 ((gC_50.drop 0).take 60) gHt_50 = true := by decide +kernel
theorem gOk_50_60 : gAll 50 ((gC_50.drop 60).take 60) gHt_50 = true := by decide +kernel
theorem gOk_50_120 : gAll 50 ((gC_50.drop 120).take 60) gHt_50 = true := by decide +kernel
theorem gOk_50 : gAll 50 gC_50 gHt_50 = true := gAll_cut 50 gC_50 gHt_50 0 60 gOk_50_0 (gAll_cut 50 gC_50 gHt_50 60 60 gOk_50_60 (gAll_cut 50 gC_50 gHt_50 120 60 gOk_50_120 (gAll_nil 50 gC_50 gHt_50 180 (by decide +kernel))))
theorem gMk_51 : gMok 51 1 1 [1170, 44, 1168, 1169] = true := by decide +kernel
def gHt_51 : List (Nat × Nat × List Nat) := [(2, 0, [873]), (8, 0, [946]), (14, 0, [800, 59, 1171, 810]), (18, 0, [1171]), (27, 0, [950])]
theorem gOk_51 : gAll 51 gC_51 gHt_51 = true := by decide +kernel
theorem gMk_52 : gMok 52 1 1 [953, 44, 952, 18] = true := by decide +kernel
def gHt_52 : List (Nat × Nat × List Nat) := [(0, 0, [88, 89, 47]), (4, 0, [90]), (8, 0, [88, 89, 47]), (12, 0, [90]), (22, 0, [134]), (25, 0, [196]), (32, 0, [134]), (37, 0, [200]), (40, 0, [214]), (48, 0, [292]), (57, 0, [936]), (62, 0, [932]), (65, 0, [900]), (75, 0, [932]), (78, 0, [857]), (88, 0, [932]), (91, 0, [954]), (104, 0, [958]), (111, 0, [316]), (117, 0, [1015]), (122, 0, [145]), (127, 0, [145]), (132, 0, [980])]
theorem gOk_52_0 : gAll 52 ((gC_52.drop 0).take 60) gHt_52 = true := by decide +kernel
theorem gOk_52_60 : gAll 52 ((gC_52.drop 60).take 60) gHt_52 = true := by decide +kernel
theorem gOk_52 : gAll 52 gC_52 gHt_52 = true := gAll_cut 52 gC_52 gHt_52 0 60 gOk_52_0 (gAll_cut 52 gC_52 gHt_52 60 60 gOk_52_60 (gAll_nil 52 gC_52 gHt_52 120 (by decide +kernel)))
theorem gMk_53 : gMok 53 1 0 [234, 44, 233, 0] = true := by decide +kernel
def gHt_53 : List (Nat × Nat × List Nat) := [(2, 0, [140]), (6, 0, [135]), (9, 0, [235]), (13, 0, [136]), (16, 0, [235])]
theorem gOk_53 : gAll 53 gC_53 gHt_53 = true := by decide +kernel
theorem gMk_54 : gMok 54 1 0 [1396, 44, 1395, 39] = true := by decide +kernel
def gHt_54 : List (Nat × Nat × List Nat) := [(1, 0, [138]), (4, 0, [121]), (10, 0, [1191, 76, 1397, 1201]), (14, 0, [1397]), (21, 0, [138]), (24, 0, [125])]
theorem gOk_54 : gAll 54 gC_54 gHt_54 = true := by decide +kernel
theorem gMk_55 : gMok 55 1 3 [1392, 44, 1390, 1391] = true := by decide +kernel
def gHt_55 : List (Nat × Nat × List Nat) := [(2, 0, [873]), (9, 0, [1114]), (16, 0, [880]), (26, 0, [280]), (30, 0, [1393])]
theorem gOk_55 : gAll 55 gC_55 gHt_55 = true := by decide +kernel
theorem gMk_56 : gMok 56 1 3 [1401, 44, 1399, 1400] = true := by decide +kernel
def gHt_56 : List (Nat × Nat × List Nat) := [(2, 0, [873]), (9, 0, [1114]), (16, 0, [880]), (25, 0, [749]), (29, 0, [1393])]
theorem gOk_56 : gAll 56 gC_56 gHt_56 = true := by decide +kernel
theorem gMk_57 : gMok 57 1 1 [279, 44, 278, 1] = true := by decide +kernel
def gHt_57 : List (Nat × Nat × List Nat) := [(12, 0, [134]), (15, 0, [196]), (19, 0, [280]), (23, 0, [138]), (26, 0, [121]), (31, 0, [138]), (34, 0, [125]), (43, 0, [134]), (46, 0, [196]), (49, 0, [749]), (54, 0, [138]), (57, 0, [121]), (70, 0, [138]), (73, 0, [125])]
theorem gOk_57 : gAll 57 gC_57 gHt_57 = true := by decide +kernel
theorem gMk_58 : gMok 58 1 1 [1410, 44, 1408, 1409] = true := by decide +kernel
def gHt_58 : List (Nat × Nat × List Nat) := [(3, 0, [873]), (6, 0, [946])]
theorem gOk_58 : gAll 58 gC_58 gHt_58 = true := by decide +kernel
theorem gMk_59 : gMok 59 1 4 [1049, 44, 1048, 22] = true := by decide +kernel
def gHt_59 : List (Nat × Nat × List Nat) := [(2, 0, [316]), (8, 0, [1050]), (17, 0, [140]), (34, 0, [1055])]
theorem gOk_59 : gAll 59 gC_59 gHt_59 = true := by decide +kernel
theorem gMk_60 : gMok 60 0 1 [885, 44, 884] = true := by decide +kernel
def gHt_60 : List (Nat × Nat × List Nat) := []
theorem gOk_60 : gAll 60 gC_60 gHt_60 = true := by decide +kernel
theorem gMk_61 : gMok 61 1 0 [191, 44, 189, 190] = true := by decide +kernel
def gHt_61 : List (Nat × Nat × List Nat) := [(1, 0, [140])]
theorem gOk_61 : gAll 61 gC_61 gHt_61 = true := by decide +kernel
theorem gMk_62 : gMok 62 1 0 [254, 44, 252, 253] = true := by decide +kernel
def gHt_62 : List (Nat × Nat × List Nat) := [(4, 0, [133]), (7, 0, [196]), (14, 0, [133]), (18, 0, [200]), (21, 0, [255]), (26, 0, [256]), (34, 0, [276])]
theorem gOk_62 : gAll 62 gC_62 gHt_62 = true := by decide +kernel
theorem gMk_63 : gMok 63 1 2 [1158, 44, 1157, 30] = true := by decide +kernel
def gHt_63 : List (Nat × Nat × List Nat) := [(2, 0, [1128]), (7, 0, [1130]), (10, 0, [749]), (14, 0, [138]), (17, 0, [121])]
theorem gOk_63 : gAll 63 gC_63 gHt_63 = true := by decide +kernel
theorem gMk_64 : gMok 64 1 3 [1040, 44, 1039, 20] = true := by decide +kernel
def gHt_64 : List (Nat × Nat × List Nat) := [(6, 0, [134]), (9, 0, [196]), (16, 0, [134]), (21, 0, [200]), (24, 0, [214]), (32, 0, [292]), (40, 0, [932]), (45, 0, [1041])]
theorem gOk_64 : gAll 64 gC_64 gHt_64 = true := by decide +kernel
theorem gMk_65 : gMok 65 1 2 [1278, 44, 1277, 35] = true := by decide +kernel
def gHt_65 : List (Nat × Nat × List Nat) := [(4, 0, [139]), (7, 0, [196]), (20, 0, [139]), (24, 0, [200]), (27, 0, [748]), (34, 0, [904]), (43, 0, [900]), (57, 0, [900])]
theorem gOk_65 : gAll 65 gC_65 gHt_65 = true := by decide +kernel
theorem gMk_66 : gMok 66 0 1 [1294, 44, 1293] = true := by decide +kernel
def gHt_66 : List (Nat × Nat × List Nat) := [(0, 0, [88, 89, 47]), (4, 0, [90]), (12, 0, [1230]), (15, 0, [196]), (22, 0, [1230]), (26, 0, [200]), (29, 0, [330]), (32, 0, [985]), (42, 0, [196]), (51, 0, [200]), (54, 0, [748]), (60, 0, [1226]), (64, 0, [1228]), (71, 0, [909]), (76, 0, [912]), (79, 0, [1279]), (88, 0, [1295]), (97, 0, [857])]
theorem gOk_66 : gAll 66 gC_66 gHt_66 = true := by decide +kernel
theorem gMk_67 : gMok 67 1 0 [1500, 44, 1498, 1499] = true := by decide +kernel
def gHt_67 : List (Nat × Nat × List Nat) := [(1, 0, [134]), (4, 0, [196])]
theorem gOk_67 : gAll 67 gC_67 gHt_67 = true := by decide +kernel
theorem gMk_68 : gMok 68 1 2 [1418, 44, 1417, 40] = true := by decide +kernel
def gHt_68 : List (Nat × Nat × List Nat) := [(2, 0, [873]), (15, 0, [877, 56, 1419, 879]), (19, 0, [1419]), (28, 0, [316])]
theorem gOk_68 : gAll 68 gC_68 gHt_68 = true := by decide +kernel
theorem gMk_69 : gMok 69 1 3 [1045, 44, 1044, 21] = true := by decide +kernel
def gHt_69 : List (Nat × Nat × List Nat) := [(18, 0, [1046])]
theorem gOk_69 : gAll 69 gC_69 gHt_69 = true := by decide +kernel
theorem gMk_70 : gMok 70 1 0 [218, 44, 216, 217] = true := by decide +kernel
def gHt_70 : List (Nat × Nat × List Nat) := [(8, 0, [134]), (11, 0, [196]), (18, 0, [134]), (22, 0, [200]), (25, 0, [214]), (36, 0, [219]), (54, 0, [936]), (62, 0, [223])]
theorem gOk_70 : gAll 70 gC_70 gHt_70 = true := by decide +kernel
theorem gMk_71 : gMok 71 1 4 [283, 44, 282, 2] = true := by decide +kernel
def gHt_71 : List (Nat × Nat × List Nat) := [(1, 0, [138]), (4, 0, [284]), (11, 0, [288]), (26, 0, [316]), (38, 0, [326]), (45, 0, [138]), (48, 0, [123]), (56, 0, [833]), (61, 0, [200]), (64, 0, [330]), (73, 0, [331]), (87, 0, [335])]
theorem gOk_71 : gAll 71 gC_71 gHt_71 = true := by decide +kernel
theorem gMk_72 : gMok 72 1 3 [291, 44, 290, 3] = true := by decide +kernel
def gHt_72 : List (Nat × Nat × List Nat) := [(1, 0, [134]), (4, 0, [196]), (17, 0, [138]), (20, 0, [123]), (27, 0, [134]), (32, 0, [200]), (35, 0, [214]), (43, 0, [292]), (51, 0, [932]), (54, 0, [904]), (64, 0, [297]), (71, 0, [138]), (76, 0, [932]), (80, 0, [848]), (83, 0, [305])]
theorem gOk_72 : gAll 72 gC_72 gHt_72 = true := by decide +kernel
theorem gMk_73 : gMok 73 1 5 [338, 44, 337, 5] = true := by decide +kernel
def gHt_73 : List (Nat × Nat × List Nat) := [(8, 0, [339]), (12, 0, [139]), (15, 0, [235]), (21, 0, [139]), (24, 0, [360]), (33, 0, [139]), (36, 0, [196]), (43, 0, [138]), (46, 0, [123]), (53, 0, [139]), (58, 0, [200]), (61, 0, [748]), (68, 0, [904]), (77, 0, [138]), (83, 0, [848]), (86, 0, [305])]
theorem gOk_73 : gAll 73 gC_73 gHt_73 = true := by decide +kernel
theorem gMk_74 : gMok 74 1 3 [961, 44, 960, 19] = true := by decide +kernel
def gHt_74 : List (Nat × Nat × List Nat) := [(2, 0, [143]), (7, 0, [143]), (10, 0, [330, 962, 73]), (15, 0, [143]), (21, 0, [963]), (28, 0, [144]), (33, 0, [1011]), (37, 0, [144])]
theorem gOk_74 : gAll 74 gC_74 gHt_74 = true := by decide +kernel
theorem gMk_75 : gMok 75 1 3 [1031, 44, 1029, 1030] = true := by decide +kernel
def gHt_75 : List (Nat × Nat × List Nat) := [(6, 0, [869])]
theorem gOk_75 : gAll 75 gC_75 gHt_75 = true := by decide +kernel
theorem gMk_76 : gMok 76 1 1 [1117, 44, 1116, 27] = true := by decide +kernel
def gHt_76 : List (Nat × Nat × List Nat) := [(6, 0, [134]), (9, 0, [196]), (15, 0, [1097]), (25, 0, [135]), (28, 0, [196]), (34, 0, [877, 56, 1101, 879]), (38, 0, [1101]), (45, 0, [135]), (49, 0, [200]), (52, 0, [1078]), (55, 0, [1087])]
theorem gOk_76 : gAll 76 gC_76 gHt_76 = true := by decide +kernel
theorem gMk_77 : gMok 77 0 1 [1179, 44, 1178] = true := by decide +kernel
def gHt_77 : List (Nat × Nat × List Nat) := [(11, 0, [316]), (15, 0, [1180]), (20, 0, [316]), (24, 0, [1180])]
theorem gOk_77 : gAll 77 gC_77 gHt_77 = true := by decide +kernel
theorem gMk_78 : gMok 78 1 1 [1145, 44, 1143, 1144] = true := by decide +kernel
def gHt_78 : List (Nat × Nat × List Nat) := [(2, 0, [1146]), (7, 0, [1132]), (22, 0, [1155]), (30, 0, [1132]), (44, 0, [1132])]
theorem gOk_78 : gAll 78 gC_78 gHt_78 = true := by decide +kernel
theorem gMk_79 : gMok 79 1 2 [1113, 44, 1111, 1112] = true := by decide +kernel
def gHt_79 : List (Nat × Nat × List Nat) := [(2, 0, [873]), (8, 0, [1114]), (14, 0, [136]), (17, 0, [196]), (24, 0, [800, 59, 1118, 810]), (28, 0, [1118]), (34, 0, [1119, 1120, 75]), (39, 0, [142]), (45, 0, [1121]), (52, 0, [142]), (57, 0, [142]), (61, 0, [136]), (66, 0, [857]), (72, 0, [1126])]
theorem gOk_79 : gAll 79 gC_79 gHt_79 = true := by decide +kernel
theorem gMk_80 : gMok 80 0 3 [1317, 44, 1316] = true := by decide +kernel
def gHt_80 : List (Nat × Nat × List Nat) := [(0, 0, [88, 89, 47]), (4, 0, [90]), (14, 0, [196]), (23, 0, [200]), (26, 0, [748]), (35, 0, [1041]), (42, 0, [748, 893, 68]), (49, 0, [904]), (54, 0, [909]), (58, 0, [1318]), (63, 0, [912]), (67, 0, [1319]), (71, 0, [894]), (74, 0, [857])]
theorem gOk_80 : gAll 80 gC_80 gHt_80 = true := by decide +kernel
theorem gMk_81 : gMok 81 1 4 [1444, 44, 1442, 1443] = true := by decide +kernel
def gHt_81 : List (Nat × Nat × List Nat) := [(4, 0, [1424]), (13, 0, [880]), (20, 0, [347])]
theorem gOk_81 : gAll 81 gC_81 gHt_81 = true := by decide +kernel
theorem gMk_82 : gMok 82 1 1 [1153, 44, 1152, 29] = true := by decide +kernel
def gHt_82 : List (Nat × Nat × List Nat) := [(4, 0, [136]), (7, 0, [196]), (14, 0, [136]), (18, 0, [200]), (21, 0, [1119]), (24, 0, [1126])]
theorem gOk_82 : gAll 82 gC_82 gHt_82 = true := by decide +kernel
theorem gMk_83 : gMok 83 1 1 [1100, 44, 1099, 25] = true := by decide +kernel
def gHt_83 : List (Nat × Nat × List Nat) := [(4, 0, [135]), (7, 0, [196]), (14, 0, [135]), (18, 0, [200]), (21, 0, [1078]), (24, 0, [1085])]
theorem gOk_83 : gAll 83 gC_83 gHt_83 = true := by decide +kernel
theorem gMk_84 : gMok 84 1 1 [1162, 44, 1160, 1161] = true := by decide +kernel
def gHt_84 : List (Nat × Nat × List Nat) := [(2, 0, [1146]), (7, 0, [1132]), (20, 0, [1155]), (28, 0, [1132]), (41, 0, [1132])]
theorem gOk_84 : gAll 84 gC_84 gHt_84 = true := by decide +kernel
theorem gMk_85 : gMok 85 1 3 [868, 44, 866, 867] = true := by decide +kernel
def gHt_85 : List (Nat × Nat × List Nat) := [(6, 0, [869])]
theorem gOk_85 : gAll 85 gC_85 gHt_85 = true := by decide +kernel
theorem gMk_86 : gMok 86 1 3 [1436, 44, 1434, 1435] = true := by decide +kernel
def gHt_86 : List (Nat × Nat × List Nat) := [(4, 0, [1424]), (7, 0, [985]), (10, 0, [196])]
theorem gOk_86 : gAll 86 gC_86 gHt_86 = true := by decide +kernel
theorem gMk_87 : gMok 87 1 1 [1096, 44, 1094, 1095] = true := by decide +kernel
def gHt_87 : List (Nat × Nat × List Nat) := [(2, 0, [1097]), (12, 0, [135]), (15, 0, [196]), (21, 0, [877, 56, 1101, 879]), (25, 0, [1101]), (32, 0, [135]), (36, 0, [1102]), (41, 0, [135]), (44, 0, [196])]
theorem gOk_87 : gAll 87 gC_87 gHt_87 = true := by decide +kernel
theorem gMk_88 : gMok 88 1 1 [1367, 44, 1365, 1366] = true := by decide +kernel
def gHt_88 : List (Nat × Nat × List Nat) := [(2, 0, [1368]), (14, 0, [133]), (17, 0, [196]), (24, 0, [133]), (29, 0, [200]), (32, 0, [255]), (40, 0, [1355]), (43, 0, [196]), (52, 0, [1355]), (57, 0, [200]), (60, 0, [255]), (63, 0, [1373]), (71, 0, [255, 816, 60]), (77, 0, [844]), (82, 0, [848]), (85, 0, [817]), (88, 0, [1373]), (94, 0, [1374]), (111, 0, [134]), (114, 0, [196]), (121, 0, [134]), (126, 0, [200]), (129, 0, [214]), (135, 0, [1357]), (143, 0, [1357]), (153, 0, [936]), (163, 0, [231]), (168, 0, [145]), (173, 0, [145])]
theorem gOk_88_0 : gAll 88 ((gC_88.drop 0).take 60) gHt_88 = true := by decide +kernel
theorem gOk_88_60 : gAll 88 ((gC_88.drop 60).take 60) gHt_88 = true := by decide +kernel
theorem gOk_88 : gAll 88 gC_88 gHt_88 = true := gAll_cut 88 gC_88 gHt_88 0 60 gOk_88_0 (gAll_cut 88 gC_88 gHt_88 60 60 gOk_88_60 (gAll_nil 88 gC_88 gHt_88 120 (by decide +kernel)))
theorem gMk_89 : gMok 89 1 3 [1427, 44, 1426, 41] = true := by decide +kernel
def gHt_89 : List (Nat × Nat × List Nat) := [(3, 0, [1415]), (15, 0, [326]), (21, 0, [877, 56, 1428, 879]), (25, 0, [1428]), (34, 0, [833]), (38, 0, [200]), (41, 0, [330])]
theorem gOk_89 : gAll 89 gC_89 gHt_89 = true := by decide +kernel
theorem gMk_90 : gMok 90 1 2 [1414, 44, 1412, 1413] = true := by decide +kernel
def gHt_90 : List (Nat × Nat × List Nat) := [(3, 0, [1415]), (6, 0, [326])]
theorem gOk_90 : gAll 90 gC_90 gHt_90 = true := by decide +kernel
theorem gMk_91 : gMok 91 1 2 [1448, 44, 1446, 1447] = true := by decide +kernel
def gHt_91 : List (Nat × Nat × List Nat) := [(2, 0, [1368]), (8, 0, [1368]), (22, 0, [1355]), (25, 0, [196]), (35, 0, [1355]), (38, 0, [196]), (47, 0, [1355]), (52, 0, [200]), (55, 0, [255]), (60, 0, [1355]), (65, 0, [200]), (68, 0, [255]), (71, 0, [1449])]
theorem gOk_91 : gAll 91 gC_91 gHt_91 = true := by decide +kernel
theorem gMk_92 : gMok 92 1 1 [1274, 44, 1273, 34] = true := by decide +kernel
def gHt_92 : List (Nat × Nat × List Nat) := [(1, 0, [139]), (4, 0, [235]), (11, 0, [1230]), (14, 0, [196]), (21, 0, [1230]), (25, 0, [200]), (28, 0, [330]), (32, 0, [1236]), (36, 0, [139]), (39, 0, [360]), (49, 0, [139]), (52, 0, [196]), (55, 0, [1010]), (60, 0, [134]), (63, 0, [196]), (67, 0, [1275]), (74, 0, [135]), (77, 0, [196]), (85, 0, [135]), (89, 0, [200]), (92, 0, [1078]), (95, 0, [1087]), (99, 0, [1275]), (112, 0, [136]), (115, 0, [196]), (123, 0, [136]), (127, 0, [200]), (130, 0, [1119]), (133, 0, [1130]), (137, 0, [1275]), (147, 0, [1226]), (151, 0, [1228]), (157, 0, [1236]), (161, 0, [1236]), (164, 0, [1279]), (172, 0, [1284]), (179, 0, [139]), (182, 0, [196]), (195, 0, [139]), (199, 0, [200]), (202, 0, [748]), (214, 0, [1232]), (219, 0, [857]), (228, 0, [900]), (237, 0, [150]), (242, 0, [150])]
theorem gOk_92_0 : gAll 92 ((gC_92.drop 0).take 60) gHt_92 = true := by decide +kernel
theorem gOk_92_60 : gAll 92 ((gC_92.drop 60).take 60) gHt_92 = true := by decide +kernel
theorem gOk_92_120 : gAll 92 ((gC_92.drop 120).take 60) gHt_92 = true := by decide +kernel
theorem gOk_92 : gAll 92 gC_92 gHt_92 = true := gAll_cut 92 gC_92 gHt_92 0 60 gOk_92_0 (gAll_cut 92 gC_92 gHt_92 60 60 gOk_92_60 (gAll_cut 92 gC_92 gHt_92 120 60 gOk_92_120 (gAll_nil 92 gC_92 gHt_92 180 (by decide +kernel))))
theorem gMk_93 : gMok 93 1 0 [1076, 44, 1074, 1075] = true := by decide +kernel
def gHt_93 : List (Nat × Nat × List Nat) := [(1, 0, [135]), (4, 0, [196]), (12, 0, [800, 59, 1077, 810]), (16, 0, [1077]), (22, 0, [1078, 1079, 74]), (27, 0, [141]), (31, 0, [134]), (34, 0, [196]), (37, 0, [1080]), (43, 0, [141]), (48, 0, [141]), (52, 0, [135]), (56, 0, [857]), (61, 0, [1085])]
theorem gOk_93 : gAll 93 gC_93 gHt_93 = true := by decide +kernel
theorem gMk_94 : gMok 94 1 0 [1323, 44, 1321, 1322] = true := by decide +kernel
def gHt_94 : List (Nat × Nat × List Nat) := [(1, 0, [140]), (9, 0, [800, 59, 1258, 810]), (13, 0, [1258]), (22, 0, [140]), (26, 0, [1237])]
theorem gOk_94 : gAll 94 gC_94 gHt_94 = true := by decide +kernel
theorem gMk_95 : gMok 95 1 0 [195, 44, 193, 194] = true := by decide +kernel
def gHt_95 : List (Nat × Nat × List Nat) := [(6, 0, [134]), (9, 0, [196]), (16, 0, [134]), (20, 0, [200]), (23, 0, [214]), (28, 0, [936]), (37, 0, [936])]
theorem gOk_95 : gAll 95 gC_95 gHt_95 = true := by decide +kernel
theorem gMk_96 : gMok 96 1 1 [1405, 44, 1403, 1404] = true := by decide +kernel
def gHt_96 : List (Nat × Nat × List Nat) := [(2, 0, [1146]), (7, 0, [1132]), (10, 0, [883]), (16, 0, [1191, 76, 1406, 1201]), (20, 0, [1406]), (28, 0, [1128]), (32, 0, [1132]), (36, 0, [1130]), (39, 0, [749]), (43, 0, [1393])]
theorem gOk_96 : gAll 96 gC_96 gHt_96 = true := by decide +kernel
theorem gMk_97 : gMok 97 1 0 [1504, 44, 1502, 1503] = true := by decide +kernel
def gHt_97 : List (Nat × Nat × List Nat) := [(1, 0, [145])]
theorem gOk_97 : gAll 97 gC_97 gHt_97 = true := by decide +kernel
theorem gMk_98 : gMok 98 1 1 [1256, 44, 1254, 1255] = true := by decide +kernel
def gHt_98 : List (Nat × Nat × List Nat) := [(11, 0, [797, 58, 1257, 799]), (15, 0, [1257]), (23, 0, [140]), (29, 0, [800, 59, 1258, 810]), (33, 0, [1258]), (43, 0, [140]), (58, 0, [1259]), (65, 0, [140])]
theorem gOk_98 : gAll 98 gC_98 gHt_98 = true := by decide +kernel
theorem gMk_99 : gMok 99 1 5 [872, 44, 871, 14] = true := by decide +kernel
def gHt_99 : List (Nat × Nat × List Nat) := [(2, 0, [873]), (10, 0, [880]), (16, 0, [887]), (20, 0, [134]), (23, 0, [196]), (31, 0, [134]), (34, 0, [214, 892, 67]), (40, 0, [844]), (43, 0, [748, 893, 68]), (55, 0, [894]), (60, 0, [926]), (63, 0, [857]), (70, 0, [946]), (81, 0, [950])]
theorem gOk_99 : gAll 99 gC_99 gHt_99 = true := by decide +kernel
theorem gMk_100 : gMok 100 2 2 [1333, 78, 1332] = true := by decide +kernel
def gHt_100 : List (Nat × Nat × List Nat) := [(1, 0, [1334, 86, 87]), (5, 0, [1335, 89, 47]), (9, 0, [1336]), (12, 0, [1354]), (19, 0, [1337]), (25, 0, [1338, 816, 60]), (31, 0, [1339]), (34, 0, [1338]), (37, 0, [843]), (42, 0, [1339]), (45, 0, [1338]), (48, 0, [847]), (51, 0, [1340]), (60, 0, [1339]), (63, 0, [1338]), (66, 0, [1341]), (70, 0, [1354]), (75, 0, [1352]), (87, 0, [1337]), (90, 0, [1363]), (92, 0, [1356]), (99, 0, [1356]), (108, 0, [1337]), (116, 0, [1339]), (119, 0, [1353]), (122, 0, [935]), (128, 0, [1356])]
theorem gOk_100_0 : gAll 100 ((gC_100.drop 0).take 60) gHt_100 = true := by decide +kernel
theorem gOk_100_60 : gAll 100 ((gC_100.drop 60).take 60) gHt_100 = true := by decide +kernel
theorem gOk_100 : gAll 100 gC_100 gHt_100 = true := gAll_cut 100 gC_100 gHt_100 0 60 gOk_100_0 (gAll_cut 100 gC_100 gHt_100 60 60 gOk_100_60 (gAll_nil 100 gC_100 gHt_100 120 (by decide +kernel)))
theorem gMk_101 : gMok 101 2 5 [896, 68, 895] = true := by decide +kernel
def gHt_101 : List (Nat × Nat × List Nat) := [(1, 0, [897, 86, 87]), (6, 0, [898]), (11, 0, [901]), (16, 0, [905]), (22, 0, [910]), (28, 0, [913])]
theorem gOk_101 : gAll 101 gC_101 gHt_101 = true := by decide +kernel
theorem gMk_102 : gMok 102 1 2 [304, 68, 302, 303] = true := by decide +kernel
def gHt_102 : List (Nat × Nat × List Nat) := [(1, 0, [905]), (10, 0, [910])]
theorem gOk_102 : gAll 102 gC_102 gHt_102 = true := by decide +kernel
theorem gMk_103 : gMok 103 2 3 [1123, 75, 1122] = true := by decide +kernel
def gHt_103 : List (Nat × Nat × List Nat) := [(1, 0, [1124, 86, 87]), (6, 0, [1131]), (11, 0, [1125]), (16, 0, [1127]), (21, 0, [1129])]
theorem gOk_103 : gAll 103 gC_103 gHt_103 = true := by decide +kernel
theorem gMk_104 : gMok 104 2 2 [819, 60, 818] = true := by decide +kernel
def gHt_104 : List (Nat × Nat × List Nat) := [(1, 0, [820, 86, 87]), (6, 0, [822, 821]), (9, 0, [849]), (14, 0, [842]), (19, 0, [846]), (26, 0, [849]), (34, 0, [849]), (38, 0, [821, 823, 61]), (42, 0, [824])]
theorem gOk_104 : gAll 104 gC_104 gHt_104 = true := by decide +kernel
theorem gMk_105 : gMok 105 1 1 [1344, 60, 1342, 1343] = true := by decide +kernel
def gHt_105 : List (Nat × Nat × List Nat) := [(4, 0, [849]), (12, 0, [849]), (19, 0, [1345]), (22, 0, [1346])]
theorem gOk_105 : gAll 105 gC_105 gHt_105 = true := by decide +kernel
theorem gMk_106 : gMok 106 1 0 [1377, 60, 1375, 1376] = true := by decide +kernel
def gHt_106 : List (Nat × Nat × List Nat) := [(6, 0, [849]), (15, 0, [849]), (20, 0, [1378])]
theorem gOk_106 : gAll 106 gC_106 gHt_106 = true := by decide +kernel
theorem gMk_107 : gMok 107 1 1 [1452, 60, 1450, 1451] = true := by decide +kernel
def gHt_107 : List (Nat × Nat × List Nat) := [(6, 0, [849]), (19, 0, [849]), (24, 0, [1378]), (32, 0, [849]), (37, 0, [832]), (42, 0, [1453]), (45, 0, [1454]), (48, 0, [1455])]
theorem gOk_107 : gAll 107 gC_107 gHt_107 = true := by decide +kernel
theorem gMk_108 : gMok 108 1 1 [319, 60, 317, 318] = true := by decide +kernel
def gHt_108 : List (Nat × Nat × List Nat) := [(1, 0, [849]), (7, 0, [849]), (13, 0, [320]), (16, 0, [323])]
theorem gOk_108 : gAll 108 gC_108 gHt_108 = true := by decide +kernel
theorem gMk_109 : gMok 109 1 1 [1458, 60, 1457, 42] = true := by decide +kernel
def gHt_109 : List (Nat × Nat × List Nat) := [(4, 0, [849]), (12, 0, [849]), (18, 0, [1459])]
theorem gOk_109 : gAll 109 gC_109 gHt_109 = true := by decide +kernel
theorem gMk_110 : gMok 110 1 0 [259, 60, 257, 258] = true := by decide +kernel
def gHt_110 : List (Nat × Nat × List Nat) := [(4, 0, [849]), (12, 0, [849]), (17, 0, [260]), (28, 0, [849]), (33, 0, [272])]
theorem gOk_110 : gAll 110 gC_110 gHt_110 = true := by decide +kernel
theorem gMk_111 : gMok 111 1 3 [1282, 60, 1280, 1281] = true := by decide +kernel
def gHt_111 : List (Nat × Nat × List Nat) := [(6, 0, [849]), (20, 0, [849]), (28, 0, [1283])]
theorem gOk_111 : gAll 111 gC_111 gHt_111 = true := by decide +kernel
theorem gMk_112 : gMok 112 2 0 [118, 48, 117] = true := by decide +kernel
def gHt_112 : List (Nat × Nat × List Nat) := [(1, 0, [119, 86, 87])]
theorem gOk_112 : gAll 112 gC_112 gHt_112 = true := by decide +kernel
theorem gMk_113 : gMok 113 1 0 [287, 48, 285, 286] = true := by decide +kernel
def gHt_113 : List (Nat × Nat × List Nat) := [(2, 0, [120]), (7, 0, [122]), (12, 0, [124])]
theorem gOk_113 : gAll 113 gC_113 gHt_113 = true := by decide +kernel
theorem gMk_114 : gMok 114 0 3 [315, 48, 314] = true := by decide +kernel
def gHt_114 : List (Nat × Nat × List Nat) := []
theorem gOk_114 : gAll 114 gC_114 gHt_114 = true := by decide +kernel
theorem gMk_115 : gMok 115 1 2 [308, 48, 306, 307] = true := by decide +kernel
def gHt_115 : List (Nat × Nat × List Nat) := [(1, 0, [899]), (9, 0, [899]), (18, 0, [914]), (22, 0, [309]), (27, 0, [899]), (39, 0, [122])]
theorem gOk_115 : gAll 115 gC_115 gHt_115 = true := by decide +kernel
theorem gMk_116 : gMok 116 1 2 [312, 48, 311, 4] = true := by decide +kernel
def gHt_116 : List (Nat × Nat × List Nat) := [(2, 0, [120]), (10, 0, [124]), (14, 0, [313]), (21, 0, [124]), (26, 0, [120])]
theorem gOk_116 : gAll 116 gC_116 gHt_116 = true := by decide +kernel
theorem gMk_117 : gMok 117 2 0 [826, 61, 825] = true := by decide +kernel
def gHt_117 : List (Nat × Nat × List Nat) := [(1, 0, [827, 86, 87]), (5, 0, [828, 89, 47]), (9, 0, [829]), (12, 0, [830]), (17, 0, [834])]
theorem gOk_117 : gAll 117 gC_117 gHt_117 = true := by decide +kernel
theorem gMk_118 : gMok 118 1 1 [1349, 61, 1347, 1348] = true := by decide +kernel
def gHt_118 : List (Nat × Nat × List Nat) := [(1, 0, [830]), (4, 0, [1350]), (11, 0, [830]), (14, 0, [264]), (21, 0, [830]), (25, 0, [830]), (29, 0, [265]), (32, 0, [266]), (35, 0, [1351]), (47, 0, [834]), (50, 0, [834])]
theorem gOk_118 : gAll 118 gC_118 gHt_118 = true := by decide +kernel
theorem gMk_119 : gMok 119 1 0 [329, 61, 327, 328] = true := by decide +kernel
def gHt_119 : List (Nat × Nat × List Nat) := [(1, 0, [830]), (4, 0, [264])]
theorem gOk_119 : gAll 119 gC_119 gHt_119 = true := by decide +kernel
theorem gMk_120 : gMok 120 1 1 [1462, 61, 1460, 1461] = true := by decide +kernel
def gHt_120 : List (Nat × Nat × List Nat) := [(4, 0, [830]), (7, 0, [264]), (14, 0, [830]), (18, 0, [265]), (21, 0, [266]), (24, 0, [979]), (28, 0, [979])]
theorem gOk_120 : gAll 120 gC_120 gHt_120 = true := by decide +kernel
theorem gMk_121 : gMok 121 1 2 [1018, 61, 1016, 1017] = true := by decide +kernel
def gHt_121 : List (Nat × Nat × List Nat) := [(8, 0, [830]), (11, 0, [264]), (18, 0, [830]), (22, 0, [265]), (25, 0, [266]), (28, 0, [988]), (32, 0, [988]), (45, 0, [830]), (50, 0, [1019])]
theorem gOk_121 : gAll 121 gC_121 gHt_121 = true := by decide +kernel
theorem gMk_122 : gMok 122 0 2 [1307, 61, 1306] = true := by decide +kernel
def gHt_122 : List (Nat × Nat × List Nat) := [(4, 0, [264]), (12, 0, [265]), (15, 0, [266]), (18, 0, [979]), (22, 0, [979])]
theorem gOk_122 : gAll 122 gC_122 gHt_122 = true := by decide +kernel
theorem gMk_123 : gMok 123 1 0 [263, 61, 261, 262] = true := by decide +kernel
def gHt_123 : List (Nat × Nat × List Nat) := [(4, 0, [830]), (7, 0, [264]), (14, 0, [830]), (18, 0, [265]), (21, 0, [266]), (24, 0, [267])]
theorem gOk_123 : gAll 123 gC_123 gHt_123 = true := by decide +kernel
theorem gMk_124 : gMok 124 1 0 [275, 61, 273, 274] = true := by decide +kernel
def gHt_124 : List (Nat × Nat × List Nat) := [(4, 0, [830]), (7, 0, [264]), (14, 0, [830]), (20, 0, [265]), (23, 0, [266]), (26, 0, [992]), (30, 0, [830]), (34, 0, [265]), (37, 0, [266]), (40, 0, [988])]
theorem gOk_124 : gAll 124 gC_124 gHt_124 = true := by decide +kernel
theorem gMk_125 : gMok 125 1 2 [1053, 61, 1051, 1052] = true := by decide +kernel
def gHt_125 : List (Nat × Nat × List Nat) := [(4, 0, [830]), (7, 0, [264]), (14, 0, [830]), (18, 0, [265]), (21, 0, [266]), (26, 0, [1054])]
theorem gOk_125 : gAll 125 gC_125 gHt_125 = true := by decide +kernel
theorem gMk_126 : gMok 126 1 1 [1304, 61, 1302, 1303] = true := by decide +kernel
def gHt_126 : List (Nat × Nat × List Nat) := [(1, 0, [830]), (4, 0, [264]), (15, 0, [830]), (19, 0, [265]), (22, 0, [266]), (26, 0, [1305]), (33, 0, [830]), (37, 0, [1308])]
theorem gOk_126 : gAll 126 gC_126 gHt_126 = true := by decide +kernel
theorem gMk_127 : gMok 127 1 0 [1187, 61, 1185, 1186] = true := by decide +kernel
def gHt_127 : List (Nat × Nat × List Nat) := [(6, 0, [830]), (9, 0, [264]), (17, 0, [830]), (21, 0, [265]), (24, 0, [266]), (27, 0, [1188])]
theorem gOk_127 : gAll 127 gC_127 gHt_127 = true := by decide +kernel
theorem gMk_128 : gMok 128 2 2 [1210, 77, 1209] = true := by decide +kernel
def gHt_128 : List (Nat × Nat × List Nat) := [(1, 0, [1211, 86, 87]), (5, 0, [1212, 89, 47]), (9, 0, [1213]), (12, 0, [1229]), (16, 0, [1212, 89, 47]), (20, 0, [1213]), (23, 0, [1231]), (28, 0, [1235]), (33, 0, [1225]), (38, 0, [1227]), (42, 0, [1214]), (47, 0, [1068]), (50, 0, [1233]), (54, 0, [1220])]
theorem gOk_128 : gAll 128 gC_128 gHt_128 = true := by decide +kernel
theorem gMk_129 : gMok 129 1 0 [1223, 77, 1222, 32] = true := by decide +kernel
def gHt_129 : List (Nat × Nat × List Nat) := [(1, 0, [1059]), (6, 0, [1225]), (10, 0, [1227]), (15, 0, [1218]), (18, 0, [831]), (26, 0, [1064]), (34, 0, [1065]), (37, 0, [1066]), (42, 0, [1233]), (45, 0, [1224]), (52, 0, [1229]), (57, 0, [1065]), (60, 0, [1066]), (63, 0, [1219])]
theorem gOk_129 : gAll 129 gC_129 gHt_129 = true := by decide +kernel
theorem gMk_130 : gMok 130 1 0 [1217, 77, 1216, 31] = true := by decide +kernel
def gHt_130 : List (Nat × Nat × List Nat) := [(1, 0, [1225]), (5, 0, [1227]), (8, 0, [1218]), (13, 0, [831]), (20, 0, [1064]), (35, 0, [1065]), (38, 0, [1066]), (41, 0, [987]), (45, 0, [835]), (66, 0, [1064]), (73, 0, [1227]), (86, 0, [1229]), (92, 0, [1065]), (95, 0, [1066]), (98, 0, [1219])]
theorem gOk_130 : gAll 130 gC_130 gHt_130 = true := by decide +kernel
theorem gMk_131 : gMok 131 1 4 [1058, 77, 1056, 1057] = true := by decide +kernel
def gHt_131 : List (Nat × Nat × List Nat) := [(1, 0, [1225]), (10, 0, [1227]), (18, 0, [1227]), (27, 0, [1059]), (37, 0, [1068])]
theorem gOk_131 : gAll 131 gC_131 gHt_131 = true := by decide +kernel
theorem gMk_132 : gMok 132 1 0 [1071, 77, 1070, 24] = true := by decide +kernel
def gHt_132 : List (Nat × Nat × List Nat) := [(6, 0, [1229]), (9, 0, [1064]), (17, 0, [1229]), (21, 0, [1065]), (24, 0, [1066]), (27, 0, [991]), (30, 0, [1072])]
theorem gOk_132 : gAll 132 gC_132 gHt_132 = true := by decide +kernel
theorem gMk_133 : gMok 133 1 1 [1298, 77, 1296, 1297] = true := by decide +kernel
def gHt_133 : List (Nat × Nat × List Nat) := [(4, 0, [1231]), (7, 0, [1064]), (14, 0, [1231]), (18, 0, [1065]), (21, 0, [1299]), (26, 0, [902]), (30, 0, [902]), (38, 0, [908]), (42, 0, [908]), (45, 0, [1300])]
theorem gOk_133 : gAll 133 gC_133 gHt_133 = true := by decide +kernel
theorem gMk_134 : gMok 134 1 0 [1063, 77, 1061, 23] = true := by decide +kernel
def gHt_134 : List (Nat × Nat × List Nat) := [(7, 0, [1229]), (10, 0, [1064]), (18, 0, [1229]), (22, 0, [1065]), (25, 0, [1066]), (28, 0, [987]), (31, 0, [1067])]
theorem gOk_134 : gAll 134 gC_134 gHt_134 = true := by decide +kernel
theorem gMk_135 : gMok 135 1 0 [1266, 77, 1264, 1265] = true := by decide +kernel
def gHt_135 : List (Nat × Nat × List Nat) := [(7, 0, [1229]), (10, 0, [1064]), (18, 0, [1229]), (22, 0, [1065]), (25, 0, [1066]), (29, 0, [1235]), (32, 0, [1267]), (35, 0, [1067])]
theorem gOk_135 : gAll 135 gC_135 gHt_135 = true := by decide +kernel
theorem gMk_136 : gMok 136 2 4 [965, 73, 964] = true := by decide +kernel
def gHt_136 : List (Nat × Nat × List Nat) := [(1, 0, [966, 86, 87]), (6, 0, [978]), (11, 0, [981]), (16, 0, [982]), (22, 0, [984]), (27, 0, [967]), (32, 0, [967]), (35, 0, [970]), (38, 0, [986]), (43, 0, [971]), (48, 0, [971]), (51, 0, [974]), (54, 0, [990]), (59, 0, [975]), (62, 0, [994])]
theorem gOk_136 : gAll 136 gC_136 gHt_136 = true := by decide +kernel
theorem gMk_137 : gMok 137 0 3 [366, 73, 365] = true := by decide +kernel
def gHt_137 : List (Nat × Nat × List Nat) := [(3, 0, [367]), (14, 0, [271]), (22, 0, [358]), (25, 0, [359]), (28, 0, [903]), (32, 0, [903]), (47, 0, [368])]
theorem gOk_137 : gAll 137 gC_137 gHt_137 = true := by decide +kernel
theorem gMk_138 : gMok 138 0 3 [353, 73, 352] = true := by decide +kernel
def gHt_138 : List (Nat × Nat × List Nat) := []
theorem gOk_138 : gAll 138 gC_138 gHt_138 = true := by decide +kernel
theorem gMk_139 : gMok 139 1 2 [363, 73, 361, 362] = true := by decide +kernel
def gHt_139 : List (Nat × Nat × List Nat) := [(4, 0, [982]), (7, 0, [271]), (14, 0, [982]), (18, 0, [358]), (21, 0, [359]), (26, 0, [364]), (39, 0, [984]), (42, 0, [271]), (49, 0, [984]), (53, 0, [358]), (56, 0, [359]), (61, 0, [364])]
theorem gOk_139 : gAll 139 gC_139 gHt_139 = true := by decide +kernel
theorem gMk_140 : gMok 140 1 1 [357, 73, 355, 356] = true := by decide +kernel
def gHt_140 : List (Nat × Nat × List Nat) := [(10, 0, [982]), (13, 0, [271]), (26, 0, [982]), (31, 0, [358]), (34, 0, [359]), (37, 0, [906])]
theorem gOk_140 : gAll 140 gC_140 gHt_140 = true := by decide +kernel
theorem gMk_141 : gMok 141 0 1 [977, 73, 976] = true := by decide +kernel
def gHt_141 : List (Nat × Nat × List Nat) := [(6, 0, [271]), (18, 0, [358]), (21, 0, [359]), (24, 0, [906]), (31, 0, [358]), (34, 0, [359]), (37, 0, [906]), (56, 0, [1010]), (63, 0, [271]), (80, 0, [358]), (83, 0, [359]), (86, 0, [906]), (93, 0, [351])]
theorem gOk_141_0 : gAll 141 ((gC_141.drop 0).take 60) gHt_141 = true := by decide +kernel
theorem gOk_141_60 : gAll 141 ((gC_141.drop 60).take 60) gHt_141 = true := by decide +kernel
theorem gOk_141 : gAll 141 gC_141 gHt_141 = true := gAll_cut 141 gC_141 gHt_141 0 60 gOk_141_0 (gAll_cut 141 gC_141 gHt_141 60 60 gOk_141_60 (gAll_nil 141 gC_141 gHt_141 120 (by decide +kernel)))
theorem gMk_142 : gMok 142 0 1 [973, 73, 972] = true := by decide +kernel
def gHt_142 : List (Nat × Nat × List Nat) := [(6, 0, [271]), (15, 0, [358]), (18, 0, [359]), (21, 0, [911]), (24, 0, [974])]
theorem gOk_142 : gAll 142 gC_142 gHt_142 = true := by decide +kernel
theorem gMk_143 : gMok 143 1 0 [270, 73, 268, 269] = true := by decide +kernel
def gHt_143 : List (Nat × Nat × List Nat) := [(1, 0, [981]), (8, 0, [982]), (11, 0, [271]), (20, 0, [994])]
theorem gOk_143 : gAll 143 gC_143 gHt_143 = true := by decide +kernel
theorem gMk_144 : gMok 144 1 1 [350, 73, 348, 349] = true := by decide +kernel
def gHt_144 : List (Nat × Nat × List Nat) := [(10, 0, [994]), (14, 0, [351]), (24, 0, [994]), (32, 0, [994])]
theorem gOk_144 : gAll 144 gC_144 gHt_144 = true := by decide +kernel
theorem gMk_145 : gMok 145 1 1 [1270, 73, 1268, 1269] = true := by decide +kernel
def gHt_145 : List (Nat × Nat × List Nat) := [(4, 0, [982]), (7, 0, [271]), (14, 0, [982]), (18, 0, [358]), (21, 0, [359]), (24, 0, [906]), (32, 0, [982]), (36, 0, [358]), (39, 0, [359]), (42, 0, [906])]
theorem gOk_145 : gAll 145 gC_145 gHt_145 = true := by decide +kernel
theorem gMk_146 : gMok 146 0 1 [969, 73, 968] = true := by decide +kernel
def gHt_146 : List (Nat × Nat × List Nat) := [(7, 0, [271]), (16, 0, [358]), (19, 0, [359]), (22, 0, [906]), (25, 0, [970])]
theorem gOk_146 : gAll 146 gC_146 gHt_146 = true := by decide +kernel
theorem gMk_147 : gMok 147 1 2 [334, 73, 332, 333] = true := by decide +kernel
def gHt_147 : List (Nat × Nat × List Nat) := [(1, 0, [986]), (10, 0, [990])]
theorem gOk_147 : gAll 147 gC_147 gHt_147 = true := by decide +kernel
theorem gMk_148 : gMok 148 1 0 [1014, 73, 1012, 1013] = true := by decide +kernel
def gHt_148 : List (Nat × Nat × List Nat) := [(1, 0, [982]), (4, 0, [271]), (8, 0, [984]), (11, 0, [271])]
theorem gOk_148 : gAll 148 gC_148 gHt_148 = true := by decide +kernel
theorem gMk_149 : gMok 149 2 2 [1082, 74, 1081] = true := by decide +kernel
def gHt_149 : List (Nat × Nat × List Nat) := [(1, 0, [1083, 86, 87]), (6, 0, [1084]), (11, 0, [1086])]
theorem gOk_149 : gAll 149 gC_149 gHt_149 = true := by decide +kernel
theorem gMk_150 : gMok 150 2 4 [928, 67, 927] = true := by decide +kernel
def gHt_150 : List (Nat × Nat × List Nat) := [(1, 0, [929, 86, 87]), (6, 0, [930]), (11, 0, [931]), (16, 0, [933]), (22, 0, [934])]
theorem gOk_150 : gAll 150 gC_150 gHt_150 = true := by decide +kernel
theorem gMk_151 : gMok 151 1 0 [226, 67, 224, 225] = true := by decide +kernel
def gHt_151 : List (Nat × Nat × List Nat) := [(1, 0, [933])]
theorem gOk_151 : gAll 151 gC_151 gHt_151 = true := by decide +kernel
theorem gMk_152 : gMok 152 1 0 [222, 67, 220, 221] = true := by decide +kernel
def gHt_152 : List (Nat × Nat × List Nat) := [(1, 0, [934]), (9, 0, [934])]
theorem gOk_152 : gAll 152 gC_152 gHt_152 = true := by decide +kernel
theorem gMk_153 : gMok 153 1 1 [295, 67, 293, 294] = true := by decide +kernel
def gHt_153 : List (Nat × Nat × List Nat) := [(1, 0, [930]), (5, 0, [845]), (12, 0, [296])]
theorem gOk_153 : gAll 153 gC_153 gHt_153 = true := by decide +kernel
theorem gMk_154 : gMok 154 1 1 [756, 67, 754, 755] = true := by decide +kernel
def gHt_154 : List (Nat × Nat × List Nat) := [(1, 0, [930]), (5, 0, [845]), (12, 0, [934])]
theorem gOk_154 : gAll 154 gC_154 gHt_154 = true := by decide +kernel
theorem gMk_155 : gMok 155 1 1 [300, 67, 298, 299] = true := by decide +kernel
def gHt_155 : List (Nat × Nat × List Nat) := [(1, 0, [931]), (6, 0, [301]), (13, 0, [933]), (22, 0, [931]), (25, 0, [907]), (30, 0, [933])]
theorem gOk_155 : gAll 155 gC_155 gHt_155 = true := by decide +kernel
theorem gMk_156 : gMok 156 0 2 [325, 63, 324] = true := by decide +kernel
def gHt_156 : List (Nat × Nat × List Nat) := []
theorem gOk_156 : gAll 156 gC_156 gHt_156 = true := by decide +kernel
theorem gMk_157 : gMok 157 0 2 [322, 63, 321] = true := by decide +kernel
def gHt_157 : List (Nat × Nat × List Nat) := []
theorem gOk_157 : gAll 157 gC_157 gHt_157 = true := by decide +kernel
theorem gMk_158 : gMok 158 2 0 [98, 45, 97] = true := by decide +kernel
def gHt_158 : List (Nat × Nat × List Nat) := [(1, 0, [99, 86, 87])]
theorem gOk_158 : gAll 158 gC_158 gHt_158 = true := by decide +kernel
theorem gMk_159 : gMok 159 2 0 [95, 46, 94] = true := by decide +kernel
def gHt_159 : List (Nat × Nat × List Nat) := [(1, 0, [96]), (6, 0, [104])]
theorem gOk_159 : gAll 159 gC_159 gHt_159 = true := by decide +kernel
theorem gMk_160 : gMok 160 2 0 [92, 47, 91] = true := by decide +kernel
def gHt_160 : List (Nat × Nat × List Nat) := [(1, 0, [93]), (5, 0, [100]), (8, 0, [102])]
theorem gOk_160 : gAll 160 gC_160 gHt_160 = true := by decide +kernel
theorem gMk_161 : gMok 161 1 2 [371, 47, 369, 370] = true := by decide +kernel
def gHt_161 : List (Nat × Nat × List Nat) := [(2, 0, [372]), (7, 0, [105, 106]), (12, 0, [105, 106]), (16, 0, [103]), (22, 0, [102]), (33, 0, [704]), (49, 0, [747, 497, 496, 65]), (61, 0, [103])]
theorem gOk_161 : gAll 161 gC_161 gHt_161 = true := by decide +kernel
theorem gMk_162 : gMok 162 1 1 [860, 47, 858, 859] = true := by decide +kernel
def gHt_162 : List (Nat × Nat × List Nat) := [(2, 0, [105, 106]), (7, 0, [105, 106]), (13, 0, [102]), (17, 0, [103]), (20, 0, [861])]
theorem gOk_162 : gAll 162 gC_162 gHt_162 = true := by decide +kernel
theorem gMk_163 : gMok 163 1 3 [864, 47, 863, 13] = true := by decide +kernel
def gHt_163 : List (Nat × Nat × List Nat) := [(7, 0, [704]), (19, 0, [103])]
theorem gOk_163 : gAll 163 gC_163 gHt_163 = true := by decide +kernel
theorem gMk_164 : gMok 164 1 0 [238, 47, 236, 237] = true := by decide +kernel
def gHt_164 : List (Nat × Nat × List Nat) := [(2, 0, [105, 106]), (7, 0, [105, 106]), (11, 0, [102]), (16, 0, [103]), (23, 0, [103])]
theorem gOk_164 : gAll 164 gC_164 gHt_164 = true := by decide +kernel
theorem gMk_165 : gMok 165 1 1 [213, 47, 211, 212] = true := by decide +kernel
def gHt_165 : List (Nat × Nat × List Nat) := [(1, 0, [102])]
theorem gOk_165 : gAll 165 gC_165 gHt_165 = true := by decide +kernel
theorem gMk_166 : gMok 166 1 2 [1109, 47, 1108, 26] = true := by decide +kernel
def gHt_166 : List (Nat × Nat × List Nat) := [(2, 0, [105, 106]), (7, 0, [105, 106]), (11, 0, [103]), (31, 0, [747, 497, 496, 65]), (38, 0, [103])]
theorem gOk_166 : gAll 166 gC_166 gHt_166 = true := by decide +kernel
theorem gMk_167 : gMok 167 1 1 [203, 47, 201, 202] = true := by decide +kernel
def gHt_167 : List (Nat × Nat × List Nat) := [(2, 0, [103]), (5, 0, [204]), (11, 0, [210])]
theorem gOk_167 : gAll 167 gC_167 gHt_167 = true := by decide +kernel
theorem gMk_168 : gMok 168 1 0 [707, 47, 706, 10] = true := by decide +kernel
def gHt_168 : List (Nat × Nat × List Nat) := [(2, 0, [103]), (7, 0, [708])]
theorem gOk_168 : gAll 168 gC_168 gHt_168 = true := by decide +kernel
theorem gMk_169 : gMok 169 1 1 [711, 47, 710, 11] = true := by decide +kernel
def gHt_169 : List (Nat × Nat × List Nat) := [(1, 0, [102]), (11, 0, [102]), (14, 0, [100]), (27, 0, [712]), (33, 0, [102]), (37, 0, [713]), (41, 0, [102]), (49, 0, [745]), (52, 0, [743, 746]), (56, 0, [102])]
theorem gOk_169 : gAll 169 gC_169 gHt_169 = true := by decide +kernel
theorem gMk_170 : gMok 170 1 0 [346, 47, 344, 345] = true := by decide +kernel
def gHt_170 : List (Nat × Nat × List Nat) := [(1, 0, [103])]
theorem gOk_170 : gAll 170 gC_170 gHt_170 = true := by decide +kernel
theorem gMk_171 : gMok 171 1 1 [375, 47, 374, 7] = true := by decide +kernel
def gHt_171 : List (Nat × Nat × List Nat) := [(2, 0, [103])]
theorem gOk_171 : gAll 171 gC_171 gHt_171 = true := by decide +kernel
theorem gMk_172 : gMok 172 1 1 [1105, 47, 1103, 1104] = true := by decide +kernel
def gHt_172 : List (Nat × Nat × List Nat) := [(2, 0, [103]), (5, 0, [204]), (10, 0, [102]), (21, 0, [1106])]
theorem gOk_172 : gAll 172 gC_172 gHt_172 = true := by decide +kernel
theorem gMk_173 : gMok 173 1 0 [199, 47, 197, 198] = true := by decide +kernel
def gHt_173 : List (Nat × Nat × List Nat) := [(1, 0, [103])]
theorem gOk_173 : gAll 173 gC_173 gHt_173 = true := by decide +kernel
theorem gMk_174 : gMok 174 0 2 [715, 64, 714] = true := by decide +kernel
def gHt_174 : List (Nat × Nat × List Nat) := [(3, 0, [716, 1586, 1585, 717, 738]), (6, 0, [739])]
theorem gOk_174 : gAll 174 gC_174 gHt_174 = true := by decide +kernel
theorem gMk_175 : gMok 175 0 3 [741, 64, 740] = true := by decide +kernel
def gHt_175 : List (Nat × Nat × List Nat) := [(1, 0, [742]), (7, 0, [743, 744]), (21, 0, [742]), (32, 0, [494]), (35, 0, [495, 497, 496, 65])]
theorem gOk_175 : gAll 175 gC_175 gHt_175 = true := by decide +kernel
theorem gMk_176 : gMok 176 0 2 [206, 66, 205] = true := by decide +kernel
def gHt_176 : List (Nat × Nat × List Nat) := [(3, 0, [207])]
theorem gOk_176 : gAll 176 gC_176 gHt_176 = true := by decide +kernel
theorem gMk_177 : gMok 177 0 3 [477, 62, 476] = true := by decide +kernel
def gHt_177 : List (Nat × Nat × List Nat) := [(3, 0, [478]), (14, 0, [479])]
theorem gOk_177 : gAll 177 gC_177 gHt_177 = true := by decide +kernel
theorem gMk_178 : gMok 178 0 3 [209, 51, 208] = true := by decide +kernel
def gHt_178 : List (Nat × Nat × List Nat) := []
theorem gOk_178 : gAll 178 gC_178 gHt_178 = true := by decide +kernel
theorem gMk_179 : gMok 179 0 1 [1513, 79, 1512] = true := by decide +kernel
def gHt_179 : List (Nat × Nat × List Nat) := [(1, 0, [1514]), (8, 0, [1517, 1519, 1518, 79]), (12, 0, [1520])]
theorem gOk_179 : gAll 179 gC_179 gHt_179 = true := by decide +kernel
theorem gMk_180 : gMok 180 0 1 [1516, 79, 1515] = true := by decide +kernel
def gHt_180 : List (Nat × Nat × List Nat) := []
theorem gOk_180 : gAll 180 gC_180 gHt_180 = true := by decide +kernel
def gHts : List (List (Nat × Nat × List Nat)) := [gHt_0, gHt_1, gHt_2, gHt_3, gHt_4, gHt_5, gHt_6, gHt_7, gHt_8, gHt_9, gHt_10, gHt_11, gHt_12, gHt_13, gHt_14, gHt_15, gHt_16, gHt_17, gHt_18, gHt_19, gHt_20, gHt_21, gHt_22, gHt_23, gHt_24, gHt_25, gHt_26, gHt_27, gHt_28, gHt_29, gHt_30, gHt_31, gHt_32, gHt_33, gHt_34, gHt_35, gHt_36, gHt_37, gHt_38, gHt_39, gHt_40, gHt_41, gHt_42, gHt_43, gHt_44, gHt_45, gHt_46, gHt_47, gHt_48, gHt_49, gHt_50, gHt_51, gHt_52, gHt_53, gHt_54, gHt_55, gHt_56, gHt_57, gHt_58, gHt_59, gHt_60, gHt_61, gHt_62, gHt_63, gHt_64, gHt_65, gHt_66, gHt_67, gHt_68, gHt_69, gHt_70, gHt_71, gHt_72, gHt_73, gHt_74, gHt_75, gHt_76, gHt_77, gHt_78, gHt_79, gHt_80, gHt_81, gHt_82, gHt_83, gHt_84, gHt_85, gHt_86, gHt_87, gHt_88, gHt_89, gHt_90, gHt_91, gHt_92, gHt_93, gHt_94, gHt_95, gHt_96, gHt_97, gHt_98, gHt_99, gHt_100, gHt_101, gHt_102, gHt_103, gHt_104, gHt_105, gHt_106, gHt_107, gHt_108, gHt_109, gHt_110, gHt_111, gHt_112, gHt_113, gHt_114, gHt_115, gHt_116, gHt_117, gHt_118, gHt_119, gHt_120, gHt_121, gHt_122, gHt_123, gHt_124, gHt_125, gHt_126, gHt_127, gHt_128, gHt_129, gHt_130, gHt_131, gHt_132, gHt_133, gHt_134, gHt_135, gHt_136, gHt_137, gHt_138, gHt_139, gHt_140, gHt_141, gHt_142, gHt_143, gHt_144, gHt_145, gHt_146, gHt_147, gHt_148, gHt_149, gHt_150, gHt_151, gHt_152, gHt_153, gHt_154, gHt_155, gHt_156, gHt_157, gHt_158, gHt_159, gHt_160, gHt_161, gHt_162, gHt_163, gHt_164, gHt_165, gHt_166, gHt_167, gHt_168, gHt_169, gHt_170, gHt_171, gHt_172, gHt_173, gHt_174, gHt_175, gHt_176, gHt_177, gHt_178, gHt_179, gHt_180]
def gMps : List (List Nat) := [[], [759, 43, 758], [770, 43, 769], [1493, 43, 1492], [1484, 43, 1483], [1487, 43, 1486], [1490, 43, 1489], [767, 43, 766], [1385, 43, 1384], [1473, 43, 1472], [1507, 43, 1506], [1527, 43, 1526], [762, 43, 761], [792, 43, 791], [1496, 43, 1495], [1388, 43, 1387], [1476, 43, 1475], [1479, 43, 1478], [84, 44, 83], [796, 44, 794, 795], [956, 44, 955], [890, 44, 889, 16], [246, 44, 244, 245], [1327, 44, 1325, 1326], [1371, 44, 1370, 38], [1469, 44, 1468], [242, 44, 240, 241], [1440, 44, 1438, 1439], [1035, 44, 1033, 1034], [882, 44, 881], [1166, 44, 1164, 1165], [1175, 44, 1173, 1174], [949, 44, 948, 17], [342, 44, 341, 6], [230, 44, 228, 229], [1149, 44, 1148, 28], [1524, 44, 1522, 1523], [1466, 44, 1464, 1465], [1182, 44, 1181], [1023, 44, 1021, 1022], [1027, 44, 1025, 1026], [1262, 44, 1261, 33], [1287, 44, 1286, 36], [1314, 44, 1313], [1311, 44, 1310], [1432, 44, 1430, 1431], [250, 44, 248, 249], [876, 44, 875, 15], [1423, 44, 1421, 1422], [752, 44, 751, 12], [1291, 44, 1290, 37], [1170, 44, 1168, 1169], [953, 44, 952, 18], [234, 44, 233, 0], [1396, 44, 1395, 39], [1392, 44, 1390, 1391], [1401, 44, 1399, 1400], [279, 44, 278, 1], [1410, 44, 1408, 1409], [1049, 44, 1048, 22], [885, 44, 884], [191, 44, 189, 190], [254, 44, 252, 253], [1158, 44, 1157, 30], [1040, 44, 1039, 20], [1278, 44, 1277, 35], [1294, 44, 1293], [1500, 44, 1498, 1499], [1418, 44, 1417, 40], [1045, 44, 1044, 21], [218, 44, 216, 217], [283, 44, 282, 2], [291, 44, 290, 3], [338, 44, 337, 5], [961, 44, 960, 19], [1031, 44, 1029, 1030], [1117, 44, 1116, 27], [1179, 44, 1178], [1145, 44, 1143, 1144], [1113, 44, 1111, 1112], [1317, 44, 1316], [1444, 44, 1442, 1443], [1153, 44, 1152, 29], [1100, 44, 1099, 25], [1162, 44, 1160, 1161], [868, 44, 866, 867], [1436, 44, 1434, 1435], [1096, 44, 1094, 1095], [1367, 44, 1365, 1366], [1427, 44, 1426, 41], [1414, 44, 1412, 1413], [1448, 44, 1446, 1447], [1274, 44, 1273, 34], [1076, 44, 1074, 1075], [1323, 44, 1321, 1322], [195, 44, 193, 194], [1405, 44, 1403, 1404], [1504, 44, 1502, 1503], [1256, 44, 1254, 1255], [872, 44, 871, 14], [1333, 78, 1332], [896, 68, 895], [304, 68, 302, 303], [1123, 75, 1122], [819, 60, 818], [1344, 60, 1342, 1343], [1377, 60, 1375, 1376], [1452, 60, 1450, 1451], [319, 60, 317, 318], [1458, 60, 1457, 42], [259, 60, 257, 258], [1282, 60, 1280, 1281], [118, 48, 117], [287, 48, 285, 286], [315, 48, 314], [308, 48, 306, 307], [312, 48, 311, 4], [826, 61, 825], [1349, 61, 1347, 1348], [329, 61, 327, 328], [1462, 61, 1460, 1461], [1018, 61, 1016, 1017], [1307, 61, 1306], [263, 61, 261, 262], [275, 61, 273, 274], [1053, 61, 1051, 1052], [1304, 61, 1302, 1303], [1187, 61, 1185, 1186], [1210, 77, 1209], [1223, 77, 1222, 32], [1217, 77, 1216, 31], [1058, 77, 1056, 1057], [1071, 77, 1070, 24], [1298, 77, 1296, 1297], [1063, 77, 1061, 23], [1266, 77, 1264, 1265], [965, 73, 964], [366, 73, 365], [353, 73, 352], [363, 73, 361, 362], [357, 73, 355, 356], [977, 73, 976], [973, 73, 972], [270, 73, 268, 269], [350, 73, 348, 349], [1270, 73, 1268, 1269], [969, 73, 968], [334, 73, 332, 333], [1014, 73, 1012, 1013], [1082, 74, 1081], [928, 67, 927], [226, 67, 224, 225], [222, 67, 220, 221], [295, 67, 293, 294], [756, 67, 754, 755], [300, 67, 298, 299], [325, 63, 324], [322, 63, 321], [98, 45, 97], [95, 46, 94], [92, 47, 91], [371, 47, 369, 370], [860, 47, 858, 859], [864, 47, 863, 13], [238, 47, 236, 237], [213, 47, 211, 212], [1109, 47, 1108, 26], [203, 47, 201, 202], [707, 47, 706, 10], [711, 47, 710, 11], [346, 47, 344, 345], [375, 47, 374, 7], [1105, 47, 1103, 1104], [199, 47, 197, 198], [715, 64, 714], [741, 64, 740], [206, 66, 205], [477, 62, 476], [209, 51, 208], [1513, 79, 1512], [1516, 79, 1515]]
def gAllL : Nat → List (List (Nat × gI)) → List (List (Nat × Nat × List Nat)) → Prop
  | _, [], _ => True
  | _, _ :: _, [] => False
  | k, c :: cs, h :: hs => gAll k c h = true ∧ gAllL (k + 1) cs hs
def gMkL : Nat → List (Nat × Nat) → List (List Nat) → Prop
  | _, [], _ => True
  | _, _ :: _, [] => False
  | k, c :: cs, h :: hs => (c.1 = 9 ∨ gMok k c.1 c.2 h = true) ∧ gMkL (k + 1) cs hs
theorem gAllL_ok : gAllL 0 gCodes gHts := ⟨gOk_0,
  ⟨gOk_1,
  ⟨gOk_2,
  ⟨gOk_3,
  ⟨gOk_4,
  ⟨gOk_5,
  ⟨gOk_6,
  ⟨gOk_7,
  ⟨gOk_8,
  ⟨gOk_9,
  ⟨gOk_10,
  ⟨gOk_11,
  ⟨gOk_12,
  ⟨gOk_13,
  ⟨gOk_14,
  ⟨gOk_15,
  ⟨gOk_16,
  ⟨gOk_17,
  ⟨gOk_18,
  ⟨gOk_19,
  ⟨gOk_20,
  ⟨gOk_21,
  ⟨gOk_22,
  ⟨gOk_23,
  ⟨gOk_24,
  ⟨gOk_25,
  ⟨gOk_26,
  ⟨gOk_27,
  ⟨gOk_28,
  ⟨gOk_29,
  ⟨gOk_30,
  ⟨gOk_31,
  ⟨gOk_32,
  ⟨gOk_33,
  ⟨gOk_34,
  ⟨gOk_35,
  ⟨gOk_36,
  ⟨gOk_37,
  ⟨gOk_38,
  ⟨gOk_39,
  ⟨gOk_40,
  ⟨gOk_41,
  ⟨gOk_42,
  ⟨gOk_43,
  ⟨gOk_44,
  ⟨gOk_45,
  ⟨gOk_46,
  ⟨gOk_47,
  ⟨gOk_48,
  ⟨gOk_49,
  ⟨gOk_50,
  ⟨gOk_51,
  ⟨gOk_52,
  ⟨gOk_53,
  ⟨gOk_54,
  ⟨gOk_55,
  ⟨gOk_56,
  ⟨gOk_57,
  ⟨gOk_58,
  ⟨gOk_59,
  ⟨gOk_60,
  ⟨gOk_61,
  ⟨gOk_62,
  ⟨gOk_63,
  ⟨gOk_64,
  ⟨gOk_65,
  ⟨gOk_66,
  ⟨gOk_67,
  ⟨gOk_68,
  ⟨gOk_69,
  ⟨gOk_70,
  ⟨gOk_71,
  ⟨gOk_72,
  ⟨gOk_73,
  ⟨gOk_74,
  ⟨gOk_75,
  ⟨gOk_76,
  ⟨gOk_77,
  ⟨gOk_78,
  ⟨gOk_79,
  ⟨gOk_80,
  ⟨gOk_81,
  ⟨gOk_82,
  ⟨gOk_83,
  ⟨gOk_84,
  ⟨gOk_85,
  ⟨gOk_86,
  ⟨gOk_87,
  ⟨gOk_88,
  ⟨gOk_89,
  ⟨gOk_90,
  ⟨gOk_91,
  ⟨gOk_92,
  ⟨gOk_93,
  ⟨gOk_94,
  ⟨gOk_95,
  ⟨gOk_96,
  ⟨gOk_97,
  ⟨gOk_98,
  ⟨gOk_99,
  ⟨gOk_100,
  ⟨gOk_101,
  ⟨gOk_102,
  ⟨gOk_103,
  ⟨gOk_104,
  ⟨gOk_105,
  ⟨gOk_106,
  ⟨gOk_107,
  ⟨gOk_108,
  ⟨gOk_109,
  ⟨gOk_110,
  ⟨gOk_111,
  ⟨gOk_112,
  ⟨gOk_113,
  ⟨gOk_114,
  ⟨gOk_115,
  ⟨gOk_116,
  ⟨gOk_117,
  ⟨gOk_118,
  ⟨gOk_119,
  ⟨gOk_120,
  ⟨gOk_121,
  ⟨gOk_122,
  ⟨gOk_123,
  ⟨gOk_124,
  ⟨gOk_125,
  ⟨gOk_126,
  ⟨gOk_127,
  ⟨gOk_128,
  ⟨gOk_129,
  ⟨gOk_130,
  ⟨gOk_131,
  ⟨gOk_132,
  ⟨gOk_133,
  ⟨gOk_134,
  ⟨gOk_135,
  ⟨gOk_136,
  ⟨gOk_137,
  ⟨gOk_138,
  ⟨gOk_139,
  ⟨gOk_140,
  ⟨gOk_141,
  ⟨gOk_142,
  ⟨gOk_143,
  ⟨gOk_144,
  ⟨gOk_145,
  ⟨gOk_146,
  ⟨gOk_147,
  ⟨gOk_148,
  ⟨gOk_149,
  ⟨gOk_150,
  ⟨gOk_151,
  ⟨gOk_152,
  ⟨gOk_153,
  ⟨gOk_154,
  ⟨gOk_155,
  ⟨gOk_156,
  ⟨gOk_157,
  ⟨gOk_158,
  ⟨gOk_159,
  ⟨gOk_160,
  ⟨gOk_161,
  ⟨gOk_162,
  ⟨gOk_163,
  ⟨gOk_164,
  ⟨gOk_165,
  ⟨gOk_166,
  ⟨gOk_167,
  ⟨gOk_168,
  ⟨gOk_169,
  ⟨gOk_170,
  ⟨gOk_171,
  ⟨gOk_172,
  ⟨gOk_173,
  ⟨gOk_174,
  ⟨gOk_175,
  ⟨gOk_176,
  ⟨gOk_177,
  ⟨gOk_178,
  ⟨gOk_179,
  ⟨gOk_180, trivial⟩⟩⟩⟩⟩⟩⟩⟩⟩⟩⟩⟩⟩⟩⟩⟩⟩⟩⟩⟩⟩⟩⟩⟩⟩⟩⟩⟩⟩⟩⟩⟩⟩⟩⟩⟩⟩⟩⟩⟩⟩⟩⟩⟩⟩⟩⟩⟩⟩⟩⟩⟩⟩⟩⟩⟩⟩⟩⟩⟩⟩⟩⟩⟩⟩⟩⟩⟩⟩⟩⟩⟩⟩⟩⟩⟩⟩⟩⟩⟩⟩⟩⟩⟩⟩⟩⟩⟩⟩⟩⟩⟩⟩⟩⟩⟩⟩⟩⟩⟩⟩⟩⟩⟩⟩⟩⟩⟩⟩⟩⟩⟩⟩⟩⟩⟩⟩⟩⟩⟩⟩⟩⟩⟩⟩⟩⟩⟩⟩⟩⟩⟩⟩⟩⟩⟩⟩⟩⟩⟩⟩⟩⟩⟩⟩⟩⟩⟩⟩⟩⟩⟩⟩⟩⟩⟩⟩⟩⟩⟩⟩⟩⟩⟩⟩⟩⟩⟩⟩⟩⟩⟩⟩⟩⟩⟩⟩⟩⟩⟩⟩
theorem gMkL_ok : gMkL 0 gKinds gMps := ⟨Or.inl rfl,
  ⟨Or.inr gMk_1,
  ⟨Or.inr gMk_2,
  ⟨Or.inr gMk_3,
  ⟨Or.inr gMk_4,
  ⟨Or.inr gMk_5,
  ⟨Or.inr gMk_6,
  ⟨Or.inr gMk_7,
  ⟨Or.inr gMk_8,
  ⟨Or.inr gMk_9,
  ⟨Or.inr gMk_10,
  ⟨Or.inr gMk_11,
  ⟨Or.inr gMk_12,
  ⟨Or.inr gMk_13,
  ⟨Or.inr gMk_14,
  ⟨Or.inr gMk_15,
  ⟨Or.inr gMk_16,
  ⟨Or.inr gMk_17,
  ⟨Or.inr gMk_18,
  ⟨Or.inr gMk_19,
  ⟨Or.inr gMk_20,
  ⟨Or.inr gMk_21,
  ⟨Or.inr gMk_22,
  ⟨Or.inr gMk_23,
  ⟨Or.inr gMk_24,
  ⟨Or.inr gMk_25,
  ⟨Or.inr gMk_26,
  ⟨Or.inr gMk_27,
  ⟨Or.inr gMk_28,
  ⟨Or.inr gMk_29,
  ⟨Or.inr gMk_30,
  ⟨Or.inr gMk_31,
  ⟨Or.inr gMk_32,
  ⟨Or.inr gMk_33,
  ⟨Or.inr gMk_34,
  ⟨Or.inr gMk_35,
  ⟨Or.inr gMk_36,
  ⟨Or.inr gMk_37,
  ⟨Or.inr gMk_38,
  ⟨Or.inr gMk_39,
  ⟨Or.inr gMk_40,
  ⟨Or.inr gMk_41,
  ⟨Or.inr gMk_42,
  ⟨Or.inr gMk_43,
  ⟨Or.inr gMk_44,
  ⟨Or.inr gMk_45,
  ⟨Or.inr gMk_46,
  ⟨Or.inr gMk_47,
  ⟨Or.inr gMk_48,
  ⟨Or.inr gMk_49,
  ⟨Or.inr gMk_50,
  ⟨Or.inr gMk_51,
  ⟨Or.inr gMk_52,
  ⟨Or.inr gMk_53,
  ⟨Or.inr gMk_54,
  ⟨Or.inr gMk_55,
  ⟨Or.inr gMk_56,
  ⟨Or.inr gMk_57,
  ⟨Or.inr gMk_58,
  ⟨Or.inr gMk_59,
  ⟨Or.inr gMk_60,
  ⟨Or.inr gMk_61,
  ⟨Or.inr gMk_62,
  ⟨Or.inr gMk_63,
  ⟨Or.inr gMk_64,
  ⟨Or.inr gMk_65,
  ⟨Or.inr gMk_66,
  ⟨Or.inr gMk_67,
  ⟨Or.inr gMk_68,
  ⟨Or.inr gMk_69,
  ⟨Or.inr gMk_70,
  ⟨Or.inr gMk_71,
  ⟨Or.inr gMk_72,
  ⟨Or.inr gMk_73,
  ⟨Or.inr gMk_74,
  ⟨Or.inr gMk_75,
  ⟨Or.inr gMk_76,
  ⟨Or.inr gMk_77,
  ⟨Or.inr gMk_78,
  ⟨Or.inr gMk_79,
  ⟨Or.inr gMk_80,
  ⟨Or.inr gMk_81,
  ⟨Or.inr gMk_82,
  ⟨Or.inr gMk_83,
  ⟨Or.inr gMk_84,
  ⟨Or.inr gMk_85,
  ⟨Or.inr gMk_86,
  ⟨Or.inr gMk_87,
  ⟨Or.inr gMk_88,
  ⟨Or.inr gMk_89,
  ⟨Or.inr gMk_90,
  ⟨Or.inr gMk_91,
  ⟨Or.inr gMk_92,
  ⟨Or.inr gMk_93,
  ⟨Or.inr gMk_94,
  ⟨Or.inr gMk_95,
  ⟨Or.inr gMk_96,
  ⟨Or.inr gMk_97,
  ⟨Or.inr gMk_98,
  ⟨Or.inr gMk_99,
  ⟨Or.inr gMk_100,
  ⟨Or.inr gMk_101,
  ⟨Or.inr gMk_102,
  ⟨Or.inr gMk_103,
  ⟨Or.inr gMk_104,
  ⟨Or.inr gMk_105,
  ⟨Or.inr gMk_106,
  ⟨Or.inr gMk_107,
  ⟨Or.inr gMk_108,
  ⟨Or.inr gMk_109,
  ⟨Or.inr gMk_110,
  ⟨Or.inr gMk_111,
  ⟨Or.inr gMk_112,
  ⟨Or.inr gMk_113,
  ⟨Or.inr gMk_114,
  ⟨Or.inr gMk_115,
  ⟨Or.inr gMk_116,
  ⟨Or.inr gMk_117,
  ⟨Or.inr gMk_118,
  ⟨Or.inr gMk_119,
  ⟨Or.inr gMk_120,
  ⟨Or.inr gMk_121,
  ⟨Or.inr gMk_122,
  ⟨Or.inr gMk_123,
  ⟨Or.inr gMk_124,
  ⟨Or.inr gMk_125,
  ⟨Or.inr gMk_126,
  ⟨Or.inr gMk_127,
  ⟨Or.inr gMk_128,
  ⟨Or.inr gMk_129,
  ⟨Or.inr gMk_130,
  ⟨Or.inr gMk_131,
  ⟨Or.inr gMk_132,
  ⟨Or.inr gMk_133,
  ⟨Or.inr gMk_134,
  ⟨Or.inr gMk_135,
  ⟨Or.inr gMk_136,
  ⟨Or.inr gMk_137,
  ⟨Or.inr gMk_138,
  ⟨Or.inr gMk_139,
  ⟨Or.inr gMk_140,
  ⟨Or.inr gMk_141,
  ⟨Or.inr gMk_142,
  ⟨Or.inr gMk_143,
  ⟨Or.inr gMk_144,
  ⟨Or.inr gMk_145,
  ⟨Or.inr gMk_146,
  ⟨Or.inr gMk_147,
  ⟨Or.inr gMk_148,
  ⟨Or.inr gMk_149,
  ⟨Or.inr gMk_150,
  ⟨Or.inr gMk_151,
  ⟨Or.inr gMk_152,
  ⟨Or.inr gMk_153,
  ⟨Or.inr gMk_154,
  ⟨Or.inr gMk_155,
  ⟨Or.inr gMk_156,
  ⟨Or.inr gMk_157,
  ⟨Or.inr gMk_158,
  ⟨Or.inr gMk_159,
  ⟨Or.inr gMk_160,
  ⟨Or.inr gMk_161,
  ⟨Or.inr gMk_162,
  ⟨Or.inr gMk_163,
  ⟨Or.inr gMk_164,
  ⟨Or.inr gMk_165,
  ⟨Or.inr gMk_166,
  ⟨Or.inr gMk_167,
  ⟨Or.inr gMk_168,
  ⟨Or.inr gMk_169,
  ⟨Or.inr gMk_170,
  ⟨Or.inr gMk_171,
  ⟨Or.inr gMk_172,
  ⟨Or.inr gMk_173,
  ⟨Or.inr gMk_174,
  ⟨Or.inr gMk_175,
  ⟨Or.inr gMk_176,
  ⟨Or.inr gMk_177,
  ⟨Or.inr gMk_178,
  ⟨Or.inr gMk_179,
  ⟨Or.inr gMk_180, trivial⟩⟩⟩⟩⟩⟩⟩⟩⟩⟩⟩⟩⟩⟩⟩⟩⟩⟩⟩⟩⟩⟩⟩⟩⟩⟩⟩⟩⟩⟩⟩⟩⟩⟩⟩⟩⟩⟩⟩⟩⟩⟩⟩⟩⟩⟩⟩⟩⟩⟩⟩⟩⟩⟩⟩⟩⟩⟩⟩⟩⟩⟩⟩⟩⟩⟩⟩⟩⟩⟩⟩⟩⟩⟩⟩⟩⟩⟩⟩⟩⟩⟩⟩⟩⟩⟩⟩⟩⟩⟩⟩⟩⟩⟩⟩⟩⟩⟩⟩⟩⟩⟩⟩⟩⟩⟩⟩⟩⟩⟩⟩⟩⟩⟩⟩⟩⟩⟩⟩⟩⟩⟩⟩⟩⟩⟩⟩⟩⟩⟩⟩⟩⟩⟩⟩⟩⟩⟩⟩⟩⟩⟩⟩⟩⟩⟩⟩⟩⟩⟩⟩⟩⟩⟩⟩⟩⟩⟩⟩⟩⟩⟩⟩⟩⟩⟩⟩⟩⟩⟩⟩⟩⟩⟩⟩⟩⟩⟩⟩⟩⟩
theorem gAllL_at : ∀ (cs : List (List (Nat × gI))) (hs : List (List (Nat × Nat × List Nat))) (k m : Nat) (c : List (Nat × gI)), gAllL k cs hs → cs[m]? = some c → ∃ h, gAll (k + m) c h = true
  | [], _, _, _, _, _, h => by simp at h
  | c0 :: cs, [], _, _, _, h, _ => h.elim
  | c0 :: cs, h0 :: hs, k, 0, c, h, hc => by
    cases (show some c0 = some c from by simpa using hc)
    exact ⟨h0, h.1⟩
  | c0 :: cs, h0 :: hs, k, m + 1, c, h, hc => by
    obtain ⟨h9, q⟩ := gAllL_at cs hs (k + 1) m c h.2 (by simpa using hc)
    exact ⟨h9, by rw [show k + (m + 1) = k + 1 + m by omega]; exact q⟩
theorem gMkL_at : ∀ (cs : List (Nat × Nat)) (hs : List (List Nat)) (k m : Nat) (c : Nat × Nat), gMkL k cs hs → cs[m]? = some c → ∃ h, c.1 = 9 ∨ gMok (k + m) c.1 c.2 h = true
  | [], _, _, _, _, _, h => by simp at h
  | c0 :: cs, [], _, _, _, h, _ => h.elim
  | c0 :: cs, h0 :: hs, k, 0, c, h, hc => by
    cases (show some c0 = some c from by simpa using hc)
    exact ⟨h0, h.1⟩
  | c0 :: cs, h0 :: hs, k, m + 1, c, h, hc => by
    obtain ⟨h9, q⟩ := gMkL_at cs hs (k + 1) m c h.2 (by simpa using hc)
    exact ⟨h9, by rw [show k + (m + 1) = k + 1 + m by omega]; exact q⟩
theorem gAll_at (m : Nat) (hs : List (Nat × Nat × List Nat)) : ∀ (l : List (Nat × gI)) (pc : Nat) (q : gI), gAll m l hs = true → l.lookup pc = some q → ∃ p, gRow m (pc, q) p = true
  | [], _, _, _, h => by simp at h
  | r :: l, pc, q, h, hq => by
    have h1 : (gRow m r (match hs.lookup r.1 with | some q => q.2 | none => []) && gAll m l hs) = true := h
    rw [Bool.and_eq_true] at h1
    rw [List.lookup_cons] at hq
    split at hq
    · rename_i he
      cases hq
      have e : pc = r.1 := by simpa using he
      subst e
      exact ⟨_, h1.1⟩
    · exact gAll_at m hs l pc q h1.2 hq
/-- what the tables say of an instruction holds of the machine's code and words -/
theorem gFetch_ok {m pc : Nat} {q : gI} (h : gFetch m pc = some q) : ∃ p, decode (gB m) pc = .ok (q.1, q.2.1) ∧ gLen q.1 q.2.1 = true ∧ gRes m pc q p = true := by
  unfold gFetch at h
  split at h
  · rename_i l hl
    obtain ⟨hs, h1⟩ := gAllL_at gCodes gHts 0 m l gAllL_ok hl
    rw [Nat.zero_add] at h1
    obtain ⟨p, h2⟩ := gAll_at m hs l pc q h1 h
    refine ⟨p, ?_⟩
    simp only [gRow, Bool.and_eq_true] at h2
    obtain ⟨⟨h3, h4⟩, h5⟩ := h2
    refine ⟨?_, h4, h5⟩
    split at h3
    · rename_i i n hd
      simp only [Bool.and_eq_true, decide_eq_true_eq] at h3
      rw [hd, h3.1, h3.2]
    · cases h3
  · cases h
theorem gKnd_ok {m : Nat} {kd k : Nat} (h : gKnd m = (kd, k)) (h9 : kd ≠ 9) : ∃ p, gMok m kd k p = true := by
  unfold gKnd at h
  split at h
  · rename_i q hq
    subst h
    obtain ⟨p, h1⟩ := gMkL_at gKinds gMps 0 m _ gMkL_ok hq
    rw [Nat.zero_add] at h1
    exact ⟨p, h1.resolve_left h9⟩
  · cases h
    exact absurd rfl h9
