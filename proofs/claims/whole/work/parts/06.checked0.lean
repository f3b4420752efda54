/-! checked -/
theorem jx_k0 : jx_okL jx_M0 jx_C0 [0, 0, 0, 0, 671, 0, 0, 0, 0, 672, 0, 0, 0, 0, 672, 0, 0, 0, 0, 0, 0, 0, 0, 673, 0, 0, 0, 0, 0, 0, 0, 0, 0, 0, 0, 0, 0, 0, 0, 0, 0, 0] = true := by decide +kernel
theorem jx_m0 : jx_mOk jx_M0 [670, 119, 669, 0] = true := by decide +kernel
theorem jx_k1 : jx_okL jx_M1 jx_C1 [0, 0, 0, 0, 0, 0, 0, 0, 0, 0, 0, 0, 0, 0, 0, 0, 0, 1689, 0, 0, 0, 0, 0, 0, 0, 0, 0, 0, 0, 0, 0, 0, 0, 0, 0, 0, 0, 0, 0, 0, 0, 0, 0, 0, 0, 0, 0, 0, 0, 0, 0, 0, 0, 0] = true := by decide +kernel
theorem jx_m1 : jx_mOk jx_M1 [1688, 119, 1687, 0] = true := by decide +kernel
theorem jx_k2 : jx_okL jx_M2 jx_C2 [0, 0, 0, 0, 0, 0, 0, 0, 0, 0, 0, 0, 0, 0, 0] = true := by decide +kernel
theorem jx_m2 : jx_mOk jx_M2 [155, 103, 154, 0] = true := by decide +kernel
theorem jx_k3 : jx_okL jx_M3 jx_C3 [0, 0, 140, 0] = true := by decide +kernel
theorem jx_m3 : jx_mOk jx_M3 [663, 101, 661, 662] = true := by decide +kernel
theorem jx_k4 : jx_okL jx_M4 jx_C4 [0, 140, 0, 139, 0, 0, 0, 139, 0, 140, 0, 0, 0, 0, 140, 0, 0, 140, 0] = true := by decide +kernel
theorem jx_m4 : jx_mOk jx_M4 [667, 101, 665, 666] = true := by decide +kernel
theorem jx_k5 : jx_okL jx_M5 jx_C5 [0, 660, 0, 0, 664, 0] = true := by decide +kernel
theorem jx_m5 : jx_mOk jx_M5 [659, 101, 657, 658] = true := by decide +kernel
theorem jx_k6 : jx_okL jx_M6 jx_C6 [0, 660, 0, 0, 664, 0, 0, 664, 0] = true := by decide +kernel
theorem jx_m6 : jx_mOk jx_M6 [764, 101, 762, 763] = true := by decide +kernel
theorem jx_k7 : jx_okL jx_M7 jx_C7 [0, 0, 1364, 0, 0, 0, 0, 0, 0, 0, 0, 1367, 0, 0, 0, 0, 0, 0, 0, 0, 0, 0, 1367, 0] = true := by decide +kernel
theorem jx_m7 : jx_mOk jx_M7 [1363, 101, 1361, 1362] = true := by decide +kernel
theorem jx_k8 : jx_okL jx_M8 jx_C8 [0, 140, 0] = true := by decide +kernel
theorem jx_m8 : jx_mOk jx_M8 [800, 101, 798, 799] = true := by decide +kernel
theorem jx_k9 : jx_okL jx_M9 jx_C9 [0, 0, 0, 0, 140, 0, 0, 0, 0, 0] = true := by decide +kernel
theorem jx_m9 : jx_mOk jx_M9 [1530, 101, 1528, 1529] = true := by decide +kernel
theorem jx_k10 : jx_okL jx_M10 jx_C10 [0, 0, 1535, 0, 0, 139, 0, 0, 0, 0, 0] = true := by decide +kernel
theorem jx_m10 : jx_mOk jx_M10 [1534, 101, 1532, 1533] = true := by decide +kernel
theorem jx_k11 : jx_okL jx_M11 jx_C11 [0, 0, 0, 0, 0, 0, 0, 0, 0, 0, 0, 0, 0, 0, 0, 0, 0, 0, 0, 0, 0, 0, 0] = true := by decide +kernel
theorem jx_m11 : jx_mOk jx_M11 [1366, 101, 1365, 0] = true := by decide +kernel
theorem jx_k12 : jx_okL jx_M12 jx_C12 [0, 0, 0, 0, 0, 0, 0, 0, 0] = true := by decide +kernel
theorem jx_m12 : jx_mOk jx_M12 [522, 102, 520, 521] = true := by decide +kernel
theorem jx_k13 : jx_okL jx_M13 jx_C13 [0, 0, 0, 0, 162, 0, 0, 0, 0, 0] = true := by decide +kernel
theorem jx_m13 : jx_mOk jx_M13 [566, 102, 564, 565] = true := by decide +kernel
theorem jx_k14 : jx_okL jx_M14 jx_C14 [0, 161, 0] = true := by decide +kernel
theorem jx_m14 : jx_mOk jx_M14 [1415, 102, 1413, 1414] = true := by decide +kernel
theorem jx_k15 : jx_okL jx_M15 jx_C15 [0, 162, 0] = true := by decide +kernel
theorem jx_m15 : jx_mOk jx_M15 [937, 102, 935, 936] = true := by decide +kernel
theorem jx_k16 : jx_okL jx_M16 jx_C16 [0, 0, 519, 0, 0, 0, 519, 0, 0, 0, 0, 0, 0, 0, 0, 0, 523, 0, 0, 161, 0, 0, 0, 0, 0, 0, 0, 0, 0, 0, 0, 0, 0, 0, 0, 0, 0, 526, 0, 0, 0, 0, 0, 526, 0, 0, 0, 0, 0, 526, 0, 0, 0, 0, 0, 526, 0, 0, 0, 0, 0, 526, 0, 0, 156, 0, 0, 0, 0, 0, 0, 0, 0, 530, 530, 0, 0, 0, 0, 0, 0, 0, 161, 0, 0, 161, 0, 161, 0, 0, 0] = true := by decide +kernel
theorem jx_m16 : jx_mOk jx_M16 [518, 102, 516, 517] = true := by decide +kernel
theorem jx_k17 : jx_okL jx_M17 jx_C17 [0, 0, 519, 0, 0, 0, 519, 0, 0, 156, 0, 0, 0, 0, 0, 0, 0, 0, 0] = true := by decide +kernel
theorem jx_m17 : jx_mOk jx_M17 [529, 102, 527, 528] = true := by decide +kernel
theorem jx_k18 : jx_okL jx_M18 jx_C18 [0, 0, 0, 526, 0, 0, 0, 0, 0, 0] = true := by decide +kernel
theorem jx_m18 : jx_mOk jx_M18 [1079, 102, 1077, 1078] = true := by decide +kernel
theorem jx_k19 : jx_okL jx_M19 jx_C19 [0, 0, 519, 0, 0, 0, 0, 523, 0, 0, 0, 0, 157, 0, 0, 0, 0, 157, 0, 0, 0, 0, 0] = true := by decide +kernel
theorem jx_m19 : jx_mOk jx_M19 [540, 102, 538, 539] = true := by decide +kernel
theorem jx_k20 : jx_okL jx_M20 jx_C20 [0, 0, 519, 0, 0, 157, 0, 0, 0, 0, 0] = true := by decide +kernel
theorem jx_m20 : jx_mOk jx_M20 [910, 102, 908, 909] = true := by decide +kernel
theorem jx_k21 : jx_okL jx_M21 jx_C21 [0, 0, 519, 0, 0, 0, 0, 523, 0, 0, 0, 0, 523, 0, 0, 0, 0, 162, 0, 0, 0, 0, 0, 158, 0, 162, 0, 0, 0, 159, 0, 162, 0, 0, 0, 160, 0, 162, 0, 0, 0, 0, 162, 0, 0, 162, 0, 162, 0, 0, 0] = true := by decide +kernel
theorem jx_m21 : jx_mOk jx_M21 [554, 102, 552, 553] = true := by decide +kernel
theorem jx_k22 : jx_okL jx_M22 jx_C22 [0, 0, 563, 0, 0, 0, 519, 0, 0, 0, 0, 0, 158, 0, 0, 0, 526, 0, 0, 0, 0, 0, 0, 0, 158, 0, 0, 0, 0, 0] = true := by decide +kernel
theorem jx_m22 : jx_mOk jx_M22 [562, 102, 560, 561] = true := by decide +kernel
theorem jx_k23 : jx_okL jx_M23 jx_C23 [0, 0, 563, 0, 0, 158, 0, 0, 0, 0, 0] = true := by decide +kernel
theorem jx_m23 : jx_mOk jx_M23 [893, 102, 891, 892] = true := by decide +kernel
theorem jx_k24 : jx_okL jx_M24 jx_C24 [0, 0, 563, 0, 0, 159, 0, 0, 0, 0, 0] = true := by decide +kernel
theorem jx_m24 : jx_mOk jx_M24 [901, 102, 899, 900] = true := by decide +kernel
theorem jx_k25 : jx_okL jx_M25 jx_C25 [0, 0, 563, 0, 0, 159, 0, 0, 0, 530, 0, 0] = true := by decide +kernel
theorem jx_m25 : jx_mOk jx_M25 [1087, 102, 1085, 1086] = true := by decide +kernel
theorem jx_k26 : jx_okL jx_M26 jx_C26 [0, 0, 563, 0, 0, 160, 0, 0, 0, 0, 0] = true := by decide +kernel
theorem jx_m26 : jx_mOk jx_M26 [897, 102, 895, 896] = true := by decide +kernel
theorem jx_k27 : jx_okL jx_M27 jx_C27 [0, 0, 0, 0, 906, 526, 0] = true := by decide +kernel
theorem jx_m27 : jx_mOk jx_M27 [905, 102, 903, 904] = true := by decide +kernel
theorem jx_k28 : jx_okL jx_M28 jx_C28 [0, 0, 0, 0, 0, 0, 162, 0, 0, 158, 0, 0, 0, 0, 0, 0, 0, 0, 0] = true := by decide +kernel
theorem jx_m28 : jx_mOk jx_M28 [914, 102, 912, 913] = true := by decide +kernel
theorem jx_k29 : jx_okL jx_M29 jx_C29 [0, 0, 0, 0, 0, 0, 162, 0, 0, 0, 0, 158, 0, 0, 526, 0, 0, 0, 0, 0, 0, 0, 0, 0, 0, 0, 0] = true := by decide +kernel
theorem jx_m29 : jx_mOk jx_M29 [1393, 102, 1391, 1392] = true := by decide +kernel
theorem jx_k30 : jx_okL jx_M30 jx_C30 [0, 159, 0, 153, 0] = true := by decide +kernel
theorem jx_m30 : jx_mOk jx_M30 [1389, 102, 1387, 1388] = true := by decide +kernel
theorem jx_k31 : jx_okL jx_M31 jx_C31 [0, 0, 0, 0, 0, 0, 162, 0, 0, 0, 159, 0, 0, 0, 0, 0, 0, 0, 0] = true := by decide +kernel
theorem jx_m31 : jx_mOk jx_M31 [1431, 102, 1429, 1430] = true := by decide +kernel
theorem jx_k32 : jx_okL jx_M32 jx_C32 [0, 189, 0] = true := by decide +kernel
theorem jx_m32 : jx_mOk jx_M32 [752, 104, 750, 751] = true := by decide +kernel
theorem jx_k33 : jx_okL jx_M33 jx_C33 [0, 190, 0] = true := by decide +kernel
theorem jx_m33 : jx_mOk jx_M33 [723, 104, 721, 722] = true := by decide +kernel
theorem jx_k34 : jx_okL jx_M34 jx_C34 [0, 0, 0, 0, 189, 0, 0, 0, 0, 0] = true := by decide +kernel
theorem jx_m34 : jx_mOk jx_M34 [595, 104, 593, 594] = true := by decide +kernel
theorem jx_k35 : jx_okL jx_M35 jx_C35 [0, 0, 0, 0, 190, 0, 0, 0, 0, 0] = true := by decide +kernel
theorem jx_m35 : jx_mOk jx_M35 [599, 104, 597, 598] = true := by decide +kernel
theorem jx_k36 : jx_okL jx_M36 jx_C36 [0, 0, 0, 0, 0, 0, 189, 0, 0, 0, 0, 0, 0] = true := by decide +kernel
theorem jx_m36 : jx_mOk jx_M36 [636, 104, 634, 635] = true := by decide +kernel
theorem jx_k37 : jx_okL jx_M37 jx_C37 [0, 0, 0, 0, 0, 190, 0, 0, 0, 0, 0, 0] = true := by decide +kernel
theorem jx_m37 : jx_mOk jx_M37 [640, 104, 638, 639] = true := by decide +kernel
theorem jx_k38 : jx_okL jx_M38 jx_C38 [0, 0, 0, 575, 0, 0, 189, 0, 0, 0, 0, 0, 185, 0, 189, 0, 0, 0, 0, 0, 0, 0, 0, 188, 0, 0, 0, 0, 0, 0, 0, 189, 0, 0, 0, 0, 0, 0, 0, 189, 0, 0, 189, 0, 189, 0, 0, 0] = true := by decide +kernel
theorem jx_m38 : jx_mOk jx_M38 [574, 104, 572, 573] = true := by decide +kernel
theorem jx_k39 : jx_okL jx_M39 jx_C39 [0, 0, 0, 575, 0, 0, 190, 0, 0, 0, 0, 0, 186, 0, 190, 0, 0, 0, 0, 190, 0, 0, 190, 0, 190, 0, 0, 0] = true := by decide +kernel
theorem jx_m39 : jx_mOk jx_M39 [583, 104, 581, 582] = true := by decide +kernel
theorem jx_k40 : jx_okL jx_M40 jx_C40 [0, 0, 596, 0, 0, 186, 0, 0, 0, 0, 0] = true := by decide +kernel
theorem jx_m40 : jx_mOk jx_M40 [735, 104, 733, 734] = true := by decide +kernel
theorem jx_k41 : jx_okL jx_M41 jx_C41 [0, 0, 592, 0, 0, 0, 596, 0, 0, 187, 0, 0, 0, 0, 0, 0, 0, 0, 0] = true := by decide +kernel
theorem jx_m41 : jx_mOk jx_M41 [628, 104, 626, 627] = true := by decide +kernel
theorem jx_k42 : jx_okL jx_M42 jx_C42 [0, 0, 592, 0, 0, 0, 596, 0, 0, 0, 0, 575, 0, 0, 0, 0, 187, 0, 0, 0, 0, 0, 0, 0, 0, 188, 0, 0, 0, 0, 0, 0, 0, 0, 0, 0, 0, 0, 0, 0, 0, 188, 0, 0, 0, 0, 0, 0, 0, 0, 0, 0, 0, 0, 0, 187, 0, 0, 0, 0, 0, 0, 0, 0, 0] = true := by decide +kernel
theorem jx_m42 : jx_mOk jx_M42 [591, 104, 589, 590] = true := by decide +kernel
theorem jx_k43 : jx_okL jx_M43 jx_C43 [0, 0, 596, 0, 0, 0, 0, 575, 0, 0, 0, 0, 0, 0, 0, 0, 0, 0, 0, 0, 0, 0, 0, 0, 0, 0, 0, 0, 0, 0, 0, 0, 0, 0, 189, 0, 0, 0, 0, 0, 0, 0, 0, 0, 0, 608, 0, 0, 0, 0, 0, 0, 0, 615, 0, 0, 0, 0, 0, 0, 0, 0, 0, 0, 0, 0, 0, 0] = true := by decide +kernel
theorem jx_m43 : jx_mOk jx_M43 [607, 104, 605, 606] = true := by decide +kernel
theorem jx_k44 : jx_okL jx_M44 jx_C44 [0, 0, 0, 0, 0, 0, 0, 0, 0, 0, 0, 0, 0, 0, 0, 0, 0, 611, 612, 0] = true := by decide +kernel
theorem jx_m44 : jx_mOk jx_M44 [610, 104, 609, 0] = true := by decide +kernel
theorem jx_k45 : jx_okL jx_M45 jx_C45 [0, 0, 0, 0, 0, 0, 190, 0, 0, 0, 0, 625, 0, 0, 0, 625, 0, 0, 0, 0, 0, 0, 0, 0, 0, 0, 0] = true := by decide +kernel
theorem jx_m45 : jx_mOk jx_M45 [624, 104, 622, 623] = true := by decide +kernel
theorem jx_k46 : jx_okL jx_M46 jx_C46 [0, 0, 596, 0, 0, 0, 0, 575, 0, 0, 0, 188, 0, 0, 0, 0, 0, 0, 0, 0, 0, 0] = true := by decide +kernel
theorem jx_m46 : jx_mOk jx_M46 [655, 104, 653, 654] = true := by decide +kernel
theorem jx_k47 : jx_okL jx_M47 jx_C47 [0, 0, 0, 0, 0, 0, 0, 0, 0, 652, 0, 0, 0, 0, 0, 0, 0, 0, 0, 0, 0, 0, 0, 0] = true := by decide +kernel
theorem jx_m47 : jx_mOk jx_M47 [727, 104, 725, 726] = true := by decide +kernel
theorem jx_k48 : jx_okL jx_M48 jx_C48 [0, 0, 0, 0, 0, 0, 190, 0, 0, 0, 645, 0, 0, 0, 0, 0, 0, 0, 625, 652, 0, 0, 0, 0, 0] = true := by decide +kernel
theorem jx_m48 : jx_mOk jx_M48 [651, 104, 650, 0] = true := by decide +kernel
theorem jx_k49 : jx_okL jx_M49 jx_C49 [0, 0, 0, 0, 0, 0, 189, 0, 0, 0, 645, 0, 0, 0, 185, 0, 0, 0, 0, 0, 0, 0, 0] = true := by decide +kernel
theorem jx_m49 : jx_mOk jx_M49 [731, 104, 729, 730] = true := by decide +kernel
theorem jx_k50 : jx_okL jx_M50 jx_C50 [0, 0, 0, 0, 0, 0, 189, 0, 0, 0, 645, 0, 0, 0, 0, 0, 648, 0, 0, 0, 0, 0, 0, 0, 0, 0, 0, 0, 0, 0, 0] = true := by decide +kernel
theorem jx_m50 : jx_mOk jx_M50 [644, 104, 642, 643] = true := by decide +kernel
theorem jx_k51 : jx_okL jx_M51 jx_C51 [0, 0, 0, 0, 0, 0, 0, 190, 0, 0, 0, 0, 0, 0, 0, 0, 682, 0, 0, 0, 0, 691, 0, 0, 0, 0, 0, 0, 0, 0] = true := by decide +kernel
theorem jx_m51 : jx_mOk jx_M51 [681, 104, 679, 680] = true := by decide +kernel
theorem jx_k52 : jx_okL jx_M52 jx_C52 [0, 686, 0, 686, 0, 0, 0, 0, 0, 0, 0, 0, 687, 0, 0, 687, 0, 0, 0, 0, 0] = true := by decide +kernel
theorem jx_m52 : jx_mOk jx_M52 [685, 104, 684, 1] = true := by decide +kernel
theorem jx_k53 : jx_okL jx_M53 jx_C53 [0, 0, 0, 0, 0, 0, 190, 0, 0, 0, 645, 0, 0, 0, 186, 0, 0, 0, 0, 0, 0, 0, 0] = true := by decide +kernel
theorem jx_m53 : jx_mOk jx_M53 [690, 104, 689, 2] = true := by decide +kernel
theorem jx_k54 : jx_okL jx_M54 jx_C54 [0, 0, 0, 0, 0, 0, 189, 0, 0, 0, 645, 0, 0, 0, 0, 0, 0, 0, 648, 700, 0, 0, 0, 0, 0, 0, 0, 0, 0, 0, 0] = true := by decide +kernel
theorem jx_m54 : jx_mOk jx_M54 [699, 104, 697, 698] = true := by decide +kernel
theorem jx_k55 : jx_okL jx_M55 jx_C55 [0, 0, 0, 0, 189, 0, 0, 0, 0, 0, 0, 645, 0, 0, 0, 185, 0, 0, 0, 185, 0, 0, 0, 0, 185, 0, 0, 0, 185, 0, 0, 0, 0, 0, 0, 0, 0, 0, 0, 0, 0] = true := by decide +kernel
theorem jx_m55 : jx_mOk jx_M55 [703, 104, 702, 3] = true := by decide +kernel
theorem jx_k56 : jx_okL jx_M56 jx_C56 [0, 211, 0, 712, 0, 0, 0, 713, 0] = true := by decide +kernel
theorem jx_m56 : jx_mOk jx_M56 [711, 105, 709, 710] = true := by decide +kernel
theorem jx_k57 : jx_okL jx_M57 jx_C57 [0, 0, 0, 0, 0, 0, 0, 0, 0] = true := by decide +kernel
theorem jx_m57 : jx_mOk jx_M57 [719, 105, 718, 0] = true := by decide +kernel
theorem jx_k58 : jx_okL jx_M58 jx_C58 [0, 717, 0, 0, 0, 0, 0, 0, 0, 211, 0, 0, 0, 0, 0, 211, 0, 0, 0, 0, 0, 0, 0, 0, 0, 0, 0, 210, 720, 0, 0, 210, 0, 0, 724, 0, 0, 210, 0, 728, 0, 210, 0, 732, 0, 0, 0, 0, 0, 0, 0, 736, 0, 0, 0, 0, 0, 0, 0, 0, 0, 0, 0, 0, 0, 0, 0, 211, 0, 0, 0, 0, 212, 0, 0, 0, 0, 0] = true := by decide +kernel
theorem jx_m58 : jx_mOk jx_M58 [716, 105, 715, 4] = true := by decide +kernel
theorem jx_k59 : jx_okL jx_M59 jx_C59 [0, 0, 0, 0, 0, 0, 0, 0, 210, 0, 0, 0, 740, 0, 0, 0, 0, 0, 0, 0, 713, 0, 0, 0, 0, 0, 0] = true := by decide +kernel
theorem jx_m59 : jx_mOk jx_M59 [739, 105, 738, 5] = true := by decide +kernel
