/-! checked -/
theorem jx_k60 : jx_okL jx_M60 jx_C60 [0, 717, 0, 0, 211, 0, 0, 0, 0, 0, 212, 0, 0, 0, 0, 0] = true := by decide +kernel
theorem jx_m60 : jx_mOk jx_M60 [744, 105, 742, 743] = true := by decide +kernel
theorem jx_k61 : jx_okL jx_M61 jx_C61 [0, 0, 0, 0, 0, 0, 210, 749, 0, 0, 0, 753, 0, 0, 0, 0, 0, 754, 760, 0, 0, 0, 0, 0] = true := by decide +kernel
theorem jx_m61 : jx_mOk jx_M61 [748, 105, 746, 747] = true := by decide +kernel
theorem jx_k62 : jx_okL jx_M62 jx_C62 [0, 0, 0, 0, 0, 0, 0, 0, 0, 0, 0, 758, 0, 0, 0, 0, 0, 0, 0, 210, 0, 732, 0, 0, 0, 210, 0, 0, 0, 210, 0, 0, 759, 740, 0, 0, 0, 0, 0] = true := by decide +kernel
theorem jx_m62 : jx_mOk jx_M62 [757, 105, 756, 6] = true := by decide +kernel
theorem jx_k63 : jx_okL jx_M63 jx_C63 [0, 0, 0, 795, 0, 0, 0, 0, 0, 0, 0, 758, 0, 0, 0, 0, 0, 0, 0, 0, 796, 0, 210, 0, 0, 0, 210, 0, 0, 759, 740, 0, 0, 0, 0, 0, 0, 796, 0, 797, 0, 0, 0] = true := by decide +kernel
theorem jx_m63 : jx_mOk jx_M63 [794, 105, 792, 793] = true := by decide +kernel
theorem jx_k64 : jx_okL jx_M64 jx_C64 [0, 213, 0, 712, 0, 0, 0, 0, 774, 0] = true := by decide +kernel
theorem jx_m64 : jx_mOk jx_M64 [773, 105, 771, 772] = true := by decide +kernel
theorem jx_k65 : jx_okL jx_M65 jx_C65 [0, 778, 0, 0, 0, 210, 0, 728, 0, 0, 0, 0, 0, 779, 0, 0, 0, 0, 0, 0, 213, 0, 0, 0, 0, 0, 213, 0, 0, 0, 0, 0, 213, 0, 0, 0, 0, 0, 0, 0, 0, 0, 210, 720, 0, 0, 0, 753, 0, 0, 210, 0, 732, 0, 0, 0, 0, 0, 0, 0, 0, 0, 210, 0, 0, 724, 0, 0, 0, 210, 0, 732, 0, 0, 0, 0, 0, 0, 0, 0, 0, 0, 0, 0, 782, 760, 0, 0, 0, 0, 213, 0, 0, 0, 0, 0] = true := by decide +kernel
theorem jx_m65 : jx_mOk jx_M65 [777, 105, 776, 7] = true := by decide +kernel
theorem jx_k66 : jx_okL jx_M66 jx_C66 [0, 0, 0, 0, 0, 0, 0, 0, 210, 0, 0, 0, 740, 0, 0, 0, 0, 0, 0, 0, 0, 774, 0, 0, 0, 0, 0, 0] = true := by decide +kernel
theorem jx_m66 : jx_mOk jx_M66 [785, 105, 784, 8] = true := by decide +kernel
theorem jx_k67 : jx_okL jx_M67 jx_C67 [0, 0, 0, 0, 0, 0, 0, 753, 0, 0, 0, 0, 0, 0, 0] = true := by decide +kernel
theorem jx_m67 : jx_mOk jx_M67 [781, 105, 780, 0] = true := by decide +kernel
theorem jx_k68 : jx_okL jx_M68 jx_C68 [0, 231, 0] = true := by decide +kernel
theorem jx_m68 : jx_mOk jx_M68 [1436, 106, 1434, 1435] = true := by decide +kernel
theorem jx_k69 : jx_okL jx_M69 jx_C69 [0, 231, 0, 0, 0, 0, 0, 0, 0, 0, 0, 0, 0, 230, 0, 231, 0, 0, 0, 0, 0, 0, 0, 0, 231, 0, 0, 231, 0, 0, 0, 231, 0] = true := by decide +kernel
theorem jx_m69 : jx_mOk jx_M69 [808, 106, 806, 807] = true := by decide +kernel
theorem jx_k70 : jx_okL jx_M70 jx_C70 [0, 0, 0, 0, 231, 0, 0, 0, 0, 0, 231, 0, 0] = true := by decide +kernel
theorem jx_m70 : jx_mOk jx_M70 [816, 106, 814, 815] = true := by decide +kernel
theorem jx_k71 : jx_okL jx_M71 jx_C71 [0, 231, 0, 0, 0, 231, 0, 0, 0, 0, 233, 0, 0, 0, 825, 0, 0, 0, 0, 0, 0, 0, 0, 0, 241, 0, 0, 0, 230, 0, 0, 829, 0, 0, 0, 230, 0, 0, 851, 0, 0, 0, 0, 0, 0, 0, 0, 0, 0, 0, 0, 0, 0, 0, 241, 0, 0, 239, 0, 0, 0, 0, 0, 0, 0, 863, 0, 234, 0, 0, 232, 0, 0, 235, 874, 0, 0, 235, 233, 0, 0] = true := by decide +kernel
theorem jx_m71 : jx_mOk jx_M71 [824, 106, 822, 823] = true := by decide +kernel
theorem jx_k72 : jx_okL jx_M72 jx_C72 [0, 0, 235, 0, 0, 237, 0, 0, 239, 0, 238, 0, 0, 0, 0, 0, 240, 0, 0, 241, 0] = true := by decide +kernel
theorem jx_m72 : jx_mOk jx_M72 [828, 106, 827, 9] = true := by decide +kernel
theorem jx_k73 : jx_okL jx_M73 jx_C73 [0, 0, 0, 0, 0, 833, 0, 0, 0, 0, 0, 0, 833, 0, 0, 0, 0, 0, 837, 0, 0, 841, 0, 0, 0, 0, 0, 844, 0, 0, 240, 0, 0, 241, 0, 0, 848, 0, 0, 0, 0, 844, 0, 0, 241, 0, 0, 0, 0, 0] = true := by decide +kernel
theorem jx_m73 : jx_mOk jx_M73 [832, 106, 831, 10] = true := by decide +kernel
theorem jx_k74 : jx_okL jx_M74 jx_C74 [0, 841, 0, 0, 0, 0, 0, 855, 0, 0, 0, 240, 0, 0, 0, 0, 859, 0, 0, 870, 0, 0, 0, 0, 0, 0, 0, 238, 0, 239, 0, 0, 0, 0, 0, 0, 0, 0, 238, 0, 239, 0, 0, 0, 0, 0, 0, 0, 0, 0, 863, 0, 0, 833, 0, 0, 241, 0, 0] = true := by decide +kernel
theorem jx_m74 : jx_mOk jx_M74 [854, 106, 853, 14] = true := by decide +kernel
theorem jx_k75 : jx_okL jx_M75 jx_C75 [0, 240, 0, 0, 240, 0, 0, 0, 235, 0, 0, 0, 0, 234, 0, 235, 0, 0, 0, 234, 0, 235, 0, 0, 0, 0, 0, 0, 0, 0, 0, 0, 240, 0, 0, 240, 0, 0] = true := by decide +kernel
theorem jx_m75 : jx_mOk jx_M75 [858, 106, 857, 15] = true := by decide +kernel
theorem jx_k76 : jx_okL jx_M76 jx_C76 [0, 239, 0, 0, 0, 0, 0, 0, 239, 0, 0, 239, 0, 238, 0, 239, 0, 0, 0, 0, 833, 0, 0] = true := by decide +kernel
theorem jx_m76 : jx_mOk jx_M76 [840, 106, 839, 12] = true := by decide +kernel
theorem jx_k77 : jx_okL jx_M77 jx_C77 [0, 239, 0, 0, 0, 0, 0, 863, 0, 0, 239, 0, 0, 239, 0, 0, 0, 237, 0, 0, 873, 237, 0, 0] = true := by decide +kernel
theorem jx_m77 : jx_mOk jx_M77 [862, 106, 861, 16] = true := by decide +kernel
theorem jx_k78 : jx_okL jx_M78 jx_C78 [0, 0, 0, 0, 0, 0, 0, 0, 0, 0] = true := by decide +kernel
theorem jx_m78 : jx_mOk jx_M78 [843, 106, 842, 0] = true := by decide +kernel
theorem jx_k79 : jx_okL jx_M79 jx_C79 [0, 0, 0, 0, 0, 0, 0, 0, 0, 0, 0, 0, 0, 0, 0, 0, 0, 0, 0, 0, 0, 0] = true := by decide +kernel
theorem jx_m79 : jx_mOk jx_M79 [850, 106, 849, 0] = true := by decide +kernel
theorem jx_k80 : jx_okL jx_M80 jx_C80 [0, 0, 0, 0, 0, 0, 0, 0, 0, 0, 0, 0, 0, 0] = true := by decide +kernel
theorem jx_m80 : jx_mOk jx_M80 [872, 106, 871, 0] = true := by decide +kernel
theorem jx_k81 : jx_okL jx_M81 jx_C81 [0, 0, 0, 0, 0, 0, 0, 0, 0, 870, 0] = true := by decide +kernel
theorem jx_m81 : jx_mOk jx_M81 [869, 106, 868, 0] = true := by decide +kernel
theorem jx_k82 : jx_okL jx_M82 jx_C82 [0, 235, 0, 234, 0, 0, 0, 234, 0, 235, 0, 0, 0, 0, 235, 0, 0, 235, 0] = true := by decide +kernel
theorem jx_m82 : jx_mOk jx_M82 [847, 106, 846, 13] = true := by decide +kernel
theorem jx_k83 : jx_okL jx_M83 jx_C83 [0, 237, 0, 236, 0, 0, 0, 236, 0, 237, 0, 0, 0, 0, 237, 0, 0, 237, 0] = true := by decide +kernel
theorem jx_m83 : jx_mOk jx_M83 [836, 106, 835, 11] = true := by decide +kernel
theorem jx_k84 : jx_okL jx_M84 jx_C84 [0, 237, 0, 0, 236, 0, 237, 0, 0, 0, 867, 0, 0, 0, 0, 236, 0, 237, 0, 0, 0, 0, 844, 0, 0, 237, 0, 0, 237, 0, 0] = true := by decide +kernel
theorem jx_m84 : jx_mOk jx_M84 [866, 106, 865, 17] = true := by decide +kernel
theorem jx_k85 : jx_okL jx_M85 jx_C85 [0, 0, 0, 0, 0, 0, 233, 0, 0, 232, 0, 0, 0, 0, 0, 0, 0, 848, 0, 0, 0, 0, 0, 0, 0, 0, 0, 0, 0, 886, 915, 0, 0, 0, 0, 0, 0, 0, 867, 0, 0, 0, 242, 0, 0, 0, 0, 0, 0, 242, 0, 0, 0, 0, 0, 0, 0, 0, 0, 0, 0, 0, 0, 0, 919, 0, 0, 0, 0, 0, 0, 0, 242, 0, 0, 0, 0, 0, 0, 242, 0, 0, 0, 0, 0, 242, 0, 0, 922, 0, 0, 0, 0, 0, 0, 242, 0, 0, 0, 0, 0] = true := by decide +kernel
theorem jx_m85 : jx_mOk jx_M85 [885, 106, 883, 884] = true := by decide +kernel
theorem jx_k86 : jx_okL jx_M86 jx_C86 [0, 0, 0, 0, 242, 0, 0, 0, 0, 0, 242, 0, 0, 0, 0, 0, 0, 0] = true := by decide +kernel
theorem jx_m86 : jx_mOk jx_M86 [918, 106, 917, 19] = true := by decide +kernel
theorem jx_k87 : jx_okL jx_M87 jx_C87 [0, 229, 0, 890, 0, 0, 0, 0, 229, 0, 894, 0, 0, 229, 0, 898, 0, 0, 0, 0, 229, 0, 902, 0, 0, 229, 0, 907, 0, 0, 229, 0, 911, 0] = true := by decide +kernel
theorem jx_m87 : jx_mOk jx_M87 [889, 106, 888, 18] = true := by decide +kernel
theorem jx_k88 : jx_okL jx_M88 jx_C88 [0, 0, 0, 0, 0, 0, 0, 0, 0, 919, 0, 0, 0, 0, 0, 0, 0, 0, 919, 0, 0, 0, 0, 0, 0, 0, 919, 0, 0, 0, 0, 0, 0, 0, 919, 0, 0, 0, 0, 0, 0, 0, 919, 0, 0, 0, 0, 0, 0, 0, 0, 0, 0, 0, 0, 0] = true := by decide +kernel
theorem jx_m88 : jx_mOk jx_M88 [924, 106, 923, 0] = true := by decide +kernel
theorem jx_k89 : jx_okL jx_M89 jx_C89 [0, 0, 0, 0, 0, 0] = true := by decide +kernel
theorem jx_m89 : jx_mOk jx_M89 [921, 106, 920, 0] = true := by decide +kernel
theorem jx_k90 : jx_okL jx_M90 jx_C90 [0, 229, 934, 0, 0, 0, 0, 0, 0, 0, 243, 0, 0, 0, 938, 0, 0, 0, 0, 939, 0, 0, 0, 0, 0, 0, 0, 0, 0, 0, 940, 0, 0, 0, 0, 0, 0, 0, 0, 0, 0, 0, 0, 0, 0, 0, 945, 0, 0, 0, 0, 946, 0] = true := by decide +kernel
theorem jx_m90 : jx_mOk jx_M90 [933, 106, 931, 932] = true := by decide +kernel
theorem jx_k91 : jx_okL jx_M91 jx_C91 [0, 0, 0, 0, 0, 0, 0, 0, 0, 0, 0, 944, 0, 0, 0, 0, 0, 243, 0, 0, 0, 0, 0, 0, 0, 243, 0, 0, 0, 0, 0, 0, 0] = true := by decide +kernel
theorem jx_m91 : jx_mOk jx_M91 [943, 106, 942, 20] = true := by decide +kernel
theorem jx_k92 : jx_okL jx_M92 jx_C92 [0, 0, 0, 0, 0, 0, 0, 0, 0, 0, 0, 0, 0, 0, 0, 243, 0, 0, 0, 243, 0, 0, 0, 0, 0, 0, 0, 0, 0, 0] = true := by decide +kernel
theorem jx_m92 : jx_mOk jx_M92 [949, 106, 948, 21] = true := by decide +kernel
theorem jx_k93 : jx_okL jx_M93 jx_C93 [0, 285, 0] = true := by decide +kernel
theorem jx_m93 : jx_mOk jx_M93 [1004, 107, 1002, 1003] = true := by decide +kernel
theorem jx_k94 : jx_okL jx_M94 jx_C94 [0, 291, 0] = true := by decide +kernel
theorem jx_m94 : jx_mOk jx_M94 [1427, 107, 1425, 1426] = true := by decide +kernel
theorem jx_k95 : jx_okL jx_M95 jx_C95 [0, 286, 0] = true := by decide +kernel
theorem jx_m95 : jx_mOk jx_M95 [1423, 107, 1421, 1422] = true := by decide +kernel
theorem jx_k96 : jx_okL jx_M96 jx_C96 [0, 0, 0, 0, 285, 0, 0, 0, 0, 0] = true := by decide +kernel
theorem jx_m96 : jx_mOk jx_M96 [979, 107, 977, 978] = true := by decide +kernel
theorem jx_k97 : jx_okL jx_M97 jx_C97 [0, 0, 1013, 0, 0, 286, 0, 1018, 0, 0, 0, 0, 0] = true := by decide +kernel
theorem jx_m97 : jx_mOk jx_M97 [1017, 107, 1015, 1016] = true := by decide +kernel
theorem jx_k98 : jx_okL jx_M98 jx_C98 [0, 0, 1013, 0, 0, 283, 0, 0, 0, 0, 0] = true := by decide +kernel
theorem jx_m98 : jx_mOk jx_M98 [1034, 107, 1032, 1033] = true := by decide +kernel
theorem jx_k99 : jx_okL jx_M99 jx_C99 [0, 0, 1013, 0, 0, 284, 0, 0, 0, 0, 0] = true := by decide +kernel
theorem jx_m99 : jx_mOk jx_M99 [1012, 107, 1010, 1011] = true := by decide +kernel
theorem jx_k100 : jx_okL jx_M100 jx_C100 [0, 285, 0, 0, 0, 0, 0, 283, 0, 285, 0, 0, 0, 284, 0, 285, 0, 0, 0, 0, 285, 0, 0, 285, 0, 285, 0, 0, 0] = true := by decide +kernel
theorem jx_m100 : jx_mOk jx_M100 [971, 107, 969, 970] = true := by decide +kernel
theorem jx_k101 : jx_okL jx_M101 jx_C101 [0, 0, 0, 0, 0, 0, 285, 0, 0, 0, 284, 0, 0, 1018, 0, 0, 0, 0, 0, 0, 0, 0, 0, 0, 0] = true := by decide +kernel
theorem jx_m101 : jx_mOk jx_M101 [1397, 107, 1395, 1396] = true := by decide +kernel
theorem jx_k102 : jx_okL jx_M102 jx_C102 [0, 0, 1013, 0, 0, 282, 0, 1072, 0, 0, 0, 0, 0, 1073, 0, 0, 0, 0, 284, 0, 0, 0, 0, 0, 0, 0, 0, 282, 0, 1074, 0, 0, 0, 0, 282, 0, 282, 0, 1075, 0, 282, 0, 1075, 1076, 0, 0, 0, 0, 0, 0, 0, 1080, 0, 282, 0, 0, 282, 0, 1074, 0, 0, 1084, 0, 282, 0, 0, 282, 0, 1074, 0, 0, 1084, 0, 284, 0, 0, 0, 0, 0, 286, 0, 0, 0, 0, 286, 0, 282, 0, 1074, 0] = true := by decide +kernel
theorem jx_m102 : jx_mOk jx_M102 [1071, 107, 1069, 1070] = true := by decide +kernel
theorem jx_k103 : jx_okL jx_M103 jx_C103 [0, 291, 0, 0, 0, 287, 0, 291, 0, 0, 0, 288, 0, 291, 0, 0, 0, 289, 0, 291, 0, 282, 0, 1074, 0, 0, 290, 0, 291, 0, 282, 0, 1074, 0, 0, 0, 291, 0, 0, 291, 0] = true := by decide +kernel
theorem jx_m103 : jx_mOk jx_M103 [1083, 107, 1082, 28] = true := by decide +kernel
theorem jx_k104 : jx_okL jx_M104 jx_C104 [0, 291, 0, 0, 0, 0, 0, 291, 0, 0, 291, 0, 287, 0, 291, 0, 0, 0, 282, 0, 284, 0, 0, 0, 290, 0, 291, 0, 1084, 0, 282, 0, 288, 0, 291, 0, 0, 289, 0, 291, 0, 1084, 0, 284, 0, 0, 288, 0, 291, 0, 0, 0, 0, 286, 0, 0, 0, 0, 0, 0, 286, 0, 0] = true := by decide +kernel
theorem jx_m104 : jx_mOk jx_M104 [1095, 107, 1093, 1094] = true := by decide +kernel
theorem jx_k105 : jx_okL jx_M105 jx_C105 [0, 0, 0, 958, 0, 0, 319, 0, 962, 0, 0, 0, 0, 963, 0, 0, 321, 0, 0, 0, 0, 0, 0, 0, 0, 0] = true := by decide +kernel
theorem jx_m105 : jx_mOk jx_M105 [957, 108, 955, 956] = true := by decide +kernel
theorem jx_k106 : jx_okL jx_M106 jx_C106 [0, 319, 0, 962, 0, 0, 0, 0, 963, 0, 0, 0, 0, 0, 0, 0, 0, 321, 0, 0, 0, 0, 0, 0, 0, 0, 0] = true := by decide +kernel
theorem jx_m106 : jx_mOk jx_M106 [961, 108, 960, 22] = true := by decide +kernel
theorem jx_k107 : jx_okL jx_M107 jx_C107 [0, 0, 0, 963, 0, 0, 0, 0, 322, 0, 0, 0, 322, 0, 0] = true := by decide +kernel
theorem jx_m107 : jx_mOk jx_M107 [987, 108, 985, 986] = true := by decide +kernel
theorem jx_k108 : jx_okL jx_M108 jx_C108 [0, 320, 0, 976, 0, 0, 0, 0, 0, 0, 0, 0, 323, 0, 0, 0, 0, 0, 0, 0, 0, 0, 0] = true := by decide +kernel
theorem jx_m108 : jx_mOk jx_M108 [975, 108, 973, 974] = true := by decide +kernel
theorem jx_k109 : jx_okL jx_M109 jx_C109 [0, 320, 0, 976, 0, 0, 323, 0, 0, 0, 0, 0, 0, 0] = true := by decide +kernel
theorem jx_m109 : jx_mOk jx_M109 [1067, 108, 1065, 1066] = true := by decide +kernel
theorem jx_k110 : jx_okL jx_M110 jx_C110 [0, 0, 0, 963, 0, 0, 0, 0, 996, 0, 325, 0, 1022, 0, 0, 0, 0, 0, 0, 0, 0, 0, 0, 0, 1023, 0, 0, 0, 0, 323, 0, 0, 0, 0, 323, 0, 0, 1041, 0, 0] = true := by decide +kernel
theorem jx_m110 : jx_mOk jx_M110 [995, 108, 993, 994] = true := by decide +kernel
theorem jx_k111 : jx_okL jx_M111 jx_C111 [0, 1046, 0, 0, 0, 0, 320, 1001, 0, 0, 0, 325, 0, 0, 0, 1047, 0, 0, 0] = true := by decide +kernel
theorem jx_m111 : jx_mOk jx_M111 [1045, 108, 1043, 1044] = true := by decide +kernel
theorem jx_k112 : jx_okL jx_M112 jx_C112 [0, 996, 0, 0, 0, 0, 0, 0, 0, 0, 0, 0, 0, 1023, 0, 0, 0, 0, 0, 0, 0, 0, 0, 0, 1056, 0, 0, 0, 0, 0, 0, 0, 0, 0, 0, 0, 0, 0, 0, 0, 0, 0, 0, 0, 0] = true := by decide +kernel
theorem jx_m112 : jx_mOk jx_M112 [1055, 108, 1053, 1054] = true := by decide +kernel
theorem jx_k113 : jx_okL jx_M113 jx_C113 [0, 0, 0, 0, 0, 0, 0, 0, 0, 0, 0, 0, 0, 0, 0, 0, 0, 0, 0, 0, 320, 1001, 0, 0, 323, 0, 0, 0, 0, 0, 323, 0, 0, 0, 0, 0, 0, 0, 0, 0, 0, 0, 0, 0] = true := by decide +kernel
theorem jx_m113 : jx_mOk jx_M113 [1059, 108, 1058, 27] = true := by decide +kernel
theorem jx_k114 : jx_okL jx_M114 jx_C114 [0, 0, 0, 0, 319, 1000, 0, 0, 0, 0, 0, 320, 1001, 0, 0, 324, 0, 0, 0, 0, 0, 0, 0, 0, 1005, 0, 0, 0, 0, 0, 0] = true := by decide +kernel
theorem jx_m114 : jx_mOk jx_M114 [999, 108, 998, 23] = true := by decide +kernel
theorem jx_k115 : jx_okL jx_M115 jx_C115 [0, 320, 0, 1009, 0, 0, 320, 0, 1014, 0, 0, 0, 0, 0, 322, 0, 0, 0, 0, 0, 319, 0, 319, 0, 1019, 0, 319, 0, 1019, 1020, 0, 0, 0, 0, 0, 0, 0, 0, 0, 322, 0, 1021, 0] = true := by decide +kernel
theorem jx_m115 : jx_mOk jx_M115 [1008, 108, 1007, 24] = true := by decide +kernel
theorem jx_k116 : jx_okL jx_M116 jx_C116 [0, 325, 0, 1022, 0, 0, 0, 0, 319, 1000, 0, 0, 0, 0, 1027, 0, 0, 0, 0, 0, 325, 0, 0, 0, 0, 0, 0, 0, 0, 0, 0, 0, 0, 0, 0, 0, 0, 320, 1001, 0, 0, 323, 0, 0, 0, 0, 0, 0, 0, 0, 320, 0, 1014, 0, 0, 0, 0, 0, 325, 0, 0, 1036, 1037, 0, 0, 323, 0, 0, 0, 0, 0, 0, 0, 0, 0, 0, 0, 0, 0, 0, 0, 0, 0] = true := by decide +kernel
theorem jx_m116 : jx_mOk jx_M116 [1026, 108, 1025, 25] = true := by decide +kernel
theorem jx_k117 : jx_okL jx_M117 jx_C117 [0, 0, 0, 0, 0, 0, 1040, 0, 0, 0, 0, 0, 0, 0, 0, 0, 0, 1021, 0] = true := by decide +kernel
theorem jx_m117 : jx_mOk jx_M117 [1039, 108, 1038, 0] = true := by decide +kernel
theorem jx_k118 : jx_okL jx_M118 jx_C118 [0, 0, 0, 0, 0, 0, 0, 0, 320, 1001, 0, 0, 324, 0, 0, 0, 0, 0, 0, 0, 0, 0, 0, 0, 0, 323, 0, 0, 0, 0, 0, 0, 0, 0, 0, 0, 0, 0, 320, 0, 1031, 958, 0, 0, 0, 0, 0, 0, 0, 319, 0, 1035, 0, 0, 0, 0, 0, 0, 0, 0, 0, 0, 0, 0, 0, 0, 0, 0, 0, 0, 0, 0, 0] = true := by decide +kernel
theorem jx_m118 : jx_mOk jx_M118 [1030, 108, 1029, 26] = true := by decide +kernel
theorem jx_k119 : jx_okL jx_M119 jx_C119 [0, 0, 0, 0, 0, 0, 320, 1001, 0, 0, 0, 1402, 0, 0, 320, 0, 1014, 0, 0, 0, 0, 1403, 0, 0, 0, 0, 0, 0, 0, 0, 0, 0, 0, 0] = true := by decide +kernel
theorem jx_m119 : jx_mOk jx_M119 [1401, 108, 1399, 1400] = true := by decide +kernel
