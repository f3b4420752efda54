/-! checked -/
theorem jx_k120 : jx_okL jx_M120 jx_C120 [0, 0, 0, 0, 0, 0, 319, 1000, 0, 0, 0, 1402, 0, 0, 0, 320, 0, 1009, 0, 0, 0, 0, 0, 0, 0, 0, 0, 0, 320, 0, 1031, 958, 0, 0, 1407, 0, 0, 0, 0, 0, 0] = true := by decide +kernel
theorem jx_m120 : jx_mOk jx_M120 [1406, 108, 1405, 49] = true := by decide +kernel
theorem jx_k121 : jx_okL jx_M121 jx_C121 [0, 347, 0, 1104, 0, 0, 0, 0, 1105, 0, 0, 0, 0, 1105, 0, 0, 0, 0, 351, 0, 0, 0, 0, 0, 351, 0, 0, 0, 0, 349, 0, 0, 0, 0, 0, 0, 0, 348, 0, 0, 348, 0, 0, 0, 0, 0, 0, 349, 0, 0, 349, 0, 0, 0, 0, 0, 0, 350, 0, 0, 350, 0, 0, 0, 0, 0, 0, 0, 0, 348, 0, 0, 0, 0, 349, 0, 0, 0, 0, 350, 0, 0, 0, 0, 0, 351, 0, 0, 351, 0, 351, 0] = true := by decide +kernel
theorem jx_m121 : jx_mOk jx_M121 [1103, 109, 1101, 1102] = true := by decide +kernel
theorem jx_k122 : jx_okL jx_M122 jx_C122 [0, 347, 0, 1114, 0, 0, 347, 0, 1104, 0, 0, 356, 0, 0, 0, 0, 0, 0, 0, 1105, 0, 0, 0, 0, 1105, 0, 0, 0, 0, 352, 0, 356, 0, 0, 0, 353, 0, 356, 0, 0, 0, 354, 0, 356, 0, 0, 0, 355, 0, 356, 0, 0, 0, 0, 356, 0, 0, 356, 0, 356, 0] = true := by decide +kernel
theorem jx_m122 : jx_mOk jx_M122 [1113, 109, 1111, 1112] = true := by decide +kernel
theorem jx_k123 : jx_okL jx_M123 jx_C123 [0, 347, 0, 1104, 0, 0, 0, 0, 1105, 0, 0, 0, 0, 1105, 0, 0, 0, 0, 360, 0, 0, 0, 0, 0, 357, 0, 360, 0, 0, 0, 358, 0, 360, 0, 0, 0, 359, 0, 360, 0, 0, 0, 0, 360, 0, 0, 360, 0, 360, 0] = true := by decide +kernel
theorem jx_m123 : jx_mOk jx_M123 [1172, 109, 1170, 1171] = true := by decide +kernel
theorem jx_k124 : jx_okL jx_M124 jx_C124 [0, 0, 0, 0, 0, 0, 0, 348, 0, 0, 0, 348, 0, 0, 0, 0, 0, 0, 0, 0, 0] = true := by decide +kernel
theorem jx_m124 : jx_mOk jx_M124 [1130, 109, 1129, 30] = true := by decide +kernel
theorem jx_k125 : jx_okL jx_M125 jx_C125 [0, 0, 1127, 0, 0, 0, 0, 0, 0, 0, 0, 350, 0, 0, 0, 350, 0, 0, 0, 1131, 0] = true := by decide +kernel
theorem jx_m125 : jx_mOk jx_M125 [1126, 109, 1125, 29] = true := by decide +kernel
theorem jx_k126 : jx_okL jx_M126 jx_C126 [0, 0, 0, 0, 0, 0, 0, 0, 0, 0, 351, 0, 0, 348, 0, 0, 0, 0, 0, 0, 1123, 0, 0, 0, 0, 0, 0, 0, 0, 0, 0, 0, 1123, 0, 0, 0, 0, 0, 1132, 0, 0, 0, 0, 0, 0, 0, 1127, 0, 0, 0, 0, 0, 0, 349, 0, 0, 0, 0, 349, 0, 0, 0, 1133, 0, 0, 0, 1134, 0, 0] = true := by decide +kernel
theorem jx_m126 : jx_mOk jx_M126 [1122, 109, 1120, 1121] = true := by decide +kernel
theorem jx_k127 : jx_okL jx_M127 jx_C127 [0, 0, 0, 0, 0, 0, 351, 0, 0, 348, 0, 0, 0, 0, 0, 0, 1123, 0, 0, 0, 0, 0, 0, 1143, 0, 0, 0, 0, 0, 0] = true := by decide +kernel
theorem jx_m127 : jx_mOk jx_M127 [1142, 109, 1140, 1141] = true := by decide +kernel
theorem jx_k128 : jx_okL jx_M128 jx_C128 [0, 0, 1127, 0, 0, 0, 0, 0, 0, 0, 0, 348, 0, 0, 0, 349, 0, 0, 0, 349, 0, 0, 1147, 0] = true := by decide +kernel
theorem jx_m128 : jx_mOk jx_M128 [1146, 109, 1145, 31] = true := by decide +kernel
theorem jx_k129 : jx_okL jx_M129 jx_C129 [0, 0, 0, 0, 0, 0, 356, 0, 0, 353, 0, 0, 0, 0, 0, 354, 0, 0, 0, 0, 0, 355, 0, 0, 0, 0, 0, 0, 0, 352, 0, 0, 0, 0, 0, 0, 0, 0, 0] = true := by decide +kernel
theorem jx_m129 : jx_mOk jx_M129 [1150, 109, 1149, 32] = true := by decide +kernel
theorem jx_k130 : jx_okL jx_M130 jx_C130 [0, 0, 0, 0, 0, 0, 351, 0, 0, 0, 1123, 0, 0, 361, 0, 0, 0, 1143, 0, 0, 0, 0, 0, 0, 0, 0, 0, 0, 0, 347, 1159, 0, 0, 0, 0, 0, 0, 1160, 0, 1160, 0, 0, 0, 0, 0, 0, 0, 0, 0, 0, 1161, 0, 0, 0, 0, 0, 0, 0] = true := by decide +kernel
theorem jx_m130 : jx_mOk jx_M130 [1158, 109, 1156, 1157] = true := by decide +kernel
theorem jx_k131 : jx_okL jx_M131 jx_C131 [0, 0, 0, 0, 0, 0, 361, 0, 0, 0, 0, 0, 0, 0, 0, 0, 0, 0] = true := by decide +kernel
theorem jx_m131 : jx_mOk jx_M131 [1164, 109, 1163, 33] = true := by decide +kernel
theorem jx_k132 : jx_okL jx_M132 jx_C132 [0, 347, 1159, 0, 0, 0, 360, 0, 0, 0, 0, 0, 362, 0, 0, 0, 0, 0, 0, 0, 0, 0, 0, 0, 1181, 0, 0, 0, 363, 0, 1195, 0, 0, 0, 0, 0, 0, 0, 0, 0, 0, 0, 0, 0, 0, 1196, 0, 0, 0, 0, 1132, 0, 0, 0, 0, 360, 0, 0, 0, 363, 0, 0, 0, 1134, 0, 0, 0, 362, 0, 0, 0, 0, 0, 0, 0] = true := by decide +kernel
theorem jx_m132 : jx_mOk jx_M132 [1180, 109, 1178, 1179] = true := by decide +kernel
theorem jx_k133 : jx_okL jx_M133 jx_C133 [0, 0, 0, 1185, 0, 0, 0, 0, 0, 0, 0, 0, 0, 0, 0, 0, 0, 0, 0, 0, 0, 0, 0, 0, 0, 0, 0, 0, 0, 0, 0, 0, 362, 0, 0, 0, 0, 0, 0, 0, 0, 0, 0, 0, 0, 0, 362, 0, 0, 0, 0, 0, 0, 0, 0, 0, 0, 0, 0] = true := by decide +kernel
theorem jx_m133 : jx_mOk jx_M133 [1184, 109, 1183, 34] = true := by decide +kernel
theorem jx_k134 : jx_okL jx_M134 jx_C134 [0, 0, 0, 1185, 0, 0, 0, 0, 0, 0, 0, 0, 0, 0, 0, 0, 0, 0, 0, 0, 0, 0, 0, 0, 0, 0, 0, 0, 0, 0, 0, 0, 0, 0, 0, 0, 0, 0, 0, 0, 0, 0, 0, 0, 0, 362, 0, 0, 0, 0, 0, 0, 0, 0, 0, 0, 0, 0, 1200, 0, 0, 0, 0, 0, 0, 0, 0, 0, 0, 0, 0, 0, 0] = true := by decide +kernel
theorem jx_m134 : jx_mOk jx_M134 [1199, 109, 1198, 37] = true := by decide +kernel
theorem jx_k135 : jx_okL jx_M135 jx_C135 [0, 0, 0, 0, 360, 0, 0, 0, 1189, 0, 0, 363, 0, 0, 0, 0, 0, 0, 0, 0, 0, 0, 0] = true := by decide +kernel
theorem jx_m135 : jx_mOk jx_M135 [1203, 109, 1202, 38] = true := by decide +kernel
theorem jx_k136 : jx_okL jx_M136 jx_C136 [0, 0, 0, 0, 0, 0, 360, 0, 0, 358, 0, 0, 0, 0, 0, 357, 0, 0, 0, 0, 1147, 0, 1189, 0, 0, 0, 0, 0, 0, 0, 0, 0, 0, 0, 0, 0, 0, 0, 0, 0, 0, 0, 0, 0, 0, 0, 1190, 0, 347, 0, 1194, 0, 0, 0, 0, 0, 0, 0, 0, 0, 0, 0] = true := by decide +kernel
theorem jx_m136 : jx_mOk jx_M136 [1188, 109, 1187, 35] = true := by decide +kernel
theorem jx_k137 : jx_okL jx_M137 jx_C137 [0, 0, 0, 0, 0, 0, 360, 0, 0, 0, 1189, 0, 0, 0, 359, 0, 0, 0, 0, 0, 0, 0, 0] = true := by decide +kernel
theorem jx_m137 : jx_mOk jx_M137 [1193, 109, 1192, 36] = true := by decide +kernel
theorem jx_k138 : jx_okL jx_M138 jx_C138 [0, 405, 0, 0, 1218, 0, 0, 0, 0, 0, 0, 0, 0, 0, 0, 0, 0, 0, 0] = true := by decide +kernel
theorem jx_m138 : jx_mOk jx_M138 [1217, 110, 1216, 39] = true := by decide +kernel
theorem jx_k139 : jx_okL jx_M139 jx_C139 [0, 0, 0, 0, 0, 0, 405, 1212, 0, 0, 0, 0, 405, 0, 1213, 0, 1214, 0, 0, 0, 0, 0, 0] = true := by decide +kernel
theorem jx_m139 : jx_mOk jx_M139 [1211, 110, 1209, 1210] = true := by decide +kernel
theorem jx_k140 : jx_okL jx_M140 jx_C140 [0, 0, 0, 0, 1227, 0, 0, 0, 0, 0, 0, 0, 0, 0, 0, 1227, 0, 0, 0, 0, 0, 0, 0, 0, 0, 0, 0, 0, 0, 0, 0, 0, 0, 0, 0, 0, 0, 0, 1228, 0, 0] = true := by decide +kernel
theorem jx_m140 : jx_mOk jx_M140 [1226, 110, 1224, 1225] = true := by decide +kernel
theorem jx_k141 : jx_okL jx_M141 jx_C141 [0, 405, 0, 1237, 0, 0, 0, 0, 1238, 0, 0, 408, 0, 0, 0, 0, 0, 406, 0, 408, 0, 0, 0, 407, 0, 408, 0, 0, 0, 0, 408, 0, 0, 408, 0, 408, 0] = true := by decide +kernel
theorem jx_m141 : jx_mOk jx_M141 [1236, 110, 1234, 1235] = true := by decide +kernel
theorem jx_k142 : jx_okL jx_M142 jx_C142 [0, 0, 0, 0, 1247, 1248, 413, 0, 0, 414, 0, 0, 415, 0, 411, 0, 1249, 0, 1250, 0, 0, 1254, 0, 0, 1271, 0, 0, 0, 0, 413, 0, 0, 415, 0, 0, 0, 410, 0, 0, 0, 1272, 0, 0, 0, 0] = true := by decide +kernel
theorem jx_m142 : jx_mOk jx_M142 [1246, 110, 1244, 1245] = true := by decide +kernel
theorem jx_k143 : jx_okL jx_M143 jx_C143 [0, 412, 0, 1249, 0, 413, 0, 0, 0, 0, 0, 0, 0, 0, 0, 408, 0, 0, 412, 0, 0, 0, 0, 0, 0, 0, 0, 0, 0, 412, 0, 0, 0, 0, 0, 0, 0, 0, 0, 0, 406, 0, 0, 1214, 0, 0, 0, 0, 0, 0, 0, 0] = true := by decide +kernel
theorem jx_m143 : jx_mOk jx_M143 [1253, 110, 1252, 40] = true := by decide +kernel
theorem jx_k144 : jx_okL jx_M144 jx_C144 [0, 0, 413, 0, 0, 0, 1258, 0, 0, 0, 0, 0, 413, 0, 0, 1262, 0, 0, 0, 0, 0, 0, 0, 0, 0, 0, 409, 0, 0, 0, 0, 0, 0, 1267, 0, 0, 0, 0, 0, 1254, 0, 0, 0, 0, 0, 0, 1267, 0, 0, 0, 0] = true := by decide +kernel
theorem jx_m144 : jx_mOk jx_M144 [1257, 110, 1256, 41] = true := by decide +kernel
theorem jx_k145 : jx_okL jx_M145 jx_C145 [0, 0, 0, 0, 408, 0, 0, 411, 0, 0, 0, 412, 0, 0, 0, 0, 0, 0, 0, 0, 0, 411, 0, 0, 0, 407, 0, 0, 0, 414, 0, 0, 0, 0, 407, 0, 0, 0, 414, 0, 0, 0, 0, 0, 0, 0, 0] = true := by decide +kernel
theorem jx_m145 : jx_mOk jx_M145 [1261, 110, 1260, 42] = true := by decide +kernel
theorem jx_k146 : jx_okL jx_M146 jx_C146 [0, 0, 0, 0, 408, 0, 0, 411, 0, 0, 0, 0, 0, 0, 0, 406, 0, 0, 1214, 0, 0, 0, 0, 0, 0] = true := by decide +kernel
theorem jx_m146 : jx_mOk jx_M146 [1270, 110, 1269, 44] = true := by decide +kernel
theorem jx_k147 : jx_okL jx_M147 jx_C147 [0, 415, 0, 0, 0, 415, 0, 409, 0, 0, 410, 0, 0, 413, 1266, 0] = true := by decide +kernel
theorem jx_m147 : jx_mOk jx_M147 [1265, 110, 1264, 43] = true := by decide +kernel
theorem jx_k148 : jx_okL jx_M148 jx_C148 [0, 0, 0, 0, 0, 0, 0, 1281, 0, 0, 446, 0, 0, 0, 446, 0, 0, 0, 0, 0, 0, 0, 1281, 0, 0, 447, 0, 0, 0, 447, 0, 0, 0, 0, 0, 0, 0, 1281, 0, 0, 448, 0, 0, 0, 448, 0, 0, 0, 0, 0, 0, 0, 1281, 0, 0, 449, 0, 0, 0, 449, 0, 0] = true := by decide +kernel
theorem jx_m148 : jx_mOk jx_M148 [1280, 111, 1278, 1279] = true := by decide +kernel
theorem jx_k149 : jx_okL jx_M149 jx_C149 [0, 446, 0, 449, 0, 0, 0, 0, 0] = true := by decide +kernel
theorem jx_m149 : jx_mOk jx_M149 [1385, 111, 1383, 1384] = true := by decide +kernel
theorem jx_k150 : jx_okL jx_M150 jx_C150 [0, 445, 1290, 0, 0, 0, 0, 0, 0, 0, 0, 0, 0, 0, 0, 0, 445, 0, 1291, 0, 0, 0, 0, 0, 0, 445, 0, 1291, 0, 0, 0, 0, 0, 446, 0, 447, 0, 0, 0, 0, 0, 447, 0, 0, 0, 0, 0, 448, 0, 0, 0, 0, 0, 0, 0, 0, 0, 0, 0, 0, 448, 0, 0, 0, 0, 0, 0, 1292, 0] = true := by decide +kernel
theorem jx_m150 : jx_mOk jx_M150 [1289, 111, 1287, 1288] = true := by decide +kernel
theorem jx_k151 : jx_okL jx_M151 jx_C151 [0, 445, 1290, 0, 0, 0, 0, 446, 0, 0, 1301, 0, 0, 0, 0, 445, 1290, 0, 0, 0, 1302, 0, 0, 0, 0, 0, 0, 0, 447, 0, 0, 0, 445, 0, 1291, 0, 0, 0, 0, 0, 448, 0, 0, 0, 0, 0, 1307, 0, 0, 0, 0, 0, 0, 0, 0, 0, 0, 1308, 0] = true := by decide +kernel
theorem jx_m151 : jx_mOk jx_M151 [1300, 111, 1298, 1299] = true := by decide +kernel
theorem jx_k152 : jx_okL jx_M152 jx_C152 [0, 0, 0, 0, 0, 0, 445, 1290, 0, 0, 0, 1306, 0, 0, 445, 0, 1291, 0, 0, 0, 0, 0, 0, 0, 0, 0, 0, 0, 0, 445, 0, 1291, 0, 445, 0, 1291, 0, 0, 0, 0, 0, 0, 0] = true := by decide +kernel
theorem jx_m152 : jx_mOk jx_M152 [1305, 111, 1304, 45] = true := by decide +kernel
theorem jx_k153 : jx_okL jx_M153 jx_C153 [0, 0, 0, 1317, 0, 0, 0, 0, 1317, 0, 0, 0, 0, 0, 0, 0, 0, 0, 0, 0, 0, 0, 0, 0, 0, 0, 468, 0, 0, 0, 0, 0, 0, 0, 0, 0, 0, 0, 0, 0, 468, 0, 0, 0, 0, 468, 0, 0, 0, 0, 0] = true := by decide +kernel
theorem jx_m153 : jx_mOk jx_M153 [1316, 112, 1314, 1315] = true := by decide +kernel
theorem jx_k154 : jx_okL jx_M154 jx_C154 [0, 0, 0, 1317, 0, 0, 0, 0, 1317, 0, 0, 0, 0, 0] = true := by decide +kernel
theorem jx_m154 : jx_mOk jx_M154 [1338, 112, 1336, 1337] = true := by decide +kernel
theorem jx_k155 : jx_okL jx_M155 jx_C155 [0, 467, 0, 1326, 0, 0, 467, 0, 1326, 0, 0, 0, 0, 467, 0, 0, 1327, 0, 0, 0, 0, 0, 0, 0, 0, 0, 0, 0, 0, 0, 0, 467, 0, 0, 1327, 0, 0, 0, 467, 0, 1328, 0, 467, 0, 1328, 0, 0, 0, 0, 0, 0, 0, 0, 0, 0, 0, 0, 0, 0, 467, 0, 1328, 0, 0, 1329, 0, 0, 0, 1330, 0, 0] = true := by decide +kernel
theorem jx_m155 : jx_mOk jx_M155 [1325, 112, 1323, 1324] = true := by decide +kernel
theorem jx_k156 : jx_okL jx_M156 jx_C156 [0, 1353, 0, 0, 0, 0, 1317, 0, 0, 468, 0, 0, 0, 0, 0] = true := by decide +kernel
theorem jx_m156 : jx_mOk jx_M156 [1352, 112, 1351, 47] = true := by decide +kernel
theorem jx_k157 : jx_okL jx_M157 jx_C157 [0, 467, 0, 0, 1348, 0, 0, 0, 0, 0, 0, 467, 0, 0, 1327, 0, 1349, 0, 0, 0, 0, 467, 0, 1328, 0, 0, 1349, 0, 0] = true := by decide +kernel
theorem jx_m157 : jx_mOk jx_M157 [1347, 112, 1346, 46] = true := by decide +kernel
theorem jx_k158 : jx_okL jx_M158 jx_C158 [0, 0, 0, 0, 0, 0, 469, 0, 0, 0, 0, 467, 0, 1343, 0, 0, 1344, 0, 0, 0, 0, 0, 0, 1356, 0] = true := by decide +kernel
theorem jx_m158 : jx_mOk jx_M158 [1342, 112, 1340, 1341] = true := by decide +kernel
theorem jx_k159 : jx_okL jx_M159 jx_C159 [0, 0, 467, 1376, 1377, 0, 0, 0, 0, 0, 0, 0, 0, 467, 0, 1343, 0, 467, 0, 1343, 0, 0, 1344, 0, 0, 469, 0, 0, 0, 0, 0, 0, 0, 0, 0, 0, 0, 0, 0, 1356, 0] = true := by decide +kernel
theorem jx_m159 : jx_mOk jx_M159 [1375, 112, 1373, 1374] = true := by decide +kernel
theorem jx_k160 : jx_okL jx_M160 jx_C160 [0, 0, 0, 0, 0, 0, 0, 0, 0, 0, 0, 0, 0, 469, 0, 0, 0, 0, 0, 469, 0, 0, 0, 0, 0, 0, 0, 469, 0, 0, 0, 0, 0, 0, 0, 0, 0, 0, 0, 0, 0, 1360, 0, 0] = true := by decide +kernel
theorem jx_m160 : jx_mOk jx_M160 [1359, 112, 1358, 48] = true := by decide +kernel
theorem jx_k161 : jx_okL jx_M161 jx_C161 [0, 478, 0, 0, 0, 515, 0] = true := by decide +kernel
theorem jx_m161 : jx_mOk jx_M161 [514, 100, 512, 513] = true := by decide +kernel
theorem jx_k162 : jx_okL jx_M162 jx_C162 [0, 478, 0, 0, 537, 0] = true := by decide +kernel
theorem jx_m162 : jx_mOk jx_M162 [536, 100, 534, 535] = true := by decide +kernel
theorem jx_k163 : jx_okL jx_M163 jx_C163 [0, 478, 0, 545, 0, 0, 478, 0, 545, 0, 0, 478, 0, 0, 546, 0, 0, 0] = true := by decide +kernel
theorem jx_m163 : jx_mOk jx_M163 [544, 100, 542, 543] = true := by decide +kernel
theorem jx_k164 : jx_okL jx_M164 jx_C164 [0, 478, 0, 0, 0, 551, 0] = true := by decide +kernel
theorem jx_m164 : jx_mOk jx_M164 [550, 100, 548, 549] = true := by decide +kernel
theorem jx_k165 : jx_okL jx_M165 jx_C165 [0, 478, 0, 0, 559, 0] = true := by decide +kernel
theorem jx_m165 : jx_mOk jx_M165 [558, 100, 556, 557] = true := by decide +kernel
theorem jx_k166 : jx_okL jx_M166 jx_C166 [0, 478, 0, 881, 0, 0, 0, 0, 769, 0, 0, 0, 0, 0, 0, 0, 0, 478, 0, 1506, 0, 0, 0, 0, 0, 478, 0, 1507, 0, 0, 478, 0, 1508, 0] = true := by decide +kernel
theorem jx_m166 : jx_mOk jx_M166 [1444, 100, 1442, 1443] = true := by decide +kernel
theorem jx_k167 : jx_okL jx_M167 jx_C167 [0, 479, 0, 571, 0] = true := by decide +kernel
theorem jx_m167 : jx_mOk jx_M167 [570, 100, 568, 569] = true := by decide +kernel
theorem jx_k168 : jx_okL jx_M168 jx_C168 [0, 479, 0, 580, 0] = true := by decide +kernel
theorem jx_m168 : jx_mOk jx_M168 [579, 100, 577, 578] = true := by decide +kernel
theorem jx_k169 : jx_okL jx_M169 jx_C169 [0, 479, 0, 0, 0, 588, 0] = true := by decide +kernel
theorem jx_m169 : jx_mOk jx_M169 [587, 100, 585, 586] = true := by decide +kernel
theorem jx_k170 : jx_okL jx_M170 jx_C170 [0, 479, 0, 0, 0, 0, 0, 604, 0] = true := by decide +kernel
theorem jx_m170 : jx_mOk jx_M170 [603, 100, 601, 602] = true := by decide +kernel
theorem jx_k171 : jx_okL jx_M171 jx_C171 [0, 479, 0, 620, 0, 0, 479, 0, 620, 0, 0, 479, 0, 0, 621, 0, 0, 0] = true := by decide +kernel
theorem jx_m171 : jx_mOk jx_M171 [619, 100, 617, 618] = true := by decide +kernel
theorem jx_k172 : jx_okL jx_M172 jx_C172 [0, 479, 0, 633, 0, 0, 479, 0, 637, 0, 0, 0, 0, 479, 0, 0, 641, 0, 0, 477, 0, 0, 656, 0, 668, 0] = true := by decide +kernel
theorem jx_m172 : jx_mOk jx_M172 [632, 100, 630, 631] = true := by decide +kernel
theorem jx_k173 : jx_okL jx_M173 jx_C173 [0, 479, 0, 633, 0, 0, 0, 0, 479, 0, 678, 0, 0, 0, 0, 0, 0, 477, 0, 0, 656, 0, 668, 0] = true := by decide +kernel
theorem jx_m173 : jx_mOk jx_M173 [677, 100, 675, 676] = true := by decide +kernel
theorem jx_k174 : jx_okL jx_M174 jx_C174 [0, 479, 0, 633, 0, 0, 479, 0, 637, 0, 0, 0, 0, 479, 0, 0, 696, 0, 0, 477, 0, 0, 656, 0, 668, 0] = true := by decide +kernel
theorem jx_m174 : jx_mOk jx_M174 [695, 100, 693, 694] = true := by decide +kernel
theorem jx_k175 : jx_okL jx_M175 jx_C175 [0, 479, 0, 633, 0, 0, 0, 0, 480, 0, 708, 0, 0, 477, 0, 480, 0, 741, 0, 0, 480, 0, 745, 0, 761, 0, 0] = true := by decide +kernel
theorem jx_m175 : jx_mOk jx_M175 [707, 100, 705, 706] = true := by decide +kernel
theorem jx_k176 : jx_okL jx_M176 jx_C176 [0, 479, 0, 633, 0, 0, 0, 0, 769, 0, 0, 0, 0, 480, 0, 0, 770, 0] = true := by decide +kernel
theorem jx_m176 : jx_mOk jx_M176 [768, 100, 766, 767] = true := by decide +kernel
theorem jx_k177 : jx_okL jx_M177 jx_C177 [0, 479, 0, 633, 0, 0, 479, 0, 620, 0, 0, 0, 790, 0, 0, 0, 0, 480, 0, 708, 0, 0, 480, 0, 0, 0, 477, 791, 0] = true := by decide +kernel
theorem jx_m177 : jx_mOk jx_M177 [789, 100, 787, 788] = true := by decide +kernel
theorem jx_k178 : jx_okL jx_M178 jx_C178 [0, 481, 0, 805, 0] = true := by decide +kernel
theorem jx_m178 : jx_mOk jx_M178 [804, 100, 802, 803] = true := by decide +kernel
theorem jx_k179 : jx_okL jx_M179 jx_C179 [0, 481, 0, 813, 0] = true := by decide +kernel
theorem jx_m179 : jx_mOk jx_M179 [812, 100, 810, 811] = true := by decide +kernel
