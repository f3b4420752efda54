/-! checked -/
theorem jx_k180 : jx_okL jx_M180 jx_C180 [0, 481, 821, 0] = true := by decide +kernel
theorem jx_m180 : jx_mOk jx_M180 [820, 100, 818, 819] = true := by decide +kernel
theorem jx_k181 : jx_okL jx_M181 jx_C181 [0, 478, 0, 881, 0, 0, 478, 0, 881, 0, 0, 0, 0, 0, 0, 0, 481, 0, 882, 0, 0, 481, 0, 882, 0, 0, 477, 0, 0, 0, 0, 761, 0, 0, 0, 0, 0, 925, 0, 0, 0, 0, 0, 0, 0, 0] = true := by decide +kernel
theorem jx_m181 : jx_mOk jx_M181 [880, 100, 878, 879] = true := by decide +kernel
theorem jx_k182 : jx_okL jx_M182 jx_C182 [0, 481, 0, 477, 930, 0] = true := by decide +kernel
theorem jx_m182 : jx_mOk jx_M182 [929, 100, 927, 928] = true := by decide +kernel
theorem jx_k183 : jx_okL jx_M183 jx_C183 [0, 478, 0, 881, 0, 0, 479, 0, 620, 0, 0, 0, 0, 769, 0, 0, 0, 0, 483, 0, 0, 0, 954, 0] = true := by decide +kernel
theorem jx_m183 : jx_mOk jx_M183 [953, 100, 951, 952] = true := by decide +kernel
theorem jx_k184 : jx_okL jx_M184 jx_C184 [0, 479, 0, 620, 0, 0, 478, 0, 881, 0, 0, 0, 0, 769, 0, 0, 0, 0, 482, 0, 0, 968, 0, 0, 0, 0, 0, 483, 0, 0, 972, 0, 0] = true := by decide +kernel
theorem jx_m184 : jx_mOk jx_M184 [967, 100, 965, 966] = true := by decide +kernel
theorem jx_k185 : jx_okL jx_M185 jx_C185 [0, 482, 0, 1516, 0, 0, 0, 0, 769, 0, 0, 0, 0, 0, 0, 0, 0, 482, 0, 1517, 0, 0, 0, 0, 0, 482, 0, 1518, 0, 0, 0, 0, 0, 483, 0, 1064, 0, 0, 482, 0, 1519, 0, 0, 0, 0, 0] = true := by decide +kernel
theorem jx_m185 : jx_mOk jx_M185 [1515, 100, 1513, 1514] = true := by decide +kernel
theorem jx_k186 : jx_okL jx_M186 jx_C186 [0, 483, 0, 984, 0] = true := by decide +kernel
theorem jx_m186 : jx_mOk jx_M186 [983, 100, 981, 982] = true := by decide +kernel
theorem jx_k187 : jx_okL jx_M187 jx_C187 [0, 0, 0, 769, 0, 0, 0, 0, 483, 0, 992, 0, 0, 483, 0, 477, 1042, 0, 0] = true := by decide +kernel
theorem jx_m187 : jx_mOk jx_M187 [991, 100, 989, 990] = true := by decide +kernel
theorem jx_k188 : jx_okL jx_M188 jx_C188 [0, 483, 1052, 0] = true := by decide +kernel
theorem jx_m188 : jx_mOk jx_M188 [1051, 100, 1049, 1050] = true := by decide +kernel
theorem jx_k189 : jx_okL jx_M189 jx_C189 [0, 482, 0, 0, 0, 483, 0, 1064, 1068, 0] = true := by decide +kernel
theorem jx_m189 : jx_mOk jx_M189 [1063, 100, 1061, 1062] = true := by decide +kernel
theorem jx_k190 : jx_okL jx_M190 jx_C190 [0, 482, 1092, 0] = true := by decide +kernel
theorem jx_m190 : jx_mOk jx_M190 [1091, 100, 1089, 1090] = true := by decide +kernel
theorem jx_k191 : jx_okL jx_M191 jx_C191 [0, 484, 0, 0, 0, 1100, 0] = true := by decide +kernel
theorem jx_m191 : jx_mOk jx_M191 [1099, 100, 1097, 1098] = true := by decide +kernel
theorem jx_k192 : jx_okL jx_M192 jx_C192 [0, 484, 0, 0, 0, 0, 1110, 0] = true := by decide +kernel
theorem jx_m192 : jx_mOk jx_M192 [1109, 100, 1107, 1108] = true := by decide +kernel
theorem jx_k193 : jx_okL jx_M193 jx_C193 [0, 478, 0, 545, 0, 0, 484, 0, 0, 477, 1119, 0, 0, 0] = true := by decide +kernel
theorem jx_m193 : jx_mOk jx_M193 [1118, 100, 1116, 1117] = true := by decide +kernel
theorem jx_k194 : jx_okL jx_M194 jx_C194 [0, 478, 0, 545, 0, 0, 0, 0, 484, 0, 0, 1139, 0, 0, 0] = true := by decide +kernel
theorem jx_m194 : jx_mOk jx_M194 [1138, 100, 1136, 1137] = true := by decide +kernel
theorem jx_k195 : jx_okL jx_M195 jx_C195 [0, 484, 1155, 0, 0, 0, 0, 0, 0, 477, 0, 0, 656, 0, 668, 0] = true := by decide +kernel
theorem jx_m195 : jx_mOk jx_M195 [1154, 100, 1152, 1153] = true := by decide +kernel
theorem jx_k196 : jx_okL jx_M196 jx_C196 [0, 484, 0, 0, 0, 1169, 0] = true := by decide +kernel
theorem jx_m196 : jx_mOk jx_M196 [1168, 100, 1166, 1167] = true := by decide +kernel
theorem jx_k197 : jx_okL jx_M197 jx_C197 [0, 484, 0, 477, 1177, 0] = true := by decide +kernel
theorem jx_m197 : jx_mOk jx_M197 [1176, 100, 1174, 1175] = true := by decide +kernel
theorem jx_k198 : jx_okL jx_M198 jx_C198 [0, 478, 0, 545, 0, 0, 485, 0, 1208, 0, 0, 0] = true := by decide +kernel
theorem jx_m198 : jx_mOk jx_M198 [1207, 100, 1205, 1206] = true := by decide +kernel
theorem jx_k199 : jx_okL jx_M199 jx_C199 [0, 485, 0, 477, 1223, 0] = true := by decide +kernel
theorem jx_m199 : jx_mOk jx_M199 [1222, 100, 1220, 1221] = true := by decide +kernel
theorem jx_k200 : jx_okL jx_M200 jx_C200 [0, 485, 0, 0, 1233, 0] = true := by decide +kernel
theorem jx_m200 : jx_mOk jx_M200 [1232, 100, 1230, 1231] = true := by decide +kernel
theorem jx_k201 : jx_okL jx_M201 jx_C201 [0, 0, 0, 769, 0, 0, 0, 0, 769, 0, 0, 0, 0, 485, 0, 0, 0, 477, 1243, 0] = true := by decide +kernel
theorem jx_m201 : jx_mOk jx_M201 [1242, 100, 1240, 1241] = true := by decide +kernel
theorem jx_k202 : jx_okL jx_M202 jx_C202 [0, 486, 0, 0, 1277, 0] = true := by decide +kernel
theorem jx_m202 : jx_mOk jx_M202 [1276, 100, 1274, 1275] = true := by decide +kernel
theorem jx_k203 : jx_okL jx_M203 jx_C203 [0, 486, 1286, 0] = true := by decide +kernel
theorem jx_m203 : jx_mOk jx_M203 [1285, 100, 1283, 1284] = true := by decide +kernel
theorem jx_k204 : jx_okL jx_M204 jx_C204 [0, 486, 0, 477, 1297, 0] = true := by decide +kernel
theorem jx_m204 : jx_mOk jx_M204 [1296, 100, 1294, 1295] = true := by decide +kernel
theorem jx_k205 : jx_okL jx_M205 jx_C205 [0, 487, 0, 0, 1313, 0] = true := by decide +kernel
theorem jx_m205 : jx_mOk jx_M205 [1312, 100, 1310, 1311] = true := by decide +kernel
theorem jx_k206 : jx_okL jx_M206 jx_C206 [0, 487, 0, 0, 0, 477, 1322, 0] = true := by decide +kernel
theorem jx_m206 : jx_mOk jx_M206 [1321, 100, 1319, 1320] = true := by decide +kernel
theorem jx_k207 : jx_okL jx_M207 jx_C207 [0, 478, 0, 881, 0, 0, 487, 0, 0, 1335, 0, 0, 0, 0, 487, 0, 0, 0, 0, 477, 1339, 0] = true := by decide +kernel
theorem jx_m207 : jx_mOk jx_M207 [1334, 100, 1332, 1333] = true := by decide +kernel
theorem jx_k208 : jx_okL jx_M208 jx_C208 [0, 478, 0, 881, 0, 0, 487, 0, 0, 1335, 0, 0, 0, 0, 487, 0, 0, 0, 0, 477, 1372, 0] = true := by decide +kernel
theorem jx_m208 : jx_mOk jx_M208 [1371, 100, 1369, 1370] = true := by decide +kernel
theorem jx_k209 : jx_okL jx_M209 jx_C209 [0, 478, 0, 545, 0, 0, 0, 0, 486, 1382, 0, 0, 478, 1386, 0, 0, 0, 478, 0, 0, 1390, 0, 0, 482, 0, 1394, 0, 0, 477, 0, 0, 0, 483, 0, 0, 1398, 0, 761, 0, 0] = true := by decide +kernel
theorem jx_m209 : jx_mOk jx_M209 [1381, 100, 1379, 1380] = true := by decide +kernel
theorem jx_k210 : jx_okL jx_M210 jx_C210 [0, 0, 0, 478, 1412, 0, 0, 478, 1416, 0, 0, 479, 1417, 0, 0, 479, 1418, 0, 0, 482, 1419, 0, 0, 482, 1420, 0, 0, 482, 1424, 0, 0, 478, 1428, 0, 0, 477, 1432, 0, 0, 481, 1433, 0, 0, 0] = true := by decide +kernel
theorem jx_m210 : jx_mOk jx_M210 [1411, 100, 1409, 1410] = true := by decide +kernel
theorem jx_k211 : jx_okL jx_M211 jx_C211 [0, 477, 0, 1527, 0, 0, 0, 0, 0, 0, 477, 0, 1531, 0] = true := by decide +kernel
theorem jx_m211 : jx_mOk jx_M211 [1526, 100, 1524, 1525] = true := by decide +kernel
theorem jx_k212 : jx_okL jx_M212 jx_C212 [0, 0, 0, 0, 0, 0, 0, 0, 0, 0] = true := by decide +kernel
theorem jx_m212 : jx_mOk jx_M212 [525, 100, 524, 0] = true := by decide +kernel
theorem jx_k213 : jx_okL jx_M213 jx_C213 [0, 0, 0, 0, 0, 0, 0, 0, 0, 0] = true := by decide +kernel
theorem jx_m213 : jx_mOk jx_M213 [647, 100, 646, 0] = true := by decide +kernel
theorem jx_k214 : jx_okL jx_M214 jx_C214 [0, 2043, 0] = true := by decide +kernel
theorem jx_m214 : jx_mOk jx_M214 [1539, 113, 1537, 1538] = true := by decide +kernel
theorem jx_k215 : jx_okL jx_M215 jx_C215 [0, 0, 2043, 0, 0] = true := by decide +kernel
theorem jx_m215 : jx_mOk jx_M215 [1590, 113, 1589, 54] = true := by decide +kernel
theorem jx_k216 : jx_okL jx_M216 jx_C216 [0, 0, 0, 0, 0, 0, 0, 0, 0, 0, 0, 0] = true := by decide +kernel
theorem jx_m216 : jx_mOk jx_M216 [1550, 113, 1549, 0] = true := by decide +kernel
theorem jx_k217 : jx_okL jx_M217 jx_C217 [0, 0, 0, 0, 0, 0, 0, 0, 0, 0, 0] = true := by decide +kernel
theorem jx_m217 : jx_mOk jx_M217 [1648, 113, 1647, 0] = true := by decide +kernel
theorem jx_k218 : jx_okL jx_M218 jx_C218 [0, 0, 0, 0, 0, 0] = true := by decide +kernel
theorem jx_m218 : jx_mOk jx_M218 [1821, 113, 1820, 0] = true := by decide +kernel
theorem jx_k219 : jx_okL jx_M219 jx_C219 [0, 2045, 0, 2044, 0, 0, 0, 0, 2044, 0, 0, 2044, 0] = true := by decide +kernel
theorem jx_m219 : jx_mOk jx_M219 [1656, 113, 1655, 63] = true := by decide +kernel
theorem jx_k220 : jx_okL jx_M220 jx_C220 [0, 0, 0, 0, 0, 0, 0, 0, 0, 0, 0, 0, 0, 0, 0, 0, 0, 0, 0] = true := by decide +kernel
theorem jx_m220 : jx_mOk jx_M220 [2016, 113, 2015, 0] = true := by decide +kernel
theorem jx_k221 : jx_okL jx_M221 jx_C221 [0, 0, 2014, 0, 0, 0, 0, 0, 1653, 0, 0, 0, 0, 1653, 0] = true := by decide +kernel
theorem jx_m221 : jx_mOk jx_M221 [2013, 113, 2012, 96] = true := by decide +kernel
theorem jx_k222 : jx_okL jx_M222 jx_C222 [0, 0, 0, 1547, 1548, 0] = true := by decide +kernel
theorem jx_m222 : jx_mOk jx_M222 [1546, 113, 1545, 0] = true := by decide +kernel
theorem jx_k223 : jx_okL jx_M223 jx_C223 [0, 0, 0, 0, 2049, 0, 0, 0, 1548, 0] = true := by decide +kernel
theorem jx_m223 : jx_mOk jx_M223 [1581, 113, 1580, 53] = true := by decide +kernel
theorem jx_k224 : jx_okL jx_M224 jx_C224 [0, 0, 0, 0, 0, 0, 2047, 0, 0, 0, 0, 0, 0, 0, 0, 0, 0, 2047, 0, 0, 0, 0, 0, 0, 0] = true := by decide +kernel
theorem jx_m224 : jx_mOk jx_M224 [1560, 113, 1559, 52] = true := by decide +kernel
theorem jx_k225 : jx_okL jx_M225 jx_C225 [0, 0, 0, 0, 0, 0, 0, 1557, 0, 0, 2047, 0, 0, 0, 0, 0, 0, 0, 0, 2047, 0, 0, 0, 0, 0, 0, 0, 0] = true := by decide +kernel
theorem jx_m225 : jx_mOk jx_M225 [1556, 113, 1554, 51] = true := by decide +kernel
theorem jx_k226 : jx_okL jx_M226 jx_C226 [0, 0, 2043, 0, 1544, 0, 0, 1544, 0, 0, 0, 0, 0, 0, 0, 1551, 1548, 0, 0, 2046, 0, 0, 0, 0, 0, 0, 0, 0, 1552, 0, 0, 0, 0, 0, 0, 0, 0, 0, 0, 0, 0, 0, 0, 0, 0, 0, 0, 0, 0, 0, 1557, 0, 0, 0, 1557, 0, 1552, 0, 0, 0, 0, 0, 0, 0, 0, 2046, 0, 0, 2046, 0, 2046, 0, 0, 0] = true := by decide +kernel
theorem jx_m226 : jx_mOk jx_M226 [1543, 113, 1541, 1542] = true := by decide +kernel
theorem jx_k227 : jx_okL jx_M227 jx_C227 [0, 0, 2043, 0, 1544, 0, 0, 0, 0, 1551, 1548, 0, 0, 0, 0, 2048, 0, 0, 0, 0, 2048, 0, 0, 0, 0, 0] = true := by decide +kernel
theorem jx_m227 : jx_mOk jx_M227 [1564, 113, 1562, 1563] = true := by decide +kernel
theorem jx_k228 : jx_okL jx_M228 jx_C228 [0, 0, 2043, 0, 1544, 0, 0, 1544, 0, 0, 0, 0, 1557, 0, 0, 0] = true := by decide +kernel
theorem jx_m228 : jx_mOk jx_M228 [1568, 113, 1566, 1567] = true := by decide +kernel
theorem jx_k229 : jx_okL jx_M229 jx_C229 [0, 0, 2043, 0, 1544, 0, 0, 0, 0, 1573, 1548, 0, 0, 0, 0, 1547, 1548, 0, 0, 2049, 0, 0, 0, 0, 0, 2050, 0, 2049, 0, 0, 0, 2051, 0, 2049, 0, 0, 0, 2052, 0, 2049, 0, 0, 0, 0, 2049, 0, 0, 2049, 0, 2049, 0, 0, 0] = true := by decide +kernel
theorem jx_m229 : jx_mOk jx_M229 [1572, 113, 1570, 1571] = true := by decide +kernel
theorem jx_k230 : jx_okL jx_M230 jx_C230 [0, 0, 2043, 0, 0, 1578, 0, 0, 1544, 0, 0, 0, 0, 0, 2050, 0, 0, 0, 1557, 0, 0, 0, 0, 0, 0, 0, 2050, 0, 0, 0, 0, 0] = true := by decide +kernel
theorem jx_m230 : jx_mOk jx_M230 [1577, 113, 1575, 1576] = true := by decide +kernel
theorem jx_k231 : jx_okL jx_M231 jx_C231 [0, 0, 2043, 0, 0, 1578, 0, 0, 0, 0, 1586, 1548, 0, 0, 1587, 0, 0, 0, 0, 2050, 0, 0, 0, 0, 0, 0, 0, 2051, 0, 0, 0, 0, 2052, 0, 0, 0] = true := by decide +kernel
theorem jx_m231 : jx_mOk jx_M231 [1585, 113, 1583, 1584] = true := by decide +kernel
theorem jx_k232 : jx_okL jx_M232 jx_C232 [0, 0, 0, 0, 2053, 0, 0, 0, 1548, 0] = true := by decide +kernel
theorem jx_m232 : jx_mOk jx_M232 [1606, 113, 1605, 55] = true := by decide +kernel
theorem jx_k233 : jx_okL jx_M233 jx_C233 [0, 0, 0, 0, 2055, 0, 0, 0, 1548, 0] = true := by decide +kernel
theorem jx_m233 : jx_mOk jx_M233 [1610, 113, 1609, 56] = true := by decide +kernel
theorem jx_k234 : jx_okL jx_M234 jx_C234 [0, 0, 0, 0, 0, 2053, 0, 0, 0, 0, 1548, 0] = true := by decide +kernel
theorem jx_m234 : jx_mOk jx_M234 [1637, 113, 1636, 59] = true := by decide +kernel
theorem jx_k235 : jx_okL jx_M235 jx_C235 [0, 0, 0, 0, 0, 2055, 0, 0, 0, 0, 1548, 0] = true := by decide +kernel
theorem jx_m235 : jx_mOk jx_M235 [1641, 113, 1640, 60] = true := by decide +kernel
theorem jx_k236 : jx_okL jx_M236 jx_C236 [0, 0, 2043, 0, 0, 0, 1547, 1548, 0, 0, 2053, 0, 0, 0, 0, 0, 2054, 0, 2053, 0, 0, 0, 0, 2053, 0, 0, 2053, 0, 2053, 0, 0, 0] = true := by decide +kernel
theorem jx_m236 : jx_mOk jx_M236 [1594, 113, 1592, 1593] = true := by decide +kernel
theorem jx_k237 : jx_okL jx_M237 jx_C237 [0, 0, 2043, 0, 0, 0, 1547, 1548, 0, 0, 2055, 0, 0, 0, 0, 0, 2056, 0, 2055, 0, 0, 0, 0, 2055, 0, 0, 2055, 0, 2055, 0, 0, 0] = true := by decide +kernel
theorem jx_m237 : jx_mOk jx_M237 [1598, 113, 1596, 1597] = true := by decide +kernel
theorem jx_k238 : jx_okL jx_M238 jx_C238 [0, 2057, 0, 0, 0, 0, 0, 0, 0] = true := by decide +kernel
theorem jx_m238 : jx_mOk jx_M238 [1614, 113, 1613, 57] = true := by decide +kernel
theorem jx_k239 : jx_okL jx_M239 jx_C239 [0, 0, 2043, 0, 0, 1603, 0, 0, 0, 1607, 0, 0, 0, 0, 1547, 1548, 0, 0, 0, 0, 0, 0, 1611, 0, 0, 2057, 0, 0, 0, 0, 0, 0, 0, 0, 0] = true := by decide +kernel
theorem jx_m239 : jx_mOk jx_M239 [1602, 113, 1600, 1601] = true := by decide +kernel
