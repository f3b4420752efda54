/-! checked -/
theorem jx_k300 : jx_okL jx_M300 jx_C300 [0, 0, 0, 0, 0, 0, 2049, 0, 0, 0, 0, 2050, 0, 0, 0, 1557, 1945, 0, 0, 0, 0, 0, 0] = true := by decide +kernel
theorem jx_m300 : jx_mOk jx_M300 [1944, 113, 1943, 90] = true := by decide +kernel
theorem jx_k301 : jx_okL jx_M301 jx_C301 [0, 0, 2043, 0, 1544, 0, 0, 0, 1941, 0, 0, 0] = true := by decide +kernel
theorem jx_m301 : jx_mOk jx_M301 [1940, 113, 1938, 1939] = true := by decide +kernel
theorem jx_k302 : jx_okL jx_M302 jx_C302 [0, 0, 2043, 0, 0, 0, 0, 0, 0, 0, 0, 0, 0, 0, 1941, 0, 0, 0, 0, 0, 0, 1941, 0, 0, 0, 0, 0, 0, 1941, 0, 0, 0, 0, 0, 0, 0, 0, 0, 0, 1941, 0, 0, 0, 0, 0, 0, 0, 0, 0, 2044, 0, 0, 0, 1941, 0, 1653, 0, 0, 0, 1653, 0, 0] = true := by decide +kernel
theorem jx_m302 : jx_mOk jx_M302 [1951, 113, 1949, 1950] = true := by decide +kernel
theorem jx_k303 : jx_okL jx_M303 jx_C303 [0, 0, 2043, 0, 1544, 0, 0, 0, 0, 1573, 1548, 0, 0, 2102, 0, 0, 0, 0, 0, 2103, 0, 2102, 0, 0, 0, 2104, 0, 2102, 0, 0, 0, 0, 2102, 0, 0, 2102, 0, 2102, 0] = true := by decide +kernel
theorem jx_m303 : jx_mOk jx_M303 [1955, 113, 1953, 1954] = true := by decide +kernel
theorem jx_k304 : jx_okL jx_M304 jx_C304 [0, 0, 0, 0, 2102, 0, 0, 0, 0, 0, 0, 0, 0, 0, 0, 2105, 0, 0, 0, 0, 0, 2103, 0, 0, 1557, 1945, 0, 0, 0, 0, 0, 0, 0, 2104, 0, 0, 0, 1965, 0, 0, 0, 0, 0, 0, 0, 0] = true := by decide +kernel
theorem jx_m304 : jx_mOk jx_M304 [1964, 113, 1963, 91] = true := by decide +kernel
theorem jx_k305 : jx_okL jx_M305 jx_C305 [0, 0, 2043, 0, 0, 0, 1960, 1548, 0, 0, 0, 0, 1698, 1548, 0, 0, 0, 0, 0, 0, 0, 0, 0, 0, 0, 0, 0, 0, 0, 0, 0, 0, 0, 0, 2044, 0, 0, 0, 0, 0, 0, 0, 0, 0, 0, 0, 0, 0, 0, 2105, 0, 0, 0, 0, 0, 0, 0, 0, 0, 0, 0, 0, 0, 0, 1961, 0, 0, 0, 0, 0, 0, 0, 0, 0, 0, 2105, 0, 0, 0, 1653, 0, 0, 0, 0, 0, 0, 0] = true := by decide +kernel
theorem jx_m305 : jx_mOk jx_M305 [1959, 113, 1957, 1958] = true := by decide +kernel
theorem jx_k306 : jx_okL jx_M306 jx_C306 [0, 0, 2043, 0, 0, 0, 1619, 1548, 0, 0, 0, 0, 0, 0, 0, 0, 0, 0, 0, 1698, 0, 1970, 1548, 0, 0, 0, 0, 0, 0, 2106, 0, 0, 0, 0, 0, 2107, 0, 0, 0, 0, 0, 2108, 0, 0, 2109, 0, 0, 0, 0, 0, 0, 0, 2106, 2106, 0, 0, 0, 0, 0, 0, 0, 2107, 2107, 0, 0, 0, 0, 0, 0, 0, 2108, 2108, 0, 0, 0, 0, 0, 0, 0, 2109, 2109, 0, 0] = true := by decide +kernel
theorem jx_m306 : jx_mOk jx_M306 [1969, 113, 1967, 1968] = true := by decide +kernel
theorem jx_k307 : jx_okL jx_M307 jx_C307 [0, 0, 0, 0, 0, 0, 2049, 0, 0, 0, 0, 2050, 0, 0, 0, 1557, 1621, 0, 0, 0, 0, 0] = true := by decide +kernel
theorem jx_m307 : jx_mOk jx_M307 [1978, 113, 1977, 92] = true := by decide +kernel
theorem jx_k308 : jx_okL jx_M308 jx_C308 [0, 0, 2043, 0, 2049, 0, 0, 0, 0, 1975, 0, 0, 0, 0, 0, 0, 0, 0, 0, 0, 0, 0, 2049, 0, 0, 0, 0, 2050, 0, 0, 0, 1557, 0, 2107, 0, 0, 0, 0, 0, 0, 0, 0, 0, 0, 0, 0, 0, 0, 0, 0, 0, 2106, 0, 0, 2049, 0, 0, 2107, 0, 0, 0, 0, 0, 2108, 0, 0, 0, 0, 0, 0, 0, 0, 0, 0, 0, 0, 0, 0, 0] = true := by decide +kernel
theorem jx_m308 : jx_mOk jx_M308 [1974, 113, 1972, 1973] = true := by decide +kernel
theorem jx_k309 : jx_okL jx_M309 jx_C309 [0, 0, 2043, 0, 0, 2044, 0, 0, 0, 0, 0, 2106, 0, 0, 0, 2108, 0, 0, 0, 0, 0, 0, 0, 0, 0, 0, 0, 0, 0, 2049, 0, 0, 0, 1646, 0, 0, 0, 2050, 0, 0, 0, 1557, 0, 0, 0, 0, 0, 0, 0, 0, 0, 0, 0, 0, 2050, 0, 0, 0, 1557, 0, 0, 2050, 0, 0, 0, 1557, 0, 0, 0, 0, 0, 0, 0, 0, 0, 0, 0, 0, 0, 0, 0, 0, 0, 0, 2050, 0, 0, 0, 1557, 0, 2107, 0, 0, 2049, 0, 0, 0, 0, 0, 0, 0, 2108, 0, 0, 0, 0, 0, 0, 0, 0, 0, 0, 0, 0, 0, 0, 0, 0, 0, 1653, 0, 0, 0] = true := by decide +kernel
theorem jx_m309 : jx_mOk jx_M309 [1982, 113, 1980, 1981] = true := by decide +kernel
theorem jx_k310 : jx_okL jx_M310 jx_C310 [0, 0, 2043, 0, 0, 0, 1619, 1548, 0, 0, 0, 0, 1547, 1548, 0, 0, 2110, 0, 0, 0, 2110, 0, 0, 0, 0, 2110, 0, 0, 0, 0, 2110, 0, 0, 0, 0, 2110, 0, 0, 0, 0, 0, 0, 0, 0, 0, 2110, 0, 0, 0, 0, 2110, 0, 0, 0, 0, 0] = true := by decide +kernel
theorem jx_m310 : jx_mOk jx_M310 [1986, 113, 1984, 1985] = true := by decide +kernel
theorem jx_k311 : jx_okL jx_M311 jx_C311 [0, 1965, 0, 0, 0, 0, 0, 2110, 0, 1965, 0, 0] = true := by decide +kernel
theorem jx_m311 : jx_mOk jx_M311 [2009, 113, 2008, 95] = true := by decide +kernel
theorem jx_k312 : jx_okL jx_M312 jx_C312 [0, 0, 0, 1557, 0, 0, 0, 0, 0, 0, 0, 0, 0, 0, 2006, 0, 0, 0, 0, 2048, 0, 0, 0, 0, 2006, 0, 0] = true := by decide +kernel
theorem jx_m312 : jx_mOk jx_M312 [2005, 113, 2004, 94] = true := by decide +kernel
theorem jx_k313 : jx_okL jx_M313 jx_C313 [0, 0, 0, 1573, 1548, 0, 0, 0, 0, 1573, 1548, 0, 0, 0, 0, 0] = true := by decide +kernel
theorem jx_m313 : jx_mOk jx_M313 [1997, 113, 1996, 0] = true := by decide +kernel
theorem jx_k314 : jx_okL jx_M314 jx_C314 [0, 0, 0, 0, 0, 0, 0, 0, 0, 2049, 0, 0, 0, 0, 0, 0, 0, 0, 0, 0, 0, 0, 0, 0, 0, 0, 0, 0, 0, 2050, 0, 0, 0, 0, 0, 2050, 0, 0, 0, 0, 2002, 0, 0, 0, 0, 0, 0, 0, 0, 0, 0, 0, 0, 0, 0, 0, 0, 0, 0, 2044, 0, 0, 0, 0, 0, 2010, 0, 0] = true := by decide +kernel
theorem jx_m314 : jx_mOk jx_M314 [2001, 113, 2000, 93] = true := by decide +kernel
theorem jx_k315 : jx_okL jx_M315 jx_C315 [0, 0, 2043, 0, 1544, 0, 0, 1544, 0, 0, 0, 0, 0, 0, 1557, 0, 0, 0, 0, 0, 0, 0, 0, 0, 0, 0, 0, 0, 0, 0, 0, 0, 1557, 0, 0, 0, 2048, 0, 0, 0, 2048, 0, 0, 0, 0, 0, 0, 0, 0, 0, 0, 0, 0, 0, 0, 2044, 0, 0, 0, 1653, 0, 0, 0, 2048, 0, 0, 0, 0, 1653, 0, 0, 0, 1653, 0, 0] = true := by decide +kernel
theorem jx_m315 : jx_mOk jx_M315 [1990, 113, 1988, 1989] = true := by decide +kernel
theorem jx_k316 : jx_okL jx_M316 jx_C316 [0, 0, 2043, 0, 0, 1578, 0, 0, 0, 1995, 0, 0, 0, 0, 0, 0, 1998, 0, 0, 0] = true := by decide +kernel
theorem jx_m316 : jx_mOk jx_M316 [1994, 113, 1992, 1993] = true := by decide +kernel
theorem jx_k317 : jx_okL jx_M317 jx_C317 [0, 0, 2043, 0, 0, 1578, 0, 0, 0, 1995, 0, 0, 0, 0, 0, 0, 1998, 0, 0, 0] = true := by decide +kernel
theorem jx_m317 : jx_mOk jx_M317 [2020, 113, 2018, 2019] = true := by decide +kernel
theorem jx_k318 : jx_okL jx_M318 jx_C318 [0, 0, 2043, 0, 1544, 0, 0, 0, 0, 2106, 0, 2109, 0, 0, 0, 0, 0, 2049, 0, 0, 2051, 0, 0, 0, 0, 0, 0, 0, 0, 0, 0, 0, 0, 0, 2049, 0, 0, 0, 0, 2050, 0, 0, 0, 1557, 0, 0, 0, 0, 0, 0, 0, 0, 0, 0, 0, 0, 0, 0, 0, 0, 0, 0, 0, 2071, 0, 0, 0, 2073, 0, 0, 1646, 0, 0, 0, 0, 0, 0, 0, 0, 0, 0, 0, 0, 0, 0, 2049, 0, 0, 0, 0, 2073, 0, 0, 0, 0, 0, 1646, 0, 0, 2070, 0, 0, 0, 0, 2072, 0, 0, 0, 0, 0, 2075, 0, 0, 0, 0, 0, 0, 1819, 0, 0, 0, 0, 0, 0, 0, 0, 0, 2074, 0, 0, 0, 0, 0, 0, 0, 0, 0, 0, 0, 0, 0, 0, 2044, 0, 0, 0, 1653, 0, 0, 0, 1653, 0, 0] = true := by decide +kernel
theorem jx_m318 : jx_mOk jx_M318 [2024, 113, 2022, 2023] = true := by decide +kernel
theorem jx_k319 : jx_okL jx_M319 jx_C319 [0, 0, 0, 0, 0, 0, 2071, 0, 0, 0, 2074, 0, 0, 0, 0, 0, 0, 0, 0, 0, 0, 0, 0, 0, 0] = true := by decide +kernel
theorem jx_m319 : jx_mOk jx_M319 [2032, 113, 2031, 97] = true := by decide +kernel
theorem jx_k320 : jx_okL jx_M320 jx_C320 [0, 0, 0, 0, 0, 0, 2049, 0, 0, 0, 2051, 0, 0, 0, 0, 0, 0, 0, 0] = true := by decide +kernel
theorem jx_m320 : jx_mOk jx_M320 [2036, 113, 2035, 98] = true := by decide +kernel
theorem jx_k321 : jx_okL jx_M321 jx_C321 [0, 0, 2043, 0, 0, 0, 2046, 0, 0, 2049, 0, 0, 2053, 0, 0, 2055, 0, 0, 2071, 0, 0, 2029, 0, 0, 2079, 0, 0, 2033, 0, 0, 2044, 0, 0, 2066, 0, 0, 0] = true := by decide +kernel
theorem jx_m321 : jx_mOk jx_M321 [2028, 113, 2026, 2027] = true := by decide +kernel
theorem jx_k322 : jx_okL jx_M322 jx_C322 [0, 0, 2043, 0, 0, 0, 0, 2044, 0, 0, 0, 1548, 0, 0, 0, 2043, 0, 0, 0, 2045, 0, 0, 0] = true := by decide +kernel
theorem jx_m322 : jx_mOk jx_M322 [2251, 113, 2249, 2250] = true := by decide +kernel
