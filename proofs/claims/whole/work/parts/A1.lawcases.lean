/-! the plain cases, checked -/
theorem lk_0 : lcOk 260 3 26 511 30 1540 161 226 = true := by decide +kernel
theorem lk_1 : lcOk 309 2 31 533 34 1561 162 227 = true := by decide +kernel
theorem lk_2 : lcOk 346 2 35 541 38 1565 163 228 = true := by decide +kernel
theorem lk_3 : lcOk 383 3 39 547 42 1569 164 229 = true := by decide +kernel
theorem lk_4 : lcOk 432 2 43 555 46 1574 165 230 = true := by decide +kernel
theorem lk_6 : lcOk 537 1 57 567 61 1591 167 236 = true := by decide +kernel
theorem lk_7 : lcOk 562 1 62 576 65 1595 168 237 = true := by decide +kernel
theorem lk_8 : lcOk 587 3 66 584 69 1599 169 239 = true := by decide +kernel
theorem lk_9 : lcOk 636 5 70 600 74 1615 170 240 = true := by decide +kernel
theorem lk_10 : lcOk 709 2 75 616 78 1622 171 242 = true := by decide +kernel
theorem lk_11 : lcOk 746 2 79 629 82 1630 172 245 = true := by decide +kernel
theorem lk_12 : lcOk 783 1 83 674 86 1658 173 248 = true := by decide +kernel
theorem lk_13 : lcOk 808 2 87 692 90 1670 174 249 = true := by decide +kernel
theorem lk_14 : lcOk 845 1 91 704 94 1674 175 253 = true := by decide +kernel
theorem lk_15 : lcOk 870 2 95 765 98 1694 176 255 = true := by decide +kernel
theorem lk_16 : lcOk 907 2 99 786 102 1703 177 256 = true := by decide +kernel
theorem lk_17 : lcOk 944 1 103 801 106 1707 178 257 = true := by decide +kernel
theorem lk_18 : lcOk 969 1 107 809 111 1711 179 258 = true := by decide +kernel
theorem lk_19 : lcOk 994 0 112 817 115 1715 180 265 = true := by decide +kernel
theorem lk_20 : lcOk 1007 2 116 877 119 1803 181 270 = true := by decide +kernel
theorem lk_21 : lcOk 1044 0 120 926 123 1825 182 271 = true := by decide +kernel
theorem lk_22 : lcOk 1057 3 124 950 127 1829 183 273 = true := by decide +kernel
theorem lk_23 : lcOk 1106 3 128 964 131 1833 184 274 = true := by decide +kernel
theorem lk_25 : lcOk 1223 1 135 980 138 1845 186 276 = true := by decide +kernel
theorem lk_26 : lcOk 1248 1 139 988 142 1849 187 280 = true := by decide +kernel
theorem lk_27 : lcOk 1273 0 143 1048 146 1866 188 284 = true := by decide +kernel
theorem lk_28 : lcOk 1286 2 147 1060 150 1882 189 285 = true := by decide +kernel
theorem lk_29 : lcOk 1323 0 151 1088 154 1886 190 286 = true := by decide +kernel
theorem lk_30 : lcOk 1336 3 155 1096 158 1890 191 288 = true := by decide +kernel
theorem lk_31 : lcOk 1385 4 159 1106 163 1897 192 289 = true := by decide +kernel
theorem lk_32 : lcOk 1446 1 164 1115 167 1901 193 291 = true := by decide +kernel
theorem lk_33 : lcOk 1471 2 168 1135 171 1909 194 293 = true := by decide +kernel
theorem lk_34 : lcOk 1508 0 172 1151 175 1917 195 295 = true := by decide +kernel
theorem lk_35 : lcOk 1521 3 176 1165 179 1925 196 296 = true := by decide +kernel
theorem lk_36 : lcOk 1570 0 180 1173 183 1929 197 298 = true := by decide +kernel
theorem lk_37 : lcOk 1583 1 184 1204 187 1937 198 301 = true := by decide +kernel
theorem lk_38 : lcOk 1608 0 188 1219 191 1948 199 302 = true := by decide +kernel
theorem lk_39 : lcOk 1621 2 192 1229 195 1952 200 303 = true := by decide +kernel
theorem lk_40 : lcOk 1658 2 196 1239 199 1956 201 305 = true := by decide +kernel
theorem lk_41 : lcOk 1695 2 200 1273 203 1966 202 306 = true := by decide +kernel
theorem lk_42 : lcOk 1732 0 204 1282 207 1971 203 308 = true := by decide +kernel
theorem lk_43 : lcOk 1745 0 208 1293 211 1979 204 309 = true := by decide +kernel
theorem lk_44 : lcOk 1758 2 212 1309 215 1983 205 310 = true := by decide +kernel
theorem lk_45 : lcOk 1795 2 216 1318 219 1987 206 315 = true := by decide +kernel
theorem lk_46 : lcOk 1832 3 220 1331 223 1991 207 316 = true := by decide +kernel
theorem lk_47 : lcOk 1881 3 224 1368 227 2017 208 317 = true := by decide +kernel
theorem lk_48 : lcOk 1930 1 228 1378 231 2021 209 318 = true := by decide +kernel
theorem lk_49 : lcOk 1955 1 232 1408 235 2025 210 321 = true := by decide +kernel
def lTg : List Nat := [260, 309, 346, 383, 432, 469, 537, 562, 587, 636, 709, 746, 783, 808, 845, 870, 907, 944, 969, 994, 1007, 1044, 1057, 1106, 1155, 1223, 1248, 1273, 1286, 1323, 1336, 1385, 1446, 1471, 1508, 1521, 1570, 1583, 1608, 1621, 1658, 1695, 1732, 1745, 1758, 1795, 1832, 1881, 1930, 1955, 1980]
section LQ
variable {p : Program} {l : Launch} {e : Env} {s : State} {m : MethodId} {below : List Frame} {meth : Method} {c : Code} {Q : State → Prop} {b L : Nat} {xs : Nat → Int32} {ad adV : Nat → Nat} {D : va_G} {cs : ClassId × ClassId × ClassId} {A : Nat → Prop} {μ μ1 μ2 : jx_Mem} {H : Heap} {ls : Array Slot} {k cells slots : Nat}
/-- a plain case, by its check and what the two sides answer -/
theorem l_plain (C : lC p s m c b L xs A) {pc n idx1 h1 idx2 h2 j1 j2 : Nat} {v : Int32} (hok : lcOk pc n idx1 h1 idx2 h2 j1 j2 = true) (hk : k + 6 ≤ L) (hl : lv_has ls 8 (lv5 b ad k)) (hf : cells + 1 ≤ room_1.cells ∧ slots + 6 ≤ room_1.slots)
    (hW : jx_P ad D cs A (jx_X2 ad adV A) μ H s) (hS : va_S A s.heap H [])
    (kk : ∀ (μ2 : jx_Mem) (H1 : Heap) (ls1 : Array Slot), Inv μ2 → jx_P ad D cs A (jx_X2 ad adV A) μ2 H1 s → va_S A s.heap H1 [] → lv_has ls1 8 (lv5 b ad k) → W p l e room_1 s m #[Value.ref b] below meth c H1 [] (cells + 1) (slots + 6) Q (F0 m 2035 ls1 []))
    (hI : Inv μ2) (hev1 : jx_ev j1 0 0 (lv_args 0 (.ref 0 :: laV xs (k + 1) n)) [] μ = some (some (.int v), μ1)) (hev2 : jx_ev j2 0 0 (lv_args 0 (.ref 63 :: laV xs (k + 1) n)) [] μ1 = some (some (.int v), μ2)) : W p l e room_1 s m #[Value.ref b] below meth c H [] cells slots Q (F0 m pc ls []) :=
  l_case C hok hk hl ⟨Nat.le_trans (Nat.le_add_right _ _) hf.1, Nat.le_trans (Nat.le_add_right _ _) hf.2⟩ hev1 hev2 hW hS (fun H1 hW1 hS1 => W.widen (Nat.le_add_right _ _) (Nat.le_add_right _ _) (kk μ2 H1 ls hI hW1 hS1 hl))
theorem lq_0 (C : lC p s m c b L xs A) (hI : Inv μ) (hk : k + 6 ≤ L) (hl : lv_has ls 8 (lv5 b ad k)) (hf : cells + 1 ≤ room_1.cells ∧ slots + 6 ≤ room_1.slots)
    (hW : jx_P ad D cs A (jx_X2 ad adV A) μ H s) (hS : va_S A s.heap H [])
    (kk : ∀ (μ2 : jx_Mem) (H1 : Heap) (ls1 : Array Slot), Inv μ2 → jx_P ad D cs A (jx_X2 ad adV A) μ2 H1 s → va_S A s.heap H1 [] → lv_has ls1 8 (lv5 b ad k) → W p l e room_1 s m #[Value.ref b] below meth c H1 [] (cells + 1) (slots + 6) Q (F0 m 2035 ls1 [])) : W p l e room_1 s m #[Value.ref b] below meth c H [] cells slots Q (F0 m 260 ls []) := by
  obtain ⟨v, m1, m2, e1, e2, hI2⟩ := T_tunnel hI (xs (k + 1)) (xs (k + 1 + 1)) (xs (k + 1 + 1 + 1))
  have h1 : jx_ev 161 0 0 (lv_args 0 [.ref 0, .int (xs (k + 1)), .int (xs (k + 1 + 1)), .int (xs (k + 1 + 1 + 1))]) [] μ = some (some (.int v), m1) := kI_ev e1
  have h2 : jx_ev 226 0 0 (lv_args 0 [.ref 63, .int (xs (k + 1)), .int (xs (k + 1 + 1)), .int (xs (k + 1 + 1 + 1))]) [] m1 = some (some (.int v), m2) := kI_ev e2
  exact l_plain C lk_0 hk hl hf hW hS kk hI2 h1 h2
theorem lq_1 (C : lC p s m c b L xs A) (hI : Inv μ) (hk : k + 6 ≤ L) (hl : lv_has ls 8 (lv5 b ad k)) (hf : cells + 1 ≤ room_1.cells ∧ slots + 6 ≤ room_1.slots)
    (hW : jx_P ad D cs A (jx_X2 ad adV A) μ H s) (hS : va_S A s.heap H [])
    (kk : ∀ (μ2 : jx_Mem) (H1 : Heap) (ls1 : Array Slot), Inv μ2 → jx_P ad D cs A (jx_X2 ad adV A) μ2 H1 s → va_S A s.heap H1 [] → lv_has ls1 8 (lv5 b ad k) → W p l e room_1 s m #[Value.ref b] below meth c H1 [] (cells + 1) (slots + 6) Q (F0 m 2035 ls1 [])) : W p l e room_1 s m #[Value.ref b] below meth c H [] cells slots Q (F0 m 309 ls []) := by
  obtain ⟨v, m1, m2, e1, e2, hI2⟩ := T_wall hI (xs (k + 1)) (xs (k + 1 + 1))
  have h1 : jx_ev 162 0 0 (lv_args 0 [.ref 0, .int (xs (k + 1)), .int (xs (k + 1 + 1))]) [] μ = some (some (.int v), m1) := kI_ev e1
  have h2 : jx_ev 227 0 0 (lv_args 0 [.ref 63, .int (xs (k + 1)), .int (xs (k + 1 + 1))]) [] m1 = some (some (.int v), m2) := kI_ev e2
  exact l_plain C lk_1 hk hl hf hW hS kk hI2 h1 h2
theorem lq_2 (C : lC p s m c b L xs A) (hI : Inv μ) (hk : k + 6 ≤ L) (hl : lv_has ls 8 (lv5 b ad k)) (hf : cells + 1 ≤ room_1.cells ∧ slots + 6 ≤ room_1.slots)
    (hW : jx_P ad D cs A (jx_X2 ad adV A) μ H s) (hS : va_S A s.heap H [])
    (kk : ∀ (μ2 : jx_Mem) (H1 : Heap) (ls1 : Array Slot), Inv μ2 → jx_P ad D cs A (jx_X2 ad adV A) μ2 H1 s → va_S A s.heap H1 [] → lv_has ls1 8 (lv5 b ad k) → W p l e room_1 s m #[Value.ref b] below meth c H1 [] (cells + 1) (slots + 6) Q (F0 m 2035 ls1 [])) : W p l e room_1 s m #[Value.ref b] below meth c H [] cells slots Q (F0 m 346 ls []) := by
  obtain ⟨v, m1, m2, e1, e2, hI2⟩ := T_far hI (xs (k + 1)) (xs (k + 1 + 1))
  have h1 : jx_ev 163 0 0 (lv_args 0 [.ref 0, .int (xs (k + 1)), .int (xs (k + 1 + 1))]) [] μ = some (some (.int v), m1) := kI_ev e1
  have h2 : jx_ev 228 0 0 (lv_args 0 [.ref 63, .int (xs (k + 1)), .int (xs (k + 1 + 1))]) [] m1 = some (some (.int v), m2) := kI_ev e2
  exact l_plain C lk_2 hk hl hf hW hS kk hI2 h1 h2
theorem lq_3 (C : lC p s m c b L xs A) (hI : Inv μ) (hk : k + 6 ≤ L) (hl : lv_has ls 8 (lv5 b ad k)) (hf : cells + 1 ≤ room_1.cells ∧ slots + 6 ≤ room_1.slots)
    (hW : jx_P ad D cs A (jx_X2 ad adV A) μ H s) (hS : va_S A s.heap H [])
    (kk : ∀ (μ2 : jx_Mem) (H1 : Heap) (ls1 : Array Slot), Inv μ2 → jx_P ad D cs A (jx_X2 ad adV A) μ2 H1 s → va_S A s.heap H1 [] → lv_has ls1 8 (lv5 b ad k) → W p l e room_1 s m #[Value.ref b] below meth c H1 [] (cells + 1) (slots + 6) Q (F0 m 2035 ls1 [])) : W p l e room_1 s m #[Value.ref b] below meth c H [] cells slots Q (F0 m 383 ls []) := by
  obtain ⟨v, m1, m2, e1, e2, hI2⟩ := T_person hI (xs (k + 1)) (xs (k + 1 + 1)) (xs (k + 1 + 1 + 1))
  have h1 : jx_ev 164 0 0 (lv_args 0 [.ref 0, .int (xs (k + 1)), .int (xs (k + 1 + 1)), .int (xs (k + 1 + 1 + 1))]) [] μ = some (some (.int v), m1) := kI_ev e1
  have h2 : jx_ev 229 0 0 (lv_args 0 [.ref 63, .int (xs (k + 1)), .int (xs (k + 1 + 1)), .int (xs (k + 1 + 1 + 1))]) [] m1 = some (some (.int v), m2) := kI_ev e2
  exact l_plain C lk_3 hk hl hf hW hS kk hI2 h1 h2
theorem lq_4 (C : lC p s m c b L xs A) (hI : Inv μ) (hk : k + 6 ≤ L) (hl : lv_has ls 8 (lv5 b ad k)) (hf : cells + 1 ≤ room_1.cells ∧ slots + 6 ≤ room_1.slots)
    (hW : jx_P ad D cs A (jx_X2 ad adV A) μ H s) (hS : va_S A s.heap H [])
    (kk : ∀ (μ2 : jx_Mem) (H1 : Heap) (ls1 : Array Slot), Inv μ2 → jx_P ad D cs A (jx_X2 ad adV A) μ2 H1 s → va_S A s.heap H1 [] → lv_has ls1 8 (lv5 b ad k) → W p l e room_1 s m #[Value.ref b] below meth c H1 [] (cells + 1) (slots + 6) Q (F0 m 2035 ls1 [])) : W p l e room_1 s m #[Value.ref b] below meth c H [] cells slots Q (F0 m 432 ls []) := by
  obtain ⟨v, m1, m2, e1, e2, hI2⟩ := T_walk hI (xs (k + 1)) (xs (k + 1 + 1))
  have h1 : jx_ev 165 0 0 (lv_args 0 [.ref 0, .int (xs (k + 1)), .int (xs (k + 1 + 1))]) [] μ = some (some (.int v), m1) := kI_ev e1
  have h2 : jx_ev 230 0 0 (lv_args 0 [.ref 63, .int (xs (k + 1)), .int (xs (k + 1 + 1))]) [] m1 = some (some (.int v), m2) := kI_ev e2
  exact l_plain C lk_4 hk hl hf hW hS kk hI2 h1 h2
theorem lq_6 (C : lC p s m c b L xs A) (hI : Inv μ) (hk : k + 6 ≤ L) (hl : lv_has ls 8 (lv5 b ad k)) (hf : cells + 1 ≤ room_1.cells ∧ slots + 6 ≤ room_1.slots)
    (hW : jx_P ad D cs A (jx_X2 ad adV A) μ H s) (hS : va_S A s.heap H [])
    (kk : ∀ (μ2 : jx_Mem) (H1 : Heap) (ls1 : Array Slot), Inv μ2 → jx_P ad D cs A (jx_X2 ad adV A) μ2 H1 s → va_S A s.heap H1 [] → lv_has ls1 8 (lv5 b ad k) → W p l e room_1 s m #[Value.ref b] below meth c H1 [] (cells + 1) (slots + 6) Q (F0 m 2035 ls1 [])) : W p l e room_1 s m #[Value.ref b] below meth c H [] cells slots Q (F0 m 537 ls []) := by
  obtain ⟨v, m1, m2, e1, e2, hI2⟩ := T_good hI (xs (k + 1))
  have h1 : jx_ev 167 0 0 (lv_args 0 [.ref 0, .int (xs (k + 1))]) [] μ = some (some (.int v), m1) := kI_ev e1
  have h2 : jx_ev 236 0 0 (lv_args 0 [.ref 63, .int (xs (k + 1))]) [] m1 = some (some (.int v), m2) := kI_ev e2
  exact l_plain C lk_6 hk hl hf hW hS kk hI2 h1 h2
theorem lq_7 (C : lC p s m c b L xs A) (hI : Inv μ) (hk : k + 6 ≤ L) (hl : lv_has ls 8 (lv5 b ad k)) (hf : cells + 1 ≤ room_1.cells ∧ slots + 6 ≤ room_1.slots)
    (hW : jx_P ad D cs A (jx_X2 ad adV A) μ H s) (hS : va_S A s.heap H [])
    (kk : ∀ (μ2 : jx_Mem) (H1 : Heap) (ls1 : Array Slot), Inv μ2 → jx_P ad D cs A (jx_X2 ad adV A) μ2 H1 s → va_S A s.heap H1 [] → lv_has ls1 8 (lv5 b ad k) → W p l e room_1 s m #[Value.ref b] below meth c H1 [] (cells + 1) (slots + 6) Q (F0 m 2035 ls1 [])) : W p l e room_1 s m #[Value.ref b] below meth c H [] cells slots Q (F0 m 562 ls []) := by
  obtain ⟨v, m1, m2, e1, e2, hI2⟩ := T_test hI (xs (k + 1))
  have h1 : jx_ev 168 0 0 (lv_args 0 [.ref 0, .int (xs (k + 1))]) [] μ = some (some (.int v), m1) := kI_ev e1
  have h2 : jx_ev 237 0 0 (lv_args 0 [.ref 63, .int (xs (k + 1))]) [] m1 = some (some (.int v), m2) := kI_ev e2
  exact l_plain C lk_7 hk hl hf hW hS kk hI2 h1 h2
theorem lq_8 (C : lC p s m c b L xs A) (hI : Inv μ) (hk : k + 6 ≤ L) (hl : lv_has ls 8 (lv5 b ad k)) (hf : cells + 1 ≤ room_1.cells ∧ slots + 6 ≤ room_1.slots)
    (hW : jx_P ad D cs A (jx_X2 ad adV A) μ H s) (hS : va_S A s.heap H [])
    (kk : ∀ (μ2 : jx_Mem) (H1 : Heap) (ls1 : Array Slot), Inv μ2 → jx_P ad D cs A (jx_X2 ad adV A) μ2 H1 s → va_S A s.heap H1 [] → lv_has ls1 8 (lv5 b ad k) → W p l e room_1 s m #[Value.ref b] below meth c H1 [] (cells + 1) (slots + 6) Q (F0 m 2035 ls1 [])) : W p l e room_1 s m #[Value.ref b] below meth c H [] cells slots Q (F0 m 587 ls []) := by
  obtain ⟨v, m1, m2, e1, e2, hI2⟩ := T_answer hI (xs (k + 1)) (xs (k + 1 + 1)) (xs (k + 1 + 1 + 1))
  have h1 : jx_ev 169 0 0 (lv_args 0 [.ref 0, .int (xs (k + 1)), .int (xs (k + 1 + 1)), .int (xs (k + 1 + 1 + 1))]) [] μ = some (some (.int v), m1) := kI_ev e1
  have h2 : jx_ev 239 0 0 (lv_args 0 [.ref 63, .int (xs (k + 1)), .int (xs (k + 1 + 1)), .int (xs (k + 1 + 1 + 1))]) [] m1 = some (some (.int v), m2) := kI_ev e2
  exact l_plain C lk_8 hk hl hf hW hS kk hI2 h1 h2
theorem lq_9 (C : lC p s m c b L xs A) (hI : Inv μ) (hk : k + 6 ≤ L) (hl : lv_has ls 8 (lv5 b ad k)) (hf : cells + 1 ≤ room_1.cells ∧ slots + 6 ≤ room_1.slots)
    (hW : jx_P ad D cs A (jx_X2 ad adV A) μ H s) (hS : va_S A s.heap H [])
    (kk : ∀ (μ2 : jx_Mem) (H1 : Heap) (ls1 : Array Slot), Inv μ2 → jx_P ad D cs A (jx_X2 ad adV A) μ2 H1 s → va_S A s.heap H1 [] → lv_has ls1 8 (lv5 b ad k) → W p l e room_1 s m #[Value.ref b] below meth c H1 [] (cells + 1) (slots + 6) Q (F0 m 2035 ls1 [])) : W p l e room_1 s m #[Value.ref b] below meth c H [] cells slots Q (F0 m 636 ls []) := by
  obtain ⟨v, m1, m2, e1, e2, hI2⟩ := T_sheet hI (xs (k + 1)) (xs (k + 1 + 1)) (xs (k + 1 + 1 + 1)) (xs (k + 1 + 1 + 1 + 1)) (xs (k + 1 + 1 + 1 + 1 + 1))
  have h1 : jx_ev 170 0 0 (lv_args 0 [.ref 0, .int (xs (k + 1)), .int (xs (k + 1 + 1)), .int (xs (k + 1 + 1 + 1)), .int (xs (k + 1 + 1 + 1 + 1)), .int (xs (k + 1 + 1 + 1 + 1 + 1))]) [] μ = some (some (.int v), m1) := kI_ev e1
  have h2 : jx_ev 240 0 0 (lv_args 0 [.ref 63, .int (xs (k + 1)), .int (xs (k + 1 + 1)), .int (xs (k + 1 + 1 + 1)), .int (xs (k + 1 + 1 + 1 + 1)), .int (xs (k + 1 + 1 + 1 + 1 + 1))]) [] m1 = some (some (.int v), m2) := kI_ev e2
  exact l_plain C lk_9 hk hl hf hW hS kk hI2 h1 h2
theorem lq_10 (C : lC p s m c b L xs A) (hI : Inv μ) (hk : k + 6 ≤ L) (hl : lv_has ls 8 (lv5 b ad k)) (hf : cells + 1 ≤ room_1.cells ∧ slots + 6 ≤ room_1.slots)
    (hW : jx_P ad D cs A (jx_X2 ad adV A) μ H s) (hS : va_S A s.heap H [])
    (kk : ∀ (μ2 : jx_Mem) (H1 : Heap) (ls1 : Array Slot), Inv μ2 → jx_P ad D cs A (jx_X2 ad adV A) μ2 H1 s → va_S A s.heap H1 [] → lv_has ls1 8 (lv5 b ad k) → W p l e room_1 s m #[Value.ref b] below meth c H1 [] (cells + 1) (slots + 6) Q (F0 m 2035 ls1 [])) : W p l e room_1 s m #[Value.ref b] below meth c H [] cells slots Q (F0 m 709 ls []) := by
  obtain ⟨v, m1, m2, e1, e2, hI2⟩ := T_apart hI (xs (k + 1)) (xs (k + 1 + 1))
  have h1 : jx_ev 171 0 0 (lv_args 0 [.ref 0, .int (xs (k + 1)), .int (xs (k + 1 + 1))]) [] μ = some (some (.int v), m1) := kI_ev e1
  have h2 : jx_ev 242 0 0 (lv_args 0 [.ref 63, .int (xs (k + 1)), .int (xs (k + 1 + 1))]) [] m1 = some (some (.int v), m2) := kI_ev e2
  exact l_plain C lk_10 hk hl hf hW hS kk hI2 h1 h2
theorem lq_11 (C : lC p s m c b L xs A) (hI : Inv μ) (hk : k + 6 ≤ L) (hl : lv_has ls 8 (lv5 b ad k)) (hf : cells + 1 ≤ room_1.cells ∧ slots + 6 ≤ room_1.slots)
    (hW : jx_P ad D cs A (jx_X2 ad adV A) μ H s) (hS : va_S A s.heap H [])
    (kk : ∀ (μ2 : jx_Mem) (H1 : Heap) (ls1 : Array Slot), Inv μ2 → jx_P ad D cs A (jx_X2 ad adV A) μ2 H1 s → va_S A s.heap H1 [] → lv_has ls1 8 (lv5 b ad k) → W p l e room_1 s m #[Value.ref b] below meth c H1 [] (cells + 1) (slots + 6) Q (F0 m 2035 ls1 [])) : W p l e room_1 s m #[Value.ref b] below meth c H [] cells slots Q (F0 m 746 ls []) := by
  obtain ⟨v, m1, m2, e1, e2, hI2⟩ := T_sure hI (xs (k + 1)) (xs (k + 1 + 1))
  have h1 : jx_ev 172 0 0 (lv_args 0 [.ref 0, .int (xs (k + 1)), .int (xs (k + 1 + 1))]) [] μ = some (some (.int v), m1) := kI_ev e1
  have h2 : jx_ev 245 0 0 (lv_args 0 [.ref 63, .int (xs (k + 1)), .int (xs (k + 1 + 1))]) [] m1 = some (some (.int v), m2) := kI_ev e2
  exact l_plain C lk_11 hk hl hf hW hS kk hI2 h1 h2
theorem lq_12 (C : lC p s m c b L xs A) (hI : Inv μ) (hk : k + 6 ≤ L) (hl : lv_has ls 8 (lv5 b ad k)) (hf : cells + 1 ≤ room_1.cells ∧ slots + 6 ≤ room_1.slots)
    (hW : jx_P ad D cs A (jx_X2 ad adV A) μ H s) (hS : va_S A s.heap H [])
    (kk : ∀ (μ2 : jx_Mem) (H1 : Heap) (ls1 : Array Slot), Inv μ2 → jx_P ad D cs A (jx_X2 ad adV A) μ2 H1 s → va_S A s.heap H1 [] → lv_has ls1 8 (lv5 b ad k) → W p l e room_1 s m #[Value.ref b] below meth c H1 [] (cells + 1) (slots + 6) Q (F0 m 2035 ls1 [])) : W p l e room_1 s m #[Value.ref b] below meth c H [] cells slots Q (F0 m 783 ls []) := by
  obtain ⟨v, m1, m2, e1, e2, hI2⟩ := T_keep hI (xs (k + 1))
  have h1 : jx_ev 173 0 0 (lv_args 0 [.ref 0, .int (xs (k + 1))]) [] μ = some (some (.int v), m1) := kI_ev e1
  have h2 : jx_ev 248 0 0 (lv_args 0 [.ref 63, .int (xs (k + 1))]) [] m1 = some (some (.int v), m2) := kI_ev e2
  exact l_plain C lk_12 hk hl hf hW hS kk hI2 h1 h2
theorem lq_13 (C : lC p s m c b L xs A) (hI : Inv μ) (hk : k + 6 ≤ L) (hl : lv_has ls 8 (lv5 b ad k)) (hf : cells + 1 ≤ room_1.cells ∧ slots + 6 ≤ room_1.slots)
    (hW : jx_P ad D cs A (jx_X2 ad adV A) μ H s) (hS : va_S A s.heap H [])
    (kk : ∀ (μ2 : jx_Mem) (H1 : Heap) (ls1 : Array Slot), Inv μ2 → jx_P ad D cs A (jx_X2 ad adV A) μ2 H1 s → va_S A s.heap H1 [] → lv_has ls1 8 (lv5 b ad k) → W p l e room_1 s m #[Value.ref b] below meth c H1 [] (cells + 1) (slots + 6) Q (F0 m 2035 ls1 [])) : W p l e room_1 s m #[Value.ref b] below meth c H [] cells slots Q (F0 m 808 ls []) := by
  obtain ⟨v, m1, m2, e1, e2, hI2⟩ := T_ban hI (xs (k + 1)) (xs (k + 1 + 1))
  have h1 : jx_ev 174 0 0 (lv_args 0 [.ref 0, .int (xs (k + 1)), .int (xs (k + 1 + 1))]) [] μ = some (some (.int v), m1) := kI_ev e1
  have h2 : jx_ev 249 0 0 (lv_args 0 [.ref 63, .int (xs (k + 1)), .int (xs (k + 1 + 1))]) [] m1 = some (some (.int v), m2) := kI_ev e2
  exact l_plain C lk_13 hk hl hf hW hS kk hI2 h1 h2
theorem lq_14 (C : lC p s m c b L xs A) (hI : Inv μ) (hk : k + 6 ≤ L) (hl : lv_has ls 8 (lv5 b ad k)) (hf : cells + 1 ≤ room_1.cells ∧ slots + 6 ≤ room_1.slots)
    (hW : jx_P ad D cs A (jx_X2 ad adV A) μ H s) (hS : va_S A s.heap H [])
    (kk : ∀ (μ2 : jx_Mem) (H1 : Heap) (ls1 : Array Slot), Inv μ2 → jx_P ad D cs A (jx_X2 ad adV A) μ2 H1 s → va_S A s.heap H1 [] → lv_has ls1 8 (lv5 b ad k) → W p l e room_1 s m #[Value.ref b] below meth c H1 [] (cells + 1) (slots + 6) Q (F0 m 2035 ls1 [])) : W p l e room_1 s m #[Value.ref b] below meth c H [] cells slots Q (F0 m 845 ls []) := by
  obtain ⟨v, m1, m2, e1, e2, hI2⟩ := T_tree hI (xs (k + 1))
  have h1 : jx_ev 175 0 0 (lv_args 0 [.ref 0, .int (xs (k + 1))]) [] μ = some (some (.int v), m1) := kI_ev e1
  have h2 : jx_ev 253 0 0 (lv_args 0 [.ref 63, .int (xs (k + 1))]) [] m1 = some (some (.int v), m2) := kI_ev e2
  exact l_plain C lk_14 hk hl hf hW hS kk hI2 h1 h2
theorem lq_15 (C : lC p s m c b L xs A) (hI : Inv μ) (hk : k + 6 ≤ L) (hl : lv_has ls 8 (lv5 b ad k)) (hf : cells + 1 ≤ room_1.cells ∧ slots + 6 ≤ room_1.slots)
    (hW : jx_P ad D cs A (jx_X2 ad adV A) μ H s) (hS : va_S A s.heap H [])
    (kk : ∀ (μ2 : jx_Mem) (H1 : Heap) (ls1 : Array Slot), Inv μ2 → jx_P ad D cs A (jx_X2 ad adV A) μ2 H1 s → va_S A s.heap H1 [] → lv_has ls1 8 (lv5 b ad k) → W p l e room_1 s m #[Value.ref b] below meth c H1 [] (cells + 1) (slots + 6) Q (F0 m 2035 ls1 [])) : W p l e room_1 s m #[Value.ref b] below meth c H [] cells slots Q (F0 m 870 ls []) := by
  obtain ⟨v, m1, m2, e1, e2, hI2⟩ := T_copper hI (xs (k + 1)) (xs (k + 1 + 1))
  have h1 : jx_ev 176 0 0 (lv_args 0 [.ref 0, .int (xs (k + 1)), .int (xs (k + 1 + 1))]) [] μ = some (some (.int v), m1) := kI_ev e1
  have h2 : jx_ev 255 0 0 (lv_args 0 [.ref 63, .int (xs (k + 1)), .int (xs (k + 1 + 1))]) [] m1 = some (some (.int v), m2) := kI_ev e2
  exact l_plain C lk_15 hk hl hf hW hS kk hI2 h1 h2
theorem lq_16 (C : lC p s m c b L xs A) (hI : Inv μ) (hk : k + 6 ≤ L) (hl : lv_has ls 8 (lv5 b ad k)) (hf : cells + 1 ≤ room_1.cells ∧ slots + 6 ≤ room_1.slots)
    (hW : jx_P ad D cs A (jx_X2 ad adV A) μ H s) (hS : va_S A s.heap H [])
    (kk : ∀ (μ2 : jx_Mem) (H1 : Heap) (ls1 : Array Slot), Inv μ2 → jx_P ad D cs A (jx_X2 ad adV A) μ2 H1 s → va_S A s.heap H1 [] → lv_has ls1 8 (lv5 b ad k) → W p l e room_1 s m #[Value.ref b] below meth c H1 [] (cells + 1) (slots + 6) Q (F0 m 2035 ls1 [])) : W p l e room_1 s m #[Value.ref b] below meth c H [] cells slots Q (F0 m 907 ls []) := by
  obtain ⟨v, m1, m2, e1, e2, hI2⟩ := T_asks hI (xs (k + 1)) (xs (k + 1 + 1))
  have h1 : jx_ev 177 0 0 (lv_args 0 [.ref 0, .int (xs (k + 1)), .int (xs (k + 1 + 1))]) [] μ = some (some (.int v), m1) := kI_ev e1
  have h2 : jx_ev 256 0 0 (lv_args 0 [.ref 63, .int (xs (k + 1)), .int (xs (k + 1 + 1))]) [] m1 = some (some (.int v), m2) := kI_ev e2
  exact l_plain C lk_16 hk hl hf hW hS kk hI2 h1 h2
theorem lq_17 (C : lC p s m c b L xs A) (hI : Inv μ) (hk : k + 6 ≤ L) (hl : lv_has ls 8 (lv5 b ad k)) (hf : cells + 1 ≤ room_1.cells ∧ slots + 6 ≤ room_1.slots)
    (hW : jx_P ad D cs A (jx_X2 ad adV A) μ H s) (hS : va_S A s.heap H [])
    (kk : ∀ (μ2 : jx_Mem) (H1 : Heap) (ls1 : Array Slot), Inv μ2 → jx_P ad D cs A (jx_X2 ad adV A) μ2 H1 s → va_S A s.heap H1 [] → lv_has ls1 8 (lv5 b ad k) → W p l e room_1 s m #[Value.ref b] below meth c H1 [] (cells + 1) (slots + 6) Q (F0 m 2035 ls1 [])) : W p l e room_1 s m #[Value.ref b] below meth c H [] cells slots Q (F0 m 944 ls []) := by
  obtain ⟨v, m1, m2, e1, e2, hI2⟩ := T_sign hI (xs (k + 1))
  have h1 : jx_ev 178 0 0 (lv_args 0 [.ref 0, .int (xs (k + 1))]) [] μ = some (some (.int v), m1) := kI_ev e1
  have h2 : jx_ev 257 0 0 (lv_args 0 [.ref 63, .int (xs (k + 1))]) [] m1 = some (some (.int v), m2) := kI_ev e2
  exact l_plain C lk_17 hk hl hf hW hS kk hI2 h1 h2
theorem lq_18 (C : lC p s m c b L xs A) (hI : Inv μ) (hk : k + 6 ≤ L) (hl : lv_has ls 8 (lv5 b ad k)) (hf : cells + 1 ≤ room_1.cells ∧ slots + 6 ≤ room_1.slots)
    (hW : jx_P ad D cs A (jx_X2 ad adV A) μ H s) (hS : va_S A s.heap H [])
    (kk : ∀ (μ2 : jx_Mem) (H1 : Heap) (ls1 : Array Slot), Inv μ2 → jx_P ad D cs A (jx_X2 ad adV A) μ2 H1 s → va_S A s.heap H1 [] → lv_has ls1 8 (lv5 b ad k) → W p l e room_1 s m #[Value.ref b] below meth c H1 [] (cells + 1) (slots + 6) Q (F0 m 2035 ls1 [])) : W p l e room_1 s m #[Value.ref b] below meth c H [] cells slots Q (F0 m 969 ls []) := by
  obtain ⟨v, m1, m2, e1, e2, hI2⟩ := T_end hI (xs (k + 1))
  have h1 : jx_ev 179 0 0 (lv_args 0 [.ref 0, .int (xs (k + 1))]) [] μ = some (some (.int v), m1) := kI_ev e1
  have h2 : jx_ev 258 0 0 (lv_args 0 [.ref 63, .int (xs (k + 1))]) [] m1 = some (some (.int v), m2) := kI_ev e2
  exact l_plain C lk_18 hk hl hf hW hS kk hI2 h1 h2
theorem lq_19 (C : lC p s m c b L xs A) (hI : Inv μ) (hk : k + 6 ≤ L) (hl : lv_has ls 8 (lv5 b ad k)) (hf : cells + 1 ≤ room_1.cells ∧ slots + 6 ≤ room_1.slots)
    (hW : jx_P ad D cs A (jx_X2 ad adV A) μ H s) (hS : va_S A s.heap H [])
    (kk : ∀ (μ2 : jx_Mem) (H1 : Heap) (ls1 : Array Slot), Inv μ2 → jx_P ad D cs A (jx_X2 ad adV A) μ2 H1 s → va_S A s.heap H1 [] → lv_has ls1 8 (lv5 b ad k) → W p l e room_1 s m #[Value.ref b] below meth c H1 [] (cells + 1) (slots + 6) Q (F0 m 2035 ls1 [])) : W p l e room_1 s m #[Value.ref b] below meth c H [] cells slots Q (F0 m 994 ls []) := by
  obtain ⟨v, m1, m2, e1, e2, hI2⟩ := T_rule hI 
  have h1 : jx_ev 180 0 0 (lv_args 0 [.ref 0]) [] μ = some (some (.int v), m1) := kI_ev e1
  have h2 : jx_ev 265 0 0 (lv_args 0 [.ref 63]) [] m1 = some (some (.int v), m2) := kI_ev e2
  exact l_plain C lk_19 hk hl hf hW hS kk hI2 h1 h2
theorem lq_20 (C : lC p s m c b L xs A) (hI : Inv μ) (hk : k + 6 ≤ L) (hl : lv_has ls 8 (lv5 b ad k)) (hf : cells + 1 ≤ room_1.cells ∧ slots + 6 ≤ room_1.slots)
    (hW : jx_P ad D cs A (jx_X2 ad adV A) μ H s) (hS : va_S A s.heap H [])
    (kk : ∀ (μ2 : jx_Mem) (H1 : Heap) (ls1 : Array Slot), Inv μ2 → jx_P ad D cs A (jx_X2 ad adV A) μ2 H1 s → va_S A s.heap H1 [] → lv_has ls1 8 (lv5 b ad k) → W p l e room_1 s m #[Value.ref b] below meth c H1 [] (cells + 1) (slots + 6) Q (F0 m 2035 ls1 [])) : W p l e room_1 s m #[Value.ref b] below meth c H [] cells slots Q (F0 m 1007 ls []) := by
  obtain ⟨v, m1, m2, e1, e2, hI2⟩ := T_first hI (xs (k + 1)) (xs (k + 1 + 1))
  have h1 : jx_ev 181 0 0 (lv_args 0 [.ref 0, .int (xs (k + 1)), .int (xs (k + 1 + 1))]) [] μ = some (some (.int v), m1) := kI_ev e1
  have h2 : jx_ev 270 0 0 (lv_args 0 [.ref 63, .int (xs (k + 1)), .int (xs (k + 1 + 1))]) [] m1 = some (some (.int v), m2) := kI_ev e2
  exact l_plain C lk_20 hk hl hf hW hS kk hI2 h1 h2
theorem lq_21 (C : lC p s m c b L xs A) (hI : Inv μ) (hk : k + 6 ≤ L) (hl : lv_has ls 8 (lv5 b ad k)) (hf : cells + 1 ≤ room_1.cells ∧ slots + 6 ≤ room_1.slots)
    (hW : jx_P ad D cs A (jx_X2 ad adV A) μ H s) (hS : va_S A s.heap H [])
    (kk : ∀ (μ2 : jx_Mem) (H1 : Heap) (ls1 : Array Slot), Inv μ2 → jx_P ad D cs A (jx_X2 ad adV A) μ2 H1 s → va_S A s.heap H1 [] → lv_has ls1 8 (lv5 b ad k) → W p l e room_1 s m #[Value.ref b] below meth c H1 [] (cells + 1) (slots + 6) Q (F0 m 2035 ls1 [])) : W p l e room_1 s m #[Value.ref b] below meth c H [] cells slots Q (F0 m 1044 ls []) := by
  obtain ⟨v, m1, m2, e1, e2, hI2⟩ := T_order hI 
  have h1 : jx_ev 182 0 0 (lv_args 0 [.ref 0]) [] μ = some (some (.int v), m1) := kI_ev e1
  have h2 : jx_ev 271 0 0 (lv_args 0 [.ref 63]) [] m1 = some (some (.int v), m2) := kI_ev e2
  exact l_plain C lk_21 hk hl hf hW hS kk hI2 h1 h2
theorem lq_22 (C : lC p s m c b L xs A) (hI : Inv μ) (hk : k + 6 ≤ L) (hl : lv_has ls 8 (lv5 b ad k)) (hf : cells + 1 ≤ room_1.cells ∧ slots + 6 ≤ room_1.slots)
    (hW : jx_P ad D cs A (jx_X2 ad adV A) μ H s) (hS : va_S A s.heap H [])
    (kk : ∀ (μ2 : jx_Mem) (H1 : Heap) (ls1 : Array Slot), Inv μ2 → jx_P ad D cs A (jx_X2 ad adV A) μ2 H1 s → va_S A s.heap H1 [] → lv_has ls1 8 (lv5 b ad k) → W p l e room_1 s m #[Value.ref b] below meth c H1 [] (cells + 1) (slots + 6) Q (F0 m 2035 ls1 [])) : W p l e room_1 s m #[Value.ref b] below meth c H [] cells slots Q (F0 m 1057 ls []) := by
  obtain ⟨v, m1, m2, e1, e2, hI2⟩ := T_want hI (xs (k + 1)) (xs (k + 1 + 1)) (xs (k + 1 + 1 + 1))
  have h1 : jx_ev 183 0 0 (lv_args 0 [.ref 0, .int (xs (k + 1)), .int (xs (k + 1 + 1)), .int (xs (k + 1 + 1 + 1))]) [] μ = some (some (.int v), m1) := kI_ev e1
  have h2 : jx_ev 273 0 0 (lv_args 0 [.ref 63, .int (xs (k + 1)), .int (xs (k + 1 + 1)), .int (xs (k + 1 + 1 + 1))]) [] m1 = some (some (.int v), m2) := kI_ev e2
  exact l_plain C lk_22 hk hl hf hW hS kk hI2 h1 h2
theorem lq_23 (C : lC p s m c b L xs A) (hI : Inv μ) (hk : k + 6 ≤ L) (hl : lv_has ls 8 (lv5 b ad k)) (hf : cells + 1 ≤ room_1.cells ∧ slots + 6 ≤ room_1.slots)
    (hW : jx_P ad D cs A (jx_X2 ad adV A) μ H s) (hS : va_S A s.heap H [])
    (kk : ∀ (μ2 : jx_Mem) (H1 : Heap) (ls1 : Array Slot), Inv μ2 → jx_P ad D cs A (jx_X2 ad adV A) μ2 H1 s → va_S A s.heap H1 [] → lv_has ls1 8 (lv5 b ad k) → W p l e room_1 s m #[Value.ref b] below meth c H1 [] (cells + 1) (slots + 6) Q (F0 m 2035 ls1 [])) : W p l e room_1 s m #[Value.ref b] below meth c H [] cells slots Q (F0 m 1106 ls []) := by
  obtain ⟨v, m1, m2, e1, e2, hI2⟩ := T_item hI (xs (k + 1)) (xs (k + 1 + 1)) (xs (k + 1 + 1 + 1))
  have h1 : jx_ev 184 0 0 (lv_args 0 [.ref 0, .int (xs (k + 1)), .int (xs (k + 1 + 1)), .int (xs (k + 1 + 1 + 1))]) [] μ = some (some (.int v), m1) := kI_ev e1
  have h2 : jx_ev 274 0 0 (lv_args 0 [.ref 63, .int (xs (k + 1)), .int (xs (k + 1 + 1)), .int (xs (k + 1 + 1 + 1))]) [] m1 = some (some (.int v), m2) := kI_ev e2
  exact l_plain C lk_23 hk hl hf hW hS kk hI2 h1 h2
theorem lq_25 (C : lC p s m c b L xs A) (hI : Inv μ) (hk : k + 6 ≤ L) (hl : lv_has ls 8 (lv5 b ad k)) (hf : cells + 1 ≤ room_1.cells ∧ slots + 6 ≤ room_1.slots)
    (hW : jx_P ad D cs A (jx_X2 ad adV A) μ H s) (hS : va_S A s.heap H [])
    (kk : ∀ (μ2 : jx_Mem) (H1 : Heap) (ls1 : Array Slot), Inv μ2 → jx_P ad D cs A (jx_X2 ad adV A) μ2 H1 s → va_S A s.heap H1 [] → lv_has ls1 8 (lv5 b ad k) → W p l e room_1 s m #[Value.ref b] below meth c H1 [] (cells + 1) (slots + 6) Q (F0 m 2035 ls1 [])) : W p l e room_1 s m #[Value.ref b] below meth c H [] cells slots Q (F0 m 1223 ls []) := by
  obtain ⟨v, m1, m2, e1, e2, hI2⟩ := T_wind hI (xs (k + 1))
  have h1 : jx_ev 186 0 0 (lv_args 0 [.ref 0, .int (xs (k + 1))]) [] μ = some (some (.int v), m1) := kI_ev e1
  have h2 : jx_ev 276 0 0 (lv_args 0 [.ref 63, .int (xs (k + 1))]) [] m1 = some (some (.int v), m2) := kI_ev e2
  exact l_plain C lk_25 hk hl hf hW hS kk hI2 h1 h2
theorem lq_26 (C : lC p s m c b L xs A) (hI : Inv μ) (hk : k + 6 ≤ L) (hl : lv_has ls 8 (lv5 b ad k)) (hf : cells + 1 ≤ room_1.cells ∧ slots + 6 ≤ room_1.slots)
    (hW : jx_P ad D cs A (jx_X2 ad adV A) μ H s) (hS : va_S A s.heap H [])
    (kk : ∀ (μ2 : jx_Mem) (H1 : Heap) (ls1 : Array Slot), Inv μ2 → jx_P ad D cs A (jx_X2 ad adV A) μ2 H1 s → va_S A s.heap H1 [] → lv_has ls1 8 (lv5 b ad k) → W p l e room_1 s m #[Value.ref b] below meth c H1 [] (cells + 1) (slots + 6) Q (F0 m 2035 ls1 [])) : W p l e room_1 s m #[Value.ref b] below meth c H [] cells slots Q (F0 m 1248 ls []) := by
  obtain ⟨v, m1, m2, e1, e2, hI2⟩ := T_rounds hI (xs (k + 1))
  have h1 : jx_ev 187 0 0 (lv_args 0 [.ref 0, .int (xs (k + 1))]) [] μ = some (some (.int v), m1) := kI_ev e1
  have h2 : jx_ev 280 0 0 (lv_args 0 [.ref 63, .int (xs (k + 1))]) [] m1 = some (some (.int v), m2) := kI_ev e2
  exact l_plain C lk_26 hk hl hf hW hS kk hI2 h1 h2
theorem lq_27 (C : lC p s m c b L xs A) (hI : Inv μ) (hk : k + 6 ≤ L) (hl : lv_has ls 8 (lv5 b ad k)) (hf : cells + 1 ≤ room_1.cells ∧ slots + 6 ≤ room_1.slots)
    (hW : jx_P ad D cs A (jx_X2 ad adV A) μ H s) (hS : va_S A s.heap H [])
    (kk : ∀ (μ2 : jx_Mem) (H1 : Heap) (ls1 : Array Slot), Inv μ2 → jx_P ad D cs A (jx_X2 ad adV A) μ2 H1 s → va_S A s.heap H1 [] → lv_has ls1 8 (lv5 b ad k) → W p l e room_1 s m #[Value.ref b] below meth c H1 [] (cells + 1) (slots + 6) Q (F0 m 2035 ls1 [])) : W p l e room_1 s m #[Value.ref b] below meth c H [] cells slots Q (F0 m 1273 ls []) := by
  obtain ⟨v, m1, m2, e1, e2, hI2⟩ := T_settles hI 
  have h1 : jx_ev 188 0 0 (lv_args 0 [.ref 0]) [] μ = some (some (.int v), m1) := kI_ev e1
  have h2 : jx_ev 284 0 0 (lv_args 0 [.ref 63]) [] m1 = some (some (.int v), m2) := kI_ev e2
  exact l_plain C lk_27 hk hl hf hW hS kk hI2 h1 h2
theorem lq_28 (C : lC p s m c b L xs A) (hI : Inv μ) (hk : k + 6 ≤ L) (hl : lv_has ls 8 (lv5 b ad k)) (hf : cells + 1 ≤ room_1.cells ∧ slots + 6 ≤ room_1.slots)
    (hW : jx_P ad D cs A (jx_X2 ad adV A) μ H s) (hS : va_S A s.heap H [])
    (kk : ∀ (μ2 : jx_Mem) (H1 : Heap) (ls1 : Array Slot), Inv μ2 → jx_P ad D cs A (jx_X2 ad adV A) μ2 H1 s → va_S A s.heap H1 [] → lv_has ls1 8 (lv5 b ad k) → W p l e room_1 s m #[Value.ref b] below meth c H1 [] (cells + 1) (slots + 6) Q (F0 m 2035 ls1 [])) : W p l e room_1 s m #[Value.ref b] below meth c H [] cells slots Q (F0 m 1286 ls []) := by
  obtain ⟨v, m1, m2, e1, e2, hI2⟩ := T_buy hI (xs (k + 1)) (xs (k + 1 + 1))
  have h1 : jx_ev 189 0 0 (lv_args 0 [.ref 0, .int (xs (k + 1)), .int (xs (k + 1 + 1))]) [] μ = some (some (.int v), m1) := kI_ev e1
  have h2 : jx_ev 285 0 0 (lv_args 0 [.ref 63, .int (xs (k + 1)), .int (xs (k + 1 + 1))]) [] m1 = some (some (.int v), m2) := kI_ev e2
  exact l_plain C lk_28 hk hl hf hW hS kk hI2 h1 h2
theorem lq_29 (C : lC p s m c b L xs A) (hI : Inv μ) (hk : k + 6 ≤ L) (hl : lv_has ls 8 (lv5 b ad k)) (hf : cells + 1 ≤ room_1.cells ∧ slots + 6 ≤ room_1.slots)
    (hW : jx_P ad D cs A (jx_X2 ad adV A) μ H s) (hS : va_S A s.heap H [])
    (kk : ∀ (μ2 : jx_Mem) (H1 : Heap) (ls1 : Array Slot), Inv μ2 → jx_P ad D cs A (jx_X2 ad adV A) μ2 H1 s → va_S A s.heap H1 [] → lv_has ls1 8 (lv5 b ad k) → W p l e room_1 s m #[Value.ref b] below meth c H1 [] (cells + 1) (slots + 6) Q (F0 m 2035 ls1 [])) : W p l e room_1 s m #[Value.ref b] below meth c H [] cells slots Q (F0 m 1323 ls []) := by
  obtain ⟨v, m1, m2, e1, e2, hI2⟩ := T_undo hI 
  have h1 : jx_ev 190 0 0 (lv_args 0 [.ref 0]) [] μ = some (some (.int v), m1) := kI_ev e1
  have h2 : jx_ev 286 0 0 (lv_args 0 [.ref 63]) [] m1 = some (some (.int v), m2) := kI_ev e2
  exact l_plain C lk_29 hk hl hf hW hS kk hI2 h1 h2
theorem lq_30 (C : lC p s m c b L xs A) (hI : Inv μ) (hk : k + 6 ≤ L) (hl : lv_has ls 8 (lv5 b ad k)) (hf : cells + 1 ≤ room_1.cells ∧ slots + 6 ≤ room_1.slots)
    (hW : jx_P ad D cs A (jx_X2 ad adV A) μ H s) (hS : va_S A s.heap H [])
    (kk : ∀ (μ2 : jx_Mem) (H1 : Heap) (ls1 : Array Slot), Inv μ2 → jx_P ad D cs A (jx_X2 ad adV A) μ2 H1 s → va_S A s.heap H1 [] → lv_has ls1 8 (lv5 b ad k) → W p l e room_1 s m #[Value.ref b] below meth c H1 [] (cells + 1) (slots + 6) Q (F0 m 2035 ls1 [])) : W p l e room_1 s m #[Value.ref b] below meth c H [] cells slots Q (F0 m 1336 ls []) := by
  obtain ⟨v, m1, m2, e1, e2, hI2⟩ := T_counted hI (xs (k + 1)) (xs (k + 1 + 1)) (xs (k + 1 + 1 + 1))
  have h1 : jx_ev 191 0 0 (lv_args 0 [.ref 0, .int (xs (k + 1)), .int (xs (k + 1 + 1)), .int (xs (k + 1 + 1 + 1))]) [] μ = some (some (.int v), m1) := kI_ev e1
  have h2 : jx_ev 288 0 0 (lv_args 0 [.ref 63, .int (xs (k + 1)), .int (xs (k + 1 + 1)), .int (xs (k + 1 + 1 + 1))]) [] m1 = some (some (.int v), m2) := kI_ev e2
  exact l_plain C lk_30 hk hl hf hW hS kk hI2 h1 h2
theorem lq_31 (C : lC p s m c b L xs A) (hI : Inv μ) (hk : k + 6 ≤ L) (hl : lv_has ls 8 (lv5 b ad k)) (hf : cells + 1 ≤ room_1.cells ∧ slots + 6 ≤ room_1.slots)
    (hW : jx_P ad D cs A (jx_X2 ad adV A) μ H s) (hS : va_S A s.heap H [])
    (kk : ∀ (μ2 : jx_Mem) (H1 : Heap) (ls1 : Array Slot), Inv μ2 → jx_P ad D cs A (jx_X2 ad adV A) μ2 H1 s → va_S A s.heap H1 [] → lv_has ls1 8 (lv5 b ad k) → W p l e room_1 s m #[Value.ref b] below meth c H1 [] (cells + 1) (slots + 6) Q (F0 m 2035 ls1 [])) : W p l e room_1 s m #[Value.ref b] below meth c H [] cells slots Q (F0 m 1385 ls []) := by
  obtain ⟨v, m1, m2, e1, e2, hI2⟩ := T_been hI (xs (k + 1)) (xs (k + 1 + 1)) (xs (k + 1 + 1 + 1)) (xs (k + 1 + 1 + 1 + 1))
  have h1 : jx_ev 192 0 0 (lv_args 0 [.ref 0, .int (xs (k + 1)), .int (xs (k + 1 + 1)), .int (xs (k + 1 + 1 + 1)), .int (xs (k + 1 + 1 + 1 + 1))]) [] μ = some (some (.int v), m1) := kI_ev e1
  have h2 : jx_ev 289 0 0 (lv_args 0 [.ref 63, .int (xs (k + 1)), .int (xs (k + 1 + 1)), .int (xs (k + 1 + 1 + 1)), .int (xs (k + 1 + 1 + 1 + 1))]) [] m1 = some (some (.int v), m2) := kI_ev e2
  exact l_plain C lk_31 hk hl hf hW hS kk hI2 h1 h2
theorem lq_32 (C : lC p s m c b L xs A) (hI : Inv μ) (hk : k + 6 ≤ L) (hl : lv_has ls 8 (lv5 b ad k)) (hf : cells + 1 ≤ room_1.cells ∧ slots + 6 ≤ room_1.slots)
    (hW : jx_P ad D cs A (jx_X2 ad adV A) μ H s) (hS : va_S A s.heap H [])
    (kk : ∀ (μ2 : jx_Mem) (H1 : Heap) (ls1 : Array Slot), Inv μ2 → jx_P ad D cs A (jx_X2 ad adV A) μ2 H1 s → va_S A s.heap H1 [] → lv_has ls1 8 (lv5 b ad k) → W p l e room_1 s m #[Value.ref b] below meth c H1 [] (cells + 1) (slots + 6) Q (F0 m 2035 ls1 [])) : W p l e room_1 s m #[Value.ref b] below meth c H [] cells slots Q (F0 m 1446 ls []) := by
  obtain ⟨v, m1, m2, e1, e2, hI2⟩ := T_missing hI (xs (k + 1))
  have h1 : jx_ev 193 0 0 (lv_args 0 [.ref 0, .int (xs (k + 1))]) [] μ = some (some (.int v), m1) := kI_ev e1
  have h2 : jx_ev 291 0 0 (lv_args 0 [.ref 63, .int (xs (k + 1))]) [] m1 = some (some (.int v), m2) := kI_ev e2
  exact l_plain C lk_32 hk hl hf hW hS kk hI2 h1 h2
theorem lq_33 (C : lC p s m c b L xs A) (hI : Inv μ) (hk : k + 6 ≤ L) (hl : lv_has ls 8 (lv5 b ad k)) (hf : cells + 1 ≤ room_1.cells ∧ slots + 6 ≤ room_1.slots)
    (hW : jx_P ad D cs A (jx_X2 ad adV A) μ H s) (hS : va_S A s.heap H [])
    (kk : ∀ (μ2 : jx_Mem) (H1 : Heap) (ls1 : Array Slot), Inv μ2 → jx_P ad D cs A (jx_X2 ad adV A) μ2 H1 s → va_S A s.heap H1 [] → lv_has ls1 8 (lv5 b ad k) → W p l e room_1 s m #[Value.ref b] below meth c H1 [] (cells + 1) (slots + 6) Q (F0 m 2035 ls1 [])) : W p l e room_1 s m #[Value.ref b] below meth c H [] cells slots Q (F0 m 1471 ls []) := by
  obtain ⟨v, m1, m2, e1, e2, hI2⟩ := T_suspects hI (xs (k + 1)) (xs (k + 1 + 1))
  have h1 : jx_ev 194 0 0 (lv_args 0 [.ref 0, .int (xs (k + 1)), .int (xs (k + 1 + 1))]) [] μ = some (some (.int v), m1) := kI_ev e1
  have h2 : jx_ev 293 0 0 (lv_args 0 [.ref 63, .int (xs (k + 1)), .int (xs (k + 1 + 1))]) [] m1 = some (some (.int v), m2) := kI_ev e2
  exact l_plain C lk_33 hk hl hf hW hS kk hI2 h1 h2
theorem lq_34 (C : lC p s m c b L xs A) (hI : Inv μ) (hk : k + 6 ≤ L) (hl : lv_has ls 8 (lv5 b ad k)) (hf : cells + 1 ≤ room_1.cells ∧ slots + 6 ≤ room_1.slots)
    (hW : jx_P ad D cs A (jx_X2 ad adV A) μ H s) (hS : va_S A s.heap H [])
    (kk : ∀ (μ2 : jx_Mem) (H1 : Heap) (ls1 : Array Slot), Inv μ2 → jx_P ad D cs A (jx_X2 ad adV A) μ2 H1 s → va_S A s.heap H1 [] → lv_has ls1 8 (lv5 b ad k) → W p l e room_1 s m #[Value.ref b] below meth c H1 [] (cells + 1) (slots + 6) Q (F0 m 2035 ls1 [])) : W p l e room_1 s m #[Value.ref b] below meth c H [] cells slots Q (F0 m 1508 ls []) := by
  obtain ⟨v, m1, m2, e1, e2, hI2⟩ := T_gang hI 
  have h1 : jx_ev 195 0 0 (lv_args 0 [.ref 0]) [] μ = some (some (.int v), m1) := kI_ev e1
  have h2 : jx_ev 295 0 0 (lv_args 0 [.ref 63]) [] m1 = some (some (.int v), m2) := kI_ev e2
  exact l_plain C lk_34 hk hl hf hW hS kk hI2 h1 h2
theorem lq_35 (C : lC p s m c b L xs A) (hI : Inv μ) (hk : k + 6 ≤ L) (hl : lv_has ls 8 (lv5 b ad k)) (hf : cells + 1 ≤ room_1.cells ∧ slots + 6 ≤ room_1.slots)
    (hW : jx_P ad D cs A (jx_X2 ad adV A) μ H s) (hS : va_S A s.heap H [])
    (kk : ∀ (μ2 : jx_Mem) (H1 : Heap) (ls1 : Array Slot), Inv μ2 → jx_P ad D cs A (jx_X2 ad adV A) μ2 H1 s → va_S A s.heap H1 [] → lv_has ls1 8 (lv5 b ad k) → W p l e room_1 s m #[Value.ref b] below meth c H1 [] (cells + 1) (slots + 6) Q (F0 m 2035 ls1 [])) : W p l e room_1 s m #[Value.ref b] below meth c H [] cells slots Q (F0 m 1521 ls []) := by
  obtain ⟨v, m1, m2, e1, e2, hI2⟩ := T_clink hI (xs (k + 1)) (xs (k + 1 + 1)) (xs (k + 1 + 1 + 1))
  have h1 : jx_ev 196 0 0 (lv_args 0 [.ref 0, .int (xs (k + 1)), .int (xs (k + 1 + 1)), .int (xs (k + 1 + 1 + 1))]) [] μ = some (some (.int v), m1) := kI_ev e1
  have h2 : jx_ev 296 0 0 (lv_args 0 [.ref 63, .int (xs (k + 1)), .int (xs (k + 1 + 1)), .int (xs (k + 1 + 1 + 1))]) [] m1 = some (some (.int v), m2) := kI_ev e2
  exact l_plain C lk_35 hk hl hf hW hS kk hI2 h1 h2
theorem lq_36 (C : lC p s m c b L xs A) (hI : Inv μ) (hk : k + 6 ≤ L) (hl : lv_has ls 8 (lv5 b ad k)) (hf : cells + 1 ≤ room_1.cells ∧ slots + 6 ≤ room_1.slots)
    (hW : jx_P ad D cs A (jx_X2 ad adV A) μ H s) (hS : va_S A s.heap H [])
    (kk : ∀ (μ2 : jx_Mem) (H1 : Heap) (ls1 : Array Slot), Inv μ2 → jx_P ad D cs A (jx_X2 ad adV A) μ2 H1 s → va_S A s.heap H1 [] → lv_has ls1 8 (lv5 b ad k) → W p l e room_1 s m #[Value.ref b] below meth c H1 [] (cells + 1) (slots + 6) Q (F0 m 2035 ls1 [])) : W p l e room_1 s m #[Value.ref b] below meth c H [] cells slots Q (F0 m 1570 ls []) := by
  obtain ⟨v, m1, m2, e1, e2, hI2⟩ := T_hands hI 
  have h1 : jx_ev 197 0 0 (lv_args 0 [.ref 0]) [] μ = some (some (.int v), m1) := kI_ev e1
  have h2 : jx_ev 298 0 0 (lv_args 0 [.ref 63]) [] m1 = some (some (.int v), m2) := kI_ev e2
  exact l_plain C lk_36 hk hl hf hW hS kk hI2 h1 h2
theorem lq_37 (C : lC p s m c b L xs A) (hI : Inv μ) (hk : k + 6 ≤ L) (hl : lv_has ls 8 (lv5 b ad k)) (hf : cells + 1 ≤ room_1.cells ∧ slots + 6 ≤ room_1.slots)
    (hW : jx_P ad D cs A (jx_X2 ad adV A) μ H s) (hS : va_S A s.heap H [])
    (kk : ∀ (μ2 : jx_Mem) (H1 : Heap) (ls1 : Array Slot), Inv μ2 → jx_P ad D cs A (jx_X2 ad adV A) μ2 H1 s → va_S A s.heap H1 [] → lv_has ls1 8 (lv5 b ad k) → W p l e room_1 s m #[Value.ref b] below meth c H1 [] (cells + 1) (slots + 6) Q (F0 m 2035 ls1 [])) : W p l e room_1 s m #[Value.ref b] below meth c H [] cells slots Q (F0 m 1583 ls []) := by
  obtain ⟨v, m1, m2, e1, e2, hI2⟩ := T_loud hI (xs (k + 1))
  have h1 : jx_ev 198 0 0 (lv_args 0 [.ref 0, .int (xs (k + 1))]) [] μ = some (some (.int v), m1) := kI_ev e1
  have h2 : jx_ev 301 0 0 (lv_args 0 [.ref 63, .int (xs (k + 1))]) [] m1 = some (some (.int v), m2) := kI_ev e2
  exact l_plain C lk_37 hk hl hf hW hS kk hI2 h1 h2
theorem lq_38 (C : lC p s m c b L xs A) (hI : Inv μ) (hk : k + 6 ≤ L) (hl : lv_has ls 8 (lv5 b ad k)) (hf : cells + 1 ≤ room_1.cells ∧ slots + 6 ≤ room_1.slots)
    (hW : jx_P ad D cs A (jx_X2 ad adV A) μ H s) (hS : va_S A s.heap H [])
    (kk : ∀ (μ2 : jx_Mem) (H1 : Heap) (ls1 : Array Slot), Inv μ2 → jx_P ad D cs A (jx_X2 ad adV A) μ2 H1 s → va_S A s.heap H1 [] → lv_has ls1 8 (lv5 b ad k) → W p l e room_1 s m #[Value.ref b] below meth c H1 [] (cells + 1) (slots + 6) Q (F0 m 2035 ls1 [])) : W p l e room_1 s m #[Value.ref b] below meth c H [] cells slots Q (F0 m 1608 ls []) := by
  obtain ⟨v, m1, m2, e1, e2, hI2⟩ := T_loudest hI 
  have h1 : jx_ev 199 0 0 (lv_args 0 [.ref 0]) [] μ = some (some (.int v), m1) := kI_ev e1
  have h2 : jx_ev 302 0 0 (lv_args 0 [.ref 63]) [] m1 = some (some (.int v), m2) := kI_ev e2
  exact l_plain C lk_38 hk hl hf hW hS kk hI2 h1 h2
theorem lq_39 (C : lC p s m c b L xs A) (hI : Inv μ) (hk : k + 6 ≤ L) (hl : lv_has ls 8 (lv5 b ad k)) (hf : cells + 1 ≤ room_1.cells ∧ slots + 6 ≤ room_1.slots)
    (hW : jx_P ad D cs A (jx_X2 ad adV A) μ H s) (hS : va_S A s.heap H [])
    (kk : ∀ (μ2 : jx_Mem) (H1 : Heap) (ls1 : Array Slot), Inv μ2 → jx_P ad D cs A (jx_X2 ad adV A) μ2 H1 s → va_S A s.heap H1 [] → lv_has ls1 8 (lv5 b ad k) → W p l e room_1 s m #[Value.ref b] below meth c H1 [] (cells + 1) (slots + 6) Q (F0 m 2035 ls1 [])) : W p l e room_1 s m #[Value.ref b] below meth c H [] cells slots Q (F0 m 1621 ls []) := by
  obtain ⟨v, m1, m2, e1, e2, hI2⟩ := T_heard hI (xs (k + 1)) (xs (k + 1 + 1))
  have h1 : jx_ev 200 0 0 (lv_args 0 [.ref 0, .int (xs (k + 1)), .int (xs (k + 1 + 1))]) [] μ = some (some (.int v), m1) := kI_ev e1
  have h2 : jx_ev 303 0 0 (lv_args 0 [.ref 63, .int (xs (k + 1)), .int (xs (k + 1 + 1))]) [] m1 = some (some (.int v), m2) := kI_ev e2
  exact l_plain C lk_39 hk hl hf hW hS kk hI2 h1 h2
theorem lq_40 (C : lC p s m c b L xs A) (hI : Inv μ) (hk : k + 6 ≤ L) (hl : lv_has ls 8 (lv5 b ad k)) (hf : cells + 1 ≤ room_1.cells ∧ slots + 6 ≤ room_1.slots)
    (hW : jx_P ad D cs A (jx_X2 ad adV A) μ H s) (hS : va_S A s.heap H [])
    (kk : ∀ (μ2 : jx_Mem) (H1 : Heap) (ls1 : Array Slot), Inv μ2 → jx_P ad D cs A (jx_X2 ad adV A) μ2 H1 s → va_S A s.heap H1 [] → lv_has ls1 8 (lv5 b ad k) → W p l e room_1 s m #[Value.ref b] below meth c H1 [] (cells + 1) (slots + 6) Q (F0 m 2035 ls1 [])) : W p l e room_1 s m #[Value.ref b] below meth c H [] cells slots Q (F0 m 1658 ls []) := by
  obtain ⟨v, m1, m2, e1, e2, hI2⟩ := T_crowds hI (xs (k + 1)) (xs (k + 1 + 1))
  have h1 : jx_ev 201 0 0 (lv_args 0 [.ref 0, .int (xs (k + 1)), .int (xs (k + 1 + 1))]) [] μ = some (some (.int v), m1) := kI_ev e1
  have h2 : jx_ev 305 0 0 (lv_args 0 [.ref 63, .int (xs (k + 1)), .int (xs (k + 1 + 1))]) [] m1 = some (some (.int v), m2) := kI_ev e2
  exact l_plain C lk_40 hk hl hf hW hS kk hI2 h1 h2
theorem lq_41 (C : lC p s m c b L xs A) (hI : Inv μ) (hk : k + 6 ≤ L) (hl : lv_has ls 8 (lv5 b ad k)) (hf : cells + 1 ≤ room_1.cells ∧ slots + 6 ≤ room_1.slots)
    (hW : jx_P ad D cs A (jx_X2 ad adV A) μ H s) (hS : va_S A s.heap H [])
    (kk : ∀ (μ2 : jx_Mem) (H1 : Heap) (ls1 : Array Slot), Inv μ2 → jx_P ad D cs A (jx_X2 ad adV A) μ2 H1 s → va_S A s.heap H1 [] → lv_has ls1 8 (lv5 b ad k) → W p l e room_1 s m #[Value.ref b] below meth c H1 [] (cells + 1) (slots + 6) Q (F0 m 2035 ls1 [])) : W p l e room_1 s m #[Value.ref b] below meth c H [] cells slots Q (F0 m 1695 ls []) := by
  obtain ⟨v, m1, m2, e1, e2, hI2⟩ := T_gas hI (xs (k + 1)) (xs (k + 1 + 1))
  have h1 : jx_ev 202 0 0 (lv_args 0 [.ref 0, .int (xs (k + 1)), .int (xs (k + 1 + 1))]) [] μ = some (some (.int v), m1) := kI_ev e1
  have h2 : jx_ev 306 0 0 (lv_args 0 [.ref 63, .int (xs (k + 1)), .int (xs (k + 1 + 1))]) [] m1 = some (some (.int v), m2) := kI_ev e2
  exact l_plain C lk_41 hk hl hf hW hS kk hI2 h1 h2
theorem lq_42 (C : lC p s m c b L xs A) (hI : Inv μ) (hk : k + 6 ≤ L) (hl : lv_has ls 8 (lv5 b ad k)) (hf : cells + 1 ≤ room_1.cells ∧ slots + 6 ≤ room_1.slots)
    (hW : jx_P ad D cs A (jx_X2 ad adV A) μ H s) (hS : va_S A s.heap H [])
    (kk : ∀ (μ2 : jx_Mem) (H1 : Heap) (ls1 : Array Slot), Inv μ2 → jx_P ad D cs A (jx_X2 ad adV A) μ2 H1 s → va_S A s.heap H1 [] → lv_has ls1 8 (lv5 b ad k) → W p l e room_1 s m #[Value.ref b] below meth c H1 [] (cells + 1) (slots + 6) Q (F0 m 2035 ls1 [])) : W p l e room_1 s m #[Value.ref b] below meth c H [] cells slots Q (F0 m 1732 ls []) := by
  obtain ⟨v, m1, m2, e1, e2, hI2⟩ := T_lasts hI 
  have h1 : jx_ev 203 0 0 (lv_args 0 [.ref 0]) [] μ = some (some (.int v), m1) := kI_ev e1
  have h2 : jx_ev 308 0 0 (lv_args 0 [.ref 63]) [] m1 = some (some (.int v), m2) := kI_ev e2
  exact l_plain C lk_42 hk hl hf hW hS kk hI2 h1 h2
theorem lq_43 (C : lC p s m c b L xs A) (hI : Inv μ) (hk : k + 6 ≤ L) (hl : lv_has ls 8 (lv5 b ad k)) (hf : cells + 1 ≤ room_1.cells ∧ slots + 6 ≤ room_1.slots)
    (hW : jx_P ad D cs A (jx_X2 ad adV A) μ H s) (hS : va_S A s.heap H [])
    (kk : ∀ (μ2 : jx_Mem) (H1 : Heap) (ls1 : Array Slot), Inv μ2 → jx_P ad D cs A (jx_X2 ad adV A) μ2 H1 s → va_S A s.heap H1 [] → lv_has ls1 8 (lv5 b ad k) → W p l e room_1 s m #[Value.ref b] below meth c H1 [] (cells + 1) (slots + 6) Q (F0 m 2035 ls1 [])) : W p l e room_1 s m #[Value.ref b] below meth c H [] cells slots Q (F0 m 1745 ls []) := by
  obtain ⟨v, m1, m2, e1, e2, hI2⟩ := T_leave hI 
  have h1 : jx_ev 204 0 0 (lv_args 0 [.ref 0]) [] μ = some (some (.int v), m1) := kI_ev e1
  have h2 : jx_ev 309 0 0 (lv_args 0 [.ref 63]) [] m1 = some (some (.int v), m2) := kI_ev e2
  exact l_plain C lk_43 hk hl hf hW hS kk hI2 h1 h2
theorem lq_44 (C : lC p s m c b L xs A) (hI : Inv μ) (hk : k + 6 ≤ L) (hl : lv_has ls 8 (lv5 b ad k)) (hf : cells + 1 ≤ room_1.cells ∧ slots + 6 ≤ room_1.slots)
    (hW : jx_P ad D cs A (jx_X2 ad adV A) μ H s) (hS : va_S A s.heap H [])
    (kk : ∀ (μ2 : jx_Mem) (H1 : Heap) (ls1 : Array Slot), Inv μ2 → jx_P ad D cs A (jx_X2 ad adV A) μ2 H1 s → va_S A s.heap H1 [] → lv_has ls1 8 (lv5 b ad k) → W p l e room_1 s m #[Value.ref b] below meth c H1 [] (cells + 1) (slots + 6) Q (F0 m 2035 ls1 [])) : W p l e room_1 s m #[Value.ref b] below meth c H [] cells slots Q (F0 m 1758 ls []) := by
  obtain ⟨v, m1, m2, e1, e2, hI2⟩ := T_ear hI (xs (k + 1)) (xs (k + 1 + 1))
  have h1 : jx_ev 205 0 0 (lv_args 0 [.ref 0, .int (xs (k + 1)), .int (xs (k + 1 + 1))]) [] μ = some (some (.int v), m1) := kI_ev e1
  have h2 : jx_ev 310 0 0 (lv_args 0 [.ref 63, .int (xs (k + 1)), .int (xs (k + 1 + 1))]) [] m1 = some (some (.int v), m2) := kI_ev e2
  exact l_plain C lk_44 hk hl hf hW hS kk hI2 h1 h2
theorem lq_45 (C : lC p s m c b L xs A) (hI : Inv μ) (hk : k + 6 ≤ L) (hl : lv_has ls 8 (lv5 b ad k)) (hf : cells + 1 ≤ room_1.cells ∧ slots + 6 ≤ room_1.slots)
    (hW : jx_P ad D cs A (jx_X2 ad adV A) μ H s) (hS : va_S A s.heap H [])
    (kk : ∀ (μ2 : jx_Mem) (H1 : Heap) (ls1 : Array Slot), Inv μ2 → jx_P ad D cs A (jx_X2 ad adV A) μ2 H1 s → va_S A s.heap H1 [] → lv_has ls1 8 (lv5 b ad k) → W p l e room_1 s m #[Value.ref b] below meth c H1 [] (cells + 1) (slots + 6) Q (F0 m 2035 ls1 [])) : W p l e room_1 s m #[Value.ref b] below meth c H [] cells slots Q (F0 m 1795 ls []) := by
  obtain ⟨v, m1, m2, e1, e2, hI2⟩ := T_sound hI (xs (k + 1)) (xs (k + 1 + 1))
  have h1 : jx_ev 206 0 0 (lv_args 0 [.ref 0, .int (xs (k + 1)), .int (xs (k + 1 + 1))]) [] μ = some (some (.int v), m1) := kI_ev e1
  have h2 : jx_ev 315 0 0 (lv_args 0 [.ref 63, .int (xs (k + 1)), .int (xs (k + 1 + 1))]) [] m1 = some (some (.int v), m2) := kI_ev e2
  exact l_plain C lk_45 hk hl hf hW hS kk hI2 h1 h2
theorem lq_46 (C : lC p s m c b L xs A) (hI : Inv μ) (hk : k + 6 ≤ L) (hl : lv_has ls 8 (lv5 b ad k)) (hf : cells + 1 ≤ room_1.cells ∧ slots + 6 ≤ room_1.slots)
    (hW : jx_P ad D cs A (jx_X2 ad adV A) μ H s) (hS : va_S A s.heap H [])
    (kk : ∀ (μ2 : jx_Mem) (H1 : Heap) (ls1 : Array Slot), Inv μ2 → jx_P ad D cs A (jx_X2 ad adV A) μ2 H1 s → va_S A s.heap H1 [] → lv_has ls1 8 (lv5 b ad k) → W p l e room_1 s m #[Value.ref b] below meth c H1 [] (cells + 1) (slots + 6) Q (F0 m 2035 ls1 [])) : W p l e room_1 s m #[Value.ref b] below meth c H [] cells slots Q (F0 m 1832 ls []) := by
  obtain ⟨v, m1, m2, e1, e2, hI2⟩ := T_judge hI (xs (k + 1)) (xs (k + 1 + 1)) (xs (k + 1 + 1 + 1))
  have h1 : jx_ev 207 0 0 (lv_args 0 [.ref 0, .int (xs (k + 1)), .int (xs (k + 1 + 1)), .int (xs (k + 1 + 1 + 1))]) [] μ = some (some (.int v), m1) := kI_ev e1
  have h2 : jx_ev 316 0 0 (lv_args 0 [.ref 63, .int (xs (k + 1)), .int (xs (k + 1 + 1)), .int (xs (k + 1 + 1 + 1))]) [] m1 = some (some (.int v), m2) := kI_ev e2
  exact l_plain C lk_46 hk hl hf hW hS kk hI2 h1 h2
theorem lq_47 (C : lC p s m c b L xs A) (hI : Inv μ) (hk : k + 6 ≤ L) (hl : lv_has ls 8 (lv5 b ad k)) (hf : cells + 1 ≤ room_1.cells ∧ slots + 6 ≤ room_1.slots)
    (hW : jx_P ad D cs A (jx_X2 ad adV A) μ H s) (hS : va_S A s.heap H [])
    (kk : ∀ (μ2 : jx_Mem) (H1 : Heap) (ls1 : Array Slot), Inv μ2 → jx_P ad D cs A (jx_X2 ad adV A) μ2 H1 s → va_S A s.heap H1 [] → lv_has ls1 8 (lv5 b ad k) → W p l e room_1 s m #[Value.ref b] below meth c H1 [] (cells + 1) (slots + 6) Q (F0 m 2035 ls1 [])) : W p l e room_1 s m #[Value.ref b] below meth c H [] cells slots Q (F0 m 1881 ls []) := by
  obtain ⟨v, m1, m2, e1, e2, hI2⟩ := T_who hI (xs (k + 1)) (xs (k + 1 + 1)) (xs (k + 1 + 1 + 1))
  have h1 : jx_ev 208 0 0 (lv_args 0 [.ref 0, .int (xs (k + 1)), .int (xs (k + 1 + 1)), .int (xs (k + 1 + 1 + 1))]) [] μ = some (some (.int v), m1) := kI_ev e1
  have h2 : jx_ev 317 0 0 (lv_args 0 [.ref 63, .int (xs (k + 1)), .int (xs (k + 1 + 1)), .int (xs (k + 1 + 1 + 1))]) [] m1 = some (some (.int v), m2) := kI_ev e2
  exact l_plain C lk_47 hk hl hf hW hS kk hI2 h1 h2
theorem lq_48 (C : lC p s m c b L xs A) (hI : Inv μ) (hk : k + 6 ≤ L) (hl : lv_has ls 8 (lv5 b ad k)) (hf : cells + 1 ≤ room_1.cells ∧ slots + 6 ≤ room_1.slots)
    (hW : jx_P ad D cs A (jx_X2 ad adV A) μ H s) (hS : va_S A s.heap H [])
    (kk : ∀ (μ2 : jx_Mem) (H1 : Heap) (ls1 : Array Slot), Inv μ2 → jx_P ad D cs A (jx_X2 ad adV A) μ2 H1 s → va_S A s.heap H1 [] → lv_has ls1 8 (lv5 b ad k) → W p l e room_1 s m #[Value.ref b] below meth c H1 [] (cells + 1) (slots + 6) Q (F0 m 2035 ls1 [])) : W p l e room_1 s m #[Value.ref b] below meth c H [] cells slots Q (F0 m 1930 ls []) := by
  obtain ⟨v, m1, m2, e1, e2, hI2⟩ := T_lamp hI (xs (k + 1))
  have h1 : jx_ev 209 0 0 (lv_args 0 [.ref 0, .int (xs (k + 1))]) [] μ = some (some (.int v), m1) := kI_ev e1
  have h2 : jx_ev 318 0 0 (lv_args 0 [.ref 63, .int (xs (k + 1))]) [] m1 = some (some (.int v), m2) := kI_ev e2
  exact l_plain C lk_48 hk hl hf hW hS kk hI2 h1 h2
theorem lq_49 (C : lC p s m c b L xs A) (hI : Inv μ) (hk : k + 6 ≤ L) (hl : lv_has ls 8 (lv5 b ad k)) (hf : cells + 1 ≤ room_1.cells ∧ slots + 6 ≤ room_1.slots)
    (hW : jx_P ad D cs A (jx_X2 ad adV A) μ H s) (hS : va_S A s.heap H [])
    (kk : ∀ (μ2 : jx_Mem) (H1 : Heap) (ls1 : Array Slot), Inv μ2 → jx_P ad D cs A (jx_X2 ad adV A) μ2 H1 s → va_S A s.heap H1 [] → lv_has ls1 8 (lv5 b ad k) → W p l e room_1 s m #[Value.ref b] below meth c H1 [] (cells + 1) (slots + 6) Q (F0 m 2035 ls1 [])) : W p l e room_1 s m #[Value.ref b] below meth c H [] cells slots Q (F0 m 1955 ls []) := by
  obtain ⟨v, m1, m2, e1, e2, hI2⟩ := T_count hI (xs (k + 1))
  have h1 : jx_ev 210 0 0 (lv_args 0 [.ref 0, .int (xs (k + 1))]) [] μ = some (some (.int v), m1) := kI_ev e1
  have h2 : jx_ev 321 0 0 (lv_args 0 [.ref 63, .int (xs (k + 1))]) [] m1 = some (some (.int v), m2) := kI_ev e2
  exact l_plain C lk_49 hk hl hf hW hS kk hI2 h1 h2
set_option maxHeartbeats 4000000 in
theorem lq_5 (ht : l.stackTraces = false) (C : lC p s m c b L xs A) (hI : Inv μ) (hk : k + 6 ≤ L) (hl : lv_has ls 8 (lv5 b ad k)) (hf : cells + 1 ≤ room_1.cells ∧ slots + 6 ≤ room_1.slots)
    (hW : jx_P ad D cs A (jx_X2 ad adV A) μ H s) (hS : va_S A s.heap H [])
    (kk : ∀ (μ2 : jx_Mem) (H1 : Heap) (ls1 : Array Slot), Inv μ2 → jx_P ad D cs A (jx_X2 ad adV A) μ2 H1 s → va_S A s.heap H1 [] → lv_has ls1 8 (lv5 b ad k) → W p l e room_1 s m #[Value.ref b] below meth c H1 [] (cells + 1) (slots + 6) Q (F0 m 2035 ls1 [])) : W p l e room_1 s m #[Value.ref b] below meth c H [] cells slots Q (F0 m 469 ls []) := by
  have hup := lC_up C
  obtain ⟨P, hm, hP, h9⟩ := T_of2 hI (xs (k + 1)) (xs (k + 1 + 1))
  rcases h9 with ⟨hc, v, m2, e1, e2, t1, t2, hI2⟩ | ⟨hc, m2, e2, t1, hI2⟩
  · have h1 : jx_ev 166 0 0 (lv_args 0 [.ref 0, .int (xs (k + 1)), .int (xs (k + 1 + 1))]) [] μ = some (some (.int v), μ) := kI_ev e1
    have h2 : jx_ev 231 0 0 (lv_args 0 [.ref 63, .int (xs (k + 1)), .int (xs (k + 1 + 1))]) [] (jx_w2 μ 109 0 v.toInt64) = some (some (.int v), m2) := kI_ev e2
    exact l_catch C ld_of hk hl hf (w_ok (y := yL_of) (M := jx_M166) (j := 166) hup rfl wd_of rfl rfl rfl wk_of (by decide +kernel) (Nat.le_of_ble_eq_true rfl) ⟨Nat.le_of_ble_eq_true rfl, Nat.le_of_ble_eq_true rfl⟩ h1) lk_of1 lk_of2 rfl lk_of3 (by decide +kernel) (M2 := jx_M231) (j2 := 231) rfl rfl rfl (Nat.le_of_ble_eq_true rfl) lk_m2 (by decide +kernel) lk_r.1 h2 t1 (fun _ => t2) hW hS (fun H1 ls1 => kk m2 H1 ls1 hI2)
  · have h2 : jx_ev 231 0 0 (lv_args 0 [.ref 63, .int (xs (k + 1)), .int (xs (k + 1 + 1))]) [] μ = some (some (.int 0), m2) := kI_ev e2
    exact l_catch C ld_of hk hl hf (w_no (y := yL_of) (M := jx_M166) (j := 166) hup rfl wd_of rfl rfl rfl wk_of (by decide +kernel) ⟨Nat.le_of_ble_eq_true rfl, Nat.le_of_ble_eq_true rfl⟩ (x_of ht hup hP hm hc)) lk_of1 lk_of2 rfl lk_of3 (by decide +kernel) (M2 := jx_M231) (j2 := 231) rfl rfl rfl (Nat.le_of_ble_eq_true rfl) lk_m2 (by decide +kernel) lk_r.1 h2 t1 (fun q => absurd q (by decide)) hW hS (fun H1 ls1 => kk m2 H1 ls1 hI2)
set_option maxHeartbeats 4000000 in
theorem lq_24 (ht : l.stackTraces = false) (C : lC p s m c b L xs A) (hI : Inv μ) (hk : k + 6 ≤ L) (hl : lv_has ls 8 (lv5 b ad k)) (hf : cells + 1 ≤ room_1.cells ∧ slots + 6 ≤ room_1.slots)
    (hW : jx_P ad D cs A (jx_X2 ad adV A) μ H s) (hS : va_S A s.heap H [])
    (kk : ∀ (μ2 : jx_Mem) (H1 : Heap) (ls1 : Array Slot), Inv μ2 → jx_P ad D cs A (jx_X2 ad adV A) μ2 H1 s → va_S A s.heap H1 [] → lv_has ls1 8 (lv5 b ad k) → W p l e room_1 s m #[Value.ref b] below meth c H1 [] (cells + 1) (slots + 6) Q (F0 m 2035 ls1 [])) : W p l e room_1 s m #[Value.ref b] below meth c H [] cells slots Q (F0 m 1155 ls []) := by
  have hup := lC_up C
  obtain ⟨P, hm, hP, h9⟩ := T_thing2 hI (xs (k + 1)) (xs (k + 1 + 1))
  rcases h9 with ⟨hc, v, m2, e1, e2, t1, t2, hI2⟩ | ⟨hc, m2, e2, t1, hI2⟩
  · have h1 : jx_ev 185 0 0 (lv_args 0 [.ref 0, .int (xs (k + 1)), .int (xs (k + 1 + 1))]) [] μ = some (some (.int v), μ) := kI_ev e1
    have h2 : jx_ev 275 0 0 (lv_args 0 [.ref 63, .int (xs (k + 1)), .int (xs (k + 1 + 1))]) [] (jx_w2 μ 109 0 v.toInt64) = some (some (.int v), m2) := kI_ev e2
    exact l_catch C ld_thing hk hl hf (w_ok (y := yL_thing) (M := jx_M185) (j := 185) hup rfl wd_thing rfl rfl rfl wk_thing (by decide +kernel) (Nat.le_of_ble_eq_true rfl) ⟨Nat.le_of_ble_eq_true rfl, Nat.le_of_ble_eq_true rfl⟩ h1) lk_thing1 lk_thing2 rfl lk_thing3 (by decide +kernel) (M2 := jx_M275) (j2 := 275) rfl rfl rfl (Nat.le_of_ble_eq_true rfl) lk_m3 (by decide +kernel) lk_r.2.1 h2 t1 (fun _ => t2) hW hS (fun H1 ls1 => kk m2 H1 ls1 hI2)
  · have h2 : jx_ev 275 0 0 (lv_args 0 [.ref 63, .int (xs (k + 1)), .int (xs (k + 1 + 1))]) [] μ = some (some (.int 0), m2) := kI_ev e2
    exact l_catch C ld_thing hk hl hf (w_no (y := yL_thing) (M := jx_M185) (j := 185) hup rfl wd_thing rfl rfl rfl wk_thing (by decide +kernel) ⟨Nat.le_of_ble_eq_true rfl, Nat.le_of_ble_eq_true rfl⟩ (x_thing ht hup hP hm hc)) lk_thing1 lk_thing2 rfl lk_thing3 (by decide +kernel) (M2 := jx_M275) (j2 := 275) rfl rfl rfl (Nat.le_of_ble_eq_true rfl) lk_m3 (by decide +kernel) lk_r.2.1 h2 t1 (fun q => absurd q (by decide)) hW hS (fun H1 ls1 => kk m2 H1 ls1 hI2)
set_option maxHeartbeats 4000000 in
theorem lq_50 (ht : l.stackTraces = false) (C : lC p s m c b L xs A) (hI : Inv μ) (hk : k + 6 ≤ L) (hl : lv_has ls 8 (lv5 b ad k)) (hf : cells + 1 ≤ room_1.cells ∧ slots + 6 ≤ room_1.slots)
    (hW : jx_P ad D cs A (jx_X2 ad adV A) μ H s) (hS : va_S A s.heap H [])
    (kk : ∀ (μ2 : jx_Mem) (H1 : Heap) (ls1 : Array Slot), Inv μ2 → jx_P ad D cs A (jx_X2 ad adV A) μ2 H1 s → va_S A s.heap H1 [] → lv_has ls1 8 (lv5 b ad k) → W p l e room_1 s m #[Value.ref b] below meth c H1 [] (cells + 1) (slots + 6) Q (F0 m 2035 ls1 [])) : W p l e room_1 s m #[Value.ref b] below meth c H [] cells slots Q (F0 m 1980 ls []) := by
  have hup := lC_up C
  obtain ⟨vs, hm, hP, h9⟩ := T_row2 hI (xs (k + 1))
  rcases h9 with ⟨hc, v, m2, e1, e2, t1, t2, hI2⟩ | ⟨hc, m2, e2, t1, hI2⟩
  · have h1 : jx_ev 211 0 0 (lv_args 0 [.ref 0, .int (xs (k + 1))]) [] μ = some (some (.long v), μ) := kL_ev e1
    have h2 : jx_ev 322 0 0 (lv_args 0 [.ref 63, .int (xs (k + 1))]) [] (jx_w2 μ 109 0 v) = some (some (.long v), m2) := kL_ev e2
    exact l_catchr C hk hl hf (w_okr hup h1) h2 t1 (fun _ => t2) hW hS (fun H1 ls1 => kk m2 H1 ls1 hI2)
  · have h2 : jx_ev 322 0 0 (lv_args 0 [.ref 63, .int (xs (k + 1))]) [] μ = some (some (.long 0), m2) := kL_ev e2
    exact l_catchr C hk hl hf (w_nor hup (x_row ht hup hP hm hc)) h2 t1 (fun q => absurd q (by decide)) hW hS (fun H1 ls1 => kk m2 H1 ls1 hI2)
theorem lq_all (ht : l.stackTraces = false) (C : lC p s m c b L xs A) (hI : Inv μ) (hk : k + 6 ≤ L) (hl : lv_has ls 8 (lv5 b ad k)) (hf : cells + 1 ≤ room_1.cells ∧ slots + 6 ≤ room_1.slots)
    (hW : jx_P ad D cs A (jx_X2 ad adV A) μ H s) (hS : va_S A s.heap H [])
    (kk : ∀ (μ2 : jx_Mem) (H1 : Heap) (ls1 : Array Slot), Inv μ2 → jx_P ad D cs A (jx_X2 ad adV A) μ2 H1 s → va_S A s.heap H1 [] → lv_has ls1 8 (lv5 b ad k) → W p l e room_1 s m #[Value.ref b] below meth c H1 [] (cells + 1) (slots + 6) Q (F0 m 2035 ls1 [])) : ∀ q, q < 51 → W p l e room_1 s m #[Value.ref b] below meth c H [] cells slots Q (F0 m (lTg.getD q 0) ls [])
  | 0, _ => lq_0 C hI hk hl hf hW hS kk
  | 1, _ => lq_1 C hI hk hl hf hW hS kk
  | 2, _ => lq_2 C hI hk hl hf hW hS kk
  | 3, _ => lq_3 C hI hk hl hf hW hS kk
  | 4, _ => lq_4 C hI hk hl hf hW hS kk
  | 5, _ => lq_5 ht C hI hk hl hf hW hS kk
  | 6, _ => lq_6 C hI hk hl hf hW hS kk
  | 7, _ => lq_7 C hI hk hl hf hW hS kk
  | 8, _ => lq_8 C hI hk hl hf hW hS kk
  | 9, _ => lq_9 C hI hk hl hf hW hS kk
  | 10, _ => lq_10 C hI hk hl hf hW hS kk
  | 11, _ => lq_11 C hI hk hl hf hW hS kk
  | 12, _ => lq_12 C hI hk hl hf hW hS kk
  | 13, _ => lq_13 C hI hk hl hf hW hS kk
  | 14, _ => lq_14 C hI hk hl hf hW hS kk
  | 15, _ => lq_15 C hI hk hl hf hW hS kk
  | 16, _ => lq_16 C hI hk hl hf hW hS kk
  | 17, _ => lq_17 C hI hk hl hf hW hS kk
  | 18, _ => lq_18 C hI hk hl hf hW hS kk
  | 19, _ => lq_19 C hI hk hl hf hW hS kk
  | 20, _ => lq_20 C hI hk hl hf hW hS kk
  | 21, _ => lq_21 C hI hk hl hf hW hS kk
  | 22, _ => lq_22 C hI hk hl hf hW hS kk
  | 23, _ => lq_23 C hI hk hl hf hW hS kk
  | 24, _ => lq_24 ht C hI hk hl hf hW hS kk
  | 25, _ => lq_25 C hI hk hl hf hW hS kk
  | 26, _ => lq_26 C hI hk hl hf hW hS kk
  | 27, _ => lq_27 C hI hk hl hf hW hS kk
  | 28, _ => lq_28 C hI hk hl hf hW hS kk
  | 29, _ => lq_29 C hI hk hl hf hW hS kk
  | 30, _ => lq_30 C hI hk hl hf hW hS kk
  | 31, _ => lq_31 C hI hk hl hf hW hS kk
  | 32, _ => lq_32 C hI hk hl hf hW hS kk
  | 33, _ => lq_33 C hI hk hl hf hW hS kk
  | 34, _ => lq_34 C hI hk hl hf hW hS kk
  | 35, _ => lq_35 C hI hk hl hf hW hS kk
  | 36, _ => lq_36 C hI hk hl hf hW hS kk
  | 37, _ => lq_37 C hI hk hl hf hW hS kk
  | 38, _ => lq_38 C hI hk hl hf hW hS kk
  | 39, _ => lq_39 C hI hk hl hf hW hS kk
  | 40, _ => lq_40 C hI hk hl hf hW hS kk
  | 41, _ => lq_41 C hI hk hl hf hW hS kk
  | 42, _ => lq_42 C hI hk hl hf hW hS kk
  | 43, _ => lq_43 C hI hk hl hf hW hS kk
  | 44, _ => lq_44 C hI hk hl hf hW hS kk
  | 45, _ => lq_45 C hI hk hl hf hW hS kk
  | 46, _ => lq_46 C hI hk hl hf hW hS kk
  | 47, _ => lq_47 C hI hk hl hf hW hS kk
  | 48, _ => lq_48 C hI hk hl hf hW hS kk
  | 49, _ => lq_49 C hI hk hl hf hW hS kk
  | 50, _ => lq_50 ht C hI hk hl hf hW hS kk
  | n + 51, h => absurd h (by omega)
end LQ
