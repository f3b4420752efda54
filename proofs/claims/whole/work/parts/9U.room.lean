/-! the law's room holds each call -/
def rmOk (j : Nat) : Bool := match jx_ms[j]? with
  | some M => Nat.ble (M.2.2.2.2.2.1 + 1 + 1) room_1.frames && Nat.ble (8 + (M.2.2.1 + 11) + 60 * (M.2.2.2.2.2.1 + 1)) room_1.locals
  | none => false
theorem rm_ok : (List.range 51).all (fun k => rmOk (161 + k)) = true := by decide +kernel
theorem rm_okM : [214, 226, 227, 228, 229, 230, 231, 236, 237, 239, 240, 242, 245, 248, 249, 253, 255, 256, 257, 258, 265, 270, 271, 273, 274, 275, 276, 280, 284, 285, 286, 288, 289, 291, 293, 295, 296, 298, 301, 302, 303, 305, 306, 308, 309, 310, 315, 316, 317, 318, 321, 322].all rmOk = true := by decide +kernel
