/-! ops against bytes, 1 -/
theorem am_chk_80 : ([80, 81, 82, 83, 84, 85, 86, 87, 88, 89] : List Nat).all am_chk = true := by decide +kernel
theorem am_wok_80 : ([80, 81, 82, 83, 84, 85, 86, 87, 88, 89] : List Nat).all am_wok = true := by decide +kernel
theorem am_chk_90 : ([90, 91, 92, 93, 94, 95, 96, 97, 98, 99] : List Nat).all am_chk = true := by decide +kernel
theorem am_wok_90 : ([90, 91, 92, 93, 94, 95, 96, 97, 98, 99] : List Nat).all am_wok = true := by decide +kernel
theorem am_chk_100 : ([100, 101, 102, 103, 104, 105, 106, 107, 108, 109] : List Nat).all am_chk = true := by decide +kernel
theorem am_wok_100 : ([100, 101, 102, 103, 104, 105, 106, 107, 108, 109] : List Nat).all am_wok = true := by decide +kernel
theorem am_chk_110 : ([110, 111, 112, 113, 114, 115, 116, 117, 118, 119] : List Nat).all am_chk = true := by decide +kernel
theorem am_wok_110 : ([110, 111, 112, 113, 114, 115, 116, 117, 118, 119] : List Nat).all am_wok = true := by decide +kernel
theorem am_chk_120 : ([120, 121, 122, 123, 124, 125, 126, 127, 128, 129] : List Nat).all am_chk = true := by decide +kernel
theorem am_wok_120 : ([120, 121, 122, 123, 124, 125, 126, 127, 128, 129] : List Nat).all am_wok = true := by decide +kernel
theorem am_chk_130 : ([130, 131, 132, 133, 134, 135, 136, 137, 138, 139] : List Nat).all am_chk = true := by decide +kernel
theorem am_wok_130 : ([130, 131, 132, 133, 134, 135, 136, 137, 138, 139] : List Nat).all am_wok = true := by decide +kernel
theorem am_chk_140 : ([140, 141, 142, 143, 144, 145, 146, 147, 148, 149] : List Nat).all am_chk = true := by decide +kernel
theorem am_wok_140 : ([140, 141, 142, 143, 144, 145, 146, 147, 148, 149] : List Nat).all am_wok = true := by decide +kernel
