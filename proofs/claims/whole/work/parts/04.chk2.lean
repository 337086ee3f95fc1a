/-! ops against bytes, 2 -/
theorem am_chk_150 : ([150, 151, 152, 153, 154, 155, 156, 157, 158, 159] : List Nat).all am_chk = true := by decide +kernel
theorem am_wok_150 : ([150, 151, 152, 153, 154, 155, 156, 157, 158, 159] : List Nat).all am_wok = true := by decide +kernel
theorem am_chk_160 : ([160, 161, 162, 163, 164, 165, 166, 167, 168, 169] : List Nat).all am_chk = true := by decide +kernel
theorem am_wok_160 : ([160, 161, 162, 163, 164, 165, 166, 167, 168, 169] : List Nat).all am_wok = true := by decide +kernel
theorem am_chk_170 : ([170, 171, 172, 173, 174, 175, 176, 177, 178, 179] : List Nat).all am_chk = true := by decide +kernel
theorem am_wok_170 : ([170, 171, 172, 173, 174, 175, 176, 177, 178, 179] : List Nat).all am_wok = true := by decide +kernel
theorem am_chk_180 : ([180, 181, 182, 183, 184, 185, 186, 187, 188, 189] : List Nat).all am_chk = true := by decide +kernel
theorem am_wok_180 : ([180, 181, 182, 183, 184, 185, 186, 187, 188, 189] : List Nat).all am_wok = true := by decide +kernel
theorem am_chk_190 : ([190, 191, 192, 193, 194, 195, 196, 197, 198, 199] : List Nat).all am_chk = true := by decide +kernel
theorem am_wok_190 : ([190, 191, 192, 193, 194, 195, 196, 197, 198, 199] : List Nat).all am_wok = true := by decide +kernel
theorem am_chk_200 : ([200, 201, 202, 203, 204, 205, 206, 207, 208, 209] : List Nat).all am_chk = true := by decide +kernel
theorem am_wok_200 : ([200, 201, 202, 203, 204, 205, 206, 207, 208, 209] : List Nat).all am_wok = true := by decide +kernel
theorem am_chk_210 : ([210, 211, 212, 213, 214, 215, 216, 217, 218, 219] : List Nat).all am_chk = true := by decide +kernel
theorem am_wok_210 : ([210, 211, 212, 213, 214, 215, 216, 217, 218, 219] : List Nat).all am_wok = true := by decide +kernel
theorem am_chk_220 : ([220, 221, 222, 223, 224, 225, 226, 227, 228, 229] : List Nat).all am_chk = true := by decide +kernel
theorem am_wok_220 : ([220, 221, 222, 223, 224, 225, 226, 227, 228, 229] : List Nat).all am_wok = true := by decide +kernel
