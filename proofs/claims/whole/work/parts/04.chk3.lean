/-! ops against bytes, 3 -/
theorem am_chk_230 : ([230, 231, 232, 233, 234, 235, 236, 237, 238, 239] : List Nat).all am_chk = true := by decide +kernel
theorem am_wok_230 : ([230, 231, 232, 233, 234, 235, 236, 237, 238, 239] : List Nat).all am_wok = true := by decide +kernel
theorem am_chk_240 : ([240, 241, 242, 243, 244, 245, 246, 247, 248, 249] : List Nat).all am_chk = true := by decide +kernel
theorem am_wok_240 : ([240, 241, 242, 243, 244, 245, 246, 247, 248, 249] : List Nat).all am_wok = true := by decide +kernel
theorem am_chk_250 : ([250, 251, 252, 253, 254, 255, 256, 257, 258, 259] : List Nat).all am_chk = true := by decide +kernel
theorem am_wok_250 : ([250, 251, 252, 253, 254, 255, 256, 257, 258, 259] : List Nat).all am_wok = true := by decide +kernel
theorem am_chk_260 : ([260, 261, 262, 263, 264, 265, 266, 267, 268, 269] : List Nat).all am_chk = true := by decide +kernel
theorem am_wok_260 : ([260, 261, 262, 263, 264, 265, 266, 267, 268, 269] : List Nat).all am_wok = true := by decide +kernel
theorem am_chk_270 : ([270, 271, 272, 273, 274, 275, 276, 277, 278, 279] : List Nat).all am_chk = true := by decide +kernel
theorem am_wok_270 : ([270, 271, 272, 273, 274, 275, 276, 277, 278, 279] : List Nat).all am_wok = true := by decide +kernel
theorem am_chk_280 : ([280, 281, 282, 283, 284, 285, 286, 287, 288, 289] : List Nat).all am_chk = true := by decide +kernel
theorem am_wok_280 : ([280, 281, 282, 283, 284, 285, 286, 287, 288, 289] : List Nat).all am_wok = true := by decide +kernel
theorem am_chk_290 : ([290, 291, 292, 293, 294, 295, 296, 297, 298, 299] : List Nat).all am_chk = true := by decide +kernel
theorem am_wok_290 : ([290, 291, 292, 293, 294, 295, 296, 297, 298, 299] : List Nat).all am_wok = true := by decide +kernel
theorem am_chk_ok {m : Nat} (h : m < 300) : am_chk m = true := by
  by_cases h10 : m < 10
  · exact List.all_eq_true.mp am_chk_0 m (by simp; omega)
  by_cases h20 : m < 20
  · exact List.all_eq_true.mp am_chk_10 m (by simp; omega)
  by_cases h30 : m < 30
  · exact List.all_eq_true.mp am_chk_20 m (by simp; omega)
  by_cases h40 : m < 40
  · exact List.all_eq_true.mp am_chk_30 m (by simp; omega)
  by_cases h50 : m < 50
  · exact List.all_eq_true.mp am_chk_40 m (by simp; omega)
  by_cases h60 : m < 60
  · exact List.all_eq_true.mp am_chk_50 m (by simp; omega)
  by_cases h70 : m < 70
  · exact List.all_eq_true.mp am_chk_60 m (by simp; omega)
  by_cases h80 : m < 80
  · exact List.all_eq_true.mp am_chk_70 m (by simp; omega)
  by_cases h90 : m < 90
  · exact List.all_eq_true.mp am_chk_80 m (by simp; omega)
  by_cases h100 : m < 100
  · exact List.all_eq_true.mp am_chk_90 m (by simp; omega)
  by_cases h110 : m < 110
  · exact List.all_eq_true.mp am_chk_100 m (by simp; omega)
  by_cases h120 : m < 120
  · exact List.all_eq_true.mp am_chk_110 m (by simp; omega)
  by_cases h130 : m < 130
  · exact List.all_eq_true.mp am_chk_120 m (by simp; omega)
  by_cases h140 : m < 140
  · exact List.all_eq_true.mp am_chk_130 m (by simp; omega)
  by_cases h150 : m < 150
  · exact List.all_eq_true.mp am_chk_140 m (by simp; omega)
  by_cases h160 : m < 160
  · exact List.all_eq_true.mp am_chk_150 m (by simp; omega)
  by_cases h170 : m < 170
  · exact List.all_eq_true.mp am_chk_160 m (by simp; omega)
  by_cases h180 : m < 180
  · exact List.all_eq_true.mp am_chk_170 m (by simp; omega)
  by_cases h190 : m < 190
  · exact List.all_eq_true.mp am_chk_180 m (by simp; omega)
  by_cases h200 : m < 200
  · exact List.all_eq_true.mp am_chk_190 m (by simp; omega)
  by_cases h210 : m < 210
  · exact List.all_eq_true.mp am_chk_200 m (by simp; omega)
  by_cases h220 : m < 220
  · exact List.all_eq_true.mp am_chk_210 m (by simp; omega)
  by_cases h230 : m < 230
  · exact List.all_eq_true.mp am_chk_220 m (by simp; omega)
  by_cases h240 : m < 240
  · exact List.all_eq_true.mp am_chk_230 m (by simp; omega)
  by_cases h250 : m < 250
  · exact List.all_eq_true.mp am_chk_240 m (by simp; omega)
  by_cases h260 : m < 260
  · exact List.all_eq_true.mp am_chk_250 m (by simp; omega)
  by_cases h270 : m < 270
  · exact List.all_eq_true.mp am_chk_260 m (by simp; omega)
  by_cases h280 : m < 280
  · exact List.all_eq_true.mp am_chk_270 m (by simp; omega)
  by_cases h290 : m < 290
  · exact List.all_eq_true.mp am_chk_280 m (by simp; omega)
  exact List.all_eq_true.mp am_chk_290 m (by simp; omega)
theorem am_wok_ok {m : Nat} (h : m < 300) : am_wok m = true := by
  by_cases h10 : m < 10
  · exact List.all_eq_true.mp am_wok_0 m (by simp; omega)
  by_cases h20 : m < 20
  · exact List.all_eq_true.mp am_wok_10 m (by simp; omega)
  by_cases h30 : m < 30
  · exact List.all_eq_true.mp am_wok_20 m (by simp; omega)
  by_cases h40 : m < 40
  · exact List.all_eq_true.mp am_wok_30 m (by simp; omega)
  by_cases h50 : m < 50
  · exact List.all_eq_true.mp am_wok_40 m (by simp; omega)
  by_cases h60 : m < 60
  · exact List.all_eq_true.mp am_wok_50 m (by simp; omega)
  by_cases h70 : m < 70
  · exact List.all_eq_true.mp am_wok_60 m (by simp; omega)
  by_cases h80 : m < 80
  · exact List.all_eq_true.mp am_wok_70 m (by simp; omega)
  by_cases h90 : m < 90
  · exact List.all_eq_true.mp am_wok_80 m (by simp; omega)
  by_cases h100 : m < 100
  · exact List.all_eq_true.mp am_wok_90 m (by simp; omega)
  by_cases h110 : m < 110
  · exact List.all_eq_true.mp am_wok_100 m (by simp; omega)
  by_cases h120 : m < 120
  · exact List.all_eq_true.mp am_wok_110 m (by simp; omega)
  by_cases h130 : m < 130
  · exact List.all_eq_true.mp am_wok_120 m (by simp; omega)
  by_cases h140 : m < 140
  · exact List.all_eq_true.mp am_wok_130 m (by simp; omega)
  by_cases h150 : m < 150
  · exact List.all_eq_true.mp am_wok_140 m (by simp; omega)
  by_cases h160 : m < 160
  · exact List.all_eq_true.mp am_wok_150 m (by simp; omega)
  by_cases h170 : m < 170
  · exact List.all_eq_true.mp am_wok_160 m (by simp; omega)
  by_cases h180 : m < 180
  · exact List.all_eq_true.mp am_wok_170 m (by simp; omega)
  by_cases h190 : m < 190
  · exact List.all_eq_true.mp am_wok_180 m (by simp; omega)
  by_cases h200 : m < 200
  · exact List.all_eq_true.mp am_wok_190 m (by simp; omega)
  by_cases h210 : m < 210
  · exact List.all_eq_true.mp am_wok_200 m (by simp; omega)
  by_cases h220 : m < 220
  · exact List.all_eq_true.mp am_wok_210 m (by simp; omega)
  by_cases h230 : m < 230
  · exact List.all_eq_true.mp am_wok_220 m (by simp; omega)
  by_cases h240 : m < 240
  · exact List.all_eq_true.mp am_wok_230 m (by simp; omega)
  by_cases h250 : m < 250
  · exact List.all_eq_true.mp am_wok_240 m (by simp; omega)
  by_cases h260 : m < 260
  · exact List.all_eq_true.mp am_wok_250 m (by simp; omega)
  by_cases h270 : m < 270
  · exact List.all_eq_true.mp am_wok_260 m (by simp; omega)
  by_cases h280 : m < 280
  · exact List.all_eq_true.mp am_wok_270 m (by simp; omega)
  by_cases h290 : m < 290
  · exact List.all_eq_true.mp am_wok_280 m (by simp; omega)
  exact List.all_eq_true.mp am_wok_290 m (by simp; omega)
