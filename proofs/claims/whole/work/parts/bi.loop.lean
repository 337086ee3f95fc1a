/-! the law: its cases, its loop -/
theorem lc_0 : lw_chk 200 226 255 13 17 101 147 447 1420 989 [(1, false), (2, false), (3, false), (4, false), (5, false)] false := by unfold lw_chk; decide +kernel
theorem lc_1 : lw_chk 263 269 278 18 22 102 148 455 1424 966 [(1, false)] false := by unfold lw_chk; decide +kernel
theorem lc_2 : lw_chk 286 287 291 23 27 103 149 459 1428 953 [] false := by unfold lw_chk; decide +kernel
theorem lc_3 : lw_chk 299 305 314 28 32 106 178 648 1543 930 [(1, false)] false := by unfold lw_chk; decide +kernel
theorem lc_4 : lw_chk 322 328 337 33 36 107 179 652 1547 907 [(1, false)] false := by unfold lw_chk; decide +kernel
theorem lc_5 : lw_chk 345 356 370 37 41 108 181 656 1555 874 [(1, false), (2, false)] false := by unfold lw_chk; decide +kernel
theorem lc_6 : lw_chk 378 389 403 42 45 110 190 669 1592 841 [(1, false), (2, false)] false := by unfold lw_chk; decide +kernel
theorem lc_7 : lw_chk 411 422 436 46 49 111 193 681 1607 808 [(1, false), (2, false)] false := by unfold lw_chk; decide +kernel
theorem lc_8 : lw_chk 444 463 485 50 54 112 194 689 1611 759 [(1, false), (2, true)] false := by unfold lw_chk; decide +kernel
theorem lc_9 : lw_chk 493 504 518 55 58 113 195 693 1615 726 [(1, false), (2, false)] false := by unfold lw_chk; decide +kernel
theorem lc_10 : lw_chk 526 527 531 59 63 114 197 706 1623 713 [] false := by unfold lw_chk; decide +kernel
theorem lc_11 : lw_chk 539 540 544 64 67 115 198 710 1627 700 [] false := by unfold lw_chk; decide +kernel
theorem lc_12 : lw_chk 552 571 593 68 72 116 199 714 1631 651 [(1, false), (2, true)] false := by unfold lw_chk; decide +kernel
theorem lc_13 : lw_chk 601 602 606 73 76 117 200 719 1635 638 [] false := by unfold lw_chk; decide +kernel
theorem lc_14 : lw_chk 614 625 639 77 80 118 208 760 1667 605 [(1, false), (2, false)] false := by unfold lw_chk; decide +kernel
theorem lc_15 : lw_chk 647 653 662 81 84 119 209 773 1672 582 [(1, false)] false := by unfold lw_chk; decide +kernel
theorem lc_16 : lw_chk 670 676 685 85 88 121 213 786 1688 559 [(1, false)] false := by unfold lw_chk; decide +kernel
theorem lc_17 : lw_chk 693 704 718 89 92 122 217 799 1704 526 [(1, false), (2, false)] false := by unfold lw_chk; decide +kernel
theorem lc_18 : lw_chk 726 747 771 93 97 123 221 809 1720 473 [(1, false), (2, false), (3, false), (4, false)] false := by unfold lw_chk; decide +kernel
theorem lc_19 : lw_chk 779 785 794 98 101 124 231 836 1761 450 [(1, false)] false := by unfold lw_chk; decide +kernel
theorem lc_20 : lw_chk 802 808 817 102 105 126 233 852 1769 427 [(1, false)] false := by unfold lw_chk; decide +kernel
theorem lc_21 : lw_chk 825 831 840 106 109 127 234 856 1773 404 [(1, false)] false := by unfold lw_chk; decide +kernel
theorem lc_22 : lw_chk 848 859 873 110 113 128 235 860 1777 371 [(1, false), (2, false)] false := by unfold lw_chk; decide +kernel
theorem lc_23 : lw_chk 881 892 906 114 117 129 236 864 1781 338 [(1, false), (2, false)] false := by unfold lw_chk; decide +kernel
theorem lc_24 : lw_chk 914 920 929 118 121 130 241 886 1802 315 [(1, false)] false := by unfold lw_chk; decide +kernel
theorem lc_25 : lw_chk 937 943 952 122 125 131 242 890 1807 292 [(1, false)] false := by unfold lw_chk; decide +kernel
theorem lc_26 : lw_chk 960 966 975 126 129 133 243 898 1811 269 [(1, false)] false := by unfold lw_chk; decide +kernel
theorem lc_27 : lw_chk 983 994 1008 130 133 135 244 905 1815 236 [(1, false), (2, false)] false := by unfold lw_chk; decide +kernel
theorem lc_28 : lw_chk 1016 1022 1031 134 137 136 249 924 1835 213 [(1, false)] false := by unfold lw_chk; decide +kernel
theorem lc_29 : lw_chk 1039 1045 1054 138 141 137 248 940 1831 190 [(1, false)] false := by unfold lw_chk; decide +kernel
theorem lc_30 : lw_chk 1062 1068 1077 142 145 138 252 944 1852 167 [(1, false)] false := by unfold lw_chk; decide +kernel
theorem lc_31 : lw_chk 1085 1101 1120 146 150 140 256 975 1868 124 [(1, false), (2, false), (3, false)] false := by unfold lw_chk; decide +kernel
theorem lc_32 : lw_chk 1128 1139 1153 151 154 141 257 983 1872 91 [(1, false), (2, false)] false := by unfold lw_chk; decide +kernel
theorem lc_33 : lw_chk 1161 1162 1166 155 159 142 258 995 1876 77 [] true := by unfold lw_chk; decide +kernel
theorem lc_34 : lw_chk 1175 1176 1180 160 163 143 288 1101 1997 64 [] false := by unfold lw_chk; decide +kernel
theorem lc_35 : lw_chk 1188 1194 1203 164 167 144 290 1113 2004 41 [(1, false)] false := by unfold lw_chk; decide +kernel
theorem lc_36 : lw_chk 1211 1212 1216 168 171 145 291 1117 2008 28 [] false := by unfold lw_chk; decide +kernel
theorem lc_37 : lw_chk 1224 1230 1239 172 175 146 293 1140 2016 5 [(1, false)] false := by unfold lw_chk; decide +kernel
theorem dL_18 : decode code 18 = .ok (.iload_n 3, 1) := by decide +kernel
theorem dL_19 : decode code 19 = .ok (.aload_n 0, 1) := by decide +kernel
theorem dL_20 : decode code 20 = .ok (.arraylength, 1) := by decide +kernel
theorem dL_21 : decode code 21 = .ok (.bipush 6, 2) := by decide +kernel
theorem dL_23 : decode code 23 = .ok (.isub, 1) := by decide +kernel
theorem dL_24 : decode code 24 = .ok (.if_icmp .gt 1229, 3) := by decide +kernel
theorem dL_27 : decode code 27 = .ok (.aload_n 0, 1) := by decide +kernel
theorem dL_28 : decode code 28 = .ok (.iload_n 3, 1) := by decide +kernel
theorem dL_29 : decode code 29 = .ok (.iaload, 1) := by decide +kernel
theorem dL_30 : decode code 30 = .ok (.bipush 63, 2) := by decide +kernel
theorem dL_32 : decode code 32 = .ok (.iand, 1) := by decide +kernel
theorem dL_1247 : decode code 1247 = .ok (.iinc 3 6, 3) := by decide +kernel
theorem dL_1250 : decode code 1250 = .ok (.goto (-1232), 3) := by decide +kernel
theorem dL_1253 : decode code 1253 = .ok (.iconst 1, 1) := by decide +kernel
theorem dL_1254 : decode code 1254 = .ok (.ireturn, 1) := by decide +kernel
theorem dL_0 : decode code 0 = .ok (.new 7, 3) := by decide +kernel
theorem dL_3 : decode code 3 = .ok (.dup, 1) := by decide +kernel
theorem dL_4 : decode code 4 = .ok (.invokespecial 9, 3) := by decide +kernel
theorem dL_7 : decode code 7 = .ok (.astore_n 1, 1) := by decide +kernel
theorem dL_8 : decode code 8 = .ok (.new 10, 3) := by decide +kernel
theorem dL_11 : decode code 11 = .ok (.dup, 1) := by decide +kernel
theorem dL_12 : decode code 12 = .ok (.invokespecial 12, 3) := by decide +kernel
theorem dL_15 : decode code 15 = .ok (.astore_n 2, 1) := by decide +kernel
theorem dL_16 : decode code 16 = .ok (.iconst 0, 1) := by decide +kernel
theorem dL_17 : decode code 17 = .ok (.istore_n 3, 1) := by decide +kernel
theorem dL_33 : decode code 33 = .ok (.tableswitch 1214 0 37 #[167, 230, 253, 266, 289, 312, 345, 378, 411, 460, 493, 506, 519, 568, 581, 614, 637, 660, 693, 746, 769, 792, 815, 848, 881, 904, 927, 950, 983, 1006, 1029, 1052, 1095, 1128, 1142, 1155, 1178, 1191], 167) := by decide +kernel
theorem lw_and63 (x : Int32) : ∃ j : Nat, j < 64 ∧ (x &&& 63).toInt = j := by
  have h : (x &&& 63).toBitVec.toNat < 64 := by
    rw [Int32.toBitVec_and, BitVec.toNat_and]
    exact Nat.lt_of_le_of_lt Nat.and_le_right (by decide)
  refine ⟨(x &&& 63).toBitVec.toNat, h, ?_⟩
  show (x &&& 63).toBitVec.toInt = _
  rw [BitVec.toInt_eq_toNat_of_lt]
  omega
theorem lw_sub6 {L : Nat} (hL : L ≤ 3072) : (nI L - 6).toInt = (L : Int) - 6 := by
  rw [Int32.toInt_sub, nI_toInt (by omega)]
  show ((L : Int) - 6).bmod (2 ^ 32) = _
  rw [Int.bmod_eq_of_le (by omega) (by omega)]
theorem lw_boolz (xs : Nat → Int32) (i k : Nat) : lw_val xs i (k, true) = iv (if (!decide (xs (i + k) = 0)) then 1 else 0) := by
  unfold lw_val
  by_cases h : xs (i + k) = 0
  · rw [if_pos h]
    simp [h]
    rfl
  · rw [if_neg h]
    simp [h]
    rfl
section LWL
variable {l : Launch} {dC : Nat → ClassId} {dI : Nat → Nat → Nat} {aC : Nat → ClassId} {adK adV : Nat → Nat} {p : Program} {e : Env} {s : State} {m : MethodId} {b : Nat} {below : List Frame} {meth : Method} {c : Code} {L : Nat} {xs : Nat → Int32}
set_option maxHeartbeats 4000000 in
theorem lw_loop (C0 : lw_At p s m meth c b L xs) (hL : L ≤ 3072) (hS : am_S dC dI aC s.heap.size adK adV s) : ∀ (n i : Nat) (g : mg) (H : Heap) (locs : List Loc) (LS : Array Slot), i ≤ L → L < i + n → INV g → va_P (dC, dI) classes (am_w aC s.heap.size g) H → va_S (fun q => s.heap.size ≤ q) s.heap H locs → lv_has LS 4 (lw_ls s.heap.size b i) → W p l e room_1 s m #[Value.ref b] below meth c H locs 600000 7302249 (lw_Z below #[Value.ref b] s) (F0 m 18 LS []) := by
  intro n
  induction n with
  | zero => intro i g H locs LS h1 h2; omega
  | succ n ih =>
    intro i g H locs LS hiL hin hI hP hV hl
    obtain ⟨hx, hb, hr, hml, hown, hts, hX, hbl, hlocks, hgv⟩ := id C0
    have hbA : ¬ (fun q : Nat => s.heap.size ≤ q) b := Nat.not_le.mpr hbl
    refine lv_iload_n hx hb dL_18 rfl (lv_at hl 0 rfl) ?_
    refine lv_aload_n hx hb dL_19 rfl (lv_at hl 3 rfl) ?_
    refine va_slen hx hb hX hbl hbA hV dL_20 ?_
    refine lv_bipush (v := 6) hx hb dL_21 rfl ?_
    refine lv_isub hx hb dL_23 ?_
    refine lv_icmp_gt (tgt := 1253) hx hb dL_24 (by decide) (fun q => ?_) (fun q => ?_)
    · refine lv_iconst (v := 1) hx hb dL_1253 rfl ?_
      refine va_forget (fun y hy => hV.2.2 y hy) ?_
      exact lw_ret hx hb hr hlocks dL_1254
    · have hi6 : i + 6 ≤ L := by
        have e1 := lw_sub6 hL
        have e2 := nI_toInt (n := i) (by omega)
        have q2 : ¬ (nI L - 6 < nI i) := q
        rw [Int32.lt_iff_toInt_lt, e1, e2] at q2
        omega
      refine lv_aload_n hx hb dL_27 rfl (lv_at hl 3 rfl) ?_
      refine lv_iload_n hx hb dL_28 rfl (lv_at hl 0 rfl) ?_
      refine va_sld hx hb hX hbl hbA hV (vp_in_nI (by omega) (by omega)) dL_29 ?_
      refine lv_bipush (v := 63) hx hb dL_30 rfl ?_
      refine lv_iand hx hb dL_32 ?_
      have next : ∀ (g2 : mg) (H1 : Heap) (locs1 : List Loc), INV g2 → va_P (dC, dI) classes (am_w aC s.heap.size g2) H1 → va_S (fun q => s.heap.size ≤ q) s.heap H1 locs1 → W p l e room_1 s m #[Value.ref b] below meth c H1 locs1 600000 7302249 (lw_Z below #[Value.ref b] s) (F0 m 1247 LS []) := by
        intro g2 H1 locs1 hI1 hP1 hV1
        refine lv_iinc (v := nI (i + 6)) (lv' := lw_ls s.heap.size b (i + 6)) hx hb dL_1247 hl (k := 0) rfl (by rw [← nI_add]; rfl) (by decide) rfl (fun LS2 hl2 => ?_)
        refine lv_goto (tgt := 18) hx hb dL_1250 (by decide) ?_
        exact ih (i + 6) g2 H1 locs1 LS2 hi6 (by omega) hI1 hP1 hV1 hl2
      have hg := INV_ok hI
      obtain ⟨j, hj64, hj⟩ := lw_and63 (xs (nI i).toNatClampNeg)
      match j, hj64, hj with
      | 0, _, hj => exact lv_tableIn (off := 167) (tgt := 200) hx hb dL_33 (by rw [hj]; decide) (by rw [hj]; decide) (by rw [hj]; rfl) (by decide) (lw_case C0 hL hS hi6 hl lc_0 (st_feed hI _ _ _ _ _) hg hP hV (Nat.le_refl _) (Nat.le_refl _) next)
      | 1, _, hj => exact lv_tableIn (off := 230) (tgt := 263) hx hb dL_33 (by rw [hj]; decide) (by rw [hj]; decide) (by rw [hj]; rfl) (by decide) (lw_case C0 hL hS hi6 hl lc_1 (st_ende hI _) hg hP hV (Nat.le_refl _) (Nat.le_refl _) next)
      | 2, _, hj => exact lv_tableIn (off := 253) (tgt := 286) hx hb dL_33 (by rw [hj]; decide) (by rw [hj]; decide) (by rw [hj]; rfl) (by decide) (lw_case C0 hL hS hi6 hl lc_2 (st_text hI) hg hP hV (Nat.le_refl _) (Nat.le_refl _) next)
      | 3, _, hj => exact lv_tableIn (off := 266) (tgt := 299) hx hb dL_33 (by rw [hj]; decide) (by rw [hj]; decide) (by rw [hj]; rfl) (by decide) (lw_case C0 hL hS hi6 hl lc_3 (st_fault hI _) hg hP hV (Nat.le_refl _) (Nat.le_refl _) next)
      | 4, _, hj => exact lv_tableIn (off := 289) (tgt := 322) hx hb dL_33 (by rw [hj]; decide) (by rw [hj]; decide) (by rw [hj]; rfl) (by decide) (lw_case C0 hL hS hi6 hl lc_4 (st_court hI _) hg hP hV (Nat.le_refl _) (Nat.le_refl _) next)
      | 5, _, hj => exact lv_tableIn (off := 312) (tgt := 345) hx hb dL_33 (by rw [hj]; decide) (by rw [hj]; decide) (by rw [hj]; rfl) (by decide) (lw_case C0 hL hS hi6 hl lc_5 (st_word hI _ _) hg hP hV (Nat.le_refl _) (Nat.le_refl _) next)
      | 6, _, hj => exact lv_tableIn (off := 345) (tgt := 378) hx hb dL_33 (by rw [hj]; decide) (by rw [hj]; decide) (by rw [hj]; rfl) (by decide) (lw_case C0 hL hS hi6 hl lc_6 (st_bench hI _ _) hg hP hV (Nat.le_refl _) (Nat.le_refl _) next)
      | 7, _, hj => exact lv_tableIn (off := 378) (tgt := 411) hx hb dL_33 (by rw [hj]; decide) (by rw [hj]; decide) (by rw [hj]; rfl) (by decide) (lw_case C0 hL hS hi6 hl lc_7 (st_grammar hI _ _) hg hP hV (Nat.le_refl _) (Nat.le_refl _) next)
      | 8, _, hj => exact lv_tableIn (off := 411) (tgt := 444) hx hb dL_33 (by rw [hj]; decide) (by rw [hj]; decide) (by rw [hj]; rfl) (by decide) (lw_case C0 hL hS hi6 hl lc_8 (st_row hI _ _) hg hP hV (Nat.le_refl _) (Nat.le_refl _) next)
      | 9, _, hj => exact lv_tableIn (off := 460) (tgt := 493) hx hb dL_33 (by rw [hj]; decide) (by rw [hj]; decide) (by rw [hj]; rfl) (by decide) (lw_case C0 hL hS hi6 hl lc_9 (st_say hI _ _) hg hP hV (Nat.le_refl _) (Nat.le_refl _) next)
      | 10, _, hj => exact lv_tableIn (off := 493) (tgt := 526) hx hb dL_33 (by rw [hj]; decide) (by rw [hj]; decide) (by rw [hj]; rfl) (by decide) (lw_case C0 hL hS hi6 hl lc_10 (st_back hI) hg hP hV (Nat.le_refl _) (Nat.le_refl _) next)
      | 11, _, hj => exact lv_tableIn (off := 506) (tgt := 539) hx hb dL_33 (by rw [hj]; decide) (by rw [hj]; decide) (by rw [hj]; rfl) (by decide) (lw_case C0 hL hS hi6 hl lc_11 (st_clear hI) hg hP hV (Nat.le_refl _) (Nat.le_refl _) next)
      | 12, _, hj => exact lv_tableIn (off := 519) (tgt := 552) hx hb dL_33 (by rw [hj]; decide) (by rw [hj]; decide) (by rw [hj]; rfl) (by decide) (lw_case C0 hL hS hi6 hl lc_12 (by have h := st_line hI (xs (i + 1)) (!decide (xs (i + 2) = 0)); rw [← lw_boolz] at h; exact h) hg hP hV (Nat.le_refl _) (Nat.le_refl _) next)
      | 13, _, hj => exact lv_tableIn (off := 568) (tgt := 601) hx hb dL_33 (by rw [hj]; decide) (by rw [hj]; decide) (by rw [hj]; rfl) (by decide) (lw_case C0 hL hS hi6 hl lc_13 (st_sense hI) hg hP hV (Nat.le_refl _) (Nat.le_refl _) next)
      | 14, _, hj => exact lv_tableIn (off := 581) (tgt := 614) hx hb dL_33 (by rw [hj]; decide) (by rw [hj]; decide) (by rw [hj]; rfl) (by decide) (lw_case C0 hL hS hi6 hl lc_14 (st_means hI _ _) hg hP hV (Nat.le_refl _) (Nat.le_refl _) next)
      | 15, _, hj => exact lv_tableIn (off := 614) (tgt := 647) hx hb dL_33 (by rw [hj]; decide) (by rw [hj]; decide) (by rw [hj]; rfl) (by decide) (lw_case C0 hL hS hi6 hl lc_15 (st_exact hI _) hg hP hV (Nat.le_refl _) (Nat.le_refl _) next)
      | 16, _, hj => exact lv_tableIn (off := 637) (tgt := 670) hx hb dL_33 (by rw [hj]; decide) (by rw [hj]; decide) (by rw [hj]; rfl) (by decide) (lw_case C0 hL hS hi6 hl lc_16 (st_ruling hI _) hg hP hV (Nat.le_refl _) (Nat.le_refl _) next)
      | 17, _, hj => exact lv_tableIn (off := 660) (tgt := 693) hx hb dL_33 (by rw [hj]; decide) (by rw [hj]; decide) (by rw [hj]; rfl) (by decide) (lw_case C0 hL hS hi6 hl lc_17 (st_instance hI _ _) hg hP hV (Nat.le_refl _) (Nat.le_refl _) next)
      | 18, _, hj => exact lv_tableIn (off := 693) (tgt := 726) hx hb dL_33 (by rw [hj]; decide) (by rw [hj]; decide) (by rw [hj]; rfl) (by decide) (lw_case C0 hL hS hi6 hl lc_18 (st_plan hI _ _ _ _) hg hP hV (Nat.le_refl _) (Nat.le_refl _) next)
      | 19, _, hj => exact lv_tableIn (off := 746) (tgt := 779) hx hb dL_33 (by rw [hj]; decide) (by rw [hj]; decide) (by rw [hj]; rfl) (by decide) (lw_case C0 hL hS hi6 hl lc_19 (st_all hI _) hg hP hV (Nat.le_refl _) (Nat.le_refl _) next)
      | 20, _, hj => exact lv_tableIn (off := 769) (tgt := 802) hx hb dL_33 (by rw [hj]; decide) (by rw [hj]; decide) (by rw [hj]; rfl) (by decide) (lw_case C0 hL hS hi6 hl lc_20 (st_one hI _) hg hP hV (Nat.le_refl _) (Nat.le_refl _) next)
      | 21, _, hj => exact lv_tableIn (off := 792) (tgt := 825) hx hb dL_33 (by rw [hj]; decide) (by rw [hj]; decide) (by rw [hj]; rfl) (by decide) (lw_case C0 hL hS hi6 hl lc_21 (st_ill hI _) hg hP hV (Nat.le_refl _) (Nat.le_refl _) next)
      | 22, _, hj => exact lv_tableIn (off := 815) (tgt := 848) hx hb dL_33 (by rw [hj]; decide) (by rw [hj]; decide) (by rw [hj]; rfl) (by decide) (lw_case C0 hL hS hi6 hl lc_22 (st_between hI _ _) hg hP hV (Nat.le_refl _) (Nat.le_refl _) next)
      | 23, _, hj => exact lv_tableIn (off := 848) (tgt := 881) hx hb dL_33 (by rw [hj]; decide) (by rw [hj]; decide) (by rw [hj]; rfl) (by decide) (lw_case C0 hL hS hi6 hl lc_23 (st_game hI _ _) hg hP hV (Nat.le_refl _) (Nat.le_refl _) next)
      | 24, _, hj => exact lv_tableIn (off := 881) (tgt := 914) hx hb dL_33 (by rw [hj]; decide) (by rw [hj]; decide) (by rw [hj]; rfl) (by decide) (lw_case C0 hL hS hi6 hl lc_24 (st_place hI _) hg hP hV (Nat.le_refl _) (Nat.le_refl _) next)
      | 25, _, hj => exact lv_tableIn (off := 904) (tgt := 937) hx hb dL_33 (by rw [hj]; decide) (by rw [hj]; decide) (by rw [hj]; rfl) (by decide) (lw_case C0 hL hS hi6 hl lc_25 (st_turned hI _) hg hP hV (Nat.le_refl _) (Nat.le_refl _) next)
      | 26, _, hj => exact lv_tableIn (off := 927) (tgt := 960) hx hb dL_33 (by rw [hj]; decide) (by rw [hj]; decide) (by rw [hj]; rfl) (by decide) (lw_case C0 hL hS hi6 hl lc_26 (st_cases hI _) hg hP hV (Nat.le_refl _) (Nat.le_refl _) next)
      | 27, _, hj => exact lv_tableIn (off := 950) (tgt := 983) hx hb dL_33 (by rw [hj]; decide) (by rw [hj]; decide) (by rw [hj]; rfl) (by decide) (lw_case C0 hL hS hi6 hl lc_27 (st_order hI _ _) hg hP hV (Nat.le_refl _) (Nat.le_refl _) next)
      | 28, _, hj => exact lv_tableIn (off := 983) (tgt := 1016) hx hb dL_33 (by rw [hj]; decide) (by rw [hj]; decide) (by rw [hj]; rfl) (by decide) (lw_case C0 hL hS hi6 hl lc_28 (st_lots hI _) hg hP hV (Nat.le_refl _) (Nat.le_refl _) next)
      | 29, _, hj => exact lv_tableIn (off := 1006) (tgt := 1039) hx hb dL_33 (by rw [hj]; decide) (by rw [hj]; decide) (by rw [hj]; rfl) (by decide) (lw_case C0 hL hS hi6 hl lc_29 (st_seed hI _) hg hP hV (Nat.le_refl _) (Nat.le_refl _) next)
      | 30, _, hj => exact lv_tableIn (off := 1029) (tgt := 1062) hx hb dL_33 (by rw [hj]; decide) (by rw [hj]; decide) (by rw [hj]; rfl) (by decide) (lw_case C0 hL hS hi6 hl lc_30 (st_odds hI _) hg hP hV (Nat.le_refl _) (Nat.le_refl _) next)
      | 31, _, hj => exact lv_tableIn (off := 1052) (tgt := 1085) hx hb dL_33 (by rw [hj]; decide) (by rw [hj]; decide) (by rw [hj]; rfl) (by decide) (lw_case C0 hL hS hi6 hl lc_31 (st_parts hI _ _ _) hg hP hV (Nat.le_refl _) (Nat.le_refl _) next)
      | 32, _, hj => exact lv_tableIn (off := 1095) (tgt := 1128) hx hb dL_33 (by rw [hj]; decide) (by rw [hj]; decide) (by rw [hj]; rfl) (by decide) (lw_case C0 hL hS hi6 hl lc_32 (st_inn hI _ _) hg hP hV (Nat.le_refl _) (Nat.le_refl _) next)
      | 33, _, hj => exact lv_tableIn (off := 1128) (tgt := 1161) hx hb dL_33 (by rw [hj]; decide) (by rw [hj]; decide) (by rw [hj]; rfl) (by decide) (lw_case C0 hL hS hi6 hl lc_33 (st_ask hI) hg hP hV (Nat.le_refl _) (Nat.le_refl _) next)
      | 34, _, hj => exact lv_tableIn (off := 1142) (tgt := 1175) hx hb dL_33 (by rw [hj]; decide) (by rw [hj]; decide) (by rw [hj]; rfl) (by decide) (lw_case C0 hL hS hi6 hl lc_34 (st_image hI) hg hP hV (Nat.le_refl _) (Nat.le_refl _) next)
      | 35, _, hj => exact lv_tableIn (off := 1155) (tgt := 1188) hx hb dL_33 (by rw [hj]; decide) (by rw [hj]; decide) (by rw [hj]; rfl) (by decide) (lw_case C0 hL hS hi6 hl lc_35 (st_octet hI _) hg hP hV (Nat.le_refl _) (Nat.le_refl _) next)
      | 36, _, hj => exact lv_tableIn (off := 1178) (tgt := 1211) hx hb dL_33 (by rw [hj]; decide) (by rw [hj]; decide) (by rw [hj]; rfl) (by decide) (lw_case C0 hL hS hi6 hl lc_36 (st_restore hI) hg hP hV (Nat.le_refl _) (Nat.le_refl _) next)
      | 37, _, hj => exact lv_tableIn (off := 1191) (tgt := 1224) hx hb dL_33 (by rw [hj]; decide) (by rw [hj]; decide) (by rw [hj]; rfl) (by decide) (lw_case C0 hL hS hi6 hl lc_37 (st_status hI _) hg hP hV (Nat.le_refl _) (Nat.le_refl _) next)
      | j + 38, hj64, hj => exact lv_tableOut (tgt := 1247) hx hb dL_33 (Or.inr (by rw [hj]; omega)) (by decide) (next g H locs hI hP hV)
end LWL
