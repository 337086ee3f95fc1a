/-! the reference's ask: putting by, dropping -/
section
variable {c : Nat → Nat → Nat → Int32} {l : Nat → Nat → Int64} {x y : Nat} {tp : Nat → Nat} {n : Nat} {z : Tz} {s : Ts} {S C : List Nat} {m b v : Nat}
theorem QS_pop (g : QS c (v :: S) C m b) : QS (am_ui c 48 0 80 (iv (S.length : Nat))) S C m b := by
  obtain ⟨g1, g2, g3, g4, g5, g6, g7⟩ := g
  rw [List.length_cons] at g5
  refine ⟨⟨ui_self _ _ _ _, StA_fr S g1.2.2 (fun j _ => by rw [ui_nk _ _ _ _ (by omega)])⟩, ⟨?_, RowAt_fr g2.2 (ui_nk _ _ _ _ (by omega))⟩, ?_, ?_, by omega, fun w hw => g6 w (List.mem_cons_of_mem _ hw), g7⟩
  · rw [ui_ne _ _ _ _ (by omega)]; exact g2.1
  · rw [ui_ne _ _ _ _ (by omega)]; exact g3
  · rw [ui_ne _ _ _ _ (by omega)]; exact g4
theorem QS_push (g : QS c S C m b) {v : Nat} (hv : v < 100) (hl : S.length + C.length < 1600) : QS (am_ui (am_ui c 109 0 S.length (iv (v : Nat))) 48 0 80 (iv ((S.length + 1 : Nat) : Int))) (v :: S) C m b := by
  obtain ⟨g1, g2, g3, g4, g5, g6, g7⟩ := g
  refine ⟨⟨ui_self _ _ _ _, ?_, ?_⟩, ⟨?_, RowAt_fr g2.2 (by rw [ui_nk _ _ _ _ (by omega), ui_nk _ _ _ _ (by omega)])⟩, ?_, ?_, by rw [List.length_cons]; omega, ?_, g7⟩
  · rw [ui_nk _ _ _ _ (by omega), ui_self]
  · exact StA_fr S g1.2 (fun j hj => by rw [ui_nk _ _ _ _ (by omega), ui_ne _ _ _ _ (by omega)])
  · rw [ui_ne _ _ _ _ (by omega), ui_nk _ _ _ _ (by omega)]; exact g2.1
  · rw [ui_ne _ _ _ _ (by omega), ui_nk _ _ _ _ (by omega)]; exact g3
  · rw [ui_ne _ _ _ _ (by omega), ui_nk _ _ _ _ (by omega)]; exact g4
  · intro w hw
    rcases List.mem_cons.mp hw with q | q
    · rw [q]; exact hv
    · exact g6 w q
theorem e270 (g : QS c (v :: S) C m b) (d : Nat) : ∃ c2 : Nat → Nat → Nat → Int32, E (d + 2) 270 [vr 48 0] (c, l, x, y) = some (none, c2, l, x, y) ∧ QS c2 S (C ++ [v]) m b ∧ FK c c2 ∧ (∀ tp n z, RZ c tp n z → RZ c2 tp n z) := by
  have g' := QS_pop g
  obtain ⟨g1, g2, g3, g4, g5, g6, g7⟩ := g
  rw [List.length_cons] at g5
  have h80 : c 48 0 80 = iv ((S.length + 1 : Nat) : Int) := g1.1
  have h109 : c 109 0 S.length = iv (v : Nat) := g1.2.1
  have hv := g6 v (List.mem_cons_self ..)
  have h263 := e263 (c := am_ui c 48 0 80 (iv (S.length : Nat))) (l := l) (x := x) (y := y) (k := C.length) (by omega) (by rw [ui_ne _ _ _ _ (by omega)]; exact g2.1) (iv (v : Nat)) d
  have hsub : c 48 0 80 - 1 = iv (S.length : Nat) := by
    rw [h80]
    show iv ((S.length + 1 : Nat) : Int) - iv 1 = _
    rw [iv_sub, show ((S.length + 1 : Nat) : Int) - 1 = (S.length : Int) by omega]
  have hlo : ¬ (iv (S.length : Nat) < 0 ∨ 1700 ≤ (iv (S.length : Nat)).toNatClampNeg) := by
    have h0 : (iv (S.length : Nat) < 0) = ((S.length : Int) < 0) := iv_lt (b := 0) (by omega) (by omega)
    rw [h0, iv_nat (by omega)]
    omega
  refine ⟨_, ?_, QS_tell g' (by omega) (by omega), ((FK.ui _ _ _ (by omega)).tr (FK.ui _ _ _ (by omega))).tr (FK.ui _ _ _ (by omega)), fun tp n z hz => ?_⟩
  · rw [q_270, hsub, if_neg hlo, iv_nat (by omega), Int.toNat_natCast, h109, h263]
    rfl
  · exact RZ_q hz (fun j hj => by rw [ui_ne _ _ _ _ (by omega), ui_nk _ _ _ _ (by omega), ui_ne _ _ _ _ (by omega)]) (fun k hk => by rw [ui_nk _ _ _ _ (by omega), ui_nk _ _ _ _ (by omega), ui_nk _ _ _ _ (by omega)])
end
