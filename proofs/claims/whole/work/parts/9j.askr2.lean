/-! the reference's ask: opening -/
section
variable {c : Nat → Nat → Nat → Int32} {l : Nat → Nat → Int64} {x y : Nat} {tp : Nat → Nat} {n : Nat} {z : Tz} {s : Ts} {S C : List Nat} {m b v : Nat}
theorem e261_f {f : Nat × Nat} (h : RZ c tp n (s, some f)) (a p : Int32) (d : Nat) : E (d + 1) 261 [vr 48 0, vi a, vi p] (c, l, x, y) = some (none, c, l, x, y) := by
  rw [q_261, if_neg (RZ_bad h)]
theorem e261_0 (h : RZ c tp n z) (hz : z.2 = none) (g : QS c S C 0 b) {p : Nat} (hp : p ≤ 1600) (a : Int32) (d : Nat) : ∃ c2 : Nat → Nat → Nat → Int32, E (d + 2) 261 [vr 48 0, vi a, vi (iv (p : Nat))] (c, l, x, y) = some (none, c2, l, x, y) ∧ RZ c2 tp n (flZ 4 p z) ∧ FR c c2 := by
  have h0 : c 48 0 5 = 0 := by
    show c 48 0 5 = iv 0
    rw [RZ_flt h]; exact hz
  have h81 : c 48 0 81 = 6 := g.2.2.1
  obtain ⟨c2, k1, k2, k3⟩ := e152 (l := l) (x := x) (y := y) h (k := 4) (p := p) (by omega) hp d
  have k1 : E (d + 1) 152 [vr 48 0, vi 4, vi (iv (p : Nat))] (c, l, x, y) = _ := k1
  rw [q_261, if_pos h0, if_pos h81, k1]
  exact ⟨c2, rfl, k2, k3⟩
theorem QS_81 {k : Nat} (g : QS c S C (k + 1) b) : QS (am_ui c 48 0 81 (iv (6 - (k : Int)))) S C k b := by
  obtain ⟨g1, g2, g3, g4, g5, g6, g7⟩ := g
  refine ⟨⟨?_, StA_fr S g1.2 (fun j _ => by rw [ui_nk _ _ _ _ (by omega)])⟩, ⟨?_, RowAt_fr g2.2 (ui_nk _ _ _ _ (by omega))⟩, ui_self _ _ _ _, ?_, g5, g6, g7⟩
  · rw [ui_ne _ _ _ _ (by omega)]; exact g1.1
  · rw [ui_ne _ _ _ _ (by omega)]; exact g2.1
  · rw [ui_ne _ _ _ _ (by omega)]; exact g4
theorem e261_s {k : Nat} (hk : k < 6) (h : RZ c tp n z) (hz : z.2 = none) (g : QS c S C (k + 1) b) (hv : v < 100) (hl : S.length + C.length < 1600) (p : Int32) (d : Nat) : ∃ c2 : Nat → Nat → Nat → Int32, E (d + 1) 261 [vr 48 0, vi (iv (v : Nat)), vi p] (c, l, x, y) = some (none, c2, l, x, y) ∧ QS c2 (v :: S) C k b ∧ FK c c2 ∧ c2 48 0 2 = c 48 0 2 ∧ (∀ tp n z, RZ c tp n z → RZ c2 tp n z) := by
  have h0 : c 48 0 5 = 0 := by
    show c 48 0 5 = iv 0
    rw [RZ_flt h]; exact hz
  have h81 : c 48 0 81 = iv (6 - ((k + 1 : Nat) : Int)) := g.2.2.1
  have h80 : c 48 0 80 = iv (S.length : Nat) := g.1.1
  have hne : ¬ c 48 0 81 = 6 := by
    rw [h81]
    show ¬ iv (6 - ((k + 1 : Nat) : Int)) = iv 6
    rw [iv_eq (by omega) (by omega)]
    omega
  have hadd : c 48 0 81 + 1 = iv (6 - (k : Int)) := by
    rw [h81]
    show iv (6 - ((k + 1 : Nat) : Int)) + iv 1 = _
    rw [iv_add, show 6 - ((k + 1 : Nat) : Int) + 1 = 6 - (k : Int) by omega]
  have hlo : ¬ (iv (S.length : Nat) < 0 ∨ 1700 ≤ (iv (S.length : Nat)).toNatClampNeg) := by
    have h0 : (iv (S.length : Nat) < 0) = ((S.length : Int) < 0) := iv_lt (b := 0) (by omega) (by omega)
    rw [h0, iv_nat (by omega)]
    omega
  have hlen : iv (S.length : Nat) + 1 = iv ((S.length + 1 : Nat) : Int) := by
    show iv (S.length : Nat) + iv 1 = _
    rw [iv_add]
    rfl
  refine ⟨_, ?_, QS_push (QS_81 g) hv hl, ((FK.ui _ _ _ (by omega)).tr (FK.ui _ _ _ (by omega))).tr (FK.ui _ _ _ (by omega)), ?_, fun tp n z hz => ?_⟩
  · rw [q_261, if_pos h0, if_neg hne, h80, if_neg hlo, iv_nat (by omega), Int.toNat_natCast, hadd, hlen]
  · rw [ui_ne _ _ _ _ (by omega), ui_nk _ _ _ _ (by omega), ui_ne _ _ _ _ (by omega)]
  · exact RZ_q hz (fun j hj => by rw [ui_ne _ _ _ _ (by omega), ui_nk _ _ _ _ (by omega), ui_ne _ _ _ _ (by omega)]) (fun k hk => by rw [ui_nk _ _ _ _ (by omega), ui_nk _ _ _ _ (by omega), ui_nk _ _ _ _ (by omega)])
end
