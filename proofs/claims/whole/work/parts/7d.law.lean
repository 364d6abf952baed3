/-! one step of the law -/
def HX (L : Nat) (v3 : Int32) : Prop := okX L (v3 + 1) = true ∧ okX L (v3 + 2) = true ∧ okX L (v3 + 3) = true ∧ okX L (v3 + 4) = true ∧ okX L (v3 + 5) = true
theorem st_count {L : Nat} {xs : Nat → Int32} {k18 : Int32 → Mem → Option Mem} {v3 : Int32} {M : Mem} (hx : HX L v3) (h : Inv M) : ∃ M1, f_law_b1313 L xs k18 v3 M = k18 (v3 + 6) M1 ∧ Inv M1 := by
  obtain ⟨x1, x2, x3, x4, x5⟩ := hx
  obtain ⟨np, nm, wo, wi, lo, ct, d, k, wh, nu, be, af, t, tp, lw, n, ro, nb, kd, rn, tr, ty, nn, el, h⟩ := h
  obtain ⟨a, f1, f2⟩ := p_count h (xs (v3 + (1 : Int32)).toNatClampNeg)
  refine ⟨M, ?_, h.inv⟩
  unfold f_law_b1313 f_law_b1336
  simp only [x1, x2, x3, x4, x5, ck_T, f1, bI_s, bd_s, f2, if_true, lc_eq]
theorem st_taken {L : Nat} {xs : Nat → Int32} {k18 : Int32 → Mem → Option Mem} {v3 : Int32} {M : Mem} (hx : HX L v3) (h : Inv M) : ∃ M1, f_law_b1280 L xs k18 v3 M = k18 (v3 + 6) M1 ∧ Inv M1 := by
  obtain ⟨x1, x2, x3, x4, x5⟩ := hx
  obtain ⟨np, nm, wo, wi, lo, ct, d, k, wh, nu, be, af, t, tp, lw, n, ro, nb, kd, rn, tr, ty, nn, el, h⟩ := h
  obtain ⟨a, f1, f2⟩ := p_taken h (xs (v3 + (1 : Int32)).toNatClampNeg) (xs (v3 + (2 : Int32)).toNatClampNeg)
  refine ⟨M, ?_, h.inv⟩
  unfold f_law_b1280 f_law_b1336
  simp only [x1, x2, x3, x4, x5, ck_T, f1, bI_s, bd_s, f2, if_true, lc_eq]
theorem st_shift {L : Nat} {xs : Nat → Int32} {k18 : Int32 → Mem → Option Mem} {v3 : Int32} {M : Mem} (hx : HX L v3) (h : Inv M) : ∃ M1, f_law_b1217 L xs k18 v3 M = k18 (v3 + 6) M1 ∧ Inv M1 := by
  obtain ⟨x1, x2, x3, x4, x5⟩ := hx
  obtain ⟨np, nm, wo, wi, lo, ct, d, k, wh, nu, be, af, t, tp, lw, n, ro, nb, kd, rn, tr, ty, nn, el, h⟩ := h
  obtain ⟨a, M1, M2, f1, f2, i2⟩ := p_shift h (xs (v3 + (1 : Int32)).toNatClampNeg) (xs (v3 + (2 : Int32)).toNatClampNeg) (xs (v3 + (3 : Int32)).toNatClampNeg) (xs (v3 + (4 : Int32)).toNatClampNeg) (xs (v3 + (5 : Int32)).toNatClampNeg)
  refine ⟨M2, ?_, i2⟩
  unfold f_law_b1217 f_law_b1336
  simp only [x1, x2, x3, x4, x5, ck_T, f1, bI_s, bd_s, f2, if_true, lc_eq]
theorem st_element {L : Nat} {xs : Nat → Int32} {k18 : Int32 → Mem → Option Mem} {v3 : Int32} {M : Mem} (hx : HX L v3) (h : Inv M) : ∃ M1, f_law_b1183 L xs k18 v3 M = k18 (v3 + 6) M1 ∧ Inv M1 := by
  obtain ⟨x1, x2, x3, x4, x5⟩ := hx
  obtain ⟨np, nm, wo, wi, lo, ct, d, k, wh, nu, be, af, t, tp, lw, n, ro, nb, kd, rn, tr, ty, nn, el, h⟩ := h
  obtain ⟨a, f1, f2⟩ := p_element h (xs (v3 + (1 : Int32)).toNatClampNeg) (xs (v3 + (2 : Int32)).toNatClampNeg)
  refine ⟨M, ?_, h.inv⟩
  unfold f_law_b1183 f_law_b1336
  simp only [x1, x2, x3, x4, x5, ck_T, f1, bI_s, bd_s, f2, if_true, lc_eq]
theorem st_put {L : Nat} {xs : Nat → Int32} {k18 : Int32 → Mem → Option Mem} {v3 : Int32} {M : Mem} (hx : HX L v3) (h : Inv M) : ∃ M1, f_law_b1110 L xs k18 v3 M = k18 (v3 + 6) M1 ∧ Inv M1 := by
  obtain ⟨x1, x2, x3, x4, x5⟩ := hx
  obtain ⟨np, nm, wo, wi, lo, ct, d, k, wh, nu, be, af, t, tp, lw, n, ro, nb, kd, rn, tr, ty, nn, el, h⟩ := h
  obtain ⟨a, M1, M2, f1, f2, i2⟩ := p_put h (xs (v3 + (1 : Int32)).toNatClampNeg) (xs (v3 + (2 : Int32)).toNatClampNeg) ((ab_lshl ((xs (v3 + (3 : Int32)).toNatClampNeg).toInt64) (32 : Int32)) ||| (((xs (v3 + (4 : Int32)).toNatClampNeg).toInt64) &&& (4294967295 : Int64)))
  refine ⟨M2, ?_, i2⟩
  unfold f_law_b1110 f_law_b1336
  simp only [x1, x2, x3, x4, x5, ck_T, f1, bI_s, bd_s, f2, if_true, lc_eq]
theorem st_row {L : Nat} {xs : Nat → Int32} {k18 : Int32 → Mem → Option Mem} {v3 : Int32} {M : Mem} (hx : HX L v3) (h : Inv M) : ∃ M1, f_law_b1067 L xs k18 v3 M = k18 (v3 + 6) M1 ∧ Inv M1 := by
  obtain ⟨x1, x2, x3, x4, x5⟩ := hx
  obtain ⟨np, nm, wo, wi, lo, ct, d, k, wh, nu, be, af, t, tp, lw, n, ro, nb, kd, rn, tr, ty, nn, el, h⟩ := h
  obtain ⟨a, M1, M2, f1, f2, i2⟩ := p_row h (xs (v3 + (1 : Int32)).toNatClampNeg) (xs (v3 + (2 : Int32)).toNatClampNeg) (xs (v3 + (3 : Int32)).toNatClampNeg)
  refine ⟨M2, ?_, i2⟩
  unfold f_law_b1067 f_law_b1336
  simp only [x1, x2, x3, x4, x5, ck_T, f1, bI_s, bd_s, f2, if_true, lc_eq]
theorem st_keep {L : Nat} {xs : Nat → Int32} {k18 : Int32 → Mem → Option Mem} {v3 : Int32} {M : Mem} (hx : HX L v3) (h : Inv M) : ∃ M1, f_law_b1034 L xs k18 v3 M = k18 (v3 + 6) M1 ∧ Inv M1 := by
  obtain ⟨x1, x2, x3, x4, x5⟩ := hx
  obtain ⟨np, nm, wo, wi, lo, ct, d, k, wh, nu, be, af, t, tp, lw, n, ro, nb, kd, rn, tr, ty, nn, el, h⟩ := h
  obtain ⟨a, M1, M2, f1, f2, i2⟩ := p_keep h (xs (v3 + (1 : Int32)).toNatClampNeg) (xs (v3 + (2 : Int32)).toNatClampNeg)
  refine ⟨M2, ?_, i2⟩
  unfold f_law_b1034 f_law_b1336
  simp only [x1, x2, x3, x4, x5, ck_T, f1, bI_s, bd_s, f2, if_true, lc_eq]
theorem st_trace {L : Nat} {xs : Nat → Int32} {k18 : Int32 → Mem → Option Mem} {v3 : Int32} {M : Mem} (hx : HX L v3) (h : Inv M) : ∃ M1, f_law_b1011 L xs k18 v3 M = k18 (v3 + 6) M1 ∧ Inv M1 := by
  obtain ⟨x1, x2, x3, x4, x5⟩ := hx
  obtain ⟨np, nm, wo, wi, lo, ct, d, k, wh, nu, be, af, t, tp, lw, n, ro, nb, kd, rn, tr, ty, nn, el, h⟩ := h
  obtain ⟨a, f1, f2⟩ := p_trace h (xs (v3 + (1 : Int32)).toNatClampNeg)
  refine ⟨M, ?_, h.inv⟩
  unfold f_law_b1011 f_law_b1336
  simp only [x1, x2, x3, x4, x5, ck_T, f1, bI_s, bd_s, f2, if_true, lc_eq]
theorem st_act {L : Nat} {xs : Nat → Int32} {k18 : Int32 → Mem → Option Mem} {v3 : Int32} {M : Mem} (hx : HX L v3) (h : Inv M) : ∃ M1, f_law_b968 L xs k18 v3 M = k18 (v3 + 6) M1 ∧ Inv M1 := by
  obtain ⟨x1, x2, x3, x4, x5⟩ := hx
  obtain ⟨np, nm, wo, wi, lo, ct, d, k, wh, nu, be, af, t, tp, lw, n, ro, nb, kd, rn, tr, ty, nn, el, h⟩ := h
  obtain ⟨a, M1, M2, f1, f2, i2⟩ := p_act h (xs (v3 + (1 : Int32)).toNatClampNeg) (xs (v3 + (2 : Int32)).toNatClampNeg) (xs (v3 + (3 : Int32)).toNatClampNeg)
  refine ⟨M2, ?_, i2⟩
  unfold f_law_b968 f_law_b1336
  simp only [x1, x2, x3, x4, x5, ck_T, f1, bI_s, bd_s, f2, if_true, lc_eq]
theorem st_body {L : Nat} {xs : Nat → Int32} {k18 : Int32 → Mem → Option Mem} {v3 : Int32} {M : Mem} (hx : HX L v3) (h : Inv M) : ∃ M1, f_law_b945 L xs k18 v3 M = k18 (v3 + 6) M1 ∧ Inv M1 := by
  obtain ⟨x1, x2, x3, x4, x5⟩ := hx
  obtain ⟨np, nm, wo, wi, lo, ct, d, k, wh, nu, be, af, t, tp, lw, n, ro, nb, kd, rn, tr, ty, nn, el, h⟩ := h
  obtain ⟨a, M1, M2, f1, f2, i2⟩ := p_body h (xs (v3 + (1 : Int32)).toNatClampNeg)
  refine ⟨M2, ?_, i2⟩
  unfold f_law_b945 f_law_b1336
  simp only [x1, x2, x3, x4, x5, ck_T, f1, bI_s, bd_s, f2, if_true, lc_eq]
theorem st_redo {L : Nat} {xs : Nat → Int32} {k18 : Int32 → Mem → Option Mem} {v3 : Int32} {M : Mem} (hx : HX L v3) (h : Inv M) : ∃ M1, f_law_b932 L xs k18 v3 M = k18 (v3 + 6) M1 ∧ Inv M1 := by
  obtain ⟨x1, x2, x3, x4, x5⟩ := hx
  obtain ⟨np, nm, wo, wi, lo, ct, d, k, wh, nu, be, af, t, tp, lw, n, ro, nb, kd, rn, tr, ty, nn, el, h⟩ := h
  obtain ⟨a, M1, M2, f1, f2, i2⟩ := p_redo h
  refine ⟨M2, ?_, i2⟩
  unfold f_law_b932 f_law_b1336
  simp only [x1, x2, x3, x4, x5, ck_T, f1, bI_s, bd_s, f2, if_true, lc_eq]
theorem st_undo {L : Nat} {xs : Nat → Int32} {k18 : Int32 → Mem → Option Mem} {v3 : Int32} {M : Mem} (hx : HX L v3) (h : Inv M) : ∃ M1, f_law_b919 L xs k18 v3 M = k18 (v3 + 6) M1 ∧ Inv M1 := by
  obtain ⟨x1, x2, x3, x4, x5⟩ := hx
  obtain ⟨np, nm, wo, wi, lo, ct, d, k, wh, nu, be, af, t, tp, lw, n, ro, nb, kd, rn, tr, ty, nn, el, h⟩ := h
  obtain ⟨a, M1, M2, f1, f2, i2⟩ := p_undo h
  refine ⟨M2, ?_, i2⟩
  unfold f_law_b919 f_law_b1336
  simp only [x1, x2, x3, x4, x5, ck_T, f1, bI_s, bd_s, f2, if_true, lc_eq]
theorem st_days {L : Nat} {xs : Nat → Int32} {k18 : Int32 → Mem → Option Mem} {v3 : Int32} {M : Mem} (hx : HX L v3) (h : Inv M) : ∃ M1, f_law_b886 L xs k18 v3 M = k18 (v3 + 6) M1 ∧ Inv M1 := by
  obtain ⟨x1, x2, x3, x4, x5⟩ := hx
  obtain ⟨np, nm, wo, wi, lo, ct, d, k, wh, nu, be, af, t, tp, lw, n, ro, nb, kd, rn, tr, ty, nn, el, h⟩ := h
  obtain ⟨a, M1, M2, f1, f2, i2⟩ := p_days h (xs (v3 + (1 : Int32)).toNatClampNeg) (xs (v3 + (2 : Int32)).toNatClampNeg)
  refine ⟨M2, ?_, i2⟩
  unfold f_law_b886 f_law_b1336
  simp only [x1, x2, x3, x4, x5, ck_T, f1, bI_s, bd_s, f2, if_true, lc_eq]
theorem st_table {L : Nat} {xs : Nat → Int32} {k18 : Int32 → Mem → Option Mem} {v3 : Int32} {M : Mem} (hx : HX L v3) (h : Inv M) : ∃ M1, f_law_b853 L xs k18 v3 M = k18 (v3 + 6) M1 ∧ Inv M1 := by
  obtain ⟨x1, x2, x3, x4, x5⟩ := hx
  obtain ⟨np, nm, wo, wi, lo, ct, d, k, wh, nu, be, af, t, tp, lw, n, ro, nb, kd, rn, tr, ty, nn, el, h⟩ := h
  obtain ⟨a, M1, f1, f2, i2⟩ := p_table h (xs (v3 + (1 : Int32)).toNatClampNeg) (xs (v3 + (2 : Int32)).toNatClampNeg)
  refine ⟨M1, ?_, i2⟩
  unfold f_law_b853 f_law_b1336
  simp only [x1, x2, x3, x4, x5, ck_T, f1, bI_s, bd_s, f2, if_true, lc_eq]
theorem st_champion {L : Nat} {xs : Nat → Int32} {k18 : Int32 → Mem → Option Mem} {v3 : Int32} {M : Mem} (hx : HX L v3) (h : Inv M) : ∃ M1, f_law_b830 L xs k18 v3 M = k18 (v3 + 6) M1 ∧ Inv M1 := by
  obtain ⟨x1, x2, x3, x4, x5⟩ := hx
  obtain ⟨np, nm, wo, wi, lo, ct, d, k, wh, nu, be, af, t, tp, lw, n, ro, nb, kd, rn, tr, ty, nn, el, h⟩ := h
  obtain ⟨a, M1, M2, f1, f2, i2⟩ := p_champion h (xs (v3 + (1 : Int32)).toNatClampNeg)
  refine ⟨M2, ?_, i2⟩
  unfold f_law_b830 f_law_b1336
  simp only [x1, x2, x3, x4, x5, ck_T, f1, bI_s, bd_s, f2, if_true, lc_eq]
theorem st_lots {L : Nat} {xs : Nat → Int32} {k18 : Int32 → Mem → Option Mem} {v3 : Int32} {M : Mem} (hx : HX L v3) (h : Inv M) : ∃ M1, f_law_b787 L xs k18 v3 M = k18 (v3 + 6) M1 ∧ Inv M1 := by
  obtain ⟨x1, x2, x3, x4, x5⟩ := hx
  obtain ⟨np, nm, wo, wi, lo, ct, d, k, wh, nu, be, af, t, tp, lw, n, ro, nb, kd, rn, tr, ty, nn, el, h⟩ := h
  obtain ⟨a, M1, M2, f1, f2, i2⟩ := p_lots h (xs (v3 + (1 : Int32)).toNatClampNeg) (xs (v3 + (2 : Int32)).toNatClampNeg) (xs (v3 + (3 : Int32)).toNatClampNeg)
  refine ⟨M2, ?_, i2⟩
  unfold f_law_b787 f_law_b1336
  simp only [x1, x2, x3, x4, x5, ck_T, f1, bI_s, bd_s, f2, if_true, lc_eq]
theorem st_friend {L : Nat} {xs : Nat → Int32} {k18 : Int32 → Mem → Option Mem} {v3 : Int32} {M : Mem} (hx : HX L v3) (h : Inv M) : ∃ M1, f_law_b764 L xs k18 v3 M = k18 (v3 + 6) M1 ∧ Inv M1 := by
  obtain ⟨x1, x2, x3, x4, x5⟩ := hx
  obtain ⟨np, nm, wo, wi, lo, ct, d, k, wh, nu, be, af, t, tp, lw, n, ro, nb, kd, rn, tr, ty, nn, el, h⟩ := h
  obtain ⟨a, M1, M2, f1, f2, i2⟩ := p_friend h (xs (v3 + (1 : Int32)).toNatClampNeg)
  refine ⟨M2, ?_, i2⟩
  unfold f_law_b764 f_law_b1336
  simp only [x1, x2, x3, x4, x5, ck_T, f1, bI_s, bd_s, f2, if_true, lc_eq]
theorem st_likely {L : Nat} {xs : Nat → Int32} {k18 : Int32 → Mem → Option Mem} {v3 : Int32} {M : Mem} (hx : HX L v3) (h : Inv M) : ∃ M1, f_law_b720 L xs k18 v3 M = k18 (v3 + 6) M1 ∧ Inv M1 := by
  obtain ⟨x1, x2, x3, x4, x5⟩ := hx
  obtain ⟨np, nm, wo, wi, lo, ct, d, k, wh, nu, be, af, t, tp, lw, n, ro, nb, kd, rn, tr, ty, nn, el, h⟩ := h
  obtain ⟨a, M1, M2, f1, f2, i2⟩ := p_likely h (xs (v3 + (1 : Int32)).toNatClampNeg) (xs (v3 + (2 : Int32)).toNatClampNeg) (xs (v3 + (3 : Int32)).toNatClampNeg)
  refine ⟨M2, ?_, i2⟩
  unfold f_law_b720 f_law_b1336
  simp only [x1, x2, x3, x4, x5, ck_T, f1, bI_s, bd_s, f2, if_true, lc_eq]
theorem st_cup {L : Nat} {xs : Nat → Int32} {k18 : Int32 → Mem → Option Mem} {v3 : Int32} {M : Mem} (hx : HX L v3) (h : Inv M) : ∃ M1, f_law_b697 L xs k18 v3 M = k18 (v3 + 6) M1 ∧ Inv M1 := by
  obtain ⟨x1, x2, x3, x4, x5⟩ := hx
  obtain ⟨np, nm, wo, wi, lo, ct, d, k, wh, nu, be, af, t, tp, lw, n, ro, nb, kd, rn, tr, ty, nn, el, h⟩ := h
  obtain ⟨a, M1, M2, f1, f2, i2⟩ := p_cup h (xs (v3 + (1 : Int32)).toNatClampNeg)
  refine ⟨M2, ?_, i2⟩
  unfold f_law_b697 f_law_b1336
  simp only [x1, x2, x3, x4, x5, ck_T, f1, bI_s, bd_s, f2, if_true, lc_eq]
theorem st_chance {L : Nat} {xs : Nat → Int32} {k18 : Int32 → Mem → Option Mem} {v3 : Int32} {M : Mem} (hx : HX L v3) (h : Inv M) : ∃ M1, f_law_b664 L xs k18 v3 M = k18 (v3 + 6) M1 ∧ Inv M1 := by
  obtain ⟨x1, x2, x3, x4, x5⟩ := hx
  obtain ⟨np, nm, wo, wi, lo, ct, d, k, wh, nu, be, af, t, tp, lw, n, ro, nb, kd, rn, tr, ty, nn, el, h⟩ := h
  obtain ⟨a, M1, M2, f1, f2, i2⟩ := p_chance h (xs (v3 + (1 : Int32)).toNatClampNeg) (xs (v3 + (2 : Int32)).toNatClampNeg)
  refine ⟨M2, ?_, i2⟩
  unfold f_law_b664 f_law_b1336
  simp only [x1, x2, x3, x4, x5, ck_T, f1, bI_s, bd_s, f2, if_true, lc_eq]
theorem st_longest {L : Nat} {xs : Nat → Int32} {k18 : Int32 → Mem → Option Mem} {v3 : Int32} {M : Mem} (hx : HX L v3) (h : Inv M) : ∃ M1, f_law_b641 L xs k18 v3 M = k18 (v3 + 6) M1 ∧ Inv M1 := by
  obtain ⟨x1, x2, x3, x4, x5⟩ := hx
  obtain ⟨np, nm, wo, wi, lo, ct, d, k, wh, nu, be, af, t, tp, lw, n, ro, nb, kd, rn, tr, ty, nn, el, h⟩ := h
  obtain ⟨a, M1, M2, f1, f2, i2⟩ := p_longest h (xs (v3 + (1 : Int32)).toNatClampNeg)
  refine ⟨M2, ?_, i2⟩
  unfold f_law_b641 f_law_b1336
  simp only [x1, x2, x3, x4, x5, ck_T, f1, bI_s, bd_s, f2, if_true, lc_eq]
theorem st_next {L : Nat} {xs : Nat → Int32} {k18 : Int32 → Mem → Option Mem} {v3 : Int32} {M : Mem} (hx : HX L v3) (h : Inv M) : ∃ M1, f_law_b608 L xs k18 v3 M = k18 (v3 + 6) M1 ∧ Inv M1 := by
  obtain ⟨x1, x2, x3, x4, x5⟩ := hx
  obtain ⟨np, nm, wo, wi, lo, ct, d, k, wh, nu, be, af, t, tp, lw, n, ro, nb, kd, rn, tr, ty, nn, el, h⟩ := h
  obtain ⟨a, M1, M2, f1, f2, i2⟩ := p_next h (xs (v3 + (1 : Int32)).toNatClampNeg) (xs (v3 + (2 : Int32)).toNatClampNeg)
  refine ⟨M2, ?_, i2⟩
  unfold f_law_b608 f_law_b1336
  simp only [x1, x2, x3, x4, x5, ck_T, f1, bI_s, bd_s, f2, if_true, lc_eq]
theorem st_mean {L : Nat} {xs : Nat → Int32} {k18 : Int32 → Mem → Option Mem} {v3 : Int32} {M : Mem} (hx : HX L v3) (h : Inv M) : ∃ M1, f_law_b575 L xs k18 v3 M = k18 (v3 + 6) M1 ∧ Inv M1 := by
  obtain ⟨x1, x2, x3, x4, x5⟩ := hx
  obtain ⟨np, nm, wo, wi, lo, ct, d, k, wh, nu, be, af, t, tp, lw, n, ro, nb, kd, rn, tr, ty, nn, el, h⟩ := h
  obtain ⟨a, M1, M2, f1, f2, i2⟩ := p_mean h (xs (v3 + (1 : Int32)).toNatClampNeg) (xs (v3 + (2 : Int32)).toNatClampNeg)
  refine ⟨M2, ?_, i2⟩
  unfold f_law_b575 f_law_b1336
  simp only [x1, x2, x3, x4, x5, ck_T, f1, bI_s, bd_s, f2, if_true, lc_eq]
theorem st_worst {L : Nat} {xs : Nat → Int32} {k18 : Int32 → Mem → Option Mem} {v3 : Int32} {M : Mem} (hx : HX L v3) (h : Inv M) : ∃ M1, f_law_b552 L xs k18 v3 M = k18 (v3 + 6) M1 ∧ Inv M1 := by
  obtain ⟨x1, x2, x3, x4, x5⟩ := hx
  obtain ⟨np, nm, wo, wi, lo, ct, d, k, wh, nu, be, af, t, tp, lw, n, ro, nb, kd, rn, tr, ty, nn, el, h⟩ := h
  obtain ⟨a, M1, M2, f1, f2, i2⟩ := p_worst h (xs (v3 + (1 : Int32)).toNatClampNeg)
  refine ⟨M2, ?_, i2⟩
  unfold f_law_b552 f_law_b1336
  simp only [x1, x2, x3, x4, x5, ck_T, f1, bI_s, bd_s, f2, if_true, lc_eq]
theorem st_proof {L : Nat} {xs : Nat → Int32} {k18 : Int32 → Mem → Option Mem} {v3 : Int32} {M : Mem} (hx : HX L v3) (h : Inv M) : ∃ M1, f_law_b529 L xs k18 v3 M = k18 (v3 + 6) M1 ∧ Inv M1 := by
  obtain ⟨x1, x2, x3, x4, x5⟩ := hx
  obtain ⟨np, nm, wo, wi, lo, ct, d, k, wh, nu, be, af, t, tp, lw, n, ro, nb, kd, rn, tr, ty, nn, el, h⟩ := h
  obtain ⟨a, M1, M2, f1, f2, i2⟩ := p_proof h (xs (v3 + (1 : Int32)).toNatClampNeg)
  refine ⟨M2, ?_, i2⟩
  unfold f_law_b529 f_law_b1336
  simp only [x1, x2, x3, x4, x5, ck_T, f1, bI_s, bd_s, f2, if_true, lc_eq]
theorem st_ask {L : Nat} {xs : Nat → Int32} {k18 : Int32 → Mem → Option Mem} {v3 : Int32} {M : Mem} (hx : HX L v3) (h : Inv M) : ∃ M1, f_law_b496 L xs k18 v3 M = k18 (v3 + 6) M1 ∧ Inv M1 := by
  obtain ⟨x1, x2, x3, x4, x5⟩ := hx
  obtain ⟨np, nm, wo, wi, lo, ct, d, k, wh, nu, be, af, t, tp, lw, n, ro, nb, kd, rn, tr, ty, nn, el, h⟩ := h
  obtain ⟨a, M1, M2, f1, f2, i2⟩ := p_ask h (xs (v3 + (1 : Int32)).toNatClampNeg) (xs (v3 + (2 : Int32)).toNatClampNeg)
  refine ⟨M2, ?_, i2⟩
  unfold f_law_b496 f_law_b1336
  simp only [x1, x2, x3, x4, x5, ck_T, f1, bI_s, bd_s, f2, if_true, lc_eq]
theorem st_wrong {L : Nat} {xs : Nat → Int32} {k18 : Int32 → Mem → Option Mem} {v3 : Int32} {M : Mem} (hx : HX L v3) (h : Inv M) : ∃ M1, f_law_b483 L xs k18 v3 M = k18 (v3 + 6) M1 ∧ Inv M1 := by
  obtain ⟨x1, x2, x3, x4, x5⟩ := hx
  obtain ⟨np, nm, wo, wi, lo, ct, d, k, wh, nu, be, af, t, tp, lw, n, ro, nb, kd, rn, tr, ty, nn, el, h⟩ := h
  obtain ⟨a, M1, M2, f1, f2, i2⟩ := p_wrong h
  refine ⟨M2, ?_, i2⟩
  unfold f_law_b483 f_law_b1336
  simp only [x1, x2, x3, x4, x5, ck_T, f1, bI_s, bd_s, f2, if_true, lc_eq]
theorem st_clash {L : Nat} {xs : Nat → Int32} {k18 : Int32 → Mem → Option Mem} {v3 : Int32} {M : Mem} (hx : HX L v3) (h : Inv M) : ∃ M1, f_law_b470 L xs k18 v3 M = k18 (v3 + 6) M1 ∧ Inv M1 := by
  obtain ⟨x1, x2, x3, x4, x5⟩ := hx
  obtain ⟨np, nm, wo, wi, lo, ct, d, k, wh, nu, be, af, t, tp, lw, n, ro, nb, kd, rn, tr, ty, nn, el, h⟩ := h
  obtain ⟨a, M1, M2, f1, f2, i2⟩ := p_clash h
  refine ⟨M2, ?_, i2⟩
  unfold f_law_b470 f_law_b1336
  simp only [x1, x2, x3, x4, x5, ck_T, f1, bI_s, bd_s, f2, if_true, lc_eq]
theorem st_places {L : Nat} {xs : Nat → Int32} {k18 : Int32 → Mem → Option Mem} {v3 : Int32} {M : Mem} (hx : HX L v3) (h : Inv M) : ∃ M1, f_law_b447 L xs k18 v3 M = k18 (v3 + 6) M1 ∧ Inv M1 := by
  obtain ⟨x1, x2, x3, x4, x5⟩ := hx
  obtain ⟨np, nm, wo, wi, lo, ct, d, k, wh, nu, be, af, t, tp, lw, n, ro, nb, kd, rn, tr, ty, nn, el, h⟩ := h
  obtain ⟨a, M1, M2, f1, f2, i2⟩ := p_places h (xs (v3 + (1 : Int32)).toNatClampNeg)
  refine ⟨M2, ?_, i2⟩
  unfold f_law_b447 f_law_b1336
  simp only [x1, x2, x3, x4, x5, ck_T, f1, bI_s, bd_s, f2, if_true, lc_eq]
theorem st_sure {L : Nat} {xs : Nat → Int32} {k18 : Int32 → Mem → Option Mem} {v3 : Int32} {M : Mem} (hx : HX L v3) (h : Inv M) : ∃ M1, f_law_b424 L xs k18 v3 M = k18 (v3 + 6) M1 ∧ Inv M1 := by
  obtain ⟨x1, x2, x3, x4, x5⟩ := hx
  obtain ⟨np, nm, wo, wi, lo, ct, d, k, wh, nu, be, af, t, tp, lw, n, ro, nb, kd, rn, tr, ty, nn, el, h⟩ := h
  obtain ⟨a, M1, M2, f1, f2, i2⟩ := p_sure h (xs (v3 + (1 : Int32)).toNatClampNeg)
  refine ⟨M2, ?_, i2⟩
  unfold f_law_b424 f_law_b1336
  simp only [x1, x2, x3, x4, x5, ck_T, f1, bI_s, bd_s, f2, if_true, lc_eq]
theorem st_orders {L : Nat} {xs : Nat → Int32} {k18 : Int32 → Mem → Option Mem} {v3 : Int32} {M : Mem} (hx : HX L v3) (h : Inv M) : ∃ M1, f_law_b401 L xs k18 v3 M = k18 (v3 + 6) M1 ∧ Inv M1 := by
  obtain ⟨x1, x2, x3, x4, x5⟩ := hx
  obtain ⟨np, nm, wo, wi, lo, ct, d, k, wh, nu, be, af, t, tp, lw, n, ro, nb, kd, rn, tr, ty, nn, el, h⟩ := h
  obtain ⟨a, M1, M2, f1, f2, i2⟩ := p_orders h (xs (v3 + (1 : Int32)).toNatClampNeg)
  refine ⟨M2, ?_, i2⟩
  unfold f_law_b401 f_law_b1336
  simp only [x1, x2, x3, x4, x5, ck_T, f1, bI_s, bd_s, f2, if_true, lc_eq]
theorem st_law {L : Nat} {xs : Nat → Int32} {k18 : Int32 → Mem → Option Mem} {v3 : Int32} {M : Mem} (hx : HX L v3) (h : Inv M) : ∃ M1, f_law_b388 L xs k18 v3 M = k18 (v3 + 6) M1 ∧ Inv M1 := by
  obtain ⟨x1, x2, x3, x4, x5⟩ := hx
  obtain ⟨np, nm, wo, wi, lo, ct, d, k, wh, nu, be, af, t, tp, lw, n, ro, nb, kd, rn, tr, ty, nn, el, h⟩ := h
  obtain ⟨a, M1, M2, f1, f2, i2⟩ := p_law h
  refine ⟨M2, ?_, i2⟩
  unfold f_law_b388 f_law_b1336
  simp only [x1, x2, x3, x4, x5, ck_T, f1, bI_s, bd_s, f2, if_true, lc_eq]
theorem st_feed {L : Nat} {xs : Nat → Int32} {k18 : Int32 → Mem → Option Mem} {v3 : Int32} {M : Mem} (hx : HX L v3) (h : Inv M) : ∃ M1, f_law_b365 L xs k18 v3 M = k18 (v3 + 6) M1 ∧ Inv M1 := by
  obtain ⟨x1, x2, x3, x4, x5⟩ := hx
  obtain ⟨np, nm, wo, wi, lo, ct, d, k, wh, nu, be, af, t, tp, lw, n, ro, nb, kd, rn, tr, ty, nn, el, h⟩ := h
  obtain ⟨a, M1, M2, f1, f2, i2⟩ := p_feed h (xs (v3 + (1 : Int32)).toNatClampNeg)
  refine ⟨M2, ?_, i2⟩
  unfold f_law_b365 f_law_b1336
  simp only [x1, x2, x3, x4, x5, ck_T, f1, bI_s, bd_s, f2, if_true, lc_eq]
theorem st_of {L : Nat} {xs : Nat → Int32} {k18 : Int32 → Mem → Option Mem} {v3 : Int32} {M : Mem} (hx : HX L v3) (h : Inv M) : ∃ M1, f_law_b332 L xs k18 v3 M = k18 (v3 + 6) M1 ∧ Inv M1 := by
  obtain ⟨x1, x2, x3, x4, x5⟩ := hx
  obtain ⟨np, nm, wo, wi, lo, ct, d, k, wh, nu, be, af, t, tp, lw, n, ro, nb, kd, rn, tr, ty, nn, el, h⟩ := h
  obtain ⟨a, f1, f2⟩ := p_of h (xs (v3 + (1 : Int32)).toNatClampNeg) (xs (v3 + (2 : Int32)).toNatClampNeg)
  refine ⟨M, ?_, h.inv⟩
  unfold f_law_b332 f_law_b1336
  simp only [x1, x2, x3, x4, x5, ck_T, f1, bI_s, bd_s, f2, if_true, lc_eq]
theorem st_mend {L : Nat} {xs : Nat → Int32} {k18 : Int32 → Mem → Option Mem} {v3 : Int32} {M : Mem} (hx : HX L v3) (h : Inv M) : ∃ M1, f_law_b289 L xs k18 v3 M = k18 (v3 + 6) M1 ∧ Inv M1 := by
  obtain ⟨x1, x2, x3, x4, x5⟩ := hx
  obtain ⟨np, nm, wo, wi, lo, ct, d, k, wh, nu, be, af, t, tp, lw, n, ro, nb, kd, rn, tr, ty, nn, el, h⟩ := h
  obtain ⟨a, M1, M2, f1, f2, i2⟩ := p_mend h (xs (v3 + (1 : Int32)).toNatClampNeg) (xs (v3 + (2 : Int32)).toNatClampNeg) (xs (v3 + (3 : Int32)).toNatClampNeg)
  refine ⟨M2, ?_, i2⟩
  unfold f_law_b289 f_law_b1336
  simp only [x1, x2, x3, x4, x5, ck_T, f1, bI_s, bd_s, f2, if_true, lc_eq]
theorem st_matches {L : Nat} {xs : Nat → Int32} {k18 : Int32 → Mem → Option Mem} {v3 : Int32} {M : Mem} (hx : HX L v3) (h : Inv M) : ∃ M1, f_law_b246 L xs k18 v3 M = k18 (v3 + 6) M1 ∧ Inv M1 := by
  obtain ⟨x1, x2, x3, x4, x5⟩ := hx
  obtain ⟨np, nm, wo, wi, lo, ct, d, k, wh, nu, be, af, t, tp, lw, n, ro, nb, kd, rn, tr, ty, nn, el, h⟩ := h
  obtain ⟨a, M1, M2, f1, f2, i2⟩ := p_matches h (xs (v3 + (1 : Int32)).toNatClampNeg) (xs (v3 + (2 : Int32)).toNatClampNeg) (xs (v3 + (3 : Int32)).toNatClampNeg)
  refine ⟨M2, ?_, i2⟩
  unfold f_law_b246 f_law_b1336
  simp only [x1, x2, x3, x4, x5, ck_T, f1, bI_s, bd_s, f2, if_true, lc_eq]
theorem st_match {L : Nat} {xs : Nat → Int32} {k18 : Int32 → Mem → Option Mem} {v3 : Int32} {M : Mem} (hx : HX L v3) (h : Inv M) : ∃ M1, f_law_b223 L xs k18 v3 M = k18 (v3 + 6) M1 ∧ Inv M1 := by
  obtain ⟨x1, x2, x3, x4, x5⟩ := hx
  obtain ⟨np, nm, wo, wi, lo, ct, d, k, wh, nu, be, af, t, tp, lw, n, ro, nb, kd, rn, tr, ty, nn, el, h⟩ := h
  obtain ⟨a, M1, M2, f1, f2, i2⟩ := p_match h (xs (v3 + (1 : Int32)).toNatClampNeg)
  refine ⟨M2, ?_, i2⟩
  unfold f_law_b223 f_law_b1336
  simp only [x1, x2, x3, x4, x5, ck_T, f1, bI_s, bd_s, f2, if_true, lc_eq]
theorem st_player {L : Nat} {xs : Nat → Int32} {k18 : Int32 → Mem → Option Mem} {v3 : Int32} {M : Mem} (hx : HX L v3) (h : Inv M) : ∃ M1, f_law_b200 L xs k18 v3 M = k18 (v3 + 6) M1 ∧ Inv M1 := by
  obtain ⟨x1, x2, x3, x4, x5⟩ := hx
  obtain ⟨np, nm, wo, wi, lo, ct, d, k, wh, nu, be, af, t, tp, lw, n, ro, nb, kd, rn, tr, ty, nn, el, h⟩ := h
  obtain ⟨a, M1, M2, f1, f2, i2⟩ := p_player h (xs (v3 + (1 : Int32)).toNatClampNeg)
  refine ⟨M2, ?_, i2⟩
  unfold f_law_b200 f_law_b1336
  simp only [x1, x2, x3, x4, x5, ck_T, f1, bI_s, bd_s, f2, if_true, lc_eq]
