/-! keep, row, shift, taken -/
section SHELF2
variable {nb : Nat} {kd : Nat → Nat} {ty nn : Nat → Nat} {el : Nat → Nat → Int64} {M : Mem} {d : Nat}
def okKeep (nb : Nat) (v1 v2 : Int32) : Bool := inN 6 v1 && (decide (v2 = -1) || inN nb v2)
theorem cl_keep_x (hB : CB nb kd M) (hO : OKBo nb kd) (v1 v2 : Int32) : f_X10_keep v1 v2 M = if okKeep nb v1 v2 = true then f_X10_keep_b25 v1 v2 M else some (-1, M) := by
  unfold f_X10_keep okKeep
  rw [s_isShelf, bd_s, ite_bb, s_has hB hO, bd_s, ite_bb]
  cases inN 6 v1 <;> by_cases h : v2 = -1 <;> cases inN nb v2 <;> simp [h]
theorem mo_keep_x (hB : MB nb kd M) (hO : OKBo nb kd) (v1 v2 : Int32) : f_X11_keep v1 v2 M = if okKeep nb v1 v2 = true then f_X11_keep_b22 v1 v2 M else some (-1, M) := by
  unfold f_X11_keep okKeep
  rw [s_isShelfM, bd_s, ite_bb, s_isBody hB hO, bd_s, ite_bb]
  cases inN 6 v1 <;> by_cases h : v2 = -1 <;> cases inN nb v2 <;> simp [h]
theorem keep_c {v1 v2 : Int32} (h : okKeep nb v1 v2 = true) : ∃ d, d < 6 ∧ v1 = nI d ∧ (v2 = -1 ∨ ∃ b, b < nb ∧ v2 = nI b) := by
  simp only [okKeep, Bool.and_eq_true, Bool.or_eq_true, decide_eq_true_eq] at h
  obtain ⟨d, hd, -, rfl⟩ := inN_t h.1
  refine ⟨d, hd, rfl, h.2.imp id (fun q => ?_)⟩
  obtain ⟨b, hb, -, rfl⟩ := inN_t q
  exact ⟨b, hb, rfl⟩
theorem n_ne_m1 {b : Nat} (h : b < 1000) : ¬ nI b = -1 := fun q => by
  have := (i_eq _ _).mp q
  rw [n_toInt (by omega)] at this
  have e : (-1 : Int32).toInt = -1 := rfl
  omega
theorem cl_keep0 (hC : CS ty nn el M) (hd : d < 6) : ∃ M1, f_X10_keep_b25 (nI d) (-1) M = some (1, M1) ∧ CS (upN ty d 6) nn el M1 := by
  obtain ⟨a, b, c, e2, e3⟩ := ck6 hd
  refine ⟨wI M 44 d 6, by simp [f_X10_keep_b25, f_X9_holdNothing, a, ck_T, lt_e, e3], fun q hq => ?_⟩
  obtain ⟨g1, g2, g3⟩ := hC q hq
  by_cases e : q = d
  · subst e
    exact ⟨by simp [wI_rd, upN]; rfl, fun h => by simp [upN] at h, fun h => by simp [upN] at h⟩
  · simp only [upN, e, if_false]
    exact ⟨by simp [wI_rd, e, g1], fun h => by simp [wI_rd, g2 h], fun h i hi => g3 h i hi⟩
theorem mo_keep0 (hC : MS ty nn el M) (hd : d < 6) : ∃ M1, f_X11_keep_b22 (nI d) (-1) M = some (1, M1) ∧ MS (upN ty d 6) nn el M1 := by
  obtain ⟨a, b, c, e2, e3⟩ := ck6 hd
  refine ⟨wI (wI M 73 d (-1)) 74 d 0, by simp [f_X11_keep_b22, c, e2, ck_T, lt_e, e3], fun q hq => ?_⟩
  obtain ⟨g1, g2, g3⟩ := hC q hq
  by_cases e : q = d
  · subst e
    exact ⟨fun _ => by simp [wI_rd], fun h => by simp [upN] at h, fun h => by simp [upN] at h⟩
  · simp only [upN, e, if_false]
    exact ⟨fun h => by simp [wI_rd, e, g1 h], fun h => by simp [wI_rd, e, g2 h], fun h => ⟨by simp [wI_rd, e, (g3 h).1], by simp [wI_rd, e, (g3 h).2.1], (g3 h).2.2⟩⟩
theorem cl_keep1 (hC : CS ty nn el M) (hd : d < 6) {w : Nat} (hw : w < 50) : ∃ M1, f_X10_keep_b25 (nI d) (nI w) M = some (1, M1) ∧ CS (upN ty d 5) (upN nn d w) el M1 := by
  obtain ⟨a, b, c, e2, e3⟩ := ck6 hd
  have ne := n_ne_m1 (b := w) (by omega)
  refine ⟨wI (wI M 44 d 5) 45 d (nI w), by simp [f_X10_keep_b25, ne, f_X9_holdBody, a, b, ck_T, lt_e, e3], fun q hq => ?_⟩
  obtain ⟨g1, g2, g3⟩ := hC q hq
  by_cases e : q = d
  · subst e
    exact ⟨by simp [wI_rd, upN]; rfl, fun _ => by simp [wI_rd, upN], fun h => by simp [upN] at h⟩
  · simp only [upN, e, if_false]
    exact ⟨by simp [wI_rd, e, g1], fun h => by simp [wI_rd, e, g2 h], fun h i hi => g3 h i hi⟩
theorem mo_keep1 (hC : MS ty nn el M) (hd : d < 6) {w : Nat} (hw : w < 50) : ∃ M1, f_X11_keep_b22 (nI d) (nI w) M = some (1, M1) ∧ MS (upN ty d 5) (upN nn d w) el M1 := by
  obtain ⟨a, b, c, e2, e3⟩ := ck6 hd
  refine ⟨wI (wI M 73 d (nI w)) 74 d 0, by simp [f_X11_keep_b22, c, e2, ck_T, lt_e, e3], fun q hq => ?_⟩
  obtain ⟨g1, g2, g3⟩ := hC q hq
  by_cases e : q = d
  · subst e
    exact ⟨fun h => by simp [upN] at h, fun _ => by simp [wI_rd, upN], fun h => by simp [upN] at h⟩
  · simp only [upN, e, if_false]
    exact ⟨fun h => by simp [wI_rd, e, g1 h], fun h => by simp [wI_rd, e, g2 h], fun h => ⟨by simp [wI_rd, e, (g3 h).1], by simp [wI_rd, e, (g3 h).2.1], (g3 h).2.2⟩⟩
/-- row -/
def rowC (v1 v2 v3 : Int32) : Int32 := if inN 6 v1 = true ∧ inN 5 v2 = true ∧ v3 ≤ 60 then (if 0 ≤ v3 then 1 else -14) else -1
theorem row_in {v3 : Int32} (h1 : v3 ≤ 60) (h2 : 0 ≤ v3) : ∃ n, n ≤ 60 ∧ v3 = nI n := by
  rw [i_le] at h1 h2
  have a : (60 : Int32).toInt = 60 := rfl
  have b : (0 : Int32).toInt = 0 := rfl
  exact ⟨v3.toInt.toNat, by omega, n_of (by omega)⟩
def zeE (el : Nat → Nat → Int64) (d : Nat) : Nat → Nat → Int64 := fun a b => if a = d then 0 else el a b
theorem cl_row (hC : CS ty nn el M) (hO : OKS nb ty nn el) (v1 v2 v3 : Int32) : (rowC v1 v2 v3 ≠ 1 ∧ f_X10_row v1 v2 v3 M = some (rowC v1 v2 v3, M)) ∨ ∃ d s n M1, d < 6 ∧ s ≤ 4 ∧ n ≤ 60 ∧ v1 = nI d ∧ v2 = nI s ∧ v3 = nI n ∧ f_X10_row v1 v2 v3 M = some (1, M1) ∧ CS (upN ty d s) (upN nn d n) (zeE el d) M1 := by
  unfold f_X10_row rowC
  rw [s_isShelf, bd_s, ite_bb, s_isSort, bd_s, ite_bb]
  cases h1 : inN 6 v1
  · left; simp
  · cases h2 : inN 5 v2
    · left; simp
    · by_cases h3 : v3 ≤ 60
      · by_cases h4 : 0 ≤ v3
        · right
          obtain ⟨d, hd, -, rfl⟩ := inN_t h1
          obtain ⟨s, hs, -, rfl⟩ := inN_t h2
          obtain ⟨n, hn, rfl⟩ := row_in h3 h4
          obtain ⟨a, b, c, e2, e3⟩ := ck6 hd
          have f0 := s_fillL (M := wI (wI M 44 d (nI s)) 45 d (nI n)) (c := 46) (lo := 60 * d) (hi := 60 * d + n) (v := 0) rfl (by show 60 * d + n ≤ 360; omega) (by decide) (by omega)
          have e60 : nI d * 60 = nI (60 * d) := by have := cix d 0; rw [show nI 0 = 0 from rfl] at this; simpa using this
          refine ⟨d, s, n, _, hd, by omega, hn, rfl, rfl, rfl, by simp [h3, h4, f_X9_holdRow, a, b, ck_T, lt_e, e3, e60, n_ad, f0]; rfl, fun q hq => ?_⟩
          obtain ⟨g1, g2, g3⟩ := hC q hq
          by_cases e : q = d
          · subst e
            refine ⟨by show (wI (wI M 44 q (nI s)) 45 q (nI n)).1 44 q = _; simp [wI_rd, upN], fun _ => by show (wI (wI M 44 q (nI s)) 45 q (nI n)).1 45 q = _; simp [wI_rd, upN], fun _ i hi => ?_⟩
            simp only [upN, if_true] at hi
            rw [fiL_rd, if_pos ⟨rfl, by omega, by omega⟩]
            simp [zeE]
          · simp only [upN, e, if_false]
            refine ⟨by show (wI (wI M 44 d (nI s)) 45 d (nI n)).1 44 q = _; simp [wI_rd, e, g1], fun h => by show (wI (wI M 44 d (nI s)) 45 d (nI n)).1 45 q = _; simp [wI_rd, e, g2 h], fun h i hi => ?_⟩
            have := (hO q hq).2.2.1 h
            rw [fiL_rd, if_neg (by omega)]
            simp only [zeE, e, if_false]
            exact g3 h i hi
        · left; simp [h3, h4]
      · left; simp [h3]
theorem row_L {v : Int64} (hd : d < 6) : ∀ (r i n : Nat), i + r = 60 * d + 60 → r < n → 60 * d ≤ i → f_X11_row_L57 n (nI d) (nI i) (fiL M 75 (60 * d) i 0) = some (1, fiL M 75 (60 * d) (60 * d + 60) 0)
  | 0, i, n, h1, h2, h3 => by
    obtain ⟨n, rfl⟩ : ∃ n2, n = n2 + 1 := ⟨n - 1, by omega⟩
    have e : i = 60 * d + 60 := by omega
    subst e
    have e60 : ((60 : Int32) * nI d) + 60 = nI (60 * d + 60) := cixM d 60
    simp (disch := omega) [f_X11_row_L57, e60, n_le]
  | r + 1, i, n, h1, h2, h3 => by
    obtain ⟨n, rfl⟩ : ∃ n2, n = n2 + 1 := ⟨n - 1, by omega⟩
    have e60 : ((60 : Int32) * nI d) + 60 = nI (60 * d + 60) := cixM d 60
    have ih := row_L (v := v) hd r (i + 1) n (by omega) (by omega) (by omega)
    rw [← fiL_s M 75 (60 * d) i 0 h3] at ih
    simp (disch := omega) [f_X11_row_L57, e60, n_le, show ¬ 60 * d + 60 ≤ i by omega, okL_75, ck_T, lt_e, n_clamp, n_s1, ih]
theorem mo_row (hC : MS ty nn el M) (hO : OKS nb ty nn el) (v1 v2 v3 : Int32) : (rowC v1 v2 v3 ≠ 1 ∧ f_X11_row v1 v2 v3 M = some (rowC v1 v2 v3, M)) ∨ ∃ d s n M1, d < 6 ∧ s ≤ 4 ∧ n ≤ 60 ∧ v1 = nI d ∧ v2 = nI s ∧ v3 = nI n ∧ f_X11_row v1 v2 v3 M = some (1, M1) ∧ MS (upN ty d s) (upN nn d n) (zeE el d) M1 := by
  unfold f_X11_row rowC
  rw [s_isShelfM, bd_s, ite_bb, s_within_n 4 4 rfl, bd_s, ite_bb]
  cases h1 : inN 6 v1
  · left; simp
  · cases h2 : inN 5 v2
    · left; simp
    · by_cases h3 : v3 ≤ 60
      · by_cases h4 : 0 ≤ v3
        · right
          obtain ⟨d, hd, -, rfl⟩ := inN_t h1
          obtain ⟨s, hs, -, rfl⟩ := inN_t h2
          obtain ⟨n, hn, rfl⟩ := row_in h3 h4
          obtain ⟨a, b, c, e2, e3⟩ := ck6 hd
          have L := row_L (M := wI (wI M 73 d (nI (50 + s))) 74 d (nI n)) (v := 0) hd 60 (60 * d) FU (by omega) (by show 60 < 5000; omega) (by omega)
          rw [fiL_0] at L
          have e60 : (60 : Int32) * nI d = nI (60 * d) := pk_mul 60 d
          have e50 : (50 : Int32) + nI s = nI (50 + s) := nI_add 50 s
          refine ⟨d, s, n, _, hd, by omega, hn, rfl, rfl, rfl, by simp [h3, h4, c, e2, ck_T, lt_e, e3, e60, e50, L]; rfl, fun q hq => ?_⟩
          obtain ⟨g1, g2, g3⟩ := hC q hq
          by_cases e : q = d
          · subst e
            refine ⟨fun h => by simp [upN] at h; omega, fun h => by simp [upN] at h; omega, fun _ => ⟨by show (wI (wI M 73 q (nI (50 + s))) 74 q (nI n)).1 73 q = _; simp [wI_rd, upN], by show (wI (wI M 73 q (nI (50 + s))) 74 q (nI n)).1 74 q = _; simp [wI_rd, upN], fun i hi => ?_⟩⟩
            simp only [upN, if_true] at hi
            rw [fiL_rd, if_pos ⟨rfl, by omega, by omega⟩]
            simp [zeE]
          · simp only [upN, e, if_false]
            refine ⟨fun h => by show (wI (wI M 73 d (nI (50 + s))) 74 d (nI n)).1 73 q = _; simp [wI_rd, e, g1 h], fun h => by show (wI (wI M 73 d (nI (50 + s))) 74 d (nI n)).1 73 q = _; simp [wI_rd, e, g2 h], fun h => ⟨by show (wI (wI M 73 d (nI (50 + s))) 74 d (nI n)).1 73 q = _; simp [wI_rd, e, (g3 h).1], by show (wI (wI M 73 d (nI (50 + s))) 74 d (nI n)).1 74 q = _; simp [wI_rd, e, (g3 h).2.1], fun i hi => ?_⟩⟩
            have := (hO q hq).2.2.1 h
            rw [fiL_rd, if_neg (by omega)]
            simp only [zeE, e, if_false]
            exact (g3 h).2.2 i hi
        · left; simp [h3, h4]
      · left; simp [h3]
end SHELF2
