/-! of, mend, undo, redo -/
section OF
variable {np nm : Nat} {wo wi lo ct : Nat → Nat} {M : Mem}
/-- what `of` answers -/
def ofV (np nm : Nat) (wo wi lo ct : Nat → Nat) (v w : Int32) : Int32 :=
  if inN 4 w = true then (if inN np v = true then (if w = 0 then nI (wo v.toNatClampNeg) else if w = 2 then nI (wonN nm lo ct v.toNatClampNeg) else nI (wonN nm wi ct v.toNatClampNeg)) else -1)
  else if w = 10 then (if inN nm v = true then nI (wi v.toNatClampNeg) else -1)
  else if w = 11 then (if inN nm v = true then nI (lo v.toNatClampNeg) else -1)
  else if w = 12 then (if inN nm v = true then nI (ct v.toNatClampNeg) else -1)
  else -1
theorem of_cases (w : Int32) : w = 0 ∨ w = 1 ∨ w = 2 ∨ w = 3 ∨ w = 10 ∨ w = 11 ∨ w = 12 ∨ ((w < 0 ∨ 3 < w) ∧ (w < 10 ∨ 12 < w) ∧ inN 4 w = false ∧ w ≠ 10 ∧ w ≠ 11 ∧ w ≠ 12) := by
  simp only [i_eq, i_lt, inN, decide_eq_false_iff_not, ne_eq]
  have h0 : (0 : Int32).toInt = 0 := rfl
  have h1 : (1 : Int32).toInt = 1 := rfl
  have h2 : (2 : Int32).toInt = 2 := rfl
  have h3 : (3 : Int32).toInt = 3 := rfl
  have h4 : (10 : Int32).toInt = 10 := rfl
  have h5 : (11 : Int32).toInt = 11 := rfl
  have h6 : (12 : Int32).toInt = 12 := rfl
  omega
theorem cl_of (hF : CF np nm wo wi lo ct M) (hO : OKF np nm wo wi lo ct) (v w : Int32) : f_X10_of v w M = some (ofV np nm wo wi lo ct v w) := by
  have hm := hO.2.1
  have hn := hO.1
  have eP := s_hasPlayer hF.1 hO.1 v
  have eM := s_hasMatch hF.2.1 hO.2.1 v
  rcases of_cases w with rfl | rfl | rfl | rfl | rfl | rfl | rfl | ⟨h1, h2, h3, h4, h5, h6⟩
  · cases h : inN np v
    · simp [f_X10_of, f_X10_of_b24, f_X10_of_b25, f_X10_of_b53, f_X10_of_b54, eP, ite_bb, h, ofV, show inN 4 0 = true from rfl]
    · obtain ⟨j, hj, hj2, rfl⟩ := inN_t h
      simp (disch := omega) [f_X10_of, f_X10_of_b24, f_X10_of_b25, f_X10_of_b53, f_X10_of_b54, f_X10_of_b67, eP, ite_bb, h, ofV, show inN 4 0 = true from rfl, okI_2, ck_T, n_clamp, hF.2.2.1 j hj]
  · cases h : inN np v
    · simp [f_X10_of, f_X10_of_b24, f_X10_of_b25, f_X10_of_b53, f_X10_of_b54, eP, ite_bb, h, ofV, show inN 4 1 = true from rfl]
    · obtain ⟨j, hj, hj2, rfl⟩ := inN_t h
      simp (disch := omega) [f_X10_of, f_X10_of_b24, f_X10_of_b25, f_X10_of_b53, f_X10_of_b54, f_X10_of_b67, f_X10_of_b185, eP, ite_bb, h, ofV, show inN 4 1 = true from rfl, n_clamp, s_wonBy hF hO (p := j) (by omega)]
  · cases h : inN np v
    · simp [f_X10_of, f_X10_of_b24, f_X10_of_b25, f_X10_of_b53, f_X10_of_b54, eP, ite_bb, h, ofV, show inN 4 2 = true from rfl]
    · obtain ⟨j, hj, hj2, rfl⟩ := inN_t h
      simp (disch := omega) [f_X10_of, f_X10_of_b24, f_X10_of_b25, f_X10_of_b53, f_X10_of_b54, f_X10_of_b67, f_X10_of_b185, eP, ite_bb, h, ofV, show inN 4 2 = true from rfl, n_clamp, s_lostBy hF hO (p := j) (by omega)]
  · cases h : inN np v
    · simp [f_X10_of, f_X10_of_b24, f_X10_of_b25, f_X10_of_b53, f_X10_of_b54, eP, ite_bb, h, ofV, show inN 4 3 = true from rfl]
    · obtain ⟨j, hj, hj2, rfl⟩ := inN_t h
      simp (disch := omega) [f_X10_of, f_X10_of_b24, f_X10_of_b25, f_X10_of_b53, f_X10_of_b54, f_X10_of_b67, f_X10_of_b185, eP, ite_bb, h, ofV, show inN 4 3 = true from rfl, n_clamp, s_wonBy hF hO (p := j) (by omega)]
  · cases h : inN nm v
    · simp [f_X10_of, f_X10_of_b24, f_X10_of_b25, f_X10_of_b53, f_X10_of_b54, eM, ite_bb, h, ofV, show inN 4 10 = false from rfl]
    · obtain ⟨j, hj, hj2, rfl⟩ := inN_t h
      simp (disch := omega) [f_X10_of, f_X10_of_b24, f_X10_of_b25, f_X10_of_b53, f_X10_of_b54, f_X10_of_b67, eM, ite_bb, h, ofV, show inN 4 10 = false from rfl, okI_3, ck_T, n_clamp, hF.2.2.2 j hj]
  · cases h : inN nm v
    · simp [f_X10_of, f_X10_of_b24, f_X10_of_b25, f_X10_of_b53, f_X10_of_b54, eM, ite_bb, h, ofV, show inN 4 11 = false from rfl]
    · obtain ⟨j, hj, hj2, rfl⟩ := inN_t h
      simp (disch := omega) [f_X10_of, f_X10_of_b24, f_X10_of_b25, f_X10_of_b53, f_X10_of_b54, f_X10_of_b67, eM, ite_bb, h, ofV, show inN 4 11 = false from rfl, okI_4, ck_T, n_clamp, hF.2.2.2 j hj]
  · cases h : inN nm v
    · simp [f_X10_of, f_X10_of_b24, f_X10_of_b25, f_X10_of_b53, f_X10_of_b54, eM, ite_bb, h, ofV, show inN 4 12 = false from rfl]
    · obtain ⟨j, hj, hj2, rfl⟩ := inN_t h
      simp (disch := omega) [f_X10_of, f_X10_of_b24, f_X10_of_b25, f_X10_of_b53, f_X10_of_b54, f_X10_of_b67, eM, ite_bb, h, ofV, show inN 4 12 = false from rfl, okI_5, ck_T, n_clamp, hF.2.2.2 j hj]
  · rcases h1 with h1 | h1 <;> rcases h2 with h2 | h2 <;> simp [f_X10_of, f_X10_of_b24, f_X10_of_b25, f_X10_of_b53, f_X10_of_b54, h1, h2, h3, h4, h5, h6, ofV]
theorem mo_of (hF : MF np nm wo wi lo ct M) (hO : OKF np nm wo wi lo ct) (v w : Int32) : f_X11_of v w M = some (ofV np nm wo wi lo ct v w) := by
  have hm := hO.2.1
  have hn := hO.1
  have eP := s_isPlayer hF.1 hO.1 v
  have eM := s_isMatch hF.2.1 hO.2.1 v
  have w1 := s_within_n 3 3 rfl w
  have w2 := s_within w.toInt64 10 12
  rw [w_toInt] at w2
  have t1 : (10 : Int64).toInt = 10 := rfl
  have t2 : (12 : Int64).toInt = 12 := rfl
  rw [t1, t2] at w2
  unfold f_X11_of
  rw [w1, w2]
  clear w1 w2
  rcases of_cases w with rfl | rfl | rfl | rfl | rfl | rfl | rfl | ⟨h1, h2, h3, h4, h5, h6⟩
  · cases h : inN np v
    · simp [eP, ite_bb, h, ofV, show inN 4 0 = true from rfl]
    · obtain ⟨j, hj, hj2, rfl⟩ := inN_t h
      simp (disch := omega) [eP, ite_bb, h, ofV, show inN 4 0 = true from rfl, okI_48, ck_T, n_clamp, hF.2.2.1 j hj]
  · cases h : inN np v
    · simp [eP, ite_bb, h, ofV, show inN 4 1 = true from rfl]
    · obtain ⟨j, hj, hj2, rfl⟩ := inN_t h
      simp (disch := omega) [eP, ite_bb, h, ofV, show inN 4 1 = true from rfl, n_clamp, s_wonByM hF hO (p := j) (by omega)]
  · cases h : inN np v
    · simp [eP, ite_bb, h, ofV, show inN 4 2 = true from rfl]
    · obtain ⟨j, hj, hj2, rfl⟩ := inN_t h
      simp (disch := omega) [eP, ite_bb, h, ofV, show inN 4 2 = true from rfl, n_clamp, s_lostByM hF hO (p := j) (by omega)]
  · cases h : inN np v
    · simp [eP, ite_bb, h, ofV, show inN 4 3 = true from rfl]
    · obtain ⟨j, hj, hj2, rfl⟩ := inN_t h
      simp (disch := omega) [eP, ite_bb, h, ofV, show inN 4 3 = true from rfl, n_clamp, s_wonByM hF hO (p := j) (by omega)]
  · have t : (10 : Int32).toInt = 10 := rfl
    cases h : inN nm v
    · simp [t, eM, ite_bb, h, ofV, show inN 4 10 = false from rfl]
    · obtain ⟨j, hj, hj2, rfl⟩ := inN_t h
      simp (disch := omega) [t, eM, ite_bb, h, ofV, show inN 4 10 = false from rfl, okI_52, ck_T, n_clamp, hF.2.2.2 j hj]
  · have t : (11 : Int32).toInt = 11 := rfl
    cases h : inN nm v
    · simp [t, eM, ite_bb, h, ofV, show inN 4 11 = false from rfl]
    · obtain ⟨j, hj, hj2, rfl⟩ := inN_t h
      simp (disch := omega) [t, eM, ite_bb, h, ofV, show inN 4 11 = false from rfl, okI_53, ck_T, n_clamp, hF.2.2.2 j hj]
  · have t : (12 : Int32).toInt = 12 := rfl
    cases h : inN nm v
    · simp [t, eM, ite_bb, h, ofV, show inN 4 12 = false from rfl]
    · obtain ⟨j, hj, hj2, rfl⟩ := inN_t h
      have e8 : (8 : Int32) + nI j = nI (8 + j) := nI_add 8 j
      simp (disch := omega) [t, eM, ite_bb, h, ofV, show inN 4 12 = false from rfl, e8, okI_48, ck_T, n_clamp, hF.2.2.2 j hj]
  · have hx : decide (10 ≤ w.toInt ∧ w.toInt ≤ 12) = false := by
      have h7 : (10 : Int32).toInt = 10 := rfl
      have h8 : (12 : Int32).toInt = 12 := rfl
      simp only [i_lt, h7, h8] at h2
      simp only [decide_eq_false_iff_not]
      omega
    simp [hx, ite_bb, h3, h4, h5, h6, ofV, bb]
end OF
