/-! shelves -/
def CS (ty nn : Nat → Nat) (el : Nat → Nat → Int64) (M : Mem) : Prop := ∀ d, d < 6 → M.1 44 d = nI (ty d) ∧ (ty d ≤ 5 → M.1 45 d = nI (nn d)) ∧ (ty d ≤ 4 → ∀ i, i < nn d → M.2.1 46 (60 * d + i) = el d i)
def MS (ty nn : Nat → Nat) (el : Nat → Nat → Int64) (M : Mem) : Prop := ∀ d, d < 6 → (ty d = 6 → M.1 73 d = -1) ∧ (ty d = 5 → M.1 73 d = nI (nn d)) ∧ (ty d ≤ 4 → M.1 73 d = nI (50 + ty d) ∧ M.1 74 d = nI (nn d) ∧ ∀ i, i < nn d → M.2.1 75 (60 * d + i) = el d i)
def OKS (nb : Nat) (ty nn : Nat → Nat) (el : Nat → Nat → Int64) : Prop := ∀ d, d < 6 → ty d ≤ 6 ∧ (ty d = 5 → nn d < nb) ∧ (ty d ≤ 4 → nn d ≤ 60) ∧ (ty d = 0 → ∀ i, i < nn d → -128 ≤ (el d i).toInt ∧ (el d i).toInt < 128)
theorem grp_CS {ty nn : Nat → Nat} {el : Nat → Nat → Int64} : Grp [(44, 0), (45, 0), (46, 0)] (CS ty nn el) := by
  intro M M2 h _ hF d hd
  have r44 : ∀ k, M2.1 44 k = M.1 44 k := fun k => (h 44 k (in_a k (by decide))).1
  have r45 : ∀ k, M2.1 45 k = M.1 45 k := fun k => (h 45 k (in_a k (by decide))).1
  have r46 : ∀ k, M2.2.1 46 k = M.2.1 46 k := fun k => (h 46 k (in_a k (by decide))).2
  simp only [r44, r45, r46]
  exact hF d hd
theorem grp_MS {ty nn : Nat → Nat} {el : Nat → Nat → Int64} : Grp [(73, 0), (74, 0), (75, 0)] (MS ty nn el) := by
  intro M M2 h _ hF d hd
  have r44 : ∀ k, M2.1 73 k = M.1 73 k := fun k => (h 73 k (in_a k (by decide))).1
  have r45 : ∀ k, M2.1 74 k = M.1 74 k := fun k => (h 74 k (in_a k (by decide))).1
  have r46 : ∀ k, M2.2.1 75 k = M.2.1 75 k := fun k => (h 75 k (in_a k (by decide))).2
  simp only [r44, r45, r46]
  exact hF d hd
theorem s_isShelf (v : Int32) : f_X9_isShelf v = some (bb (inN 6 v)) := inN_x (n := 6) (by omega) v
theorem s_isShelfM (v : Int32) : f_X11_isShelf v = some (bb (inN 6 v)) := by
  rw [f_X11_isShelf, s_within_n 5 5 rfl, bd_s, ck_t (bb_ok _)]
theorem s_isSort (v : Int32) : f_X9_isSort v = some (bb (inN 5 v)) := by
  rw [← inN_x (by omega)]
  unfold f_X9_isSort
  have e : ((4 : Int32) < v) = (nI 5 ≤ v) := by
    apply propext
    rw [i_lt, i_le, n_toInt (by omega)]
    have h1 : (4 : Int32).toInt = 4 := rfl
    omega
  simp only [e]
section SHELF
variable {nb : Nat} {ty nn : Nat → Nat} {el : Nat → Nat → Int64} {M : Mem} {d : Nat}
theorem ck6 (hd : d < 6) : okI 44 (nI d) = true ∧ okI 45 (nI d) = true ∧ okI 73 (nI d) = true ∧ okI 74 (nI d) = true ∧ (nI d).toNatClampNeg = d := ⟨okI_44 hd, okI_45 hd, okI_73 hd, okI_74 hd, n_clamp (by omega)⟩
theorem s_isEmpty (hC : CS ty nn el M) (hO : OKS nb ty nn el) (hd : d < 6) : f_X9_isEmpty (nI d) M = some (bb (decide (ty d = 6))) := by
  have h := hO d hd
  have e : (nI (ty d) = 6) = (ty d = 6) := propext (n_eq (b := 6) (by omega) (by omega))
  obtain ⟨a, b, c, e2, e3⟩ := ck6 hd
  by_cases q : ty d = 6 <;> simp [f_X9_isEmpty, a, ck_T, e3, (hC d hd).1, e, q, bb] <;> rfl
theorem s_holdsBytes (hC : CS ty nn el M) (hO : OKS nb ty nn el) (hd : d < 6) : f_X9_holdsBytes (nI d) M = some (bb (decide (ty d = 0))) := by
  have h := hO d hd
  have e : (nI (ty d) = 0) = (ty d = 0) := propext (n_eq (b := 0) (by omega) (by omega))
  obtain ⟨a, b, c, e2, e3⟩ := ck6 hd
  by_cases q : ty d = 0 <;> simp [f_X9_holdsBytes, a, ck_T, e3, (hC d hd).1, e, q, bb] <;> rfl
theorem s_lengthOf (hC : CS ty nn el M) (hO : OKS nb ty nn el) (hd : d < 6) : f_X9_lengthOf (nI d) M = some (if ty d ≤ 4 then nI (nn d) else 0) := by
  have h := hO d hd
  obtain ⟨a, b, c, e2, e3⟩ := ck6 hd
  by_cases q : ty d ≤ 4
  · simp (disch := omega) [f_X9_lengthOf, a, b, ck_T, e3, (hC d hd).1, (hC d hd).2.1 (by omega), s_isSort, inN_n, show ty d < 5 by omega, q, ite_bb]
  · simp (disch := omega) [f_X9_lengthOf, a, b, ck_T, e3, (hC d hd).1, s_isSort, inN_n, show ¬ ty d < 5 by omega, q, ite_bb]
/-- why an element can't be had -/
def refV (ty nn : Nat → Nat) (v1 v2 : Int32) : Int32 := if inN 6 v1 = true then (if ty v1.toNatClampNeg = 6 then -11 else if ty v1.toNatClampNeg = 5 then -12 else if inN (nn v1.toNatClampNeg) v2 = true then 0 else -13) else -1
theorem s_refusal (hC : CS ty nn el M) (hO : OKS nb ty nn el) (v1 v2 : Int32) : f_X9_refusal v1 v2 M = some (refV ty nn v1 v2) := by
  unfold f_X9_refusal f_X9_refusal_b48 refV
  rw [s_isShelf, bd_s, ite_bb]
  by_cases h1 : inN 6 v1 = true
  · rw [if_pos h1, if_pos h1]
    obtain ⟨d, hd, -, rfl⟩ := inN_t h1
    obtain ⟨a, b, c, e2, e3⟩ := ck6 hd
    have h := hO d hd
    rw [s_isEmpty hC hO hd, bd_s, ite_bb, e3]
    by_cases q6 : ty d = 6
    · simp [q6]
    · by_cases q5 : ty d = 5
      · simp (disch := omega) [q5, a, ck_T, (hC d hd).1, s_isSort, inN_n, ite_bb]
      · have q4 : ty d ≤ 4 := by omega
        have hn := h.2.2.1 q4
        rw [s_lengthOf hC hO hd]
        simp (disch := omega) only [q6, q5, a, ck_T, (hC d hd).1, s_isSort, inN_n, show ty d < 5 by omega, ite_bb, q4, bd_s, decide_true, decide_false, if_true, if_false, Bool.false_eq_true]
        by_cases g : v2 < 0
        · rw [if_pos g, inN_f0 g]; simp
        · rw [if_neg g]
          by_cases g2 : v2 < nI (nn d)
          · rw [if_pos g2, inN_tr (by omega) g (by rw [i_le]; rw [i_lt] at g2; omega)]; simp
          · rw [if_neg g2, inN_f1 (by omega) (by rw [i_le]; rw [i_lt] at g2; omega)]; simp
  · rw [if_neg h1, if_neg h1]
theorem s_refusalM (hC : MS ty nn el M) (hO : OKS nb ty nn el) (hb : nb ≤ 50) (v1 v2 : Int32) : f_X11_refusal v1 v2 M = some (refV ty nn v1 v2) := by
  unfold f_X11_refusal refV
  rw [s_isShelfM, bd_s, ite_bb]
  by_cases h1 : inN 6 v1 = true
  · rw [if_pos h1, if_pos h1]
    obtain ⟨d, hd, -, rfl⟩ := inN_t h1
    obtain ⟨a, b, c, e2, e3⟩ := ck6 hd
    have h := hO d hd
    rw [e3]
    obtain ⟨m6, m5, m4⟩ := hC d hd
    by_cases q6 : ty d = 6
    · have n1 : ¬ (0 : Int32) ≤ -1 := by decide
      simp [q6, c, ck_T, m6 q6, n1]
    · by_cases q5 : ty d = 5
      · have hx := h.2.1 q5
        have z : (0 : Int32) ≤ nI (nn d) := nI_pos' (by omega)
        have e50 : ((50 : Int32) ≤ nI (nn d)) = (50 ≤ nn d) := propext (n_le (a := 50) (by omega) (by omega))
        simp [q5, c, ck_T, m5 q5, z, e50, show ¬ 50 ≤ nn d by omega]
      · have q4 : ty d ≤ 4 := by omega
        have hn := h.2.2.1 q4
        obtain ⟨g1, g2, g3⟩ := m4 q4
        have z : (0 : Int32) ≤ nI (50 + ty d) := nI_pos' (by omega)
        have e50 : ((50 : Int32) ≤ nI (50 + ty d)) = True := eq_true ((n_le (a := 50) (by omega) (by omega)).mpr (by omega))
        simp only [q6, q5, c, e2, ck_T, g1, g2, z, e50, if_true, if_false]
        by_cases g : v2 < 0
        · rw [if_pos g, inN_f0 g]; simp
        · rw [if_neg g]
          by_cases g2 : nI (nn d) ≤ v2
          · rw [if_pos g2, inN_f1 (by omega) g2]; simp
          · rw [if_neg g2, inN_tr (by omega) g g2]; simp
  · rw [if_neg h1, if_neg h1]
theorem ref0 {v1 v2 : Int32} (h : refV ty nn v1 v2 = 0) (hO : OKS nb ty nn el) : ∃ d i, d < 6 ∧ ty d ≤ 4 ∧ i < nn d ∧ nn d ≤ 60 ∧ v1 = nI d ∧ v2 = nI i := by
  unfold refV at h
  by_cases h1 : inN 6 v1 = true
  · rw [if_pos h1] at h
    obtain ⟨d, hd, hd2, rfl⟩ := inN_t h1
    rw [n_clamp hd2] at h
    have := hO d hd
    by_cases q6 : ty d = 6
    · rw [if_pos q6] at h; exact absurd h (by decide)
    · rw [if_neg q6] at h
      by_cases q5 : ty d = 5
      · rw [if_pos q5] at h; exact absurd h (by decide)
      · rw [if_neg q5] at h
        by_cases g : inN (nn d) v2 = true
        · obtain ⟨i, hi, -, rfl⟩ := inN_t g
          exact ⟨d, i, hd, by omega, hi, this.2.2.1 (by omega), rfl, rfl⟩
        · rw [if_neg g] at h; exact absurd h (by decide)
  · rw [if_neg h1] at h; exact absurd h (by decide)
def narV (s : Nat) (v : Int64) : Int64 := if s = 0 then v.toInt32.toInt8.toInt32.toInt64 else if s = 1 then v.toInt32.toInt16.toInt32.toInt64 else if s = 2 then v.toInt32.toInt64 else if s = 3 then v else if v = 0 then 0 else 1
theorem s_narrowed {s : Nat} (hs : s ≤ 4) (v : Int64) : f_X9_narrowed (nI s) v = some (narV s v) := by
  have : s = 0 ∨ s = 1 ∨ s = 2 ∨ s = 3 ∨ s = 4 := by omega
  unfold f_X9_narrowed narV
  simp only [lc_eq]
  rcases this with rfl | rfl | rfl | rfl | rfl
  · rfl
  · rfl
  · rfl
  · rfl
  · have e0 : ¬ nI 4 = 0 := by decide
    have e1 : ¬ nI 4 = 1 := by decide
    have e2 : ¬ nI 4 = 2 := by decide
    have e3 : ¬ nI 4 = 3 := by decide
    by_cases h : v = 0 <;> simp [e0, e1, e2, e3, h]
theorem s_asSort {s : Nat} (hs : s ≤ 4) (v : Int64) : f_X11_asSort (nI (50 + s) - 50) v = some (narV s v) := by
  have e : nI (50 + s) - 50 = nI s := by
    have := pk_sub (a := 50 + s) (b := 50) (by omega)
    rw [Nat.add_sub_cancel_left] at this
    exact this
  rw [e]
  have : s = 0 ∨ s = 1 ∨ s = 2 ∨ s = 3 ∨ s = 4 := by omega
  unfold f_X11_asSort narV
  simp only [lc_eq]
  rcases this with rfl | rfl | rfl | rfl | rfl
  · rfl
  · rfl
  · rfl
  · rfl
  · have e0 : ¬ nI 4 = 0 := by decide
    have e1 : ¬ nI 4 = 1 := by decide
    have e2 : ¬ nI 4 = 2 := by decide
    have e3 : nI 4 = 4 := by decide
    by_cases h : v = 0 <;> simp [e0, e1, e2, e3, h]
theorem nar_rng (v : Int64) : -128 ≤ (narV 0 v).toInt ∧ (narV 0 v).toInt < 128 := by
  have e : narV 0 v = v.toInt32.toInt8.toInt32.toInt64 := rfl
  rw [e, w_toInt, Int8.toInt_toInt32]
  exact ⟨Int8.le_toInt _, Int8.toInt_lt _⟩
theorem n_mu (a b : Nat) : nI a * nI b = nI (a * b) := pk_mul a b
theorem cix (d i : Nat) : (nI d * 60) + nI i = nI (60 * d + i) := by
  have : nI d * nI 60 = nI (d * 60) := pk_mul d 60
  rw [show (60 : Int32) = nI 60 from rfl, this, n_ad, Nat.mul_comm]
theorem cixM (d i : Nat) : ((60 : Int32) * nI d) + nI i = nI (60 * d + i) := by
  have : nI 60 * nI d = nI (60 * d) := pk_mul 60 d
  rw [show (60 : Int32) = nI 60 from rfl, this, n_ad]
def upE (el : Nat → Nat → Int64) (d i : Nat) (v : Int64) : Nat → Nat → Int64 := fun a b => if a = d ∧ b = i then v else el a b
theorem cl_put (hC : CS ty nn el M) (hO : OKS nb ty nn el) (v1 v2 : Int32) (v : Int64) : (refV ty nn v1 v2 ≠ 0 ∧ f_X10_put v1 v2 v M = some (refV ty nn v1 v2, M)) ∨ ∃ d i M1, d < 6 ∧ ty d ≤ 4 ∧ i < nn d ∧ v1 = nI d ∧ v2 = nI i ∧ f_X10_put v1 v2 v M = some (1, M1) ∧ CS ty nn (upE el d i (narV (ty d) v)) M1 := by
  by_cases h : refV ty nn v1 v2 = 0
  · right
    obtain ⟨d, i, hd, h4, hi, h60, rfl, rfl⟩ := ref0 h hO
    obtain ⟨a, b, c, e2, e3⟩ := ck6 hd
    refine ⟨d, i, wL M 46 (60 * d + i) (narV (ty d) v), hd, h4, hi, rfl, rfl, ?_, fun q hq => ?_⟩
    · simp (disch := omega) [f_X10_put, s_refusal hC hO, h, f_X9_setValue, a, ck_T, e3, (hC d hd).1, s_narrowed h4, cix, okL_46, lt_e, n_clamp]
    · obtain ⟨g1, g2, g3⟩ := hC q hq
      have h60q := (hO q hq).2.2.1
      refine ⟨g1, g2, fun g4 x hx => ?_⟩
      rw [wL_rd, upE]
      have := h60q g4
      by_cases e : q = d ∧ x = i
      · rw [if_pos ⟨rfl, by rw [e.1, e.2]⟩, if_pos e]
      · rw [if_neg (fun r => e (by omega)), if_neg e]; exact g3 g4 x hx
  · left
    refine ⟨h, ?_⟩
    simp [f_X10_put, s_refusal hC hO, h]
theorem mo_put (hC : MS ty nn el M) (hO : OKS nb ty nn el) (hb : nb ≤ 50) (v1 v2 : Int32) (v : Int64) : (refV ty nn v1 v2 ≠ 0 ∧ f_X11_put v1 v2 v M = some (refV ty nn v1 v2, M)) ∨ ∃ d i M1, d < 6 ∧ ty d ≤ 4 ∧ i < nn d ∧ v1 = nI d ∧ v2 = nI i ∧ f_X11_put v1 v2 v M = some (1, M1) ∧ MS ty nn (upE el d i (narV (ty d) v)) M1 := by
  by_cases h : refV ty nn v1 v2 = 0
  · right
    obtain ⟨d, i, hd, h4, hi, h60, rfl, rfl⟩ := ref0 h hO
    obtain ⟨a, b, c, e2, e3⟩ := ck6 hd
    refine ⟨d, i, wL M 75 (60 * d + i) (narV (ty d) v), hd, h4, hi, rfl, rfl, ?_, fun q hq => ?_⟩
    · simp (disch := omega) [f_X11_put, f_X11_put_b37, s_refusalM hC hO hb, h, c, ck_T, e3, ((hC d hd).2.2 h4).1, s_asSort h4, cixM, okL_75, lt_e, n_clamp]
    · obtain ⟨g1, g2, g3⟩ := hC q hq
      have h60q := (hO q hq).2.2.1
      refine ⟨g1, g2, fun g4 => ⟨(g3 g4).1, (g3 g4).2.1, fun x hx => ?_⟩⟩
      rw [wL_rd, upE]
      have := h60q g4
      by_cases e : q = d ∧ x = i
      · rw [if_pos ⟨rfl, by rw [e.1, e.2]⟩, if_pos e]
      · rw [if_neg (fun r => e (by omega)), if_neg e]; exact (g3 g4).2.2 x hx
  · left
    refine ⟨h, ?_⟩
    simp [f_X11_put, f_X11_put_b37, s_refusalM hC hO hb, h]
def eleV (ty nn : Nat → Nat) (el : Nat → Nat → Int64) (v1 v2 : Int32) : Int64 := if refV ty nn v1 v2 = 0 then el v1.toNatClampNeg v2.toNatClampNeg else -9223372036854775808
theorem cl_element (hC : CS ty nn el M) (hO : OKS nb ty nn el) (v1 v2 : Int32) : f_X10_element v1 v2 M = some (eleV ty nn el v1 v2) := by
  unfold eleV
  by_cases h : refV ty nn v1 v2 = 0
  · obtain ⟨d, i, hd, h4, hi, h60, rfl, rfl⟩ := ref0 h hO
    simp (disch := omega) [f_X10_element, s_refusal hC hO, h, f_X9_valueAt, cix, okL_46, ck_T, n_clamp, (hC d hd).2.2 h4 i hi]
  · simp [f_X10_element, s_refusal hC hO, h]
theorem mo_element (hC : MS ty nn el M) (hO : OKS nb ty nn el) (hb : nb ≤ 50) (v1 v2 : Int32) : f_X11_element v1 v2 M = some (eleV ty nn el v1 v2) := by
  unfold eleV
  by_cases h : refV ty nn v1 v2 = 0
  · obtain ⟨d, i, hd, h4, hi, h60, rfl, rfl⟩ := ref0 h hO
    simp (disch := omega) [f_X11_element, s_refusalM hC hO hb, h, cixM, okL_75, ck_T, n_clamp, ((hC d hd).2.2 h4).2.2 i hi]
  · simp [f_X11_element, s_refusalM hC hO hb, h]
end SHELF
