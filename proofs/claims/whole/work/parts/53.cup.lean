/-! the cup's row -/
def CU (n : Nat) (rw : Nat → Nat) (M : Mem) : Prop := M.1 28 0 = nI n ∧ ∀ j, j < n → M.1 29 j = nI (rw j)
def MU (n : Nat) (rw : Nat → Nat) (M : Mem) : Prop := M.1 47 34 = nI n ∧ ∀ j, j < n → M.1 65 j = nI (rw j)
def OKU (np n : Nat) (rw : Nat → Nat) : Prop := n ≤ 8 ∧ (∀ j, j < n → rw j < np) ∧ ∀ i j, i < n → j < n → rw i = rw j → i = j
theorem grp_CU {n : Nat} {rw : Nat → Nat} : Grp [(28, 1), (29, 0)] (CU n rw) := by
  intro M M2 h _ hF
  exact ⟨by rw [(h 28 0 (in_f (by decide))).1]; exact hF.1, fun j hj => by rw [(h 29 j (in_a j (by decide))).1]; exact hF.2 j hj⟩
theorem grp_MU {n : Nat} {rw : Nat → Nat} : Grp [(47, 35), (65, 0)] (MU n rw) := by
  intro M M2 h _ hF
  exact ⟨by rw [(h 47 34 (in_f (by decide))).1]; exact hF.1, fun j hj => by rw [(h 65 j (in_a j (by decide))).1]; exact hF.2 j hj⟩
def fnd (rw : Nat → Nat) (v : Int32) : Nat → Nat → Option Nat
  | 0, _ => none
  | k + 1, j => if nI (rw j) = v then some j else fnd rw v k (j + 1)
def seatI : Option Nat → Int32
  | none => -1
  | some j => nI j
theorem fnd_some {rw : Nat → Nat} {v : Int32} : ∀ (k j i : Nat), fnd rw v k j = some i → j ≤ i ∧ i < j + k ∧ nI (rw i) = v
  | 0, _, _, h => by cases h
  | k + 1, j, i, h => by
    unfold fnd at h
    by_cases q : nI (rw j) = v
    · rw [if_pos q] at h; cases h; exact ⟨by omega, by omega, q⟩
    · rw [if_neg q] at h
      obtain ⟨a, b, c⟩ := fnd_some k (j + 1) i h
      exact ⟨by omega, by omega, c⟩
theorem fnd_none {rw : Nat → Nat} {v : Int32} : ∀ (k j : Nat), fnd rw v k j = none → ∀ i, j ≤ i → i < j + k → ¬ nI (rw i) = v
  | 0, _, _, _, _, _ => by omega
  | k + 1, j, h, i, h1, h2 => by
    unfold fnd at h
    by_cases q : nI (rw j) = v
    · rw [if_pos q] at h; cases h
    · rw [if_neg q] at h
      by_cases e : i = j
      · subst e; exact q
      · exact fnd_none k (j + 1) h i (by omega) (by omega)
section CUP
variable {np n : Nat} {rw : Nat → Nat} {M : Mem}
theorem s_seatOf_L (hC : CU n rw M) (hn : n ≤ 8) (v : Int32) : ∀ (k j m : Nat), j + k = n → k < m → f_X3_seatOf_28_29_L2 M m v (nI j) = some (seatI (fnd rw v k j))
  | 0, j, m, h, hm => by
    obtain ⟨m, rfl⟩ : ∃ m2, m = m2 + 1 := ⟨m - 1, by omega⟩
    rw [f_X3_seatOf_28_29_L2, hC.1, if_pos ((n_le (by omega) (by omega)).mpr (by omega))]
    rfl
  | k + 1, j, m, h, hm => by
    obtain ⟨m, rfl⟩ : ∃ m2, m = m2 + 1 := ⟨m - 1, by omega⟩
    rw [f_X3_seatOf_28_29_L2, hC.1, if_neg (by rw [n_le (by omega) (by omega)]; omega), ck_t (okI_29 (by omega)), n_clamp (by omega), hC.2 j (by omega), n_s1, s_seatOf_L hC hn v k (j + 1) m (by omega) (by omega)]
    rw [fnd]
    split <;> rfl
theorem s_seatOf (hC : CU n rw M) (hn : n ≤ 8) (v : Int32) : f_X3_seatOf_28_29 v M = some (seatI (fnd rw v n 0)) := s_seatOf_L hC hn v n 0 FU (by omega) (by unfold FU; omega)
theorem s_placeInRow_L (hC : MU n rw M) (hn : n ≤ 8) (v : Int32) : ∀ (k j m : Nat), j + k = n → k < m → f_X11_placeInRow_L2 M m v (nI j) = some (seatI (fnd rw v k j))
  | 0, j, m, h, hm => by
    obtain ⟨m, rfl⟩ : ∃ m2, m = m2 + 1 := ⟨m - 1, by omega⟩
    rw [f_X11_placeInRow_L2, hC.1, if_pos ((n_le (by omega) (by omega)).mpr (by omega))]
    rfl
  | k + 1, j, m, h, hm => by
    obtain ⟨m, rfl⟩ : ∃ m2, m = m2 + 1 := ⟨m - 1, by omega⟩
    rw [f_X11_placeInRow_L2, hC.1, if_neg (by rw [n_le (by omega) (by omega)]; omega), ck_t (okI_65 (by omega)), n_clamp (by omega), hC.2 j (by omega), n_s1, s_placeInRow_L hC hn v k (j + 1) m (by omega) (by omega)]
    rw [fnd]
    split <;> rfl
theorem s_placeInRow (hC : MU n rw M) (hn : n ≤ 8) (v : Int32) : f_X11_placeInRow v M = some (seatI (fnd rw v n 0)) := s_placeInRow_L hC hn v n 0 FU (by omega) (by unfold FU; omega)
theorem seat_neg {x : Option Nat} (h : ∀ i, x = some i → i < 8) : (seatI x < 0) = (x = none) := by
  cases x with
  | none => simp [seatI]
  | some i =>
    have := h i rfl
    have : ¬ nI i < 0 := nI_pos (by omega)
    simp [seatI, this]
theorem fnd_8 (hn : n ≤ 8) {v : Int32} : ∀ i, fnd rw v n 0 = some i → i < 8 := fun i h => by have := (fnd_some n 0 i h).2.1; omega
def inRow (n : Nat) (rw : Nat → Nat) (v : Int32) : Bool := (fnd rw v n 0).isSome
theorem s_hasC (hC : CU n rw M) (hn : n ≤ 8) (v : Int32) : f_X3_has v M = some (bb (inRow n rw v)) := by
  unfold f_X3_has inRow
  rw [s_seatOf hC hn, bd_s]
  simp only [seat_neg (fnd_8 hn)]
  cases fnd rw v n 0 <;> rfl
/-- cup: the answer and the row after it -/
def cupA (np n : Nat) (rw : Nat → Nat) (v : Int32) : Int32 := if v = -1 then 0 else if inN np v = true then (if inRow n rw v = true then -1 else if n < 8 then nI (n + 1) else -3) else -1
def cupG (np n : Nat) (rw : Nat → Nat) (v : Int32) : Bool := !(decide (v = -1)) && inN np v && !(inRow n rw v) && decide (n < 8)
def cupN (np n : Nat) (rw : Nat → Nat) (v : Int32) : Nat := if v = -1 then 0 else if cupG np n rw v = true then n + 1 else n
def cupR (np n : Nat) (rw : Nat → Nat) (v : Int32) : Nat → Nat := if cupG np n rw v = true then upN rw n v.toNatClampNeg else rw
theorem cl_cup (hC : CU n rw M) (hn : n ≤ 8) (hP : M.1 1 0 = nI np) (hp : np ≤ 8) (v : Int32) : ∃ M1, f_X10_cup v M = some (cupA np n rw v, M1) ∧ CU (cupN np n rw v) (cupR np n rw v) M1 := by
  unfold f_X10_cup cupA cupN cupR cupG
  by_cases h1 : v = -1
  · subst h1
    exact ⟨_, rfl, by simp [wI_rd]; rfl, fun j hj => by simp at hj⟩
  · simp only [h1, if_false]
    rw [s_hasPlayer hP hp, bd_s, ite_bb]
    by_cases h2 : inN np v = true
    · rw [if_pos h2, s_hasC hC hn, bd_s, ite_bb, if_pos h2]
      by_cases h3 : inRow n rw v = true
      · simp only [h3, if_true]
        exact ⟨M, rfl, by simpa using hC⟩
      · simp only [h3, if_false]
        have e : (nI n < 8) = (n < 8) := propext (n_lt (b := 8) (by omega) (by omega))
        by_cases h4 : n < 8
        · obtain ⟨p, hp2, -, rfl⟩ := inN_t h2
          refine ⟨wI (wI M 29 n (nI p)) 28 0 (nI (n + 1)), ?_, ?_⟩
          · simp (disch := omega) [f_X3_add, hC.1, e, h4, okI_29, ck_T, lt_e, n_clamp, wI_rd, n_s1, bI_s]
          · simp only [h2, h4, Bool.eq_false_iff.mpr h3, decide_true, Bool.and_true, Bool.not_false, decide_false, Bool.true_and, if_true]
            refine ⟨by simp [wI_rd], fun j hj => ?_⟩
            by_cases q : j = n
            · subst q; simp (disch := omega) [wI_rd, upN, n_clamp]
            · simp [wI_rd, upN, q, hC.2 j (by omega)]
        · refine ⟨M, by simp [f_X3_add, hC.1, e, h4, bI_s], ?_⟩
          simp [h4]; exact hC
    · rw [if_neg h2, if_neg h2]
      exact ⟨M, rfl, by simpa [h2] using hC⟩
theorem mo_cup (hC : MU n rw M) (hn : n ≤ 8) (hP : M.1 47 6 = nI np) (hp : np ≤ 8) (v : Int32) : ∃ M1, f_X11_cup v M = some (cupA np n rw v, M1) ∧ MU (cupN np n rw v) (cupR np n rw v) M1 := by
  unfold f_X11_cup cupA cupN cupR cupG
  by_cases h1 : v = -1
  · subst h1
    exact ⟨_, rfl, by simp [wI_rd]; rfl, fun j hj => by simp at hj⟩
  · simp only [h1, if_false]
    rw [s_isPlayer hP hp, bd_s, ite_bb]
    by_cases h2 : inN np v = true
    · rw [if_pos h2, s_placeInRow hC hn, bd_s, if_pos h2]
      simp only [seat_neg (fnd_8 hn)]
      by_cases h3 : inRow n rw v = true
      · have h5 : ¬ fnd rw v n 0 = none := fun q => by simp [inRow, q] at h3
        simp only [h3, h5, if_true, if_false]
        exact ⟨M, rfl, by simpa using hC⟩
      · have h5 : fnd rw v n 0 = none := by simpa [inRow] using h3
        simp only [h3, h5, if_false, if_true]
        have e : (nI n = 8) = (n = 8) := propext (n_eq (b := 8) (by omega) (by omega))
        by_cases h4 : n < 8
        · obtain ⟨p, hp2, -, rfl⟩ := inN_t h2
          refine ⟨wI (wI M 65 n (nI p)) 47 34 (nI (n + 1)), ?_, ?_⟩
          · simp (disch := omega) [hC.1, e, h4, show ¬ n = 8 by omega, okI_65, ck_T, lt_e, n_clamp, wI_rd, n_s1]
          · simp only [h2, h4, Bool.eq_false_iff.mpr h3, decide_true, Bool.and_true, Bool.not_false, decide_false, Bool.true_and, if_true]
            refine ⟨by simp [wI_rd], fun j hj => ?_⟩
            by_cases q : j = n
            · subst q; simp (disch := omega) [wI_rd, upN, n_clamp]
            · simp [wI_rd, upN, q, hC.2 j (by omega)]
        · refine ⟨M, by rw [hC.1, if_pos (e ▸ (show n = 8 by omega))]; simp [h4], ?_⟩
          simp [h4]; exact hC
    · rw [if_neg h2, if_neg h2]
      exact ⟨M, rfl, by simpa [h2] using hC⟩
theorem OKU.cup (hO : OKU np n rw) (hp : np ≤ 8) (v : Int32) : OKU np (cupN np n rw v) (cupR np n rw v) := by
  unfold cupN cupR
  by_cases h1 : v = -1
  · subst h1
    rw [if_pos rfl]
    exact ⟨by omega, fun j hj => by omega, fun i j hi => by omega⟩
  · rw [if_neg h1]
    by_cases h2 : cupG np n rw v = true
    · rw [if_pos h2, if_pos h2]
      simp only [cupG, Bool.and_eq_true, decide_eq_true_eq, Bool.not_eq_true'] at h2
      obtain ⟨⟨⟨-, h3⟩, h4⟩, h5⟩ := h2
      obtain ⟨p, hp2, hp3, rfl⟩ := inN_t h3
      rw [n_clamp hp3]
      have h6 : fnd rw (nI p) n 0 = none := by simpa [inRow] using h4
      have h7 : ∀ i, i < n → ¬ rw i = p := fun i hi q => fnd_none n 0 h6 i (by omega) (by omega) (by rw [q])
      refine ⟨by omega, fun j hj => ?_, fun i j hi hj e => ?_⟩
      · unfold upN
        by_cases q : j = n
        · rw [if_pos q]; omega
        · rw [if_neg q]; exact hO.2.1 j (by omega)
      · unfold upN at e
        by_cases q1 : i = n <;> by_cases q2 : j = n
        · omega
        · rw [if_pos q1, if_neg q2] at e; exact absurd e.symm (h7 j (by omega))
        · rw [if_neg q1, if_pos q2] at e; exact absurd e (h7 i (by omega))
        · rw [if_neg q1, if_neg q2] at e; exact hO.2.2 i j (by omega) (by omega) e
    · rw [if_neg h2, if_neg h2]
      exact hO
end CUP
