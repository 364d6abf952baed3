/-! the tape; bodies and the trace -/
def CT (t : Nat) (tp : Nat → Nat) (M : Mem) : Prop := M.1 22 0 = nI t ∧ ∀ j, j < t → M.1 23 j = nI (tp j)
def MT (t : Nat) (tp : Nat → Nat) (M : Mem) : Prop := M.1 47 11 = nI t ∧ ∀ j, j < t → M.1 54 j = nI (tp j)
def OKT (t : Nat) (tp : Nat → Nat) : Prop := t ≤ 120 ∧ ∀ j, j < t → tp j ≤ 255
theorem grp_CT {t : Nat} {tp : Nat → Nat} : Grp [(22, 1), (23, 0)] (CT t tp) := by
  intro M M2 h _ hF
  exact ⟨by rw [(h 22 0 (in_f (by decide))).1]; exact hF.1, fun j hj => by rw [(h 23 j (in_a j (by decide))).1]; exact hF.2 j hj⟩
theorem grp_MT {t : Nat} {tp : Nat → Nat} : Grp [(47, 12), (54, 0)] (MT t tp) := by
  intro M M2 h _ hF
  exact ⟨by rw [(h 47 11 (in_f (by decide))).1]; exact hF.1, fun j hj => by rw [(h 54 j (in_a j (by decide))).1]; exact hF.2 j hj⟩
section TAPE
variable {t : Nat} {tp : Nat → Nat} {M : Mem}
theorem feed_c (v : Int32) : inN 256 v = true ∨ (inN 256 v = false ∧ (v < 0 ∨ ¬ v ≤ 255)) := by
  have h0 : (0 : Int32).toInt = 0 := rfl
  have h1 : (255 : Int32).toInt = 255 := rfl
  simp only [inN, decide_eq_true_eq, decide_eq_false_iff_not, i_lt, i_le, h0, h1]
  omega
theorem cl_feed_bad {v : Int32} (h : inN 256 v = false) : f_X10_feed v M = some (-1, M) := by
  rcases feed_c v with q | ⟨-, q⟩
  · rw [q] at h; cases h
  · unfold f_X10_feed
    rcases q with q | q
    · simp [q]
    · by_cases q2 : v < 0 <;> simp [q, q2]
theorem mo_feed_bad {v : Int32} (h : inN 256 v = false) : f_X11_feed v M = some (-1, M) := by
  simp [f_X11_feed, s_within_n 255 255 rfl, h, ite_bb]
theorem feed_in {x : Nat} (hx : x ≤ 255) : ¬ nI x < 0 ∧ nI x ≤ 255 := ⟨nI_pos (by omega), (n_le (b := 255) (by omega) (by omega)).mpr hx⟩
theorem cl_feed_full (hC : CT 120 tp M) {x : Nat} (hx : x ≤ 255) : f_X10_feed (nI x) M = some (-3, M) := by
  have e : ¬ nI 120 < 120 := by decide
  simp [f_X10_feed, feed_in hx, f_X5_hear, hC.1, e, bI_s]
theorem mo_feed_full (hC : MT 120 tp M) {x : Nat} (hx : x ≤ 255) : f_X11_feed (nI x) M = some (-3, M) := by
  have e : nI 120 = 120 := rfl
  simp (disch := omega) [f_X11_feed, s_within_n 255 255 rfl, inN_n, show x < 256 by omega, ite_bb, hC.1, e]
theorem cl_feed (hC : CT t tp M) (ht : t < 120) {x : Nat} (hx : x ≤ 255) : ∃ M1, f_X10_feed (nI x) M = some (nI (t + 1), M1) ∧ CT (t + 1) (upN tp t x) M1 := by
  have e : (nI t < 120) = (t < 120) := propext (n_lt (b := 120) (by omega) (by omega))
  refine ⟨_, by simp (disch := omega) [f_X10_feed, feed_in hx, f_X5_hear, hC.1, e, ht, okI_23, ck_T, lt_e, n_clamp, wI_rd, n_s1, bI_s]; rfl, by simp [wI_rd], fun j hj => ?_⟩
  by_cases q : j = t
  · subst q; simp [wI_rd, upN]
  · simp [wI_rd, upN, q, hC.2 j (by omega)]
theorem mo_feed (hC : MT t tp M) (ht : t < 120) {x : Nat} (hx : x ≤ 255) : ∃ M1, f_X11_feed (nI x) M = some (nI (t + 1), M1) ∧ MT (t + 1) (upN tp t x) M1 := by
  have e : (nI t = 120) = (t = 120) := propext (n_eq (b := 120) (by omega) (by omega))
  refine ⟨_, by simp (disch := omega) [f_X11_feed, s_within_n 255 255 rfl, inN_n, show x < 256 by omega, ite_bb, hC.1, e, show ¬ t = 120 by omega, okI_54, ck_T, lt_e, n_clamp, wI_rd, n_s1]; rfl, by simp [wI_rd], fun j hj => ?_⟩
  by_cases q : j = t
  · subst q; simp [wI_rd, upN]
  · simp [wI_rd, upN, q, hC.2 j (by omega)]
end TAPE
def CB (nb : Nat) (kd : Nat → Nat) (M : Mem) : Prop := M.1 40 0 = nI nb ∧ ∀ j, j < nb → M.1 42 j = nI (kd j)
def MB (nb : Nat) (kd : Nat → Nat) (M : Mem) : Prop := M.1 47 40 = nI nb ∧ ∀ j, j < nb → M.1 71 j = nI (kd j)
def OKBo (nb : Nat) (kd : Nat → Nat) : Prop := nb ≤ 50 ∧ ∀ j, j < nb → kd j ≤ 7
def CR (rn : Nat) (tr : Nat → Nat) (M : Mem) : Prop := M.1 40 1 = nI rn ∧ ∀ j, j < rn → j < 24 → M.1 41 j = nI (tr j)
def MR (rn : Nat) (tr : Nat → Nat) (M : Mem) : Prop := M.1 47 43 = nI rn ∧ ∀ j, j < rn → j < 24 → M.1 72 j = nI (tr j)
theorem grp_CB {nb : Nat} {kd : Nat → Nat} : Grp [(40, 1), (42, 0)] (CB nb kd) := by
  intro M M2 h _ hF
  exact ⟨by rw [(h 40 0 (in_f (by decide))).1]; exact hF.1, fun j hj => by rw [(h 42 j (in_a j (by decide))).1]; exact hF.2 j hj⟩
theorem grp_MB {nb : Nat} {kd : Nat → Nat} : Grp [(47, 41), (71, 0)] (MB nb kd) := by
  intro M M2 h _ hF
  exact ⟨by rw [(h 47 40 (in_f (by decide))).1]; exact hF.1, fun j hj => by rw [(h 71 j (in_a j (by decide))).1]; exact hF.2 j hj⟩
theorem grp_CR {nb : Nat} {kd : Nat → Nat} : Grp [(40, 2), (41, 0)] (CR nb kd) := by
  intro M M2 h _ hF
  exact ⟨by rw [(h 40 1 (in_f (by decide))).1]; exact hF.1, fun j hj => by rw [(h 41 j (in_a j (by decide))).1]; exact hF.2 j hj⟩
theorem grp_MR {nb : Nat} {kd : Nat → Nat} : Grp [(47, 44), (72, 0)] (MR nb kd) := by
  intro M M2 h _ hF
  exact ⟨by rw [(h 47 43 (in_f (by decide))).1]; exact hF.1, fun j hj => by rw [(h 72 j (in_a j (by decide))).1]; exact hF.2 j hj⟩
section BODY
variable {nb : Nat} {kd : Nat → Nat} {M : Mem} {rn : Nat} {tr : Nat → Nat}
theorem s_isKind (v : Int32) : f_X1_isKind v = some (bb (inN 8 v)) := by
  rw [← inN_x (by omega)]
  unfold f_X1_isKind
  have e : ((7 : Int32) < v) = (nI 8 ≤ v) := by
    apply propext
    rw [i_lt, i_le, n_toInt (by omega)]
    have h1 : (7 : Int32).toInt = 7 := rfl
    omega
  simp only [e]
theorem cl_body (hC : CB nb kd M) (hO : OKBo nb kd) (v : Int32) : f_X10_body v M = some (if inN 8 v = true then (if nb < 50 then (nI nb, wI (wI M 42 nb v) 40 0 (nI (nb + 1))) else (-3, M)) else (-1, M)) := by
  have h8 := hO.1
  have h1 := hC.1
  have e : (nI nb < 50) = (nb < 50) := propext (n_lt (b := 50) (by omega) (by omega))
  by_cases h : inN 8 v = true
  · by_cases h2 : nb < 50
    · simp (disch := omega) [f_X10_body, f_X1_add, s_isKind, ite_bb, h, h1, e, h2, okI_42, ck_T, lt_e, n_clamp, wI_rd, n_s1, bI_s]
    · simp (disch := omega) [f_X10_body, f_X1_add, s_isKind, ite_bb, h, h1, e, h2, bI_s]
  · simp (disch := omega) [f_X10_body, s_isKind, ite_bb, h]
theorem mo_body (hC : MB nb kd M) (hO : OKBo nb kd) (v : Int32) : f_X11_body v M = some (if inN 8 v = true then (if nb < 50 then (nI nb, wI (wI M 71 nb v) 47 40 (nI (nb + 1))) else (-3, M)) else (-1, M)) := by
  have h8 := hO.1
  have h1 := hC.1
  have e : (nI nb = 50) = (nb = 50) := propext (n_eq (b := 50) (by omega) (by omega))
  have w := s_within_n 7 7 rfl v
  by_cases h : inN 8 v = true
  · by_cases h2 : nb < 50
    · have h3 : ¬ nb = 50 := by omega
      simp (disch := omega) [f_X11_body, w, ite_bb, h, h1, e, h2, h3, okI_71, ck_T, lt_e, n_clamp, wI_rd, n_s1, n_p1]
    · have h3 : nb = 50 := by omega
      subst h3
      simp (disch := omega) [f_X11_body, w, ite_bb, h, h1, e]
  · simp (disch := omega) [f_X11_body, w, ite_bb, h]
theorem s_has (hC : CB nb kd M) (hO : OKBo nb kd) (v : Int32) : f_X1_has v M = some (bb (inN nb v)) := by
  have := hO.1
  unfold f_X1_has
  rw [hC.1, inN_x (by omega)]
theorem s_isBody (hC : MB nb kd M) (hO : OKBo nb kd) (v : Int32) : f_X11_isBody v M = some (bb (inN nb v)) := by
  have := hO.1
  unfold f_X11_isBody
  rw [hC.1, s_within_p (by omega), bd_s, ck_t (bb_ok _)]
def trV (rn : Nat) (tr : Nat → Nat) (v : Int32) : Int32 := if inN rn v = true ∧ inN 24 v = true then nI (tr v.toNatClampNeg) else -1
theorem cl_trace (hC : CR rn tr M) (hr : rn < 100000) (v : Int32) : f_X10_trace v M = some (trV rn tr v) := by
  have em : ab_min (nI rn) 24 = nI (min rn 24) := by
    unfold ab_min
    have e : ((24 : Int32) < nI rn) = (24 < rn) := propext (n_lt (a := 24) (by omega) (by omega))
    simp only [e]
    by_cases h : 24 < rn
    · rw [if_pos h, Nat.min_eq_right (by omega)]; rfl
    · rw [if_neg h, Nat.min_eq_left (by omega)]
  unfold f_X10_trace f_X1_kept trV
  rw [hC.1, em, bd_s]
  by_cases h : v < 0
  · simp [h, inN_f0 h]
  · by_cases h2 : v < nI (min rn 24)
    · obtain ⟨j, hj, e⟩ : ∃ j, j < min rn 24 ∧ v = nI j := by
        have h3 : inN (min rn 24) v = true := inN_tr (by omega) h (by rw [i_le]; rw [i_lt] at h2; omega)
        obtain ⟨j, a, -, c⟩ := inN_t h3
        exact ⟨j, a, c⟩
      subst e
      simp (disch := omega) [h, h2, okI_41, ck_T, n_clamp, inN_n, show j < rn by omega, show j < 24 by omega, hC.2 j (by omega) (by omega)]
    · have h4 : ¬ (inN rn v = true ∧ inN 24 v = true) := by
        rintro ⟨a, b⟩
        obtain ⟨j, hj, -, rfl⟩ := inN_t a
        rw [inN_n (by omega)] at b
        simp at b
        exact h2 ((n_lt (by omega) (by omega)).mpr (by omega))
      simp [h, h2, h4]
theorem mo_trace (hC : MR rn tr M) (hr : rn < 100000) (v : Int32) : f_X11_trace v M = some (trV rn tr v) := by
  unfold f_X11_trace trV
  rw [hC.1]
  by_cases h : v < 0
  · simp [h, inN_f0 h]
  · by_cases h2 : nI rn ≤ v
    · simp [h, h2, inN_f1 (show rn < 2147483648 by omega) h2]
    · obtain ⟨j, hj, -, rfl⟩ := inN_t (inN_tr (by omega) h h2)
      have e : ((24 : Int32) ≤ nI j) = (24 ≤ j) := propext (n_le (a := 24) (by omega) (by omega))
      by_cases h3 : 24 ≤ j
      · simp (disch := omega) [h, h2, e, h3, inN_n, show ¬ j < 24 by omega]
      · simp (disch := omega) [h, h2, e, h3, okI_72, ck_T, n_clamp, inN_n, hj, show j < 24 by omega, hC.2 j hj (by omega)]
end BODY
