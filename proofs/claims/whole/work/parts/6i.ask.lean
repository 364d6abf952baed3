/-! ask -/
def qb (np x : Nat) : Bool := if x / 10 = 2 ∨ x / 10 = 6 then decide (x % 10 < np) else if x / 10 = 5 then decide (1 ≤ x % 10 ∧ x % 10 ≤ np) else if x / 10 = 0 ∨ x / 10 = 1 ∨ x / 10 = 3 ∨ x / 10 = 4 then decide (x % 10 = 0) else false
def qOK (np : Nat) (v : Int32) : Bool := decide (¬ v < 0) && qb np v.toNatClampNeg
theorem n_rem10 {x : Nat} (hx : x < 2147483648) : ab_rem (nI x) 10 = nI (x % 10) := by
  unfold ab_rem
  rw [show (10 : Int32) = nI 10 from rfl, n_div hx (by omega), n_mul]
  have e : x = x % 10 + x / 10 * 10 := by omega
  have h : nI x = nI (x % 10) + nI (x / 10 * 10) := by rw [n_add, ← e]
  rw [h, Int32.add_sub_cancel]
theorem n_div10 {x : Nat} (hx : x < 2147483648) : nI x / 10 = nI (x / 10) := by
  rw [show (10 : Int32) = nI 10 from rfl, n_div hx (by omega)]
theorem v_nat {v : Int32} (h : ¬ v < 0) : ∃ x, x < 2147483648 ∧ v = nI x := by
  rw [i_lt] at h
  have h0 : (0 : Int32).toInt = 0 := rfl
  have hr := i_rng v
  exact ⟨v.toInt.toNat, by omega, n_of (by omega)⟩
theorem qb_okQ {np x : Nat} (h8 : np ≤ 8) (h : qb np x = true) (h1 : 1 ≤ np) : okQ np (x / 10) (x % 10) ∧ (x / 10 = 6 → x % 10 < np) ∧ ((x / 10 = 0 ∨ x / 10 = 1 ∨ x / 10 = 3 ∨ x / 10 = 4) → x % 10 = 0) := by
  unfold qb at h
  by_cases c1 : x / 10 = 2 ∨ x / 10 = 6
  · rw [if_pos c1, decide_eq_true_eq] at h
    exact ⟨⟨by omega, h1, h8, fun _ => h, fun q => by omega, by omega⟩, fun _ => h, fun q => by omega⟩
  · rw [if_neg c1] at h
    by_cases c2 : x / 10 = 5
    · rw [if_pos c2, decide_eq_true_eq] at h
      exact ⟨⟨by omega, h1, h8, fun q => by omega, fun _ => h.2, by omega⟩, fun q => by omega, fun q => by omega⟩
    · rw [if_neg c2] at h
      by_cases c3 : x / 10 = 0 ∨ x / 10 = 1 ∨ x / 10 = 3 ∨ x / 10 = 4
      · rw [if_pos c3, decide_eq_true_eq] at h
        exact ⟨⟨by omega, h1, h8, fun q => by omega, fun q => by omega, by omega⟩, fun q => by omega, fun _ => h⟩
      · rw [if_neg c3] at h; cases h
section ASK
variable {np nm : Nat} {wo wi lo ct : Nat → Nat} {M : Mem}
theorem cl_isQ (hn : np ≤ 8) (hC : M.1 1 0 = nI np) (v : Int32) : f_X10_isQuestion v M = some (bb (qOK np v)) := by
  unfold f_X10_isQuestion qOK
  rw [lt_e]
  by_cases q : v < 0
  · have q2 : ¬ 0 ≤ v := by rw [i_le]; rw [i_lt] at q; omega
    rw [if_neg q2]
    simp [q, bb]
  · have q2 : 0 ≤ v := by rw [i_le]; rw [i_lt] at q; omega
    obtain ⟨x, hx, rfl⟩ := v_nat q
    rw [if_pos q2, decide_eq_true q, Bool.true_and, n_clamp hx, n_rem10 hx, n_div10 hx]
    have e : ∀ j, j < 2147483648 → (nI (x / 10) = nI j) = (x / 10 = j) := fun j hj => propext (n_eq (by omega) hj)
    have e0 : (nI (x / 10) = 0) = (x / 10 = 0) := e 0 (by omega)
    have e1 : (nI (x / 10) = 1) = (x / 10 = 1) := e 1 (by omega)
    have e2 : (nI (x / 10) = 2) = (x / 10 = 2) := e 2 (by omega)
    have e3 : (nI (x / 10) = 3) = (x / 10 = 3) := e 3 (by omega)
    have e4 : (nI (x / 10) = 4) = (x / 10 = 4) := e 4 (by omega)
    have e5 : (nI (x / 10) = 5) = (x / 10 = 5) := e 5 (by omega)
    have e6 : (nI (x / 10) = 6) = (x / 10 = 6) := e 6 (by omega)
    have k0 : (nI (x % 10) = 0) = (x % 10 = 0) := propext (n_eq (b := 0) (by omega) (by omega))
    have k1 : (nI (x % 10) < 1) = (x % 10 < 1) := propext (n_lt (b := 1) (by omega) (by omega))
    simp only [e0, e1, e2, e3, e4, e5, e6]
    unfold f_X10_isQuestion_b56 f_X10_isQuestion_b66 qb
    rw [hC]
    simp only [k0, k1, n_le (show np < 2147483648 by omega) (show x % 10 < 2147483648 by omega), n_lt (show np < 2147483648 by omega) (show x % 10 < 2147483648 by omega)]
    have z0 : (if x % 10 = 0 then some (1 : Int32) else some 0) = some (bb (decide (x % 10 = 0))) := by
      by_cases c : x % 10 = 0
      · rw [if_pos c, decide_eq_true c]; rfl
      · rw [if_neg c, decide_eq_false c]; rfl
    have z1 : (if np ≤ x % 10 then some (0 : Int32) else some 1) = some (bb (decide (x % 10 < np))) := by
      by_cases c : np ≤ x % 10
      · rw [if_pos c, decide_eq_false (by omega)]; rfl
      · rw [if_neg c, decide_eq_true (by omega)]; rfl
    have z2 : (if x % 10 < 1 then some (0 : Int32) else if np < x % 10 then some 0 else some 1) = some (bb (decide (1 ≤ x % 10 ∧ x % 10 ≤ np))) := by
      by_cases c : x % 10 < 1
      · rw [if_pos c, decide_eq_false (by omega)]; rfl
      · rw [if_neg c]
        by_cases c2 : np < x % 10
        · rw [if_pos c2, decide_eq_false (by omega)]; rfl
        · rw [if_neg c2, decide_eq_true (by omega)]; rfl
    rw [z0, z1, z2]
    by_cases c0 : x / 10 = 0
    · rw [if_pos c0, if_neg (by omega), if_neg (by omega), if_pos (by omega)]
    rw [if_neg c0]
    by_cases c1 : x / 10 = 1
    · rw [if_pos c1, if_neg (by omega), if_neg (by omega), if_pos (by omega)]
    rw [if_neg c1]
    by_cases c2 : x / 10 = 2
    · rw [if_pos c2, if_pos (by omega)]
    rw [if_neg c2]
    by_cases c3 : x / 10 = 3
    · rw [if_pos c3, if_neg (by omega), if_neg (by omega), if_pos (by omega)]
    rw [if_neg c3]
    by_cases c4 : x / 10 = 4
    · rw [if_pos c4, if_neg (by omega), if_neg (by omega), if_pos (by omega)]
    rw [if_neg c4]
    by_cases c5 : x / 10 = 5
    · rw [if_pos c5, if_neg (by omega), if_pos c5]
    rw [if_neg c5]
    by_cases c6 : x / 10 = 6
    · rw [if_pos c6, if_pos (by omega)]
    · rw [if_neg c6, if_neg (by omega), if_neg c5, if_neg (by omega)]; rfl
theorem mo_isQ (hn : np ≤ 8) (hC : M.1 47 6 = nI np) (v : Int32) : f_X11_isQuestion v M = some (bb (qOK np v)) := by
  unfold f_X11_isQuestion qOK
  by_cases q : v < 0
  · rw [if_pos q]
    simp [q, bb]
  · obtain ⟨x, hx, rfl⟩ := v_nat q
    rw [if_neg q, decide_eq_true q, Bool.true_and, n_clamp hx, n_rem10 hx, n_div10 hx, lt_e]
    have e : ∀ j, j < 2147483648 → (nI (x / 10) = nI j) = (x / 10 = j) := fun j hj => propext (n_eq (by omega) hj)
    have e2 : (nI (x / 10) = 2) = (x / 10 = 2) := e 2 (by omega)
    have e3 : (nI (x / 10) = 3) = (x / 10 = 3) := e 3 (by omega)
    have e4 : (nI (x / 10) = 4) = (x / 10 = 4) := e 4 (by omega)
    have e5 : (nI (x / 10) = 5) = (x / 10 = 5) := e 5 (by omega)
    have e6 : (nI (x / 10) = 6) = (x / 10 = 6) := e 6 (by omega)
    have l6 : (nI (x / 10) ≤ 6) = (x / 10 ≤ 6) := propext (n_le (b := 6) (by omega) (by omega))
    have k0 : (nI (x % 10) = 0) = (x % 10 = 0) := propext (n_eq (b := 0) (by omega) (by omega))
    simp only [e2, e3, e4, e5, e6, l6]
    unfold f_X11_isQuestion_b60 f_X11_isQuestion_b78 qb
    rw [s_isPlayer hC hn, bd_s, ck_t (bb_ok _), hC, s_within, bd_s, ck_t (bb_ok _), w_toInt, w_toInt, n_toInt (by omega), n_toInt (by omega), show (1 : Int64).toInt = 1 from rfl, inN_n (by omega)]
    simp only [k0]
    have z0 : (if x % 10 = 0 then some (1 : Int32) else some 0) = some (bb (decide (x % 10 = 0))) := by
      by_cases c : x % 10 = 0
      · rw [if_pos c, decide_eq_true c]; rfl
      · rw [if_neg c, decide_eq_false c]; rfl
    have z2 : decide ((1 : Int) ≤ ((x % 10 : Nat) : Int) ∧ ((x % 10 : Nat) : Int) ≤ (np : Int)) = decide (1 ≤ x % 10 ∧ x % 10 ≤ np) := decide_eq_decide.mpr (by omega)
    rw [z0, z2]
    by_cases c : x / 10 ≤ 6
    · rw [if_pos c]
      by_cases c2 : x / 10 = 2
      · rw [if_pos c2, if_pos (by omega)]
      rw [if_neg c2]
      by_cases c3 : x / 10 = 3
      · rw [if_pos c3, if_neg (by omega), if_neg (by omega), if_pos (by omega)]
      rw [if_neg c3]
      by_cases c4 : x / 10 = 4
      · rw [if_pos c4, if_neg (by omega), if_neg (by omega), if_pos (by omega)]
      rw [if_neg c4]
      by_cases c5 : x / 10 = 5
      · rw [if_pos c5, if_neg (by omega), if_pos c5]
      rw [if_neg c5]
      by_cases c6 : x / 10 = 6
      · rw [if_pos c6, if_pos (by omega)]
      · rw [if_neg c6, if_neg (by omega), if_neg c5, if_pos (by omega)]
    · rw [if_neg c, if_neg (by omega), if_neg (by omega), if_neg (by omega)]; rfl
def bdF (A : Nat) : Nat → Nat → Nat
  | 0, m => m
  | r + 1, m => if A ≤ 2 ^ m then m else bdF A r (m + 1)
theorem cl_bd {A : Nat} (hA : A ≤ 2 ^ 25) : ∀ (r k m : Nat), k + r = 25 → r < m → f_X10_bound_L4 m (nI A) (nI k) (nI (2 ^ k)) = some (nI (bdF A r k))
  | 0, k, m, h, hm => by
    obtain ⟨m, rfl⟩ : ∃ m2, m = m2 + 1 := ⟨m - 1, by omega⟩
    have : k = 25 := by omega
    subst this
    rw [f_X10_bound_L4, if_pos ((n_le (by omega) (by omega)).mpr hA)]
    rfl
  | r + 1, k, m, h, hm => by
    obtain ⟨m, rfl⟩ : ∃ m2, m = m2 + 1 := ⟨m - 1, by omega⟩
    have hp : 2 ^ k ≤ 2 ^ 25 := Nat.pow_le_pow_right (by omega) (by omega)
    rw [f_X10_bound_L4, bdF, if_neg (show ¬ (30 : Int32) ≤ nI k by rw [show (30 : Int32) = nI 30 from rfl, n_le (by omega) (by omega)]; omega), lt_e, n_s1, show (2 : Int32) = nI 2 from rfl, n_mul, ← Nat.pow_succ]
    simp only [n_le (show A < 2147483648 by omega) (show 2 ^ k < 2147483648 by omega)]
    by_cases c : A ≤ 2 ^ k
    · rw [if_pos c, if_pos c]
    · rw [if_neg c, if_neg c]
      exact cl_bd hA r (k + 1) m (by omega) (by omega)
theorem mo_bd {A : Nat} (hA : A ≤ 2 ^ 25) (hM : M.1 47 27 = nI A) : ∀ (r k m : Nat), k + r = 25 → r < m → f_X11_ask_L55 m (nI k) M = some (nI (bdF A r k), M)
  | 0, k, m, h, hm => by
    obtain ⟨m, rfl⟩ : ∃ m2, m = m2 + 1 := ⟨m - 1, by omega⟩
    have : k = 25 := by omega
    subst this
    rw [f_X11_ask_L55, hM, n_shl1 25 (by omega), if_pos ((n_le (by omega) (by omega)).mpr hA)]
    rfl
  | r + 1, k, m, h, hm => by
    obtain ⟨m, rfl⟩ : ∃ m2, m = m2 + 1 := ⟨m - 1, by omega⟩
    have hp : 2 ^ k ≤ 2 ^ 25 := Nat.pow_le_pow_right (by omega) (by omega)
    rw [f_X11_ask_L55, hM, n_shl1 k (by omega), bdF, n_s1]
    simp only [n_le (show A < 2147483648 by omega) (show 2 ^ k < 2147483648 by omega)]
    by_cases c : A ≤ 2 ^ k
    · rw [if_pos c, if_pos c]
    · rw [if_neg c, if_neg c]
      exact mo_bd hA hM r (k + 1) m (by omega) (by omega)
theorem ansN_le {n : Nat} (hn : n ≤ 8) (ab : Nat → Nat) (kn ak : Nat) : ansN n ab kn ak ≤ 16777216 := by
  unfold ansN
  split
  · exact ext_big hn ab
  · have := nCd_le (n := n) (kn := kn) (ak := ak) (L := ext n ab n 0); omega
def askA (np : Nat) (ab : Nat → Nat) (v w : Int32) : Int32 := if qOK np v = true ∧ inN 3 w = true then (if np = 0 then -5 else if w = 0 then (if ansN np ab (v.toNatClampNeg / 10) (v.toNatClampNeg % 10) ≤ 1 then 1 else 0) else if w = 1 then nI (ansN np ab (v.toNatClampNeg / 10) (v.toNatClampNeg % 10)) else nI (bdF (ansN np ab (v.toNatClampNeg / 10) (v.toNatClampNeg % 10)) 25 0)) else -1
theorem qOK_nat {v : Int32} (h : qOK np v = true) : ∃ x, x < 2147483648 ∧ v = nI x ∧ qb np x = true := by
  unfold qOK at h
  rw [Bool.and_eq_true, decide_eq_true_eq] at h
  obtain ⟨x, hx, rfl⟩ := v_nat h.1
  rw [n_clamp hx] at h
  exact ⟨x, hx, rfl, h.2⟩
theorem cl_ask (hO : OKF np nm wo wi lo ct) (hC : CF np nm wo wi lo ct M) (v w : Int32) : ∃ M1, f_X10_ask v w M = some (askA np (abv wi lo (cms ct nm) nm) v w, M1) := by
  have h8 := hO.1
  have hA := okA_abv hO (cms ct nm)
  unfold f_X10_ask askA
  rw [cl_isQ h8 hC.1, bd_s, ite_bb]
  by_cases q : qOK np v = true
  · rw [if_pos q]
    have e0 : (nI np = 0) = (np = 0) := propext (n_eq (b := 0) (by omega) (by omega))
    have h3 : inN 3 w = decide (¬ w < 0 ∧ w ≤ 2) := by
      simp only [inN]
      refine decide_eq_decide.mpr ?_
      rw [i_lt, i_le]
      have h0 : (0 : Int32).toInt = 0 := rfl
      have h2 : (2 : Int32).toInt = 2 := rfl
      omega
    by_cases c1 : w < 0
    · have hB : ¬ (qOK np v = true ∧ inN 3 w = true) := fun h => by rw [h3, decide_eq_true_eq] at h; exact h.2.1 c1
      rw [if_pos c1, if_neg hB]; exact ⟨M, rfl⟩
    · rw [if_neg c1]
      by_cases c2 : w ≤ 2
      · have hB : qOK np v = true ∧ inN 3 w = true := ⟨q, by rw [h3, decide_eq_true_eq]; exact ⟨c1, c2⟩⟩
        rw [if_pos c2, if_pos hB, hC.1]
        simp only [e0]
        by_cases c3 : np = 0
        · rw [if_pos c3, if_pos c3]; exact ⟨M, rfl⟩
        · obtain ⟨x, hx, rfl, hqb⟩ := qOK_nat q
          obtain ⟨o1, o2, o3⟩ := qb_okQ h8 hqb (by omega)
          obtain ⟨M4, f4, t4⟩ := cl_tallied hO hC
          have hle := ansN_le h8 (abv wi lo (cms ct nm) nm) (x / 10) (x % 10)
          rw [if_neg c3, if_neg c3, f4, bd_s, n_clamp hx, n_rem10 hx, n_div10 hx, cl_answers hA t4 o1 o2 o3, bd_s]
          have e1 : ((1 : Int32) < nI (ansN np (abv wi lo (cms ct nm) nm) (x / 10) (x % 10))) = (1 < ansN np (abv wi lo (cms ct nm) nm) (x / 10) (x % 10)) := propext (n_lt (a := 1) (by omega) (by omega))
          simp only [e1]
          by_cases d0 : w = 0
          · rw [if_pos d0, if_pos d0]
            by_cases d : 1 < ansN np (abv wi lo (cms ct nm) nm) (x / 10) (x % 10)
            · rw [if_pos d, if_neg (by omega)]; exact ⟨M4, rfl⟩
            · rw [if_neg d, if_pos (by omega)]; exact ⟨M4, rfl⟩
          · rw [if_neg d0, if_neg d0]
            by_cases d1 : w = 1
            · rw [if_pos d1, if_pos d1]; exact ⟨M4, rfl⟩
            · rw [if_neg d1, if_neg d1]
              have hb := cl_bd (A := ansN np (abv wi lo (cms ct nm) nm) (x / 10) (x % 10)) (by omega) 25 0 FU (by omega) (by unfold FU; omega)
              unfold f_X10_bound
              have hb' : f_X10_bound_L4 FU (nI (ansN np (abv wi lo (cms ct nm) nm) (x / 10) (x % 10))) 0 1 = _ := hb
              rw [hb', bd_s]
              exact ⟨M4, rfl⟩
      · have hB : ¬ (qOK np v = true ∧ inN 3 w = true) := fun h => by rw [h3, decide_eq_true_eq] at h; exact c2 h.2.2
        rw [if_neg c2, if_neg hB]; exact ⟨M, rfl⟩
  · rw [if_neg q, if_neg (fun h => q h.1)]; exact ⟨M, rfl⟩
theorem GT_27 {ab : Nat → Nat} {kn ak : Nat} {g : Bool} (h : GT np ab true kn ak g M) : M.1 47 27 = nI (ansN np ab kn ak) := by
  unfold ansN
  by_cases q : kn = 4
  · rw [if_pos q]; exact h.2 rfl q
  · rw [if_neg q]
    obtain ⟨-, -, -, -, -, -, -, -, g9, -⟩ := h.1
    exact (g9 rfl q).2
theorem mo_ask (hR : okR M) (hO : OKF np nm wo wi lo ct) (hC : MF np nm wo wi lo ct M) (h32 : M.1 47 32 = 0) (v w : Int32) : ∃ M1, f_X11_ask v w M = some (askA np (abv wi lo (cms ct nm) nm) v w, M1) := by
  have h8 := hO.1
  unfold f_X11_ask askA
  rw [mo_isQ h8 hC.1, bd_s, ite_bb]
  by_cases q : qOK np v = true
  · rw [if_pos q, s_within_n 2 2 rfl w, bd_s, ite_bb]
    have e0 : (nI np = 0) = (np = 0) := propext (n_eq (b := 0) (by omega) (by omega))
    by_cases c1 : inN 3 w = true
    · have hB : qOK np v = true ∧ inN 3 w = true := ⟨q, c1⟩
      rw [if_pos c1, if_pos hB, hC.1]
      simp only [e0]
      by_cases c3 : np = 0
      · rw [if_pos c3, if_pos c3]; exact ⟨M, rfl⟩
      · obtain ⟨x, hx, rfl, hqb⟩ := qOK_nat q
        obtain ⟨o1, o2, o3⟩ := qb_okQ h8 hqb (by omega)
        obtain ⟨M8, f8, c8⟩ := mo_goes (w := true) (kn := x / 10) (ak := x % 10) (g := false) hR hO hC (cms_lt hO) (fun _ => o1) (fun h => by cases h) (fun h => by cases h) o1.1 h32
        rw [if_pos rfl] at f8
        have hle := ansN_le h8 (abv wi lo (cms ct nm) nm) (x / 10) (x % 10)
        have h27 := GT_27 c8
        rw [if_neg c3, if_neg c3, s_all hC hO, bd_s, n_clamp hx, n_rem10 hx, n_div10 hx, f8, bd_s, h27]
        have e1 : ((2 : Int32) ≤ nI (ansN np (abv wi lo (cms ct nm) nm) (x / 10) (x % 10))) = (2 ≤ ansN np (abv wi lo (cms ct nm) nm) (x / 10) (x % 10)) := propext (n_le (a := 2) (by omega) (by omega))
        simp only [e1]
        obtain ⟨j, hj, hj2, rfl⟩ := inN_t c1
        rcases show j = 0 ∨ j = 1 ∨ j = 2 by omega with rfl | rfl | rfl
        · rw [if_neg (by decide), if_neg (by decide), if_pos (show nI 0 = 0 from rfl)]
          by_cases d : 2 ≤ ansN np (abv wi lo (cms ct nm) nm) (x / 10) (x % 10)
          · rw [if_pos d, if_neg (by omega)]; exact ⟨M8, rfl⟩
          · rw [if_neg d, if_pos (by omega)]; exact ⟨M8, rfl⟩
        · rw [if_neg (by decide), if_pos (show nI 1 = 1 from rfl), if_neg (by decide), if_pos (show nI 1 = 1 from rfl)]; exact ⟨M8, rfl⟩
        · rw [if_pos (show nI 2 = 2 from rfl), if_neg (by decide), if_neg (by decide)]
          have hb := mo_bd (A := ansN np (abv wi lo (cms ct nm) nm) (x / 10) (x % 10)) (by omega) h27 25 0 FU (by omega) (by unfold FU; omega)
          have hb' : f_X11_ask_L55 FU 0 M8 = _ := hb
          rw [hb']
          exact ⟨M8, rfl⟩
    · rw [if_neg c1, if_neg (fun h => c1 h.2)]; exact ⟨M, rfl⟩
  · rw [if_neg q, if_neg (fun h => q h.1)]; exact ⟨M, rfl⟩
end ASK
