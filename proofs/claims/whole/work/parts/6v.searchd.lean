/-! the search: the class's three calls -/
theorem fs2_lt {n : Nat} {P : Nat → Nat → Bool} : ∀ (r a : Nat) (x : Nat × Nat), a + r = n → fs2 n P r a = some x → x.1 < x.2 ∧ x.2 < n
  | 0, _, _, _, h => by cases h
  | r + 1, a, x, hn, h => by
    rw [fs2] at h
    cases e : fs1 (P a) (n - (a + 1)) (a + 1) with
    | some b =>
      rw [e] at h
      cases h
      have := fs1_lt _ _ _ e
      show a < b ∧ b < n
      omega
    | none =>
      rw [e] at h
      exact fs2_lt r (a + 1) x (by omega) h
theorem l_n (a : Nat) (h : a < 2147483648) : (lN a).toInt32 = nI a := by
  rw [← n_l a h]
  exact Int32.toInt32_toInt64 _
def worA (np : Nat) (ab : Nat → Nat) (v : Int32) : Int32 := if qOK np v = true then (if 1 ≤ np ∧ np ≤ 4 then nI (CKz np ab (v.toNatClampNeg / 10) (v.toNatClampNeg % 10) 0) else -5) else -1
def meaA (np : Nat) (ab : Nat → Nat) (v w : Int32) : Int32 := if qOK np v = true ∧ inN 2 w = true then (if 1 ≤ np ∧ np ≤ 4 then nI (prt (CKz np ab (v.toNatClampNeg / 10) (v.toNatClampNeg % 10) 1) (max 1 (ext np ab np 0).length) w) else -5) else -1
def nexA (np : Nat) (ab : Nat → Nat) (v w : Int32) : Int32 := if qOK np v = true ∧ inN 2 w = true then (if 1 ≤ np ∧ np ≤ 4 then (match nxP np ab (v.toNatClampNeg / 10) (v.toNatClampNeg % 10) with | some x => if w = 0 then nI x.1 else nI x.2 | none => -2) else -5) else -1
section SCD
variable {np nm : Nat} {wo wi lo ct : Nat → Nat} {M : Mem}
theorem grp_SI : Grp [(14, 4), (14, 5), (14, 6), (18, 0), (19, 0)] SI := fun M M2 h e ⟨n, kn, ak, a, b, c, d⟩ => ⟨n, kn, ak, a, b, c, grp_SM M M2 h e d⟩
theorem CKz_le {n : Nat} {ab : Nat → Nat} (hA : okA n ab) (hn : n ≤ 4) (kn ak md : Nat) : CKz n ab kn ak md ≤ 3048 := by
  unfold CKz
  split
  · next c => exact CK_le (OKK_K0 hA hn (ans_ne c))
  · omega
theorem cl_isFor (h8 : np ≤ 8) : f_X8_isFor (nI np) = some (bb (decide (1 ≤ np ∧ np ≤ 4))) := by
  unfold f_X8_isFor
  rw [show (1 : Int32) = nI 1 from rfl, show (4 : Int32) = nI 4 from rfl]
  simp only [n_lt (show np < 2147483648 by omega) (show 1 < 2147483648 by omega), n_lt (show 4 < 2147483648 by omega) (show np < 2147483648 by omega)]
  by_cases c : np < 1
  · rw [if_pos c, decide_eq_false (by omega)]; rfl
  · rw [if_neg c]
    by_cases c2 : 4 < np
    · rw [if_pos c2, decide_eq_false (by omega)]; rfl
    · rw [if_neg c2, decide_eq_true (by omega)]; rfl
theorem inN_2 (w : Int32) : inN 2 w = decide (¬ w < 0 ∧ w ≤ 1) := by
  simp only [inN]
  refine decide_eq_decide.mpr ?_
  rw [i_lt, i_le]
  have h0 : (0 : Int32).toInt = 0 := rfl
  have h2 : (1 : Int32).toInt = 1 := rfl
  omega
/-- the tally and the beginning, as all three calls make them -/
theorem cl_bt (hO : OKF np nm wo wi lo ct) (hC : CF np nm wo wi lo ct M) (hS : SI M) (hR : okR M) {kn ak : Nat} (hn : np ≤ 4) (hQ : okQ np kn ak) (h6 : kn = 6 → ak < np) (h0 : (kn = 0 ∨ kn = 1 ∨ kn = 3 ∨ kn = 4) → ak = 0) : ∃ M6 M8, f_X10_tallied M = some M6 ∧ f_X8_begin (nI kn) (nI ak) M6 = some M8 ∧ BG np (abv wi lo (cms ct nm) nm) kn ak (decide (1 < ansN np (abv wi lo (cms ct nm) nm) kn ak)) M8 ∧ (1 < ansN np (abv wi lo (cms ct nm) nm) kn ak → M8.1 14 6 = nI (K0 np (abv wi lo (cms ct nm) nm))) := by
  obtain ⟨M6, f6, t6⟩ := cl_tallied hO hC
  have fr := fr_X10_tallied M _ f6
  obtain ⟨M8, f8, b8, w8⟩ := cl_begin (okA_abv hO (cms ct nm)) hn hQ h6 h0 t6 (grp_SI.kp hR fr (by decide) hS) (okR_of hR (fr hR.c).1)
  exact ⟨M6, M8, f6, f8, b8, w8⟩
theorem cl_worst (hO : OKF np nm wo wi lo ct) (hC : CF np nm wo wi lo ct M) (hS : SI M) (hR : okR M) (v : Int32) : ∃ M1, f_X10_worst v M = some (worA np (abv wi lo (cms ct nm) nm) v, M1) ∧ SI M1 := by
  have h8 := hO.1
  unfold f_X10_worst worA
  rw [cl_isQ h8 hC.1, bd_s, ite_bb]
  by_cases q : qOK np v = true
  · rw [if_pos q, if_pos q, hC.1, cl_isFor h8, bd_s, ite_bb]
    by_cases c : 1 ≤ np ∧ np ≤ 4
    · obtain ⟨x, hx, rfl, hqb⟩ := qOK_nat q
      obtain ⟨o1, o2, o3⟩ := qb_okQ h8 hqb c.1
      obtain ⟨M6, M8, f6, f8, b8, w8⟩ := cl_bt hO hC hS hR c.2 o1 o2 o3
      obtain ⟨M10, f10, s10, r10⟩ := cl_lw (okA_abv hO (cms ct nm)) c.2 o1 o2 o3 b8 w8
      rw [if_pos (decide_eq_true c), if_pos c, f6, bd_s, n_clamp hx, n_rem10 hx, n_div10 hx, f8, bd_s, f10, bI_s]
      exact ⟨M10, rfl, BG.si (g := true) c.2 o1 s10⟩
    · rw [if_neg (by simpa using c), if_neg c]
      exact ⟨M, rfl, hS⟩
  · rw [if_neg q, if_neg q]
    exact ⟨M, rfl, hS⟩
theorem cl_mean (hO : OKF np nm wo wi lo ct) (hC : CF np nm wo wi lo ct M) (hS : SI M) (hR : okR M) (v w : Int32) : ∃ M1, f_X10_mean v w M = some (meaA np (abv wi lo (cms ct nm) nm) v w, M1) ∧ SI M1 := by
  have h8 := hO.1
  unfold f_X10_mean meaA
  rw [cl_isQ h8 hC.1, bd_s, ite_bb]
  by_cases q : qOK np v = true
  · rw [if_pos q]
    by_cases c1 : w < 0
    · rw [if_pos c1, if_neg (fun h => by have := h.2; rw [inN_2, decide_eq_true_eq] at this; exact this.1 c1)]
      exact ⟨M, rfl, hS⟩
    rw [if_neg c1]
    by_cases c2 : w ≤ 1
    · have hB : qOK np v = true ∧ inN 2 w = true := ⟨q, by rw [inN_2]; exact decide_eq_true ⟨c1, c2⟩⟩
      rw [if_pos c2, if_pos hB, hC.1, cl_isFor h8, bd_s, ite_bb]
      by_cases c : 1 ≤ np ∧ np ≤ 4
      · obtain ⟨x, hx, rfl, hqb⟩ := qOK_nat q
        obtain ⟨o1, o2, o3⟩ := qb_okQ h8 hqb c.1
        have hA := okA_abv hO (cms ct nm)
        obtain ⟨M6, M8, f6, f8, b8, w8⟩ := cl_bt hO hC hS hR c.2 o1 o2 o3
        obtain ⟨M10, f10, s10, r10⟩ := cl_ls hA c.2 o1 o2 o3 b8 w8
        have hz := CKz_le hA c.2 (x / 10) (x % 10) 1
        have h24 := ext_24 c.2 (abv wi lo (cms ct nm) nm)
        have hmx : ab_max 1 (nI (ext np (abv wi lo (cms ct nm) nm) np 0).length) = nI (max 1 (ext np (abv wi lo (cms ct nm) nm) np 0).length) := n_max (a := 1) (by omega) (by omega)
        have hpr : prt (CKz np (abv wi lo (cms ct nm) nm) (x / 10) (x % 10) 1) (max 1 (ext np (abv wi lo (cms ct nm) nm) np 0).length) w < 2147483648 := by
          have d1 := Nat.div_le_self (CKz np (abv wi lo (cms ct nm) nm) (x / 10) (x % 10) 1) (Nat.gcd (CKz np (abv wi lo (cms ct nm) nm) (x / 10) (x % 10) 1) (max 1 (ext np (abv wi lo (cms ct nm) nm) np 0).length))
          have d2 := Nat.div_le_self (max 1 (ext np (abv wi lo (cms ct nm) nm) np 0).length) (Nat.gcd (CKz np (abv wi lo (cms ct nm) nm) (x / 10) (x % 10) 1) (max 1 (ext np (abv wi lo (cms ct nm) nm) np 0).length))
          unfold prt
          split <;> omega
        rw [if_pos (decide_eq_true c), if_pos c, f6, bd_s, n_clamp hx, n_rem10 hx, n_div10 hx, f8, bd_s, s_allC hA b8.2.1, bd_s, hmx, lt_e, f10, bI_s, n_l _ (by omega), n_l _ (by omega), cl_low (by omega) (by omega) (by omega), bd_s, l_n _ hpr]
        exact ⟨M10, rfl, BG.si (g := true) c.2 o1 s10⟩
      · rw [if_neg (by simpa using c), if_neg c]
        exact ⟨M, rfl, hS⟩
    · rw [if_neg c2, if_neg (fun h => by have := h.2; rw [inN_2, decide_eq_true_eq] at this; exact c2 this.2)]
      exact ⟨M, rfl, hS⟩
  · rw [if_neg q, if_neg (fun h => q h.1)]
    exact ⟨M, rfl, hS⟩
theorem cl_next (hO : OKF np nm wo wi lo ct) (hC : CF np nm wo wi lo ct M) (hS : SI M) (hR : okR M) (v w : Int32) : ∃ M1, f_X10_next v w M = some (nexA np (abv wi lo (cms ct nm) nm) v w, M1) ∧ SI M1 := by
  have h8 := hO.1
  unfold f_X10_next nexA
  rw [cl_isQ h8 hC.1, bd_s, ite_bb]
  by_cases q : qOK np v = true
  · rw [if_pos q]
    by_cases c1 : w < 0
    · rw [if_pos c1, if_neg (fun h => by have := h.2; rw [inN_2, decide_eq_true_eq] at this; exact this.1 c1)]
      exact ⟨M, rfl, hS⟩
    rw [if_neg c1]
    by_cases c2 : w ≤ 1
    · have hB : qOK np v = true ∧ inN 2 w = true := ⟨q, by rw [inN_2]; exact decide_eq_true ⟨c1, c2⟩⟩
      rw [if_pos c2, if_pos hB, hC.1, cl_isFor h8, bd_s, ite_bb]
      by_cases c : 1 ≤ np ∧ np ≤ 4
      · obtain ⟨x, hx, rfl, hqb⟩ := qOK_nat q
        obtain ⟨o1, o2, o3⟩ := qb_okQ h8 hqb c.1
        have hA := okA_abv hO (cms ct nm)
        obtain ⟨M6, M8, f6, f8, b8, w8⟩ := cl_bt hO hC hS hR c.2 o1 o2 o3
        obtain ⟨M10, f10, s10, r10⟩ := cl_fk hA c.2 o1 o2 o3 b8 w8
        rw [if_pos (decide_eq_true c), if_pos c, f6, bd_s, n_clamp hx, n_rem10 hx, n_div10 hx, f8, bd_s, f10, bI_s]
        cases e : nxP np (abv wi lo (cms ct nm) nm) (x / 10) (x % 10) with
        | none => exact ⟨M10, rfl, BG.si (g := true) c.2 o1 s10⟩
        | some y =>
          have hy : y.1 < y.2 ∧ y.2 < np := by
            unfold nxP at e
            split at e
            · exact fs2_lt np 0 y (by omega) e
            · cases e
          show ∃ M1, (if 0 ≤ nI (10 * y.1 + y.2) then (if w = 0 then some (nI (10 * y.1 + y.2) / 10, M10) else some (ab_rem (nI (10 * y.1 + y.2)) 10, M10)) else some (-2, M10)) = some (if w = 0 then nI y.1 else nI y.2, M1) ∧ SI M1
          rw [if_pos (by rw [show (0 : Int32) = nI 0 from rfl, n_le (by omega) (by omega)]; omega), n_div10 (by omega), n_rem10 (by omega), show (10 * y.1 + y.2) / 10 = y.1 by omega, show (10 * y.1 + y.2) % 10 = y.2 by omega]
          refine ⟨M10, ?_, BG.si (g := true) c.2 o1 s10⟩
          by_cases cw : w = 0
          · rw [if_pos cw, if_pos cw]
          · rw [if_neg cw, if_neg cw]
      · rw [if_neg (by simpa using c), if_neg c]
        exact ⟨M, rfl, hS⟩
    · rw [if_neg c2, if_neg (fun h => by have := h.2; rw [inN_2, decide_eq_true_eq] at this; exact c2 this.2)]
      exact ⟨M, rfl, hS⟩
  · rw [if_neg q, if_neg (fun h => q h.1)]
    exact ⟨M, rfl, hS⟩
end SCD
