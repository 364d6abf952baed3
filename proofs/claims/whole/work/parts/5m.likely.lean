/-! likely -/
section LIK
variable {np nm : Nat} {wo wi lo ct : Nat → Nat} {lw : LwO} {n : Nat} {rw S : Nat → Nat} {M : Mem}
def PN (r : Nat) : Nat := [1, 100, 1000000, 100000000000000].getD r 0
def rFor (n w : Nat) : Nat := if w = 0 then rdn n else if w = 1 then rdn n - 1 else 1
def likN (c : Nat → Nat → Nat → Nat) (rw : Nat → Nat) (n k w : Nat) (p : Int32) : Nat := prt (if w = 2 then 100 - th c rw 1 k else th c rw (rFor n w) k) (PN (rFor n w)) p
def likA (c : Nat → Nat → Nat → Nat) (n : Nat) (rw : Nat → Nat) (v w p : Int32) : Int64 := match fnd rw v n 0 with
  | none => -9223372036854775808
  | some k => if inN 3 w = true ∧ inN 2 p = true ∧ (n = 4 ∨ n = 8) then lN (likN c rw n k w.toNatClampNeg p) else -9223372036854775808
theorem s_seatOf30_L (hU : M.1 28 0 = nI n) (hS : ∀ j, j < n → M.1 30 j = nI (S j)) (hn : n ≤ 8) (v : Int32) : ∀ (k j m : Nat), j + k = n → k < m → f_X3_seatOf_28_30_L2 M m v (nI j) = some (seatI (fnd S v k j))
  | 0, j, m, h, hm => by
    obtain ⟨m, rfl⟩ : ∃ m2, m = m2 + 1 := ⟨m - 1, by omega⟩
    rw [f_X3_seatOf_28_30_L2, hU, if_pos ((n_le (by omega) (by omega)).mpr (by omega))]
    rfl
  | k + 1, j, m, h, hm => by
    obtain ⟨m, rfl⟩ : ∃ m2, m = m2 + 1 := ⟨m - 1, by omega⟩
    rw [f_X3_seatOf_28_30_L2, hU, if_neg (by rw [n_le (by omega) (by omega)]; omega), ck_t (okI_30 (by omega)), n_clamp (by omega), hS j (by omega), n_s1, s_seatOf30_L hU hS hn v k (j + 1) m (by omega) (by omega)]
    rw [fnd]
    split <;> rfl
theorem s_seatOf30 (hU : M.1 28 0 = nI n) (hS : ∀ j, j < n → M.1 30 j = nI (S j)) (hn : n ≤ 8) (v : Int32) : f_X3_seatOf_28_30 v M = some (seatI (fnd S v n 0)) := s_seatOf30_L hU hS hn v n 0 FU (by omega) (by unfold FU; omega)
theorem max_0 {k : Nat} (h : k < 2147483648) : ab_max 0 (nI k) = nI k := by
  rw [show (0 : Int32) = nI 0 from rfl, n_max (by omega) h, Nat.max_eq_right (by omega)]
theorem s_forget : f_X3_forgetOdds M = some (fiI M 32 0 192 (-1)) := by
  unfold f_X3_forgetOdds
  rw [s_fillA rfl (by decide), bd_s]
  rfl
theorem s_sit (hU : M.1 28 0 = nI n) (hn : n = 4 ∨ n = 8) : f_X3_sitDown M = some (cpI M 29 0 30 0 n) := by
  have ok : (okC 100 29 (0 : Int32) (nI n) && okC 100 30 (0 : Int32) (nI n)) = true := by rcases hn with rfl | rfl <;> decide
  unfold f_X3_sitDown
  rw [hU, ck_t ok, lt_e, n_clamp (by omega)]
  rfl
theorem Odd_f (np : Nat) (hp : np ≤ 8) (c : Nat → Nat → Nat → Nat) : Odd np c (fiI M 32 0 192 (-1)) := by
  intro r a b hr ha hb
  refine Or.inl ?_
  rw [fiI_rd, if_pos ⟨rfl, by omega, by omega⟩]
/-- odds forgotten, the seats as the row has them -/
theorem WS_0 (hO : OKF np nm wo wi lo ct) (hC : CF np nm wo wi lo ct M) (hW : CW lw M) (hU : CU n rw M) (h0 : ∀ j, j < n → M.1 30 j = nI (S j)) : WS np nm wo wi lo ct lw n rw S (fiI M 32 0 192 (-1)) := by
  have hR := hW.2.1
  have fr : FrS [(32, 0)] M (fiI M 32 0 192 (-1)) := fr_X3_forgetOdds M _ s_forget
  exact ⟨grp_CF.kp hR fr (by decide) hC, grp_CW.kp hR fr (by decide) hW, grp_CU.kp hR fr (by decide) hU, grp_30.kp hR fr (by decide) h0, Odd_f np hO.1 _⟩
theorem WS.sit (hn : n = 4 ∨ n = 8) (hO : OKF np nm wo wi lo ct) (hC : CF np nm wo wi lo ct M) (hW : CW lw M) (hU : CU n rw M) (hD : Odd np (cN lw wo) M) : f_X3_sitDown M = some (cpI M 29 0 30 0 n) ∧ WS np nm wo wi lo ct lw n rw rw (cpI M 29 0 30 0 n) := by
  have hs := s_sit hU.1 hn
  have hR := hW.2.1
  have fr := fr_X3_sitDown M _ hs
  refine ⟨hs, grp_CF.kp hR fr (by decide) hC, grp_CW.kp hR fr (by decide) hW, grp_CU.kp hR fr (by decide) hU, fun j hj => ?_, fun r a b h1 h2 h3 => ?_⟩
  · rw [cpI_rd, if_pos ⟨rfl, by omega, by omega⟩, Nat.zero_add, Nat.sub_zero]
    exact hU.2 j hj
  · rw [cpI_rd, if_neg (by omega)]
    exact hD r a b h1 h2 h3
theorem OKW.of (hO : OKF np nm wo wi lo ct) (hL : okO lw) (hU : OKU np n rw) : OKW np nm wo wi lo ct lw n rw := ⟨hO, hL, hU.1, hU.2.1, hU.2.2⟩
theorem s_roundFor (hU : M.1 28 0 = nI n) (hn : n = 4 ∨ n = 8) {w : Nat} (hw : w < 3) : f_X3_roundFor (nI w) M = some (nI (rFor n w)) := by
  unfold f_X3_roundFor
  rw [s_rounds hU hn, bd_s, bd_s]
  rcases show w = 0 ∨ w = 1 ∨ w = 2 by omega with rfl | rfl | rfl <;> rcases hn with rfl | rfl <;> rfl
theorem rFor_le (n w : Nat) : 1 ≤ rFor n w ∧ rFor n w ≤ rdn n ∧ rdn n ≤ 3 := by
  unfold rFor rdn
  split <;> split <;> try omega
  all_goals split <;> omega
theorem s_parts (hU : M.1 28 0 = nI n) (hn : n = 4 ∨ n = 8) {w : Nat} (hw : w < 3) : f_X3_partsInAll (nI w) M = some (lN (PN (rFor n w))) := by
  unfold f_X3_partsInAll
  rw [s_roundFor hU hn hw, bd_s]
  obtain ⟨h1, h2, h3⟩ := rFor_le n w
  rcases show rFor n w = 1 ∨ rFor n w = 2 ∨ rFor n w = 3 by omega with e | e | e <;> rw [e] <;> rfl
theorem likN_b (hc : ∀ r a b, cN lw wo r a b ≤ 100) {k w : Nat} : (if w = 2 then 100 - th (cN lw wo) rw 1 k else th (cN lw wo) rw (rFor n w) k) < 2 ^ 60 ∧ 0 < PN (rFor n w) ∧ PN (rFor n w) < 2 ^ 47 := by
  obtain ⟨t1, t2, t3⟩ := th_le hc rw
  obtain ⟨h1, h2, h3⟩ := rFor_le n w
  constructor
  · split
    · omega
    · rcases show rFor n w = 1 ∨ rFor n w = 2 ∨ rFor n w = 3 by omega with e | e | e <;> rw [e]
      · have := t1 k; omega
      · have := t2 k; omega
      · have := t3 k; omega
  · rcases show rFor n w = 1 ∨ rFor n w = 2 ∨ rFor n w = 3 by omega with e | e | e <;> rw [e] <;> decide
theorem in3_c (v : Int32) : (inN 3 v = true ∧ ¬ v < 0 ∧ ¬ 2 < v) ∨ (inN 3 v = false ∧ (v < 0 ∨ 2 < v)) := by
  have h0 : (0 : Int32).toInt = 0 := rfl
  have h2 : (2 : Int32).toInt = 2 := rfl
  simp only [inN, decide_eq_true_eq, decide_eq_false_iff_not, i_lt, h0, h2]
  omega
theorem cl_likely (hO : OKF np nm wo wi lo ct) (hL : okO lw) (hOU : OKU np n rw) (hC : CF np nm wo wi lo ct M) (hW : CW lw M) (hU : CU n rw M) (v w p : Int32) : ∃ M1, f_X10_likely v w p M = some (likA (cN lw wo) n rw v w p, M1) := by
  have hn8 := hOU.1
  unfold f_X10_likely f_X10_likely_b29 likA
  rw [s_hasC hU hn8, bd_s, ite_bb]
  unfold inRow
  cases hf : fnd rw v n 0 with
  | none => exact ⟨M, rfl⟩
  | some k =>
    obtain ⟨-, hk, hkv⟩ := fnd_some n 0 k hf
    simp only [Option.isSome_some, if_true]
    rcases in3_c w with ⟨q1, q2, q3⟩ | ⟨q1, q2⟩
    · rw [if_neg q2, if_neg q3]
      rcases in2_c p with ⟨p1, p2, p3⟩ | ⟨p1, p2⟩
      · rw [if_neg p2, if_pos p3, s_isWhole hU.1 hn8, bd_s, ite_bb]
        by_cases hn : n = 4 ∨ n = 8
        · rw [if_pos (by simpa using hn), if_pos ⟨q1, p1, hn⟩]
          obtain ⟨j, hj, hj2, rfl⟩ := inN_t q1
          rw [n_clamp hj2]
          obtain ⟨h4, w4⟩ := WS.sit (M := fiI M 32 0 192 (-1)) hn hO (grp_CF.kp hW.2.1 (fr_X3_forgetOdds M _ s_forget) (by decide) hC) (grp_CW.kp hW.2.1 (fr_X3_forgetOdds M _ s_forget) (by decide) hW) (grp_CU.kp hW.2.1 (fr_X3_forgetOdds M _ s_forget) (by decide) hU) (Odd_f np hO.1 _)
          obtain ⟨M6, f6, w6, t6⟩ := cl_weigh (OKW.of hO hL hOU) hn w4
          obtain ⟨r1, r2, r3⟩ := rFor_le n j
          have ei : nI (rFor n j) * 8 + nI k = nI (rFor n j * 8 + k) := by rw [show (8 : Int32) = nI 8 from rfl, n_mul, n_add]
          obtain ⟨b1, b2, b3⟩ := likN_b (n := n) (rw := rw) (cN_le lw wo) (k := k) (w := j)
          have hpf : f_X3_partsFor v (nI j) M = some (lN (if j = 2 then 100 - th (cN lw wo) rw 1 k else th (cN lw wo) rw (rFor n j) k), M6) := by
            unfold f_X3_partsFor
            rw [s_forget, bd_s, h4, bd_s, f6, bd_s, s_roundFor w6.2.2.1.1 hn hj, bd_s, s_seatOf30 w6.2.2.1.1 w6.2.2.2.1 hn8, bd_s, hf, show seatI (some k) = nI k from rfl]
            rw [max_0 (by omega), ei, ck_t (okL_33 (by omega)), lt_e, n_clamp (by omega), t6 _ r2 k (by omega)]
            by_cases q : j = 2
            · subst q
              rw [if_pos (show nI 2 = 2 from rfl), if_pos rfl]
              have := (th_le (cN_le lw wo) rw).1 k
              have e1 : rFor n 2 = 1 := rfl
              rw [s_parts w6.2.2.1.1 hn (by omega), bd_s, e1, lN_sub (show th (cN lw wo) rw 1 k ≤ PN 1 from this)]
              rfl
            · rw [if_neg (show ¬ nI j = 2 from fun q2 => q ((n_eq (b := 2) (by omega) (by omega)).mp q2)), if_neg q]
          rw [hpf, bI_s, s_parts w6.2.2.1.1 hn hj, bd_s, cl_low b1 b3 b2, bd_s]
          exact ⟨M6, rfl⟩
        · have hA : ¬ (inN 3 w = true ∧ inN 2 p = true ∧ (n = 4 ∨ n = 8)) := fun h => hn h.2.2
          rw [if_neg (by simpa using hn), if_neg hA]
          exact ⟨M, rfl⟩
      · have hA : ¬ (inN 3 w = true ∧ inN 2 p = true ∧ (n = 4 ∨ n = 8)) := fun h => by rw [p1] at h; exact absurd h.2.1 (by decide)
        rw [if_neg hA]
        rcases p2 with p2 | p2
        · rw [if_pos p2]; exact ⟨M, rfl⟩
        · rw [if_neg p2, ite_self]; exact ⟨M, rfl⟩
    · have hA : ¬ (inN 3 w = true ∧ inN 2 p = true ∧ (n = 4 ∨ n = 8)) := fun h => by rw [q1] at h; exact absurd h.1 (by decide)
      rw [if_neg hA]
      rcases q2 with q2 | q2
      · rw [if_pos q2]; exact ⟨M, rfl⟩
      · rw [if_pos q2, ite_self]; exact ⟨M, rfl⟩
theorem MWS_0 (hR : okR M) (hC : MF np nm wo wi lo ct M) (hW : MW lw M) (hU : MU n rw M) : MWS np nm wo wi lo ct lw n rw rw (cpI M 65 0 66 0 n) := by
  have fr : FrS [(66, 0)] M (cpI M 65 0 66 0 n) := fr_cpI (by decide)
  refine ⟨grp_MF.kp hR fr (by decide) hC, grp_MW.kp hR fr (by decide) hW, grp_MU.kp hR fr (by decide) hU, fun j hj => ?_, hR⟩
  rw [cpI_rd, if_pos ⟨rfl, by omega, by omega⟩, Nat.zero_add, Nat.sub_zero]
  exact hU.2 j hj
theorem mo_likely (hR : okR M) (hO : OKF np nm wo wi lo ct) (hL : okO lw) (hOU : OKU np n rw) (hC : MF np nm wo wi lo ct M) (hW : MW lw M) (hU : MU n rw M) (v w p : Int32) : ∃ M1, f_X11_likely v w p M = some (likA (cN lw wo) n rw v w p, M1) := by
  have hn8 := hOU.1
  unfold f_X11_likely f_X11_likely_b41 likA
  rw [s_placeInRow hU hn8, bd_s]
  cases hf : fnd rw v n 0 with
  | none => exact ⟨M, rfl⟩
  | some k =>
    obtain ⟨-, hk, hkv⟩ := fnd_some n 0 k hf
    show ∃ M1, (if nI k < 0 then _ else _) = some (if inN 3 w = true ∧ inN 2 p = true ∧ (n = 4 ∨ n = 8) then lN (likN (cN lw wo) rw n k w.toNatClampNeg p) else -9223372036854775808, M1)
    rw [if_neg (nI_pos (by omega)), s_within_n 2 2 rfl w, bd_s, ite_bb]
    by_cases q1 : inN 3 w = true
    case neg =>
      have hA : ¬ (inN 3 w = true ∧ inN 2 p = true ∧ (n = 4 ∨ n = 8)) := fun h => q1 h.1
      rw [if_neg q1, if_neg hA]
      exact ⟨M, rfl⟩
    · rw [if_pos q1, s_within_n 1 1 rfl p, bd_s, ite_bb]
      by_cases p1 : inN 2 p = true
      case neg =>
        have hA : ¬ (inN 3 w = true ∧ inN 2 p = true ∧ (n = 4 ∨ n = 8)) := fun h => p1 h.2.1
        rw [if_neg p1, if_neg hA]
        exact ⟨M, rfl⟩
      · rw [if_pos p1, s_isCup hU.1 hn8, bd_s, ite_bb]
        by_cases hn : n = 4 ∨ n = 8
        · rw [if_pos (by simpa using hn), if_pos ⟨q1, p1, hn⟩, mo_linesUp hU.1 hn8, bd_s]
          obtain ⟨j, hj, hj2, rfl⟩ := inN_t q1
          rw [n_clamp hj2]
          obtain ⟨M6, f6, w6, t1, t2, t3⟩ := mo_goesCup (OKW.of hO hL hOU) hn (MWS_0 hR hC hW hU)
          obtain ⟨b1, b2, b3⟩ := likN_b (n := n) (rw := rw) (cN_le lw wo) (k := k) (w := j)
          rw [f6, bd_s, w6.2.2.1.1]
          have hth := (th_le (cN_le lw wo) rw).1 k
          unfold f_X11_likely_b91
          rw [show seatI (some k) = nI k from rfl, n_clamp (by omega)]
          rcases show j = 0 ∨ j = 1 ∨ j = 2 by omega with rfl | rfl | rfl
          · rw [if_neg (by decide)]
            rcases hn with rfl | rfl
            · rw [if_neg (by decide), if_neg (by decide), if_pos rfl, ck_t (okL_68 (by omega)), t2 k (by omega), show (1000000 : Int64) = lN 1000000 from rfl, mo_part (a := th (cN lw wo) rw 2 k) b1 (show 1000000 < 2 ^ 60 by decide) (by decide), bd_s]
              exact ⟨M6, rfl⟩
            · rw [if_pos (show nI 8 = 8 from rfl), if_neg (by decide), if_neg (by decide), ck_t (okL_69 (by omega)), t3 rfl k (by omega), show (100000000000000 : Int64) = lN 100000000000000 from rfl, mo_part (a := th (cN lw wo) rw 3 k) b1 (show 100000000000000 < 2 ^ 60 by decide) (by decide), bd_s]
              exact ⟨M6, rfl⟩
          · rw [if_neg (by decide)]
            rcases hn with rfl | rfl
            · rw [if_neg (by decide), if_pos (show nI 1 = 1 from rfl), if_pos rfl, ck_t (okL_67 (by omega)), t1 k (by omega), show (100 : Int64) = lN 100 from rfl, mo_part (a := th (cN lw wo) rw 1 k) b1 (show 100 < 2 ^ 60 by decide) (by decide), bd_s]
              exact ⟨M6, rfl⟩
            · rw [if_pos (show nI 8 = 8 from rfl), if_pos (show nI 1 = 1 from rfl), if_neg (by decide), ck_t (okL_68 (by omega)), t2 k (by omega), show (1000000 : Int64) = lN 1000000 from rfl, mo_part (a := th (cN lw wo) rw 2 k) b1 (show 1000000 < 2 ^ 60 by decide) (by decide), bd_s]
              exact ⟨M6, rfl⟩
          · rw [if_pos (show nI 2 = 2 from rfl), ck_t (okL_67 (by omega)), t1 k (by omega), show (100 : Int64) = lN 100 from rfl, lN_sub hth, mo_part (a := 100 - th (cN lw wo) rw 1 k) (b := 100) b1 (by decide) (by decide), bd_s]
            exact ⟨M6, rfl⟩
        · have hA : ¬ (inN 3 w = true ∧ inN 2 p = true ∧ (n = 4 ∨ n = 8)) := fun h => hn h.2.2
          rw [if_neg (by simpa using hn), if_neg hA]
          exact ⟨M, rfl⟩
end LIK
