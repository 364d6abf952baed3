def lnS (x : LwN) : LwL := match x.2 with
  | none => x.1 ++ [(59, 0)]
  | some l2 => x.1 ++ [(63, 0)] ++ l2 ++ [(59, 0)]
def lnA (ls : List LwN) : LwL := ls.flatMap lnS
theorem lnA_app (a b : List LwN) : lnA (a ++ b) = lnA a ++ lnA b := by simp [lnA]
theorem lnA_1 (x : LwN) : lnA [x] = lnS x := by simp [lnA]
def okLn (x : LwN) : Prop := okSt x.1 ∧ ∀ l, x.2 = some l → okSt l
section CLAW3
variable {tp : Nat → Nat} {n D E : Nat} {F : Nat → Int32} {s : LwS} {dl : LwL} {M : Mem}
theorem Gd_line {s : LwS} (h : s.1 ≤ n) : s.1 ≤ (pLine tp n s).1.1 ∧ (pLine tp n s).1.1 ≤ n ∧ (lnS (pLine tp n s).2).length + s.1 ≤ (pLine tp n s).1.1 + 1 ∧ okLn (pLine tp n s).2 := by
  have hG := Gd_eith (tp := tp) (n := n) (Gd_one (tp := tp) 6)
  unfold pLine
  generalize pEith tp n (pOne tp n 6) = P at *
  obtain ⟨g1, g2, g3, g4⟩ := hG s h
  by_cases q : lch tp n (P s).1 = 63
  · rw [if_pos q]
    obtain ⟨b1, -⟩ := lch_lt (tp := tp) (n := n) (s := (P s).1) (by omega)
    have e : (ladv (P s).1).1 = (P s).1.1 + 1 := rfl
    obtain ⟨k1, k2, k3, k4⟩ := hG (ladv (P s).1) (by omega)
    refine ⟨by simp only; omega, k2, ?_, g4, fun l hl => ?_⟩
    · simp only [lnS, List.length_append, List.length_singleton]; omega
    · cases hl; exact k4
  · rw [if_neg q]
    refine ⟨g1, g2, ?_, g4, fun l hl => ?_⟩
    · simp only [lnS, List.length_append, List.length_singleton]; omega
    · cases hl
theorem cs_line (hT : okTx tp n) (hD : okDE D E) (hs : s.1 ≤ n) (hl : dl.length ≤ s.1) (hC : CSt tp n D E F s dl M) : ∃ M2, f_X5_readLine M = some M2 ∧ CSt tp n D E F (pLine tp n s).1 (dl ++ lnS (pLine tp n s).2) M2 := by
  have h120 := hT.1
  have hG := Gd_eith (tp := tp) (n := n) (Gd_one (tp := tp) 6)
  have hE : ClP tp n D E F (f_X5_readEither (f_X5_readOne FD) (nI 0)) (pEith tp n (pOne tp n 6)) := cs_eith hT hD (cs_one hT hD 6 33 (by omega)) (Gd_one 6)
  have hE' : ClP tp n D E F (f_X5_readEither (f_X5_readOne FD) 0) (pEith tp n (pOne tp n 6)) := hE
  unfold f_X5_readLine pLine
  generalize pEith tp n (pOne tp n 6) = P at *
  obtain ⟨g1, g2, g3, g4⟩ := hG s hs
  obtain ⟨M2, f2, c2⟩ := hE' s dl M hs hl hC
  obtain ⟨M4, f4, c4⟩ := cs_comes hT hD c2 g2 (k := 63) (by omega)
  have f4' : f_X5_comes 63 M2 = _ := f4
  rw [f2, bd_s, f4', bI_s, ite_bb]
  unfold f_X5_readLine_b26
  by_cases q : lch tp n (P s).1 = 63
  · rw [if_pos (by simpa using q), if_pos q]
    rw [if_pos q] at c4
    obtain ⟨b1, -⟩ := lch_lt (tp := tp) (n := n) (s := (P s).1) (by omega)
    have e : (ladv (P s).1).1 = (P s).1.1 + 1 := rfl
    obtain ⟨k1, k2, k3, k4⟩ := hG (ladv (P s).1) (by omega)
    obtain ⟨M5, f5, c5⟩ := cs_add hD c4 (by rw [List.length_append]; omega) (c := 63) (v := 0)
    have f5' : f_X5_addStep 63 0 M4 = _ := f5
    obtain ⟨M6, f6, c6⟩ := hE' (ladv (P s).1) _ M5 (by omega) (by rw [List.length_append, List.length_append, List.length_singleton]; omega) c5
    obtain ⟨M7, f7, c7⟩ := cs_add hD c6 (by rw [List.length_append, List.length_append, List.length_append, List.length_singleton]; omega) (c := 59) (v := 0)
    have f7' : f_X5_addStep 59 0 M6 = _ := f7
    refine ⟨M7, by rw [f5', bd_s, f6, bd_s, f7', bd_s], ?_⟩
    simp only [lnS, List.append_assoc] at c7 ⊢
    exact c7
  · rw [if_neg (by simpa using q), if_neg q]
    rw [if_neg q] at c4
    obtain ⟨M7, f7, c7⟩ := cs_add hD c4 (by rw [List.length_append]; omega) (c := 59) (v := 0)
    have f7' : f_X5_addStep 59 0 M4 = _ := f7
    refine ⟨M7, by rw [f7', bd_s], ?_⟩
    simp only [lnS, List.append_assoc] at c7 ⊢
    exact c7
theorem cs_ls (hT : okTx tp n) (hD : okDE D E) : ∀ (k m t : Nat) (s : LwS) (ls : List LwN) (M : Mem), n < s.1 + k → k < m → t + n ≤ 120 + s.1 → s.1 ≤ n → (lnA ls).length ≤ s.1 + 1 → CSt tp n D E F s (lnA ls) M → ∃ M2, f_X5_readLines_L6 m (nI t) M = f_X5_readLines_b31 M2 ∧ CSt tp n D E F (pLs tp n k s ls).1 (lnA (pLs tp n k s ls).2) M2 ∧ (pLs tp n k s ls).1.1 ≤ n
  | 0, m, t, s, ls, M, h1, _, _, h4, _, _ => by omega
  | k + 1, m, t, s, ls, M, h1, h2, h3, h4, h5, hC => by
    have h120 := hT.1
    obtain ⟨m, rfl⟩ : ∃ m2, m = m2 + 1 := ⟨m - 1, by omega⟩
    rw [f_X5_readLines_L6, pLs]
    by_cases ht : (120 : Int32) ≤ nI t
    · have ht2 := (n_le (a := 120) (by omega) (by omega)).mp ht
      have e : lch tp n s = 999 := by unfold lch; rw [if_neg (by omega)]
      rw [if_pos ht, e, if_neg (by omega)]
      exact ⟨M, rfl, hC, h4⟩
    · rw [if_neg ht]
      obtain ⟨M2, f2, c2⟩ := cs_comes hT hD hC h4 (k := 59) (by omega)
      have f2' : f_X5_comes 59 M = _ := f2
      rw [f2', bI_s, ite_bb]
      by_cases q : lch tp n s = 59
      · rw [if_pos (by simpa using q), if_pos q]
        rw [if_pos q] at c2
        obtain ⟨b1, -⟩ := lch_lt (tp := tp) (n := n) (s := s) (by omega)
        have e1 : (ladv s).1 = s.1 + 1 := rfl
        obtain ⟨g1, g2, g3, -⟩ := Gd_line (tp := tp) (n := n) (s := ladv s) (by omega)
        obtain ⟨M4, f4, c4⟩ := cs_line hT hD (by omega) (by omega) c2
        rw [← lnA_1, ← lnA_app] at c4
        obtain ⟨M6, f6, c6, l6⟩ := cs_ls hT hD k m (t + 1) _ _ M4 (by omega) (by omega) (by omega) g2 (by rw [lnA_app, List.length_append, lnA_1]; omega) c4
        refine ⟨M6, ?_, c6, l6⟩
        rw [f4, bd_s, n_s1, f6]
      · rw [if_neg (by simpa using q), if_neg q]
        rw [if_neg q] at c2
        exact ⟨M2, rfl, c2, h4⟩
theorem cs_lines (hT : okTx tp n) (hD : okDE D E) (hC : CSt tp n D E F (0, none) [] M) : ∃ M2, f_X5_readLines M = some M2 ∧ CSt tp n D E F (pAll tp n).1 (lnA (pAll tp n).2) M2 := by
  have h120 := hT.1
  obtain ⟨M2, f2, c2⟩ := cs_line hT hD (s := (0, none)) (by simp) (by simp) hC
  rw [List.nil_append, ← lnA_1] at c2
  obtain ⟨g1, g2, g3, -⟩ := Gd_line (tp := tp) (n := n) (s := (0, none)) (by simp)
  obtain ⟨M4, f4, c4, l4⟩ := cs_ls hT hD 130 FU 0 _ _ M2 (by omega) (by unfold FU; omega) (by omega) g2 (by rw [lnA_1]; simp only at g3; omega) c2
  have f4' : f_X5_readLines_L6 FU 0 M2 = _ := f4
  unfold f_X5_readLines
  rw [f2, bd_s, f4']
  unfold f_X5_readLines_b31 pAll
  change CSt tp n D E F (pAll0 tp n).1 (lnA (pAll0 tp n).2) M4 at c4
  change (pAll0 tp n).1.1 ≤ n at l4
  generalize pAll0 tp n = R at *
  rw [c4.1, c4.2.2.1]
  simp only [n_le (show n < 2147483648 by omega) (show R.1.1 < 2147483648 by omega)]
  by_cases q : n ≤ R.1.1
  · rw [if_pos q, if_neg (by omega)]
    exact ⟨M4, rfl, c4⟩
  · rw [if_neg q, if_pos (by omega)]
    obtain ⟨M5, f5, c5⟩ := cs_fail hT hD c4 l4
    exact ⟨M5, by rw [f5]; rfl, c5⟩
end CLAW3
