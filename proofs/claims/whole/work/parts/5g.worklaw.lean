/-! the model works the lines out; the class takes the text in -/
def hld (nm : Nat → Int32) (x : LwN) : Bool := match x.2 with
  | none => true
  | some _ => !(decide (vl nm x.1 = 0))
def vln (nm : Nat → Int32) (x : LwN) : Int32 := match x.2 with
  | none => vl nm x.1
  | some l2 => vl nm l2
def gvn (nm : Nat → Int32) (ls : List LwN) : Bool := ls.any (hld nm)
theorem evW_c (nm : Nat → Int32) (x : LwN) (r : List LwN) : evW nm (x :: r) = if hld nm x = true then vln nm x else evW nm r := by
  obtain ⟨l, o⟩ := x
  cases o with
  | none => simp [evW, hld, vln]
  | some l2 =>
    by_cases q : vl nm l = 0 <;> simp [evW, hld, vln, q]
theorem evW_app (nm : Nat → Int32) : ∀ (ls : List LwN) (x : LwN), evW nm (ls ++ [x]) = if gvn nm ls = true then evW nm ls else if hld nm x = true then vln nm x else 0
  | [], x => by simp [evW_c, gvn, evW]
  | y :: ls, x => by
    rw [List.cons_append, evW_c, evW_c, evW_app nm ls x]
    by_cases q : hld nm y = true
    · simp [q, gvn]
    · have q2 : hld nm y = false := by simpa using q
      have g : gvn nm (y :: ls) = gvn nm ls := by unfold gvn; rw [List.any_cons, q2, Bool.false_or]
      rw [if_neg q, if_neg q, g]
theorem evW_0 (nm : Nat → Int32) : ∀ ls : List LwN, gvn nm ls = false → evW nm ls = 0
  | [], _ => rfl
  | y :: ls, h => by
    simp only [gvn, List.any_cons, Bool.or_eq_false_iff] at h
    rw [evW_c, h.1]
    simpa using evW_0 nm ls h.2
theorem gvn_app (nm : Nat → Int32) (ls : List LwN) (x : LwN) : gvn nm (ls ++ [x]) = (gvn nm ls || hld nm x) := by simp [gvn]
section MWORK
variable {tp : Nat → Nat} {n : Nat} {bs : Bool} {nm : Nat → Int32} {s : LwS} {M : Mem}
theorem OkV_line (s : LwS) : (pLine tp n s).1.2 = none → s.2 = none ∧ ∀ nm, okVn nm (pLine tp n s).2 := by
  have hV : OkV (pEith tp n (pOne tp n 6)) := OkV_eith (OkV_one 6)
  unfold pLine
  generalize pEith tp n (pOne tp n 6) = P at *
  by_cases q : lch tp n (P s).1 = 63
  · rw [if_pos q]
    intro h
    obtain ⟨a, b⟩ := hV _ h
    obtain ⟨c, d⟩ := hV s a
    exact ⟨c, fun nm => ⟨d nm, fun l hl => by cases hl; exact b nm⟩⟩
  · rw [if_neg q]
    intro h
    obtain ⟨c, d⟩ := hV s h
    exact ⟨c, fun nm => ⟨d nm, fun l hl => by cases hl⟩⟩
theorem OkV_ls : ∀ (k : Nat) (s : LwS) (ls : List LwN), (pLs tp n k s ls).1.2 = none → s.2 = none ∧ ∀ nm, (∀ x ∈ ls, okVn nm x) → ∀ x ∈ (pLs tp n k s ls).2, okVn nm x
  | 0, s, ls, h => ⟨h, fun nm hl => hl⟩
  | k + 1, s, ls, h => by
    rw [pLs] at h ⊢
    by_cases q : lch tp n s = 59
    · rw [if_pos q] at h ⊢
      obtain ⟨a, b⟩ := OkV_ls k _ _ h
      obtain ⟨c, d⟩ := OkV_line _ a
      refine ⟨c, fun nm hl => b nm (fun x hx => ?_)⟩
      rcases List.mem_append.mp hx with hx | hx
      · exact hl x hx
      · rw [List.mem_singleton.mp hx]; exact d nm
    · rw [if_neg q] at h ⊢
      exact ⟨h, fun nm hl => hl⟩
theorem Gd_ls : ∀ (k : Nat) (s : LwS) (ls : List LwN), s.1 ≤ n → (lnA ls).length ≤ s.1 + 1 → (∀ x ∈ ls, okLn x) → 1 ≤ (lnA ls).length → s.1 ≤ (pLs tp n k s ls).1.1 ∧ (pLs tp n k s ls).1.1 ≤ n ∧ (lnA (pLs tp n k s ls).2).length ≤ (pLs tp n k s ls).1.1 + 1 ∧ (∀ x ∈ (pLs tp n k s ls).2, okLn x) ∧ 1 ≤ (lnA (pLs tp n k s ls).2).length
  | 0, s, ls, h1, h2, h3, h4 => ⟨Nat.le_refl _, h1, h2, h3, h4⟩
  | k + 1, s, ls, h1, h2, h3, h4 => by
    rw [pLs]
    by_cases q : lch tp n s = 59
    · rw [if_pos q]
      obtain ⟨b1, -⟩ := lch_lt (tp := tp) (n := n) (s := s) (by omega)
      have e1 : (ladv s).1 = s.1 + 1 := rfl
      obtain ⟨g1, g2, g3, g4⟩ := Gd_line (tp := tp) (n := n) (s := ladv s) (by omega)
      obtain ⟨r1, r2, r3, r4, r5⟩ := Gd_ls k (pLine tp n (ladv s)).1 (ls ++ [(pLine tp n (ladv s)).2]) g2 (by rw [lnA_app, List.length_append, lnA_1]; omega) (fun x hx => by
        rcases List.mem_append.mp hx with hx | hx
        · exact h3 x hx
        · rw [List.mem_singleton.mp hx]; exact g4) (by rw [lnA_app, List.length_append]; omega)
      exact ⟨by omega, r2, r3, r4, r5⟩
    · rw [if_neg q]
      exact ⟨Nat.le_refl _, h1, h2, h3, h4⟩
theorem lnS_pos (x : LwN) : 1 ≤ (lnS x).length := by
  unfold lnS
  split
  · simp
  · simp only [List.length_append, List.length_singleton]; omega
theorem Gd_all : (pAll tp n).1.1 ≤ n ∧ (lnA (pAll tp n).2).length ≤ n + 1 ∧ (∀ x ∈ (pAll tp n).2, okLn x) ∧ 1 ≤ (lnA (pAll tp n).2).length := by
  obtain ⟨g1, g2, g3, g4⟩ := Gd_line (tp := tp) (n := n) (s := (0, none)) (by simp)
  have hp := lnS_pos (pLine tp n (0, none)).2
  obtain ⟨r1, r2, r3, r4, r5⟩ := Gd_ls (tp := tp) (n := n) 130 (pLine tp n (0, none)).1 [(pLine tp n (0, none)).2] g2 (by rw [lnA_1]; simp only at g3; omega) (fun x hx => by rw [List.mem_singleton.mp hx]; exact g4) (by rw [lnA_1]; exact hp)
  unfold pAll pAll0
  refine ⟨?_, by simp only; omega, r4, r5⟩
  split
  · simp only [lfal]; omega
  · exact r2
theorem OkV_all (h : (pAll tp n).1.2 = none) : ∀ nm, ∀ x ∈ (pAll tp n).2, okVn nm x := by
  have h0 : (pAll0 tp n).1.2 = none := by
    unfold pAll at h
    by_cases q : (pAll0 tp n).1.1 < n
    · rw [if_pos q] at h; exact absurd h (lfal_n _)
    · rw [if_neg q] at h; exact h
  obtain ⟨a, b⟩ := OkV_ls _ _ _ h0
  obtain ⟨c, d⟩ := OkV_line _ a
  intro nm
  exact b nm (fun x hx => by rw [List.mem_singleton.mp hx]; exact d nm)
theorem ms_line (hT : okTx tp n) (hs : s.1 ≤ n) (hC : MSt tp n bs nm 6 s M) (m : Nat) (v3 v4 : Int32) : ∃ M2 w3 w4, f_X11_workOut_L33 (m + 1) v3 v4 1 M = f_X11_workOut_L33 m w3 w4 (bb (decide (lch tp n (pLine tp n s).1 = 59))) M2 ∧ MSt tp n bs nm 6 (if lch tp n (pLine tp n s).1 = 59 then ladv (pLine tp n s).1 else (pLine tp n s).1) M2 ∧ ((pLine tp n s).1.2 = none → w3 = (if v3 = 0 ∧ hld nm (pLine tp n s).2 = true then 1 else v3) ∧ w4 = (if v3 = 0 ∧ hld nm (pLine tp n s).2 = true then vln nm (pLine tp n s).2 else v4)) := by
  have h120 := hT.1
  have hG := Gd_eith (tp := tp) (n := n) (Gd_one (tp := tp) 6)
  have hE : MoP tp n bs nm 6 (f_X11_either (f_X11_one FD)) (pEith tp n (pOne tp n 6)) := ms_eith hT (ms_one hT 6 33 (by omega)) (Gd_one 6) (OkV_one 6)
  rw [f_X11_workOut_L33, if_neg (by decide)]
  unfold pLine
  generalize pEith tp n (pOne tp n 6) = P at *
  obtain ⟨g1, g2, -, -⟩ := hG s hs
  obtain ⟨x3, M4, f4, c4, e4⟩ := hE s M hs hC
  obtain ⟨M6, f6, c6⟩ := ms_takes hT c4 g2 (k := 63) (by omega) (by omega)
  have f6' : f_X11_takes 63 M4 = _ := f6
  rw [f4, bI_s, f6', bI_s, ite_bb]
  have tail : ∀ (s2 : LwS) (M7 : Mem) (v6 v7 : Int32), s2.1 ≤ n → MSt tp n bs nm 6 s2 M7 → ∃ M8 w3 w4, f_X11_workOut_b74 (fun a0 a1 a2 a3 => f_X11_workOut_L33 m a0 a1 a2 a3) v3 v4 v6 v7 M7 = f_X11_workOut_L33 m w3 w4 (bb (decide (lch tp n s2 = 59))) M8 ∧ MSt tp n bs nm 6 (if lch tp n s2 = 59 then ladv s2 else s2) M8 ∧ (s2.2 = none → w3 = (if v3 = 0 ∧ ¬ v7 = 0 then 1 else v3) ∧ w4 = (if v3 = 0 ∧ ¬ v7 = 0 then v6 else v4)) := by
    intro s2 M7 v6 v7 hs2 c7
    obtain ⟨M8, f8, c8⟩ := ms_takes hT c7 hs2 (k := 59) (by omega) (by omega)
    have f8' : f_X11_takes 59 M7 = _ := f8
    unfold f_X11_workOut_b74 f_X11_workOut_b96
    simp only [c7.fl hT, f8', bI_s]
    by_cases q : s2.2 = none
    · rw [if_neg (by simpa using q)]
      by_cases q7 : v7 = 0
      · rw [if_pos q7]
        exact ⟨M8, v3, v4, rfl, c8, fun _ => by simp [q7]⟩
      · rw [if_neg q7]
        by_cases q3 : v3 = 0
        · rw [if_pos q3]
          exact ⟨M8, 1, v6, rfl, c8, fun _ => by simp [q7, q3]⟩
        · rw [if_neg q3]
          exact ⟨M8, v3, v4, rfl, c8, fun _ => by simp [q3]⟩
    · rw [if_pos q]
      exact ⟨M8, v3, v4, rfl, c8, fun q2 => absurd q2 q⟩
  by_cases q : lch tp n (P s).1 = 63
  · rw [if_pos (by simpa using q), if_pos q]
    rw [if_pos q] at c6
    obtain ⟨b1, b2⟩ := lch_lt (tp := tp) (n := n) (s := (P s).1) (by omega)
    have e : (ladv (P s).1).1 = (P s).1.1 + 1 := rfl
    obtain ⟨k1, k2, -, -⟩ := hG (ladv (P s).1) (by omega)
    obtain ⟨x5, M7, f7, c7, e7⟩ := hE (ladv (P s).1) M6 (by omega) c6
    have hx3 := e4 b2
    unfold f_X11_workOut_b66
    rw [f7, bI_s, bI_s]
    by_cases q0 : x3 = 0
    · rw [if_pos q0]
      obtain ⟨M8, w3, w4, f8, c8, e8⟩ := tail _ M7 x5 0 k2 c7
      refine ⟨M8, w3, w4, f8, c8, fun q2 => ?_⟩
      obtain ⟨e1, e2⟩ := e8 q2
      rw [q0] at hx3
      rw [e1, e2]
      simp [hld, ← hx3]
    · rw [if_neg q0]
      obtain ⟨M8, w3, w4, f8, c8, e8⟩ := tail _ M7 x5 1 k2 c7
      refine ⟨M8, w3, w4, f8, c8, fun q2 => ?_⟩
      obtain ⟨e1, e2⟩ := e8 q2
      rw [e1, e2, e7 q2]
      simp [hld, ← hx3, q0, vln]
  · rw [if_neg (by simpa using q), if_neg q]
    rw [if_neg q] at c6
    obtain ⟨M8, w3, w4, f8, c8, e8⟩ := tail _ M6 x3 1 g2 c6
    refine ⟨M8, w3, w4, f8, c8, fun q2 => ?_⟩
    obtain ⟨e1, e2⟩ := e8 q2
    rw [e1, e2, e4 q2]
    simp [hld, vln]
/-- what stands at the end -/
def fin (n : Nat) (R : LwS × List LwN) : LwS := if R.1.1 < n then lfal R.1 else R.1
theorem ms_ls (hT : okTx tp n) : ∀ (k m : Nat) (s : LwS) (ls : List LwN) (v3 v4 : Int32) (M : Mem), n < s.1 + k → k < m → s.1 ≤ n → (s.2 = none → v3 = bb (gvn nm ls) ∧ v4 = evW nm ls) → MSt tp n bs nm 6 (if lch tp n s = 59 then ladv s else s) M → ∃ v M2, f_X11_workOut_L33 m v3 v4 (bb (decide (lch tp n s = 59))) M = some (v, M2) ∧ MSt tp n bs nm 6 (fin n (pLs tp n k s ls)) M2 ∧ ((fin n (pLs tp n k s ls)).2 = none → v = evW nm (pLs tp n k s ls).2)
  | 0, m, s, ls, v3, v4, M, h1, _, h3, _, _ => by omega
  | k + 1, m, s, ls, v3, v4, M, h1, h2, h3, hv, hC => by
    have h120 := hT.1
    obtain ⟨m, rfl⟩ : ∃ m2, m = m2 + 1 := ⟨m - 1, by omega⟩
    rw [pLs]
    by_cases q : lch tp n s = 59
    · rw [if_pos q] at hC
      rw [if_pos q, decide_eq_true q]
      obtain ⟨b1, b2⟩ := lch_lt (tp := tp) (n := n) (s := s) (by omega)
      have e1 : (ladv s).1 = s.1 + 1 := rfl
      obtain ⟨g1, g2, -, -⟩ := Gd_line (tp := tp) (n := n) (s := ladv s) (by omega)
      obtain ⟨M2, w3, w4, f2, c2, e2⟩ := ms_line hT (by omega) hC m v3 v4
      show ∃ v M2, f_X11_workOut_L33 (m + 1) v3 v4 1 M = _ ∧ _
      rw [f2]
      obtain ⟨hv1, hv2⟩ := hv b2
      refine ms_ls hT k m _ _ w3 w4 M2 (by omega) (by omega) g2 (fun q2 => ?_) c2
      obtain ⟨p1, p2⟩ := e2 q2
      rw [p1, p2, hv1, hv2, gvn_app, evW_app]
      cases hg : gvn nm ls
      · cases hh : hld nm (pLine tp n (ladv s)).2
        · simp [bb, evW_0 nm ls hg]
        · simp [bb]
      · simp [bb]
    · rw [if_neg q] at hC
      rw [if_neg q, decide_eq_false q]
      show ∃ v M2, f_X11_workOut_L33 (m + 1) v3 v4 0 M = _ ∧ _
      rw [f_X11_workOut_L33, if_pos rfl]
      simp only [hC.fl hT]
      unfold fin
      by_cases q2 : s.2 = none
      · rw [if_neg (by simpa using q2), hC.2.2.2.1, hC.2.2.1]
        simp only [n_le (show n < 2147483648 by omega) (show s.1 < 2147483648 by omega)]
        by_cases q3 : n ≤ s.1
        · rw [if_pos q3, if_neg (by omega)]
          exact ⟨v4, M, rfl, hC, fun _ => (hv q2).2⟩
        · rw [if_neg q3, if_pos (by omega)]
          obtain ⟨M3, f3, c3⟩ := ms_faulty hC hT h3 (e := 6)
          rw [f3, bI_s]
          exact ⟨0, M3, rfl, c3, fun q4 => absurd q4 (lfal_n s)⟩
      · rw [if_pos q2, lfal_f q2, ite_self]
        exact ⟨v4, M, rfl, hC, fun q3 => absurd q3 q2⟩
theorem ms_workOut (hT : okTx tp n) {v1 : Int32} (h1 : bs = true → v1 = -1 ∧ ∀ j, j < n → M.1 54 j = nI (tp j)) (h2 : bs = false → v1 = 0 ∧ ∀ j, j < n → M.1 55 j = nI (tp j)) (h3 : ∀ i, i < 5 → M.1 56 i = nm i) : ∃ v M2, f_X11_workOut v1 (nI n) M = some (v, M2) ∧ M2.1 47 17 = flI (pAll tp n).1.2 ∧ ((pAll tp n).1.2 = none → v = evW nm (pAll tp n).2) ∧ ∀ f, (pAll tp n).1.2 = some f → f ≤ n := by
  have h120 := hT.1
  unfold f_X11_workOut
  simp only [lt_e]
  have hC : MSt tp n bs nm 6 (0, none) (wI (wI (wI (wI (wI M 47 14 v1) 47 15 0) 47 16 (nI n)) 47 17 (-1)) 47 18 0) := by
    refine ⟨fun q => ⟨by simp [wI_rd, (h1 q).1], fun j hj => by simp [wI_rd, (h1 q).2 j hj]⟩, fun q => ⟨by simp [wI_rd, (h2 q).1], fun j hj => by simp [wI_rd, (h2 q).2 j hj]⟩, by simp [wI_rd]; rfl, by simp [wI_rd], by simp [wI_rd, flI], fun _ => by simp [wI_rd]; rfl, fun i hi => by simp [wI_rd, h3 i hi], fun f hf => by cases hf⟩
  generalize wI (wI (wI (wI (wI M 47 14 v1) 47 15 0) 47 16 (nI n)) 47 17 (-1)) 47 18 0 = M5 at hC
  obtain ⟨g1, g2, -, -⟩ := Gd_line (tp := tp) (n := n) (s := (0, none)) (by simp)
  obtain ⟨M6, w3, w4, f6, c6, e6⟩ := ms_line hT (s := (0, none)) (by simp) hC 4999 0 0
  show ∃ v M2, f_X11_workOut_L33 (4999 + 1) 0 0 1 M5 = _ ∧ _
  rw [f6]
  obtain ⟨v, M7, f7, c7, e7⟩ := ms_ls hT (nm := nm) 130 4999 (pLine tp n (0, none)).1 [(pLine tp n (0, none)).2] w3 w4 M6 (by omega) (by omega) g2 (fun q => by
    obtain ⟨p1, p2⟩ := e6 q
    rw [p1, p2, evW_c]
    cases hh : hld nm (pLine tp n (0, none)).2 <;> simp [gvn, hh, bb, evW]) c6
  exact ⟨v, M7, f7, c7.2.2.2.2.1, e7, c7.2.2.2.2.2.2.2⟩
end MWORK
