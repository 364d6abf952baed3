/-! what both sides say of a chance -/
def nmV (wo : Nat → Nat) (r : Int32) (a b : Nat) : Nat → Int32 := fun i => if i = 0 then nI a else if i = 1 then nI b else if i = 2 then nI (wo a) else if i = 3 then nI (wo b) else r
def told (lw : LwO) (wo : Nat → Nat) (r : Int32) (a b : Nat) : Int32 := match lw with
  | none => 50 + (nI (wo a) - nI (wo b)) / 2
  | some t => evW (nmV wo r a b) (pAll t.1 t.2).2
def heldI (x : Int32) : Int32 := if 0 ≤ x then (if x ≤ 100 then x else 100) else 0
theorem heldI_n (x : Int32) : ∃ c, c ≤ 100 ∧ heldI x = nI c := by
  unfold heldI
  have h0 : (0 : Int32).toInt = 0 := rfl
  have h1 : (100 : Int32).toInt = 100 := rfl
  by_cases q : 0 ≤ x
  · rw [if_pos q]
    rw [i_le, h0] at q
    by_cases q2 : x ≤ 100
    · rw [if_pos q2]
      rw [i_le, h1] at q2
      exact ⟨x.toInt.toNat, by omega, n_of q⟩
    · rw [if_neg q2]; exact ⟨100, by omega, rfl⟩
  · rw [if_neg q]; exact ⟨0, by omega, rfl⟩
theorem held_c (x : Int32) : ab_max 0 (ab_min 100 x) = heldI x := by
  unfold ab_max ab_min heldI
  have h0 : (0 : Int32).toInt = 0 := rfl
  have h1 : (100 : Int32).toInt = 100 := rfl
  by_cases q : x < 100
  · rw [if_pos q]
    rw [i_lt, h1] at q
    by_cases q2 : 0 < x
    · rw [if_pos q2]
      rw [i_lt, h0] at q2
      rw [if_pos (by rw [i_le, h0]; omega), if_pos (by rw [i_le, h1]; omega)]
    · rw [if_neg q2]
      rw [i_lt, h0] at q2
      by_cases q3 : 0 ≤ x
      · rw [if_pos q3, if_pos (by rw [i_le, h1]; omega)]
        rw [i_le, h0] at q3
        rw [i_eq, h0]; omega
      · rw [if_neg q3]
  · rw [if_neg q, if_pos (by decide)]
    rw [i_lt, h1] at q
    rw [if_pos (by rw [i_le, h0]; omega)]
    by_cases q2 : x ≤ 100
    · rw [if_pos q2]
      rw [i_le, h1] at q2
      rw [i_eq, h1]; omega
    · rw [if_neg q2]
/-- by how many hundredths a beats b -/
def chN (lw : LwO) (wo : Nat → Nat) (r : Int32) (a b : Nat) : Nat := if a < b then (heldI (told lw wo r a b)).toNatClampNeg else 100 - (heldI (told lw wo r b a)).toNatClampNeg
theorem held_nat (x : Int32) : (heldI x).toNatClampNeg ≤ 100 ∧ heldI x = nI (heldI x).toNatClampNeg := by
  obtain ⟨c, h, e⟩ := heldI_n x
  rw [e, n_clamp (by omega)]
  exact ⟨h, rfl⟩
theorem chN_le (lw : LwO) (wo : Nat → Nat) (r : Int32) (a b : Nat) : chN lw wo r a b ≤ 100 := by
  unfold chN
  have := (held_nat (told lw wo r a b)).1
  split <;> omega
theorem n_100 {c : Nat} (h : c ≤ 100) : (100 : Int32) - nI c = nI (100 - c) := by
  rw [i_eq, n_toInt (by omega), show (100 : Int32) = nI 100 from rfl, pk_sub_toInt (by omega) (by omega)]
  omega
section CHN
variable {np nm : Nat} {wo wi lo ct : Nat → Nat} {lw : LwO} {M : Mem}
theorem cl_hund (hF : CF np nm wo wi lo ct M) (hO : OKF np nm wo wi lo ct) (hW : CW lw M) (hL : okO lw) {a b : Nat} (ha : a < np) (hb : b < np) (hab : a ≠ b) (r : Int32) : ∃ M1, f_X5_hundredths (nI a) (nI b) r M = some (nI (chN lw wo r a b), M1) := by
  have h8 := hO.1
  have fin2 : ∀ (M9 : Mem) (x : Int32), x = told lw wo r (min a b) (max a b) → ∃ M1, f_X5_hundredths_b96 (nI a) (nI (min a b)) x M9 = some (nI (chN lw wo r a b), M1) := by
    intro M9 x hx
    unfold f_X5_hundredths_b96
    rw [lt_e, held_c, hx]
    simp only [n_eq (show a < 2147483648 by omega) (show min a b < 2147483648 by omega)]
    unfold chN
    by_cases q : a < b
    · rw [if_pos (by omega), if_pos q, Nat.min_eq_left (by omega), Nat.max_eq_right (by omega), ← (held_nat _).2]
      exact ⟨_, rfl⟩
    · rw [if_neg (by omega), if_neg q, Nat.min_eq_right (by omega), Nat.max_eq_left (by omega), (held_nat (told lw wo r b a)).2, n_100 (held_nat _).1, n_clamp (by have := (held_nat (told lw wo r b a)).1; omega)]
      exact ⟨_, rfl⟩
  have hmin : min a b < np := by omega
  have hmax : max a b < np := by omega
  generalize hx1 : min a b = x1 at *
  generalize hx2 : max a b = x2 at *
  unfold f_X5_hundredths
  rw [n_min (by omega) (by omega), n_max (by omega) (by omega), hx1, hx2]
  simp only [lt_e]
  rw [ck_t (by decide), ck_t (by decide), ck_t (okI_2 (by omega)), ck_t (by decide), ck_t (okI_2 (by omega)), ck_t (by decide), ck_t (by decide), ck_t (by decide), ck_t (by decide)]
  simp only [n_clamp (show x1 < 2147483648 by omega), n_clamp (show x2 < 2147483648 by omega), show (0 : Int32).toNatClampNeg = 0 from rfl, show (1 : Int32).toNatClampNeg = 1 from rfl, show (2 : Int32).toNatClampNeg = 2 from rfl, show (3 : Int32).toNatClampNeg = 3 from rfl, show (4 : Int32).toNatClampNeg = 4 from rfl]
  have e2 : (wI (wI M 27 0 (nI x1)) 27 1 (nI x2)).1 2 x1 = nI (wo x1) := by simp [wI_rd, hF.2.2.1 x1 hmin]
  rw [e2]
  have e3 : (wI (wI (wI M 27 0 (nI x1)) 27 1 (nI x2)) 27 2 (nI (wo x1))).1 2 x2 = nI (wo x2) := by simp [wI_rd, hF.2.2.1 x2 hmax]
  rw [e3]
  have e7 : (wI (wI (wI (wI (wI M 27 0 (nI x1)) 27 1 (nI x2)) 27 2 (nI (wo x1))) 27 3 (nI (wo x2))) 27 4 r).1 22 7 = nI (slO lw).length := by simp [wI_rd, hW.1]
  have hnm : ∀ i, i < 5 → (wI (wI (wI (wI (wI M 27 0 (nI x1)) 27 1 (nI x2)) 27 2 (nI (wo x1))) 27 3 (nI (wo x2))) 27 4 r).1 27 i = nmV wo r x1 x2 i := by
    intro i hi
    rcases show i = 0 ∨ i = 1 ∨ i = 2 ∨ i = 3 ∨ i = 4 by omega with rfl | rfl | rfl | rfl | rfl <;> simp [wI_rd, nmV]
  have hr2 : (wI (wI (wI (wI (wI M 27 0 (nI x1)) 27 1 (nI x2)) 27 2 (nI (wo x1))) 27 3 (nI (wo x2))) 27 4 r).2.2 = M.2.2 := rfl
  have hst : StL (M.2.2 22 6) (slO lw) (wI (wI (wI (wI (wI M 27 0 (nI x1)) 27 1 (nI x2)) 27 2 (nI (wo x1))) 27 3 (nI (wo x2))) 27 4 r) := by
    intro j x q
    have := hW.2.2 j x q
    have hE : ¬ M.2.2 22 6 = 27 := by rcases hW.2.1 with ⟨-, e⟩ | ⟨-, e⟩ <;> omega
    simp [wI_rd, hE, this]
  generalize wI (wI (wI (wI (wI M 27 0 (nI x1)) 27 1 (nI x2)) 27 2 (nI (wo x1))) 27 3 (nI (wo x2))) 27 4 r = M7 at *
  rw [e7]
  cases hlw : lw with
  | none =>
    subst hlw
    rw [if_pos (show nI (List.length (slO none)) = 0 from rfl), hnm 2 (by omega), hnm 3 (by omega)]
    exact fin2 M7 _ rfl
  | some t =>
    subst hlw
    obtain ⟨hT, hN⟩ := hL t rfl
    obtain ⟨g1, g2, g3, g4⟩ := Gd_all (tp := t.1) (n := t.2)
    have h120 := hT.1
    have hl : (slO (some t)).length ≤ 121 := by show (lnA (pAll t.1 t.2).2).length ≤ 121; omega
    have hl1 : 1 ≤ (slO (some t)).length := g4
    rw [if_neg (fun q => by have := (n_eq (b := 0) (by omega) (by omega)).mp q; omega)]
    have hE : okE (M.2.2 22 6) := by rcases hW.2.1 with ⟨-, e⟩ | ⟨-, e⟩; exact Or.inr e; exact Or.inl e
    have hE2 : ¬ M.2.2 22 6 = 22 := by rcases hE with e | e <;> omega
    unfold f_X5_workOut
    rw [lt_e]
    obtain ⟨M9, f9⟩ := ev_lines (nm := nmV wo r x1 x2) hE hl (pAll t.1 t.2).2 [] FU (wI M7 22 9 0) (by simp [slO]) (fun x hx => ⟨g3 x hx, OkV_all hN _ x hx⟩) (by unfold FU; omega) (by
      refine ⟨by simp [wI_rd, e7], by rw [wI_2, hr2], ?_, fun i hi => by simp [wI_rd, hnm i hi], by simp [wI_rd]; rfl, fun i x q => by simp at q⟩
      intro j x q
      have := hst j x q
      simp [wI_rd, hE2, this])
    have f9' : f_X5_workOut_L9 FU 0 0 (wI M7 22 9 0) = _ := f9
    rw [f9', bI_s]
    exact fin2 M9 _ rfl
theorem mo_ch_lt (hF : MF np nm wo wi lo ct M) (hO : OKF np nm wo wi lo ct) (hW : MW lw M) (hL : okO lw) {a b : Nat} (ha : a < np) (hb : b < np) (hab : a < b) (r : Int32) (d : Nat) : ∃ M1, f_X11_chanceOf (d + 1) (nI a) (nI b) r M = some (heldI (told lw wo r a b), M1) := by
  have h8 := hO.1
  have fin2 : ∀ (M9 : Mem) (x : Int32), x = told lw wo r a b → ∃ M1, f_X11_chanceOf_b99 (fun v1 v2 v3 M => f_X11_chanceOf d v1 v2 v3 M) x M9 = some (heldI (told lw wo r a b), M1) := by
    intro M9 x hx
    unfold f_X11_chanceOf_b99 heldI
    rw [hx]
    split
    · split <;> exact ⟨_, rfl⟩
    · exact ⟨_, rfl⟩
  show ∃ M1, f_X11_chanceOf_o (fun v1 v2 v3 M => f_X11_chanceOf d v1 v2 v3 M) (nI a) (nI b) r M = _
  unfold f_X11_chanceOf_o
  rw [if_pos ((n_le (by omega) (by omega)).mpr (by omega))]
  simp only [lt_e]
  rw [ck_t (okI_48 (by omega)), ck_t (okI_48 (by omega)), n_clamp (by omega), n_clamp (by omega), hF.2.2.1 a ha, hF.2.2.1 b hb]
  cases hlw : lw with
  | none =>
    subst hlw
    rw [hW.1 rfl, if_pos (by decide)]
    exact fin2 M _ rfl
  | some t =>
    subst hlw
    obtain ⟨hT, hN⟩ := hL t rfl
    obtain ⟨w1, w2⟩ := hW.2 t rfl
    have h120 := hT.1
    rw [w1, if_neg (nI_pos (by omega))]
    rw [ck_t (by decide), ck_t (by decide), ck_t (okI_48 (by omega)), ck_t (by decide), ck_t (okI_48 (by omega)), ck_t (by decide), ck_t (by decide)]
    simp only [show (0 : Int32).toNatClampNeg = 0 from rfl, show (1 : Int32).toNatClampNeg = 1 from rfl, show (2 : Int32).toNatClampNeg = 2 from rfl, show (3 : Int32).toNatClampNeg = 3 from rfl, show (4 : Int32).toNatClampNeg = 4 from rfl]
    have e2 : (wI (wI M 56 0 (nI a)) 56 1 (nI b)).1 48 a = nI (wo a) := by simp [wI_rd, hF.2.2.1 a ha]
    rw [e2]
    have e3 : (wI (wI (wI M 56 0 (nI a)) 56 1 (nI b)) 56 2 (nI (wo a))).1 48 b = nI (wo b) := by simp [wI_rd, hF.2.2.1 b hb]
    rw [e3]
    have e7 : (wI (wI (wI (wI (wI M 56 0 (nI a)) 56 1 (nI b)) 56 2 (nI (wo a))) 56 3 (nI (wo b))) 56 4 r).1 47 13 = nI t.2 := by simp [wI_rd, w1]
    rw [e7]
    obtain ⟨v, M8, f8, -, e8, -⟩ := ms_workOut (tp := t.1) (n := t.2) (bs := false) (nm := nmV wo r a b) (M := wI (wI (wI (wI (wI M 56 0 (nI a)) 56 1 (nI b)) 56 2 (nI (wo a))) 56 3 (nI (wo b))) 56 4 r) (v1 := 0) hT (fun q => by cases q) (fun _ => ⟨rfl, fun j hj => by simp [wI_rd, w2 j hj]⟩) (fun i hi => by
      rcases show i = 0 ∨ i = 1 ∨ i = 2 ∨ i = 3 ∨ i = 4 by omega with rfl | rfl | rfl | rfl | rfl <;> simp [wI_rd, nmV])
    rw [f8, bI_s]
    exact fin2 M8 v (e8 hN)
theorem mo_chanceOf (hF : MF np nm wo wi lo ct M) (hO : OKF np nm wo wi lo ct) (hW : MW lw M) (hL : okO lw) {a b : Nat} (ha : a < np) (hb : b < np) (hab : a ≠ b) (r : Int32) : ∃ M1, f_X11_chanceOf FD (nI a) (nI b) r M = some (nI (chN lw wo r a b), M1) := by
  have h8 := hO.1
  unfold chN
  by_cases q : a < b
  · rw [if_pos q, ← (held_nat _).2]
    exact mo_ch_lt hF hO hW hL ha hb q r 39
  · rw [if_neg q]
    obtain ⟨M1, f1⟩ := mo_ch_lt hF hO hW hL hb ha (by omega) r 38
    have hc := held_nat (told lw wo r b a)
    show ∃ M1, f_X11_chanceOf_o (fun v1 v2 v3 M => f_X11_chanceOf (38 + 1) v1 v2 v3 M) (nI a) (nI b) r M = _
    unfold f_X11_chanceOf_o
    rw [if_neg (by rw [n_le (by omega) (by omega)]; omega)]
    simp only [f1, bI_s]
    rw [hc.2, n_100 hc.1, n_clamp (by omega)]
    exact ⟨M1, rfl⟩
def chaA (np : Nat) (lw : LwO) (wo : Nat → Nat) (v r : Int32) : Int32 := if pair np v = true ∧ inN 3 r = true then nI (chN lw wo r (v / 10).toNatClampNeg (ab_rem v 10).toNatClampNeg) else -1
theorem cl_chance (hF : CF np nm wo wi lo ct M) (hO : OKF np nm wo wi lo ct) (hW : CW lw M) (hL : okO lw) (v r : Int32) : ∃ M1, f_X10_chance v r M = some (chaA np lw wo v r, M1) := by
  unfold f_X10_chance chaA
  rw [s_isPair hF.1 hO.1, bd_s, ite_bb]
  by_cases q : pair np v = true
  · rw [if_pos q]
    have hr : inN 3 r = decide (¬ r < 0 ∧ r ≤ 2) := by
      simp only [inN]
      congr 1
      apply propext
      rw [i_lt, i_le]
      have h0 : (0 : Int32).toInt = 0 := rfl
      have h2 : (2 : Int32).toInt = 2 := rfl
      omega
    obtain ⟨i, j, hi, hj, hij, e1, e2⟩ := pair_t q hO.1
    have h8 := hO.1
    rw [e1, e2, n_clamp (by omega), n_clamp (by omega)]
    by_cases q1 : r < 0
    · rw [if_pos q1, if_neg (by rw [hr]; simp [q1])]
      exact ⟨M, rfl⟩
    · rw [if_neg q1]
      by_cases q2 : r ≤ 2
      · rw [if_pos q2, if_pos ⟨q, by rw [hr]; simp [q1, q2]⟩]
        obtain ⟨M1, f1⟩ := cl_hund hF hO hW hL hi hj hij r
        rw [f1, bI_s]
        exact ⟨M1, rfl⟩
      · rw [if_neg q2, if_neg (by rw [hr]; simp [q2])]
        exact ⟨M, rfl⟩
  · rw [if_neg q, if_neg (fun h => q h.1)]
    exact ⟨M, rfl⟩
theorem mo_chance (hF : MF np nm wo wi lo ct M) (hO : OKF np nm wo wi lo ct) (hW : MW lw M) (hL : okO lw) (v r : Int32) : ∃ M1, f_X11_chance v r M = some (chaA np lw wo v r, M1) := by
  unfold f_X11_chance chaA
  by_cases q0 : v < 0
  · rw [if_pos q0, if_neg (by simp [pair, q0])]
    exact ⟨M, rfl⟩
  · have ep : pair np v = two np (v / 10) (ab_rem v 10) := by simp [pair, q0]
    rw [if_neg q0, s_areTwoM hF.1 hO.1, bd_s, ite_bb, ← ep]
    by_cases q : pair np v = true
    · rw [if_pos q, s_within_n 2 2 rfl r, bd_s, ite_bb]
      by_cases q2 : inN 3 r = true
      · obtain ⟨i, j, hi, hj, hij, e1, e2⟩ := pair_t q hO.1
        have h8 := hO.1
        rw [if_pos q2, if_pos ⟨q, q2⟩, e1, e2, n_clamp (by omega), n_clamp (by omega)]
        obtain ⟨M1, f1⟩ := mo_chanceOf hF hO hW hL hi hj hij r
        rw [f1, bI_s]
        exact ⟨M1, rfl⟩
      · rw [if_neg q2, if_neg (fun h => q2 h.2)]
        exact ⟨M, rfl⟩
    · rw [if_neg q, if_neg (fun h => q h.1)]
      exact ⟨M, rfl⟩
end CHN
