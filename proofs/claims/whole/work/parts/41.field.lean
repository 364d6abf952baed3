/-! players and matches: what both sides hold of them -/
def CF (np nm : Nat) (wo wi lo ct : Nat → Nat) (M : Mem) : Prop := M.1 1 0 = nI np ∧ M.1 1 1 = nI nm ∧ (∀ p, p < np → M.1 2 p = nI (wo p)) ∧ (∀ m, m < nm → M.1 3 m = nI (wi m) ∧ M.1 4 m = nI (lo m) ∧ M.1 5 m = nI (ct m))
def MF (np nm : Nat) (wo wi lo ct : Nat → Nat) (M : Mem) : Prop := M.1 47 6 = nI np ∧ M.1 47 7 = nI nm ∧ (∀ p, p < np → M.1 48 p = nI (wo p)) ∧ (∀ m, m < nm → M.1 52 m = nI (wi m) ∧ M.1 53 m = nI (lo m) ∧ M.1 48 (8 + m) = nI (ct m))
def OKF (np nm : Nat) (wo wi lo ct : Nat → Nat) : Prop := np ≤ 8 ∧ nm ≤ 12 ∧ (∀ p, p < np → wo p ≤ 99) ∧ (∀ m, m < nm → wi m < np ∧ lo m < np ∧ wi m ≠ lo m ∧ ct m ≤ 1)
theorem inN_f0 {n : Nat} {v : Int32} (h : v < 0) : inN n v = false := by
  rw [i_lt] at h
  have h0 : (0 : Int32).toInt = 0 := rfl
  simp only [inN, decide_eq_false_iff_not]
  omega
theorem inN_f1 {n : Nat} (hn : n < 2147483648) {v : Int32} (h : nI n ≤ v) : inN n v = false := by
  rw [i_le, n_toInt hn] at h
  simp only [inN, decide_eq_false_iff_not]
  omega
theorem inN_tr {n : Nat} (hn : n < 2147483648) {v : Int32} (h0 : ¬ v < 0) (h : ¬ nI n ≤ v) : inN n v = true := by
  rw [i_le, n_toInt hn] at h
  rw [i_lt] at h0
  have h1 : (0 : Int32).toInt = 0 := rfl
  simp only [inN, decide_eq_true_eq]
  omega
theorem inN_x {n : Nat} (hn : n < 2147483648) (v : Int32) : (if v < 0 then (some (0 : Int32)) else (if nI n ≤ v then (some (0 : Int32)) else (some (1 : Int32)))) = some (bb (inN n v)) := by
  by_cases h : v < 0
  · rw [if_pos h, inN_f0 h]; rfl
  · rw [if_neg h]
    by_cases h2 : nI n ≤ v
    · rw [if_pos h2, inN_f1 hn h2]; rfl
    · rw [if_neg h2, inN_tr hn h h2]; rfl
theorem s_isWorth (v : Int32) : f_X4_isWorth v = some (bb (inN 100 v)) := by
  rw [← inN_x (by omega)]
  unfold f_X4_isWorth
  have e : ((99 : Int32) < v) = (nI 100 ≤ v) := by
    apply propext
    rw [i_lt, i_le, n_toInt (by omega)]
    have h1 : (99 : Int32).toInt = 99 := rfl
    omega
  by_cases h : v < 0
  · rw [if_pos h, if_pos h]
  · rw [if_neg h, if_neg h]
    by_cases h2 : (99 : Int32) < v
    · rw [if_pos h2, if_pos (e ▸ h2)]
    · rw [if_neg h2, if_neg (e ▸ h2)]
theorem lc_lt (a b : Int64) : (lg_cmp a b < 0) = (a.toInt < b.toInt) := by
  unfold lg_cmp
  simp only [gt_iff_lt, Int64.lt_iff_toInt_lt, ← Int64.toInt_inj]
  split
  · apply propext; constructor
    · intro h; exact absurd h (by decide)
    · intro h; omega
  · split
    · apply propext; constructor
      · intro h; exact absurd h (by decide)
      · intro h; omega
    · apply propext; constructor
      · intro _; omega
      · intro _; decide
theorem lc_gt (a b : Int64) : (0 < lg_cmp a b) = (b.toInt < a.toInt) := by
  unfold lg_cmp
  simp only [gt_iff_lt, Int64.lt_iff_toInt_lt, ← Int64.toInt_inj]
  split
  · apply propext; constructor
    · intro _; omega
    · intro _; decide
  · split
    · apply propext; constructor
      · intro h; exact absurd h (by decide)
      · intro h; omega
    · apply propext; constructor
      · intro h; exact absurd h (by decide)
      · intro _; omega
theorem lc_eq (a b : Int64) : (lg_cmp a b = 0) = (a = b) := by
  unfold lg_cmp
  simp only [gt_iff_lt, Int64.lt_iff_toInt_lt]
  split
  · apply propext; constructor
    · intro h; exact absurd h (by decide)
    · intro h; subst h; omega
  · split
    · rename_i h; simp [h]
    · rename_i h; apply propext; constructor
      · intro h2; exact absurd h2 (by decide)
      · intro h2; exact absurd h2 h
theorem s_within (a b c : Int64) : f_X11_within a b c = some (bb (decide (b.toInt ≤ a.toInt ∧ a.toInt ≤ c.toInt))) := by
  unfold f_X11_within
  simp only [lc_lt, lc_gt]
  by_cases h : a.toInt < b.toInt
  · rw [if_pos h, decide_eq_false (by omega)]; rfl
  · rw [if_neg h]
    by_cases h2 : c.toInt < a.toInt
    · rw [if_pos h2, decide_eq_false (by omega)]; rfl
    · rw [if_neg h2, decide_eq_true (by omega)]; rfl
theorem w_toInt (v : Int32) : v.toInt64.toInt = v.toInt := Int32.toInt_toInt64 v
theorem n_pred {n : Nat} (h : n < 1000000) : (nI n - 1).toInt = (n : Int) - 1 := pk_sub_toInt (b := 1) (by omega) (by omega)
theorem s_within_p {np : Nat} (h : np < 1000000) (v : Int32) : f_X11_within v.toInt64 0 (nI np - 1).toInt64 = some (bb (inN np v)) := by
  rw [s_within, w_toInt, w_toInt, n_pred h]
  have h1 : (0 : Int64).toInt = 0 := rfl
  simp only [h1, inN]
  congr 3
  apply propext
  constructor <;> intro h <;> omega
theorem s_within_n (n : Nat) (c : Int64) (hc : c.toInt = n) (v : Int32) : f_X11_within v.toInt64 0 c = some (bb (inN (n + 1) v)) := by
  rw [s_within, w_toInt, hc]
  have h1 : (0 : Int64).toInt = 0 := rfl
  simp only [h1, inN]
  congr 3
  apply propext
  constructor <;> intro h <;> omega
theorem s_isPlayer {np : Nat} {M : Mem} (h : M.1 47 6 = nI np) (hn : np ≤ 8) (v : Int32) : f_X11_isPlayer v M = some (bb (inN np v)) := by
  unfold f_X11_isPlayer
  rw [h, s_within_p (by omega), bd_s, ck_t (bb_ok _)]
theorem s_isMatch {nm : Nat} {M : Mem} (h : M.1 47 7 = nI nm) (hn : nm ≤ 12) (v : Int32) : f_X11_isMatch v M = some (bb (inN nm v)) := by
  unfold f_X11_isMatch
  rw [h, s_within_p (by omega), bd_s, ck_t (bb_ok _)]
theorem s_hasPlayer {np : Nat} {M : Mem} (h : M.1 1 0 = nI np) (hn : np ≤ 8) (v : Int32) : f_X4_hasPlayer v M = some (bb (inN np v)) := by
  unfold f_X4_hasPlayer
  rw [h, inN_x (by omega)]
theorem s_hasMatch {nm : Nat} {M : Mem} (h : M.1 1 1 = nI nm) (hn : nm ≤ 12) (v : Int32) : f_X4_hasMatch v M = some (bb (inN nm v)) := by
  unfold f_X4_hasMatch
  rw [h, inN_x (by omega)]
def two (np : Nat) (a b : Int32) : Bool := inN np a && inN np b && !(decide (a = b))
theorem s_areTwo {np : Nat} {M : Mem} (h : M.1 1 0 = nI np) (hn : np ≤ 8) (a b : Int32) : f_X4_areTwo a b M = some (bb (two np a b)) := by
  unfold f_X4_areTwo two
  rw [s_hasPlayer h hn, s_hasPlayer h hn, bd_s, ite_bb, bd_s, ite_bb]
  cases inN np a
  · rfl
  · cases inN np b
    · rfl
    · by_cases e : a = b
      · simp [e, bb]
      · simp [e, bb]
theorem s_areTwoM {np : Nat} {M : Mem} (h : M.1 47 6 = nI np) (hn : np ≤ 8) (a b : Int32) : f_X11_areTwo a.toInt64 b.toInt64 M = some (bb (two np a b)) := by
  unfold f_X11_areTwo two
  rw [h, s_within_p (by omega), s_within_p (by omega), bd_s, ite_bb, bd_s, ite_bb]
  have e0 : (lg_cmp a.toInt64 b.toInt64 = 0) = (a = b) := by
    rw [lc_eq]
    apply propext
    rw [← Int64.toInt_inj, w_toInt, w_toInt, ← i_eq]
  simp only [e0]
  cases inN np a
  · rfl
  · cases inN np b
    · rfl
    · by_cases e : a = b
      · simp [e, bb]
      · simp [e, bb]
def pair (np : Nat) (v : Int32) : Bool := decide (¬ v < 0) && two np (v / 10) (ab_rem v 10)
theorem s_isPair {np : Nat} {M : Mem} (h : M.1 1 0 = nI np) (hn : np ≤ 8) (v : Int32) : f_X4_isPair v M = some (bb (pair np v)) := by
  unfold f_X4_isPair pair
  by_cases e : v < 0
  · simp [e, bb]
  · rw [if_neg e, s_areTwo h hn, bd_s, ite_bb]
    cases two np (v / 10) (ab_rem v 10) <;> simp [e, bb]
theorem two_t {np : Nat} {a b : Int32} (h : two np a b = true) (hn : np ≤ 8) : ∃ i j, i < np ∧ j < np ∧ i ≠ j ∧ a = nI i ∧ b = nI j := by
  simp only [two, Bool.and_eq_true, Bool.not_eq_true', decide_eq_false_iff_not] at h
  obtain ⟨⟨h1, h2⟩, h3⟩ := h
  obtain ⟨i, hi, hi2, rfl⟩ := inN_t h1
  obtain ⟨j, hj, hj2, rfl⟩ := inN_t h2
  exact ⟨i, j, hi, hj, fun e => h3 (by rw [e]), rfl, rfl⟩
theorem pair_t {np : Nat} {v : Int32} (h : pair np v = true) (hn : np ≤ 8) : ∃ i j, i < np ∧ j < np ∧ i ≠ j ∧ v / 10 = nI i ∧ ab_rem v 10 = nI j := by
  simp only [pair, Bool.and_eq_true] at h
  exact two_t h.2 hn
theorem n_s1 (n : Nat) : nI n + 1 = nI (n + 1) := nI_1 n
theorem n_p1 (n : Nat) : nI (n + 1) - 1 = nI n := nI_pred n
theorem ck_T {α : Type} (x : Option α) : ck true x = x := rfl
theorem cl_player {np nm : Nat} {wo wi lo ct : Nat → Nat} {M : Mem} (hF : CF np nm wo wi lo ct M) (hO : OKF np nm wo wi lo ct) (v : Int32) : f_X10_player v M = some (if inN 100 v = true then (if np < 8 then (nI np, wI (wI M 2 np v) 1 0 (nI (np + 1))) else (-3, M)) else (-1, M)) := by
  have h8 := hO.1
  have h1 := hF.1
  have e : (nI np < 8) = (np < 8) := propext (n_lt (b := 8) (by omega) (by omega))
  by_cases h : inN 100 v = true
  · by_cases h2 : np < 8
    · simp (disch := omega) [f_X10_player, f_X4_addPlayer, s_isWorth, ite_bb, h, h1, e, h2, okI_2, ck_T, lt_e, n_clamp, wI_rd, n_s1, bI_s]
    · simp (disch := omega) [f_X10_player, f_X4_addPlayer, s_isWorth, ite_bb, h, h1, e, h2, bI_s]
  · simp (disch := omega) [f_X10_player, s_isWorth, ite_bb, h]
theorem mo_player {np nm : Nat} {wo wi lo ct : Nat → Nat} {M : Mem} (hF : MF np nm wo wi lo ct M) (hO : OKF np nm wo wi lo ct) (v : Int32) : f_X11_player v M = some (if inN 100 v = true then (if np < 8 then (nI np, wI (wI M 48 np v) 47 6 (nI (np + 1))) else (-3, M)) else (-1, M)) := by
  have h8 := hO.1
  have h1 := hF.1
  have e : (nI np = 8) = (np = 8) := propext (n_eq (b := 8) (by omega) (by omega))
  have w := s_within_n 99 99 rfl v
  by_cases h : inN 100 v = true
  · by_cases h2 : np < 8
    · have h3 : ¬ np = 8 := by omega
      simp (disch := omega) [f_X11_player, w, ite_bb, h, h1, e, h2, h3, okI_48, ck_T, lt_e, n_clamp, wI_rd, n_s1, n_p1]
    · have h3 : np = 8 := by omega
      subst h3
      simp (disch := omega) [f_X11_player, w, ite_bb, h, h1, e]
  · simp (disch := omega) [f_X11_player, w, ite_bb, h]
theorem s_addMatch {nm : Nat} {M : Mem} (h1 : M.1 1 1 = nI nm) (hm : nm ≤ 12) (a b : Int32) : f_X4_addMatch a b M = some (if nm < 12 then (nI nm, wI (wI (wI (wI M 3 nm a) 4 nm b) 5 nm 1) 1 1 (nI (nm + 1))) else (-3, M)) := by
  have e : (nI nm < 12) = (nm < 12) := propext (n_lt (b := 12) (by omega) (by omega))
  by_cases h2 : nm < 12
  · simp (disch := omega) [f_X4_addMatch, h1, e, h2, okI_3, okI_4, okI_5, ck_T, lt_e, n_clamp, wI_rd, n_s1]
  · simp (disch := omega) [f_X4_addMatch, h1, e, h2]
theorem s_adds {nm : Nat} {M : Mem} (h1 : M.1 47 7 = nI nm) (hm : nm < 12) (a b : Int32) : f_X11_adds a b M = some (wI (wI (wI (wI M 52 nm a) 53 nm b) 48 (8 + nm) 1) 47 7 (nI (nm + 1))) := by
  have e8 : (8 : Int32) + nI nm = nI (8 + nm) := nI_add 8 nm
  simp (disch := omega) [f_X11_adds, h1, e8, okI_52, okI_53, okI_48, ck_T, lt_e, n_clamp, wI_rd, n_s1]
theorem cl_match {np nm : Nat} {wo wi lo ct : Nat → Nat} {M : Mem} (hF : CF np nm wo wi lo ct M) (hO : OKF np nm wo wi lo ct) (v : Int32) : f_X10_match v M = some (if pair np v = true then (if nm < 12 then (nI nm, wI (wI (wI (wI M 3 nm (v / 10)) 4 nm (ab_rem v 10)) 5 nm 1) 1 1 (nI (nm + 1))) else (-3, M)) else (-1, M)) := by
  by_cases h : pair np v = true
  · by_cases h2 : nm < 12 <;> simp [f_X10_match, s_isPair hF.1 hO.1, ite_bb, h, s_addMatch hF.2.1 hO.2.1, h2, bI_s]
  · simp [f_X10_match, s_isPair hF.1 hO.1, ite_bb, h]
theorem mo_match {np nm : Nat} {wo wi lo ct : Nat → Nat} {M : Mem} (hF : MF np nm wo wi lo ct M) (hO : OKF np nm wo wi lo ct) (v : Int32) : f_X11_match v M = some (if pair np v = true then (if nm < 12 then (nI nm, wI (wI (wI (wI M 52 nm (v / 10)) 53 nm (ab_rem v 10)) 48 (8 + nm) 1) 47 7 (nI (nm + 1))) else (-3, M)) else (-1, M)) := by
  have hm := hO.2.1
  have h1 := hF.2.1
  have e : (nI nm = 12) = (nm = 12) := propext (n_eq (b := 12) (by omega) (by omega))
  have w := s_areTwoM hF.1 hO.1 (v / 10) (ab_rem v 10)
  unfold f_X11_match pair
  by_cases h0 : v < 0
  · simp [h0]
  · cases h : two np (v / 10) (ab_rem v 10)
    · simp [h0, w, h, ite_bb]
    · by_cases h2 : nm < 12
      · have h3 : ¬ nm = 12 := by omega
        simp [h0, w, h, ite_bb, h1, e, h3, h2, s_adds h1 h2, wI_rd, n_p1]
      · have h3 : nm = 12 := by omega
        subst h3
        simp [h0, w, h, ite_bb, h1, e]
