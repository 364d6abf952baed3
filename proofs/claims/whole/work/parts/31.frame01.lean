theorem fr_X11_workOut (v1 : Int32) (v2 : Int32) (M : Mem) : Fr Prod.snd [(47, 15), (47, 16), (47, 17), (47, 18), (47, 19)] M (f_X11_workOut v1 v2 M) := by
  unfold f_X11_workOut
  refine fr_ltw (fr_wIf (by decide)) (fun M1 => ?_)
  refine fr_ltw (fr_wIf (by decide)) (fun M2 => ?_)
  refine fr_ltw (fr_wIf (by decide)) (fun M3 => ?_)
  refine fr_ltw (fr_wIf (by decide)) (fun M4 => ?_)
  refine fr_ltw (fr_wIf (by decide)) (fun M5 => ?_)
  exact fr_X11_workOut_L33 FU _ _ _ _
theorem fr_X11_law_L37 : ∀ (n : Nat) (v2 : Int32) (v3 : Int32) (M : Mem), Fr Prod.snd [(47, 12), (47, 14), (47, 15), (47, 16), (47, 17), (47, 18), (47, 19), (55, 0)] M (f_X11_law_L37 n v2 v3 M) := by
  intro n
  induction n with
  | zero => intro _ _ _; exact fr_none
  | succ n ih =>
    intro v2 v3 M
    rw [f_X11_law_L37]
    refine fr_ite ?_ ?_
    · refine fr_ltw (fr_wIf (by decide)) (fun M1 => ?_)
      exact fr_some rfl
    · refine fr_ck ?_
      refine fr_ck (fr_ltw (fr_wIa (by decide)) (fun M2 => ?_))
      exact ih _ _ _
theorem fr_X11_law (M : Mem) : Fr Prod.snd [(47, 12), (47, 14), (47, 15), (47, 16), (47, 17), (47, 18), (47, 19), (55, 0)] M (f_X11_law M) := by
  unfold f_X11_law
  refine fr_bI (fr_mono (fr_X11_workOut (-1 : Int32) (M.1 47 11) M) (by decide)) (fun x1 M2 => ?_)
  refine fr_ltv (fun x3 => ?_)
  refine fr_ltw (fr_wIf (by decide)) (fun M4 => ?_)
  refine fr_ite ?_ ?_
  · exact fr_X11_law_L37 FU _ _ _
  · exact fr_some rfl
theorem fr_J7_fill_53178_L5 : ∀ (n : Nat) (v0 : Nat) (v1 : Int32) (v2 : Int32) (v3 : Int32) (M : Mem), Fr id [(v0, 0)] M (f_J7_fill_53178_L5 n v0 v1 v2 v3 M) := by
  intro n
  induction n with
  | zero => intro _ _ _ _ _; exact fr_none
  | succ n ih =>
    intro v0 v1 v2 v3 M
    rw [f_J7_fill_53178_L5]
    refine fr_ite ?_ ?_
    · exact fr_some rfl
    · refine fr_ck (fr_ltw (fr_wIa (by simp)) (fun M1 => ?_))
      exact ih _ _ _ _ _
theorem fr_J7_fill_53178 (v0 : Nat) (v1 : Int32) (M : Mem) : Fr id [(v0, 0)] M (f_J7_fill_53178 v0 v1 M) := by
  unfold f_J7_fill_53178
  refine fr_ck ?_
  refine fr_ltv (fun x1 => ?_)
  exact fr_J7_fill_53178_L5 FU _ _ _ _ _
theorem fr_X7_clear_11 (v1 : Int32) (M : Mem) : Fr id [(11, 1), (11, 3), (12, 0)] M (f_X7_clear_11 v1 M) := by
  unfold f_X7_clear_11
  refine fr_ltw (fr_wIf (by decide)) (fun M1 => ?_)
  refine fr_ltw (fr_wIf (by decide)) (fun M2 => ?_)
  refine fr_bV (fr_mono (fr_J7_fill_53178 12 (0 : Int32) M2) (by decide)) (fun M4 => ?_)
  exact fr_some rfl
theorem fr_X7_add (v1 : Int32) (v2 : Int32) (M : Mem) : Fr id [(12, 0)] M (f_X7_add v1 v2 M) := by
  unfold f_X7_add
  refine fr_ck ?_
  refine fr_ck (fr_ltw (fr_wIa (by decide)) (fun M1 => ?_))
  exact fr_some rfl
theorem fr_X7_take_b43 {k10 : Int32 → Int32 → Mem → Option Mem} (hk10 : ∀ (v2 : Int32) (v3 : Int32) (M : Mem), Fr id [(11, 1), (11, 3), (12, 0)] M (k10 v2 v3 M)) (v2 : Int32) (v3 : Int32) (M : Mem) : Fr id [(11, 1), (11, 3), (12, 0)] M (f_X7_take_b43 k10 v2 v3 M) := by
  unfold f_X7_take_b43
  exact hk10 _ _ _
theorem fr_X7_take_L10 : ∀ (n : Nat) (v2 : Int32) (v3 : Int32) (M : Mem), Fr id [(11, 1), (11, 3), (12, 0)] M (f_X7_take_L10 n v2 v3 M) := by
  intro n
  induction n with
  | zero => intro _ _ _; exact fr_none
  | succ n ih =>
    intro v2 v3 M
    rw [f_X7_take_L10]
    refine fr_ite ?_ ?_
    · exact fr_some rfl
    · refine fr_ite ?_ ?_
      · refine fr_ck ?_
        refine fr_ck ?_
        refine fr_bV (fr_mono (fr_X7_add (M.1 3 v3.toNatClampNeg) (M.1 4 v3.toNatClampNeg) M) (by decide)) (fun M2 => ?_)
        exact fr_X7_take_b43 ih _ _ _
      · exact fr_X7_take_b43 ih _ _ _
theorem fr_X7_take (v2 : Int32) (M : Mem) : Fr id [(11, 1), (11, 3), (12, 0)] M (f_X7_take v2 M) := by
  unfold f_X7_take
  refine fr_bV (fr_mono (fr_X7_clear_11 (M.1 1 0) M) (by decide)) (fun M2 => ?_)
  exact fr_X7_take_L10 FU _ _ _
theorem fr_J7_fill_fda19_L10 : ∀ (n : Nat) (v0 : Nat) (v2 : Int32) (v3 : Int32) (v4 : Int32) (M : Mem), Fr id [(v0, 0)] M (f_J7_fill_fda19_L10 n v0 v2 v3 v4 M) := by
  intro n
  induction n with
  | zero => intro _ _ _ _ _; exact fr_none
  | succ n ih =>
    intro v0 v2 v3 v4 M
    rw [f_J7_fill_fda19_L10]
    refine fr_ite ?_ ?_
    · exact fr_some rfl
    · refine fr_ck (fr_ltw (fr_wIa (by simp)) (fun M1 => ?_))
      exact ih _ _ _ _ _
theorem fr_J7_fill_fda19 (v0 : Nat) (v1 : Int32) (v2 : Int32) (v3 : Int32) (M : Mem) : Fr id [(v0, 0)] M (f_J7_fill_fda19 v0 v1 v2 v3 M) := by
  unfold f_J7_fill_fda19
  refine fr_ck ?_
  refine fr_bR (fun _ => ?_)
  exact fr_J7_fill_fda19_L10 FU _ _ _ _ _
theorem fr_X7_tally_11_b99 {k24 : Int32 → Mem → Option Mem} (hk24 : ∀ (v1 : Int32) (M : Mem), Fr id [(13, 0)] M (k24 v1 M)) (v1 : Int32) (M : Mem) : Fr id [(13, 0)] M (f_X7_tally_11_b99 k24 v1 M) := by
  unfold f_X7_tally_11_b99
  exact hk24 _ _
theorem fr_X7_tally_11_b93 {k53 : Int32 → Int32 → Int32 → Mem → Option Mem} (hk53 : ∀ (v1 : Int32) (v2 : Int32) (v3 : Int32) (M : Mem), Fr id [(13, 0)] M (k53 v1 v2 v3 M)) (v1 : Int32) (v2 : Int32) (v3 : Int32) (M : Mem) : Fr id [(13, 0)] M (f_X7_tally_11_b93 k53 v1 v2 v3 M) := by
  unfold f_X7_tally_11_b93
  exact hk53 _ _ _ _
theorem fr_X7_tally_11_L53 {k24 : Int32 → Mem → Option Mem} (hk24 : ∀ (v1 : Int32) (M : Mem), Fr id [(13, 0)] M (k24 v1 M)) : ∀ (n : Nat) (v1 : Int32) (v2 : Int32) (v3 : Int32) (M : Mem), Fr id [(13, 0)] M (f_X7_tally_11_L53 k24 n v1 v2 v3 M) := by
  intro n
  induction n with
  | zero => intro _ _ _ _; exact fr_none
  | succ n ih =>
    intro v1 v2 v3 M
    rw [f_X7_tally_11_L53]
    refine fr_ite ?_ ?_
    · exact fr_X7_tally_11_b99 hk24 _ _
    · refine fr_ite ?_ ?_
      · exact fr_X7_tally_11_b99 hk24 _ _
      · refine fr_ite ?_ ?_
        · refine fr_ck ?_
          refine fr_ck ?_
          refine fr_ck (fr_ltw (fr_wIa (by decide)) (fun M1 => ?_))
          exact fr_X7_tally_11_b93 ih _ _ _ _
        · exact fr_X7_tally_11_b93 ih _ _ _ _
theorem fr_X7_tally_11_b50 {k24 : Int32 → Mem → Option Mem} (hk24 : ∀ (v1 : Int32) (M : Mem), Fr id [(13, 0)] M (k24 v1 M)) (v1 : Int32) (s0 : Int32) (M : Mem) : Fr id [(13, 0)] M (f_X7_tally_11_b50 k24 v1 s0 M) := by
  unfold f_X7_tally_11_b50
  exact fr_X7_tally_11_L53 hk24 FU _ _ _ _
theorem fr_X7_tally_11_L24 : ∀ (n : Nat) (v1 : Int32) (M : Mem), Fr id [(13, 0)] M (f_X7_tally_11_L24 n v1 M) := by
  intro n
  induction n with
  | zero => intro _ _; exact fr_none
  | succ n ih =>
    intro v1 M
    rw [f_X7_tally_11_L24]
    refine fr_ite ?_ ?_
    · exact fr_some rfl
    · refine fr_ck ?_
      refine fr_ite ?_ ?_
      · exact fr_X7_tally_11_b50 ih _ _ _
      · refine fr_bR (fun x1 => ?_)
        exact fr_X7_tally_11_b50 ih _ _ _
theorem fr_X7_tally_11 (M : Mem) : Fr id [(13, 0)] M (f_X7_tally_11 M) := by
  unfold f_X7_tally_11
  refine fr_bV (fr_mono (fr_J7_fill_fda19 13 (0 : Int32) ((M.1 11 2) + (1 : Int32)) (0 : Int32) M) (by decide)) (fun M2 => ?_)
  refine fr_ck (fr_ltw (fr_wIa (by decide)) (fun M3 => ?_))
  exact fr_X7_tally_11_L24 FU _ _
theorem fr_X10_tallied (M : Mem) : Fr id [(11, 1), (11, 3), (12, 0), (13, 0)] M (f_X10_tallied M) := by
  unfold f_X10_tallied
  refine fr_bR (fun x1 => ?_)
  refine fr_bV (fr_mono (fr_X7_take x1 M) (by decide)) (fun M4 => ?_)
  refine fr_bV (fr_mono (fr_X7_tally_11 M4) (by decide)) (fun M6 => ?_)
  exact fr_some rfl
theorem fr_X10_orders (v1 : Int32) (M : Mem) : Fr Prod.snd [(11, 1), (11, 3), (12, 0), (13, 0)] M (f_X10_orders v1 M) := by
  unfold f_X10_orders
  refine fr_ite ?_ ?_
  · exact fr_some rfl
  · refine fr_ite ?_ ?_
    · refine fr_bV (fr_mono (fr_X10_tallied M) (by decide)) (fun M2 => ?_)
      refine fr_ite ?_ ?_
      · refine fr_bR (fun x7 => ?_)
        exact fr_some rfl
      · refine fr_bR (fun x3 => ?_)
        refine fr_ite ?_ ?_
        · exact fr_some rfl
        · refine fr_bR (fun x5 => ?_)
          exact fr_some rfl
    · exact fr_some rfl
theorem fr_X11_beats_b62 {k23 : Int32 → Int32 → Mem → Option Mem} (hk23 : ∀ (v1 : Int32) (v2 : Int32) (M : Mem), Fr id [(57, 0)] M (k23 v1 v2 M)) (v1 : Int32) (v2 : Int32) (M : Mem) : Fr id [(57, 0)] M (f_X11_beats_b62 k23 v1 v2 M) := by
  unfold f_X11_beats_b62
  exact hk23 _ _ _
theorem fr_X11_beats_L23 : ∀ (n : Nat) (v1 : Int32) (v2 : Int32) (M : Mem), Fr id [(57, 0)] M (f_X11_beats_L23 n v1 v2 M) := by
  intro n
  induction n with
  | zero => intro _ _ _; exact fr_none
  | succ n ih =>
    intro v1 v2 M
    rw [f_X11_beats_L23]
    refine fr_ite ?_ ?_
    · exact fr_some rfl
    · refine fr_ite ?_ ?_
      · refine fr_ck ?_
        refine fr_ck ?_
        refine fr_ck ?_
        refine fr_ck (fr_ltw (fr_wIa (by decide)) (fun M1 => ?_))
        exact fr_X11_beats_b62 ih _ _ _
      · exact fr_X11_beats_b62 ih _ _ _
theorem fr_X11_beats_L2 : ∀ (n : Nat) (v1 : Int32) (v2 : Int32) (M : Mem), Fr id [(57, 0)] M (f_X11_beats_L2 n v1 v2 M) := by
  intro n
  induction n with
  | zero => intro _ _ _; exact fr_none
  | succ n ih =>
    intro v1 v2 M
    rw [f_X11_beats_L2]
    refine fr_ite ?_ ?_
    · exact fr_X11_beats_L23 FU _ _ _
    · refine fr_ck (fr_ltw (fr_wIa (by decide)) (fun M1 => ?_))
      exact ih _ _ _
theorem fr_X11_beats (v1 : Int32) (M : Mem) : Fr id [(57, 0)] M (f_X11_beats v1 M) := by
  unfold f_X11_beats
  exact fr_X11_beats_L2 FU _ _ _
theorem fr_X11_takesIn_b231 (M : Mem) : Fr id [(47, 23), (47, 28), (59, 0), (60, 0), (61, 0), (62, 0), (63, 0), (64, 0)] M (f_X11_takesIn_b231 M) := by
  unfold f_X11_takesIn_b231
  refine fr_ltw (fr_wIf (by decide)) (fun M1 => ?_)
  exact fr_some rfl
theorem fr_X11_takesIn_b230 (s0 : Int32) (s1 : Int32) (M : Mem) : Fr id [(47, 23), (47, 28), (59, 0), (60, 0), (61, 0), (62, 0), (63, 0), (64, 0)] M (f_X11_takesIn_b230 s0 s1 M) := by
  unfold f_X11_takesIn_b230
  refine fr_ck (fr_ltw (fr_wIa (by decide)) (fun M1 => ?_))
  exact fr_X11_takesIn_b231 _
theorem fr_X11_takesIn_L170 : ∀ (n : Nat) (v1 : Int32) (M : Mem), Fr id [(47, 23), (47, 28), (59, 0), (60, 0), (61, 0), (62, 0), (63, 0), (64, 0)] M (f_X11_takesIn_L170 n v1 M) := by
  intro n
  induction n with
  | zero => intro _ _; exact fr_none
  | succ n ih =>
    intro v1 M
    rw [f_X11_takesIn_L170]
    refine fr_ite ?_ ?_
    · refine fr_ite ?_ ?_
      · exact fr_X11_takesIn_b230 _ _ _
      · refine fr_bR (fun x1 => ?_)
        exact fr_X11_takesIn_b230 _ _ _
    · refine fr_ck ?_
      refine fr_ck (fr_ltw (fr_wIa (by decide)) (fun M3 => ?_))
      exact ih _ _
theorem fr_X11_takesIn_b161 (M : Mem) : Fr id [(47, 23), (47, 28), (59, 0), (60, 0), (61, 0), (62, 0), (63, 0), (64, 0)] M (f_X11_takesIn_b161 M) := by
  unfold f_X11_takesIn_b161
  refine fr_ite ?_ ?_
  · exact fr_X11_takesIn_b231 _
  · exact fr_X11_takesIn_L170 FU _ _
theorem fr_X11_takesIn_b150 (v1 : Int32) (s0 : Int32) (s1 : Int32) (M : Mem) : Fr id [(47, 23), (47, 28), (59, 0), (60, 0), (61, 0), (62, 0), (63, 0), (64, 0)] M (f_X11_takesIn_b150 v1 s0 s1 M) := by
  unfold f_X11_takesIn_b150
  refine fr_ltw (fr_wIf (by decide)) (fun M1 => ?_)
  refine fr_ck (fr_ltw (fr_wIa (by decide)) (fun M2 => ?_))
  exact fr_X11_takesIn_b161 _
theorem fr_X11_takesIn_L66 {k37 : Int32 → Mem → Option Mem} (hk37 : ∀ (v1 : Int32) (M : Mem), Fr id [(47, 23), (47, 28), (59, 0), (60, 0), (61, 0), (62, 0), (63, 0), (64, 0)] M (k37 v1 M)) : ∀ (n : Nat) (v1 : Int32) (v2 : Int32) (M : Mem), Fr id [(47, 23), (47, 28), (59, 0), (60, 0), (61, 0), (62, 0), (63, 0), (64, 0)] M (f_X11_takesIn_L66 k37 n v1 v2 M) := by
  intro n
  induction n with
  | zero => intro _ _ _; exact fr_none
  | succ n ih =>
    intro v1 v2 M
    rw [f_X11_takesIn_L66]
    refine fr_ite ?_ ?_
    · exact hk37 _ _
    · refine fr_ck ?_
      refine fr_ck ?_
      refine fr_ck ?_
      refine fr_ck (fr_ltw (fr_wIa (by decide)) (fun M1 => ?_))
      exact ih _ _ _
theorem fr_X11_takesIn_L37 : ∀ (n : Nat) (v1 : Int32) (M : Mem), Fr id [(47, 23), (47, 28), (59, 0), (60, 0), (61, 0), (62, 0), (63, 0), (64, 0)] M (f_X11_takesIn_L37 n v1 M) := by
  intro n
  induction n with
  | zero => intro _ _; exact fr_none
  | succ n ih =>
    intro v1 M
    rw [f_X11_takesIn_L37]
    refine fr_ite ?_ ?_
    · refine fr_ite ?_ ?_
      · exact fr_X11_takesIn_b161 _
      · refine fr_ite ?_ ?_
        · exact fr_X11_takesIn_b161 _
        · refine fr_bR (fun x1 => ?_)
          refine fr_ck ?_
          refine fr_ite ?_ ?_
          · exact fr_X11_takesIn_b150 _ _ _ _
          · exact fr_X11_takesIn_b150 _ _ _ _
    · refine fr_ck ?_
      refine fr_ck ?_
      refine fr_ck (fr_ltw (fr_wIa (by decide)) (fun M3 => ?_))
      refine fr_ltv (fun x4 => ?_)
      exact fr_X11_takesIn_L66 ih FU _ _ _
theorem fr_X11_takesIn_b35 (M : Mem) : Fr id [(47, 23), (47, 28), (59, 0), (60, 0), (61, 0), (62, 0), (63, 0), (64, 0)] M (f_X11_takesIn_b35 M) := by
  unfold f_X11_takesIn_b35
  exact fr_X11_takesIn_L37 FU _ _
theorem fr_X11_takesIn_L2 : ∀ (n : Nat) (v1 : Int32) (M : Mem), Fr id [(47, 23), (47, 28), (59, 0), (60, 0), (61, 0), (62, 0), (63, 0), (64, 0)] M (f_X11_takesIn_L2 n v1 M) := by
  intro n
  induction n with
  | zero => intro _ _; exact fr_none
  | succ n ih =>
    intro v1 M
    rw [f_X11_takesIn_L2]
    refine fr_ite ?_ ?_
    · exact fr_X11_takesIn_b35 _
    · refine fr_ite ?_ ?_
      · refine fr_ck ?_
        refine fr_ck (fr_ltw (fr_wIa (by decide)) (fun M1 => ?_))
        exact ih _ _
      · exact fr_X11_takesIn_b35 _
theorem fr_X11_takesIn (M : Mem) : Fr id [(47, 23), (47, 28), (59, 0), (60, 0), (61, 0), (62, 0), (63, 0), (64, 0)] M (f_X11_takesIn M) := by
  unfold f_X11_takesIn
  exact fr_X11_takesIn_L2 FU _ _
theorem fr_X11_laysFrom_b63 {k15 : Int32 → Int32 → Int32 → Mem → Option Mem} {rc : Int32 → Int32 → Mem → Option Mem} (hrc : ∀ (v1 : Int32) (v2 : Int32) (M : Mem), Fr id [(47, 23), (47, 28), (58, 0), (59, 0), (60, 0), (61, 0), (62, 0), (63, 0), (64, 0)] M (rc v1 v2 M)) (hk15 : ∀ (v1 : Int32) (v2 : Int32) (v3 : Int32) (M : Mem), Fr id [(47, 23), (47, 28), (58, 0), (59, 0), (60, 0), (61, 0), (62, 0), (63, 0), (64, 0)] M (k15 v1 v2 v3 M)) (v1 : Int32) (v2 : Int32) (v3 : Int32) (M : Mem) : Fr id [(47, 23), (47, 28), (58, 0), (59, 0), (60, 0), (61, 0), (62, 0), (63, 0), (64, 0)] M (f_X11_laysFrom_b63 rc k15 v1 v2 v3 M) := by
  unfold f_X11_laysFrom_b63
  exact hk15 _ _ _ _
theorem fr_X11_laysFrom_L15 {rc : Int32 → Int32 → Mem → Option Mem} (hrc : ∀ (v1 : Int32) (v2 : Int32) (M : Mem), Fr id [(47, 23), (47, 28), (58, 0), (59, 0), (60, 0), (61, 0), (62, 0), (63, 0), (64, 0)] M (rc v1 v2 M)) : ∀ (n : Nat) (v1 : Int32) (v2 : Int32) (v3 : Int32) (M : Mem), Fr id [(47, 23), (47, 28), (58, 0), (59, 0), (60, 0), (61, 0), (62, 0), (63, 0), (64, 0)] M (f_X11_laysFrom_L15 rc n v1 v2 v3 M) := by
  intro n
  induction n with
  | zero => intro _ _ _ _; exact fr_none
  | succ n ih =>
    intro v1 v2 v3 M
    rw [f_X11_laysFrom_L15]
    refine fr_ite ?_ ?_
    · exact fr_some rfl
    · refine fr_ite ?_ ?_
      · refine fr_ck ?_
        refine fr_ite ?_ ?_
        · refine fr_ck (fr_ltw (fr_wIa (by decide)) (fun M1 => ?_))
          refine fr_bV (fr_mono (hrc (v1 + (1 : Int32)) (v2 ||| (ab_shl (1 : Int32) v3)) M1) (by decide)) (fun M3 => ?_)
          exact fr_X11_laysFrom_b63 hrc ih _ _ _ _
        · exact fr_X11_laysFrom_b63 hrc ih _ _ _ _
      · exact fr_X11_laysFrom_b63 hrc ih _ _ _ _
theorem fr_X11_laysFrom_o {rc : Int32 → Int32 → Mem → Option Mem} (hrc : ∀ (v1 : Int32) (v2 : Int32) (M : Mem), Fr id [(47, 23), (47, 28), (58, 0), (59, 0), (60, 0), (61, 0), (62, 0), (63, 0), (64, 0)] M (rc v1 v2 M)) (v1 : Int32) (v2 : Int32) (M : Mem) : Fr id [(47, 23), (47, 28), (58, 0), (59, 0), (60, 0), (61, 0), (62, 0), (63, 0), (64, 0)] M (f_X11_laysFrom_o rc v1 v2 M) := by
  unfold f_X11_laysFrom_o
  refine fr_ite ?_ ?_
  · refine fr_bV (fr_mono (fr_X11_takesIn M) (by decide)) (fun M2 => ?_)
    exact fr_some rfl
  · exact fr_X11_laysFrom_L15 hrc FU _ _ _ _
theorem fr_X11_laysFrom : ∀ (d : Nat) (v1 : Int32) (v2 : Int32) (M : Mem), Fr id [(47, 23), (47, 28), (58, 0), (59, 0), (60, 0), (61, 0), (62, 0), (63, 0), (64, 0)] M (f_X11_laysFrom d v1 v2 M)
  | 0, _, _, _ => fr_none
  | d + 1, v1, v2, M => fr_X11_laysFrom_o (rc := f_X11_laysFrom d) (fun v1 v2 M => fr_X11_laysFrom d v1 v2 M) v1 v2 M
theorem fr_X11_goesThrough_b124 (s0 : Int32) (M : Mem) : Fr id [(47, 23), (47, 28), (47, 29), (47, 30), (57, 0), (58, 0), (59, 0), (60, 0), (61, 0), (62, 0), (63, 0), (64, 0)] M (f_X11_goesThrough_b124 s0 M) := by
  unfold f_X11_goesThrough_b124
  refine fr_ltw (fr_wIf (by decide)) (fun M1 => ?_)
  exact fr_some rfl
theorem fr_X11_goesThrough_L77 : ∀ (n : Nat) (v4 : Int32) (M : Mem), Fr id [(47, 23), (47, 28), (47, 29), (47, 30), (57, 0), (58, 0), (59, 0), (60, 0), (61, 0), (62, 0), (63, 0), (64, 0)] M (f_X11_goesThrough_L77 n v4 M) := by
  intro n
  induction n with
  | zero => intro _ _; exact fr_none
  | succ n ih =>
    intro v4 M
    rw [f_X11_goesThrough_L77]
    refine fr_ite ?_ ?_
    · refine fr_bV (fr_mono (fr_X11_laysFrom FD (0 : Int32) (0 : Int32) M) (by decide)) (fun M2 => ?_)
      refine fr_ite ?_ ?_
      · exact fr_X11_goesThrough_b124 _ _
      · exact fr_X11_goesThrough_b124 _ _
    · refine fr_ck (fr_ltw (fr_wIa (by decide)) (fun M3 => ?_))
      exact ih _ _
theorem fr_X11_goesThrough_L53 : ∀ (n : Nat) (v4 : Int32) (M : Mem), Fr id [(47, 23), (47, 28), (47, 29), (47, 30), (57, 0), (58, 0), (59, 0), (60, 0), (61, 0), (62, 0), (63, 0), (64, 0)] M (f_X11_goesThrough_L53 n v4 M) := by
  intro n
  induction n with
  | zero => intro _ _; exact fr_none
  | succ n ih =>
    intro v4 M
    rw [f_X11_goesThrough_L53]
    refine fr_ite ?_ ?_
    · exact fr_X11_goesThrough_L77 FU _ _
    · refine fr_ck (fr_ltw (fr_wIa (by decide)) (fun M1 => ?_))
      exact ih _ _
theorem fr_X11_goesThrough_L28 : ∀ (n : Nat) (v4 : Int32) (M : Mem), Fr id [(47, 23), (47, 28), (47, 29), (47, 30), (57, 0), (58, 0), (59, 0), (60, 0), (61, 0), (62, 0), (63, 0), (64, 0)] M (f_X11_goesThrough_L28 n v4 M) := by
  intro n
  induction n with
  | zero => intro _ _; exact fr_none
  | succ n ih =>
    intro v4 M
    rw [f_X11_goesThrough_L28]
    refine fr_ite ?_ ?_
    · exact fr_X11_goesThrough_L53 FU _ _
    · refine fr_ck (fr_ltw (fr_wIa (by decide)) (fun M1 => ?_))
      exact ih _ _
theorem fr_X11_goesThrough (v1 : Int32) (v2 : Int32) (v3 : Int32) (M : Mem) : Fr id [(47, 23), (47, 28), (47, 29), (47, 30), (57, 0), (58, 0), (59, 0), (60, 0), (61, 0), (62, 0), (63, 0), (64, 0)] M (f_X11_goesThrough v1 v2 v3 M) := by
  unfold f_X11_goesThrough
  refine fr_bV (fr_mono (fr_X11_beats v1 M) (by decide)) (fun M2 => ?_)
  refine fr_ltw (fr_wIf (by decide)) (fun M3 => ?_)
  refine fr_ltw (fr_wIf (by decide)) (fun M4 => ?_)
  refine fr_ltw (fr_wIf (by decide)) (fun M5 => ?_)
  refine fr_ltw (fr_wIf (by decide)) (fun M6 => ?_)
  exact fr_X11_goesThrough_L28 FU _ _
theorem fr_X11_orders_b15 (v1 : Int32) (M : Mem) : Fr Prod.snd [(47, 23), (47, 28), (47, 29), (47, 30), (57, 0), (58, 0), (59, 0), (60, 0), (61, 0), (62, 0), (63, 0), (64, 0)] M (f_X11_orders_b15 v1 M) := by
  unfold f_X11_orders_b15
  refine fr_bR (fun x1 => ?_)
  refine fr_bV (fr_mono (fr_X11_goesThrough x1 (-1 : Int32) (0 : Int32) M) (by decide)) (fun M4 => ?_)
  refine fr_ite ?_ ?_
  · exact fr_some rfl
  · refine fr_ite ?_ ?_
    · exact fr_some rfl
    · refine fr_ck ?_
      exact fr_some rfl
theorem fr_X11_orders (v1 : Int32) (M : Mem) : Fr Prod.snd [(47, 23), (47, 28), (47, 29), (47, 30), (57, 0), (58, 0), (59, 0), (60, 0), (61, 0), (62, 0), (63, 0), (64, 0)] M (f_X11_orders v1 M) := by
  unfold f_X11_orders
  refine fr_ite ?_ ?_
  · exact fr_X11_orders_b15 _ _
  · refine fr_bR (fun x1 => ?_)
    refine fr_ite ?_ ?_
    · exact fr_some rfl
    · exact fr_X11_orders_b15 _ _
theorem fr_X10_sure (v1 : Int32) (M : Mem) : Fr Prod.snd [(11, 1), (11, 3), (12, 0), (13, 0)] M (f_X10_sure v1 M) := by
  unfold f_X10_sure
  refine fr_bR (fun x1 => ?_)
  refine fr_ite ?_ ?_
  · exact fr_some rfl
  · refine fr_bV (fr_mono (fr_X10_tallied M) (by decide)) (fun M4 => ?_)
    refine fr_bR (fun x5 => ?_)
    refine fr_ite ?_ ?_
    · exact fr_some rfl
    · refine fr_bR (fun x7 => ?_)
      refine fr_ite ?_ ?_
      · refine fr_bR (fun x9 => ?_)
        refine fr_ite ?_ ?_
        · exact fr_some rfl
        · exact fr_some rfl
      · exact fr_some rfl
theorem fr_X11_sure (v1 : Int32) (M : Mem) : Fr Prod.snd [(47, 23), (47, 28), (47, 29), (47, 30), (57, 0), (58, 0), (59, 0), (60, 0), (61, 0), (62, 0), (63, 0), (64, 0)] M (f_X11_sure v1 M) := by
  unfold f_X11_sure
  refine fr_ite ?_ ?_
  · exact fr_some rfl
  · refine fr_bR (fun x1 => ?_)
    refine fr_ite ?_ ?_
    · exact fr_some rfl
    · refine fr_bR (fun x3 => ?_)
      refine fr_bV (fr_mono (fr_X11_goesThrough x3 (-1 : Int32) (0 : Int32) M) (by decide)) (fun M6 => ?_)
      refine fr_ck ?_
      refine fr_ltv (fun x7 => ?_)
      refine fr_ite ?_ ?_
      · exact fr_some rfl
      · refine fr_ite ?_ ?_
        · exact fr_some rfl
        · refine fr_ite ?_ ?_
          · exact fr_some rfl
          · exact fr_some rfl
theorem fr_X10_places (v1 : Int32) (M : Mem) : Fr Prod.snd [(11, 1), (11, 3), (12, 0), (13, 0)] M (f_X10_places v1 M) := by
  unfold f_X10_places
  refine fr_bR (fun x1 => ?_)
  refine fr_ite ?_ ?_
  · exact fr_some rfl
  · refine fr_bV (fr_mono (fr_X10_tallied M) (by decide)) (fun M4 => ?_)
    refine fr_bR (fun x5 => ?_)
    refine fr_ite ?_ ?_
    · exact fr_some rfl
    · refine fr_bR (fun x7 => ?_)
      exact fr_some rfl
theorem fr_X11_places (v1 : Int32) (M : Mem) : Fr Prod.snd [(47, 23), (47, 28), (47, 29), (47, 30), (57, 0), (58, 0), (59, 0), (60, 0), (61, 0), (62, 0), (63, 0), (64, 0)] M (f_X11_places v1 M) := by
  unfold f_X11_places
  refine fr_bR (fun x1 => ?_)
  refine fr_ite ?_ ?_
  · exact fr_some rfl
  · refine fr_bR (fun x3 => ?_)
    refine fr_bV (fr_mono (fr_X11_goesThrough x3 (-1 : Int32) (0 : Int32) M) (by decide)) (fun M6 => ?_)
    refine fr_ck ?_
    exact fr_some rfl
theorem fr_X10_clash_b58 {k4 : Int32 → Int32 → Mem → Option (Int32 × Mem)} (hk4 : ∀ (v1 : Int32) (v2 : Int32) (M : Mem), Fr Prod.snd [(11, 1), (11, 3), (12, 0)] M (k4 v1 v2 M)) (v1 : Int32) (v2 : Int32) (M : Mem) : Fr Prod.snd [(11, 1), (11, 3), (12, 0)] M (f_X10_clash_b58 k4 v1 v2 M) := by
  unfold f_X10_clash_b58
  exact hk4 _ _ _
theorem fr_X10_clash_L4 : ∀ (n : Nat) (v1 : Int32) (v2 : Int32) (M : Mem), Fr Prod.snd [(11, 1), (11, 3), (12, 0)] M (f_X10_clash_L4 n v1 v2 M) := by
  intro n
  induction n with
  | zero => intro _ _ _; exact fr_none
  | succ n ih =>
    intro v1 v2 M
    rw [f_X10_clash_L4]
    refine fr_ite ?_ ?_
    · exact fr_some rfl
    · refine fr_ck ?_
      refine fr_ite ?_ ?_
      · refine fr_ltv (fun x1 => ?_)
        refine fr_bV (fr_mono (fr_X7_take x1 M) (by decide)) (fun M3 => ?_)
        refine fr_bR (fun x4 => ?_)
        refine fr_ite ?_ ?_
        · exact fr_some rfl
        · exact fr_X10_clash_b58 ih _ _ _
      · exact fr_X10_clash_b58 ih _ _ _
theorem fr_X10_clash (M : Mem) : Fr Prod.snd [(11, 1), (11, 3), (12, 0)] M (f_X10_clash M) := by
  unfold f_X10_clash
  exact fr_X10_clash_L4 FU _ _ _
theorem fr_X11_hasOrder_b59 {k18 : Int32 → Int32 → Int32 → Mem → Option (Int32 × Mem)} (hk18 : ∀ (v2 : Int32) (v3 : Int32) (v4 : Int32) (M : Mem), Fr Prod.snd [(57, 0)] M (k18 v2 v3 v4 M)) (v2 : Int32) (v3 : Int32) (v4 : Int32) (M : Mem) : Fr Prod.snd [(57, 0)] M (f_X11_hasOrder_b59 k18 v2 v3 v4 M) := by
  unfold f_X11_hasOrder_b59
  exact hk18 _ _ _ _
theorem fr_X11_hasOrder_L18 {k9 : Int32 → Int32 → Mem → Option (Int32 × Mem)} (hk9 : ∀ (v2 : Int32) (v3 : Int32) (M : Mem), Fr Prod.snd [(57, 0)] M (k9 v2 v3 M)) : ∀ (n : Nat) (v2 : Int32) (v3 : Int32) (v4 : Int32) (M : Mem), Fr Prod.snd [(57, 0)] M (f_X11_hasOrder_L18 k9 n v2 v3 v4 M) := by
  intro n
  induction n with
  | zero => intro _ _ _ _; exact fr_none
  | succ n ih =>
    intro v2 v3 v4 M
    rw [f_X11_hasOrder_L18]
    refine fr_ite ?_ ?_
    · exact hk9 _ _ _
    · refine fr_ite ?_ ?_
      · refine fr_ck ?_
        refine fr_ite ?_ ?_
        · refine fr_ltv (fun x1 => ?_)
          exact fr_X11_hasOrder_b59 ih _ _ _ _
        · exact fr_X11_hasOrder_b59 ih _ _ _ _
      · exact fr_X11_hasOrder_b59 ih _ _ _ _
theorem fr_X11_hasOrder_L9 : ∀ (n : Nat) (v2 : Int32) (v3 : Int32) (M : Mem), Fr Prod.snd [(57, 0)] M (f_X11_hasOrder_L9 n v2 v3 M) := by
  intro n
  induction n with
  | zero => intro _ _ _; exact fr_none
  | succ n ih =>
    intro v2 v3 M
    rw [f_X11_hasOrder_L9]
    refine fr_ite ?_ ?_
    · refine fr_ite ?_ ?_
      · exact fr_some rfl
      · exact fr_some rfl
    · exact fr_X11_hasOrder_L18 ih FU _ _ _ _
theorem fr_X11_hasOrder (v1 : Int32) (M : Mem) : Fr Prod.snd [(57, 0)] M (f_X11_hasOrder v1 M) := by
  unfold f_X11_hasOrder
  refine fr_bV (fr_mono (fr_X11_beats v1 M) (by decide)) (fun M2 => ?_)
  exact fr_X11_hasOrder_L9 FU _ _ _
theorem fr_X11_clash_b28 {k4 : Int32 → Int32 → Mem → Option (Int32 × Mem)} (hk4 : ∀ (v1 : Int32) (v2 : Int32) (M : Mem), Fr Prod.snd [(57, 0)] M (k4 v1 v2 M)) (v2 : Int32) (s0 : Int32) (s1 : Int32) (M : Mem) : Fr Prod.snd [(57, 0)] M (f_X11_clash_b28 k4 v2 s0 s1 M) := by
  unfold f_X11_clash_b28
  refine fr_ltv (fun x1 => ?_)
  refine fr_bI (fr_mono (fr_X11_hasOrder x1 M) (by decide)) (fun x2 M3 => ?_)
  refine fr_ite ?_ ?_
  · exact fr_some rfl
  · exact hk4 _ _ _
theorem fr_X11_clash_L4 : ∀ (n : Nat) (v1 : Int32) (v2 : Int32) (M : Mem), Fr Prod.snd [(57, 0)] M (f_X11_clash_L4 n v1 v2 M) := by
  intro n
  induction n with
  | zero => intro _ _ _; exact fr_none
  | succ n ih =>
    intro v1 v2 M
    rw [f_X11_clash_L4]
    refine fr_ite ?_ ?_
    · exact fr_some rfl
    · refine fr_bR (fun x1 => ?_)
      refine fr_ite ?_ ?_
      · exact fr_X11_clash_b28 ih _ _ _ _
      · exact fr_X11_clash_b28 ih _ _ _ _
theorem fr_X11_clash (M : Mem) : Fr Prod.snd [(57, 0)] M (f_X11_clash M) := by
  unfold f_X11_clash
  exact fr_X11_clash_L4 FU _ _ _
theorem fr_X0_fewestFalse_b97 {k39 : Int32 → Int32 → Int32 → Mem → Option (Int32 × Mem)} (hk39 : ∀ (v2 : Int32) (v3 : Int32) (v4 : Int32) (M : Mem), Fr Prod.snd [(21, 0)] M (k39 v2 v3 v4 M)) (v2 : Int32) (v3 : Int32) (v4 : Int32) (M : Mem) : Fr Prod.snd [(21, 0)] M (f_X0_fewestFalse_b97 k39 v2 v3 v4 M) := by
  unfold f_X0_fewestFalse_b97
  exact hk39 _ _ _ _
theorem fr_X0_fewestFalse_L39 {k31 : Int32 → Int32 → Mem → Option (Int32 × Mem)} (hk31 : ∀ (v2 : Int32) (v3 : Int32) (M : Mem), Fr Prod.snd [(21, 0)] M (k31 v2 v3 M)) : ∀ (n : Nat) (v2 : Int32) (v3 : Int32) (v4 : Int32) (M : Mem), Fr Prod.snd [(21, 0)] M (f_X0_fewestFalse_L39 k31 n v2 v3 v4 M) := by
  intro n
  induction n with
  | zero => intro _ _ _ _; exact fr_none
  | succ n ih =>
    intro v2 v3 v4 M
    rw [f_X0_fewestFalse_L39]
    refine fr_ite ?_ ?_
    · exact hk31 _ _ _
    · refine fr_ite ?_ ?_
      · refine fr_ltv (fun x1 => ?_)
        refine fr_ck ?_
        refine fr_ck ?_
        refine fr_bR (fun x2 => ?_)
        refine fr_ck (fr_ltw (fr_wIa (by decide)) (fun M4 => ?_))
        exact fr_X0_fewestFalse_b97 ih _ _ _ _
      · exact fr_X0_fewestFalse_b97 ih _ _ _ _
theorem fr_X0_fewestFalse_L31 : ∀ (n : Nat) (v2 : Int32) (v3 : Int32) (M : Mem), Fr Prod.snd [(21, 0)] M (f_X0_fewestFalse_L31 n v2 v3 M) := by
  intro n
  induction n with
  | zero => intro _ _ _; exact fr_none
  | succ n ih =>
    intro v2 v3 M
    rw [f_X0_fewestFalse_L31]
    refine fr_ite ?_ ?_
    · refine fr_ck ?_
      exact fr_some rfl
    · exact fr_X0_fewestFalse_L39 ih FU _ _ _ _
theorem fr_X0_fewestFalse (M : Mem) : Fr Prod.snd [(21, 0)] M (f_X0_fewestFalse M) := by
  unfold f_X0_fewestFalse
  refine fr_ltv (fun x1 => ?_)
  refine fr_bV (fr_mono (fr_J7_fill_fda19 21 (0 : Int32) (x1 + (1 : Int32)) (2147483647 : Int32) M) (by decide)) (fun M3 => ?_)
  refine fr_ck (fr_ltw (fr_wIa (by decide)) (fun M4 => ?_))
  exact fr_X0_fewestFalse_L31 FU _ _ _
theorem fr_X10_wrong (M : Mem) : Fr Prod.snd [(21, 0)] M (f_X10_wrong M) := by
  unfold f_X10_wrong
  refine fr_bI (fr_mono (fr_X0_fewestFalse M) (by decide)) (fun x1 M2 => ?_)
  exact fr_some rfl
theorem fr_X11_wrong_b52 {k9 : Int32 → Int32 → Int32 → Mem → Option (Int32 × Mem)} (hk9 : ∀ (v1 : Int32) (v2 : Int32) (v3 : Int32) (M : Mem), Fr Prod.snd [(57, 0)] M (k9 v1 v2 v3 M)) (v1 : Int32) (v2 : Int32) (v3 : Int32) (M : Mem) : Fr Prod.snd [(57, 0)] M (f_X11_wrong_b52 k9 v1 v2 v3 M) := by
  unfold f_X11_wrong_b52
  exact hk9 _ _ _ _
theorem fr_X11_wrong_L9 : ∀ (n : Nat) (v1 : Int32) (v2 : Int32) (v3 : Int32) (M : Mem), Fr Prod.snd [(57, 0)] M (f_X11_wrong_L9 n v1 v2 v3 M) := by
  intro n
  induction n with
  | zero => intro _ _ _ _; exact fr_none
  | succ n ih =>
    intro v1 v2 v3 M
    rw [f_X11_wrong_L9]
    refine fr_ite ?_ ?_
    · exact fr_some rfl
    · refine fr_ite ?_ ?_
      · refine fr_bR (fun x1 => ?_)
        refine fr_bR (fun x3 => ?_)
        refine fr_ite ?_ ?_
        · exact fr_X11_wrong_b52 ih _ _ _ _
        · refine fr_bI (fr_mono (fr_X11_hasOrder (v1 &&& (v3 ^^^ (-1 : Int32))) M) (by decide)) (fun x5 M6 => ?_)
          refine fr_ite ?_ ?_
          · exact fr_X11_wrong_b52 ih _ _ _ _
          · exact fr_X11_wrong_b52 ih _ _ _ _
      · exact fr_X11_wrong_b52 ih _ _ _ _
theorem fr_X11_wrong (M : Mem) : Fr Prod.snd [(57, 0)] M (f_X11_wrong M) := by
  unfold f_X11_wrong
  refine fr_bR (fun x1 => ?_)
  exact fr_X11_wrong_L9 FU _ _ _ _
theorem fr_X10_ask (v1 : Int32) (v2 : Int32) (M : Mem) : Fr Prod.snd [(11, 1), (11, 3), (12, 0), (13, 0)] M (f_X10_ask v1 v2 M) := by
  unfold f_X10_ask
  refine fr_bR (fun x1 => ?_)
  refine fr_ite ?_ ?_
  · exact fr_some rfl
  · refine fr_ite ?_ ?_
    · exact fr_some rfl
    · refine fr_ite ?_ ?_
      · refine fr_ite ?_ ?_
        · exact fr_some rfl
        · refine fr_bV (fr_mono (fr_X10_tallied M) (by decide)) (fun M4 => ?_)
          refine fr_bR (fun x5 => ?_)
          refine fr_ite ?_ ?_
          · refine fr_ite ?_ ?_
            · exact fr_some rfl
            · exact fr_some rfl
          · refine fr_ite ?_ ?_
            · exact fr_some rfl
            · refine fr_bR (fun x7 => ?_)
              exact fr_some rfl
      · exact fr_some rfl
theorem fr_X11_ask_L55 : ∀ (n : Nat) (v3 : Int32) (M : Mem), Fr Prod.snd [(47, 23), (47, 28), (47, 29), (47, 30), (57, 0), (58, 0), (59, 0), (60, 0), (61, 0), (62, 0), (63, 0), (64, 0)] M (f_X11_ask_L55 n v3 M) := by
  intro n
  induction n with
  | zero => intro _ _; exact fr_none
  | succ n ih =>
    intro v3 M
    rw [f_X11_ask_L55]
    refine fr_ite ?_ ?_
    · exact fr_some rfl
    · exact ih _ _
theorem fr_X11_ask (v1 : Int32) (v2 : Int32) (M : Mem) : Fr Prod.snd [(47, 23), (47, 28), (47, 29), (47, 30), (57, 0), (58, 0), (59, 0), (60, 0), (61, 0), (62, 0), (63, 0), (64, 0)] M (f_X11_ask v1 v2 M) := by
  unfold f_X11_ask
  refine fr_bR (fun x1 => ?_)
  refine fr_ite ?_ ?_
  · exact fr_some rfl
  · refine fr_bR (fun x3 => ?_)
    refine fr_ite ?_ ?_
    · exact fr_some rfl
    · refine fr_ite ?_ ?_
      · exact fr_some rfl
      · refine fr_bR (fun x5 => ?_)
        refine fr_bV (fr_mono (fr_X11_goesThrough x5 (v1 / (10 : Int32)) (ab_rem v1 (10 : Int32)) M) (by decide)) (fun M8 => ?_)
        refine fr_ite ?_ ?_
        · exact fr_X11_ask_L55 FU _ _
        · refine fr_ite ?_ ?_
          · exact fr_some rfl
          · refine fr_ite ?_ ?_
            · exact fr_some rfl
            · exact fr_some rfl
theorem fr_X10_isProved (v1 : Int32) (v2 : Int32) (v3 : Int32) (M : Mem) : Fr Prod.snd [(11, 1), (11, 3), (12, 0), (13, 0)] M (f_X10_isProved v1 v2 v3 M) := by
  unfold f_X10_isProved
  refine fr_bV (fr_mono (fr_X7_take v1 M) (by decide)) (fun M2 => ?_)
  refine fr_bV (fr_mono (fr_X7_tally_11 M2) (by decide)) (fun M4 => ?_)
  refine fr_bR (fun x5 => ?_)
  refine fr_ite ?_ ?_
  · exact fr_some rfl
  · exact fr_some rfl
theorem fr_X10_fewestProving_b63 {k30 : Int32 → Int32 → Int32 → Int32 → Int32 → Int32 → Int32 → Mem → Option (Int32 × Mem)} (hk30 : ∀ (v1 : Int32) (v2 : Int32) (v3 : Int32) (v4 : Int32) (v5 : Int32) (v6 : Int32) (v7 : Int32) (M : Mem), Fr Prod.snd [(11, 1), (11, 3), (12, 0), (13, 0)] M (k30 v1 v2 v3 v4 v5 v6 v7 M)) (v1 : Int32) (v2 : Int32) (v3 : Int32) (v4 : Int32) (v5 : Int32) (v6 : Int32) (v7 : Int32) (M : Mem) : Fr Prod.snd [(11, 1), (11, 3), (12, 0), (13, 0)] M (f_X10_fewestProving_b63 k30 v1 v2 v3 v4 v5 v6 v7 M) := by
  unfold f_X10_fewestProving_b63
  refine fr_ltv (fun x1 => ?_)
  exact hk30 _ _ _ _ _ _ _ _
theorem fr_X10_fewestProving_L30 {k17 : Int32 → Int32 → Int32 → Int32 → Int32 → Mem → Option (Int32 × Mem)} (hk17 : ∀ (v1 : Int32) (v2 : Int32) (v3 : Int32) (v4 : Int32) (v5 : Int32) (M : Mem), Fr Prod.snd [(11, 1), (11, 3), (12, 0), (13, 0)] M (k17 v1 v2 v3 v4 v5 M)) : ∀ (n : Nat) (v1 : Int32) (v2 : Int32) (v3 : Int32) (v4 : Int32) (v5 : Int32) (v6 : Int32) (v7 : Int32) (M : Mem), Fr Prod.snd [(11, 1), (11, 3), (12, 0), (13, 0)] M (f_X10_fewestProving_L30 k17 n v1 v2 v3 v4 v5 v6 v7 M) := by
  intro n
  induction n with
  | zero => intro _ _ _ _ _ _ _ _; exact fr_none
  | succ n ih =>
    intro v1 v2 v3 v4 v5 v6 v7 M
    rw [f_X10_fewestProving_L30]
    refine fr_ite ?_ ?_
    · exact hk17 _ _ _ _ _ _
    · refine fr_bR (fun x1 => ?_)
      refine fr_ite ?_ ?_
      · refine fr_bI (fr_mono (fr_X10_isProved v6 v1 v2 M) (by decide)) (fun x3 M4 => ?_)
        refine fr_ite ?_ ?_
        · exact fr_X10_fewestProving_b63 ih _ _ _ _ _ _ _ _
        · exact fr_some rfl
      · exact fr_X10_fewestProving_b63 ih _ _ _ _ _ _ _ _
theorem fr_X10_fewestProving_L17 : ∀ (n : Nat) (v1 : Int32) (v2 : Int32) (v3 : Int32) (v4 : Int32) (v5 : Int32) (M : Mem), Fr Prod.snd [(11, 1), (11, 3), (12, 0), (13, 0)] M (f_X10_fewestProving_L17 n v1 v2 v3 v4 v5 M) := by
  intro n
  induction n with
  | zero => intro _ _ _ _ _ _; exact fr_none
  | succ n ih =>
    intro v1 v2 v3 v4 v5 M
    rw [f_X10_fewestProving_L17]
    refine fr_ite ?_ ?_
    · exact fr_some rfl
    · exact fr_X10_fewestProving_L30 ih FU _ _ _ _ _ _ _ _
theorem fr_X10_fewestProving (v1 : Int32) (v2 : Int32) (M : Mem) : Fr Prod.snd [(11, 1), (11, 3), (12, 0), (13, 0)] M (f_X10_fewestProving v1 v2 M) := by
  unfold f_X10_fewestProving
  refine fr_bR (fun x1 => ?_)
  refine fr_bR (fun x3 => ?_)
  exact fr_X10_fewestProving_L17 FU _ _ _ _ _ _
theorem fr_X10_proof (v1 : Int32) (M : Mem) : Fr Prod.snd [(11, 1), (11, 3), (12, 0), (13, 0)] M (f_X10_proof v1 M) := by
  unfold f_X10_proof
  refine fr_bR (fun x1 => ?_)
  refine fr_ite ?_ ?_
  · exact fr_some rfl
  · refine fr_ite ?_ ?_
    · exact fr_some rfl
    · refine fr_ite ?_ ?_
      · refine fr_bV (fr_mono (fr_X10_tallied M) (by decide)) (fun M4 => ?_)
        refine fr_bR (fun x5 => ?_)
        refine fr_ite ?_ ?_
        · refine fr_bI (fr_mono (fr_X10_fewestProving (v1 / (10 : Int32)) (ab_rem v1 (10 : Int32)) M4) (by decide)) (fun x7 M8 => ?_)
          exact fr_some rfl
        · exact fr_some rfl
      · exact fr_some rfl
theorem fr_X11_proof_b130 {k69 : Int32 → Int32 → Int32 → Int32 → Mem → Option (Int32 × Mem)} (hk69 : ∀ (v1 : Int32) (v2 : Int32) (v3 : Int32) (v4 : Int32) (M : Mem), Fr Prod.snd [(47, 23), (47, 28), (47, 29), (47, 30), (57, 0), (58, 0), (59, 0), (60, 0), (61, 0), (62, 0), (63, 0), (64, 0)] M (k69 v1 v2 v3 v4 M)) (v1 : Int32) (v2 : Int32) (v3 : Int32) (v4 : Int32) (M : Mem) : Fr Prod.snd [(47, 23), (47, 28), (47, 29), (47, 30), (57, 0), (58, 0), (59, 0), (60, 0), (61, 0), (62, 0), (63, 0), (64, 0)] M (f_X11_proof_b130 k69 v1 v2 v3 v4 M) := by
  unfold f_X11_proof_b130
  exact hk69 _ _ _ _ _
theorem fr_X11_proof_b129 {k69 : Int32 → Int32 → Int32 → Int32 → Mem → Option (Int32 × Mem)} (hk69 : ∀ (v1 : Int32) (v2 : Int32) (v3 : Int32) (v4 : Int32) (M : Mem), Fr Prod.snd [(47, 23), (47, 28), (47, 29), (47, 30), (57, 0), (58, 0), (59, 0), (60, 0), (61, 0), (62, 0), (63, 0), (64, 0)] M (k69 v1 v2 v3 v4 M)) (v1 : Int32) (v2 : Int32) (v4 : Int32) (s0 : Int32) (M : Mem) : Fr Prod.snd [(47, 23), (47, 28), (47, 29), (47, 30), (57, 0), (58, 0), (59, 0), (60, 0), (61, 0), (62, 0), (63, 0), (64, 0)] M (f_X11_proof_b129 k69 v1 v2 v4 s0 M) := by
  unfold f_X11_proof_b129
  exact fr_X11_proof_b130 hk69 _ _ _ _ _
theorem fr_X11_proof_L69 : ∀ (n : Nat) (v1 : Int32) (v2 : Int32) (v3 : Int32) (v4 : Int32) (M : Mem), Fr Prod.snd [(47, 23), (47, 28), (47, 29), (47, 30), (57, 0), (58, 0), (59, 0), (60, 0), (61, 0), (62, 0), (63, 0), (64, 0)] M (f_X11_proof_L69 n v1 v2 v3 v4 M) := by
  intro n
  induction n with
  | zero => intro _ _ _ _ _; exact fr_none
  | succ n ih =>
    intro v1 v2 v3 v4 M
    rw [f_X11_proof_L69]
    refine fr_ite ?_ ?_
    · exact fr_some rfl
    · refine fr_ite ?_ ?_
      · refine fr_bR (fun x1 => ?_)
        refine fr_bR (fun x3 => ?_)
        refine fr_ite ?_ ?_
        · exact fr_X11_proof_b130 ih _ _ _ _ _
        · refine fr_bV (fr_mono (fr_X11_goesThrough v4 (v1 / (10 : Int32)) (ab_rem v1 (10 : Int32)) M) (by decide)) (fun M6 => ?_)
          refine fr_ite ?_ ?_
          · exact fr_X11_proof_b129 ih _ _ _ _ _
          · exact fr_X11_proof_b129 ih _ _ _ _ _
      · exact fr_X11_proof_b130 ih _ _ _ _ _
theorem fr_X11_proof (v1 : Int32) (M : Mem) : Fr Prod.snd [(47, 23), (47, 28), (47, 29), (47, 30), (57, 0), (58, 0), (59, 0), (60, 0), (61, 0), (62, 0), (63, 0), (64, 0)] M (f_X11_proof v1 M) := by
  unfold f_X11_proof
  refine fr_bR (fun x1 => ?_)
  refine fr_ite ?_ ?_
  · exact fr_some rfl
  · refine fr_ite ?_ ?_
    · exact fr_some rfl
    · refine fr_ite ?_ ?_
      · refine fr_bR (fun x3 => ?_)
        refine fr_bV (fr_mono (fr_X11_goesThrough x3 (v1 / (10 : Int32)) (ab_rem v1 (10 : Int32)) M) (by decide)) (fun M6 => ?_)
        refine fr_ite ?_ ?_
        · exact fr_some rfl
        · refine fr_ite ?_ ?_
          · exact fr_X11_proof_L69 FU _ _ _ _ _
          · exact fr_some rfl
      · exact fr_some rfl
theorem fr_X8_begin_b170 {k118 : Int32 → Int32 → Mem → Option Mem} (hk118 : ∀ (v5 : Int32) (v6 : Int32) (M : Mem), Fr id [(14, 4), (14, 5), (14, 6), (14, 7), (14, 8), (18, 0), (19, 0)] M (k118 v5 v6 M)) (v5 : Int32) (v6 : Int32) (M : Mem) : Fr id [(14, 4), (14, 5), (14, 6), (14, 7), (14, 8), (18, 0), (19, 0)] M (f_X8_begin_b170 k118 v5 v6 M) := by
  unfold f_X8_begin_b170
  exact hk118 _ _ _
theorem fr_X8_begin_L118 {k106 : Int32 → Mem → Option Mem} (hk106 : ∀ (v5 : Int32) (M : Mem), Fr id [(14, 4), (14, 5), (14, 6), (14, 7), (14, 8), (18, 0), (19, 0)] M (k106 v5 M)) : ∀ (n : Nat) (v5 : Int32) (v6 : Int32) (M : Mem), Fr id [(14, 4), (14, 5), (14, 6), (14, 7), (14, 8), (18, 0), (19, 0)] M (f_X8_begin_L118 k106 n v5 v6 M) := by
  intro n
  induction n with
  | zero => intro _ _ _; exact fr_none
  | succ n ih =>
    intro v5 v6 M
    rw [f_X8_begin_L118]
    refine fr_ite ?_ ?_
    · exact hk106 _ _
    · refine fr_ite ?_ ?_
      · exact fr_X8_begin_b170 ih _ _ _
      · refine fr_ite ?_ ?_
        · exact fr_X8_begin_b170 ih _ _ _
        · refine fr_bR (fun x1 => ?_)
          refine fr_ite ?_ ?_
          · exact fr_X8_begin_b170 ih _ _ _
          · refine fr_ltw (fr_wIf (by decide)) (fun M3 => ?_)
            exact fr_X8_begin_b170 ih _ _ _
theorem fr_X8_begin_L106 : ∀ (n : Nat) (v5 : Int32) (M : Mem), Fr id [(14, 4), (14, 5), (14, 6), (14, 7), (14, 8), (18, 0), (19, 0)] M (f_X8_begin_L106 n v5 M) := by
  intro n
  induction n with
  | zero => intro _ _; exact fr_none
  | succ n ih =>
    intro v5 M
    rw [f_X8_begin_L106]
    refine fr_ite ?_ ?_
    · exact fr_some rfl
    · exact fr_X8_begin_L118 ih FU _ _ _
theorem fr_X8_begin_b95 (s0 : Int32) (M : Mem) : Fr id [(14, 4), (14, 5), (14, 6), (14, 7), (14, 8), (18, 0), (19, 0)] M (f_X8_begin_b95 s0 M) := by
  unfold f_X8_begin_b95
  refine fr_ck (fr_ltw (fr_wIf (by decide)) (fun M1 => ?_))
  refine fr_ltw (fr_wIf (by decide)) (fun M2 => ?_)
  exact fr_X8_begin_L106 FU _ _
theorem fr_X8_begin_b55 (v2 : Int32) (v3 : Int32) (M : Mem) : Fr id [(14, 4), (14, 5), (14, 6), (14, 7), (14, 8), (18, 0), (19, 0)] M (f_X8_begin_b55 v2 v3 M) := by
  unfold f_X8_begin_b55
  refine fr_ltw (fr_wIf (by decide)) (fun M1 => ?_)
  refine fr_ltw (fr_wIf (by decide)) (fun M2 => ?_)
  refine fr_ltw (fr_wIf (by decide)) (fun M3 => ?_)
  refine fr_bR (fun x4 => ?_)
  refine fr_ite ?_ ?_
  · exact fr_X8_begin_b95 _ _
  · exact fr_X8_begin_b95 _ _
theorem fr_X8_begin_b32 (v2 : Int32) (v3 : Int32) (s0 : Int32) (M : Mem) : Fr id [(14, 4), (14, 5), (14, 6), (14, 7), (14, 8), (18, 0), (19, 0)] M (f_X8_begin_b32 v2 v3 s0 M) := by
  unfold f_X8_begin_b32
  refine fr_ite ?_ ?_
  · refine fr_bV (fr_mono (fr_J7_fill_53178 18 (-1 : Int32) M) (by decide)) (fun M2 => ?_)
    refine fr_bV (fr_mono (fr_J7_fill_53178 19 (-1 : Int32) M2) (by decide)) (fun M4 => ?_)
    exact fr_X8_begin_b55 _ _ _
  · exact fr_X8_begin_b55 _ _ _
theorem fr_X8_begin_b31 (v2 : Int32) (v3 : Int32) (M : Mem) : Fr id [(14, 4), (14, 5), (14, 6), (14, 7), (14, 8), (18, 0), (19, 0)] M (f_X8_begin_b31 v2 v3 M) := by
  unfold f_X8_begin_b31
  exact fr_X8_begin_b32 _ _ _ _
theorem fr_X8_begin (v2 : Int32) (v3 : Int32) (M : Mem) : Fr id [(14, 4), (14, 5), (14, 6), (14, 7), (14, 8), (18, 0), (19, 0)] M (f_X8_begin v2 v3 M) := by
  unfold f_X8_begin
  refine fr_ite ?_ ?_
  · refine fr_ite ?_ ?_
    · refine fr_ite ?_ ?_
      · exact fr_X8_begin_b32 _ _ _ _
      · exact fr_X8_begin_b31 _ _ _
    · exact fr_X8_begin_b31 _ _ _
  · exact fr_X8_begin_b31 _ _ _
theorem fr_X7_clear_15 (v1 : Int32) (M : Mem) : Fr id [(15, 1), (15, 3), (16, 0)] M (f_X7_clear_15 v1 M) := by
  unfold f_X7_clear_15
  refine fr_ltw (fr_wIf (by decide)) (fun M1 => ?_)
  refine fr_ltw (fr_wIf (by decide)) (fun M2 => ?_)
  refine fr_bV (fr_mono (fr_J7_fill_53178 16 (0 : Int32) M2) (by decide)) (fun M4 => ?_)
  exact fr_some rfl
theorem fr_X7_tally_15_b99 {k24 : Int32 → Mem → Option Mem} (hk24 : ∀ (v1 : Int32) (M : Mem), Fr id [(17, 0)] M (k24 v1 M)) (v1 : Int32) (M : Mem) : Fr id [(17, 0)] M (f_X7_tally_15_b99 k24 v1 M) := by
  unfold f_X7_tally_15_b99
  exact hk24 _ _
theorem fr_X7_tally_15_b93 {k53 : Int32 → Int32 → Int32 → Mem → Option Mem} (hk53 : ∀ (v1 : Int32) (v2 : Int32) (v3 : Int32) (M : Mem), Fr id [(17, 0)] M (k53 v1 v2 v3 M)) (v1 : Int32) (v2 : Int32) (v3 : Int32) (M : Mem) : Fr id [(17, 0)] M (f_X7_tally_15_b93 k53 v1 v2 v3 M) := by
  unfold f_X7_tally_15_b93
  exact hk53 _ _ _ _
theorem fr_X7_tally_15_L53 {k24 : Int32 → Mem → Option Mem} (hk24 : ∀ (v1 : Int32) (M : Mem), Fr id [(17, 0)] M (k24 v1 M)) : ∀ (n : Nat) (v1 : Int32) (v2 : Int32) (v3 : Int32) (M : Mem), Fr id [(17, 0)] M (f_X7_tally_15_L53 k24 n v1 v2 v3 M) := by
  intro n
  induction n with
  | zero => intro _ _ _ _; exact fr_none
  | succ n ih =>
    intro v1 v2 v3 M
    rw [f_X7_tally_15_L53]
    refine fr_ite ?_ ?_
    · exact fr_X7_tally_15_b99 hk24 _ _
    · refine fr_ite ?_ ?_
      · exact fr_X7_tally_15_b99 hk24 _ _
      · refine fr_ite ?_ ?_
        · refine fr_ck ?_
          refine fr_ck ?_
          refine fr_ck (fr_ltw (fr_wIa (by decide)) (fun M1 => ?_))
          exact fr_X7_tally_15_b93 ih _ _ _ _
        · exact fr_X7_tally_15_b93 ih _ _ _ _
theorem fr_X7_tally_15_b50 {k24 : Int32 → Mem → Option Mem} (hk24 : ∀ (v1 : Int32) (M : Mem), Fr id [(17, 0)] M (k24 v1 M)) (v1 : Int32) (s0 : Int32) (M : Mem) : Fr id [(17, 0)] M (f_X7_tally_15_b50 k24 v1 s0 M) := by
  unfold f_X7_tally_15_b50
  exact fr_X7_tally_15_L53 hk24 FU _ _ _ _
theorem fr_X7_tally_15_L24 : ∀ (n : Nat) (v1 : Int32) (M : Mem), Fr id [(17, 0)] M (f_X7_tally_15_L24 n v1 M) := by
  intro n
  induction n with
  | zero => intro _ _; exact fr_none
  | succ n ih =>
    intro v1 M
    rw [f_X7_tally_15_L24]
    refine fr_ite ?_ ?_
    · exact fr_some rfl
    · refine fr_ck ?_
      refine fr_ite ?_ ?_
      · exact fr_X7_tally_15_b50 ih _ _ _
      · refine fr_bR (fun x1 => ?_)
        exact fr_X7_tally_15_b50 ih _ _ _
theorem fr_X7_tally_15 (M : Mem) : Fr id [(17, 0)] M (f_X7_tally_15 M) := by
  unfold f_X7_tally_15
  refine fr_bV (fr_mono (fr_J7_fill_fda19 17 (0 : Int32) ((M.1 15 2) + (1 : Int32)) (0 : Int32) M) (by decide)) (fun M2 => ?_)
  refine fr_ck (fr_ltw (fr_wIa (by decide)) (fun M3 => ?_))
  exact fr_X7_tally_15_L24 FU _ _
