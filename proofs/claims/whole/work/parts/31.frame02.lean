theorem fr_X8_restBy {rc : Int32 → Int32 → Int32 → Mem → Option (Int32 × Mem)} (hrc : ∀ (v1 : Int32) (v2 : Int32) (v3 : Int32) (M : Mem), Fr Prod.snd [(15, 1), (15, 3), (16, 0), (17, 0), (18, 0), (19, 0)] M (rc v1 v2 v3 M)) (v1 : Int32) (v2 : Int32) (v3 : Int32) (v4 : Int32) (v5 : Int32) (M : Mem) : Fr Prod.snd [(15, 1), (15, 3), (16, 0), (17, 0), (18, 0), (19, 0)] M (f_X8_restBy rc v1 v2 v3 v4 v5 M) := by
  unfold f_X8_restBy
  refine fr_bR (fun x1 => ?_)
  refine fr_bI (fr_mono (hrc x1 v4 (v5 + (1 : Int32)) M) (by decide)) (fun x3 M4 => ?_)
  refine fr_bR (fun x5 => ?_)
  refine fr_bI (fr_mono (hrc x5 v4 (v5 + (1 : Int32)) M4) (by decide)) (fun x7 M8 => ?_)
  refine fr_ite ?_ ?_
  · exact fr_some rfl
  · exact fr_some rfl
theorem fr_X8_leastRest_b60 {k22 : Int32 → Int32 → Int32 → Int32 → Int32 → Int32 → Mem → Option (Int32 × Mem)} {rc : Int32 → Int32 → Int32 → Mem → Option (Int32 × Mem)} (hrc : ∀ (v1 : Int32) (v2 : Int32) (v3 : Int32) (M : Mem), Fr Prod.snd [(15, 1), (15, 3), (16, 0), (17, 0), (18, 0), (19, 0)] M (rc v1 v2 v3 M)) (hk22 : ∀ (v1 : Int32) (v2 : Int32) (v3 : Int32) (v4 : Int32) (v5 : Int32) (v6 : Int32) (M : Mem), Fr Prod.snd [(15, 1), (15, 3), (16, 0), (17, 0), (18, 0), (19, 0)] M (k22 v1 v2 v3 v4 v5 v6 M)) (v1 : Int32) (v2 : Int32) (v3 : Int32) (v4 : Int32) (v5 : Int32) (v6 : Int32) (M : Mem) : Fr Prod.snd [(15, 1), (15, 3), (16, 0), (17, 0), (18, 0), (19, 0)] M (f_X8_leastRest_b60 rc k22 v1 v2 v3 v4 v5 v6 M) := by
  unfold f_X8_leastRest_b60
  exact hk22 _ _ _ _ _ _ _
theorem fr_X8_leastRest_L22 {k7 : Int32 → Int32 → Int32 → Int32 → Int32 → Mem → Option (Int32 × Mem)} {rc : Int32 → Int32 → Int32 → Mem → Option (Int32 × Mem)} (hrc : ∀ (v1 : Int32) (v2 : Int32) (v3 : Int32) (M : Mem), Fr Prod.snd [(15, 1), (15, 3), (16, 0), (17, 0), (18, 0), (19, 0)] M (rc v1 v2 v3 M)) (hk7 : ∀ (v1 : Int32) (v2 : Int32) (v3 : Int32) (v4 : Int32) (v5 : Int32) (M : Mem), Fr Prod.snd [(15, 1), (15, 3), (16, 0), (17, 0), (18, 0), (19, 0)] M (k7 v1 v2 v3 v4 v5 M)) : ∀ (n : Nat) (v1 : Int32) (v2 : Int32) (v3 : Int32) (v4 : Int32) (v5 : Int32) (v6 : Int32) (M : Mem), Fr Prod.snd [(15, 1), (15, 3), (16, 0), (17, 0), (18, 0), (19, 0)] M (f_X8_leastRest_L22 rc k7 n v1 v2 v3 v4 v5 v6 M) := by
  intro n
  induction n with
  | zero => intro _ _ _ _ _ _ _; exact fr_none
  | succ n ih =>
    intro v1 v2 v3 v4 v5 v6 M
    rw [f_X8_leastRest_L22]
    refine fr_ite ?_ ?_
    · exact hk7 _ _ _ _ _ _
    · refine fr_bR (fun x1 => ?_)
      refine fr_ite ?_ ?_
      · exact fr_X8_leastRest_b60 hrc ih _ _ _ _ _ _ _
      · refine fr_bI (fr_mono (fr_X8_restBy hrc v1 v5 v6 v2 v3 M) (by decide)) (fun x3 M4 => ?_)
        refine fr_ltv (fun x5 => ?_)
        exact fr_X8_leastRest_b60 hrc ih _ _ _ _ _ _ _
theorem fr_X8_leastRest_L7 {rc : Int32 → Int32 → Int32 → Mem → Option (Int32 × Mem)} (hrc : ∀ (v1 : Int32) (v2 : Int32) (v3 : Int32) (M : Mem), Fr Prod.snd [(15, 1), (15, 3), (16, 0), (17, 0), (18, 0), (19, 0)] M (rc v1 v2 v3 M)) : ∀ (n : Nat) (v1 : Int32) (v2 : Int32) (v3 : Int32) (v4 : Int32) (v5 : Int32) (M : Mem), Fr Prod.snd [(15, 1), (15, 3), (16, 0), (17, 0), (18, 0), (19, 0)] M (f_X8_leastRest_L7 rc n v1 v2 v3 v4 v5 M) := by
  intro n
  induction n with
  | zero => intro _ _ _ _ _ _; exact fr_none
  | succ n ih =>
    intro v1 v2 v3 v4 v5 M
    rw [f_X8_leastRest_L7]
    refine fr_ite ?_ ?_
    · refine fr_ite ?_ ?_
      · exact fr_some rfl
      · exact fr_some rfl
    · refine fr_ltv (fun x1 => ?_)
      exact fr_X8_leastRest_L22 hrc ih FU _ _ _ _ _ _ _
theorem fr_X8_leastRest {rc : Int32 → Int32 → Int32 → Mem → Option (Int32 × Mem)} (hrc : ∀ (v1 : Int32) (v2 : Int32) (v3 : Int32) (M : Mem), Fr Prod.snd [(15, 1), (15, 3), (16, 0), (17, 0), (18, 0), (19, 0)] M (rc v1 v2 v3 M)) (v1 : Int32) (v2 : Int32) (v3 : Int32) (M : Mem) : Fr Prod.snd [(15, 1), (15, 3), (16, 0), (17, 0), (18, 0), (19, 0)] M (f_X8_leastRest rc v1 v2 v3 M) := by
  unfold f_X8_leastRest
  exact fr_X8_leastRest_L7 hrc FU _ _ _ _ _ _
theorem fr_X8_cost_b160 {rc : Int32 → Int32 → Int32 → Mem → Option (Int32 × Mem)} (hrc : ∀ (v1 : Int32) (v2 : Int32) (v3 : Int32) (M : Mem), Fr Prod.snd [(15, 1), (15, 3), (16, 0), (17, 0), (18, 0), (19, 0)] M (rc v1 v2 v3 M)) (v4 : Nat) (v5 : Int32) (M : Mem) (hv4 : v4 = 18 ∨ v4 = 19) : Fr Prod.snd [(15, 1), (15, 3), (16, 0), (17, 0), (18, 0), (19, 0)] M (f_X8_cost_b160 rc v4 v5 M) := by
  unfold f_X8_cost_b160
  refine fr_ck ?_
  exact fr_some rfl
theorem fr_X8_cost_b159 {rc : Int32 → Int32 → Int32 → Mem → Option (Int32 × Mem)} (hrc : ∀ (v1 : Int32) (v2 : Int32) (v3 : Int32) (M : Mem), Fr Prod.snd [(15, 1), (15, 3), (16, 0), (17, 0), (18, 0), (19, 0)] M (rc v1 v2 v3 M)) (v4 : Nat) (v5 : Int32) (s0 : Int32) (s1 : Int32) (s2 : Nat) (M : Mem) (hv4 : v4 = 18 ∨ v4 = 19) (hs2 : s2 = 18 ∨ s2 = 19) : Fr Prod.snd [(15, 1), (15, 3), (16, 0), (17, 0), (18, 0), (19, 0)] M (f_X8_cost_b159 rc v4 v5 s0 s1 s2 M) := by
  unfold f_X8_cost_b159
  refine fr_ck (fr_ltw (fr_wIv hs2 (by decide) (by decide)) (fun M1 => ?_))
  exact fr_X8_cost_b160 hrc _ _ _ hv4
theorem fr_X8_cost_b134 {rc : Int32 → Int32 → Int32 → Mem → Option (Int32 × Mem)} (hrc : ∀ (v1 : Int32) (v2 : Int32) (v3 : Int32) (M : Mem), Fr Prod.snd [(15, 1), (15, 3), (16, 0), (17, 0), (18, 0), (19, 0)] M (rc v1 v2 v3 M)) (v1 : Int32) (v2 : Int32) (v3 : Int32) (v4 : Nat) (v5 : Int32) (v6 : Int32) (s0 : Int32) (M : Mem) (hv4 : v4 = 18 ∨ v4 = 19) : Fr Prod.snd [(15, 1), (15, 3), (16, 0), (17, 0), (18, 0), (19, 0)] M (f_X8_cost_b134 rc v1 v2 v3 v4 v5 v6 s0 M) := by
  unfold f_X8_cost_b134
  refine fr_ite ?_ ?_
  · refine fr_bI (fr_mono (fr_X8_leastRest hrc v1 v2 v3 M) (by decide)) (fun x1 M2 => ?_)
    exact fr_X8_cost_b159 hrc _ _ _ _ _ _ hv4 hv4
  · exact fr_X8_cost_b159 hrc _ _ _ _ _ _ hv4 hv4
theorem fr_X8_cost_b117 {rc : Int32 → Int32 → Int32 → Mem → Option (Int32 × Mem)} (hrc : ∀ (v1 : Int32) (v2 : Int32) (v3 : Int32) (M : Mem), Fr Prod.snd [(15, 1), (15, 3), (16, 0), (17, 0), (18, 0), (19, 0)] M (rc v1 v2 v3 M)) (v1 : Int32) (v2 : Int32) (v3 : Int32) (v4 : Nat) (v5 : Int32) (s0 : Int32) (M : Mem) (hv4 : v4 = 18 ∨ v4 = 19) : Fr Prod.snd [(15, 1), (15, 3), (16, 0), (17, 0), (18, 0), (19, 0)] M (f_X8_cost_b117 rc v1 v2 v3 v4 v5 s0 M) := by
  unfold f_X8_cost_b117
  refine fr_ite ?_ ?_
  · exact fr_X8_cost_b134 hrc _ _ _ _ _ _ _ _ hv4
  · refine fr_bR (fun x1 => ?_)
    exact fr_X8_cost_b134 hrc _ _ _ _ _ _ _ _ hv4
theorem fr_X8_cost_L52 {rc : Int32 → Int32 → Int32 → Mem → Option (Int32 × Mem)} (hrc : ∀ (v1 : Int32) (v2 : Int32) (v3 : Int32) (M : Mem), Fr Prod.snd [(15, 1), (15, 3), (16, 0), (17, 0), (18, 0), (19, 0)] M (rc v1 v2 v3 M)) : ∀ (n : Nat) (v1 : Int32) (v2 : Int32) (v3 : Int32) (v4 : Nat) (v5 : Int32) (v6 : Int32) (M : Mem) (hv4 : v4 = 18 ∨ v4 = 19), Fr Prod.snd [(15, 1), (15, 3), (16, 0), (17, 0), (18, 0), (19, 0)] M (f_X8_cost_L52 rc n v1 v2 v3 v4 v5 v6 M) := by
  intro n
  induction n with
  | zero => intro _ _ _ _ _ _ _ _; exact fr_none
  | succ n ih =>
    intro v1 v2 v3 v4 v5 v6 M hv4
    rw [f_X8_cost_L52]
    refine fr_ite ?_ ?_
    · refine fr_bV (fr_mono (fr_X7_tally_15 M) (by decide)) (fun M2 => ?_)
      refine fr_bR (fun x3 => ?_)
      refine fr_ite ?_ ?_
      · exact fr_X8_cost_b117 hrc _ _ _ _ _ _ _ hv4
      · exact fr_X8_cost_b117 hrc _ _ _ _ _ _ _ hv4
    · refine fr_ck (fr_ltw (fr_wIa (by decide)) (fun M5 => ?_))
      exact ih _ _ _ _ _ _ _ hv4
theorem fr_X8_cost_b15 {rc : Int32 → Int32 → Int32 → Mem → Option (Int32 × Mem)} (hrc : ∀ (v1 : Int32) (v2 : Int32) (v3 : Int32) (M : Mem), Fr Prod.snd [(15, 1), (15, 3), (16, 0), (17, 0), (18, 0), (19, 0)] M (rc v1 v2 v3 M)) (v1 : Int32) (v2 : Int32) (v3 : Int32) (s0 : Nat) (M : Mem) (hs0 : s0 = 18 ∨ s0 = 19) : Fr Prod.snd [(15, 1), (15, 3), (16, 0), (17, 0), (18, 0), (19, 0)] M (f_X8_cost_b15 rc v1 v2 v3 s0 M) := by
  unfold f_X8_cost_b15
  refine fr_bR (fun x1 => ?_)
  refine fr_ck ?_
  refine fr_ite ?_ ?_
  · refine fr_ite ?_ ?_
    · exact fr_X8_cost_b160 hrc _ _ _ hs0
    · refine fr_bV (fr_mono (fr_X7_clear_15 (M.1 14 3) M) (by decide)) (fun M4 => ?_)
      exact fr_X8_cost_L52 hrc FU _ _ _ _ _ _ _ hs0
  · exact fr_X8_cost_b160 hrc _ _ _ hs0
theorem fr_X8_cost_o {rc : Int32 → Int32 → Int32 → Mem → Option (Int32 × Mem)} (hrc : ∀ (v1 : Int32) (v2 : Int32) (v3 : Int32) (M : Mem), Fr Prod.snd [(15, 1), (15, 3), (16, 0), (17, 0), (18, 0), (19, 0)] M (rc v1 v2 v3 M)) (v1 : Int32) (v2 : Int32) (v3 : Int32) (M : Mem) : Fr Prod.snd [(15, 1), (15, 3), (16, 0), (17, 0), (18, 0), (19, 0)] M (f_X8_cost_o rc v1 v2 v3 M) := by
  unfold f_X8_cost_o
  refine fr_ite ?_ ?_
  · exact fr_X8_cost_b15 hrc _ _ _ _ _ (Or.inl rfl)
  · exact fr_X8_cost_b15 hrc _ _ _ _ _ (Or.inr rfl)
theorem fr_X8_cost : ∀ (d : Nat) (v1 : Int32) (v2 : Int32) (v3 : Int32) (M : Mem), Fr Prod.snd [(15, 1), (15, 3), (16, 0), (17, 0), (18, 0), (19, 0)] M (f_X8_cost d v1 v2 v3 M)
  | 0, _, _, _, _ => fr_none
  | d + 1, v1, v2, v3, M => fr_X8_cost_o (rc := f_X8_cost d) (fun v1 v2 v3 M => fr_X8_cost d v1 v2 v3 M) v1 v2 v3 M
theorem fr_X8_leastWorst (M : Mem) : Fr Prod.snd [(15, 1), (15, 3), (16, 0), (17, 0), (18, 0), (19, 0)] M (f_X8_leastWorst M) := by
  unfold f_X8_leastWorst
  refine fr_ite ?_ ?_
  · exact fr_some rfl
  · refine fr_bI (fr_mono (fr_X8_cost FD (M.1 14 6) (0 : Int32) (0 : Int32) M) (by decide)) (fun x1 M2 => ?_)
    exact fr_some rfl
theorem fr_X10_worst (v1 : Int32) (M : Mem) : Fr Prod.snd [(11, 1), (11, 3), (12, 0), (13, 0), (14, 4), (14, 5), (14, 6), (14, 7), (14, 8), (15, 1), (15, 3), (16, 0), (17, 0), (18, 0), (19, 0)] M (f_X10_worst v1 M) := by
  unfold f_X10_worst
  refine fr_bR (fun x1 => ?_)
  refine fr_ite ?_ ?_
  · exact fr_some rfl
  · refine fr_bR (fun x3 => ?_)
    refine fr_ite ?_ ?_
    · exact fr_some rfl
    · refine fr_bV (fr_mono (fr_X10_tallied M) (by decide)) (fun M6 => ?_)
      refine fr_bV (fr_mono (fr_X8_begin (v1 / (10 : Int32)) (ab_rem v1 (10 : Int32)) M6) (by decide)) (fun M8 => ?_)
      refine fr_bI (fr_mono (fr_X8_leastWorst M8) (by decide)) (fun x9 M10 => ?_)
      exact fr_some rfl
theorem fr_X11_gathers (v1 : Int32) (M : Mem) : Fr Prod.snd [(47, 23), (47, 28), (47, 29), (47, 30), (47, 33), (57, 0), (58, 0), (59, 0), (60, 0), (61, 0), (62, 0), (63, 0), (64, 0)] M (f_X11_gathers v1 M) := by
  unfold f_X11_gathers
  refine fr_bR (fun x1 => ?_)
  refine fr_ite ?_ ?_
  · exact fr_some rfl
  · refine fr_ite ?_ ?_
    · exact fr_some rfl
    · refine fr_ite ?_ ?_
      · refine fr_ck (fr_ltw (fr_wIf (by decide)) (fun M3 => ?_))
        refine fr_bR (fun x4 => ?_)
        refine fr_bV (fr_mono (fr_X11_goesThrough x4 (v1 / (10 : Int32)) (ab_rem v1 (10 : Int32)) M3) (by decide)) (fun M7 => ?_)
        refine fr_ck (fr_ltw (fr_wIf (by decide)) (fun M8 => ?_))
        exact fr_some rfl
      · exact fr_some rfl
theorem fr_X11_worst (v1 : Int32) (M : Mem) : Fr Prod.snd [(47, 23), (47, 28), (47, 29), (47, 30), (47, 33), (57, 0), (58, 0), (59, 0), (60, 0), (61, 0), (62, 0), (63, 0), (64, 0)] M (f_X11_worst v1 M) := by
  unfold f_X11_worst
  refine fr_bI (fr_mono (fr_X11_gathers v1 M) (by decide)) (fun x1 M2 => ?_)
  refine fr_ite ?_ ?_
  · refine fr_bR (fun x3 => ?_)
    refine fr_bR (fun x5 => ?_)
    exact fr_some rfl
  · exact fr_some rfl
theorem fr_X8_leastSum (M : Mem) : Fr Prod.snd [(15, 1), (15, 3), (16, 0), (17, 0), (18, 0), (19, 0)] M (f_X8_leastSum M) := by
  unfold f_X8_leastSum
  refine fr_ite ?_ ?_
  · exact fr_some rfl
  · refine fr_bI (fr_mono (fr_X8_cost FD (M.1 14 6) (1 : Int32) (0 : Int32) M) (by decide)) (fun x1 M2 => ?_)
    exact fr_some rfl
theorem fr_X10_mean (v1 : Int32) (v2 : Int32) (M : Mem) : Fr Prod.snd [(11, 1), (11, 3), (12, 0), (13, 0), (14, 4), (14, 5), (14, 6), (14, 7), (14, 8), (15, 1), (15, 3), (16, 0), (17, 0), (18, 0), (19, 0)] M (f_X10_mean v1 v2 M) := by
  unfold f_X10_mean
  refine fr_bR (fun x1 => ?_)
  refine fr_ite ?_ ?_
  · exact fr_some rfl
  · refine fr_ite ?_ ?_
    · exact fr_some rfl
    · refine fr_ite ?_ ?_
      · refine fr_bR (fun x3 => ?_)
        refine fr_ite ?_ ?_
        · exact fr_some rfl
        · refine fr_bV (fr_mono (fr_X10_tallied M) (by decide)) (fun M6 => ?_)
          refine fr_bV (fr_mono (fr_X8_begin (v1 / (10 : Int32)) (ab_rem v1 (10 : Int32)) M6) (by decide)) (fun M8 => ?_)
          refine fr_bR (fun x9 => ?_)
          refine fr_ltv (fun x11 => ?_)
          refine fr_bI (fr_mono (fr_X8_leastSum M8) (by decide)) (fun x12 M13 => ?_)
          refine fr_bR (fun x14 => ?_)
          exact fr_some rfl
      · exact fr_some rfl
theorem fr_X11_mean (v1 : Int32) (v2 : Int32) (M : Mem) : Fr Prod.snd [(47, 23), (47, 28), (47, 29), (47, 30), (47, 33), (57, 0), (58, 0), (59, 0), (60, 0), (61, 0), (62, 0), (63, 0), (64, 0)] M (f_X11_mean v1 v2 M) := by
  unfold f_X11_mean
  refine fr_bR (fun x1 => ?_)
  refine fr_ite ?_ ?_
  · exact fr_some rfl
  · refine fr_bI (fr_mono (fr_X11_gathers v1 M) (by decide)) (fun x3 M4 => ?_)
    refine fr_ite ?_ ?_
    · refine fr_bR (fun x5 => ?_)
      refine fr_bR (fun x7 => ?_)
      refine fr_ite ?_ ?_
      · exact fr_some rfl
      · refine fr_bR (fun x9 => ?_)
        refine fr_ite ?_ ?_
        · refine fr_ite fr_none ?_
          exact fr_some rfl
        · refine fr_ite fr_none ?_
          exact fr_some rfl
    · exact fr_some rfl
theorem fr_X8_firstKeeping_b79 {k34 : Int32 → Int32 → Int32 → Mem → Option (Int32 × Mem)} (hk34 : ∀ (v1 : Int32) (v2 : Int32) (v3 : Int32) (M : Mem), Fr Prod.snd [(15, 1), (15, 3), (16, 0), (17, 0), (18, 0), (19, 0)] M (k34 v1 v2 v3 M)) (v1 : Int32) (v2 : Int32) (v3 : Int32) (M : Mem) : Fr Prod.snd [(15, 1), (15, 3), (16, 0), (17, 0), (18, 0), (19, 0)] M (f_X8_firstKeeping_b79 k34 v1 v2 v3 M) := by
  unfold f_X8_firstKeeping_b79
  exact hk34 _ _ _ _
theorem fr_X8_firstKeeping_L34 {k22 : Int32 → Int32 → Mem → Option (Int32 × Mem)} (hk22 : ∀ (v1 : Int32) (v2 : Int32) (M : Mem), Fr Prod.snd [(15, 1), (15, 3), (16, 0), (17, 0), (18, 0), (19, 0)] M (k22 v1 v2 M)) : ∀ (n : Nat) (v1 : Int32) (v2 : Int32) (v3 : Int32) (M : Mem), Fr Prod.snd [(15, 1), (15, 3), (16, 0), (17, 0), (18, 0), (19, 0)] M (f_X8_firstKeeping_L34 k22 n v1 v2 v3 M) := by
  intro n
  induction n with
  | zero => intro _ _ _ _; exact fr_none
  | succ n ih =>
    intro v1 v2 v3 M
    rw [f_X8_firstKeeping_L34]
    refine fr_ite ?_ ?_
    · exact hk22 _ _ _
    · refine fr_bR (fun x1 => ?_)
      refine fr_ite ?_ ?_
      · exact fr_X8_firstKeeping_b79 ih _ _ _ _
      · refine fr_bI (fr_mono (fr_X8_restBy (fr_X8_cost FD) (M.1 14 6) v2 v3 (0 : Int32) (0 : Int32) M) (by decide)) (fun x3 M4 => ?_)
        refine fr_ite ?_ ?_
        · exact fr_some rfl
        · exact fr_X8_firstKeeping_b79 ih _ _ _ _
theorem fr_X8_firstKeeping_L22 : ∀ (n : Nat) (v1 : Int32) (v2 : Int32) (M : Mem), Fr Prod.snd [(15, 1), (15, 3), (16, 0), (17, 0), (18, 0), (19, 0)] M (f_X8_firstKeeping_L22 n v1 v2 M) := by
  intro n
  induction n with
  | zero => intro _ _ _; exact fr_none
  | succ n ih =>
    intro v1 v2 M
    rw [f_X8_firstKeeping_L22]
    refine fr_ite ?_ ?_
    · exact fr_some rfl
    · refine fr_ltv (fun x1 => ?_)
      exact fr_X8_firstKeeping_L34 ih FU _ _ _ _
theorem fr_X8_firstKeeping (M : Mem) : Fr Prod.snd [(15, 1), (15, 3), (16, 0), (17, 0), (18, 0), (19, 0)] M (f_X8_firstKeeping M) := by
  unfold f_X8_firstKeeping
  refine fr_ite ?_ ?_
  · exact fr_some rfl
  · refine fr_bI (fr_mono (fr_X8_cost FD (M.1 14 6) (0 : Int32) (0 : Int32) M) (by decide)) (fun x1 M2 => ?_)
    exact fr_X8_firstKeeping_L22 FU _ _ _
theorem fr_X10_next (v1 : Int32) (v2 : Int32) (M : Mem) : Fr Prod.snd [(11, 1), (11, 3), (12, 0), (13, 0), (14, 4), (14, 5), (14, 6), (14, 7), (14, 8), (15, 1), (15, 3), (16, 0), (17, 0), (18, 0), (19, 0)] M (f_X10_next v1 v2 M) := by
  unfold f_X10_next
  refine fr_bR (fun x1 => ?_)
  refine fr_ite ?_ ?_
  · exact fr_some rfl
  · refine fr_ite ?_ ?_
    · exact fr_some rfl
    · refine fr_ite ?_ ?_
      · refine fr_bR (fun x3 => ?_)
        refine fr_ite ?_ ?_
        · exact fr_some rfl
        · refine fr_bV (fr_mono (fr_X10_tallied M) (by decide)) (fun M6 => ?_)
          refine fr_bV (fr_mono (fr_X8_begin (v1 / (10 : Int32)) (ab_rem v1 (10 : Int32)) M6) (by decide)) (fun M8 => ?_)
          refine fr_bI (fr_mono (fr_X8_firstKeeping M8) (by decide)) (fun x9 M10 => ?_)
          refine fr_ite ?_ ?_
          · refine fr_ite ?_ ?_
            · exact fr_some rfl
            · exact fr_some rfl
          · exact fr_some rfl
      · exact fr_some rfl
theorem fr_X11_next_b135 {k61 : Int32 → Int32 → Int32 → Int32 → Int32 → Mem → Option (Int32 × Mem)} (hk61 : ∀ (v2 : Int32) (v4 : Int32) (v5 : Int32) (v6 : Int32) (v7 : Int32) (M : Mem), Fr Prod.snd [(47, 23), (47, 28), (47, 29), (47, 30), (47, 33), (57, 0), (58, 0), (59, 0), (60, 0), (61, 0), (62, 0), (63, 0), (64, 0)] M (k61 v2 v4 v5 v6 v7 M)) (v2 : Int32) (v4 : Int32) (v5 : Int32) (v6 : Int32) (v7 : Int32) (M : Mem) : Fr Prod.snd [(47, 23), (47, 28), (47, 29), (47, 30), (47, 33), (57, 0), (58, 0), (59, 0), (60, 0), (61, 0), (62, 0), (63, 0), (64, 0)] M (f_X11_next_b135 k61 v2 v4 v5 v6 v7 M) := by
  unfold f_X11_next_b135
  exact hk61 _ _ _ _ _ _
theorem fr_X11_next_L61 {k41 : Int32 → Int32 → Int32 → Int32 → Mem → Option (Int32 × Mem)} (hk41 : ∀ (v2 : Int32) (v4 : Int32) (v5 : Int32) (v6 : Int32) (M : Mem), Fr Prod.snd [(47, 23), (47, 28), (47, 29), (47, 30), (47, 33), (57, 0), (58, 0), (59, 0), (60, 0), (61, 0), (62, 0), (63, 0), (64, 0)] M (k41 v2 v4 v5 v6 M)) : ∀ (n : Nat) (v2 : Int32) (v4 : Int32) (v5 : Int32) (v6 : Int32) (v7 : Int32) (M : Mem), Fr Prod.snd [(47, 23), (47, 28), (47, 29), (47, 30), (47, 33), (57, 0), (58, 0), (59, 0), (60, 0), (61, 0), (62, 0), (63, 0), (64, 0)] M (f_X11_next_L61 k41 n v2 v4 v5 v6 v7 M) := by
  intro n
  induction n with
  | zero => intro _ _ _ _ _ _; exact fr_none
  | succ n ih =>
    intro v2 v4 v5 v6 v7 M
    rw [f_X11_next_L61]
    refine fr_ite ?_ ?_
    · exact hk41 _ _ _ _ _
    · refine fr_bR (fun x1 => ?_)
      refine fr_ltv (fun x3 => ?_)
      refine fr_ite ?_ ?_
      · exact fr_X11_next_b135 ih _ _ _ _ _ _
      · refine fr_ite ?_ ?_
        · exact fr_X11_next_b135 ih _ _ _ _ _ _
        · refine fr_bR (fun x4 => ?_)
          refine fr_ite ?_ ?_
          · exact fr_X11_next_b135 ih _ _ _ _ _ _
          · refine fr_bR (fun x6 => ?_)
            refine fr_ite ?_ ?_
            · exact fr_X11_next_b135 ih _ _ _ _ _ _
            · refine fr_ite ?_ ?_
              · exact fr_some rfl
              · exact fr_some rfl
theorem fr_X11_next_L41 : ∀ (n : Nat) (v2 : Int32) (v4 : Int32) (v5 : Int32) (v6 : Int32) (M : Mem), Fr Prod.snd [(47, 23), (47, 28), (47, 29), (47, 30), (47, 33), (57, 0), (58, 0), (59, 0), (60, 0), (61, 0), (62, 0), (63, 0), (64, 0)] M (f_X11_next_L41 n v2 v4 v5 v6 M) := by
  intro n
  induction n with
  | zero => intro _ _ _ _ _; exact fr_none
  | succ n ih =>
    intro v2 v4 v5 v6 M
    rw [f_X11_next_L41]
    refine fr_ite ?_ ?_
    · exact fr_some rfl
    · refine fr_ite ?_ ?_
      · exact fr_some rfl
      · refine fr_ltv (fun x1 => ?_)
        exact fr_X11_next_L61 ih FU _ _ _ _ _ _
theorem fr_X11_next (v1 : Int32) (v2 : Int32) (M : Mem) : Fr Prod.snd [(47, 23), (47, 28), (47, 29), (47, 30), (47, 33), (57, 0), (58, 0), (59, 0), (60, 0), (61, 0), (62, 0), (63, 0), (64, 0)] M (f_X11_next v1 v2 M) := by
  unfold f_X11_next
  refine fr_bR (fun x1 => ?_)
  refine fr_ite ?_ ?_
  · exact fr_some rfl
  · refine fr_bI (fr_mono (fr_X11_gathers v1 M) (by decide)) (fun x3 M4 => ?_)
    refine fr_ite ?_ ?_
    · refine fr_bR (fun x5 => ?_)
      refine fr_bR (fun x7 => ?_)
      exact fr_X11_next_L41 FU _ _ _ _ _
    · exact fr_some rfl
theorem fr_X10_longest (v1 : Int32) (M : Mem) : Fr Prod.snd [(11, 1), (11, 3), (12, 0), (13, 0)] M (f_X10_longest v1 M) := by
  unfold f_X10_longest
  refine fr_bR (fun x1 => ?_)
  refine fr_ite ?_ ?_
  · exact fr_some rfl
  · refine fr_ltv (fun x3 => ?_)
    refine fr_ltv (fun x4 => ?_)
    refine fr_bV (fr_mono (fr_X10_tallied M) (by decide)) (fun M6 => ?_)
    refine fr_bR (fun x7 => ?_)
    refine fr_ite ?_ ?_
    · exact fr_some rfl
    · refine fr_bV (fr_mono (fr_X7_add x3 x4 M6) (by decide)) (fun M10 => ?_)
      refine fr_bV (fr_mono (fr_X7_tally_11 M10) (by decide)) (fun M12 => ?_)
      refine fr_bR (fun x13 => ?_)
      refine fr_ltv (fun x15 => ?_)
      refine fr_ite ?_ ?_
      · exact fr_some rfl
      · refine fr_ite ?_ ?_
        · exact fr_some rfl
        · exact fr_some rfl
theorem fr_X11_longest_b55 (v1 : Int32) (s0 : Int32) (M : Mem) : Fr Prod.snd [(47, 23), (47, 28), (47, 29), (47, 30), (57, 0), (58, 0), (59, 0), (60, 0), (61, 0), (62, 0), (63, 0), (64, 0)] M (f_X11_longest_b55 v1 s0 M) := by
  unfold f_X11_longest_b55
  refine fr_ltv (fun x1 => ?_)
  refine fr_ite ?_ ?_
  · exact fr_some rfl
  · refine fr_ck ?_
    refine fr_ck ?_
    refine fr_ite ?_ ?_
    · exact fr_some rfl
    · exact fr_some rfl
theorem fr_X11_longest (v1 : Int32) (M : Mem) : Fr Prod.snd [(47, 23), (47, 28), (47, 29), (47, 30), (57, 0), (58, 0), (59, 0), (60, 0), (61, 0), (62, 0), (63, 0), (64, 0)] M (f_X11_longest v1 M) := by
  unfold f_X11_longest
  refine fr_ite ?_ ?_
  · exact fr_some rfl
  · refine fr_bR (fun x1 => ?_)
    refine fr_ite ?_ ?_
    · exact fr_some rfl
    · refine fr_bR (fun x3 => ?_)
      refine fr_bV (fr_mono (fr_X11_goesThrough x3 (-1 : Int32) (0 : Int32) M) (by decide)) (fun M6 => ?_)
      refine fr_ite ?_ ?_
      · exact fr_X11_longest_b55 _ _ _
      · exact fr_X11_longest_b55 _ _ _
theorem fr_X5_pop (M : Mem) : Fr Prod.snd [(22, 10)] M (f_X5_pop M) := by
  unfold f_X5_pop
  refine fr_ite ?_ ?_
  · exact fr_some rfl
  · refine fr_ltw (fr_wIf (by decide)) (fun M1 => ?_)
    refine fr_ck ?_
    exact fr_some rfl
theorem fr_X5_push (v1 : Int32) (M : Mem) : Fr id [(22, 10), (26, 0)] M (f_X5_push v1 M) := by
  unfold f_X5_push
  refine fr_ite ?_ ?_
  · exact fr_some rfl
  · refine fr_ck (fr_ltw (fr_wIa (by decide)) (fun M1 => ?_))
    refine fr_ltw (fr_wIf (by decide)) (fun M2 => ?_)
    exact fr_some rfl
theorem fr_X5_workOut_b169 {k9 : Int32 → Int32 → Mem → Option (Int32 × Mem)} (hk9 : ∀ (v1 : Int32) (v2 : Int32) (M : Mem), Fr Prod.snd [(22, 10), (26, 0)] M (k9 v1 v2 M)) (v1 : Int32) (v2 : Int32) (M : Mem) : Fr Prod.snd [(22, 10), (26, 0)] M (f_X5_workOut_b169 k9 v1 v2 M) := by
  unfold f_X5_workOut_b169
  exact hk9 _ _ _
theorem fr_X5_workOut_b155 {k9 : Int32 → Int32 → Mem → Option (Int32 × Mem)} (hk9 : ∀ (v1 : Int32) (v2 : Int32) (M : Mem), Fr Prod.snd [(22, 10), (26, 0)] M (k9 v1 v2 M)) (v1 : Int32) (v2 : Int32) (v3 : Int32) (v4 : Int32) (s0 : Int32) (M : Mem) : Fr Prod.snd [(22, 10), (26, 0)] M (f_X5_workOut_b155 k9 v1 v2 v3 v4 s0 M) := by
  unfold f_X5_workOut_b155
  refine fr_bR (fun x1 => ?_)
  refine fr_bV (fr_mono (fr_X5_push x1 M) (by decide)) (fun M4 => ?_)
  exact fr_X5_workOut_b169 hk9 _ _ _
theorem fr_X5_workOut_b147 {k9 : Int32 → Int32 → Mem → Option (Int32 × Mem)} (hk9 : ∀ (v1 : Int32) (v2 : Int32) (M : Mem), Fr Prod.snd [(22, 10), (26, 0)] M (k9 v1 v2 M)) (v1 : Int32) (v2 : Int32) (v3 : Int32) (v4 : Int32) (M : Mem) : Fr Prod.snd [(22, 10), (26, 0)] M (f_X5_workOut_b147 k9 v1 v2 v3 v4 M) := by
  unfold f_X5_workOut_b147
  exact fr_X5_workOut_b155 hk9 _ _ _ _ _ _
theorem fr_X5_workOut_b74 {k9 : Int32 → Int32 → Mem → Option (Int32 × Mem)} (hk9 : ∀ (v1 : Int32) (v2 : Int32) (M : Mem), Fr Prod.snd [(22, 10), (26, 0)] M (k9 v1 v2 M)) (v2 : Int32) (s0 : Int32) (M : Mem) : Fr Prod.snd [(22, 10), (26, 0)] M (f_X5_workOut_b74 k9 v2 s0 M) := by
  unfold f_X5_workOut_b74
  exact fr_X5_workOut_b169 hk9 _ _ _
theorem fr_X5_workOut_b41 {k9 : Int32 → Int32 → Mem → Option (Int32 × Mem)} (hk9 : ∀ (v1 : Int32) (v2 : Int32) (M : Mem), Fr Prod.snd [(22, 10), (26, 0)] M (k9 v1 v2 M)) (v2 : Int32) (s0 : Int32) (M : Mem) : Fr Prod.snd [(22, 10), (26, 0)] M (f_X5_workOut_b41 k9 v2 s0 M) := by
  unfold f_X5_workOut_b41
  exact fr_X5_workOut_b169 hk9 _ _ _
theorem fr_X5_workOut_L9 : ∀ (n : Nat) (v1 : Int32) (v2 : Int32) (M : Mem), Fr Prod.snd [(22, 10), (26, 0)] M (f_X5_workOut_L9 n v1 v2 M) := by
  intro n
  induction n with
  | zero => intro _ _ _; exact fr_none
  | succ n ih =>
    intro v1 v2 M
    rw [f_X5_workOut_L9]
    refine fr_ite ?_ ?_
    · exact fr_some rfl
    · refine fr_ck ?_
      refine fr_ltv (fun x1 => ?_)
      refine fr_ite ?_ ?_
      · refine fr_ite ?_ ?_
        · refine fr_bI (fr_mono (fr_X5_pop M) (by decide)) (fun x12 M13 => ?_)
          exact fr_some rfl
        · refine fr_ite ?_ ?_
          · refine fr_bI (fr_mono (fr_X5_pop M) (by decide)) (fun x10 M11 => ?_)
            refine fr_ite ?_ ?_
            · exact fr_X5_workOut_b74 ih _ _ _
            · exact fr_X5_workOut_b74 ih _ _ _
          · refine fr_ite ?_ ?_
            · refine fr_ck ?_
              refine fr_bV (fr_mono (fr_X5_push (M.1 (M.2.2 22 6) (((2 : Int32) * v2) + (1 : Int32)).toNatClampNeg) M) (by decide)) (fun M9 => ?_)
              exact fr_X5_workOut_b169 ih _ _ _
            · refine fr_ite ?_ ?_
              · refine fr_ck ?_
                refine fr_ck ?_
                refine fr_bV (fr_mono (fr_X5_push (M.1 27 (M.1 (M.2.2 22 6) (((2 : Int32) * v2) + (1 : Int32)).toNatClampNeg).toNatClampNeg) M) (by decide)) (fun M7 => ?_)
                exact fr_X5_workOut_b169 ih _ _ _
              · refine fr_bI (fr_mono (fr_X5_pop M) (by decide)) (fun x2 M3 => ?_)
                refine fr_ite ?_ ?_
                · exact fr_X5_workOut_b147 ih _ _ _ _ _
                · refine fr_ite ?_ ?_
                  · exact fr_X5_workOut_b147 ih _ _ _ _ _
                  · refine fr_bI (fr_mono (fr_X5_pop M3) (by decide)) (fun x4 M5 => ?_)
                    exact fr_X5_workOut_b155 ih _ _ _ _ _ _
      · refine fr_ite ?_ ?_
        · exact fr_X5_workOut_b41 ih _ _ _
        · exact fr_X5_workOut_b41 ih _ _ _
theorem fr_X5_workOut (M : Mem) : Fr Prod.snd [(22, 10), (26, 0)] M (f_X5_workOut M) := by
  unfold f_X5_workOut
  refine fr_ltw (fr_wIf (by decide)) (fun M1 => ?_)
  exact fr_X5_workOut_L9 FU _ _ _
theorem fr_X5_hundredths_b96 (v2 : Int32) (v5 : Int32) (s0 : Int32) (M : Mem) : Fr Prod.snd [(22, 10), (26, 0), (27, 0)] M (f_X5_hundredths_b96 v2 v5 s0 M) := by
  unfold f_X5_hundredths_b96
  refine fr_ltv (fun x1 => ?_)
  refine fr_ite ?_ ?_
  · exact fr_some rfl
  · exact fr_some rfl
theorem fr_X5_hundredths (v2 : Int32) (v3 : Int32) (v4 : Int32) (M : Mem) : Fr Prod.snd [(22, 10), (26, 0), (27, 0)] M (f_X5_hundredths v2 v3 v4 M) := by
  unfold f_X5_hundredths
  refine fr_ltv (fun x1 => ?_)
  refine fr_ltv (fun x2 => ?_)
  refine fr_ck (fr_ltw (fr_wIa (by decide)) (fun M3 => ?_))
  refine fr_ck (fr_ltw (fr_wIa (by decide)) (fun M4 => ?_))
  refine fr_ck ?_
  refine fr_ck (fr_ltw (fr_wIa (by decide)) (fun M5 => ?_))
  refine fr_ck ?_
  refine fr_ck (fr_ltw (fr_wIa (by decide)) (fun M6 => ?_))
  refine fr_ck (fr_ltw (fr_wIa (by decide)) (fun M7 => ?_))
  refine fr_ite ?_ ?_
  · refine fr_ck ?_
    refine fr_ck ?_
    exact fr_X5_hundredths_b96 _ _ _ _
  · refine fr_bI (fr_mono (fr_X5_workOut M7) (by decide)) (fun x8 M9 => ?_)
    exact fr_X5_hundredths_b96 _ _ _ _
theorem fr_X10_chance (v1 : Int32) (v2 : Int32) (M : Mem) : Fr Prod.snd [(22, 10), (26, 0), (27, 0)] M (f_X10_chance v1 v2 M) := by
  unfold f_X10_chance
  refine fr_bR (fun x1 => ?_)
  refine fr_ite ?_ ?_
  · exact fr_some rfl
  · refine fr_ite ?_ ?_
    · exact fr_some rfl
    · refine fr_ite ?_ ?_
      · refine fr_bI (fr_mono (fr_X5_hundredths (v1 / (10 : Int32)) (ab_rem v1 (10 : Int32)) v2 M) (by decide)) (fun x3 M4 => ?_)
        exact fr_some rfl
      · exact fr_some rfl
theorem fr_X11_chanceOf_b99 {rc : Int32 → Int32 → Int32 → Mem → Option (Int32 × Mem)} (hrc : ∀ (v1 : Int32) (v2 : Int32) (v3 : Int32) (M : Mem), Fr Prod.snd [(47, 15), (47, 16), (47, 17), (47, 18), (47, 19), (56, 0)] M (rc v1 v2 v3 M)) (v4 : Int32) (M : Mem) : Fr Prod.snd [(47, 15), (47, 16), (47, 17), (47, 18), (47, 19), (56, 0)] M (f_X11_chanceOf_b99 rc v4 M) := by
  unfold f_X11_chanceOf_b99
  refine fr_ite ?_ ?_
  · refine fr_ite ?_ ?_
    · exact fr_some rfl
    · exact fr_some rfl
  · exact fr_some rfl
theorem fr_X11_chanceOf_o {rc : Int32 → Int32 → Int32 → Mem → Option (Int32 × Mem)} (hrc : ∀ (v1 : Int32) (v2 : Int32) (v3 : Int32) (M : Mem), Fr Prod.snd [(47, 15), (47, 16), (47, 17), (47, 18), (47, 19), (56, 0)] M (rc v1 v2 v3 M)) (v1 : Int32) (v2 : Int32) (v3 : Int32) (M : Mem) : Fr Prod.snd [(47, 15), (47, 16), (47, 17), (47, 18), (47, 19), (56, 0)] M (f_X11_chanceOf_o rc v1 v2 v3 M) := by
  unfold f_X11_chanceOf_o
  refine fr_ite ?_ ?_
  · refine fr_ck ?_
    refine fr_ck ?_
    refine fr_ltv (fun x1 => ?_)
    refine fr_ite ?_ ?_
    · exact fr_X11_chanceOf_b99 hrc _ _
    · refine fr_ck (fr_ltw (fr_wIa (by decide)) (fun M2 => ?_))
      refine fr_ck (fr_ltw (fr_wIa (by decide)) (fun M3 => ?_))
      refine fr_ck ?_
      refine fr_ck (fr_ltw (fr_wIa (by decide)) (fun M4 => ?_))
      refine fr_ck ?_
      refine fr_ck (fr_ltw (fr_wIa (by decide)) (fun M5 => ?_))
      refine fr_ck (fr_ltw (fr_wIa (by decide)) (fun M6 => ?_))
      refine fr_bI (fr_mono (fr_X11_workOut (0 : Int32) (M6.1 47 13) M6) (by decide)) (fun x7 M8 => ?_)
      exact fr_X11_chanceOf_b99 hrc _ _
  · refine fr_bI (fr_mono (hrc v2 v1 v3 M) (by decide)) (fun x9 M10 => ?_)
    exact fr_some rfl
theorem fr_X11_chanceOf : ∀ (d : Nat) (v1 : Int32) (v2 : Int32) (v3 : Int32) (M : Mem), Fr Prod.snd [(47, 15), (47, 16), (47, 17), (47, 18), (47, 19), (56, 0)] M (f_X11_chanceOf d v1 v2 v3 M)
  | 0, _, _, _, _ => fr_none
  | d + 1, v1, v2, v3, M => fr_X11_chanceOf_o (rc := f_X11_chanceOf d) (fun v1 v2 v3 M => fr_X11_chanceOf d v1 v2 v3 M) v1 v2 v3 M
theorem fr_X11_chance (v1 : Int32) (v2 : Int32) (M : Mem) : Fr Prod.snd [(47, 15), (47, 16), (47, 17), (47, 18), (47, 19), (56, 0)] M (f_X11_chance v1 v2 M) := by
  unfold f_X11_chance
  refine fr_ite ?_ ?_
  · exact fr_some rfl
  · refine fr_bR (fun x1 => ?_)
    refine fr_ite ?_ ?_
    · exact fr_some rfl
    · refine fr_bR (fun x3 => ?_)
      refine fr_ite ?_ ?_
      · exact fr_some rfl
      · refine fr_bI (fr_mono (fr_X11_chanceOf FD (v1 / (10 : Int32)) (ab_rem v1 (10 : Int32)) v2 M) (by decide)) (fun x5 M6 => ?_)
        exact fr_some rfl
theorem fr_X3_add (v1 : Int32) (M : Mem) : Fr Prod.snd [(28, 1), (29, 0)] M (f_X3_add v1 M) := by
  unfold f_X3_add
  refine fr_ite ?_ ?_
  · refine fr_ck (fr_ltw (fr_wIa (by decide)) (fun M1 => ?_))
    refine fr_ltw (fr_wIf (by decide)) (fun M2 => ?_)
    exact fr_some rfl
  · exact fr_some rfl
theorem fr_X10_cup (v1 : Int32) (M : Mem) : Fr Prod.snd [(28, 1), (29, 0)] M (f_X10_cup v1 M) := by
  unfold f_X10_cup
  refine fr_ite ?_ ?_
  · refine fr_ltw (fr_wIf (by decide)) (fun M7 => ?_)
    exact fr_some rfl
  · refine fr_bR (fun x1 => ?_)
    refine fr_ite ?_ ?_
    · exact fr_some rfl
    · refine fr_bR (fun x3 => ?_)
      refine fr_ite ?_ ?_
      · refine fr_bI (fr_mono (fr_X3_add v1 M) (by decide)) (fun x5 M6 => ?_)
        exact fr_some rfl
      · exact fr_some rfl
theorem fr_X11_cup (v1 : Int32) (M : Mem) : Fr Prod.snd [(47, 35), (65, 0)] M (f_X11_cup v1 M) := by
  unfold f_X11_cup
  refine fr_ite ?_ ?_
  · refine fr_ltw (fr_wIf (by decide)) (fun M7 => ?_)
    exact fr_some rfl
  · refine fr_bR (fun x1 => ?_)
    refine fr_ite ?_ ?_
    · exact fr_some rfl
    · refine fr_bR (fun x3 => ?_)
      refine fr_ite ?_ ?_
      · refine fr_ite ?_ ?_
        · exact fr_some rfl
        · refine fr_ck (fr_ltw (fr_wIa (by decide)) (fun M5 => ?_))
          refine fr_ltw (fr_wIf (by decide)) (fun M6 => ?_)
          exact fr_some rfl
      · exact fr_some rfl
theorem fr_X3_forgetOdds (M : Mem) : Fr id [(32, 0)] M (f_X3_forgetOdds M) := by
  unfold f_X3_forgetOdds
  refine fr_bV (fr_mono (fr_J7_fill_53178 32 (-1 : Int32) M) (by decide)) (fun M2 => ?_)
  exact fr_some rfl
theorem fr_X3_sitDown (M : Mem) : Fr id [(30, 0)] M (f_X3_sitDown M) := by
  unfold f_X3_sitDown
  refine fr_ck (fr_ltw (fr_cpI (by decide)) (fun M1 => ?_))
  exact fr_some rfl
theorem fr_J7_fill_bad5a_L10 : ∀ (n : Nat) (v0 : Nat) (v2 : Int32) (v3 : Int64) (v5 : Int32) (M : Mem), Fr id [(v0, 0)] M (f_J7_fill_bad5a_L10 n v0 v2 v3 v5 M) := by
  intro n
  induction n with
  | zero => intro _ _ _ _ _; exact fr_none
  | succ n ih =>
    intro v0 v2 v3 v5 M
    rw [f_J7_fill_bad5a_L10]
    refine fr_ite ?_ ?_
    · exact fr_some rfl
    · refine fr_ck (fr_ltw (fr_wLa (by simp)) (fun M1 => ?_))
      exact ih _ _ _ _ _
theorem fr_J7_fill_bad5a (v0 : Nat) (v1 : Int32) (v2 : Int32) (v3 : Int64) (M : Mem) : Fr id [(v0, 0)] M (f_J7_fill_bad5a v0 v1 v2 v3 M) := by
  unfold f_J7_fill_bad5a
  refine fr_ck ?_
  refine fr_bR (fun _ => ?_)
  exact fr_J7_fill_bad5a_L10 FU _ _ _ _ _
theorem fr_X3_oddsOf_b43 (v6 : Int32) (M : Mem) : Fr Prod.snd [(22, 10), (26, 0), (27, 0), (32, 0)] M (f_X3_oddsOf_b43 v6 M) := by
  unfold f_X3_oddsOf_b43
  refine fr_ck ?_
  exact fr_some rfl
theorem fr_X3_oddsOf (v3 : Int32) (v4 : Int32) (v5 : Int32) (M : Mem) : Fr Prod.snd [(22, 10), (26, 0), (27, 0), (32, 0)] M (f_X3_oddsOf v3 v4 v5 M) := by
  unfold f_X3_oddsOf
  refine fr_ltv (fun x1 => ?_)
  refine fr_ck ?_
  refine fr_ite ?_ ?_
  · refine fr_bI (fr_mono (fr_X5_hundredths v3 v4 v5 M) (by decide)) (fun x2 M3 => ?_)
    refine fr_ck (fr_ltw (fr_wIa (by decide)) (fun M4 => ?_))
    exact fr_X3_oddsOf_b43 _ _
  · exact fr_X3_oddsOf_b43 _ _
theorem fr_X3_beatingRivals_L18 : ∀ (n : Nat) (v3 : Int32) (v4 : Int32) (v5 : Int32) (v6 : Int64) (v8 : Int32) (M : Mem), Fr Prod.snd [(22, 10), (26, 0), (27, 0), (32, 0)] M (f_X3_beatingRivals_L18 n v3 v4 v5 v6 v8 M) := by
  intro n
  induction n with
  | zero => intro _ _ _ _ _ _; exact fr_none
  | succ n ih =>
    intro v3 v4 v5 v6 v8 M
    rw [f_X3_beatingRivals_L18]
    refine fr_ite ?_ ?_
    · exact fr_some rfl
    · refine fr_ck ?_
      refine fr_ck ?_
      refine fr_ck ?_
      refine fr_bI (fr_mono (fr_X3_oddsOf (M.1 30 v3.toNatClampNeg) (M.1 30 v8.toNatClampNeg) v4 M) (by decide)) (fun x1 M2 => ?_)
      refine fr_ltv (fun x3 => ?_)
      exact ih _ _ _ _ _ _
theorem fr_X3_beatingRivals (v3 : Int32) (v4 : Int32) (M : Mem) : Fr Prod.snd [(22, 10), (26, 0), (27, 0), (32, 0)] M (f_X3_beatingRivals v3 v4 M) := by
  unfold f_X3_beatingRivals
  refine fr_ltv (fun x1 => ?_)
  exact fr_X3_beatingRivals_L18 FU _ _ _ _ _ _
theorem fr_X3_weigh_L24 {k13 : Int32 → Mem → Option Mem} (hk13 : ∀ (v3 : Int32) (M : Mem), Fr id [(22, 10), (26, 0), (27, 0), (32, 0), (33, 0)] M (k13 v3 M)) : ∀ (n : Nat) (v3 : Int32) (v4 : Int32) (M : Mem), Fr id [(22, 10), (26, 0), (27, 0), (32, 0), (33, 0)] M (f_X3_weigh_L24 k13 n v3 v4 M) := by
  intro n
  induction n with
  | zero => intro _ _ _; exact fr_none
  | succ n ih =>
    intro v3 v4 M
    rw [f_X3_weigh_L24]
    refine fr_ite ?_ ?_
    · exact hk13 _ _
    · refine fr_ck ?_
      refine fr_bI (fr_mono (fr_X3_beatingRivals v4 v3 M) (by decide)) (fun x1 M2 => ?_)
      refine fr_ck (fr_ltw (fr_wLa (by decide)) (fun M3 => ?_))
      exact ih _ _ _
theorem fr_X3_weigh_L13 : ∀ (n : Nat) (v3 : Int32) (M : Mem), Fr id [(22, 10), (26, 0), (27, 0), (32, 0), (33, 0)] M (f_X3_weigh_L13 n v3 M) := by
  intro n
  induction n with
  | zero => intro _ _; exact fr_none
  | succ n ih =>
    intro v3 M
    rw [f_X3_weigh_L13]
    refine fr_bR (fun x1 => ?_)
    refine fr_ite ?_ ?_
    · exact fr_some rfl
    · exact fr_X3_weigh_L24 ih FU _ _ _
theorem fr_X3_weigh (M : Mem) : Fr id [(22, 10), (26, 0), (27, 0), (32, 0), (33, 0)] M (f_X3_weigh M) := by
  unfold f_X3_weigh
  refine fr_bV (fr_mono (fr_J7_fill_bad5a 33 (0 : Int32) (8 : Int32) (1 : Int64) M) (by decide)) (fun M2 => ?_)
  exact fr_X3_weigh_L13 FU _ _
theorem fr_X3_partsFor (v3 : Int32) (v4 : Int32) (M : Mem) : Fr Prod.snd [(22, 10), (26, 0), (27, 0), (30, 0), (32, 0), (33, 0)] M (f_X3_partsFor v3 v4 M) := by
  unfold f_X3_partsFor
  refine fr_bV (fr_mono (fr_X3_forgetOdds M) (by decide)) (fun M2 => ?_)
  refine fr_bV (fr_mono (fr_X3_sitDown M2) (by decide)) (fun M4 => ?_)
  refine fr_bV (fr_mono (fr_X3_weigh M4) (by decide)) (fun M6 => ?_)
  refine fr_bR (fun x7 => ?_)
  refine fr_bR (fun x9 => ?_)
  refine fr_ck ?_
  refine fr_ltv (fun x11 => ?_)
  refine fr_ite ?_ ?_
  · refine fr_bR (fun x12 => ?_)
    exact fr_some rfl
  · exact fr_some rfl
theorem fr_X10_likely_b29 (M : Mem) : Fr Prod.snd [(22, 10), (26, 0), (27, 0), (30, 0), (32, 0), (33, 0)] M (f_X10_likely_b29 M) := by
  unfold f_X10_likely_b29
  exact fr_some rfl
theorem fr_X10_likely (v1 : Int32) (v2 : Int32) (v3 : Int32) (M : Mem) : Fr Prod.snd [(22, 10), (26, 0), (27, 0), (30, 0), (32, 0), (33, 0)] M (f_X10_likely v1 v2 v3 M) := by
  unfold f_X10_likely
  refine fr_bR (fun x1 => ?_)
  refine fr_ite ?_ ?_
  · exact fr_X10_likely_b29 _
  · refine fr_ite ?_ ?_
    · exact fr_X10_likely_b29 _
    · refine fr_ite ?_ ?_
      · exact fr_X10_likely_b29 _
      · refine fr_ite ?_ ?_
        · exact fr_X10_likely_b29 _
        · refine fr_ite ?_ ?_
          · refine fr_bR (fun x3 => ?_)
            refine fr_ite ?_ ?_
            · exact fr_some rfl
            · refine fr_bI (fr_mono (fr_X3_partsFor v1 v2 M) (by decide)) (fun x5 M6 => ?_)
              refine fr_bR (fun x7 => ?_)
              refine fr_bR (fun x9 => ?_)
              exact fr_some rfl
          · exact fr_X10_likely_b29 _
theorem fr_X11_linesUp_L2 : ∀ (n : Nat) (v1 : Int32) (M : Mem), Fr id [(66, 0)] M (f_X11_linesUp_L2 n v1 M) := by
  intro n
  induction n with
  | zero => intro _ _; exact fr_none
  | succ n ih =>
    intro v1 M
    rw [f_X11_linesUp_L2]
    refine fr_ite ?_ ?_
    · exact fr_some rfl
    · refine fr_ck ?_
      refine fr_ck (fr_ltw (fr_wIa (by decide)) (fun M1 => ?_))
      exact ih _ _
theorem fr_X11_linesUp (M : Mem) : Fr id [(66, 0)] M (f_X11_linesUp M) := by
  unfold f_X11_linesUp
  exact fr_X11_linesUp_L2 FU _ _
theorem fr_X11_goesCup_L166 {k136 : Int32 → Mem → Option Mem} (hk136 : ∀ (v1 : Int32) (M : Mem), Fr id [(47, 15), (47, 16), (47, 17), (47, 18), (47, 19), (56, 0), (67, 0), (68, 0), (69, 0)] M (k136 v1 M)) : ∀ (n : Nat) (v1 : Int32) (v2 : Int32) (v3 : Int64) (v5 : Int32) (M : Mem), Fr id [(47, 15), (47, 16), (47, 17), (47, 18), (47, 19), (56, 0), (67, 0), (68, 0), (69, 0)] M (f_X11_goesCup_L166 k136 n v1 v2 v3 v5 M) := by
  intro n
  induction n with
  | zero => intro _ _ _ _ _; exact fr_none
  | succ n ih =>
    intro v1 v2 v3 v5 M
    rw [f_X11_goesCup_L166]
    refine fr_ite ?_ ?_
    · refine fr_ck ?_
      refine fr_ck (fr_ltw (fr_wLa (by decide)) (fun M1 => ?_))
      exact hk136 _ _
    · refine fr_ck ?_
      refine fr_ck ?_
      refine fr_ck ?_
      refine fr_bI (fr_mono (fr_X11_chanceOf FD (M.1 66 v1.toNatClampNeg) (M.1 66 v5.toNatClampNeg) (2 : Int32) M) (by decide)) (fun x2 M3 => ?_)
      refine fr_ltv (fun x4 => ?_)
      exact ih _ _ _ _ _
theorem fr_X11_goesCup_L136 : ∀ (n : Nat) (v1 : Int32) (M : Mem), Fr id [(47, 15), (47, 16), (47, 17), (47, 18), (47, 19), (56, 0), (67, 0), (68, 0), (69, 0)] M (f_X11_goesCup_L136 n v1 M) := by
  intro n
  induction n with
  | zero => intro _ _; exact fr_none
  | succ n ih =>
    intro v1 M
    rw [f_X11_goesCup_L136]
    refine fr_ite ?_ ?_
    · exact fr_some rfl
    · refine fr_ite ?_ ?_
      · refine fr_ltv (fun x1 => ?_)
        exact fr_X11_goesCup_L166 ih FU _ _ _ _ _
      · exact fr_some rfl
theorem fr_X11_goesCup_L44 : ∀ (n : Nat) (v1 : Int32) (M : Mem), Fr id [(47, 15), (47, 16), (47, 17), (47, 18), (47, 19), (56, 0), (67, 0), (68, 0), (69, 0)] M (f_X11_goesCup_L44 n v1 M) := by
  intro n
  induction n with
  | zero => intro _ _; exact fr_none
  | succ n ih =>
    intro v1 M
    rw [f_X11_goesCup_L44]
    refine fr_ite ?_ ?_
    · exact fr_X11_goesCup_L136 FU _ _
    · refine fr_ltv (fun x1 => ?_)
      refine fr_ck ?_
      refine fr_ck ?_
      refine fr_ck ?_
      refine fr_ck ?_
      refine fr_bI (fr_mono (fr_X11_chanceOf FD (M.1 66 v1.toNatClampNeg) (M.1 66 x1.toNatClampNeg) (1 : Int32) M) (by decide)) (fun x2 M3 => ?_)
      refine fr_ck ?_
      refine fr_ck ?_
      refine fr_ck ?_
      refine fr_bI (fr_mono (fr_X11_chanceOf FD (M3.1 66 v1.toNatClampNeg) (M3.1 66 (x1 + (1 : Int32)).toNatClampNeg) (1 : Int32) M3) (by decide)) (fun x4 M5 => ?_)
      refine fr_ck (fr_ltw (fr_wLa (by decide)) (fun M6 => ?_))
      exact ih _ _
theorem fr_X11_goesCup_L2 : ∀ (n : Nat) (v1 : Int32) (M : Mem), Fr id [(47, 15), (47, 16), (47, 17), (47, 18), (47, 19), (56, 0), (67, 0), (68, 0), (69, 0)] M (f_X11_goesCup_L2 n v1 M) := by
  intro n
  induction n with
  | zero => intro _ _; exact fr_none
  | succ n ih =>
    intro v1 M
    rw [f_X11_goesCup_L2]
    refine fr_ite ?_ ?_
    · exact fr_X11_goesCup_L44 FU _ _
    · refine fr_ck ?_
      refine fr_ck ?_
      refine fr_bI (fr_mono (fr_X11_chanceOf FD (M.1 66 v1.toNatClampNeg) (M.1 66 (v1 ^^^ (1 : Int32)).toNatClampNeg) (0 : Int32) M) (by decide)) (fun x1 M2 => ?_)
      refine fr_ck (fr_ltw (fr_wLa (by decide)) (fun M3 => ?_))
      exact ih _ _
theorem fr_X11_goesCup (M : Mem) : Fr id [(47, 15), (47, 16), (47, 17), (47, 18), (47, 19), (56, 0), (67, 0), (68, 0), (69, 0)] M (f_X11_goesCup M) := by
  unfold f_X11_goesCup
  exact fr_X11_goesCup_L2 FU _ _
theorem fr_X11_likely_b91 (v2 : Int32) (v3 : Int32) (v4 : Int32) (s0 : Int32) (M : Mem) : Fr Prod.snd [(47, 15), (47, 16), (47, 17), (47, 18), (47, 19), (56, 0), (66, 0), (67, 0), (68, 0), (69, 0)] M (f_X11_likely_b91 v2 v3 v4 s0 M) := by
  unfold f_X11_likely_b91
  refine fr_ite ?_ ?_
  · refine fr_ite ?_ ?_
    · refine fr_ck ?_
      refine fr_bR (fun x5 => ?_)
      exact fr_some rfl
    · refine fr_ck ?_
      refine fr_bR (fun x7 => ?_)
      exact fr_some rfl
  · refine fr_ite ?_ ?_
    · refine fr_ck ?_
      refine fr_bR (fun x1 => ?_)
      exact fr_some rfl
    · refine fr_ck ?_
      refine fr_bR (fun x3 => ?_)
      exact fr_some rfl
theorem fr_X11_likely_b41 (M : Mem) : Fr Prod.snd [(47, 15), (47, 16), (47, 17), (47, 18), (47, 19), (56, 0), (66, 0), (67, 0), (68, 0), (69, 0)] M (f_X11_likely_b41 M) := by
  unfold f_X11_likely_b41
  exact fr_some rfl
theorem fr_X11_likely (v1 : Int32) (v2 : Int32) (v3 : Int32) (M : Mem) : Fr Prod.snd [(47, 15), (47, 16), (47, 17), (47, 18), (47, 19), (56, 0), (66, 0), (67, 0), (68, 0), (69, 0)] M (f_X11_likely v1 v2 v3 M) := by
  unfold f_X11_likely
  refine fr_bR (fun x1 => ?_)
  refine fr_ite ?_ ?_
  · exact fr_X11_likely_b41 _
  · refine fr_bR (fun x3 => ?_)
    refine fr_ite ?_ ?_
    · exact fr_X11_likely_b41 _
    · refine fr_bR (fun x5 => ?_)
      refine fr_ite ?_ ?_
      · exact fr_X11_likely_b41 _
      · refine fr_bR (fun x7 => ?_)
        refine fr_ite ?_ ?_
        · exact fr_X11_likely_b41 _
        · refine fr_bV (fr_mono (fr_X11_linesUp M) (by decide)) (fun M10 => ?_)
          refine fr_bV (fr_mono (fr_X11_goesCup M10) (by decide)) (fun M12 => ?_)
          refine fr_ite ?_ ?_
          · refine fr_ck ?_
            refine fr_bR (fun x13 => ?_)
            exact fr_some rfl
          · refine fr_ite ?_ ?_
            · exact fr_X11_likely_b91 _ _ _ _ _
            · exact fr_X11_likely_b91 _ _ _ _ _
theorem fr_X3_bestPairing_b105 {k15 : Int32 → Int64 → Int32 → Int32 → Mem → Option (Int32 × Mem)} (hk15 : ∀ (v3 : Int32) (v4 : Int64) (v6 : Int32) (v7 : Int32) (M : Mem), Fr Prod.snd [(22, 10), (26, 0), (27, 0), (30, 0), (32, 0), (33, 0)] M (k15 v3 v4 v6 v7 M)) (v3 : Int32) (v4 : Int64) (v6 : Int32) (v7 : Int32) (M : Mem) : Fr Prod.snd [(22, 10), (26, 0), (27, 0), (30, 0), (32, 0), (33, 0)] M (f_X3_bestPairing_b105 k15 v3 v4 v6 v7 M) := by
  unfold f_X3_bestPairing_b105
  exact hk15 _ _ _ _ _
theorem fr_X3_bestPairing_L15 : ∀ (n : Nat) (v3 : Int32) (v4 : Int64) (v6 : Int32) (v7 : Int32) (M : Mem), Fr Prod.snd [(22, 10), (26, 0), (27, 0), (30, 0), (32, 0), (33, 0)] M (f_X3_bestPairing_L15 n v3 v4 v6 v7 M) := by
  intro n
  induction n with
  | zero => intro _ _ _ _ _; exact fr_none
  | succ n ih =>
    intro v3 v4 v6 v7 M
    rw [f_X3_bestPairing_L15]
    refine fr_ite ?_ ?_
    · exact fr_some rfl
    · refine fr_bV (fr_mono (fr_X3_sitDown M) (by decide)) (fun M2 => ?_)
      refine fr_ck ?_
      refine fr_ck (fr_ltw (fr_wIa (by decide)) (fun M3 => ?_))
      refine fr_ck ?_
      refine fr_ck (fr_ltw (fr_wIa (by decide)) (fun M4 => ?_))
      refine fr_bV (fr_mono (fr_X3_weigh M4) (by decide)) (fun M6 => ?_)
      refine fr_bR (fun x7 => ?_)
      refine fr_bR (fun x9 => ?_)
      refine fr_ck ?_
      refine fr_ltv (fun x11 => ?_)
      refine fr_ite ?_ ?_
      · exact fr_X3_bestPairing_b105 ih _ _ _ _ _
      · exact fr_X3_bestPairing_b105 ih _ _ _ _ _
theorem fr_X3_bestPairing (v3 : Int32) (M : Mem) : Fr Prod.snd [(22, 10), (26, 0), (27, 0), (30, 0), (32, 0), (33, 0)] M (f_X3_bestPairing v3 M) := by
  unfold f_X3_bestPairing
  refine fr_bV (fr_mono (fr_X3_forgetOdds M) (by decide)) (fun M2 => ?_)
  exact fr_X3_bestPairing_L15 FU _ _ _ _ _
theorem fr_X10_friend (v1 : Int32) (M : Mem) : Fr Prod.snd [(22, 10), (26, 0), (27, 0), (30, 0), (32, 0), (33, 0)] M (f_X10_friend v1 M) := by
  unfold f_X10_friend
  refine fr_bR (fun x1 => ?_)
  refine fr_ite ?_ ?_
  · exact fr_some rfl
  · refine fr_ite ?_ ?_
    · refine fr_bI (fr_mono (fr_X3_bestPairing v1 M) (by decide)) (fun x3 M4 => ?_)
      exact fr_some rfl
    · exact fr_some rfl
theorem fr_X11_friend_b153 {k113 : Int32 → Int32 → Int64 → Int32 → Int32 → Mem → Option (Int32 × Mem)} (hk113 : ∀ (v1 : Int32) (v2 : Int32) (v3 : Int64) (v5 : Int32) (v6 : Int32) (M : Mem), Fr Prod.snd [(47, 15), (47, 16), (47, 17), (47, 18), (47, 19), (56, 0), (66, 0), (67, 0), (68, 0), (69, 0)] M (k113 v1 v2 v3 v5 v6 M)) (v1 : Int32) (v2 : Int32) (v3 : Int64) (v5 : Int32) (v6 : Int32) (M : Mem) : Fr Prod.snd [(47, 15), (47, 16), (47, 17), (47, 18), (47, 19), (56, 0), (66, 0), (67, 0), (68, 0), (69, 0)] M (f_X11_friend_b153 k113 v1 v2 v3 v5 v6 M) := by
  unfold f_X11_friend_b153
  exact hk113 _ _ _ _ _ _
theorem fr_X11_friend_L113 {k30 : Int32 → Int32 → Int64 → Int32 → Mem → Option (Int32 × Mem)} (hk30 : ∀ (v1 : Int32) (v2 : Int32) (v3 : Int64) (v5 : Int32) (M : Mem), Fr Prod.snd [(47, 15), (47, 16), (47, 17), (47, 18), (47, 19), (56, 0), (66, 0), (67, 0), (68, 0), (69, 0)] M (k30 v1 v2 v3 v5 M)) : ∀ (n : Nat) (v1 : Int32) (v2 : Int32) (v3 : Int64) (v5 : Int32) (v6 : Int32) (M : Mem), Fr Prod.snd [(47, 15), (47, 16), (47, 17), (47, 18), (47, 19), (56, 0), (66, 0), (67, 0), (68, 0), (69, 0)] M (f_X11_friend_L113 k30 n v1 v2 v3 v5 v6 M) := by
  intro n
  induction n with
  | zero => intro _ _ _ _ _ _; exact fr_none
  | succ n ih =>
    intro v1 v2 v3 v5 v6 M
    rw [f_X11_friend_L113]
    refine fr_ite ?_ ?_
    · exact hk30 _ _ _ _ _
    · refine fr_ck ?_
      refine fr_ite ?_ ?_
      · refine fr_ck ?_
        refine fr_ite ?_ ?_
        · exact fr_X11_friend_b153 ih _ _ _ _ _ _
        · refine fr_ck ?_
          refine fr_ltv (fun x1 => ?_)
          exact fr_X11_friend_b153 ih _ _ _ _ _ _
      · exact fr_X11_friend_b153 ih _ _ _ _ _ _
theorem fr_X11_friend_b104 {k30 : Int32 → Int32 → Int64 → Int32 → Mem → Option (Int32 × Mem)} (hk30 : ∀ (v1 : Int32) (v2 : Int32) (v3 : Int64) (v5 : Int32) (M : Mem), Fr Prod.snd [(47, 15), (47, 16), (47, 17), (47, 18), (47, 19), (56, 0), (66, 0), (67, 0), (68, 0), (69, 0)] M (k30 v1 v2 v3 v5 M)) (v1 : Int32) (v2 : Int32) (v3 : Int64) (v5 : Int32) (s0 : Int32) (s2 : Int32) (M : Mem) : Fr Prod.snd [(47, 15), (47, 16), (47, 17), (47, 18), (47, 19), (56, 0), (66, 0), (67, 0), (68, 0), (69, 0)] M (f_X11_friend_b104 k30 v1 v2 v3 v5 s0 s2 M) := by
  unfold f_X11_friend_b104
  refine fr_ck ?_
  refine fr_ck (fr_ltw (fr_wIa (by decide)) (fun M1 => ?_))
  refine fr_bV (fr_mono (fr_X11_goesCup M1) (by decide)) (fun M3 => ?_)
  exact fr_X11_friend_L113 hk30 FU _ _ _ _ _ _
theorem fr_X11_friend_b82 {k30 : Int32 → Int32 → Int64 → Int32 → Mem → Option (Int32 × Mem)} (hk30 : ∀ (v1 : Int32) (v2 : Int32) (v3 : Int64) (v5 : Int32) (M : Mem), Fr Prod.snd [(47, 15), (47, 16), (47, 17), (47, 18), (47, 19), (56, 0), (66, 0), (67, 0), (68, 0), (69, 0)] M (k30 v1 v2 v3 v5 M)) (v1 : Int32) (v2 : Int32) (v3 : Int64) (v5 : Int32) (s0 : Int32) (s2 : Int32) (M : Mem) : Fr Prod.snd [(47, 15), (47, 16), (47, 17), (47, 18), (47, 19), (56, 0), (66, 0), (67, 0), (68, 0), (69, 0)] M (f_X11_friend_b82 k30 v1 v2 v3 v5 s0 s2 M) := by
  unfold f_X11_friend_b82
  refine fr_ck ?_
  refine fr_ck (fr_ltw (fr_wIa (by decide)) (fun M1 => ?_))
  refine fr_ite ?_ ?_
  · exact fr_X11_friend_b104 hk30 _ _ _ _ _ _ _
  · exact fr_X11_friend_b104 hk30 _ _ _ _ _ _ _
theorem fr_X11_friend_L30 : ∀ (n : Nat) (v1 : Int32) (v2 : Int32) (v3 : Int64) (v5 : Int32) (M : Mem), Fr Prod.snd [(47, 15), (47, 16), (47, 17), (47, 18), (47, 19), (56, 0), (66, 0), (67, 0), (68, 0), (69, 0)] M (f_X11_friend_L30 n v1 v2 v3 v5 M) := by
  intro n
  induction n with
  | zero => intro _ _ _ _ _; exact fr_none
  | succ n ih =>
    intro v1 v2 v3 v5 M
    rw [f_X11_friend_L30]
    refine fr_ite ?_ ?_
    · exact fr_some rfl
    · refine fr_ck ?_
      refine fr_ck (fr_ltw (fr_wIa (by decide)) (fun M1 => ?_))
      refine fr_ck ?_
      refine fr_ck (fr_ltw (fr_wIa (by decide)) (fun M2 => ?_))
      refine fr_ite ?_ ?_
      · exact fr_X11_friend_b82 ih _ _ _ _ _ _ _
      · exact fr_X11_friend_b82 ih _ _ _ _ _ _ _
theorem fr_X11_friend (v1 : Int32) (M : Mem) : Fr Prod.snd [(47, 15), (47, 16), (47, 17), (47, 18), (47, 19), (56, 0), (66, 0), (67, 0), (68, 0), (69, 0)] M (f_X11_friend v1 M) := by
  unfold f_X11_friend
  refine fr_bR (fun x1 => ?_)
  refine fr_ite ?_ ?_
  · refine fr_ite ?_ ?_
    · exact fr_X11_friend_L30 FU _ _ _ _ _
    · exact fr_some rfl
  · exact fr_some rfl
theorem fr_X3_playByLot_b145 {k22 : Int32 → Int32 → Int32 → Mem → Option (Int32 × Mem)} (hk22 : ∀ (v4 : Int32) (v5 : Int32) (v6 : Int32) (M : Mem), Fr Prod.snd [(22, 10), (26, 0), (27, 0), (30, 0), (32, 0)] M (k22 v4 v5 v6 M)) (v4 : Int32) (v5 : Int32) (v6 : Int32) (s0 : Int32) (s1 : Int32) (M : Mem) : Fr Prod.snd [(22, 10), (26, 0), (27, 0), (30, 0), (32, 0)] M (f_X3_playByLot_b145 k22 v4 v5 v6 s0 s1 M) := by
  unfold f_X3_playByLot_b145
  refine fr_ck (fr_ltw (fr_wIa (by decide)) (fun M1 => ?_))
  exact hk22 _ _ _ _
theorem fr_X3_playByLot_b125 {k22 : Int32 → Int32 → Int32 → Mem → Option (Int32 × Mem)} (hk22 : ∀ (v4 : Int32) (v5 : Int32) (v6 : Int32) (M : Mem), Fr Prod.snd [(22, 10), (26, 0), (27, 0), (30, 0), (32, 0)] M (k22 v4 v5 v6 M)) (v4 : Int32) (v5 : Int32) (v6 : Int32) (v7 : Int32) (v8 : Int32) (s0 : Int32) (M : Mem) : Fr Prod.snd [(22, 10), (26, 0), (27, 0), (30, 0), (32, 0)] M (f_X3_playByLot_b125 k22 v4 v5 v6 v7 v8 s0 M) := by
  unfold f_X3_playByLot_b125
  refine fr_ite ?_ ?_
  · exact fr_X3_playByLot_b145 hk22 _ _ _ _ _ _
  · exact fr_X3_playByLot_b145 hk22 _ _ _ _ _ _
theorem fr_X3_playByLot_L22 {k10 : Int32 → Int32 → Mem → Option (Int32 × Mem)} (hk10 : ∀ (v4 : Int32) (v5 : Int32) (M : Mem), Fr Prod.snd [(22, 10), (26, 0), (27, 0), (30, 0), (32, 0)] M (k10 v4 v5 M)) : ∀ (n : Nat) (v4 : Int32) (v5 : Int32) (v6 : Int32) (M : Mem), Fr Prod.snd [(22, 10), (26, 0), (27, 0), (30, 0), (32, 0)] M (f_X3_playByLot_L22 k10 n v4 v5 v6 M) := by
  intro n
  induction n with
  | zero => intro _ _ _ _; exact fr_none
  | succ n ih =>
    intro v4 v5 v6 M
    rw [f_X3_playByLot_L22]
    refine fr_ite ?_ ?_
    · exact hk10 _ _ _
    · refine fr_ck ?_
      refine fr_ck ?_
      refine fr_ltv (fun x1 => ?_)
      refine fr_ck ?_
      refine fr_ck ?_
      refine fr_ltv (fun x2 => ?_)
      refine fr_ltv (fun x3 => ?_)
      refine fr_bI (fr_mono (fr_X3_oddsOf x1 x2 v5 M) (by decide)) (fun x4 M5 => ?_)
      refine fr_ite ?_ ?_
      · exact fr_X3_playByLot_b125 ih _ _ _ _ _ _ _
      · exact fr_X3_playByLot_b125 ih _ _ _ _ _ _ _
theorem fr_X3_playByLot_L10 : ∀ (n : Nat) (v4 : Int32) (v5 : Int32) (M : Mem), Fr Prod.snd [(22, 10), (26, 0), (27, 0), (30, 0), (32, 0)] M (f_X3_playByLot_L10 n v4 v5 M) := by
  intro n
  induction n with
  | zero => intro _ _ _; exact fr_none
  | succ n ih =>
    intro v4 v5 M
    rw [f_X3_playByLot_L10]
    refine fr_bR (fun x1 => ?_)
    refine fr_ite ?_ ?_
    · exact fr_some rfl
    · exact fr_X3_playByLot_L22 ih FU _ _ _ _
theorem fr_X3_playByLot (v3 : Int32) (M : Mem) : Fr Prod.snd [(22, 10), (26, 0), (27, 0), (30, 0), (32, 0)] M (f_X3_playByLot v3 M) := by
  unfold f_X3_playByLot
  refine fr_bV (fr_mono (fr_X3_sitDown M) (by decide)) (fun M2 => ?_)
  exact fr_X3_playByLot_L10 FU _ _ _
theorem fr_X3_wonByLot_b44 {k13 : Int32 → Int32 → Int32 → Int32 → Int32 → Mem → Option (Int32 × Mem)} (hk13 : ∀ (v4 : Int32) (v5 : Int32) (v6 : Int32) (v7 : Int32) (v8 : Int32) (M : Mem), Fr Prod.snd [(22, 10), (26, 0), (27, 0), (30, 0), (32, 0)] M (k13 v4 v5 v6 v7 v8 M)) (v4 : Int32) (v5 : Int32) (v6 : Int32) (v7 : Int32) (v8 : Int32) (M : Mem) : Fr Prod.snd [(22, 10), (26, 0), (27, 0), (30, 0), (32, 0)] M (f_X3_wonByLot_b44 k13 v4 v5 v6 v7 v8 M) := by
  unfold f_X3_wonByLot_b44
  exact hk13 _ _ _ _ _ _
theorem fr_X3_wonByLot_L13 : ∀ (n : Nat) (v4 : Int32) (v5 : Int32) (v6 : Int32) (v7 : Int32) (v8 : Int32) (M : Mem), Fr Prod.snd [(22, 10), (26, 0), (27, 0), (30, 0), (32, 0)] M (f_X3_wonByLot_L13 n v4 v5 v6 v7 v8 M) := by
  intro n
  induction n with
  | zero => intro _ _ _ _ _ _; exact fr_none
  | succ n ih =>
    intro v4 v5 v6 v7 v8 M
    rw [f_X3_wonByLot_L13]
    refine fr_ite ?_ ?_
    · exact fr_some rfl
    · refine fr_bI (fr_mono (fr_X3_playByLot v6 M) (by decide)) (fun x1 M2 => ?_)
      refine fr_ck ?_
      refine fr_ite ?_ ?_
      · exact fr_X3_wonByLot_b44 ih _ _ _ _ _ _
      · exact fr_X3_wonByLot_b44 ih _ _ _ _ _ _
theorem fr_X3_wonByLot (v3 : Int32) (v4 : Int32) (v5 : Int32) (M : Mem) : Fr Prod.snd [(22, 10), (26, 0), (27, 0), (30, 0), (32, 0)] M (f_X3_wonByLot v3 v4 v5 M) := by
  unfold f_X3_wonByLot
  refine fr_bV (fr_mono (fr_X3_forgetOdds M) (by decide)) (fun M2 => ?_)
  exact fr_X3_wonByLot_L13 FU _ _ _ _ _ _
theorem fr_X10_lots (v1 : Int32) (v2 : Int32) (v3 : Int32) (M : Mem) : Fr Prod.snd [(22, 10), (26, 0), (27, 0), (30, 0), (32, 0)] M (f_X10_lots v1 v2 v3 M) := by
  unfold f_X10_lots
  refine fr_bR (fun x1 => ?_)
  refine fr_ite ?_ ?_
  · exact fr_some rfl
  · refine fr_ite ?_ ?_
    · exact fr_some rfl
    · refine fr_ite ?_ ?_
      · refine fr_bR (fun x3 => ?_)
        refine fr_ite ?_ ?_
        · exact fr_some rfl
        · refine fr_bI (fr_mono (fr_X3_wonByLot v1 v2 v3 M) (by decide)) (fun x5 M6 => ?_)
          exact fr_some rfl
      · exact fr_some rfl
theorem fr_X11_lots_b234 {k41 : Int32 → Int32 → Int32 → Int32 → Int32 → Mem → Option (Int32 × Mem)} (hk41 : ∀ (v2 : Int32) (v3 : Int32) (v4 : Int32) (v5 : Int32) (v6 : Int32) (M : Mem), Fr Prod.snd [(47, 15), (47, 16), (47, 17), (47, 18), (47, 19), (56, 0), (66, 0)] M (k41 v2 v3 v4 v5 v6 M)) (v2 : Int32) (v3 : Int32) (v4 : Int32) (v6 : Int32) (s0 : Int32) (s1 : Int32) (M : Mem) : Fr Prod.snd [(47, 15), (47, 16), (47, 17), (47, 18), (47, 19), (56, 0), (66, 0)] M (f_X11_lots_b234 k41 v2 v3 v4 v6 s0 s1 M) := by
  unfold f_X11_lots_b234
  refine fr_ltv (fun x1 => ?_)
  exact hk41 _ _ _ _ _ _
