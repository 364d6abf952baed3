theorem fr_X4_addPlayer (v1 : Int32) (M : Mem) : Fr Prod.snd [(1, 1), (2, 0)] M (f_X4_addPlayer v1 M) := by
  unfold f_X4_addPlayer
  refine fr_ite ?_ ?_
  · refine fr_ck (fr_ltw (fr_wIa (by decide)) (fun M1 => ?_))
    refine fr_ltw (fr_wIf (by decide)) (fun M2 => ?_)
    exact fr_some rfl
  · exact fr_some rfl
theorem fr_X10_player (v1 : Int32) (M : Mem) : Fr Prod.snd [(1, 1), (2, 0)] M (f_X10_player v1 M) := by
  unfold f_X10_player
  refine fr_bR (fun x1 => ?_)
  refine fr_ite ?_ ?_
  · exact fr_some rfl
  · refine fr_bI (fr_mono (fr_X4_addPlayer v1 M) (by decide)) (fun x3 M4 => ?_)
    exact fr_some rfl
theorem fr_X11_player (v1 : Int32) (M : Mem) : Fr Prod.snd [(47, 7), (48, 0)] M (f_X11_player v1 M) := by
  unfold f_X11_player
  refine fr_bR (fun x1 => ?_)
  refine fr_ite ?_ ?_
  · exact fr_some rfl
  · refine fr_ite ?_ ?_
    · exact fr_some rfl
    · refine fr_ck (fr_ltw (fr_wIa (by decide)) (fun M3 => ?_))
      refine fr_ltw (fr_wIf (by decide)) (fun M4 => ?_)
      exact fr_some rfl
theorem fr_X4_addMatch (v1 : Int32) (v2 : Int32) (M : Mem) : Fr Prod.snd [(1, 2), (3, 0), (4, 0), (5, 0)] M (f_X4_addMatch v1 v2 M) := by
  unfold f_X4_addMatch
  refine fr_ite ?_ ?_
  · refine fr_ck (fr_ltw (fr_wIa (by decide)) (fun M1 => ?_))
    refine fr_ck (fr_ltw (fr_wIa (by decide)) (fun M2 => ?_))
    refine fr_ck (fr_ltw (fr_wIa (by decide)) (fun M3 => ?_))
    refine fr_ltw (fr_wIf (by decide)) (fun M4 => ?_)
    exact fr_some rfl
  · exact fr_some rfl
theorem fr_X10_match (v1 : Int32) (M : Mem) : Fr Prod.snd [(1, 2), (3, 0), (4, 0), (5, 0)] M (f_X10_match v1 M) := by
  unfold f_X10_match
  refine fr_bR (fun x1 => ?_)
  refine fr_ite ?_ ?_
  · exact fr_some rfl
  · refine fr_bI (fr_mono (fr_X4_addMatch (v1 / (10 : Int32)) (ab_rem v1 (10 : Int32)) M) (by decide)) (fun x3 M4 => ?_)
    exact fr_some rfl
theorem fr_X11_adds (v1 : Int32) (v2 : Int32) (M : Mem) : Fr id [(47, 8), (48, 0), (52, 0), (53, 0)] M (f_X11_adds v1 v2 M) := by
  unfold f_X11_adds
  refine fr_ck (fr_ltw (fr_wIa (by decide)) (fun M1 => ?_))
  refine fr_ck (fr_ltw (fr_wIa (by decide)) (fun M2 => ?_))
  refine fr_ck (fr_ltw (fr_wIa (by decide)) (fun M3 => ?_))
  refine fr_ltw (fr_wIf (by decide)) (fun M4 => ?_)
  exact fr_some rfl
theorem fr_X11_match (v1 : Int32) (M : Mem) : Fr Prod.snd [(47, 8), (48, 0), (52, 0), (53, 0)] M (f_X11_match v1 M) := by
  unfold f_X11_match
  refine fr_ite ?_ ?_
  · exact fr_some rfl
  · refine fr_bR (fun x1 => ?_)
    refine fr_ite ?_ ?_
    · exact fr_some rfl
    · refine fr_ite ?_ ?_
      · exact fr_some rfl
      · refine fr_bV (fr_mono (fr_X11_adds (v1 / (10 : Int32)) (ab_rem v1 (10 : Int32)) M) (by decide)) (fun M4 => ?_)
        exact fr_some rfl
theorem fr_X10_comesFromRow (v1 : Int32) (v2 : Int64) (M : Mem) : Fr Prod.snd [(1, 2), (3, 0), (4, 0), (5, 0)] M (f_X10_comesFromRow v1 v2 M) := by
  unfold f_X10_comesFromRow
  refine fr_ite ?_ ?_
  · exact fr_some rfl
  · refine fr_bR (fun x1 => ?_)
    refine fr_ite ?_ ?_
    · refine fr_bR (fun x3 => ?_)
      refine fr_bR (fun x5 => ?_)
      refine fr_bR (fun x7 => ?_)
      refine fr_ite ?_ ?_
      · exact fr_some rfl
      · refine fr_bI (fr_mono (fr_X4_addMatch x3.toInt32 x5.toInt32 M) (by decide)) (fun x9 M10 => ?_)
        refine fr_ite ?_ ?_
        · exact fr_some rfl
        · exact fr_some rfl
    · exact fr_some rfl
theorem fr_X10_matches_L48 : ∀ (n : Nat) (v1 : Int32) (v2 : Int32) (v3 : Int32) (v4 : Int32) (M : Mem), Fr Prod.snd [(1, 2), (3, 0), (4, 0), (5, 0)] M (f_X10_matches_L48 n v1 v2 v3 v4 M) := by
  intro n
  induction n with
  | zero => intro _ _ _ _ _; exact fr_none
  | succ n ih =>
    intro v1 v2 v3 v4 M
    rw [f_X10_matches_L48]
    refine fr_ite ?_ ?_
    · exact fr_some rfl
    · refine fr_bI (fr_mono (fr_X10_comesFromRow v1 (v2.toInt64 + ((2 : Int64) * v4.toInt64)) M) (by decide)) (fun x1 M2 => ?_)
      refine fr_ite ?_ ?_
      · exact fr_some rfl
      · exact ih _ _ _ _ _
theorem fr_X10_matches_b45 (v1 : Int32) (v2 : Int32) (v3 : Int32) (M : Mem) : Fr Prod.snd [(1, 2), (3, 0), (4, 0), (5, 0)] M (f_X10_matches_b45 v1 v2 v3 M) := by
  unfold f_X10_matches_b45
  exact fr_X10_matches_L48 FU _ _ _ _ _
theorem fr_X10_matches (v1 : Int32) (v2 : Int32) (v3 : Int32) (M : Mem) : Fr Prod.snd [(1, 2), (3, 0), (4, 0), (5, 0)] M (f_X10_matches v1 v2 v3 M) := by
  unfold f_X10_matches
  refine fr_bR (fun x1 => ?_)
  refine fr_ite ?_ ?_
  · exact fr_some rfl
  · refine fr_ite ?_ ?_
    · exact fr_some rfl
    · refine fr_ite ?_ ?_
      · refine fr_bR (fun x3 => ?_)
        refine fr_ite ?_ ?_
        · refine fr_bR (fun x5 => ?_)
          refine fr_ite ?_ ?_
          · exact fr_some rfl
          · exact fr_X10_matches_b45 _ _ _ _
        · exact fr_X10_matches_b45 _ _ _ _
      · exact fr_some rfl
theorem fr_X11_matches_b191 {k69 : Int32 → Int32 → Int32 → Int32 → Int32 → Mem → Option (Int32 × Mem)} (hk69 : ∀ (v1 : Int32) (v2 : Int32) (v3 : Int32) (v4 : Int32) (v5 : Int32) (M : Mem), Fr Prod.snd [(47, 8), (48, 0), (52, 0), (53, 0)] M (k69 v1 v2 v3 v4 v5 M)) (v1 : Int32) (v2 : Int32) (v3 : Int32) (v4 : Int32) (v5 : Int32) (M : Mem) : Fr Prod.snd [(47, 8), (48, 0), (52, 0), (53, 0)] M (f_X11_matches_b191 k69 v1 v2 v3 v4 v5 M) := by
  unfold f_X11_matches_b191
  exact hk69 _ _ _ _ _ _
theorem fr_X11_matches_b159 {k69 : Int32 → Int32 → Int32 → Int32 → Int32 → Mem → Option (Int32 × Mem)} (hk69 : ∀ (v1 : Int32) (v2 : Int32) (v3 : Int32) (v4 : Int32) (v5 : Int32) (M : Mem), Fr Prod.snd [(47, 8), (48, 0), (52, 0), (53, 0)] M (k69 v1 v2 v3 v4 v5 M)) (v1 : Int32) (v2 : Int32) (v3 : Int32) (v4 : Int32) (v6 : Int32) (s0 : Int32) (M : Mem) : Fr Prod.snd [(47, 8), (48, 0), (52, 0), (53, 0)] M (f_X11_matches_b159 k69 v1 v2 v3 v4 v6 s0 M) := by
  unfold f_X11_matches_b159
  refine fr_ite ?_ ?_
  · exact fr_X11_matches_b191 hk69 _ _ _ _ _ _
  · refine fr_ck ?_
    refine fr_ck ?_
    refine fr_bV (fr_mono (fr_X11_adds ((M.2.1 75 v6.toNatClampNeg).toInt32) ((M.2.1 75 (v6 + (1 : Int32)).toNatClampNeg).toInt32) M) (by decide)) (fun M2 => ?_)
    exact fr_X11_matches_b191 hk69 _ _ _ _ _ _
theorem fr_X11_matches_b158 {k69 : Int32 → Int32 → Int32 → Int32 → Int32 → Mem → Option (Int32 × Mem)} (hk69 : ∀ (v1 : Int32) (v2 : Int32) (v3 : Int32) (v4 : Int32) (v5 : Int32) (M : Mem), Fr Prod.snd [(47, 8), (48, 0), (52, 0), (53, 0)] M (k69 v1 v2 v3 v4 v5 M)) (v1 : Int32) (v2 : Int32) (v3 : Int32) (v4 : Int32) (v6 : Int32) (M : Mem) : Fr Prod.snd [(47, 8), (48, 0), (52, 0), (53, 0)] M (f_X11_matches_b158 k69 v1 v2 v3 v4 v6 M) := by
  unfold f_X11_matches_b158
  exact fr_X11_matches_b159 hk69 _ _ _ _ _ _ _
theorem fr_X11_matches_b111 {k69 : Int32 → Int32 → Int32 → Int32 → Int32 → Mem → Option (Int32 × Mem)} (hk69 : ∀ (v1 : Int32) (v2 : Int32) (v3 : Int32) (v4 : Int32) (v5 : Int32) (M : Mem), Fr Prod.snd [(47, 8), (48, 0), (52, 0), (53, 0)] M (k69 v1 v2 v3 v4 v5 M)) (v1 : Int32) (v2 : Int32) (v3 : Int32) (v4 : Int32) (s0 : Int32) (M : Mem) : Fr Prod.snd [(47, 8), (48, 0), (52, 0), (53, 0)] M (f_X11_matches_b111 k69 v1 v2 v3 v4 s0 M) := by
  unfold f_X11_matches_b111
  refine fr_ltv (fun x1 => ?_)
  refine fr_ite ?_ ?_
  · exact fr_X11_matches_b158 hk69 _ _ _ _ _ _
  · refine fr_ck ?_
    refine fr_ck ?_
    refine fr_bR (fun x2 => ?_)
    refine fr_ite ?_ ?_
    · exact fr_X11_matches_b158 hk69 _ _ _ _ _ _
    · exact fr_X11_matches_b159 hk69 _ _ _ _ _ _ _
theorem fr_X11_matches_b110 {k69 : Int32 → Int32 → Int32 → Int32 → Int32 → Mem → Option (Int32 × Mem)} (hk69 : ∀ (v1 : Int32) (v2 : Int32) (v3 : Int32) (v4 : Int32) (v5 : Int32) (M : Mem), Fr Prod.snd [(47, 8), (48, 0), (52, 0), (53, 0)] M (k69 v1 v2 v3 v4 v5 M)) (v1 : Int32) (v2 : Int32) (v3 : Int32) (v4 : Int32) (M : Mem) : Fr Prod.snd [(47, 8), (48, 0), (52, 0), (53, 0)] M (f_X11_matches_b110 k69 v1 v2 v3 v4 M) := by
  unfold f_X11_matches_b110
  exact fr_X11_matches_b111 hk69 _ _ _ _ _ _
theorem fr_X11_matches_L69 : ∀ (n : Nat) (v1 : Int32) (v2 : Int32) (v3 : Int32) (v4 : Int32) (v5 : Int32) (M : Mem), Fr Prod.snd [(47, 8), (48, 0), (52, 0), (53, 0)] M (f_X11_matches_L69 n v1 v2 v3 v4 v5 M) := by
  intro n
  induction n with
  | zero => intro _ _ _ _ _ _; exact fr_none
  | succ n ih =>
    intro v1 v2 v3 v4 v5 M
    rw [f_X11_matches_L69]
    refine fr_ite ?_ ?_
    · exact fr_some rfl
    · refine fr_ite ?_ ?_
      · exact fr_some rfl
      · refine fr_ck ?_
        refine fr_ite ?_ ?_
        · exact fr_X11_matches_b110 ih _ _ _ _ _
        · refine fr_ite ?_ ?_
          · exact fr_X11_matches_b110 ih _ _ _ _ _
          · exact fr_X11_matches_b111 ih _ _ _ _ _ _
theorem fr_X11_matches_b67 (v1 : Int32) (v2 : Int32) (v3 : Int32) (v4 : Int32) (s0 : Int32) (M : Mem) : Fr Prod.snd [(47, 8), (48, 0), (52, 0), (53, 0)] M (f_X11_matches_b67 v1 v2 v3 v4 s0 M) := by
  unfold f_X11_matches_b67
  exact fr_X11_matches_L69 FU _ _ _ _ _ _
theorem fr_X11_matches_b66 (v1 : Int32) (v2 : Int32) (v3 : Int32) (v4 : Int32) (M : Mem) : Fr Prod.snd [(47, 8), (48, 0), (52, 0), (53, 0)] M (f_X11_matches_b66 v1 v2 v3 v4 M) := by
  unfold f_X11_matches_b66
  exact fr_X11_matches_b67 _ _ _ _ _ _
theorem fr_X11_matches_b44 (v1 : Int32) (v2 : Int32) (v3 : Int32) (M : Mem) : Fr Prod.snd [(47, 8), (48, 0), (52, 0), (53, 0)] M (f_X11_matches_b44 v1 v2 v3 M) := by
  unfold f_X11_matches_b44
  refine fr_ck ?_
  refine fr_ite ?_ ?_
  · refine fr_ite ?_ ?_
    · exact fr_X11_matches_b66 _ _ _ _ _
    · exact fr_X11_matches_b67 _ _ _ _ _ _
  · exact fr_X11_matches_b66 _ _ _ _ _
theorem fr_X11_matches (v1 : Int32) (v2 : Int32) (v3 : Int32) (M : Mem) : Fr Prod.snd [(47, 8), (48, 0), (52, 0), (53, 0)] M (f_X11_matches v1 v2 v3 M) := by
  unfold f_X11_matches
  refine fr_bR (fun x1 => ?_)
  refine fr_ite ?_ ?_
  · exact fr_some rfl
  · refine fr_bR (fun x3 => ?_)
    refine fr_ite ?_ ?_
    · exact fr_some rfl
    · refine fr_ck ?_
      refine fr_ite ?_ ?_
      · exact fr_X11_matches_b44 _ _ _ _
      · refine fr_ck ?_
        refine fr_ite ?_ ?_
        · exact fr_X11_matches_b44 _ _ _ _
        · exact fr_some rfl
theorem fr_X2_forgetOldest (M : Mem) : Fr id [(6, 1), (7, 0), (8, 0), (9, 0), (10, 0)] M (f_X2_forgetOldest M) := by
  unfold f_X2_forgetOldest
  refine fr_ck (fr_ltw (fr_cpI (by decide)) (fun M1 => ?_))
  refine fr_ck (fr_ltw (fr_cpI (by decide)) (fun M2 => ?_))
  refine fr_ck (fr_ltw (fr_cpI (by decide)) (fun M3 => ?_))
  refine fr_ck (fr_ltw (fr_cpI (by decide)) (fun M4 => ?_))
  refine fr_ltw (fr_wIf (by decide)) (fun M5 => ?_)
  exact fr_some rfl
theorem fr_X2_add_b13 (v1 : Int32) (v2 : Int32) (v3 : Int32) (v4 : Int32) (M : Mem) : Fr id [(6, 1), (6, 2), (7, 0), (8, 0), (9, 0), (10, 0)] M (f_X2_add_b13 v1 v2 v3 v4 M) := by
  unfold f_X2_add_b13
  refine fr_ck (fr_ltw (fr_wIa (by decide)) (fun M1 => ?_))
  refine fr_ck (fr_ltw (fr_wIa (by decide)) (fun M2 => ?_))
  refine fr_ck (fr_ltw (fr_wIa (by decide)) (fun M3 => ?_))
  refine fr_ck (fr_ltw (fr_wIa (by decide)) (fun M4 => ?_))
  refine fr_ltw (fr_wIf (by decide)) (fun M5 => ?_)
  refine fr_ltw (fr_wIf (by decide)) (fun M6 => ?_)
  exact fr_some rfl
theorem fr_X2_add (v1 : Int32) (v2 : Int32) (v3 : Int32) (v4 : Int32) (M : Mem) : Fr id [(6, 1), (6, 2), (7, 0), (8, 0), (9, 0), (10, 0)] M (f_X2_add v1 v2 v3 v4 M) := by
  unfold f_X2_add
  refine fr_ite ?_ ?_
  · exact fr_X2_add_b13 _ _ _ _ _
  · refine fr_bV (fr_mono (fr_X2_forgetOldest M) (by decide)) (fun M2 => ?_)
    exact fr_X2_add_b13 _ _ _ _ _
theorem fr_X4_become (v1 : Int32) (v2 : Int32) (v3 : Int32) (M : Mem) : Fr id [(2, 0), (5, 0)] M (f_X4_become v1 v2 v3 M) := by
  unfold f_X4_become
  refine fr_ite ?_ ?_
  · refine fr_ck (fr_ltw (fr_wIa (by decide)) (fun M2 => ?_))
    exact fr_some rfl
  · refine fr_ck (fr_ltw (fr_wIa (by decide)) (fun M1 => ?_))
    exact fr_some rfl
theorem fr_X10_mend (v1 : Int32) (v2 : Int32) (v3 : Int32) (M : Mem) : Fr Prod.snd [(2, 0), (5, 0), (6, 1), (6, 2), (7, 0), (8, 0), (9, 0), (10, 0)] M (f_X10_mend v1 v2 v3 M) := by
  unfold f_X10_mend
  refine fr_bR (fun x1 => ?_)
  refine fr_ite ?_ ?_
  · exact fr_some rfl
  · refine fr_bR (fun x3 => ?_)
    refine fr_ite ?_ ?_
    · exact fr_some rfl
    · refine fr_bV (fr_mono (fr_X2_add v2 v1 x3 v3 M) (by decide)) (fun M6 => ?_)
      refine fr_bV (fr_mono (fr_X4_become v2 v1 v3 M6) (by decide)) (fun M8 => ?_)
      exact fr_some rfl
theorem fr_X11_becomes_b97 (v1 : Int32) (v2 : Int32) (v3 : Int32) (M : Mem) : Fr Prod.snd [(47, 5), (47, 6), (48, 0), (49, 0), (50, 0), (51, 0)] M (f_X11_becomes_b97 v1 v2 v3 M) := by
  unfold f_X11_becomes_b97
  refine fr_ck (fr_ltw (fr_wIa (by decide)) (fun M1 => ?_))
  refine fr_ck (fr_ltw (fr_wIa (by decide)) (fun M2 => ?_))
  refine fr_ck (fr_ltw (fr_wIa (by decide)) (fun M3 => ?_))
  refine fr_ltw (fr_wIf (by decide)) (fun M4 => ?_)
  refine fr_ltw (fr_wIf (by decide)) (fun M5 => ?_)
  refine fr_ck (fr_ltw (fr_wIa (by decide)) (fun M6 => ?_))
  exact fr_some rfl
theorem fr_X11_becomes_L26 : ∀ (n : Nat) (v1 : Int32) (v2 : Int32) (v3 : Int32) (v4 : Int32) (M : Mem), Fr Prod.snd [(47, 5), (47, 6), (48, 0), (49, 0), (50, 0), (51, 0)] M (f_X11_becomes_L26 n v1 v2 v3 v4 M) := by
  intro n
  induction n with
  | zero => intro _ _ _ _ _; exact fr_none
  | succ n ih =>
    intro v1 v2 v3 v4 M
    rw [f_X11_becomes_L26]
    refine fr_ite ?_ ?_
    · refine fr_ltw (fr_wIf (by decide)) (fun M1 => ?_)
      exact fr_X11_becomes_b97 _ _ _ _
    · refine fr_ck ?_
      refine fr_ck (fr_ltw (fr_wIa (by decide)) (fun M2 => ?_))
      refine fr_ck ?_
      refine fr_ck (fr_ltw (fr_wIa (by decide)) (fun M3 => ?_))
      refine fr_ck ?_
      refine fr_ck (fr_ltw (fr_wIa (by decide)) (fun M4 => ?_))
      exact ih _ _ _ _ _
theorem fr_X11_becomes (v1 : Int32) (v2 : Int32) (M : Mem) : Fr Prod.snd [(47, 5), (47, 6), (48, 0), (49, 0), (50, 0), (51, 0)] M (f_X11_becomes v1 v2 M) := by
  unfold f_X11_becomes
  refine fr_ck ?_
  refine fr_ltv (fun x1 => ?_)
  refine fr_ite ?_ ?_
  · exact fr_some rfl
  · refine fr_ite ?_ ?_
    · exact fr_X11_becomes_L26 FU _ _ _ _ _
    · exact fr_X11_becomes_b97 _ _ _ _
theorem fr_X11_mend (v1 : Int32) (v2 : Int32) (v3 : Int32) (M : Mem) : Fr Prod.snd [(47, 5), (47, 6), (48, 0), (49, 0), (50, 0), (51, 0)] M (f_X11_mend v1 v2 v3 M) := by
  unfold f_X11_mend
  refine fr_ite ?_ ?_
  · refine fr_bR (fun x1 => ?_)
    refine fr_ite ?_ ?_
    · exact fr_some rfl
    · refine fr_bR (fun x3 => ?_)
      refine fr_ite ?_ ?_
      · exact fr_some rfl
      · refine fr_bI (fr_mono (fr_X11_becomes v1 v3 M) (by decide)) (fun x5 M6 => ?_)
        exact fr_some rfl
  refine fr_ite ?_ ?_
  · refine fr_bR (fun x7 => ?_)
    refine fr_ite ?_ ?_
    · exact fr_some rfl
    · refine fr_bR (fun x9 => ?_)
      refine fr_ite ?_ ?_
      · exact fr_some rfl
      · refine fr_bI (fr_mono (fr_X11_becomes ((8 : Int32) + v1) v3 M) (by decide)) (fun x11 M12 => ?_)
        exact fr_some rfl
  · exact fr_some rfl
theorem fr_X5_hear (v1 : Int32) (M : Mem) : Fr Prod.snd [(22, 1), (23, 0)] M (f_X5_hear v1 M) := by
  unfold f_X5_hear
  refine fr_ite ?_ ?_
  · refine fr_ck (fr_ltw (fr_wIa (by decide)) (fun M1 => ?_))
    refine fr_ltw (fr_wIf (by decide)) (fun M2 => ?_)
    exact fr_some rfl
  · exact fr_some rfl
theorem fr_X10_feed (v1 : Int32) (M : Mem) : Fr Prod.snd [(22, 1), (23, 0)] M (f_X10_feed v1 M) := by
  unfold f_X10_feed
  refine fr_ite ?_ ?_
  · exact fr_some rfl
  · refine fr_ite ?_ ?_
    · refine fr_bI (fr_mono (fr_X5_hear v1 M) (by decide)) (fun x1 M2 => ?_)
      exact fr_some rfl
    · exact fr_some rfl
theorem fr_X11_feed (v1 : Int32) (M : Mem) : Fr Prod.snd [(47, 12), (54, 0)] M (f_X11_feed v1 M) := by
  unfold f_X11_feed
  refine fr_bR (fun x1 => ?_)
  refine fr_ite ?_ ?_
  · exact fr_some rfl
  · refine fr_ite ?_ ?_
    · exact fr_some rfl
    · refine fr_ck (fr_ltw (fr_wIa (by decide)) (fun M3 => ?_))
      refine fr_ltw (fr_wIf (by decide)) (fun M4 => ?_)
      exact fr_some rfl
theorem fr_X5_addStep (v1 : Int32) (v2 : Int32) (M : Mem) : Fr id [(22, 6), (24, 0), (25, 0)] M (f_X5_addStep v1 v2 M) := by
  unfold f_X5_addStep
  refine fr_ite ?_ ?_
  · exact fr_some rfl
  · refine fr_ck (fr_ltw (fr_wId (by decide) (by decide)) (fun M1 => ?_))
    refine fr_ck (fr_ltw (fr_wId (by decide) (by decide)) (fun M2 => ?_))
    refine fr_ltw (fr_wIf (by decide)) (fun M3 => ?_)
    exact fr_some rfl
theorem fr_X5_readNumber_b48 (v1 : Int32) (M : Mem) : Fr id [(22, 3), (22, 6), (24, 0), (25, 0)] M (f_X5_readNumber_b48 v1 M) := by
  unfold f_X5_readNumber_b48
  refine fr_bV (fr_mono (fr_X5_addStep (48 : Int32) v1 M) (by decide)) (fun M2 => ?_)
  exact fr_some rfl
theorem fr_X5_readNumber_L4 : ∀ (n : Nat) (v1 : Int32) (v2 : Int32) (M : Mem), Fr id [(22, 3), (22, 6), (24, 0), (25, 0)] M (f_X5_readNumber_L4 n v1 v2 M) := by
  intro n
  induction n with
  | zero => intro _ _ _; exact fr_none
  | succ n ih =>
    intro v1 v2 M
    rw [f_X5_readNumber_L4]
    refine fr_ite ?_ ?_
    · exact fr_X5_readNumber_b48 _ _
    · refine fr_bR (fun x1 => ?_)
      refine fr_bR (fun x3 => ?_)
      refine fr_ite ?_ ?_
      · exact fr_X5_readNumber_b48 _ _
      · refine fr_bR (fun x5 => ?_)
        refine fr_ltv (fun x7 => ?_)
        refine fr_ltw (fr_wIf (by decide)) (fun M8 => ?_)
        exact ih _ _ _
theorem fr_X5_readNumber (M : Mem) : Fr id [(22, 3), (22, 6), (24, 0), (25, 0)] M (f_X5_readNumber M) := by
  unfold f_X5_readNumber
  exact fr_X5_readNumber_L4 FU _ _ _
theorem fr_X5_comes_b13 (s0 : Int32) (M : Mem) : Fr Prod.snd [(22, 3)] M (f_X5_comes_b13 s0 M) := by
  unfold f_X5_comes_b13
  refine fr_ite ?_ ?_
  · exact fr_ck (fr_some rfl)
  · refine fr_ltw (fr_wIf (by decide)) (fun M1 => ?_)
    exact fr_ck (fr_some rfl)
theorem fr_X5_comes (v1 : Int32) (M : Mem) : Fr Prod.snd [(22, 3)] M (f_X5_comes v1 M) := by
  unfold f_X5_comes
  refine fr_bR (fun x1 => ?_)
  refine fr_ite ?_ ?_
  · exact fr_X5_comes_b13 _ _
  · exact fr_X5_comes_b13 _ _
theorem fr_X5_failHere (M : Mem) : Fr id [(22, 4)] M (f_X5_failHere M) := by
  unfold f_X5_failHere
  refine fr_ite ?_ ?_
  · exact fr_some rfl
  · refine fr_ltw (fr_wIf (by decide)) (fun M1 => ?_)
    exact fr_some rfl
theorem fr_X5_comesOf_b26 (v4 : Int32) (M : Mem) : Fr Prod.snd [(22, 3)] M (f_X5_comesOf_b26 v4 M) := by
  unfold f_X5_comesOf_b26
  refine fr_ltw (fr_wIf (by decide)) (fun M1 => ?_)
  exact fr_some rfl
theorem fr_X5_comesOf (v1 : Int32) (v2 : Int32) (v3 : Int32) (M : Mem) : Fr Prod.snd [(22, 3)] M (f_X5_comesOf v1 v2 v3 M) := by
  unfold f_X5_comesOf
  refine fr_bR (fun x1 => ?_)
  refine fr_ite ?_ ?_
  · exact fr_X5_comesOf_b26 _ _
  · refine fr_ite ?_ ?_
    · exact fr_X5_comesOf_b26 _ _
    · refine fr_ite ?_ ?_
      · exact fr_X5_comesOf_b26 _ _
      · exact fr_some rfl
theorem fr_X5_readProduct_L18 {rc : Int32 → Mem → Option Mem} (hrc : ∀ (v1 : Int32) (M : Mem), Fr id [(22, 3), (22, 4), (22, 6), (24, 0), (25, 0)] M (rc v1 M)) : ∀ (n : Nat) (v1 : Int32) (v2 : Int32) (v3 : Int32) (M : Mem), Fr id [(22, 3), (22, 4), (22, 6), (24, 0), (25, 0)] M (f_X5_readProduct_L18 rc n v1 v2 v3 M) := by
  intro n
  induction n with
  | zero => intro _ _ _ _; exact fr_none
  | succ n ih =>
    intro v1 v2 v3 M
    rw [f_X5_readProduct_L18]
    refine fr_ite ?_ ?_
    · exact fr_some rfl
    · refine fr_ite ?_ ?_
      · exact fr_some rfl
      · refine fr_bV (fr_mono (hrc v1 M) (by decide)) (fun M2 => ?_)
        refine fr_bV (fr_mono (fr_X5_addStep v2 (0 : Int32) M2) (by decide)) (fun M4 => ?_)
        refine fr_bI (fr_mono (fr_X5_comesOf (42 : Int32) (47 : Int32) (37 : Int32) M4) (by decide)) (fun x5 M6 => ?_)
        exact ih _ _ _ _
theorem fr_X5_readProduct {rc : Int32 → Mem → Option Mem} (hrc : ∀ (v1 : Int32) (M : Mem), Fr id [(22, 3), (22, 4), (22, 6), (24, 0), (25, 0)] M (rc v1 M)) (v1 : Int32) (M : Mem) : Fr id [(22, 3), (22, 4), (22, 6), (24, 0), (25, 0)] M (f_X5_readProduct rc v1 M) := by
  unfold f_X5_readProduct
  refine fr_bV (fr_mono (hrc v1 M) (by decide)) (fun M2 => ?_)
  refine fr_bI (fr_mono (fr_X5_comesOf (42 : Int32) (47 : Int32) (37 : Int32) M2) (by decide)) (fun x3 M4 => ?_)
  exact fr_X5_readProduct_L18 hrc FU _ _ _ _
theorem fr_X5_readSum_L18 {rc : Int32 → Mem → Option Mem} (hrc : ∀ (v1 : Int32) (M : Mem), Fr id [(22, 3), (22, 4), (22, 6), (24, 0), (25, 0)] M (rc v1 M)) : ∀ (n : Nat) (v1 : Int32) (v2 : Int32) (v3 : Int32) (M : Mem), Fr id [(22, 3), (22, 4), (22, 6), (24, 0), (25, 0)] M (f_X5_readSum_L18 rc n v1 v2 v3 M) := by
  intro n
  induction n with
  | zero => intro _ _ _ _; exact fr_none
  | succ n ih =>
    intro v1 v2 v3 M
    rw [f_X5_readSum_L18]
    refine fr_ite ?_ ?_
    · exact fr_some rfl
    · refine fr_ite ?_ ?_
      · exact fr_some rfl
      · refine fr_bV (fr_mono (fr_X5_readProduct hrc v1 M) (by decide)) (fun M2 => ?_)
        refine fr_bV (fr_mono (fr_X5_addStep v2 (0 : Int32) M2) (by decide)) (fun M4 => ?_)
        refine fr_bI (fr_mono (fr_X5_comesOf (43 : Int32) (45 : Int32) (45 : Int32) M4) (by decide)) (fun x5 M6 => ?_)
        exact ih _ _ _ _
theorem fr_X5_readSum {rc : Int32 → Mem → Option Mem} (hrc : ∀ (v1 : Int32) (M : Mem), Fr id [(22, 3), (22, 4), (22, 6), (24, 0), (25, 0)] M (rc v1 M)) (v1 : Int32) (M : Mem) : Fr id [(22, 3), (22, 4), (22, 6), (24, 0), (25, 0)] M (f_X5_readSum rc v1 M) := by
  unfold f_X5_readSum
  refine fr_bV (fr_mono (fr_X5_readProduct hrc v1 M) (by decide)) (fun M2 => ?_)
  refine fr_bI (fr_mono (fr_X5_comesOf (43 : Int32) (45 : Int32) (45 : Int32) M2) (by decide)) (fun x3 M4 => ?_)
  exact fr_X5_readSum_L18 hrc FU _ _ _ _
theorem fr_X5_readCompared {rc : Int32 → Mem → Option Mem} (hrc : ∀ (v1 : Int32) (M : Mem), Fr id [(22, 3), (22, 4), (22, 6), (24, 0), (25, 0)] M (rc v1 M)) (v1 : Int32) (M : Mem) : Fr id [(22, 3), (22, 4), (22, 6), (24, 0), (25, 0)] M (f_X5_readCompared rc v1 M) := by
  unfold f_X5_readCompared
  refine fr_bV (fr_mono (fr_X5_readSum hrc v1 M) (by decide)) (fun M2 => ?_)
  refine fr_bI (fr_mono (fr_X5_comesOf (60 : Int32) (61 : Int32) (62 : Int32) M2) (by decide)) (fun x3 M4 => ?_)
  refine fr_ite ?_ ?_
  · exact fr_some rfl
  · refine fr_bV (fr_mono (fr_X5_readSum hrc v1 M4) (by decide)) (fun M6 => ?_)
    refine fr_bV (fr_mono (fr_X5_addStep x3 (0 : Int32) M6) (by decide)) (fun M8 => ?_)
    exact fr_some rfl
theorem fr_X5_readBoth_L7 {rc : Int32 → Mem → Option Mem} (hrc : ∀ (v1 : Int32) (M : Mem), Fr id [(22, 3), (22, 4), (22, 6), (24, 0), (25, 0)] M (rc v1 M)) : ∀ (n : Nat) (v1 : Int32) (v2 : Int32) (M : Mem), Fr id [(22, 3), (22, 4), (22, 6), (24, 0), (25, 0)] M (f_X5_readBoth_L7 rc n v1 v2 M) := by
  intro n
  induction n with
  | zero => intro _ _ _; exact fr_none
  | succ n ih =>
    intro v1 v2 M
    rw [f_X5_readBoth_L7]
    refine fr_ite ?_ ?_
    · exact fr_some rfl
    · refine fr_bI (fr_mono (fr_X5_comes (38 : Int32) M) (by decide)) (fun x1 M2 => ?_)
      refine fr_ite ?_ ?_
      · exact fr_some rfl
      · refine fr_bV (fr_mono (fr_X5_readCompared hrc v1 M2) (by decide)) (fun M4 => ?_)
        refine fr_bV (fr_mono (fr_X5_addStep (38 : Int32) (0 : Int32) M4) (by decide)) (fun M6 => ?_)
        exact ih _ _ _
theorem fr_X5_readBoth {rc : Int32 → Mem → Option Mem} (hrc : ∀ (v1 : Int32) (M : Mem), Fr id [(22, 3), (22, 4), (22, 6), (24, 0), (25, 0)] M (rc v1 M)) (v1 : Int32) (M : Mem) : Fr id [(22, 3), (22, 4), (22, 6), (24, 0), (25, 0)] M (f_X5_readBoth rc v1 M) := by
  unfold f_X5_readBoth
  refine fr_bV (fr_mono (fr_X5_readCompared hrc v1 M) (by decide)) (fun M2 => ?_)
  exact fr_X5_readBoth_L7 hrc FU _ _ _
theorem fr_X5_readEither_L7 {rc : Int32 → Mem → Option Mem} (hrc : ∀ (v1 : Int32) (M : Mem), Fr id [(22, 3), (22, 4), (22, 6), (24, 0), (25, 0)] M (rc v1 M)) : ∀ (n : Nat) (v1 : Int32) (v2 : Int32) (M : Mem), Fr id [(22, 3), (22, 4), (22, 6), (24, 0), (25, 0)] M (f_X5_readEither_L7 rc n v1 v2 M) := by
  intro n
  induction n with
  | zero => intro _ _ _; exact fr_none
  | succ n ih =>
    intro v1 v2 M
    rw [f_X5_readEither_L7]
    refine fr_ite ?_ ?_
    · exact fr_some rfl
    · refine fr_bI (fr_mono (fr_X5_comes (124 : Int32) M) (by decide)) (fun x1 M2 => ?_)
      refine fr_ite ?_ ?_
      · exact fr_some rfl
      · refine fr_bV (fr_mono (fr_X5_readBoth hrc v1 M2) (by decide)) (fun M4 => ?_)
        refine fr_bV (fr_mono (fr_X5_addStep (124 : Int32) (0 : Int32) M4) (by decide)) (fun M6 => ?_)
        exact ih _ _ _
theorem fr_X5_readEither {rc : Int32 → Mem → Option Mem} (hrc : ∀ (v1 : Int32) (M : Mem), Fr id [(22, 3), (22, 4), (22, 6), (24, 0), (25, 0)] M (rc v1 M)) (v1 : Int32) (M : Mem) : Fr id [(22, 3), (22, 4), (22, 6), (24, 0), (25, 0)] M (f_X5_readEither rc v1 M) := by
  unfold f_X5_readEither
  refine fr_bV (fr_mono (fr_X5_readBoth hrc v1 M) (by decide)) (fun M2 => ?_)
  exact fr_X5_readEither_L7 hrc FU _ _ _
theorem fr_X5_readOne_b151 {rc : Int32 → Mem → Option Mem} (hrc : ∀ (v1 : Int32) (M : Mem), Fr id [(22, 3), (22, 4), (22, 6), (24, 0), (25, 0)] M (rc v1 M)) (M : Mem) : Fr id [(22, 3), (22, 4), (22, 6), (24, 0), (25, 0)] M (f_X5_readOne_b151 rc M) := by
  unfold f_X5_readOne_b151
  refine fr_bV (fr_mono (fr_X5_failHere M) (by decide)) (fun M2 => ?_)
  exact fr_some rfl
theorem fr_X5_readOne_b119 {rc : Int32 → Mem → Option Mem} (hrc : ∀ (v1 : Int32) (M : Mem), Fr id [(22, 3), (22, 4), (22, 6), (24, 0), (25, 0)] M (rc v1 M)) (v1 : Int32) (M : Mem) : Fr id [(22, 3), (22, 4), (22, 6), (24, 0), (25, 0)] M (f_X5_readOne_b119 rc v1 M) := by
  unfold f_X5_readOne_b119
  refine fr_ite ?_ ?_
  · exact fr_X5_readOne_b151 hrc _
  · refine fr_bI (fr_mono (fr_X5_comes (45 : Int32) M) (by decide)) (fun x1 M2 => ?_)
    refine fr_ite ?_ ?_
    · exact fr_X5_readOne_b151 hrc _
    · refine fr_bV (fr_mono (hrc (v1 + (1 : Int32)) M2) (by decide)) (fun M4 => ?_)
      refine fr_bV (fr_mono (fr_X5_addStep (126 : Int32) (0 : Int32) M4) (by decide)) (fun M6 => ?_)
      exact fr_some rfl
theorem fr_X5_readOne_b87 {rc : Int32 → Mem → Option Mem} (hrc : ∀ (v1 : Int32) (M : Mem), Fr id [(22, 3), (22, 4), (22, 6), (24, 0), (25, 0)] M (rc v1 M)) (v1 : Int32) (M : Mem) : Fr id [(22, 3), (22, 4), (22, 6), (24, 0), (25, 0)] M (f_X5_readOne_b87 rc v1 M) := by
  unfold f_X5_readOne_b87
  refine fr_ite ?_ ?_
  · exact fr_X5_readOne_b119 hrc _ _
  · refine fr_bI (fr_mono (fr_X5_comes (33 : Int32) M) (by decide)) (fun x1 M2 => ?_)
    refine fr_ite ?_ ?_
    · exact fr_X5_readOne_b119 hrc _ _
    · refine fr_bV (fr_mono (hrc (v1 + (1 : Int32)) M2) (by decide)) (fun M4 => ?_)
      refine fr_bV (fr_mono (fr_X5_addStep (33 : Int32) (0 : Int32) M4) (by decide)) (fun M6 => ?_)
      exact fr_some rfl
theorem fr_X5_readOne_o {rc : Int32 → Mem → Option Mem} (hrc : ∀ (v1 : Int32) (M : Mem), Fr id [(22, 3), (22, 4), (22, 6), (24, 0), (25, 0)] M (rc v1 M)) (v1 : Int32) (M : Mem) : Fr id [(22, 3), (22, 4), (22, 6), (24, 0), (25, 0)] M (f_X5_readOne_o rc v1 M) := by
  unfold f_X5_readOne_o
  refine fr_bR (fun x1 => ?_)
  refine fr_bR (fun x3 => ?_)
  refine fr_ite ?_ ?_
  · refine fr_bR (fun x5 => ?_)
    refine fr_ite ?_ ?_
    · refine fr_ite ?_ ?_
      · exact fr_X5_readOne_b87 hrc _ _
      · refine fr_bI (fr_mono (fr_X5_comes (40 : Int32) M) (by decide)) (fun x7 M8 => ?_)
        refine fr_ite ?_ ?_
        · exact fr_X5_readOne_b87 hrc _ _
        · refine fr_bV (fr_mono (fr_X5_readEither hrc (v1 + (1 : Int32)) M8) (by decide)) (fun M10 => ?_)
          refine fr_bI (fr_mono (fr_X5_comes (41 : Int32) M10) (by decide)) (fun x11 M12 => ?_)
          refine fr_ite ?_ ?_
          · refine fr_bV (fr_mono (fr_X5_failHere M12) (by decide)) (fun M14 => ?_)
            exact fr_some rfl
          · exact fr_some rfl
    · refine fr_ltw (fr_wIf (by decide)) (fun M15 => ?_)
      refine fr_bR (fun x16 => ?_)
      refine fr_bV (fr_mono (fr_X5_addStep (97 : Int32) x16 M15) (by decide)) (fun M19 => ?_)
      exact fr_some rfl
  · refine fr_bV (fr_mono (fr_X5_readNumber M) (by decide)) (fun M21 => ?_)
    exact fr_some rfl
theorem fr_X5_readOne : ∀ (d : Nat) (v1 : Int32) (M : Mem), Fr id [(22, 3), (22, 4), (22, 6), (24, 0), (25, 0)] M (f_X5_readOne d v1 M)
  | 0, _, _ => fr_none
  | d + 1, v1, M => fr_X5_readOne_o (rc := f_X5_readOne d) (fun v1 M => fr_X5_readOne d v1 M) v1 M
theorem fr_X5_readLine_b26 (M : Mem) : Fr id [(22, 3), (22, 4), (22, 6), (24, 0), (25, 0)] M (f_X5_readLine_b26 M) := by
  unfold f_X5_readLine_b26
  refine fr_bV (fr_mono (fr_X5_addStep (59 : Int32) (0 : Int32) M) (by decide)) (fun M2 => ?_)
  exact fr_some rfl
theorem fr_X5_readLine (M : Mem) : Fr id [(22, 3), (22, 4), (22, 6), (24, 0), (25, 0)] M (f_X5_readLine M) := by
  unfold f_X5_readLine
  refine fr_bV (fr_mono (fr_X5_readEither (fr_X5_readOne FD) (0 : Int32) M) (by decide)) (fun M2 => ?_)
  refine fr_bI (fr_mono (fr_X5_comes (63 : Int32) M2) (by decide)) (fun x3 M4 => ?_)
  refine fr_ite ?_ ?_
  · exact fr_X5_readLine_b26 _
  · refine fr_bV (fr_mono (fr_X5_addStep (63 : Int32) (0 : Int32) M4) (by decide)) (fun M6 => ?_)
    refine fr_bV (fr_mono (fr_X5_readEither (fr_X5_readOne FD) (0 : Int32) M6) (by decide)) (fun M8 => ?_)
    exact fr_X5_readLine_b26 _
theorem fr_X5_readLines_b31 (M : Mem) : Fr id [(22, 3), (22, 4), (22, 6), (24, 0), (25, 0)] M (f_X5_readLines_b31 M) := by
  unfold f_X5_readLines_b31
  refine fr_ite ?_ ?_
  · exact fr_some rfl
  · refine fr_bV (fr_mono (fr_X5_failHere M) (by decide)) (fun M2 => ?_)
    exact fr_some rfl
theorem fr_X5_readLines_L6 : ∀ (n : Nat) (v1 : Int32) (M : Mem), Fr id [(22, 3), (22, 4), (22, 6), (24, 0), (25, 0)] M (f_X5_readLines_L6 n v1 M) := by
  intro n
  induction n with
  | zero => intro _ _; exact fr_none
  | succ n ih =>
    intro v1 M
    rw [f_X5_readLines_L6]
    refine fr_ite ?_ ?_
    · exact fr_X5_readLines_b31 _
    · refine fr_bI (fr_mono (fr_X5_comes (59 : Int32) M) (by decide)) (fun x1 M2 => ?_)
      refine fr_ite ?_ ?_
      · exact fr_X5_readLines_b31 _
      · refine fr_bV (fr_mono (fr_X5_readLine M2) (by decide)) (fun M4 => ?_)
        exact ih _ _
theorem fr_X5_readLines (M : Mem) : Fr id [(22, 3), (22, 4), (22, 6), (24, 0), (25, 0)] M (f_X5_readLines M) := by
  unfold f_X5_readLines
  refine fr_bV (fr_mono (fr_X5_readLine M) (by decide)) (fun M2 => ?_)
  exact fr_X5_readLines_L6 FU _ _
theorem fr_X11_faulty_b19 (s0 : Int32) (M : Mem) : Fr Prod.snd [(47, 18)] M (f_X11_faulty_b19 s0 M) := by
  unfold f_X11_faulty_b19
  refine fr_ltw (fr_wIf (by decide)) (fun M1 => ?_)
  exact fr_some rfl
theorem fr_X11_faulty (M : Mem) : Fr Prod.snd [(47, 18)] M (f_X11_faulty M) := by
  unfold f_X11_faulty
  refine fr_ite ?_ ?_
  · exact fr_X11_faulty_b19 _ _
  · exact fr_X11_faulty_b19 _ _
theorem fr_X11_takes (v1 : Int32) (M : Mem) : Fr Prod.snd [(47, 16)] M (f_X11_takes v1 M) := by
  unfold f_X11_takes
  refine fr_ite ?_ ?_
  · exact fr_some rfl
  · refine fr_bR (fun x1 => ?_)
    refine fr_ite ?_ ?_
    · refine fr_ltw (fr_wIf (by decide)) (fun M3 => ?_)
      exact fr_some rfl
    · exact fr_some rfl
theorem fr_X11_product_b85 {k10 : Int32 → Int32 → Mem → Option (Int32 × Mem)} {rc : Mem → Option (Int32 × Mem)} (hrc : ∀  (M : Mem), Fr Prod.snd [(47, 16), (47, 18), (47, 19)] M (rc M)) (hk10 : ∀ (v1 : Int32) (v2 : Int32) (M : Mem), Fr Prod.snd [(47, 16), (47, 18), (47, 19)] M (k10 v1 v2 M)) (s0 : Int32) (M : Mem) : Fr Prod.snd [(47, 16), (47, 18), (47, 19)] M (f_X11_product_b85 rc k10 s0 M) := by
  unfold f_X11_product_b85
  refine fr_bR (fun x1 => ?_)
  exact hk10 _ _ _
theorem fr_X11_product_b35 {k10 : Int32 → Int32 → Mem → Option (Int32 × Mem)} {rc : Mem → Option (Int32 × Mem)} (hrc : ∀  (M : Mem), Fr Prod.snd [(47, 16), (47, 18), (47, 19)] M (rc M)) (hk10 : ∀ (v1 : Int32) (v2 : Int32) (M : Mem), Fr Prod.snd [(47, 16), (47, 18), (47, 19)] M (k10 v1 v2 M)) (v1 : Int32) (v2 : Int32) (M : Mem) : Fr Prod.snd [(47, 16), (47, 18), (47, 19)] M (f_X11_product_b35 rc k10 v1 v2 M) := by
  unfold f_X11_product_b35
  refine fr_ltw (fr_wIf (by decide)) (fun M1 => ?_)
  refine fr_bI (fr_mono (hrc M1) (by decide)) (fun x2 M3 => ?_)
  refine fr_ite ?_ ?_
  · exact fr_X11_product_b85 hrc hk10 _ _
  · refine fr_ite ?_ ?_
    · exact fr_X11_product_b85 hrc hk10 _ _
    · refine fr_ite ?_ ?_
      · refine fr_ite fr_none ?_
        exact fr_X11_product_b85 hrc hk10 _ _
      · refine fr_ite fr_none ?_
        exact fr_X11_product_b85 hrc hk10 _ _
theorem fr_X11_product_L10 {rc : Mem → Option (Int32 × Mem)} (hrc : ∀  (M : Mem), Fr Prod.snd [(47, 16), (47, 18), (47, 19)] M (rc M)) : ∀ (n : Nat) (v1 : Int32) (v2 : Int32) (M : Mem), Fr Prod.snd [(47, 16), (47, 18), (47, 19)] M (f_X11_product_L10 rc n v1 v2 M) := by
  intro n
  induction n with
  | zero => intro _ _ _; exact fr_none
  | succ n ih =>
    intro v1 v2 M
    rw [f_X11_product_L10]
    refine fr_ite ?_ ?_
    · exact fr_some rfl
    · refine fr_ite ?_ ?_
      · exact fr_X11_product_b35 hrc ih _ _ _
      · refine fr_ite ?_ ?_
        · exact fr_X11_product_b35 hrc ih _ _ _
        · refine fr_ite ?_ ?_
          · exact fr_X11_product_b35 hrc ih _ _ _
          · exact fr_some rfl
theorem fr_X11_product {rc : Mem → Option (Int32 × Mem)} (hrc : ∀  (M : Mem), Fr Prod.snd [(47, 16), (47, 18), (47, 19)] M (rc M)) (M : Mem) : Fr Prod.snd [(47, 16), (47, 18), (47, 19)] M (f_X11_product rc M) := by
  unfold f_X11_product
  refine fr_bI (fr_mono (hrc M) (by decide)) (fun x1 M2 => ?_)
  refine fr_bR (fun x3 => ?_)
  exact fr_X11_product_L10 hrc FU _ _ _
theorem fr_X11_sums_b73 {k5 : Int32 → Mem → Option (Int32 × Mem)} {rc : Mem → Option (Int32 × Mem)} (hrc : ∀  (M : Mem), Fr Prod.snd [(47, 16), (47, 18), (47, 19)] M (rc M)) (hk5 : ∀ (v1 : Int32) (M : Mem), Fr Prod.snd [(47, 16), (47, 18), (47, 19)] M (k5 v1 M)) (s0 : Int32) (M : Mem) : Fr Prod.snd [(47, 16), (47, 18), (47, 19)] M (f_X11_sums_b73 rc k5 s0 M) := by
  unfold f_X11_sums_b73
  exact hk5 _ _
theorem fr_X11_sums_b44 {k5 : Int32 → Mem → Option (Int32 × Mem)} {rc : Mem → Option (Int32 × Mem)} (hrc : ∀  (M : Mem), Fr Prod.snd [(47, 16), (47, 18), (47, 19)] M (rc M)) (hk5 : ∀ (v1 : Int32) (M : Mem), Fr Prod.snd [(47, 16), (47, 18), (47, 19)] M (k5 v1 M)) (v1 : Int32) (s0 : Int32) (M : Mem) : Fr Prod.snd [(47, 16), (47, 18), (47, 19)] M (f_X11_sums_b44 rc k5 v1 s0 M) := by
  unfold f_X11_sums_b44
  refine fr_ltw (fr_wIf (by decide)) (fun M1 => ?_)
  refine fr_bI (fr_mono (fr_X11_product hrc M1) (by decide)) (fun x2 M3 => ?_)
  refine fr_ite ?_ ?_
  · exact fr_X11_sums_b73 hrc hk5 _ _
  · exact fr_X11_sums_b73 hrc hk5 _ _
theorem fr_X11_sums_b30 {k5 : Int32 → Mem → Option (Int32 × Mem)} {rc : Mem → Option (Int32 × Mem)} (hrc : ∀  (M : Mem), Fr Prod.snd [(47, 16), (47, 18), (47, 19)] M (rc M)) (hk5 : ∀ (v1 : Int32) (M : Mem), Fr Prod.snd [(47, 16), (47, 18), (47, 19)] M (k5 v1 M)) (v1 : Int32) (M : Mem) : Fr Prod.snd [(47, 16), (47, 18), (47, 19)] M (f_X11_sums_b30 rc k5 v1 M) := by
  unfold f_X11_sums_b30
  refine fr_bR (fun x1 => ?_)
  refine fr_ite ?_ ?_
  · exact fr_X11_sums_b44 hrc hk5 _ _ _
  · exact fr_X11_sums_b44 hrc hk5 _ _ _
theorem fr_X11_sums_L5 {rc : Mem → Option (Int32 × Mem)} (hrc : ∀  (M : Mem), Fr Prod.snd [(47, 16), (47, 18), (47, 19)] M (rc M)) : ∀ (n : Nat) (v1 : Int32) (M : Mem), Fr Prod.snd [(47, 16), (47, 18), (47, 19)] M (f_X11_sums_L5 rc n v1 M) := by
  intro n
  induction n with
  | zero => intro _ _; exact fr_none
  | succ n ih =>
    intro v1 M
    rw [f_X11_sums_L5]
    refine fr_ite ?_ ?_
    · exact fr_some rfl
    · refine fr_bR (fun x1 => ?_)
      refine fr_ite ?_ ?_
      · exact fr_X11_sums_b30 hrc ih _ _
      · refine fr_bR (fun x3 => ?_)
        refine fr_ite ?_ ?_
        · exact fr_X11_sums_b30 hrc ih _ _
        · exact fr_some rfl
theorem fr_X11_sums {rc : Mem → Option (Int32 × Mem)} (hrc : ∀  (M : Mem), Fr Prod.snd [(47, 16), (47, 18), (47, 19)] M (rc M)) (M : Mem) : Fr Prod.snd [(47, 16), (47, 18), (47, 19)] M (f_X11_sums rc M) := by
  unfold f_X11_sums
  refine fr_bI (fr_mono (fr_X11_product hrc M) (by decide)) (fun x1 M2 => ?_)
  exact fr_X11_sums_L5 hrc FU _ _
theorem fr_X11_compared_b85 {rc : Mem → Option (Int32 × Mem)} (hrc : ∀  (M : Mem), Fr Prod.snd [(47, 16), (47, 18), (47, 19)] M (rc M)) (M : Mem) : Fr Prod.snd [(47, 16), (47, 18), (47, 19)] M (f_X11_compared_b85 rc M) := by
  unfold f_X11_compared_b85
  exact fr_some rfl
theorem fr_X11_compared_b37 {rc : Mem → Option (Int32 × Mem)} (hrc : ∀  (M : Mem), Fr Prod.snd [(47, 16), (47, 18), (47, 19)] M (rc M)) (v1 : Int32) (v2 : Int32) (M : Mem) : Fr Prod.snd [(47, 16), (47, 18), (47, 19)] M (f_X11_compared_b37 rc v1 v2 M) := by
  unfold f_X11_compared_b37
  refine fr_ltw (fr_wIf (by decide)) (fun M1 => ?_)
  refine fr_bI (fr_mono (fr_X11_sums hrc M1) (by decide)) (fun x2 M3 => ?_)
  refine fr_ite ?_ ?_
  · refine fr_ite ?_ ?_
    · exact fr_some rfl
    · exact fr_X11_compared_b85 hrc _
  · refine fr_ite ?_ ?_
    · refine fr_ite ?_ ?_
      · exact fr_X11_compared_b85 hrc _
      · exact fr_some rfl
    · refine fr_ite ?_ ?_
      · exact fr_some rfl
      · exact fr_X11_compared_b85 hrc _
theorem fr_X11_compared {rc : Mem → Option (Int32 × Mem)} (hrc : ∀  (M : Mem), Fr Prod.snd [(47, 16), (47, 18), (47, 19)] M (rc M)) (M : Mem) : Fr Prod.snd [(47, 16), (47, 18), (47, 19)] M (f_X11_compared rc M) := by
  unfold f_X11_compared
  refine fr_bI (fr_mono (fr_X11_sums hrc M) (by decide)) (fun x1 M2 => ?_)
  refine fr_bR (fun x3 => ?_)
  refine fr_ite ?_ ?_
  · exact fr_some rfl
  · refine fr_ite ?_ ?_
    · exact fr_X11_compared_b37 hrc _ _ _
    · refine fr_ite ?_ ?_
      · exact fr_X11_compared_b37 hrc _ _ _
      · refine fr_ite ?_ ?_
        · exact fr_X11_compared_b37 hrc _ _ _
        · exact fr_some rfl
theorem fr_X11_both_b32 {k5 : Int32 → Mem → Option (Int32 × Mem)} {rc : Mem → Option (Int32 × Mem)} (hrc : ∀  (M : Mem), Fr Prod.snd [(47, 16), (47, 18), (47, 19)] M (rc M)) (hk5 : ∀ (v1 : Int32) (M : Mem), Fr Prod.snd [(47, 16), (47, 18), (47, 19)] M (k5 v1 M)) (s0 : Int32) (M : Mem) : Fr Prod.snd [(47, 16), (47, 18), (47, 19)] M (f_X11_both_b32 rc k5 s0 M) := by
  unfold f_X11_both_b32
  exact hk5 _ _
theorem fr_X11_both_b31 {k5 : Int32 → Mem → Option (Int32 × Mem)} {rc : Mem → Option (Int32 × Mem)} (hrc : ∀  (M : Mem), Fr Prod.snd [(47, 16), (47, 18), (47, 19)] M (rc M)) (hk5 : ∀ (v1 : Int32) (M : Mem), Fr Prod.snd [(47, 16), (47, 18), (47, 19)] M (k5 v1 M)) (M : Mem) : Fr Prod.snd [(47, 16), (47, 18), (47, 19)] M (f_X11_both_b31 rc k5 M) := by
  unfold f_X11_both_b31
  exact fr_X11_both_b32 hrc hk5 _ _
theorem fr_X11_both_L5 {rc : Mem → Option (Int32 × Mem)} (hrc : ∀  (M : Mem), Fr Prod.snd [(47, 16), (47, 18), (47, 19)] M (rc M)) : ∀ (n : Nat) (v1 : Int32) (M : Mem), Fr Prod.snd [(47, 16), (47, 18), (47, 19)] M (f_X11_both_L5 rc n v1 M) := by
  intro n
  induction n with
  | zero => intro _ _; exact fr_none
  | succ n ih =>
    intro v1 M
    rw [f_X11_both_L5]
    refine fr_bI (fr_mono (fr_X11_takes (38 : Int32) M) (by decide)) (fun x1 M2 => ?_)
    refine fr_ite ?_ ?_
    · exact fr_some rfl
    · refine fr_bI (fr_mono (fr_X11_compared hrc M2) (by decide)) (fun x3 M4 => ?_)
      refine fr_ite ?_ ?_
      · exact fr_X11_both_b31 hrc ih _
      · refine fr_ite ?_ ?_
        · exact fr_X11_both_b31 hrc ih _
        · exact fr_X11_both_b32 hrc ih _ _
theorem fr_X11_both {rc : Mem → Option (Int32 × Mem)} (hrc : ∀  (M : Mem), Fr Prod.snd [(47, 16), (47, 18), (47, 19)] M (rc M)) (M : Mem) : Fr Prod.snd [(47, 16), (47, 18), (47, 19)] M (f_X11_both rc M) := by
  unfold f_X11_both
  refine fr_bI (fr_mono (fr_X11_compared hrc M) (by decide)) (fun x1 M2 => ?_)
  exact fr_X11_both_L5 hrc FU _ _
theorem fr_X11_either_b32 {k5 : Int32 → Mem → Option (Int32 × Mem)} {rc : Mem → Option (Int32 × Mem)} (hrc : ∀  (M : Mem), Fr Prod.snd [(47, 16), (47, 18), (47, 19)] M (rc M)) (hk5 : ∀ (v1 : Int32) (M : Mem), Fr Prod.snd [(47, 16), (47, 18), (47, 19)] M (k5 v1 M)) (s0 : Int32) (M : Mem) : Fr Prod.snd [(47, 16), (47, 18), (47, 19)] M (f_X11_either_b32 rc k5 s0 M) := by
  unfold f_X11_either_b32
  exact hk5 _ _
theorem fr_X11_either_b27 {k5 : Int32 → Mem → Option (Int32 × Mem)} {rc : Mem → Option (Int32 × Mem)} (hrc : ∀  (M : Mem), Fr Prod.snd [(47, 16), (47, 18), (47, 19)] M (rc M)) (hk5 : ∀ (v1 : Int32) (M : Mem), Fr Prod.snd [(47, 16), (47, 18), (47, 19)] M (k5 v1 M)) (M : Mem) : Fr Prod.snd [(47, 16), (47, 18), (47, 19)] M (f_X11_either_b27 rc k5 M) := by
  unfold f_X11_either_b27
  exact fr_X11_either_b32 hrc hk5 _ _
theorem fr_X11_either_L5 {rc : Mem → Option (Int32 × Mem)} (hrc : ∀  (M : Mem), Fr Prod.snd [(47, 16), (47, 18), (47, 19)] M (rc M)) : ∀ (n : Nat) (v1 : Int32) (M : Mem), Fr Prod.snd [(47, 16), (47, 18), (47, 19)] M (f_X11_either_L5 rc n v1 M) := by
  intro n
  induction n with
  | zero => intro _ _; exact fr_none
  | succ n ih =>
    intro v1 M
    rw [f_X11_either_L5]
    refine fr_bI (fr_mono (fr_X11_takes (124 : Int32) M) (by decide)) (fun x1 M2 => ?_)
    refine fr_ite ?_ ?_
    · exact fr_some rfl
    · refine fr_bI (fr_mono (fr_X11_both hrc M2) (by decide)) (fun x3 M4 => ?_)
      refine fr_ite ?_ ?_
      · refine fr_ite ?_ ?_
        · exact fr_X11_either_b32 hrc ih _ _
        · exact fr_X11_either_b27 hrc ih _
      · exact fr_X11_either_b27 hrc ih _
theorem fr_X11_either {rc : Mem → Option (Int32 × Mem)} (hrc : ∀  (M : Mem), Fr Prod.snd [(47, 16), (47, 18), (47, 19)] M (rc M)) (M : Mem) : Fr Prod.snd [(47, 16), (47, 18), (47, 19)] M (f_X11_either rc M) := by
  unfold f_X11_either
  refine fr_bI (fr_mono (fr_X11_both hrc M) (by decide)) (fun x1 M2 => ?_)
  exact fr_X11_either_L5 hrc FU _ _
theorem fr_X11_one_b229 {rc : Mem → Option (Int32 × Mem)} (hrc : ∀  (M : Mem), Fr Prod.snd [(47, 16), (47, 18), (47, 19)] M (rc M)) (v3 : Int32) (v4 : Int32) (M : Mem) : Fr Prod.snd [(47, 16), (47, 18), (47, 19)] M (f_X11_one_b229 rc v3 v4 M) := by
  unfold f_X11_one_b229
  refine fr_ite ?_ ?_
  · refine fr_bI (fr_mono (fr_X11_faulty M) (by decide)) (fun x1 M2 => ?_)
    exact fr_some rfl
  · exact fr_some rfl
theorem fr_X11_one_L176 {rc : Mem → Option (Int32 × Mem)} (hrc : ∀  (M : Mem), Fr Prod.snd [(47, 16), (47, 18), (47, 19)] M (rc M)) : ∀ (n : Nat) (v3 : Int32) (v4 : Int32) (M : Mem), Fr Prod.snd [(47, 16), (47, 18), (47, 19)] M (f_X11_one_L176 rc n v3 v4 M) := by
  intro n
  induction n with
  | zero => intro _ _ _; exact fr_none
  | succ n ih =>
    intro v3 v4 M
    rw [f_X11_one_L176]
    refine fr_ite ?_ ?_
    · exact fr_X11_one_b229 hrc _ _ _
    · refine fr_bR (fun x1 => ?_)
      refine fr_ite ?_ ?_
      · exact fr_X11_one_b229 hrc _ _ _
      · refine fr_bR (fun x3 => ?_)
        refine fr_ite ?_ ?_
        · exact fr_X11_one_b229 hrc _ _ _
        · refine fr_bR (fun x5 => ?_)
          refine fr_ltv (fun x7 => ?_)
          refine fr_ltw (fr_wIf (by decide)) (fun M8 => ?_)
          exact ih _ _ _
theorem fr_X11_one_b104 {rc : Mem → Option (Int32 × Mem)} (hrc : ∀  (M : Mem), Fr Prod.snd [(47, 16), (47, 18), (47, 19)] M (rc M)) (v1 : Int32) (v2 : Int32) (M : Mem) : Fr Prod.snd [(47, 16), (47, 18), (47, 19)] M (f_X11_one_b104 rc v1 v2 M) := by
  unfold f_X11_one_b104
  refine fr_ltw (fr_wIf (by decide)) (fun M1 => ?_)
  refine fr_ite ?_ ?_
  · exact fr_some rfl
  · refine fr_ite ?_ ?_
    · exact fr_some rfl
    · refine fr_ite ?_ ?_
      · exact fr_some rfl
      · exact fr_some rfl
theorem fr_X11_one_b83 {rc : Mem → Option (Int32 × Mem)} (hrc : ∀  (M : Mem), Fr Prod.snd [(47, 16), (47, 18), (47, 19)] M (rc M)) (v1 : Int32) (s0 : Int32) (M : Mem) : Fr Prod.snd [(47, 16), (47, 18), (47, 19)] M (f_X11_one_b83 rc v1 s0 M) := by
  unfold f_X11_one_b83
  refine fr_ite ?_ ?_
  · refine fr_bI (fr_mono (fr_X11_takes (41 : Int32) M) (by decide)) (fun x1 M2 => ?_)
    refine fr_ite ?_ ?_
    · refine fr_bI (fr_mono (fr_X11_faulty M2) (by decide)) (fun x3 M4 => ?_)
      exact fr_some rfl
    · exact fr_X11_one_b104 hrc _ _ _
  · exact fr_X11_one_b104 hrc _ _ _
theorem fr_X11_one_b32 {rc : Mem → Option (Int32 × Mem)} (hrc : ∀  (M : Mem), Fr Prod.snd [(47, 16), (47, 18), (47, 19)] M (rc M)) (v1 : Int32) (M : Mem) : Fr Prod.snd [(47, 16), (47, 18), (47, 19)] M (f_X11_one_b32 rc v1 M) := by
  unfold f_X11_one_b32
  refine fr_ite ?_ ?_
  · refine fr_bI (fr_mono (fr_X11_faulty M) (by decide)) (fun x7 M8 => ?_)
    exact fr_some rfl
  · refine fr_ltw (fr_wIf (by decide)) (fun M1 => ?_)
    refine fr_ltw (fr_wIf (by decide)) (fun M2 => ?_)
    refine fr_ite ?_ ?_
    · refine fr_bI (fr_mono (fr_X11_either hrc M2) (by decide)) (fun x5 M6 => ?_)
      exact fr_X11_one_b83 hrc _ _ _
    · refine fr_bI (fr_mono (hrc M2) (by decide)) (fun x3 M4 => ?_)
      exact fr_X11_one_b83 hrc _ _ _
theorem fr_X11_one_o {rc : Mem → Option (Int32 × Mem)} (hrc : ∀  (M : Mem), Fr Prod.snd [(47, 16), (47, 18), (47, 19)] M (rc M)) (M : Mem) : Fr Prod.snd [(47, 16), (47, 18), (47, 19)] M (f_X11_one_o rc M) := by
  unfold f_X11_one_o
  refine fr_ite ?_ ?_
  · refine fr_bR (fun x1 => ?_)
    refine fr_ite ?_ ?_
    · exact fr_X11_one_b32 hrc _ _
    · refine fr_ite ?_ ?_
      · exact fr_X11_one_b32 hrc _ _
      · refine fr_ite ?_ ?_
        · exact fr_X11_one_b32 hrc _ _
        · refine fr_bR (fun x3 => ?_)
          refine fr_ite ?_ ?_
          · exact fr_X11_one_L176 hrc FU _ _ _
          · refine fr_ltw (fr_wIf (by decide)) (fun M5 => ?_)
            refine fr_ck ?_
            exact fr_some rfl
  · exact fr_some rfl
theorem fr_X11_one : ∀ (d : Nat) (M : Mem), Fr Prod.snd [(47, 16), (47, 18), (47, 19)] M (f_X11_one d M)
  | 0, _ => fr_none
  | d + 1, M => fr_X11_one_o (rc := f_X11_one d) (fun  M => fr_X11_one d M) M
theorem fr_X11_workOut_b96 {k33 : Int32 → Int32 → Int32 → Mem → Option (Int32 × Mem)} (hk33 : ∀ (v3 : Int32) (v4 : Int32) (v5 : Int32) (M : Mem), Fr Prod.snd [(47, 15), (47, 16), (47, 17), (47, 18), (47, 19)] M (k33 v3 v4 v5 M)) (v3 : Int32) (v4 : Int32) (M : Mem) : Fr Prod.snd [(47, 15), (47, 16), (47, 17), (47, 18), (47, 19)] M (f_X11_workOut_b96 k33 v3 v4 M) := by
  unfold f_X11_workOut_b96
  refine fr_bI (fr_mono (fr_X11_takes (59 : Int32) M) (by decide)) (fun x1 M2 => ?_)
  exact hk33 _ _ _ _
theorem fr_X11_workOut_b74 {k33 : Int32 → Int32 → Int32 → Mem → Option (Int32 × Mem)} (hk33 : ∀ (v3 : Int32) (v4 : Int32) (v5 : Int32) (M : Mem), Fr Prod.snd [(47, 15), (47, 16), (47, 17), (47, 18), (47, 19)] M (k33 v3 v4 v5 M)) (v3 : Int32) (v4 : Int32) (v6 : Int32) (v7 : Int32) (M : Mem) : Fr Prod.snd [(47, 15), (47, 16), (47, 17), (47, 18), (47, 19)] M (f_X11_workOut_b74 k33 v3 v4 v6 v7 M) := by
  unfold f_X11_workOut_b74
  refine fr_ite ?_ ?_
  · exact fr_X11_workOut_b96 hk33 _ _ _
  · refine fr_ite ?_ ?_
    · exact fr_X11_workOut_b96 hk33 _ _ _
    · refine fr_ite ?_ ?_
      · exact fr_X11_workOut_b96 hk33 _ _ _
      · exact fr_X11_workOut_b96 hk33 _ _ _
theorem fr_X11_workOut_b66 {k33 : Int32 → Int32 → Int32 → Mem → Option (Int32 × Mem)} (hk33 : ∀ (v3 : Int32) (v4 : Int32) (v5 : Int32) (M : Mem), Fr Prod.snd [(47, 15), (47, 16), (47, 17), (47, 18), (47, 19)] M (k33 v3 v4 v5 M)) (v3 : Int32) (v4 : Int32) (s0 : Int32) (M : Mem) : Fr Prod.snd [(47, 15), (47, 16), (47, 17), (47, 18), (47, 19)] M (f_X11_workOut_b66 k33 v3 v4 s0 M) := by
  unfold f_X11_workOut_b66
  refine fr_bI (fr_mono (fr_X11_either (fr_X11_one FD) M) (by decide)) (fun x1 M2 => ?_)
  exact fr_X11_workOut_b74 hk33 _ _ _ _ _
theorem fr_X11_workOut_L33 : ∀ (n : Nat) (v3 : Int32) (v4 : Int32) (v5 : Int32) (M : Mem), Fr Prod.snd [(47, 15), (47, 16), (47, 17), (47, 18), (47, 19)] M (f_X11_workOut_L33 n v3 v4 v5 M) := by
  intro n
  induction n with
  | zero => intro _ _ _ _; exact fr_none
  | succ n ih =>
    intro v3 v4 v5 M
    rw [f_X11_workOut_L33]
    refine fr_ite ?_ ?_
    · refine fr_ite ?_ ?_
      · exact fr_some rfl
      · refine fr_ite ?_ ?_
        · exact fr_some rfl
        · refine fr_bI (fr_mono (fr_X11_faulty M) (by decide)) (fun x1 M2 => ?_)
          exact fr_some rfl
    · refine fr_bI (fr_mono (fr_X11_either (fr_X11_one FD) M) (by decide)) (fun x3 M4 => ?_)
      refine fr_bI (fr_mono (fr_X11_takes (63 : Int32) M4) (by decide)) (fun x5 M6 => ?_)
      refine fr_ite ?_ ?_
      · exact fr_X11_workOut_b74 ih _ _ _ _ _
      · refine fr_ite ?_ ?_
        · exact fr_X11_workOut_b66 ih _ _ _ _
        · exact fr_X11_workOut_b66 ih _ _ _ _
