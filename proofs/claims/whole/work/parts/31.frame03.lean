theorem fr_X11_lots_b198 {k69 : Int32 → Int32 → Int32 → Int32 → Int32 → Int32 → Int32 → Int32 → Mem → Option (Int32 × Mem)} (hk69 : ∀ (v2 : Int32) (v3 : Int32) (v4 : Int32) (v5 : Int32) (v6 : Int32) (v7 : Int32) (v8 : Int32) (v9 : Int32) (M : Mem), Fr Prod.snd [(47, 15), (47, 16), (47, 17), (47, 18), (47, 19), (56, 0), (66, 0)] M (k69 v2 v3 v4 v5 v6 v7 v8 v9 M)) (v2 : Int32) (v3 : Int32) (v4 : Int32) (v5 : Int32) (v6 : Int32) (v7 : Int32) (v8 : Int32) (v9 : Int32) (s0 : Int32) (s1 : Int32) (M : Mem) : Fr Prod.snd [(47, 15), (47, 16), (47, 17), (47, 18), (47, 19), (56, 0), (66, 0)] M (f_X11_lots_b198 k69 v2 v3 v4 v5 v6 v7 v8 v9 s0 s1 M) := by
  unfold f_X11_lots_b198
  refine fr_ck (fr_ltw (fr_wIa (by decide)) (fun M1 => ?_))
  exact hk69 _ _ _ _ _ _ _ _ _
theorem fr_X11_lots_b124 {k69 : Int32 → Int32 → Int32 → Int32 → Int32 → Int32 → Int32 → Int32 → Mem → Option (Int32 × Mem)} (hk69 : ∀ (v2 : Int32) (v3 : Int32) (v4 : Int32) (v5 : Int32) (v6 : Int32) (v7 : Int32) (v8 : Int32) (v9 : Int32) (M : Mem), Fr Prod.snd [(47, 15), (47, 16), (47, 17), (47, 18), (47, 19), (56, 0), (66, 0)] M (k69 v2 v3 v4 v5 v6 v7 v8 v9 M)) (v2 : Int32) (v3 : Int32) (v4 : Int32) (v5 : Int32) (v6 : Int32) (v7 : Int32) (v8 : Int32) (v9 : Int32) (s0 : Int32) (M : Mem) : Fr Prod.snd [(47, 15), (47, 16), (47, 17), (47, 18), (47, 19), (56, 0), (66, 0)] M (f_X11_lots_b124 k69 v2 v3 v4 v5 v6 v7 v8 v9 s0 M) := by
  unfold f_X11_lots_b124
  refine fr_ck ?_
  refine fr_ck ?_
  refine fr_ltv (fun x1 => ?_)
  refine fr_ltv (fun x2 => ?_)
  refine fr_bI (fr_mono (fr_X11_chanceOf FD s0 x1 v7 M) (by decide)) (fun x3 M4 => ?_)
  refine fr_ite ?_ ?_
  · exact fr_X11_lots_b198 hk69 _ _ _ _ _ _ _ _ _ _ _
  · exact fr_X11_lots_b198 hk69 _ _ _ _ _ _ _ _ _ _ _
theorem fr_X11_lots_L69 {k60 : Int32 → Int32 → Int32 → Int32 → Int32 → Int32 → Int32 → Mem → Option (Int32 × Mem)} (hk60 : ∀ (v2 : Int32) (v3 : Int32) (v4 : Int32) (v5 : Int32) (v6 : Int32) (v7 : Int32) (v8 : Int32) (M : Mem), Fr Prod.snd [(47, 15), (47, 16), (47, 17), (47, 18), (47, 19), (56, 0), (66, 0)] M (k60 v2 v3 v4 v5 v6 v7 v8 M)) : ∀ (n : Nat) (v2 : Int32) (v3 : Int32) (v4 : Int32) (v5 : Int32) (v6 : Int32) (v7 : Int32) (v8 : Int32) (v9 : Int32) (M : Mem), Fr Prod.snd [(47, 15), (47, 16), (47, 17), (47, 18), (47, 19), (56, 0), (66, 0)] M (f_X11_lots_L69 k60 n v2 v3 v4 v5 v6 v7 v8 v9 M) := by
  intro n
  induction n with
  | zero => intro _ _ _ _ _ _ _ _ _; exact fr_none
  | succ n ih =>
    intro v2 v3 v4 v5 v6 v7 v8 v9 M
    rw [f_X11_lots_L69]
    refine fr_ite ?_ ?_
    · refine fr_ltv (fun x1 => ?_)
      exact hk60 _ _ _ _ _ _ _ _
    · refine fr_ck ?_
      refine fr_ck ?_
      refine fr_ite ?_ ?_
      · refine fr_ck ?_
        exact fr_X11_lots_b124 ih _ _ _ _ _ _ _ _ _ _
      · refine fr_ck ?_
        exact fr_X11_lots_b124 ih _ _ _ _ _ _ _ _ _ _
theorem fr_X11_lots_L60 {k41 : Int32 → Int32 → Int32 → Int32 → Int32 → Mem → Option (Int32 × Mem)} (hk41 : ∀ (v2 : Int32) (v3 : Int32) (v4 : Int32) (v5 : Int32) (v6 : Int32) (M : Mem), Fr Prod.snd [(47, 15), (47, 16), (47, 17), (47, 18), (47, 19), (56, 0), (66, 0)] M (k41 v2 v3 v4 v5 v6 M)) : ∀ (n : Nat) (v2 : Int32) (v3 : Int32) (v4 : Int32) (v5 : Int32) (v6 : Int32) (v7 : Int32) (v8 : Int32) (M : Mem), Fr Prod.snd [(47, 15), (47, 16), (47, 17), (47, 18), (47, 19), (56, 0), (66, 0)] M (f_X11_lots_L60 k41 n v2 v3 v4 v5 v6 v7 v8 M) := by
  intro n
  induction n with
  | zero => intro _ _ _ _ _ _ _ _; exact fr_none
  | succ n ih =>
    intro v2 v3 v4 v5 v6 v7 v8 M
    rw [f_X11_lots_L60]
    refine fr_ite ?_ ?_
    · refine fr_ck ?_
      refine fr_ite ?_ ?_
      · exact fr_X11_lots_b234 hk41 _ _ _ _ _ _ _
      · exact fr_X11_lots_b234 hk41 _ _ _ _ _ _ _
    · exact fr_X11_lots_L69 ih FU _ _ _ _ _ _ _ _ _
theorem fr_X11_lots_L41 : ∀ (n : Nat) (v2 : Int32) (v3 : Int32) (v4 : Int32) (v5 : Int32) (v6 : Int32) (M : Mem), Fr Prod.snd [(47, 15), (47, 16), (47, 17), (47, 18), (47, 19), (56, 0), (66, 0)] M (f_X11_lots_L41 n v2 v3 v4 v5 v6 M) := by
  intro n
  induction n with
  | zero => intro _ _ _ _ _ _; exact fr_none
  | succ n ih =>
    intro v2 v3 v4 v5 v6 M
    rw [f_X11_lots_L41]
    refine fr_ite ?_ ?_
    · exact fr_some rfl
    · refine fr_bV (fr_mono (fr_X11_linesUp M) (by decide)) (fun M2 => ?_)
      refine fr_ltv (fun x3 => ?_)
      exact fr_X11_lots_L60 ih FU _ _ _ _ _ _ _ _
theorem fr_X11_lots (v1 : Int32) (v2 : Int32) (v3 : Int32) (M : Mem) : Fr Prod.snd [(47, 15), (47, 16), (47, 17), (47, 18), (47, 19), (56, 0), (66, 0)] M (f_X11_lots v1 v2 v3 M) := by
  unfold f_X11_lots
  refine fr_bR (fun x1 => ?_)
  refine fr_ite ?_ ?_
  · exact fr_some rfl
  · refine fr_bR (fun x3 => ?_)
    refine fr_ite ?_ ?_
    · refine fr_bR (fun x5 => ?_)
      refine fr_ite ?_ ?_
      · exact fr_some rfl
      · exact fr_X11_lots_L41 FU _ _ _ _ _ _
    · exact fr_some rfl
theorem fr_X3_bestByWorth_b94 {k24 : Int32 → Int32 → Mem → Option (Int32 × Mem)} (hk24 : ∀ (v2 : Int32) (v3 : Int32) (M : Mem), Fr Prod.snd [(30, 0), (31, 0)] M (k24 v2 v3 M)) (v2 : Int32) (v3 : Int32) (v4 : Int32) (s0 : Int32) (M : Mem) : Fr Prod.snd [(30, 0), (31, 0)] M (f_X3_bestByWorth_b94 k24 v2 v3 v4 s0 M) := by
  unfold f_X3_bestByWorth_b94
  refine fr_ck (fr_ltw (fr_wIa (by decide)) (fun M1 => ?_))
  refine fr_ck (fr_ltw (fr_wIa (by decide)) (fun M2 => ?_))
  exact hk24 _ _ _
theorem fr_X3_bestByWorth_L24 {k14 : Int32 → Mem → Option (Int32 × Mem)} (hk14 : ∀ (v2 : Int32) (M : Mem), Fr Prod.snd [(30, 0), (31, 0)] M (k14 v2 M)) : ∀ (n : Nat) (v2 : Int32) (v3 : Int32) (M : Mem), Fr Prod.snd [(30, 0), (31, 0)] M (f_X3_bestByWorth_L24 k14 n v2 v3 M) := by
  intro n
  induction n with
  | zero => intro _ _ _; exact fr_none
  | succ n ih =>
    intro v2 v3 M
    rw [f_X3_bestByWorth_L24]
    refine fr_ite ?_ ?_
    · exact hk14 _ _
    · refine fr_ck ?_
      refine fr_ck ?_
      refine fr_bR (fun x1 => ?_)
      refine fr_ck ?_
      refine fr_ite ?_ ?_
      · refine fr_ck ?_
        exact fr_X3_bestByWorth_b94 ih _ _ _ _ _
      · refine fr_ck ?_
        exact fr_X3_bestByWorth_b94 ih _ _ _ _ _
theorem fr_X3_bestByWorth_L14 : ∀ (n : Nat) (v2 : Int32) (M : Mem), Fr Prod.snd [(30, 0), (31, 0)] M (f_X3_bestByWorth_L14 n v2 M) := by
  intro n
  induction n with
  | zero => intro _ _; exact fr_none
  | succ n ih =>
    intro v2 M
    rw [f_X3_bestByWorth_L14]
    refine fr_bR (fun x1 => ?_)
    refine fr_ite ?_ ?_
    · refine fr_ck ?_
      exact fr_some rfl
    · exact fr_X3_bestByWorth_L24 ih FU _ _ _
theorem fr_X3_bestByWorth (M : Mem) : Fr Prod.snd [(30, 0), (31, 0)] M (f_X3_bestByWorth M) := by
  unfold f_X3_bestByWorth
  refine fr_bV (fr_mono (fr_X3_sitDown M) (by decide)) (fun M2 => ?_)
  refine fr_bV (fr_mono (fr_J7_fill_53178 31 (-1 : Int32) M2) (by decide)) (fun M4 => ?_)
  exact fr_X3_bestByWorth_L14 FU _ _
theorem fr_X10_champion (v1 : Int32) (M : Mem) : Fr Prod.snd [(30, 0), (31, 0)] M (f_X10_champion v1 M) := by
  unfold f_X10_champion
  refine fr_ite ?_ ?_
  · exact fr_some rfl
  · refine fr_ite ?_ ?_
    · refine fr_bR (fun x1 => ?_)
      refine fr_ite ?_ ?_
      · exact fr_some rfl
      · refine fr_bI (fr_mono (fr_X3_bestByWorth M) (by decide)) (fun x3 M4 => ?_)
        refine fr_ite ?_ ?_
        · exact fr_some rfl
        · refine fr_bR (fun x5 => ?_)
          exact fr_some rfl
    · exact fr_some rfl
theorem fr_X11_champion_b214 {k97 : Int32 → Int32 → Int32 → Int32 → Mem → Option (Int32 × Mem)} (hk97 : ∀ (v2 : Int32) (v3 : Int32) (v4 : Int32) (v5 : Int32) (M : Mem), Fr Prod.snd [(66, 0)] M (k97 v2 v3 v4 v5 M)) (v2 : Int32) (v3 : Int32) (v4 : Int32) (v5 : Int32) (s0 : Int32) (s1 : Int32) (M : Mem) : Fr Prod.snd [(66, 0)] M (f_X11_champion_b214 k97 v2 v3 v4 v5 s0 s1 M) := by
  unfold f_X11_champion_b214
  refine fr_ck (fr_ltw (fr_wIa (by decide)) (fun M1 => ?_))
  exact hk97 _ _ _ _ _
theorem fr_X11_champion_b189 {k97 : Int32 → Int32 → Int32 → Int32 → Mem → Option (Int32 × Mem)} (hk97 : ∀ (v2 : Int32) (v3 : Int32) (v4 : Int32) (v5 : Int32) (M : Mem), Fr Prod.snd [(66, 0)] M (k97 v2 v3 v4 v5 M)) (v2 : Int32) (v4 : Int32) (v5 : Int32) (v6 : Int32) (v7 : Int32) (s0 : Int32) (M : Mem) : Fr Prod.snd [(66, 0)] M (f_X11_champion_b189 k97 v2 v4 v5 v6 v7 s0 M) := by
  unfold f_X11_champion_b189
  refine fr_bR (fun x1 => ?_)
  refine fr_ite ?_ ?_
  · exact fr_X11_champion_b214 hk97 _ _ _ _ _ _ _
  · exact fr_X11_champion_b214 hk97 _ _ _ _ _ _ _
theorem fr_X11_champion_b188 {k97 : Int32 → Int32 → Int32 → Int32 → Mem → Option (Int32 × Mem)} (hk97 : ∀ (v2 : Int32) (v3 : Int32) (v4 : Int32) (v5 : Int32) (M : Mem), Fr Prod.snd [(66, 0)] M (k97 v2 v3 v4 v5 M)) (v2 : Int32) (v3 : Int32) (v4 : Int32) (v5 : Int32) (v6 : Int32) (v7 : Int32) (M : Mem) : Fr Prod.snd [(66, 0)] M (f_X11_champion_b188 k97 v2 v3 v4 v5 v6 v7 M) := by
  unfold f_X11_champion_b188
  exact fr_X11_champion_b189 hk97 _ _ _ _ _ _ _
theorem fr_X11_champion_b183 {k97 : Int32 → Int32 → Int32 → Int32 → Mem → Option (Int32 × Mem)} (hk97 : ∀ (v2 : Int32) (v3 : Int32) (v4 : Int32) (v5 : Int32) (M : Mem), Fr Prod.snd [(66, 0)] M (k97 v2 v3 v4 v5 M)) (v2 : Int32) (v4 : Int32) (v5 : Int32) (v6 : Int32) (v7 : Int32) (v8 : Int32) (M : Mem) : Fr Prod.snd [(66, 0)] M (f_X11_champion_b183 k97 v2 v4 v5 v6 v7 v8 M) := by
  unfold f_X11_champion_b183
  exact fr_X11_champion_b189 hk97 _ _ _ _ _ _ _
theorem fr_X11_champion_b162 {k97 : Int32 → Int32 → Int32 → Int32 → Mem → Option (Int32 × Mem)} (hk97 : ∀ (v2 : Int32) (v3 : Int32) (v4 : Int32) (v5 : Int32) (M : Mem), Fr Prod.snd [(66, 0)] M (k97 v2 v3 v4 v5 M)) (v2 : Int32) (v3 : Int32) (v4 : Int32) (v5 : Int32) (v6 : Int32) (v7 : Int32) (v8 : Int32) (s0 : Int32) (M : Mem) : Fr Prod.snd [(66, 0)] M (f_X11_champion_b162 k97 v2 v3 v4 v5 v6 v7 v8 s0 M) := by
  unfold f_X11_champion_b162
  refine fr_ite ?_ ?_
  · exact fr_X11_champion_b188 hk97 _ _ _ _ _ _ _
  · refine fr_ite ?_ ?_
    · exact fr_X11_champion_b183 hk97 _ _ _ _ _ _ _
    · refine fr_bR (fun x1 => ?_)
      refine fr_ite ?_ ?_
      · exact fr_X11_champion_b188 hk97 _ _ _ _ _ _ _
      · exact fr_X11_champion_b183 hk97 _ _ _ _ _ _ _
theorem fr_X11_champion_b157 {k97 : Int32 → Int32 → Int32 → Int32 → Mem → Option (Int32 × Mem)} (hk97 : ∀ (v2 : Int32) (v3 : Int32) (v4 : Int32) (v5 : Int32) (M : Mem), Fr Prod.snd [(66, 0)] M (k97 v2 v3 v4 v5 M)) (v2 : Int32) (v3 : Int32) (v4 : Int32) (v5 : Int32) (v6 : Int32) (v7 : Int32) (v8 : Int32) (M : Mem) : Fr Prod.snd [(66, 0)] M (f_X11_champion_b157 k97 v2 v3 v4 v5 v6 v7 v8 M) := by
  unfold f_X11_champion_b157
  exact fr_X11_champion_b162 hk97 _ _ _ _ _ _ _ _ _
theorem fr_X11_champion_b143 {k97 : Int32 → Int32 → Int32 → Int32 → Mem → Option (Int32 × Mem)} (hk97 : ∀ (v2 : Int32) (v3 : Int32) (v4 : Int32) (v5 : Int32) (M : Mem), Fr Prod.snd [(66, 0)] M (k97 v2 v3 v4 v5 M)) (v2 : Int32) (v3 : Int32) (v4 : Int32) (v5 : Int32) (v6 : Int32) (v7 : Int32) (s0 : Int32) (M : Mem) : Fr Prod.snd [(66, 0)] M (f_X11_champion_b143 k97 v2 v3 v4 v5 v6 v7 s0 M) := by
  unfold f_X11_champion_b143
  refine fr_ite ?_ ?_
  · exact fr_X11_champion_b157 hk97 _ _ _ _ _ _ _ _
  · refine fr_ite ?_ ?_
    · exact fr_X11_champion_b157 hk97 _ _ _ _ _ _ _ _
    · exact fr_X11_champion_b162 hk97 _ _ _ _ _ _ _ _ _
theorem fr_X11_champion_L97 {k88 : Int32 → Int32 → Int32 → Mem → Option (Int32 × Mem)} (hk88 : ∀ (v2 : Int32) (v3 : Int32) (v4 : Int32) (M : Mem), Fr Prod.snd [(66, 0)] M (k88 v2 v3 v4 M)) : ∀ (n : Nat) (v2 : Int32) (v3 : Int32) (v4 : Int32) (v5 : Int32) (M : Mem), Fr Prod.snd [(66, 0)] M (f_X11_champion_L97 k88 n v2 v3 v4 v5 M) := by
  intro n
  induction n with
  | zero => intro _ _ _ _ _; exact fr_none
  | succ n ih =>
    intro v2 v3 v4 v5 M
    rw [f_X11_champion_L97]
    refine fr_ite ?_ ?_
    · refine fr_ltv (fun x1 => ?_)
      exact hk88 _ _ _ _
    · refine fr_ck ?_
      refine fr_ltv (fun x2 => ?_)
      refine fr_ck ?_
      refine fr_ltv (fun x3 => ?_)
      refine fr_ite ?_ ?_
      · exact fr_X11_champion_b143 ih _ _ _ _ _ _ _ _
      · exact fr_X11_champion_b143 ih _ _ _ _ _ _ _ _
theorem fr_X11_champion_L88 : ∀ (n : Nat) (v2 : Int32) (v3 : Int32) (v4 : Int32) (M : Mem), Fr Prod.snd [(66, 0)] M (f_X11_champion_L88 n v2 v3 v4 M) := by
  intro n
  induction n with
  | zero => intro _ _ _ _; exact fr_none
  | succ n ih =>
    intro v2 v3 v4 M
    rw [f_X11_champion_L88]
    refine fr_ite ?_ ?_
    · exact fr_some rfl
    · exact fr_X11_champion_L97 ih FU _ _ _ _ _
theorem fr_X11_champion_b63 {k31 : Int32 → Int32 → Int32 → Mem → Option (Int32 × Mem)} (hk31 : ∀ (v1 : Int32) (v2 : Int32) (v3 : Int32) (M : Mem), Fr Prod.snd [(66, 0)] M (k31 v1 v2 v3 M)) (v1 : Int32) (v3 : Int32) (s0 : Int32) (M : Mem) : Fr Prod.snd [(66, 0)] M (f_X11_champion_b63 k31 v1 v3 s0 M) := by
  unfold f_X11_champion_b63
  exact hk31 _ _ _ _
theorem fr_X11_champion_L31 : ∀ (n : Nat) (v1 : Int32) (v2 : Int32) (v3 : Int32) (M : Mem), Fr Prod.snd [(66, 0)] M (f_X11_champion_L31 n v1 v2 v3 M) := by
  intro n
  induction n with
  | zero => intro _ _ _ _; exact fr_none
  | succ n ih =>
    intro v1 v2 v3 M
    rw [f_X11_champion_L31]
    refine fr_ite ?_ ?_
    · refine fr_ite ?_ ?_
      · exact fr_some rfl
      · refine fr_bV (fr_mono (fr_X11_linesUp M) (by decide)) (fun M2 => ?_)
        refine fr_ltv (fun x3 => ?_)
        exact fr_X11_champion_L88 FU _ _ _ _
    · refine fr_ck ?_
      refine fr_bR (fun x4 => ?_)
      refine fr_ite ?_ ?_
      · exact fr_X11_champion_b63 ih _ _ _ _
      · refine fr_ck ?_
        exact fr_X11_champion_b63 ih _ _ _ _
theorem fr_X11_champion (v1 : Int32) (M : Mem) : Fr Prod.snd [(66, 0)] M (f_X11_champion v1 M) := by
  unfold f_X11_champion
  refine fr_bR (fun x1 => ?_)
  refine fr_ite ?_ ?_
  · exact fr_some rfl
  · refine fr_bR (fun x3 => ?_)
    refine fr_ite ?_ ?_
    · exact fr_some rfl
    · refine fr_ck ?_
      refine fr_ltv (fun x5 => ?_)
      exact fr_X11_champion_L31 FU _ _ _ _
theorem fr_X6_read_L10 : ∀ (n : Nat) (v2 : Int32) (M : Mem), Fr id [(34, 3), (35, 0), (36, 0)] M (f_X6_read_L10 n v2 M) := by
  intro n
  induction n with
  | zero => intro _ _; exact fr_none
  | succ n ih =>
    intro v2 M
    rw [f_X6_read_L10]
    refine fr_ite ?_ ?_
    · exact fr_some rfl
    · refine fr_bR (fun x1 => ?_)
      refine fr_ck (fr_ltw (fr_wIa (by decide)) (fun M3 => ?_))
      refine fr_bR (fun x4 => ?_)
      refine fr_ck (fr_ltw (fr_wIa (by decide)) (fun M6 => ?_))
      exact ih _ _
theorem fr_X6_read (M : Mem) : Fr id [(34, 3), (35, 0), (36, 0)] M (f_X6_read M) := by
  unfold f_X6_read
  refine fr_ltw (fr_wIf (by decide)) (fun M1 => ?_)
  exact fr_X6_read_L10 FU _ _
theorem fr_X10_table_b40 (v1 : Int32) (v2 : Int32) (M : Mem) : Fr Prod.snd [(34, 3), (35, 0), (36, 0)] M (f_X10_table_b40 v1 v2 M) := by
  unfold f_X10_table_b40
  refine fr_ite ?_ ?_
  · exact fr_some rfl
  · refine fr_bV (fr_mono (fr_X6_read M) (by decide)) (fun M2 => ?_)
    refine fr_ite ?_ ?_
    · refine fr_bR (fun x5 => ?_)
      exact fr_some rfl
    · refine fr_bR (fun x3 => ?_)
      refine fr_ite ?_ ?_
      · exact fr_some rfl
      · refine fr_ck ?_
        exact fr_some rfl
theorem fr_X10_table (v1 : Int32) (v2 : Int32) (M : Mem) : Fr Prod.snd [(34, 3), (35, 0), (36, 0)] M (f_X10_table v1 v2 M) := by
  unfold f_X10_table
  refine fr_ite ?_ ?_
  · exact fr_some rfl
  · refine fr_ite ?_ ?_
    · exact fr_some rfl
    · refine fr_ite ?_ ?_
      · refine fr_ite ?_ ?_
        · refine fr_ite ?_ ?_
          · exact fr_X10_table_b40 _ _ _
          · exact fr_some rfl
        · refine fr_ite ?_ ?_
          · exact fr_X10_table_b40 _ _ _
          · exact fr_some rfl
      · exact fr_some rfl
theorem fr_X6_plan_b123 {k21 : Int32 → Int32 → Int32 → Mem → Option (Int32 × Mem)} (hk21 : ∀ (v2 : Int32) (v3 : Int32) (v4 : Int32) (M : Mem), Fr Prod.snd [(37, 0), (38, 0), (39, 0)] M (k21 v2 v3 v4 M)) (v2 : Int32) (v3 : Int32) (v4 : Int32) (M : Mem) : Fr Prod.snd [(37, 0), (38, 0), (39, 0)] M (f_X6_plan_b123 k21 v2 v3 v4 M) := by
  unfold f_X6_plan_b123
  exact hk21 _ _ _ _
theorem fr_X6_plan_L21 : ∀ (n : Nat) (v2 : Int32) (v3 : Int32) (v4 : Int32) (M : Mem), Fr Prod.snd [(37, 0), (38, 0), (39, 0)] M (f_X6_plan_L21 n v2 v3 v4 M) := by
  intro n
  induction n with
  | zero => intro _ _ _ _; exact fr_none
  | succ n ih =>
    intro v2 v3 v4 M
    rw [f_X6_plan_L21]
    refine fr_ite ?_ ?_
    · exact fr_some rfl
    · refine fr_ck ?_
      refine fr_ite ?_ ?_
      · refine fr_ck ?_
        refine fr_ck ?_
        refine fr_ltv (fun x1 => ?_)
        refine fr_bR (fun x2 => ?_)
        refine fr_ck (fr_ltw (fr_wIa (by decide)) (fun M4 => ?_))
        refine fr_ck ?_
        refine fr_ck ?_
        refine fr_ck (fr_ltw (fr_wIa (by decide)) (fun M5 => ?_))
        refine fr_ck ?_
        refine fr_ck ?_
        refine fr_ck (fr_ltw (fr_wIa (by decide)) (fun M6 => ?_))
        refine fr_ck ?_
        refine fr_ltv (fun x7 => ?_)
        exact fr_X6_plan_b123 ih _ _ _ _
      · exact fr_X6_plan_b123 ih _ _ _ _
theorem fr_X6_plan (v2 : Int32) (M : Mem) : Fr Prod.snd [(37, 0), (38, 0), (39, 0)] M (f_X6_plan v2 M) := by
  unfold f_X6_plan
  refine fr_bV (fr_mono (fr_J7_fill_53178 38 (0 : Int32) M) (by decide)) (fun M2 => ?_)
  refine fr_bV (fr_mono (fr_J7_fill_53178 39 (0 : Int32) M2) (by decide)) (fun M4 => ?_)
  exact fr_X6_plan_L21 FU _ _ _ _
theorem fr_X10_days_b48 (v1 : Int32) (v2 : Int32) (M : Mem) : Fr Prod.snd [(37, 0), (38, 0), (39, 0)] M (f_X10_days_b48 v1 v2 M) := by
  unfold f_X10_days_b48
  refine fr_bI (fr_mono (fr_X6_plan v1 M) (by decide)) (fun x1 M2 => ?_)
  refine fr_ite ?_ ?_
  · exact fr_some rfl
  · refine fr_ck ?_
    exact fr_some rfl
theorem fr_X10_days_b28 (v1 : Int32) (v2 : Int32) (M : Mem) : Fr Prod.snd [(37, 0), (38, 0), (39, 0)] M (f_X10_days_b28 v1 v2 M) := by
  unfold f_X10_days_b28
  refine fr_ite ?_ ?_
  · exact fr_X10_days_b48 _ _ _
  · refine fr_ck ?_
    refine fr_ite ?_ ?_
    · exact fr_some rfl
    · exact fr_X10_days_b48 _ _ _
theorem fr_X10_days (v1 : Int32) (v2 : Int32) (M : Mem) : Fr Prod.snd [(37, 0), (38, 0), (39, 0)] M (f_X10_days v1 v2 M) := by
  unfold f_X10_days
  refine fr_ite ?_ ?_
  · exact fr_some rfl
  · refine fr_ite ?_ ?_
    · exact fr_some rfl
    · refine fr_ite ?_ ?_
      · exact fr_X10_days_b28 _ _ _
      · refine fr_bR (fun x1 => ?_)
        refine fr_ite ?_ ?_
        · exact fr_some rfl
        · exact fr_X10_days_b28 _ _ _
theorem fr_X11_days_b109 {k32 : Int32 → Int32 → Int32 → Int32 → Mem → Option (Int32 × Mem)} (hk32 : ∀ (v1 : Int32) (v2 : Int32) (v3 : Int32) (v4 : Int32) (M : Mem), Fr Prod.snd [(70, 0)] M (k32 v1 v2 v3 v4 M)) (v1 : Int32) (v2 : Int32) (v3 : Int32) (v4 : Int32) (M : Mem) : Fr Prod.snd [(70, 0)] M (f_X11_days_b109 k32 v1 v2 v3 v4 M) := by
  unfold f_X11_days_b109
  exact hk32 _ _ _ _ _
theorem fr_X11_days_b108 {k32 : Int32 → Int32 → Int32 → Int32 → Mem → Option (Int32 × Mem)} (hk32 : ∀ (v1 : Int32) (v2 : Int32) (v3 : Int32) (v4 : Int32) (M : Mem), Fr Prod.snd [(70, 0)] M (k32 v1 v2 v3 v4 M)) (v1 : Int32) (v2 : Int32) (v4 : Int32) (s0 : Int32) (M : Mem) : Fr Prod.snd [(70, 0)] M (f_X11_days_b108 k32 v1 v2 v4 s0 M) := by
  unfold f_X11_days_b108
  exact fr_X11_days_b109 hk32 _ _ _ _ _
theorem fr_X11_days_L65 {k32 : Int32 → Int32 → Int32 → Int32 → Mem → Option (Int32 × Mem)} (hk32 : ∀ (v1 : Int32) (v2 : Int32) (v3 : Int32) (v4 : Int32) (M : Mem), Fr Prod.snd [(70, 0)] M (k32 v1 v2 v3 v4 M)) : ∀ (n : Nat) (v1 : Int32) (v2 : Int32) (v3 : Int32) (v4 : Int32) (v5 : Int32) (M : Mem), Fr Prod.snd [(70, 0)] M (f_X11_days_L65 k32 n v1 v2 v3 v4 v5 M) := by
  intro n
  induction n with
  | zero => intro _ _ _ _ _ _; exact fr_none
  | succ n ih =>
    intro v1 v2 v3 v4 v5 M
    rw [f_X11_days_L65]
    refine fr_bR (fun x1 => ?_)
    refine fr_ite ?_ ?_
    · exact ih _ _ _ _ _ _
    · refine fr_ck (fr_ltw (fr_wIa (by decide)) (fun M3 => ?_))
      refine fr_ite ?_ ?_
      · exact fr_X11_days_b108 hk32 _ _ _ _ _
      · exact fr_X11_days_b108 hk32 _ _ _ _ _
theorem fr_X11_days_L32 : ∀ (n : Nat) (v1 : Int32) (v2 : Int32) (v3 : Int32) (v4 : Int32) (M : Mem), Fr Prod.snd [(70, 0)] M (f_X11_days_L32 n v1 v2 v3 v4 M) := by
  intro n
  induction n with
  | zero => intro _ _ _ _ _; exact fr_none
  | succ n ih =>
    intro v1 v2 v3 v4 M
    rw [f_X11_days_L32]
    refine fr_ite ?_ ?_
    · refine fr_ite ?_ ?_
      · exact fr_some rfl
      · refine fr_ck ?_
        exact fr_some rfl
    · refine fr_ck (fr_ltw (fr_wIa (by decide)) (fun M1 => ?_))
      refine fr_bR (fun x2 => ?_)
      refine fr_ite ?_ ?_
      · exact fr_X11_days_b109 ih _ _ _ _ _
      · exact fr_X11_days_L65 ih FU _ _ _ _ _ _
theorem fr_X11_days_b27 (v1 : Int32) (v2 : Int32) (M : Mem) : Fr Prod.snd [(70, 0)] M (f_X11_days_b27 v1 v2 M) := by
  unfold f_X11_days_b27
  exact fr_X11_days_L32 FU _ _ _ _ _
theorem fr_X11_days (v1 : Int32) (v2 : Int32) (M : Mem) : Fr Prod.snd [(70, 0)] M (f_X11_days v1 v2 M) := by
  unfold f_X11_days
  refine fr_bR (fun x1 => ?_)
  refine fr_ite ?_ ?_
  · exact fr_some rfl
  · refine fr_ite ?_ ?_
    · exact fr_X11_days_b27 _ _ _
    · refine fr_bR (fun x3 => ?_)
      refine fr_ite ?_ ?_
      · exact fr_some rfl
      · exact fr_X11_days_b27 _ _ _
theorem fr_X2_goBack (M : Mem) : Fr Prod.snd [(2, 0), (5, 0), (6, 1)] M (f_X2_goBack M) := by
  unfold f_X2_goBack
  refine fr_ite ?_ ?_
  · exact fr_some rfl
  · refine fr_ltw (fr_wIf (by decide)) (fun M1 => ?_)
    refine fr_ck ?_
    refine fr_ck ?_
    refine fr_ck ?_
    refine fr_bV (fr_mono (fr_X4_become (M1.1 7 (M1.1 6 0).toNatClampNeg) (M1.1 8 (M1.1 6 0).toNatClampNeg) (M1.1 9 (M1.1 6 0).toNatClampNeg) M1) (by decide)) (fun M3 => ?_)
    exact fr_some rfl
theorem fr_X10_undo (M : Mem) : Fr Prod.snd [(2, 0), (5, 0), (6, 1)] M (f_X10_undo M) := by
  unfold f_X10_undo
  refine fr_bI (fr_mono (fr_X2_goBack M) (by decide)) (fun x1 M2 => ?_)
  exact fr_some rfl
theorem fr_X11_undo (M : Mem) : Fr Prod.snd [(47, 6), (48, 0)] M (f_X11_undo M) := by
  unfold f_X11_undo
  refine fr_ite ?_ ?_
  · exact fr_some rfl
  · refine fr_ltw (fr_wIf (by decide)) (fun M1 => ?_)
    refine fr_ck ?_
    refine fr_ck ?_
    refine fr_ck (fr_ltw (fr_wIa (by decide)) (fun M2 => ?_))
    exact fr_some rfl
theorem fr_X2_goOn (M : Mem) : Fr Prod.snd [(2, 0), (5, 0), (6, 1)] M (f_X2_goOn M) := by
  unfold f_X2_goOn
  refine fr_ite ?_ ?_
  · refine fr_ck ?_
    refine fr_ck ?_
    refine fr_ck ?_
    refine fr_bV (fr_mono (fr_X4_become (M.1 7 (M.1 6 0).toNatClampNeg) (M.1 8 (M.1 6 0).toNatClampNeg) (M.1 10 (M.1 6 0).toNatClampNeg) M) (by decide)) (fun M2 => ?_)
    refine fr_ltw (fr_wIf (by decide)) (fun M3 => ?_)
    exact fr_some rfl
  · exact fr_some rfl
theorem fr_X10_redo (M : Mem) : Fr Prod.snd [(2, 0), (5, 0), (6, 1)] M (f_X10_redo M) := by
  unfold f_X10_redo
  refine fr_bI (fr_mono (fr_X2_goOn M) (by decide)) (fun x1 M2 => ?_)
  exact fr_some rfl
theorem fr_X11_redo (M : Mem) : Fr Prod.snd [(47, 6), (48, 0)] M (f_X11_redo M) := by
  unfold f_X11_redo
  refine fr_ite ?_ ?_
  · exact fr_some rfl
  · refine fr_ck ?_
    refine fr_ck ?_
    refine fr_ck (fr_ltw (fr_wIa (by decide)) (fun M1 => ?_))
    refine fr_ltw (fr_wIf (by decide)) (fun M2 => ?_)
    exact fr_some rfl
theorem fr_X1_add (v1 : Int32) (M : Mem) : Fr Prod.snd [(40, 1), (42, 0)] M (f_X1_add v1 M) := by
  unfold f_X1_add
  refine fr_ite ?_ ?_
  · refine fr_ck (fr_ltw (fr_wIa (by decide)) (fun M1 => ?_))
    refine fr_ltw (fr_wIf (by decide)) (fun M2 => ?_)
    exact fr_some rfl
  · exact fr_some rfl
theorem fr_X10_body (v1 : Int32) (M : Mem) : Fr Prod.snd [(40, 1), (42, 0)] M (f_X10_body v1 M) := by
  unfold f_X10_body
  refine fr_bR (fun x1 => ?_)
  refine fr_ite ?_ ?_
  · exact fr_some rfl
  · refine fr_bI (fr_mono (fr_X1_add v1 M) (by decide)) (fun x3 M4 => ?_)
    exact fr_some rfl
theorem fr_X11_body (v1 : Int32) (M : Mem) : Fr Prod.snd [(47, 41), (71, 0)] M (f_X11_body v1 M) := by
  unfold f_X11_body
  refine fr_bR (fun x1 => ?_)
  refine fr_ite ?_ ?_
  · exact fr_some rfl
  · refine fr_ite ?_ ?_
    · exact fr_some rfl
    · refine fr_ck (fr_ltw (fr_wIa (by decide)) (fun M3 => ?_))
      refine fr_ltw (fr_wIf (by decide)) (fun M4 => ?_)
      exact fr_some rfl
theorem fr_X1_begin_b19 (M : Mem) : Fr id [(40, 2), (41, 0)] M (f_X1_begin_b19 M) := by
  unfold f_X1_begin_b19
  refine fr_ltw (fr_wIf (by decide)) (fun M1 => ?_)
  exact fr_some rfl
theorem fr_X1_begin (v1 : Int32) (M : Mem) : Fr id [(40, 2), (41, 0)] M (f_X1_begin v1 M) := by
  unfold f_X1_begin
  refine fr_ite ?_ ?_
  · exact fr_X1_begin_b19 _
  · refine fr_ck (fr_ltw (fr_wIa (by decide)) (fun M1 => ?_))
    exact fr_X1_begin_b19 _
theorem fr_X1_own {rc : Int32 → Int32 → Int32 → Int32 → Mem → Option (Int32 × Mem)} (hrc : ∀ (v1 : Int32) (v2 : Int32) (v3 : Int32) (v4 : Int32) (M : Mem), Fr Prod.snd [(40, 2), (41, 0)] M (rc v1 v2 v3 v4 M)) (v1 : Int32) (v2 : Int32) (v3 : Int32) (M : Mem) : Fr Prod.snd [(40, 2), (41, 0)] M (f_X1_own rc v1 v2 v3 M) := by
  unfold f_X1_own
  refine fr_ck ?_
  refine fr_bI (fr_mono (hrc (M.1 42 (M.1 40 4).toNatClampNeg) v1 v2 v3 M) (by decide)) (fun x1 M2 => ?_)
  exact fr_some rfl
theorem fr_X1_above {rc : Int32 → Int32 → Int32 → Int32 → Mem → Option (Int32 × Mem)} (hrc : ∀ (v1 : Int32) (v2 : Int32) (v3 : Int32) (v4 : Int32) (M : Mem), Fr Prod.snd [(40, 2), (41, 0)] M (rc v1 v2 v3 v4 M)) (v1 : Int32) (v2 : Int32) (v3 : Int32) (v4 : Int32) (M : Mem) : Fr Prod.snd [(40, 2), (41, 0)] M (f_X1_above rc v1 v2 v3 v4 M) := by
  unfold f_X1_above
  refine fr_ck ?_
  refine fr_bI (fr_mono (hrc ((ab_st 0).getD v1.toNatClampNeg 0) v2 v3 v4 M) (by decide)) (fun x1 M2 => ?_)
  exact fr_some rfl
theorem fr_X1_run {rc : Int32 → Int32 → Int32 → Int32 → Mem → Option (Int32 × Mem)} (hrc : ∀ (v1 : Int32) (v2 : Int32) (v3 : Int32) (v4 : Int32) (M : Mem), Fr Prod.snd [(40, 2), (41, 0)] M (rc v1 v2 v3 v4 M)) (v1 : Int32) (v2 : Int32) (v3 : Int32) (M : Mem) : Fr Prod.snd [(40, 2), (41, 0)] M (f_X1_run rc v1 v2 v3 M) := by
  unfold f_X1_run
  refine fr_ite ?_ ?_
  · exact fr_some rfl
  refine fr_ite ?_ ?_
  · refine fr_bI (fr_mono (fr_X1_own hrc (1 : Int32) v2 v3 M) (by decide)) (fun x1 M2 => ?_)
    refine fr_bI (fr_mono (fr_X1_own hrc (2 : Int32) (1 : Int32) v3 M2) (by decide)) (fun x3 M4 => ?_)
    exact fr_some rfl
  refine fr_ite ?_ ?_
  · refine fr_bI (fr_mono (fr_X1_own hrc (0 : Int32) v2 v3 M) (by decide)) (fun x5 M6 => ?_)
    exact fr_some rfl
  refine fr_ite ?_ ?_
  · exact fr_some rfl
  refine fr_ite ?_ ?_
  · refine fr_bI (fr_mono (fr_X1_above hrc (1 : Int32) (0 : Int32) v2 v3 M) (by decide)) (fun x7 M8 => ?_)
    exact fr_some rfl
  refine fr_ite ?_ ?_
  · refine fr_bI (fr_mono (fr_X1_above hrc (2 : Int32) (1 : Int32) v2 v3 M) (by decide)) (fun x9 M10 => ?_)
    exact fr_some rfl
  refine fr_ite ?_ ?_
  · refine fr_bI (fr_mono (fr_X1_above hrc (3 : Int32) (2 : Int32) v2 v3 M) (by decide)) (fun x11 M12 => ?_)
    exact fr_some rfl
  refine fr_ite ?_ ?_
  · refine fr_bI (fr_mono (fr_X1_above hrc (3 : Int32) (1 : Int32) (v2 + (1 : Int32)) v3 M) (by decide)) (fun x13 M14 => ?_)
    exact fr_some rfl
  refine fr_ite ?_ ?_
  · refine fr_bI (fr_mono (fr_X1_above hrc (4 : Int32) (2 : Int32) v2 v3 M) (by decide)) (fun x15 M16 => ?_)
    refine fr_bI (fr_mono (fr_X1_own hrc (0 : Int32) (2 : Int32) v3 M16) (by decide)) (fun x17 M18 => ?_)
    exact fr_some rfl
  refine fr_ite ?_ ?_
  · refine fr_bI (fr_mono (fr_X1_above hrc (5 : Int32) (3 : Int32) v2 v3 M) (by decide)) (fun x19 M20 => ?_)
    exact fr_some rfl
  refine fr_ite ?_ ?_
  · refine fr_bI (fr_mono (fr_X1_above hrc (6 : Int32) (0 : Int32) v2 v3 M) (by decide)) (fun x21 M22 => ?_)
    exact fr_some rfl
  refine fr_ite ?_ ?_
  · refine fr_bI (fr_mono (fr_X1_above hrc (7 : Int32) (1 : Int32) v2 v3 M) (by decide)) (fun x23 M24 => ?_)
    refine fr_bI (fr_mono (fr_X1_own hrc (2 : Int32) (2 : Int32) v3 M24) (by decide)) (fun x25 M26 => ?_)
    exact fr_some rfl
  refine fr_ite ?_ ?_
  · refine fr_bI (fr_mono (fr_X1_above hrc (7 : Int32) (3 : Int32) v2 v3 M) (by decide)) (fun x27 M28 => ?_)
    exact fr_some rfl
  · exact fr_some rfl
theorem fr_X1_from_b63 {k6 : Int32 → Int32 → Int32 → Int32 → Int32 → Mem → Option (Int32 × Mem)} {rc : Int32 → Int32 → Int32 → Int32 → Mem → Option (Int32 × Mem)} (hrc : ∀ (v1 : Int32) (v2 : Int32) (v3 : Int32) (v4 : Int32) (M : Mem), Fr Prod.snd [(40, 2), (41, 0)] M (rc v1 v2 v3 v4 M)) (hk6 : ∀ (v2 : Int32) (v3 : Int32) (v4 : Int32) (v5 : Int32) (v6 : Int32) (M : Mem), Fr Prod.snd [(40, 2), (41, 0)] M (k6 v2 v3 v4 v5 v6 M)) (v2 : Int32) (v3 : Int32) (v4 : Int32) (v5 : Int32) (v6 : Int32) (M : Mem) : Fr Prod.snd [(40, 2), (41, 0)] M (f_X1_from_b63 rc k6 v2 v3 v4 v5 v6 M) := by
  unfold f_X1_from_b63
  refine fr_ck ?_
  refine fr_ltv (fun x1 => ?_)
  exact hk6 _ _ _ _ _ _
theorem fr_X1_from_L6 {rc : Int32 → Int32 → Int32 → Int32 → Mem → Option (Int32 × Mem)} (hrc : ∀ (v1 : Int32) (v2 : Int32) (v3 : Int32) (v4 : Int32) (M : Mem), Fr Prod.snd [(40, 2), (41, 0)] M (rc v1 v2 v3 v4 M)) : ∀ (n : Nat) (v2 : Int32) (v3 : Int32) (v4 : Int32) (v5 : Int32) (v6 : Int32) (M : Mem), Fr Prod.snd [(40, 2), (41, 0)] M (f_X1_from_L6 rc n v2 v3 v4 v5 v6 M) := by
  intro n
  induction n with
  | zero => intro _ _ _ _ _ _; exact fr_none
  | succ n ih =>
    intro v2 v3 v4 v5 v6 M
    rw [f_X1_from_L6]
    refine fr_ite ?_ ?_
    · exact fr_some rfl
    · refine fr_bR (fun x1 => ?_)
      refine fr_ite ?_ ?_
      · exact fr_some rfl
      · refine fr_ck ?_
        refine fr_ltv (fun x3 => ?_)
        refine fr_ite ?_ ?_
        · exact fr_X1_from_b63 hrc ih _ _ _ _ _ _
        · refine fr_ite ?_ ?_
          · exact fr_X1_from_b63 hrc ih _ _ _ _ _ _
          · refine fr_bV (fr_mono (fr_X1_begin x3 M) (by decide)) (fun M5 => ?_)
            refine fr_bI (fr_mono (fr_X1_run hrc x3 v3 (v4 + (1 : Int32)) M5) (by decide)) (fun x6 M7 => ?_)
            exact fr_some rfl
theorem fr_X1_from_o {rc : Int32 → Int32 → Int32 → Int32 → Mem → Option (Int32 × Mem)} (hrc : ∀ (v1 : Int32) (v2 : Int32) (v3 : Int32) (v4 : Int32) (M : Mem), Fr Prod.snd [(40, 2), (41, 0)] M (rc v1 v2 v3 v4 M)) (v1 : Int32) (v2 : Int32) (v3 : Int32) (v4 : Int32) (M : Mem) : Fr Prod.snd [(40, 2), (41, 0)] M (f_X1_from_o rc v1 v2 v3 v4 M) := by
  unfold f_X1_from_o
  exact fr_X1_from_L6 hrc FU _ _ _ _ _ _
theorem fr_X1_from : ∀ (d : Nat) (v1 : Int32) (v2 : Int32) (v3 : Int32) (v4 : Int32) (M : Mem), Fr Prod.snd [(40, 2), (41, 0)] M (f_X1_from d v1 v2 v3 v4 M)
  | 0, _, _, _, _, _ => fr_none
  | d + 1, v1, v2, v3, v4, M => fr_X1_from_o (rc := f_X1_from d) (fun v1 v2 v3 v4 M => fr_X1_from d v1 v2 v3 v4 M) v1 v2 v3 v4 M
theorem fr_X1_perform (v1 : Int32) (v2 : Int32) (v3 : Int32) (M : Mem) : Fr Prod.snd [(40, 2), (40, 5), (41, 0)] M (f_X1_perform v1 v2 v3 M) := by
  unfold f_X1_perform
  refine fr_ltw (fr_wIf (by decide)) (fun M1 => ?_)
  refine fr_bR (fun x2 => ?_)
  refine fr_ite ?_ ?_
  · exact fr_some rfl
  · refine fr_ite ?_ ?_
    · exact fr_some rfl
    · refine fr_ite ?_ ?_
      · refine fr_ltw (fr_wIf (by decide)) (fun M4 => ?_)
        refine fr_ck ?_
        refine fr_bI (fr_mono (fr_X1_from FD (M4.1 42 v1.toNatClampNeg) v2 v3 (0 : Int32) M4) (by decide)) (fun x5 M6 => ?_)
        exact fr_some rfl
      · exact fr_some rfl
theorem fr_X10_act (v1 : Int32) (v2 : Int32) (v3 : Int32) (M : Mem) : Fr Prod.snd [(40, 2), (40, 5), (41, 0)] M (f_X10_act v1 v2 v3 M) := by
  unfold f_X10_act
  refine fr_bI (fr_mono (fr_X1_perform v1 v2 v3 M) (by decide)) (fun x1 M2 => ?_)
  exact fr_some rfl
theorem fr_X11_begins_b19 (M : Mem) : Fr id [(47, 44), (72, 0)] M (f_X11_begins_b19 M) := by
  unfold f_X11_begins_b19
  refine fr_ltw (fr_wIf (by decide)) (fun M1 => ?_)
  exact fr_some rfl
theorem fr_X11_begins (v1 : Int32) (M : Mem) : Fr id [(47, 44), (72, 0)] M (f_X11_begins v1 M) := by
  unfold f_X11_begins
  refine fr_ite ?_ ?_
  · exact fr_X11_begins_b19 _
  · refine fr_ck (fr_ltw (fr_wIa (by decide)) (fun M1 => ?_))
    exact fr_X11_begins_b19 _
theorem fr_X11_beatsAs_b16 {rc : Int32 → Int32 → Mem → Option (Int32 × Mem)} (hrc : ∀ (v1 : Int32) (v2 : Int32) (M : Mem), Fr Prod.snd [(47, 44), (72, 0)] M (rc v1 v2 M)) (v2 : Int32) (M : Mem) : Fr Prod.snd [(47, 44), (72, 0)] M (f_X11_beatsAs_b16 rc v2 M) := by
  unfold f_X11_beatsAs_b16
  refine fr_bV (fr_mono (fr_X11_begins (20 : Int32) M) (by decide)) (fun M2 => ?_)
  refine fr_bI (fr_mono (hrc (0 : Int32) v2 M2) (by decide)) (fun x3 M4 => ?_)
  exact fr_some rfl
theorem fr_X11_beatsAs_o {rc : Int32 → Int32 → Mem → Option (Int32 × Mem)} (hrc : ∀ (v1 : Int32) (v2 : Int32) (M : Mem), Fr Prod.snd [(47, 44), (72, 0)] M (rc v1 v2 M)) (v1 : Int32) (v2 : Int32) (M : Mem) : Fr Prod.snd [(47, 44), (72, 0)] M (f_X11_beatsAs_o rc v1 v2 M) := by
  unfold f_X11_beatsAs_o
  refine fr_ite ?_ ?_
  · exact fr_X11_beatsAs_b16 hrc _ _
  · refine fr_ite ?_ ?_
    · exact fr_X11_beatsAs_b16 hrc _ _
    · refine fr_ite ?_ ?_
      · exact fr_X11_beatsAs_b16 hrc _ _
      · refine fr_ite ?_ ?_
        · refine fr_bV (fr_mono (fr_X11_begins (70 : Int32) M) (by decide)) (fun M4 => ?_)
          refine fr_bI (fr_mono (hrc (0 : Int32) v2 M4) (by decide)) (fun x5 M6 => ?_)
          exact fr_some rfl
        · refine fr_bV (fr_mono (fr_X11_begins (1 : Int32) M) (by decide)) (fun M2 => ?_)
          exact fr_some rfl
theorem fr_X11_beatsAs : ∀ (d : Nat) (v1 : Int32) (v2 : Int32) (M : Mem), Fr Prod.snd [(47, 44), (72, 0)] M (f_X11_beatsAs d v1 v2 M)
  | 0, _, _, _ => fr_none
  | d + 1, v1, v2, M => fr_X11_beatsAs_o (rc := f_X11_beatsAs d) (fun v1 v2 M => fr_X11_beatsAs d v1 v2 M) v1 v2 M
theorem fr_X11_asksAs_b36 {rc : Int32 → Int32 → Mem → Option (Int32 × Mem)} (hrc : ∀ (v1 : Int32) (v2 : Int32) (M : Mem), Fr Prod.snd [(47, 44), (72, 0)] M (rc v1 v2 M)) (v2 : Int32) (M : Mem) : Fr Prod.snd [(47, 44), (72, 0)] M (f_X11_asksAs_b36 rc v2 M) := by
  unfold f_X11_asksAs_b36
  refine fr_bV (fr_mono (fr_X11_begins (50 : Int32) M) (by decide)) (fun M2 => ?_)
  refine fr_bI (fr_mono (hrc (1 : Int32) v2 M2) (by decide)) (fun x3 M4 => ?_)
  refine fr_bI (fr_mono (fr_X11_beatsAs FD (M4.1 47 44) (2 : Int32) M4) (by decide)) (fun x5 M6 => ?_)
  exact fr_some rfl
theorem fr_X11_asksAs_b10 {rc : Int32 → Int32 → Mem → Option (Int32 × Mem)} (hrc : ∀ (v1 : Int32) (v2 : Int32) (M : Mem), Fr Prod.snd [(47, 44), (72, 0)] M (rc v1 v2 M)) (v2 : Int32) (M : Mem) : Fr Prod.snd [(47, 44), (72, 0)] M (f_X11_asksAs_b10 rc v2 M) := by
  unfold f_X11_asksAs_b10
  refine fr_bV (fr_mono (fr_X11_begins (40 : Int32) M) (by decide)) (fun M2 => ?_)
  refine fr_bI (fr_mono (hrc (2 : Int32) v2 M2) (by decide)) (fun x3 M4 => ?_)
  exact fr_some rfl
theorem fr_X11_asksAs_o {rc : Int32 → Int32 → Mem → Option (Int32 × Mem)} (hrc : ∀ (v1 : Int32) (v2 : Int32) (M : Mem), Fr Prod.snd [(47, 44), (72, 0)] M (rc v1 v2 M)) (v1 : Int32) (v2 : Int32) (M : Mem) : Fr Prod.snd [(47, 44), (72, 0)] M (f_X11_asksAs_o rc v1 v2 M) := by
  unfold f_X11_asksAs_o
  refine fr_ite ?_ ?_
  · exact fr_X11_asksAs_b10 hrc _ _
  · refine fr_ite ?_ ?_
    · exact fr_X11_asksAs_b10 hrc _ _
    · refine fr_ite ?_ ?_
      · exact fr_X11_asksAs_b36 hrc _ _
      · refine fr_ite ?_ ?_
        · exact fr_X11_asksAs_b36 hrc _ _
        · refine fr_bV (fr_mono (fr_X11_begins (11 : Int32) M) (by decide)) (fun M2 => ?_)
          exact fr_some rfl
theorem fr_X11_asksAs : ∀ (d : Nat) (v1 : Int32) (v2 : Int32) (M : Mem), Fr Prod.snd [(47, 44), (72, 0)] M (f_X11_asksAs d v1 v2 M)
  | 0, _, _, _ => fr_none
  | d + 1, v1, v2, M => fr_X11_asksAs_o (rc := f_X11_asksAs d) (fun v1 v2 M => fr_X11_asksAs d v1 v2 M) v1 v2 M
theorem fr_X11_standsAs_b10 {rc : Int32 → Int32 → Mem → Option (Int32 × Mem)} (hrc : ∀ (v1 : Int32) (v2 : Int32) (M : Mem), Fr Prod.snd [(47, 44), (72, 0)] M (rc v1 v2 M)) (v2 : Int32) (M : Mem) : Fr Prod.snd [(47, 44), (72, 0)] M (f_X11_standsAs_b10 rc v2 M) := by
  unfold f_X11_standsAs_b10
  refine fr_bV (fr_mono (fr_X11_begins (41 : Int32) M) (by decide)) (fun M2 => ?_)
  refine fr_bI (fr_mono (hrc (2 : Int32) (v2 + (1 : Int32)) M2) (by decide)) (fun x3 M4 => ?_)
  exact fr_some rfl
theorem fr_X11_standsAs_o {rc : Int32 → Int32 → Mem → Option (Int32 × Mem)} (hrc : ∀ (v1 : Int32) (v2 : Int32) (M : Mem), Fr Prod.snd [(47, 44), (72, 0)] M (rc v1 v2 M)) (v1 : Int32) (v2 : Int32) (M : Mem) : Fr Prod.snd [(47, 44), (72, 0)] M (f_X11_standsAs_o rc v1 v2 M) := by
  unfold f_X11_standsAs_o
  refine fr_ite ?_ ?_
  · exact fr_X11_standsAs_b10 hrc _ _
  · refine fr_ite ?_ ?_
    · exact fr_X11_standsAs_b10 hrc _ _
    · refine fr_ite ?_ ?_
      · refine fr_bV (fr_mono (fr_X11_begins (30 : Int32) M) (by decide)) (fun M12 => ?_)
        refine fr_bI (fr_mono (hrc (0 : Int32) v2 M12) (by decide)) (fun x13 M14 => ?_)
        exact fr_some rfl
      · refine fr_ite ?_ ?_
        · refine fr_bV (fr_mono (fr_X11_begins (80 : Int32) M) (by decide)) (fun M6 => ?_)
          refine fr_bI (fr_mono (hrc (4 : Int32) v2 M6) (by decide)) (fun x7 M8 => ?_)
          refine fr_bI (fr_mono (fr_X11_asksAs FD (M8.1 47 44) (2 : Int32) M8) (by decide)) (fun x9 M10 => ?_)
          exact fr_some rfl
        · refine fr_bV (fr_mono (fr_X11_begins (10 : Int32) M) (by decide)) (fun M2 => ?_)
          refine fr_bI (fr_mono (fr_X11_beatsAs FD (M2.1 47 44) v2 M2) (by decide)) (fun x3 M4 => ?_)
          exact fr_some rfl
theorem fr_X11_standsAs : ∀ (d : Nat) (v1 : Int32) (v2 : Int32) (M : Mem), Fr Prod.snd [(47, 44), (72, 0)] M (f_X11_standsAs d v1 v2 M)
  | 0, _, _, _ => fr_none
  | d + 1, v1, v2, M => fr_X11_standsAs_o (rc := f_X11_standsAs d) (fun v1 v2 M => fr_X11_standsAs d v1 v2 M) v1 v2 M
theorem fr_X11_tellsAs_o {rc : Int32 → Int32 → Mem → Option (Int32 × Mem)} (hrc : ∀ (v1 : Int32) (v2 : Int32) (M : Mem), Fr Prod.snd [(47, 44), (72, 0)] M (rc v1 v2 M)) (v1 : Int32) (v2 : Int32) (M : Mem) : Fr Prod.snd [(47, 44), (72, 0)] M (f_X11_tellsAs_o rc v1 v2 M) := by
  unfold f_X11_tellsAs_o
  refine fr_ite ?_ ?_
  · refine fr_bV (fr_mono (fr_X11_begins (60 : Int32) M) (by decide)) (fun M12 => ?_)
    refine fr_bI (fr_mono (hrc (3 : Int32) v2 M12) (by decide)) (fun x13 M14 => ?_)
    exact fr_some rfl
  · refine fr_ite ?_ ?_
    · refine fr_bV (fr_mono (fr_X11_begins (81 : Int32) M) (by decide)) (fun M8 => ?_)
      refine fr_bI (fr_mono (hrc (4 : Int32) v2 M8) (by decide)) (fun x9 M10 => ?_)
      exact fr_some rfl
    · refine fr_bV (fr_mono (fr_X11_begins (2 : Int32) M) (by decide)) (fun M2 => ?_)
      refine fr_bI (fr_mono (fr_X11_standsAs FD (M2.1 47 44) v2 M2) (by decide)) (fun x3 M4 => ?_)
      refine fr_bI (fr_mono (fr_X11_asksAs FD (M4.1 47 44) (1 : Int32) M4) (by decide)) (fun x5 M6 => ?_)
      exact fr_some rfl
theorem fr_X11_tellsAs : ∀ (d : Nat) (v1 : Int32) (v2 : Int32) (M : Mem), Fr Prod.snd [(47, 44), (72, 0)] M (f_X11_tellsAs d v1 v2 M)
  | 0, _, _, _ => fr_none
  | d + 1, v1, v2, M => fr_X11_tellsAs_o (rc := f_X11_tellsAs d) (fun v1 v2 M => fr_X11_tellsAs d v1 v2 M) v1 v2 M
theorem fr_X11_act (v1 : Int32) (v2 : Int32) (v3 : Int32) (M : Mem) : Fr Prod.snd [(47, 44), (47, 45), (47, 46), (72, 0)] M (f_X11_act v1 v2 v3 M) := by
  unfold f_X11_act
  refine fr_ltw (fr_wIf (by decide)) (fun M1 => ?_)
  refine fr_bR (fun x2 => ?_)
  refine fr_ite ?_ ?_
  · exact fr_some rfl
  · refine fr_ck ?_
    refine fr_ltw (fr_wIf (by decide)) (fun M4 => ?_)
    refine fr_ltw (fr_wIf (by decide)) (fun M5 => ?_)
    refine fr_ite ?_ ?_
    · refine fr_bI (fr_mono (fr_X11_beatsAs FD (M5.1 47 44) v3 M5) (by decide)) (fun x6 M7 => ?_)
      exact fr_some rfl
    refine fr_ite ?_ ?_
    · refine fr_bI (fr_mono (fr_X11_standsAs FD (M5.1 47 44) v3 M5) (by decide)) (fun x8 M9 => ?_)
      exact fr_some rfl
    refine fr_ite ?_ ?_
    · refine fr_bI (fr_mono (fr_X11_asksAs FD (M5.1 47 44) v3 M5) (by decide)) (fun x10 M11 => ?_)
      exact fr_some rfl
    refine fr_ite ?_ ?_
    · refine fr_bI (fr_mono (fr_X11_tellsAs FD (M5.1 47 44) v3 M5) (by decide)) (fun x12 M13 => ?_)
      exact fr_some rfl
    · exact fr_some rfl
theorem fr_X9_holdNothing (v1 : Int32) (M : Mem) : Fr id [(44, 0)] M (f_X9_holdNothing v1 M) := by
  unfold f_X9_holdNothing
  refine fr_ck (fr_ltw (fr_wIa (by decide)) (fun M1 => ?_))
  exact fr_some rfl
theorem fr_X9_holdBody (v1 : Int32) (v2 : Int32) (M : Mem) : Fr id [(44, 0), (45, 0)] M (f_X9_holdBody v1 v2 M) := by
  unfold f_X9_holdBody
  refine fr_ck (fr_ltw (fr_wIa (by decide)) (fun M1 => ?_))
  refine fr_ck (fr_ltw (fr_wIa (by decide)) (fun M2 => ?_))
  exact fr_some rfl
theorem fr_X10_keep_b25 (v1 : Int32) (v2 : Int32) (M : Mem) : Fr Prod.snd [(44, 0), (45, 0)] M (f_X10_keep_b25 v1 v2 M) := by
  unfold f_X10_keep_b25
  refine fr_ite ?_ ?_
  · refine fr_bV (fr_mono (fr_X9_holdNothing v1 M) (by decide)) (fun M4 => ?_)
    exact fr_some rfl
  · refine fr_bV (fr_mono (fr_X9_holdBody v1 v2 M) (by decide)) (fun M2 => ?_)
    exact fr_some rfl
theorem fr_X10_keep (v1 : Int32) (v2 : Int32) (M : Mem) : Fr Prod.snd [(44, 0), (45, 0)] M (f_X10_keep v1 v2 M) := by
  unfold f_X10_keep
  refine fr_bR (fun x1 => ?_)
  refine fr_ite ?_ ?_
  · exact fr_some rfl
  · refine fr_ite ?_ ?_
    · exact fr_X10_keep_b25 _ _ _
    · refine fr_bR (fun x3 => ?_)
      refine fr_ite ?_ ?_
      · exact fr_some rfl
      · exact fr_X10_keep_b25 _ _ _
theorem fr_X11_keep_b22 (v1 : Int32) (v2 : Int32) (M : Mem) : Fr Prod.snd [(73, 0), (74, 0)] M (f_X11_keep_b22 v1 v2 M) := by
  unfold f_X11_keep_b22
  refine fr_ck (fr_ltw (fr_wIa (by decide)) (fun M1 => ?_))
  refine fr_ck (fr_ltw (fr_wIa (by decide)) (fun M2 => ?_))
  exact fr_some rfl
theorem fr_X11_keep (v1 : Int32) (v2 : Int32) (M : Mem) : Fr Prod.snd [(73, 0), (74, 0)] M (f_X11_keep v1 v2 M) := by
  unfold f_X11_keep
  refine fr_bR (fun x1 => ?_)
  refine fr_ite ?_ ?_
  · exact fr_some rfl
  · refine fr_ite ?_ ?_
    · exact fr_X11_keep_b22 _ _ _
    · refine fr_bR (fun x3 => ?_)
      refine fr_ite ?_ ?_
      · exact fr_some rfl
      · exact fr_X11_keep_b22 _ _ _
theorem fr_X9_holdRow (v1 : Int32) (v2 : Int32) (v3 : Int32) (M : Mem) : Fr id [(44, 0), (45, 0), (46, 0)] M (f_X9_holdRow v1 v2 v3 M) := by
  unfold f_X9_holdRow
  refine fr_ck (fr_ltw (fr_wIa (by decide)) (fun M1 => ?_))
  refine fr_ck (fr_ltw (fr_wIa (by decide)) (fun M2 => ?_))
  refine fr_bV (fr_mono (fr_J7_fill_bad5a 46 (v1 * (60 : Int32)) ((v1 * (60 : Int32)) + v3) (0 : Int64) M2) (by decide)) (fun M4 => ?_)
  exact fr_some rfl
theorem fr_X10_row (v1 : Int32) (v2 : Int32) (v3 : Int32) (M : Mem) : Fr Prod.snd [(44, 0), (45, 0), (46, 0)] M (f_X10_row v1 v2 v3 M) := by
  unfold f_X10_row
  refine fr_bR (fun x1 => ?_)
  refine fr_ite ?_ ?_
  · exact fr_some rfl
  · refine fr_bR (fun x3 => ?_)
    refine fr_ite ?_ ?_
    · exact fr_some rfl
    · refine fr_ite ?_ ?_
      · refine fr_ite ?_ ?_
        · refine fr_bV (fr_mono (fr_X9_holdRow v1 v2 v3 M) (by decide)) (fun M6 => ?_)
          exact fr_some rfl
        · exact fr_some rfl
      · exact fr_some rfl
theorem fr_X11_row_L57 : ∀ (n : Nat) (v1 : Int32) (v4 : Int32) (M : Mem), Fr Prod.snd [(73, 0), (74, 0), (75, 0)] M (f_X11_row_L57 n v1 v4 M) := by
  intro n
  induction n with
  | zero => intro _ _ _; exact fr_none
  | succ n ih =>
    intro v1 v4 M
    rw [f_X11_row_L57]
    refine fr_ite ?_ ?_
    · exact fr_some rfl
    · refine fr_ck (fr_ltw (fr_wLa (by decide)) (fun M1 => ?_))
      exact ih _ _ _
theorem fr_X11_row (v1 : Int32) (v2 : Int32) (v3 : Int32) (M : Mem) : Fr Prod.snd [(73, 0), (74, 0), (75, 0)] M (f_X11_row v1 v2 v3 M) := by
  unfold f_X11_row
  refine fr_bR (fun x1 => ?_)
  refine fr_ite ?_ ?_
  · exact fr_some rfl
  · refine fr_bR (fun x3 => ?_)
    refine fr_ite ?_ ?_
    · exact fr_some rfl
    · refine fr_ite ?_ ?_
      · refine fr_ite ?_ ?_
        · refine fr_ck (fr_ltw (fr_wIa (by decide)) (fun M5 => ?_))
          refine fr_ck (fr_ltw (fr_wIa (by decide)) (fun M6 => ?_))
          refine fr_ltv (fun x7 => ?_)
          exact fr_X11_row_L57 FU _ _ _
        · exact fr_some rfl
      · exact fr_some rfl
theorem fr_X9_setValue (v1 : Int32) (v2 : Int32) (v3 : Int64) (M : Mem) : Fr id [(46, 0)] M (f_X9_setValue v1 v2 v3 M) := by
  unfold f_X9_setValue
  refine fr_ck ?_
  refine fr_bR (fun x1 => ?_)
  refine fr_ck (fr_ltw (fr_wLa (by decide)) (fun M3 => ?_))
  exact fr_some rfl
theorem fr_X10_put (v1 : Int32) (v2 : Int32) (v3 : Int64) (M : Mem) : Fr Prod.snd [(46, 0)] M (f_X10_put v1 v2 v3 M) := by
  unfold f_X10_put
  refine fr_bR (fun x1 => ?_)
  refine fr_ite ?_ ?_
  · refine fr_bV (fr_mono (fr_X9_setValue v1 v2 v3 M) (by decide)) (fun M4 => ?_)
    exact fr_some rfl
  · exact fr_some rfl
theorem fr_X11_put_b37 (v5 : Int32) (M : Mem) : Fr Prod.snd [(75, 0)] M (f_X11_put_b37 v5 M) := by
  unfold f_X11_put_b37
  refine fr_ite ?_ ?_
  · exact fr_some rfl
  · exact fr_some rfl
theorem fr_X11_put (v1 : Int32) (v2 : Int32) (v3 : Int64) (M : Mem) : Fr Prod.snd [(75, 0)] M (f_X11_put v1 v2 v3 M) := by
  unfold f_X11_put
  refine fr_bR (fun x1 => ?_)
  refine fr_ite ?_ ?_
  · refine fr_ck ?_
    refine fr_bR (fun x3 => ?_)
    refine fr_ck (fr_ltw (fr_wLa (by decide)) (fun M5 => ?_))
    exact fr_X11_put_b37 _ _
  · exact fr_X11_put_b37 _ _
theorem fr_X9_copy (v1 : Int32) (v2 : Int32) (v3 : Int32) (v4 : Int32) (v5 : Int32) (M : Mem) : Fr id [(46, 0)] M (f_X9_copy v1 v2 v3 v4 v5 M) := by
  unfold f_X9_copy
  refine fr_ck (fr_ltw (fr_cpL (by decide)) (fun M1 => ?_))
  exact fr_some rfl
theorem fr_X10_shift (v1 : Int32) (v2 : Int32) (v3 : Int32) (v4 : Int32) (v5 : Int32) (M : Mem) : Fr Prod.snd [(46, 0)] M (f_X10_shift v1 v2 v3 v4 v5 M) := by
  unfold f_X10_shift
  refine fr_bR (fun x1 => ?_)
  refine fr_ite ?_ ?_
  · exact fr_some rfl
  · refine fr_bR (fun x3 => ?_)
    refine fr_ite ?_ ?_
    · exact fr_some rfl
    · refine fr_bR (fun x5 => ?_)
      refine fr_ite ?_ ?_
      · refine fr_bR (fun x7 => ?_)
        refine fr_ite ?_ ?_
        · refine fr_bR (fun x9 => ?_)
          refine fr_ite ?_ ?_
          · exact fr_some rfl
          · refine fr_bR (fun x11 => ?_)
            refine fr_ite ?_ ?_
            · exact fr_some rfl
            · refine fr_bR (fun x13 => ?_)
              refine fr_ite ?_ ?_
              · exact fr_some rfl
              · refine fr_bV (fr_mono (fr_X9_copy v1 v2 v3 v4 v5 M) (by decide)) (fun M16 => ?_)
                exact fr_some rfl
        · exact fr_some rfl
      · exact fr_some rfl
theorem fr_X11_shift_L150 : ∀ (n : Nat) (v3 : Int32) (v4 : Int32) (v5 : Int32) (v6 : Int32) (M : Mem), Fr Prod.snd [(75, 0), (76, 0)] M (f_X11_shift_L150 n v3 v4 v5 v6 M) := by
  intro n
  induction n with
  | zero => intro _ _ _ _ _; exact fr_none
  | succ n ih =>
    intro v3 v4 v5 v6 M
    rw [f_X11_shift_L150]
    refine fr_ite ?_ ?_
    · exact fr_some rfl
    · refine fr_ck ?_
      refine fr_ck (fr_ltw (fr_wLa (by decide)) (fun M1 => ?_))
      exact ih _ _ _ _ _
theorem fr_X11_shift_L113 : ∀ (n : Nat) (v1 : Int32) (v2 : Int32) (v3 : Int32) (v4 : Int32) (v5 : Int32) (v6 : Int32) (M : Mem), Fr Prod.snd [(75, 0), (76, 0)] M (f_X11_shift_L113 n v1 v2 v3 v4 v5 v6 M) := by
  intro n
  induction n with
  | zero => intro _ _ _ _ _ _ _; exact fr_none
  | succ n ih =>
    intro v1 v2 v3 v4 v5 v6 M
    rw [f_X11_shift_L113]
    refine fr_ite ?_ ?_
    · exact fr_X11_shift_L150 FU _ _ _ _ _
    · refine fr_ck ?_
      refine fr_ck (fr_ltw (fr_wLa (by decide)) (fun M1 => ?_))
      exact ih _ _ _ _ _ _ _
theorem fr_X11_shift (v1 : Int32) (v2 : Int32) (v3 : Int32) (v4 : Int32) (v5 : Int32) (M : Mem) : Fr Prod.snd [(75, 0), (76, 0)] M (f_X11_shift v1 v2 v3 v4 v5 M) := by
  unfold f_X11_shift
  refine fr_bR (fun x1 => ?_)
  refine fr_ite ?_ ?_
  · exact fr_some rfl
  · refine fr_bR (fun x3 => ?_)
    refine fr_ite ?_ ?_
    · exact fr_some rfl
    · refine fr_ck ?_
      refine fr_ite ?_ ?_
      · exact fr_some rfl
      · refine fr_ck ?_
        refine fr_ite ?_ ?_
        · refine fr_ck ?_
          refine fr_ite ?_ ?_
          · exact fr_some rfl
          · refine fr_ck ?_
            refine fr_ck ?_
            refine fr_ite ?_ ?_
            · refine fr_ite ?_ ?_
              · exact fr_some rfl
              · refine fr_ite ?_ ?_
                · exact fr_some rfl
                · refine fr_ite ?_ ?_
                  · exact fr_some rfl
                  · refine fr_ck ?_
                    refine fr_ite ?_ ?_
                    · exact fr_some rfl
                    · refine fr_ck ?_
                      refine fr_ite ?_ ?_
                      · exact fr_X11_shift_L113 FU _ _ _ _ _ _ _
                      · exact fr_some rfl
            · exact fr_some rfl
        · exact fr_some rfl
