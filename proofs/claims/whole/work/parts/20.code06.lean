def f_X10_isProved (v1 : Int32) (v2 : Int32) (v3 : Int32) (M : Mem) : Option (Int32 × Mem) := (f_X7_take v1 M).bind fun M2 => (f_X7_tally_11 M2).bind fun M4 => (f_X7_answers_11 v2 v3 M4).bind fun x5 => (if x5 = (1 : Int32) then (some ((1 : Int32), M4)) else (some ((0 : Int32), M4)))
set_option maxRecDepth 100000 in
set_option maxHeartbeats 4000000 in
theorem w_X10_isProved {G : GW} {E : EE} (hG : ab_ok G) (B : Bx G E RX10 cX10_isProved 4 6 (some .boolean)) (v1 : Int32) (v2 : Int32) (v3 : Int32) (M : Mem) : AWo G E cX10_isProved 4 (ab_Q G E embI) 0 [(0, .ref 0), (1, .int v1), (2, .int v2), (3, .int v3)] [] M (f_X10_isProved v1 v2 v3 M) := by
  unfold f_X10_isProved
  refine aw_aload_n (k0 := 0) B 0 (by decide +kernel) rfl rfl ?_
  refine aw_getr (c := 0) B lkX10_26 (by decide +kernel) rfl (r := 11) rfl ?_
  refine aw_aload_n (k0 := 0) B 0 (by decide +kernel) rfl rfl ?_
  refine aw_getr (c := 0) B lkX10_10 (by decide +kernel) rfl (r := 1) rfl ?_
  refine aw_iload_n (k0 := 1) B 1 (by decide +kernel) rfl rfl ?_
  refine aw_cVV B (c_X7_take (eLa E) hG v1 M) cvX10_190 rfl rfl (Nat.le_of_ble_eq_true rfl) rfl (Nat.le_of_ble_eq_true rfl) (by decide +kernel) rfl (fun M2 => ?_)
  refine aw_aload_n (k0 := 0) B 0 (by decide +kernel) rfl rfl ?_
  refine aw_getr (c := 0) B lkX10_26 (by decide +kernel) rfl (r := 11) rfl ?_
  refine aw_cVV B (c_X7_tally_11 (eLa E) hG M2) cvX10_205 rfl rfl (Nat.le_of_ble_eq_true rfl) rfl (Nat.le_of_ble_eq_true rfl) (by decide +kernel) rfl (fun M4 => ?_)
  refine aw_aload_n (k0 := 0) B 0 (by decide +kernel) rfl rfl ?_
  refine aw_getr (c := 0) B lkX10_26 (by decide +kernel) rfl (r := 11) rfl ?_
  refine aw_iload_n (k0 := 2) B 2 (by decide +kernel) rfl rfl ?_
  refine aw_iload_n (k0 := 3) B 3 (by decide +kernel) rfl rfl ?_
  refine aw_cVR B (c_X7_answers_11 (eLa E) hG v2 v3 M4) cvX10_211 rfl rfl (Nat.le_of_ble_eq_true rfl) rfl (Nat.le_of_ble_eq_true rfl) (by decide +kernel) rfl (fun x5 => ?_)
  refine aw_iconst (n := 1) (v := (1 : Int32)) B (by decide +kernel) (by decide) ?_
  refine aw_icmp_ne (off := 7) B 36 (by decide +kernel) (by decide) (fun _ => ?_) (fun _ => ?_)
  · refine aw_iconst (n := 0) (v := (0 : Int32)) B (by decide +kernel) (by decide) ?_
    exact aw_zreturnK B (by decide +kernel) rfl (by decide)
  · refine aw_iconst (n := 1) (v := (1 : Int32)) B (by decide +kernel) (by decide) ?_
    refine aw_goto (off := 4) B 37 (by decide +kernel) (by decide) ?_
    exact aw_zreturnK B (by decide +kernel) rfl (by decide)
theorem c_X10_isProved (l : Launch) {G : GW} (hG : ab_ok G) (v1 : Int32) (v2 : Int32) (v3 : Int32) (M : Mem) : AC l G yX10_isProved cX10_isProved 4 (some .boolean) 6 [.ref 0, .int v1, .int v2, .int v3] M embI (f_X10_isProved v1 v2 v3 M) := AC.of hG (by decide) (Nat.le_of_ble_eq_true rfl) (fun E hE B => by subst hE; exact w_X10_isProved hG B v1 v2 v3 M)
def f_X10_fewestProving_b63 (k30 : Int32 → Int32 → Int32 → Int32 → Int32 → Int32 → Int32 → Mem → Option (Int32 × Mem)) (v1 : Int32) (v2 : Int32) (v3 : Int32) (v4 : Int32) (v5 : Int32) (v6 : Int32) (v7 : Int32) (M : Mem) : Option (Int32 × Mem) := lt ((v6 - v3) &&& v3) fun x1 => k30 v1 v2 v3 v4 v5 x1 (v7 + 1) M
set_option maxRecDepth 100000 in
set_option maxHeartbeats 4000000 in
theorem w_X10_fewestProving_b63 {G : GW} {E : EE} (hG : ab_ok G) {k30 : Int32 → Int32 → Int32 → Int32 → Int32 → Int32 → Int32 → Mem → Option (Int32 × Mem)} (B : Bx G E RX10 cX10_fewestProving 8 7 (some .int)) (hk30 : ∀ (v1 : Int32) (v2 : Int32) (v3 : Int32) (v4 : Int32) (v5 : Int32) (v6 : Int32) (v7 : Int32) (M : Mem), AWo G E cX10_fewestProving 8 (ab_Q G E embI) 30 [(0, .ref 0), (1, .int v1), (2, .int v2), (3, .int v3), (4, .int v4), (5, .int v5), (6, .int v6), (7, .int v7)] [] M (k30 v1 v2 v3 v4 v5 v6 v7 M)) (v1 : Int32) (v2 : Int32) (v3 : Int32) (v4 : Int32) (v5 : Int32) (v6 : Int32) (v7 : Int32) (M : Mem) : AWo G E cX10_fewestProving 8 (ab_Q G E embI) 63 [(0, .ref 0), (1, .int v1), (2, .int v2), (3, .int v3), (4, .int v4), (5, .int v5), (6, .int v6), (7, .int v7)] [] M (f_X10_fewestProving_b63 k30 v1 v2 v3 v4 v5 v6 v7 M) := by
  unfold f_X10_fewestProving_b63
  refine aw_iload (i := 6) B 6 (by decide +kernel) rfl ?_
  refine aw_iload_n (k0 := 3) B 3 (by decide +kernel) rfl rfl ?_
  refine aw_isub B (by decide +kernel) ?_
  refine aw_iload_n (k0 := 3) B 3 (by decide +kernel) rfl rfl ?_
  refine aw_iand B (by decide +kernel) ?_
  refine aw_ltI (fun x1 => ?_)
  refine aw_istore (i := 6) B [(6, .int x1), (0, .ref 0), (1, .int v1), (2, .int v2), (3, .int v3), (4, .int v4), (5, .int v5), (7, .int v7)] (by decide +kernel) (Nat.le_of_ble_eq_true rfl) rfl ?_
  refine aw_iinc (i := 7) (n := 1) B 7 [(7, .int (v7 + 1)), (6, .int x1), (0, .ref 0), (1, .int v1), (2, .int v2), (3, .int v3), (4, .int v4), (5, .int v5)] (by decide +kernel) rfl (Nat.le_of_ble_eq_true rfl) (v7 + 1) (ab_inc (by decide)) rfl ?_
  refine aw_goto (off := -44) B 30 (by decide +kernel) (by decide) ?_
  exact aw_sub [2, 3, 4, 5, 6, 7, 1, 0] rfl (hk30 _ _ _ _ _ _ _ _)
def f_X10_fewestProving_L30 (k17 : Int32 → Int32 → Int32 → Int32 → Int32 → Mem → Option (Int32 × Mem)) : Nat → Int32 → Int32 → Int32 → Int32 → Int32 → Int32 → Int32 → Mem → Option (Int32 × Mem)
  | 0, _, _, _, _, _, _, _, _ => none
  | n + 1, v1, v2, v3, v4, v5, v6, v7, M => (if (ab_shl (1 : Int32) v4) ≤ v7 then k17 v1 v2 v3 v4 (v5 + 1) M else (f_J6_bitCount_0f7a4 v6).bind fun x1 => (if x1 = v5 then bI (f_X10_isProved v6 v1 v2 M) fun x3 M4 => (if x3 = 0 then f_X10_fewestProving_b63 (fun a0 a1 a2 a3 a4 a5 a6 a7 => f_X10_fewestProving_L30 k17 n a0 a1 a2 a3 a4 a5 a6 a7) v1 v2 v3 v4 v5 v6 v7 M4 else (some (v6, M4))) else f_X10_fewestProving_b63 (fun a0 a1 a2 a3 a4 a5 a6 a7 => f_X10_fewestProving_L30 k17 n a0 a1 a2 a3 a4 a5 a6 a7) v1 v2 v3 v4 v5 v6 v7 M))
set_option maxRecDepth 100000 in
set_option maxHeartbeats 4000000 in
theorem w_X10_fewestProving_L30 {G : GW} {E : EE} (hG : ab_ok G) {k17 : Int32 → Int32 → Int32 → Int32 → Int32 → Mem → Option (Int32 × Mem)} (B : Bx G E RX10 cX10_fewestProving 8 7 (some .int)) (hk17 : ∀ (v1 : Int32) (v2 : Int32) (v3 : Int32) (v4 : Int32) (v5 : Int32) (M : Mem), AWo G E cX10_fewestProving 8 (ab_Q G E embI) 17 [(0, .ref 0), (1, .int v1), (2, .int v2), (3, .int v3), (4, .int v4), (5, .int v5)] [] M (k17 v1 v2 v3 v4 v5 M)) : ∀ (n : Nat) (v1 : Int32) (v2 : Int32) (v3 : Int32) (v4 : Int32) (v5 : Int32) (v6 : Int32) (v7 : Int32) (M : Mem), AWo G E cX10_fewestProving 8 (ab_Q G E embI) 30 [(0, .ref 0), (1, .int v1), (2, .int v2), (3, .int v3), (4, .int v4), (5, .int v5), (6, .int v6), (7, .int v7)] [] M (f_X10_fewestProving_L30 k17 n v1 v2 v3 v4 v5 v6 v7 M) := by
  intro n
  induction n with
  | zero => intro _ _ _ _ _ _ _ _; exact aw_none
  | succ n ih =>
    intro v1 v2 v3 v4 v5 v6 v7 M
    rw [f_X10_fewestProving_L30]
    refine aw_iload (i := 7) B 7 (by decide +kernel) rfl ?_
    refine aw_iconst (n := 1) (v := (1 : Int32)) B (by decide +kernel) (by decide) ?_
    refine aw_iload (i := 4) B 4 (by decide +kernel) rfl ?_
    refine aw_ishl B (by decide +kernel) ?_
    refine aw_icmp_ge (off := 41) B 77 (by decide +kernel) (by decide) (fun _ => ?_) (fun _ => ?_)
    · refine aw_iinc (i := 5) (n := 1) B 5 [(5, .int (v5 + 1)), (0, .ref 0), (1, .int v1), (2, .int v2), (3, .int v3), (4, .int v4), (6, .int v6), (7, .int v7)] (by decide +kernel) rfl (Nat.le_of_ble_eq_true rfl) (v5 + 1) (ab_inc (by decide)) rfl ?_
      refine aw_goto (off := -63) B 17 (by decide +kernel) (by decide) ?_
      exact aw_sub [1, 2, 3, 4, 5, 0] rfl (hk17 _ _ _ _ _ _)
    · refine aw_iload (i := 6) B 6 (by decide +kernel) rfl ?_
      refine aw_cSR B (c_J6_bitCount_0f7a4 (eLa E) hG v6 M) csX10_254 (Nat.le_of_ble_eq_true rfl) rfl (Nat.le_of_ble_eq_true rfl) (by decide +kernel) rfl (fun x1 => ?_)
      refine aw_iload (i := 5) B 5 (by decide +kernel) rfl ?_
      refine aw_icmp_ne (off := 17) B 63 (by decide +kernel) (by decide) (fun _ => ?_) (fun _ => ?_)
      · exact w_X10_fewestProving_b63 hG B ih _ _ _ _ _ _ _ _
      · refine aw_aload_n (k0 := 0) B 0 (by decide +kernel) rfl rfl ?_
        refine aw_iload (i := 6) B 6 (by decide +kernel) rfl ?_
        refine aw_iload_n (k0 := 1) B 1 (by decide +kernel) rfl rfl ?_
        refine aw_iload_n (k0 := 2) B 2 (by decide +kernel) rfl rfl ?_
        refine aw_cVI B (c_X10_isProved (eLa E) hG v6 v1 v2 M) cvX10_259 rfl rfl (Nat.le_of_ble_eq_true rfl) rfl (Nat.le_of_ble_eq_true rfl) (by decide +kernel) rfl (fun x3 M4 => ?_)
        refine aw_if_eq (off := 6) B 63 (by decide +kernel) (by decide) (fun _ => ?_) (fun _ => ?_)
        · exact w_X10_fewestProving_b63 hG B ih _ _ _ _ _ _ _ _
        · refine aw_iload (i := 6) B 6 (by decide +kernel) rfl ?_
          exact aw_ireturn B (by decide +kernel) rfl
def f_X10_fewestProving_L17 : Nat → Int32 → Int32 → Int32 → Int32 → Int32 → Mem → Option (Int32 × Mem)
  | 0, _, _, _, _, _, _ => none
  | n + 1, v1, v2, v3, v4, v5, M => (if v4 < v5 then (some (v3, M)) else f_X10_fewestProving_L30 (fun a0 a1 a2 a3 a4 a5 => f_X10_fewestProving_L17 n a0 a1 a2 a3 a4 a5) FU v1 v2 v3 v4 v5 (0 : Int32) (0 : Int32) M)
set_option maxRecDepth 100000 in
set_option maxHeartbeats 4000000 in
theorem w_X10_fewestProving_L17 {G : GW} {E : EE} (hG : ab_ok G) (B : Bx G E RX10 cX10_fewestProving 8 7 (some .int)) : ∀ (n : Nat) (v1 : Int32) (v2 : Int32) (v3 : Int32) (v4 : Int32) (v5 : Int32) (M : Mem), AWo G E cX10_fewestProving 8 (ab_Q G E embI) 17 [(0, .ref 0), (1, .int v1), (2, .int v2), (3, .int v3), (4, .int v4), (5, .int v5)] [] M (f_X10_fewestProving_L17 n v1 v2 v3 v4 v5 M) := by
  intro n
  induction n with
  | zero => intro _ _ _ _ _ _; exact aw_none
  | succ n ih =>
    intro v1 v2 v3 v4 v5 M
    rw [f_X10_fewestProving_L17]
    refine aw_iload (i := 5) B 5 (by decide +kernel) rfl ?_
    refine aw_iload (i := 4) B 4 (by decide +kernel) rfl ?_
    refine aw_icmp_gt (off := 62) B 83 (by decide +kernel) (by decide) (fun _ => ?_) (fun _ => ?_)
    · refine aw_iload_n (k0 := 3) B 3 (by decide +kernel) rfl rfl ?_
      exact aw_ireturn B (by decide +kernel) rfl
    · refine aw_iconst (n := 0) (v := (0 : Int32)) B (by decide +kernel) (by decide) ?_
      refine aw_istore (i := 6) B [(6, .int (0 : Int32)), (0, .ref 0), (1, .int v1), (2, .int v2), (3, .int v3), (4, .int v4), (5, .int v5)] (by decide +kernel) (Nat.le_of_ble_eq_true rfl) rfl ?_
      refine aw_iconst (n := 0) (v := (0 : Int32)) B (by decide +kernel) (by decide) ?_
      refine aw_istore (i := 7) B [(7, .int (0 : Int32)), (6, .int (0 : Int32)), (0, .ref 0), (1, .int v1), (2, .int v2), (3, .int v3), (4, .int v4), (5, .int v5)] (by decide +kernel) (Nat.le_of_ble_eq_true rfl) rfl ?_
      exact aw_sub [2, 3, 4, 5, 6, 7, 1, 0] rfl (w_X10_fewestProving_L30 hG B ih FU _ _ _ _ _ _ _ _)
def f_X10_fewestProving (v1 : Int32) (v2 : Int32) (M : Mem) : Option (Int32 × Mem) := (f_X4_countingOnce M).bind fun x1 => (f_J6_bitCount_0f7a4 x1).bind fun x3 => f_X10_fewestProving_L17 FU v1 v2 x1 x3 (0 : Int32) M
set_option maxRecDepth 100000 in
set_option maxHeartbeats 4000000 in
theorem w_X10_fewestProving {G : GW} {E : EE} (hG : ab_ok G) (B : Bx G E RX10 cX10_fewestProving 8 7 (some .int)) (v1 : Int32) (v2 : Int32) (M : Mem) : AWo G E cX10_fewestProving 8 (ab_Q G E embI) 0 [(0, .ref 0), (1, .int v1), (2, .int v2)] [] M (f_X10_fewestProving v1 v2 M) := by
  unfold f_X10_fewestProving
  refine aw_aload_n (k0 := 0) B 0 (by decide +kernel) rfl rfl ?_
  refine aw_getr (c := 0) B lkX10_10 (by decide +kernel) rfl (r := 1) rfl ?_
  refine aw_cVR B (c_X4_countingOnce (eLa E) hG M) cvX10_251 rfl rfl (Nat.le_of_ble_eq_true rfl) rfl (Nat.le_of_ble_eq_true rfl) (by decide +kernel) rfl (fun x1 => ?_)
  refine aw_istore_n (k0 := 3) B [(3, .int x1), (0, .ref 0), (1, .int v1), (2, .int v2)] (by decide +kernel) rfl (Nat.le_of_ble_eq_true rfl) rfl ?_
  refine aw_iload_n (k0 := 3) B 0 (by decide +kernel) rfl rfl ?_
  refine aw_cSR B (c_J6_bitCount_0f7a4 (eLa E) hG x1 M) csX10_254 (Nat.le_of_ble_eq_true rfl) rfl (Nat.le_of_ble_eq_true rfl) (by decide +kernel) rfl (fun x3 => ?_)
  refine aw_istore (i := 4) B [(4, .int x3), (3, .int x1), (0, .ref 0), (1, .int v1), (2, .int v2)] (by decide +kernel) (Nat.le_of_ble_eq_true rfl) rfl ?_
  refine aw_iconst (n := 0) (v := (0 : Int32)) B (by decide +kernel) (by decide) ?_
  refine aw_istore (i := 5) B [(5, .int (0 : Int32)), (4, .int x3), (3, .int x1), (0, .ref 0), (1, .int v1), (2, .int v2)] (by decide +kernel) (Nat.le_of_ble_eq_true rfl) rfl ?_
  exact aw_sub [3, 4, 5, 2, 1, 0] rfl (w_X10_fewestProving_L17 hG B FU _ _ _ _ _ _)
theorem c_X10_fewestProving (l : Launch) {G : GW} (hG : ab_ok G) (v1 : Int32) (v2 : Int32) (M : Mem) : AC l G yX10_fewestProving cX10_fewestProving 8 (some .int) 7 [.ref 0, .int v1, .int v2] M embI (f_X10_fewestProving v1 v2 M) := AC.of hG (by decide) (Nat.le_of_ble_eq_true rfl) (fun E hE B => by subst hE; exact w_X10_fewestProving hG B v1 v2 M)
def f_X10_proof (v1 : Int32) (M : Mem) : Option (Int32 × Mem) := (f_X10_isQuestion v1 M).bind fun x1 => (if x1 = 0 then (some ((-1 : Int32), M)) else (if (M.1 1 0) = 0 then (some ((-5 : Int32), M)) else (if (M.1 1 0) ≤ (5 : Int32) then (f_X10_tallied M).bind fun M4 => (f_X7_answers_11 (v1 / (10 : Int32)) (ab_rem v1 (10 : Int32)) M4).bind fun x5 => (if x5 = (1 : Int32) then bI (f_X10_fewestProving (v1 / (10 : Int32)) (ab_rem v1 (10 : Int32)) M4) fun x7 M8 => (some (x7, M8)) else (some ((-2 : Int32), M4))) else (some ((-5 : Int32), M)))))
set_option maxRecDepth 100000 in
set_option maxHeartbeats 4000000 in
theorem w_X10_proof {G : GW} {E : EE} (hG : ab_ok G) (B : Bx G E RX10 cX10_proof 2 8 (some .int)) (v1 : Int32) (M : Mem) : AWo G E cX10_proof 2 (ab_Q G E embI) 0 [(0, .ref 0), (1, .int v1)] [] M (f_X10_proof v1 M) := by
  unfold f_X10_proof
  refine aw_aload_n (k0 := 0) B 0 (by decide +kernel) rfl rfl ?_
  refine aw_iload_n (k0 := 1) B 1 (by decide +kernel) rfl rfl ?_
  refine aw_cVR B (c_X10_isQuestion (eLa E) hG v1 M) cvX10_208 rfl rfl (Nat.le_of_ble_eq_true rfl) rfl (Nat.le_of_ble_eq_true rfl) (by decide +kernel) rfl (fun x1 => ?_)
  refine aw_if_ne (off := 5) B 10 (by decide +kernel) (by decide) (fun _ => ?_) (fun _ => ?_)
  · refine aw_aload_n (k0 := 0) B 0 (by decide +kernel) rfl rfl ?_
    refine aw_getr (c := 0) B lkX10_10 (by decide +kernel) rfl (r := 1) rfl ?_
    refine aw_geti (c := 1) B lkX10_167 (by decide +kernel) rfl ?_
    refine aw_if_eq (off := 14) B 31 (by decide +kernel) (by decide) (fun _ => ?_) (fun _ => ?_)
    · refine aw_bipush (n := -5) (v := (-5 : Int32)) B (by decide +kernel) (by decide) ?_
      exact aw_ireturn B (by decide +kernel) rfl
    · refine aw_aload_n (k0 := 0) B 0 (by decide +kernel) rfl rfl ?_
      refine aw_getr (c := 0) B lkX10_10 (by decide +kernel) rfl (r := 1) rfl ?_
      refine aw_geti (c := 1) B lkX10_167 (by decide +kernel) rfl ?_
      refine aw_iconst (n := 5) (v := (5 : Int32)) B (by decide +kernel) (by decide) ?_
      refine aw_icmp_le (off := 6) B 34 (by decide +kernel) (by decide) (fun _ => ?_) (fun _ => ?_)
      · refine aw_aload_n (k0 := 0) B 0 (by decide +kernel) rfl rfl ?_
        refine aw_cVA B (c_X10_tallied (eLa E) hG M) cvX10_171 rfl rfl (Nat.le_of_ble_eq_true rfl) rfl (Nat.le_of_ble_eq_true rfl) (by decide +kernel) rfl (fun M4 => ?_)
        refine aw_iload_n (k0 := 1) B 1 (by decide +kernel) rfl rfl ?_
        refine aw_bipush (n := 10) (v := (10 : Int32)) B (by decide +kernel) (by decide) ?_
        refine aw_idivK B (by decide +kernel) (by decide) ?_
        refine aw_iload_n (k0 := 1) B 1 (by decide +kernel) rfl rfl ?_
        refine aw_bipush (n := 10) (v := (10 : Int32)) B (by decide +kernel) (by decide) ?_
        refine aw_iremK B (by decide +kernel) (by decide) ?_
        refine aw_cVR B (c_X7_answers_11 (eLa E) hG (v1 / (10 : Int32)) (ab_rem v1 (10 : Int32)) M4) cvX10_211 rfl rfl (Nat.le_of_ble_eq_true rfl) rfl (Nat.le_of_ble_eq_true rfl) (by decide +kernel) rfl (fun x5 => ?_)
        refine aw_iconst (n := 1) (v := (1 : Int32)) B (by decide +kernel) (by decide) ?_
        refine aw_icmp_eq (off := 6) B 56 (by decide +kernel) (by decide) (fun _ => ?_) (fun _ => ?_)
        · refine aw_aload_n (k0 := 0) B 0 (by decide +kernel) rfl rfl ?_
          refine aw_iload_n (k0 := 1) B 1 (by decide +kernel) rfl rfl ?_
          refine aw_bipush (n := 10) (v := (10 : Int32)) B (by decide +kernel) (by decide) ?_
          refine aw_idivK B (by decide +kernel) (by decide) ?_
          refine aw_iload_n (k0 := 1) B 1 (by decide +kernel) rfl rfl ?_
          refine aw_bipush (n := 10) (v := (10 : Int32)) B (by decide +kernel) (by decide) ?_
          refine aw_iremK B (by decide +kernel) (by decide) ?_
          refine aw_cVI B (c_X10_fewestProving (eLa E) hG (v1 / (10 : Int32)) (ab_rem v1 (10 : Int32)) M4) cvX10_217 rfl rfl (Nat.le_of_ble_eq_true rfl) rfl (Nat.le_of_ble_eq_true rfl) (by decide +kernel) rfl (fun x7 M8 => ?_)
          exact aw_ireturn B (by decide +kernel) rfl
        · refine aw_bipush (n := -2) (v := (-2 : Int32)) B (by decide +kernel) (by decide) ?_
          exact aw_ireturn B (by decide +kernel) rfl
      · refine aw_bipush (n := -5) (v := (-5 : Int32)) B (by decide +kernel) (by decide) ?_
        exact aw_ireturn B (by decide +kernel) rfl
  · refine aw_iconst (n := -1) (v := (-1 : Int32)) B (by decide +kernel) (by decide) ?_
    exact aw_ireturn B (by decide +kernel) rfl
theorem c_X10_proof (l : Launch) {G : GW} (hG : ab_ok G) (v1 : Int32) (M : Mem) : AC l G yX10_proof cX10_proof 2 (some .int) 8 [.ref 0, .int v1] M embI (f_X10_proof v1 M) := AC.of hG (by decide) (Nat.le_of_ble_eq_true rfl) (fun E hE B => by subst hE; exact w_X10_proof hG B v1 M)
def f_X11_proof_b130 (k69 : Int32 → Int32 → Int32 → Int32 → Mem → Option (Int32 × Mem)) (v1 : Int32) (v2 : Int32) (v3 : Int32) (v4 : Int32) (M : Mem) : Option (Int32 × Mem) := k69 v1 v2 v3 (v4 + 1) M
set_option maxRecDepth 100000 in
set_option maxHeartbeats 4000000 in
theorem w_X11_proof_b130 {G : GW} {E : EE} (hG : ab_ok G) {k69 : Int32 → Int32 → Int32 → Int32 → Mem → Option (Int32 × Mem)} (B : Bx G E RX11 cX11_proof 5 46 (some .int)) (hk69 : ∀ (v1 : Int32) (v2 : Int32) (v3 : Int32) (v4 : Int32) (M : Mem), AWo G E cX11_proof 5 (ab_Q G E embI) 69 [(0, .ref 47), (1, .int v1), (2, .int v2), (3, .int v3), (4, .int v4)] [] M (k69 v1 v2 v3 v4 M)) (v1 : Int32) (v2 : Int32) (v3 : Int32) (v4 : Int32) (M : Mem) : AWo G E cX11_proof 5 (ab_Q G E embI) 130 [(0, .ref 47), (1, .int v1), (2, .int v2), (3, .int v3), (4, .int v4)] [] M (f_X11_proof_b130 k69 v1 v2 v3 v4 M) := by
  unfold f_X11_proof_b130
  refine aw_iinc (i := 4) (n := 1) B 4 [(4, .int (v4 + 1)), (0, .ref 47), (1, .int v1), (2, .int v2), (3, .int v3)] (by decide +kernel) rfl (Nat.le_of_ble_eq_true rfl) (v4 + 1) (ab_inc (by decide)) rfl ?_
  refine aw_goto (off := -64) B 69 (by decide +kernel) (by decide) ?_
  exact aw_sub [1, 2, 3, 4, 0] rfl (hk69 _ _ _ _ _)
def f_X11_proof_b129 (k69 : Int32 → Int32 → Int32 → Int32 → Mem → Option (Int32 × Mem)) (v1 : Int32) (v2 : Int32) (v4 : Int32) (s0 : Int32) (M : Mem) : Option (Int32 × Mem) := f_X11_proof_b130 k69 v1 v2 s0 v4 M
set_option maxRecDepth 100000 in
set_option maxHeartbeats 4000000 in
theorem w_X11_proof_b129 {G : GW} {E : EE} (hG : ab_ok G) {k69 : Int32 → Int32 → Int32 → Int32 → Mem → Option (Int32 × Mem)} (B : Bx G E RX11 cX11_proof 5 46 (some .int)) (hk69 : ∀ (v1 : Int32) (v2 : Int32) (v3 : Int32) (v4 : Int32) (M : Mem), AWo G E cX11_proof 5 (ab_Q G E embI) 69 [(0, .ref 47), (1, .int v1), (2, .int v2), (3, .int v3), (4, .int v4)] [] M (k69 v1 v2 v3 v4 M)) (v1 : Int32) (v2 : Int32) (v4 : Int32) (s0 : Int32) (M : Mem) : AWo G E cX11_proof 5 (ab_Q G E embI) 129 [(0, .ref 47), (1, .int v1), (2, .int v2), (4, .int v4)] [.int s0] M (f_X11_proof_b129 k69 v1 v2 v4 s0 M) := by
  unfold f_X11_proof_b129
  refine aw_istore_n (k0 := 3) B [(3, .int s0), (0, .ref 47), (1, .int v1), (2, .int v2), (4, .int v4)] (by decide +kernel) rfl (Nat.le_of_ble_eq_true rfl) rfl ?_
  exact aw_sub [1, 2, 3, 0, 4] rfl (w_X11_proof_b130 hG B hk69 _ _ _ _ _)
def f_X11_proof_L69 : Nat → Int32 → Int32 → Int32 → Int32 → Mem → Option (Int32 × Mem)
  | 0, _, _, _, _, _ => none
  | n + 1, v1, v2, v3, v4, M => (if (ab_shl (1 : Int32) (M.1 47 7)) ≤ v4 then (some (v3, M)) else (if (v4 &&& (v2 ^^^ (-1 : Int32))) = 0 then (f_X11_bitsOf v4).bind fun x1 => (f_X11_bitsOf v3).bind fun x3 => (if x3 ≤ x1 then f_X11_proof_b130 (fun a0 a1 a2 a3 a4 => f_X11_proof_L69 n a0 a1 a2 a3 a4) v1 v2 v3 v4 M else (f_X11_goesThrough v4 (v1 / (10 : Int32)) (ab_rem v1 (10 : Int32)) M).bind fun M6 => (if (2 : Int32) ≤ (M6.1 47 27) then f_X11_proof_b129 (fun a0 a1 a2 a3 a4 => f_X11_proof_L69 n a0 a1 a2 a3 a4) v1 v2 v4 v3 M6 else f_X11_proof_b129 (fun a0 a1 a2 a3 a4 => f_X11_proof_L69 n a0 a1 a2 a3 a4) v1 v2 v4 v4 M6)) else f_X11_proof_b130 (fun a0 a1 a2 a3 a4 => f_X11_proof_L69 n a0 a1 a2 a3 a4) v1 v2 v3 v4 M))
set_option maxRecDepth 100000 in
set_option maxHeartbeats 4000000 in
theorem w_X11_proof_L69 {G : GW} {E : EE} (hG : ab_ok G) (B : Bx G E RX11 cX11_proof 5 46 (some .int)) : ∀ (n : Nat) (v1 : Int32) (v2 : Int32) (v3 : Int32) (v4 : Int32) (M : Mem), AWo G E cX11_proof 5 (ab_Q G E embI) 69 [(0, .ref 47), (1, .int v1), (2, .int v2), (3, .int v3), (4, .int v4)] [] M (f_X11_proof_L69 n v1 v2 v3 v4 M) := by
  intro n
  induction n with
  | zero => intro _ _ _ _ _; exact aw_none
  | succ n ih =>
    intro v1 v2 v3 v4 M
    rw [f_X11_proof_L69]
    refine aw_iload (i := 4) B 4 (by decide +kernel) rfl ?_
    refine aw_iconst (n := 1) (v := (1 : Int32)) B (by decide +kernel) (by decide) ?_
    refine aw_aload_n (k0 := 0) B 0 (by decide +kernel) rfl rfl ?_
    refine aw_geti (c := 47) B lkX11_116 (by decide +kernel) rfl ?_
    refine aw_ishl B (by decide +kernel) ?_
    refine aw_icmp_ge (off := 59) B 136 (by decide +kernel) (by decide) (fun _ => ?_) (fun _ => ?_)
    · refine aw_iload_n (k0 := 3) B 3 (by decide +kernel) rfl rfl ?_
      exact aw_ireturn B (by decide +kernel) rfl
    · refine aw_iload (i := 4) B 4 (by decide +kernel) rfl ?_
      refine aw_iload_n (k0 := 2) B 2 (by decide +kernel) rfl rfl ?_
      refine aw_iconst (n := -1) (v := (-1 : Int32)) B (by decide +kernel) (by decide) ?_
      refine aw_ixor B (by decide +kernel) ?_
      refine aw_iand B (by decide +kernel) ?_
      refine aw_if_ne (off := 44) B 130 (by decide +kernel) (by decide) (fun _ => ?_) (fun _ => ?_)
      · exact w_X11_proof_b130 hG B ih _ _ _ _ _
      · refine aw_iload (i := 4) B 4 (by decide +kernel) rfl ?_
        refine aw_cSR B (c_X11_bitsOf (eLa E) hG v4 M) csX11_258 (Nat.le_of_ble_eq_true rfl) rfl (Nat.le_of_ble_eq_true rfl) (by decide +kernel) rfl (fun x1 => ?_)
        refine aw_iload_n (k0 := 3) B 3 (by decide +kernel) rfl rfl ?_
        refine aw_cSR B (c_X11_bitsOf (eLa E) hG v3 M) csX11_258 (Nat.le_of_ble_eq_true rfl) rfl (Nat.le_of_ble_eq_true rfl) (by decide +kernel) rfl (fun x3 => ?_)
        refine aw_icmp_ge (off := 32) B 130 (by decide +kernel) (by decide) (fun _ => ?_) (fun _ => ?_)
        · exact w_X11_proof_b130 hG B ih _ _ _ _ _
        · refine aw_aload_n (k0 := 0) B 0 (by decide +kernel) rfl rfl ?_
          refine aw_iload (i := 4) B 4 (by decide +kernel) rfl ?_
          refine aw_iload_n (k0 := 1) B 1 (by decide +kernel) rfl rfl ?_
          refine aw_bipush (n := 10) (v := (10 : Int32)) B (by decide +kernel) (by decide) ?_
          refine aw_idivK B (by decide +kernel) (by decide) ?_
          refine aw_iload_n (k0 := 1) B 1 (by decide +kernel) rfl rfl ?_
          refine aw_bipush (n := 10) (v := (10 : Int32)) B (by decide +kernel) (by decide) ?_
          refine aw_iremK B (by decide +kernel) (by decide) ?_
          refine aw_cVV B (c_X11_goesThrough (eLa E) hG v4 (v1 / (10 : Int32)) (ab_rem v1 (10 : Int32)) M) cvX11_251 rfl rfl (Nat.le_of_ble_eq_true rfl) rfl (Nat.le_of_ble_eq_true rfl) (by decide +kernel) rfl (fun M6 => ?_)
          refine aw_aload_n (k0 := 0) B 0 (by decide +kernel) rfl rfl ?_
          refine aw_geti (c := 47) B lkX11_231 (by decide +kernel) rfl ?_
          refine aw_iconst (n := 2) (v := (2 : Int32)) B (by decide +kernel) (by decide) ?_
          refine aw_icmp_ge (off := 8) B 128 (by decide +kernel) (by decide) (fun _ => ?_) (fun _ => ?_)
          · refine aw_iload_n (k0 := 3) B 3 (by decide +kernel) rfl rfl ?_
            exact aw_sub [0, 1, 2, 4] rfl (w_X11_proof_b129 hG B ih _ _ _ _ _)
          · refine aw_iload (i := 4) B 4 (by decide +kernel) rfl ?_
            refine aw_goto (off := 4) B 129 (by decide +kernel) (by decide) ?_
            exact aw_sub [0, 1, 2, 4] rfl (w_X11_proof_b129 hG B ih _ _ _ _ _)
def f_X11_proof (v1 : Int32) (M : Mem) : Option (Int32 × Mem) := (f_X11_isQuestion v1 M).bind fun x1 => (if x1 = 0 then (some ((-1 : Int32), M)) else (if (M.1 47 6) = 0 then (some ((-5 : Int32), M)) else (if (M.1 47 6) ≤ (5 : Int32) then (f_X11_allThatCount M).bind fun x3 => (f_X11_goesThrough x3 (v1 / (10 : Int32)) (ab_rem v1 (10 : Int32)) M).bind fun M6 => (if (M6.1 47 22) = 0 then (some ((-2 : Int32), M6)) else (if (M6.1 47 27) ≤ (1 : Int32) then f_X11_proof_L69 FU v1 x3 x3 (0 : Int32) M6 else (some ((-2 : Int32), M6)))) else (some ((-5 : Int32), M)))))
set_option maxRecDepth 100000 in
set_option maxHeartbeats 4000000 in
theorem w_X11_proof {G : GW} {E : EE} (hG : ab_ok G) (B : Bx G E RX11 cX11_proof 5 46 (some .int)) (v1 : Int32) (M : Mem) : AWo G E cX11_proof 5 (ab_Q G E embI) 0 [(0, .ref 47), (1, .int v1)] [] M (f_X11_proof v1 M) := by
  unfold f_X11_proof
  refine aw_aload_n (k0 := 0) B 0 (by decide +kernel) rfl rfl ?_
  refine aw_iload_n (k0 := 1) B 1 (by decide +kernel) rfl rfl ?_
  refine aw_cVR B (c_X11_isQuestion (eLa E) hG v1 M) cvX11_261 rfl rfl (Nat.le_of_ble_eq_true rfl) rfl (Nat.le_of_ble_eq_true rfl) (by decide +kernel) rfl (fun x1 => ?_)
  refine aw_if_ne (off := 5) B 10 (by decide +kernel) (by decide) (fun _ => ?_) (fun _ => ?_)
  · refine aw_aload_n (k0 := 0) B 0 (by decide +kernel) rfl rfl ?_
    refine aw_geti (c := 47) B lkX11_109 (by decide +kernel) rfl ?_
    refine aw_if_eq (off := 11) B 25 (by decide +kernel) (by decide) (fun _ => ?_) (fun _ => ?_)
    · refine aw_bipush (n := -5) (v := (-5 : Int32)) B (by decide +kernel) (by decide) ?_
      exact aw_ireturn B (by decide +kernel) rfl
    · refine aw_aload_n (k0 := 0) B 0 (by decide +kernel) rfl rfl ?_
      refine aw_geti (c := 47) B lkX11_109 (by decide +kernel) rfl ?_
      refine aw_iconst (n := 5) (v := (5 : Int32)) B (by decide +kernel) (by decide) ?_
      refine aw_icmp_le (off := 6) B 28 (by decide +kernel) (by decide) (fun _ => ?_) (fun _ => ?_)
      · refine aw_aload_n (k0 := 0) B 0 (by decide +kernel) rfl rfl ?_
        refine aw_cVR B (c_X11_allThatCount (eLa E) hG M) cvX11_248 rfl rfl (Nat.le_of_ble_eq_true rfl) rfl (Nat.le_of_ble_eq_true rfl) (by decide +kernel) rfl (fun x3 => ?_)
        refine aw_istore_n (k0 := 2) B [(2, .int x3), (0, .ref 47), (1, .int v1)] (by decide +kernel) rfl (Nat.le_of_ble_eq_true rfl) rfl ?_
        refine aw_aload_n (k0 := 0) B 1 (by decide +kernel) rfl rfl ?_
        refine aw_iload_n (k0 := 2) B 0 (by decide +kernel) rfl rfl ?_
        refine aw_iload_n (k0 := 1) B 2 (by decide +kernel) rfl rfl ?_
        refine aw_bipush (n := 10) (v := (10 : Int32)) B (by decide +kernel) (by decide) ?_
        refine aw_idivK B (by decide +kernel) (by decide) ?_
        refine aw_iload_n (k0 := 1) B 2 (by decide +kernel) rfl rfl ?_
        refine aw_bipush (n := 10) (v := (10 : Int32)) B (by decide +kernel) (by decide) ?_
        refine aw_iremK B (by decide +kernel) (by decide) ?_
        refine aw_cVV B (c_X11_goesThrough (eLa E) hG x3 (v1 / (10 : Int32)) (ab_rem v1 (10 : Int32)) M) cvX11_251 rfl rfl (Nat.le_of_ble_eq_true rfl) rfl (Nat.le_of_ble_eq_true rfl) (by decide +kernel) rfl (fun M6 => ?_)
        refine aw_aload_n (k0 := 0) B 1 (by decide +kernel) rfl rfl ?_
        refine aw_geti (c := 47) B lkX11_225 (by decide +kernel) rfl ?_
        refine aw_if_eq (off := 11) B 61 (by decide +kernel) (by decide) (fun _ => ?_) (fun _ => ?_)
        · refine aw_bipush (n := -2) (v := (-2 : Int32)) B (by decide +kernel) (by decide) ?_
          exact aw_ireturn B (by decide +kernel) rfl
        · refine aw_aload_n (k0 := 0) B 1 (by decide +kernel) rfl rfl ?_
          refine aw_geti (c := 47) B lkX11_231 (by decide +kernel) rfl ?_
          refine aw_iconst (n := 1) (v := (1 : Int32)) B (by decide +kernel) (by decide) ?_
          refine aw_icmp_le (off := 6) B 64 (by decide +kernel) (by decide) (fun _ => ?_) (fun _ => ?_)
          · refine aw_iload_n (k0 := 2) B 0 (by decide +kernel) rfl rfl ?_
            refine aw_istore_n (k0 := 3) B [(3, .int x3), (2, .int x3), (0, .ref 47), (1, .int v1)] (by decide +kernel) rfl (Nat.le_of_ble_eq_true rfl) rfl ?_
            refine aw_iconst (n := 0) (v := (0 : Int32)) B (by decide +kernel) (by decide) ?_
            refine aw_istore (i := 4) B [(4, .int (0 : Int32)), (3, .int x3), (2, .int x3), (0, .ref 47), (1, .int v1)] (by decide +kernel) (Nat.le_of_ble_eq_true rfl) rfl ?_
            exact aw_sub [3, 4, 2, 1, 0] rfl (w_X11_proof_L69 hG B FU _ _ _ _ _)
          · refine aw_bipush (n := -2) (v := (-2 : Int32)) B (by decide +kernel) (by decide) ?_
            exact aw_ireturn B (by decide +kernel) rfl
      · refine aw_bipush (n := -5) (v := (-5 : Int32)) B (by decide +kernel) (by decide) ?_
        exact aw_ireturn B (by decide +kernel) rfl
  · refine aw_iconst (n := -1) (v := (-1 : Int32)) B (by decide +kernel) (by decide) ?_
    exact aw_ireturn B (by decide +kernel) rfl
theorem c_X11_proof (l : Launch) {G : GW} (hG : ab_ok G) (v1 : Int32) (M : Mem) : AC l G yX11_proof cX11_proof 5 (some .int) 46 [.ref 47, .int v1] M embI (f_X11_proof v1 M) := AC.of hG (by decide) (Nat.le_of_ble_eq_true rfl) (fun E hE B => by subst hE; exact w_X11_proof hG B v1 M)
def f_X8_isFor (v0 : Int32) : Option Int32 := (if v0 < (1 : Int32) then (some (0 : Int32)) else (if (4 : Int32) < v0 then (some (0 : Int32)) else (some (1 : Int32))))
set_option maxRecDepth 100000 in
set_option maxHeartbeats 4000000 in
theorem w_X8_isFor {G : GW} {E : EE} (hG : ab_ok G) (B : Bx G E RX8 cX8_isFor 1 2 (some .boolean)) (v0 : Int32) (M : Mem) : AWo G E cX8_isFor 1 (ab_Q G E (embRI M)) 0 [(0, .int v0)] [] M (f_X8_isFor v0) := by
  unfold f_X8_isFor
  refine aw_iload_n (k0 := 0) B 0 (by decide +kernel) rfl rfl ?_
  refine aw_iconst (n := 1) (v := (1 : Int32)) B (by decide +kernel) (by decide) ?_
  refine aw_icmp_lt (off := 12) B 14 (by decide +kernel) (by decide) (fun _ => ?_) (fun _ => ?_)
  · refine aw_iconst (n := 0) (v := (0 : Int32)) B (by decide +kernel) (by decide) ?_
    exact aw_zreturnK B (by decide +kernel) rfl (by decide)
  · refine aw_iload_n (k0 := 0) B 0 (by decide +kernel) rfl rfl ?_
    refine aw_iconst (n := 4) (v := (4 : Int32)) B (by decide +kernel) (by decide) ?_
    refine aw_icmp_gt (off := 7) B 14 (by decide +kernel) (by decide) (fun _ => ?_) (fun _ => ?_)
    · refine aw_iconst (n := 0) (v := (0 : Int32)) B (by decide +kernel) (by decide) ?_
      exact aw_zreturnK B (by decide +kernel) rfl (by decide)
    · refine aw_iconst (n := 1) (v := (1 : Int32)) B (by decide +kernel) (by decide) ?_
      refine aw_goto (off := 4) B 15 (by decide +kernel) (by decide) ?_
      exact aw_zreturnK B (by decide +kernel) rfl (by decide)
theorem c_X8_isFor (l : Launch) {G : GW} (hG : ab_ok G) (v0 : Int32) (M : Mem) : AC l G yX8_isFor cX8_isFor 1 (some .boolean) 2 [.int v0] M (embRI M) (f_X8_isFor v0) := AC.of hG (by decide) (Nat.le_of_ble_eq_true rfl) (fun E hE B => by subst hE; exact w_X8_isFor hG B v0 M)
def f_X8_begin_b170 (k118 : Int32 → Int32 → Mem → Option Mem) (v5 : Int32) (v6 : Int32) (M : Mem) : Option Mem := k118 v5 (v6 + 1) M
set_option maxRecDepth 100000 in
set_option maxHeartbeats 4000000 in
theorem w_X8_begin_b170 {G : GW} {E : EE} (hG : ab_ok G) {k118 : Int32 → Int32 → Mem → Option Mem} (B : Bx G E RX8 cX8_begin 7 6 none) (hk118 : ∀ (v5 : Int32) (v6 : Int32) (M : Mem), AWo G E cX8_begin 7 (ab_Q G E embV) 118 [(0, .ref 14), (1, .ref 11), (5, .int v5), (6, .int v6)] [] M (k118 v5 v6 M)) (v5 : Int32) (v6 : Int32) (M : Mem) : AWo G E cX8_begin 7 (ab_Q G E embV) 170 [(0, .ref 14), (1, .ref 11), (5, .int v5), (6, .int v6)] [] M (f_X8_begin_b170 k118 v5 v6 M) := by
  unfold f_X8_begin_b170
  refine aw_iinc (i := 6) (n := 1) B 3 [(6, .int (v6 + 1)), (0, .ref 14), (1, .ref 11), (5, .int v5)] (by decide +kernel) rfl (Nat.le_of_ble_eq_true rfl) (v6 + 1) (ab_inc (by decide)) rfl ?_
  refine aw_goto (off := -55) B 118 (by decide +kernel) (by decide) ?_
  exact aw_sub [1, 2, 3, 0] rfl (hk118 _ _ _)
def f_X8_begin_L118 (k106 : Int32 → Mem → Option Mem) : Nat → Int32 → Int32 → Mem → Option Mem
  | 0, _, _, _ => none
  | n + 1, v5, v6, M => (if (M.1 14 3) ≤ v6 then k106 (v5 + 1) M else (if (M.1 14 7) = 0 then f_X8_begin_b170 (fun a0 a1 a2 => f_X8_begin_L118 k106 n a0 a1 a2) v5 v6 M else (if v5 = v6 then f_X8_begin_b170 (fun a0 a1 a2 => f_X8_begin_L118 k106 n a0 a1 a2) v5 v6 M else (f_X7_isBetter v5 v6 M).bind fun x1 => (if x1 = 0 then f_X8_begin_b170 (fun a0 a1 a2 => f_X8_begin_L118 k106 n a0 a1 a2) v5 v6 M else lt (wI M 14 6 ((M.1 14 6) ||| (ab_shl (1 : Int32) (((4 : Int32) * v6) + v5)))) fun M3 => f_X8_begin_b170 (fun a0 a1 a2 => f_X8_begin_L118 k106 n a0 a1 a2) v5 v6 M3))))
set_option maxRecDepth 100000 in
set_option maxHeartbeats 4000000 in
theorem w_X8_begin_L118 {G : GW} {E : EE} (hG : ab_ok G) {k106 : Int32 → Mem → Option Mem} (B : Bx G E RX8 cX8_begin 7 6 none) (hk106 : ∀ (v5 : Int32) (M : Mem), AWo G E cX8_begin 7 (ab_Q G E embV) 106 [(0, .ref 14), (1, .ref 11), (5, .int v5)] [] M (k106 v5 M)) : ∀ (n : Nat) (v5 : Int32) (v6 : Int32) (M : Mem), AWo G E cX8_begin 7 (ab_Q G E embV) 118 [(0, .ref 14), (1, .ref 11), (5, .int v5), (6, .int v6)] [] M (f_X8_begin_L118 k106 n v5 v6 M) := by
  intro n
  induction n with
  | zero => intro _ _ _; exact aw_none
  | succ n ih =>
    intro v5 v6 M
    rw [f_X8_begin_L118]
    refine aw_iload (i := 6) B 3 (by decide +kernel) rfl ?_
    refine aw_aload_n (k0 := 0) B 0 (by decide +kernel) rfl rfl ?_
    refine aw_geti (c := 14) B lkX8_23 (by decide +kernel) rfl ?_
    refine aw_icmp_ge (off := 52) B 176 (by decide +kernel) (by decide) (fun _ => ?_) (fun _ => ?_)
    · refine aw_iinc (i := 5) (n := 1) B 2 [(5, .int (v5 + 1)), (0, .ref 14), (1, .ref 11), (6, .int v6)] (by decide +kernel) rfl (Nat.le_of_ble_eq_true rfl) (v5 + 1) (ab_inc (by decide)) rfl ?_
      refine aw_goto (off := -73) B 106 (by decide +kernel) (by decide) ?_
      exact aw_sub [1, 2, 0] rfl (hk106 _ _)
    · refine aw_aload_n (k0 := 0) B 0 (by decide +kernel) rfl rfl ?_
      refine aw_geti (c := 14) B lkX8_44 (by decide +kernel) rfl ?_
      refine aw_if_eq (off := 39) B 170 (by decide +kernel) (by decide) (fun _ => ?_) (fun _ => ?_)
      · exact w_X8_begin_b170 hG B ih _ _ _
      · refine aw_iload (i := 5) B 2 (by decide +kernel) rfl ?_
        refine aw_iload (i := 6) B 3 (by decide +kernel) rfl ?_
        refine aw_icmp_eq (off := 32) B 170 (by decide +kernel) (by decide) (fun _ => ?_) (fun _ => ?_)
        · exact w_X8_begin_b170 hG B ih _ _ _
        · refine aw_aload_n (k0 := 1) B 1 (by decide +kernel) rfl rfl ?_
          refine aw_iload (i := 5) B 2 (by decide +kernel) rfl ?_
          refine aw_iload (i := 6) B 3 (by decide +kernel) rfl ?_
          refine aw_cVR B (c_X7_isBetter (eLa E) hG v5 v6 M) cvX8_51 rfl rfl (Nat.le_of_ble_eq_true rfl) rfl (Nat.le_of_ble_eq_true rfl) (by decide +kernel) rfl (fun x1 => ?_)
          refine aw_if_eq (off := 21) B 170 (by decide +kernel) (by decide) (fun _ => ?_) (fun _ => ?_)
          · exact w_X8_begin_b170 hG B ih _ _ _
          · refine aw_aload_n (k0 := 0) B 0 (by decide +kernel) rfl rfl ?_
            refine aw_dup B (by decide +kernel) rfl ?_
            refine aw_geti (c := 14) B lkX8_48 (by decide +kernel) rfl ?_
            refine aw_iconst (n := 1) (v := (1 : Int32)) B (by decide +kernel) (by decide) ?_
            refine aw_iconst (n := 4) (v := (4 : Int32)) B (by decide +kernel) (by decide) ?_
            refine aw_iload (i := 6) B 3 (by decide +kernel) rfl ?_
            refine aw_imul B (by decide +kernel) ?_
            refine aw_iload (i := 5) B 2 (by decide +kernel) rfl ?_
            refine aw_iadd B (by decide +kernel) ?_
            refine aw_ishl B (by decide +kernel) ?_
            refine aw_ior B (by decide +kernel) ?_
            refine aw_puti (c := 14) B lkX8_48 lp8_6 (by decide +kernel) rfl (fun M3 => ?_)
            exact w_X8_begin_b170 hG B ih _ _ _
def f_X8_begin_L106 : Nat → Int32 → Mem → Option Mem
  | 0, _, _ => none
  | n + 1, v5, M => (if (M.1 14 3) ≤ v5 then (some M) else f_X8_begin_L118 (fun a0 a1 => f_X8_begin_L106 n a0 a1) FU v5 (0 : Int32) M)
set_option maxRecDepth 100000 in
set_option maxHeartbeats 4000000 in
theorem w_X8_begin_L106 {G : GW} {E : EE} (hG : ab_ok G) (B : Bx G E RX8 cX8_begin 7 6 none) : ∀ (n : Nat) (v5 : Int32) (M : Mem), AWo G E cX8_begin 7 (ab_Q G E embV) 106 [(0, .ref 14), (1, .ref 11), (5, .int v5)] [] M (f_X8_begin_L106 n v5 M) := by
  intro n
  induction n with
  | zero => intro _ _; exact aw_none
  | succ n ih =>
    intro v5 M
    rw [f_X8_begin_L106]
    refine aw_iload (i := 5) B 2 (by decide +kernel) rfl ?_
    refine aw_aload_n (k0 := 0) B 0 (by decide +kernel) rfl rfl ?_
    refine aw_geti (c := 14) B lkX8_23 (by decide +kernel) rfl ?_
    refine aw_icmp_ge (off := 70) B 182 (by decide +kernel) (by decide) (fun _ => ?_) (fun _ => ?_)
    · exact aw_vreturn B (by decide +kernel) rfl
    · refine aw_iconst (n := 0) (v := (0 : Int32)) B (by decide +kernel) (by decide) ?_
      refine aw_istore (i := 6) B [(6, .int (0 : Int32)), (0, .ref 14), (1, .ref 11), (5, .int v5)] (by decide +kernel) (Nat.le_of_ble_eq_true rfl) rfl ?_
      exact aw_sub [1, 2, 3, 0] rfl (w_X8_begin_L118 hG B ih FU _ _ _)
def f_X8_begin_b95 (s0 : Int32) (M : Mem) : Option Mem := ck (okB s0) (lt (wI M 14 7 s0) fun M1 => lt (wI M1 14 6 (0 : Int32)) fun M2 => f_X8_begin_L106 FU (0 : Int32) M2)
set_option maxRecDepth 100000 in
set_option maxHeartbeats 4000000 in
theorem w_X8_begin_b95 {G : GW} {E : EE} (hG : ab_ok G) (B : Bx G E RX8 cX8_begin 7 6 none) (s0 : Int32) (M : Mem) : AWo G E cX8_begin 7 (ab_Q G E embV) 95 [(0, .ref 14), (1, .ref 11)] [.int s0, .ref 14] M (f_X8_begin_b95 s0 M) := by
  unfold f_X8_begin_b95
  refine aw_putz (c := 14) B lkX8_44 lp8_7 (by decide +kernel) rfl (fun M1 => ?_)
  refine aw_aload_n (k0 := 0) B 0 (by decide +kernel) rfl rfl ?_
  refine aw_iconst (n := 0) (v := (0 : Int32)) B (by decide +kernel) (by decide) ?_
  refine aw_puti (c := 14) B lkX8_48 lp8_6 (by decide +kernel) rfl (fun M2 => ?_)
  refine aw_iconst (n := 0) (v := (0 : Int32)) B (by decide +kernel) (by decide) ?_
  refine aw_istore (i := 5) B [(5, .int (0 : Int32)), (0, .ref 14), (1, .ref 11)] (by decide +kernel) (Nat.le_of_ble_eq_true rfl) rfl ?_
  exact aw_sub [1, 2, 0] rfl (w_X8_begin_L106 hG B FU _ _)
def f_X8_begin_b55 (v2 : Int32) (v3 : Int32) (M : Mem) : Option Mem := lt (wI M 14 3 (M.1 11 0)) fun M1 => lt (wI M1 14 4 v2) fun M2 => lt (wI M2 14 5 v3) fun M3 => (f_X7_answers_11 (M3.1 14 4) (M3.1 14 5) M3).bind fun x4 => (if x4 ≤ (1 : Int32) then f_X8_begin_b95 (0 : Int32) M3 else f_X8_begin_b95 (1 : Int32) M3)
set_option maxRecDepth 100000 in
set_option maxHeartbeats 4000000 in
theorem w_X8_begin_b55 {G : GW} {E : EE} (hG : ab_ok G) (B : Bx G E RX8 cX8_begin 7 6 none) (v2 : Int32) (v3 : Int32) (M : Mem) : AWo G E cX8_begin 7 (ab_Q G E embV) 55 [(0, .ref 14), (1, .ref 11), (2, .int v2), (3, .int v3)] [] M (f_X8_begin_b55 v2 v3 M) := by
  unfold f_X8_begin_b55
  refine aw_aload_n (k0 := 0) B 0 (by decide +kernel) rfl rfl ?_
  refine aw_aload_n (k0 := 1) B 1 (by decide +kernel) rfl rfl ?_
  refine aw_geti (c := 11) B lkX8_27 (by decide +kernel) rfl ?_
  refine aw_puti (c := 14) B lkX8_23 lp8_3 (by decide +kernel) rfl (fun M1 => ?_)
  refine aw_aload_n (k0 := 0) B 0 (by decide +kernel) rfl rfl ?_
  refine aw_iload_n (k0 := 2) B 2 (by decide +kernel) rfl rfl ?_
  refine aw_puti (c := 14) B lkX8_28 lp8_4 (by decide +kernel) rfl (fun M2 => ?_)
  refine aw_aload_n (k0 := 0) B 0 (by decide +kernel) rfl rfl ?_
  refine aw_iload_n (k0 := 3) B 3 (by decide +kernel) rfl rfl ?_
  refine aw_puti (c := 14) B lkX8_31 lp8_5 (by decide +kernel) rfl (fun M3 => ?_)
  refine aw_aload_n (k0 := 0) B 0 (by decide +kernel) rfl rfl ?_
  refine aw_aload_n (k0 := 1) B 1 (by decide +kernel) rfl rfl ?_
  refine aw_aload_n (k0 := 0) B 0 (by decide +kernel) rfl rfl ?_
  refine aw_geti (c := 14) B lkX8_28 (by decide +kernel) rfl ?_
  refine aw_aload_n (k0 := 0) B 0 (by decide +kernel) rfl rfl ?_
  refine aw_geti (c := 14) B lkX8_31 (by decide +kernel) rfl ?_
  refine aw_cVR B (c_X7_answers_11 (eLa E) hG (M3.1 14 4) (M3.1 14 5) M3) cvX8_40 rfl rfl (Nat.le_of_ble_eq_true rfl) rfl (Nat.le_of_ble_eq_true rfl) (by decide +kernel) rfl (fun x4 => ?_)
  refine aw_iconst (n := 1) (v := (1 : Int32)) B (by decide +kernel) (by decide) ?_
  refine aw_icmp_le (off := 7) B 94 (by decide +kernel) (by decide) (fun _ => ?_) (fun _ => ?_)
  · refine aw_iconst (n := 0) (v := (0 : Int32)) B (by decide +kernel) (by decide) ?_
    exact aw_sub [0, 1] rfl (w_X8_begin_b95 hG B _ _)
  · refine aw_iconst (n := 1) (v := (1 : Int32)) B (by decide +kernel) (by decide) ?_
    refine aw_goto (off := 4) B 95 (by decide +kernel) (by decide) ?_
    exact aw_sub [0, 1] rfl (w_X8_begin_b95 hG B _ _)
def f_X8_begin_b32 (v2 : Int32) (v3 : Int32) (s0 : Int32) (M : Mem) : Option Mem := (if s0 = 0 then (f_J7_fill_53178 18 (-1 : Int32) M).bind fun M2 => (f_J7_fill_53178 19 (-1 : Int32) M2).bind fun M4 => f_X8_begin_b55 v2 v3 M4 else f_X8_begin_b55 v2 v3 M)
set_option maxRecDepth 100000 in
set_option maxHeartbeats 4000000 in
theorem w_X8_begin_b32 {G : GW} {E : EE} (hG : ab_ok G) (B : Bx G E RX8 cX8_begin 7 6 none) (v2 : Int32) (v3 : Int32) (s0 : Int32) (M : Mem) : AWo G E cX8_begin 7 (ab_Q G E embV) 32 [(0, .ref 14), (1, .ref 11), (2, .int v2), (3, .int v3)] [.int s0] M (f_X8_begin_b32 v2 v3 s0 M) := by
  unfold f_X8_begin_b32
  refine aw_istore (i := 4) B [(4, .int s0), (0, .ref 14), (1, .ref 11), (2, .int v2), (3, .int v3)] (by decide +kernel) (Nat.le_of_ble_eq_true rfl) rfl ?_
  refine aw_iload (i := 4) B 0 (by decide +kernel) rfl ?_
  refine aw_if_ne (off := 19) B 55 (by decide +kernel) (by decide) (fun _ => ?_) (fun _ => ?_)
  · exact aw_sub [1, 2, 3, 4] rfl (w_X8_begin_b55 hG B _ _ _)
  · refine aw_aload_n (k0 := 0) B 1 (by decide +kernel) rfl rfl ?_
    refine aw_getr (c := 14) B lkX8_16 (by decide +kernel) rfl (r := 18) rfl ?_
    refine aw_iconst (n := -1) (v := (-1 : Int32)) B (by decide +kernel) (by decide) ?_
    refine aw_cSV B (c_J7_fill_53178 (eLa E) hG 18 (-1 : Int32) M) csX8_34 (Nat.le_of_ble_eq_true rfl) rfl (Nat.le_of_ble_eq_true rfl) (by decide +kernel) rfl (fun M2 => ?_)
    refine aw_aload_n (k0 := 0) B 1 (by decide +kernel) rfl rfl ?_
    refine aw_getr (c := 14) B lkX8_20 (by decide +kernel) rfl (r := 19) rfl ?_
    refine aw_iconst (n := -1) (v := (-1 : Int32)) B (by decide +kernel) (by decide) ?_
    refine aw_cSV B (c_J7_fill_53178 (eLa E) hG 19 (-1 : Int32) M2) csX8_34 (Nat.le_of_ble_eq_true rfl) rfl (Nat.le_of_ble_eq_true rfl) (by decide +kernel) rfl (fun M4 => ?_)
    exact aw_sub [1, 2, 3, 4] rfl (w_X8_begin_b55 hG B _ _ _)
def f_X8_begin_b31 (v2 : Int32) (v3 : Int32) (M : Mem) : Option Mem := f_X8_begin_b32 v2 v3 (0 : Int32) M
set_option maxRecDepth 100000 in
set_option maxHeartbeats 4000000 in
theorem w_X8_begin_b31 {G : GW} {E : EE} (hG : ab_ok G) (B : Bx G E RX8 cX8_begin 7 6 none) (v2 : Int32) (v3 : Int32) (M : Mem) : AWo G E cX8_begin 7 (ab_Q G E embV) 31 [(0, .ref 14), (1, .ref 11), (2, .int v2), (3, .int v3)] [] M (f_X8_begin_b31 v2 v3 M) := by
  unfold f_X8_begin_b31
  refine aw_iconst (n := 0) (v := (0 : Int32)) B (by decide +kernel) (by decide) ?_
  exact w_X8_begin_b32 hG B _ _ _ _
def f_X8_begin (v2 : Int32) (v3 : Int32) (M : Mem) : Option Mem := (if (M.1 14 3) = (M.1 11 0) then (if (M.1 14 4) = v2 then (if (M.1 14 5) = v3 then f_X8_begin_b32 v2 v3 (1 : Int32) M else f_X8_begin_b31 v2 v3 M) else f_X8_begin_b31 v2 v3 M) else f_X8_begin_b31 v2 v3 M)
set_option maxRecDepth 100000 in
set_option maxHeartbeats 4000000 in
theorem w_X8_begin {G : GW} {E : EE} (hG : ab_ok G) (B : Bx G E RX8 cX8_begin 7 6 none) (v2 : Int32) (v3 : Int32) (M : Mem) : AWo G E cX8_begin 7 (ab_Q G E embV) 0 [(0, .ref 14), (1, .ref 11), (2, .int v2), (3, .int v3)] [] M (f_X8_begin v2 v3 M) := by
  unfold f_X8_begin
  refine aw_aload_n (k0 := 0) B 0 (by decide +kernel) rfl rfl ?_
  refine aw_geti (c := 14) B lkX8_23 (by decide +kernel) rfl ?_
  refine aw_aload_n (k0 := 1) B 1 (by decide +kernel) rfl rfl ?_
  refine aw_geti (c := 11) B lkX8_27 (by decide +kernel) rfl ?_
  refine aw_icmp_ne (off := 23) B 31 (by decide +kernel) (by decide) (fun _ => ?_) (fun _ => ?_)
  · exact w_X8_begin_b31 hG B _ _ _
  · refine aw_aload_n (k0 := 0) B 0 (by decide +kernel) rfl rfl ?_
    refine aw_geti (c := 14) B lkX8_28 (by decide +kernel) rfl ?_
    refine aw_iload_n (k0 := 2) B 2 (by decide +kernel) rfl rfl ?_
    refine aw_icmp_ne (off := 15) B 31 (by decide +kernel) (by decide) (fun _ => ?_) (fun _ => ?_)
    · exact w_X8_begin_b31 hG B _ _ _
    · refine aw_aload_n (k0 := 0) B 0 (by decide +kernel) rfl rfl ?_
      refine aw_geti (c := 14) B lkX8_31 (by decide +kernel) rfl ?_
      refine aw_iload_n (k0 := 3) B 3 (by decide +kernel) rfl rfl ?_
      refine aw_icmp_ne (off := 7) B 31 (by decide +kernel) (by decide) (fun _ => ?_) (fun _ => ?_)
      · exact w_X8_begin_b31 hG B _ _ _
      · refine aw_iconst (n := 1) (v := (1 : Int32)) B (by decide +kernel) (by decide) ?_
        refine aw_goto (off := 4) B 32 (by decide +kernel) (by decide) ?_
        exact w_X8_begin_b32 hG B _ _ _ _
theorem c_X8_begin (l : Launch) {G : GW} (hG : ab_ok G) (v2 : Int32) (v3 : Int32) (M : Mem) : AC l G yX8_begin cX8_begin 7 none 6 [.ref 14, .ref 11, .int v2, .int v3] M embV (f_X8_begin v2 v3 M) := AC.of hG (by decide) (Nat.le_of_ble_eq_true rfl) (fun E hE B => by subst hE; exact w_X8_begin hG B v2 v3 M)
def f_X8_isAbove (v0 : Int32) (v1 : Int32) (v2 : Int32) : Option Int32 := (if ((ab_shr v0 (((4 : Int32) * v2) + v1)) &&& (1 : Int32)) = (1 : Int32) then (some (1 : Int32)) else (some (0 : Int32)))
set_option maxRecDepth 100000 in
set_option maxHeartbeats 4000000 in
theorem w_X8_isAbove {G : GW} {E : EE} (hG : ab_ok G) (B : Bx G E RX8 cX8_isAbove 3 2 (some .boolean)) (v0 : Int32) (v1 : Int32) (v2 : Int32) (M : Mem) : AWo G E cX8_isAbove 3 (ab_Q G E (embRI M)) 0 [(0, .int v0), (1, .int v1), (2, .int v2)] [] M (f_X8_isAbove v0 v1 v2) := by
  unfold f_X8_isAbove
  refine aw_iload_n (k0 := 0) B 0 (by decide +kernel) rfl rfl ?_
  refine aw_iconst (n := 4) (v := (4 : Int32)) B (by decide +kernel) (by decide) ?_
  refine aw_iload_n (k0 := 2) B 2 (by decide +kernel) rfl rfl ?_
  refine aw_imul B (by decide +kernel) ?_
  refine aw_iload_n (k0 := 1) B 1 (by decide +kernel) rfl rfl ?_
  refine aw_iadd B (by decide +kernel) ?_
  refine aw_ishr B (by decide +kernel) ?_
  refine aw_iconst (n := 1) (v := (1 : Int32)) B (by decide +kernel) (by decide) ?_
  refine aw_iand B (by decide +kernel) ?_
  refine aw_iconst (n := 1) (v := (1 : Int32)) B (by decide +kernel) (by decide) ?_
  refine aw_icmp_ne (off := 7) B 17 (by decide +kernel) (by decide) (fun _ => ?_) (fun _ => ?_)
  · refine aw_iconst (n := 0) (v := (0 : Int32)) B (by decide +kernel) (by decide) ?_
    exact aw_zreturnK B (by decide +kernel) rfl (by decide)
  · refine aw_iconst (n := 1) (v := (1 : Int32)) B (by decide +kernel) (by decide) ?_
    refine aw_goto (off := 4) B 18 (by decide +kernel) (by decide) ?_
    exact aw_zreturnK B (by decide +kernel) rfl (by decide)
theorem c_X8_isAbove (l : Launch) {G : GW} (hG : ab_ok G) (v0 : Int32) (v1 : Int32) (v2 : Int32) (M : Mem) : AC l G yX8_isAbove cX8_isAbove 3 (some .boolean) 2 [.int v0, .int v1, .int v2] M (embRI M) (f_X8_isAbove v0 v1 v2) := AC.of hG (by decide) (Nat.le_of_ble_eq_true rfl) (fun E hE B => by subst hE; exact w_X8_isAbove hG B v0 v1 v2 M)
def f_X8_stateOf_b48 (k13 : Int32 → Int32 → Int32 → Int32 → Option Int32) (v0 : Int32) (v1 : Int32) (v2 : Int32) (v3 : Int32) (v4 : Int32) (s0 : Int32) : Option Int32 := lt ((v1 * (3 : Int32)) + (ab_max v4 s0)) fun x1 => k13 v0 x1 v2 (v3 + 1)
set_option maxRecDepth 100000 in
set_option maxHeartbeats 4000000 in
theorem w_X8_stateOf_b48 {G : GW} {E : EE} (hG : ab_ok G) (M : Mem) {k13 : Int32 → Int32 → Int32 → Int32 → Option Int32} (B : Bx G E RX8 cX8_stateOf 6 3 (some .int)) (hk13 : ∀ (v0 : Int32) (v1 : Int32) (v2 : Int32) (v3 : Int32), AWo G E cX8_stateOf 6 (ab_Q G E (embRI M)) 13 [(0, .int v0), (1, .int v1), (2, .int v2), (3, .int v3)] [] M (k13 v0 v1 v2 v3)) (v0 : Int32) (v1 : Int32) (v2 : Int32) (v3 : Int32) (v4 : Int32) (s0 : Int32) : AWo G E cX8_stateOf 6 (ab_Q G E (embRI M)) 48 [(0, .int v0), (1, .int v1), (2, .int v2), (3, .int v3), (4, .int v4)] [.int s0] M (f_X8_stateOf_b48 k13 v0 v1 v2 v3 v4 s0) := by
  unfold f_X8_stateOf_b48
  refine aw_istore (i := 5) B [(5, .int s0), (0, .int v0), (1, .int v1), (2, .int v2), (3, .int v3), (4, .int v4)] (by decide +kernel) (Nat.le_of_ble_eq_true rfl) rfl ?_
  refine aw_iload_n (k0 := 1) B 2 (by decide +kernel) rfl rfl ?_
  refine aw_iconst (n := 3) (v := (3 : Int32)) B (by decide +kernel) (by decide) ?_
  refine aw_imul B (by decide +kernel) ?_
  refine aw_iload (i := 4) B 5 (by decide +kernel) rfl ?_
  refine aw_iload (i := 5) B 0 (by decide +kernel) rfl ?_
  refine aw_max B lxX8_88 (by decide +kernel) (Nat.le_of_ble_eq_true rfl) (Nat.le_of_ble_eq_true rfl) ?_
  refine aw_iadd B (by decide +kernel) ?_
  refine aw_ltI (fun x1 => ?_)
  refine aw_istore_n (k0 := 1) B [(1, .int x1), (5, .int s0), (0, .int v0), (2, .int v2), (3, .int v3), (4, .int v4)] (by decide +kernel) rfl (Nat.le_of_ble_eq_true rfl) rfl ?_
  refine aw_iinc (i := 3) (n := 1) B 4 [(3, .int (v3 + 1)), (1, .int x1), (5, .int s0), (0, .int v0), (2, .int v2), (4, .int v4)] (by decide +kernel) rfl (Nat.le_of_ble_eq_true rfl) (v3 + 1) (ab_inc (by decide)) rfl ?_
  refine aw_goto (off := -52) B 13 (by decide +kernel) (by decide) ?_
  exact aw_sub [3, 1, 4, 0] rfl (hk13 _ _ _ _)
def f_X8_stateOf_b32 (k13 : Int32 → Int32 → Int32 → Int32 → Option Int32) (v0 : Int32) (v1 : Int32) (v2 : Int32) (v3 : Int32) (s0 : Int32) : Option Int32 := (f_X8_isAbove v0 v3 v2).bind fun x1 => (if x1 = 0 then f_X8_stateOf_b48 k13 v0 v1 v2 v3 s0 (0 : Int32) else f_X8_stateOf_b48 k13 v0 v1 v2 v3 s0 (2 : Int32))
set_option maxRecDepth 100000 in
set_option maxHeartbeats 4000000 in
theorem w_X8_stateOf_b32 {G : GW} {E : EE} (hG : ab_ok G) (M : Mem) {k13 : Int32 → Int32 → Int32 → Int32 → Option Int32} (B : Bx G E RX8 cX8_stateOf 6 3 (some .int)) (hk13 : ∀ (v0 : Int32) (v1 : Int32) (v2 : Int32) (v3 : Int32), AWo G E cX8_stateOf 6 (ab_Q G E (embRI M)) 13 [(0, .int v0), (1, .int v1), (2, .int v2), (3, .int v3)] [] M (k13 v0 v1 v2 v3)) (v0 : Int32) (v1 : Int32) (v2 : Int32) (v3 : Int32) (s0 : Int32) : AWo G E cX8_stateOf 6 (ab_Q G E (embRI M)) 32 [(0, .int v0), (1, .int v1), (2, .int v2), (3, .int v3)] [.int s0] M (f_X8_stateOf_b32 k13 v0 v1 v2 v3 s0) := by
  unfold f_X8_stateOf_b32
  refine aw_istore (i := 4) B [(4, .int s0), (0, .int v0), (1, .int v1), (2, .int v2), (3, .int v3)] (by decide +kernel) (Nat.le_of_ble_eq_true rfl) rfl ?_
  refine aw_iload_n (k0 := 0) B 1 (by decide +kernel) rfl rfl ?_
  refine aw_iload_n (k0 := 3) B 4 (by decide +kernel) rfl rfl ?_
  refine aw_iload_n (k0 := 2) B 3 (by decide +kernel) rfl rfl ?_
  refine aw_cSR B (c_X8_isAbove (eLa E) hG v0 v3 v2 M) csX8_103 (Nat.le_of_ble_eq_true rfl) rfl (Nat.le_of_ble_eq_true rfl) (by decide +kernel) rfl (fun x1 => ?_)
  refine aw_if_eq (off := 7) B 47 (by decide +kernel) (by decide) (fun _ => ?_) (fun _ => ?_)
  · refine aw_iconst (n := 0) (v := (0 : Int32)) B (by decide +kernel) (by decide) ?_
    exact aw_sub [1, 2, 3, 4, 0] rfl (w_X8_stateOf_b48 hG M B hk13 _ _ _ _ _ _)
  · refine aw_iconst (n := 2) (v := (2 : Int32)) B (by decide +kernel) (by decide) ?_
    refine aw_goto (off := 4) B 48 (by decide +kernel) (by decide) ?_
    exact aw_sub [1, 2, 3, 4, 0] rfl (w_X8_stateOf_b48 hG M B hk13 _ _ _ _ _ _)
def f_X8_stateOf_L13 (k4 : Int32 → Int32 → Int32 → Option Int32) : Nat → Int32 → Int32 → Int32 → Int32 → Option Int32
  | 0, _, _, _, _ => none
  | n + 1, v0, v1, v2, v3 => (if (4 : Int32) ≤ v3 then k4 v0 v1 (v2 + 1) else (f_X8_isAbove v0 v2 v3).bind fun x1 => (if x1 = 0 then f_X8_stateOf_b32 (fun a0 a1 a2 a3 => f_X8_stateOf_L13 k4 n a0 a1 a2 a3) v0 v1 v2 v3 (0 : Int32) else f_X8_stateOf_b32 (fun a0 a1 a2 a3 => f_X8_stateOf_L13 k4 n a0 a1 a2 a3) v0 v1 v2 v3 (1 : Int32)))
set_option maxRecDepth 100000 in
set_option maxHeartbeats 4000000 in
theorem w_X8_stateOf_L13 {G : GW} {E : EE} (hG : ab_ok G) (M : Mem) {k4 : Int32 → Int32 → Int32 → Option Int32} (B : Bx G E RX8 cX8_stateOf 6 3 (some .int)) (hk4 : ∀ (v0 : Int32) (v1 : Int32) (v2 : Int32), AWo G E cX8_stateOf 6 (ab_Q G E (embRI M)) 4 [(0, .int v0), (1, .int v1), (2, .int v2)] [] M (k4 v0 v1 v2)) : ∀ (n : Nat) (v0 : Int32) (v1 : Int32) (v2 : Int32) (v3 : Int32), AWo G E cX8_stateOf 6 (ab_Q G E (embRI M)) 13 [(0, .int v0), (1, .int v1), (2, .int v2), (3, .int v3)] [] M (f_X8_stateOf_L13 k4 n v0 v1 v2 v3) := by
  intro n
  induction n with
  | zero => intro _ _ _ _; exact aw_none
  | succ n ih =>
    intro v0 v1 v2 v3
    rw [f_X8_stateOf_L13]
    refine aw_iload_n (k0 := 3) B 3 (by decide +kernel) rfl rfl ?_
    refine aw_iconst (n := 4) (v := (4 : Int32)) B (by decide +kernel) (by decide) ?_
    refine aw_icmp_ge (off := 53) B 68 (by decide +kernel) (by decide) (fun _ => ?_) (fun _ => ?_)
    · refine aw_iinc (i := 2) (n := 1) B 2 [(2, .int (v2 + 1)), (0, .int v0), (1, .int v1), (3, .int v3)] (by decide +kernel) rfl (Nat.le_of_ble_eq_true rfl) (v2 + 1) (ab_inc (by decide)) rfl ?_
      refine aw_goto (off := -67) B 4 (by decide +kernel) (by decide) ?_
      exact aw_sub [1, 2, 0] rfl (hk4 _ _ _)
    · refine aw_iload_n (k0 := 0) B 0 (by decide +kernel) rfl rfl ?_
      refine aw_iload_n (k0 := 2) B 2 (by decide +kernel) rfl rfl ?_
      refine aw_iload_n (k0 := 3) B 3 (by decide +kernel) rfl rfl ?_
      refine aw_cSR B (c_X8_isAbove (eLa E) hG v0 v2 v3 M) csX8_103 (Nat.le_of_ble_eq_true rfl) rfl (Nat.le_of_ble_eq_true rfl) (by decide +kernel) rfl (fun x1 => ?_)
      refine aw_if_eq (off := 7) B 31 (by decide +kernel) (by decide) (fun _ => ?_) (fun _ => ?_)
      · refine aw_iconst (n := 0) (v := (0 : Int32)) B (by decide +kernel) (by decide) ?_
        exact w_X8_stateOf_b32 hG M B ih _ _ _ _ _
      · refine aw_iconst (n := 1) (v := (1 : Int32)) B (by decide +kernel) (by decide) ?_
        refine aw_goto (off := 4) B 32 (by decide +kernel) (by decide) ?_
        exact w_X8_stateOf_b32 hG M B ih _ _ _ _ _
def f_X8_stateOf_L4 : Nat → Int32 → Int32 → Int32 → Option Int32
  | 0, _, _, _ => none
  | n + 1, v0, v1, v2 => (if (4 : Int32) ≤ v2 then (some v1) else lt (v2 + (1 : Int32)) fun x1 => f_X8_stateOf_L13 (fun a0 a1 a2 => f_X8_stateOf_L4 n a0 a1 a2) FU v0 v1 v2 x1)
set_option maxRecDepth 100000 in
set_option maxHeartbeats 4000000 in
theorem w_X8_stateOf_L4 {G : GW} {E : EE} (hG : ab_ok G) (M : Mem) (B : Bx G E RX8 cX8_stateOf 6 3 (some .int)) : ∀ (n : Nat) (v0 : Int32) (v1 : Int32) (v2 : Int32), AWo G E cX8_stateOf 6 (ab_Q G E (embRI M)) 4 [(0, .int v0), (1, .int v1), (2, .int v2)] [] M (f_X8_stateOf_L4 n v0 v1 v2) := by
  intro n
  induction n with
  | zero => intro _ _ _; exact aw_none
  | succ n ih =>
    intro v0 v1 v2
    rw [f_X8_stateOf_L4]
    refine aw_iload_n (k0 := 2) B 2 (by decide +kernel) rfl rfl ?_
    refine aw_iconst (n := 4) (v := (4 : Int32)) B (by decide +kernel) (by decide) ?_
    refine aw_icmp_ge (off := 68) B 74 (by decide +kernel) (by decide) (fun _ => ?_) (fun _ => ?_)
    · refine aw_iload_n (k0 := 1) B 1 (by decide +kernel) rfl rfl ?_
      exact aw_ireturn B (by decide +kernel) rfl
    · refine aw_iload_n (k0 := 2) B 2 (by decide +kernel) rfl rfl ?_
      refine aw_iconst (n := 1) (v := (1 : Int32)) B (by decide +kernel) (by decide) ?_
      refine aw_iadd B (by decide +kernel) ?_
      refine aw_ltI (fun x1 => ?_)
      refine aw_istore_n (k0 := 3) B [(3, .int x1), (0, .int v0), (1, .int v1), (2, .int v2)] (by decide +kernel) rfl (Nat.le_of_ble_eq_true rfl) rfl ?_
      exact aw_sub [1, 2, 3, 0] rfl (w_X8_stateOf_L13 hG M B ih FU _ _ _ _)
def f_X8_stateOf (v0 : Int32) : Option Int32 := f_X8_stateOf_L4 FU v0 (0 : Int32) (0 : Int32)
set_option maxRecDepth 100000 in
set_option maxHeartbeats 4000000 in
theorem w_X8_stateOf {G : GW} {E : EE} (hG : ab_ok G) (B : Bx G E RX8 cX8_stateOf 6 3 (some .int)) (v0 : Int32) (M : Mem) : AWo G E cX8_stateOf 6 (ab_Q G E (embRI M)) 0 [(0, .int v0)] [] M (f_X8_stateOf v0) := by
  unfold f_X8_stateOf
  refine aw_iconst (n := 0) (v := (0 : Int32)) B (by decide +kernel) (by decide) ?_
  refine aw_istore_n (k0 := 1) B [(1, .int (0 : Int32)), (0, .int v0)] (by decide +kernel) rfl (Nat.le_of_ble_eq_true rfl) rfl ?_
  refine aw_iconst (n := 0) (v := (0 : Int32)) B (by decide +kernel) (by decide) ?_
  refine aw_istore_n (k0 := 2) B [(2, .int (0 : Int32)), (1, .int (0 : Int32)), (0, .int v0)] (by decide +kernel) rfl (Nat.le_of_ble_eq_true rfl) rfl ?_
  exact aw_sub [2, 1, 0] rfl (w_X8_stateOf_L4 hG M B FU _ _ _)
theorem c_X8_stateOf (l : Launch) {G : GW} (hG : ab_ok G) (v0 : Int32) (M : Mem) : AC l G yX8_stateOf cX8_stateOf 6 (some .int) 3 [.int v0] M (embRI M) (f_X8_stateOf v0) := AC.of hG (by decide) (Nat.le_of_ble_eq_true rfl) (fun E hE B => by subst hE; exact w_X8_stateOf hG B v0 M)
def f_X7_clear_15 (v1 : Int32) (M : Mem) : Option Mem := lt (wI M 15 0 v1) fun M1 => lt (wI M1 15 2 ((ab_shl (1 : Int32) v1) - (1 : Int32))) fun M2 => (f_J7_fill_53178 16 (0 : Int32) M2).bind fun M4 => (some M4)
set_option maxRecDepth 100000 in
set_option maxHeartbeats 4000000 in
theorem w_X7_clear_15 {G : GW} {E : EE} (hG : ab_ok G) (B : Bx G E RX7 cX7_clear 2 3 none) (v1 : Int32) (M : Mem) : AWo G E cX7_clear 2 (ab_Q G E embV) 0 [(0, .ref 15), (1, .int v1)] [] M (f_X7_clear_15 v1 M) := by
  unfold f_X7_clear_15
  refine aw_aload_n (k0 := 0) B 0 (by decide +kernel) rfl rfl ?_
  refine aw_iload_n (k0 := 1) B 1 (by decide +kernel) rfl rfl ?_
  refine aw_puti (c := 15) B lkX7_18 lp7_0 (by decide +kernel) rfl (fun M1 => ?_)
  refine aw_aload_n (k0 := 0) B 0 (by decide +kernel) rfl rfl ?_
  refine aw_iconst (n := 1) (v := (1 : Int32)) B (by decide +kernel) (by decide) ?_
  refine aw_iload_n (k0 := 1) B 1 (by decide +kernel) rfl rfl ?_
  refine aw_ishl B (by decide +kernel) ?_
  refine aw_iconst (n := 1) (v := (1 : Int32)) B (by decide +kernel) (by decide) ?_
  refine aw_isub B (by decide +kernel) ?_
  refine aw_puti (c := 15) B lkX7_22 lp7_2 (by decide +kernel) rfl (fun M2 => ?_)
  refine aw_aload_n (k0 := 0) B 0 (by decide +kernel) rfl rfl ?_
  refine aw_getr (c := 15) B lkX7_9 (by decide +kernel) rfl (r := 16) rfl ?_
  refine aw_iconst (n := 0) (v := (0 : Int32)) B (by decide +kernel) (by decide) ?_
  refine aw_cSV B (c_J7_fill_53178 (eLa E) hG 16 (0 : Int32) M2) csX7_25 (Nat.le_of_ble_eq_true rfl) rfl (Nat.le_of_ble_eq_true rfl) (by decide +kernel) rfl (fun M4 => ?_)
  exact aw_vreturn B (by decide +kernel) rfl
theorem c_X7_clear_15 (l : Launch) {G : GW} (hG : ab_ok G) (v1 : Int32) (M : Mem) : AC l G yX7_clear cX7_clear 2 none 3 [.ref 15, .int v1] M embV (f_X7_clear_15 v1 M) := AC.of hG (by decide) (Nat.le_of_ble_eq_true rfl) (fun E hE B => by subst hE; exact w_X7_clear_15 hG B v1 M)
def f_X7_followers_15_b39 (k4 : Int32 → Int32 → Int32 → Option Int32) (M : Mem) (v1 : Int32) (v2 : Int32) (v3 : Int32) : Option Int32 := k4 v1 v2 (v3 + 1)
set_option maxRecDepth 100000 in
set_option maxHeartbeats 4000000 in
theorem w_X7_followers_15_b39 {G : GW} {E : EE} (hG : ab_ok G) (M : Mem) {k4 : Int32 → Int32 → Int32 → Option Int32} (B : Bx G E RX7 cX7_followers 4 2 (some .int)) (hk4 : ∀ (v1 : Int32) (v2 : Int32) (v3 : Int32), AWo G E cX7_followers 4 (ab_Q G E (embRI M)) 4 [(0, .ref 15), (1, .int v1), (2, .int v2), (3, .int v3)] [] M (k4 v1 v2 v3)) (v1 : Int32) (v2 : Int32) (v3 : Int32) : AWo G E cX7_followers 4 (ab_Q G E (embRI M)) 39 [(0, .ref 15), (1, .int v1), (2, .int v2), (3, .int v3)] [] M (f_X7_followers_15_b39 k4 M v1 v2 v3) := by
  unfold f_X7_followers_15_b39
  refine aw_iinc (i := 3) (n := 1) B 3 [(3, .int (v3 + 1)), (0, .ref 15), (1, .int v1), (2, .int v2)] (by decide +kernel) rfl (Nat.le_of_ble_eq_true rfl) (v3 + 1) (ab_inc (by decide)) rfl ?_
  refine aw_goto (off := -38) B 4 (by decide +kernel) (by decide) ?_
  exact aw_sub [1, 2, 3, 0] rfl (hk4 _ _ _)
def f_X7_followers_15_L4 (M : Mem) : Nat → Int32 → Int32 → Int32 → Option Int32
  | 0, _, _, _ => none
  | n + 1, v1, v2, v3 => (if (M.1 15 0) ≤ v3 then (some v2) else (if ((ab_shr v1 v3) &&& (1 : Int32)) = 0 then ck (okI 16 v3) ((if ((M.1 16 v3.toNatClampNeg) &&& (v1 ^^^ (-1 : Int32))) = 0 then lt (v2 ||| (ab_shl (1 : Int32) v3)) fun x1 => f_X7_followers_15_b39 (fun a0 a1 a2 => f_X7_followers_15_L4 M n a0 a1 a2) M v1 x1 v3 else f_X7_followers_15_b39 (fun a0 a1 a2 => f_X7_followers_15_L4 M n a0 a1 a2) M v1 v2 v3)) else f_X7_followers_15_b39 (fun a0 a1 a2 => f_X7_followers_15_L4 M n a0 a1 a2) M v1 v2 v3))
set_option maxRecDepth 100000 in
set_option maxHeartbeats 4000000 in
theorem w_X7_followers_15_L4 {G : GW} {E : EE} (hG : ab_ok G) (M : Mem) (B : Bx G E RX7 cX7_followers 4 2 (some .int)) : ∀ (n : Nat) (v1 : Int32) (v2 : Int32) (v3 : Int32), AWo G E cX7_followers 4 (ab_Q G E (embRI M)) 4 [(0, .ref 15), (1, .int v1), (2, .int v2), (3, .int v3)] [] M (f_X7_followers_15_L4 M n v1 v2 v3) := by
  intro n
  induction n with
  | zero => intro _ _ _; exact aw_none
  | succ n ih =>
    intro v1 v2 v3
    rw [f_X7_followers_15_L4]
    refine aw_iload_n (k0 := 3) B 3 (by decide +kernel) rfl rfl ?_
    refine aw_aload_n (k0 := 0) B 0 (by decide +kernel) rfl rfl ?_
    refine aw_geti (c := 15) B lkX7_18 (by decide +kernel) rfl ?_
    refine aw_icmp_ge (off := 36) B 45 (by decide +kernel) (by decide) (fun _ => ?_) (fun _ => ?_)
    · refine aw_iload_n (k0 := 2) B 2 (by decide +kernel) rfl rfl ?_
      exact aw_ireturn B (by decide +kernel) rfl
    · refine aw_iload_n (k0 := 1) B 1 (by decide +kernel) rfl rfl ?_
      refine aw_iload_n (k0 := 3) B 3 (by decide +kernel) rfl rfl ?_
      refine aw_ishr B (by decide +kernel) ?_
      refine aw_iconst (n := 1) (v := (1 : Int32)) B (by decide +kernel) (by decide) ?_
      refine aw_iand B (by decide +kernel) ?_
      refine aw_if_ne (off := 22) B 39 (by decide +kernel) (by decide) (fun _ => ?_) (fun _ => ?_)
      · exact w_X7_followers_15_b39 hG M B ih _ _ _
      · refine aw_aload_n (k0 := 0) B 0 (by decide +kernel) rfl rfl ?_
        refine aw_getr (c := 15) B lkX7_9 (by decide +kernel) rfl (r := 16) rfl ?_
        refine aw_iload_n (k0 := 3) B 3 (by decide +kernel) rfl rfl ?_
        refine aw_iaload B (by decide +kernel) ?_
        refine aw_iload_n (k0 := 1) B 1 (by decide +kernel) rfl rfl ?_
        refine aw_iconst (n := -1) (v := (-1 : Int32)) B (by decide +kernel) (by decide) ?_
        refine aw_ixor B (by decide +kernel) ?_
        refine aw_iand B (by decide +kernel) ?_
        refine aw_if_ne (off := 9) B 39 (by decide +kernel) (by decide) (fun _ => ?_) (fun _ => ?_)
        · exact w_X7_followers_15_b39 hG M B ih _ _ _
        · refine aw_iload_n (k0 := 2) B 2 (by decide +kernel) rfl rfl ?_
          refine aw_iconst (n := 1) (v := (1 : Int32)) B (by decide +kernel) (by decide) ?_
          refine aw_iload_n (k0 := 3) B 3 (by decide +kernel) rfl rfl ?_
          refine aw_ishl B (by decide +kernel) ?_
          refine aw_ior B (by decide +kernel) ?_
          refine aw_ltI (fun x1 => ?_)
          refine aw_istore_n (k0 := 2) B [(2, .int x1), (0, .ref 15), (1, .int v1), (3, .int v3)] (by decide +kernel) rfl (Nat.le_of_ble_eq_true rfl) rfl ?_
          exact aw_sub [1, 2, 0, 3] rfl (w_X7_followers_15_b39 hG M B ih _ _ _)
def f_X7_followers_15 (v1 : Int32) (M : Mem) : Option Int32 := f_X7_followers_15_L4 M FU v1 (0 : Int32) (0 : Int32)
set_option maxRecDepth 100000 in
set_option maxHeartbeats 4000000 in
theorem w_X7_followers_15 {G : GW} {E : EE} (hG : ab_ok G) (B : Bx G E RX7 cX7_followers 4 2 (some .int)) (v1 : Int32) (M : Mem) : AWo G E cX7_followers 4 (ab_Q G E (embRI M)) 0 [(0, .ref 15), (1, .int v1)] [] M (f_X7_followers_15 v1 M) := by
  unfold f_X7_followers_15
  refine aw_iconst (n := 0) (v := (0 : Int32)) B (by decide +kernel) (by decide) ?_
  refine aw_istore_n (k0 := 2) B [(2, .int (0 : Int32)), (0, .ref 15), (1, .int v1)] (by decide +kernel) rfl (Nat.le_of_ble_eq_true rfl) rfl ?_
  refine aw_iconst (n := 0) (v := (0 : Int32)) B (by decide +kernel) (by decide) ?_
  refine aw_istore_n (k0 := 3) B [(3, .int (0 : Int32)), (2, .int (0 : Int32)), (0, .ref 15), (1, .int v1)] (by decide +kernel) rfl (Nat.le_of_ble_eq_true rfl) rfl ?_
  exact aw_sub [2, 3, 1, 0] rfl (w_X7_followers_15_L4 hG M B FU _ _ _)
theorem c_X7_followers_15 (l : Launch) {G : GW} (hG : ab_ok G) (v1 : Int32) (M : Mem) : AC l G yX7_followers cX7_followers 4 (some .int) 2 [.ref 15, .int v1] M (embRI M) (f_X7_followers_15 v1 M) := AC.of hG (by decide) (Nat.le_of_ble_eq_true rfl) (fun E hE B => by subst hE; exact w_X7_followers_15 hG B v1 M)
def f_X7_tally_15_b99 (k24 : Int32 → Mem → Option Mem) (v1 : Int32) (M : Mem) : Option Mem := k24 (v1 + 1) M
set_option maxRecDepth 100000 in
set_option maxHeartbeats 4000000 in
theorem w_X7_tally_15_b99 {G : GW} {E : EE} (hG : ab_ok G) {k24 : Int32 → Mem → Option Mem} (B : Bx G E RX7 cX7_tally 4 4 none) (hk24 : ∀ (v1 : Int32) (M : Mem), AWo G E cX7_tally 4 (ab_Q G E embV) 24 [(0, .ref 15), (1, .int v1)] [] M (k24 v1 M)) (v1 : Int32) (M : Mem) : AWo G E cX7_tally 4 (ab_Q G E embV) 99 [(0, .ref 15), (1, .int v1)] [] M (f_X7_tally_15_b99 k24 v1 M) := by
  unfold f_X7_tally_15_b99
  refine aw_iinc (i := 1) (n := 1) B 1 [(1, .int (v1 + 1)), (0, .ref 15)] (by decide +kernel) rfl (Nat.le_of_ble_eq_true rfl) (v1 + 1) (ab_inc (by decide)) rfl ?_
  refine aw_goto (off := -78) B 24 (by decide +kernel) (by decide) ?_
  exact aw_sub [1, 0] rfl (hk24 _ _)
def f_X7_tally_15_b93 (k53 : Int32 → Int32 → Int32 → Mem → Option Mem) (v1 : Int32) (v2 : Int32) (v3 : Int32) (M : Mem) : Option Mem := k53 v1 v2 (v3 + 1) M
set_option maxRecDepth 100000 in
set_option maxHeartbeats 4000000 in
theorem w_X7_tally_15_b93 {G : GW} {E : EE} (hG : ab_ok G) {k53 : Int32 → Int32 → Int32 → Mem → Option Mem} (B : Bx G E RX7 cX7_tally 4 4 none) (hk53 : ∀ (v1 : Int32) (v2 : Int32) (v3 : Int32) (M : Mem), AWo G E cX7_tally 4 (ab_Q G E embV) 53 [(0, .ref 15), (1, .int v1), (2, .int v2), (3, .int v3)] [] M (k53 v1 v2 v3 M)) (v1 : Int32) (v2 : Int32) (v3 : Int32) (M : Mem) : AWo G E cX7_tally 4 (ab_Q G E embV) 93 [(0, .ref 15), (1, .int v1), (2, .int v2), (3, .int v3)] [] M (f_X7_tally_15_b93 k53 v1 v2 v3 M) := by
  unfold f_X7_tally_15_b93
  refine aw_iinc (i := 3) (n := 1) B 3 [(3, .int (v3 + 1)), (0, .ref 15), (1, .int v1), (2, .int v2)] (by decide +kernel) rfl (Nat.le_of_ble_eq_true rfl) (v3 + 1) (ab_inc (by decide)) rfl ?_
  refine aw_goto (off := -43) B 53 (by decide +kernel) (by decide) ?_
  exact aw_sub [1, 2, 3, 0] rfl (hk53 _ _ _ _)
def f_X7_tally_15_L53 (k24 : Int32 → Mem → Option Mem) : Nat → Int32 → Int32 → Int32 → Mem → Option Mem
  | 0, _, _, _, _ => none
  | n + 1, v1, v2, v3, M => (if (M.1 15 0) ≤ v3 then f_X7_tally_15_b99 k24 v1 M else (if v2 = 0 then f_X7_tally_15_b99 k24 v1 M else (if ((ab_shr v2 v3) &&& (1 : Int32)) = (1 : Int32) then ck (okI 17 (v1 ||| (ab_shl (1 : Int32) v3))) (ck (okI 17 v1) (ck (okI 17 (v1 ||| (ab_shl (1 : Int32) v3))) (lt (wI M 17 (v1 ||| (ab_shl (1 : Int32) v3)).toNatClampNeg ((M.1 17 (v1 ||| (ab_shl (1 : Int32) v3)).toNatClampNeg) + (M.1 17 v1.toNatClampNeg))) fun M1 => f_X7_tally_15_b93 (fun a0 a1 a2 a3 => f_X7_tally_15_L53 k24 n a0 a1 a2 a3) v1 v2 v3 M1))) else f_X7_tally_15_b93 (fun a0 a1 a2 a3 => f_X7_tally_15_L53 k24 n a0 a1 a2 a3) v1 v2 v3 M)))
set_option maxRecDepth 100000 in
set_option maxHeartbeats 4000000 in
theorem w_X7_tally_15_L53 {G : GW} {E : EE} (hG : ab_ok G) {k24 : Int32 → Mem → Option Mem} (B : Bx G E RX7 cX7_tally 4 4 none) (hk24 : ∀ (v1 : Int32) (M : Mem), AWo G E cX7_tally 4 (ab_Q G E embV) 24 [(0, .ref 15), (1, .int v1)] [] M (k24 v1 M)) : ∀ (n : Nat) (v1 : Int32) (v2 : Int32) (v3 : Int32) (M : Mem), AWo G E cX7_tally 4 (ab_Q G E embV) 53 [(0, .ref 15), (1, .int v1), (2, .int v2), (3, .int v3)] [] M (f_X7_tally_15_L53 k24 n v1 v2 v3 M) := by
  intro n
  induction n with
  | zero => intro _ _ _ _; exact aw_none
  | succ n ih =>
    intro v1 v2 v3 M
    rw [f_X7_tally_15_L53]
    refine aw_iload_n (k0 := 3) B 3 (by decide +kernel) rfl rfl ?_
    refine aw_aload_n (k0 := 0) B 0 (by decide +kernel) rfl rfl ?_
    refine aw_geti (c := 15) B lkX7_18 (by decide +kernel) rfl ?_
    refine aw_icmp_ge (off := 41) B 99 (by decide +kernel) (by decide) (fun _ => ?_) (fun _ => ?_)
    · exact aw_sub [0, 1] rfl (w_X7_tally_15_b99 hG B hk24 _ _)
    · refine aw_iload_n (k0 := 2) B 2 (by decide +kernel) rfl rfl ?_
      refine aw_if_eq (off := 37) B 99 (by decide +kernel) (by decide) (fun _ => ?_) (fun _ => ?_)
      · exact aw_sub [0, 1] rfl (w_X7_tally_15_b99 hG B hk24 _ _)
      · refine aw_iload_n (k0 := 2) B 2 (by decide +kernel) rfl rfl ?_
        refine aw_iload_n (k0 := 3) B 3 (by decide +kernel) rfl rfl ?_
        refine aw_ishr B (by decide +kernel) ?_
        refine aw_iconst (n := 1) (v := (1 : Int32)) B (by decide +kernel) (by decide) ?_
        refine aw_iand B (by decide +kernel) ?_
        refine aw_iconst (n := 1) (v := (1 : Int32)) B (by decide +kernel) (by decide) ?_
        refine aw_icmp_ne (off := 22) B 93 (by decide +kernel) (by decide) (fun _ => ?_) (fun _ => ?_)
        · exact w_X7_tally_15_b93 hG B ih _ _ _ _
        · refine aw_aload_n (k0 := 0) B 0 (by decide +kernel) rfl rfl ?_
          refine aw_getr (c := 15) B lkX7_15 (by decide +kernel) rfl (r := 17) rfl ?_
          refine aw_iload_n (k0 := 1) B 1 (by decide +kernel) rfl rfl ?_
          refine aw_iconst (n := 1) (v := (1 : Int32)) B (by decide +kernel) (by decide) ?_
          refine aw_iload_n (k0 := 3) B 3 (by decide +kernel) rfl rfl ?_
          refine aw_ishl B (by decide +kernel) ?_
          refine aw_ior B (by decide +kernel) ?_
          refine aw_dup2_11 B (by decide +kernel) rfl rfl ?_
          refine aw_iaload B (by decide +kernel) ?_
          refine aw_aload_n (k0 := 0) B 0 (by decide +kernel) rfl rfl ?_
          refine aw_getr (c := 15) B lkX7_15 (by decide +kernel) rfl (r := 17) rfl ?_
          refine aw_iload_n (k0 := 1) B 1 (by decide +kernel) rfl rfl ?_
          refine aw_iaload B (by decide +kernel) ?_
          refine aw_iadd B (by decide +kernel) ?_
          refine aw_iastore B (by decide +kernel) (fun M1 => ?_)
          exact w_X7_tally_15_b93 hG B ih _ _ _ _
def f_X7_tally_15_b50 (k24 : Int32 → Mem → Option Mem) (v1 : Int32) (s0 : Int32) (M : Mem) : Option Mem := f_X7_tally_15_L53 k24 FU v1 s0 (0 : Int32) M
set_option maxRecDepth 100000 in
set_option maxHeartbeats 4000000 in
theorem w_X7_tally_15_b50 {G : GW} {E : EE} (hG : ab_ok G) {k24 : Int32 → Mem → Option Mem} (B : Bx G E RX7 cX7_tally 4 4 none) (hk24 : ∀ (v1 : Int32) (M : Mem), AWo G E cX7_tally 4 (ab_Q G E embV) 24 [(0, .ref 15), (1, .int v1)] [] M (k24 v1 M)) (v1 : Int32) (s0 : Int32) (M : Mem) : AWo G E cX7_tally 4 (ab_Q G E embV) 50 [(0, .ref 15), (1, .int v1)] [.int s0] M (f_X7_tally_15_b50 k24 v1 s0 M) := by
  unfold f_X7_tally_15_b50
  refine aw_istore_n (k0 := 2) B [(2, .int s0), (0, .ref 15), (1, .int v1)] (by decide +kernel) rfl (Nat.le_of_ble_eq_true rfl) rfl ?_
  refine aw_iconst (n := 0) (v := (0 : Int32)) B (by decide +kernel) (by decide) ?_
  refine aw_istore_n (k0 := 3) B [(3, .int (0 : Int32)), (2, .int s0), (0, .ref 15), (1, .int v1)] (by decide +kernel) rfl (Nat.le_of_ble_eq_true rfl) rfl ?_
  exact aw_sub [2, 3, 1, 0] rfl (w_X7_tally_15_L53 hG B hk24 FU _ _ _ _)
def f_X7_tally_15_L24 : Nat → Int32 → Mem → Option Mem
  | 0, _, _ => none
  | n + 1, v1, M => (if (M.1 15 2) ≤ v1 then (some M) else ck (okI 17 v1) ((if (M.1 17 v1.toNatClampNeg) ≤ 0 then f_X7_tally_15_b50 (fun a0 a1 => f_X7_tally_15_L24 n a0 a1) v1 (0 : Int32) M else (f_X7_followers_15 v1 M).bind fun x1 => f_X7_tally_15_b50 (fun a0 a1 => f_X7_tally_15_L24 n a0 a1) v1 x1 M)))
set_option maxRecDepth 100000 in
set_option maxHeartbeats 4000000 in
theorem w_X7_tally_15_L24 {G : GW} {E : EE} (hG : ab_ok G) (B : Bx G E RX7 cX7_tally 4 4 none) : ∀ (n : Nat) (v1 : Int32) (M : Mem), AWo G E cX7_tally 4 (ab_Q G E embV) 24 [(0, .ref 15), (1, .int v1)] [] M (f_X7_tally_15_L24 n v1 M) := by
  intro n
  induction n with
  | zero => intro _ _; exact aw_none
  | succ n ih =>
    intro v1 M
    rw [f_X7_tally_15_L24]
    refine aw_iload_n (k0 := 1) B 1 (by decide +kernel) rfl rfl ?_
    refine aw_aload_n (k0 := 0) B 0 (by decide +kernel) rfl rfl ?_
    refine aw_geti (c := 15) B lkX7_22 (by decide +kernel) rfl ?_
    refine aw_icmp_ge (off := 76) B 105 (by decide +kernel) (by decide) (fun _ => ?_) (fun _ => ?_)
    · exact aw_vreturn B (by decide +kernel) rfl
    · refine aw_aload_n (k0 := 0) B 0 (by decide +kernel) rfl rfl ?_
      refine aw_getr (c := 15) B lkX7_15 (by decide +kernel) rfl (r := 17) rfl ?_
      refine aw_iload_n (k0 := 1) B 1 (by decide +kernel) rfl rfl ?_
      refine aw_iaload B (by decide +kernel) ?_
      refine aw_if_le (off := 11) B 49 (by decide +kernel) (by decide) (fun _ => ?_) (fun _ => ?_)
      · refine aw_iconst (n := 0) (v := (0 : Int32)) B (by decide +kernel) (by decide) ?_
        exact w_X7_tally_15_b50 hG B ih _ _ _
      · refine aw_aload_n (k0 := 0) B 0 (by decide +kernel) rfl rfl ?_
        refine aw_iload_n (k0 := 1) B 1 (by decide +kernel) rfl rfl ?_
        refine aw_cVR B (c_X7_followers_15 (eLa E) hG v1 M) cvX7_52 rfl rfl (Nat.le_of_ble_eq_true rfl) rfl (Nat.le_of_ble_eq_true rfl) (by decide +kernel) rfl (fun x1 => ?_)
        refine aw_goto (off := 4) B 50 (by decide +kernel) (by decide) ?_
        exact w_X7_tally_15_b50 hG B ih _ _ _
def f_X7_tally_15 (M : Mem) : Option Mem := (f_J7_fill_fda19 17 (0 : Int32) ((M.1 15 2) + (1 : Int32)) (0 : Int32) M).bind fun M2 => ck (okI 17 (0 : Int32)) (lt (wI M2 17 (0 : Int32).toNatClampNeg (1 : Int32)) fun M3 => f_X7_tally_15_L24 FU (0 : Int32) M3)
set_option maxRecDepth 100000 in
set_option maxHeartbeats 4000000 in
theorem w_X7_tally_15 {G : GW} {E : EE} (hG : ab_ok G) (B : Bx G E RX7 cX7_tally 4 4 none) (M : Mem) : AWo G E cX7_tally 4 (ab_Q G E embV) 0 [(0, .ref 15)] [] M (f_X7_tally_15 M) := by
  unfold f_X7_tally_15
  refine aw_aload_n (k0 := 0) B 0 (by decide +kernel) rfl rfl ?_
  refine aw_getr (c := 15) B lkX7_15 (by decide +kernel) rfl (r := 17) rfl ?_
  refine aw_iconst (n := 0) (v := (0 : Int32)) B (by decide +kernel) (by decide) ?_
  refine aw_aload_n (k0 := 0) B 0 (by decide +kernel) rfl rfl ?_
  refine aw_geti (c := 15) B lkX7_22 (by decide +kernel) rfl ?_
  refine aw_iconst (n := 1) (v := (1 : Int32)) B (by decide +kernel) (by decide) ?_
  refine aw_iadd B (by decide +kernel) ?_
  refine aw_iconst (n := 0) (v := (0 : Int32)) B (by decide +kernel) (by decide) ?_
  refine aw_cSV B (c_J7_fill_fda19 (eLa E) hG 17 (0 : Int32) ((M.1 15 2) + (1 : Int32)) (0 : Int32) M) csX7_49 (Nat.le_of_ble_eq_true rfl) rfl (Nat.le_of_ble_eq_true rfl) (by decide +kernel) rfl (fun M2 => ?_)
  refine aw_aload_n (k0 := 0) B 0 (by decide +kernel) rfl rfl ?_
  refine aw_getr (c := 15) B lkX7_15 (by decide +kernel) rfl (r := 17) rfl ?_
  refine aw_iconst (n := 0) (v := (0 : Int32)) B (by decide +kernel) (by decide) ?_
  refine aw_iconst (n := 1) (v := (1 : Int32)) B (by decide +kernel) (by decide) ?_
  refine aw_iastore B (by decide +kernel) (fun M3 => ?_)
  refine aw_iconst (n := 0) (v := (0 : Int32)) B (by decide +kernel) (by decide) ?_
  refine aw_istore_n (k0 := 1) B [(1, .int (0 : Int32)), (0, .ref 15)] (by decide +kernel) rfl (Nat.le_of_ble_eq_true rfl) rfl ?_
  exact aw_sub [1, 0] rfl (w_X7_tally_15_L24 hG B FU _ _)
theorem c_X7_tally_15 (l : Launch) {G : GW} (hG : ab_ok G) (M : Mem) : AC l G yX7_tally cX7_tally 4 none 4 [.ref 15] M embV (f_X7_tally_15 M) := AC.of hG (by decide) (Nat.le_of_ble_eq_true rfl) (fun E hE B => by subst hE; exact w_X7_tally_15 hG B M)
def f_X7_all_15 (M : Mem) : Option Int32 := ck (okI 17 (M.1 15 2)) ((some (M.1 17 (M.1 15 2).toNatClampNeg)))
set_option maxRecDepth 100000 in
set_option maxHeartbeats 4000000 in
theorem w_X7_all_15 {G : GW} {E : EE} (hG : ab_ok G) (B : Bx G E RX7 cX7_all 1 2 (some .int)) (M : Mem) : AWo G E cX7_all 1 (ab_Q G E (embRI M)) 0 [(0, .ref 15)] [] M (f_X7_all_15 M) := by
  unfold f_X7_all_15
  refine aw_aload_n (k0 := 0) B 0 (by decide +kernel) rfl rfl ?_
  refine aw_getr (c := 15) B lkX7_15 (by decide +kernel) rfl (r := 17) rfl ?_
  refine aw_aload_n (k0 := 0) B 0 (by decide +kernel) rfl rfl ?_
  refine aw_geti (c := 15) B lkX7_22 (by decide +kernel) rfl ?_
  refine aw_iaload B (by decide +kernel) ?_
  exact aw_ireturn B (by decide +kernel) rfl
theorem c_X7_all_15 (l : Launch) {G : GW} (hG : ab_ok G) (M : Mem) : AC l G yX7_all cX7_all 1 (some .int) 2 [.ref 15] M (embRI M) (f_X7_all_15 M) := AC.of hG (by decide) (Nat.le_of_ble_eq_true rfl) (fun E hE B => by subst hE; exact w_X7_all_15 hG B M)
def f_X7_whoCanHave_15_b37 (k4 : Int32 → Int32 → Int32 → Option Int32) (M : Mem) (v1 : Int32) (v2 : Int32) (v3 : Int32) : Option Int32 := k4 v1 v2 (v3 + 1)
set_option maxRecDepth 100000 in
set_option maxHeartbeats 4000000 in
theorem w_X7_whoCanHave_15_b37 {G : GW} {E : EE} (hG : ab_ok G) (M : Mem) {k4 : Int32 → Int32 → Int32 → Option Int32} (B : Bx G E RX7 cX7_whoCanHave 4 3 (some .int)) (hk4 : ∀ (v1 : Int32) (v2 : Int32) (v3 : Int32), AWo G E cX7_whoCanHave 4 (ab_Q G E (embRI M)) 4 [(0, .ref 15), (1, .int v1), (2, .int v2), (3, .int v3)] [] M (k4 v1 v2 v3)) (v1 : Int32) (v2 : Int32) (v3 : Int32) : AWo G E cX7_whoCanHave 4 (ab_Q G E (embRI M)) 37 [(0, .ref 15), (1, .int v1), (2, .int v2), (3, .int v3)] [] M (f_X7_whoCanHave_15_b37 k4 M v1 v2 v3) := by
  unfold f_X7_whoCanHave_15_b37
  refine aw_iinc (i := 3) (n := 1) B 3 [(3, .int (v3 + 1)), (0, .ref 15), (1, .int v1), (2, .int v2)] (by decide +kernel) rfl (Nat.le_of_ble_eq_true rfl) (v3 + 1) (ab_inc (by decide)) rfl ?_
  refine aw_goto (off := -36) B 4 (by decide +kernel) (by decide) ?_
  exact aw_sub [1, 2, 3, 0] rfl (hk4 _ _ _)
def f_X7_whoCanHave_15_L4 (M : Mem) : Nat → Int32 → Int32 → Int32 → Option Int32
  | 0, _, _, _ => none
  | n + 1, v1, v2, v3 => (if (M.1 15 2) ≤ v3 then (some v2) else ck (okI 17 v3) ((if (M.1 17 v3.toNatClampNeg) ≤ 0 then f_X7_whoCanHave_15_b37 (fun a0 a1 a2 => f_X7_whoCanHave_15_L4 M n a0 a1 a2) M v1 v2 v3 else (f_J6_bitCount_0f7a4 v3).bind fun x1 => (if x1 = v1 then (f_X7_followers_15 v3 M).bind fun x3 => lt (v2 ||| x3) fun x5 => f_X7_whoCanHave_15_b37 (fun a0 a1 a2 => f_X7_whoCanHave_15_L4 M n a0 a1 a2) M v1 x5 v3 else f_X7_whoCanHave_15_b37 (fun a0 a1 a2 => f_X7_whoCanHave_15_L4 M n a0 a1 a2) M v1 v2 v3))))
set_option maxRecDepth 100000 in
set_option maxHeartbeats 4000000 in
theorem w_X7_whoCanHave_15_L4 {G : GW} {E : EE} (hG : ab_ok G) (M : Mem) (B : Bx G E RX7 cX7_whoCanHave 4 3 (some .int)) : ∀ (n : Nat) (v1 : Int32) (v2 : Int32) (v3 : Int32), AWo G E cX7_whoCanHave 4 (ab_Q G E (embRI M)) 4 [(0, .ref 15), (1, .int v1), (2, .int v2), (3, .int v3)] [] M (f_X7_whoCanHave_15_L4 M n v1 v2 v3) := by
  intro n
  induction n with
  | zero => intro _ _ _; exact aw_none
  | succ n ih =>
    intro v1 v2 v3
    rw [f_X7_whoCanHave_15_L4]
    refine aw_iload_n (k0 := 3) B 3 (by decide +kernel) rfl rfl ?_
    refine aw_aload_n (k0 := 0) B 0 (by decide +kernel) rfl rfl ?_
    refine aw_geti (c := 15) B lkX7_22 (by decide +kernel) rfl ?_
    refine aw_icmp_ge (off := 34) B 43 (by decide +kernel) (by decide) (fun _ => ?_) (fun _ => ?_)
    · refine aw_iload_n (k0 := 2) B 2 (by decide +kernel) rfl rfl ?_
      exact aw_ireturn B (by decide +kernel) rfl
    · refine aw_aload_n (k0 := 0) B 0 (by decide +kernel) rfl rfl ?_
      refine aw_getr (c := 15) B lkX7_15 (by decide +kernel) rfl (r := 17) rfl ?_
      refine aw_iload_n (k0 := 3) B 3 (by decide +kernel) rfl rfl ?_
      refine aw_iaload B (by decide +kernel) ?_
      refine aw_if_le (off := 19) B 37 (by decide +kernel) (by decide) (fun _ => ?_) (fun _ => ?_)
      · exact w_X7_whoCanHave_15_b37 hG M B ih _ _ _
      · refine aw_iload_n (k0 := 3) B 3 (by decide +kernel) rfl rfl ?_
        refine aw_cSR B (c_J6_bitCount_0f7a4 (eLa E) hG v3 M) csX7_56 (Nat.le_of_ble_eq_true rfl) rfl (Nat.le_of_ble_eq_true rfl) (by decide +kernel) rfl (fun x1 => ?_)
        refine aw_iload_n (k0 := 1) B 1 (by decide +kernel) rfl rfl ?_
        refine aw_icmp_ne (off := 11) B 37 (by decide +kernel) (by decide) (fun _ => ?_) (fun _ => ?_)
        · exact w_X7_whoCanHave_15_b37 hG M B ih _ _ _
        · refine aw_iload_n (k0 := 2) B 2 (by decide +kernel) rfl rfl ?_
          refine aw_aload_n (k0 := 0) B 0 (by decide +kernel) rfl rfl ?_
          refine aw_iload_n (k0 := 3) B 3 (by decide +kernel) rfl rfl ?_
          refine aw_cVR B (c_X7_followers_15 (eLa E) hG v3 M) cvX7_52 rfl rfl (Nat.le_of_ble_eq_true rfl) rfl (Nat.le_of_ble_eq_true rfl) (by decide +kernel) rfl (fun x3 => ?_)
          refine aw_ior B (by decide +kernel) ?_
          refine aw_ltI (fun x5 => ?_)
          refine aw_istore_n (k0 := 2) B [(2, .int x5), (0, .ref 15), (1, .int v1), (3, .int v3)] (by decide +kernel) rfl (Nat.le_of_ble_eq_true rfl) rfl ?_
          exact aw_sub [1, 2, 0, 3] rfl (w_X7_whoCanHave_15_b37 hG M B ih _ _ _)
def f_X7_whoCanHave_15 (v1 : Int32) (M : Mem) : Option Int32 := f_X7_whoCanHave_15_L4 M FU v1 (0 : Int32) (0 : Int32)
set_option maxRecDepth 100000 in
set_option maxHeartbeats 4000000 in
theorem w_X7_whoCanHave_15 {G : GW} {E : EE} (hG : ab_ok G) (B : Bx G E RX7 cX7_whoCanHave 4 3 (some .int)) (v1 : Int32) (M : Mem) : AWo G E cX7_whoCanHave 4 (ab_Q G E (embRI M)) 0 [(0, .ref 15), (1, .int v1)] [] M (f_X7_whoCanHave_15 v1 M) := by
  unfold f_X7_whoCanHave_15
  refine aw_iconst (n := 0) (v := (0 : Int32)) B (by decide +kernel) (by decide) ?_
  refine aw_istore_n (k0 := 2) B [(2, .int (0 : Int32)), (0, .ref 15), (1, .int v1)] (by decide +kernel) rfl (Nat.le_of_ble_eq_true rfl) rfl ?_
  refine aw_iconst (n := 0) (v := (0 : Int32)) B (by decide +kernel) (by decide) ?_
  refine aw_istore_n (k0 := 3) B [(3, .int (0 : Int32)), (2, .int (0 : Int32)), (0, .ref 15), (1, .int v1)] (by decide +kernel) rfl (Nat.le_of_ble_eq_true rfl) rfl ?_
  exact aw_sub [2, 3, 1, 0] rfl (w_X7_whoCanHave_15_L4 hG M B FU _ _ _)
theorem c_X7_whoCanHave_15 (l : Launch) {G : GW} (hG : ab_ok G) (v1 : Int32) (M : Mem) : AC l G yX7_whoCanHave cX7_whoCanHave 4 (some .int) 3 [.ref 15, .int v1] M (embRI M) (f_X7_whoCanHave_15 v1 M) := AC.of hG (by decide) (Nat.le_of_ble_eq_true rfl) (fun E hE B => by subst hE; exact w_X7_whoCanHave_15 hG B v1 M)
def f_X7_lastOrNot_15_b33 (M : Mem) (s0 : Int32) (s1 : Int32) : Option Int32 := (some (s1 + s0))
set_option maxRecDepth 100000 in
set_option maxHeartbeats 4000000 in
theorem w_X7_lastOrNot_15_b33 {G : GW} {E : EE} (hG : ab_ok G) (M : Mem) (B : Bx G E RX7 cX7_lastOrNot 4 4 (some .int)) (s0 : Int32) (s1 : Int32) : AWo G E cX7_lastOrNot 4 (ab_Q G E (embRI M)) 33 [] [.int s0, .int s1] M (f_X7_lastOrNot_15_b33 M s0 s1) := by
  unfold f_X7_lastOrNot_15_b33
  refine aw_iadd B (by decide +kernel) ?_
  exact aw_ireturn B (by decide +kernel) rfl
def f_X7_lastOrNot_15 (v1 : Int32) (M : Mem) : Option Int32 := (f_X7_whoCanHave_15 ((M.1 15 0) - (1 : Int32)) M).bind fun x1 => lt (x1 &&& ((ab_shl (1 : Int32) v1) ^^^ (-1 : Int32))) fun x3 => (if x3 = 0 then f_X7_lastOrNot_15_b33 M (0 : Int32) ((ab_shr x1 v1) &&& (1 : Int32)) else f_X7_lastOrNot_15_b33 M (1 : Int32) ((ab_shr x1 v1) &&& (1 : Int32)))
set_option maxRecDepth 100000 in
set_option maxHeartbeats 4000000 in
theorem w_X7_lastOrNot_15 {G : GW} {E : EE} (hG : ab_ok G) (B : Bx G E RX7 cX7_lastOrNot 4 4 (some .int)) (v1 : Int32) (M : Mem) : AWo G E cX7_lastOrNot 4 (ab_Q G E (embRI M)) 0 [(0, .ref 15), (1, .int v1)] [] M (f_X7_lastOrNot_15 v1 M) := by
  unfold f_X7_lastOrNot_15
  refine aw_aload_n (k0 := 0) B 0 (by decide +kernel) rfl rfl ?_
  refine aw_aload_n (k0 := 0) B 0 (by decide +kernel) rfl rfl ?_
  refine aw_geti (c := 15) B lkX7_18 (by decide +kernel) rfl ?_
  refine aw_iconst (n := 1) (v := (1 : Int32)) B (by decide +kernel) (by decide) ?_
  refine aw_isub B (by decide +kernel) ?_
  refine aw_cVR B (c_X7_whoCanHave_15 (eLa E) hG ((M.1 15 0) - (1 : Int32)) M) cvX7_68 rfl rfl (Nat.le_of_ble_eq_true rfl) rfl (Nat.le_of_ble_eq_true rfl) (by decide +kernel) rfl (fun x1 => ?_)
  refine aw_istore_n (k0 := 2) B [(2, .int x1), (0, .ref 15), (1, .int v1)] (by decide +kernel) rfl (Nat.le_of_ble_eq_true rfl) rfl ?_
  refine aw_iload_n (k0 := 2) B 0 (by decide +kernel) rfl rfl ?_
  refine aw_iconst (n := 1) (v := (1 : Int32)) B (by decide +kernel) (by decide) ?_
  refine aw_iload_n (k0 := 1) B 2 (by decide +kernel) rfl rfl ?_
  refine aw_ishl B (by decide +kernel) ?_
  refine aw_iconst (n := -1) (v := (-1 : Int32)) B (by decide +kernel) (by decide) ?_
  refine aw_ixor B (by decide +kernel) ?_
  refine aw_iand B (by decide +kernel) ?_
  refine aw_ltI (fun x3 => ?_)
  refine aw_istore_n (k0 := 3) B [(3, .int x3), (2, .int x1), (0, .ref 15), (1, .int v1)] (by decide +kernel) rfl (Nat.le_of_ble_eq_true rfl) rfl ?_
  refine aw_iload_n (k0 := 2) B 1 (by decide +kernel) rfl rfl ?_
  refine aw_iload_n (k0 := 1) B 3 (by decide +kernel) rfl rfl ?_
  refine aw_ishr B (by decide +kernel) ?_
  refine aw_iconst (n := 1) (v := (1 : Int32)) B (by decide +kernel) (by decide) ?_
  refine aw_iand B (by decide +kernel) ?_
  refine aw_iload_n (k0 := 3) B 0 (by decide +kernel) rfl rfl ?_
  refine aw_if_eq (off := 7) B 32 (by decide +kernel) (by decide) (fun _ => ?_) (fun _ => ?_)
  · refine aw_iconst (n := 0) (v := (0 : Int32)) B (by decide +kernel) (by decide) ?_
    exact aw_sub [] rfl (w_X7_lastOrNot_15_b33 hG M B _ _)
  · refine aw_iconst (n := 1) (v := (1 : Int32)) B (by decide +kernel) (by decide) ?_
    refine aw_goto (off := 4) B 33 (by decide +kernel) (by decide) ?_
    exact aw_sub [] rfl (w_X7_lastOrNot_15_b33 hG M B _ _)
theorem c_X7_lastOrNot_15 (l : Launch) {G : GW} (hG : ab_ok G) (v1 : Int32) (M : Mem) : AC l G yX7_lastOrNot cX7_lastOrNot 4 (some .int) 4 [.ref 15, .int v1] M (embRI M) (f_X7_lastOrNot_15 v1 M) := AC.of hG (by decide) (Nat.le_of_ble_eq_true rfl) (fun E hE B => by subst hE; exact w_X7_lastOrNot_15 hG B v1 M)
def f_X7_setsOfFirst_15_b32 (k4 : Int32 → Int32 → Int32 → Option Int32) (M : Mem) (v1 : Int32) (v2 : Int32) (v3 : Int32) : Option Int32 := k4 v1 v2 (v3 + 1)
set_option maxRecDepth 100000 in
set_option maxHeartbeats 4000000 in
theorem w_X7_setsOfFirst_15_b32 {G : GW} {E : EE} (hG : ab_ok G) (M : Mem) {k4 : Int32 → Int32 → Int32 → Option Int32} (B : Bx G E RX7 cX7_setsOfFirst 4 3 (some .int)) (hk4 : ∀ (v1 : Int32) (v2 : Int32) (v3 : Int32), AWo G E cX7_setsOfFirst 4 (ab_Q G E (embRI M)) 4 [(0, .ref 15), (1, .int v1), (2, .int v2), (3, .int v3)] [] M (k4 v1 v2 v3)) (v1 : Int32) (v2 : Int32) (v3 : Int32) : AWo G E cX7_setsOfFirst 4 (ab_Q G E (embRI M)) 32 [(0, .ref 15), (1, .int v1), (2, .int v2), (3, .int v3)] [] M (f_X7_setsOfFirst_15_b32 k4 M v1 v2 v3) := by
  unfold f_X7_setsOfFirst_15_b32
  refine aw_iinc (i := 3) (n := 1) B 3 [(3, .int (v3 + 1)), (0, .ref 15), (1, .int v1), (2, .int v2)] (by decide +kernel) rfl (Nat.le_of_ble_eq_true rfl) (v3 + 1) (ab_inc (by decide)) rfl ?_
  refine aw_goto (off := -31) B 4 (by decide +kernel) (by decide) ?_
  exact aw_sub [1, 2, 3, 0] rfl (hk4 _ _ _)
def f_X7_setsOfFirst_15_L4 (M : Mem) : Nat → Int32 → Int32 → Int32 → Option Int32
  | 0, _, _, _ => none
  | n + 1, v1, v2, v3 => (if (M.1 15 2) < v3 then (some v2) else ck (okI 17 v3) ((if (M.1 17 v3.toNatClampNeg) ≤ 0 then f_X7_setsOfFirst_15_b32 (fun a0 a1 a2 => f_X7_setsOfFirst_15_L4 M n a0 a1 a2) M v1 v2 v3 else (f_J6_bitCount_0f7a4 v3).bind fun x1 => (if x1 = v1 then f_X7_setsOfFirst_15_b32 (fun a0 a1 a2 => f_X7_setsOfFirst_15_L4 M n a0 a1 a2) M v1 (v2 + 1) v3 else f_X7_setsOfFirst_15_b32 (fun a0 a1 a2 => f_X7_setsOfFirst_15_L4 M n a0 a1 a2) M v1 v2 v3))))
set_option maxRecDepth 100000 in
set_option maxHeartbeats 4000000 in
theorem w_X7_setsOfFirst_15_L4 {G : GW} {E : EE} (hG : ab_ok G) (M : Mem) (B : Bx G E RX7 cX7_setsOfFirst 4 3 (some .int)) : ∀ (n : Nat) (v1 : Int32) (v2 : Int32) (v3 : Int32), AWo G E cX7_setsOfFirst 4 (ab_Q G E (embRI M)) 4 [(0, .ref 15), (1, .int v1), (2, .int v2), (3, .int v3)] [] M (f_X7_setsOfFirst_15_L4 M n v1 v2 v3) := by
  intro n
  induction n with
  | zero => intro _ _ _; exact aw_none
  | succ n ih =>
    intro v1 v2 v3
    rw [f_X7_setsOfFirst_15_L4]
    refine aw_iload_n (k0 := 3) B 3 (by decide +kernel) rfl rfl ?_
    refine aw_aload_n (k0 := 0) B 0 (by decide +kernel) rfl rfl ?_
    refine aw_geti (c := 15) B lkX7_22 (by decide +kernel) rfl ?_
    refine aw_icmp_gt (off := 29) B 38 (by decide +kernel) (by decide) (fun _ => ?_) (fun _ => ?_)
    · refine aw_iload_n (k0 := 2) B 2 (by decide +kernel) rfl rfl ?_
      exact aw_ireturn B (by decide +kernel) rfl
    · refine aw_aload_n (k0 := 0) B 0 (by decide +kernel) rfl rfl ?_
      refine aw_getr (c := 15) B lkX7_15 (by decide +kernel) rfl (r := 17) rfl ?_
      refine aw_iload_n (k0 := 3) B 3 (by decide +kernel) rfl rfl ?_
      refine aw_iaload B (by decide +kernel) ?_
      refine aw_if_le (off := 14) B 32 (by decide +kernel) (by decide) (fun _ => ?_) (fun _ => ?_)
      · exact w_X7_setsOfFirst_15_b32 hG M B ih _ _ _
      · refine aw_iload_n (k0 := 3) B 3 (by decide +kernel) rfl rfl ?_
        refine aw_cSR B (c_J6_bitCount_0f7a4 (eLa E) hG v3 M) csX7_56 (Nat.le_of_ble_eq_true rfl) rfl (Nat.le_of_ble_eq_true rfl) (by decide +kernel) rfl (fun x1 => ?_)
        refine aw_iload_n (k0 := 1) B 1 (by decide +kernel) rfl rfl ?_
        refine aw_icmp_ne (off := 6) B 32 (by decide +kernel) (by decide) (fun _ => ?_) (fun _ => ?_)
        · exact w_X7_setsOfFirst_15_b32 hG M B ih _ _ _
        · refine aw_iinc (i := 2) (n := 1) B 2 [(2, .int (v2 + 1)), (0, .ref 15), (1, .int v1), (3, .int v3)] (by decide +kernel) rfl (Nat.le_of_ble_eq_true rfl) (v2 + 1) (ab_inc (by decide)) rfl ?_
          exact aw_sub [1, 2, 0, 3] rfl (w_X7_setsOfFirst_15_b32 hG M B ih _ _ _)
def f_X7_setsOfFirst_15 (v1 : Int32) (M : Mem) : Option Int32 := f_X7_setsOfFirst_15_L4 M FU v1 (0 : Int32) (0 : Int32)
set_option maxRecDepth 100000 in
set_option maxHeartbeats 4000000 in
theorem w_X7_setsOfFirst_15 {G : GW} {E : EE} (hG : ab_ok G) (B : Bx G E RX7 cX7_setsOfFirst 4 3 (some .int)) (v1 : Int32) (M : Mem) : AWo G E cX7_setsOfFirst 4 (ab_Q G E (embRI M)) 0 [(0, .ref 15), (1, .int v1)] [] M (f_X7_setsOfFirst_15 v1 M) := by
  unfold f_X7_setsOfFirst_15
  refine aw_iconst (n := 0) (v := (0 : Int32)) B (by decide +kernel) (by decide) ?_
  refine aw_istore_n (k0 := 2) B [(2, .int (0 : Int32)), (0, .ref 15), (1, .int v1)] (by decide +kernel) rfl (Nat.le_of_ble_eq_true rfl) rfl ?_
  refine aw_iconst (n := 0) (v := (0 : Int32)) B (by decide +kernel) (by decide) ?_
  refine aw_istore_n (k0 := 3) B [(3, .int (0 : Int32)), (2, .int (0 : Int32)), (0, .ref 15), (1, .int v1)] (by decide +kernel) rfl (Nat.le_of_ble_eq_true rfl) rfl ?_
  exact aw_sub [2, 3, 1, 0] rfl (w_X7_setsOfFirst_15_L4 hG M B FU _ _ _)
theorem c_X7_setsOfFirst_15 (l : Launch) {G : GW} (hG : ab_ok G) (v1 : Int32) (M : Mem) : AC l G yX7_setsOfFirst cX7_setsOfFirst 4 (some .int) 3 [.ref 15, .int v1] M (embRI M) (f_X7_setsOfFirst_15 v1 M) := AC.of hG (by decide) (Nat.le_of_ble_eq_true rfl) (fun E hE B => by subst hE; exact w_X7_setsOfFirst_15 hG B v1 M)
def f_X7_bestAndLast_15 (M : Mem) : Option Int32 := (if (M.1 15 0) = (1 : Int32) then (some (1 : Int32)) else (f_X7_followers_15 (0 : Int32) M).bind fun x1 => (f_X7_whoCanHave_15 ((M.1 15 0) - (1 : Int32)) M).bind fun x3 => (f_J6_bitCount_0f7a4 x1).bind fun x5 => (f_J6_bitCount_0f7a4 x3).bind fun x7 => (f_J6_bitCount_0f7a4 (x1 &&& x3)).bind fun x9 => (some ((x5 * x7) - x9)))
set_option maxRecDepth 100000 in
set_option maxHeartbeats 4000000 in
theorem w_X7_bestAndLast_15 {G : GW} {E : EE} (hG : ab_ok G) (B : Bx G E RX7 cX7_bestAndLast 3 4 (some .int)) (M : Mem) : AWo G E cX7_bestAndLast 3 (ab_Q G E (embRI M)) 0 [(0, .ref 15)] [] M (f_X7_bestAndLast_15 M) := by
  unfold f_X7_bestAndLast_15
  refine aw_aload_n (k0 := 0) B 0 (by decide +kernel) rfl rfl ?_
  refine aw_geti (c := 15) B lkX7_18 (by decide +kernel) rfl ?_
  refine aw_iconst (n := 1) (v := (1 : Int32)) B (by decide +kernel) (by decide) ?_
  refine aw_icmp_ne (off := 5) B 10 (by decide +kernel) (by decide) (fun _ => ?_) (fun _ => ?_)
  · refine aw_aload_n (k0 := 0) B 0 (by decide +kernel) rfl rfl ?_
    refine aw_iconst (n := 0) (v := (0 : Int32)) B (by decide +kernel) (by decide) ?_
    refine aw_cVR B (c_X7_followers_15 (eLa E) hG (0 : Int32) M) cvX7_52 rfl rfl (Nat.le_of_ble_eq_true rfl) rfl (Nat.le_of_ble_eq_true rfl) (by decide +kernel) rfl (fun x1 => ?_)
    refine aw_istore_n (k0 := 1) B [(1, .int x1), (0, .ref 15)] (by decide +kernel) rfl (Nat.le_of_ble_eq_true rfl) rfl ?_
    refine aw_aload_n (k0 := 0) B 1 (by decide +kernel) rfl rfl ?_
    refine aw_aload_n (k0 := 0) B 1 (by decide +kernel) rfl rfl ?_
    refine aw_geti (c := 15) B lkX7_18 (by decide +kernel) rfl ?_
    refine aw_iconst (n := 1) (v := (1 : Int32)) B (by decide +kernel) (by decide) ?_
    refine aw_isub B (by decide +kernel) ?_
    refine aw_cVR B (c_X7_whoCanHave_15 (eLa E) hG ((M.1 15 0) - (1 : Int32)) M) cvX7_68 rfl rfl (Nat.le_of_ble_eq_true rfl) rfl (Nat.le_of_ble_eq_true rfl) (by decide +kernel) rfl (fun x3 => ?_)
    refine aw_istore_n (k0 := 2) B [(2, .int x3), (1, .int x1), (0, .ref 15)] (by decide +kernel) rfl (Nat.le_of_ble_eq_true rfl) rfl ?_
    refine aw_iload_n (k0 := 1) B 1 (by decide +kernel) rfl rfl ?_
    refine aw_cSR B (c_J6_bitCount_0f7a4 (eLa E) hG x1 M) csX7_56 (Nat.le_of_ble_eq_true rfl) rfl (Nat.le_of_ble_eq_true rfl) (by decide +kernel) rfl (fun x5 => ?_)
    refine aw_iload_n (k0 := 2) B 0 (by decide +kernel) rfl rfl ?_
    refine aw_cSR B (c_J6_bitCount_0f7a4 (eLa E) hG x3 M) csX7_56 (Nat.le_of_ble_eq_true rfl) rfl (Nat.le_of_ble_eq_true rfl) (by decide +kernel) rfl (fun x7 => ?_)
    refine aw_imul B (by decide +kernel) ?_
    refine aw_iload_n (k0 := 1) B 1 (by decide +kernel) rfl rfl ?_
    refine aw_iload_n (k0 := 2) B 0 (by decide +kernel) rfl rfl ?_
    refine aw_iand B (by decide +kernel) ?_
    refine aw_cSR B (c_J6_bitCount_0f7a4 (eLa E) hG (x1 &&& x3) M) csX7_56 (Nat.le_of_ble_eq_true rfl) rfl (Nat.le_of_ble_eq_true rfl) (by decide +kernel) rfl (fun x9 => ?_)
    refine aw_isub B (by decide +kernel) ?_
    exact aw_ireturn B (by decide +kernel) rfl
  · refine aw_iconst (n := 1) (v := (1 : Int32)) B (by decide +kernel) (by decide) ?_
    exact aw_ireturn B (by decide +kernel) rfl
theorem c_X7_bestAndLast_15 (l : Launch) {G : GW} (hG : ab_ok G) (M : Mem) : AC l G yX7_bestAndLast cX7_bestAndLast 3 (some .int) 4 [.ref 15] M (embRI M) (f_X7_bestAndLast_15 M) := AC.of hG (by decide) (Nat.le_of_ble_eq_true rfl) (fun E hE B => by subst hE; exact w_X7_bestAndLast_15 hG B M)
def f_X7_bestAndSecond_15_b50 (k20 : Int32 → Int32 → Int32 → Option Int32) (M : Mem) (v1 : Int32) (v2 : Int32) (v3 : Int32) : Option Int32 := k20 v1 v2 (v3 + 1)
set_option maxRecDepth 100000 in
set_option maxHeartbeats 4000000 in
theorem w_X7_bestAndSecond_15_b50 {G : GW} {E : EE} (hG : ab_ok G) (M : Mem) {k20 : Int32 → Int32 → Int32 → Option Int32} (B : Bx G E RX7 cX7_bestAndSecond 4 3 (some .int)) (hk20 : ∀ (v1 : Int32) (v2 : Int32) (v3 : Int32), AWo G E cX7_bestAndSecond 4 (ab_Q G E (embRI M)) 20 [(0, .ref 15), (1, .int v1), (2, .int v2), (3, .int v3)] [] M (k20 v1 v2 v3)) (v1 : Int32) (v2 : Int32) (v3 : Int32) : AWo G E cX7_bestAndSecond 4 (ab_Q G E (embRI M)) 50 [(0, .ref 15), (1, .int v1), (2, .int v2), (3, .int v3)] [] M (f_X7_bestAndSecond_15_b50 k20 M v1 v2 v3) := by
  unfold f_X7_bestAndSecond_15_b50
  refine aw_iinc (i := 3) (n := 1) B 3 [(3, .int (v3 + 1)), (0, .ref 15), (1, .int v1), (2, .int v2)] (by decide +kernel) rfl (Nat.le_of_ble_eq_true rfl) (v3 + 1) (ab_inc (by decide)) rfl ?_
  refine aw_goto (off := -33) B 20 (by decide +kernel) (by decide) ?_
  exact aw_sub [1, 2, 3, 0] rfl (hk20 _ _ _)
def f_X7_bestAndSecond_15_L20 (M : Mem) : Nat → Int32 → Int32 → Int32 → Option Int32
  | 0, _, _, _ => none
  | n + 1, v1, v2, v3 => (if (M.1 15 0) ≤ v3 then (some v2) else (if ((ab_shr v1 v3) &&& (1 : Int32)) = (1 : Int32) then (f_X7_followers_15 (ab_shl (1 : Int32) v3) M).bind fun x1 => (f_J6_bitCount_0f7a4 x1).bind fun x3 => lt (v2 + x3) fun x5 => f_X7_bestAndSecond_15_b50 (fun a0 a1 a2 => f_X7_bestAndSecond_15_L20 M n a0 a1 a2) M v1 x5 v3 else f_X7_bestAndSecond_15_b50 (fun a0 a1 a2 => f_X7_bestAndSecond_15_L20 M n a0 a1 a2) M v1 v2 v3))
set_option maxRecDepth 100000 in
set_option maxHeartbeats 4000000 in
theorem w_X7_bestAndSecond_15_L20 {G : GW} {E : EE} (hG : ab_ok G) (M : Mem) (B : Bx G E RX7 cX7_bestAndSecond 4 3 (some .int)) : ∀ (n : Nat) (v1 : Int32) (v2 : Int32) (v3 : Int32), AWo G E cX7_bestAndSecond 4 (ab_Q G E (embRI M)) 20 [(0, .ref 15), (1, .int v1), (2, .int v2), (3, .int v3)] [] M (f_X7_bestAndSecond_15_L20 M n v1 v2 v3) := by
  intro n
  induction n with
  | zero => intro _ _ _; exact aw_none
  | succ n ih =>
    intro v1 v2 v3
    rw [f_X7_bestAndSecond_15_L20]
    refine aw_iload_n (k0 := 3) B 3 (by decide +kernel) rfl rfl ?_
    refine aw_aload_n (k0 := 0) B 0 (by decide +kernel) rfl rfl ?_
    refine aw_geti (c := 15) B lkX7_18 (by decide +kernel) rfl ?_
    refine aw_icmp_ge (off := 31) B 56 (by decide +kernel) (by decide) (fun _ => ?_) (fun _ => ?_)
    · refine aw_iload_n (k0 := 2) B 2 (by decide +kernel) rfl rfl ?_
      exact aw_ireturn B (by decide +kernel) rfl
    · refine aw_iload_n (k0 := 1) B 1 (by decide +kernel) rfl rfl ?_
      refine aw_iload_n (k0 := 3) B 3 (by decide +kernel) rfl rfl ?_
      refine aw_ishr B (by decide +kernel) ?_
      refine aw_iconst (n := 1) (v := (1 : Int32)) B (by decide +kernel) (by decide) ?_
      refine aw_iand B (by decide +kernel) ?_
      refine aw_iconst (n := 1) (v := (1 : Int32)) B (by decide +kernel) (by decide) ?_
      refine aw_icmp_ne (off := 16) B 50 (by decide +kernel) (by decide) (fun _ => ?_) (fun _ => ?_)
      · exact w_X7_bestAndSecond_15_b50 hG M B ih _ _ _
      · refine aw_iload_n (k0 := 2) B 2 (by decide +kernel) rfl rfl ?_
        refine aw_aload_n (k0 := 0) B 0 (by decide +kernel) rfl rfl ?_
        refine aw_iconst (n := 1) (v := (1 : Int32)) B (by decide +kernel) (by decide) ?_
        refine aw_iload_n (k0 := 3) B 3 (by decide +kernel) rfl rfl ?_
        refine aw_ishl B (by decide +kernel) ?_
        refine aw_cVR B (c_X7_followers_15 (eLa E) hG (ab_shl (1 : Int32) v3) M) cvX7_52 rfl rfl (Nat.le_of_ble_eq_true rfl) rfl (Nat.le_of_ble_eq_true rfl) (by decide +kernel) rfl (fun x1 => ?_)
        refine aw_cSR B (c_J6_bitCount_0f7a4 (eLa E) hG x1 M) csX7_56 (Nat.le_of_ble_eq_true rfl) rfl (Nat.le_of_ble_eq_true rfl) (by decide +kernel) rfl (fun x3 => ?_)
        refine aw_iadd B (by decide +kernel) ?_
        refine aw_ltI (fun x5 => ?_)
        refine aw_istore_n (k0 := 2) B [(2, .int x5), (0, .ref 15), (1, .int v1), (3, .int v3)] (by decide +kernel) rfl (Nat.le_of_ble_eq_true rfl) rfl ?_
        exact aw_sub [1, 2, 0, 3] rfl (w_X7_bestAndSecond_15_b50 hG M B ih _ _ _)
def f_X7_bestAndSecond_15 (M : Mem) : Option Int32 := (if (M.1 15 0) = (1 : Int32) then (some (1 : Int32)) else (f_X7_followers_15 (0 : Int32) M).bind fun x1 => f_X7_bestAndSecond_15_L20 M FU x1 (0 : Int32) (0 : Int32))
set_option maxRecDepth 100000 in
set_option maxHeartbeats 4000000 in
theorem w_X7_bestAndSecond_15 {G : GW} {E : EE} (hG : ab_ok G) (B : Bx G E RX7 cX7_bestAndSecond 4 3 (some .int)) (M : Mem) : AWo G E cX7_bestAndSecond 4 (ab_Q G E (embRI M)) 0 [(0, .ref 15)] [] M (f_X7_bestAndSecond_15 M) := by
  unfold f_X7_bestAndSecond_15
  refine aw_aload_n (k0 := 0) B 0 (by decide +kernel) rfl rfl ?_
  refine aw_geti (c := 15) B lkX7_18 (by decide +kernel) rfl ?_
  refine aw_iconst (n := 1) (v := (1 : Int32)) B (by decide +kernel) (by decide) ?_
  refine aw_icmp_ne (off := 5) B 10 (by decide +kernel) (by decide) (fun _ => ?_) (fun _ => ?_)
  · refine aw_aload_n (k0 := 0) B 0 (by decide +kernel) rfl rfl ?_
    refine aw_iconst (n := 0) (v := (0 : Int32)) B (by decide +kernel) (by decide) ?_
    refine aw_cVR B (c_X7_followers_15 (eLa E) hG (0 : Int32) M) cvX7_52 rfl rfl (Nat.le_of_ble_eq_true rfl) rfl (Nat.le_of_ble_eq_true rfl) (by decide +kernel) rfl (fun x1 => ?_)
    refine aw_istore_n (k0 := 1) B [(1, .int x1), (0, .ref 15)] (by decide +kernel) rfl (Nat.le_of_ble_eq_true rfl) rfl ?_
    refine aw_iconst (n := 0) (v := (0 : Int32)) B (by decide +kernel) (by decide) ?_
    refine aw_istore_n (k0 := 2) B [(2, .int (0 : Int32)), (1, .int x1), (0, .ref 15)] (by decide +kernel) rfl (Nat.le_of_ble_eq_true rfl) rfl ?_
    refine aw_iconst (n := 0) (v := (0 : Int32)) B (by decide +kernel) (by decide) ?_
    refine aw_istore_n (k0 := 3) B [(3, .int (0 : Int32)), (2, .int (0 : Int32)), (1, .int x1), (0, .ref 15)] (by decide +kernel) rfl (Nat.le_of_ble_eq_true rfl) rfl ?_
    exact aw_sub [3, 2, 1, 0] rfl (w_X7_bestAndSecond_15_L20 hG M B FU _ _ _)
  · refine aw_iconst (n := 1) (v := (1 : Int32)) B (by decide +kernel) (by decide) ?_
    exact aw_ireturn B (by decide +kernel) rfl
theorem c_X7_bestAndSecond_15 (l : Launch) {G : GW} (hG : ab_ok G) (M : Mem) : AC l G yX7_bestAndSecond cX7_bestAndSecond 4 (some .int) 3 [.ref 15] M (embRI M) (f_X7_bestAndSecond_15 M) := AC.of hG (by decide) (Nat.le_of_ble_eq_true rfl) (fun E hE B => by subst hE; exact w_X7_bestAndSecond_15 hG B M)
