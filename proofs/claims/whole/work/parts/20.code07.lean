def f_X7_answers_15 (v1 : Int32) (v2 : Int32) (M : Mem) : Option Int32 := (f_X7_all_15 M).bind fun x1 => (if x1 = 0 then (some (0 : Int32)) else (if v1 = (0 : Int32) then (f_X7_followers_15 (0 : Int32) M).bind fun x3 => (f_J6_bitCount_0f7a4 x3).bind fun x5 => (some x5) else if v1 = (1 : Int32) then (f_X7_bestAndSecond_15 M).bind fun x7 => (some x7) else if v1 = (2 : Int32) then (f_X7_whoCanHave_15 v2 M).bind fun x9 => (f_J6_bitCount_0f7a4 x9).bind fun x11 => (some x11) else if v1 = (3 : Int32) then (f_X7_bestAndLast_15 M).bind fun x13 => (some x13) else if v1 = (4 : Int32) then (f_X7_all_15 M).bind fun x15 => (some x15) else if v1 = (5 : Int32) then (f_X7_setsOfFirst_15 v2 M).bind fun x17 => (some x17) else (f_X7_lastOrNot_15 v2 M).bind fun x19 => (some x19)))
set_option maxRecDepth 100000 in
set_option maxHeartbeats 4000000 in
theorem w_X7_answers_15 {G : GW} {E : EE} (hG : ab_ok G) (B : Bx G E RX7 cX7_answers 3 5 (some .int)) (v1 : Int32) (v2 : Int32) (M : Mem) : AWo G E cX7_answers 3 (ab_Q G E (embRI M)) 0 [(0, .ref 15), (1, .int v1), (2, .int v2)] [] M (f_X7_answers_15 v1 v2 M) := by
  unfold f_X7_answers_15
  refine aw_aload_n (k0 := 0) B 0 (by decide +kernel) rfl rfl ?_
  refine aw_cVR B (c_X7_all_15 (eLa E) hG M) cvX7_61 rfl rfl (Nat.le_of_ble_eq_true rfl) rfl (Nat.le_of_ble_eq_true rfl) (by decide +kernel) rfl (fun x1 => ?_)
  refine aw_if_ne (off := 5) B 9 (by decide +kernel) (by decide) (fun _ => ?_) (fun _ => ?_)
  · refine aw_iload_n (k0 := 1) B 1 (by decide +kernel) rfl rfl ?_
    refine aw_ite (fun h10_0 => ?_) (fun h10_0 => ?_)
    · refine aw_tin (k0 := (0 : Int32)) (dflt := 77) (lo := 0) (hi := 5) (offs := #[38, 47, 52, 61, 66, 71]) (len := 38) (off := 38) B 48 (by decide +kernel) h10_0 (by decide) (by decide) (by decide +kernel) (by decide) ?_
      refine aw_aload_n (k0 := 0) B 0 (by decide +kernel) rfl rfl ?_
      refine aw_iconst (n := 0) (v := (0 : Int32)) B (by decide +kernel) (by decide) ?_
      refine aw_cVR B (c_X7_followers_15 (eLa E) hG (0 : Int32) M) cvX7_52 rfl rfl (Nat.le_of_ble_eq_true rfl) rfl (Nat.le_of_ble_eq_true rfl) (by decide +kernel) rfl (fun x3 => ?_)
      refine aw_cSR B (c_J6_bitCount_0f7a4 (eLa E) hG x3 M) csX7_56 (Nat.le_of_ble_eq_true rfl) rfl (Nat.le_of_ble_eq_true rfl) (by decide +kernel) rfl (fun x5 => ?_)
      exact aw_ireturn B (by decide +kernel) rfl
    refine aw_ite (fun h10_1 => ?_) (fun h10_1 => ?_)
    · refine aw_tin (k0 := (1 : Int32)) (dflt := 77) (lo := 0) (hi := 5) (offs := #[38, 47, 52, 61, 66, 71]) (len := 38) (off := 47) B 57 (by decide +kernel) h10_1 (by decide) (by decide) (by decide +kernel) (by decide) ?_
      refine aw_aload_n (k0 := 0) B 0 (by decide +kernel) rfl rfl ?_
      refine aw_cVR B (c_X7_bestAndSecond_15 (eLa E) hG M) cvX7_65 rfl rfl (Nat.le_of_ble_eq_true rfl) rfl (Nat.le_of_ble_eq_true rfl) (by decide +kernel) rfl (fun x7 => ?_)
      exact aw_ireturn B (by decide +kernel) rfl
    refine aw_ite (fun h10_2 => ?_) (fun h10_2 => ?_)
    · refine aw_tin (k0 := (2 : Int32)) (dflt := 77) (lo := 0) (hi := 5) (offs := #[38, 47, 52, 61, 66, 71]) (len := 38) (off := 52) B 62 (by decide +kernel) h10_2 (by decide) (by decide) (by decide +kernel) (by decide) ?_
      refine aw_aload_n (k0 := 0) B 0 (by decide +kernel) rfl rfl ?_
      refine aw_iload_n (k0 := 2) B 2 (by decide +kernel) rfl rfl ?_
      refine aw_cVR B (c_X7_whoCanHave_15 (eLa E) hG v2 M) cvX7_68 rfl rfl (Nat.le_of_ble_eq_true rfl) rfl (Nat.le_of_ble_eq_true rfl) (by decide +kernel) rfl (fun x9 => ?_)
      refine aw_cSR B (c_J6_bitCount_0f7a4 (eLa E) hG x9 M) csX7_56 (Nat.le_of_ble_eq_true rfl) rfl (Nat.le_of_ble_eq_true rfl) (by decide +kernel) rfl (fun x11 => ?_)
      exact aw_ireturn B (by decide +kernel) rfl
    refine aw_ite (fun h10_3 => ?_) (fun h10_3 => ?_)
    · refine aw_tin (k0 := (3 : Int32)) (dflt := 77) (lo := 0) (hi := 5) (offs := #[38, 47, 52, 61, 66, 71]) (len := 38) (off := 61) B 71 (by decide +kernel) h10_3 (by decide) (by decide) (by decide +kernel) (by decide) ?_
      refine aw_aload_n (k0 := 0) B 0 (by decide +kernel) rfl rfl ?_
      refine aw_cVR B (c_X7_bestAndLast_15 (eLa E) hG M) cvX7_71 rfl rfl (Nat.le_of_ble_eq_true rfl) rfl (Nat.le_of_ble_eq_true rfl) (by decide +kernel) rfl (fun x13 => ?_)
      exact aw_ireturn B (by decide +kernel) rfl
    refine aw_ite (fun h10_4 => ?_) (fun h10_4 => ?_)
    · refine aw_tin (k0 := (4 : Int32)) (dflt := 77) (lo := 0) (hi := 5) (offs := #[38, 47, 52, 61, 66, 71]) (len := 38) (off := 66) B 76 (by decide +kernel) h10_4 (by decide) (by decide) (by decide +kernel) (by decide) ?_
      refine aw_aload_n (k0 := 0) B 0 (by decide +kernel) rfl rfl ?_
      refine aw_cVR B (c_X7_all_15 (eLa E) hG M) cvX7_61 rfl rfl (Nat.le_of_ble_eq_true rfl) rfl (Nat.le_of_ble_eq_true rfl) (by decide +kernel) rfl (fun x15 => ?_)
      exact aw_ireturn B (by decide +kernel) rfl
    refine aw_ite (fun h10_5 => ?_) (fun h10_5 => ?_)
    · refine aw_tin (k0 := (5 : Int32)) (dflt := 77) (lo := 0) (hi := 5) (offs := #[38, 47, 52, 61, 66, 71]) (len := 38) (off := 71) B 81 (by decide +kernel) h10_5 (by decide) (by decide) (by decide +kernel) (by decide) ?_
      refine aw_aload_n (k0 := 0) B 0 (by decide +kernel) rfl rfl ?_
      refine aw_iload_n (k0 := 2) B 2 (by decide +kernel) rfl rfl ?_
      refine aw_cVR B (c_X7_setsOfFirst_15 (eLa E) hG v2 M) cvX7_74 rfl rfl (Nat.le_of_ble_eq_true rfl) rfl (Nat.le_of_ble_eq_true rfl) (by decide +kernel) rfl (fun x17 => ?_)
      exact aw_ireturn B (by decide +kernel) rfl
    · refine aw_tout (dflt := 77) (lo := 0) (hi := 5) (offs := #[38, 47, 52, 61, 66, 71]) (len := 38) B 87 (by decide +kernel) (by have qh10_0 := lv_neT (a := 0) h10_0 (by decide); have qh10_1 := lv_neT (a := 1) h10_1 (by decide); have qh10_2 := lv_neT (a := 2) h10_2 (by decide); have qh10_3 := lv_neT (a := 3) h10_3 (by decide); have qh10_4 := lv_neT (a := 4) h10_4 (by decide); have qh10_5 := lv_neT (a := 5) h10_5 (by decide); omega) (by decide) ?_
      refine aw_aload_n (k0 := 0) B 0 (by decide +kernel) rfl rfl ?_
      refine aw_iload_n (k0 := 2) B 2 (by decide +kernel) rfl rfl ?_
      refine aw_cVR B (c_X7_lastOrNot_15 (eLa E) hG v2 M) cvX7_77 rfl rfl (Nat.le_of_ble_eq_true rfl) rfl (Nat.le_of_ble_eq_true rfl) (by decide +kernel) rfl (fun x19 => ?_)
      exact aw_ireturn B (by decide +kernel) rfl
  · refine aw_iconst (n := 0) (v := (0 : Int32)) B (by decide +kernel) (by decide) ?_
    exact aw_ireturn B (by decide +kernel) rfl
theorem c_X7_answers_15 (l : Launch) {G : GW} (hG : ab_ok G) (v1 : Int32) (v2 : Int32) (M : Mem) : AC l G yX7_answers cX7_answers 3 (some .int) 5 [.ref 15, .int v1, .int v2] M (embRI M) (f_X7_answers_15 v1 v2 M) := AC.of hG (by decide) (Nat.le_of_ble_eq_true rfl) (fun E hE B => by subst hE; exact w_X7_answers_15 hG B v1 v2 M)
def f_X8_isUnknown (v0 : Int32) (v1 : Int32) (v2 : Int32) : Option Int32 := (f_X8_isAbove v0 v1 v2).bind fun x1 => (if x1 = 0 then (f_X8_isAbove v0 v2 v1).bind fun x3 => (if x3 = 0 then (some (1 : Int32)) else (some (0 : Int32))) else (some (0 : Int32)))
set_option maxRecDepth 100000 in
set_option maxHeartbeats 4000000 in
theorem w_X8_isUnknown {G : GW} {E : EE} (hG : ab_ok G) (B : Bx G E RX8 cX8_isUnknown 3 3 (some .boolean)) (v0 : Int32) (v1 : Int32) (v2 : Int32) (M : Mem) : AWo G E cX8_isUnknown 3 (ab_Q G E (embRI M)) 0 [(0, .int v0), (1, .int v1), (2, .int v2)] [] M (f_X8_isUnknown v0 v1 v2) := by
  unfold f_X8_isUnknown
  refine aw_iload_n (k0 := 0) B 0 (by decide +kernel) rfl rfl ?_
  refine aw_iload_n (k0 := 1) B 1 (by decide +kernel) rfl rfl ?_
  refine aw_iload_n (k0 := 2) B 2 (by decide +kernel) rfl rfl ?_
  refine aw_cSR B (c_X8_isAbove (eLa E) hG v0 v1 v2 M) csX8_103 (Nat.le_of_ble_eq_true rfl) rfl (Nat.le_of_ble_eq_true rfl) (by decide +kernel) rfl (fun x1 => ?_)
  refine aw_if_ne (off := 16) B 22 (by decide +kernel) (by decide) (fun _ => ?_) (fun _ => ?_)
  · refine aw_iconst (n := 0) (v := (0 : Int32)) B (by decide +kernel) (by decide) ?_
    exact aw_zreturnK B (by decide +kernel) rfl (by decide)
  · refine aw_iload_n (k0 := 0) B 0 (by decide +kernel) rfl rfl ?_
    refine aw_iload_n (k0 := 2) B 2 (by decide +kernel) rfl rfl ?_
    refine aw_iload_n (k0 := 1) B 1 (by decide +kernel) rfl rfl ?_
    refine aw_cSR B (c_X8_isAbove (eLa E) hG v0 v2 v1 M) csX8_103 (Nat.le_of_ble_eq_true rfl) rfl (Nat.le_of_ble_eq_true rfl) (by decide +kernel) rfl (fun x3 => ?_)
    refine aw_if_ne (off := 7) B 22 (by decide +kernel) (by decide) (fun _ => ?_) (fun _ => ?_)
    · refine aw_iconst (n := 0) (v := (0 : Int32)) B (by decide +kernel) (by decide) ?_
      exact aw_zreturnK B (by decide +kernel) rfl (by decide)
    · refine aw_iconst (n := 1) (v := (1 : Int32)) B (by decide +kernel) (by decide) ?_
      refine aw_goto (off := 4) B 23 (by decide +kernel) (by decide) ?_
      exact aw_zreturnK B (by decide +kernel) rfl (by decide)
theorem c_X8_isUnknown (l : Launch) {G : GW} (hG : ab_ok G) (v0 : Int32) (v1 : Int32) (v2 : Int32) (M : Mem) : AC l G yX8_isUnknown cX8_isUnknown 3 (some .boolean) 3 [.int v0, .int v1, .int v2] M (embRI M) (f_X8_isUnknown v0 v1 v2) := AC.of hG (by decide) (Nat.le_of_ble_eq_true rfl) (fun E hE B => by subst hE; exact w_X8_isUnknown hG B v0 v1 v2 M)
def f_X8_with_b52 (k19 : Int32 → Int32 → Int32 → Int32 → Int32 → Option Int32) (v0 : Int32) (v2 : Int32) (v3 : Int32) (v4 : Int32) (v5 : Int32) : Option Int32 := k19 v0 v2 v3 v4 (v5 + 1)
set_option maxRecDepth 100000 in
set_option maxHeartbeats 4000000 in
theorem w_X8_with_b52 {G : GW} {E : EE} (hG : ab_ok G) (M : Mem) {k19 : Int32 → Int32 → Int32 → Int32 → Int32 → Option Int32} (B : Bx G E RX8 cX8_with 6 3 (some .int)) (hk19 : ∀ (v0 : Int32) (v2 : Int32) (v3 : Int32) (v4 : Int32) (v5 : Int32), AWo G E cX8_with 6 (ab_Q G E (embRI M)) 19 [(0, .int v0), (2, .int v2), (3, .int v3), (4, .int v4), (5, .int v5)] [] M (k19 v0 v2 v3 v4 v5)) (v0 : Int32) (v2 : Int32) (v3 : Int32) (v4 : Int32) (v5 : Int32) : AWo G E cX8_with 6 (ab_Q G E (embRI M)) 52 [(0, .int v0), (2, .int v2), (3, .int v3), (4, .int v4), (5, .int v5)] [] M (f_X8_with_b52 k19 v0 v2 v3 v4 v5) := by
  unfold f_X8_with_b52
  refine aw_iinc (i := 5) (n := 1) B 4 [(5, .int (v5 + 1)), (0, .int v0), (2, .int v2), (3, .int v3), (4, .int v4)] (by decide +kernel) rfl (Nat.le_of_ble_eq_true rfl) (v5 + 1) (ab_inc (by decide)) rfl ?_
  refine aw_goto (off := -36) B 19 (by decide +kernel) (by decide) ?_
  exact aw_sub [1, 2, 3, 4, 0] rfl (hk19 _ _ _ _ _)
def f_X8_with_b41 (k19 : Int32 → Int32 → Int32 → Int32 → Int32 → Option Int32) (v0 : Int32) (v2 : Int32) (v3 : Int32) (v4 : Int32) (v5 : Int32) : Option Int32 := lt (v4 ||| (ab_shl v3 ((4 : Int32) * v5))) fun x1 => f_X8_with_b52 k19 v0 v2 v3 x1 v5
set_option maxRecDepth 100000 in
set_option maxHeartbeats 4000000 in
theorem w_X8_with_b41 {G : GW} {E : EE} (hG : ab_ok G) (M : Mem) {k19 : Int32 → Int32 → Int32 → Int32 → Int32 → Option Int32} (B : Bx G E RX8 cX8_with 6 3 (some .int)) (hk19 : ∀ (v0 : Int32) (v2 : Int32) (v3 : Int32) (v4 : Int32) (v5 : Int32), AWo G E cX8_with 6 (ab_Q G E (embRI M)) 19 [(0, .int v0), (2, .int v2), (3, .int v3), (4, .int v4), (5, .int v5)] [] M (k19 v0 v2 v3 v4 v5)) (v0 : Int32) (v2 : Int32) (v3 : Int32) (v4 : Int32) (v5 : Int32) : AWo G E cX8_with 6 (ab_Q G E (embRI M)) 41 [(0, .int v0), (2, .int v2), (3, .int v3), (4, .int v4), (5, .int v5)] [] M (f_X8_with_b41 k19 v0 v2 v3 v4 v5) := by
  unfold f_X8_with_b41
  refine aw_iload (i := 4) B 3 (by decide +kernel) rfl ?_
  refine aw_iload_n (k0 := 3) B 2 (by decide +kernel) rfl rfl ?_
  refine aw_iconst (n := 4) (v := (4 : Int32)) B (by decide +kernel) (by decide) ?_
  refine aw_iload (i := 5) B 4 (by decide +kernel) rfl ?_
  refine aw_imul B (by decide +kernel) ?_
  refine aw_ishl B (by decide +kernel) ?_
  refine aw_ior B (by decide +kernel) ?_
  refine aw_ltI (fun x1 => ?_)
  refine aw_istore (i := 4) B [(4, .int x1), (0, .int v0), (2, .int v2), (3, .int v3), (5, .int v5)] (by decide +kernel) (Nat.le_of_ble_eq_true rfl) rfl ?_
  exact aw_sub [1, 2, 3, 0, 4] rfl (w_X8_with_b52 hG M B hk19 _ _ _ _ _)
def f_X8_with_L19 : Nat → Int32 → Int32 → Int32 → Int32 → Int32 → Option Int32
  | 0, _, _, _, _, _ => none
  | n + 1, v0, v2, v3, v4, v5 => (if (4 : Int32) ≤ v5 then (some v4) else (if v5 = v2 then f_X8_with_b41 (fun a0 a1 a2 a3 a4 => f_X8_with_L19 n a0 a1 a2 a3 a4) v0 v2 v3 v4 v5 else (f_X8_isAbove v0 v2 v5).bind fun x1 => (if x1 = 0 then f_X8_with_b52 (fun a0 a1 a2 a3 a4 => f_X8_with_L19 n a0 a1 a2 a3 a4) v0 v2 v3 v4 v5 else f_X8_with_b41 (fun a0 a1 a2 a3 a4 => f_X8_with_L19 n a0 a1 a2 a3 a4) v0 v2 v3 v4 v5)))
set_option maxRecDepth 100000 in
set_option maxHeartbeats 4000000 in
theorem w_X8_with_L19 {G : GW} {E : EE} (hG : ab_ok G) (M : Mem) (B : Bx G E RX8 cX8_with 6 3 (some .int)) : ∀ (n : Nat) (v0 : Int32) (v2 : Int32) (v3 : Int32) (v4 : Int32) (v5 : Int32), AWo G E cX8_with 6 (ab_Q G E (embRI M)) 19 [(0, .int v0), (2, .int v2), (3, .int v3), (4, .int v4), (5, .int v5)] [] M (f_X8_with_L19 n v0 v2 v3 v4 v5) := by
  intro n
  induction n with
  | zero => intro _ _ _ _ _; exact aw_none
  | succ n ih =>
    intro v0 v2 v3 v4 v5
    rw [f_X8_with_L19]
    refine aw_iload (i := 5) B 4 (by decide +kernel) rfl ?_
    refine aw_iconst (n := 4) (v := (4 : Int32)) B (by decide +kernel) (by decide) ?_
    refine aw_icmp_ge (off := 36) B 58 (by decide +kernel) (by decide) (fun _ => ?_) (fun _ => ?_)
    · refine aw_iload (i := 4) B 3 (by decide +kernel) rfl ?_
      exact aw_ireturn B (by decide +kernel) rfl
    · refine aw_iload (i := 5) B 4 (by decide +kernel) rfl ?_
      refine aw_iload_n (k0 := 2) B 1 (by decide +kernel) rfl rfl ?_
      refine aw_icmp_eq (off := 13) B 41 (by decide +kernel) (by decide) (fun _ => ?_) (fun _ => ?_)
      · exact w_X8_with_b41 hG M B ih _ _ _ _ _
      · refine aw_iload_n (k0 := 0) B 0 (by decide +kernel) rfl rfl ?_
        refine aw_iload_n (k0 := 2) B 1 (by decide +kernel) rfl rfl ?_
        refine aw_iload (i := 5) B 4 (by decide +kernel) rfl ?_
        refine aw_cSR B (c_X8_isAbove (eLa E) hG v0 v2 v5 M) csX8_103 (Nat.le_of_ble_eq_true rfl) rfl (Nat.le_of_ble_eq_true rfl) (by decide +kernel) rfl (fun x1 => ?_)
        refine aw_if_eq (off := 14) B 52 (by decide +kernel) (by decide) (fun _ => ?_) (fun _ => ?_)
        · exact w_X8_with_b52 hG M B ih _ _ _ _ _
        · exact w_X8_with_b41 hG M B ih _ _ _ _ _
def f_X8_with (v0 : Int32) (v1 : Int32) (v2 : Int32) : Option Int32 := lt (((ab_shr v0 ((4 : Int32) * v1)) &&& (15 : Int32)) ||| (ab_shl (1 : Int32) v1)) fun x1 => f_X8_with_L19 FU v0 v2 x1 v0 (0 : Int32)
set_option maxRecDepth 100000 in
set_option maxHeartbeats 4000000 in
theorem w_X8_with {G : GW} {E : EE} (hG : ab_ok G) (B : Bx G E RX8 cX8_with 6 3 (some .int)) (v0 : Int32) (v1 : Int32) (v2 : Int32) (M : Mem) : AWo G E cX8_with 6 (ab_Q G E (embRI M)) 0 [(0, .int v0), (1, .int v1), (2, .int v2)] [] M (f_X8_with v0 v1 v2) := by
  unfold f_X8_with
  refine aw_iload_n (k0 := 0) B 0 (by decide +kernel) rfl rfl ?_
  refine aw_iconst (n := 4) (v := (4 : Int32)) B (by decide +kernel) (by decide) ?_
  refine aw_iload_n (k0 := 1) B 1 (by decide +kernel) rfl rfl ?_
  refine aw_imul B (by decide +kernel) ?_
  refine aw_ishr B (by decide +kernel) ?_
  refine aw_bipush (n := 15) (v := (15 : Int32)) B (by decide +kernel) (by decide) ?_
  refine aw_iand B (by decide +kernel) ?_
  refine aw_iconst (n := 1) (v := (1 : Int32)) B (by decide +kernel) (by decide) ?_
  refine aw_iload_n (k0 := 1) B 1 (by decide +kernel) rfl rfl ?_
  refine aw_ishl B (by decide +kernel) ?_
  refine aw_ior B (by decide +kernel) ?_
  refine aw_ltI (fun x1 => ?_)
  refine aw_istore_n (k0 := 3) B [(3, .int x1), (0, .int v0), (1, .int v1), (2, .int v2)] (by decide +kernel) rfl (Nat.le_of_ble_eq_true rfl) rfl ?_
  refine aw_iload_n (k0 := 0) B 1 (by decide +kernel) rfl rfl ?_
  refine aw_istore (i := 4) B [(4, .int v0), (3, .int x1), (0, .int v0), (1, .int v1), (2, .int v2)] (by decide +kernel) (Nat.le_of_ble_eq_true rfl) rfl ?_
  refine aw_iconst (n := 0) (v := (0 : Int32)) B (by decide +kernel) (by decide) ?_
  refine aw_istore (i := 5) B [(5, .int (0 : Int32)), (4, .int v0), (3, .int x1), (0, .int v0), (1, .int v1), (2, .int v2)] (by decide +kernel) (Nat.le_of_ble_eq_true rfl) rfl ?_
  exact aw_sub [3, 5, 2, 1, 0] rfl (w_X8_with_L19 hG M B FU _ _ _ _ _)
theorem c_X8_with (l : Launch) {G : GW} (hG : ab_ok G) (v0 : Int32) (v1 : Int32) (v2 : Int32) (M : Mem) : AC l G yX8_with cX8_with 6 (some .int) 3 [.int v0, .int v1, .int v2] M (embRI M) (f_X8_with v0 v1 v2) := AC.of hG (by decide) (Nat.le_of_ble_eq_true rfl) (fun E hE B => by subst hE; exact w_X8_with hG B v0 v1 v2 M)
def f_X8_restBy (rc : Int32 → Int32 → Int32 → Mem → Option (Int32 × Mem)) (v1 : Int32) (v2 : Int32) (v3 : Int32) (v4 : Int32) (v5 : Int32) (M : Mem) : Option (Int32 × Mem) := (f_X8_with v1 v2 v3).bind fun x1 => bI (rc x1 v4 (v5 + (1 : Int32)) M) fun x3 M4 => (f_X8_with v1 v3 v2).bind fun x5 => bI (rc x5 v4 (v5 + (1 : Int32)) M4) fun x7 M8 => (if v4 = 0 then (some (ab_max x3 x7, M8)) else (some (x3 + x7, M8)))
set_option maxRecDepth 100000 in
set_option maxHeartbeats 4000000 in
theorem w_X8_restBy {G : GW} {E : EE} (hG : ab_ok G) {rc : Int32 → Int32 → Int32 → Mem → Option (Int32 × Mem)} (lv0 : Nat) (hl0 : 6 ≤ lv0) (hrc : ∀ (v1 : Int32) (v2 : Int32) (v3 : Int32) (M : Mem), AC (eLa E) G yX8_cost cX8_cost 8 (some .int) lv0 [.ref 14, .int v1, .int v2, .int v3] M embI (rc v1 v2 v3 M)) (B : Bx G E RX8 cX8_restBy 8 (lv0 + 1) (some .int)) (v1 : Int32) (v2 : Int32) (v3 : Int32) (v4 : Int32) (v5 : Int32) (M : Mem) : AWo G E cX8_restBy 8 (ab_Q G E embI) 0 [(0, .ref 14), (1, .int v1), (2, .int v2), (3, .int v3), (4, .int v4), (5, .int v5)] [] M (f_X8_restBy rc v1 v2 v3 v4 v5 M) := by
  unfold f_X8_restBy
  refine aw_aload_n (k0 := 0) B 0 (by decide +kernel) rfl rfl ?_
  refine aw_iload_n (k0 := 1) B 1 (by decide +kernel) rfl rfl ?_
  refine aw_iload_n (k0 := 2) B 2 (by decide +kernel) rfl rfl ?_
  refine aw_iload_n (k0 := 3) B 3 (by decide +kernel) rfl rfl ?_
  refine aw_cSR B (c_X8_with (eLa E) hG v1 v2 v3 M) csX8_99 (by have hF : FD = 40 := rfl; omega) rfl (Nat.le_of_ble_eq_true rfl) (by decide +kernel) rfl (fun x1 => ?_)
  refine aw_iload (i := 4) B 4 (by decide +kernel) rfl ?_
  refine aw_iload (i := 5) B 5 (by decide +kernel) rfl ?_
  refine aw_iconst (n := 1) (v := (1 : Int32)) B (by decide +kernel) (by decide) ?_
  refine aw_iadd B (by decide +kernel) ?_
  refine aw_cVI B (hrc x1 v4 (v5 + (1 : Int32)) M) cvX8_55 rfl rfl (by have hF : FD = 40 := rfl; omega) rfl (Nat.le_of_ble_eq_true rfl) (by decide +kernel) rfl (fun x3 M4 => ?_)
  refine aw_istore (i := 6) B [(6, .int x3), (0, .ref 14), (1, .int v1), (2, .int v2), (3, .int v3), (4, .int v4), (5, .int v5)] (by decide +kernel) (Nat.le_of_ble_eq_true rfl) rfl ?_
  refine aw_aload_n (k0 := 0) B 1 (by decide +kernel) rfl rfl ?_
  refine aw_iload_n (k0 := 1) B 2 (by decide +kernel) rfl rfl ?_
  refine aw_iload_n (k0 := 3) B 4 (by decide +kernel) rfl rfl ?_
  refine aw_iload_n (k0 := 2) B 3 (by decide +kernel) rfl rfl ?_
  refine aw_cSR B (c_X8_with (eLa E) hG v1 v3 v2 M4) csX8_99 (by have hF : FD = 40 := rfl; omega) rfl (Nat.le_of_ble_eq_true rfl) (by decide +kernel) rfl (fun x5 => ?_)
  refine aw_iload (i := 4) B 5 (by decide +kernel) rfl ?_
  refine aw_iload (i := 5) B 6 (by decide +kernel) rfl ?_
  refine aw_iconst (n := 1) (v := (1 : Int32)) B (by decide +kernel) (by decide) ?_
  refine aw_iadd B (by decide +kernel) ?_
  refine aw_cVI B (hrc x5 v4 (v5 + (1 : Int32)) M4) cvX8_55 rfl rfl (by have hF : FD = 40 := rfl; omega) rfl (Nat.le_of_ble_eq_true rfl) (by decide +kernel) rfl (fun x7 M8 => ?_)
  refine aw_istore (i := 7) B [(7, .int x7), (6, .int x3), (0, .ref 14), (1, .int v1), (2, .int v2), (3, .int v3), (4, .int v4), (5, .int v5)] (by decide +kernel) (Nat.le_of_ble_eq_true rfl) rfl ?_
  refine aw_iload (i := 4) B 6 (by decide +kernel) rfl ?_
  refine aw_if_eq (off := 11) B 49 (by decide +kernel) (by decide) (fun _ => ?_) (fun _ => ?_)
  · refine aw_iload (i := 6) B 1 (by decide +kernel) rfl ?_
    refine aw_iload (i := 7) B 0 (by decide +kernel) rfl ?_
    refine aw_max B lxX8_88 (by decide +kernel) (Nat.le_of_ble_eq_true rfl) (by omega) ?_
    exact aw_ireturn B (by decide +kernel) rfl
  · refine aw_iload (i := 6) B 1 (by decide +kernel) rfl ?_
    refine aw_iload (i := 7) B 0 (by decide +kernel) rfl ?_
    refine aw_iadd B (by decide +kernel) ?_
    refine aw_goto (off := 10) B 56 (by decide +kernel) (by decide) ?_
    exact aw_ireturn B (by decide +kernel) rfl
theorem oc_X8_restBy (l : Launch) {G : GW} (hG : ab_ok G) {rc : Int32 → Int32 → Int32 → Mem → Option (Int32 × Mem)} (lv0 : Nat) (hl0 : 6 ≤ lv0) (hrc : ∀ (v1 : Int32) (v2 : Int32) (v3 : Int32) (M : Mem), AC l G yX8_cost cX8_cost 8 (some .int) lv0 [.ref 14, .int v1, .int v2, .int v3] M embI (rc v1 v2 v3 M)) (v1 : Int32) (v2 : Int32) (v3 : Int32) (v4 : Int32) (v5 : Int32) (M : Mem) : AC l G yX8_restBy cX8_restBy 8 (some .int) (lv0 + 1) [.ref 14, .int v1, .int v2, .int v3, .int v4, .int v5] M embI (f_X8_restBy rc v1 v2 v3 v4 v5 M) := AC.of hG (by decide) (Nat.le_of_ble_eq_true rfl) (fun E hE B => by subst hE; exact w_X8_restBy hG lv0 hl0 hrc B v1 v2 v3 v4 v5 M)
def f_X8_leastRest_b60 (rc : Int32 → Int32 → Int32 → Mem → Option (Int32 × Mem)) (k22 : Int32 → Int32 → Int32 → Int32 → Int32 → Int32 → Mem → Option (Int32 × Mem)) (v1 : Int32) (v2 : Int32) (v3 : Int32) (v4 : Int32) (v5 : Int32) (v6 : Int32) (M : Mem) : Option (Int32 × Mem) := k22 v1 v2 v3 v4 v5 (v6 + 1) M
set_option maxRecDepth 100000 in
set_option maxHeartbeats 4000000 in
theorem w_X8_leastRest_b60 {G : GW} {E : EE} (hG : ab_ok G) {k22 : Int32 → Int32 → Int32 → Int32 → Int32 → Int32 → Mem → Option (Int32 × Mem)} {rc : Int32 → Int32 → Int32 → Mem → Option (Int32 × Mem)} (lv0 : Nat) (hl0 : 6 ≤ lv0) (hrc : ∀ (v1 : Int32) (v2 : Int32) (v3 : Int32) (M : Mem), AC (eLa E) G yX8_cost cX8_cost 8 (some .int) lv0 [.ref 14, .int v1, .int v2, .int v3] M embI (rc v1 v2 v3 M)) (B : Bx G E RX8 cX8_leastRest 7 (lv0 + 2) (some .int)) (hk22 : ∀ (v1 : Int32) (v2 : Int32) (v3 : Int32) (v4 : Int32) (v5 : Int32) (v6 : Int32) (M : Mem), AWo G E cX8_leastRest 7 (ab_Q G E embI) 22 [(0, .ref 14), (1, .int v1), (2, .int v2), (3, .int v3), (4, .int v4), (5, .int v5), (6, .int v6)] [] M (k22 v1 v2 v3 v4 v5 v6 M)) (v1 : Int32) (v2 : Int32) (v3 : Int32) (v4 : Int32) (v5 : Int32) (v6 : Int32) (M : Mem) : AWo G E cX8_leastRest 7 (ab_Q G E embI) 60 [(0, .ref 14), (1, .int v1), (2, .int v2), (3, .int v3), (4, .int v4), (5, .int v5), (6, .int v6)] [] M (f_X8_leastRest_b60 rc k22 v1 v2 v3 v4 v5 v6 M) := by
  unfold f_X8_leastRest_b60
  refine aw_iinc (i := 6) (n := 1) B 6 [(6, .int (v6 + 1)), (0, .ref 14), (1, .int v1), (2, .int v2), (3, .int v3), (4, .int v4), (5, .int v5)] (by decide +kernel) rfl (Nat.le_of_ble_eq_true rfl) (v6 + 1) (ab_inc (by decide)) rfl ?_
  refine aw_goto (off := -41) B 22 (by decide +kernel) (by decide) ?_
  exact aw_sub [1, 2, 3, 4, 5, 6, 0] rfl (hk22 _ _ _ _ _ _ _)
def f_X8_leastRest_L22 (rc : Int32 → Int32 → Int32 → Mem → Option (Int32 × Mem)) (k7 : Int32 → Int32 → Int32 → Int32 → Int32 → Mem → Option (Int32 × Mem)) : Nat → Int32 → Int32 → Int32 → Int32 → Int32 → Int32 → Mem → Option (Int32 × Mem)
  | 0, _, _, _, _, _, _, _ => none
  | n + 1, v1, v2, v3, v4, v5, v6, M => (if (M.1 14 3) ≤ v6 then k7 v1 v2 v3 v4 (v5 + 1) M else (f_X8_isUnknown v1 v5 v6).bind fun x1 => (if x1 = 0 then f_X8_leastRest_b60 rc (fun a0 a1 a2 a3 a4 a5 a6 => f_X8_leastRest_L22 rc k7 n a0 a1 a2 a3 a4 a5 a6) v1 v2 v3 v4 v5 v6 M else bI (f_X8_restBy rc v1 v5 v6 v2 v3 M) fun x3 M4 => lt (ab_min v4 x3) fun x5 => f_X8_leastRest_b60 rc (fun a0 a1 a2 a3 a4 a5 a6 => f_X8_leastRest_L22 rc k7 n a0 a1 a2 a3 a4 a5 a6) v1 v2 v3 x5 v5 v6 M4))
set_option maxRecDepth 100000 in
set_option maxHeartbeats 4000000 in
theorem w_X8_leastRest_L22 {G : GW} {E : EE} (hG : ab_ok G) {k7 : Int32 → Int32 → Int32 → Int32 → Int32 → Mem → Option (Int32 × Mem)} {rc : Int32 → Int32 → Int32 → Mem → Option (Int32 × Mem)} (lv0 : Nat) (hl0 : 6 ≤ lv0) (hrc : ∀ (v1 : Int32) (v2 : Int32) (v3 : Int32) (M : Mem), AC (eLa E) G yX8_cost cX8_cost 8 (some .int) lv0 [.ref 14, .int v1, .int v2, .int v3] M embI (rc v1 v2 v3 M)) (B : Bx G E RX8 cX8_leastRest 7 (lv0 + 2) (some .int)) (hk7 : ∀ (v1 : Int32) (v2 : Int32) (v3 : Int32) (v4 : Int32) (v5 : Int32) (M : Mem), AWo G E cX8_leastRest 7 (ab_Q G E embI) 7 [(0, .ref 14), (1, .int v1), (2, .int v2), (3, .int v3), (4, .int v4), (5, .int v5)] [] M (k7 v1 v2 v3 v4 v5 M)) : ∀ (n : Nat) (v1 : Int32) (v2 : Int32) (v3 : Int32) (v4 : Int32) (v5 : Int32) (v6 : Int32) (M : Mem), AWo G E cX8_leastRest 7 (ab_Q G E embI) 22 [(0, .ref 14), (1, .int v1), (2, .int v2), (3, .int v3), (4, .int v4), (5, .int v5), (6, .int v6)] [] M (f_X8_leastRest_L22 rc k7 n v1 v2 v3 v4 v5 v6 M) := by
  intro n
  induction n with
  | zero => intro _ _ _ _ _ _ _; exact aw_none
  | succ n ih =>
    intro v1 v2 v3 v4 v5 v6 M
    rw [f_X8_leastRest_L22]
    refine aw_iload (i := 6) B 6 (by decide +kernel) rfl ?_
    refine aw_aload_n (k0 := 0) B 0 (by decide +kernel) rfl rfl ?_
    refine aw_geti (c := 14) B lkX8_23 (by decide +kernel) rfl ?_
    refine aw_icmp_ge (off := 38) B 66 (by decide +kernel) (by decide) (fun _ => ?_) (fun _ => ?_)
    · refine aw_iinc (i := 5) (n := 1) B 5 [(5, .int (v5 + 1)), (0, .ref 14), (1, .int v1), (2, .int v2), (3, .int v3), (4, .int v4), (6, .int v6)] (by decide +kernel) rfl (Nat.le_of_ble_eq_true rfl) (v5 + 1) (ab_inc (by decide)) rfl ?_
      refine aw_goto (off := -62) B 7 (by decide +kernel) (by decide) ?_
      exact aw_sub [1, 2, 3, 4, 5, 0] rfl (hk7 _ _ _ _ _ _)
    · refine aw_iload_n (k0 := 1) B 1 (by decide +kernel) rfl rfl ?_
      refine aw_iload (i := 5) B 5 (by decide +kernel) rfl ?_
      refine aw_iload (i := 6) B 6 (by decide +kernel) rfl ?_
      refine aw_cSR B (c_X8_isUnknown (eLa E) hG v1 v5 v6 M) csX8_59 (by have hF : FD = 40 := rfl; omega) rfl (Nat.le_of_ble_eq_true rfl) (by decide +kernel) rfl (fun x1 => ?_)
      refine aw_if_eq (off := 21) B 60 (by decide +kernel) (by decide) (fun _ => ?_) (fun _ => ?_)
      · exact w_X8_leastRest_b60 hG lv0 hl0 hrc B ih _ _ _ _ _ _ _
      · refine aw_iload (i := 4) B 4 (by decide +kernel) rfl ?_
        refine aw_aload_n (k0 := 0) B 0 (by decide +kernel) rfl rfl ?_
        refine aw_iload_n (k0 := 1) B 1 (by decide +kernel) rfl rfl ?_
        refine aw_iload (i := 5) B 5 (by decide +kernel) rfl ?_
        refine aw_iload (i := 6) B 6 (by decide +kernel) rfl ?_
        refine aw_iload_n (k0 := 2) B 2 (by decide +kernel) rfl rfl ?_
        refine aw_iload_n (k0 := 3) B 3 (by decide +kernel) rfl rfl ?_
        refine aw_cVI B (oc_X8_restBy (eLa E) hG lv0 hl0 hrc v1 v5 v6 v2 v3 M) cvX8_63 rfl rfl (by have hF : FD = 40 := rfl; omega) rfl (Nat.le_of_ble_eq_true rfl) (by decide +kernel) rfl (fun x3 M4 => ?_)
        refine aw_min B lxX8_96 (by decide +kernel) (Nat.le_of_ble_eq_true rfl) (by omega) ?_
        refine aw_ltI (fun x5 => ?_)
        refine aw_istore (i := 4) B [(4, .int x5), (0, .ref 14), (1, .int v1), (2, .int v2), (3, .int v3), (5, .int v5), (6, .int v6)] (by decide +kernel) (Nat.le_of_ble_eq_true rfl) rfl ?_
        exact aw_sub [1, 2, 3, 4, 0, 5, 6] rfl (w_X8_leastRest_b60 hG lv0 hl0 hrc B ih _ _ _ _ _ _ _)
def f_X8_leastRest_L7 (rc : Int32 → Int32 → Int32 → Mem → Option (Int32 × Mem)) : Nat → Int32 → Int32 → Int32 → Int32 → Int32 → Mem → Option (Int32 × Mem)
  | 0, _, _, _, _, _, _ => none
  | n + 1, v1, v2, v3, v4, v5, M => (if (M.1 14 3) ≤ v5 then (if v4 = (2147483647 : Int32) then (some ((0 : Int32), M)) else (some (v4, M))) else lt (v5 + (1 : Int32)) fun x1 => f_X8_leastRest_L22 rc (fun a0 a1 a2 a3 a4 a5 => f_X8_leastRest_L7 rc n a0 a1 a2 a3 a4 a5) FU v1 v2 v3 v4 v5 x1 M)
set_option maxRecDepth 100000 in
set_option maxHeartbeats 4000000 in
theorem w_X8_leastRest_L7 {G : GW} {E : EE} (hG : ab_ok G) {rc : Int32 → Int32 → Int32 → Mem → Option (Int32 × Mem)} (lv0 : Nat) (hl0 : 6 ≤ lv0) (hrc : ∀ (v1 : Int32) (v2 : Int32) (v3 : Int32) (M : Mem), AC (eLa E) G yX8_cost cX8_cost 8 (some .int) lv0 [.ref 14, .int v1, .int v2, .int v3] M embI (rc v1 v2 v3 M)) (B : Bx G E RX8 cX8_leastRest 7 (lv0 + 2) (some .int)) : ∀ (n : Nat) (v1 : Int32) (v2 : Int32) (v3 : Int32) (v4 : Int32) (v5 : Int32) (M : Mem), AWo G E cX8_leastRest 7 (ab_Q G E embI) 7 [(0, .ref 14), (1, .int v1), (2, .int v2), (3, .int v3), (4, .int v4), (5, .int v5)] [] M (f_X8_leastRest_L7 rc n v1 v2 v3 v4 v5 M) := by
  intro n
  induction n with
  | zero => intro _ _ _ _ _ _; exact aw_none
  | succ n ih =>
    intro v1 v2 v3 v4 v5 M
    rw [f_X8_leastRest_L7]
    refine aw_iload (i := 5) B 5 (by decide +kernel) rfl ?_
    refine aw_aload_n (k0 := 0) B 0 (by decide +kernel) rfl rfl ?_
    refine aw_geti (c := 14) B lkX8_23 (by decide +kernel) rfl ?_
    refine aw_icmp_ge (off := 59) B 72 (by decide +kernel) (by decide) (fun _ => ?_) (fun _ => ?_)
    · refine aw_iload (i := 4) B 4 (by decide +kernel) rfl ?_
      refine aw_ldc B (by decide +kernel) lwX8_95 ?_
      refine aw_icmp_ne (off := 7) B 83 (by decide +kernel) (by decide) (fun _ => ?_) (fun _ => ?_)
      · refine aw_iload (i := 4) B 4 (by decide +kernel) rfl ?_
        exact aw_ireturn B (by decide +kernel) rfl
      · refine aw_iconst (n := 0) (v := (0 : Int32)) B (by decide +kernel) (by decide) ?_
        refine aw_goto (off := 5) B 85 (by decide +kernel) (by decide) ?_
        exact aw_ireturn B (by decide +kernel) rfl
    · refine aw_iload (i := 5) B 5 (by decide +kernel) rfl ?_
      refine aw_iconst (n := 1) (v := (1 : Int32)) B (by decide +kernel) (by decide) ?_
      refine aw_iadd B (by decide +kernel) ?_
      refine aw_ltI (fun x1 => ?_)
      refine aw_istore (i := 6) B [(6, .int x1), (0, .ref 14), (1, .int v1), (2, .int v2), (3, .int v3), (4, .int v4), (5, .int v5)] (by decide +kernel) (Nat.le_of_ble_eq_true rfl) rfl ?_
      exact aw_sub [1, 2, 3, 4, 5, 6, 0] rfl (w_X8_leastRest_L22 hG lv0 hl0 hrc B ih FU _ _ _ _ _ _ _)
def f_X8_leastRest (rc : Int32 → Int32 → Int32 → Mem → Option (Int32 × Mem)) (v1 : Int32) (v2 : Int32) (v3 : Int32) (M : Mem) : Option (Int32 × Mem) := f_X8_leastRest_L7 rc FU v1 v2 v3 (2147483647 : Int32) (0 : Int32) M
set_option maxRecDepth 100000 in
set_option maxHeartbeats 4000000 in
theorem w_X8_leastRest {G : GW} {E : EE} (hG : ab_ok G) {rc : Int32 → Int32 → Int32 → Mem → Option (Int32 × Mem)} (lv0 : Nat) (hl0 : 6 ≤ lv0) (hrc : ∀ (v1 : Int32) (v2 : Int32) (v3 : Int32) (M : Mem), AC (eLa E) G yX8_cost cX8_cost 8 (some .int) lv0 [.ref 14, .int v1, .int v2, .int v3] M embI (rc v1 v2 v3 M)) (B : Bx G E RX8 cX8_leastRest 7 (lv0 + 2) (some .int)) (v1 : Int32) (v2 : Int32) (v3 : Int32) (M : Mem) : AWo G E cX8_leastRest 7 (ab_Q G E embI) 0 [(0, .ref 14), (1, .int v1), (2, .int v2), (3, .int v3)] [] M (f_X8_leastRest rc v1 v2 v3 M) := by
  unfold f_X8_leastRest
  refine aw_ldc B (by decide +kernel) lwX8_95 ?_
  refine aw_istore (i := 4) B [(4, .int (2147483647 : Int32)), (0, .ref 14), (1, .int v1), (2, .int v2), (3, .int v3)] (by decide +kernel) (Nat.le_of_ble_eq_true rfl) rfl ?_
  refine aw_iconst (n := 0) (v := (0 : Int32)) B (by decide +kernel) (by decide) ?_
  refine aw_istore (i := 5) B [(5, .int (0 : Int32)), (4, .int (2147483647 : Int32)), (0, .ref 14), (1, .int v1), (2, .int v2), (3, .int v3)] (by decide +kernel) (Nat.le_of_ble_eq_true rfl) rfl ?_
  exact aw_sub [2, 3, 4, 5, 1, 0] rfl (w_X8_leastRest_L7 hG lv0 hl0 hrc B FU _ _ _ _ _ _)
theorem oc_X8_leastRest (l : Launch) {G : GW} (hG : ab_ok G) {rc : Int32 → Int32 → Int32 → Mem → Option (Int32 × Mem)} (lv0 : Nat) (hl0 : 6 ≤ lv0) (hrc : ∀ (v1 : Int32) (v2 : Int32) (v3 : Int32) (M : Mem), AC l G yX8_cost cX8_cost 8 (some .int) lv0 [.ref 14, .int v1, .int v2, .int v3] M embI (rc v1 v2 v3 M)) (v1 : Int32) (v2 : Int32) (v3 : Int32) (M : Mem) : AC l G yX8_leastRest cX8_leastRest 7 (some .int) (lv0 + 2) [.ref 14, .int v1, .int v2, .int v3] M embI (f_X8_leastRest rc v1 v2 v3 M) := AC.of hG (by decide) (Nat.le_of_ble_eq_true rfl) (fun E hE B => by subst hE; exact w_X8_leastRest hG lv0 hl0 hrc B v1 v2 v3 M)
def f_X8_cost_b160 (rc : Int32 → Int32 → Int32 → Mem → Option (Int32 × Mem)) (v4 : Nat) (v5 : Int32) (M : Mem) : Option (Int32 × Mem) := ck (okI v4 v5) ((some (ab_max (0 : Int32) (M.1 v4 v5.toNatClampNeg), M)))
set_option maxRecDepth 100000 in
set_option maxHeartbeats 4000000 in
theorem w_X8_cost_b160 {G : GW} {E : EE} (hG : ab_ok G) {rc : Int32 → Int32 → Int32 → Mem → Option (Int32 × Mem)} (lv0 : Nat) (hl0 : 6 ≤ lv0) (hrc : ∀ (v1 : Int32) (v2 : Int32) (v3 : Int32) (M : Mem), AC (eLa E) G yX8_cost cX8_cost 8 (some .int) lv0 [.ref 14, .int v1, .int v2, .int v3] M embI (rc v1 v2 v3 M)) (B : Bx G E RX8 cX8_cost 8 (lv0 + 3) (some .int)) (v4 : Nat) (v5 : Int32) (M : Mem) : AWo G E cX8_cost 8 (ab_Q G E embI) 160 [(4, .ref v4), (5, .int v5)] [] M (f_X8_cost_b160 rc v4 v5 M) := by
  unfold f_X8_cost_b160
  refine aw_iconst (n := 0) (v := (0 : Int32)) B (by decide +kernel) (by decide) ?_
  refine aw_aload (i := 4) B 0 (by decide +kernel) rfl ?_
  refine aw_iload (i := 5) B 1 (by decide +kernel) rfl ?_
  refine aw_iaload B (by decide +kernel) ?_
  refine aw_max B lxX8_88 (by decide +kernel) (Nat.le_of_ble_eq_true rfl) (by omega) ?_
  exact aw_ireturn B (by decide +kernel) rfl
def f_X8_cost_b159 (rc : Int32 → Int32 → Int32 → Mem → Option (Int32 × Mem)) (v4 : Nat) (v5 : Int32) (s0 : Int32) (s1 : Int32) (s2 : Nat) (M : Mem) : Option (Int32 × Mem) := ck (okI s2 s1) (lt (wI M s2 s1.toNatClampNeg s0) fun M1 => f_X8_cost_b160 rc v4 v5 M1)
set_option maxRecDepth 100000 in
set_option maxHeartbeats 4000000 in
theorem w_X8_cost_b159 {G : GW} {E : EE} (hG : ab_ok G) {rc : Int32 → Int32 → Int32 → Mem → Option (Int32 × Mem)} (lv0 : Nat) (hl0 : 6 ≤ lv0) (hrc : ∀ (v1 : Int32) (v2 : Int32) (v3 : Int32) (M : Mem), AC (eLa E) G yX8_cost cX8_cost 8 (some .int) lv0 [.ref 14, .int v1, .int v2, .int v3] M embI (rc v1 v2 v3 M)) (B : Bx G E RX8 cX8_cost 8 (lv0 + 3) (some .int)) (v4 : Nat) (v5 : Int32) (s0 : Int32) (s1 : Int32) (s2 : Nat) (M : Mem) : AWo G E cX8_cost 8 (ab_Q G E embI) 159 [(4, .ref v4), (5, .int v5)] [.int s0, .int s1, .ref s2] M (f_X8_cost_b159 rc v4 v5 s0 s1 s2 M) := by
  unfold f_X8_cost_b159
  refine aw_iastore B (by decide +kernel) (fun M1 => ?_)
  exact w_X8_cost_b160 hG lv0 hl0 hrc B _ _ _
def f_X8_cost_b134 (rc : Int32 → Int32 → Int32 → Mem → Option (Int32 × Mem)) (v1 : Int32) (v2 : Int32) (v3 : Int32) (v4 : Nat) (v5 : Int32) (v6 : Int32) (s0 : Int32) (M : Mem) : Option (Int32 × Mem) := (if v6 = 0 then bI (f_X8_leastRest rc v1 v2 v3 M) fun x1 M2 => f_X8_cost_b159 rc v4 v5 (s0 + x1) v5 v4 M2 else f_X8_cost_b159 rc v4 v5 (0 : Int32) v5 v4 M)
set_option maxRecDepth 100000 in
set_option maxHeartbeats 4000000 in
theorem w_X8_cost_b134 {G : GW} {E : EE} (hG : ab_ok G) {rc : Int32 → Int32 → Int32 → Mem → Option (Int32 × Mem)} (lv0 : Nat) (hl0 : 6 ≤ lv0) (hrc : ∀ (v1 : Int32) (v2 : Int32) (v3 : Int32) (M : Mem), AC (eLa E) G yX8_cost cX8_cost 8 (some .int) lv0 [.ref 14, .int v1, .int v2, .int v3] M embI (rc v1 v2 v3 M)) (B : Bx G E RX8 cX8_cost 8 (lv0 + 3) (some .int)) (v1 : Int32) (v2 : Int32) (v3 : Int32) (v4 : Nat) (v5 : Int32) (v6 : Int32) (s0 : Int32) (M : Mem) : AWo G E cX8_cost 8 (ab_Q G E embI) 134 [(0, .ref 14), (1, .int v1), (2, .int v2), (3, .int v3), (4, .ref v4), (5, .int v5), (6, .int v6)] [.int s0] M (f_X8_cost_b134 rc v1 v2 v3 v4 v5 v6 s0 M) := by
  unfold f_X8_cost_b134
  refine aw_istore (i := 7) B [(7, .int s0), (0, .ref 14), (1, .int v1), (2, .int v2), (3, .int v3), (4, .ref v4), (5, .int v5), (6, .int v6)] (by decide +kernel) (Nat.le_of_ble_eq_true rfl) rfl ?_
  refine aw_aload (i := 4) B 5 (by decide +kernel) rfl ?_
  refine aw_iload (i := 5) B 6 (by decide +kernel) rfl ?_
  refine aw_iload (i := 6) B 7 (by decide +kernel) rfl ?_
  refine aw_if_eq (off := 7) B 149 (by decide +kernel) (by decide) (fun _ => ?_) (fun _ => ?_)
  · refine aw_iload (i := 7) B 0 (by decide +kernel) rfl ?_
    refine aw_aload_n (k0 := 0) B 1 (by decide +kernel) rfl rfl ?_
    refine aw_iload_n (k0 := 1) B 2 (by decide +kernel) rfl rfl ?_
    refine aw_iload_n (k0 := 2) B 3 (by decide +kernel) rfl rfl ?_
    refine aw_iload_n (k0 := 3) B 4 (by decide +kernel) rfl rfl ?_
    refine aw_cVI B (oc_X8_leastRest (eLa E) hG lv0 hl0 hrc v1 v2 v3 M) cvX8_85 rfl rfl (by have hF : FD = 40 := rfl; omega) rfl (Nat.le_of_ble_eq_true rfl) (by decide +kernel) rfl (fun x1 M2 => ?_)
    refine aw_iadd B (by decide +kernel) ?_
    exact aw_sub [5, 6] rfl (w_X8_cost_b159 hG lv0 hl0 hrc B _ _ _ _ _ _)
  · refine aw_iconst (n := 0) (v := (0 : Int32)) B (by decide +kernel) (by decide) ?_
    refine aw_goto (off := 13) B 159 (by decide +kernel) (by decide) ?_
    exact aw_sub [5, 6] rfl (w_X8_cost_b159 hG lv0 hl0 hrc B _ _ _ _ _ _)
def f_X8_cost_b117 (rc : Int32 → Int32 → Int32 → Mem → Option (Int32 × Mem)) (v1 : Int32) (v2 : Int32) (v3 : Int32) (v4 : Nat) (v5 : Int32) (s0 : Int32) (M : Mem) : Option (Int32 × Mem) := (if v2 = 0 then f_X8_cost_b134 rc v1 v2 v3 v4 v5 s0 (1 : Int32) M else (f_X7_all_15 M).bind fun x1 => f_X8_cost_b134 rc v1 v2 v3 v4 v5 s0 x1 M)
set_option maxRecDepth 100000 in
set_option maxHeartbeats 4000000 in
theorem w_X8_cost_b117 {G : GW} {E : EE} (hG : ab_ok G) {rc : Int32 → Int32 → Int32 → Mem → Option (Int32 × Mem)} (lv0 : Nat) (hl0 : 6 ≤ lv0) (hrc : ∀ (v1 : Int32) (v2 : Int32) (v3 : Int32) (M : Mem), AC (eLa E) G yX8_cost cX8_cost 8 (some .int) lv0 [.ref 14, .int v1, .int v2, .int v3] M embI (rc v1 v2 v3 M)) (B : Bx G E RX8 cX8_cost 8 (lv0 + 3) (some .int)) (v1 : Int32) (v2 : Int32) (v3 : Int32) (v4 : Nat) (v5 : Int32) (s0 : Int32) (M : Mem) : AWo G E cX8_cost 8 (ab_Q G E embI) 117 [(0, .ref 14), (1, .int v1), (2, .int v2), (3, .int v3), (4, .ref v4), (5, .int v5)] [.int s0] M (f_X8_cost_b117 rc v1 v2 v3 v4 v5 s0 M) := by
  unfold f_X8_cost_b117
  refine aw_istore (i := 6) B [(6, .int s0), (0, .ref 14), (1, .int v1), (2, .int v2), (3, .int v3), (4, .ref v4), (5, .int v5)] (by decide +kernel) (Nat.le_of_ble_eq_true rfl) rfl ?_
  refine aw_iload_n (k0 := 2) B 3 (by decide +kernel) rfl rfl ?_
  refine aw_if_eq (off := 13) B 133 (by decide +kernel) (by decide) (fun _ => ?_) (fun _ => ?_)
  · refine aw_iconst (n := 1) (v := (1 : Int32)) B (by decide +kernel) (by decide) ?_
    exact aw_sub [1, 2, 3, 4, 5, 6, 0] rfl (w_X8_cost_b134 hG lv0 hl0 hrc B _ _ _ _ _ _ _ _)
  · refine aw_aload_n (k0 := 0) B 1 (by decide +kernel) rfl rfl ?_
    refine aw_getr (c := 14) B lkX8_10 (by decide +kernel) rfl (r := 15) rfl ?_
    refine aw_cVR B (c_X7_all_15 (eLa E) hG M) cvX8_81 rfl rfl (by have hF : FD = 40 := rfl; omega) rfl (Nat.le_of_ble_eq_true rfl) (by decide +kernel) rfl (fun x1 => ?_)
    refine aw_goto (off := 4) B 134 (by decide +kernel) (by decide) ?_
    exact aw_sub [1, 2, 3, 4, 5, 6, 0] rfl (w_X8_cost_b134 hG lv0 hl0 hrc B _ _ _ _ _ _ _ _)
def f_X8_cost_L52 (rc : Int32 → Int32 → Int32 → Mem → Option (Int32 × Mem)) : Nat → Int32 → Int32 → Int32 → Nat → Int32 → Int32 → Mem → Option (Int32 × Mem)
  | 0, _, _, _, _, _, _, _ => none
  | n + 1, v1, v2, v3, v4, v5, v6, M => (if (M.1 14 3) ≤ v6 then (f_X7_tally_15 M).bind fun M2 => (f_X7_answers_15 (M2.1 14 4) (M2.1 14 5) M2).bind fun x3 => (if (1 : Int32) < x3 then f_X8_cost_b117 rc v1 v2 v3 v4 v5 (0 : Int32) M2 else f_X8_cost_b117 rc v1 v2 v3 v4 v5 (1 : Int32) M2) else ck (okI 16 v6) (lt (wI M 16 v6.toNatClampNeg ((ab_shr v1 ((4 : Int32) * v6)) &&& (15 : Int32))) fun M5 => f_X8_cost_L52 rc n v1 v2 v3 v4 v5 (v6 + 1) M5))
set_option maxRecDepth 100000 in
set_option maxHeartbeats 4000000 in
theorem w_X8_cost_L52 {G : GW} {E : EE} (hG : ab_ok G) {rc : Int32 → Int32 → Int32 → Mem → Option (Int32 × Mem)} (lv0 : Nat) (hl0 : 6 ≤ lv0) (hrc : ∀ (v1 : Int32) (v2 : Int32) (v3 : Int32) (M : Mem), AC (eLa E) G yX8_cost cX8_cost 8 (some .int) lv0 [.ref 14, .int v1, .int v2, .int v3] M embI (rc v1 v2 v3 M)) (B : Bx G E RX8 cX8_cost 8 (lv0 + 3) (some .int)) : ∀ (n : Nat) (v1 : Int32) (v2 : Int32) (v3 : Int32) (v4 : Nat) (v5 : Int32) (v6 : Int32) (M : Mem), AWo G E cX8_cost 8 (ab_Q G E embI) 52 [(0, .ref 14), (1, .int v1), (2, .int v2), (3, .int v3), (4, .ref v4), (5, .int v5), (6, .int v6)] [] M (f_X8_cost_L52 rc n v1 v2 v3 v4 v5 v6 M) := by
  intro n
  induction n with
  | zero => intro _ _ _ _ _ _ _; exact aw_none
  | succ n ih =>
    intro v1 v2 v3 v4 v5 v6 M
    rw [f_X8_cost_L52]
    refine aw_iload (i := 6) B 6 (by decide +kernel) rfl ?_
    refine aw_aload_n (k0 := 0) B 0 (by decide +kernel) rfl rfl ?_
    refine aw_geti (c := 14) B lkX8_23 (by decide +kernel) rfl ?_
    refine aw_icmp_ge (off := 28) B 86 (by decide +kernel) (by decide) (fun _ => ?_) (fun _ => ?_)
    · refine aw_aload_n (k0 := 0) B 0 (by decide +kernel) rfl rfl ?_
      refine aw_getr (c := 14) B lkX8_10 (by decide +kernel) rfl (r := 15) rfl ?_
      refine aw_cVV B (c_X7_tally_15 (eLa E) hG M) cvX8_78 rfl rfl (by have hF : FD = 40 := rfl; omega) rfl (Nat.le_of_ble_eq_true rfl) (by decide +kernel) rfl (fun M2 => ?_)
      refine aw_aload_n (k0 := 0) B 0 (by decide +kernel) rfl rfl ?_
      refine aw_getr (c := 14) B lkX8_10 (by decide +kernel) rfl (r := 15) rfl ?_
      refine aw_aload_n (k0 := 0) B 0 (by decide +kernel) rfl rfl ?_
      refine aw_geti (c := 14) B lkX8_28 (by decide +kernel) rfl ?_
      refine aw_aload_n (k0 := 0) B 0 (by decide +kernel) rfl rfl ?_
      refine aw_geti (c := 14) B lkX8_31 (by decide +kernel) rfl ?_
      refine aw_cVR B (c_X7_answers_15 (eLa E) hG (M2.1 14 4) (M2.1 14 5) M2) cvX8_40 rfl rfl (by have hF : FD = 40 := rfl; omega) rfl (Nat.le_of_ble_eq_true rfl) (by decide +kernel) rfl (fun x3 => ?_)
      refine aw_iconst (n := 1) (v := (1 : Int32)) B (by decide +kernel) (by decide) ?_
      refine aw_icmp_gt (off := 7) B 116 (by decide +kernel) (by decide) (fun _ => ?_) (fun _ => ?_)
      · refine aw_iconst (n := 0) (v := (0 : Int32)) B (by decide +kernel) (by decide) ?_
        exact aw_sub [0, 1, 2, 3, 4, 5] rfl (w_X8_cost_b117 hG lv0 hl0 hrc B _ _ _ _ _ _ _)
      · refine aw_iconst (n := 1) (v := (1 : Int32)) B (by decide +kernel) (by decide) ?_
        refine aw_goto (off := 4) B 117 (by decide +kernel) (by decide) ?_
        exact aw_sub [0, 1, 2, 3, 4, 5] rfl (w_X8_cost_b117 hG lv0 hl0 hrc B _ _ _ _ _ _ _)
    · refine aw_aload_n (k0 := 0) B 0 (by decide +kernel) rfl rfl ?_
      refine aw_getr (c := 14) B lkX8_10 (by decide +kernel) rfl (r := 15) rfl ?_
      refine aw_getr (c := 15) B lkX8_75 (by decide +kernel) rfl (r := 16) rfl ?_
      refine aw_iload (i := 6) B 6 (by decide +kernel) rfl ?_
      refine aw_iload_n (k0 := 1) B 1 (by decide +kernel) rfl rfl ?_
      refine aw_iconst (n := 4) (v := (4 : Int32)) B (by decide +kernel) (by decide) ?_
      refine aw_iload (i := 6) B 6 (by decide +kernel) rfl ?_
      refine aw_imul B (by decide +kernel) ?_
      refine aw_ishr B (by decide +kernel) ?_
      refine aw_bipush (n := 15) (v := (15 : Int32)) B (by decide +kernel) (by decide) ?_
      refine aw_iand B (by decide +kernel) ?_
      refine aw_iastore B (by decide +kernel) (fun M5 => ?_)
      refine aw_iinc (i := 6) (n := 1) B 6 [(6, .int (v6 + 1)), (0, .ref 14), (1, .int v1), (2, .int v2), (3, .int v3), (4, .ref v4), (5, .int v5)] (by decide +kernel) rfl (Nat.le_of_ble_eq_true rfl) (v6 + 1) (ab_inc (by decide)) rfl ?_
      refine aw_goto (off := -31) B 52 (by decide +kernel) (by decide) ?_
      exact aw_sub [1, 2, 3, 4, 5, 6, 0] rfl (ih _ _ _ _ _ _ _)
def f_X8_cost_b15 (rc : Int32 → Int32 → Int32 → Mem → Option (Int32 × Mem)) (v1 : Int32) (v2 : Int32) (v3 : Int32) (s0 : Nat) (M : Mem) : Option (Int32 × Mem) := (f_X8_stateOf v1).bind fun x1 => ck (okI s0 x1) ((if (M.1 s0 x1.toNatClampNeg) = (-1 : Int32) then (if (6 : Int32) < v3 then f_X8_cost_b160 rc s0 x1 M else (f_X7_clear_15 (M.1 14 3) M).bind fun M4 => f_X8_cost_L52 rc FU v1 v2 v3 s0 x1 (0 : Int32) M4) else f_X8_cost_b160 rc s0 x1 M))
set_option maxRecDepth 100000 in
set_option maxHeartbeats 4000000 in
theorem w_X8_cost_b15 {G : GW} {E : EE} (hG : ab_ok G) {rc : Int32 → Int32 → Int32 → Mem → Option (Int32 × Mem)} (lv0 : Nat) (hl0 : 6 ≤ lv0) (hrc : ∀ (v1 : Int32) (v2 : Int32) (v3 : Int32) (M : Mem), AC (eLa E) G yX8_cost cX8_cost 8 (some .int) lv0 [.ref 14, .int v1, .int v2, .int v3] M embI (rc v1 v2 v3 M)) (B : Bx G E RX8 cX8_cost 8 (lv0 + 3) (some .int)) (v1 : Int32) (v2 : Int32) (v3 : Int32) (s0 : Nat) (M : Mem) : AWo G E cX8_cost 8 (ab_Q G E embI) 15 [(0, .ref 14), (1, .int v1), (2, .int v2), (3, .int v3)] [.ref s0] M (f_X8_cost_b15 rc v1 v2 v3 s0 M) := by
  unfold f_X8_cost_b15
  refine aw_astore (i := 4) B [(4, .ref s0), (0, .ref 14), (1, .int v1), (2, .int v2), (3, .int v3)] (by decide +kernel) (Nat.le_of_ble_eq_true rfl) rfl ?_
  refine aw_iload_n (k0 := 1) B 2 (by decide +kernel) rfl rfl ?_
  refine aw_cSR B (c_X8_stateOf (eLa E) hG v1 M) csX8_67 (by have hF : FD = 40 := rfl; omega) rfl (Nat.le_of_ble_eq_true rfl) (by decide +kernel) rfl (fun x1 => ?_)
  refine aw_istore (i := 5) B [(5, .int x1), (4, .ref s0), (0, .ref 14), (1, .int v1), (2, .int v2), (3, .int v3)] (by decide +kernel) (Nat.le_of_ble_eq_true rfl) rfl ?_
  refine aw_aload (i := 4) B 1 (by decide +kernel) rfl ?_
  refine aw_iload (i := 5) B 0 (by decide +kernel) rfl ?_
  refine aw_iaload B (by decide +kernel) ?_
  refine aw_iconst (n := -1) (v := (-1 : Int32)) B (by decide +kernel) (by decide) ?_
  refine aw_icmp_ne (off := 131) B 160 (by decide +kernel) (by decide) (fun _ => ?_) (fun _ => ?_)
  · exact aw_sub [1, 0] rfl (w_X8_cost_b160 hG lv0 hl0 hrc B _ _ _)
  · refine aw_iload_n (k0 := 3) B 5 (by decide +kernel) rfl rfl ?_
    refine aw_bipush (n := 6) (v := (6 : Int32)) B (by decide +kernel) (by decide) ?_
    refine aw_icmp_gt (off := 125) B 160 (by decide +kernel) (by decide) (fun _ => ?_) (fun _ => ?_)
    · exact aw_sub [1, 0] rfl (w_X8_cost_b160 hG lv0 hl0 hrc B _ _ _)
    · refine aw_aload_n (k0 := 0) B 2 (by decide +kernel) rfl rfl ?_
      refine aw_getr (c := 14) B lkX8_10 (by decide +kernel) rfl (r := 15) rfl ?_
      refine aw_aload_n (k0 := 0) B 2 (by decide +kernel) rfl rfl ?_
      refine aw_geti (c := 14) B lkX8_23 (by decide +kernel) rfl ?_
      refine aw_cVV B (c_X7_clear_15 (eLa E) hG (M.1 14 3) M) cvX8_71 rfl rfl (by have hF : FD = 40 := rfl; omega) rfl (Nat.le_of_ble_eq_true rfl) (by decide +kernel) rfl (fun M4 => ?_)
      refine aw_iconst (n := 0) (v := (0 : Int32)) B (by decide +kernel) (by decide) ?_
      refine aw_istore (i := 6) B [(6, .int (0 : Int32)), (5, .int x1), (4, .ref s0), (0, .ref 14), (1, .int v1), (2, .int v2), (3, .int v3)] (by decide +kernel) (Nat.le_of_ble_eq_true rfl) rfl ?_
      exact aw_sub [3, 4, 5, 6, 2, 1, 0] rfl (w_X8_cost_L52 hG lv0 hl0 hrc B FU _ _ _ _ _ _ _)
def f_X8_cost_o (rc : Int32 → Int32 → Int32 → Mem → Option (Int32 × Mem)) (v1 : Int32) (v2 : Int32) (v3 : Int32) (M : Mem) : Option (Int32 × Mem) := (if v2 = 0 then f_X8_cost_b15 rc v1 v2 v3 18 M else f_X8_cost_b15 rc v1 v2 v3 19 M)
set_option maxRecDepth 100000 in
set_option maxHeartbeats 4000000 in
theorem w_X8_cost_o {G : GW} {E : EE} (hG : ab_ok G) {rc : Int32 → Int32 → Int32 → Mem → Option (Int32 × Mem)} (lv0 : Nat) (hl0 : 6 ≤ lv0) (hrc : ∀ (v1 : Int32) (v2 : Int32) (v3 : Int32) (M : Mem), AC (eLa E) G yX8_cost cX8_cost 8 (some .int) lv0 [.ref 14, .int v1, .int v2, .int v3] M embI (rc v1 v2 v3 M)) (B : Bx G E RX8 cX8_cost 8 (lv0 + 3) (some .int)) (v1 : Int32) (v2 : Int32) (v3 : Int32) (M : Mem) : AWo G E cX8_cost 8 (ab_Q G E embI) 0 [(0, .ref 14), (1, .int v1), (2, .int v2), (3, .int v3)] [] M (f_X8_cost_o rc v1 v2 v3 M) := by
  unfold f_X8_cost_o
  refine aw_iload_n (k0 := 2) B 2 (by decide +kernel) rfl rfl ?_
  refine aw_if_eq (off := 10) B 11 (by decide +kernel) (by decide) (fun _ => ?_) (fun _ => ?_)
  · refine aw_aload_n (k0 := 0) B 0 (by decide +kernel) rfl rfl ?_
    refine aw_getr (c := 14) B lkX8_16 (by decide +kernel) rfl (r := 18) rfl ?_
    exact w_X8_cost_b15 hG lv0 hl0 hrc B _ _ _ _ _
  · refine aw_aload_n (k0 := 0) B 0 (by decide +kernel) rfl rfl ?_
    refine aw_getr (c := 14) B lkX8_20 (by decide +kernel) rfl (r := 19) rfl ?_
    refine aw_goto (off := 7) B 15 (by decide +kernel) (by decide) ?_
    exact w_X8_cost_b15 hG lv0 hl0 hrc B _ _ _ _ _
def f_X8_cost : Nat → Int32 → Int32 → Int32 → Mem → Option (Int32 × Mem)
  | 0, _, _, _, _ => none
  | d + 1, v1, v2, v3, M => f_X8_cost_o (fun v1 v2 v3 M => f_X8_cost d v1 v2 v3 M) v1 v2 v3 M
theorem c_X8_cost (l : Launch) {G : GW} (hG : ab_ok G) : ∀ (d : Nat) (v1 : Int32) (v2 : Int32) (v3 : Int32) (M : Mem), AC l G yX8_cost cX8_cost 8 (some .int) (6 + 3 * d) [.ref 14, .int v1, .int v2, .int v3] M embI (f_X8_cost d v1 v2 v3 M)
  | 0, _, _, _, _ => fun a ha => by cases ha
  | d + 1, v1, v2, v3, M => AC.of hG (by decide) (Nat.le_of_ble_eq_true rfl) (fun E hE B => by
    subst hE
    have e : 6 + 3 * (d + 1) = 6 + 3 * d + 3 := by omega
    rw [e] at B
    exact w_X8_cost_o hG (6 + 3 * d) (Nat.le_add_right _ _) (fun v1 v2 v3 M => c_X8_cost (eLa E) hG d v1 v2 v3 M) B v1 v2 v3 M)
theorem c_X8_restBy (l : Launch) {G : GW} (hG : ab_ok G) (v1 : Int32) (v2 : Int32) (v3 : Int32) (v4 : Int32) (v5 : Int32) (M : Mem) : AC l G yX8_restBy cX8_restBy 8 (some .int) (6 + 3 * FD + 1) [.ref 14, .int v1, .int v2, .int v3, .int v4, .int v5] M embI (f_X8_restBy (f_X8_cost FD) v1 v2 v3 v4 v5 M) := AC.of hG (by decide) (Nat.le_of_ble_eq_true rfl) (fun E hE B => by subst hE; exact w_X8_restBy hG (6 + 3 * FD) (Nat.le_add_right _ _) (fun v1 v2 v3 M => c_X8_cost (eLa E) hG FD v1 v2 v3 M) B v1 v2 v3 v4 v5 M)
theorem c_X8_leastRest (l : Launch) {G : GW} (hG : ab_ok G) (v1 : Int32) (v2 : Int32) (v3 : Int32) (M : Mem) : AC l G yX8_leastRest cX8_leastRest 7 (some .int) (6 + 3 * FD + 2) [.ref 14, .int v1, .int v2, .int v3] M embI (f_X8_leastRest (f_X8_cost FD) v1 v2 v3 M) := AC.of hG (by decide) (Nat.le_of_ble_eq_true rfl) (fun E hE B => by subst hE; exact w_X8_leastRest hG (6 + 3 * FD) (Nat.le_add_right _ _) (fun v1 v2 v3 M => c_X8_cost (eLa E) hG FD v1 v2 v3 M) B v1 v2 v3 M)
def f_X8_leastWorst (M : Mem) : Option (Int32 × Mem) := (if (M.1 14 7) = 0 then (some ((0 : Int32), M)) else bI (f_X8_cost FD (M.1 14 6) (0 : Int32) (0 : Int32) M) fun x1 M2 => (some (x1, M2)))
set_option maxRecDepth 100000 in
set_option maxHeartbeats 4000000 in
theorem w_X8_leastWorst {G : GW} {E : EE} (hG : ab_ok G) (B : Bx G E RX8 cX8_leastWorst 1 127 (some .int)) (M : Mem) : AWo G E cX8_leastWorst 1 (ab_Q G E embI) 0 [(0, .ref 14)] [] M (f_X8_leastWorst M) := by
  unfold f_X8_leastWorst
  refine aw_aload_n (k0 := 0) B 0 (by decide +kernel) rfl rfl ?_
  refine aw_geti (c := 14) B lkX8_44 (by decide +kernel) rfl ?_
  refine aw_if_eq (off := 16) B 20 (by decide +kernel) (by decide) (fun _ => ?_) (fun _ => ?_)
  · refine aw_iconst (n := 0) (v := (0 : Int32)) B (by decide +kernel) (by decide) ?_
    exact aw_ireturn B (by decide +kernel) rfl
  · refine aw_aload_n (k0 := 0) B 0 (by decide +kernel) rfl rfl ?_
    refine aw_aload_n (k0 := 0) B 0 (by decide +kernel) rfl rfl ?_
    refine aw_geti (c := 14) B lkX8_48 (by decide +kernel) rfl ?_
    refine aw_iconst (n := 0) (v := (0 : Int32)) B (by decide +kernel) (by decide) ?_
    refine aw_iconst (n := 0) (v := (0 : Int32)) B (by decide +kernel) (by decide) ?_
    refine aw_cVI B (c_X8_cost (eLa E) hG FD (M.1 14 6) (0 : Int32) (0 : Int32) M) cvX8_55 rfl rfl (Nat.le_of_ble_eq_true rfl) rfl (Nat.le_of_ble_eq_true rfl) (by decide +kernel) rfl (fun x1 M2 => ?_)
    refine aw_goto (off := 4) B 21 (by decide +kernel) (by decide) ?_
    exact aw_ireturn B (by decide +kernel) rfl
theorem c_X8_leastWorst (l : Launch) {G : GW} (hG : ab_ok G) (M : Mem) : AC l G yX8_leastWorst cX8_leastWorst 1 (some .int) 127 [.ref 14] M embI (f_X8_leastWorst M) := AC.of hG (by decide) (Nat.le_of_ble_eq_true rfl) (fun E hE B => by subst hE; exact w_X8_leastWorst hG B M)
def f_X10_worst (v1 : Int32) (M : Mem) : Option (Int32 × Mem) := (f_X10_isQuestion v1 M).bind fun x1 => (if x1 = 0 then (some ((-1 : Int32), M)) else (f_X8_isFor (M.1 1 0)).bind fun x3 => (if x3 = 0 then (some ((-5 : Int32), M)) else (f_X10_tallied M).bind fun M6 => (f_X8_begin (v1 / (10 : Int32)) (ab_rem v1 (10 : Int32)) M6).bind fun M8 => bI (f_X8_leastWorst M8) fun x9 M10 => (some (x9, M10))))
set_option maxRecDepth 100000 in
set_option maxHeartbeats 4000000 in
theorem w_X10_worst {G : GW} {E : EE} (hG : ab_ok G) (B : Bx G E RX10 cX10_worst 2 128 (some .int)) (v1 : Int32) (M : Mem) : AWo G E cX10_worst 2 (ab_Q G E embI) 0 [(0, .ref 0), (1, .int v1)] [] M (f_X10_worst v1 M) := by
  unfold f_X10_worst
  refine aw_aload_n (k0 := 0) B 0 (by decide +kernel) rfl rfl ?_
  refine aw_iload_n (k0 := 1) B 1 (by decide +kernel) rfl rfl ?_
  refine aw_cVR B (c_X10_isQuestion (eLa E) hG v1 M) cvX10_208 rfl rfl (Nat.le_of_ble_eq_true rfl) rfl (Nat.le_of_ble_eq_true rfl) (by decide +kernel) rfl (fun x1 => ?_)
  refine aw_if_ne (off := 5) B 10 (by decide +kernel) (by decide) (fun _ => ?_) (fun _ => ?_)
  · refine aw_aload_n (k0 := 0) B 0 (by decide +kernel) rfl rfl ?_
    refine aw_getr (c := 0) B lkX10_10 (by decide +kernel) rfl (r := 1) rfl ?_
    refine aw_geti (c := 1) B lkX10_167 (by decide +kernel) rfl ?_
    refine aw_cSR B (c_X8_isFor (eLa E) hG (M.1 1 0) M) csX10_220 (Nat.le_of_ble_eq_true rfl) rfl (Nat.le_of_ble_eq_true rfl) (by decide +kernel) rfl (fun x3 => ?_)
    refine aw_if_ne (off := 6) B 26 (by decide +kernel) (by decide) (fun _ => ?_) (fun _ => ?_)
    · refine aw_aload_n (k0 := 0) B 0 (by decide +kernel) rfl rfl ?_
      refine aw_getr (c := 0) B lkX10_33 (by decide +kernel) rfl (r := 14) rfl ?_
      refine aw_aload_n (k0 := 0) B 0 (by decide +kernel) rfl rfl ?_
      refine aw_cVA B (c_X10_tallied (eLa E) hG M) cvX10_171 rfl rfl (Nat.le_of_ble_eq_true rfl) rfl (Nat.le_of_ble_eq_true rfl) (by decide +kernel) rfl (fun M6 => ?_)
      refine aw_iload_n (k0 := 1) B 1 (by decide +kernel) rfl rfl ?_
      refine aw_bipush (n := 10) (v := (10 : Int32)) B (by decide +kernel) (by decide) ?_
      refine aw_idivK B (by decide +kernel) (by decide) ?_
      refine aw_iload_n (k0 := 1) B 1 (by decide +kernel) rfl rfl ?_
      refine aw_bipush (n := 10) (v := (10 : Int32)) B (by decide +kernel) (by decide) ?_
      refine aw_iremK B (by decide +kernel) (by decide) ?_
      refine aw_cVV B (c_X8_begin (eLa E) hG (v1 / (10 : Int32)) (ab_rem v1 (10 : Int32)) M6) cvX10_223 rfl rfl (Nat.le_of_ble_eq_true rfl) rfl (Nat.le_of_ble_eq_true rfl) (by decide +kernel) rfl (fun M8 => ?_)
      refine aw_aload_n (k0 := 0) B 0 (by decide +kernel) rfl rfl ?_
      refine aw_getr (c := 0) B lkX10_33 (by decide +kernel) rfl (r := 14) rfl ?_
      refine aw_cVI B (c_X8_leastWorst (eLa E) hG M8) cvX10_227 rfl rfl (Nat.le_of_ble_eq_true rfl) rfl (Nat.le_of_ble_eq_true rfl) (by decide +kernel) rfl (fun x9 M10 => ?_)
      exact aw_ireturn B (by decide +kernel) rfl
    · refine aw_bipush (n := -5) (v := (-5 : Int32)) B (by decide +kernel) (by decide) ?_
      exact aw_ireturn B (by decide +kernel) rfl
  · refine aw_iconst (n := -1) (v := (-1 : Int32)) B (by decide +kernel) (by decide) ?_
    exact aw_ireturn B (by decide +kernel) rfl
theorem c_X10_worst (l : Launch) {G : GW} (hG : ab_ok G) (v1 : Int32) (M : Mem) : AC l G yX10_worst cX10_worst 2 (some .int) 128 [.ref 0, .int v1] M embI (f_X10_worst v1 M) := AC.of hG (by decide) (Nat.le_of_ble_eq_true rfl) (fun E hE B => by subst hE; exact w_X10_worst hG B v1 M)
def f_X11_gathers (v1 : Int32) (M : Mem) : Option (Int32 × Mem) := (f_X11_isQuestion v1 M).bind fun x1 => (if x1 = 0 then (some ((-1 : Int32), M)) else (if (M.1 47 6) = 0 then (some ((-5 : Int32), M)) else (if (M.1 47 6) ≤ (4 : Int32) then ck (okB (1 : Int32)) (lt (wI M 47 32 (1 : Int32)) fun M3 => (f_X11_allThatCount M3).bind fun x4 => (f_X11_goesThrough x4 (v1 / (10 : Int32)) (ab_rem v1 (10 : Int32)) M3).bind fun M7 => ck (okB (0 : Int32)) (lt (wI M7 47 32 (0 : Int32)) fun M8 => (some ((1 : Int32), M8)))) else (some ((-5 : Int32), M)))))
set_option maxRecDepth 100000 in
set_option maxHeartbeats 4000000 in
theorem w_X11_gathers {G : GW} {E : EE} (hG : ab_ok G) (B : Bx G E RX11 cX11_gathers 2 46 (some .int)) (v1 : Int32) (M : Mem) : AWo G E cX11_gathers 2 (ab_Q G E embI) 0 [(0, .ref 47), (1, .int v1)] [] M (f_X11_gathers v1 M) := by
  unfold f_X11_gathers
  refine aw_aload_n (k0 := 0) B 0 (by decide +kernel) rfl rfl ?_
  refine aw_iload_n (k0 := 1) B 1 (by decide +kernel) rfl rfl ?_
  refine aw_cVR B (c_X11_isQuestion (eLa E) hG v1 M) cvX11_261 rfl rfl (Nat.le_of_ble_eq_true rfl) rfl (Nat.le_of_ble_eq_true rfl) (by decide +kernel) rfl (fun x1 => ?_)
  refine aw_if_ne (off := 5) B 10 (by decide +kernel) (by decide) (fun _ => ?_) (fun _ => ?_)
  · refine aw_aload_n (k0 := 0) B 0 (by decide +kernel) rfl rfl ?_
    refine aw_geti (c := 47) B lkX11_109 (by decide +kernel) rfl ?_
    refine aw_if_eq (off := 11) B 25 (by decide +kernel) (by decide) (fun _ => ?_) (fun _ => ?_)
    · refine aw_bipush (n := -5) (v := (-5 : Int32)) B (by decide +kernel) (by decide) ?_
      exact aw_ireturn B (by decide +kernel) rfl
    · refine aw_aload_n (k0 := 0) B 0 (by decide +kernel) rfl rfl ?_
      refine aw_geti (c := 47) B lkX11_109 (by decide +kernel) rfl ?_
      refine aw_iconst (n := 4) (v := (4 : Int32)) B (by decide +kernel) (by decide) ?_
      refine aw_icmp_le (off := 6) B 28 (by decide +kernel) (by decide) (fun _ => ?_) (fun _ => ?_)
      · refine aw_aload_n (k0 := 0) B 0 (by decide +kernel) rfl rfl ?_
        refine aw_iconst (n := 1) (v := (1 : Int32)) B (by decide +kernel) (by decide) ?_
        refine aw_putz (c := 47) B lkX11_234 lp11_32 (by decide +kernel) rfl (fun M3 => ?_)
        refine aw_aload_n (k0 := 0) B 0 (by decide +kernel) rfl rfl ?_
        refine aw_aload_n (k0 := 0) B 0 (by decide +kernel) rfl rfl ?_
        refine aw_cVR B (c_X11_allThatCount (eLa E) hG M3) cvX11_248 rfl rfl (Nat.le_of_ble_eq_true rfl) rfl (Nat.le_of_ble_eq_true rfl) (by decide +kernel) rfl (fun x4 => ?_)
        refine aw_iload_n (k0 := 1) B 1 (by decide +kernel) rfl rfl ?_
        refine aw_bipush (n := 10) (v := (10 : Int32)) B (by decide +kernel) (by decide) ?_
        refine aw_idivK B (by decide +kernel) (by decide) ?_
        refine aw_iload_n (k0 := 1) B 1 (by decide +kernel) rfl rfl ?_
        refine aw_bipush (n := 10) (v := (10 : Int32)) B (by decide +kernel) (by decide) ?_
        refine aw_iremK B (by decide +kernel) (by decide) ?_
        refine aw_cVV B (c_X11_goesThrough (eLa E) hG x4 (v1 / (10 : Int32)) (ab_rem v1 (10 : Int32)) M3) cvX11_251 rfl rfl (Nat.le_of_ble_eq_true rfl) rfl (Nat.le_of_ble_eq_true rfl) (by decide +kernel) rfl (fun M7 => ?_)
        refine aw_aload_n (k0 := 0) B 0 (by decide +kernel) rfl rfl ?_
        refine aw_iconst (n := 0) (v := (0 : Int32)) B (by decide +kernel) (by decide) ?_
        refine aw_putz (c := 47) B lkX11_234 lp11_32 (by decide +kernel) rfl (fun M8 => ?_)
        refine aw_iconst (n := 1) (v := (1 : Int32)) B (by decide +kernel) (by decide) ?_
        exact aw_ireturn B (by decide +kernel) rfl
      · refine aw_bipush (n := -5) (v := (-5 : Int32)) B (by decide +kernel) (by decide) ?_
        exact aw_ireturn B (by decide +kernel) rfl
  · refine aw_iconst (n := -1) (v := (-1 : Int32)) B (by decide +kernel) (by decide) ?_
    exact aw_ireturn B (by decide +kernel) rfl
theorem c_X11_gathers (l : Launch) {G : GW} (hG : ab_ok G) (v1 : Int32) (M : Mem) : AC l G yX11_gathers cX11_gathers 2 (some .int) 46 [.ref 47, .int v1] M embI (f_X11_gathers v1 M) := AC.of hG (by decide) (Nat.le_of_ble_eq_true rfl) (fun E hE B => by subst hE; exact w_X11_gathers hG B v1 M)
def f_X11_allOrders (M : Mem) : Option Int32 := (some ((ab_shl (1 : Int32) (M.1 47 22)) - (1 : Int32)))
set_option maxRecDepth 100000 in
set_option maxHeartbeats 4000000 in
theorem w_X11_allOrders {G : GW} {E : EE} (hG : ab_ok G) (B : Bx G E RX11 cX11_allOrders 1 2 (some .int)) (M : Mem) : AWo G E cX11_allOrders 1 (ab_Q G E (embRI M)) 0 [(0, .ref 47)] [] M (f_X11_allOrders M) := by
  unfold f_X11_allOrders
  refine aw_iconst (n := 1) (v := (1 : Int32)) B (by decide +kernel) (by decide) ?_
  refine aw_aload_n (k0 := 0) B 0 (by decide +kernel) rfl rfl ?_
  refine aw_geti (c := 47) B lkX11_225 (by decide +kernel) rfl ?_
  refine aw_ishl B (by decide +kernel) ?_
  refine aw_iconst (n := 1) (v := (1 : Int32)) B (by decide +kernel) (by decide) ?_
  refine aw_isub B (by decide +kernel) ?_
  exact aw_ireturn B (by decide +kernel) rfl
theorem c_X11_allOrders (l : Launch) {G : GW} (hG : ab_ok G) (M : Mem) : AC l G yX11_allOrders cX11_allOrders 1 (some .int) 2 [.ref 47] M (embRI M) (f_X11_allOrders M) := AC.of hG (by decide) (Nat.le_of_ble_eq_true rfl) (fun E hE B => by subst hE; exact w_X11_allOrders hG B M)
def f_X11_isAnswered_b46 (k4 : Int32 → Int32 → Int32 → Option Int32) (M : Mem) (v1 : Int32) (v2 : Int32) (v3 : Int32) : Option Int32 := k4 v1 v2 (v3 + 1)
set_option maxRecDepth 100000 in
set_option maxHeartbeats 4000000 in
theorem w_X11_isAnswered_b46 {G : GW} {E : EE} (hG : ab_ok G) (M : Mem) {k4 : Int32 → Int32 → Int32 → Option Int32} (B : Bx G E RX11 cX11_isAnswered 4 2 (some .boolean)) (hk4 : ∀ (v1 : Int32) (v2 : Int32) (v3 : Int32), AWo G E cX11_isAnswered 4 (ab_Q G E (embRI M)) 4 [(0, .ref 47), (1, .int v1), (2, .int v2), (3, .int v3)] [] M (k4 v1 v2 v3)) (v1 : Int32) (v2 : Int32) (v3 : Int32) : AWo G E cX11_isAnswered 4 (ab_Q G E (embRI M)) 46 [(0, .ref 47), (1, .int v1), (2, .int v2), (3, .int v3)] [] M (f_X11_isAnswered_b46 k4 M v1 v2 v3) := by
  unfold f_X11_isAnswered_b46
  refine aw_iinc (i := 3) (n := 1) B 3 [(3, .int (v3 + 1)), (0, .ref 47), (1, .int v1), (2, .int v2)] (by decide +kernel) rfl (Nat.le_of_ble_eq_true rfl) (v3 + 1) (ab_inc (by decide)) rfl ?_
  refine aw_goto (off := -45) B 4 (by decide +kernel) (by decide) ?_
  exact aw_sub [1, 2, 3, 0] rfl (hk4 _ _ _)
def f_X11_isAnswered_b39 (k4 : Int32 → Int32 → Int32 → Option Int32) (M : Mem) (v1 : Int32) (v3 : Int32) : Option Int32 := ck (okI 64 v3) (lt (M.1 64 v3.toNatClampNeg) fun x1 => f_X11_isAnswered_b46 k4 M v1 x1 v3)
set_option maxRecDepth 100000 in
set_option maxHeartbeats 4000000 in
theorem w_X11_isAnswered_b39 {G : GW} {E : EE} (hG : ab_ok G) (M : Mem) {k4 : Int32 → Int32 → Int32 → Option Int32} (B : Bx G E RX11 cX11_isAnswered 4 2 (some .boolean)) (hk4 : ∀ (v1 : Int32) (v2 : Int32) (v3 : Int32), AWo G E cX11_isAnswered 4 (ab_Q G E (embRI M)) 4 [(0, .ref 47), (1, .int v1), (2, .int v2), (3, .int v3)] [] M (k4 v1 v2 v3)) (v1 : Int32) (v3 : Int32) : AWo G E cX11_isAnswered 4 (ab_Q G E (embRI M)) 39 [(0, .ref 47), (1, .int v1), (3, .int v3)] [] M (f_X11_isAnswered_b39 k4 M v1 v3) := by
  unfold f_X11_isAnswered_b39
  refine aw_aload_n (k0 := 0) B 0 (by decide +kernel) rfl rfl ?_
  refine aw_getr (c := 47) B lkX11_59 (by decide +kernel) rfl (r := 64) rfl ?_
  refine aw_iload_n (k0 := 3) B 2 (by decide +kernel) rfl rfl ?_
  refine aw_iaload B (by decide +kernel) ?_
  refine aw_ltI (fun x1 => ?_)
  refine aw_istore_n (k0 := 2) B [(2, .int x1), (0, .ref 47), (1, .int v1), (3, .int v3)] (by decide +kernel) rfl (Nat.le_of_ble_eq_true rfl) rfl ?_
  exact aw_sub [1, 2, 0, 3] rfl (w_X11_isAnswered_b46 hG M B hk4 _ _ _)
def f_X11_isAnswered_L4 (M : Mem) : Nat → Int32 → Int32 → Int32 → Option Int32
  | 0, _, _, _ => none
  | n + 1, v1, v2, v3 => (if (M.1 47 22) ≤ v3 then (some (1 : Int32)) else (if ((ab_shr v1 v3) &&& (1 : Int32)) = 0 then f_X11_isAnswered_b46 (fun a0 a1 a2 => f_X11_isAnswered_L4 M n a0 a1 a2) M v1 v2 v3 else (if v2 < 0 then f_X11_isAnswered_b39 (fun a0 a1 a2 => f_X11_isAnswered_L4 M n a0 a1 a2) M v1 v3 else ck (okI 64 v3) ((if (M.1 64 v3.toNatClampNeg) = v2 then f_X11_isAnswered_b39 (fun a0 a1 a2 => f_X11_isAnswered_L4 M n a0 a1 a2) M v1 v3 else (some (0 : Int32)))))))
set_option maxRecDepth 100000 in
set_option maxHeartbeats 4000000 in
theorem w_X11_isAnswered_L4 {G : GW} {E : EE} (hG : ab_ok G) (M : Mem) (B : Bx G E RX11 cX11_isAnswered 4 2 (some .boolean)) : ∀ (n : Nat) (v1 : Int32) (v2 : Int32) (v3 : Int32), AWo G E cX11_isAnswered 4 (ab_Q G E (embRI M)) 4 [(0, .ref 47), (1, .int v1), (2, .int v2), (3, .int v3)] [] M (f_X11_isAnswered_L4 M n v1 v2 v3) := by
  intro n
  induction n with
  | zero => intro _ _ _; exact aw_none
  | succ n ih =>
    intro v1 v2 v3
    rw [f_X11_isAnswered_L4]
    refine aw_iload_n (k0 := 3) B 3 (by decide +kernel) rfl rfl ?_
    refine aw_aload_n (k0 := 0) B 0 (by decide +kernel) rfl rfl ?_
    refine aw_geti (c := 47) B lkX11_225 (by decide +kernel) rfl ?_
    refine aw_icmp_ge (off := 43) B 52 (by decide +kernel) (by decide) (fun _ => ?_) (fun _ => ?_)
    · refine aw_iconst (n := 1) (v := (1 : Int32)) B (by decide +kernel) (by decide) ?_
      exact aw_zreturnK B (by decide +kernel) rfl (by decide)
    · refine aw_iload_n (k0 := 1) B 1 (by decide +kernel) rfl rfl ?_
      refine aw_iload_n (k0 := 3) B 3 (by decide +kernel) rfl rfl ?_
      refine aw_ishr B (by decide +kernel) ?_
      refine aw_iconst (n := 1) (v := (1 : Int32)) B (by decide +kernel) (by decide) ?_
      refine aw_iand B (by decide +kernel) ?_
      refine aw_if_ne (off := 6) B 23 (by decide +kernel) (by decide) (fun _ => ?_) (fun _ => ?_)
      · refine aw_iload_n (k0 := 2) B 2 (by decide +kernel) rfl rfl ?_
        refine aw_if_lt (off := 15) B 39 (by decide +kernel) (by decide) (fun _ => ?_) (fun _ => ?_)
        · exact aw_sub [0, 1, 3] rfl (w_X11_isAnswered_b39 hG M B ih _ _)
        · refine aw_aload_n (k0 := 0) B 0 (by decide +kernel) rfl rfl ?_
          refine aw_getr (c := 47) B lkX11_59 (by decide +kernel) rfl (r := 64) rfl ?_
          refine aw_iload_n (k0 := 3) B 3 (by decide +kernel) rfl rfl ?_
          refine aw_iaload B (by decide +kernel) ?_
          refine aw_iload_n (k0 := 2) B 2 (by decide +kernel) rfl rfl ?_
          refine aw_icmp_eq (off := 5) B 39 (by decide +kernel) (by decide) (fun _ => ?_) (fun _ => ?_)
          · exact aw_sub [0, 1, 3] rfl (w_X11_isAnswered_b39 hG M B ih _ _)
          · refine aw_iconst (n := 0) (v := (0 : Int32)) B (by decide +kernel) (by decide) ?_
            exact aw_zreturnK B (by decide +kernel) rfl (by decide)
      · refine aw_goto (off := 26) B 46 (by decide +kernel) (by decide) ?_
        exact w_X11_isAnswered_b46 hG M B ih _ _ _
def f_X11_isAnswered (v1 : Int32) (M : Mem) : Option Int32 := f_X11_isAnswered_L4 M FU v1 (-1 : Int32) (0 : Int32)
set_option maxRecDepth 100000 in
set_option maxHeartbeats 4000000 in
theorem w_X11_isAnswered {G : GW} {E : EE} (hG : ab_ok G) (B : Bx G E RX11 cX11_isAnswered 4 2 (some .boolean)) (v1 : Int32) (M : Mem) : AWo G E cX11_isAnswered 4 (ab_Q G E (embRI M)) 0 [(0, .ref 47), (1, .int v1)] [] M (f_X11_isAnswered v1 M) := by
  unfold f_X11_isAnswered
  refine aw_iconst (n := -1) (v := (-1 : Int32)) B (by decide +kernel) (by decide) ?_
  refine aw_istore_n (k0 := 2) B [(2, .int (-1 : Int32)), (0, .ref 47), (1, .int v1)] (by decide +kernel) rfl (Nat.le_of_ble_eq_true rfl) rfl ?_
  refine aw_iconst (n := 0) (v := (0 : Int32)) B (by decide +kernel) (by decide) ?_
  refine aw_istore_n (k0 := 3) B [(3, .int (0 : Int32)), (2, .int (-1 : Int32)), (0, .ref 47), (1, .int v1)] (by decide +kernel) rfl (Nat.le_of_ble_eq_true rfl) rfl ?_
  exact aw_sub [2, 3, 1, 0] rfl (w_X11_isAnswered_L4 hG M B FU _ _ _)
theorem c_X11_isAnswered (l : Launch) {G : GW} (hG : ab_ok G) (v1 : Int32) (M : Mem) : AC l G yX11_isAnswered cX11_isAnswered 4 (some .boolean) 2 [.ref 47, .int v1] M (embRI M) (f_X11_isAnswered v1 M) := AC.of hG (by decide) (Nat.le_of_ble_eq_true rfl) (fun E hE B => by subst hE; exact w_X11_isAnswered hG B v1 M)
def f_X11_those_b60 (k6 : Int32 → Int32 → Int32 → Int32 → Int32 → Option Int32) (M : Mem) (v1 : Int32) (v2 : Int32) (v3 : Int32) (v5 : Int32) (s0 : Int32) (s1 : Int32) : Option Int32 := lt (s1 ||| s0) fun x1 => k6 v1 v2 v3 x1 (v5 + 1)
set_option maxRecDepth 100000 in
set_option maxHeartbeats 4000000 in
theorem w_X11_those_b60 {G : GW} {E : EE} (hG : ab_ok G) (M : Mem) {k6 : Int32 → Int32 → Int32 → Int32 → Int32 → Option Int32} (B : Bx G E RX11 cX11_those 6 2 (some .int)) (hk6 : ∀ (v1 : Int32) (v2 : Int32) (v3 : Int32) (v4 : Int32) (v5 : Int32), AWo G E cX11_those 6 (ab_Q G E (embRI M)) 6 [(0, .ref 47), (1, .int v1), (2, .int v2), (3, .int v3), (4, .int v4), (5, .int v5)] [] M (k6 v1 v2 v3 v4 v5)) (v1 : Int32) (v2 : Int32) (v3 : Int32) (v5 : Int32) (s0 : Int32) (s1 : Int32) : AWo G E cX11_those 6 (ab_Q G E (embRI M)) 60 [(0, .ref 47), (1, .int v1), (2, .int v2), (3, .int v3), (5, .int v5)] [.int s0, .int s1] M (f_X11_those_b60 k6 M v1 v2 v3 v5 s0 s1) := by
  unfold f_X11_those_b60
  refine aw_ior B (by decide +kernel) ?_
  refine aw_ltI (fun x1 => ?_)
  refine aw_istore (i := 4) B [(4, .int x1), (0, .ref 47), (1, .int v1), (2, .int v2), (3, .int v3), (5, .int v5)] (by decide +kernel) (Nat.le_of_ble_eq_true rfl) rfl ?_
  refine aw_iinc (i := 5) (n := 1) B 5 [(5, .int (v5 + 1)), (4, .int x1), (0, .ref 47), (1, .int v1), (2, .int v2), (3, .int v3)] (by decide +kernel) rfl (Nat.le_of_ble_eq_true rfl) (v5 + 1) (ab_inc (by decide)) rfl ?_
  refine aw_goto (off := -60) B 6 (by decide +kernel) (by decide) ?_
  exact aw_sub [2, 3, 4, 5, 1, 0] rfl (hk6 _ _ _ _ _)
def f_X11_those_b59 (k6 : Int32 → Int32 → Int32 → Int32 → Int32 → Option Int32) (M : Mem) (v1 : Int32) (v2 : Int32) (v3 : Int32) (v5 : Int32) (s0 : Int32) : Option Int32 := f_X11_those_b60 k6 M v1 v2 v3 v5 (0 : Int32) s0
set_option maxRecDepth 100000 in
set_option maxHeartbeats 4000000 in
theorem w_X11_those_b59 {G : GW} {E : EE} (hG : ab_ok G) (M : Mem) {k6 : Int32 → Int32 → Int32 → Int32 → Int32 → Option Int32} (B : Bx G E RX11 cX11_those 6 2 (some .int)) (hk6 : ∀ (v1 : Int32) (v2 : Int32) (v3 : Int32) (v4 : Int32) (v5 : Int32), AWo G E cX11_those 6 (ab_Q G E (embRI M)) 6 [(0, .ref 47), (1, .int v1), (2, .int v2), (3, .int v3), (4, .int v4), (5, .int v5)] [] M (k6 v1 v2 v3 v4 v5)) (v1 : Int32) (v2 : Int32) (v3 : Int32) (v5 : Int32) (s0 : Int32) : AWo G E cX11_those 6 (ab_Q G E (embRI M)) 59 [(0, .ref 47), (1, .int v1), (2, .int v2), (3, .int v3), (5, .int v5)] [.int s0] M (f_X11_those_b59 k6 M v1 v2 v3 v5 s0) := by
  unfold f_X11_those_b59
  refine aw_iconst (n := 0) (v := (0 : Int32)) B (by decide +kernel) (by decide) ?_
  exact w_X11_those_b60 hG M B hk6 _ _ _ _ _ _
def f_X11_those_L6 (M : Mem) : Nat → Int32 → Int32 → Int32 → Int32 → Int32 → Option Int32
  | 0, _, _, _, _, _ => none
  | n + 1, v1, v2, v3, v4, v5 => (if (M.1 47 22) ≤ v5 then (some v4) else (if ((ab_shr v1 v5) &&& (1 : Int32)) = (1 : Int32) then ck (okI 63 (((4 : Int32) * v5) + v2)) (ck (okI 63 (((4 : Int32) * v5) + v3)) ((if (M.1 63 (((4 : Int32) * v5) + v3).toNatClampNeg) ≤ (M.1 63 (((4 : Int32) * v5) + v2).toNatClampNeg) then f_X11_those_b59 (fun a0 a1 a2 a3 a4 => f_X11_those_L6 M n a0 a1 a2 a3 a4) M v1 v2 v3 v5 v4 else f_X11_those_b60 (fun a0 a1 a2 a3 a4 => f_X11_those_L6 M n a0 a1 a2 a3 a4) M v1 v2 v3 v5 (ab_shl (1 : Int32) v5) v4))) else f_X11_those_b59 (fun a0 a1 a2 a3 a4 => f_X11_those_L6 M n a0 a1 a2 a3 a4) M v1 v2 v3 v5 v4))
set_option maxRecDepth 100000 in
set_option maxHeartbeats 4000000 in
theorem w_X11_those_L6 {G : GW} {E : EE} (hG : ab_ok G) (M : Mem) (B : Bx G E RX11 cX11_those 6 2 (some .int)) : ∀ (n : Nat) (v1 : Int32) (v2 : Int32) (v3 : Int32) (v4 : Int32) (v5 : Int32), AWo G E cX11_those 6 (ab_Q G E (embRI M)) 6 [(0, .ref 47), (1, .int v1), (2, .int v2), (3, .int v3), (4, .int v4), (5, .int v5)] [] M (f_X11_those_L6 M n v1 v2 v3 v4 v5) := by
  intro n
  induction n with
  | zero => intro _ _ _ _ _; exact aw_none
  | succ n ih =>
    intro v1 v2 v3 v4 v5
    rw [f_X11_those_L6]
    refine aw_iload (i := 5) B 5 (by decide +kernel) rfl ?_
    refine aw_aload_n (k0 := 0) B 0 (by decide +kernel) rfl rfl ?_
    refine aw_geti (c := 47) B lkX11_225 (by decide +kernel) rfl ?_
    refine aw_icmp_ge (off := 57) B 69 (by decide +kernel) (by decide) (fun _ => ?_) (fun _ => ?_)
    · refine aw_iload (i := 4) B 4 (by decide +kernel) rfl ?_
      exact aw_ireturn B (by decide +kernel) rfl
    · refine aw_iload (i := 4) B 4 (by decide +kernel) rfl ?_
      refine aw_iload_n (k0 := 1) B 1 (by decide +kernel) rfl rfl ?_
      refine aw_iload (i := 5) B 5 (by decide +kernel) rfl ?_
      refine aw_ishr B (by decide +kernel) ?_
      refine aw_iconst (n := 1) (v := (1 : Int32)) B (by decide +kernel) (by decide) ?_
      refine aw_iand B (by decide +kernel) ?_
      refine aw_iconst (n := 1) (v := (1 : Int32)) B (by decide +kernel) (by decide) ?_
      refine aw_icmp_ne (off := 35) B 59 (by decide +kernel) (by decide) (fun _ => ?_) (fun _ => ?_)
      · exact aw_sub [0, 1, 2, 3, 5] rfl (w_X11_those_b59 hG M B ih _ _ _ _ _)
      · refine aw_aload_n (k0 := 0) B 0 (by decide +kernel) rfl rfl ?_
        refine aw_getr (c := 47) B lkX11_56 (by decide +kernel) rfl (r := 63) rfl ?_
        refine aw_iconst (n := 4) (v := (4 : Int32)) B (by decide +kernel) (by decide) ?_
        refine aw_iload (i := 5) B 5 (by decide +kernel) rfl ?_
        refine aw_imul B (by decide +kernel) ?_
        refine aw_iload_n (k0 := 2) B 2 (by decide +kernel) rfl rfl ?_
        refine aw_iadd B (by decide +kernel) ?_
        refine aw_iaload B (by decide +kernel) ?_
        refine aw_aload_n (k0 := 0) B 0 (by decide +kernel) rfl rfl ?_
        refine aw_getr (c := 47) B lkX11_56 (by decide +kernel) rfl (r := 63) rfl ?_
        refine aw_iconst (n := 4) (v := (4 : Int32)) B (by decide +kernel) (by decide) ?_
        refine aw_iload (i := 5) B 5 (by decide +kernel) rfl ?_
        refine aw_imul B (by decide +kernel) ?_
        refine aw_iload_n (k0 := 3) B 3 (by decide +kernel) rfl rfl ?_
        refine aw_iadd B (by decide +kernel) ?_
        refine aw_iaload B (by decide +kernel) ?_
        refine aw_icmp_ge (off := 10) B 59 (by decide +kernel) (by decide) (fun _ => ?_) (fun _ => ?_)
        · exact aw_sub [0, 1, 2, 3, 5] rfl (w_X11_those_b59 hG M B ih _ _ _ _ _)
        · refine aw_iconst (n := 1) (v := (1 : Int32)) B (by decide +kernel) (by decide) ?_
          refine aw_iload (i := 5) B 5 (by decide +kernel) rfl ?_
          refine aw_ishl B (by decide +kernel) ?_
          refine aw_goto (off := 4) B 60 (by decide +kernel) (by decide) ?_
          exact aw_sub [0, 1, 2, 3, 5] rfl (w_X11_those_b60 hG M B ih _ _ _ _ _ _)
def f_X11_those (v1 : Int32) (v2 : Int32) (v3 : Int32) (M : Mem) : Option Int32 := f_X11_those_L6 M FU v1 v2 v3 (0 : Int32) (0 : Int32)
set_option maxRecDepth 100000 in
set_option maxHeartbeats 4000000 in
theorem w_X11_those {G : GW} {E : EE} (hG : ab_ok G) (B : Bx G E RX11 cX11_those 6 2 (some .int)) (v1 : Int32) (v2 : Int32) (v3 : Int32) (M : Mem) : AWo G E cX11_those 6 (ab_Q G E (embRI M)) 0 [(0, .ref 47), (1, .int v1), (2, .int v2), (3, .int v3)] [] M (f_X11_those v1 v2 v3 M) := by
  unfold f_X11_those
  refine aw_iconst (n := 0) (v := (0 : Int32)) B (by decide +kernel) (by decide) ?_
  refine aw_istore (i := 4) B [(4, .int (0 : Int32)), (0, .ref 47), (1, .int v1), (2, .int v2), (3, .int v3)] (by decide +kernel) (Nat.le_of_ble_eq_true rfl) rfl ?_
  refine aw_iconst (n := 0) (v := (0 : Int32)) B (by decide +kernel) (by decide) ?_
  refine aw_istore (i := 5) B [(5, .int (0 : Int32)), (4, .int (0 : Int32)), (0, .ref 47), (1, .int v1), (2, .int v2), (3, .int v3)] (by decide +kernel) (Nat.le_of_ble_eq_true rfl) rfl ?_
  exact aw_sub [2, 3, 4, 5, 1, 0] rfl (w_X11_those_L6 hG M B FU _ _ _ _ _)
theorem c_X11_those (l : Launch) {G : GW} (hG : ab_ok G) (v1 : Int32) (v2 : Int32) (v3 : Int32) (M : Mem) : AC l G yX11_those cX11_those 6 (some .int) 2 [.ref 47, .int v1, .int v2, .int v3] M (embRI M) (f_X11_those v1 v2 v3 M) := AC.of hG (by decide) (Nat.le_of_ble_eq_true rfl) (fun E hE B => by subst hE; exact w_X11_those hG B v1 v2 v3 M)
def f_X11_worstOf_b118 (rc : Int32 → Mem → Option Int32) (k27 : Int32 → Int32 → Int32 → Int32 → Option Int32) (M : Mem) (v1 : Int32) (v2 : Int32) (v3 : Int32) (v4 : Int32) : Option Int32 := k27 v1 v2 v3 (v4 + 1)
set_option maxRecDepth 100000 in
set_option maxHeartbeats 4000000 in
theorem w_X11_worstOf_b118 {G : GW} {E : EE} (hG : ab_ok G) (M : Mem) {k27 : Int32 → Int32 → Int32 → Int32 → Option Int32} {rc : Int32 → Mem → Option Int32} (lv0 : Nat) (hl0 : 3 ≤ lv0) (hrc : ∀ (v1 : Int32) (M : Mem), AC (eLa E) G yX11_worstOf cX11_worstOf 10 (some .int) lv0 [.ref 47, .int v1] M (embRI M) (rc v1 M)) (B : Bx G E RX11 cX11_worstOf 10 (lv0 + 1) (some .int)) (hk27 : ∀ (v1 : Int32) (v2 : Int32) (v3 : Int32) (v4 : Int32), AWo G E cX11_worstOf 10 (ab_Q G E (embRI M)) 27 [(0, .ref 47), (1, .int v1), (2, .int v2), (3, .int v3), (4, .int v4)] [] M (k27 v1 v2 v3 v4)) (v1 : Int32) (v2 : Int32) (v3 : Int32) (v4 : Int32) : AWo G E cX11_worstOf 10 (ab_Q G E (embRI M)) 118 [(0, .ref 47), (1, .int v1), (2, .int v2), (3, .int v3), (4, .int v4)] [] M (f_X11_worstOf_b118 rc k27 M v1 v2 v3 v4) := by
  unfold f_X11_worstOf_b118
  refine aw_iinc (i := 4) (n := 1) B 4 [(4, .int (v4 + 1)), (0, .ref 47), (1, .int v1), (2, .int v2), (3, .int v3)] (by decide +kernel) rfl (Nat.le_of_ble_eq_true rfl) (v4 + 1) (ab_inc (by decide)) rfl ?_
  refine aw_goto (off := -94) B 27 (by decide +kernel) (by decide) ?_
  exact aw_sub [1, 2, 3, 4, 0] rfl (hk27 _ _ _ _)
def f_X11_worstOf_b117 (rc : Int32 → Mem → Option Int32) (k27 : Int32 → Int32 → Int32 → Int32 → Option Int32) (M : Mem) (v1 : Int32) (v3 : Int32) (v4 : Int32) (s0 : Int32) : Option Int32 := f_X11_worstOf_b118 rc k27 M v1 s0 v3 v4
set_option maxRecDepth 100000 in
set_option maxHeartbeats 4000000 in
theorem w_X11_worstOf_b117 {G : GW} {E : EE} (hG : ab_ok G) (M : Mem) {k27 : Int32 → Int32 → Int32 → Int32 → Option Int32} {rc : Int32 → Mem → Option Int32} (lv0 : Nat) (hl0 : 3 ≤ lv0) (hrc : ∀ (v1 : Int32) (M : Mem), AC (eLa E) G yX11_worstOf cX11_worstOf 10 (some .int) lv0 [.ref 47, .int v1] M (embRI M) (rc v1 M)) (B : Bx G E RX11 cX11_worstOf 10 (lv0 + 1) (some .int)) (hk27 : ∀ (v1 : Int32) (v2 : Int32) (v3 : Int32) (v4 : Int32), AWo G E cX11_worstOf 10 (ab_Q G E (embRI M)) 27 [(0, .ref 47), (1, .int v1), (2, .int v2), (3, .int v3), (4, .int v4)] [] M (k27 v1 v2 v3 v4)) (v1 : Int32) (v3 : Int32) (v4 : Int32) (s0 : Int32) : AWo G E cX11_worstOf 10 (ab_Q G E (embRI M)) 117 [(0, .ref 47), (1, .int v1), (3, .int v3), (4, .int v4)] [.int s0] M (f_X11_worstOf_b117 rc k27 M v1 v3 v4 s0) := by
  unfold f_X11_worstOf_b117
  refine aw_istore_n (k0 := 2) B [(2, .int s0), (0, .ref 47), (1, .int v1), (3, .int v3), (4, .int v4)] (by decide +kernel) rfl (Nat.le_of_ble_eq_true rfl) rfl ?_
  exact aw_sub [1, 2, 0, 3, 4] rfl (w_X11_worstOf_b118 hG M lv0 hl0 hrc B hk27 _ _ _ _)
def f_X11_worstOf_b111 (rc : Int32 → Mem → Option Int32) (k27 : Int32 → Int32 → Int32 → Int32 → Option Int32) (M : Mem) (v1 : Int32) (v3 : Int32) (v4 : Int32) (v9 : Int32) : Option Int32 := f_X11_worstOf_b117 rc k27 M v1 v3 v4 v9
set_option maxRecDepth 100000 in
set_option maxHeartbeats 4000000 in
theorem w_X11_worstOf_b111 {G : GW} {E : EE} (hG : ab_ok G) (M : Mem) {k27 : Int32 → Int32 → Int32 → Int32 → Option Int32} {rc : Int32 → Mem → Option Int32} (lv0 : Nat) (hl0 : 3 ≤ lv0) (hrc : ∀ (v1 : Int32) (M : Mem), AC (eLa E) G yX11_worstOf cX11_worstOf 10 (some .int) lv0 [.ref 47, .int v1] M (embRI M) (rc v1 M)) (B : Bx G E RX11 cX11_worstOf 10 (lv0 + 1) (some .int)) (hk27 : ∀ (v1 : Int32) (v2 : Int32) (v3 : Int32) (v4 : Int32), AWo G E cX11_worstOf 10 (ab_Q G E (embRI M)) 27 [(0, .ref 47), (1, .int v1), (2, .int v2), (3, .int v3), (4, .int v4)] [] M (k27 v1 v2 v3 v4)) (v1 : Int32) (v3 : Int32) (v4 : Int32) (v9 : Int32) : AWo G E cX11_worstOf 10 (ab_Q G E (embRI M)) 111 [(0, .ref 47), (1, .int v1), (3, .int v3), (4, .int v4), (9, .int v9)] [] M (f_X11_worstOf_b111 rc k27 M v1 v3 v4 v9) := by
  unfold f_X11_worstOf_b111
  refine aw_iload (i := 9) B 4 (by decide +kernel) rfl ?_
  refine aw_goto (off := 4) B 117 (by decide +kernel) (by decide) ?_
  exact aw_sub [0, 1, 2, 3] rfl (w_X11_worstOf_b117 hG M lv0 hl0 hrc B hk27 _ _ _ _)
def f_X11_worstOf_b98 (rc : Int32 → Mem → Option Int32) (k27 : Int32 → Int32 → Int32 → Int32 → Option Int32) (M : Mem) (v1 : Int32) (v2 : Int32) (v3 : Int32) (v4 : Int32) (s0 : Int32) (s1 : Int32) : Option Int32 := lt (s1 + s0) fun x1 => (if v2 < 0 then f_X11_worstOf_b111 rc k27 M v1 v3 v4 x1 else (if v2 ≤ x1 then f_X11_worstOf_b117 rc k27 M v1 v3 v4 v2 else f_X11_worstOf_b111 rc k27 M v1 v3 v4 x1))
set_option maxRecDepth 100000 in
set_option maxHeartbeats 4000000 in
theorem w_X11_worstOf_b98 {G : GW} {E : EE} (hG : ab_ok G) (M : Mem) {k27 : Int32 → Int32 → Int32 → Int32 → Option Int32} {rc : Int32 → Mem → Option Int32} (lv0 : Nat) (hl0 : 3 ≤ lv0) (hrc : ∀ (v1 : Int32) (M : Mem), AC (eLa E) G yX11_worstOf cX11_worstOf 10 (some .int) lv0 [.ref 47, .int v1] M (embRI M) (rc v1 M)) (B : Bx G E RX11 cX11_worstOf 10 (lv0 + 1) (some .int)) (hk27 : ∀ (v1 : Int32) (v2 : Int32) (v3 : Int32) (v4 : Int32), AWo G E cX11_worstOf 10 (ab_Q G E (embRI M)) 27 [(0, .ref 47), (1, .int v1), (2, .int v2), (3, .int v3), (4, .int v4)] [] M (k27 v1 v2 v3 v4)) (v1 : Int32) (v2 : Int32) (v3 : Int32) (v4 : Int32) (s0 : Int32) (s1 : Int32) : AWo G E cX11_worstOf 10 (ab_Q G E (embRI M)) 98 [(0, .ref 47), (1, .int v1), (2, .int v2), (3, .int v3), (4, .int v4)] [.int s0, .int s1] M (f_X11_worstOf_b98 rc k27 M v1 v2 v3 v4 s0 s1) := by
  unfold f_X11_worstOf_b98
  refine aw_iadd B (by decide +kernel) ?_
  refine aw_ltI (fun x1 => ?_)
  refine aw_istore (i := 9) B [(9, .int x1), (0, .ref 47), (1, .int v1), (2, .int v2), (3, .int v3), (4, .int v4)] (by decide +kernel) (Nat.le_of_ble_eq_true rfl) rfl ?_
  refine aw_iload_n (k0 := 2) B 3 (by decide +kernel) rfl rfl ?_
  refine aw_if_lt (off := 9) B 111 (by decide +kernel) (by decide) (fun _ => ?_) (fun _ => ?_)
  · exact aw_sub [1, 2, 4, 5, 0] rfl (w_X11_worstOf_b111 hG M lv0 hl0 hrc B hk27 _ _ _ _)
  · refine aw_iload (i := 9) B 0 (by decide +kernel) rfl ?_
    refine aw_iload_n (k0 := 2) B 3 (by decide +kernel) rfl rfl ?_
    refine aw_icmp_ge (off := 8) B 116 (by decide +kernel) (by decide) (fun _ => ?_) (fun _ => ?_)
    · refine aw_iload_n (k0 := 2) B 3 (by decide +kernel) rfl rfl ?_
      exact aw_sub [1, 2, 4, 5] rfl (w_X11_worstOf_b117 hG M lv0 hl0 hrc B hk27 _ _ _ _)
    · exact aw_sub [1, 2, 4, 5, 0] rfl (w_X11_worstOf_b111 hG M lv0 hl0 hrc B hk27 _ _ _ _)
def f_X11_worstOf_L27 (rc : Int32 → Mem → Option Int32) (k14 : Int32 → Int32 → Int32 → Option Int32) (M : Mem) : Nat → Int32 → Int32 → Int32 → Int32 → Option Int32
  | 0, _, _, _, _ => none
  | n + 1, v1, v2, v3, v4 => (if (M.1 47 6) ≤ v4 then k14 v1 v2 (v3 + 1) else (f_X11_those v1 v3 v4 M).bind fun x1 => lt (v1 &&& (x1 ^^^ (-1 : Int32))) fun x3 => (if x1 = 0 then f_X11_worstOf_b118 rc (fun a0 a1 a2 a3 => f_X11_worstOf_L27 rc k14 M n a0 a1 a2 a3) M v1 v2 v3 v4 else (if x3 = 0 then f_X11_worstOf_b118 rc (fun a0 a1 a2 a3 => f_X11_worstOf_L27 rc k14 M n a0 a1 a2 a3) M v1 v2 v3 v4 else (rc x1 M).bind fun x4 => (rc x3 M).bind fun x6 => (if x4 ≤ x6 then f_X11_worstOf_b98 rc (fun a0 a1 a2 a3 => f_X11_worstOf_L27 rc k14 M n a0 a1 a2 a3) M v1 v2 v3 v4 x6 (1 : Int32) else f_X11_worstOf_b98 rc (fun a0 a1 a2 a3 => f_X11_worstOf_L27 rc k14 M n a0 a1 a2 a3) M v1 v2 v3 v4 x4 (1 : Int32)))))
set_option maxRecDepth 100000 in
set_option maxHeartbeats 4000000 in
theorem w_X11_worstOf_L27 {G : GW} {E : EE} (hG : ab_ok G) (M : Mem) {k14 : Int32 → Int32 → Int32 → Option Int32} {rc : Int32 → Mem → Option Int32} (lv0 : Nat) (hl0 : 3 ≤ lv0) (hrc : ∀ (v1 : Int32) (M : Mem), AC (eLa E) G yX11_worstOf cX11_worstOf 10 (some .int) lv0 [.ref 47, .int v1] M (embRI M) (rc v1 M)) (B : Bx G E RX11 cX11_worstOf 10 (lv0 + 1) (some .int)) (hk14 : ∀ (v1 : Int32) (v2 : Int32) (v3 : Int32), AWo G E cX11_worstOf 10 (ab_Q G E (embRI M)) 14 [(0, .ref 47), (1, .int v1), (2, .int v2), (3, .int v3)] [] M (k14 v1 v2 v3)) : ∀ (n : Nat) (v1 : Int32) (v2 : Int32) (v3 : Int32) (v4 : Int32), AWo G E cX11_worstOf 10 (ab_Q G E (embRI M)) 27 [(0, .ref 47), (1, .int v1), (2, .int v2), (3, .int v3), (4, .int v4)] [] M (f_X11_worstOf_L27 rc k14 M n v1 v2 v3 v4) := by
  intro n
  induction n with
  | zero => intro _ _ _ _; exact aw_none
  | succ n ih =>
    intro v1 v2 v3 v4
    rw [f_X11_worstOf_L27]
    refine aw_iload (i := 4) B 4 (by decide +kernel) rfl ?_
    refine aw_aload_n (k0 := 0) B 0 (by decide +kernel) rfl rfl ?_
    refine aw_geti (c := 47) B lkX11_109 (by decide +kernel) rfl ?_
    refine aw_icmp_ge (off := 91) B 124 (by decide +kernel) (by decide) (fun _ => ?_) (fun _ => ?_)
    · refine aw_iinc (i := 3) (n := 1) B 3 [(3, .int (v3 + 1)), (0, .ref 47), (1, .int v1), (2, .int v2), (4, .int v4)] (by decide +kernel) rfl (Nat.le_of_ble_eq_true rfl) (v3 + 1) (ab_inc (by decide)) rfl ?_
      refine aw_goto (off := -113) B 14 (by decide +kernel) (by decide) ?_
      exact aw_sub [1, 2, 3, 0] rfl (hk14 _ _ _)
    · refine aw_aload_n (k0 := 0) B 0 (by decide +kernel) rfl rfl ?_
      refine aw_iload_n (k0 := 1) B 1 (by decide +kernel) rfl rfl ?_
      refine aw_iload_n (k0 := 3) B 3 (by decide +kernel) rfl rfl ?_
      refine aw_iload (i := 4) B 4 (by decide +kernel) rfl ?_
      refine aw_cVR B (c_X11_those (eLa E) hG v1 v3 v4 M) cvX11_267 rfl rfl (by have hF : FD = 40 := rfl; omega) rfl (Nat.le_of_ble_eq_true rfl) (by decide +kernel) rfl (fun x1 => ?_)
      refine aw_istore (i := 5) B [(5, .int x1), (0, .ref 47), (1, .int v1), (2, .int v2), (3, .int v3), (4, .int v4)] (by decide +kernel) (Nat.le_of_ble_eq_true rfl) rfl ?_
      refine aw_iload_n (k0 := 1) B 2 (by decide +kernel) rfl rfl ?_
      refine aw_iload (i := 5) B 0 (by decide +kernel) rfl ?_
      refine aw_iconst (n := -1) (v := (-1 : Int32)) B (by decide +kernel) (by decide) ?_
      refine aw_ixor B (by decide +kernel) ?_
      refine aw_iand B (by decide +kernel) ?_
      refine aw_ltI (fun x3 => ?_)
      refine aw_istore (i := 6) B [(6, .int x3), (5, .int x1), (0, .ref 47), (1, .int v1), (2, .int v2), (3, .int v3), (4, .int v4)] (by decide +kernel) (Nat.le_of_ble_eq_true rfl) rfl ?_
      refine aw_iload (i := 5) B 1 (by decide +kernel) rfl ?_
      refine aw_if_eq (off := 62) B 118 (by decide +kernel) (by decide) (fun _ => ?_) (fun _ => ?_)
      · exact aw_sub [2, 3, 4, 5, 6] rfl (w_X11_worstOf_b118 hG M lv0 hl0 hrc B ih _ _ _ _)
      · refine aw_iload (i := 6) B 0 (by decide +kernel) rfl ?_
        refine aw_if_ne (off := 6) B 67 (by decide +kernel) (by decide) (fun _ => ?_) (fun _ => ?_)
        · refine aw_aload_n (k0 := 0) B 2 (by decide +kernel) rfl rfl ?_
          refine aw_iload (i := 5) B 1 (by decide +kernel) rfl ?_
          refine aw_cVR B (hrc x1 M) cvX11_270 rfl rfl (by have hF : FD = 40 := rfl; omega) rfl (Nat.le_of_ble_eq_true rfl) (by decide +kernel) rfl (fun x4 => ?_)
          refine aw_istore (i := 7) B [(7, .int x4), (6, .int x3), (5, .int x1), (0, .ref 47), (1, .int v1), (2, .int v2), (3, .int v3), (4, .int v4)] (by decide +kernel) (Nat.le_of_ble_eq_true rfl) rfl ?_
          refine aw_aload_n (k0 := 0) B 3 (by decide +kernel) rfl rfl ?_
          refine aw_iload (i := 6) B 1 (by decide +kernel) rfl ?_
          refine aw_cVR B (hrc x3 M) cvX11_270 rfl rfl (by have hF : FD = 40 := rfl; omega) rfl (Nat.le_of_ble_eq_true rfl) (by decide +kernel) rfl (fun x6 => ?_)
          refine aw_istore (i := 8) B [(8, .int x6), (7, .int x4), (6, .int x3), (5, .int x1), (0, .ref 47), (1, .int v1), (2, .int v2), (3, .int v3), (4, .int v4)] (by decide +kernel) (Nat.le_of_ble_eq_true rfl) rfl ?_
          refine aw_iconst (n := 1) (v := (1 : Int32)) B (by decide +kernel) (by decide) ?_
          refine aw_iload (i := 7) B 1 (by decide +kernel) rfl ?_
          refine aw_iload (i := 8) B 0 (by decide +kernel) rfl ?_
          refine aw_icmp_le (off := 8) B 96 (by decide +kernel) (by decide) (fun _ => ?_) (fun _ => ?_)
          · refine aw_iload (i := 8) B 0 (by decide +kernel) rfl ?_
            exact aw_sub [4, 5, 6, 7, 8] rfl (w_X11_worstOf_b98 hG M lv0 hl0 hrc B ih _ _ _ _ _ _)
          · refine aw_iload (i := 7) B 1 (by decide +kernel) rfl ?_
            refine aw_goto (off := 5) B 98 (by decide +kernel) (by decide) ?_
            exact aw_sub [4, 5, 6, 7, 8] rfl (w_X11_worstOf_b98 hG M lv0 hl0 hrc B ih _ _ _ _ _ _)
        · refine aw_goto (off := 54) B 118 (by decide +kernel) (by decide) ?_
          exact aw_sub [2, 3, 4, 5, 6] rfl (w_X11_worstOf_b118 hG M lv0 hl0 hrc B ih _ _ _ _)
def f_X11_worstOf_L14 (rc : Int32 → Mem → Option Int32) (M : Mem) : Nat → Int32 → Int32 → Int32 → Option Int32
  | 0, _, _, _ => none
  | n + 1, v1, v2, v3 => (if (M.1 47 6) ≤ v3 then (some v2) else lt (v3 + (1 : Int32)) fun x1 => f_X11_worstOf_L27 rc (fun a0 a1 a2 => f_X11_worstOf_L14 rc M n a0 a1 a2) M FU v1 v2 v3 x1)
set_option maxRecDepth 100000 in
set_option maxHeartbeats 4000000 in
theorem w_X11_worstOf_L14 {G : GW} {E : EE} (hG : ab_ok G) (M : Mem) {rc : Int32 → Mem → Option Int32} (lv0 : Nat) (hl0 : 3 ≤ lv0) (hrc : ∀ (v1 : Int32) (M : Mem), AC (eLa E) G yX11_worstOf cX11_worstOf 10 (some .int) lv0 [.ref 47, .int v1] M (embRI M) (rc v1 M)) (B : Bx G E RX11 cX11_worstOf 10 (lv0 + 1) (some .int)) : ∀ (n : Nat) (v1 : Int32) (v2 : Int32) (v3 : Int32), AWo G E cX11_worstOf 10 (ab_Q G E (embRI M)) 14 [(0, .ref 47), (1, .int v1), (2, .int v2), (3, .int v3)] [] M (f_X11_worstOf_L14 rc M n v1 v2 v3) := by
  intro n
  induction n with
  | zero => intro _ _ _; exact aw_none
  | succ n ih =>
    intro v1 v2 v3
    rw [f_X11_worstOf_L14]
    refine aw_iload_n (k0 := 3) B 3 (by decide +kernel) rfl rfl ?_
    refine aw_aload_n (k0 := 0) B 0 (by decide +kernel) rfl rfl ?_
    refine aw_geti (c := 47) B lkX11_109 (by decide +kernel) rfl ?_
    refine aw_icmp_ge (off := 111) B 130 (by decide +kernel) (by decide) (fun _ => ?_) (fun _ => ?_)
    · refine aw_iload_n (k0 := 2) B 2 (by decide +kernel) rfl rfl ?_
      exact aw_ireturn B (by decide +kernel) rfl
    · refine aw_iload_n (k0 := 3) B 3 (by decide +kernel) rfl rfl ?_
      refine aw_iconst (n := 1) (v := (1 : Int32)) B (by decide +kernel) (by decide) ?_
      refine aw_iadd B (by decide +kernel) ?_
      refine aw_ltI (fun x1 => ?_)
      refine aw_istore (i := 4) B [(4, .int x1), (0, .ref 47), (1, .int v1), (2, .int v2), (3, .int v3)] (by decide +kernel) (Nat.le_of_ble_eq_true rfl) rfl ?_
      exact aw_sub [1, 2, 3, 4, 0] rfl (w_X11_worstOf_L27 hG M lv0 hl0 hrc B ih FU _ _ _ _)
def f_X11_worstOf_o (rc : Int32 → Mem → Option Int32) (v1 : Int32) (M : Mem) : Option Int32 := (f_X11_isAnswered v1 M).bind fun x1 => (if x1 = 0 then f_X11_worstOf_L14 rc M FU v1 (-1 : Int32) (0 : Int32) else (some (0 : Int32)))
set_option maxRecDepth 100000 in
set_option maxHeartbeats 4000000 in
theorem w_X11_worstOf_o {G : GW} {E : EE} (hG : ab_ok G) {rc : Int32 → Mem → Option Int32} (lv0 : Nat) (hl0 : 3 ≤ lv0) (hrc : ∀ (v1 : Int32) (M : Mem), AC (eLa E) G yX11_worstOf cX11_worstOf 10 (some .int) lv0 [.ref 47, .int v1] M (embRI M) (rc v1 M)) (B : Bx G E RX11 cX11_worstOf 10 (lv0 + 1) (some .int)) (v1 : Int32) (M : Mem) : AWo G E cX11_worstOf 10 (ab_Q G E (embRI M)) 0 [(0, .ref 47), (1, .int v1)] [] M (f_X11_worstOf_o rc v1 M) := by
  unfold f_X11_worstOf_o
  refine aw_aload_n (k0 := 0) B 0 (by decide +kernel) rfl rfl ?_
  refine aw_iload_n (k0 := 1) B 1 (by decide +kernel) rfl rfl ?_
  refine aw_cVR B (c_X11_isAnswered (eLa E) hG v1 M) cvX11_264 rfl rfl (by have hF : FD = 40 := rfl; omega) rfl (Nat.le_of_ble_eq_true rfl) (by decide +kernel) rfl (fun x1 => ?_)
  refine aw_if_eq (off := 5) B 10 (by decide +kernel) (by decide) (fun _ => ?_) (fun _ => ?_)
  · refine aw_iconst (n := -1) (v := (-1 : Int32)) B (by decide +kernel) (by decide) ?_
    refine aw_istore_n (k0 := 2) B [(2, .int (-1 : Int32)), (0, .ref 47), (1, .int v1)] (by decide +kernel) rfl (Nat.le_of_ble_eq_true rfl) rfl ?_
    refine aw_iconst (n := 0) (v := (0 : Int32)) B (by decide +kernel) (by decide) ?_
    refine aw_istore_n (k0 := 3) B [(3, .int (0 : Int32)), (2, .int (-1 : Int32)), (0, .ref 47), (1, .int v1)] (by decide +kernel) rfl (Nat.le_of_ble_eq_true rfl) rfl ?_
    exact aw_sub [2, 3, 1, 0] rfl (w_X11_worstOf_L14 hG M lv0 hl0 hrc B FU _ _ _)
  · refine aw_iconst (n := 0) (v := (0 : Int32)) B (by decide +kernel) (by decide) ?_
    exact aw_ireturn B (by decide +kernel) rfl
def f_X11_worstOf : Nat → Int32 → Mem → Option Int32
  | 0, _, _ => none
  | d + 1, v1, M => f_X11_worstOf_o (fun v1 M => f_X11_worstOf d v1 M) v1 M
theorem c_X11_worstOf (l : Launch) {G : GW} (hG : ab_ok G) : ∀ (d : Nat) (v1 : Int32) (M : Mem), AC l G yX11_worstOf cX11_worstOf 10 (some .int) (3 + 1 * d) [.ref 47, .int v1] M (embRI M) (f_X11_worstOf d v1 M)
  | 0, _, _ => fun a ha => by cases ha
  | d + 1, v1, M => AC.of hG (by decide) (Nat.le_of_ble_eq_true rfl) (fun E hE B => by
    subst hE
    have e : 3 + 1 * (d + 1) = 3 + 1 * d + 1 := by omega
    rw [e] at B
    exact w_X11_worstOf_o hG (3 + 1 * d) (Nat.le_add_right _ _) (fun v1 M => c_X11_worstOf (eLa E) hG d v1 M) B v1 M)
def f_X11_worst (v1 : Int32) (M : Mem) : Option (Int32 × Mem) := bI (f_X11_gathers v1 M) fun x1 M2 => (if 0 ≤ x1 then (f_X11_allOrders M2).bind fun x3 => (f_X11_worstOf FD x3 M2).bind fun x5 => (some (x5, M2)) else (some (x1, M2)))
set_option maxRecDepth 100000 in
set_option maxHeartbeats 4000000 in
theorem w_X11_worst {G : GW} {E : EE} (hG : ab_ok G) (B : Bx G E RX11 cX11_worst 3 47 (some .int)) (v1 : Int32) (M : Mem) : AWo G E cX11_worst 3 (ab_Q G E embI) 0 [(0, .ref 47), (1, .int v1)] [] M (f_X11_worst v1 M) := by
  unfold f_X11_worst
  refine aw_aload_n (k0 := 0) B 0 (by decide +kernel) rfl rfl ?_
  refine aw_iload_n (k0 := 1) B 1 (by decide +kernel) rfl rfl ?_
  refine aw_cVI B (c_X11_gathers (eLa E) hG v1 M) cvX11_276 rfl rfl (Nat.le_of_ble_eq_true rfl) rfl (Nat.le_of_ble_eq_true rfl) (by decide +kernel) rfl (fun x1 M2 => ?_)
  refine aw_istore_n (k0 := 2) B [(2, .int x1), (0, .ref 47), (1, .int v1)] (by decide +kernel) rfl (Nat.le_of_ble_eq_true rfl) rfl ?_
  refine aw_iload_n (k0 := 2) B 0 (by decide +kernel) rfl rfl ?_
  refine aw_if_ge (off := 7) B 14 (by decide +kernel) (by decide) (fun _ => ?_) (fun _ => ?_)
  · refine aw_aload_n (k0 := 0) B 1 (by decide +kernel) rfl rfl ?_
    refine aw_aload_n (k0 := 0) B 1 (by decide +kernel) rfl rfl ?_
    refine aw_cVR B (c_X11_allOrders (eLa E) hG M2) cvX11_279 rfl rfl (Nat.le_of_ble_eq_true rfl) rfl (Nat.le_of_ble_eq_true rfl) (by decide +kernel) rfl (fun x3 => ?_)
    refine aw_cVR B (c_X11_worstOf (eLa E) hG FD x3 M2) cvX11_270 rfl rfl (Nat.le_of_ble_eq_true rfl) rfl (Nat.le_of_ble_eq_true rfl) (by decide +kernel) rfl (fun x5 => ?_)
    exact aw_ireturn B (by decide +kernel) rfl
  · refine aw_iload_n (k0 := 2) B 0 (by decide +kernel) rfl rfl ?_
    refine aw_goto (off := 11) B 22 (by decide +kernel) (by decide) ?_
    exact aw_ireturn B (by decide +kernel) rfl
theorem c_X11_worst (l : Launch) {G : GW} (hG : ab_ok G) (v1 : Int32) (M : Mem) : AC l G yX11_worst cX11_worst 3 (some .int) 47 [.ref 47, .int v1] M embI (f_X11_worst v1 M) := AC.of hG (by decide) (Nat.le_of_ble_eq_true rfl) (fun E hE B => by subst hE; exact w_X11_worst hG B v1 M)
def f_X8_leastSum (M : Mem) : Option (Int32 × Mem) := (if (M.1 14 7) = 0 then (some ((0 : Int32), M)) else bI (f_X8_cost FD (M.1 14 6) (1 : Int32) (0 : Int32) M) fun x1 M2 => (some (x1, M2)))
set_option maxRecDepth 100000 in
set_option maxHeartbeats 4000000 in
theorem w_X8_leastSum {G : GW} {E : EE} (hG : ab_ok G) (B : Bx G E RX8 cX8_leastSum 1 127 (some .int)) (M : Mem) : AWo G E cX8_leastSum 1 (ab_Q G E embI) 0 [(0, .ref 14)] [] M (f_X8_leastSum M) := by
  unfold f_X8_leastSum
  refine aw_aload_n (k0 := 0) B 0 (by decide +kernel) rfl rfl ?_
  refine aw_geti (c := 14) B lkX8_44 (by decide +kernel) rfl ?_
  refine aw_if_eq (off := 16) B 20 (by decide +kernel) (by decide) (fun _ => ?_) (fun _ => ?_)
  · refine aw_iconst (n := 0) (v := (0 : Int32)) B (by decide +kernel) (by decide) ?_
    exact aw_ireturn B (by decide +kernel) rfl
  · refine aw_aload_n (k0 := 0) B 0 (by decide +kernel) rfl rfl ?_
    refine aw_aload_n (k0 := 0) B 0 (by decide +kernel) rfl rfl ?_
    refine aw_geti (c := 14) B lkX8_48 (by decide +kernel) rfl ?_
    refine aw_iconst (n := 1) (v := (1 : Int32)) B (by decide +kernel) (by decide) ?_
    refine aw_iconst (n := 0) (v := (0 : Int32)) B (by decide +kernel) (by decide) ?_
    refine aw_cVI B (c_X8_cost (eLa E) hG FD (M.1 14 6) (1 : Int32) (0 : Int32) M) cvX8_55 rfl rfl (Nat.le_of_ble_eq_true rfl) rfl (Nat.le_of_ble_eq_true rfl) (by decide +kernel) rfl (fun x1 M2 => ?_)
    refine aw_goto (off := 4) B 21 (by decide +kernel) (by decide) ?_
    exact aw_ireturn B (by decide +kernel) rfl
theorem c_X8_leastSum (l : Launch) {G : GW} (hG : ab_ok G) (M : Mem) : AC l G yX8_leastSum cX8_leastSum 1 (some .int) 127 [.ref 14] M embI (f_X8_leastSum M) := AC.of hG (by decide) (Nat.le_of_ble_eq_true rfl) (fun E hE B => by subst hE; exact w_X8_leastSum hG B M)
def f_X10_lowest_b72 (v5 : Int64) (s0 : Int64) : Option Int64 := if v5 = 0 then none else (some (s0 / v5))
set_option maxRecDepth 100000 in
set_option maxHeartbeats 4000000 in
theorem w_X10_lowest_b72 {G : GW} {E : EE} (hG : ab_ok G) (M : Mem) (B : Bx G E RX10 cX10_lowest 12 2 (some .long)) (v5 : Int64) (s0 : Int64) : AWo G E cX10_lowest 12 (ab_Q G E (embRJ M)) 72 [(5, .long v5)] [.long s0] M (f_X10_lowest_b72 v5 s0) := by
  unfold f_X10_lowest_b72
  refine aw_lload (i := 5) B 0 (by decide +kernel) rfl ?_
  refine aw_ldiv B (by decide +kernel) ?_
  exact aw_lreturn B (by decide +kernel) rfl
def f_X10_lowest_b44 (v0 : Int64) (v2 : Int64) (v4 : Int32) (v5 : Int64) : Option Int64 := (if 0 ≤ (lg_cmp v5 (1 : Int64)) then (if v4 = 0 then f_X10_lowest_b72 v5 v0 else f_X10_lowest_b72 v5 v2) else (if v4 = 0 then (some v0) else (some v2)))
set_option maxRecDepth 100000 in
set_option maxHeartbeats 4000000 in
theorem w_X10_lowest_b44 {G : GW} {E : EE} (hG : ab_ok G) (M : Mem) (B : Bx G E RX10 cX10_lowest 12 2 (some .long)) (v0 : Int64) (v2 : Int64) (v4 : Int32) (v5 : Int64) : AWo G E cX10_lowest 12 (ab_Q G E (embRJ M)) 44 [(0, .long v0), (2, .long v2), (4, .int v4), (5, .long v5)] [] M (f_X10_lowest_b44 v0 v2 v4 v5) := by
  unfold f_X10_lowest_b44
  refine aw_lload (i := 5) B 3 (by decide +kernel) rfl ?_
  refine aw_lconst (n := 1) (v := (1 : Int64)) B (by decide +kernel) (by decide) ?_
  refine aw_lcmp B (by decide +kernel) ?_
  refine aw_if_ge (off := 14) B 62 (by decide +kernel) (by decide) (fun _ => ?_) (fun _ => ?_)
  · refine aw_iload (i := 4) B 2 (by decide +kernel) rfl ?_
    refine aw_if_ne (off := 7) B 71 (by decide +kernel) (by decide) (fun _ => ?_) (fun _ => ?_)
    · refine aw_lload_n (k0 := 2) B 1 (by decide +kernel) rfl rfl ?_
      exact aw_sub [3] rfl (w_X10_lowest_b72 hG M B _ _)
    · refine aw_lload_n (k0 := 0) B 0 (by decide +kernel) rfl rfl ?_
      refine aw_goto (off := 4) B 72 (by decide +kernel) (by decide) ?_
      exact aw_sub [3] rfl (w_X10_lowest_b72 hG M B _ _)
  · refine aw_iload (i := 4) B 2 (by decide +kernel) rfl ?_
    refine aw_if_ne (off := 7) B 60 (by decide +kernel) (by decide) (fun _ => ?_) (fun _ => ?_)
    · refine aw_lload_n (k0 := 2) B 1 (by decide +kernel) rfl rfl ?_
      exact aw_lreturn B (by decide +kernel) rfl
    · refine aw_lload_n (k0 := 0) B 0 (by decide +kernel) rfl rfl ?_
      refine aw_goto (off := 4) B 61 (by decide +kernel) (by decide) ?_
      exact aw_lreturn B (by decide +kernel) rfl
def f_X10_lowest_L9 : Nat → Int64 → Int64 → Int32 → Int64 → Int64 → Int32 → Option Int64
  | 0, _, _, _, _, _, _ => none
  | n + 1, v0, v2, v4, v5, v7, v9 => (if (100 : Int32) ≤ v9 then f_X10_lowest_b44 v0 v2 v4 v5 else (if (lg_cmp v7 (0 : Int64)) = 0 then f_X10_lowest_b44 v0 v2 v4 v5 else if v7 = 0 then none else lt (ab_lrem v5 v7) fun x1 => f_X10_lowest_L9 n v0 v2 v4 v7 x1 (v9 + 1)))
set_option maxRecDepth 100000 in
set_option maxHeartbeats 4000000 in
theorem w_X10_lowest_L9 {G : GW} {E : EE} (hG : ab_ok G) (M : Mem) (B : Bx G E RX10 cX10_lowest 12 2 (some .long)) : ∀ (n : Nat) (v0 : Int64) (v2 : Int64) (v4 : Int32) (v5 : Int64) (v7 : Int64) (v9 : Int32), AWo G E cX10_lowest 12 (ab_Q G E (embRJ M)) 9 [(0, .long v0), (2, .long v2), (4, .int v4), (5, .long v5), (7, .long v7), (9, .int v9)] [] M (f_X10_lowest_L9 n v0 v2 v4 v5 v7 v9) := by
  intro n
  induction n with
  | zero => intro _ _ _ _ _ _; exact aw_none
  | succ n ih =>
    intro v0 v2 v4 v5 v7 v9
    rw [f_X10_lowest_L9]
    refine aw_iload (i := 9) B 5 (by decide +kernel) rfl ?_
    refine aw_bipush (n := 100) (v := (100 : Int32)) B (by decide +kernel) (by decide) ?_
    refine aw_icmp_ge (off := 31) B 44 (by decide +kernel) (by decide) (fun _ => ?_) (fun _ => ?_)
    · exact aw_sub [0, 1, 2, 3] rfl (w_X10_lowest_b44 hG M B _ _ _ _)
    · refine aw_lload (i := 7) B 4 (by decide +kernel) rfl ?_
      refine aw_lconst (n := 0) (v := (0 : Int64)) B (by decide +kernel) (by decide) ?_
      refine aw_lcmp B (by decide +kernel) ?_
      refine aw_if_eq (off := 24) B 44 (by decide +kernel) (by decide) (fun _ => ?_) (fun _ => ?_)
      · exact aw_sub [0, 1, 2, 3] rfl (w_X10_lowest_b44 hG M B _ _ _ _)
      · refine aw_lload (i := 5) B 3 (by decide +kernel) rfl ?_
        refine aw_lload (i := 7) B 4 (by decide +kernel) rfl ?_
        refine aw_lrem B (by decide +kernel) ?_
        refine aw_ltJ (fun x1 => ?_)
        refine aw_lstore (i := 10) B [(10, .long x1), (0, .long v0), (2, .long v2), (4, .int v4), (5, .long v5), (7, .long v7), (9, .int v9)] (by decide +kernel) (Nat.le_of_ble_eq_true rfl) rfl ?_
        refine aw_lload (i := 7) B 5 (by decide +kernel) rfl ?_
        refine aw_lstore (i := 5) B [(5, .long v7), (10, .long x1), (0, .long v0), (2, .long v2), (4, .int v4), (7, .long v7), (9, .int v9)] (by decide +kernel) (Nat.le_of_ble_eq_true rfl) rfl ?_
        refine aw_lload (i := 10) B 1 (by decide +kernel) rfl ?_
        refine aw_lstore (i := 7) B [(7, .long x1), (5, .long v7), (10, .long x1), (0, .long v0), (2, .long v2), (4, .int v4), (9, .int v9)] (by decide +kernel) (Nat.le_of_ble_eq_true rfl) rfl ?_
        refine aw_iinc (i := 9) (n := 1) B 6 [(9, .int (v9 + 1)), (7, .long x1), (5, .long v7), (10, .long x1), (0, .long v0), (2, .long v2), (4, .int v4)] (by decide +kernel) rfl (Nat.le_of_ble_eq_true rfl) (v9 + 1) (ab_inc (by decide)) rfl ?_
        refine aw_goto (off := -32) B 9 (by decide +kernel) (by decide) ?_
        exact aw_sub [4, 5, 6, 2, 1, 0] rfl (ih _ _ _ _ _ _)
def f_X10_lowest (v0 : Int64) (v2 : Int64) (v4 : Int32) : Option Int64 := f_X10_lowest_L9 FU v0 v2 v4 v2 v0 (0 : Int32)
set_option maxRecDepth 100000 in
set_option maxHeartbeats 4000000 in
theorem w_X10_lowest {G : GW} {E : EE} (hG : ab_ok G) (B : Bx G E RX10 cX10_lowest 12 2 (some .long)) (v0 : Int64) (v2 : Int64) (v4 : Int32) (M : Mem) : AWo G E cX10_lowest 12 (ab_Q G E (embRJ M)) 0 [(0, .long v0), (2, .long v2), (4, .int v4)] [] M (f_X10_lowest v0 v2 v4) := by
  unfold f_X10_lowest
  refine aw_lload_n (k0 := 2) B 1 (by decide +kernel) rfl rfl ?_
  refine aw_lstore (i := 5) B [(5, .long v2), (0, .long v0), (2, .long v2), (4, .int v4)] (by decide +kernel) (Nat.le_of_ble_eq_true rfl) rfl ?_
  refine aw_lload_n (k0 := 0) B 1 (by decide +kernel) rfl rfl ?_
  refine aw_lstore (i := 7) B [(7, .long v0), (5, .long v2), (0, .long v0), (2, .long v2), (4, .int v4)] (by decide +kernel) (Nat.le_of_ble_eq_true rfl) rfl ?_
  refine aw_iconst (n := 0) (v := (0 : Int32)) B (by decide +kernel) (by decide) ?_
  refine aw_istore (i := 9) B [(9, .int (0 : Int32)), (7, .long v0), (5, .long v2), (0, .long v0), (2, .long v2), (4, .int v4)] (by decide +kernel) (Nat.le_of_ble_eq_true rfl) rfl ?_
  exact aw_sub [3, 4, 5, 2, 1, 0] rfl (w_X10_lowest_L9 hG M B FU _ _ _ _ _ _)
theorem c_X10_lowest (l : Launch) {G : GW} (hG : ab_ok G) (v0 : Int64) (v2 : Int64) (v4 : Int32) (M : Mem) : AC l G yX10_lowest cX10_lowest 12 (some .long) 2 [.long v0, .long v2, .int v4] M (embRJ M) (f_X10_lowest v0 v2 v4) := AC.of hG (by decide) (Nat.le_of_ble_eq_true rfl) (fun E hE B => by subst hE; exact w_X10_lowest hG B v0 v2 v4 M)
def f_X10_mean (v1 : Int32) (v2 : Int32) (M : Mem) : Option (Int32 × Mem) := (f_X10_isQuestion v1 M).bind fun x1 => (if x1 = 0 then (some ((-1 : Int32), M)) else (if v2 < 0 then (some ((-1 : Int32), M)) else (if v2 ≤ (1 : Int32) then (f_X8_isFor (M.1 1 0)).bind fun x3 => (if x3 = 0 then (some ((-5 : Int32), M)) else (f_X10_tallied M).bind fun M6 => (f_X8_begin (v1 / (10 : Int32)) (ab_rem v1 (10 : Int32)) M6).bind fun M8 => (f_X7_all_11 M8).bind fun x9 => lt (ab_max (1 : Int32) x9) fun x11 => bI (f_X8_leastSum M8) fun x12 M13 => (f_X10_lowest x12.toInt64 x11.toInt64 v2).bind fun x14 => (some (x14.toInt32, M13))) else (some ((-1 : Int32), M)))))
set_option maxRecDepth 100000 in
set_option maxHeartbeats 4000000 in
theorem w_X10_mean {G : GW} {E : EE} (hG : ab_ok G) (B : Bx G E RX10 cX10_mean 4 128 (some .int)) (v1 : Int32) (v2 : Int32) (M : Mem) : AWo G E cX10_mean 4 (ab_Q G E embI) 0 [(0, .ref 0), (1, .int v1), (2, .int v2)] [] M (f_X10_mean v1 v2 M) := by
  unfold f_X10_mean
  refine aw_aload_n (k0 := 0) B 0 (by decide +kernel) rfl rfl ?_
  refine aw_iload_n (k0 := 1) B 1 (by decide +kernel) rfl rfl ?_
  refine aw_cVR B (c_X10_isQuestion (eLa E) hG v1 M) cvX10_208 rfl rfl (Nat.le_of_ble_eq_true rfl) rfl (Nat.le_of_ble_eq_true rfl) (by decide +kernel) rfl (fun x1 => ?_)
  refine aw_if_eq (off := 12) B 17 (by decide +kernel) (by decide) (fun _ => ?_) (fun _ => ?_)
  · refine aw_iconst (n := -1) (v := (-1 : Int32)) B (by decide +kernel) (by decide) ?_
    exact aw_ireturn B (by decide +kernel) rfl
  · refine aw_iload_n (k0 := 2) B 2 (by decide +kernel) rfl rfl ?_
    refine aw_if_lt (off := 8) B 17 (by decide +kernel) (by decide) (fun _ => ?_) (fun _ => ?_)
    · refine aw_iconst (n := -1) (v := (-1 : Int32)) B (by decide +kernel) (by decide) ?_
      exact aw_ireturn B (by decide +kernel) rfl
    · refine aw_iload_n (k0 := 2) B 2 (by decide +kernel) rfl rfl ?_
      refine aw_iconst (n := 1) (v := (1 : Int32)) B (by decide +kernel) (by decide) ?_
      refine aw_icmp_le (off := 5) B 19 (by decide +kernel) (by decide) (fun _ => ?_) (fun _ => ?_)
      · refine aw_aload_n (k0 := 0) B 0 (by decide +kernel) rfl rfl ?_
        refine aw_getr (c := 0) B lkX10_10 (by decide +kernel) rfl (r := 1) rfl ?_
        refine aw_geti (c := 1) B lkX10_167 (by decide +kernel) rfl ?_
        refine aw_cSR B (c_X8_isFor (eLa E) hG (M.1 1 0) M) csX10_220 (Nat.le_of_ble_eq_true rfl) rfl (Nat.le_of_ble_eq_true rfl) (by decide +kernel) rfl (fun x3 => ?_)
        refine aw_if_ne (off := 6) B 35 (by decide +kernel) (by decide) (fun _ => ?_) (fun _ => ?_)
        · refine aw_aload_n (k0 := 0) B 0 (by decide +kernel) rfl rfl ?_
          refine aw_getr (c := 0) B lkX10_33 (by decide +kernel) rfl (r := 14) rfl ?_
          refine aw_aload_n (k0 := 0) B 0 (by decide +kernel) rfl rfl ?_
          refine aw_cVA B (c_X10_tallied (eLa E) hG M) cvX10_171 rfl rfl (Nat.le_of_ble_eq_true rfl) rfl (Nat.le_of_ble_eq_true rfl) (by decide +kernel) rfl (fun M6 => ?_)
          refine aw_iload_n (k0 := 1) B 1 (by decide +kernel) rfl rfl ?_
          refine aw_bipush (n := 10) (v := (10 : Int32)) B (by decide +kernel) (by decide) ?_
          refine aw_idivK B (by decide +kernel) (by decide) ?_
          refine aw_iload_n (k0 := 1) B 1 (by decide +kernel) rfl rfl ?_
          refine aw_bipush (n := 10) (v := (10 : Int32)) B (by decide +kernel) (by decide) ?_
          refine aw_iremK B (by decide +kernel) (by decide) ?_
          refine aw_cVV B (c_X8_begin (eLa E) hG (v1 / (10 : Int32)) (ab_rem v1 (10 : Int32)) M6) cvX10_223 rfl rfl (Nat.le_of_ble_eq_true rfl) rfl (Nat.le_of_ble_eq_true rfl) (by decide +kernel) rfl (fun M8 => ?_)
          refine aw_iconst (n := 1) (v := (1 : Int32)) B (by decide +kernel) (by decide) ?_
          refine aw_aload_n (k0 := 0) B 0 (by decide +kernel) rfl rfl ?_
          refine aw_getr (c := 0) B lkX10_26 (by decide +kernel) rfl (r := 11) rfl ?_
          refine aw_cVR B (c_X7_all_11 (eLa E) hG M8) cvX10_175 rfl rfl (Nat.le_of_ble_eq_true rfl) rfl (Nat.le_of_ble_eq_true rfl) (by decide +kernel) rfl (fun x9 => ?_)
          refine aw_max B lxX10_230 (by decide +kernel) (Nat.le_of_ble_eq_true rfl) (Nat.le_of_ble_eq_true rfl) ?_
          refine aw_ltI (fun x11 => ?_)
          refine aw_istore_n (k0 := 3) B [(3, .int x11), (0, .ref 0), (1, .int v1), (2, .int v2)] (by decide +kernel) rfl (Nat.le_of_ble_eq_true rfl) rfl ?_
          refine aw_aload_n (k0 := 0) B 1 (by decide +kernel) rfl rfl ?_
          refine aw_getr (c := 0) B lkX10_33 (by decide +kernel) rfl (r := 14) rfl ?_
          refine aw_cVI B (c_X8_leastSum (eLa E) hG M8) cvX10_235 rfl rfl (Nat.le_of_ble_eq_true rfl) rfl (Nat.le_of_ble_eq_true rfl) (by decide +kernel) rfl (fun x12 M13 => ?_)
          refine aw_i2l B (by decide +kernel) ?_
          refine aw_iload_n (k0 := 3) B 0 (by decide +kernel) rfl rfl ?_
          refine aw_i2l B (by decide +kernel) ?_
          refine aw_iload_n (k0 := 2) B 3 (by decide +kernel) rfl rfl ?_
          refine aw_cSL B (c_X10_lowest (eLa E) hG x12.toInt64 x11.toInt64 v2 M13) csX10_238 (Nat.le_of_ble_eq_true rfl) rfl (Nat.le_of_ble_eq_true rfl) (by decide +kernel) rfl (fun x14 => ?_)
          refine aw_l2i B (by decide +kernel) ?_
          exact aw_ireturn B (by decide +kernel) rfl
        · refine aw_bipush (n := -5) (v := (-5 : Int32)) B (by decide +kernel) (by decide) ?_
          exact aw_ireturn B (by decide +kernel) rfl
      · refine aw_iconst (n := -1) (v := (-1 : Int32)) B (by decide +kernel) (by decide) ?_
        exact aw_ireturn B (by decide +kernel) rfl
theorem c_X10_mean (l : Launch) {G : GW} (hG : ab_ok G) (v1 : Int32) (v2 : Int32) (M : Mem) : AC l G yX10_mean cX10_mean 4 (some .int) 128 [.ref 0, .int v1, .int v2] M embI (f_X10_mean v1 v2 M) := AC.of hG (by decide) (Nat.le_of_ble_eq_true rfl) (fun E hE B => by subst hE; exact w_X10_mean hG B v1 v2 M)
def f_X11_togetherOf_b104 (rc : Int32 → Mem → Option Int32) (k27 : Int32 → Int32 → Int32 → Int32 → Option Int32) (M : Mem) (v1 : Int32) (v2 : Int32) (v3 : Int32) (v4 : Int32) : Option Int32 := k27 v1 v2 v3 (v4 + 1)
set_option maxRecDepth 100000 in
set_option maxHeartbeats 4000000 in
theorem w_X11_togetherOf_b104 {G : GW} {E : EE} (hG : ab_ok G) (M : Mem) {k27 : Int32 → Int32 → Int32 → Int32 → Option Int32} {rc : Int32 → Mem → Option Int32} (lv0 : Nat) (hl0 : 3 ≤ lv0) (hrc : ∀ (v1 : Int32) (M : Mem), AC (eLa E) G yX11_togetherOf cX11_togetherOf 8 (some .int) lv0 [.ref 47, .int v1] M (embRI M) (rc v1 M)) (B : Bx G E RX11 cX11_togetherOf 8 (lv0 + 1) (some .int)) (hk27 : ∀ (v1 : Int32) (v2 : Int32) (v3 : Int32) (v4 : Int32), AWo G E cX11_togetherOf 8 (ab_Q G E (embRI M)) 27 [(0, .ref 47), (1, .int v1), (2, .int v2), (3, .int v3), (4, .int v4)] [] M (k27 v1 v2 v3 v4)) (v1 : Int32) (v2 : Int32) (v3 : Int32) (v4 : Int32) : AWo G E cX11_togetherOf 8 (ab_Q G E (embRI M)) 104 [(0, .ref 47), (1, .int v1), (2, .int v2), (3, .int v3), (4, .int v4)] [] M (f_X11_togetherOf_b104 rc k27 M v1 v2 v3 v4) := by
  unfold f_X11_togetherOf_b104
  refine aw_iinc (i := 4) (n := 1) B 4 [(4, .int (v4 + 1)), (0, .ref 47), (1, .int v1), (2, .int v2), (3, .int v3)] (by decide +kernel) rfl (Nat.le_of_ble_eq_true rfl) (v4 + 1) (ab_inc (by decide)) rfl ?_
  refine aw_goto (off := -80) B 27 (by decide +kernel) (by decide) ?_
  exact aw_sub [1, 2, 3, 4, 0] rfl (hk27 _ _ _ _)
def f_X11_togetherOf_b103 (rc : Int32 → Mem → Option Int32) (k27 : Int32 → Int32 → Int32 → Int32 → Option Int32) (M : Mem) (v1 : Int32) (v3 : Int32) (v4 : Int32) (s0 : Int32) : Option Int32 := f_X11_togetherOf_b104 rc k27 M v1 s0 v3 v4
set_option maxRecDepth 100000 in
set_option maxHeartbeats 4000000 in
theorem w_X11_togetherOf_b103 {G : GW} {E : EE} (hG : ab_ok G) (M : Mem) {k27 : Int32 → Int32 → Int32 → Int32 → Option Int32} {rc : Int32 → Mem → Option Int32} (lv0 : Nat) (hl0 : 3 ≤ lv0) (hrc : ∀ (v1 : Int32) (M : Mem), AC (eLa E) G yX11_togetherOf cX11_togetherOf 8 (some .int) lv0 [.ref 47, .int v1] M (embRI M) (rc v1 M)) (B : Bx G E RX11 cX11_togetherOf 8 (lv0 + 1) (some .int)) (hk27 : ∀ (v1 : Int32) (v2 : Int32) (v3 : Int32) (v4 : Int32), AWo G E cX11_togetherOf 8 (ab_Q G E (embRI M)) 27 [(0, .ref 47), (1, .int v1), (2, .int v2), (3, .int v3), (4, .int v4)] [] M (k27 v1 v2 v3 v4)) (v1 : Int32) (v3 : Int32) (v4 : Int32) (s0 : Int32) : AWo G E cX11_togetherOf 8 (ab_Q G E (embRI M)) 103 [(0, .ref 47), (1, .int v1), (3, .int v3), (4, .int v4)] [.int s0] M (f_X11_togetherOf_b103 rc k27 M v1 v3 v4 s0) := by
  unfold f_X11_togetherOf_b103
  refine aw_istore_n (k0 := 2) B [(2, .int s0), (0, .ref 47), (1, .int v1), (3, .int v3), (4, .int v4)] (by decide +kernel) rfl (Nat.le_of_ble_eq_true rfl) rfl ?_
  exact aw_sub [1, 2, 0, 3, 4] rfl (w_X11_togetherOf_b104 hG M lv0 hl0 hrc B hk27 _ _ _ _)
def f_X11_togetherOf_b97 (rc : Int32 → Mem → Option Int32) (k27 : Int32 → Int32 → Int32 → Int32 → Option Int32) (M : Mem) (v1 : Int32) (v3 : Int32) (v4 : Int32) (v7 : Int32) : Option Int32 := f_X11_togetherOf_b103 rc k27 M v1 v3 v4 v7
set_option maxRecDepth 100000 in
set_option maxHeartbeats 4000000 in
theorem w_X11_togetherOf_b97 {G : GW} {E : EE} (hG : ab_ok G) (M : Mem) {k27 : Int32 → Int32 → Int32 → Int32 → Option Int32} {rc : Int32 → Mem → Option Int32} (lv0 : Nat) (hl0 : 3 ≤ lv0) (hrc : ∀ (v1 : Int32) (M : Mem), AC (eLa E) G yX11_togetherOf cX11_togetherOf 8 (some .int) lv0 [.ref 47, .int v1] M (embRI M) (rc v1 M)) (B : Bx G E RX11 cX11_togetherOf 8 (lv0 + 1) (some .int)) (hk27 : ∀ (v1 : Int32) (v2 : Int32) (v3 : Int32) (v4 : Int32), AWo G E cX11_togetherOf 8 (ab_Q G E (embRI M)) 27 [(0, .ref 47), (1, .int v1), (2, .int v2), (3, .int v3), (4, .int v4)] [] M (k27 v1 v2 v3 v4)) (v1 : Int32) (v3 : Int32) (v4 : Int32) (v7 : Int32) : AWo G E cX11_togetherOf 8 (ab_Q G E (embRI M)) 97 [(0, .ref 47), (1, .int v1), (3, .int v3), (4, .int v4), (7, .int v7)] [] M (f_X11_togetherOf_b97 rc k27 M v1 v3 v4 v7) := by
  unfold f_X11_togetherOf_b97
  refine aw_iload (i := 7) B 4 (by decide +kernel) rfl ?_
  refine aw_goto (off := 4) B 103 (by decide +kernel) (by decide) ?_
  exact aw_sub [0, 1, 2, 3] rfl (w_X11_togetherOf_b103 hG M lv0 hl0 hrc B hk27 _ _ _ _)
def f_X11_togetherOf_L27 (rc : Int32 → Mem → Option Int32) (k14 : Int32 → Int32 → Int32 → Option Int32) (M : Mem) : Nat → Int32 → Int32 → Int32 → Int32 → Option Int32
  | 0, _, _, _, _ => none
  | n + 1, v1, v2, v3, v4 => (if (M.1 47 6) ≤ v4 then k14 v1 v2 (v3 + 1) else (f_X11_those v1 v3 v4 M).bind fun x1 => lt (v1 &&& (x1 ^^^ (-1 : Int32))) fun x3 => (if x1 = 0 then f_X11_togetherOf_b104 rc (fun a0 a1 a2 a3 => f_X11_togetherOf_L27 rc k14 M n a0 a1 a2 a3) M v1 v2 v3 v4 else (if x3 = 0 then f_X11_togetherOf_b104 rc (fun a0 a1 a2 a3 => f_X11_togetherOf_L27 rc k14 M n a0 a1 a2 a3) M v1 v2 v3 v4 else (f_X11_bitsOf v1).bind fun x4 => (rc x1 M).bind fun x6 => (rc x3 M).bind fun x8 => lt ((x4 + x6) + x8) fun x10 => (if v2 < 0 then f_X11_togetherOf_b97 rc (fun a0 a1 a2 a3 => f_X11_togetherOf_L27 rc k14 M n a0 a1 a2 a3) M v1 v3 v4 x10 else (if v2 ≤ x10 then f_X11_togetherOf_b103 rc (fun a0 a1 a2 a3 => f_X11_togetherOf_L27 rc k14 M n a0 a1 a2 a3) M v1 v3 v4 v2 else f_X11_togetherOf_b97 rc (fun a0 a1 a2 a3 => f_X11_togetherOf_L27 rc k14 M n a0 a1 a2 a3) M v1 v3 v4 x10)))))
set_option maxRecDepth 100000 in
set_option maxHeartbeats 4000000 in
theorem w_X11_togetherOf_L27 {G : GW} {E : EE} (hG : ab_ok G) (M : Mem) {k14 : Int32 → Int32 → Int32 → Option Int32} {rc : Int32 → Mem → Option Int32} (lv0 : Nat) (hl0 : 3 ≤ lv0) (hrc : ∀ (v1 : Int32) (M : Mem), AC (eLa E) G yX11_togetherOf cX11_togetherOf 8 (some .int) lv0 [.ref 47, .int v1] M (embRI M) (rc v1 M)) (B : Bx G E RX11 cX11_togetherOf 8 (lv0 + 1) (some .int)) (hk14 : ∀ (v1 : Int32) (v2 : Int32) (v3 : Int32), AWo G E cX11_togetherOf 8 (ab_Q G E (embRI M)) 14 [(0, .ref 47), (1, .int v1), (2, .int v2), (3, .int v3)] [] M (k14 v1 v2 v3)) : ∀ (n : Nat) (v1 : Int32) (v2 : Int32) (v3 : Int32) (v4 : Int32), AWo G E cX11_togetherOf 8 (ab_Q G E (embRI M)) 27 [(0, .ref 47), (1, .int v1), (2, .int v2), (3, .int v3), (4, .int v4)] [] M (f_X11_togetherOf_L27 rc k14 M n v1 v2 v3 v4) := by
  intro n
  induction n with
  | zero => intro _ _ _ _; exact aw_none
  | succ n ih =>
    intro v1 v2 v3 v4
    rw [f_X11_togetherOf_L27]
    refine aw_iload (i := 4) B 4 (by decide +kernel) rfl ?_
    refine aw_aload_n (k0 := 0) B 0 (by decide +kernel) rfl rfl ?_
    refine aw_geti (c := 47) B lkX11_109 (by decide +kernel) rfl ?_
    refine aw_icmp_ge (off := 77) B 110 (by decide +kernel) (by decide) (fun _ => ?_) (fun _ => ?_)
    · refine aw_iinc (i := 3) (n := 1) B 3 [(3, .int (v3 + 1)), (0, .ref 47), (1, .int v1), (2, .int v2), (4, .int v4)] (by decide +kernel) rfl (Nat.le_of_ble_eq_true rfl) (v3 + 1) (ab_inc (by decide)) rfl ?_
      refine aw_goto (off := -99) B 14 (by decide +kernel) (by decide) ?_
      exact aw_sub [1, 2, 3, 0] rfl (hk14 _ _ _)
    · refine aw_aload_n (k0 := 0) B 0 (by decide +kernel) rfl rfl ?_
      refine aw_iload_n (k0 := 1) B 1 (by decide +kernel) rfl rfl ?_
      refine aw_iload_n (k0 := 3) B 3 (by decide +kernel) rfl rfl ?_
      refine aw_iload (i := 4) B 4 (by decide +kernel) rfl ?_
      refine aw_cVR B (c_X11_those (eLa E) hG v1 v3 v4 M) cvX11_267 rfl rfl (by have hF : FD = 40 := rfl; omega) rfl (Nat.le_of_ble_eq_true rfl) (by decide +kernel) rfl (fun x1 => ?_)
      refine aw_istore (i := 5) B [(5, .int x1), (0, .ref 47), (1, .int v1), (2, .int v2), (3, .int v3), (4, .int v4)] (by decide +kernel) (Nat.le_of_ble_eq_true rfl) rfl ?_
      refine aw_iload_n (k0 := 1) B 2 (by decide +kernel) rfl rfl ?_
      refine aw_iload (i := 5) B 0 (by decide +kernel) rfl ?_
      refine aw_iconst (n := -1) (v := (-1 : Int32)) B (by decide +kernel) (by decide) ?_
      refine aw_ixor B (by decide +kernel) ?_
      refine aw_iand B (by decide +kernel) ?_
      refine aw_ltI (fun x3 => ?_)
      refine aw_istore (i := 6) B [(6, .int x3), (5, .int x1), (0, .ref 47), (1, .int v1), (2, .int v2), (3, .int v3), (4, .int v4)] (by decide +kernel) (Nat.le_of_ble_eq_true rfl) rfl ?_
      refine aw_iload (i := 5) B 1 (by decide +kernel) rfl ?_
      refine aw_if_eq (off := 48) B 104 (by decide +kernel) (by decide) (fun _ => ?_) (fun _ => ?_)
      · exact aw_sub [2, 3, 4, 5, 6] rfl (w_X11_togetherOf_b104 hG M lv0 hl0 hrc B ih _ _ _ _)
      · refine aw_iload (i := 6) B 0 (by decide +kernel) rfl ?_
        refine aw_if_ne (off := 6) B 67 (by decide +kernel) (by decide) (fun _ => ?_) (fun _ => ?_)
        · refine aw_iload_n (k0 := 1) B 3 (by decide +kernel) rfl rfl ?_
          refine aw_cSR B (c_X11_bitsOf (eLa E) hG v1 M) csX11_258 (by have hF : FD = 40 := rfl; omega) rfl (Nat.le_of_ble_eq_true rfl) (by decide +kernel) rfl (fun x4 => ?_)
          refine aw_aload_n (k0 := 0) B 2 (by decide +kernel) rfl rfl ?_
          refine aw_iload (i := 5) B 1 (by decide +kernel) rfl ?_
          refine aw_cVR B (hrc x1 M) cvX11_273 rfl rfl (by have hF : FD = 40 := rfl; omega) rfl (Nat.le_of_ble_eq_true rfl) (by decide +kernel) rfl (fun x6 => ?_)
          refine aw_iadd B (by decide +kernel) ?_
          refine aw_aload_n (k0 := 0) B 2 (by decide +kernel) rfl rfl ?_
          refine aw_iload (i := 6) B 0 (by decide +kernel) rfl ?_
          refine aw_cVR B (hrc x3 M) cvX11_273 rfl rfl (by have hF : FD = 40 := rfl; omega) rfl (Nat.le_of_ble_eq_true rfl) (by decide +kernel) rfl (fun x8 => ?_)
          refine aw_iadd B (by decide +kernel) ?_
          refine aw_ltI (fun x10 => ?_)
          refine aw_istore (i := 7) B [(7, .int x10), (6, .int x3), (5, .int x1), (0, .ref 47), (1, .int v1), (2, .int v2), (3, .int v3), (4, .int v4)] (by decide +kernel) (Nat.le_of_ble_eq_true rfl) rfl ?_
          refine aw_iload_n (k0 := 2) B 5 (by decide +kernel) rfl rfl ?_
          refine aw_if_lt (off := 9) B 97 (by decide +kernel) (by decide) (fun _ => ?_) (fun _ => ?_)
          · exact aw_sub [3, 4, 6, 7, 0] rfl (w_X11_togetherOf_b97 hG M lv0 hl0 hrc B ih _ _ _ _)
          · refine aw_iload (i := 7) B 0 (by decide +kernel) rfl ?_
            refine aw_iload_n (k0 := 2) B 5 (by decide +kernel) rfl rfl ?_
            refine aw_icmp_ge (off := 8) B 102 (by decide +kernel) (by decide) (fun _ => ?_) (fun _ => ?_)
            · refine aw_iload_n (k0 := 2) B 5 (by decide +kernel) rfl rfl ?_
              exact aw_sub [3, 4, 6, 7] rfl (w_X11_togetherOf_b103 hG M lv0 hl0 hrc B ih _ _ _ _)
            · exact aw_sub [3, 4, 6, 7, 0] rfl (w_X11_togetherOf_b97 hG M lv0 hl0 hrc B ih _ _ _ _)
        · refine aw_goto (off := 40) B 104 (by decide +kernel) (by decide) ?_
          exact aw_sub [2, 3, 4, 5, 6] rfl (w_X11_togetherOf_b104 hG M lv0 hl0 hrc B ih _ _ _ _)
def f_X11_togetherOf_L14 (rc : Int32 → Mem → Option Int32) (M : Mem) : Nat → Int32 → Int32 → Int32 → Option Int32
  | 0, _, _, _ => none
  | n + 1, v1, v2, v3 => (if (M.1 47 6) ≤ v3 then (some v2) else lt (v3 + (1 : Int32)) fun x1 => f_X11_togetherOf_L27 rc (fun a0 a1 a2 => f_X11_togetherOf_L14 rc M n a0 a1 a2) M FU v1 v2 v3 x1)
set_option maxRecDepth 100000 in
set_option maxHeartbeats 4000000 in
theorem w_X11_togetherOf_L14 {G : GW} {E : EE} (hG : ab_ok G) (M : Mem) {rc : Int32 → Mem → Option Int32} (lv0 : Nat) (hl0 : 3 ≤ lv0) (hrc : ∀ (v1 : Int32) (M : Mem), AC (eLa E) G yX11_togetherOf cX11_togetherOf 8 (some .int) lv0 [.ref 47, .int v1] M (embRI M) (rc v1 M)) (B : Bx G E RX11 cX11_togetherOf 8 (lv0 + 1) (some .int)) : ∀ (n : Nat) (v1 : Int32) (v2 : Int32) (v3 : Int32), AWo G E cX11_togetherOf 8 (ab_Q G E (embRI M)) 14 [(0, .ref 47), (1, .int v1), (2, .int v2), (3, .int v3)] [] M (f_X11_togetherOf_L14 rc M n v1 v2 v3) := by
  intro n
  induction n with
  | zero => intro _ _ _; exact aw_none
  | succ n ih =>
    intro v1 v2 v3
    rw [f_X11_togetherOf_L14]
    refine aw_iload_n (k0 := 3) B 3 (by decide +kernel) rfl rfl ?_
    refine aw_aload_n (k0 := 0) B 0 (by decide +kernel) rfl rfl ?_
    refine aw_geti (c := 47) B lkX11_109 (by decide +kernel) rfl ?_
    refine aw_icmp_ge (off := 97) B 116 (by decide +kernel) (by decide) (fun _ => ?_) (fun _ => ?_)
    · refine aw_iload_n (k0 := 2) B 2 (by decide +kernel) rfl rfl ?_
      exact aw_ireturn B (by decide +kernel) rfl
    · refine aw_iload_n (k0 := 3) B 3 (by decide +kernel) rfl rfl ?_
      refine aw_iconst (n := 1) (v := (1 : Int32)) B (by decide +kernel) (by decide) ?_
      refine aw_iadd B (by decide +kernel) ?_
      refine aw_ltI (fun x1 => ?_)
      refine aw_istore (i := 4) B [(4, .int x1), (0, .ref 47), (1, .int v1), (2, .int v2), (3, .int v3)] (by decide +kernel) (Nat.le_of_ble_eq_true rfl) rfl ?_
      exact aw_sub [1, 2, 3, 4, 0] rfl (w_X11_togetherOf_L27 hG M lv0 hl0 hrc B ih FU _ _ _ _)
def f_X11_togetherOf_o (rc : Int32 → Mem → Option Int32) (v1 : Int32) (M : Mem) : Option Int32 := (f_X11_isAnswered v1 M).bind fun x1 => (if x1 = 0 then f_X11_togetherOf_L14 rc M FU v1 (-1 : Int32) (0 : Int32) else (some (0 : Int32)))
set_option maxRecDepth 100000 in
set_option maxHeartbeats 4000000 in
theorem w_X11_togetherOf_o {G : GW} {E : EE} (hG : ab_ok G) {rc : Int32 → Mem → Option Int32} (lv0 : Nat) (hl0 : 3 ≤ lv0) (hrc : ∀ (v1 : Int32) (M : Mem), AC (eLa E) G yX11_togetherOf cX11_togetherOf 8 (some .int) lv0 [.ref 47, .int v1] M (embRI M) (rc v1 M)) (B : Bx G E RX11 cX11_togetherOf 8 (lv0 + 1) (some .int)) (v1 : Int32) (M : Mem) : AWo G E cX11_togetherOf 8 (ab_Q G E (embRI M)) 0 [(0, .ref 47), (1, .int v1)] [] M (f_X11_togetherOf_o rc v1 M) := by
  unfold f_X11_togetherOf_o
  refine aw_aload_n (k0 := 0) B 0 (by decide +kernel) rfl rfl ?_
  refine aw_iload_n (k0 := 1) B 1 (by decide +kernel) rfl rfl ?_
  refine aw_cVR B (c_X11_isAnswered (eLa E) hG v1 M) cvX11_264 rfl rfl (by have hF : FD = 40 := rfl; omega) rfl (Nat.le_of_ble_eq_true rfl) (by decide +kernel) rfl (fun x1 => ?_)
  refine aw_if_eq (off := 5) B 10 (by decide +kernel) (by decide) (fun _ => ?_) (fun _ => ?_)
  · refine aw_iconst (n := -1) (v := (-1 : Int32)) B (by decide +kernel) (by decide) ?_
    refine aw_istore_n (k0 := 2) B [(2, .int (-1 : Int32)), (0, .ref 47), (1, .int v1)] (by decide +kernel) rfl (Nat.le_of_ble_eq_true rfl) rfl ?_
    refine aw_iconst (n := 0) (v := (0 : Int32)) B (by decide +kernel) (by decide) ?_
    refine aw_istore_n (k0 := 3) B [(3, .int (0 : Int32)), (2, .int (-1 : Int32)), (0, .ref 47), (1, .int v1)] (by decide +kernel) rfl (Nat.le_of_ble_eq_true rfl) rfl ?_
    exact aw_sub [2, 3, 1, 0] rfl (w_X11_togetherOf_L14 hG M lv0 hl0 hrc B FU _ _ _)
  · refine aw_iconst (n := 0) (v := (0 : Int32)) B (by decide +kernel) (by decide) ?_
    exact aw_ireturn B (by decide +kernel) rfl
def f_X11_togetherOf : Nat → Int32 → Mem → Option Int32
  | 0, _, _ => none
  | d + 1, v1, M => f_X11_togetherOf_o (fun v1 M => f_X11_togetherOf d v1 M) v1 M
theorem c_X11_togetherOf (l : Launch) {G : GW} (hG : ab_ok G) : ∀ (d : Nat) (v1 : Int32) (M : Mem), AC l G yX11_togetherOf cX11_togetherOf 8 (some .int) (3 + 1 * d) [.ref 47, .int v1] M (embRI M) (f_X11_togetherOf d v1 M)
  | 0, _, _ => fun a ha => by cases ha
  | d + 1, v1, M => AC.of hG (by decide) (Nat.le_of_ble_eq_true rfl) (fun E hE B => by
    subst hE
    have e : 3 + 1 * (d + 1) = 3 + 1 * d + 1 := by omega
    rw [e] at B
    exact w_X11_togetherOf_o hG (3 + 1 * d) (Nat.le_add_right _ _) (fun v1 M => c_X11_togetherOf (eLa E) hG d v1 M) B v1 M)
