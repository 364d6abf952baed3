def f_X0_priceBehind_b65 (k6 : Int32 → Int32 → Int32 → Int32 → Option Int32) (M : Mem) (v2 : Int32) (v3 : Int32) (v4 : Int32) (v5 : Int32) : Option Int32 := k6 v2 v3 v4 (v5 + 1)
set_option maxRecDepth 100000 in
set_option maxHeartbeats 4000000 in
theorem w_X0_priceBehind_b65 {G : GW} {E : EE} (hG : ab_ok G) (M : Mem) {k6 : Int32 → Int32 → Int32 → Int32 → Option Int32} (B : Bx G E RX0 cX0_priceBehind 6 2 (some .int)) (hk6 : ∀ (v2 : Int32) (v3 : Int32) (v4 : Int32) (v5 : Int32), AWo G E cX0_priceBehind 6 (ab_Q G E (embRI M)) 6 [(1, .ref 1), (2, .int v2), (3, .int v3), (4, .int v4), (5, .int v5)] [] M (k6 v2 v3 v4 v5)) (v2 : Int32) (v3 : Int32) (v4 : Int32) (v5 : Int32) : AWo G E cX0_priceBehind 6 (ab_Q G E (embRI M)) 65 [(1, .ref 1), (2, .int v2), (3, .int v3), (4, .int v4), (5, .int v5)] [] M (f_X0_priceBehind_b65 k6 M v2 v3 v4 v5) := by
  unfold f_X0_priceBehind_b65
  refine aw_iinc (i := 5) (n := 1) B 4 [(5, .int (v5 + 1)), (1, .ref 1), (2, .int v2), (3, .int v3), (4, .int v4)] (by decide +kernel) rfl (Nat.le_of_ble_eq_true rfl) (v5 + 1) (ab_inc (by decide)) rfl ?_
  refine aw_goto (off := -62) B 6 (by decide +kernel) (by decide) ?_
  exact aw_sub [1, 2, 3, 4, 0] rfl (hk6 _ _ _ _)
def f_X0_priceBehind_L6 (M : Mem) : Nat → Int32 → Int32 → Int32 → Int32 → Option Int32
  | 0, _, _, _, _ => none
  | n + 1, v2, v3, v4, v5 => (if (M.1 1 1) ≤ v5 then (some v4) else ck (okI 3 v5) ((if (M.1 3 v5.toNatClampNeg) = v2 then ck (okI 5 v5) ((if (M.1 5 v5.toNatClampNeg) = (1 : Int32) then ck (okI 4 v5) ((if ((ab_shr v3 (M.1 4 v5.toNatClampNeg)) &&& (1 : Int32)) = (1 : Int32) then lt (v4 + ((4096 : Int32) + (ab_shl (1 : Int32) v5))) fun x1 => f_X0_priceBehind_b65 (fun a0 a1 a2 a3 => f_X0_priceBehind_L6 M n a0 a1 a2 a3) M v2 v3 x1 v5 else f_X0_priceBehind_b65 (fun a0 a1 a2 a3 => f_X0_priceBehind_L6 M n a0 a1 a2 a3) M v2 v3 v4 v5)) else f_X0_priceBehind_b65 (fun a0 a1 a2 a3 => f_X0_priceBehind_L6 M n a0 a1 a2 a3) M v2 v3 v4 v5)) else f_X0_priceBehind_b65 (fun a0 a1 a2 a3 => f_X0_priceBehind_L6 M n a0 a1 a2 a3) M v2 v3 v4 v5)))
set_option maxRecDepth 100000 in
set_option maxHeartbeats 4000000 in
theorem w_X0_priceBehind_L6 {G : GW} {E : EE} (hG : ab_ok G) (M : Mem) (B : Bx G E RX0 cX0_priceBehind 6 2 (some .int)) : ∀ (n : Nat) (v2 : Int32) (v3 : Int32) (v4 : Int32) (v5 : Int32), AWo G E cX0_priceBehind 6 (ab_Q G E (embRI M)) 6 [(1, .ref 1), (2, .int v2), (3, .int v3), (4, .int v4), (5, .int v5)] [] M (f_X0_priceBehind_L6 M n v2 v3 v4 v5) := by
  intro n
  induction n with
  | zero => intro _ _ _ _; exact aw_none
  | succ n ih =>
    intro v2 v3 v4 v5
    rw [f_X0_priceBehind_L6]
    refine aw_iload (i := 5) B 4 (by decide +kernel) rfl ?_
    refine aw_aload_n (k0 := 1) B 0 (by decide +kernel) rfl rfl ?_
    refine aw_geti (c := 1) B lkX0_38 (by decide +kernel) rfl ?_
    refine aw_icmp_ge (off := 59) B 71 (by decide +kernel) (by decide) (fun _ => ?_) (fun _ => ?_)
    · refine aw_iload (i := 4) B 3 (by decide +kernel) rfl ?_
      exact aw_ireturn B (by decide +kernel) rfl
    · refine aw_aload_n (k0 := 1) B 0 (by decide +kernel) rfl rfl ?_
      refine aw_getr (c := 1) B lkX0_41 (by decide +kernel) rfl (r := 3) rfl ?_
      refine aw_iload (i := 5) B 4 (by decide +kernel) rfl ?_
      refine aw_iaload B (by decide +kernel) ?_
      refine aw_iload_n (k0 := 2) B 1 (by decide +kernel) rfl rfl ?_
      refine aw_icmp_ne (off := 42) B 65 (by decide +kernel) (by decide) (fun _ => ?_) (fun _ => ?_)
      · exact w_X0_priceBehind_b65 hG M B ih _ _ _ _
      · refine aw_aload_n (k0 := 1) B 0 (by decide +kernel) rfl rfl ?_
        refine aw_getr (c := 1) B lkX0_44 (by decide +kernel) rfl (r := 5) rfl ?_
        refine aw_iload (i := 5) B 4 (by decide +kernel) rfl ?_
        refine aw_iaload B (by decide +kernel) ?_
        refine aw_iconst (n := 1) (v := (1 : Int32)) B (by decide +kernel) (by decide) ?_
        refine aw_icmp_ne (off := 31) B 65 (by decide +kernel) (by decide) (fun _ => ?_) (fun _ => ?_)
        · exact w_X0_priceBehind_b65 hG M B ih _ _ _ _
        · refine aw_iload_n (k0 := 3) B 2 (by decide +kernel) rfl rfl ?_
          refine aw_aload_n (k0 := 1) B 0 (by decide +kernel) rfl rfl ?_
          refine aw_getr (c := 1) B lkX0_47 (by decide +kernel) rfl (r := 4) rfl ?_
          refine aw_iload (i := 5) B 4 (by decide +kernel) rfl ?_
          refine aw_iaload B (by decide +kernel) ?_
          refine aw_ishr B (by decide +kernel) ?_
          refine aw_iconst (n := 1) (v := (1 : Int32)) B (by decide +kernel) (by decide) ?_
          refine aw_iand B (by decide +kernel) ?_
          refine aw_iconst (n := 1) (v := (1 : Int32)) B (by decide +kernel) (by decide) ?_
          refine aw_icmp_ne (off := 16) B 65 (by decide +kernel) (by decide) (fun _ => ?_) (fun _ => ?_)
          · exact w_X0_priceBehind_b65 hG M B ih _ _ _ _
          · refine aw_iload (i := 4) B 3 (by decide +kernel) rfl ?_
            refine aw_sipush (n := 4096) (v := (4096 : Int32)) B (by decide +kernel) (by decide) ?_
            refine aw_iconst (n := 1) (v := (1 : Int32)) B (by decide +kernel) (by decide) ?_
            refine aw_iload (i := 5) B 4 (by decide +kernel) rfl ?_
            refine aw_ishl B (by decide +kernel) ?_
            refine aw_iadd B (by decide +kernel) ?_
            refine aw_iadd B (by decide +kernel) ?_
            refine aw_ltI (fun x1 => ?_)
            refine aw_istore (i := 4) B [(4, .int x1), (1, .ref 1), (2, .int v2), (3, .int v3), (5, .int v5)] (by decide +kernel) (Nat.le_of_ble_eq_true rfl) rfl ?_
            exact aw_sub [1, 2, 3, 0, 4] rfl (w_X0_priceBehind_b65 hG M B ih _ _ _ _)
def f_X0_priceBehind (v2 : Int32) (v3 : Int32) (M : Mem) : Option Int32 := f_X0_priceBehind_L6 M FU v2 v3 (0 : Int32) (0 : Int32)
set_option maxRecDepth 100000 in
set_option maxHeartbeats 4000000 in
theorem w_X0_priceBehind {G : GW} {E : EE} (hG : ab_ok G) (B : Bx G E RX0 cX0_priceBehind 6 2 (some .int)) (v2 : Int32) (v3 : Int32) (M : Mem) : AWo G E cX0_priceBehind 6 (ab_Q G E (embRI M)) 0 [(0, .ref 20), (1, .ref 1), (2, .int v2), (3, .int v3)] [] M (f_X0_priceBehind v2 v3 M) := by
  unfold f_X0_priceBehind
  refine aw_iconst (n := 0) (v := (0 : Int32)) B (by decide +kernel) (by decide) ?_
  refine aw_istore (i := 4) B [(4, .int (0 : Int32)), (0, .ref 20), (1, .ref 1), (2, .int v2), (3, .int v3)] (by decide +kernel) (Nat.le_of_ble_eq_true rfl) rfl ?_
  refine aw_iconst (n := 0) (v := (0 : Int32)) B (by decide +kernel) (by decide) ?_
  refine aw_istore (i := 5) B [(5, .int (0 : Int32)), (4, .int (0 : Int32)), (0, .ref 20), (1, .ref 1), (2, .int v2), (3, .int v3)] (by decide +kernel) (Nat.le_of_ble_eq_true rfl) rfl ?_
  exact aw_sub [3, 4, 5, 1, 0] rfl (w_X0_priceBehind_L6 hG M B FU _ _ _ _)
theorem c_X0_priceBehind (l : Launch) {G : GW} (hG : ab_ok G) (v2 : Int32) (v3 : Int32) (M : Mem) : AC l G yX0_priceBehind cX0_priceBehind 6 (some .int) 2 [.ref 20, .ref 1, .int v2, .int v3] M (embRI M) (f_X0_priceBehind v2 v3 M) := AC.of hG (by decide) (Nat.le_of_ble_eq_true rfl) (fun E hE B => by subst hE; exact w_X0_priceBehind hG B v2 v3 M)
def f_X0_fewestFalse_b97 (k39 : Int32 → Int32 → Int32 → Mem → Option (Int32 × Mem)) (v2 : Int32) (v3 : Int32) (v4 : Int32) (M : Mem) : Option (Int32 × Mem) := k39 v2 v3 (v4 + 1) M
set_option maxRecDepth 100000 in
set_option maxHeartbeats 4000000 in
theorem w_X0_fewestFalse_b97 {G : GW} {E : EE} (hG : ab_ok G) {k39 : Int32 → Int32 → Int32 → Mem → Option (Int32 × Mem)} (B : Bx G E RX0 cX0_fewestFalse 6 4 (some .int)) (hk39 : ∀ (v2 : Int32) (v3 : Int32) (v4 : Int32) (M : Mem), AWo G E cX0_fewestFalse 6 (ab_Q G E embI) 39 [(0, .ref 20), (1, .ref 1), (2, .int v2), (3, .int v3), (4, .int v4)] [] M (k39 v2 v3 v4 M)) (v2 : Int32) (v3 : Int32) (v4 : Int32) (M : Mem) : AWo G E cX0_fewestFalse 6 (ab_Q G E embI) 97 [(0, .ref 20), (1, .ref 1), (2, .int v2), (3, .int v3), (4, .int v4)] [] M (f_X0_fewestFalse_b97 k39 v2 v3 v4 M) := by
  unfold f_X0_fewestFalse_b97
  refine aw_iinc (i := 4) (n := 1) B 4 [(4, .int (v4 + 1)), (0, .ref 20), (1, .ref 1), (2, .int v2), (3, .int v3)] (by decide +kernel) rfl (Nat.le_of_ble_eq_true rfl) (v4 + 1) (ab_inc (by decide)) rfl ?_
  refine aw_goto (off := -61) B 39 (by decide +kernel) (by decide) ?_
  exact aw_sub [1, 2, 3, 4, 0] rfl (hk39 _ _ _ _)
def f_X0_fewestFalse_L39 (k31 : Int32 → Int32 → Mem → Option (Int32 × Mem)) : Nat → Int32 → Int32 → Int32 → Mem → Option (Int32 × Mem)
  | 0, _, _, _, _ => none
  | n + 1, v2, v3, v4, M => (if (M.1 1 0) ≤ v4 then k31 v2 (v3 + 1) M else (if ((ab_shr v3 v4) &&& (1 : Int32)) = 0 then lt (v3 ||| (ab_shl (1 : Int32) v4)) fun x1 => ck (okI 21 x1) (ck (okI 21 v3) ((f_X0_priceBehind v4 v3 M).bind fun x2 => ck (okI 21 x1) (lt (wI M 21 x1.toNatClampNeg (ab_min (M.1 21 x1.toNatClampNeg) ((M.1 21 v3.toNatClampNeg) + x2))) fun M4 => f_X0_fewestFalse_b97 (fun a0 a1 a2 a3 => f_X0_fewestFalse_L39 k31 n a0 a1 a2 a3) v2 v3 v4 M4))) else f_X0_fewestFalse_b97 (fun a0 a1 a2 a3 => f_X0_fewestFalse_L39 k31 n a0 a1 a2 a3) v2 v3 v4 M))
set_option maxRecDepth 100000 in
set_option maxHeartbeats 4000000 in
theorem w_X0_fewestFalse_L39 {G : GW} {E : EE} (hG : ab_ok G) {k31 : Int32 → Int32 → Mem → Option (Int32 × Mem)} (B : Bx G E RX0 cX0_fewestFalse 6 4 (some .int)) (hk31 : ∀ (v2 : Int32) (v3 : Int32) (M : Mem), AWo G E cX0_fewestFalse 6 (ab_Q G E embI) 31 [(0, .ref 20), (1, .ref 1), (2, .int v2), (3, .int v3)] [] M (k31 v2 v3 M)) : ∀ (n : Nat) (v2 : Int32) (v3 : Int32) (v4 : Int32) (M : Mem), AWo G E cX0_fewestFalse 6 (ab_Q G E embI) 39 [(0, .ref 20), (1, .ref 1), (2, .int v2), (3, .int v3), (4, .int v4)] [] M (f_X0_fewestFalse_L39 k31 n v2 v3 v4 M) := by
  intro n
  induction n with
  | zero => intro _ _ _ _; exact aw_none
  | succ n ih =>
    intro v2 v3 v4 M
    rw [f_X0_fewestFalse_L39]
    refine aw_iload (i := 4) B 4 (by decide +kernel) rfl ?_
    refine aw_aload_n (k0 := 1) B 1 (by decide +kernel) rfl rfl ?_
    refine aw_geti (c := 1) B lkX0_17 (by decide +kernel) rfl ?_
    refine aw_icmp_ge (off := 58) B 103 (by decide +kernel) (by decide) (fun _ => ?_) (fun _ => ?_)
    · refine aw_iinc (i := 3) (n := 1) B 3 [(3, .int (v3 + 1)), (0, .ref 20), (1, .ref 1), (2, .int v2), (4, .int v4)] (by decide +kernel) rfl (Nat.le_of_ble_eq_true rfl) (v3 + 1) (ab_inc (by decide)) rfl ?_
      refine aw_goto (off := -75) B 31 (by decide +kernel) (by decide) ?_
      exact aw_sub [1, 2, 3, 0] rfl (hk31 _ _ _)
    · refine aw_iload_n (k0 := 3) B 3 (by decide +kernel) rfl rfl ?_
      refine aw_iload (i := 4) B 4 (by decide +kernel) rfl ?_
      refine aw_ishr B (by decide +kernel) ?_
      refine aw_iconst (n := 1) (v := (1 : Int32)) B (by decide +kernel) (by decide) ?_
      refine aw_iand B (by decide +kernel) ?_
      refine aw_if_ne (off := 43) B 97 (by decide +kernel) (by decide) (fun _ => ?_) (fun _ => ?_)
      · exact w_X0_fewestFalse_b97 hG B ih _ _ _ _
      · refine aw_iload_n (k0 := 3) B 3 (by decide +kernel) rfl rfl ?_
        refine aw_iconst (n := 1) (v := (1 : Int32)) B (by decide +kernel) (by decide) ?_
        refine aw_iload (i := 4) B 4 (by decide +kernel) rfl ?_
        refine aw_ishl B (by decide +kernel) ?_
        refine aw_ior B (by decide +kernel) ?_
        refine aw_ltI (fun x1 => ?_)
        refine aw_istore (i := 5) B [(5, .int x1), (0, .ref 20), (1, .ref 1), (2, .int v2), (3, .int v3), (4, .int v4)] (by decide +kernel) (Nat.le_of_ble_eq_true rfl) rfl ?_
        refine aw_aload_n (k0 := 0) B 1 (by decide +kernel) rfl rfl ?_
        refine aw_getr (c := 20) B lkX0_11 (by decide +kernel) rfl (r := 21) rfl ?_
        refine aw_iload (i := 5) B 0 (by decide +kernel) rfl ?_
        refine aw_aload_n (k0 := 0) B 1 (by decide +kernel) rfl rfl ?_
        refine aw_getr (c := 20) B lkX0_11 (by decide +kernel) rfl (r := 21) rfl ?_
        refine aw_iload (i := 5) B 0 (by decide +kernel) rfl ?_
        refine aw_iaload B (by decide +kernel) ?_
        refine aw_aload_n (k0 := 0) B 1 (by decide +kernel) rfl rfl ?_
        refine aw_getr (c := 20) B lkX0_11 (by decide +kernel) rfl (r := 21) rfl ?_
        refine aw_iload_n (k0 := 3) B 4 (by decide +kernel) rfl rfl ?_
        refine aw_iaload B (by decide +kernel) ?_
        refine aw_aload_n (k0 := 0) B 1 (by decide +kernel) rfl rfl ?_
        refine aw_aload_n (k0 := 1) B 2 (by decide +kernel) rfl rfl ?_
        refine aw_iload (i := 4) B 5 (by decide +kernel) rfl ?_
        refine aw_iload_n (k0 := 3) B 4 (by decide +kernel) rfl rfl ?_
        refine aw_cVR B (c_X0_priceBehind (eLa E) hG v4 v3 M) cvX0_28 rfl rfl (Nat.le_of_ble_eq_true rfl) rfl (Nat.le_of_ble_eq_true rfl) (by decide +kernel) rfl (fun x2 => ?_)
        refine aw_iadd B (by decide +kernel) ?_
        refine aw_min B lxX0_32 (by decide +kernel) (Nat.le_of_ble_eq_true rfl) (Nat.le_of_ble_eq_true rfl) ?_
        refine aw_iastore B (by decide +kernel) (fun M4 => ?_)
        exact aw_sub [1, 2, 3, 4, 5] rfl (w_X0_fewestFalse_b97 hG B ih _ _ _ _)
def f_X0_fewestFalse_L31 : Nat → Int32 → Int32 → Mem → Option (Int32 × Mem)
  | 0, _, _, _ => none
  | n + 1, v2, v3, M => (if v2 ≤ v3 then ck (okI 21 v2) ((some ((M.1 21 v2.toNatClampNeg) &&& (4095 : Int32), M))) else f_X0_fewestFalse_L39 (fun a0 a1 a2 => f_X0_fewestFalse_L31 n a0 a1 a2) FU v2 v3 (0 : Int32) M)
set_option maxRecDepth 100000 in
set_option maxHeartbeats 4000000 in
theorem w_X0_fewestFalse_L31 {G : GW} {E : EE} (hG : ab_ok G) (B : Bx G E RX0 cX0_fewestFalse 6 4 (some .int)) : ∀ (n : Nat) (v2 : Int32) (v3 : Int32) (M : Mem), AWo G E cX0_fewestFalse 6 (ab_Q G E embI) 31 [(0, .ref 20), (1, .ref 1), (2, .int v2), (3, .int v3)] [] M (f_X0_fewestFalse_L31 n v2 v3 M) := by
  intro n
  induction n with
  | zero => intro _ _ _; exact aw_none
  | succ n ih =>
    intro v2 v3 M
    rw [f_X0_fewestFalse_L31]
    refine aw_iload_n (k0 := 3) B 3 (by decide +kernel) rfl rfl ?_
    refine aw_iload_n (k0 := 2) B 2 (by decide +kernel) rfl rfl ?_
    refine aw_icmp_ge (off := 76) B 109 (by decide +kernel) (by decide) (fun _ => ?_) (fun _ => ?_)
    · refine aw_aload_n (k0 := 0) B 0 (by decide +kernel) rfl rfl ?_
      refine aw_getr (c := 20) B lkX0_11 (by decide +kernel) rfl (r := 21) rfl ?_
      refine aw_iload_n (k0 := 2) B 2 (by decide +kernel) rfl rfl ?_
      refine aw_iaload B (by decide +kernel) ?_
      refine aw_sipush (n := 4095) (v := (4095 : Int32)) B (by decide +kernel) (by decide) ?_
      refine aw_iand B (by decide +kernel) ?_
      exact aw_ireturn B (by decide +kernel) rfl
    · refine aw_iconst (n := 0) (v := (0 : Int32)) B (by decide +kernel) (by decide) ?_
      refine aw_istore (i := 4) B [(4, .int (0 : Int32)), (0, .ref 20), (1, .ref 1), (2, .int v2), (3, .int v3)] (by decide +kernel) (Nat.le_of_ble_eq_true rfl) rfl ?_
      exact aw_sub [1, 2, 3, 4, 0] rfl (w_X0_fewestFalse_L39 hG B ih FU _ _ _ _)
def f_X0_fewestFalse (M : Mem) : Option (Int32 × Mem) := lt ((ab_shl (1 : Int32) (M.1 1 0)) - (1 : Int32)) fun x1 => (f_J7_fill_fda19 21 (0 : Int32) (x1 + (1 : Int32)) (2147483647 : Int32) M).bind fun M3 => ck (okI 21 (0 : Int32)) (lt (wI M3 21 (0 : Int32).toNatClampNeg (0 : Int32)) fun M4 => f_X0_fewestFalse_L31 FU x1 (0 : Int32) M4)
set_option maxRecDepth 100000 in
set_option maxHeartbeats 4000000 in
theorem w_X0_fewestFalse {G : GW} {E : EE} (hG : ab_ok G) (B : Bx G E RX0 cX0_fewestFalse 6 4 (some .int)) (M : Mem) : AWo G E cX0_fewestFalse 6 (ab_Q G E embI) 0 [(0, .ref 20), (1, .ref 1)] [] M (f_X0_fewestFalse M) := by
  unfold f_X0_fewestFalse
  refine aw_iconst (n := 1) (v := (1 : Int32)) B (by decide +kernel) (by decide) ?_
  refine aw_aload_n (k0 := 1) B 1 (by decide +kernel) rfl rfl ?_
  refine aw_geti (c := 1) B lkX0_17 (by decide +kernel) rfl ?_
  refine aw_ishl B (by decide +kernel) ?_
  refine aw_iconst (n := 1) (v := (1 : Int32)) B (by decide +kernel) (by decide) ?_
  refine aw_isub B (by decide +kernel) ?_
  refine aw_ltI (fun x1 => ?_)
  refine aw_istore_n (k0 := 2) B [(2, .int x1), (0, .ref 20), (1, .ref 1)] (by decide +kernel) rfl (Nat.le_of_ble_eq_true rfl) rfl ?_
  refine aw_aload_n (k0 := 0) B 1 (by decide +kernel) rfl rfl ?_
  refine aw_getr (c := 20) B lkX0_11 (by decide +kernel) rfl (r := 21) rfl ?_
  refine aw_iconst (n := 0) (v := (0 : Int32)) B (by decide +kernel) (by decide) ?_
  refine aw_iload_n (k0 := 2) B 0 (by decide +kernel) rfl rfl ?_
  refine aw_iconst (n := 1) (v := (1 : Int32)) B (by decide +kernel) (by decide) ?_
  refine aw_iadd B (by decide +kernel) ?_
  refine aw_ldc B (by decide +kernel) lwX0_21 ?_
  refine aw_cSV B (c_J7_fill_fda19 (eLa E) hG 21 (0 : Int32) (x1 + (1 : Int32)) (2147483647 : Int32) M) csX0_22 (Nat.le_of_ble_eq_true rfl) rfl (Nat.le_of_ble_eq_true rfl) (by decide +kernel) rfl (fun M3 => ?_)
  refine aw_aload_n (k0 := 0) B 1 (by decide +kernel) rfl rfl ?_
  refine aw_getr (c := 20) B lkX0_11 (by decide +kernel) rfl (r := 21) rfl ?_
  refine aw_iconst (n := 0) (v := (0 : Int32)) B (by decide +kernel) (by decide) ?_
  refine aw_iconst (n := 0) (v := (0 : Int32)) B (by decide +kernel) (by decide) ?_
  refine aw_iastore B (by decide +kernel) (fun M4 => ?_)
  refine aw_iconst (n := 0) (v := (0 : Int32)) B (by decide +kernel) (by decide) ?_
  refine aw_istore_n (k0 := 3) B [(3, .int (0 : Int32)), (2, .int x1), (0, .ref 20), (1, .ref 1)] (by decide +kernel) rfl (Nat.le_of_ble_eq_true rfl) rfl ?_
  exact aw_sub [2, 3, 1, 0] rfl (w_X0_fewestFalse_L31 hG B FU _ _ _)
theorem c_X0_fewestFalse (l : Launch) {G : GW} (hG : ab_ok G) (M : Mem) : AC l G yX0_fewestFalse cX0_fewestFalse 6 (some .int) 4 [.ref 20, .ref 1] M embI (f_X0_fewestFalse M) := AC.of hG (by decide) (Nat.le_of_ble_eq_true rfl) (fun E hE B => by subst hE; exact w_X0_fewestFalse hG B M)
def f_X10_wrong (M : Mem) : Option (Int32 × Mem) := bI (f_X0_fewestFalse M) fun x1 M2 => (some (x1, M2))
set_option maxRecDepth 100000 in
set_option maxHeartbeats 4000000 in
theorem w_X10_wrong {G : GW} {E : EE} (hG : ab_ok G) (B : Bx G E RX10 cX10_wrong 1 5 (some .int)) (M : Mem) : AWo G E cX10_wrong 1 (ab_Q G E embI) 0 [(0, .ref 0)] [] M (f_X10_wrong M) := by
  unfold f_X10_wrong
  refine aw_aload_n (k0 := 0) B 0 (by decide +kernel) rfl rfl ?_
  refine aw_getr (c := 0) B lkX10_40 (by decide +kernel) rfl (r := 20) rfl ?_
  refine aw_aload_n (k0 := 0) B 0 (by decide +kernel) rfl rfl ?_
  refine aw_getr (c := 0) B lkX10_10 (by decide +kernel) rfl (r := 1) rfl ?_
  refine aw_cVI B (c_X0_fewestFalse (eLa E) hG M) cvX10_198 rfl rfl (Nat.le_of_ble_eq_true rfl) rfl (Nat.le_of_ble_eq_true rfl) (by decide +kernel) rfl (fun x1 M2 => ?_)
  exact aw_ireturn B (by decide +kernel) rfl
theorem c_X10_wrong (l : Launch) {G : GW} (hG : ab_ok G) (M : Mem) : AC l G yX10_wrong cX10_wrong 1 (some .int) 5 [.ref 0] M embI (f_X10_wrong M) := AC.of hG (by decide) (Nat.le_of_ble_eq_true rfl) (fun E hE B => by subst hE; exact w_X10_wrong hG B M)
def f_X11_bitsOf_L4 : Nat → Int32 → Int32 → Option Int32
  | 0, _, _ => none
  | n + 1, v1, v2 => (if v2 = 0 then (some v1) else lt (v2 &&& (v2 - (1 : Int32))) fun x1 => f_X11_bitsOf_L4 n (v1 + 1) x1)
set_option maxRecDepth 100000 in
set_option maxHeartbeats 4000000 in
theorem w_X11_bitsOf_L4 {G : GW} {E : EE} (hG : ab_ok G) (M : Mem) (B : Bx G E RX11 cX11_bitsOf 3 2 (some .int)) : ∀ (n : Nat) (v1 : Int32) (v2 : Int32), AWo G E cX11_bitsOf 3 (ab_Q G E (embRI M)) 4 [(1, .int v1), (2, .int v2)] [] M (f_X11_bitsOf_L4 n v1 v2) := by
  intro n
  induction n with
  | zero => intro _ _; exact aw_none
  | succ n ih =>
    intro v1 v2
    rw [f_X11_bitsOf_L4]
    refine aw_iload_n (k0 := 2) B 1 (by decide +kernel) rfl rfl ?_
    refine aw_if_eq (off := 15) B 20 (by decide +kernel) (by decide) (fun _ => ?_) (fun _ => ?_)
    · refine aw_iload_n (k0 := 1) B 0 (by decide +kernel) rfl rfl ?_
      exact aw_ireturn B (by decide +kernel) rfl
    · refine aw_iinc (i := 1) (n := 1) B 0 [(1, .int (v1 + 1)), (2, .int v2)] (by decide +kernel) rfl (Nat.le_of_ble_eq_true rfl) (v1 + 1) (ab_inc (by decide)) rfl ?_
      refine aw_iload_n (k0 := 2) B 1 (by decide +kernel) rfl rfl ?_
      refine aw_iload_n (k0 := 2) B 1 (by decide +kernel) rfl rfl ?_
      refine aw_iconst (n := 1) (v := (1 : Int32)) B (by decide +kernel) (by decide) ?_
      refine aw_isub B (by decide +kernel) ?_
      refine aw_iand B (by decide +kernel) ?_
      refine aw_ltI (fun x1 => ?_)
      refine aw_istore_n (k0 := 2) B [(2, .int x1), (1, .int (v1 + 1))] (by decide +kernel) rfl (Nat.le_of_ble_eq_true rfl) rfl ?_
      refine aw_goto (off := -13) B 4 (by decide +kernel) (by decide) ?_
      exact aw_sub [1, 0] rfl (ih _ _)
def f_X11_bitsOf (v0 : Int32) : Option Int32 := f_X11_bitsOf_L4 FU (0 : Int32) v0
set_option maxRecDepth 100000 in
set_option maxHeartbeats 4000000 in
theorem w_X11_bitsOf {G : GW} {E : EE} (hG : ab_ok G) (B : Bx G E RX11 cX11_bitsOf 3 2 (some .int)) (v0 : Int32) (M : Mem) : AWo G E cX11_bitsOf 3 (ab_Q G E (embRI M)) 0 [(0, .int v0)] [] M (f_X11_bitsOf v0) := by
  unfold f_X11_bitsOf
  refine aw_iconst (n := 0) (v := (0 : Int32)) B (by decide +kernel) (by decide) ?_
  refine aw_istore_n (k0 := 1) B [(1, .int (0 : Int32)), (0, .int v0)] (by decide +kernel) rfl (Nat.le_of_ble_eq_true rfl) rfl ?_
  refine aw_iload_n (k0 := 0) B 1 (by decide +kernel) rfl rfl ?_
  refine aw_istore_n (k0 := 2) B [(2, .int v0), (1, .int (0 : Int32)), (0, .int v0)] (by decide +kernel) rfl (Nat.le_of_ble_eq_true rfl) rfl ?_
  exact aw_sub [1, 0] rfl (w_X11_bitsOf_L4 hG M B FU _ _)
theorem c_X11_bitsOf (l : Launch) {G : GW} (hG : ab_ok G) (v0 : Int32) (M : Mem) : AC l G yX11_bitsOf cX11_bitsOf 3 (some .int) 2 [.int v0] M (embRI M) (f_X11_bitsOf v0) := AC.of hG (by decide) (Nat.le_of_ble_eq_true rfl) (fun E hE B => by subst hE; exact w_X11_bitsOf hG B v0 M)
def f_X11_wrong_b52 (k9 : Int32 → Int32 → Int32 → Mem → Option (Int32 × Mem)) (v1 : Int32) (v2 : Int32) (v3 : Int32) (M : Mem) : Option (Int32 × Mem) := k9 v1 v2 (v3 + 1) M
set_option maxRecDepth 100000 in
set_option maxHeartbeats 4000000 in
theorem w_X11_wrong_b52 {G : GW} {E : EE} (hG : ab_ok G) {k9 : Int32 → Int32 → Int32 → Mem → Option (Int32 × Mem)} (B : Bx G E RX11 cX11_wrong 4 4 (some .int)) (hk9 : ∀ (v1 : Int32) (v2 : Int32) (v3 : Int32) (M : Mem), AWo G E cX11_wrong 4 (ab_Q G E embI) 9 [(0, .ref 47), (1, .int v1), (2, .int v2), (3, .int v3)] [] M (k9 v1 v2 v3 M)) (v1 : Int32) (v2 : Int32) (v3 : Int32) (M : Mem) : AWo G E cX11_wrong 4 (ab_Q G E embI) 52 [(0, .ref 47), (1, .int v1), (2, .int v2), (3, .int v3)] [] M (f_X11_wrong_b52 k9 v1 v2 v3 M) := by
  unfold f_X11_wrong_b52
  refine aw_iinc (i := 3) (n := 1) B 3 [(3, .int (v3 + 1)), (0, .ref 47), (1, .int v1), (2, .int v2)] (by decide +kernel) rfl (Nat.le_of_ble_eq_true rfl) (v3 + 1) (ab_inc (by decide)) rfl ?_
  refine aw_goto (off := -46) B 9 (by decide +kernel) (by decide) ?_
  exact aw_sub [1, 2, 3, 0] rfl (hk9 _ _ _ _)
def f_X11_wrong_L9 : Nat → Int32 → Int32 → Int32 → Mem → Option (Int32 × Mem)
  | 0, _, _, _, _ => none
  | n + 1, v1, v2, v3, M => (if (ab_shl (1 : Int32) (M.1 47 7)) ≤ v3 then (some (v2, M)) else (if (v3 &&& (v1 ^^^ (-1 : Int32))) = 0 then (f_X11_bitsOf v3).bind fun x1 => (f_X11_bitsOf v2).bind fun x3 => (if x3 ≤ x1 then f_X11_wrong_b52 (fun a0 a1 a2 a3 => f_X11_wrong_L9 n a0 a1 a2 a3) v1 v2 v3 M else bI (f_X11_hasOrder (v1 &&& (v3 ^^^ (-1 : Int32))) M) fun x5 M6 => (if x5 = 0 then f_X11_wrong_b52 (fun a0 a1 a2 a3 => f_X11_wrong_L9 n a0 a1 a2 a3) v1 v2 v3 M6 else f_X11_wrong_b52 (fun a0 a1 a2 a3 => f_X11_wrong_L9 n a0 a1 a2 a3) v1 v3 v3 M6)) else f_X11_wrong_b52 (fun a0 a1 a2 a3 => f_X11_wrong_L9 n a0 a1 a2 a3) v1 v2 v3 M))
set_option maxRecDepth 100000 in
set_option maxHeartbeats 4000000 in
theorem w_X11_wrong_L9 {G : GW} {E : EE} (hG : ab_ok G) (B : Bx G E RX11 cX11_wrong 4 4 (some .int)) : ∀ (n : Nat) (v1 : Int32) (v2 : Int32) (v3 : Int32) (M : Mem), AWo G E cX11_wrong 4 (ab_Q G E embI) 9 [(0, .ref 47), (1, .int v1), (2, .int v2), (3, .int v3)] [] M (f_X11_wrong_L9 n v1 v2 v3 M) := by
  intro n
  induction n with
  | zero => intro _ _ _ _; exact aw_none
  | succ n ih =>
    intro v1 v2 v3 M
    rw [f_X11_wrong_L9]
    refine aw_iload_n (k0 := 3) B 3 (by decide +kernel) rfl rfl ?_
    refine aw_iconst (n := 1) (v := (1 : Int32)) B (by decide +kernel) (by decide) ?_
    refine aw_aload_n (k0 := 0) B 0 (by decide +kernel) rfl rfl ?_
    refine aw_geti (c := 47) B lkX11_116 (by decide +kernel) rfl ?_
    refine aw_ishl B (by decide +kernel) ?_
    refine aw_icmp_ge (off := 42) B 58 (by decide +kernel) (by decide) (fun _ => ?_) (fun _ => ?_)
    · refine aw_iload_n (k0 := 2) B 2 (by decide +kernel) rfl rfl ?_
      exact aw_ireturn B (by decide +kernel) rfl
    · refine aw_iload_n (k0 := 3) B 3 (by decide +kernel) rfl rfl ?_
      refine aw_iload_n (k0 := 1) B 1 (by decide +kernel) rfl rfl ?_
      refine aw_iconst (n := -1) (v := (-1 : Int32)) B (by decide +kernel) (by decide) ?_
      refine aw_ixor B (by decide +kernel) ?_
      refine aw_iand B (by decide +kernel) ?_
      refine aw_if_ne (off := 28) B 52 (by decide +kernel) (by decide) (fun _ => ?_) (fun _ => ?_)
      · exact w_X11_wrong_b52 hG B ih _ _ _ _
      · refine aw_iload_n (k0 := 3) B 3 (by decide +kernel) rfl rfl ?_
        refine aw_cSR B (c_X11_bitsOf (eLa E) hG v3 M) csX11_258 (Nat.le_of_ble_eq_true rfl) rfl (Nat.le_of_ble_eq_true rfl) (by decide +kernel) rfl (fun x1 => ?_)
        refine aw_iload_n (k0 := 2) B 2 (by decide +kernel) rfl rfl ?_
        refine aw_cSR B (c_X11_bitsOf (eLa E) hG v2 M) csX11_258 (Nat.le_of_ble_eq_true rfl) rfl (Nat.le_of_ble_eq_true rfl) (by decide +kernel) rfl (fun x3 => ?_)
        refine aw_icmp_ge (off := 17) B 52 (by decide +kernel) (by decide) (fun _ => ?_) (fun _ => ?_)
        · exact w_X11_wrong_b52 hG B ih _ _ _ _
        · refine aw_aload_n (k0 := 0) B 0 (by decide +kernel) rfl rfl ?_
          refine aw_iload_n (k0 := 1) B 1 (by decide +kernel) rfl rfl ?_
          refine aw_iload_n (k0 := 3) B 3 (by decide +kernel) rfl rfl ?_
          refine aw_iconst (n := -1) (v := (-1 : Int32)) B (by decide +kernel) (by decide) ?_
          refine aw_ixor B (by decide +kernel) ?_
          refine aw_iand B (by decide +kernel) ?_
          refine aw_cVI B (c_X11_hasOrder (eLa E) hG (v1 &&& (v3 ^^^ (-1 : Int32))) M) cvX11_255 rfl rfl (Nat.le_of_ble_eq_true rfl) rfl (Nat.le_of_ble_eq_true rfl) (by decide +kernel) rfl (fun x5 M6 => ?_)
          refine aw_if_eq (off := 5) B 52 (by decide +kernel) (by decide) (fun _ => ?_) (fun _ => ?_)
          · exact w_X11_wrong_b52 hG B ih _ _ _ _
          · refine aw_iload_n (k0 := 3) B 3 (by decide +kernel) rfl rfl ?_
            refine aw_istore_n (k0 := 2) B [(2, .int v3), (0, .ref 47), (1, .int v1), (3, .int v3)] (by decide +kernel) rfl (Nat.le_of_ble_eq_true rfl) rfl ?_
            exact aw_sub [1, 2, 0, 3] rfl (w_X11_wrong_b52 hG B ih _ _ _ _)
def f_X11_wrong (M : Mem) : Option (Int32 × Mem) := (f_X11_allThatCount M).bind fun x1 => f_X11_wrong_L9 FU x1 x1 (0 : Int32) M
set_option maxRecDepth 100000 in
set_option maxHeartbeats 4000000 in
theorem w_X11_wrong {G : GW} {E : EE} (hG : ab_ok G) (B : Bx G E RX11 cX11_wrong 4 4 (some .int)) (M : Mem) : AWo G E cX11_wrong 4 (ab_Q G E embI) 0 [(0, .ref 47)] [] M (f_X11_wrong M) := by
  unfold f_X11_wrong
  refine aw_aload_n (k0 := 0) B 0 (by decide +kernel) rfl rfl ?_
  refine aw_cVR B (c_X11_allThatCount (eLa E) hG M) cvX11_248 rfl rfl (Nat.le_of_ble_eq_true rfl) rfl (Nat.le_of_ble_eq_true rfl) (by decide +kernel) rfl (fun x1 => ?_)
  refine aw_istore_n (k0 := 1) B [(1, .int x1), (0, .ref 47)] (by decide +kernel) rfl (Nat.le_of_ble_eq_true rfl) rfl ?_
  refine aw_iload_n (k0 := 1) B 0 (by decide +kernel) rfl rfl ?_
  refine aw_istore_n (k0 := 2) B [(2, .int x1), (1, .int x1), (0, .ref 47)] (by decide +kernel) rfl (Nat.le_of_ble_eq_true rfl) rfl ?_
  refine aw_iconst (n := 0) (v := (0 : Int32)) B (by decide +kernel) (by decide) ?_
  refine aw_istore_n (k0 := 3) B [(3, .int (0 : Int32)), (2, .int x1), (1, .int x1), (0, .ref 47)] (by decide +kernel) rfl (Nat.le_of_ble_eq_true rfl) rfl ?_
  exact aw_sub [3, 2, 1, 0] rfl (w_X11_wrong_L9 hG B FU _ _ _ _)
theorem c_X11_wrong (l : Launch) {G : GW} (hG : ab_ok G) (M : Mem) : AC l G yX11_wrong cX11_wrong 4 (some .int) 4 [.ref 47] M embI (f_X11_wrong M) := AC.of hG (by decide) (Nat.le_of_ble_eq_true rfl) (fun E hE B => by subst hE; exact w_X11_wrong hG B M)
def f_X10_isQuestion_b66 (M : Mem) (v2 : Int32) : Option Int32 := (if (M.1 1 0) ≤ v2 then (some (0 : Int32)) else (some (1 : Int32)))
set_option maxRecDepth 100000 in
set_option maxHeartbeats 4000000 in
theorem w_X10_isQuestion_b66 {G : GW} {E : EE} (hG : ab_ok G) (M : Mem) (B : Bx G E RX10 cX10_isQuestion 3 2 (some .boolean)) (v2 : Int32) : AWo G E cX10_isQuestion 3 (ab_Q G E (embRI M)) 66 [(0, .ref 0), (2, .int v2)] [] M (f_X10_isQuestion_b66 M v2) := by
  unfold f_X10_isQuestion_b66
  refine aw_iload_n (k0 := 2) B 1 (by decide +kernel) rfl rfl ?_
  refine aw_aload_n (k0 := 0) B 0 (by decide +kernel) rfl rfl ?_
  refine aw_getr (c := 0) B lkX10_10 (by decide +kernel) rfl (r := 1) rfl ?_
  refine aw_geti (c := 1) B lkX10_167 (by decide +kernel) rfl ?_
  refine aw_icmp_ge (off := 7) B 81 (by decide +kernel) (by decide) (fun _ => ?_) (fun _ => ?_)
  · refine aw_iconst (n := 0) (v := (0 : Int32)) B (by decide +kernel) (by decide) ?_
    exact aw_zreturnK B (by decide +kernel) rfl (by decide)
  · refine aw_iconst (n := 1) (v := (1 : Int32)) B (by decide +kernel) (by decide) ?_
    refine aw_goto (off := 4) B 82 (by decide +kernel) (by decide) ?_
    exact aw_zreturnK B (by decide +kernel) rfl (by decide)
def f_X10_isQuestion_b56 (M : Mem) (v2 : Int32) : Option Int32 := (if v2 = 0 then (some (1 : Int32)) else (some (0 : Int32)))
set_option maxRecDepth 100000 in
set_option maxHeartbeats 4000000 in
theorem w_X10_isQuestion_b56 {G : GW} {E : EE} (hG : ab_ok G) (M : Mem) (B : Bx G E RX10 cX10_isQuestion 3 2 (some .boolean)) (v2 : Int32) : AWo G E cX10_isQuestion 3 (ab_Q G E (embRI M)) 56 [(2, .int v2)] [] M (f_X10_isQuestion_b56 M v2) := by
  unfold f_X10_isQuestion_b56
  refine aw_iload_n (k0 := 2) B 0 (by decide +kernel) rfl rfl ?_
  refine aw_if_ne (off := 7) B 64 (by decide +kernel) (by decide) (fun _ => ?_) (fun _ => ?_)
  · refine aw_iconst (n := 0) (v := (0 : Int32)) B (by decide +kernel) (by decide) ?_
    exact aw_zreturnK B (by decide +kernel) rfl (by decide)
  · refine aw_iconst (n := 1) (v := (1 : Int32)) B (by decide +kernel) (by decide) ?_
    refine aw_goto (off := 4) B 65 (by decide +kernel) (by decide) ?_
    exact aw_zreturnK B (by decide +kernel) rfl (by decide)
def f_X10_isQuestion (v1 : Int32) (M : Mem) : Option Int32 := lt (ab_rem v1 (10 : Int32)) fun x1 => (if 0 ≤ v1 then (if (v1 / (10 : Int32)) = (0 : Int32) then f_X10_isQuestion_b56 M x1 else if (v1 / (10 : Int32)) = (1 : Int32) then f_X10_isQuestion_b56 M x1 else if (v1 / (10 : Int32)) = (2 : Int32) then f_X10_isQuestion_b66 M x1 else if (v1 / (10 : Int32)) = (3 : Int32) then f_X10_isQuestion_b56 M x1 else if (v1 / (10 : Int32)) = (4 : Int32) then f_X10_isQuestion_b56 M x1 else if (v1 / (10 : Int32)) = (5 : Int32) then (if x1 < (1 : Int32) then (some (0 : Int32)) else (if (M.1 1 0) < x1 then (some (0 : Int32)) else (some (1 : Int32)))) else if (v1 / (10 : Int32)) = (6 : Int32) then f_X10_isQuestion_b66 M x1 else (some (0 : Int32))) else (some (0 : Int32)))
set_option maxRecDepth 100000 in
set_option maxHeartbeats 4000000 in
theorem w_X10_isQuestion {G : GW} {E : EE} (hG : ab_ok G) (B : Bx G E RX10 cX10_isQuestion 3 2 (some .boolean)) (v1 : Int32) (M : Mem) : AWo G E cX10_isQuestion 3 (ab_Q G E (embRI M)) 0 [(0, .ref 0), (1, .int v1)] [] M (f_X10_isQuestion v1 M) := by
  unfold f_X10_isQuestion
  refine aw_iload_n (k0 := 1) B 1 (by decide +kernel) rfl rfl ?_
  refine aw_bipush (n := 10) (v := (10 : Int32)) B (by decide +kernel) (by decide) ?_
  refine aw_iremK B (by decide +kernel) (by decide) ?_
  refine aw_ltI (fun x1 => ?_)
  refine aw_istore_n (k0 := 2) B [(2, .int x1), (0, .ref 0), (1, .int v1)] (by decide +kernel) rfl (Nat.le_of_ble_eq_true rfl) rfl ?_
  refine aw_iload_n (k0 := 1) B 2 (by decide +kernel) rfl rfl ?_
  refine aw_if_ge (off := 5) B 11 (by decide +kernel) (by decide) (fun _ => ?_) (fun _ => ?_)
  · refine aw_iload_n (k0 := 1) B 2 (by decide +kernel) rfl rfl ?_
    refine aw_bipush (n := 10) (v := (10 : Int32)) B (by decide +kernel) (by decide) ?_
    refine aw_idivK B (by decide +kernel) (by decide) ?_
    refine aw_ite (fun h15_0 => ?_) (fun h15_0 => ?_)
    · refine aw_tin (k0 := (0 : Int32)) (dflt := 90) (lo := 0) (hi := 6) (offs := #[41, 41, 51, 41, 41, 68, 51]) (len := 41) (off := 41) B 56 (by decide +kernel) h15_0 (by decide) (by decide) (by decide +kernel) (by decide) ?_
      exact aw_sub [0] rfl (w_X10_isQuestion_b56 hG M B _)
    refine aw_ite (fun h15_1 => ?_) (fun h15_1 => ?_)
    · refine aw_tin (k0 := (1 : Int32)) (dflt := 90) (lo := 0) (hi := 6) (offs := #[41, 41, 51, 41, 41, 68, 51]) (len := 41) (off := 41) B 56 (by decide +kernel) h15_1 (by decide) (by decide) (by decide +kernel) (by decide) ?_
      exact aw_sub [0] rfl (w_X10_isQuestion_b56 hG M B _)
    refine aw_ite (fun h15_2 => ?_) (fun h15_2 => ?_)
    · refine aw_tin (k0 := (2 : Int32)) (dflt := 90) (lo := 0) (hi := 6) (offs := #[41, 41, 51, 41, 41, 68, 51]) (len := 41) (off := 51) B 66 (by decide +kernel) h15_2 (by decide) (by decide) (by decide +kernel) (by decide) ?_
      exact aw_sub [1, 0] rfl (w_X10_isQuestion_b66 hG M B _)
    refine aw_ite (fun h15_3 => ?_) (fun h15_3 => ?_)
    · refine aw_tin (k0 := (3 : Int32)) (dflt := 90) (lo := 0) (hi := 6) (offs := #[41, 41, 51, 41, 41, 68, 51]) (len := 41) (off := 41) B 56 (by decide +kernel) h15_3 (by decide) (by decide) (by decide +kernel) (by decide) ?_
      exact aw_sub [0] rfl (w_X10_isQuestion_b56 hG M B _)
    refine aw_ite (fun h15_4 => ?_) (fun h15_4 => ?_)
    · refine aw_tin (k0 := (4 : Int32)) (dflt := 90) (lo := 0) (hi := 6) (offs := #[41, 41, 51, 41, 41, 68, 51]) (len := 41) (off := 41) B 56 (by decide +kernel) h15_4 (by decide) (by decide) (by decide +kernel) (by decide) ?_
      exact aw_sub [0] rfl (w_X10_isQuestion_b56 hG M B _)
    refine aw_ite (fun h15_5 => ?_) (fun h15_5 => ?_)
    · refine aw_tin (k0 := (5 : Int32)) (dflt := 90) (lo := 0) (hi := 6) (offs := #[41, 41, 51, 41, 41, 68, 51]) (len := 41) (off := 68) B 83 (by decide +kernel) h15_5 (by decide) (by decide) (by decide +kernel) (by decide) ?_
      refine aw_iload_n (k0 := 2) B 0 (by decide +kernel) rfl rfl ?_
      refine aw_iconst (n := 1) (v := (1 : Int32)) B (by decide +kernel) (by decide) ?_
      refine aw_icmp_lt (off := 18) B 103 (by decide +kernel) (by decide) (fun _ => ?_) (fun _ => ?_)
      · refine aw_iconst (n := 0) (v := (0 : Int32)) B (by decide +kernel) (by decide) ?_
        exact aw_zreturnK B (by decide +kernel) rfl (by decide)
      · refine aw_iload_n (k0 := 2) B 0 (by decide +kernel) rfl rfl ?_
        refine aw_aload_n (k0 := 0) B 1 (by decide +kernel) rfl rfl ?_
        refine aw_getr (c := 0) B lkX10_10 (by decide +kernel) rfl (r := 1) rfl ?_
        refine aw_geti (c := 1) B lkX10_167 (by decide +kernel) rfl ?_
        refine aw_icmp_gt (off := 7) B 103 (by decide +kernel) (by decide) (fun _ => ?_) (fun _ => ?_)
        · refine aw_iconst (n := 0) (v := (0 : Int32)) B (by decide +kernel) (by decide) ?_
          exact aw_zreturnK B (by decide +kernel) rfl (by decide)
        · refine aw_iconst (n := 1) (v := (1 : Int32)) B (by decide +kernel) (by decide) ?_
          refine aw_goto (off := 4) B 104 (by decide +kernel) (by decide) ?_
          exact aw_zreturnK B (by decide +kernel) rfl (by decide)
    refine aw_ite (fun h15_6 => ?_) (fun h15_6 => ?_)
    · refine aw_tin (k0 := (6 : Int32)) (dflt := 90) (lo := 0) (hi := 6) (offs := #[41, 41, 51, 41, 41, 68, 51]) (len := 41) (off := 51) B 66 (by decide +kernel) h15_6 (by decide) (by decide) (by decide +kernel) (by decide) ?_
      exact aw_sub [1, 0] rfl (w_X10_isQuestion_b66 hG M B _)
    · refine aw_tout (dflt := 90) (lo := 0) (hi := 6) (offs := #[41, 41, 51, 41, 41, 68, 51]) (len := 41) B 105 (by decide +kernel) (by have qh15_0 := lv_neT (a := 0) h15_0 (by decide); have qh15_1 := lv_neT (a := 1) h15_1 (by decide); have qh15_2 := lv_neT (a := 2) h15_2 (by decide); have qh15_3 := lv_neT (a := 3) h15_3 (by decide); have qh15_4 := lv_neT (a := 4) h15_4 (by decide); have qh15_5 := lv_neT (a := 5) h15_5 (by decide); have qh15_6 := lv_neT (a := 6) h15_6 (by decide); omega) (by decide) ?_
      refine aw_iconst (n := 0) (v := (0 : Int32)) B (by decide +kernel) (by decide) ?_
      exact aw_zreturnK B (by decide +kernel) rfl (by decide)
  · refine aw_iconst (n := 0) (v := (0 : Int32)) B (by decide +kernel) (by decide) ?_
    exact aw_zreturnK B (by decide +kernel) rfl (by decide)
theorem c_X10_isQuestion (l : Launch) {G : GW} (hG : ab_ok G) (v1 : Int32) (M : Mem) : AC l G yX10_isQuestion cX10_isQuestion 3 (some .boolean) 2 [.ref 0, .int v1] M (embRI M) (f_X10_isQuestion v1 M) := AC.of hG (by decide) (Nat.le_of_ble_eq_true rfl) (fun E hE B => by subst hE; exact w_X10_isQuestion hG B v1 M)
def f_X7_whoCanHave_11_b37 (k4 : Int32 → Int32 → Int32 → Option Int32) (M : Mem) (v1 : Int32) (v2 : Int32) (v3 : Int32) : Option Int32 := k4 v1 v2 (v3 + 1)
set_option maxRecDepth 100000 in
set_option maxHeartbeats 4000000 in
theorem w_X7_whoCanHave_11_b37 {G : GW} {E : EE} (hG : ab_ok G) (M : Mem) {k4 : Int32 → Int32 → Int32 → Option Int32} (B : Bx G E RX7 cX7_whoCanHave 4 3 (some .int)) (hk4 : ∀ (v1 : Int32) (v2 : Int32) (v3 : Int32), AWo G E cX7_whoCanHave 4 (ab_Q G E (embRI M)) 4 [(0, .ref 11), (1, .int v1), (2, .int v2), (3, .int v3)] [] M (k4 v1 v2 v3)) (v1 : Int32) (v2 : Int32) (v3 : Int32) : AWo G E cX7_whoCanHave 4 (ab_Q G E (embRI M)) 37 [(0, .ref 11), (1, .int v1), (2, .int v2), (3, .int v3)] [] M (f_X7_whoCanHave_11_b37 k4 M v1 v2 v3) := by
  unfold f_X7_whoCanHave_11_b37
  refine aw_iinc (i := 3) (n := 1) B 3 [(3, .int (v3 + 1)), (0, .ref 11), (1, .int v1), (2, .int v2)] (by decide +kernel) rfl (Nat.le_of_ble_eq_true rfl) (v3 + 1) (ab_inc (by decide)) rfl ?_
  refine aw_goto (off := -36) B 4 (by decide +kernel) (by decide) ?_
  exact aw_sub [1, 2, 3, 0] rfl (hk4 _ _ _)
def f_X7_whoCanHave_11_L4 (M : Mem) : Nat → Int32 → Int32 → Int32 → Option Int32
  | 0, _, _, _ => none
  | n + 1, v1, v2, v3 => (if (M.1 11 2) ≤ v3 then (some v2) else ck (okI 13 v3) ((if (M.1 13 v3.toNatClampNeg) ≤ 0 then f_X7_whoCanHave_11_b37 (fun a0 a1 a2 => f_X7_whoCanHave_11_L4 M n a0 a1 a2) M v1 v2 v3 else (f_J6_bitCount_0f7a4 v3).bind fun x1 => (if x1 = v1 then (f_X7_followers_11 v3 M).bind fun x3 => lt (v2 ||| x3) fun x5 => f_X7_whoCanHave_11_b37 (fun a0 a1 a2 => f_X7_whoCanHave_11_L4 M n a0 a1 a2) M v1 x5 v3 else f_X7_whoCanHave_11_b37 (fun a0 a1 a2 => f_X7_whoCanHave_11_L4 M n a0 a1 a2) M v1 v2 v3))))
set_option maxRecDepth 100000 in
set_option maxHeartbeats 4000000 in
theorem w_X7_whoCanHave_11_L4 {G : GW} {E : EE} (hG : ab_ok G) (M : Mem) (B : Bx G E RX7 cX7_whoCanHave 4 3 (some .int)) : ∀ (n : Nat) (v1 : Int32) (v2 : Int32) (v3 : Int32), AWo G E cX7_whoCanHave 4 (ab_Q G E (embRI M)) 4 [(0, .ref 11), (1, .int v1), (2, .int v2), (3, .int v3)] [] M (f_X7_whoCanHave_11_L4 M n v1 v2 v3) := by
  intro n
  induction n with
  | zero => intro _ _ _; exact aw_none
  | succ n ih =>
    intro v1 v2 v3
    rw [f_X7_whoCanHave_11_L4]
    refine aw_iload_n (k0 := 3) B 3 (by decide +kernel) rfl rfl ?_
    refine aw_aload_n (k0 := 0) B 0 (by decide +kernel) rfl rfl ?_
    refine aw_geti (c := 11) B lkX7_22 (by decide +kernel) rfl ?_
    refine aw_icmp_ge (off := 34) B 43 (by decide +kernel) (by decide) (fun _ => ?_) (fun _ => ?_)
    · refine aw_iload_n (k0 := 2) B 2 (by decide +kernel) rfl rfl ?_
      exact aw_ireturn B (by decide +kernel) rfl
    · refine aw_aload_n (k0 := 0) B 0 (by decide +kernel) rfl rfl ?_
      refine aw_getr (c := 11) B lkX7_15 (by decide +kernel) rfl (r := 13) rfl ?_
      refine aw_iload_n (k0 := 3) B 3 (by decide +kernel) rfl rfl ?_
      refine aw_iaload B (by decide +kernel) ?_
      refine aw_if_le (off := 19) B 37 (by decide +kernel) (by decide) (fun _ => ?_) (fun _ => ?_)
      · exact w_X7_whoCanHave_11_b37 hG M B ih _ _ _
      · refine aw_iload_n (k0 := 3) B 3 (by decide +kernel) rfl rfl ?_
        refine aw_cSR B (c_J6_bitCount_0f7a4 (eLa E) hG v3 M) csX7_56 (Nat.le_of_ble_eq_true rfl) rfl (Nat.le_of_ble_eq_true rfl) (by decide +kernel) rfl (fun x1 => ?_)
        refine aw_iload_n (k0 := 1) B 1 (by decide +kernel) rfl rfl ?_
        refine aw_icmp_ne (off := 11) B 37 (by decide +kernel) (by decide) (fun _ => ?_) (fun _ => ?_)
        · exact w_X7_whoCanHave_11_b37 hG M B ih _ _ _
        · refine aw_iload_n (k0 := 2) B 2 (by decide +kernel) rfl rfl ?_
          refine aw_aload_n (k0 := 0) B 0 (by decide +kernel) rfl rfl ?_
          refine aw_iload_n (k0 := 3) B 3 (by decide +kernel) rfl rfl ?_
          refine aw_cVR B (c_X7_followers_11 (eLa E) hG v3 M) cvX7_52 rfl rfl (Nat.le_of_ble_eq_true rfl) rfl (Nat.le_of_ble_eq_true rfl) (by decide +kernel) rfl (fun x3 => ?_)
          refine aw_ior B (by decide +kernel) ?_
          refine aw_ltI (fun x5 => ?_)
          refine aw_istore_n (k0 := 2) B [(2, .int x5), (0, .ref 11), (1, .int v1), (3, .int v3)] (by decide +kernel) rfl (Nat.le_of_ble_eq_true rfl) rfl ?_
          exact aw_sub [1, 2, 0, 3] rfl (w_X7_whoCanHave_11_b37 hG M B ih _ _ _)
def f_X7_whoCanHave_11 (v1 : Int32) (M : Mem) : Option Int32 := f_X7_whoCanHave_11_L4 M FU v1 (0 : Int32) (0 : Int32)
set_option maxRecDepth 100000 in
set_option maxHeartbeats 4000000 in
theorem w_X7_whoCanHave_11 {G : GW} {E : EE} (hG : ab_ok G) (B : Bx G E RX7 cX7_whoCanHave 4 3 (some .int)) (v1 : Int32) (M : Mem) : AWo G E cX7_whoCanHave 4 (ab_Q G E (embRI M)) 0 [(0, .ref 11), (1, .int v1)] [] M (f_X7_whoCanHave_11 v1 M) := by
  unfold f_X7_whoCanHave_11
  refine aw_iconst (n := 0) (v := (0 : Int32)) B (by decide +kernel) (by decide) ?_
  refine aw_istore_n (k0 := 2) B [(2, .int (0 : Int32)), (0, .ref 11), (1, .int v1)] (by decide +kernel) rfl (Nat.le_of_ble_eq_true rfl) rfl ?_
  refine aw_iconst (n := 0) (v := (0 : Int32)) B (by decide +kernel) (by decide) ?_
  refine aw_istore_n (k0 := 3) B [(3, .int (0 : Int32)), (2, .int (0 : Int32)), (0, .ref 11), (1, .int v1)] (by decide +kernel) rfl (Nat.le_of_ble_eq_true rfl) rfl ?_
  exact aw_sub [2, 3, 1, 0] rfl (w_X7_whoCanHave_11_L4 hG M B FU _ _ _)
theorem c_X7_whoCanHave_11 (l : Launch) {G : GW} (hG : ab_ok G) (v1 : Int32) (M : Mem) : AC l G yX7_whoCanHave cX7_whoCanHave 4 (some .int) 3 [.ref 11, .int v1] M (embRI M) (f_X7_whoCanHave_11 v1 M) := AC.of hG (by decide) (Nat.le_of_ble_eq_true rfl) (fun E hE B => by subst hE; exact w_X7_whoCanHave_11 hG B v1 M)
def f_X7_lastOrNot_11_b33 (M : Mem) (s0 : Int32) (s1 : Int32) : Option Int32 := (some (s1 + s0))
set_option maxRecDepth 100000 in
set_option maxHeartbeats 4000000 in
theorem w_X7_lastOrNot_11_b33 {G : GW} {E : EE} (hG : ab_ok G) (M : Mem) (B : Bx G E RX7 cX7_lastOrNot 4 4 (some .int)) (s0 : Int32) (s1 : Int32) : AWo G E cX7_lastOrNot 4 (ab_Q G E (embRI M)) 33 [] [.int s0, .int s1] M (f_X7_lastOrNot_11_b33 M s0 s1) := by
  unfold f_X7_lastOrNot_11_b33
  refine aw_iadd B (by decide +kernel) ?_
  exact aw_ireturn B (by decide +kernel) rfl
def f_X7_lastOrNot_11 (v1 : Int32) (M : Mem) : Option Int32 := (f_X7_whoCanHave_11 ((M.1 11 0) - (1 : Int32)) M).bind fun x1 => lt (x1 &&& ((ab_shl (1 : Int32) v1) ^^^ (-1 : Int32))) fun x3 => (if x3 = 0 then f_X7_lastOrNot_11_b33 M (0 : Int32) ((ab_shr x1 v1) &&& (1 : Int32)) else f_X7_lastOrNot_11_b33 M (1 : Int32) ((ab_shr x1 v1) &&& (1 : Int32)))
set_option maxRecDepth 100000 in
set_option maxHeartbeats 4000000 in
theorem w_X7_lastOrNot_11 {G : GW} {E : EE} (hG : ab_ok G) (B : Bx G E RX7 cX7_lastOrNot 4 4 (some .int)) (v1 : Int32) (M : Mem) : AWo G E cX7_lastOrNot 4 (ab_Q G E (embRI M)) 0 [(0, .ref 11), (1, .int v1)] [] M (f_X7_lastOrNot_11 v1 M) := by
  unfold f_X7_lastOrNot_11
  refine aw_aload_n (k0 := 0) B 0 (by decide +kernel) rfl rfl ?_
  refine aw_aload_n (k0 := 0) B 0 (by decide +kernel) rfl rfl ?_
  refine aw_geti (c := 11) B lkX7_18 (by decide +kernel) rfl ?_
  refine aw_iconst (n := 1) (v := (1 : Int32)) B (by decide +kernel) (by decide) ?_
  refine aw_isub B (by decide +kernel) ?_
  refine aw_cVR B (c_X7_whoCanHave_11 (eLa E) hG ((M.1 11 0) - (1 : Int32)) M) cvX7_68 rfl rfl (Nat.le_of_ble_eq_true rfl) rfl (Nat.le_of_ble_eq_true rfl) (by decide +kernel) rfl (fun x1 => ?_)
  refine aw_istore_n (k0 := 2) B [(2, .int x1), (0, .ref 11), (1, .int v1)] (by decide +kernel) rfl (Nat.le_of_ble_eq_true rfl) rfl ?_
  refine aw_iload_n (k0 := 2) B 0 (by decide +kernel) rfl rfl ?_
  refine aw_iconst (n := 1) (v := (1 : Int32)) B (by decide +kernel) (by decide) ?_
  refine aw_iload_n (k0 := 1) B 2 (by decide +kernel) rfl rfl ?_
  refine aw_ishl B (by decide +kernel) ?_
  refine aw_iconst (n := -1) (v := (-1 : Int32)) B (by decide +kernel) (by decide) ?_
  refine aw_ixor B (by decide +kernel) ?_
  refine aw_iand B (by decide +kernel) ?_
  refine aw_ltI (fun x3 => ?_)
  refine aw_istore_n (k0 := 3) B [(3, .int x3), (2, .int x1), (0, .ref 11), (1, .int v1)] (by decide +kernel) rfl (Nat.le_of_ble_eq_true rfl) rfl ?_
  refine aw_iload_n (k0 := 2) B 1 (by decide +kernel) rfl rfl ?_
  refine aw_iload_n (k0 := 1) B 3 (by decide +kernel) rfl rfl ?_
  refine aw_ishr B (by decide +kernel) ?_
  refine aw_iconst (n := 1) (v := (1 : Int32)) B (by decide +kernel) (by decide) ?_
  refine aw_iand B (by decide +kernel) ?_
  refine aw_iload_n (k0 := 3) B 0 (by decide +kernel) rfl rfl ?_
  refine aw_if_eq (off := 7) B 32 (by decide +kernel) (by decide) (fun _ => ?_) (fun _ => ?_)
  · refine aw_iconst (n := 0) (v := (0 : Int32)) B (by decide +kernel) (by decide) ?_
    exact aw_sub [] rfl (w_X7_lastOrNot_11_b33 hG M B _ _)
  · refine aw_iconst (n := 1) (v := (1 : Int32)) B (by decide +kernel) (by decide) ?_
    refine aw_goto (off := 4) B 33 (by decide +kernel) (by decide) ?_
    exact aw_sub [] rfl (w_X7_lastOrNot_11_b33 hG M B _ _)
theorem c_X7_lastOrNot_11 (l : Launch) {G : GW} (hG : ab_ok G) (v1 : Int32) (M : Mem) : AC l G yX7_lastOrNot cX7_lastOrNot 4 (some .int) 4 [.ref 11, .int v1] M (embRI M) (f_X7_lastOrNot_11 v1 M) := AC.of hG (by decide) (Nat.le_of_ble_eq_true rfl) (fun E hE B => by subst hE; exact w_X7_lastOrNot_11 hG B v1 M)
def f_X7_setsOfFirst_11_b32 (k4 : Int32 → Int32 → Int32 → Option Int32) (M : Mem) (v1 : Int32) (v2 : Int32) (v3 : Int32) : Option Int32 := k4 v1 v2 (v3 + 1)
set_option maxRecDepth 100000 in
set_option maxHeartbeats 4000000 in
theorem w_X7_setsOfFirst_11_b32 {G : GW} {E : EE} (hG : ab_ok G) (M : Mem) {k4 : Int32 → Int32 → Int32 → Option Int32} (B : Bx G E RX7 cX7_setsOfFirst 4 3 (some .int)) (hk4 : ∀ (v1 : Int32) (v2 : Int32) (v3 : Int32), AWo G E cX7_setsOfFirst 4 (ab_Q G E (embRI M)) 4 [(0, .ref 11), (1, .int v1), (2, .int v2), (3, .int v3)] [] M (k4 v1 v2 v3)) (v1 : Int32) (v2 : Int32) (v3 : Int32) : AWo G E cX7_setsOfFirst 4 (ab_Q G E (embRI M)) 32 [(0, .ref 11), (1, .int v1), (2, .int v2), (3, .int v3)] [] M (f_X7_setsOfFirst_11_b32 k4 M v1 v2 v3) := by
  unfold f_X7_setsOfFirst_11_b32
  refine aw_iinc (i := 3) (n := 1) B 3 [(3, .int (v3 + 1)), (0, .ref 11), (1, .int v1), (2, .int v2)] (by decide +kernel) rfl (Nat.le_of_ble_eq_true rfl) (v3 + 1) (ab_inc (by decide)) rfl ?_
  refine aw_goto (off := -31) B 4 (by decide +kernel) (by decide) ?_
  exact aw_sub [1, 2, 3, 0] rfl (hk4 _ _ _)
def f_X7_setsOfFirst_11_L4 (M : Mem) : Nat → Int32 → Int32 → Int32 → Option Int32
  | 0, _, _, _ => none
  | n + 1, v1, v2, v3 => (if (M.1 11 2) < v3 then (some v2) else ck (okI 13 v3) ((if (M.1 13 v3.toNatClampNeg) ≤ 0 then f_X7_setsOfFirst_11_b32 (fun a0 a1 a2 => f_X7_setsOfFirst_11_L4 M n a0 a1 a2) M v1 v2 v3 else (f_J6_bitCount_0f7a4 v3).bind fun x1 => (if x1 = v1 then f_X7_setsOfFirst_11_b32 (fun a0 a1 a2 => f_X7_setsOfFirst_11_L4 M n a0 a1 a2) M v1 (v2 + 1) v3 else f_X7_setsOfFirst_11_b32 (fun a0 a1 a2 => f_X7_setsOfFirst_11_L4 M n a0 a1 a2) M v1 v2 v3))))
set_option maxRecDepth 100000 in
set_option maxHeartbeats 4000000 in
theorem w_X7_setsOfFirst_11_L4 {G : GW} {E : EE} (hG : ab_ok G) (M : Mem) (B : Bx G E RX7 cX7_setsOfFirst 4 3 (some .int)) : ∀ (n : Nat) (v1 : Int32) (v2 : Int32) (v3 : Int32), AWo G E cX7_setsOfFirst 4 (ab_Q G E (embRI M)) 4 [(0, .ref 11), (1, .int v1), (2, .int v2), (3, .int v3)] [] M (f_X7_setsOfFirst_11_L4 M n v1 v2 v3) := by
  intro n
  induction n with
  | zero => intro _ _ _; exact aw_none
  | succ n ih =>
    intro v1 v2 v3
    rw [f_X7_setsOfFirst_11_L4]
    refine aw_iload_n (k0 := 3) B 3 (by decide +kernel) rfl rfl ?_
    refine aw_aload_n (k0 := 0) B 0 (by decide +kernel) rfl rfl ?_
    refine aw_geti (c := 11) B lkX7_22 (by decide +kernel) rfl ?_
    refine aw_icmp_gt (off := 29) B 38 (by decide +kernel) (by decide) (fun _ => ?_) (fun _ => ?_)
    · refine aw_iload_n (k0 := 2) B 2 (by decide +kernel) rfl rfl ?_
      exact aw_ireturn B (by decide +kernel) rfl
    · refine aw_aload_n (k0 := 0) B 0 (by decide +kernel) rfl rfl ?_
      refine aw_getr (c := 11) B lkX7_15 (by decide +kernel) rfl (r := 13) rfl ?_
      refine aw_iload_n (k0 := 3) B 3 (by decide +kernel) rfl rfl ?_
      refine aw_iaload B (by decide +kernel) ?_
      refine aw_if_le (off := 14) B 32 (by decide +kernel) (by decide) (fun _ => ?_) (fun _ => ?_)
      · exact w_X7_setsOfFirst_11_b32 hG M B ih _ _ _
      · refine aw_iload_n (k0 := 3) B 3 (by decide +kernel) rfl rfl ?_
        refine aw_cSR B (c_J6_bitCount_0f7a4 (eLa E) hG v3 M) csX7_56 (Nat.le_of_ble_eq_true rfl) rfl (Nat.le_of_ble_eq_true rfl) (by decide +kernel) rfl (fun x1 => ?_)
        refine aw_iload_n (k0 := 1) B 1 (by decide +kernel) rfl rfl ?_
        refine aw_icmp_ne (off := 6) B 32 (by decide +kernel) (by decide) (fun _ => ?_) (fun _ => ?_)
        · exact w_X7_setsOfFirst_11_b32 hG M B ih _ _ _
        · refine aw_iinc (i := 2) (n := 1) B 2 [(2, .int (v2 + 1)), (0, .ref 11), (1, .int v1), (3, .int v3)] (by decide +kernel) rfl (Nat.le_of_ble_eq_true rfl) (v2 + 1) (ab_inc (by decide)) rfl ?_
          exact aw_sub [1, 2, 0, 3] rfl (w_X7_setsOfFirst_11_b32 hG M B ih _ _ _)
def f_X7_setsOfFirst_11 (v1 : Int32) (M : Mem) : Option Int32 := f_X7_setsOfFirst_11_L4 M FU v1 (0 : Int32) (0 : Int32)
set_option maxRecDepth 100000 in
set_option maxHeartbeats 4000000 in
theorem w_X7_setsOfFirst_11 {G : GW} {E : EE} (hG : ab_ok G) (B : Bx G E RX7 cX7_setsOfFirst 4 3 (some .int)) (v1 : Int32) (M : Mem) : AWo G E cX7_setsOfFirst 4 (ab_Q G E (embRI M)) 0 [(0, .ref 11), (1, .int v1)] [] M (f_X7_setsOfFirst_11 v1 M) := by
  unfold f_X7_setsOfFirst_11
  refine aw_iconst (n := 0) (v := (0 : Int32)) B (by decide +kernel) (by decide) ?_
  refine aw_istore_n (k0 := 2) B [(2, .int (0 : Int32)), (0, .ref 11), (1, .int v1)] (by decide +kernel) rfl (Nat.le_of_ble_eq_true rfl) rfl ?_
  refine aw_iconst (n := 0) (v := (0 : Int32)) B (by decide +kernel) (by decide) ?_
  refine aw_istore_n (k0 := 3) B [(3, .int (0 : Int32)), (2, .int (0 : Int32)), (0, .ref 11), (1, .int v1)] (by decide +kernel) rfl (Nat.le_of_ble_eq_true rfl) rfl ?_
  exact aw_sub [2, 3, 1, 0] rfl (w_X7_setsOfFirst_11_L4 hG M B FU _ _ _)
theorem c_X7_setsOfFirst_11 (l : Launch) {G : GW} (hG : ab_ok G) (v1 : Int32) (M : Mem) : AC l G yX7_setsOfFirst cX7_setsOfFirst 4 (some .int) 3 [.ref 11, .int v1] M (embRI M) (f_X7_setsOfFirst_11 v1 M) := AC.of hG (by decide) (Nat.le_of_ble_eq_true rfl) (fun E hE B => by subst hE; exact w_X7_setsOfFirst_11 hG B v1 M)
def f_X7_bestAndLast_11 (M : Mem) : Option Int32 := (if (M.1 11 0) = (1 : Int32) then (some (1 : Int32)) else (f_X7_followers_11 (0 : Int32) M).bind fun x1 => (f_X7_whoCanHave_11 ((M.1 11 0) - (1 : Int32)) M).bind fun x3 => (f_J6_bitCount_0f7a4 x1).bind fun x5 => (f_J6_bitCount_0f7a4 x3).bind fun x7 => (f_J6_bitCount_0f7a4 (x1 &&& x3)).bind fun x9 => (some ((x5 * x7) - x9)))
set_option maxRecDepth 100000 in
set_option maxHeartbeats 4000000 in
theorem w_X7_bestAndLast_11 {G : GW} {E : EE} (hG : ab_ok G) (B : Bx G E RX7 cX7_bestAndLast 3 4 (some .int)) (M : Mem) : AWo G E cX7_bestAndLast 3 (ab_Q G E (embRI M)) 0 [(0, .ref 11)] [] M (f_X7_bestAndLast_11 M) := by
  unfold f_X7_bestAndLast_11
  refine aw_aload_n (k0 := 0) B 0 (by decide +kernel) rfl rfl ?_
  refine aw_geti (c := 11) B lkX7_18 (by decide +kernel) rfl ?_
  refine aw_iconst (n := 1) (v := (1 : Int32)) B (by decide +kernel) (by decide) ?_
  refine aw_icmp_ne (off := 5) B 10 (by decide +kernel) (by decide) (fun _ => ?_) (fun _ => ?_)
  · refine aw_aload_n (k0 := 0) B 0 (by decide +kernel) rfl rfl ?_
    refine aw_iconst (n := 0) (v := (0 : Int32)) B (by decide +kernel) (by decide) ?_
    refine aw_cVR B (c_X7_followers_11 (eLa E) hG (0 : Int32) M) cvX7_52 rfl rfl (Nat.le_of_ble_eq_true rfl) rfl (Nat.le_of_ble_eq_true rfl) (by decide +kernel) rfl (fun x1 => ?_)
    refine aw_istore_n (k0 := 1) B [(1, .int x1), (0, .ref 11)] (by decide +kernel) rfl (Nat.le_of_ble_eq_true rfl) rfl ?_
    refine aw_aload_n (k0 := 0) B 1 (by decide +kernel) rfl rfl ?_
    refine aw_aload_n (k0 := 0) B 1 (by decide +kernel) rfl rfl ?_
    refine aw_geti (c := 11) B lkX7_18 (by decide +kernel) rfl ?_
    refine aw_iconst (n := 1) (v := (1 : Int32)) B (by decide +kernel) (by decide) ?_
    refine aw_isub B (by decide +kernel) ?_
    refine aw_cVR B (c_X7_whoCanHave_11 (eLa E) hG ((M.1 11 0) - (1 : Int32)) M) cvX7_68 rfl rfl (Nat.le_of_ble_eq_true rfl) rfl (Nat.le_of_ble_eq_true rfl) (by decide +kernel) rfl (fun x3 => ?_)
    refine aw_istore_n (k0 := 2) B [(2, .int x3), (1, .int x1), (0, .ref 11)] (by decide +kernel) rfl (Nat.le_of_ble_eq_true rfl) rfl ?_
    refine aw_iload_n (k0 := 1) B 1 (by decide +kernel) rfl rfl ?_
    refine aw_cSR B (c_J6_bitCount_0f7a4 (eLa E) hG x1 M) csX7_56 (Nat.le_of_ble_eq_true rfl) rfl (Nat.le_of_ble_eq_true rfl) (by decide +kernel) rfl (fun x5 => ?_)
    refine aw_iload_n (k0 := 2) B 0 (by decide +kernel) rfl rfl ?_
    refine aw_cSR B (c_J6_bitCount_0f7a4 (eLa E) hG x3 M) csX7_56 (Nat.le_of_ble_eq_true rfl) rfl (Nat.le_of_ble_eq_true rfl) (by decide +kernel) rfl (fun x7 => ?_)
    refine aw_imul B (by decide +kernel) ?_
    refine aw_iload_n (k0 := 1) B 1 (by decide +kernel) rfl rfl ?_
    refine aw_iload_n (k0 := 2) B 0 (by decide +kernel) rfl rfl ?_
    refine aw_iand B (by decide +kernel) ?_
    refine aw_cSR B (c_J6_bitCount_0f7a4 (eLa E) hG (x1 &&& x3) M) csX7_56 (Nat.le_of_ble_eq_true rfl) rfl (Nat.le_of_ble_eq_true rfl) (by decide +kernel) rfl (fun x9 => ?_)
    refine aw_isub B (by decide +kernel) ?_
    exact aw_ireturn B (by decide +kernel) rfl
  · refine aw_iconst (n := 1) (v := (1 : Int32)) B (by decide +kernel) (by decide) ?_
    exact aw_ireturn B (by decide +kernel) rfl
theorem c_X7_bestAndLast_11 (l : Launch) {G : GW} (hG : ab_ok G) (M : Mem) : AC l G yX7_bestAndLast cX7_bestAndLast 3 (some .int) 4 [.ref 11] M (embRI M) (f_X7_bestAndLast_11 M) := AC.of hG (by decide) (Nat.le_of_ble_eq_true rfl) (fun E hE B => by subst hE; exact w_X7_bestAndLast_11 hG B M)
def f_X7_bestAndSecond_11_b50 (k20 : Int32 → Int32 → Int32 → Option Int32) (M : Mem) (v1 : Int32) (v2 : Int32) (v3 : Int32) : Option Int32 := k20 v1 v2 (v3 + 1)
set_option maxRecDepth 100000 in
set_option maxHeartbeats 4000000 in
theorem w_X7_bestAndSecond_11_b50 {G : GW} {E : EE} (hG : ab_ok G) (M : Mem) {k20 : Int32 → Int32 → Int32 → Option Int32} (B : Bx G E RX7 cX7_bestAndSecond 4 3 (some .int)) (hk20 : ∀ (v1 : Int32) (v2 : Int32) (v3 : Int32), AWo G E cX7_bestAndSecond 4 (ab_Q G E (embRI M)) 20 [(0, .ref 11), (1, .int v1), (2, .int v2), (3, .int v3)] [] M (k20 v1 v2 v3)) (v1 : Int32) (v2 : Int32) (v3 : Int32) : AWo G E cX7_bestAndSecond 4 (ab_Q G E (embRI M)) 50 [(0, .ref 11), (1, .int v1), (2, .int v2), (3, .int v3)] [] M (f_X7_bestAndSecond_11_b50 k20 M v1 v2 v3) := by
  unfold f_X7_bestAndSecond_11_b50
  refine aw_iinc (i := 3) (n := 1) B 3 [(3, .int (v3 + 1)), (0, .ref 11), (1, .int v1), (2, .int v2)] (by decide +kernel) rfl (Nat.le_of_ble_eq_true rfl) (v3 + 1) (ab_inc (by decide)) rfl ?_
  refine aw_goto (off := -33) B 20 (by decide +kernel) (by decide) ?_
  exact aw_sub [1, 2, 3, 0] rfl (hk20 _ _ _)
def f_X7_bestAndSecond_11_L20 (M : Mem) : Nat → Int32 → Int32 → Int32 → Option Int32
  | 0, _, _, _ => none
  | n + 1, v1, v2, v3 => (if (M.1 11 0) ≤ v3 then (some v2) else (if ((ab_shr v1 v3) &&& (1 : Int32)) = (1 : Int32) then (f_X7_followers_11 (ab_shl (1 : Int32) v3) M).bind fun x1 => (f_J6_bitCount_0f7a4 x1).bind fun x3 => lt (v2 + x3) fun x5 => f_X7_bestAndSecond_11_b50 (fun a0 a1 a2 => f_X7_bestAndSecond_11_L20 M n a0 a1 a2) M v1 x5 v3 else f_X7_bestAndSecond_11_b50 (fun a0 a1 a2 => f_X7_bestAndSecond_11_L20 M n a0 a1 a2) M v1 v2 v3))
set_option maxRecDepth 100000 in
set_option maxHeartbeats 4000000 in
theorem w_X7_bestAndSecond_11_L20 {G : GW} {E : EE} (hG : ab_ok G) (M : Mem) (B : Bx G E RX7 cX7_bestAndSecond 4 3 (some .int)) : ∀ (n : Nat) (v1 : Int32) (v2 : Int32) (v3 : Int32), AWo G E cX7_bestAndSecond 4 (ab_Q G E (embRI M)) 20 [(0, .ref 11), (1, .int v1), (2, .int v2), (3, .int v3)] [] M (f_X7_bestAndSecond_11_L20 M n v1 v2 v3) := by
  intro n
  induction n with
  | zero => intro _ _ _; exact aw_none
  | succ n ih =>
    intro v1 v2 v3
    rw [f_X7_bestAndSecond_11_L20]
    refine aw_iload_n (k0 := 3) B 3 (by decide +kernel) rfl rfl ?_
    refine aw_aload_n (k0 := 0) B 0 (by decide +kernel) rfl rfl ?_
    refine aw_geti (c := 11) B lkX7_18 (by decide +kernel) rfl ?_
    refine aw_icmp_ge (off := 31) B 56 (by decide +kernel) (by decide) (fun _ => ?_) (fun _ => ?_)
    · refine aw_iload_n (k0 := 2) B 2 (by decide +kernel) rfl rfl ?_
      exact aw_ireturn B (by decide +kernel) rfl
    · refine aw_iload_n (k0 := 1) B 1 (by decide +kernel) rfl rfl ?_
      refine aw_iload_n (k0 := 3) B 3 (by decide +kernel) rfl rfl ?_
      refine aw_ishr B (by decide +kernel) ?_
      refine aw_iconst (n := 1) (v := (1 : Int32)) B (by decide +kernel) (by decide) ?_
      refine aw_iand B (by decide +kernel) ?_
      refine aw_iconst (n := 1) (v := (1 : Int32)) B (by decide +kernel) (by decide) ?_
      refine aw_icmp_ne (off := 16) B 50 (by decide +kernel) (by decide) (fun _ => ?_) (fun _ => ?_)
      · exact w_X7_bestAndSecond_11_b50 hG M B ih _ _ _
      · refine aw_iload_n (k0 := 2) B 2 (by decide +kernel) rfl rfl ?_
        refine aw_aload_n (k0 := 0) B 0 (by decide +kernel) rfl rfl ?_
        refine aw_iconst (n := 1) (v := (1 : Int32)) B (by decide +kernel) (by decide) ?_
        refine aw_iload_n (k0 := 3) B 3 (by decide +kernel) rfl rfl ?_
        refine aw_ishl B (by decide +kernel) ?_
        refine aw_cVR B (c_X7_followers_11 (eLa E) hG (ab_shl (1 : Int32) v3) M) cvX7_52 rfl rfl (Nat.le_of_ble_eq_true rfl) rfl (Nat.le_of_ble_eq_true rfl) (by decide +kernel) rfl (fun x1 => ?_)
        refine aw_cSR B (c_J6_bitCount_0f7a4 (eLa E) hG x1 M) csX7_56 (Nat.le_of_ble_eq_true rfl) rfl (Nat.le_of_ble_eq_true rfl) (by decide +kernel) rfl (fun x3 => ?_)
        refine aw_iadd B (by decide +kernel) ?_
        refine aw_ltI (fun x5 => ?_)
        refine aw_istore_n (k0 := 2) B [(2, .int x5), (0, .ref 11), (1, .int v1), (3, .int v3)] (by decide +kernel) rfl (Nat.le_of_ble_eq_true rfl) rfl ?_
        exact aw_sub [1, 2, 0, 3] rfl (w_X7_bestAndSecond_11_b50 hG M B ih _ _ _)
def f_X7_bestAndSecond_11 (M : Mem) : Option Int32 := (if (M.1 11 0) = (1 : Int32) then (some (1 : Int32)) else (f_X7_followers_11 (0 : Int32) M).bind fun x1 => f_X7_bestAndSecond_11_L20 M FU x1 (0 : Int32) (0 : Int32))
set_option maxRecDepth 100000 in
set_option maxHeartbeats 4000000 in
theorem w_X7_bestAndSecond_11 {G : GW} {E : EE} (hG : ab_ok G) (B : Bx G E RX7 cX7_bestAndSecond 4 3 (some .int)) (M : Mem) : AWo G E cX7_bestAndSecond 4 (ab_Q G E (embRI M)) 0 [(0, .ref 11)] [] M (f_X7_bestAndSecond_11 M) := by
  unfold f_X7_bestAndSecond_11
  refine aw_aload_n (k0 := 0) B 0 (by decide +kernel) rfl rfl ?_
  refine aw_geti (c := 11) B lkX7_18 (by decide +kernel) rfl ?_
  refine aw_iconst (n := 1) (v := (1 : Int32)) B (by decide +kernel) (by decide) ?_
  refine aw_icmp_ne (off := 5) B 10 (by decide +kernel) (by decide) (fun _ => ?_) (fun _ => ?_)
  · refine aw_aload_n (k0 := 0) B 0 (by decide +kernel) rfl rfl ?_
    refine aw_iconst (n := 0) (v := (0 : Int32)) B (by decide +kernel) (by decide) ?_
    refine aw_cVR B (c_X7_followers_11 (eLa E) hG (0 : Int32) M) cvX7_52 rfl rfl (Nat.le_of_ble_eq_true rfl) rfl (Nat.le_of_ble_eq_true rfl) (by decide +kernel) rfl (fun x1 => ?_)
    refine aw_istore_n (k0 := 1) B [(1, .int x1), (0, .ref 11)] (by decide +kernel) rfl (Nat.le_of_ble_eq_true rfl) rfl ?_
    refine aw_iconst (n := 0) (v := (0 : Int32)) B (by decide +kernel) (by decide) ?_
    refine aw_istore_n (k0 := 2) B [(2, .int (0 : Int32)), (1, .int x1), (0, .ref 11)] (by decide +kernel) rfl (Nat.le_of_ble_eq_true rfl) rfl ?_
    refine aw_iconst (n := 0) (v := (0 : Int32)) B (by decide +kernel) (by decide) ?_
    refine aw_istore_n (k0 := 3) B [(3, .int (0 : Int32)), (2, .int (0 : Int32)), (1, .int x1), (0, .ref 11)] (by decide +kernel) rfl (Nat.le_of_ble_eq_true rfl) rfl ?_
    exact aw_sub [3, 2, 1, 0] rfl (w_X7_bestAndSecond_11_L20 hG M B FU _ _ _)
  · refine aw_iconst (n := 1) (v := (1 : Int32)) B (by decide +kernel) (by decide) ?_
    exact aw_ireturn B (by decide +kernel) rfl
theorem c_X7_bestAndSecond_11 (l : Launch) {G : GW} (hG : ab_ok G) (M : Mem) : AC l G yX7_bestAndSecond cX7_bestAndSecond 4 (some .int) 3 [.ref 11] M (embRI M) (f_X7_bestAndSecond_11 M) := AC.of hG (by decide) (Nat.le_of_ble_eq_true rfl) (fun E hE B => by subst hE; exact w_X7_bestAndSecond_11 hG B M)
def f_X7_answers_11 (v1 : Int32) (v2 : Int32) (M : Mem) : Option Int32 := (f_X7_all_11 M).bind fun x1 => (if x1 = 0 then (some (0 : Int32)) else (if v1 = (0 : Int32) then (f_X7_followers_11 (0 : Int32) M).bind fun x3 => (f_J6_bitCount_0f7a4 x3).bind fun x5 => (some x5) else if v1 = (1 : Int32) then (f_X7_bestAndSecond_11 M).bind fun x7 => (some x7) else if v1 = (2 : Int32) then (f_X7_whoCanHave_11 v2 M).bind fun x9 => (f_J6_bitCount_0f7a4 x9).bind fun x11 => (some x11) else if v1 = (3 : Int32) then (f_X7_bestAndLast_11 M).bind fun x13 => (some x13) else if v1 = (4 : Int32) then (f_X7_all_11 M).bind fun x15 => (some x15) else if v1 = (5 : Int32) then (f_X7_setsOfFirst_11 v2 M).bind fun x17 => (some x17) else (f_X7_lastOrNot_11 v2 M).bind fun x19 => (some x19)))
set_option maxRecDepth 100000 in
set_option maxHeartbeats 4000000 in
theorem w_X7_answers_11 {G : GW} {E : EE} (hG : ab_ok G) (B : Bx G E RX7 cX7_answers 3 5 (some .int)) (v1 : Int32) (v2 : Int32) (M : Mem) : AWo G E cX7_answers 3 (ab_Q G E (embRI M)) 0 [(0, .ref 11), (1, .int v1), (2, .int v2)] [] M (f_X7_answers_11 v1 v2 M) := by
  unfold f_X7_answers_11
  refine aw_aload_n (k0 := 0) B 0 (by decide +kernel) rfl rfl ?_
  refine aw_cVR B (c_X7_all_11 (eLa E) hG M) cvX7_61 rfl rfl (Nat.le_of_ble_eq_true rfl) rfl (Nat.le_of_ble_eq_true rfl) (by decide +kernel) rfl (fun x1 => ?_)
  refine aw_if_ne (off := 5) B 9 (by decide +kernel) (by decide) (fun _ => ?_) (fun _ => ?_)
  · refine aw_iload_n (k0 := 1) B 1 (by decide +kernel) rfl rfl ?_
    refine aw_ite (fun h10_0 => ?_) (fun h10_0 => ?_)
    · refine aw_tin (k0 := (0 : Int32)) (dflt := 77) (lo := 0) (hi := 5) (offs := #[38, 47, 52, 61, 66, 71]) (len := 38) (off := 38) B 48 (by decide +kernel) h10_0 (by decide) (by decide) (by decide +kernel) (by decide) ?_
      refine aw_aload_n (k0 := 0) B 0 (by decide +kernel) rfl rfl ?_
      refine aw_iconst (n := 0) (v := (0 : Int32)) B (by decide +kernel) (by decide) ?_
      refine aw_cVR B (c_X7_followers_11 (eLa E) hG (0 : Int32) M) cvX7_52 rfl rfl (Nat.le_of_ble_eq_true rfl) rfl (Nat.le_of_ble_eq_true rfl) (by decide +kernel) rfl (fun x3 => ?_)
      refine aw_cSR B (c_J6_bitCount_0f7a4 (eLa E) hG x3 M) csX7_56 (Nat.le_of_ble_eq_true rfl) rfl (Nat.le_of_ble_eq_true rfl) (by decide +kernel) rfl (fun x5 => ?_)
      exact aw_ireturn B (by decide +kernel) rfl
    refine aw_ite (fun h10_1 => ?_) (fun h10_1 => ?_)
    · refine aw_tin (k0 := (1 : Int32)) (dflt := 77) (lo := 0) (hi := 5) (offs := #[38, 47, 52, 61, 66, 71]) (len := 38) (off := 47) B 57 (by decide +kernel) h10_1 (by decide) (by decide) (by decide +kernel) (by decide) ?_
      refine aw_aload_n (k0 := 0) B 0 (by decide +kernel) rfl rfl ?_
      refine aw_cVR B (c_X7_bestAndSecond_11 (eLa E) hG M) cvX7_65 rfl rfl (Nat.le_of_ble_eq_true rfl) rfl (Nat.le_of_ble_eq_true rfl) (by decide +kernel) rfl (fun x7 => ?_)
      exact aw_ireturn B (by decide +kernel) rfl
    refine aw_ite (fun h10_2 => ?_) (fun h10_2 => ?_)
    · refine aw_tin (k0 := (2 : Int32)) (dflt := 77) (lo := 0) (hi := 5) (offs := #[38, 47, 52, 61, 66, 71]) (len := 38) (off := 52) B 62 (by decide +kernel) h10_2 (by decide) (by decide) (by decide +kernel) (by decide) ?_
      refine aw_aload_n (k0 := 0) B 0 (by decide +kernel) rfl rfl ?_
      refine aw_iload_n (k0 := 2) B 2 (by decide +kernel) rfl rfl ?_
      refine aw_cVR B (c_X7_whoCanHave_11 (eLa E) hG v2 M) cvX7_68 rfl rfl (Nat.le_of_ble_eq_true rfl) rfl (Nat.le_of_ble_eq_true rfl) (by decide +kernel) rfl (fun x9 => ?_)
      refine aw_cSR B (c_J6_bitCount_0f7a4 (eLa E) hG x9 M) csX7_56 (Nat.le_of_ble_eq_true rfl) rfl (Nat.le_of_ble_eq_true rfl) (by decide +kernel) rfl (fun x11 => ?_)
      exact aw_ireturn B (by decide +kernel) rfl
    refine aw_ite (fun h10_3 => ?_) (fun h10_3 => ?_)
    · refine aw_tin (k0 := (3 : Int32)) (dflt := 77) (lo := 0) (hi := 5) (offs := #[38, 47, 52, 61, 66, 71]) (len := 38) (off := 61) B 71 (by decide +kernel) h10_3 (by decide) (by decide) (by decide +kernel) (by decide) ?_
      refine aw_aload_n (k0 := 0) B 0 (by decide +kernel) rfl rfl ?_
      refine aw_cVR B (c_X7_bestAndLast_11 (eLa E) hG M) cvX7_71 rfl rfl (Nat.le_of_ble_eq_true rfl) rfl (Nat.le_of_ble_eq_true rfl) (by decide +kernel) rfl (fun x13 => ?_)
      exact aw_ireturn B (by decide +kernel) rfl
    refine aw_ite (fun h10_4 => ?_) (fun h10_4 => ?_)
    · refine aw_tin (k0 := (4 : Int32)) (dflt := 77) (lo := 0) (hi := 5) (offs := #[38, 47, 52, 61, 66, 71]) (len := 38) (off := 66) B 76 (by decide +kernel) h10_4 (by decide) (by decide) (by decide +kernel) (by decide) ?_
      refine aw_aload_n (k0 := 0) B 0 (by decide +kernel) rfl rfl ?_
      refine aw_cVR B (c_X7_all_11 (eLa E) hG M) cvX7_61 rfl rfl (Nat.le_of_ble_eq_true rfl) rfl (Nat.le_of_ble_eq_true rfl) (by decide +kernel) rfl (fun x15 => ?_)
      exact aw_ireturn B (by decide +kernel) rfl
    refine aw_ite (fun h10_5 => ?_) (fun h10_5 => ?_)
    · refine aw_tin (k0 := (5 : Int32)) (dflt := 77) (lo := 0) (hi := 5) (offs := #[38, 47, 52, 61, 66, 71]) (len := 38) (off := 71) B 81 (by decide +kernel) h10_5 (by decide) (by decide) (by decide +kernel) (by decide) ?_
      refine aw_aload_n (k0 := 0) B 0 (by decide +kernel) rfl rfl ?_
      refine aw_iload_n (k0 := 2) B 2 (by decide +kernel) rfl rfl ?_
      refine aw_cVR B (c_X7_setsOfFirst_11 (eLa E) hG v2 M) cvX7_74 rfl rfl (Nat.le_of_ble_eq_true rfl) rfl (Nat.le_of_ble_eq_true rfl) (by decide +kernel) rfl (fun x17 => ?_)
      exact aw_ireturn B (by decide +kernel) rfl
    · refine aw_tout (dflt := 77) (lo := 0) (hi := 5) (offs := #[38, 47, 52, 61, 66, 71]) (len := 38) B 87 (by decide +kernel) (by have qh10_0 := lv_neT (a := 0) h10_0 (by decide); have qh10_1 := lv_neT (a := 1) h10_1 (by decide); have qh10_2 := lv_neT (a := 2) h10_2 (by decide); have qh10_3 := lv_neT (a := 3) h10_3 (by decide); have qh10_4 := lv_neT (a := 4) h10_4 (by decide); have qh10_5 := lv_neT (a := 5) h10_5 (by decide); omega) (by decide) ?_
      refine aw_aload_n (k0 := 0) B 0 (by decide +kernel) rfl rfl ?_
      refine aw_iload_n (k0 := 2) B 2 (by decide +kernel) rfl rfl ?_
      refine aw_cVR B (c_X7_lastOrNot_11 (eLa E) hG v2 M) cvX7_77 rfl rfl (Nat.le_of_ble_eq_true rfl) rfl (Nat.le_of_ble_eq_true rfl) (by decide +kernel) rfl (fun x19 => ?_)
      exact aw_ireturn B (by decide +kernel) rfl
  · refine aw_iconst (n := 0) (v := (0 : Int32)) B (by decide +kernel) (by decide) ?_
    exact aw_ireturn B (by decide +kernel) rfl
theorem c_X7_answers_11 (l : Launch) {G : GW} (hG : ab_ok G) (v1 : Int32) (v2 : Int32) (M : Mem) : AC l G yX7_answers cX7_answers 3 (some .int) 5 [.ref 11, .int v1, .int v2] M (embRI M) (f_X7_answers_11 v1 v2 M) := AC.of hG (by decide) (Nat.le_of_ble_eq_true rfl) (fun E hE B => by subst hE; exact w_X7_answers_11 hG B v1 v2 M)
def f_X10_bound_L4 : Nat → Int32 → Int32 → Int32 → Option Int32
  | 0, _, _, _ => none
  | n + 1, v0, v1, v2 => (if v0 ≤ v2 then (some v1) else (if (30 : Int32) ≤ v1 then (some v1) else lt (v2 * (2 : Int32)) fun x1 => f_X10_bound_L4 n v0 (v1 + 1) x1))
set_option maxRecDepth 100000 in
set_option maxHeartbeats 4000000 in
theorem w_X10_bound_L4 {G : GW} {E : EE} (hG : ab_ok G) (M : Mem) (B : Bx G E RX10 cX10_bound 3 2 (some .int)) : ∀ (n : Nat) (v0 : Int32) (v1 : Int32) (v2 : Int32), AWo G E cX10_bound 3 (ab_Q G E (embRI M)) 4 [(0, .int v0), (1, .int v1), (2, .int v2)] [] M (f_X10_bound_L4 n v0 v1 v2) := by
  intro n
  induction n with
  | zero => intro _ _ _; exact aw_none
  | succ n ih =>
    intro v0 v1 v2
    rw [f_X10_bound_L4]
    refine aw_iload_n (k0 := 2) B 2 (by decide +kernel) rfl rfl ?_
    refine aw_iload_n (k0 := 0) B 0 (by decide +kernel) rfl rfl ?_
    refine aw_icmp_ge (off := 19) B 25 (by decide +kernel) (by decide) (fun _ => ?_) (fun _ => ?_)
    · refine aw_iload_n (k0 := 1) B 1 (by decide +kernel) rfl rfl ?_
      exact aw_ireturn B (by decide +kernel) rfl
    · refine aw_iload_n (k0 := 1) B 1 (by decide +kernel) rfl rfl ?_
      refine aw_bipush (n := 30) (v := (30 : Int32)) B (by decide +kernel) (by decide) ?_
      refine aw_icmp_ge (off := 13) B 25 (by decide +kernel) (by decide) (fun _ => ?_) (fun _ => ?_)
      · refine aw_iload_n (k0 := 1) B 1 (by decide +kernel) rfl rfl ?_
        exact aw_ireturn B (by decide +kernel) rfl
      · refine aw_iinc (i := 1) (n := 1) B 1 [(1, .int (v1 + 1)), (0, .int v0), (2, .int v2)] (by decide +kernel) rfl (Nat.le_of_ble_eq_true rfl) (v1 + 1) (ab_inc (by decide)) rfl ?_
        refine aw_iload_n (k0 := 2) B 2 (by decide +kernel) rfl rfl ?_
        refine aw_iconst (n := 2) (v := (2 : Int32)) B (by decide +kernel) (by decide) ?_
        refine aw_imul B (by decide +kernel) ?_
        refine aw_ltI (fun x1 => ?_)
        refine aw_istore_n (k0 := 2) B [(2, .int x1), (1, .int (v1 + 1)), (0, .int v0)] (by decide +kernel) rfl (Nat.le_of_ble_eq_true rfl) rfl ?_
        refine aw_goto (off := -18) B 4 (by decide +kernel) (by decide) ?_
        exact aw_sub [2, 1, 0] rfl (ih _ _ _)
def f_X10_bound (v0 : Int32) : Option Int32 := f_X10_bound_L4 FU v0 (0 : Int32) (1 : Int32)
set_option maxRecDepth 100000 in
set_option maxHeartbeats 4000000 in
theorem w_X10_bound {G : GW} {E : EE} (hG : ab_ok G) (B : Bx G E RX10 cX10_bound 3 2 (some .int)) (v0 : Int32) (M : Mem) : AWo G E cX10_bound 3 (ab_Q G E (embRI M)) 0 [(0, .int v0)] [] M (f_X10_bound v0) := by
  unfold f_X10_bound
  refine aw_iconst (n := 0) (v := (0 : Int32)) B (by decide +kernel) (by decide) ?_
  refine aw_istore_n (k0 := 1) B [(1, .int (0 : Int32)), (0, .int v0)] (by decide +kernel) rfl (Nat.le_of_ble_eq_true rfl) rfl ?_
  refine aw_iconst (n := 1) (v := (1 : Int32)) B (by decide +kernel) (by decide) ?_
  refine aw_istore_n (k0 := 2) B [(2, .int (1 : Int32)), (1, .int (0 : Int32)), (0, .int v0)] (by decide +kernel) rfl (Nat.le_of_ble_eq_true rfl) rfl ?_
  exact aw_sub [2, 1, 0] rfl (w_X10_bound_L4 hG M B FU _ _ _)
theorem c_X10_bound (l : Launch) {G : GW} (hG : ab_ok G) (v0 : Int32) (M : Mem) : AC l G yX10_bound cX10_bound 3 (some .int) 2 [.int v0] M (embRI M) (f_X10_bound v0) := AC.of hG (by decide) (Nat.le_of_ble_eq_true rfl) (fun E hE B => by subst hE; exact w_X10_bound hG B v0 M)
def f_X10_ask (v1 : Int32) (v2 : Int32) (M : Mem) : Option (Int32 × Mem) := (f_X10_isQuestion v1 M).bind fun x1 => (if x1 = 0 then (some ((-1 : Int32), M)) else (if v2 < 0 then (some ((-1 : Int32), M)) else (if v2 ≤ (2 : Int32) then (if (M.1 1 0) = 0 then (some ((-5 : Int32), M)) else (f_X10_tallied M).bind fun M4 => (f_X7_answers_11 (v1 / (10 : Int32)) (ab_rem v1 (10 : Int32)) M4).bind fun x5 => (if v2 = 0 then (if (1 : Int32) < x5 then (some ((0 : Int32), M4)) else (some ((1 : Int32), M4))) else (if v2 = (1 : Int32) then (some (x5, M4)) else (f_X10_bound x5).bind fun x7 => (some (x7, M4))))) else (some ((-1 : Int32), M)))))
set_option maxRecDepth 100000 in
set_option maxHeartbeats 4000000 in
theorem w_X10_ask {G : GW} {E : EE} (hG : ab_ok G) (B : Bx G E RX10 cX10_ask 4 6 (some .int)) (v1 : Int32) (v2 : Int32) (M : Mem) : AWo G E cX10_ask 4 (ab_Q G E embI) 0 [(0, .ref 0), (1, .int v1), (2, .int v2)] [] M (f_X10_ask v1 v2 M) := by
  unfold f_X10_ask
  refine aw_aload_n (k0 := 0) B 0 (by decide +kernel) rfl rfl ?_
  refine aw_iload_n (k0 := 1) B 1 (by decide +kernel) rfl rfl ?_
  refine aw_cVR B (c_X10_isQuestion (eLa E) hG v1 M) cvX10_208 rfl rfl (Nat.le_of_ble_eq_true rfl) rfl (Nat.le_of_ble_eq_true rfl) (by decide +kernel) rfl (fun x1 => ?_)
  refine aw_if_eq (off := 12) B 17 (by decide +kernel) (by decide) (fun _ => ?_) (fun _ => ?_)
  · refine aw_iconst (n := -1) (v := (-1 : Int32)) B (by decide +kernel) (by decide) ?_
    exact aw_ireturn B (by decide +kernel) rfl
  · refine aw_iload_n (k0 := 2) B 2 (by decide +kernel) rfl rfl ?_
    refine aw_if_lt (off := 8) B 17 (by decide +kernel) (by decide) (fun _ => ?_) (fun _ => ?_)
    · refine aw_iconst (n := -1) (v := (-1 : Int32)) B (by decide +kernel) (by decide) ?_
      exact aw_ireturn B (by decide +kernel) rfl
    · refine aw_iload_n (k0 := 2) B 2 (by decide +kernel) rfl rfl ?_
      refine aw_iconst (n := 2) (v := (2 : Int32)) B (by decide +kernel) (by decide) ?_
      refine aw_icmp_le (off := 5) B 19 (by decide +kernel) (by decide) (fun _ => ?_) (fun _ => ?_)
      · refine aw_aload_n (k0 := 0) B 0 (by decide +kernel) rfl rfl ?_
        refine aw_getr (c := 0) B lkX10_10 (by decide +kernel) rfl (r := 1) rfl ?_
        refine aw_geti (c := 1) B lkX10_167 (by decide +kernel) rfl ?_
        refine aw_if_ne (off := 6) B 32 (by decide +kernel) (by decide) (fun _ => ?_) (fun _ => ?_)
        · refine aw_aload_n (k0 := 0) B 0 (by decide +kernel) rfl rfl ?_
          refine aw_cVA B (c_X10_tallied (eLa E) hG M) cvX10_171 rfl rfl (Nat.le_of_ble_eq_true rfl) rfl (Nat.le_of_ble_eq_true rfl) (by decide +kernel) rfl (fun M4 => ?_)
          refine aw_iload_n (k0 := 1) B 1 (by decide +kernel) rfl rfl ?_
          refine aw_bipush (n := 10) (v := (10 : Int32)) B (by decide +kernel) (by decide) ?_
          refine aw_idivK B (by decide +kernel) (by decide) ?_
          refine aw_iload_n (k0 := 1) B 1 (by decide +kernel) rfl rfl ?_
          refine aw_bipush (n := 10) (v := (10 : Int32)) B (by decide +kernel) (by decide) ?_
          refine aw_iremK B (by decide +kernel) (by decide) ?_
          refine aw_cVR B (c_X7_answers_11 (eLa E) hG (v1 / (10 : Int32)) (ab_rem v1 (10 : Int32)) M4) cvX10_211 rfl rfl (Nat.le_of_ble_eq_true rfl) rfl (Nat.le_of_ble_eq_true rfl) (by decide +kernel) rfl (fun x5 => ?_)
          refine aw_istore_n (k0 := 3) B [(3, .int x5), (0, .ref 0), (1, .int v1), (2, .int v2)] (by decide +kernel) rfl (Nat.le_of_ble_eq_true rfl) rfl ?_
          refine aw_iload_n (k0 := 2) B 3 (by decide +kernel) rfl rfl ?_
          refine aw_if_ne (off := 14) B 63 (by decide +kernel) (by decide) (fun _ => ?_) (fun _ => ?_)
          · refine aw_iload_n (k0 := 2) B 3 (by decide +kernel) rfl rfl ?_
            refine aw_iconst (n := 1) (v := (1 : Int32)) B (by decide +kernel) (by decide) ?_
            refine aw_icmp_ne (off := 7) B 72 (by decide +kernel) (by decide) (fun _ => ?_) (fun _ => ?_)
            · refine aw_iload_n (k0 := 3) B 0 (by decide +kernel) rfl rfl ?_
              refine aw_cSR B (c_X10_bound (eLa E) hG x5 M4) csX10_214 (Nat.le_of_ble_eq_true rfl) rfl (Nat.le_of_ble_eq_true rfl) (by decide +kernel) rfl (fun x7 => ?_)
              exact aw_ireturn B (by decide +kernel) rfl
            · refine aw_iload_n (k0 := 3) B 0 (by decide +kernel) rfl rfl ?_
              refine aw_goto (off := 7) B 76 (by decide +kernel) (by decide) ?_
              exact aw_ireturn B (by decide +kernel) rfl
          · refine aw_iload_n (k0 := 3) B 0 (by decide +kernel) rfl rfl ?_
            refine aw_iconst (n := 1) (v := (1 : Int32)) B (by decide +kernel) (by decide) ?_
            refine aw_icmp_gt (off := 7) B 61 (by decide +kernel) (by decide) (fun _ => ?_) (fun _ => ?_)
            · refine aw_iconst (n := 0) (v := (0 : Int32)) B (by decide +kernel) (by decide) ?_
              exact aw_ireturn B (by decide +kernel) rfl
            · refine aw_iconst (n := 1) (v := (1 : Int32)) B (by decide +kernel) (by decide) ?_
              refine aw_goto (off := 4) B 62 (by decide +kernel) (by decide) ?_
              exact aw_ireturn B (by decide +kernel) rfl
        · refine aw_bipush (n := -5) (v := (-5 : Int32)) B (by decide +kernel) (by decide) ?_
          exact aw_ireturn B (by decide +kernel) rfl
      · refine aw_iconst (n := -1) (v := (-1 : Int32)) B (by decide +kernel) (by decide) ?_
        exact aw_ireturn B (by decide +kernel) rfl
theorem c_X10_ask (l : Launch) {G : GW} (hG : ab_ok G) (v1 : Int32) (v2 : Int32) (M : Mem) : AC l G yX10_ask cX10_ask 4 (some .int) 6 [.ref 0, .int v1, .int v2] M embI (f_X10_ask v1 v2 M) := AC.of hG (by decide) (Nat.le_of_ble_eq_true rfl) (fun E hE B => by subst hE; exact w_X10_ask hG B v1 v2 M)
def f_X11_isQuestion_b78 (M : Mem) (v2 : Int32) : Option Int32 := (if v2 = 0 then (some (1 : Int32)) else (some (0 : Int32)))
set_option maxRecDepth 100000 in
set_option maxHeartbeats 4000000 in
theorem w_X11_isQuestion_b78 {G : GW} {E : EE} (hG : ab_ok G) (M : Mem) (B : Bx G E RX11 cX11_isQuestion 3 4 (some .boolean)) (v2 : Int32) : AWo G E cX11_isQuestion 3 (ab_Q G E (embRI M)) 78 [(2, .int v2)] [] M (f_X11_isQuestion_b78 M v2) := by
  unfold f_X11_isQuestion_b78
  refine aw_iload_n (k0 := 2) B 0 (by decide +kernel) rfl rfl ?_
  refine aw_if_ne (off := 7) B 86 (by decide +kernel) (by decide) (fun _ => ?_) (fun _ => ?_)
  · refine aw_iconst (n := 0) (v := (0 : Int32)) B (by decide +kernel) (by decide) ?_
    exact aw_zreturnK B (by decide +kernel) rfl (by decide)
  · refine aw_iconst (n := 1) (v := (1 : Int32)) B (by decide +kernel) (by decide) ?_
    refine aw_goto (off := 4) B 87 (by decide +kernel) (by decide) ?_
    exact aw_zreturnK B (by decide +kernel) rfl (by decide)
def f_X11_isQuestion_b60 (M : Mem) (v2 : Int32) : Option Int32 := (f_X11_isPlayer v2 M).bind fun x1 => ck (okB x1) (some x1)
set_option maxRecDepth 100000 in
set_option maxHeartbeats 4000000 in
theorem w_X11_isQuestion_b60 {G : GW} {E : EE} (hG : ab_ok G) (M : Mem) (B : Bx G E RX11 cX11_isQuestion 3 4 (some .boolean)) (v2 : Int32) : AWo G E cX11_isQuestion 3 (ab_Q G E (embRI M)) 60 [(0, .ref 47), (2, .int v2)] [] M (f_X11_isQuestion_b60 M v2) := by
  unfold f_X11_isQuestion_b60
  refine aw_aload_n (k0 := 0) B 0 (by decide +kernel) rfl rfl ?_
  refine aw_iload_n (k0 := 2) B 1 (by decide +kernel) rfl rfl ?_
  refine aw_cVR B (c_X11_isPlayer (eLa E) hG v2 M) cvX11_135 rfl rfl (Nat.le_of_ble_eq_true rfl) rfl (Nat.le_of_ble_eq_true rfl) (by decide +kernel) rfl (fun x1 => ?_)
  exact aw_zreturn B (by decide +kernel) rfl
def f_X11_isQuestion (v1 : Int32) (M : Mem) : Option Int32 := (if v1 < 0 then (some (0 : Int32)) else (if (v1 / (10 : Int32)) ≤ (6 : Int32) then lt (ab_rem v1 (10 : Int32)) fun x1 => (if (v1 / (10 : Int32)) = (2 : Int32) then f_X11_isQuestion_b60 M x1 else if (v1 / (10 : Int32)) = (3 : Int32) then f_X11_isQuestion_b78 M x1 else if (v1 / (10 : Int32)) = (4 : Int32) then f_X11_isQuestion_b78 M x1 else if (v1 / (10 : Int32)) = (5 : Int32) then (f_X11_within x1.toInt64 (1 : Int64) ((M.1 47 6).toInt64)).bind fun x2 => ck (okB x2) (some x2) else if (v1 / (10 : Int32)) = (6 : Int32) then f_X11_isQuestion_b60 M x1 else f_X11_isQuestion_b78 M x1) else (some (0 : Int32))))
set_option maxRecDepth 100000 in
set_option maxHeartbeats 4000000 in
theorem w_X11_isQuestion {G : GW} {E : EE} (hG : ab_ok G) (B : Bx G E RX11 cX11_isQuestion 3 4 (some .boolean)) (v1 : Int32) (M : Mem) : AWo G E cX11_isQuestion 3 (ab_Q G E (embRI M)) 0 [(0, .ref 47), (1, .int v1)] [] M (f_X11_isQuestion v1 M) := by
  unfold f_X11_isQuestion
  refine aw_iload_n (k0 := 1) B 1 (by decide +kernel) rfl rfl ?_
  refine aw_if_lt (off := 12) B 13 (by decide +kernel) (by decide) (fun _ => ?_) (fun _ => ?_)
  · refine aw_iconst (n := 0) (v := (0 : Int32)) B (by decide +kernel) (by decide) ?_
    exact aw_zreturnK B (by decide +kernel) rfl (by decide)
  · refine aw_iload_n (k0 := 1) B 1 (by decide +kernel) rfl rfl ?_
    refine aw_bipush (n := 10) (v := (10 : Int32)) B (by decide +kernel) (by decide) ?_
    refine aw_idivK B (by decide +kernel) (by decide) ?_
    refine aw_bipush (n := 6) (v := (6 : Int32)) B (by decide +kernel) (by decide) ?_
    refine aw_icmp_le (off := 5) B 15 (by decide +kernel) (by decide) (fun _ => ?_) (fun _ => ?_)
    · refine aw_iload_n (k0 := 1) B 1 (by decide +kernel) rfl rfl ?_
      refine aw_bipush (n := 10) (v := (10 : Int32)) B (by decide +kernel) (by decide) ?_
      refine aw_iremK B (by decide +kernel) (by decide) ?_
      refine aw_ltI (fun x1 => ?_)
      refine aw_istore_n (k0 := 2) B [(2, .int x1), (0, .ref 47), (1, .int v1)] (by decide +kernel) rfl (Nat.le_of_ble_eq_true rfl) rfl ?_
      refine aw_iload_n (k0 := 1) B 2 (by decide +kernel) rfl rfl ?_
      refine aw_bipush (n := 10) (v := (10 : Int32)) B (by decide +kernel) (by decide) ?_
      refine aw_idivK B (by decide +kernel) (by decide) ?_
      refine aw_ite (fun h24_0 => ?_) (fun h24_0 => ?_)
      · refine aw_tin (k0 := (2 : Int32)) (dflt := 54) (lo := 2) (hi := 6) (offs := #[36, 54, 54, 42, 36]) (len := 36) (off := 36) B 60 (by decide +kernel) h24_0 (by decide) (by decide) (by decide +kernel) (by decide) ?_
        exact aw_sub [1, 0] rfl (w_X11_isQuestion_b60 hG M B _)
      refine aw_ite (fun h24_1 => ?_) (fun h24_1 => ?_)
      · refine aw_tin (k0 := (3 : Int32)) (dflt := 54) (lo := 2) (hi := 6) (offs := #[36, 54, 54, 42, 36]) (len := 36) (off := 54) B 78 (by decide +kernel) h24_1 (by decide) (by decide) (by decide +kernel) (by decide) ?_
        exact aw_sub [0] rfl (w_X11_isQuestion_b78 hG M B _)
      refine aw_ite (fun h24_2 => ?_) (fun h24_2 => ?_)
      · refine aw_tin (k0 := (4 : Int32)) (dflt := 54) (lo := 2) (hi := 6) (offs := #[36, 54, 54, 42, 36]) (len := 36) (off := 54) B 78 (by decide +kernel) h24_2 (by decide) (by decide) (by decide +kernel) (by decide) ?_
        exact aw_sub [0] rfl (w_X11_isQuestion_b78 hG M B _)
      refine aw_ite (fun h24_3 => ?_) (fun h24_3 => ?_)
      · refine aw_tin (k0 := (5 : Int32)) (dflt := 54) (lo := 2) (hi := 6) (offs := #[36, 54, 54, 42, 36]) (len := 36) (off := 42) B 66 (by decide +kernel) h24_3 (by decide) (by decide) (by decide +kernel) (by decide) ?_
        refine aw_iload_n (k0 := 2) B 0 (by decide +kernel) rfl rfl ?_
        refine aw_i2l B (by decide +kernel) ?_
        refine aw_lconst (n := 1) (v := (1 : Int64)) B (by decide +kernel) (by decide) ?_
        refine aw_aload_n (k0 := 0) B 1 (by decide +kernel) rfl rfl ?_
        refine aw_geti (c := 47) B lkX11_109 (by decide +kernel) rfl ?_
        refine aw_i2l B (by decide +kernel) ?_
        refine aw_cSR B (c_X11_within (eLa E) hG x1.toInt64 (1 : Int64) ((M.1 47 6).toInt64) M) csX11_112 (Nat.le_of_ble_eq_true rfl) rfl (Nat.le_of_ble_eq_true rfl) (by decide +kernel) rfl (fun x2 => ?_)
        exact aw_zreturn B (by decide +kernel) rfl
      refine aw_ite (fun h24_4 => ?_) (fun h24_4 => ?_)
      · refine aw_tin (k0 := (6 : Int32)) (dflt := 54) (lo := 2) (hi := 6) (offs := #[36, 54, 54, 42, 36]) (len := 36) (off := 36) B 60 (by decide +kernel) h24_4 (by decide) (by decide) (by decide +kernel) (by decide) ?_
        exact aw_sub [1, 0] rfl (w_X11_isQuestion_b60 hG M B _)
      · refine aw_tout (dflt := 54) (lo := 2) (hi := 6) (offs := #[36, 54, 54, 42, 36]) (len := 36) B 78 (by decide +kernel) (by have qh24_0 := lv_neT (a := 2) h24_0 (by decide); have qh24_1 := lv_neT (a := 3) h24_1 (by decide); have qh24_2 := lv_neT (a := 4) h24_2 (by decide); have qh24_3 := lv_neT (a := 5) h24_3 (by decide); have qh24_4 := lv_neT (a := 6) h24_4 (by decide); omega) (by decide) ?_
        exact aw_sub [0] rfl (w_X11_isQuestion_b78 hG M B _)
    · refine aw_iconst (n := 0) (v := (0 : Int32)) B (by decide +kernel) (by decide) ?_
      exact aw_zreturnK B (by decide +kernel) rfl (by decide)
theorem c_X11_isQuestion (l : Launch) {G : GW} (hG : ab_ok G) (v1 : Int32) (M : Mem) : AC l G yX11_isQuestion cX11_isQuestion 3 (some .boolean) 4 [.ref 47, .int v1] M (embRI M) (f_X11_isQuestion v1 M) := AC.of hG (by decide) (Nat.le_of_ble_eq_true rfl) (fun E hE B => by subst hE; exact w_X11_isQuestion hG B v1 M)
def f_X11_ask_L55 : Nat → Int32 → Mem → Option (Int32 × Mem)
  | 0, _, _ => none
  | n + 1, v3, M => (if (M.1 47 27) ≤ (ab_shl (1 : Int32) v3) then (some (v3, M)) else f_X11_ask_L55 n (v3 + 1) M)
set_option maxRecDepth 100000 in
set_option maxHeartbeats 4000000 in
theorem w_X11_ask_L55 {G : GW} {E : EE} (hG : ab_ok G) (B : Bx G E RX11 cX11_ask 4 46 (some .int)) : ∀ (n : Nat) (v3 : Int32) (M : Mem), AWo G E cX11_ask 4 (ab_Q G E embI) 55 [(0, .ref 47), (3, .int v3)] [] M (f_X11_ask_L55 n v3 M) := by
  intro n
  induction n with
  | zero => intro _ _; exact aw_none
  | succ n ih =>
    intro v3 M
    rw [f_X11_ask_L55]
    refine aw_iconst (n := 1) (v := (1 : Int32)) B (by decide +kernel) (by decide) ?_
    refine aw_iload_n (k0 := 3) B 1 (by decide +kernel) rfl rfl ?_
    refine aw_ishl B (by decide +kernel) ?_
    refine aw_aload_n (k0 := 0) B 0 (by decide +kernel) rfl rfl ?_
    refine aw_geti (c := 47) B lkX11_231 (by decide +kernel) rfl ?_
    refine aw_icmp_ge (off := 9) B 71 (by decide +kernel) (by decide) (fun _ => ?_) (fun _ => ?_)
    · refine aw_iload_n (k0 := 3) B 1 (by decide +kernel) rfl rfl ?_
      exact aw_ireturn B (by decide +kernel) rfl
    · refine aw_iinc (i := 3) (n := 1) B 1 [(3, .int (v3 + 1)), (0, .ref 47)] (by decide +kernel) rfl (Nat.le_of_ble_eq_true rfl) (v3 + 1) (ab_inc (by decide)) rfl ?_
      refine aw_goto (off := -13) B 55 (by decide +kernel) (by decide) ?_
      exact aw_sub [1, 0] rfl (ih _ _)
def f_X11_ask (v1 : Int32) (v2 : Int32) (M : Mem) : Option (Int32 × Mem) := (f_X11_isQuestion v1 M).bind fun x1 => (if x1 = 0 then (some ((-1 : Int32), M)) else (f_X11_within v2.toInt64 (0 : Int64) (2 : Int64)).bind fun x3 => (if x3 = 0 then (some ((-1 : Int32), M)) else (if (M.1 47 6) = 0 then (some ((-5 : Int32), M)) else (f_X11_allThatCount M).bind fun x5 => (f_X11_goesThrough x5 (v1 / (10 : Int32)) (ab_rem v1 (10 : Int32)) M).bind fun M8 => (if v2 = (2 : Int32) then f_X11_ask_L55 FU (0 : Int32) M8 else (if v2 = (1 : Int32) then (some (M8.1 47 27, M8)) else (if (2 : Int32) ≤ (M8.1 47 27) then (some ((0 : Int32), M8)) else (some ((1 : Int32), M8))))))))
set_option maxRecDepth 100000 in
set_option maxHeartbeats 4000000 in
theorem w_X11_ask {G : GW} {E : EE} (hG : ab_ok G) (B : Bx G E RX11 cX11_ask 4 46 (some .int)) (v1 : Int32) (v2 : Int32) (M : Mem) : AWo G E cX11_ask 4 (ab_Q G E embI) 0 [(0, .ref 47), (1, .int v1), (2, .int v2)] [] M (f_X11_ask v1 v2 M) := by
  unfold f_X11_ask
  refine aw_aload_n (k0 := 0) B 0 (by decide +kernel) rfl rfl ?_
  refine aw_iload_n (k0 := 1) B 1 (by decide +kernel) rfl rfl ?_
  refine aw_cVR B (c_X11_isQuestion (eLa E) hG v1 M) cvX11_261 rfl rfl (Nat.le_of_ble_eq_true rfl) rfl (Nat.le_of_ble_eq_true rfl) (by decide +kernel) rfl (fun x1 => ?_)
  refine aw_if_eq (off := 15) B 20 (by decide +kernel) (by decide) (fun _ => ?_) (fun _ => ?_)
  · refine aw_iconst (n := -1) (v := (-1 : Int32)) B (by decide +kernel) (by decide) ?_
    exact aw_ireturn B (by decide +kernel) rfl
  · refine aw_iload_n (k0 := 2) B 2 (by decide +kernel) rfl rfl ?_
    refine aw_i2l B (by decide +kernel) ?_
    refine aw_lconst (n := 0) (v := (0 : Int64)) B (by decide +kernel) (by decide) ?_
    refine aw_ldc2 B (by decide +kernel) lwX11_217 ?_
    refine aw_cSR B (c_X11_within (eLa E) hG v2.toInt64 (0 : Int64) (2 : Int64) M) csX11_112 (Nat.le_of_ble_eq_true rfl) rfl (Nat.le_of_ble_eq_true rfl) (by decide +kernel) rfl (fun x3 => ?_)
    refine aw_if_ne (off := 5) B 22 (by decide +kernel) (by decide) (fun _ => ?_) (fun _ => ?_)
    · refine aw_aload_n (k0 := 0) B 0 (by decide +kernel) rfl rfl ?_
      refine aw_geti (c := 47) B lkX11_109 (by decide +kernel) rfl ?_
      refine aw_if_ne (off := 6) B 32 (by decide +kernel) (by decide) (fun _ => ?_) (fun _ => ?_)
      · refine aw_aload_n (k0 := 0) B 0 (by decide +kernel) rfl rfl ?_
        refine aw_aload_n (k0 := 0) B 0 (by decide +kernel) rfl rfl ?_
        refine aw_cVR B (c_X11_allThatCount (eLa E) hG M) cvX11_248 rfl rfl (Nat.le_of_ble_eq_true rfl) rfl (Nat.le_of_ble_eq_true rfl) (by decide +kernel) rfl (fun x5 => ?_)
        refine aw_iload_n (k0 := 1) B 1 (by decide +kernel) rfl rfl ?_
        refine aw_bipush (n := 10) (v := (10 : Int32)) B (by decide +kernel) (by decide) ?_
        refine aw_idivK B (by decide +kernel) (by decide) ?_
        refine aw_iload_n (k0 := 1) B 1 (by decide +kernel) rfl rfl ?_
        refine aw_bipush (n := 10) (v := (10 : Int32)) B (by decide +kernel) (by decide) ?_
        refine aw_iremK B (by decide +kernel) (by decide) ?_
        refine aw_cVV B (c_X11_goesThrough (eLa E) hG x5 (v1 / (10 : Int32)) (ab_rem v1 (10 : Int32)) M) cvX11_251 rfl rfl (Nat.le_of_ble_eq_true rfl) rfl (Nat.le_of_ble_eq_true rfl) (by decide +kernel) rfl (fun M8 => ?_)
        refine aw_iload_n (k0 := 2) B 2 (by decide +kernel) rfl rfl ?_
        refine aw_iconst (n := 2) (v := (2 : Int32)) B (by decide +kernel) (by decide) ?_
        refine aw_icmp_ne (off := 23) B 73 (by decide +kernel) (by decide) (fun _ => ?_) (fun _ => ?_)
        · refine aw_iload_n (k0 := 2) B 2 (by decide +kernel) rfl rfl ?_
          refine aw_iconst (n := 1) (v := (1 : Int32)) B (by decide +kernel) (by decide) ?_
          refine aw_icmp_ne (off := 10) B 85 (by decide +kernel) (by decide) (fun _ => ?_) (fun _ => ?_)
          · refine aw_aload_n (k0 := 0) B 0 (by decide +kernel) rfl rfl ?_
            refine aw_geti (c := 47) B lkX11_231 (by decide +kernel) rfl ?_
            refine aw_iconst (n := 2) (v := (2 : Int32)) B (by decide +kernel) (by decide) ?_
            refine aw_icmp_ge (off := 7) B 97 (by decide +kernel) (by decide) (fun _ => ?_) (fun _ => ?_)
            · refine aw_iconst (n := 0) (v := (0 : Int32)) B (by decide +kernel) (by decide) ?_
              exact aw_ireturn B (by decide +kernel) rfl
            · refine aw_iconst (n := 1) (v := (1 : Int32)) B (by decide +kernel) (by decide) ?_
              refine aw_goto (off := 4) B 98 (by decide +kernel) (by decide) ?_
              exact aw_ireturn B (by decide +kernel) rfl
          · refine aw_aload_n (k0 := 0) B 0 (by decide +kernel) rfl rfl ?_
            refine aw_geti (c := 47) B lkX11_231 (by decide +kernel) rfl ?_
            refine aw_goto (off := 16) B 98 (by decide +kernel) (by decide) ?_
            exact aw_ireturn B (by decide +kernel) rfl
        · refine aw_iconst (n := 0) (v := (0 : Int32)) B (by decide +kernel) (by decide) ?_
          refine aw_istore_n (k0 := 3) B [(3, .int (0 : Int32)), (0, .ref 47), (1, .int v1), (2, .int v2)] (by decide +kernel) rfl (Nat.le_of_ble_eq_true rfl) rfl ?_
          exact aw_sub [1, 0] rfl (w_X11_ask_L55 hG B FU _ _)
      · refine aw_bipush (n := -5) (v := (-5 : Int32)) B (by decide +kernel) (by decide) ?_
        exact aw_ireturn B (by decide +kernel) rfl
    · refine aw_iconst (n := -1) (v := (-1 : Int32)) B (by decide +kernel) (by decide) ?_
      exact aw_ireturn B (by decide +kernel) rfl
theorem c_X11_ask (l : Launch) {G : GW} (hG : ab_ok G) (v1 : Int32) (v2 : Int32) (M : Mem) : AC l G yX11_ask cX11_ask 4 (some .int) 46 [.ref 47, .int v1, .int v2] M embI (f_X11_ask v1 v2 M) := AC.of hG (by decide) (Nat.le_of_ble_eq_true rfl) (fun E hE B => by subst hE; exact w_X11_ask hG B v1 v2 M)
def f_X4_isToldIn_b48 (k2 : Int32 → Int32 → Int32 → Option Int32) (M : Mem) (v1 : Int32) (v2 : Int32) (v3 : Int32) : Option Int32 := k2 v1 v2 (v3 + 1)
set_option maxRecDepth 100000 in
set_option maxHeartbeats 4000000 in
theorem w_X4_isToldIn_b48 {G : GW} {E : EE} (hG : ab_ok G) (M : Mem) {k2 : Int32 → Int32 → Int32 → Option Int32} (B : Bx G E RX4 cX4_isToldIn 4 2 (some .boolean)) (hk2 : ∀ (v1 : Int32) (v2 : Int32) (v3 : Int32), AWo G E cX4_isToldIn 4 (ab_Q G E (embRI M)) 2 [(0, .ref 1), (1, .int v1), (2, .int v2), (3, .int v3)] [] M (k2 v1 v2 v3)) (v1 : Int32) (v2 : Int32) (v3 : Int32) : AWo G E cX4_isToldIn 4 (ab_Q G E (embRI M)) 48 [(0, .ref 1), (1, .int v1), (2, .int v2), (3, .int v3)] [] M (f_X4_isToldIn_b48 k2 M v1 v2 v3) := by
  unfold f_X4_isToldIn_b48
  refine aw_iinc (i := 3) (n := 1) B 3 [(3, .int (v3 + 1)), (0, .ref 1), (1, .int v1), (2, .int v2)] (by decide +kernel) rfl (Nat.le_of_ble_eq_true rfl) (v3 + 1) (ab_inc (by decide)) rfl ?_
  refine aw_goto (off := -49) B 2 (by decide +kernel) (by decide) ?_
  exact aw_sub [1, 2, 3, 0] rfl (hk2 _ _ _)
def f_X4_isToldIn_L2 (M : Mem) : Nat → Int32 → Int32 → Int32 → Option Int32
  | 0, _, _, _ => none
  | n + 1, v1, v2, v3 => (if v2 ≤ v3 then (some (0 : Int32)) else (if ((ab_shr v1 v3) &&& (1 : Int32)) = (1 : Int32) then ck (okI 3 v3) (ck (okI 3 v2) ((if (M.1 3 v3.toNatClampNeg) = (M.1 3 v2.toNatClampNeg) then ck (okI 4 v3) (ck (okI 4 v2) ((if (M.1 4 v3.toNatClampNeg) = (M.1 4 v2.toNatClampNeg) then (some (1 : Int32)) else f_X4_isToldIn_b48 (fun a0 a1 a2 => f_X4_isToldIn_L2 M n a0 a1 a2) M v1 v2 v3))) else f_X4_isToldIn_b48 (fun a0 a1 a2 => f_X4_isToldIn_L2 M n a0 a1 a2) M v1 v2 v3))) else f_X4_isToldIn_b48 (fun a0 a1 a2 => f_X4_isToldIn_L2 M n a0 a1 a2) M v1 v2 v3))
set_option maxRecDepth 100000 in
set_option maxHeartbeats 4000000 in
theorem w_X4_isToldIn_L2 {G : GW} {E : EE} (hG : ab_ok G) (M : Mem) (B : Bx G E RX4 cX4_isToldIn 4 2 (some .boolean)) : ∀ (n : Nat) (v1 : Int32) (v2 : Int32) (v3 : Int32), AWo G E cX4_isToldIn 4 (ab_Q G E (embRI M)) 2 [(0, .ref 1), (1, .int v1), (2, .int v2), (3, .int v3)] [] M (f_X4_isToldIn_L2 M n v1 v2 v3) := by
  intro n
  induction n with
  | zero => intro _ _ _; exact aw_none
  | succ n ih =>
    intro v1 v2 v3
    rw [f_X4_isToldIn_L2]
    refine aw_iload_n (k0 := 3) B 3 (by decide +kernel) rfl rfl ?_
    refine aw_iload_n (k0 := 2) B 2 (by decide +kernel) rfl rfl ?_
    refine aw_icmp_ge (off := 50) B 54 (by decide +kernel) (by decide) (fun _ => ?_) (fun _ => ?_)
    · refine aw_iconst (n := 0) (v := (0 : Int32)) B (by decide +kernel) (by decide) ?_
      exact aw_zreturnK B (by decide +kernel) rfl (by decide)
    · refine aw_iload_n (k0 := 1) B 1 (by decide +kernel) rfl rfl ?_
      refine aw_iload_n (k0 := 3) B 3 (by decide +kernel) rfl rfl ?_
      refine aw_ishr B (by decide +kernel) ?_
      refine aw_iconst (n := 1) (v := (1 : Int32)) B (by decide +kernel) (by decide) ?_
      refine aw_iand B (by decide +kernel) ?_
      refine aw_iconst (n := 1) (v := (1 : Int32)) B (by decide +kernel) (by decide) ?_
      refine aw_icmp_ne (off := 35) B 48 (by decide +kernel) (by decide) (fun _ => ?_) (fun _ => ?_)
      · exact w_X4_isToldIn_b48 hG M B ih _ _ _
      · refine aw_aload_n (k0 := 0) B 0 (by decide +kernel) rfl rfl ?_
        refine aw_getr (c := 1) B lkX4_15 (by decide +kernel) rfl (r := 3) rfl ?_
        refine aw_iload_n (k0 := 3) B 3 (by decide +kernel) rfl rfl ?_
        refine aw_iaload B (by decide +kernel) ?_
        refine aw_aload_n (k0 := 0) B 0 (by decide +kernel) rfl rfl ?_
        refine aw_getr (c := 1) B lkX4_15 (by decide +kernel) rfl (r := 3) rfl ?_
        refine aw_iload_n (k0 := 2) B 2 (by decide +kernel) rfl rfl ?_
        refine aw_iaload B (by decide +kernel) ?_
        refine aw_icmp_ne (off := 20) B 48 (by decide +kernel) (by decide) (fun _ => ?_) (fun _ => ?_)
        · exact w_X4_isToldIn_b48 hG M B ih _ _ _
        · refine aw_aload_n (k0 := 0) B 0 (by decide +kernel) rfl rfl ?_
          refine aw_getr (c := 1) B lkX4_18 (by decide +kernel) rfl (r := 4) rfl ?_
          refine aw_iload_n (k0 := 3) B 3 (by decide +kernel) rfl rfl ?_
          refine aw_iaload B (by decide +kernel) ?_
          refine aw_aload_n (k0 := 0) B 0 (by decide +kernel) rfl rfl ?_
          refine aw_getr (c := 1) B lkX4_18 (by decide +kernel) rfl (r := 4) rfl ?_
          refine aw_iload_n (k0 := 2) B 2 (by decide +kernel) rfl rfl ?_
          refine aw_iaload B (by decide +kernel) ?_
          refine aw_icmp_ne (off := 5) B 48 (by decide +kernel) (by decide) (fun _ => ?_) (fun _ => ?_)
          · exact w_X4_isToldIn_b48 hG M B ih _ _ _
          · refine aw_iconst (n := 1) (v := (1 : Int32)) B (by decide +kernel) (by decide) ?_
            exact aw_zreturnK B (by decide +kernel) rfl (by decide)
def f_X4_isToldIn (v1 : Int32) (v2 : Int32) (M : Mem) : Option Int32 := f_X4_isToldIn_L2 M FU v1 v2 (0 : Int32)
set_option maxRecDepth 100000 in
set_option maxHeartbeats 4000000 in
theorem w_X4_isToldIn {G : GW} {E : EE} (hG : ab_ok G) (B : Bx G E RX4 cX4_isToldIn 4 2 (some .boolean)) (v1 : Int32) (v2 : Int32) (M : Mem) : AWo G E cX4_isToldIn 4 (ab_Q G E (embRI M)) 0 [(0, .ref 1), (1, .int v1), (2, .int v2)] [] M (f_X4_isToldIn v1 v2 M) := by
  unfold f_X4_isToldIn
  refine aw_iconst (n := 0) (v := (0 : Int32)) B (by decide +kernel) (by decide) ?_
  refine aw_istore_n (k0 := 3) B [(3, .int (0 : Int32)), (0, .ref 1), (1, .int v1), (2, .int v2)] (by decide +kernel) rfl (Nat.le_of_ble_eq_true rfl) rfl ?_
  exact aw_sub [1, 2, 3, 0] rfl (w_X4_isToldIn_L2 hG M B FU _ _ _)
theorem c_X4_isToldIn (l : Launch) {G : GW} (hG : ab_ok G) (v1 : Int32) (v2 : Int32) (M : Mem) : AC l G yX4_isToldIn cX4_isToldIn 4 (some .boolean) 2 [.ref 1, .int v1, .int v2] M (embRI M) (f_X4_isToldIn v1 v2 M) := AC.of hG (by decide) (Nat.le_of_ble_eq_true rfl) (fun E hE B => by subst hE; exact w_X4_isToldIn hG B v1 v2 M)
def f_X4_countingOnce_b37 (k4 : Int32 → Int32 → Option Int32) (M : Mem) (v1 : Int32) (v2 : Int32) : Option Int32 := k4 v1 (v2 + 1)
set_option maxRecDepth 100000 in
set_option maxHeartbeats 4000000 in
theorem w_X4_countingOnce_b37 {G : GW} {E : EE} (hG : ab_ok G) (M : Mem) {k4 : Int32 → Int32 → Option Int32} (B : Bx G E RX4 cX4_countingOnce 3 3 (some .int)) (hk4 : ∀ (v1 : Int32) (v2 : Int32), AWo G E cX4_countingOnce 3 (ab_Q G E (embRI M)) 4 [(0, .ref 1), (1, .int v1), (2, .int v2)] [] M (k4 v1 v2)) (v1 : Int32) (v2 : Int32) : AWo G E cX4_countingOnce 3 (ab_Q G E (embRI M)) 37 [(0, .ref 1), (1, .int v1), (2, .int v2)] [] M (f_X4_countingOnce_b37 k4 M v1 v2) := by
  unfold f_X4_countingOnce_b37
  refine aw_iinc (i := 2) (n := 1) B 2 [(2, .int (v2 + 1)), (0, .ref 1), (1, .int v1)] (by decide +kernel) rfl (Nat.le_of_ble_eq_true rfl) (v2 + 1) (ab_inc (by decide)) rfl ?_
  refine aw_goto (off := -36) B 4 (by decide +kernel) (by decide) ?_
  exact aw_sub [1, 2, 0] rfl (hk4 _ _)
def f_X4_countingOnce_L4 (M : Mem) : Nat → Int32 → Int32 → Option Int32
  | 0, _, _ => none
  | n + 1, v1, v2 => (if (M.1 1 1) ≤ v2 then (some v1) else ck (okI 5 v2) ((if (M.1 5 v2.toNatClampNeg) = (1 : Int32) then (f_X4_isToldIn v1 v2 M).bind fun x1 => (if x1 = 0 then lt (v1 ||| (ab_shl (1 : Int32) v2)) fun x3 => f_X4_countingOnce_b37 (fun a0 a1 => f_X4_countingOnce_L4 M n a0 a1) M x3 v2 else f_X4_countingOnce_b37 (fun a0 a1 => f_X4_countingOnce_L4 M n a0 a1) M v1 v2) else f_X4_countingOnce_b37 (fun a0 a1 => f_X4_countingOnce_L4 M n a0 a1) M v1 v2)))
set_option maxRecDepth 100000 in
set_option maxHeartbeats 4000000 in
theorem w_X4_countingOnce_L4 {G : GW} {E : EE} (hG : ab_ok G) (M : Mem) (B : Bx G E RX4 cX4_countingOnce 3 3 (some .int)) : ∀ (n : Nat) (v1 : Int32) (v2 : Int32), AWo G E cX4_countingOnce 3 (ab_Q G E (embRI M)) 4 [(0, .ref 1), (1, .int v1), (2, .int v2)] [] M (f_X4_countingOnce_L4 M n v1 v2) := by
  intro n
  induction n with
  | zero => intro _ _; exact aw_none
  | succ n ih =>
    intro v1 v2
    rw [f_X4_countingOnce_L4]
    refine aw_iload_n (k0 := 2) B 2 (by decide +kernel) rfl rfl ?_
    refine aw_aload_n (k0 := 0) B 0 (by decide +kernel) rfl rfl ?_
    refine aw_geti (c := 1) B lkX4_28 (by decide +kernel) rfl ?_
    refine aw_icmp_ge (off := 34) B 43 (by decide +kernel) (by decide) (fun _ => ?_) (fun _ => ?_)
    · refine aw_iload_n (k0 := 1) B 1 (by decide +kernel) rfl rfl ?_
      exact aw_ireturn B (by decide +kernel) rfl
    · refine aw_aload_n (k0 := 0) B 0 (by decide +kernel) rfl rfl ?_
      refine aw_getr (c := 1) B lkX4_21 (by decide +kernel) rfl (r := 5) rfl ?_
      refine aw_iload_n (k0 := 2) B 2 (by decide +kernel) rfl rfl ?_
      refine aw_iaload B (by decide +kernel) ?_
      refine aw_iconst (n := 1) (v := (1 : Int32)) B (by decide +kernel) (by decide) ?_
      refine aw_icmp_ne (off := 18) B 37 (by decide +kernel) (by decide) (fun _ => ?_) (fun _ => ?_)
      · exact w_X4_countingOnce_b37 hG M B ih _ _
      · refine aw_aload_n (k0 := 0) B 0 (by decide +kernel) rfl rfl ?_
        refine aw_iload_n (k0 := 1) B 1 (by decide +kernel) rfl rfl ?_
        refine aw_iload_n (k0 := 2) B 2 (by decide +kernel) rfl rfl ?_
        refine aw_cVR B (c_X4_isToldIn (eLa E) hG v1 v2 M) cvX4_45 rfl rfl (Nat.le_of_ble_eq_true rfl) rfl (Nat.le_of_ble_eq_true rfl) (by decide +kernel) rfl (fun x1 => ?_)
        refine aw_if_ne (off := 9) B 37 (by decide +kernel) (by decide) (fun _ => ?_) (fun _ => ?_)
        · exact w_X4_countingOnce_b37 hG M B ih _ _
        · refine aw_iload_n (k0 := 1) B 1 (by decide +kernel) rfl rfl ?_
          refine aw_iconst (n := 1) (v := (1 : Int32)) B (by decide +kernel) (by decide) ?_
          refine aw_iload_n (k0 := 2) B 2 (by decide +kernel) rfl rfl ?_
          refine aw_ishl B (by decide +kernel) ?_
          refine aw_ior B (by decide +kernel) ?_
          refine aw_ltI (fun x3 => ?_)
          refine aw_istore_n (k0 := 1) B [(1, .int x3), (0, .ref 1), (2, .int v2)] (by decide +kernel) rfl (Nat.le_of_ble_eq_true rfl) rfl ?_
          exact aw_sub [1, 0, 2] rfl (w_X4_countingOnce_b37 hG M B ih _ _)
def f_X4_countingOnce (M : Mem) : Option Int32 := f_X4_countingOnce_L4 M FU (0 : Int32) (0 : Int32)
set_option maxRecDepth 100000 in
set_option maxHeartbeats 4000000 in
theorem w_X4_countingOnce {G : GW} {E : EE} (hG : ab_ok G) (B : Bx G E RX4 cX4_countingOnce 3 3 (some .int)) (M : Mem) : AWo G E cX4_countingOnce 3 (ab_Q G E (embRI M)) 0 [(0, .ref 1)] [] M (f_X4_countingOnce M) := by
  unfold f_X4_countingOnce
  refine aw_iconst (n := 0) (v := (0 : Int32)) B (by decide +kernel) (by decide) ?_
  refine aw_istore_n (k0 := 1) B [(1, .int (0 : Int32)), (0, .ref 1)] (by decide +kernel) rfl (Nat.le_of_ble_eq_true rfl) rfl ?_
  refine aw_iconst (n := 0) (v := (0 : Int32)) B (by decide +kernel) (by decide) ?_
  refine aw_istore_n (k0 := 2) B [(2, .int (0 : Int32)), (1, .int (0 : Int32)), (0, .ref 1)] (by decide +kernel) rfl (Nat.le_of_ble_eq_true rfl) rfl ?_
  exact aw_sub [2, 1, 0] rfl (w_X4_countingOnce_L4 hG M B FU _ _)
theorem c_X4_countingOnce (l : Launch) {G : GW} (hG : ab_ok G) (M : Mem) : AC l G yX4_countingOnce cX4_countingOnce 3 (some .int) 3 [.ref 1] M (embRI M) (f_X4_countingOnce M) := AC.of hG (by decide) (Nat.le_of_ble_eq_true rfl) (fun E hE B => by subst hE; exact w_X4_countingOnce hG B M)
