def f_X6_firstFree_b31 (k2 : Int32 → Int32 → Int32 → Option Int32) (M : Mem) (v1 : Int32) (v2 : Int32) (v3 : Int32) : Option Int32 := k2 v1 v2 (v3 + 1)
set_option maxRecDepth 100000 in
set_option maxHeartbeats 4000000 in
theorem w_X6_firstFree_b31 {G : GW} {E : EE} (hG : ab_ok G) (M : Mem) {k2 : Int32 → Int32 → Int32 → Option Int32} (B : Bx G E RX6 cX6_firstFree 4 2 (some .int)) (hk2 : ∀ (v1 : Int32) (v2 : Int32) (v3 : Int32), AWo G E cX6_firstFree 4 (ab_Q G E (embRI M)) 2 [(0, .ref 34), (1, .int v1), (2, .int v2), (3, .int v3)] [] M (k2 v1 v2 v3)) (v1 : Int32) (v2 : Int32) (v3 : Int32) : AWo G E cX6_firstFree 4 (ab_Q G E (embRI M)) 31 [(0, .ref 34), (1, .int v1), (2, .int v2), (3, .int v3)] [] M (f_X6_firstFree_b31 k2 M v1 v2 v3) := by
  unfold f_X6_firstFree_b31
  refine aw_iinc (i := 3) (n := 1) B 3 [(3, .int (v3 + 1)), (0, .ref 34), (1, .int v1), (2, .int v2)] (by decide +kernel) rfl (Nat.le_of_ble_eq_true rfl) (v3 + 1) (ab_inc (by decide)) rfl ?_
  refine aw_goto (off := -32) B 2 (by decide +kernel) (by decide) ?_
  exact aw_sub [1, 2, 3, 0] rfl (hk2 _ _ _)
def f_X6_firstFree_L2 (M : Mem) : Nat → Int32 → Int32 → Int32 → Option Int32
  | 0, _, _, _ => none
  | n + 1, v1, v2, v3 => (if (12 : Int32) ≤ v3 then (some (11 : Int32)) else ck (okI 38 v3) ((if ((M.1 38 v3.toNatClampNeg) &&& v1) = 0 then ck (okI 39 v3) ((if v2 ≤ (M.1 39 v3.toNatClampNeg) then f_X6_firstFree_b31 (fun a0 a1 a2 => f_X6_firstFree_L2 M n a0 a1 a2) M v1 v2 v3 else (some v3))) else f_X6_firstFree_b31 (fun a0 a1 a2 => f_X6_firstFree_L2 M n a0 a1 a2) M v1 v2 v3)))
set_option maxRecDepth 100000 in
set_option maxHeartbeats 4000000 in
theorem w_X6_firstFree_L2 {G : GW} {E : EE} (hG : ab_ok G) (M : Mem) (B : Bx G E RX6 cX6_firstFree 4 2 (some .int)) : ∀ (n : Nat) (v1 : Int32) (v2 : Int32) (v3 : Int32), AWo G E cX6_firstFree 4 (ab_Q G E (embRI M)) 2 [(0, .ref 34), (1, .int v1), (2, .int v2), (3, .int v3)] [] M (f_X6_firstFree_L2 M n v1 v2 v3) := by
  intro n
  induction n with
  | zero => intro _ _ _; exact aw_none
  | succ n ih =>
    intro v1 v2 v3
    rw [f_X6_firstFree_L2]
    refine aw_iload_n (k0 := 3) B 3 (by decide +kernel) rfl rfl ?_
    refine aw_bipush (n := 12) (v := (12 : Int32)) B (by decide +kernel) (by decide) ?_
    refine aw_icmp_ge (off := 32) B 37 (by decide +kernel) (by decide) (fun _ => ?_) (fun _ => ?_)
    · refine aw_bipush (n := 11) (v := (11 : Int32)) B (by decide +kernel) (by decide) ?_
      exact aw_ireturn B (by decide +kernel) rfl
    · refine aw_aload_n (k0 := 0) B 0 (by decide +kernel) rfl rfl ?_
      refine aw_getr (c := 34) B lkX6_21 (by decide +kernel) rfl (r := 38) rfl ?_
      refine aw_iload_n (k0 := 3) B 3 (by decide +kernel) rfl rfl ?_
      refine aw_iaload B (by decide +kernel) ?_
      refine aw_iload_n (k0 := 1) B 1 (by decide +kernel) rfl rfl ?_
      refine aw_iand B (by decide +kernel) ?_
      refine aw_if_ne (off := 15) B 31 (by decide +kernel) (by decide) (fun _ => ?_) (fun _ => ?_)
      · exact w_X6_firstFree_b31 hG M B ih _ _ _
      · refine aw_aload_n (k0 := 0) B 0 (by decide +kernel) rfl rfl ?_
        refine aw_getr (c := 34) B lkX6_24 (by decide +kernel) rfl (r := 39) rfl ?_
        refine aw_iload_n (k0 := 3) B 3 (by decide +kernel) rfl rfl ?_
        refine aw_iaload B (by decide +kernel) ?_
        refine aw_iload_n (k0 := 2) B 2 (by decide +kernel) rfl rfl ?_
        refine aw_icmp_ge (off := 5) B 31 (by decide +kernel) (by decide) (fun _ => ?_) (fun _ => ?_)
        · exact w_X6_firstFree_b31 hG M B ih _ _ _
        · refine aw_iload_n (k0 := 3) B 3 (by decide +kernel) rfl rfl ?_
          exact aw_ireturn B (by decide +kernel) rfl
def f_X6_firstFree (v1 : Int32) (v2 : Int32) (M : Mem) : Option Int32 := f_X6_firstFree_L2 M FU v1 v2 (0 : Int32)
set_option maxRecDepth 100000 in
set_option maxHeartbeats 4000000 in
theorem w_X6_firstFree {G : GW} {E : EE} (hG : ab_ok G) (B : Bx G E RX6 cX6_firstFree 4 2 (some .int)) (v1 : Int32) (v2 : Int32) (M : Mem) : AWo G E cX6_firstFree 4 (ab_Q G E (embRI M)) 0 [(0, .ref 34), (1, .int v1), (2, .int v2)] [] M (f_X6_firstFree v1 v2 M) := by
  unfold f_X6_firstFree
  refine aw_iconst (n := 0) (v := (0 : Int32)) B (by decide +kernel) (by decide) ?_
  refine aw_istore_n (k0 := 3) B [(3, .int (0 : Int32)), (0, .ref 34), (1, .int v1), (2, .int v2)] (by decide +kernel) rfl (Nat.le_of_ble_eq_true rfl) rfl ?_
  exact aw_sub [1, 2, 3, 0] rfl (w_X6_firstFree_L2 hG M B FU _ _ _)
theorem c_X6_firstFree (l : Launch) {G : GW} (hG : ab_ok G) (v1 : Int32) (v2 : Int32) (M : Mem) : AC l G yX6_firstFree cX6_firstFree 4 (some .int) 2 [.ref 34, .int v1, .int v2] M (embRI M) (f_X6_firstFree v1 v2 M) := AC.of hG (by decide) (Nat.le_of_ble_eq_true rfl) (fun E hE B => by subst hE; exact w_X6_firstFree hG B v1 v2 M)
def f_X6_plan_b123 (k21 : Int32 → Int32 → Int32 → Mem → Option (Int32 × Mem)) (v2 : Int32) (v3 : Int32) (v4 : Int32) (M : Mem) : Option (Int32 × Mem) := k21 v2 v3 (v4 + 1) M
set_option maxRecDepth 100000 in
set_option maxHeartbeats 4000000 in
theorem w_X6_plan_b123 {G : GW} {E : EE} (hG : ab_ok G) {k21 : Int32 → Int32 → Int32 → Mem → Option (Int32 × Mem)} (B : Bx G E RX6 cX6_plan 6 3 (some .int)) (hk21 : ∀ (v2 : Int32) (v3 : Int32) (v4 : Int32) (M : Mem), AWo G E cX6_plan 6 (ab_Q G E embI) 21 [(0, .ref 34), (1, .ref 1), (2, .int v2), (3, .int v3), (4, .int v4)] [] M (k21 v2 v3 v4 M)) (v2 : Int32) (v3 : Int32) (v4 : Int32) (M : Mem) : AWo G E cX6_plan 6 (ab_Q G E embI) 123 [(0, .ref 34), (1, .ref 1), (2, .int v2), (3, .int v3), (4, .int v4)] [] M (f_X6_plan_b123 k21 v2 v3 v4 M) := by
  unfold f_X6_plan_b123
  refine aw_iinc (i := 4) (n := 1) B 4 [(4, .int (v4 + 1)), (0, .ref 34), (1, .ref 1), (2, .int v2), (3, .int v3)] (by decide +kernel) rfl (Nat.le_of_ble_eq_true rfl) (v4 + 1) (ab_inc (by decide)) rfl ?_
  refine aw_goto (off := -105) B 21 (by decide +kernel) (by decide) ?_
  exact aw_sub [1, 2, 3, 4, 0] rfl (hk21 _ _ _ _)
def f_X6_plan_L21 : Nat → Int32 → Int32 → Int32 → Mem → Option (Int32 × Mem)
  | 0, _, _, _, _ => none
  | n + 1, v2, v3, v4, M => (if (M.1 1 1) ≤ v4 then (some (v3, M)) else ck (okI 5 v4) ((if (M.1 5 v4.toNatClampNeg) = (1 : Int32) then ck (okI 3 v4) (ck (okI 4 v4) (lt ((ab_shl (1 : Int32) (M.1 3 v4.toNatClampNeg)) ||| (ab_shl (1 : Int32) (M.1 4 v4.toNatClampNeg))) fun x1 => (f_X6_firstFree x1 v2 M).bind fun x2 => ck (okI 37 v4) (lt (wI M 37 v4.toNatClampNeg x2) fun M4 => ck (okI 37 v4) (ck (okI 38 (M4.1 37 v4.toNatClampNeg)) (ck (okI 38 (M4.1 37 v4.toNatClampNeg)) (lt (wI M4 38 (M4.1 37 v4.toNatClampNeg).toNatClampNeg ((M4.1 38 (M4.1 37 v4.toNatClampNeg).toNatClampNeg) ||| x1)) fun M5 => ck (okI 37 v4) (ck (okI 39 (M5.1 37 v4.toNatClampNeg)) (ck (okI 39 (M5.1 37 v4.toNatClampNeg)) (lt (wI M5 39 (M5.1 37 v4.toNatClampNeg).toNatClampNeg ((M5.1 39 (M5.1 37 v4.toNatClampNeg).toNatClampNeg) + (1 : Int32))) fun M6 => ck (okI 37 v4) (lt (ab_max v3 ((M6.1 37 v4.toNatClampNeg) + (1 : Int32))) fun x7 => f_X6_plan_b123 (fun a0 a1 a2 a3 => f_X6_plan_L21 n a0 a1 a2 a3) v2 x7 v4 M6)))))))))) else f_X6_plan_b123 (fun a0 a1 a2 a3 => f_X6_plan_L21 n a0 a1 a2 a3) v2 v3 v4 M)))
set_option maxRecDepth 100000 in
set_option maxHeartbeats 4000000 in
theorem w_X6_plan_L21 {G : GW} {E : EE} (hG : ab_ok G) (B : Bx G E RX6 cX6_plan 6 3 (some .int)) : ∀ (n : Nat) (v2 : Int32) (v3 : Int32) (v4 : Int32) (M : Mem), AWo G E cX6_plan 6 (ab_Q G E embI) 21 [(0, .ref 34), (1, .ref 1), (2, .int v2), (3, .int v3), (4, .int v4)] [] M (f_X6_plan_L21 n v2 v3 v4 M) := by
  intro n
  induction n with
  | zero => intro _ _ _ _; exact aw_none
  | succ n ih =>
    intro v2 v3 v4 M
    rw [f_X6_plan_L21]
    refine aw_iload (i := 4) B 4 (by decide +kernel) rfl ?_
    refine aw_aload_n (k0 := 1) B 1 (by decide +kernel) rfl rfl ?_
    refine aw_geti (c := 1) B lkX6_46 (by decide +kernel) rfl ?_
    refine aw_icmp_ge (off := 102) B 129 (by decide +kernel) (by decide) (fun _ => ?_) (fun _ => ?_)
    · refine aw_iload_n (k0 := 3) B 3 (by decide +kernel) rfl rfl ?_
      exact aw_ireturn B (by decide +kernel) rfl
    · refine aw_aload_n (k0 := 1) B 1 (by decide +kernel) rfl rfl ?_
      refine aw_getr (c := 1) B lkX6_49 (by decide +kernel) rfl (r := 5) rfl ?_
      refine aw_iload (i := 4) B 4 (by decide +kernel) rfl ?_
      refine aw_iaload B (by decide +kernel) ?_
      refine aw_iconst (n := 1) (v := (1 : Int32)) B (by decide +kernel) (by decide) ?_
      refine aw_icmp_ne (off := 85) B 123 (by decide +kernel) (by decide) (fun _ => ?_) (fun _ => ?_)
      · exact w_X6_plan_b123 hG B ih _ _ _ _
      · refine aw_iconst (n := 1) (v := (1 : Int32)) B (by decide +kernel) (by decide) ?_
        refine aw_aload_n (k0 := 1) B 1 (by decide +kernel) rfl rfl ?_
        refine aw_getr (c := 1) B lkX6_55 (by decide +kernel) rfl (r := 3) rfl ?_
        refine aw_iload (i := 4) B 4 (by decide +kernel) rfl ?_
        refine aw_iaload B (by decide +kernel) ?_
        refine aw_ishl B (by decide +kernel) ?_
        refine aw_iconst (n := 1) (v := (1 : Int32)) B (by decide +kernel) (by decide) ?_
        refine aw_aload_n (k0 := 1) B 1 (by decide +kernel) rfl rfl ?_
        refine aw_getr (c := 1) B lkX6_52 (by decide +kernel) rfl (r := 4) rfl ?_
        refine aw_iload (i := 4) B 4 (by decide +kernel) rfl ?_
        refine aw_iaload B (by decide +kernel) ?_
        refine aw_ishl B (by decide +kernel) ?_
        refine aw_ior B (by decide +kernel) ?_
        refine aw_ltI (fun x1 => ?_)
        refine aw_istore (i := 5) B [(5, .int x1), (0, .ref 34), (1, .ref 1), (2, .int v2), (3, .int v3), (4, .int v4)] (by decide +kernel) (Nat.le_of_ble_eq_true rfl) rfl ?_
        refine aw_aload_n (k0 := 0) B 1 (by decide +kernel) rfl rfl ?_
        refine aw_getr (c := 34) B lkX6_18 (by decide +kernel) rfl (r := 37) rfl ?_
        refine aw_iload (i := 4) B 5 (by decide +kernel) rfl ?_
        refine aw_aload_n (k0 := 0) B 1 (by decide +kernel) rfl rfl ?_
        refine aw_iload (i := 5) B 0 (by decide +kernel) rfl ?_
        refine aw_iload_n (k0 := 2) B 3 (by decide +kernel) rfl rfl ?_
        refine aw_cVR B (c_X6_firstFree (eLa E) hG x1 v2 M) cvX6_64 rfl rfl (Nat.le_of_ble_eq_true rfl) rfl (Nat.le_of_ble_eq_true rfl) (by decide +kernel) rfl (fun x2 => ?_)
        refine aw_iastore B (by decide +kernel) (fun M4 => ?_)
        refine aw_aload_n (k0 := 0) B 1 (by decide +kernel) rfl rfl ?_
        refine aw_getr (c := 34) B lkX6_21 (by decide +kernel) rfl (r := 38) rfl ?_
        refine aw_aload_n (k0 := 0) B 1 (by decide +kernel) rfl rfl ?_
        refine aw_getr (c := 34) B lkX6_18 (by decide +kernel) rfl (r := 37) rfl ?_
        refine aw_iload (i := 4) B 5 (by decide +kernel) rfl ?_
        refine aw_iaload B (by decide +kernel) ?_
        refine aw_dup2_11 B (by decide +kernel) rfl rfl ?_
        refine aw_iaload B (by decide +kernel) ?_
        refine aw_iload (i := 5) B 0 (by decide +kernel) rfl ?_
        refine aw_ior B (by decide +kernel) ?_
        refine aw_iastore B (by decide +kernel) (fun M5 => ?_)
        refine aw_aload_n (k0 := 0) B 1 (by decide +kernel) rfl rfl ?_
        refine aw_getr (c := 34) B lkX6_24 (by decide +kernel) rfl (r := 39) rfl ?_
        refine aw_aload_n (k0 := 0) B 1 (by decide +kernel) rfl rfl ?_
        refine aw_getr (c := 34) B lkX6_18 (by decide +kernel) rfl (r := 37) rfl ?_
        refine aw_iload (i := 4) B 5 (by decide +kernel) rfl ?_
        refine aw_iaload B (by decide +kernel) ?_
        refine aw_dup2_11 B (by decide +kernel) rfl rfl ?_
        refine aw_iaload B (by decide +kernel) ?_
        refine aw_iconst (n := 1) (v := (1 : Int32)) B (by decide +kernel) (by decide) ?_
        refine aw_iadd B (by decide +kernel) ?_
        refine aw_iastore B (by decide +kernel) (fun M6 => ?_)
        refine aw_iload_n (k0 := 3) B 4 (by decide +kernel) rfl rfl ?_
        refine aw_aload_n (k0 := 0) B 1 (by decide +kernel) rfl rfl ?_
        refine aw_getr (c := 34) B lkX6_18 (by decide +kernel) rfl (r := 37) rfl ?_
        refine aw_iload (i := 4) B 5 (by decide +kernel) rfl ?_
        refine aw_iaload B (by decide +kernel) ?_
        refine aw_iconst (n := 1) (v := (1 : Int32)) B (by decide +kernel) (by decide) ?_
        refine aw_iadd B (by decide +kernel) ?_
        refine aw_max B lxX6_68 (by decide +kernel) (Nat.le_of_ble_eq_true rfl) (Nat.le_of_ble_eq_true rfl) ?_
        refine aw_ltI (fun x7 => ?_)
        refine aw_istore_n (k0 := 3) B [(3, .int x7), (5, .int x1), (0, .ref 34), (1, .ref 1), (2, .int v2), (4, .int v4)] (by decide +kernel) rfl (Nat.le_of_ble_eq_true rfl) rfl ?_
        exact aw_sub [2, 3, 4, 0, 5] rfl (w_X6_plan_b123 hG B ih _ _ _ _)
def f_X6_plan (v2 : Int32) (M : Mem) : Option (Int32 × Mem) := (f_J7_fill_53178 38 (0 : Int32) M).bind fun M2 => (f_J7_fill_53178 39 (0 : Int32) M2).bind fun M4 => f_X6_plan_L21 FU v2 (0 : Int32) (0 : Int32) M4
set_option maxRecDepth 100000 in
set_option maxHeartbeats 4000000 in
theorem w_X6_plan {G : GW} {E : EE} (hG : ab_ok G) (B : Bx G E RX6 cX6_plan 6 3 (some .int)) (v2 : Int32) (M : Mem) : AWo G E cX6_plan 6 (ab_Q G E embI) 0 [(0, .ref 34), (1, .ref 1), (2, .int v2)] [] M (f_X6_plan v2 M) := by
  unfold f_X6_plan
  refine aw_iconst (n := 0) (v := (0 : Int32)) B (by decide +kernel) (by decide) ?_
  refine aw_istore_n (k0 := 3) B [(3, .int (0 : Int32)), (0, .ref 34), (1, .ref 1), (2, .int v2)] (by decide +kernel) rfl (Nat.le_of_ble_eq_true rfl) rfl ?_
  refine aw_aload_n (k0 := 0) B 1 (by decide +kernel) rfl rfl ?_
  refine aw_getr (c := 34) B lkX6_21 (by decide +kernel) rfl (r := 38) rfl ?_
  refine aw_iconst (n := 0) (v := (0 : Int32)) B (by decide +kernel) (by decide) ?_
  refine aw_cSV B (c_J7_fill_53178 (eLa E) hG 38 (0 : Int32) M) csX6_58 (Nat.le_of_ble_eq_true rfl) rfl (Nat.le_of_ble_eq_true rfl) (by decide +kernel) rfl (fun M2 => ?_)
  refine aw_aload_n (k0 := 0) B 1 (by decide +kernel) rfl rfl ?_
  refine aw_getr (c := 34) B lkX6_24 (by decide +kernel) rfl (r := 39) rfl ?_
  refine aw_iconst (n := 0) (v := (0 : Int32)) B (by decide +kernel) (by decide) ?_
  refine aw_cSV B (c_J7_fill_53178 (eLa E) hG 39 (0 : Int32) M2) csX6_58 (Nat.le_of_ble_eq_true rfl) rfl (Nat.le_of_ble_eq_true rfl) (by decide +kernel) rfl (fun M4 => ?_)
  refine aw_iconst (n := 0) (v := (0 : Int32)) B (by decide +kernel) (by decide) ?_
  refine aw_istore (i := 4) B [(4, .int (0 : Int32)), (3, .int (0 : Int32)), (0, .ref 34), (1, .ref 1), (2, .int v2)] (by decide +kernel) (Nat.le_of_ble_eq_true rfl) rfl ?_
  exact aw_sub [2, 3, 4, 1, 0] rfl (w_X6_plan_L21 hG B FU _ _ _ _)
theorem c_X6_plan (l : Launch) {G : GW} (hG : ab_ok G) (v2 : Int32) (M : Mem) : AC l G yX6_plan cX6_plan 6 (some .int) 3 [.ref 34, .ref 1, .int v2] M embI (f_X6_plan v2 M) := AC.of hG (by decide) (Nat.le_of_ble_eq_true rfl) (fun E hE B => by subst hE; exact w_X6_plan hG B v2 M)
def f_X10_days_b48 (v1 : Int32) (v2 : Int32) (M : Mem) : Option (Int32 × Mem) := bI (f_X6_plan v1 M) fun x1 M2 => (if v2 = (-1 : Int32) then (some (x1, M2)) else ck (okI 37 v2) ((some (M2.1 37 v2.toNatClampNeg, M2))))
set_option maxRecDepth 100000 in
set_option maxHeartbeats 4000000 in
theorem w_X10_days_b48 {G : GW} {E : EE} (hG : ab_ok G) (B : Bx G E RX10 cX10_days 4 4 (some .int)) (v1 : Int32) (v2 : Int32) (M : Mem) : AWo G E cX10_days 4 (ab_Q G E embI) 48 [(0, .ref 0), (1, .int v1), (2, .int v2)] [] M (f_X10_days_b48 v1 v2 M) := by
  unfold f_X10_days_b48
  refine aw_aload_n (k0 := 0) B 0 (by decide +kernel) rfl rfl ?_
  refine aw_getr (c := 0) B lkX10_61 (by decide +kernel) rfl (r := 34) rfl ?_
  refine aw_aload_n (k0 := 0) B 0 (by decide +kernel) rfl rfl ?_
  refine aw_getr (c := 0) B lkX10_10 (by decide +kernel) rfl (r := 1) rfl ?_
  refine aw_iload_n (k0 := 1) B 1 (by decide +kernel) rfl rfl ?_
  refine aw_cVI B (c_X6_plan (eLa E) hG v1 M) cvX10_317 rfl rfl (Nat.le_of_ble_eq_true rfl) rfl (Nat.le_of_ble_eq_true rfl) (by decide +kernel) rfl (fun x1 M2 => ?_)
  refine aw_istore_n (k0 := 3) B [(3, .int x1), (0, .ref 0), (1, .int v1), (2, .int v2)] (by decide +kernel) rfl (Nat.le_of_ble_eq_true rfl) rfl ?_
  refine aw_iload_n (k0 := 2) B 3 (by decide +kernel) rfl rfl ?_
  refine aw_iconst (n := -1) (v := (-1 : Int32)) B (by decide +kernel) (by decide) ?_
  refine aw_icmp_ne (off := 7) B 70 (by decide +kernel) (by decide) (fun _ => ?_) (fun _ => ?_)
  · refine aw_aload_n (k0 := 0) B 1 (by decide +kernel) rfl rfl ?_
    refine aw_getr (c := 0) B lkX10_61 (by decide +kernel) rfl (r := 34) rfl ?_
    refine aw_getr (c := 34) B lkX10_320 (by decide +kernel) rfl (r := 37) rfl ?_
    refine aw_iload_n (k0 := 2) B 3 (by decide +kernel) rfl rfl ?_
    refine aw_iaload B (by decide +kernel) ?_
    exact aw_ireturn B (by decide +kernel) rfl
  · refine aw_iload_n (k0 := 3) B 0 (by decide +kernel) rfl rfl ?_
    refine aw_goto (off := 12) B 79 (by decide +kernel) (by decide) ?_
    exact aw_ireturn B (by decide +kernel) rfl
def f_X10_days_b28 (v1 : Int32) (v2 : Int32) (M : Mem) : Option (Int32 × Mem) := (if v2 = (-1 : Int32) then f_X10_days_b48 v1 v2 M else ck (okI 5 v2) ((if (M.1 5 v2.toNatClampNeg) = 0 then (some ((-2 : Int32), M)) else f_X10_days_b48 v1 v2 M)))
set_option maxRecDepth 100000 in
set_option maxHeartbeats 4000000 in
theorem w_X10_days_b28 {G : GW} {E : EE} (hG : ab_ok G) (B : Bx G E RX10 cX10_days 4 4 (some .int)) (v1 : Int32) (v2 : Int32) (M : Mem) : AWo G E cX10_days 4 (ab_Q G E embI) 28 [(0, .ref 0), (1, .int v1), (2, .int v2)] [] M (f_X10_days_b28 v1 v2 M) := by
  unfold f_X10_days_b28
  refine aw_iload_n (k0 := 2) B 2 (by decide +kernel) rfl rfl ?_
  refine aw_iconst (n := -1) (v := (-1 : Int32)) B (by decide +kernel) (by decide) ?_
  refine aw_icmp_eq (off := 18) B 48 (by decide +kernel) (by decide) (fun _ => ?_) (fun _ => ?_)
  · exact w_X10_days_b48 hG B _ _ _
  · refine aw_aload_n (k0 := 0) B 0 (by decide +kernel) rfl rfl ?_
    refine aw_getr (c := 0) B lkX10_10 (by decide +kernel) rfl (r := 1) rfl ?_
    refine aw_getr (c := 1) B lkX10_154 (by decide +kernel) rfl (r := 5) rfl ?_
    refine aw_iload_n (k0 := 2) B 2 (by decide +kernel) rfl rfl ?_
    refine aw_iaload B (by decide +kernel) ?_
    refine aw_if_ne (off := 6) B 48 (by decide +kernel) (by decide) (fun _ => ?_) (fun _ => ?_)
    · exact w_X10_days_b48 hG B _ _ _
    · refine aw_bipush (n := -2) (v := (-2 : Int32)) B (by decide +kernel) (by decide) ?_
      exact aw_ireturn B (by decide +kernel) rfl
def f_X10_days (v1 : Int32) (v2 : Int32) (M : Mem) : Option (Int32 × Mem) := (if v1 < (1 : Int32) then (some ((-1 : Int32), M)) else (if (4 : Int32) < v1 then (some ((-1 : Int32), M)) else (if v2 = (-1 : Int32) then f_X10_days_b28 v1 v2 M else (f_X4_hasMatch v2 M).bind fun x1 => (if x1 = 0 then (some ((-1 : Int32), M)) else f_X10_days_b28 v1 v2 M))))
set_option maxRecDepth 100000 in
set_option maxHeartbeats 4000000 in
theorem w_X10_days {G : GW} {E : EE} (hG : ab_ok G) (B : Bx G E RX10 cX10_days 4 4 (some .int)) (v1 : Int32) (v2 : Int32) (M : Mem) : AWo G E cX10_days 4 (ab_Q G E embI) 0 [(0, .ref 0), (1, .int v1), (2, .int v2)] [] M (f_X10_days v1 v2 M) := by
  unfold f_X10_days
  refine aw_iload_n (k0 := 1) B 1 (by decide +kernel) rfl rfl ?_
  refine aw_iconst (n := 1) (v := (1 : Int32)) B (by decide +kernel) (by decide) ?_
  refine aw_icmp_lt (off := 24) B 26 (by decide +kernel) (by decide) (fun _ => ?_) (fun _ => ?_)
  · refine aw_iconst (n := -1) (v := (-1 : Int32)) B (by decide +kernel) (by decide) ?_
    exact aw_ireturn B (by decide +kernel) rfl
  · refine aw_iload_n (k0 := 1) B 1 (by decide +kernel) rfl rfl ?_
    refine aw_iconst (n := 4) (v := (4 : Int32)) B (by decide +kernel) (by decide) ?_
    refine aw_icmp_gt (off := 19) B 26 (by decide +kernel) (by decide) (fun _ => ?_) (fun _ => ?_)
    · refine aw_iconst (n := -1) (v := (-1 : Int32)) B (by decide +kernel) (by decide) ?_
      exact aw_ireturn B (by decide +kernel) rfl
    · refine aw_iload_n (k0 := 2) B 2 (by decide +kernel) rfl rfl ?_
      refine aw_iconst (n := -1) (v := (-1 : Int32)) B (by decide +kernel) (by decide) ?_
      refine aw_icmp_eq (off := 16) B 28 (by decide +kernel) (by decide) (fun _ => ?_) (fun _ => ?_)
      · exact w_X10_days_b28 hG B _ _ _
      · refine aw_aload_n (k0 := 0) B 0 (by decide +kernel) rfl rfl ?_
        refine aw_getr (c := 0) B lkX10_10 (by decide +kernel) rfl (r := 1) rfl ?_
        refine aw_iload_n (k0 := 2) B 2 (by decide +kernel) rfl rfl ?_
        refine aw_cVR B (c_X4_hasMatch (eLa E) hG v2 M) cvX10_138 rfl rfl (Nat.le_of_ble_eq_true rfl) rfl (Nat.le_of_ble_eq_true rfl) (by decide +kernel) rfl (fun x1 => ?_)
        refine aw_if_ne (off := 5) B 28 (by decide +kernel) (by decide) (fun _ => ?_) (fun _ => ?_)
        · exact w_X10_days_b28 hG B _ _ _
        · refine aw_iconst (n := -1) (v := (-1 : Int32)) B (by decide +kernel) (by decide) ?_
          exact aw_ireturn B (by decide +kernel) rfl
theorem c_X10_days (l : Launch) {G : GW} (hG : ab_ok G) (v1 : Int32) (v2 : Int32) (M : Mem) : AC l G yX10_days cX10_days 4 (some .int) 4 [.ref 0, .int v1, .int v2] M embI (f_X10_days v1 v2 M) := AC.of hG (by decide) (Nat.le_of_ble_eq_true rfl) (fun E hE B => by subst hE; exact w_X10_days hG B v1 v2 M)
def f_X11_mayPlay_b104 (k6 : Int32 → Int32 → Int32 → Int32 → Int32 → Option Int32) (M : Mem) (v1 : Int32) (v2 : Int32) (v3 : Int32) (v4 : Int32) (v5 : Int32) : Option Int32 := k6 v1 v2 v3 v4 (v5 + 1)
set_option maxRecDepth 100000 in
set_option maxHeartbeats 4000000 in
theorem w_X11_mayPlay_b104 {G : GW} {E : EE} (hG : ab_ok G) (M : Mem) {k6 : Int32 → Int32 → Int32 → Int32 → Int32 → Option Int32} (B : Bx G E RX11 cX11_mayPlay 6 3 (some .boolean)) (hk6 : ∀ (v1 : Int32) (v2 : Int32) (v3 : Int32) (v4 : Int32) (v5 : Int32), AWo G E cX11_mayPlay 6 (ab_Q G E (embRI M)) 6 [(0, .ref 47), (1, .int v1), (2, .int v2), (3, .int v3), (4, .int v4), (5, .int v5)] [] M (k6 v1 v2 v3 v4 v5)) (v1 : Int32) (v2 : Int32) (v3 : Int32) (v4 : Int32) (v5 : Int32) : AWo G E cX11_mayPlay 6 (ab_Q G E (embRI M)) 104 [(0, .ref 47), (1, .int v1), (2, .int v2), (3, .int v3), (4, .int v4), (5, .int v5)] [] M (f_X11_mayPlay_b104 k6 M v1 v2 v3 v4 v5) := by
  unfold f_X11_mayPlay_b104
  refine aw_iinc (i := 5) (n := 1) B 5 [(5, .int (v5 + 1)), (0, .ref 47), (1, .int v1), (2, .int v2), (3, .int v3), (4, .int v4)] (by decide +kernel) rfl (Nat.le_of_ble_eq_true rfl) (v5 + 1) (ab_inc (by decide)) rfl ?_
  refine aw_goto (off := -101) B 6 (by decide +kernel) (by decide) ?_
  exact aw_sub [1, 2, 3, 4, 5, 0] rfl (hk6 _ _ _ _ _)
def f_X11_mayPlay_L6 (M : Mem) : Nat → Int32 → Int32 → Int32 → Int32 → Int32 → Option Int32
  | 0, _, _, _, _, _ => none
  | n + 1, v1, v2, v3, v4, v5 => (if v1 ≤ v5 then (if v3 ≤ v4 then (some (0 : Int32)) else (some (1 : Int32))) else (f_X11_counts v5 M).bind fun x1 => (if x1 = 0 then f_X11_mayPlay_b104 (fun a0 a1 a2 a3 a4 => f_X11_mayPlay_L6 M n a0 a1 a2 a3 a4) M v1 v2 v3 v4 v5 else ck (okI 70 v5) ((if (M.1 70 v5.toNatClampNeg) = v2 then ck (okI 52 v5) (ck (okI 52 v1) ((if (M.1 52 v5.toNatClampNeg) = (M.1 52 v1.toNatClampNeg) then (some (0 : Int32)) else ck (okI 52 v5) (ck (okI 53 v1) ((if (M.1 52 v5.toNatClampNeg) = (M.1 53 v1.toNatClampNeg) then (some (0 : Int32)) else ck (okI 53 v5) (ck (okI 52 v1) ((if (M.1 53 v5.toNatClampNeg) = (M.1 52 v1.toNatClampNeg) then (some (0 : Int32)) else ck (okI 53 v5) (ck (okI 53 v1) ((if (M.1 53 v5.toNatClampNeg) = (M.1 53 v1.toNatClampNeg) then (some (0 : Int32)) else f_X11_mayPlay_b104 (fun a0 a1 a2 a3 a4 => f_X11_mayPlay_L6 M n a0 a1 a2 a3 a4) M v1 v2 v3 (v4 + 1) v5)))))))))))) else f_X11_mayPlay_b104 (fun a0 a1 a2 a3 a4 => f_X11_mayPlay_L6 M n a0 a1 a2 a3 a4) M v1 v2 v3 v4 v5))))
set_option maxRecDepth 100000 in
set_option maxHeartbeats 4000000 in
theorem w_X11_mayPlay_L6 {G : GW} {E : EE} (hG : ab_ok G) (M : Mem) (B : Bx G E RX11 cX11_mayPlay 6 3 (some .boolean)) : ∀ (n : Nat) (v1 : Int32) (v2 : Int32) (v3 : Int32) (v4 : Int32) (v5 : Int32), AWo G E cX11_mayPlay 6 (ab_Q G E (embRI M)) 6 [(0, .ref 47), (1, .int v1), (2, .int v2), (3, .int v3), (4, .int v4), (5, .int v5)] [] M (f_X11_mayPlay_L6 M n v1 v2 v3 v4 v5) := by
  intro n
  induction n with
  | zero => intro _ _ _ _ _; exact aw_none
  | succ n ih =>
    intro v1 v2 v3 v4 v5
    rw [f_X11_mayPlay_L6]
    refine aw_iload (i := 5) B 5 (by decide +kernel) rfl ?_
    refine aw_iload_n (k0 := 1) B 1 (by decide +kernel) rfl rfl ?_
    refine aw_icmp_ge (off := 101) B 110 (by decide +kernel) (by decide) (fun _ => ?_) (fun _ => ?_)
    · refine aw_iload (i := 4) B 4 (by decide +kernel) rfl ?_
      refine aw_iload_n (k0 := 3) B 3 (by decide +kernel) rfl rfl ?_
      refine aw_icmp_ge (off := 7) B 120 (by decide +kernel) (by decide) (fun _ => ?_) (fun _ => ?_)
      · refine aw_iconst (n := 0) (v := (0 : Int32)) B (by decide +kernel) (by decide) ?_
        exact aw_zreturnK B (by decide +kernel) rfl (by decide)
      · refine aw_iconst (n := 1) (v := (1 : Int32)) B (by decide +kernel) (by decide) ?_
        refine aw_goto (off := 4) B 121 (by decide +kernel) (by decide) ?_
        exact aw_zreturnK B (by decide +kernel) rfl (by decide)
    · refine aw_aload_n (k0 := 0) B 0 (by decide +kernel) rfl rfl ?_
      refine aw_iload (i := 5) B 5 (by decide +kernel) rfl ?_
      refine aw_cVR B (c_X11_counts (eLa E) hG v5 M) cvX11_145 rfl rfl (Nat.le_of_ble_eq_true rfl) rfl (Nat.le_of_ble_eq_true rfl) (by decide +kernel) rfl (fun x1 => ?_)
      refine aw_if_eq (off := 86) B 104 (by decide +kernel) (by decide) (fun _ => ?_) (fun _ => ?_)
      · exact w_X11_mayPlay_b104 hG M B ih _ _ _ _ _
      · refine aw_aload_n (k0 := 0) B 0 (by decide +kernel) rfl rfl ?_
        refine aw_getr (c := 47) B lkX11_78 (by decide +kernel) rfl (r := 70) rfl ?_
        refine aw_iload (i := 5) B 5 (by decide +kernel) rfl ?_
        refine aw_iaload B (by decide +kernel) ?_
        refine aw_iload_n (k0 := 2) B 2 (by decide +kernel) rfl rfl ?_
        refine aw_icmp_eq (off := 6) B 35 (by decide +kernel) (by decide) (fun _ => ?_) (fun _ => ?_)
        · refine aw_iinc (i := 4) (n := 1) B 4 [(4, .int (v4 + 1)), (0, .ref 47), (1, .int v1), (2, .int v2), (3, .int v3), (5, .int v5)] (by decide +kernel) rfl (Nat.le_of_ble_eq_true rfl) (v4 + 1) (ab_inc (by decide)) rfl ?_
          refine aw_aload_n (k0 := 0) B 1 (by decide +kernel) rfl rfl ?_
          refine aw_getr (c := 47) B lkX11_22 (by decide +kernel) rfl (r := 52) rfl ?_
          refine aw_iload (i := 5) B 5 (by decide +kernel) rfl ?_
          refine aw_iaload B (by decide +kernel) ?_
          refine aw_aload_n (k0 := 0) B 1 (by decide +kernel) rfl rfl ?_
          refine aw_getr (c := 47) B lkX11_22 (by decide +kernel) rfl (r := 52) rfl ?_
          refine aw_iload_n (k0 := 1) B 2 (by decide +kernel) rfl rfl ?_
          refine aw_iaload B (by decide +kernel) ?_
          refine aw_icmp_eq (off := 51) B 102 (by decide +kernel) (by decide) (fun _ => ?_) (fun _ => ?_)
          · refine aw_iconst (n := 0) (v := (0 : Int32)) B (by decide +kernel) (by decide) ?_
            exact aw_zreturnK B (by decide +kernel) rfl (by decide)
          · refine aw_aload_n (k0 := 0) B 1 (by decide +kernel) rfl rfl ?_
            refine aw_getr (c := 47) B lkX11_22 (by decide +kernel) rfl (r := 52) rfl ?_
            refine aw_iload (i := 5) B 5 (by decide +kernel) rfl ?_
            refine aw_iaload B (by decide +kernel) ?_
            refine aw_aload_n (k0 := 0) B 1 (by decide +kernel) rfl rfl ?_
            refine aw_getr (c := 47) B lkX11_25 (by decide +kernel) rfl (r := 53) rfl ?_
            refine aw_iload_n (k0 := 1) B 2 (by decide +kernel) rfl rfl ?_
            refine aw_iaload B (by decide +kernel) ?_
            refine aw_icmp_eq (off := 35) B 102 (by decide +kernel) (by decide) (fun _ => ?_) (fun _ => ?_)
            · refine aw_iconst (n := 0) (v := (0 : Int32)) B (by decide +kernel) (by decide) ?_
              exact aw_zreturnK B (by decide +kernel) rfl (by decide)
            · refine aw_aload_n (k0 := 0) B 1 (by decide +kernel) rfl rfl ?_
              refine aw_getr (c := 47) B lkX11_25 (by decide +kernel) rfl (r := 53) rfl ?_
              refine aw_iload (i := 5) B 5 (by decide +kernel) rfl ?_
              refine aw_iaload B (by decide +kernel) ?_
              refine aw_aload_n (k0 := 0) B 1 (by decide +kernel) rfl rfl ?_
              refine aw_getr (c := 47) B lkX11_22 (by decide +kernel) rfl (r := 52) rfl ?_
              refine aw_iload_n (k0 := 1) B 2 (by decide +kernel) rfl rfl ?_
              refine aw_iaload B (by decide +kernel) ?_
              refine aw_icmp_eq (off := 19) B 102 (by decide +kernel) (by decide) (fun _ => ?_) (fun _ => ?_)
              · refine aw_iconst (n := 0) (v := (0 : Int32)) B (by decide +kernel) (by decide) ?_
                exact aw_zreturnK B (by decide +kernel) rfl (by decide)
              · refine aw_aload_n (k0 := 0) B 1 (by decide +kernel) rfl rfl ?_
                refine aw_getr (c := 47) B lkX11_25 (by decide +kernel) rfl (r := 53) rfl ?_
                refine aw_iload (i := 5) B 5 (by decide +kernel) rfl ?_
                refine aw_iaload B (by decide +kernel) ?_
                refine aw_aload_n (k0 := 0) B 1 (by decide +kernel) rfl rfl ?_
                refine aw_getr (c := 47) B lkX11_25 (by decide +kernel) rfl (r := 53) rfl ?_
                refine aw_iload_n (k0 := 1) B 2 (by decide +kernel) rfl rfl ?_
                refine aw_iaload B (by decide +kernel) ?_
                refine aw_icmp_ne (off := 5) B 104 (by decide +kernel) (by decide) (fun _ => ?_) (fun _ => ?_)
                · exact aw_sub [1, 2, 3, 4, 0, 5] rfl (w_X11_mayPlay_b104 hG M B ih _ _ _ _ _)
                · refine aw_iconst (n := 0) (v := (0 : Int32)) B (by decide +kernel) (by decide) ?_
                  exact aw_zreturnK B (by decide +kernel) rfl (by decide)
        · refine aw_goto (off := 72) B 104 (by decide +kernel) (by decide) ?_
          exact w_X11_mayPlay_b104 hG M B ih _ _ _ _ _
def f_X11_mayPlay (v1 : Int32) (v2 : Int32) (v3 : Int32) (M : Mem) : Option Int32 := f_X11_mayPlay_L6 M FU v1 v2 v3 (0 : Int32) (0 : Int32)
set_option maxRecDepth 100000 in
set_option maxHeartbeats 4000000 in
theorem w_X11_mayPlay {G : GW} {E : EE} (hG : ab_ok G) (B : Bx G E RX11 cX11_mayPlay 6 3 (some .boolean)) (v1 : Int32) (v2 : Int32) (v3 : Int32) (M : Mem) : AWo G E cX11_mayPlay 6 (ab_Q G E (embRI M)) 0 [(0, .ref 47), (1, .int v1), (2, .int v2), (3, .int v3)] [] M (f_X11_mayPlay v1 v2 v3 M) := by
  unfold f_X11_mayPlay
  refine aw_iconst (n := 0) (v := (0 : Int32)) B (by decide +kernel) (by decide) ?_
  refine aw_istore (i := 4) B [(4, .int (0 : Int32)), (0, .ref 47), (1, .int v1), (2, .int v2), (3, .int v3)] (by decide +kernel) (Nat.le_of_ble_eq_true rfl) rfl ?_
  refine aw_iconst (n := 0) (v := (0 : Int32)) B (by decide +kernel) (by decide) ?_
  refine aw_istore (i := 5) B [(5, .int (0 : Int32)), (4, .int (0 : Int32)), (0, .ref 47), (1, .int v1), (2, .int v2), (3, .int v3)] (by decide +kernel) (Nat.le_of_ble_eq_true rfl) rfl ?_
  exact aw_sub [2, 3, 4, 5, 1, 0] rfl (w_X11_mayPlay_L6 hG M B FU _ _ _ _ _)
theorem c_X11_mayPlay (l : Launch) {G : GW} (hG : ab_ok G) (v1 : Int32) (v2 : Int32) (v3 : Int32) (M : Mem) : AC l G yX11_mayPlay cX11_mayPlay 6 (some .boolean) 3 [.ref 47, .int v1, .int v2, .int v3] M (embRI M) (f_X11_mayPlay v1 v2 v3 M) := AC.of hG (by decide) (Nat.le_of_ble_eq_true rfl) (fun E hE B => by subst hE; exact w_X11_mayPlay hG B v1 v2 v3 M)
def f_X11_days_b109 (k32 : Int32 → Int32 → Int32 → Int32 → Mem → Option (Int32 × Mem)) (v1 : Int32) (v2 : Int32) (v3 : Int32) (v4 : Int32) (M : Mem) : Option (Int32 × Mem) := k32 v1 v2 v3 (v4 + 1) M
set_option maxRecDepth 100000 in
set_option maxHeartbeats 4000000 in
theorem w_X11_days_b109 {G : GW} {E : EE} (hG : ab_ok G) {k32 : Int32 → Int32 → Int32 → Int32 → Mem → Option (Int32 × Mem)} (B : Bx G E RX11 cX11_days 6 4 (some .int)) (hk32 : ∀ (v1 : Int32) (v2 : Int32) (v3 : Int32) (v4 : Int32) (M : Mem), AWo G E cX11_days 6 (ab_Q G E embI) 32 [(0, .ref 47), (1, .int v1), (2, .int v2), (3, .int v3), (4, .int v4)] [] M (k32 v1 v2 v3 v4 M)) (v1 : Int32) (v2 : Int32) (v3 : Int32) (v4 : Int32) (M : Mem) : AWo G E cX11_days 6 (ab_Q G E embI) 109 [(0, .ref 47), (1, .int v1), (2, .int v2), (3, .int v3), (4, .int v4)] [] M (f_X11_days_b109 k32 v1 v2 v3 v4 M) := by
  unfold f_X11_days_b109
  refine aw_iinc (i := 4) (n := 1) B 4 [(4, .int (v4 + 1)), (0, .ref 47), (1, .int v1), (2, .int v2), (3, .int v3)] (by decide +kernel) rfl (Nat.le_of_ble_eq_true rfl) (v4 + 1) (ab_inc (by decide)) rfl ?_
  refine aw_goto (off := -80) B 32 (by decide +kernel) (by decide) ?_
  exact aw_sub [1, 2, 3, 4, 0] rfl (hk32 _ _ _ _ _)
def f_X11_days_b108 (k32 : Int32 → Int32 → Int32 → Int32 → Mem → Option (Int32 × Mem)) (v1 : Int32) (v2 : Int32) (v4 : Int32) (s0 : Int32) (M : Mem) : Option (Int32 × Mem) := f_X11_days_b109 k32 v1 v2 s0 v4 M
set_option maxRecDepth 100000 in
set_option maxHeartbeats 4000000 in
theorem w_X11_days_b108 {G : GW} {E : EE} (hG : ab_ok G) {k32 : Int32 → Int32 → Int32 → Int32 → Mem → Option (Int32 × Mem)} (B : Bx G E RX11 cX11_days 6 4 (some .int)) (hk32 : ∀ (v1 : Int32) (v2 : Int32) (v3 : Int32) (v4 : Int32) (M : Mem), AWo G E cX11_days 6 (ab_Q G E embI) 32 [(0, .ref 47), (1, .int v1), (2, .int v2), (3, .int v3), (4, .int v4)] [] M (k32 v1 v2 v3 v4 M)) (v1 : Int32) (v2 : Int32) (v4 : Int32) (s0 : Int32) (M : Mem) : AWo G E cX11_days 6 (ab_Q G E embI) 108 [(0, .ref 47), (1, .int v1), (2, .int v2), (4, .int v4)] [.int s0] M (f_X11_days_b108 k32 v1 v2 v4 s0 M) := by
  unfold f_X11_days_b108
  refine aw_istore_n (k0 := 3) B [(3, .int s0), (0, .ref 47), (1, .int v1), (2, .int v2), (4, .int v4)] (by decide +kernel) rfl (Nat.le_of_ble_eq_true rfl) rfl ?_
  exact aw_sub [1, 2, 3, 0, 4] rfl (w_X11_days_b109 hG B hk32 _ _ _ _ _)
def f_X11_days_L65 (k32 : Int32 → Int32 → Int32 → Int32 → Mem → Option (Int32 × Mem)) : Nat → Int32 → Int32 → Int32 → Int32 → Int32 → Mem → Option (Int32 × Mem)
  | 0, _, _, _, _, _, _ => none
  | n + 1, v1, v2, v3, v4, v5, M => (f_X11_mayPlay v4 v5 v1 M).bind fun x1 => (if x1 = 0 then f_X11_days_L65 k32 n v1 v2 v3 v4 (v5 + 1) M else ck (okI 70 v4) (lt (wI M 70 v4.toNatClampNeg v5) fun M3 => (if (v5 + (1 : Int32)) ≤ v3 then f_X11_days_b108 k32 v1 v2 v4 v3 M3 else f_X11_days_b108 k32 v1 v2 v4 (v5 + (1 : Int32)) M3)))
set_option maxRecDepth 100000 in
set_option maxHeartbeats 4000000 in
theorem w_X11_days_L65 {G : GW} {E : EE} (hG : ab_ok G) {k32 : Int32 → Int32 → Int32 → Int32 → Mem → Option (Int32 × Mem)} (B : Bx G E RX11 cX11_days 6 4 (some .int)) (hk32 : ∀ (v1 : Int32) (v2 : Int32) (v3 : Int32) (v4 : Int32) (M : Mem), AWo G E cX11_days 6 (ab_Q G E embI) 32 [(0, .ref 47), (1, .int v1), (2, .int v2), (3, .int v3), (4, .int v4)] [] M (k32 v1 v2 v3 v4 M)) : ∀ (n : Nat) (v1 : Int32) (v2 : Int32) (v3 : Int32) (v4 : Int32) (v5 : Int32) (M : Mem), AWo G E cX11_days 6 (ab_Q G E embI) 65 [(0, .ref 47), (1, .int v1), (2, .int v2), (3, .int v3), (4, .int v4), (5, .int v5)] [] M (f_X11_days_L65 k32 n v1 v2 v3 v4 v5 M) := by
  intro n
  induction n with
  | zero => intro _ _ _ _ _ _; exact aw_none
  | succ n ih =>
    intro v1 v2 v3 v4 v5 M
    rw [f_X11_days_L65]
    refine aw_aload_n (k0 := 0) B 0 (by decide +kernel) rfl rfl ?_
    refine aw_iload (i := 4) B 4 (by decide +kernel) rfl ?_
    refine aw_iload (i := 5) B 5 (by decide +kernel) rfl ?_
    refine aw_iload_n (k0 := 1) B 1 (by decide +kernel) rfl rfl ?_
    refine aw_cVR B (c_X11_mayPlay (eLa E) hG v4 v5 v1 M) cvX11_336 rfl rfl (Nat.le_of_ble_eq_true rfl) rfl (Nat.le_of_ble_eq_true rfl) (by decide +kernel) rfl (fun x1 => ?_)
    refine aw_if_ne (off := 9) B 83 (by decide +kernel) (by decide) (fun _ => ?_) (fun _ => ?_)
    · refine aw_aload_n (k0 := 0) B 0 (by decide +kernel) rfl rfl ?_
      refine aw_getr (c := 47) B lkX11_78 (by decide +kernel) rfl (r := 70) rfl ?_
      refine aw_iload (i := 4) B 4 (by decide +kernel) rfl ?_
      refine aw_iload (i := 5) B 5 (by decide +kernel) rfl ?_
      refine aw_iastore B (by decide +kernel) (fun M3 => ?_)
      refine aw_iload (i := 5) B 5 (by decide +kernel) rfl ?_
      refine aw_iconst (n := 1) (v := (1 : Int32)) B (by decide +kernel) (by decide) ?_
      refine aw_iadd B (by decide +kernel) ?_
      refine aw_iload_n (k0 := 3) B 3 (by decide +kernel) rfl rfl ?_
      refine aw_icmp_le (off := 10) B 107 (by decide +kernel) (by decide) (fun _ => ?_) (fun _ => ?_)
      · refine aw_iload_n (k0 := 3) B 3 (by decide +kernel) rfl rfl ?_
        exact aw_sub [0, 1, 2, 4] rfl (w_X11_days_b108 hG B hk32 _ _ _ _ _)
      · refine aw_iload (i := 5) B 5 (by decide +kernel) rfl ?_
        refine aw_iconst (n := 1) (v := (1 : Int32)) B (by decide +kernel) (by decide) ?_
        refine aw_iadd B (by decide +kernel) ?_
        refine aw_goto (off := 4) B 108 (by decide +kernel) (by decide) ?_
        exact aw_sub [0, 1, 2, 4] rfl (w_X11_days_b108 hG B hk32 _ _ _ _ _)
    · refine aw_iinc (i := 5) (n := 1) B 5 [(5, .int (v5 + 1)), (0, .ref 47), (1, .int v1), (2, .int v2), (3, .int v3), (4, .int v4)] (by decide +kernel) rfl (Nat.le_of_ble_eq_true rfl) (v5 + 1) (ab_inc (by decide)) rfl ?_
      refine aw_goto (off := -15) B 65 (by decide +kernel) (by decide) ?_
      exact aw_sub [1, 2, 3, 4, 5, 0] rfl (ih _ _ _ _ _ _)
def f_X11_days_L32 : Nat → Int32 → Int32 → Int32 → Int32 → Mem → Option (Int32 × Mem)
  | 0, _, _, _, _, _ => none
  | n + 1, v1, v2, v3, v4, M => (if (M.1 47 7) ≤ v4 then (if v2 = (-1 : Int32) then (some (v3, M)) else ck (okI 70 v2) ((some (M.1 70 v2.toNatClampNeg, M)))) else ck (okI 70 v4) (lt (wI M 70 v4.toNatClampNeg (-2 : Int32)) fun M1 => (f_X11_counts v4 M1).bind fun x2 => (if x2 = 0 then f_X11_days_b109 (fun a0 a1 a2 a3 a4 => f_X11_days_L32 n a0 a1 a2 a3 a4) v1 v2 v3 v4 M1 else f_X11_days_L65 (fun a0 a1 a2 a3 a4 => f_X11_days_L32 n a0 a1 a2 a3 a4) FU v1 v2 v3 v4 (0 : Int32) M1)))
set_option maxRecDepth 100000 in
set_option maxHeartbeats 4000000 in
theorem w_X11_days_L32 {G : GW} {E : EE} (hG : ab_ok G) (B : Bx G E RX11 cX11_days 6 4 (some .int)) : ∀ (n : Nat) (v1 : Int32) (v2 : Int32) (v3 : Int32) (v4 : Int32) (M : Mem), AWo G E cX11_days 6 (ab_Q G E embI) 32 [(0, .ref 47), (1, .int v1), (2, .int v2), (3, .int v3), (4, .int v4)] [] M (f_X11_days_L32 n v1 v2 v3 v4 M) := by
  intro n
  induction n with
  | zero => intro _ _ _ _ _; exact aw_none
  | succ n ih =>
    intro v1 v2 v3 v4 M
    rw [f_X11_days_L32]
    refine aw_iload (i := 4) B 4 (by decide +kernel) rfl ?_
    refine aw_aload_n (k0 := 0) B 0 (by decide +kernel) rfl rfl ?_
    refine aw_geti (c := 47) B lkX11_116 (by decide +kernel) rfl ?_
    refine aw_icmp_ge (off := 77) B 115 (by decide +kernel) (by decide) (fun _ => ?_) (fun _ => ?_)
    · refine aw_iload_n (k0 := 2) B 2 (by decide +kernel) rfl rfl ?_
      refine aw_iconst (n := -1) (v := (-1 : Int32)) B (by decide +kernel) (by decide) ?_
      refine aw_icmp_ne (off := 7) B 124 (by decide +kernel) (by decide) (fun _ => ?_) (fun _ => ?_)
      · refine aw_aload_n (k0 := 0) B 0 (by decide +kernel) rfl rfl ?_
        refine aw_getr (c := 47) B lkX11_78 (by decide +kernel) rfl (r := 70) rfl ?_
        refine aw_iload_n (k0 := 2) B 2 (by decide +kernel) rfl rfl ?_
        refine aw_iaload B (by decide +kernel) ?_
        exact aw_ireturn B (by decide +kernel) rfl
      · refine aw_iload_n (k0 := 3) B 3 (by decide +kernel) rfl rfl ?_
        refine aw_goto (off := 9) B 130 (by decide +kernel) (by decide) ?_
        exact aw_ireturn B (by decide +kernel) rfl
    · refine aw_aload_n (k0 := 0) B 0 (by decide +kernel) rfl rfl ?_
      refine aw_getr (c := 47) B lkX11_78 (by decide +kernel) rfl (r := 70) rfl ?_
      refine aw_iload (i := 4) B 4 (by decide +kernel) rfl ?_
      refine aw_bipush (n := -2) (v := (-2 : Int32)) B (by decide +kernel) (by decide) ?_
      refine aw_iastore B (by decide +kernel) (fun M1 => ?_)
      refine aw_aload_n (k0 := 0) B 0 (by decide +kernel) rfl rfl ?_
      refine aw_iload (i := 4) B 4 (by decide +kernel) rfl ?_
      refine aw_cVR B (c_X11_counts (eLa E) hG v4 M1) cvX11_145 rfl rfl (Nat.le_of_ble_eq_true rfl) rfl (Nat.le_of_ble_eq_true rfl) (by decide +kernel) rfl (fun x2 => ?_)
      refine aw_if_ne (off := 6) B 62 (by decide +kernel) (by decide) (fun _ => ?_) (fun _ => ?_)
      · refine aw_iconst (n := 0) (v := (0 : Int32)) B (by decide +kernel) (by decide) ?_
        refine aw_istore (i := 5) B [(5, .int (0 : Int32)), (0, .ref 47), (1, .int v1), (2, .int v2), (3, .int v3), (4, .int v4)] (by decide +kernel) (Nat.le_of_ble_eq_true rfl) rfl ?_
        exact aw_sub [1, 2, 3, 4, 5, 0] rfl (w_X11_days_L65 hG B ih FU _ _ _ _ _ _)
      · refine aw_goto (off := 50) B 109 (by decide +kernel) (by decide) ?_
        exact w_X11_days_b109 hG B ih _ _ _ _ _
def f_X11_days_b27 (v1 : Int32) (v2 : Int32) (M : Mem) : Option (Int32 × Mem) := f_X11_days_L32 FU v1 v2 (0 : Int32) (0 : Int32) M
set_option maxRecDepth 100000 in
set_option maxHeartbeats 4000000 in
theorem w_X11_days_b27 {G : GW} {E : EE} (hG : ab_ok G) (B : Bx G E RX11 cX11_days 6 4 (some .int)) (v1 : Int32) (v2 : Int32) (M : Mem) : AWo G E cX11_days 6 (ab_Q G E embI) 27 [(0, .ref 47), (1, .int v1), (2, .int v2)] [] M (f_X11_days_b27 v1 v2 M) := by
  unfold f_X11_days_b27
  refine aw_iconst (n := 0) (v := (0 : Int32)) B (by decide +kernel) (by decide) ?_
  refine aw_istore_n (k0 := 3) B [(3, .int (0 : Int32)), (0, .ref 47), (1, .int v1), (2, .int v2)] (by decide +kernel) rfl (Nat.le_of_ble_eq_true rfl) rfl ?_
  refine aw_iconst (n := 0) (v := (0 : Int32)) B (by decide +kernel) (by decide) ?_
  refine aw_istore (i := 4) B [(4, .int (0 : Int32)), (3, .int (0 : Int32)), (0, .ref 47), (1, .int v1), (2, .int v2)] (by decide +kernel) (Nat.le_of_ble_eq_true rfl) rfl ?_
  exact aw_sub [2, 3, 4, 1, 0] rfl (w_X11_days_L32 hG B FU _ _ _ _ _)
def f_X11_days (v1 : Int32) (v2 : Int32) (M : Mem) : Option (Int32 × Mem) := (f_X11_within v1.toInt64 (1 : Int64) (4 : Int64)).bind fun x1 => (if x1 = 0 then (some ((-1 : Int32), M)) else (if v2 = (-1 : Int32) then f_X11_days_b27 v1 v2 M else (f_X11_isMatch v2 M).bind fun x3 => (if x3 = 0 then (some ((-1 : Int32), M)) else f_X11_days_b27 v1 v2 M)))
set_option maxRecDepth 100000 in
set_option maxHeartbeats 4000000 in
theorem w_X11_days {G : GW} {E : EE} (hG : ab_ok G) (B : Bx G E RX11 cX11_days 6 4 (some .int)) (v1 : Int32) (v2 : Int32) (M : Mem) : AWo G E cX11_days 6 (ab_Q G E embI) 0 [(0, .ref 47), (1, .int v1), (2, .int v2)] [] M (f_X11_days v1 v2 M) := by
  unfold f_X11_days
  refine aw_iload_n (k0 := 1) B 1 (by decide +kernel) rfl rfl ?_
  refine aw_i2l B (by decide +kernel) ?_
  refine aw_lconst (n := 1) (v := (1 : Int64)) B (by decide +kernel) (by decide) ?_
  refine aw_ldc2 B (by decide +kernel) lwX11_334 ?_
  refine aw_cSR B (c_X11_within (eLa E) hG v1.toInt64 (1 : Int64) (4 : Int64) M) csX11_112 (Nat.le_of_ble_eq_true rfl) rfl (Nat.le_of_ble_eq_true rfl) (by decide +kernel) rfl (fun x1 => ?_)
  refine aw_if_eq (off := 16) B 25 (by decide +kernel) (by decide) (fun _ => ?_) (fun _ => ?_)
  · refine aw_iconst (n := -1) (v := (-1 : Int32)) B (by decide +kernel) (by decide) ?_
    exact aw_ireturn B (by decide +kernel) rfl
  · refine aw_iload_n (k0 := 2) B 2 (by decide +kernel) rfl rfl ?_
    refine aw_iconst (n := -1) (v := (-1 : Int32)) B (by decide +kernel) (by decide) ?_
    refine aw_icmp_eq (off := 13) B 27 (by decide +kernel) (by decide) (fun _ => ?_) (fun _ => ?_)
    · exact w_X11_days_b27 hG B _ _ _
    · refine aw_aload_n (k0 := 0) B 0 (by decide +kernel) rfl rfl ?_
      refine aw_iload_n (k0 := 2) B 2 (by decide +kernel) rfl rfl ?_
      refine aw_cVR B (c_X11_isMatch (eLa E) hG v2 M) cvX11_142 rfl rfl (Nat.le_of_ble_eq_true rfl) rfl (Nat.le_of_ble_eq_true rfl) (by decide +kernel) rfl (fun x3 => ?_)
      refine aw_if_ne (off := 5) B 27 (by decide +kernel) (by decide) (fun _ => ?_) (fun _ => ?_)
      · exact w_X11_days_b27 hG B _ _ _
      · refine aw_iconst (n := -1) (v := (-1 : Int32)) B (by decide +kernel) (by decide) ?_
        exact aw_ireturn B (by decide +kernel) rfl
theorem c_X11_days (l : Launch) {G : GW} (hG : ab_ok G) (v1 : Int32) (v2 : Int32) (M : Mem) : AC l G yX11_days cX11_days 6 (some .int) 4 [.ref 47, .int v1, .int v2] M embI (f_X11_days v1 v2 M) := AC.of hG (by decide) (Nat.le_of_ble_eq_true rfl) (fun E hE B => by subst hE; exact w_X11_days hG B v1 v2 M)
def f_X2_goBack (M : Mem) : Option (Int32 × Mem) := (if (M.1 6 0) = 0 then (some ((-5 : Int32), M)) else lt (wI M 6 0 ((M.1 6 0) - (1 : Int32))) fun M1 => ck (okI 7 (M1.1 6 0)) (ck (okI 8 (M1.1 6 0)) (ck (okI 9 (M1.1 6 0)) ((f_X4_become (M1.1 7 (M1.1 6 0).toNatClampNeg) (M1.1 8 (M1.1 6 0).toNatClampNeg) (M1.1 9 (M1.1 6 0).toNatClampNeg) M1).bind fun M3 => (some (M3.1 6 0, M3))))))
set_option maxRecDepth 100000 in
set_option maxHeartbeats 4000000 in
theorem w_X2_goBack {G : GW} {E : EE} (hG : ab_ok G) (B : Bx G E RX2 cX2_goBack 2 3 (some .int)) (M : Mem) : AWo G E cX2_goBack 2 (ab_Q G E embI) 0 [(0, .ref 6), (1, .ref 1)] [] M (f_X2_goBack M) := by
  unfold f_X2_goBack
  refine aw_aload_n (k0 := 0) B 0 (by decide +kernel) rfl rfl ?_
  refine aw_geti (c := 6) B lkX2_24 (by decide +kernel) rfl ?_
  refine aw_if_ne (off := 6) B 10 (by decide +kernel) (by decide) (fun _ => ?_) (fun _ => ?_)
  · refine aw_aload_n (k0 := 0) B 0 (by decide +kernel) rfl rfl ?_
    refine aw_dup B (by decide +kernel) rfl ?_
    refine aw_geti (c := 6) B lkX2_24 (by decide +kernel) rfl ?_
    refine aw_iconst (n := 1) (v := (1 : Int32)) B (by decide +kernel) (by decide) ?_
    refine aw_isub B (by decide +kernel) ?_
    refine aw_puti (c := 6) B lkX2_24 lp2_0 (by decide +kernel) rfl (fun M1 => ?_)
    refine aw_aload_n (k0 := 1) B 1 (by decide +kernel) rfl rfl ?_
    refine aw_aload_n (k0 := 0) B 0 (by decide +kernel) rfl rfl ?_
    refine aw_getr (c := 6) B lkX2_11 (by decide +kernel) rfl (r := 7) rfl ?_
    refine aw_aload_n (k0 := 0) B 0 (by decide +kernel) rfl rfl ?_
    refine aw_geti (c := 6) B lkX2_24 (by decide +kernel) rfl ?_
    refine aw_iaload B (by decide +kernel) ?_
    refine aw_aload_n (k0 := 0) B 0 (by decide +kernel) rfl rfl ?_
    refine aw_getr (c := 6) B lkX2_15 (by decide +kernel) rfl (r := 8) rfl ?_
    refine aw_aload_n (k0 := 0) B 0 (by decide +kernel) rfl rfl ?_
    refine aw_geti (c := 6) B lkX2_24 (by decide +kernel) rfl ?_
    refine aw_iaload B (by decide +kernel) ?_
    refine aw_aload_n (k0 := 0) B 0 (by decide +kernel) rfl rfl ?_
    refine aw_getr (c := 6) B lkX2_18 (by decide +kernel) rfl (r := 9) rfl ?_
    refine aw_aload_n (k0 := 0) B 0 (by decide +kernel) rfl rfl ?_
    refine aw_geti (c := 6) B lkX2_24 (by decide +kernel) rfl ?_
    refine aw_iaload B (by decide +kernel) ?_
    refine aw_cVV B (c_X4_become (eLa E) hG (M1.1 7 (M1.1 6 0).toNatClampNeg) (M1.1 8 (M1.1 6 0).toNatClampNeg) (M1.1 9 (M1.1 6 0).toNatClampNeg) M1) cvX2_40 rfl rfl (Nat.le_of_ble_eq_true rfl) rfl (Nat.le_of_ble_eq_true rfl) (by decide +kernel) rfl (fun M3 => ?_)
    refine aw_aload_n (k0 := 0) B 0 (by decide +kernel) rfl rfl ?_
    refine aw_geti (c := 6) B lkX2_24 (by decide +kernel) rfl ?_
    exact aw_ireturn B (by decide +kernel) rfl
  · refine aw_bipush (n := -5) (v := (-5 : Int32)) B (by decide +kernel) (by decide) ?_
    exact aw_ireturn B (by decide +kernel) rfl
theorem c_X2_goBack (l : Launch) {G : GW} (hG : ab_ok G) (M : Mem) : AC l G yX2_goBack cX2_goBack 2 (some .int) 3 [.ref 6, .ref 1] M embI (f_X2_goBack M) := AC.of hG (by decide) (Nat.le_of_ble_eq_true rfl) (fun E hE B => by subst hE; exact w_X2_goBack hG B M)
def f_X10_undo (M : Mem) : Option (Int32 × Mem) := bI (f_X2_goBack M) fun x1 M2 => (some (x1, M2))
set_option maxRecDepth 100000 in
set_option maxHeartbeats 4000000 in
theorem w_X10_undo {G : GW} {E : EE} (hG : ab_ok G) (B : Bx G E RX10 cX10_undo 1 4 (some .int)) (M : Mem) : AWo G E cX10_undo 1 (ab_Q G E embI) 0 [(0, .ref 0)] [] M (f_X10_undo M) := by
  unfold f_X10_undo
  refine aw_aload_n (k0 := 0) B 0 (by decide +kernel) rfl rfl ?_
  refine aw_getr (c := 0) B lkX10_19 (by decide +kernel) rfl (r := 6) rfl ?_
  refine aw_aload_n (k0 := 0) B 0 (by decide +kernel) rfl rfl ?_
  refine aw_getr (c := 0) B lkX10_10 (by decide +kernel) rfl (r := 1) rfl ?_
  refine aw_cVI B (c_X2_goBack (eLa E) hG M) cvX10_323 rfl rfl (Nat.le_of_ble_eq_true rfl) rfl (Nat.le_of_ble_eq_true rfl) (by decide +kernel) rfl (fun x1 M2 => ?_)
  exact aw_ireturn B (by decide +kernel) rfl
theorem c_X10_undo (l : Launch) {G : GW} (hG : ab_ok G) (M : Mem) : AC l G yX10_undo cX10_undo 1 (some .int) 4 [.ref 0] M embI (f_X10_undo M) := AC.of hG (by decide) (Nat.le_of_ble_eq_true rfl) (fun E hE B => by subst hE; exact w_X10_undo hG B M)
def f_X11_undo (M : Mem) : Option (Int32 × Mem) := (if (M.1 47 5) = 0 then (some ((-5 : Int32), M)) else lt (wI M 47 5 ((M.1 47 5) - (1 : Int32))) fun M1 => ck (okI 49 (M1.1 47 5)) (ck (okI 50 (M1.1 47 5)) (ck (okI 48 (M1.1 49 (M1.1 47 5).toNatClampNeg)) (lt (wI M1 48 (M1.1 49 (M1.1 47 5).toNatClampNeg).toNatClampNeg (M1.1 50 (M1.1 47 5).toNatClampNeg)) fun M2 => (some (M2.1 47 5, M2))))))
set_option maxRecDepth 100000 in
set_option maxHeartbeats 4000000 in
theorem w_X11_undo {G : GW} {E : EE} (hG : ab_ok G) (B : Bx G E RX11 cX11_undo 1 2 (some .int)) (M : Mem) : AWo G E cX11_undo 1 (ab_Q G E embI) 0 [(0, .ref 47)] [] M (f_X11_undo M) := by
  unfold f_X11_undo
  refine aw_aload_n (k0 := 0) B 0 (by decide +kernel) rfl rfl ?_
  refine aw_geti (c := 47) B lkX11_103 (by decide +kernel) rfl ?_
  refine aw_if_ne (off := 6) B 10 (by decide +kernel) (by decide) (fun _ => ?_) (fun _ => ?_)
  · refine aw_aload_n (k0 := 0) B 0 (by decide +kernel) rfl rfl ?_
    refine aw_dup B (by decide +kernel) rfl ?_
    refine aw_geti (c := 47) B lkX11_103 (by decide +kernel) rfl ?_
    refine aw_iconst (n := 1) (v := (1 : Int32)) B (by decide +kernel) (by decide) ?_
    refine aw_isub B (by decide +kernel) ?_
    refine aw_puti (c := 47) B lkX11_103 lp11_5 (by decide +kernel) rfl (fun M1 => ?_)
    refine aw_aload_n (k0 := 0) B 0 (by decide +kernel) rfl rfl ?_
    refine aw_getr (c := 47) B lkX11_9 (by decide +kernel) rfl (r := 48) rfl ?_
    refine aw_aload_n (k0 := 0) B 0 (by decide +kernel) rfl rfl ?_
    refine aw_getr (c := 47) B lkX11_13 (by decide +kernel) rfl (r := 49) rfl ?_
    refine aw_aload_n (k0 := 0) B 0 (by decide +kernel) rfl rfl ?_
    refine aw_geti (c := 47) B lkX11_103 (by decide +kernel) rfl ?_
    refine aw_iaload B (by decide +kernel) ?_
    refine aw_aload_n (k0 := 0) B 0 (by decide +kernel) rfl rfl ?_
    refine aw_getr (c := 47) B lkX11_16 (by decide +kernel) rfl (r := 50) rfl ?_
    refine aw_aload_n (k0 := 0) B 0 (by decide +kernel) rfl rfl ?_
    refine aw_geti (c := 47) B lkX11_103 (by decide +kernel) rfl ?_
    refine aw_iaload B (by decide +kernel) ?_
    refine aw_iastore B (by decide +kernel) (fun M2 => ?_)
    refine aw_aload_n (k0 := 0) B 0 (by decide +kernel) rfl rfl ?_
    refine aw_geti (c := 47) B lkX11_103 (by decide +kernel) rfl ?_
    exact aw_ireturn B (by decide +kernel) rfl
  · refine aw_bipush (n := -5) (v := (-5 : Int32)) B (by decide +kernel) (by decide) ?_
    exact aw_ireturn B (by decide +kernel) rfl
theorem c_X11_undo (l : Launch) {G : GW} (hG : ab_ok G) (M : Mem) : AC l G yX11_undo cX11_undo 1 (some .int) 2 [.ref 47] M embI (f_X11_undo M) := AC.of hG (by decide) (Nat.le_of_ble_eq_true rfl) (fun E hE B => by subst hE; exact w_X11_undo hG B M)
def f_X2_goOn (M : Mem) : Option (Int32 × Mem) := (if (M.1 6 0) < (M.1 6 1) then ck (okI 7 (M.1 6 0)) (ck (okI 8 (M.1 6 0)) (ck (okI 10 (M.1 6 0)) ((f_X4_become (M.1 7 (M.1 6 0).toNatClampNeg) (M.1 8 (M.1 6 0).toNatClampNeg) (M.1 10 (M.1 6 0).toNatClampNeg) M).bind fun M2 => lt (wI M2 6 0 ((M2.1 6 0) + (1 : Int32))) fun M3 => (some ((M3.1 6 1) - (M3.1 6 0), M3))))) else (some ((-5 : Int32), M)))
set_option maxRecDepth 100000 in
set_option maxHeartbeats 4000000 in
theorem w_X2_goOn {G : GW} {E : EE} (hG : ab_ok G) (B : Bx G E RX2 cX2_goOn 2 3 (some .int)) (M : Mem) : AWo G E cX2_goOn 2 (ab_Q G E embI) 0 [(0, .ref 6), (1, .ref 1)] [] M (f_X2_goOn M) := by
  unfold f_X2_goOn
  refine aw_aload_n (k0 := 0) B 0 (by decide +kernel) rfl rfl ?_
  refine aw_geti (c := 6) B lkX2_24 (by decide +kernel) rfl ?_
  refine aw_aload_n (k0 := 0) B 0 (by decide +kernel) rfl rfl ?_
  refine aw_geti (c := 6) B lkX2_31 (by decide +kernel) rfl ?_
  refine aw_icmp_lt (off := 6) B 14 (by decide +kernel) (by decide) (fun _ => ?_) (fun _ => ?_)
  · refine aw_aload_n (k0 := 1) B 1 (by decide +kernel) rfl rfl ?_
    refine aw_aload_n (k0 := 0) B 0 (by decide +kernel) rfl rfl ?_
    refine aw_getr (c := 6) B lkX2_11 (by decide +kernel) rfl (r := 7) rfl ?_
    refine aw_aload_n (k0 := 0) B 0 (by decide +kernel) rfl rfl ?_
    refine aw_geti (c := 6) B lkX2_24 (by decide +kernel) rfl ?_
    refine aw_iaload B (by decide +kernel) ?_
    refine aw_aload_n (k0 := 0) B 0 (by decide +kernel) rfl rfl ?_
    refine aw_getr (c := 6) B lkX2_15 (by decide +kernel) rfl (r := 8) rfl ?_
    refine aw_aload_n (k0 := 0) B 0 (by decide +kernel) rfl rfl ?_
    refine aw_geti (c := 6) B lkX2_24 (by decide +kernel) rfl ?_
    refine aw_iaload B (by decide +kernel) ?_
    refine aw_aload_n (k0 := 0) B 0 (by decide +kernel) rfl rfl ?_
    refine aw_getr (c := 6) B lkX2_21 (by decide +kernel) rfl (r := 10) rfl ?_
    refine aw_aload_n (k0 := 0) B 0 (by decide +kernel) rfl rfl ?_
    refine aw_geti (c := 6) B lkX2_24 (by decide +kernel) rfl ?_
    refine aw_iaload B (by decide +kernel) ?_
    refine aw_cVV B (c_X4_become (eLa E) hG (M.1 7 (M.1 6 0).toNatClampNeg) (M.1 8 (M.1 6 0).toNatClampNeg) (M.1 10 (M.1 6 0).toNatClampNeg) M) cvX2_40 rfl rfl (Nat.le_of_ble_eq_true rfl) rfl (Nat.le_of_ble_eq_true rfl) (by decide +kernel) rfl (fun M2 => ?_)
    refine aw_aload_n (k0 := 0) B 0 (by decide +kernel) rfl rfl ?_
    refine aw_dup B (by decide +kernel) rfl ?_
    refine aw_geti (c := 6) B lkX2_24 (by decide +kernel) rfl ?_
    refine aw_iconst (n := 1) (v := (1 : Int32)) B (by decide +kernel) (by decide) ?_
    refine aw_iadd B (by decide +kernel) ?_
    refine aw_puti (c := 6) B lkX2_24 lp2_0 (by decide +kernel) rfl (fun M3 => ?_)
    refine aw_aload_n (k0 := 0) B 0 (by decide +kernel) rfl rfl ?_
    refine aw_geti (c := 6) B lkX2_31 (by decide +kernel) rfl ?_
    refine aw_aload_n (k0 := 0) B 0 (by decide +kernel) rfl rfl ?_
    refine aw_geti (c := 6) B lkX2_24 (by decide +kernel) rfl ?_
    refine aw_isub B (by decide +kernel) ?_
    exact aw_ireturn B (by decide +kernel) rfl
  · refine aw_bipush (n := -5) (v := (-5 : Int32)) B (by decide +kernel) (by decide) ?_
    exact aw_ireturn B (by decide +kernel) rfl
theorem c_X2_goOn (l : Launch) {G : GW} (hG : ab_ok G) (M : Mem) : AC l G yX2_goOn cX2_goOn 2 (some .int) 3 [.ref 6, .ref 1] M embI (f_X2_goOn M) := AC.of hG (by decide) (Nat.le_of_ble_eq_true rfl) (fun E hE B => by subst hE; exact w_X2_goOn hG B M)
def f_X10_redo (M : Mem) : Option (Int32 × Mem) := bI (f_X2_goOn M) fun x1 M2 => (some (x1, M2))
set_option maxRecDepth 100000 in
set_option maxHeartbeats 4000000 in
theorem w_X10_redo {G : GW} {E : EE} (hG : ab_ok G) (B : Bx G E RX10 cX10_redo 1 4 (some .int)) (M : Mem) : AWo G E cX10_redo 1 (ab_Q G E embI) 0 [(0, .ref 0)] [] M (f_X10_redo M) := by
  unfold f_X10_redo
  refine aw_aload_n (k0 := 0) B 0 (by decide +kernel) rfl rfl ?_
  refine aw_getr (c := 0) B lkX10_19 (by decide +kernel) rfl (r := 6) rfl ?_
  refine aw_aload_n (k0 := 0) B 0 (by decide +kernel) rfl rfl ?_
  refine aw_getr (c := 0) B lkX10_10 (by decide +kernel) rfl (r := 1) rfl ?_
  refine aw_cVI B (c_X2_goOn (eLa E) hG M) cvX10_326 rfl rfl (Nat.le_of_ble_eq_true rfl) rfl (Nat.le_of_ble_eq_true rfl) (by decide +kernel) rfl (fun x1 M2 => ?_)
  exact aw_ireturn B (by decide +kernel) rfl
theorem c_X10_redo (l : Launch) {G : GW} (hG : ab_ok G) (M : Mem) : AC l G yX10_redo cX10_redo 1 (some .int) 4 [.ref 0] M embI (f_X10_redo M) := AC.of hG (by decide) (Nat.le_of_ble_eq_true rfl) (fun E hE B => by subst hE; exact w_X10_redo hG B M)
def f_X11_redo (M : Mem) : Option (Int32 × Mem) := (if (M.1 47 5) = (M.1 47 4) then (some ((-5 : Int32), M)) else ck (okI 49 (M.1 47 5)) (ck (okI 51 (M.1 47 5)) (ck (okI 48 (M.1 49 (M.1 47 5).toNatClampNeg)) (lt (wI M 48 (M.1 49 (M.1 47 5).toNatClampNeg).toNatClampNeg (M.1 51 (M.1 47 5).toNatClampNeg)) fun M1 => lt (wI M1 47 5 ((M1.1 47 5) + (1 : Int32))) fun M2 => (some ((M2.1 47 4) - (M2.1 47 5), M2))))))
set_option maxRecDepth 100000 in
set_option maxHeartbeats 4000000 in
theorem w_X11_redo {G : GW} {E : EE} (hG : ab_ok G) (B : Bx G E RX11 cX11_redo 1 2 (some .int)) (M : Mem) : AWo G E cX11_redo 1 (ab_Q G E embI) 0 [(0, .ref 47)] [] M (f_X11_redo M) := by
  unfold f_X11_redo
  refine aw_aload_n (k0 := 0) B 0 (by decide +kernel) rfl rfl ?_
  refine aw_geti (c := 47) B lkX11_103 (by decide +kernel) rfl ?_
  refine aw_aload_n (k0 := 0) B 0 (by decide +kernel) rfl rfl ?_
  refine aw_geti (c := 47) B lkX11_106 (by decide +kernel) rfl ?_
  refine aw_icmp_ne (off := 6) B 14 (by decide +kernel) (by decide) (fun _ => ?_) (fun _ => ?_)
  · refine aw_aload_n (k0 := 0) B 0 (by decide +kernel) rfl rfl ?_
    refine aw_getr (c := 47) B lkX11_9 (by decide +kernel) rfl (r := 48) rfl ?_
    refine aw_aload_n (k0 := 0) B 0 (by decide +kernel) rfl rfl ?_
    refine aw_getr (c := 47) B lkX11_13 (by decide +kernel) rfl (r := 49) rfl ?_
    refine aw_aload_n (k0 := 0) B 0 (by decide +kernel) rfl rfl ?_
    refine aw_geti (c := 47) B lkX11_103 (by decide +kernel) rfl ?_
    refine aw_iaload B (by decide +kernel) ?_
    refine aw_aload_n (k0 := 0) B 0 (by decide +kernel) rfl rfl ?_
    refine aw_getr (c := 47) B lkX11_19 (by decide +kernel) rfl (r := 51) rfl ?_
    refine aw_aload_n (k0 := 0) B 0 (by decide +kernel) rfl rfl ?_
    refine aw_geti (c := 47) B lkX11_103 (by decide +kernel) rfl ?_
    refine aw_iaload B (by decide +kernel) ?_
    refine aw_iastore B (by decide +kernel) (fun M1 => ?_)
    refine aw_aload_n (k0 := 0) B 0 (by decide +kernel) rfl rfl ?_
    refine aw_dup B (by decide +kernel) rfl ?_
    refine aw_geti (c := 47) B lkX11_103 (by decide +kernel) rfl ?_
    refine aw_iconst (n := 1) (v := (1 : Int32)) B (by decide +kernel) (by decide) ?_
    refine aw_iadd B (by decide +kernel) ?_
    refine aw_puti (c := 47) B lkX11_103 lp11_5 (by decide +kernel) rfl (fun M2 => ?_)
    refine aw_aload_n (k0 := 0) B 0 (by decide +kernel) rfl rfl ?_
    refine aw_geti (c := 47) B lkX11_106 (by decide +kernel) rfl ?_
    refine aw_aload_n (k0 := 0) B 0 (by decide +kernel) rfl rfl ?_
    refine aw_geti (c := 47) B lkX11_103 (by decide +kernel) rfl ?_
    refine aw_isub B (by decide +kernel) ?_
    exact aw_ireturn B (by decide +kernel) rfl
  · refine aw_bipush (n := -5) (v := (-5 : Int32)) B (by decide +kernel) (by decide) ?_
    exact aw_ireturn B (by decide +kernel) rfl
theorem c_X11_redo (l : Launch) {G : GW} (hG : ab_ok G) (M : Mem) : AC l G yX11_redo cX11_redo 1 (some .int) 2 [.ref 47] M embI (f_X11_redo M) := AC.of hG (by decide) (Nat.le_of_ble_eq_true rfl) (fun E hE B => by subst hE; exact w_X11_redo hG B M)
def f_X1_isKind (v0 : Int32) : Option Int32 := (if v0 < 0 then (some (0 : Int32)) else (if (7 : Int32) < v0 then (some (0 : Int32)) else (some (1 : Int32))))
set_option maxRecDepth 100000 in
set_option maxHeartbeats 4000000 in
theorem w_X1_isKind {G : GW} {E : EE} (hG : ab_ok G) (B : Bx G E RX1 cX1_isKind 1 2 (some .boolean)) (v0 : Int32) (M : Mem) : AWo G E cX1_isKind 1 (ab_Q G E (embRI M)) 0 [(0, .int v0)] [] M (f_X1_isKind v0) := by
  unfold f_X1_isKind
  refine aw_iload_n (k0 := 0) B 0 (by decide +kernel) rfl rfl ?_
  refine aw_if_lt (off := 13) B 14 (by decide +kernel) (by decide) (fun _ => ?_) (fun _ => ?_)
  · refine aw_iconst (n := 0) (v := (0 : Int32)) B (by decide +kernel) (by decide) ?_
    exact aw_zreturnK B (by decide +kernel) rfl (by decide)
  · refine aw_iload_n (k0 := 0) B 0 (by decide +kernel) rfl rfl ?_
    refine aw_bipush (n := 7) (v := (7 : Int32)) B (by decide +kernel) (by decide) ?_
    refine aw_icmp_gt (off := 7) B 14 (by decide +kernel) (by decide) (fun _ => ?_) (fun _ => ?_)
    · refine aw_iconst (n := 0) (v := (0 : Int32)) B (by decide +kernel) (by decide) ?_
      exact aw_zreturnK B (by decide +kernel) rfl (by decide)
    · refine aw_iconst (n := 1) (v := (1 : Int32)) B (by decide +kernel) (by decide) ?_
      refine aw_goto (off := 4) B 15 (by decide +kernel) (by decide) ?_
      exact aw_zreturnK B (by decide +kernel) rfl (by decide)
theorem c_X1_isKind (l : Launch) {G : GW} (hG : ab_ok G) (v0 : Int32) (M : Mem) : AC l G yX1_isKind cX1_isKind 1 (some .boolean) 2 [.int v0] M (embRI M) (f_X1_isKind v0) := AC.of hG (by decide) (Nat.le_of_ble_eq_true rfl) (fun E hE B => by subst hE; exact w_X1_isKind hG B v0 M)
def f_X1_add (v1 : Int32) (M : Mem) : Option (Int32 × Mem) := (if (M.1 40 0) < (50 : Int32) then ck (okI 42 (M.1 40 0)) (lt (wI M 42 (M.1 40 0).toNatClampNeg v1) fun M1 => lt (wI M1 40 0 ((M1.1 40 0) + (1 : Int32))) fun M2 => (some (M1.1 40 0, M2))) else (some ((-3 : Int32), M)))
set_option maxRecDepth 100000 in
set_option maxHeartbeats 4000000 in
theorem w_X1_add {G : GW} {E : EE} (hG : ab_ok G) (B : Bx G E RX1 cX1_add 2 2 (some .int)) (v1 : Int32) (M : Mem) : AWo G E cX1_add 2 (ab_Q G E embI) 0 [(0, .ref 40), (1, .int v1)] [] M (f_X1_add v1 M) := by
  unfold f_X1_add
  refine aw_aload_n (k0 := 0) B 0 (by decide +kernel) rfl rfl ?_
  refine aw_geti (c := 40) B lkX1_25 (by decide +kernel) rfl ?_
  refine aw_bipush (n := 50) (v := (50 : Int32)) B (by decide +kernel) (by decide) ?_
  refine aw_icmp_lt (off := 6) B 12 (by decide +kernel) (by decide) (fun _ => ?_) (fun _ => ?_)
  · refine aw_aload_n (k0 := 0) B 0 (by decide +kernel) rfl rfl ?_
    refine aw_getr (c := 40) B lkX1_15 (by decide +kernel) rfl (r := 42) rfl ?_
    refine aw_aload_n (k0 := 0) B 0 (by decide +kernel) rfl rfl ?_
    refine aw_geti (c := 40) B lkX1_25 (by decide +kernel) rfl ?_
    refine aw_iload_n (k0 := 1) B 1 (by decide +kernel) rfl rfl ?_
    refine aw_iastore B (by decide +kernel) (fun M1 => ?_)
    refine aw_aload_n (k0 := 0) B 0 (by decide +kernel) rfl rfl ?_
    refine aw_dup B (by decide +kernel) rfl ?_
    refine aw_geti (c := 40) B lkX1_25 (by decide +kernel) rfl ?_
    refine aw_dup_x1 B (by decide +kernel) rfl rfl ?_
    refine aw_iconst (n := 1) (v := (1 : Int32)) B (by decide +kernel) (by decide) ?_
    refine aw_iadd B (by decide +kernel) ?_
    refine aw_puti (c := 40) B lkX1_25 lp1_0 (by decide +kernel) rfl (fun M2 => ?_)
    exact aw_ireturn B (by decide +kernel) rfl
  · refine aw_bipush (n := -3) (v := (-3 : Int32)) B (by decide +kernel) (by decide) ?_
    exact aw_ireturn B (by decide +kernel) rfl
theorem c_X1_add (l : Launch) {G : GW} (hG : ab_ok G) (v1 : Int32) (M : Mem) : AC l G yX1_add cX1_add 2 (some .int) 2 [.ref 40, .int v1] M embI (f_X1_add v1 M) := AC.of hG (by decide) (Nat.le_of_ble_eq_true rfl) (fun E hE B => by subst hE; exact w_X1_add hG B v1 M)
def f_X10_body (v1 : Int32) (M : Mem) : Option (Int32 × Mem) := (f_X1_isKind v1).bind fun x1 => (if x1 = 0 then (some ((-1 : Int32), M)) else bI (f_X1_add v1 M) fun x3 M4 => (some (x3, M4)))
set_option maxRecDepth 100000 in
set_option maxHeartbeats 4000000 in
theorem w_X10_body {G : GW} {E : EE} (hG : ab_ok G) (B : Bx G E RX10 cX10_body 2 3 (some .int)) (v1 : Int32) (M : Mem) : AWo G E cX10_body 2 (ab_Q G E embI) 0 [(0, .ref 0), (1, .int v1)] [] M (f_X10_body v1 M) := by
  unfold f_X10_body
  refine aw_iload_n (k0 := 1) B 1 (by decide +kernel) rfl rfl ?_
  refine aw_cSR B (c_X1_isKind (eLa E) hG v1 M) csX10_329 (Nat.le_of_ble_eq_true rfl) rfl (Nat.le_of_ble_eq_true rfl) (by decide +kernel) rfl (fun x1 => ?_)
  refine aw_if_ne (off := 5) B 9 (by decide +kernel) (by decide) (fun _ => ?_) (fun _ => ?_)
  · refine aw_aload_n (k0 := 0) B 0 (by decide +kernel) rfl rfl ?_
    refine aw_getr (c := 0) B lkX10_68 (by decide +kernel) rfl (r := 40) rfl ?_
    refine aw_iload_n (k0 := 1) B 1 (by decide +kernel) rfl rfl ?_
    refine aw_cVI B (c_X1_add (eLa E) hG v1 M) cvX10_332 rfl rfl (Nat.le_of_ble_eq_true rfl) rfl (Nat.le_of_ble_eq_true rfl) (by decide +kernel) rfl (fun x3 M4 => ?_)
    exact aw_ireturn B (by decide +kernel) rfl
  · refine aw_iconst (n := -1) (v := (-1 : Int32)) B (by decide +kernel) (by decide) ?_
    exact aw_ireturn B (by decide +kernel) rfl
theorem c_X10_body (l : Launch) {G : GW} (hG : ab_ok G) (v1 : Int32) (M : Mem) : AC l G yX10_body cX10_body 2 (some .int) 3 [.ref 0, .int v1] M embI (f_X10_body v1 M) := AC.of hG (by decide) (Nat.le_of_ble_eq_true rfl) (fun E hE B => by subst hE; exact w_X10_body hG B v1 M)
def f_X11_body (v1 : Int32) (M : Mem) : Option (Int32 × Mem) := (f_X11_within v1.toInt64 (0 : Int64) (7 : Int64)).bind fun x1 => (if x1 = 0 then (some ((-1 : Int32), M)) else (if (M.1 47 40) = (50 : Int32) then (some ((-3 : Int32), M)) else ck (okI 71 (M.1 47 40)) (lt (wI M 71 (M.1 47 40).toNatClampNeg v1) fun M3 => lt (wI M3 47 40 ((M3.1 47 40) + (1 : Int32))) fun M4 => (some ((M4.1 47 40) - (1 : Int32), M4)))))
set_option maxRecDepth 100000 in
set_option maxHeartbeats 4000000 in
theorem w_X11_body {G : GW} {E : EE} (hG : ab_ok G) (B : Bx G E RX11 cX11_body 2 3 (some .int)) (v1 : Int32) (M : Mem) : AWo G E cX11_body 2 (ab_Q G E embI) 0 [(0, .ref 47), (1, .int v1)] [] M (f_X11_body v1 M) := by
  unfold f_X11_body
  refine aw_iload_n (k0 := 1) B 1 (by decide +kernel) rfl rfl ?_
  refine aw_i2l B (by decide +kernel) ?_
  refine aw_lconst (n := 0) (v := (0 : Int64)) B (by decide +kernel) (by decide) ?_
  refine aw_ldc2 B (by decide +kernel) lwX11_343 ?_
  refine aw_cSR B (c_X11_within (eLa E) hG v1.toInt64 (0 : Int64) (7 : Int64) M) csX11_112 (Nat.le_of_ble_eq_true rfl) rfl (Nat.le_of_ble_eq_true rfl) (by decide +kernel) rfl (fun x1 => ?_)
  refine aw_if_ne (off := 5) B 14 (by decide +kernel) (by decide) (fun _ => ?_) (fun _ => ?_)
  · refine aw_aload_n (k0 := 0) B 0 (by decide +kernel) rfl rfl ?_
    refine aw_geti (c := 47) B lkX11_340 (by decide +kernel) rfl ?_
    refine aw_bipush (n := 50) (v := (50 : Int32)) B (by decide +kernel) (by decide) ?_
    refine aw_icmp_ne (off := 6) B 26 (by decide +kernel) (by decide) (fun _ => ?_) (fun _ => ?_)
    · refine aw_aload_n (k0 := 0) B 0 (by decide +kernel) rfl rfl ?_
      refine aw_getr (c := 47) B lkX11_81 (by decide +kernel) rfl (r := 71) rfl ?_
      refine aw_aload_n (k0 := 0) B 0 (by decide +kernel) rfl rfl ?_
      refine aw_geti (c := 47) B lkX11_340 (by decide +kernel) rfl ?_
      refine aw_iload_n (k0 := 1) B 1 (by decide +kernel) rfl rfl ?_
      refine aw_iastore B (by decide +kernel) (fun M3 => ?_)
      refine aw_aload_n (k0 := 0) B 0 (by decide +kernel) rfl rfl ?_
      refine aw_dup B (by decide +kernel) rfl ?_
      refine aw_geti (c := 47) B lkX11_340 (by decide +kernel) rfl ?_
      refine aw_iconst (n := 1) (v := (1 : Int32)) B (by decide +kernel) (by decide) ?_
      refine aw_iadd B (by decide +kernel) ?_
      refine aw_puti (c := 47) B lkX11_340 lp11_40 (by decide +kernel) rfl (fun M4 => ?_)
      refine aw_aload_n (k0 := 0) B 0 (by decide +kernel) rfl rfl ?_
      refine aw_geti (c := 47) B lkX11_340 (by decide +kernel) rfl ?_
      refine aw_iconst (n := 1) (v := (1 : Int32)) B (by decide +kernel) (by decide) ?_
      refine aw_isub B (by decide +kernel) ?_
      exact aw_ireturn B (by decide +kernel) rfl
    · refine aw_bipush (n := -3) (v := (-3 : Int32)) B (by decide +kernel) (by decide) ?_
      exact aw_ireturn B (by decide +kernel) rfl
  · refine aw_iconst (n := -1) (v := (-1 : Int32)) B (by decide +kernel) (by decide) ?_
    exact aw_ireturn B (by decide +kernel) rfl
theorem c_X11_body (l : Launch) {G : GW} (hG : ab_ok G) (v1 : Int32) (M : Mem) : AC l G yX11_body cX11_body 2 (some .int) 3 [.ref 47, .int v1] M embI (f_X11_body v1 M) := AC.of hG (by decide) (Nat.le_of_ble_eq_true rfl) (fun E hE B => by subst hE; exact w_X11_body hG B v1 M)
def f_X1_has (v1 : Int32) (M : Mem) : Option Int32 := (if v1 < 0 then (some (0 : Int32)) else (if (M.1 40 0) ≤ v1 then (some (0 : Int32)) else (some (1 : Int32))))
set_option maxRecDepth 100000 in
set_option maxHeartbeats 4000000 in
theorem w_X1_has {G : GW} {E : EE} (hG : ab_ok G) (B : Bx G E RX1 cX1_has 2 2 (some .boolean)) (v1 : Int32) (M : Mem) : AWo G E cX1_has 2 (ab_Q G E (embRI M)) 0 [(0, .ref 40), (1, .int v1)] [] M (f_X1_has v1 M) := by
  unfold f_X1_has
  refine aw_iload_n (k0 := 1) B 1 (by decide +kernel) rfl rfl ?_
  refine aw_if_lt (off := 15) B 16 (by decide +kernel) (by decide) (fun _ => ?_) (fun _ => ?_)
  · refine aw_iconst (n := 0) (v := (0 : Int32)) B (by decide +kernel) (by decide) ?_
    exact aw_zreturnK B (by decide +kernel) rfl (by decide)
  · refine aw_iload_n (k0 := 1) B 1 (by decide +kernel) rfl rfl ?_
    refine aw_aload_n (k0 := 0) B 0 (by decide +kernel) rfl rfl ?_
    refine aw_geti (c := 40) B lkX1_25 (by decide +kernel) rfl ?_
    refine aw_icmp_ge (off := 7) B 16 (by decide +kernel) (by decide) (fun _ => ?_) (fun _ => ?_)
    · refine aw_iconst (n := 0) (v := (0 : Int32)) B (by decide +kernel) (by decide) ?_
      exact aw_zreturnK B (by decide +kernel) rfl (by decide)
    · refine aw_iconst (n := 1) (v := (1 : Int32)) B (by decide +kernel) (by decide) ?_
      refine aw_goto (off := 4) B 17 (by decide +kernel) (by decide) ?_
      exact aw_zreturnK B (by decide +kernel) rfl (by decide)
theorem c_X1_has (l : Launch) {G : GW} (hG : ab_ok G) (v1 : Int32) (M : Mem) : AC l G yX1_has cX1_has 2 (some .boolean) 2 [.ref 40, .int v1] M (embRI M) (f_X1_has v1 M) := AC.of hG (by decide) (Nat.le_of_ble_eq_true rfl) (fun E hE B => by subst hE; exact w_X1_has hG B v1 M)
def f_X1_begin_b19 (M : Mem) : Option Mem := lt (wI M 40 1 ((M.1 40 1) + (1 : Int32))) fun M1 => (some M1)
set_option maxRecDepth 100000 in
set_option maxHeartbeats 4000000 in
theorem w_X1_begin_b19 {G : GW} {E : EE} (hG : ab_ok G) (B : Bx G E RX1 cX1_begin 2 2 none) (M : Mem) : AWo G E cX1_begin 2 (ab_Q G E embV) 19 [(0, .ref 40)] [] M (f_X1_begin_b19 M) := by
  unfold f_X1_begin_b19
  refine aw_aload_n (k0 := 0) B 0 (by decide +kernel) rfl rfl ?_
  refine aw_dup B (by decide +kernel) rfl ?_
  refine aw_geti (c := 40) B lkX1_32 (by decide +kernel) rfl ?_
  refine aw_iconst (n := 1) (v := (1 : Int32)) B (by decide +kernel) (by decide) ?_
  refine aw_iadd B (by decide +kernel) ?_
  refine aw_puti (c := 40) B lkX1_32 lp1_1 (by decide +kernel) rfl (fun M1 => ?_)
  exact aw_vreturn B (by decide +kernel) rfl
def f_X1_begin (v1 : Int32) (M : Mem) : Option Mem := (if (24 : Int32) ≤ (M.1 40 1) then f_X1_begin_b19 M else ck (okI 41 (M.1 40 1)) (lt (wI M 41 (M.1 40 1).toNatClampNeg v1) fun M1 => f_X1_begin_b19 M1))
set_option maxRecDepth 100000 in
set_option maxHeartbeats 4000000 in
theorem w_X1_begin {G : GW} {E : EE} (hG : ab_ok G) (B : Bx G E RX1 cX1_begin 2 2 none) (v1 : Int32) (M : Mem) : AWo G E cX1_begin 2 (ab_Q G E embV) 0 [(0, .ref 40), (1, .int v1)] [] M (f_X1_begin v1 M) := by
  unfold f_X1_begin
  refine aw_aload_n (k0 := 0) B 0 (by decide +kernel) rfl rfl ?_
  refine aw_geti (c := 40) B lkX1_32 (by decide +kernel) rfl ?_
  refine aw_bipush (n := 24) (v := (24 : Int32)) B (by decide +kernel) (by decide) ?_
  refine aw_icmp_ge (off := 13) B 19 (by decide +kernel) (by decide) (fun _ => ?_) (fun _ => ?_)
  · exact aw_sub [0] rfl (w_X1_begin_b19 hG B _)
  · refine aw_aload_n (k0 := 0) B 0 (by decide +kernel) rfl rfl ?_
    refine aw_getr (c := 40) B lkX1_11 (by decide +kernel) rfl (r := 41) rfl ?_
    refine aw_aload_n (k0 := 0) B 0 (by decide +kernel) rfl rfl ?_
    refine aw_geti (c := 40) B lkX1_32 (by decide +kernel) rfl ?_
    refine aw_iload_n (k0 := 1) B 1 (by decide +kernel) rfl rfl ?_
    refine aw_iastore B (by decide +kernel) (fun M1 => ?_)
    exact aw_sub [0] rfl (w_X1_begin_b19 hG B _)
theorem c_X1_begin (l : Launch) {G : GW} (hG : ab_ok G) (v1 : Int32) (M : Mem) : AC l G yX1_begin cX1_begin 2 none 2 [.ref 40, .int v1] M embV (f_X1_begin v1 M) := AC.of hG (by decide) (Nat.le_of_ble_eq_true rfl) (fun E hE B => by subst hE; exact w_X1_begin hG B v1 M)
def f_X1_own (rc : Int32 → Int32 → Int32 → Int32 → Mem → Option (Int32 × Mem)) (v1 : Int32) (v2 : Int32) (v3 : Int32) (M : Mem) : Option (Int32 × Mem) := ck (okI 42 (M.1 40 4)) (bI (rc (M.1 42 (M.1 40 4).toNatClampNeg) v1 v2 v3 M) fun x1 M2 => (some (x1, M2)))
set_option maxRecDepth 100000 in
set_option maxHeartbeats 4000000 in
theorem w_X1_own {G : GW} {E : EE} (hG : ab_ok G) {rc : Int32 → Int32 → Int32 → Int32 → Mem → Option (Int32 × Mem)} (lv0 : Nat) (hl0 : 3 ≤ lv0) (hrc : ∀ (v1 : Int32) (v2 : Int32) (v3 : Int32) (v4 : Int32) (M : Mem), AC (eLa E) G yX1_from cX1_from 8 (some .int) lv0 [.ref 40, .int v1, .int v2, .int v3, .int v4] M embI (rc v1 v2 v3 v4 M)) (B : Bx G E RX1 cX1_own 4 (lv0 + 1) (some .int)) (v1 : Int32) (v2 : Int32) (v3 : Int32) (M : Mem) : AWo G E cX1_own 4 (ab_Q G E embI) 0 [(0, .ref 40), (1, .int v1), (2, .int v2), (3, .int v3)] [] M (f_X1_own rc v1 v2 v3 M) := by
  unfold f_X1_own
  refine aw_aload_n (k0 := 0) B 0 (by decide +kernel) rfl rfl ?_
  refine aw_aload_n (k0 := 0) B 0 (by decide +kernel) rfl rfl ?_
  refine aw_getr (c := 40) B lkX1_15 (by decide +kernel) rfl (r := 42) rfl ?_
  refine aw_aload_n (k0 := 0) B 0 (by decide +kernel) rfl rfl ?_
  refine aw_geti (c := 40) B lkX1_41 (by decide +kernel) rfl ?_
  refine aw_iaload B (by decide +kernel) ?_
  refine aw_iload_n (k0 := 1) B 1 (by decide +kernel) rfl rfl ?_
  refine aw_iload_n (k0 := 2) B 2 (by decide +kernel) rfl rfl ?_
  refine aw_iload_n (k0 := 3) B 3 (by decide +kernel) rfl rfl ?_
  refine aw_cVI B (hrc (M.1 42 (M.1 40 4).toNatClampNeg) v1 v2 v3 M) cvX1_44 rfl rfl (by have hF : FD = 40 := rfl; omega) rfl (Nat.le_of_ble_eq_true rfl) (by decide +kernel) rfl (fun x1 M2 => ?_)
  exact aw_ireturn B (by decide +kernel) rfl
theorem oc_X1_own (l : Launch) {G : GW} (hG : ab_ok G) {rc : Int32 → Int32 → Int32 → Int32 → Mem → Option (Int32 × Mem)} (lv0 : Nat) (hl0 : 3 ≤ lv0) (hrc : ∀ (v1 : Int32) (v2 : Int32) (v3 : Int32) (v4 : Int32) (M : Mem), AC l G yX1_from cX1_from 8 (some .int) lv0 [.ref 40, .int v1, .int v2, .int v3, .int v4] M embI (rc v1 v2 v3 v4 M)) (v1 : Int32) (v2 : Int32) (v3 : Int32) (M : Mem) : AC l G yX1_own cX1_own 4 (some .int) (lv0 + 1) [.ref 40, .int v1, .int v2, .int v3] M embI (f_X1_own rc v1 v2 v3 M) := AC.of hG (by decide) (Nat.le_of_ble_eq_true rfl) (fun E hE B => by subst hE; exact w_X1_own hG lv0 hl0 hrc B v1 v2 v3 M)
def f_X1_above (rc : Int32 → Int32 → Int32 → Int32 → Mem → Option (Int32 × Mem)) (v1 : Int32) (v2 : Int32) (v3 : Int32) (v4 : Int32) (M : Mem) : Option (Int32 × Mem) := ck (okS 0 v1) (bI (rc ((ab_st 0).getD v1.toNatClampNeg 0) v2 v3 v4 M) fun x1 M2 => (some (x1, M2)))
set_option maxRecDepth 100000 in
set_option maxHeartbeats 4000000 in
theorem w_X1_above {G : GW} {E : EE} (hG : ab_ok G) {rc : Int32 → Int32 → Int32 → Int32 → Mem → Option (Int32 × Mem)} (lv0 : Nat) (hl0 : 3 ≤ lv0) (hrc : ∀ (v1 : Int32) (v2 : Int32) (v3 : Int32) (v4 : Int32) (M : Mem), AC (eLa E) G yX1_from cX1_from 8 (some .int) lv0 [.ref 40, .int v1, .int v2, .int v3, .int v4] M embI (rc v1 v2 v3 v4 M)) (B : Bx G E RX1 cX1_above 5 (lv0 + 1) (some .int)) (v1 : Int32) (v2 : Int32) (v3 : Int32) (v4 : Int32) (M : Mem) : AWo G E cX1_above 5 (ab_Q G E embI) 0 [(0, .ref 40), (1, .int v1), (2, .int v2), (3, .int v3), (4, .int v4)] [] M (f_X1_above rc v1 v2 v3 v4 M) := by
  unfold f_X1_above
  refine aw_aload_n (k0 := 0) B 0 (by decide +kernel) rfl rfl ?_
  refine aw_gets0 B lxX1_22 (by decide +kernel) ?_
  refine aw_iload_n (k0 := 1) B 1 (by decide +kernel) rfl rfl ?_
  refine aw_sld0 B (by decide +kernel) ?_
  refine aw_iload_n (k0 := 2) B 2 (by decide +kernel) rfl rfl ?_
  refine aw_iload_n (k0 := 3) B 3 (by decide +kernel) rfl rfl ?_
  refine aw_iload (i := 4) B 4 (by decide +kernel) rfl ?_
  refine aw_cVI B (hrc ((ab_st 0).getD v1.toNatClampNeg 0) v2 v3 v4 M) cvX1_44 rfl rfl (by have hF : FD = 40 := rfl; omega) rfl (Nat.le_of_ble_eq_true rfl) (by decide +kernel) rfl (fun x1 M2 => ?_)
  exact aw_ireturn B (by decide +kernel) rfl
theorem oc_X1_above (l : Launch) {G : GW} (hG : ab_ok G) {rc : Int32 → Int32 → Int32 → Int32 → Mem → Option (Int32 × Mem)} (lv0 : Nat) (hl0 : 3 ≤ lv0) (hrc : ∀ (v1 : Int32) (v2 : Int32) (v3 : Int32) (v4 : Int32) (M : Mem), AC l G yX1_from cX1_from 8 (some .int) lv0 [.ref 40, .int v1, .int v2, .int v3, .int v4] M embI (rc v1 v2 v3 v4 M)) (v1 : Int32) (v2 : Int32) (v3 : Int32) (v4 : Int32) (M : Mem) : AC l G yX1_above cX1_above 5 (some .int) (lv0 + 1) [.ref 40, .int v1, .int v2, .int v3, .int v4] M embI (f_X1_above rc v1 v2 v3 v4 M) := AC.of hG (by decide) (Nat.le_of_ble_eq_true rfl) (fun E hE B => by subst hE; exact w_X1_above hG lv0 hl0 hrc B v1 v2 v3 v4 M)
def f_X1_run (rc : Int32 → Int32 → Int32 → Int32 → Mem → Option (Int32 × Mem)) (v1 : Int32) (v2 : Int32) (v3 : Int32) (M : Mem) : Option (Int32 × Mem) := (if v1 = (1 : Int32) then (some (v2 + (M.1 40 4), M)) else if v1 = (2 : Int32) then bI (f_X1_own rc (1 : Int32) v2 v3 M) fun x1 M2 => bI (f_X1_own rc (2 : Int32) (1 : Int32) v3 M2) fun x3 M4 => (some (x1 - x3, M4)) else if v1 = (10 : Int32) then bI (f_X1_own rc (0 : Int32) v2 v3 M) fun x5 M6 => (some (x5 * (2 : Int32), M6)) else if v1 = (11 : Int32) then (some (v2 ^^^ (M.1 40 4), M)) else if v1 = (20 : Int32) then bI (f_X1_above rc (1 : Int32) (0 : Int32) v2 v3 M) fun x7 M8 => (some (x7 + (3 : Int32), M8)) else if v1 = (30 : Int32) then bI (f_X1_above rc (2 : Int32) (1 : Int32) v2 v3 M) fun x9 M10 => (some (-x9, M10)) else if v1 = (40 : Int32) then bI (f_X1_above rc (3 : Int32) (2 : Int32) v2 v3 M) fun x11 M12 => (some (x11 * (3 : Int32), M12)) else if v1 = (41 : Int32) then bI (f_X1_above rc (3 : Int32) (1 : Int32) (v2 + (1 : Int32)) v3 M) fun x13 M14 => (some (x13, M14)) else if v1 = (50 : Int32) then bI (f_X1_above rc (4 : Int32) (2 : Int32) v2 v3 M) fun x15 M16 => bI (f_X1_own rc (0 : Int32) (2 : Int32) v3 M16) fun x17 M18 => (some (x15 - x17, M18)) else if v1 = (60 : Int32) then bI (f_X1_above rc (5 : Int32) (3 : Int32) v2 v3 M) fun x19 M20 => (some (x19 ^^^ (5 : Int32), M20)) else if v1 = (70 : Int32) then bI (f_X1_above rc (6 : Int32) (0 : Int32) v2 v3 M) fun x21 M22 => (some (x21 * (2 : Int32), M22)) else if v1 = (80 : Int32) then bI (f_X1_above rc (7 : Int32) (1 : Int32) v2 v3 M) fun x23 M24 => bI (f_X1_own rc (2 : Int32) (2 : Int32) v3 M24) fun x25 M26 => (some (x23 + x25, M26)) else if v1 = (81 : Int32) then bI (f_X1_above rc (7 : Int32) (3 : Int32) v2 v3 M) fun x27 M28 => (some (x27 - (1 : Int32), M28)) else (some ((0 : Int32), M)))
set_option maxRecDepth 100000 in
set_option maxHeartbeats 4000000 in
theorem w_X1_run {G : GW} {E : EE} (hG : ab_ok G) {rc : Int32 → Int32 → Int32 → Int32 → Mem → Option (Int32 × Mem)} (lv0 : Nat) (hl0 : 3 ≤ lv0) (hrc : ∀ (v1 : Int32) (v2 : Int32) (v3 : Int32) (v4 : Int32) (M : Mem), AC (eLa E) G yX1_from cX1_from 8 (some .int) lv0 [.ref 40, .int v1, .int v2, .int v3, .int v4] M embI (rc v1 v2 v3 v4 M)) (B : Bx G E RX1 cX1_run 4 (lv0 + 2) (some .int)) (v1 : Int32) (v2 : Int32) (v3 : Int32) (M : Mem) : AWo G E cX1_run 4 (ab_Q G E embI) 0 [(0, .ref 40), (1, .int v1), (2, .int v2), (3, .int v3)] [] M (f_X1_run rc v1 v2 v3 M) := by
  unfold f_X1_run
  refine aw_iload_n (k0 := 1) B 1 (by decide +kernel) rfl rfl ?_
  refine aw_ite (fun h1_0 => ?_) (fun h1_0 => ?_)
  · refine aw_lkpK (k0 := (1 : Int32)) (dflt := 268) (ps := #[(1, 115), (2, 122), (10, 138), (11, 148), (20, 155), (30, 166), (40, 176), (41, 187), (50, 198), (60, 215), (70, 226), (80, 238), (81, 256)]) (len := 115) (off := 115) B 116 (by decide +kernel) (by decide +kernel) h1_0 (by decide +kernel) (by decide) ?_
    refine aw_iload_n (k0 := 2) B 2 (by decide +kernel) rfl rfl ?_
    refine aw_aload_n (k0 := 0) B 0 (by decide +kernel) rfl rfl ?_
    refine aw_geti (c := 40) B lkX1_41 (by decide +kernel) rfl ?_
    refine aw_iadd B (by decide +kernel) ?_
    exact aw_ireturn B (by decide +kernel) rfl
  refine aw_ite (fun h1_1 => ?_) (fun h1_1 => ?_)
  · refine aw_lkpK (k0 := (2 : Int32)) (dflt := 268) (ps := #[(1, 115), (2, 122), (10, 138), (11, 148), (20, 155), (30, 166), (40, 176), (41, 187), (50, 198), (60, 215), (70, 226), (80, 238), (81, 256)]) (len := 115) (off := 122) B 123 (by decide +kernel) (by decide +kernel) h1_1 (by decide +kernel) (by decide) ?_
    refine aw_aload_n (k0 := 0) B 0 (by decide +kernel) rfl rfl ?_
    refine aw_iconst (n := 1) (v := (1 : Int32)) B (by decide +kernel) (by decide) ?_
    refine aw_iload_n (k0 := 2) B 2 (by decide +kernel) rfl rfl ?_
    refine aw_iload_n (k0 := 3) B 3 (by decide +kernel) rfl rfl ?_
    refine aw_cVI B (oc_X1_own (eLa E) hG lv0 hl0 hrc (1 : Int32) v2 v3 M) cvX1_59 rfl rfl (by have hF : FD = 40 := rfl; omega) rfl (Nat.le_of_ble_eq_true rfl) (by decide +kernel) rfl (fun x1 M2 => ?_)
    refine aw_aload_n (k0 := 0) B 0 (by decide +kernel) rfl rfl ?_
    refine aw_iconst (n := 2) (v := (2 : Int32)) B (by decide +kernel) (by decide) ?_
    refine aw_iconst (n := 1) (v := (1 : Int32)) B (by decide +kernel) (by decide) ?_
    refine aw_iload_n (k0 := 3) B 3 (by decide +kernel) rfl rfl ?_
    refine aw_cVI B (oc_X1_own (eLa E) hG lv0 hl0 hrc (2 : Int32) (1 : Int32) v3 M2) cvX1_59 rfl rfl (by have hF : FD = 40 := rfl; omega) rfl (Nat.le_of_ble_eq_true rfl) (by decide +kernel) rfl (fun x3 M4 => ?_)
    refine aw_isub B (by decide +kernel) ?_
    exact aw_ireturn B (by decide +kernel) rfl
  refine aw_ite (fun h1_2 => ?_) (fun h1_2 => ?_)
  · refine aw_lkpK (k0 := (10 : Int32)) (dflt := 268) (ps := #[(1, 115), (2, 122), (10, 138), (11, 148), (20, 155), (30, 166), (40, 176), (41, 187), (50, 198), (60, 215), (70, 226), (80, 238), (81, 256)]) (len := 115) (off := 138) B 139 (by decide +kernel) (by decide +kernel) h1_2 (by decide +kernel) (by decide) ?_
    refine aw_aload_n (k0 := 0) B 0 (by decide +kernel) rfl rfl ?_
    refine aw_iconst (n := 0) (v := (0 : Int32)) B (by decide +kernel) (by decide) ?_
    refine aw_iload_n (k0 := 2) B 2 (by decide +kernel) rfl rfl ?_
    refine aw_iload_n (k0 := 3) B 3 (by decide +kernel) rfl rfl ?_
    refine aw_cVI B (oc_X1_own (eLa E) hG lv0 hl0 hrc (0 : Int32) v2 v3 M) cvX1_59 rfl rfl (by have hF : FD = 40 := rfl; omega) rfl (Nat.le_of_ble_eq_true rfl) (by decide +kernel) rfl (fun x5 M6 => ?_)
    refine aw_iconst (n := 2) (v := (2 : Int32)) B (by decide +kernel) (by decide) ?_
    refine aw_imul B (by decide +kernel) ?_
    exact aw_ireturn B (by decide +kernel) rfl
  refine aw_ite (fun h1_3 => ?_) (fun h1_3 => ?_)
  · refine aw_lkpK (k0 := (11 : Int32)) (dflt := 268) (ps := #[(1, 115), (2, 122), (10, 138), (11, 148), (20, 155), (30, 166), (40, 176), (41, 187), (50, 198), (60, 215), (70, 226), (80, 238), (81, 256)]) (len := 115) (off := 148) B 149 (by decide +kernel) (by decide +kernel) h1_3 (by decide +kernel) (by decide) ?_
    refine aw_iload_n (k0 := 2) B 2 (by decide +kernel) rfl rfl ?_
    refine aw_aload_n (k0 := 0) B 0 (by decide +kernel) rfl rfl ?_
    refine aw_geti (c := 40) B lkX1_41 (by decide +kernel) rfl ?_
    refine aw_ixor B (by decide +kernel) ?_
    exact aw_ireturn B (by decide +kernel) rfl
  refine aw_ite (fun h1_4 => ?_) (fun h1_4 => ?_)
  · refine aw_lkpK (k0 := (20 : Int32)) (dflt := 268) (ps := #[(1, 115), (2, 122), (10, 138), (11, 148), (20, 155), (30, 166), (40, 176), (41, 187), (50, 198), (60, 215), (70, 226), (80, 238), (81, 256)]) (len := 115) (off := 155) B 156 (by decide +kernel) (by decide +kernel) h1_4 (by decide +kernel) (by decide) ?_
    refine aw_aload_n (k0 := 0) B 0 (by decide +kernel) rfl rfl ?_
    refine aw_iconst (n := 1) (v := (1 : Int32)) B (by decide +kernel) (by decide) ?_
    refine aw_iconst (n := 0) (v := (0 : Int32)) B (by decide +kernel) (by decide) ?_
    refine aw_iload_n (k0 := 2) B 2 (by decide +kernel) rfl rfl ?_
    refine aw_iload_n (k0 := 3) B 3 (by decide +kernel) rfl rfl ?_
    refine aw_cVI B (oc_X1_above (eLa E) hG lv0 hl0 hrc (1 : Int32) (0 : Int32) v2 v3 M) cvX1_62 rfl rfl (by have hF : FD = 40 := rfl; omega) rfl (Nat.le_of_ble_eq_true rfl) (by decide +kernel) rfl (fun x7 M8 => ?_)
    refine aw_iconst (n := 3) (v := (3 : Int32)) B (by decide +kernel) (by decide) ?_
    refine aw_iadd B (by decide +kernel) ?_
    exact aw_ireturn B (by decide +kernel) rfl
  refine aw_ite (fun h1_5 => ?_) (fun h1_5 => ?_)
  · refine aw_lkpK (k0 := (30 : Int32)) (dflt := 268) (ps := #[(1, 115), (2, 122), (10, 138), (11, 148), (20, 155), (30, 166), (40, 176), (41, 187), (50, 198), (60, 215), (70, 226), (80, 238), (81, 256)]) (len := 115) (off := 166) B 167 (by decide +kernel) (by decide +kernel) h1_5 (by decide +kernel) (by decide) ?_
    refine aw_aload_n (k0 := 0) B 0 (by decide +kernel) rfl rfl ?_
    refine aw_iconst (n := 2) (v := (2 : Int32)) B (by decide +kernel) (by decide) ?_
    refine aw_iconst (n := 1) (v := (1 : Int32)) B (by decide +kernel) (by decide) ?_
    refine aw_iload_n (k0 := 2) B 2 (by decide +kernel) rfl rfl ?_
    refine aw_iload_n (k0 := 3) B 3 (by decide +kernel) rfl rfl ?_
    refine aw_cVI B (oc_X1_above (eLa E) hG lv0 hl0 hrc (2 : Int32) (1 : Int32) v2 v3 M) cvX1_62 rfl rfl (by have hF : FD = 40 := rfl; omega) rfl (Nat.le_of_ble_eq_true rfl) (by decide +kernel) rfl (fun x9 M10 => ?_)
    refine aw_ineg B (by decide +kernel) ?_
    exact aw_ireturn B (by decide +kernel) rfl
  refine aw_ite (fun h1_6 => ?_) (fun h1_6 => ?_)
  · refine aw_lkpK (k0 := (40 : Int32)) (dflt := 268) (ps := #[(1, 115), (2, 122), (10, 138), (11, 148), (20, 155), (30, 166), (40, 176), (41, 187), (50, 198), (60, 215), (70, 226), (80, 238), (81, 256)]) (len := 115) (off := 176) B 177 (by decide +kernel) (by decide +kernel) h1_6 (by decide +kernel) (by decide) ?_
    refine aw_aload_n (k0 := 0) B 0 (by decide +kernel) rfl rfl ?_
    refine aw_iconst (n := 3) (v := (3 : Int32)) B (by decide +kernel) (by decide) ?_
    refine aw_iconst (n := 2) (v := (2 : Int32)) B (by decide +kernel) (by decide) ?_
    refine aw_iload_n (k0 := 2) B 2 (by decide +kernel) rfl rfl ?_
    refine aw_iload_n (k0 := 3) B 3 (by decide +kernel) rfl rfl ?_
    refine aw_cVI B (oc_X1_above (eLa E) hG lv0 hl0 hrc (3 : Int32) (2 : Int32) v2 v3 M) cvX1_62 rfl rfl (by have hF : FD = 40 := rfl; omega) rfl (Nat.le_of_ble_eq_true rfl) (by decide +kernel) rfl (fun x11 M12 => ?_)
    refine aw_iconst (n := 3) (v := (3 : Int32)) B (by decide +kernel) (by decide) ?_
    refine aw_imul B (by decide +kernel) ?_
    exact aw_ireturn B (by decide +kernel) rfl
  refine aw_ite (fun h1_7 => ?_) (fun h1_7 => ?_)
  · refine aw_lkpK (k0 := (41 : Int32)) (dflt := 268) (ps := #[(1, 115), (2, 122), (10, 138), (11, 148), (20, 155), (30, 166), (40, 176), (41, 187), (50, 198), (60, 215), (70, 226), (80, 238), (81, 256)]) (len := 115) (off := 187) B 188 (by decide +kernel) (by decide +kernel) h1_7 (by decide +kernel) (by decide) ?_
    refine aw_aload_n (k0 := 0) B 0 (by decide +kernel) rfl rfl ?_
    refine aw_iconst (n := 3) (v := (3 : Int32)) B (by decide +kernel) (by decide) ?_
    refine aw_iconst (n := 1) (v := (1 : Int32)) B (by decide +kernel) (by decide) ?_
    refine aw_iload_n (k0 := 2) B 2 (by decide +kernel) rfl rfl ?_
    refine aw_iconst (n := 1) (v := (1 : Int32)) B (by decide +kernel) (by decide) ?_
    refine aw_iadd B (by decide +kernel) ?_
    refine aw_iload_n (k0 := 3) B 3 (by decide +kernel) rfl rfl ?_
    refine aw_cVI B (oc_X1_above (eLa E) hG lv0 hl0 hrc (3 : Int32) (1 : Int32) (v2 + (1 : Int32)) v3 M) cvX1_62 rfl rfl (by have hF : FD = 40 := rfl; omega) rfl (Nat.le_of_ble_eq_true rfl) (by decide +kernel) rfl (fun x13 M14 => ?_)
    exact aw_ireturn B (by decide +kernel) rfl
  refine aw_ite (fun h1_8 => ?_) (fun h1_8 => ?_)
  · refine aw_lkpK (k0 := (50 : Int32)) (dflt := 268) (ps := #[(1, 115), (2, 122), (10, 138), (11, 148), (20, 155), (30, 166), (40, 176), (41, 187), (50, 198), (60, 215), (70, 226), (80, 238), (81, 256)]) (len := 115) (off := 198) B 199 (by decide +kernel) (by decide +kernel) h1_8 (by decide +kernel) (by decide) ?_
    refine aw_aload_n (k0 := 0) B 0 (by decide +kernel) rfl rfl ?_
    refine aw_iconst (n := 4) (v := (4 : Int32)) B (by decide +kernel) (by decide) ?_
    refine aw_iconst (n := 2) (v := (2 : Int32)) B (by decide +kernel) (by decide) ?_
    refine aw_iload_n (k0 := 2) B 2 (by decide +kernel) rfl rfl ?_
    refine aw_iload_n (k0 := 3) B 3 (by decide +kernel) rfl rfl ?_
    refine aw_cVI B (oc_X1_above (eLa E) hG lv0 hl0 hrc (4 : Int32) (2 : Int32) v2 v3 M) cvX1_62 rfl rfl (by have hF : FD = 40 := rfl; omega) rfl (Nat.le_of_ble_eq_true rfl) (by decide +kernel) rfl (fun x15 M16 => ?_)
    refine aw_aload_n (k0 := 0) B 0 (by decide +kernel) rfl rfl ?_
    refine aw_iconst (n := 0) (v := (0 : Int32)) B (by decide +kernel) (by decide) ?_
    refine aw_iconst (n := 2) (v := (2 : Int32)) B (by decide +kernel) (by decide) ?_
    refine aw_iload_n (k0 := 3) B 3 (by decide +kernel) rfl rfl ?_
    refine aw_cVI B (oc_X1_own (eLa E) hG lv0 hl0 hrc (0 : Int32) (2 : Int32) v3 M16) cvX1_59 rfl rfl (by have hF : FD = 40 := rfl; omega) rfl (Nat.le_of_ble_eq_true rfl) (by decide +kernel) rfl (fun x17 M18 => ?_)
    refine aw_isub B (by decide +kernel) ?_
    exact aw_ireturn B (by decide +kernel) rfl
  refine aw_ite (fun h1_9 => ?_) (fun h1_9 => ?_)
  · refine aw_lkpK (k0 := (60 : Int32)) (dflt := 268) (ps := #[(1, 115), (2, 122), (10, 138), (11, 148), (20, 155), (30, 166), (40, 176), (41, 187), (50, 198), (60, 215), (70, 226), (80, 238), (81, 256)]) (len := 115) (off := 215) B 216 (by decide +kernel) (by decide +kernel) h1_9 (by decide +kernel) (by decide) ?_
    refine aw_aload_n (k0 := 0) B 0 (by decide +kernel) rfl rfl ?_
    refine aw_iconst (n := 5) (v := (5 : Int32)) B (by decide +kernel) (by decide) ?_
    refine aw_iconst (n := 3) (v := (3 : Int32)) B (by decide +kernel) (by decide) ?_
    refine aw_iload_n (k0 := 2) B 2 (by decide +kernel) rfl rfl ?_
    refine aw_iload_n (k0 := 3) B 3 (by decide +kernel) rfl rfl ?_
    refine aw_cVI B (oc_X1_above (eLa E) hG lv0 hl0 hrc (5 : Int32) (3 : Int32) v2 v3 M) cvX1_62 rfl rfl (by have hF : FD = 40 := rfl; omega) rfl (Nat.le_of_ble_eq_true rfl) (by decide +kernel) rfl (fun x19 M20 => ?_)
    refine aw_iconst (n := 5) (v := (5 : Int32)) B (by decide +kernel) (by decide) ?_
    refine aw_ixor B (by decide +kernel) ?_
    exact aw_ireturn B (by decide +kernel) rfl
  refine aw_ite (fun h1_10 => ?_) (fun h1_10 => ?_)
  · refine aw_lkpK (k0 := (70 : Int32)) (dflt := 268) (ps := #[(1, 115), (2, 122), (10, 138), (11, 148), (20, 155), (30, 166), (40, 176), (41, 187), (50, 198), (60, 215), (70, 226), (80, 238), (81, 256)]) (len := 115) (off := 226) B 227 (by decide +kernel) (by decide +kernel) h1_10 (by decide +kernel) (by decide) ?_
    refine aw_aload_n (k0 := 0) B 0 (by decide +kernel) rfl rfl ?_
    refine aw_bipush (n := 6) (v := (6 : Int32)) B (by decide +kernel) (by decide) ?_
    refine aw_iconst (n := 0) (v := (0 : Int32)) B (by decide +kernel) (by decide) ?_
    refine aw_iload_n (k0 := 2) B 2 (by decide +kernel) rfl rfl ?_
    refine aw_iload_n (k0 := 3) B 3 (by decide +kernel) rfl rfl ?_
    refine aw_cVI B (oc_X1_above (eLa E) hG lv0 hl0 hrc (6 : Int32) (0 : Int32) v2 v3 M) cvX1_62 rfl rfl (by have hF : FD = 40 := rfl; omega) rfl (Nat.le_of_ble_eq_true rfl) (by decide +kernel) rfl (fun x21 M22 => ?_)
    refine aw_iconst (n := 2) (v := (2 : Int32)) B (by decide +kernel) (by decide) ?_
    refine aw_imul B (by decide +kernel) ?_
    exact aw_ireturn B (by decide +kernel) rfl
  refine aw_ite (fun h1_11 => ?_) (fun h1_11 => ?_)
  · refine aw_lkpK (k0 := (80 : Int32)) (dflt := 268) (ps := #[(1, 115), (2, 122), (10, 138), (11, 148), (20, 155), (30, 166), (40, 176), (41, 187), (50, 198), (60, 215), (70, 226), (80, 238), (81, 256)]) (len := 115) (off := 238) B 239 (by decide +kernel) (by decide +kernel) h1_11 (by decide +kernel) (by decide) ?_
    refine aw_aload_n (k0 := 0) B 0 (by decide +kernel) rfl rfl ?_
    refine aw_bipush (n := 7) (v := (7 : Int32)) B (by decide +kernel) (by decide) ?_
    refine aw_iconst (n := 1) (v := (1 : Int32)) B (by decide +kernel) (by decide) ?_
    refine aw_iload_n (k0 := 2) B 2 (by decide +kernel) rfl rfl ?_
    refine aw_iload_n (k0 := 3) B 3 (by decide +kernel) rfl rfl ?_
    refine aw_cVI B (oc_X1_above (eLa E) hG lv0 hl0 hrc (7 : Int32) (1 : Int32) v2 v3 M) cvX1_62 rfl rfl (by have hF : FD = 40 := rfl; omega) rfl (Nat.le_of_ble_eq_true rfl) (by decide +kernel) rfl (fun x23 M24 => ?_)
    refine aw_aload_n (k0 := 0) B 0 (by decide +kernel) rfl rfl ?_
    refine aw_iconst (n := 2) (v := (2 : Int32)) B (by decide +kernel) (by decide) ?_
    refine aw_iconst (n := 2) (v := (2 : Int32)) B (by decide +kernel) (by decide) ?_
    refine aw_iload_n (k0 := 3) B 3 (by decide +kernel) rfl rfl ?_
    refine aw_cVI B (oc_X1_own (eLa E) hG lv0 hl0 hrc (2 : Int32) (2 : Int32) v3 M24) cvX1_59 rfl rfl (by have hF : FD = 40 := rfl; omega) rfl (Nat.le_of_ble_eq_true rfl) (by decide +kernel) rfl (fun x25 M26 => ?_)
    refine aw_iadd B (by decide +kernel) ?_
    exact aw_ireturn B (by decide +kernel) rfl
  refine aw_ite (fun h1_12 => ?_) (fun h1_12 => ?_)
  · refine aw_lkpK (k0 := (81 : Int32)) (dflt := 268) (ps := #[(1, 115), (2, 122), (10, 138), (11, 148), (20, 155), (30, 166), (40, 176), (41, 187), (50, 198), (60, 215), (70, 226), (80, 238), (81, 256)]) (len := 115) (off := 256) B 257 (by decide +kernel) (by decide +kernel) h1_12 (by decide +kernel) (by decide) ?_
    refine aw_aload_n (k0 := 0) B 0 (by decide +kernel) rfl rfl ?_
    refine aw_bipush (n := 7) (v := (7 : Int32)) B (by decide +kernel) (by decide) ?_
    refine aw_iconst (n := 3) (v := (3 : Int32)) B (by decide +kernel) (by decide) ?_
    refine aw_iload_n (k0 := 2) B 2 (by decide +kernel) rfl rfl ?_
    refine aw_iload_n (k0 := 3) B 3 (by decide +kernel) rfl rfl ?_
    refine aw_cVI B (oc_X1_above (eLa E) hG lv0 hl0 hrc (7 : Int32) (3 : Int32) v2 v3 M) cvX1_62 rfl rfl (by have hF : FD = 40 := rfl; omega) rfl (Nat.le_of_ble_eq_true rfl) (by decide +kernel) rfl (fun x27 M28 => ?_)
    refine aw_iconst (n := 1) (v := (1 : Int32)) B (by decide +kernel) (by decide) ?_
    refine aw_isub B (by decide +kernel) ?_
    exact aw_ireturn B (by decide +kernel) rfl
  · refine aw_lkp (dflt := 268) (ps := #[(1, 115), (2, 122), (10, 138), (11, 148), (20, 155), (30, 166), (40, 176), (41, 187), (50, 198), (60, 215), (70, 226), (80, 238), (81, 256)]) (len := 115) (off := 268) B 269 (by decide +kernel) (by decide +kernel) ((lv_osw h1_0 (by decide)).trans ((lv_osw h1_1 (by decide)).trans ((lv_osw h1_2 (by decide)).trans ((lv_osw h1_3 (by decide)).trans ((lv_osw h1_4 (by decide)).trans ((lv_osw h1_5 (by decide)).trans ((lv_osw h1_6 (by decide)).trans ((lv_osw h1_7 (by decide)).trans ((lv_osw h1_8 (by decide)).trans ((lv_osw h1_9 (by decide)).trans ((lv_osw h1_10 (by decide)).trans ((lv_osw h1_11 (by decide)).trans ((lv_osw h1_12 (by decide)).trans (rfl)))))))))))))) (by decide) ?_
    refine aw_iconst (n := 0) (v := (0 : Int32)) B (by decide +kernel) (by decide) ?_
    exact aw_ireturn B (by decide +kernel) rfl
theorem oc_X1_run (l : Launch) {G : GW} (hG : ab_ok G) {rc : Int32 → Int32 → Int32 → Int32 → Mem → Option (Int32 × Mem)} (lv0 : Nat) (hl0 : 3 ≤ lv0) (hrc : ∀ (v1 : Int32) (v2 : Int32) (v3 : Int32) (v4 : Int32) (M : Mem), AC l G yX1_from cX1_from 8 (some .int) lv0 [.ref 40, .int v1, .int v2, .int v3, .int v4] M embI (rc v1 v2 v3 v4 M)) (v1 : Int32) (v2 : Int32) (v3 : Int32) (M : Mem) : AC l G yX1_run cX1_run 4 (some .int) (lv0 + 2) [.ref 40, .int v1, .int v2, .int v3] M embI (f_X1_run rc v1 v2 v3 M) := AC.of hG (by decide) (Nat.le_of_ble_eq_true rfl) (fun E hE B => by subst hE; exact w_X1_run hG lv0 hl0 hrc B v1 v2 v3 M)
def f_X1_from_b63 (rc : Int32 → Int32 → Int32 → Int32 → Mem → Option (Int32 × Mem)) (k6 : Int32 → Int32 → Int32 → Int32 → Int32 → Mem → Option (Int32 × Mem)) (v2 : Int32) (v3 : Int32) (v4 : Int32) (v5 : Int32) (v6 : Int32) (M : Mem) : Option (Int32 × Mem) := ck (okS 0 v5) (lt ((ab_st 0).getD v5.toNatClampNeg 0) fun x1 => k6 v2 v3 v4 x1 (v6 + 1) M)
set_option maxRecDepth 100000 in
set_option maxHeartbeats 4000000 in
theorem w_X1_from_b63 {G : GW} {E : EE} (hG : ab_ok G) {k6 : Int32 → Int32 → Int32 → Int32 → Int32 → Mem → Option (Int32 × Mem)} {rc : Int32 → Int32 → Int32 → Int32 → Mem → Option (Int32 × Mem)} (lv0 : Nat) (hl0 : 3 ≤ lv0) (hrc : ∀ (v1 : Int32) (v2 : Int32) (v3 : Int32) (v4 : Int32) (M : Mem), AC (eLa E) G yX1_from cX1_from 8 (some .int) lv0 [.ref 40, .int v1, .int v2, .int v3, .int v4] M embI (rc v1 v2 v3 v4 M)) (B : Bx G E RX1 cX1_from 8 (lv0 + 3) (some .int)) (hk6 : ∀ (v2 : Int32) (v3 : Int32) (v4 : Int32) (v5 : Int32) (v6 : Int32) (M : Mem), AWo G E cX1_from 8 (ab_Q G E embI) 6 [(0, .ref 40), (2, .int v2), (3, .int v3), (4, .int v4), (5, .int v5), (6, .int v6)] [] M (k6 v2 v3 v4 v5 v6 M)) (v2 : Int32) (v3 : Int32) (v4 : Int32) (v5 : Int32) (v6 : Int32) (M : Mem) : AWo G E cX1_from 8 (ab_Q G E embI) 63 [(0, .ref 40), (2, .int v2), (3, .int v3), (4, .int v4), (5, .int v5), (6, .int v6)] [] M (f_X1_from_b63 rc k6 v2 v3 v4 v5 v6 M) := by
  unfold f_X1_from_b63
  refine aw_gets0 B lxX1_22 (by decide +kernel) ?_
  refine aw_iload (i := 5) B 4 (by decide +kernel) rfl ?_
  refine aw_sld0 B (by decide +kernel) ?_
  refine aw_ltI (fun x1 => ?_)
  refine aw_istore (i := 5) B [(5, .int x1), (0, .ref 40), (2, .int v2), (3, .int v3), (4, .int v4), (6, .int v6)] (by decide +kernel) (Nat.le_of_ble_eq_true rfl) rfl ?_
  refine aw_iinc (i := 6) (n := 1) B 5 [(6, .int (v6 + 1)), (5, .int x1), (0, .ref 40), (2, .int v2), (3, .int v3), (4, .int v4)] (by decide +kernel) rfl (Nat.le_of_ble_eq_true rfl) (v6 + 1) (ab_inc (by decide)) rfl ?_
  refine aw_goto (off := -68) B 6 (by decide +kernel) (by decide) ?_
  exact aw_sub [2, 3, 4, 5, 1, 0] rfl (hk6 _ _ _ _ _ _)
def f_X1_from_L6 (rc : Int32 → Int32 → Int32 → Int32 → Mem → Option (Int32 × Mem)) : Nat → Int32 → Int32 → Int32 → Int32 → Int32 → Mem → Option (Int32 × Mem)
  | 0, _, _, _, _, _, _ => none
  | n + 1, v2, v3, v4, v5, v6, M => (if (7 : Int32) < v6 then (some ((0 : Int32), M)) else (f_X1_isKind v5).bind fun x1 => (if x1 = 0 then (some ((0 : Int32), M)) else ck (okS 1 ((v5 * (4 : Int32)) + v2)) (lt ((ab_st 1).getD ((v5 * (4 : Int32)) + v2).toNatClampNeg 0) fun x3 => (if x3 = 0 then f_X1_from_b63 rc (fun a0 a1 a2 a3 a4 a5 => f_X1_from_L6 rc n a0 a1 a2 a3 a4 a5) v2 v3 v4 v5 v6 M else (if (30 : Int32) ≤ v4 then f_X1_from_b63 rc (fun a0 a1 a2 a3 a4 a5 => f_X1_from_L6 rc n a0 a1 a2 a3 a4 a5) v2 v3 v4 v5 v6 M else (f_X1_begin x3 M).bind fun M5 => bI (f_X1_run rc x3 v3 (v4 + (1 : Int32)) M5) fun x6 M7 => (some (x6, M7)))))))
set_option maxRecDepth 100000 in
set_option maxHeartbeats 4000000 in
theorem w_X1_from_L6 {G : GW} {E : EE} (hG : ab_ok G) {rc : Int32 → Int32 → Int32 → Int32 → Mem → Option (Int32 × Mem)} (lv0 : Nat) (hl0 : 3 ≤ lv0) (hrc : ∀ (v1 : Int32) (v2 : Int32) (v3 : Int32) (v4 : Int32) (M : Mem), AC (eLa E) G yX1_from cX1_from 8 (some .int) lv0 [.ref 40, .int v1, .int v2, .int v3, .int v4] M embI (rc v1 v2 v3 v4 M)) (B : Bx G E RX1 cX1_from 8 (lv0 + 3) (some .int)) : ∀ (n : Nat) (v2 : Int32) (v3 : Int32) (v4 : Int32) (v5 : Int32) (v6 : Int32) (M : Mem), AWo G E cX1_from 8 (ab_Q G E embI) 6 [(0, .ref 40), (2, .int v2), (3, .int v3), (4, .int v4), (5, .int v5), (6, .int v6)] [] M (f_X1_from_L6 rc n v2 v3 v4 v5 v6 M) := by
  intro n
  induction n with
  | zero => intro _ _ _ _ _ _; exact aw_none
  | succ n ih =>
    intro v2 v3 v4 v5 v6 M
    rw [f_X1_from_L6]
    refine aw_iload (i := 6) B 5 (by decide +kernel) rfl ?_
    refine aw_bipush (n := 7) (v := (7 : Int32)) B (by decide +kernel) (by decide) ?_
    refine aw_icmp_gt (off := 67) B 77 (by decide +kernel) (by decide) (fun _ => ?_) (fun _ => ?_)
    · refine aw_iconst (n := 0) (v := (0 : Int32)) B (by decide +kernel) (by decide) ?_
      exact aw_ireturn B (by decide +kernel) rfl
    · refine aw_iload (i := 5) B 4 (by decide +kernel) rfl ?_
      refine aw_cSR B (c_X1_isKind (eLa E) hG v5 M) csX1_18 (by have hF : FD = 40 := rfl; omega) rfl (Nat.le_of_ble_eq_true rfl) (by decide +kernel) rfl (fun x1 => ?_)
      refine aw_if_eq (off := 59) B 77 (by decide +kernel) (by decide) (fun _ => ?_) (fun _ => ?_)
      · refine aw_iconst (n := 0) (v := (0 : Int32)) B (by decide +kernel) (by decide) ?_
        exact aw_ireturn B (by decide +kernel) rfl
      · refine aw_gets1 B lxX1_48 (by decide +kernel) ?_
        refine aw_iload (i := 5) B 4 (by decide +kernel) rfl ?_
        refine aw_iconst (n := 4) (v := (4 : Int32)) B (by decide +kernel) (by decide) ?_
        refine aw_imul B (by decide +kernel) ?_
        refine aw_iload_n (k0 := 2) B 1 (by decide +kernel) rfl rfl ?_
        refine aw_iadd B (by decide +kernel) ?_
        refine aw_sld1 B (by decide +kernel) ?_
        refine aw_ltI (fun x3 => ?_)
        refine aw_istore (i := 7) B [(7, .int x3), (0, .ref 40), (2, .int v2), (3, .int v3), (4, .int v4), (5, .int v5), (6, .int v6)] (by decide +kernel) (Nat.le_of_ble_eq_true rfl) rfl ?_
        refine aw_iload (i := 7) B 0 (by decide +kernel) rfl ?_
        refine aw_if_eq (off := 28) B 63 (by decide +kernel) (by decide) (fun _ => ?_) (fun _ => ?_)
        · exact aw_sub [1, 2, 3, 4, 5, 6] rfl (w_X1_from_b63 hG lv0 hl0 hrc B ih _ _ _ _ _ _)
        · refine aw_iload (i := 4) B 4 (by decide +kernel) rfl ?_
          refine aw_bipush (n := 30) (v := (30 : Int32)) B (by decide +kernel) (by decide) ?_
          refine aw_icmp_ge (off := 21) B 63 (by decide +kernel) (by decide) (fun _ => ?_) (fun _ => ?_)
          · exact aw_sub [1, 2, 3, 4, 5, 6] rfl (w_X1_from_b63 hG lv0 hl0 hrc B ih _ _ _ _ _ _)
          · refine aw_aload_n (k0 := 0) B 1 (by decide +kernel) rfl rfl ?_
            refine aw_iload (i := 7) B 0 (by decide +kernel) rfl ?_
            refine aw_cVV B (c_X1_begin (eLa E) hG x3 M) cvX1_51 rfl rfl (by have hF : FD = 40 := rfl; omega) rfl (Nat.le_of_ble_eq_true rfl) (by decide +kernel) rfl (fun M5 => ?_)
            refine aw_aload_n (k0 := 0) B 1 (by decide +kernel) rfl rfl ?_
            refine aw_iload (i := 7) B 0 (by decide +kernel) rfl ?_
            refine aw_iload_n (k0 := 3) B 3 (by decide +kernel) rfl rfl ?_
            refine aw_iload (i := 4) B 4 (by decide +kernel) rfl ?_
            refine aw_iconst (n := 1) (v := (1 : Int32)) B (by decide +kernel) (by decide) ?_
            refine aw_iadd B (by decide +kernel) ?_
            refine aw_cVI B (oc_X1_run (eLa E) hG lv0 hl0 hrc x3 v3 (v4 + (1 : Int32)) M5) cvX1_55 rfl rfl (by have hF : FD = 40 := rfl; omega) rfl (Nat.le_of_ble_eq_true rfl) (by decide +kernel) rfl (fun x6 M7 => ?_)
            exact aw_ireturn B (by decide +kernel) rfl
def f_X1_from_o (rc : Int32 → Int32 → Int32 → Int32 → Mem → Option (Int32 × Mem)) (v1 : Int32) (v2 : Int32) (v3 : Int32) (v4 : Int32) (M : Mem) : Option (Int32 × Mem) := f_X1_from_L6 rc FU v2 v3 v4 v1 (0 : Int32) M
set_option maxRecDepth 100000 in
set_option maxHeartbeats 4000000 in
theorem w_X1_from_o {G : GW} {E : EE} (hG : ab_ok G) {rc : Int32 → Int32 → Int32 → Int32 → Mem → Option (Int32 × Mem)} (lv0 : Nat) (hl0 : 3 ≤ lv0) (hrc : ∀ (v1 : Int32) (v2 : Int32) (v3 : Int32) (v4 : Int32) (M : Mem), AC (eLa E) G yX1_from cX1_from 8 (some .int) lv0 [.ref 40, .int v1, .int v2, .int v3, .int v4] M embI (rc v1 v2 v3 v4 M)) (B : Bx G E RX1 cX1_from 8 (lv0 + 3) (some .int)) (v1 : Int32) (v2 : Int32) (v3 : Int32) (v4 : Int32) (M : Mem) : AWo G E cX1_from 8 (ab_Q G E embI) 0 [(0, .ref 40), (1, .int v1), (2, .int v2), (3, .int v3), (4, .int v4)] [] M (f_X1_from_o rc v1 v2 v3 v4 M) := by
  unfold f_X1_from_o
  refine aw_iload_n (k0 := 1) B 1 (by decide +kernel) rfl rfl ?_
  refine aw_istore (i := 5) B [(5, .int v1), (0, .ref 40), (1, .int v1), (2, .int v2), (3, .int v3), (4, .int v4)] (by decide +kernel) (Nat.le_of_ble_eq_true rfl) rfl ?_
  refine aw_iconst (n := 0) (v := (0 : Int32)) B (by decide +kernel) (by decide) ?_
  refine aw_istore (i := 6) B [(6, .int (0 : Int32)), (5, .int v1), (0, .ref 40), (1, .int v1), (2, .int v2), (3, .int v3), (4, .int v4)] (by decide +kernel) (Nat.le_of_ble_eq_true rfl) rfl ?_
  exact aw_sub [2, 4, 5, 6, 1, 0] rfl (w_X1_from_L6 hG lv0 hl0 hrc B FU _ _ _ _ _ _)
def f_X1_from : Nat → Int32 → Int32 → Int32 → Int32 → Mem → Option (Int32 × Mem)
  | 0, _, _, _, _, _ => none
  | d + 1, v1, v2, v3, v4, M => f_X1_from_o (fun v1 v2 v3 v4 M => f_X1_from d v1 v2 v3 v4 M) v1 v2 v3 v4 M
theorem c_X1_from (l : Launch) {G : GW} (hG : ab_ok G) : ∀ (d : Nat) (v1 : Int32) (v2 : Int32) (v3 : Int32) (v4 : Int32) (M : Mem), AC l G yX1_from cX1_from 8 (some .int) (3 + 3 * d) [.ref 40, .int v1, .int v2, .int v3, .int v4] M embI (f_X1_from d v1 v2 v3 v4 M)
  | 0, _, _, _, _, _ => fun a ha => by cases ha
  | d + 1, v1, v2, v3, v4, M => AC.of hG (by decide) (Nat.le_of_ble_eq_true rfl) (fun E hE B => by
    subst hE
    have e : 3 + 3 * (d + 1) = 3 + 3 * d + 3 := by omega
    rw [e] at B
    exact w_X1_from_o hG (3 + 3 * d) (Nat.le_add_right _ _) (fun v1 v2 v3 v4 M => c_X1_from (eLa E) hG d v1 v2 v3 v4 M) B v1 v2 v3 v4 M)
theorem c_X1_own (l : Launch) {G : GW} (hG : ab_ok G) (v1 : Int32) (v2 : Int32) (v3 : Int32) (M : Mem) : AC l G yX1_own cX1_own 4 (some .int) (3 + 3 * FD + 1) [.ref 40, .int v1, .int v2, .int v3] M embI (f_X1_own (f_X1_from FD) v1 v2 v3 M) := AC.of hG (by decide) (Nat.le_of_ble_eq_true rfl) (fun E hE B => by subst hE; exact w_X1_own hG (3 + 3 * FD) (Nat.le_add_right _ _) (fun v1 v2 v3 v4 M => c_X1_from (eLa E) hG FD v1 v2 v3 v4 M) B v1 v2 v3 M)
theorem c_X1_above (l : Launch) {G : GW} (hG : ab_ok G) (v1 : Int32) (v2 : Int32) (v3 : Int32) (v4 : Int32) (M : Mem) : AC l G yX1_above cX1_above 5 (some .int) (3 + 3 * FD + 1) [.ref 40, .int v1, .int v2, .int v3, .int v4] M embI (f_X1_above (f_X1_from FD) v1 v2 v3 v4 M) := AC.of hG (by decide) (Nat.le_of_ble_eq_true rfl) (fun E hE B => by subst hE; exact w_X1_above hG (3 + 3 * FD) (Nat.le_add_right _ _) (fun v1 v2 v3 v4 M => c_X1_from (eLa E) hG FD v1 v2 v3 v4 M) B v1 v2 v3 v4 M)
theorem c_X1_run (l : Launch) {G : GW} (hG : ab_ok G) (v1 : Int32) (v2 : Int32) (v3 : Int32) (M : Mem) : AC l G yX1_run cX1_run 4 (some .int) (3 + 3 * FD + 2) [.ref 40, .int v1, .int v2, .int v3] M embI (f_X1_run (f_X1_from FD) v1 v2 v3 M) := AC.of hG (by decide) (Nat.le_of_ble_eq_true rfl) (fun E hE B => by subst hE; exact w_X1_run hG (3 + 3 * FD) (Nat.le_add_right _ _) (fun v1 v2 v3 v4 M => c_X1_from (eLa E) hG FD v1 v2 v3 v4 M) B v1 v2 v3 M)
