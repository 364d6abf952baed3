def f_X11_common_L4 : Nat → Int32 → Int32 → Option Int32
  | 0, _, _ => none
  | n + 1, v2, v3 => (if v3 = 0 then (some v2) else if v3 = 0 then none else lt (ab_rem v2 v3) fun x1 => f_X11_common_L4 n v3 x1)
set_option maxRecDepth 100000 in
set_option maxHeartbeats 4000000 in
theorem w_X11_common_L4 {G : GW} {E : EE} (hG : ab_ok G) (M : Mem) (B : Bx G E RX11 cX11_common 5 2 (some .int)) : ∀ (n : Nat) (v2 : Int32) (v3 : Int32), AWo G E cX11_common 5 (ab_Q G E (embRI M)) 4 [(2, .int v2), (3, .int v3)] [] M (f_X11_common_L4 n v2 v3) := by
  intro n
  induction n with
  | zero => intro _ _; exact aw_none
  | succ n ih =>
    intro v2 v3
    rw [f_X11_common_L4]
    refine aw_iload_n (k0 := 3) B 1 (by decide +kernel) rfl rfl ?_
    refine aw_if_eq (off := 16) B 21 (by decide +kernel) (by decide) (fun _ => ?_) (fun _ => ?_)
    · refine aw_iload_n (k0 := 2) B 0 (by decide +kernel) rfl rfl ?_
      exact aw_ireturn B (by decide +kernel) rfl
    · refine aw_iload_n (k0 := 2) B 0 (by decide +kernel) rfl rfl ?_
      refine aw_iload_n (k0 := 3) B 1 (by decide +kernel) rfl rfl ?_
      refine aw_irem B (by decide +kernel) ?_
      refine aw_ltI (fun x1 => ?_)
      refine aw_istore (i := 4) B [(4, .int x1), (2, .int v2), (3, .int v3)] (by decide +kernel) (Nat.le_of_ble_eq_true rfl) rfl ?_
      refine aw_iload_n (k0 := 3) B 2 (by decide +kernel) rfl rfl ?_
      refine aw_istore_n (k0 := 2) B [(2, .int v3), (4, .int x1), (3, .int v3)] (by decide +kernel) rfl (Nat.le_of_ble_eq_true rfl) rfl ?_
      refine aw_iload (i := 4) B 1 (by decide +kernel) rfl ?_
      refine aw_istore_n (k0 := 3) B [(3, .int x1), (2, .int v3), (4, .int x1)] (by decide +kernel) rfl (Nat.le_of_ble_eq_true rfl) rfl ?_
      refine aw_goto (off := -14) B 4 (by decide +kernel) (by decide) ?_
      exact aw_sub [1, 0] rfl (ih _ _)
def f_X11_common (v0 : Int32) (v1 : Int32) : Option Int32 := f_X11_common_L4 FU v0 v1
set_option maxRecDepth 100000 in
set_option maxHeartbeats 4000000 in
theorem w_X11_common {G : GW} {E : EE} (hG : ab_ok G) (B : Bx G E RX11 cX11_common 5 2 (some .int)) (v0 : Int32) (v1 : Int32) (M : Mem) : AWo G E cX11_common 5 (ab_Q G E (embRI M)) 0 [(0, .int v0), (1, .int v1)] [] M (f_X11_common v0 v1) := by
  unfold f_X11_common
  refine aw_iload_n (k0 := 0) B 0 (by decide +kernel) rfl rfl ?_
  refine aw_istore_n (k0 := 2) B [(2, .int v0), (0, .int v0), (1, .int v1)] (by decide +kernel) rfl (Nat.le_of_ble_eq_true rfl) rfl ?_
  refine aw_iload_n (k0 := 1) B 2 (by decide +kernel) rfl rfl ?_
  refine aw_istore_n (k0 := 3) B [(3, .int v1), (2, .int v0), (0, .int v0), (1, .int v1)] (by decide +kernel) rfl (Nat.le_of_ble_eq_true rfl) rfl ?_
  exact aw_sub [1, 0] rfl (w_X11_common_L4 hG M B FU _ _)
theorem c_X11_common (l : Launch) {G : GW} (hG : ab_ok G) (v0 : Int32) (v1 : Int32) (M : Mem) : AC l G yX11_common cX11_common 5 (some .int) 2 [.int v0, .int v1] M (embRI M) (f_X11_common v0 v1) := AC.of hG (by decide) (Nat.le_of_ble_eq_true rfl) (fun E hE B => by subst hE; exact w_X11_common hG B v0 v1 M)
def f_X11_mean (v1 : Int32) (v2 : Int32) (M : Mem) : Option (Int32 × Mem) := (f_X11_within v2.toInt64 (0 : Int64) (1 : Int64)).bind fun x1 => (if x1 = 0 then (some ((-1 : Int32), M)) else bI (f_X11_gathers v1 M) fun x3 M4 => (if 0 ≤ x3 then (f_X11_allOrders M4).bind fun x5 => (f_X11_togetherOf FD x5 M4).bind fun x7 => (if x7 = 0 then (some (v2, M4)) else (f_X11_common x7 (M4.1 47 22)).bind fun x9 => (if v2 = 0 then if x9 = 0 then none else (some (x7 / x9, M4)) else if x9 = 0 then none else (some ((M4.1 47 22) / x9, M4)))) else (some (x3, M4))))
set_option maxRecDepth 100000 in
set_option maxHeartbeats 4000000 in
theorem w_X11_mean {G : GW} {E : EE} (hG : ab_ok G) (B : Bx G E RX11 cX11_mean 6 47 (some .int)) (v1 : Int32) (v2 : Int32) (M : Mem) : AWo G E cX11_mean 6 (ab_Q G E embI) 0 [(0, .ref 47), (1, .int v1), (2, .int v2)] [] M (f_X11_mean v1 v2 M) := by
  unfold f_X11_mean
  refine aw_iload_n (k0 := 2) B 2 (by decide +kernel) rfl rfl ?_
  refine aw_i2l B (by decide +kernel) ?_
  refine aw_lconst (n := 0) (v := (0 : Int64)) B (by decide +kernel) (by decide) ?_
  refine aw_lconst (n := 1) (v := (1 : Int64)) B (by decide +kernel) (by decide) ?_
  refine aw_cSR B (c_X11_within (eLa E) hG v2.toInt64 (0 : Int64) (1 : Int64) M) csX11_112 (Nat.le_of_ble_eq_true rfl) rfl (Nat.le_of_ble_eq_true rfl) (by decide +kernel) rfl (fun x1 => ?_)
  refine aw_if_ne (off := 5) B 12 (by decide +kernel) (by decide) (fun _ => ?_) (fun _ => ?_)
  · refine aw_aload_n (k0 := 0) B 0 (by decide +kernel) rfl rfl ?_
    refine aw_iload_n (k0 := 1) B 1 (by decide +kernel) rfl rfl ?_
    refine aw_cVI B (c_X11_gathers (eLa E) hG v1 M) cvX11_276 rfl rfl (Nat.le_of_ble_eq_true rfl) rfl (Nat.le_of_ble_eq_true rfl) (by decide +kernel) rfl (fun x3 M4 => ?_)
    refine aw_istore_n (k0 := 3) B [(3, .int x3), (0, .ref 47), (1, .int v1), (2, .int v2)] (by decide +kernel) rfl (Nat.le_of_ble_eq_true rfl) rfl ?_
    refine aw_iload_n (k0 := 3) B 0 (by decide +kernel) rfl rfl ?_
    refine aw_if_ge (off := 5) B 24 (by decide +kernel) (by decide) (fun _ => ?_) (fun _ => ?_)
    · refine aw_aload_n (k0 := 0) B 1 (by decide +kernel) rfl rfl ?_
      refine aw_aload_n (k0 := 0) B 1 (by decide +kernel) rfl rfl ?_
      refine aw_cVR B (c_X11_allOrders (eLa E) hG M4) cvX11_279 rfl rfl (Nat.le_of_ble_eq_true rfl) rfl (Nat.le_of_ble_eq_true rfl) (by decide +kernel) rfl (fun x5 => ?_)
      refine aw_cVR B (c_X11_togetherOf (eLa E) hG FD x5 M4) cvX11_273 rfl rfl (Nat.le_of_ble_eq_true rfl) rfl (Nat.le_of_ble_eq_true rfl) (by decide +kernel) rfl (fun x7 => ?_)
      refine aw_istore (i := 4) B [(4, .int x7), (3, .int x3), (0, .ref 47), (1, .int v1), (2, .int v2)] (by decide +kernel) (Nat.le_of_ble_eq_true rfl) rfl ?_
      refine aw_iload (i := 4) B 0 (by decide +kernel) rfl ?_
      refine aw_if_ne (off := 5) B 41 (by decide +kernel) (by decide) (fun _ => ?_) (fun _ => ?_)
      · refine aw_iload (i := 4) B 0 (by decide +kernel) rfl ?_
        refine aw_aload_n (k0 := 0) B 2 (by decide +kernel) rfl rfl ?_
        refine aw_geti (c := 47) B lkX11_225 (by decide +kernel) rfl ?_
        refine aw_cSR B (c_X11_common (eLa E) hG x7 (M4.1 47 22) M4) csX11_282 (Nat.le_of_ble_eq_true rfl) rfl (Nat.le_of_ble_eq_true rfl) (by decide +kernel) rfl (fun x9 => ?_)
        refine aw_istore (i := 5) B [(5, .int x9), (4, .int x7), (3, .int x3), (0, .ref 47), (1, .int v1), (2, .int v2)] (by decide +kernel) (Nat.le_of_ble_eq_true rfl) rfl ?_
        refine aw_iload_n (k0 := 2) B 5 (by decide +kernel) rfl rfl ?_
        refine aw_if_ne (off := 11) B 64 (by decide +kernel) (by decide) (fun _ => ?_) (fun _ => ?_)
        · refine aw_aload_n (k0 := 0) B 3 (by decide +kernel) rfl rfl ?_
          refine aw_geti (c := 47) B lkX11_225 (by decide +kernel) rfl ?_
          refine aw_iload (i := 5) B 0 (by decide +kernel) rfl ?_
          refine aw_idiv B (by decide +kernel) ?_
          exact aw_ireturn B (by decide +kernel) rfl
        · refine aw_iload (i := 4) B 1 (by decide +kernel) rfl ?_
          refine aw_iload (i := 5) B 0 (by decide +kernel) rfl ?_
          refine aw_idiv B (by decide +kernel) ?_
          refine aw_goto (off := 10) B 71 (by decide +kernel) (by decide) ?_
          exact aw_ireturn B (by decide +kernel) rfl
      · refine aw_iload_n (k0 := 2) B 4 (by decide +kernel) rfl rfl ?_
        exact aw_ireturn B (by decide +kernel) rfl
    · refine aw_iload_n (k0 := 3) B 0 (by decide +kernel) rfl rfl ?_
      exact aw_ireturn B (by decide +kernel) rfl
  · refine aw_iconst (n := -1) (v := (-1 : Int32)) B (by decide +kernel) (by decide) ?_
    exact aw_ireturn B (by decide +kernel) rfl
theorem c_X11_mean (l : Launch) {G : GW} (hG : ab_ok G) (v1 : Int32) (v2 : Int32) (M : Mem) : AC l G yX11_mean cX11_mean 6 (some .int) 47 [.ref 47, .int v1, .int v2] M embI (f_X11_mean v1 v2 M) := AC.of hG (by decide) (Nat.le_of_ble_eq_true rfl) (fun E hE B => by subst hE; exact w_X11_mean hG B v1 v2 M)
def f_X8_firstKeeping_b79 (k34 : Int32 → Int32 → Int32 → Mem → Option (Int32 × Mem)) (v1 : Int32) (v2 : Int32) (v3 : Int32) (M : Mem) : Option (Int32 × Mem) := k34 v1 v2 (v3 + 1) M
set_option maxRecDepth 100000 in
set_option maxHeartbeats 4000000 in
theorem w_X8_firstKeeping_b79 {G : GW} {E : EE} (hG : ab_ok G) {k34 : Int32 → Int32 → Int32 → Mem → Option (Int32 × Mem)} (B : Bx G E RX8 cX8_firstKeeping 4 128 (some .int)) (hk34 : ∀ (v1 : Int32) (v2 : Int32) (v3 : Int32) (M : Mem), AWo G E cX8_firstKeeping 4 (ab_Q G E embI) 34 [(0, .ref 14), (1, .int v1), (2, .int v2), (3, .int v3)] [] M (k34 v1 v2 v3 M)) (v1 : Int32) (v2 : Int32) (v3 : Int32) (M : Mem) : AWo G E cX8_firstKeeping 4 (ab_Q G E embI) 79 [(0, .ref 14), (1, .int v1), (2, .int v2), (3, .int v3)] [] M (f_X8_firstKeeping_b79 k34 v1 v2 v3 M) := by
  unfold f_X8_firstKeeping_b79
  refine aw_iinc (i := 3) (n := 1) B 3 [(3, .int (v3 + 1)), (0, .ref 14), (1, .int v1), (2, .int v2)] (by decide +kernel) rfl (Nat.le_of_ble_eq_true rfl) (v3 + 1) (ab_inc (by decide)) rfl ?_
  refine aw_goto (off := -48) B 34 (by decide +kernel) (by decide) ?_
  exact aw_sub [1, 2, 3, 0] rfl (hk34 _ _ _ _)
def f_X8_firstKeeping_L34 (k22 : Int32 → Int32 → Mem → Option (Int32 × Mem)) : Nat → Int32 → Int32 → Int32 → Mem → Option (Int32 × Mem)
  | 0, _, _, _, _ => none
  | n + 1, v1, v2, v3, M => (if (M.1 14 3) ≤ v3 then k22 v1 (v2 + 1) M else (f_X8_isUnknown (M.1 14 6) v2 v3).bind fun x1 => (if x1 = 0 then f_X8_firstKeeping_b79 (fun a0 a1 a2 a3 => f_X8_firstKeeping_L34 k22 n a0 a1 a2 a3) v1 v2 v3 M else bI (f_X8_restBy (f_X8_cost FD) (M.1 14 6) v2 v3 (0 : Int32) (0 : Int32) M) fun x3 M4 => (if ((1 : Int32) + x3) = v1 then (some (((10 : Int32) * v2) + v3, M4)) else f_X8_firstKeeping_b79 (fun a0 a1 a2 a3 => f_X8_firstKeeping_L34 k22 n a0 a1 a2 a3) v1 v2 v3 M4)))
set_option maxRecDepth 100000 in
set_option maxHeartbeats 4000000 in
theorem w_X8_firstKeeping_L34 {G : GW} {E : EE} (hG : ab_ok G) {k22 : Int32 → Int32 → Mem → Option (Int32 × Mem)} (B : Bx G E RX8 cX8_firstKeeping 4 128 (some .int)) (hk22 : ∀ (v1 : Int32) (v2 : Int32) (M : Mem), AWo G E cX8_firstKeeping 4 (ab_Q G E embI) 22 [(0, .ref 14), (1, .int v1), (2, .int v2)] [] M (k22 v1 v2 M)) : ∀ (n : Nat) (v1 : Int32) (v2 : Int32) (v3 : Int32) (M : Mem), AWo G E cX8_firstKeeping 4 (ab_Q G E embI) 34 [(0, .ref 14), (1, .int v1), (2, .int v2), (3, .int v3)] [] M (f_X8_firstKeeping_L34 k22 n v1 v2 v3 M) := by
  intro n
  induction n with
  | zero => intro _ _ _ _; exact aw_none
  | succ n ih =>
    intro v1 v2 v3 M
    rw [f_X8_firstKeeping_L34]
    refine aw_iload_n (k0 := 3) B 3 (by decide +kernel) rfl rfl ?_
    refine aw_aload_n (k0 := 0) B 0 (by decide +kernel) rfl rfl ?_
    refine aw_geti (c := 14) B lkX8_23 (by decide +kernel) rfl ?_
    refine aw_icmp_ge (off := 46) B 85 (by decide +kernel) (by decide) (fun _ => ?_) (fun _ => ?_)
    · refine aw_iinc (i := 2) (n := 1) B 2 [(2, .int (v2 + 1)), (0, .ref 14), (1, .int v1), (3, .int v3)] (by decide +kernel) rfl (Nat.le_of_ble_eq_true rfl) (v2 + 1) (ab_inc (by decide)) rfl ?_
      refine aw_goto (off := -66) B 22 (by decide +kernel) (by decide) ?_
      exact aw_sub [1, 2, 0] rfl (hk22 _ _ _)
    · refine aw_aload_n (k0 := 0) B 0 (by decide +kernel) rfl rfl ?_
      refine aw_geti (c := 14) B lkX8_48 (by decide +kernel) rfl ?_
      refine aw_iload_n (k0 := 2) B 2 (by decide +kernel) rfl rfl ?_
      refine aw_iload_n (k0 := 3) B 3 (by decide +kernel) rfl rfl ?_
      refine aw_cSR B (c_X8_isUnknown (eLa E) hG (M.1 14 6) v2 v3 M) csX8_59 (Nat.le_of_ble_eq_true rfl) rfl (Nat.le_of_ble_eq_true rfl) (by decide +kernel) rfl (fun x1 => ?_)
      refine aw_if_eq (off := 28) B 79 (by decide +kernel) (by decide) (fun _ => ?_) (fun _ => ?_)
      · exact w_X8_firstKeeping_b79 hG B ih _ _ _ _
      · refine aw_iconst (n := 1) (v := (1 : Int32)) B (by decide +kernel) (by decide) ?_
        refine aw_aload_n (k0 := 0) B 0 (by decide +kernel) rfl rfl ?_
        refine aw_aload_n (k0 := 0) B 0 (by decide +kernel) rfl rfl ?_
        refine aw_geti (c := 14) B lkX8_48 (by decide +kernel) rfl ?_
        refine aw_iload_n (k0 := 2) B 2 (by decide +kernel) rfl rfl ?_
        refine aw_iload_n (k0 := 3) B 3 (by decide +kernel) rfl rfl ?_
        refine aw_iconst (n := 0) (v := (0 : Int32)) B (by decide +kernel) (by decide) ?_
        refine aw_iconst (n := 0) (v := (0 : Int32)) B (by decide +kernel) (by decide) ?_
        refine aw_cVI B (c_X8_restBy (eLa E) hG (M.1 14 6) v2 v3 (0 : Int32) (0 : Int32) M) cvX8_63 rfl rfl (Nat.le_of_ble_eq_true rfl) rfl (Nat.le_of_ble_eq_true rfl) (by decide +kernel) rfl (fun x3 M4 => ?_)
        refine aw_iadd B (by decide +kernel) ?_
        refine aw_iload_n (k0 := 1) B 1 (by decide +kernel) rfl rfl ?_
        refine aw_icmp_ne (off := 10) B 79 (by decide +kernel) (by decide) (fun _ => ?_) (fun _ => ?_)
        · exact w_X8_firstKeeping_b79 hG B ih _ _ _ _
        · refine aw_bipush (n := 10) (v := (10 : Int32)) B (by decide +kernel) (by decide) ?_
          refine aw_iload_n (k0 := 2) B 2 (by decide +kernel) rfl rfl ?_
          refine aw_imul B (by decide +kernel) ?_
          refine aw_iload_n (k0 := 3) B 3 (by decide +kernel) rfl rfl ?_
          refine aw_iadd B (by decide +kernel) ?_
          exact aw_ireturn B (by decide +kernel) rfl
def f_X8_firstKeeping_L22 : Nat → Int32 → Int32 → Mem → Option (Int32 × Mem)
  | 0, _, _, _ => none
  | n + 1, v1, v2, M => (if (M.1 14 3) ≤ v2 then (some ((-1 : Int32), M)) else lt (v2 + (1 : Int32)) fun x1 => f_X8_firstKeeping_L34 (fun a0 a1 a2 => f_X8_firstKeeping_L22 n a0 a1 a2) FU v1 v2 x1 M)
set_option maxRecDepth 100000 in
set_option maxHeartbeats 4000000 in
theorem w_X8_firstKeeping_L22 {G : GW} {E : EE} (hG : ab_ok G) (B : Bx G E RX8 cX8_firstKeeping 4 128 (some .int)) : ∀ (n : Nat) (v1 : Int32) (v2 : Int32) (M : Mem), AWo G E cX8_firstKeeping 4 (ab_Q G E embI) 22 [(0, .ref 14), (1, .int v1), (2, .int v2)] [] M (f_X8_firstKeeping_L22 n v1 v2 M) := by
  intro n
  induction n with
  | zero => intro _ _ _; exact aw_none
  | succ n ih =>
    intro v1 v2 M
    rw [f_X8_firstKeeping_L22]
    refine aw_iload_n (k0 := 2) B 2 (by decide +kernel) rfl rfl ?_
    refine aw_aload_n (k0 := 0) B 0 (by decide +kernel) rfl rfl ?_
    refine aw_geti (c := 14) B lkX8_23 (by decide +kernel) rfl ?_
    refine aw_icmp_ge (off := 64) B 91 (by decide +kernel) (by decide) (fun _ => ?_) (fun _ => ?_)
    · refine aw_iconst (n := -1) (v := (-1 : Int32)) B (by decide +kernel) (by decide) ?_
      exact aw_ireturn B (by decide +kernel) rfl
    · refine aw_iload_n (k0 := 2) B 2 (by decide +kernel) rfl rfl ?_
      refine aw_iconst (n := 1) (v := (1 : Int32)) B (by decide +kernel) (by decide) ?_
      refine aw_iadd B (by decide +kernel) ?_
      refine aw_ltI (fun x1 => ?_)
      refine aw_istore_n (k0 := 3) B [(3, .int x1), (0, .ref 14), (1, .int v1), (2, .int v2)] (by decide +kernel) rfl (Nat.le_of_ble_eq_true rfl) rfl ?_
      exact aw_sub [1, 2, 3, 0] rfl (w_X8_firstKeeping_L34 hG B ih FU _ _ _ _)
def f_X8_firstKeeping (M : Mem) : Option (Int32 × Mem) := (if (M.1 14 7) = 0 then (some ((-1 : Int32), M)) else bI (f_X8_cost FD (M.1 14 6) (0 : Int32) (0 : Int32) M) fun x1 M2 => f_X8_firstKeeping_L22 FU x1 (0 : Int32) M2)
set_option maxRecDepth 100000 in
set_option maxHeartbeats 4000000 in
theorem w_X8_firstKeeping {G : GW} {E : EE} (hG : ab_ok G) (B : Bx G E RX8 cX8_firstKeeping 4 128 (some .int)) (M : Mem) : AWo G E cX8_firstKeeping 4 (ab_Q G E embI) 0 [(0, .ref 14)] [] M (f_X8_firstKeeping M) := by
  unfold f_X8_firstKeeping
  refine aw_aload_n (k0 := 0) B 0 (by decide +kernel) rfl rfl ?_
  refine aw_geti (c := 14) B lkX8_44 (by decide +kernel) rfl ?_
  refine aw_if_ne (off := 5) B 9 (by decide +kernel) (by decide) (fun _ => ?_) (fun _ => ?_)
  · refine aw_aload_n (k0 := 0) B 0 (by decide +kernel) rfl rfl ?_
    refine aw_aload_n (k0 := 0) B 0 (by decide +kernel) rfl rfl ?_
    refine aw_geti (c := 14) B lkX8_48 (by decide +kernel) rfl ?_
    refine aw_iconst (n := 0) (v := (0 : Int32)) B (by decide +kernel) (by decide) ?_
    refine aw_iconst (n := 0) (v := (0 : Int32)) B (by decide +kernel) (by decide) ?_
    refine aw_cVI B (c_X8_cost (eLa E) hG FD (M.1 14 6) (0 : Int32) (0 : Int32) M) cvX8_55 rfl rfl (Nat.le_of_ble_eq_true rfl) rfl (Nat.le_of_ble_eq_true rfl) (by decide +kernel) rfl (fun x1 M2 => ?_)
    refine aw_istore_n (k0 := 1) B [(1, .int x1), (0, .ref 14)] (by decide +kernel) rfl (Nat.le_of_ble_eq_true rfl) rfl ?_
    refine aw_iconst (n := 0) (v := (0 : Int32)) B (by decide +kernel) (by decide) ?_
    refine aw_istore_n (k0 := 2) B [(2, .int (0 : Int32)), (1, .int x1), (0, .ref 14)] (by decide +kernel) rfl (Nat.le_of_ble_eq_true rfl) rfl ?_
    exact aw_sub [2, 1, 0] rfl (w_X8_firstKeeping_L22 hG B FU _ _ _)
  · refine aw_iconst (n := -1) (v := (-1 : Int32)) B (by decide +kernel) (by decide) ?_
    exact aw_ireturn B (by decide +kernel) rfl
theorem c_X8_firstKeeping (l : Launch) {G : GW} (hG : ab_ok G) (M : Mem) : AC l G yX8_firstKeeping cX8_firstKeeping 4 (some .int) 128 [.ref 14] M embI (f_X8_firstKeeping M) := AC.of hG (by decide) (Nat.le_of_ble_eq_true rfl) (fun E hE B => by subst hE; exact w_X8_firstKeeping hG B M)
def f_X10_next (v1 : Int32) (v2 : Int32) (M : Mem) : Option (Int32 × Mem) := (f_X10_isQuestion v1 M).bind fun x1 => (if x1 = 0 then (some ((-1 : Int32), M)) else (if v2 < 0 then (some ((-1 : Int32), M)) else (if v2 ≤ (1 : Int32) then (f_X8_isFor (M.1 1 0)).bind fun x3 => (if x3 = 0 then (some ((-5 : Int32), M)) else (f_X10_tallied M).bind fun M6 => (f_X8_begin (v1 / (10 : Int32)) (ab_rem v1 (10 : Int32)) M6).bind fun M8 => bI (f_X8_firstKeeping M8) fun x9 M10 => (if 0 ≤ x9 then (if v2 = 0 then (some (x9 / (10 : Int32), M10)) else (some (ab_rem x9 (10 : Int32), M10))) else (some ((-2 : Int32), M10)))) else (some ((-1 : Int32), M)))))
set_option maxRecDepth 100000 in
set_option maxHeartbeats 4000000 in
theorem w_X10_next {G : GW} {E : EE} (hG : ab_ok G) (B : Bx G E RX10 cX10_next 4 129 (some .int)) (v1 : Int32) (v2 : Int32) (M : Mem) : AWo G E cX10_next 4 (ab_Q G E embI) 0 [(0, .ref 0), (1, .int v1), (2, .int v2)] [] M (f_X10_next v1 v2 M) := by
  unfold f_X10_next
  refine aw_aload_n (k0 := 0) B 0 (by decide +kernel) rfl rfl ?_
  refine aw_iload_n (k0 := 1) B 1 (by decide +kernel) rfl rfl ?_
  refine aw_cVR B (c_X10_isQuestion (eLa E) hG v1 M) cvX10_208 rfl rfl (Nat.le_of_ble_eq_true rfl) rfl (Nat.le_of_ble_eq_true rfl) (by decide +kernel) rfl (fun x1 => ?_)
  refine aw_if_eq (off := 12) B 17 (by decide +kernel) (by decide) (fun _ => ?_) (fun _ => ?_)
  · refine aw_iconst (n := -1) (v := (-1 : Int32)) B (by decide +kernel) (by decide) ?_
    exact aw_ireturn B (by decide +kernel) rfl
  · refine aw_iload_n (k0 := 2) B 2 (by decide +kernel) rfl rfl ?_
    refine aw_if_lt (off := 8) B 17 (by decide +kernel) (by decide) (fun _ => ?_) (fun _ => ?_)
    · refine aw_iconst (n := -1) (v := (-1 : Int32)) B (by decide +kernel) (by decide) ?_
      exact aw_ireturn B (by decide +kernel) rfl
    · refine aw_iload_n (k0 := 2) B 2 (by decide +kernel) rfl rfl ?_
      refine aw_iconst (n := 1) (v := (1 : Int32)) B (by decide +kernel) (by decide) ?_
      refine aw_icmp_le (off := 5) B 19 (by decide +kernel) (by decide) (fun _ => ?_) (fun _ => ?_)
      · refine aw_aload_n (k0 := 0) B 0 (by decide +kernel) rfl rfl ?_
        refine aw_getr (c := 0) B lkX10_10 (by decide +kernel) rfl (r := 1) rfl ?_
        refine aw_geti (c := 1) B lkX10_167 (by decide +kernel) rfl ?_
        refine aw_cSR B (c_X8_isFor (eLa E) hG (M.1 1 0) M) csX10_220 (Nat.le_of_ble_eq_true rfl) rfl (Nat.le_of_ble_eq_true rfl) (by decide +kernel) rfl (fun x3 => ?_)
        refine aw_if_ne (off := 6) B 35 (by decide +kernel) (by decide) (fun _ => ?_) (fun _ => ?_)
        · refine aw_aload_n (k0 := 0) B 0 (by decide +kernel) rfl rfl ?_
          refine aw_getr (c := 0) B lkX10_33 (by decide +kernel) rfl (r := 14) rfl ?_
          refine aw_aload_n (k0 := 0) B 0 (by decide +kernel) rfl rfl ?_
          refine aw_cVA B (c_X10_tallied (eLa E) hG M) cvX10_171 rfl rfl (Nat.le_of_ble_eq_true rfl) rfl (Nat.le_of_ble_eq_true rfl) (by decide +kernel) rfl (fun M6 => ?_)
          refine aw_iload_n (k0 := 1) B 1 (by decide +kernel) rfl rfl ?_
          refine aw_bipush (n := 10) (v := (10 : Int32)) B (by decide +kernel) (by decide) ?_
          refine aw_idivK B (by decide +kernel) (by decide) ?_
          refine aw_iload_n (k0 := 1) B 1 (by decide +kernel) rfl rfl ?_
          refine aw_bipush (n := 10) (v := (10 : Int32)) B (by decide +kernel) (by decide) ?_
          refine aw_iremK B (by decide +kernel) (by decide) ?_
          refine aw_cVV B (c_X8_begin (eLa E) hG (v1 / (10 : Int32)) (ab_rem v1 (10 : Int32)) M6) cvX10_223 rfl rfl (Nat.le_of_ble_eq_true rfl) rfl (Nat.le_of_ble_eq_true rfl) (by decide +kernel) rfl (fun M8 => ?_)
          refine aw_aload_n (k0 := 0) B 0 (by decide +kernel) rfl rfl ?_
          refine aw_getr (c := 0) B lkX10_33 (by decide +kernel) rfl (r := 14) rfl ?_
          refine aw_cVI B (c_X8_firstKeeping (eLa E) hG M8) cvX10_242 rfl rfl (Nat.le_of_ble_eq_true rfl) rfl (Nat.le_of_ble_eq_true rfl) (by decide +kernel) rfl (fun x9 M10 => ?_)
          refine aw_istore_n (k0 := 3) B [(3, .int x9), (0, .ref 0), (1, .int v1), (2, .int v2)] (by decide +kernel) rfl (Nat.le_of_ble_eq_true rfl) rfl ?_
          refine aw_iload_n (k0 := 3) B 0 (by decide +kernel) rfl rfl ?_
          refine aw_if_ge (off := 6) B 69 (by decide +kernel) (by decide) (fun _ => ?_) (fun _ => ?_)
          · refine aw_iload_n (k0 := 2) B 3 (by decide +kernel) rfl rfl ?_
            refine aw_if_ne (off := 10) B 80 (by decide +kernel) (by decide) (fun _ => ?_) (fun _ => ?_)
            · refine aw_iload_n (k0 := 3) B 0 (by decide +kernel) rfl rfl ?_
              refine aw_bipush (n := 10) (v := (10 : Int32)) B (by decide +kernel) (by decide) ?_
              refine aw_iremK B (by decide +kernel) (by decide) ?_
              exact aw_ireturn B (by decide +kernel) rfl
            · refine aw_iload_n (k0 := 3) B 0 (by decide +kernel) rfl rfl ?_
              refine aw_bipush (n := 10) (v := (10 : Int32)) B (by decide +kernel) (by decide) ?_
              refine aw_idivK B (by decide +kernel) (by decide) ?_
              refine aw_goto (off := 7) B 84 (by decide +kernel) (by decide) ?_
              exact aw_ireturn B (by decide +kernel) rfl
          · refine aw_bipush (n := -2) (v := (-2 : Int32)) B (by decide +kernel) (by decide) ?_
            exact aw_ireturn B (by decide +kernel) rfl
        · refine aw_bipush (n := -5) (v := (-5 : Int32)) B (by decide +kernel) (by decide) ?_
          exact aw_ireturn B (by decide +kernel) rfl
      · refine aw_iconst (n := -1) (v := (-1 : Int32)) B (by decide +kernel) (by decide) ?_
        exact aw_ireturn B (by decide +kernel) rfl
theorem c_X10_next (l : Launch) {G : GW} (hG : ab_ok G) (v1 : Int32) (v2 : Int32) (M : Mem) : AC l G yX10_next cX10_next 4 (some .int) 129 [.ref 0, .int v1, .int v2] M embI (f_X10_next v1 v2 M) := AC.of hG (by decide) (Nat.le_of_ble_eq_true rfl) (fun E hE B => by subst hE; exact w_X10_next hG B v1 v2 M)
def f_X11_next_b135 (k61 : Int32 → Int32 → Int32 → Int32 → Int32 → Mem → Option (Int32 × Mem)) (v2 : Int32) (v4 : Int32) (v5 : Int32) (v6 : Int32) (v7 : Int32) (M : Mem) : Option (Int32 × Mem) := k61 v2 v4 v5 v6 (v7 + 1) M
set_option maxRecDepth 100000 in
set_option maxHeartbeats 4000000 in
theorem w_X11_next_b135 {G : GW} {E : EE} (hG : ab_ok G) {k61 : Int32 → Int32 → Int32 → Int32 → Int32 → Mem → Option (Int32 × Mem)} (B : Bx G E RX11 cX11_next 10 47 (some .int)) (hk61 : ∀ (v2 : Int32) (v4 : Int32) (v5 : Int32) (v6 : Int32) (v7 : Int32) (M : Mem), AWo G E cX11_next 10 (ab_Q G E embI) 61 [(0, .ref 47), (2, .int v2), (4, .int v4), (5, .int v5), (6, .int v6), (7, .int v7)] [] M (k61 v2 v4 v5 v6 v7 M)) (v2 : Int32) (v4 : Int32) (v5 : Int32) (v6 : Int32) (v7 : Int32) (M : Mem) : AWo G E cX11_next 10 (ab_Q G E embI) 135 [(0, .ref 47), (2, .int v2), (4, .int v4), (5, .int v5), (6, .int v6), (7, .int v7)] [] M (f_X11_next_b135 k61 v2 v4 v5 v6 v7 M) := by
  unfold f_X11_next_b135
  refine aw_iinc (i := 7) (n := 1) B 5 [(7, .int (v7 + 1)), (0, .ref 47), (2, .int v2), (4, .int v4), (5, .int v5), (6, .int v6)] (by decide +kernel) rfl (Nat.le_of_ble_eq_true rfl) (v7 + 1) (ab_inc (by decide)) rfl ?_
  refine aw_goto (off := -77) B 61 (by decide +kernel) (by decide) ?_
  exact aw_sub [1, 2, 3, 4, 5, 0] rfl (hk61 _ _ _ _ _ _)
def f_X11_next_L61 (k41 : Int32 → Int32 → Int32 → Int32 → Mem → Option (Int32 × Mem)) : Nat → Int32 → Int32 → Int32 → Int32 → Int32 → Mem → Option (Int32 × Mem)
  | 0, _, _, _, _, _, _ => none
  | n + 1, v2, v4, v5, v6, v7, M => (if (M.1 47 6) ≤ v7 then k41 v2 v4 v5 (v6 + 1) M else (f_X11_those v4 v6 v7 M).bind fun x1 => lt (v4 &&& (x1 ^^^ (-1 : Int32))) fun x3 => (if x1 = 0 then f_X11_next_b135 (fun a0 a1 a2 a3 a4 a5 => f_X11_next_L61 k41 n a0 a1 a2 a3 a4 a5) v2 v4 v5 v6 v7 M else (if x3 = 0 then f_X11_next_b135 (fun a0 a1 a2 a3 a4 a5 => f_X11_next_L61 k41 n a0 a1 a2 a3 a4 a5) v2 v4 v5 v6 v7 M else (f_X11_worstOf FD x1 M).bind fun x4 => (if v5 ≤ x4 then f_X11_next_b135 (fun a0 a1 a2 a3 a4 a5 => f_X11_next_L61 k41 n a0 a1 a2 a3 a4 a5) v2 v4 v5 v6 v7 M else (f_X11_worstOf FD x3 M).bind fun x6 => (if v5 ≤ x6 then f_X11_next_b135 (fun a0 a1 a2 a3 a4 a5 => f_X11_next_L61 k41 n a0 a1 a2 a3 a4 a5) v2 v4 v5 v6 v7 M else (if v2 = 0 then (some (v6, M)) else (some (v7, M))))))))
set_option maxRecDepth 100000 in
set_option maxHeartbeats 4000000 in
theorem w_X11_next_L61 {G : GW} {E : EE} (hG : ab_ok G) {k41 : Int32 → Int32 → Int32 → Int32 → Mem → Option (Int32 × Mem)} (B : Bx G E RX11 cX11_next 10 47 (some .int)) (hk41 : ∀ (v2 : Int32) (v4 : Int32) (v5 : Int32) (v6 : Int32) (M : Mem), AWo G E cX11_next 10 (ab_Q G E embI) 41 [(0, .ref 47), (2, .int v2), (4, .int v4), (5, .int v5), (6, .int v6)] [] M (k41 v2 v4 v5 v6 M)) : ∀ (n : Nat) (v2 : Int32) (v4 : Int32) (v5 : Int32) (v6 : Int32) (v7 : Int32) (M : Mem), AWo G E cX11_next 10 (ab_Q G E embI) 61 [(0, .ref 47), (2, .int v2), (4, .int v4), (5, .int v5), (6, .int v6), (7, .int v7)] [] M (f_X11_next_L61 k41 n v2 v4 v5 v6 v7 M) := by
  intro n
  induction n with
  | zero => intro _ _ _ _ _ _; exact aw_none
  | succ n ih =>
    intro v2 v4 v5 v6 v7 M
    rw [f_X11_next_L61]
    refine aw_iload (i := 7) B 5 (by decide +kernel) rfl ?_
    refine aw_aload_n (k0 := 0) B 0 (by decide +kernel) rfl rfl ?_
    refine aw_geti (c := 47) B lkX11_109 (by decide +kernel) rfl ?_
    refine aw_icmp_ge (off := 74) B 141 (by decide +kernel) (by decide) (fun _ => ?_) (fun _ => ?_)
    · refine aw_iinc (i := 6) (n := 1) B 4 [(6, .int (v6 + 1)), (0, .ref 47), (2, .int v2), (4, .int v4), (5, .int v5), (7, .int v7)] (by decide +kernel) rfl (Nat.le_of_ble_eq_true rfl) (v6 + 1) (ab_inc (by decide)) rfl ?_
      refine aw_goto (off := -103) B 41 (by decide +kernel) (by decide) ?_
      exact aw_sub [1, 2, 3, 4, 0] rfl (hk41 _ _ _ _ _)
    · refine aw_aload_n (k0 := 0) B 0 (by decide +kernel) rfl rfl ?_
      refine aw_iload (i := 4) B 2 (by decide +kernel) rfl ?_
      refine aw_iload (i := 6) B 4 (by decide +kernel) rfl ?_
      refine aw_iload (i := 7) B 5 (by decide +kernel) rfl ?_
      refine aw_cVR B (c_X11_those (eLa E) hG v4 v6 v7 M) cvX11_267 rfl rfl (Nat.le_of_ble_eq_true rfl) rfl (Nat.le_of_ble_eq_true rfl) (by decide +kernel) rfl (fun x1 => ?_)
      refine aw_istore (i := 8) B [(8, .int x1), (0, .ref 47), (2, .int v2), (4, .int v4), (5, .int v5), (6, .int v6), (7, .int v7)] (by decide +kernel) (Nat.le_of_ble_eq_true rfl) rfl ?_
      refine aw_iload (i := 4) B 3 (by decide +kernel) rfl ?_
      refine aw_iload (i := 8) B 0 (by decide +kernel) rfl ?_
      refine aw_iconst (n := -1) (v := (-1 : Int32)) B (by decide +kernel) (by decide) ?_
      refine aw_ixor B (by decide +kernel) ?_
      refine aw_iand B (by decide +kernel) ?_
      refine aw_ltI (fun x3 => ?_)
      refine aw_istore (i := 9) B [(9, .int x3), (8, .int x1), (0, .ref 47), (2, .int v2), (4, .int v4), (5, .int v5), (6, .int v6), (7, .int v7)] (by decide +kernel) (Nat.le_of_ble_eq_true rfl) rfl ?_
      refine aw_iload (i := 8) B 1 (by decide +kernel) rfl ?_
      refine aw_if_eq (off := 42) B 135 (by decide +kernel) (by decide) (fun _ => ?_) (fun _ => ?_)
      · exact aw_sub [2, 3, 4, 5, 6, 7] rfl (w_X11_next_b135 hG B ih _ _ _ _ _ _)
      · refine aw_iload (i := 9) B 0 (by decide +kernel) rfl ?_
        refine aw_if_eq (off := 37) B 135 (by decide +kernel) (by decide) (fun _ => ?_) (fun _ => ?_)
        · exact aw_sub [2, 3, 4, 5, 6, 7] rfl (w_X11_next_b135 hG B ih _ _ _ _ _ _)
        · refine aw_aload_n (k0 := 0) B 2 (by decide +kernel) rfl rfl ?_
          refine aw_iload (i := 8) B 1 (by decide +kernel) rfl ?_
          refine aw_cVR B (c_X11_worstOf (eLa E) hG FD x1 M) cvX11_270 rfl rfl (Nat.le_of_ble_eq_true rfl) rfl (Nat.le_of_ble_eq_true rfl) (by decide +kernel) rfl (fun x4 => ?_)
          refine aw_iload (i := 5) B 5 (by decide +kernel) rfl ?_
          refine aw_icmp_ge (off := 26) B 135 (by decide +kernel) (by decide) (fun _ => ?_) (fun _ => ?_)
          · exact aw_sub [2, 3, 4, 5, 6, 7] rfl (w_X11_next_b135 hG B ih _ _ _ _ _ _)
          · refine aw_aload_n (k0 := 0) B 2 (by decide +kernel) rfl rfl ?_
            refine aw_iload (i := 9) B 0 (by decide +kernel) rfl ?_
            refine aw_cVR B (c_X11_worstOf (eLa E) hG FD x3 M) cvX11_270 rfl rfl (Nat.le_of_ble_eq_true rfl) rfl (Nat.le_of_ble_eq_true rfl) (by decide +kernel) rfl (fun x6 => ?_)
            refine aw_iload (i := 5) B 5 (by decide +kernel) rfl ?_
            refine aw_icmp_ge (off := 15) B 135 (by decide +kernel) (by decide) (fun _ => ?_) (fun _ => ?_)
            · exact aw_sub [2, 3, 4, 5, 6, 7] rfl (w_X11_next_b135 hG B ih _ _ _ _ _ _)
            · refine aw_iload_n (k0 := 2) B 3 (by decide +kernel) rfl rfl ?_
              refine aw_if_ne (off := 8) B 132 (by decide +kernel) (by decide) (fun _ => ?_) (fun _ => ?_)
              · refine aw_iload (i := 7) B 7 (by decide +kernel) rfl ?_
                exact aw_ireturn B (by decide +kernel) rfl
              · refine aw_iload (i := 6) B 6 (by decide +kernel) rfl ?_
                refine aw_goto (off := 5) B 134 (by decide +kernel) (by decide) ?_
                exact aw_ireturn B (by decide +kernel) rfl
def f_X11_next_L41 : Nat → Int32 → Int32 → Int32 → Int32 → Mem → Option (Int32 × Mem)
  | 0, _, _, _, _, _ => none
  | n + 1, v2, v4, v5, v6, M => (if (M.1 47 6) ≤ v6 then (some ((-2 : Int32), M)) else (if v5 ≤ 0 then (some ((-2 : Int32), M)) else lt (v6 + (1 : Int32)) fun x1 => f_X11_next_L61 (fun a0 a1 a2 a3 a4 => f_X11_next_L41 n a0 a1 a2 a3 a4) FU v2 v4 v5 v6 x1 M))
set_option maxRecDepth 100000 in
set_option maxHeartbeats 4000000 in
theorem w_X11_next_L41 {G : GW} {E : EE} (hG : ab_ok G) (B : Bx G E RX11 cX11_next 10 47 (some .int)) : ∀ (n : Nat) (v2 : Int32) (v4 : Int32) (v5 : Int32) (v6 : Int32) (M : Mem), AWo G E cX11_next 10 (ab_Q G E embI) 41 [(0, .ref 47), (2, .int v2), (4, .int v4), (5, .int v5), (6, .int v6)] [] M (f_X11_next_L41 n v2 v4 v5 v6 M) := by
  intro n
  induction n with
  | zero => intro _ _ _ _ _; exact aw_none
  | succ n ih =>
    intro v2 v4 v5 v6 M
    rw [f_X11_next_L41]
    refine aw_iload (i := 6) B 4 (by decide +kernel) rfl ?_
    refine aw_aload_n (k0 := 0) B 0 (by decide +kernel) rfl rfl ?_
    refine aw_geti (c := 47) B lkX11_109 (by decide +kernel) rfl ?_
    refine aw_icmp_ge (off := 100) B 147 (by decide +kernel) (by decide) (fun _ => ?_) (fun _ => ?_)
    · refine aw_bipush (n := -2) (v := (-2 : Int32)) B (by decide +kernel) (by decide) ?_
      exact aw_ireturn B (by decide +kernel) rfl
    · refine aw_iload (i := 5) B 3 (by decide +kernel) rfl ?_
      refine aw_if_le (off := 95) B 147 (by decide +kernel) (by decide) (fun _ => ?_) (fun _ => ?_)
      · refine aw_bipush (n := -2) (v := (-2 : Int32)) B (by decide +kernel) (by decide) ?_
        exact aw_ireturn B (by decide +kernel) rfl
      · refine aw_iload (i := 6) B 4 (by decide +kernel) rfl ?_
        refine aw_iconst (n := 1) (v := (1 : Int32)) B (by decide +kernel) (by decide) ?_
        refine aw_iadd B (by decide +kernel) ?_
        refine aw_ltI (fun x1 => ?_)
        refine aw_istore (i := 7) B [(7, .int x1), (0, .ref 47), (2, .int v2), (4, .int v4), (5, .int v5), (6, .int v6)] (by decide +kernel) (Nat.le_of_ble_eq_true rfl) rfl ?_
        exact aw_sub [1, 2, 3, 4, 5, 0] rfl (w_X11_next_L61 hG B ih FU _ _ _ _ _ _)
def f_X11_next (v1 : Int32) (v2 : Int32) (M : Mem) : Option (Int32 × Mem) := (f_X11_within v2.toInt64 (0 : Int64) (1 : Int64)).bind fun x1 => (if x1 = 0 then (some ((-1 : Int32), M)) else bI (f_X11_gathers v1 M) fun x3 M4 => (if 0 ≤ x3 then (f_X11_allOrders M4).bind fun x5 => (f_X11_worstOf FD x5 M4).bind fun x7 => f_X11_next_L41 FU v2 x5 x7 (0 : Int32) M4 else (some (x3, M4))))
set_option maxRecDepth 100000 in
set_option maxHeartbeats 4000000 in
theorem w_X11_next {G : GW} {E : EE} (hG : ab_ok G) (B : Bx G E RX11 cX11_next 10 47 (some .int)) (v1 : Int32) (v2 : Int32) (M : Mem) : AWo G E cX11_next 10 (ab_Q G E embI) 0 [(0, .ref 47), (1, .int v1), (2, .int v2)] [] M (f_X11_next v1 v2 M) := by
  unfold f_X11_next
  refine aw_iload_n (k0 := 2) B 2 (by decide +kernel) rfl rfl ?_
  refine aw_i2l B (by decide +kernel) ?_
  refine aw_lconst (n := 0) (v := (0 : Int64)) B (by decide +kernel) (by decide) ?_
  refine aw_lconst (n := 1) (v := (1 : Int64)) B (by decide +kernel) (by decide) ?_
  refine aw_cSR B (c_X11_within (eLa E) hG v2.toInt64 (0 : Int64) (1 : Int64) M) csX11_112 (Nat.le_of_ble_eq_true rfl) rfl (Nat.le_of_ble_eq_true rfl) (by decide +kernel) rfl (fun x1 => ?_)
  refine aw_if_ne (off := 5) B 12 (by decide +kernel) (by decide) (fun _ => ?_) (fun _ => ?_)
  · refine aw_aload_n (k0 := 0) B 0 (by decide +kernel) rfl rfl ?_
    refine aw_iload_n (k0 := 1) B 1 (by decide +kernel) rfl rfl ?_
    refine aw_cVI B (c_X11_gathers (eLa E) hG v1 M) cvX11_276 rfl rfl (Nat.le_of_ble_eq_true rfl) rfl (Nat.le_of_ble_eq_true rfl) (by decide +kernel) rfl (fun x3 M4 => ?_)
    refine aw_istore_n (k0 := 3) B [(3, .int x3), (0, .ref 47), (1, .int v1), (2, .int v2)] (by decide +kernel) rfl (Nat.le_of_ble_eq_true rfl) rfl ?_
    refine aw_iload_n (k0 := 3) B 0 (by decide +kernel) rfl rfl ?_
    refine aw_if_ge (off := 5) B 24 (by decide +kernel) (by decide) (fun _ => ?_) (fun _ => ?_)
    · refine aw_aload_n (k0 := 0) B 1 (by decide +kernel) rfl rfl ?_
      refine aw_cVR B (c_X11_allOrders (eLa E) hG M4) cvX11_279 rfl rfl (Nat.le_of_ble_eq_true rfl) rfl (Nat.le_of_ble_eq_true rfl) (by decide +kernel) rfl (fun x5 => ?_)
      refine aw_istore (i := 4) B [(4, .int x5), (3, .int x3), (0, .ref 47), (1, .int v1), (2, .int v2)] (by decide +kernel) (Nat.le_of_ble_eq_true rfl) rfl ?_
      refine aw_aload_n (k0 := 0) B 2 (by decide +kernel) rfl rfl ?_
      refine aw_iload (i := 4) B 0 (by decide +kernel) rfl ?_
      refine aw_cVR B (c_X11_worstOf (eLa E) hG FD x5 M4) cvX11_270 rfl rfl (Nat.le_of_ble_eq_true rfl) rfl (Nat.le_of_ble_eq_true rfl) (by decide +kernel) rfl (fun x7 => ?_)
      refine aw_istore (i := 5) B [(5, .int x7), (4, .int x5), (3, .int x3), (0, .ref 47), (1, .int v1), (2, .int v2)] (by decide +kernel) (Nat.le_of_ble_eq_true rfl) rfl ?_
      refine aw_iconst (n := 0) (v := (0 : Int32)) B (by decide +kernel) (by decide) ?_
      refine aw_istore (i := 6) B [(6, .int (0 : Int32)), (5, .int x7), (4, .int x5), (3, .int x3), (0, .ref 47), (1, .int v1), (2, .int v2)] (by decide +kernel) (Nat.le_of_ble_eq_true rfl) rfl ?_
      exact aw_sub [4, 6, 2, 1, 0] rfl (w_X11_next_L41 hG B FU _ _ _ _ _)
    · refine aw_iload_n (k0 := 3) B 0 (by decide +kernel) rfl rfl ?_
      exact aw_ireturn B (by decide +kernel) rfl
  · refine aw_iconst (n := -1) (v := (-1 : Int32)) B (by decide +kernel) (by decide) ?_
    exact aw_ireturn B (by decide +kernel) rfl
theorem c_X11_next (l : Launch) {G : GW} (hG : ab_ok G) (v1 : Int32) (v2 : Int32) (M : Mem) : AC l G yX11_next cX11_next 10 (some .int) 47 [.ref 47, .int v1, .int v2] M embI (f_X11_next v1 v2 M) := AC.of hG (by decide) (Nat.le_of_ble_eq_true rfl) (fun E hE B => by subst hE; exact w_X11_next hG B v1 v2 M)
def f_X10_longest (v1 : Int32) (M : Mem) : Option (Int32 × Mem) := (f_X4_isPair v1 M).bind fun x1 => (if x1 = 0 then (some ((-1 : Int32), M)) else lt (v1 / (10 : Int32)) fun x3 => lt (ab_rem v1 (10 : Int32)) fun x4 => (f_X10_tallied M).bind fun M6 => (f_X7_all_11 M6).bind fun x7 => (if x7 = 0 then (some ((-2 : Int32), M6)) else (f_X7_add x3 x4 M6).bind fun M10 => (f_X7_tally_11 M10).bind fun M12 => (f_X7_all_11 M12).bind fun x13 => lt (x7 - x13) fun x15 => (if x13 = x15 then (some (ab_min x3 x4, M12)) else (if x13 ≤ x15 then (some (x4, M12)) else (some (x3, M12))))))
set_option maxRecDepth 100000 in
set_option maxHeartbeats 4000000 in
theorem w_X10_longest {G : GW} {E : EE} (hG : ab_ok G) (B : Bx G E RX10 cX10_longest 7 6 (some .int)) (v1 : Int32) (M : Mem) : AWo G E cX10_longest 7 (ab_Q G E embI) 0 [(0, .ref 0), (1, .int v1)] [] M (f_X10_longest v1 M) := by
  unfold f_X10_longest
  refine aw_aload_n (k0 := 0) B 0 (by decide +kernel) rfl rfl ?_
  refine aw_getr (c := 0) B lkX10_10 (by decide +kernel) rfl (r := 1) rfl ?_
  refine aw_iload_n (k0 := 1) B 1 (by decide +kernel) rfl rfl ?_
  refine aw_cVR B (c_X4_isPair (eLa E) hG v1 M) cvX10_87 rfl rfl (Nat.le_of_ble_eq_true rfl) rfl (Nat.le_of_ble_eq_true rfl) (by decide +kernel) rfl (fun x1 => ?_)
  refine aw_if_ne (off := 5) B 13 (by decide +kernel) (by decide) (fun _ => ?_) (fun _ => ?_)
  · refine aw_iload_n (k0 := 1) B 1 (by decide +kernel) rfl rfl ?_
    refine aw_bipush (n := 10) (v := (10 : Int32)) B (by decide +kernel) (by decide) ?_
    refine aw_idivK B (by decide +kernel) (by decide) ?_
    refine aw_ltI (fun x3 => ?_)
    refine aw_istore_n (k0 := 2) B [(2, .int x3), (0, .ref 0), (1, .int v1)] (by decide +kernel) rfl (Nat.le_of_ble_eq_true rfl) rfl ?_
    refine aw_iload_n (k0 := 1) B 2 (by decide +kernel) rfl rfl ?_
    refine aw_bipush (n := 10) (v := (10 : Int32)) B (by decide +kernel) (by decide) ?_
    refine aw_iremK B (by decide +kernel) (by decide) ?_
    refine aw_ltI (fun x4 => ?_)
    refine aw_istore_n (k0 := 3) B [(3, .int x4), (2, .int x3), (0, .ref 0), (1, .int v1)] (by decide +kernel) rfl (Nat.le_of_ble_eq_true rfl) rfl ?_
    refine aw_aload_n (k0 := 0) B 2 (by decide +kernel) rfl rfl ?_
    refine aw_cVA B (c_X10_tallied (eLa E) hG M) cvX10_171 rfl rfl (Nat.le_of_ble_eq_true rfl) rfl (Nat.le_of_ble_eq_true rfl) (by decide +kernel) rfl (fun M6 => ?_)
    refine aw_cVR B (c_X7_all_11 (eLa E) hG M6) cvX10_175 rfl rfl (Nat.le_of_ble_eq_true rfl) rfl (Nat.le_of_ble_eq_true rfl) (by decide +kernel) rfl (fun x7 => ?_)
    refine aw_istore (i := 4) B [(4, .int x7), (3, .int x4), (2, .int x3), (0, .ref 0), (1, .int v1)] (by decide +kernel) (Nat.le_of_ble_eq_true rfl) rfl ?_
    refine aw_iload (i := 4) B 0 (by decide +kernel) rfl ?_
    refine aw_if_ne (off := 6) B 40 (by decide +kernel) (by decide) (fun _ => ?_) (fun _ => ?_)
    · refine aw_aload_n (k0 := 0) B 3 (by decide +kernel) rfl rfl ?_
      refine aw_getr (c := 0) B lkX10_26 (by decide +kernel) rfl (r := 11) rfl ?_
      refine aw_iload_n (k0 := 2) B 2 (by decide +kernel) rfl rfl ?_
      refine aw_iload_n (k0 := 3) B 1 (by decide +kernel) rfl rfl ?_
      refine aw_cVV B (c_X7_add (eLa E) hG x3 x4 M6) cvX10_245 rfl rfl (Nat.le_of_ble_eq_true rfl) rfl (Nat.le_of_ble_eq_true rfl) (by decide +kernel) rfl (fun M10 => ?_)
      refine aw_aload_n (k0 := 0) B 3 (by decide +kernel) rfl rfl ?_
      refine aw_getr (c := 0) B lkX10_26 (by decide +kernel) rfl (r := 11) rfl ?_
      refine aw_cVV B (c_X7_tally_11 (eLa E) hG M10) cvX10_205 rfl rfl (Nat.le_of_ble_eq_true rfl) rfl (Nat.le_of_ble_eq_true rfl) (by decide +kernel) rfl (fun M12 => ?_)
      refine aw_aload_n (k0 := 0) B 3 (by decide +kernel) rfl rfl ?_
      refine aw_getr (c := 0) B lkX10_26 (by decide +kernel) rfl (r := 11) rfl ?_
      refine aw_cVR B (c_X7_all_11 (eLa E) hG M12) cvX10_175 rfl rfl (Nat.le_of_ble_eq_true rfl) rfl (Nat.le_of_ble_eq_true rfl) (by decide +kernel) rfl (fun x13 => ?_)
      refine aw_istore (i := 5) B [(5, .int x13), (4, .int x7), (3, .int x4), (2, .int x3), (0, .ref 0), (1, .int v1)] (by decide +kernel) (Nat.le_of_ble_eq_true rfl) rfl ?_
      refine aw_iload (i := 4) B 1 (by decide +kernel) rfl ?_
      refine aw_iload (i := 5) B 0 (by decide +kernel) rfl ?_
      refine aw_isub B (by decide +kernel) ?_
      refine aw_ltI (fun x15 => ?_)
      refine aw_istore (i := 6) B [(6, .int x15), (5, .int x13), (4, .int x7), (3, .int x4), (2, .int x3), (0, .ref 0), (1, .int v1)] (by decide +kernel) (Nat.le_of_ble_eq_true rfl) rfl ?_
      refine aw_iload (i := 5) B 1 (by decide +kernel) rfl ?_
      refine aw_iload (i := 6) B 0 (by decide +kernel) rfl ?_
      refine aw_icmp_ne (off := 9) B 85 (by decide +kernel) (by decide) (fun _ => ?_) (fun _ => ?_)
      · refine aw_iload (i := 5) B 1 (by decide +kernel) rfl ?_
        refine aw_iload (i := 6) B 0 (by decide +kernel) rfl ?_
        refine aw_icmp_le (off := 7) B 96 (by decide +kernel) (by decide) (fun _ => ?_) (fun _ => ?_)
        · refine aw_iload_n (k0 := 3) B 3 (by decide +kernel) rfl rfl ?_
          exact aw_ireturn B (by decide +kernel) rfl
        · refine aw_iload_n (k0 := 2) B 4 (by decide +kernel) rfl rfl ?_
          refine aw_goto (off := 4) B 97 (by decide +kernel) (by decide) ?_
          exact aw_ireturn B (by decide +kernel) rfl
      · refine aw_iload_n (k0 := 2) B 4 (by decide +kernel) rfl rfl ?_
        refine aw_iload_n (k0 := 3) B 3 (by decide +kernel) rfl rfl ?_
        refine aw_min B lxX10_248 (by decide +kernel) (Nat.le_of_ble_eq_true rfl) (Nat.le_of_ble_eq_true rfl) ?_
        exact aw_ireturn B (by decide +kernel) rfl
    · refine aw_bipush (n := -2) (v := (-2 : Int32)) B (by decide +kernel) (by decide) ?_
      exact aw_ireturn B (by decide +kernel) rfl
  · refine aw_iconst (n := -1) (v := (-1 : Int32)) B (by decide +kernel) (by decide) ?_
    exact aw_ireturn B (by decide +kernel) rfl
theorem c_X10_longest (l : Launch) {G : GW} (hG : ab_ok G) (v1 : Int32) (M : Mem) : AC l G yX10_longest cX10_longest 7 (some .int) 6 [.ref 0, .int v1] M embI (f_X10_longest v1 M) := AC.of hG (by decide) (Nat.le_of_ble_eq_true rfl) (fun E hE B => by subst hE; exact w_X10_longest hG B v1 M)
def f_X11_longest_b55 (v1 : Int32) (s0 : Int32) (M : Mem) : Option (Int32 × Mem) := lt (((v1 / (10 : Int32)) + (ab_rem v1 (10 : Int32))) - s0) fun x1 => (if (M.1 47 22) = 0 then (some ((-2 : Int32), M)) else ck (okI 61 (((8 : Int32) * s0) + x1)) (ck (okI 61 (((8 : Int32) * x1) + s0)) ((if (M.1 61 (((8 : Int32) * s0) + x1).toNatClampNeg) < (M.1 61 (((8 : Int32) * x1) + s0).toNatClampNeg) then (some (x1, M)) else (some (s0, M))))))
set_option maxRecDepth 100000 in
set_option maxHeartbeats 4000000 in
theorem w_X11_longest_b55 {G : GW} {E : EE} (hG : ab_ok G) (B : Bx G E RX11 cX11_longest 4 46 (some .int)) (v1 : Int32) (s0 : Int32) (M : Mem) : AWo G E cX11_longest 4 (ab_Q G E embI) 55 [(0, .ref 47), (1, .int v1)] [.int s0] M (f_X11_longest_b55 v1 s0 M) := by
  unfold f_X11_longest_b55
  refine aw_istore_n (k0 := 2) B [(2, .int s0), (0, .ref 47), (1, .int v1)] (by decide +kernel) rfl (Nat.le_of_ble_eq_true rfl) rfl ?_
  refine aw_iload_n (k0 := 1) B 2 (by decide +kernel) rfl rfl ?_
  refine aw_bipush (n := 10) (v := (10 : Int32)) B (by decide +kernel) (by decide) ?_
  refine aw_idivK B (by decide +kernel) (by decide) ?_
  refine aw_iload_n (k0 := 1) B 2 (by decide +kernel) rfl rfl ?_
  refine aw_bipush (n := 10) (v := (10 : Int32)) B (by decide +kernel) (by decide) ?_
  refine aw_iremK B (by decide +kernel) (by decide) ?_
  refine aw_iadd B (by decide +kernel) ?_
  refine aw_iload_n (k0 := 2) B 0 (by decide +kernel) rfl rfl ?_
  refine aw_isub B (by decide +kernel) ?_
  refine aw_ltI (fun x1 => ?_)
  refine aw_istore_n (k0 := 3) B [(3, .int x1), (2, .int s0), (0, .ref 47), (1, .int v1)] (by decide +kernel) rfl (Nat.le_of_ble_eq_true rfl) rfl ?_
  refine aw_aload_n (k0 := 0) B 2 (by decide +kernel) rfl rfl ?_
  refine aw_geti (c := 47) B lkX11_225 (by decide +kernel) rfl ?_
  refine aw_if_ne (off := 8) B 80 (by decide +kernel) (by decide) (fun _ => ?_) (fun _ => ?_)
  · refine aw_aload_n (k0 := 0) B 2 (by decide +kernel) rfl rfl ?_
    refine aw_getr (c := 47) B lkX11_49 (by decide +kernel) rfl (r := 61) rfl ?_
    refine aw_bipush (n := 8) (v := (8 : Int32)) B (by decide +kernel) (by decide) ?_
    refine aw_iload_n (k0 := 2) B 1 (by decide +kernel) rfl rfl ?_
    refine aw_imul B (by decide +kernel) ?_
    refine aw_iload_n (k0 := 3) B 0 (by decide +kernel) rfl rfl ?_
    refine aw_iadd B (by decide +kernel) ?_
    refine aw_iaload B (by decide +kernel) ?_
    refine aw_aload_n (k0 := 0) B 2 (by decide +kernel) rfl rfl ?_
    refine aw_getr (c := 47) B lkX11_49 (by decide +kernel) rfl (r := 61) rfl ?_
    refine aw_bipush (n := 8) (v := (8 : Int32)) B (by decide +kernel) (by decide) ?_
    refine aw_iload_n (k0 := 3) B 0 (by decide +kernel) rfl rfl ?_
    refine aw_imul B (by decide +kernel) ?_
    refine aw_iload_n (k0 := 2) B 1 (by decide +kernel) rfl rfl ?_
    refine aw_iadd B (by decide +kernel) ?_
    refine aw_iaload B (by decide +kernel) ?_
    refine aw_icmp_lt (off := 7) B 109 (by decide +kernel) (by decide) (fun _ => ?_) (fun _ => ?_)
    · refine aw_iload_n (k0 := 3) B 0 (by decide +kernel) rfl rfl ?_
      exact aw_ireturn B (by decide +kernel) rfl
    · refine aw_iload_n (k0 := 2) B 1 (by decide +kernel) rfl rfl ?_
      refine aw_goto (off := 4) B 110 (by decide +kernel) (by decide) ?_
      exact aw_ireturn B (by decide +kernel) rfl
  · refine aw_bipush (n := -2) (v := (-2 : Int32)) B (by decide +kernel) (by decide) ?_
    refine aw_goto (off := 33) B 110 (by decide +kernel) (by decide) ?_
    exact aw_ireturn B (by decide +kernel) rfl
def f_X11_longest (v1 : Int32) (M : Mem) : Option (Int32 × Mem) := (if v1 < 0 then (some ((-1 : Int32), M)) else (f_X11_areTwo ((v1 / (10 : Int32)).toInt64) ((ab_rem v1 (10 : Int32)).toInt64) M).bind fun x1 => (if x1 = 0 then (some ((-1 : Int32), M)) else (f_X11_allThatCount M).bind fun x3 => (f_X11_goesThrough x3 (-1 : Int32) (0 : Int32) M).bind fun M6 => (if (ab_rem v1 (10 : Int32)) ≤ (v1 / (10 : Int32)) then f_X11_longest_b55 v1 (ab_rem v1 (10 : Int32)) M6 else f_X11_longest_b55 v1 (v1 / (10 : Int32)) M6)))
set_option maxRecDepth 100000 in
set_option maxHeartbeats 4000000 in
theorem w_X11_longest {G : GW} {E : EE} (hG : ab_ok G) (B : Bx G E RX11 cX11_longest 4 46 (some .int)) (v1 : Int32) (M : Mem) : AWo G E cX11_longest 4 (ab_Q G E embI) 0 [(0, .ref 47), (1, .int v1)] [] M (f_X11_longest v1 M) := by
  unfold f_X11_longest
  refine aw_iload_n (k0 := 1) B 1 (by decide +kernel) rfl rfl ?_
  refine aw_if_lt (off := 20) B 21 (by decide +kernel) (by decide) (fun _ => ?_) (fun _ => ?_)
  · refine aw_iconst (n := -1) (v := (-1 : Int32)) B (by decide +kernel) (by decide) ?_
    exact aw_ireturn B (by decide +kernel) rfl
  · refine aw_aload_n (k0 := 0) B 0 (by decide +kernel) rfl rfl ?_
    refine aw_iload_n (k0 := 1) B 1 (by decide +kernel) rfl rfl ?_
    refine aw_bipush (n := 10) (v := (10 : Int32)) B (by decide +kernel) (by decide) ?_
    refine aw_idivK B (by decide +kernel) (by decide) ?_
    refine aw_i2l B (by decide +kernel) ?_
    refine aw_iload_n (k0 := 1) B 1 (by decide +kernel) rfl rfl ?_
    refine aw_bipush (n := 10) (v := (10 : Int32)) B (by decide +kernel) (by decide) ?_
    refine aw_iremK B (by decide +kernel) (by decide) ?_
    refine aw_i2l B (by decide +kernel) ?_
    refine aw_cVR B (c_X11_areTwo (eLa E) hG ((v1 / (10 : Int32)).toInt64) ((ab_rem v1 (10 : Int32)).toInt64) M) cvX11_121 rfl rfl (Nat.le_of_ble_eq_true rfl) rfl (Nat.le_of_ble_eq_true rfl) (by decide +kernel) rfl (fun x1 => ?_)
    refine aw_if_ne (off := 5) B 23 (by decide +kernel) (by decide) (fun _ => ?_) (fun _ => ?_)
    · refine aw_aload_n (k0 := 0) B 0 (by decide +kernel) rfl rfl ?_
      refine aw_aload_n (k0 := 0) B 0 (by decide +kernel) rfl rfl ?_
      refine aw_cVR B (c_X11_allThatCount (eLa E) hG M) cvX11_248 rfl rfl (Nat.le_of_ble_eq_true rfl) rfl (Nat.le_of_ble_eq_true rfl) (by decide +kernel) rfl (fun x3 => ?_)
      refine aw_iconst (n := -1) (v := (-1 : Int32)) B (by decide +kernel) (by decide) ?_
      refine aw_iconst (n := 0) (v := (0 : Int32)) B (by decide +kernel) (by decide) ?_
      refine aw_cVV B (c_X11_goesThrough (eLa E) hG x3 (-1 : Int32) (0 : Int32) M) cvX11_251 rfl rfl (Nat.le_of_ble_eq_true rfl) rfl (Nat.le_of_ble_eq_true rfl) (by decide +kernel) rfl (fun M6 => ?_)
      refine aw_iload_n (k0 := 1) B 1 (by decide +kernel) rfl rfl ?_
      refine aw_bipush (n := 10) (v := (10 : Int32)) B (by decide +kernel) (by decide) ?_
      refine aw_idivK B (by decide +kernel) (by decide) ?_
      refine aw_iload_n (k0 := 1) B 1 (by decide +kernel) rfl rfl ?_
      refine aw_bipush (n := 10) (v := (10 : Int32)) B (by decide +kernel) (by decide) ?_
      refine aw_iremK B (by decide +kernel) (by decide) ?_
      refine aw_icmp_ge (off := 10) B 51 (by decide +kernel) (by decide) (fun _ => ?_) (fun _ => ?_)
      · refine aw_iload_n (k0 := 1) B 1 (by decide +kernel) rfl rfl ?_
        refine aw_bipush (n := 10) (v := (10 : Int32)) B (by decide +kernel) (by decide) ?_
        refine aw_iremK B (by decide +kernel) (by decide) ?_
        exact w_X11_longest_b55 hG B _ _ _
      · refine aw_iload_n (k0 := 1) B 1 (by decide +kernel) rfl rfl ?_
        refine aw_bipush (n := 10) (v := (10 : Int32)) B (by decide +kernel) (by decide) ?_
        refine aw_idivK B (by decide +kernel) (by decide) ?_
        refine aw_goto (off := 7) B 55 (by decide +kernel) (by decide) ?_
        exact w_X11_longest_b55 hG B _ _ _
    · refine aw_iconst (n := -1) (v := (-1 : Int32)) B (by decide +kernel) (by decide) ?_
      exact aw_ireturn B (by decide +kernel) rfl
theorem c_X11_longest (l : Launch) {G : GW} (hG : ab_ok G) (v1 : Int32) (M : Mem) : AC l G yX11_longest cX11_longest 4 (some .int) 46 [.ref 47, .int v1] M embI (f_X11_longest v1 M) := AC.of hG (by decide) (Nat.le_of_ble_eq_true rfl) (fun E hE B => by subst hE; exact w_X11_longest hG B v1 M)
def f_X5_pop (M : Mem) : Option (Int32 × Mem) := (if (M.1 22 9) = 0 then (some ((0 : Int32), M)) else lt (wI M 22 9 ((M.1 22 9) - (1 : Int32))) fun M1 => ck (okI 26 (M1.1 22 9)) ((some (M1.1 26 (M1.1 22 9).toNatClampNeg, M1))))
set_option maxRecDepth 100000 in
set_option maxHeartbeats 4000000 in
theorem w_X5_pop {G : GW} {E : EE} (hG : ab_ok G) (B : Bx G E RX5 cX5_pop 1 2 (some .int)) (M : Mem) : AWo G E cX5_pop 1 (ab_Q G E embI) 0 [(0, .ref 22)] [] M (f_X5_pop M) := by
  unfold f_X5_pop
  refine aw_aload_n (k0 := 0) B 0 (by decide +kernel) rfl rfl ?_
  refine aw_geti (c := 22) B lkX5_115 (by decide +kernel) rfl ?_
  refine aw_if_ne (off := 5) B 9 (by decide +kernel) (by decide) (fun _ => ?_) (fun _ => ?_)
  · refine aw_aload_n (k0 := 0) B 0 (by decide +kernel) rfl rfl ?_
    refine aw_dup B (by decide +kernel) rfl ?_
    refine aw_geti (c := 22) B lkX5_115 (by decide +kernel) rfl ?_
    refine aw_iconst (n := 1) (v := (1 : Int32)) B (by decide +kernel) (by decide) ?_
    refine aw_isub B (by decide +kernel) ?_
    refine aw_puti (c := 22) B lkX5_115 lp5_9 (by decide +kernel) rfl (fun M1 => ?_)
    refine aw_aload_n (k0 := 0) B 0 (by decide +kernel) rfl rfl ?_
    refine aw_getr (c := 22) B lkX5_21 (by decide +kernel) rfl (r := 26) rfl ?_
    refine aw_aload_n (k0 := 0) B 0 (by decide +kernel) rfl rfl ?_
    refine aw_geti (c := 22) B lkX5_115 (by decide +kernel) rfl ?_
    refine aw_iaload B (by decide +kernel) ?_
    exact aw_ireturn B (by decide +kernel) rfl
  · refine aw_iconst (n := 0) (v := (0 : Int32)) B (by decide +kernel) (by decide) ?_
    exact aw_ireturn B (by decide +kernel) rfl
theorem c_X5_pop (l : Launch) {G : GW} (hG : ab_ok G) (M : Mem) : AC l G yX5_pop cX5_pop 1 (some .int) 2 [.ref 22] M embI (f_X5_pop M) := AC.of hG (by decide) (Nat.le_of_ble_eq_true rfl) (fun E hE B => by subst hE; exact w_X5_pop hG B M)
def f_X5_push (v1 : Int32) (M : Mem) : Option Mem := (if (121 : Int32) ≤ (M.1 22 9) then (some M) else ck (okI 26 (M.1 22 9)) (lt (wI M 26 (M.1 22 9).toNatClampNeg v1) fun M1 => lt (wI M1 22 9 ((M1.1 22 9) + (1 : Int32))) fun M2 => (some M2)))
set_option maxRecDepth 100000 in
set_option maxHeartbeats 4000000 in
theorem w_X5_push {G : GW} {E : EE} (hG : ab_ok G) (B : Bx G E RX5 cX5_push 2 2 none) (v1 : Int32) (M : Mem) : AWo G E cX5_push 2 (ab_Q G E embV) 0 [(0, .ref 22), (1, .int v1)] [] M (f_X5_push v1 M) := by
  unfold f_X5_push
  refine aw_aload_n (k0 := 0) B 0 (by decide +kernel) rfl rfl ?_
  refine aw_geti (c := 22) B lkX5_115 (by decide +kernel) rfl ?_
  refine aw_bipush (n := 121) (v := (121 : Int32)) B (by decide +kernel) (by decide) ?_
  refine aw_icmp_ge (off := 23) B 29 (by decide +kernel) (by decide) (fun _ => ?_) (fun _ => ?_)
  · exact aw_vreturn B (by decide +kernel) rfl
  · refine aw_aload_n (k0 := 0) B 0 (by decide +kernel) rfl rfl ?_
    refine aw_getr (c := 22) B lkX5_21 (by decide +kernel) rfl (r := 26) rfl ?_
    refine aw_aload_n (k0 := 0) B 0 (by decide +kernel) rfl rfl ?_
    refine aw_geti (c := 22) B lkX5_115 (by decide +kernel) rfl ?_
    refine aw_iload_n (k0 := 1) B 1 (by decide +kernel) rfl rfl ?_
    refine aw_iastore B (by decide +kernel) (fun M1 => ?_)
    refine aw_aload_n (k0 := 0) B 0 (by decide +kernel) rfl rfl ?_
    refine aw_dup B (by decide +kernel) rfl ?_
    refine aw_geti (c := 22) B lkX5_115 (by decide +kernel) rfl ?_
    refine aw_iconst (n := 1) (v := (1 : Int32)) B (by decide +kernel) (by decide) ?_
    refine aw_iadd B (by decide +kernel) ?_
    refine aw_puti (c := 22) B lkX5_115 lp5_9 (by decide +kernel) rfl (fun M2 => ?_)
    exact aw_vreturn B (by decide +kernel) rfl
theorem c_X5_push (l : Launch) {G : GW} (hG : ab_ok G) (v1 : Int32) (M : Mem) : AC l G yX5_push cX5_push 2 none 2 [.ref 22, .int v1] M embV (f_X5_push v1 M) := AC.of hG (by decide) (Nat.le_of_ble_eq_true rfl) (fun E hE B => by subst hE; exact w_X5_push hG B v1 M)
def f_X5_joined_b121 : Option Int32 := (some (1 : Int32))
set_option maxRecDepth 100000 in
set_option maxHeartbeats 4000000 in
theorem w_X5_joined_b121 {G : GW} {E : EE} (hG : ab_ok G) (M : Mem) (B : Bx G E RX5 cX5_joined 3 2 (some .int))  : AWo G E cX5_joined 3 (ab_Q G E (embRI M)) 121 [] [] M (f_X5_joined_b121) := by
  unfold f_X5_joined_b121
  refine aw_iconst (n := 1) (v := (1 : Int32)) B (by decide +kernel) (by decide) ?_
  refine aw_goto (off := 4) B 126 (by decide +kernel) (by decide) ?_
  exact aw_ireturn B (by decide +kernel) rfl
def f_X5_joined (v0 : Int32) (v1 : Int32) (v2 : Int32) : Option Int32 := (if v0 = (33 : Int32) then (if v2 = 0 then (some (1 : Int32)) else (some (0 : Int32))) else if v0 = (38 : Int32) then (if v1 = 0 then (some (0 : Int32)) else (if v2 = 0 then (some (0 : Int32)) else (some (1 : Int32)))) else if v0 = (42 : Int32) then (some (v1 * v2)) else if v0 = (43 : Int32) then (some (v1 + v2)) else if v0 = (45 : Int32) then (some (v1 - v2)) else if v0 = (47 : Int32) then (if v2 = 0 then (some (0 : Int32)) else if v2 = 0 then none else (some (v1 / v2))) else if v0 = (60 : Int32) then (if v2 ≤ v1 then (some (0 : Int32)) else (some (1 : Int32))) else if v0 = (61 : Int32) then (if v1 = v2 then (some (1 : Int32)) else (some (0 : Int32))) else if v0 = (62 : Int32) then (if v1 ≤ v2 then (some (0 : Int32)) else (some (1 : Int32))) else if v0 = (124 : Int32) then (if v1 = 0 then (if v2 = 0 then (some (0 : Int32)) else f_X5_joined_b121) else f_X5_joined_b121) else if v0 = (126 : Int32) then (some (-v2)) else (if v2 = 0 then (some (0 : Int32)) else if v2 = 0 then none else (some (ab_rem v1 v2))))
set_option maxRecDepth 100000 in
set_option maxHeartbeats 4000000 in
theorem w_X5_joined {G : GW} {E : EE} (hG : ab_ok G) (B : Bx G E RX5 cX5_joined 3 2 (some .int)) (v0 : Int32) (v1 : Int32) (v2 : Int32) (M : Mem) : AWo G E cX5_joined 3 (ab_Q G E (embRI M)) 0 [(0, .int v0), (1, .int v1), (2, .int v2)] [] M (f_X5_joined v0 v1 v2) := by
  unfold f_X5_joined
  refine aw_iload_n (k0 := 0) B 0 (by decide +kernel) rfl rfl ?_
  refine aw_ite (fun h1_0 => ?_) (fun h1_0 => ?_)
  · refine aw_lkpK (k0 := (33 : Int32)) (dflt := 197) (ps := #[(33, 99), (38, 126), (42, 181), (43, 173), (45, 177), (47, 185), (60, 140), (61, 151), (62, 162), (124, 112), (126, 109)]) (len := 99) (off := 99) B 100 (by decide +kernel) (by decide +kernel) h1_0 (by decide +kernel) (by decide) ?_
    refine aw_iload_n (k0 := 2) B 2 (by decide +kernel) rfl rfl ?_
    refine aw_if_ne (off := 7) B 108 (by decide +kernel) (by decide) (fun _ => ?_) (fun _ => ?_)
    · refine aw_iconst (n := 0) (v := (0 : Int32)) B (by decide +kernel) (by decide) ?_
      exact aw_ireturn B (by decide +kernel) rfl
    · refine aw_iconst (n := 1) (v := (1 : Int32)) B (by decide +kernel) (by decide) ?_
      refine aw_goto (off := 4) B 109 (by decide +kernel) (by decide) ?_
      exact aw_ireturn B (by decide +kernel) rfl
  refine aw_ite (fun h1_1 => ?_) (fun h1_1 => ?_)
  · refine aw_lkpK (k0 := (38 : Int32)) (dflt := 197) (ps := #[(33, 99), (38, 126), (42, 181), (43, 173), (45, 177), (47, 185), (60, 140), (61, 151), (62, 162), (124, 112), (126, 109)]) (len := 99) (off := 126) B 127 (by decide +kernel) (by decide +kernel) h1_1 (by decide +kernel) (by decide) ?_
    refine aw_iload_n (k0 := 1) B 1 (by decide +kernel) rfl rfl ?_
    refine aw_if_eq (off := 11) B 139 (by decide +kernel) (by decide) (fun _ => ?_) (fun _ => ?_)
    · refine aw_iconst (n := 0) (v := (0 : Int32)) B (by decide +kernel) (by decide) ?_
      exact aw_ireturn B (by decide +kernel) rfl
    · refine aw_iload_n (k0 := 2) B 2 (by decide +kernel) rfl rfl ?_
      refine aw_if_eq (off := 7) B 139 (by decide +kernel) (by decide) (fun _ => ?_) (fun _ => ?_)
      · refine aw_iconst (n := 0) (v := (0 : Int32)) B (by decide +kernel) (by decide) ?_
        exact aw_ireturn B (by decide +kernel) rfl
      · refine aw_iconst (n := 1) (v := (1 : Int32)) B (by decide +kernel) (by decide) ?_
        refine aw_goto (off := 4) B 140 (by decide +kernel) (by decide) ?_
        exact aw_ireturn B (by decide +kernel) rfl
  refine aw_ite (fun h1_2 => ?_) (fun h1_2 => ?_)
  · refine aw_lkpK (k0 := (42 : Int32)) (dflt := 197) (ps := #[(33, 99), (38, 126), (42, 181), (43, 173), (45, 177), (47, 185), (60, 140), (61, 151), (62, 162), (124, 112), (126, 109)]) (len := 99) (off := 181) B 182 (by decide +kernel) (by decide +kernel) h1_2 (by decide +kernel) (by decide) ?_
    refine aw_iload_n (k0 := 1) B 1 (by decide +kernel) rfl rfl ?_
    refine aw_iload_n (k0 := 2) B 2 (by decide +kernel) rfl rfl ?_
    refine aw_imul B (by decide +kernel) ?_
    exact aw_ireturn B (by decide +kernel) rfl
  refine aw_ite (fun h1_3 => ?_) (fun h1_3 => ?_)
  · refine aw_lkpK (k0 := (43 : Int32)) (dflt := 197) (ps := #[(33, 99), (38, 126), (42, 181), (43, 173), (45, 177), (47, 185), (60, 140), (61, 151), (62, 162), (124, 112), (126, 109)]) (len := 99) (off := 173) B 174 (by decide +kernel) (by decide +kernel) h1_3 (by decide +kernel) (by decide) ?_
    refine aw_iload_n (k0 := 1) B 1 (by decide +kernel) rfl rfl ?_
    refine aw_iload_n (k0 := 2) B 2 (by decide +kernel) rfl rfl ?_
    refine aw_iadd B (by decide +kernel) ?_
    exact aw_ireturn B (by decide +kernel) rfl
  refine aw_ite (fun h1_4 => ?_) (fun h1_4 => ?_)
  · refine aw_lkpK (k0 := (45 : Int32)) (dflt := 197) (ps := #[(33, 99), (38, 126), (42, 181), (43, 173), (45, 177), (47, 185), (60, 140), (61, 151), (62, 162), (124, 112), (126, 109)]) (len := 99) (off := 177) B 178 (by decide +kernel) (by decide +kernel) h1_4 (by decide +kernel) (by decide) ?_
    refine aw_iload_n (k0 := 1) B 1 (by decide +kernel) rfl rfl ?_
    refine aw_iload_n (k0 := 2) B 2 (by decide +kernel) rfl rfl ?_
    refine aw_isub B (by decide +kernel) ?_
    exact aw_ireturn B (by decide +kernel) rfl
  refine aw_ite (fun h1_5 => ?_) (fun h1_5 => ?_)
  · refine aw_lkpK (k0 := (47 : Int32)) (dflt := 197) (ps := #[(33, 99), (38, 126), (42, 181), (43, 173), (45, 177), (47, 185), (60, 140), (61, 151), (62, 162), (124, 112), (126, 109)]) (len := 99) (off := 185) B 186 (by decide +kernel) (by decide +kernel) h1_5 (by decide +kernel) (by decide) ?_
    refine aw_iload_n (k0 := 2) B 2 (by decide +kernel) rfl rfl ?_
    refine aw_if_ne (off := 7) B 194 (by decide +kernel) (by decide) (fun _ => ?_) (fun _ => ?_)
    · refine aw_iload_n (k0 := 1) B 1 (by decide +kernel) rfl rfl ?_
      refine aw_iload_n (k0 := 2) B 2 (by decide +kernel) rfl rfl ?_
      refine aw_idiv B (by decide +kernel) ?_
      exact aw_ireturn B (by decide +kernel) rfl
    · refine aw_iconst (n := 0) (v := (0 : Int32)) B (by decide +kernel) (by decide) ?_
      refine aw_goto (off := 6) B 197 (by decide +kernel) (by decide) ?_
      exact aw_ireturn B (by decide +kernel) rfl
  refine aw_ite (fun h1_6 => ?_) (fun h1_6 => ?_)
  · refine aw_lkpK (k0 := (60 : Int32)) (dflt := 197) (ps := #[(33, 99), (38, 126), (42, 181), (43, 173), (45, 177), (47, 185), (60, 140), (61, 151), (62, 162), (124, 112), (126, 109)]) (len := 99) (off := 140) B 141 (by decide +kernel) (by decide +kernel) h1_6 (by decide +kernel) (by decide) ?_
    refine aw_iload_n (k0 := 1) B 1 (by decide +kernel) rfl rfl ?_
    refine aw_iload_n (k0 := 2) B 2 (by decide +kernel) rfl rfl ?_
    refine aw_icmp_ge (off := 7) B 150 (by decide +kernel) (by decide) (fun _ => ?_) (fun _ => ?_)
    · refine aw_iconst (n := 0) (v := (0 : Int32)) B (by decide +kernel) (by decide) ?_
      exact aw_ireturn B (by decide +kernel) rfl
    · refine aw_iconst (n := 1) (v := (1 : Int32)) B (by decide +kernel) (by decide) ?_
      refine aw_goto (off := 4) B 151 (by decide +kernel) (by decide) ?_
      exact aw_ireturn B (by decide +kernel) rfl
  refine aw_ite (fun h1_7 => ?_) (fun h1_7 => ?_)
  · refine aw_lkpK (k0 := (61 : Int32)) (dflt := 197) (ps := #[(33, 99), (38, 126), (42, 181), (43, 173), (45, 177), (47, 185), (60, 140), (61, 151), (62, 162), (124, 112), (126, 109)]) (len := 99) (off := 151) B 152 (by decide +kernel) (by decide +kernel) h1_7 (by decide +kernel) (by decide) ?_
    refine aw_iload_n (k0 := 1) B 1 (by decide +kernel) rfl rfl ?_
    refine aw_iload_n (k0 := 2) B 2 (by decide +kernel) rfl rfl ?_
    refine aw_icmp_ne (off := 7) B 161 (by decide +kernel) (by decide) (fun _ => ?_) (fun _ => ?_)
    · refine aw_iconst (n := 0) (v := (0 : Int32)) B (by decide +kernel) (by decide) ?_
      exact aw_ireturn B (by decide +kernel) rfl
    · refine aw_iconst (n := 1) (v := (1 : Int32)) B (by decide +kernel) (by decide) ?_
      refine aw_goto (off := 4) B 162 (by decide +kernel) (by decide) ?_
      exact aw_ireturn B (by decide +kernel) rfl
  refine aw_ite (fun h1_8 => ?_) (fun h1_8 => ?_)
  · refine aw_lkpK (k0 := (62 : Int32)) (dflt := 197) (ps := #[(33, 99), (38, 126), (42, 181), (43, 173), (45, 177), (47, 185), (60, 140), (61, 151), (62, 162), (124, 112), (126, 109)]) (len := 99) (off := 162) B 163 (by decide +kernel) (by decide +kernel) h1_8 (by decide +kernel) (by decide) ?_
    refine aw_iload_n (k0 := 1) B 1 (by decide +kernel) rfl rfl ?_
    refine aw_iload_n (k0 := 2) B 2 (by decide +kernel) rfl rfl ?_
    refine aw_icmp_le (off := 7) B 172 (by decide +kernel) (by decide) (fun _ => ?_) (fun _ => ?_)
    · refine aw_iconst (n := 0) (v := (0 : Int32)) B (by decide +kernel) (by decide) ?_
      exact aw_ireturn B (by decide +kernel) rfl
    · refine aw_iconst (n := 1) (v := (1 : Int32)) B (by decide +kernel) (by decide) ?_
      refine aw_goto (off := 4) B 173 (by decide +kernel) (by decide) ?_
      exact aw_ireturn B (by decide +kernel) rfl
  refine aw_ite (fun h1_9 => ?_) (fun h1_9 => ?_)
  · refine aw_lkpK (k0 := (124 : Int32)) (dflt := 197) (ps := #[(33, 99), (38, 126), (42, 181), (43, 173), (45, 177), (47, 185), (60, 140), (61, 151), (62, 162), (124, 112), (126, 109)]) (len := 99) (off := 112) B 113 (by decide +kernel) (by decide +kernel) h1_9 (by decide +kernel) (by decide) ?_
    refine aw_iload_n (k0 := 1) B 1 (by decide +kernel) rfl rfl ?_
    refine aw_if_ne (off := 7) B 121 (by decide +kernel) (by decide) (fun _ => ?_) (fun _ => ?_)
    · exact aw_sub [] rfl (w_X5_joined_b121 hG M B)
    · refine aw_iload_n (k0 := 2) B 2 (by decide +kernel) rfl rfl ?_
      refine aw_if_eq (off := 7) B 125 (by decide +kernel) (by decide) (fun _ => ?_) (fun _ => ?_)
      · refine aw_iconst (n := 0) (v := (0 : Int32)) B (by decide +kernel) (by decide) ?_
        exact aw_ireturn B (by decide +kernel) rfl
      · exact aw_sub [] rfl (w_X5_joined_b121 hG M B)
  refine aw_ite (fun h1_10 => ?_) (fun h1_10 => ?_)
  · refine aw_lkpK (k0 := (126 : Int32)) (dflt := 197) (ps := #[(33, 99), (38, 126), (42, 181), (43, 173), (45, 177), (47, 185), (60, 140), (61, 151), (62, 162), (124, 112), (126, 109)]) (len := 99) (off := 109) B 110 (by decide +kernel) (by decide +kernel) h1_10 (by decide +kernel) (by decide) ?_
    refine aw_iload_n (k0 := 2) B 2 (by decide +kernel) rfl rfl ?_
    refine aw_ineg B (by decide +kernel) ?_
    exact aw_ireturn B (by decide +kernel) rfl
  · refine aw_lkp (dflt := 197) (ps := #[(33, 99), (38, 126), (42, 181), (43, 173), (45, 177), (47, 185), (60, 140), (61, 151), (62, 162), (124, 112), (126, 109)]) (len := 99) (off := 197) B 198 (by decide +kernel) (by decide +kernel) ((lv_osw h1_0 (by decide)).trans ((lv_osw h1_1 (by decide)).trans ((lv_osw h1_2 (by decide)).trans ((lv_osw h1_3 (by decide)).trans ((lv_osw h1_4 (by decide)).trans ((lv_osw h1_5 (by decide)).trans ((lv_osw h1_6 (by decide)).trans ((lv_osw h1_7 (by decide)).trans ((lv_osw h1_8 (by decide)).trans ((lv_osw h1_9 (by decide)).trans ((lv_osw h1_10 (by decide)).trans (rfl)))))))))))) (by decide) ?_
    refine aw_iload_n (k0 := 2) B 2 (by decide +kernel) rfl rfl ?_
    refine aw_if_ne (off := 7) B 206 (by decide +kernel) (by decide) (fun _ => ?_) (fun _ => ?_)
    · refine aw_iload_n (k0 := 1) B 1 (by decide +kernel) rfl rfl ?_
      refine aw_iload_n (k0 := 2) B 2 (by decide +kernel) rfl rfl ?_
      refine aw_irem B (by decide +kernel) ?_
      exact aw_ireturn B (by decide +kernel) rfl
    · refine aw_iconst (n := 0) (v := (0 : Int32)) B (by decide +kernel) (by decide) ?_
      refine aw_goto (off := 6) B 209 (by decide +kernel) (by decide) ?_
      exact aw_ireturn B (by decide +kernel) rfl
theorem c_X5_joined (l : Launch) {G : GW} (hG : ab_ok G) (v0 : Int32) (v1 : Int32) (v2 : Int32) (M : Mem) : AC l G yX5_joined cX5_joined 3 (some .int) 2 [.int v0, .int v1, .int v2] M (embRI M) (f_X5_joined v0 v1 v2) := AC.of hG (by decide) (Nat.le_of_ble_eq_true rfl) (fun E hE B => by subst hE; exact w_X5_joined hG B v0 v1 v2 M)
def f_X5_workOut_b169 (k9 : Int32 → Int32 → Mem → Option (Int32 × Mem)) (v1 : Int32) (v2 : Int32) (M : Mem) : Option (Int32 × Mem) := k9 v1 (v2 + 1) M
set_option maxRecDepth 100000 in
set_option maxHeartbeats 4000000 in
theorem w_X5_workOut_b169 {G : GW} {E : EE} (hG : ab_ok G) {k9 : Int32 → Int32 → Mem → Option (Int32 × Mem)} (B : Bx G E RX5 cX5_workOut 6 3 (some .int)) (hk9 : ∀ (v1 : Int32) (v2 : Int32) (M : Mem), AWo G E cX5_workOut 6 (ab_Q G E embI) 9 [(0, .ref 22), (1, .int v1), (2, .int v2)] [] M (k9 v1 v2 M)) (v1 : Int32) (v2 : Int32) (M : Mem) : AWo G E cX5_workOut 6 (ab_Q G E embI) 169 [(0, .ref 22), (1, .int v1), (2, .int v2)] [] M (f_X5_workOut_b169 k9 v1 v2 M) := by
  unfold f_X5_workOut_b169
  refine aw_iinc (i := 2) (n := 1) B 2 [(2, .int (v2 + 1)), (0, .ref 22), (1, .int v1)] (by decide +kernel) rfl (Nat.le_of_ble_eq_true rfl) (v2 + 1) (ab_inc (by decide)) rfl ?_
  refine aw_goto (off := -163) B 9 (by decide +kernel) (by decide) ?_
  exact aw_sub [1, 2, 0] rfl (hk9 _ _ _)
def f_X5_workOut_b155 (k9 : Int32 → Int32 → Mem → Option (Int32 × Mem)) (v1 : Int32) (v2 : Int32) (v3 : Int32) (v4 : Int32) (s0 : Int32) (M : Mem) : Option (Int32 × Mem) := (f_X5_joined v3 s0 v4).bind fun x1 => (f_X5_push x1 M).bind fun M4 => f_X5_workOut_b169 k9 v1 v2 M4
set_option maxRecDepth 100000 in
set_option maxHeartbeats 4000000 in
theorem w_X5_workOut_b155 {G : GW} {E : EE} (hG : ab_ok G) {k9 : Int32 → Int32 → Mem → Option (Int32 × Mem)} (B : Bx G E RX5 cX5_workOut 6 3 (some .int)) (hk9 : ∀ (v1 : Int32) (v2 : Int32) (M : Mem), AWo G E cX5_workOut 6 (ab_Q G E embI) 9 [(0, .ref 22), (1, .int v1), (2, .int v2)] [] M (k9 v1 v2 M)) (v1 : Int32) (v2 : Int32) (v3 : Int32) (v4 : Int32) (s0 : Int32) (M : Mem) : AWo G E cX5_workOut 6 (ab_Q G E embI) 155 [(0, .ref 22), (1, .int v1), (2, .int v2), (3, .int v3), (4, .int v4)] [.int s0] M (f_X5_workOut_b155 k9 v1 v2 v3 v4 s0 M) := by
  unfold f_X5_workOut_b155
  refine aw_istore (i := 5) B [(5, .int s0), (0, .ref 22), (1, .int v1), (2, .int v2), (3, .int v3), (4, .int v4)] (by decide +kernel) (Nat.le_of_ble_eq_true rfl) rfl ?_
  refine aw_aload_n (k0 := 0) B 1 (by decide +kernel) rfl rfl ?_
  refine aw_iload_n (k0 := 3) B 4 (by decide +kernel) rfl rfl ?_
  refine aw_iload (i := 5) B 0 (by decide +kernel) rfl ?_
  refine aw_iload (i := 4) B 5 (by decide +kernel) rfl ?_
  refine aw_cSR B (c_X5_joined (eLa E) hG v3 s0 v4 M) csX5_124 (Nat.le_of_ble_eq_true rfl) rfl (Nat.le_of_ble_eq_true rfl) (by decide +kernel) rfl (fun x1 => ?_)
  refine aw_cVV B (c_X5_push (eLa E) hG x1 M) cvX5_121 rfl rfl (Nat.le_of_ble_eq_true rfl) rfl (Nat.le_of_ble_eq_true rfl) (by decide +kernel) rfl (fun M4 => ?_)
  exact aw_sub [1, 2, 3] rfl (w_X5_workOut_b169 hG B hk9 _ _ _)
def f_X5_workOut_b147 (k9 : Int32 → Int32 → Mem → Option (Int32 × Mem)) (v1 : Int32) (v2 : Int32) (v3 : Int32) (v4 : Int32) (M : Mem) : Option (Int32 × Mem) := f_X5_workOut_b155 k9 v1 v2 v3 v4 (0 : Int32) M
set_option maxRecDepth 100000 in
set_option maxHeartbeats 4000000 in
theorem w_X5_workOut_b147 {G : GW} {E : EE} (hG : ab_ok G) {k9 : Int32 → Int32 → Mem → Option (Int32 × Mem)} (B : Bx G E RX5 cX5_workOut 6 3 (some .int)) (hk9 : ∀ (v1 : Int32) (v2 : Int32) (M : Mem), AWo G E cX5_workOut 6 (ab_Q G E embI) 9 [(0, .ref 22), (1, .int v1), (2, .int v2)] [] M (k9 v1 v2 M)) (v1 : Int32) (v2 : Int32) (v3 : Int32) (v4 : Int32) (M : Mem) : AWo G E cX5_workOut 6 (ab_Q G E embI) 147 [(0, .ref 22), (1, .int v1), (2, .int v2), (3, .int v3), (4, .int v4)] [] M (f_X5_workOut_b147 k9 v1 v2 v3 v4 M) := by
  unfold f_X5_workOut_b147
  refine aw_iconst (n := 0) (v := (0 : Int32)) B (by decide +kernel) (by decide) ?_
  refine aw_goto (off := 7) B 155 (by decide +kernel) (by decide) ?_
  exact w_X5_workOut_b155 hG B hk9 _ _ _ _ _ _
def f_X5_workOut_b74 (k9 : Int32 → Int32 → Mem → Option (Int32 × Mem)) (v2 : Int32) (s0 : Int32) (M : Mem) : Option (Int32 × Mem) := f_X5_workOut_b169 k9 s0 v2 M
set_option maxRecDepth 100000 in
set_option maxHeartbeats 4000000 in
theorem w_X5_workOut_b74 {G : GW} {E : EE} (hG : ab_ok G) {k9 : Int32 → Int32 → Mem → Option (Int32 × Mem)} (B : Bx G E RX5 cX5_workOut 6 3 (some .int)) (hk9 : ∀ (v1 : Int32) (v2 : Int32) (M : Mem), AWo G E cX5_workOut 6 (ab_Q G E embI) 9 [(0, .ref 22), (1, .int v1), (2, .int v2)] [] M (k9 v1 v2 M)) (v2 : Int32) (s0 : Int32) (M : Mem) : AWo G E cX5_workOut 6 (ab_Q G E embI) 74 [(0, .ref 22), (2, .int v2)] [.int s0] M (f_X5_workOut_b74 k9 v2 s0 M) := by
  unfold f_X5_workOut_b74
  refine aw_istore_n (k0 := 1) B [(1, .int s0), (0, .ref 22), (2, .int v2)] (by decide +kernel) rfl (Nat.le_of_ble_eq_true rfl) rfl ?_
  refine aw_goto (off := 94) B 169 (by decide +kernel) (by decide) ?_
  exact aw_sub [1, 0, 2] rfl (w_X5_workOut_b169 hG B hk9 _ _ _)
def f_X5_workOut_b41 (k9 : Int32 → Int32 → Mem → Option (Int32 × Mem)) (v2 : Int32) (s0 : Int32) (M : Mem) : Option (Int32 × Mem) := f_X5_workOut_b169 k9 s0 v2 M
set_option maxRecDepth 100000 in
set_option maxHeartbeats 4000000 in
theorem w_X5_workOut_b41 {G : GW} {E : EE} (hG : ab_ok G) {k9 : Int32 → Int32 → Mem → Option (Int32 × Mem)} (B : Bx G E RX5 cX5_workOut 6 3 (some .int)) (hk9 : ∀ (v1 : Int32) (v2 : Int32) (M : Mem), AWo G E cX5_workOut 6 (ab_Q G E embI) 9 [(0, .ref 22), (1, .int v1), (2, .int v2)] [] M (k9 v1 v2 M)) (v2 : Int32) (s0 : Int32) (M : Mem) : AWo G E cX5_workOut 6 (ab_Q G E embI) 41 [(0, .ref 22), (2, .int v2)] [.int s0] M (f_X5_workOut_b41 k9 v2 s0 M) := by
  unfold f_X5_workOut_b41
  refine aw_istore_n (k0 := 1) B [(1, .int s0), (0, .ref 22), (2, .int v2)] (by decide +kernel) rfl (Nat.le_of_ble_eq_true rfl) rfl ?_
  refine aw_goto (off := 127) B 169 (by decide +kernel) (by decide) ?_
  exact aw_sub [1, 0, 2] rfl (w_X5_workOut_b169 hG B hk9 _ _ _)
def f_X5_workOut_L9 : Nat → Int32 → Int32 → Mem → Option (Int32 × Mem)
  | 0, _, _, _ => none
  | n + 1, v1, v2, M => (if (M.1 22 7) ≤ v2 then (some ((0 : Int32), M)) else ck (okI (M.2.2 22 6) ((2 : Int32) * v2)) (lt (M.1 (M.2.2 22 6) ((2 : Int32) * v2).toNatClampNeg) fun x1 => (if v1 = 0 then (if x1 = (59 : Int32) then bI (f_X5_pop M) fun x12 M13 => (some (x12, M13)) else (if x1 = (63 : Int32) then bI (f_X5_pop M) fun x10 M11 => (if x10 = 0 then f_X5_workOut_b74 (fun a0 a1 a2 => f_X5_workOut_L9 n a0 a1 a2) v2 (1 : Int32) M11 else f_X5_workOut_b74 (fun a0 a1 a2 => f_X5_workOut_L9 n a0 a1 a2) v2 (0 : Int32) M11) else (if x1 = (48 : Int32) then ck (okI (M.2.2 22 6) (((2 : Int32) * v2) + (1 : Int32))) ((f_X5_push (M.1 (M.2.2 22 6) (((2 : Int32) * v2) + (1 : Int32)).toNatClampNeg) M).bind fun M9 => f_X5_workOut_b169 (fun a0 a1 a2 => f_X5_workOut_L9 n a0 a1 a2) v1 v2 M9) else (if x1 = (97 : Int32) then ck (okI (M.2.2 22 6) (((2 : Int32) * v2) + (1 : Int32))) (ck (okI 27 (M.1 (M.2.2 22 6) (((2 : Int32) * v2) + (1 : Int32)).toNatClampNeg)) ((f_X5_push (M.1 27 (M.1 (M.2.2 22 6) (((2 : Int32) * v2) + (1 : Int32)).toNatClampNeg).toNatClampNeg) M).bind fun M7 => f_X5_workOut_b169 (fun a0 a1 a2 => f_X5_workOut_L9 n a0 a1 a2) v1 v2 M7)) else bI (f_X5_pop M) fun x2 M3 => (if x1 = (33 : Int32) then f_X5_workOut_b147 (fun a0 a1 a2 => f_X5_workOut_L9 n a0 a1 a2) v1 v2 x1 x2 M3 else (if x1 = (126 : Int32) then f_X5_workOut_b147 (fun a0 a1 a2 => f_X5_workOut_L9 n a0 a1 a2) v1 v2 x1 x2 M3 else bI (f_X5_pop M3) fun x4 M5 => f_X5_workOut_b155 (fun a0 a1 a2 => f_X5_workOut_L9 n a0 a1 a2) v1 v2 x1 x2 x4 M5)))))) else (if x1 = (59 : Int32) then f_X5_workOut_b41 (fun a0 a1 a2 => f_X5_workOut_L9 n a0 a1 a2) v2 (0 : Int32) M else f_X5_workOut_b41 (fun a0 a1 a2 => f_X5_workOut_L9 n a0 a1 a2) v2 (1 : Int32) M))))
set_option maxRecDepth 100000 in
set_option maxHeartbeats 4000000 in
theorem w_X5_workOut_L9 {G : GW} {E : EE} (hG : ab_ok G) (B : Bx G E RX5 cX5_workOut 6 3 (some .int)) : ∀ (n : Nat) (v1 : Int32) (v2 : Int32) (M : Mem), AWo G E cX5_workOut 6 (ab_Q G E embI) 9 [(0, .ref 22), (1, .int v1), (2, .int v2)] [] M (f_X5_workOut_L9 n v1 v2 M) := by
  intro n
  induction n with
  | zero => intro _ _ _; exact aw_none
  | succ n ih =>
    intro v1 v2 M
    rw [f_X5_workOut_L9]
    refine aw_iload_n (k0 := 2) B 2 (by decide +kernel) rfl rfl ?_
    refine aw_aload_n (k0 := 0) B 0 (by decide +kernel) rfl rfl ?_
    refine aw_geti (c := 22) B lkX5_43 (by decide +kernel) rfl ?_
    refine aw_icmp_ge (off := 161) B 175 (by decide +kernel) (by decide) (fun _ => ?_) (fun _ => ?_)
    · refine aw_iconst (n := 0) (v := (0 : Int32)) B (by decide +kernel) (by decide) ?_
      exact aw_ireturn B (by decide +kernel) rfl
    · refine aw_aload_n (k0 := 0) B 0 (by decide +kernel) rfl rfl ?_
      refine aw_getm (c := 22) B lkX5_18 (by decide +kernel) rfl ?_
      refine aw_iconst (n := 2) (v := (2 : Int32)) B (by decide +kernel) (by decide) ?_
      refine aw_iload_n (k0 := 2) B 2 (by decide +kernel) rfl rfl ?_
      refine aw_imul B (by decide +kernel) ?_
      refine aw_iaload B (by decide +kernel) ?_
      refine aw_ltI (fun x1 => ?_)
      refine aw_istore_n (k0 := 3) B [(3, .int x1), (0, .ref 22), (1, .int v1), (2, .int v2)] (by decide +kernel) rfl (Nat.le_of_ble_eq_true rfl) rfl ?_
      refine aw_iload_n (k0 := 1) B 2 (by decide +kernel) rfl rfl ?_
      refine aw_if_eq (off := 18) B 45 (by decide +kernel) (by decide) (fun _ => ?_) (fun _ => ?_)
      · refine aw_iload_n (k0 := 3) B 0 (by decide +kernel) rfl rfl ?_
        refine aw_bipush (n := 59) (v := (59 : Int32)) B (by decide +kernel) (by decide) ?_
        refine aw_icmp_ne (off := 8) B 56 (by decide +kernel) (by decide) (fun _ => ?_) (fun _ => ?_)
        · refine aw_iload_n (k0 := 3) B 0 (by decide +kernel) rfl rfl ?_
          refine aw_bipush (n := 63) (v := (63 : Int32)) B (by decide +kernel) (by decide) ?_
          refine aw_icmp_ne (off := 19) B 78 (by decide +kernel) (by decide) (fun _ => ?_) (fun _ => ?_)
          · refine aw_iload_n (k0 := 3) B 0 (by decide +kernel) rfl rfl ?_
            refine aw_bipush (n := 48) (v := (48 : Int32)) B (by decide +kernel) (by decide) ?_
            refine aw_icmp_ne (off := 20) B 101 (by decide +kernel) (by decide) (fun _ => ?_) (fun _ => ?_)
            · refine aw_iload_n (k0 := 3) B 0 (by decide +kernel) rfl rfl ?_
              refine aw_bipush (n := 97) (v := (97 : Int32)) B (by decide +kernel) (by decide) ?_
              refine aw_icmp_ne (off := 25) B 129 (by decide +kernel) (by decide) (fun _ => ?_) (fun _ => ?_)
              · refine aw_aload_n (k0 := 0) B 1 (by decide +kernel) rfl rfl ?_
                refine aw_cVI B (c_X5_pop (eLa E) hG M) cvX5_118 rfl rfl (Nat.le_of_ble_eq_true rfl) rfl (Nat.le_of_ble_eq_true rfl) (by decide +kernel) rfl (fun x2 M3 => ?_)
                refine aw_istore (i := 4) B [(4, .int x2), (3, .int x1), (0, .ref 22), (1, .int v1), (2, .int v2)] (by decide +kernel) (Nat.le_of_ble_eq_true rfl) rfl ?_
                refine aw_iload_n (k0 := 3) B 1 (by decide +kernel) rfl rfl ?_
                refine aw_bipush (n := 33) (v := (33 : Int32)) B (by decide +kernel) (by decide) ?_
                refine aw_icmp_eq (off := 9) B 147 (by decide +kernel) (by decide) (fun _ => ?_) (fun _ => ?_)
                · exact aw_sub [2, 3, 4, 1, 0] rfl (w_X5_workOut_b147 hG B ih _ _ _ _ _)
                · refine aw_iload_n (k0 := 3) B 1 (by decide +kernel) rfl rfl ?_
                  refine aw_bipush (n := 126) (v := (126 : Int32)) B (by decide +kernel) (by decide) ?_
                  refine aw_icmp_ne (off := 7) B 151 (by decide +kernel) (by decide) (fun _ => ?_) (fun _ => ?_)
                  · refine aw_aload_n (k0 := 0) B 2 (by decide +kernel) rfl rfl ?_
                    refine aw_cVI B (c_X5_pop (eLa E) hG M3) cvX5_118 rfl rfl (Nat.le_of_ble_eq_true rfl) rfl (Nat.le_of_ble_eq_true rfl) (by decide +kernel) rfl (fun x4 M5 => ?_)
                    exact aw_sub [2, 3, 4, 1, 0] rfl (w_X5_workOut_b155 hG B ih _ _ _ _ _ _)
                  · exact aw_sub [2, 3, 4, 1, 0] rfl (w_X5_workOut_b147 hG B ih _ _ _ _ _)
              · refine aw_aload_n (k0 := 0) B 1 (by decide +kernel) rfl rfl ?_
                refine aw_aload_n (k0 := 0) B 1 (by decide +kernel) rfl rfl ?_
                refine aw_getr (c := 22) B lkX5_24 (by decide +kernel) rfl (r := 27) rfl ?_
                refine aw_aload_n (k0 := 0) B 1 (by decide +kernel) rfl rfl ?_
                refine aw_getm (c := 22) B lkX5_18 (by decide +kernel) rfl ?_
                refine aw_iconst (n := 2) (v := (2 : Int32)) B (by decide +kernel) (by decide) ?_
                refine aw_iload_n (k0 := 2) B 3 (by decide +kernel) rfl rfl ?_
                refine aw_imul B (by decide +kernel) ?_
                refine aw_iconst (n := 1) (v := (1 : Int32)) B (by decide +kernel) (by decide) ?_
                refine aw_iadd B (by decide +kernel) ?_
                refine aw_iaload B (by decide +kernel) ?_
                refine aw_iaload B (by decide +kernel) ?_
                refine aw_cVV B (c_X5_push (eLa E) hG (M.1 27 (M.1 (M.2.2 22 6) (((2 : Int32) * v2) + (1 : Int32)).toNatClampNeg).toNatClampNeg) M) cvX5_121 rfl rfl (Nat.le_of_ble_eq_true rfl) rfl (Nat.le_of_ble_eq_true rfl) (by decide +kernel) rfl (fun M7 => ?_)
                refine aw_goto (off := 43) B 169 (by decide +kernel) (by decide) ?_
                exact aw_sub [1, 2, 3] rfl (w_X5_workOut_b169 hG B ih _ _ _)
            · refine aw_aload_n (k0 := 0) B 1 (by decide +kernel) rfl rfl ?_
              refine aw_aload_n (k0 := 0) B 1 (by decide +kernel) rfl rfl ?_
              refine aw_getm (c := 22) B lkX5_18 (by decide +kernel) rfl ?_
              refine aw_iconst (n := 2) (v := (2 : Int32)) B (by decide +kernel) (by decide) ?_
              refine aw_iload_n (k0 := 2) B 3 (by decide +kernel) rfl rfl ?_
              refine aw_imul B (by decide +kernel) ?_
              refine aw_iconst (n := 1) (v := (1 : Int32)) B (by decide +kernel) (by decide) ?_
              refine aw_iadd B (by decide +kernel) ?_
              refine aw_iaload B (by decide +kernel) ?_
              refine aw_cVV B (c_X5_push (eLa E) hG (M.1 (M.2.2 22 6) (((2 : Int32) * v2) + (1 : Int32)).toNatClampNeg) M) cvX5_121 rfl rfl (Nat.le_of_ble_eq_true rfl) rfl (Nat.le_of_ble_eq_true rfl) (by decide +kernel) rfl (fun M9 => ?_)
              refine aw_goto (off := 71) B 169 (by decide +kernel) (by decide) ?_
              exact aw_sub [1, 2, 3] rfl (w_X5_workOut_b169 hG B ih _ _ _)
          · refine aw_aload_n (k0 := 0) B 1 (by decide +kernel) rfl rfl ?_
            refine aw_cVI B (c_X5_pop (eLa E) hG M) cvX5_118 rfl rfl (Nat.le_of_ble_eq_true rfl) rfl (Nat.le_of_ble_eq_true rfl) (by decide +kernel) rfl (fun x10 M11 => ?_)
            refine aw_if_ne (off := 7) B 73 (by decide +kernel) (by decide) (fun _ => ?_) (fun _ => ?_)
            · refine aw_iconst (n := 0) (v := (0 : Int32)) B (by decide +kernel) (by decide) ?_
              exact aw_sub [1, 3] rfl (w_X5_workOut_b74 hG B ih _ _ _)
            · refine aw_iconst (n := 1) (v := (1 : Int32)) B (by decide +kernel) (by decide) ?_
              refine aw_goto (off := 4) B 74 (by decide +kernel) (by decide) ?_
              exact aw_sub [1, 3] rfl (w_X5_workOut_b74 hG B ih _ _ _)
        · refine aw_aload_n (k0 := 0) B 1 (by decide +kernel) rfl rfl ?_
          refine aw_cVI B (c_X5_pop (eLa E) hG M) cvX5_118 rfl rfl (Nat.le_of_ble_eq_true rfl) rfl (Nat.le_of_ble_eq_true rfl) (by decide +kernel) rfl (fun x12 M13 => ?_)
          exact aw_ireturn B (by decide +kernel) rfl
      · refine aw_iload_n (k0 := 3) B 0 (by decide +kernel) rfl rfl ?_
        refine aw_bipush (n := 59) (v := (59 : Int32)) B (by decide +kernel) (by decide) ?_
        refine aw_icmp_eq (off := 7) B 40 (by decide +kernel) (by decide) (fun _ => ?_) (fun _ => ?_)
        · refine aw_iconst (n := 0) (v := (0 : Int32)) B (by decide +kernel) (by decide) ?_
          exact aw_sub [1, 3] rfl (w_X5_workOut_b41 hG B ih _ _ _)
        · refine aw_iconst (n := 1) (v := (1 : Int32)) B (by decide +kernel) (by decide) ?_
          refine aw_goto (off := 4) B 41 (by decide +kernel) (by decide) ?_
          exact aw_sub [1, 3] rfl (w_X5_workOut_b41 hG B ih _ _ _)
def f_X5_workOut (M : Mem) : Option (Int32 × Mem) := lt (wI M 22 9 (0 : Int32)) fun M1 => f_X5_workOut_L9 FU (0 : Int32) (0 : Int32) M1
set_option maxRecDepth 100000 in
set_option maxHeartbeats 4000000 in
theorem w_X5_workOut {G : GW} {E : EE} (hG : ab_ok G) (B : Bx G E RX5 cX5_workOut 6 3 (some .int)) (M : Mem) : AWo G E cX5_workOut 6 (ab_Q G E embI) 0 [(0, .ref 22)] [] M (f_X5_workOut M) := by
  unfold f_X5_workOut
  refine aw_iconst (n := 0) (v := (0 : Int32)) B (by decide +kernel) (by decide) ?_
  refine aw_istore_n (k0 := 1) B [(1, .int (0 : Int32)), (0, .ref 22)] (by decide +kernel) rfl (Nat.le_of_ble_eq_true rfl) rfl ?_
  refine aw_aload_n (k0 := 0) B 1 (by decide +kernel) rfl rfl ?_
  refine aw_iconst (n := 0) (v := (0 : Int32)) B (by decide +kernel) (by decide) ?_
  refine aw_puti (c := 22) B lkX5_115 lp5_9 (by decide +kernel) rfl (fun M1 => ?_)
  refine aw_iconst (n := 0) (v := (0 : Int32)) B (by decide +kernel) (by decide) ?_
  refine aw_istore_n (k0 := 2) B [(2, .int (0 : Int32)), (1, .int (0 : Int32)), (0, .ref 22)] (by decide +kernel) rfl (Nat.le_of_ble_eq_true rfl) rfl ?_
  exact aw_sub [2, 1, 0] rfl (w_X5_workOut_L9 hG B FU _ _ _)
theorem c_X5_workOut (l : Launch) {G : GW} (hG : ab_ok G) (M : Mem) : AC l G yX5_workOut cX5_workOut 6 (some .int) 3 [.ref 22] M embI (f_X5_workOut M) := AC.of hG (by decide) (Nat.le_of_ble_eq_true rfl) (fun E hE B => by subst hE; exact w_X5_workOut hG B M)
def f_X5_hundredths_b96 (v2 : Int32) (v5 : Int32) (s0 : Int32) (M : Mem) : Option (Int32 × Mem) := lt (ab_max (0 : Int32) (ab_min (100 : Int32) s0)) fun x1 => (if v2 = v5 then (some (x1, M)) else (some ((100 : Int32) - x1, M)))
set_option maxRecDepth 100000 in
set_option maxHeartbeats 4000000 in
theorem w_X5_hundredths_b96 {G : GW} {E : EE} (hG : ab_ok G) (B : Bx G E RX5 cX5_hundredths 9 4 (some .int)) (v2 : Int32) (v5 : Int32) (s0 : Int32) (M : Mem) : AWo G E cX5_hundredths 9 (ab_Q G E embI) 96 [(2, .int v2), (5, .int v5)] [.int s0] M (f_X5_hundredths_b96 v2 v5 s0 M) := by
  unfold f_X5_hundredths_b96
  refine aw_istore (i := 7) B [(7, .int s0), (2, .int v2), (5, .int v5)] (by decide +kernel) (Nat.le_of_ble_eq_true rfl) rfl ?_
  refine aw_iconst (n := 0) (v := (0 : Int32)) B (by decide +kernel) (by decide) ?_
  refine aw_bipush (n := 100) (v := (100 : Int32)) B (by decide +kernel) (by decide) ?_
  refine aw_iload (i := 7) B 0 (by decide +kernel) rfl ?_
  refine aw_min B lxX5_98 (by decide +kernel) (Nat.le_of_ble_eq_true rfl) (Nat.le_of_ble_eq_true rfl) ?_
  refine aw_max B lxX5_104 (by decide +kernel) (Nat.le_of_ble_eq_true rfl) (Nat.le_of_ble_eq_true rfl) ?_
  refine aw_ltI (fun x1 => ?_)
  refine aw_istore (i := 8) B [(8, .int x1), (7, .int s0), (2, .int v2), (5, .int v5)] (by decide +kernel) (Nat.le_of_ble_eq_true rfl) rfl ?_
  refine aw_iload_n (k0 := 2) B 2 (by decide +kernel) rfl rfl ?_
  refine aw_iload (i := 5) B 3 (by decide +kernel) rfl ?_
  refine aw_icmp_ne (off := 8) B 122 (by decide +kernel) (by decide) (fun _ => ?_) (fun _ => ?_)
  · refine aw_bipush (n := 100) (v := (100 : Int32)) B (by decide +kernel) (by decide) ?_
    refine aw_iload (i := 8) B 0 (by decide +kernel) rfl ?_
    refine aw_isub B (by decide +kernel) ?_
    exact aw_ireturn B (by decide +kernel) rfl
  · refine aw_iload (i := 8) B 0 (by decide +kernel) rfl ?_
    refine aw_goto (off := 8) B 127 (by decide +kernel) (by decide) ?_
    exact aw_ireturn B (by decide +kernel) rfl
def f_X5_hundredths (v2 : Int32) (v3 : Int32) (v4 : Int32) (M : Mem) : Option (Int32 × Mem) := lt (ab_min v2 v3) fun x1 => lt (ab_max v2 v3) fun x2 => ck (okI 27 (0 : Int32)) (lt (wI M 27 (0 : Int32).toNatClampNeg x1) fun M3 => ck (okI 27 (1 : Int32)) (lt (wI M3 27 (1 : Int32).toNatClampNeg x2) fun M4 => ck (okI 2 x1) (ck (okI 27 (2 : Int32)) (lt (wI M4 27 (2 : Int32).toNatClampNeg (M4.1 2 x1.toNatClampNeg)) fun M5 => ck (okI 2 x2) (ck (okI 27 (3 : Int32)) (lt (wI M5 27 (3 : Int32).toNatClampNeg (M5.1 2 x2.toNatClampNeg)) fun M6 => ck (okI 27 (4 : Int32)) (lt (wI M6 27 (4 : Int32).toNatClampNeg v4) fun M7 => (if (M7.1 22 7) = 0 then ck (okI 27 (2 : Int32)) (ck (okI 27 (3 : Int32)) (f_X5_hundredths_b96 v2 x1 ((50 : Int32) + (((M7.1 27 (2 : Int32).toNatClampNeg) - (M7.1 27 (3 : Int32).toNatClampNeg)) / (2 : Int32))) M7)) else bI (f_X5_workOut M7) fun x8 M9 => f_X5_hundredths_b96 v2 x1 x8 M9))))))))
set_option maxRecDepth 100000 in
set_option maxHeartbeats 4000000 in
theorem w_X5_hundredths {G : GW} {E : EE} (hG : ab_ok G) (B : Bx G E RX5 cX5_hundredths 9 4 (some .int)) (v2 : Int32) (v3 : Int32) (v4 : Int32) (M : Mem) : AWo G E cX5_hundredths 9 (ab_Q G E embI) 0 [(0, .ref 22), (1, .ref 1), (2, .int v2), (3, .int v3), (4, .int v4)] [] M (f_X5_hundredths v2 v3 v4 M) := by
  unfold f_X5_hundredths
  refine aw_iload_n (k0 := 2) B 2 (by decide +kernel) rfl rfl ?_
  refine aw_iload_n (k0 := 3) B 3 (by decide +kernel) rfl rfl ?_
  refine aw_min B lxX5_98 (by decide +kernel) (Nat.le_of_ble_eq_true rfl) (Nat.le_of_ble_eq_true rfl) ?_
  refine aw_ltI (fun x1 => ?_)
  refine aw_istore (i := 5) B [(5, .int x1), (0, .ref 22), (1, .ref 1), (2, .int v2), (3, .int v3), (4, .int v4)] (by decide +kernel) (Nat.le_of_ble_eq_true rfl) rfl ?_
  refine aw_iload_n (k0 := 2) B 3 (by decide +kernel) rfl rfl ?_
  refine aw_iload_n (k0 := 3) B 4 (by decide +kernel) rfl rfl ?_
  refine aw_max B lxX5_104 (by decide +kernel) (Nat.le_of_ble_eq_true rfl) (Nat.le_of_ble_eq_true rfl) ?_
  refine aw_ltI (fun x2 => ?_)
  refine aw_istore (i := 6) B [(6, .int x2), (5, .int x1), (0, .ref 22), (1, .ref 1), (2, .int v2), (3, .int v3), (4, .int v4)] (by decide +kernel) (Nat.le_of_ble_eq_true rfl) rfl ?_
  refine aw_aload_n (k0 := 0) B 2 (by decide +kernel) rfl rfl ?_
  refine aw_getr (c := 22) B lkX5_24 (by decide +kernel) rfl (r := 27) rfl ?_
  refine aw_iconst (n := 0) (v := (0 : Int32)) B (by decide +kernel) (by decide) ?_
  refine aw_iload (i := 5) B 1 (by decide +kernel) rfl ?_
  refine aw_iastore B (by decide +kernel) (fun M3 => ?_)
  refine aw_aload_n (k0 := 0) B 2 (by decide +kernel) rfl rfl ?_
  refine aw_getr (c := 22) B lkX5_24 (by decide +kernel) rfl (r := 27) rfl ?_
  refine aw_iconst (n := 1) (v := (1 : Int32)) B (by decide +kernel) (by decide) ?_
  refine aw_iload (i := 6) B 0 (by decide +kernel) rfl ?_
  refine aw_iastore B (by decide +kernel) (fun M4 => ?_)
  refine aw_aload_n (k0 := 0) B 2 (by decide +kernel) rfl rfl ?_
  refine aw_getr (c := 22) B lkX5_24 (by decide +kernel) rfl (r := 27) rfl ?_
  refine aw_iconst (n := 2) (v := (2 : Int32)) B (by decide +kernel) (by decide) ?_
  refine aw_aload_n (k0 := 1) B 3 (by decide +kernel) rfl rfl ?_
  refine aw_getr (c := 1) B lkX5_107 (by decide +kernel) rfl (r := 2) rfl ?_
  refine aw_iload (i := 5) B 1 (by decide +kernel) rfl ?_
  refine aw_iaload B (by decide +kernel) ?_
  refine aw_iastore B (by decide +kernel) (fun M5 => ?_)
  refine aw_aload_n (k0 := 0) B 2 (by decide +kernel) rfl rfl ?_
  refine aw_getr (c := 22) B lkX5_24 (by decide +kernel) rfl (r := 27) rfl ?_
  refine aw_iconst (n := 3) (v := (3 : Int32)) B (by decide +kernel) (by decide) ?_
  refine aw_aload_n (k0 := 1) B 3 (by decide +kernel) rfl rfl ?_
  refine aw_getr (c := 1) B lkX5_107 (by decide +kernel) rfl (r := 2) rfl ?_
  refine aw_iload (i := 6) B 0 (by decide +kernel) rfl ?_
  refine aw_iaload B (by decide +kernel) ?_
  refine aw_iastore B (by decide +kernel) (fun M6 => ?_)
  refine aw_aload_n (k0 := 0) B 2 (by decide +kernel) rfl rfl ?_
  refine aw_getr (c := 22) B lkX5_24 (by decide +kernel) rfl (r := 27) rfl ?_
  refine aw_iconst (n := 4) (v := (4 : Int32)) B (by decide +kernel) (by decide) ?_
  refine aw_iload (i := 4) B 6 (by decide +kernel) rfl ?_
  refine aw_iastore B (by decide +kernel) (fun M7 => ?_)
  refine aw_aload_n (k0 := 0) B 2 (by decide +kernel) rfl rfl ?_
  refine aw_geti (c := 22) B lkX5_43 (by decide +kernel) rfl ?_
  refine aw_if_ne (off := 24) B 92 (by decide +kernel) (by decide) (fun _ => ?_) (fun _ => ?_)
  · refine aw_aload_n (k0 := 0) B 2 (by decide +kernel) rfl rfl ?_
    refine aw_cVI B (c_X5_workOut (eLa E) hG M7) cvX5_112 rfl rfl (Nat.le_of_ble_eq_true rfl) rfl (Nat.le_of_ble_eq_true rfl) (by decide +kernel) rfl (fun x8 M9 => ?_)
    exact aw_sub [4, 1] rfl (w_X5_hundredths_b96 hG B _ _ _ _)
  · refine aw_bipush (n := 50) (v := (50 : Int32)) B (by decide +kernel) (by decide) ?_
    refine aw_aload_n (k0 := 0) B 2 (by decide +kernel) rfl rfl ?_
    refine aw_getr (c := 22) B lkX5_24 (by decide +kernel) rfl (r := 27) rfl ?_
    refine aw_iconst (n := 2) (v := (2 : Int32)) B (by decide +kernel) (by decide) ?_
    refine aw_iaload B (by decide +kernel) ?_
    refine aw_aload_n (k0 := 0) B 2 (by decide +kernel) rfl rfl ?_
    refine aw_getr (c := 22) B lkX5_24 (by decide +kernel) rfl (r := 27) rfl ?_
    refine aw_iconst (n := 3) (v := (3 : Int32)) B (by decide +kernel) (by decide) ?_
    refine aw_iaload B (by decide +kernel) ?_
    refine aw_isub B (by decide +kernel) ?_
    refine aw_iconst (n := 2) (v := (2 : Int32)) B (by decide +kernel) (by decide) ?_
    refine aw_idivK B (by decide +kernel) (by decide) ?_
    refine aw_iadd B (by decide +kernel) ?_
    refine aw_goto (off := 7) B 96 (by decide +kernel) (by decide) ?_
    exact aw_sub [4, 1] rfl (w_X5_hundredths_b96 hG B _ _ _ _)
theorem c_X5_hundredths (l : Launch) {G : GW} (hG : ab_ok G) (v2 : Int32) (v3 : Int32) (v4 : Int32) (M : Mem) : AC l G yX5_hundredths cX5_hundredths 9 (some .int) 4 [.ref 22, .ref 1, .int v2, .int v3, .int v4] M embI (f_X5_hundredths v2 v3 v4 M) := AC.of hG (by decide) (Nat.le_of_ble_eq_true rfl) (fun E hE B => by subst hE; exact w_X5_hundredths hG B v2 v3 v4 M)
