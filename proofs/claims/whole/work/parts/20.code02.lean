def f_X5_readNumber_b48 (v1 : Int32) (M : Mem) : Option Mem := (f_X5_addStep (48 : Int32) v1 M).bind fun M2 => (some M2)
set_option maxRecDepth 100000 in
set_option maxHeartbeats 4000000 in
theorem w_X5_readNumber_b48 {G : GW} {E : EE} (hG : ab_ok G) (B : Bx G E RX5 cX5_readNumber 3 3 none) (v1 : Int32) (M : Mem) : AWo G E cX5_readNumber 3 (ab_Q G E embV) 48 [(0, .ref 22), (1, .int v1)] [] M (f_X5_readNumber_b48 v1 M) := by
  unfold f_X5_readNumber_b48
  refine aw_aload_n (k0 := 0) B 0 (by decide +kernel) rfl rfl ?_
  refine aw_bipush (n := 48) (v := (48 : Int32)) B (by decide +kernel) (by decide) ?_
  refine aw_iload_n (k0 := 1) B 1 (by decide +kernel) rfl rfl ?_
  refine aw_cVV B (c_X5_addStep (eLa E) hG (48 : Int32) v1 M) cvX5_64 rfl rfl (Nat.le_of_ble_eq_true rfl) rfl (Nat.le_of_ble_eq_true rfl) (by decide +kernel) rfl (fun M2 => ?_)
  exact aw_vreturn B (by decide +kernel) rfl
def f_X5_readNumber_L4 : Nat → Int32 → Int32 → Mem → Option Mem
  | 0, _, _, _ => none
  | n + 1, v1, v2, M => (if (4 : Int32) ≤ v2 then f_X5_readNumber_b48 v1 M else (f_X5_sign M).bind fun x1 => (f_X5_isDigit x1).bind fun x3 => (if x3 = 0 then f_X5_readNumber_b48 v1 M else (f_X5_sign M).bind fun x5 => lt (((v1 * (10 : Int32)) + x5) - (48 : Int32)) fun x7 => lt (wI M 22 2 ((M.1 22 2) + (1 : Int32))) fun M8 => f_X5_readNumber_L4 n x7 (v2 + 1) M8))
set_option maxRecDepth 100000 in
set_option maxHeartbeats 4000000 in
theorem w_X5_readNumber_L4 {G : GW} {E : EE} (hG : ab_ok G) (B : Bx G E RX5 cX5_readNumber 3 3 none) : ∀ (n : Nat) (v1 : Int32) (v2 : Int32) (M : Mem), AWo G E cX5_readNumber 3 (ab_Q G E embV) 4 [(0, .ref 22), (1, .int v1), (2, .int v2)] [] M (f_X5_readNumber_L4 n v1 v2 M) := by
  intro n
  induction n with
  | zero => intro _ _ _; exact aw_none
  | succ n ih =>
    intro v1 v2 M
    rw [f_X5_readNumber_L4]
    refine aw_iload_n (k0 := 2) B 2 (by decide +kernel) rfl rfl ?_
    refine aw_iconst (n := 4) (v := (4 : Int32)) B (by decide +kernel) (by decide) ?_
    refine aw_icmp_ge (off := 42) B 48 (by decide +kernel) (by decide) (fun _ => ?_) (fun _ => ?_)
    · exact aw_sub [0, 1] rfl (w_X5_readNumber_b48 hG B _ _)
    · refine aw_aload_n (k0 := 0) B 0 (by decide +kernel) rfl rfl ?_
      refine aw_cVR B (c_X5_sign (eLa E) hG M) cvX5_46 rfl rfl (Nat.le_of_ble_eq_true rfl) rfl (Nat.le_of_ble_eq_true rfl) (by decide +kernel) rfl (fun x1 => ?_)
      refine aw_cSR B (c_X5_isDigit (eLa E) hG x1 M) csX5_87 (Nat.le_of_ble_eq_true rfl) rfl (Nat.le_of_ble_eq_true rfl) (by decide +kernel) rfl (fun x3 => ?_)
      refine aw_if_eq (off := 32) B 48 (by decide +kernel) (by decide) (fun _ => ?_) (fun _ => ?_)
      · exact aw_sub [0, 1] rfl (w_X5_readNumber_b48 hG B _ _)
      · refine aw_iload_n (k0 := 1) B 1 (by decide +kernel) rfl rfl ?_
        refine aw_bipush (n := 10) (v := (10 : Int32)) B (by decide +kernel) (by decide) ?_
        refine aw_imul B (by decide +kernel) ?_
        refine aw_aload_n (k0 := 0) B 0 (by decide +kernel) rfl rfl ?_
        refine aw_cVR B (c_X5_sign (eLa E) hG M) cvX5_46 rfl rfl (Nat.le_of_ble_eq_true rfl) rfl (Nat.le_of_ble_eq_true rfl) (by decide +kernel) rfl (fun x5 => ?_)
        refine aw_iadd B (by decide +kernel) ?_
        refine aw_bipush (n := 48) (v := (48 : Int32)) B (by decide +kernel) (by decide) ?_
        refine aw_isub B (by decide +kernel) ?_
        refine aw_ltI (fun x7 => ?_)
        refine aw_istore_n (k0 := 1) B [(1, .int x7), (0, .ref 22), (2, .int v2)] (by decide +kernel) rfl (Nat.le_of_ble_eq_true rfl) rfl ?_
        refine aw_aload_n (k0 := 0) B 1 (by decide +kernel) rfl rfl ?_
        refine aw_dup B (by decide +kernel) rfl ?_
        refine aw_geti (c := 22) B lkX5_31 (by decide +kernel) rfl ?_
        refine aw_iconst (n := 1) (v := (1 : Int32)) B (by decide +kernel) (by decide) ?_
        refine aw_iadd B (by decide +kernel) ?_
        refine aw_puti (c := 22) B lkX5_31 lp5_2 (by decide +kernel) rfl (fun M8 => ?_)
        refine aw_iinc (i := 2) (n := 1) B 2 [(2, .int (v2 + 1)), (1, .int x7), (0, .ref 22)] (by decide +kernel) rfl (Nat.le_of_ble_eq_true rfl) (v2 + 1) (ab_inc (by decide)) rfl ?_
        refine aw_goto (off := -41) B 4 (by decide +kernel) (by decide) ?_
        exact aw_sub [2, 1, 0] rfl (ih _ _ _)
def f_X5_readNumber (M : Mem) : Option Mem := f_X5_readNumber_L4 FU (0 : Int32) (0 : Int32) M
set_option maxRecDepth 100000 in
set_option maxHeartbeats 4000000 in
theorem w_X5_readNumber {G : GW} {E : EE} (hG : ab_ok G) (B : Bx G E RX5 cX5_readNumber 3 3 none) (M : Mem) : AWo G E cX5_readNumber 3 (ab_Q G E embV) 0 [(0, .ref 22)] [] M (f_X5_readNumber M) := by
  unfold f_X5_readNumber
  refine aw_iconst (n := 0) (v := (0 : Int32)) B (by decide +kernel) (by decide) ?_
  refine aw_istore_n (k0 := 1) B [(1, .int (0 : Int32)), (0, .ref 22)] (by decide +kernel) rfl (Nat.le_of_ble_eq_true rfl) rfl ?_
  refine aw_iconst (n := 0) (v := (0 : Int32)) B (by decide +kernel) (by decide) ?_
  refine aw_istore_n (k0 := 2) B [(2, .int (0 : Int32)), (1, .int (0 : Int32)), (0, .ref 22)] (by decide +kernel) rfl (Nat.le_of_ble_eq_true rfl) rfl ?_
  exact aw_sub [2, 1, 0] rfl (w_X5_readNumber_L4 hG B FU _ _ _)
theorem c_X5_readNumber (l : Launch) {G : GW} (hG : ab_ok G) (M : Mem) : AC l G yX5_readNumber cX5_readNumber 3 none 3 [.ref 22] M embV (f_X5_readNumber M) := AC.of hG (by decide) (Nat.le_of_ble_eq_true rfl) (fun E hE B => by subst hE; exact w_X5_readNumber hG B M)
def f_X5_nameOf (v0 : Int32) : Option Int32 := (if v0 = (97 : Int32) then (some (0 : Int32)) else if v0 = (98 : Int32) then (some (1 : Int32)) else if v0 = (114 : Int32) then (some (4 : Int32)) else if v0 = (120 : Int32) then (some (2 : Int32)) else if v0 = (121 : Int32) then (some (3 : Int32)) else (some (-1 : Int32)))
set_option maxRecDepth 100000 in
set_option maxHeartbeats 4000000 in
theorem w_X5_nameOf {G : GW} {E : EE} (hG : ab_ok G) (B : Bx G E RX5 cX5_nameOf 1 2 (some .int)) (v0 : Int32) (M : Mem) : AWo G E cX5_nameOf 1 (ab_Q G E (embRI M)) 0 [(0, .int v0)] [] M (f_X5_nameOf v0) := by
  unfold f_X5_nameOf
  refine aw_iload_n (k0 := 0) B 0 (by decide +kernel) rfl rfl ?_
  refine aw_ite (fun h1_0 => ?_) (fun h1_0 => ?_)
  · refine aw_lkpK (k0 := (97 : Int32)) (dflt := 61) (ps := #[(97, 51), (98, 53), (114, 59), (120, 55), (121, 57)]) (len := 51) (off := 51) B 52 (by decide +kernel) (by decide +kernel) h1_0 (by decide +kernel) (by decide) ?_
    refine aw_iconst (n := 0) (v := (0 : Int32)) B (by decide +kernel) (by decide) ?_
    exact aw_ireturn B (by decide +kernel) rfl
  refine aw_ite (fun h1_1 => ?_) (fun h1_1 => ?_)
  · refine aw_lkpK (k0 := (98 : Int32)) (dflt := 61) (ps := #[(97, 51), (98, 53), (114, 59), (120, 55), (121, 57)]) (len := 51) (off := 53) B 54 (by decide +kernel) (by decide +kernel) h1_1 (by decide +kernel) (by decide) ?_
    refine aw_iconst (n := 1) (v := (1 : Int32)) B (by decide +kernel) (by decide) ?_
    exact aw_ireturn B (by decide +kernel) rfl
  refine aw_ite (fun h1_2 => ?_) (fun h1_2 => ?_)
  · refine aw_lkpK (k0 := (114 : Int32)) (dflt := 61) (ps := #[(97, 51), (98, 53), (114, 59), (120, 55), (121, 57)]) (len := 51) (off := 59) B 60 (by decide +kernel) (by decide +kernel) h1_2 (by decide +kernel) (by decide) ?_
    refine aw_iconst (n := 4) (v := (4 : Int32)) B (by decide +kernel) (by decide) ?_
    exact aw_ireturn B (by decide +kernel) rfl
  refine aw_ite (fun h1_3 => ?_) (fun h1_3 => ?_)
  · refine aw_lkpK (k0 := (120 : Int32)) (dflt := 61) (ps := #[(97, 51), (98, 53), (114, 59), (120, 55), (121, 57)]) (len := 51) (off := 55) B 56 (by decide +kernel) (by decide +kernel) h1_3 (by decide +kernel) (by decide) ?_
    refine aw_iconst (n := 2) (v := (2 : Int32)) B (by decide +kernel) (by decide) ?_
    exact aw_ireturn B (by decide +kernel) rfl
  refine aw_ite (fun h1_4 => ?_) (fun h1_4 => ?_)
  · refine aw_lkpK (k0 := (121 : Int32)) (dflt := 61) (ps := #[(97, 51), (98, 53), (114, 59), (120, 55), (121, 57)]) (len := 51) (off := 57) B 58 (by decide +kernel) (by decide +kernel) h1_4 (by decide +kernel) (by decide) ?_
    refine aw_iconst (n := 3) (v := (3 : Int32)) B (by decide +kernel) (by decide) ?_
    exact aw_ireturn B (by decide +kernel) rfl
  · refine aw_lkp (dflt := 61) (ps := #[(97, 51), (98, 53), (114, 59), (120, 55), (121, 57)]) (len := 51) (off := 61) B 62 (by decide +kernel) (by decide +kernel) ((lv_osw h1_0 (by decide)).trans ((lv_osw h1_1 (by decide)).trans ((lv_osw h1_2 (by decide)).trans ((lv_osw h1_3 (by decide)).trans ((lv_osw h1_4 (by decide)).trans (rfl)))))) (by decide) ?_
    refine aw_iconst (n := -1) (v := (-1 : Int32)) B (by decide +kernel) (by decide) ?_
    exact aw_ireturn B (by decide +kernel) rfl
theorem c_X5_nameOf (l : Launch) {G : GW} (hG : ab_ok G) (v0 : Int32) (M : Mem) : AC l G yX5_nameOf cX5_nameOf 1 (some .int) 2 [.int v0] M (embRI M) (f_X5_nameOf v0) := AC.of hG (by decide) (Nat.le_of_ble_eq_true rfl) (fun E hE B => by subst hE; exact w_X5_nameOf hG B v0 M)
def f_X5_comes_b13 (s0 : Int32) (M : Mem) : Option (Int32 × Mem) := (if s0 = 0 then ck (okB s0) (some (s0, M)) else lt (wI M 22 2 ((M.1 22 2) + (1 : Int32))) fun M1 => ck (okB s0) (some (s0, M1)))
set_option maxRecDepth 100000 in
set_option maxHeartbeats 4000000 in
theorem w_X5_comes_b13 {G : GW} {E : EE} (hG : ab_ok G) (B : Bx G E RX5 cX5_comes 3 3 (some .boolean)) (s0 : Int32) (M : Mem) : AWo G E cX5_comes 3 (ab_Q G E embI) 13 [(0, .ref 22)] [.int s0] M (f_X5_comes_b13 s0 M) := by
  unfold f_X5_comes_b13
  refine aw_istore_n (k0 := 2) B [(2, .int s0), (0, .ref 22)] (by decide +kernel) rfl (Nat.le_of_ble_eq_true rfl) rfl ?_
  refine aw_iload_n (k0 := 2) B 0 (by decide +kernel) rfl rfl ?_
  refine aw_if_eq (off := 13) B 28 (by decide +kernel) (by decide) (fun _ => ?_) (fun _ => ?_)
  · refine aw_iload_n (k0 := 2) B 0 (by decide +kernel) rfl rfl ?_
    exact aw_zreturn B (by decide +kernel) rfl
  · refine aw_aload_n (k0 := 0) B 1 (by decide +kernel) rfl rfl ?_
    refine aw_dup B (by decide +kernel) rfl ?_
    refine aw_geti (c := 22) B lkX5_31 (by decide +kernel) rfl ?_
    refine aw_iconst (n := 1) (v := (1 : Int32)) B (by decide +kernel) (by decide) ?_
    refine aw_iadd B (by decide +kernel) ?_
    refine aw_puti (c := 22) B lkX5_31 lp5_2 (by decide +kernel) rfl (fun M1 => ?_)
    refine aw_iload_n (k0 := 2) B 0 (by decide +kernel) rfl rfl ?_
    exact aw_zreturn B (by decide +kernel) rfl
def f_X5_comes (v1 : Int32) (M : Mem) : Option (Int32 × Mem) := (f_X5_sign M).bind fun x1 => (if x1 = v1 then f_X5_comes_b13 (1 : Int32) M else f_X5_comes_b13 (0 : Int32) M)
set_option maxRecDepth 100000 in
set_option maxHeartbeats 4000000 in
theorem w_X5_comes {G : GW} {E : EE} (hG : ab_ok G) (B : Bx G E RX5 cX5_comes 3 3 (some .boolean)) (v1 : Int32) (M : Mem) : AWo G E cX5_comes 3 (ab_Q G E embI) 0 [(0, .ref 22), (1, .int v1)] [] M (f_X5_comes v1 M) := by
  unfold f_X5_comes
  refine aw_aload_n (k0 := 0) B 0 (by decide +kernel) rfl rfl ?_
  refine aw_cVR B (c_X5_sign (eLa E) hG M) cvX5_46 rfl rfl (Nat.le_of_ble_eq_true rfl) rfl (Nat.le_of_ble_eq_true rfl) (by decide +kernel) rfl (fun x1 => ?_)
  refine aw_iload_n (k0 := 1) B 1 (by decide +kernel) rfl rfl ?_
  refine aw_icmp_ne (off := 7) B 12 (by decide +kernel) (by decide) (fun _ => ?_) (fun _ => ?_)
  · refine aw_iconst (n := 0) (v := (0 : Int32)) B (by decide +kernel) (by decide) ?_
    exact aw_sub [0] rfl (w_X5_comes_b13 hG B _ _)
  · refine aw_iconst (n := 1) (v := (1 : Int32)) B (by decide +kernel) (by decide) ?_
    refine aw_goto (off := 4) B 13 (by decide +kernel) (by decide) ?_
    exact aw_sub [0] rfl (w_X5_comes_b13 hG B _ _)
theorem c_X5_comes (l : Launch) {G : GW} (hG : ab_ok G) (v1 : Int32) (M : Mem) : AC l G yX5_comes cX5_comes 3 (some .boolean) 3 [.ref 22, .int v1] M embI (f_X5_comes v1 M) := AC.of hG (by decide) (Nat.le_of_ble_eq_true rfl) (fun E hE B => by subst hE; exact w_X5_comes hG B v1 M)
def f_X5_failHere (M : Mem) : Option Mem := (if 0 ≤ (M.1 22 3) then (some M) else lt (wI M 22 3 (M.1 22 2)) fun M1 => (some M1))
set_option maxRecDepth 100000 in
set_option maxHeartbeats 4000000 in
theorem w_X5_failHere {G : GW} {E : EE} (hG : ab_ok G) (B : Bx G E RX5 cX5_failHere 1 2 none) (M : Mem) : AWo G E cX5_failHere 1 (ab_Q G E embV) 0 [(0, .ref 22)] [] M (f_X5_failHere M) := by
  unfold f_X5_failHere
  refine aw_aload_n (k0 := 0) B 0 (by decide +kernel) rfl rfl ?_
  refine aw_geti (c := 22) B lkX5_34 (by decide +kernel) rfl ?_
  refine aw_if_ge (off := 11) B 15 (by decide +kernel) (by decide) (fun _ => ?_) (fun _ => ?_)
  · exact aw_vreturn B (by decide +kernel) rfl
  · refine aw_aload_n (k0 := 0) B 0 (by decide +kernel) rfl rfl ?_
    refine aw_aload_n (k0 := 0) B 0 (by decide +kernel) rfl rfl ?_
    refine aw_geti (c := 22) B lkX5_31 (by decide +kernel) rfl ?_
    refine aw_puti (c := 22) B lkX5_34 lp5_3 (by decide +kernel) rfl (fun M1 => ?_)
    exact aw_vreturn B (by decide +kernel) rfl
theorem c_X5_failHere (l : Launch) {G : GW} (hG : ab_ok G) (M : Mem) : AC l G yX5_failHere cX5_failHere 1 none 2 [.ref 22] M embV (f_X5_failHere M) := AC.of hG (by decide) (Nat.le_of_ble_eq_true rfl) (fun E hE B => by subst hE; exact w_X5_failHere hG B M)
def f_X5_comesOf_b26 (v4 : Int32) (M : Mem) : Option (Int32 × Mem) := lt (wI M 22 2 ((M.1 22 2) + (1 : Int32))) fun M1 => (some (v4, M1))
set_option maxRecDepth 100000 in
set_option maxHeartbeats 4000000 in
theorem w_X5_comesOf_b26 {G : GW} {E : EE} (hG : ab_ok G) (B : Bx G E RX5 cX5_comesOf 5 3 (some .int)) (v4 : Int32) (M : Mem) : AWo G E cX5_comesOf 5 (ab_Q G E embI) 26 [(0, .ref 22), (4, .int v4)] [] M (f_X5_comesOf_b26 v4 M) := by
  unfold f_X5_comesOf_b26
  refine aw_aload_n (k0 := 0) B 0 (by decide +kernel) rfl rfl ?_
  refine aw_dup B (by decide +kernel) rfl ?_
  refine aw_geti (c := 22) B lkX5_31 (by decide +kernel) rfl ?_
  refine aw_iconst (n := 1) (v := (1 : Int32)) B (by decide +kernel) (by decide) ?_
  refine aw_iadd B (by decide +kernel) ?_
  refine aw_puti (c := 22) B lkX5_31 lp5_2 (by decide +kernel) rfl (fun M1 => ?_)
  refine aw_iload (i := 4) B 1 (by decide +kernel) rfl ?_
  exact aw_ireturn B (by decide +kernel) rfl
def f_X5_comesOf (v1 : Int32) (v2 : Int32) (v3 : Int32) (M : Mem) : Option (Int32 × Mem) := (f_X5_sign M).bind fun x1 => (if x1 = v1 then f_X5_comesOf_b26 x1 M else (if x1 = v2 then f_X5_comesOf_b26 x1 M else (if x1 = v3 then f_X5_comesOf_b26 x1 M else (some ((-1 : Int32), M)))))
set_option maxRecDepth 100000 in
set_option maxHeartbeats 4000000 in
theorem w_X5_comesOf {G : GW} {E : EE} (hG : ab_ok G) (B : Bx G E RX5 cX5_comesOf 5 3 (some .int)) (v1 : Int32) (v2 : Int32) (v3 : Int32) (M : Mem) : AWo G E cX5_comesOf 5 (ab_Q G E embI) 0 [(0, .ref 22), (1, .int v1), (2, .int v2), (3, .int v3)] [] M (f_X5_comesOf v1 v2 v3 M) := by
  unfold f_X5_comesOf
  refine aw_aload_n (k0 := 0) B 0 (by decide +kernel) rfl rfl ?_
  refine aw_cVR B (c_X5_sign (eLa E) hG M) cvX5_46 rfl rfl (Nat.le_of_ble_eq_true rfl) rfl (Nat.le_of_ble_eq_true rfl) (by decide +kernel) rfl (fun x1 => ?_)
  refine aw_istore (i := 4) B [(4, .int x1), (0, .ref 22), (1, .int v1), (2, .int v2), (3, .int v3)] (by decide +kernel) (Nat.le_of_ble_eq_true rfl) rfl ?_
  refine aw_iload (i := 4) B 0 (by decide +kernel) rfl ?_
  refine aw_iload_n (k0 := 1) B 2 (by decide +kernel) rfl rfl ?_
  refine aw_icmp_eq (off := 17) B 26 (by decide +kernel) (by decide) (fun _ => ?_) (fun _ => ?_)
  · exact aw_sub [1, 0] rfl (w_X5_comesOf_b26 hG B _ _)
  · refine aw_iload (i := 4) B 0 (by decide +kernel) rfl ?_
    refine aw_iload_n (k0 := 2) B 3 (by decide +kernel) rfl rfl ?_
    refine aw_icmp_eq (off := 11) B 26 (by decide +kernel) (by decide) (fun _ => ?_) (fun _ => ?_)
    · exact aw_sub [1, 0] rfl (w_X5_comesOf_b26 hG B _ _)
    · refine aw_iload (i := 4) B 0 (by decide +kernel) rfl ?_
      refine aw_iload_n (k0 := 3) B 4 (by decide +kernel) rfl rfl ?_
      refine aw_icmp_eq (off := 5) B 26 (by decide +kernel) (by decide) (fun _ => ?_) (fun _ => ?_)
      · exact aw_sub [1, 0] rfl (w_X5_comesOf_b26 hG B _ _)
      · refine aw_iconst (n := -1) (v := (-1 : Int32)) B (by decide +kernel) (by decide) ?_
        exact aw_ireturn B (by decide +kernel) rfl
theorem c_X5_comesOf (l : Launch) {G : GW} (hG : ab_ok G) (v1 : Int32) (v2 : Int32) (v3 : Int32) (M : Mem) : AC l G yX5_comesOf cX5_comesOf 5 (some .int) 3 [.ref 22, .int v1, .int v2, .int v3] M embI (f_X5_comesOf v1 v2 v3 M) := AC.of hG (by decide) (Nat.le_of_ble_eq_true rfl) (fun E hE B => by subst hE; exact w_X5_comesOf hG B v1 v2 v3 M)
def f_X5_readProduct_L18 (rc : Int32 → Mem → Option Mem) : Nat → Int32 → Int32 → Int32 → Mem → Option Mem
  | 0, _, _, _, _ => none
  | n + 1, v1, v2, v3, M => (if (120 : Int32) ≤ v3 then (some M) else (if v2 = (-1 : Int32) then (some M) else (rc v1 M).bind fun M2 => (f_X5_addStep v2 (0 : Int32) M2).bind fun M4 => bI (f_X5_comesOf (42 : Int32) (47 : Int32) (37 : Int32) M4) fun x5 M6 => f_X5_readProduct_L18 rc n v1 x5 (v3 + 1) M6))
set_option maxRecDepth 100000 in
set_option maxHeartbeats 4000000 in
theorem w_X5_readProduct_L18 {G : GW} {E : EE} (hG : ab_ok G) {rc : Int32 → Mem → Option Mem} (lv0 : Nat) (hl0 : 4 ≤ lv0) (hrc : ∀ (v1 : Int32) (M : Mem), AC (eLa E) G yX5_readOne cX5_readOne 3 none lv0 [.ref 22, .int v1] M embV (rc v1 M)) (B : Bx G E RX5 cX5_readProduct 4 (lv0 + 1) none) : ∀ (n : Nat) (v1 : Int32) (v2 : Int32) (v3 : Int32) (M : Mem), AWo G E cX5_readProduct 4 (ab_Q G E embV) 18 [(0, .ref 22), (1, .int v1), (2, .int v2), (3, .int v3)] [] M (f_X5_readProduct_L18 rc n v1 v2 v3 M) := by
  intro n
  induction n with
  | zero => intro _ _ _ _; exact aw_none
  | succ n ih =>
    intro v1 v2 v3 M
    rw [f_X5_readProduct_L18]
    refine aw_iload_n (k0 := 3) B 3 (by decide +kernel) rfl rfl ?_
    refine aw_bipush (n := 120) (v := (120 : Int32)) B (by decide +kernel) (by decide) ?_
    refine aw_icmp_ge (off := 36) B 57 (by decide +kernel) (by decide) (fun _ => ?_) (fun _ => ?_)
    · exact aw_vreturn B (by decide +kernel) rfl
    · refine aw_iload_n (k0 := 2) B 2 (by decide +kernel) rfl rfl ?_
      refine aw_iconst (n := -1) (v := (-1 : Int32)) B (by decide +kernel) (by decide) ?_
      refine aw_icmp_eq (off := 31) B 57 (by decide +kernel) (by decide) (fun _ => ?_) (fun _ => ?_)
      · exact aw_vreturn B (by decide +kernel) rfl
      · refine aw_aload_n (k0 := 0) B 0 (by decide +kernel) rfl rfl ?_
        refine aw_iload_n (k0 := 1) B 1 (by decide +kernel) rfl rfl ?_
        refine aw_cVV B (hrc v1 M) cvX5_84 rfl rfl (by have hF : FD = 40 := rfl; omega) rfl (Nat.le_of_ble_eq_true rfl) (by decide +kernel) rfl (fun M2 => ?_)
        refine aw_aload_n (k0 := 0) B 0 (by decide +kernel) rfl rfl ?_
        refine aw_iload_n (k0 := 2) B 2 (by decide +kernel) rfl rfl ?_
        refine aw_iconst (n := 0) (v := (0 : Int32)) B (by decide +kernel) (by decide) ?_
        refine aw_cVV B (c_X5_addStep (eLa E) hG v2 (0 : Int32) M2) cvX5_64 rfl rfl (by have hF : FD = 40 := rfl; omega) rfl (Nat.le_of_ble_eq_true rfl) (by decide +kernel) rfl (fun M4 => ?_)
        refine aw_aload_n (k0 := 0) B 0 (by decide +kernel) rfl rfl ?_
        refine aw_bipush (n := 42) (v := (42 : Int32)) B (by decide +kernel) (by decide) ?_
        refine aw_bipush (n := 47) (v := (47 : Int32)) B (by decide +kernel) (by decide) ?_
        refine aw_bipush (n := 37) (v := (37 : Int32)) B (by decide +kernel) (by decide) ?_
        refine aw_cVI B (c_X5_comesOf (eLa E) hG (42 : Int32) (47 : Int32) (37 : Int32) M4) cvX5_77 rfl rfl (by have hF : FD = 40 := rfl; omega) rfl (Nat.le_of_ble_eq_true rfl) (by decide +kernel) rfl (fun x5 M6 => ?_)
        refine aw_istore_n (k0 := 2) B [(2, .int x5), (0, .ref 22), (1, .int v1), (3, .int v3)] (by decide +kernel) rfl (Nat.le_of_ble_eq_true rfl) rfl ?_
        refine aw_iinc (i := 3) (n := 1) B 3 [(3, .int (v3 + 1)), (2, .int x5), (0, .ref 22), (1, .int v1)] (by decide +kernel) rfl (Nat.le_of_ble_eq_true rfl) (v3 + 1) (ab_inc (by decide)) rfl ?_
        refine aw_goto (off := -36) B 18 (by decide +kernel) (by decide) ?_
        exact aw_sub [2, 3, 1, 0] rfl (ih _ _ _ _)
def f_X5_readProduct (rc : Int32 → Mem → Option Mem) (v1 : Int32) (M : Mem) : Option Mem := (rc v1 M).bind fun M2 => bI (f_X5_comesOf (42 : Int32) (47 : Int32) (37 : Int32) M2) fun x3 M4 => f_X5_readProduct_L18 rc FU v1 x3 (0 : Int32) M4
set_option maxRecDepth 100000 in
set_option maxHeartbeats 4000000 in
theorem w_X5_readProduct {G : GW} {E : EE} (hG : ab_ok G) {rc : Int32 → Mem → Option Mem} (lv0 : Nat) (hl0 : 4 ≤ lv0) (hrc : ∀ (v1 : Int32) (M : Mem), AC (eLa E) G yX5_readOne cX5_readOne 3 none lv0 [.ref 22, .int v1] M embV (rc v1 M)) (B : Bx G E RX5 cX5_readProduct 4 (lv0 + 1) none) (v1 : Int32) (M : Mem) : AWo G E cX5_readProduct 4 (ab_Q G E embV) 0 [(0, .ref 22), (1, .int v1)] [] M (f_X5_readProduct rc v1 M) := by
  unfold f_X5_readProduct
  refine aw_aload_n (k0 := 0) B 0 (by decide +kernel) rfl rfl ?_
  refine aw_iload_n (k0 := 1) B 1 (by decide +kernel) rfl rfl ?_
  refine aw_cVV B (hrc v1 M) cvX5_84 rfl rfl (by have hF : FD = 40 := rfl; omega) rfl (Nat.le_of_ble_eq_true rfl) (by decide +kernel) rfl (fun M2 => ?_)
  refine aw_aload_n (k0 := 0) B 0 (by decide +kernel) rfl rfl ?_
  refine aw_bipush (n := 42) (v := (42 : Int32)) B (by decide +kernel) (by decide) ?_
  refine aw_bipush (n := 47) (v := (47 : Int32)) B (by decide +kernel) (by decide) ?_
  refine aw_bipush (n := 37) (v := (37 : Int32)) B (by decide +kernel) (by decide) ?_
  refine aw_cVI B (c_X5_comesOf (eLa E) hG (42 : Int32) (47 : Int32) (37 : Int32) M2) cvX5_77 rfl rfl (by have hF : FD = 40 := rfl; omega) rfl (Nat.le_of_ble_eq_true rfl) (by decide +kernel) rfl (fun x3 M4 => ?_)
  refine aw_istore_n (k0 := 2) B [(2, .int x3), (0, .ref 22), (1, .int v1)] (by decide +kernel) rfl (Nat.le_of_ble_eq_true rfl) rfl ?_
  refine aw_iconst (n := 0) (v := (0 : Int32)) B (by decide +kernel) (by decide) ?_
  refine aw_istore_n (k0 := 3) B [(3, .int (0 : Int32)), (2, .int x3), (0, .ref 22), (1, .int v1)] (by decide +kernel) rfl (Nat.le_of_ble_eq_true rfl) rfl ?_
  exact aw_sub [2, 3, 1, 0] rfl (w_X5_readProduct_L18 hG lv0 hl0 hrc B FU _ _ _ _)
theorem oc_X5_readProduct (l : Launch) {G : GW} (hG : ab_ok G) {rc : Int32 → Mem → Option Mem} (lv0 : Nat) (hl0 : 4 ≤ lv0) (hrc : ∀ (v1 : Int32) (M : Mem), AC l G yX5_readOne cX5_readOne 3 none lv0 [.ref 22, .int v1] M embV (rc v1 M)) (v1 : Int32) (M : Mem) : AC l G yX5_readProduct cX5_readProduct 4 none (lv0 + 1) [.ref 22, .int v1] M embV (f_X5_readProduct rc v1 M) := AC.of hG (by decide) (Nat.le_of_ble_eq_true rfl) (fun E hE B => by subst hE; exact w_X5_readProduct hG lv0 hl0 hrc B v1 M)
def f_X5_readSum_L18 (rc : Int32 → Mem → Option Mem) : Nat → Int32 → Int32 → Int32 → Mem → Option Mem
  | 0, _, _, _, _ => none
  | n + 1, v1, v2, v3, M => (if (120 : Int32) ≤ v3 then (some M) else (if v2 = (-1 : Int32) then (some M) else (f_X5_readProduct rc v1 M).bind fun M2 => (f_X5_addStep v2 (0 : Int32) M2).bind fun M4 => bI (f_X5_comesOf (43 : Int32) (45 : Int32) (45 : Int32) M4) fun x5 M6 => f_X5_readSum_L18 rc n v1 x5 (v3 + 1) M6))
set_option maxRecDepth 100000 in
set_option maxHeartbeats 4000000 in
theorem w_X5_readSum_L18 {G : GW} {E : EE} (hG : ab_ok G) {rc : Int32 → Mem → Option Mem} (lv0 : Nat) (hl0 : 4 ≤ lv0) (hrc : ∀ (v1 : Int32) (M : Mem), AC (eLa E) G yX5_readOne cX5_readOne 3 none lv0 [.ref 22, .int v1] M embV (rc v1 M)) (B : Bx G E RX5 cX5_readSum 4 (lv0 + 2) none) : ∀ (n : Nat) (v1 : Int32) (v2 : Int32) (v3 : Int32) (M : Mem), AWo G E cX5_readSum 4 (ab_Q G E embV) 18 [(0, .ref 22), (1, .int v1), (2, .int v2), (3, .int v3)] [] M (f_X5_readSum_L18 rc n v1 v2 v3 M) := by
  intro n
  induction n with
  | zero => intro _ _ _ _; exact aw_none
  | succ n ih =>
    intro v1 v2 v3 M
    rw [f_X5_readSum_L18]
    refine aw_iload_n (k0 := 3) B 3 (by decide +kernel) rfl rfl ?_
    refine aw_bipush (n := 120) (v := (120 : Int32)) B (by decide +kernel) (by decide) ?_
    refine aw_icmp_ge (off := 36) B 57 (by decide +kernel) (by decide) (fun _ => ?_) (fun _ => ?_)
    · exact aw_vreturn B (by decide +kernel) rfl
    · refine aw_iload_n (k0 := 2) B 2 (by decide +kernel) rfl rfl ?_
      refine aw_iconst (n := -1) (v := (-1 : Int32)) B (by decide +kernel) (by decide) ?_
      refine aw_icmp_eq (off := 31) B 57 (by decide +kernel) (by decide) (fun _ => ?_) (fun _ => ?_)
      · exact aw_vreturn B (by decide +kernel) rfl
      · refine aw_aload_n (k0 := 0) B 0 (by decide +kernel) rfl rfl ?_
        refine aw_iload_n (k0 := 1) B 1 (by decide +kernel) rfl rfl ?_
        refine aw_cVV B (oc_X5_readProduct (eLa E) hG lv0 hl0 hrc v1 M) cvX5_81 rfl rfl (by have hF : FD = 40 := rfl; omega) rfl (Nat.le_of_ble_eq_true rfl) (by decide +kernel) rfl (fun M2 => ?_)
        refine aw_aload_n (k0 := 0) B 0 (by decide +kernel) rfl rfl ?_
        refine aw_iload_n (k0 := 2) B 2 (by decide +kernel) rfl rfl ?_
        refine aw_iconst (n := 0) (v := (0 : Int32)) B (by decide +kernel) (by decide) ?_
        refine aw_cVV B (c_X5_addStep (eLa E) hG v2 (0 : Int32) M2) cvX5_64 rfl rfl (by have hF : FD = 40 := rfl; omega) rfl (Nat.le_of_ble_eq_true rfl) (by decide +kernel) rfl (fun M4 => ?_)
        refine aw_aload_n (k0 := 0) B 0 (by decide +kernel) rfl rfl ?_
        refine aw_bipush (n := 43) (v := (43 : Int32)) B (by decide +kernel) (by decide) ?_
        refine aw_bipush (n := 45) (v := (45 : Int32)) B (by decide +kernel) (by decide) ?_
        refine aw_bipush (n := 45) (v := (45 : Int32)) B (by decide +kernel) (by decide) ?_
        refine aw_cVI B (c_X5_comesOf (eLa E) hG (43 : Int32) (45 : Int32) (45 : Int32) M4) cvX5_77 rfl rfl (by have hF : FD = 40 := rfl; omega) rfl (Nat.le_of_ble_eq_true rfl) (by decide +kernel) rfl (fun x5 M6 => ?_)
        refine aw_istore_n (k0 := 2) B [(2, .int x5), (0, .ref 22), (1, .int v1), (3, .int v3)] (by decide +kernel) rfl (Nat.le_of_ble_eq_true rfl) rfl ?_
        refine aw_iinc (i := 3) (n := 1) B 3 [(3, .int (v3 + 1)), (2, .int x5), (0, .ref 22), (1, .int v1)] (by decide +kernel) rfl (Nat.le_of_ble_eq_true rfl) (v3 + 1) (ab_inc (by decide)) rfl ?_
        refine aw_goto (off := -36) B 18 (by decide +kernel) (by decide) ?_
        exact aw_sub [2, 3, 1, 0] rfl (ih _ _ _ _)
def f_X5_readSum (rc : Int32 → Mem → Option Mem) (v1 : Int32) (M : Mem) : Option Mem := (f_X5_readProduct rc v1 M).bind fun M2 => bI (f_X5_comesOf (43 : Int32) (45 : Int32) (45 : Int32) M2) fun x3 M4 => f_X5_readSum_L18 rc FU v1 x3 (0 : Int32) M4
set_option maxRecDepth 100000 in
set_option maxHeartbeats 4000000 in
theorem w_X5_readSum {G : GW} {E : EE} (hG : ab_ok G) {rc : Int32 → Mem → Option Mem} (lv0 : Nat) (hl0 : 4 ≤ lv0) (hrc : ∀ (v1 : Int32) (M : Mem), AC (eLa E) G yX5_readOne cX5_readOne 3 none lv0 [.ref 22, .int v1] M embV (rc v1 M)) (B : Bx G E RX5 cX5_readSum 4 (lv0 + 2) none) (v1 : Int32) (M : Mem) : AWo G E cX5_readSum 4 (ab_Q G E embV) 0 [(0, .ref 22), (1, .int v1)] [] M (f_X5_readSum rc v1 M) := by
  unfold f_X5_readSum
  refine aw_aload_n (k0 := 0) B 0 (by decide +kernel) rfl rfl ?_
  refine aw_iload_n (k0 := 1) B 1 (by decide +kernel) rfl rfl ?_
  refine aw_cVV B (oc_X5_readProduct (eLa E) hG lv0 hl0 hrc v1 M) cvX5_81 rfl rfl (by have hF : FD = 40 := rfl; omega) rfl (Nat.le_of_ble_eq_true rfl) (by decide +kernel) rfl (fun M2 => ?_)
  refine aw_aload_n (k0 := 0) B 0 (by decide +kernel) rfl rfl ?_
  refine aw_bipush (n := 43) (v := (43 : Int32)) B (by decide +kernel) (by decide) ?_
  refine aw_bipush (n := 45) (v := (45 : Int32)) B (by decide +kernel) (by decide) ?_
  refine aw_bipush (n := 45) (v := (45 : Int32)) B (by decide +kernel) (by decide) ?_
  refine aw_cVI B (c_X5_comesOf (eLa E) hG (43 : Int32) (45 : Int32) (45 : Int32) M2) cvX5_77 rfl rfl (by have hF : FD = 40 := rfl; omega) rfl (Nat.le_of_ble_eq_true rfl) (by decide +kernel) rfl (fun x3 M4 => ?_)
  refine aw_istore_n (k0 := 2) B [(2, .int x3), (0, .ref 22), (1, .int v1)] (by decide +kernel) rfl (Nat.le_of_ble_eq_true rfl) rfl ?_
  refine aw_iconst (n := 0) (v := (0 : Int32)) B (by decide +kernel) (by decide) ?_
  refine aw_istore_n (k0 := 3) B [(3, .int (0 : Int32)), (2, .int x3), (0, .ref 22), (1, .int v1)] (by decide +kernel) rfl (Nat.le_of_ble_eq_true rfl) rfl ?_
  exact aw_sub [2, 3, 1, 0] rfl (w_X5_readSum_L18 hG lv0 hl0 hrc B FU _ _ _ _)
theorem oc_X5_readSum (l : Launch) {G : GW} (hG : ab_ok G) {rc : Int32 → Mem → Option Mem} (lv0 : Nat) (hl0 : 4 ≤ lv0) (hrc : ∀ (v1 : Int32) (M : Mem), AC l G yX5_readOne cX5_readOne 3 none lv0 [.ref 22, .int v1] M embV (rc v1 M)) (v1 : Int32) (M : Mem) : AC l G yX5_readSum cX5_readSum 4 none (lv0 + 2) [.ref 22, .int v1] M embV (f_X5_readSum rc v1 M) := AC.of hG (by decide) (Nat.le_of_ble_eq_true rfl) (fun E hE B => by subst hE; exact w_X5_readSum hG lv0 hl0 hrc B v1 M)
def f_X5_readCompared (rc : Int32 → Mem → Option Mem) (v1 : Int32) (M : Mem) : Option Mem := (f_X5_readSum rc v1 M).bind fun M2 => bI (f_X5_comesOf (60 : Int32) (61 : Int32) (62 : Int32) M2) fun x3 M4 => (if x3 = (-1 : Int32) then (some M4) else (f_X5_readSum rc v1 M4).bind fun M6 => (f_X5_addStep x3 (0 : Int32) M6).bind fun M8 => (some M8))
set_option maxRecDepth 100000 in
set_option maxHeartbeats 4000000 in
theorem w_X5_readCompared {G : GW} {E : EE} (hG : ab_ok G) {rc : Int32 → Mem → Option Mem} (lv0 : Nat) (hl0 : 4 ≤ lv0) (hrc : ∀ (v1 : Int32) (M : Mem), AC (eLa E) G yX5_readOne cX5_readOne 3 none lv0 [.ref 22, .int v1] M embV (rc v1 M)) (B : Bx G E RX5 cX5_readCompared 3 (lv0 + 3) none) (v1 : Int32) (M : Mem) : AWo G E cX5_readCompared 3 (ab_Q G E embV) 0 [(0, .ref 22), (1, .int v1)] [] M (f_X5_readCompared rc v1 M) := by
  unfold f_X5_readCompared
  refine aw_aload_n (k0 := 0) B 0 (by decide +kernel) rfl rfl ?_
  refine aw_iload_n (k0 := 1) B 1 (by decide +kernel) rfl rfl ?_
  refine aw_cVV B (oc_X5_readSum (eLa E) hG lv0 hl0 hrc v1 M) cvX5_74 rfl rfl (by have hF : FD = 40 := rfl; omega) rfl (Nat.le_of_ble_eq_true rfl) (by decide +kernel) rfl (fun M2 => ?_)
  refine aw_aload_n (k0 := 0) B 0 (by decide +kernel) rfl rfl ?_
  refine aw_bipush (n := 60) (v := (60 : Int32)) B (by decide +kernel) (by decide) ?_
  refine aw_bipush (n := 61) (v := (61 : Int32)) B (by decide +kernel) (by decide) ?_
  refine aw_bipush (n := 62) (v := (62 : Int32)) B (by decide +kernel) (by decide) ?_
  refine aw_cVI B (c_X5_comesOf (eLa E) hG (60 : Int32) (61 : Int32) (62 : Int32) M2) cvX5_77 rfl rfl (by have hF : FD = 40 := rfl; omega) rfl (Nat.le_of_ble_eq_true rfl) (by decide +kernel) rfl (fun x3 M4 => ?_)
  refine aw_istore_n (k0 := 2) B [(2, .int x3), (0, .ref 22), (1, .int v1)] (by decide +kernel) rfl (Nat.le_of_ble_eq_true rfl) rfl ?_
  refine aw_iload_n (k0 := 2) B 0 (by decide +kernel) rfl rfl ?_
  refine aw_iconst (n := -1) (v := (-1 : Int32)) B (by decide +kernel) (by decide) ?_
  refine aw_icmp_eq (off := 14) B 32 (by decide +kernel) (by decide) (fun _ => ?_) (fun _ => ?_)
  · exact aw_vreturn B (by decide +kernel) rfl
  · refine aw_aload_n (k0 := 0) B 1 (by decide +kernel) rfl rfl ?_
    refine aw_iload_n (k0 := 1) B 2 (by decide +kernel) rfl rfl ?_
    refine aw_cVV B (oc_X5_readSum (eLa E) hG lv0 hl0 hrc v1 M4) cvX5_74 rfl rfl (by have hF : FD = 40 := rfl; omega) rfl (Nat.le_of_ble_eq_true rfl) (by decide +kernel) rfl (fun M6 => ?_)
    refine aw_aload_n (k0 := 0) B 1 (by decide +kernel) rfl rfl ?_
    refine aw_iload_n (k0 := 2) B 0 (by decide +kernel) rfl rfl ?_
    refine aw_iconst (n := 0) (v := (0 : Int32)) B (by decide +kernel) (by decide) ?_
    refine aw_cVV B (c_X5_addStep (eLa E) hG x3 (0 : Int32) M6) cvX5_64 rfl rfl (by have hF : FD = 40 := rfl; omega) rfl (Nat.le_of_ble_eq_true rfl) (by decide +kernel) rfl (fun M8 => ?_)
    exact aw_vreturn B (by decide +kernel) rfl
theorem oc_X5_readCompared (l : Launch) {G : GW} (hG : ab_ok G) {rc : Int32 → Mem → Option Mem} (lv0 : Nat) (hl0 : 4 ≤ lv0) (hrc : ∀ (v1 : Int32) (M : Mem), AC l G yX5_readOne cX5_readOne 3 none lv0 [.ref 22, .int v1] M embV (rc v1 M)) (v1 : Int32) (M : Mem) : AC l G yX5_readCompared cX5_readCompared 3 none (lv0 + 3) [.ref 22, .int v1] M embV (f_X5_readCompared rc v1 M) := AC.of hG (by decide) (Nat.le_of_ble_eq_true rfl) (fun E hE B => by subst hE; exact w_X5_readCompared hG lv0 hl0 hrc B v1 M)
def f_X5_readBoth_L7 (rc : Int32 → Mem → Option Mem) : Nat → Int32 → Int32 → Mem → Option Mem
  | 0, _, _, _ => none
  | n + 1, v1, v2, M => (if (120 : Int32) ≤ v2 then (some M) else bI (f_X5_comes (38 : Int32) M) fun x1 M2 => (if x1 = 0 then (some M2) else (f_X5_readCompared rc v1 M2).bind fun M4 => (f_X5_addStep (38 : Int32) (0 : Int32) M4).bind fun M6 => f_X5_readBoth_L7 rc n v1 (v2 + 1) M6))
set_option maxRecDepth 100000 in
set_option maxHeartbeats 4000000 in
theorem w_X5_readBoth_L7 {G : GW} {E : EE} (hG : ab_ok G) {rc : Int32 → Mem → Option Mem} (lv0 : Nat) (hl0 : 4 ≤ lv0) (hrc : ∀ (v1 : Int32) (M : Mem), AC (eLa E) G yX5_readOne cX5_readOne 3 none lv0 [.ref 22, .int v1] M embV (rc v1 M)) (B : Bx G E RX5 cX5_readBoth 3 (lv0 + 4) none) : ∀ (n : Nat) (v1 : Int32) (v2 : Int32) (M : Mem), AWo G E cX5_readBoth 3 (ab_Q G E embV) 7 [(0, .ref 22), (1, .int v1), (2, .int v2)] [] M (f_X5_readBoth_L7 rc n v1 v2 M) := by
  intro n
  induction n with
  | zero => intro _ _ _; exact aw_none
  | succ n ih =>
    intro v1 v2 M
    rw [f_X5_readBoth_L7]
    refine aw_iload_n (k0 := 2) B 2 (by decide +kernel) rfl rfl ?_
    refine aw_bipush (n := 120) (v := (120 : Int32)) B (by decide +kernel) (by decide) ?_
    refine aw_icmp_ge (off := 30) B 40 (by decide +kernel) (by decide) (fun _ => ?_) (fun _ => ?_)
    · exact aw_vreturn B (by decide +kernel) rfl
    · refine aw_aload_n (k0 := 0) B 0 (by decide +kernel) rfl rfl ?_
      refine aw_bipush (n := 38) (v := (38 : Int32)) B (by decide +kernel) (by decide) ?_
      refine aw_cVI B (c_X5_comes (eLa E) hG (38 : Int32) M) cvX5_53 rfl rfl (by have hF : FD = 40 := rfl; omega) rfl (Nat.le_of_ble_eq_true rfl) (by decide +kernel) rfl (fun x1 M2 => ?_)
      refine aw_if_eq (off := 21) B 40 (by decide +kernel) (by decide) (fun _ => ?_) (fun _ => ?_)
      · exact aw_vreturn B (by decide +kernel) rfl
      · refine aw_aload_n (k0 := 0) B 0 (by decide +kernel) rfl rfl ?_
        refine aw_iload_n (k0 := 1) B 1 (by decide +kernel) rfl rfl ?_
        refine aw_cVV B (oc_X5_readCompared (eLa E) hG lv0 hl0 hrc v1 M2) cvX5_71 rfl rfl (by have hF : FD = 40 := rfl; omega) rfl (Nat.le_of_ble_eq_true rfl) (by decide +kernel) rfl (fun M4 => ?_)
        refine aw_aload_n (k0 := 0) B 0 (by decide +kernel) rfl rfl ?_
        refine aw_bipush (n := 38) (v := (38 : Int32)) B (by decide +kernel) (by decide) ?_
        refine aw_iconst (n := 0) (v := (0 : Int32)) B (by decide +kernel) (by decide) ?_
        refine aw_cVV B (c_X5_addStep (eLa E) hG (38 : Int32) (0 : Int32) M4) cvX5_64 rfl rfl (by have hF : FD = 40 := rfl; omega) rfl (Nat.le_of_ble_eq_true rfl) (by decide +kernel) rfl (fun M6 => ?_)
        refine aw_iinc (i := 2) (n := 1) B 2 [(2, .int (v2 + 1)), (0, .ref 22), (1, .int v1)] (by decide +kernel) rfl (Nat.le_of_ble_eq_true rfl) (v2 + 1) (ab_inc (by decide)) rfl ?_
        refine aw_goto (off := -30) B 7 (by decide +kernel) (by decide) ?_
        exact aw_sub [1, 2, 0] rfl (ih _ _ _)
def f_X5_readBoth (rc : Int32 → Mem → Option Mem) (v1 : Int32) (M : Mem) : Option Mem := (f_X5_readCompared rc v1 M).bind fun M2 => f_X5_readBoth_L7 rc FU v1 (0 : Int32) M2
set_option maxRecDepth 100000 in
set_option maxHeartbeats 4000000 in
theorem w_X5_readBoth {G : GW} {E : EE} (hG : ab_ok G) {rc : Int32 → Mem → Option Mem} (lv0 : Nat) (hl0 : 4 ≤ lv0) (hrc : ∀ (v1 : Int32) (M : Mem), AC (eLa E) G yX5_readOne cX5_readOne 3 none lv0 [.ref 22, .int v1] M embV (rc v1 M)) (B : Bx G E RX5 cX5_readBoth 3 (lv0 + 4) none) (v1 : Int32) (M : Mem) : AWo G E cX5_readBoth 3 (ab_Q G E embV) 0 [(0, .ref 22), (1, .int v1)] [] M (f_X5_readBoth rc v1 M) := by
  unfold f_X5_readBoth
  refine aw_aload_n (k0 := 0) B 0 (by decide +kernel) rfl rfl ?_
  refine aw_iload_n (k0 := 1) B 1 (by decide +kernel) rfl rfl ?_
  refine aw_cVV B (oc_X5_readCompared (eLa E) hG lv0 hl0 hrc v1 M) cvX5_71 rfl rfl (by have hF : FD = 40 := rfl; omega) rfl (Nat.le_of_ble_eq_true rfl) (by decide +kernel) rfl (fun M2 => ?_)
  refine aw_iconst (n := 0) (v := (0 : Int32)) B (by decide +kernel) (by decide) ?_
  refine aw_istore_n (k0 := 2) B [(2, .int (0 : Int32)), (0, .ref 22), (1, .int v1)] (by decide +kernel) rfl (Nat.le_of_ble_eq_true rfl) rfl ?_
  exact aw_sub [1, 2, 0] rfl (w_X5_readBoth_L7 hG lv0 hl0 hrc B FU _ _ _)
theorem oc_X5_readBoth (l : Launch) {G : GW} (hG : ab_ok G) {rc : Int32 → Mem → Option Mem} (lv0 : Nat) (hl0 : 4 ≤ lv0) (hrc : ∀ (v1 : Int32) (M : Mem), AC l G yX5_readOne cX5_readOne 3 none lv0 [.ref 22, .int v1] M embV (rc v1 M)) (v1 : Int32) (M : Mem) : AC l G yX5_readBoth cX5_readBoth 3 none (lv0 + 4) [.ref 22, .int v1] M embV (f_X5_readBoth rc v1 M) := AC.of hG (by decide) (Nat.le_of_ble_eq_true rfl) (fun E hE B => by subst hE; exact w_X5_readBoth hG lv0 hl0 hrc B v1 M)
def f_X5_readEither_L7 (rc : Int32 → Mem → Option Mem) : Nat → Int32 → Int32 → Mem → Option Mem
  | 0, _, _, _ => none
  | n + 1, v1, v2, M => (if (120 : Int32) ≤ v2 then (some M) else bI (f_X5_comes (124 : Int32) M) fun x1 M2 => (if x1 = 0 then (some M2) else (f_X5_readBoth rc v1 M2).bind fun M4 => (f_X5_addStep (124 : Int32) (0 : Int32) M4).bind fun M6 => f_X5_readEither_L7 rc n v1 (v2 + 1) M6))
set_option maxRecDepth 100000 in
set_option maxHeartbeats 4000000 in
theorem w_X5_readEither_L7 {G : GW} {E : EE} (hG : ab_ok G) {rc : Int32 → Mem → Option Mem} (lv0 : Nat) (hl0 : 4 ≤ lv0) (hrc : ∀ (v1 : Int32) (M : Mem), AC (eLa E) G yX5_readOne cX5_readOne 3 none lv0 [.ref 22, .int v1] M embV (rc v1 M)) (B : Bx G E RX5 cX5_readEither 3 (lv0 + 5) none) : ∀ (n : Nat) (v1 : Int32) (v2 : Int32) (M : Mem), AWo G E cX5_readEither 3 (ab_Q G E embV) 7 [(0, .ref 22), (1, .int v1), (2, .int v2)] [] M (f_X5_readEither_L7 rc n v1 v2 M) := by
  intro n
  induction n with
  | zero => intro _ _ _; exact aw_none
  | succ n ih =>
    intro v1 v2 M
    rw [f_X5_readEither_L7]
    refine aw_iload_n (k0 := 2) B 2 (by decide +kernel) rfl rfl ?_
    refine aw_bipush (n := 120) (v := (120 : Int32)) B (by decide +kernel) (by decide) ?_
    refine aw_icmp_ge (off := 30) B 40 (by decide +kernel) (by decide) (fun _ => ?_) (fun _ => ?_)
    · exact aw_vreturn B (by decide +kernel) rfl
    · refine aw_aload_n (k0 := 0) B 0 (by decide +kernel) rfl rfl ?_
      refine aw_bipush (n := 124) (v := (124 : Int32)) B (by decide +kernel) (by decide) ?_
      refine aw_cVI B (c_X5_comes (eLa E) hG (124 : Int32) M) cvX5_53 rfl rfl (by have hF : FD = 40 := rfl; omega) rfl (Nat.le_of_ble_eq_true rfl) (by decide +kernel) rfl (fun x1 M2 => ?_)
      refine aw_if_eq (off := 21) B 40 (by decide +kernel) (by decide) (fun _ => ?_) (fun _ => ?_)
      · exact aw_vreturn B (by decide +kernel) rfl
      · refine aw_aload_n (k0 := 0) B 0 (by decide +kernel) rfl rfl ?_
        refine aw_iload_n (k0 := 1) B 1 (by decide +kernel) rfl rfl ?_
        refine aw_cVV B (oc_X5_readBoth (eLa E) hG lv0 hl0 hrc v1 M2) cvX5_68 rfl rfl (by have hF : FD = 40 := rfl; omega) rfl (Nat.le_of_ble_eq_true rfl) (by decide +kernel) rfl (fun M4 => ?_)
        refine aw_aload_n (k0 := 0) B 0 (by decide +kernel) rfl rfl ?_
        refine aw_bipush (n := 124) (v := (124 : Int32)) B (by decide +kernel) (by decide) ?_
        refine aw_iconst (n := 0) (v := (0 : Int32)) B (by decide +kernel) (by decide) ?_
        refine aw_cVV B (c_X5_addStep (eLa E) hG (124 : Int32) (0 : Int32) M4) cvX5_64 rfl rfl (by have hF : FD = 40 := rfl; omega) rfl (Nat.le_of_ble_eq_true rfl) (by decide +kernel) rfl (fun M6 => ?_)
        refine aw_iinc (i := 2) (n := 1) B 2 [(2, .int (v2 + 1)), (0, .ref 22), (1, .int v1)] (by decide +kernel) rfl (Nat.le_of_ble_eq_true rfl) (v2 + 1) (ab_inc (by decide)) rfl ?_
        refine aw_goto (off := -30) B 7 (by decide +kernel) (by decide) ?_
        exact aw_sub [1, 2, 0] rfl (ih _ _ _)
def f_X5_readEither (rc : Int32 → Mem → Option Mem) (v1 : Int32) (M : Mem) : Option Mem := (f_X5_readBoth rc v1 M).bind fun M2 => f_X5_readEither_L7 rc FU v1 (0 : Int32) M2
set_option maxRecDepth 100000 in
set_option maxHeartbeats 4000000 in
theorem w_X5_readEither {G : GW} {E : EE} (hG : ab_ok G) {rc : Int32 → Mem → Option Mem} (lv0 : Nat) (hl0 : 4 ≤ lv0) (hrc : ∀ (v1 : Int32) (M : Mem), AC (eLa E) G yX5_readOne cX5_readOne 3 none lv0 [.ref 22, .int v1] M embV (rc v1 M)) (B : Bx G E RX5 cX5_readEither 3 (lv0 + 5) none) (v1 : Int32) (M : Mem) : AWo G E cX5_readEither 3 (ab_Q G E embV) 0 [(0, .ref 22), (1, .int v1)] [] M (f_X5_readEither rc v1 M) := by
  unfold f_X5_readEither
  refine aw_aload_n (k0 := 0) B 0 (by decide +kernel) rfl rfl ?_
  refine aw_iload_n (k0 := 1) B 1 (by decide +kernel) rfl rfl ?_
  refine aw_cVV B (oc_X5_readBoth (eLa E) hG lv0 hl0 hrc v1 M) cvX5_68 rfl rfl (by have hF : FD = 40 := rfl; omega) rfl (Nat.le_of_ble_eq_true rfl) (by decide +kernel) rfl (fun M2 => ?_)
  refine aw_iconst (n := 0) (v := (0 : Int32)) B (by decide +kernel) (by decide) ?_
  refine aw_istore_n (k0 := 2) B [(2, .int (0 : Int32)), (0, .ref 22), (1, .int v1)] (by decide +kernel) rfl (Nat.le_of_ble_eq_true rfl) rfl ?_
  exact aw_sub [1, 2, 0] rfl (w_X5_readEither_L7 hG lv0 hl0 hrc B FU _ _ _)
theorem oc_X5_readEither (l : Launch) {G : GW} (hG : ab_ok G) {rc : Int32 → Mem → Option Mem} (lv0 : Nat) (hl0 : 4 ≤ lv0) (hrc : ∀ (v1 : Int32) (M : Mem), AC l G yX5_readOne cX5_readOne 3 none lv0 [.ref 22, .int v1] M embV (rc v1 M)) (v1 : Int32) (M : Mem) : AC l G yX5_readEither cX5_readEither 3 none (lv0 + 5) [.ref 22, .int v1] M embV (f_X5_readEither rc v1 M) := AC.of hG (by decide) (Nat.le_of_ble_eq_true rfl) (fun E hE B => by subst hE; exact w_X5_readEither hG lv0 hl0 hrc B v1 M)
def f_X5_readOne_b151 (rc : Int32 → Mem → Option Mem) (M : Mem) : Option Mem := (f_X5_failHere M).bind fun M2 => (some M2)
set_option maxRecDepth 100000 in
set_option maxHeartbeats 4000000 in
theorem w_X5_readOne_b151 {G : GW} {E : EE} (hG : ab_ok G) {rc : Int32 → Mem → Option Mem} (lv0 : Nat) (hl0 : 4 ≤ lv0) (hrc : ∀ (v1 : Int32) (M : Mem), AC (eLa E) G yX5_readOne cX5_readOne 3 none lv0 [.ref 22, .int v1] M embV (rc v1 M)) (B : Bx G E RX5 cX5_readOne 3 (lv0 + 6) none) (M : Mem) : AWo G E cX5_readOne 3 (ab_Q G E embV) 151 [(0, .ref 22)] [] M (f_X5_readOne_b151 rc M) := by
  unfold f_X5_readOne_b151
  refine aw_aload_n (k0 := 0) B 0 (by decide +kernel) rfl rfl ?_
  refine aw_cVV B (c_X5_failHere (eLa E) hG M) cvX5_57 rfl rfl (by have hF : FD = 40 := rfl; omega) rfl (Nat.le_of_ble_eq_true rfl) (by decide +kernel) rfl (fun M2 => ?_)
  exact aw_vreturn B (by decide +kernel) rfl
def f_X5_readOne_b119 (rc : Int32 → Mem → Option Mem) (v1 : Int32) (M : Mem) : Option Mem := (if (6 : Int32) ≤ v1 then f_X5_readOne_b151 rc M else bI (f_X5_comes (45 : Int32) M) fun x1 M2 => (if x1 = 0 then f_X5_readOne_b151 rc M2 else (rc (v1 + (1 : Int32)) M2).bind fun M4 => (f_X5_addStep (126 : Int32) (0 : Int32) M4).bind fun M6 => (some M6)))
set_option maxRecDepth 100000 in
set_option maxHeartbeats 4000000 in
theorem w_X5_readOne_b119 {G : GW} {E : EE} (hG : ab_ok G) {rc : Int32 → Mem → Option Mem} (lv0 : Nat) (hl0 : 4 ≤ lv0) (hrc : ∀ (v1 : Int32) (M : Mem), AC (eLa E) G yX5_readOne cX5_readOne 3 none lv0 [.ref 22, .int v1] M embV (rc v1 M)) (B : Bx G E RX5 cX5_readOne 3 (lv0 + 6) none) (v1 : Int32) (M : Mem) : AWo G E cX5_readOne 3 (ab_Q G E embV) 119 [(0, .ref 22), (1, .int v1)] [] M (f_X5_readOne_b119 rc v1 M) := by
  unfold f_X5_readOne_b119
  refine aw_iload_n (k0 := 1) B 1 (by decide +kernel) rfl rfl ?_
  refine aw_bipush (n := 6) (v := (6 : Int32)) B (by decide +kernel) (by decide) ?_
  refine aw_icmp_ge (off := 29) B 151 (by decide +kernel) (by decide) (fun _ => ?_) (fun _ => ?_)
  · exact aw_sub [0] rfl (w_X5_readOne_b151 hG lv0 hl0 hrc B _)
  · refine aw_aload_n (k0 := 0) B 0 (by decide +kernel) rfl rfl ?_
    refine aw_bipush (n := 45) (v := (45 : Int32)) B (by decide +kernel) (by decide) ?_
    refine aw_cVI B (c_X5_comes (eLa E) hG (45 : Int32) M) cvX5_53 rfl rfl (by have hF : FD = 40 := rfl; omega) rfl (Nat.le_of_ble_eq_true rfl) (by decide +kernel) rfl (fun x1 M2 => ?_)
    refine aw_if_eq (off := 20) B 151 (by decide +kernel) (by decide) (fun _ => ?_) (fun _ => ?_)
    · exact aw_sub [0] rfl (w_X5_readOne_b151 hG lv0 hl0 hrc B _)
    · refine aw_aload_n (k0 := 0) B 0 (by decide +kernel) rfl rfl ?_
      refine aw_iload_n (k0 := 1) B 1 (by decide +kernel) rfl rfl ?_
      refine aw_iconst (n := 1) (v := (1 : Int32)) B (by decide +kernel) (by decide) ?_
      refine aw_iadd B (by decide +kernel) ?_
      refine aw_cVV B (hrc (v1 + (1 : Int32)) M2) cvX5_84 rfl rfl (by have hF : FD = 40 := rfl; omega) rfl (Nat.le_of_ble_eq_true rfl) (by decide +kernel) rfl (fun M4 => ?_)
      refine aw_aload_n (k0 := 0) B 0 (by decide +kernel) rfl rfl ?_
      refine aw_bipush (n := 126) (v := (126 : Int32)) B (by decide +kernel) (by decide) ?_
      refine aw_iconst (n := 0) (v := (0 : Int32)) B (by decide +kernel) (by decide) ?_
      refine aw_cVV B (c_X5_addStep (eLa E) hG (126 : Int32) (0 : Int32) M4) cvX5_64 rfl rfl (by have hF : FD = 40 := rfl; omega) rfl (Nat.le_of_ble_eq_true rfl) (by decide +kernel) rfl (fun M6 => ?_)
      refine aw_goto (off := 7) B 155 (by decide +kernel) (by decide) ?_
      exact aw_vreturn B (by decide +kernel) rfl
def f_X5_readOne_b87 (rc : Int32 → Mem → Option Mem) (v1 : Int32) (M : Mem) : Option Mem := (if (6 : Int32) ≤ v1 then f_X5_readOne_b119 rc v1 M else bI (f_X5_comes (33 : Int32) M) fun x1 M2 => (if x1 = 0 then f_X5_readOne_b119 rc v1 M2 else (rc (v1 + (1 : Int32)) M2).bind fun M4 => (f_X5_addStep (33 : Int32) (0 : Int32) M4).bind fun M6 => (some M6)))
set_option maxRecDepth 100000 in
set_option maxHeartbeats 4000000 in
theorem w_X5_readOne_b87 {G : GW} {E : EE} (hG : ab_ok G) {rc : Int32 → Mem → Option Mem} (lv0 : Nat) (hl0 : 4 ≤ lv0) (hrc : ∀ (v1 : Int32) (M : Mem), AC (eLa E) G yX5_readOne cX5_readOne 3 none lv0 [.ref 22, .int v1] M embV (rc v1 M)) (B : Bx G E RX5 cX5_readOne 3 (lv0 + 6) none) (v1 : Int32) (M : Mem) : AWo G E cX5_readOne 3 (ab_Q G E embV) 87 [(0, .ref 22), (1, .int v1)] [] M (f_X5_readOne_b87 rc v1 M) := by
  unfold f_X5_readOne_b87
  refine aw_iload_n (k0 := 1) B 1 (by decide +kernel) rfl rfl ?_
  refine aw_bipush (n := 6) (v := (6 : Int32)) B (by decide +kernel) (by decide) ?_
  refine aw_icmp_ge (off := 29) B 119 (by decide +kernel) (by decide) (fun _ => ?_) (fun _ => ?_)
  · exact w_X5_readOne_b119 hG lv0 hl0 hrc B _ _
  · refine aw_aload_n (k0 := 0) B 0 (by decide +kernel) rfl rfl ?_
    refine aw_bipush (n := 33) (v := (33 : Int32)) B (by decide +kernel) (by decide) ?_
    refine aw_cVI B (c_X5_comes (eLa E) hG (33 : Int32) M) cvX5_53 rfl rfl (by have hF : FD = 40 := rfl; omega) rfl (Nat.le_of_ble_eq_true rfl) (by decide +kernel) rfl (fun x1 M2 => ?_)
    refine aw_if_eq (off := 20) B 119 (by decide +kernel) (by decide) (fun _ => ?_) (fun _ => ?_)
    · exact w_X5_readOne_b119 hG lv0 hl0 hrc B _ _
    · refine aw_aload_n (k0 := 0) B 0 (by decide +kernel) rfl rfl ?_
      refine aw_iload_n (k0 := 1) B 1 (by decide +kernel) rfl rfl ?_
      refine aw_iconst (n := 1) (v := (1 : Int32)) B (by decide +kernel) (by decide) ?_
      refine aw_iadd B (by decide +kernel) ?_
      refine aw_cVV B (hrc (v1 + (1 : Int32)) M2) cvX5_84 rfl rfl (by have hF : FD = 40 := rfl; omega) rfl (Nat.le_of_ble_eq_true rfl) (by decide +kernel) rfl (fun M4 => ?_)
      refine aw_aload_n (k0 := 0) B 0 (by decide +kernel) rfl rfl ?_
      refine aw_bipush (n := 33) (v := (33 : Int32)) B (by decide +kernel) (by decide) ?_
      refine aw_iconst (n := 0) (v := (0 : Int32)) B (by decide +kernel) (by decide) ?_
      refine aw_cVV B (c_X5_addStep (eLa E) hG (33 : Int32) (0 : Int32) M4) cvX5_64 rfl rfl (by have hF : FD = 40 := rfl; omega) rfl (Nat.le_of_ble_eq_true rfl) (by decide +kernel) rfl (fun M6 => ?_)
      refine aw_goto (off := 39) B 155 (by decide +kernel) (by decide) ?_
      exact aw_vreturn B (by decide +kernel) rfl
def f_X5_readOne_o (rc : Int32 → Mem → Option Mem) (v1 : Int32) (M : Mem) : Option Mem := (f_X5_sign M).bind fun x1 => (f_X5_isDigit x1).bind fun x3 => (if x3 = 0 then (f_X5_nameOf x1).bind fun x5 => (if x5 < 0 then (if (6 : Int32) ≤ v1 then f_X5_readOne_b87 rc v1 M else bI (f_X5_comes (40 : Int32) M) fun x7 M8 => (if x7 = 0 then f_X5_readOne_b87 rc v1 M8 else (f_X5_readEither rc (v1 + (1 : Int32)) M8).bind fun M10 => bI (f_X5_comes (41 : Int32) M10) fun x11 M12 => (if x11 = 0 then (f_X5_failHere M12).bind fun M14 => (some M14) else (some M12)))) else lt (wI M 22 2 ((M.1 22 2) + (1 : Int32))) fun M15 => (f_X5_nameOf x1).bind fun x16 => (f_X5_addStep (97 : Int32) x16 M15).bind fun M19 => (some M19)) else (f_X5_readNumber M).bind fun M21 => (some M21))
set_option maxRecDepth 100000 in
set_option maxHeartbeats 4000000 in
theorem w_X5_readOne_o {G : GW} {E : EE} (hG : ab_ok G) {rc : Int32 → Mem → Option Mem} (lv0 : Nat) (hl0 : 4 ≤ lv0) (hrc : ∀ (v1 : Int32) (M : Mem), AC (eLa E) G yX5_readOne cX5_readOne 3 none lv0 [.ref 22, .int v1] M embV (rc v1 M)) (B : Bx G E RX5 cX5_readOne 3 (lv0 + 6) none) (v1 : Int32) (M : Mem) : AWo G E cX5_readOne 3 (ab_Q G E embV) 0 [(0, .ref 22), (1, .int v1)] [] M (f_X5_readOne_o rc v1 M) := by
  unfold f_X5_readOne_o
  refine aw_aload_n (k0 := 0) B 0 (by decide +kernel) rfl rfl ?_
  refine aw_cVR B (c_X5_sign (eLa E) hG M) cvX5_46 rfl rfl (by have hF : FD = 40 := rfl; omega) rfl (Nat.le_of_ble_eq_true rfl) (by decide +kernel) rfl (fun x1 => ?_)
  refine aw_istore_n (k0 := 2) B [(2, .int x1), (0, .ref 22), (1, .int v1)] (by decide +kernel) rfl (Nat.le_of_ble_eq_true rfl) rfl ?_
  refine aw_iload_n (k0 := 2) B 0 (by decide +kernel) rfl rfl ?_
  refine aw_cSR B (c_X5_isDigit (eLa E) hG x1 M) csX5_87 (by have hF : FD = 40 := rfl; omega) rfl (Nat.le_of_ble_eq_true rfl) (by decide +kernel) rfl (fun x3 => ?_)
  refine aw_if_eq (off := 10) B 19 (by decide +kernel) (by decide) (fun _ => ?_) (fun _ => ?_)
  · refine aw_iload_n (k0 := 2) B 0 (by decide +kernel) rfl rfl ?_
    refine aw_cSR B (c_X5_nameOf (eLa E) hG x1 M) csX5_94 (by have hF : FD = 40 := rfl; omega) rfl (Nat.le_of_ble_eq_true rfl) (by decide +kernel) rfl (fun x5 => ?_)
    refine aw_if_lt (off := 26) B 49 (by decide +kernel) (by decide) (fun _ => ?_) (fun _ => ?_)
    · refine aw_iload_n (k0 := 1) B 2 (by decide +kernel) rfl rfl ?_
      refine aw_bipush (n := 6) (v := (6 : Int32)) B (by decide +kernel) (by decide) ?_
      refine aw_icmp_ge (off := 35) B 87 (by decide +kernel) (by decide) (fun _ => ?_) (fun _ => ?_)
      · exact aw_sub [1, 2] rfl (w_X5_readOne_b87 hG lv0 hl0 hrc B _ _)
      · refine aw_aload_n (k0 := 0) B 1 (by decide +kernel) rfl rfl ?_
        refine aw_bipush (n := 40) (v := (40 : Int32)) B (by decide +kernel) (by decide) ?_
        refine aw_cVI B (c_X5_comes (eLa E) hG (40 : Int32) M) cvX5_53 rfl rfl (by have hF : FD = 40 := rfl; omega) rfl (Nat.le_of_ble_eq_true rfl) (by decide +kernel) rfl (fun x7 M8 => ?_)
        refine aw_if_eq (off := 26) B 87 (by decide +kernel) (by decide) (fun _ => ?_) (fun _ => ?_)
        · exact aw_sub [1, 2] rfl (w_X5_readOne_b87 hG lv0 hl0 hrc B _ _)
        · refine aw_aload_n (k0 := 0) B 1 (by decide +kernel) rfl rfl ?_
          refine aw_iload_n (k0 := 1) B 2 (by decide +kernel) rfl rfl ?_
          refine aw_iconst (n := 1) (v := (1 : Int32)) B (by decide +kernel) (by decide) ?_
          refine aw_iadd B (by decide +kernel) ?_
          refine aw_cVV B (oc_X5_readEither (eLa E) hG lv0 hl0 hrc (v1 + (1 : Int32)) M8) cvX5_60 rfl rfl (by have hF : FD = 40 := rfl; omega) rfl (Nat.le_of_ble_eq_true rfl) (by decide +kernel) rfl (fun M10 => ?_)
          refine aw_aload_n (k0 := 0) B 1 (by decide +kernel) rfl rfl ?_
          refine aw_bipush (n := 41) (v := (41 : Int32)) B (by decide +kernel) (by decide) ?_
          refine aw_cVI B (c_X5_comes (eLa E) hG (41 : Int32) M10) cvX5_53 rfl rfl (by have hF : FD = 40 := rfl; omega) rfl (Nat.le_of_ble_eq_true rfl) (by decide +kernel) rfl (fun x11 M12 => ?_)
          refine aw_if_ne (off := 78) B 155 (by decide +kernel) (by decide) (fun _ => ?_) (fun _ => ?_)
          · exact aw_vreturn B (by decide +kernel) rfl
          · refine aw_aload_n (k0 := 0) B 1 (by decide +kernel) rfl rfl ?_
            refine aw_cVV B (c_X5_failHere (eLa E) hG M12) cvX5_57 rfl rfl (by have hF : FD = 40 := rfl; omega) rfl (Nat.le_of_ble_eq_true rfl) (by decide +kernel) rfl (fun M14 => ?_)
            refine aw_goto (off := 71) B 155 (by decide +kernel) (by decide) ?_
            exact aw_vreturn B (by decide +kernel) rfl
    · refine aw_aload_n (k0 := 0) B 1 (by decide +kernel) rfl rfl ?_
      refine aw_dup B (by decide +kernel) rfl ?_
      refine aw_geti (c := 22) B lkX5_31 (by decide +kernel) rfl ?_
      refine aw_iconst (n := 1) (v := (1 : Int32)) B (by decide +kernel) (by decide) ?_
      refine aw_iadd B (by decide +kernel) ?_
      refine aw_puti (c := 22) B lkX5_31 lp5_2 (by decide +kernel) rfl (fun M15 => ?_)
      refine aw_aload_n (k0 := 0) B 1 (by decide +kernel) rfl rfl ?_
      refine aw_bipush (n := 97) (v := (97 : Int32)) B (by decide +kernel) (by decide) ?_
      refine aw_iload_n (k0 := 2) B 0 (by decide +kernel) rfl rfl ?_
      refine aw_cSR B (c_X5_nameOf (eLa E) hG x1 M15) csX5_94 (by have hF : FD = 40 := rfl; omega) rfl (Nat.le_of_ble_eq_true rfl) (by decide +kernel) rfl (fun x16 => ?_)
      refine aw_cVV B (c_X5_addStep (eLa E) hG (97 : Int32) x16 M15) cvX5_64 rfl rfl (by have hF : FD = 40 := rfl; omega) rfl (Nat.le_of_ble_eq_true rfl) (by decide +kernel) rfl (fun M19 => ?_)
      refine aw_goto (off := 109) B 155 (by decide +kernel) (by decide) ?_
      exact aw_vreturn B (by decide +kernel) rfl
  · refine aw_aload_n (k0 := 0) B 1 (by decide +kernel) rfl rfl ?_
    refine aw_cVV B (c_X5_readNumber (eLa E) hG M) cvX5_91 rfl rfl (by have hF : FD = 40 := rfl; omega) rfl (Nat.le_of_ble_eq_true rfl) (by decide +kernel) rfl (fun M21 => ?_)
    refine aw_goto (off := 139) B 155 (by decide +kernel) (by decide) ?_
    exact aw_vreturn B (by decide +kernel) rfl
def f_X5_readOne : Nat → Int32 → Mem → Option Mem
  | 0, _, _ => none
  | d + 1, v1, M => f_X5_readOne_o (fun v1 M => f_X5_readOne d v1 M) v1 M
theorem c_X5_readOne (l : Launch) {G : GW} (hG : ab_ok G) : ∀ (d : Nat) (v1 : Int32) (M : Mem), AC l G yX5_readOne cX5_readOne 3 none (4 + 6 * d) [.ref 22, .int v1] M embV (f_X5_readOne d v1 M)
  | 0, _, _ => fun a ha => by cases ha
  | d + 1, v1, M => AC.of hG (by decide) (Nat.le_of_ble_eq_true rfl) (fun E hE B => by
    subst hE
    have e : 4 + 6 * (d + 1) = 4 + 6 * d + 6 := by omega
    rw [e] at B
    exact w_X5_readOne_o hG (4 + 6 * d) (Nat.le_add_right _ _) (fun v1 M => c_X5_readOne (eLa E) hG d v1 M) B v1 M)
theorem c_X5_readProduct (l : Launch) {G : GW} (hG : ab_ok G) (v1 : Int32) (M : Mem) : AC l G yX5_readProduct cX5_readProduct 4 none (4 + 6 * FD + 1) [.ref 22, .int v1] M embV (f_X5_readProduct (f_X5_readOne FD) v1 M) := AC.of hG (by decide) (Nat.le_of_ble_eq_true rfl) (fun E hE B => by subst hE; exact w_X5_readProduct hG (4 + 6 * FD) (Nat.le_add_right _ _) (fun v1 M => c_X5_readOne (eLa E) hG FD v1 M) B v1 M)
theorem c_X5_readSum (l : Launch) {G : GW} (hG : ab_ok G) (v1 : Int32) (M : Mem) : AC l G yX5_readSum cX5_readSum 4 none (4 + 6 * FD + 2) [.ref 22, .int v1] M embV (f_X5_readSum (f_X5_readOne FD) v1 M) := AC.of hG (by decide) (Nat.le_of_ble_eq_true rfl) (fun E hE B => by subst hE; exact w_X5_readSum hG (4 + 6 * FD) (Nat.le_add_right _ _) (fun v1 M => c_X5_readOne (eLa E) hG FD v1 M) B v1 M)
theorem c_X5_readCompared (l : Launch) {G : GW} (hG : ab_ok G) (v1 : Int32) (M : Mem) : AC l G yX5_readCompared cX5_readCompared 3 none (4 + 6 * FD + 3) [.ref 22, .int v1] M embV (f_X5_readCompared (f_X5_readOne FD) v1 M) := AC.of hG (by decide) (Nat.le_of_ble_eq_true rfl) (fun E hE B => by subst hE; exact w_X5_readCompared hG (4 + 6 * FD) (Nat.le_add_right _ _) (fun v1 M => c_X5_readOne (eLa E) hG FD v1 M) B v1 M)
theorem c_X5_readBoth (l : Launch) {G : GW} (hG : ab_ok G) (v1 : Int32) (M : Mem) : AC l G yX5_readBoth cX5_readBoth 3 none (4 + 6 * FD + 4) [.ref 22, .int v1] M embV (f_X5_readBoth (f_X5_readOne FD) v1 M) := AC.of hG (by decide) (Nat.le_of_ble_eq_true rfl) (fun E hE B => by subst hE; exact w_X5_readBoth hG (4 + 6 * FD) (Nat.le_add_right _ _) (fun v1 M => c_X5_readOne (eLa E) hG FD v1 M) B v1 M)
theorem c_X5_readEither (l : Launch) {G : GW} (hG : ab_ok G) (v1 : Int32) (M : Mem) : AC l G yX5_readEither cX5_readEither 3 none (4 + 6 * FD + 5) [.ref 22, .int v1] M embV (f_X5_readEither (f_X5_readOne FD) v1 M) := AC.of hG (by decide) (Nat.le_of_ble_eq_true rfl) (fun E hE B => by subst hE; exact w_X5_readEither hG (4 + 6 * FD) (Nat.le_add_right _ _) (fun v1 M => c_X5_readOne (eLa E) hG FD v1 M) B v1 M)
def f_X5_readLine_b26 (M : Mem) : Option Mem := (f_X5_addStep (59 : Int32) (0 : Int32) M).bind fun M2 => (some M2)
set_option maxRecDepth 100000 in
set_option maxHeartbeats 4000000 in
theorem w_X5_readLine_b26 {G : GW} {E : EE} (hG : ab_ok G) (B : Bx G E RX5 cX5_readLine 1 250 none) (M : Mem) : AWo G E cX5_readLine 1 (ab_Q G E embV) 26 [(0, .ref 22)] [] M (f_X5_readLine_b26 M) := by
  unfold f_X5_readLine_b26
  refine aw_aload_n (k0 := 0) B 0 (by decide +kernel) rfl rfl ?_
  refine aw_bipush (n := 59) (v := (59 : Int32)) B (by decide +kernel) (by decide) ?_
  refine aw_iconst (n := 0) (v := (0 : Int32)) B (by decide +kernel) (by decide) ?_
  refine aw_cVV B (c_X5_addStep (eLa E) hG (59 : Int32) (0 : Int32) M) cvX5_64 rfl rfl (Nat.le_of_ble_eq_true rfl) rfl (Nat.le_of_ble_eq_true rfl) (by decide +kernel) rfl (fun M2 => ?_)
  exact aw_vreturn B (by decide +kernel) rfl
def f_X5_readLine (M : Mem) : Option Mem := (f_X5_readEither (f_X5_readOne FD) (0 : Int32) M).bind fun M2 => bI (f_X5_comes (63 : Int32) M2) fun x3 M4 => (if x3 = 0 then f_X5_readLine_b26 M4 else (f_X5_addStep (63 : Int32) (0 : Int32) M4).bind fun M6 => (f_X5_readEither (f_X5_readOne FD) (0 : Int32) M6).bind fun M8 => f_X5_readLine_b26 M8)
set_option maxRecDepth 100000 in
set_option maxHeartbeats 4000000 in
theorem w_X5_readLine {G : GW} {E : EE} (hG : ab_ok G) (B : Bx G E RX5 cX5_readLine 1 250 none) (M : Mem) : AWo G E cX5_readLine 1 (ab_Q G E embV) 0 [(0, .ref 22)] [] M (f_X5_readLine M) := by
  unfold f_X5_readLine
  refine aw_aload_n (k0 := 0) B 0 (by decide +kernel) rfl rfl ?_
  refine aw_iconst (n := 0) (v := (0 : Int32)) B (by decide +kernel) (by decide) ?_
  refine aw_cVV B (c_X5_readEither (eLa E) hG (0 : Int32) M) cvX5_60 rfl rfl (Nat.le_of_ble_eq_true rfl) rfl (Nat.le_of_ble_eq_true rfl) (by decide +kernel) rfl (fun M2 => ?_)
  refine aw_aload_n (k0 := 0) B 0 (by decide +kernel) rfl rfl ?_
  refine aw_bipush (n := 63) (v := (63 : Int32)) B (by decide +kernel) (by decide) ?_
  refine aw_cVI B (c_X5_comes (eLa E) hG (63 : Int32) M2) cvX5_53 rfl rfl (Nat.le_of_ble_eq_true rfl) rfl (Nat.le_of_ble_eq_true rfl) (by decide +kernel) rfl (fun x3 M4 => ?_)
  refine aw_if_eq (off := 15) B 26 (by decide +kernel) (by decide) (fun _ => ?_) (fun _ => ?_)
  · exact w_X5_readLine_b26 hG B _
  · refine aw_aload_n (k0 := 0) B 0 (by decide +kernel) rfl rfl ?_
    refine aw_bipush (n := 63) (v := (63 : Int32)) B (by decide +kernel) (by decide) ?_
    refine aw_iconst (n := 0) (v := (0 : Int32)) B (by decide +kernel) (by decide) ?_
    refine aw_cVV B (c_X5_addStep (eLa E) hG (63 : Int32) (0 : Int32) M4) cvX5_64 rfl rfl (Nat.le_of_ble_eq_true rfl) rfl (Nat.le_of_ble_eq_true rfl) (by decide +kernel) rfl (fun M6 => ?_)
    refine aw_aload_n (k0 := 0) B 0 (by decide +kernel) rfl rfl ?_
    refine aw_iconst (n := 0) (v := (0 : Int32)) B (by decide +kernel) (by decide) ?_
    refine aw_cVV B (c_X5_readEither (eLa E) hG (0 : Int32) M6) cvX5_60 rfl rfl (Nat.le_of_ble_eq_true rfl) rfl (Nat.le_of_ble_eq_true rfl) (by decide +kernel) rfl (fun M8 => ?_)
    exact w_X5_readLine_b26 hG B _
theorem c_X5_readLine (l : Launch) {G : GW} (hG : ab_ok G) (M : Mem) : AC l G yX5_readLine cX5_readLine 1 none 250 [.ref 22] M embV (f_X5_readLine M) := AC.of hG (by decide) (Nat.le_of_ble_eq_true rfl) (fun E hE B => by subst hE; exact w_X5_readLine hG B M)
def f_X5_readLines_b31 (M : Mem) : Option Mem := (if (M.1 22 0) ≤ (M.1 22 2) then (some M) else (f_X5_failHere M).bind fun M2 => (some M2))
set_option maxRecDepth 100000 in
set_option maxHeartbeats 4000000 in
theorem w_X5_readLines_b31 {G : GW} {E : EE} (hG : ab_ok G) (B : Bx G E RX5 cX5_readLines 2 251 none) (M : Mem) : AWo G E cX5_readLines 2 (ab_Q G E embV) 31 [(0, .ref 22)] [] M (f_X5_readLines_b31 M) := by
  unfold f_X5_readLines_b31
  refine aw_aload_n (k0 := 0) B 0 (by decide +kernel) rfl rfl ?_
  refine aw_geti (c := 22) B lkX5_31 (by decide +kernel) rfl ?_
  refine aw_aload_n (k0 := 0) B 0 (by decide +kernel) rfl rfl ?_
  refine aw_geti (c := 22) B lkX5_27 (by decide +kernel) rfl ?_
  refine aw_icmp_ge (off := 7) B 46 (by decide +kernel) (by decide) (fun _ => ?_) (fun _ => ?_)
  · exact aw_vreturn B (by decide +kernel) rfl
  · refine aw_aload_n (k0 := 0) B 0 (by decide +kernel) rfl rfl ?_
    refine aw_cVV B (c_X5_failHere (eLa E) hG M) cvX5_57 rfl rfl (Nat.le_of_ble_eq_true rfl) rfl (Nat.le_of_ble_eq_true rfl) (by decide +kernel) rfl (fun M2 => ?_)
    exact aw_vreturn B (by decide +kernel) rfl
def f_X5_readLines_L6 : Nat → Int32 → Mem → Option Mem
  | 0, _, _ => none
  | n + 1, v1, M => (if (120 : Int32) ≤ v1 then f_X5_readLines_b31 M else bI (f_X5_comes (59 : Int32) M) fun x1 M2 => (if x1 = 0 then f_X5_readLines_b31 M2 else (f_X5_readLine M2).bind fun M4 => f_X5_readLines_L6 n (v1 + 1) M4))
set_option maxRecDepth 100000 in
set_option maxHeartbeats 4000000 in
theorem w_X5_readLines_L6 {G : GW} {E : EE} (hG : ab_ok G) (B : Bx G E RX5 cX5_readLines 2 251 none) : ∀ (n : Nat) (v1 : Int32) (M : Mem), AWo G E cX5_readLines 2 (ab_Q G E embV) 6 [(0, .ref 22), (1, .int v1)] [] M (f_X5_readLines_L6 n v1 M) := by
  intro n
  induction n with
  | zero => intro _ _; exact aw_none
  | succ n ih =>
    intro v1 M
    rw [f_X5_readLines_L6]
    refine aw_iload_n (k0 := 1) B 1 (by decide +kernel) rfl rfl ?_
    refine aw_bipush (n := 120) (v := (120 : Int32)) B (by decide +kernel) (by decide) ?_
    refine aw_icmp_ge (off := 22) B 31 (by decide +kernel) (by decide) (fun _ => ?_) (fun _ => ?_)
    · exact aw_sub [0] rfl (w_X5_readLines_b31 hG B _)
    · refine aw_aload_n (k0 := 0) B 0 (by decide +kernel) rfl rfl ?_
      refine aw_bipush (n := 59) (v := (59 : Int32)) B (by decide +kernel) (by decide) ?_
      refine aw_cVI B (c_X5_comes (eLa E) hG (59 : Int32) M) cvX5_53 rfl rfl (Nat.le_of_ble_eq_true rfl) rfl (Nat.le_of_ble_eq_true rfl) (by decide +kernel) rfl (fun x1 M2 => ?_)
      refine aw_if_eq (off := 13) B 31 (by decide +kernel) (by decide) (fun _ => ?_) (fun _ => ?_)
      · exact aw_sub [0] rfl (w_X5_readLines_b31 hG B _)
      · refine aw_aload_n (k0 := 0) B 0 (by decide +kernel) rfl rfl ?_
        refine aw_cVV B (c_X5_readLine (eLa E) hG M2) cvX5_50 rfl rfl (Nat.le_of_ble_eq_true rfl) rfl (Nat.le_of_ble_eq_true rfl) (by decide +kernel) rfl (fun M4 => ?_)
        refine aw_iinc (i := 1) (n := 1) B 1 [(1, .int (v1 + 1)), (0, .ref 22)] (by decide +kernel) rfl (Nat.le_of_ble_eq_true rfl) (v1 + 1) (ab_inc (by decide)) rfl ?_
        refine aw_goto (off := -22) B 6 (by decide +kernel) (by decide) ?_
        exact aw_sub [1, 0] rfl (ih _ _)
def f_X5_readLines (M : Mem) : Option Mem := (f_X5_readLine M).bind fun M2 => f_X5_readLines_L6 FU (0 : Int32) M2
set_option maxRecDepth 100000 in
set_option maxHeartbeats 4000000 in
theorem w_X5_readLines {G : GW} {E : EE} (hG : ab_ok G) (B : Bx G E RX5 cX5_readLines 2 251 none) (M : Mem) : AWo G E cX5_readLines 2 (ab_Q G E embV) 0 [(0, .ref 22)] [] M (f_X5_readLines M) := by
  unfold f_X5_readLines
  refine aw_aload_n (k0 := 0) B 0 (by decide +kernel) rfl rfl ?_
  refine aw_cVV B (c_X5_readLine (eLa E) hG M) cvX5_50 rfl rfl (Nat.le_of_ble_eq_true rfl) rfl (Nat.le_of_ble_eq_true rfl) (by decide +kernel) rfl (fun M2 => ?_)
  refine aw_iconst (n := 0) (v := (0 : Int32)) B (by decide +kernel) (by decide) ?_
  refine aw_istore_n (k0 := 1) B [(1, .int (0 : Int32)), (0, .ref 22)] (by decide +kernel) rfl (Nat.le_of_ble_eq_true rfl) rfl ?_
  exact aw_sub [1, 0] rfl (w_X5_readLines_L6 hG B FU _ _)
theorem c_X5_readLines (l : Launch) {G : GW} (hG : ab_ok G) (M : Mem) : AC l G yX5_readLines cX5_readLines 2 none 251 [.ref 22] M embV (f_X5_readLines M) := AC.of hG (by decide) (Nat.le_of_ble_eq_true rfl) (fun E hE B => by subst hE; exact w_X5_readLines hG B M)
def f_X5_adopt (M : Mem) : Option (Int32 × Mem) := lt (wI M 22 2 (0 : Int32)) fun M1 => lt (wI M1 22 3 (-1 : Int32)) fun M2 => lt (wI M2 22 5 (0 : Int32)) fun M3 => (f_X5_readLines M3).bind fun M5 => lt (wI M5 22 0 (0 : Int32)) fun M6 => (if (M6.1 22 3) < 0 then lt (M6.2.2 22 6) fun x7 => lt (wR M6 22 6 (M6.2.2 22 4)) fun M8 => lt (wR M8 22 4 x7) fun M9 => lt (wI M9 22 7 (M9.1 22 5)) fun M10 => (some ((1 : Int32), M10)) else (some ((-100 : Int32) - (M6.1 22 3), M6)))
set_option maxRecDepth 100000 in
set_option maxHeartbeats 4000000 in
theorem w_X5_adopt {G : GW} {E : EE} (hG : ab_ok G) (B : Bx G E RX5 cX5_adopt 2 252 (some .int)) (M : Mem) : AWo G E cX5_adopt 2 (ab_Q G E embI) 0 [(0, .ref 22)] [] M (f_X5_adopt M) := by
  unfold f_X5_adopt
  refine aw_aload_n (k0 := 0) B 0 (by decide +kernel) rfl rfl ?_
  refine aw_iconst (n := 0) (v := (0 : Int32)) B (by decide +kernel) (by decide) ?_
  refine aw_puti (c := 22) B lkX5_31 lp5_2 (by decide +kernel) rfl (fun M1 => ?_)
  refine aw_aload_n (k0 := 0) B 0 (by decide +kernel) rfl rfl ?_
  refine aw_iconst (n := -1) (v := (-1 : Int32)) B (by decide +kernel) (by decide) ?_
  refine aw_puti (c := 22) B lkX5_34 lp5_3 (by decide +kernel) rfl (fun M2 => ?_)
  refine aw_aload_n (k0 := 0) B 0 (by decide +kernel) rfl rfl ?_
  refine aw_iconst (n := 0) (v := (0 : Int32)) B (by decide +kernel) (by decide) ?_
  refine aw_puti (c := 22) B lkX5_37 lp5_5 (by decide +kernel) rfl (fun M3 => ?_)
  refine aw_aload_n (k0 := 0) B 0 (by decide +kernel) rfl rfl ?_
  refine aw_cVV B (c_X5_readLines (eLa E) hG M3) cvX5_40 rfl rfl (Nat.le_of_ble_eq_true rfl) rfl (Nat.le_of_ble_eq_true rfl) (by decide +kernel) rfl (fun M5 => ?_)
  refine aw_aload_n (k0 := 0) B 0 (by decide +kernel) rfl rfl ?_
  refine aw_iconst (n := 0) (v := (0 : Int32)) B (by decide +kernel) (by decide) ?_
  refine aw_puti (c := 22) B lkX5_27 lp5_0 (by decide +kernel) rfl (fun M6 => ?_)
  refine aw_aload_n (k0 := 0) B 0 (by decide +kernel) rfl rfl ?_
  refine aw_geti (c := 22) B lkX5_34 (by decide +kernel) rfl ?_
  refine aw_if_lt (off := 11) B 39 (by decide +kernel) (by decide) (fun _ => ?_) (fun _ => ?_)
  · refine aw_aload_n (k0 := 0) B 0 (by decide +kernel) rfl rfl ?_
    refine aw_getm (c := 22) B lkX5_18 (by decide +kernel) rfl ?_
    refine aw_ltA (fun x7 => ?_)
    refine aw_astore_n (k0 := 1) B [(1, .ref x7), (0, .ref 22)] (by decide +kernel) rfl (Nat.le_of_ble_eq_true rfl) rfl ?_
    refine aw_aload_n (k0 := 0) B 1 (by decide +kernel) rfl rfl ?_
    refine aw_aload_n (k0 := 0) B 1 (by decide +kernel) rfl rfl ?_
    refine aw_getm (c := 22) B lkX5_15 (by decide +kernel) rfl ?_
    refine aw_putr (c := 22) B lkX5_18 lp5_6 (by decide +kernel) rfl (fun M8 => ?_)
    refine aw_aload_n (k0 := 0) B 1 (by decide +kernel) rfl rfl ?_
    refine aw_aload_n (k0 := 1) B 0 (by decide +kernel) rfl rfl ?_
    refine aw_putr (c := 22) B lkX5_15 lp5_4 (by decide +kernel) rfl (fun M9 => ?_)
    refine aw_aload_n (k0 := 0) B 1 (by decide +kernel) rfl rfl ?_
    refine aw_aload_n (k0 := 0) B 1 (by decide +kernel) rfl rfl ?_
    refine aw_geti (c := 22) B lkX5_37 (by decide +kernel) rfl ?_
    refine aw_puti (c := 22) B lkX5_43 lp5_7 (by decide +kernel) rfl (fun M10 => ?_)
    refine aw_iconst (n := 1) (v := (1 : Int32)) B (by decide +kernel) (by decide) ?_
    exact aw_ireturn B (by decide +kernel) rfl
  · refine aw_bipush (n := -100) (v := (-100 : Int32)) B (by decide +kernel) (by decide) ?_
    refine aw_aload_n (k0 := 0) B 0 (by decide +kernel) rfl rfl ?_
    refine aw_geti (c := 22) B lkX5_34 (by decide +kernel) rfl ?_
    refine aw_isub B (by decide +kernel) ?_
    exact aw_ireturn B (by decide +kernel) rfl
theorem c_X5_adopt (l : Launch) {G : GW} (hG : ab_ok G) (M : Mem) : AC l G yX5_adopt cX5_adopt 2 (some .int) 252 [.ref 22] M embI (f_X5_adopt M) := AC.of hG (by decide) (Nat.le_of_ble_eq_true rfl) (fun E hE B => by subst hE; exact w_X5_adopt hG B M)
def f_X10_law (M : Mem) : Option (Int32 × Mem) := bI (f_X5_adopt M) fun x1 M2 => (some (x1, M2))
set_option maxRecDepth 100000 in
set_option maxHeartbeats 4000000 in
theorem w_X10_law {G : GW} {E : EE} (hG : ab_ok G) (B : Bx G E RX10 cX10_law 1 253 (some .int)) (M : Mem) : AWo G E cX10_law 1 (ab_Q G E embI) 0 [(0, .ref 0)] [] M (f_X10_law M) := by
  unfold f_X10_law
  refine aw_aload_n (k0 := 0) B 0 (by decide +kernel) rfl rfl ?_
  refine aw_getr (c := 0) B lkX10_47 (by decide +kernel) rfl (r := 22) rfl ?_
  refine aw_cVI B (c_X5_adopt (eLa E) hG M) cvX10_163 rfl rfl (Nat.le_of_ble_eq_true rfl) rfl (Nat.le_of_ble_eq_true rfl) (by decide +kernel) rfl (fun x1 M2 => ?_)
  exact aw_ireturn B (by decide +kernel) rfl
theorem c_X10_law (l : Launch) {G : GW} (hG : ab_ok G) (M : Mem) : AC l G yX10_law cX10_law 1 (some .int) 253 [.ref 0] M embI (f_X10_law M) := AC.of hG (by decide) (Nat.le_of_ble_eq_true rfl) (fun E hE B => by subst hE; exact w_X10_law hG B M)
def f_X11_byteAt (M : Mem) : Option Int32 := (if (M.1 47 16) ≤ (M.1 47 15) then (some (0 : Int32)) else (if 0 ≤ (M.1 47 14) then ck (okI 55 ((M.1 47 14) + (M.1 47 15))) ((some (M.1 55 ((M.1 47 14) + (M.1 47 15)).toNatClampNeg))) else ck (okI 54 (M.1 47 15)) ((some (M.1 54 (M.1 47 15).toNatClampNeg)))))
set_option maxRecDepth 100000 in
set_option maxHeartbeats 4000000 in
theorem w_X11_byteAt {G : GW} {E : EE} (hG : ab_ok G) (B : Bx G E RX11 cX11_byteAt 1 2 (some .int)) (M : Mem) : AWo G E cX11_byteAt 1 (ab_Q G E (embRI M)) 0 [(0, .ref 47)] [] M (f_X11_byteAt M) := by
  unfold f_X11_byteAt
  refine aw_aload_n (k0 := 0) B 0 (by decide +kernel) rfl rfl ?_
  refine aw_geti (c := 47) B lkX11_164 (by decide +kernel) rfl ?_
  refine aw_aload_n (k0 := 0) B 0 (by decide +kernel) rfl rfl ?_
  refine aw_geti (c := 47) B lkX11_167 (by decide +kernel) rfl ?_
  refine aw_icmp_ge (off := 39) B 47 (by decide +kernel) (by decide) (fun _ => ?_) (fun _ => ?_)
  · refine aw_iconst (n := 0) (v := (0 : Int32)) B (by decide +kernel) (by decide) ?_
    exact aw_ireturn B (by decide +kernel) rfl
  · refine aw_aload_n (k0 := 0) B 0 (by decide +kernel) rfl rfl ?_
    refine aw_geti (c := 47) B lkX11_170 (by decide +kernel) rfl ?_
    refine aw_if_ge (off := 15) B 30 (by decide +kernel) (by decide) (fun _ => ?_) (fun _ => ?_)
    · refine aw_aload_n (k0 := 0) B 0 (by decide +kernel) rfl rfl ?_
      refine aw_getr (c := 47) B lkX11_31 (by decide +kernel) rfl (r := 55) rfl ?_
      refine aw_aload_n (k0 := 0) B 0 (by decide +kernel) rfl rfl ?_
      refine aw_geti (c := 47) B lkX11_170 (by decide +kernel) rfl ?_
      refine aw_aload_n (k0 := 0) B 0 (by decide +kernel) rfl rfl ?_
      refine aw_geti (c := 47) B lkX11_164 (by decide +kernel) rfl ?_
      refine aw_iadd B (by decide +kernel) ?_
      refine aw_iaload B (by decide +kernel) ?_
      refine aw_goto (off := 4) B 48 (by decide +kernel) (by decide) ?_
      exact aw_ireturn B (by decide +kernel) rfl
    · refine aw_aload_n (k0 := 0) B 0 (by decide +kernel) rfl rfl ?_
      refine aw_getr (c := 47) B lkX11_28 (by decide +kernel) rfl (r := 54) rfl ?_
      refine aw_aload_n (k0 := 0) B 0 (by decide +kernel) rfl rfl ?_
      refine aw_geti (c := 47) B lkX11_164 (by decide +kernel) rfl ?_
      refine aw_iaload B (by decide +kernel) ?_
      refine aw_goto (off := 21) B 48 (by decide +kernel) (by decide) ?_
      exact aw_ireturn B (by decide +kernel) rfl
theorem c_X11_byteAt (l : Launch) {G : GW} (hG : ab_ok G) (M : Mem) : AC l G yX11_byteAt cX11_byteAt 1 (some .int) 2 [.ref 47] M (embRI M) (f_X11_byteAt M) := AC.of hG (by decide) (Nat.le_of_ble_eq_true rfl) (fun E hE B => by subst hE; exact w_X11_byteAt hG B M)
def f_X11_faulty_b19 (s0 : Int32) (M : Mem) : Option (Int32 × Mem) := lt (wI M 47 17 s0) fun M1 => (some ((0 : Int32), M1))
set_option maxRecDepth 100000 in
set_option maxHeartbeats 4000000 in
theorem w_X11_faulty_b19 {G : GW} {E : EE} (hG : ab_ok G) (B : Bx G E RX11 cX11_faulty 1 2 (some .int)) (s0 : Int32) (M : Mem) : AWo G E cX11_faulty 1 (ab_Q G E embI) 19 [] [.int s0, .ref 47] M (f_X11_faulty_b19 s0 M) := by
  unfold f_X11_faulty_b19
  refine aw_puti (c := 47) B lkX11_173 lp11_17 (by decide +kernel) rfl (fun M1 => ?_)
  refine aw_iconst (n := 0) (v := (0 : Int32)) B (by decide +kernel) (by decide) ?_
  exact aw_ireturn B (by decide +kernel) rfl
def f_X11_faulty (M : Mem) : Option (Int32 × Mem) := (if 0 ≤ (M.1 47 17) then f_X11_faulty_b19 (M.1 47 17) M else f_X11_faulty_b19 (M.1 47 15) M)
set_option maxRecDepth 100000 in
set_option maxHeartbeats 4000000 in
theorem w_X11_faulty {G : GW} {E : EE} (hG : ab_ok G) (B : Bx G E RX11 cX11_faulty 1 2 (some .int)) (M : Mem) : AWo G E cX11_faulty 1 (ab_Q G E embI) 0 [(0, .ref 47)] [] M (f_X11_faulty M) := by
  unfold f_X11_faulty
  refine aw_aload_n (k0 := 0) B 0 (by decide +kernel) rfl rfl ?_
  refine aw_aload_n (k0 := 0) B 0 (by decide +kernel) rfl rfl ?_
  refine aw_geti (c := 47) B lkX11_173 (by decide +kernel) rfl ?_
  refine aw_if_ge (off := 10) B 15 (by decide +kernel) (by decide) (fun _ => ?_) (fun _ => ?_)
  · refine aw_aload_n (k0 := 0) B 0 (by decide +kernel) rfl rfl ?_
    refine aw_geti (c := 47) B lkX11_173 (by decide +kernel) rfl ?_
    exact aw_sub [] rfl (w_X11_faulty_b19 hG B _ _)
  · refine aw_aload_n (k0 := 0) B 0 (by decide +kernel) rfl rfl ?_
    refine aw_geti (c := 47) B lkX11_164 (by decide +kernel) rfl ?_
    refine aw_goto (off := 7) B 19 (by decide +kernel) (by decide) ?_
    exact aw_sub [] rfl (w_X11_faulty_b19 hG B _ _)
theorem c_X11_faulty (l : Launch) {G : GW} (hG : ab_ok G) (M : Mem) : AC l G yX11_faulty cX11_faulty 1 (some .int) 2 [.ref 47] M embI (f_X11_faulty M) := AC.of hG (by decide) (Nat.le_of_ble_eq_true rfl) (fun E hE B => by subst hE; exact w_X11_faulty hG B M)
def f_X11_takes (v1 : Int32) (M : Mem) : Option (Int32 × Mem) := (if 0 ≤ (M.1 47 17) then (some ((0 : Int32), M)) else (f_X11_byteAt M).bind fun x1 => (if x1 = v1 then lt (wI M 47 15 ((M.1 47 15) + (1 : Int32))) fun M3 => (some ((1 : Int32), M3)) else (some ((0 : Int32), M))))
set_option maxRecDepth 100000 in
set_option maxHeartbeats 4000000 in
theorem w_X11_takes {G : GW} {E : EE} (hG : ab_ok G) (B : Bx G E RX11 cX11_takes 2 3 (some .boolean)) (v1 : Int32) (M : Mem) : AWo G E cX11_takes 2 (ab_Q G E embI) 0 [(0, .ref 47), (1, .int v1)] [] M (f_X11_takes v1 M) := by
  unfold f_X11_takes
  refine aw_aload_n (k0 := 0) B 0 (by decide +kernel) rfl rfl ?_
  refine aw_geti (c := 47) B lkX11_173 (by decide +kernel) rfl ?_
  refine aw_if_ge (off := 11) B 15 (by decide +kernel) (by decide) (fun _ => ?_) (fun _ => ?_)
  · refine aw_iconst (n := 0) (v := (0 : Int32)) B (by decide +kernel) (by decide) ?_
    exact aw_zreturnK B (by decide +kernel) rfl (by decide)
  · refine aw_aload_n (k0 := 0) B 0 (by decide +kernel) rfl rfl ?_
    refine aw_cVR B (c_X11_byteAt (eLa E) hG M) cvX11_176 rfl rfl (Nat.le_of_ble_eq_true rfl) rfl (Nat.le_of_ble_eq_true rfl) (by decide +kernel) rfl (fun x1 => ?_)
    refine aw_iload_n (k0 := 1) B 1 (by decide +kernel) rfl rfl ?_
    refine aw_icmp_eq (off := 5) B 17 (by decide +kernel) (by decide) (fun _ => ?_) (fun _ => ?_)
    · refine aw_aload_n (k0 := 0) B 0 (by decide +kernel) rfl rfl ?_
      refine aw_dup B (by decide +kernel) rfl ?_
      refine aw_geti (c := 47) B lkX11_164 (by decide +kernel) rfl ?_
      refine aw_iconst (n := 1) (v := (1 : Int32)) B (by decide +kernel) (by decide) ?_
      refine aw_iadd B (by decide +kernel) ?_
      refine aw_puti (c := 47) B lkX11_164 lp11_15 (by decide +kernel) rfl (fun M3 => ?_)
      refine aw_iconst (n := 1) (v := (1 : Int32)) B (by decide +kernel) (by decide) ?_
      exact aw_zreturnK B (by decide +kernel) rfl (by decide)
    · refine aw_iconst (n := 0) (v := (0 : Int32)) B (by decide +kernel) (by decide) ?_
      exact aw_zreturnK B (by decide +kernel) rfl (by decide)
theorem c_X11_takes (l : Launch) {G : GW} (hG : ab_ok G) (v1 : Int32) (M : Mem) : AC l G yX11_takes cX11_takes 2 (some .boolean) 3 [.ref 47, .int v1] M embI (f_X11_takes v1 M) := AC.of hG (by decide) (Nat.le_of_ble_eq_true rfl) (fun E hE B => by subst hE; exact w_X11_takes hG B v1 M)
def f_X11_nameOf (v0 : Int32) : Option Int32 := (if v0 = (97 : Int32) then (some (0 : Int32)) else if v0 = (98 : Int32) then (some (1 : Int32)) else if v0 = (114 : Int32) then (some (4 : Int32)) else if v0 = (120 : Int32) then (some (2 : Int32)) else if v0 = (121 : Int32) then (some (3 : Int32)) else (some (-1 : Int32)))
set_option maxRecDepth 100000 in
set_option maxHeartbeats 4000000 in
theorem w_X11_nameOf {G : GW} {E : EE} (hG : ab_ok G) (B : Bx G E RX11 cX11_nameOf 1 2 (some .int)) (v0 : Int32) (M : Mem) : AWo G E cX11_nameOf 1 (ab_Q G E (embRI M)) 0 [(0, .int v0)] [] M (f_X11_nameOf v0) := by
  unfold f_X11_nameOf
  refine aw_iload_n (k0 := 0) B 0 (by decide +kernel) rfl rfl ?_
  refine aw_ite (fun h1_0 => ?_) (fun h1_0 => ?_)
  · refine aw_lkpK (k0 := (97 : Int32)) (dflt := 61) (ps := #[(97, 51), (98, 53), (114, 59), (120, 55), (121, 57)]) (len := 51) (off := 51) B 52 (by decide +kernel) (by decide +kernel) h1_0 (by decide +kernel) (by decide) ?_
    refine aw_iconst (n := 0) (v := (0 : Int32)) B (by decide +kernel) (by decide) ?_
    exact aw_ireturn B (by decide +kernel) rfl
  refine aw_ite (fun h1_1 => ?_) (fun h1_1 => ?_)
  · refine aw_lkpK (k0 := (98 : Int32)) (dflt := 61) (ps := #[(97, 51), (98, 53), (114, 59), (120, 55), (121, 57)]) (len := 51) (off := 53) B 54 (by decide +kernel) (by decide +kernel) h1_1 (by decide +kernel) (by decide) ?_
    refine aw_iconst (n := 1) (v := (1 : Int32)) B (by decide +kernel) (by decide) ?_
    exact aw_ireturn B (by decide +kernel) rfl
  refine aw_ite (fun h1_2 => ?_) (fun h1_2 => ?_)
  · refine aw_lkpK (k0 := (114 : Int32)) (dflt := 61) (ps := #[(97, 51), (98, 53), (114, 59), (120, 55), (121, 57)]) (len := 51) (off := 59) B 60 (by decide +kernel) (by decide +kernel) h1_2 (by decide +kernel) (by decide) ?_
    refine aw_iconst (n := 4) (v := (4 : Int32)) B (by decide +kernel) (by decide) ?_
    exact aw_ireturn B (by decide +kernel) rfl
  refine aw_ite (fun h1_3 => ?_) (fun h1_3 => ?_)
  · refine aw_lkpK (k0 := (120 : Int32)) (dflt := 61) (ps := #[(97, 51), (98, 53), (114, 59), (120, 55), (121, 57)]) (len := 51) (off := 55) B 56 (by decide +kernel) (by decide +kernel) h1_3 (by decide +kernel) (by decide) ?_
    refine aw_iconst (n := 2) (v := (2 : Int32)) B (by decide +kernel) (by decide) ?_
    exact aw_ireturn B (by decide +kernel) rfl
  refine aw_ite (fun h1_4 => ?_) (fun h1_4 => ?_)
  · refine aw_lkpK (k0 := (121 : Int32)) (dflt := 61) (ps := #[(97, 51), (98, 53), (114, 59), (120, 55), (121, 57)]) (len := 51) (off := 57) B 58 (by decide +kernel) (by decide +kernel) h1_4 (by decide +kernel) (by decide) ?_
    refine aw_iconst (n := 3) (v := (3 : Int32)) B (by decide +kernel) (by decide) ?_
    exact aw_ireturn B (by decide +kernel) rfl
  · refine aw_lkp (dflt := 61) (ps := #[(97, 51), (98, 53), (114, 59), (120, 55), (121, 57)]) (len := 51) (off := 61) B 62 (by decide +kernel) (by decide +kernel) ((lv_osw h1_0 (by decide)).trans ((lv_osw h1_1 (by decide)).trans ((lv_osw h1_2 (by decide)).trans ((lv_osw h1_3 (by decide)).trans ((lv_osw h1_4 (by decide)).trans (rfl)))))) (by decide) ?_
    refine aw_iconst (n := -1) (v := (-1 : Int32)) B (by decide +kernel) (by decide) ?_
    exact aw_ireturn B (by decide +kernel) rfl
theorem c_X11_nameOf (l : Launch) {G : GW} (hG : ab_ok G) (v0 : Int32) (M : Mem) : AC l G yX11_nameOf cX11_nameOf 1 (some .int) 2 [.int v0] M (embRI M) (f_X11_nameOf v0) := AC.of hG (by decide) (Nat.le_of_ble_eq_true rfl) (fun E hE B => by subst hE; exact w_X11_nameOf hG B v0 M)
def f_X11_product_b85 (rc : Mem → Option (Int32 × Mem)) (k10 : Int32 → Int32 → Mem → Option (Int32 × Mem)) (s0 : Int32) (M : Mem) : Option (Int32 × Mem) := (f_X11_byteAt M).bind fun x1 => k10 s0 x1 M
set_option maxRecDepth 100000 in
set_option maxHeartbeats 4000000 in
theorem w_X11_product_b85 {G : GW} {E : EE} (hG : ab_ok G) {k10 : Int32 → Int32 → Mem → Option (Int32 × Mem)} {rc : Mem → Option (Int32 × Mem)} (lv0 : Nat) (hl0 : 4 ≤ lv0) (hrc : ∀  (M : Mem), AC (eLa E) G yX11_one cX11_one 5 (some .int) lv0 [.ref 47] M embI (rc M)) (B : Bx G E RX11 cX11_product 4 (lv0 + 1) (some .int)) (hk10 : ∀ (v1 : Int32) (v2 : Int32) (M : Mem), AWo G E cX11_product 4 (ab_Q G E embI) 10 [(0, .ref 47), (1, .int v1), (2, .int v2)] [] M (k10 v1 v2 M)) (s0 : Int32) (M : Mem) : AWo G E cX11_product 4 (ab_Q G E embI) 85 [(0, .ref 47)] [.int s0] M (f_X11_product_b85 rc k10 s0 M) := by
  unfold f_X11_product_b85
  refine aw_istore_n (k0 := 1) B [(1, .int s0), (0, .ref 47)] (by decide +kernel) rfl (Nat.le_of_ble_eq_true rfl) rfl ?_
  refine aw_aload_n (k0 := 0) B 1 (by decide +kernel) rfl rfl ?_
  refine aw_cVR B (c_X11_byteAt (eLa E) hG M) cvX11_176 rfl rfl (by have hF : FD = 40 := rfl; omega) rfl (Nat.le_of_ble_eq_true rfl) (by decide +kernel) rfl (fun x1 => ?_)
  refine aw_istore_n (k0 := 2) B [(2, .int x1), (1, .int s0), (0, .ref 47)] (by decide +kernel) rfl (Nat.le_of_ble_eq_true rfl) rfl ?_
  refine aw_goto (off := -81) B 10 (by decide +kernel) (by decide) ?_
  exact aw_sub [2, 1, 0] rfl (hk10 _ _ _)
def f_X11_product_b35 (rc : Mem → Option (Int32 × Mem)) (k10 : Int32 → Int32 → Mem → Option (Int32 × Mem)) (v1 : Int32) (v2 : Int32) (M : Mem) : Option (Int32 × Mem) := lt (wI M 47 15 ((M.1 47 15) + (1 : Int32))) fun M1 => bI (rc M1) fun x2 M3 => (if v2 = (42 : Int32) then f_X11_product_b85 rc k10 (v1 * x2) M3 else (if x2 = 0 then f_X11_product_b85 rc k10 (0 : Int32) M3 else (if v2 = (47 : Int32) then if x2 = 0 then none else f_X11_product_b85 rc k10 (v1 / x2) M3 else if x2 = 0 then none else f_X11_product_b85 rc k10 (ab_rem v1 x2) M3)))
set_option maxRecDepth 100000 in
set_option maxHeartbeats 4000000 in
theorem w_X11_product_b35 {G : GW} {E : EE} (hG : ab_ok G) {k10 : Int32 → Int32 → Mem → Option (Int32 × Mem)} {rc : Mem → Option (Int32 × Mem)} (lv0 : Nat) (hl0 : 4 ≤ lv0) (hrc : ∀  (M : Mem), AC (eLa E) G yX11_one cX11_one 5 (some .int) lv0 [.ref 47] M embI (rc M)) (B : Bx G E RX11 cX11_product 4 (lv0 + 1) (some .int)) (hk10 : ∀ (v1 : Int32) (v2 : Int32) (M : Mem), AWo G E cX11_product 4 (ab_Q G E embI) 10 [(0, .ref 47), (1, .int v1), (2, .int v2)] [] M (k10 v1 v2 M)) (v1 : Int32) (v2 : Int32) (M : Mem) : AWo G E cX11_product 4 (ab_Q G E embI) 35 [(0, .ref 47), (1, .int v1), (2, .int v2)] [] M (f_X11_product_b35 rc k10 v1 v2 M) := by
  unfold f_X11_product_b35
  refine aw_aload_n (k0 := 0) B 0 (by decide +kernel) rfl rfl ?_
  refine aw_dup B (by decide +kernel) rfl ?_
  refine aw_geti (c := 47) B lkX11_164 (by decide +kernel) rfl ?_
  refine aw_iconst (n := 1) (v := (1 : Int32)) B (by decide +kernel) (by decide) ?_
  refine aw_iadd B (by decide +kernel) ?_
  refine aw_puti (c := 47) B lkX11_164 lp11_15 (by decide +kernel) rfl (fun M1 => ?_)
  refine aw_aload_n (k0 := 0) B 0 (by decide +kernel) rfl rfl ?_
  refine aw_cVI B (hrc M1) cvX11_195 rfl rfl (by have hF : FD = 40 := rfl; omega) rfl (Nat.le_of_ble_eq_true rfl) (by decide +kernel) rfl (fun x2 M3 => ?_)
  refine aw_istore_n (k0 := 3) B [(3, .int x2), (0, .ref 47), (1, .int v1), (2, .int v2)] (by decide +kernel) rfl (Nat.le_of_ble_eq_true rfl) rfl ?_
  refine aw_iload_n (k0 := 2) B 3 (by decide +kernel) rfl rfl ?_
  refine aw_bipush (n := 42) (v := (42 : Int32)) B (by decide +kernel) (by decide) ?_
  refine aw_icmp_ne (off := 9) B 62 (by decide +kernel) (by decide) (fun _ => ?_) (fun _ => ?_)
  · refine aw_iload_n (k0 := 3) B 0 (by decide +kernel) rfl rfl ?_
    refine aw_if_ne (off := 7) B 70 (by decide +kernel) (by decide) (fun _ => ?_) (fun _ => ?_)
    · refine aw_iload_n (k0 := 2) B 3 (by decide +kernel) rfl rfl ?_
      refine aw_bipush (n := 47) (v := (47 : Int32)) B (by decide +kernel) (by decide) ?_
      refine aw_icmp_ne (off := 9) B 82 (by decide +kernel) (by decide) (fun _ => ?_) (fun _ => ?_)
      · refine aw_iload_n (k0 := 1) B 2 (by decide +kernel) rfl rfl ?_
        refine aw_iload_n (k0 := 3) B 0 (by decide +kernel) rfl rfl ?_
        refine aw_irem B (by decide +kernel) ?_
        exact aw_sub [1] rfl (w_X11_product_b85 hG lv0 hl0 hrc B hk10 _ _)
      · refine aw_iload_n (k0 := 1) B 2 (by decide +kernel) rfl rfl ?_
        refine aw_iload_n (k0 := 3) B 0 (by decide +kernel) rfl rfl ?_
        refine aw_idiv B (by decide +kernel) ?_
        refine aw_goto (off := 6) B 85 (by decide +kernel) (by decide) ?_
        exact aw_sub [1] rfl (w_X11_product_b85 hG lv0 hl0 hrc B hk10 _ _)
    · refine aw_iconst (n := 0) (v := (0 : Int32)) B (by decide +kernel) (by decide) ?_
      refine aw_goto (off := 18) B 85 (by decide +kernel) (by decide) ?_
      exact aw_sub [1] rfl (w_X11_product_b85 hG lv0 hl0 hrc B hk10 _ _)
  · refine aw_iload_n (k0 := 1) B 2 (by decide +kernel) rfl rfl ?_
    refine aw_iload_n (k0 := 3) B 0 (by decide +kernel) rfl rfl ?_
    refine aw_imul B (by decide +kernel) ?_
    refine aw_goto (off := 26) B 85 (by decide +kernel) (by decide) ?_
    exact aw_sub [1] rfl (w_X11_product_b85 hG lv0 hl0 hrc B hk10 _ _)
def f_X11_product_L10 (rc : Mem → Option (Int32 × Mem)) : Nat → Int32 → Int32 → Mem → Option (Int32 × Mem)
  | 0, _, _, _ => none
  | n + 1, v1, v2, M => (if 0 ≤ (M.1 47 17) then (some (v1, M)) else (if v2 = (42 : Int32) then f_X11_product_b35 rc (fun a0 a1 a2 => f_X11_product_L10 rc n a0 a1 a2) v1 v2 M else (if v2 = (47 : Int32) then f_X11_product_b35 rc (fun a0 a1 a2 => f_X11_product_L10 rc n a0 a1 a2) v1 v2 M else (if v2 = (37 : Int32) then f_X11_product_b35 rc (fun a0 a1 a2 => f_X11_product_L10 rc n a0 a1 a2) v1 v2 M else (some (v1, M))))))
set_option maxRecDepth 100000 in
set_option maxHeartbeats 4000000 in
theorem w_X11_product_L10 {G : GW} {E : EE} (hG : ab_ok G) {rc : Mem → Option (Int32 × Mem)} (lv0 : Nat) (hl0 : 4 ≤ lv0) (hrc : ∀  (M : Mem), AC (eLa E) G yX11_one cX11_one 5 (some .int) lv0 [.ref 47] M embI (rc M)) (B : Bx G E RX11 cX11_product 4 (lv0 + 1) (some .int)) : ∀ (n : Nat) (v1 : Int32) (v2 : Int32) (M : Mem), AWo G E cX11_product 4 (ab_Q G E embI) 10 [(0, .ref 47), (1, .int v1), (2, .int v2)] [] M (f_X11_product_L10 rc n v1 v2 M) := by
  intro n
  induction n with
  | zero => intro _ _ _; exact aw_none
  | succ n ih =>
    intro v1 v2 M
    rw [f_X11_product_L10]
    refine aw_aload_n (k0 := 0) B 0 (by decide +kernel) rfl rfl ?_
    refine aw_geti (c := 47) B lkX11_173 (by decide +kernel) rfl ?_
    refine aw_if_ge (off := 80) B 94 (by decide +kernel) (by decide) (fun _ => ?_) (fun _ => ?_)
    · refine aw_iload_n (k0 := 1) B 1 (by decide +kernel) rfl rfl ?_
      exact aw_ireturn B (by decide +kernel) rfl
    · refine aw_iload_n (k0 := 2) B 2 (by decide +kernel) rfl rfl ?_
      refine aw_bipush (n := 42) (v := (42 : Int32)) B (by decide +kernel) (by decide) ?_
      refine aw_icmp_eq (off := 15) B 35 (by decide +kernel) (by decide) (fun _ => ?_) (fun _ => ?_)
      · exact w_X11_product_b35 hG lv0 hl0 hrc B ih _ _ _
      · refine aw_iload_n (k0 := 2) B 2 (by decide +kernel) rfl rfl ?_
        refine aw_bipush (n := 47) (v := (47 : Int32)) B (by decide +kernel) (by decide) ?_
        refine aw_icmp_eq (off := 9) B 35 (by decide +kernel) (by decide) (fun _ => ?_) (fun _ => ?_)
        · exact w_X11_product_b35 hG lv0 hl0 hrc B ih _ _ _
        · refine aw_iload_n (k0 := 2) B 2 (by decide +kernel) rfl rfl ?_
          refine aw_bipush (n := 37) (v := (37 : Int32)) B (by decide +kernel) (by decide) ?_
          refine aw_icmp_ne (off := 62) B 94 (by decide +kernel) (by decide) (fun _ => ?_) (fun _ => ?_)
          · refine aw_iload_n (k0 := 1) B 1 (by decide +kernel) rfl rfl ?_
            exact aw_ireturn B (by decide +kernel) rfl
          · exact w_X11_product_b35 hG lv0 hl0 hrc B ih _ _ _
def f_X11_product (rc : Mem → Option (Int32 × Mem)) (M : Mem) : Option (Int32 × Mem) := bI (rc M) fun x1 M2 => (f_X11_byteAt M2).bind fun x3 => f_X11_product_L10 rc FU x1 x3 M2
set_option maxRecDepth 100000 in
set_option maxHeartbeats 4000000 in
theorem w_X11_product {G : GW} {E : EE} (hG : ab_ok G) {rc : Mem → Option (Int32 × Mem)} (lv0 : Nat) (hl0 : 4 ≤ lv0) (hrc : ∀  (M : Mem), AC (eLa E) G yX11_one cX11_one 5 (some .int) lv0 [.ref 47] M embI (rc M)) (B : Bx G E RX11 cX11_product 4 (lv0 + 1) (some .int)) (M : Mem) : AWo G E cX11_product 4 (ab_Q G E embI) 0 [(0, .ref 47)] [] M (f_X11_product rc M) := by
  unfold f_X11_product
  refine aw_aload_n (k0 := 0) B 0 (by decide +kernel) rfl rfl ?_
  refine aw_cVI B (hrc M) cvX11_195 rfl rfl (by have hF : FD = 40 := rfl; omega) rfl (Nat.le_of_ble_eq_true rfl) (by decide +kernel) rfl (fun x1 M2 => ?_)
  refine aw_istore_n (k0 := 1) B [(1, .int x1), (0, .ref 47)] (by decide +kernel) rfl (Nat.le_of_ble_eq_true rfl) rfl ?_
  refine aw_aload_n (k0 := 0) B 1 (by decide +kernel) rfl rfl ?_
  refine aw_cVR B (c_X11_byteAt (eLa E) hG M2) cvX11_176 rfl rfl (by have hF : FD = 40 := rfl; omega) rfl (Nat.le_of_ble_eq_true rfl) (by decide +kernel) rfl (fun x3 => ?_)
  refine aw_istore_n (k0 := 2) B [(2, .int x3), (1, .int x1), (0, .ref 47)] (by decide +kernel) rfl (Nat.le_of_ble_eq_true rfl) rfl ?_
  exact aw_sub [2, 1, 0] rfl (w_X11_product_L10 hG lv0 hl0 hrc B FU _ _ _)
theorem oc_X11_product (l : Launch) {G : GW} (hG : ab_ok G) {rc : Mem → Option (Int32 × Mem)} (lv0 : Nat) (hl0 : 4 ≤ lv0) (hrc : ∀  (M : Mem), AC l G yX11_one cX11_one 5 (some .int) lv0 [.ref 47] M embI (rc M)) (M : Mem) : AC l G yX11_product cX11_product 4 (some .int) (lv0 + 1) [.ref 47] M embI (f_X11_product rc M) := AC.of hG (by decide) (Nat.le_of_ble_eq_true rfl) (fun E hE B => by subst hE; exact w_X11_product hG lv0 hl0 hrc B M)
def f_X11_sums_b73 (rc : Mem → Option (Int32 × Mem)) (k5 : Int32 → Mem → Option (Int32 × Mem)) (s0 : Int32) (M : Mem) : Option (Int32 × Mem) := k5 s0 M
set_option maxRecDepth 100000 in
set_option maxHeartbeats 4000000 in
theorem w_X11_sums_b73 {G : GW} {E : EE} (hG : ab_ok G) {k5 : Int32 → Mem → Option (Int32 × Mem)} {rc : Mem → Option (Int32 × Mem)} (lv0 : Nat) (hl0 : 4 ≤ lv0) (hrc : ∀  (M : Mem), AC (eLa E) G yX11_one cX11_one 5 (some .int) lv0 [.ref 47] M embI (rc M)) (B : Bx G E RX11 cX11_sums 4 (lv0 + 2) (some .int)) (hk5 : ∀ (v1 : Int32) (M : Mem), AWo G E cX11_sums 4 (ab_Q G E embI) 5 [(0, .ref 47), (1, .int v1)] [] M (k5 v1 M)) (s0 : Int32) (M : Mem) : AWo G E cX11_sums 4 (ab_Q G E embI) 73 [(0, .ref 47)] [.int s0] M (f_X11_sums_b73 rc k5 s0 M) := by
  unfold f_X11_sums_b73
  refine aw_istore_n (k0 := 1) B [(1, .int s0), (0, .ref 47)] (by decide +kernel) rfl (Nat.le_of_ble_eq_true rfl) rfl ?_
  refine aw_goto (off := -69) B 5 (by decide +kernel) (by decide) ?_
  exact aw_sub [1, 0] rfl (hk5 _ _)
def f_X11_sums_b44 (rc : Mem → Option (Int32 × Mem)) (k5 : Int32 → Mem → Option (Int32 × Mem)) (v1 : Int32) (s0 : Int32) (M : Mem) : Option (Int32 × Mem) := lt (wI M 47 15 ((M.1 47 15) + (1 : Int32))) fun M1 => bI (f_X11_product rc M1) fun x2 M3 => (if s0 = 0 then f_X11_sums_b73 rc k5 (v1 - x2) M3 else f_X11_sums_b73 rc k5 (v1 + x2) M3)
set_option maxRecDepth 100000 in
set_option maxHeartbeats 4000000 in
theorem w_X11_sums_b44 {G : GW} {E : EE} (hG : ab_ok G) {k5 : Int32 → Mem → Option (Int32 × Mem)} {rc : Mem → Option (Int32 × Mem)} (lv0 : Nat) (hl0 : 4 ≤ lv0) (hrc : ∀  (M : Mem), AC (eLa E) G yX11_one cX11_one 5 (some .int) lv0 [.ref 47] M embI (rc M)) (B : Bx G E RX11 cX11_sums 4 (lv0 + 2) (some .int)) (hk5 : ∀ (v1 : Int32) (M : Mem), AWo G E cX11_sums 4 (ab_Q G E embI) 5 [(0, .ref 47), (1, .int v1)] [] M (k5 v1 M)) (v1 : Int32) (s0 : Int32) (M : Mem) : AWo G E cX11_sums 4 (ab_Q G E embI) 44 [(0, .ref 47), (1, .int v1)] [.int s0] M (f_X11_sums_b44 rc k5 v1 s0 M) := by
  unfold f_X11_sums_b44
  refine aw_istore_n (k0 := 2) B [(2, .int s0), (0, .ref 47), (1, .int v1)] (by decide +kernel) rfl (Nat.le_of_ble_eq_true rfl) rfl ?_
  refine aw_aload_n (k0 := 0) B 1 (by decide +kernel) rfl rfl ?_
  refine aw_dup B (by decide +kernel) rfl ?_
  refine aw_geti (c := 47) B lkX11_164 (by decide +kernel) rfl ?_
  refine aw_iconst (n := 1) (v := (1 : Int32)) B (by decide +kernel) (by decide) ?_
  refine aw_iadd B (by decide +kernel) ?_
  refine aw_puti (c := 47) B lkX11_164 lp11_15 (by decide +kernel) rfl (fun M1 => ?_)
  refine aw_aload_n (k0 := 0) B 1 (by decide +kernel) rfl rfl ?_
  refine aw_cVI B (oc_X11_product (eLa E) hG lv0 hl0 hrc M1) cvX11_192 rfl rfl (by have hF : FD = 40 := rfl; omega) rfl (Nat.le_of_ble_eq_true rfl) (by decide +kernel) rfl (fun x2 M3 => ?_)
  refine aw_istore_n (k0 := 3) B [(3, .int x2), (2, .int s0), (0, .ref 47), (1, .int v1)] (by decide +kernel) rfl (Nat.le_of_ble_eq_true rfl) rfl ?_
  refine aw_iload_n (k0 := 2) B 1 (by decide +kernel) rfl rfl ?_
  refine aw_if_eq (off := 9) B 70 (by decide +kernel) (by decide) (fun _ => ?_) (fun _ => ?_)
  · refine aw_iload_n (k0 := 1) B 3 (by decide +kernel) rfl rfl ?_
    refine aw_iload_n (k0 := 3) B 0 (by decide +kernel) rfl rfl ?_
    refine aw_isub B (by decide +kernel) ?_
    exact aw_sub [2] rfl (w_X11_sums_b73 hG lv0 hl0 hrc B hk5 _ _)
  · refine aw_iload_n (k0 := 1) B 3 (by decide +kernel) rfl rfl ?_
    refine aw_iload_n (k0 := 3) B 0 (by decide +kernel) rfl rfl ?_
    refine aw_iadd B (by decide +kernel) ?_
    refine aw_goto (off := 6) B 73 (by decide +kernel) (by decide) ?_
    exact aw_sub [2] rfl (w_X11_sums_b73 hG lv0 hl0 hrc B hk5 _ _)
def f_X11_sums_b30 (rc : Mem → Option (Int32 × Mem)) (k5 : Int32 → Mem → Option (Int32 × Mem)) (v1 : Int32) (M : Mem) : Option (Int32 × Mem) := (f_X11_byteAt M).bind fun x1 => (if x1 = (43 : Int32) then f_X11_sums_b44 rc k5 v1 (1 : Int32) M else f_X11_sums_b44 rc k5 v1 (0 : Int32) M)
set_option maxRecDepth 100000 in
set_option maxHeartbeats 4000000 in
theorem w_X11_sums_b30 {G : GW} {E : EE} (hG : ab_ok G) {k5 : Int32 → Mem → Option (Int32 × Mem)} {rc : Mem → Option (Int32 × Mem)} (lv0 : Nat) (hl0 : 4 ≤ lv0) (hrc : ∀  (M : Mem), AC (eLa E) G yX11_one cX11_one 5 (some .int) lv0 [.ref 47] M embI (rc M)) (B : Bx G E RX11 cX11_sums 4 (lv0 + 2) (some .int)) (hk5 : ∀ (v1 : Int32) (M : Mem), AWo G E cX11_sums 4 (ab_Q G E embI) 5 [(0, .ref 47), (1, .int v1)] [] M (k5 v1 M)) (v1 : Int32) (M : Mem) : AWo G E cX11_sums 4 (ab_Q G E embI) 30 [(0, .ref 47), (1, .int v1)] [] M (f_X11_sums_b30 rc k5 v1 M) := by
  unfold f_X11_sums_b30
  refine aw_aload_n (k0 := 0) B 0 (by decide +kernel) rfl rfl ?_
  refine aw_cVR B (c_X11_byteAt (eLa E) hG M) cvX11_176 rfl rfl (by have hF : FD = 40 := rfl; omega) rfl (Nat.le_of_ble_eq_true rfl) (by decide +kernel) rfl (fun x1 => ?_)
  refine aw_bipush (n := 43) (v := (43 : Int32)) B (by decide +kernel) (by decide) ?_
  refine aw_icmp_ne (off := 7) B 43 (by decide +kernel) (by decide) (fun _ => ?_) (fun _ => ?_)
  · refine aw_iconst (n := 0) (v := (0 : Int32)) B (by decide +kernel) (by decide) ?_
    exact w_X11_sums_b44 hG lv0 hl0 hrc B hk5 _ _ _
  · refine aw_iconst (n := 1) (v := (1 : Int32)) B (by decide +kernel) (by decide) ?_
    refine aw_goto (off := 4) B 44 (by decide +kernel) (by decide) ?_
    exact w_X11_sums_b44 hG lv0 hl0 hrc B hk5 _ _ _
def f_X11_sums_L5 (rc : Mem → Option (Int32 × Mem)) : Nat → Int32 → Mem → Option (Int32 × Mem)
  | 0, _, _ => none
  | n + 1, v1, M => (if 0 ≤ (M.1 47 17) then (some (v1, M)) else (f_X11_byteAt M).bind fun x1 => (if x1 = (43 : Int32) then f_X11_sums_b30 rc (fun a0 a1 => f_X11_sums_L5 rc n a0 a1) v1 M else (f_X11_byteAt M).bind fun x3 => (if x3 = (45 : Int32) then f_X11_sums_b30 rc (fun a0 a1 => f_X11_sums_L5 rc n a0 a1) v1 M else (some (v1, M)))))
set_option maxRecDepth 100000 in
set_option maxHeartbeats 4000000 in
theorem w_X11_sums_L5 {G : GW} {E : EE} (hG : ab_ok G) {rc : Mem → Option (Int32 × Mem)} (lv0 : Nat) (hl0 : 4 ≤ lv0) (hrc : ∀  (M : Mem), AC (eLa E) G yX11_one cX11_one 5 (some .int) lv0 [.ref 47] M embI (rc M)) (B : Bx G E RX11 cX11_sums 4 (lv0 + 2) (some .int)) : ∀ (n : Nat) (v1 : Int32) (M : Mem), AWo G E cX11_sums 4 (ab_Q G E embI) 5 [(0, .ref 47), (1, .int v1)] [] M (f_X11_sums_L5 rc n v1 M) := by
  intro n
  induction n with
  | zero => intro _ _; exact aw_none
  | succ n ih =>
    intro v1 M
    rw [f_X11_sums_L5]
    refine aw_aload_n (k0 := 0) B 0 (by decide +kernel) rfl rfl ?_
    refine aw_geti (c := 47) B lkX11_173 (by decide +kernel) rfl ?_
    refine aw_if_ge (off := 68) B 77 (by decide +kernel) (by decide) (fun _ => ?_) (fun _ => ?_)
    · refine aw_iload_n (k0 := 1) B 1 (by decide +kernel) rfl rfl ?_
      exact aw_ireturn B (by decide +kernel) rfl
    · refine aw_aload_n (k0 := 0) B 0 (by decide +kernel) rfl rfl ?_
      refine aw_cVR B (c_X11_byteAt (eLa E) hG M) cvX11_176 rfl rfl (by have hF : FD = 40 := rfl; omega) rfl (Nat.le_of_ble_eq_true rfl) (by decide +kernel) rfl (fun x1 => ?_)
      refine aw_bipush (n := 43) (v := (43 : Int32)) B (by decide +kernel) (by decide) ?_
      refine aw_icmp_eq (off := 12) B 30 (by decide +kernel) (by decide) (fun _ => ?_) (fun _ => ?_)
      · exact w_X11_sums_b30 hG lv0 hl0 hrc B ih _ _
      · refine aw_aload_n (k0 := 0) B 0 (by decide +kernel) rfl rfl ?_
        refine aw_cVR B (c_X11_byteAt (eLa E) hG M) cvX11_176 rfl rfl (by have hF : FD = 40 := rfl; omega) rfl (Nat.le_of_ble_eq_true rfl) (by decide +kernel) rfl (fun x3 => ?_)
        refine aw_bipush (n := 45) (v := (45 : Int32)) B (by decide +kernel) (by decide) ?_
        refine aw_icmp_ne (off := 50) B 77 (by decide +kernel) (by decide) (fun _ => ?_) (fun _ => ?_)
        · refine aw_iload_n (k0 := 1) B 1 (by decide +kernel) rfl rfl ?_
          exact aw_ireturn B (by decide +kernel) rfl
        · exact w_X11_sums_b30 hG lv0 hl0 hrc B ih _ _
def f_X11_sums (rc : Mem → Option (Int32 × Mem)) (M : Mem) : Option (Int32 × Mem) := bI (f_X11_product rc M) fun x1 M2 => f_X11_sums_L5 rc FU x1 M2
set_option maxRecDepth 100000 in
set_option maxHeartbeats 4000000 in
theorem w_X11_sums {G : GW} {E : EE} (hG : ab_ok G) {rc : Mem → Option (Int32 × Mem)} (lv0 : Nat) (hl0 : 4 ≤ lv0) (hrc : ∀  (M : Mem), AC (eLa E) G yX11_one cX11_one 5 (some .int) lv0 [.ref 47] M embI (rc M)) (B : Bx G E RX11 cX11_sums 4 (lv0 + 2) (some .int)) (M : Mem) : AWo G E cX11_sums 4 (ab_Q G E embI) 0 [(0, .ref 47)] [] M (f_X11_sums rc M) := by
  unfold f_X11_sums
  refine aw_aload_n (k0 := 0) B 0 (by decide +kernel) rfl rfl ?_
  refine aw_cVI B (oc_X11_product (eLa E) hG lv0 hl0 hrc M) cvX11_192 rfl rfl (by have hF : FD = 40 := rfl; omega) rfl (Nat.le_of_ble_eq_true rfl) (by decide +kernel) rfl (fun x1 M2 => ?_)
  refine aw_istore_n (k0 := 1) B [(1, .int x1), (0, .ref 47)] (by decide +kernel) rfl (Nat.le_of_ble_eq_true rfl) rfl ?_
  exact aw_sub [1, 0] rfl (w_X11_sums_L5 hG lv0 hl0 hrc B FU _ _)
theorem oc_X11_sums (l : Launch) {G : GW} (hG : ab_ok G) {rc : Mem → Option (Int32 × Mem)} (lv0 : Nat) (hl0 : 4 ≤ lv0) (hrc : ∀  (M : Mem), AC l G yX11_one cX11_one 5 (some .int) lv0 [.ref 47] M embI (rc M)) (M : Mem) : AC l G yX11_sums cX11_sums 4 (some .int) (lv0 + 2) [.ref 47] M embI (f_X11_sums rc M) := AC.of hG (by decide) (Nat.le_of_ble_eq_true rfl) (fun E hE B => by subst hE; exact w_X11_sums hG lv0 hl0 hrc B M)
def f_X11_compared_b85 (rc : Mem → Option (Int32 × Mem)) (M : Mem) : Option (Int32 × Mem) := (some ((1 : Int32), M))
set_option maxRecDepth 100000 in
set_option maxHeartbeats 4000000 in
theorem w_X11_compared_b85 {G : GW} {E : EE} (hG : ab_ok G) {rc : Mem → Option (Int32 × Mem)} (lv0 : Nat) (hl0 : 4 ≤ lv0) (hrc : ∀  (M : Mem), AC (eLa E) G yX11_one cX11_one 5 (some .int) lv0 [.ref 47] M embI (rc M)) (B : Bx G E RX11 cX11_compared 4 (lv0 + 3) (some .int)) (M : Mem) : AWo G E cX11_compared 4 (ab_Q G E embI) 85 [] [] M (f_X11_compared_b85 rc M) := by
  unfold f_X11_compared_b85
  refine aw_iconst (n := 1) (v := (1 : Int32)) B (by decide +kernel) (by decide) ?_
  refine aw_goto (off := 4) B 90 (by decide +kernel) (by decide) ?_
  exact aw_ireturn B (by decide +kernel) rfl
def f_X11_compared_b37 (rc : Mem → Option (Int32 × Mem)) (v1 : Int32) (v2 : Int32) (M : Mem) : Option (Int32 × Mem) := lt (wI M 47 15 ((M.1 47 15) + (1 : Int32))) fun M1 => bI (f_X11_sums rc M1) fun x2 M3 => (if v2 = (60 : Int32) then (if x2 ≤ v1 then (some ((0 : Int32), M3)) else f_X11_compared_b85 rc M3) else (if v2 = (61 : Int32) then (if v1 = x2 then f_X11_compared_b85 rc M3 else (some ((0 : Int32), M3))) else (if v1 ≤ x2 then (some ((0 : Int32), M3)) else f_X11_compared_b85 rc M3)))
set_option maxRecDepth 100000 in
set_option maxHeartbeats 4000000 in
theorem w_X11_compared_b37 {G : GW} {E : EE} (hG : ab_ok G) {rc : Mem → Option (Int32 × Mem)} (lv0 : Nat) (hl0 : 4 ≤ lv0) (hrc : ∀  (M : Mem), AC (eLa E) G yX11_one cX11_one 5 (some .int) lv0 [.ref 47] M embI (rc M)) (B : Bx G E RX11 cX11_compared 4 (lv0 + 3) (some .int)) (v1 : Int32) (v2 : Int32) (M : Mem) : AWo G E cX11_compared 4 (ab_Q G E embI) 37 [(0, .ref 47), (1, .int v1), (2, .int v2)] [] M (f_X11_compared_b37 rc v1 v2 M) := by
  unfold f_X11_compared_b37
  refine aw_aload_n (k0 := 0) B 0 (by decide +kernel) rfl rfl ?_
  refine aw_dup B (by decide +kernel) rfl ?_
  refine aw_geti (c := 47) B lkX11_164 (by decide +kernel) rfl ?_
  refine aw_iconst (n := 1) (v := (1 : Int32)) B (by decide +kernel) (by decide) ?_
  refine aw_iadd B (by decide +kernel) ?_
  refine aw_puti (c := 47) B lkX11_164 lp11_15 (by decide +kernel) rfl (fun M1 => ?_)
  refine aw_aload_n (k0 := 0) B 0 (by decide +kernel) rfl rfl ?_
  refine aw_cVI B (oc_X11_sums (eLa E) hG lv0 hl0 hrc M1) cvX11_189 rfl rfl (by have hF : FD = 40 := rfl; omega) rfl (Nat.le_of_ble_eq_true rfl) (by decide +kernel) rfl (fun x2 M3 => ?_)
  refine aw_istore_n (k0 := 3) B [(3, .int x2), (0, .ref 47), (1, .int v1), (2, .int v2)] (by decide +kernel) rfl (Nat.le_of_ble_eq_true rfl) rfl ?_
  refine aw_iload_n (k0 := 2) B 3 (by decide +kernel) rfl rfl ?_
  refine aw_bipush (n := 60) (v := (60 : Int32)) B (by decide +kernel) (by decide) ?_
  refine aw_icmp_ne (off := 11) B 66 (by decide +kernel) (by decide) (fun _ => ?_) (fun _ => ?_)
  · refine aw_iload_n (k0 := 2) B 3 (by decide +kernel) rfl rfl ?_
    refine aw_bipush (n := 61) (v := (61 : Int32)) B (by decide +kernel) (by decide) ?_
    refine aw_icmp_ne (off := 11) B 80 (by decide +kernel) (by decide) (fun _ => ?_) (fun _ => ?_)
    · refine aw_iload_n (k0 := 1) B 2 (by decide +kernel) rfl rfl ?_
      refine aw_iload_n (k0 := 3) B 0 (by decide +kernel) rfl rfl ?_
      refine aw_icmp_le (off := 7) B 89 (by decide +kernel) (by decide) (fun _ => ?_) (fun _ => ?_)
      · refine aw_iconst (n := 0) (v := (0 : Int32)) B (by decide +kernel) (by decide) ?_
        exact aw_ireturn B (by decide +kernel) rfl
      · exact aw_sub [] rfl (w_X11_compared_b85 hG lv0 hl0 hrc B _)
    · refine aw_iload_n (k0 := 1) B 2 (by decide +kernel) rfl rfl ?_
      refine aw_iload_n (k0 := 3) B 0 (by decide +kernel) rfl rfl ?_
      refine aw_icmp_ne (off := 15) B 89 (by decide +kernel) (by decide) (fun _ => ?_) (fun _ => ?_)
      · refine aw_iconst (n := 0) (v := (0 : Int32)) B (by decide +kernel) (by decide) ?_
        exact aw_ireturn B (by decide +kernel) rfl
      · refine aw_goto (off := 8) B 85 (by decide +kernel) (by decide) ?_
        exact aw_sub [] rfl (w_X11_compared_b85 hG lv0 hl0 hrc B _)
  · refine aw_iload_n (k0 := 1) B 2 (by decide +kernel) rfl rfl ?_
    refine aw_iload_n (k0 := 3) B 0 (by decide +kernel) rfl rfl ?_
    refine aw_icmp_ge (off := 29) B 89 (by decide +kernel) (by decide) (fun _ => ?_) (fun _ => ?_)
    · refine aw_iconst (n := 0) (v := (0 : Int32)) B (by decide +kernel) (by decide) ?_
      exact aw_ireturn B (by decide +kernel) rfl
    · refine aw_goto (off := 22) B 85 (by decide +kernel) (by decide) ?_
      exact aw_sub [] rfl (w_X11_compared_b85 hG lv0 hl0 hrc B _)
def f_X11_compared (rc : Mem → Option (Int32 × Mem)) (M : Mem) : Option (Int32 × Mem) := bI (f_X11_sums rc M) fun x1 M2 => (f_X11_byteAt M2).bind fun x3 => (if 0 ≤ (M2.1 47 17) then (some (x1, M2)) else (if x3 = (60 : Int32) then f_X11_compared_b37 rc x1 x3 M2 else (if x3 = (61 : Int32) then f_X11_compared_b37 rc x1 x3 M2 else (if x3 = (62 : Int32) then f_X11_compared_b37 rc x1 x3 M2 else (some (x1, M2))))))
set_option maxRecDepth 100000 in
set_option maxHeartbeats 4000000 in
theorem w_X11_compared {G : GW} {E : EE} (hG : ab_ok G) {rc : Mem → Option (Int32 × Mem)} (lv0 : Nat) (hl0 : 4 ≤ lv0) (hrc : ∀  (M : Mem), AC (eLa E) G yX11_one cX11_one 5 (some .int) lv0 [.ref 47] M embI (rc M)) (B : Bx G E RX11 cX11_compared 4 (lv0 + 3) (some .int)) (M : Mem) : AWo G E cX11_compared 4 (ab_Q G E embI) 0 [(0, .ref 47)] [] M (f_X11_compared rc M) := by
  unfold f_X11_compared
  refine aw_aload_n (k0 := 0) B 0 (by decide +kernel) rfl rfl ?_
  refine aw_cVI B (oc_X11_sums (eLa E) hG lv0 hl0 hrc M) cvX11_189 rfl rfl (by have hF : FD = 40 := rfl; omega) rfl (Nat.le_of_ble_eq_true rfl) (by decide +kernel) rfl (fun x1 M2 => ?_)
  refine aw_istore_n (k0 := 1) B [(1, .int x1), (0, .ref 47)] (by decide +kernel) rfl (Nat.le_of_ble_eq_true rfl) rfl ?_
  refine aw_aload_n (k0 := 0) B 1 (by decide +kernel) rfl rfl ?_
  refine aw_cVR B (c_X11_byteAt (eLa E) hG M2) cvX11_176 rfl rfl (by have hF : FD = 40 := rfl; omega) rfl (Nat.le_of_ble_eq_true rfl) (by decide +kernel) rfl (fun x3 => ?_)
  refine aw_istore_n (k0 := 2) B [(2, .int x3), (1, .int x1), (0, .ref 47)] (by decide +kernel) rfl (Nat.le_of_ble_eq_true rfl) rfl ?_
  refine aw_aload_n (k0 := 0) B 2 (by decide +kernel) rfl rfl ?_
  refine aw_geti (c := 47) B lkX11_173 (by decide +kernel) rfl ?_
  refine aw_if_ge (off := 21) B 35 (by decide +kernel) (by decide) (fun _ => ?_) (fun _ => ?_)
  · refine aw_iload_n (k0 := 1) B 1 (by decide +kernel) rfl rfl ?_
    exact aw_ireturn B (by decide +kernel) rfl
  · refine aw_iload_n (k0 := 2) B 0 (by decide +kernel) rfl rfl ?_
    refine aw_bipush (n := 60) (v := (60 : Int32)) B (by decide +kernel) (by decide) ?_
    refine aw_icmp_eq (off := 17) B 37 (by decide +kernel) (by decide) (fun _ => ?_) (fun _ => ?_)
    · exact aw_sub [2, 1, 0] rfl (w_X11_compared_b37 hG lv0 hl0 hrc B _ _ _)
    · refine aw_iload_n (k0 := 2) B 0 (by decide +kernel) rfl rfl ?_
      refine aw_bipush (n := 61) (v := (61 : Int32)) B (by decide +kernel) (by decide) ?_
      refine aw_icmp_eq (off := 11) B 37 (by decide +kernel) (by decide) (fun _ => ?_) (fun _ => ?_)
      · exact aw_sub [2, 1, 0] rfl (w_X11_compared_b37 hG lv0 hl0 hrc B _ _ _)
      · refine aw_iload_n (k0 := 2) B 0 (by decide +kernel) rfl rfl ?_
        refine aw_bipush (n := 62) (v := (62 : Int32)) B (by decide +kernel) (by decide) ?_
        refine aw_icmp_eq (off := 5) B 37 (by decide +kernel) (by decide) (fun _ => ?_) (fun _ => ?_)
        · exact aw_sub [2, 1, 0] rfl (w_X11_compared_b37 hG lv0 hl0 hrc B _ _ _)
        · refine aw_iload_n (k0 := 1) B 1 (by decide +kernel) rfl rfl ?_
          exact aw_ireturn B (by decide +kernel) rfl
theorem oc_X11_compared (l : Launch) {G : GW} (hG : ab_ok G) {rc : Mem → Option (Int32 × Mem)} (lv0 : Nat) (hl0 : 4 ≤ lv0) (hrc : ∀  (M : Mem), AC l G yX11_one cX11_one 5 (some .int) lv0 [.ref 47] M embI (rc M)) (M : Mem) : AC l G yX11_compared cX11_compared 4 (some .int) (lv0 + 3) [.ref 47] M embI (f_X11_compared rc M) := AC.of hG (by decide) (Nat.le_of_ble_eq_true rfl) (fun E hE B => by subst hE; exact w_X11_compared hG lv0 hl0 hrc B M)
def f_X11_both_b32 (rc : Mem → Option (Int32 × Mem)) (k5 : Int32 → Mem → Option (Int32 × Mem)) (s0 : Int32) (M : Mem) : Option (Int32 × Mem) := k5 s0 M
set_option maxRecDepth 100000 in
set_option maxHeartbeats 4000000 in
theorem w_X11_both_b32 {G : GW} {E : EE} (hG : ab_ok G) {k5 : Int32 → Mem → Option (Int32 × Mem)} {rc : Mem → Option (Int32 × Mem)} (lv0 : Nat) (hl0 : 4 ≤ lv0) (hrc : ∀  (M : Mem), AC (eLa E) G yX11_one cX11_one 5 (some .int) lv0 [.ref 47] M embI (rc M)) (B : Bx G E RX11 cX11_both 3 (lv0 + 4) (some .int)) (hk5 : ∀ (v1 : Int32) (M : Mem), AWo G E cX11_both 3 (ab_Q G E embI) 5 [(0, .ref 47), (1, .int v1)] [] M (k5 v1 M)) (s0 : Int32) (M : Mem) : AWo G E cX11_both 3 (ab_Q G E embI) 32 [(0, .ref 47)] [.int s0] M (f_X11_both_b32 rc k5 s0 M) := by
  unfold f_X11_both_b32
  refine aw_istore_n (k0 := 1) B [(1, .int s0), (0, .ref 47)] (by decide +kernel) rfl (Nat.le_of_ble_eq_true rfl) rfl ?_
  refine aw_goto (off := -28) B 5 (by decide +kernel) (by decide) ?_
  exact aw_sub [1, 0] rfl (hk5 _ _)
def f_X11_both_b31 (rc : Mem → Option (Int32 × Mem)) (k5 : Int32 → Mem → Option (Int32 × Mem)) (M : Mem) : Option (Int32 × Mem) := f_X11_both_b32 rc k5 (0 : Int32) M
set_option maxRecDepth 100000 in
set_option maxHeartbeats 4000000 in
theorem w_X11_both_b31 {G : GW} {E : EE} (hG : ab_ok G) {k5 : Int32 → Mem → Option (Int32 × Mem)} {rc : Mem → Option (Int32 × Mem)} (lv0 : Nat) (hl0 : 4 ≤ lv0) (hrc : ∀  (M : Mem), AC (eLa E) G yX11_one cX11_one 5 (some .int) lv0 [.ref 47] M embI (rc M)) (B : Bx G E RX11 cX11_both 3 (lv0 + 4) (some .int)) (hk5 : ∀ (v1 : Int32) (M : Mem), AWo G E cX11_both 3 (ab_Q G E embI) 5 [(0, .ref 47), (1, .int v1)] [] M (k5 v1 M)) (M : Mem) : AWo G E cX11_both 3 (ab_Q G E embI) 31 [(0, .ref 47)] [] M (f_X11_both_b31 rc k5 M) := by
  unfold f_X11_both_b31
  refine aw_iconst (n := 0) (v := (0 : Int32)) B (by decide +kernel) (by decide) ?_
  exact w_X11_both_b32 hG lv0 hl0 hrc B hk5 _ _
def f_X11_both_L5 (rc : Mem → Option (Int32 × Mem)) : Nat → Int32 → Mem → Option (Int32 × Mem)
  | 0, _, _ => none
  | n + 1, v1, M => bI (f_X11_takes (38 : Int32) M) fun x1 M2 => (if x1 = 0 then (some (v1, M2)) else bI (f_X11_compared rc M2) fun x3 M4 => (if v1 = 0 then f_X11_both_b31 rc (fun a0 a1 => f_X11_both_L5 rc n a0 a1) M4 else (if x3 = 0 then f_X11_both_b31 rc (fun a0 a1 => f_X11_both_L5 rc n a0 a1) M4 else f_X11_both_b32 rc (fun a0 a1 => f_X11_both_L5 rc n a0 a1) (1 : Int32) M4)))
set_option maxRecDepth 100000 in
set_option maxHeartbeats 4000000 in
theorem w_X11_both_L5 {G : GW} {E : EE} (hG : ab_ok G) {rc : Mem → Option (Int32 × Mem)} (lv0 : Nat) (hl0 : 4 ≤ lv0) (hrc : ∀  (M : Mem), AC (eLa E) G yX11_one cX11_one 5 (some .int) lv0 [.ref 47] M embI (rc M)) (B : Bx G E RX11 cX11_both 3 (lv0 + 4) (some .int)) : ∀ (n : Nat) (v1 : Int32) (M : Mem), AWo G E cX11_both 3 (ab_Q G E embI) 5 [(0, .ref 47), (1, .int v1)] [] M (f_X11_both_L5 rc n v1 M) := by
  intro n
  induction n with
  | zero => intro _ _; exact aw_none
  | succ n ih =>
    intro v1 M
    rw [f_X11_both_L5]
    refine aw_aload_n (k0 := 0) B 0 (by decide +kernel) rfl rfl ?_
    refine aw_bipush (n := 38) (v := (38 : Int32)) B (by decide +kernel) (by decide) ?_
    refine aw_cVI B (c_X11_takes (eLa E) hG (38 : Int32) M) cvX11_183 rfl rfl (by have hF : FD = 40 := rfl; omega) rfl (Nat.le_of_ble_eq_true rfl) (by decide +kernel) rfl (fun x1 M2 => ?_)
    refine aw_if_eq (off := 25) B 36 (by decide +kernel) (by decide) (fun _ => ?_) (fun _ => ?_)
    · refine aw_iload_n (k0 := 1) B 1 (by decide +kernel) rfl rfl ?_
      exact aw_ireturn B (by decide +kernel) rfl
    · refine aw_aload_n (k0 := 0) B 0 (by decide +kernel) rfl rfl ?_
      refine aw_cVI B (oc_X11_compared (eLa E) hG lv0 hl0 hrc M2) cvX11_186 rfl rfl (by have hF : FD = 40 := rfl; omega) rfl (Nat.le_of_ble_eq_true rfl) (by decide +kernel) rfl (fun x3 M4 => ?_)
      refine aw_istore_n (k0 := 2) B [(2, .int x3), (0, .ref 47), (1, .int v1)] (by decide +kernel) rfl (Nat.le_of_ble_eq_true rfl) rfl ?_
      refine aw_iload_n (k0 := 1) B 2 (by decide +kernel) rfl rfl ?_
      refine aw_if_eq (off := 11) B 31 (by decide +kernel) (by decide) (fun _ => ?_) (fun _ => ?_)
      · exact aw_sub [1] rfl (w_X11_both_b31 hG lv0 hl0 hrc B ih _)
      · refine aw_iload_n (k0 := 2) B 0 (by decide +kernel) rfl rfl ?_
        refine aw_if_eq (off := 7) B 31 (by decide +kernel) (by decide) (fun _ => ?_) (fun _ => ?_)
        · exact aw_sub [1] rfl (w_X11_both_b31 hG lv0 hl0 hrc B ih _)
        · refine aw_iconst (n := 1) (v := (1 : Int32)) B (by decide +kernel) (by decide) ?_
          refine aw_goto (off := 4) B 32 (by decide +kernel) (by decide) ?_
          exact aw_sub [1] rfl (w_X11_both_b32 hG lv0 hl0 hrc B ih _ _)
def f_X11_both (rc : Mem → Option (Int32 × Mem)) (M : Mem) : Option (Int32 × Mem) := bI (f_X11_compared rc M) fun x1 M2 => f_X11_both_L5 rc FU x1 M2
set_option maxRecDepth 100000 in
set_option maxHeartbeats 4000000 in
theorem w_X11_both {G : GW} {E : EE} (hG : ab_ok G) {rc : Mem → Option (Int32 × Mem)} (lv0 : Nat) (hl0 : 4 ≤ lv0) (hrc : ∀  (M : Mem), AC (eLa E) G yX11_one cX11_one 5 (some .int) lv0 [.ref 47] M embI (rc M)) (B : Bx G E RX11 cX11_both 3 (lv0 + 4) (some .int)) (M : Mem) : AWo G E cX11_both 3 (ab_Q G E embI) 0 [(0, .ref 47)] [] M (f_X11_both rc M) := by
  unfold f_X11_both
  refine aw_aload_n (k0 := 0) B 0 (by decide +kernel) rfl rfl ?_
  refine aw_cVI B (oc_X11_compared (eLa E) hG lv0 hl0 hrc M) cvX11_186 rfl rfl (by have hF : FD = 40 := rfl; omega) rfl (Nat.le_of_ble_eq_true rfl) (by decide +kernel) rfl (fun x1 M2 => ?_)
  refine aw_istore_n (k0 := 1) B [(1, .int x1), (0, .ref 47)] (by decide +kernel) rfl (Nat.le_of_ble_eq_true rfl) rfl ?_
  exact aw_sub [1, 0] rfl (w_X11_both_L5 hG lv0 hl0 hrc B FU _ _)
theorem oc_X11_both (l : Launch) {G : GW} (hG : ab_ok G) {rc : Mem → Option (Int32 × Mem)} (lv0 : Nat) (hl0 : 4 ≤ lv0) (hrc : ∀  (M : Mem), AC l G yX11_one cX11_one 5 (some .int) lv0 [.ref 47] M embI (rc M)) (M : Mem) : AC l G yX11_both cX11_both 3 (some .int) (lv0 + 4) [.ref 47] M embI (f_X11_both rc M) := AC.of hG (by decide) (Nat.le_of_ble_eq_true rfl) (fun E hE B => by subst hE; exact w_X11_both hG lv0 hl0 hrc B M)
def f_X11_either_b32 (rc : Mem → Option (Int32 × Mem)) (k5 : Int32 → Mem → Option (Int32 × Mem)) (s0 : Int32) (M : Mem) : Option (Int32 × Mem) := k5 s0 M
set_option maxRecDepth 100000 in
set_option maxHeartbeats 4000000 in
theorem w_X11_either_b32 {G : GW} {E : EE} (hG : ab_ok G) {k5 : Int32 → Mem → Option (Int32 × Mem)} {rc : Mem → Option (Int32 × Mem)} (lv0 : Nat) (hl0 : 4 ≤ lv0) (hrc : ∀  (M : Mem), AC (eLa E) G yX11_one cX11_one 5 (some .int) lv0 [.ref 47] M embI (rc M)) (B : Bx G E RX11 cX11_either 3 (lv0 + 5) (some .int)) (hk5 : ∀ (v1 : Int32) (M : Mem), AWo G E cX11_either 3 (ab_Q G E embI) 5 [(0, .ref 47), (1, .int v1)] [] M (k5 v1 M)) (s0 : Int32) (M : Mem) : AWo G E cX11_either 3 (ab_Q G E embI) 32 [(0, .ref 47)] [.int s0] M (f_X11_either_b32 rc k5 s0 M) := by
  unfold f_X11_either_b32
  refine aw_istore_n (k0 := 1) B [(1, .int s0), (0, .ref 47)] (by decide +kernel) rfl (Nat.le_of_ble_eq_true rfl) rfl ?_
  refine aw_goto (off := -28) B 5 (by decide +kernel) (by decide) ?_
  exact aw_sub [1, 0] rfl (hk5 _ _)
def f_X11_either_b27 (rc : Mem → Option (Int32 × Mem)) (k5 : Int32 → Mem → Option (Int32 × Mem)) (M : Mem) : Option (Int32 × Mem) := f_X11_either_b32 rc k5 (1 : Int32) M
set_option maxRecDepth 100000 in
set_option maxHeartbeats 4000000 in
theorem w_X11_either_b27 {G : GW} {E : EE} (hG : ab_ok G) {k5 : Int32 → Mem → Option (Int32 × Mem)} {rc : Mem → Option (Int32 × Mem)} (lv0 : Nat) (hl0 : 4 ≤ lv0) (hrc : ∀  (M : Mem), AC (eLa E) G yX11_one cX11_one 5 (some .int) lv0 [.ref 47] M embI (rc M)) (B : Bx G E RX11 cX11_either 3 (lv0 + 5) (some .int)) (hk5 : ∀ (v1 : Int32) (M : Mem), AWo G E cX11_either 3 (ab_Q G E embI) 5 [(0, .ref 47), (1, .int v1)] [] M (k5 v1 M)) (M : Mem) : AWo G E cX11_either 3 (ab_Q G E embI) 27 [(0, .ref 47)] [] M (f_X11_either_b27 rc k5 M) := by
  unfold f_X11_either_b27
  refine aw_iconst (n := 1) (v := (1 : Int32)) B (by decide +kernel) (by decide) ?_
  refine aw_goto (off := 4) B 32 (by decide +kernel) (by decide) ?_
  exact w_X11_either_b32 hG lv0 hl0 hrc B hk5 _ _
def f_X11_either_L5 (rc : Mem → Option (Int32 × Mem)) : Nat → Int32 → Mem → Option (Int32 × Mem)
  | 0, _, _ => none
  | n + 1, v1, M => bI (f_X11_takes (124 : Int32) M) fun x1 M2 => (if x1 = 0 then (some (v1, M2)) else bI (f_X11_both rc M2) fun x3 M4 => (if v1 = 0 then (if x3 = 0 then f_X11_either_b32 rc (fun a0 a1 => f_X11_either_L5 rc n a0 a1) (0 : Int32) M4 else f_X11_either_b27 rc (fun a0 a1 => f_X11_either_L5 rc n a0 a1) M4) else f_X11_either_b27 rc (fun a0 a1 => f_X11_either_L5 rc n a0 a1) M4))
set_option maxRecDepth 100000 in
set_option maxHeartbeats 4000000 in
theorem w_X11_either_L5 {G : GW} {E : EE} (hG : ab_ok G) {rc : Mem → Option (Int32 × Mem)} (lv0 : Nat) (hl0 : 4 ≤ lv0) (hrc : ∀  (M : Mem), AC (eLa E) G yX11_one cX11_one 5 (some .int) lv0 [.ref 47] M embI (rc M)) (B : Bx G E RX11 cX11_either 3 (lv0 + 5) (some .int)) : ∀ (n : Nat) (v1 : Int32) (M : Mem), AWo G E cX11_either 3 (ab_Q G E embI) 5 [(0, .ref 47), (1, .int v1)] [] M (f_X11_either_L5 rc n v1 M) := by
  intro n
  induction n with
  | zero => intro _ _; exact aw_none
  | succ n ih =>
    intro v1 M
    rw [f_X11_either_L5]
    refine aw_aload_n (k0 := 0) B 0 (by decide +kernel) rfl rfl ?_
    refine aw_bipush (n := 124) (v := (124 : Int32)) B (by decide +kernel) (by decide) ?_
    refine aw_cVI B (c_X11_takes (eLa E) hG (124 : Int32) M) cvX11_183 rfl rfl (by have hF : FD = 40 := rfl; omega) rfl (Nat.le_of_ble_eq_true rfl) (by decide +kernel) rfl (fun x1 M2 => ?_)
    refine aw_if_eq (off := 25) B 36 (by decide +kernel) (by decide) (fun _ => ?_) (fun _ => ?_)
    · refine aw_iload_n (k0 := 1) B 1 (by decide +kernel) rfl rfl ?_
      exact aw_ireturn B (by decide +kernel) rfl
    · refine aw_aload_n (k0 := 0) B 0 (by decide +kernel) rfl rfl ?_
      refine aw_cVI B (oc_X11_both (eLa E) hG lv0 hl0 hrc M2) cvX11_180 rfl rfl (by have hF : FD = 40 := rfl; omega) rfl (Nat.le_of_ble_eq_true rfl) (by decide +kernel) rfl (fun x3 M4 => ?_)
      refine aw_istore_n (k0 := 2) B [(2, .int x3), (0, .ref 47), (1, .int v1)] (by decide +kernel) rfl (Nat.le_of_ble_eq_true rfl) rfl ?_
      refine aw_iload_n (k0 := 1) B 2 (by decide +kernel) rfl rfl ?_
      refine aw_if_ne (off := 7) B 27 (by decide +kernel) (by decide) (fun _ => ?_) (fun _ => ?_)
      · exact aw_sub [1] rfl (w_X11_either_b27 hG lv0 hl0 hrc B ih _)
      · refine aw_iload_n (k0 := 2) B 0 (by decide +kernel) rfl rfl ?_
        refine aw_if_eq (off := 7) B 31 (by decide +kernel) (by decide) (fun _ => ?_) (fun _ => ?_)
        · refine aw_iconst (n := 0) (v := (0 : Int32)) B (by decide +kernel) (by decide) ?_
          exact aw_sub [1] rfl (w_X11_either_b32 hG lv0 hl0 hrc B ih _ _)
        · exact aw_sub [1] rfl (w_X11_either_b27 hG lv0 hl0 hrc B ih _)
def f_X11_either (rc : Mem → Option (Int32 × Mem)) (M : Mem) : Option (Int32 × Mem) := bI (f_X11_both rc M) fun x1 M2 => f_X11_either_L5 rc FU x1 M2
set_option maxRecDepth 100000 in
set_option maxHeartbeats 4000000 in
theorem w_X11_either {G : GW} {E : EE} (hG : ab_ok G) {rc : Mem → Option (Int32 × Mem)} (lv0 : Nat) (hl0 : 4 ≤ lv0) (hrc : ∀  (M : Mem), AC (eLa E) G yX11_one cX11_one 5 (some .int) lv0 [.ref 47] M embI (rc M)) (B : Bx G E RX11 cX11_either 3 (lv0 + 5) (some .int)) (M : Mem) : AWo G E cX11_either 3 (ab_Q G E embI) 0 [(0, .ref 47)] [] M (f_X11_either rc M) := by
  unfold f_X11_either
  refine aw_aload_n (k0 := 0) B 0 (by decide +kernel) rfl rfl ?_
  refine aw_cVI B (oc_X11_both (eLa E) hG lv0 hl0 hrc M) cvX11_180 rfl rfl (by have hF : FD = 40 := rfl; omega) rfl (Nat.le_of_ble_eq_true rfl) (by decide +kernel) rfl (fun x1 M2 => ?_)
  refine aw_istore_n (k0 := 1) B [(1, .int x1), (0, .ref 47)] (by decide +kernel) rfl (Nat.le_of_ble_eq_true rfl) rfl ?_
  exact aw_sub [1, 0] rfl (w_X11_either_L5 hG lv0 hl0 hrc B FU _ _)
theorem oc_X11_either (l : Launch) {G : GW} (hG : ab_ok G) {rc : Mem → Option (Int32 × Mem)} (lv0 : Nat) (hl0 : 4 ≤ lv0) (hrc : ∀  (M : Mem), AC l G yX11_one cX11_one 5 (some .int) lv0 [.ref 47] M embI (rc M)) (M : Mem) : AC l G yX11_either cX11_either 3 (some .int) (lv0 + 5) [.ref 47] M embI (f_X11_either rc M) := AC.of hG (by decide) (Nat.le_of_ble_eq_true rfl) (fun E hE B => by subst hE; exact w_X11_either hG lv0 hl0 hrc B M)
def f_X11_one_b229 (rc : Mem → Option (Int32 × Mem)) (v3 : Int32) (v4 : Int32) (M : Mem) : Option (Int32 × Mem) := (if v4 = 0 then bI (f_X11_faulty M) fun x1 M2 => (some (x1, M2)) else (some (v3, M)))
set_option maxRecDepth 100000 in
set_option maxHeartbeats 4000000 in
theorem w_X11_one_b229 {G : GW} {E : EE} (hG : ab_ok G) {rc : Mem → Option (Int32 × Mem)} (lv0 : Nat) (hl0 : 4 ≤ lv0) (hrc : ∀  (M : Mem), AC (eLa E) G yX11_one cX11_one 5 (some .int) lv0 [.ref 47] M embI (rc M)) (B : Bx G E RX11 cX11_one 5 (lv0 + 6) (some .int)) (v3 : Int32) (v4 : Int32) (M : Mem) : AWo G E cX11_one 5 (ab_Q G E embI) 229 [(0, .ref 47), (3, .int v3), (4, .int v4)] [] M (f_X11_one_b229 rc v3 v4 M) := by
  unfold f_X11_one_b229
  refine aw_iload (i := 4) B 2 (by decide +kernel) rfl ?_
  refine aw_if_ne (off := 10) B 241 (by decide +kernel) (by decide) (fun _ => ?_) (fun _ => ?_)
  · refine aw_iload_n (k0 := 3) B 1 (by decide +kernel) rfl rfl ?_
    exact aw_ireturn B (by decide +kernel) rfl
  · refine aw_aload_n (k0 := 0) B 0 (by decide +kernel) rfl rfl ?_
    refine aw_cVI B (c_X11_faulty (eLa E) hG M) cvX11_201 rfl rfl (by have hF : FD = 40 := rfl; omega) rfl (Nat.le_of_ble_eq_true rfl) (by decide +kernel) rfl (fun x1 M2 => ?_)
    refine aw_goto (off := 4) B 242 (by decide +kernel) (by decide) ?_
    exact aw_ireturn B (by decide +kernel) rfl
def f_X11_one_L176 (rc : Mem → Option (Int32 × Mem)) : Nat → Int32 → Int32 → Mem → Option (Int32 × Mem)
  | 0, _, _, _ => none
  | n + 1, v3, v4, M => (if (4 : Int32) ≤ v4 then f_X11_one_b229 rc v3 v4 M else (f_X11_byteAt M).bind fun x1 => (if x1 < (48 : Int32) then f_X11_one_b229 rc v3 v4 M else (f_X11_byteAt M).bind fun x3 => (if (57 : Int32) < x3 then f_X11_one_b229 rc v3 v4 M else (f_X11_byteAt M).bind fun x5 => lt ((((10 : Int32) * v3) + x5) - (48 : Int32)) fun x7 => lt (wI M 47 15 ((M.1 47 15) + (1 : Int32))) fun M8 => f_X11_one_L176 rc n x7 (v4 + 1) M8)))
set_option maxRecDepth 100000 in
set_option maxHeartbeats 4000000 in
theorem w_X11_one_L176 {G : GW} {E : EE} (hG : ab_ok G) {rc : Mem → Option (Int32 × Mem)} (lv0 : Nat) (hl0 : 4 ≤ lv0) (hrc : ∀  (M : Mem), AC (eLa E) G yX11_one cX11_one 5 (some .int) lv0 [.ref 47] M embI (rc M)) (B : Bx G E RX11 cX11_one 5 (lv0 + 6) (some .int)) : ∀ (n : Nat) (v3 : Int32) (v4 : Int32) (M : Mem), AWo G E cX11_one 5 (ab_Q G E embI) 176 [(0, .ref 47), (3, .int v3), (4, .int v4)] [] M (f_X11_one_L176 rc n v3 v4 M) := by
  intro n
  induction n with
  | zero => intro _ _ _; exact aw_none
  | succ n ih =>
    intro v3 v4 M
    rw [f_X11_one_L176]
    refine aw_iload (i := 4) B 2 (by decide +kernel) rfl ?_
    refine aw_iconst (n := 4) (v := (4 : Int32)) B (by decide +kernel) (by decide) ?_
    refine aw_icmp_ge (off := 50) B 229 (by decide +kernel) (by decide) (fun _ => ?_) (fun _ => ?_)
    · exact w_X11_one_b229 hG lv0 hl0 hrc B _ _ _
    · refine aw_aload_n (k0 := 0) B 0 (by decide +kernel) rfl rfl ?_
      refine aw_cVR B (c_X11_byteAt (eLa E) hG M) cvX11_176 rfl rfl (by have hF : FD = 40 := rfl; omega) rfl (Nat.le_of_ble_eq_true rfl) (by decide +kernel) rfl (fun x1 => ?_)
      refine aw_bipush (n := 48) (v := (48 : Int32)) B (by decide +kernel) (by decide) ?_
      refine aw_icmp_lt (off := 41) B 229 (by decide +kernel) (by decide) (fun _ => ?_) (fun _ => ?_)
      · exact w_X11_one_b229 hG lv0 hl0 hrc B _ _ _
      · refine aw_aload_n (k0 := 0) B 0 (by decide +kernel) rfl rfl ?_
        refine aw_cVR B (c_X11_byteAt (eLa E) hG M) cvX11_176 rfl rfl (by have hF : FD = 40 := rfl; omega) rfl (Nat.le_of_ble_eq_true rfl) (by decide +kernel) rfl (fun x3 => ?_)
        refine aw_bipush (n := 57) (v := (57 : Int32)) B (by decide +kernel) (by decide) ?_
        refine aw_icmp_gt (off := 32) B 229 (by decide +kernel) (by decide) (fun _ => ?_) (fun _ => ?_)
        · exact w_X11_one_b229 hG lv0 hl0 hrc B _ _ _
        · refine aw_bipush (n := 10) (v := (10 : Int32)) B (by decide +kernel) (by decide) ?_
          refine aw_iload_n (k0 := 3) B 1 (by decide +kernel) rfl rfl ?_
          refine aw_imul B (by decide +kernel) ?_
          refine aw_aload_n (k0 := 0) B 0 (by decide +kernel) rfl rfl ?_
          refine aw_cVR B (c_X11_byteAt (eLa E) hG M) cvX11_176 rfl rfl (by have hF : FD = 40 := rfl; omega) rfl (Nat.le_of_ble_eq_true rfl) (by decide +kernel) rfl (fun x5 => ?_)
          refine aw_iadd B (by decide +kernel) ?_
          refine aw_bipush (n := 48) (v := (48 : Int32)) B (by decide +kernel) (by decide) ?_
          refine aw_isub B (by decide +kernel) ?_
          refine aw_ltI (fun x7 => ?_)
          refine aw_istore_n (k0 := 3) B [(3, .int x7), (0, .ref 47), (4, .int v4)] (by decide +kernel) rfl (Nat.le_of_ble_eq_true rfl) rfl ?_
          refine aw_iinc (i := 4) (n := 1) B 2 [(4, .int (v4 + 1)), (3, .int x7), (0, .ref 47)] (by decide +kernel) rfl (Nat.le_of_ble_eq_true rfl) (v4 + 1) (ab_inc (by decide)) rfl ?_
          refine aw_aload_n (k0 := 0) B 2 (by decide +kernel) rfl rfl ?_
          refine aw_dup B (by decide +kernel) rfl ?_
          refine aw_geti (c := 47) B lkX11_164 (by decide +kernel) rfl ?_
          refine aw_iconst (n := 1) (v := (1 : Int32)) B (by decide +kernel) (by decide) ?_
          refine aw_iadd B (by decide +kernel) ?_
          refine aw_puti (c := 47) B lkX11_164 lp11_15 (by decide +kernel) rfl (fun M8 => ?_)
          refine aw_goto (off := -50) B 176 (by decide +kernel) (by decide) ?_
          exact aw_sub [2, 1, 0] rfl (ih _ _ _)
def f_X11_one_b104 (rc : Mem → Option (Int32 × Mem)) (v1 : Int32) (v2 : Int32) (M : Mem) : Option (Int32 × Mem) := lt (wI M 47 18 ((M.1 47 18) - (1 : Int32))) fun M1 => (if v1 = (40 : Int32) then (some (v2, M1)) else (if v1 = (45 : Int32) then (some (-v2, M1)) else (if v2 = 0 then (some ((1 : Int32), M1)) else (some ((0 : Int32), M1)))))
set_option maxRecDepth 100000 in
set_option maxHeartbeats 4000000 in
theorem w_X11_one_b104 {G : GW} {E : EE} (hG : ab_ok G) {rc : Mem → Option (Int32 × Mem)} (lv0 : Nat) (hl0 : 4 ≤ lv0) (hrc : ∀  (M : Mem), AC (eLa E) G yX11_one cX11_one 5 (some .int) lv0 [.ref 47] M embI (rc M)) (B : Bx G E RX11 cX11_one 5 (lv0 + 6) (some .int)) (v1 : Int32) (v2 : Int32) (M : Mem) : AWo G E cX11_one 5 (ab_Q G E embI) 104 [(0, .ref 47), (1, .int v1), (2, .int v2)] [] M (f_X11_one_b104 rc v1 v2 M) := by
  unfold f_X11_one_b104
  refine aw_aload_n (k0 := 0) B 0 (by decide +kernel) rfl rfl ?_
  refine aw_dup B (by decide +kernel) rfl ?_
  refine aw_geti (c := 47) B lkX11_198 (by decide +kernel) rfl ?_
  refine aw_iconst (n := 1) (v := (1 : Int32)) B (by decide +kernel) (by decide) ?_
  refine aw_isub B (by decide +kernel) ?_
  refine aw_puti (c := 47) B lkX11_198 lp11_18 (by decide +kernel) rfl (fun M1 => ?_)
  refine aw_iload_n (k0 := 1) B 1 (by decide +kernel) rfl rfl ?_
  refine aw_bipush (n := 40) (v := (40 : Int32)) B (by decide +kernel) (by decide) ?_
  refine aw_icmp_ne (off := 7) B 124 (by decide +kernel) (by decide) (fun _ => ?_) (fun _ => ?_)
  · refine aw_iload_n (k0 := 1) B 1 (by decide +kernel) rfl rfl ?_
    refine aw_bipush (n := 45) (v := (45 : Int32)) B (by decide +kernel) (by decide) ?_
    refine aw_icmp_ne (off := 8) B 135 (by decide +kernel) (by decide) (fun _ => ?_) (fun _ => ?_)
    · refine aw_iload_n (k0 := 2) B 2 (by decide +kernel) rfl rfl ?_
      refine aw_if_ne (off := 7) B 143 (by decide +kernel) (by decide) (fun _ => ?_) (fun _ => ?_)
      · refine aw_iconst (n := 0) (v := (0 : Int32)) B (by decide +kernel) (by decide) ?_
        exact aw_ireturn B (by decide +kernel) rfl
      · refine aw_iconst (n := 1) (v := (1 : Int32)) B (by decide +kernel) (by decide) ?_
        refine aw_goto (off := 4) B 144 (by decide +kernel) (by decide) ?_
        exact aw_ireturn B (by decide +kernel) rfl
    · refine aw_iload_n (k0 := 2) B 2 (by decide +kernel) rfl rfl ?_
      refine aw_ineg B (by decide +kernel) ?_
      refine aw_goto (off := 12) B 144 (by decide +kernel) (by decide) ?_
      exact aw_ireturn B (by decide +kernel) rfl
  · refine aw_iload_n (k0 := 2) B 2 (by decide +kernel) rfl rfl ?_
    refine aw_goto (off := 23) B 144 (by decide +kernel) (by decide) ?_
    exact aw_ireturn B (by decide +kernel) rfl
def f_X11_one_b83 (rc : Mem → Option (Int32 × Mem)) (v1 : Int32) (s0 : Int32) (M : Mem) : Option (Int32 × Mem) := (if v1 = (40 : Int32) then bI (f_X11_takes (41 : Int32) M) fun x1 M2 => (if x1 = 0 then bI (f_X11_faulty M2) fun x3 M4 => (some (x3, M4)) else f_X11_one_b104 rc v1 s0 M2) else f_X11_one_b104 rc v1 s0 M)
set_option maxRecDepth 100000 in
set_option maxHeartbeats 4000000 in
theorem w_X11_one_b83 {G : GW} {E : EE} (hG : ab_ok G) {rc : Mem → Option (Int32 × Mem)} (lv0 : Nat) (hl0 : 4 ≤ lv0) (hrc : ∀  (M : Mem), AC (eLa E) G yX11_one cX11_one 5 (some .int) lv0 [.ref 47] M embI (rc M)) (B : Bx G E RX11 cX11_one 5 (lv0 + 6) (some .int)) (v1 : Int32) (s0 : Int32) (M : Mem) : AWo G E cX11_one 5 (ab_Q G E embI) 83 [(0, .ref 47), (1, .int v1)] [.int s0] M (f_X11_one_b83 rc v1 s0 M) := by
  unfold f_X11_one_b83
  refine aw_istore_n (k0 := 2) B [(2, .int s0), (0, .ref 47), (1, .int v1)] (by decide +kernel) rfl (Nat.le_of_ble_eq_true rfl) rfl ?_
  refine aw_iload_n (k0 := 1) B 2 (by decide +kernel) rfl rfl ?_
  refine aw_bipush (n := 40) (v := (40 : Int32)) B (by decide +kernel) (by decide) ?_
  refine aw_icmp_ne (off := 17) B 104 (by decide +kernel) (by decide) (fun _ => ?_) (fun _ => ?_)
  · exact aw_sub [1, 2, 0] rfl (w_X11_one_b104 hG lv0 hl0 hrc B _ _ _)
  · refine aw_aload_n (k0 := 0) B 1 (by decide +kernel) rfl rfl ?_
    refine aw_bipush (n := 41) (v := (41 : Int32)) B (by decide +kernel) (by decide) ?_
    refine aw_cVI B (c_X11_takes (eLa E) hG (41 : Int32) M) cvX11_183 rfl rfl (by have hF : FD = 40 := rfl; omega) rfl (Nat.le_of_ble_eq_true rfl) (by decide +kernel) rfl (fun x1 M2 => ?_)
    refine aw_if_ne (off := 8) B 104 (by decide +kernel) (by decide) (fun _ => ?_) (fun _ => ?_)
    · exact aw_sub [1, 2, 0] rfl (w_X11_one_b104 hG lv0 hl0 hrc B _ _ _)
    · refine aw_aload_n (k0 := 0) B 1 (by decide +kernel) rfl rfl ?_
      refine aw_cVI B (c_X11_faulty (eLa E) hG M2) cvX11_201 rfl rfl (by have hF : FD = 40 := rfl; omega) rfl (Nat.le_of_ble_eq_true rfl) (by decide +kernel) rfl (fun x3 M4 => ?_)
      exact aw_ireturn B (by decide +kernel) rfl
def f_X11_one_b32 (rc : Mem → Option (Int32 × Mem)) (v1 : Int32) (M : Mem) : Option (Int32 × Mem) := (if (M.1 47 18) = (6 : Int32) then bI (f_X11_faulty M) fun x7 M8 => (some (x7, M8)) else lt (wI M 47 18 ((M.1 47 18) + (1 : Int32))) fun M1 => lt (wI M1 47 15 ((M1.1 47 15) + (1 : Int32))) fun M2 => (if v1 = (40 : Int32) then bI (f_X11_either rc M2) fun x5 M6 => f_X11_one_b83 rc v1 x5 M6 else bI (rc M2) fun x3 M4 => f_X11_one_b83 rc v1 x3 M4))
set_option maxRecDepth 100000 in
set_option maxHeartbeats 4000000 in
theorem w_X11_one_b32 {G : GW} {E : EE} (hG : ab_ok G) {rc : Mem → Option (Int32 × Mem)} (lv0 : Nat) (hl0 : 4 ≤ lv0) (hrc : ∀  (M : Mem), AC (eLa E) G yX11_one cX11_one 5 (some .int) lv0 [.ref 47] M embI (rc M)) (B : Bx G E RX11 cX11_one 5 (lv0 + 6) (some .int)) (v1 : Int32) (M : Mem) : AWo G E cX11_one 5 (ab_Q G E embI) 32 [(0, .ref 47), (1, .int v1)] [] M (f_X11_one_b32 rc v1 M) := by
  unfold f_X11_one_b32
  refine aw_aload_n (k0 := 0) B 0 (by decide +kernel) rfl rfl ?_
  refine aw_geti (c := 47) B lkX11_198 (by decide +kernel) rfl ?_
  refine aw_bipush (n := 6) (v := (6 : Int32)) B (by decide +kernel) (by decide) ?_
  refine aw_icmp_ne (off := 8) B 46 (by decide +kernel) (by decide) (fun _ => ?_) (fun _ => ?_)
  · refine aw_aload_n (k0 := 0) B 0 (by decide +kernel) rfl rfl ?_
    refine aw_dup B (by decide +kernel) rfl ?_
    refine aw_geti (c := 47) B lkX11_198 (by decide +kernel) rfl ?_
    refine aw_iconst (n := 1) (v := (1 : Int32)) B (by decide +kernel) (by decide) ?_
    refine aw_iadd B (by decide +kernel) ?_
    refine aw_puti (c := 47) B lkX11_198 lp11_18 (by decide +kernel) rfl (fun M1 => ?_)
    refine aw_aload_n (k0 := 0) B 0 (by decide +kernel) rfl rfl ?_
    refine aw_dup B (by decide +kernel) rfl ?_
    refine aw_geti (c := 47) B lkX11_164 (by decide +kernel) rfl ?_
    refine aw_iconst (n := 1) (v := (1 : Int32)) B (by decide +kernel) (by decide) ?_
    refine aw_iadd B (by decide +kernel) ?_
    refine aw_puti (c := 47) B lkX11_164 lp11_15 (by decide +kernel) rfl (fun M2 => ?_)
    refine aw_iload_n (k0 := 1) B 1 (by decide +kernel) rfl rfl ?_
    refine aw_bipush (n := 40) (v := (40 : Int32)) B (by decide +kernel) (by decide) ?_
    refine aw_icmp_ne (off := 10) B 79 (by decide +kernel) (by decide) (fun _ => ?_) (fun _ => ?_)
    · refine aw_aload_n (k0 := 0) B 0 (by decide +kernel) rfl rfl ?_
      refine aw_cVI B (hrc M2) cvX11_195 rfl rfl (by have hF : FD = 40 := rfl; omega) rfl (Nat.le_of_ble_eq_true rfl) (by decide +kernel) rfl (fun x3 M4 => ?_)
      exact w_X11_one_b83 hG lv0 hl0 hrc B _ _ _
    · refine aw_aload_n (k0 := 0) B 0 (by decide +kernel) rfl rfl ?_
      refine aw_cVI B (oc_X11_either (eLa E) hG lv0 hl0 hrc M2) cvX11_204 rfl rfl (by have hF : FD = 40 := rfl; omega) rfl (Nat.le_of_ble_eq_true rfl) (by decide +kernel) rfl (fun x5 M6 => ?_)
      refine aw_goto (off := 7) B 83 (by decide +kernel) (by decide) ?_
      exact w_X11_one_b83 hG lv0 hl0 hrc B _ _ _
  · refine aw_aload_n (k0 := 0) B 0 (by decide +kernel) rfl rfl ?_
    refine aw_cVI B (c_X11_faulty (eLa E) hG M) cvX11_201 rfl rfl (by have hF : FD = 40 := rfl; omega) rfl (Nat.le_of_ble_eq_true rfl) (by decide +kernel) rfl (fun x7 M8 => ?_)
    exact aw_ireturn B (by decide +kernel) rfl
def f_X11_one_o (rc : Mem → Option (Int32 × Mem)) (M : Mem) : Option (Int32 × Mem) := (if (M.1 47 17) < 0 then (f_X11_byteAt M).bind fun x1 => (if x1 = (33 : Int32) then f_X11_one_b32 rc x1 M else (if x1 = (45 : Int32) then f_X11_one_b32 rc x1 M else (if x1 = (40 : Int32) then f_X11_one_b32 rc x1 M else (f_X11_nameOf x1).bind fun x3 => (if x3 < 0 then f_X11_one_L176 rc FU (0 : Int32) (0 : Int32) M else lt (wI M 47 15 ((M.1 47 15) + (1 : Int32))) fun M5 => ck (okI 56 x3) ((some (M5.1 56 x3.toNatClampNeg, M5))))))) else (some ((0 : Int32), M)))
set_option maxRecDepth 100000 in
set_option maxHeartbeats 4000000 in
theorem w_X11_one_o {G : GW} {E : EE} (hG : ab_ok G) {rc : Mem → Option (Int32 × Mem)} (lv0 : Nat) (hl0 : 4 ≤ lv0) (hrc : ∀  (M : Mem), AC (eLa E) G yX11_one cX11_one 5 (some .int) lv0 [.ref 47] M embI (rc M)) (B : Bx G E RX11 cX11_one 5 (lv0 + 6) (some .int)) (M : Mem) : AWo G E cX11_one 5 (ab_Q G E embI) 0 [(0, .ref 47)] [] M (f_X11_one_o rc M) := by
  unfold f_X11_one_o
  refine aw_aload_n (k0 := 0) B 0 (by decide +kernel) rfl rfl ?_
  refine aw_geti (c := 47) B lkX11_173 (by decide +kernel) rfl ?_
  refine aw_if_lt (off := 5) B 9 (by decide +kernel) (by decide) (fun _ => ?_) (fun _ => ?_)
  · refine aw_aload_n (k0 := 0) B 0 (by decide +kernel) rfl rfl ?_
    refine aw_cVR B (c_X11_byteAt (eLa E) hG M) cvX11_176 rfl rfl (by have hF : FD = 40 := rfl; omega) rfl (Nat.le_of_ble_eq_true rfl) (by decide +kernel) rfl (fun x1 => ?_)
    refine aw_istore_n (k0 := 1) B [(1, .int x1), (0, .ref 47)] (by decide +kernel) rfl (Nat.le_of_ble_eq_true rfl) rfl ?_
    refine aw_iload_n (k0 := 1) B 0 (by decide +kernel) rfl rfl ?_
    refine aw_bipush (n := 33) (v := (33 : Int32)) B (by decide +kernel) (by decide) ?_
    refine aw_icmp_eq (off := 15) B 32 (by decide +kernel) (by decide) (fun _ => ?_) (fun _ => ?_)
    · exact aw_sub [1, 0] rfl (w_X11_one_b32 hG lv0 hl0 hrc B _ _)
    · refine aw_iload_n (k0 := 1) B 0 (by decide +kernel) rfl rfl ?_
      refine aw_bipush (n := 45) (v := (45 : Int32)) B (by decide +kernel) (by decide) ?_
      refine aw_icmp_eq (off := 9) B 32 (by decide +kernel) (by decide) (fun _ => ?_) (fun _ => ?_)
      · exact aw_sub [1, 0] rfl (w_X11_one_b32 hG lv0 hl0 hrc B _ _)
      · refine aw_iload_n (k0 := 1) B 0 (by decide +kernel) rfl rfl ?_
        refine aw_bipush (n := 40) (v := (40 : Int32)) B (by decide +kernel) (by decide) ?_
        refine aw_icmp_ne (off := 116) B 145 (by decide +kernel) (by decide) (fun _ => ?_) (fun _ => ?_)
        · refine aw_iload_n (k0 := 1) B 0 (by decide +kernel) rfl rfl ?_
          refine aw_cSR B (c_X11_nameOf (eLa E) hG x1 M) csX11_207 (by have hF : FD = 40 := rfl; omega) rfl (Nat.le_of_ble_eq_true rfl) (by decide +kernel) rfl (fun x3 => ?_)
          refine aw_istore_n (k0 := 2) B [(2, .int x3), (1, .int x1), (0, .ref 47)] (by decide +kernel) rfl (Nat.le_of_ble_eq_true rfl) rfl ?_
          refine aw_iload_n (k0 := 2) B 0 (by decide +kernel) rfl rfl ?_
          refine aw_if_lt (off := 20) B 171 (by decide +kernel) (by decide) (fun _ => ?_) (fun _ => ?_)
          · refine aw_iconst (n := 0) (v := (0 : Int32)) B (by decide +kernel) (by decide) ?_
            refine aw_istore_n (k0 := 3) B [(3, .int (0 : Int32)), (2, .int x3), (1, .int x1), (0, .ref 47)] (by decide +kernel) rfl (Nat.le_of_ble_eq_true rfl) rfl ?_
            refine aw_iconst (n := 0) (v := (0 : Int32)) B (by decide +kernel) (by decide) ?_
            refine aw_istore (i := 4) B [(4, .int (0 : Int32)), (3, .int (0 : Int32)), (2, .int x3), (1, .int x1), (0, .ref 47)] (by decide +kernel) (Nat.le_of_ble_eq_true rfl) rfl ?_
            exact aw_sub [4, 1, 0] rfl (w_X11_one_L176 hG lv0 hl0 hrc B FU _ _ _)
          · refine aw_aload_n (k0 := 0) B 2 (by decide +kernel) rfl rfl ?_
            refine aw_dup B (by decide +kernel) rfl ?_
            refine aw_geti (c := 47) B lkX11_164 (by decide +kernel) rfl ?_
            refine aw_iconst (n := 1) (v := (1 : Int32)) B (by decide +kernel) (by decide) ?_
            refine aw_iadd B (by decide +kernel) ?_
            refine aw_puti (c := 47) B lkX11_164 lp11_15 (by decide +kernel) rfl (fun M5 => ?_)
            refine aw_aload_n (k0 := 0) B 2 (by decide +kernel) rfl rfl ?_
            refine aw_getr (c := 47) B lkX11_34 (by decide +kernel) rfl (r := 56) rfl ?_
            refine aw_iload_n (k0 := 2) B 0 (by decide +kernel) rfl rfl ?_
            refine aw_iaload B (by decide +kernel) ?_
            exact aw_ireturn B (by decide +kernel) rfl
        · exact aw_sub [1, 0] rfl (w_X11_one_b32 hG lv0 hl0 hrc B _ _)
  · refine aw_iconst (n := 0) (v := (0 : Int32)) B (by decide +kernel) (by decide) ?_
    exact aw_ireturn B (by decide +kernel) rfl
def f_X11_one : Nat → Mem → Option (Int32 × Mem)
  | 0, _ => none
  | d + 1, M => f_X11_one_o (fun M => f_X11_one d M) M
theorem c_X11_one (l : Launch) {G : GW} (hG : ab_ok G) : ∀ (d : Nat) (M : Mem), AC l G yX11_one cX11_one 5 (some .int) (4 + 6 * d) [.ref 47] M embI (f_X11_one d M)
  | 0, _ => fun a ha => by cases ha
  | d + 1, M => AC.of hG (by decide) (Nat.le_of_ble_eq_true rfl) (fun E hE B => by
    subst hE
    have e : 4 + 6 * (d + 1) = 4 + 6 * d + 6 := by omega
    rw [e] at B
    exact w_X11_one_o hG (4 + 6 * d) (Nat.le_add_right _ _) (fun  M => c_X11_one (eLa E) hG d M) B M)
theorem c_X11_product (l : Launch) {G : GW} (hG : ab_ok G) (M : Mem) : AC l G yX11_product cX11_product 4 (some .int) (4 + 6 * FD + 1) [.ref 47] M embI (f_X11_product (f_X11_one FD) M) := AC.of hG (by decide) (Nat.le_of_ble_eq_true rfl) (fun E hE B => by subst hE; exact w_X11_product hG (4 + 6 * FD) (Nat.le_add_right _ _) (fun  M => c_X11_one (eLa E) hG FD M) B M)
theorem c_X11_sums (l : Launch) {G : GW} (hG : ab_ok G) (M : Mem) : AC l G yX11_sums cX11_sums 4 (some .int) (4 + 6 * FD + 2) [.ref 47] M embI (f_X11_sums (f_X11_one FD) M) := AC.of hG (by decide) (Nat.le_of_ble_eq_true rfl) (fun E hE B => by subst hE; exact w_X11_sums hG (4 + 6 * FD) (Nat.le_add_right _ _) (fun  M => c_X11_one (eLa E) hG FD M) B M)
theorem c_X11_compared (l : Launch) {G : GW} (hG : ab_ok G) (M : Mem) : AC l G yX11_compared cX11_compared 4 (some .int) (4 + 6 * FD + 3) [.ref 47] M embI (f_X11_compared (f_X11_one FD) M) := AC.of hG (by decide) (Nat.le_of_ble_eq_true rfl) (fun E hE B => by subst hE; exact w_X11_compared hG (4 + 6 * FD) (Nat.le_add_right _ _) (fun  M => c_X11_one (eLa E) hG FD M) B M)
theorem c_X11_both (l : Launch) {G : GW} (hG : ab_ok G) (M : Mem) : AC l G yX11_both cX11_both 3 (some .int) (4 + 6 * FD + 4) [.ref 47] M embI (f_X11_both (f_X11_one FD) M) := AC.of hG (by decide) (Nat.le_of_ble_eq_true rfl) (fun E hE B => by subst hE; exact w_X11_both hG (4 + 6 * FD) (Nat.le_add_right _ _) (fun  M => c_X11_one (eLa E) hG FD M) B M)
theorem c_X11_either (l : Launch) {G : GW} (hG : ab_ok G) (M : Mem) : AC l G yX11_either cX11_either 3 (some .int) (4 + 6 * FD + 5) [.ref 47] M embI (f_X11_either (f_X11_one FD) M) := AC.of hG (by decide) (Nat.le_of_ble_eq_true rfl) (fun E hE B => by subst hE; exact w_X11_either hG (4 + 6 * FD) (Nat.le_add_right _ _) (fun  M => c_X11_one (eLa E) hG FD M) B M)
