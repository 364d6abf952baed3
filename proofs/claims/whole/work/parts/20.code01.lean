def f_X2_add_b13 (v1 : Int32) (v2 : Int32) (v3 : Int32) (v4 : Int32) (M : Mem) : Option Mem := ck (okI 7 (M.1 6 0)) (lt (wI M 7 (M.1 6 0).toNatClampNeg v1) fun M1 => ck (okI 8 (M1.1 6 0)) (lt (wI M1 8 (M1.1 6 0).toNatClampNeg v2) fun M2 => ck (okI 9 (M2.1 6 0)) (lt (wI M2 9 (M2.1 6 0).toNatClampNeg v3) fun M3 => ck (okI 10 (M3.1 6 0)) (lt (wI M3 10 (M3.1 6 0).toNatClampNeg v4) fun M4 => lt (wI M4 6 0 ((M4.1 6 0) + (1 : Int32))) fun M5 => lt (wI M5 6 1 (M5.1 6 0)) fun M6 => (some M6)))))
set_option maxRecDepth 100000 in
set_option maxHeartbeats 4000000 in
theorem w_X2_add_b13 {G : GW} {E : EE} (hG : ab_ok G) (B : Bx G E RX2 cX2_add 5 3 none) (v1 : Int32) (v2 : Int32) (v3 : Int32) (v4 : Int32) (M : Mem) : AWo G E cX2_add 5 (ab_Q G E embV) 13 [(0, .ref 6), (1, .int v1), (2, .int v2), (3, .int v3), (4, .int v4)] [] M (f_X2_add_b13 v1 v2 v3 v4 M) := by
  unfold f_X2_add_b13
  refine aw_aload_n (k0 := 0) B 0 (by decide +kernel) rfl rfl ?_
  refine aw_getr (c := 6) B lkX2_11 (by decide +kernel) rfl (r := 7) rfl ?_
  refine aw_aload_n (k0 := 0) B 0 (by decide +kernel) rfl rfl ?_
  refine aw_geti (c := 6) B lkX2_24 (by decide +kernel) rfl ?_
  refine aw_iload_n (k0 := 1) B 1 (by decide +kernel) rfl rfl ?_
  refine aw_iastore B (by decide +kernel) (fun M1 => ?_)
  refine aw_aload_n (k0 := 0) B 0 (by decide +kernel) rfl rfl ?_
  refine aw_getr (c := 6) B lkX2_15 (by decide +kernel) rfl (r := 8) rfl ?_
  refine aw_aload_n (k0 := 0) B 0 (by decide +kernel) rfl rfl ?_
  refine aw_geti (c := 6) B lkX2_24 (by decide +kernel) rfl ?_
  refine aw_iload_n (k0 := 2) B 2 (by decide +kernel) rfl rfl ?_
  refine aw_iastore B (by decide +kernel) (fun M2 => ?_)
  refine aw_aload_n (k0 := 0) B 0 (by decide +kernel) rfl rfl ?_
  refine aw_getr (c := 6) B lkX2_18 (by decide +kernel) rfl (r := 9) rfl ?_
  refine aw_aload_n (k0 := 0) B 0 (by decide +kernel) rfl rfl ?_
  refine aw_geti (c := 6) B lkX2_24 (by decide +kernel) rfl ?_
  refine aw_iload_n (k0 := 3) B 3 (by decide +kernel) rfl rfl ?_
  refine aw_iastore B (by decide +kernel) (fun M3 => ?_)
  refine aw_aload_n (k0 := 0) B 0 (by decide +kernel) rfl rfl ?_
  refine aw_getr (c := 6) B lkX2_21 (by decide +kernel) rfl (r := 10) rfl ?_
  refine aw_aload_n (k0 := 0) B 0 (by decide +kernel) rfl rfl ?_
  refine aw_geti (c := 6) B lkX2_24 (by decide +kernel) rfl ?_
  refine aw_iload (i := 4) B 4 (by decide +kernel) rfl ?_
  refine aw_iastore B (by decide +kernel) (fun M4 => ?_)
  refine aw_aload_n (k0 := 0) B 0 (by decide +kernel) rfl rfl ?_
  refine aw_dup B (by decide +kernel) rfl ?_
  refine aw_geti (c := 6) B lkX2_24 (by decide +kernel) rfl ?_
  refine aw_iconst (n := 1) (v := (1 : Int32)) B (by decide +kernel) (by decide) ?_
  refine aw_iadd B (by decide +kernel) ?_
  refine aw_puti (c := 6) B lkX2_24 lp2_0 (by decide +kernel) rfl (fun M5 => ?_)
  refine aw_aload_n (k0 := 0) B 0 (by decide +kernel) rfl rfl ?_
  refine aw_aload_n (k0 := 0) B 0 (by decide +kernel) rfl rfl ?_
  refine aw_geti (c := 6) B lkX2_24 (by decide +kernel) rfl ?_
  refine aw_puti (c := 6) B lkX2_31 lp2_1 (by decide +kernel) rfl (fun M6 => ?_)
  exact aw_vreturn B (by decide +kernel) rfl
def f_X2_add (v1 : Int32) (v2 : Int32) (v3 : Int32) (v4 : Int32) (M : Mem) : Option Mem := (if (M.1 6 0) < (40 : Int32) then f_X2_add_b13 v1 v2 v3 v4 M else (f_X2_forgetOldest M).bind fun M2 => f_X2_add_b13 v1 v2 v3 v4 M2)
set_option maxRecDepth 100000 in
set_option maxHeartbeats 4000000 in
theorem w_X2_add {G : GW} {E : EE} (hG : ab_ok G) (B : Bx G E RX2 cX2_add 5 3 none) (v1 : Int32) (v2 : Int32) (v3 : Int32) (v4 : Int32) (M : Mem) : AWo G E cX2_add 5 (ab_Q G E embV) 0 [(0, .ref 6), (1, .int v1), (2, .int v2), (3, .int v3), (4, .int v4)] [] M (f_X2_add v1 v2 v3 v4 M) := by
  unfold f_X2_add
  refine aw_aload_n (k0 := 0) B 0 (by decide +kernel) rfl rfl ?_
  refine aw_geti (c := 6) B lkX2_24 (by decide +kernel) rfl ?_
  refine aw_bipush (n := 40) (v := (40 : Int32)) B (by decide +kernel) (by decide) ?_
  refine aw_icmp_lt (off := 7) B 13 (by decide +kernel) (by decide) (fun _ => ?_) (fun _ => ?_)
  · exact w_X2_add_b13 hG B _ _ _ _ _
  · refine aw_aload_n (k0 := 0) B 0 (by decide +kernel) rfl rfl ?_
    refine aw_cVV B (c_X2_forgetOldest (eLa E) hG M) cvX2_28 rfl rfl (Nat.le_of_ble_eq_true rfl) rfl (Nat.le_of_ble_eq_true rfl) (by decide +kernel) rfl (fun M2 => ?_)
    exact w_X2_add_b13 hG B _ _ _ _ _
theorem c_X2_add (l : Launch) {G : GW} (hG : ab_ok G) (v1 : Int32) (v2 : Int32) (v3 : Int32) (v4 : Int32) (M : Mem) : AC l G yX2_add cX2_add 5 none 3 [.ref 6, .int v1, .int v2, .int v3, .int v4] M embV (f_X2_add v1 v2 v3 v4 M) := AC.of hG (by decide) (Nat.le_of_ble_eq_true rfl) (fun E hE B => by subst hE; exact w_X2_add hG B v1 v2 v3 v4 M)
def f_X4_become (v1 : Int32) (v2 : Int32) (v3 : Int32) (M : Mem) : Option Mem := (if v1 = 0 then ck (okI 2 v2) (lt (wI M 2 v2.toNatClampNeg v3) fun M2 => (some M2)) else ck (okI 5 v2) (lt (wI M 5 v2.toNatClampNeg v3) fun M1 => (some M1)))
set_option maxRecDepth 100000 in
set_option maxHeartbeats 4000000 in
theorem w_X4_become {G : GW} {E : EE} (hG : ab_ok G) (B : Bx G E RX4 cX4_become 4 2 none) (v1 : Int32) (v2 : Int32) (v3 : Int32) (M : Mem) : AWo G E cX4_become 4 (ab_Q G E embV) 0 [(0, .ref 1), (1, .int v1), (2, .int v2), (3, .int v3)] [] M (f_X4_become v1 v2 v3 M) := by
  unfold f_X4_become
  refine aw_iload_n (k0 := 1) B 1 (by decide +kernel) rfl rfl ?_
  refine aw_if_ne (off := 13) B 14 (by decide +kernel) (by decide) (fun _ => ?_) (fun _ => ?_)
  · refine aw_aload_n (k0 := 0) B 0 (by decide +kernel) rfl rfl ?_
    refine aw_getr (c := 1) B lkX4_21 (by decide +kernel) rfl (r := 5) rfl ?_
    refine aw_iload_n (k0 := 2) B 2 (by decide +kernel) rfl rfl ?_
    refine aw_iload_n (k0 := 3) B 3 (by decide +kernel) rfl rfl ?_
    refine aw_iastore B (by decide +kernel) (fun M1 => ?_)
    exact aw_vreturn B (by decide +kernel) rfl
  · refine aw_aload_n (k0 := 0) B 0 (by decide +kernel) rfl rfl ?_
    refine aw_getr (c := 1) B lkX4_11 (by decide +kernel) rfl (r := 2) rfl ?_
    refine aw_iload_n (k0 := 2) B 2 (by decide +kernel) rfl rfl ?_
    refine aw_iload_n (k0 := 3) B 3 (by decide +kernel) rfl rfl ?_
    refine aw_iastore B (by decide +kernel) (fun M2 => ?_)
    refine aw_goto (off := 10) B 21 (by decide +kernel) (by decide) ?_
    exact aw_vreturn B (by decide +kernel) rfl
theorem c_X4_become (l : Launch) {G : GW} (hG : ab_ok G) (v1 : Int32) (v2 : Int32) (v3 : Int32) (M : Mem) : AC l G yX4_become cX4_become 4 none 2 [.ref 1, .int v1, .int v2, .int v3] M embV (f_X4_become v1 v2 v3 M) := AC.of hG (by decide) (Nat.le_of_ble_eq_true rfl) (fun E hE B => by subst hE; exact w_X4_become hG B v1 v2 v3 M)
def f_X10_mend (v1 : Int32) (v2 : Int32) (v3 : Int32) (M : Mem) : Option (Int32 × Mem) := (f_X4_canBecome v2 v1 v3 M).bind fun x1 => (if x1 = 0 then (some ((-1 : Int32), M)) else (f_X4_valueOf v2 v1 M).bind fun x3 => (if x3 = v3 then (some (x3, M)) else (f_X2_add v2 v1 x3 v3 M).bind fun M6 => (f_X4_become v2 v1 v3 M6).bind fun M8 => (some (x3, M8))))
set_option maxRecDepth 100000 in
set_option maxHeartbeats 4000000 in
theorem w_X10_mend {G : GW} {E : EE} (hG : ab_ok G) (B : Bx G E RX10 cX10_mend 5 4 (some .int)) (v1 : Int32) (v2 : Int32) (v3 : Int32) (M : Mem) : AWo G E cX10_mend 5 (ab_Q G E embI) 0 [(0, .ref 0), (1, .int v1), (2, .int v2), (3, .int v3)] [] M (f_X10_mend v1 v2 v3 M) := by
  unfold f_X10_mend
  refine aw_aload_n (k0 := 0) B 0 (by decide +kernel) rfl rfl ?_
  refine aw_getr (c := 0) B lkX10_10 (by decide +kernel) rfl (r := 1) rfl ?_
  refine aw_iload_n (k0 := 2) B 2 (by decide +kernel) rfl rfl ?_
  refine aw_iload_n (k0 := 1) B 1 (by decide +kernel) rfl rfl ?_
  refine aw_iload_n (k0 := 3) B 3 (by decide +kernel) rfl rfl ?_
  refine aw_cVR B (c_X4_canBecome (eLa E) hG v2 v1 v3 M) cvX10_120 rfl rfl (Nat.le_of_ble_eq_true rfl) rfl (Nat.le_of_ble_eq_true rfl) (by decide +kernel) rfl (fun x1 => ?_)
  refine aw_if_ne (off := 5) B 15 (by decide +kernel) (by decide) (fun _ => ?_) (fun _ => ?_)
  · refine aw_aload_n (k0 := 0) B 0 (by decide +kernel) rfl rfl ?_
    refine aw_getr (c := 0) B lkX10_10 (by decide +kernel) rfl (r := 1) rfl ?_
    refine aw_iload_n (k0 := 2) B 2 (by decide +kernel) rfl rfl ?_
    refine aw_iload_n (k0 := 1) B 1 (by decide +kernel) rfl rfl ?_
    refine aw_cVR B (c_X4_valueOf (eLa E) hG v2 v1 M) cvX10_124 rfl rfl (Nat.le_of_ble_eq_true rfl) rfl (Nat.le_of_ble_eq_true rfl) (by decide +kernel) rfl (fun x3 => ?_)
    refine aw_istore (i := 4) B [(4, .int x3), (0, .ref 0), (1, .int v1), (2, .int v2), (3, .int v3)] (by decide +kernel) (Nat.le_of_ble_eq_true rfl) rfl ?_
    refine aw_iload (i := 4) B 0 (by decide +kernel) rfl ?_
    refine aw_iload_n (k0 := 3) B 4 (by decide +kernel) rfl rfl ?_
    refine aw_icmp_eq (off := 25) B 54 (by decide +kernel) (by decide) (fun _ => ?_) (fun _ => ?_)
    · refine aw_iload (i := 4) B 0 (by decide +kernel) rfl ?_
      exact aw_ireturn B (by decide +kernel) rfl
    · refine aw_aload_n (k0 := 0) B 1 (by decide +kernel) rfl rfl ?_
      refine aw_getr (c := 0) B lkX10_19 (by decide +kernel) rfl (r := 6) rfl ?_
      refine aw_iload_n (k0 := 2) B 3 (by decide +kernel) rfl rfl ?_
      refine aw_iload_n (k0 := 1) B 2 (by decide +kernel) rfl rfl ?_
      refine aw_iload (i := 4) B 0 (by decide +kernel) rfl ?_
      refine aw_iload_n (k0 := 3) B 4 (by decide +kernel) rfl rfl ?_
      refine aw_cVV B (c_X2_add (eLa E) hG v2 v1 x3 v3 M) cvX10_127 rfl rfl (Nat.le_of_ble_eq_true rfl) rfl (Nat.le_of_ble_eq_true rfl) (by decide +kernel) rfl (fun M6 => ?_)
      refine aw_aload_n (k0 := 0) B 1 (by decide +kernel) rfl rfl ?_
      refine aw_getr (c := 0) B lkX10_10 (by decide +kernel) rfl (r := 1) rfl ?_
      refine aw_iload_n (k0 := 2) B 3 (by decide +kernel) rfl rfl ?_
      refine aw_iload_n (k0 := 1) B 2 (by decide +kernel) rfl rfl ?_
      refine aw_iload_n (k0 := 3) B 4 (by decide +kernel) rfl rfl ?_
      refine aw_cVV B (c_X4_become (eLa E) hG v2 v1 v3 M6) cvX10_131 rfl rfl (Nat.le_of_ble_eq_true rfl) rfl (Nat.le_of_ble_eq_true rfl) (by decide +kernel) rfl (fun M8 => ?_)
      refine aw_iload (i := 4) B 0 (by decide +kernel) rfl ?_
      exact aw_ireturn B (by decide +kernel) rfl
  · refine aw_iconst (n := -1) (v := (-1 : Int32)) B (by decide +kernel) (by decide) ?_
    exact aw_ireturn B (by decide +kernel) rfl
theorem c_X10_mend (l : Launch) {G : GW} (hG : ab_ok G) (v1 : Int32) (v2 : Int32) (v3 : Int32) (M : Mem) : AC l G yX10_mend cX10_mend 5 (some .int) 4 [.ref 0, .int v1, .int v2, .int v3] M embI (f_X10_mend v1 v2 v3 M) := AC.of hG (by decide) (Nat.le_of_ble_eq_true rfl) (fun E hE B => by subst hE; exact w_X10_mend hG B v1 v2 v3 M)
def f_X11_isMatch (v1 : Int32) (M : Mem) : Option Int32 := (f_X11_within v1.toInt64 (0 : Int64) (((M.1 47 7) - (1 : Int32)).toInt64)).bind fun x1 => ck (okB x1) (some x1)
set_option maxRecDepth 100000 in
set_option maxHeartbeats 4000000 in
theorem w_X11_isMatch {G : GW} {E : EE} (hG : ab_ok G) (B : Bx G E RX11 cX11_isMatch 2 3 (some .boolean)) (v1 : Int32) (M : Mem) : AWo G E cX11_isMatch 2 (ab_Q G E (embRI M)) 0 [(0, .ref 47), (1, .int v1)] [] M (f_X11_isMatch v1 M) := by
  unfold f_X11_isMatch
  refine aw_iload_n (k0 := 1) B 1 (by decide +kernel) rfl rfl ?_
  refine aw_i2l B (by decide +kernel) ?_
  refine aw_lconst (n := 0) (v := (0 : Int64)) B (by decide +kernel) (by decide) ?_
  refine aw_aload_n (k0 := 0) B 0 (by decide +kernel) rfl rfl ?_
  refine aw_geti (c := 47) B lkX11_116 (by decide +kernel) rfl ?_
  refine aw_iconst (n := 1) (v := (1 : Int32)) B (by decide +kernel) (by decide) ?_
  refine aw_isub B (by decide +kernel) ?_
  refine aw_i2l B (by decide +kernel) ?_
  refine aw_cSR B (c_X11_within (eLa E) hG v1.toInt64 (0 : Int64) (((M.1 47 7) - (1 : Int32)).toInt64) M) csX11_112 (Nat.le_of_ble_eq_true rfl) rfl (Nat.le_of_ble_eq_true rfl) (by decide +kernel) rfl (fun x1 => ?_)
  exact aw_zreturn B (by decide +kernel) rfl
theorem c_X11_isMatch (l : Launch) {G : GW} (hG : ab_ok G) (v1 : Int32) (M : Mem) : AC l G yX11_isMatch cX11_isMatch 2 (some .boolean) 3 [.ref 47, .int v1] M (embRI M) (f_X11_isMatch v1 M) := AC.of hG (by decide) (Nat.le_of_ble_eq_true rfl) (fun E hE B => by subst hE; exact w_X11_isMatch hG B v1 M)
def f_X11_becomes_b97 (v1 : Int32) (v2 : Int32) (v3 : Int32) (M : Mem) : Option (Int32 × Mem) := ck (okI 49 (M.1 47 5)) (lt (wI M 49 (M.1 47 5).toNatClampNeg v1) fun M1 => ck (okI 50 (M1.1 47 5)) (lt (wI M1 50 (M1.1 47 5).toNatClampNeg v3) fun M2 => ck (okI 51 (M2.1 47 5)) (lt (wI M2 51 (M2.1 47 5).toNatClampNeg v2) fun M3 => lt (wI M3 47 5 ((M3.1 47 5) + (1 : Int32))) fun M4 => lt (wI M4 47 4 (M4.1 47 5)) fun M5 => ck (okI 48 v1) (lt (wI M5 48 v1.toNatClampNeg v2) fun M6 => (some (v3, M6))))))
set_option maxRecDepth 100000 in
set_option maxHeartbeats 4000000 in
theorem w_X11_becomes_b97 {G : GW} {E : EE} (hG : ab_ok G) (B : Bx G E RX11 cX11_becomes 5 2 (some .int)) (v1 : Int32) (v2 : Int32) (v3 : Int32) (M : Mem) : AWo G E cX11_becomes 5 (ab_Q G E embI) 97 [(0, .ref 47), (1, .int v1), (2, .int v2), (3, .int v3)] [] M (f_X11_becomes_b97 v1 v2 v3 M) := by
  unfold f_X11_becomes_b97
  refine aw_aload_n (k0 := 0) B 0 (by decide +kernel) rfl rfl ?_
  refine aw_getr (c := 47) B lkX11_13 (by decide +kernel) rfl (r := 49) rfl ?_
  refine aw_aload_n (k0 := 0) B 0 (by decide +kernel) rfl rfl ?_
  refine aw_geti (c := 47) B lkX11_103 (by decide +kernel) rfl ?_
  refine aw_iload_n (k0 := 1) B 1 (by decide +kernel) rfl rfl ?_
  refine aw_iastore B (by decide +kernel) (fun M1 => ?_)
  refine aw_aload_n (k0 := 0) B 0 (by decide +kernel) rfl rfl ?_
  refine aw_getr (c := 47) B lkX11_16 (by decide +kernel) rfl (r := 50) rfl ?_
  refine aw_aload_n (k0 := 0) B 0 (by decide +kernel) rfl rfl ?_
  refine aw_geti (c := 47) B lkX11_103 (by decide +kernel) rfl ?_
  refine aw_iload_n (k0 := 3) B 3 (by decide +kernel) rfl rfl ?_
  refine aw_iastore B (by decide +kernel) (fun M2 => ?_)
  refine aw_aload_n (k0 := 0) B 0 (by decide +kernel) rfl rfl ?_
  refine aw_getr (c := 47) B lkX11_19 (by decide +kernel) rfl (r := 51) rfl ?_
  refine aw_aload_n (k0 := 0) B 0 (by decide +kernel) rfl rfl ?_
  refine aw_geti (c := 47) B lkX11_103 (by decide +kernel) rfl ?_
  refine aw_iload_n (k0 := 2) B 2 (by decide +kernel) rfl rfl ?_
  refine aw_iastore B (by decide +kernel) (fun M3 => ?_)
  refine aw_aload_n (k0 := 0) B 0 (by decide +kernel) rfl rfl ?_
  refine aw_dup B (by decide +kernel) rfl ?_
  refine aw_geti (c := 47) B lkX11_103 (by decide +kernel) rfl ?_
  refine aw_iconst (n := 1) (v := (1 : Int32)) B (by decide +kernel) (by decide) ?_
  refine aw_iadd B (by decide +kernel) ?_
  refine aw_puti (c := 47) B lkX11_103 lp11_5 (by decide +kernel) rfl (fun M4 => ?_)
  refine aw_aload_n (k0 := 0) B 0 (by decide +kernel) rfl rfl ?_
  refine aw_aload_n (k0 := 0) B 0 (by decide +kernel) rfl rfl ?_
  refine aw_geti (c := 47) B lkX11_103 (by decide +kernel) rfl ?_
  refine aw_puti (c := 47) B lkX11_106 lp11_4 (by decide +kernel) rfl (fun M5 => ?_)
  refine aw_aload_n (k0 := 0) B 0 (by decide +kernel) rfl rfl ?_
  refine aw_getr (c := 47) B lkX11_9 (by decide +kernel) rfl (r := 48) rfl ?_
  refine aw_iload_n (k0 := 1) B 1 (by decide +kernel) rfl rfl ?_
  refine aw_iload_n (k0 := 2) B 2 (by decide +kernel) rfl rfl ?_
  refine aw_iastore B (by decide +kernel) (fun M6 => ?_)
  refine aw_iload_n (k0 := 3) B 3 (by decide +kernel) rfl rfl ?_
  exact aw_ireturn B (by decide +kernel) rfl
def f_X11_becomes_L26 : Nat → Int32 → Int32 → Int32 → Int32 → Mem → Option (Int32 × Mem)
  | 0, _, _, _, _, _ => none
  | n + 1, v1, v2, v3, v4, M => (if (40 : Int32) ≤ v4 then lt (wI M 47 5 ((M.1 47 5) - (1 : Int32))) fun M1 => f_X11_becomes_b97 v1 v2 v3 M1 else ck (okI 49 v4) (ck (okI 49 (v4 - (1 : Int32))) (lt (wI M 49 (v4 - (1 : Int32)).toNatClampNeg (M.1 49 v4.toNatClampNeg)) fun M2 => ck (okI 50 v4) (ck (okI 50 (v4 - (1 : Int32))) (lt (wI M2 50 (v4 - (1 : Int32)).toNatClampNeg (M2.1 50 v4.toNatClampNeg)) fun M3 => ck (okI 51 v4) (ck (okI 51 (v4 - (1 : Int32))) (lt (wI M3 51 (v4 - (1 : Int32)).toNatClampNeg (M3.1 51 v4.toNatClampNeg)) fun M4 => f_X11_becomes_L26 n v1 v2 v3 (v4 + 1) M4)))))))
set_option maxRecDepth 100000 in
set_option maxHeartbeats 4000000 in
theorem w_X11_becomes_L26 {G : GW} {E : EE} (hG : ab_ok G) (B : Bx G E RX11 cX11_becomes 5 2 (some .int)) : ∀ (n : Nat) (v1 : Int32) (v2 : Int32) (v3 : Int32) (v4 : Int32) (M : Mem), AWo G E cX11_becomes 5 (ab_Q G E embI) 26 [(0, .ref 47), (1, .int v1), (2, .int v2), (3, .int v3), (4, .int v4)] [] M (f_X11_becomes_L26 n v1 v2 v3 v4 M) := by
  intro n
  induction n with
  | zero => intro _ _ _ _ _; exact aw_none
  | succ n ih =>
    intro v1 v2 v3 v4 M
    rw [f_X11_becomes_L26]
    refine aw_iload (i := 4) B 4 (by decide +kernel) rfl ?_
    refine aw_bipush (n := 40) (v := (40 : Int32)) B (by decide +kernel) (by decide) ?_
    refine aw_icmp_ge (off := 57) B 87 (by decide +kernel) (by decide) (fun _ => ?_) (fun _ => ?_)
    · refine aw_aload_n (k0 := 0) B 0 (by decide +kernel) rfl rfl ?_
      refine aw_dup B (by decide +kernel) rfl ?_
      refine aw_geti (c := 47) B lkX11_103 (by decide +kernel) rfl ?_
      refine aw_iconst (n := 1) (v := (1 : Int32)) B (by decide +kernel) (by decide) ?_
      refine aw_isub B (by decide +kernel) ?_
      refine aw_puti (c := 47) B lkX11_103 lp11_5 (by decide +kernel) rfl (fun M1 => ?_)
      exact aw_sub [0, 1, 2, 3] rfl (w_X11_becomes_b97 hG B _ _ _ _)
    · refine aw_aload_n (k0 := 0) B 0 (by decide +kernel) rfl rfl ?_
      refine aw_getr (c := 47) B lkX11_13 (by decide +kernel) rfl (r := 49) rfl ?_
      refine aw_iload (i := 4) B 4 (by decide +kernel) rfl ?_
      refine aw_iconst (n := 1) (v := (1 : Int32)) B (by decide +kernel) (by decide) ?_
      refine aw_isub B (by decide +kernel) ?_
      refine aw_aload_n (k0 := 0) B 0 (by decide +kernel) rfl rfl ?_
      refine aw_getr (c := 47) B lkX11_13 (by decide +kernel) rfl (r := 49) rfl ?_
      refine aw_iload (i := 4) B 4 (by decide +kernel) rfl ?_
      refine aw_iaload B (by decide +kernel) ?_
      refine aw_iastore B (by decide +kernel) (fun M2 => ?_)
      refine aw_aload_n (k0 := 0) B 0 (by decide +kernel) rfl rfl ?_
      refine aw_getr (c := 47) B lkX11_16 (by decide +kernel) rfl (r := 50) rfl ?_
      refine aw_iload (i := 4) B 4 (by decide +kernel) rfl ?_
      refine aw_iconst (n := 1) (v := (1 : Int32)) B (by decide +kernel) (by decide) ?_
      refine aw_isub B (by decide +kernel) ?_
      refine aw_aload_n (k0 := 0) B 0 (by decide +kernel) rfl rfl ?_
      refine aw_getr (c := 47) B lkX11_16 (by decide +kernel) rfl (r := 50) rfl ?_
      refine aw_iload (i := 4) B 4 (by decide +kernel) rfl ?_
      refine aw_iaload B (by decide +kernel) ?_
      refine aw_iastore B (by decide +kernel) (fun M3 => ?_)
      refine aw_aload_n (k0 := 0) B 0 (by decide +kernel) rfl rfl ?_
      refine aw_getr (c := 47) B lkX11_19 (by decide +kernel) rfl (r := 51) rfl ?_
      refine aw_iload (i := 4) B 4 (by decide +kernel) rfl ?_
      refine aw_iconst (n := 1) (v := (1 : Int32)) B (by decide +kernel) (by decide) ?_
      refine aw_isub B (by decide +kernel) ?_
      refine aw_aload_n (k0 := 0) B 0 (by decide +kernel) rfl rfl ?_
      refine aw_getr (c := 47) B lkX11_19 (by decide +kernel) rfl (r := 51) rfl ?_
      refine aw_iload (i := 4) B 4 (by decide +kernel) rfl ?_
      refine aw_iaload B (by decide +kernel) ?_
      refine aw_iastore B (by decide +kernel) (fun M4 => ?_)
      refine aw_iinc (i := 4) (n := 1) B 4 [(4, .int (v4 + 1)), (0, .ref 47), (1, .int v1), (2, .int v2), (3, .int v3)] (by decide +kernel) rfl (Nat.le_of_ble_eq_true rfl) (v4 + 1) (ab_inc (by decide)) rfl ?_
      refine aw_goto (off := -58) B 26 (by decide +kernel) (by decide) ?_
      exact aw_sub [1, 2, 3, 4, 0] rfl (ih _ _ _ _ _)
def f_X11_becomes (v1 : Int32) (v2 : Int32) (M : Mem) : Option (Int32 × Mem) := ck (okI 48 v1) (lt (M.1 48 v1.toNatClampNeg) fun x1 => (if x1 = v2 then (some (x1, M)) else (if (M.1 47 5) = (40 : Int32) then f_X11_becomes_L26 FU v1 v2 x1 (1 : Int32) M else f_X11_becomes_b97 v1 v2 x1 M)))
set_option maxRecDepth 100000 in
set_option maxHeartbeats 4000000 in
theorem w_X11_becomes {G : GW} {E : EE} (hG : ab_ok G) (B : Bx G E RX11 cX11_becomes 5 2 (some .int)) (v1 : Int32) (v2 : Int32) (M : Mem) : AWo G E cX11_becomes 5 (ab_Q G E embI) 0 [(0, .ref 47), (1, .int v1), (2, .int v2)] [] M (f_X11_becomes v1 v2 M) := by
  unfold f_X11_becomes
  refine aw_aload_n (k0 := 0) B 0 (by decide +kernel) rfl rfl ?_
  refine aw_getr (c := 47) B lkX11_9 (by decide +kernel) rfl (r := 48) rfl ?_
  refine aw_iload_n (k0 := 1) B 1 (by decide +kernel) rfl rfl ?_
  refine aw_iaload B (by decide +kernel) ?_
  refine aw_ltI (fun x1 => ?_)
  refine aw_istore_n (k0 := 3) B [(3, .int x1), (0, .ref 47), (1, .int v1), (2, .int v2)] (by decide +kernel) rfl (Nat.le_of_ble_eq_true rfl) rfl ?_
  refine aw_iload_n (k0 := 3) B 0 (by decide +kernel) rfl rfl ?_
  refine aw_iload_n (k0 := 2) B 3 (by decide +kernel) rfl rfl ?_
  refine aw_icmp_ne (off := 5) B 14 (by decide +kernel) (by decide) (fun _ => ?_) (fun _ => ?_)
  · refine aw_aload_n (k0 := 0) B 1 (by decide +kernel) rfl rfl ?_
    refine aw_geti (c := 47) B lkX11_103 (by decide +kernel) rfl ?_
    refine aw_bipush (n := 40) (v := (40 : Int32)) B (by decide +kernel) (by decide) ?_
    refine aw_icmp_ne (off := 77) B 97 (by decide +kernel) (by decide) (fun _ => ?_) (fun _ => ?_)
    · exact aw_sub [1, 2, 3, 0] rfl (w_X11_becomes_b97 hG B _ _ _ _)
    · refine aw_iconst (n := 1) (v := (1 : Int32)) B (by decide +kernel) (by decide) ?_
      refine aw_istore (i := 4) B [(4, .int (1 : Int32)), (3, .int x1), (0, .ref 47), (1, .int v1), (2, .int v2)] (by decide +kernel) (Nat.le_of_ble_eq_true rfl) rfl ?_
      exact aw_sub [2, 3, 4, 1, 0] rfl (w_X11_becomes_L26 hG B FU _ _ _ _ _)
  · refine aw_iload_n (k0 := 3) B 0 (by decide +kernel) rfl rfl ?_
    exact aw_ireturn B (by decide +kernel) rfl
theorem c_X11_becomes (l : Launch) {G : GW} (hG : ab_ok G) (v1 : Int32) (v2 : Int32) (M : Mem) : AC l G yX11_becomes cX11_becomes 5 (some .int) 2 [.ref 47, .int v1, .int v2] M embI (f_X11_becomes v1 v2 M) := AC.of hG (by decide) (Nat.le_of_ble_eq_true rfl) (fun E hE B => by subst hE; exact w_X11_becomes hG B v1 v2 M)
def f_X11_isPlayer (v1 : Int32) (M : Mem) : Option Int32 := (f_X11_within v1.toInt64 (0 : Int64) (((M.1 47 6) - (1 : Int32)).toInt64)).bind fun x1 => ck (okB x1) (some x1)
set_option maxRecDepth 100000 in
set_option maxHeartbeats 4000000 in
theorem w_X11_isPlayer {G : GW} {E : EE} (hG : ab_ok G) (B : Bx G E RX11 cX11_isPlayer 2 3 (some .boolean)) (v1 : Int32) (M : Mem) : AWo G E cX11_isPlayer 2 (ab_Q G E (embRI M)) 0 [(0, .ref 47), (1, .int v1)] [] M (f_X11_isPlayer v1 M) := by
  unfold f_X11_isPlayer
  refine aw_iload_n (k0 := 1) B 1 (by decide +kernel) rfl rfl ?_
  refine aw_i2l B (by decide +kernel) ?_
  refine aw_lconst (n := 0) (v := (0 : Int64)) B (by decide +kernel) (by decide) ?_
  refine aw_aload_n (k0 := 0) B 0 (by decide +kernel) rfl rfl ?_
  refine aw_geti (c := 47) B lkX11_109 (by decide +kernel) rfl ?_
  refine aw_iconst (n := 1) (v := (1 : Int32)) B (by decide +kernel) (by decide) ?_
  refine aw_isub B (by decide +kernel) ?_
  refine aw_i2l B (by decide +kernel) ?_
  refine aw_cSR B (c_X11_within (eLa E) hG v1.toInt64 (0 : Int64) (((M.1 47 6) - (1 : Int32)).toInt64) M) csX11_112 (Nat.le_of_ble_eq_true rfl) rfl (Nat.le_of_ble_eq_true rfl) (by decide +kernel) rfl (fun x1 => ?_)
  exact aw_zreturn B (by decide +kernel) rfl
theorem c_X11_isPlayer (l : Launch) {G : GW} (hG : ab_ok G) (v1 : Int32) (M : Mem) : AC l G yX11_isPlayer cX11_isPlayer 2 (some .boolean) 3 [.ref 47, .int v1] M (embRI M) (f_X11_isPlayer v1 M) := AC.of hG (by decide) (Nat.le_of_ble_eq_true rfl) (fun E hE B => by subst hE; exact w_X11_isPlayer hG B v1 M)
def f_X11_mend (v1 : Int32) (v2 : Int32) (v3 : Int32) (M : Mem) : Option (Int32 × Mem) := (if v2 = (0 : Int32) then (f_X11_isPlayer v1 M).bind fun x1 => (if x1 = 0 then (some ((-1 : Int32), M)) else (f_X11_within v3.toInt64 (0 : Int64) (99 : Int64)).bind fun x3 => (if x3 = 0 then (some ((-1 : Int32), M)) else bI (f_X11_becomes v1 v3 M) fun x5 M6 => (some (x5, M6)))) else if v2 = (1 : Int32) then (f_X11_isMatch v1 M).bind fun x7 => (if x7 = 0 then (some ((-1 : Int32), M)) else (f_X11_within v3.toInt64 (0 : Int64) (1 : Int64)).bind fun x9 => (if x9 = 0 then (some ((-1 : Int32), M)) else bI (f_X11_becomes ((8 : Int32) + v1) v3 M) fun x11 M12 => (some (x11, M12)))) else (some ((-1 : Int32), M)))
set_option maxRecDepth 100000 in
set_option maxHeartbeats 4000000 in
theorem w_X11_mend {G : GW} {E : EE} (hG : ab_ok G) (B : Bx G E RX11 cX11_mend 4 4 (some .int)) (v1 : Int32) (v2 : Int32) (v3 : Int32) (M : Mem) : AWo G E cX11_mend 4 (ab_Q G E embI) 0 [(0, .ref 47), (1, .int v1), (2, .int v2), (3, .int v3)] [] M (f_X11_mend v1 v2 v3 M) := by
  unfold f_X11_mend
  refine aw_iload_n (k0 := 2) B 2 (by decide +kernel) rfl rfl ?_
  refine aw_ite (fun h1_0 => ?_) (fun h1_0 => ?_)
  · refine aw_lkpK (k0 := (0 : Int32)) (dflt := 90) (ps := #[(0, 27), (1, 58)]) (len := 27) (off := 27) B 28 (by decide +kernel) (by decide +kernel) h1_0 (by decide +kernel) (by decide) ?_
    refine aw_aload_n (k0 := 0) B 0 (by decide +kernel) rfl rfl ?_
    refine aw_iload_n (k0 := 1) B 1 (by decide +kernel) rfl rfl ?_
    refine aw_cVR B (c_X11_isPlayer (eLa E) hG v1 M) cvX11_135 rfl rfl (Nat.le_of_ble_eq_true rfl) rfl (Nat.le_of_ble_eq_true rfl) (by decide +kernel) rfl (fun x1 => ?_)
    refine aw_if_eq (off := 24) B 57 (by decide +kernel) (by decide) (fun _ => ?_) (fun _ => ?_)
    · refine aw_iconst (n := -1) (v := (-1 : Int32)) B (by decide +kernel) (by decide) ?_
      exact aw_ireturn B (by decide +kernel) rfl
    · refine aw_iload_n (k0 := 3) B 3 (by decide +kernel) rfl rfl ?_
      refine aw_i2l B (by decide +kernel) ?_
      refine aw_lconst (n := 0) (v := (0 : Int64)) B (by decide +kernel) (by decide) ?_
      refine aw_ldc2 B (by decide +kernel) lwX11_119 ?_
      refine aw_cSR B (c_X11_within (eLa E) hG v3.toInt64 (0 : Int64) (99 : Int64) M) csX11_112 (Nat.le_of_ble_eq_true rfl) rfl (Nat.le_of_ble_eq_true rfl) (by decide +kernel) rfl (fun x3 => ?_)
      refine aw_if_eq (off := 12) B 57 (by decide +kernel) (by decide) (fun _ => ?_) (fun _ => ?_)
      · refine aw_iconst (n := -1) (v := (-1 : Int32)) B (by decide +kernel) (by decide) ?_
        exact aw_ireturn B (by decide +kernel) rfl
      · refine aw_aload_n (k0 := 0) B 0 (by decide +kernel) rfl rfl ?_
        refine aw_iload_n (k0 := 1) B 1 (by decide +kernel) rfl rfl ?_
        refine aw_iload_n (k0 := 3) B 3 (by decide +kernel) rfl rfl ?_
        refine aw_cVI B (c_X11_becomes (eLa E) hG v1 v3 M) cvX11_138 rfl rfl (Nat.le_of_ble_eq_true rfl) rfl (Nat.le_of_ble_eq_true rfl) (by decide +kernel) rfl (fun x5 M6 => ?_)
        refine aw_goto (off := 4) B 58 (by decide +kernel) (by decide) ?_
        exact aw_ireturn B (by decide +kernel) rfl
  refine aw_ite (fun h1_1 => ?_) (fun h1_1 => ?_)
  · refine aw_lkpK (k0 := (1 : Int32)) (dflt := 90) (ps := #[(0, 27), (1, 58)]) (len := 27) (off := 58) B 59 (by decide +kernel) (by decide +kernel) h1_1 (by decide +kernel) (by decide) ?_
    refine aw_aload_n (k0 := 0) B 0 (by decide +kernel) rfl rfl ?_
    refine aw_iload_n (k0 := 1) B 1 (by decide +kernel) rfl rfl ?_
    refine aw_cVR B (c_X11_isMatch (eLa E) hG v1 M) cvX11_142 rfl rfl (Nat.le_of_ble_eq_true rfl) rfl (Nat.le_of_ble_eq_true rfl) (by decide +kernel) rfl (fun x7 => ?_)
    refine aw_if_eq (off := 25) B 89 (by decide +kernel) (by decide) (fun _ => ?_) (fun _ => ?_)
    · refine aw_iconst (n := -1) (v := (-1 : Int32)) B (by decide +kernel) (by decide) ?_
      exact aw_ireturn B (by decide +kernel) rfl
    · refine aw_iload_n (k0 := 3) B 3 (by decide +kernel) rfl rfl ?_
      refine aw_i2l B (by decide +kernel) ?_
      refine aw_lconst (n := 0) (v := (0 : Int64)) B (by decide +kernel) (by decide) ?_
      refine aw_lconst (n := 1) (v := (1 : Int64)) B (by decide +kernel) (by decide) ?_
      refine aw_cSR B (c_X11_within (eLa E) hG v3.toInt64 (0 : Int64) (1 : Int64) M) csX11_112 (Nat.le_of_ble_eq_true rfl) rfl (Nat.le_of_ble_eq_true rfl) (by decide +kernel) rfl (fun x9 => ?_)
      refine aw_if_eq (off := 15) B 89 (by decide +kernel) (by decide) (fun _ => ?_) (fun _ => ?_)
      · refine aw_iconst (n := -1) (v := (-1 : Int32)) B (by decide +kernel) (by decide) ?_
        exact aw_ireturn B (by decide +kernel) rfl
      · refine aw_aload_n (k0 := 0) B 0 (by decide +kernel) rfl rfl ?_
        refine aw_bipush (n := 8) (v := (8 : Int32)) B (by decide +kernel) (by decide) ?_
        refine aw_iload_n (k0 := 1) B 1 (by decide +kernel) rfl rfl ?_
        refine aw_iadd B (by decide +kernel) ?_
        refine aw_iload_n (k0 := 3) B 3 (by decide +kernel) rfl rfl ?_
        refine aw_cVI B (c_X11_becomes (eLa E) hG ((8 : Int32) + v1) v3 M) cvX11_138 rfl rfl (Nat.le_of_ble_eq_true rfl) rfl (Nat.le_of_ble_eq_true rfl) (by decide +kernel) rfl (fun x11 M12 => ?_)
        refine aw_goto (off := 4) B 90 (by decide +kernel) (by decide) ?_
        exact aw_ireturn B (by decide +kernel) rfl
  · refine aw_lkp (dflt := 90) (ps := #[(0, 27), (1, 58)]) (len := 27) (off := 90) B 91 (by decide +kernel) (by decide +kernel) ((lv_osw h1_0 (by decide)).trans ((lv_osw h1_1 (by decide)).trans (rfl))) (by decide) ?_
    refine aw_iconst (n := -1) (v := (-1 : Int32)) B (by decide +kernel) (by decide) ?_
    exact aw_ireturn B (by decide +kernel) rfl
theorem c_X11_mend (l : Launch) {G : GW} (hG : ab_ok G) (v1 : Int32) (v2 : Int32) (v3 : Int32) (M : Mem) : AC l G yX11_mend cX11_mend 4 (some .int) 4 [.ref 47, .int v1, .int v2, .int v3] M embI (f_X11_mend v1 v2 v3 M) := AC.of hG (by decide) (Nat.le_of_ble_eq_true rfl) (fun E hE B => by subst hE; exact w_X11_mend hG B v1 v2 v3 M)
def f_X4_wonBy_b31 (k4 : Int32 → Int32 → Int32 → Option Int32) (M : Mem) (v1 : Int32) (v2 : Int32) (v3 : Int32) : Option Int32 := k4 v1 v2 (v3 + 1)
set_option maxRecDepth 100000 in
set_option maxHeartbeats 4000000 in
theorem w_X4_wonBy_b31 {G : GW} {E : EE} (hG : ab_ok G) (M : Mem) {k4 : Int32 → Int32 → Int32 → Option Int32} (B : Bx G E RX4 cX4_wonBy 4 2 (some .int)) (hk4 : ∀ (v1 : Int32) (v2 : Int32) (v3 : Int32), AWo G E cX4_wonBy 4 (ab_Q G E (embRI M)) 4 [(0, .ref 1), (1, .int v1), (2, .int v2), (3, .int v3)] [] M (k4 v1 v2 v3)) (v1 : Int32) (v2 : Int32) (v3 : Int32) : AWo G E cX4_wonBy 4 (ab_Q G E (embRI M)) 31 [(0, .ref 1), (1, .int v1), (2, .int v2), (3, .int v3)] [] M (f_X4_wonBy_b31 k4 M v1 v2 v3) := by
  unfold f_X4_wonBy_b31
  refine aw_iinc (i := 3) (n := 1) B 3 [(3, .int (v3 + 1)), (0, .ref 1), (1, .int v1), (2, .int v2)] (by decide +kernel) rfl (Nat.le_of_ble_eq_true rfl) (v3 + 1) (ab_inc (by decide)) rfl ?_
  refine aw_goto (off := -30) B 4 (by decide +kernel) (by decide) ?_
  exact aw_sub [1, 2, 3, 0] rfl (hk4 _ _ _)
def f_X4_wonBy_L4 (M : Mem) : Nat → Int32 → Int32 → Int32 → Option Int32
  | 0, _, _, _ => none
  | n + 1, v1, v2, v3 => (if (M.1 1 1) ≤ v3 then (some v2) else ck (okI 3 v3) ((if (M.1 3 v3.toNatClampNeg) = v1 then ck (okI 5 v3) (lt (v2 + (M.1 5 v3.toNatClampNeg)) fun x1 => f_X4_wonBy_b31 (fun a0 a1 a2 => f_X4_wonBy_L4 M n a0 a1 a2) M v1 x1 v3) else f_X4_wonBy_b31 (fun a0 a1 a2 => f_X4_wonBy_L4 M n a0 a1 a2) M v1 v2 v3)))
set_option maxRecDepth 100000 in
set_option maxHeartbeats 4000000 in
theorem w_X4_wonBy_L4 {G : GW} {E : EE} (hG : ab_ok G) (M : Mem) (B : Bx G E RX4 cX4_wonBy 4 2 (some .int)) : ∀ (n : Nat) (v1 : Int32) (v2 : Int32) (v3 : Int32), AWo G E cX4_wonBy 4 (ab_Q G E (embRI M)) 4 [(0, .ref 1), (1, .int v1), (2, .int v2), (3, .int v3)] [] M (f_X4_wonBy_L4 M n v1 v2 v3) := by
  intro n
  induction n with
  | zero => intro _ _ _; exact aw_none
  | succ n ih =>
    intro v1 v2 v3
    rw [f_X4_wonBy_L4]
    refine aw_iload_n (k0 := 3) B 3 (by decide +kernel) rfl rfl ?_
    refine aw_aload_n (k0 := 0) B 0 (by decide +kernel) rfl rfl ?_
    refine aw_geti (c := 1) B lkX4_28 (by decide +kernel) rfl ?_
    refine aw_icmp_ge (off := 28) B 37 (by decide +kernel) (by decide) (fun _ => ?_) (fun _ => ?_)
    · refine aw_iload_n (k0 := 2) B 2 (by decide +kernel) rfl rfl ?_
      exact aw_ireturn B (by decide +kernel) rfl
    · refine aw_aload_n (k0 := 0) B 0 (by decide +kernel) rfl rfl ?_
      refine aw_getr (c := 1) B lkX4_15 (by decide +kernel) rfl (r := 3) rfl ?_
      refine aw_iload_n (k0 := 3) B 3 (by decide +kernel) rfl rfl ?_
      refine aw_iaload B (by decide +kernel) ?_
      refine aw_iload_n (k0 := 1) B 1 (by decide +kernel) rfl rfl ?_
      refine aw_icmp_ne (off := 12) B 31 (by decide +kernel) (by decide) (fun _ => ?_) (fun _ => ?_)
      · exact w_X4_wonBy_b31 hG M B ih _ _ _
      · refine aw_iload_n (k0 := 2) B 2 (by decide +kernel) rfl rfl ?_
        refine aw_aload_n (k0 := 0) B 0 (by decide +kernel) rfl rfl ?_
        refine aw_getr (c := 1) B lkX4_21 (by decide +kernel) rfl (r := 5) rfl ?_
        refine aw_iload_n (k0 := 3) B 3 (by decide +kernel) rfl rfl ?_
        refine aw_iaload B (by decide +kernel) ?_
        refine aw_iadd B (by decide +kernel) ?_
        refine aw_ltI (fun x1 => ?_)
        refine aw_istore_n (k0 := 2) B [(2, .int x1), (0, .ref 1), (1, .int v1), (3, .int v3)] (by decide +kernel) rfl (Nat.le_of_ble_eq_true rfl) rfl ?_
        exact aw_sub [1, 2, 0, 3] rfl (w_X4_wonBy_b31 hG M B ih _ _ _)
def f_X4_wonBy (v1 : Int32) (M : Mem) : Option Int32 := f_X4_wonBy_L4 M FU v1 (0 : Int32) (0 : Int32)
set_option maxRecDepth 100000 in
set_option maxHeartbeats 4000000 in
theorem w_X4_wonBy {G : GW} {E : EE} (hG : ab_ok G) (B : Bx G E RX4 cX4_wonBy 4 2 (some .int)) (v1 : Int32) (M : Mem) : AWo G E cX4_wonBy 4 (ab_Q G E (embRI M)) 0 [(0, .ref 1), (1, .int v1)] [] M (f_X4_wonBy v1 M) := by
  unfold f_X4_wonBy
  refine aw_iconst (n := 0) (v := (0 : Int32)) B (by decide +kernel) (by decide) ?_
  refine aw_istore_n (k0 := 2) B [(2, .int (0 : Int32)), (0, .ref 1), (1, .int v1)] (by decide +kernel) rfl (Nat.le_of_ble_eq_true rfl) rfl ?_
  refine aw_iconst (n := 0) (v := (0 : Int32)) B (by decide +kernel) (by decide) ?_
  refine aw_istore_n (k0 := 3) B [(3, .int (0 : Int32)), (2, .int (0 : Int32)), (0, .ref 1), (1, .int v1)] (by decide +kernel) rfl (Nat.le_of_ble_eq_true rfl) rfl ?_
  exact aw_sub [2, 3, 1, 0] rfl (w_X4_wonBy_L4 hG M B FU _ _ _)
theorem c_X4_wonBy (l : Launch) {G : GW} (hG : ab_ok G) (v1 : Int32) (M : Mem) : AC l G yX4_wonBy cX4_wonBy 4 (some .int) 2 [.ref 1, .int v1] M (embRI M) (f_X4_wonBy v1 M) := AC.of hG (by decide) (Nat.le_of_ble_eq_true rfl) (fun E hE B => by subst hE; exact w_X4_wonBy hG B v1 M)
def f_X4_lostBy_b31 (k4 : Int32 → Int32 → Int32 → Option Int32) (M : Mem) (v1 : Int32) (v2 : Int32) (v3 : Int32) : Option Int32 := k4 v1 v2 (v3 + 1)
set_option maxRecDepth 100000 in
set_option maxHeartbeats 4000000 in
theorem w_X4_lostBy_b31 {G : GW} {E : EE} (hG : ab_ok G) (M : Mem) {k4 : Int32 → Int32 → Int32 → Option Int32} (B : Bx G E RX4 cX4_lostBy 4 2 (some .int)) (hk4 : ∀ (v1 : Int32) (v2 : Int32) (v3 : Int32), AWo G E cX4_lostBy 4 (ab_Q G E (embRI M)) 4 [(0, .ref 1), (1, .int v1), (2, .int v2), (3, .int v3)] [] M (k4 v1 v2 v3)) (v1 : Int32) (v2 : Int32) (v3 : Int32) : AWo G E cX4_lostBy 4 (ab_Q G E (embRI M)) 31 [(0, .ref 1), (1, .int v1), (2, .int v2), (3, .int v3)] [] M (f_X4_lostBy_b31 k4 M v1 v2 v3) := by
  unfold f_X4_lostBy_b31
  refine aw_iinc (i := 3) (n := 1) B 3 [(3, .int (v3 + 1)), (0, .ref 1), (1, .int v1), (2, .int v2)] (by decide +kernel) rfl (Nat.le_of_ble_eq_true rfl) (v3 + 1) (ab_inc (by decide)) rfl ?_
  refine aw_goto (off := -30) B 4 (by decide +kernel) (by decide) ?_
  exact aw_sub [1, 2, 3, 0] rfl (hk4 _ _ _)
def f_X4_lostBy_L4 (M : Mem) : Nat → Int32 → Int32 → Int32 → Option Int32
  | 0, _, _, _ => none
  | n + 1, v1, v2, v3 => (if (M.1 1 1) ≤ v3 then (some v2) else ck (okI 4 v3) ((if (M.1 4 v3.toNatClampNeg) = v1 then ck (okI 5 v3) (lt (v2 + (M.1 5 v3.toNatClampNeg)) fun x1 => f_X4_lostBy_b31 (fun a0 a1 a2 => f_X4_lostBy_L4 M n a0 a1 a2) M v1 x1 v3) else f_X4_lostBy_b31 (fun a0 a1 a2 => f_X4_lostBy_L4 M n a0 a1 a2) M v1 v2 v3)))
set_option maxRecDepth 100000 in
set_option maxHeartbeats 4000000 in
theorem w_X4_lostBy_L4 {G : GW} {E : EE} (hG : ab_ok G) (M : Mem) (B : Bx G E RX4 cX4_lostBy 4 2 (some .int)) : ∀ (n : Nat) (v1 : Int32) (v2 : Int32) (v3 : Int32), AWo G E cX4_lostBy 4 (ab_Q G E (embRI M)) 4 [(0, .ref 1), (1, .int v1), (2, .int v2), (3, .int v3)] [] M (f_X4_lostBy_L4 M n v1 v2 v3) := by
  intro n
  induction n with
  | zero => intro _ _ _; exact aw_none
  | succ n ih =>
    intro v1 v2 v3
    rw [f_X4_lostBy_L4]
    refine aw_iload_n (k0 := 3) B 3 (by decide +kernel) rfl rfl ?_
    refine aw_aload_n (k0 := 0) B 0 (by decide +kernel) rfl rfl ?_
    refine aw_geti (c := 1) B lkX4_28 (by decide +kernel) rfl ?_
    refine aw_icmp_ge (off := 28) B 37 (by decide +kernel) (by decide) (fun _ => ?_) (fun _ => ?_)
    · refine aw_iload_n (k0 := 2) B 2 (by decide +kernel) rfl rfl ?_
      exact aw_ireturn B (by decide +kernel) rfl
    · refine aw_aload_n (k0 := 0) B 0 (by decide +kernel) rfl rfl ?_
      refine aw_getr (c := 1) B lkX4_18 (by decide +kernel) rfl (r := 4) rfl ?_
      refine aw_iload_n (k0 := 3) B 3 (by decide +kernel) rfl rfl ?_
      refine aw_iaload B (by decide +kernel) ?_
      refine aw_iload_n (k0 := 1) B 1 (by decide +kernel) rfl rfl ?_
      refine aw_icmp_ne (off := 12) B 31 (by decide +kernel) (by decide) (fun _ => ?_) (fun _ => ?_)
      · exact w_X4_lostBy_b31 hG M B ih _ _ _
      · refine aw_iload_n (k0 := 2) B 2 (by decide +kernel) rfl rfl ?_
        refine aw_aload_n (k0 := 0) B 0 (by decide +kernel) rfl rfl ?_
        refine aw_getr (c := 1) B lkX4_21 (by decide +kernel) rfl (r := 5) rfl ?_
        refine aw_iload_n (k0 := 3) B 3 (by decide +kernel) rfl rfl ?_
        refine aw_iaload B (by decide +kernel) ?_
        refine aw_iadd B (by decide +kernel) ?_
        refine aw_ltI (fun x1 => ?_)
        refine aw_istore_n (k0 := 2) B [(2, .int x1), (0, .ref 1), (1, .int v1), (3, .int v3)] (by decide +kernel) rfl (Nat.le_of_ble_eq_true rfl) rfl ?_
        exact aw_sub [1, 2, 0, 3] rfl (w_X4_lostBy_b31 hG M B ih _ _ _)
def f_X4_lostBy (v1 : Int32) (M : Mem) : Option Int32 := f_X4_lostBy_L4 M FU v1 (0 : Int32) (0 : Int32)
set_option maxRecDepth 100000 in
set_option maxHeartbeats 4000000 in
theorem w_X4_lostBy {G : GW} {E : EE} (hG : ab_ok G) (B : Bx G E RX4 cX4_lostBy 4 2 (some .int)) (v1 : Int32) (M : Mem) : AWo G E cX4_lostBy 4 (ab_Q G E (embRI M)) 0 [(0, .ref 1), (1, .int v1)] [] M (f_X4_lostBy v1 M) := by
  unfold f_X4_lostBy
  refine aw_iconst (n := 0) (v := (0 : Int32)) B (by decide +kernel) (by decide) ?_
  refine aw_istore_n (k0 := 2) B [(2, .int (0 : Int32)), (0, .ref 1), (1, .int v1)] (by decide +kernel) rfl (Nat.le_of_ble_eq_true rfl) rfl ?_
  refine aw_iconst (n := 0) (v := (0 : Int32)) B (by decide +kernel) (by decide) ?_
  refine aw_istore_n (k0 := 3) B [(3, .int (0 : Int32)), (2, .int (0 : Int32)), (0, .ref 1), (1, .int v1)] (by decide +kernel) rfl (Nat.le_of_ble_eq_true rfl) rfl ?_
  exact aw_sub [2, 3, 1, 0] rfl (w_X4_lostBy_L4 hG M B FU _ _ _)
theorem c_X4_lostBy (l : Launch) {G : GW} (hG : ab_ok G) (v1 : Int32) (M : Mem) : AC l G yX4_lostBy cX4_lostBy 4 (some .int) 2 [.ref 1, .int v1] M (embRI M) (f_X4_lostBy v1 M) := AC.of hG (by decide) (Nat.le_of_ble_eq_true rfl) (fun E hE B => by subst hE; exact w_X4_lostBy hG B v1 M)
def f_X10_of_b185 (M : Mem) (v1 : Int32) : Option Int32 := (f_X4_wonBy v1 M).bind fun x1 => (some x1)
set_option maxRecDepth 100000 in
set_option maxHeartbeats 4000000 in
theorem w_X10_of_b185 {G : GW} {E : EE} (hG : ab_ok G) (M : Mem) (B : Bx G E RX10 cX10_of 5 3 (some .int)) (v1 : Int32) : AWo G E cX10_of 5 (ab_Q G E (embRI M)) 185 [(0, .ref 0), (1, .int v1)] [] M (f_X10_of_b185 M v1) := by
  unfold f_X10_of_b185
  refine aw_aload_n (k0 := 0) B 0 (by decide +kernel) rfl rfl ?_
  refine aw_getr (c := 0) B lkX10_10 (by decide +kernel) rfl (r := 1) rfl ?_
  refine aw_iload_n (k0 := 1) B 1 (by decide +kernel) rfl rfl ?_
  refine aw_cVR B (c_X4_wonBy (eLa E) hG v1 M) cvX10_157 rfl rfl (Nat.le_of_ble_eq_true rfl) rfl (Nat.le_of_ble_eq_true rfl) (by decide +kernel) rfl (fun x1 => ?_)
  exact aw_ireturn B (by decide +kernel) rfl
def f_X10_of_b67 (M : Mem) (v1 : Int32) (v2 : Int32) : Option Int32 := (if v2 = (0 : Int32) then ck (okI 2 v1) ((some (M.1 2 v1.toNatClampNeg))) else if v2 = (1 : Int32) then f_X10_of_b185 M v1 else if v2 = (2 : Int32) then (f_X4_lostBy v1 M).bind fun x1 => (some x1) else if v2 = (3 : Int32) then f_X10_of_b185 M v1 else if v2 = (4 : Int32) then f_X10_of_b185 M v1 else if v2 = (5 : Int32) then f_X10_of_b185 M v1 else if v2 = (6 : Int32) then f_X10_of_b185 M v1 else if v2 = (7 : Int32) then f_X10_of_b185 M v1 else if v2 = (8 : Int32) then f_X10_of_b185 M v1 else if v2 = (9 : Int32) then f_X10_of_b185 M v1 else if v2 = (10 : Int32) then ck (okI 3 v1) ((some (M.1 3 v1.toNatClampNeg))) else if v2 = (11 : Int32) then ck (okI 4 v1) ((some (M.1 4 v1.toNatClampNeg))) else if v2 = (12 : Int32) then ck (okI 5 v1) ((some (M.1 5 v1.toNatClampNeg))) else f_X10_of_b185 M v1)
set_option maxRecDepth 100000 in
set_option maxHeartbeats 4000000 in
theorem w_X10_of_b67 {G : GW} {E : EE} (hG : ab_ok G) (M : Mem) (B : Bx G E RX10 cX10_of 5 3 (some .int)) (v1 : Int32) (v2 : Int32) : AWo G E cX10_of 5 (ab_Q G E (embRI M)) 67 [(0, .ref 0), (1, .int v1), (2, .int v2)] [] M (f_X10_of_b67 M v1 v2) := by
  unfold f_X10_of_b67
  refine aw_iload_n (k0 := 2) B 2 (by decide +kernel) rfl rfl ?_
  refine aw_ite (fun h68_0 => ?_) (fun h68_0 => ?_)
  · refine aw_tin (k0 := (0 : Int32)) (dflt := 117) (lo := 0) (hi := 12) (offs := #[68, 117, 78, 117, 117, 117, 117, 117, 117, 117, 87, 97, 107]) (len := 68) (off := 68) B 136 (by decide +kernel) h68_0 (by decide) (by decide) (by decide +kernel) (by decide) ?_
    refine aw_aload_n (k0 := 0) B 0 (by decide +kernel) rfl rfl ?_
    refine aw_getr (c := 0) B lkX10_10 (by decide +kernel) rfl (r := 1) rfl ?_
    refine aw_getr (c := 1) B lkX10_141 (by decide +kernel) rfl (r := 2) rfl ?_
    refine aw_iload_n (k0 := 1) B 1 (by decide +kernel) rfl rfl ?_
    refine aw_iaload B (by decide +kernel) ?_
    exact aw_ireturn B (by decide +kernel) rfl
  refine aw_ite (fun h68_1 => ?_) (fun h68_1 => ?_)
  · refine aw_tin (k0 := (1 : Int32)) (dflt := 117) (lo := 0) (hi := 12) (offs := #[68, 117, 78, 117, 117, 117, 117, 117, 117, 117, 87, 97, 107]) (len := 68) (off := 117) B 185 (by decide +kernel) h68_1 (by decide) (by decide) (by decide +kernel) (by decide) ?_
    exact aw_sub [0, 1] rfl (w_X10_of_b185 hG M B _)
  refine aw_ite (fun h68_2 => ?_) (fun h68_2 => ?_)
  · refine aw_tin (k0 := (2 : Int32)) (dflt := 117) (lo := 0) (hi := 12) (offs := #[68, 117, 78, 117, 117, 117, 117, 117, 117, 117, 87, 97, 107]) (len := 68) (off := 78) B 146 (by decide +kernel) h68_2 (by decide) (by decide) (by decide +kernel) (by decide) ?_
    refine aw_aload_n (k0 := 0) B 0 (by decide +kernel) rfl rfl ?_
    refine aw_getr (c := 0) B lkX10_10 (by decide +kernel) rfl (r := 1) rfl ?_
    refine aw_iload_n (k0 := 1) B 1 (by decide +kernel) rfl rfl ?_
    refine aw_cVR B (c_X4_lostBy (eLa E) hG v1 M) cvX10_145 rfl rfl (Nat.le_of_ble_eq_true rfl) rfl (Nat.le_of_ble_eq_true rfl) (by decide +kernel) rfl (fun x1 => ?_)
    exact aw_ireturn B (by decide +kernel) rfl
  refine aw_ite (fun h68_3 => ?_) (fun h68_3 => ?_)
  · refine aw_tin (k0 := (3 : Int32)) (dflt := 117) (lo := 0) (hi := 12) (offs := #[68, 117, 78, 117, 117, 117, 117, 117, 117, 117, 87, 97, 107]) (len := 68) (off := 117) B 185 (by decide +kernel) h68_3 (by decide) (by decide) (by decide +kernel) (by decide) ?_
    exact aw_sub [0, 1] rfl (w_X10_of_b185 hG M B _)
  refine aw_ite (fun h68_4 => ?_) (fun h68_4 => ?_)
  · refine aw_tin (k0 := (4 : Int32)) (dflt := 117) (lo := 0) (hi := 12) (offs := #[68, 117, 78, 117, 117, 117, 117, 117, 117, 117, 87, 97, 107]) (len := 68) (off := 117) B 185 (by decide +kernel) h68_4 (by decide) (by decide) (by decide +kernel) (by decide) ?_
    exact aw_sub [0, 1] rfl (w_X10_of_b185 hG M B _)
  refine aw_ite (fun h68_5 => ?_) (fun h68_5 => ?_)
  · refine aw_tin (k0 := (5 : Int32)) (dflt := 117) (lo := 0) (hi := 12) (offs := #[68, 117, 78, 117, 117, 117, 117, 117, 117, 117, 87, 97, 107]) (len := 68) (off := 117) B 185 (by decide +kernel) h68_5 (by decide) (by decide) (by decide +kernel) (by decide) ?_
    exact aw_sub [0, 1] rfl (w_X10_of_b185 hG M B _)
  refine aw_ite (fun h68_6 => ?_) (fun h68_6 => ?_)
  · refine aw_tin (k0 := (6 : Int32)) (dflt := 117) (lo := 0) (hi := 12) (offs := #[68, 117, 78, 117, 117, 117, 117, 117, 117, 117, 87, 97, 107]) (len := 68) (off := 117) B 185 (by decide +kernel) h68_6 (by decide) (by decide) (by decide +kernel) (by decide) ?_
    exact aw_sub [0, 1] rfl (w_X10_of_b185 hG M B _)
  refine aw_ite (fun h68_7 => ?_) (fun h68_7 => ?_)
  · refine aw_tin (k0 := (7 : Int32)) (dflt := 117) (lo := 0) (hi := 12) (offs := #[68, 117, 78, 117, 117, 117, 117, 117, 117, 117, 87, 97, 107]) (len := 68) (off := 117) B 185 (by decide +kernel) h68_7 (by decide) (by decide) (by decide +kernel) (by decide) ?_
    exact aw_sub [0, 1] rfl (w_X10_of_b185 hG M B _)
  refine aw_ite (fun h68_8 => ?_) (fun h68_8 => ?_)
  · refine aw_tin (k0 := (8 : Int32)) (dflt := 117) (lo := 0) (hi := 12) (offs := #[68, 117, 78, 117, 117, 117, 117, 117, 117, 117, 87, 97, 107]) (len := 68) (off := 117) B 185 (by decide +kernel) h68_8 (by decide) (by decide) (by decide +kernel) (by decide) ?_
    exact aw_sub [0, 1] rfl (w_X10_of_b185 hG M B _)
  refine aw_ite (fun h68_9 => ?_) (fun h68_9 => ?_)
  · refine aw_tin (k0 := (9 : Int32)) (dflt := 117) (lo := 0) (hi := 12) (offs := #[68, 117, 78, 117, 117, 117, 117, 117, 117, 117, 87, 97, 107]) (len := 68) (off := 117) B 185 (by decide +kernel) h68_9 (by decide) (by decide) (by decide +kernel) (by decide) ?_
    exact aw_sub [0, 1] rfl (w_X10_of_b185 hG M B _)
  refine aw_ite (fun h68_10 => ?_) (fun h68_10 => ?_)
  · refine aw_tin (k0 := (10 : Int32)) (dflt := 117) (lo := 0) (hi := 12) (offs := #[68, 117, 78, 117, 117, 117, 117, 117, 117, 117, 87, 97, 107]) (len := 68) (off := 87) B 155 (by decide +kernel) h68_10 (by decide) (by decide) (by decide +kernel) (by decide) ?_
    refine aw_aload_n (k0 := 0) B 0 (by decide +kernel) rfl rfl ?_
    refine aw_getr (c := 0) B lkX10_10 (by decide +kernel) rfl (r := 1) rfl ?_
    refine aw_getr (c := 1) B lkX10_148 (by decide +kernel) rfl (r := 3) rfl ?_
    refine aw_iload_n (k0 := 1) B 1 (by decide +kernel) rfl rfl ?_
    refine aw_iaload B (by decide +kernel) ?_
    exact aw_ireturn B (by decide +kernel) rfl
  refine aw_ite (fun h68_11 => ?_) (fun h68_11 => ?_)
  · refine aw_tin (k0 := (11 : Int32)) (dflt := 117) (lo := 0) (hi := 12) (offs := #[68, 117, 78, 117, 117, 117, 117, 117, 117, 117, 87, 97, 107]) (len := 68) (off := 97) B 165 (by decide +kernel) h68_11 (by decide) (by decide) (by decide +kernel) (by decide) ?_
    refine aw_aload_n (k0 := 0) B 0 (by decide +kernel) rfl rfl ?_
    refine aw_getr (c := 0) B lkX10_10 (by decide +kernel) rfl (r := 1) rfl ?_
    refine aw_getr (c := 1) B lkX10_151 (by decide +kernel) rfl (r := 4) rfl ?_
    refine aw_iload_n (k0 := 1) B 1 (by decide +kernel) rfl rfl ?_
    refine aw_iaload B (by decide +kernel) ?_
    exact aw_ireturn B (by decide +kernel) rfl
  refine aw_ite (fun h68_12 => ?_) (fun h68_12 => ?_)
  · refine aw_tin (k0 := (12 : Int32)) (dflt := 117) (lo := 0) (hi := 12) (offs := #[68, 117, 78, 117, 117, 117, 117, 117, 117, 117, 87, 97, 107]) (len := 68) (off := 107) B 175 (by decide +kernel) h68_12 (by decide) (by decide) (by decide +kernel) (by decide) ?_
    refine aw_aload_n (k0 := 0) B 0 (by decide +kernel) rfl rfl ?_
    refine aw_getr (c := 0) B lkX10_10 (by decide +kernel) rfl (r := 1) rfl ?_
    refine aw_getr (c := 1) B lkX10_154 (by decide +kernel) rfl (r := 5) rfl ?_
    refine aw_iload_n (k0 := 1) B 1 (by decide +kernel) rfl rfl ?_
    refine aw_iaload B (by decide +kernel) ?_
    exact aw_ireturn B (by decide +kernel) rfl
  · refine aw_tout (dflt := 117) (lo := 0) (hi := 12) (offs := #[68, 117, 78, 117, 117, 117, 117, 117, 117, 117, 87, 97, 107]) (len := 68) B 185 (by decide +kernel) (by have qh68_0 := lv_neT (a := 0) h68_0 (by decide); have qh68_1 := lv_neT (a := 1) h68_1 (by decide); have qh68_2 := lv_neT (a := 2) h68_2 (by decide); have qh68_3 := lv_neT (a := 3) h68_3 (by decide); have qh68_4 := lv_neT (a := 4) h68_4 (by decide); have qh68_5 := lv_neT (a := 5) h68_5 (by decide); have qh68_6 := lv_neT (a := 6) h68_6 (by decide); have qh68_7 := lv_neT (a := 7) h68_7 (by decide); have qh68_8 := lv_neT (a := 8) h68_8 (by decide); have qh68_9 := lv_neT (a := 9) h68_9 (by decide); have qh68_10 := lv_neT (a := 10) h68_10 (by decide); have qh68_11 := lv_neT (a := 11) h68_11 (by decide); have qh68_12 := lv_neT (a := 12) h68_12 (by decide); omega) (by decide) ?_
    exact aw_sub [0, 1] rfl (w_X10_of_b185 hG M B _)
def f_X10_of_b54 (M : Mem) (v1 : Int32) (v2 : Int32) (v3 : Int32) (s0 : Int32) : Option Int32 := (if v3 = 0 then (if s0 = 0 then (some (-1 : Int32)) else f_X10_of_b67 M v1 v2) else f_X10_of_b67 M v1 v2)
set_option maxRecDepth 100000 in
set_option maxHeartbeats 4000000 in
theorem w_X10_of_b54 {G : GW} {E : EE} (hG : ab_ok G) (M : Mem) (B : Bx G E RX10 cX10_of 5 3 (some .int)) (v1 : Int32) (v2 : Int32) (v3 : Int32) (s0 : Int32) : AWo G E cX10_of 5 (ab_Q G E (embRI M)) 54 [(0, .ref 0), (1, .int v1), (2, .int v2), (3, .int v3)] [.int s0] M (f_X10_of_b54 M v1 v2 v3 s0) := by
  unfold f_X10_of_b54
  refine aw_istore (i := 4) B [(4, .int s0), (0, .ref 0), (1, .int v1), (2, .int v2), (3, .int v3)] (by decide +kernel) (Nat.le_of_ble_eq_true rfl) rfl ?_
  refine aw_iload_n (k0 := 3) B 4 (by decide +kernel) rfl rfl ?_
  refine aw_if_ne (off := 10) B 67 (by decide +kernel) (by decide) (fun _ => ?_) (fun _ => ?_)
  · exact aw_sub [1, 2, 3] rfl (w_X10_of_b67 hG M B _ _)
  · refine aw_iload (i := 4) B 0 (by decide +kernel) rfl ?_
    refine aw_if_ne (off := 5) B 67 (by decide +kernel) (by decide) (fun _ => ?_) (fun _ => ?_)
    · exact aw_sub [1, 2, 3] rfl (w_X10_of_b67 hG M B _ _)
    · refine aw_iconst (n := -1) (v := (-1 : Int32)) B (by decide +kernel) (by decide) ?_
      exact aw_ireturn B (by decide +kernel) rfl
def f_X10_of_b53 (M : Mem) (v1 : Int32) (v2 : Int32) (v3 : Int32) : Option Int32 := f_X10_of_b54 M v1 v2 v3 (0 : Int32)
set_option maxRecDepth 100000 in
set_option maxHeartbeats 4000000 in
theorem w_X10_of_b53 {G : GW} {E : EE} (hG : ab_ok G) (M : Mem) (B : Bx G E RX10 cX10_of 5 3 (some .int)) (v1 : Int32) (v2 : Int32) (v3 : Int32) : AWo G E cX10_of 5 (ab_Q G E (embRI M)) 53 [(0, .ref 0), (1, .int v1), (2, .int v2), (3, .int v3)] [] M (f_X10_of_b53 M v1 v2 v3) := by
  unfold f_X10_of_b53
  refine aw_iconst (n := 0) (v := (0 : Int32)) B (by decide +kernel) (by decide) ?_
  exact w_X10_of_b54 hG M B _ _ _ _
def f_X10_of_b25 (M : Mem) (v1 : Int32) (v2 : Int32) (s0 : Int32) : Option Int32 := (if v2 < (10 : Int32) then f_X10_of_b53 M v1 v2 s0 else (if (12 : Int32) < v2 then f_X10_of_b53 M v1 v2 s0 else (f_X4_hasMatch v1 M).bind fun x1 => (if x1 = 0 then f_X10_of_b53 M v1 v2 s0 else f_X10_of_b54 M v1 v2 s0 (1 : Int32))))
set_option maxRecDepth 100000 in
set_option maxHeartbeats 4000000 in
theorem w_X10_of_b25 {G : GW} {E : EE} (hG : ab_ok G) (M : Mem) (B : Bx G E RX10 cX10_of 5 3 (some .int)) (v1 : Int32) (v2 : Int32) (s0 : Int32) : AWo G E cX10_of 5 (ab_Q G E (embRI M)) 25 [(0, .ref 0), (1, .int v1), (2, .int v2)] [.int s0] M (f_X10_of_b25 M v1 v2 s0) := by
  unfold f_X10_of_b25
  refine aw_istore_n (k0 := 3) B [(3, .int s0), (0, .ref 0), (1, .int v1), (2, .int v2)] (by decide +kernel) rfl (Nat.le_of_ble_eq_true rfl) rfl ?_
  refine aw_iload_n (k0 := 2) B 3 (by decide +kernel) rfl rfl ?_
  refine aw_bipush (n := 10) (v := (10 : Int32)) B (by decide +kernel) (by decide) ?_
  refine aw_icmp_lt (off := 24) B 53 (by decide +kernel) (by decide) (fun _ => ?_) (fun _ => ?_)
  · exact aw_sub [1, 2, 3, 0] rfl (w_X10_of_b53 hG M B _ _ _)
  · refine aw_iload_n (k0 := 2) B 3 (by decide +kernel) rfl rfl ?_
    refine aw_bipush (n := 12) (v := (12 : Int32)) B (by decide +kernel) (by decide) ?_
    refine aw_icmp_gt (off := 18) B 53 (by decide +kernel) (by decide) (fun _ => ?_) (fun _ => ?_)
    · exact aw_sub [1, 2, 3, 0] rfl (w_X10_of_b53 hG M B _ _ _)
    · refine aw_aload_n (k0 := 0) B 1 (by decide +kernel) rfl rfl ?_
      refine aw_getr (c := 0) B lkX10_10 (by decide +kernel) rfl (r := 1) rfl ?_
      refine aw_iload_n (k0 := 1) B 2 (by decide +kernel) rfl rfl ?_
      refine aw_cVR B (c_X4_hasMatch (eLa E) hG v1 M) cvX10_138 rfl rfl (Nat.le_of_ble_eq_true rfl) rfl (Nat.le_of_ble_eq_true rfl) (by decide +kernel) rfl (fun x1 => ?_)
      refine aw_if_eq (off := 7) B 53 (by decide +kernel) (by decide) (fun _ => ?_) (fun _ => ?_)
      · exact aw_sub [1, 2, 3, 0] rfl (w_X10_of_b53 hG M B _ _ _)
      · refine aw_iconst (n := 1) (v := (1 : Int32)) B (by decide +kernel) (by decide) ?_
        refine aw_goto (off := 4) B 54 (by decide +kernel) (by decide) ?_
        exact aw_sub [1, 2, 3, 0] rfl (w_X10_of_b54 hG M B _ _ _ _)
def f_X10_of_b24 (M : Mem) (v1 : Int32) (v2 : Int32) : Option Int32 := f_X10_of_b25 M v1 v2 (0 : Int32)
set_option maxRecDepth 100000 in
set_option maxHeartbeats 4000000 in
theorem w_X10_of_b24 {G : GW} {E : EE} (hG : ab_ok G) (M : Mem) (B : Bx G E RX10 cX10_of 5 3 (some .int)) (v1 : Int32) (v2 : Int32) : AWo G E cX10_of 5 (ab_Q G E (embRI M)) 24 [(0, .ref 0), (1, .int v1), (2, .int v2)] [] M (f_X10_of_b24 M v1 v2) := by
  unfold f_X10_of_b24
  refine aw_iconst (n := 0) (v := (0 : Int32)) B (by decide +kernel) (by decide) ?_
  exact w_X10_of_b25 hG M B _ _ _
def f_X10_of (v1 : Int32) (v2 : Int32) (M : Mem) : Option Int32 := (if v2 < 0 then f_X10_of_b24 M v1 v2 else (if (3 : Int32) < v2 then f_X10_of_b24 M v1 v2 else (f_X4_hasPlayer v1 M).bind fun x1 => (if x1 = 0 then f_X10_of_b24 M v1 v2 else f_X10_of_b25 M v1 v2 (1 : Int32))))
set_option maxRecDepth 100000 in
set_option maxHeartbeats 4000000 in
theorem w_X10_of {G : GW} {E : EE} (hG : ab_ok G) (B : Bx G E RX10 cX10_of 5 3 (some .int)) (v1 : Int32) (v2 : Int32) (M : Mem) : AWo G E cX10_of 5 (ab_Q G E (embRI M)) 0 [(0, .ref 0), (1, .int v1), (2, .int v2)] [] M (f_X10_of v1 v2 M) := by
  unfold f_X10_of
  refine aw_iload_n (k0 := 2) B 2 (by decide +kernel) rfl rfl ?_
  refine aw_if_lt (off := 23) B 24 (by decide +kernel) (by decide) (fun _ => ?_) (fun _ => ?_)
  · exact w_X10_of_b24 hG M B _ _
  · refine aw_iload_n (k0 := 2) B 2 (by decide +kernel) rfl rfl ?_
    refine aw_iconst (n := 3) (v := (3 : Int32)) B (by decide +kernel) (by decide) ?_
    refine aw_icmp_gt (off := 18) B 24 (by decide +kernel) (by decide) (fun _ => ?_) (fun _ => ?_)
    · exact w_X10_of_b24 hG M B _ _
    · refine aw_aload_n (k0 := 0) B 0 (by decide +kernel) rfl rfl ?_
      refine aw_getr (c := 0) B lkX10_10 (by decide +kernel) rfl (r := 1) rfl ?_
      refine aw_iload_n (k0 := 1) B 1 (by decide +kernel) rfl rfl ?_
      refine aw_cVR B (c_X4_hasPlayer (eLa E) hG v1 M) cvX10_135 rfl rfl (Nat.le_of_ble_eq_true rfl) rfl (Nat.le_of_ble_eq_true rfl) (by decide +kernel) rfl (fun x1 => ?_)
      refine aw_if_eq (off := 7) B 24 (by decide +kernel) (by decide) (fun _ => ?_) (fun _ => ?_)
      · exact w_X10_of_b24 hG M B _ _
      · refine aw_iconst (n := 1) (v := (1 : Int32)) B (by decide +kernel) (by decide) ?_
        refine aw_goto (off := 4) B 25 (by decide +kernel) (by decide) ?_
        exact w_X10_of_b25 hG M B _ _ _
theorem c_X10_of (l : Launch) {G : GW} (hG : ab_ok G) (v1 : Int32) (v2 : Int32) (M : Mem) : AC l G yX10_of cX10_of 5 (some .int) 3 [.ref 0, .int v1, .int v2] M (embRI M) (f_X10_of v1 v2 M) := AC.of hG (by decide) (Nat.le_of_ble_eq_true rfl) (fun E hE B => by subst hE; exact w_X10_of hG B v1 v2 M)
def f_X11_counts (v1 : Int32) (M : Mem) : Option Int32 := ck (okI 48 ((8 : Int32) + v1)) ((if (M.1 48 ((8 : Int32) + v1).toNatClampNeg) = (1 : Int32) then (some (1 : Int32)) else (some (0 : Int32))))
set_option maxRecDepth 100000 in
set_option maxHeartbeats 4000000 in
theorem w_X11_counts {G : GW} {E : EE} (hG : ab_ok G) (B : Bx G E RX11 cX11_counts 2 2 (some .boolean)) (v1 : Int32) (M : Mem) : AWo G E cX11_counts 2 (ab_Q G E (embRI M)) 0 [(0, .ref 47), (1, .int v1)] [] M (f_X11_counts v1 M) := by
  unfold f_X11_counts
  refine aw_aload_n (k0 := 0) B 0 (by decide +kernel) rfl rfl ?_
  refine aw_getr (c := 47) B lkX11_9 (by decide +kernel) rfl (r := 48) rfl ?_
  refine aw_bipush (n := 8) (v := (8 : Int32)) B (by decide +kernel) (by decide) ?_
  refine aw_iload_n (k0 := 1) B 1 (by decide +kernel) rfl rfl ?_
  refine aw_iadd B (by decide +kernel) ?_
  refine aw_iaload B (by decide +kernel) ?_
  refine aw_iconst (n := 1) (v := (1 : Int32)) B (by decide +kernel) (by decide) ?_
  refine aw_icmp_ne (off := 7) B 17 (by decide +kernel) (by decide) (fun _ => ?_) (fun _ => ?_)
  · refine aw_iconst (n := 0) (v := (0 : Int32)) B (by decide +kernel) (by decide) ?_
    exact aw_zreturnK B (by decide +kernel) rfl (by decide)
  · refine aw_iconst (n := 1) (v := (1 : Int32)) B (by decide +kernel) (by decide) ?_
    refine aw_goto (off := 4) B 18 (by decide +kernel) (by decide) ?_
    exact aw_zreturnK B (by decide +kernel) rfl (by decide)
theorem c_X11_counts (l : Launch) {G : GW} (hG : ab_ok G) (v1 : Int32) (M : Mem) : AC l G yX11_counts cX11_counts 2 (some .boolean) 2 [.ref 47, .int v1] M (embRI M) (f_X11_counts v1 M) := AC.of hG (by decide) (Nat.le_of_ble_eq_true rfl) (fun E hE B => by subst hE; exact w_X11_counts hG B v1 M)
def f_X11_lostBy_b36 (k4 : Int32 → Int32 → Int32 → Option Int32) (M : Mem) (v1 : Int32) (v3 : Int32) (s0 : Int32) (s1 : Int32) : Option Int32 := lt (s1 + s0) fun x1 => k4 v1 x1 (v3 + 1)
set_option maxRecDepth 100000 in
set_option maxHeartbeats 4000000 in
theorem w_X11_lostBy_b36 {G : GW} {E : EE} (hG : ab_ok G) (M : Mem) {k4 : Int32 → Int32 → Int32 → Option Int32} (B : Bx G E RX11 cX11_lostBy 4 3 (some .int)) (hk4 : ∀ (v1 : Int32) (v2 : Int32) (v3 : Int32), AWo G E cX11_lostBy 4 (ab_Q G E (embRI M)) 4 [(0, .ref 47), (1, .int v1), (2, .int v2), (3, .int v3)] [] M (k4 v1 v2 v3)) (v1 : Int32) (v3 : Int32) (s0 : Int32) (s1 : Int32) : AWo G E cX11_lostBy 4 (ab_Q G E (embRI M)) 36 [(0, .ref 47), (1, .int v1), (3, .int v3)] [.int s0, .int s1] M (f_X11_lostBy_b36 k4 M v1 v3 s0 s1) := by
  unfold f_X11_lostBy_b36
  refine aw_iadd B (by decide +kernel) ?_
  refine aw_ltI (fun x1 => ?_)
  refine aw_istore_n (k0 := 2) B [(2, .int x1), (0, .ref 47), (1, .int v1), (3, .int v3)] (by decide +kernel) rfl (Nat.le_of_ble_eq_true rfl) rfl ?_
  refine aw_iinc (i := 3) (n := 1) B 3 [(3, .int (v3 + 1)), (2, .int x1), (0, .ref 47), (1, .int v1)] (by decide +kernel) rfl (Nat.le_of_ble_eq_true rfl) (v3 + 1) (ab_inc (by decide)) rfl ?_
  refine aw_goto (off := -37) B 4 (by decide +kernel) (by decide) ?_
  exact aw_sub [2, 3, 1, 0] rfl (hk4 _ _ _)
def f_X11_lostBy_b35 (k4 : Int32 → Int32 → Int32 → Option Int32) (M : Mem) (v1 : Int32) (v3 : Int32) (s0 : Int32) : Option Int32 := f_X11_lostBy_b36 k4 M v1 v3 (0 : Int32) s0
set_option maxRecDepth 100000 in
set_option maxHeartbeats 4000000 in
theorem w_X11_lostBy_b35 {G : GW} {E : EE} (hG : ab_ok G) (M : Mem) {k4 : Int32 → Int32 → Int32 → Option Int32} (B : Bx G E RX11 cX11_lostBy 4 3 (some .int)) (hk4 : ∀ (v1 : Int32) (v2 : Int32) (v3 : Int32), AWo G E cX11_lostBy 4 (ab_Q G E (embRI M)) 4 [(0, .ref 47), (1, .int v1), (2, .int v2), (3, .int v3)] [] M (k4 v1 v2 v3)) (v1 : Int32) (v3 : Int32) (s0 : Int32) : AWo G E cX11_lostBy 4 (ab_Q G E (embRI M)) 35 [(0, .ref 47), (1, .int v1), (3, .int v3)] [.int s0] M (f_X11_lostBy_b35 k4 M v1 v3 s0) := by
  unfold f_X11_lostBy_b35
  refine aw_iconst (n := 0) (v := (0 : Int32)) B (by decide +kernel) (by decide) ?_
  exact w_X11_lostBy_b36 hG M B hk4 _ _ _ _
def f_X11_lostBy_L4 (M : Mem) : Nat → Int32 → Int32 → Int32 → Option Int32
  | 0, _, _, _ => none
  | n + 1, v1, v2, v3 => (if (M.1 47 7) ≤ v3 then (some v2) else (f_X11_counts v3 M).bind fun x1 => (if x1 = 0 then f_X11_lostBy_b35 (fun a0 a1 a2 => f_X11_lostBy_L4 M n a0 a1 a2) M v1 v3 v2 else ck (okI 53 v3) ((if (M.1 53 v3.toNatClampNeg) = v1 then f_X11_lostBy_b36 (fun a0 a1 a2 => f_X11_lostBy_L4 M n a0 a1 a2) M v1 v3 (1 : Int32) v2 else f_X11_lostBy_b35 (fun a0 a1 a2 => f_X11_lostBy_L4 M n a0 a1 a2) M v1 v3 v2))))
set_option maxRecDepth 100000 in
set_option maxHeartbeats 4000000 in
theorem w_X11_lostBy_L4 {G : GW} {E : EE} (hG : ab_ok G) (M : Mem) (B : Bx G E RX11 cX11_lostBy 4 3 (some .int)) : ∀ (n : Nat) (v1 : Int32) (v2 : Int32) (v3 : Int32), AWo G E cX11_lostBy 4 (ab_Q G E (embRI M)) 4 [(0, .ref 47), (1, .int v1), (2, .int v2), (3, .int v3)] [] M (f_X11_lostBy_L4 M n v1 v2 v3) := by
  intro n
  induction n with
  | zero => intro _ _ _; exact aw_none
  | succ n ih =>
    intro v1 v2 v3
    rw [f_X11_lostBy_L4]
    refine aw_iload_n (k0 := 3) B 3 (by decide +kernel) rfl rfl ?_
    refine aw_aload_n (k0 := 0) B 0 (by decide +kernel) rfl rfl ?_
    refine aw_geti (c := 47) B lkX11_116 (by decide +kernel) rfl ?_
    refine aw_icmp_ge (off := 35) B 44 (by decide +kernel) (by decide) (fun _ => ?_) (fun _ => ?_)
    · refine aw_iload_n (k0 := 2) B 2 (by decide +kernel) rfl rfl ?_
      exact aw_ireturn B (by decide +kernel) rfl
    · refine aw_iload_n (k0 := 2) B 2 (by decide +kernel) rfl rfl ?_
      refine aw_aload_n (k0 := 0) B 0 (by decide +kernel) rfl rfl ?_
      refine aw_iload_n (k0 := 3) B 3 (by decide +kernel) rfl rfl ?_
      refine aw_cVR B (c_X11_counts (eLa E) hG v3 M) cvX11_145 rfl rfl (Nat.le_of_ble_eq_true rfl) rfl (Nat.le_of_ble_eq_true rfl) (by decide +kernel) rfl (fun x1 => ?_)
      refine aw_if_eq (off := 17) B 35 (by decide +kernel) (by decide) (fun _ => ?_) (fun _ => ?_)
      · exact aw_sub [0, 1, 3] rfl (w_X11_lostBy_b35 hG M B ih _ _ _)
      · refine aw_aload_n (k0 := 0) B 0 (by decide +kernel) rfl rfl ?_
        refine aw_getr (c := 47) B lkX11_25 (by decide +kernel) rfl (r := 53) rfl ?_
        refine aw_iload_n (k0 := 3) B 3 (by decide +kernel) rfl rfl ?_
        refine aw_iaload B (by decide +kernel) ?_
        refine aw_iload_n (k0 := 1) B 1 (by decide +kernel) rfl rfl ?_
        refine aw_icmp_ne (off := 7) B 35 (by decide +kernel) (by decide) (fun _ => ?_) (fun _ => ?_)
        · exact aw_sub [0, 1, 3] rfl (w_X11_lostBy_b35 hG M B ih _ _ _)
        · refine aw_iconst (n := 1) (v := (1 : Int32)) B (by decide +kernel) (by decide) ?_
          refine aw_goto (off := 4) B 36 (by decide +kernel) (by decide) ?_
          exact aw_sub [0, 1, 3] rfl (w_X11_lostBy_b36 hG M B ih _ _ _ _)
def f_X11_lostBy (v1 : Int32) (M : Mem) : Option Int32 := f_X11_lostBy_L4 M FU v1 (0 : Int32) (0 : Int32)
set_option maxRecDepth 100000 in
set_option maxHeartbeats 4000000 in
theorem w_X11_lostBy {G : GW} {E : EE} (hG : ab_ok G) (B : Bx G E RX11 cX11_lostBy 4 3 (some .int)) (v1 : Int32) (M : Mem) : AWo G E cX11_lostBy 4 (ab_Q G E (embRI M)) 0 [(0, .ref 47), (1, .int v1)] [] M (f_X11_lostBy v1 M) := by
  unfold f_X11_lostBy
  refine aw_iconst (n := 0) (v := (0 : Int32)) B (by decide +kernel) (by decide) ?_
  refine aw_istore_n (k0 := 2) B [(2, .int (0 : Int32)), (0, .ref 47), (1, .int v1)] (by decide +kernel) rfl (Nat.le_of_ble_eq_true rfl) rfl ?_
  refine aw_iconst (n := 0) (v := (0 : Int32)) B (by decide +kernel) (by decide) ?_
  refine aw_istore_n (k0 := 3) B [(3, .int (0 : Int32)), (2, .int (0 : Int32)), (0, .ref 47), (1, .int v1)] (by decide +kernel) rfl (Nat.le_of_ble_eq_true rfl) rfl ?_
  exact aw_sub [2, 3, 1, 0] rfl (w_X11_lostBy_L4 hG M B FU _ _ _)
theorem c_X11_lostBy (l : Launch) {G : GW} (hG : ab_ok G) (v1 : Int32) (M : Mem) : AC l G yX11_lostBy cX11_lostBy 4 (some .int) 3 [.ref 47, .int v1] M (embRI M) (f_X11_lostBy v1 M) := AC.of hG (by decide) (Nat.le_of_ble_eq_true rfl) (fun E hE B => by subst hE; exact w_X11_lostBy hG B v1 M)
def f_X11_wonBy_b36 (k4 : Int32 → Int32 → Int32 → Option Int32) (M : Mem) (v1 : Int32) (v3 : Int32) (s0 : Int32) (s1 : Int32) : Option Int32 := lt (s1 + s0) fun x1 => k4 v1 x1 (v3 + 1)
set_option maxRecDepth 100000 in
set_option maxHeartbeats 4000000 in
theorem w_X11_wonBy_b36 {G : GW} {E : EE} (hG : ab_ok G) (M : Mem) {k4 : Int32 → Int32 → Int32 → Option Int32} (B : Bx G E RX11 cX11_wonBy 4 3 (some .int)) (hk4 : ∀ (v1 : Int32) (v2 : Int32) (v3 : Int32), AWo G E cX11_wonBy 4 (ab_Q G E (embRI M)) 4 [(0, .ref 47), (1, .int v1), (2, .int v2), (3, .int v3)] [] M (k4 v1 v2 v3)) (v1 : Int32) (v3 : Int32) (s0 : Int32) (s1 : Int32) : AWo G E cX11_wonBy 4 (ab_Q G E (embRI M)) 36 [(0, .ref 47), (1, .int v1), (3, .int v3)] [.int s0, .int s1] M (f_X11_wonBy_b36 k4 M v1 v3 s0 s1) := by
  unfold f_X11_wonBy_b36
  refine aw_iadd B (by decide +kernel) ?_
  refine aw_ltI (fun x1 => ?_)
  refine aw_istore_n (k0 := 2) B [(2, .int x1), (0, .ref 47), (1, .int v1), (3, .int v3)] (by decide +kernel) rfl (Nat.le_of_ble_eq_true rfl) rfl ?_
  refine aw_iinc (i := 3) (n := 1) B 3 [(3, .int (v3 + 1)), (2, .int x1), (0, .ref 47), (1, .int v1)] (by decide +kernel) rfl (Nat.le_of_ble_eq_true rfl) (v3 + 1) (ab_inc (by decide)) rfl ?_
  refine aw_goto (off := -37) B 4 (by decide +kernel) (by decide) ?_
  exact aw_sub [2, 3, 1, 0] rfl (hk4 _ _ _)
def f_X11_wonBy_b35 (k4 : Int32 → Int32 → Int32 → Option Int32) (M : Mem) (v1 : Int32) (v3 : Int32) (s0 : Int32) : Option Int32 := f_X11_wonBy_b36 k4 M v1 v3 (0 : Int32) s0
set_option maxRecDepth 100000 in
set_option maxHeartbeats 4000000 in
theorem w_X11_wonBy_b35 {G : GW} {E : EE} (hG : ab_ok G) (M : Mem) {k4 : Int32 → Int32 → Int32 → Option Int32} (B : Bx G E RX11 cX11_wonBy 4 3 (some .int)) (hk4 : ∀ (v1 : Int32) (v2 : Int32) (v3 : Int32), AWo G E cX11_wonBy 4 (ab_Q G E (embRI M)) 4 [(0, .ref 47), (1, .int v1), (2, .int v2), (3, .int v3)] [] M (k4 v1 v2 v3)) (v1 : Int32) (v3 : Int32) (s0 : Int32) : AWo G E cX11_wonBy 4 (ab_Q G E (embRI M)) 35 [(0, .ref 47), (1, .int v1), (3, .int v3)] [.int s0] M (f_X11_wonBy_b35 k4 M v1 v3 s0) := by
  unfold f_X11_wonBy_b35
  refine aw_iconst (n := 0) (v := (0 : Int32)) B (by decide +kernel) (by decide) ?_
  exact w_X11_wonBy_b36 hG M B hk4 _ _ _ _
def f_X11_wonBy_L4 (M : Mem) : Nat → Int32 → Int32 → Int32 → Option Int32
  | 0, _, _, _ => none
  | n + 1, v1, v2, v3 => (if (M.1 47 7) ≤ v3 then (some v2) else (f_X11_counts v3 M).bind fun x1 => (if x1 = 0 then f_X11_wonBy_b35 (fun a0 a1 a2 => f_X11_wonBy_L4 M n a0 a1 a2) M v1 v3 v2 else ck (okI 52 v3) ((if (M.1 52 v3.toNatClampNeg) = v1 then f_X11_wonBy_b36 (fun a0 a1 a2 => f_X11_wonBy_L4 M n a0 a1 a2) M v1 v3 (1 : Int32) v2 else f_X11_wonBy_b35 (fun a0 a1 a2 => f_X11_wonBy_L4 M n a0 a1 a2) M v1 v3 v2))))
set_option maxRecDepth 100000 in
set_option maxHeartbeats 4000000 in
theorem w_X11_wonBy_L4 {G : GW} {E : EE} (hG : ab_ok G) (M : Mem) (B : Bx G E RX11 cX11_wonBy 4 3 (some .int)) : ∀ (n : Nat) (v1 : Int32) (v2 : Int32) (v3 : Int32), AWo G E cX11_wonBy 4 (ab_Q G E (embRI M)) 4 [(0, .ref 47), (1, .int v1), (2, .int v2), (3, .int v3)] [] M (f_X11_wonBy_L4 M n v1 v2 v3) := by
  intro n
  induction n with
  | zero => intro _ _ _; exact aw_none
  | succ n ih =>
    intro v1 v2 v3
    rw [f_X11_wonBy_L4]
    refine aw_iload_n (k0 := 3) B 3 (by decide +kernel) rfl rfl ?_
    refine aw_aload_n (k0 := 0) B 0 (by decide +kernel) rfl rfl ?_
    refine aw_geti (c := 47) B lkX11_116 (by decide +kernel) rfl ?_
    refine aw_icmp_ge (off := 35) B 44 (by decide +kernel) (by decide) (fun _ => ?_) (fun _ => ?_)
    · refine aw_iload_n (k0 := 2) B 2 (by decide +kernel) rfl rfl ?_
      exact aw_ireturn B (by decide +kernel) rfl
    · refine aw_iload_n (k0 := 2) B 2 (by decide +kernel) rfl rfl ?_
      refine aw_aload_n (k0 := 0) B 0 (by decide +kernel) rfl rfl ?_
      refine aw_iload_n (k0 := 3) B 3 (by decide +kernel) rfl rfl ?_
      refine aw_cVR B (c_X11_counts (eLa E) hG v3 M) cvX11_145 rfl rfl (Nat.le_of_ble_eq_true rfl) rfl (Nat.le_of_ble_eq_true rfl) (by decide +kernel) rfl (fun x1 => ?_)
      refine aw_if_eq (off := 17) B 35 (by decide +kernel) (by decide) (fun _ => ?_) (fun _ => ?_)
      · exact aw_sub [0, 1, 3] rfl (w_X11_wonBy_b35 hG M B ih _ _ _)
      · refine aw_aload_n (k0 := 0) B 0 (by decide +kernel) rfl rfl ?_
        refine aw_getr (c := 47) B lkX11_22 (by decide +kernel) rfl (r := 52) rfl ?_
        refine aw_iload_n (k0 := 3) B 3 (by decide +kernel) rfl rfl ?_
        refine aw_iaload B (by decide +kernel) ?_
        refine aw_iload_n (k0 := 1) B 1 (by decide +kernel) rfl rfl ?_
        refine aw_icmp_ne (off := 7) B 35 (by decide +kernel) (by decide) (fun _ => ?_) (fun _ => ?_)
        · exact aw_sub [0, 1, 3] rfl (w_X11_wonBy_b35 hG M B ih _ _ _)
        · refine aw_iconst (n := 1) (v := (1 : Int32)) B (by decide +kernel) (by decide) ?_
          refine aw_goto (off := 4) B 36 (by decide +kernel) (by decide) ?_
          exact aw_sub [0, 1, 3] rfl (w_X11_wonBy_b36 hG M B ih _ _ _ _)
def f_X11_wonBy (v1 : Int32) (M : Mem) : Option Int32 := f_X11_wonBy_L4 M FU v1 (0 : Int32) (0 : Int32)
set_option maxRecDepth 100000 in
set_option maxHeartbeats 4000000 in
theorem w_X11_wonBy {G : GW} {E : EE} (hG : ab_ok G) (B : Bx G E RX11 cX11_wonBy 4 3 (some .int)) (v1 : Int32) (M : Mem) : AWo G E cX11_wonBy 4 (ab_Q G E (embRI M)) 0 [(0, .ref 47), (1, .int v1)] [] M (f_X11_wonBy v1 M) := by
  unfold f_X11_wonBy
  refine aw_iconst (n := 0) (v := (0 : Int32)) B (by decide +kernel) (by decide) ?_
  refine aw_istore_n (k0 := 2) B [(2, .int (0 : Int32)), (0, .ref 47), (1, .int v1)] (by decide +kernel) rfl (Nat.le_of_ble_eq_true rfl) rfl ?_
  refine aw_iconst (n := 0) (v := (0 : Int32)) B (by decide +kernel) (by decide) ?_
  refine aw_istore_n (k0 := 3) B [(3, .int (0 : Int32)), (2, .int (0 : Int32)), (0, .ref 47), (1, .int v1)] (by decide +kernel) rfl (Nat.le_of_ble_eq_true rfl) rfl ?_
  exact aw_sub [2, 3, 1, 0] rfl (w_X11_wonBy_L4 hG M B FU _ _ _)
theorem c_X11_wonBy (l : Launch) {G : GW} (hG : ab_ok G) (v1 : Int32) (M : Mem) : AC l G yX11_wonBy cX11_wonBy 4 (some .int) 3 [.ref 47, .int v1] M (embRI M) (f_X11_wonBy v1 M) := AC.of hG (by decide) (Nat.le_of_ble_eq_true rfl) (fun E hE B => by subst hE; exact w_X11_wonBy hG B v1 M)
def f_X11_of (v1 : Int32) (v2 : Int32) (M : Mem) : Option Int32 := (f_X11_within v2.toInt64 (0 : Int64) (3 : Int64)).bind fun x1 => (if x1 = 0 then (f_X11_within v2.toInt64 (10 : Int64) (12 : Int64)).bind fun x3 => (if x3 = 0 then (some (-1 : Int32)) else (f_X11_isMatch v1 M).bind fun x5 => (if x5 = 0 then (some (-1 : Int32)) else (if v2 = (10 : Int32) then ck (okI 52 v1) ((some (M.1 52 v1.toNatClampNeg))) else (if v2 = (11 : Int32) then ck (okI 53 v1) ((some (M.1 53 v1.toNatClampNeg))) else ck (okI 48 ((8 : Int32) + v1)) ((some (M.1 48 ((8 : Int32) + v1).toNatClampNeg))))))) else (f_X11_isPlayer v1 M).bind fun x7 => (if x7 = 0 then (some (-1 : Int32)) else (if v2 = 0 then ck (okI 48 v1) ((some (M.1 48 v1.toNatClampNeg))) else (if v2 = (2 : Int32) then (f_X11_lostBy v1 M).bind fun x11 => (some x11) else (f_X11_wonBy v1 M).bind fun x9 => (some x9)))))
set_option maxRecDepth 100000 in
set_option maxHeartbeats 4000000 in
theorem w_X11_of {G : GW} {E : EE} (hG : ab_ok G) (B : Bx G E RX11 cX11_of 3 4 (some .int)) (v1 : Int32) (v2 : Int32) (M : Mem) : AWo G E cX11_of 3 (ab_Q G E (embRI M)) 0 [(0, .ref 47), (1, .int v1), (2, .int v2)] [] M (f_X11_of v1 v2 M) := by
  unfold f_X11_of
  refine aw_iload_n (k0 := 2) B 2 (by decide +kernel) rfl rfl ?_
  refine aw_i2l B (by decide +kernel) ?_
  refine aw_lconst (n := 0) (v := (0 : Int64)) B (by decide +kernel) (by decide) ?_
  refine aw_ldc2 B (by decide +kernel) lwX11_148 ?_
  refine aw_cSR B (c_X11_within (eLa E) hG v2.toInt64 (0 : Int64) (3 : Int64) M) csX11_112 (Nat.le_of_ble_eq_true rfl) rfl (Nat.le_of_ble_eq_true rfl) (by decide +kernel) rfl (fun x1 => ?_)
  refine aw_if_eq (off := 47) B 56 (by decide +kernel) (by decide) (fun _ => ?_) (fun _ => ?_)
  · refine aw_iload_n (k0 := 2) B 2 (by decide +kernel) rfl rfl ?_
    refine aw_i2l B (by decide +kernel) ?_
    refine aw_ldc2 B (by decide +kernel) lwX11_157 ?_
    refine aw_ldc2 B (by decide +kernel) lwX11_133 ?_
    refine aw_cSR B (c_X11_within (eLa E) hG v2.toInt64 (10 : Int64) (12 : Int64) M) csX11_112 (Nat.le_of_ble_eq_true rfl) rfl (Nat.le_of_ble_eq_true rfl) (by decide +kernel) rfl (fun x3 => ?_)
    refine aw_if_eq (off := 11) B 78 (by decide +kernel) (by decide) (fun _ => ?_) (fun _ => ?_)
    · refine aw_iconst (n := -1) (v := (-1 : Int32)) B (by decide +kernel) (by decide) ?_
      exact aw_ireturn B (by decide +kernel) rfl
    · refine aw_aload_n (k0 := 0) B 0 (by decide +kernel) rfl rfl ?_
      refine aw_iload_n (k0 := 1) B 1 (by decide +kernel) rfl rfl ?_
      refine aw_cVR B (c_X11_isMatch (eLa E) hG v1 M) cvX11_142 rfl rfl (Nat.le_of_ble_eq_true rfl) rfl (Nat.le_of_ble_eq_true rfl) (by decide +kernel) rfl (fun x5 => ?_)
      refine aw_if_ne (off := 5) B 80 (by decide +kernel) (by decide) (fun _ => ?_) (fun _ => ?_)
      · refine aw_iload_n (k0 := 2) B 2 (by decide +kernel) rfl rfl ?_
        refine aw_bipush (n := 10) (v := (10 : Int32)) B (by decide +kernel) (by decide) ?_
        refine aw_icmp_ne (off := 12) B 95 (by decide +kernel) (by decide) (fun _ => ?_) (fun _ => ?_)
        · refine aw_iload_n (k0 := 2) B 2 (by decide +kernel) rfl rfl ?_
          refine aw_bipush (n := 11) (v := (11 : Int32)) B (by decide +kernel) (by decide) ?_
          refine aw_icmp_ne (off := 12) B 110 (by decide +kernel) (by decide) (fun _ => ?_) (fun _ => ?_)
          · refine aw_aload_n (k0 := 0) B 0 (by decide +kernel) rfl rfl ?_
            refine aw_getr (c := 47) B lkX11_9 (by decide +kernel) rfl (r := 48) rfl ?_
            refine aw_bipush (n := 8) (v := (8 : Int32)) B (by decide +kernel) (by decide) ?_
            refine aw_iload_n (k0 := 1) B 1 (by decide +kernel) rfl rfl ?_
            refine aw_iadd B (by decide +kernel) ?_
            refine aw_iaload B (by decide +kernel) ?_
            exact aw_ireturn B (by decide +kernel) rfl
          · refine aw_aload_n (k0 := 0) B 0 (by decide +kernel) rfl rfl ?_
            refine aw_getr (c := 47) B lkX11_25 (by decide +kernel) rfl (r := 53) rfl ?_
            refine aw_iload_n (k0 := 1) B 1 (by decide +kernel) rfl rfl ?_
            refine aw_iaload B (by decide +kernel) ?_
            refine aw_goto (off := 12) B 119 (by decide +kernel) (by decide) ?_
            exact aw_ireturn B (by decide +kernel) rfl
        · refine aw_aload_n (k0 := 0) B 0 (by decide +kernel) rfl rfl ?_
          refine aw_getr (c := 47) B lkX11_22 (by decide +kernel) rfl (r := 52) rfl ?_
          refine aw_iload_n (k0 := 1) B 1 (by decide +kernel) rfl rfl ?_
          refine aw_iaload B (by decide +kernel) ?_
          refine aw_goto (off := 27) B 119 (by decide +kernel) (by decide) ?_
          exact aw_ireturn B (by decide +kernel) rfl
      · refine aw_iconst (n := -1) (v := (-1 : Int32)) B (by decide +kernel) (by decide) ?_
        exact aw_ireturn B (by decide +kernel) rfl
  · refine aw_aload_n (k0 := 0) B 0 (by decide +kernel) rfl rfl ?_
    refine aw_iload_n (k0 := 1) B 1 (by decide +kernel) rfl rfl ?_
    refine aw_cVR B (c_X11_isPlayer (eLa E) hG v1 M) cvX11_135 rfl rfl (Nat.le_of_ble_eq_true rfl) rfl (Nat.le_of_ble_eq_true rfl) (by decide +kernel) rfl (fun x7 => ?_)
    refine aw_if_ne (off := 7) B 24 (by decide +kernel) (by decide) (fun _ => ?_) (fun _ => ?_)
    · refine aw_iload_n (k0 := 2) B 2 (by decide +kernel) rfl rfl ?_
      refine aw_if_ne (off := 12) B 37 (by decide +kernel) (by decide) (fun _ => ?_) (fun _ => ?_)
      · refine aw_iload_n (k0 := 2) B 2 (by decide +kernel) rfl rfl ?_
        refine aw_iconst (n := 2) (v := (2 : Int32)) B (by decide +kernel) (by decide) ?_
        refine aw_icmp_ne (off := 11) B 50 (by decide +kernel) (by decide) (fun _ => ?_) (fun _ => ?_)
        · refine aw_aload_n (k0 := 0) B 0 (by decide +kernel) rfl rfl ?_
          refine aw_iload_n (k0 := 1) B 1 (by decide +kernel) rfl rfl ?_
          refine aw_cVR B (c_X11_wonBy (eLa E) hG v1 M) cvX11_154 rfl rfl (Nat.le_of_ble_eq_true rfl) rfl (Nat.le_of_ble_eq_true rfl) (by decide +kernel) rfl (fun x9 => ?_)
          exact aw_ireturn B (by decide +kernel) rfl
        · refine aw_aload_n (k0 := 0) B 0 (by decide +kernel) rfl rfl ?_
          refine aw_iload_n (k0 := 1) B 1 (by decide +kernel) rfl rfl ?_
          refine aw_cVR B (c_X11_lostBy (eLa E) hG v1 M) cvX11_150 rfl rfl (Nat.le_of_ble_eq_true rfl) rfl (Nat.le_of_ble_eq_true rfl) (by decide +kernel) rfl (fun x11 => ?_)
          refine aw_goto (off := 8) B 55 (by decide +kernel) (by decide) ?_
          exact aw_ireturn B (by decide +kernel) rfl
      · refine aw_aload_n (k0 := 0) B 0 (by decide +kernel) rfl rfl ?_
        refine aw_getr (c := 47) B lkX11_9 (by decide +kernel) rfl (r := 48) rfl ?_
        refine aw_iload_n (k0 := 1) B 1 (by decide +kernel) rfl rfl ?_
        refine aw_iaload B (by decide +kernel) ?_
        refine aw_goto (off := 21) B 55 (by decide +kernel) (by decide) ?_
        exact aw_ireturn B (by decide +kernel) rfl
    · refine aw_iconst (n := -1) (v := (-1 : Int32)) B (by decide +kernel) (by decide) ?_
      refine aw_goto (off := 34) B 55 (by decide +kernel) (by decide) ?_
      exact aw_ireturn B (by decide +kernel) rfl
theorem c_X11_of (l : Launch) {G : GW} (hG : ab_ok G) (v1 : Int32) (v2 : Int32) (M : Mem) : AC l G yX11_of cX11_of 3 (some .int) 4 [.ref 47, .int v1, .int v2] M (embRI M) (f_X11_of v1 v2 M) := AC.of hG (by decide) (Nat.le_of_ble_eq_true rfl) (fun E hE B => by subst hE; exact w_X11_of hG B v1 v2 M)
def f_X5_hear (v1 : Int32) (M : Mem) : Option (Int32 × Mem) := (if (M.1 22 0) < (120 : Int32) then ck (okI 23 (M.1 22 0)) (lt (wI M 23 (M.1 22 0).toNatClampNeg v1) fun M1 => lt (wI M1 22 0 ((M1.1 22 0) + (1 : Int32))) fun M2 => (some (M2.1 22 0, M2))) else (some ((-3 : Int32), M)))
set_option maxRecDepth 100000 in
set_option maxHeartbeats 4000000 in
theorem w_X5_hear {G : GW} {E : EE} (hG : ab_ok G) (B : Bx G E RX5 cX5_hear 2 2 (some .int)) (v1 : Int32) (M : Mem) : AWo G E cX5_hear 2 (ab_Q G E embI) 0 [(0, .ref 22), (1, .int v1)] [] M (f_X5_hear v1 M) := by
  unfold f_X5_hear
  refine aw_aload_n (k0 := 0) B 0 (by decide +kernel) rfl rfl ?_
  refine aw_geti (c := 22) B lkX5_27 (by decide +kernel) rfl ?_
  refine aw_bipush (n := 120) (v := (120 : Int32)) B (by decide +kernel) (by decide) ?_
  refine aw_icmp_lt (off := 6) B 12 (by decide +kernel) (by decide) (fun _ => ?_) (fun _ => ?_)
  · refine aw_aload_n (k0 := 0) B 0 (by decide +kernel) rfl rfl ?_
    refine aw_getr (c := 22) B lkX5_11 (by decide +kernel) rfl (r := 23) rfl ?_
    refine aw_aload_n (k0 := 0) B 0 (by decide +kernel) rfl rfl ?_
    refine aw_geti (c := 22) B lkX5_27 (by decide +kernel) rfl ?_
    refine aw_iload_n (k0 := 1) B 1 (by decide +kernel) rfl rfl ?_
    refine aw_iastore B (by decide +kernel) (fun M1 => ?_)
    refine aw_aload_n (k0 := 0) B 0 (by decide +kernel) rfl rfl ?_
    refine aw_dup B (by decide +kernel) rfl ?_
    refine aw_geti (c := 22) B lkX5_27 (by decide +kernel) rfl ?_
    refine aw_iconst (n := 1) (v := (1 : Int32)) B (by decide +kernel) (by decide) ?_
    refine aw_iadd B (by decide +kernel) ?_
    refine aw_puti (c := 22) B lkX5_27 lp5_0 (by decide +kernel) rfl (fun M2 => ?_)
    refine aw_aload_n (k0 := 0) B 0 (by decide +kernel) rfl rfl ?_
    refine aw_geti (c := 22) B lkX5_27 (by decide +kernel) rfl ?_
    exact aw_ireturn B (by decide +kernel) rfl
  · refine aw_bipush (n := -3) (v := (-3 : Int32)) B (by decide +kernel) (by decide) ?_
    exact aw_ireturn B (by decide +kernel) rfl
theorem c_X5_hear (l : Launch) {G : GW} (hG : ab_ok G) (v1 : Int32) (M : Mem) : AC l G yX5_hear cX5_hear 2 (some .int) 2 [.ref 22, .int v1] M embI (f_X5_hear v1 M) := AC.of hG (by decide) (Nat.le_of_ble_eq_true rfl) (fun E hE B => by subst hE; exact w_X5_hear hG B v1 M)
def f_X10_feed (v1 : Int32) (M : Mem) : Option (Int32 × Mem) := (if v1 < 0 then (some ((-1 : Int32), M)) else (if v1 ≤ (255 : Int32) then bI (f_X5_hear v1 M) fun x1 M2 => (some (x1, M2)) else (some ((-1 : Int32), M))))
set_option maxRecDepth 100000 in
set_option maxHeartbeats 4000000 in
theorem w_X10_feed {G : GW} {E : EE} (hG : ab_ok G) (B : Bx G E RX10 cX10_feed 2 3 (some .int)) (v1 : Int32) (M : Mem) : AWo G E cX10_feed 2 (ab_Q G E embI) 0 [(0, .ref 0), (1, .int v1)] [] M (f_X10_feed v1 M) := by
  unfold f_X10_feed
  refine aw_iload_n (k0 := 1) B 1 (by decide +kernel) rfl rfl ?_
  refine aw_if_lt (off := 10) B 11 (by decide +kernel) (by decide) (fun _ => ?_) (fun _ => ?_)
  · refine aw_iconst (n := -1) (v := (-1 : Int32)) B (by decide +kernel) (by decide) ?_
    exact aw_ireturn B (by decide +kernel) rfl
  · refine aw_iload_n (k0 := 1) B 1 (by decide +kernel) rfl rfl ?_
    refine aw_sipush (n := 255) (v := (255 : Int32)) B (by decide +kernel) (by decide) ?_
    refine aw_icmp_le (off := 5) B 13 (by decide +kernel) (by decide) (fun _ => ?_) (fun _ => ?_)
    · refine aw_aload_n (k0 := 0) B 0 (by decide +kernel) rfl rfl ?_
      refine aw_getr (c := 0) B lkX10_47 (by decide +kernel) rfl (r := 22) rfl ?_
      refine aw_iload_n (k0 := 1) B 1 (by decide +kernel) rfl rfl ?_
      refine aw_cVI B (c_X5_hear (eLa E) hG v1 M) cvX10_160 rfl rfl (Nat.le_of_ble_eq_true rfl) rfl (Nat.le_of_ble_eq_true rfl) (by decide +kernel) rfl (fun x1 M2 => ?_)
      exact aw_ireturn B (by decide +kernel) rfl
    · refine aw_iconst (n := -1) (v := (-1 : Int32)) B (by decide +kernel) (by decide) ?_
      exact aw_ireturn B (by decide +kernel) rfl
theorem c_X10_feed (l : Launch) {G : GW} (hG : ab_ok G) (v1 : Int32) (M : Mem) : AC l G yX10_feed cX10_feed 2 (some .int) 3 [.ref 0, .int v1] M embI (f_X10_feed v1 M) := AC.of hG (by decide) (Nat.le_of_ble_eq_true rfl) (fun E hE B => by subst hE; exact w_X10_feed hG B v1 M)
def f_X11_feed (v1 : Int32) (M : Mem) : Option (Int32 × Mem) := (f_X11_within v1.toInt64 (0 : Int64) (255 : Int64)).bind fun x1 => (if x1 = 0 then (some ((-1 : Int32), M)) else (if (M.1 47 11) = (120 : Int32) then (some ((-3 : Int32), M)) else ck (okI 54 (M.1 47 11)) (lt (wI M 54 (M.1 47 11).toNatClampNeg v1) fun M3 => lt (wI M3 47 11 ((M3.1 47 11) + (1 : Int32))) fun M4 => (some (M4.1 47 11, M4)))))
set_option maxRecDepth 100000 in
set_option maxHeartbeats 4000000 in
theorem w_X11_feed {G : GW} {E : EE} (hG : ab_ok G) (B : Bx G E RX11 cX11_feed 2 3 (some .int)) (v1 : Int32) (M : Mem) : AWo G E cX11_feed 2 (ab_Q G E embI) 0 [(0, .ref 47), (1, .int v1)] [] M (f_X11_feed v1 M) := by
  unfold f_X11_feed
  refine aw_iload_n (k0 := 1) B 1 (by decide +kernel) rfl rfl ?_
  refine aw_i2l B (by decide +kernel) ?_
  refine aw_lconst (n := 0) (v := (0 : Int64)) B (by decide +kernel) (by decide) ?_
  refine aw_ldc2 B (by decide +kernel) lwX11_159 ?_
  refine aw_cSR B (c_X11_within (eLa E) hG v1.toInt64 (0 : Int64) (255 : Int64) M) csX11_112 (Nat.le_of_ble_eq_true rfl) rfl (Nat.le_of_ble_eq_true rfl) (by decide +kernel) rfl (fun x1 => ?_)
  refine aw_if_ne (off := 5) B 14 (by decide +kernel) (by decide) (fun _ => ?_) (fun _ => ?_)
  · refine aw_aload_n (k0 := 0) B 0 (by decide +kernel) rfl rfl ?_
    refine aw_geti (c := 47) B lkX11_161 (by decide +kernel) rfl ?_
    refine aw_bipush (n := 120) (v := (120 : Int32)) B (by decide +kernel) (by decide) ?_
    refine aw_icmp_ne (off := 6) B 26 (by decide +kernel) (by decide) (fun _ => ?_) (fun _ => ?_)
    · refine aw_aload_n (k0 := 0) B 0 (by decide +kernel) rfl rfl ?_
      refine aw_getr (c := 47) B lkX11_28 (by decide +kernel) rfl (r := 54) rfl ?_
      refine aw_aload_n (k0 := 0) B 0 (by decide +kernel) rfl rfl ?_
      refine aw_geti (c := 47) B lkX11_161 (by decide +kernel) rfl ?_
      refine aw_iload_n (k0 := 1) B 1 (by decide +kernel) rfl rfl ?_
      refine aw_iastore B (by decide +kernel) (fun M3 => ?_)
      refine aw_aload_n (k0 := 0) B 0 (by decide +kernel) rfl rfl ?_
      refine aw_dup B (by decide +kernel) rfl ?_
      refine aw_geti (c := 47) B lkX11_161 (by decide +kernel) rfl ?_
      refine aw_iconst (n := 1) (v := (1 : Int32)) B (by decide +kernel) (by decide) ?_
      refine aw_iadd B (by decide +kernel) ?_
      refine aw_puti (c := 47) B lkX11_161 lp11_11 (by decide +kernel) rfl (fun M4 => ?_)
      refine aw_aload_n (k0 := 0) B 0 (by decide +kernel) rfl rfl ?_
      refine aw_geti (c := 47) B lkX11_161 (by decide +kernel) rfl ?_
      exact aw_ireturn B (by decide +kernel) rfl
    · refine aw_bipush (n := -3) (v := (-3 : Int32)) B (by decide +kernel) (by decide) ?_
      exact aw_ireturn B (by decide +kernel) rfl
  · refine aw_iconst (n := -1) (v := (-1 : Int32)) B (by decide +kernel) (by decide) ?_
    exact aw_ireturn B (by decide +kernel) rfl
theorem c_X11_feed (l : Launch) {G : GW} (hG : ab_ok G) (v1 : Int32) (M : Mem) : AC l G yX11_feed cX11_feed 2 (some .int) 3 [.ref 47, .int v1] M embI (f_X11_feed v1 M) := AC.of hG (by decide) (Nat.le_of_ble_eq_true rfl) (fun E hE B => by subst hE; exact w_X11_feed hG B v1 M)
def f_X5_sign (M : Mem) : Option Int32 := (if 0 ≤ (M.1 22 3) then (some (-1 : Int32)) else (if (M.1 22 0) ≤ (M.1 22 2) then (some (-1 : Int32)) else ck (okI 23 (M.1 22 2)) ((some (M.1 23 (M.1 22 2).toNatClampNeg)))))
set_option maxRecDepth 100000 in
set_option maxHeartbeats 4000000 in
theorem w_X5_sign {G : GW} {E : EE} (hG : ab_ok G) (B : Bx G E RX5 cX5_sign 1 2 (some .int)) (M : Mem) : AWo G E cX5_sign 1 (ab_Q G E (embRI M)) 0 [(0, .ref 22)] [] M (f_X5_sign M) := by
  unfold f_X5_sign
  refine aw_aload_n (k0 := 0) B 0 (by decide +kernel) rfl rfl ?_
  refine aw_geti (c := 22) B lkX5_34 (by decide +kernel) rfl ?_
  refine aw_if_ge (off := 26) B 30 (by decide +kernel) (by decide) (fun _ => ?_) (fun _ => ?_)
  · refine aw_iconst (n := -1) (v := (-1 : Int32)) B (by decide +kernel) (by decide) ?_
    exact aw_ireturn B (by decide +kernel) rfl
  · refine aw_aload_n (k0 := 0) B 0 (by decide +kernel) rfl rfl ?_
    refine aw_geti (c := 22) B lkX5_31 (by decide +kernel) rfl ?_
    refine aw_aload_n (k0 := 0) B 0 (by decide +kernel) rfl rfl ?_
    refine aw_geti (c := 22) B lkX5_27 (by decide +kernel) rfl ?_
    refine aw_icmp_ge (off := 15) B 30 (by decide +kernel) (by decide) (fun _ => ?_) (fun _ => ?_)
    · refine aw_iconst (n := -1) (v := (-1 : Int32)) B (by decide +kernel) (by decide) ?_
      exact aw_ireturn B (by decide +kernel) rfl
    · refine aw_aload_n (k0 := 0) B 0 (by decide +kernel) rfl rfl ?_
      refine aw_getr (c := 22) B lkX5_11 (by decide +kernel) rfl (r := 23) rfl ?_
      refine aw_aload_n (k0 := 0) B 0 (by decide +kernel) rfl rfl ?_
      refine aw_geti (c := 22) B lkX5_31 (by decide +kernel) rfl ?_
      refine aw_iaload B (by decide +kernel) ?_
      refine aw_goto (off := 4) B 31 (by decide +kernel) (by decide) ?_
      exact aw_ireturn B (by decide +kernel) rfl
theorem c_X5_sign (l : Launch) {G : GW} (hG : ab_ok G) (M : Mem) : AC l G yX5_sign cX5_sign 1 (some .int) 2 [.ref 22] M (embRI M) (f_X5_sign M) := AC.of hG (by decide) (Nat.le_of_ble_eq_true rfl) (fun E hE B => by subst hE; exact w_X5_sign hG B M)
def f_X5_isDigit (v0 : Int32) : Option Int32 := (if v0 < (48 : Int32) then (some (0 : Int32)) else (if (57 : Int32) < v0 then (some (0 : Int32)) else (some (1 : Int32))))
set_option maxRecDepth 100000 in
set_option maxHeartbeats 4000000 in
theorem w_X5_isDigit {G : GW} {E : EE} (hG : ab_ok G) (B : Bx G E RX5 cX5_isDigit 1 2 (some .boolean)) (v0 : Int32) (M : Mem) : AWo G E cX5_isDigit 1 (ab_Q G E (embRI M)) 0 [(0, .int v0)] [] M (f_X5_isDigit v0) := by
  unfold f_X5_isDigit
  refine aw_iload_n (k0 := 0) B 0 (by decide +kernel) rfl rfl ?_
  refine aw_bipush (n := 48) (v := (48 : Int32)) B (by decide +kernel) (by decide) ?_
  refine aw_icmp_lt (off := 13) B 16 (by decide +kernel) (by decide) (fun _ => ?_) (fun _ => ?_)
  · refine aw_iconst (n := 0) (v := (0 : Int32)) B (by decide +kernel) (by decide) ?_
    exact aw_zreturnK B (by decide +kernel) rfl (by decide)
  · refine aw_iload_n (k0 := 0) B 0 (by decide +kernel) rfl rfl ?_
    refine aw_bipush (n := 57) (v := (57 : Int32)) B (by decide +kernel) (by decide) ?_
    refine aw_icmp_gt (off := 7) B 16 (by decide +kernel) (by decide) (fun _ => ?_) (fun _ => ?_)
    · refine aw_iconst (n := 0) (v := (0 : Int32)) B (by decide +kernel) (by decide) ?_
      exact aw_zreturnK B (by decide +kernel) rfl (by decide)
    · refine aw_iconst (n := 1) (v := (1 : Int32)) B (by decide +kernel) (by decide) ?_
      refine aw_goto (off := 4) B 17 (by decide +kernel) (by decide) ?_
      exact aw_zreturnK B (by decide +kernel) rfl (by decide)
theorem c_X5_isDigit (l : Launch) {G : GW} (hG : ab_ok G) (v0 : Int32) (M : Mem) : AC l G yX5_isDigit cX5_isDigit 1 (some .boolean) 2 [.int v0] M (embRI M) (f_X5_isDigit v0) := AC.of hG (by decide) (Nat.le_of_ble_eq_true rfl) (fun E hE B => by subst hE; exact w_X5_isDigit hG B v0 M)
def f_X5_addStep (v1 : Int32) (v2 : Int32) (M : Mem) : Option Mem := (if (121 : Int32) ≤ (M.1 22 5) then (some M) else ck (okI (M.2.2 22 4) ((2 : Int32) * (M.1 22 5))) (lt (wI M (M.2.2 22 4) ((2 : Int32) * (M.1 22 5)).toNatClampNeg v1) fun M1 => ck (okI (M1.2.2 22 4) (((2 : Int32) * (M1.1 22 5)) + (1 : Int32))) (lt (wI M1 (M1.2.2 22 4) (((2 : Int32) * (M1.1 22 5)) + (1 : Int32)).toNatClampNeg v2) fun M2 => lt (wI M2 22 5 ((M2.1 22 5) + (1 : Int32))) fun M3 => (some M3))))
set_option maxRecDepth 100000 in
set_option maxHeartbeats 4000000 in
theorem w_X5_addStep {G : GW} {E : EE} (hG : ab_ok G) (B : Bx G E RX5 cX5_addStep 3 2 none) (v1 : Int32) (v2 : Int32) (M : Mem) : AWo G E cX5_addStep 3 (ab_Q G E embV) 0 [(0, .ref 22), (1, .int v1), (2, .int v2)] [] M (f_X5_addStep v1 v2 M) := by
  unfold f_X5_addStep
  refine aw_aload_n (k0 := 0) B 0 (by decide +kernel) rfl rfl ?_
  refine aw_geti (c := 22) B lkX5_37 (by decide +kernel) rfl ?_
  refine aw_bipush (n := 121) (v := (121 : Int32)) B (by decide +kernel) (by decide) ?_
  refine aw_icmp_ge (off := 39) B 45 (by decide +kernel) (by decide) (fun _ => ?_) (fun _ => ?_)
  · exact aw_vreturn B (by decide +kernel) rfl
  · refine aw_aload_n (k0 := 0) B 0 (by decide +kernel) rfl rfl ?_
    refine aw_getm (c := 22) B lkX5_15 (by decide +kernel) rfl ?_
    refine aw_iconst (n := 2) (v := (2 : Int32)) B (by decide +kernel) (by decide) ?_
    refine aw_aload_n (k0 := 0) B 0 (by decide +kernel) rfl rfl ?_
    refine aw_geti (c := 22) B lkX5_37 (by decide +kernel) rfl ?_
    refine aw_imul B (by decide +kernel) ?_
    refine aw_iload_n (k0 := 1) B 1 (by decide +kernel) rfl rfl ?_
    refine aw_iastore B (by decide +kernel) (fun M1 => ?_)
    refine aw_aload_n (k0 := 0) B 0 (by decide +kernel) rfl rfl ?_
    refine aw_getm (c := 22) B lkX5_15 (by decide +kernel) rfl ?_
    refine aw_iconst (n := 2) (v := (2 : Int32)) B (by decide +kernel) (by decide) ?_
    refine aw_aload_n (k0 := 0) B 0 (by decide +kernel) rfl rfl ?_
    refine aw_geti (c := 22) B lkX5_37 (by decide +kernel) rfl ?_
    refine aw_imul B (by decide +kernel) ?_
    refine aw_iconst (n := 1) (v := (1 : Int32)) B (by decide +kernel) (by decide) ?_
    refine aw_iadd B (by decide +kernel) ?_
    refine aw_iload_n (k0 := 2) B 2 (by decide +kernel) rfl rfl ?_
    refine aw_iastore B (by decide +kernel) (fun M2 => ?_)
    refine aw_aload_n (k0 := 0) B 0 (by decide +kernel) rfl rfl ?_
    refine aw_dup B (by decide +kernel) rfl ?_
    refine aw_geti (c := 22) B lkX5_37 (by decide +kernel) rfl ?_
    refine aw_iconst (n := 1) (v := (1 : Int32)) B (by decide +kernel) (by decide) ?_
    refine aw_iadd B (by decide +kernel) ?_
    refine aw_puti (c := 22) B lkX5_37 lp5_5 (by decide +kernel) rfl (fun M3 => ?_)
    exact aw_vreturn B (by decide +kernel) rfl
theorem c_X5_addStep (l : Launch) {G : GW} (hG : ab_ok G) (v1 : Int32) (v2 : Int32) (M : Mem) : AC l G yX5_addStep cX5_addStep 3 none 2 [.ref 22, .int v1, .int v2] M embV (f_X5_addStep v1 v2 M) := AC.of hG (by decide) (Nat.le_of_ble_eq_true rfl) (fun E hE B => by subst hE; exact w_X5_addStep hG B v1 v2 M)
