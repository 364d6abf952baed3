def f_X11_asSort (v0 : Int32) (v1 : Int64) : Option Int64 := (if v0 = 0 then (some v1.toInt32.toInt8.toInt32.toInt64) else (if v0 = (1 : Int32) then (some v1.toInt32.toInt16.toInt32.toInt64) else (if v0 = (2 : Int32) then (some v1.toInt32.toInt64) else (if v0 = (4 : Int32) then (if (lg_cmp v1 (0 : Int64)) = 0 then (some (0 : Int64)) else (some (1 : Int64))) else (some v1)))))
set_option maxRecDepth 100000 in
set_option maxHeartbeats 4000000 in
theorem w_X11_asSort {G : GW} {E : EE} (hG : ab_ok G) (B : Bx G E RX11 cX11_asSort 3 2 (some .long)) (v0 : Int32) (v1 : Int64) (M : Mem) : AWo G E cX11_asSort 3 (ab_Q G E (embRJ M)) 0 [(0, .int v0), (1, .long v1)] [] M (f_X11_asSort v0 v1) := by
  unfold f_X11_asSort
  refine aw_iload_n (k0 := 0) B 0 (by decide +kernel) rfl rfl ?_
  refine aw_if_ne (off := 10) B 11 (by decide +kernel) (by decide) (fun _ => ?_) (fun _ => ?_)
  · refine aw_iload_n (k0 := 0) B 0 (by decide +kernel) rfl rfl ?_
    refine aw_iconst (n := 1) (v := (1 : Int32)) B (by decide +kernel) (by decide) ?_
    refine aw_icmp_ne (off := 10) B 23 (by decide +kernel) (by decide) (fun _ => ?_) (fun _ => ?_)
    · refine aw_iload_n (k0 := 0) B 0 (by decide +kernel) rfl rfl ?_
      refine aw_iconst (n := 2) (v := (2 : Int32)) B (by decide +kernel) (by decide) ?_
      refine aw_icmp_ne (off := 9) B 34 (by decide +kernel) (by decide) (fun _ => ?_) (fun _ => ?_)
      · refine aw_iload_n (k0 := 0) B 0 (by decide +kernel) rfl rfl ?_
        refine aw_iconst (n := 4) (v := (4 : Int32)) B (by decide +kernel) (by decide) ?_
        refine aw_icmp_ne (off := 17) B 53 (by decide +kernel) (by decide) (fun _ => ?_) (fun _ => ?_)
        · refine aw_lload_n (k0 := 1) B 1 (by decide +kernel) rfl rfl ?_
          exact aw_lreturn B (by decide +kernel) rfl
        · refine aw_lload_n (k0 := 1) B 1 (by decide +kernel) rfl rfl ?_
          refine aw_lconst (n := 0) (v := (0 : Int64)) B (by decide +kernel) (by decide) ?_
          refine aw_lcmp B (by decide +kernel) ?_
          refine aw_if_eq (off := 7) B 49 (by decide +kernel) (by decide) (fun _ => ?_) (fun _ => ?_)
          · refine aw_lconst (n := 0) (v := (0 : Int64)) B (by decide +kernel) (by decide) ?_
            refine aw_goto (off := 4) B 54 (by decide +kernel) (by decide) ?_
            exact aw_lreturn B (by decide +kernel) rfl
          · refine aw_lconst (n := 1) (v := (1 : Int64)) B (by decide +kernel) (by decide) ?_
            refine aw_goto (off := 8) B 54 (by decide +kernel) (by decide) ?_
            exact aw_lreturn B (by decide +kernel) rfl
      · refine aw_lload_n (k0 := 1) B 1 (by decide +kernel) rfl rfl ?_
        refine aw_l2i B (by decide +kernel) ?_
        refine aw_i2l B (by decide +kernel) ?_
        refine aw_goto (off := 23) B 54 (by decide +kernel) (by decide) ?_
        exact aw_lreturn B (by decide +kernel) rfl
    · refine aw_lload_n (k0 := 1) B 1 (by decide +kernel) rfl rfl ?_
      refine aw_l2i B (by decide +kernel) ?_
      refine aw_i2s B (by decide +kernel) ?_
      refine aw_i2l B (by decide +kernel) ?_
      refine aw_goto (off := 34) B 54 (by decide +kernel) (by decide) ?_
      exact aw_lreturn B (by decide +kernel) rfl
  · refine aw_lload_n (k0 := 1) B 1 (by decide +kernel) rfl rfl ?_
    refine aw_l2i B (by decide +kernel) ?_
    refine aw_i2b B (by decide +kernel) ?_
    refine aw_i2l B (by decide +kernel) ?_
    refine aw_goto (off := 46) B 54 (by decide +kernel) (by decide) ?_
    exact aw_lreturn B (by decide +kernel) rfl
theorem c_X11_asSort (l : Launch) {G : GW} (hG : ab_ok G) (v0 : Int32) (v1 : Int64) (M : Mem) : AC l G yX11_asSort cX11_asSort 3 (some .long) 2 [.int v0, .long v1] M (embRJ M) (f_X11_asSort v0 v1) := AC.of hG (by decide) (Nat.le_of_ble_eq_true rfl) (fun E hE B => by subst hE; exact w_X11_asSort hG B v0 v1 M)
def f_X11_put_b37 (v5 : Int32) (M : Mem) : Option (Int32 × Mem) := (if v5 = 0 then (some ((1 : Int32), M)) else (some (v5, M)))
set_option maxRecDepth 100000 in
set_option maxHeartbeats 4000000 in
theorem w_X11_put_b37 {G : GW} {E : EE} (hG : ab_ok G) (B : Bx G E RX11 cX11_put 6 5 (some .int)) (v5 : Int32) (M : Mem) : AWo G E cX11_put 6 (ab_Q G E embI) 37 [(5, .int v5)] [] M (f_X11_put_b37 v5 M) := by
  unfold f_X11_put_b37
  refine aw_iload (i := 5) B 0 (by decide +kernel) rfl ?_
  refine aw_if_ne (off := 7) B 46 (by decide +kernel) (by decide) (fun _ => ?_) (fun _ => ?_)
  · refine aw_iload (i := 5) B 0 (by decide +kernel) rfl ?_
    exact aw_ireturn B (by decide +kernel) rfl
  · refine aw_iconst (n := 1) (v := (1 : Int32)) B (by decide +kernel) (by decide) ?_
    refine aw_goto (off := 5) B 48 (by decide +kernel) (by decide) ?_
    exact aw_ireturn B (by decide +kernel) rfl
def f_X11_put (v1 : Int32) (v2 : Int32) (v3 : Int64) (M : Mem) : Option (Int32 × Mem) := (f_X11_refusal v1 v2 M).bind fun x1 => (if x1 = 0 then ck (okI 73 v1) ((f_X11_asSort ((M.1 73 v1.toNatClampNeg) - (50 : Int32)) v3).bind fun x3 => ck (okL 75 (((60 : Int32) * v1) + v2)) (lt (wL M 75 (((60 : Int32) * v1) + v2).toNatClampNeg x3) fun M5 => f_X11_put_b37 x1 M5)) else f_X11_put_b37 x1 M)
set_option maxRecDepth 100000 in
set_option maxHeartbeats 4000000 in
theorem w_X11_put {G : GW} {E : EE} (hG : ab_ok G) (B : Bx G E RX11 cX11_put 6 5 (some .int)) (v1 : Int32) (v2 : Int32) (v3 : Int64) (M : Mem) : AWo G E cX11_put 6 (ab_Q G E embI) 0 [(0, .ref 47), (1, .int v1), (2, .int v2), (3, .long v3)] [] M (f_X11_put v1 v2 v3 M) := by
  unfold f_X11_put
  refine aw_aload_n (k0 := 0) B 0 (by decide +kernel) rfl rfl ?_
  refine aw_iload_n (k0 := 1) B 1 (by decide +kernel) rfl rfl ?_
  refine aw_iload_n (k0 := 2) B 2 (by decide +kernel) rfl rfl ?_
  refine aw_cVR B (c_X11_refusal (eLa E) hG v1 v2 M) cvX11_374 rfl rfl (Nat.le_of_ble_eq_true rfl) rfl (Nat.le_of_ble_eq_true rfl) (by decide +kernel) rfl (fun x1 => ?_)
  refine aw_istore (i := 5) B [(5, .int x1), (0, .ref 47), (1, .int v1), (2, .int v2), (3, .long v3)] (by decide +kernel) (Nat.le_of_ble_eq_true rfl) rfl ?_
  refine aw_iload (i := 5) B 0 (by decide +kernel) rfl ?_
  refine aw_if_ne (off := 27) B 37 (by decide +kernel) (by decide) (fun _ => ?_) (fun _ => ?_)
  · exact aw_sub [0] rfl (w_X11_put_b37 hG B _ _)
  · refine aw_aload_n (k0 := 0) B 1 (by decide +kernel) rfl rfl ?_
    refine aw_getr (c := 47) B lkX11_93 (by decide +kernel) rfl (r := 75) rfl ?_
    refine aw_bipush (n := 60) (v := (60 : Int32)) B (by decide +kernel) (by decide) ?_
    refine aw_iload_n (k0 := 1) B 2 (by decide +kernel) rfl rfl ?_
    refine aw_imul B (by decide +kernel) ?_
    refine aw_iload_n (k0 := 2) B 3 (by decide +kernel) rfl rfl ?_
    refine aw_iadd B (by decide +kernel) ?_
    refine aw_aload_n (k0 := 0) B 1 (by decide +kernel) rfl rfl ?_
    refine aw_getr (c := 47) B lkX11_87 (by decide +kernel) rfl (r := 73) rfl ?_
    refine aw_iload_n (k0 := 1) B 2 (by decide +kernel) rfl rfl ?_
    refine aw_iaload B (by decide +kernel) ?_
    refine aw_bipush (n := 50) (v := (50 : Int32)) B (by decide +kernel) (by decide) ?_
    refine aw_isub B (by decide +kernel) ?_
    refine aw_lload_n (k0 := 3) B 4 (by decide +kernel) rfl rfl ?_
    refine aw_cSL B (c_X11_asSort (eLa E) hG ((M.1 73 v1.toNatClampNeg) - (50 : Int32)) v3 M) csX11_377 (Nat.le_of_ble_eq_true rfl) rfl (Nat.le_of_ble_eq_true rfl) (by decide +kernel) rfl (fun x3 => ?_)
    refine aw_lastore B (by decide +kernel) (fun M5 => ?_)
    exact aw_sub [0] rfl (w_X11_put_b37 hG B _ _)
theorem c_X11_put (l : Launch) {G : GW} (hG : ab_ok G) (v1 : Int32) (v2 : Int32) (v3 : Int64) (M : Mem) : AC l G yX11_put cX11_put 6 (some .int) 5 [.ref 47, .int v1, .int v2, .long v3] M embI (f_X11_put v1 v2 v3 M) := AC.of hG (by decide) (Nat.le_of_ble_eq_true rfl) (fun E hE B => by subst hE; exact w_X11_put hG B v1 v2 v3 M)
def f_X10_element (v1 : Int32) (v2 : Int32) (M : Mem) : Option Int64 := (f_X9_refusal v1 v2 M).bind fun x1 => (if x1 = 0 then (f_X9_valueAt v1 v2 M).bind fun x3 => (some x3) else (some (-9223372036854775808 : Int64)))
set_option maxRecDepth 100000 in
set_option maxHeartbeats 4000000 in
theorem w_X10_element {G : GW} {E : EE} (hG : ab_ok G) (B : Bx G E RX10 cX10_element 3 5 (some .long)) (v1 : Int32) (v2 : Int32) (M : Mem) : AWo G E cX10_element 3 (ab_Q G E (embRJ M)) 0 [(0, .ref 0), (1, .int v1), (2, .int v2)] [] M (f_X10_element v1 v2 M) := by
  unfold f_X10_element
  refine aw_aload_n (k0 := 0) B 0 (by decide +kernel) rfl rfl ?_
  refine aw_getr (c := 0) B lkX10_75 (by decide +kernel) rfl (r := 43) rfl ?_
  refine aw_iload_n (k0 := 1) B 1 (by decide +kernel) rfl rfl ?_
  refine aw_iload_n (k0 := 2) B 2 (by decide +kernel) rfl rfl ?_
  refine aw_cVR B (c_X9_refusal (eLa E) hG v1 v2 M) cvX10_357 rfl rfl (Nat.le_of_ble_eq_true rfl) rfl (Nat.le_of_ble_eq_true rfl) (by decide +kernel) rfl (fun x1 => ?_)
  refine aw_if_eq (off := 7) B 16 (by decide +kernel) (by decide) (fun _ => ?_) (fun _ => ?_)
  · refine aw_aload_n (k0 := 0) B 0 (by decide +kernel) rfl rfl ?_
    refine aw_getr (c := 0) B lkX10_75 (by decide +kernel) rfl (r := 43) rfl ?_
    refine aw_iload_n (k0 := 1) B 1 (by decide +kernel) rfl rfl ?_
    refine aw_iload_n (k0 := 2) B 2 (by decide +kernel) rfl rfl ?_
    refine aw_cVL B (c_X9_valueAt (eLa E) hG v1 v2 M) cvX10_112 rfl rfl (Nat.le_of_ble_eq_true rfl) rfl (Nat.le_of_ble_eq_true rfl) (by decide +kernel) rfl (fun x3 => ?_)
    exact aw_lreturn B (by decide +kernel) rfl
  · refine aw_ldc2 B (by decide +kernel) lwX10_276 ?_
    exact aw_lreturn B (by decide +kernel) rfl
theorem c_X10_element (l : Launch) {G : GW} (hG : ab_ok G) (v1 : Int32) (v2 : Int32) (M : Mem) : AC l G yX10_element cX10_element 3 (some .long) 5 [.ref 0, .int v1, .int v2] M (embRJ M) (f_X10_element v1 v2 M) := AC.of hG (by decide) (Nat.le_of_ble_eq_true rfl) (fun E hE B => by subst hE; exact w_X10_element hG B v1 v2 M)
def f_X11_element (v1 : Int32) (v2 : Int32) (M : Mem) : Option Int64 := (f_X11_refusal v1 v2 M).bind fun x1 => (if x1 = 0 then ck (okL 75 (((60 : Int32) * v1) + v2)) ((some (M.2.1 75 (((60 : Int32) * v1) + v2).toNatClampNeg))) else (some (-9223372036854775808 : Int64)))
set_option maxRecDepth 100000 in
set_option maxHeartbeats 4000000 in
theorem w_X11_element {G : GW} {E : EE} (hG : ab_ok G) (B : Bx G E RX11 cX11_element 3 5 (some .long)) (v1 : Int32) (v2 : Int32) (M : Mem) : AWo G E cX11_element 3 (ab_Q G E (embRJ M)) 0 [(0, .ref 47), (1, .int v1), (2, .int v2)] [] M (f_X11_element v1 v2 M) := by
  unfold f_X11_element
  refine aw_aload_n (k0 := 0) B 0 (by decide +kernel) rfl rfl ?_
  refine aw_iload_n (k0 := 1) B 1 (by decide +kernel) rfl rfl ?_
  refine aw_iload_n (k0 := 2) B 2 (by decide +kernel) rfl rfl ?_
  refine aw_cVR B (c_X11_refusal (eLa E) hG v1 v2 M) cvX11_374 rfl rfl (Nat.le_of_ble_eq_true rfl) rfl (Nat.le_of_ble_eq_true rfl) (by decide +kernel) rfl (fun x1 => ?_)
  refine aw_if_eq (off := 9) B 15 (by decide +kernel) (by decide) (fun _ => ?_) (fun _ => ?_)
  · refine aw_aload_n (k0 := 0) B 0 (by decide +kernel) rfl rfl ?_
    refine aw_getr (c := 47) B lkX11_93 (by decide +kernel) rfl (r := 75) rfl ?_
    refine aw_bipush (n := 60) (v := (60 : Int32)) B (by decide +kernel) (by decide) ?_
    refine aw_iload_n (k0 := 1) B 1 (by decide +kernel) rfl rfl ?_
    refine aw_imul B (by decide +kernel) ?_
    refine aw_iload_n (k0 := 2) B 2 (by decide +kernel) rfl rfl ?_
    refine aw_iadd B (by decide +kernel) ?_
    refine aw_laload B (by decide +kernel) ?_
    exact aw_lreturn B (by decide +kernel) rfl
  · refine aw_ldc2 B (by decide +kernel) lwX11_301 ?_
    refine aw_goto (off := 14) B 26 (by decide +kernel) (by decide) ?_
    exact aw_lreturn B (by decide +kernel) rfl
theorem c_X11_element (l : Launch) {G : GW} (hG : ab_ok G) (v1 : Int32) (v2 : Int32) (M : Mem) : AC l G yX11_element cX11_element 3 (some .long) 5 [.ref 47, .int v1, .int v2] M (embRJ M) (f_X11_element v1 v2 M) := AC.of hG (by decide) (Nat.le_of_ble_eq_true rfl) (fun E hE B => by subst hE; exact w_X11_element hG B v1 v2 M)
def f_X9_areLikeRows (v1 : Int32) (v2 : Int32) (M : Mem) : Option Int32 := ck (okI 44 v1) ((f_X9_isSort (M.1 44 v1.toNatClampNeg)).bind fun x1 => (if x1 = 0 then (some (0 : Int32)) else ck (okI 44 v1) (ck (okI 44 v2) ((if (M.1 44 v1.toNatClampNeg) = (M.1 44 v2.toNatClampNeg) then (some (1 : Int32)) else (some (0 : Int32)))))))
set_option maxRecDepth 100000 in
set_option maxHeartbeats 4000000 in
theorem w_X9_areLikeRows {G : GW} {E : EE} (hG : ab_ok G) (B : Bx G E RX9 cX9_areLikeRows 3 3 (some .boolean)) (v1 : Int32) (v2 : Int32) (M : Mem) : AWo G E cX9_areLikeRows 3 (ab_Q G E (embRI M)) 0 [(0, .ref 43), (1, .int v1), (2, .int v2)] [] M (f_X9_areLikeRows v1 v2 M) := by
  unfold f_X9_areLikeRows
  refine aw_aload_n (k0 := 0) B 0 (by decide +kernel) rfl rfl ?_
  refine aw_getr (c := 43) B lkX9_11 (by decide +kernel) rfl (r := 44) rfl ?_
  refine aw_iload_n (k0 := 1) B 1 (by decide +kernel) rfl rfl ?_
  refine aw_iaload B (by decide +kernel) ?_
  refine aw_cSR B (c_X9_isSort (eLa E) hG (M.1 44 v1.toNatClampNeg) M) csX9_22 (Nat.le_of_ble_eq_true rfl) rfl (Nat.le_of_ble_eq_true rfl) (by decide +kernel) rfl (fun x1 => ?_)
  refine aw_if_eq (off := 22) B 31 (by decide +kernel) (by decide) (fun _ => ?_) (fun _ => ?_)
  · refine aw_iconst (n := 0) (v := (0 : Int32)) B (by decide +kernel) (by decide) ?_
    exact aw_zreturnK B (by decide +kernel) rfl (by decide)
  · refine aw_aload_n (k0 := 0) B 0 (by decide +kernel) rfl rfl ?_
    refine aw_getr (c := 43) B lkX9_11 (by decide +kernel) rfl (r := 44) rfl ?_
    refine aw_iload_n (k0 := 1) B 1 (by decide +kernel) rfl rfl ?_
    refine aw_iaload B (by decide +kernel) ?_
    refine aw_aload_n (k0 := 0) B 0 (by decide +kernel) rfl rfl ?_
    refine aw_getr (c := 43) B lkX9_11 (by decide +kernel) rfl (r := 44) rfl ?_
    refine aw_iload_n (k0 := 2) B 2 (by decide +kernel) rfl rfl ?_
    refine aw_iaload B (by decide +kernel) ?_
    refine aw_icmp_ne (off := 7) B 31 (by decide +kernel) (by decide) (fun _ => ?_) (fun _ => ?_)
    · refine aw_iconst (n := 0) (v := (0 : Int32)) B (by decide +kernel) (by decide) ?_
      exact aw_zreturnK B (by decide +kernel) rfl (by decide)
    · refine aw_iconst (n := 1) (v := (1 : Int32)) B (by decide +kernel) (by decide) ?_
      refine aw_goto (off := 4) B 32 (by decide +kernel) (by decide) ?_
      exact aw_zreturnK B (by decide +kernel) rfl (by decide)
theorem c_X9_areLikeRows (l : Launch) {G : GW} (hG : ab_ok G) (v1 : Int32) (v2 : Int32) (M : Mem) : AC l G yX9_areLikeRows cX9_areLikeRows 3 (some .boolean) 3 [.ref 43, .int v1, .int v2] M (embRI M) (f_X9_areLikeRows v1 v2 M) := AC.of hG (by decide) (Nat.le_of_ble_eq_true rfl) (fun E hE B => by subst hE; exact w_X9_areLikeRows hG B v1 v2 M)
def f_X9_hasRange (v1 : Int32) (v2 : Int32) (v3 : Int32) (M : Mem) : Option Int32 := (if v2 < 0 then (some (0 : Int32)) else (if v3 < 0 then (some (0 : Int32)) else (f_X9_lengthOf v1 M).bind fun x1 => (if (x1 - v2) < v3 then (some (0 : Int32)) else (some (1 : Int32)))))
set_option maxRecDepth 100000 in
set_option maxHeartbeats 4000000 in
theorem w_X9_hasRange {G : GW} {E : EE} (hG : ab_ok G) (B : Bx G E RX9 cX9_hasRange 4 4 (some .boolean)) (v1 : Int32) (v2 : Int32) (v3 : Int32) (M : Mem) : AWo G E cX9_hasRange 4 (ab_Q G E (embRI M)) 0 [(0, .ref 43), (1, .int v1), (2, .int v2), (3, .int v3)] [] M (f_X9_hasRange v1 v2 v3 M) := by
  unfold f_X9_hasRange
  refine aw_iload_n (k0 := 2) B 2 (by decide +kernel) rfl rfl ?_
  refine aw_if_lt (off := 22) B 23 (by decide +kernel) (by decide) (fun _ => ?_) (fun _ => ?_)
  · refine aw_iconst (n := 0) (v := (0 : Int32)) B (by decide +kernel) (by decide) ?_
    exact aw_zreturnK B (by decide +kernel) rfl (by decide)
  · refine aw_iload_n (k0 := 3) B 3 (by decide +kernel) rfl rfl ?_
    refine aw_if_lt (off := 18) B 23 (by decide +kernel) (by decide) (fun _ => ?_) (fun _ => ?_)
    · refine aw_iconst (n := 0) (v := (0 : Int32)) B (by decide +kernel) (by decide) ?_
      exact aw_zreturnK B (by decide +kernel) rfl (by decide)
    · refine aw_iload_n (k0 := 3) B 3 (by decide +kernel) rfl rfl ?_
      refine aw_aload_n (k0 := 0) B 0 (by decide +kernel) rfl rfl ?_
      refine aw_iload_n (k0 := 1) B 1 (by decide +kernel) rfl rfl ?_
      refine aw_cVR B (c_X9_lengthOf (eLa E) hG v1 M) cvX9_38 rfl rfl (Nat.le_of_ble_eq_true rfl) rfl (Nat.le_of_ble_eq_true rfl) (by decide +kernel) rfl (fun x1 => ?_)
      refine aw_iload_n (k0 := 2) B 2 (by decide +kernel) rfl rfl ?_
      refine aw_isub B (by decide +kernel) ?_
      refine aw_icmp_gt (off := 7) B 23 (by decide +kernel) (by decide) (fun _ => ?_) (fun _ => ?_)
      · refine aw_iconst (n := 0) (v := (0 : Int32)) B (by decide +kernel) (by decide) ?_
        exact aw_zreturnK B (by decide +kernel) rfl (by decide)
      · refine aw_iconst (n := 1) (v := (1 : Int32)) B (by decide +kernel) (by decide) ?_
        refine aw_goto (off := 4) B 24 (by decide +kernel) (by decide) ?_
        exact aw_zreturnK B (by decide +kernel) rfl (by decide)
theorem c_X9_hasRange (l : Launch) {G : GW} (hG : ab_ok G) (v1 : Int32) (v2 : Int32) (v3 : Int32) (M : Mem) : AC l G yX9_hasRange cX9_hasRange 4 (some .boolean) 4 [.ref 43, .int v1, .int v2, .int v3] M (embRI M) (f_X9_hasRange v1 v2 v3 M) := AC.of hG (by decide) (Nat.le_of_ble_eq_true rfl) (fun E hE B => by subst hE; exact w_X9_hasRange hG B v1 v2 v3 M)
def f_X9_copy (v1 : Int32) (v2 : Int32) (v3 : Int32) (v4 : Int32) (v5 : Int32) (M : Mem) : Option Mem := ck (okC 101 46 ((v1 * (60 : Int32)) + v2) v5 && okC 101 46 ((v3 * (60 : Int32)) + v4) v5) (lt (cpL M 46 ((v1 * (60 : Int32)) + v2).toNatClampNeg 46 ((v3 * (60 : Int32)) + v4).toNatClampNeg v5.toNatClampNeg) fun M1 => (some M1))
set_option maxRecDepth 100000 in
set_option maxHeartbeats 4000000 in
theorem w_X9_copy {G : GW} {E : EE} (hG : ab_ok G) (B : Bx G E RX9 cX9_copy 6 2 none) (v1 : Int32) (v2 : Int32) (v3 : Int32) (v4 : Int32) (v5 : Int32) (M : Mem) : AWo G E cX9_copy 6 (ab_Q G E embV) 0 [(0, .ref 43), (1, .int v1), (2, .int v2), (3, .int v3), (4, .int v4), (5, .int v5)] [] M (f_X9_copy v1 v2 v3 v4 v5 M) := by
  unfold f_X9_copy
  refine aw_aload_n (k0 := 0) B 0 (by decide +kernel) rfl rfl ?_
  refine aw_getr (c := 43) B lkX9_18 (by decide +kernel) rfl (r := 46) rfl ?_
  refine aw_iload_n (k0 := 1) B 1 (by decide +kernel) rfl rfl ?_
  refine aw_bipush (n := 60) (v := (60 : Int32)) B (by decide +kernel) (by decide) ?_
  refine aw_imul B (by decide +kernel) ?_
  refine aw_iload_n (k0 := 2) B 2 (by decide +kernel) rfl rfl ?_
  refine aw_iadd B (by decide +kernel) ?_
  refine aw_aload_n (k0 := 0) B 0 (by decide +kernel) rfl rfl ?_
  refine aw_getr (c := 43) B lkX9_18 (by decide +kernel) rfl (r := 46) rfl ?_
  refine aw_iload_n (k0 := 3) B 3 (by decide +kernel) rfl rfl ?_
  refine aw_bipush (n := 60) (v := (60 : Int32)) B (by decide +kernel) (by decide) ?_
  refine aw_imul B (by decide +kernel) ?_
  refine aw_iload (i := 4) B 4 (by decide +kernel) rfl ?_
  refine aw_iadd B (by decide +kernel) ?_
  refine aw_iload (i := 5) B 5 (by decide +kernel) rfl ?_
  refine aw_copyL B lxX9_46 (by decide +kernel) (Nat.le_of_ble_eq_true rfl) (Nat.le_of_ble_eq_true rfl) (fun M1 => ?_)
  exact aw_vreturn B (by decide +kernel) rfl
theorem c_X9_copy (l : Launch) {G : GW} (hG : ab_ok G) (v1 : Int32) (v2 : Int32) (v3 : Int32) (v4 : Int32) (v5 : Int32) (M : Mem) : AC l G yX9_copy cX9_copy 6 none 2 [.ref 43, .int v1, .int v2, .int v3, .int v4, .int v5] M embV (f_X9_copy v1 v2 v3 v4 v5 M) := AC.of hG (by decide) (Nat.le_of_ble_eq_true rfl) (fun E hE B => by subst hE; exact w_X9_copy hG B v1 v2 v3 v4 v5 M)
def f_X10_shift (v1 : Int32) (v2 : Int32) (v3 : Int32) (v4 : Int32) (v5 : Int32) (M : Mem) : Option (Int32 × Mem) := (f_X9_isShelf v1).bind fun x1 => (if x1 = 0 then (some ((-1 : Int32), M)) else (f_X9_isShelf v3).bind fun x3 => (if x3 = 0 then (some ((-1 : Int32), M)) else (f_X9_isEmpty v1 M).bind fun x5 => (if x5 = 0 then (f_X9_isEmpty v3 M).bind fun x7 => (if x7 = 0 then (f_X9_areLikeRows v1 v3 M).bind fun x9 => (if x9 = 0 then (some ((-12 : Int32), M)) else (f_X9_hasRange v1 v2 v5 M).bind fun x11 => (if x11 = 0 then (some ((-13 : Int32), M)) else (f_X9_hasRange v3 v4 v5 M).bind fun x13 => (if x13 = 0 then (some ((-13 : Int32), M)) else (f_X9_copy v1 v2 v3 v4 v5 M).bind fun M16 => (some (v5, M16))))) else (some ((-11 : Int32), M))) else (some ((-11 : Int32), M)))))
set_option maxRecDepth 100000 in
set_option maxHeartbeats 4000000 in
theorem w_X10_shift {G : GW} {E : EE} (hG : ab_ok G) (B : Bx G E RX10 cX10_shift 6 5 (some .int)) (v1 : Int32) (v2 : Int32) (v3 : Int32) (v4 : Int32) (v5 : Int32) (M : Mem) : AWo G E cX10_shift 6 (ab_Q G E embI) 0 [(0, .ref 0), (1, .int v1), (2, .int v2), (3, .int v3), (4, .int v4), (5, .int v5)] [] M (f_X10_shift v1 v2 v3 v4 v5 M) := by
  unfold f_X10_shift
  refine aw_iload_n (k0 := 1) B 1 (by decide +kernel) rfl rfl ?_
  refine aw_cSR B (c_X9_isShelf (eLa E) hG v1 M) csX10_94 (Nat.le_of_ble_eq_true rfl) rfl (Nat.le_of_ble_eq_true rfl) (by decide +kernel) rfl (fun x1 => ?_)
  refine aw_if_eq (off := 10) B 14 (by decide +kernel) (by decide) (fun _ => ?_) (fun _ => ?_)
  · refine aw_iconst (n := -1) (v := (-1 : Int32)) B (by decide +kernel) (by decide) ?_
    exact aw_ireturn B (by decide +kernel) rfl
  · refine aw_iload_n (k0 := 3) B 3 (by decide +kernel) rfl rfl ?_
    refine aw_cSR B (c_X9_isShelf (eLa E) hG v3 M) csX10_94 (Nat.le_of_ble_eq_true rfl) rfl (Nat.le_of_ble_eq_true rfl) (by decide +kernel) rfl (fun x3 => ?_)
    refine aw_if_ne (off := 5) B 16 (by decide +kernel) (by decide) (fun _ => ?_) (fun _ => ?_)
    · refine aw_aload_n (k0 := 0) B 0 (by decide +kernel) rfl rfl ?_
      refine aw_getr (c := 0) B lkX10_75 (by decide +kernel) rfl (r := 43) rfl ?_
      refine aw_iload_n (k0 := 1) B 1 (by decide +kernel) rfl rfl ?_
      refine aw_cVR B (c_X9_isEmpty (eLa E) hG v1 M) cvX10_97 rfl rfl (Nat.le_of_ble_eq_true rfl) rfl (Nat.le_of_ble_eq_true rfl) (by decide +kernel) rfl (fun x5 => ?_)
      refine aw_if_ne (off := 14) B 38 (by decide +kernel) (by decide) (fun _ => ?_) (fun _ => ?_)
      · refine aw_bipush (n := -11) (v := (-11 : Int32)) B (by decide +kernel) (by decide) ?_
        exact aw_ireturn B (by decide +kernel) rfl
      · refine aw_aload_n (k0 := 0) B 0 (by decide +kernel) rfl rfl ?_
        refine aw_getr (c := 0) B lkX10_75 (by decide +kernel) rfl (r := 43) rfl ?_
        refine aw_iload_n (k0 := 3) B 3 (by decide +kernel) rfl rfl ?_
        refine aw_cVR B (c_X9_isEmpty (eLa E) hG v3 M) cvX10_97 rfl rfl (Nat.le_of_ble_eq_true rfl) rfl (Nat.le_of_ble_eq_true rfl) (by decide +kernel) rfl (fun x7 => ?_)
        refine aw_if_eq (off := 6) B 41 (by decide +kernel) (by decide) (fun _ => ?_) (fun _ => ?_)
        · refine aw_aload_n (k0 := 0) B 0 (by decide +kernel) rfl rfl ?_
          refine aw_getr (c := 0) B lkX10_75 (by decide +kernel) rfl (r := 43) rfl ?_
          refine aw_iload_n (k0 := 1) B 1 (by decide +kernel) rfl rfl ?_
          refine aw_iload_n (k0 := 3) B 3 (by decide +kernel) rfl rfl ?_
          refine aw_cVR B (c_X9_areLikeRows (eLa E) hG v1 v3 M) cvX10_364 rfl rfl (Nat.le_of_ble_eq_true rfl) rfl (Nat.le_of_ble_eq_true rfl) (by decide +kernel) rfl (fun x9 => ?_)
          refine aw_if_ne (off := 6) B 56 (by decide +kernel) (by decide) (fun _ => ?_) (fun _ => ?_)
          · refine aw_aload_n (k0 := 0) B 0 (by decide +kernel) rfl rfl ?_
            refine aw_getr (c := 0) B lkX10_75 (by decide +kernel) rfl (r := 43) rfl ?_
            refine aw_iload_n (k0 := 1) B 1 (by decide +kernel) rfl rfl ?_
            refine aw_iload_n (k0 := 2) B 2 (by decide +kernel) rfl rfl ?_
            refine aw_iload (i := 5) B 5 (by decide +kernel) rfl ?_
            refine aw_cVR B (c_X9_hasRange (eLa E) hG v1 v2 v5 M) cvX10_367 rfl rfl (Nat.le_of_ble_eq_true rfl) rfl (Nat.le_of_ble_eq_true rfl) (by decide +kernel) rfl (fun x11 => ?_)
            refine aw_if_eq (off := 18) B 85 (by decide +kernel) (by decide) (fun _ => ?_) (fun _ => ?_)
            · refine aw_bipush (n := -13) (v := (-13 : Int32)) B (by decide +kernel) (by decide) ?_
              exact aw_ireturn B (by decide +kernel) rfl
            · refine aw_aload_n (k0 := 0) B 0 (by decide +kernel) rfl rfl ?_
              refine aw_getr (c := 0) B lkX10_75 (by decide +kernel) rfl (r := 43) rfl ?_
              refine aw_iload_n (k0 := 3) B 3 (by decide +kernel) rfl rfl ?_
              refine aw_iload (i := 4) B 4 (by decide +kernel) rfl ?_
              refine aw_iload (i := 5) B 5 (by decide +kernel) rfl ?_
              refine aw_cVR B (c_X9_hasRange (eLa E) hG v3 v4 v5 M) cvX10_367 rfl rfl (Nat.le_of_ble_eq_true rfl) rfl (Nat.le_of_ble_eq_true rfl) (by decide +kernel) rfl (fun x13 => ?_)
              refine aw_if_ne (off := 6) B 88 (by decide +kernel) (by decide) (fun _ => ?_) (fun _ => ?_)
              · refine aw_aload_n (k0 := 0) B 0 (by decide +kernel) rfl rfl ?_
                refine aw_getr (c := 0) B lkX10_75 (by decide +kernel) rfl (r := 43) rfl ?_
                refine aw_iload_n (k0 := 1) B 1 (by decide +kernel) rfl rfl ?_
                refine aw_iload_n (k0 := 2) B 2 (by decide +kernel) rfl rfl ?_
                refine aw_iload_n (k0 := 3) B 3 (by decide +kernel) rfl rfl ?_
                refine aw_iload (i := 4) B 4 (by decide +kernel) rfl ?_
                refine aw_iload (i := 5) B 5 (by decide +kernel) rfl ?_
                refine aw_cVV B (c_X9_copy (eLa E) hG v1 v2 v3 v4 v5 M) cvX10_370 rfl rfl (Nat.le_of_ble_eq_true rfl) rfl (Nat.le_of_ble_eq_true rfl) (by decide +kernel) rfl (fun M16 => ?_)
                refine aw_iload (i := 5) B 5 (by decide +kernel) rfl ?_
                exact aw_ireturn B (by decide +kernel) rfl
              · refine aw_bipush (n := -13) (v := (-13 : Int32)) B (by decide +kernel) (by decide) ?_
                exact aw_ireturn B (by decide +kernel) rfl
          · refine aw_bipush (n := -12) (v := (-12 : Int32)) B (by decide +kernel) (by decide) ?_
            exact aw_ireturn B (by decide +kernel) rfl
        · refine aw_bipush (n := -11) (v := (-11 : Int32)) B (by decide +kernel) (by decide) ?_
          exact aw_ireturn B (by decide +kernel) rfl
    · refine aw_iconst (n := -1) (v := (-1 : Int32)) B (by decide +kernel) (by decide) ?_
      exact aw_ireturn B (by decide +kernel) rfl
theorem c_X10_shift (l : Launch) {G : GW} (hG : ab_ok G) (v1 : Int32) (v2 : Int32) (v3 : Int32) (v4 : Int32) (v5 : Int32) (M : Mem) : AC l G yX10_shift cX10_shift 6 (some .int) 5 [.ref 0, .int v1, .int v2, .int v3, .int v4, .int v5] M embI (f_X10_shift v1 v2 v3 v4 v5 M) := AC.of hG (by decide) (Nat.le_of_ble_eq_true rfl) (fun E hE B => by subst hE; exact w_X10_shift hG B v1 v2 v3 v4 v5 M)
def f_X11_shift_L150 : Nat → Int32 → Int32 → Int32 → Int32 → Mem → Option (Int32 × Mem)
  | 0, _, _, _, _, _ => none
  | n + 1, v3, v4, v5, v6, M => (if v5 ≤ v6 then (some (v5, M)) else ck (okL 76 v6) (ck (okL 75 ((((60 : Int32) * v3) + v4) + v6)) (lt (wL M 75 ((((60 : Int32) * v3) + v4) + v6).toNatClampNeg (M.2.1 76 v6.toNatClampNeg)) fun M1 => f_X11_shift_L150 n v3 v4 v5 (v6 + 1) M1)))
set_option maxRecDepth 100000 in
set_option maxHeartbeats 4000000 in
theorem w_X11_shift_L150 {G : GW} {E : EE} (hG : ab_ok G) (B : Bx G E RX11 cX11_shift 7 4 (some .int)) : ∀ (n : Nat) (v3 : Int32) (v4 : Int32) (v5 : Int32) (v6 : Int32) (M : Mem), AWo G E cX11_shift 7 (ab_Q G E embI) 150 [(0, .ref 47), (3, .int v3), (4, .int v4), (5, .int v5), (6, .int v6)] [] M (f_X11_shift_L150 n v3 v4 v5 v6 M) := by
  intro n
  induction n with
  | zero => intro _ _ _ _ _; exact aw_none
  | succ n ih =>
    intro v3 v4 v5 v6 M
    rw [f_X11_shift_L150]
    refine aw_iload (i := 6) B 4 (by decide +kernel) rfl ?_
    refine aw_iload (i := 5) B 3 (by decide +kernel) rfl ?_
    refine aw_icmp_ge (off := 31) B 185 (by decide +kernel) (by decide) (fun _ => ?_) (fun _ => ?_)
    · refine aw_iload (i := 5) B 3 (by decide +kernel) rfl ?_
      exact aw_ireturn B (by decide +kernel) rfl
    · refine aw_aload_n (k0 := 0) B 0 (by decide +kernel) rfl rfl ?_
      refine aw_getr (c := 47) B lkX11_93 (by decide +kernel) rfl (r := 75) rfl ?_
      refine aw_bipush (n := 60) (v := (60 : Int32)) B (by decide +kernel) (by decide) ?_
      refine aw_iload_n (k0 := 3) B 1 (by decide +kernel) rfl rfl ?_
      refine aw_imul B (by decide +kernel) ?_
      refine aw_iload (i := 4) B 2 (by decide +kernel) rfl ?_
      refine aw_iadd B (by decide +kernel) ?_
      refine aw_iload (i := 6) B 4 (by decide +kernel) rfl ?_
      refine aw_iadd B (by decide +kernel) ?_
      refine aw_aload_n (k0 := 0) B 0 (by decide +kernel) rfl rfl ?_
      refine aw_getr (c := 47) B lkX11_96 (by decide +kernel) rfl (r := 76) rfl ?_
      refine aw_iload (i := 6) B 4 (by decide +kernel) rfl ?_
      refine aw_laload B (by decide +kernel) ?_
      refine aw_lastore B (by decide +kernel) (fun M1 => ?_)
      refine aw_iinc (i := 6) (n := 1) B 4 [(6, .int (v6 + 1)), (0, .ref 47), (3, .int v3), (4, .int v4), (5, .int v5)] (by decide +kernel) rfl (Nat.le_of_ble_eq_true rfl) (v6 + 1) (ab_inc (by decide)) rfl ?_
      refine aw_goto (off := -32) B 150 (by decide +kernel) (by decide) ?_
      exact aw_sub [1, 2, 3, 4, 0] rfl (ih _ _ _ _ _)
def f_X11_shift_L113 : Nat → Int32 → Int32 → Int32 → Int32 → Int32 → Int32 → Mem → Option (Int32 × Mem)
  | 0, _, _, _, _, _, _, _ => none
  | n + 1, v1, v2, v3, v4, v5, v6, M => (if v5 ≤ v6 then f_X11_shift_L150 FU v3 v4 v5 (0 : Int32) M else ck (okL 75 ((((60 : Int32) * v1) + v2) + v6)) (ck (okL 76 v6) (lt (wL M 76 v6.toNatClampNeg (M.2.1 75 ((((60 : Int32) * v1) + v2) + v6).toNatClampNeg)) fun M1 => f_X11_shift_L113 n v1 v2 v3 v4 v5 (v6 + 1) M1)))
set_option maxRecDepth 100000 in
set_option maxHeartbeats 4000000 in
theorem w_X11_shift_L113 {G : GW} {E : EE} (hG : ab_ok G) (B : Bx G E RX11 cX11_shift 7 4 (some .int)) : ∀ (n : Nat) (v1 : Int32) (v2 : Int32) (v3 : Int32) (v4 : Int32) (v5 : Int32) (v6 : Int32) (M : Mem), AWo G E cX11_shift 7 (ab_Q G E embI) 113 [(0, .ref 47), (1, .int v1), (2, .int v2), (3, .int v3), (4, .int v4), (5, .int v5), (6, .int v6)] [] M (f_X11_shift_L113 n v1 v2 v3 v4 v5 v6 M) := by
  intro n
  induction n with
  | zero => intro _ _ _ _ _ _ _; exact aw_none
  | succ n ih =>
    intro v1 v2 v3 v4 v5 v6 M
    rw [f_X11_shift_L113]
    refine aw_iload (i := 6) B 6 (by decide +kernel) rfl ?_
    refine aw_iload (i := 5) B 5 (by decide +kernel) rfl ?_
    refine aw_icmp_ge (off := 30) B 147 (by decide +kernel) (by decide) (fun _ => ?_) (fun _ => ?_)
    · refine aw_iconst (n := 0) (v := (0 : Int32)) B (by decide +kernel) (by decide) ?_
      refine aw_istore (i := 6) B [(6, .int (0 : Int32)), (0, .ref 47), (1, .int v1), (2, .int v2), (3, .int v3), (4, .int v4), (5, .int v5)] (by decide +kernel) (Nat.le_of_ble_eq_true rfl) rfl ?_
      exact aw_sub [1, 4, 5, 6, 0] rfl (w_X11_shift_L150 hG B FU _ _ _ _ _)
    · refine aw_aload_n (k0 := 0) B 0 (by decide +kernel) rfl rfl ?_
      refine aw_getr (c := 47) B lkX11_96 (by decide +kernel) rfl (r := 76) rfl ?_
      refine aw_iload (i := 6) B 6 (by decide +kernel) rfl ?_
      refine aw_aload_n (k0 := 0) B 0 (by decide +kernel) rfl rfl ?_
      refine aw_getr (c := 47) B lkX11_93 (by decide +kernel) rfl (r := 75) rfl ?_
      refine aw_bipush (n := 60) (v := (60 : Int32)) B (by decide +kernel) (by decide) ?_
      refine aw_iload_n (k0 := 1) B 1 (by decide +kernel) rfl rfl ?_
      refine aw_imul B (by decide +kernel) ?_
      refine aw_iload_n (k0 := 2) B 2 (by decide +kernel) rfl rfl ?_
      refine aw_iadd B (by decide +kernel) ?_
      refine aw_iload (i := 6) B 6 (by decide +kernel) rfl ?_
      refine aw_iadd B (by decide +kernel) ?_
      refine aw_laload B (by decide +kernel) ?_
      refine aw_lastore B (by decide +kernel) (fun M1 => ?_)
      refine aw_iinc (i := 6) (n := 1) B 6 [(6, .int (v6 + 1)), (0, .ref 47), (1, .int v1), (2, .int v2), (3, .int v3), (4, .int v4), (5, .int v5)] (by decide +kernel) rfl (Nat.le_of_ble_eq_true rfl) (v6 + 1) (ab_inc (by decide)) rfl ?_
      refine aw_goto (off := -31) B 113 (by decide +kernel) (by decide) ?_
      exact aw_sub [1, 2, 3, 4, 5, 6, 0] rfl (ih _ _ _ _ _ _ _)
def f_X11_shift (v1 : Int32) (v2 : Int32) (v3 : Int32) (v4 : Int32) (v5 : Int32) (M : Mem) : Option (Int32 × Mem) := (f_X11_isShelf v1).bind fun x1 => (if x1 = 0 then (some ((-1 : Int32), M)) else (f_X11_isShelf v3).bind fun x3 => (if x3 = 0 then (some ((-1 : Int32), M)) else ck (okI 73 v1) ((if (M.1 73 v1.toNatClampNeg) < 0 then (some ((-11 : Int32), M)) else ck (okI 73 v3) ((if 0 ≤ (M.1 73 v3.toNatClampNeg) then ck (okI 73 v1) ((if (M.1 73 v1.toNatClampNeg) < (50 : Int32) then (some ((-12 : Int32), M)) else ck (okI 73 v1) (ck (okI 73 v3) ((if (M.1 73 v1.toNatClampNeg) = (M.1 73 v3.toNatClampNeg) then (if v5 < 0 then (some ((-13 : Int32), M)) else (if v2 < 0 then (some ((-13 : Int32), M)) else (if v4 < 0 then (some ((-13 : Int32), M)) else ck (okI 74 v1) ((if ((M.1 74 v1.toNatClampNeg) - v5) < v2 then (some ((-13 : Int32), M)) else ck (okI 74 v3) ((if v4 ≤ ((M.1 74 v3.toNatClampNeg) - v5) then f_X11_shift_L113 FU v1 v2 v3 v4 v5 (0 : Int32) M else (some ((-13 : Int32), M))))))))) else (some ((-12 : Int32), M))))))) else (some ((-11 : Int32), M))))))))
set_option maxRecDepth 100000 in
set_option maxHeartbeats 4000000 in
theorem w_X11_shift {G : GW} {E : EE} (hG : ab_ok G) (B : Bx G E RX11 cX11_shift 7 4 (some .int)) (v1 : Int32) (v2 : Int32) (v3 : Int32) (v4 : Int32) (v5 : Int32) (M : Mem) : AWo G E cX11_shift 7 (ab_Q G E embI) 0 [(0, .ref 47), (1, .int v1), (2, .int v2), (3, .int v3), (4, .int v4), (5, .int v5)] [] M (f_X11_shift v1 v2 v3 v4 v5 M) := by
  unfold f_X11_shift
  refine aw_iload_n (k0 := 1) B 1 (by decide +kernel) rfl rfl ?_
  refine aw_cSR B (c_X11_isShelf (eLa E) hG v1 M) csX11_129 (Nat.le_of_ble_eq_true rfl) rfl (Nat.le_of_ble_eq_true rfl) (by decide +kernel) rfl (fun x1 => ?_)
  refine aw_if_eq (off := 10) B 14 (by decide +kernel) (by decide) (fun _ => ?_) (fun _ => ?_)
  · refine aw_iconst (n := -1) (v := (-1 : Int32)) B (by decide +kernel) (by decide) ?_
    exact aw_ireturn B (by decide +kernel) rfl
  · refine aw_iload_n (k0 := 3) B 3 (by decide +kernel) rfl rfl ?_
    refine aw_cSR B (c_X11_isShelf (eLa E) hG v3 M) csX11_129 (Nat.le_of_ble_eq_true rfl) rfl (Nat.le_of_ble_eq_true rfl) (by decide +kernel) rfl (fun x3 => ?_)
    refine aw_if_ne (off := 5) B 16 (by decide +kernel) (by decide) (fun _ => ?_) (fun _ => ?_)
    · refine aw_aload_n (k0 := 0) B 0 (by decide +kernel) rfl rfl ?_
      refine aw_getr (c := 47) B lkX11_87 (by decide +kernel) rfl (r := 73) rfl ?_
      refine aw_iload_n (k0 := 1) B 1 (by decide +kernel) rfl rfl ?_
      refine aw_iaload B (by decide +kernel) ?_
      refine aw_if_lt (off := 12) B 34 (by decide +kernel) (by decide) (fun _ => ?_) (fun _ => ?_)
      · refine aw_bipush (n := -11) (v := (-11 : Int32)) B (by decide +kernel) (by decide) ?_
        exact aw_ireturn B (by decide +kernel) rfl
      · refine aw_aload_n (k0 := 0) B 0 (by decide +kernel) rfl rfl ?_
        refine aw_getr (c := 47) B lkX11_87 (by decide +kernel) rfl (r := 73) rfl ?_
        refine aw_iload_n (k0 := 3) B 3 (by decide +kernel) rfl rfl ?_
        refine aw_iaload B (by decide +kernel) ?_
        refine aw_if_ge (off := 6) B 37 (by decide +kernel) (by decide) (fun _ => ?_) (fun _ => ?_)
        · refine aw_aload_n (k0 := 0) B 0 (by decide +kernel) rfl rfl ?_
          refine aw_getr (c := 47) B lkX11_87 (by decide +kernel) rfl (r := 73) rfl ?_
          refine aw_iload_n (k0 := 1) B 1 (by decide +kernel) rfl rfl ?_
          refine aw_iaload B (by decide +kernel) ?_
          refine aw_bipush (n := 50) (v := (50 : Int32)) B (by decide +kernel) (by decide) ?_
          refine aw_icmp_lt (off := 18) B 63 (by decide +kernel) (by decide) (fun _ => ?_) (fun _ => ?_)
          · refine aw_bipush (n := -12) (v := (-12 : Int32)) B (by decide +kernel) (by decide) ?_
            exact aw_ireturn B (by decide +kernel) rfl
          · refine aw_aload_n (k0 := 0) B 0 (by decide +kernel) rfl rfl ?_
            refine aw_getr (c := 47) B lkX11_87 (by decide +kernel) rfl (r := 73) rfl ?_
            refine aw_iload_n (k0 := 1) B 1 (by decide +kernel) rfl rfl ?_
            refine aw_iaload B (by decide +kernel) ?_
            refine aw_aload_n (k0 := 0) B 0 (by decide +kernel) rfl rfl ?_
            refine aw_getr (c := 47) B lkX11_87 (by decide +kernel) rfl (r := 73) rfl ?_
            refine aw_iload_n (k0 := 3) B 3 (by decide +kernel) rfl rfl ?_
            refine aw_iaload B (by decide +kernel) ?_
            refine aw_icmp_eq (off := 6) B 66 (by decide +kernel) (by decide) (fun _ => ?_) (fun _ => ?_)
            · refine aw_iload (i := 5) B 5 (by decide +kernel) rfl ?_
              refine aw_if_lt (off := 39) B 107 (by decide +kernel) (by decide) (fun _ => ?_) (fun _ => ?_)
              · refine aw_bipush (n := -13) (v := (-13 : Int32)) B (by decide +kernel) (by decide) ?_
                exact aw_ireturn B (by decide +kernel) rfl
              · refine aw_iload_n (k0 := 2) B 2 (by decide +kernel) rfl rfl ?_
                refine aw_if_lt (off := 35) B 107 (by decide +kernel) (by decide) (fun _ => ?_) (fun _ => ?_)
                · refine aw_bipush (n := -13) (v := (-13 : Int32)) B (by decide +kernel) (by decide) ?_
                  exact aw_ireturn B (by decide +kernel) rfl
                · refine aw_iload (i := 4) B 4 (by decide +kernel) rfl ?_
                  refine aw_if_lt (off := 30) B 107 (by decide +kernel) (by decide) (fun _ => ?_) (fun _ => ?_)
                  · refine aw_bipush (n := -13) (v := (-13 : Int32)) B (by decide +kernel) (by decide) ?_
                    exact aw_ireturn B (by decide +kernel) rfl
                  · refine aw_iload_n (k0 := 2) B 2 (by decide +kernel) rfl rfl ?_
                    refine aw_aload_n (k0 := 0) B 0 (by decide +kernel) rfl rfl ?_
                    refine aw_getr (c := 47) B lkX11_90 (by decide +kernel) rfl (r := 74) rfl ?_
                    refine aw_iload_n (k0 := 1) B 1 (by decide +kernel) rfl rfl ?_
                    refine aw_iaload B (by decide +kernel) ?_
                    refine aw_iload (i := 5) B 5 (by decide +kernel) rfl ?_
                    refine aw_isub B (by decide +kernel) ?_
                    refine aw_icmp_gt (off := 17) B 107 (by decide +kernel) (by decide) (fun _ => ?_) (fun _ => ?_)
                    · refine aw_bipush (n := -13) (v := (-13 : Int32)) B (by decide +kernel) (by decide) ?_
                      exact aw_ireturn B (by decide +kernel) rfl
                    · refine aw_iload (i := 4) B 4 (by decide +kernel) rfl ?_
                      refine aw_aload_n (k0 := 0) B 0 (by decide +kernel) rfl rfl ?_
                      refine aw_getr (c := 47) B lkX11_90 (by decide +kernel) rfl (r := 74) rfl ?_
                      refine aw_iload_n (k0 := 3) B 3 (by decide +kernel) rfl rfl ?_
                      refine aw_iaload B (by decide +kernel) ?_
                      refine aw_iload (i := 5) B 5 (by decide +kernel) rfl ?_
                      refine aw_isub B (by decide +kernel) ?_
                      refine aw_icmp_le (off := 6) B 110 (by decide +kernel) (by decide) (fun _ => ?_) (fun _ => ?_)
                      · refine aw_iconst (n := 0) (v := (0 : Int32)) B (by decide +kernel) (by decide) ?_
                        refine aw_istore (i := 6) B [(6, .int (0 : Int32)), (0, .ref 47), (1, .int v1), (2, .int v2), (3, .int v3), (4, .int v4), (5, .int v5)] (by decide +kernel) (Nat.le_of_ble_eq_true rfl) rfl ?_
                        exact aw_sub [1, 2, 3, 4, 5, 6, 0] rfl (w_X11_shift_L113 hG B FU _ _ _ _ _ _ _)
                      · refine aw_bipush (n := -13) (v := (-13 : Int32)) B (by decide +kernel) (by decide) ?_
                        exact aw_ireturn B (by decide +kernel) rfl
            · refine aw_bipush (n := -12) (v := (-12 : Int32)) B (by decide +kernel) (by decide) ?_
              exact aw_ireturn B (by decide +kernel) rfl
        · refine aw_bipush (n := -11) (v := (-11 : Int32)) B (by decide +kernel) (by decide) ?_
          exact aw_ireturn B (by decide +kernel) rfl
    · refine aw_iconst (n := -1) (v := (-1 : Int32)) B (by decide +kernel) (by decide) ?_
      exact aw_ireturn B (by decide +kernel) rfl
theorem c_X11_shift (l : Launch) {G : GW} (hG : ab_ok G) (v1 : Int32) (v2 : Int32) (v3 : Int32) (v4 : Int32) (v5 : Int32) (M : Mem) : AC l G yX11_shift cX11_shift 7 (some .int) 4 [.ref 47, .int v1, .int v2, .int v3, .int v4, .int v5] M embI (f_X11_shift v1 v2 v3 v4 v5 M) := AC.of hG (by decide) (Nat.le_of_ble_eq_true rfl) (fun E hE B => by subst hE; exact w_X11_shift hG B v1 v2 v3 v4 v5 M)
def f_X9_bodyOn (v1 : Int32) (M : Mem) : Option Int32 := ck (okI 44 v1) ((if (M.1 44 v1.toNatClampNeg) = (5 : Int32) then ck (okI 45 v1) ((some (M.1 45 v1.toNatClampNeg))) else (some (-1 : Int32))))
set_option maxRecDepth 100000 in
set_option maxHeartbeats 4000000 in
theorem w_X9_bodyOn {G : GW} {E : EE} (hG : ab_ok G) (B : Bx G E RX9 cX9_bodyOn 2 2 (some .int)) (v1 : Int32) (M : Mem) : AWo G E cX9_bodyOn 2 (ab_Q G E (embRI M)) 0 [(0, .ref 43), (1, .int v1)] [] M (f_X9_bodyOn v1 M) := by
  unfold f_X9_bodyOn
  refine aw_aload_n (k0 := 0) B 0 (by decide +kernel) rfl rfl ?_
  refine aw_getr (c := 43) B lkX9_11 (by decide +kernel) rfl (r := 44) rfl ?_
  refine aw_iload_n (k0 := 1) B 1 (by decide +kernel) rfl rfl ?_
  refine aw_iaload B (by decide +kernel) ?_
  refine aw_iconst (n := 5) (v := (5 : Int32)) B (by decide +kernel) (by decide) ?_
  refine aw_icmp_ne (off := 12) B 19 (by decide +kernel) (by decide) (fun _ => ?_) (fun _ => ?_)
  · refine aw_iconst (n := -1) (v := (-1 : Int32)) B (by decide +kernel) (by decide) ?_
    exact aw_ireturn B (by decide +kernel) rfl
  · refine aw_aload_n (k0 := 0) B 0 (by decide +kernel) rfl rfl ?_
    refine aw_getr (c := 43) B lkX9_15 (by decide +kernel) rfl (r := 45) rfl ?_
    refine aw_iload_n (k0 := 1) B 1 (by decide +kernel) rfl rfl ?_
    refine aw_iaload B (by decide +kernel) ?_
    refine aw_goto (off := 4) B 20 (by decide +kernel) (by decide) ?_
    exact aw_ireturn B (by decide +kernel) rfl
theorem c_X9_bodyOn (l : Launch) {G : GW} (hG : ab_ok G) (v1 : Int32) (M : Mem) : AC l G yX9_bodyOn cX9_bodyOn 2 (some .int) 2 [.ref 43, .int v1] M (embRI M) (f_X9_bodyOn v1 M) := AC.of hG (by decide) (Nat.le_of_ble_eq_true rfl) (fun E hE B => by subst hE; exact w_X9_bodyOn hG B v1 M)
def f_X1_kindOf (v1 : Int32) (M : Mem) : Option Int32 := (f_X1_has v1 M).bind fun x1 => (if x1 = 0 then (some (-1 : Int32)) else ck (okI 42 v1) ((some (M.1 42 v1.toNatClampNeg))))
set_option maxRecDepth 100000 in
set_option maxHeartbeats 4000000 in
theorem w_X1_kindOf {G : GW} {E : EE} (hG : ab_ok G) (B : Bx G E RX1 cX1_kindOf 2 3 (some .int)) (v1 : Int32) (M : Mem) : AWo G E cX1_kindOf 2 (ab_Q G E (embRI M)) 0 [(0, .ref 40), (1, .int v1)] [] M (f_X1_kindOf v1 M) := by
  unfold f_X1_kindOf
  refine aw_aload_n (k0 := 0) B 0 (by decide +kernel) rfl rfl ?_
  refine aw_iload_n (k0 := 1) B 1 (by decide +kernel) rfl rfl ?_
  refine aw_cVR B (c_X1_has (eLa E) hG v1 M) cvX1_29 rfl rfl (Nat.le_of_ble_eq_true rfl) rfl (Nat.le_of_ble_eq_true rfl) (by decide +kernel) rfl (fun x1 => ?_)
  refine aw_if_eq (off := 12) B 17 (by decide +kernel) (by decide) (fun _ => ?_) (fun _ => ?_)
  · refine aw_iconst (n := -1) (v := (-1 : Int32)) B (by decide +kernel) (by decide) ?_
    exact aw_ireturn B (by decide +kernel) rfl
  · refine aw_aload_n (k0 := 0) B 0 (by decide +kernel) rfl rfl ?_
    refine aw_getr (c := 40) B lkX1_15 (by decide +kernel) rfl (r := 42) rfl ?_
    refine aw_iload_n (k0 := 1) B 1 (by decide +kernel) rfl rfl ?_
    refine aw_iaload B (by decide +kernel) ?_
    refine aw_goto (off := 4) B 18 (by decide +kernel) (by decide) ?_
    exact aw_ireturn B (by decide +kernel) rfl
theorem c_X1_kindOf (l : Launch) {G : GW} (hG : ab_ok G) (v1 : Int32) (M : Mem) : AC l G yX1_kindOf cX1_kindOf 2 (some .int) 3 [.ref 40, .int v1] M (embRI M) (f_X1_kindOf v1 M) := AC.of hG (by decide) (Nat.le_of_ble_eq_true rfl) (fun E hE B => by subst hE; exact w_X1_kindOf hG B v1 M)
def f_X1_isUnder_L4 (M : Mem) : Nat → Int32 → Int32 → Int32 → Option Int32
  | 0, _, _, _ => none
  | n + 1, v1, v2, v3 => (if (7 : Int32) < v3 then (some (0 : Int32)) else (f_X1_isKind v2).bind fun x1 => (if x1 = 0 then (some (0 : Int32)) else (if v2 = v1 then (some (1 : Int32)) else ck (okS 0 v2) (lt ((ab_st 0).getD v2.toNatClampNeg 0) fun x3 => f_X1_isUnder_L4 M n v1 x3 (v3 + 1)))))
set_option maxRecDepth 100000 in
set_option maxHeartbeats 4000000 in
theorem w_X1_isUnder_L4 {G : GW} {E : EE} (hG : ab_ok G) (M : Mem) (B : Bx G E RX1 cX1_isUnder 4 3 (some .boolean)) : ∀ (n : Nat) (v1 : Int32) (v2 : Int32) (v3 : Int32), AWo G E cX1_isUnder 4 (ab_Q G E (embRI M)) 4 [(1, .int v1), (2, .int v2), (3, .int v3)] [] M (f_X1_isUnder_L4 M n v1 v2 v3) := by
  intro n
  induction n with
  | zero => intro _ _ _; exact aw_none
  | succ n ih =>
    intro v1 v2 v3
    rw [f_X1_isUnder_L4]
    refine aw_iload_n (k0 := 3) B 2 (by decide +kernel) rfl rfl ?_
    refine aw_bipush (n := 7) (v := (7 : Int32)) B (by decide +kernel) (by decide) ?_
    refine aw_icmp_gt (off := 29) B 36 (by decide +kernel) (by decide) (fun _ => ?_) (fun _ => ?_)
    · refine aw_iconst (n := 0) (v := (0 : Int32)) B (by decide +kernel) (by decide) ?_
      exact aw_zreturnK B (by decide +kernel) rfl (by decide)
    · refine aw_iload_n (k0 := 2) B 1 (by decide +kernel) rfl rfl ?_
      refine aw_cSR B (c_X1_isKind (eLa E) hG v2 M) csX1_18 (Nat.le_of_ble_eq_true rfl) rfl (Nat.le_of_ble_eq_true rfl) (by decide +kernel) rfl (fun x1 => ?_)
      refine aw_if_eq (off := 22) B 36 (by decide +kernel) (by decide) (fun _ => ?_) (fun _ => ?_)
      · refine aw_iconst (n := 0) (v := (0 : Int32)) B (by decide +kernel) (by decide) ?_
        exact aw_zreturnK B (by decide +kernel) rfl (by decide)
      · refine aw_iload_n (k0 := 2) B 1 (by decide +kernel) rfl rfl ?_
        refine aw_iload_n (k0 := 1) B 0 (by decide +kernel) rfl rfl ?_
        refine aw_icmp_ne (off := 5) B 24 (by decide +kernel) (by decide) (fun _ => ?_) (fun _ => ?_)
        · refine aw_gets0 B lxX1_22 (by decide +kernel) ?_
          refine aw_iload_n (k0 := 2) B 1 (by decide +kernel) rfl rfl ?_
          refine aw_sld0 B (by decide +kernel) ?_
          refine aw_ltI (fun x3 => ?_)
          refine aw_istore_n (k0 := 2) B [(2, .int x3), (1, .int v1), (3, .int v3)] (by decide +kernel) rfl (Nat.le_of_ble_eq_true rfl) rfl ?_
          refine aw_iinc (i := 3) (n := 1) B 2 [(3, .int (v3 + 1)), (2, .int x3), (1, .int v1)] (by decide +kernel) rfl (Nat.le_of_ble_eq_true rfl) (v3 + 1) (ab_inc (by decide)) rfl ?_
          refine aw_goto (off := -29) B 4 (by decide +kernel) (by decide) ?_
          exact aw_sub [2, 1, 0] rfl (ih _ _ _)
        · refine aw_iconst (n := 1) (v := (1 : Int32)) B (by decide +kernel) (by decide) ?_
          exact aw_zreturnK B (by decide +kernel) rfl (by decide)
def f_X1_isUnder (v0 : Int32) (v1 : Int32) (M : Mem) : Option Int32 := f_X1_isUnder_L4 M FU v1 v0 (0 : Int32)
set_option maxRecDepth 100000 in
set_option maxHeartbeats 4000000 in
theorem w_X1_isUnder {G : GW} {E : EE} (hG : ab_ok G) (B : Bx G E RX1 cX1_isUnder 4 3 (some .boolean)) (v0 : Int32) (v1 : Int32) (M : Mem) : AWo G E cX1_isUnder 4 (ab_Q G E (embRI M)) 0 [(0, .int v0), (1, .int v1)] [] M (f_X1_isUnder v0 v1 M) := by
  unfold f_X1_isUnder
  refine aw_iload_n (k0 := 0) B 0 (by decide +kernel) rfl rfl ?_
  refine aw_istore_n (k0 := 2) B [(2, .int v0), (0, .int v0), (1, .int v1)] (by decide +kernel) rfl (Nat.le_of_ble_eq_true rfl) rfl ?_
  refine aw_iconst (n := 0) (v := (0 : Int32)) B (by decide +kernel) (by decide) ?_
  refine aw_istore_n (k0 := 3) B [(3, .int (0 : Int32)), (2, .int v0), (0, .int v0), (1, .int v1)] (by decide +kernel) rfl (Nat.le_of_ble_eq_true rfl) rfl ?_
  exact aw_sub [3, 1, 0] rfl (w_X1_isUnder_L4 hG M B FU _ _ _)
theorem c_X1_isUnder (l : Launch) {G : GW} (hG : ab_ok G) (v0 : Int32) (v1 : Int32) (M : Mem) : AC l G yX1_isUnder cX1_isUnder 4 (some .boolean) 3 [.int v0, .int v1] M (embRI M) (f_X1_isUnder v0 v1 M) := AC.of hG (by decide) (Nat.le_of_ble_eq_true rfl) (fun E hE B => by subst hE; exact w_X1_isUnder hG B v0 v1 M)
def f_X10_taken (v1 : Int32) (v2 : Int32) (M : Mem) : Option Int32 := (f_X9_isShelf v1).bind fun x1 => (if x1 = 0 then (some (-1 : Int32)) else (f_X1_isKind v2).bind fun x3 => (if x3 = 0 then (some (-1 : Int32)) else (f_X9_isEmpty v1 M).bind fun x5 => (if x5 = 0 then (f_X9_bodyOn v1 M).bind fun x7 => (f_X1_kindOf x7 M).bind fun x9 => (f_X1_isUnder x9 v2 M).bind fun x11 => (if x11 = 0 then (some (-12 : Int32)) else (some x9)) else (some (-11 : Int32)))))
set_option maxRecDepth 100000 in
set_option maxHeartbeats 4000000 in
theorem w_X10_taken {G : GW} {E : EE} (hG : ab_ok G) (B : Bx G E RX10 cX10_taken 4 4 (some .int)) (v1 : Int32) (v2 : Int32) (M : Mem) : AWo G E cX10_taken 4 (ab_Q G E (embRI M)) 0 [(0, .ref 0), (1, .int v1), (2, .int v2)] [] M (f_X10_taken v1 v2 M) := by
  unfold f_X10_taken
  refine aw_iload_n (k0 := 1) B 1 (by decide +kernel) rfl rfl ?_
  refine aw_cSR B (c_X9_isShelf (eLa E) hG v1 M) csX10_94 (Nat.le_of_ble_eq_true rfl) rfl (Nat.le_of_ble_eq_true rfl) (by decide +kernel) rfl (fun x1 => ?_)
  refine aw_if_eq (off := 10) B 14 (by decide +kernel) (by decide) (fun _ => ?_) (fun _ => ?_)
  · refine aw_iconst (n := -1) (v := (-1 : Int32)) B (by decide +kernel) (by decide) ?_
    exact aw_ireturn B (by decide +kernel) rfl
  · refine aw_iload_n (k0 := 2) B 2 (by decide +kernel) rfl rfl ?_
    refine aw_cSR B (c_X1_isKind (eLa E) hG v2 M) csX10_329 (Nat.le_of_ble_eq_true rfl) rfl (Nat.le_of_ble_eq_true rfl) (by decide +kernel) rfl (fun x3 => ?_)
    refine aw_if_ne (off := 5) B 16 (by decide +kernel) (by decide) (fun _ => ?_) (fun _ => ?_)
    · refine aw_aload_n (k0 := 0) B 0 (by decide +kernel) rfl rfl ?_
      refine aw_getr (c := 0) B lkX10_75 (by decide +kernel) rfl (r := 43) rfl ?_
      refine aw_iload_n (k0 := 1) B 1 (by decide +kernel) rfl rfl ?_
      refine aw_cVR B (c_X9_isEmpty (eLa E) hG v1 M) cvX10_97 rfl rfl (Nat.le_of_ble_eq_true rfl) rfl (Nat.le_of_ble_eq_true rfl) (by decide +kernel) rfl (fun x5 => ?_)
      refine aw_if_eq (off := 6) B 30 (by decide +kernel) (by decide) (fun _ => ?_) (fun _ => ?_)
      · refine aw_aload_n (k0 := 0) B 0 (by decide +kernel) rfl rfl ?_
        refine aw_getr (c := 0) B lkX10_68 (by decide +kernel) rfl (r := 40) rfl ?_
        refine aw_aload_n (k0 := 0) B 0 (by decide +kernel) rfl rfl ?_
        refine aw_getr (c := 0) B lkX10_75 (by decide +kernel) rfl (r := 43) rfl ?_
        refine aw_iload_n (k0 := 1) B 1 (by decide +kernel) rfl rfl ?_
        refine aw_cVR B (c_X9_bodyOn (eLa E) hG v1 M) cvX10_374 rfl rfl (Nat.le_of_ble_eq_true rfl) rfl (Nat.le_of_ble_eq_true rfl) (by decide +kernel) rfl (fun x7 => ?_)
        refine aw_cVR B (c_X1_kindOf (eLa E) hG x7 M) cvX10_377 rfl rfl (Nat.le_of_ble_eq_true rfl) rfl (Nat.le_of_ble_eq_true rfl) (by decide +kernel) rfl (fun x9 => ?_)
        refine aw_istore_n (k0 := 3) B [(3, .int x9), (0, .ref 0), (1, .int v1), (2, .int v2)] (by decide +kernel) rfl (Nat.le_of_ble_eq_true rfl) rfl ?_
        refine aw_iload_n (k0 := 3) B 0 (by decide +kernel) rfl rfl ?_
        refine aw_iload_n (k0 := 2) B 3 (by decide +kernel) rfl rfl ?_
        refine aw_cSR B (c_X1_isUnder (eLa E) hG x9 v2 M) csX10_380 (Nat.le_of_ble_eq_true rfl) rfl (Nat.le_of_ble_eq_true rfl) (by decide +kernel) rfl (fun x11 => ?_)
        refine aw_if_eq (off := 7) B 58 (by decide +kernel) (by decide) (fun _ => ?_) (fun _ => ?_)
        · refine aw_bipush (n := -12) (v := (-12 : Int32)) B (by decide +kernel) (by decide) ?_
          exact aw_ireturn B (by decide +kernel) rfl
        · refine aw_iload_n (k0 := 3) B 0 (by decide +kernel) rfl rfl ?_
          refine aw_goto (off := 5) B 60 (by decide +kernel) (by decide) ?_
          exact aw_ireturn B (by decide +kernel) rfl
      · refine aw_bipush (n := -11) (v := (-11 : Int32)) B (by decide +kernel) (by decide) ?_
        exact aw_ireturn B (by decide +kernel) rfl
    · refine aw_iconst (n := -1) (v := (-1 : Int32)) B (by decide +kernel) (by decide) ?_
      exact aw_ireturn B (by decide +kernel) rfl
theorem c_X10_taken (l : Launch) {G : GW} (hG : ab_ok G) (v1 : Int32) (v2 : Int32) (M : Mem) : AC l G yX10_taken cX10_taken 4 (some .int) 4 [.ref 0, .int v1, .int v2] M (embRI M) (f_X10_taken v1 v2 M) := AC.of hG (by decide) (Nat.le_of_ble_eq_true rfl) (fun E hE B => by subst hE; exact w_X10_taken hG B v1 v2 M)
def f_X11_kindOf (v1 : Int32) (M : Mem) : Option Int32 := ck (okI 71 v1) ((some (M.1 71 v1.toNatClampNeg)))
set_option maxRecDepth 100000 in
set_option maxHeartbeats 4000000 in
theorem w_X11_kindOf {G : GW} {E : EE} (hG : ab_ok G) (B : Bx G E RX11 cX11_kindOf 2 2 (some .int)) (v1 : Int32) (M : Mem) : AWo G E cX11_kindOf 2 (ab_Q G E (embRI M)) 0 [(0, .ref 47), (1, .int v1)] [] M (f_X11_kindOf v1 M) := by
  unfold f_X11_kindOf
  refine aw_aload_n (k0 := 0) B 0 (by decide +kernel) rfl rfl ?_
  refine aw_getr (c := 47) B lkX11_81 (by decide +kernel) rfl (r := 71) rfl ?_
  refine aw_iload_n (k0 := 1) B 1 (by decide +kernel) rfl rfl ?_
  refine aw_iaload B (by decide +kernel) ?_
  exact aw_ireturn B (by decide +kernel) rfl
theorem c_X11_kindOf (l : Launch) {G : GW} (hG : ab_ok G) (v1 : Int32) (M : Mem) : AC l G yX11_kindOf cX11_kindOf 2 (some .int) 2 [.ref 47, .int v1] M (embRI M) (f_X11_kindOf v1 M) := AC.of hG (by decide) (Nat.le_of_ble_eq_true rfl) (fun E hE B => by subst hE; exact w_X11_kindOf hG B v1 M)
def f_X11_above (v0 : Int32) : Option Int32 := (if v0 = (3 : Int32) then (some (2 : Int32)) else (if v0 = (4 : Int32) then (some (1 : Int32)) else (if v0 = (5 : Int32) then (some (3 : Int32)) else (if v0 = (7 : Int32) then (some (4 : Int32)) else (some (0 : Int32))))))
set_option maxRecDepth 100000 in
set_option maxHeartbeats 4000000 in
theorem w_X11_above {G : GW} {E : EE} (hG : ab_ok G) (B : Bx G E RX11 cX11_above 1 2 (some .int)) (v0 : Int32) (M : Mem) : AWo G E cX11_above 1 (ab_Q G E (embRI M)) 0 [(0, .int v0)] [] M (f_X11_above v0) := by
  unfold f_X11_above
  refine aw_iload_n (k0 := 0) B 0 (by decide +kernel) rfl rfl ?_
  refine aw_iconst (n := 3) (v := (3 : Int32)) B (by decide +kernel) (by decide) ?_
  refine aw_icmp_ne (off := 7) B 9 (by decide +kernel) (by decide) (fun _ => ?_) (fun _ => ?_)
  · refine aw_iload_n (k0 := 0) B 0 (by decide +kernel) rfl rfl ?_
    refine aw_iconst (n := 4) (v := (4 : Int32)) B (by decide +kernel) (by decide) ?_
    refine aw_icmp_ne (off := 7) B 18 (by decide +kernel) (by decide) (fun _ => ?_) (fun _ => ?_)
    · refine aw_iload_n (k0 := 0) B 0 (by decide +kernel) rfl rfl ?_
      refine aw_iconst (n := 5) (v := (5 : Int32)) B (by decide +kernel) (by decide) ?_
      refine aw_icmp_ne (off := 7) B 27 (by decide +kernel) (by decide) (fun _ => ?_) (fun _ => ?_)
      · refine aw_iload_n (k0 := 0) B 0 (by decide +kernel) rfl rfl ?_
        refine aw_bipush (n := 7) (v := (7 : Int32)) B (by decide +kernel) (by decide) ?_
        refine aw_icmp_ne (off := 7) B 37 (by decide +kernel) (by decide) (fun _ => ?_) (fun _ => ?_)
        · refine aw_iconst (n := 0) (v := (0 : Int32)) B (by decide +kernel) (by decide) ?_
          exact aw_ireturn B (by decide +kernel) rfl
        · refine aw_iconst (n := 4) (v := (4 : Int32)) B (by decide +kernel) (by decide) ?_
          refine aw_goto (off := 4) B 38 (by decide +kernel) (by decide) ?_
          exact aw_ireturn B (by decide +kernel) rfl
      · refine aw_iconst (n := 3) (v := (3 : Int32)) B (by decide +kernel) (by decide) ?_
        refine aw_goto (off := 14) B 38 (by decide +kernel) (by decide) ?_
        exact aw_ireturn B (by decide +kernel) rfl
    · refine aw_iconst (n := 1) (v := (1 : Int32)) B (by decide +kernel) (by decide) ?_
      refine aw_goto (off := 23) B 38 (by decide +kernel) (by decide) ?_
      exact aw_ireturn B (by decide +kernel) rfl
  · refine aw_iconst (n := 2) (v := (2 : Int32)) B (by decide +kernel) (by decide) ?_
    refine aw_goto (off := 32) B 38 (by decide +kernel) (by decide) ?_
    exact aw_ireturn B (by decide +kernel) rfl
theorem c_X11_above (l : Launch) {G : GW} (hG : ab_ok G) (v0 : Int32) (M : Mem) : AC l G yX11_above cX11_above 1 (some .int) 2 [.int v0] M (embRI M) (f_X11_above v0) := AC.of hG (by decide) (Nat.le_of_ble_eq_true rfl) (fun E hE B => by subst hE; exact w_X11_above hG B v0 M)
def f_X11_taken_b75 (M : Mem) (v1 : Int32) (v2 : Int32) (v3 : Int32) : Option Int32 := (if v3 = v2 then ck (okI 73 v1) ((f_X11_kindOf (M.1 73 v1.toNatClampNeg) M).bind fun x1 => (some x1)) else (some (-12 : Int32)))
set_option maxRecDepth 100000 in
set_option maxHeartbeats 4000000 in
theorem w_X11_taken_b75 {G : GW} {E : EE} (hG : ab_ok G) (M : Mem) (B : Bx G E RX11 cX11_taken 4 4 (some .int)) (v1 : Int32) (v2 : Int32) (v3 : Int32) : AWo G E cX11_taken 4 (ab_Q G E (embRI M)) 75 [(0, .ref 47), (1, .int v1), (2, .int v2), (3, .int v3)] [] M (f_X11_taken_b75 M v1 v2 v3) := by
  unfold f_X11_taken_b75
  refine aw_iload_n (k0 := 3) B 3 (by decide +kernel) rfl rfl ?_
  refine aw_iload_n (k0 := 2) B 2 (by decide +kernel) rfl rfl ?_
  refine aw_icmp_ne (off := 16) B 93 (by decide +kernel) (by decide) (fun _ => ?_) (fun _ => ?_)
  · refine aw_bipush (n := -12) (v := (-12 : Int32)) B (by decide +kernel) (by decide) ?_
    exact aw_ireturn B (by decide +kernel) rfl
  · refine aw_aload_n (k0 := 0) B 0 (by decide +kernel) rfl rfl ?_
    refine aw_aload_n (k0 := 0) B 0 (by decide +kernel) rfl rfl ?_
    refine aw_getr (c := 47) B lkX11_87 (by decide +kernel) rfl (r := 73) rfl ?_
    refine aw_iload_n (k0 := 1) B 1 (by decide +kernel) rfl rfl ?_
    refine aw_iaload B (by decide +kernel) ?_
    refine aw_cVR B (c_X11_kindOf (eLa E) hG (M.1 73 v1.toNatClampNeg) M) cvX11_381 rfl rfl (Nat.le_of_ble_eq_true rfl) rfl (Nat.le_of_ble_eq_true rfl) (by decide +kernel) rfl (fun x1 => ?_)
    refine aw_goto (off := 5) B 95 (by decide +kernel) (by decide) ?_
    exact aw_ireturn B (by decide +kernel) rfl
def f_X11_taken_L58 (M : Mem) : Nat → Int32 → Int32 → Int32 → Option Int32
  | 0, _, _, _ => none
  | n + 1, v1, v2, v3 => (if v3 = v2 then f_X11_taken_b75 M v1 v2 v3 else (if v3 ≤ 0 then f_X11_taken_b75 M v1 v2 v3 else (f_X11_above v3).bind fun x1 => f_X11_taken_L58 M n v1 v2 x1))
set_option maxRecDepth 100000 in
set_option maxHeartbeats 4000000 in
theorem w_X11_taken_L58 {G : GW} {E : EE} (hG : ab_ok G) (M : Mem) (B : Bx G E RX11 cX11_taken 4 4 (some .int)) : ∀ (n : Nat) (v1 : Int32) (v2 : Int32) (v3 : Int32), AWo G E cX11_taken 4 (ab_Q G E (embRI M)) 58 [(0, .ref 47), (1, .int v1), (2, .int v2), (3, .int v3)] [] M (f_X11_taken_L58 M n v1 v2 v3) := by
  intro n
  induction n with
  | zero => intro _ _ _; exact aw_none
  | succ n ih =>
    intro v1 v2 v3
    rw [f_X11_taken_L58]
    refine aw_iload_n (k0 := 3) B 3 (by decide +kernel) rfl rfl ?_
    refine aw_iload_n (k0 := 2) B 2 (by decide +kernel) rfl rfl ?_
    refine aw_icmp_eq (off := 15) B 75 (by decide +kernel) (by decide) (fun _ => ?_) (fun _ => ?_)
    · exact w_X11_taken_b75 hG M B _ _ _
    · refine aw_iload_n (k0 := 3) B 3 (by decide +kernel) rfl rfl ?_
      refine aw_if_le (off := 11) B 75 (by decide +kernel) (by decide) (fun _ => ?_) (fun _ => ?_)
      · exact w_X11_taken_b75 hG M B _ _ _
      · refine aw_iload_n (k0 := 3) B 3 (by decide +kernel) rfl rfl ?_
        refine aw_cSR B (c_X11_above (eLa E) hG v3 M) csX11_384 (Nat.le_of_ble_eq_true rfl) rfl (Nat.le_of_ble_eq_true rfl) (by decide +kernel) rfl (fun x1 => ?_)
        refine aw_istore_n (k0 := 3) B [(3, .int x1), (0, .ref 47), (1, .int v1), (2, .int v2)] (by decide +kernel) rfl (Nat.le_of_ble_eq_true rfl) rfl ?_
        refine aw_goto (off := -14) B 58 (by decide +kernel) (by decide) ?_
        exact aw_sub [1, 2, 3, 0] rfl (ih _ _ _)
def f_X11_taken (v1 : Int32) (v2 : Int32) (M : Mem) : Option Int32 := (f_X11_isShelf v1).bind fun x1 => (if x1 = 0 then (some (-1 : Int32)) else (f_X11_within v2.toInt64 (0 : Int64) (7 : Int64)).bind fun x3 => (if x3 = 0 then (some (-1 : Int32)) else ck (okI 73 v1) ((if 0 ≤ (M.1 73 v1.toNatClampNeg) then ck (okI 73 v1) ((if (M.1 73 v1.toNatClampNeg) < (50 : Int32) then ck (okI 73 v1) ((f_X11_kindOf (M.1 73 v1.toNatClampNeg) M).bind fun x5 => f_X11_taken_L58 M FU v1 v2 x5) else (some (-12 : Int32)))) else (some (-11 : Int32))))))
set_option maxRecDepth 100000 in
set_option maxHeartbeats 4000000 in
theorem w_X11_taken {G : GW} {E : EE} (hG : ab_ok G) (B : Bx G E RX11 cX11_taken 4 4 (some .int)) (v1 : Int32) (v2 : Int32) (M : Mem) : AWo G E cX11_taken 4 (ab_Q G E (embRI M)) 0 [(0, .ref 47), (1, .int v1), (2, .int v2)] [] M (f_X11_taken v1 v2 M) := by
  unfold f_X11_taken
  refine aw_iload_n (k0 := 1) B 1 (by decide +kernel) rfl rfl ?_
  refine aw_cSR B (c_X11_isShelf (eLa E) hG v1 M) csX11_129 (Nat.le_of_ble_eq_true rfl) rfl (Nat.le_of_ble_eq_true rfl) (by decide +kernel) rfl (fun x1 => ?_)
  refine aw_if_eq (off := 15) B 19 (by decide +kernel) (by decide) (fun _ => ?_) (fun _ => ?_)
  · refine aw_iconst (n := -1) (v := (-1 : Int32)) B (by decide +kernel) (by decide) ?_
    exact aw_ireturn B (by decide +kernel) rfl
  · refine aw_iload_n (k0 := 2) B 2 (by decide +kernel) rfl rfl ?_
    refine aw_i2l B (by decide +kernel) ?_
    refine aw_lconst (n := 0) (v := (0 : Int64)) B (by decide +kernel) (by decide) ?_
    refine aw_ldc2 B (by decide +kernel) lwX11_343 ?_
    refine aw_cSR B (c_X11_within (eLa E) hG v2.toInt64 (0 : Int64) (7 : Int64) M) csX11_112 (Nat.le_of_ble_eq_true rfl) rfl (Nat.le_of_ble_eq_true rfl) (by decide +kernel) rfl (fun x3 => ?_)
    refine aw_if_ne (off := 5) B 21 (by decide +kernel) (by decide) (fun _ => ?_) (fun _ => ?_)
    · refine aw_aload_n (k0 := 0) B 0 (by decide +kernel) rfl rfl ?_
      refine aw_getr (c := 47) B lkX11_87 (by decide +kernel) rfl (r := 73) rfl ?_
      refine aw_iload_n (k0 := 1) B 1 (by decide +kernel) rfl rfl ?_
      refine aw_iaload B (by decide +kernel) ?_
      refine aw_if_ge (off := 6) B 33 (by decide +kernel) (by decide) (fun _ => ?_) (fun _ => ?_)
      · refine aw_aload_n (k0 := 0) B 0 (by decide +kernel) rfl rfl ?_
        refine aw_getr (c := 47) B lkX11_87 (by decide +kernel) rfl (r := 73) rfl ?_
        refine aw_iload_n (k0 := 1) B 1 (by decide +kernel) rfl rfl ?_
        refine aw_iaload B (by decide +kernel) ?_
        refine aw_bipush (n := 50) (v := (50 : Int32)) B (by decide +kernel) (by decide) ?_
        refine aw_icmp_lt (off := 6) B 47 (by decide +kernel) (by decide) (fun _ => ?_) (fun _ => ?_)
        · refine aw_aload_n (k0 := 0) B 0 (by decide +kernel) rfl rfl ?_
          refine aw_aload_n (k0 := 0) B 0 (by decide +kernel) rfl rfl ?_
          refine aw_getr (c := 47) B lkX11_87 (by decide +kernel) rfl (r := 73) rfl ?_
          refine aw_iload_n (k0 := 1) B 1 (by decide +kernel) rfl rfl ?_
          refine aw_iaload B (by decide +kernel) ?_
          refine aw_cVR B (c_X11_kindOf (eLa E) hG (M.1 73 v1.toNatClampNeg) M) cvX11_381 rfl rfl (Nat.le_of_ble_eq_true rfl) rfl (Nat.le_of_ble_eq_true rfl) (by decide +kernel) rfl (fun x5 => ?_)
          refine aw_istore_n (k0 := 3) B [(3, .int x5), (0, .ref 47), (1, .int v1), (2, .int v2)] (by decide +kernel) rfl (Nat.le_of_ble_eq_true rfl) rfl ?_
          exact aw_sub [1, 2, 3, 0] rfl (w_X11_taken_L58 hG M B FU _ _ _)
        · refine aw_bipush (n := -12) (v := (-12 : Int32)) B (by decide +kernel) (by decide) ?_
          exact aw_ireturn B (by decide +kernel) rfl
      · refine aw_bipush (n := -11) (v := (-11 : Int32)) B (by decide +kernel) (by decide) ?_
        exact aw_ireturn B (by decide +kernel) rfl
    · refine aw_iconst (n := -1) (v := (-1 : Int32)) B (by decide +kernel) (by decide) ?_
      exact aw_ireturn B (by decide +kernel) rfl
theorem c_X11_taken (l : Launch) {G : GW} (hG : ab_ok G) (v1 : Int32) (v2 : Int32) (M : Mem) : AC l G yX11_taken cX11_taken 4 (some .int) 4 [.ref 47, .int v1, .int v2] M (embRI M) (f_X11_taken v1 v2 M) := AC.of hG (by decide) (Nat.le_of_ble_eq_true rfl) (fun E hE B => by subst hE; exact w_X11_taken hG B v1 v2 M)
def f_X10_count (v1 : Int32) (M : Mem) : Option Int32 := (if v1 = (0 : Int32) then (some (M.1 1 0)) else if v1 = (1 : Int32) then (some (M.1 1 1)) else if v1 = (2 : Int32) then (some (M.1 28 0)) else if v1 = (3 : Int32) then (some (M.1 22 0)) else if v1 = (4 : Int32) then (some (M.1 6 0)) else if v1 = (5 : Int32) then (some (M.1 40 0)) else if v1 = (6 : Int32) then (some (M.1 40 1)) else (some (-1 : Int32)))
set_option maxRecDepth 100000 in
set_option maxHeartbeats 4000000 in
theorem w_X10_count {G : GW} {E : EE} (hG : ab_ok G) (B : Bx G E RX10 cX10_count 2 2 (some .int)) (v1 : Int32) (M : Mem) : AWo G E cX10_count 2 (ab_Q G E (embRI M)) 0 [(0, .ref 0), (1, .int v1)] [] M (f_X10_count v1 M) := by
  unfold f_X10_count
  refine aw_iload_n (k0 := 1) B 1 (by decide +kernel) rfl rfl ?_
  refine aw_ite (fun h1_0 => ?_) (fun h1_0 => ?_)
  · refine aw_tin (k0 := (0 : Int32)) (dflt := 99) (lo := 0) (hi := 6) (offs := #[43, 51, 59, 67, 75, 83, 91]) (len := 43) (off := 43) B 44 (by decide +kernel) h1_0 (by decide) (by decide) (by decide +kernel) (by decide) ?_
    refine aw_aload_n (k0 := 0) B 0 (by decide +kernel) rfl rfl ?_
    refine aw_getr (c := 0) B lkX10_10 (by decide +kernel) rfl (r := 1) rfl ?_
    refine aw_geti (c := 1) B lkX10_167 (by decide +kernel) rfl ?_
    exact aw_ireturn B (by decide +kernel) rfl
  refine aw_ite (fun h1_1 => ?_) (fun h1_1 => ?_)
  · refine aw_tin (k0 := (1 : Int32)) (dflt := 99) (lo := 0) (hi := 6) (offs := #[43, 51, 59, 67, 75, 83, 91]) (len := 43) (off := 51) B 52 (by decide +kernel) h1_1 (by decide) (by decide) (by decide +kernel) (by decide) ?_
    refine aw_aload_n (k0 := 0) B 0 (by decide +kernel) rfl rfl ?_
    refine aw_getr (c := 0) B lkX10_10 (by decide +kernel) rfl (r := 1) rfl ?_
    refine aw_geti (c := 1) B lkX10_187 (by decide +kernel) rfl ?_
    exact aw_ireturn B (by decide +kernel) rfl
  refine aw_ite (fun h1_2 => ?_) (fun h1_2 => ?_)
  · refine aw_tin (k0 := (2 : Int32)) (dflt := 99) (lo := 0) (hi := 6) (offs := #[43, 51, 59, 67, 75, 83, 91]) (len := 43) (off := 59) B 60 (by decide +kernel) h1_2 (by decide) (by decide) (by decide +kernel) (by decide) ?_
    refine aw_aload_n (k0 := 0) B 0 (by decide +kernel) rfl rfl ?_
    refine aw_getr (c := 0) B lkX10_54 (by decide +kernel) rfl (r := 28) rfl ?_
    refine aw_geti (c := 28) B lkX10_266 (by decide +kernel) rfl ?_
    exact aw_ireturn B (by decide +kernel) rfl
  refine aw_ite (fun h1_3 => ?_) (fun h1_3 => ?_)
  · refine aw_tin (k0 := (3 : Int32)) (dflt := 99) (lo := 0) (hi := 6) (offs := #[43, 51, 59, 67, 75, 83, 91]) (len := 43) (off := 67) B 68 (by decide +kernel) h1_3 (by decide) (by decide) (by decide +kernel) (by decide) ?_
    refine aw_aload_n (k0 := 0) B 0 (by decide +kernel) rfl rfl ?_
    refine aw_getr (c := 0) B lkX10_47 (by decide +kernel) rfl (r := 22) rfl ?_
    refine aw_geti (c := 22) B lkX10_383 (by decide +kernel) rfl ?_
    exact aw_ireturn B (by decide +kernel) rfl
  refine aw_ite (fun h1_4 => ?_) (fun h1_4 => ?_)
  · refine aw_tin (k0 := (4 : Int32)) (dflt := 99) (lo := 0) (hi := 6) (offs := #[43, 51, 59, 67, 75, 83, 91]) (len := 43) (off := 75) B 76 (by decide +kernel) h1_4 (by decide) (by decide) (by decide +kernel) (by decide) ?_
    refine aw_aload_n (k0 := 0) B 0 (by decide +kernel) rfl rfl ?_
    refine aw_getr (c := 0) B lkX10_19 (by decide +kernel) rfl (r := 6) rfl ?_
    refine aw_geti (c := 6) B lkX10_386 (by decide +kernel) rfl ?_
    exact aw_ireturn B (by decide +kernel) rfl
  refine aw_ite (fun h1_5 => ?_) (fun h1_5 => ?_)
  · refine aw_tin (k0 := (5 : Int32)) (dflt := 99) (lo := 0) (hi := 6) (offs := #[43, 51, 59, 67, 75, 83, 91]) (len := 43) (off := 83) B 84 (by decide +kernel) h1_5 (by decide) (by decide) (by decide +kernel) (by decide) ?_
    refine aw_aload_n (k0 := 0) B 0 (by decide +kernel) rfl rfl ?_
    refine aw_getr (c := 0) B lkX10_68 (by decide +kernel) rfl (r := 40) rfl ?_
    refine aw_geti (c := 40) B lkX10_389 (by decide +kernel) rfl ?_
    exact aw_ireturn B (by decide +kernel) rfl
  refine aw_ite (fun h1_6 => ?_) (fun h1_6 => ?_)
  · refine aw_tin (k0 := (6 : Int32)) (dflt := 99) (lo := 0) (hi := 6) (offs := #[43, 51, 59, 67, 75, 83, 91]) (len := 43) (off := 91) B 92 (by decide +kernel) h1_6 (by decide) (by decide) (by decide +kernel) (by decide) ?_
    refine aw_aload_n (k0 := 0) B 0 (by decide +kernel) rfl rfl ?_
    refine aw_getr (c := 0) B lkX10_68 (by decide +kernel) rfl (r := 40) rfl ?_
    refine aw_geti (c := 40) B lkX10_390 (by decide +kernel) rfl ?_
    exact aw_ireturn B (by decide +kernel) rfl
  · refine aw_tout (dflt := 99) (lo := 0) (hi := 6) (offs := #[43, 51, 59, 67, 75, 83, 91]) (len := 43) B 100 (by decide +kernel) (by have qh1_0 := lv_neT (a := 0) h1_0 (by decide); have qh1_1 := lv_neT (a := 1) h1_1 (by decide); have qh1_2 := lv_neT (a := 2) h1_2 (by decide); have qh1_3 := lv_neT (a := 3) h1_3 (by decide); have qh1_4 := lv_neT (a := 4) h1_4 (by decide); have qh1_5 := lv_neT (a := 5) h1_5 (by decide); have qh1_6 := lv_neT (a := 6) h1_6 (by decide); omega) (by decide) ?_
    refine aw_iconst (n := -1) (v := (-1 : Int32)) B (by decide +kernel) (by decide) ?_
    exact aw_ireturn B (by decide +kernel) rfl
theorem c_X10_count (l : Launch) {G : GW} (hG : ab_ok G) (v1 : Int32) (M : Mem) : AC l G yX10_count cX10_count 2 (some .int) 2 [.ref 0, .int v1] M (embRI M) (f_X10_count v1 M) := AC.of hG (by decide) (Nat.le_of_ble_eq_true rfl) (fun E hE B => by subst hE; exact w_X10_count hG B v1 M)
def f_X11_count (v1 : Int32) (M : Mem) : Option Int32 := (if v1 = (0 : Int32) then (some (M.1 47 6)) else if v1 = (1 : Int32) then (some (M.1 47 7)) else if v1 = (2 : Int32) then (some (M.1 47 34)) else if v1 = (3 : Int32) then (some (M.1 47 11)) else if v1 = (4 : Int32) then (some (M.1 47 5)) else if v1 = (5 : Int32) then (some (M.1 47 40)) else if v1 = (6 : Int32) then (some (M.1 47 43)) else (some (-1 : Int32)))
set_option maxRecDepth 100000 in
set_option maxHeartbeats 4000000 in
theorem w_X11_count {G : GW} {E : EE} (hG : ab_ok G) (B : Bx G E RX11 cX11_count 2 2 (some .int)) (v1 : Int32) (M : Mem) : AWo G E cX11_count 2 (ab_Q G E (embRI M)) 0 [(0, .ref 47), (1, .int v1)] [] M (f_X11_count v1 M) := by
  unfold f_X11_count
  refine aw_iload_n (k0 := 1) B 1 (by decide +kernel) rfl rfl ?_
  refine aw_ite (fun h1_0 => ?_) (fun h1_0 => ?_)
  · refine aw_tin (k0 := (0 : Int32)) (dflt := 78) (lo := 0) (hi := 6) (offs := #[43, 48, 53, 58, 63, 68, 73]) (len := 43) (off := 43) B 44 (by decide +kernel) h1_0 (by decide) (by decide) (by decide +kernel) (by decide) ?_
    refine aw_aload_n (k0 := 0) B 0 (by decide +kernel) rfl rfl ?_
    refine aw_geti (c := 47) B lkX11_109 (by decide +kernel) rfl ?_
    exact aw_ireturn B (by decide +kernel) rfl
  refine aw_ite (fun h1_1 => ?_) (fun h1_1 => ?_)
  · refine aw_tin (k0 := (1 : Int32)) (dflt := 78) (lo := 0) (hi := 6) (offs := #[43, 48, 53, 58, 63, 68, 73]) (len := 43) (off := 48) B 49 (by decide +kernel) h1_1 (by decide) (by decide) (by decide +kernel) (by decide) ?_
    refine aw_aload_n (k0 := 0) B 0 (by decide +kernel) rfl rfl ?_
    refine aw_geti (c := 47) B lkX11_116 (by decide +kernel) rfl ?_
    exact aw_ireturn B (by decide +kernel) rfl
  refine aw_ite (fun h1_2 => ?_) (fun h1_2 => ?_)
  · refine aw_tin (k0 := (2 : Int32)) (dflt := 78) (lo := 0) (hi := 6) (offs := #[43, 48, 53, 58, 63, 68, 73]) (len := 43) (off := 53) B 54 (by decide +kernel) h1_2 (by decide) (by decide) (by decide +kernel) (by decide) ?_
    refine aw_aload_n (k0 := 0) B 0 (by decide +kernel) rfl rfl ?_
    refine aw_geti (c := 47) B lkX11_285 (by decide +kernel) rfl ?_
    exact aw_ireturn B (by decide +kernel) rfl
  refine aw_ite (fun h1_3 => ?_) (fun h1_3 => ?_)
  · refine aw_tin (k0 := (3 : Int32)) (dflt := 78) (lo := 0) (hi := 6) (offs := #[43, 48, 53, 58, 63, 68, 73]) (len := 43) (off := 58) B 59 (by decide +kernel) h1_3 (by decide) (by decide) (by decide +kernel) (by decide) ?_
    refine aw_aload_n (k0 := 0) B 0 (by decide +kernel) rfl rfl ?_
    refine aw_geti (c := 47) B lkX11_161 (by decide +kernel) rfl ?_
    exact aw_ireturn B (by decide +kernel) rfl
  refine aw_ite (fun h1_4 => ?_) (fun h1_4 => ?_)
  · refine aw_tin (k0 := (4 : Int32)) (dflt := 78) (lo := 0) (hi := 6) (offs := #[43, 48, 53, 58, 63, 68, 73]) (len := 43) (off := 63) B 64 (by decide +kernel) h1_4 (by decide) (by decide) (by decide +kernel) (by decide) ?_
    refine aw_aload_n (k0 := 0) B 0 (by decide +kernel) rfl rfl ?_
    refine aw_geti (c := 47) B lkX11_103 (by decide +kernel) rfl ?_
    exact aw_ireturn B (by decide +kernel) rfl
  refine aw_ite (fun h1_5 => ?_) (fun h1_5 => ?_)
  · refine aw_tin (k0 := (5 : Int32)) (dflt := 78) (lo := 0) (hi := 6) (offs := #[43, 48, 53, 58, 63, 68, 73]) (len := 43) (off := 68) B 69 (by decide +kernel) h1_5 (by decide) (by decide) (by decide +kernel) (by decide) ?_
    refine aw_aload_n (k0 := 0) B 0 (by decide +kernel) rfl rfl ?_
    refine aw_geti (c := 47) B lkX11_340 (by decide +kernel) rfl ?_
    exact aw_ireturn B (by decide +kernel) rfl
  refine aw_ite (fun h1_6 => ?_) (fun h1_6 => ?_)
  · refine aw_tin (k0 := (6 : Int32)) (dflt := 78) (lo := 0) (hi := 6) (offs := #[43, 48, 53, 58, 63, 68, 73]) (len := 43) (off := 73) B 74 (by decide +kernel) h1_6 (by decide) (by decide) (by decide +kernel) (by decide) ?_
    refine aw_aload_n (k0 := 0) B 0 (by decide +kernel) rfl rfl ?_
    refine aw_geti (c := 47) B lkX11_345 (by decide +kernel) rfl ?_
    exact aw_ireturn B (by decide +kernel) rfl
  · refine aw_tout (dflt := 78) (lo := 0) (hi := 6) (offs := #[43, 48, 53, 58, 63, 68, 73]) (len := 43) B 79 (by decide +kernel) (by have qh1_0 := lv_neT (a := 0) h1_0 (by decide); have qh1_1 := lv_neT (a := 1) h1_1 (by decide); have qh1_2 := lv_neT (a := 2) h1_2 (by decide); have qh1_3 := lv_neT (a := 3) h1_3 (by decide); have qh1_4 := lv_neT (a := 4) h1_4 (by decide); have qh1_5 := lv_neT (a := 5) h1_5 (by decide); have qh1_6 := lv_neT (a := 6) h1_6 (by decide); omega) (by decide) ?_
    refine aw_iconst (n := -1) (v := (-1 : Int32)) B (by decide +kernel) (by decide) ?_
    exact aw_ireturn B (by decide +kernel) rfl
theorem c_X11_count (l : Launch) {G : GW} (hG : ab_ok G) (v1 : Int32) (M : Mem) : AC l G yX11_count cX11_count 2 (some .int) 2 [.ref 47, .int v1] M (embRI M) (f_X11_count v1 M) := AC.of hG (by decide) (Nat.le_of_ble_eq_true rfl) (fun E hE B => by subst hE; exact w_X11_count hG B v1 M)
