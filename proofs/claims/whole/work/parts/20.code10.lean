def f_X11_commonOf_L6 : Nat → Int64 → Int64 → Option Int64
  | 0, _, _ => none
  | n + 1, v4, v6 => (if (lg_cmp v6 (0 : Int64)) = 0 then (some v4) else if v6 = 0 then none else lt (ab_lrem v4 v6) fun x1 => f_X11_commonOf_L6 n v6 x1)
set_option maxRecDepth 100000 in
set_option maxHeartbeats 4000000 in
theorem w_X11_commonOf_L6 {G : GW} {E : EE} (hG : ab_ok G) (M : Mem) (B : Bx G E RX11 cX11_commonOf 10 2 (some .long)) : ∀ (n : Nat) (v4 : Int64) (v6 : Int64), AWo G E cX11_commonOf 10 (ab_Q G E (embRJ M)) 6 [(4, .long v4), (6, .long v6)] [] M (f_X11_commonOf_L6 n v4 v6) := by
  intro n
  induction n with
  | zero => intro _ _; exact aw_none
  | succ n ih =>
    intro v4 v6
    rw [f_X11_commonOf_L6]
    refine aw_lload (i := 6) B 1 (by decide +kernel) rfl ?_
    refine aw_lconst (n := 0) (v := (0 : Int64)) B (by decide +kernel) (by decide) ?_
    refine aw_lcmp B (by decide +kernel) ?_
    refine aw_if_eq (off := 21) B 31 (by decide +kernel) (by decide) (fun _ => ?_) (fun _ => ?_)
    · refine aw_lload (i := 4) B 0 (by decide +kernel) rfl ?_
      exact aw_lreturn B (by decide +kernel) rfl
    · refine aw_lload (i := 4) B 0 (by decide +kernel) rfl ?_
      refine aw_lload (i := 6) B 1 (by decide +kernel) rfl ?_
      refine aw_lrem B (by decide +kernel) ?_
      refine aw_ltJ (fun x1 => ?_)
      refine aw_lstore (i := 8) B [(8, .long x1), (4, .long v4), (6, .long v6)] (by decide +kernel) (Nat.le_of_ble_eq_true rfl) rfl ?_
      refine aw_lload (i := 6) B 2 (by decide +kernel) rfl ?_
      refine aw_lstore (i := 4) B [(4, .long v6), (8, .long x1), (6, .long v6)] (by decide +kernel) (Nat.le_of_ble_eq_true rfl) rfl ?_
      refine aw_lload (i := 8) B 1 (by decide +kernel) rfl ?_
      refine aw_lstore (i := 6) B [(6, .long x1), (4, .long v6), (8, .long x1)] (by decide +kernel) (Nat.le_of_ble_eq_true rfl) rfl ?_
      refine aw_goto (off := -22) B 6 (by decide +kernel) (by decide) ?_
      exact aw_sub [1, 0] rfl (ih _ _)
def f_X11_commonOf (v0 : Int64) (v2 : Int64) : Option Int64 := f_X11_commonOf_L6 FU v0 v2
set_option maxRecDepth 100000 in
set_option maxHeartbeats 4000000 in
theorem w_X11_commonOf {G : GW} {E : EE} (hG : ab_ok G) (B : Bx G E RX11 cX11_commonOf 10 2 (some .long)) (v0 : Int64) (v2 : Int64) (M : Mem) : AWo G E cX11_commonOf 10 (ab_Q G E (embRJ M)) 0 [(0, .long v0), (2, .long v2)] [] M (f_X11_commonOf v0 v2) := by
  unfold f_X11_commonOf
  refine aw_lload_n (k0 := 0) B 0 (by decide +kernel) rfl rfl ?_
  refine aw_lstore (i := 4) B [(4, .long v0), (0, .long v0), (2, .long v2)] (by decide +kernel) (Nat.le_of_ble_eq_true rfl) rfl ?_
  refine aw_lload_n (k0 := 2) B 2 (by decide +kernel) rfl rfl ?_
  refine aw_lstore (i := 6) B [(6, .long v2), (4, .long v0), (0, .long v0), (2, .long v2)] (by decide +kernel) (Nat.le_of_ble_eq_true rfl) rfl ?_
  exact aw_sub [1, 0] rfl (w_X11_commonOf_L6 hG M B FU _ _)
theorem c_X11_commonOf (l : Launch) {G : GW} (hG : ab_ok G) (v0 : Int64) (v2 : Int64) (M : Mem) : AC l G yX11_commonOf cX11_commonOf 10 (some .long) 2 [.long v0, .long v2] M (embRJ M) (f_X11_commonOf v0 v2) := AC.of hG (by decide) (Nat.le_of_ble_eq_true rfl) (fun E hE B => by subst hE; exact w_X11_commonOf hG B v0 v2 M)
def f_X11_partOf (v0 : Int64) (v2 : Int64) (v4 : Int32) : Option Int64 := (f_X11_commonOf v0 v2).bind fun x1 => (if v4 = 0 then if x1 = 0 then none else (some (v0 / x1)) else if x1 = 0 then none else (some (v2 / x1)))
set_option maxRecDepth 100000 in
set_option maxHeartbeats 4000000 in
theorem w_X11_partOf {G : GW} {E : EE} (hG : ab_ok G) (B : Bx G E RX11 cX11_partOf 7 3 (some .long)) (v0 : Int64) (v2 : Int64) (v4 : Int32) (M : Mem) : AWo G E cX11_partOf 7 (ab_Q G E (embRJ M)) 0 [(0, .long v0), (2, .long v2), (4, .int v4)] [] M (f_X11_partOf v0 v2 v4) := by
  unfold f_X11_partOf
  refine aw_lload_n (k0 := 0) B 0 (by decide +kernel) rfl rfl ?_
  refine aw_lload_n (k0 := 2) B 1 (by decide +kernel) rfl rfl ?_
  refine aw_cSL B (c_X11_commonOf (eLa E) hG v0 v2 M) csX11_291 (Nat.le_of_ble_eq_true rfl) rfl (Nat.le_of_ble_eq_true rfl) (by decide +kernel) rfl (fun x1 => ?_)
  refine aw_lstore (i := 5) B [(5, .long x1), (0, .long v0), (2, .long v2), (4, .int v4)] (by decide +kernel) (Nat.le_of_ble_eq_true rfl) rfl ?_
  refine aw_iload (i := 4) B 3 (by decide +kernel) rfl ?_
  refine aw_if_ne (off := 10) B 19 (by decide +kernel) (by decide) (fun _ => ?_) (fun _ => ?_)
  · refine aw_lload_n (k0 := 2) B 2 (by decide +kernel) rfl rfl ?_
    refine aw_lload (i := 5) B 0 (by decide +kernel) rfl ?_
    refine aw_ldiv B (by decide +kernel) ?_
    exact aw_lreturn B (by decide +kernel) rfl
  · refine aw_lload_n (k0 := 0) B 1 (by decide +kernel) rfl rfl ?_
    refine aw_lload (i := 5) B 0 (by decide +kernel) rfl ?_
    refine aw_ldiv B (by decide +kernel) ?_
    refine aw_goto (off := 7) B 23 (by decide +kernel) (by decide) ?_
    exact aw_lreturn B (by decide +kernel) rfl
theorem c_X11_partOf (l : Launch) {G : GW} (hG : ab_ok G) (v0 : Int64) (v2 : Int64) (v4 : Int32) (M : Mem) : AC l G yX11_partOf cX11_partOf 7 (some .long) 3 [.long v0, .long v2, .int v4] M (embRJ M) (f_X11_partOf v0 v2 v4) := AC.of hG (by decide) (Nat.le_of_ble_eq_true rfl) (fun E hE B => by subst hE; exact w_X11_partOf hG B v0 v2 v4 M)
def f_X11_likely_b91 (v2 : Int32) (v3 : Int32) (v4 : Int32) (s0 : Int32) (M : Mem) : Option (Int64 × Mem) := (if v2 = (1 : Int32) then (if s0 = 0 then ck (okL 67 v4) ((f_X11_partOf (M.2.1 67 v4.toNatClampNeg) (100 : Int64) v3).bind fun x5 => (some (x5, M))) else ck (okL 68 v4) ((f_X11_partOf (M.2.1 68 v4.toNatClampNeg) (1000000 : Int64) v3).bind fun x7 => (some (x7, M)))) else (if s0 = 0 then ck (okL 68 v4) ((f_X11_partOf (M.2.1 68 v4.toNatClampNeg) (1000000 : Int64) v3).bind fun x1 => (some (x1, M))) else ck (okL 69 v4) ((f_X11_partOf (M.2.1 69 v4.toNatClampNeg) (100000000000000 : Int64) v3).bind fun x3 => (some (x3, M)))))
set_option maxRecDepth 100000 in
set_option maxHeartbeats 4000000 in
theorem w_X11_likely_b91 {G : GW} {E : EE} (hG : ab_ok G) (B : Bx G E RX11 cX11_likely 6 293 (some .long)) (v2 : Int32) (v3 : Int32) (v4 : Int32) (s0 : Int32) (M : Mem) : AWo G E cX11_likely 6 (ab_Q G E embJ) 91 [(0, .ref 47), (2, .int v2), (3, .int v3), (4, .int v4)] [.int s0] M (f_X11_likely_b91 v2 v3 v4 s0 M) := by
  unfold f_X11_likely_b91
  refine aw_istore (i := 5) B [(5, .int s0), (0, .ref 47), (2, .int v2), (3, .int v3), (4, .int v4)] (by decide +kernel) (Nat.le_of_ble_eq_true rfl) rfl ?_
  refine aw_iload_n (k0 := 2) B 2 (by decide +kernel) rfl rfl ?_
  refine aw_iconst (n := 1) (v := (1 : Int32)) B (by decide +kernel) (by decide) ?_
  refine aw_icmp_ne (off := 40) B 135 (by decide +kernel) (by decide) (fun _ => ?_) (fun _ => ?_)
  · refine aw_iload (i := 5) B 0 (by decide +kernel) rfl ?_
    refine aw_if_eq (off := 20) B 157 (by decide +kernel) (by decide) (fun _ => ?_) (fun _ => ?_)
    · refine aw_aload_n (k0 := 0) B 1 (by decide +kernel) rfl rfl ?_
      refine aw_getr (c := 47) B lkX11_72 (by decide +kernel) rfl (r := 68) rfl ?_
      refine aw_iload (i := 4) B 4 (by decide +kernel) rfl ?_
      refine aw_laload B (by decide +kernel) ?_
      refine aw_ldc2 B (by decide +kernel) lwX11_315 ?_
      refine aw_iload_n (k0 := 3) B 3 (by decide +kernel) rfl rfl ?_
      refine aw_cSL B (c_X11_partOf (eLa E) hG (M.2.1 68 v4.toNatClampNeg) (1000000 : Int64) v3 M) csX11_311 (Nat.le_of_ble_eq_true rfl) rfl (Nat.le_of_ble_eq_true rfl) (by decide +kernel) rfl (fun x1 => ?_)
      exact aw_lreturn B (by decide +kernel) rfl
    · refine aw_aload_n (k0 := 0) B 1 (by decide +kernel) rfl rfl ?_
      refine aw_getr (c := 47) B lkX11_75 (by decide +kernel) rfl (r := 69) rfl ?_
      refine aw_iload (i := 4) B 4 (by decide +kernel) rfl ?_
      refine aw_laload B (by decide +kernel) ?_
      refine aw_ldc2 B (by decide +kernel) lwX11_317 ?_
      refine aw_iload_n (k0 := 3) B 3 (by decide +kernel) rfl rfl ?_
      refine aw_cSL B (c_X11_partOf (eLa E) hG (M.2.1 69 v4.toNatClampNeg) (100000000000000 : Int64) v3 M) csX11_311 (Nat.le_of_ble_eq_true rfl) rfl (Nat.le_of_ble_eq_true rfl) (by decide +kernel) rfl (fun x3 => ?_)
      refine aw_goto (off := 17) B 171 (by decide +kernel) (by decide) ?_
      exact aw_lreturn B (by decide +kernel) rfl
  · refine aw_iload (i := 5) B 0 (by decide +kernel) rfl ?_
    refine aw_if_eq (off := 20) B 120 (by decide +kernel) (by decide) (fun _ => ?_) (fun _ => ?_)
    · refine aw_aload_n (k0 := 0) B 1 (by decide +kernel) rfl rfl ?_
      refine aw_getr (c := 47) B lkX11_68 (by decide +kernel) rfl (r := 67) rfl ?_
      refine aw_iload (i := 4) B 4 (by decide +kernel) rfl ?_
      refine aw_laload B (by decide +kernel) ?_
      refine aw_ldc2 B (by decide +kernel) lwX11_309 ?_
      refine aw_iload_n (k0 := 3) B 3 (by decide +kernel) rfl rfl ?_
      refine aw_cSL B (c_X11_partOf (eLa E) hG (M.2.1 67 v4.toNatClampNeg) (100 : Int64) v3 M) csX11_311 (Nat.le_of_ble_eq_true rfl) rfl (Nat.le_of_ble_eq_true rfl) (by decide +kernel) rfl (fun x5 => ?_)
      exact aw_lreturn B (by decide +kernel) rfl
    · refine aw_aload_n (k0 := 0) B 1 (by decide +kernel) rfl rfl ?_
      refine aw_getr (c := 47) B lkX11_72 (by decide +kernel) rfl (r := 68) rfl ?_
      refine aw_iload (i := 4) B 4 (by decide +kernel) rfl ?_
      refine aw_laload B (by decide +kernel) ?_
      refine aw_ldc2 B (by decide +kernel) lwX11_315 ?_
      refine aw_iload_n (k0 := 3) B 3 (by decide +kernel) rfl rfl ?_
      refine aw_cSL B (c_X11_partOf (eLa E) hG (M.2.1 68 v4.toNatClampNeg) (1000000 : Int64) v3 M) csX11_311 (Nat.le_of_ble_eq_true rfl) rfl (Nat.le_of_ble_eq_true rfl) (by decide +kernel) rfl (fun x7 => ?_)
      refine aw_goto (off := 17) B 134 (by decide +kernel) (by decide) ?_
      exact aw_lreturn B (by decide +kernel) rfl
def f_X11_likely_b41 (M : Mem) : Option (Int64 × Mem) := (some ((-9223372036854775808 : Int64), M))
set_option maxRecDepth 100000 in
set_option maxHeartbeats 4000000 in
theorem w_X11_likely_b41 {G : GW} {E : EE} (hG : ab_ok G) (B : Bx G E RX11 cX11_likely 6 293 (some .long)) (M : Mem) : AWo G E cX11_likely 6 (ab_Q G E embJ) 41 [] [] M (f_X11_likely_b41 M) := by
  unfold f_X11_likely_b41
  refine aw_ldc2 B (by decide +kernel) lwX11_301 ?_
  exact aw_lreturn B (by decide +kernel) rfl
def f_X11_likely (v1 : Int32) (v2 : Int32) (v3 : Int32) (M : Mem) : Option (Int64 × Mem) := (f_X11_placeInRow v1 M).bind fun x1 => (if x1 < 0 then f_X11_likely_b41 M else (f_X11_within v2.toInt64 (0 : Int64) (2 : Int64)).bind fun x3 => (if x3 = 0 then f_X11_likely_b41 M else (f_X11_within v3.toInt64 (0 : Int64) (1 : Int64)).bind fun x5 => (if x5 = 0 then f_X11_likely_b41 M else (f_X11_isCup M).bind fun x7 => (if x7 = 0 then f_X11_likely_b41 M else (f_X11_linesUp M).bind fun M10 => (f_X11_goesCup M10).bind fun M12 => (if v2 = (2 : Int32) then ck (okL 67 x1) ((f_X11_partOf ((100 : Int64) - (M12.2.1 67 x1.toNatClampNeg)) (100 : Int64) v3).bind fun x13 => (some (x13, M12))) else (if (M12.1 47 34) = (8 : Int32) then f_X11_likely_b91 v2 v3 x1 (1 : Int32) M12 else f_X11_likely_b91 v2 v3 x1 (0 : Int32) M12))))))
set_option maxRecDepth 100000 in
set_option maxHeartbeats 4000000 in
theorem w_X11_likely {G : GW} {E : EE} (hG : ab_ok G) (B : Bx G E RX11 cX11_likely 6 293 (some .long)) (v1 : Int32) (v2 : Int32) (v3 : Int32) (M : Mem) : AWo G E cX11_likely 6 (ab_Q G E embJ) 0 [(0, .ref 47), (1, .int v1), (2, .int v2), (3, .int v3)] [] M (f_X11_likely v1 v2 v3 M) := by
  unfold f_X11_likely
  refine aw_aload_n (k0 := 0) B 0 (by decide +kernel) rfl rfl ?_
  refine aw_iload_n (k0 := 1) B 1 (by decide +kernel) rfl rfl ?_
  refine aw_cVR B (c_X11_placeInRow (eLa E) hG v1 M) cvX11_288 rfl rfl (Nat.le_of_ble_eq_true rfl) rfl (Nat.le_of_ble_eq_true rfl) (by decide +kernel) rfl (fun x1 => ?_)
  refine aw_istore (i := 4) B [(4, .int x1), (0, .ref 47), (1, .int v1), (2, .int v2), (3, .int v3)] (by decide +kernel) (Nat.le_of_ble_eq_true rfl) rfl ?_
  refine aw_iload (i := 4) B 0 (by decide +kernel) rfl ?_
  refine aw_if_lt (off := 32) B 41 (by decide +kernel) (by decide) (fun _ => ?_) (fun _ => ?_)
  · exact aw_sub [] rfl (w_X11_likely_b41 hG B _)
  · refine aw_iload_n (k0 := 2) B 3 (by decide +kernel) rfl rfl ?_
    refine aw_i2l B (by decide +kernel) ?_
    refine aw_lconst (n := 0) (v := (0 : Int64)) B (by decide +kernel) (by decide) ?_
    refine aw_ldc2 B (by decide +kernel) lwX11_217 ?_
    refine aw_cSR B (c_X11_within (eLa E) hG v2.toInt64 (0 : Int64) (2 : Int64) M) csX11_112 (Nat.le_of_ble_eq_true rfl) rfl (Nat.le_of_ble_eq_true rfl) (by decide +kernel) rfl (fun x3 => ?_)
    refine aw_if_eq (off := 20) B 41 (by decide +kernel) (by decide) (fun _ => ?_) (fun _ => ?_)
    · exact aw_sub [] rfl (w_X11_likely_b41 hG B _)
    · refine aw_iload_n (k0 := 3) B 4 (by decide +kernel) rfl rfl ?_
      refine aw_i2l B (by decide +kernel) ?_
      refine aw_lconst (n := 0) (v := (0 : Int64)) B (by decide +kernel) (by decide) ?_
      refine aw_lconst (n := 1) (v := (1 : Int64)) B (by decide +kernel) (by decide) ?_
      refine aw_cSR B (c_X11_within (eLa E) hG v3.toInt64 (0 : Int64) (1 : Int64) M) csX11_112 (Nat.le_of_ble_eq_true rfl) rfl (Nat.le_of_ble_eq_true rfl) (by decide +kernel) rfl (fun x5 => ?_)
      refine aw_if_eq (off := 10) B 41 (by decide +kernel) (by decide) (fun _ => ?_) (fun _ => ?_)
      · exact aw_sub [] rfl (w_X11_likely_b41 hG B _)
      · refine aw_aload_n (k0 := 0) B 1 (by decide +kernel) rfl rfl ?_
        refine aw_cVR B (c_X11_isCup (eLa E) hG M) cvX11_295 rfl rfl (Nat.le_of_ble_eq_true rfl) rfl (Nat.le_of_ble_eq_true rfl) (by decide +kernel) rfl (fun x7 => ?_)
        refine aw_if_ne (off := 7) B 45 (by decide +kernel) (by decide) (fun _ => ?_) (fun _ => ?_)
        · refine aw_aload_n (k0 := 0) B 1 (by decide +kernel) rfl rfl ?_
          refine aw_cVV B (c_X11_linesUp (eLa E) hG M) cvX11_303 rfl rfl (Nat.le_of_ble_eq_true rfl) rfl (Nat.le_of_ble_eq_true rfl) (by decide +kernel) rfl (fun M10 => ?_)
          refine aw_aload_n (k0 := 0) B 1 (by decide +kernel) rfl rfl ?_
          refine aw_cVV B (c_X11_goesCup (eLa E) hG M10) cvX11_306 rfl rfl (Nat.le_of_ble_eq_true rfl) rfl (Nat.le_of_ble_eq_true rfl) (by decide +kernel) rfl (fun M12 => ?_)
          refine aw_iload_n (k0 := 2) B 3 (by decide +kernel) rfl rfl ?_
          refine aw_iconst (n := 2) (v := (2 : Int32)) B (by decide +kernel) (by decide) ?_
          refine aw_icmp_ne (off := 22) B 77 (by decide +kernel) (by decide) (fun _ => ?_) (fun _ => ?_)
          · refine aw_aload_n (k0 := 0) B 1 (by decide +kernel) rfl rfl ?_
            refine aw_geti (c := 47) B lkX11_285 (by decide +kernel) rfl ?_
            refine aw_bipush (n := 8) (v := (8 : Int32)) B (by decide +kernel) (by decide) ?_
            refine aw_icmp_ne (off := 7) B 90 (by decide +kernel) (by decide) (fun _ => ?_) (fun _ => ?_)
            · refine aw_iconst (n := 0) (v := (0 : Int32)) B (by decide +kernel) (by decide) ?_
              exact aw_sub [1, 3, 4, 0] rfl (w_X11_likely_b91 hG B _ _ _ _ _)
            · refine aw_iconst (n := 1) (v := (1 : Int32)) B (by decide +kernel) (by decide) ?_
              refine aw_goto (off := 4) B 91 (by decide +kernel) (by decide) ?_
              exact aw_sub [1, 3, 4, 0] rfl (w_X11_likely_b91 hG B _ _ _ _ _)
          · refine aw_ldc2 B (by decide +kernel) lwX11_309 ?_
            refine aw_aload_n (k0 := 0) B 1 (by decide +kernel) rfl rfl ?_
            refine aw_getr (c := 47) B lkX11_68 (by decide +kernel) rfl (r := 67) rfl ?_
            refine aw_iload (i := 4) B 0 (by decide +kernel) rfl ?_
            refine aw_laload B (by decide +kernel) ?_
            refine aw_lsub B (by decide +kernel) ?_
            refine aw_ldc2 B (by decide +kernel) lwX11_309 ?_
            refine aw_iload_n (k0 := 3) B 4 (by decide +kernel) rfl rfl ?_
            refine aw_cSL B (c_X11_partOf (eLa E) hG ((100 : Int64) - (M12.2.1 67 x1.toNatClampNeg)) (100 : Int64) v3 M12) csX11_311 (Nat.le_of_ble_eq_true rfl) rfl (Nat.le_of_ble_eq_true rfl) (by decide +kernel) rfl (fun x13 => ?_)
            exact aw_lreturn B (by decide +kernel) rfl
        · exact aw_sub [] rfl (w_X11_likely_b41 hG B _)
theorem c_X11_likely (l : Launch) {G : GW} (hG : ab_ok G) (v1 : Int32) (v2 : Int32) (v3 : Int32) (M : Mem) : AC l G yX11_likely cX11_likely 6 (some .long) 293 [.ref 47, .int v1, .int v2, .int v3] M embJ (f_X11_likely v1 v2 v3 M) := AC.of hG (by decide) (Nat.le_of_ble_eq_true rfl) (fun E hE B => by subst hE; exact w_X11_likely hG B v1 v2 v3 M)
def f_X3_bestPairing_b105 (k15 : Int32 → Int64 → Int32 → Int32 → Mem → Option (Int32 × Mem)) (v3 : Int32) (v4 : Int64) (v6 : Int32) (v7 : Int32) (M : Mem) : Option (Int32 × Mem) := k15 v3 v4 v6 (v7 + 1) M
set_option maxRecDepth 100000 in
set_option maxHeartbeats 4000000 in
theorem w_X3_bestPairing_b105 {G : GW} {E : EE} (hG : ab_ok G) {k15 : Int32 → Int64 → Int32 → Int32 → Mem → Option (Int32 × Mem)} (B : Bx G E RX3 cX3_bestPairing 10 8 (some .int)) (hk15 : ∀ (v3 : Int32) (v4 : Int64) (v6 : Int32) (v7 : Int32) (M : Mem), AWo G E cX3_bestPairing 10 (ab_Q G E embI) 15 [(0, .ref 28), (1, .ref 22), (2, .ref 1), (3, .int v3), (4, .long v4), (6, .int v6), (7, .int v7)] [] M (k15 v3 v4 v6 v7 M)) (v3 : Int32) (v4 : Int64) (v6 : Int32) (v7 : Int32) (M : Mem) : AWo G E cX3_bestPairing 10 (ab_Q G E embI) 105 [(0, .ref 28), (1, .ref 22), (2, .ref 1), (3, .int v3), (4, .long v4), (6, .int v6), (7, .int v7)] [] M (f_X3_bestPairing_b105 k15 v3 v4 v6 v7 M) := by
  unfold f_X3_bestPairing_b105
  refine aw_iinc (i := 7) (n := 1) B 6 [(7, .int (v7 + 1)), (0, .ref 28), (1, .ref 22), (2, .ref 1), (3, .int v3), (4, .long v4), (6, .int v6)] (by decide +kernel) rfl (Nat.le_of_ble_eq_true rfl) (v7 + 1) (ab_inc (by decide)) rfl ?_
  refine aw_goto (off := -93) B 15 (by decide +kernel) (by decide) ?_
  exact aw_sub [1, 2, 3, 4, 5, 6, 0] rfl (hk15 _ _ _ _ _)
def f_X3_bestPairing_L15 : Nat → Int32 → Int64 → Int32 → Int32 → Mem → Option (Int32 × Mem)
  | 0, _, _, _, _, _ => none
  | n + 1, v3, v4, v6, v7, M => (if (3 : Int32) ≤ v7 then (some (v6, M)) else (f_X3_sitDown M).bind fun M2 => ck (okI 29 ((1 : Int32) + v7)) (ck (okI 30 (1 : Int32)) (lt (wI M2 30 (1 : Int32).toNatClampNeg (M2.1 29 ((1 : Int32) + v7).toNatClampNeg)) fun M3 => ck (okI 29 (1 : Int32)) (ck (okI 30 ((1 : Int32) + v7)) (lt (wI M3 30 ((1 : Int32) + v7).toNatClampNeg (M3.1 29 (1 : Int32).toNatClampNeg)) fun M4 => (f_X3_weigh M4).bind fun M6 => (f_X3_rounds M6).bind fun x7 => (f_X3_seatOf_28_30 v3 M6).bind fun x9 => ck (okL 33 ((x7 * (8 : Int32)) + (ab_max (0 : Int32) x9))) (lt (M6.2.1 33 ((x7 * (8 : Int32)) + (ab_max (0 : Int32) x9)).toNatClampNeg) fun x11 => (if (lg_cmp x11 v4) ≤ 0 then f_X3_bestPairing_b105 (fun a0 a1 a2 a3 a4 => f_X3_bestPairing_L15 n a0 a1 a2 a3 a4) v3 v4 v6 v7 M6 else f_X3_bestPairing_b105 (fun a0 a1 a2 a3 a4 => f_X3_bestPairing_L15 n a0 a1 a2 a3 a4) v3 x11 v7 v7 M6)))))))
set_option maxRecDepth 100000 in
set_option maxHeartbeats 4000000 in
theorem w_X3_bestPairing_L15 {G : GW} {E : EE} (hG : ab_ok G) (B : Bx G E RX3 cX3_bestPairing 10 8 (some .int)) : ∀ (n : Nat) (v3 : Int32) (v4 : Int64) (v6 : Int32) (v7 : Int32) (M : Mem), AWo G E cX3_bestPairing 10 (ab_Q G E embI) 15 [(0, .ref 28), (1, .ref 22), (2, .ref 1), (3, .int v3), (4, .long v4), (6, .int v6), (7, .int v7)] [] M (f_X3_bestPairing_L15 n v3 v4 v6 v7 M) := by
  intro n
  induction n with
  | zero => intro _ _ _ _ _; exact aw_none
  | succ n ih =>
    intro v3 v4 v6 v7 M
    rw [f_X3_bestPairing_L15]
    refine aw_iload (i := 7) B 6 (by decide +kernel) rfl ?_
    refine aw_iconst (n := 3) (v := (3 : Int32)) B (by decide +kernel) (by decide) ?_
    refine aw_icmp_ge (off := 93) B 111 (by decide +kernel) (by decide) (fun _ => ?_) (fun _ => ?_)
    · refine aw_iload (i := 6) B 5 (by decide +kernel) rfl ?_
      exact aw_ireturn B (by decide +kernel) rfl
    · refine aw_aload_n (k0 := 0) B 0 (by decide +kernel) rfl rfl ?_
      refine aw_cVV B (c_X3_sitDown (eLa E) hG M) cvX3_68 rfl rfl (Nat.le_of_ble_eq_true rfl) rfl (Nat.le_of_ble_eq_true rfl) (by decide +kernel) rfl (fun M2 => ?_)
      refine aw_aload_n (k0 := 0) B 0 (by decide +kernel) rfl rfl ?_
      refine aw_getr (c := 28) B lkX3_15 (by decide +kernel) rfl (r := 30) rfl ?_
      refine aw_iconst (n := 1) (v := (1 : Int32)) B (by decide +kernel) (by decide) ?_
      refine aw_aload_n (k0 := 0) B 0 (by decide +kernel) rfl rfl ?_
      refine aw_getr (c := 28) B lkX3_11 (by decide +kernel) rfl (r := 29) rfl ?_
      refine aw_iconst (n := 1) (v := (1 : Int32)) B (by decide +kernel) (by decide) ?_
      refine aw_iload (i := 7) B 6 (by decide +kernel) rfl ?_
      refine aw_iadd B (by decide +kernel) ?_
      refine aw_iaload B (by decide +kernel) ?_
      refine aw_iastore B (by decide +kernel) (fun M3 => ?_)
      refine aw_aload_n (k0 := 0) B 0 (by decide +kernel) rfl rfl ?_
      refine aw_getr (c := 28) B lkX3_15 (by decide +kernel) rfl (r := 30) rfl ?_
      refine aw_iconst (n := 1) (v := (1 : Int32)) B (by decide +kernel) (by decide) ?_
      refine aw_iload (i := 7) B 6 (by decide +kernel) rfl ?_
      refine aw_iadd B (by decide +kernel) ?_
      refine aw_aload_n (k0 := 0) B 0 (by decide +kernel) rfl rfl ?_
      refine aw_getr (c := 28) B lkX3_11 (by decide +kernel) rfl (r := 29) rfl ?_
      refine aw_iconst (n := 1) (v := (1 : Int32)) B (by decide +kernel) (by decide) ?_
      refine aw_iaload B (by decide +kernel) ?_
      refine aw_iastore B (by decide +kernel) (fun M4 => ?_)
      refine aw_aload_n (k0 := 0) B 0 (by decide +kernel) rfl rfl ?_
      refine aw_aload_n (k0 := 1) B 1 (by decide +kernel) rfl rfl ?_
      refine aw_aload_n (k0 := 2) B 2 (by decide +kernel) rfl rfl ?_
      refine aw_cVV B (c_X3_weigh (eLa E) hG M4) cvX3_71 rfl rfl (Nat.le_of_ble_eq_true rfl) rfl (Nat.le_of_ble_eq_true rfl) (by decide +kernel) rfl (fun M6 => ?_)
      refine aw_aload_n (k0 := 0) B 0 (by decide +kernel) rfl rfl ?_
      refine aw_getr (c := 28) B lkX3_24 (by decide +kernel) rfl (r := 33) rfl ?_
      refine aw_aload_n (k0 := 0) B 0 (by decide +kernel) rfl rfl ?_
      refine aw_cVR B (c_X3_rounds (eLa E) hG M6) cvX3_54 rfl rfl (Nat.le_of_ble_eq_true rfl) rfl (Nat.le_of_ble_eq_true rfl) (by decide +kernel) rfl (fun x7 => ?_)
      refine aw_bipush (n := 8) (v := (8 : Int32)) B (by decide +kernel) (by decide) ?_
      refine aw_imul B (by decide +kernel) ?_
      refine aw_iconst (n := 0) (v := (0 : Int32)) B (by decide +kernel) (by decide) ?_
      refine aw_aload_n (k0 := 0) B 0 (by decide +kernel) rfl rfl ?_
      refine aw_aload_n (k0 := 0) B 0 (by decide +kernel) rfl rfl ?_
      refine aw_getr (c := 28) B lkX3_15 (by decide +kernel) rfl (r := 30) rfl ?_
      refine aw_iload_n (k0 := 3) B 3 (by decide +kernel) rfl rfl ?_
      refine aw_cVR B (c_X3_seatOf_28_30 (eLa E) hG v3 M6) cvX3_32 rfl rfl (Nat.le_of_ble_eq_true rfl) rfl (Nat.le_of_ble_eq_true rfl) (by decide +kernel) rfl (fun x9 => ?_)
      refine aw_max B lxX3_75 (by decide +kernel) (Nat.le_of_ble_eq_true rfl) (Nat.le_of_ble_eq_true rfl) ?_
      refine aw_iadd B (by decide +kernel) ?_
      refine aw_laload B (by decide +kernel) ?_
      refine aw_ltJ (fun x11 => ?_)
      refine aw_lstore (i := 8) B [(8, .long x11), (0, .ref 28), (1, .ref 22), (2, .ref 1), (3, .int v3), (4, .long v4), (6, .int v6), (7, .int v7)] (by decide +kernel) (Nat.le_of_ble_eq_true rfl) rfl ?_
      refine aw_lload (i := 8) B 0 (by decide +kernel) rfl ?_
      refine aw_lload (i := 4) B 5 (by decide +kernel) rfl ?_
      refine aw_lcmp B (by decide +kernel) ?_
      refine aw_if_le (off := 11) B 105 (by decide +kernel) (by decide) (fun _ => ?_) (fun _ => ?_)
      · exact aw_sub [1, 2, 3, 4, 5, 6, 7] rfl (w_X3_bestPairing_b105 hG B ih _ _ _ _ _)
      · refine aw_lload (i := 8) B 0 (by decide +kernel) rfl ?_
        refine aw_lstore (i := 4) B [(4, .long x11), (8, .long x11), (0, .ref 28), (1, .ref 22), (2, .ref 1), (3, .int v3), (6, .int v6), (7, .int v7)] (by decide +kernel) (Nat.le_of_ble_eq_true rfl) rfl ?_
        refine aw_iload (i := 7) B 7 (by decide +kernel) rfl ?_
        refine aw_istore (i := 6) B [(6, .int v7), (4, .long x11), (8, .long x11), (0, .ref 28), (1, .ref 22), (2, .ref 1), (3, .int v3), (7, .int v7)] (by decide +kernel) (Nat.le_of_ble_eq_true rfl) rfl ?_
        exact aw_sub [3, 4, 5, 6, 1, 0, 7] rfl (w_X3_bestPairing_b105 hG B ih _ _ _ _ _)
def f_X3_bestPairing (v3 : Int32) (M : Mem) : Option (Int32 × Mem) := (f_X3_forgetOdds M).bind fun M2 => f_X3_bestPairing_L15 FU v3 (-1 : Int64) (0 : Int32) (0 : Int32) M2
set_option maxRecDepth 100000 in
set_option maxHeartbeats 4000000 in
theorem w_X3_bestPairing {G : GW} {E : EE} (hG : ab_ok G) (B : Bx G E RX3 cX3_bestPairing 10 8 (some .int)) (v3 : Int32) (M : Mem) : AWo G E cX3_bestPairing 10 (ab_Q G E embI) 0 [(0, .ref 28), (1, .ref 22), (2, .ref 1), (3, .int v3)] [] M (f_X3_bestPairing v3 M) := by
  unfold f_X3_bestPairing
  refine aw_ldc2 B (by decide +kernel) lwX3_96 ?_
  refine aw_lstore (i := 4) B [(4, .long (-1 : Int64)), (0, .ref 28), (1, .ref 22), (2, .ref 1), (3, .int v3)] (by decide +kernel) (Nat.le_of_ble_eq_true rfl) rfl ?_
  refine aw_iconst (n := 0) (v := (0 : Int32)) B (by decide +kernel) (by decide) ?_
  refine aw_istore (i := 6) B [(6, .int (0 : Int32)), (4, .long (-1 : Int64)), (0, .ref 28), (1, .ref 22), (2, .ref 1), (3, .int v3)] (by decide +kernel) (Nat.le_of_ble_eq_true rfl) rfl ?_
  refine aw_aload_n (k0 := 0) B 2 (by decide +kernel) rfl rfl ?_
  refine aw_cVV B (c_X3_forgetOdds (eLa E) hG M) cvX3_65 rfl rfl (Nat.le_of_ble_eq_true rfl) rfl (Nat.le_of_ble_eq_true rfl) (by decide +kernel) rfl (fun M2 => ?_)
  refine aw_iconst (n := 0) (v := (0 : Int32)) B (by decide +kernel) (by decide) ?_
  refine aw_istore (i := 7) B [(7, .int (0 : Int32)), (6, .int (0 : Int32)), (4, .long (-1 : Int64)), (0, .ref 28), (1, .ref 22), (2, .ref 1), (3, .int v3)] (by decide +kernel) (Nat.le_of_ble_eq_true rfl) rfl ?_
  exact aw_sub [3, 4, 5, 6, 2, 1, 0] rfl (w_X3_bestPairing_L15 hG B FU _ _ _ _ _)
theorem c_X3_bestPairing (l : Launch) {G : GW} (hG : ab_ok G) (v3 : Int32) (M : Mem) : AC l G yX3_bestPairing cX3_bestPairing 10 (some .int) 8 [.ref 28, .ref 22, .ref 1, .int v3] M embI (f_X3_bestPairing v3 M) := AC.of hG (by decide) (Nat.le_of_ble_eq_true rfl) (fun E hE B => by subst hE; exact w_X3_bestPairing hG B v3 M)
def f_X10_friend (v1 : Int32) (M : Mem) : Option (Int32 × Mem) := (f_X3_has v1 M).bind fun x1 => (if x1 = 0 then (some ((-1 : Int32), M)) else (if (M.1 28 0) = (4 : Int32) then bI (f_X3_bestPairing v1 M) fun x3 M4 => (some (x3, M4)) else (some ((-5 : Int32), M))))
set_option maxRecDepth 100000 in
set_option maxHeartbeats 4000000 in
theorem w_X10_friend {G : GW} {E : EE} (hG : ab_ok G) (B : Bx G E RX10 cX10_friend 2 9 (some .int)) (v1 : Int32) (M : Mem) : AWo G E cX10_friend 2 (ab_Q G E embI) 0 [(0, .ref 0), (1, .int v1)] [] M (f_X10_friend v1 M) := by
  unfold f_X10_friend
  refine aw_aload_n (k0 := 0) B 0 (by decide +kernel) rfl rfl ?_
  refine aw_getr (c := 0) B lkX10_54 (by decide +kernel) rfl (r := 28) rfl ?_
  refine aw_iload_n (k0 := 1) B 1 (by decide +kernel) rfl rfl ?_
  refine aw_cVR B (c_X3_has (eLa E) hG v1 M) cvX10_269 rfl rfl (Nat.le_of_ble_eq_true rfl) rfl (Nat.le_of_ble_eq_true rfl) (by decide +kernel) rfl (fun x1 => ?_)
  refine aw_if_ne (off := 5) B 13 (by decide +kernel) (by decide) (fun _ => ?_) (fun _ => ?_)
  · refine aw_aload_n (k0 := 0) B 0 (by decide +kernel) rfl rfl ?_
    refine aw_getr (c := 0) B lkX10_54 (by decide +kernel) rfl (r := 28) rfl ?_
    refine aw_geti (c := 28) B lkX10_266 (by decide +kernel) rfl ?_
    refine aw_iconst (n := 4) (v := (4 : Int32)) B (by decide +kernel) (by decide) ?_
    refine aw_icmp_eq (off := 6) B 27 (by decide +kernel) (by decide) (fun _ => ?_) (fun _ => ?_)
    · refine aw_aload_n (k0 := 0) B 0 (by decide +kernel) rfl rfl ?_
      refine aw_getr (c := 0) B lkX10_54 (by decide +kernel) rfl (r := 28) rfl ?_
      refine aw_aload_n (k0 := 0) B 0 (by decide +kernel) rfl rfl ?_
      refine aw_getr (c := 0) B lkX10_47 (by decide +kernel) rfl (r := 22) rfl ?_
      refine aw_aload_n (k0 := 0) B 0 (by decide +kernel) rfl rfl ?_
      refine aw_getr (c := 0) B lkX10_10 (by decide +kernel) rfl (r := 1) rfl ?_
      refine aw_iload_n (k0 := 1) B 1 (by decide +kernel) rfl rfl ?_
      refine aw_cVI B (c_X3_bestPairing (eLa E) hG v1 M) cvX10_289 rfl rfl (Nat.le_of_ble_eq_true rfl) rfl (Nat.le_of_ble_eq_true rfl) (by decide +kernel) rfl (fun x3 M4 => ?_)
      exact aw_ireturn B (by decide +kernel) rfl
    · refine aw_bipush (n := -5) (v := (-5 : Int32)) B (by decide +kernel) (by decide) ?_
      exact aw_ireturn B (by decide +kernel) rfl
  · refine aw_iconst (n := -1) (v := (-1 : Int32)) B (by decide +kernel) (by decide) ?_
    exact aw_ireturn B (by decide +kernel) rfl
theorem c_X10_friend (l : Launch) {G : GW} (hG : ab_ok G) (v1 : Int32) (M : Mem) : AC l G yX10_friend cX10_friend 2 (some .int) 9 [.ref 0, .int v1] M embI (f_X10_friend v1 M) := AC.of hG (by decide) (Nat.le_of_ble_eq_true rfl) (fun E hE B => by subst hE; exact w_X10_friend hG B v1 M)
def f_X11_friend_b153 (k113 : Int32 → Int32 → Int64 → Int32 → Int32 → Mem → Option (Int32 × Mem)) (v1 : Int32) (v2 : Int32) (v3 : Int64) (v5 : Int32) (v6 : Int32) (M : Mem) : Option (Int32 × Mem) := k113 v1 v2 v3 v5 (v6 + 1) M
set_option maxRecDepth 100000 in
set_option maxHeartbeats 4000000 in
theorem w_X11_friend_b153 {G : GW} {E : EE} (hG : ab_ok G) {k113 : Int32 → Int32 → Int64 → Int32 → Int32 → Mem → Option (Int32 × Mem)} (B : Bx G E RX11 cX11_friend 7 293 (some .int)) (hk113 : ∀ (v1 : Int32) (v2 : Int32) (v3 : Int64) (v5 : Int32) (v6 : Int32) (M : Mem), AWo G E cX11_friend 7 (ab_Q G E embI) 113 [(0, .ref 47), (1, .int v1), (2, .int v2), (3, .long v3), (5, .int v5), (6, .int v6)] [] M (k113 v1 v2 v3 v5 v6 M)) (v1 : Int32) (v2 : Int32) (v3 : Int64) (v5 : Int32) (v6 : Int32) (M : Mem) : AWo G E cX11_friend 7 (ab_Q G E embI) 153 [(0, .ref 47), (1, .int v1), (2, .int v2), (3, .long v3), (5, .int v5), (6, .int v6)] [] M (f_X11_friend_b153 k113 v1 v2 v3 v5 v6 M) := by
  unfold f_X11_friend_b153
  refine aw_iinc (i := 6) (n := 1) B 5 [(6, .int (v6 + 1)), (0, .ref 47), (1, .int v1), (2, .int v2), (3, .long v3), (5, .int v5)] (by decide +kernel) rfl (Nat.le_of_ble_eq_true rfl) (v6 + 1) (ab_inc (by decide)) rfl ?_
  refine aw_goto (off := -43) B 113 (by decide +kernel) (by decide) ?_
  exact aw_sub [1, 2, 3, 4, 5, 0] rfl (hk113 _ _ _ _ _ _)
def f_X11_friend_L113 (k30 : Int32 → Int32 → Int64 → Int32 → Mem → Option (Int32 × Mem)) : Nat → Int32 → Int32 → Int64 → Int32 → Int32 → Mem → Option (Int32 × Mem)
  | 0, _, _, _, _, _, _ => none
  | n + 1, v1, v2, v3, v5, v6, M => (if (4 : Int32) ≤ v6 then k30 v1 v2 v3 (v5 + 1) M else ck (okI 66 v6) ((if (M.1 66 v6.toNatClampNeg) = v1 then ck (okL 68 v6) ((if (lg_cmp (M.2.1 68 v6.toNatClampNeg) v3) ≤ 0 then f_X11_friend_b153 (fun a0 a1 a2 a3 a4 a5 => f_X11_friend_L113 k30 n a0 a1 a2 a3 a4 a5) v1 v2 v3 v5 v6 M else ck (okL 68 v6) (lt (M.2.1 68 v6.toNatClampNeg) fun x1 => f_X11_friend_b153 (fun a0 a1 a2 a3 a4 a5 => f_X11_friend_L113 k30 n a0 a1 a2 a3 a4 a5) v1 v5 x1 v5 v6 M))) else f_X11_friend_b153 (fun a0 a1 a2 a3 a4 a5 => f_X11_friend_L113 k30 n a0 a1 a2 a3 a4 a5) v1 v2 v3 v5 v6 M)))
set_option maxRecDepth 100000 in
set_option maxHeartbeats 4000000 in
theorem w_X11_friend_L113 {G : GW} {E : EE} (hG : ab_ok G) {k30 : Int32 → Int32 → Int64 → Int32 → Mem → Option (Int32 × Mem)} (B : Bx G E RX11 cX11_friend 7 293 (some .int)) (hk30 : ∀ (v1 : Int32) (v2 : Int32) (v3 : Int64) (v5 : Int32) (M : Mem), AWo G E cX11_friend 7 (ab_Q G E embI) 30 [(0, .ref 47), (1, .int v1), (2, .int v2), (3, .long v3), (5, .int v5)] [] M (k30 v1 v2 v3 v5 M)) : ∀ (n : Nat) (v1 : Int32) (v2 : Int32) (v3 : Int64) (v5 : Int32) (v6 : Int32) (M : Mem), AWo G E cX11_friend 7 (ab_Q G E embI) 113 [(0, .ref 47), (1, .int v1), (2, .int v2), (3, .long v3), (5, .int v5), (6, .int v6)] [] M (f_X11_friend_L113 k30 n v1 v2 v3 v5 v6 M) := by
  intro n
  induction n with
  | zero => intro _ _ _ _ _ _; exact aw_none
  | succ n ih =>
    intro v1 v2 v3 v5 v6 M
    rw [f_X11_friend_L113]
    refine aw_iload (i := 6) B 5 (by decide +kernel) rfl ?_
    refine aw_iconst (n := 4) (v := (4 : Int32)) B (by decide +kernel) (by decide) ?_
    refine aw_icmp_ge (off := 43) B 159 (by decide +kernel) (by decide) (fun _ => ?_) (fun _ => ?_)
    · refine aw_iinc (i := 5) (n := 1) B 4 [(5, .int (v5 + 1)), (0, .ref 47), (1, .int v1), (2, .int v2), (3, .long v3), (6, .int v6)] (by decide +kernel) rfl (Nat.le_of_ble_eq_true rfl) (v5 + 1) (ab_inc (by decide)) rfl ?_
      refine aw_goto (off := -132) B 30 (by decide +kernel) (by decide) ?_
      exact aw_sub [1, 2, 3, 4, 0] rfl (hk30 _ _ _ _ _)
    · refine aw_aload_n (k0 := 0) B 0 (by decide +kernel) rfl rfl ?_
      refine aw_getr (c := 47) B lkX11_65 (by decide +kernel) rfl (r := 66) rfl ?_
      refine aw_iload (i := 6) B 5 (by decide +kernel) rfl ?_
      refine aw_iaload B (by decide +kernel) ?_
      refine aw_iload_n (k0 := 1) B 1 (by decide +kernel) rfl rfl ?_
      refine aw_icmp_ne (off := 26) B 153 (by decide +kernel) (by decide) (fun _ => ?_) (fun _ => ?_)
      · exact w_X11_friend_b153 hG B ih _ _ _ _ _ _
      · refine aw_aload_n (k0 := 0) B 0 (by decide +kernel) rfl rfl ?_
        refine aw_getr (c := 47) B lkX11_72 (by decide +kernel) rfl (r := 68) rfl ?_
        refine aw_iload (i := 6) B 5 (by decide +kernel) rfl ?_
        refine aw_laload B (by decide +kernel) ?_
        refine aw_lload_n (k0 := 3) B 3 (by decide +kernel) rfl rfl ?_
        refine aw_lcmp B (by decide +kernel) ?_
        refine aw_if_le (off := 14) B 153 (by decide +kernel) (by decide) (fun _ => ?_) (fun _ => ?_)
        · exact w_X11_friend_b153 hG B ih _ _ _ _ _ _
        · refine aw_iload (i := 5) B 4 (by decide +kernel) rfl ?_
          refine aw_istore_n (k0 := 2) B [(2, .int v5), (0, .ref 47), (1, .int v1), (3, .long v3), (5, .int v5), (6, .int v6)] (by decide +kernel) rfl (Nat.le_of_ble_eq_true rfl) rfl ?_
          refine aw_aload_n (k0 := 0) B 1 (by decide +kernel) rfl rfl ?_
          refine aw_getr (c := 47) B lkX11_72 (by decide +kernel) rfl (r := 68) rfl ?_
          refine aw_iload (i := 6) B 5 (by decide +kernel) rfl ?_
          refine aw_laload B (by decide +kernel) ?_
          refine aw_ltJ (fun x1 => ?_)
          refine aw_lstore_n (k0 := 3) B [(3, .long x1), (2, .int v5), (0, .ref 47), (1, .int v1), (5, .int v5), (6, .int v6)] (by decide +kernel) rfl (Nat.le_of_ble_eq_true rfl) rfl ?_
          exact aw_sub [2, 3, 1, 0, 4, 5] rfl (w_X11_friend_b153 hG B ih _ _ _ _ _ _)
def f_X11_friend_b104 (k30 : Int32 → Int32 → Int64 → Int32 → Mem → Option (Int32 × Mem)) (v1 : Int32) (v2 : Int32) (v3 : Int64) (v5 : Int32) (s0 : Int32) (s2 : Int32) (M : Mem) : Option (Int32 × Mem) := ck (okI 65 s0) (ck (okI 66 s2) (lt (wI M 66 s2.toNatClampNeg (M.1 65 s0.toNatClampNeg)) fun M1 => (f_X11_goesCup M1).bind fun M3 => f_X11_friend_L113 k30 FU v1 v2 v3 v5 (0 : Int32) M3))
set_option maxRecDepth 100000 in
set_option maxHeartbeats 4000000 in
theorem w_X11_friend_b104 {G : GW} {E : EE} (hG : ab_ok G) {k30 : Int32 → Int32 → Int64 → Int32 → Mem → Option (Int32 × Mem)} (B : Bx G E RX11 cX11_friend 7 293 (some .int)) (hk30 : ∀ (v1 : Int32) (v2 : Int32) (v3 : Int64) (v5 : Int32) (M : Mem), AWo G E cX11_friend 7 (ab_Q G E embI) 30 [(0, .ref 47), (1, .int v1), (2, .int v2), (3, .long v3), (5, .int v5)] [] M (k30 v1 v2 v3 v5 M)) (v1 : Int32) (v2 : Int32) (v3 : Int64) (v5 : Int32) (s0 : Int32) (s2 : Int32) (M : Mem) : AWo G E cX11_friend 7 (ab_Q G E embI) 104 [(0, .ref 47), (1, .int v1), (2, .int v2), (3, .long v3), (5, .int v5)] [.int s0, .ref 65, .int s2, .ref 66] M (f_X11_friend_b104 k30 v1 v2 v3 v5 s0 s2 M) := by
  unfold f_X11_friend_b104
  refine aw_iaload B (by decide +kernel) ?_
  refine aw_iastore B (by decide +kernel) (fun M1 => ?_)
  refine aw_aload_n (k0 := 0) B 0 (by decide +kernel) rfl rfl ?_
  refine aw_cVV B (c_X11_goesCup (eLa E) hG M1) cvX11_306 rfl rfl (Nat.le_of_ble_eq_true rfl) rfl (Nat.le_of_ble_eq_true rfl) (by decide +kernel) rfl (fun M3 => ?_)
  refine aw_iconst (n := 0) (v := (0 : Int32)) B (by decide +kernel) (by decide) ?_
  refine aw_istore (i := 6) B [(6, .int (0 : Int32)), (0, .ref 47), (1, .int v1), (2, .int v2), (3, .long v3), (5, .int v5)] (by decide +kernel) (Nat.le_of_ble_eq_true rfl) rfl ?_
  exact aw_sub [1, 2, 3, 4, 5, 0] rfl (w_X11_friend_L113 hG B hk30 FU _ _ _ _ _ _)
def f_X11_friend_b82 (k30 : Int32 → Int32 → Int64 → Int32 → Mem → Option (Int32 × Mem)) (v1 : Int32) (v2 : Int32) (v3 : Int64) (v5 : Int32) (s0 : Int32) (s2 : Int32) (M : Mem) : Option (Int32 × Mem) := ck (okI 65 s0) (ck (okI 66 s2) (lt (wI M 66 s2.toNatClampNeg (M.1 65 s0.toNatClampNeg)) fun M1 => (if v5 = (2 : Int32) then f_X11_friend_b104 k30 v1 v2 v3 v5 (2 : Int32) (3 : Int32) M1 else f_X11_friend_b104 k30 v1 v2 v3 v5 (3 : Int32) (3 : Int32) M1)))
set_option maxRecDepth 100000 in
set_option maxHeartbeats 4000000 in
theorem w_X11_friend_b82 {G : GW} {E : EE} (hG : ab_ok G) {k30 : Int32 → Int32 → Int64 → Int32 → Mem → Option (Int32 × Mem)} (B : Bx G E RX11 cX11_friend 7 293 (some .int)) (hk30 : ∀ (v1 : Int32) (v2 : Int32) (v3 : Int64) (v5 : Int32) (M : Mem), AWo G E cX11_friend 7 (ab_Q G E embI) 30 [(0, .ref 47), (1, .int v1), (2, .int v2), (3, .long v3), (5, .int v5)] [] M (k30 v1 v2 v3 v5 M)) (v1 : Int32) (v2 : Int32) (v3 : Int64) (v5 : Int32) (s0 : Int32) (s2 : Int32) (M : Mem) : AWo G E cX11_friend 7 (ab_Q G E embI) 82 [(0, .ref 47), (1, .int v1), (2, .int v2), (3, .long v3), (5, .int v5)] [.int s0, .ref 65, .int s2, .ref 66] M (f_X11_friend_b82 k30 v1 v2 v3 v5 s0 s2 M) := by
  unfold f_X11_friend_b82
  refine aw_iaload B (by decide +kernel) ?_
  refine aw_iastore B (by decide +kernel) (fun M1 => ?_)
  refine aw_aload_n (k0 := 0) B 0 (by decide +kernel) rfl rfl ?_
  refine aw_getr (c := 47) B lkX11_65 (by decide +kernel) rfl (r := 66) rfl ?_
  refine aw_iconst (n := 3) (v := (3 : Int32)) B (by decide +kernel) (by decide) ?_
  refine aw_aload_n (k0 := 0) B 0 (by decide +kernel) rfl rfl ?_
  refine aw_getr (c := 47) B lkX11_62 (by decide +kernel) rfl (r := 65) rfl ?_
  refine aw_iload (i := 5) B 4 (by decide +kernel) rfl ?_
  refine aw_iconst (n := 2) (v := (2 : Int32)) B (by decide +kernel) (by decide) ?_
  refine aw_icmp_ne (off := 7) B 103 (by decide +kernel) (by decide) (fun _ => ?_) (fun _ => ?_)
  · refine aw_iconst (n := 3) (v := (3 : Int32)) B (by decide +kernel) (by decide) ?_
    exact w_X11_friend_b104 hG B hk30 _ _ _ _ _ _ _
  · refine aw_iconst (n := 2) (v := (2 : Int32)) B (by decide +kernel) (by decide) ?_
    refine aw_goto (off := 4) B 104 (by decide +kernel) (by decide) ?_
    exact w_X11_friend_b104 hG B hk30 _ _ _ _ _ _ _
def f_X11_friend_L30 : Nat → Int32 → Int32 → Int64 → Int32 → Mem → Option (Int32 × Mem)
  | 0, _, _, _, _, _ => none
  | n + 1, v1, v2, v3, v5, M => (if (3 : Int32) ≤ v5 then (some (v2, M)) else ck (okI 65 (0 : Int32)) (ck (okI 66 (0 : Int32)) (lt (wI M 66 (0 : Int32).toNatClampNeg (M.1 65 (0 : Int32).toNatClampNeg)) fun M1 => ck (okI 65 (v5 + (1 : Int32))) (ck (okI 66 (1 : Int32)) (lt (wI M1 66 (1 : Int32).toNatClampNeg (M1.1 65 (v5 + (1 : Int32)).toNatClampNeg)) fun M2 => (if v5 = 0 then f_X11_friend_b82 (fun a0 a1 a2 a3 a4 => f_X11_friend_L30 n a0 a1 a2 a3 a4) v1 v2 v3 v5 (2 : Int32) (2 : Int32) M2 else f_X11_friend_b82 (fun a0 a1 a2 a3 a4 => f_X11_friend_L30 n a0 a1 a2 a3 a4) v1 v2 v3 v5 (1 : Int32) (2 : Int32) M2))))))
set_option maxRecDepth 100000 in
set_option maxHeartbeats 4000000 in
theorem w_X11_friend_L30 {G : GW} {E : EE} (hG : ab_ok G) (B : Bx G E RX11 cX11_friend 7 293 (some .int)) : ∀ (n : Nat) (v1 : Int32) (v2 : Int32) (v3 : Int64) (v5 : Int32) (M : Mem), AWo G E cX11_friend 7 (ab_Q G E embI) 30 [(0, .ref 47), (1, .int v1), (2, .int v2), (3, .long v3), (5, .int v5)] [] M (f_X11_friend_L30 n v1 v2 v3 v5 M) := by
  intro n
  induction n with
  | zero => intro _ _ _ _ _; exact aw_none
  | succ n ih =>
    intro v1 v2 v3 v5 M
    rw [f_X11_friend_L30]
    refine aw_iload (i := 5) B 4 (by decide +kernel) rfl ?_
    refine aw_iconst (n := 3) (v := (3 : Int32)) B (by decide +kernel) (by decide) ?_
    refine aw_icmp_ge (off := 132) B 165 (by decide +kernel) (by decide) (fun _ => ?_) (fun _ => ?_)
    · refine aw_iload_n (k0 := 2) B 2 (by decide +kernel) rfl rfl ?_
      exact aw_ireturn B (by decide +kernel) rfl
    · refine aw_aload_n (k0 := 0) B 0 (by decide +kernel) rfl rfl ?_
      refine aw_getr (c := 47) B lkX11_65 (by decide +kernel) rfl (r := 66) rfl ?_
      refine aw_iconst (n := 0) (v := (0 : Int32)) B (by decide +kernel) (by decide) ?_
      refine aw_aload_n (k0 := 0) B 0 (by decide +kernel) rfl rfl ?_
      refine aw_getr (c := 47) B lkX11_62 (by decide +kernel) rfl (r := 65) rfl ?_
      refine aw_iconst (n := 0) (v := (0 : Int32)) B (by decide +kernel) (by decide) ?_
      refine aw_iaload B (by decide +kernel) ?_
      refine aw_iastore B (by decide +kernel) (fun M1 => ?_)
      refine aw_aload_n (k0 := 0) B 0 (by decide +kernel) rfl rfl ?_
      refine aw_getr (c := 47) B lkX11_65 (by decide +kernel) rfl (r := 66) rfl ?_
      refine aw_iconst (n := 1) (v := (1 : Int32)) B (by decide +kernel) (by decide) ?_
      refine aw_aload_n (k0 := 0) B 0 (by decide +kernel) rfl rfl ?_
      refine aw_getr (c := 47) B lkX11_62 (by decide +kernel) rfl (r := 65) rfl ?_
      refine aw_iload (i := 5) B 4 (by decide +kernel) rfl ?_
      refine aw_iconst (n := 1) (v := (1 : Int32)) B (by decide +kernel) (by decide) ?_
      refine aw_iadd B (by decide +kernel) ?_
      refine aw_iaload B (by decide +kernel) ?_
      refine aw_iastore B (by decide +kernel) (fun M2 => ?_)
      refine aw_aload_n (k0 := 0) B 0 (by decide +kernel) rfl rfl ?_
      refine aw_getr (c := 47) B lkX11_65 (by decide +kernel) rfl (r := 66) rfl ?_
      refine aw_iconst (n := 2) (v := (2 : Int32)) B (by decide +kernel) (by decide) ?_
      refine aw_aload_n (k0 := 0) B 0 (by decide +kernel) rfl rfl ?_
      refine aw_getr (c := 47) B lkX11_62 (by decide +kernel) rfl (r := 65) rfl ?_
      refine aw_iload (i := 5) B 4 (by decide +kernel) rfl ?_
      refine aw_if_ne (off := 7) B 81 (by decide +kernel) (by decide) (fun _ => ?_) (fun _ => ?_)
      · refine aw_iconst (n := 1) (v := (1 : Int32)) B (by decide +kernel) (by decide) ?_
        exact w_X11_friend_b82 hG B ih _ _ _ _ _ _ _
      · refine aw_iconst (n := 2) (v := (2 : Int32)) B (by decide +kernel) (by decide) ?_
        refine aw_goto (off := 4) B 82 (by decide +kernel) (by decide) ?_
        exact w_X11_friend_b82 hG B ih _ _ _ _ _ _ _
def f_X11_friend (v1 : Int32) (M : Mem) : Option (Int32 × Mem) := (f_X11_placeInRow v1 M).bind fun x1 => (if 0 ≤ x1 then (if (M.1 47 34) = (4 : Int32) then f_X11_friend_L30 FU v1 (0 : Int32) (-1 : Int64) (0 : Int32) M else (some ((-5 : Int32), M))) else (some ((-1 : Int32), M)))
set_option maxRecDepth 100000 in
set_option maxHeartbeats 4000000 in
theorem w_X11_friend {G : GW} {E : EE} (hG : ab_ok G) (B : Bx G E RX11 cX11_friend 7 293 (some .int)) (v1 : Int32) (M : Mem) : AWo G E cX11_friend 7 (ab_Q G E embI) 0 [(0, .ref 47), (1, .int v1)] [] M (f_X11_friend v1 M) := by
  unfold f_X11_friend
  refine aw_aload_n (k0 := 0) B 0 (by decide +kernel) rfl rfl ?_
  refine aw_iload_n (k0 := 1) B 1 (by decide +kernel) rfl rfl ?_
  refine aw_cVR B (c_X11_placeInRow (eLa E) hG v1 M) cvX11_288 rfl rfl (Nat.le_of_ble_eq_true rfl) rfl (Nat.le_of_ble_eq_true rfl) (by decide +kernel) rfl (fun x1 => ?_)
  refine aw_if_ge (off := 5) B 10 (by decide +kernel) (by decide) (fun _ => ?_) (fun _ => ?_)
  · refine aw_aload_n (k0 := 0) B 0 (by decide +kernel) rfl rfl ?_
    refine aw_geti (c := 47) B lkX11_285 (by decide +kernel) rfl ?_
    refine aw_iconst (n := 4) (v := (4 : Int32)) B (by decide +kernel) (by decide) ?_
    refine aw_icmp_eq (off := 6) B 21 (by decide +kernel) (by decide) (fun _ => ?_) (fun _ => ?_)
    · refine aw_iconst (n := 0) (v := (0 : Int32)) B (by decide +kernel) (by decide) ?_
      refine aw_istore_n (k0 := 2) B [(2, .int (0 : Int32)), (0, .ref 47), (1, .int v1)] (by decide +kernel) rfl (Nat.le_of_ble_eq_true rfl) rfl ?_
      refine aw_ldc2 B (by decide +kernel) lwX11_319 ?_
      refine aw_lstore_n (k0 := 3) B [(3, .long (-1 : Int64)), (2, .int (0 : Int32)), (0, .ref 47), (1, .int v1)] (by decide +kernel) rfl (Nat.le_of_ble_eq_true rfl) rfl ?_
      refine aw_iconst (n := 0) (v := (0 : Int32)) B (by decide +kernel) (by decide) ?_
      refine aw_istore (i := 5) B [(5, .int (0 : Int32)), (3, .long (-1 : Int64)), (2, .int (0 : Int32)), (0, .ref 47), (1, .int v1)] (by decide +kernel) (Nat.le_of_ble_eq_true rfl) rfl ?_
      exact aw_sub [3, 4, 2, 1, 0] rfl (w_X11_friend_L30 hG B FU _ _ _ _ _)
    · refine aw_bipush (n := -5) (v := (-5 : Int32)) B (by decide +kernel) (by decide) ?_
      exact aw_ireturn B (by decide +kernel) rfl
  · refine aw_iconst (n := -1) (v := (-1 : Int32)) B (by decide +kernel) (by decide) ?_
    exact aw_ireturn B (by decide +kernel) rfl
theorem c_X11_friend (l : Launch) {G : GW} (hG : ab_ok G) (v1 : Int32) (M : Mem) : AC l G yX11_friend cX11_friend 7 (some .int) 293 [.ref 47, .int v1] M embI (f_X11_friend v1 M) := AC.of hG (by decide) (Nat.le_of_ble_eq_true rfl) (fun E hE B => by subst hE; exact w_X11_friend hG B v1 M)
def f_X3_playByLot_b145 (k22 : Int32 → Int32 → Int32 → Mem → Option (Int32 × Mem)) (v4 : Int32) (v5 : Int32) (v6 : Int32) (s0 : Int32) (s1 : Int32) (M : Mem) : Option (Int32 × Mem) := ck (okI 30 s1) (lt (wI M 30 s1.toNatClampNeg s0) fun M1 => k22 v4 v5 (v6 + 1) M1)
set_option maxRecDepth 100000 in
set_option maxHeartbeats 4000000 in
theorem w_X3_playByLot_b145 {G : GW} {E : EE} (hG : ab_ok G) {k22 : Int32 → Int32 → Int32 → Mem → Option (Int32 × Mem)} (B : Bx G E RX3 cX3_playByLot 10 6 (some .int)) (hk22 : ∀ (v4 : Int32) (v5 : Int32) (v6 : Int32) (M : Mem), AWo G E cX3_playByLot 10 (ab_Q G E embI) 22 [(0, .ref 28), (1, .ref 22), (2, .ref 1), (4, .int v4), (5, .int v5), (6, .int v6)] [] M (k22 v4 v5 v6 M)) (v4 : Int32) (v5 : Int32) (v6 : Int32) (s0 : Int32) (s1 : Int32) (M : Mem) : AWo G E cX3_playByLot 10 (ab_Q G E embI) 145 [(0, .ref 28), (1, .ref 22), (2, .ref 1), (4, .int v4), (5, .int v5), (6, .int v6)] [.int s0, .int s1, .ref 30] M (f_X3_playByLot_b145 k22 v4 v5 v6 s0 s1 M) := by
  unfold f_X3_playByLot_b145
  refine aw_iastore B (by decide +kernel) (fun M1 => ?_)
  refine aw_iinc (i := 6) (n := 1) B 5 [(6, .int (v6 + 1)), (0, .ref 28), (1, .ref 22), (2, .ref 1), (4, .int v4), (5, .int v5)] (by decide +kernel) rfl (Nat.le_of_ble_eq_true rfl) (v6 + 1) (ab_inc (by decide)) rfl ?_
  refine aw_goto (off := -127) B 22 (by decide +kernel) (by decide) ?_
  exact aw_sub [1, 2, 3, 4, 5, 0] rfl (hk22 _ _ _ _)
def f_X3_playByLot_b125 (k22 : Int32 → Int32 → Int32 → Mem → Option (Int32 × Mem)) (v4 : Int32) (v5 : Int32) (v6 : Int32) (v7 : Int32) (v8 : Int32) (s0 : Int32) (M : Mem) : Option (Int32 × Mem) := (if s0 = 0 then f_X3_playByLot_b145 k22 v4 v5 v6 v8 v6 M else f_X3_playByLot_b145 k22 v4 v5 v6 v7 v6 M)
set_option maxRecDepth 100000 in
set_option maxHeartbeats 4000000 in
theorem w_X3_playByLot_b125 {G : GW} {E : EE} (hG : ab_ok G) {k22 : Int32 → Int32 → Int32 → Mem → Option (Int32 × Mem)} (B : Bx G E RX3 cX3_playByLot 10 6 (some .int)) (hk22 : ∀ (v4 : Int32) (v5 : Int32) (v6 : Int32) (M : Mem), AWo G E cX3_playByLot 10 (ab_Q G E embI) 22 [(0, .ref 28), (1, .ref 22), (2, .ref 1), (4, .int v4), (5, .int v5), (6, .int v6)] [] M (k22 v4 v5 v6 M)) (v4 : Int32) (v5 : Int32) (v6 : Int32) (v7 : Int32) (v8 : Int32) (s0 : Int32) (M : Mem) : AWo G E cX3_playByLot 10 (ab_Q G E embI) 125 [(0, .ref 28), (1, .ref 22), (2, .ref 1), (4, .int v4), (5, .int v5), (6, .int v6), (7, .int v7), (8, .int v8)] [.int s0] M (f_X3_playByLot_b125 k22 v4 v5 v6 v7 v8 s0 M) := by
  unfold f_X3_playByLot_b125
  refine aw_istore (i := 9) B [(9, .int s0), (0, .ref 28), (1, .ref 22), (2, .ref 1), (4, .int v4), (5, .int v5), (6, .int v6), (7, .int v7), (8, .int v8)] (by decide +kernel) (Nat.le_of_ble_eq_true rfl) rfl ?_
  refine aw_aload_n (k0 := 0) B 1 (by decide +kernel) rfl rfl ?_
  refine aw_getr (c := 28) B lkX3_15 (by decide +kernel) rfl (r := 30) rfl ?_
  refine aw_iload (i := 6) B 6 (by decide +kernel) rfl ?_
  refine aw_iload (i := 9) B 0 (by decide +kernel) rfl ?_
  refine aw_if_eq (off := 8) B 143 (by decide +kernel) (by decide) (fun _ => ?_) (fun _ => ?_)
  · refine aw_iload (i := 8) B 8 (by decide +kernel) rfl ?_
    exact aw_sub [1, 2, 3, 4, 5, 6] rfl (w_X3_playByLot_b145 hG B hk22 _ _ _ _ _ _)
  · refine aw_iload (i := 7) B 7 (by decide +kernel) rfl ?_
    refine aw_goto (off := 5) B 145 (by decide +kernel) (by decide) ?_
    exact aw_sub [1, 2, 3, 4, 5, 6] rfl (w_X3_playByLot_b145 hG B hk22 _ _ _ _ _ _)
def f_X3_playByLot_L22 (k10 : Int32 → Int32 → Mem → Option (Int32 × Mem)) : Nat → Int32 → Int32 → Int32 → Mem → Option (Int32 × Mem)
  | 0, _, _, _, _ => none
  | n + 1, v4, v5, v6, M => (if (ab_shr (M.1 28 0) (v5 + (1 : Int32))) ≤ v6 then k10 v4 (v5 + 1) M else ck (okI 30 ((2 : Int32) * v6)) (ck (okI 30 (((2 : Int32) * v6) + (1 : Int32))) (lt (ab_min (M.1 30 ((2 : Int32) * v6).toNatClampNeg) (M.1 30 (((2 : Int32) * v6) + (1 : Int32)).toNatClampNeg)) fun x1 => ck (okI 30 ((2 : Int32) * v6)) (ck (okI 30 (((2 : Int32) * v6) + (1 : Int32))) (lt (ab_max (M.1 30 ((2 : Int32) * v6).toNatClampNeg) (M.1 30 (((2 : Int32) * v6) + (1 : Int32)).toNatClampNeg)) fun x2 => lt ((v4 * (1103515245 : Int32)) + (12345 : Int32)) fun x3 => bI (f_X3_oddsOf x1 x2 v5 M) fun x4 M5 => (if x4 ≤ (ab_rem (ab_ushr x3 (8 : Int32)) (100 : Int32)) then f_X3_playByLot_b125 (fun a0 a1 a2 a3 => f_X3_playByLot_L22 k10 n a0 a1 a2 a3) x3 v5 v6 x1 x2 (0 : Int32) M5 else f_X3_playByLot_b125 (fun a0 a1 a2 a3 => f_X3_playByLot_L22 k10 n a0 a1 a2 a3) x3 v5 v6 x1 x2 (1 : Int32) M5))))))
set_option maxRecDepth 100000 in
set_option maxHeartbeats 4000000 in
theorem w_X3_playByLot_L22 {G : GW} {E : EE} (hG : ab_ok G) {k10 : Int32 → Int32 → Mem → Option (Int32 × Mem)} (B : Bx G E RX3 cX3_playByLot 10 6 (some .int)) (hk10 : ∀ (v4 : Int32) (v5 : Int32) (M : Mem), AWo G E cX3_playByLot 10 (ab_Q G E embI) 10 [(0, .ref 28), (1, .ref 22), (2, .ref 1), (4, .int v4), (5, .int v5)] [] M (k10 v4 v5 M)) : ∀ (n : Nat) (v4 : Int32) (v5 : Int32) (v6 : Int32) (M : Mem), AWo G E cX3_playByLot 10 (ab_Q G E embI) 22 [(0, .ref 28), (1, .ref 22), (2, .ref 1), (4, .int v4), (5, .int v5), (6, .int v6)] [] M (f_X3_playByLot_L22 k10 n v4 v5 v6 M) := by
  intro n
  induction n with
  | zero => intro _ _ _ _; exact aw_none
  | succ n ih =>
    intro v4 v5 v6 M
    rw [f_X3_playByLot_L22]
    refine aw_iload (i := 6) B 5 (by decide +kernel) rfl ?_
    refine aw_aload_n (k0 := 0) B 0 (by decide +kernel) rfl rfl ?_
    refine aw_geti (c := 28) B lkX3_28 (by decide +kernel) rfl ?_
    refine aw_iload (i := 5) B 4 (by decide +kernel) rfl ?_
    refine aw_iconst (n := 1) (v := (1 : Int32)) B (by decide +kernel) (by decide) ?_
    refine aw_iadd B (by decide +kernel) ?_
    refine aw_ishr B (by decide +kernel) ?_
    refine aw_icmp_ge (off := 119) B 152 (by decide +kernel) (by decide) (fun _ => ?_) (fun _ => ?_)
    · refine aw_iinc (i := 5) (n := 1) B 4 [(5, .int (v5 + 1)), (0, .ref 28), (1, .ref 22), (2, .ref 1), (4, .int v4), (6, .int v6)] (by decide +kernel) rfl (Nat.le_of_ble_eq_true rfl) (v5 + 1) (ab_inc (by decide)) rfl ?_
      refine aw_goto (off := -145) B 10 (by decide +kernel) (by decide) ?_
      exact aw_sub [1, 2, 3, 4, 0] rfl (hk10 _ _ _)
    · refine aw_aload_n (k0 := 0) B 0 (by decide +kernel) rfl rfl ?_
      refine aw_getr (c := 28) B lkX3_15 (by decide +kernel) rfl (r := 30) rfl ?_
      refine aw_iconst (n := 2) (v := (2 : Int32)) B (by decide +kernel) (by decide) ?_
      refine aw_iload (i := 6) B 5 (by decide +kernel) rfl ?_
      refine aw_imul B (by decide +kernel) ?_
      refine aw_iaload B (by decide +kernel) ?_
      refine aw_aload_n (k0 := 0) B 0 (by decide +kernel) rfl rfl ?_
      refine aw_getr (c := 28) B lkX3_15 (by decide +kernel) rfl (r := 30) rfl ?_
      refine aw_iconst (n := 2) (v := (2 : Int32)) B (by decide +kernel) (by decide) ?_
      refine aw_iload (i := 6) B 5 (by decide +kernel) rfl ?_
      refine aw_imul B (by decide +kernel) ?_
      refine aw_iconst (n := 1) (v := (1 : Int32)) B (by decide +kernel) (by decide) ?_
      refine aw_iadd B (by decide +kernel) ?_
      refine aw_iaload B (by decide +kernel) ?_
      refine aw_min B lxX3_102 (by decide +kernel) (Nat.le_of_ble_eq_true rfl) (Nat.le_of_ble_eq_true rfl) ?_
      refine aw_ltI (fun x1 => ?_)
      refine aw_istore (i := 7) B [(7, .int x1), (0, .ref 28), (1, .ref 22), (2, .ref 1), (4, .int v4), (5, .int v5), (6, .int v6)] (by decide +kernel) (Nat.le_of_ble_eq_true rfl) rfl ?_
      refine aw_aload_n (k0 := 0) B 1 (by decide +kernel) rfl rfl ?_
      refine aw_getr (c := 28) B lkX3_15 (by decide +kernel) rfl (r := 30) rfl ?_
      refine aw_iconst (n := 2) (v := (2 : Int32)) B (by decide +kernel) (by decide) ?_
      refine aw_iload (i := 6) B 6 (by decide +kernel) rfl ?_
      refine aw_imul B (by decide +kernel) ?_
      refine aw_iaload B (by decide +kernel) ?_
      refine aw_aload_n (k0 := 0) B 1 (by decide +kernel) rfl rfl ?_
      refine aw_getr (c := 28) B lkX3_15 (by decide +kernel) rfl (r := 30) rfl ?_
      refine aw_iconst (n := 2) (v := (2 : Int32)) B (by decide +kernel) (by decide) ?_
      refine aw_iload (i := 6) B 6 (by decide +kernel) rfl ?_
      refine aw_imul B (by decide +kernel) ?_
      refine aw_iconst (n := 1) (v := (1 : Int32)) B (by decide +kernel) (by decide) ?_
      refine aw_iadd B (by decide +kernel) ?_
      refine aw_iaload B (by decide +kernel) ?_
      refine aw_max B lxX3_75 (by decide +kernel) (Nat.le_of_ble_eq_true rfl) (Nat.le_of_ble_eq_true rfl) ?_
      refine aw_ltI (fun x2 => ?_)
      refine aw_istore (i := 8) B [(8, .int x2), (7, .int x1), (0, .ref 28), (1, .ref 22), (2, .ref 1), (4, .int v4), (5, .int v5), (6, .int v6)] (by decide +kernel) (Nat.le_of_ble_eq_true rfl) rfl ?_
      refine aw_iload (i := 4) B 5 (by decide +kernel) rfl ?_
      refine aw_ldc B (by decide +kernel) lwX3_105 ?_
      refine aw_imul B (by decide +kernel) ?_
      refine aw_sipush (n := 12345) (v := (12345 : Int32)) B (by decide +kernel) (by decide) ?_
      refine aw_iadd B (by decide +kernel) ?_
      refine aw_ltI (fun x3 => ?_)
      refine aw_istore (i := 4) B [(4, .int x3), (8, .int x2), (7, .int x1), (0, .ref 28), (1, .ref 22), (2, .ref 1), (5, .int v5), (6, .int v6)] (by decide +kernel) (Nat.le_of_ble_eq_true rfl) rfl ?_
      refine aw_iload (i := 4) B 0 (by decide +kernel) rfl ?_
      refine aw_bipush (n := 8) (v := (8 : Int32)) B (by decide +kernel) (by decide) ?_
      refine aw_iushr B (by decide +kernel) ?_
      refine aw_bipush (n := 100) (v := (100 : Int32)) B (by decide +kernel) (by decide) ?_
      refine aw_iremK B (by decide +kernel) (by decide) ?_
      refine aw_aload_n (k0 := 0) B 3 (by decide +kernel) rfl rfl ?_
      refine aw_aload_n (k0 := 1) B 4 (by decide +kernel) rfl rfl ?_
      refine aw_aload_n (k0 := 2) B 5 (by decide +kernel) rfl rfl ?_
      refine aw_iload (i := 7) B 2 (by decide +kernel) rfl ?_
      refine aw_iload (i := 8) B 1 (by decide +kernel) rfl ?_
      refine aw_iload (i := 5) B 6 (by decide +kernel) rfl ?_
      refine aw_cVI B (c_X3_oddsOf (eLa E) hG x1 x2 v5 M) cvX3_92 rfl rfl (Nat.le_of_ble_eq_true rfl) rfl (Nat.le_of_ble_eq_true rfl) (by decide +kernel) rfl (fun x4 M5 => ?_)
      refine aw_icmp_ge (off := 7) B 124 (by decide +kernel) (by decide) (fun _ => ?_) (fun _ => ?_)
      · refine aw_iconst (n := 0) (v := (0 : Int32)) B (by decide +kernel) (by decide) ?_
        exact aw_sub [3, 4, 5, 0, 6, 7, 2, 1] rfl (w_X3_playByLot_b125 hG B ih _ _ _ _ _ _ _)
      · refine aw_iconst (n := 1) (v := (1 : Int32)) B (by decide +kernel) (by decide) ?_
        refine aw_goto (off := 4) B 125 (by decide +kernel) (by decide) ?_
        exact aw_sub [3, 4, 5, 0, 6, 7, 2, 1] rfl (w_X3_playByLot_b125 hG B ih _ _ _ _ _ _ _)
def f_X3_playByLot_L10 : Nat → Int32 → Int32 → Mem → Option (Int32 × Mem)
  | 0, _, _, _ => none
  | n + 1, v4, v5, M => (f_X3_rounds M).bind fun x1 => (if x1 ≤ v5 then (some (v4, M)) else f_X3_playByLot_L22 (fun a0 a1 a2 => f_X3_playByLot_L10 n a0 a1 a2) FU v4 v5 (0 : Int32) M)
set_option maxRecDepth 100000 in
set_option maxHeartbeats 4000000 in
theorem w_X3_playByLot_L10 {G : GW} {E : EE} (hG : ab_ok G) (B : Bx G E RX3 cX3_playByLot 10 6 (some .int)) : ∀ (n : Nat) (v4 : Int32) (v5 : Int32) (M : Mem), AWo G E cX3_playByLot 10 (ab_Q G E embI) 10 [(0, .ref 28), (1, .ref 22), (2, .ref 1), (4, .int v4), (5, .int v5)] [] M (f_X3_playByLot_L10 n v4 v5 M) := by
  intro n
  induction n with
  | zero => intro _ _ _; exact aw_none
  | succ n ih =>
    intro v4 v5 M
    rw [f_X3_playByLot_L10]
    refine aw_iload (i := 5) B 4 (by decide +kernel) rfl ?_
    refine aw_aload_n (k0 := 0) B 0 (by decide +kernel) rfl rfl ?_
    refine aw_cVR B (c_X3_rounds (eLa E) hG M) cvX3_54 rfl rfl (Nat.le_of_ble_eq_true rfl) rfl (Nat.le_of_ble_eq_true rfl) (by decide +kernel) rfl (fun x1 => ?_)
    refine aw_icmp_ge (off := 142) B 158 (by decide +kernel) (by decide) (fun _ => ?_) (fun _ => ?_)
    · refine aw_iload (i := 4) B 3 (by decide +kernel) rfl ?_
      exact aw_ireturn B (by decide +kernel) rfl
    · refine aw_iconst (n := 0) (v := (0 : Int32)) B (by decide +kernel) (by decide) ?_
      refine aw_istore (i := 6) B [(6, .int (0 : Int32)), (0, .ref 28), (1, .ref 22), (2, .ref 1), (4, .int v4), (5, .int v5)] (by decide +kernel) (Nat.le_of_ble_eq_true rfl) rfl ?_
      exact aw_sub [1, 2, 3, 4, 5, 0] rfl (w_X3_playByLot_L22 hG B ih FU _ _ _ _)
def f_X3_playByLot (v3 : Int32) (M : Mem) : Option (Int32 × Mem) := (f_X3_sitDown M).bind fun M2 => f_X3_playByLot_L10 FU v3 (0 : Int32) M2
set_option maxRecDepth 100000 in
set_option maxHeartbeats 4000000 in
theorem w_X3_playByLot {G : GW} {E : EE} (hG : ab_ok G) (B : Bx G E RX3 cX3_playByLot 10 6 (some .int)) (v3 : Int32) (M : Mem) : AWo G E cX3_playByLot 10 (ab_Q G E embI) 0 [(0, .ref 28), (1, .ref 22), (2, .ref 1), (3, .int v3)] [] M (f_X3_playByLot v3 M) := by
  unfold f_X3_playByLot
  refine aw_iload_n (k0 := 3) B 3 (by decide +kernel) rfl rfl ?_
  refine aw_istore (i := 4) B [(4, .int v3), (0, .ref 28), (1, .ref 22), (2, .ref 1), (3, .int v3)] (by decide +kernel) (Nat.le_of_ble_eq_true rfl) rfl ?_
  refine aw_aload_n (k0 := 0) B 1 (by decide +kernel) rfl rfl ?_
  refine aw_cVV B (c_X3_sitDown (eLa E) hG M) cvX3_68 rfl rfl (Nat.le_of_ble_eq_true rfl) rfl (Nat.le_of_ble_eq_true rfl) (by decide +kernel) rfl (fun M2 => ?_)
  refine aw_iconst (n := 0) (v := (0 : Int32)) B (by decide +kernel) (by decide) ?_
  refine aw_istore (i := 5) B [(5, .int (0 : Int32)), (4, .int v3), (0, .ref 28), (1, .ref 22), (2, .ref 1), (3, .int v3)] (by decide +kernel) (Nat.le_of_ble_eq_true rfl) rfl ?_
  exact aw_sub [2, 3, 4, 1, 0] rfl (w_X3_playByLot_L10 hG B FU _ _ _)
theorem c_X3_playByLot (l : Launch) {G : GW} (hG : ab_ok G) (v3 : Int32) (M : Mem) : AC l G yX3_playByLot cX3_playByLot 10 (some .int) 6 [.ref 28, .ref 22, .ref 1, .int v3] M embI (f_X3_playByLot v3 M) := AC.of hG (by decide) (Nat.le_of_ble_eq_true rfl) (fun E hE B => by subst hE; exact w_X3_playByLot hG B v3 M)
def f_X3_wonByLot_b44 (k13 : Int32 → Int32 → Int32 → Int32 → Int32 → Mem → Option (Int32 × Mem)) (v4 : Int32) (v5 : Int32) (v6 : Int32) (v7 : Int32) (v8 : Int32) (M : Mem) : Option (Int32 × Mem) := k13 v4 v5 v6 v7 (v8 + 1) M
set_option maxRecDepth 100000 in
set_option maxHeartbeats 4000000 in
theorem w_X3_wonByLot_b44 {G : GW} {E : EE} (hG : ab_ok G) {k13 : Int32 → Int32 → Int32 → Int32 → Int32 → Mem → Option (Int32 × Mem)} (B : Bx G E RX3 cX3_wonByLot 9 7 (some .int)) (hk13 : ∀ (v4 : Int32) (v5 : Int32) (v6 : Int32) (v7 : Int32) (v8 : Int32) (M : Mem), AWo G E cX3_wonByLot 9 (ab_Q G E embI) 13 [(0, .ref 28), (1, .ref 22), (2, .ref 1), (4, .int v4), (5, .int v5), (6, .int v6), (7, .int v7), (8, .int v8)] [] M (k13 v4 v5 v6 v7 v8 M)) (v4 : Int32) (v5 : Int32) (v6 : Int32) (v7 : Int32) (v8 : Int32) (M : Mem) : AWo G E cX3_wonByLot 9 (ab_Q G E embI) 44 [(0, .ref 28), (1, .ref 22), (2, .ref 1), (4, .int v4), (5, .int v5), (6, .int v6), (7, .int v7), (8, .int v8)] [] M (f_X3_wonByLot_b44 k13 v4 v5 v6 v7 v8 M) := by
  unfold f_X3_wonByLot_b44
  refine aw_iinc (i := 8) (n := 1) B 7 [(8, .int (v8 + 1)), (0, .ref 28), (1, .ref 22), (2, .ref 1), (4, .int v4), (5, .int v5), (6, .int v6), (7, .int v7)] (by decide +kernel) rfl (Nat.le_of_ble_eq_true rfl) (v8 + 1) (ab_inc (by decide)) rfl ?_
  refine aw_goto (off := -34) B 13 (by decide +kernel) (by decide) ?_
  exact aw_sub [1, 2, 3, 4, 5, 6, 7, 0] rfl (hk13 _ _ _ _ _ _)
def f_X3_wonByLot_L13 : Nat → Int32 → Int32 → Int32 → Int32 → Int32 → Mem → Option (Int32 × Mem)
  | 0, _, _, _, _, _, _ => none
  | n + 1, v4, v5, v6, v7, v8, M => (if v4 ≤ v8 then (some (v7, M)) else bI (f_X3_playByLot v6 M) fun x1 M2 => ck (okI 30 (0 : Int32)) ((if (M2.1 30 (0 : Int32).toNatClampNeg) = v5 then f_X3_wonByLot_b44 (fun a0 a1 a2 a3 a4 a5 => f_X3_wonByLot_L13 n a0 a1 a2 a3 a4 a5) v4 v5 x1 (v7 + 1) v8 M2 else f_X3_wonByLot_b44 (fun a0 a1 a2 a3 a4 a5 => f_X3_wonByLot_L13 n a0 a1 a2 a3 a4 a5) v4 v5 x1 v7 v8 M2)))
set_option maxRecDepth 100000 in
set_option maxHeartbeats 4000000 in
theorem w_X3_wonByLot_L13 {G : GW} {E : EE} (hG : ab_ok G) (B : Bx G E RX3 cX3_wonByLot 9 7 (some .int)) : ∀ (n : Nat) (v4 : Int32) (v5 : Int32) (v6 : Int32) (v7 : Int32) (v8 : Int32) (M : Mem), AWo G E cX3_wonByLot 9 (ab_Q G E embI) 13 [(0, .ref 28), (1, .ref 22), (2, .ref 1), (4, .int v4), (5, .int v5), (6, .int v6), (7, .int v7), (8, .int v8)] [] M (f_X3_wonByLot_L13 n v4 v5 v6 v7 v8 M) := by
  intro n
  induction n with
  | zero => intro _ _ _ _ _ _; exact aw_none
  | succ n ih =>
    intro v4 v5 v6 v7 v8 M
    rw [f_X3_wonByLot_L13]
    refine aw_iload (i := 8) B 7 (by decide +kernel) rfl ?_
    refine aw_iload (i := 4) B 3 (by decide +kernel) rfl ?_
    refine aw_icmp_ge (off := 33) B 50 (by decide +kernel) (by decide) (fun _ => ?_) (fun _ => ?_)
    · refine aw_iload (i := 7) B 6 (by decide +kernel) rfl ?_
      exact aw_ireturn B (by decide +kernel) rfl
    · refine aw_aload_n (k0 := 0) B 0 (by decide +kernel) rfl rfl ?_
      refine aw_aload_n (k0 := 1) B 1 (by decide +kernel) rfl rfl ?_
      refine aw_aload_n (k0 := 2) B 2 (by decide +kernel) rfl rfl ?_
      refine aw_iload (i := 6) B 5 (by decide +kernel) rfl ?_
      refine aw_cVI B (c_X3_playByLot (eLa E) hG v6 M) cvX3_98 rfl rfl (Nat.le_of_ble_eq_true rfl) rfl (Nat.le_of_ble_eq_true rfl) (by decide +kernel) rfl (fun x1 M2 => ?_)
      refine aw_istore (i := 6) B [(6, .int x1), (0, .ref 28), (1, .ref 22), (2, .ref 1), (4, .int v4), (5, .int v5), (7, .int v7), (8, .int v8)] (by decide +kernel) (Nat.le_of_ble_eq_true rfl) rfl ?_
      refine aw_aload_n (k0 := 0) B 1 (by decide +kernel) rfl rfl ?_
      refine aw_getr (c := 28) B lkX3_15 (by decide +kernel) rfl (r := 30) rfl ?_
      refine aw_iconst (n := 0) (v := (0 : Int32)) B (by decide +kernel) (by decide) ?_
      refine aw_iaload B (by decide +kernel) ?_
      refine aw_iload (i := 5) B 5 (by decide +kernel) rfl ?_
      refine aw_icmp_ne (off := 6) B 44 (by decide +kernel) (by decide) (fun _ => ?_) (fun _ => ?_)
      · exact aw_sub [1, 2, 3, 4, 5, 0, 6, 7] rfl (w_X3_wonByLot_b44 hG B ih _ _ _ _ _ _)
      · refine aw_iinc (i := 7) (n := 1) B 6 [(7, .int (v7 + 1)), (6, .int x1), (0, .ref 28), (1, .ref 22), (2, .ref 1), (4, .int v4), (5, .int v5), (8, .int v8)] (by decide +kernel) rfl (Nat.le_of_ble_eq_true rfl) (v7 + 1) (ab_inc (by decide)) rfl ?_
        exact aw_sub [2, 3, 4, 5, 6, 1, 0, 7] rfl (w_X3_wonByLot_b44 hG B ih _ _ _ _ _ _)
def f_X3_wonByLot (v3 : Int32) (v4 : Int32) (v5 : Int32) (M : Mem) : Option (Int32 × Mem) := (f_X3_forgetOdds M).bind fun M2 => f_X3_wonByLot_L13 FU v4 v5 v3 (0 : Int32) (0 : Int32) M2
set_option maxRecDepth 100000 in
set_option maxHeartbeats 4000000 in
theorem w_X3_wonByLot {G : GW} {E : EE} (hG : ab_ok G) (B : Bx G E RX3 cX3_wonByLot 9 7 (some .int)) (v3 : Int32) (v4 : Int32) (v5 : Int32) (M : Mem) : AWo G E cX3_wonByLot 9 (ab_Q G E embI) 0 [(0, .ref 28), (1, .ref 22), (2, .ref 1), (3, .int v3), (4, .int v4), (5, .int v5)] [] M (f_X3_wonByLot v3 v4 v5 M) := by
  unfold f_X3_wonByLot
  refine aw_iload_n (k0 := 3) B 3 (by decide +kernel) rfl rfl ?_
  refine aw_istore (i := 6) B [(6, .int v3), (0, .ref 28), (1, .ref 22), (2, .ref 1), (3, .int v3), (4, .int v4), (5, .int v5)] (by decide +kernel) (Nat.le_of_ble_eq_true rfl) rfl ?_
  refine aw_iconst (n := 0) (v := (0 : Int32)) B (by decide +kernel) (by decide) ?_
  refine aw_istore (i := 7) B [(7, .int (0 : Int32)), (6, .int v3), (0, .ref 28), (1, .ref 22), (2, .ref 1), (3, .int v3), (4, .int v4), (5, .int v5)] (by decide +kernel) (Nat.le_of_ble_eq_true rfl) rfl ?_
  refine aw_aload_n (k0 := 0) B 2 (by decide +kernel) rfl rfl ?_
  refine aw_cVV B (c_X3_forgetOdds (eLa E) hG M) cvX3_65 rfl rfl (Nat.le_of_ble_eq_true rfl) rfl (Nat.le_of_ble_eq_true rfl) (by decide +kernel) rfl (fun M2 => ?_)
  refine aw_iconst (n := 0) (v := (0 : Int32)) B (by decide +kernel) (by decide) ?_
  refine aw_istore (i := 8) B [(8, .int (0 : Int32)), (7, .int (0 : Int32)), (6, .int v3), (0, .ref 28), (1, .ref 22), (2, .ref 1), (3, .int v3), (4, .int v4), (5, .int v5)] (by decide +kernel) (Nat.le_of_ble_eq_true rfl) rfl ?_
  exact aw_sub [3, 4, 5, 7, 8, 2, 1, 0] rfl (w_X3_wonByLot_L13 hG B FU _ _ _ _ _ _)
theorem c_X3_wonByLot (l : Launch) {G : GW} (hG : ab_ok G) (v3 : Int32) (v4 : Int32) (v5 : Int32) (M : Mem) : AC l G yX3_wonByLot cX3_wonByLot 9 (some .int) 7 [.ref 28, .ref 22, .ref 1, .int v3, .int v4, .int v5] M embI (f_X3_wonByLot v3 v4 v5 M) := AC.of hG (by decide) (Nat.le_of_ble_eq_true rfl) (fun E hE B => by subst hE; exact w_X3_wonByLot hG B v3 v4 v5 M)
def f_X10_lots (v1 : Int32) (v2 : Int32) (v3 : Int32) (M : Mem) : Option (Int32 × Mem) := (f_X3_has v3 M).bind fun x1 => (if x1 = 0 then (some ((-1 : Int32), M)) else (if v2 < (1 : Int32) then (some ((-1 : Int32), M)) else (if v2 ≤ (50 : Int32) then (f_X3_isWhole M).bind fun x3 => (if x3 = 0 then (some ((-5 : Int32), M)) else bI (f_X3_wonByLot v1 v2 v3 M) fun x5 M6 => (some (x5, M6))) else (some ((-1 : Int32), M)))))
set_option maxRecDepth 100000 in
set_option maxHeartbeats 4000000 in
theorem w_X10_lots {G : GW} {E : EE} (hG : ab_ok G) (B : Bx G E RX10 cX10_lots 4 8 (some .int)) (v1 : Int32) (v2 : Int32) (v3 : Int32) (M : Mem) : AWo G E cX10_lots 4 (ab_Q G E embI) 0 [(0, .ref 0), (1, .int v1), (2, .int v2), (3, .int v3)] [] M (f_X10_lots v1 v2 v3 M) := by
  unfold f_X10_lots
  refine aw_aload_n (k0 := 0) B 0 (by decide +kernel) rfl rfl ?_
  refine aw_getr (c := 0) B lkX10_54 (by decide +kernel) rfl (r := 28) rfl ?_
  refine aw_iload_n (k0 := 3) B 3 (by decide +kernel) rfl rfl ?_
  refine aw_cVR B (c_X3_has (eLa E) hG v3 M) cvX10_269 rfl rfl (Nat.le_of_ble_eq_true rfl) rfl (Nat.le_of_ble_eq_true rfl) (by decide +kernel) rfl (fun x1 => ?_)
  refine aw_if_eq (off := 14) B 22 (by decide +kernel) (by decide) (fun _ => ?_) (fun _ => ?_)
  · refine aw_iconst (n := -1) (v := (-1 : Int32)) B (by decide +kernel) (by decide) ?_
    exact aw_ireturn B (by decide +kernel) rfl
  · refine aw_iload_n (k0 := 2) B 2 (by decide +kernel) rfl rfl ?_
    refine aw_iconst (n := 1) (v := (1 : Int32)) B (by decide +kernel) (by decide) ?_
    refine aw_icmp_lt (off := 9) B 22 (by decide +kernel) (by decide) (fun _ => ?_) (fun _ => ?_)
    · refine aw_iconst (n := -1) (v := (-1 : Int32)) B (by decide +kernel) (by decide) ?_
      exact aw_ireturn B (by decide +kernel) rfl
    · refine aw_iload_n (k0 := 2) B 2 (by decide +kernel) rfl rfl ?_
      refine aw_bipush (n := 50) (v := (50 : Int32)) B (by decide +kernel) (by decide) ?_
      refine aw_icmp_le (off := 5) B 24 (by decide +kernel) (by decide) (fun _ => ?_) (fun _ => ?_)
      · refine aw_aload_n (k0 := 0) B 0 (by decide +kernel) rfl rfl ?_
        refine aw_getr (c := 0) B lkX10_54 (by decide +kernel) rfl (r := 28) rfl ?_
        refine aw_cVR B (c_X3_isWhole (eLa E) hG M) cvX10_278 rfl rfl (Nat.le_of_ble_eq_true rfl) rfl (Nat.le_of_ble_eq_true rfl) (by decide +kernel) rfl (fun x3 => ?_)
        refine aw_if_ne (off := 6) B 37 (by decide +kernel) (by decide) (fun _ => ?_) (fun _ => ?_)
        · refine aw_aload_n (k0 := 0) B 0 (by decide +kernel) rfl rfl ?_
          refine aw_getr (c := 0) B lkX10_54 (by decide +kernel) rfl (r := 28) rfl ?_
          refine aw_aload_n (k0 := 0) B 0 (by decide +kernel) rfl rfl ?_
          refine aw_getr (c := 0) B lkX10_47 (by decide +kernel) rfl (r := 22) rfl ?_
          refine aw_aload_n (k0 := 0) B 0 (by decide +kernel) rfl rfl ?_
          refine aw_getr (c := 0) B lkX10_10 (by decide +kernel) rfl (r := 1) rfl ?_
          refine aw_iload_n (k0 := 1) B 1 (by decide +kernel) rfl rfl ?_
          refine aw_iload_n (k0 := 2) B 2 (by decide +kernel) rfl rfl ?_
          refine aw_iload_n (k0 := 3) B 3 (by decide +kernel) rfl rfl ?_
          refine aw_cVI B (c_X3_wonByLot (eLa E) hG v1 v2 v3 M) cvX10_293 rfl rfl (Nat.le_of_ble_eq_true rfl) rfl (Nat.le_of_ble_eq_true rfl) (by decide +kernel) rfl (fun x5 M6 => ?_)
          exact aw_ireturn B (by decide +kernel) rfl
        · refine aw_bipush (n := -5) (v := (-5 : Int32)) B (by decide +kernel) (by decide) ?_
          exact aw_ireturn B (by decide +kernel) rfl
      · refine aw_iconst (n := -1) (v := (-1 : Int32)) B (by decide +kernel) (by decide) ?_
        exact aw_ireturn B (by decide +kernel) rfl
theorem c_X10_lots (l : Launch) {G : GW} (hG : ab_ok G) (v1 : Int32) (v2 : Int32) (v3 : Int32) (M : Mem) : AC l G yX10_lots cX10_lots 4 (some .int) 8 [.ref 0, .int v1, .int v2, .int v3] M embI (f_X10_lots v1 v2 v3 M) := AC.of hG (by decide) (Nat.le_of_ble_eq_true rfl) (fun E hE B => by subst hE; exact w_X10_lots hG B v1 v2 v3 M)
def f_X11_lots_b234 (k41 : Int32 → Int32 → Int32 → Int32 → Int32 → Mem → Option (Int32 × Mem)) (v2 : Int32) (v3 : Int32) (v4 : Int32) (v6 : Int32) (s0 : Int32) (s1 : Int32) (M : Mem) : Option (Int32 × Mem) := lt (s1 + s0) fun x1 => k41 v2 v3 v4 x1 (v6 + 1) M
set_option maxRecDepth 100000 in
set_option maxHeartbeats 4000000 in
theorem w_X11_lots_b234 {G : GW} {E : EE} (hG : ab_ok G) {k41 : Int32 → Int32 → Int32 → Int32 → Int32 → Mem → Option (Int32 × Mem)} (B : Bx G E RX11 cX11_lots 12 292 (some .int)) (hk41 : ∀ (v2 : Int32) (v3 : Int32) (v4 : Int32) (v5 : Int32) (v6 : Int32) (M : Mem), AWo G E cX11_lots 12 (ab_Q G E embI) 41 [(0, .ref 47), (2, .int v2), (3, .int v3), (4, .int v4), (5, .int v5), (6, .int v6)] [] M (k41 v2 v3 v4 v5 v6 M)) (v2 : Int32) (v3 : Int32) (v4 : Int32) (v6 : Int32) (s0 : Int32) (s1 : Int32) (M : Mem) : AWo G E cX11_lots 12 (ab_Q G E embI) 234 [(0, .ref 47), (2, .int v2), (3, .int v3), (4, .int v4), (6, .int v6)] [.int s0, .int s1] M (f_X11_lots_b234 k41 v2 v3 v4 v6 s0 s1 M) := by
  unfold f_X11_lots_b234
  refine aw_iadd B (by decide +kernel) ?_
  refine aw_ltI (fun x1 => ?_)
  refine aw_istore (i := 5) B [(5, .int x1), (0, .ref 47), (2, .int v2), (3, .int v3), (4, .int v4), (6, .int v6)] (by decide +kernel) (Nat.le_of_ble_eq_true rfl) rfl ?_
  refine aw_iinc (i := 6) (n := 1) B 5 [(6, .int (v6 + 1)), (5, .int x1), (0, .ref 47), (2, .int v2), (3, .int v3), (4, .int v4)] (by decide +kernel) rfl (Nat.le_of_ble_eq_true rfl) (v6 + 1) (ab_inc (by decide)) rfl ?_
  refine aw_goto (off := -199) B 41 (by decide +kernel) (by decide) ?_
  exact aw_sub [2, 3, 4, 5, 1, 0] rfl (hk41 _ _ _ _ _ _)
def f_X11_lots_b198 (k69 : Int32 → Int32 → Int32 → Int32 → Int32 → Int32 → Int32 → Int32 → Mem → Option (Int32 × Mem)) (v2 : Int32) (v3 : Int32) (v4 : Int32) (v5 : Int32) (v6 : Int32) (v7 : Int32) (v8 : Int32) (v9 : Int32) (s0 : Int32) (s1 : Int32) (M : Mem) : Option (Int32 × Mem) := ck (okI 66 s1) (lt (wI M 66 s1.toNatClampNeg s0) fun M1 => k69 v2 v3 v4 v5 v6 v7 v8 (v9 + 1) M1)
set_option maxRecDepth 100000 in
set_option maxHeartbeats 4000000 in
theorem w_X11_lots_b198 {G : GW} {E : EE} (hG : ab_ok G) {k69 : Int32 → Int32 → Int32 → Int32 → Int32 → Int32 → Int32 → Int32 → Mem → Option (Int32 × Mem)} (B : Bx G E RX11 cX11_lots 12 292 (some .int)) (hk69 : ∀ (v2 : Int32) (v3 : Int32) (v4 : Int32) (v5 : Int32) (v6 : Int32) (v7 : Int32) (v8 : Int32) (v9 : Int32) (M : Mem), AWo G E cX11_lots 12 (ab_Q G E embI) 69 [(0, .ref 47), (2, .int v2), (3, .int v3), (4, .int v4), (5, .int v5), (6, .int v6), (7, .int v7), (8, .int v8), (9, .int v9)] [] M (k69 v2 v3 v4 v5 v6 v7 v8 v9 M)) (v2 : Int32) (v3 : Int32) (v4 : Int32) (v5 : Int32) (v6 : Int32) (v7 : Int32) (v8 : Int32) (v9 : Int32) (s0 : Int32) (s1 : Int32) (M : Mem) : AWo G E cX11_lots 12 (ab_Q G E embI) 198 [(0, .ref 47), (2, .int v2), (3, .int v3), (4, .int v4), (5, .int v5), (6, .int v6), (7, .int v7), (8, .int v8), (9, .int v9)] [.int s0, .int s1, .ref 66] M (f_X11_lots_b198 k69 v2 v3 v4 v5 v6 v7 v8 v9 s0 s1 M) := by
  unfold f_X11_lots_b198
  refine aw_iastore B (by decide +kernel) (fun M1 => ?_)
  refine aw_iinc (i := 9) (n := 1) B 8 [(9, .int (v9 + 1)), (0, .ref 47), (2, .int v2), (3, .int v3), (4, .int v4), (5, .int v5), (6, .int v6), (7, .int v7), (8, .int v8)] (by decide +kernel) rfl (Nat.le_of_ble_eq_true rfl) (v9 + 1) (ab_inc (by decide)) rfl ?_
  refine aw_goto (off := -133) B 69 (by decide +kernel) (by decide) ?_
  exact aw_sub [1, 2, 3, 4, 5, 6, 7, 8, 0] rfl (hk69 _ _ _ _ _ _ _ _ _)
def f_X11_lots_b124 (k69 : Int32 → Int32 → Int32 → Int32 → Int32 → Int32 → Int32 → Int32 → Mem → Option (Int32 × Mem)) (v2 : Int32) (v3 : Int32) (v4 : Int32) (v5 : Int32) (v6 : Int32) (v7 : Int32) (v8 : Int32) (v9 : Int32) (s0 : Int32) (M : Mem) : Option (Int32 × Mem) := ck (okI 66 ((2 : Int32) * v9)) (ck (okI 66 (((2 : Int32) * v9) + (1 : Int32))) (lt (((M.1 66 ((2 : Int32) * v9).toNatClampNeg) + (M.1 66 (((2 : Int32) * v9) + (1 : Int32)).toNatClampNeg)) - s0) fun x1 => lt ((v4 * (1103515245 : Int32)) + (12345 : Int32)) fun x2 => bI (f_X11_chanceOf FD s0 x1 v7 M) fun x3 M4 => (if x3 ≤ (ab_rem (ab_ushr x2 (8 : Int32)) (100 : Int32)) then f_X11_lots_b198 k69 v2 v3 x2 v5 v6 v7 v8 v9 x1 v9 M4 else f_X11_lots_b198 k69 v2 v3 x2 v5 v6 v7 v8 v9 s0 v9 M4)))
set_option maxRecDepth 100000 in
set_option maxHeartbeats 4000000 in
theorem w_X11_lots_b124 {G : GW} {E : EE} (hG : ab_ok G) {k69 : Int32 → Int32 → Int32 → Int32 → Int32 → Int32 → Int32 → Int32 → Mem → Option (Int32 × Mem)} (B : Bx G E RX11 cX11_lots 12 292 (some .int)) (hk69 : ∀ (v2 : Int32) (v3 : Int32) (v4 : Int32) (v5 : Int32) (v6 : Int32) (v7 : Int32) (v8 : Int32) (v9 : Int32) (M : Mem), AWo G E cX11_lots 12 (ab_Q G E embI) 69 [(0, .ref 47), (2, .int v2), (3, .int v3), (4, .int v4), (5, .int v5), (6, .int v6), (7, .int v7), (8, .int v8), (9, .int v9)] [] M (k69 v2 v3 v4 v5 v6 v7 v8 v9 M)) (v2 : Int32) (v3 : Int32) (v4 : Int32) (v5 : Int32) (v6 : Int32) (v7 : Int32) (v8 : Int32) (v9 : Int32) (s0 : Int32) (M : Mem) : AWo G E cX11_lots 12 (ab_Q G E embI) 124 [(0, .ref 47), (2, .int v2), (3, .int v3), (4, .int v4), (5, .int v5), (6, .int v6), (7, .int v7), (8, .int v8), (9, .int v9)] [.int s0] M (f_X11_lots_b124 k69 v2 v3 v4 v5 v6 v7 v8 v9 s0 M) := by
  unfold f_X11_lots_b124
  refine aw_istore (i := 10) B [(10, .int s0), (0, .ref 47), (2, .int v2), (3, .int v3), (4, .int v4), (5, .int v5), (6, .int v6), (7, .int v7), (8, .int v8), (9, .int v9)] (by decide +kernel) (Nat.le_of_ble_eq_true rfl) rfl ?_
  refine aw_aload_n (k0 := 0) B 1 (by decide +kernel) rfl rfl ?_
  refine aw_getr (c := 47) B lkX11_65 (by decide +kernel) rfl (r := 66) rfl ?_
  refine aw_iconst (n := 2) (v := (2 : Int32)) B (by decide +kernel) (by decide) ?_
  refine aw_iload (i := 9) B 9 (by decide +kernel) rfl ?_
  refine aw_imul B (by decide +kernel) ?_
  refine aw_iaload B (by decide +kernel) ?_
  refine aw_aload_n (k0 := 0) B 1 (by decide +kernel) rfl rfl ?_
  refine aw_getr (c := 47) B lkX11_65 (by decide +kernel) rfl (r := 66) rfl ?_
  refine aw_iconst (n := 2) (v := (2 : Int32)) B (by decide +kernel) (by decide) ?_
  refine aw_iload (i := 9) B 9 (by decide +kernel) rfl ?_
  refine aw_imul B (by decide +kernel) ?_
  refine aw_iconst (n := 1) (v := (1 : Int32)) B (by decide +kernel) (by decide) ?_
  refine aw_iadd B (by decide +kernel) ?_
  refine aw_iaload B (by decide +kernel) ?_
  refine aw_iadd B (by decide +kernel) ?_
  refine aw_iload (i := 10) B 0 (by decide +kernel) rfl ?_
  refine aw_isub B (by decide +kernel) ?_
  refine aw_ltI (fun x1 => ?_)
  refine aw_istore (i := 11) B [(11, .int x1), (10, .int s0), (0, .ref 47), (2, .int v2), (3, .int v3), (4, .int v4), (5, .int v5), (6, .int v6), (7, .int v7), (8, .int v8), (9, .int v9)] (by decide +kernel) (Nat.le_of_ble_eq_true rfl) rfl ?_
  refine aw_iload (i := 4) B 5 (by decide +kernel) rfl ?_
  refine aw_ldcw B (by decide +kernel) lwX11_323 ?_
  refine aw_imul B (by decide +kernel) ?_
  refine aw_sipush (n := 12345) (v := (12345 : Int32)) B (by decide +kernel) (by decide) ?_
  refine aw_iadd B (by decide +kernel) ?_
  refine aw_ltI (fun x2 => ?_)
  refine aw_istore (i := 4) B [(4, .int x2), (11, .int x1), (10, .int s0), (0, .ref 47), (2, .int v2), (3, .int v3), (5, .int v5), (6, .int v6), (7, .int v7), (8, .int v8), (9, .int v9)] (by decide +kernel) (Nat.le_of_ble_eq_true rfl) rfl ?_
  refine aw_aload_n (k0 := 0) B 3 (by decide +kernel) rfl rfl ?_
  refine aw_getr (c := 47) B lkX11_65 (by decide +kernel) rfl (r := 66) rfl ?_
  refine aw_iload (i := 9) B 10 (by decide +kernel) rfl ?_
  refine aw_iload (i := 4) B 0 (by decide +kernel) rfl ?_
  refine aw_bipush (n := 8) (v := (8 : Int32)) B (by decide +kernel) (by decide) ?_
  refine aw_iushr B (by decide +kernel) ?_
  refine aw_bipush (n := 100) (v := (100 : Int32)) B (by decide +kernel) (by decide) ?_
  refine aw_iremK B (by decide +kernel) (by decide) ?_
  refine aw_aload_n (k0 := 0) B 3 (by decide +kernel) rfl rfl ?_
  refine aw_iload (i := 10) B 2 (by decide +kernel) rfl ?_
  refine aw_iload (i := 11) B 1 (by decide +kernel) rfl ?_
  refine aw_iload (i := 7) B 8 (by decide +kernel) rfl ?_
  refine aw_cVI B (c_X11_chanceOf (eLa E) hG FD s0 x1 v7 M) cvX11_213 rfl rfl (Nat.le_of_ble_eq_true rfl) rfl (Nat.le_of_ble_eq_true rfl) (by decide +kernel) rfl (fun x3 M4 => ?_)
  refine aw_icmp_ge (off := 8) B 196 (by decide +kernel) (by decide) (fun _ => ?_) (fun _ => ?_)
  · refine aw_iload (i := 11) B 1 (by decide +kernel) rfl ?_
    exact aw_sub [3, 4, 5, 0, 6, 7, 8, 9, 10] rfl (w_X11_lots_b198 hG B hk69 _ _ _ _ _ _ _ _ _ _ _)
  · refine aw_iload (i := 10) B 2 (by decide +kernel) rfl ?_
    refine aw_goto (off := 5) B 198 (by decide +kernel) (by decide) ?_
    exact aw_sub [3, 4, 5, 0, 6, 7, 8, 9, 10] rfl (w_X11_lots_b198 hG B hk69 _ _ _ _ _ _ _ _ _ _ _)
def f_X11_lots_L69 (k60 : Int32 → Int32 → Int32 → Int32 → Int32 → Int32 → Int32 → Mem → Option (Int32 × Mem)) : Nat → Int32 → Int32 → Int32 → Int32 → Int32 → Int32 → Int32 → Int32 → Mem → Option (Int32 × Mem)
  | 0, _, _, _, _, _, _, _, _, _ => none
  | n + 1, v2, v3, v4, v5, v6, v7, v8, v9, M => (if (v8 / (2 : Int32)) ≤ v9 then lt (v8 / (2 : Int32)) fun x1 => k60 v2 v3 v4 v5 v6 (v7 + 1) x1 M else ck (okI 66 ((2 : Int32) * v9)) (ck (okI 66 (((2 : Int32) * v9) + (1 : Int32))) ((if (M.1 66 (((2 : Int32) * v9) + (1 : Int32)).toNatClampNeg) ≤ (M.1 66 ((2 : Int32) * v9).toNatClampNeg) then ck (okI 66 (((2 : Int32) * v9) + (1 : Int32))) (f_X11_lots_b124 (fun a0 a1 a2 a3 a4 a5 a6 a7 a8 => f_X11_lots_L69 k60 n a0 a1 a2 a3 a4 a5 a6 a7 a8) v2 v3 v4 v5 v6 v7 v8 v9 (M.1 66 (((2 : Int32) * v9) + (1 : Int32)).toNatClampNeg) M) else ck (okI 66 ((2 : Int32) * v9)) (f_X11_lots_b124 (fun a0 a1 a2 a3 a4 a5 a6 a7 a8 => f_X11_lots_L69 k60 n a0 a1 a2 a3 a4 a5 a6 a7 a8) v2 v3 v4 v5 v6 v7 v8 v9 (M.1 66 ((2 : Int32) * v9).toNatClampNeg) M)))))
set_option maxRecDepth 100000 in
set_option maxHeartbeats 4000000 in
theorem w_X11_lots_L69 {G : GW} {E : EE} (hG : ab_ok G) {k60 : Int32 → Int32 → Int32 → Int32 → Int32 → Int32 → Int32 → Mem → Option (Int32 × Mem)} (B : Bx G E RX11 cX11_lots 12 292 (some .int)) (hk60 : ∀ (v2 : Int32) (v3 : Int32) (v4 : Int32) (v5 : Int32) (v6 : Int32) (v7 : Int32) (v8 : Int32) (M : Mem), AWo G E cX11_lots 12 (ab_Q G E embI) 60 [(0, .ref 47), (2, .int v2), (3, .int v3), (4, .int v4), (5, .int v5), (6, .int v6), (7, .int v7), (8, .int v8)] [] M (k60 v2 v3 v4 v5 v6 v7 v8 M)) : ∀ (n : Nat) (v2 : Int32) (v3 : Int32) (v4 : Int32) (v5 : Int32) (v6 : Int32) (v7 : Int32) (v8 : Int32) (v9 : Int32) (M : Mem), AWo G E cX11_lots 12 (ab_Q G E embI) 69 [(0, .ref 47), (2, .int v2), (3, .int v3), (4, .int v4), (5, .int v5), (6, .int v6), (7, .int v7), (8, .int v8), (9, .int v9)] [] M (f_X11_lots_L69 k60 n v2 v3 v4 v5 v6 v7 v8 v9 M) := by
  intro n
  induction n with
  | zero => intro _ _ _ _ _ _ _ _ _; exact aw_none
  | succ n ih =>
    intro v2 v3 v4 v5 v6 v7 v8 v9 M
    rw [f_X11_lots_L69]
    refine aw_iload (i := 9) B 8 (by decide +kernel) rfl ?_
    refine aw_iload (i := 8) B 7 (by decide +kernel) rfl ?_
    refine aw_iconst (n := 2) (v := (2 : Int32)) B (by decide +kernel) (by decide) ?_
    refine aw_idivK B (by decide +kernel) (by decide) ?_
    refine aw_icmp_ge (off := 130) B 205 (by decide +kernel) (by decide) (fun _ => ?_) (fun _ => ?_)
    · refine aw_iinc (i := 7) (n := 1) B 6 [(7, .int (v7 + 1)), (0, .ref 47), (2, .int v2), (3, .int v3), (4, .int v4), (5, .int v5), (6, .int v6), (8, .int v8), (9, .int v9)] (by decide +kernel) rfl (Nat.le_of_ble_eq_true rfl) (v7 + 1) (ab_inc (by decide)) rfl ?_
      refine aw_iload (i := 8) B 7 (by decide +kernel) rfl ?_
      refine aw_iconst (n := 2) (v := (2 : Int32)) B (by decide +kernel) (by decide) ?_
      refine aw_idivK B (by decide +kernel) (by decide) ?_
      refine aw_ltI (fun x1 => ?_)
      refine aw_istore (i := 8) B [(8, .int x1), (7, .int (v7 + 1)), (0, .ref 47), (2, .int v2), (3, .int v3), (4, .int v4), (5, .int v5), (6, .int v6), (9, .int v9)] (by decide +kernel) (Nat.le_of_ble_eq_true rfl) rfl ?_
      refine aw_goto (off := -154) B 60 (by decide +kernel) (by decide) ?_
      exact aw_sub [2, 3, 4, 5, 6, 7, 1, 0] rfl (hk60 _ _ _ _ _ _ _ _)
    · refine aw_aload_n (k0 := 0) B 0 (by decide +kernel) rfl rfl ?_
      refine aw_getr (c := 47) B lkX11_65 (by decide +kernel) rfl (r := 66) rfl ?_
      refine aw_iconst (n := 2) (v := (2 : Int32)) B (by decide +kernel) (by decide) ?_
      refine aw_iload (i := 9) B 8 (by decide +kernel) rfl ?_
      refine aw_imul B (by decide +kernel) ?_
      refine aw_iaload B (by decide +kernel) ?_
      refine aw_aload_n (k0 := 0) B 0 (by decide +kernel) rfl rfl ?_
      refine aw_getr (c := 47) B lkX11_65 (by decide +kernel) rfl (r := 66) rfl ?_
      refine aw_iconst (n := 2) (v := (2 : Int32)) B (by decide +kernel) (by decide) ?_
      refine aw_iload (i := 9) B 8 (by decide +kernel) rfl ?_
      refine aw_imul B (by decide +kernel) ?_
      refine aw_iconst (n := 1) (v := (1 : Int32)) B (by decide +kernel) (by decide) ?_
      refine aw_iadd B (by decide +kernel) ?_
      refine aw_iaload B (by decide +kernel) ?_
      refine aw_icmp_ge (off := 15) B 113 (by decide +kernel) (by decide) (fun _ => ?_) (fun _ => ?_)
      · refine aw_aload_n (k0 := 0) B 0 (by decide +kernel) rfl rfl ?_
        refine aw_getr (c := 47) B lkX11_65 (by decide +kernel) rfl (r := 66) rfl ?_
        refine aw_iconst (n := 2) (v := (2 : Int32)) B (by decide +kernel) (by decide) ?_
        refine aw_iload (i := 9) B 8 (by decide +kernel) rfl ?_
        refine aw_imul B (by decide +kernel) ?_
        refine aw_iconst (n := 1) (v := (1 : Int32)) B (by decide +kernel) (by decide) ?_
        refine aw_iadd B (by decide +kernel) ?_
        refine aw_iaload B (by decide +kernel) ?_
        exact w_X11_lots_b124 hG B ih _ _ _ _ _ _ _ _ _ _
      · refine aw_aload_n (k0 := 0) B 0 (by decide +kernel) rfl rfl ?_
        refine aw_getr (c := 47) B lkX11_65 (by decide +kernel) rfl (r := 66) rfl ?_
        refine aw_iconst (n := 2) (v := (2 : Int32)) B (by decide +kernel) (by decide) ?_
        refine aw_iload (i := 9) B 8 (by decide +kernel) rfl ?_
        refine aw_imul B (by decide +kernel) ?_
        refine aw_iaload B (by decide +kernel) ?_
        refine aw_goto (off := 14) B 124 (by decide +kernel) (by decide) ?_
        exact w_X11_lots_b124 hG B ih _ _ _ _ _ _ _ _ _ _
def f_X11_lots_L60 (k41 : Int32 → Int32 → Int32 → Int32 → Int32 → Mem → Option (Int32 × Mem)) : Nat → Int32 → Int32 → Int32 → Int32 → Int32 → Int32 → Int32 → Mem → Option (Int32 × Mem)
  | 0, _, _, _, _, _, _, _, _ => none
  | n + 1, v2, v3, v4, v5, v6, v7, v8, M => (if v8 ≤ (1 : Int32) then ck (okI 66 (0 : Int32)) ((if (M.1 66 (0 : Int32).toNatClampNeg) = v3 then f_X11_lots_b234 k41 v2 v3 v4 v6 (1 : Int32) v5 M else f_X11_lots_b234 k41 v2 v3 v4 v6 (0 : Int32) v5 M)) else f_X11_lots_L69 (fun a0 a1 a2 a3 a4 a5 a6 a7 => f_X11_lots_L60 k41 n a0 a1 a2 a3 a4 a5 a6 a7) FU v2 v3 v4 v5 v6 v7 v8 (0 : Int32) M)
set_option maxRecDepth 100000 in
set_option maxHeartbeats 4000000 in
theorem w_X11_lots_L60 {G : GW} {E : EE} (hG : ab_ok G) {k41 : Int32 → Int32 → Int32 → Int32 → Int32 → Mem → Option (Int32 × Mem)} (B : Bx G E RX11 cX11_lots 12 292 (some .int)) (hk41 : ∀ (v2 : Int32) (v3 : Int32) (v4 : Int32) (v5 : Int32) (v6 : Int32) (M : Mem), AWo G E cX11_lots 12 (ab_Q G E embI) 41 [(0, .ref 47), (2, .int v2), (3, .int v3), (4, .int v4), (5, .int v5), (6, .int v6)] [] M (k41 v2 v3 v4 v5 v6 M)) : ∀ (n : Nat) (v2 : Int32) (v3 : Int32) (v4 : Int32) (v5 : Int32) (v6 : Int32) (v7 : Int32) (v8 : Int32) (M : Mem), AWo G E cX11_lots 12 (ab_Q G E embI) 60 [(0, .ref 47), (2, .int v2), (3, .int v3), (4, .int v4), (5, .int v5), (6, .int v6), (7, .int v7), (8, .int v8)] [] M (f_X11_lots_L60 k41 n v2 v3 v4 v5 v6 v7 v8 M) := by
  intro n
  induction n with
  | zero => intro _ _ _ _ _ _ _ _; exact aw_none
  | succ n ih =>
    intro v2 v3 v4 v5 v6 v7 v8 M
    rw [f_X11_lots_L60]
    refine aw_iload (i := 8) B 7 (by decide +kernel) rfl ?_
    refine aw_iconst (n := 1) (v := (1 : Int32)) B (by decide +kernel) (by decide) ?_
    refine aw_icmp_le (off := 154) B 217 (by decide +kernel) (by decide) (fun _ => ?_) (fun _ => ?_)
    · refine aw_iload (i := 5) B 4 (by decide +kernel) rfl ?_
      refine aw_aload_n (k0 := 0) B 0 (by decide +kernel) rfl rfl ?_
      refine aw_getr (c := 47) B lkX11_65 (by decide +kernel) rfl (r := 66) rfl ?_
      refine aw_iconst (n := 0) (v := (0 : Int32)) B (by decide +kernel) (by decide) ?_
      refine aw_iaload B (by decide +kernel) ?_
      refine aw_iload_n (k0 := 3) B 2 (by decide +kernel) rfl rfl ?_
      refine aw_icmp_ne (off := 7) B 233 (by decide +kernel) (by decide) (fun _ => ?_) (fun _ => ?_)
      · refine aw_iconst (n := 0) (v := (0 : Int32)) B (by decide +kernel) (by decide) ?_
        exact aw_sub [0, 1, 2, 3, 5] rfl (w_X11_lots_b234 hG B hk41 _ _ _ _ _ _ _)
      · refine aw_iconst (n := 1) (v := (1 : Int32)) B (by decide +kernel) (by decide) ?_
        refine aw_goto (off := 4) B 234 (by decide +kernel) (by decide) ?_
        exact aw_sub [0, 1, 2, 3, 5] rfl (w_X11_lots_b234 hG B hk41 _ _ _ _ _ _ _)
    · refine aw_iconst (n := 0) (v := (0 : Int32)) B (by decide +kernel) (by decide) ?_
      refine aw_istore (i := 9) B [(9, .int (0 : Int32)), (0, .ref 47), (2, .int v2), (3, .int v3), (4, .int v4), (5, .int v5), (6, .int v6), (7, .int v7), (8, .int v8)] (by decide +kernel) (Nat.le_of_ble_eq_true rfl) rfl ?_
      exact aw_sub [1, 2, 3, 4, 5, 6, 7, 8, 0] rfl (w_X11_lots_L69 hG B ih FU _ _ _ _ _ _ _ _ _)
def f_X11_lots_L41 : Nat → Int32 → Int32 → Int32 → Int32 → Int32 → Mem → Option (Int32 × Mem)
  | 0, _, _, _, _, _, _ => none
  | n + 1, v2, v3, v4, v5, v6, M => (if v2 ≤ v6 then (some (v5, M)) else (f_X11_linesUp M).bind fun M2 => lt (M2.1 47 34) fun x3 => f_X11_lots_L60 (fun a0 a1 a2 a3 a4 a5 => f_X11_lots_L41 n a0 a1 a2 a3 a4 a5) FU v2 v3 v4 v5 v6 (0 : Int32) x3 M2)
set_option maxRecDepth 100000 in
set_option maxHeartbeats 4000000 in
theorem w_X11_lots_L41 {G : GW} {E : EE} (hG : ab_ok G) (B : Bx G E RX11 cX11_lots 12 292 (some .int)) : ∀ (n : Nat) (v2 : Int32) (v3 : Int32) (v4 : Int32) (v5 : Int32) (v6 : Int32) (M : Mem), AWo G E cX11_lots 12 (ab_Q G E embI) 41 [(0, .ref 47), (2, .int v2), (3, .int v3), (4, .int v4), (5, .int v5), (6, .int v6)] [] M (f_X11_lots_L41 n v2 v3 v4 v5 v6 M) := by
  intro n
  induction n with
  | zero => intro _ _ _ _ _ _; exact aw_none
  | succ n ih =>
    intro v2 v3 v4 v5 v6 M
    rw [f_X11_lots_L41]
    refine aw_iload (i := 6) B 5 (by decide +kernel) rfl ?_
    refine aw_iload_n (k0 := 2) B 1 (by decide +kernel) rfl rfl ?_
    refine aw_icmp_ge (off := 199) B 243 (by decide +kernel) (by decide) (fun _ => ?_) (fun _ => ?_)
    · refine aw_iload (i := 5) B 4 (by decide +kernel) rfl ?_
      exact aw_ireturn B (by decide +kernel) rfl
    · refine aw_aload_n (k0 := 0) B 0 (by decide +kernel) rfl rfl ?_
      refine aw_cVV B (c_X11_linesUp (eLa E) hG M) cvX11_303 rfl rfl (Nat.le_of_ble_eq_true rfl) rfl (Nat.le_of_ble_eq_true rfl) (by decide +kernel) rfl (fun M2 => ?_)
      refine aw_iconst (n := 0) (v := (0 : Int32)) B (by decide +kernel) (by decide) ?_
      refine aw_istore (i := 7) B [(7, .int (0 : Int32)), (0, .ref 47), (2, .int v2), (3, .int v3), (4, .int v4), (5, .int v5), (6, .int v6)] (by decide +kernel) (Nat.le_of_ble_eq_true rfl) rfl ?_
      refine aw_aload_n (k0 := 0) B 1 (by decide +kernel) rfl rfl ?_
      refine aw_geti (c := 47) B lkX11_285 (by decide +kernel) rfl ?_
      refine aw_ltI (fun x3 => ?_)
      refine aw_istore (i := 8) B [(8, .int x3), (7, .int (0 : Int32)), (0, .ref 47), (2, .int v2), (3, .int v3), (4, .int v4), (5, .int v5), (6, .int v6)] (by decide +kernel) (Nat.le_of_ble_eq_true rfl) rfl ?_
      exact aw_sub [2, 3, 4, 5, 6, 7, 1, 0] rfl (w_X11_lots_L60 hG B ih FU _ _ _ _ _ _ _ _)
def f_X11_lots (v1 : Int32) (v2 : Int32) (v3 : Int32) (M : Mem) : Option (Int32 × Mem) := (f_X11_within v2.toInt64 (1 : Int64) (50 : Int64)).bind fun x1 => (if x1 = 0 then (some ((-1 : Int32), M)) else (f_X11_placeInRow v3 M).bind fun x3 => (if 0 ≤ x3 then (f_X11_isCup M).bind fun x5 => (if x5 = 0 then (some ((-5 : Int32), M)) else f_X11_lots_L41 FU v2 v3 v1 (0 : Int32) (0 : Int32) M) else (some ((-1 : Int32), M))))
set_option maxRecDepth 100000 in
set_option maxHeartbeats 4000000 in
theorem w_X11_lots {G : GW} {E : EE} (hG : ab_ok G) (B : Bx G E RX11 cX11_lots 12 292 (some .int)) (v1 : Int32) (v2 : Int32) (v3 : Int32) (M : Mem) : AWo G E cX11_lots 12 (ab_Q G E embI) 0 [(0, .ref 47), (1, .int v1), (2, .int v2), (3, .int v3)] [] M (f_X11_lots v1 v2 v3 M) := by
  unfold f_X11_lots
  refine aw_iload_n (k0 := 2) B 2 (by decide +kernel) rfl rfl ?_
  refine aw_i2l B (by decide +kernel) ?_
  refine aw_lconst (n := 1) (v := (1 : Int64)) B (by decide +kernel) (by decide) ?_
  refine aw_ldc2 B (by decide +kernel) lwX11_321 ?_
  refine aw_cSR B (c_X11_within (eLa E) hG v2.toInt64 (1 : Int64) (50 : Int64) M) csX11_112 (Nat.le_of_ble_eq_true rfl) rfl (Nat.le_of_ble_eq_true rfl) (by decide +kernel) rfl (fun x1 => ?_)
  refine aw_if_eq (off := 11) B 20 (by decide +kernel) (by decide) (fun _ => ?_) (fun _ => ?_)
  · refine aw_iconst (n := -1) (v := (-1 : Int32)) B (by decide +kernel) (by decide) ?_
    exact aw_ireturn B (by decide +kernel) rfl
  · refine aw_aload_n (k0 := 0) B 0 (by decide +kernel) rfl rfl ?_
    refine aw_iload_n (k0 := 3) B 3 (by decide +kernel) rfl rfl ?_
    refine aw_cVR B (c_X11_placeInRow (eLa E) hG v3 M) cvX11_288 rfl rfl (Nat.le_of_ble_eq_true rfl) rfl (Nat.le_of_ble_eq_true rfl) (by decide +kernel) rfl (fun x3 => ?_)
    refine aw_if_ge (off := 5) B 22 (by decide +kernel) (by decide) (fun _ => ?_) (fun _ => ?_)
    · refine aw_aload_n (k0 := 0) B 0 (by decide +kernel) rfl rfl ?_
      refine aw_cVR B (c_X11_isCup (eLa E) hG M) cvX11_295 rfl rfl (Nat.le_of_ble_eq_true rfl) rfl (Nat.le_of_ble_eq_true rfl) (by decide +kernel) rfl (fun x5 => ?_)
      refine aw_if_ne (off := 6) B 32 (by decide +kernel) (by decide) (fun _ => ?_) (fun _ => ?_)
      · refine aw_iload_n (k0 := 1) B 1 (by decide +kernel) rfl rfl ?_
        refine aw_istore (i := 4) B [(4, .int v1), (0, .ref 47), (1, .int v1), (2, .int v2), (3, .int v3)] (by decide +kernel) (Nat.le_of_ble_eq_true rfl) rfl ?_
        refine aw_iconst (n := 0) (v := (0 : Int32)) B (by decide +kernel) (by decide) ?_
        refine aw_istore (i := 5) B [(5, .int (0 : Int32)), (4, .int v1), (0, .ref 47), (1, .int v1), (2, .int v2), (3, .int v3)] (by decide +kernel) (Nat.le_of_ble_eq_true rfl) rfl ?_
        refine aw_iconst (n := 0) (v := (0 : Int32)) B (by decide +kernel) (by decide) ?_
        refine aw_istore (i := 6) B [(6, .int (0 : Int32)), (5, .int (0 : Int32)), (4, .int v1), (0, .ref 47), (1, .int v1), (2, .int v2), (3, .int v3)] (by decide +kernel) (Nat.le_of_ble_eq_true rfl) rfl ?_
        exact aw_sub [3, 5, 6, 2, 1, 0] rfl (w_X11_lots_L41 hG B FU _ _ _ _ _ _)
      · refine aw_bipush (n := -5) (v := (-5 : Int32)) B (by decide +kernel) (by decide) ?_
        exact aw_ireturn B (by decide +kernel) rfl
    · refine aw_iconst (n := -1) (v := (-1 : Int32)) B (by decide +kernel) (by decide) ?_
      exact aw_ireturn B (by decide +kernel) rfl
theorem c_X11_lots (l : Launch) {G : GW} (hG : ab_ok G) (v1 : Int32) (v2 : Int32) (v3 : Int32) (M : Mem) : AC l G yX11_lots cX11_lots 12 (some .int) 292 [.ref 47, .int v1, .int v2, .int v3] M embI (f_X11_lots v1 v2 v3 M) := AC.of hG (by decide) (Nat.le_of_ble_eq_true rfl) (fun E hE B => by subst hE; exact w_X11_lots hG B v1 v2 v3 M)
def f_X3_worthier (v1 : Int32) (v2 : Int32) (M : Mem) : Option Int32 := lt (ab_min v1 v2) fun x1 => lt (ab_max v1 v2) fun x2 => ck (okI 2 x2) (ck (okI 2 x1) ((if (M.1 2 x2.toNatClampNeg) ≤ (M.1 2 x1.toNatClampNeg) then (some x1) else (some x2))))
set_option maxRecDepth 100000 in
set_option maxHeartbeats 4000000 in
theorem w_X3_worthier {G : GW} {E : EE} (hG : ab_ok G) (B : Bx G E RX3 cX3_worthier 5 2 (some .int)) (v1 : Int32) (v2 : Int32) (M : Mem) : AWo G E cX3_worthier 5 (ab_Q G E (embRI M)) 0 [(0, .ref 1), (1, .int v1), (2, .int v2)] [] M (f_X3_worthier v1 v2 M) := by
  unfold f_X3_worthier
  refine aw_iload_n (k0 := 1) B 1 (by decide +kernel) rfl rfl ?_
  refine aw_iload_n (k0 := 2) B 2 (by decide +kernel) rfl rfl ?_
  refine aw_min B lxX3_102 (by decide +kernel) (Nat.le_of_ble_eq_true rfl) (Nat.le_of_ble_eq_true rfl) ?_
  refine aw_ltI (fun x1 => ?_)
  refine aw_istore_n (k0 := 3) B [(3, .int x1), (0, .ref 1), (1, .int v1), (2, .int v2)] (by decide +kernel) rfl (Nat.le_of_ble_eq_true rfl) rfl ?_
  refine aw_iload_n (k0 := 1) B 2 (by decide +kernel) rfl rfl ?_
  refine aw_iload_n (k0 := 2) B 3 (by decide +kernel) rfl rfl ?_
  refine aw_max B lxX3_75 (by decide +kernel) (Nat.le_of_ble_eq_true rfl) (Nat.le_of_ble_eq_true rfl) ?_
  refine aw_ltI (fun x2 => ?_)
  refine aw_istore (i := 4) B [(4, .int x2), (3, .int x1), (0, .ref 1), (1, .int v1), (2, .int v2)] (by decide +kernel) (Nat.le_of_ble_eq_true rfl) rfl ?_
  refine aw_aload_n (k0 := 0) B 2 (by decide +kernel) rfl rfl ?_
  refine aw_getr (c := 1) B lkX3_115 (by decide +kernel) rfl (r := 2) rfl ?_
  refine aw_iload (i := 4) B 0 (by decide +kernel) rfl ?_
  refine aw_iaload B (by decide +kernel) ?_
  refine aw_aload_n (k0 := 0) B 2 (by decide +kernel) rfl rfl ?_
  refine aw_getr (c := 1) B lkX3_115 (by decide +kernel) rfl (r := 2) rfl ?_
  refine aw_iload_n (k0 := 3) B 1 (by decide +kernel) rfl rfl ?_
  refine aw_iaload B (by decide +kernel) ?_
  refine aw_icmp_le (off := 8) B 34 (by decide +kernel) (by decide) (fun _ => ?_) (fun _ => ?_)
  · refine aw_iload_n (k0 := 3) B 1 (by decide +kernel) rfl rfl ?_
    exact aw_ireturn B (by decide +kernel) rfl
  · refine aw_iload (i := 4) B 0 (by decide +kernel) rfl ?_
    refine aw_goto (off := 4) B 35 (by decide +kernel) (by decide) ?_
    exact aw_ireturn B (by decide +kernel) rfl
theorem c_X3_worthier (l : Launch) {G : GW} (hG : ab_ok G) (v1 : Int32) (v2 : Int32) (M : Mem) : AC l G yX3_worthier cX3_worthier 5 (some .int) 2 [.ref 1, .int v1, .int v2] M (embRI M) (f_X3_worthier v1 v2 M) := AC.of hG (by decide) (Nat.le_of_ble_eq_true rfl) (fun E hE B => by subst hE; exact w_X3_worthier hG B v1 v2 M)
