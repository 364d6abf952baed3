def f_X10_chance (v1 : Int32) (v2 : Int32) (M : Mem) : Option (Int32 × Mem) := (f_X4_isPair v1 M).bind fun x1 => (if x1 = 0 then (some ((-1 : Int32), M)) else (if v2 < 0 then (some ((-1 : Int32), M)) else (if v2 ≤ (2 : Int32) then bI (f_X5_hundredths (v1 / (10 : Int32)) (ab_rem v1 (10 : Int32)) v2 M) fun x3 M4 => (some (x3, M4)) else (some ((-1 : Int32), M)))))
set_option maxRecDepth 100000 in
set_option maxHeartbeats 4000000 in
theorem w_X10_chance {G : GW} {E : EE} (hG : ab_ok G) (B : Bx G E RX10 cX10_chance 3 5 (some .int)) (v1 : Int32) (v2 : Int32) (M : Mem) : AWo G E cX10_chance 3 (ab_Q G E embI) 0 [(0, .ref 0), (1, .int v1), (2, .int v2)] [] M (f_X10_chance v1 v2 M) := by
  unfold f_X10_chance
  refine aw_aload_n (k0 := 0) B 0 (by decide +kernel) rfl rfl ?_
  refine aw_getr (c := 0) B lkX10_10 (by decide +kernel) rfl (r := 1) rfl ?_
  refine aw_iload_n (k0 := 1) B 1 (by decide +kernel) rfl rfl ?_
  refine aw_cVR B (c_X4_isPair (eLa E) hG v1 M) cvX10_87 rfl rfl (Nat.le_of_ble_eq_true rfl) rfl (Nat.le_of_ble_eq_true rfl) (by decide +kernel) rfl (fun x1 => ?_)
  refine aw_if_eq (off := 12) B 20 (by decide +kernel) (by decide) (fun _ => ?_) (fun _ => ?_)
  · refine aw_iconst (n := -1) (v := (-1 : Int32)) B (by decide +kernel) (by decide) ?_
    exact aw_ireturn B (by decide +kernel) rfl
  · refine aw_iload_n (k0 := 2) B 2 (by decide +kernel) rfl rfl ?_
    refine aw_if_lt (off := 8) B 20 (by decide +kernel) (by decide) (fun _ => ?_) (fun _ => ?_)
    · refine aw_iconst (n := -1) (v := (-1 : Int32)) B (by decide +kernel) (by decide) ?_
      exact aw_ireturn B (by decide +kernel) rfl
    · refine aw_iload_n (k0 := 2) B 2 (by decide +kernel) rfl rfl ?_
      refine aw_iconst (n := 2) (v := (2 : Int32)) B (by decide +kernel) (by decide) ?_
      refine aw_icmp_le (off := 5) B 22 (by decide +kernel) (by decide) (fun _ => ?_) (fun _ => ?_)
      · refine aw_aload_n (k0 := 0) B 0 (by decide +kernel) rfl rfl ?_
        refine aw_getr (c := 0) B lkX10_47 (by decide +kernel) rfl (r := 22) rfl ?_
        refine aw_aload_n (k0 := 0) B 0 (by decide +kernel) rfl rfl ?_
        refine aw_getr (c := 0) B lkX10_10 (by decide +kernel) rfl (r := 1) rfl ?_
        refine aw_iload_n (k0 := 1) B 1 (by decide +kernel) rfl rfl ?_
        refine aw_bipush (n := 10) (v := (10 : Int32)) B (by decide +kernel) (by decide) ?_
        refine aw_idivK B (by decide +kernel) (by decide) ?_
        refine aw_iload_n (k0 := 1) B 1 (by decide +kernel) rfl rfl ?_
        refine aw_bipush (n := 10) (v := (10 : Int32)) B (by decide +kernel) (by decide) ?_
        refine aw_iremK B (by decide +kernel) (by decide) ?_
        refine aw_iload_n (k0 := 2) B 2 (by decide +kernel) rfl rfl ?_
        refine aw_cVI B (c_X5_hundredths (eLa E) hG (v1 / (10 : Int32)) (ab_rem v1 (10 : Int32)) v2 M) cvX10_262 rfl rfl (Nat.le_of_ble_eq_true rfl) rfl (Nat.le_of_ble_eq_true rfl) (by decide +kernel) rfl (fun x3 M4 => ?_)
        exact aw_ireturn B (by decide +kernel) rfl
      · refine aw_iconst (n := -1) (v := (-1 : Int32)) B (by decide +kernel) (by decide) ?_
        exact aw_ireturn B (by decide +kernel) rfl
theorem c_X10_chance (l : Launch) {G : GW} (hG : ab_ok G) (v1 : Int32) (v2 : Int32) (M : Mem) : AC l G yX10_chance cX10_chance 3 (some .int) 5 [.ref 0, .int v1, .int v2] M embI (f_X10_chance v1 v2 M) := AC.of hG (by decide) (Nat.le_of_ble_eq_true rfl) (fun E hE B => by subst hE; exact w_X10_chance hG B v1 v2 M)
def f_X11_chanceOf_b99 (rc : Int32 → Int32 → Int32 → Mem → Option (Int32 × Mem)) (v4 : Int32) (M : Mem) : Option (Int32 × Mem) := (if 0 ≤ v4 then (if v4 ≤ (100 : Int32) then (some (v4, M)) else (some ((100 : Int32), M))) else (some ((0 : Int32), M)))
set_option maxRecDepth 100000 in
set_option maxHeartbeats 4000000 in
theorem w_X11_chanceOf_b99 {G : GW} {E : EE} (hG : ab_ok G) {rc : Int32 → Int32 → Int32 → Mem → Option (Int32 × Mem)} (lv0 : Nat) (hl0 : 251 ≤ lv0) (hrc : ∀ (v1 : Int32) (v2 : Int32) (v3 : Int32) (M : Mem), AC (eLa E) G yX11_chanceOf cX11_chanceOf 5 (some .int) lv0 [.ref 47, .int v1, .int v2, .int v3] M embI (rc v1 v2 v3 M)) (B : Bx G E RX11 cX11_chanceOf 5 (lv0 + 1) (some .int)) (v4 : Int32) (M : Mem) : AWo G E cX11_chanceOf 5 (ab_Q G E embI) 99 [(4, .int v4)] [] M (f_X11_chanceOf_b99 rc v4 M) := by
  unfold f_X11_chanceOf_b99
  refine aw_iload (i := 4) B 0 (by decide +kernel) rfl ?_
  refine aw_if_ge (off := 7) B 108 (by decide +kernel) (by decide) (fun _ => ?_) (fun _ => ?_)
  · refine aw_iload (i := 4) B 0 (by decide +kernel) rfl ?_
    refine aw_bipush (n := 100) (v := (100 : Int32)) B (by decide +kernel) (by decide) ?_
    refine aw_icmp_le (off := 8) B 120 (by decide +kernel) (by decide) (fun _ => ?_) (fun _ => ?_)
    · refine aw_iload (i := 4) B 0 (by decide +kernel) rfl ?_
      exact aw_ireturn B (by decide +kernel) rfl
    · refine aw_bipush (n := 100) (v := (100 : Int32)) B (by decide +kernel) (by decide) ?_
      refine aw_goto (off := 5) B 122 (by decide +kernel) (by decide) ?_
      exact aw_ireturn B (by decide +kernel) rfl
  · refine aw_iconst (n := 0) (v := (0 : Int32)) B (by decide +kernel) (by decide) ?_
    refine aw_goto (off := 17) B 122 (by decide +kernel) (by decide) ?_
    exact aw_ireturn B (by decide +kernel) rfl
def f_X11_chanceOf_o (rc : Int32 → Int32 → Int32 → Mem → Option (Int32 × Mem)) (v1 : Int32) (v2 : Int32) (v3 : Int32) (M : Mem) : Option (Int32 × Mem) := (if v1 ≤ v2 then ck (okI 48 v1) (ck (okI 48 v2) (lt ((50 : Int32) + (((M.1 48 v1.toNatClampNeg) - (M.1 48 v2.toNatClampNeg)) / (2 : Int32))) fun x1 => (if (M.1 47 13) < 0 then f_X11_chanceOf_b99 rc x1 M else ck (okI 56 (0 : Int32)) (lt (wI M 56 (0 : Int32).toNatClampNeg v1) fun M2 => ck (okI 56 (1 : Int32)) (lt (wI M2 56 (1 : Int32).toNatClampNeg v2) fun M3 => ck (okI 48 v1) (ck (okI 56 (2 : Int32)) (lt (wI M3 56 (2 : Int32).toNatClampNeg (M3.1 48 v1.toNatClampNeg)) fun M4 => ck (okI 48 v2) (ck (okI 56 (3 : Int32)) (lt (wI M4 56 (3 : Int32).toNatClampNeg (M4.1 48 v2.toNatClampNeg)) fun M5 => ck (okI 56 (4 : Int32)) (lt (wI M5 56 (4 : Int32).toNatClampNeg v3) fun M6 => bI (f_X11_workOut (0 : Int32) (M6.1 47 13) M6) fun x7 M8 => f_X11_chanceOf_b99 rc x7 M8)))))))))) else bI (rc v2 v1 v3 M) fun x9 M10 => (some ((100 : Int32) - x9, M10)))
set_option maxRecDepth 100000 in
set_option maxHeartbeats 4000000 in
theorem w_X11_chanceOf_o {G : GW} {E : EE} (hG : ab_ok G) {rc : Int32 → Int32 → Int32 → Mem → Option (Int32 × Mem)} (lv0 : Nat) (hl0 : 251 ≤ lv0) (hrc : ∀ (v1 : Int32) (v2 : Int32) (v3 : Int32) (M : Mem), AC (eLa E) G yX11_chanceOf cX11_chanceOf 5 (some .int) lv0 [.ref 47, .int v1, .int v2, .int v3] M embI (rc v1 v2 v3 M)) (B : Bx G E RX11 cX11_chanceOf 5 (lv0 + 1) (some .int)) (v1 : Int32) (v2 : Int32) (v3 : Int32) (M : Mem) : AWo G E cX11_chanceOf 5 (ab_Q G E embI) 0 [(0, .ref 47), (1, .int v1), (2, .int v2), (3, .int v3)] [] M (f_X11_chanceOf_o rc v1 v2 v3 M) := by
  unfold f_X11_chanceOf_o
  refine aw_iload_n (k0 := 1) B 1 (by decide +kernel) rfl rfl ?_
  refine aw_iload_n (k0 := 2) B 2 (by decide +kernel) rfl rfl ?_
  refine aw_icmp_le (off := 14) B 16 (by decide +kernel) (by decide) (fun _ => ?_) (fun _ => ?_)
  · refine aw_bipush (n := 50) (v := (50 : Int32)) B (by decide +kernel) (by decide) ?_
    refine aw_aload_n (k0 := 0) B 0 (by decide +kernel) rfl rfl ?_
    refine aw_getr (c := 47) B lkX11_9 (by decide +kernel) rfl (r := 48) rfl ?_
    refine aw_iload_n (k0 := 1) B 1 (by decide +kernel) rfl rfl ?_
    refine aw_iaload B (by decide +kernel) ?_
    refine aw_aload_n (k0 := 0) B 0 (by decide +kernel) rfl rfl ?_
    refine aw_getr (c := 47) B lkX11_9 (by decide +kernel) rfl (r := 48) rfl ?_
    refine aw_iload_n (k0 := 2) B 2 (by decide +kernel) rfl rfl ?_
    refine aw_iaload B (by decide +kernel) ?_
    refine aw_isub B (by decide +kernel) ?_
    refine aw_iconst (n := 2) (v := (2 : Int32)) B (by decide +kernel) (by decide) ?_
    refine aw_idivK B (by decide +kernel) (by decide) ?_
    refine aw_iadd B (by decide +kernel) ?_
    refine aw_ltI (fun x1 => ?_)
    refine aw_istore (i := 4) B [(4, .int x1), (0, .ref 47), (1, .int v1), (2, .int v2), (3, .int v3)] (by decide +kernel) (Nat.le_of_ble_eq_true rfl) rfl ?_
    refine aw_aload_n (k0 := 0) B 1 (by decide +kernel) rfl rfl ?_
    refine aw_geti (c := 47) B lkX11_99 (by decide +kernel) rfl ?_
    refine aw_if_lt (off := 59) B 99 (by decide +kernel) (by decide) (fun _ => ?_) (fun _ => ?_)
    · exact aw_sub [0] rfl (w_X11_chanceOf_b99 hG lv0 hl0 hrc B _ _)
    · refine aw_aload_n (k0 := 0) B 1 (by decide +kernel) rfl rfl ?_
      refine aw_getr (c := 47) B lkX11_34 (by decide +kernel) rfl (r := 56) rfl ?_
      refine aw_iconst (n := 0) (v := (0 : Int32)) B (by decide +kernel) (by decide) ?_
      refine aw_iload_n (k0 := 1) B 2 (by decide +kernel) rfl rfl ?_
      refine aw_iastore B (by decide +kernel) (fun M2 => ?_)
      refine aw_aload_n (k0 := 0) B 1 (by decide +kernel) rfl rfl ?_
      refine aw_getr (c := 47) B lkX11_34 (by decide +kernel) rfl (r := 56) rfl ?_
      refine aw_iconst (n := 1) (v := (1 : Int32)) B (by decide +kernel) (by decide) ?_
      refine aw_iload_n (k0 := 2) B 3 (by decide +kernel) rfl rfl ?_
      refine aw_iastore B (by decide +kernel) (fun M3 => ?_)
      refine aw_aload_n (k0 := 0) B 1 (by decide +kernel) rfl rfl ?_
      refine aw_getr (c := 47) B lkX11_34 (by decide +kernel) rfl (r := 56) rfl ?_
      refine aw_iconst (n := 2) (v := (2 : Int32)) B (by decide +kernel) (by decide) ?_
      refine aw_aload_n (k0 := 0) B 1 (by decide +kernel) rfl rfl ?_
      refine aw_getr (c := 47) B lkX11_9 (by decide +kernel) rfl (r := 48) rfl ?_
      refine aw_iload_n (k0 := 1) B 2 (by decide +kernel) rfl rfl ?_
      refine aw_iaload B (by decide +kernel) ?_
      refine aw_iastore B (by decide +kernel) (fun M4 => ?_)
      refine aw_aload_n (k0 := 0) B 1 (by decide +kernel) rfl rfl ?_
      refine aw_getr (c := 47) B lkX11_34 (by decide +kernel) rfl (r := 56) rfl ?_
      refine aw_iconst (n := 3) (v := (3 : Int32)) B (by decide +kernel) (by decide) ?_
      refine aw_aload_n (k0 := 0) B 1 (by decide +kernel) rfl rfl ?_
      refine aw_getr (c := 47) B lkX11_9 (by decide +kernel) rfl (r := 48) rfl ?_
      refine aw_iload_n (k0 := 2) B 3 (by decide +kernel) rfl rfl ?_
      refine aw_iaload B (by decide +kernel) ?_
      refine aw_iastore B (by decide +kernel) (fun M5 => ?_)
      refine aw_aload_n (k0 := 0) B 1 (by decide +kernel) rfl rfl ?_
      refine aw_getr (c := 47) B lkX11_34 (by decide +kernel) rfl (r := 56) rfl ?_
      refine aw_iconst (n := 4) (v := (4 : Int32)) B (by decide +kernel) (by decide) ?_
      refine aw_iload_n (k0 := 3) B 4 (by decide +kernel) rfl rfl ?_
      refine aw_iastore B (by decide +kernel) (fun M6 => ?_)
      refine aw_aload_n (k0 := 0) B 1 (by decide +kernel) rfl rfl ?_
      refine aw_iconst (n := 0) (v := (0 : Int32)) B (by decide +kernel) (by decide) ?_
      refine aw_aload_n (k0 := 0) B 1 (by decide +kernel) rfl rfl ?_
      refine aw_geti (c := 47) B lkX11_99 (by decide +kernel) rfl ?_
      refine aw_cVI B (c_X11_workOut (eLa E) hG (0 : Int32) (M6.1 47 13) M6) cvX11_210 rfl rfl (by have hF : FD = 40 := rfl; omega) rfl (Nat.le_of_ble_eq_true rfl) (by decide +kernel) rfl (fun x7 M8 => ?_)
      refine aw_istore (i := 4) B [(4, .int x7), (0, .ref 47), (1, .int v1), (2, .int v2), (3, .int v3)] (by decide +kernel) (Nat.le_of_ble_eq_true rfl) rfl ?_
      exact aw_sub [0] rfl (w_X11_chanceOf_b99 hG lv0 hl0 hrc B _ _)
  · refine aw_bipush (n := 100) (v := (100 : Int32)) B (by decide +kernel) (by decide) ?_
    refine aw_aload_n (k0 := 0) B 0 (by decide +kernel) rfl rfl ?_
    refine aw_iload_n (k0 := 2) B 2 (by decide +kernel) rfl rfl ?_
    refine aw_iload_n (k0 := 1) B 1 (by decide +kernel) rfl rfl ?_
    refine aw_iload_n (k0 := 3) B 3 (by decide +kernel) rfl rfl ?_
    refine aw_cVI B (hrc v2 v1 v3 M) cvX11_213 rfl rfl (by have hF : FD = 40 := rfl; omega) rfl (Nat.le_of_ble_eq_true rfl) (by decide +kernel) rfl (fun x9 M10 => ?_)
    refine aw_isub B (by decide +kernel) ?_
    exact aw_ireturn B (by decide +kernel) rfl
def f_X11_chanceOf : Nat → Int32 → Int32 → Int32 → Mem → Option (Int32 × Mem)
  | 0, _, _, _, _ => none
  | d + 1, v1, v2, v3, M => f_X11_chanceOf_o (fun v1 v2 v3 M => f_X11_chanceOf d v1 v2 v3 M) v1 v2 v3 M
theorem c_X11_chanceOf (l : Launch) {G : GW} (hG : ab_ok G) : ∀ (d : Nat) (v1 : Int32) (v2 : Int32) (v3 : Int32) (M : Mem), AC l G yX11_chanceOf cX11_chanceOf 5 (some .int) (251 + 1 * d) [.ref 47, .int v1, .int v2, .int v3] M embI (f_X11_chanceOf d v1 v2 v3 M)
  | 0, _, _, _, _ => fun a ha => by cases ha
  | d + 1, v1, v2, v3, M => AC.of hG (by decide) (Nat.le_of_ble_eq_true rfl) (fun E hE B => by
    subst hE
    have e : 251 + 1 * (d + 1) = 251 + 1 * d + 1 := by omega
    rw [e] at B
    exact w_X11_chanceOf_o hG (251 + 1 * d) (Nat.le_add_right _ _) (fun v1 v2 v3 M => c_X11_chanceOf (eLa E) hG d v1 v2 v3 M) B v1 v2 v3 M)
def f_X11_chance (v1 : Int32) (v2 : Int32) (M : Mem) : Option (Int32 × Mem) := (if v1 < 0 then (some ((-1 : Int32), M)) else (f_X11_areTwo ((v1 / (10 : Int32)).toInt64) ((ab_rem v1 (10 : Int32)).toInt64) M).bind fun x1 => (if x1 = 0 then (some ((-1 : Int32), M)) else (f_X11_within v2.toInt64 (0 : Int64) (2 : Int64)).bind fun x3 => (if x3 = 0 then (some ((-1 : Int32), M)) else bI (f_X11_chanceOf FD (v1 / (10 : Int32)) (ab_rem v1 (10 : Int32)) v2 M) fun x5 M6 => (some (x5, M6)))))
set_option maxRecDepth 100000 in
set_option maxHeartbeats 4000000 in
theorem w_X11_chance {G : GW} {E : EE} (hG : ab_ok G) (B : Bx G E RX11 cX11_chance 3 292 (some .int)) (v1 : Int32) (v2 : Int32) (M : Mem) : AWo G E cX11_chance 3 (ab_Q G E embI) 0 [(0, .ref 47), (1, .int v1), (2, .int v2)] [] M (f_X11_chance v1 v2 M) := by
  unfold f_X11_chance
  refine aw_iload_n (k0 := 1) B 1 (by decide +kernel) rfl rfl ?_
  refine aw_if_lt (off := 48) B 49 (by decide +kernel) (by decide) (fun _ => ?_) (fun _ => ?_)
  · refine aw_iconst (n := -1) (v := (-1 : Int32)) B (by decide +kernel) (by decide) ?_
    exact aw_ireturn B (by decide +kernel) rfl
  · refine aw_aload_n (k0 := 0) B 0 (by decide +kernel) rfl rfl ?_
    refine aw_iload_n (k0 := 1) B 1 (by decide +kernel) rfl rfl ?_
    refine aw_bipush (n := 10) (v := (10 : Int32)) B (by decide +kernel) (by decide) ?_
    refine aw_idivK B (by decide +kernel) (by decide) ?_
    refine aw_i2l B (by decide +kernel) ?_
    refine aw_iload_n (k0 := 1) B 1 (by decide +kernel) rfl rfl ?_
    refine aw_bipush (n := 10) (v := (10 : Int32)) B (by decide +kernel) (by decide) ?_
    refine aw_iremK B (by decide +kernel) (by decide) ?_
    refine aw_i2l B (by decide +kernel) ?_
    refine aw_cVR B (c_X11_areTwo (eLa E) hG ((v1 / (10 : Int32)).toInt64) ((ab_rem v1 (10 : Int32)).toInt64) M) cvX11_121 rfl rfl (Nat.le_of_ble_eq_true rfl) rfl (Nat.le_of_ble_eq_true rfl) (by decide +kernel) rfl (fun x1 => ?_)
    refine aw_if_eq (off := 31) B 49 (by decide +kernel) (by decide) (fun _ => ?_) (fun _ => ?_)
    · refine aw_iconst (n := -1) (v := (-1 : Int32)) B (by decide +kernel) (by decide) ?_
      exact aw_ireturn B (by decide +kernel) rfl
    · refine aw_iload_n (k0 := 2) B 2 (by decide +kernel) rfl rfl ?_
      refine aw_i2l B (by decide +kernel) ?_
      refine aw_lconst (n := 0) (v := (0 : Int64)) B (by decide +kernel) (by decide) ?_
      refine aw_ldc2 B (by decide +kernel) lwX11_217 ?_
      refine aw_cSR B (c_X11_within (eLa E) hG v2.toInt64 (0 : Int64) (2 : Int64) M) csX11_112 (Nat.le_of_ble_eq_true rfl) rfl (Nat.le_of_ble_eq_true rfl) (by decide +kernel) rfl (fun x3 => ?_)
      refine aw_if_eq (off := 19) B 49 (by decide +kernel) (by decide) (fun _ => ?_) (fun _ => ?_)
      · refine aw_iconst (n := -1) (v := (-1 : Int32)) B (by decide +kernel) (by decide) ?_
        exact aw_ireturn B (by decide +kernel) rfl
      · refine aw_aload_n (k0 := 0) B 0 (by decide +kernel) rfl rfl ?_
        refine aw_iload_n (k0 := 1) B 1 (by decide +kernel) rfl rfl ?_
        refine aw_bipush (n := 10) (v := (10 : Int32)) B (by decide +kernel) (by decide) ?_
        refine aw_idivK B (by decide +kernel) (by decide) ?_
        refine aw_iload_n (k0 := 1) B 1 (by decide +kernel) rfl rfl ?_
        refine aw_bipush (n := 10) (v := (10 : Int32)) B (by decide +kernel) (by decide) ?_
        refine aw_iremK B (by decide +kernel) (by decide) ?_
        refine aw_iload_n (k0 := 2) B 2 (by decide +kernel) rfl rfl ?_
        refine aw_cVI B (c_X11_chanceOf (eLa E) hG FD (v1 / (10 : Int32)) (ab_rem v1 (10 : Int32)) v2 M) cvX11_213 rfl rfl (Nat.le_of_ble_eq_true rfl) rfl (Nat.le_of_ble_eq_true rfl) (by decide +kernel) rfl (fun x5 M6 => ?_)
        refine aw_goto (off := 4) B 50 (by decide +kernel) (by decide) ?_
        exact aw_ireturn B (by decide +kernel) rfl
theorem c_X11_chance (l : Launch) {G : GW} (hG : ab_ok G) (v1 : Int32) (v2 : Int32) (M : Mem) : AC l G yX11_chance cX11_chance 3 (some .int) 292 [.ref 47, .int v1, .int v2] M embI (f_X11_chance v1 v2 M) := AC.of hG (by decide) (Nat.le_of_ble_eq_true rfl) (fun E hE B => by subst hE; exact w_X11_chance hG B v1 v2 M)
def f_X3_seatOf_28_29_L2 (M : Mem) : Nat → Int32 → Int32 → Option Int32
  | 0, _, _ => none
  | n + 1, v2, v3 => (if (M.1 28 0) ≤ v3 then (some (-1 : Int32)) else ck (okI 29 v3) ((if (M.1 29 v3.toNatClampNeg) = v2 then (some v3) else f_X3_seatOf_28_29_L2 M n v2 (v3 + 1))))
set_option maxRecDepth 100000 in
set_option maxHeartbeats 4000000 in
theorem w_X3_seatOf_28_29_L2 {G : GW} {E : EE} (hG : ab_ok G) (M : Mem) (B : Bx G E RX3 cX3_seatOf 4 2 (some .int)) : ∀ (n : Nat) (v2 : Int32) (v3 : Int32), AWo G E cX3_seatOf 4 (ab_Q G E (embRI M)) 2 [(0, .ref 28), (1, .ref 29), (2, .int v2), (3, .int v3)] [] M (f_X3_seatOf_28_29_L2 M n v2 v3) := by
  intro n
  induction n with
  | zero => intro _ _; exact aw_none
  | succ n ih =>
    intro v2 v3
    rw [f_X3_seatOf_28_29_L2]
    refine aw_iload_n (k0 := 3) B 3 (by decide +kernel) rfl rfl ?_
    refine aw_aload_n (k0 := 0) B 0 (by decide +kernel) rfl rfl ?_
    refine aw_geti (c := 28) B lkX3_28 (by decide +kernel) rfl ?_
    refine aw_icmp_ge (off := 18) B 25 (by decide +kernel) (by decide) (fun _ => ?_) (fun _ => ?_)
    · refine aw_iconst (n := -1) (v := (-1 : Int32)) B (by decide +kernel) (by decide) ?_
      exact aw_ireturn B (by decide +kernel) rfl
    · refine aw_aload_n (k0 := 1) B 1 (by decide +kernel) rfl rfl ?_
      refine aw_iload_n (k0 := 3) B 3 (by decide +kernel) rfl rfl ?_
      refine aw_iaload B (by decide +kernel) ?_
      refine aw_iload_n (k0 := 2) B 2 (by decide +kernel) rfl rfl ?_
      refine aw_icmp_ne (off := 5) B 19 (by decide +kernel) (by decide) (fun _ => ?_) (fun _ => ?_)
      · refine aw_iinc (i := 3) (n := 1) B 3 [(3, .int (v3 + 1)), (0, .ref 28), (1, .ref 29), (2, .int v2)] (by decide +kernel) rfl (Nat.le_of_ble_eq_true rfl) (v3 + 1) (ab_inc (by decide)) rfl ?_
        refine aw_goto (off := -20) B 2 (by decide +kernel) (by decide) ?_
        exact aw_sub [1, 2, 3, 0] rfl (ih _ _)
      · refine aw_iload_n (k0 := 3) B 3 (by decide +kernel) rfl rfl ?_
        exact aw_ireturn B (by decide +kernel) rfl
def f_X3_seatOf_28_29 (v2 : Int32) (M : Mem) : Option Int32 := f_X3_seatOf_28_29_L2 M FU v2 (0 : Int32)
set_option maxRecDepth 100000 in
set_option maxHeartbeats 4000000 in
theorem w_X3_seatOf_28_29 {G : GW} {E : EE} (hG : ab_ok G) (B : Bx G E RX3 cX3_seatOf 4 2 (some .int)) (v2 : Int32) (M : Mem) : AWo G E cX3_seatOf 4 (ab_Q G E (embRI M)) 0 [(0, .ref 28), (1, .ref 29), (2, .int v2)] [] M (f_X3_seatOf_28_29 v2 M) := by
  unfold f_X3_seatOf_28_29
  refine aw_iconst (n := 0) (v := (0 : Int32)) B (by decide +kernel) (by decide) ?_
  refine aw_istore_n (k0 := 3) B [(3, .int (0 : Int32)), (0, .ref 28), (1, .ref 29), (2, .int v2)] (by decide +kernel) rfl (Nat.le_of_ble_eq_true rfl) rfl ?_
  exact aw_sub [1, 2, 3, 0] rfl (w_X3_seatOf_28_29_L2 hG M B FU _ _)
theorem c_X3_seatOf_28_29 (l : Launch) {G : GW} (hG : ab_ok G) (v2 : Int32) (M : Mem) : AC l G yX3_seatOf cX3_seatOf 4 (some .int) 2 [.ref 28, .ref 29, .int v2] M (embRI M) (f_X3_seatOf_28_29 v2 M) := AC.of hG (by decide) (Nat.le_of_ble_eq_true rfl) (fun E hE B => by subst hE; exact w_X3_seatOf_28_29 hG B v2 M)
def f_X3_has (v1 : Int32) (M : Mem) : Option Int32 := (f_X3_seatOf_28_29 v1 M).bind fun x1 => (if x1 < 0 then (some (0 : Int32)) else (some (1 : Int32)))
set_option maxRecDepth 100000 in
set_option maxHeartbeats 4000000 in
theorem w_X3_has {G : GW} {E : EE} (hG : ab_ok G) (B : Bx G E RX3 cX3_has 2 3 (some .boolean)) (v1 : Int32) (M : Mem) : AWo G E cX3_has 2 (ab_Q G E (embRI M)) 0 [(0, .ref 28), (1, .int v1)] [] M (f_X3_has v1 M) := by
  unfold f_X3_has
  refine aw_aload_n (k0 := 0) B 0 (by decide +kernel) rfl rfl ?_
  refine aw_aload_n (k0 := 0) B 0 (by decide +kernel) rfl rfl ?_
  refine aw_getr (c := 28) B lkX3_11 (by decide +kernel) rfl (r := 29) rfl ?_
  refine aw_iload_n (k0 := 1) B 1 (by decide +kernel) rfl rfl ?_
  refine aw_cVR B (c_X3_seatOf_28_29 (eLa E) hG v1 M) cvX3_32 rfl rfl (Nat.le_of_ble_eq_true rfl) rfl (Nat.le_of_ble_eq_true rfl) (by decide +kernel) rfl (fun x1 => ?_)
  refine aw_if_lt (off := 7) B 16 (by decide +kernel) (by decide) (fun _ => ?_) (fun _ => ?_)
  · refine aw_iconst (n := 0) (v := (0 : Int32)) B (by decide +kernel) (by decide) ?_
    exact aw_zreturnK B (by decide +kernel) rfl (by decide)
  · refine aw_iconst (n := 1) (v := (1 : Int32)) B (by decide +kernel) (by decide) ?_
    refine aw_goto (off := 4) B 17 (by decide +kernel) (by decide) ?_
    exact aw_zreturnK B (by decide +kernel) rfl (by decide)
theorem c_X3_has (l : Launch) {G : GW} (hG : ab_ok G) (v1 : Int32) (M : Mem) : AC l G yX3_has cX3_has 2 (some .boolean) 3 [.ref 28, .int v1] M (embRI M) (f_X3_has v1 M) := AC.of hG (by decide) (Nat.le_of_ble_eq_true rfl) (fun E hE B => by subst hE; exact w_X3_has hG B v1 M)
def f_X3_add (v1 : Int32) (M : Mem) : Option (Int32 × Mem) := (if (M.1 28 0) < (8 : Int32) then ck (okI 29 (M.1 28 0)) (lt (wI M 29 (M.1 28 0).toNatClampNeg v1) fun M1 => lt (wI M1 28 0 ((M1.1 28 0) + (1 : Int32))) fun M2 => (some (M2.1 28 0, M2))) else (some ((-3 : Int32), M)))
set_option maxRecDepth 100000 in
set_option maxHeartbeats 4000000 in
theorem w_X3_add {G : GW} {E : EE} (hG : ab_ok G) (B : Bx G E RX3 cX3_add 2 2 (some .int)) (v1 : Int32) (M : Mem) : AWo G E cX3_add 2 (ab_Q G E embI) 0 [(0, .ref 28), (1, .int v1)] [] M (f_X3_add v1 M) := by
  unfold f_X3_add
  refine aw_aload_n (k0 := 0) B 0 (by decide +kernel) rfl rfl ?_
  refine aw_geti (c := 28) B lkX3_28 (by decide +kernel) rfl ?_
  refine aw_bipush (n := 8) (v := (8 : Int32)) B (by decide +kernel) (by decide) ?_
  refine aw_icmp_lt (off := 6) B 12 (by decide +kernel) (by decide) (fun _ => ?_) (fun _ => ?_)
  · refine aw_aload_n (k0 := 0) B 0 (by decide +kernel) rfl rfl ?_
    refine aw_getr (c := 28) B lkX3_11 (by decide +kernel) rfl (r := 29) rfl ?_
    refine aw_aload_n (k0 := 0) B 0 (by decide +kernel) rfl rfl ?_
    refine aw_geti (c := 28) B lkX3_28 (by decide +kernel) rfl ?_
    refine aw_iload_n (k0 := 1) B 1 (by decide +kernel) rfl rfl ?_
    refine aw_iastore B (by decide +kernel) (fun M1 => ?_)
    refine aw_aload_n (k0 := 0) B 0 (by decide +kernel) rfl rfl ?_
    refine aw_dup B (by decide +kernel) rfl ?_
    refine aw_geti (c := 28) B lkX3_28 (by decide +kernel) rfl ?_
    refine aw_iconst (n := 1) (v := (1 : Int32)) B (by decide +kernel) (by decide) ?_
    refine aw_iadd B (by decide +kernel) ?_
    refine aw_puti (c := 28) B lkX3_28 lp3_0 (by decide +kernel) rfl (fun M2 => ?_)
    refine aw_aload_n (k0 := 0) B 0 (by decide +kernel) rfl rfl ?_
    refine aw_geti (c := 28) B lkX3_28 (by decide +kernel) rfl ?_
    exact aw_ireturn B (by decide +kernel) rfl
  · refine aw_bipush (n := -3) (v := (-3 : Int32)) B (by decide +kernel) (by decide) ?_
    exact aw_ireturn B (by decide +kernel) rfl
theorem c_X3_add (l : Launch) {G : GW} (hG : ab_ok G) (v1 : Int32) (M : Mem) : AC l G yX3_add cX3_add 2 (some .int) 2 [.ref 28, .int v1] M embI (f_X3_add v1 M) := AC.of hG (by decide) (Nat.le_of_ble_eq_true rfl) (fun E hE B => by subst hE; exact w_X3_add hG B v1 M)
def f_X10_cup (v1 : Int32) (M : Mem) : Option (Int32 × Mem) := (if v1 = (-1 : Int32) then lt (wI M 28 0 (0 : Int32)) fun M7 => (some ((0 : Int32), M7)) else (f_X4_hasPlayer v1 M).bind fun x1 => (if x1 = 0 then (some ((-1 : Int32), M)) else (f_X3_has v1 M).bind fun x3 => (if x3 = 0 then bI (f_X3_add v1 M) fun x5 M6 => (some (x5, M6)) else (some ((-1 : Int32), M)))))
set_option maxRecDepth 100000 in
set_option maxHeartbeats 4000000 in
theorem w_X10_cup {G : GW} {E : EE} (hG : ab_ok G) (B : Bx G E RX10 cX10_cup 2 4 (some .int)) (v1 : Int32) (M : Mem) : AWo G E cX10_cup 2 (ab_Q G E embI) 0 [(0, .ref 0), (1, .int v1)] [] M (f_X10_cup v1 M) := by
  unfold f_X10_cup
  refine aw_iload_n (k0 := 1) B 1 (by decide +kernel) rfl rfl ?_
  refine aw_iconst (n := -1) (v := (-1 : Int32)) B (by decide +kernel) (by decide) ?_
  refine aw_icmp_ne (off := 13) B 15 (by decide +kernel) (by decide) (fun _ => ?_) (fun _ => ?_)
  · refine aw_aload_n (k0 := 0) B 0 (by decide +kernel) rfl rfl ?_
    refine aw_getr (c := 0) B lkX10_10 (by decide +kernel) rfl (r := 1) rfl ?_
    refine aw_iload_n (k0 := 1) B 1 (by decide +kernel) rfl rfl ?_
    refine aw_cVR B (c_X4_hasPlayer (eLa E) hG v1 M) cvX10_135 rfl rfl (Nat.le_of_ble_eq_true rfl) rfl (Nat.le_of_ble_eq_true rfl) (by decide +kernel) rfl (fun x1 => ?_)
    refine aw_if_eq (off := 14) B 37 (by decide +kernel) (by decide) (fun _ => ?_) (fun _ => ?_)
    · refine aw_iconst (n := -1) (v := (-1 : Int32)) B (by decide +kernel) (by decide) ?_
      exact aw_ireturn B (by decide +kernel) rfl
    · refine aw_aload_n (k0 := 0) B 0 (by decide +kernel) rfl rfl ?_
      refine aw_getr (c := 0) B lkX10_54 (by decide +kernel) rfl (r := 28) rfl ?_
      refine aw_iload_n (k0 := 1) B 1 (by decide +kernel) rfl rfl ?_
      refine aw_cVR B (c_X3_has (eLa E) hG v1 M) cvX10_269 rfl rfl (Nat.le_of_ble_eq_true rfl) rfl (Nat.le_of_ble_eq_true rfl) (by decide +kernel) rfl (fun x3 => ?_)
      refine aw_if_eq (off := 5) B 39 (by decide +kernel) (by decide) (fun _ => ?_) (fun _ => ?_)
      · refine aw_aload_n (k0 := 0) B 0 (by decide +kernel) rfl rfl ?_
        refine aw_getr (c := 0) B lkX10_54 (by decide +kernel) rfl (r := 28) rfl ?_
        refine aw_iload_n (k0 := 1) B 1 (by decide +kernel) rfl rfl ?_
        refine aw_cVI B (c_X3_add (eLa E) hG v1 M) cvX10_272 rfl rfl (Nat.le_of_ble_eq_true rfl) rfl (Nat.le_of_ble_eq_true rfl) (by decide +kernel) rfl (fun x5 M6 => ?_)
        exact aw_ireturn B (by decide +kernel) rfl
      · refine aw_iconst (n := -1) (v := (-1 : Int32)) B (by decide +kernel) (by decide) ?_
        exact aw_ireturn B (by decide +kernel) rfl
  · refine aw_aload_n (k0 := 0) B 0 (by decide +kernel) rfl rfl ?_
    refine aw_getr (c := 0) B lkX10_54 (by decide +kernel) rfl (r := 28) rfl ?_
    refine aw_iconst (n := 0) (v := (0 : Int32)) B (by decide +kernel) (by decide) ?_
    refine aw_puti (c := 28) B lkX10_266 lp3_0 (by decide +kernel) rfl (fun M7 => ?_)
    refine aw_iconst (n := 0) (v := (0 : Int32)) B (by decide +kernel) (by decide) ?_
    exact aw_ireturn B (by decide +kernel) rfl
theorem c_X10_cup (l : Launch) {G : GW} (hG : ab_ok G) (v1 : Int32) (M : Mem) : AC l G yX10_cup cX10_cup 2 (some .int) 4 [.ref 0, .int v1] M embI (f_X10_cup v1 M) := AC.of hG (by decide) (Nat.le_of_ble_eq_true rfl) (fun E hE B => by subst hE; exact w_X10_cup hG B v1 M)
def f_X11_placeInRow_L2 (M : Mem) : Nat → Int32 → Int32 → Option Int32
  | 0, _, _ => none
  | n + 1, v1, v2 => (if (M.1 47 34) ≤ v2 then (some (-1 : Int32)) else ck (okI 65 v2) ((if (M.1 65 v2.toNatClampNeg) = v1 then (some v2) else f_X11_placeInRow_L2 M n v1 (v2 + 1))))
set_option maxRecDepth 100000 in
set_option maxHeartbeats 4000000 in
theorem w_X11_placeInRow_L2 {G : GW} {E : EE} (hG : ab_ok G) (M : Mem) (B : Bx G E RX11 cX11_placeInRow 3 2 (some .int)) : ∀ (n : Nat) (v1 : Int32) (v2 : Int32), AWo G E cX11_placeInRow 3 (ab_Q G E (embRI M)) 2 [(0, .ref 47), (1, .int v1), (2, .int v2)] [] M (f_X11_placeInRow_L2 M n v1 v2) := by
  intro n
  induction n with
  | zero => intro _ _; exact aw_none
  | succ n ih =>
    intro v1 v2
    rw [f_X11_placeInRow_L2]
    refine aw_iload_n (k0 := 2) B 2 (by decide +kernel) rfl rfl ?_
    refine aw_aload_n (k0 := 0) B 0 (by decide +kernel) rfl rfl ?_
    refine aw_geti (c := 47) B lkX11_285 (by decide +kernel) rfl ?_
    refine aw_icmp_ge (off := 21) B 28 (by decide +kernel) (by decide) (fun _ => ?_) (fun _ => ?_)
    · refine aw_iconst (n := -1) (v := (-1 : Int32)) B (by decide +kernel) (by decide) ?_
      exact aw_ireturn B (by decide +kernel) rfl
    · refine aw_aload_n (k0 := 0) B 0 (by decide +kernel) rfl rfl ?_
      refine aw_getr (c := 47) B lkX11_62 (by decide +kernel) rfl (r := 65) rfl ?_
      refine aw_iload_n (k0 := 2) B 2 (by decide +kernel) rfl rfl ?_
      refine aw_iaload B (by decide +kernel) ?_
      refine aw_iload_n (k0 := 1) B 1 (by decide +kernel) rfl rfl ?_
      refine aw_icmp_ne (off := 5) B 22 (by decide +kernel) (by decide) (fun _ => ?_) (fun _ => ?_)
      · refine aw_iinc (i := 2) (n := 1) B 2 [(2, .int (v2 + 1)), (0, .ref 47), (1, .int v1)] (by decide +kernel) rfl (Nat.le_of_ble_eq_true rfl) (v2 + 1) (ab_inc (by decide)) rfl ?_
        refine aw_goto (off := -23) B 2 (by decide +kernel) (by decide) ?_
        exact aw_sub [1, 2, 0] rfl (ih _ _)
      · refine aw_iload_n (k0 := 2) B 2 (by decide +kernel) rfl rfl ?_
        exact aw_ireturn B (by decide +kernel) rfl
def f_X11_placeInRow (v1 : Int32) (M : Mem) : Option Int32 := f_X11_placeInRow_L2 M FU v1 (0 : Int32)
set_option maxRecDepth 100000 in
set_option maxHeartbeats 4000000 in
theorem w_X11_placeInRow {G : GW} {E : EE} (hG : ab_ok G) (B : Bx G E RX11 cX11_placeInRow 3 2 (some .int)) (v1 : Int32) (M : Mem) : AWo G E cX11_placeInRow 3 (ab_Q G E (embRI M)) 0 [(0, .ref 47), (1, .int v1)] [] M (f_X11_placeInRow v1 M) := by
  unfold f_X11_placeInRow
  refine aw_iconst (n := 0) (v := (0 : Int32)) B (by decide +kernel) (by decide) ?_
  refine aw_istore_n (k0 := 2) B [(2, .int (0 : Int32)), (0, .ref 47), (1, .int v1)] (by decide +kernel) rfl (Nat.le_of_ble_eq_true rfl) rfl ?_
  exact aw_sub [1, 2, 0] rfl (w_X11_placeInRow_L2 hG M B FU _ _)
theorem c_X11_placeInRow (l : Launch) {G : GW} (hG : ab_ok G) (v1 : Int32) (M : Mem) : AC l G yX11_placeInRow cX11_placeInRow 3 (some .int) 2 [.ref 47, .int v1] M (embRI M) (f_X11_placeInRow v1 M) := AC.of hG (by decide) (Nat.le_of_ble_eq_true rfl) (fun E hE B => by subst hE; exact w_X11_placeInRow hG B v1 M)
def f_X11_cup (v1 : Int32) (M : Mem) : Option (Int32 × Mem) := (if v1 = (-1 : Int32) then lt (wI M 47 34 (0 : Int32)) fun M7 => (some ((0 : Int32), M7)) else (f_X11_isPlayer v1 M).bind fun x1 => (if x1 = 0 then (some ((-1 : Int32), M)) else (f_X11_placeInRow v1 M).bind fun x3 => (if x3 < 0 then (if (M.1 47 34) = (8 : Int32) then (some ((-3 : Int32), M)) else ck (okI 65 (M.1 47 34)) (lt (wI M 65 (M.1 47 34).toNatClampNeg v1) fun M5 => lt (wI M5 47 34 ((M5.1 47 34) + (1 : Int32))) fun M6 => (some (M6.1 47 34, M6)))) else (some ((-1 : Int32), M)))))
set_option maxRecDepth 100000 in
set_option maxHeartbeats 4000000 in
theorem w_X11_cup {G : GW} {E : EE} (hG : ab_ok G) (B : Bx G E RX11 cX11_cup 2 4 (some .int)) (v1 : Int32) (M : Mem) : AWo G E cX11_cup 2 (ab_Q G E embI) 0 [(0, .ref 47), (1, .int v1)] [] M (f_X11_cup v1 M) := by
  unfold f_X11_cup
  refine aw_iload_n (k0 := 1) B 1 (by decide +kernel) rfl rfl ?_
  refine aw_iconst (n := -1) (v := (-1 : Int32)) B (by decide +kernel) (by decide) ?_
  refine aw_icmp_ne (off := 10) B 12 (by decide +kernel) (by decide) (fun _ => ?_) (fun _ => ?_)
  · refine aw_aload_n (k0 := 0) B 0 (by decide +kernel) rfl rfl ?_
    refine aw_iload_n (k0 := 1) B 1 (by decide +kernel) rfl rfl ?_
    refine aw_cVR B (c_X11_isPlayer (eLa E) hG v1 M) cvX11_135 rfl rfl (Nat.le_of_ble_eq_true rfl) rfl (Nat.le_of_ble_eq_true rfl) (by decide +kernel) rfl (fun x1 => ?_)
    refine aw_if_eq (off := 11) B 28 (by decide +kernel) (by decide) (fun _ => ?_) (fun _ => ?_)
    · refine aw_iconst (n := -1) (v := (-1 : Int32)) B (by decide +kernel) (by decide) ?_
      exact aw_ireturn B (by decide +kernel) rfl
    · refine aw_aload_n (k0 := 0) B 0 (by decide +kernel) rfl rfl ?_
      refine aw_iload_n (k0 := 1) B 1 (by decide +kernel) rfl rfl ?_
      refine aw_cVR B (c_X11_placeInRow (eLa E) hG v1 M) cvX11_288 rfl rfl (Nat.le_of_ble_eq_true rfl) rfl (Nat.le_of_ble_eq_true rfl) (by decide +kernel) rfl (fun x3 => ?_)
      refine aw_if_lt (off := 5) B 30 (by decide +kernel) (by decide) (fun _ => ?_) (fun _ => ?_)
      · refine aw_aload_n (k0 := 0) B 0 (by decide +kernel) rfl rfl ?_
        refine aw_geti (c := 47) B lkX11_285 (by decide +kernel) rfl ?_
        refine aw_bipush (n := 8) (v := (8 : Int32)) B (by decide +kernel) (by decide) ?_
        refine aw_icmp_ne (off := 6) B 42 (by decide +kernel) (by decide) (fun _ => ?_) (fun _ => ?_)
        · refine aw_aload_n (k0 := 0) B 0 (by decide +kernel) rfl rfl ?_
          refine aw_getr (c := 47) B lkX11_62 (by decide +kernel) rfl (r := 65) rfl ?_
          refine aw_aload_n (k0 := 0) B 0 (by decide +kernel) rfl rfl ?_
          refine aw_geti (c := 47) B lkX11_285 (by decide +kernel) rfl ?_
          refine aw_iload_n (k0 := 1) B 1 (by decide +kernel) rfl rfl ?_
          refine aw_iastore B (by decide +kernel) (fun M5 => ?_)
          refine aw_aload_n (k0 := 0) B 0 (by decide +kernel) rfl rfl ?_
          refine aw_dup B (by decide +kernel) rfl ?_
          refine aw_geti (c := 47) B lkX11_285 (by decide +kernel) rfl ?_
          refine aw_iconst (n := 1) (v := (1 : Int32)) B (by decide +kernel) (by decide) ?_
          refine aw_iadd B (by decide +kernel) ?_
          refine aw_puti (c := 47) B lkX11_285 lp11_34 (by decide +kernel) rfl (fun M6 => ?_)
          refine aw_aload_n (k0 := 0) B 0 (by decide +kernel) rfl rfl ?_
          refine aw_geti (c := 47) B lkX11_285 (by decide +kernel) rfl ?_
          exact aw_ireturn B (by decide +kernel) rfl
        · refine aw_bipush (n := -3) (v := (-3 : Int32)) B (by decide +kernel) (by decide) ?_
          exact aw_ireturn B (by decide +kernel) rfl
      · refine aw_iconst (n := -1) (v := (-1 : Int32)) B (by decide +kernel) (by decide) ?_
        exact aw_ireturn B (by decide +kernel) rfl
  · refine aw_aload_n (k0 := 0) B 0 (by decide +kernel) rfl rfl ?_
    refine aw_iconst (n := 0) (v := (0 : Int32)) B (by decide +kernel) (by decide) ?_
    refine aw_puti (c := 47) B lkX11_285 lp11_34 (by decide +kernel) rfl (fun M7 => ?_)
    refine aw_iconst (n := 0) (v := (0 : Int32)) B (by decide +kernel) (by decide) ?_
    exact aw_ireturn B (by decide +kernel) rfl
theorem c_X11_cup (l : Launch) {G : GW} (hG : ab_ok G) (v1 : Int32) (M : Mem) : AC l G yX11_cup cX11_cup 2 (some .int) 4 [.ref 47, .int v1] M embI (f_X11_cup v1 M) := AC.of hG (by decide) (Nat.le_of_ble_eq_true rfl) (fun E hE B => by subst hE; exact w_X11_cup hG B v1 M)
def f_X3_isWhole_b17 (M : Mem) : Option Int32 := (some (1 : Int32))
set_option maxRecDepth 100000 in
set_option maxHeartbeats 4000000 in
theorem w_X3_isWhole_b17 {G : GW} {E : EE} (hG : ab_ok G) (M : Mem) (B : Bx G E RX3 cX3_isWhole 1 2 (some .boolean))  : AWo G E cX3_isWhole 1 (ab_Q G E (embRI M)) 17 [] [] M (f_X3_isWhole_b17 M) := by
  unfold f_X3_isWhole_b17
  refine aw_iconst (n := 1) (v := (1 : Int32)) B (by decide +kernel) (by decide) ?_
  refine aw_goto (off := 4) B 22 (by decide +kernel) (by decide) ?_
  exact aw_zreturnK B (by decide +kernel) rfl (by decide)
def f_X3_isWhole (M : Mem) : Option Int32 := (if (M.1 28 0) = (4 : Int32) then f_X3_isWhole_b17 M else (if (M.1 28 0) = (8 : Int32) then f_X3_isWhole_b17 M else (some (0 : Int32))))
set_option maxRecDepth 100000 in
set_option maxHeartbeats 4000000 in
theorem w_X3_isWhole {G : GW} {E : EE} (hG : ab_ok G) (B : Bx G E RX3 cX3_isWhole 1 2 (some .boolean)) (M : Mem) : AWo G E cX3_isWhole 1 (ab_Q G E (embRI M)) 0 [(0, .ref 28)] [] M (f_X3_isWhole M) := by
  unfold f_X3_isWhole
  refine aw_aload_n (k0 := 0) B 0 (by decide +kernel) rfl rfl ?_
  refine aw_geti (c := 28) B lkX3_28 (by decide +kernel) rfl ?_
  refine aw_iconst (n := 4) (v := (4 : Int32)) B (by decide +kernel) (by decide) ?_
  refine aw_icmp_eq (off := 12) B 17 (by decide +kernel) (by decide) (fun _ => ?_) (fun _ => ?_)
  · exact aw_sub [] rfl (w_X3_isWhole_b17 hG M B)
  · refine aw_aload_n (k0 := 0) B 0 (by decide +kernel) rfl rfl ?_
    refine aw_geti (c := 28) B lkX3_28 (by decide +kernel) rfl ?_
    refine aw_bipush (n := 8) (v := (8 : Int32)) B (by decide +kernel) (by decide) ?_
    refine aw_icmp_ne (off := 7) B 21 (by decide +kernel) (by decide) (fun _ => ?_) (fun _ => ?_)
    · refine aw_iconst (n := 0) (v := (0 : Int32)) B (by decide +kernel) (by decide) ?_
      exact aw_zreturnK B (by decide +kernel) rfl (by decide)
    · exact aw_sub [] rfl (w_X3_isWhole_b17 hG M B)
theorem c_X3_isWhole (l : Launch) {G : GW} (hG : ab_ok G) (M : Mem) : AC l G yX3_isWhole cX3_isWhole 1 (some .boolean) 2 [.ref 28] M (embRI M) (f_X3_isWhole M) := AC.of hG (by decide) (Nat.le_of_ble_eq_true rfl) (fun E hE B => by subst hE; exact w_X3_isWhole hG B M)
def f_X3_forgetOdds (M : Mem) : Option Mem := (f_J7_fill_53178 32 (-1 : Int32) M).bind fun M2 => (some M2)
set_option maxRecDepth 100000 in
set_option maxHeartbeats 4000000 in
theorem w_X3_forgetOdds {G : GW} {E : EE} (hG : ab_ok G) (B : Bx G E RX3 cX3_forgetOdds 1 3 none) (M : Mem) : AWo G E cX3_forgetOdds 1 (ab_Q G E embV) 0 [(0, .ref 28)] [] M (f_X3_forgetOdds M) := by
  unfold f_X3_forgetOdds
  refine aw_aload_n (k0 := 0) B 0 (by decide +kernel) rfl rfl ?_
  refine aw_getr (c := 28) B lkX3_21 (by decide +kernel) rfl (r := 32) rfl ?_
  refine aw_iconst (n := -1) (v := (-1 : Int32)) B (by decide +kernel) (by decide) ?_
  refine aw_cSV B (c_J7_fill_53178 (eLa E) hG 32 (-1 : Int32) M) csX3_42 (Nat.le_of_ble_eq_true rfl) rfl (Nat.le_of_ble_eq_true rfl) (by decide +kernel) rfl (fun M2 => ?_)
  exact aw_vreturn B (by decide +kernel) rfl
theorem c_X3_forgetOdds (l : Launch) {G : GW} (hG : ab_ok G) (M : Mem) : AC l G yX3_forgetOdds cX3_forgetOdds 1 none 3 [.ref 28] M embV (f_X3_forgetOdds M) := AC.of hG (by decide) (Nat.le_of_ble_eq_true rfl) (fun E hE B => by subst hE; exact w_X3_forgetOdds hG B M)
def f_X3_sitDown (M : Mem) : Option Mem := ck (okC 100 29 (0 : Int32) (M.1 28 0) && okC 100 30 (0 : Int32) (M.1 28 0)) (lt (cpI M 29 (0 : Int32).toNatClampNeg 30 (0 : Int32).toNatClampNeg (M.1 28 0).toNatClampNeg) fun M1 => (some M1))
set_option maxRecDepth 100000 in
set_option maxHeartbeats 4000000 in
theorem w_X3_sitDown {G : GW} {E : EE} (hG : ab_ok G) (B : Bx G E RX3 cX3_sitDown 1 2 none) (M : Mem) : AWo G E cX3_sitDown 1 (ab_Q G E embV) 0 [(0, .ref 28)] [] M (f_X3_sitDown M) := by
  unfold f_X3_sitDown
  refine aw_aload_n (k0 := 0) B 0 (by decide +kernel) rfl rfl ?_
  refine aw_getr (c := 28) B lkX3_11 (by decide +kernel) rfl (r := 29) rfl ?_
  refine aw_iconst (n := 0) (v := (0 : Int32)) B (by decide +kernel) (by decide) ?_
  refine aw_aload_n (k0 := 0) B 0 (by decide +kernel) rfl rfl ?_
  refine aw_getr (c := 28) B lkX3_15 (by decide +kernel) rfl (r := 30) rfl ?_
  refine aw_iconst (n := 0) (v := (0 : Int32)) B (by decide +kernel) (by decide) ?_
  refine aw_aload_n (k0 := 0) B 0 (by decide +kernel) rfl rfl ?_
  refine aw_geti (c := 28) B lkX3_28 (by decide +kernel) rfl ?_
  refine aw_copyI B lxX3_36 (by decide +kernel) (Nat.le_of_ble_eq_true rfl) (Nat.le_of_ble_eq_true rfl) (fun M1 => ?_)
  exact aw_vreturn B (by decide +kernel) rfl
theorem c_X3_sitDown (l : Launch) {G : GW} (hG : ab_ok G) (M : Mem) : AC l G yX3_sitDown cX3_sitDown 1 none 2 [.ref 28] M embV (f_X3_sitDown M) := AC.of hG (by decide) (Nat.le_of_ble_eq_true rfl) (fun E hE B => by subst hE; exact w_X3_sitDown hG B M)
def f_J7_fill_bad5a_L10 : Nat → Nat → Int32 → Int64 → Int32 → Mem → Option Mem
  | 0, _, _, _, _, _ => none
  | n + 1, v0, v2, v3, v5, M => (if v2 ≤ v5 then (some M) else ck (okL v0 v5) (lt (wL M v0 v5.toNatClampNeg v3) fun M1 => f_J7_fill_bad5a_L10 n v0 v2 v3 (v5 + 1) M1))
set_option maxRecDepth 100000 in
set_option maxHeartbeats 4000000 in
theorem w_J7_fill_bad5a_L10 {G : GW} {E : EE} (hG : ab_ok G) (B : Bx G E RJ7 cJ7_fill_bad5a 6 3 none) : ∀ (n : Nat) (v0 : Nat) (v2 : Int32) (v3 : Int64) (v5 : Int32) (M : Mem), AWo G E cJ7_fill_bad5a 6 (ab_Q G E embV) 10 [(0, .ref v0), (2, .int v2), (3, .long v3), (5, .int v5)] [] M (f_J7_fill_bad5a_L10 n v0 v2 v3 v5 M) := by
  intro n
  induction n with
  | zero => intro _ _ _ _ _; exact aw_none
  | succ n ih =>
    intro v0 v2 v3 v5 M
    rw [f_J7_fill_bad5a_L10]
    refine aw_iload (i := 5) B 3 (by decide +kernel) rfl ?_
    refine aw_iload_n (k0 := 2) B 1 (by decide +kernel) rfl rfl ?_
    refine aw_icmp_ge (off := 14) B 27 (by decide +kernel) (by decide) (fun _ => ?_) (fun _ => ?_)
    · exact aw_vreturn B (by decide +kernel) rfl
    · refine aw_aload_n (k0 := 0) B 0 (by decide +kernel) rfl rfl ?_
      refine aw_iload (i := 5) B 3 (by decide +kernel) rfl ?_
      refine aw_lload_n (k0 := 3) B 2 (by decide +kernel) rfl rfl ?_
      refine aw_lastore B (by decide +kernel) (fun M1 => ?_)
      refine aw_iinc (i := 5) (n := 1) B 3 [(5, .int (v5 + 1)), (0, .ref v0), (2, .int v2), (3, .long v3)] (by decide +kernel) rfl (Nat.le_of_ble_eq_true rfl) (v5 + 1) (ab_inc (by decide)) rfl ?_
      refine aw_goto (off := -14) B 10 (by decide +kernel) (by decide) ?_
      exact aw_sub [1, 2, 3, 0] rfl (ih _ _ _ _ _)
def f_J7_fill_bad5a (v0 : Nat) (v1 : Int32) (v2 : Int32) (v3 : Int64) (M : Mem) : Option Mem := ck (decide (ab_k v0 = 101)) ((f_J7_rangeCheck_23922 (Int32.ofNat (ab_n v0)) v1 v2).bind fun _ => f_J7_fill_bad5a_L10 FU v0 v2 v3 v1 M)
set_option maxRecDepth 100000 in
set_option maxHeartbeats 4000000 in
theorem w_J7_fill_bad5a {G : GW} {E : EE} (hG : ab_ok G) (B : Bx G E RJ7 cJ7_fill_bad5a 6 3 none) (v0 : Nat) (v1 : Int32) (v2 : Int32) (v3 : Int64) (M : Mem) : AWo G E cJ7_fill_bad5a 6 (ab_Q G E embV) 0 [(0, .ref v0), (1, .int v1), (2, .int v2), (3, .long v3)] [] M (f_J7_fill_bad5a v0 v1 v2 v3 M) := by
  unfold f_J7_fill_bad5a
  refine aw_aload_n (k0 := 0) B 0 (by decide +kernel) rfl rfl ?_
  refine aw_alenL B (by decide +kernel) ?_
  refine aw_iload_n (k0 := 1) B 1 (by decide +kernel) rfl rfl ?_
  refine aw_iload_n (k0 := 2) B 2 (by decide +kernel) rfl rfl ?_
  refine aw_cSU B (c_J7_rangeCheck_23922 (eLa E) hG (Int32.ofNat (ab_n v0)) v1 v2 M) csJ7_13 (Nat.le_of_ble_eq_true rfl) rfl (Nat.le_of_ble_eq_true rfl) (by decide +kernel) rfl ?_
  refine aw_iload_n (k0 := 1) B 1 (by decide +kernel) rfl rfl ?_
  refine aw_istore (i := 5) B [(5, .int v1), (0, .ref v0), (1, .int v1), (2, .int v2), (3, .long v3)] (by decide +kernel) (Nat.le_of_ble_eq_true rfl) rfl ?_
  exact aw_sub [1, 3, 4, 0] rfl (w_J7_fill_bad5a_L10 hG B FU _ _ _ _ _)
theorem c_J7_fill_bad5a (l : Launch) {G : GW} (hG : ab_ok G) (v0 : Nat) (v1 : Int32) (v2 : Int32) (v3 : Int64) (M : Mem) : AC l G yJ7_fill_bad5a cJ7_fill_bad5a 6 none 3 [.ref v0, .int v1, .int v2, .long v3] M embV (f_J7_fill_bad5a v0 v1 v2 v3 M) := AC.of hG (by decide) (Nat.le_of_ble_eq_true rfl) (fun E hE B => by subst hE; exact w_J7_fill_bad5a hG B v0 v1 v2 v3 M)
def f_X3_rounds (M : Mem) : Option Int32 := (if (M.1 28 0) = (8 : Int32) then (some (3 : Int32)) else (some (2 : Int32)))
set_option maxRecDepth 100000 in
set_option maxHeartbeats 4000000 in
theorem w_X3_rounds {G : GW} {E : EE} (hG : ab_ok G) (B : Bx G E RX3 cX3_rounds 1 2 (some .int)) (M : Mem) : AWo G E cX3_rounds 1 (ab_Q G E (embRI M)) 0 [(0, .ref 28)] [] M (f_X3_rounds M) := by
  unfold f_X3_rounds
  refine aw_aload_n (k0 := 0) B 0 (by decide +kernel) rfl rfl ?_
  refine aw_geti (c := 28) B lkX3_28 (by decide +kernel) rfl ?_
  refine aw_bipush (n := 8) (v := (8 : Int32)) B (by decide +kernel) (by decide) ?_
  refine aw_icmp_ne (off := 7) B 13 (by decide +kernel) (by decide) (fun _ => ?_) (fun _ => ?_)
  · refine aw_iconst (n := 2) (v := (2 : Int32)) B (by decide +kernel) (by decide) ?_
    exact aw_ireturn B (by decide +kernel) rfl
  · refine aw_iconst (n := 3) (v := (3 : Int32)) B (by decide +kernel) (by decide) ?_
    refine aw_goto (off := 4) B 14 (by decide +kernel) (by decide) ?_
    exact aw_ireturn B (by decide +kernel) rfl
theorem c_X3_rounds (l : Launch) {G : GW} (hG : ab_ok G) (M : Mem) : AC l G yX3_rounds cX3_rounds 1 (some .int) 2 [.ref 28] M (embRI M) (f_X3_rounds M) := AC.of hG (by decide) (Nat.le_of_ble_eq_true rfl) (fun E hE B => by subst hE; exact w_X3_rounds hG B M)
def f_X3_oddsOf_b43 (v6 : Int32) (M : Mem) : Option (Int32 × Mem) := ck (okI 32 v6) ((some (M.1 32 v6.toNatClampNeg, M)))
set_option maxRecDepth 100000 in
set_option maxHeartbeats 4000000 in
theorem w_X3_oddsOf_b43 {G : GW} {E : EE} (hG : ab_ok G) (B : Bx G E RX3 cX3_oddsOf 7 5 (some .int)) (v6 : Int32) (M : Mem) : AWo G E cX3_oddsOf 7 (ab_Q G E embI) 43 [(0, .ref 28), (6, .int v6)] [] M (f_X3_oddsOf_b43 v6 M) := by
  unfold f_X3_oddsOf_b43
  refine aw_aload_n (k0 := 0) B 0 (by decide +kernel) rfl rfl ?_
  refine aw_getr (c := 28) B lkX3_21 (by decide +kernel) rfl (r := 32) rfl ?_
  refine aw_iload (i := 6) B 1 (by decide +kernel) rfl ?_
  refine aw_iaload B (by decide +kernel) ?_
  exact aw_ireturn B (by decide +kernel) rfl
def f_X3_oddsOf (v3 : Int32) (v4 : Int32) (v5 : Int32) (M : Mem) : Option (Int32 × Mem) := lt ((((v5 * (8 : Int32)) + v3) * (8 : Int32)) + v4) fun x1 => ck (okI 32 x1) ((if (M.1 32 x1.toNatClampNeg) = (-1 : Int32) then bI (f_X5_hundredths v3 v4 v5 M) fun x2 M3 => ck (okI 32 x1) (lt (wI M3 32 x1.toNatClampNeg x2) fun M4 => f_X3_oddsOf_b43 x1 M4) else f_X3_oddsOf_b43 x1 M))
set_option maxRecDepth 100000 in
set_option maxHeartbeats 4000000 in
theorem w_X3_oddsOf {G : GW} {E : EE} (hG : ab_ok G) (B : Bx G E RX3 cX3_oddsOf 7 5 (some .int)) (v3 : Int32) (v4 : Int32) (v5 : Int32) (M : Mem) : AWo G E cX3_oddsOf 7 (ab_Q G E embI) 0 [(0, .ref 28), (1, .ref 22), (2, .ref 1), (3, .int v3), (4, .int v4), (5, .int v5)] [] M (f_X3_oddsOf v3 v4 v5 M) := by
  unfold f_X3_oddsOf
  refine aw_iload (i := 5) B 5 (by decide +kernel) rfl ?_
  refine aw_bipush (n := 8) (v := (8 : Int32)) B (by decide +kernel) (by decide) ?_
  refine aw_imul B (by decide +kernel) ?_
  refine aw_iload_n (k0 := 3) B 3 (by decide +kernel) rfl rfl ?_
  refine aw_iadd B (by decide +kernel) ?_
  refine aw_bipush (n := 8) (v := (8 : Int32)) B (by decide +kernel) (by decide) ?_
  refine aw_imul B (by decide +kernel) ?_
  refine aw_iload (i := 4) B 4 (by decide +kernel) rfl ?_
  refine aw_iadd B (by decide +kernel) ?_
  refine aw_ltI (fun x1 => ?_)
  refine aw_istore (i := 6) B [(6, .int x1), (0, .ref 28), (1, .ref 22), (2, .ref 1), (3, .int v3), (4, .int v4), (5, .int v5)] (by decide +kernel) (Nat.le_of_ble_eq_true rfl) rfl ?_
  refine aw_aload_n (k0 := 0) B 1 (by decide +kernel) rfl rfl ?_
  refine aw_getr (c := 28) B lkX3_21 (by decide +kernel) rfl (r := 32) rfl ?_
  refine aw_iload (i := 6) B 0 (by decide +kernel) rfl ?_
  refine aw_iaload B (by decide +kernel) ?_
  refine aw_iconst (n := -1) (v := (-1 : Int32)) B (by decide +kernel) (by decide) ?_
  refine aw_icmp_ne (off := 20) B 43 (by decide +kernel) (by decide) (fun _ => ?_) (fun _ => ?_)
  · exact aw_sub [1, 0] rfl (w_X3_oddsOf_b43 hG B _ _)
  · refine aw_aload_n (k0 := 0) B 1 (by decide +kernel) rfl rfl ?_
    refine aw_getr (c := 28) B lkX3_21 (by decide +kernel) rfl (r := 32) rfl ?_
    refine aw_iload (i := 6) B 0 (by decide +kernel) rfl ?_
    refine aw_aload_n (k0 := 1) B 2 (by decide +kernel) rfl rfl ?_
    refine aw_aload_n (k0 := 2) B 3 (by decide +kernel) rfl rfl ?_
    refine aw_iload_n (k0 := 3) B 4 (by decide +kernel) rfl rfl ?_
    refine aw_iload (i := 4) B 5 (by decide +kernel) rfl ?_
    refine aw_iload (i := 5) B 6 (by decide +kernel) rfl ?_
    refine aw_cVI B (c_X5_hundredths (eLa E) hG v3 v4 v5 M) cvX3_48 rfl rfl (Nat.le_of_ble_eq_true rfl) rfl (Nat.le_of_ble_eq_true rfl) (by decide +kernel) rfl (fun x2 M3 => ?_)
    refine aw_iastore B (by decide +kernel) (fun M4 => ?_)
    exact aw_sub [1, 0] rfl (w_X3_oddsOf_b43 hG B _ _)
theorem c_X3_oddsOf (l : Launch) {G : GW} (hG : ab_ok G) (v3 : Int32) (v4 : Int32) (v5 : Int32) (M : Mem) : AC l G yX3_oddsOf cX3_oddsOf 7 (some .int) 5 [.ref 28, .ref 22, .ref 1, .int v3, .int v4, .int v5] M embI (f_X3_oddsOf v3 v4 v5 M) := AC.of hG (by decide) (Nat.le_of_ble_eq_true rfl) (fun E hE B => by subst hE; exact w_X3_oddsOf hG B v3 v4 v5 M)
def f_X3_beatingRivals_L18 : Nat → Int32 → Int32 → Int32 → Int64 → Int32 → Mem → Option (Int64 × Mem)
  | 0, _, _, _, _, _, _ => none
  | n + 1, v3, v4, v5, v6, v8, M => (if (v5 + (ab_shl (1 : Int32) v4)) ≤ v8 then (some (v6, M)) else ck (okL 33 ((v4 * (8 : Int32)) + v8)) (ck (okI 30 v3) (ck (okI 30 v8) (bI (f_X3_oddsOf (M.1 30 v3.toNatClampNeg) (M.1 30 v8.toNatClampNeg) v4 M) fun x1 M2 => lt (v6 + ((M.2.1 33 ((v4 * (8 : Int32)) + v8).toNatClampNeg) * x1.toInt64)) fun x3 => f_X3_beatingRivals_L18 n v3 v4 v5 x3 (v8 + 1) M2))))
set_option maxRecDepth 100000 in
set_option maxHeartbeats 4000000 in
theorem w_X3_beatingRivals_L18 {G : GW} {E : EE} (hG : ab_ok G) (B : Bx G E RX3 cX3_beatingRivals 9 6 (some .long)) : ∀ (n : Nat) (v3 : Int32) (v4 : Int32) (v5 : Int32) (v6 : Int64) (v8 : Int32) (M : Mem), AWo G E cX3_beatingRivals 9 (ab_Q G E embJ) 18 [(0, .ref 28), (1, .ref 22), (2, .ref 1), (3, .int v3), (4, .int v4), (5, .int v5), (6, .long v6), (8, .int v8)] [] M (f_X3_beatingRivals_L18 n v3 v4 v5 v6 v8 M) := by
  intro n
  induction n with
  | zero => intro _ _ _ _ _ _; exact aw_none
  | succ n ih =>
    intro v3 v4 v5 v6 v8 M
    rw [f_X3_beatingRivals_L18]
    refine aw_iload (i := 8) B 7 (by decide +kernel) rfl ?_
    refine aw_iload (i := 5) B 5 (by decide +kernel) rfl ?_
    refine aw_iconst (n := 1) (v := (1 : Int32)) B (by decide +kernel) (by decide) ?_
    refine aw_iload (i := 4) B 4 (by decide +kernel) rfl ?_
    refine aw_ishl B (by decide +kernel) ?_
    refine aw_iadd B (by decide +kernel) ?_
    refine aw_icmp_ge (off := 50) B 77 (by decide +kernel) (by decide) (fun _ => ?_) (fun _ => ?_)
    · refine aw_lload (i := 6) B 6 (by decide +kernel) rfl ?_
      exact aw_lreturn B (by decide +kernel) rfl
    · refine aw_lload (i := 6) B 6 (by decide +kernel) rfl ?_
      refine aw_aload_n (k0 := 0) B 0 (by decide +kernel) rfl rfl ?_
      refine aw_getr (c := 28) B lkX3_24 (by decide +kernel) rfl (r := 33) rfl ?_
      refine aw_iload (i := 4) B 4 (by decide +kernel) rfl ?_
      refine aw_bipush (n := 8) (v := (8 : Int32)) B (by decide +kernel) (by decide) ?_
      refine aw_imul B (by decide +kernel) ?_
      refine aw_iload (i := 8) B 7 (by decide +kernel) rfl ?_
      refine aw_iadd B (by decide +kernel) ?_
      refine aw_laload B (by decide +kernel) ?_
      refine aw_aload_n (k0 := 0) B 0 (by decide +kernel) rfl rfl ?_
      refine aw_aload_n (k0 := 1) B 1 (by decide +kernel) rfl rfl ?_
      refine aw_aload_n (k0 := 2) B 2 (by decide +kernel) rfl rfl ?_
      refine aw_aload_n (k0 := 0) B 0 (by decide +kernel) rfl rfl ?_
      refine aw_getr (c := 28) B lkX3_15 (by decide +kernel) rfl (r := 30) rfl ?_
      refine aw_iload_n (k0 := 3) B 3 (by decide +kernel) rfl rfl ?_
      refine aw_iaload B (by decide +kernel) ?_
      refine aw_aload_n (k0 := 0) B 0 (by decide +kernel) rfl rfl ?_
      refine aw_getr (c := 28) B lkX3_15 (by decide +kernel) rfl (r := 30) rfl ?_
      refine aw_iload (i := 8) B 7 (by decide +kernel) rfl ?_
      refine aw_iaload B (by decide +kernel) ?_
      refine aw_iload (i := 4) B 4 (by decide +kernel) rfl ?_
      refine aw_cVI B (c_X3_oddsOf (eLa E) hG (M.1 30 v3.toNatClampNeg) (M.1 30 v8.toNatClampNeg) v4 M) cvX3_92 rfl rfl (Nat.le_of_ble_eq_true rfl) rfl (Nat.le_of_ble_eq_true rfl) (by decide +kernel) rfl (fun x1 M2 => ?_)
      refine aw_i2l B (by decide +kernel) ?_
      refine aw_lmul B (by decide +kernel) ?_
      refine aw_ladd B (by decide +kernel) ?_
      refine aw_ltJ (fun x3 => ?_)
      refine aw_lstore (i := 6) B [(6, .long x3), (0, .ref 28), (1, .ref 22), (2, .ref 1), (3, .int v3), (4, .int v4), (5, .int v5), (8, .int v8)] (by decide +kernel) (Nat.le_of_ble_eq_true rfl) rfl ?_
      refine aw_iinc (i := 8) (n := 1) B 7 [(8, .int (v8 + 1)), (6, .long x3), (0, .ref 28), (1, .ref 22), (2, .ref 1), (3, .int v3), (4, .int v4), (5, .int v5)] (by decide +kernel) rfl (Nat.le_of_ble_eq_true rfl) (v8 + 1) (ab_inc (by decide)) rfl ?_
      refine aw_goto (off := -56) B 18 (by decide +kernel) (by decide) ?_
      exact aw_sub [2, 3, 4, 5, 6, 7, 1, 0] rfl (ih _ _ _ _ _ _)
def f_X3_beatingRivals (v3 : Int32) (v4 : Int32) (M : Mem) : Option (Int64 × Mem) := lt (ab_shl ((ab_shr v3 v4) ^^^ (1 : Int32)) v4) fun x1 => f_X3_beatingRivals_L18 FU v3 v4 x1 (0 : Int64) x1 M
set_option maxRecDepth 100000 in
set_option maxHeartbeats 4000000 in
theorem w_X3_beatingRivals {G : GW} {E : EE} (hG : ab_ok G) (B : Bx G E RX3 cX3_beatingRivals 9 6 (some .long)) (v3 : Int32) (v4 : Int32) (M : Mem) : AWo G E cX3_beatingRivals 9 (ab_Q G E embJ) 0 [(0, .ref 28), (1, .ref 22), (2, .ref 1), (3, .int v3), (4, .int v4)] [] M (f_X3_beatingRivals v3 v4 M) := by
  unfold f_X3_beatingRivals
  refine aw_iload_n (k0 := 3) B 3 (by decide +kernel) rfl rfl ?_
  refine aw_iload (i := 4) B 4 (by decide +kernel) rfl ?_
  refine aw_ishr B (by decide +kernel) ?_
  refine aw_iconst (n := 1) (v := (1 : Int32)) B (by decide +kernel) (by decide) ?_
  refine aw_ixor B (by decide +kernel) ?_
  refine aw_iload (i := 4) B 4 (by decide +kernel) rfl ?_
  refine aw_ishl B (by decide +kernel) ?_
  refine aw_ltI (fun x1 => ?_)
  refine aw_istore (i := 5) B [(5, .int x1), (0, .ref 28), (1, .ref 22), (2, .ref 1), (3, .int v3), (4, .int v4)] (by decide +kernel) (Nat.le_of_ble_eq_true rfl) rfl ?_
  refine aw_lconst (n := 0) (v := (0 : Int64)) B (by decide +kernel) (by decide) ?_
  refine aw_lstore (i := 6) B [(6, .long (0 : Int64)), (5, .int x1), (0, .ref 28), (1, .ref 22), (2, .ref 1), (3, .int v3), (4, .int v4)] (by decide +kernel) (Nat.le_of_ble_eq_true rfl) rfl ?_
  refine aw_iload (i := 5) B 1 (by decide +kernel) rfl ?_
  refine aw_istore (i := 8) B [(8, .int x1), (6, .long (0 : Int64)), (5, .int x1), (0, .ref 28), (1, .ref 22), (2, .ref 1), (3, .int v3), (4, .int v4)] (by decide +kernel) (Nat.le_of_ble_eq_true rfl) rfl ?_
  exact aw_sub [3, 4, 5, 6, 7, 2, 1, 0] rfl (w_X3_beatingRivals_L18 hG B FU _ _ _ _ _ _)
theorem c_X3_beatingRivals (l : Launch) {G : GW} (hG : ab_ok G) (v3 : Int32) (v4 : Int32) (M : Mem) : AC l G yX3_beatingRivals cX3_beatingRivals 9 (some .long) 6 [.ref 28, .ref 22, .ref 1, .int v3, .int v4] M embJ (f_X3_beatingRivals v3 v4 M) := AC.of hG (by decide) (Nat.le_of_ble_eq_true rfl) (fun E hE B => by subst hE; exact w_X3_beatingRivals hG B v3 v4 M)
def f_X3_weigh_L24 (k13 : Int32 → Mem → Option Mem) : Nat → Int32 → Int32 → Mem → Option Mem
  | 0, _, _, _ => none
  | n + 1, v3, v4, M => (if (M.1 28 0) ≤ v4 then k13 (v3 + 1) M else ck (okL 33 ((v3 * (8 : Int32)) + v4)) (bI (f_X3_beatingRivals v4 v3 M) fun x1 M2 => ck (okL 33 (((v3 + (1 : Int32)) * (8 : Int32)) + v4)) (lt (wL M2 33 (((v3 + (1 : Int32)) * (8 : Int32)) + v4).toNatClampNeg ((M.2.1 33 ((v3 * (8 : Int32)) + v4).toNatClampNeg) * x1)) fun M3 => f_X3_weigh_L24 k13 n v3 (v4 + 1) M3)))
set_option maxRecDepth 100000 in
set_option maxHeartbeats 4000000 in
theorem w_X3_weigh_L24 {G : GW} {E : EE} (hG : ab_ok G) {k13 : Int32 → Mem → Option Mem} (B : Bx G E RX3 cX3_weigh 5 7 none) (hk13 : ∀ (v3 : Int32) (M : Mem), AWo G E cX3_weigh 5 (ab_Q G E embV) 13 [(0, .ref 28), (1, .ref 22), (2, .ref 1), (3, .int v3)] [] M (k13 v3 M)) : ∀ (n : Nat) (v3 : Int32) (v4 : Int32) (M : Mem), AWo G E cX3_weigh 5 (ab_Q G E embV) 24 [(0, .ref 28), (1, .ref 22), (2, .ref 1), (3, .int v3), (4, .int v4)] [] M (f_X3_weigh_L24 k13 n v3 v4 M) := by
  intro n
  induction n with
  | zero => intro _ _ _; exact aw_none
  | succ n ih =>
    intro v3 v4 M
    rw [f_X3_weigh_L24]
    refine aw_iload (i := 4) B 4 (by decide +kernel) rfl ?_
    refine aw_aload_n (k0 := 0) B 0 (by decide +kernel) rfl rfl ?_
    refine aw_geti (c := 28) B lkX3_28 (by decide +kernel) rfl ?_
    refine aw_icmp_ge (off := 45) B 75 (by decide +kernel) (by decide) (fun _ => ?_) (fun _ => ?_)
    · refine aw_iinc (i := 3) (n := 1) B 3 [(3, .int (v3 + 1)), (0, .ref 28), (1, .ref 22), (2, .ref 1), (4, .int v4)] (by decide +kernel) rfl (Nat.le_of_ble_eq_true rfl) (v3 + 1) (ab_inc (by decide)) rfl ?_
      refine aw_goto (off := -65) B 13 (by decide +kernel) (by decide) ?_
      exact aw_sub [1, 2, 3, 0] rfl (hk13 _ _)
    · refine aw_aload_n (k0 := 0) B 0 (by decide +kernel) rfl rfl ?_
      refine aw_getr (c := 28) B lkX3_24 (by decide +kernel) rfl (r := 33) rfl ?_
      refine aw_iload_n (k0 := 3) B 3 (by decide +kernel) rfl rfl ?_
      refine aw_iconst (n := 1) (v := (1 : Int32)) B (by decide +kernel) (by decide) ?_
      refine aw_iadd B (by decide +kernel) ?_
      refine aw_bipush (n := 8) (v := (8 : Int32)) B (by decide +kernel) (by decide) ?_
      refine aw_imul B (by decide +kernel) ?_
      refine aw_iload (i := 4) B 4 (by decide +kernel) rfl ?_
      refine aw_iadd B (by decide +kernel) ?_
      refine aw_aload_n (k0 := 0) B 0 (by decide +kernel) rfl rfl ?_
      refine aw_getr (c := 28) B lkX3_24 (by decide +kernel) rfl (r := 33) rfl ?_
      refine aw_iload_n (k0 := 3) B 3 (by decide +kernel) rfl rfl ?_
      refine aw_bipush (n := 8) (v := (8 : Int32)) B (by decide +kernel) (by decide) ?_
      refine aw_imul B (by decide +kernel) ?_
      refine aw_iload (i := 4) B 4 (by decide +kernel) rfl ?_
      refine aw_iadd B (by decide +kernel) ?_
      refine aw_laload B (by decide +kernel) ?_
      refine aw_aload_n (k0 := 0) B 0 (by decide +kernel) rfl rfl ?_
      refine aw_aload_n (k0 := 1) B 1 (by decide +kernel) rfl rfl ?_
      refine aw_aload_n (k0 := 2) B 2 (by decide +kernel) rfl rfl ?_
      refine aw_iload (i := 4) B 4 (by decide +kernel) rfl ?_
      refine aw_iload_n (k0 := 3) B 3 (by decide +kernel) rfl rfl ?_
      refine aw_cVJ B (c_X3_beatingRivals (eLa E) hG v4 v3 M) cvX3_88 rfl rfl (Nat.le_of_ble_eq_true rfl) rfl (Nat.le_of_ble_eq_true rfl) (by decide +kernel) rfl (fun x1 M2 => ?_)
      refine aw_lmul B (by decide +kernel) ?_
      refine aw_lastore B (by decide +kernel) (fun M3 => ?_)
      refine aw_iinc (i := 4) (n := 1) B 4 [(4, .int (v4 + 1)), (0, .ref 28), (1, .ref 22), (2, .ref 1), (3, .int v3)] (by decide +kernel) rfl (Nat.le_of_ble_eq_true rfl) (v4 + 1) (ab_inc (by decide)) rfl ?_
      refine aw_goto (off := -48) B 24 (by decide +kernel) (by decide) ?_
      exact aw_sub [1, 2, 3, 4, 0] rfl (ih _ _ _)
def f_X3_weigh_L13 : Nat → Int32 → Mem → Option Mem
  | 0, _, _ => none
  | n + 1, v3, M => (f_X3_rounds M).bind fun x1 => (if x1 ≤ v3 then (some M) else f_X3_weigh_L24 (fun a0 a1 => f_X3_weigh_L13 n a0 a1) FU v3 (0 : Int32) M)
set_option maxRecDepth 100000 in
set_option maxHeartbeats 4000000 in
theorem w_X3_weigh_L13 {G : GW} {E : EE} (hG : ab_ok G) (B : Bx G E RX3 cX3_weigh 5 7 none) : ∀ (n : Nat) (v3 : Int32) (M : Mem), AWo G E cX3_weigh 5 (ab_Q G E embV) 13 [(0, .ref 28), (1, .ref 22), (2, .ref 1), (3, .int v3)] [] M (f_X3_weigh_L13 n v3 M) := by
  intro n
  induction n with
  | zero => intro _ _; exact aw_none
  | succ n ih =>
    intro v3 M
    rw [f_X3_weigh_L13]
    refine aw_iload_n (k0 := 3) B 3 (by decide +kernel) rfl rfl ?_
    refine aw_aload_n (k0 := 0) B 0 (by decide +kernel) rfl rfl ?_
    refine aw_cVR B (c_X3_rounds (eLa E) hG M) cvX3_54 rfl rfl (Nat.le_of_ble_eq_true rfl) rfl (Nat.le_of_ble_eq_true rfl) (by decide +kernel) rfl (fun x1 => ?_)
    refine aw_icmp_ge (off := 63) B 81 (by decide +kernel) (by decide) (fun _ => ?_) (fun _ => ?_)
    · exact aw_vreturn B (by decide +kernel) rfl
    · refine aw_iconst (n := 0) (v := (0 : Int32)) B (by decide +kernel) (by decide) ?_
      refine aw_istore (i := 4) B [(4, .int (0 : Int32)), (0, .ref 28), (1, .ref 22), (2, .ref 1), (3, .int v3)] (by decide +kernel) (Nat.le_of_ble_eq_true rfl) rfl ?_
      exact aw_sub [1, 2, 3, 4, 0] rfl (w_X3_weigh_L24 hG B ih FU _ _ _)
def f_X3_weigh (M : Mem) : Option Mem := (f_J7_fill_bad5a 33 (0 : Int32) (8 : Int32) (1 : Int64) M).bind fun M2 => f_X3_weigh_L13 FU (0 : Int32) M2
set_option maxRecDepth 100000 in
set_option maxHeartbeats 4000000 in
theorem w_X3_weigh {G : GW} {E : EE} (hG : ab_ok G) (B : Bx G E RX3 cX3_weigh 5 7 none) (M : Mem) : AWo G E cX3_weigh 5 (ab_Q G E embV) 0 [(0, .ref 28), (1, .ref 22), (2, .ref 1)] [] M (f_X3_weigh M) := by
  unfold f_X3_weigh
  refine aw_aload_n (k0 := 0) B 0 (by decide +kernel) rfl rfl ?_
  refine aw_getr (c := 28) B lkX3_24 (by decide +kernel) rfl (r := 33) rfl ?_
  refine aw_iconst (n := 0) (v := (0 : Int32)) B (by decide +kernel) (by decide) ?_
  refine aw_bipush (n := 8) (v := (8 : Int32)) B (by decide +kernel) (by decide) ?_
  refine aw_lconst (n := 1) (v := (1 : Int64)) B (by decide +kernel) (by decide) ?_
  refine aw_cSV B (c_J7_fill_bad5a (eLa E) hG 33 (0 : Int32) (8 : Int32) (1 : Int64) M) csX3_85 (Nat.le_of_ble_eq_true rfl) rfl (Nat.le_of_ble_eq_true rfl) (by decide +kernel) rfl (fun M2 => ?_)
  refine aw_iconst (n := 0) (v := (0 : Int32)) B (by decide +kernel) (by decide) ?_
  refine aw_istore_n (k0 := 3) B [(3, .int (0 : Int32)), (0, .ref 28), (1, .ref 22), (2, .ref 1)] (by decide +kernel) rfl (Nat.le_of_ble_eq_true rfl) rfl ?_
  exact aw_sub [1, 2, 3, 0] rfl (w_X3_weigh_L13 hG B FU _ _)
theorem c_X3_weigh (l : Launch) {G : GW} (hG : ab_ok G) (M : Mem) : AC l G yX3_weigh cX3_weigh 5 none 7 [.ref 28, .ref 22, .ref 1] M embV (f_X3_weigh M) := AC.of hG (by decide) (Nat.le_of_ble_eq_true rfl) (fun E hE B => by subst hE; exact w_X3_weigh hG B M)
def f_X3_roundFor (v1 : Int32) (M : Mem) : Option Int32 := (if v1 = (0 : Int32) then (f_X3_rounds M).bind fun x1 => (some x1) else if v1 = (1 : Int32) then (f_X3_rounds M).bind fun x3 => (some (x3 - (1 : Int32))) else (some (1 : Int32)))
set_option maxRecDepth 100000 in
set_option maxHeartbeats 4000000 in
theorem w_X3_roundFor {G : GW} {E : EE} (hG : ab_ok G) (B : Bx G E RX3 cX3_roundFor 2 3 (some .int)) (v1 : Int32) (M : Mem) : AWo G E cX3_roundFor 2 (ab_Q G E (embRI M)) 0 [(0, .ref 28), (1, .int v1)] [] M (f_X3_roundFor v1 M) := by
  unfold f_X3_roundFor
  refine aw_iload_n (k0 := 1) B 1 (by decide +kernel) rfl rfl ?_
  refine aw_ite (fun h1_0 => ?_) (fun h1_0 => ?_)
  · refine aw_lkpK (k0 := (0 : Int32)) (dflt := 39) (ps := #[(0, 27), (1, 32)]) (len := 27) (off := 27) B 28 (by decide +kernel) (by decide +kernel) h1_0 (by decide +kernel) (by decide) ?_
    refine aw_aload_n (k0 := 0) B 0 (by decide +kernel) rfl rfl ?_
    refine aw_cVR B (c_X3_rounds (eLa E) hG M) cvX3_54 rfl rfl (Nat.le_of_ble_eq_true rfl) rfl (Nat.le_of_ble_eq_true rfl) (by decide +kernel) rfl (fun x1 => ?_)
    exact aw_ireturn B (by decide +kernel) rfl
  refine aw_ite (fun h1_1 => ?_) (fun h1_1 => ?_)
  · refine aw_lkpK (k0 := (1 : Int32)) (dflt := 39) (ps := #[(0, 27), (1, 32)]) (len := 27) (off := 32) B 33 (by decide +kernel) (by decide +kernel) h1_1 (by decide +kernel) (by decide) ?_
    refine aw_aload_n (k0 := 0) B 0 (by decide +kernel) rfl rfl ?_
    refine aw_cVR B (c_X3_rounds (eLa E) hG M) cvX3_54 rfl rfl (Nat.le_of_ble_eq_true rfl) rfl (Nat.le_of_ble_eq_true rfl) (by decide +kernel) rfl (fun x3 => ?_)
    refine aw_iconst (n := 1) (v := (1 : Int32)) B (by decide +kernel) (by decide) ?_
    refine aw_isub B (by decide +kernel) ?_
    exact aw_ireturn B (by decide +kernel) rfl
  · refine aw_lkp (dflt := 39) (ps := #[(0, 27), (1, 32)]) (len := 27) (off := 39) B 40 (by decide +kernel) (by decide +kernel) ((lv_osw h1_0 (by decide)).trans ((lv_osw h1_1 (by decide)).trans (rfl))) (by decide) ?_
    refine aw_iconst (n := 1) (v := (1 : Int32)) B (by decide +kernel) (by decide) ?_
    exact aw_ireturn B (by decide +kernel) rfl
theorem c_X3_roundFor (l : Launch) {G : GW} (hG : ab_ok G) (v1 : Int32) (M : Mem) : AC l G yX3_roundFor cX3_roundFor 2 (some .int) 3 [.ref 28, .int v1] M (embRI M) (f_X3_roundFor v1 M) := AC.of hG (by decide) (Nat.le_of_ble_eq_true rfl) (fun E hE B => by subst hE; exact w_X3_roundFor hG B v1 M)
def f_X3_seatOf_28_30_L2 (M : Mem) : Nat → Int32 → Int32 → Option Int32
  | 0, _, _ => none
  | n + 1, v2, v3 => (if (M.1 28 0) ≤ v3 then (some (-1 : Int32)) else ck (okI 30 v3) ((if (M.1 30 v3.toNatClampNeg) = v2 then (some v3) else f_X3_seatOf_28_30_L2 M n v2 (v3 + 1))))
set_option maxRecDepth 100000 in
set_option maxHeartbeats 4000000 in
theorem w_X3_seatOf_28_30_L2 {G : GW} {E : EE} (hG : ab_ok G) (M : Mem) (B : Bx G E RX3 cX3_seatOf 4 2 (some .int)) : ∀ (n : Nat) (v2 : Int32) (v3 : Int32), AWo G E cX3_seatOf 4 (ab_Q G E (embRI M)) 2 [(0, .ref 28), (1, .ref 30), (2, .int v2), (3, .int v3)] [] M (f_X3_seatOf_28_30_L2 M n v2 v3) := by
  intro n
  induction n with
  | zero => intro _ _; exact aw_none
  | succ n ih =>
    intro v2 v3
    rw [f_X3_seatOf_28_30_L2]
    refine aw_iload_n (k0 := 3) B 3 (by decide +kernel) rfl rfl ?_
    refine aw_aload_n (k0 := 0) B 0 (by decide +kernel) rfl rfl ?_
    refine aw_geti (c := 28) B lkX3_28 (by decide +kernel) rfl ?_
    refine aw_icmp_ge (off := 18) B 25 (by decide +kernel) (by decide) (fun _ => ?_) (fun _ => ?_)
    · refine aw_iconst (n := -1) (v := (-1 : Int32)) B (by decide +kernel) (by decide) ?_
      exact aw_ireturn B (by decide +kernel) rfl
    · refine aw_aload_n (k0 := 1) B 1 (by decide +kernel) rfl rfl ?_
      refine aw_iload_n (k0 := 3) B 3 (by decide +kernel) rfl rfl ?_
      refine aw_iaload B (by decide +kernel) ?_
      refine aw_iload_n (k0 := 2) B 2 (by decide +kernel) rfl rfl ?_
      refine aw_icmp_ne (off := 5) B 19 (by decide +kernel) (by decide) (fun _ => ?_) (fun _ => ?_)
      · refine aw_iinc (i := 3) (n := 1) B 3 [(3, .int (v3 + 1)), (0, .ref 28), (1, .ref 30), (2, .int v2)] (by decide +kernel) rfl (Nat.le_of_ble_eq_true rfl) (v3 + 1) (ab_inc (by decide)) rfl ?_
        refine aw_goto (off := -20) B 2 (by decide +kernel) (by decide) ?_
        exact aw_sub [1, 2, 3, 0] rfl (ih _ _)
      · refine aw_iload_n (k0 := 3) B 3 (by decide +kernel) rfl rfl ?_
        exact aw_ireturn B (by decide +kernel) rfl
def f_X3_seatOf_28_30 (v2 : Int32) (M : Mem) : Option Int32 := f_X3_seatOf_28_30_L2 M FU v2 (0 : Int32)
set_option maxRecDepth 100000 in
set_option maxHeartbeats 4000000 in
theorem w_X3_seatOf_28_30 {G : GW} {E : EE} (hG : ab_ok G) (B : Bx G E RX3 cX3_seatOf 4 2 (some .int)) (v2 : Int32) (M : Mem) : AWo G E cX3_seatOf 4 (ab_Q G E (embRI M)) 0 [(0, .ref 28), (1, .ref 30), (2, .int v2)] [] M (f_X3_seatOf_28_30 v2 M) := by
  unfold f_X3_seatOf_28_30
  refine aw_iconst (n := 0) (v := (0 : Int32)) B (by decide +kernel) (by decide) ?_
  refine aw_istore_n (k0 := 3) B [(3, .int (0 : Int32)), (0, .ref 28), (1, .ref 30), (2, .int v2)] (by decide +kernel) rfl (Nat.le_of_ble_eq_true rfl) rfl ?_
  exact aw_sub [1, 2, 3, 0] rfl (w_X3_seatOf_28_30_L2 hG M B FU _ _)
theorem c_X3_seatOf_28_30 (l : Launch) {G : GW} (hG : ab_ok G) (v2 : Int32) (M : Mem) : AC l G yX3_seatOf cX3_seatOf 4 (some .int) 2 [.ref 28, .ref 30, .int v2] M (embRI M) (f_X3_seatOf_28_30 v2 M) := AC.of hG (by decide) (Nat.le_of_ble_eq_true rfl) (fun E hE B => by subst hE; exact w_X3_seatOf_28_30 hG B v2 M)
def f_X3_partsInAll (v1 : Int32) (M : Mem) : Option Int64 := (f_X3_roundFor v1 M).bind fun x1 => ck (okSL x1) ((some (ab_stL.getD x1.toNatClampNeg 0)))
set_option maxRecDepth 100000 in
set_option maxHeartbeats 4000000 in
theorem w_X3_partsInAll {G : GW} {E : EE} (hG : ab_ok G) (B : Bx G E RX3 cX3_partsInAll 2 4 (some .long)) (v1 : Int32) (M : Mem) : AWo G E cX3_partsInAll 2 (ab_Q G E (embRJ M)) 0 [(0, .ref 28), (1, .int v1)] [] M (f_X3_partsInAll v1 M) := by
  unfold f_X3_partsInAll
  refine aw_gets2 B lxX3_58 (by decide +kernel) ?_
  refine aw_aload_n (k0 := 0) B 0 (by decide +kernel) rfl rfl ?_
  refine aw_iload_n (k0 := 1) B 1 (by decide +kernel) rfl rfl ?_
  refine aw_cVR B (c_X3_roundFor (eLa E) hG v1 M) cvX3_61 rfl rfl (Nat.le_of_ble_eq_true rfl) rfl (Nat.le_of_ble_eq_true rfl) (by decide +kernel) rfl (fun x1 => ?_)
  refine aw_sld2 B (by decide +kernel) ?_
  exact aw_lreturn B (by decide +kernel) rfl
theorem c_X3_partsInAll (l : Launch) {G : GW} (hG : ab_ok G) (v1 : Int32) (M : Mem) : AC l G yX3_partsInAll cX3_partsInAll 2 (some .long) 4 [.ref 28, .int v1] M (embRJ M) (f_X3_partsInAll v1 M) := AC.of hG (by decide) (Nat.le_of_ble_eq_true rfl) (fun E hE B => by subst hE; exact w_X3_partsInAll hG B v1 M)
def f_X3_partsFor (v3 : Int32) (v4 : Int32) (M : Mem) : Option (Int64 × Mem) := (f_X3_forgetOdds M).bind fun M2 => (f_X3_sitDown M2).bind fun M4 => (f_X3_weigh M4).bind fun M6 => (f_X3_roundFor v4 M6).bind fun x7 => (f_X3_seatOf_28_30 v3 M6).bind fun x9 => ck (okL 33 ((x7 * (8 : Int32)) + (ab_max (0 : Int32) x9))) (lt (M6.2.1 33 ((x7 * (8 : Int32)) + (ab_max (0 : Int32) x9)).toNatClampNeg) fun x11 => (if v4 = (2 : Int32) then (f_X3_partsInAll v4 M6).bind fun x12 => (some (x12 - x11, M6)) else (some (x11, M6))))
set_option maxRecDepth 100000 in
set_option maxHeartbeats 4000000 in
theorem w_X3_partsFor {G : GW} {E : EE} (hG : ab_ok G) (B : Bx G E RX3 cX3_partsFor 7 8 (some .long)) (v3 : Int32) (v4 : Int32) (M : Mem) : AWo G E cX3_partsFor 7 (ab_Q G E embJ) 0 [(0, .ref 28), (1, .ref 22), (2, .ref 1), (3, .int v3), (4, .int v4)] [] M (f_X3_partsFor v3 v4 M) := by
  unfold f_X3_partsFor
  refine aw_aload_n (k0 := 0) B 0 (by decide +kernel) rfl rfl ?_
  refine aw_cVV B (c_X3_forgetOdds (eLa E) hG M) cvX3_65 rfl rfl (Nat.le_of_ble_eq_true rfl) rfl (Nat.le_of_ble_eq_true rfl) (by decide +kernel) rfl (fun M2 => ?_)
  refine aw_aload_n (k0 := 0) B 0 (by decide +kernel) rfl rfl ?_
  refine aw_cVV B (c_X3_sitDown (eLa E) hG M2) cvX3_68 rfl rfl (Nat.le_of_ble_eq_true rfl) rfl (Nat.le_of_ble_eq_true rfl) (by decide +kernel) rfl (fun M4 => ?_)
  refine aw_aload_n (k0 := 0) B 0 (by decide +kernel) rfl rfl ?_
  refine aw_aload_n (k0 := 1) B 1 (by decide +kernel) rfl rfl ?_
  refine aw_aload_n (k0 := 2) B 2 (by decide +kernel) rfl rfl ?_
  refine aw_cVV B (c_X3_weigh (eLa E) hG M4) cvX3_71 rfl rfl (Nat.le_of_ble_eq_true rfl) rfl (Nat.le_of_ble_eq_true rfl) (by decide +kernel) rfl (fun M6 => ?_)
  refine aw_aload_n (k0 := 0) B 0 (by decide +kernel) rfl rfl ?_
  refine aw_getr (c := 28) B lkX3_24 (by decide +kernel) rfl (r := 33) rfl ?_
  refine aw_aload_n (k0 := 0) B 0 (by decide +kernel) rfl rfl ?_
  refine aw_iload (i := 4) B 4 (by decide +kernel) rfl ?_
  refine aw_cVR B (c_X3_roundFor (eLa E) hG v4 M6) cvX3_61 rfl rfl (Nat.le_of_ble_eq_true rfl) rfl (Nat.le_of_ble_eq_true rfl) (by decide +kernel) rfl (fun x7 => ?_)
  refine aw_bipush (n := 8) (v := (8 : Int32)) B (by decide +kernel) (by decide) ?_
  refine aw_imul B (by decide +kernel) ?_
  refine aw_iconst (n := 0) (v := (0 : Int32)) B (by decide +kernel) (by decide) ?_
  refine aw_aload_n (k0 := 0) B 0 (by decide +kernel) rfl rfl ?_
  refine aw_aload_n (k0 := 0) B 0 (by decide +kernel) rfl rfl ?_
  refine aw_getr (c := 28) B lkX3_15 (by decide +kernel) rfl (r := 30) rfl ?_
  refine aw_iload_n (k0 := 3) B 3 (by decide +kernel) rfl rfl ?_
  refine aw_cVR B (c_X3_seatOf_28_30 (eLa E) hG v3 M6) cvX3_32 rfl rfl (Nat.le_of_ble_eq_true rfl) rfl (Nat.le_of_ble_eq_true rfl) (by decide +kernel) rfl (fun x9 => ?_)
  refine aw_max B lxX3_75 (by decide +kernel) (Nat.le_of_ble_eq_true rfl) (Nat.le_of_ble_eq_true rfl) ?_
  refine aw_iadd B (by decide +kernel) ?_
  refine aw_laload B (by decide +kernel) ?_
  refine aw_ltJ (fun x11 => ?_)
  refine aw_lstore (i := 5) B [(5, .long x11), (0, .ref 28), (1, .ref 22), (2, .ref 1), (3, .int v3), (4, .int v4)] (by decide +kernel) (Nat.le_of_ble_eq_true rfl) rfl ?_
  refine aw_iload (i := 4) B 5 (by decide +kernel) rfl ?_
  refine aw_iconst (n := 2) (v := (2 : Int32)) B (by decide +kernel) (by decide) ?_
  refine aw_icmp_ne (off := 15) B 62 (by decide +kernel) (by decide) (fun _ => ?_) (fun _ => ?_)
  · refine aw_lload (i := 5) B 0 (by decide +kernel) rfl ?_
    exact aw_lreturn B (by decide +kernel) rfl
  · refine aw_aload_n (k0 := 0) B 1 (by decide +kernel) rfl rfl ?_
    refine aw_iload (i := 4) B 5 (by decide +kernel) rfl ?_
    refine aw_cVL B (c_X3_partsInAll (eLa E) hG v4 M6) cvX3_81 rfl rfl (Nat.le_of_ble_eq_true rfl) rfl (Nat.le_of_ble_eq_true rfl) (by decide +kernel) rfl (fun x12 => ?_)
    refine aw_lload (i := 5) B 0 (by decide +kernel) rfl ?_
    refine aw_lsub B (by decide +kernel) ?_
    refine aw_goto (off := 5) B 64 (by decide +kernel) (by decide) ?_
    exact aw_lreturn B (by decide +kernel) rfl
theorem c_X3_partsFor (l : Launch) {G : GW} (hG : ab_ok G) (v3 : Int32) (v4 : Int32) (M : Mem) : AC l G yX3_partsFor cX3_partsFor 7 (some .long) 8 [.ref 28, .ref 22, .ref 1, .int v3, .int v4] M embJ (f_X3_partsFor v3 v4 M) := AC.of hG (by decide) (Nat.le_of_ble_eq_true rfl) (fun E hE B => by subst hE; exact w_X3_partsFor hG B v3 v4 M)
def f_X10_likely_b29 (M : Mem) : Option (Int64 × Mem) := (some ((-9223372036854775808 : Int64), M))
set_option maxRecDepth 100000 in
set_option maxHeartbeats 4000000 in
theorem w_X10_likely_b29 {G : GW} {E : EE} (hG : ab_ok G) (B : Bx G E RX10 cX10_likely 6 9 (some .long)) (M : Mem) : AWo G E cX10_likely 6 (ab_Q G E embJ) 29 [] [] M (f_X10_likely_b29 M) := by
  unfold f_X10_likely_b29
  refine aw_ldc2 B (by decide +kernel) lwX10_276 ?_
  exact aw_lreturn B (by decide +kernel) rfl
def f_X10_likely (v1 : Int32) (v2 : Int32) (v3 : Int32) (M : Mem) : Option (Int64 × Mem) := (f_X3_has v1 M).bind fun x1 => (if x1 = 0 then f_X10_likely_b29 M else (if v2 < 0 then f_X10_likely_b29 M else (if (2 : Int32) < v2 then f_X10_likely_b29 M else (if v3 < 0 then f_X10_likely_b29 M else (if v3 ≤ (1 : Int32) then (f_X3_isWhole M).bind fun x3 => (if x3 = 0 then (some ((-9223372036854775808 : Int64), M)) else bI (f_X3_partsFor v1 v2 M) fun x5 M6 => (f_X3_partsInAll v2 M6).bind fun x7 => (f_X10_lowest x5 x7 v3).bind fun x9 => (some (x9, M6))) else f_X10_likely_b29 M)))))
set_option maxRecDepth 100000 in
set_option maxHeartbeats 4000000 in
theorem w_X10_likely {G : GW} {E : EE} (hG : ab_ok G) (B : Bx G E RX10 cX10_likely 6 9 (some .long)) (v1 : Int32) (v2 : Int32) (v3 : Int32) (M : Mem) : AWo G E cX10_likely 6 (ab_Q G E embJ) 0 [(0, .ref 0), (1, .int v1), (2, .int v2), (3, .int v3)] [] M (f_X10_likely v1 v2 v3 M) := by
  unfold f_X10_likely
  refine aw_aload_n (k0 := 0) B 0 (by decide +kernel) rfl rfl ?_
  refine aw_getr (c := 0) B lkX10_54 (by decide +kernel) rfl (r := 28) rfl ?_
  refine aw_iload_n (k0 := 1) B 1 (by decide +kernel) rfl rfl ?_
  refine aw_cVR B (c_X3_has (eLa E) hG v1 M) cvX10_269 rfl rfl (Nat.le_of_ble_eq_true rfl) rfl (Nat.le_of_ble_eq_true rfl) (by decide +kernel) rfl (fun x1 => ?_)
  refine aw_if_eq (off := 21) B 29 (by decide +kernel) (by decide) (fun _ => ?_) (fun _ => ?_)
  · exact aw_sub [] rfl (w_X10_likely_b29 hG B _)
  · refine aw_iload_n (k0 := 2) B 2 (by decide +kernel) rfl rfl ?_
    refine aw_if_lt (off := 17) B 29 (by decide +kernel) (by decide) (fun _ => ?_) (fun _ => ?_)
    · exact aw_sub [] rfl (w_X10_likely_b29 hG B _)
    · refine aw_iload_n (k0 := 2) B 2 (by decide +kernel) rfl rfl ?_
      refine aw_iconst (n := 2) (v := (2 : Int32)) B (by decide +kernel) (by decide) ?_
      refine aw_icmp_gt (off := 12) B 29 (by decide +kernel) (by decide) (fun _ => ?_) (fun _ => ?_)
      · exact aw_sub [] rfl (w_X10_likely_b29 hG B _)
      · refine aw_iload_n (k0 := 3) B 3 (by decide +kernel) rfl rfl ?_
        refine aw_if_lt (off := 8) B 29 (by decide +kernel) (by decide) (fun _ => ?_) (fun _ => ?_)
        · exact aw_sub [] rfl (w_X10_likely_b29 hG B _)
        · refine aw_iload_n (k0 := 3) B 3 (by decide +kernel) rfl rfl ?_
          refine aw_iconst (n := 1) (v := (1 : Int32)) B (by decide +kernel) (by decide) ?_
          refine aw_icmp_le (off := 7) B 33 (by decide +kernel) (by decide) (fun _ => ?_) (fun _ => ?_)
          · refine aw_aload_n (k0 := 0) B 0 (by decide +kernel) rfl rfl ?_
            refine aw_getr (c := 0) B lkX10_54 (by decide +kernel) rfl (r := 28) rfl ?_
            refine aw_cVR B (c_X3_isWhole (eLa E) hG M) cvX10_278 rfl rfl (Nat.le_of_ble_eq_true rfl) rfl (Nat.le_of_ble_eq_true rfl) (by decide +kernel) rfl (fun x3 => ?_)
            refine aw_if_ne (off := 7) B 47 (by decide +kernel) (by decide) (fun _ => ?_) (fun _ => ?_)
            · refine aw_aload_n (k0 := 0) B 0 (by decide +kernel) rfl rfl ?_
              refine aw_getr (c := 0) B lkX10_54 (by decide +kernel) rfl (r := 28) rfl ?_
              refine aw_aload_n (k0 := 0) B 0 (by decide +kernel) rfl rfl ?_
              refine aw_getr (c := 0) B lkX10_47 (by decide +kernel) rfl (r := 22) rfl ?_
              refine aw_aload_n (k0 := 0) B 0 (by decide +kernel) rfl rfl ?_
              refine aw_getr (c := 0) B lkX10_10 (by decide +kernel) rfl (r := 1) rfl ?_
              refine aw_iload_n (k0 := 1) B 1 (by decide +kernel) rfl rfl ?_
              refine aw_iload_n (k0 := 2) B 2 (by decide +kernel) rfl rfl ?_
              refine aw_cVJ B (c_X3_partsFor (eLa E) hG v1 v2 M) cvX10_281 rfl rfl (Nat.le_of_ble_eq_true rfl) rfl (Nat.le_of_ble_eq_true rfl) (by decide +kernel) rfl (fun x5 M6 => ?_)
              refine aw_lstore (i := 4) B [(4, .long x5), (0, .ref 0), (1, .int v1), (2, .int v2), (3, .int v3)] (by decide +kernel) (Nat.le_of_ble_eq_true rfl) rfl ?_
              refine aw_lload (i := 4) B 0 (by decide +kernel) rfl ?_
              refine aw_aload_n (k0 := 0) B 1 (by decide +kernel) rfl rfl ?_
              refine aw_getr (c := 0) B lkX10_54 (by decide +kernel) rfl (r := 28) rfl ?_
              refine aw_iload_n (k0 := 2) B 3 (by decide +kernel) rfl rfl ?_
              refine aw_cVL B (c_X3_partsInAll (eLa E) hG v2 M6) cvX10_285 rfl rfl (Nat.le_of_ble_eq_true rfl) rfl (Nat.le_of_ble_eq_true rfl) (by decide +kernel) rfl (fun x7 => ?_)
              refine aw_iload_n (k0 := 3) B 4 (by decide +kernel) rfl rfl ?_
              refine aw_cSL B (c_X10_lowest (eLa E) hG x5 x7 v3 M6) csX10_238 (Nat.le_of_ble_eq_true rfl) rfl (Nat.le_of_ble_eq_true rfl) (by decide +kernel) rfl (fun x9 => ?_)
              exact aw_lreturn B (by decide +kernel) rfl
            · refine aw_ldc2 B (by decide +kernel) lwX10_276 ?_
              exact aw_lreturn B (by decide +kernel) rfl
          · exact aw_sub [] rfl (w_X10_likely_b29 hG B _)
theorem c_X10_likely (l : Launch) {G : GW} (hG : ab_ok G) (v1 : Int32) (v2 : Int32) (v3 : Int32) (M : Mem) : AC l G yX10_likely cX10_likely 6 (some .long) 9 [.ref 0, .int v1, .int v2, .int v3] M embJ (f_X10_likely v1 v2 v3 M) := AC.of hG (by decide) (Nat.le_of_ble_eq_true rfl) (fun E hE B => by subst hE; exact w_X10_likely hG B v1 v2 v3 M)
def f_X11_isCup_b17 (M : Mem) : Option Int32 := (some (1 : Int32))
set_option maxRecDepth 100000 in
set_option maxHeartbeats 4000000 in
theorem w_X11_isCup_b17 {G : GW} {E : EE} (hG : ab_ok G) (M : Mem) (B : Bx G E RX11 cX11_isCup 1 2 (some .boolean))  : AWo G E cX11_isCup 1 (ab_Q G E (embRI M)) 17 [] [] M (f_X11_isCup_b17 M) := by
  unfold f_X11_isCup_b17
  refine aw_iconst (n := 1) (v := (1 : Int32)) B (by decide +kernel) (by decide) ?_
  refine aw_goto (off := 4) B 22 (by decide +kernel) (by decide) ?_
  exact aw_zreturnK B (by decide +kernel) rfl (by decide)
def f_X11_isCup (M : Mem) : Option Int32 := (if (M.1 47 34) = (4 : Int32) then f_X11_isCup_b17 M else (if (M.1 47 34) = (8 : Int32) then f_X11_isCup_b17 M else (some (0 : Int32))))
set_option maxRecDepth 100000 in
set_option maxHeartbeats 4000000 in
theorem w_X11_isCup {G : GW} {E : EE} (hG : ab_ok G) (B : Bx G E RX11 cX11_isCup 1 2 (some .boolean)) (M : Mem) : AWo G E cX11_isCup 1 (ab_Q G E (embRI M)) 0 [(0, .ref 47)] [] M (f_X11_isCup M) := by
  unfold f_X11_isCup
  refine aw_aload_n (k0 := 0) B 0 (by decide +kernel) rfl rfl ?_
  refine aw_geti (c := 47) B lkX11_285 (by decide +kernel) rfl ?_
  refine aw_iconst (n := 4) (v := (4 : Int32)) B (by decide +kernel) (by decide) ?_
  refine aw_icmp_eq (off := 12) B 17 (by decide +kernel) (by decide) (fun _ => ?_) (fun _ => ?_)
  · exact aw_sub [] rfl (w_X11_isCup_b17 hG M B)
  · refine aw_aload_n (k0 := 0) B 0 (by decide +kernel) rfl rfl ?_
    refine aw_geti (c := 47) B lkX11_285 (by decide +kernel) rfl ?_
    refine aw_bipush (n := 8) (v := (8 : Int32)) B (by decide +kernel) (by decide) ?_
    refine aw_icmp_ne (off := 7) B 21 (by decide +kernel) (by decide) (fun _ => ?_) (fun _ => ?_)
    · refine aw_iconst (n := 0) (v := (0 : Int32)) B (by decide +kernel) (by decide) ?_
      exact aw_zreturnK B (by decide +kernel) rfl (by decide)
    · exact aw_sub [] rfl (w_X11_isCup_b17 hG M B)
theorem c_X11_isCup (l : Launch) {G : GW} (hG : ab_ok G) (M : Mem) : AC l G yX11_isCup cX11_isCup 1 (some .boolean) 2 [.ref 47] M (embRI M) (f_X11_isCup M) := AC.of hG (by decide) (Nat.le_of_ble_eq_true rfl) (fun E hE B => by subst hE; exact w_X11_isCup hG B M)
def f_X11_linesUp_L2 : Nat → Int32 → Mem → Option Mem
  | 0, _, _ => none
  | n + 1, v1, M => (if (M.1 47 34) ≤ v1 then (some M) else ck (okI 65 v1) (ck (okI 66 v1) (lt (wI M 66 v1.toNatClampNeg (M.1 65 v1.toNatClampNeg)) fun M1 => f_X11_linesUp_L2 n (v1 + 1) M1)))
set_option maxRecDepth 100000 in
set_option maxHeartbeats 4000000 in
theorem w_X11_linesUp_L2 {G : GW} {E : EE} (hG : ab_ok G) (B : Bx G E RX11 cX11_linesUp 2 2 none) : ∀ (n : Nat) (v1 : Int32) (M : Mem), AWo G E cX11_linesUp 2 (ab_Q G E embV) 2 [(0, .ref 47), (1, .int v1)] [] M (f_X11_linesUp_L2 n v1 M) := by
  intro n
  induction n with
  | zero => intro _ _; exact aw_none
  | succ n ih =>
    intro v1 M
    rw [f_X11_linesUp_L2]
    refine aw_iload_n (k0 := 1) B 1 (by decide +kernel) rfl rfl ?_
    refine aw_aload_n (k0 := 0) B 0 (by decide +kernel) rfl rfl ?_
    refine aw_geti (c := 47) B lkX11_285 (by decide +kernel) rfl ?_
    refine aw_icmp_ge (off := 21) B 28 (by decide +kernel) (by decide) (fun _ => ?_) (fun _ => ?_)
    · exact aw_vreturn B (by decide +kernel) rfl
    · refine aw_aload_n (k0 := 0) B 0 (by decide +kernel) rfl rfl ?_
      refine aw_getr (c := 47) B lkX11_65 (by decide +kernel) rfl (r := 66) rfl ?_
      refine aw_iload_n (k0 := 1) B 1 (by decide +kernel) rfl rfl ?_
      refine aw_aload_n (k0 := 0) B 0 (by decide +kernel) rfl rfl ?_
      refine aw_getr (c := 47) B lkX11_62 (by decide +kernel) rfl (r := 65) rfl ?_
      refine aw_iload_n (k0 := 1) B 1 (by decide +kernel) rfl rfl ?_
      refine aw_iaload B (by decide +kernel) ?_
      refine aw_iastore B (by decide +kernel) (fun M1 => ?_)
      refine aw_iinc (i := 1) (n := 1) B 1 [(1, .int (v1 + 1)), (0, .ref 47)] (by decide +kernel) rfl (Nat.le_of_ble_eq_true rfl) (v1 + 1) (ab_inc (by decide)) rfl ?_
      refine aw_goto (off := -23) B 2 (by decide +kernel) (by decide) ?_
      exact aw_sub [1, 0] rfl (ih _ _)
def f_X11_linesUp (M : Mem) : Option Mem := f_X11_linesUp_L2 FU (0 : Int32) M
set_option maxRecDepth 100000 in
set_option maxHeartbeats 4000000 in
theorem w_X11_linesUp {G : GW} {E : EE} (hG : ab_ok G) (B : Bx G E RX11 cX11_linesUp 2 2 none) (M : Mem) : AWo G E cX11_linesUp 2 (ab_Q G E embV) 0 [(0, .ref 47)] [] M (f_X11_linesUp M) := by
  unfold f_X11_linesUp
  refine aw_iconst (n := 0) (v := (0 : Int32)) B (by decide +kernel) (by decide) ?_
  refine aw_istore_n (k0 := 1) B [(1, .int (0 : Int32)), (0, .ref 47)] (by decide +kernel) rfl (Nat.le_of_ble_eq_true rfl) rfl ?_
  exact aw_sub [1, 0] rfl (w_X11_linesUp_L2 hG B FU _ _)
theorem c_X11_linesUp (l : Launch) {G : GW} (hG : ab_ok G) (M : Mem) : AC l G yX11_linesUp cX11_linesUp 2 none 2 [.ref 47] M embV (f_X11_linesUp M) := AC.of hG (by decide) (Nat.le_of_ble_eq_true rfl) (fun E hE B => by subst hE; exact w_X11_linesUp hG B M)
def f_X11_goesCup_L166 (k136 : Int32 → Mem → Option Mem) : Nat → Int32 → Int32 → Int64 → Int32 → Mem → Option Mem
  | 0, _, _, _, _, _ => none
  | n + 1, v1, v2, v3, v5, M => (if (v2 + (4 : Int32)) ≤ v5 then ck (okL 68 v1) (ck (okL 69 v1) (lt (wL M 69 v1.toNatClampNeg ((M.2.1 68 v1.toNatClampNeg) * v3)) fun M1 => k136 (v1 + 1) M1)) else ck (okL 68 v5) (ck (okI 66 v1) (ck (okI 66 v5) (bI (f_X11_chanceOf FD (M.1 66 v1.toNatClampNeg) (M.1 66 v5.toNatClampNeg) (2 : Int32) M) fun x2 M3 => lt (v3 + ((M.2.1 68 v5.toNatClampNeg) * x2.toInt64)) fun x4 => f_X11_goesCup_L166 k136 n v1 v2 x4 (v5 + 1) M3))))
set_option maxRecDepth 100000 in
set_option maxHeartbeats 4000000 in
theorem w_X11_goesCup_L166 {G : GW} {E : EE} (hG : ab_ok G) {k136 : Int32 → Mem → Option Mem} (B : Bx G E RX11 cX11_goesCup 6 292 none) (hk136 : ∀ (v1 : Int32) (M : Mem), AWo G E cX11_goesCup 6 (ab_Q G E embV) 136 [(0, .ref 47), (1, .int v1)] [] M (k136 v1 M)) : ∀ (n : Nat) (v1 : Int32) (v2 : Int32) (v3 : Int64) (v5 : Int32) (M : Mem), AWo G E cX11_goesCup 6 (ab_Q G E embV) 166 [(0, .ref 47), (1, .int v1), (2, .int v2), (3, .long v3), (5, .int v5)] [] M (f_X11_goesCup_L166 k136 n v1 v2 v3 v5 M) := by
  intro n
  induction n with
  | zero => intro _ _ _ _ _; exact aw_none
  | succ n ih =>
    intro v1 v2 v3 v5 M
    rw [f_X11_goesCup_L166]
    refine aw_iload (i := 5) B 4 (by decide +kernel) rfl ?_
    refine aw_iload_n (k0 := 2) B 2 (by decide +kernel) rfl rfl ?_
    refine aw_iconst (n := 4) (v := (4 : Int32)) B (by decide +kernel) (by decide) ?_
    refine aw_iadd B (by decide +kernel) ?_
    refine aw_icmp_ge (off := 39) B 210 (by decide +kernel) (by decide) (fun _ => ?_) (fun _ => ?_)
    · refine aw_aload_n (k0 := 0) B 0 (by decide +kernel) rfl rfl ?_
      refine aw_getr (c := 47) B lkX11_75 (by decide +kernel) rfl (r := 69) rfl ?_
      refine aw_iload_n (k0 := 1) B 1 (by decide +kernel) rfl rfl ?_
      refine aw_aload_n (k0 := 0) B 0 (by decide +kernel) rfl rfl ?_
      refine aw_getr (c := 47) B lkX11_72 (by decide +kernel) rfl (r := 68) rfl ?_
      refine aw_iload_n (k0 := 1) B 1 (by decide +kernel) rfl rfl ?_
      refine aw_laload B (by decide +kernel) ?_
      refine aw_lload_n (k0 := 3) B 3 (by decide +kernel) rfl rfl ?_
      refine aw_lmul B (by decide +kernel) ?_
      refine aw_lastore B (by decide +kernel) (fun M1 => ?_)
      refine aw_iinc (i := 1) (n := 1) B 1 [(1, .int (v1 + 1)), (0, .ref 47), (2, .int v2), (3, .long v3), (5, .int v5)] (by decide +kernel) rfl (Nat.le_of_ble_eq_true rfl) (v1 + 1) (ab_inc (by decide)) rfl ?_
      refine aw_goto (off := -91) B 136 (by decide +kernel) (by decide) ?_
      exact aw_sub [1, 0] rfl (hk136 _ _)
    · refine aw_lload_n (k0 := 3) B 3 (by decide +kernel) rfl rfl ?_
      refine aw_aload_n (k0 := 0) B 0 (by decide +kernel) rfl rfl ?_
      refine aw_getr (c := 47) B lkX11_72 (by decide +kernel) rfl (r := 68) rfl ?_
      refine aw_iload (i := 5) B 4 (by decide +kernel) rfl ?_
      refine aw_laload B (by decide +kernel) ?_
      refine aw_aload_n (k0 := 0) B 0 (by decide +kernel) rfl rfl ?_
      refine aw_aload_n (k0 := 0) B 0 (by decide +kernel) rfl rfl ?_
      refine aw_getr (c := 47) B lkX11_65 (by decide +kernel) rfl (r := 66) rfl ?_
      refine aw_iload_n (k0 := 1) B 1 (by decide +kernel) rfl rfl ?_
      refine aw_iaload B (by decide +kernel) ?_
      refine aw_aload_n (k0 := 0) B 0 (by decide +kernel) rfl rfl ?_
      refine aw_getr (c := 47) B lkX11_65 (by decide +kernel) rfl (r := 66) rfl ?_
      refine aw_iload (i := 5) B 4 (by decide +kernel) rfl ?_
      refine aw_iaload B (by decide +kernel) ?_
      refine aw_iconst (n := 2) (v := (2 : Int32)) B (by decide +kernel) (by decide) ?_
      refine aw_cVI B (c_X11_chanceOf (eLa E) hG FD (M.1 66 v1.toNatClampNeg) (M.1 66 v5.toNatClampNeg) (2 : Int32) M) cvX11_213 rfl rfl (Nat.le_of_ble_eq_true rfl) rfl (Nat.le_of_ble_eq_true rfl) (by decide +kernel) rfl (fun x2 M3 => ?_)
      refine aw_i2l B (by decide +kernel) ?_
      refine aw_lmul B (by decide +kernel) ?_
      refine aw_ladd B (by decide +kernel) ?_
      refine aw_ltJ (fun x4 => ?_)
      refine aw_lstore_n (k0 := 3) B [(3, .long x4), (0, .ref 47), (1, .int v1), (2, .int v2), (5, .int v5)] (by decide +kernel) rfl (Nat.le_of_ble_eq_true rfl) rfl ?_
      refine aw_iinc (i := 5) (n := 1) B 4 [(5, .int (v5 + 1)), (3, .long x4), (0, .ref 47), (1, .int v1), (2, .int v2)] (by decide +kernel) rfl (Nat.le_of_ble_eq_true rfl) (v5 + 1) (ab_inc (by decide)) rfl ?_
      refine aw_goto (off := -41) B 166 (by decide +kernel) (by decide) ?_
      exact aw_sub [2, 3, 4, 1, 0] rfl (ih _ _ _ _ _)
def f_X11_goesCup_L136 : Nat → Int32 → Mem → Option Mem
  | 0, _, _ => none
  | n + 1, v1, M => (if (M.1 47 34) ≤ v1 then (some M) else (if (M.1 47 34) = (8 : Int32) then lt (((v1 / (4 : Int32)) ^^^ (1 : Int32)) * (4 : Int32)) fun x1 => f_X11_goesCup_L166 (fun a0 a1 => f_X11_goesCup_L136 n a0 a1) FU v1 x1 (0 : Int64) x1 M else (some M)))
set_option maxRecDepth 100000 in
set_option maxHeartbeats 4000000 in
theorem w_X11_goesCup_L136 {G : GW} {E : EE} (hG : ab_ok G) (B : Bx G E RX11 cX11_goesCup 6 292 none) : ∀ (n : Nat) (v1 : Int32) (M : Mem), AWo G E cX11_goesCup 6 (ab_Q G E embV) 136 [(0, .ref 47), (1, .int v1)] [] M (f_X11_goesCup_L136 n v1 M) := by
  intro n
  induction n with
  | zero => intro _ _; exact aw_none
  | succ n ih =>
    intro v1 M
    rw [f_X11_goesCup_L136]
    refine aw_iload_n (k0 := 1) B 1 (by decide +kernel) rfl rfl ?_
    refine aw_aload_n (k0 := 0) B 0 (by decide +kernel) rfl rfl ?_
    refine aw_geti (c := 47) B lkX11_285 (by decide +kernel) rfl ?_
    refine aw_icmp_ge (off := 89) B 230 (by decide +kernel) (by decide) (fun _ => ?_) (fun _ => ?_)
    · exact aw_vreturn B (by decide +kernel) rfl
    · refine aw_aload_n (k0 := 0) B 0 (by decide +kernel) rfl rfl ?_
      refine aw_geti (c := 47) B lkX11_285 (by decide +kernel) rfl ?_
      refine aw_bipush (n := 8) (v := (8 : Int32)) B (by decide +kernel) (by decide) ?_
      refine aw_icmp_ne (off := 80) B 230 (by decide +kernel) (by decide) (fun _ => ?_) (fun _ => ?_)
      · exact aw_vreturn B (by decide +kernel) rfl
      · refine aw_iload_n (k0 := 1) B 1 (by decide +kernel) rfl rfl ?_
        refine aw_iconst (n := 4) (v := (4 : Int32)) B (by decide +kernel) (by decide) ?_
        refine aw_idivK B (by decide +kernel) (by decide) ?_
        refine aw_iconst (n := 1) (v := (1 : Int32)) B (by decide +kernel) (by decide) ?_
        refine aw_ixor B (by decide +kernel) ?_
        refine aw_iconst (n := 4) (v := (4 : Int32)) B (by decide +kernel) (by decide) ?_
        refine aw_imul B (by decide +kernel) ?_
        refine aw_ltI (fun x1 => ?_)
        refine aw_istore_n (k0 := 2) B [(2, .int x1), (0, .ref 47), (1, .int v1)] (by decide +kernel) rfl (Nat.le_of_ble_eq_true rfl) rfl ?_
        refine aw_lconst (n := 0) (v := (0 : Int64)) B (by decide +kernel) (by decide) ?_
        refine aw_lstore_n (k0 := 3) B [(3, .long (0 : Int64)), (2, .int x1), (0, .ref 47), (1, .int v1)] (by decide +kernel) rfl (Nat.le_of_ble_eq_true rfl) rfl ?_
        refine aw_iload_n (k0 := 2) B 1 (by decide +kernel) rfl rfl ?_
        refine aw_istore (i := 5) B [(5, .int x1), (3, .long (0 : Int64)), (2, .int x1), (0, .ref 47), (1, .int v1)] (by decide +kernel) (Nat.le_of_ble_eq_true rfl) rfl ?_
        exact aw_sub [3, 4, 2, 1, 0] rfl (w_X11_goesCup_L166 hG B ih FU _ _ _ _ _)
def f_X11_goesCup_L44 : Nat → Int32 → Mem → Option Mem
  | 0, _, _ => none
  | n + 1, v1, M => (if (M.1 47 34) ≤ v1 then f_X11_goesCup_L136 FU (0 : Int32) M else lt (((v1 / (2 : Int32)) ^^^ (1 : Int32)) * (2 : Int32)) fun x1 => ck (okL 67 v1) (ck (okL 67 x1) (ck (okI 66 v1) (ck (okI 66 x1) (bI (f_X11_chanceOf FD (M.1 66 v1.toNatClampNeg) (M.1 66 x1.toNatClampNeg) (1 : Int32) M) fun x2 M3 => ck (okL 67 (x1 + (1 : Int32))) (ck (okI 66 v1) (ck (okI 66 (x1 + (1 : Int32))) (bI (f_X11_chanceOf FD (M3.1 66 v1.toNatClampNeg) (M3.1 66 (x1 + (1 : Int32)).toNatClampNeg) (1 : Int32) M3) fun x4 M5 => ck (okL 68 v1) (lt (wL M5 68 v1.toNatClampNeg ((M.2.1 67 v1.toNatClampNeg) * (((M.2.1 67 x1.toNatClampNeg) * x2.toInt64) + ((M3.2.1 67 (x1 + (1 : Int32)).toNatClampNeg) * x4.toInt64)))) fun M6 => f_X11_goesCup_L44 n (v1 + 1) M6)))))))))
set_option maxRecDepth 100000 in
set_option maxHeartbeats 4000000 in
theorem w_X11_goesCup_L44 {G : GW} {E : EE} (hG : ab_ok G) (B : Bx G E RX11 cX11_goesCup 6 292 none) : ∀ (n : Nat) (v1 : Int32) (M : Mem), AWo G E cX11_goesCup 6 (ab_Q G E embV) 44 [(0, .ref 47), (1, .int v1)] [] M (f_X11_goesCup_L44 n v1 M) := by
  intro n
  induction n with
  | zero => intro _ _; exact aw_none
  | succ n ih =>
    intro v1 M
    rw [f_X11_goesCup_L44]
    refine aw_iload_n (k0 := 1) B 1 (by decide +kernel) rfl rfl ?_
    refine aw_aload_n (k0 := 0) B 0 (by decide +kernel) rfl rfl ?_
    refine aw_geti (c := 47) B lkX11_285 (by decide +kernel) rfl ?_
    refine aw_icmp_ge (off := 85) B 134 (by decide +kernel) (by decide) (fun _ => ?_) (fun _ => ?_)
    · refine aw_iconst (n := 0) (v := (0 : Int32)) B (by decide +kernel) (by decide) ?_
      refine aw_istore_n (k0 := 1) B [(1, .int (0 : Int32)), (0, .ref 47)] (by decide +kernel) rfl (Nat.le_of_ble_eq_true rfl) rfl ?_
      exact aw_sub [1, 0] rfl (w_X11_goesCup_L136 hG B FU _ _)
    · refine aw_iload_n (k0 := 1) B 1 (by decide +kernel) rfl rfl ?_
      refine aw_iconst (n := 2) (v := (2 : Int32)) B (by decide +kernel) (by decide) ?_
      refine aw_idivK B (by decide +kernel) (by decide) ?_
      refine aw_iconst (n := 1) (v := (1 : Int32)) B (by decide +kernel) (by decide) ?_
      refine aw_ixor B (by decide +kernel) ?_
      refine aw_iconst (n := 2) (v := (2 : Int32)) B (by decide +kernel) (by decide) ?_
      refine aw_imul B (by decide +kernel) ?_
      refine aw_ltI (fun x1 => ?_)
      refine aw_istore_n (k0 := 2) B [(2, .int x1), (0, .ref 47), (1, .int v1)] (by decide +kernel) rfl (Nat.le_of_ble_eq_true rfl) rfl ?_
      refine aw_aload_n (k0 := 0) B 1 (by decide +kernel) rfl rfl ?_
      refine aw_getr (c := 47) B lkX11_72 (by decide +kernel) rfl (r := 68) rfl ?_
      refine aw_iload_n (k0 := 1) B 2 (by decide +kernel) rfl rfl ?_
      refine aw_aload_n (k0 := 0) B 1 (by decide +kernel) rfl rfl ?_
      refine aw_getr (c := 47) B lkX11_68 (by decide +kernel) rfl (r := 67) rfl ?_
      refine aw_iload_n (k0 := 1) B 2 (by decide +kernel) rfl rfl ?_
      refine aw_laload B (by decide +kernel) ?_
      refine aw_aload_n (k0 := 0) B 1 (by decide +kernel) rfl rfl ?_
      refine aw_getr (c := 47) B lkX11_68 (by decide +kernel) rfl (r := 67) rfl ?_
      refine aw_iload_n (k0 := 2) B 0 (by decide +kernel) rfl rfl ?_
      refine aw_laload B (by decide +kernel) ?_
      refine aw_aload_n (k0 := 0) B 1 (by decide +kernel) rfl rfl ?_
      refine aw_aload_n (k0 := 0) B 1 (by decide +kernel) rfl rfl ?_
      refine aw_getr (c := 47) B lkX11_65 (by decide +kernel) rfl (r := 66) rfl ?_
      refine aw_iload_n (k0 := 1) B 2 (by decide +kernel) rfl rfl ?_
      refine aw_iaload B (by decide +kernel) ?_
      refine aw_aload_n (k0 := 0) B 1 (by decide +kernel) rfl rfl ?_
      refine aw_getr (c := 47) B lkX11_65 (by decide +kernel) rfl (r := 66) rfl ?_
      refine aw_iload_n (k0 := 2) B 0 (by decide +kernel) rfl rfl ?_
      refine aw_iaload B (by decide +kernel) ?_
      refine aw_iconst (n := 1) (v := (1 : Int32)) B (by decide +kernel) (by decide) ?_
      refine aw_cVI B (c_X11_chanceOf (eLa E) hG FD (M.1 66 v1.toNatClampNeg) (M.1 66 x1.toNatClampNeg) (1 : Int32) M) cvX11_213 rfl rfl (Nat.le_of_ble_eq_true rfl) rfl (Nat.le_of_ble_eq_true rfl) (by decide +kernel) rfl (fun x2 M3 => ?_)
      refine aw_i2l B (by decide +kernel) ?_
      refine aw_lmul B (by decide +kernel) ?_
      refine aw_aload_n (k0 := 0) B 1 (by decide +kernel) rfl rfl ?_
      refine aw_getr (c := 47) B lkX11_68 (by decide +kernel) rfl (r := 67) rfl ?_
      refine aw_iload_n (k0 := 2) B 0 (by decide +kernel) rfl rfl ?_
      refine aw_iconst (n := 1) (v := (1 : Int32)) B (by decide +kernel) (by decide) ?_
      refine aw_iadd B (by decide +kernel) ?_
      refine aw_laload B (by decide +kernel) ?_
      refine aw_aload_n (k0 := 0) B 1 (by decide +kernel) rfl rfl ?_
      refine aw_aload_n (k0 := 0) B 1 (by decide +kernel) rfl rfl ?_
      refine aw_getr (c := 47) B lkX11_65 (by decide +kernel) rfl (r := 66) rfl ?_
      refine aw_iload_n (k0 := 1) B 2 (by decide +kernel) rfl rfl ?_
      refine aw_iaload B (by decide +kernel) ?_
      refine aw_aload_n (k0 := 0) B 1 (by decide +kernel) rfl rfl ?_
      refine aw_getr (c := 47) B lkX11_65 (by decide +kernel) rfl (r := 66) rfl ?_
      refine aw_iload_n (k0 := 2) B 0 (by decide +kernel) rfl rfl ?_
      refine aw_iconst (n := 1) (v := (1 : Int32)) B (by decide +kernel) (by decide) ?_
      refine aw_iadd B (by decide +kernel) ?_
      refine aw_iaload B (by decide +kernel) ?_
      refine aw_iconst (n := 1) (v := (1 : Int32)) B (by decide +kernel) (by decide) ?_
      refine aw_cVI B (c_X11_chanceOf (eLa E) hG FD (M3.1 66 v1.toNatClampNeg) (M3.1 66 (x1 + (1 : Int32)).toNatClampNeg) (1 : Int32) M3) cvX11_213 rfl rfl (Nat.le_of_ble_eq_true rfl) rfl (Nat.le_of_ble_eq_true rfl) (by decide +kernel) rfl (fun x4 M5 => ?_)
      refine aw_i2l B (by decide +kernel) ?_
      refine aw_lmul B (by decide +kernel) ?_
      refine aw_ladd B (by decide +kernel) ?_
      refine aw_lmul B (by decide +kernel) ?_
      refine aw_lastore B (by decide +kernel) (fun M6 => ?_)
      refine aw_iinc (i := 1) (n := 1) B 2 [(1, .int (v1 + 1)), (2, .int x1), (0, .ref 47)] (by decide +kernel) rfl (Nat.le_of_ble_eq_true rfl) (v1 + 1) (ab_inc (by decide)) rfl ?_
      refine aw_goto (off := -87) B 44 (by decide +kernel) (by decide) ?_
      exact aw_sub [2, 0] rfl (ih _ _)
def f_X11_goesCup_L2 : Nat → Int32 → Mem → Option Mem
  | 0, _, _ => none
  | n + 1, v1, M => (if (M.1 47 34) ≤ v1 then f_X11_goesCup_L44 FU (0 : Int32) M else ck (okI 66 v1) (ck (okI 66 (v1 ^^^ (1 : Int32))) (bI (f_X11_chanceOf FD (M.1 66 v1.toNatClampNeg) (M.1 66 (v1 ^^^ (1 : Int32)).toNatClampNeg) (0 : Int32) M) fun x1 M2 => ck (okL 67 v1) (lt (wL M2 67 v1.toNatClampNeg x1.toInt64) fun M3 => f_X11_goesCup_L2 n (v1 + 1) M3))))
set_option maxRecDepth 100000 in
set_option maxHeartbeats 4000000 in
theorem w_X11_goesCup_L2 {G : GW} {E : EE} (hG : ab_ok G) (B : Bx G E RX11 cX11_goesCup 6 292 none) : ∀ (n : Nat) (v1 : Int32) (M : Mem), AWo G E cX11_goesCup 6 (ab_Q G E embV) 2 [(0, .ref 47), (1, .int v1)] [] M (f_X11_goesCup_L2 n v1 M) := by
  intro n
  induction n with
  | zero => intro _ _; exact aw_none
  | succ n ih =>
    intro v1 M
    rw [f_X11_goesCup_L2]
    refine aw_iload_n (k0 := 1) B 1 (by decide +kernel) rfl rfl ?_
    refine aw_aload_n (k0 := 0) B 0 (by decide +kernel) rfl rfl ?_
    refine aw_geti (c := 47) B lkX11_285 (by decide +kernel) rfl ?_
    refine aw_icmp_ge (off := 35) B 42 (by decide +kernel) (by decide) (fun _ => ?_) (fun _ => ?_)
    · refine aw_iconst (n := 0) (v := (0 : Int32)) B (by decide +kernel) (by decide) ?_
      refine aw_istore_n (k0 := 1) B [(1, .int (0 : Int32)), (0, .ref 47)] (by decide +kernel) rfl (Nat.le_of_ble_eq_true rfl) rfl ?_
      exact aw_sub [1, 0] rfl (w_X11_goesCup_L44 hG B FU _ _)
    · refine aw_aload_n (k0 := 0) B 0 (by decide +kernel) rfl rfl ?_
      refine aw_getr (c := 47) B lkX11_68 (by decide +kernel) rfl (r := 67) rfl ?_
      refine aw_iload_n (k0 := 1) B 1 (by decide +kernel) rfl rfl ?_
      refine aw_aload_n (k0 := 0) B 0 (by decide +kernel) rfl rfl ?_
      refine aw_aload_n (k0 := 0) B 0 (by decide +kernel) rfl rfl ?_
      refine aw_getr (c := 47) B lkX11_65 (by decide +kernel) rfl (r := 66) rfl ?_
      refine aw_iload_n (k0 := 1) B 1 (by decide +kernel) rfl rfl ?_
      refine aw_iaload B (by decide +kernel) ?_
      refine aw_aload_n (k0 := 0) B 0 (by decide +kernel) rfl rfl ?_
      refine aw_getr (c := 47) B lkX11_65 (by decide +kernel) rfl (r := 66) rfl ?_
      refine aw_iload_n (k0 := 1) B 1 (by decide +kernel) rfl rfl ?_
      refine aw_iconst (n := 1) (v := (1 : Int32)) B (by decide +kernel) (by decide) ?_
      refine aw_ixor B (by decide +kernel) ?_
      refine aw_iaload B (by decide +kernel) ?_
      refine aw_iconst (n := 0) (v := (0 : Int32)) B (by decide +kernel) (by decide) ?_
      refine aw_cVI B (c_X11_chanceOf (eLa E) hG FD (M.1 66 v1.toNatClampNeg) (M.1 66 (v1 ^^^ (1 : Int32)).toNatClampNeg) (0 : Int32) M) cvX11_213 rfl rfl (Nat.le_of_ble_eq_true rfl) rfl (Nat.le_of_ble_eq_true rfl) (by decide +kernel) rfl (fun x1 M2 => ?_)
      refine aw_i2l B (by decide +kernel) ?_
      refine aw_lastore B (by decide +kernel) (fun M3 => ?_)
      refine aw_iinc (i := 1) (n := 1) B 1 [(1, .int (v1 + 1)), (0, .ref 47)] (by decide +kernel) rfl (Nat.le_of_ble_eq_true rfl) (v1 + 1) (ab_inc (by decide)) rfl ?_
      refine aw_goto (off := -37) B 2 (by decide +kernel) (by decide) ?_
      exact aw_sub [1, 0] rfl (ih _ _)
def f_X11_goesCup (M : Mem) : Option Mem := f_X11_goesCup_L2 FU (0 : Int32) M
set_option maxRecDepth 100000 in
set_option maxHeartbeats 4000000 in
theorem w_X11_goesCup {G : GW} {E : EE} (hG : ab_ok G) (B : Bx G E RX11 cX11_goesCup 6 292 none) (M : Mem) : AWo G E cX11_goesCup 6 (ab_Q G E embV) 0 [(0, .ref 47)] [] M (f_X11_goesCup M) := by
  unfold f_X11_goesCup
  refine aw_iconst (n := 0) (v := (0 : Int32)) B (by decide +kernel) (by decide) ?_
  refine aw_istore_n (k0 := 1) B [(1, .int (0 : Int32)), (0, .ref 47)] (by decide +kernel) rfl (Nat.le_of_ble_eq_true rfl) rfl ?_
  exact aw_sub [1, 0] rfl (w_X11_goesCup_L2 hG B FU _ _)
theorem c_X11_goesCup (l : Launch) {G : GW} (hG : ab_ok G) (M : Mem) : AC l G yX11_goesCup cX11_goesCup 6 none 292 [.ref 47] M embV (f_X11_goesCup M) := AC.of hG (by decide) (Nat.le_of_ble_eq_true rfl) (fun E hE B => by subst hE; exact w_X11_goesCup hG B M)
