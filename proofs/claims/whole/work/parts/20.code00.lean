def f_X4_isWorth (v0 : Int32) : Option Int32 := (if v0 < 0 then (some (0 : Int32)) else (if (99 : Int32) < v0 then (some (0 : Int32)) else (some (1 : Int32))))
set_option maxRecDepth 100000 in
set_option maxHeartbeats 4000000 in
theorem w_X4_isWorth {G : GW} {E : EE} (hG : ab_ok G) (B : Bx G E RX4 cX4_isWorth 1 2 (some .boolean)) (v0 : Int32) (M : Mem) : AWo G E cX4_isWorth 1 (ab_Q G E (embRI M)) 0 [(0, .int v0)] [] M (f_X4_isWorth v0) := by
  unfold f_X4_isWorth
  refine aw_iload_n (k0 := 0) B 0 (by decide +kernel) rfl rfl ?_
  refine aw_if_lt (off := 13) B 14 (by decide +kernel) (by decide) (fun _ => ?_) (fun _ => ?_)
  · refine aw_iconst (n := 0) (v := (0 : Int32)) B (by decide +kernel) (by decide) ?_
    exact aw_zreturnK B (by decide +kernel) rfl (by decide)
  · refine aw_iload_n (k0 := 0) B 0 (by decide +kernel) rfl rfl ?_
    refine aw_bipush (n := 99) (v := (99 : Int32)) B (by decide +kernel) (by decide) ?_
    refine aw_icmp_gt (off := 7) B 14 (by decide +kernel) (by decide) (fun _ => ?_) (fun _ => ?_)
    · refine aw_iconst (n := 0) (v := (0 : Int32)) B (by decide +kernel) (by decide) ?_
      exact aw_zreturnK B (by decide +kernel) rfl (by decide)
    · refine aw_iconst (n := 1) (v := (1 : Int32)) B (by decide +kernel) (by decide) ?_
      refine aw_goto (off := 4) B 15 (by decide +kernel) (by decide) ?_
      exact aw_zreturnK B (by decide +kernel) rfl (by decide)
theorem c_X4_isWorth (l : Launch) {G : GW} (hG : ab_ok G) (v0 : Int32) (M : Mem) : AC l G yX4_isWorth cX4_isWorth 1 (some .boolean) 2 [.int v0] M (embRI M) (f_X4_isWorth v0) := AC.of hG (by decide) (Nat.le_of_ble_eq_true rfl) (fun E hE B => by subst hE; exact w_X4_isWorth hG B v0 M)
def f_X4_addPlayer (v1 : Int32) (M : Mem) : Option (Int32 × Mem) := (if (M.1 1 0) < (8 : Int32) then ck (okI 2 (M.1 1 0)) (lt (wI M 2 (M.1 1 0).toNatClampNeg v1) fun M1 => lt (wI M1 1 0 ((M1.1 1 0) + (1 : Int32))) fun M2 => (some (M1.1 1 0, M2))) else (some ((-3 : Int32), M)))
set_option maxRecDepth 100000 in
set_option maxHeartbeats 4000000 in
theorem w_X4_addPlayer {G : GW} {E : EE} (hG : ab_ok G) (B : Bx G E RX4 cX4_addPlayer 2 2 (some .int)) (v1 : Int32) (M : Mem) : AWo G E cX4_addPlayer 2 (ab_Q G E embI) 0 [(0, .ref 1), (1, .int v1)] [] M (f_X4_addPlayer v1 M) := by
  unfold f_X4_addPlayer
  refine aw_aload_n (k0 := 0) B 0 (by decide +kernel) rfl rfl ?_
  refine aw_geti (c := 1) B lkX4_24 (by decide +kernel) rfl ?_
  refine aw_bipush (n := 8) (v := (8 : Int32)) B (by decide +kernel) (by decide) ?_
  refine aw_icmp_lt (off := 6) B 12 (by decide +kernel) (by decide) (fun _ => ?_) (fun _ => ?_)
  · refine aw_aload_n (k0 := 0) B 0 (by decide +kernel) rfl rfl ?_
    refine aw_getr (c := 1) B lkX4_11 (by decide +kernel) rfl (r := 2) rfl ?_
    refine aw_aload_n (k0 := 0) B 0 (by decide +kernel) rfl rfl ?_
    refine aw_geti (c := 1) B lkX4_24 (by decide +kernel) rfl ?_
    refine aw_iload_n (k0 := 1) B 1 (by decide +kernel) rfl rfl ?_
    refine aw_iastore B (by decide +kernel) (fun M1 => ?_)
    refine aw_aload_n (k0 := 0) B 0 (by decide +kernel) rfl rfl ?_
    refine aw_dup B (by decide +kernel) rfl ?_
    refine aw_geti (c := 1) B lkX4_24 (by decide +kernel) rfl ?_
    refine aw_dup_x1 B (by decide +kernel) rfl rfl ?_
    refine aw_iconst (n := 1) (v := (1 : Int32)) B (by decide +kernel) (by decide) ?_
    refine aw_iadd B (by decide +kernel) ?_
    refine aw_puti (c := 1) B lkX4_24 lp4_0 (by decide +kernel) rfl (fun M2 => ?_)
    exact aw_ireturn B (by decide +kernel) rfl
  · refine aw_bipush (n := -3) (v := (-3 : Int32)) B (by decide +kernel) (by decide) ?_
    exact aw_ireturn B (by decide +kernel) rfl
theorem c_X4_addPlayer (l : Launch) {G : GW} (hG : ab_ok G) (v1 : Int32) (M : Mem) : AC l G yX4_addPlayer cX4_addPlayer 2 (some .int) 2 [.ref 1, .int v1] M embI (f_X4_addPlayer v1 M) := AC.of hG (by decide) (Nat.le_of_ble_eq_true rfl) (fun E hE B => by subst hE; exact w_X4_addPlayer hG B v1 M)
def f_X10_player (v1 : Int32) (M : Mem) : Option (Int32 × Mem) := (f_X4_isWorth v1).bind fun x1 => (if x1 = 0 then (some ((-1 : Int32), M)) else bI (f_X4_addPlayer v1 M) fun x3 M4 => (some (x3, M4)))
set_option maxRecDepth 100000 in
set_option maxHeartbeats 4000000 in
theorem w_X10_player {G : GW} {E : EE} (hG : ab_ok G) (B : Bx G E RX10 cX10_player 2 3 (some .int)) (v1 : Int32) (M : Mem) : AWo G E cX10_player 2 (ab_Q G E embI) 0 [(0, .ref 0), (1, .int v1)] [] M (f_X10_player v1 M) := by
  unfold f_X10_player
  refine aw_iload_n (k0 := 1) B 1 (by decide +kernel) rfl rfl ?_
  refine aw_cSR B (c_X4_isWorth (eLa E) hG v1 M) csX10_79 (Nat.le_of_ble_eq_true rfl) rfl (Nat.le_of_ble_eq_true rfl) (by decide +kernel) rfl (fun x1 => ?_)
  refine aw_if_ne (off := 5) B 9 (by decide +kernel) (by decide) (fun _ => ?_) (fun _ => ?_)
  · refine aw_aload_n (k0 := 0) B 0 (by decide +kernel) rfl rfl ?_
    refine aw_getr (c := 0) B lkX10_10 (by decide +kernel) rfl (r := 1) rfl ?_
    refine aw_iload_n (k0 := 1) B 1 (by decide +kernel) rfl rfl ?_
    refine aw_cVI B (c_X4_addPlayer (eLa E) hG v1 M) cvX10_83 rfl rfl (Nat.le_of_ble_eq_true rfl) rfl (Nat.le_of_ble_eq_true rfl) (by decide +kernel) rfl (fun x3 M4 => ?_)
    exact aw_ireturn B (by decide +kernel) rfl
  · refine aw_iconst (n := -1) (v := (-1 : Int32)) B (by decide +kernel) (by decide) ?_
    exact aw_ireturn B (by decide +kernel) rfl
theorem c_X10_player (l : Launch) {G : GW} (hG : ab_ok G) (v1 : Int32) (M : Mem) : AC l G yX10_player cX10_player 2 (some .int) 3 [.ref 0, .int v1] M embI (f_X10_player v1 M) := AC.of hG (by decide) (Nat.le_of_ble_eq_true rfl) (fun E hE B => by subst hE; exact w_X10_player hG B v1 M)
def f_X11_within (v0 : Int64) (v2 : Int64) (v4 : Int64) : Option Int32 := (if (lg_cmp v0 v2) < 0 then (some (0 : Int32)) else (if 0 < (lg_cmp v0 v4) then (some (0 : Int32)) else (some (1 : Int32))))
set_option maxRecDepth 100000 in
set_option maxHeartbeats 4000000 in
theorem w_X11_within {G : GW} {E : EE} (hG : ab_ok G) (B : Bx G E RX11 cX11_within 6 2 (some .boolean)) (v0 : Int64) (v2 : Int64) (v4 : Int64) (M : Mem) : AWo G E cX11_within 6 (ab_Q G E (embRI M)) 0 [(0, .long v0), (2, .long v2), (4, .long v4)] [] M (f_X11_within v0 v2 v4) := by
  unfold f_X11_within
  refine aw_lload_n (k0 := 0) B 0 (by decide +kernel) rfl rfl ?_
  refine aw_lload_n (k0 := 2) B 1 (by decide +kernel) rfl rfl ?_
  refine aw_lcmp B (by decide +kernel) ?_
  refine aw_if_lt (off := 14) B 17 (by decide +kernel) (by decide) (fun _ => ?_) (fun _ => ?_)
  · refine aw_iconst (n := 0) (v := (0 : Int32)) B (by decide +kernel) (by decide) ?_
    exact aw_zreturnK B (by decide +kernel) rfl (by decide)
  · refine aw_lload_n (k0 := 0) B 0 (by decide +kernel) rfl rfl ?_
    refine aw_lload (i := 4) B 2 (by decide +kernel) rfl ?_
    refine aw_lcmp B (by decide +kernel) ?_
    refine aw_if_gt (off := 7) B 17 (by decide +kernel) (by decide) (fun _ => ?_) (fun _ => ?_)
    · refine aw_iconst (n := 0) (v := (0 : Int32)) B (by decide +kernel) (by decide) ?_
      exact aw_zreturnK B (by decide +kernel) rfl (by decide)
    · refine aw_iconst (n := 1) (v := (1 : Int32)) B (by decide +kernel) (by decide) ?_
      refine aw_goto (off := 4) B 18 (by decide +kernel) (by decide) ?_
      exact aw_zreturnK B (by decide +kernel) rfl (by decide)
theorem c_X11_within (l : Launch) {G : GW} (hG : ab_ok G) (v0 : Int64) (v2 : Int64) (v4 : Int64) (M : Mem) : AC l G yX11_within cX11_within 6 (some .boolean) 2 [.long v0, .long v2, .long v4] M (embRI M) (f_X11_within v0 v2 v4) := AC.of hG (by decide) (Nat.le_of_ble_eq_true rfl) (fun E hE B => by subst hE; exact w_X11_within hG B v0 v2 v4 M)
def f_X11_player (v1 : Int32) (M : Mem) : Option (Int32 × Mem) := (f_X11_within v1.toInt64 (0 : Int64) (99 : Int64)).bind fun x1 => (if x1 = 0 then (some ((-1 : Int32), M)) else (if (M.1 47 6) = (8 : Int32) then (some ((-3 : Int32), M)) else ck (okI 48 (M.1 47 6)) (lt (wI M 48 (M.1 47 6).toNatClampNeg v1) fun M3 => lt (wI M3 47 6 ((M3.1 47 6) + (1 : Int32))) fun M4 => (some ((M4.1 47 6) - (1 : Int32), M4)))))
set_option maxRecDepth 100000 in
set_option maxHeartbeats 4000000 in
theorem w_X11_player {G : GW} {E : EE} (hG : ab_ok G) (B : Bx G E RX11 cX11_player 2 3 (some .int)) (v1 : Int32) (M : Mem) : AWo G E cX11_player 2 (ab_Q G E embI) 0 [(0, .ref 47), (1, .int v1)] [] M (f_X11_player v1 M) := by
  unfold f_X11_player
  refine aw_iload_n (k0 := 1) B 1 (by decide +kernel) rfl rfl ?_
  refine aw_i2l B (by decide +kernel) ?_
  refine aw_lconst (n := 0) (v := (0 : Int64)) B (by decide +kernel) (by decide) ?_
  refine aw_ldc2 B (by decide +kernel) lwX11_119 ?_
  refine aw_cSR B (c_X11_within (eLa E) hG v1.toInt64 (0 : Int64) (99 : Int64) M) csX11_112 (Nat.le_of_ble_eq_true rfl) rfl (Nat.le_of_ble_eq_true rfl) (by decide +kernel) rfl (fun x1 => ?_)
  refine aw_if_ne (off := 5) B 14 (by decide +kernel) (by decide) (fun _ => ?_) (fun _ => ?_)
  · refine aw_aload_n (k0 := 0) B 0 (by decide +kernel) rfl rfl ?_
    refine aw_geti (c := 47) B lkX11_109 (by decide +kernel) rfl ?_
    refine aw_bipush (n := 8) (v := (8 : Int32)) B (by decide +kernel) (by decide) ?_
    refine aw_icmp_ne (off := 6) B 26 (by decide +kernel) (by decide) (fun _ => ?_) (fun _ => ?_)
    · refine aw_aload_n (k0 := 0) B 0 (by decide +kernel) rfl rfl ?_
      refine aw_getr (c := 47) B lkX11_9 (by decide +kernel) rfl (r := 48) rfl ?_
      refine aw_aload_n (k0 := 0) B 0 (by decide +kernel) rfl rfl ?_
      refine aw_geti (c := 47) B lkX11_109 (by decide +kernel) rfl ?_
      refine aw_iload_n (k0 := 1) B 1 (by decide +kernel) rfl rfl ?_
      refine aw_iastore B (by decide +kernel) (fun M3 => ?_)
      refine aw_aload_n (k0 := 0) B 0 (by decide +kernel) rfl rfl ?_
      refine aw_dup B (by decide +kernel) rfl ?_
      refine aw_geti (c := 47) B lkX11_109 (by decide +kernel) rfl ?_
      refine aw_iconst (n := 1) (v := (1 : Int32)) B (by decide +kernel) (by decide) ?_
      refine aw_iadd B (by decide +kernel) ?_
      refine aw_puti (c := 47) B lkX11_109 lp11_6 (by decide +kernel) rfl (fun M4 => ?_)
      refine aw_aload_n (k0 := 0) B 0 (by decide +kernel) rfl rfl ?_
      refine aw_geti (c := 47) B lkX11_109 (by decide +kernel) rfl ?_
      refine aw_iconst (n := 1) (v := (1 : Int32)) B (by decide +kernel) (by decide) ?_
      refine aw_isub B (by decide +kernel) ?_
      exact aw_ireturn B (by decide +kernel) rfl
    · refine aw_bipush (n := -3) (v := (-3 : Int32)) B (by decide +kernel) (by decide) ?_
      exact aw_ireturn B (by decide +kernel) rfl
  · refine aw_iconst (n := -1) (v := (-1 : Int32)) B (by decide +kernel) (by decide) ?_
    exact aw_ireturn B (by decide +kernel) rfl
theorem c_X11_player (l : Launch) {G : GW} (hG : ab_ok G) (v1 : Int32) (M : Mem) : AC l G yX11_player cX11_player 2 (some .int) 3 [.ref 47, .int v1] M embI (f_X11_player v1 M) := AC.of hG (by decide) (Nat.le_of_ble_eq_true rfl) (fun E hE B => by subst hE; exact w_X11_player hG B v1 M)
def f_X4_hasPlayer (v1 : Int32) (M : Mem) : Option Int32 := (if v1 < 0 then (some (0 : Int32)) else (if (M.1 1 0) ≤ v1 then (some (0 : Int32)) else (some (1 : Int32))))
set_option maxRecDepth 100000 in
set_option maxHeartbeats 4000000 in
theorem w_X4_hasPlayer {G : GW} {E : EE} (hG : ab_ok G) (B : Bx G E RX4 cX4_hasPlayer 2 2 (some .boolean)) (v1 : Int32) (M : Mem) : AWo G E cX4_hasPlayer 2 (ab_Q G E (embRI M)) 0 [(0, .ref 1), (1, .int v1)] [] M (f_X4_hasPlayer v1 M) := by
  unfold f_X4_hasPlayer
  refine aw_iload_n (k0 := 1) B 1 (by decide +kernel) rfl rfl ?_
  refine aw_if_lt (off := 15) B 16 (by decide +kernel) (by decide) (fun _ => ?_) (fun _ => ?_)
  · refine aw_iconst (n := 0) (v := (0 : Int32)) B (by decide +kernel) (by decide) ?_
    exact aw_zreturnK B (by decide +kernel) rfl (by decide)
  · refine aw_iload_n (k0 := 1) B 1 (by decide +kernel) rfl rfl ?_
    refine aw_aload_n (k0 := 0) B 0 (by decide +kernel) rfl rfl ?_
    refine aw_geti (c := 1) B lkX4_24 (by decide +kernel) rfl ?_
    refine aw_icmp_ge (off := 7) B 16 (by decide +kernel) (by decide) (fun _ => ?_) (fun _ => ?_)
    · refine aw_iconst (n := 0) (v := (0 : Int32)) B (by decide +kernel) (by decide) ?_
      exact aw_zreturnK B (by decide +kernel) rfl (by decide)
    · refine aw_iconst (n := 1) (v := (1 : Int32)) B (by decide +kernel) (by decide) ?_
      refine aw_goto (off := 4) B 17 (by decide +kernel) (by decide) ?_
      exact aw_zreturnK B (by decide +kernel) rfl (by decide)
theorem c_X4_hasPlayer (l : Launch) {G : GW} (hG : ab_ok G) (v1 : Int32) (M : Mem) : AC l G yX4_hasPlayer cX4_hasPlayer 2 (some .boolean) 2 [.ref 1, .int v1] M (embRI M) (f_X4_hasPlayer v1 M) := AC.of hG (by decide) (Nat.le_of_ble_eq_true rfl) (fun E hE B => by subst hE; exact w_X4_hasPlayer hG B v1 M)
def f_X4_areTwo (v1 : Int32) (v2 : Int32) (M : Mem) : Option Int32 := (f_X4_hasPlayer v1 M).bind fun x1 => (if x1 = 0 then (some (0 : Int32)) else (f_X4_hasPlayer v2 M).bind fun x3 => (if x3 = 0 then (some (0 : Int32)) else (if v1 = v2 then (some (0 : Int32)) else (some (1 : Int32)))))
set_option maxRecDepth 100000 in
set_option maxHeartbeats 4000000 in
theorem w_X4_areTwo {G : GW} {E : EE} (hG : ab_ok G) (B : Bx G E RX4 cX4_areTwo 3 3 (some .boolean)) (v1 : Int32) (v2 : Int32) (M : Mem) : AWo G E cX4_areTwo 3 (ab_Q G E (embRI M)) 0 [(0, .ref 1), (1, .int v1), (2, .int v2)] [] M (f_X4_areTwo v1 v2 M) := by
  unfold f_X4_areTwo
  refine aw_aload_n (k0 := 0) B 0 (by decide +kernel) rfl rfl ?_
  refine aw_iload_n (k0 := 1) B 1 (by decide +kernel) rfl rfl ?_
  refine aw_cVR B (c_X4_hasPlayer (eLa E) hG v1 M) cvX4_31 rfl rfl (Nat.le_of_ble_eq_true rfl) rfl (Nat.le_of_ble_eq_true rfl) (by decide +kernel) rfl (fun x1 => ?_)
  refine aw_if_eq (off := 20) B 25 (by decide +kernel) (by decide) (fun _ => ?_) (fun _ => ?_)
  · refine aw_iconst (n := 0) (v := (0 : Int32)) B (by decide +kernel) (by decide) ?_
    exact aw_zreturnK B (by decide +kernel) rfl (by decide)
  · refine aw_aload_n (k0 := 0) B 0 (by decide +kernel) rfl rfl ?_
    refine aw_iload_n (k0 := 2) B 2 (by decide +kernel) rfl rfl ?_
    refine aw_cVR B (c_X4_hasPlayer (eLa E) hG v2 M) cvX4_31 rfl rfl (Nat.le_of_ble_eq_true rfl) rfl (Nat.le_of_ble_eq_true rfl) (by decide +kernel) rfl (fun x3 => ?_)
    refine aw_if_eq (off := 12) B 25 (by decide +kernel) (by decide) (fun _ => ?_) (fun _ => ?_)
    · refine aw_iconst (n := 0) (v := (0 : Int32)) B (by decide +kernel) (by decide) ?_
      exact aw_zreturnK B (by decide +kernel) rfl (by decide)
    · refine aw_iload_n (k0 := 1) B 1 (by decide +kernel) rfl rfl ?_
      refine aw_iload_n (k0 := 2) B 2 (by decide +kernel) rfl rfl ?_
      refine aw_icmp_eq (off := 7) B 25 (by decide +kernel) (by decide) (fun _ => ?_) (fun _ => ?_)
      · refine aw_iconst (n := 0) (v := (0 : Int32)) B (by decide +kernel) (by decide) ?_
        exact aw_zreturnK B (by decide +kernel) rfl (by decide)
      · refine aw_iconst (n := 1) (v := (1 : Int32)) B (by decide +kernel) (by decide) ?_
        refine aw_goto (off := 4) B 26 (by decide +kernel) (by decide) ?_
        exact aw_zreturnK B (by decide +kernel) rfl (by decide)
theorem c_X4_areTwo (l : Launch) {G : GW} (hG : ab_ok G) (v1 : Int32) (v2 : Int32) (M : Mem) : AC l G yX4_areTwo cX4_areTwo 3 (some .boolean) 3 [.ref 1, .int v1, .int v2] M (embRI M) (f_X4_areTwo v1 v2 M) := AC.of hG (by decide) (Nat.le_of_ble_eq_true rfl) (fun E hE B => by subst hE; exact w_X4_areTwo hG B v1 v2 M)
def f_X4_isPair (v1 : Int32) (M : Mem) : Option Int32 := (if v1 < 0 then (some (0 : Int32)) else (f_X4_areTwo (v1 / (10 : Int32)) (ab_rem v1 (10 : Int32)) M).bind fun x1 => (if x1 = 0 then (some (0 : Int32)) else (some (1 : Int32))))
set_option maxRecDepth 100000 in
set_option maxHeartbeats 4000000 in
theorem w_X4_isPair {G : GW} {E : EE} (hG : ab_ok G) (B : Bx G E RX4 cX4_isPair 2 4 (some .boolean)) (v1 : Int32) (M : Mem) : AWo G E cX4_isPair 2 (ab_Q G E (embRI M)) 0 [(0, .ref 1), (1, .int v1)] [] M (f_X4_isPair v1 M) := by
  unfold f_X4_isPair
  refine aw_iload_n (k0 := 1) B 1 (by decide +kernel) rfl rfl ?_
  refine aw_if_lt (off := 22) B 23 (by decide +kernel) (by decide) (fun _ => ?_) (fun _ => ?_)
  · refine aw_iconst (n := 0) (v := (0 : Int32)) B (by decide +kernel) (by decide) ?_
    exact aw_zreturnK B (by decide +kernel) rfl (by decide)
  · refine aw_aload_n (k0 := 0) B 0 (by decide +kernel) rfl rfl ?_
    refine aw_iload_n (k0 := 1) B 1 (by decide +kernel) rfl rfl ?_
    refine aw_bipush (n := 10) (v := (10 : Int32)) B (by decide +kernel) (by decide) ?_
    refine aw_idivK B (by decide +kernel) (by decide) ?_
    refine aw_iload_n (k0 := 1) B 1 (by decide +kernel) rfl rfl ?_
    refine aw_bipush (n := 10) (v := (10 : Int32)) B (by decide +kernel) (by decide) ?_
    refine aw_iremK B (by decide +kernel) (by decide) ?_
    refine aw_cVR B (c_X4_areTwo (eLa E) hG (v1 / (10 : Int32)) (ab_rem v1 (10 : Int32)) M) cvX4_35 rfl rfl (Nat.le_of_ble_eq_true rfl) rfl (Nat.le_of_ble_eq_true rfl) (by decide +kernel) rfl (fun x1 => ?_)
    refine aw_if_eq (off := 7) B 23 (by decide +kernel) (by decide) (fun _ => ?_) (fun _ => ?_)
    · refine aw_iconst (n := 0) (v := (0 : Int32)) B (by decide +kernel) (by decide) ?_
      exact aw_zreturnK B (by decide +kernel) rfl (by decide)
    · refine aw_iconst (n := 1) (v := (1 : Int32)) B (by decide +kernel) (by decide) ?_
      refine aw_goto (off := 4) B 24 (by decide +kernel) (by decide) ?_
      exact aw_zreturnK B (by decide +kernel) rfl (by decide)
theorem c_X4_isPair (l : Launch) {G : GW} (hG : ab_ok G) (v1 : Int32) (M : Mem) : AC l G yX4_isPair cX4_isPair 2 (some .boolean) 4 [.ref 1, .int v1] M (embRI M) (f_X4_isPair v1 M) := AC.of hG (by decide) (Nat.le_of_ble_eq_true rfl) (fun E hE B => by subst hE; exact w_X4_isPair hG B v1 M)
def f_X4_addMatch (v1 : Int32) (v2 : Int32) (M : Mem) : Option (Int32 × Mem) := (if (M.1 1 1) < (12 : Int32) then ck (okI 3 (M.1 1 1)) (lt (wI M 3 (M.1 1 1).toNatClampNeg v1) fun M1 => ck (okI 4 (M1.1 1 1)) (lt (wI M1 4 (M1.1 1 1).toNatClampNeg v2) fun M2 => ck (okI 5 (M2.1 1 1)) (lt (wI M2 5 (M2.1 1 1).toNatClampNeg (1 : Int32)) fun M3 => lt (wI M3 1 1 ((M3.1 1 1) + (1 : Int32))) fun M4 => (some (M3.1 1 1, M4))))) else (some ((-3 : Int32), M)))
set_option maxRecDepth 100000 in
set_option maxHeartbeats 4000000 in
theorem w_X4_addMatch {G : GW} {E : EE} (hG : ab_ok G) (B : Bx G E RX4 cX4_addMatch 3 2 (some .int)) (v1 : Int32) (v2 : Int32) (M : Mem) : AWo G E cX4_addMatch 3 (ab_Q G E embI) 0 [(0, .ref 1), (1, .int v1), (2, .int v2)] [] M (f_X4_addMatch v1 v2 M) := by
  unfold f_X4_addMatch
  refine aw_aload_n (k0 := 0) B 0 (by decide +kernel) rfl rfl ?_
  refine aw_geti (c := 1) B lkX4_28 (by decide +kernel) rfl ?_
  refine aw_bipush (n := 12) (v := (12 : Int32)) B (by decide +kernel) (by decide) ?_
  refine aw_icmp_lt (off := 6) B 12 (by decide +kernel) (by decide) (fun _ => ?_) (fun _ => ?_)
  · refine aw_aload_n (k0 := 0) B 0 (by decide +kernel) rfl rfl ?_
    refine aw_getr (c := 1) B lkX4_15 (by decide +kernel) rfl (r := 3) rfl ?_
    refine aw_aload_n (k0 := 0) B 0 (by decide +kernel) rfl rfl ?_
    refine aw_geti (c := 1) B lkX4_28 (by decide +kernel) rfl ?_
    refine aw_iload_n (k0 := 1) B 1 (by decide +kernel) rfl rfl ?_
    refine aw_iastore B (by decide +kernel) (fun M1 => ?_)
    refine aw_aload_n (k0 := 0) B 0 (by decide +kernel) rfl rfl ?_
    refine aw_getr (c := 1) B lkX4_18 (by decide +kernel) rfl (r := 4) rfl ?_
    refine aw_aload_n (k0 := 0) B 0 (by decide +kernel) rfl rfl ?_
    refine aw_geti (c := 1) B lkX4_28 (by decide +kernel) rfl ?_
    refine aw_iload_n (k0 := 2) B 2 (by decide +kernel) rfl rfl ?_
    refine aw_iastore B (by decide +kernel) (fun M2 => ?_)
    refine aw_aload_n (k0 := 0) B 0 (by decide +kernel) rfl rfl ?_
    refine aw_getr (c := 1) B lkX4_21 (by decide +kernel) rfl (r := 5) rfl ?_
    refine aw_aload_n (k0 := 0) B 0 (by decide +kernel) rfl rfl ?_
    refine aw_geti (c := 1) B lkX4_28 (by decide +kernel) rfl ?_
    refine aw_iconst (n := 1) (v := (1 : Int32)) B (by decide +kernel) (by decide) ?_
    refine aw_iastore B (by decide +kernel) (fun M3 => ?_)
    refine aw_aload_n (k0 := 0) B 0 (by decide +kernel) rfl rfl ?_
    refine aw_dup B (by decide +kernel) rfl ?_
    refine aw_geti (c := 1) B lkX4_28 (by decide +kernel) rfl ?_
    refine aw_dup_x1 B (by decide +kernel) rfl rfl ?_
    refine aw_iconst (n := 1) (v := (1 : Int32)) B (by decide +kernel) (by decide) ?_
    refine aw_iadd B (by decide +kernel) ?_
    refine aw_puti (c := 1) B lkX4_28 lp4_1 (by decide +kernel) rfl (fun M4 => ?_)
    exact aw_ireturn B (by decide +kernel) rfl
  · refine aw_bipush (n := -3) (v := (-3 : Int32)) B (by decide +kernel) (by decide) ?_
    exact aw_ireturn B (by decide +kernel) rfl
theorem c_X4_addMatch (l : Launch) {G : GW} (hG : ab_ok G) (v1 : Int32) (v2 : Int32) (M : Mem) : AC l G yX4_addMatch cX4_addMatch 3 (some .int) 2 [.ref 1, .int v1, .int v2] M embI (f_X4_addMatch v1 v2 M) := AC.of hG (by decide) (Nat.le_of_ble_eq_true rfl) (fun E hE B => by subst hE; exact w_X4_addMatch hG B v1 v2 M)
def f_X10_match (v1 : Int32) (M : Mem) : Option (Int32 × Mem) := (f_X4_isPair v1 M).bind fun x1 => (if x1 = 0 then (some ((-1 : Int32), M)) else bI (f_X4_addMatch (v1 / (10 : Int32)) (ab_rem v1 (10 : Int32)) M) fun x3 M4 => (some (x3, M4)))
set_option maxRecDepth 100000 in
set_option maxHeartbeats 4000000 in
theorem w_X10_match {G : GW} {E : EE} (hG : ab_ok G) (B : Bx G E RX10 cX10_match 2 5 (some .int)) (v1 : Int32) (M : Mem) : AWo G E cX10_match 2 (ab_Q G E embI) 0 [(0, .ref 0), (1, .int v1)] [] M (f_X10_match v1 M) := by
  unfold f_X10_match
  refine aw_aload_n (k0 := 0) B 0 (by decide +kernel) rfl rfl ?_
  refine aw_getr (c := 0) B lkX10_10 (by decide +kernel) rfl (r := 1) rfl ?_
  refine aw_iload_n (k0 := 1) B 1 (by decide +kernel) rfl rfl ?_
  refine aw_cVR B (c_X4_isPair (eLa E) hG v1 M) cvX10_87 rfl rfl (Nat.le_of_ble_eq_true rfl) rfl (Nat.le_of_ble_eq_true rfl) (by decide +kernel) rfl (fun x1 => ?_)
  refine aw_if_ne (off := 5) B 13 (by decide +kernel) (by decide) (fun _ => ?_) (fun _ => ?_)
  · refine aw_aload_n (k0 := 0) B 0 (by decide +kernel) rfl rfl ?_
    refine aw_getr (c := 0) B lkX10_10 (by decide +kernel) rfl (r := 1) rfl ?_
    refine aw_iload_n (k0 := 1) B 1 (by decide +kernel) rfl rfl ?_
    refine aw_bipush (n := 10) (v := (10 : Int32)) B (by decide +kernel) (by decide) ?_
    refine aw_idivK B (by decide +kernel) (by decide) ?_
    refine aw_iload_n (k0 := 1) B 1 (by decide +kernel) rfl rfl ?_
    refine aw_bipush (n := 10) (v := (10 : Int32)) B (by decide +kernel) (by decide) ?_
    refine aw_iremK B (by decide +kernel) (by decide) ?_
    refine aw_cVI B (c_X4_addMatch (eLa E) hG (v1 / (10 : Int32)) (ab_rem v1 (10 : Int32)) M) cvX10_90 rfl rfl (Nat.le_of_ble_eq_true rfl) rfl (Nat.le_of_ble_eq_true rfl) (by decide +kernel) rfl (fun x3 M4 => ?_)
    exact aw_ireturn B (by decide +kernel) rfl
  · refine aw_iconst (n := -1) (v := (-1 : Int32)) B (by decide +kernel) (by decide) ?_
    exact aw_ireturn B (by decide +kernel) rfl
theorem c_X10_match (l : Launch) {G : GW} (hG : ab_ok G) (v1 : Int32) (M : Mem) : AC l G yX10_match cX10_match 2 (some .int) 5 [.ref 0, .int v1] M embI (f_X10_match v1 M) := AC.of hG (by decide) (Nat.le_of_ble_eq_true rfl) (fun E hE B => by subst hE; exact w_X10_match hG B v1 M)
def f_X11_areTwo (v1 : Int64) (v3 : Int64) (M : Mem) : Option Int32 := (f_X11_within v1 (0 : Int64) (((M.1 47 6) - (1 : Int32)).toInt64)).bind fun x1 => (if x1 = 0 then (some (0 : Int32)) else (f_X11_within v3 (0 : Int64) (((M.1 47 6) - (1 : Int32)).toInt64)).bind fun x3 => (if x3 = 0 then (some (0 : Int32)) else (if (lg_cmp v1 v3) = 0 then (some (0 : Int32)) else (some (1 : Int32)))))
set_option maxRecDepth 100000 in
set_option maxHeartbeats 4000000 in
theorem w_X11_areTwo {G : GW} {E : EE} (hG : ab_ok G) (B : Bx G E RX11 cX11_areTwo 5 3 (some .boolean)) (v1 : Int64) (v3 : Int64) (M : Mem) : AWo G E cX11_areTwo 5 (ab_Q G E (embRI M)) 0 [(0, .ref 47), (1, .long v1), (3, .long v3)] [] M (f_X11_areTwo v1 v3 M) := by
  unfold f_X11_areTwo
  refine aw_lload_n (k0 := 1) B 1 (by decide +kernel) rfl rfl ?_
  refine aw_lconst (n := 0) (v := (0 : Int64)) B (by decide +kernel) (by decide) ?_
  refine aw_aload_n (k0 := 0) B 0 (by decide +kernel) rfl rfl ?_
  refine aw_geti (c := 47) B lkX11_109 (by decide +kernel) rfl ?_
  refine aw_iconst (n := 1) (v := (1 : Int32)) B (by decide +kernel) (by decide) ?_
  refine aw_isub B (by decide +kernel) ?_
  refine aw_i2l B (by decide +kernel) ?_
  refine aw_cSR B (c_X11_within (eLa E) hG v1 (0 : Int64) (((M.1 47 6) - (1 : Int32)).toInt64) M) csX11_112 (Nat.le_of_ble_eq_true rfl) rfl (Nat.le_of_ble_eq_true rfl) (by decide +kernel) rfl (fun x1 => ?_)
  refine aw_if_eq (off := 28) B 40 (by decide +kernel) (by decide) (fun _ => ?_) (fun _ => ?_)
  · refine aw_iconst (n := 0) (v := (0 : Int32)) B (by decide +kernel) (by decide) ?_
    exact aw_zreturnK B (by decide +kernel) rfl (by decide)
  · refine aw_lload_n (k0 := 3) B 2 (by decide +kernel) rfl rfl ?_
    refine aw_lconst (n := 0) (v := (0 : Int64)) B (by decide +kernel) (by decide) ?_
    refine aw_aload_n (k0 := 0) B 0 (by decide +kernel) rfl rfl ?_
    refine aw_geti (c := 47) B lkX11_109 (by decide +kernel) rfl ?_
    refine aw_iconst (n := 1) (v := (1 : Int32)) B (by decide +kernel) (by decide) ?_
    refine aw_isub B (by decide +kernel) ?_
    refine aw_i2l B (by decide +kernel) ?_
    refine aw_cSR B (c_X11_within (eLa E) hG v3 (0 : Int64) (((M.1 47 6) - (1 : Int32)).toInt64) M) csX11_112 (Nat.le_of_ble_eq_true rfl) rfl (Nat.le_of_ble_eq_true rfl) (by decide +kernel) rfl (fun x3 => ?_)
    refine aw_if_eq (off := 13) B 40 (by decide +kernel) (by decide) (fun _ => ?_) (fun _ => ?_)
    · refine aw_iconst (n := 0) (v := (0 : Int32)) B (by decide +kernel) (by decide) ?_
      exact aw_zreturnK B (by decide +kernel) rfl (by decide)
    · refine aw_lload_n (k0 := 1) B 1 (by decide +kernel) rfl rfl ?_
      refine aw_lload_n (k0 := 3) B 2 (by decide +kernel) rfl rfl ?_
      refine aw_lcmp B (by decide +kernel) ?_
      refine aw_if_eq (off := 7) B 40 (by decide +kernel) (by decide) (fun _ => ?_) (fun _ => ?_)
      · refine aw_iconst (n := 0) (v := (0 : Int32)) B (by decide +kernel) (by decide) ?_
        exact aw_zreturnK B (by decide +kernel) rfl (by decide)
      · refine aw_iconst (n := 1) (v := (1 : Int32)) B (by decide +kernel) (by decide) ?_
        refine aw_goto (off := 4) B 41 (by decide +kernel) (by decide) ?_
        exact aw_zreturnK B (by decide +kernel) rfl (by decide)
theorem c_X11_areTwo (l : Launch) {G : GW} (hG : ab_ok G) (v1 : Int64) (v3 : Int64) (M : Mem) : AC l G yX11_areTwo cX11_areTwo 5 (some .boolean) 3 [.ref 47, .long v1, .long v3] M (embRI M) (f_X11_areTwo v1 v3 M) := AC.of hG (by decide) (Nat.le_of_ble_eq_true rfl) (fun E hE B => by subst hE; exact w_X11_areTwo hG B v1 v3 M)
def f_X11_adds (v1 : Int32) (v2 : Int32) (M : Mem) : Option Mem := ck (okI 52 (M.1 47 7)) (lt (wI M 52 (M.1 47 7).toNatClampNeg v1) fun M1 => ck (okI 53 (M1.1 47 7)) (lt (wI M1 53 (M1.1 47 7).toNatClampNeg v2) fun M2 => ck (okI 48 ((8 : Int32) + (M2.1 47 7))) (lt (wI M2 48 ((8 : Int32) + (M2.1 47 7)).toNatClampNeg (1 : Int32)) fun M3 => lt (wI M3 47 7 ((M3.1 47 7) + (1 : Int32))) fun M4 => (some M4))))
set_option maxRecDepth 100000 in
set_option maxHeartbeats 4000000 in
theorem w_X11_adds {G : GW} {E : EE} (hG : ab_ok G) (B : Bx G E RX11 cX11_adds 3 2 none) (v1 : Int32) (v2 : Int32) (M : Mem) : AWo G E cX11_adds 3 (ab_Q G E embV) 0 [(0, .ref 47), (1, .int v1), (2, .int v2)] [] M (f_X11_adds v1 v2 M) := by
  unfold f_X11_adds
  refine aw_aload_n (k0 := 0) B 0 (by decide +kernel) rfl rfl ?_
  refine aw_getr (c := 47) B lkX11_22 (by decide +kernel) rfl (r := 52) rfl ?_
  refine aw_aload_n (k0 := 0) B 0 (by decide +kernel) rfl rfl ?_
  refine aw_geti (c := 47) B lkX11_116 (by decide +kernel) rfl ?_
  refine aw_iload_n (k0 := 1) B 1 (by decide +kernel) rfl rfl ?_
  refine aw_iastore B (by decide +kernel) (fun M1 => ?_)
  refine aw_aload_n (k0 := 0) B 0 (by decide +kernel) rfl rfl ?_
  refine aw_getr (c := 47) B lkX11_25 (by decide +kernel) rfl (r := 53) rfl ?_
  refine aw_aload_n (k0 := 0) B 0 (by decide +kernel) rfl rfl ?_
  refine aw_geti (c := 47) B lkX11_116 (by decide +kernel) rfl ?_
  refine aw_iload_n (k0 := 2) B 2 (by decide +kernel) rfl rfl ?_
  refine aw_iastore B (by decide +kernel) (fun M2 => ?_)
  refine aw_aload_n (k0 := 0) B 0 (by decide +kernel) rfl rfl ?_
  refine aw_getr (c := 47) B lkX11_9 (by decide +kernel) rfl (r := 48) rfl ?_
  refine aw_bipush (n := 8) (v := (8 : Int32)) B (by decide +kernel) (by decide) ?_
  refine aw_aload_n (k0 := 0) B 0 (by decide +kernel) rfl rfl ?_
  refine aw_geti (c := 47) B lkX11_116 (by decide +kernel) rfl ?_
  refine aw_iadd B (by decide +kernel) ?_
  refine aw_iconst (n := 1) (v := (1 : Int32)) B (by decide +kernel) (by decide) ?_
  refine aw_iastore B (by decide +kernel) (fun M3 => ?_)
  refine aw_aload_n (k0 := 0) B 0 (by decide +kernel) rfl rfl ?_
  refine aw_dup B (by decide +kernel) rfl ?_
  refine aw_geti (c := 47) B lkX11_116 (by decide +kernel) rfl ?_
  refine aw_iconst (n := 1) (v := (1 : Int32)) B (by decide +kernel) (by decide) ?_
  refine aw_iadd B (by decide +kernel) ?_
  refine aw_puti (c := 47) B lkX11_116 lp11_7 (by decide +kernel) rfl (fun M4 => ?_)
  exact aw_vreturn B (by decide +kernel) rfl
theorem c_X11_adds (l : Launch) {G : GW} (hG : ab_ok G) (v1 : Int32) (v2 : Int32) (M : Mem) : AC l G yX11_adds cX11_adds 3 none 2 [.ref 47, .int v1, .int v2] M embV (f_X11_adds v1 v2 M) := AC.of hG (by decide) (Nat.le_of_ble_eq_true rfl) (fun E hE B => by subst hE; exact w_X11_adds hG B v1 v2 M)
def f_X11_match (v1 : Int32) (M : Mem) : Option (Int32 × Mem) := (if v1 < 0 then (some ((-1 : Int32), M)) else (f_X11_areTwo ((v1 / (10 : Int32)).toInt64) ((ab_rem v1 (10 : Int32)).toInt64) M).bind fun x1 => (if x1 = 0 then (some ((-1 : Int32), M)) else (if (M.1 47 7) = (12 : Int32) then (some ((-3 : Int32), M)) else (f_X11_adds (v1 / (10 : Int32)) (ab_rem v1 (10 : Int32)) M).bind fun M4 => (some ((M4.1 47 7) - (1 : Int32), M4)))))
set_option maxRecDepth 100000 in
set_option maxHeartbeats 4000000 in
theorem w_X11_match {G : GW} {E : EE} (hG : ab_ok G) (B : Bx G E RX11 cX11_match 2 4 (some .int)) (v1 : Int32) (M : Mem) : AWo G E cX11_match 2 (ab_Q G E embI) 0 [(0, .ref 47), (1, .int v1)] [] M (f_X11_match v1 M) := by
  unfold f_X11_match
  refine aw_iload_n (k0 := 1) B 1 (by decide +kernel) rfl rfl ?_
  refine aw_if_lt (off := 20) B 21 (by decide +kernel) (by decide) (fun _ => ?_) (fun _ => ?_)
  · refine aw_iconst (n := -1) (v := (-1 : Int32)) B (by decide +kernel) (by decide) ?_
    exact aw_ireturn B (by decide +kernel) rfl
  · refine aw_aload_n (k0 := 0) B 0 (by decide +kernel) rfl rfl ?_
    refine aw_iload_n (k0 := 1) B 1 (by decide +kernel) rfl rfl ?_
    refine aw_bipush (n := 10) (v := (10 : Int32)) B (by decide +kernel) (by decide) ?_
    refine aw_idivK B (by decide +kernel) (by decide) ?_
    refine aw_i2l B (by decide +kernel) ?_
    refine aw_iload_n (k0 := 1) B 1 (by decide +kernel) rfl rfl ?_
    refine aw_bipush (n := 10) (v := (10 : Int32)) B (by decide +kernel) (by decide) ?_
    refine aw_iremK B (by decide +kernel) (by decide) ?_
    refine aw_i2l B (by decide +kernel) ?_
    refine aw_cVR B (c_X11_areTwo (eLa E) hG ((v1 / (10 : Int32)).toInt64) ((ab_rem v1 (10 : Int32)).toInt64) M) cvX11_121 rfl rfl (Nat.le_of_ble_eq_true rfl) rfl (Nat.le_of_ble_eq_true rfl) (by decide +kernel) rfl (fun x1 => ?_)
    refine aw_if_ne (off := 5) B 23 (by decide +kernel) (by decide) (fun _ => ?_) (fun _ => ?_)
    · refine aw_aload_n (k0 := 0) B 0 (by decide +kernel) rfl rfl ?_
      refine aw_geti (c := 47) B lkX11_116 (by decide +kernel) rfl ?_
      refine aw_bipush (n := 12) (v := (12 : Int32)) B (by decide +kernel) (by decide) ?_
      refine aw_icmp_ne (off := 6) B 35 (by decide +kernel) (by decide) (fun _ => ?_) (fun _ => ?_)
      · refine aw_aload_n (k0 := 0) B 0 (by decide +kernel) rfl rfl ?_
        refine aw_iload_n (k0 := 1) B 1 (by decide +kernel) rfl rfl ?_
        refine aw_bipush (n := 10) (v := (10 : Int32)) B (by decide +kernel) (by decide) ?_
        refine aw_idivK B (by decide +kernel) (by decide) ?_
        refine aw_iload_n (k0 := 1) B 1 (by decide +kernel) rfl rfl ?_
        refine aw_bipush (n := 10) (v := (10 : Int32)) B (by decide +kernel) (by decide) ?_
        refine aw_iremK B (by decide +kernel) (by decide) ?_
        refine aw_cVV B (c_X11_adds (eLa E) hG (v1 / (10 : Int32)) (ab_rem v1 (10 : Int32)) M) cvX11_125 rfl rfl (Nat.le_of_ble_eq_true rfl) rfl (Nat.le_of_ble_eq_true rfl) (by decide +kernel) rfl (fun M4 => ?_)
        refine aw_aload_n (k0 := 0) B 0 (by decide +kernel) rfl rfl ?_
        refine aw_geti (c := 47) B lkX11_116 (by decide +kernel) rfl ?_
        refine aw_iconst (n := 1) (v := (1 : Int32)) B (by decide +kernel) (by decide) ?_
        refine aw_isub B (by decide +kernel) ?_
        exact aw_ireturn B (by decide +kernel) rfl
      · refine aw_bipush (n := -3) (v := (-3 : Int32)) B (by decide +kernel) (by decide) ?_
        exact aw_ireturn B (by decide +kernel) rfl
    · refine aw_iconst (n := -1) (v := (-1 : Int32)) B (by decide +kernel) (by decide) ?_
      exact aw_ireturn B (by decide +kernel) rfl
theorem c_X11_match (l : Launch) {G : GW} (hG : ab_ok G) (v1 : Int32) (M : Mem) : AC l G yX11_match cX11_match 2 (some .int) 4 [.ref 47, .int v1] M embI (f_X11_match v1 M) := AC.of hG (by decide) (Nat.le_of_ble_eq_true rfl) (fun E hE B => by subst hE; exact w_X11_match hG B v1 M)
def f_X9_isShelf (v0 : Int32) : Option Int32 := (if v0 < 0 then (some (0 : Int32)) else (if (6 : Int32) ≤ v0 then (some (0 : Int32)) else (some (1 : Int32))))
set_option maxRecDepth 100000 in
set_option maxHeartbeats 4000000 in
theorem w_X9_isShelf {G : GW} {E : EE} (hG : ab_ok G) (B : Bx G E RX9 cX9_isShelf 1 2 (some .boolean)) (v0 : Int32) (M : Mem) : AWo G E cX9_isShelf 1 (ab_Q G E (embRI M)) 0 [(0, .int v0)] [] M (f_X9_isShelf v0) := by
  unfold f_X9_isShelf
  refine aw_iload_n (k0 := 0) B 0 (by decide +kernel) rfl rfl ?_
  refine aw_if_lt (off := 13) B 14 (by decide +kernel) (by decide) (fun _ => ?_) (fun _ => ?_)
  · refine aw_iconst (n := 0) (v := (0 : Int32)) B (by decide +kernel) (by decide) ?_
    exact aw_zreturnK B (by decide +kernel) rfl (by decide)
  · refine aw_iload_n (k0 := 0) B 0 (by decide +kernel) rfl rfl ?_
    refine aw_bipush (n := 6) (v := (6 : Int32)) B (by decide +kernel) (by decide) ?_
    refine aw_icmp_ge (off := 7) B 14 (by decide +kernel) (by decide) (fun _ => ?_) (fun _ => ?_)
    · refine aw_iconst (n := 0) (v := (0 : Int32)) B (by decide +kernel) (by decide) ?_
      exact aw_zreturnK B (by decide +kernel) rfl (by decide)
    · refine aw_iconst (n := 1) (v := (1 : Int32)) B (by decide +kernel) (by decide) ?_
      refine aw_goto (off := 4) B 15 (by decide +kernel) (by decide) ?_
      exact aw_zreturnK B (by decide +kernel) rfl (by decide)
theorem c_X9_isShelf (l : Launch) {G : GW} (hG : ab_ok G) (v0 : Int32) (M : Mem) : AC l G yX9_isShelf cX9_isShelf 1 (some .boolean) 2 [.int v0] M (embRI M) (f_X9_isShelf v0) := AC.of hG (by decide) (Nat.le_of_ble_eq_true rfl) (fun E hE B => by subst hE; exact w_X9_isShelf hG B v0 M)
def f_X9_isEmpty (v1 : Int32) (M : Mem) : Option Int32 := ck (okI 44 v1) ((if (M.1 44 v1.toNatClampNeg) = (6 : Int32) then (some (1 : Int32)) else (some (0 : Int32))))
set_option maxRecDepth 100000 in
set_option maxHeartbeats 4000000 in
theorem w_X9_isEmpty {G : GW} {E : EE} (hG : ab_ok G) (B : Bx G E RX9 cX9_isEmpty 2 2 (some .boolean)) (v1 : Int32) (M : Mem) : AWo G E cX9_isEmpty 2 (ab_Q G E (embRI M)) 0 [(0, .ref 43), (1, .int v1)] [] M (f_X9_isEmpty v1 M) := by
  unfold f_X9_isEmpty
  refine aw_aload_n (k0 := 0) B 0 (by decide +kernel) rfl rfl ?_
  refine aw_getr (c := 43) B lkX9_11 (by decide +kernel) rfl (r := 44) rfl ?_
  refine aw_iload_n (k0 := 1) B 1 (by decide +kernel) rfl rfl ?_
  refine aw_iaload B (by decide +kernel) ?_
  refine aw_bipush (n := 6) (v := (6 : Int32)) B (by decide +kernel) (by decide) ?_
  refine aw_icmp_ne (off := 7) B 15 (by decide +kernel) (by decide) (fun _ => ?_) (fun _ => ?_)
  · refine aw_iconst (n := 0) (v := (0 : Int32)) B (by decide +kernel) (by decide) ?_
    exact aw_zreturnK B (by decide +kernel) rfl (by decide)
  · refine aw_iconst (n := 1) (v := (1 : Int32)) B (by decide +kernel) (by decide) ?_
    refine aw_goto (off := 4) B 16 (by decide +kernel) (by decide) ?_
    exact aw_zreturnK B (by decide +kernel) rfl (by decide)
theorem c_X9_isEmpty (l : Launch) {G : GW} (hG : ab_ok G) (v1 : Int32) (M : Mem) : AC l G yX9_isEmpty cX9_isEmpty 2 (some .boolean) 2 [.ref 43, .int v1] M (embRI M) (f_X9_isEmpty v1 M) := AC.of hG (by decide) (Nat.le_of_ble_eq_true rfl) (fun E hE B => by subst hE; exact w_X9_isEmpty hG B v1 M)
def f_X9_holdsBytes (v1 : Int32) (M : Mem) : Option Int32 := ck (okI 44 v1) ((if (M.1 44 v1.toNatClampNeg) = 0 then (some (1 : Int32)) else (some (0 : Int32))))
set_option maxRecDepth 100000 in
set_option maxHeartbeats 4000000 in
theorem w_X9_holdsBytes {G : GW} {E : EE} (hG : ab_ok G) (B : Bx G E RX9 cX9_holdsBytes 2 2 (some .boolean)) (v1 : Int32) (M : Mem) : AWo G E cX9_holdsBytes 2 (ab_Q G E (embRI M)) 0 [(0, .ref 43), (1, .int v1)] [] M (f_X9_holdsBytes v1 M) := by
  unfold f_X9_holdsBytes
  refine aw_aload_n (k0 := 0) B 0 (by decide +kernel) rfl rfl ?_
  refine aw_getr (c := 43) B lkX9_11 (by decide +kernel) rfl (r := 44) rfl ?_
  refine aw_iload_n (k0 := 1) B 1 (by decide +kernel) rfl rfl ?_
  refine aw_iaload B (by decide +kernel) ?_
  refine aw_if_ne (off := 7) B 13 (by decide +kernel) (by decide) (fun _ => ?_) (fun _ => ?_)
  · refine aw_iconst (n := 0) (v := (0 : Int32)) B (by decide +kernel) (by decide) ?_
    exact aw_zreturnK B (by decide +kernel) rfl (by decide)
  · refine aw_iconst (n := 1) (v := (1 : Int32)) B (by decide +kernel) (by decide) ?_
    refine aw_goto (off := 4) B 14 (by decide +kernel) (by decide) ?_
    exact aw_zreturnK B (by decide +kernel) rfl (by decide)
theorem c_X9_holdsBytes (l : Launch) {G : GW} (hG : ab_ok G) (v1 : Int32) (M : Mem) : AC l G yX9_holdsBytes cX9_holdsBytes 2 (some .boolean) 2 [.ref 43, .int v1] M (embRI M) (f_X9_holdsBytes v1 M) := AC.of hG (by decide) (Nat.le_of_ble_eq_true rfl) (fun E hE B => by subst hE; exact w_X9_holdsBytes hG B v1 M)
def f_X9_isSort (v0 : Int32) : Option Int32 := (if v0 < 0 then (some (0 : Int32)) else (if (4 : Int32) < v0 then (some (0 : Int32)) else (some (1 : Int32))))
set_option maxRecDepth 100000 in
set_option maxHeartbeats 4000000 in
theorem w_X9_isSort {G : GW} {E : EE} (hG : ab_ok G) (B : Bx G E RX9 cX9_isSort 1 2 (some .boolean)) (v0 : Int32) (M : Mem) : AWo G E cX9_isSort 1 (ab_Q G E (embRI M)) 0 [(0, .int v0)] [] M (f_X9_isSort v0) := by
  unfold f_X9_isSort
  refine aw_iload_n (k0 := 0) B 0 (by decide +kernel) rfl rfl ?_
  refine aw_if_lt (off := 12) B 13 (by decide +kernel) (by decide) (fun _ => ?_) (fun _ => ?_)
  · refine aw_iconst (n := 0) (v := (0 : Int32)) B (by decide +kernel) (by decide) ?_
    exact aw_zreturnK B (by decide +kernel) rfl (by decide)
  · refine aw_iload_n (k0 := 0) B 0 (by decide +kernel) rfl rfl ?_
    refine aw_iconst (n := 4) (v := (4 : Int32)) B (by decide +kernel) (by decide) ?_
    refine aw_icmp_gt (off := 7) B 13 (by decide +kernel) (by decide) (fun _ => ?_) (fun _ => ?_)
    · refine aw_iconst (n := 0) (v := (0 : Int32)) B (by decide +kernel) (by decide) ?_
      exact aw_zreturnK B (by decide +kernel) rfl (by decide)
    · refine aw_iconst (n := 1) (v := (1 : Int32)) B (by decide +kernel) (by decide) ?_
      refine aw_goto (off := 4) B 14 (by decide +kernel) (by decide) ?_
      exact aw_zreturnK B (by decide +kernel) rfl (by decide)
theorem c_X9_isSort (l : Launch) {G : GW} (hG : ab_ok G) (v0 : Int32) (M : Mem) : AC l G yX9_isSort cX9_isSort 1 (some .boolean) 2 [.int v0] M (embRI M) (f_X9_isSort v0) := AC.of hG (by decide) (Nat.le_of_ble_eq_true rfl) (fun E hE B => by subst hE; exact w_X9_isSort hG B v0 M)
def f_X9_lengthOf (v1 : Int32) (M : Mem) : Option Int32 := ck (okI 44 v1) ((f_X9_isSort (M.1 44 v1.toNatClampNeg)).bind fun x1 => (if x1 = 0 then (some (0 : Int32)) else ck (okI 45 v1) ((some (M.1 45 v1.toNatClampNeg)))))
set_option maxRecDepth 100000 in
set_option maxHeartbeats 4000000 in
theorem w_X9_lengthOf {G : GW} {E : EE} (hG : ab_ok G) (B : Bx G E RX9 cX9_lengthOf 2 3 (some .int)) (v1 : Int32) (M : Mem) : AWo G E cX9_lengthOf 2 (ab_Q G E (embRI M)) 0 [(0, .ref 43), (1, .int v1)] [] M (f_X9_lengthOf v1 M) := by
  unfold f_X9_lengthOf
  refine aw_aload_n (k0 := 0) B 0 (by decide +kernel) rfl rfl ?_
  refine aw_getr (c := 43) B lkX9_11 (by decide +kernel) rfl (r := 44) rfl ?_
  refine aw_iload_n (k0 := 1) B 1 (by decide +kernel) rfl rfl ?_
  refine aw_iaload B (by decide +kernel) ?_
  refine aw_cSR B (c_X9_isSort (eLa E) hG (M.1 44 v1.toNatClampNeg) M) csX9_22 (Nat.le_of_ble_eq_true rfl) rfl (Nat.le_of_ble_eq_true rfl) (by decide +kernel) rfl (fun x1 => ?_)
  refine aw_if_eq (off := 12) B 21 (by decide +kernel) (by decide) (fun _ => ?_) (fun _ => ?_)
  · refine aw_iconst (n := 0) (v := (0 : Int32)) B (by decide +kernel) (by decide) ?_
    exact aw_ireturn B (by decide +kernel) rfl
  · refine aw_aload_n (k0 := 0) B 0 (by decide +kernel) rfl rfl ?_
    refine aw_getr (c := 43) B lkX9_15 (by decide +kernel) rfl (r := 45) rfl ?_
    refine aw_iload_n (k0 := 1) B 1 (by decide +kernel) rfl rfl ?_
    refine aw_iaload B (by decide +kernel) ?_
    refine aw_goto (off := 4) B 22 (by decide +kernel) (by decide) ?_
    exact aw_ireturn B (by decide +kernel) rfl
theorem c_X9_lengthOf (l : Launch) {G : GW} (hG : ab_ok G) (v1 : Int32) (M : Mem) : AC l G yX9_lengthOf cX9_lengthOf 2 (some .int) 3 [.ref 43, .int v1] M (embRI M) (f_X9_lengthOf v1 M) := AC.of hG (by decide) (Nat.le_of_ble_eq_true rfl) (fun E hE B => by subst hE; exact w_X9_lengthOf hG B v1 M)
def f_X9_valueAt (v1 : Int32) (v2 : Int32) (M : Mem) : Option Int64 := ck (okL 46 ((v1 * (60 : Int32)) + v2)) ((some (M.2.1 46 ((v1 * (60 : Int32)) + v2).toNatClampNeg)))
set_option maxRecDepth 100000 in
set_option maxHeartbeats 4000000 in
theorem w_X9_valueAt {G : GW} {E : EE} (hG : ab_ok G) (B : Bx G E RX9 cX9_valueAt 3 2 (some .long)) (v1 : Int32) (v2 : Int32) (M : Mem) : AWo G E cX9_valueAt 3 (ab_Q G E (embRJ M)) 0 [(0, .ref 43), (1, .int v1), (2, .int v2)] [] M (f_X9_valueAt v1 v2 M) := by
  unfold f_X9_valueAt
  refine aw_aload_n (k0 := 0) B 0 (by decide +kernel) rfl rfl ?_
  refine aw_getr (c := 43) B lkX9_18 (by decide +kernel) rfl (r := 46) rfl ?_
  refine aw_iload_n (k0 := 1) B 1 (by decide +kernel) rfl rfl ?_
  refine aw_bipush (n := 60) (v := (60 : Int32)) B (by decide +kernel) (by decide) ?_
  refine aw_imul B (by decide +kernel) ?_
  refine aw_iload_n (k0 := 2) B 2 (by decide +kernel) rfl rfl ?_
  refine aw_iadd B (by decide +kernel) ?_
  refine aw_laload B (by decide +kernel) ?_
  exact aw_lreturn B (by decide +kernel) rfl
theorem c_X9_valueAt (l : Launch) {G : GW} (hG : ab_ok G) (v1 : Int32) (v2 : Int32) (M : Mem) : AC l G yX9_valueAt cX9_valueAt 3 (some .long) 2 [.ref 43, .int v1, .int v2] M (embRJ M) (f_X9_valueAt v1 v2 M) := AC.of hG (by decide) (Nat.le_of_ble_eq_true rfl) (fun E hE B => by subst hE; exact w_X9_valueAt hG B v1 v2 M)
def f_X10_comesFromRow (v1 : Int32) (v2 : Int64) (M : Mem) : Option (Int32 × Mem) := (if (lg_cmp v2 (0 : Int64)) < 0 then (some ((0 : Int32), M)) else (f_X9_lengthOf v1 M).bind fun x1 => (if (lg_cmp (v2 + (1 : Int64)) x1.toInt64) < 0 then (f_X9_valueAt v1 v2.toInt32 M).bind fun x3 => (f_X9_valueAt v1 (v2.toInt32 + (1 : Int32)) M).bind fun x5 => (f_X4_areTwo x3.toInt32 x5.toInt32 M).bind fun x7 => (if x7 = 0 then (some ((0 : Int32), M)) else bI (f_X4_addMatch x3.toInt32 x5.toInt32 M) fun x9 M10 => (if x9 < 0 then (some ((0 : Int32), M10)) else (some ((1 : Int32), M10)))) else (some ((0 : Int32), M))))
set_option maxRecDepth 100000 in
set_option maxHeartbeats 4000000 in
theorem w_X10_comesFromRow {G : GW} {E : EE} (hG : ab_ok G) (B : Bx G E RX10 cX10_comesFromRow 6 4 (some .boolean)) (v1 : Int32) (v2 : Int64) (M : Mem) : AWo G E cX10_comesFromRow 6 (ab_Q G E embI) 0 [(0, .ref 0), (1, .int v1), (2, .long v2)] [] M (f_X10_comesFromRow v1 v2 M) := by
  unfold f_X10_comesFromRow
  refine aw_lload_n (k0 := 2) B 2 (by decide +kernel) rfl rfl ?_
  refine aw_lconst (n := 0) (v := (0 : Int64)) B (by decide +kernel) (by decide) ?_
  refine aw_lcmp B (by decide +kernel) ?_
  refine aw_if_lt (off := 19) B 22 (by decide +kernel) (by decide) (fun _ => ?_) (fun _ => ?_)
  · refine aw_iconst (n := 0) (v := (0 : Int32)) B (by decide +kernel) (by decide) ?_
    exact aw_zreturnK B (by decide +kernel) rfl (by decide)
  · refine aw_lload_n (k0 := 2) B 2 (by decide +kernel) rfl rfl ?_
    refine aw_lconst (n := 1) (v := (1 : Int64)) B (by decide +kernel) (by decide) ?_
    refine aw_ladd B (by decide +kernel) ?_
    refine aw_aload_n (k0 := 0) B 0 (by decide +kernel) rfl rfl ?_
    refine aw_getr (c := 0) B lkX10_75 (by decide +kernel) rfl (r := 43) rfl ?_
    refine aw_iload_n (k0 := 1) B 1 (by decide +kernel) rfl rfl ?_
    refine aw_cVR B (c_X9_lengthOf (eLa E) hG v1 M) cvX10_109 rfl rfl (Nat.le_of_ble_eq_true rfl) rfl (Nat.le_of_ble_eq_true rfl) (by decide +kernel) rfl (fun x1 => ?_)
    refine aw_i2l B (by decide +kernel) ?_
    refine aw_lcmp B (by decide +kernel) ?_
    refine aw_if_lt (off := 5) B 24 (by decide +kernel) (by decide) (fun _ => ?_) (fun _ => ?_)
    · refine aw_aload_n (k0 := 0) B 0 (by decide +kernel) rfl rfl ?_
      refine aw_getr (c := 0) B lkX10_75 (by decide +kernel) rfl (r := 43) rfl ?_
      refine aw_iload_n (k0 := 1) B 1 (by decide +kernel) rfl rfl ?_
      refine aw_lload_n (k0 := 2) B 2 (by decide +kernel) rfl rfl ?_
      refine aw_l2i B (by decide +kernel) ?_
      refine aw_cVL B (c_X9_valueAt (eLa E) hG v1 v2.toInt32 M) cvX10_112 rfl rfl (Nat.le_of_ble_eq_true rfl) rfl (Nat.le_of_ble_eq_true rfl) (by decide +kernel) rfl (fun x3 => ?_)
      refine aw_l2i B (by decide +kernel) ?_
      refine aw_istore (i := 4) B [(4, .int (x3.toInt32)), (0, .ref 0), (1, .int v1), (2, .long v2)] (by decide +kernel) (Nat.le_of_ble_eq_true rfl) rfl ?_
      refine aw_aload_n (k0 := 0) B 1 (by decide +kernel) rfl rfl ?_
      refine aw_getr (c := 0) B lkX10_75 (by decide +kernel) rfl (r := 43) rfl ?_
      refine aw_iload_n (k0 := 1) B 2 (by decide +kernel) rfl rfl ?_
      refine aw_lload_n (k0 := 2) B 3 (by decide +kernel) rfl rfl ?_
      refine aw_l2i B (by decide +kernel) ?_
      refine aw_iconst (n := 1) (v := (1 : Int32)) B (by decide +kernel) (by decide) ?_
      refine aw_iadd B (by decide +kernel) ?_
      refine aw_cVL B (c_X9_valueAt (eLa E) hG v1 (v2.toInt32 + (1 : Int32)) M) cvX10_112 rfl rfl (Nat.le_of_ble_eq_true rfl) rfl (Nat.le_of_ble_eq_true rfl) (by decide +kernel) rfl (fun x5 => ?_)
      refine aw_l2i B (by decide +kernel) ?_
      refine aw_istore (i := 5) B [(5, .int (x5.toInt32)), (4, .int (x3.toInt32)), (0, .ref 0), (1, .int v1), (2, .long v2)] (by decide +kernel) (Nat.le_of_ble_eq_true rfl) rfl ?_
      refine aw_aload_n (k0 := 0) B 2 (by decide +kernel) rfl rfl ?_
      refine aw_getr (c := 0) B lkX10_10 (by decide +kernel) rfl (r := 1) rfl ?_
      refine aw_iload (i := 4) B 1 (by decide +kernel) rfl ?_
      refine aw_iload (i := 5) B 0 (by decide +kernel) rfl ?_
      refine aw_cVR B (c_X4_areTwo (eLa E) hG x3.toInt32 x5.toInt32 M) cvX10_116 rfl rfl (Nat.le_of_ble_eq_true rfl) rfl (Nat.le_of_ble_eq_true rfl) (by decide +kernel) rfl (fun x7 => ?_)
      refine aw_if_eq (off := 21) B 84 (by decide +kernel) (by decide) (fun _ => ?_) (fun _ => ?_)
      · refine aw_iconst (n := 0) (v := (0 : Int32)) B (by decide +kernel) (by decide) ?_
        exact aw_zreturnK B (by decide +kernel) rfl (by decide)
      · refine aw_aload_n (k0 := 0) B 2 (by decide +kernel) rfl rfl ?_
        refine aw_getr (c := 0) B lkX10_10 (by decide +kernel) rfl (r := 1) rfl ?_
        refine aw_iload (i := 4) B 1 (by decide +kernel) rfl ?_
        refine aw_iload (i := 5) B 0 (by decide +kernel) rfl ?_
        refine aw_cVI B (c_X4_addMatch (eLa E) hG x3.toInt32 x5.toInt32 M) cvX10_90 rfl rfl (Nat.le_of_ble_eq_true rfl) rfl (Nat.le_of_ble_eq_true rfl) (by decide +kernel) rfl (fun x9 M10 => ?_)
        refine aw_if_lt (off := 7) B 84 (by decide +kernel) (by decide) (fun _ => ?_) (fun _ => ?_)
        · refine aw_iconst (n := 0) (v := (0 : Int32)) B (by decide +kernel) (by decide) ?_
          exact aw_zreturnK B (by decide +kernel) rfl (by decide)
        · refine aw_iconst (n := 1) (v := (1 : Int32)) B (by decide +kernel) (by decide) ?_
          refine aw_goto (off := 4) B 85 (by decide +kernel) (by decide) ?_
          exact aw_zreturnK B (by decide +kernel) rfl (by decide)
    · refine aw_iconst (n := 0) (v := (0 : Int32)) B (by decide +kernel) (by decide) ?_
      exact aw_zreturnK B (by decide +kernel) rfl (by decide)
theorem c_X10_comesFromRow (l : Launch) {G : GW} (hG : ab_ok G) (v1 : Int32) (v2 : Int64) (M : Mem) : AC l G yX10_comesFromRow cX10_comesFromRow 6 (some .boolean) 4 [.ref 0, .int v1, .long v2] M embI (f_X10_comesFromRow v1 v2 M) := AC.of hG (by decide) (Nat.le_of_ble_eq_true rfl) (fun E hE B => by subst hE; exact w_X10_comesFromRow hG B v1 v2 M)
def f_X10_matches_L48 : Nat → Int32 → Int32 → Int32 → Int32 → Mem → Option (Int32 × Mem)
  | 0, _, _, _, _, _ => none
  | n + 1, v1, v2, v3, v4, M => (if v3 ≤ v4 then (some (v3, M)) else bI (f_X10_comesFromRow v1 (v2.toInt64 + ((2 : Int64) * v4.toInt64)) M) fun x1 M2 => (if x1 = 0 then (some (v4, M2)) else f_X10_matches_L48 n v1 v2 v3 (v4 + 1) M2))
set_option maxRecDepth 100000 in
set_option maxHeartbeats 4000000 in
theorem w_X10_matches_L48 {G : GW} {E : EE} (hG : ab_ok G) (B : Bx G E RX10 cX10_matches 5 5 (some .int)) : ∀ (n : Nat) (v1 : Int32) (v2 : Int32) (v3 : Int32) (v4 : Int32) (M : Mem), AWo G E cX10_matches 5 (ab_Q G E embI) 48 [(0, .ref 0), (1, .int v1), (2, .int v2), (3, .int v3), (4, .int v4)] [] M (f_X10_matches_L48 n v1 v2 v3 v4 M) := by
  intro n
  induction n with
  | zero => intro _ _ _ _ _; exact aw_none
  | succ n ih =>
    intro v1 v2 v3 v4 M
    rw [f_X10_matches_L48]
    refine aw_iload (i := 4) B 4 (by decide +kernel) rfl ?_
    refine aw_iload_n (k0 := 3) B 3 (by decide +kernel) rfl rfl ?_
    refine aw_icmp_ge (off := 30) B 81 (by decide +kernel) (by decide) (fun _ => ?_) (fun _ => ?_)
    · refine aw_iload_n (k0 := 3) B 3 (by decide +kernel) rfl rfl ?_
      exact aw_ireturn B (by decide +kernel) rfl
    · refine aw_aload_n (k0 := 0) B 0 (by decide +kernel) rfl rfl ?_
      refine aw_iload_n (k0 := 1) B 1 (by decide +kernel) rfl rfl ?_
      refine aw_iload_n (k0 := 2) B 2 (by decide +kernel) rfl rfl ?_
      refine aw_i2l B (by decide +kernel) ?_
      refine aw_ldc2 B (by decide +kernel) lwX10_103 ?_
      refine aw_iload (i := 4) B 4 (by decide +kernel) rfl ?_
      refine aw_i2l B (by decide +kernel) ?_
      refine aw_lmul B (by decide +kernel) ?_
      refine aw_ladd B (by decide +kernel) ?_
      refine aw_cVI B (c_X10_comesFromRow (eLa E) hG v1 (v2.toInt64 + ((2 : Int64) * v4.toInt64)) M) cvX10_105 rfl rfl (Nat.le_of_ble_eq_true rfl) rfl (Nat.le_of_ble_eq_true rfl) (by decide +kernel) rfl (fun x1 M2 => ?_)
      refine aw_if_ne (off := 6) B 75 (by decide +kernel) (by decide) (fun _ => ?_) (fun _ => ?_)
      · refine aw_iinc (i := 4) (n := 1) B 4 [(4, .int (v4 + 1)), (0, .ref 0), (1, .int v1), (2, .int v2), (3, .int v3)] (by decide +kernel) rfl (Nat.le_of_ble_eq_true rfl) (v4 + 1) (ab_inc (by decide)) rfl ?_
        refine aw_goto (off := -30) B 48 (by decide +kernel) (by decide) ?_
        exact aw_sub [1, 2, 3, 4, 0] rfl (ih _ _ _ _ _)
      · refine aw_iload (i := 4) B 4 (by decide +kernel) rfl ?_
        exact aw_ireturn B (by decide +kernel) rfl
def f_X10_matches_b45 (v1 : Int32) (v2 : Int32) (v3 : Int32) (M : Mem) : Option (Int32 × Mem) := f_X10_matches_L48 FU v1 v2 v3 (0 : Int32) M
set_option maxRecDepth 100000 in
set_option maxHeartbeats 4000000 in
theorem w_X10_matches_b45 {G : GW} {E : EE} (hG : ab_ok G) (B : Bx G E RX10 cX10_matches 5 5 (some .int)) (v1 : Int32) (v2 : Int32) (v3 : Int32) (M : Mem) : AWo G E cX10_matches 5 (ab_Q G E embI) 45 [(0, .ref 0), (1, .int v1), (2, .int v2), (3, .int v3)] [] M (f_X10_matches_b45 v1 v2 v3 M) := by
  unfold f_X10_matches_b45
  refine aw_iconst (n := 0) (v := (0 : Int32)) B (by decide +kernel) (by decide) ?_
  refine aw_istore (i := 4) B [(4, .int (0 : Int32)), (0, .ref 0), (1, .int v1), (2, .int v2), (3, .int v3)] (by decide +kernel) (Nat.le_of_ble_eq_true rfl) rfl ?_
  exact aw_sub [1, 2, 3, 4, 0] rfl (w_X10_matches_L48 hG B FU _ _ _ _ _)
def f_X10_matches (v1 : Int32) (v2 : Int32) (v3 : Int32) (M : Mem) : Option (Int32 × Mem) := (f_X9_isShelf v1).bind fun x1 => (if x1 = 0 then (some ((-1 : Int32), M)) else (if v3 < (1 : Int32) then (some ((-1 : Int32), M)) else (if v3 ≤ (12 : Int32) then (f_X9_isEmpty v1 M).bind fun x3 => (if x3 = 0 then (f_X9_holdsBytes v1 M).bind fun x5 => (if x5 = 0 then (some ((-12 : Int32), M)) else f_X10_matches_b45 v1 v2 v3 M) else f_X10_matches_b45 v1 v2 v3 M) else (some ((-1 : Int32), M)))))
set_option maxRecDepth 100000 in
set_option maxHeartbeats 4000000 in
theorem w_X10_matches {G : GW} {E : EE} (hG : ab_ok G) (B : Bx G E RX10 cX10_matches 5 5 (some .int)) (v1 : Int32) (v2 : Int32) (v3 : Int32) (M : Mem) : AWo G E cX10_matches 5 (ab_Q G E embI) 0 [(0, .ref 0), (1, .int v1), (2, .int v2), (3, .int v3)] [] M (f_X10_matches v1 v2 v3 M) := by
  unfold f_X10_matches
  refine aw_iload_n (k0 := 1) B 1 (by decide +kernel) rfl rfl ?_
  refine aw_cSR B (c_X9_isShelf (eLa E) hG v1 M) csX10_94 (Nat.le_of_ble_eq_true rfl) rfl (Nat.le_of_ble_eq_true rfl) (by decide +kernel) rfl (fun x1 => ?_)
  refine aw_if_eq (off := 14) B 18 (by decide +kernel) (by decide) (fun _ => ?_) (fun _ => ?_)
  · refine aw_iconst (n := -1) (v := (-1 : Int32)) B (by decide +kernel) (by decide) ?_
    exact aw_ireturn B (by decide +kernel) rfl
  · refine aw_iload_n (k0 := 3) B 3 (by decide +kernel) rfl rfl ?_
    refine aw_iconst (n := 1) (v := (1 : Int32)) B (by decide +kernel) (by decide) ?_
    refine aw_icmp_lt (off := 9) B 18 (by decide +kernel) (by decide) (fun _ => ?_) (fun _ => ?_)
    · refine aw_iconst (n := -1) (v := (-1 : Int32)) B (by decide +kernel) (by decide) ?_
      exact aw_ireturn B (by decide +kernel) rfl
    · refine aw_iload_n (k0 := 3) B 3 (by decide +kernel) rfl rfl ?_
      refine aw_bipush (n := 12) (v := (12 : Int32)) B (by decide +kernel) (by decide) ?_
      refine aw_icmp_le (off := 5) B 20 (by decide +kernel) (by decide) (fun _ => ?_) (fun _ => ?_)
      · refine aw_aload_n (k0 := 0) B 0 (by decide +kernel) rfl rfl ?_
        refine aw_getr (c := 0) B lkX10_75 (by decide +kernel) rfl (r := 43) rfl ?_
        refine aw_iload_n (k0 := 1) B 1 (by decide +kernel) rfl rfl ?_
        refine aw_cVR B (c_X9_isEmpty (eLa E) hG v1 M) cvX10_97 rfl rfl (Nat.le_of_ble_eq_true rfl) rfl (Nat.le_of_ble_eq_true rfl) (by decide +kernel) rfl (fun x3 => ?_)
        refine aw_if_ne (off := 17) B 45 (by decide +kernel) (by decide) (fun _ => ?_) (fun _ => ?_)
        · exact w_X10_matches_b45 hG B _ _ _ _
        · refine aw_aload_n (k0 := 0) B 0 (by decide +kernel) rfl rfl ?_
          refine aw_getr (c := 0) B lkX10_75 (by decide +kernel) rfl (r := 43) rfl ?_
          refine aw_iload_n (k0 := 1) B 1 (by decide +kernel) rfl rfl ?_
          refine aw_cVR B (c_X9_holdsBytes (eLa E) hG v1 M) cvX10_100 rfl rfl (Nat.le_of_ble_eq_true rfl) rfl (Nat.le_of_ble_eq_true rfl) (by decide +kernel) rfl (fun x5 => ?_)
          refine aw_if_ne (off := 6) B 45 (by decide +kernel) (by decide) (fun _ => ?_) (fun _ => ?_)
          · exact w_X10_matches_b45 hG B _ _ _ _
          · refine aw_bipush (n := -12) (v := (-12 : Int32)) B (by decide +kernel) (by decide) ?_
            exact aw_ireturn B (by decide +kernel) rfl
      · refine aw_iconst (n := -1) (v := (-1 : Int32)) B (by decide +kernel) (by decide) ?_
        exact aw_ireturn B (by decide +kernel) rfl
theorem c_X10_matches (l : Launch) {G : GW} (hG : ab_ok G) (v1 : Int32) (v2 : Int32) (v3 : Int32) (M : Mem) : AC l G yX10_matches cX10_matches 5 (some .int) 5 [.ref 0, .int v1, .int v2, .int v3] M embI (f_X10_matches v1 v2 v3 M) := AC.of hG (by decide) (Nat.le_of_ble_eq_true rfl) (fun E hE B => by subst hE; exact w_X10_matches hG B v1 v2 v3 M)
def f_X11_isShelf (v0 : Int32) : Option Int32 := (f_X11_within v0.toInt64 (0 : Int64) (5 : Int64)).bind fun x1 => ck (okB x1) (some x1)
set_option maxRecDepth 100000 in
set_option maxHeartbeats 4000000 in
theorem w_X11_isShelf {G : GW} {E : EE} (hG : ab_ok G) (B : Bx G E RX11 cX11_isShelf 1 3 (some .boolean)) (v0 : Int32) (M : Mem) : AWo G E cX11_isShelf 1 (ab_Q G E (embRI M)) 0 [(0, .int v0)] [] M (f_X11_isShelf v0) := by
  unfold f_X11_isShelf
  refine aw_iload_n (k0 := 0) B 0 (by decide +kernel) rfl rfl ?_
  refine aw_i2l B (by decide +kernel) ?_
  refine aw_lconst (n := 0) (v := (0 : Int64)) B (by decide +kernel) (by decide) ?_
  refine aw_ldc2 B (by decide +kernel) lwX11_372 ?_
  refine aw_cSR B (c_X11_within (eLa E) hG v0.toInt64 (0 : Int64) (5 : Int64) M) csX11_112 (Nat.le_of_ble_eq_true rfl) rfl (Nat.le_of_ble_eq_true rfl) (by decide +kernel) rfl (fun x1 => ?_)
  exact aw_zreturn B (by decide +kernel) rfl
theorem c_X11_isShelf (l : Launch) {G : GW} (hG : ab_ok G) (v0 : Int32) (M : Mem) : AC l G yX11_isShelf cX11_isShelf 1 (some .boolean) 3 [.int v0] M (embRI M) (f_X11_isShelf v0) := AC.of hG (by decide) (Nat.le_of_ble_eq_true rfl) (fun E hE B => by subst hE; exact w_X11_isShelf hG B v0 M)
def f_X11_matches_b191 (k69 : Int32 → Int32 → Int32 → Int32 → Int32 → Mem → Option (Int32 × Mem)) (v1 : Int32) (v2 : Int32) (v3 : Int32) (v4 : Int32) (v5 : Int32) (M : Mem) : Option (Int32 × Mem) := k69 v1 v2 v3 v4 v5 M
set_option maxRecDepth 100000 in
set_option maxHeartbeats 4000000 in
theorem w_X11_matches_b191 {G : GW} {E : EE} (hG : ab_ok G) {k69 : Int32 → Int32 → Int32 → Int32 → Int32 → Mem → Option (Int32 × Mem)} (B : Bx G E RX11 cX11_matches 7 4 (some .int)) (hk69 : ∀ (v1 : Int32) (v2 : Int32) (v3 : Int32) (v4 : Int32) (v5 : Int32) (M : Mem), AWo G E cX11_matches 7 (ab_Q G E embI) 69 [(0, .ref 47), (1, .int v1), (2, .int v2), (3, .int v3), (4, .int v4), (5, .int v5)] [] M (k69 v1 v2 v3 v4 v5 M)) (v1 : Int32) (v2 : Int32) (v3 : Int32) (v4 : Int32) (v5 : Int32) (M : Mem) : AWo G E cX11_matches 7 (ab_Q G E embI) 191 [(0, .ref 47), (1, .int v1), (2, .int v2), (3, .int v3), (4, .int v4), (5, .int v5)] [] M (f_X11_matches_b191 k69 v1 v2 v3 v4 v5 M) := by
  unfold f_X11_matches_b191
  refine aw_goto (off := -122) B 69 (by decide +kernel) (by decide) ?_
  exact hk69 _ _ _ _ _ _
def f_X11_matches_b159 (k69 : Int32 → Int32 → Int32 → Int32 → Int32 → Mem → Option (Int32 × Mem)) (v1 : Int32) (v2 : Int32) (v3 : Int32) (v4 : Int32) (v6 : Int32) (s0 : Int32) (M : Mem) : Option (Int32 × Mem) := (if s0 = 0 then f_X11_matches_b191 k69 v1 v2 v3 v4 s0 M else ck (okL 75 v6) (ck (okL 75 (v6 + (1 : Int32))) ((f_X11_adds ((M.2.1 75 v6.toNatClampNeg).toInt32) ((M.2.1 75 (v6 + (1 : Int32)).toNatClampNeg).toInt32) M).bind fun M2 => f_X11_matches_b191 k69 v1 v2 v3 (v4 + 1) s0 M2)))
set_option maxRecDepth 100000 in
set_option maxHeartbeats 4000000 in
theorem w_X11_matches_b159 {G : GW} {E : EE} (hG : ab_ok G) {k69 : Int32 → Int32 → Int32 → Int32 → Int32 → Mem → Option (Int32 × Mem)} (B : Bx G E RX11 cX11_matches 7 4 (some .int)) (hk69 : ∀ (v1 : Int32) (v2 : Int32) (v3 : Int32) (v4 : Int32) (v5 : Int32) (M : Mem), AWo G E cX11_matches 7 (ab_Q G E embI) 69 [(0, .ref 47), (1, .int v1), (2, .int v2), (3, .int v3), (4, .int v4), (5, .int v5)] [] M (k69 v1 v2 v3 v4 v5 M)) (v1 : Int32) (v2 : Int32) (v3 : Int32) (v4 : Int32) (v6 : Int32) (s0 : Int32) (M : Mem) : AWo G E cX11_matches 7 (ab_Q G E embI) 159 [(0, .ref 47), (1, .int v1), (2, .int v2), (3, .int v3), (4, .int v4), (6, .int v6)] [.int s0] M (f_X11_matches_b159 k69 v1 v2 v3 v4 v6 s0 M) := by
  unfold f_X11_matches_b159
  refine aw_istore (i := 5) B [(5, .int s0), (0, .ref 47), (1, .int v1), (2, .int v2), (3, .int v3), (4, .int v4), (6, .int v6)] (by decide +kernel) (Nat.le_of_ble_eq_true rfl) rfl ?_
  refine aw_iload (i := 5) B 0 (by decide +kernel) rfl ?_
  refine aw_if_eq (off := 28) B 191 (by decide +kernel) (by decide) (fun _ => ?_) (fun _ => ?_)
  · exact aw_sub [1, 2, 3, 4, 5, 0] rfl (w_X11_matches_b191 hG B hk69 _ _ _ _ _ _)
  · refine aw_aload_n (k0 := 0) B 1 (by decide +kernel) rfl rfl ?_
    refine aw_aload_n (k0 := 0) B 1 (by decide +kernel) rfl rfl ?_
    refine aw_getr (c := 47) B lkX11_93 (by decide +kernel) rfl (r := 75) rfl ?_
    refine aw_iload (i := 6) B 6 (by decide +kernel) rfl ?_
    refine aw_laload B (by decide +kernel) ?_
    refine aw_l2i B (by decide +kernel) ?_
    refine aw_aload_n (k0 := 0) B 1 (by decide +kernel) rfl rfl ?_
    refine aw_getr (c := 47) B lkX11_93 (by decide +kernel) rfl (r := 75) rfl ?_
    refine aw_iload (i := 6) B 6 (by decide +kernel) rfl ?_
    refine aw_iconst (n := 1) (v := (1 : Int32)) B (by decide +kernel) (by decide) ?_
    refine aw_iadd B (by decide +kernel) ?_
    refine aw_laload B (by decide +kernel) ?_
    refine aw_l2i B (by decide +kernel) ?_
    refine aw_cVV B (c_X11_adds (eLa E) hG ((M.2.1 75 v6.toNatClampNeg).toInt32) ((M.2.1 75 (v6 + (1 : Int32)).toNatClampNeg).toInt32) M) cvX11_125 rfl rfl (Nat.le_of_ble_eq_true rfl) rfl (Nat.le_of_ble_eq_true rfl) (by decide +kernel) rfl (fun M2 => ?_)
    refine aw_iinc (i := 4) (n := 1) B 5 [(4, .int (v4 + 1)), (5, .int s0), (0, .ref 47), (1, .int v1), (2, .int v2), (3, .int v3), (6, .int v6)] (by decide +kernel) rfl (Nat.le_of_ble_eq_true rfl) (v4 + 1) (ab_inc (by decide)) rfl ?_
    exact aw_sub [2, 3, 4, 5, 0, 1] rfl (w_X11_matches_b191 hG B hk69 _ _ _ _ _ _)
def f_X11_matches_b158 (k69 : Int32 → Int32 → Int32 → Int32 → Int32 → Mem → Option (Int32 × Mem)) (v1 : Int32) (v2 : Int32) (v3 : Int32) (v4 : Int32) (v6 : Int32) (M : Mem) : Option (Int32 × Mem) := f_X11_matches_b159 k69 v1 v2 v3 v4 v6 (0 : Int32) M
set_option maxRecDepth 100000 in
set_option maxHeartbeats 4000000 in
theorem w_X11_matches_b158 {G : GW} {E : EE} (hG : ab_ok G) {k69 : Int32 → Int32 → Int32 → Int32 → Int32 → Mem → Option (Int32 × Mem)} (B : Bx G E RX11 cX11_matches 7 4 (some .int)) (hk69 : ∀ (v1 : Int32) (v2 : Int32) (v3 : Int32) (v4 : Int32) (v5 : Int32) (M : Mem), AWo G E cX11_matches 7 (ab_Q G E embI) 69 [(0, .ref 47), (1, .int v1), (2, .int v2), (3, .int v3), (4, .int v4), (5, .int v5)] [] M (k69 v1 v2 v3 v4 v5 M)) (v1 : Int32) (v2 : Int32) (v3 : Int32) (v4 : Int32) (v6 : Int32) (M : Mem) : AWo G E cX11_matches 7 (ab_Q G E embI) 158 [(0, .ref 47), (1, .int v1), (2, .int v2), (3, .int v3), (4, .int v4), (6, .int v6)] [] M (f_X11_matches_b158 k69 v1 v2 v3 v4 v6 M) := by
  unfold f_X11_matches_b158
  refine aw_iconst (n := 0) (v := (0 : Int32)) B (by decide +kernel) (by decide) ?_
  exact w_X11_matches_b159 hG B hk69 _ _ _ _ _ _ _
def f_X11_matches_b111 (k69 : Int32 → Int32 → Int32 → Int32 → Int32 → Mem → Option (Int32 × Mem)) (v1 : Int32) (v2 : Int32) (v3 : Int32) (v4 : Int32) (s0 : Int32) (M : Mem) : Option (Int32 × Mem) := lt ((((60 : Int32) * v1) + v2) + ((2 : Int32) * v4)) fun x1 => (if s0 = 0 then f_X11_matches_b158 k69 v1 v2 v3 v4 x1 M else ck (okL 75 x1) (ck (okL 75 (x1 + (1 : Int32))) ((f_X11_areTwo (M.2.1 75 x1.toNatClampNeg) (M.2.1 75 (x1 + (1 : Int32)).toNatClampNeg) M).bind fun x2 => (if x2 = 0 then f_X11_matches_b158 k69 v1 v2 v3 v4 x1 M else f_X11_matches_b159 k69 v1 v2 v3 v4 x1 (1 : Int32) M))))
set_option maxRecDepth 100000 in
set_option maxHeartbeats 4000000 in
theorem w_X11_matches_b111 {G : GW} {E : EE} (hG : ab_ok G) {k69 : Int32 → Int32 → Int32 → Int32 → Int32 → Mem → Option (Int32 × Mem)} (B : Bx G E RX11 cX11_matches 7 4 (some .int)) (hk69 : ∀ (v1 : Int32) (v2 : Int32) (v3 : Int32) (v4 : Int32) (v5 : Int32) (M : Mem), AWo G E cX11_matches 7 (ab_Q G E embI) 69 [(0, .ref 47), (1, .int v1), (2, .int v2), (3, .int v3), (4, .int v4), (5, .int v5)] [] M (k69 v1 v2 v3 v4 v5 M)) (v1 : Int32) (v2 : Int32) (v3 : Int32) (v4 : Int32) (s0 : Int32) (M : Mem) : AWo G E cX11_matches 7 (ab_Q G E embI) 111 [(0, .ref 47), (1, .int v1), (2, .int v2), (3, .int v3), (4, .int v4)] [.int s0] M (f_X11_matches_b111 k69 v1 v2 v3 v4 s0 M) := by
  unfold f_X11_matches_b111
  refine aw_istore (i := 5) B [(5, .int s0), (0, .ref 47), (1, .int v1), (2, .int v2), (3, .int v3), (4, .int v4)] (by decide +kernel) (Nat.le_of_ble_eq_true rfl) rfl ?_
  refine aw_bipush (n := 60) (v := (60 : Int32)) B (by decide +kernel) (by decide) ?_
  refine aw_iload_n (k0 := 1) B 2 (by decide +kernel) rfl rfl ?_
  refine aw_imul B (by decide +kernel) ?_
  refine aw_iload_n (k0 := 2) B 3 (by decide +kernel) rfl rfl ?_
  refine aw_iadd B (by decide +kernel) ?_
  refine aw_iconst (n := 2) (v := (2 : Int32)) B (by decide +kernel) (by decide) ?_
  refine aw_iload (i := 4) B 5 (by decide +kernel) rfl ?_
  refine aw_imul B (by decide +kernel) ?_
  refine aw_iadd B (by decide +kernel) ?_
  refine aw_ltI (fun x1 => ?_)
  refine aw_istore (i := 6) B [(6, .int x1), (5, .int s0), (0, .ref 47), (1, .int v1), (2, .int v2), (3, .int v3), (4, .int v4)] (by decide +kernel) (Nat.le_of_ble_eq_true rfl) rfl ?_
  refine aw_iload (i := 5) B 1 (by decide +kernel) rfl ?_
  refine aw_if_eq (off := 30) B 158 (by decide +kernel) (by decide) (fun _ => ?_) (fun _ => ?_)
  · exact aw_sub [2, 3, 4, 5, 6, 0] rfl (w_X11_matches_b158 hG B hk69 _ _ _ _ _ _)
  · refine aw_aload_n (k0 := 0) B 2 (by decide +kernel) rfl rfl ?_
    refine aw_aload_n (k0 := 0) B 2 (by decide +kernel) rfl rfl ?_
    refine aw_getr (c := 47) B lkX11_93 (by decide +kernel) rfl (r := 75) rfl ?_
    refine aw_iload (i := 6) B 0 (by decide +kernel) rfl ?_
    refine aw_laload B (by decide +kernel) ?_
    refine aw_aload_n (k0 := 0) B 2 (by decide +kernel) rfl rfl ?_
    refine aw_getr (c := 47) B lkX11_93 (by decide +kernel) rfl (r := 75) rfl ?_
    refine aw_iload (i := 6) B 0 (by decide +kernel) rfl ?_
    refine aw_iconst (n := 1) (v := (1 : Int32)) B (by decide +kernel) (by decide) ?_
    refine aw_iadd B (by decide +kernel) ?_
    refine aw_laload B (by decide +kernel) ?_
    refine aw_cVR B (c_X11_areTwo (eLa E) hG (M.2.1 75 x1.toNatClampNeg) (M.2.1 75 (x1 + (1 : Int32)).toNatClampNeg) M) cvX11_121 rfl rfl (Nat.le_of_ble_eq_true rfl) rfl (Nat.le_of_ble_eq_true rfl) (by decide +kernel) rfl (fun x2 => ?_)
    refine aw_if_eq (off := 7) B 158 (by decide +kernel) (by decide) (fun _ => ?_) (fun _ => ?_)
    · exact aw_sub [2, 3, 4, 5, 6, 0] rfl (w_X11_matches_b158 hG B hk69 _ _ _ _ _ _)
    · refine aw_iconst (n := 1) (v := (1 : Int32)) B (by decide +kernel) (by decide) ?_
      refine aw_goto (off := 4) B 159 (by decide +kernel) (by decide) ?_
      exact aw_sub [2, 3, 4, 5, 6, 0] rfl (w_X11_matches_b159 hG B hk69 _ _ _ _ _ _ _)
def f_X11_matches_b110 (k69 : Int32 → Int32 → Int32 → Int32 → Int32 → Mem → Option (Int32 × Mem)) (v1 : Int32) (v2 : Int32) (v3 : Int32) (v4 : Int32) (M : Mem) : Option (Int32 × Mem) := f_X11_matches_b111 k69 v1 v2 v3 v4 (0 : Int32) M
set_option maxRecDepth 100000 in
set_option maxHeartbeats 4000000 in
theorem w_X11_matches_b110 {G : GW} {E : EE} (hG : ab_ok G) {k69 : Int32 → Int32 → Int32 → Int32 → Int32 → Mem → Option (Int32 × Mem)} (B : Bx G E RX11 cX11_matches 7 4 (some .int)) (hk69 : ∀ (v1 : Int32) (v2 : Int32) (v3 : Int32) (v4 : Int32) (v5 : Int32) (M : Mem), AWo G E cX11_matches 7 (ab_Q G E embI) 69 [(0, .ref 47), (1, .int v1), (2, .int v2), (3, .int v3), (4, .int v4), (5, .int v5)] [] M (k69 v1 v2 v3 v4 v5 M)) (v1 : Int32) (v2 : Int32) (v3 : Int32) (v4 : Int32) (M : Mem) : AWo G E cX11_matches 7 (ab_Q G E embI) 110 [(0, .ref 47), (1, .int v1), (2, .int v2), (3, .int v3), (4, .int v4)] [] M (f_X11_matches_b110 k69 v1 v2 v3 v4 M) := by
  unfold f_X11_matches_b110
  refine aw_iconst (n := 0) (v := (0 : Int32)) B (by decide +kernel) (by decide) ?_
  exact w_X11_matches_b111 hG B hk69 _ _ _ _ _ _
def f_X11_matches_L69 : Nat → Int32 → Int32 → Int32 → Int32 → Int32 → Mem → Option (Int32 × Mem)
  | 0, _, _, _, _, _, _ => none
  | n + 1, v1, v2, v3, v4, v5, M => (if v5 = 0 then (some (v4, M)) else (if v3 ≤ v4 then (some (v4, M)) else ck (okI 74 v1) ((if (((M.1 74 v1.toNatClampNeg) - (2 : Int32)) - ((2 : Int32) * v4)) < v2 then f_X11_matches_b110 (fun a0 a1 a2 a3 a4 a5 => f_X11_matches_L69 n a0 a1 a2 a3 a4 a5) v1 v2 v3 v4 M else (if (12 : Int32) ≤ (M.1 47 7) then f_X11_matches_b110 (fun a0 a1 a2 a3 a4 a5 => f_X11_matches_L69 n a0 a1 a2 a3 a4 a5) v1 v2 v3 v4 M else f_X11_matches_b111 (fun a0 a1 a2 a3 a4 a5 => f_X11_matches_L69 n a0 a1 a2 a3 a4 a5) v1 v2 v3 v4 (1 : Int32) M)))))
set_option maxRecDepth 100000 in
set_option maxHeartbeats 4000000 in
theorem w_X11_matches_L69 {G : GW} {E : EE} (hG : ab_ok G) (B : Bx G E RX11 cX11_matches 7 4 (some .int)) : ∀ (n : Nat) (v1 : Int32) (v2 : Int32) (v3 : Int32) (v4 : Int32) (v5 : Int32) (M : Mem), AWo G E cX11_matches 7 (ab_Q G E embI) 69 [(0, .ref 47), (1, .int v1), (2, .int v2), (3, .int v3), (4, .int v4), (5, .int v5)] [] M (f_X11_matches_L69 n v1 v2 v3 v4 v5 M) := by
  intro n
  induction n with
  | zero => intro _ _ _ _ _ _; exact aw_none
  | succ n ih =>
    intro v1 v2 v3 v4 v5 M
    rw [f_X11_matches_L69]
    refine aw_iload (i := 5) B 5 (by decide +kernel) rfl ?_
    refine aw_if_eq (off := 123) B 194 (by decide +kernel) (by decide) (fun _ => ?_) (fun _ => ?_)
    · refine aw_iload (i := 4) B 4 (by decide +kernel) rfl ?_
      exact aw_ireturn B (by decide +kernel) rfl
    · refine aw_iload (i := 4) B 4 (by decide +kernel) rfl ?_
      refine aw_iload_n (k0 := 3) B 3 (by decide +kernel) rfl rfl ?_
      refine aw_icmp_ge (off := 117) B 194 (by decide +kernel) (by decide) (fun _ => ?_) (fun _ => ?_)
      · refine aw_iload (i := 4) B 4 (by decide +kernel) rfl ?_
        exact aw_ireturn B (by decide +kernel) rfl
      · refine aw_iload_n (k0 := 2) B 2 (by decide +kernel) rfl rfl ?_
        refine aw_aload_n (k0 := 0) B 0 (by decide +kernel) rfl rfl ?_
        refine aw_getr (c := 47) B lkX11_90 (by decide +kernel) rfl (r := 74) rfl ?_
        refine aw_iload_n (k0 := 1) B 1 (by decide +kernel) rfl rfl ?_
        refine aw_iaload B (by decide +kernel) ?_
        refine aw_iconst (n := 2) (v := (2 : Int32)) B (by decide +kernel) (by decide) ?_
        refine aw_isub B (by decide +kernel) ?_
        refine aw_iconst (n := 2) (v := (2 : Int32)) B (by decide +kernel) (by decide) ?_
        refine aw_iload (i := 4) B 4 (by decide +kernel) rfl ?_
        refine aw_imul B (by decide +kernel) ?_
        refine aw_isub B (by decide +kernel) ?_
        refine aw_icmp_gt (off := 16) B 110 (by decide +kernel) (by decide) (fun _ => ?_) (fun _ => ?_)
        · exact aw_sub [0, 1, 2, 3, 4] rfl (w_X11_matches_b110 hG B ih _ _ _ _ _)
        · refine aw_aload_n (k0 := 0) B 0 (by decide +kernel) rfl rfl ?_
          refine aw_geti (c := 47) B lkX11_116 (by decide +kernel) rfl ?_
          refine aw_bipush (n := 12) (v := (12 : Int32)) B (by decide +kernel) (by decide) ?_
          refine aw_icmp_ge (off := 7) B 110 (by decide +kernel) (by decide) (fun _ => ?_) (fun _ => ?_)
          · exact aw_sub [0, 1, 2, 3, 4] rfl (w_X11_matches_b110 hG B ih _ _ _ _ _)
          · refine aw_iconst (n := 1) (v := (1 : Int32)) B (by decide +kernel) (by decide) ?_
            refine aw_goto (off := 4) B 111 (by decide +kernel) (by decide) ?_
            exact aw_sub [0, 1, 2, 3, 4] rfl (w_X11_matches_b111 hG B ih _ _ _ _ _ _)
def f_X11_matches_b67 (v1 : Int32) (v2 : Int32) (v3 : Int32) (v4 : Int32) (s0 : Int32) (M : Mem) : Option (Int32 × Mem) := f_X11_matches_L69 FU v1 v2 v3 v4 s0 M
set_option maxRecDepth 100000 in
set_option maxHeartbeats 4000000 in
theorem w_X11_matches_b67 {G : GW} {E : EE} (hG : ab_ok G) (B : Bx G E RX11 cX11_matches 7 4 (some .int)) (v1 : Int32) (v2 : Int32) (v3 : Int32) (v4 : Int32) (s0 : Int32) (M : Mem) : AWo G E cX11_matches 7 (ab_Q G E embI) 67 [(0, .ref 47), (1, .int v1), (2, .int v2), (3, .int v3), (4, .int v4)] [.int s0] M (f_X11_matches_b67 v1 v2 v3 v4 s0 M) := by
  unfold f_X11_matches_b67
  refine aw_istore (i := 5) B [(5, .int s0), (0, .ref 47), (1, .int v1), (2, .int v2), (3, .int v3), (4, .int v4)] (by decide +kernel) (Nat.le_of_ble_eq_true rfl) rfl ?_
  exact aw_sub [1, 2, 3, 4, 5, 0] rfl (w_X11_matches_L69 hG B FU _ _ _ _ _ _)
def f_X11_matches_b66 (v1 : Int32) (v2 : Int32) (v3 : Int32) (v4 : Int32) (M : Mem) : Option (Int32 × Mem) := f_X11_matches_b67 v1 v2 v3 v4 (0 : Int32) M
set_option maxRecDepth 100000 in
set_option maxHeartbeats 4000000 in
theorem w_X11_matches_b66 {G : GW} {E : EE} (hG : ab_ok G) (B : Bx G E RX11 cX11_matches 7 4 (some .int)) (v1 : Int32) (v2 : Int32) (v3 : Int32) (v4 : Int32) (M : Mem) : AWo G E cX11_matches 7 (ab_Q G E embI) 66 [(0, .ref 47), (1, .int v1), (2, .int v2), (3, .int v3), (4, .int v4)] [] M (f_X11_matches_b66 v1 v2 v3 v4 M) := by
  unfold f_X11_matches_b66
  refine aw_iconst (n := 0) (v := (0 : Int32)) B (by decide +kernel) (by decide) ?_
  exact w_X11_matches_b67 hG B _ _ _ _ _ _
def f_X11_matches_b44 (v1 : Int32) (v2 : Int32) (v3 : Int32) (M : Mem) : Option (Int32 × Mem) := ck (okI 73 v1) ((if (M.1 73 v1.toNatClampNeg) = (50 : Int32) then (if v2 < 0 then f_X11_matches_b66 v1 v2 v3 (0 : Int32) M else f_X11_matches_b67 v1 v2 v3 (0 : Int32) (1 : Int32) M) else f_X11_matches_b66 v1 v2 v3 (0 : Int32) M))
set_option maxRecDepth 100000 in
set_option maxHeartbeats 4000000 in
theorem w_X11_matches_b44 {G : GW} {E : EE} (hG : ab_ok G) (B : Bx G E RX11 cX11_matches 7 4 (some .int)) (v1 : Int32) (v2 : Int32) (v3 : Int32) (M : Mem) : AWo G E cX11_matches 7 (ab_Q G E embI) 44 [(0, .ref 47), (1, .int v1), (2, .int v2), (3, .int v3)] [] M (f_X11_matches_b44 v1 v2 v3 M) := by
  unfold f_X11_matches_b44
  refine aw_iconst (n := 0) (v := (0 : Int32)) B (by decide +kernel) (by decide) ?_
  refine aw_istore (i := 4) B [(4, .int (0 : Int32)), (0, .ref 47), (1, .int v1), (2, .int v2), (3, .int v3)] (by decide +kernel) (Nat.le_of_ble_eq_true rfl) rfl ?_
  refine aw_aload_n (k0 := 0) B 1 (by decide +kernel) rfl rfl ?_
  refine aw_getr (c := 47) B lkX11_87 (by decide +kernel) rfl (r := 73) rfl ?_
  refine aw_iload_n (k0 := 1) B 2 (by decide +kernel) rfl rfl ?_
  refine aw_iaload B (by decide +kernel) ?_
  refine aw_bipush (n := 50) (v := (50 : Int32)) B (by decide +kernel) (by decide) ?_
  refine aw_icmp_ne (off := 11) B 66 (by decide +kernel) (by decide) (fun _ => ?_) (fun _ => ?_)
  · exact aw_sub [1, 2, 3, 4, 0] rfl (w_X11_matches_b66 hG B _ _ _ _ _)
  · refine aw_iload_n (k0 := 2) B 3 (by decide +kernel) rfl rfl ?_
    refine aw_if_lt (off := 7) B 66 (by decide +kernel) (by decide) (fun _ => ?_) (fun _ => ?_)
    · exact aw_sub [1, 2, 3, 4, 0] rfl (w_X11_matches_b66 hG B _ _ _ _ _)
    · refine aw_iconst (n := 1) (v := (1 : Int32)) B (by decide +kernel) (by decide) ?_
      refine aw_goto (off := 4) B 67 (by decide +kernel) (by decide) ?_
      exact aw_sub [1, 2, 3, 4, 0] rfl (w_X11_matches_b67 hG B _ _ _ _ _ _)
def f_X11_matches (v1 : Int32) (v2 : Int32) (v3 : Int32) (M : Mem) : Option (Int32 × Mem) := (f_X11_isShelf v1).bind fun x1 => (if x1 = 0 then (some ((-1 : Int32), M)) else (f_X11_within v3.toInt64 (1 : Int64) (12 : Int64)).bind fun x3 => (if x3 = 0 then (some ((-1 : Int32), M)) else ck (okI 73 v1) ((if (M.1 73 v1.toNatClampNeg) < 0 then f_X11_matches_b44 v1 v2 v3 M else ck (okI 73 v1) ((if (M.1 73 v1.toNatClampNeg) = (50 : Int32) then f_X11_matches_b44 v1 v2 v3 M else (some ((-12 : Int32), M))))))))
set_option maxRecDepth 100000 in
set_option maxHeartbeats 4000000 in
theorem w_X11_matches {G : GW} {E : EE} (hG : ab_ok G) (B : Bx G E RX11 cX11_matches 7 4 (some .int)) (v1 : Int32) (v2 : Int32) (v3 : Int32) (M : Mem) : AWo G E cX11_matches 7 (ab_Q G E embI) 0 [(0, .ref 47), (1, .int v1), (2, .int v2), (3, .int v3)] [] M (f_X11_matches v1 v2 v3 M) := by
  unfold f_X11_matches
  refine aw_iload_n (k0 := 1) B 1 (by decide +kernel) rfl rfl ?_
  refine aw_cSR B (c_X11_isShelf (eLa E) hG v1 M) csX11_129 (Nat.le_of_ble_eq_true rfl) rfl (Nat.le_of_ble_eq_true rfl) (by decide +kernel) rfl (fun x1 => ?_)
  refine aw_if_eq (off := 15) B 19 (by decide +kernel) (by decide) (fun _ => ?_) (fun _ => ?_)
  · refine aw_iconst (n := -1) (v := (-1 : Int32)) B (by decide +kernel) (by decide) ?_
    exact aw_ireturn B (by decide +kernel) rfl
  · refine aw_iload_n (k0 := 3) B 3 (by decide +kernel) rfl rfl ?_
    refine aw_i2l B (by decide +kernel) ?_
    refine aw_lconst (n := 1) (v := (1 : Int64)) B (by decide +kernel) (by decide) ?_
    refine aw_ldc2 B (by decide +kernel) lwX11_133 ?_
    refine aw_cSR B (c_X11_within (eLa E) hG v3.toInt64 (1 : Int64) (12 : Int64) M) csX11_112 (Nat.le_of_ble_eq_true rfl) rfl (Nat.le_of_ble_eq_true rfl) (by decide +kernel) rfl (fun x3 => ?_)
    refine aw_if_ne (off := 5) B 21 (by decide +kernel) (by decide) (fun _ => ?_) (fun _ => ?_)
    · refine aw_aload_n (k0 := 0) B 0 (by decide +kernel) rfl rfl ?_
      refine aw_getr (c := 47) B lkX11_87 (by decide +kernel) rfl (r := 73) rfl ?_
      refine aw_iload_n (k0 := 1) B 1 (by decide +kernel) rfl rfl ?_
      refine aw_iaload B (by decide +kernel) ?_
      refine aw_if_lt (off := 17) B 44 (by decide +kernel) (by decide) (fun _ => ?_) (fun _ => ?_)
      · exact w_X11_matches_b44 hG B _ _ _ _
      · refine aw_aload_n (k0 := 0) B 0 (by decide +kernel) rfl rfl ?_
        refine aw_getr (c := 47) B lkX11_87 (by decide +kernel) rfl (r := 73) rfl ?_
        refine aw_iload_n (k0 := 1) B 1 (by decide +kernel) rfl rfl ?_
        refine aw_iaload B (by decide +kernel) ?_
        refine aw_bipush (n := 50) (v := (50 : Int32)) B (by decide +kernel) (by decide) ?_
        refine aw_icmp_eq (off := 6) B 44 (by decide +kernel) (by decide) (fun _ => ?_) (fun _ => ?_)
        · exact w_X11_matches_b44 hG B _ _ _ _
        · refine aw_bipush (n := -12) (v := (-12 : Int32)) B (by decide +kernel) (by decide) ?_
          exact aw_ireturn B (by decide +kernel) rfl
    · refine aw_iconst (n := -1) (v := (-1 : Int32)) B (by decide +kernel) (by decide) ?_
      exact aw_ireturn B (by decide +kernel) rfl
theorem c_X11_matches (l : Launch) {G : GW} (hG : ab_ok G) (v1 : Int32) (v2 : Int32) (v3 : Int32) (M : Mem) : AC l G yX11_matches cX11_matches 7 (some .int) 4 [.ref 47, .int v1, .int v2, .int v3] M embI (f_X11_matches v1 v2 v3 M) := AC.of hG (by decide) (Nat.le_of_ble_eq_true rfl) (fun E hE B => by subst hE; exact w_X11_matches hG B v1 v2 v3 M)
def f_X4_hasMatch (v1 : Int32) (M : Mem) : Option Int32 := (if v1 < 0 then (some (0 : Int32)) else (if (M.1 1 1) ≤ v1 then (some (0 : Int32)) else (some (1 : Int32))))
set_option maxRecDepth 100000 in
set_option maxHeartbeats 4000000 in
theorem w_X4_hasMatch {G : GW} {E : EE} (hG : ab_ok G) (B : Bx G E RX4 cX4_hasMatch 2 2 (some .boolean)) (v1 : Int32) (M : Mem) : AWo G E cX4_hasMatch 2 (ab_Q G E (embRI M)) 0 [(0, .ref 1), (1, .int v1)] [] M (f_X4_hasMatch v1 M) := by
  unfold f_X4_hasMatch
  refine aw_iload_n (k0 := 1) B 1 (by decide +kernel) rfl rfl ?_
  refine aw_if_lt (off := 15) B 16 (by decide +kernel) (by decide) (fun _ => ?_) (fun _ => ?_)
  · refine aw_iconst (n := 0) (v := (0 : Int32)) B (by decide +kernel) (by decide) ?_
    exact aw_zreturnK B (by decide +kernel) rfl (by decide)
  · refine aw_iload_n (k0 := 1) B 1 (by decide +kernel) rfl rfl ?_
    refine aw_aload_n (k0 := 0) B 0 (by decide +kernel) rfl rfl ?_
    refine aw_geti (c := 1) B lkX4_28 (by decide +kernel) rfl ?_
    refine aw_icmp_ge (off := 7) B 16 (by decide +kernel) (by decide) (fun _ => ?_) (fun _ => ?_)
    · refine aw_iconst (n := 0) (v := (0 : Int32)) B (by decide +kernel) (by decide) ?_
      exact aw_zreturnK B (by decide +kernel) rfl (by decide)
    · refine aw_iconst (n := 1) (v := (1 : Int32)) B (by decide +kernel) (by decide) ?_
      refine aw_goto (off := 4) B 17 (by decide +kernel) (by decide) ?_
      exact aw_zreturnK B (by decide +kernel) rfl (by decide)
theorem c_X4_hasMatch (l : Launch) {G : GW} (hG : ab_ok G) (v1 : Int32) (M : Mem) : AC l G yX4_hasMatch cX4_hasMatch 2 (some .boolean) 2 [.ref 1, .int v1] M (embRI M) (f_X4_hasMatch v1 M) := AC.of hG (by decide) (Nat.le_of_ble_eq_true rfl) (fun E hE B => by subst hE; exact w_X4_hasMatch hG B v1 M)
def f_X4_canBecome_b47 (M : Mem) : Option Int32 := (some (1 : Int32))
set_option maxRecDepth 100000 in
set_option maxHeartbeats 4000000 in
theorem w_X4_canBecome_b47 {G : GW} {E : EE} (hG : ab_ok G) (M : Mem) (B : Bx G E RX4 cX4_canBecome 4 3 (some .boolean))  : AWo G E cX4_canBecome 4 (ab_Q G E (embRI M)) 47 [] [] M (f_X4_canBecome_b47 M) := by
  unfold f_X4_canBecome_b47
  refine aw_iconst (n := 1) (v := (1 : Int32)) B (by decide +kernel) (by decide) ?_
  refine aw_goto (off := 4) B 52 (by decide +kernel) (by decide) ?_
  exact aw_zreturnK B (by decide +kernel) rfl (by decide)
def f_X4_canBecome (v1 : Int32) (v2 : Int32) (v3 : Int32) (M : Mem) : Option Int32 := (if v1 = 0 then (f_X4_hasPlayer v2 M).bind fun x3 => (if x3 = 0 then (some (0 : Int32)) else (f_X4_isWorth v3).bind fun x5 => (if x5 = 0 then (some (0 : Int32)) else (some (1 : Int32)))) else (if v1 = (1 : Int32) then (f_X4_hasMatch v2 M).bind fun x1 => (if x1 = 0 then (some (0 : Int32)) else (if v3 = 0 then f_X4_canBecome_b47 M else (if v3 = (1 : Int32) then f_X4_canBecome_b47 M else (some (0 : Int32))))) else (some (0 : Int32))))
set_option maxRecDepth 100000 in
set_option maxHeartbeats 4000000 in
theorem w_X4_canBecome {G : GW} {E : EE} (hG : ab_ok G) (B : Bx G E RX4 cX4_canBecome 4 3 (some .boolean)) (v1 : Int32) (v2 : Int32) (v3 : Int32) (M : Mem) : AWo G E cX4_canBecome 4 (ab_Q G E (embRI M)) 0 [(0, .ref 1), (1, .int v1), (2, .int v2), (3, .int v3)] [] M (f_X4_canBecome v1 v2 v3 M) := by
  unfold f_X4_canBecome
  refine aw_iload_n (k0 := 1) B 1 (by decide +kernel) rfl rfl ?_
  refine aw_if_ne (off := 24) B 25 (by decide +kernel) (by decide) (fun _ => ?_) (fun _ => ?_)
  · refine aw_iload_n (k0 := 1) B 1 (by decide +kernel) rfl rfl ?_
    refine aw_iconst (n := 1) (v := (1 : Int32)) B (by decide +kernel) (by decide) ?_
    refine aw_icmp_ne (off := 24) B 51 (by decide +kernel) (by decide) (fun _ => ?_) (fun _ => ?_)
    · refine aw_iconst (n := 0) (v := (0 : Int32)) B (by decide +kernel) (by decide) ?_
      exact aw_zreturnK B (by decide +kernel) rfl (by decide)
    · refine aw_aload_n (k0 := 0) B 0 (by decide +kernel) rfl rfl ?_
      refine aw_iload_n (k0 := 2) B 2 (by decide +kernel) rfl rfl ?_
      refine aw_cVR B (c_X4_hasMatch (eLa E) hG v2 M) cvX4_42 rfl rfl (Nat.le_of_ble_eq_true rfl) rfl (Nat.le_of_ble_eq_true rfl) (by decide +kernel) rfl (fun x1 => ?_)
      refine aw_if_eq (off := 16) B 51 (by decide +kernel) (by decide) (fun _ => ?_) (fun _ => ?_)
      · refine aw_iconst (n := 0) (v := (0 : Int32)) B (by decide +kernel) (by decide) ?_
        exact aw_zreturnK B (by decide +kernel) rfl (by decide)
      · refine aw_iload_n (k0 := 3) B 3 (by decide +kernel) rfl rfl ?_
        refine aw_if_eq (off := 8) B 47 (by decide +kernel) (by decide) (fun _ => ?_) (fun _ => ?_)
        · exact aw_sub [] rfl (w_X4_canBecome_b47 hG M B)
        · refine aw_iload_n (k0 := 3) B 3 (by decide +kernel) rfl rfl ?_
          refine aw_iconst (n := 1) (v := (1 : Int32)) B (by decide +kernel) (by decide) ?_
          refine aw_icmp_ne (off := 7) B 51 (by decide +kernel) (by decide) (fun _ => ?_) (fun _ => ?_)
          · refine aw_iconst (n := 0) (v := (0 : Int32)) B (by decide +kernel) (by decide) ?_
            exact aw_zreturnK B (by decide +kernel) rfl (by decide)
          · exact aw_sub [] rfl (w_X4_canBecome_b47 hG M B)
  · refine aw_aload_n (k0 := 0) B 0 (by decide +kernel) rfl rfl ?_
    refine aw_iload_n (k0 := 2) B 2 (by decide +kernel) rfl rfl ?_
    refine aw_cVR B (c_X4_hasPlayer (eLa E) hG v2 M) cvX4_31 rfl rfl (Nat.le_of_ble_eq_true rfl) rfl (Nat.le_of_ble_eq_true rfl) (by decide +kernel) rfl (fun x3 => ?_)
    refine aw_if_eq (off := 14) B 23 (by decide +kernel) (by decide) (fun _ => ?_) (fun _ => ?_)
    · refine aw_iconst (n := 0) (v := (0 : Int32)) B (by decide +kernel) (by decide) ?_
      exact aw_zreturnK B (by decide +kernel) rfl (by decide)
    · refine aw_iload_n (k0 := 3) B 3 (by decide +kernel) rfl rfl ?_
      refine aw_cSR B (c_X4_isWorth (eLa E) hG v3 M) csX4_39 (Nat.le_of_ble_eq_true rfl) rfl (Nat.le_of_ble_eq_true rfl) (by decide +kernel) rfl (fun x5 => ?_)
      refine aw_if_eq (off := 7) B 23 (by decide +kernel) (by decide) (fun _ => ?_) (fun _ => ?_)
      · refine aw_iconst (n := 0) (v := (0 : Int32)) B (by decide +kernel) (by decide) ?_
        exact aw_zreturnK B (by decide +kernel) rfl (by decide)
      · refine aw_iconst (n := 1) (v := (1 : Int32)) B (by decide +kernel) (by decide) ?_
        refine aw_goto (off := 4) B 24 (by decide +kernel) (by decide) ?_
        exact aw_zreturnK B (by decide +kernel) rfl (by decide)
theorem c_X4_canBecome (l : Launch) {G : GW} (hG : ab_ok G) (v1 : Int32) (v2 : Int32) (v3 : Int32) (M : Mem) : AC l G yX4_canBecome cX4_canBecome 4 (some .boolean) 3 [.ref 1, .int v1, .int v2, .int v3] M (embRI M) (f_X4_canBecome v1 v2 v3 M) := AC.of hG (by decide) (Nat.le_of_ble_eq_true rfl) (fun E hE B => by subst hE; exact w_X4_canBecome hG B v1 v2 v3 M)
def f_X4_valueOf (v1 : Int32) (v2 : Int32) (M : Mem) : Option Int32 := (if v1 = 0 then ck (okI 2 v2) ((some (M.1 2 v2.toNatClampNeg))) else ck (okI 5 v2) ((some (M.1 5 v2.toNatClampNeg))))
set_option maxRecDepth 100000 in
set_option maxHeartbeats 4000000 in
theorem w_X4_valueOf {G : GW} {E : EE} (hG : ab_ok G) (B : Bx G E RX4 cX4_valueOf 3 2 (some .int)) (v1 : Int32) (v2 : Int32) (M : Mem) : AWo G E cX4_valueOf 3 (ab_Q G E (embRI M)) 0 [(0, .ref 1), (1, .int v1), (2, .int v2)] [] M (f_X4_valueOf v1 v2 M) := by
  unfold f_X4_valueOf
  refine aw_iload_n (k0 := 1) B 1 (by decide +kernel) rfl rfl ?_
  refine aw_if_ne (off := 12) B 13 (by decide +kernel) (by decide) (fun _ => ?_) (fun _ => ?_)
  · refine aw_aload_n (k0 := 0) B 0 (by decide +kernel) rfl rfl ?_
    refine aw_getr (c := 1) B lkX4_21 (by decide +kernel) rfl (r := 5) rfl ?_
    refine aw_iload_n (k0 := 2) B 2 (by decide +kernel) rfl rfl ?_
    refine aw_iaload B (by decide +kernel) ?_
    exact aw_ireturn B (by decide +kernel) rfl
  · refine aw_aload_n (k0 := 0) B 0 (by decide +kernel) rfl rfl ?_
    refine aw_getr (c := 1) B lkX4_11 (by decide +kernel) rfl (r := 2) rfl ?_
    refine aw_iload_n (k0 := 2) B 2 (by decide +kernel) rfl rfl ?_
    refine aw_iaload B (by decide +kernel) ?_
    refine aw_goto (off := 9) B 19 (by decide +kernel) (by decide) ?_
    exact aw_ireturn B (by decide +kernel) rfl
theorem c_X4_valueOf (l : Launch) {G : GW} (hG : ab_ok G) (v1 : Int32) (v2 : Int32) (M : Mem) : AC l G yX4_valueOf cX4_valueOf 3 (some .int) 2 [.ref 1, .int v1, .int v2] M (embRI M) (f_X4_valueOf v1 v2 M) := AC.of hG (by decide) (Nat.le_of_ble_eq_true rfl) (fun E hE B => by subst hE; exact w_X4_valueOf hG B v1 v2 M)
def f_X2_forgetOldest (M : Mem) : Option Mem := ck (okC 100 7 (1 : Int32) (39 : Int32) && okC 100 7 (0 : Int32) (39 : Int32)) (lt (cpI M 7 (1 : Int32).toNatClampNeg 7 (0 : Int32).toNatClampNeg (39 : Int32).toNatClampNeg) fun M1 => ck (okC 100 8 (1 : Int32) (39 : Int32) && okC 100 8 (0 : Int32) (39 : Int32)) (lt (cpI M1 8 (1 : Int32).toNatClampNeg 8 (0 : Int32).toNatClampNeg (39 : Int32).toNatClampNeg) fun M2 => ck (okC 100 9 (1 : Int32) (39 : Int32) && okC 100 9 (0 : Int32) (39 : Int32)) (lt (cpI M2 9 (1 : Int32).toNatClampNeg 9 (0 : Int32).toNatClampNeg (39 : Int32).toNatClampNeg) fun M3 => ck (okC 100 10 (1 : Int32) (39 : Int32) && okC 100 10 (0 : Int32) (39 : Int32)) (lt (cpI M3 10 (1 : Int32).toNatClampNeg 10 (0 : Int32).toNatClampNeg (39 : Int32).toNatClampNeg) fun M4 => lt (wI M4 6 0 (39 : Int32)) fun M5 => (some M5)))))
set_option maxRecDepth 100000 in
set_option maxHeartbeats 4000000 in
theorem w_X2_forgetOldest {G : GW} {E : EE} (hG : ab_ok G) (B : Bx G E RX2 cX2_forgetOldest 1 2 none) (M : Mem) : AWo G E cX2_forgetOldest 1 (ab_Q G E embV) 0 [(0, .ref 6)] [] M (f_X2_forgetOldest M) := by
  unfold f_X2_forgetOldest
  refine aw_aload_n (k0 := 0) B 0 (by decide +kernel) rfl rfl ?_
  refine aw_getr (c := 6) B lkX2_11 (by decide +kernel) rfl (r := 7) rfl ?_
  refine aw_iconst (n := 1) (v := (1 : Int32)) B (by decide +kernel) (by decide) ?_
  refine aw_aload_n (k0 := 0) B 0 (by decide +kernel) rfl rfl ?_
  refine aw_getr (c := 6) B lkX2_11 (by decide +kernel) rfl (r := 7) rfl ?_
  refine aw_iconst (n := 0) (v := (0 : Int32)) B (by decide +kernel) (by decide) ?_
  refine aw_bipush (n := 39) (v := (39 : Int32)) B (by decide +kernel) (by decide) ?_
  refine aw_copyI B lxX2_34 (by decide +kernel) (Nat.le_of_ble_eq_true rfl) (Nat.le_of_ble_eq_true rfl) (fun M1 => ?_)
  refine aw_aload_n (k0 := 0) B 0 (by decide +kernel) rfl rfl ?_
  refine aw_getr (c := 6) B lkX2_15 (by decide +kernel) rfl (r := 8) rfl ?_
  refine aw_iconst (n := 1) (v := (1 : Int32)) B (by decide +kernel) (by decide) ?_
  refine aw_aload_n (k0 := 0) B 0 (by decide +kernel) rfl rfl ?_
  refine aw_getr (c := 6) B lkX2_15 (by decide +kernel) rfl (r := 8) rfl ?_
  refine aw_iconst (n := 0) (v := (0 : Int32)) B (by decide +kernel) (by decide) ?_
  refine aw_bipush (n := 39) (v := (39 : Int32)) B (by decide +kernel) (by decide) ?_
  refine aw_copyI B lxX2_34 (by decide +kernel) (Nat.le_of_ble_eq_true rfl) (Nat.le_of_ble_eq_true rfl) (fun M2 => ?_)
  refine aw_aload_n (k0 := 0) B 0 (by decide +kernel) rfl rfl ?_
  refine aw_getr (c := 6) B lkX2_18 (by decide +kernel) rfl (r := 9) rfl ?_
  refine aw_iconst (n := 1) (v := (1 : Int32)) B (by decide +kernel) (by decide) ?_
  refine aw_aload_n (k0 := 0) B 0 (by decide +kernel) rfl rfl ?_
  refine aw_getr (c := 6) B lkX2_18 (by decide +kernel) rfl (r := 9) rfl ?_
  refine aw_iconst (n := 0) (v := (0 : Int32)) B (by decide +kernel) (by decide) ?_
  refine aw_bipush (n := 39) (v := (39 : Int32)) B (by decide +kernel) (by decide) ?_
  refine aw_copyI B lxX2_34 (by decide +kernel) (Nat.le_of_ble_eq_true rfl) (Nat.le_of_ble_eq_true rfl) (fun M3 => ?_)
  refine aw_aload_n (k0 := 0) B 0 (by decide +kernel) rfl rfl ?_
  refine aw_getr (c := 6) B lkX2_21 (by decide +kernel) rfl (r := 10) rfl ?_
  refine aw_iconst (n := 1) (v := (1 : Int32)) B (by decide +kernel) (by decide) ?_
  refine aw_aload_n (k0 := 0) B 0 (by decide +kernel) rfl rfl ?_
  refine aw_getr (c := 6) B lkX2_21 (by decide +kernel) rfl (r := 10) rfl ?_
  refine aw_iconst (n := 0) (v := (0 : Int32)) B (by decide +kernel) (by decide) ?_
  refine aw_bipush (n := 39) (v := (39 : Int32)) B (by decide +kernel) (by decide) ?_
  refine aw_copyI B lxX2_34 (by decide +kernel) (Nat.le_of_ble_eq_true rfl) (Nat.le_of_ble_eq_true rfl) (fun M4 => ?_)
  refine aw_aload_n (k0 := 0) B 0 (by decide +kernel) rfl rfl ?_
  refine aw_bipush (n := 39) (v := (39 : Int32)) B (by decide +kernel) (by decide) ?_
  refine aw_puti (c := 6) B lkX2_24 lp2_0 (by decide +kernel) rfl (fun M5 => ?_)
  exact aw_vreturn B (by decide +kernel) rfl
theorem c_X2_forgetOldest (l : Launch) {G : GW} (hG : ab_ok G) (M : Mem) : AC l G yX2_forgetOldest cX2_forgetOldest 1 none 2 [.ref 6] M embV (f_X2_forgetOldest M) := AC.of hG (by decide) (Nat.le_of_ble_eq_true rfl) (fun E hE B => by subst hE; exact w_X2_forgetOldest hG B M)
