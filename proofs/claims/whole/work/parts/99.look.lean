theorem lkX4_24 : ab_LK RX4 24 4 0 := ⟨RX4, TX4, 6, rfl, by decide, by decide, by decide, rfl, bw_mem 134 (by decide +kernel) (by decide +kernel)⟩
theorem lkX4_11 : ab_LK RX4 11 4 2 := ⟨RX4, TX4, 6, rfl, by decide, by decide, by decide, rfl, bw_mem 142 (by decide +kernel) (by decide +kernel)⟩
theorem lp4_0 : ab_LP 4 0 .int := ⟨RX4, TX4, 6, tyX4, rfl, by decide, rfl, by decide +kernel, tyX4_ok, nmX4⟩
theorem csX10_79 : ab_CS RX10 79 yX4_isWorth cX4_isWorth 1 (some .boolean) 1 := ⟨⟨bw_mem 435 (by decide +kernel) (by decide +kernel), bw_mem 436 (by decide +kernel) (by decide +kernel), bw_mem 102 (by decide +kernel) (by decide +kernel), bw_mem 437 (by decide +kernel) (by decide +kernel)⟩, by decide +kernel, by decide⟩
theorem lkX10_10 : ab_LK RX10 10 10 0 := ⟨RX10, TX10, 10, rfl, by decide, by decide, by decide, rfl, bw_mem 400 (by decide +kernel) (by decide +kernel)⟩
theorem cvX10_83 : ab_CV RX10 83 yX4_addPlayer cX4_addPlayer 2 (some .int) 1 := ⟨⟨bw_mem 438 (by decide +kernel) (by decide +kernel), bw_mem 439 (by decide +kernel) (by decide +kernel), bw_mem 440 (by decide +kernel) (by decide +kernel), bw_mem 102 (by decide +kernel) (by decide +kernel), bw_mem 441 (by decide +kernel) (by decide +kernel)⟩, by decide +kernel, by decide⟩
theorem lkX4_28 : ab_LK RX4 28 4 1 := ⟨RX4, TX4, 6, rfl, by decide, by decide, by decide, rfl, bw_mem 139 (by decide +kernel) (by decide +kernel)⟩
theorem lkX4_15 : ab_LK RX4 15 4 3 := ⟨RX4, TX4, 6, rfl, by decide, by decide, by decide, rfl, bw_mem 146 (by decide +kernel) (by decide +kernel)⟩
theorem lkX4_21 : ab_LK RX4 21 4 5 := ⟨RX4, TX4, 6, rfl, by decide, by decide, by decide, rfl, bw_mem 156 (by decide +kernel) (by decide +kernel)⟩
def f_X4_isWorth (v0 : Int32) : Option Int32 := (if v0 < 0 then (some (0 : Int32)) else (if (99 : Int32) < v0 then (some (0 : Int32)) else (some (1 : Int32))))
set_option maxRecDepth 100000 in
set_option maxHeartbeats 4000000 in
theorem w_X4_isWorth {G : GW} {E : EE} (hG : ab_ok G) (B : Bx G E RX4 cX4_isWorth 1 2 (some .boolean)) (v0 : Int32) (M : Mem) : AWo G E cX4_isWorth 1 (ab_Q G E (embRI M)) 0 [(0, .int v0)] [] M (f_X4_isWorth v0) := by
  unfold f_X4_isWorth
  refine aw_iload_n (k0 := 0) B 0 (by decide +kernel) rfl rfl ?_
  refine aw_if_lt (off := 13) B 14 (by decide +kernel) (by decide) (fun _ => ?_) (fun _ => ?_)
  · refine aw_iconst (n := 0) (v := (0 : Int32)) B (by decide +kernel) (by decide) ?_
    exact aw_zreturnK B (by decide +kernel) rfl (by decide)
  · refine aw_iload_n (k0 := 0) B 0 (by decide +kernel) rfl rfl ?_
    refine aw_bipush (n := 99) (v := (99 : Int32)) B (by decide +kernel) (by decide) ?_
    refine aw_icmp_gt (off := 7) B 14 (by decide +kernel) (by decide) (fun _ => ?_) (fun _ => ?_)
    · refine aw_iconst (n := 0) (v := (0 : Int32)) B (by decide +kernel) (by decide) ?_
      exact aw_zreturnK B (by decide +kernel) rfl (by decide)
    · refine aw_iconst (n := 1) (v := (1 : Int32)) B (by decide +kernel) (by decide) ?_
      refine aw_goto (off := 4) B 15 (by decide +kernel) (by decide) ?_
      exact aw_zreturnK B (by decide +kernel) rfl (by decide)
theorem c_X4_isWorth (l : Launch) {G : GW} (hG : ab_ok G) (v0 : Int32) (M : Mem) : AC l G yX4_isWorth cX4_isWorth 1 (some .boolean) 2 [.int v0] M (embRI M) (f_X4_isWorth v0) := AC.of hG (by decide) (Nat.le_of_ble_eq_true rfl) (fun E hE B => by subst hE; exact w_X4_isWorth hG B v0 M)
def f_X4_addPlayer (v1 : Int32) (M : Mem) : Option (Int32 × Mem) := (if (M.1 1 0) < (8 : Int32) then ck (okI 2 (M.1 1 0)) (lt (wI M 2 (M.1 1 0).toNatClampNeg v1) fun M1 => lt (wI M1 1 0 ((M1.1 1 0) + (1 : Int32))) fun M2 => (some (M1.1 1 0, M2))) else (some ((-3 : Int32), M)))
set_option maxRecDepth 100000 in
set_option maxHeartbeats 4000000 in
theorem w_X4_addPlayer {G : GW} {E : EE} (hG : ab_ok G) (B : Bx G E RX4 cX4_addPlayer 2 2 (some .int)) (v1 : Int32) (M : Mem) : AWo G E cX4_addPlayer 2 (ab_Q G E embI) 0 [(0, .ref 1), (1, .int v1)] [] M (f_X4_addPlayer v1 M) := by
  unfold f_X4_addPlayer
  refine aw_aload_n (k0 := 0) B 0 (by decide +kernel) rfl rfl ?_
  refine aw_geti (c := 1) B lkX4_24 (by decide +kernel) rfl ?_
  refine aw_bipush (n := 8) (v := (8 : Int32)) B (by decide +kernel) (by decide) ?_
  refine aw_icmp_lt (off := 6) B 12 (by decide +kernel) (by decide) (fun _ => ?_) (fun _ => ?_)
  · refine aw_aload_n (k0 := 0) B 0 (by decide +kernel) rfl rfl ?_
    refine aw_getr (c := 1) B lkX4_11 (by decide +kernel) rfl (r := 2) rfl ?_
    refine aw_aload_n (k0 := 0) B 0 (by decide +kernel) rfl rfl ?_
    refine aw_geti (c := 1) B lkX4_24 (by decide +kernel) rfl ?_
    refine aw_iload_n (k0 := 1) B 1 (by decide +kernel) rfl rfl ?_
    refine aw_iastore B (by decide +kernel) (fun M1 => ?_)
    refine aw_aload_n (k0 := 0) B 0 (by decide +kernel) rfl rfl ?_
    refine aw_dup B (by decide +kernel) rfl ?_
    refine aw_geti (c := 1) B lkX4_24 (by decide +kernel) rfl ?_
    refine aw_dup_x1 B (by decide +kernel) rfl rfl ?_
    refine aw_iconst (n := 1) (v := (1 : Int32)) B (by decide +kernel) (by decide) ?_
    refine aw_iadd B (by decide +kernel) ?_
    refine aw_puti (c := 1) B lkX4_24 lp4_0 (by decide +kernel) rfl (fun M2 => ?_)
    exact aw_ireturn B (by decide +kernel) rfl
  · refine aw_bipush (n := -3) (v := (-3 : Int32)) B (by decide +kernel) (by decide) ?_
    exact aw_ireturn B (by decide +kernel) rfl
theorem c_X4_addPlayer (l : Launch) {G : GW} (hG : ab_ok G) (v1 : Int32) (M : Mem) : AC l G yX4_addPlayer cX4_addPlayer 2 (some .int) 2 [.ref 1, .int v1] M embI (f_X4_addPlayer v1 M) := AC.of hG (by decide) (Nat.le_of_ble_eq_true rfl) (fun E hE B => by subst hE; exact w_X4_addPlayer hG B v1 M)
def f_X10_player (v1 : Int32) (M : Mem) : Option (Int32 × Mem) := (f_X4_isWorth v1).bind fun x1 => (if x1 = 0 then (some ((-1 : Int32), M)) else bI (f_X4_addPlayer v1 M) fun x3 M4 => (some (x3, M4)))
set_option maxRecDepth 100000 in
set_option maxHeartbeats 4000000 in
theorem w_X10_player {G : GW} {E : EE} (hG : ab_ok G) (B : Bx G E RX10 cX10_player 2 3 (some .int)) (v1 : Int32) (M : Mem) : AWo G E cX10_player 2 (ab_Q G E embI) 0 [(0, .ref 0), (1, .int v1)] [] M (f_X10_player v1 M) := by
  unfold f_X10_player
  refine aw_iload_n (k0 := 1) B 1 (by decide +kernel) rfl rfl ?_
  refine aw_cSR B (c_X4_isWorth (eLa E) hG v1 M) csX10_79 (Nat.le_of_ble_eq_true rfl) rfl (Nat.le_of_ble_eq_true rfl) (by decide +kernel) rfl (fun x1 => ?_)
  refine aw_if_ne (off := 5) B 9 (by decide +kernel) (by decide) (fun _ => ?_) (fun _ => ?_)
  · refine aw_aload_n (k0 := 0) B 0 (by decide +kernel) rfl rfl ?_
    refine aw_getr (c := 0) B lkX10_10 (by decide +kernel) rfl (r := 1) rfl ?_
    refine aw_iload_n (k0 := 1) B 1 (by decide +kernel) rfl rfl ?_
    refine aw_cVI B (c_X4_addPlayer (eLa E) hG v1 M) cvX10_83 rfl rfl (Nat.le_of_ble_eq_true rfl) rfl (Nat.le_of_ble_eq_true rfl) (by decide +kernel) rfl (fun x3 M4 => ?_)
    exact aw_ireturn B (by decide +kernel) rfl
  · refine aw_iconst (n := -1) (v := (-1 : Int32)) B (by decide +kernel) (by decide) ?_
    exact aw_ireturn B (by decide +kernel) rfl
theorem c_X10_player (l : Launch) {G : GW} (hG : ab_ok G) (v1 : Int32) (M : Mem) : AC l G yX10_player cX10_player 2 (some .int) 3 [.ref 0, .int v1] M embI (f_X10_player v1 M) := AC.of hG (by decide) (Nat.le_of_ble_eq_true rfl) (fun E hE B => by subst hE; exact w_X10_player hG B v1 M)
def f_X4_hasPlayer (v1 : Int32) (M : Mem) : Option Int32 := (if v1 < 0 then (some (0 : Int32)) else (if (M.1 1 0) ≤ v1 then (some (0 : Int32)) else (some (1 : Int32))))
set_option maxRecDepth 100000 in
set_option maxHeartbeats 4000000 in
theorem w_X4_hasPlayer {G : GW} {E : EE} (hG : ab_ok G) (B : Bx G E RX4 cX4_hasPlayer 2 2 (some .boolean)) (v1 : Int32) (M : Mem) : AWo G E cX4_hasPlayer 2 (ab_Q G E (embRI M)) 0 [(0, .ref 1), (1, .int v1)] [] M (f_X4_hasPlayer v1 M) := by
  unfold f_X4_hasPlayer
  refine aw_iload_n (k0 := 1) B 1 (by decide +kernel) rfl rfl ?_
  refine aw_if_lt (off := 15) B 16 (by decide +kernel) (by decide) (fun _ => ?_) (fun _ => ?_)
  · refine aw_iconst (n := 0) (v := (0 : Int32)) B (by decide +kernel) (by decide) ?_
    exact aw_zreturnK B (by decide +kernel) rfl (by decide)
  · refine aw_iload_n (k0 := 1) B 1 (by decide +kernel) rfl rfl ?_
    refine aw_aload_n (k0 := 0) B 0 (by decide +kernel) rfl rfl ?_
    refine aw_geti (c := 1) B lkX4_24 (by decide +kernel) rfl ?_
    refine aw_icmp_ge (off := 7) B 16 (by decide +kernel) (by decide) (fun _ => ?_) (fun _ => ?_)
    · refine aw_iconst (n := 0) (v := (0 : Int32)) B (by decide +kernel) (by decide) ?_
      exact aw_zreturnK B (by decide +kernel) rfl (by decide)
    · refine aw_iconst (n := 1) (v := (1 : Int32)) B (by decide +kernel) (by decide) ?_
      refine aw_goto (off := 4) B 17 (by decide +kernel) (by decide) ?_
      exact aw_zreturnK B (by decide +kernel) rfl (by decide)
theorem c_X4_hasPlayer (l : Launch) {G : GW} (hG : ab_ok G) (v1 : Int32) (M : Mem) : AC l G yX4_hasPlayer cX4_hasPlayer 2 (some .boolean) 2 [.ref 1, .int v1] M (embRI M) (f_X4_hasPlayer v1 M) := AC.of hG (by decide) (Nat.le_of_ble_eq_true rfl) (fun E hE B => by subst hE; exact w_X4_hasPlayer hG B v1 M)
def f_X4_wonBy_b31 (k4 : Int32 → Int32 → Int32 → Option Int32) (M : Mem) (v1 : Int32) (v2 : Int32) (v3 : Int32) : Option Int32 := k4 v1 v2 (v3 + 1)
set_option maxRecDepth 100000 in
set_option maxHeartbeats 4000000 in
theorem w_X4_wonBy_b31 {G : GW} {E : EE} (hG : ab_ok G) (M : Mem) {k4 : Int32 → Int32 → Int32 → Option Int32} (B : Bx G E RX4 cX4_wonBy 4 2 (some .int)) (hk4 : ∀ (v1 : Int32) (v2 : Int32) (v3 : Int32), AWo G E cX4_wonBy 4 (ab_Q G E (embRI M)) 4 [(0, .ref 1), (1, .int v1), (2, .int v2), (3, .int v3)] [] M (k4 v1 v2 v3)) (v1 : Int32) (v2 : Int32) (v3 : Int32) : AWo G E cX4_wonBy 4 (ab_Q G E (embRI M)) 31 [(0, .ref 1), (1, .int v1), (2, .int v2), (3, .int v3)] [] M (f_X4_wonBy_b31 k4 M v1 v2 v3) := by
  unfold f_X4_wonBy_b31
  refine aw_iinc (i := 3) (n := 1) B 3 [(3, .int (v3 + 1)), (0, .ref 1), (1, .int v1), (2, .int v2)] (by decide +kernel) rfl (Nat.le_of_ble_eq_true rfl) (v3 + 1) (ab_inc (by decide)) rfl ?_
  refine aw_goto (off := -30) B 4 (by decide +kernel) (by decide) ?_
  exact aw_sub [1, 2, 3, 0] rfl (hk4 _ _ _)
def f_X4_wonBy_L4 (M : Mem) : Nat → Int32 → Int32 → Int32 → Option Int32
  | 0, _, _, _ => none
  | n + 1, v1, v2, v3 => (if (M.1 1 1) ≤ v3 then (some v2) else ck (okI 3 v3) ((if (M.1 3 v3.toNatClampNeg) = v1 then ck (okI 5 v3) (lt (v2 + (M.1 5 v3.toNatClampNeg)) fun x1 => f_X4_wonBy_b31 (fun a0 a1 a2 => f_X4_wonBy_L4 M n a0 a1 a2) M v1 x1 v3) else f_X4_wonBy_b31 (fun a0 a1 a2 => f_X4_wonBy_L4 M n a0 a1 a2) M v1 v2 v3)))
set_option maxRecDepth 100000 in
set_option maxHeartbeats 4000000 in
theorem w_X4_wonBy_L4 {G : GW} {E : EE} (hG : ab_ok G) (M : Mem) (B : Bx G E RX4 cX4_wonBy 4 2 (some .int)) : ∀ (n : Nat) (v1 : Int32) (v2 : Int32) (v3 : Int32), AWo G E cX4_wonBy 4 (ab_Q G E (embRI M)) 4 [(0, .ref 1), (1, .int v1), (2, .int v2), (3, .int v3)] [] M (f_X4_wonBy_L4 M n v1 v2 v3) := by
  intro n
  induction n with
  | zero => intro _ _ _; exact aw_none
  | succ n ih =>
    intro v1 v2 v3
    rw [f_X4_wonBy_L4]
    refine aw_iload_n (k0 := 3) B 3 (by decide +kernel) rfl rfl ?_
    refine aw_aload_n (k0 := 0) B 0 (by decide +kernel) rfl rfl ?_
    refine aw_geti (c := 1) B lkX4_28 (by decide +kernel) rfl ?_
    refine aw_icmp_ge (off := 28) B 37 (by decide +kernel) (by decide) (fun _ => ?_) (fun _ => ?_)
    · refine aw_iload_n (k0 := 2) B 2 (by decide +kernel) rfl rfl ?_
      exact aw_ireturn B (by decide +kernel) rfl
    · refine aw_aload_n (k0 := 0) B 0 (by decide +kernel) rfl rfl ?_
      refine aw_getr (c := 1) B lkX4_15 (by decide +kernel) rfl (r := 3) rfl ?_
      refine aw_iload_n (k0 := 3) B 3 (by decide +kernel) rfl rfl ?_
      refine aw_iaload B (by decide +kernel) ?_
      refine aw_iload_n (k0 := 1) B 1 (by decide +kernel) rfl rfl ?_
      refine aw_icmp_ne (off := 12) B 31 (by decide +kernel) (by decide) (fun _ => ?_) (fun _ => ?_)
      · exact w_X4_wonBy_b31 hG M B ih _ _ _
      · refine aw_iload_n (k0 := 2) B 2 (by decide +kernel) rfl rfl ?_
        refine aw_aload_n (k0 := 0) B 0 (by decide +kernel) rfl rfl ?_
        refine aw_getr (c := 1) B lkX4_21 (by decide +kernel) rfl (r := 5) rfl ?_
        refine aw_iload_n (k0 := 3) B 3 (by decide +kernel) rfl rfl ?_
        refine aw_iaload B (by decide +kernel) ?_
        refine aw_iadd B (by decide +kernel) ?_
        refine aw_ltI (fun x1 => ?_)
        refine aw_istore_n (k0 := 2) B [(2, .int x1), (0, .ref 1), (1, .int v1), (3, .int v3)] (by decide +kernel) rfl (Nat.le_of_ble_eq_true rfl) rfl ?_
        exact aw_sub [1, 2, 0, 3] rfl (w_X4_wonBy_b31 hG M B ih _ _ _)
def f_X4_wonBy (v1 : Int32) (M : Mem) : Option Int32 := f_X4_wonBy_L4 M FU v1 (0 : Int32) (0 : Int32)
set_option maxRecDepth 100000 in
set_option maxHeartbeats 4000000 in
theorem w_X4_wonBy {G : GW} {E : EE} (hG : ab_ok G) (B : Bx G E RX4 cX4_wonBy 4 2 (some .int)) (v1 : Int32) (M : Mem) : AWo G E cX4_wonBy 4 (ab_Q G E (embRI M)) 0 [(0, .ref 1), (1, .int v1)] [] M (f_X4_wonBy v1 M) := by
  unfold f_X4_wonBy
  refine aw_iconst (n := 0) (v := (0 : Int32)) B (by decide +kernel) (by decide) ?_
  refine aw_istore_n (k0 := 2) B [(2, .int (0 : Int32)), (0, .ref 1), (1, .int v1)] (by decide +kernel) rfl (Nat.le_of_ble_eq_true rfl) rfl ?_
  refine aw_iconst (n := 0) (v := (0 : Int32)) B (by decide +kernel) (by decide) ?_
  refine aw_istore_n (k0 := 3) B [(3, .int (0 : Int32)), (2, .int (0 : Int32)), (0, .ref 1), (1, .int v1)] (by decide +kernel) rfl (Nat.le_of_ble_eq_true rfl) rfl ?_
  exact aw_sub [2, 3, 1, 0] rfl (w_X4_wonBy_L4 hG M B FU _ _ _)
theorem c_X4_wonBy (l : Launch) {G : GW} (hG : ab_ok G) (v1 : Int32) (M : Mem) : AC l G yX4_wonBy cX4_wonBy 4 (some .int) 2 [.ref 1, .int v1] M (embRI M) (f_X4_wonBy v1 M) := AC.of hG (by decide) (Nat.le_of_ble_eq_true rfl) (fun E hE B => by subst hE; exact w_X4_wonBy hG B v1 M)
