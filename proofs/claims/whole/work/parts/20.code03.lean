def f_X11_workOut_b96 (k33 : Int32 → Int32 → Int32 → Mem → Option (Int32 × Mem)) (v3 : Int32) (v4 : Int32) (M : Mem) : Option (Int32 × Mem) := bI (f_X11_takes (59 : Int32) M) fun x1 M2 => k33 v3 v4 x1 M2
set_option maxRecDepth 100000 in
set_option maxHeartbeats 4000000 in
theorem w_X11_workOut_b96 {G : GW} {E : EE} (hG : ab_ok G) {k33 : Int32 → Int32 → Int32 → Mem → Option (Int32 × Mem)} (B : Bx G E RX11 cX11_workOut 8 250 (some .int)) (hk33 : ∀ (v3 : Int32) (v4 : Int32) (v5 : Int32) (M : Mem), AWo G E cX11_workOut 8 (ab_Q G E embI) 33 [(0, .ref 47), (3, .int v3), (4, .int v4), (5, .int v5)] [] M (k33 v3 v4 v5 M)) (v3 : Int32) (v4 : Int32) (M : Mem) : AWo G E cX11_workOut 8 (ab_Q G E embI) 96 [(0, .ref 47), (3, .int v3), (4, .int v4)] [] M (f_X11_workOut_b96 k33 v3 v4 M) := by
  unfold f_X11_workOut_b96
  refine aw_aload_n (k0 := 0) B 0 (by decide +kernel) rfl rfl ?_
  refine aw_bipush (n := 59) (v := (59 : Int32)) B (by decide +kernel) (by decide) ?_
  refine aw_cVI B (c_X11_takes (eLa E) hG (59 : Int32) M) cvX11_183 rfl rfl (Nat.le_of_ble_eq_true rfl) rfl (Nat.le_of_ble_eq_true rfl) (by decide +kernel) rfl (fun x1 M2 => ?_)
  refine aw_istore (i := 5) B [(5, .int x1), (0, .ref 47), (3, .int v3), (4, .int v4)] (by decide +kernel) (Nat.le_of_ble_eq_true rfl) rfl ?_
  refine aw_goto (off := -71) B 33 (by decide +kernel) (by decide) ?_
  exact aw_sub [1, 2, 3, 0] rfl (hk33 _ _ _ _)
def f_X11_workOut_b74 (k33 : Int32 → Int32 → Int32 → Mem → Option (Int32 × Mem)) (v3 : Int32) (v4 : Int32) (v6 : Int32) (v7 : Int32) (M : Mem) : Option (Int32 × Mem) := (if 0 ≤ (M.1 47 17) then f_X11_workOut_b96 k33 v3 v4 M else (if v7 = 0 then f_X11_workOut_b96 k33 v3 v4 M else (if v3 = 0 then f_X11_workOut_b96 k33 (1 : Int32) v6 M else f_X11_workOut_b96 k33 v3 v4 M)))
set_option maxRecDepth 100000 in
set_option maxHeartbeats 4000000 in
theorem w_X11_workOut_b74 {G : GW} {E : EE} (hG : ab_ok G) {k33 : Int32 → Int32 → Int32 → Mem → Option (Int32 × Mem)} (B : Bx G E RX11 cX11_workOut 8 250 (some .int)) (hk33 : ∀ (v3 : Int32) (v4 : Int32) (v5 : Int32) (M : Mem), AWo G E cX11_workOut 8 (ab_Q G E embI) 33 [(0, .ref 47), (3, .int v3), (4, .int v4), (5, .int v5)] [] M (k33 v3 v4 v5 M)) (v3 : Int32) (v4 : Int32) (v6 : Int32) (v7 : Int32) (M : Mem) : AWo G E cX11_workOut 8 (ab_Q G E embI) 74 [(0, .ref 47), (3, .int v3), (4, .int v4), (6, .int v6), (7, .int v7)] [] M (f_X11_workOut_b74 k33 v3 v4 v6 v7 M) := by
  unfold f_X11_workOut_b74
  refine aw_aload_n (k0 := 0) B 0 (by decide +kernel) rfl rfl ?_
  refine aw_geti (c := 47) B lkX11_173 (by decide +kernel) rfl ?_
  refine aw_if_ge (off := 18) B 96 (by decide +kernel) (by decide) (fun _ => ?_) (fun _ => ?_)
  · exact aw_sub [0, 1, 2] rfl (w_X11_workOut_b96 hG B hk33 _ _ _)
  · refine aw_iload (i := 7) B 4 (by decide +kernel) rfl ?_
    refine aw_if_eq (off := 13) B 96 (by decide +kernel) (by decide) (fun _ => ?_) (fun _ => ?_)
    · exact aw_sub [0, 1, 2] rfl (w_X11_workOut_b96 hG B hk33 _ _ _)
    · refine aw_iload_n (k0 := 3) B 1 (by decide +kernel) rfl rfl ?_
      refine aw_if_ne (off := 9) B 96 (by decide +kernel) (by decide) (fun _ => ?_) (fun _ => ?_)
      · exact aw_sub [0, 1, 2] rfl (w_X11_workOut_b96 hG B hk33 _ _ _)
      · refine aw_iconst (n := 1) (v := (1 : Int32)) B (by decide +kernel) (by decide) ?_
        refine aw_istore_n (k0 := 3) B [(3, .int (1 : Int32)), (0, .ref 47), (4, .int v4), (6, .int v6), (7, .int v7)] (by decide +kernel) rfl (Nat.le_of_ble_eq_true rfl) rfl ?_
        refine aw_iload (i := 6) B 3 (by decide +kernel) rfl ?_
        refine aw_istore (i := 4) B [(4, .int v6), (3, .int (1 : Int32)), (0, .ref 47), (6, .int v6), (7, .int v7)] (by decide +kernel) (Nat.le_of_ble_eq_true rfl) rfl ?_
        exact aw_sub [2, 1, 0] rfl (w_X11_workOut_b96 hG B hk33 _ _ _)
def f_X11_workOut_b66 (k33 : Int32 → Int32 → Int32 → Mem → Option (Int32 × Mem)) (v3 : Int32) (v4 : Int32) (s0 : Int32) (M : Mem) : Option (Int32 × Mem) := bI (f_X11_either (f_X11_one FD) M) fun x1 M2 => f_X11_workOut_b74 k33 v3 v4 x1 s0 M2
set_option maxRecDepth 100000 in
set_option maxHeartbeats 4000000 in
theorem w_X11_workOut_b66 {G : GW} {E : EE} (hG : ab_ok G) {k33 : Int32 → Int32 → Int32 → Mem → Option (Int32 × Mem)} (B : Bx G E RX11 cX11_workOut 8 250 (some .int)) (hk33 : ∀ (v3 : Int32) (v4 : Int32) (v5 : Int32) (M : Mem), AWo G E cX11_workOut 8 (ab_Q G E embI) 33 [(0, .ref 47), (3, .int v3), (4, .int v4), (5, .int v5)] [] M (k33 v3 v4 v5 M)) (v3 : Int32) (v4 : Int32) (s0 : Int32) (M : Mem) : AWo G E cX11_workOut 8 (ab_Q G E embI) 66 [(0, .ref 47), (3, .int v3), (4, .int v4)] [.int s0] M (f_X11_workOut_b66 k33 v3 v4 s0 M) := by
  unfold f_X11_workOut_b66
  refine aw_istore (i := 7) B [(7, .int s0), (0, .ref 47), (3, .int v3), (4, .int v4)] (by decide +kernel) (Nat.le_of_ble_eq_true rfl) rfl ?_
  refine aw_aload_n (k0 := 0) B 1 (by decide +kernel) rfl rfl ?_
  refine aw_cVI B (c_X11_either (eLa E) hG M) cvX11_204 rfl rfl (Nat.le_of_ble_eq_true rfl) rfl (Nat.le_of_ble_eq_true rfl) (by decide +kernel) rfl (fun x1 M2 => ?_)
  refine aw_istore (i := 6) B [(6, .int x1), (7, .int s0), (0, .ref 47), (3, .int v3), (4, .int v4)] (by decide +kernel) (Nat.le_of_ble_eq_true rfl) rfl ?_
  exact aw_sub [2, 3, 4, 0, 1] rfl (w_X11_workOut_b74 hG B hk33 _ _ _ _ _)
def f_X11_workOut_L33 : Nat → Int32 → Int32 → Int32 → Mem → Option (Int32 × Mem)
  | 0, _, _, _, _ => none
  | n + 1, v3, v4, v5, M => (if v5 = 0 then (if 0 ≤ (M.1 47 17) then (some (v4, M)) else (if (M.1 47 16) ≤ (M.1 47 15) then (some (v4, M)) else bI (f_X11_faulty M) fun x1 M2 => (some (x1, M2)))) else bI (f_X11_either (f_X11_one FD) M) fun x3 M4 => bI (f_X11_takes (63 : Int32) M4) fun x5 M6 => (if x5 = 0 then f_X11_workOut_b74 (fun a0 a1 a2 a3 => f_X11_workOut_L33 n a0 a1 a2 a3) v3 v4 x3 (1 : Int32) M6 else (if x3 = 0 then f_X11_workOut_b66 (fun a0 a1 a2 a3 => f_X11_workOut_L33 n a0 a1 a2 a3) v3 v4 (0 : Int32) M6 else f_X11_workOut_b66 (fun a0 a1 a2 a3 => f_X11_workOut_L33 n a0 a1 a2 a3) v3 v4 (1 : Int32) M6)))
set_option maxRecDepth 100000 in
set_option maxHeartbeats 4000000 in
theorem w_X11_workOut_L33 {G : GW} {E : EE} (hG : ab_ok G) (B : Bx G E RX11 cX11_workOut 8 250 (some .int)) : ∀ (n : Nat) (v3 : Int32) (v4 : Int32) (v5 : Int32) (M : Mem), AWo G E cX11_workOut 8 (ab_Q G E embI) 33 [(0, .ref 47), (3, .int v3), (4, .int v4), (5, .int v5)] [] M (f_X11_workOut_L33 n v3 v4 v5 M) := by
  intro n
  induction n with
  | zero => intro _ _ _ _; exact aw_none
  | succ n ih =>
    intro v3 v4 v5 M
    rw [f_X11_workOut_L33]
    refine aw_iload (i := 5) B 3 (by decide +kernel) rfl ?_
    refine aw_if_eq (off := 72) B 107 (by decide +kernel) (by decide) (fun _ => ?_) (fun _ => ?_)
    · refine aw_aload_n (k0 := 0) B 0 (by decide +kernel) rfl rfl ?_
      refine aw_geti (c := 47) B lkX11_173 (by decide +kernel) rfl ?_
      refine aw_if_ge (off := 19) B 130 (by decide +kernel) (by decide) (fun _ => ?_) (fun _ => ?_)
      · refine aw_iload (i := 4) B 2 (by decide +kernel) rfl ?_
        exact aw_ireturn B (by decide +kernel) rfl
      · refine aw_aload_n (k0 := 0) B 0 (by decide +kernel) rfl rfl ?_
        refine aw_geti (c := 47) B lkX11_164 (by decide +kernel) rfl ?_
        refine aw_aload_n (k0 := 0) B 0 (by decide +kernel) rfl rfl ?_
        refine aw_geti (c := 47) B lkX11_167 (by decide +kernel) rfl ?_
        refine aw_icmp_ge (off := 8) B 130 (by decide +kernel) (by decide) (fun _ => ?_) (fun _ => ?_)
        · refine aw_iload (i := 4) B 2 (by decide +kernel) rfl ?_
          exact aw_ireturn B (by decide +kernel) rfl
        · refine aw_aload_n (k0 := 0) B 0 (by decide +kernel) rfl rfl ?_
          refine aw_cVI B (c_X11_faulty (eLa E) hG M) cvX11_201 rfl rfl (Nat.le_of_ble_eq_true rfl) rfl (Nat.le_of_ble_eq_true rfl) (by decide +kernel) rfl (fun x1 M2 => ?_)
          exact aw_ireturn B (by decide +kernel) rfl
    · refine aw_aload_n (k0 := 0) B 0 (by decide +kernel) rfl rfl ?_
      refine aw_cVI B (c_X11_either (eLa E) hG M) cvX11_204 rfl rfl (Nat.le_of_ble_eq_true rfl) rfl (Nat.le_of_ble_eq_true rfl) (by decide +kernel) rfl (fun x3 M4 => ?_)
      refine aw_istore (i := 6) B [(6, .int x3), (0, .ref 47), (3, .int v3), (4, .int v4), (5, .int v5)] (by decide +kernel) (Nat.le_of_ble_eq_true rfl) rfl ?_
      refine aw_iconst (n := 1) (v := (1 : Int32)) B (by decide +kernel) (by decide) ?_
      refine aw_istore (i := 7) B [(7, .int (1 : Int32)), (6, .int x3), (0, .ref 47), (3, .int v3), (4, .int v4), (5, .int v5)] (by decide +kernel) (Nat.le_of_ble_eq_true rfl) rfl ?_
      refine aw_aload_n (k0 := 0) B 2 (by decide +kernel) rfl rfl ?_
      refine aw_bipush (n := 63) (v := (63 : Int32)) B (by decide +kernel) (by decide) ?_
      refine aw_cVI B (c_X11_takes (eLa E) hG (63 : Int32) M4) cvX11_183 rfl rfl (Nat.le_of_ble_eq_true rfl) rfl (Nat.le_of_ble_eq_true rfl) (by decide +kernel) rfl (fun x5 M6 => ?_)
      refine aw_if_eq (off := 21) B 74 (by decide +kernel) (by decide) (fun _ => ?_) (fun _ => ?_)
      · exact aw_sub [2, 3, 4, 1, 0] rfl (w_X11_workOut_b74 hG B ih _ _ _ _ _)
      · refine aw_iload (i := 6) B 1 (by decide +kernel) rfl ?_
        refine aw_if_eq (off := 7) B 65 (by decide +kernel) (by decide) (fun _ => ?_) (fun _ => ?_)
        · refine aw_iconst (n := 0) (v := (0 : Int32)) B (by decide +kernel) (by decide) ?_
          exact aw_sub [2, 3, 4] rfl (w_X11_workOut_b66 hG B ih _ _ _ _)
        · refine aw_iconst (n := 1) (v := (1 : Int32)) B (by decide +kernel) (by decide) ?_
          refine aw_goto (off := 4) B 66 (by decide +kernel) (by decide) ?_
          exact aw_sub [2, 3, 4] rfl (w_X11_workOut_b66 hG B ih _ _ _ _)
def f_X11_workOut (v1 : Int32) (v2 : Int32) (M : Mem) : Option (Int32 × Mem) := lt (wI M 47 14 v1) fun M1 => lt (wI M1 47 15 (0 : Int32)) fun M2 => lt (wI M2 47 16 v2) fun M3 => lt (wI M3 47 17 (-1 : Int32)) fun M4 => lt (wI M4 47 18 (0 : Int32)) fun M5 => f_X11_workOut_L33 FU (0 : Int32) (0 : Int32) (1 : Int32) M5
set_option maxRecDepth 100000 in
set_option maxHeartbeats 4000000 in
theorem w_X11_workOut {G : GW} {E : EE} (hG : ab_ok G) (B : Bx G E RX11 cX11_workOut 8 250 (some .int)) (v1 : Int32) (v2 : Int32) (M : Mem) : AWo G E cX11_workOut 8 (ab_Q G E embI) 0 [(0, .ref 47), (1, .int v1), (2, .int v2)] [] M (f_X11_workOut v1 v2 M) := by
  unfold f_X11_workOut
  refine aw_aload_n (k0 := 0) B 0 (by decide +kernel) rfl rfl ?_
  refine aw_iload_n (k0 := 1) B 1 (by decide +kernel) rfl rfl ?_
  refine aw_puti (c := 47) B lkX11_170 lp11_14 (by decide +kernel) rfl (fun M1 => ?_)
  refine aw_aload_n (k0 := 0) B 0 (by decide +kernel) rfl rfl ?_
  refine aw_iconst (n := 0) (v := (0 : Int32)) B (by decide +kernel) (by decide) ?_
  refine aw_puti (c := 47) B lkX11_164 lp11_15 (by decide +kernel) rfl (fun M2 => ?_)
  refine aw_aload_n (k0 := 0) B 0 (by decide +kernel) rfl rfl ?_
  refine aw_iload_n (k0 := 2) B 2 (by decide +kernel) rfl rfl ?_
  refine aw_puti (c := 47) B lkX11_167 lp11_16 (by decide +kernel) rfl (fun M3 => ?_)
  refine aw_aload_n (k0 := 0) B 0 (by decide +kernel) rfl rfl ?_
  refine aw_iconst (n := -1) (v := (-1 : Int32)) B (by decide +kernel) (by decide) ?_
  refine aw_puti (c := 47) B lkX11_173 lp11_17 (by decide +kernel) rfl (fun M4 => ?_)
  refine aw_aload_n (k0 := 0) B 0 (by decide +kernel) rfl rfl ?_
  refine aw_iconst (n := 0) (v := (0 : Int32)) B (by decide +kernel) (by decide) ?_
  refine aw_puti (c := 47) B lkX11_198 lp11_18 (by decide +kernel) rfl (fun M5 => ?_)
  refine aw_iconst (n := 0) (v := (0 : Int32)) B (by decide +kernel) (by decide) ?_
  refine aw_istore_n (k0 := 3) B [(3, .int (0 : Int32)), (0, .ref 47), (1, .int v1), (2, .int v2)] (by decide +kernel) rfl (Nat.le_of_ble_eq_true rfl) rfl ?_
  refine aw_iconst (n := 0) (v := (0 : Int32)) B (by decide +kernel) (by decide) ?_
  refine aw_istore (i := 4) B [(4, .int (0 : Int32)), (3, .int (0 : Int32)), (0, .ref 47), (1, .int v1), (2, .int v2)] (by decide +kernel) (Nat.le_of_ble_eq_true rfl) rfl ?_
  refine aw_iconst (n := 1) (v := (1 : Int32)) B (by decide +kernel) (by decide) ?_
  refine aw_istore (i := 5) B [(5, .int (1 : Int32)), (4, .int (0 : Int32)), (3, .int (0 : Int32)), (0, .ref 47), (1, .int v1), (2, .int v2)] (by decide +kernel) (Nat.le_of_ble_eq_true rfl) rfl ?_
  exact aw_sub [3, 2, 1, 0] rfl (w_X11_workOut_L33 hG B FU _ _ _ _)
theorem c_X11_workOut (l : Launch) {G : GW} (hG : ab_ok G) (v1 : Int32) (v2 : Int32) (M : Mem) : AC l G yX11_workOut cX11_workOut 8 (some .int) 250 [.ref 47, .int v1, .int v2] M embI (f_X11_workOut v1 v2 M) := AC.of hG (by decide) (Nat.le_of_ble_eq_true rfl) (fun E hE B => by subst hE; exact w_X11_workOut hG B v1 v2 M)
def f_X11_law_L37 : Nat → Int32 → Int32 → Mem → Option (Int32 × Mem)
  | 0, _, _, _ => none
  | n + 1, v2, v3, M => (if v2 ≤ v3 then lt (wI M 47 13 v2) fun M1 => (some ((1 : Int32), M1)) else ck (okI 54 v3) (ck (okI 55 v3) (lt (wI M 55 v3.toNatClampNeg (M.1 54 v3.toNatClampNeg)) fun M2 => f_X11_law_L37 n v2 (v3 + 1) M2)))
set_option maxRecDepth 100000 in
set_option maxHeartbeats 4000000 in
theorem w_X11_law_L37 {G : GW} {E : EE} (hG : ab_ok G) (B : Bx G E RX11 cX11_law 4 251 (some .int)) : ∀ (n : Nat) (v2 : Int32) (v3 : Int32) (M : Mem), AWo G E cX11_law 4 (ab_Q G E embI) 37 [(0, .ref 47), (2, .int v2), (3, .int v3)] [] M (f_X11_law_L37 n v2 v3 M) := by
  intro n
  induction n with
  | zero => intro _ _ _; exact aw_none
  | succ n ih =>
    intro v2 v3 M
    rw [f_X11_law_L37]
    refine aw_iload_n (k0 := 3) B 2 (by decide +kernel) rfl rfl ?_
    refine aw_iload_n (k0 := 2) B 1 (by decide +kernel) rfl rfl ?_
    refine aw_icmp_ge (off := 21) B 60 (by decide +kernel) (by decide) (fun _ => ?_) (fun _ => ?_)
    · refine aw_aload_n (k0 := 0) B 0 (by decide +kernel) rfl rfl ?_
      refine aw_iload_n (k0 := 2) B 1 (by decide +kernel) rfl rfl ?_
      refine aw_puti (c := 47) B lkX11_99 lp11_13 (by decide +kernel) rfl (fun M1 => ?_)
      refine aw_iconst (n := 1) (v := (1 : Int32)) B (by decide +kernel) (by decide) ?_
      exact aw_ireturn B (by decide +kernel) rfl
    · refine aw_aload_n (k0 := 0) B 0 (by decide +kernel) rfl rfl ?_
      refine aw_getr (c := 47) B lkX11_31 (by decide +kernel) rfl (r := 55) rfl ?_
      refine aw_iload_n (k0 := 3) B 2 (by decide +kernel) rfl rfl ?_
      refine aw_aload_n (k0 := 0) B 0 (by decide +kernel) rfl rfl ?_
      refine aw_getr (c := 47) B lkX11_28 (by decide +kernel) rfl (r := 54) rfl ?_
      refine aw_iload_n (k0 := 3) B 2 (by decide +kernel) rfl rfl ?_
      refine aw_iaload B (by decide +kernel) ?_
      refine aw_iastore B (by decide +kernel) (fun M2 => ?_)
      refine aw_iinc (i := 3) (n := 1) B 2 [(3, .int (v3 + 1)), (0, .ref 47), (2, .int v2)] (by decide +kernel) rfl (Nat.le_of_ble_eq_true rfl) (v3 + 1) (ab_inc (by decide)) rfl ?_
      refine aw_goto (off := -20) B 37 (by decide +kernel) (by decide) ?_
      exact aw_sub [1, 2, 0] rfl (ih _ _ _)
def f_X11_law (M : Mem) : Option (Int32 × Mem) := bI (f_X11_workOut (-1 : Int32) (M.1 47 11) M) fun x1 M2 => lt (M2.1 47 11) fun x3 => lt (wI M2 47 11 (0 : Int32)) fun M4 => (if (M4.1 47 17) < 0 then f_X11_law_L37 FU x3 (0 : Int32) M4 else (some ((-100 : Int32) - (M4.1 47 17), M4)))
set_option maxRecDepth 100000 in
set_option maxHeartbeats 4000000 in
theorem w_X11_law {G : GW} {E : EE} (hG : ab_ok G) (B : Bx G E RX11 cX11_law 4 251 (some .int)) (M : Mem) : AWo G E cX11_law 4 (ab_Q G E embI) 0 [(0, .ref 47)] [] M (f_X11_law M) := by
  unfold f_X11_law
  refine aw_aload_n (k0 := 0) B 0 (by decide +kernel) rfl rfl ?_
  refine aw_iconst (n := -1) (v := (-1 : Int32)) B (by decide +kernel) (by decide) ?_
  refine aw_aload_n (k0 := 0) B 0 (by decide +kernel) rfl rfl ?_
  refine aw_geti (c := 47) B lkX11_161 (by decide +kernel) rfl ?_
  refine aw_cVI B (c_X11_workOut (eLa E) hG (-1 : Int32) (M.1 47 11) M) cvX11_210 rfl rfl (Nat.le_of_ble_eq_true rfl) rfl (Nat.le_of_ble_eq_true rfl) (by decide +kernel) rfl (fun x1 M2 => ?_)
  refine aw_istore_n (k0 := 1) B [(1, .int x1), (0, .ref 47)] (by decide +kernel) rfl (Nat.le_of_ble_eq_true rfl) rfl ?_
  refine aw_aload_n (k0 := 0) B 1 (by decide +kernel) rfl rfl ?_
  refine aw_geti (c := 47) B lkX11_161 (by decide +kernel) rfl ?_
  refine aw_ltI (fun x3 => ?_)
  refine aw_istore_n (k0 := 2) B [(2, .int x3), (1, .int x1), (0, .ref 47)] (by decide +kernel) rfl (Nat.le_of_ble_eq_true rfl) rfl ?_
  refine aw_aload_n (k0 := 0) B 2 (by decide +kernel) rfl rfl ?_
  refine aw_iconst (n := 0) (v := (0 : Int32)) B (by decide +kernel) (by decide) ?_
  refine aw_puti (c := 47) B lkX11_161 lp11_11 (by decide +kernel) rfl (fun M4 => ?_)
  refine aw_aload_n (k0 := 0) B 2 (by decide +kernel) rfl rfl ?_
  refine aw_geti (c := 47) B lkX11_173 (by decide +kernel) rfl ?_
  refine aw_if_lt (off := 11) B 35 (by decide +kernel) (by decide) (fun _ => ?_) (fun _ => ?_)
  · refine aw_iconst (n := 0) (v := (0 : Int32)) B (by decide +kernel) (by decide) ?_
    refine aw_istore_n (k0 := 3) B [(3, .int (0 : Int32)), (2, .int x3), (1, .int x1), (0, .ref 47)] (by decide +kernel) rfl (Nat.le_of_ble_eq_true rfl) rfl ?_
    exact aw_sub [3, 1, 0] rfl (w_X11_law_L37 hG B FU _ _ _)
  · refine aw_bipush (n := -100) (v := (-100 : Int32)) B (by decide +kernel) (by decide) ?_
    refine aw_aload_n (k0 := 0) B 2 (by decide +kernel) rfl rfl ?_
    refine aw_geti (c := 47) B lkX11_173 (by decide +kernel) rfl ?_
    refine aw_isub B (by decide +kernel) ?_
    exact aw_ireturn B (by decide +kernel) rfl
theorem c_X11_law (l : Launch) {G : GW} (hG : ab_ok G) (M : Mem) : AC l G yX11_law cX11_law 4 (some .int) 251 [.ref 47] M embI (f_X11_law M) := AC.of hG (by decide) (Nat.le_of_ble_eq_true rfl) (fun E hE B => by subst hE; exact w_X11_law hG B M)
def f_X4_counting_L4 (M : Mem) : Nat → Int32 → Int32 → Option Int32
  | 0, _, _ => none
  | n + 1, v1, v2 => (if (M.1 1 1) ≤ v2 then (some v1) else ck (okI 5 v2) (lt (v1 ||| (ab_shl (M.1 5 v2.toNatClampNeg) v2)) fun x1 => f_X4_counting_L4 M n x1 (v2 + 1)))
set_option maxRecDepth 100000 in
set_option maxHeartbeats 4000000 in
theorem w_X4_counting_L4 {G : GW} {E : EE} (hG : ab_ok G) (M : Mem) (B : Bx G E RX4 cX4_counting 3 2 (some .int)) : ∀ (n : Nat) (v1 : Int32) (v2 : Int32), AWo G E cX4_counting 3 (ab_Q G E (embRI M)) 4 [(0, .ref 1), (1, .int v1), (2, .int v2)] [] M (f_X4_counting_L4 M n v1 v2) := by
  intro n
  induction n with
  | zero => intro _ _; exact aw_none
  | succ n ih =>
    intro v1 v2
    rw [f_X4_counting_L4]
    refine aw_iload_n (k0 := 2) B 2 (by decide +kernel) rfl rfl ?_
    refine aw_aload_n (k0 := 0) B 0 (by decide +kernel) rfl rfl ?_
    refine aw_geti (c := 1) B lkX4_28 (by decide +kernel) rfl ?_
    refine aw_icmp_ge (off := 20) B 29 (by decide +kernel) (by decide) (fun _ => ?_) (fun _ => ?_)
    · refine aw_iload_n (k0 := 1) B 1 (by decide +kernel) rfl rfl ?_
      exact aw_ireturn B (by decide +kernel) rfl
    · refine aw_iload_n (k0 := 1) B 1 (by decide +kernel) rfl rfl ?_
      refine aw_aload_n (k0 := 0) B 0 (by decide +kernel) rfl rfl ?_
      refine aw_getr (c := 1) B lkX4_21 (by decide +kernel) rfl (r := 5) rfl ?_
      refine aw_iload_n (k0 := 2) B 2 (by decide +kernel) rfl rfl ?_
      refine aw_iaload B (by decide +kernel) ?_
      refine aw_iload_n (k0 := 2) B 2 (by decide +kernel) rfl rfl ?_
      refine aw_ishl B (by decide +kernel) ?_
      refine aw_ior B (by decide +kernel) ?_
      refine aw_ltI (fun x1 => ?_)
      refine aw_istore_n (k0 := 1) B [(1, .int x1), (0, .ref 1), (2, .int v2)] (by decide +kernel) rfl (Nat.le_of_ble_eq_true rfl) rfl ?_
      refine aw_iinc (i := 2) (n := 1) B 2 [(2, .int (v2 + 1)), (1, .int x1), (0, .ref 1)] (by decide +kernel) rfl (Nat.le_of_ble_eq_true rfl) (v2 + 1) (ab_inc (by decide)) rfl ?_
      refine aw_goto (off := -22) B 4 (by decide +kernel) (by decide) ?_
      exact aw_sub [2, 1, 0] rfl (ih _ _)
def f_X4_counting (M : Mem) : Option Int32 := f_X4_counting_L4 M FU (0 : Int32) (0 : Int32)
set_option maxRecDepth 100000 in
set_option maxHeartbeats 4000000 in
theorem w_X4_counting {G : GW} {E : EE} (hG : ab_ok G) (B : Bx G E RX4 cX4_counting 3 2 (some .int)) (M : Mem) : AWo G E cX4_counting 3 (ab_Q G E (embRI M)) 0 [(0, .ref 1)] [] M (f_X4_counting M) := by
  unfold f_X4_counting
  refine aw_iconst (n := 0) (v := (0 : Int32)) B (by decide +kernel) (by decide) ?_
  refine aw_istore_n (k0 := 1) B [(1, .int (0 : Int32)), (0, .ref 1)] (by decide +kernel) rfl (Nat.le_of_ble_eq_true rfl) rfl ?_
  refine aw_iconst (n := 0) (v := (0 : Int32)) B (by decide +kernel) (by decide) ?_
  refine aw_istore_n (k0 := 2) B [(2, .int (0 : Int32)), (1, .int (0 : Int32)), (0, .ref 1)] (by decide +kernel) rfl (Nat.le_of_ble_eq_true rfl) rfl ?_
  exact aw_sub [2, 1, 0] rfl (w_X4_counting_L4 hG M B FU _ _)
theorem c_X4_counting (l : Launch) {G : GW} (hG : ab_ok G) (M : Mem) : AC l G yX4_counting cX4_counting 3 (some .int) 2 [.ref 1] M (embRI M) (f_X4_counting M) := AC.of hG (by decide) (Nat.le_of_ble_eq_true rfl) (fun E hE B => by subst hE; exact w_X4_counting hG B M)
def f_J7_fill_53178_L5 : Nat → Nat → Int32 → Int32 → Int32 → Mem → Option Mem
  | 0, _, _, _, _, _ => none
  | n + 1, v0, v1, v2, v3, M => (if v3 ≤ v2 then (some M) else ck (okI v0 v2) (lt (wI M v0 v2.toNatClampNeg v1) fun M1 => f_J7_fill_53178_L5 n v0 v1 (v2 + 1) v3 M1))
set_option maxRecDepth 100000 in
set_option maxHeartbeats 4000000 in
theorem w_J7_fill_53178_L5 {G : GW} {E : EE} (hG : ab_ok G) (B : Bx G E RJ7 cJ7_fill_53178 4 2 none) : ∀ (n : Nat) (v0 : Nat) (v1 : Int32) (v2 : Int32) (v3 : Int32) (M : Mem), AWo G E cJ7_fill_53178 4 (ab_Q G E embV) 5 [(0, .ref v0), (1, .int v1), (2, .int v2), (3, .int v3)] [] M (f_J7_fill_53178_L5 n v0 v1 v2 v3 M) := by
  intro n
  induction n with
  | zero => intro _ _ _ _ _; exact aw_none
  | succ n ih =>
    intro v0 v1 v2 v3 M
    rw [f_J7_fill_53178_L5]
    refine aw_iload_n (k0 := 2) B 2 (by decide +kernel) rfl rfl ?_
    refine aw_iload_n (k0 := 3) B 3 (by decide +kernel) rfl rfl ?_
    refine aw_icmp_ge (off := 13) B 20 (by decide +kernel) (by decide) (fun _ => ?_) (fun _ => ?_)
    · exact aw_vreturn B (by decide +kernel) rfl
    · refine aw_aload_n (k0 := 0) B 0 (by decide +kernel) rfl rfl ?_
      refine aw_iload_n (k0 := 2) B 2 (by decide +kernel) rfl rfl ?_
      refine aw_iload_n (k0 := 1) B 1 (by decide +kernel) rfl rfl ?_
      refine aw_iastore B (by decide +kernel) (fun M1 => ?_)
      refine aw_iinc (i := 2) (n := 1) B 2 [(2, .int (v2 + 1)), (0, .ref v0), (1, .int v1), (3, .int v3)] (by decide +kernel) rfl (Nat.le_of_ble_eq_true rfl) (v2 + 1) (ab_inc (by decide)) rfl ?_
      refine aw_goto (off := -12) B 5 (by decide +kernel) (by decide) ?_
      exact aw_sub [1, 2, 0, 3] rfl (ih _ _ _ _ _)
def f_J7_fill_53178 (v0 : Nat) (v1 : Int32) (M : Mem) : Option Mem := ck (decide (ab_k v0 = 100)) (lt (Int32.ofNat (ab_n v0)) fun x1 => f_J7_fill_53178_L5 FU v0 v1 (0 : Int32) x1 M)
set_option maxRecDepth 100000 in
set_option maxHeartbeats 4000000 in
theorem w_J7_fill_53178 {G : GW} {E : EE} (hG : ab_ok G) (B : Bx G E RJ7 cJ7_fill_53178 4 2 none) (v0 : Nat) (v1 : Int32) (M : Mem) : AWo G E cJ7_fill_53178 4 (ab_Q G E embV) 0 [(0, .ref v0), (1, .int v1)] [] M (f_J7_fill_53178 v0 v1 M) := by
  unfold f_J7_fill_53178
  refine aw_iconst (n := 0) (v := (0 : Int32)) B (by decide +kernel) (by decide) ?_
  refine aw_istore_n (k0 := 2) B [(2, .int (0 : Int32)), (0, .ref v0), (1, .int v1)] (by decide +kernel) rfl (Nat.le_of_ble_eq_true rfl) rfl ?_
  refine aw_aload_n (k0 := 0) B 1 (by decide +kernel) rfl rfl ?_
  refine aw_alen B (by decide +kernel) ?_
  refine aw_ltI (fun x1 => ?_)
  refine aw_istore_n (k0 := 3) B [(3, .int x1), (2, .int (0 : Int32)), (0, .ref v0), (1, .int v1)] (by decide +kernel) rfl (Nat.le_of_ble_eq_true rfl) rfl ?_
  exact aw_sub [2, 3, 1, 0] rfl (w_J7_fill_53178_L5 hG B FU _ _ _ _ _)
theorem c_J7_fill_53178 (l : Launch) {G : GW} (hG : ab_ok G) (v0 : Nat) (v1 : Int32) (M : Mem) : AC l G yJ7_fill_53178 cJ7_fill_53178 4 none 2 [.ref v0, .int v1] M embV (f_J7_fill_53178 v0 v1 M) := AC.of hG (by decide) (Nat.le_of_ble_eq_true rfl) (fun E hE B => by subst hE; exact w_J7_fill_53178 hG B v0 v1 M)
def f_X7_clear_11 (v1 : Int32) (M : Mem) : Option Mem := lt (wI M 11 0 v1) fun M1 => lt (wI M1 11 2 ((ab_shl (1 : Int32) v1) - (1 : Int32))) fun M2 => (f_J7_fill_53178 12 (0 : Int32) M2).bind fun M4 => (some M4)
set_option maxRecDepth 100000 in
set_option maxHeartbeats 4000000 in
theorem w_X7_clear_11 {G : GW} {E : EE} (hG : ab_ok G) (B : Bx G E RX7 cX7_clear 2 3 none) (v1 : Int32) (M : Mem) : AWo G E cX7_clear 2 (ab_Q G E embV) 0 [(0, .ref 11), (1, .int v1)] [] M (f_X7_clear_11 v1 M) := by
  unfold f_X7_clear_11
  refine aw_aload_n (k0 := 0) B 0 (by decide +kernel) rfl rfl ?_
  refine aw_iload_n (k0 := 1) B 1 (by decide +kernel) rfl rfl ?_
  refine aw_puti (c := 11) B lkX7_18 lp7_0 (by decide +kernel) rfl (fun M1 => ?_)
  refine aw_aload_n (k0 := 0) B 0 (by decide +kernel) rfl rfl ?_
  refine aw_iconst (n := 1) (v := (1 : Int32)) B (by decide +kernel) (by decide) ?_
  refine aw_iload_n (k0 := 1) B 1 (by decide +kernel) rfl rfl ?_
  refine aw_ishl B (by decide +kernel) ?_
  refine aw_iconst (n := 1) (v := (1 : Int32)) B (by decide +kernel) (by decide) ?_
  refine aw_isub B (by decide +kernel) ?_
  refine aw_puti (c := 11) B lkX7_22 lp7_2 (by decide +kernel) rfl (fun M2 => ?_)
  refine aw_aload_n (k0 := 0) B 0 (by decide +kernel) rfl rfl ?_
  refine aw_getr (c := 11) B lkX7_9 (by decide +kernel) rfl (r := 12) rfl ?_
  refine aw_iconst (n := 0) (v := (0 : Int32)) B (by decide +kernel) (by decide) ?_
  refine aw_cSV B (c_J7_fill_53178 (eLa E) hG 12 (0 : Int32) M2) csX7_25 (Nat.le_of_ble_eq_true rfl) rfl (Nat.le_of_ble_eq_true rfl) (by decide +kernel) rfl (fun M4 => ?_)
  exact aw_vreturn B (by decide +kernel) rfl
theorem c_X7_clear_11 (l : Launch) {G : GW} (hG : ab_ok G) (v1 : Int32) (M : Mem) : AC l G yX7_clear cX7_clear 2 none 3 [.ref 11, .int v1] M embV (f_X7_clear_11 v1 M) := AC.of hG (by decide) (Nat.le_of_ble_eq_true rfl) (fun E hE B => by subst hE; exact w_X7_clear_11 hG B v1 M)
def f_X7_add (v1 : Int32) (v2 : Int32) (M : Mem) : Option Mem := ck (okI 12 v2) (ck (okI 12 v2) (lt (wI M 12 v2.toNatClampNeg ((M.1 12 v2.toNatClampNeg) ||| (ab_shl (1 : Int32) v1))) fun M1 => (some M1)))
set_option maxRecDepth 100000 in
set_option maxHeartbeats 4000000 in
theorem w_X7_add {G : GW} {E : EE} (hG : ab_ok G) (B : Bx G E RX7 cX7_add 3 2 none) (v1 : Int32) (v2 : Int32) (M : Mem) : AWo G E cX7_add 3 (ab_Q G E embV) 0 [(0, .ref 11), (1, .int v1), (2, .int v2)] [] M (f_X7_add v1 v2 M) := by
  unfold f_X7_add
  refine aw_aload_n (k0 := 0) B 0 (by decide +kernel) rfl rfl ?_
  refine aw_getr (c := 11) B lkX7_9 (by decide +kernel) rfl (r := 12) rfl ?_
  refine aw_iload_n (k0 := 2) B 2 (by decide +kernel) rfl rfl ?_
  refine aw_dup2_11 B (by decide +kernel) rfl rfl ?_
  refine aw_iaload B (by decide +kernel) ?_
  refine aw_iconst (n := 1) (v := (1 : Int32)) B (by decide +kernel) (by decide) ?_
  refine aw_iload_n (k0 := 1) B 1 (by decide +kernel) rfl rfl ?_
  refine aw_ishl B (by decide +kernel) ?_
  refine aw_ior B (by decide +kernel) ?_
  refine aw_iastore B (by decide +kernel) (fun M1 => ?_)
  exact aw_vreturn B (by decide +kernel) rfl
theorem c_X7_add (l : Launch) {G : GW} (hG : ab_ok G) (v1 : Int32) (v2 : Int32) (M : Mem) : AC l G yX7_add cX7_add 3 none 2 [.ref 11, .int v1, .int v2] M embV (f_X7_add v1 v2 M) := AC.of hG (by decide) (Nat.le_of_ble_eq_true rfl) (fun E hE B => by subst hE; exact w_X7_add hG B v1 v2 M)
def f_X7_take_b43 (k10 : Int32 → Int32 → Mem → Option Mem) (v2 : Int32) (v3 : Int32) (M : Mem) : Option Mem := k10 v2 (v3 + 1) M
set_option maxRecDepth 100000 in
set_option maxHeartbeats 4000000 in
theorem w_X7_take_b43 {G : GW} {E : EE} (hG : ab_ok G) {k10 : Int32 → Int32 → Mem → Option Mem} (B : Bx G E RX7 cX7_take 4 4 none) (hk10 : ∀ (v2 : Int32) (v3 : Int32) (M : Mem), AWo G E cX7_take 4 (ab_Q G E embV) 10 [(0, .ref 11), (1, .ref 1), (2, .int v2), (3, .int v3)] [] M (k10 v2 v3 M)) (v2 : Int32) (v3 : Int32) (M : Mem) : AWo G E cX7_take 4 (ab_Q G E embV) 43 [(0, .ref 11), (1, .ref 1), (2, .int v2), (3, .int v3)] [] M (f_X7_take_b43 k10 v2 v3 M) := by
  unfold f_X7_take_b43
  refine aw_iinc (i := 3) (n := 1) B 3 [(3, .int (v3 + 1)), (0, .ref 11), (1, .ref 1), (2, .int v2)] (by decide +kernel) rfl (Nat.le_of_ble_eq_true rfl) (v3 + 1) (ab_inc (by decide)) rfl ?_
  refine aw_goto (off := -36) B 10 (by decide +kernel) (by decide) ?_
  exact aw_sub [1, 2, 3, 0] rfl (hk10 _ _ _)
def f_X7_take_L10 : Nat → Int32 → Int32 → Mem → Option Mem
  | 0, _, _, _ => none
  | n + 1, v2, v3, M => (if (M.1 1 1) ≤ v3 then (some M) else (if ((ab_shr v2 v3) &&& (1 : Int32)) = (1 : Int32) then ck (okI 3 v3) (ck (okI 4 v3) ((f_X7_add (M.1 3 v3.toNatClampNeg) (M.1 4 v3.toNatClampNeg) M).bind fun M2 => f_X7_take_b43 (fun a0 a1 a2 => f_X7_take_L10 n a0 a1 a2) v2 v3 M2)) else f_X7_take_b43 (fun a0 a1 a2 => f_X7_take_L10 n a0 a1 a2) v2 v3 M))
set_option maxRecDepth 100000 in
set_option maxHeartbeats 4000000 in
theorem w_X7_take_L10 {G : GW} {E : EE} (hG : ab_ok G) (B : Bx G E RX7 cX7_take 4 4 none) : ∀ (n : Nat) (v2 : Int32) (v3 : Int32) (M : Mem), AWo G E cX7_take 4 (ab_Q G E embV) 10 [(0, .ref 11), (1, .ref 1), (2, .int v2), (3, .int v3)] [] M (f_X7_take_L10 n v2 v3 M) := by
  intro n
  induction n with
  | zero => intro _ _ _; exact aw_none
  | succ n ih =>
    intro v2 v3 M
    rw [f_X7_take_L10]
    refine aw_iload_n (k0 := 3) B 3 (by decide +kernel) rfl rfl ?_
    refine aw_aload_n (k0 := 1) B 1 (by decide +kernel) rfl rfl ?_
    refine aw_geti (c := 1) B lkX7_36 (by decide +kernel) rfl ?_
    refine aw_icmp_ge (off := 34) B 49 (by decide +kernel) (by decide) (fun _ => ?_) (fun _ => ?_)
    · exact aw_vreturn B (by decide +kernel) rfl
    · refine aw_iload_n (k0 := 2) B 2 (by decide +kernel) rfl rfl ?_
      refine aw_iload_n (k0 := 3) B 3 (by decide +kernel) rfl rfl ?_
      refine aw_ishr B (by decide +kernel) ?_
      refine aw_iconst (n := 1) (v := (1 : Int32)) B (by decide +kernel) (by decide) ?_
      refine aw_iand B (by decide +kernel) ?_
      refine aw_iconst (n := 1) (v := (1 : Int32)) B (by decide +kernel) (by decide) ?_
      refine aw_icmp_ne (off := 19) B 43 (by decide +kernel) (by decide) (fun _ => ?_) (fun _ => ?_)
      · exact w_X7_take_b43 hG B ih _ _ _
      · refine aw_aload_n (k0 := 0) B 0 (by decide +kernel) rfl rfl ?_
        refine aw_aload_n (k0 := 1) B 1 (by decide +kernel) rfl rfl ?_
        refine aw_getr (c := 1) B lkX7_39 (by decide +kernel) rfl (r := 3) rfl ?_
        refine aw_iload_n (k0 := 3) B 3 (by decide +kernel) rfl rfl ?_
        refine aw_iaload B (by decide +kernel) ?_
        refine aw_aload_n (k0 := 1) B 1 (by decide +kernel) rfl rfl ?_
        refine aw_getr (c := 1) B lkX7_42 (by decide +kernel) rfl (r := 4) rfl ?_
        refine aw_iload_n (k0 := 3) B 3 (by decide +kernel) rfl rfl ?_
        refine aw_iaload B (by decide +kernel) ?_
        refine aw_cVV B (c_X7_add (eLa E) hG (M.1 3 v3.toNatClampNeg) (M.1 4 v3.toNatClampNeg) M) cvX7_45 rfl rfl (Nat.le_of_ble_eq_true rfl) rfl (Nat.le_of_ble_eq_true rfl) (by decide +kernel) rfl (fun M2 => ?_)
        exact w_X7_take_b43 hG B ih _ _ _
def f_X7_take (v2 : Int32) (M : Mem) : Option Mem := (f_X7_clear_11 (M.1 1 0) M).bind fun M2 => f_X7_take_L10 FU v2 (0 : Int32) M2
set_option maxRecDepth 100000 in
set_option maxHeartbeats 4000000 in
theorem w_X7_take {G : GW} {E : EE} (hG : ab_ok G) (B : Bx G E RX7 cX7_take 4 4 none) (v2 : Int32) (M : Mem) : AWo G E cX7_take 4 (ab_Q G E embV) 0 [(0, .ref 11), (1, .ref 1), (2, .int v2)] [] M (f_X7_take v2 M) := by
  unfold f_X7_take
  refine aw_aload_n (k0 := 0) B 0 (by decide +kernel) rfl rfl ?_
  refine aw_aload_n (k0 := 1) B 1 (by decide +kernel) rfl rfl ?_
  refine aw_geti (c := 1) B lkX7_31 (by decide +kernel) rfl ?_
  refine aw_cVV B (c_X7_clear_11 (eLa E) hG (M.1 1 0) M) cvX7_32 rfl rfl (Nat.le_of_ble_eq_true rfl) rfl (Nat.le_of_ble_eq_true rfl) (by decide +kernel) rfl (fun M2 => ?_)
  refine aw_iconst (n := 0) (v := (0 : Int32)) B (by decide +kernel) (by decide) ?_
  refine aw_istore_n (k0 := 3) B [(3, .int (0 : Int32)), (0, .ref 11), (1, .ref 1), (2, .int v2)] (by decide +kernel) rfl (Nat.le_of_ble_eq_true rfl) rfl ?_
  exact aw_sub [1, 2, 3, 0] rfl (w_X7_take_L10 hG B FU _ _ _)
theorem c_X7_take (l : Launch) {G : GW} (hG : ab_ok G) (v2 : Int32) (M : Mem) : AC l G yX7_take cX7_take 4 none 4 [.ref 11, .ref 1, .int v2] M embV (f_X7_take v2 M) := AC.of hG (by decide) (Nat.le_of_ble_eq_true rfl) (fun E hE B => by subst hE; exact w_X7_take hG B v2 M)
def f_J7_rangeCheck_23922 (v0 : Int32) (v1 : Int32) (v2 : Int32) : Option Unit := (if v1 ≤ v2 then (if 0 ≤ v1 then (if v2 ≤ v0 then (some ()) else none) else none) else none)
set_option maxRecDepth 100000 in
set_option maxHeartbeats 4000000 in
theorem w_J7_rangeCheck_23922 {G : GW} {E : EE} (hG : ab_ok G) (B : Bx G E RJ7 cJ7_rangeCheck_23922 3 2 none) (v0 : Int32) (v1 : Int32) (v2 : Int32) (M : Mem) : AWo G E cJ7_rangeCheck_23922 3 (ab_Q G E (embRU M)) 0 [(0, .int v0), (1, .int v1), (2, .int v2)] [] M (f_J7_rangeCheck_23922 v0 v1 v2) := by
  unfold f_J7_rangeCheck_23922
  refine aw_iload_n (k0 := 1) B 1 (by decide +kernel) rfl rfl ?_
  refine aw_iload_n (k0 := 2) B 2 (by decide +kernel) rfl rfl ?_
  refine aw_icmp_le (off := 44) B 46 (by decide +kernel) (by decide) (fun _ => ?_) (fun _ => ?_)
  · refine aw_iload_n (k0 := 1) B 1 (by decide +kernel) rfl rfl ?_
    refine aw_if_ge (off := 12) B 59 (by decide +kernel) (by decide) (fun _ => ?_) (fun _ => ?_)
    · refine aw_iload_n (k0 := 2) B 2 (by decide +kernel) rfl rfl ?_
      refine aw_iload_n (k0 := 0) B 0 (by decide +kernel) rfl rfl ?_
      refine aw_icmp_le (off := 12) B 73 (by decide +kernel) (by decide) (fun _ => ?_) (fun _ => ?_)
      · exact aw_vreturn B (by decide +kernel) rfl
      · exact aw_none
    · exact aw_none
  · exact aw_none
theorem c_J7_rangeCheck_23922 (l : Launch) {G : GW} (hG : ab_ok G) (v0 : Int32) (v1 : Int32) (v2 : Int32) (M : Mem) : AC l G yJ7_rangeCheck_23922 cJ7_rangeCheck_23922 3 none 2 [.int v0, .int v1, .int v2] M (embRU M) (f_J7_rangeCheck_23922 v0 v1 v2) := AC.of hG (by decide) (Nat.le_of_ble_eq_true rfl) (fun E hE B => by subst hE; exact w_J7_rangeCheck_23922 hG B v0 v1 v2 M)
def f_J7_fill_fda19_L10 : Nat → Nat → Int32 → Int32 → Int32 → Mem → Option Mem
  | 0, _, _, _, _, _ => none
  | n + 1, v0, v2, v3, v4, M => (if v2 ≤ v4 then (some M) else ck (okI v0 v4) (lt (wI M v0 v4.toNatClampNeg v3) fun M1 => f_J7_fill_fda19_L10 n v0 v2 v3 (v4 + 1) M1))
set_option maxRecDepth 100000 in
set_option maxHeartbeats 4000000 in
theorem w_J7_fill_fda19_L10 {G : GW} {E : EE} (hG : ab_ok G) (B : Bx G E RJ7 cJ7_fill_fda19 5 3 none) : ∀ (n : Nat) (v0 : Nat) (v2 : Int32) (v3 : Int32) (v4 : Int32) (M : Mem), AWo G E cJ7_fill_fda19 5 (ab_Q G E embV) 10 [(0, .ref v0), (2, .int v2), (3, .int v3), (4, .int v4)] [] M (f_J7_fill_fda19_L10 n v0 v2 v3 v4 M) := by
  intro n
  induction n with
  | zero => intro _ _ _ _ _; exact aw_none
  | succ n ih =>
    intro v0 v2 v3 v4 M
    rw [f_J7_fill_fda19_L10]
    refine aw_iload (i := 4) B 3 (by decide +kernel) rfl ?_
    refine aw_iload_n (k0 := 2) B 1 (by decide +kernel) rfl rfl ?_
    refine aw_icmp_ge (off := 14) B 27 (by decide +kernel) (by decide) (fun _ => ?_) (fun _ => ?_)
    · exact aw_vreturn B (by decide +kernel) rfl
    · refine aw_aload_n (k0 := 0) B 0 (by decide +kernel) rfl rfl ?_
      refine aw_iload (i := 4) B 3 (by decide +kernel) rfl ?_
      refine aw_iload_n (k0 := 3) B 2 (by decide +kernel) rfl rfl ?_
      refine aw_iastore B (by decide +kernel) (fun M1 => ?_)
      refine aw_iinc (i := 4) (n := 1) B 3 [(4, .int (v4 + 1)), (0, .ref v0), (2, .int v2), (3, .int v3)] (by decide +kernel) rfl (Nat.le_of_ble_eq_true rfl) (v4 + 1) (ab_inc (by decide)) rfl ?_
      refine aw_goto (off := -14) B 10 (by decide +kernel) (by decide) ?_
      exact aw_sub [1, 2, 3, 0] rfl (ih _ _ _ _ _)
def f_J7_fill_fda19 (v0 : Nat) (v1 : Int32) (v2 : Int32) (v3 : Int32) (M : Mem) : Option Mem := ck (decide (ab_k v0 = 100)) ((f_J7_rangeCheck_23922 (Int32.ofNat (ab_n v0)) v1 v2).bind fun _ => f_J7_fill_fda19_L10 FU v0 v2 v3 v1 M)
set_option maxRecDepth 100000 in
set_option maxHeartbeats 4000000 in
theorem w_J7_fill_fda19 {G : GW} {E : EE} (hG : ab_ok G) (B : Bx G E RJ7 cJ7_fill_fda19 5 3 none) (v0 : Nat) (v1 : Int32) (v2 : Int32) (v3 : Int32) (M : Mem) : AWo G E cJ7_fill_fda19 5 (ab_Q G E embV) 0 [(0, .ref v0), (1, .int v1), (2, .int v2), (3, .int v3)] [] M (f_J7_fill_fda19 v0 v1 v2 v3 M) := by
  unfold f_J7_fill_fda19
  refine aw_aload_n (k0 := 0) B 0 (by decide +kernel) rfl rfl ?_
  refine aw_alen B (by decide +kernel) ?_
  refine aw_iload_n (k0 := 1) B 1 (by decide +kernel) rfl rfl ?_
  refine aw_iload_n (k0 := 2) B 2 (by decide +kernel) rfl rfl ?_
  refine aw_cSU B (c_J7_rangeCheck_23922 (eLa E) hG (Int32.ofNat (ab_n v0)) v1 v2 M) csJ7_13 (Nat.le_of_ble_eq_true rfl) rfl (Nat.le_of_ble_eq_true rfl) (by decide +kernel) rfl ?_
  refine aw_iload_n (k0 := 1) B 1 (by decide +kernel) rfl rfl ?_
  refine aw_istore (i := 4) B [(4, .int v1), (0, .ref v0), (1, .int v1), (2, .int v2), (3, .int v3)] (by decide +kernel) (Nat.le_of_ble_eq_true rfl) rfl ?_
  exact aw_sub [1, 3, 4, 0] rfl (w_J7_fill_fda19_L10 hG B FU _ _ _ _ _)
theorem c_J7_fill_fda19 (l : Launch) {G : GW} (hG : ab_ok G) (v0 : Nat) (v1 : Int32) (v2 : Int32) (v3 : Int32) (M : Mem) : AC l G yJ7_fill_fda19 cJ7_fill_fda19 5 none 3 [.ref v0, .int v1, .int v2, .int v3] M embV (f_J7_fill_fda19 v0 v1 v2 v3 M) := AC.of hG (by decide) (Nat.le_of_ble_eq_true rfl) (fun E hE B => by subst hE; exact w_J7_fill_fda19 hG B v0 v1 v2 v3 M)
def f_X7_followers_11_b39 (k4 : Int32 → Int32 → Int32 → Option Int32) (M : Mem) (v1 : Int32) (v2 : Int32) (v3 : Int32) : Option Int32 := k4 v1 v2 (v3 + 1)
set_option maxRecDepth 100000 in
set_option maxHeartbeats 4000000 in
theorem w_X7_followers_11_b39 {G : GW} {E : EE} (hG : ab_ok G) (M : Mem) {k4 : Int32 → Int32 → Int32 → Option Int32} (B : Bx G E RX7 cX7_followers 4 2 (some .int)) (hk4 : ∀ (v1 : Int32) (v2 : Int32) (v3 : Int32), AWo G E cX7_followers 4 (ab_Q G E (embRI M)) 4 [(0, .ref 11), (1, .int v1), (2, .int v2), (3, .int v3)] [] M (k4 v1 v2 v3)) (v1 : Int32) (v2 : Int32) (v3 : Int32) : AWo G E cX7_followers 4 (ab_Q G E (embRI M)) 39 [(0, .ref 11), (1, .int v1), (2, .int v2), (3, .int v3)] [] M (f_X7_followers_11_b39 k4 M v1 v2 v3) := by
  unfold f_X7_followers_11_b39
  refine aw_iinc (i := 3) (n := 1) B 3 [(3, .int (v3 + 1)), (0, .ref 11), (1, .int v1), (2, .int v2)] (by decide +kernel) rfl (Nat.le_of_ble_eq_true rfl) (v3 + 1) (ab_inc (by decide)) rfl ?_
  refine aw_goto (off := -38) B 4 (by decide +kernel) (by decide) ?_
  exact aw_sub [1, 2, 3, 0] rfl (hk4 _ _ _)
def f_X7_followers_11_L4 (M : Mem) : Nat → Int32 → Int32 → Int32 → Option Int32
  | 0, _, _, _ => none
  | n + 1, v1, v2, v3 => (if (M.1 11 0) ≤ v3 then (some v2) else (if ((ab_shr v1 v3) &&& (1 : Int32)) = 0 then ck (okI 12 v3) ((if ((M.1 12 v3.toNatClampNeg) &&& (v1 ^^^ (-1 : Int32))) = 0 then lt (v2 ||| (ab_shl (1 : Int32) v3)) fun x1 => f_X7_followers_11_b39 (fun a0 a1 a2 => f_X7_followers_11_L4 M n a0 a1 a2) M v1 x1 v3 else f_X7_followers_11_b39 (fun a0 a1 a2 => f_X7_followers_11_L4 M n a0 a1 a2) M v1 v2 v3)) else f_X7_followers_11_b39 (fun a0 a1 a2 => f_X7_followers_11_L4 M n a0 a1 a2) M v1 v2 v3))
set_option maxRecDepth 100000 in
set_option maxHeartbeats 4000000 in
theorem w_X7_followers_11_L4 {G : GW} {E : EE} (hG : ab_ok G) (M : Mem) (B : Bx G E RX7 cX7_followers 4 2 (some .int)) : ∀ (n : Nat) (v1 : Int32) (v2 : Int32) (v3 : Int32), AWo G E cX7_followers 4 (ab_Q G E (embRI M)) 4 [(0, .ref 11), (1, .int v1), (2, .int v2), (3, .int v3)] [] M (f_X7_followers_11_L4 M n v1 v2 v3) := by
  intro n
  induction n with
  | zero => intro _ _ _; exact aw_none
  | succ n ih =>
    intro v1 v2 v3
    rw [f_X7_followers_11_L4]
    refine aw_iload_n (k0 := 3) B 3 (by decide +kernel) rfl rfl ?_
    refine aw_aload_n (k0 := 0) B 0 (by decide +kernel) rfl rfl ?_
    refine aw_geti (c := 11) B lkX7_18 (by decide +kernel) rfl ?_
    refine aw_icmp_ge (off := 36) B 45 (by decide +kernel) (by decide) (fun _ => ?_) (fun _ => ?_)
    · refine aw_iload_n (k0 := 2) B 2 (by decide +kernel) rfl rfl ?_
      exact aw_ireturn B (by decide +kernel) rfl
    · refine aw_iload_n (k0 := 1) B 1 (by decide +kernel) rfl rfl ?_
      refine aw_iload_n (k0 := 3) B 3 (by decide +kernel) rfl rfl ?_
      refine aw_ishr B (by decide +kernel) ?_
      refine aw_iconst (n := 1) (v := (1 : Int32)) B (by decide +kernel) (by decide) ?_
      refine aw_iand B (by decide +kernel) ?_
      refine aw_if_ne (off := 22) B 39 (by decide +kernel) (by decide) (fun _ => ?_) (fun _ => ?_)
      · exact w_X7_followers_11_b39 hG M B ih _ _ _
      · refine aw_aload_n (k0 := 0) B 0 (by decide +kernel) rfl rfl ?_
        refine aw_getr (c := 11) B lkX7_9 (by decide +kernel) rfl (r := 12) rfl ?_
        refine aw_iload_n (k0 := 3) B 3 (by decide +kernel) rfl rfl ?_
        refine aw_iaload B (by decide +kernel) ?_
        refine aw_iload_n (k0 := 1) B 1 (by decide +kernel) rfl rfl ?_
        refine aw_iconst (n := -1) (v := (-1 : Int32)) B (by decide +kernel) (by decide) ?_
        refine aw_ixor B (by decide +kernel) ?_
        refine aw_iand B (by decide +kernel) ?_
        refine aw_if_ne (off := 9) B 39 (by decide +kernel) (by decide) (fun _ => ?_) (fun _ => ?_)
        · exact w_X7_followers_11_b39 hG M B ih _ _ _
        · refine aw_iload_n (k0 := 2) B 2 (by decide +kernel) rfl rfl ?_
          refine aw_iconst (n := 1) (v := (1 : Int32)) B (by decide +kernel) (by decide) ?_
          refine aw_iload_n (k0 := 3) B 3 (by decide +kernel) rfl rfl ?_
          refine aw_ishl B (by decide +kernel) ?_
          refine aw_ior B (by decide +kernel) ?_
          refine aw_ltI (fun x1 => ?_)
          refine aw_istore_n (k0 := 2) B [(2, .int x1), (0, .ref 11), (1, .int v1), (3, .int v3)] (by decide +kernel) rfl (Nat.le_of_ble_eq_true rfl) rfl ?_
          exact aw_sub [1, 2, 0, 3] rfl (w_X7_followers_11_b39 hG M B ih _ _ _)
def f_X7_followers_11 (v1 : Int32) (M : Mem) : Option Int32 := f_X7_followers_11_L4 M FU v1 (0 : Int32) (0 : Int32)
set_option maxRecDepth 100000 in
set_option maxHeartbeats 4000000 in
theorem w_X7_followers_11 {G : GW} {E : EE} (hG : ab_ok G) (B : Bx G E RX7 cX7_followers 4 2 (some .int)) (v1 : Int32) (M : Mem) : AWo G E cX7_followers 4 (ab_Q G E (embRI M)) 0 [(0, .ref 11), (1, .int v1)] [] M (f_X7_followers_11 v1 M) := by
  unfold f_X7_followers_11
  refine aw_iconst (n := 0) (v := (0 : Int32)) B (by decide +kernel) (by decide) ?_
  refine aw_istore_n (k0 := 2) B [(2, .int (0 : Int32)), (0, .ref 11), (1, .int v1)] (by decide +kernel) rfl (Nat.le_of_ble_eq_true rfl) rfl ?_
  refine aw_iconst (n := 0) (v := (0 : Int32)) B (by decide +kernel) (by decide) ?_
  refine aw_istore_n (k0 := 3) B [(3, .int (0 : Int32)), (2, .int (0 : Int32)), (0, .ref 11), (1, .int v1)] (by decide +kernel) rfl (Nat.le_of_ble_eq_true rfl) rfl ?_
  exact aw_sub [2, 3, 1, 0] rfl (w_X7_followers_11_L4 hG M B FU _ _ _)
theorem c_X7_followers_11 (l : Launch) {G : GW} (hG : ab_ok G) (v1 : Int32) (M : Mem) : AC l G yX7_followers cX7_followers 4 (some .int) 2 [.ref 11, .int v1] M (embRI M) (f_X7_followers_11 v1 M) := AC.of hG (by decide) (Nat.le_of_ble_eq_true rfl) (fun E hE B => by subst hE; exact w_X7_followers_11 hG B v1 M)
def f_X7_tally_11_b99 (k24 : Int32 → Mem → Option Mem) (v1 : Int32) (M : Mem) : Option Mem := k24 (v1 + 1) M
set_option maxRecDepth 100000 in
set_option maxHeartbeats 4000000 in
theorem w_X7_tally_11_b99 {G : GW} {E : EE} (hG : ab_ok G) {k24 : Int32 → Mem → Option Mem} (B : Bx G E RX7 cX7_tally 4 4 none) (hk24 : ∀ (v1 : Int32) (M : Mem), AWo G E cX7_tally 4 (ab_Q G E embV) 24 [(0, .ref 11), (1, .int v1)] [] M (k24 v1 M)) (v1 : Int32) (M : Mem) : AWo G E cX7_tally 4 (ab_Q G E embV) 99 [(0, .ref 11), (1, .int v1)] [] M (f_X7_tally_11_b99 k24 v1 M) := by
  unfold f_X7_tally_11_b99
  refine aw_iinc (i := 1) (n := 1) B 1 [(1, .int (v1 + 1)), (0, .ref 11)] (by decide +kernel) rfl (Nat.le_of_ble_eq_true rfl) (v1 + 1) (ab_inc (by decide)) rfl ?_
  refine aw_goto (off := -78) B 24 (by decide +kernel) (by decide) ?_
  exact aw_sub [1, 0] rfl (hk24 _ _)
def f_X7_tally_11_b93 (k53 : Int32 → Int32 → Int32 → Mem → Option Mem) (v1 : Int32) (v2 : Int32) (v3 : Int32) (M : Mem) : Option Mem := k53 v1 v2 (v3 + 1) M
set_option maxRecDepth 100000 in
set_option maxHeartbeats 4000000 in
theorem w_X7_tally_11_b93 {G : GW} {E : EE} (hG : ab_ok G) {k53 : Int32 → Int32 → Int32 → Mem → Option Mem} (B : Bx G E RX7 cX7_tally 4 4 none) (hk53 : ∀ (v1 : Int32) (v2 : Int32) (v3 : Int32) (M : Mem), AWo G E cX7_tally 4 (ab_Q G E embV) 53 [(0, .ref 11), (1, .int v1), (2, .int v2), (3, .int v3)] [] M (k53 v1 v2 v3 M)) (v1 : Int32) (v2 : Int32) (v3 : Int32) (M : Mem) : AWo G E cX7_tally 4 (ab_Q G E embV) 93 [(0, .ref 11), (1, .int v1), (2, .int v2), (3, .int v3)] [] M (f_X7_tally_11_b93 k53 v1 v2 v3 M) := by
  unfold f_X7_tally_11_b93
  refine aw_iinc (i := 3) (n := 1) B 3 [(3, .int (v3 + 1)), (0, .ref 11), (1, .int v1), (2, .int v2)] (by decide +kernel) rfl (Nat.le_of_ble_eq_true rfl) (v3 + 1) (ab_inc (by decide)) rfl ?_
  refine aw_goto (off := -43) B 53 (by decide +kernel) (by decide) ?_
  exact aw_sub [1, 2, 3, 0] rfl (hk53 _ _ _ _)
def f_X7_tally_11_L53 (k24 : Int32 → Mem → Option Mem) : Nat → Int32 → Int32 → Int32 → Mem → Option Mem
  | 0, _, _, _, _ => none
  | n + 1, v1, v2, v3, M => (if (M.1 11 0) ≤ v3 then f_X7_tally_11_b99 k24 v1 M else (if v2 = 0 then f_X7_tally_11_b99 k24 v1 M else (if ((ab_shr v2 v3) &&& (1 : Int32)) = (1 : Int32) then ck (okI 13 (v1 ||| (ab_shl (1 : Int32) v3))) (ck (okI 13 v1) (ck (okI 13 (v1 ||| (ab_shl (1 : Int32) v3))) (lt (wI M 13 (v1 ||| (ab_shl (1 : Int32) v3)).toNatClampNeg ((M.1 13 (v1 ||| (ab_shl (1 : Int32) v3)).toNatClampNeg) + (M.1 13 v1.toNatClampNeg))) fun M1 => f_X7_tally_11_b93 (fun a0 a1 a2 a3 => f_X7_tally_11_L53 k24 n a0 a1 a2 a3) v1 v2 v3 M1))) else f_X7_tally_11_b93 (fun a0 a1 a2 a3 => f_X7_tally_11_L53 k24 n a0 a1 a2 a3) v1 v2 v3 M)))
set_option maxRecDepth 100000 in
set_option maxHeartbeats 4000000 in
theorem w_X7_tally_11_L53 {G : GW} {E : EE} (hG : ab_ok G) {k24 : Int32 → Mem → Option Mem} (B : Bx G E RX7 cX7_tally 4 4 none) (hk24 : ∀ (v1 : Int32) (M : Mem), AWo G E cX7_tally 4 (ab_Q G E embV) 24 [(0, .ref 11), (1, .int v1)] [] M (k24 v1 M)) : ∀ (n : Nat) (v1 : Int32) (v2 : Int32) (v3 : Int32) (M : Mem), AWo G E cX7_tally 4 (ab_Q G E embV) 53 [(0, .ref 11), (1, .int v1), (2, .int v2), (3, .int v3)] [] M (f_X7_tally_11_L53 k24 n v1 v2 v3 M) := by
  intro n
  induction n with
  | zero => intro _ _ _ _; exact aw_none
  | succ n ih =>
    intro v1 v2 v3 M
    rw [f_X7_tally_11_L53]
    refine aw_iload_n (k0 := 3) B 3 (by decide +kernel) rfl rfl ?_
    refine aw_aload_n (k0 := 0) B 0 (by decide +kernel) rfl rfl ?_
    refine aw_geti (c := 11) B lkX7_18 (by decide +kernel) rfl ?_
    refine aw_icmp_ge (off := 41) B 99 (by decide +kernel) (by decide) (fun _ => ?_) (fun _ => ?_)
    · exact aw_sub [0, 1] rfl (w_X7_tally_11_b99 hG B hk24 _ _)
    · refine aw_iload_n (k0 := 2) B 2 (by decide +kernel) rfl rfl ?_
      refine aw_if_eq (off := 37) B 99 (by decide +kernel) (by decide) (fun _ => ?_) (fun _ => ?_)
      · exact aw_sub [0, 1] rfl (w_X7_tally_11_b99 hG B hk24 _ _)
      · refine aw_iload_n (k0 := 2) B 2 (by decide +kernel) rfl rfl ?_
        refine aw_iload_n (k0 := 3) B 3 (by decide +kernel) rfl rfl ?_
        refine aw_ishr B (by decide +kernel) ?_
        refine aw_iconst (n := 1) (v := (1 : Int32)) B (by decide +kernel) (by decide) ?_
        refine aw_iand B (by decide +kernel) ?_
        refine aw_iconst (n := 1) (v := (1 : Int32)) B (by decide +kernel) (by decide) ?_
        refine aw_icmp_ne (off := 22) B 93 (by decide +kernel) (by decide) (fun _ => ?_) (fun _ => ?_)
        · exact w_X7_tally_11_b93 hG B ih _ _ _ _
        · refine aw_aload_n (k0 := 0) B 0 (by decide +kernel) rfl rfl ?_
          refine aw_getr (c := 11) B lkX7_15 (by decide +kernel) rfl (r := 13) rfl ?_
          refine aw_iload_n (k0 := 1) B 1 (by decide +kernel) rfl rfl ?_
          refine aw_iconst (n := 1) (v := (1 : Int32)) B (by decide +kernel) (by decide) ?_
          refine aw_iload_n (k0 := 3) B 3 (by decide +kernel) rfl rfl ?_
          refine aw_ishl B (by decide +kernel) ?_
          refine aw_ior B (by decide +kernel) ?_
          refine aw_dup2_11 B (by decide +kernel) rfl rfl ?_
          refine aw_iaload B (by decide +kernel) ?_
          refine aw_aload_n (k0 := 0) B 0 (by decide +kernel) rfl rfl ?_
          refine aw_getr (c := 11) B lkX7_15 (by decide +kernel) rfl (r := 13) rfl ?_
          refine aw_iload_n (k0 := 1) B 1 (by decide +kernel) rfl rfl ?_
          refine aw_iaload B (by decide +kernel) ?_
          refine aw_iadd B (by decide +kernel) ?_
          refine aw_iastore B (by decide +kernel) (fun M1 => ?_)
          exact w_X7_tally_11_b93 hG B ih _ _ _ _
def f_X7_tally_11_b50 (k24 : Int32 → Mem → Option Mem) (v1 : Int32) (s0 : Int32) (M : Mem) : Option Mem := f_X7_tally_11_L53 k24 FU v1 s0 (0 : Int32) M
set_option maxRecDepth 100000 in
set_option maxHeartbeats 4000000 in
theorem w_X7_tally_11_b50 {G : GW} {E : EE} (hG : ab_ok G) {k24 : Int32 → Mem → Option Mem} (B : Bx G E RX7 cX7_tally 4 4 none) (hk24 : ∀ (v1 : Int32) (M : Mem), AWo G E cX7_tally 4 (ab_Q G E embV) 24 [(0, .ref 11), (1, .int v1)] [] M (k24 v1 M)) (v1 : Int32) (s0 : Int32) (M : Mem) : AWo G E cX7_tally 4 (ab_Q G E embV) 50 [(0, .ref 11), (1, .int v1)] [.int s0] M (f_X7_tally_11_b50 k24 v1 s0 M) := by
  unfold f_X7_tally_11_b50
  refine aw_istore_n (k0 := 2) B [(2, .int s0), (0, .ref 11), (1, .int v1)] (by decide +kernel) rfl (Nat.le_of_ble_eq_true rfl) rfl ?_
  refine aw_iconst (n := 0) (v := (0 : Int32)) B (by decide +kernel) (by decide) ?_
  refine aw_istore_n (k0 := 3) B [(3, .int (0 : Int32)), (2, .int s0), (0, .ref 11), (1, .int v1)] (by decide +kernel) rfl (Nat.le_of_ble_eq_true rfl) rfl ?_
  exact aw_sub [2, 3, 1, 0] rfl (w_X7_tally_11_L53 hG B hk24 FU _ _ _ _)
def f_X7_tally_11_L24 : Nat → Int32 → Mem → Option Mem
  | 0, _, _ => none
  | n + 1, v1, M => (if (M.1 11 2) ≤ v1 then (some M) else ck (okI 13 v1) ((if (M.1 13 v1.toNatClampNeg) ≤ 0 then f_X7_tally_11_b50 (fun a0 a1 => f_X7_tally_11_L24 n a0 a1) v1 (0 : Int32) M else (f_X7_followers_11 v1 M).bind fun x1 => f_X7_tally_11_b50 (fun a0 a1 => f_X7_tally_11_L24 n a0 a1) v1 x1 M)))
set_option maxRecDepth 100000 in
set_option maxHeartbeats 4000000 in
theorem w_X7_tally_11_L24 {G : GW} {E : EE} (hG : ab_ok G) (B : Bx G E RX7 cX7_tally 4 4 none) : ∀ (n : Nat) (v1 : Int32) (M : Mem), AWo G E cX7_tally 4 (ab_Q G E embV) 24 [(0, .ref 11), (1, .int v1)] [] M (f_X7_tally_11_L24 n v1 M) := by
  intro n
  induction n with
  | zero => intro _ _; exact aw_none
  | succ n ih =>
    intro v1 M
    rw [f_X7_tally_11_L24]
    refine aw_iload_n (k0 := 1) B 1 (by decide +kernel) rfl rfl ?_
    refine aw_aload_n (k0 := 0) B 0 (by decide +kernel) rfl rfl ?_
    refine aw_geti (c := 11) B lkX7_22 (by decide +kernel) rfl ?_
    refine aw_icmp_ge (off := 76) B 105 (by decide +kernel) (by decide) (fun _ => ?_) (fun _ => ?_)
    · exact aw_vreturn B (by decide +kernel) rfl
    · refine aw_aload_n (k0 := 0) B 0 (by decide +kernel) rfl rfl ?_
      refine aw_getr (c := 11) B lkX7_15 (by decide +kernel) rfl (r := 13) rfl ?_
      refine aw_iload_n (k0 := 1) B 1 (by decide +kernel) rfl rfl ?_
      refine aw_iaload B (by decide +kernel) ?_
      refine aw_if_le (off := 11) B 49 (by decide +kernel) (by decide) (fun _ => ?_) (fun _ => ?_)
      · refine aw_iconst (n := 0) (v := (0 : Int32)) B (by decide +kernel) (by decide) ?_
        exact w_X7_tally_11_b50 hG B ih _ _ _
      · refine aw_aload_n (k0 := 0) B 0 (by decide +kernel) rfl rfl ?_
        refine aw_iload_n (k0 := 1) B 1 (by decide +kernel) rfl rfl ?_
        refine aw_cVR B (c_X7_followers_11 (eLa E) hG v1 M) cvX7_52 rfl rfl (Nat.le_of_ble_eq_true rfl) rfl (Nat.le_of_ble_eq_true rfl) (by decide +kernel) rfl (fun x1 => ?_)
        refine aw_goto (off := 4) B 50 (by decide +kernel) (by decide) ?_
        exact w_X7_tally_11_b50 hG B ih _ _ _
def f_X7_tally_11 (M : Mem) : Option Mem := (f_J7_fill_fda19 13 (0 : Int32) ((M.1 11 2) + (1 : Int32)) (0 : Int32) M).bind fun M2 => ck (okI 13 (0 : Int32)) (lt (wI M2 13 (0 : Int32).toNatClampNeg (1 : Int32)) fun M3 => f_X7_tally_11_L24 FU (0 : Int32) M3)
set_option maxRecDepth 100000 in
set_option maxHeartbeats 4000000 in
theorem w_X7_tally_11 {G : GW} {E : EE} (hG : ab_ok G) (B : Bx G E RX7 cX7_tally 4 4 none) (M : Mem) : AWo G E cX7_tally 4 (ab_Q G E embV) 0 [(0, .ref 11)] [] M (f_X7_tally_11 M) := by
  unfold f_X7_tally_11
  refine aw_aload_n (k0 := 0) B 0 (by decide +kernel) rfl rfl ?_
  refine aw_getr (c := 11) B lkX7_15 (by decide +kernel) rfl (r := 13) rfl ?_
  refine aw_iconst (n := 0) (v := (0 : Int32)) B (by decide +kernel) (by decide) ?_
  refine aw_aload_n (k0 := 0) B 0 (by decide +kernel) rfl rfl ?_
  refine aw_geti (c := 11) B lkX7_22 (by decide +kernel) rfl ?_
  refine aw_iconst (n := 1) (v := (1 : Int32)) B (by decide +kernel) (by decide) ?_
  refine aw_iadd B (by decide +kernel) ?_
  refine aw_iconst (n := 0) (v := (0 : Int32)) B (by decide +kernel) (by decide) ?_
  refine aw_cSV B (c_J7_fill_fda19 (eLa E) hG 13 (0 : Int32) ((M.1 11 2) + (1 : Int32)) (0 : Int32) M) csX7_49 (Nat.le_of_ble_eq_true rfl) rfl (Nat.le_of_ble_eq_true rfl) (by decide +kernel) rfl (fun M2 => ?_)
  refine aw_aload_n (k0 := 0) B 0 (by decide +kernel) rfl rfl ?_
  refine aw_getr (c := 11) B lkX7_15 (by decide +kernel) rfl (r := 13) rfl ?_
  refine aw_iconst (n := 0) (v := (0 : Int32)) B (by decide +kernel) (by decide) ?_
  refine aw_iconst (n := 1) (v := (1 : Int32)) B (by decide +kernel) (by decide) ?_
  refine aw_iastore B (by decide +kernel) (fun M3 => ?_)
  refine aw_iconst (n := 0) (v := (0 : Int32)) B (by decide +kernel) (by decide) ?_
  refine aw_istore_n (k0 := 1) B [(1, .int (0 : Int32)), (0, .ref 11)] (by decide +kernel) rfl (Nat.le_of_ble_eq_true rfl) rfl ?_
  exact aw_sub [1, 0] rfl (w_X7_tally_11_L24 hG B FU _ _)
theorem c_X7_tally_11 (l : Launch) {G : GW} (hG : ab_ok G) (M : Mem) : AC l G yX7_tally cX7_tally 4 none 4 [.ref 11] M embV (f_X7_tally_11 M) := AC.of hG (by decide) (Nat.le_of_ble_eq_true rfl) (fun E hE B => by subst hE; exact w_X7_tally_11 hG B M)
def f_X10_tallied (M : Mem) : Option Mem := (f_X4_counting M).bind fun x1 => (f_X7_take x1 M).bind fun M4 => (f_X7_tally_11 M4).bind fun M6 => (some M6)
set_option maxRecDepth 100000 in
set_option maxHeartbeats 4000000 in
theorem w_X10_tallied {G : GW} {E : EE} (hG : ab_ok G) (B : Bx G E RX10 cX10_tallied 1 5 (some (.object "SecondBest$Orders"))) (M : Mem) : AWo G E cX10_tallied 1 (ab_Q G E (embA 11)) 0 [(0, .ref 0)] [] M (f_X10_tallied M) := by
  unfold f_X10_tallied
  refine aw_aload_n (k0 := 0) B 0 (by decide +kernel) rfl rfl ?_
  refine aw_getr (c := 0) B lkX10_26 (by decide +kernel) rfl (r := 11) rfl ?_
  refine aw_aload_n (k0 := 0) B 0 (by decide +kernel) rfl rfl ?_
  refine aw_getr (c := 0) B lkX10_10 (by decide +kernel) rfl (r := 1) rfl ?_
  refine aw_aload_n (k0 := 0) B 0 (by decide +kernel) rfl rfl ?_
  refine aw_getr (c := 0) B lkX10_10 (by decide +kernel) rfl (r := 1) rfl ?_
  refine aw_cVR B (c_X4_counting (eLa E) hG M) cvX10_202 rfl rfl (Nat.le_of_ble_eq_true rfl) rfl (Nat.le_of_ble_eq_true rfl) (by decide +kernel) rfl (fun x1 => ?_)
  refine aw_cVV B (c_X7_take (eLa E) hG x1 M) cvX10_190 rfl rfl (Nat.le_of_ble_eq_true rfl) rfl (Nat.le_of_ble_eq_true rfl) (by decide +kernel) rfl (fun M4 => ?_)
  refine aw_aload_n (k0 := 0) B 0 (by decide +kernel) rfl rfl ?_
  refine aw_getr (c := 0) B lkX10_26 (by decide +kernel) rfl (r := 11) rfl ?_
  refine aw_cVV B (c_X7_tally_11 (eLa E) hG M4) cvX10_205 rfl rfl (Nat.le_of_ble_eq_true rfl) rfl (Nat.le_of_ble_eq_true rfl) (by decide +kernel) rfl (fun M6 => ?_)
  refine aw_aload_n (k0 := 0) B 0 (by decide +kernel) rfl rfl ?_
  refine aw_getr (c := 0) B lkX10_26 (by decide +kernel) rfl (r := 11) rfl ?_
  exact aw_areturn B (by decide +kernel) rfl
theorem c_X10_tallied (l : Launch) {G : GW} (hG : ab_ok G) (M : Mem) : AC l G yX10_tallied cX10_tallied 1 (some (.object "SecondBest$Orders")) 5 [.ref 0] M (embA 11) (f_X10_tallied M) := AC.of hG (by decide) (Nat.le_of_ble_eq_true rfl) (fun E hE B => by subst hE; exact w_X10_tallied hG B M)
def f_X7_all_11 (M : Mem) : Option Int32 := ck (okI 13 (M.1 11 2)) ((some (M.1 13 (M.1 11 2).toNatClampNeg)))
set_option maxRecDepth 100000 in
set_option maxHeartbeats 4000000 in
theorem w_X7_all_11 {G : GW} {E : EE} (hG : ab_ok G) (B : Bx G E RX7 cX7_all 1 2 (some .int)) (M : Mem) : AWo G E cX7_all 1 (ab_Q G E (embRI M)) 0 [(0, .ref 11)] [] M (f_X7_all_11 M) := by
  unfold f_X7_all_11
  refine aw_aload_n (k0 := 0) B 0 (by decide +kernel) rfl rfl ?_
  refine aw_getr (c := 11) B lkX7_15 (by decide +kernel) rfl (r := 13) rfl ?_
  refine aw_aload_n (k0 := 0) B 0 (by decide +kernel) rfl rfl ?_
  refine aw_geti (c := 11) B lkX7_22 (by decide +kernel) rfl ?_
  refine aw_iaload B (by decide +kernel) ?_
  exact aw_ireturn B (by decide +kernel) rfl
theorem c_X7_all_11 (l : Launch) {G : GW} (hG : ab_ok G) (M : Mem) : AC l G yX7_all cX7_all 1 (some .int) 2 [.ref 11] M (embRI M) (f_X7_all_11 M) := AC.of hG (by decide) (Nat.le_of_ble_eq_true rfl) (fun E hE B => by subst hE; exact w_X7_all_11 hG B M)
def f_J6_bitCount_0f7a4 (v0 : Int32) : Option Int32 := lt (v0 - ((ab_ushr v0 (1 : Int32)) &&& (1431655765 : Int32))) fun x1 => lt ((x1 &&& (858993459 : Int32)) + ((ab_ushr x1 (2 : Int32)) &&& (858993459 : Int32))) fun x2 => lt ((x2 + (ab_ushr x2 (4 : Int32))) &&& (252645135 : Int32)) fun x3 => lt (x3 + (ab_ushr x3 (8 : Int32))) fun x4 => lt (x4 + (ab_ushr x4 (16 : Int32))) fun x5 => (some (x5 &&& (63 : Int32)))
set_option maxRecDepth 100000 in
set_option maxHeartbeats 4000000 in
theorem w_J6_bitCount_0f7a4 {G : GW} {E : EE} (hG : ab_ok G) (B : Bx G E RJ6 cJ6_bitCount_0f7a4 1 2 (some .int)) (v0 : Int32) (M : Mem) : AWo G E cJ6_bitCount_0f7a4 1 (ab_Q G E (embRI M)) 0 [(0, .int v0)] [] M (f_J6_bitCount_0f7a4 v0) := by
  unfold f_J6_bitCount_0f7a4
  refine aw_iload_n (k0 := 0) B 0 (by decide +kernel) rfl rfl ?_
  refine aw_iload_n (k0 := 0) B 0 (by decide +kernel) rfl rfl ?_
  refine aw_iconst (n := 1) (v := (1 : Int32)) B (by decide +kernel) (by decide) ?_
  refine aw_iushr B (by decide +kernel) ?_
  refine aw_ldcw B (by decide +kernel) lwJ6_265 ?_
  refine aw_iand B (by decide +kernel) ?_
  refine aw_isub B (by decide +kernel) ?_
  refine aw_ltI (fun x1 => ?_)
  refine aw_istore_n (k0 := 0) B [(0, .int x1)] (by decide +kernel) rfl (Nat.le_of_ble_eq_true rfl) rfl ?_
  refine aw_iload_n (k0 := 0) B 0 (by decide +kernel) rfl rfl ?_
  refine aw_ldcw B (by decide +kernel) lwJ6_266 ?_
  refine aw_iand B (by decide +kernel) ?_
  refine aw_iload_n (k0 := 0) B 0 (by decide +kernel) rfl rfl ?_
  refine aw_iconst (n := 2) (v := (2 : Int32)) B (by decide +kernel) (by decide) ?_
  refine aw_iushr B (by decide +kernel) ?_
  refine aw_ldcw B (by decide +kernel) lwJ6_266 ?_
  refine aw_iand B (by decide +kernel) ?_
  refine aw_iadd B (by decide +kernel) ?_
  refine aw_ltI (fun x2 => ?_)
  refine aw_istore_n (k0 := 0) B [(0, .int x2)] (by decide +kernel) rfl (Nat.le_of_ble_eq_true rfl) rfl ?_
  refine aw_iload_n (k0 := 0) B 0 (by decide +kernel) rfl rfl ?_
  refine aw_iload_n (k0 := 0) B 0 (by decide +kernel) rfl rfl ?_
  refine aw_iconst (n := 4) (v := (4 : Int32)) B (by decide +kernel) (by decide) ?_
  refine aw_iushr B (by decide +kernel) ?_
  refine aw_iadd B (by decide +kernel) ?_
  refine aw_ldcw B (by decide +kernel) lwJ6_267 ?_
  refine aw_iand B (by decide +kernel) ?_
  refine aw_ltI (fun x3 => ?_)
  refine aw_istore_n (k0 := 0) B [(0, .int x3)] (by decide +kernel) rfl (Nat.le_of_ble_eq_true rfl) rfl ?_
  refine aw_iload_n (k0 := 0) B 0 (by decide +kernel) rfl rfl ?_
  refine aw_iload_n (k0 := 0) B 0 (by decide +kernel) rfl rfl ?_
  refine aw_bipush (n := 8) (v := (8 : Int32)) B (by decide +kernel) (by decide) ?_
  refine aw_iushr B (by decide +kernel) ?_
  refine aw_iadd B (by decide +kernel) ?_
  refine aw_ltI (fun x4 => ?_)
  refine aw_istore_n (k0 := 0) B [(0, .int x4)] (by decide +kernel) rfl (Nat.le_of_ble_eq_true rfl) rfl ?_
  refine aw_iload_n (k0 := 0) B 0 (by decide +kernel) rfl rfl ?_
  refine aw_iload_n (k0 := 0) B 0 (by decide +kernel) rfl rfl ?_
  refine aw_bipush (n := 16) (v := (16 : Int32)) B (by decide +kernel) (by decide) ?_
  refine aw_iushr B (by decide +kernel) ?_
  refine aw_iadd B (by decide +kernel) ?_
  refine aw_ltI (fun x5 => ?_)
  refine aw_istore_n (k0 := 0) B [(0, .int x5)] (by decide +kernel) rfl (Nat.le_of_ble_eq_true rfl) rfl ?_
  refine aw_iload_n (k0 := 0) B 0 (by decide +kernel) rfl rfl ?_
  refine aw_bipush (n := 63) (v := (63 : Int32)) B (by decide +kernel) (by decide) ?_
  refine aw_iand B (by decide +kernel) ?_
  exact aw_ireturn B (by decide +kernel) rfl
theorem c_J6_bitCount_0f7a4 (l : Launch) {G : GW} (hG : ab_ok G) (v0 : Int32) (M : Mem) : AC l G yJ6_bitCount_0f7a4 cJ6_bitCount_0f7a4 1 (some .int) 2 [.int v0] M (embRI M) (f_J6_bitCount_0f7a4 v0) := AC.of hG (by decide) (Nat.le_of_ble_eq_true rfl) (fun E hE B => by subst hE; exact w_J6_bitCount_0f7a4 hG B v0 M)
def f_X7_firstAt_L7 (M : Mem) : Nat → Int32 → Int32 → Int32 → Int32 → Option Int32
  | 0, _, _, _, _ => none
  | n + 1, v1, v2, v3, v4 => (if v1 < v4 then (f_J6_bitCount_0f7a4 (v3 - (1 : Int32))).bind fun x1 => (some x1) else (f_X7_followers_11 v2 M).bind fun x3 => (f_X7_followers_11 v2 M).bind fun x5 => lt (x3 &&& (-x5)) fun x7 => lt (v2 ||| x7) fun x8 => f_X7_firstAt_L7 M n v1 x8 x7 (v4 + 1))
set_option maxRecDepth 100000 in
set_option maxHeartbeats 4000000 in
theorem w_X7_firstAt_L7 {G : GW} {E : EE} (hG : ab_ok G) (M : Mem) (B : Bx G E RX7 cX7_firstAt 5 3 (some .int)) : ∀ (n : Nat) (v1 : Int32) (v2 : Int32) (v3 : Int32) (v4 : Int32), AWo G E cX7_firstAt 5 (ab_Q G E (embRI M)) 7 [(0, .ref 11), (1, .int v1), (2, .int v2), (3, .int v3), (4, .int v4)] [] M (f_X7_firstAt_L7 M n v1 v2 v3 v4) := by
  intro n
  induction n with
  | zero => intro _ _ _ _; exact aw_none
  | succ n ih =>
    intro v1 v2 v3 v4
    rw [f_X7_firstAt_L7]
    refine aw_iload (i := 4) B 4 (by decide +kernel) rfl ?_
    refine aw_iload_n (k0 := 1) B 1 (by decide +kernel) rfl rfl ?_
    refine aw_icmp_gt (off := 26) B 36 (by decide +kernel) (by decide) (fun _ => ?_) (fun _ => ?_)
    · refine aw_iload_n (k0 := 3) B 3 (by decide +kernel) rfl rfl ?_
      refine aw_iconst (n := 1) (v := (1 : Int32)) B (by decide +kernel) (by decide) ?_
      refine aw_isub B (by decide +kernel) ?_
      refine aw_cSR B (c_J6_bitCount_0f7a4 (eLa E) hG (v3 - (1 : Int32)) M) csX7_56 (Nat.le_of_ble_eq_true rfl) rfl (Nat.le_of_ble_eq_true rfl) (by decide +kernel) rfl (fun x1 => ?_)
      exact aw_ireturn B (by decide +kernel) rfl
    · refine aw_aload_n (k0 := 0) B 0 (by decide +kernel) rfl rfl ?_
      refine aw_iload_n (k0 := 2) B 2 (by decide +kernel) rfl rfl ?_
      refine aw_cVR B (c_X7_followers_11 (eLa E) hG v2 M) cvX7_52 rfl rfl (Nat.le_of_ble_eq_true rfl) rfl (Nat.le_of_ble_eq_true rfl) (by decide +kernel) rfl (fun x3 => ?_)
      refine aw_aload_n (k0 := 0) B 0 (by decide +kernel) rfl rfl ?_
      refine aw_iload_n (k0 := 2) B 2 (by decide +kernel) rfl rfl ?_
      refine aw_cVR B (c_X7_followers_11 (eLa E) hG v2 M) cvX7_52 rfl rfl (Nat.le_of_ble_eq_true rfl) rfl (Nat.le_of_ble_eq_true rfl) (by decide +kernel) rfl (fun x5 => ?_)
      refine aw_ineg B (by decide +kernel) ?_
      refine aw_iand B (by decide +kernel) ?_
      refine aw_ltI (fun x7 => ?_)
      refine aw_istore_n (k0 := 3) B [(3, .int x7), (0, .ref 11), (1, .int v1), (2, .int v2), (4, .int v4)] (by decide +kernel) rfl (Nat.le_of_ble_eq_true rfl) rfl ?_
      refine aw_iload_n (k0 := 2) B 3 (by decide +kernel) rfl rfl ?_
      refine aw_iload_n (k0 := 3) B 0 (by decide +kernel) rfl rfl ?_
      refine aw_ior B (by decide +kernel) ?_
      refine aw_ltI (fun x8 => ?_)
      refine aw_istore_n (k0 := 2) B [(2, .int x8), (3, .int x7), (0, .ref 11), (1, .int v1), (4, .int v4)] (by decide +kernel) rfl (Nat.le_of_ble_eq_true rfl) rfl ?_
      refine aw_iinc (i := 4) (n := 1) B 4 [(4, .int (v4 + 1)), (2, .int x8), (3, .int x7), (0, .ref 11), (1, .int v1)] (by decide +kernel) rfl (Nat.le_of_ble_eq_true rfl) (v4 + 1) (ab_inc (by decide)) rfl ?_
      refine aw_goto (off := -26) B 7 (by decide +kernel) (by decide) ?_
      exact aw_sub [3, 4, 1, 2, 0] rfl (ih _ _ _ _)
def f_X7_firstAt (v1 : Int32) (M : Mem) : Option Int32 := f_X7_firstAt_L7 M FU v1 (0 : Int32) (0 : Int32) (0 : Int32)
set_option maxRecDepth 100000 in
set_option maxHeartbeats 4000000 in
theorem w_X7_firstAt {G : GW} {E : EE} (hG : ab_ok G) (B : Bx G E RX7 cX7_firstAt 5 3 (some .int)) (v1 : Int32) (M : Mem) : AWo G E cX7_firstAt 5 (ab_Q G E (embRI M)) 0 [(0, .ref 11), (1, .int v1)] [] M (f_X7_firstAt v1 M) := by
  unfold f_X7_firstAt
  refine aw_iconst (n := 0) (v := (0 : Int32)) B (by decide +kernel) (by decide) ?_
  refine aw_istore_n (k0 := 2) B [(2, .int (0 : Int32)), (0, .ref 11), (1, .int v1)] (by decide +kernel) rfl (Nat.le_of_ble_eq_true rfl) rfl ?_
  refine aw_iconst (n := 0) (v := (0 : Int32)) B (by decide +kernel) (by decide) ?_
  refine aw_istore_n (k0 := 3) B [(3, .int (0 : Int32)), (2, .int (0 : Int32)), (0, .ref 11), (1, .int v1)] (by decide +kernel) rfl (Nat.le_of_ble_eq_true rfl) rfl ?_
  refine aw_iconst (n := 0) (v := (0 : Int32)) B (by decide +kernel) (by decide) ?_
  refine aw_istore (i := 4) B [(4, .int (0 : Int32)), (3, .int (0 : Int32)), (2, .int (0 : Int32)), (0, .ref 11), (1, .int v1)] (by decide +kernel) (Nat.le_of_ble_eq_true rfl) rfl ?_
  exact aw_sub [3, 4, 2, 1, 0] rfl (w_X7_firstAt_L7 hG M B FU _ _ _ _)
theorem c_X7_firstAt (l : Launch) {G : GW} (hG : ab_ok G) (v1 : Int32) (M : Mem) : AC l G yX7_firstAt cX7_firstAt 5 (some .int) 3 [.ref 11, .int v1] M (embRI M) (f_X7_firstAt v1 M) := AC.of hG (by decide) (Nat.le_of_ble_eq_true rfl) (fun E hE B => by subst hE; exact w_X7_firstAt hG B v1 M)
def f_X10_orders (v1 : Int32) (M : Mem) : Option (Int32 × Mem) := (if v1 < (-1 : Int32) then (some ((-1 : Int32), M)) else (if v1 < (M.1 1 0) then (f_X10_tallied M).bind fun M2 => (if v1 = (-1 : Int32) then (f_X7_all_11 M2).bind fun x7 => (some (x7, M2)) else (f_X7_all_11 M2).bind fun x3 => (if x3 = 0 then (some ((-2 : Int32), M2)) else (f_X7_firstAt v1 M2).bind fun x5 => (some (x5, M2)))) else (some ((-1 : Int32), M))))
set_option maxRecDepth 100000 in
set_option maxHeartbeats 4000000 in
theorem w_X10_orders {G : GW} {E : EE} (hG : ab_ok G) (B : Bx G E RX10 cX10_orders 3 6 (some .int)) (v1 : Int32) (M : Mem) : AWo G E cX10_orders 3 (ab_Q G E embI) 0 [(0, .ref 0), (1, .int v1)] [] M (f_X10_orders v1 M) := by
  unfold f_X10_orders
  refine aw_iload_n (k0 := 1) B 1 (by decide +kernel) rfl rfl ?_
  refine aw_iconst (n := -1) (v := (-1 : Int32)) B (by decide +kernel) (by decide) ?_
  refine aw_icmp_lt (off := 14) B 16 (by decide +kernel) (by decide) (fun _ => ?_) (fun _ => ?_)
  · refine aw_iconst (n := -1) (v := (-1 : Int32)) B (by decide +kernel) (by decide) ?_
    exact aw_ireturn B (by decide +kernel) rfl
  · refine aw_iload_n (k0 := 1) B 1 (by decide +kernel) rfl rfl ?_
    refine aw_aload_n (k0 := 0) B 0 (by decide +kernel) rfl rfl ?_
    refine aw_getr (c := 0) B lkX10_10 (by decide +kernel) rfl (r := 1) rfl ?_
    refine aw_geti (c := 1) B lkX10_167 (by decide +kernel) rfl ?_
    refine aw_icmp_lt (off := 5) B 18 (by decide +kernel) (by decide) (fun _ => ?_) (fun _ => ?_)
    · refine aw_aload_n (k0 := 0) B 0 (by decide +kernel) rfl rfl ?_
      refine aw_cVA B (c_X10_tallied (eLa E) hG M) cvX10_171 rfl rfl (Nat.le_of_ble_eq_true rfl) rfl (Nat.le_of_ble_eq_true rfl) (by decide +kernel) rfl (fun M2 => ?_)
      refine aw_astore_n (k0 := 2) B [(2, .ref 11), (0, .ref 0), (1, .int v1)] (by decide +kernel) rfl (Nat.le_of_ble_eq_true rfl) rfl ?_
      refine aw_iload_n (k0 := 1) B 2 (by decide +kernel) rfl rfl ?_
      refine aw_iconst (n := -1) (v := (-1 : Int32)) B (by decide +kernel) (by decide) ?_
      refine aw_icmp_ne (off := 8) B 33 (by decide +kernel) (by decide) (fun _ => ?_) (fun _ => ?_)
      · refine aw_aload_n (k0 := 2) B 0 (by decide +kernel) rfl rfl ?_
        refine aw_cVR B (c_X7_all_11 (eLa E) hG M2) cvX10_175 rfl rfl (Nat.le_of_ble_eq_true rfl) rfl (Nat.le_of_ble_eq_true rfl) (by decide +kernel) rfl (fun x3 => ?_)
        refine aw_if_ne (off := 8) B 45 (by decide +kernel) (by decide) (fun _ => ?_) (fun _ => ?_)
        · refine aw_aload_n (k0 := 2) B 0 (by decide +kernel) rfl rfl ?_
          refine aw_iload_n (k0 := 1) B 2 (by decide +kernel) rfl rfl ?_
          refine aw_cVR B (c_X7_firstAt (eLa E) hG v1 M2) cvX10_178 rfl rfl (Nat.le_of_ble_eq_true rfl) rfl (Nat.le_of_ble_eq_true rfl) (by decide +kernel) rfl (fun x5 => ?_)
          exact aw_ireturn B (by decide +kernel) rfl
        · refine aw_bipush (n := -2) (v := (-2 : Int32)) B (by decide +kernel) (by decide) ?_
          refine aw_goto (off := 8) B 50 (by decide +kernel) (by decide) ?_
          exact aw_ireturn B (by decide +kernel) rfl
      · refine aw_aload_n (k0 := 2) B 0 (by decide +kernel) rfl rfl ?_
        refine aw_cVR B (c_X7_all_11 (eLa E) hG M2) cvX10_175 rfl rfl (Nat.le_of_ble_eq_true rfl) rfl (Nat.le_of_ble_eq_true rfl) (by decide +kernel) rfl (fun x7 => ?_)
        exact aw_ireturn B (by decide +kernel) rfl
    · refine aw_iconst (n := -1) (v := (-1 : Int32)) B (by decide +kernel) (by decide) ?_
      exact aw_ireturn B (by decide +kernel) rfl
theorem c_X10_orders (l : Launch) {G : GW} (hG : ab_ok G) (v1 : Int32) (M : Mem) : AC l G yX10_orders cX10_orders 3 (some .int) 6 [.ref 0, .int v1] M embI (f_X10_orders v1 M) := AC.of hG (by decide) (Nat.le_of_ble_eq_true rfl) (fun E hE B => by subst hE; exact w_X10_orders hG B v1 M)
def f_X11_allThatCount_b28 (k4 : Int32 → Int32 → Option Int32) (M : Mem) (v2 : Int32) (s0 : Int32) (s1 : Int32) : Option Int32 := lt (s1 ||| s0) fun x1 => k4 x1 (v2 + 1)
set_option maxRecDepth 100000 in
set_option maxHeartbeats 4000000 in
theorem w_X11_allThatCount_b28 {G : GW} {E : EE} (hG : ab_ok G) (M : Mem) {k4 : Int32 → Int32 → Option Int32} (B : Bx G E RX11 cX11_allThatCount 3 3 (some .int)) (hk4 : ∀ (v1 : Int32) (v2 : Int32), AWo G E cX11_allThatCount 3 (ab_Q G E (embRI M)) 4 [(0, .ref 47), (1, .int v1), (2, .int v2)] [] M (k4 v1 v2)) (v2 : Int32) (s0 : Int32) (s1 : Int32) : AWo G E cX11_allThatCount 3 (ab_Q G E (embRI M)) 28 [(0, .ref 47), (2, .int v2)] [.int s0, .int s1] M (f_X11_allThatCount_b28 k4 M v2 s0 s1) := by
  unfold f_X11_allThatCount_b28
  refine aw_ior B (by decide +kernel) ?_
  refine aw_ltI (fun x1 => ?_)
  refine aw_istore_n (k0 := 1) B [(1, .int x1), (0, .ref 47), (2, .int v2)] (by decide +kernel) rfl (Nat.le_of_ble_eq_true rfl) rfl ?_
  refine aw_iinc (i := 2) (n := 1) B 2 [(2, .int (v2 + 1)), (1, .int x1), (0, .ref 47)] (by decide +kernel) rfl (Nat.le_of_ble_eq_true rfl) (v2 + 1) (ab_inc (by decide)) rfl ?_
  refine aw_goto (off := -29) B 4 (by decide +kernel) (by decide) ?_
  exact aw_sub [2, 1, 0] rfl (hk4 _ _)
def f_X11_allThatCount_L4 (M : Mem) : Nat → Int32 → Int32 → Option Int32
  | 0, _, _ => none
  | n + 1, v1, v2 => (if (M.1 47 7) ≤ v2 then (some v1) else (f_X11_counts v2 M).bind fun x1 => (if x1 = 0 then f_X11_allThatCount_b28 (fun a0 a1 => f_X11_allThatCount_L4 M n a0 a1) M v2 (0 : Int32) v1 else f_X11_allThatCount_b28 (fun a0 a1 => f_X11_allThatCount_L4 M n a0 a1) M v2 (ab_shl (1 : Int32) v2) v1))
set_option maxRecDepth 100000 in
set_option maxHeartbeats 4000000 in
theorem w_X11_allThatCount_L4 {G : GW} {E : EE} (hG : ab_ok G) (M : Mem) (B : Bx G E RX11 cX11_allThatCount 3 3 (some .int)) : ∀ (n : Nat) (v1 : Int32) (v2 : Int32), AWo G E cX11_allThatCount 3 (ab_Q G E (embRI M)) 4 [(0, .ref 47), (1, .int v1), (2, .int v2)] [] M (f_X11_allThatCount_L4 M n v1 v2) := by
  intro n
  induction n with
  | zero => intro _ _; exact aw_none
  | succ n ih =>
    intro v1 v2
    rw [f_X11_allThatCount_L4]
    refine aw_iload_n (k0 := 2) B 2 (by decide +kernel) rfl rfl ?_
    refine aw_aload_n (k0 := 0) B 0 (by decide +kernel) rfl rfl ?_
    refine aw_geti (c := 47) B lkX11_116 (by decide +kernel) rfl ?_
    refine aw_icmp_ge (off := 27) B 36 (by decide +kernel) (by decide) (fun _ => ?_) (fun _ => ?_)
    · refine aw_iload_n (k0 := 1) B 1 (by decide +kernel) rfl rfl ?_
      exact aw_ireturn B (by decide +kernel) rfl
    · refine aw_iload_n (k0 := 1) B 1 (by decide +kernel) rfl rfl ?_
      refine aw_aload_n (k0 := 0) B 0 (by decide +kernel) rfl rfl ?_
      refine aw_iload_n (k0 := 2) B 2 (by decide +kernel) rfl rfl ?_
      refine aw_cVR B (c_X11_counts (eLa E) hG v2 M) cvX11_145 rfl rfl (Nat.le_of_ble_eq_true rfl) rfl (Nat.le_of_ble_eq_true rfl) (by decide +kernel) rfl (fun x1 => ?_)
      refine aw_if_eq (off := 9) B 27 (by decide +kernel) (by decide) (fun _ => ?_) (fun _ => ?_)
      · refine aw_iconst (n := 0) (v := (0 : Int32)) B (by decide +kernel) (by decide) ?_
        exact aw_sub [0, 2] rfl (w_X11_allThatCount_b28 hG M B ih _ _ _)
      · refine aw_iconst (n := 1) (v := (1 : Int32)) B (by decide +kernel) (by decide) ?_
        refine aw_iload_n (k0 := 2) B 2 (by decide +kernel) rfl rfl ?_
        refine aw_ishl B (by decide +kernel) ?_
        refine aw_goto (off := 4) B 28 (by decide +kernel) (by decide) ?_
        exact aw_sub [0, 2] rfl (w_X11_allThatCount_b28 hG M B ih _ _ _)
def f_X11_allThatCount (M : Mem) : Option Int32 := f_X11_allThatCount_L4 M FU (0 : Int32) (0 : Int32)
set_option maxRecDepth 100000 in
set_option maxHeartbeats 4000000 in
theorem w_X11_allThatCount {G : GW} {E : EE} (hG : ab_ok G) (B : Bx G E RX11 cX11_allThatCount 3 3 (some .int)) (M : Mem) : AWo G E cX11_allThatCount 3 (ab_Q G E (embRI M)) 0 [(0, .ref 47)] [] M (f_X11_allThatCount M) := by
  unfold f_X11_allThatCount
  refine aw_iconst (n := 0) (v := (0 : Int32)) B (by decide +kernel) (by decide) ?_
  refine aw_istore_n (k0 := 1) B [(1, .int (0 : Int32)), (0, .ref 47)] (by decide +kernel) rfl (Nat.le_of_ble_eq_true rfl) rfl ?_
  refine aw_iconst (n := 0) (v := (0 : Int32)) B (by decide +kernel) (by decide) ?_
  refine aw_istore_n (k0 := 2) B [(2, .int (0 : Int32)), (1, .int (0 : Int32)), (0, .ref 47)] (by decide +kernel) rfl (Nat.le_of_ble_eq_true rfl) rfl ?_
  exact aw_sub [2, 1, 0] rfl (w_X11_allThatCount_L4 hG M B FU _ _)
theorem c_X11_allThatCount (l : Launch) {G : GW} (hG : ab_ok G) (M : Mem) : AC l G yX11_allThatCount cX11_allThatCount 3 (some .int) 3 [.ref 47] M (embRI M) (f_X11_allThatCount M) := AC.of hG (by decide) (Nat.le_of_ble_eq_true rfl) (fun E hE B => by subst hE; exact w_X11_allThatCount hG B M)
def f_X11_beats_b62 (k23 : Int32 → Int32 → Mem → Option Mem) (v1 : Int32) (v2 : Int32) (M : Mem) : Option Mem := k23 v1 (v2 + 1) M
set_option maxRecDepth 100000 in
set_option maxHeartbeats 4000000 in
theorem w_X11_beats_b62 {G : GW} {E : EE} (hG : ab_ok G) {k23 : Int32 → Int32 → Mem → Option Mem} (B : Bx G E RX11 cX11_beats 3 2 none) (hk23 : ∀ (v1 : Int32) (v2 : Int32) (M : Mem), AWo G E cX11_beats 3 (ab_Q G E embV) 23 [(0, .ref 47), (1, .int v1), (2, .int v2)] [] M (k23 v1 v2 M)) (v1 : Int32) (v2 : Int32) (M : Mem) : AWo G E cX11_beats 3 (ab_Q G E embV) 62 [(0, .ref 47), (1, .int v1), (2, .int v2)] [] M (f_X11_beats_b62 k23 v1 v2 M) := by
  unfold f_X11_beats_b62
  refine aw_iinc (i := 2) (n := 1) B 2 [(2, .int (v2 + 1)), (0, .ref 47), (1, .int v1)] (by decide +kernel) rfl (Nat.le_of_ble_eq_true rfl) (v2 + 1) (ab_inc (by decide)) rfl ?_
  refine aw_goto (off := -42) B 23 (by decide +kernel) (by decide) ?_
  exact aw_sub [1, 2, 0] rfl (hk23 _ _ _)
def f_X11_beats_L23 : Nat → Int32 → Int32 → Mem → Option Mem
  | 0, _, _, _ => none
  | n + 1, v1, v2, M => (if (M.1 47 7) ≤ v2 then (some M) else (if ((ab_shr v1 v2) &&& (1 : Int32)) = (1 : Int32) then ck (okI 53 v2) (ck (okI 57 (M.1 53 v2.toNatClampNeg)) (ck (okI 52 v2) (ck (okI 57 (M.1 53 v2.toNatClampNeg)) (lt (wI M 57 (M.1 53 v2.toNatClampNeg).toNatClampNeg ((M.1 57 (M.1 53 v2.toNatClampNeg).toNatClampNeg) ||| (ab_shl (1 : Int32) (M.1 52 v2.toNatClampNeg)))) fun M1 => f_X11_beats_b62 (fun a0 a1 a2 => f_X11_beats_L23 n a0 a1 a2) v1 v2 M1)))) else f_X11_beats_b62 (fun a0 a1 a2 => f_X11_beats_L23 n a0 a1 a2) v1 v2 M))
set_option maxRecDepth 100000 in
set_option maxHeartbeats 4000000 in
theorem w_X11_beats_L23 {G : GW} {E : EE} (hG : ab_ok G) (B : Bx G E RX11 cX11_beats 3 2 none) : ∀ (n : Nat) (v1 : Int32) (v2 : Int32) (M : Mem), AWo G E cX11_beats 3 (ab_Q G E embV) 23 [(0, .ref 47), (1, .int v1), (2, .int v2)] [] M (f_X11_beats_L23 n v1 v2 M) := by
  intro n
  induction n with
  | zero => intro _ _ _; exact aw_none
  | succ n ih =>
    intro v1 v2 M
    rw [f_X11_beats_L23]
    refine aw_iload_n (k0 := 2) B 2 (by decide +kernel) rfl rfl ?_
    refine aw_aload_n (k0 := 0) B 0 (by decide +kernel) rfl rfl ?_
    refine aw_geti (c := 47) B lkX11_116 (by decide +kernel) rfl ?_
    refine aw_icmp_ge (off := 40) B 68 (by decide +kernel) (by decide) (fun _ => ?_) (fun _ => ?_)
    · exact aw_vreturn B (by decide +kernel) rfl
    · refine aw_iload_n (k0 := 1) B 1 (by decide +kernel) rfl rfl ?_
      refine aw_iload_n (k0 := 2) B 2 (by decide +kernel) rfl rfl ?_
      refine aw_ishr B (by decide +kernel) ?_
      refine aw_iconst (n := 1) (v := (1 : Int32)) B (by decide +kernel) (by decide) ?_
      refine aw_iand B (by decide +kernel) ?_
      refine aw_iconst (n := 1) (v := (1 : Int32)) B (by decide +kernel) (by decide) ?_
      refine aw_icmp_ne (off := 25) B 62 (by decide +kernel) (by decide) (fun _ => ?_) (fun _ => ?_)
      · exact w_X11_beats_b62 hG B ih _ _ _
      · refine aw_aload_n (k0 := 0) B 0 (by decide +kernel) rfl rfl ?_
        refine aw_getr (c := 47) B lkX11_37 (by decide +kernel) rfl (r := 57) rfl ?_
        refine aw_aload_n (k0 := 0) B 0 (by decide +kernel) rfl rfl ?_
        refine aw_getr (c := 47) B lkX11_25 (by decide +kernel) rfl (r := 53) rfl ?_
        refine aw_iload_n (k0 := 2) B 2 (by decide +kernel) rfl rfl ?_
        refine aw_iaload B (by decide +kernel) ?_
        refine aw_dup2_11 B (by decide +kernel) rfl rfl ?_
        refine aw_iaload B (by decide +kernel) ?_
        refine aw_iconst (n := 1) (v := (1 : Int32)) B (by decide +kernel) (by decide) ?_
        refine aw_aload_n (k0 := 0) B 0 (by decide +kernel) rfl rfl ?_
        refine aw_getr (c := 47) B lkX11_22 (by decide +kernel) rfl (r := 52) rfl ?_
        refine aw_iload_n (k0 := 2) B 2 (by decide +kernel) rfl rfl ?_
        refine aw_iaload B (by decide +kernel) ?_
        refine aw_ishl B (by decide +kernel) ?_
        refine aw_ior B (by decide +kernel) ?_
        refine aw_iastore B (by decide +kernel) (fun M1 => ?_)
        exact w_X11_beats_b62 hG B ih _ _ _
def f_X11_beats_L2 : Nat → Int32 → Int32 → Mem → Option Mem
  | 0, _, _, _ => none
  | n + 1, v1, v2, M => (if (8 : Int32) ≤ v2 then f_X11_beats_L23 FU v1 (0 : Int32) M else ck (okI 57 v2) (lt (wI M 57 v2.toNatClampNeg (0 : Int32)) fun M1 => f_X11_beats_L2 n v1 (v2 + 1) M1))
set_option maxRecDepth 100000 in
set_option maxHeartbeats 4000000 in
theorem w_X11_beats_L2 {G : GW} {E : EE} (hG : ab_ok G) (B : Bx G E RX11 cX11_beats 3 2 none) : ∀ (n : Nat) (v1 : Int32) (v2 : Int32) (M : Mem), AWo G E cX11_beats 3 (ab_Q G E embV) 2 [(0, .ref 47), (1, .int v1), (2, .int v2)] [] M (f_X11_beats_L2 n v1 v2 M) := by
  intro n
  induction n with
  | zero => intro _ _ _; exact aw_none
  | succ n ih =>
    intro v1 v2 M
    rw [f_X11_beats_L2]
    refine aw_iload_n (k0 := 2) B 2 (by decide +kernel) rfl rfl ?_
    refine aw_bipush (n := 8) (v := (8 : Int32)) B (by decide +kernel) (by decide) ?_
    refine aw_icmp_ge (off := 16) B 21 (by decide +kernel) (by decide) (fun _ => ?_) (fun _ => ?_)
    · refine aw_iconst (n := 0) (v := (0 : Int32)) B (by decide +kernel) (by decide) ?_
      refine aw_istore_n (k0 := 2) B [(2, .int (0 : Int32)), (0, .ref 47), (1, .int v1)] (by decide +kernel) rfl (Nat.le_of_ble_eq_true rfl) rfl ?_
      exact aw_sub [1, 2, 0] rfl (w_X11_beats_L23 hG B FU _ _ _)
    · refine aw_aload_n (k0 := 0) B 0 (by decide +kernel) rfl rfl ?_
      refine aw_getr (c := 47) B lkX11_37 (by decide +kernel) rfl (r := 57) rfl ?_
      refine aw_iload_n (k0 := 2) B 2 (by decide +kernel) rfl rfl ?_
      refine aw_iconst (n := 0) (v := (0 : Int32)) B (by decide +kernel) (by decide) ?_
      refine aw_iastore B (by decide +kernel) (fun M1 => ?_)
      refine aw_iinc (i := 2) (n := 1) B 2 [(2, .int (v2 + 1)), (0, .ref 47), (1, .int v1)] (by decide +kernel) rfl (Nat.le_of_ble_eq_true rfl) (v2 + 1) (ab_inc (by decide)) rfl ?_
      refine aw_goto (off := -16) B 2 (by decide +kernel) (by decide) ?_
      exact aw_sub [1, 2, 0] rfl (ih _ _ _)
def f_X11_beats (v1 : Int32) (M : Mem) : Option Mem := f_X11_beats_L2 FU v1 (0 : Int32) M
set_option maxRecDepth 100000 in
set_option maxHeartbeats 4000000 in
theorem w_X11_beats {G : GW} {E : EE} (hG : ab_ok G) (B : Bx G E RX11 cX11_beats 3 2 none) (v1 : Int32) (M : Mem) : AWo G E cX11_beats 3 (ab_Q G E embV) 0 [(0, .ref 47), (1, .int v1)] [] M (f_X11_beats v1 M) := by
  unfold f_X11_beats
  refine aw_iconst (n := 0) (v := (0 : Int32)) B (by decide +kernel) (by decide) ?_
  refine aw_istore_n (k0 := 2) B [(2, .int (0 : Int32)), (0, .ref 47), (1, .int v1)] (by decide +kernel) rfl (Nat.le_of_ble_eq_true rfl) rfl ?_
  exact aw_sub [1, 2, 0] rfl (w_X11_beats_L2 hG B FU _ _ _)
theorem c_X11_beats (l : Launch) {G : GW} (hG : ab_ok G) (v1 : Int32) (M : Mem) : AC l G yX11_beats cX11_beats 3 none 2 [.ref 47, .int v1] M embV (f_X11_beats v1 M) := AC.of hG (by decide) (Nat.le_of_ble_eq_true rfl) (fun E hE B => by subst hE; exact w_X11_beats hG B v1 M)
def f_X11_codeNow_b148 (M : Mem) : Option Int32 := ck (okI 58 ((M.1 47 6) - (1 : Int32))) ((if (M.1 58 ((M.1 47 6) - (1 : Int32)).toNatClampNeg) = (M.1 47 29) then (some (1 : Int32)) else (some (0 : Int32))))
set_option maxRecDepth 100000 in
set_option maxHeartbeats 4000000 in
theorem w_X11_codeNow_b148 {G : GW} {E : EE} (hG : ab_ok G) (M : Mem) (B : Bx G E RX11 cX11_codeNow 3 2 (some .int))  : AWo G E cX11_codeNow 3 (ab_Q G E (embRI M)) 148 [(0, .ref 47)] [] M (f_X11_codeNow_b148 M) := by
  unfold f_X11_codeNow_b148
  refine aw_aload_n (k0 := 0) B 0 (by decide +kernel) rfl rfl ?_
  refine aw_getr (c := 47) B lkX11_40 (by decide +kernel) rfl (r := 58) rfl ?_
  refine aw_aload_n (k0 := 0) B 0 (by decide +kernel) rfl rfl ?_
  refine aw_geti (c := 47) B lkX11_109 (by decide +kernel) rfl ?_
  refine aw_iconst (n := 1) (v := (1 : Int32)) B (by decide +kernel) (by decide) ?_
  refine aw_isub B (by decide +kernel) ?_
  refine aw_iaload B (by decide +kernel) ?_
  refine aw_aload_n (k0 := 0) B 0 (by decide +kernel) rfl rfl ?_
  refine aw_geti (c := 47) B lkX11_222 (by decide +kernel) rfl ?_
  refine aw_icmp_ne (off := 7) B 170 (by decide +kernel) (by decide) (fun _ => ?_) (fun _ => ?_)
  · refine aw_iconst (n := 0) (v := (0 : Int32)) B (by decide +kernel) (by decide) ?_
    exact aw_ireturn B (by decide +kernel) rfl
  · refine aw_iconst (n := 1) (v := (1 : Int32)) B (by decide +kernel) (by decide) ?_
    refine aw_goto (off := 4) B 171 (by decide +kernel) (by decide) ?_
    exact aw_ireturn B (by decide +kernel) rfl
def f_X11_codeNow_L121 (M : Mem) : Nat → Int32 → Int32 → Option Int32
  | 0, _, _ => none
  | n + 1, v1, v2 => (if (M.1 47 29) ≤ v2 then (some v1) else ck (okI 58 v2) (lt (v1 ||| (ab_shl (1 : Int32) (M.1 58 v2.toNatClampNeg))) fun x1 => f_X11_codeNow_L121 M n x1 (v2 + 1)))
set_option maxRecDepth 100000 in
set_option maxHeartbeats 4000000 in
theorem w_X11_codeNow_L121 {G : GW} {E : EE} (hG : ab_ok G) (M : Mem) (B : Bx G E RX11 cX11_codeNow 3 2 (some .int)) : ∀ (n : Nat) (v1 : Int32) (v2 : Int32), AWo G E cX11_codeNow 3 (ab_Q G E (embRI M)) 121 [(0, .ref 47), (1, .int v1), (2, .int v2)] [] M (f_X11_codeNow_L121 M n v1 v2) := by
  intro n
  induction n with
  | zero => intro _ _; exact aw_none
  | succ n ih =>
    intro v1 v2
    rw [f_X11_codeNow_L121]
    refine aw_iload_n (k0 := 2) B 2 (by decide +kernel) rfl rfl ?_
    refine aw_aload_n (k0 := 0) B 0 (by decide +kernel) rfl rfl ?_
    refine aw_geti (c := 47) B lkX11_222 (by decide +kernel) rfl ?_
    refine aw_icmp_ge (off := 20) B 146 (by decide +kernel) (by decide) (fun _ => ?_) (fun _ => ?_)
    · refine aw_iload_n (k0 := 1) B 1 (by decide +kernel) rfl rfl ?_
      exact aw_ireturn B (by decide +kernel) rfl
    · refine aw_iload_n (k0 := 1) B 1 (by decide +kernel) rfl rfl ?_
      refine aw_iconst (n := 1) (v := (1 : Int32)) B (by decide +kernel) (by decide) ?_
      refine aw_aload_n (k0 := 0) B 0 (by decide +kernel) rfl rfl ?_
      refine aw_getr (c := 47) B lkX11_40 (by decide +kernel) rfl (r := 58) rfl ?_
      refine aw_iload_n (k0 := 2) B 2 (by decide +kernel) rfl rfl ?_
      refine aw_iaload B (by decide +kernel) ?_
      refine aw_ishl B (by decide +kernel) ?_
      refine aw_ior B (by decide +kernel) ?_
      refine aw_ltI (fun x1 => ?_)
      refine aw_istore_n (k0 := 1) B [(1, .int x1), (0, .ref 47), (2, .int v2)] (by decide +kernel) rfl (Nat.le_of_ble_eq_true rfl) rfl ?_
      refine aw_iinc (i := 2) (n := 1) B 2 [(2, .int (v2 + 1)), (1, .int x1), (0, .ref 47)] (by decide +kernel) rfl (Nat.le_of_ble_eq_true rfl) (v2 + 1) (ab_inc (by decide)) rfl ?_
      refine aw_goto (off := -22) B 121 (by decide +kernel) (by decide) ?_
      exact aw_sub [2, 1, 0] rfl (ih _ _)
def f_X11_codeNow (M : Mem) : Option Int32 := (if (M.1 47 28) = (0 : Int32) then ck (okI 58 (0 : Int32)) ((some (M.1 58 (0 : Int32).toNatClampNeg))) else if (M.1 47 28) = (1 : Int32) then (if (M.1 47 6) ≤ (1 : Int32) then ck (okI 58 (0 : Int32)) ((some (M.1 58 (0 : Int32).toNatClampNeg))) else ck (okI 58 (0 : Int32)) (ck (okI 58 (1 : Int32)) ((some (((10 : Int32) * (M.1 58 (0 : Int32).toNatClampNeg)) + (M.1 58 (1 : Int32).toNatClampNeg)))))) else if (M.1 47 28) = (2 : Int32) then ck (okI 58 (M.1 47 29)) ((some (M.1 58 (M.1 47 29).toNatClampNeg))) else if (M.1 47 28) = (3 : Int32) then ck (okI 58 (0 : Int32)) (ck (okI 58 ((M.1 47 6) - (1 : Int32))) ((some (((10 : Int32) * (M.1 58 (0 : Int32).toNatClampNeg)) + (M.1 58 ((M.1 47 6) - (1 : Int32)).toNatClampNeg))))) else if (M.1 47 28) = (4 : Int32) then f_X11_codeNow_b148 M else if (M.1 47 28) = (5 : Int32) then f_X11_codeNow_L121 M FU (0 : Int32) (0 : Int32) else f_X11_codeNow_b148 M)
set_option maxRecDepth 100000 in
set_option maxHeartbeats 4000000 in
theorem w_X11_codeNow {G : GW} {E : EE} (hG : ab_ok G) (B : Bx G E RX11 cX11_codeNow 3 2 (some .int)) (M : Mem) : AWo G E cX11_codeNow 3 (ab_Q G E (embRI M)) 0 [(0, .ref 47)] [] M (f_X11_codeNow M) := by
  unfold f_X11_codeNow
  refine aw_aload_n (k0 := 0) B 0 (by decide +kernel) rfl rfl ?_
  refine aw_geti (c := 47) B lkX11_219 (by decide +kernel) rfl ?_
  refine aw_ite (fun h4_0 => ?_) (fun h4_0 => ?_)
  · refine aw_tin (k0 := (0 : Int32)) (dflt := 144) (lo := 0) (hi := 5) (offs := #[40, 47, 81, 91, 144, 113]) (len := 40) (off := 40) B 44 (by decide +kernel) h4_0 (by decide) (by decide) (by decide +kernel) (by decide) ?_
    refine aw_aload_n (k0 := 0) B 0 (by decide +kernel) rfl rfl ?_
    refine aw_getr (c := 47) B lkX11_40 (by decide +kernel) rfl (r := 58) rfl ?_
    refine aw_iconst (n := 0) (v := (0 : Int32)) B (by decide +kernel) (by decide) ?_
    refine aw_iaload B (by decide +kernel) ?_
    exact aw_ireturn B (by decide +kernel) rfl
  refine aw_ite (fun h4_1 => ?_) (fun h4_1 => ?_)
  · refine aw_tin (k0 := (1 : Int32)) (dflt := 144) (lo := 0) (hi := 5) (offs := #[40, 47, 81, 91, 144, 113]) (len := 40) (off := 47) B 51 (by decide +kernel) h4_1 (by decide) (by decide) (by decide +kernel) (by decide) ?_
    refine aw_aload_n (k0 := 0) B 0 (by decide +kernel) rfl rfl ?_
    refine aw_geti (c := 47) B lkX11_109 (by decide +kernel) rfl ?_
    refine aw_iconst (n := 1) (v := (1 : Int32)) B (by decide +kernel) (by decide) ?_
    refine aw_icmp_le (off := 22) B 78 (by decide +kernel) (by decide) (fun _ => ?_) (fun _ => ?_)
    · refine aw_aload_n (k0 := 0) B 0 (by decide +kernel) rfl rfl ?_
      refine aw_getr (c := 47) B lkX11_40 (by decide +kernel) rfl (r := 58) rfl ?_
      refine aw_iconst (n := 0) (v := (0 : Int32)) B (by decide +kernel) (by decide) ?_
      refine aw_iaload B (by decide +kernel) ?_
      exact aw_ireturn B (by decide +kernel) rfl
    · refine aw_bipush (n := 10) (v := (10 : Int32)) B (by decide +kernel) (by decide) ?_
      refine aw_aload_n (k0 := 0) B 0 (by decide +kernel) rfl rfl ?_
      refine aw_getr (c := 47) B lkX11_40 (by decide +kernel) rfl (r := 58) rfl ?_
      refine aw_iconst (n := 0) (v := (0 : Int32)) B (by decide +kernel) (by decide) ?_
      refine aw_iaload B (by decide +kernel) ?_
      refine aw_imul B (by decide +kernel) ?_
      refine aw_aload_n (k0 := 0) B 0 (by decide +kernel) rfl rfl ?_
      refine aw_getr (c := 47) B lkX11_40 (by decide +kernel) rfl (r := 58) rfl ?_
      refine aw_iconst (n := 1) (v := (1 : Int32)) B (by decide +kernel) (by decide) ?_
      refine aw_iaload B (by decide +kernel) ?_
      refine aw_iadd B (by decide +kernel) ?_
      refine aw_goto (off := 9) B 84 (by decide +kernel) (by decide) ?_
      exact aw_ireturn B (by decide +kernel) rfl
  refine aw_ite (fun h4_2 => ?_) (fun h4_2 => ?_)
  · refine aw_tin (k0 := (2 : Int32)) (dflt := 144) (lo := 0) (hi := 5) (offs := #[40, 47, 81, 91, 144, 113]) (len := 40) (off := 81) B 85 (by decide +kernel) h4_2 (by decide) (by decide) (by decide +kernel) (by decide) ?_
    refine aw_aload_n (k0 := 0) B 0 (by decide +kernel) rfl rfl ?_
    refine aw_getr (c := 47) B lkX11_40 (by decide +kernel) rfl (r := 58) rfl ?_
    refine aw_aload_n (k0 := 0) B 0 (by decide +kernel) rfl rfl ?_
    refine aw_geti (c := 47) B lkX11_222 (by decide +kernel) rfl ?_
    refine aw_iaload B (by decide +kernel) ?_
    exact aw_ireturn B (by decide +kernel) rfl
  refine aw_ite (fun h4_3 => ?_) (fun h4_3 => ?_)
  · refine aw_tin (k0 := (3 : Int32)) (dflt := 144) (lo := 0) (hi := 5) (offs := #[40, 47, 81, 91, 144, 113]) (len := 40) (off := 91) B 95 (by decide +kernel) h4_3 (by decide) (by decide) (by decide +kernel) (by decide) ?_
    refine aw_bipush (n := 10) (v := (10 : Int32)) B (by decide +kernel) (by decide) ?_
    refine aw_aload_n (k0 := 0) B 0 (by decide +kernel) rfl rfl ?_
    refine aw_getr (c := 47) B lkX11_40 (by decide +kernel) rfl (r := 58) rfl ?_
    refine aw_iconst (n := 0) (v := (0 : Int32)) B (by decide +kernel) (by decide) ?_
    refine aw_iaload B (by decide +kernel) ?_
    refine aw_imul B (by decide +kernel) ?_
    refine aw_aload_n (k0 := 0) B 0 (by decide +kernel) rfl rfl ?_
    refine aw_getr (c := 47) B lkX11_40 (by decide +kernel) rfl (r := 58) rfl ?_
    refine aw_aload_n (k0 := 0) B 0 (by decide +kernel) rfl rfl ?_
    refine aw_geti (c := 47) B lkX11_109 (by decide +kernel) rfl ?_
    refine aw_iconst (n := 1) (v := (1 : Int32)) B (by decide +kernel) (by decide) ?_
    refine aw_isub B (by decide +kernel) ?_
    refine aw_iaload B (by decide +kernel) ?_
    refine aw_iadd B (by decide +kernel) ?_
    exact aw_ireturn B (by decide +kernel) rfl
  refine aw_ite (fun h4_4 => ?_) (fun h4_4 => ?_)
  · refine aw_tin (k0 := (4 : Int32)) (dflt := 144) (lo := 0) (hi := 5) (offs := #[40, 47, 81, 91, 144, 113]) (len := 40) (off := 144) B 148 (by decide +kernel) h4_4 (by decide) (by decide) (by decide +kernel) (by decide) ?_
    exact w_X11_codeNow_b148 hG M B
  refine aw_ite (fun h4_5 => ?_) (fun h4_5 => ?_)
  · refine aw_tin (k0 := (5 : Int32)) (dflt := 144) (lo := 0) (hi := 5) (offs := #[40, 47, 81, 91, 144, 113]) (len := 40) (off := 113) B 117 (by decide +kernel) h4_5 (by decide) (by decide) (by decide +kernel) (by decide) ?_
    refine aw_iconst (n := 0) (v := (0 : Int32)) B (by decide +kernel) (by decide) ?_
    refine aw_istore_n (k0 := 1) B [(1, .int (0 : Int32)), (0, .ref 47)] (by decide +kernel) rfl (Nat.le_of_ble_eq_true rfl) rfl ?_
    refine aw_iconst (n := 0) (v := (0 : Int32)) B (by decide +kernel) (by decide) ?_
    refine aw_istore_n (k0 := 2) B [(2, .int (0 : Int32)), (1, .int (0 : Int32)), (0, .ref 47)] (by decide +kernel) rfl (Nat.le_of_ble_eq_true rfl) rfl ?_
    exact aw_sub [2, 1, 0] rfl (w_X11_codeNow_L121 hG M B FU _ _)
  · refine aw_tout (dflt := 144) (lo := 0) (hi := 5) (offs := #[40, 47, 81, 91, 144, 113]) (len := 40) B 148 (by decide +kernel) (by have qh4_0 := lv_neT (a := 0) h4_0 (by decide); have qh4_1 := lv_neT (a := 1) h4_1 (by decide); have qh4_2 := lv_neT (a := 2) h4_2 (by decide); have qh4_3 := lv_neT (a := 3) h4_3 (by decide); have qh4_4 := lv_neT (a := 4) h4_4 (by decide); have qh4_5 := lv_neT (a := 5) h4_5 (by decide); omega) (by decide) ?_
    exact w_X11_codeNow_b148 hG M B
theorem c_X11_codeNow (l : Launch) {G : GW} (hG : ab_ok G) (M : Mem) : AC l G yX11_codeNow cX11_codeNow 3 (some .int) 2 [.ref 47] M (embRI M) (f_X11_codeNow M) := AC.of hG (by decide) (Nat.le_of_ble_eq_true rfl) (fun E hE B => by subst hE; exact w_X11_codeNow hG B M)
