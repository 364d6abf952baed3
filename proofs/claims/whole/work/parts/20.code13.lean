def f_X1_perform (v1 : Int32) (v2 : Int32) (v3 : Int32) (M : Mem) : Option (Int32 × Mem) := lt (wI M 40 1 (0 : Int32)) fun M1 => (f_X1_has v1 M1).bind fun x2 => (if x2 = 0 then (some ((0 : Int32), M1)) else (if v2 < 0 then (some ((0 : Int32), M1)) else (if v2 < (4 : Int32) then lt (wI M1 40 4 v1) fun M4 => ck (okI 42 v1) (bI (f_X1_from FD (M4.1 42 v1.toNatClampNeg) v2 v3 (0 : Int32) M4) fun x5 M6 => (some (x5, M6))) else (some ((0 : Int32), M1)))))
set_option maxRecDepth 100000 in
set_option maxHeartbeats 4000000 in
theorem w_X1_perform {G : GW} {E : EE} (hG : ab_ok G) (B : Bx G E RX1 cX1_perform 4 124 (some .int)) (v1 : Int32) (v2 : Int32) (v3 : Int32) (M : Mem) : AWo G E cX1_perform 4 (ab_Q G E embI) 0 [(0, .ref 40), (1, .int v1), (2, .int v2), (3, .int v3)] [] M (f_X1_perform v1 v2 v3 M) := by
  unfold f_X1_perform
  refine aw_aload_n (k0 := 0) B 0 (by decide +kernel) rfl rfl ?_
  refine aw_iconst (n := 0) (v := (0 : Int32)) B (by decide +kernel) (by decide) ?_
  refine aw_puti (c := 40) B lkX1_32 lp1_1 (by decide +kernel) rfl (fun M1 => ?_)
  refine aw_aload_n (k0 := 0) B 0 (by decide +kernel) rfl rfl ?_
  refine aw_iload_n (k0 := 1) B 1 (by decide +kernel) rfl rfl ?_
  refine aw_cVR B (c_X1_has (eLa E) hG v1 M1) cvX1_29 rfl rfl (Nat.le_of_ble_eq_true rfl) rfl (Nat.le_of_ble_eq_true rfl) (by decide +kernel) rfl (fun x2 => ?_)
  refine aw_if_eq (off := 12) B 22 (by decide +kernel) (by decide) (fun _ => ?_) (fun _ => ?_)
  · refine aw_iconst (n := 0) (v := (0 : Int32)) B (by decide +kernel) (by decide) ?_
    exact aw_ireturn B (by decide +kernel) rfl
  · refine aw_iload_n (k0 := 2) B 2 (by decide +kernel) rfl rfl ?_
    refine aw_if_lt (off := 8) B 22 (by decide +kernel) (by decide) (fun _ => ?_) (fun _ => ?_)
    · refine aw_iconst (n := 0) (v := (0 : Int32)) B (by decide +kernel) (by decide) ?_
      exact aw_ireturn B (by decide +kernel) rfl
    · refine aw_iload_n (k0 := 2) B 2 (by decide +kernel) rfl rfl ?_
      refine aw_iconst (n := 4) (v := (4 : Int32)) B (by decide +kernel) (by decide) ?_
      refine aw_icmp_lt (off := 5) B 24 (by decide +kernel) (by decide) (fun _ => ?_) (fun _ => ?_)
      · refine aw_aload_n (k0 := 0) B 0 (by decide +kernel) rfl rfl ?_
        refine aw_iload_n (k0 := 1) B 1 (by decide +kernel) rfl rfl ?_
        refine aw_puti (c := 40) B lkX1_41 lp1_4 (by decide +kernel) rfl (fun M4 => ?_)
        refine aw_aload_n (k0 := 0) B 0 (by decide +kernel) rfl rfl ?_
        refine aw_aload_n (k0 := 0) B 0 (by decide +kernel) rfl rfl ?_
        refine aw_getr (c := 40) B lkX1_15 (by decide +kernel) rfl (r := 42) rfl ?_
        refine aw_iload_n (k0 := 1) B 1 (by decide +kernel) rfl rfl ?_
        refine aw_iaload B (by decide +kernel) ?_
        refine aw_iload_n (k0 := 2) B 2 (by decide +kernel) rfl rfl ?_
        refine aw_iload_n (k0 := 3) B 3 (by decide +kernel) rfl rfl ?_
        refine aw_iconst (n := 0) (v := (0 : Int32)) B (by decide +kernel) (by decide) ?_
        refine aw_cVI B (c_X1_from (eLa E) hG FD (M4.1 42 v1.toNatClampNeg) v2 v3 (0 : Int32) M4) cvX1_44 rfl rfl (Nat.le_of_ble_eq_true rfl) rfl (Nat.le_of_ble_eq_true rfl) (by decide +kernel) rfl (fun x5 M6 => ?_)
        exact aw_ireturn B (by decide +kernel) rfl
      · refine aw_iconst (n := 0) (v := (0 : Int32)) B (by decide +kernel) (by decide) ?_
        exact aw_ireturn B (by decide +kernel) rfl
theorem c_X1_perform (l : Launch) {G : GW} (hG : ab_ok G) (v1 : Int32) (v2 : Int32) (v3 : Int32) (M : Mem) : AC l G yX1_perform cX1_perform 4 (some .int) 124 [.ref 40, .int v1, .int v2, .int v3] M embI (f_X1_perform v1 v2 v3 M) := AC.of hG (by decide) (Nat.le_of_ble_eq_true rfl) (fun E hE B => by subst hE; exact w_X1_perform hG B v1 v2 v3 M)
def f_X10_act (v1 : Int32) (v2 : Int32) (v3 : Int32) (M : Mem) : Option (Int32 × Mem) := bI (f_X1_perform v1 v2 v3 M) fun x1 M2 => (some (x1, M2))
set_option maxRecDepth 100000 in
set_option maxHeartbeats 4000000 in
theorem w_X10_act {G : GW} {E : EE} (hG : ab_ok G) (B : Bx G E RX10 cX10_act 4 125 (some .int)) (v1 : Int32) (v2 : Int32) (v3 : Int32) (M : Mem) : AWo G E cX10_act 4 (ab_Q G E embI) 0 [(0, .ref 0), (1, .int v1), (2, .int v2), (3, .int v3)] [] M (f_X10_act v1 v2 v3 M) := by
  unfold f_X10_act
  refine aw_aload_n (k0 := 0) B 0 (by decide +kernel) rfl rfl ?_
  refine aw_getr (c := 0) B lkX10_68 (by decide +kernel) rfl (r := 40) rfl ?_
  refine aw_iload_n (k0 := 1) B 1 (by decide +kernel) rfl rfl ?_
  refine aw_iload_n (k0 := 2) B 2 (by decide +kernel) rfl rfl ?_
  refine aw_iload_n (k0 := 3) B 3 (by decide +kernel) rfl rfl ?_
  refine aw_cVI B (c_X1_perform (eLa E) hG v1 v2 v3 M) cvX10_333 rfl rfl (Nat.le_of_ble_eq_true rfl) rfl (Nat.le_of_ble_eq_true rfl) (by decide +kernel) rfl (fun x1 M2 => ?_)
  exact aw_ireturn B (by decide +kernel) rfl
theorem c_X10_act (l : Launch) {G : GW} (hG : ab_ok G) (v1 : Int32) (v2 : Int32) (v3 : Int32) (M : Mem) : AC l G yX10_act cX10_act 4 (some .int) 125 [.ref 0, .int v1, .int v2, .int v3] M embI (f_X10_act v1 v2 v3 M) := AC.of hG (by decide) (Nat.le_of_ble_eq_true rfl) (fun E hE B => by subst hE; exact w_X10_act hG B v1 v2 v3 M)
def f_X11_isBody (v1 : Int32) (M : Mem) : Option Int32 := (f_X11_within v1.toInt64 (0 : Int64) (((M.1 47 40) - (1 : Int32)).toInt64)).bind fun x1 => ck (okB x1) (some x1)
set_option maxRecDepth 100000 in
set_option maxHeartbeats 4000000 in
theorem w_X11_isBody {G : GW} {E : EE} (hG : ab_ok G) (B : Bx G E RX11 cX11_isBody 2 3 (some .boolean)) (v1 : Int32) (M : Mem) : AWo G E cX11_isBody 2 (ab_Q G E (embRI M)) 0 [(0, .ref 47), (1, .int v1)] [] M (f_X11_isBody v1 M) := by
  unfold f_X11_isBody
  refine aw_iload_n (k0 := 1) B 1 (by decide +kernel) rfl rfl ?_
  refine aw_i2l B (by decide +kernel) ?_
  refine aw_lconst (n := 0) (v := (0 : Int64)) B (by decide +kernel) (by decide) ?_
  refine aw_aload_n (k0 := 0) B 0 (by decide +kernel) rfl rfl ?_
  refine aw_geti (c := 47) B lkX11_340 (by decide +kernel) rfl ?_
  refine aw_iconst (n := 1) (v := (1 : Int32)) B (by decide +kernel) (by decide) ?_
  refine aw_isub B (by decide +kernel) ?_
  refine aw_i2l B (by decide +kernel) ?_
  refine aw_cSR B (c_X11_within (eLa E) hG v1.toInt64 (0 : Int64) (((M.1 47 40) - (1 : Int32)).toInt64) M) csX11_112 (Nat.le_of_ble_eq_true rfl) rfl (Nat.le_of_ble_eq_true rfl) (by decide +kernel) rfl (fun x1 => ?_)
  exact aw_zreturn B (by decide +kernel) rfl
theorem c_X11_isBody (l : Launch) {G : GW} (hG : ab_ok G) (v1 : Int32) (M : Mem) : AC l G yX11_isBody cX11_isBody 2 (some .boolean) 3 [.ref 47, .int v1] M (embRI M) (f_X11_isBody v1 M) := AC.of hG (by decide) (Nat.le_of_ble_eq_true rfl) (fun E hE B => by subst hE; exact w_X11_isBody hG B v1 M)
def f_X11_begins_b19 (M : Mem) : Option Mem := lt (wI M 47 43 ((M.1 47 43) + (1 : Int32))) fun M1 => (some M1)
set_option maxRecDepth 100000 in
set_option maxHeartbeats 4000000 in
theorem w_X11_begins_b19 {G : GW} {E : EE} (hG : ab_ok G) (B : Bx G E RX11 cX11_begins 2 2 none) (M : Mem) : AWo G E cX11_begins 2 (ab_Q G E embV) 19 [(0, .ref 47)] [] M (f_X11_begins_b19 M) := by
  unfold f_X11_begins_b19
  refine aw_aload_n (k0 := 0) B 0 (by decide +kernel) rfl rfl ?_
  refine aw_dup B (by decide +kernel) rfl ?_
  refine aw_geti (c := 47) B lkX11_345 (by decide +kernel) rfl ?_
  refine aw_iconst (n := 1) (v := (1 : Int32)) B (by decide +kernel) (by decide) ?_
  refine aw_iadd B (by decide +kernel) ?_
  refine aw_puti (c := 47) B lkX11_345 lp11_43 (by decide +kernel) rfl (fun M1 => ?_)
  exact aw_vreturn B (by decide +kernel) rfl
def f_X11_begins (v1 : Int32) (M : Mem) : Option Mem := (if (24 : Int32) ≤ (M.1 47 43) then f_X11_begins_b19 M else ck (okI 72 (M.1 47 43)) (lt (wI M 72 (M.1 47 43).toNatClampNeg v1) fun M1 => f_X11_begins_b19 M1))
set_option maxRecDepth 100000 in
set_option maxHeartbeats 4000000 in
theorem w_X11_begins {G : GW} {E : EE} (hG : ab_ok G) (B : Bx G E RX11 cX11_begins 2 2 none) (v1 : Int32) (M : Mem) : AWo G E cX11_begins 2 (ab_Q G E embV) 0 [(0, .ref 47), (1, .int v1)] [] M (f_X11_begins v1 M) := by
  unfold f_X11_begins
  refine aw_aload_n (k0 := 0) B 0 (by decide +kernel) rfl rfl ?_
  refine aw_geti (c := 47) B lkX11_345 (by decide +kernel) rfl ?_
  refine aw_bipush (n := 24) (v := (24 : Int32)) B (by decide +kernel) (by decide) ?_
  refine aw_icmp_ge (off := 13) B 19 (by decide +kernel) (by decide) (fun _ => ?_) (fun _ => ?_)
  · exact aw_sub [0] rfl (w_X11_begins_b19 hG B _)
  · refine aw_aload_n (k0 := 0) B 0 (by decide +kernel) rfl rfl ?_
    refine aw_getr (c := 47) B lkX11_84 (by decide +kernel) rfl (r := 72) rfl ?_
    refine aw_aload_n (k0 := 0) B 0 (by decide +kernel) rfl rfl ?_
    refine aw_geti (c := 47) B lkX11_345 (by decide +kernel) rfl ?_
    refine aw_iload_n (k0 := 1) B 1 (by decide +kernel) rfl rfl ?_
    refine aw_iastore B (by decide +kernel) (fun M1 => ?_)
    exact aw_sub [0] rfl (w_X11_begins_b19 hG B _)
theorem c_X11_begins (l : Launch) {G : GW} (hG : ab_ok G) (v1 : Int32) (M : Mem) : AC l G yX11_begins cX11_begins 2 none 2 [.ref 47, .int v1] M embV (f_X11_begins v1 M) := AC.of hG (by decide) (Nat.le_of_ble_eq_true rfl) (fun E hE B => by subst hE; exact w_X11_begins hG B v1 M)
def f_X11_beatsAs_b16 (rc : Int32 → Int32 → Mem → Option (Int32 × Mem)) (v2 : Int32) (M : Mem) : Option (Int32 × Mem) := (f_X11_begins (20 : Int32) M).bind fun M2 => bI (rc (0 : Int32) v2 M2) fun x3 M4 => (some (x3 + (3 : Int32), M4))
set_option maxRecDepth 100000 in
set_option maxHeartbeats 4000000 in
theorem w_X11_beatsAs_b16 {G : GW} {E : EE} (hG : ab_ok G) {rc : Int32 → Int32 → Mem → Option (Int32 × Mem)} (lv0 : Nat) (hl0 : 3 ≤ lv0) (hrc : ∀ (v1 : Int32) (v2 : Int32) (M : Mem), AC (eLa E) G yX11_beatsAs cX11_beatsAs 3 (some .int) lv0 [.ref 47, .int v1, .int v2] M embI (rc v1 v2 M)) (B : Bx G E RX11 cX11_beatsAs 3 (lv0 + 1) (some .int)) (v2 : Int32) (M : Mem) : AWo G E cX11_beatsAs 3 (ab_Q G E embI) 16 [(0, .ref 47), (2, .int v2)] [] M (f_X11_beatsAs_b16 rc v2 M) := by
  unfold f_X11_beatsAs_b16
  refine aw_aload_n (k0 := 0) B 0 (by decide +kernel) rfl rfl ?_
  refine aw_bipush (n := 20) (v := (20 : Int32)) B (by decide +kernel) (by decide) ?_
  refine aw_cVV B (c_X11_begins (eLa E) hG (20 : Int32) M) cvX11_348 rfl rfl (by have hF : FD = 40 := rfl; omega) rfl (Nat.le_of_ble_eq_true rfl) (by decide +kernel) rfl (fun M2 => ?_)
  refine aw_aload_n (k0 := 0) B 0 (by decide +kernel) rfl rfl ?_
  refine aw_iconst (n := 0) (v := (0 : Int32)) B (by decide +kernel) (by decide) ?_
  refine aw_iload_n (k0 := 2) B 1 (by decide +kernel) rfl rfl ?_
  refine aw_cVI B (hrc (0 : Int32) v2 M2) cvX11_351 rfl rfl (by have hF : FD = 40 := rfl; omega) rfl (Nat.le_of_ble_eq_true rfl) (by decide +kernel) rfl (fun x3 M4 => ?_)
  refine aw_iconst (n := 3) (v := (3 : Int32)) B (by decide +kernel) (by decide) ?_
  refine aw_iadd B (by decide +kernel) ?_
  exact aw_ireturn B (by decide +kernel) rfl
def f_X11_beatsAs_o (rc : Int32 → Int32 → Mem → Option (Int32 × Mem)) (v1 : Int32) (v2 : Int32) (M : Mem) : Option (Int32 × Mem) := (if v1 = (1 : Int32) then f_X11_beatsAs_b16 rc v2 M else (if v1 = (4 : Int32) then f_X11_beatsAs_b16 rc v2 M else (if v1 = (7 : Int32) then f_X11_beatsAs_b16 rc v2 M else (if v1 = (6 : Int32) then (f_X11_begins (70 : Int32) M).bind fun M4 => bI (rc (0 : Int32) v2 M4) fun x5 M6 => (some (x5 * (2 : Int32), M6)) else (f_X11_begins (1 : Int32) M).bind fun M2 => (some (v2 + (M2.1 47 45), M2))))))
set_option maxRecDepth 100000 in
set_option maxHeartbeats 4000000 in
theorem w_X11_beatsAs_o {G : GW} {E : EE} (hG : ab_ok G) {rc : Int32 → Int32 → Mem → Option (Int32 × Mem)} (lv0 : Nat) (hl0 : 3 ≤ lv0) (hrc : ∀ (v1 : Int32) (v2 : Int32) (M : Mem), AC (eLa E) G yX11_beatsAs cX11_beatsAs 3 (some .int) lv0 [.ref 47, .int v1, .int v2] M embI (rc v1 v2 M)) (B : Bx G E RX11 cX11_beatsAs 3 (lv0 + 1) (some .int)) (v1 : Int32) (v2 : Int32) (M : Mem) : AWo G E cX11_beatsAs 3 (ab_Q G E embI) 0 [(0, .ref 47), (1, .int v1), (2, .int v2)] [] M (f_X11_beatsAs_o rc v1 v2 M) := by
  unfold f_X11_beatsAs_o
  refine aw_iload_n (k0 := 1) B 1 (by decide +kernel) rfl rfl ?_
  refine aw_iconst (n := 1) (v := (1 : Int32)) B (by decide +kernel) (by decide) ?_
  refine aw_icmp_eq (off := 14) B 16 (by decide +kernel) (by decide) (fun _ => ?_) (fun _ => ?_)
  · exact aw_sub [0, 2] rfl (w_X11_beatsAs_b16 hG lv0 hl0 hrc B _ _)
  · refine aw_iload_n (k0 := 1) B 1 (by decide +kernel) rfl rfl ?_
    refine aw_iconst (n := 4) (v := (4 : Int32)) B (by decide +kernel) (by decide) ?_
    refine aw_icmp_eq (off := 9) B 16 (by decide +kernel) (by decide) (fun _ => ?_) (fun _ => ?_)
    · exact aw_sub [0, 2] rfl (w_X11_beatsAs_b16 hG lv0 hl0 hrc B _ _)
    · refine aw_iload_n (k0 := 1) B 1 (by decide +kernel) rfl rfl ?_
      refine aw_bipush (n := 7) (v := (7 : Int32)) B (by decide +kernel) (by decide) ?_
      refine aw_icmp_ne (off := 18) B 31 (by decide +kernel) (by decide) (fun _ => ?_) (fun _ => ?_)
      · refine aw_iload_n (k0 := 1) B 1 (by decide +kernel) rfl rfl ?_
        refine aw_bipush (n := 6) (v := (6 : Int32)) B (by decide +kernel) (by decide) ?_
        refine aw_icmp_ne (off := 18) B 52 (by decide +kernel) (by decide) (fun _ => ?_) (fun _ => ?_)
        · refine aw_aload_n (k0 := 0) B 0 (by decide +kernel) rfl rfl ?_
          refine aw_iconst (n := 1) (v := (1 : Int32)) B (by decide +kernel) (by decide) ?_
          refine aw_cVV B (c_X11_begins (eLa E) hG (1 : Int32) M) cvX11_348 rfl rfl (by have hF : FD = 40 := rfl; omega) rfl (Nat.le_of_ble_eq_true rfl) (by decide +kernel) rfl (fun M2 => ?_)
          refine aw_iload_n (k0 := 2) B 2 (by decide +kernel) rfl rfl ?_
          refine aw_aload_n (k0 := 0) B 0 (by decide +kernel) rfl rfl ?_
          refine aw_geti (c := 47) B lkX11_354 (by decide +kernel) rfl ?_
          refine aw_iadd B (by decide +kernel) ?_
          exact aw_ireturn B (by decide +kernel) rfl
        · refine aw_aload_n (k0 := 0) B 0 (by decide +kernel) rfl rfl ?_
          refine aw_bipush (n := 70) (v := (70 : Int32)) B (by decide +kernel) (by decide) ?_
          refine aw_cVV B (c_X11_begins (eLa E) hG (70 : Int32) M) cvX11_348 rfl rfl (by have hF : FD = 40 := rfl; omega) rfl (Nat.le_of_ble_eq_true rfl) (by decide +kernel) rfl (fun M4 => ?_)
          refine aw_aload_n (k0 := 0) B 0 (by decide +kernel) rfl rfl ?_
          refine aw_iconst (n := 0) (v := (0 : Int32)) B (by decide +kernel) (by decide) ?_
          refine aw_iload_n (k0 := 2) B 2 (by decide +kernel) rfl rfl ?_
          refine aw_cVI B (hrc (0 : Int32) v2 M4) cvX11_351 rfl rfl (by have hF : FD = 40 := rfl; omega) rfl (Nat.le_of_ble_eq_true rfl) (by decide +kernel) rfl (fun x5 M6 => ?_)
          refine aw_iconst (n := 2) (v := (2 : Int32)) B (by decide +kernel) (by decide) ?_
          refine aw_imul B (by decide +kernel) ?_
          exact aw_ireturn B (by decide +kernel) rfl
      · exact aw_sub [0, 2] rfl (w_X11_beatsAs_b16 hG lv0 hl0 hrc B _ _)
def f_X11_beatsAs : Nat → Int32 → Int32 → Mem → Option (Int32 × Mem)
  | 0, _, _, _ => none
  | d + 1, v1, v2, M => f_X11_beatsAs_o (fun v1 v2 M => f_X11_beatsAs d v1 v2 M) v1 v2 M
theorem c_X11_beatsAs (l : Launch) {G : GW} (hG : ab_ok G) : ∀ (d : Nat) (v1 : Int32) (v2 : Int32) (M : Mem), AC l G yX11_beatsAs cX11_beatsAs 3 (some .int) (3 + 1 * d) [.ref 47, .int v1, .int v2] M embI (f_X11_beatsAs d v1 v2 M)
  | 0, _, _, _ => fun a ha => by cases ha
  | d + 1, v1, v2, M => AC.of hG (by decide) (Nat.le_of_ble_eq_true rfl) (fun E hE B => by
    subst hE
    have e : 3 + 1 * (d + 1) = 3 + 1 * d + 1 := by omega
    rw [e] at B
    exact w_X11_beatsAs_o hG (3 + 1 * d) (Nat.le_add_right _ _) (fun v1 v2 M => c_X11_beatsAs (eLa E) hG d v1 v2 M) B v1 v2 M)
def f_X11_asksAs_b36 (rc : Int32 → Int32 → Mem → Option (Int32 × Mem)) (v2 : Int32) (M : Mem) : Option (Int32 × Mem) := (f_X11_begins (50 : Int32) M).bind fun M2 => bI (rc (1 : Int32) v2 M2) fun x3 M4 => bI (f_X11_beatsAs FD (M4.1 47 44) (2 : Int32) M4) fun x5 M6 => (some (x3 - x5, M6))
set_option maxRecDepth 100000 in
set_option maxHeartbeats 4000000 in
theorem w_X11_asksAs_b36 {G : GW} {E : EE} (hG : ab_ok G) {rc : Int32 → Int32 → Mem → Option (Int32 × Mem)} (lv0 : Nat) (hl0 : 44 ≤ lv0) (hrc : ∀ (v1 : Int32) (v2 : Int32) (M : Mem), AC (eLa E) G yX11_asksAs cX11_asksAs 4 (some .int) lv0 [.ref 47, .int v1, .int v2] M embI (rc v1 v2 M)) (B : Bx G E RX11 cX11_asksAs 4 (lv0 + 1) (some .int)) (v2 : Int32) (M : Mem) : AWo G E cX11_asksAs 4 (ab_Q G E embI) 36 [(0, .ref 47), (2, .int v2)] [] M (f_X11_asksAs_b36 rc v2 M) := by
  unfold f_X11_asksAs_b36
  refine aw_aload_n (k0 := 0) B 0 (by decide +kernel) rfl rfl ?_
  refine aw_bipush (n := 50) (v := (50 : Int32)) B (by decide +kernel) (by decide) ?_
  refine aw_cVV B (c_X11_begins (eLa E) hG (50 : Int32) M) cvX11_348 rfl rfl (by have hF : FD = 40 := rfl; omega) rfl (Nat.le_of_ble_eq_true rfl) (by decide +kernel) rfl (fun M2 => ?_)
  refine aw_aload_n (k0 := 0) B 0 (by decide +kernel) rfl rfl ?_
  refine aw_iconst (n := 1) (v := (1 : Int32)) B (by decide +kernel) (by decide) ?_
  refine aw_iload_n (k0 := 2) B 1 (by decide +kernel) rfl rfl ?_
  refine aw_cVI B (hrc (1 : Int32) v2 M2) cvX11_363 rfl rfl (by have hF : FD = 40 := rfl; omega) rfl (Nat.le_of_ble_eq_true rfl) (by decide +kernel) rfl (fun x3 M4 => ?_)
  refine aw_istore_n (k0 := 3) B [(3, .int x3), (0, .ref 47), (2, .int v2)] (by decide +kernel) rfl (Nat.le_of_ble_eq_true rfl) rfl ?_
  refine aw_iload_n (k0 := 3) B 0 (by decide +kernel) rfl rfl ?_
  refine aw_aload_n (k0 := 0) B 1 (by decide +kernel) rfl rfl ?_
  refine aw_aload_n (k0 := 0) B 1 (by decide +kernel) rfl rfl ?_
  refine aw_geti (c := 47) B lkX11_360 (by decide +kernel) rfl ?_
  refine aw_iconst (n := 2) (v := (2 : Int32)) B (by decide +kernel) (by decide) ?_
  refine aw_cVI B (c_X11_beatsAs (eLa E) hG FD (M4.1 47 44) (2 : Int32) M4) cvX11_351 rfl rfl (by have hF : FD = 40 := rfl; omega) rfl (Nat.le_of_ble_eq_true rfl) (by decide +kernel) rfl (fun x5 M6 => ?_)
  refine aw_isub B (by decide +kernel) ?_
  exact aw_ireturn B (by decide +kernel) rfl
def f_X11_asksAs_b10 (rc : Int32 → Int32 → Mem → Option (Int32 × Mem)) (v2 : Int32) (M : Mem) : Option (Int32 × Mem) := (f_X11_begins (40 : Int32) M).bind fun M2 => bI (rc (2 : Int32) v2 M2) fun x3 M4 => (some (x3 * (3 : Int32), M4))
set_option maxRecDepth 100000 in
set_option maxHeartbeats 4000000 in
theorem w_X11_asksAs_b10 {G : GW} {E : EE} (hG : ab_ok G) {rc : Int32 → Int32 → Mem → Option (Int32 × Mem)} (lv0 : Nat) (hl0 : 44 ≤ lv0) (hrc : ∀ (v1 : Int32) (v2 : Int32) (M : Mem), AC (eLa E) G yX11_asksAs cX11_asksAs 4 (some .int) lv0 [.ref 47, .int v1, .int v2] M embI (rc v1 v2 M)) (B : Bx G E RX11 cX11_asksAs 4 (lv0 + 1) (some .int)) (v2 : Int32) (M : Mem) : AWo G E cX11_asksAs 4 (ab_Q G E embI) 10 [(0, .ref 47), (2, .int v2)] [] M (f_X11_asksAs_b10 rc v2 M) := by
  unfold f_X11_asksAs_b10
  refine aw_aload_n (k0 := 0) B 0 (by decide +kernel) rfl rfl ?_
  refine aw_bipush (n := 40) (v := (40 : Int32)) B (by decide +kernel) (by decide) ?_
  refine aw_cVV B (c_X11_begins (eLa E) hG (40 : Int32) M) cvX11_348 rfl rfl (by have hF : FD = 40 := rfl; omega) rfl (Nat.le_of_ble_eq_true rfl) (by decide +kernel) rfl (fun M2 => ?_)
  refine aw_aload_n (k0 := 0) B 0 (by decide +kernel) rfl rfl ?_
  refine aw_iconst (n := 2) (v := (2 : Int32)) B (by decide +kernel) (by decide) ?_
  refine aw_iload_n (k0 := 2) B 1 (by decide +kernel) rfl rfl ?_
  refine aw_cVI B (hrc (2 : Int32) v2 M2) cvX11_363 rfl rfl (by have hF : FD = 40 := rfl; omega) rfl (Nat.le_of_ble_eq_true rfl) (by decide +kernel) rfl (fun x3 M4 => ?_)
  refine aw_iconst (n := 3) (v := (3 : Int32)) B (by decide +kernel) (by decide) ?_
  refine aw_imul B (by decide +kernel) ?_
  exact aw_ireturn B (by decide +kernel) rfl
def f_X11_asksAs_o (rc : Int32 → Int32 → Mem → Option (Int32 × Mem)) (v1 : Int32) (v2 : Int32) (M : Mem) : Option (Int32 × Mem) := (if v1 = (3 : Int32) then f_X11_asksAs_b10 rc v2 M else (if v1 = (5 : Int32) then f_X11_asksAs_b10 rc v2 M else (if v1 = (4 : Int32) then f_X11_asksAs_b36 rc v2 M else (if v1 = (7 : Int32) then f_X11_asksAs_b36 rc v2 M else (f_X11_begins (11 : Int32) M).bind fun M2 => (some (v2 ^^^ (M2.1 47 45), M2))))))
set_option maxRecDepth 100000 in
set_option maxHeartbeats 4000000 in
theorem w_X11_asksAs_o {G : GW} {E : EE} (hG : ab_ok G) {rc : Int32 → Int32 → Mem → Option (Int32 × Mem)} (lv0 : Nat) (hl0 : 44 ≤ lv0) (hrc : ∀ (v1 : Int32) (v2 : Int32) (M : Mem), AC (eLa E) G yX11_asksAs cX11_asksAs 4 (some .int) lv0 [.ref 47, .int v1, .int v2] M embI (rc v1 v2 M)) (B : Bx G E RX11 cX11_asksAs 4 (lv0 + 1) (some .int)) (v1 : Int32) (v2 : Int32) (M : Mem) : AWo G E cX11_asksAs 4 (ab_Q G E embI) 0 [(0, .ref 47), (1, .int v1), (2, .int v2)] [] M (f_X11_asksAs_o rc v1 v2 M) := by
  unfold f_X11_asksAs_o
  refine aw_iload_n (k0 := 1) B 1 (by decide +kernel) rfl rfl ?_
  refine aw_iconst (n := 3) (v := (3 : Int32)) B (by decide +kernel) (by decide) ?_
  refine aw_icmp_eq (off := 8) B 10 (by decide +kernel) (by decide) (fun _ => ?_) (fun _ => ?_)
  · exact aw_sub [0, 2] rfl (w_X11_asksAs_b10 hG lv0 hl0 hrc B _ _)
  · refine aw_iload_n (k0 := 1) B 1 (by decide +kernel) rfl rfl ?_
    refine aw_iconst (n := 5) (v := (5 : Int32)) B (by decide +kernel) (by decide) ?_
    refine aw_icmp_ne (off := 18) B 25 (by decide +kernel) (by decide) (fun _ => ?_) (fun _ => ?_)
    · refine aw_iload_n (k0 := 1) B 1 (by decide +kernel) rfl rfl ?_
      refine aw_iconst (n := 4) (v := (4 : Int32)) B (by decide +kernel) (by decide) ?_
      refine aw_icmp_eq (off := 9) B 36 (by decide +kernel) (by decide) (fun _ => ?_) (fun _ => ?_)
      · exact aw_sub [0, 2] rfl (w_X11_asksAs_b36 hG lv0 hl0 hrc B _ _)
      · refine aw_iload_n (k0 := 1) B 1 (by decide +kernel) rfl rfl ?_
        refine aw_bipush (n := 7) (v := (7 : Int32)) B (by decide +kernel) (by decide) ?_
        refine aw_icmp_ne (off := 28) B 61 (by decide +kernel) (by decide) (fun _ => ?_) (fun _ => ?_)
        · refine aw_aload_n (k0 := 0) B 0 (by decide +kernel) rfl rfl ?_
          refine aw_bipush (n := 11) (v := (11 : Int32)) B (by decide +kernel) (by decide) ?_
          refine aw_cVV B (c_X11_begins (eLa E) hG (11 : Int32) M) cvX11_348 rfl rfl (by have hF : FD = 40 := rfl; omega) rfl (Nat.le_of_ble_eq_true rfl) (by decide +kernel) rfl (fun M2 => ?_)
          refine aw_iload_n (k0 := 2) B 2 (by decide +kernel) rfl rfl ?_
          refine aw_aload_n (k0 := 0) B 0 (by decide +kernel) rfl rfl ?_
          refine aw_geti (c := 47) B lkX11_354 (by decide +kernel) rfl ?_
          refine aw_ixor B (by decide +kernel) ?_
          exact aw_ireturn B (by decide +kernel) rfl
        · exact aw_sub [0, 2] rfl (w_X11_asksAs_b36 hG lv0 hl0 hrc B _ _)
    · exact aw_sub [0, 2] rfl (w_X11_asksAs_b10 hG lv0 hl0 hrc B _ _)
def f_X11_asksAs : Nat → Int32 → Int32 → Mem → Option (Int32 × Mem)
  | 0, _, _, _ => none
  | d + 1, v1, v2, M => f_X11_asksAs_o (fun v1 v2 M => f_X11_asksAs d v1 v2 M) v1 v2 M
theorem c_X11_asksAs (l : Launch) {G : GW} (hG : ab_ok G) : ∀ (d : Nat) (v1 : Int32) (v2 : Int32) (M : Mem), AC l G yX11_asksAs cX11_asksAs 4 (some .int) (44 + 1 * d) [.ref 47, .int v1, .int v2] M embI (f_X11_asksAs d v1 v2 M)
  | 0, _, _, _ => fun a ha => by cases ha
  | d + 1, v1, v2, M => AC.of hG (by decide) (Nat.le_of_ble_eq_true rfl) (fun E hE B => by
    subst hE
    have e : 44 + 1 * (d + 1) = 44 + 1 * d + 1 := by omega
    rw [e] at B
    exact w_X11_asksAs_o hG (44 + 1 * d) (Nat.le_add_right _ _) (fun v1 v2 M => c_X11_asksAs (eLa E) hG d v1 v2 M) B v1 v2 M)
def f_X11_standsAs_b10 (rc : Int32 → Int32 → Mem → Option (Int32 × Mem)) (v2 : Int32) (M : Mem) : Option (Int32 × Mem) := (f_X11_begins (41 : Int32) M).bind fun M2 => bI (rc (2 : Int32) (v2 + (1 : Int32)) M2) fun x3 M4 => (some (x3, M4))
set_option maxRecDepth 100000 in
set_option maxHeartbeats 4000000 in
theorem w_X11_standsAs_b10 {G : GW} {E : EE} (hG : ab_ok G) {rc : Int32 → Int32 → Mem → Option (Int32 × Mem)} (lv0 : Nat) (hl0 : 85 ≤ lv0) (hrc : ∀ (v1 : Int32) (v2 : Int32) (M : Mem), AC (eLa E) G yX11_standsAs cX11_standsAs 4 (some .int) lv0 [.ref 47, .int v1, .int v2] M embI (rc v1 v2 M)) (B : Bx G E RX11 cX11_standsAs 4 (lv0 + 1) (some .int)) (v2 : Int32) (M : Mem) : AWo G E cX11_standsAs 4 (ab_Q G E embI) 10 [(0, .ref 47), (2, .int v2)] [] M (f_X11_standsAs_b10 rc v2 M) := by
  unfold f_X11_standsAs_b10
  refine aw_aload_n (k0 := 0) B 0 (by decide +kernel) rfl rfl ?_
  refine aw_bipush (n := 41) (v := (41 : Int32)) B (by decide +kernel) (by decide) ?_
  refine aw_cVV B (c_X11_begins (eLa E) hG (41 : Int32) M) cvX11_348 rfl rfl (by have hF : FD = 40 := rfl; omega) rfl (Nat.le_of_ble_eq_true rfl) (by decide +kernel) rfl (fun M2 => ?_)
  refine aw_aload_n (k0 := 0) B 0 (by decide +kernel) rfl rfl ?_
  refine aw_iconst (n := 2) (v := (2 : Int32)) B (by decide +kernel) (by decide) ?_
  refine aw_iload_n (k0 := 2) B 1 (by decide +kernel) rfl rfl ?_
  refine aw_iconst (n := 1) (v := (1 : Int32)) B (by decide +kernel) (by decide) ?_
  refine aw_iadd B (by decide +kernel) ?_
  refine aw_cVI B (hrc (2 : Int32) (v2 + (1 : Int32)) M2) cvX11_357 rfl rfl (by have hF : FD = 40 := rfl; omega) rfl (Nat.le_of_ble_eq_true rfl) (by decide +kernel) rfl (fun x3 M4 => ?_)
  exact aw_ireturn B (by decide +kernel) rfl
def f_X11_standsAs_o (rc : Int32 → Int32 → Mem → Option (Int32 × Mem)) (v1 : Int32) (v2 : Int32) (M : Mem) : Option (Int32 × Mem) := (if v1 = (3 : Int32) then f_X11_standsAs_b10 rc v2 M else (if v1 = (5 : Int32) then f_X11_standsAs_b10 rc v2 M else (if v1 = (2 : Int32) then (f_X11_begins (30 : Int32) M).bind fun M12 => bI (rc (0 : Int32) v2 M12) fun x13 M14 => (some (-x13, M14)) else (if v1 = (7 : Int32) then (f_X11_begins (80 : Int32) M).bind fun M6 => bI (rc (4 : Int32) v2 M6) fun x7 M8 => bI (f_X11_asksAs FD (M8.1 47 44) (2 : Int32) M8) fun x9 M10 => (some (x7 + x9, M10)) else (f_X11_begins (10 : Int32) M).bind fun M2 => bI (f_X11_beatsAs FD (M2.1 47 44) v2 M2) fun x3 M4 => (some (x3 * (2 : Int32), M4))))))
set_option maxRecDepth 100000 in
set_option maxHeartbeats 4000000 in
theorem w_X11_standsAs_o {G : GW} {E : EE} (hG : ab_ok G) {rc : Int32 → Int32 → Mem → Option (Int32 × Mem)} (lv0 : Nat) (hl0 : 85 ≤ lv0) (hrc : ∀ (v1 : Int32) (v2 : Int32) (M : Mem), AC (eLa E) G yX11_standsAs cX11_standsAs 4 (some .int) lv0 [.ref 47, .int v1, .int v2] M embI (rc v1 v2 M)) (B : Bx G E RX11 cX11_standsAs 4 (lv0 + 1) (some .int)) (v1 : Int32) (v2 : Int32) (M : Mem) : AWo G E cX11_standsAs 4 (ab_Q G E embI) 0 [(0, .ref 47), (1, .int v1), (2, .int v2)] [] M (f_X11_standsAs_o rc v1 v2 M) := by
  unfold f_X11_standsAs_o
  refine aw_iload_n (k0 := 1) B 1 (by decide +kernel) rfl rfl ?_
  refine aw_iconst (n := 3) (v := (3 : Int32)) B (by decide +kernel) (by decide) ?_
  refine aw_icmp_eq (off := 8) B 10 (by decide +kernel) (by decide) (fun _ => ?_) (fun _ => ?_)
  · exact aw_sub [0, 2] rfl (w_X11_standsAs_b10 hG lv0 hl0 hrc B _ _)
  · refine aw_iload_n (k0 := 1) B 1 (by decide +kernel) rfl rfl ?_
    refine aw_iconst (n := 5) (v := (5 : Int32)) B (by decide +kernel) (by decide) ?_
    refine aw_icmp_ne (off := 18) B 25 (by decide +kernel) (by decide) (fun _ => ?_) (fun _ => ?_)
    · refine aw_iload_n (k0 := 1) B 1 (by decide +kernel) rfl rfl ?_
      refine aw_iconst (n := 2) (v := (2 : Int32)) B (by decide +kernel) (by decide) ?_
      refine aw_icmp_ne (off := 17) B 44 (by decide +kernel) (by decide) (fun _ => ?_) (fun _ => ?_)
      · refine aw_iload_n (k0 := 1) B 1 (by decide +kernel) rfl rfl ?_
        refine aw_bipush (n := 7) (v := (7 : Int32)) B (by decide +kernel) (by decide) ?_
        refine aw_icmp_ne (off := 28) B 75 (by decide +kernel) (by decide) (fun _ => ?_) (fun _ => ?_)
        · refine aw_aload_n (k0 := 0) B 0 (by decide +kernel) rfl rfl ?_
          refine aw_bipush (n := 10) (v := (10 : Int32)) B (by decide +kernel) (by decide) ?_
          refine aw_cVV B (c_X11_begins (eLa E) hG (10 : Int32) M) cvX11_348 rfl rfl (by have hF : FD = 40 := rfl; omega) rfl (Nat.le_of_ble_eq_true rfl) (by decide +kernel) rfl (fun M2 => ?_)
          refine aw_aload_n (k0 := 0) B 0 (by decide +kernel) rfl rfl ?_
          refine aw_aload_n (k0 := 0) B 0 (by decide +kernel) rfl rfl ?_
          refine aw_geti (c := 47) B lkX11_360 (by decide +kernel) rfl ?_
          refine aw_iload_n (k0 := 2) B 2 (by decide +kernel) rfl rfl ?_
          refine aw_cVI B (c_X11_beatsAs (eLa E) hG FD (M2.1 47 44) v2 M2) cvX11_351 rfl rfl (by have hF : FD = 40 := rfl; omega) rfl (Nat.le_of_ble_eq_true rfl) (by decide +kernel) rfl (fun x3 M4 => ?_)
          refine aw_iconst (n := 2) (v := (2 : Int32)) B (by decide +kernel) (by decide) ?_
          refine aw_imul B (by decide +kernel) ?_
          exact aw_ireturn B (by decide +kernel) rfl
        · refine aw_aload_n (k0 := 0) B 0 (by decide +kernel) rfl rfl ?_
          refine aw_bipush (n := 80) (v := (80 : Int32)) B (by decide +kernel) (by decide) ?_
          refine aw_cVV B (c_X11_begins (eLa E) hG (80 : Int32) M) cvX11_348 rfl rfl (by have hF : FD = 40 := rfl; omega) rfl (Nat.le_of_ble_eq_true rfl) (by decide +kernel) rfl (fun M6 => ?_)
          refine aw_aload_n (k0 := 0) B 0 (by decide +kernel) rfl rfl ?_
          refine aw_iconst (n := 4) (v := (4 : Int32)) B (by decide +kernel) (by decide) ?_
          refine aw_iload_n (k0 := 2) B 2 (by decide +kernel) rfl rfl ?_
          refine aw_cVI B (hrc (4 : Int32) v2 M6) cvX11_357 rfl rfl (by have hF : FD = 40 := rfl; omega) rfl (Nat.le_of_ble_eq_true rfl) (by decide +kernel) rfl (fun x7 M8 => ?_)
          refine aw_istore_n (k0 := 3) B [(3, .int x7), (0, .ref 47), (1, .int v1), (2, .int v2)] (by decide +kernel) rfl (Nat.le_of_ble_eq_true rfl) rfl ?_
          refine aw_iload_n (k0 := 3) B 0 (by decide +kernel) rfl rfl ?_
          refine aw_aload_n (k0 := 0) B 1 (by decide +kernel) rfl rfl ?_
          refine aw_aload_n (k0 := 0) B 1 (by decide +kernel) rfl rfl ?_
          refine aw_geti (c := 47) B lkX11_360 (by decide +kernel) rfl ?_
          refine aw_iconst (n := 2) (v := (2 : Int32)) B (by decide +kernel) (by decide) ?_
          refine aw_cVI B (c_X11_asksAs (eLa E) hG FD (M8.1 47 44) (2 : Int32) M8) cvX11_363 rfl rfl (by have hF : FD = 40 := rfl; omega) rfl (Nat.le_of_ble_eq_true rfl) (by decide +kernel) rfl (fun x9 M10 => ?_)
          refine aw_iadd B (by decide +kernel) ?_
          exact aw_ireturn B (by decide +kernel) rfl
      · refine aw_aload_n (k0 := 0) B 0 (by decide +kernel) rfl rfl ?_
        refine aw_bipush (n := 30) (v := (30 : Int32)) B (by decide +kernel) (by decide) ?_
        refine aw_cVV B (c_X11_begins (eLa E) hG (30 : Int32) M) cvX11_348 rfl rfl (by have hF : FD = 40 := rfl; omega) rfl (Nat.le_of_ble_eq_true rfl) (by decide +kernel) rfl (fun M12 => ?_)
        refine aw_aload_n (k0 := 0) B 0 (by decide +kernel) rfl rfl ?_
        refine aw_iconst (n := 0) (v := (0 : Int32)) B (by decide +kernel) (by decide) ?_
        refine aw_iload_n (k0 := 2) B 2 (by decide +kernel) rfl rfl ?_
        refine aw_cVI B (hrc (0 : Int32) v2 M12) cvX11_357 rfl rfl (by have hF : FD = 40 := rfl; omega) rfl (Nat.le_of_ble_eq_true rfl) (by decide +kernel) rfl (fun x13 M14 => ?_)
        refine aw_ineg B (by decide +kernel) ?_
        exact aw_ireturn B (by decide +kernel) rfl
    · exact aw_sub [0, 2] rfl (w_X11_standsAs_b10 hG lv0 hl0 hrc B _ _)
def f_X11_standsAs : Nat → Int32 → Int32 → Mem → Option (Int32 × Mem)
  | 0, _, _, _ => none
  | d + 1, v1, v2, M => f_X11_standsAs_o (fun v1 v2 M => f_X11_standsAs d v1 v2 M) v1 v2 M
theorem c_X11_standsAs (l : Launch) {G : GW} (hG : ab_ok G) : ∀ (d : Nat) (v1 : Int32) (v2 : Int32) (M : Mem), AC l G yX11_standsAs cX11_standsAs 4 (some .int) (85 + 1 * d) [.ref 47, .int v1, .int v2] M embI (f_X11_standsAs d v1 v2 M)
  | 0, _, _, _ => fun a ha => by cases ha
  | d + 1, v1, v2, M => AC.of hG (by decide) (Nat.le_of_ble_eq_true rfl) (fun E hE B => by
    subst hE
    have e : 85 + 1 * (d + 1) = 85 + 1 * d + 1 := by omega
    rw [e] at B
    exact w_X11_standsAs_o hG (85 + 1 * d) (Nat.le_add_right _ _) (fun v1 v2 M => c_X11_standsAs (eLa E) hG d v1 v2 M) B v1 v2 M)
def f_X11_tellsAs_o (rc : Int32 → Int32 → Mem → Option (Int32 × Mem)) (v1 : Int32) (v2 : Int32) (M : Mem) : Option (Int32 × Mem) := (if v1 = (5 : Int32) then (f_X11_begins (60 : Int32) M).bind fun M12 => bI (rc (3 : Int32) v2 M12) fun x13 M14 => (some (x13 ^^^ (5 : Int32), M14)) else (if v1 = (7 : Int32) then (f_X11_begins (81 : Int32) M).bind fun M8 => bI (rc (4 : Int32) v2 M8) fun x9 M10 => (some (x9 - (1 : Int32), M10)) else (f_X11_begins (2 : Int32) M).bind fun M2 => bI (f_X11_standsAs FD (M2.1 47 44) v2 M2) fun x3 M4 => bI (f_X11_asksAs FD (M4.1 47 44) (1 : Int32) M4) fun x5 M6 => (some (x3 - x5, M6))))
set_option maxRecDepth 100000 in
set_option maxHeartbeats 4000000 in
theorem w_X11_tellsAs_o {G : GW} {E : EE} (hG : ab_ok G) {rc : Int32 → Int32 → Mem → Option (Int32 × Mem)} (lv0 : Nat) (hl0 : 126 ≤ lv0) (hrc : ∀ (v1 : Int32) (v2 : Int32) (M : Mem), AC (eLa E) G yX11_tellsAs cX11_tellsAs 4 (some .int) lv0 [.ref 47, .int v1, .int v2] M embI (rc v1 v2 M)) (B : Bx G E RX11 cX11_tellsAs 4 (lv0 + 1) (some .int)) (v1 : Int32) (v2 : Int32) (M : Mem) : AWo G E cX11_tellsAs 4 (ab_Q G E embI) 0 [(0, .ref 47), (1, .int v1), (2, .int v2)] [] M (f_X11_tellsAs_o rc v1 v2 M) := by
  unfold f_X11_tellsAs_o
  refine aw_iload_n (k0 := 1) B 1 (by decide +kernel) rfl rfl ?_
  refine aw_iconst (n := 5) (v := (5 : Int32)) B (by decide +kernel) (by decide) ?_
  refine aw_icmp_ne (off := 18) B 20 (by decide +kernel) (by decide) (fun _ => ?_) (fun _ => ?_)
  · refine aw_iload_n (k0 := 1) B 1 (by decide +kernel) rfl rfl ?_
    refine aw_bipush (n := 7) (v := (7 : Int32)) B (by decide +kernel) (by decide) ?_
    refine aw_icmp_ne (off := 18) B 41 (by decide +kernel) (by decide) (fun _ => ?_) (fun _ => ?_)
    · refine aw_aload_n (k0 := 0) B 0 (by decide +kernel) rfl rfl ?_
      refine aw_iconst (n := 2) (v := (2 : Int32)) B (by decide +kernel) (by decide) ?_
      refine aw_cVV B (c_X11_begins (eLa E) hG (2 : Int32) M) cvX11_348 rfl rfl (by have hF : FD = 40 := rfl; omega) rfl (Nat.le_of_ble_eq_true rfl) (by decide +kernel) rfl (fun M2 => ?_)
      refine aw_aload_n (k0 := 0) B 0 (by decide +kernel) rfl rfl ?_
      refine aw_aload_n (k0 := 0) B 0 (by decide +kernel) rfl rfl ?_
      refine aw_geti (c := 47) B lkX11_360 (by decide +kernel) rfl ?_
      refine aw_iload_n (k0 := 2) B 2 (by decide +kernel) rfl rfl ?_
      refine aw_cVI B (c_X11_standsAs (eLa E) hG FD (M2.1 47 44) v2 M2) cvX11_357 rfl rfl (by have hF : FD = 40 := rfl; omega) rfl (Nat.le_of_ble_eq_true rfl) (by decide +kernel) rfl (fun x3 M4 => ?_)
      refine aw_istore_n (k0 := 3) B [(3, .int x3), (0, .ref 47), (1, .int v1), (2, .int v2)] (by decide +kernel) rfl (Nat.le_of_ble_eq_true rfl) rfl ?_
      refine aw_iload_n (k0 := 3) B 0 (by decide +kernel) rfl rfl ?_
      refine aw_aload_n (k0 := 0) B 1 (by decide +kernel) rfl rfl ?_
      refine aw_aload_n (k0 := 0) B 1 (by decide +kernel) rfl rfl ?_
      refine aw_geti (c := 47) B lkX11_360 (by decide +kernel) rfl ?_
      refine aw_iconst (n := 1) (v := (1 : Int32)) B (by decide +kernel) (by decide) ?_
      refine aw_cVI B (c_X11_asksAs (eLa E) hG FD (M4.1 47 44) (1 : Int32) M4) cvX11_363 rfl rfl (by have hF : FD = 40 := rfl; omega) rfl (Nat.le_of_ble_eq_true rfl) (by decide +kernel) rfl (fun x5 M6 => ?_)
      refine aw_isub B (by decide +kernel) ?_
      exact aw_ireturn B (by decide +kernel) rfl
    · refine aw_aload_n (k0 := 0) B 0 (by decide +kernel) rfl rfl ?_
      refine aw_bipush (n := 81) (v := (81 : Int32)) B (by decide +kernel) (by decide) ?_
      refine aw_cVV B (c_X11_begins (eLa E) hG (81 : Int32) M) cvX11_348 rfl rfl (by have hF : FD = 40 := rfl; omega) rfl (Nat.le_of_ble_eq_true rfl) (by decide +kernel) rfl (fun M8 => ?_)
      refine aw_aload_n (k0 := 0) B 0 (by decide +kernel) rfl rfl ?_
      refine aw_iconst (n := 4) (v := (4 : Int32)) B (by decide +kernel) (by decide) ?_
      refine aw_iload_n (k0 := 2) B 2 (by decide +kernel) rfl rfl ?_
      refine aw_cVI B (hrc (4 : Int32) v2 M8) cvX11_366 rfl rfl (by have hF : FD = 40 := rfl; omega) rfl (Nat.le_of_ble_eq_true rfl) (by decide +kernel) rfl (fun x9 M10 => ?_)
      refine aw_iconst (n := 1) (v := (1 : Int32)) B (by decide +kernel) (by decide) ?_
      refine aw_isub B (by decide +kernel) ?_
      exact aw_ireturn B (by decide +kernel) rfl
  · refine aw_aload_n (k0 := 0) B 0 (by decide +kernel) rfl rfl ?_
    refine aw_bipush (n := 60) (v := (60 : Int32)) B (by decide +kernel) (by decide) ?_
    refine aw_cVV B (c_X11_begins (eLa E) hG (60 : Int32) M) cvX11_348 rfl rfl (by have hF : FD = 40 := rfl; omega) rfl (Nat.le_of_ble_eq_true rfl) (by decide +kernel) rfl (fun M12 => ?_)
    refine aw_aload_n (k0 := 0) B 0 (by decide +kernel) rfl rfl ?_
    refine aw_iconst (n := 3) (v := (3 : Int32)) B (by decide +kernel) (by decide) ?_
    refine aw_iload_n (k0 := 2) B 2 (by decide +kernel) rfl rfl ?_
    refine aw_cVI B (hrc (3 : Int32) v2 M12) cvX11_366 rfl rfl (by have hF : FD = 40 := rfl; omega) rfl (Nat.le_of_ble_eq_true rfl) (by decide +kernel) rfl (fun x13 M14 => ?_)
    refine aw_iconst (n := 5) (v := (5 : Int32)) B (by decide +kernel) (by decide) ?_
    refine aw_ixor B (by decide +kernel) ?_
    exact aw_ireturn B (by decide +kernel) rfl
def f_X11_tellsAs : Nat → Int32 → Int32 → Mem → Option (Int32 × Mem)
  | 0, _, _, _ => none
  | d + 1, v1, v2, M => f_X11_tellsAs_o (fun v1 v2 M => f_X11_tellsAs d v1 v2 M) v1 v2 M
theorem c_X11_tellsAs (l : Launch) {G : GW} (hG : ab_ok G) : ∀ (d : Nat) (v1 : Int32) (v2 : Int32) (M : Mem), AC l G yX11_tellsAs cX11_tellsAs 4 (some .int) (126 + 1 * d) [.ref 47, .int v1, .int v2] M embI (f_X11_tellsAs d v1 v2 M)
  | 0, _, _, _ => fun a ha => by cases ha
  | d + 1, v1, v2, M => AC.of hG (by decide) (Nat.le_of_ble_eq_true rfl) (fun E hE B => by
    subst hE
    have e : 126 + 1 * (d + 1) = 126 + 1 * d + 1 := by omega
    rw [e] at B
    exact w_X11_tellsAs_o hG (126 + 1 * d) (Nat.le_add_right _ _) (fun v1 v2 M => c_X11_tellsAs (eLa E) hG d v1 v2 M) B v1 v2 M)
def f_X11_act (v1 : Int32) (v2 : Int32) (v3 : Int32) (M : Mem) : Option (Int32 × Mem) := lt (wI M 47 43 (0 : Int32)) fun M1 => (f_X11_isBody v1 M1).bind fun x2 => (if x2 = 0 then (some ((0 : Int32), M1)) else ck (okI 71 v1) (lt (wI M1 47 44 (M1.1 71 v1.toNatClampNeg)) fun M4 => lt (wI M4 47 45 v1) fun M5 => (if v2 = (0 : Int32) then bI (f_X11_beatsAs FD (M5.1 47 44) v3 M5) fun x6 M7 => (some (x6, M7)) else if v2 = (1 : Int32) then bI (f_X11_standsAs FD (M5.1 47 44) v3 M5) fun x8 M9 => (some (x8, M9)) else if v2 = (2 : Int32) then bI (f_X11_asksAs FD (M5.1 47 44) v3 M5) fun x10 M11 => (some (x10, M11)) else if v2 = (3 : Int32) then bI (f_X11_tellsAs FD (M5.1 47 44) v3 M5) fun x12 M13 => (some (x12, M13)) else (some ((0 : Int32), M5)))))
set_option maxRecDepth 100000 in
set_option maxHeartbeats 4000000 in
theorem w_X11_act {G : GW} {E : EE} (hG : ab_ok G) (B : Bx G E RX11 cX11_act 4 167 (some .int)) (v1 : Int32) (v2 : Int32) (v3 : Int32) (M : Mem) : AWo G E cX11_act 4 (ab_Q G E embI) 0 [(0, .ref 47), (1, .int v1), (2, .int v2), (3, .int v3)] [] M (f_X11_act v1 v2 v3 M) := by
  unfold f_X11_act
  refine aw_aload_n (k0 := 0) B 0 (by decide +kernel) rfl rfl ?_
  refine aw_iconst (n := 0) (v := (0 : Int32)) B (by decide +kernel) (by decide) ?_
  refine aw_puti (c := 47) B lkX11_345 lp11_43 (by decide +kernel) rfl (fun M1 => ?_)
  refine aw_aload_n (k0 := 0) B 0 (by decide +kernel) rfl rfl ?_
  refine aw_iload_n (k0 := 1) B 1 (by decide +kernel) rfl rfl ?_
  refine aw_cVR B (c_X11_isBody (eLa E) hG v1 M1) cvX11_369 rfl rfl (Nat.le_of_ble_eq_true rfl) rfl (Nat.le_of_ble_eq_true rfl) (by decide +kernel) rfl (fun x2 => ?_)
  refine aw_if_ne (off := 5) B 15 (by decide +kernel) (by decide) (fun _ => ?_) (fun _ => ?_)
  · refine aw_aload_n (k0 := 0) B 0 (by decide +kernel) rfl rfl ?_
    refine aw_aload_n (k0 := 0) B 0 (by decide +kernel) rfl rfl ?_
    refine aw_getr (c := 47) B lkX11_81 (by decide +kernel) rfl (r := 71) rfl ?_
    refine aw_iload_n (k0 := 1) B 1 (by decide +kernel) rfl rfl ?_
    refine aw_iaload B (by decide +kernel) ?_
    refine aw_puti (c := 47) B lkX11_360 lp11_44 (by decide +kernel) rfl (fun M4 => ?_)
    refine aw_aload_n (k0 := 0) B 0 (by decide +kernel) rfl rfl ?_
    refine aw_iload_n (k0 := 1) B 1 (by decide +kernel) rfl rfl ?_
    refine aw_puti (c := 47) B lkX11_354 lp11_45 (by decide +kernel) rfl (fun M5 => ?_)
    refine aw_iload_n (k0 := 2) B 2 (by decide +kernel) rfl rfl ?_
    refine aw_ite (fun h31_0 => ?_) (fun h31_0 => ?_)
    · refine aw_tin (k0 := (0 : Int32)) (dflt := 69) (lo := 0) (hi := 3) (offs := #[29, 39, 49, 59]) (len := 29) (off := 29) B 60 (by decide +kernel) h31_0 (by decide) (by decide) (by decide +kernel) (by decide) ?_
      refine aw_aload_n (k0 := 0) B 0 (by decide +kernel) rfl rfl ?_
      refine aw_aload_n (k0 := 0) B 0 (by decide +kernel) rfl rfl ?_
      refine aw_geti (c := 47) B lkX11_360 (by decide +kernel) rfl ?_
      refine aw_iload_n (k0 := 3) B 3 (by decide +kernel) rfl rfl ?_
      refine aw_cVI B (c_X11_beatsAs (eLa E) hG FD (M5.1 47 44) v3 M5) cvX11_351 rfl rfl (Nat.le_of_ble_eq_true rfl) rfl (Nat.le_of_ble_eq_true rfl) (by decide +kernel) rfl (fun x6 M7 => ?_)
      exact aw_ireturn B (by decide +kernel) rfl
    refine aw_ite (fun h31_1 => ?_) (fun h31_1 => ?_)
    · refine aw_tin (k0 := (1 : Int32)) (dflt := 69) (lo := 0) (hi := 3) (offs := #[29, 39, 49, 59]) (len := 29) (off := 39) B 70 (by decide +kernel) h31_1 (by decide) (by decide) (by decide +kernel) (by decide) ?_
      refine aw_aload_n (k0 := 0) B 0 (by decide +kernel) rfl rfl ?_
      refine aw_aload_n (k0 := 0) B 0 (by decide +kernel) rfl rfl ?_
      refine aw_geti (c := 47) B lkX11_360 (by decide +kernel) rfl ?_
      refine aw_iload_n (k0 := 3) B 3 (by decide +kernel) rfl rfl ?_
      refine aw_cVI B (c_X11_standsAs (eLa E) hG FD (M5.1 47 44) v3 M5) cvX11_357 rfl rfl (Nat.le_of_ble_eq_true rfl) rfl (Nat.le_of_ble_eq_true rfl) (by decide +kernel) rfl (fun x8 M9 => ?_)
      exact aw_ireturn B (by decide +kernel) rfl
    refine aw_ite (fun h31_2 => ?_) (fun h31_2 => ?_)
    · refine aw_tin (k0 := (2 : Int32)) (dflt := 69) (lo := 0) (hi := 3) (offs := #[29, 39, 49, 59]) (len := 29) (off := 49) B 80 (by decide +kernel) h31_2 (by decide) (by decide) (by decide +kernel) (by decide) ?_
      refine aw_aload_n (k0 := 0) B 0 (by decide +kernel) rfl rfl ?_
      refine aw_aload_n (k0 := 0) B 0 (by decide +kernel) rfl rfl ?_
      refine aw_geti (c := 47) B lkX11_360 (by decide +kernel) rfl ?_
      refine aw_iload_n (k0 := 3) B 3 (by decide +kernel) rfl rfl ?_
      refine aw_cVI B (c_X11_asksAs (eLa E) hG FD (M5.1 47 44) v3 M5) cvX11_363 rfl rfl (Nat.le_of_ble_eq_true rfl) rfl (Nat.le_of_ble_eq_true rfl) (by decide +kernel) rfl (fun x10 M11 => ?_)
      exact aw_ireturn B (by decide +kernel) rfl
    refine aw_ite (fun h31_3 => ?_) (fun h31_3 => ?_)
    · refine aw_tin (k0 := (3 : Int32)) (dflt := 69) (lo := 0) (hi := 3) (offs := #[29, 39, 49, 59]) (len := 29) (off := 59) B 90 (by decide +kernel) h31_3 (by decide) (by decide) (by decide +kernel) (by decide) ?_
      refine aw_aload_n (k0 := 0) B 0 (by decide +kernel) rfl rfl ?_
      refine aw_aload_n (k0 := 0) B 0 (by decide +kernel) rfl rfl ?_
      refine aw_geti (c := 47) B lkX11_360 (by decide +kernel) rfl ?_
      refine aw_iload_n (k0 := 3) B 3 (by decide +kernel) rfl rfl ?_
      refine aw_cVI B (c_X11_tellsAs (eLa E) hG FD (M5.1 47 44) v3 M5) cvX11_366 rfl rfl (Nat.le_of_ble_eq_true rfl) rfl (Nat.le_of_ble_eq_true rfl) (by decide +kernel) rfl (fun x12 M13 => ?_)
      exact aw_ireturn B (by decide +kernel) rfl
    · refine aw_tout (dflt := 69) (lo := 0) (hi := 3) (offs := #[29, 39, 49, 59]) (len := 29) B 100 (by decide +kernel) (by have qh31_0 := lv_neT (a := 0) h31_0 (by decide); have qh31_1 := lv_neT (a := 1) h31_1 (by decide); have qh31_2 := lv_neT (a := 2) h31_2 (by decide); have qh31_3 := lv_neT (a := 3) h31_3 (by decide); omega) (by decide) ?_
      refine aw_iconst (n := 0) (v := (0 : Int32)) B (by decide +kernel) (by decide) ?_
      exact aw_ireturn B (by decide +kernel) rfl
  · refine aw_iconst (n := 0) (v := (0 : Int32)) B (by decide +kernel) (by decide) ?_
    exact aw_ireturn B (by decide +kernel) rfl
theorem c_X11_act (l : Launch) {G : GW} (hG : ab_ok G) (v1 : Int32) (v2 : Int32) (v3 : Int32) (M : Mem) : AC l G yX11_act cX11_act 4 (some .int) 167 [.ref 47, .int v1, .int v2, .int v3] M embI (f_X11_act v1 v2 v3 M) := AC.of hG (by decide) (Nat.le_of_ble_eq_true rfl) (fun E hE B => by subst hE; exact w_X11_act hG B v1 v2 v3 M)
def f_X1_kept (M : Mem) : Option Int32 := (some (ab_min (M.1 40 1) (24 : Int32)))
set_option maxRecDepth 100000 in
set_option maxHeartbeats 4000000 in
theorem w_X1_kept {G : GW} {E : EE} (hG : ab_ok G) (B : Bx G E RX1 cX1_kept 1 2 (some .int)) (M : Mem) : AWo G E cX1_kept 1 (ab_Q G E (embRI M)) 0 [(0, .ref 40)] [] M (f_X1_kept M) := by
  unfold f_X1_kept
  refine aw_aload_n (k0 := 0) B 0 (by decide +kernel) rfl rfl ?_
  refine aw_geti (c := 40) B lkX1_32 (by decide +kernel) rfl ?_
  refine aw_bipush (n := 24) (v := (24 : Int32)) B (by decide +kernel) (by decide) ?_
  refine aw_min B lxX1_35 (by decide +kernel) (Nat.le_of_ble_eq_true rfl) (Nat.le_of_ble_eq_true rfl) ?_
  exact aw_ireturn B (by decide +kernel) rfl
theorem c_X1_kept (l : Launch) {G : GW} (hG : ab_ok G) (M : Mem) : AC l G yX1_kept cX1_kept 1 (some .int) 2 [.ref 40] M (embRI M) (f_X1_kept M) := AC.of hG (by decide) (Nat.le_of_ble_eq_true rfl) (fun E hE B => by subst hE; exact w_X1_kept hG B M)
def f_X10_trace (v1 : Int32) (M : Mem) : Option Int32 := (if v1 < 0 then (some (-1 : Int32)) else (f_X1_kept M).bind fun x1 => (if v1 < x1 then ck (okI 41 v1) ((some (M.1 41 v1.toNatClampNeg))) else (some (-1 : Int32))))
set_option maxRecDepth 100000 in
set_option maxHeartbeats 4000000 in
theorem w_X10_trace {G : GW} {E : EE} (hG : ab_ok G) (B : Bx G E RX10 cX10_trace 2 3 (some .int)) (v1 : Int32) (M : Mem) : AWo G E cX10_trace 2 (ab_Q G E (embRI M)) 0 [(0, .ref 0), (1, .int v1)] [] M (f_X10_trace v1 M) := by
  unfold f_X10_trace
  refine aw_iload_n (k0 := 1) B 1 (by decide +kernel) rfl rfl ?_
  refine aw_if_lt (off := 14) B 15 (by decide +kernel) (by decide) (fun _ => ?_) (fun _ => ?_)
  · refine aw_iconst (n := -1) (v := (-1 : Int32)) B (by decide +kernel) (by decide) ?_
    exact aw_ireturn B (by decide +kernel) rfl
  · refine aw_iload_n (k0 := 1) B 1 (by decide +kernel) rfl rfl ?_
    refine aw_aload_n (k0 := 0) B 0 (by decide +kernel) rfl rfl ?_
    refine aw_getr (c := 0) B lkX10_68 (by decide +kernel) rfl (r := 40) rfl ?_
    refine aw_cVR B (c_X1_kept (eLa E) hG M) cvX10_337 rfl rfl (Nat.le_of_ble_eq_true rfl) rfl (Nat.le_of_ble_eq_true rfl) (by decide +kernel) rfl (fun x1 => ?_)
    refine aw_icmp_lt (off := 5) B 17 (by decide +kernel) (by decide) (fun _ => ?_) (fun _ => ?_)
    · refine aw_aload_n (k0 := 0) B 0 (by decide +kernel) rfl rfl ?_
      refine aw_getr (c := 0) B lkX10_68 (by decide +kernel) rfl (r := 40) rfl ?_
      refine aw_getr (c := 40) B lkX10_340 (by decide +kernel) rfl (r := 41) rfl ?_
      refine aw_iload_n (k0 := 1) B 1 (by decide +kernel) rfl rfl ?_
      refine aw_iaload B (by decide +kernel) ?_
      exact aw_ireturn B (by decide +kernel) rfl
    · refine aw_iconst (n := -1) (v := (-1 : Int32)) B (by decide +kernel) (by decide) ?_
      exact aw_ireturn B (by decide +kernel) rfl
theorem c_X10_trace (l : Launch) {G : GW} (hG : ab_ok G) (v1 : Int32) (M : Mem) : AC l G yX10_trace cX10_trace 2 (some .int) 3 [.ref 0, .int v1] M (embRI M) (f_X10_trace v1 M) := AC.of hG (by decide) (Nat.le_of_ble_eq_true rfl) (fun E hE B => by subst hE; exact w_X10_trace hG B v1 M)
def f_X11_trace (v1 : Int32) (M : Mem) : Option Int32 := (if v1 < 0 then (some (-1 : Int32)) else (if (M.1 47 43) ≤ v1 then (some (-1 : Int32)) else (if (24 : Int32) ≤ v1 then (some (-1 : Int32)) else ck (okI 72 v1) ((some (M.1 72 v1.toNatClampNeg))))))
set_option maxRecDepth 100000 in
set_option maxHeartbeats 4000000 in
theorem w_X11_trace {G : GW} {E : EE} (hG : ab_ok G) (B : Bx G E RX11 cX11_trace 2 2 (some .int)) (v1 : Int32) (M : Mem) : AWo G E cX11_trace 2 (ab_Q G E (embRI M)) 0 [(0, .ref 47), (1, .int v1)] [] M (f_X11_trace v1 M) := by
  unfold f_X11_trace
  refine aw_iload_n (k0 := 1) B 1 (by decide +kernel) rfl rfl ?_
  refine aw_if_lt (off := 26) B 27 (by decide +kernel) (by decide) (fun _ => ?_) (fun _ => ?_)
  · refine aw_iconst (n := -1) (v := (-1 : Int32)) B (by decide +kernel) (by decide) ?_
    exact aw_ireturn B (by decide +kernel) rfl
  · refine aw_iload_n (k0 := 1) B 1 (by decide +kernel) rfl rfl ?_
    refine aw_aload_n (k0 := 0) B 0 (by decide +kernel) rfl rfl ?_
    refine aw_geti (c := 47) B lkX11_345 (by decide +kernel) rfl ?_
    refine aw_icmp_ge (off := 18) B 27 (by decide +kernel) (by decide) (fun _ => ?_) (fun _ => ?_)
    · refine aw_iconst (n := -1) (v := (-1 : Int32)) B (by decide +kernel) (by decide) ?_
      exact aw_ireturn B (by decide +kernel) rfl
    · refine aw_iload_n (k0 := 1) B 1 (by decide +kernel) rfl rfl ?_
      refine aw_bipush (n := 24) (v := (24 : Int32)) B (by decide +kernel) (by decide) ?_
      refine aw_icmp_ge (off := 12) B 27 (by decide +kernel) (by decide) (fun _ => ?_) (fun _ => ?_)
      · refine aw_iconst (n := -1) (v := (-1 : Int32)) B (by decide +kernel) (by decide) ?_
        exact aw_ireturn B (by decide +kernel) rfl
      · refine aw_aload_n (k0 := 0) B 0 (by decide +kernel) rfl rfl ?_
        refine aw_getr (c := 47) B lkX11_84 (by decide +kernel) rfl (r := 72) rfl ?_
        refine aw_iload_n (k0 := 1) B 1 (by decide +kernel) rfl rfl ?_
        refine aw_iaload B (by decide +kernel) ?_
        refine aw_goto (off := 4) B 28 (by decide +kernel) (by decide) ?_
        exact aw_ireturn B (by decide +kernel) rfl
theorem c_X11_trace (l : Launch) {G : GW} (hG : ab_ok G) (v1 : Int32) (M : Mem) : AC l G yX11_trace cX11_trace 2 (some .int) 2 [.ref 47, .int v1] M (embRI M) (f_X11_trace v1 M) := AC.of hG (by decide) (Nat.le_of_ble_eq_true rfl) (fun E hE B => by subst hE; exact w_X11_trace hG B v1 M)
def f_X9_holdNothing (v1 : Int32) (M : Mem) : Option Mem := ck (okI 44 v1) (lt (wI M 44 v1.toNatClampNeg (6 : Int32)) fun M1 => (some M1))
set_option maxRecDepth 100000 in
set_option maxHeartbeats 4000000 in
theorem w_X9_holdNothing {G : GW} {E : EE} (hG : ab_ok G) (B : Bx G E RX9 cX9_holdNothing 2 2 none) (v1 : Int32) (M : Mem) : AWo G E cX9_holdNothing 2 (ab_Q G E embV) 0 [(0, .ref 43), (1, .int v1)] [] M (f_X9_holdNothing v1 M) := by
  unfold f_X9_holdNothing
  refine aw_aload_n (k0 := 0) B 0 (by decide +kernel) rfl rfl ?_
  refine aw_getr (c := 43) B lkX9_11 (by decide +kernel) rfl (r := 44) rfl ?_
  refine aw_iload_n (k0 := 1) B 1 (by decide +kernel) rfl rfl ?_
  refine aw_bipush (n := 6) (v := (6 : Int32)) B (by decide +kernel) (by decide) ?_
  refine aw_iastore B (by decide +kernel) (fun M1 => ?_)
  exact aw_vreturn B (by decide +kernel) rfl
theorem c_X9_holdNothing (l : Launch) {G : GW} (hG : ab_ok G) (v1 : Int32) (M : Mem) : AC l G yX9_holdNothing cX9_holdNothing 2 none 2 [.ref 43, .int v1] M embV (f_X9_holdNothing v1 M) := AC.of hG (by decide) (Nat.le_of_ble_eq_true rfl) (fun E hE B => by subst hE; exact w_X9_holdNothing hG B v1 M)
def f_X9_holdBody (v1 : Int32) (v2 : Int32) (M : Mem) : Option Mem := ck (okI 44 v1) (lt (wI M 44 v1.toNatClampNeg (5 : Int32)) fun M1 => ck (okI 45 v1) (lt (wI M1 45 v1.toNatClampNeg v2) fun M2 => (some M2)))
set_option maxRecDepth 100000 in
set_option maxHeartbeats 4000000 in
theorem w_X9_holdBody {G : GW} {E : EE} (hG : ab_ok G) (B : Bx G E RX9 cX9_holdBody 3 2 none) (v1 : Int32) (v2 : Int32) (M : Mem) : AWo G E cX9_holdBody 3 (ab_Q G E embV) 0 [(0, .ref 43), (1, .int v1), (2, .int v2)] [] M (f_X9_holdBody v1 v2 M) := by
  unfold f_X9_holdBody
  refine aw_aload_n (k0 := 0) B 0 (by decide +kernel) rfl rfl ?_
  refine aw_getr (c := 43) B lkX9_11 (by decide +kernel) rfl (r := 44) rfl ?_
  refine aw_iload_n (k0 := 1) B 1 (by decide +kernel) rfl rfl ?_
  refine aw_iconst (n := 5) (v := (5 : Int32)) B (by decide +kernel) (by decide) ?_
  refine aw_iastore B (by decide +kernel) (fun M1 => ?_)
  refine aw_aload_n (k0 := 0) B 0 (by decide +kernel) rfl rfl ?_
  refine aw_getr (c := 43) B lkX9_15 (by decide +kernel) rfl (r := 45) rfl ?_
  refine aw_iload_n (k0 := 1) B 1 (by decide +kernel) rfl rfl ?_
  refine aw_iload_n (k0 := 2) B 2 (by decide +kernel) rfl rfl ?_
  refine aw_iastore B (by decide +kernel) (fun M2 => ?_)
  exact aw_vreturn B (by decide +kernel) rfl
theorem c_X9_holdBody (l : Launch) {G : GW} (hG : ab_ok G) (v1 : Int32) (v2 : Int32) (M : Mem) : AC l G yX9_holdBody cX9_holdBody 3 none 2 [.ref 43, .int v1, .int v2] M embV (f_X9_holdBody v1 v2 M) := AC.of hG (by decide) (Nat.le_of_ble_eq_true rfl) (fun E hE B => by subst hE; exact w_X9_holdBody hG B v1 v2 M)
def f_X10_keep_b25 (v1 : Int32) (v2 : Int32) (M : Mem) : Option (Int32 × Mem) := (if v2 = (-1 : Int32) then (f_X9_holdNothing v1 M).bind fun M4 => (some ((1 : Int32), M4)) else (f_X9_holdBody v1 v2 M).bind fun M2 => (some ((1 : Int32), M2)))
set_option maxRecDepth 100000 in
set_option maxHeartbeats 4000000 in
theorem w_X10_keep_b25 {G : GW} {E : EE} (hG : ab_ok G) (B : Bx G E RX10 cX10_keep 3 3 (some .int)) (v1 : Int32) (v2 : Int32) (M : Mem) : AWo G E cX10_keep 3 (ab_Q G E embI) 25 [(0, .ref 0), (1, .int v1), (2, .int v2)] [] M (f_X10_keep_b25 v1 v2 M) := by
  unfold f_X10_keep_b25
  refine aw_iload_n (k0 := 2) B 2 (by decide +kernel) rfl rfl ?_
  refine aw_iconst (n := -1) (v := (-1 : Int32)) B (by decide +kernel) (by decide) ?_
  refine aw_icmp_ne (off := 14) B 41 (by decide +kernel) (by decide) (fun _ => ?_) (fun _ => ?_)
  · refine aw_aload_n (k0 := 0) B 0 (by decide +kernel) rfl rfl ?_
    refine aw_getr (c := 0) B lkX10_75 (by decide +kernel) rfl (r := 43) rfl ?_
    refine aw_iload_n (k0 := 1) B 1 (by decide +kernel) rfl rfl ?_
    refine aw_iload_n (k0 := 2) B 2 (by decide +kernel) rfl rfl ?_
    refine aw_cVV B (c_X9_holdBody (eLa E) hG v1 v2 M) cvX10_348 rfl rfl (Nat.le_of_ble_eq_true rfl) rfl (Nat.le_of_ble_eq_true rfl) (by decide +kernel) rfl (fun M2 => ?_)
    refine aw_iconst (n := 1) (v := (1 : Int32)) B (by decide +kernel) (by decide) ?_
    exact aw_ireturn B (by decide +kernel) rfl
  · refine aw_aload_n (k0 := 0) B 0 (by decide +kernel) rfl rfl ?_
    refine aw_getr (c := 0) B lkX10_75 (by decide +kernel) rfl (r := 43) rfl ?_
    refine aw_iload_n (k0 := 1) B 1 (by decide +kernel) rfl rfl ?_
    refine aw_cVV B (c_X9_holdNothing (eLa E) hG v1 M) cvX10_344 rfl rfl (Nat.le_of_ble_eq_true rfl) rfl (Nat.le_of_ble_eq_true rfl) (by decide +kernel) rfl (fun M4 => ?_)
    refine aw_goto (off := 12) B 50 (by decide +kernel) (by decide) ?_
    refine aw_iconst (n := 1) (v := (1 : Int32)) B (by decide +kernel) (by decide) ?_
    exact aw_ireturn B (by decide +kernel) rfl
def f_X10_keep (v1 : Int32) (v2 : Int32) (M : Mem) : Option (Int32 × Mem) := (f_X9_isShelf v1).bind fun x1 => (if x1 = 0 then (some ((-1 : Int32), M)) else (if v2 = (-1 : Int32) then f_X10_keep_b25 v1 v2 M else (f_X1_has v2 M).bind fun x3 => (if x3 = 0 then (some ((-1 : Int32), M)) else f_X10_keep_b25 v1 v2 M)))
set_option maxRecDepth 100000 in
set_option maxHeartbeats 4000000 in
theorem w_X10_keep {G : GW} {E : EE} (hG : ab_ok G) (B : Bx G E RX10 cX10_keep 3 3 (some .int)) (v1 : Int32) (v2 : Int32) (M : Mem) : AWo G E cX10_keep 3 (ab_Q G E embI) 0 [(0, .ref 0), (1, .int v1), (2, .int v2)] [] M (f_X10_keep v1 v2 M) := by
  unfold f_X10_keep
  refine aw_iload_n (k0 := 1) B 1 (by decide +kernel) rfl rfl ?_
  refine aw_cSR B (c_X9_isShelf (eLa E) hG v1 M) csX10_94 (Nat.le_of_ble_eq_true rfl) rfl (Nat.le_of_ble_eq_true rfl) (by decide +kernel) rfl (fun x1 => ?_)
  refine aw_if_eq (off := 19) B 23 (by decide +kernel) (by decide) (fun _ => ?_) (fun _ => ?_)
  · refine aw_iconst (n := -1) (v := (-1 : Int32)) B (by decide +kernel) (by decide) ?_
    exact aw_ireturn B (by decide +kernel) rfl
  · refine aw_iload_n (k0 := 2) B 2 (by decide +kernel) rfl rfl ?_
    refine aw_iconst (n := -1) (v := (-1 : Int32)) B (by decide +kernel) (by decide) ?_
    refine aw_icmp_eq (off := 16) B 25 (by decide +kernel) (by decide) (fun _ => ?_) (fun _ => ?_)
    · exact w_X10_keep_b25 hG B _ _ _
    · refine aw_aload_n (k0 := 0) B 0 (by decide +kernel) rfl rfl ?_
      refine aw_getr (c := 0) B lkX10_68 (by decide +kernel) rfl (r := 40) rfl ?_
      refine aw_iload_n (k0 := 2) B 2 (by decide +kernel) rfl rfl ?_
      refine aw_cVR B (c_X1_has (eLa E) hG v2 M) cvX10_343 rfl rfl (Nat.le_of_ble_eq_true rfl) rfl (Nat.le_of_ble_eq_true rfl) (by decide +kernel) rfl (fun x3 => ?_)
      refine aw_if_ne (off := 5) B 25 (by decide +kernel) (by decide) (fun _ => ?_) (fun _ => ?_)
      · exact w_X10_keep_b25 hG B _ _ _
      · refine aw_iconst (n := -1) (v := (-1 : Int32)) B (by decide +kernel) (by decide) ?_
        exact aw_ireturn B (by decide +kernel) rfl
theorem c_X10_keep (l : Launch) {G : GW} (hG : ab_ok G) (v1 : Int32) (v2 : Int32) (M : Mem) : AC l G yX10_keep cX10_keep 3 (some .int) 3 [.ref 0, .int v1, .int v2] M embI (f_X10_keep v1 v2 M) := AC.of hG (by decide) (Nat.le_of_ble_eq_true rfl) (fun E hE B => by subst hE; exact w_X10_keep hG B v1 v2 M)
def f_X11_keep_b22 (v1 : Int32) (v2 : Int32) (M : Mem) : Option (Int32 × Mem) := ck (okI 73 v1) (lt (wI M 73 v1.toNatClampNeg v2) fun M1 => ck (okI 74 v1) (lt (wI M1 74 v1.toNatClampNeg (0 : Int32)) fun M2 => (some ((1 : Int32), M2))))
set_option maxRecDepth 100000 in
set_option maxHeartbeats 4000000 in
theorem w_X11_keep_b22 {G : GW} {E : EE} (hG : ab_ok G) (B : Bx G E RX11 cX11_keep 3 4 (some .int)) (v1 : Int32) (v2 : Int32) (M : Mem) : AWo G E cX11_keep 3 (ab_Q G E embI) 22 [(0, .ref 47), (1, .int v1), (2, .int v2)] [] M (f_X11_keep_b22 v1 v2 M) := by
  unfold f_X11_keep_b22
  refine aw_aload_n (k0 := 0) B 0 (by decide +kernel) rfl rfl ?_
  refine aw_getr (c := 47) B lkX11_87 (by decide +kernel) rfl (r := 73) rfl ?_
  refine aw_iload_n (k0 := 1) B 1 (by decide +kernel) rfl rfl ?_
  refine aw_iload_n (k0 := 2) B 2 (by decide +kernel) rfl rfl ?_
  refine aw_iastore B (by decide +kernel) (fun M1 => ?_)
  refine aw_aload_n (k0 := 0) B 0 (by decide +kernel) rfl rfl ?_
  refine aw_getr (c := 47) B lkX11_90 (by decide +kernel) rfl (r := 74) rfl ?_
  refine aw_iload_n (k0 := 1) B 1 (by decide +kernel) rfl rfl ?_
  refine aw_iconst (n := 0) (v := (0 : Int32)) B (by decide +kernel) (by decide) ?_
  refine aw_iastore B (by decide +kernel) (fun M2 => ?_)
  refine aw_iconst (n := 1) (v := (1 : Int32)) B (by decide +kernel) (by decide) ?_
  exact aw_ireturn B (by decide +kernel) rfl
def f_X11_keep (v1 : Int32) (v2 : Int32) (M : Mem) : Option (Int32 × Mem) := (f_X11_isShelf v1).bind fun x1 => (if x1 = 0 then (some ((-1 : Int32), M)) else (if v2 = (-1 : Int32) then f_X11_keep_b22 v1 v2 M else (f_X11_isBody v2 M).bind fun x3 => (if x3 = 0 then (some ((-1 : Int32), M)) else f_X11_keep_b22 v1 v2 M)))
set_option maxRecDepth 100000 in
set_option maxHeartbeats 4000000 in
theorem w_X11_keep {G : GW} {E : EE} (hG : ab_ok G) (B : Bx G E RX11 cX11_keep 3 4 (some .int)) (v1 : Int32) (v2 : Int32) (M : Mem) : AWo G E cX11_keep 3 (ab_Q G E embI) 0 [(0, .ref 47), (1, .int v1), (2, .int v2)] [] M (f_X11_keep v1 v2 M) := by
  unfold f_X11_keep
  refine aw_iload_n (k0 := 1) B 1 (by decide +kernel) rfl rfl ?_
  refine aw_cSR B (c_X11_isShelf (eLa E) hG v1 M) csX11_129 (Nat.le_of_ble_eq_true rfl) rfl (Nat.le_of_ble_eq_true rfl) (by decide +kernel) rfl (fun x1 => ?_)
  refine aw_if_eq (off := 16) B 20 (by decide +kernel) (by decide) (fun _ => ?_) (fun _ => ?_)
  · refine aw_iconst (n := -1) (v := (-1 : Int32)) B (by decide +kernel) (by decide) ?_
    exact aw_ireturn B (by decide +kernel) rfl
  · refine aw_iload_n (k0 := 2) B 2 (by decide +kernel) rfl rfl ?_
    refine aw_iconst (n := -1) (v := (-1 : Int32)) B (by decide +kernel) (by decide) ?_
    refine aw_icmp_eq (off := 13) B 22 (by decide +kernel) (by decide) (fun _ => ?_) (fun _ => ?_)
    · exact w_X11_keep_b22 hG B _ _ _
    · refine aw_aload_n (k0 := 0) B 0 (by decide +kernel) rfl rfl ?_
      refine aw_iload_n (k0 := 2) B 2 (by decide +kernel) rfl rfl ?_
      refine aw_cVR B (c_X11_isBody (eLa E) hG v2 M) cvX11_369 rfl rfl (Nat.le_of_ble_eq_true rfl) rfl (Nat.le_of_ble_eq_true rfl) (by decide +kernel) rfl (fun x3 => ?_)
      refine aw_if_ne (off := 5) B 22 (by decide +kernel) (by decide) (fun _ => ?_) (fun _ => ?_)
      · exact w_X11_keep_b22 hG B _ _ _
      · refine aw_iconst (n := -1) (v := (-1 : Int32)) B (by decide +kernel) (by decide) ?_
        exact aw_ireturn B (by decide +kernel) rfl
theorem c_X11_keep (l : Launch) {G : GW} (hG : ab_ok G) (v1 : Int32) (v2 : Int32) (M : Mem) : AC l G yX11_keep cX11_keep 3 (some .int) 4 [.ref 47, .int v1, .int v2] M embI (f_X11_keep v1 v2 M) := AC.of hG (by decide) (Nat.le_of_ble_eq_true rfl) (fun E hE B => by subst hE; exact w_X11_keep hG B v1 v2 M)
def f_X9_holdRow (v1 : Int32) (v2 : Int32) (v3 : Int32) (M : Mem) : Option Mem := ck (okI 44 v1) (lt (wI M 44 v1.toNatClampNeg v2) fun M1 => ck (okI 45 v1) (lt (wI M1 45 v1.toNatClampNeg v3) fun M2 => (f_J7_fill_bad5a 46 (v1 * (60 : Int32)) ((v1 * (60 : Int32)) + v3) (0 : Int64) M2).bind fun M4 => (some M4)))
set_option maxRecDepth 100000 in
set_option maxHeartbeats 4000000 in
theorem w_X9_holdRow {G : GW} {E : EE} (hG : ab_ok G) (B : Bx G E RX9 cX9_holdRow 4 4 none) (v1 : Int32) (v2 : Int32) (v3 : Int32) (M : Mem) : AWo G E cX9_holdRow 4 (ab_Q G E embV) 0 [(0, .ref 43), (1, .int v1), (2, .int v2), (3, .int v3)] [] M (f_X9_holdRow v1 v2 v3 M) := by
  unfold f_X9_holdRow
  refine aw_aload_n (k0 := 0) B 0 (by decide +kernel) rfl rfl ?_
  refine aw_getr (c := 43) B lkX9_11 (by decide +kernel) rfl (r := 44) rfl ?_
  refine aw_iload_n (k0 := 1) B 1 (by decide +kernel) rfl rfl ?_
  refine aw_iload_n (k0 := 2) B 2 (by decide +kernel) rfl rfl ?_
  refine aw_iastore B (by decide +kernel) (fun M1 => ?_)
  refine aw_aload_n (k0 := 0) B 0 (by decide +kernel) rfl rfl ?_
  refine aw_getr (c := 43) B lkX9_15 (by decide +kernel) rfl (r := 45) rfl ?_
  refine aw_iload_n (k0 := 1) B 1 (by decide +kernel) rfl rfl ?_
  refine aw_iload_n (k0 := 3) B 3 (by decide +kernel) rfl rfl ?_
  refine aw_iastore B (by decide +kernel) (fun M2 => ?_)
  refine aw_aload_n (k0 := 0) B 0 (by decide +kernel) rfl rfl ?_
  refine aw_getr (c := 43) B lkX9_18 (by decide +kernel) rfl (r := 46) rfl ?_
  refine aw_iload_n (k0 := 1) B 1 (by decide +kernel) rfl rfl ?_
  refine aw_bipush (n := 60) (v := (60 : Int32)) B (by decide +kernel) (by decide) ?_
  refine aw_imul B (by decide +kernel) ?_
  refine aw_iload_n (k0 := 1) B 1 (by decide +kernel) rfl rfl ?_
  refine aw_bipush (n := 60) (v := (60 : Int32)) B (by decide +kernel) (by decide) ?_
  refine aw_imul B (by decide +kernel) ?_
  refine aw_iload_n (k0 := 3) B 3 (by decide +kernel) rfl rfl ?_
  refine aw_iadd B (by decide +kernel) ?_
  refine aw_lconst (n := 0) (v := (0 : Int64)) B (by decide +kernel) (by decide) ?_
  refine aw_cSV B (c_J7_fill_bad5a (eLa E) hG 46 (v1 * (60 : Int32)) ((v1 * (60 : Int32)) + v3) (0 : Int64) M2) csX9_26 (Nat.le_of_ble_eq_true rfl) rfl (Nat.le_of_ble_eq_true rfl) (by decide +kernel) rfl (fun M4 => ?_)
  exact aw_vreturn B (by decide +kernel) rfl
theorem c_X9_holdRow (l : Launch) {G : GW} (hG : ab_ok G) (v1 : Int32) (v2 : Int32) (v3 : Int32) (M : Mem) : AC l G yX9_holdRow cX9_holdRow 4 none 4 [.ref 43, .int v1, .int v2, .int v3] M embV (f_X9_holdRow v1 v2 v3 M) := AC.of hG (by decide) (Nat.le_of_ble_eq_true rfl) (fun E hE B => by subst hE; exact w_X9_holdRow hG B v1 v2 v3 M)
def f_X10_row (v1 : Int32) (v2 : Int32) (v3 : Int32) (M : Mem) : Option (Int32 × Mem) := (f_X9_isShelf v1).bind fun x1 => (if x1 = 0 then (some ((-1 : Int32), M)) else (f_X9_isSort v2).bind fun x3 => (if x3 = 0 then (some ((-1 : Int32), M)) else (if v3 ≤ (60 : Int32) then (if 0 ≤ v3 then (f_X9_holdRow v1 v2 v3 M).bind fun M6 => (some ((1 : Int32), M6)) else (some ((-14 : Int32), M))) else (some ((-1 : Int32), M)))))
set_option maxRecDepth 100000 in
set_option maxHeartbeats 4000000 in
theorem w_X10_row {G : GW} {E : EE} (hG : ab_ok G) (B : Bx G E RX10 cX10_row 4 5 (some .int)) (v1 : Int32) (v2 : Int32) (v3 : Int32) (M : Mem) : AWo G E cX10_row 4 (ab_Q G E embI) 0 [(0, .ref 0), (1, .int v1), (2, .int v2), (3, .int v3)] [] M (f_X10_row v1 v2 v3 M) := by
  unfold f_X10_row
  refine aw_iload_n (k0 := 1) B 1 (by decide +kernel) rfl rfl ?_
  refine aw_cSR B (c_X9_isShelf (eLa E) hG v1 M) csX10_94 (Nat.le_of_ble_eq_true rfl) rfl (Nat.le_of_ble_eq_true rfl) (by decide +kernel) rfl (fun x1 => ?_)
  refine aw_if_eq (off := 16) B 20 (by decide +kernel) (by decide) (fun _ => ?_) (fun _ => ?_)
  · refine aw_iconst (n := -1) (v := (-1 : Int32)) B (by decide +kernel) (by decide) ?_
    exact aw_ireturn B (by decide +kernel) rfl
  · refine aw_iload_n (k0 := 2) B 2 (by decide +kernel) rfl rfl ?_
    refine aw_cSR B (c_X9_isSort (eLa E) hG v2 M) csX10_351 (Nat.le_of_ble_eq_true rfl) rfl (Nat.le_of_ble_eq_true rfl) (by decide +kernel) rfl (fun x3 => ?_)
    refine aw_if_eq (off := 9) B 20 (by decide +kernel) (by decide) (fun _ => ?_) (fun _ => ?_)
    · refine aw_iconst (n := -1) (v := (-1 : Int32)) B (by decide +kernel) (by decide) ?_
      exact aw_ireturn B (by decide +kernel) rfl
    · refine aw_iload_n (k0 := 3) B 3 (by decide +kernel) rfl rfl ?_
      refine aw_bipush (n := 60) (v := (60 : Int32)) B (by decide +kernel) (by decide) ?_
      refine aw_icmp_le (off := 5) B 22 (by decide +kernel) (by decide) (fun _ => ?_) (fun _ => ?_)
      · refine aw_iload_n (k0 := 3) B 3 (by decide +kernel) rfl rfl ?_
        refine aw_if_ge (off := 6) B 29 (by decide +kernel) (by decide) (fun _ => ?_) (fun _ => ?_)
        · refine aw_aload_n (k0 := 0) B 0 (by decide +kernel) rfl rfl ?_
          refine aw_getr (c := 0) B lkX10_75 (by decide +kernel) rfl (r := 43) rfl ?_
          refine aw_iload_n (k0 := 1) B 1 (by decide +kernel) rfl rfl ?_
          refine aw_iload_n (k0 := 2) B 2 (by decide +kernel) rfl rfl ?_
          refine aw_iload_n (k0 := 3) B 3 (by decide +kernel) rfl rfl ?_
          refine aw_cVV B (c_X9_holdRow (eLa E) hG v1 v2 v3 M) cvX10_354 rfl rfl (Nat.le_of_ble_eq_true rfl) rfl (Nat.le_of_ble_eq_true rfl) (by decide +kernel) rfl (fun M6 => ?_)
          refine aw_iconst (n := 1) (v := (1 : Int32)) B (by decide +kernel) (by decide) ?_
          exact aw_ireturn B (by decide +kernel) rfl
        · refine aw_bipush (n := -14) (v := (-14 : Int32)) B (by decide +kernel) (by decide) ?_
          exact aw_ireturn B (by decide +kernel) rfl
      · refine aw_iconst (n := -1) (v := (-1 : Int32)) B (by decide +kernel) (by decide) ?_
        exact aw_ireturn B (by decide +kernel) rfl
theorem c_X10_row (l : Launch) {G : GW} (hG : ab_ok G) (v1 : Int32) (v2 : Int32) (v3 : Int32) (M : Mem) : AC l G yX10_row cX10_row 4 (some .int) 5 [.ref 0, .int v1, .int v2, .int v3] M embI (f_X10_row v1 v2 v3 M) := AC.of hG (by decide) (Nat.le_of_ble_eq_true rfl) (fun E hE B => by subst hE; exact w_X10_row hG B v1 v2 v3 M)
def f_X11_row_L57 : Nat → Int32 → Int32 → Mem → Option (Int32 × Mem)
  | 0, _, _, _ => none
  | n + 1, v1, v4, M => (if (((60 : Int32) * v1) + (60 : Int32)) ≤ v4 then (some ((1 : Int32), M)) else ck (okL 75 v4) (lt (wL M 75 v4.toNatClampNeg (0 : Int64)) fun M1 => f_X11_row_L57 n v1 (v4 + 1) M1))
set_option maxRecDepth 100000 in
set_option maxHeartbeats 4000000 in
theorem w_X11_row_L57 {G : GW} {E : EE} (hG : ab_ok G) (B : Bx G E RX11 cX11_row 5 4 (some .int)) : ∀ (n : Nat) (v1 : Int32) (v4 : Int32) (M : Mem), AWo G E cX11_row 5 (ab_Q G E embI) 57 [(0, .ref 47), (1, .int v1), (4, .int v4)] [] M (f_X11_row_L57 n v1 v4 M) := by
  intro n
  induction n with
  | zero => intro _ _ _; exact aw_none
  | succ n ih =>
    intro v1 v4 M
    rw [f_X11_row_L57]
    refine aw_iload (i := 4) B 2 (by decide +kernel) rfl ?_
    refine aw_bipush (n := 60) (v := (60 : Int32)) B (by decide +kernel) (by decide) ?_
    refine aw_iload_n (k0 := 1) B 1 (by decide +kernel) rfl rfl ?_
    refine aw_imul B (by decide +kernel) ?_
    refine aw_bipush (n := 60) (v := (60 : Int32)) B (by decide +kernel) (by decide) ?_
    refine aw_iadd B (by decide +kernel) ?_
    refine aw_icmp_ge (off := 17) B 83 (by decide +kernel) (by decide) (fun _ => ?_) (fun _ => ?_)
    · refine aw_iconst (n := 1) (v := (1 : Int32)) B (by decide +kernel) (by decide) ?_
      exact aw_ireturn B (by decide +kernel) rfl
    · refine aw_aload_n (k0 := 0) B 0 (by decide +kernel) rfl rfl ?_
      refine aw_getr (c := 47) B lkX11_93 (by decide +kernel) rfl (r := 75) rfl ?_
      refine aw_iload (i := 4) B 2 (by decide +kernel) rfl ?_
      refine aw_lconst (n := 0) (v := (0 : Int64)) B (by decide +kernel) (by decide) ?_
      refine aw_lastore B (by decide +kernel) (fun M1 => ?_)
      refine aw_iinc (i := 4) (n := 1) B 2 [(4, .int (v4 + 1)), (0, .ref 47), (1, .int v1)] (by decide +kernel) rfl (Nat.le_of_ble_eq_true rfl) (v4 + 1) (ab_inc (by decide)) rfl ?_
      refine aw_goto (off := -23) B 57 (by decide +kernel) (by decide) ?_
      exact aw_sub [1, 2, 0] rfl (ih _ _ _)
def f_X11_row (v1 : Int32) (v2 : Int32) (v3 : Int32) (M : Mem) : Option (Int32 × Mem) := (f_X11_isShelf v1).bind fun x1 => (if x1 = 0 then (some ((-1 : Int32), M)) else (f_X11_within v2.toInt64 (0 : Int64) (4 : Int64)).bind fun x3 => (if x3 = 0 then (some ((-1 : Int32), M)) else (if v3 ≤ (60 : Int32) then (if 0 ≤ v3 then ck (okI 73 v1) (lt (wI M 73 v1.toNatClampNeg ((50 : Int32) + v2)) fun M5 => ck (okI 74 v1) (lt (wI M5 74 v1.toNatClampNeg v3) fun M6 => lt ((60 : Int32) * v1) fun x7 => f_X11_row_L57 FU v1 x7 M6)) else (some ((-14 : Int32), M))) else (some ((-1 : Int32), M)))))
set_option maxRecDepth 100000 in
set_option maxHeartbeats 4000000 in
theorem w_X11_row {G : GW} {E : EE} (hG : ab_ok G) (B : Bx G E RX11 cX11_row 5 4 (some .int)) (v1 : Int32) (v2 : Int32) (v3 : Int32) (M : Mem) : AWo G E cX11_row 5 (ab_Q G E embI) 0 [(0, .ref 47), (1, .int v1), (2, .int v2), (3, .int v3)] [] M (f_X11_row v1 v2 v3 M) := by
  unfold f_X11_row
  refine aw_iload_n (k0 := 1) B 1 (by decide +kernel) rfl rfl ?_
  refine aw_cSR B (c_X11_isShelf (eLa E) hG v1 M) csX11_129 (Nat.le_of_ble_eq_true rfl) rfl (Nat.le_of_ble_eq_true rfl) (by decide +kernel) rfl (fun x1 => ?_)
  refine aw_if_eq (off := 21) B 25 (by decide +kernel) (by decide) (fun _ => ?_) (fun _ => ?_)
  · refine aw_iconst (n := -1) (v := (-1 : Int32)) B (by decide +kernel) (by decide) ?_
    exact aw_ireturn B (by decide +kernel) rfl
  · refine aw_iload_n (k0 := 2) B 2 (by decide +kernel) rfl rfl ?_
    refine aw_i2l B (by decide +kernel) ?_
    refine aw_lconst (n := 0) (v := (0 : Int64)) B (by decide +kernel) (by decide) ?_
    refine aw_ldc2 B (by decide +kernel) lwX11_334 ?_
    refine aw_cSR B (c_X11_within (eLa E) hG v2.toInt64 (0 : Int64) (4 : Int64) M) csX11_112 (Nat.le_of_ble_eq_true rfl) rfl (Nat.le_of_ble_eq_true rfl) (by decide +kernel) rfl (fun x3 => ?_)
    refine aw_if_eq (off := 9) B 25 (by decide +kernel) (by decide) (fun _ => ?_) (fun _ => ?_)
    · refine aw_iconst (n := -1) (v := (-1 : Int32)) B (by decide +kernel) (by decide) ?_
      exact aw_ireturn B (by decide +kernel) rfl
    · refine aw_iload_n (k0 := 3) B 3 (by decide +kernel) rfl rfl ?_
      refine aw_bipush (n := 60) (v := (60 : Int32)) B (by decide +kernel) (by decide) ?_
      refine aw_icmp_le (off := 5) B 27 (by decide +kernel) (by decide) (fun _ => ?_) (fun _ => ?_)
      · refine aw_iload_n (k0 := 3) B 3 (by decide +kernel) rfl rfl ?_
        refine aw_if_ge (off := 6) B 34 (by decide +kernel) (by decide) (fun _ => ?_) (fun _ => ?_)
        · refine aw_aload_n (k0 := 0) B 0 (by decide +kernel) rfl rfl ?_
          refine aw_getr (c := 47) B lkX11_87 (by decide +kernel) rfl (r := 73) rfl ?_
          refine aw_iload_n (k0 := 1) B 1 (by decide +kernel) rfl rfl ?_
          refine aw_bipush (n := 50) (v := (50 : Int32)) B (by decide +kernel) (by decide) ?_
          refine aw_iload_n (k0 := 2) B 2 (by decide +kernel) rfl rfl ?_
          refine aw_iadd B (by decide +kernel) ?_
          refine aw_iastore B (by decide +kernel) (fun M5 => ?_)
          refine aw_aload_n (k0 := 0) B 0 (by decide +kernel) rfl rfl ?_
          refine aw_getr (c := 47) B lkX11_90 (by decide +kernel) rfl (r := 74) rfl ?_
          refine aw_iload_n (k0 := 1) B 1 (by decide +kernel) rfl rfl ?_
          refine aw_iload_n (k0 := 3) B 3 (by decide +kernel) rfl rfl ?_
          refine aw_iastore B (by decide +kernel) (fun M6 => ?_)
          refine aw_bipush (n := 60) (v := (60 : Int32)) B (by decide +kernel) (by decide) ?_
          refine aw_iload_n (k0 := 1) B 1 (by decide +kernel) rfl rfl ?_
          refine aw_imul B (by decide +kernel) ?_
          refine aw_ltI (fun x7 => ?_)
          refine aw_istore (i := 4) B [(4, .int x7), (0, .ref 47), (1, .int v1), (2, .int v2), (3, .int v3)] (by decide +kernel) (Nat.le_of_ble_eq_true rfl) rfl ?_
          exact aw_sub [1, 2, 0] rfl (w_X11_row_L57 hG B FU _ _ _)
        · refine aw_bipush (n := -14) (v := (-14 : Int32)) B (by decide +kernel) (by decide) ?_
          exact aw_ireturn B (by decide +kernel) rfl
      · refine aw_iconst (n := -1) (v := (-1 : Int32)) B (by decide +kernel) (by decide) ?_
        exact aw_ireturn B (by decide +kernel) rfl
theorem c_X11_row (l : Launch) {G : GW} (hG : ab_ok G) (v1 : Int32) (v2 : Int32) (v3 : Int32) (M : Mem) : AC l G yX11_row cX11_row 5 (some .int) 4 [.ref 47, .int v1, .int v2, .int v3] M embI (f_X11_row v1 v2 v3 M) := AC.of hG (by decide) (Nat.le_of_ble_eq_true rfl) (fun E hE B => by subst hE; exact w_X11_row hG B v1 v2 v3 M)
def f_X9_refusal_b48 (M : Mem) : Option Int32 := (some (-13 : Int32))
set_option maxRecDepth 100000 in
set_option maxHeartbeats 4000000 in
theorem w_X9_refusal_b48 {G : GW} {E : EE} (hG : ab_ok G) (M : Mem) (B : Bx G E RX9 cX9_refusal 3 4 (some .int))  : AWo G E cX9_refusal 3 (ab_Q G E (embRI M)) 48 [] [] M (f_X9_refusal_b48 M) := by
  unfold f_X9_refusal_b48
  refine aw_bipush (n := -13) (v := (-13 : Int32)) B (by decide +kernel) (by decide) ?_
  refine aw_goto (off := 4) B 54 (by decide +kernel) (by decide) ?_
  exact aw_ireturn B (by decide +kernel) rfl
def f_X9_refusal (v1 : Int32) (v2 : Int32) (M : Mem) : Option Int32 := (f_X9_isShelf v1).bind fun x1 => (if x1 = 0 then (some (-1 : Int32)) else (f_X9_isEmpty v1 M).bind fun x3 => (if x3 = 0 then ck (okI 44 v1) ((f_X9_isSort (M.1 44 v1.toNatClampNeg)).bind fun x5 => (if x5 = 0 then (some (-12 : Int32)) else (if v2 < 0 then f_X9_refusal_b48 M else (f_X9_lengthOf v1 M).bind fun x7 => (if v2 < x7 then (some (0 : Int32)) else f_X9_refusal_b48 M)))) else (some (-11 : Int32))))
set_option maxRecDepth 100000 in
set_option maxHeartbeats 4000000 in
theorem w_X9_refusal {G : GW} {E : EE} (hG : ab_ok G) (B : Bx G E RX9 cX9_refusal 3 4 (some .int)) (v1 : Int32) (v2 : Int32) (M : Mem) : AWo G E cX9_refusal 3 (ab_Q G E (embRI M)) 0 [(0, .ref 43), (1, .int v1), (2, .int v2)] [] M (f_X9_refusal v1 v2 M) := by
  unfold f_X9_refusal
  refine aw_iload_n (k0 := 1) B 1 (by decide +kernel) rfl rfl ?_
  refine aw_cSR B (c_X9_isShelf (eLa E) hG v1 M) csX9_32 (Nat.le_of_ble_eq_true rfl) rfl (Nat.le_of_ble_eq_true rfl) (by decide +kernel) rfl (fun x1 => ?_)
  refine aw_if_ne (off := 5) B 9 (by decide +kernel) (by decide) (fun _ => ?_) (fun _ => ?_)
  · refine aw_aload_n (k0 := 0) B 0 (by decide +kernel) rfl rfl ?_
    refine aw_iload_n (k0 := 1) B 1 (by decide +kernel) rfl rfl ?_
    refine aw_cVR B (c_X9_isEmpty (eLa E) hG v1 M) cvX9_35 rfl rfl (Nat.le_of_ble_eq_true rfl) rfl (Nat.le_of_ble_eq_true rfl) (by decide +kernel) rfl (fun x3 => ?_)
    refine aw_if_eq (off := 6) B 20 (by decide +kernel) (by decide) (fun _ => ?_) (fun _ => ?_)
    · refine aw_aload_n (k0 := 0) B 0 (by decide +kernel) rfl rfl ?_
      refine aw_getr (c := 43) B lkX9_11 (by decide +kernel) rfl (r := 44) rfl ?_
      refine aw_iload_n (k0 := 1) B 1 (by decide +kernel) rfl rfl ?_
      refine aw_iaload B (by decide +kernel) ?_
      refine aw_cSR B (c_X9_isSort (eLa E) hG (M.1 44 v1.toNatClampNeg) M) csX9_22 (Nat.le_of_ble_eq_true rfl) rfl (Nat.le_of_ble_eq_true rfl) (by decide +kernel) rfl (fun x5 => ?_)
      refine aw_if_ne (off := 6) B 35 (by decide +kernel) (by decide) (fun _ => ?_) (fun _ => ?_)
      · refine aw_iload_n (k0 := 2) B 2 (by decide +kernel) rfl rfl ?_
        refine aw_if_lt (off := 12) B 48 (by decide +kernel) (by decide) (fun _ => ?_) (fun _ => ?_)
        · exact aw_sub [] rfl (w_X9_refusal_b48 hG M B)
        · refine aw_iload_n (k0 := 2) B 2 (by decide +kernel) rfl rfl ?_
          refine aw_aload_n (k0 := 0) B 0 (by decide +kernel) rfl rfl ?_
          refine aw_iload_n (k0 := 1) B 1 (by decide +kernel) rfl rfl ?_
          refine aw_cVR B (c_X9_lengthOf (eLa E) hG v1 M) cvX9_38 rfl rfl (Nat.le_of_ble_eq_true rfl) rfl (Nat.le_of_ble_eq_true rfl) (by decide +kernel) rfl (fun x7 => ?_)
          refine aw_icmp_lt (off := 8) B 53 (by decide +kernel) (by decide) (fun _ => ?_) (fun _ => ?_)
          · refine aw_iconst (n := 0) (v := (0 : Int32)) B (by decide +kernel) (by decide) ?_
            exact aw_ireturn B (by decide +kernel) rfl
          · exact aw_sub [] rfl (w_X9_refusal_b48 hG M B)
      · refine aw_bipush (n := -12) (v := (-12 : Int32)) B (by decide +kernel) (by decide) ?_
        exact aw_ireturn B (by decide +kernel) rfl
    · refine aw_bipush (n := -11) (v := (-11 : Int32)) B (by decide +kernel) (by decide) ?_
      exact aw_ireturn B (by decide +kernel) rfl
  · refine aw_iconst (n := -1) (v := (-1 : Int32)) B (by decide +kernel) (by decide) ?_
    exact aw_ireturn B (by decide +kernel) rfl
theorem c_X9_refusal (l : Launch) {G : GW} (hG : ab_ok G) (v1 : Int32) (v2 : Int32) (M : Mem) : AC l G yX9_refusal cX9_refusal 3 (some .int) 4 [.ref 43, .int v1, .int v2] M (embRI M) (f_X9_refusal v1 v2 M) := AC.of hG (by decide) (Nat.le_of_ble_eq_true rfl) (fun E hE B => by subst hE; exact w_X9_refusal hG B v1 v2 M)
def f_X9_narrowed (v0 : Int32) (v1 : Int64) : Option Int64 := (if v0 = (0 : Int32) then (some v1.toInt32.toInt8.toInt32.toInt64) else if v0 = (1 : Int32) then (some v1.toInt32.toInt16.toInt32.toInt64) else if v0 = (2 : Int32) then (some v1.toInt32.toInt64) else if v0 = (3 : Int32) then (some v1) else (if (lg_cmp v1 (0 : Int64)) = 0 then (some (0 : Int64)) else (some (1 : Int64))))
set_option maxRecDepth 100000 in
set_option maxHeartbeats 4000000 in
theorem w_X9_narrowed {G : GW} {E : EE} (hG : ab_ok G) (B : Bx G E RX9 cX9_narrowed 3 2 (some .long)) (v0 : Int32) (v1 : Int64) (M : Mem) : AWo G E cX9_narrowed 3 (ab_Q G E (embRJ M)) 0 [(0, .int v0), (1, .long v1)] [] M (f_X9_narrowed v0 v1) := by
  unfold f_X9_narrowed
  refine aw_iload_n (k0 := 0) B 0 (by decide +kernel) rfl rfl ?_
  refine aw_ite (fun h1_0 => ?_) (fun h1_0 => ?_)
  · refine aw_tin (k0 := (0 : Int32)) (dflt := 47) (lo := 0) (hi := 3) (offs := #[31, 36, 41, 45]) (len := 31) (off := 31) B 32 (by decide +kernel) h1_0 (by decide) (by decide) (by decide +kernel) (by decide) ?_
    refine aw_lload_n (k0 := 1) B 1 (by decide +kernel) rfl rfl ?_
    refine aw_l2i B (by decide +kernel) ?_
    refine aw_i2b B (by decide +kernel) ?_
    refine aw_i2l B (by decide +kernel) ?_
    exact aw_lreturn B (by decide +kernel) rfl
  refine aw_ite (fun h1_1 => ?_) (fun h1_1 => ?_)
  · refine aw_tin (k0 := (1 : Int32)) (dflt := 47) (lo := 0) (hi := 3) (offs := #[31, 36, 41, 45]) (len := 31) (off := 36) B 37 (by decide +kernel) h1_1 (by decide) (by decide) (by decide +kernel) (by decide) ?_
    refine aw_lload_n (k0 := 1) B 1 (by decide +kernel) rfl rfl ?_
    refine aw_l2i B (by decide +kernel) ?_
    refine aw_i2s B (by decide +kernel) ?_
    refine aw_i2l B (by decide +kernel) ?_
    exact aw_lreturn B (by decide +kernel) rfl
  refine aw_ite (fun h1_2 => ?_) (fun h1_2 => ?_)
  · refine aw_tin (k0 := (2 : Int32)) (dflt := 47) (lo := 0) (hi := 3) (offs := #[31, 36, 41, 45]) (len := 31) (off := 41) B 42 (by decide +kernel) h1_2 (by decide) (by decide) (by decide +kernel) (by decide) ?_
    refine aw_lload_n (k0 := 1) B 1 (by decide +kernel) rfl rfl ?_
    refine aw_l2i B (by decide +kernel) ?_
    refine aw_i2l B (by decide +kernel) ?_
    exact aw_lreturn B (by decide +kernel) rfl
  refine aw_ite (fun h1_3 => ?_) (fun h1_3 => ?_)
  · refine aw_tin (k0 := (3 : Int32)) (dflt := 47) (lo := 0) (hi := 3) (offs := #[31, 36, 41, 45]) (len := 31) (off := 45) B 46 (by decide +kernel) h1_3 (by decide) (by decide) (by decide +kernel) (by decide) ?_
    refine aw_lload_n (k0 := 1) B 1 (by decide +kernel) rfl rfl ?_
    exact aw_lreturn B (by decide +kernel) rfl
  · refine aw_tout (dflt := 47) (lo := 0) (hi := 3) (offs := #[31, 36, 41, 45]) (len := 31) B 48 (by decide +kernel) (by have qh1_0 := lv_neT (a := 0) h1_0 (by decide); have qh1_1 := lv_neT (a := 1) h1_1 (by decide); have qh1_2 := lv_neT (a := 2) h1_2 (by decide); have qh1_3 := lv_neT (a := 3) h1_3 (by decide); omega) (by decide) ?_
    refine aw_lload_n (k0 := 1) B 1 (by decide +kernel) rfl rfl ?_
    refine aw_lconst (n := 0) (v := (0 : Int64)) B (by decide +kernel) (by decide) ?_
    refine aw_lcmp B (by decide +kernel) ?_
    refine aw_if_eq (off := 7) B 58 (by decide +kernel) (by decide) (fun _ => ?_) (fun _ => ?_)
    · refine aw_lconst (n := 0) (v := (0 : Int64)) B (by decide +kernel) (by decide) ?_
      exact aw_lreturn B (by decide +kernel) rfl
    · refine aw_lconst (n := 1) (v := (1 : Int64)) B (by decide +kernel) (by decide) ?_
      refine aw_goto (off := 4) B 59 (by decide +kernel) (by decide) ?_
      exact aw_lreturn B (by decide +kernel) rfl
theorem c_X9_narrowed (l : Launch) {G : GW} (hG : ab_ok G) (v0 : Int32) (v1 : Int64) (M : Mem) : AC l G yX9_narrowed cX9_narrowed 3 (some .long) 2 [.int v0, .long v1] M (embRJ M) (f_X9_narrowed v0 v1) := AC.of hG (by decide) (Nat.le_of_ble_eq_true rfl) (fun E hE B => by subst hE; exact w_X9_narrowed hG B v0 v1 M)
def f_X9_setValue (v1 : Int32) (v2 : Int32) (v3 : Int64) (M : Mem) : Option Mem := ck (okI 44 v1) ((f_X9_narrowed (M.1 44 v1.toNatClampNeg) v3).bind fun x1 => ck (okL 46 ((v1 * (60 : Int32)) + v2)) (lt (wL M 46 ((v1 * (60 : Int32)) + v2).toNatClampNeg x1) fun M3 => (some M3)))
set_option maxRecDepth 100000 in
set_option maxHeartbeats 4000000 in
theorem w_X9_setValue {G : GW} {E : EE} (hG : ab_ok G) (B : Bx G E RX9 cX9_setValue 5 3 none) (v1 : Int32) (v2 : Int32) (v3 : Int64) (M : Mem) : AWo G E cX9_setValue 5 (ab_Q G E embV) 0 [(0, .ref 43), (1, .int v1), (2, .int v2), (3, .long v3)] [] M (f_X9_setValue v1 v2 v3 M) := by
  unfold f_X9_setValue
  refine aw_aload_n (k0 := 0) B 0 (by decide +kernel) rfl rfl ?_
  refine aw_getr (c := 43) B lkX9_18 (by decide +kernel) rfl (r := 46) rfl ?_
  refine aw_iload_n (k0 := 1) B 1 (by decide +kernel) rfl rfl ?_
  refine aw_bipush (n := 60) (v := (60 : Int32)) B (by decide +kernel) (by decide) ?_
  refine aw_imul B (by decide +kernel) ?_
  refine aw_iload_n (k0 := 2) B 2 (by decide +kernel) rfl rfl ?_
  refine aw_iadd B (by decide +kernel) ?_
  refine aw_aload_n (k0 := 0) B 0 (by decide +kernel) rfl rfl ?_
  refine aw_getr (c := 43) B lkX9_11 (by decide +kernel) rfl (r := 44) rfl ?_
  refine aw_iload_n (k0 := 1) B 1 (by decide +kernel) rfl rfl ?_
  refine aw_iaload B (by decide +kernel) ?_
  refine aw_lload_n (k0 := 3) B 3 (by decide +kernel) rfl rfl ?_
  refine aw_cSL B (c_X9_narrowed (eLa E) hG (M.1 44 v1.toNatClampNeg) v3 M) csX9_42 (Nat.le_of_ble_eq_true rfl) rfl (Nat.le_of_ble_eq_true rfl) (by decide +kernel) rfl (fun x1 => ?_)
  refine aw_lastore B (by decide +kernel) (fun M3 => ?_)
  exact aw_vreturn B (by decide +kernel) rfl
theorem c_X9_setValue (l : Launch) {G : GW} (hG : ab_ok G) (v1 : Int32) (v2 : Int32) (v3 : Int64) (M : Mem) : AC l G yX9_setValue cX9_setValue 5 none 3 [.ref 43, .int v1, .int v2, .long v3] M embV (f_X9_setValue v1 v2 v3 M) := AC.of hG (by decide) (Nat.le_of_ble_eq_true rfl) (fun E hE B => by subst hE; exact w_X9_setValue hG B v1 v2 v3 M)
def f_X10_put (v1 : Int32) (v2 : Int32) (v3 : Int64) (M : Mem) : Option (Int32 × Mem) := (f_X9_refusal v1 v2 M).bind fun x1 => (if x1 = 0 then (f_X9_setValue v1 v2 v3 M).bind fun M4 => (some ((1 : Int32), M4)) else (some (x1, M)))
set_option maxRecDepth 100000 in
set_option maxHeartbeats 4000000 in
theorem w_X10_put {G : GW} {E : EE} (hG : ab_ok G) (B : Bx G E RX10 cX10_put 6 5 (some .int)) (v1 : Int32) (v2 : Int32) (v3 : Int64) (M : Mem) : AWo G E cX10_put 6 (ab_Q G E embI) 0 [(0, .ref 0), (1, .int v1), (2, .int v2), (3, .long v3)] [] M (f_X10_put v1 v2 v3 M) := by
  unfold f_X10_put
  refine aw_aload_n (k0 := 0) B 0 (by decide +kernel) rfl rfl ?_
  refine aw_getr (c := 0) B lkX10_75 (by decide +kernel) rfl (r := 43) rfl ?_
  refine aw_iload_n (k0 := 1) B 1 (by decide +kernel) rfl rfl ?_
  refine aw_iload_n (k0 := 2) B 2 (by decide +kernel) rfl rfl ?_
  refine aw_cVR B (c_X9_refusal (eLa E) hG v1 v2 M) cvX10_357 rfl rfl (Nat.le_of_ble_eq_true rfl) rfl (Nat.le_of_ble_eq_true rfl) (by decide +kernel) rfl (fun x1 => ?_)
  refine aw_istore (i := 5) B [(5, .int x1), (0, .ref 0), (1, .int v1), (2, .int v2), (3, .long v3)] (by decide +kernel) (Nat.le_of_ble_eq_true rfl) rfl ?_
  refine aw_iload (i := 5) B 0 (by decide +kernel) rfl ?_
  refine aw_if_eq (off := 6) B 19 (by decide +kernel) (by decide) (fun _ => ?_) (fun _ => ?_)
  · refine aw_aload_n (k0 := 0) B 1 (by decide +kernel) rfl rfl ?_
    refine aw_getr (c := 0) B lkX10_75 (by decide +kernel) rfl (r := 43) rfl ?_
    refine aw_iload_n (k0 := 1) B 2 (by decide +kernel) rfl rfl ?_
    refine aw_iload_n (k0 := 2) B 3 (by decide +kernel) rfl rfl ?_
    refine aw_lload_n (k0 := 3) B 4 (by decide +kernel) rfl rfl ?_
    refine aw_cVV B (c_X9_setValue (eLa E) hG v1 v2 v3 M) cvX10_360 rfl rfl (Nat.le_of_ble_eq_true rfl) rfl (Nat.le_of_ble_eq_true rfl) (by decide +kernel) rfl (fun M4 => ?_)
    refine aw_iconst (n := 1) (v := (1 : Int32)) B (by decide +kernel) (by decide) ?_
    exact aw_ireturn B (by decide +kernel) rfl
  · refine aw_iload (i := 5) B 0 (by decide +kernel) rfl ?_
    exact aw_ireturn B (by decide +kernel) rfl
theorem c_X10_put (l : Launch) {G : GW} (hG : ab_ok G) (v1 : Int32) (v2 : Int32) (v3 : Int64) (M : Mem) : AC l G yX10_put cX10_put 6 (some .int) 5 [.ref 0, .int v1, .int v2, .long v3] M embI (f_X10_put v1 v2 v3 M) := AC.of hG (by decide) (Nat.le_of_ble_eq_true rfl) (fun E hE B => by subst hE; exact w_X10_put hG B v1 v2 v3 M)
def f_X11_refusal (v1 : Int32) (v2 : Int32) (M : Mem) : Option Int32 := (f_X11_isShelf v1).bind fun x1 => (if x1 = 0 then (some (-1 : Int32)) else ck (okI 73 v1) ((if 0 ≤ (M.1 73 v1.toNatClampNeg) then ck (okI 73 v1) ((if (50 : Int32) ≤ (M.1 73 v1.toNatClampNeg) then (if v2 < 0 then (some (-13 : Int32)) else ck (okI 74 v1) ((if (M.1 74 v1.toNatClampNeg) ≤ v2 then (some (-13 : Int32)) else (some (0 : Int32))))) else (some (-12 : Int32)))) else (some (-11 : Int32)))))
set_option maxRecDepth 100000 in
set_option maxHeartbeats 4000000 in
theorem w_X11_refusal {G : GW} {E : EE} (hG : ab_ok G) (B : Bx G E RX11 cX11_refusal 3 4 (some .int)) (v1 : Int32) (v2 : Int32) (M : Mem) : AWo G E cX11_refusal 3 (ab_Q G E (embRI M)) 0 [(0, .ref 47), (1, .int v1), (2, .int v2)] [] M (f_X11_refusal v1 v2 M) := by
  unfold f_X11_refusal
  refine aw_iload_n (k0 := 1) B 1 (by decide +kernel) rfl rfl ?_
  refine aw_cSR B (c_X11_isShelf (eLa E) hG v1 M) csX11_129 (Nat.le_of_ble_eq_true rfl) rfl (Nat.le_of_ble_eq_true rfl) (by decide +kernel) rfl (fun x1 => ?_)
  refine aw_if_ne (off := 5) B 9 (by decide +kernel) (by decide) (fun _ => ?_) (fun _ => ?_)
  · refine aw_aload_n (k0 := 0) B 0 (by decide +kernel) rfl rfl ?_
    refine aw_getr (c := 47) B lkX11_87 (by decide +kernel) rfl (r := 73) rfl ?_
    refine aw_iload_n (k0 := 1) B 1 (by decide +kernel) rfl rfl ?_
    refine aw_iaload B (by decide +kernel) ?_
    refine aw_if_ge (off := 6) B 21 (by decide +kernel) (by decide) (fun _ => ?_) (fun _ => ?_)
    · refine aw_aload_n (k0 := 0) B 0 (by decide +kernel) rfl rfl ?_
      refine aw_getr (c := 47) B lkX11_87 (by decide +kernel) rfl (r := 73) rfl ?_
      refine aw_iload_n (k0 := 1) B 1 (by decide +kernel) rfl rfl ?_
      refine aw_iaload B (by decide +kernel) ?_
      refine aw_bipush (n := 50) (v := (50 : Int32)) B (by decide +kernel) (by decide) ?_
      refine aw_icmp_ge (off := 6) B 35 (by decide +kernel) (by decide) (fun _ => ?_) (fun _ => ?_)
      · refine aw_iload_n (k0 := 2) B 2 (by decide +kernel) rfl rfl ?_
        refine aw_if_lt (off := 17) B 53 (by decide +kernel) (by decide) (fun _ => ?_) (fun _ => ?_)
        · refine aw_bipush (n := -13) (v := (-13 : Int32)) B (by decide +kernel) (by decide) ?_
          exact aw_ireturn B (by decide +kernel) rfl
        · refine aw_iload_n (k0 := 2) B 2 (by decide +kernel) rfl rfl ?_
          refine aw_aload_n (k0 := 0) B 0 (by decide +kernel) rfl rfl ?_
          refine aw_getr (c := 47) B lkX11_90 (by decide +kernel) rfl (r := 74) rfl ?_
          refine aw_iload_n (k0 := 1) B 1 (by decide +kernel) rfl rfl ?_
          refine aw_iaload B (by decide +kernel) ?_
          refine aw_icmp_ge (off := 7) B 53 (by decide +kernel) (by decide) (fun _ => ?_) (fun _ => ?_)
          · refine aw_bipush (n := -13) (v := (-13 : Int32)) B (by decide +kernel) (by decide) ?_
            exact aw_ireturn B (by decide +kernel) rfl
          · refine aw_iconst (n := 0) (v := (0 : Int32)) B (by decide +kernel) (by decide) ?_
            refine aw_goto (off := 5) B 55 (by decide +kernel) (by decide) ?_
            exact aw_ireturn B (by decide +kernel) rfl
      · refine aw_bipush (n := -12) (v := (-12 : Int32)) B (by decide +kernel) (by decide) ?_
        exact aw_ireturn B (by decide +kernel) rfl
    · refine aw_bipush (n := -11) (v := (-11 : Int32)) B (by decide +kernel) (by decide) ?_
      exact aw_ireturn B (by decide +kernel) rfl
  · refine aw_iconst (n := -1) (v := (-1 : Int32)) B (by decide +kernel) (by decide) ?_
    exact aw_ireturn B (by decide +kernel) rfl
theorem c_X11_refusal (l : Launch) {G : GW} (hG : ab_ok G) (v1 : Int32) (v2 : Int32) (M : Mem) : AC l G yX11_refusal cX11_refusal 3 (some .int) 4 [.ref 47, .int v1, .int v2] M (embRI M) (f_X11_refusal v1 v2 M) := AC.of hG (by decide) (Nat.le_of_ble_eq_true rfl) (fun E hE B => by subst hE; exact w_X11_refusal hG B v1 v2 M)
