def f_X3_bestByWorth_b94 (k24 : Int32 → Int32 → Mem → Option (Int32 × Mem)) (v2 : Int32) (v3 : Int32) (v4 : Int32) (s0 : Int32) (M : Mem) : Option (Int32 × Mem) := ck (okI 31 s0) (lt (wI M 31 s0.toNatClampNeg v4) fun M1 => ck (okI 30 v3) (lt (wI M1 30 v3.toNatClampNeg v4) fun M2 => k24 v2 (v3 + 1) M2))
set_option maxRecDepth 100000 in
set_option maxHeartbeats 4000000 in
theorem w_X3_bestByWorth_b94 {G : GW} {E : EE} (hG : ab_ok G) {k24 : Int32 → Int32 → Mem → Option (Int32 × Mem)} (B : Bx G E RX3 cX3_bestByWorth 6 3 (some .int)) (hk24 : ∀ (v2 : Int32) (v3 : Int32) (M : Mem), AWo G E cX3_bestByWorth 6 (ab_Q G E embI) 24 [(0, .ref 28), (1, .ref 1), (2, .int v2), (3, .int v3)] [] M (k24 v2 v3 M)) (v2 : Int32) (v3 : Int32) (v4 : Int32) (s0 : Int32) (M : Mem) : AWo G E cX3_bestByWorth 6 (ab_Q G E embI) 94 [(0, .ref 28), (1, .ref 1), (2, .int v2), (3, .int v3), (4, .int v4)] [.int s0] M (f_X3_bestByWorth_b94 k24 v2 v3 v4 s0 M) := by
  unfold f_X3_bestByWorth_b94
  refine aw_istore (i := 5) B [(5, .int s0), (0, .ref 28), (1, .ref 1), (2, .int v2), (3, .int v3), (4, .int v4)] (by decide +kernel) (Nat.le_of_ble_eq_true rfl) rfl ?_
  refine aw_aload_n (k0 := 0) B 1 (by decide +kernel) rfl rfl ?_
  refine aw_getr (c := 28) B lkX3_18 (by decide +kernel) rfl (r := 31) rfl ?_
  refine aw_iload (i := 5) B 0 (by decide +kernel) rfl ?_
  refine aw_iload (i := 4) B 5 (by decide +kernel) rfl ?_
  refine aw_iastore B (by decide +kernel) (fun M1 => ?_)
  refine aw_aload_n (k0 := 0) B 1 (by decide +kernel) rfl rfl ?_
  refine aw_getr (c := 28) B lkX3_15 (by decide +kernel) rfl (r := 30) rfl ?_
  refine aw_iload_n (k0 := 3) B 4 (by decide +kernel) rfl rfl ?_
  refine aw_iload (i := 4) B 5 (by decide +kernel) rfl ?_
  refine aw_iastore B (by decide +kernel) (fun M2 => ?_)
  refine aw_iinc (i := 3) (n := 1) B 4 [(3, .int (v3 + 1)), (5, .int s0), (0, .ref 28), (1, .ref 1), (2, .int v2), (4, .int v4)] (by decide +kernel) rfl (Nat.le_of_ble_eq_true rfl) (v3 + 1) (ab_inc (by decide)) rfl ?_
  refine aw_goto (off := -92) B 24 (by decide +kernel) (by decide) ?_
  exact aw_sub [2, 3, 4, 0] rfl (hk24 _ _ _)
def f_X3_bestByWorth_L24 (k14 : Int32 → Mem → Option (Int32 × Mem)) : Nat → Int32 → Int32 → Mem → Option (Int32 × Mem)
  | 0, _, _, _ => none
  | n + 1, v2, v3, M => (if (ab_shr (M.1 28 0) (v2 + (1 : Int32))) ≤ v3 then k14 (v2 + 1) M else ck (okI 30 ((2 : Int32) * v3)) (ck (okI 30 (((2 : Int32) * v3) + (1 : Int32))) ((f_X3_worthier (M.1 30 ((2 : Int32) * v3).toNatClampNeg) (M.1 30 (((2 : Int32) * v3) + (1 : Int32)).toNatClampNeg) M).bind fun x1 => ck (okI 30 ((2 : Int32) * v3)) ((if x1 = (M.1 30 ((2 : Int32) * v3).toNatClampNeg) then ck (okI 30 (((2 : Int32) * v3) + (1 : Int32))) (f_X3_bestByWorth_b94 (fun a0 a1 a2 => f_X3_bestByWorth_L24 k14 n a0 a1 a2) v2 v3 x1 (M.1 30 (((2 : Int32) * v3) + (1 : Int32)).toNatClampNeg) M) else ck (okI 30 ((2 : Int32) * v3)) (f_X3_bestByWorth_b94 (fun a0 a1 a2 => f_X3_bestByWorth_L24 k14 n a0 a1 a2) v2 v3 x1 (M.1 30 ((2 : Int32) * v3).toNatClampNeg) M))))))
set_option maxRecDepth 100000 in
set_option maxHeartbeats 4000000 in
theorem w_X3_bestByWorth_L24 {G : GW} {E : EE} (hG : ab_ok G) {k14 : Int32 → Mem → Option (Int32 × Mem)} (B : Bx G E RX3 cX3_bestByWorth 6 3 (some .int)) (hk14 : ∀ (v2 : Int32) (M : Mem), AWo G E cX3_bestByWorth 6 (ab_Q G E embI) 14 [(0, .ref 28), (1, .ref 1), (2, .int v2)] [] M (k14 v2 M)) : ∀ (n : Nat) (v2 : Int32) (v3 : Int32) (M : Mem), AWo G E cX3_bestByWorth 6 (ab_Q G E embI) 24 [(0, .ref 28), (1, .ref 1), (2, .int v2), (3, .int v3)] [] M (f_X3_bestByWorth_L24 k14 n v2 v3 M) := by
  intro n
  induction n with
  | zero => intro _ _ _; exact aw_none
  | succ n ih =>
    intro v2 v3 M
    rw [f_X3_bestByWorth_L24]
    refine aw_iload_n (k0 := 3) B 3 (by decide +kernel) rfl rfl ?_
    refine aw_aload_n (k0 := 0) B 0 (by decide +kernel) rfl rfl ?_
    refine aw_geti (c := 28) B lkX3_28 (by decide +kernel) rfl ?_
    refine aw_iload_n (k0 := 2) B 2 (by decide +kernel) rfl rfl ?_
    refine aw_iconst (n := 1) (v := (1 : Int32)) B (by decide +kernel) (by decide) ?_
    refine aw_iadd B (by decide +kernel) ?_
    refine aw_ishr B (by decide +kernel) ?_
    refine aw_icmp_ge (off := 86) B 119 (by decide +kernel) (by decide) (fun _ => ?_) (fun _ => ?_)
    · refine aw_iinc (i := 2) (n := 1) B 2 [(2, .int (v2 + 1)), (0, .ref 28), (1, .ref 1), (3, .int v3)] (by decide +kernel) rfl (Nat.le_of_ble_eq_true rfl) (v2 + 1) (ab_inc (by decide)) rfl ?_
      refine aw_goto (off := -108) B 14 (by decide +kernel) (by decide) ?_
      exact aw_sub [1, 2, 0] rfl (hk14 _ _)
    · refine aw_aload_n (k0 := 1) B 1 (by decide +kernel) rfl rfl ?_
      refine aw_aload_n (k0 := 0) B 0 (by decide +kernel) rfl rfl ?_
      refine aw_getr (c := 28) B lkX3_15 (by decide +kernel) rfl (r := 30) rfl ?_
      refine aw_iconst (n := 2) (v := (2 : Int32)) B (by decide +kernel) (by decide) ?_
      refine aw_iload_n (k0 := 3) B 3 (by decide +kernel) rfl rfl ?_
      refine aw_imul B (by decide +kernel) ?_
      refine aw_iaload B (by decide +kernel) ?_
      refine aw_aload_n (k0 := 0) B 0 (by decide +kernel) rfl rfl ?_
      refine aw_getr (c := 28) B lkX3_15 (by decide +kernel) rfl (r := 30) rfl ?_
      refine aw_iconst (n := 2) (v := (2 : Int32)) B (by decide +kernel) (by decide) ?_
      refine aw_iload_n (k0 := 3) B 3 (by decide +kernel) rfl rfl ?_
      refine aw_imul B (by decide +kernel) ?_
      refine aw_iconst (n := 1) (v := (1 : Int32)) B (by decide +kernel) (by decide) ?_
      refine aw_iadd B (by decide +kernel) ?_
      refine aw_iaload B (by decide +kernel) ?_
      refine aw_cSR B (c_X3_worthier (eLa E) hG (M.1 30 ((2 : Int32) * v3).toNatClampNeg) (M.1 30 (((2 : Int32) * v3) + (1 : Int32)).toNatClampNeg) M) csX3_106 (Nat.le_of_ble_eq_true rfl) rfl (Nat.le_of_ble_eq_true rfl) (by decide +kernel) rfl (fun x1 => ?_)
      refine aw_istore (i := 4) B [(4, .int x1), (0, .ref 28), (1, .ref 1), (2, .int v2), (3, .int v3)] (by decide +kernel) (Nat.le_of_ble_eq_true rfl) rfl ?_
      refine aw_iload (i := 4) B 0 (by decide +kernel) rfl ?_
      refine aw_aload_n (k0 := 0) B 1 (by decide +kernel) rfl rfl ?_
      refine aw_getr (c := 28) B lkX3_15 (by decide +kernel) rfl (r := 30) rfl ?_
      refine aw_iconst (n := 2) (v := (2 : Int32)) B (by decide +kernel) (by decide) ?_
      refine aw_iload_n (k0 := 3) B 4 (by decide +kernel) rfl rfl ?_
      refine aw_imul B (by decide +kernel) ?_
      refine aw_iaload B (by decide +kernel) ?_
      refine aw_icmp_ne (off := 16) B 86 (by decide +kernel) (by decide) (fun _ => ?_) (fun _ => ?_)
      · refine aw_aload_n (k0 := 0) B 1 (by decide +kernel) rfl rfl ?_
        refine aw_getr (c := 28) B lkX3_15 (by decide +kernel) rfl (r := 30) rfl ?_
        refine aw_iconst (n := 2) (v := (2 : Int32)) B (by decide +kernel) (by decide) ?_
        refine aw_iload_n (k0 := 3) B 4 (by decide +kernel) rfl rfl ?_
        refine aw_imul B (by decide +kernel) ?_
        refine aw_iaload B (by decide +kernel) ?_
        exact aw_sub [1, 2, 3, 4, 0] rfl (w_X3_bestByWorth_b94 hG B ih _ _ _ _ _)
      · refine aw_aload_n (k0 := 0) B 1 (by decide +kernel) rfl rfl ?_
        refine aw_getr (c := 28) B lkX3_15 (by decide +kernel) rfl (r := 30) rfl ?_
        refine aw_iconst (n := 2) (v := (2 : Int32)) B (by decide +kernel) (by decide) ?_
        refine aw_iload_n (k0 := 3) B 4 (by decide +kernel) rfl rfl ?_
        refine aw_imul B (by decide +kernel) ?_
        refine aw_iconst (n := 1) (v := (1 : Int32)) B (by decide +kernel) (by decide) ?_
        refine aw_iadd B (by decide +kernel) ?_
        refine aw_iaload B (by decide +kernel) ?_
        refine aw_goto (off := 11) B 94 (by decide +kernel) (by decide) ?_
        exact aw_sub [1, 2, 3, 4, 0] rfl (w_X3_bestByWorth_b94 hG B ih _ _ _ _ _)
def f_X3_bestByWorth_L14 : Nat → Int32 → Mem → Option (Int32 × Mem)
  | 0, _, _ => none
  | n + 1, v2, M => (f_X3_rounds M).bind fun x1 => (if x1 ≤ v2 then ck (okI 30 (0 : Int32)) ((some (M.1 30 (0 : Int32).toNatClampNeg, M))) else f_X3_bestByWorth_L24 (fun a0 a1 => f_X3_bestByWorth_L14 n a0 a1) FU v2 (0 : Int32) M)
set_option maxRecDepth 100000 in
set_option maxHeartbeats 4000000 in
theorem w_X3_bestByWorth_L14 {G : GW} {E : EE} (hG : ab_ok G) (B : Bx G E RX3 cX3_bestByWorth 6 3 (some .int)) : ∀ (n : Nat) (v2 : Int32) (M : Mem), AWo G E cX3_bestByWorth 6 (ab_Q G E embI) 14 [(0, .ref 28), (1, .ref 1), (2, .int v2)] [] M (f_X3_bestByWorth_L14 n v2 M) := by
  intro n
  induction n with
  | zero => intro _ _; exact aw_none
  | succ n ih =>
    intro v2 M
    rw [f_X3_bestByWorth_L14]
    refine aw_iload_n (k0 := 2) B 2 (by decide +kernel) rfl rfl ?_
    refine aw_aload_n (k0 := 0) B 0 (by decide +kernel) rfl rfl ?_
    refine aw_cVR B (c_X3_rounds (eLa E) hG M) cvX3_54 rfl rfl (Nat.le_of_ble_eq_true rfl) rfl (Nat.le_of_ble_eq_true rfl) (by decide +kernel) rfl (fun x1 => ?_)
    refine aw_icmp_ge (off := 106) B 125 (by decide +kernel) (by decide) (fun _ => ?_) (fun _ => ?_)
    · refine aw_aload_n (k0 := 0) B 0 (by decide +kernel) rfl rfl ?_
      refine aw_getr (c := 28) B lkX3_15 (by decide +kernel) rfl (r := 30) rfl ?_
      refine aw_iconst (n := 0) (v := (0 : Int32)) B (by decide +kernel) (by decide) ?_
      refine aw_iaload B (by decide +kernel) ?_
      exact aw_ireturn B (by decide +kernel) rfl
    · refine aw_iconst (n := 0) (v := (0 : Int32)) B (by decide +kernel) (by decide) ?_
      refine aw_istore_n (k0 := 3) B [(3, .int (0 : Int32)), (0, .ref 28), (1, .ref 1), (2, .int v2)] (by decide +kernel) rfl (Nat.le_of_ble_eq_true rfl) rfl ?_
      exact aw_sub [1, 2, 3, 0] rfl (w_X3_bestByWorth_L24 hG B ih FU _ _ _)
def f_X3_bestByWorth (M : Mem) : Option (Int32 × Mem) := (f_X3_sitDown M).bind fun M2 => (f_J7_fill_53178 31 (-1 : Int32) M2).bind fun M4 => f_X3_bestByWorth_L14 FU (0 : Int32) M4
set_option maxRecDepth 100000 in
set_option maxHeartbeats 4000000 in
theorem w_X3_bestByWorth {G : GW} {E : EE} (hG : ab_ok G) (B : Bx G E RX3 cX3_bestByWorth 6 3 (some .int)) (M : Mem) : AWo G E cX3_bestByWorth 6 (ab_Q G E embI) 0 [(0, .ref 28), (1, .ref 1)] [] M (f_X3_bestByWorth M) := by
  unfold f_X3_bestByWorth
  refine aw_aload_n (k0 := 0) B 0 (by decide +kernel) rfl rfl ?_
  refine aw_cVV B (c_X3_sitDown (eLa E) hG M) cvX3_68 rfl rfl (Nat.le_of_ble_eq_true rfl) rfl (Nat.le_of_ble_eq_true rfl) (by decide +kernel) rfl (fun M2 => ?_)
  refine aw_aload_n (k0 := 0) B 0 (by decide +kernel) rfl rfl ?_
  refine aw_getr (c := 28) B lkX3_18 (by decide +kernel) rfl (r := 31) rfl ?_
  refine aw_iconst (n := -1) (v := (-1 : Int32)) B (by decide +kernel) (by decide) ?_
  refine aw_cSV B (c_J7_fill_53178 (eLa E) hG 31 (-1 : Int32) M2) csX3_42 (Nat.le_of_ble_eq_true rfl) rfl (Nat.le_of_ble_eq_true rfl) (by decide +kernel) rfl (fun M4 => ?_)
  refine aw_iconst (n := 0) (v := (0 : Int32)) B (by decide +kernel) (by decide) ?_
  refine aw_istore_n (k0 := 2) B [(2, .int (0 : Int32)), (0, .ref 28), (1, .ref 1)] (by decide +kernel) rfl (Nat.le_of_ble_eq_true rfl) rfl ?_
  exact aw_sub [1, 2, 0] rfl (w_X3_bestByWorth_L14 hG B FU _ _)
theorem c_X3_bestByWorth (l : Launch) {G : GW} (hG : ab_ok G) (M : Mem) : AC l G yX3_bestByWorth cX3_bestByWorth 6 (some .int) 3 [.ref 28, .ref 1] M embI (f_X3_bestByWorth M) := AC.of hG (by decide) (Nat.le_of_ble_eq_true rfl) (fun E hE B => by subst hE; exact w_X3_bestByWorth hG B M)
def f_X3_bestBeatenBy_b42 (k5 : Int32 → Int32 → Int32 → Option Int32) (M : Mem) (v2 : Int32) (v3 : Int32) (v4 : Int32) : Option Int32 := k5 v2 v3 (v4 + 1)
set_option maxRecDepth 100000 in
set_option maxHeartbeats 4000000 in
theorem w_X3_bestBeatenBy_b42 {G : GW} {E : EE} (hG : ab_ok G) (M : Mem) {k5 : Int32 → Int32 → Int32 → Option Int32} (B : Bx G E RX3 cX3_bestBeatenBy 5 3 (some .int)) (hk5 : ∀ (v2 : Int32) (v3 : Int32) (v4 : Int32), AWo G E cX3_bestBeatenBy 5 (ab_Q G E (embRI M)) 5 [(0, .ref 28), (1, .ref 1), (2, .int v2), (3, .int v3), (4, .int v4)] [] M (k5 v2 v3 v4)) (v2 : Int32) (v3 : Int32) (v4 : Int32) : AWo G E cX3_bestBeatenBy 5 (ab_Q G E (embRI M)) 42 [(0, .ref 28), (1, .ref 1), (2, .int v2), (3, .int v3), (4, .int v4)] [] M (f_X3_bestBeatenBy_b42 k5 M v2 v3 v4) := by
  unfold f_X3_bestBeatenBy_b42
  refine aw_iinc (i := 4) (n := 1) B 4 [(4, .int (v4 + 1)), (0, .ref 28), (1, .ref 1), (2, .int v2), (3, .int v3)] (by decide +kernel) rfl (Nat.le_of_ble_eq_true rfl) (v4 + 1) (ab_inc (by decide)) rfl ?_
  refine aw_goto (off := -40) B 5 (by decide +kernel) (by decide) ?_
  exact aw_sub [1, 2, 3, 4, 0] rfl (hk5 _ _ _)
def f_X3_bestBeatenBy_b41 (k5 : Int32 → Int32 → Int32 → Option Int32) (M : Mem) (v2 : Int32) (v4 : Int32) (s0 : Int32) : Option Int32 := f_X3_bestBeatenBy_b42 k5 M v2 s0 v4
set_option maxRecDepth 100000 in
set_option maxHeartbeats 4000000 in
theorem w_X3_bestBeatenBy_b41 {G : GW} {E : EE} (hG : ab_ok G) (M : Mem) {k5 : Int32 → Int32 → Int32 → Option Int32} (B : Bx G E RX3 cX3_bestBeatenBy 5 3 (some .int)) (hk5 : ∀ (v2 : Int32) (v3 : Int32) (v4 : Int32), AWo G E cX3_bestBeatenBy 5 (ab_Q G E (embRI M)) 5 [(0, .ref 28), (1, .ref 1), (2, .int v2), (3, .int v3), (4, .int v4)] [] M (k5 v2 v3 v4)) (v2 : Int32) (v4 : Int32) (s0 : Int32) : AWo G E cX3_bestBeatenBy 5 (ab_Q G E (embRI M)) 41 [(0, .ref 28), (1, .ref 1), (2, .int v2), (4, .int v4)] [.int s0] M (f_X3_bestBeatenBy_b41 k5 M v2 v4 s0) := by
  unfold f_X3_bestBeatenBy_b41
  refine aw_istore_n (k0 := 3) B [(3, .int s0), (0, .ref 28), (1, .ref 1), (2, .int v2), (4, .int v4)] (by decide +kernel) rfl (Nat.le_of_ble_eq_true rfl) rfl ?_
  exact aw_sub [1, 2, 3, 0, 4] rfl (w_X3_bestBeatenBy_b42 hG M B hk5 _ _ _)
def f_X3_bestBeatenBy_L5 (M : Mem) : Nat → Int32 → Int32 → Int32 → Option Int32
  | 0, _, _, _ => none
  | n + 1, v2, v3, v4 => (if (M.1 1 0) ≤ v4 then (some v3) else ck (okI 31 v4) ((if (M.1 31 v4.toNatClampNeg) = v2 then (if 0 ≤ v3 then (f_X3_worthier v3 v4 M).bind fun x1 => f_X3_bestBeatenBy_b41 (fun a0 a1 a2 => f_X3_bestBeatenBy_L5 M n a0 a1 a2) M v2 v4 x1 else f_X3_bestBeatenBy_b41 (fun a0 a1 a2 => f_X3_bestBeatenBy_L5 M n a0 a1 a2) M v2 v4 v4) else f_X3_bestBeatenBy_b42 (fun a0 a1 a2 => f_X3_bestBeatenBy_L5 M n a0 a1 a2) M v2 v3 v4)))
set_option maxRecDepth 100000 in
set_option maxHeartbeats 4000000 in
theorem w_X3_bestBeatenBy_L5 {G : GW} {E : EE} (hG : ab_ok G) (M : Mem) (B : Bx G E RX3 cX3_bestBeatenBy 5 3 (some .int)) : ∀ (n : Nat) (v2 : Int32) (v3 : Int32) (v4 : Int32), AWo G E cX3_bestBeatenBy 5 (ab_Q G E (embRI M)) 5 [(0, .ref 28), (1, .ref 1), (2, .int v2), (3, .int v3), (4, .int v4)] [] M (f_X3_bestBeatenBy_L5 M n v2 v3 v4) := by
  intro n
  induction n with
  | zero => intro _ _ _; exact aw_none
  | succ n ih =>
    intro v2 v3 v4
    rw [f_X3_bestBeatenBy_L5]
    refine aw_iload (i := 4) B 4 (by decide +kernel) rfl ?_
    refine aw_aload_n (k0 := 1) B 1 (by decide +kernel) rfl rfl ?_
    refine aw_geti (c := 1) B lkX3_110 (by decide +kernel) rfl ?_
    refine aw_icmp_ge (off := 37) B 48 (by decide +kernel) (by decide) (fun _ => ?_) (fun _ => ?_)
    · refine aw_iload_n (k0 := 3) B 3 (by decide +kernel) rfl rfl ?_
      exact aw_ireturn B (by decide +kernel) rfl
    · refine aw_aload_n (k0 := 0) B 0 (by decide +kernel) rfl rfl ?_
      refine aw_getr (c := 28) B lkX3_18 (by decide +kernel) rfl (r := 31) rfl ?_
      refine aw_iload (i := 4) B 4 (by decide +kernel) rfl ?_
      refine aw_iaload B (by decide +kernel) ?_
      refine aw_iload_n (k0 := 2) B 2 (by decide +kernel) rfl rfl ?_
      refine aw_icmp_ne (off := 20) B 42 (by decide +kernel) (by decide) (fun _ => ?_) (fun _ => ?_)
      · exact w_X3_bestBeatenBy_b42 hG M B ih _ _ _
      · refine aw_iload_n (k0 := 3) B 3 (by decide +kernel) rfl rfl ?_
        refine aw_if_ge (off := 8) B 34 (by decide +kernel) (by decide) (fun _ => ?_) (fun _ => ?_)
        · refine aw_aload_n (k0 := 1) B 1 (by decide +kernel) rfl rfl ?_
          refine aw_iload_n (k0 := 3) B 3 (by decide +kernel) rfl rfl ?_
          refine aw_iload (i := 4) B 4 (by decide +kernel) rfl ?_
          refine aw_cSR B (c_X3_worthier (eLa E) hG v3 v4 M) csX3_106 (Nat.le_of_ble_eq_true rfl) rfl (Nat.le_of_ble_eq_true rfl) (by decide +kernel) rfl (fun x1 => ?_)
          exact aw_sub [0, 1, 2, 4] rfl (w_X3_bestBeatenBy_b41 hG M B ih _ _ _)
        · refine aw_iload (i := 4) B 4 (by decide +kernel) rfl ?_
          refine aw_goto (off := 10) B 41 (by decide +kernel) (by decide) ?_
          exact aw_sub [0, 1, 2, 4] rfl (w_X3_bestBeatenBy_b41 hG M B ih _ _ _)
def f_X3_bestBeatenBy (v2 : Int32) (M : Mem) : Option Int32 := f_X3_bestBeatenBy_L5 M FU v2 (-1 : Int32) (0 : Int32)
set_option maxRecDepth 100000 in
set_option maxHeartbeats 4000000 in
theorem w_X3_bestBeatenBy {G : GW} {E : EE} (hG : ab_ok G) (B : Bx G E RX3 cX3_bestBeatenBy 5 3 (some .int)) (v2 : Int32) (M : Mem) : AWo G E cX3_bestBeatenBy 5 (ab_Q G E (embRI M)) 0 [(0, .ref 28), (1, .ref 1), (2, .int v2)] [] M (f_X3_bestBeatenBy v2 M) := by
  unfold f_X3_bestBeatenBy
  refine aw_iconst (n := -1) (v := (-1 : Int32)) B (by decide +kernel) (by decide) ?_
  refine aw_istore_n (k0 := 3) B [(3, .int (-1 : Int32)), (0, .ref 28), (1, .ref 1), (2, .int v2)] (by decide +kernel) rfl (Nat.le_of_ble_eq_true rfl) rfl ?_
  refine aw_iconst (n := 0) (v := (0 : Int32)) B (by decide +kernel) (by decide) ?_
  refine aw_istore (i := 4) B [(4, .int (0 : Int32)), (3, .int (-1 : Int32)), (0, .ref 28), (1, .ref 1), (2, .int v2)] (by decide +kernel) (Nat.le_of_ble_eq_true rfl) rfl ?_
  exact aw_sub [2, 3, 4, 1, 0] rfl (w_X3_bestBeatenBy_L5 hG M B FU _ _ _)
theorem c_X3_bestBeatenBy (l : Launch) {G : GW} (hG : ab_ok G) (v2 : Int32) (M : Mem) : AC l G yX3_bestBeatenBy cX3_bestBeatenBy 5 (some .int) 3 [.ref 28, .ref 1, .int v2] M (embRI M) (f_X3_bestBeatenBy v2 M) := AC.of hG (by decide) (Nat.le_of_ble_eq_true rfl) (fun E hE B => by subst hE; exact w_X3_bestBeatenBy hG B v2 M)
def f_X10_champion (v1 : Int32) (M : Mem) : Option (Int32 × Mem) := (if v1 < 0 then (some ((-1 : Int32), M)) else (if v1 ≤ (1 : Int32) then (f_X3_isWhole M).bind fun x1 => (if x1 = 0 then (some ((-5 : Int32), M)) else bI (f_X3_bestByWorth M) fun x3 M4 => (if v1 = 0 then (some (x3, M4)) else (f_X3_bestBeatenBy x3 M4).bind fun x5 => (some (x5, M4)))) else (some ((-1 : Int32), M))))
set_option maxRecDepth 100000 in
set_option maxHeartbeats 4000000 in
theorem w_X10_champion {G : GW} {E : EE} (hG : ab_ok G) (B : Bx G E RX10 cX10_champion 3 4 (some .int)) (v1 : Int32) (M : Mem) : AWo G E cX10_champion 3 (ab_Q G E embI) 0 [(0, .ref 0), (1, .int v1)] [] M (f_X10_champion v1 M) := by
  unfold f_X10_champion
  refine aw_iload_n (k0 := 1) B 1 (by decide +kernel) rfl rfl ?_
  refine aw_if_lt (off := 8) B 9 (by decide +kernel) (by decide) (fun _ => ?_) (fun _ => ?_)
  · refine aw_iconst (n := -1) (v := (-1 : Int32)) B (by decide +kernel) (by decide) ?_
    exact aw_ireturn B (by decide +kernel) rfl
  · refine aw_iload_n (k0 := 1) B 1 (by decide +kernel) rfl rfl ?_
    refine aw_iconst (n := 1) (v := (1 : Int32)) B (by decide +kernel) (by decide) ?_
    refine aw_icmp_le (off := 5) B 11 (by decide +kernel) (by decide) (fun _ => ?_) (fun _ => ?_)
    · refine aw_aload_n (k0 := 0) B 0 (by decide +kernel) rfl rfl ?_
      refine aw_getr (c := 0) B lkX10_54 (by decide +kernel) rfl (r := 28) rfl ?_
      refine aw_cVR B (c_X3_isWhole (eLa E) hG M) cvX10_278 rfl rfl (Nat.le_of_ble_eq_true rfl) rfl (Nat.le_of_ble_eq_true rfl) (by decide +kernel) rfl (fun x1 => ?_)
      refine aw_if_ne (off := 6) B 24 (by decide +kernel) (by decide) (fun _ => ?_) (fun _ => ?_)
      · refine aw_aload_n (k0 := 0) B 0 (by decide +kernel) rfl rfl ?_
        refine aw_getr (c := 0) B lkX10_54 (by decide +kernel) rfl (r := 28) rfl ?_
        refine aw_aload_n (k0 := 0) B 0 (by decide +kernel) rfl rfl ?_
        refine aw_getr (c := 0) B lkX10_10 (by decide +kernel) rfl (r := 1) rfl ?_
        refine aw_cVI B (c_X3_bestByWorth (eLa E) hG M) cvX10_297 rfl rfl (Nat.le_of_ble_eq_true rfl) rfl (Nat.le_of_ble_eq_true rfl) (by decide +kernel) rfl (fun x3 M4 => ?_)
        refine aw_istore_n (k0 := 2) B [(2, .int x3), (0, .ref 0), (1, .int v1)] (by decide +kernel) rfl (Nat.le_of_ble_eq_true rfl) rfl ?_
        refine aw_iload_n (k0 := 1) B 2 (by decide +kernel) rfl rfl ?_
        refine aw_if_ne (off := 7) B 44 (by decide +kernel) (by decide) (fun _ => ?_) (fun _ => ?_)
        · refine aw_aload_n (k0 := 0) B 1 (by decide +kernel) rfl rfl ?_
          refine aw_getr (c := 0) B lkX10_54 (by decide +kernel) rfl (r := 28) rfl ?_
          refine aw_aload_n (k0 := 0) B 1 (by decide +kernel) rfl rfl ?_
          refine aw_getr (c := 0) B lkX10_10 (by decide +kernel) rfl (r := 1) rfl ?_
          refine aw_iload_n (k0 := 2) B 0 (by decide +kernel) rfl rfl ?_
          refine aw_cVR B (c_X3_bestBeatenBy (eLa E) hG x3 M4) cvX10_300 rfl rfl (Nat.le_of_ble_eq_true rfl) rfl (Nat.le_of_ble_eq_true rfl) (by decide +kernel) rfl (fun x5 => ?_)
          exact aw_ireturn B (by decide +kernel) rfl
        · refine aw_iload_n (k0 := 2) B 0 (by decide +kernel) rfl rfl ?_
          refine aw_goto (off := 15) B 56 (by decide +kernel) (by decide) ?_
          exact aw_ireturn B (by decide +kernel) rfl
      · refine aw_bipush (n := -5) (v := (-5 : Int32)) B (by decide +kernel) (by decide) ?_
        exact aw_ireturn B (by decide +kernel) rfl
    · refine aw_iconst (n := -1) (v := (-1 : Int32)) B (by decide +kernel) (by decide) ?_
      exact aw_ireturn B (by decide +kernel) rfl
theorem c_X10_champion (l : Launch) {G : GW} (hG : ab_ok G) (v1 : Int32) (M : Mem) : AC l G yX10_champion cX10_champion 3 (some .int) 4 [.ref 0, .int v1] M embI (f_X10_champion v1 M) := AC.of hG (by decide) (Nat.le_of_ble_eq_true rfl) (fun E hE B => by subst hE; exact w_X10_champion hG B v1 M)
def f_X11_isMore_b35 (M : Mem) : Option Int32 := (some (1 : Int32))
set_option maxRecDepth 100000 in
set_option maxHeartbeats 4000000 in
theorem w_X11_isMore_b35 {G : GW} {E : EE} (hG : ab_ok G) (M : Mem) (B : Bx G E RX11 cX11_isMore 3 2 (some .boolean))  : AWo G E cX11_isMore 3 (ab_Q G E (embRI M)) 35 [] [] M (f_X11_isMore_b35 M) := by
  unfold f_X11_isMore_b35
  refine aw_iconst (n := 1) (v := (1 : Int32)) B (by decide +kernel) (by decide) ?_
  refine aw_goto (off := 4) B 40 (by decide +kernel) (by decide) ?_
  exact aw_zreturnK B (by decide +kernel) rfl (by decide)
def f_X11_isMore (v1 : Int32) (v2 : Int32) (M : Mem) : Option Int32 := ck (okI 48 v1) (ck (okI 48 v2) ((if (M.1 48 v2.toNatClampNeg) < (M.1 48 v1.toNatClampNeg) then f_X11_isMore_b35 M else ck (okI 48 v1) (ck (okI 48 v2) ((if (M.1 48 v1.toNatClampNeg) = (M.1 48 v2.toNatClampNeg) then (if v2 ≤ v1 then (some (0 : Int32)) else f_X11_isMore_b35 M) else (some (0 : Int32))))))))
set_option maxRecDepth 100000 in
set_option maxHeartbeats 4000000 in
theorem w_X11_isMore {G : GW} {E : EE} (hG : ab_ok G) (B : Bx G E RX11 cX11_isMore 3 2 (some .boolean)) (v1 : Int32) (v2 : Int32) (M : Mem) : AWo G E cX11_isMore 3 (ab_Q G E (embRI M)) 0 [(0, .ref 47), (1, .int v1), (2, .int v2)] [] M (f_X11_isMore v1 v2 M) := by
  unfold f_X11_isMore
  refine aw_aload_n (k0 := 0) B 0 (by decide +kernel) rfl rfl ?_
  refine aw_getr (c := 47) B lkX11_9 (by decide +kernel) rfl (r := 48) rfl ?_
  refine aw_iload_n (k0 := 1) B 1 (by decide +kernel) rfl rfl ?_
  refine aw_iaload B (by decide +kernel) ?_
  refine aw_aload_n (k0 := 0) B 0 (by decide +kernel) rfl rfl ?_
  refine aw_getr (c := 47) B lkX11_9 (by decide +kernel) rfl (r := 48) rfl ?_
  refine aw_iload_n (k0 := 2) B 2 (by decide +kernel) rfl rfl ?_
  refine aw_iaload B (by decide +kernel) ?_
  refine aw_icmp_gt (off := 23) B 35 (by decide +kernel) (by decide) (fun _ => ?_) (fun _ => ?_)
  · exact aw_sub [] rfl (w_X11_isMore_b35 hG M B)
  · refine aw_aload_n (k0 := 0) B 0 (by decide +kernel) rfl rfl ?_
    refine aw_getr (c := 47) B lkX11_9 (by decide +kernel) rfl (r := 48) rfl ?_
    refine aw_iload_n (k0 := 1) B 1 (by decide +kernel) rfl rfl ?_
    refine aw_iaload B (by decide +kernel) ?_
    refine aw_aload_n (k0 := 0) B 0 (by decide +kernel) rfl rfl ?_
    refine aw_getr (c := 47) B lkX11_9 (by decide +kernel) rfl (r := 48) rfl ?_
    refine aw_iload_n (k0 := 2) B 2 (by decide +kernel) rfl rfl ?_
    refine aw_iaload B (by decide +kernel) ?_
    refine aw_icmp_ne (off := 12) B 39 (by decide +kernel) (by decide) (fun _ => ?_) (fun _ => ?_)
    · refine aw_iconst (n := 0) (v := (0 : Int32)) B (by decide +kernel) (by decide) ?_
      exact aw_zreturnK B (by decide +kernel) rfl (by decide)
    · refine aw_iload_n (k0 := 1) B 1 (by decide +kernel) rfl rfl ?_
      refine aw_iload_n (k0 := 2) B 2 (by decide +kernel) rfl rfl ?_
      refine aw_icmp_ge (off := 7) B 39 (by decide +kernel) (by decide) (fun _ => ?_) (fun _ => ?_)
      · refine aw_iconst (n := 0) (v := (0 : Int32)) B (by decide +kernel) (by decide) ?_
        exact aw_zreturnK B (by decide +kernel) rfl (by decide)
      · exact aw_sub [] rfl (w_X11_isMore_b35 hG M B)
theorem c_X11_isMore (l : Launch) {G : GW} (hG : ab_ok G) (v1 : Int32) (v2 : Int32) (M : Mem) : AC l G yX11_isMore cX11_isMore 3 (some .boolean) 2 [.ref 47, .int v1, .int v2] M (embRI M) (f_X11_isMore v1 v2 M) := AC.of hG (by decide) (Nat.le_of_ble_eq_true rfl) (fun E hE B => by subst hE; exact w_X11_isMore hG B v1 v2 M)
def f_X11_champion_b214 (k97 : Int32 → Int32 → Int32 → Int32 → Mem → Option (Int32 × Mem)) (v2 : Int32) (v3 : Int32) (v4 : Int32) (v5 : Int32) (s0 : Int32) (s1 : Int32) (M : Mem) : Option (Int32 × Mem) := ck (okI 66 s1) (lt (wI M 66 s1.toNatClampNeg s0) fun M1 => k97 v2 v3 v4 (v5 + 1) M1)
set_option maxRecDepth 100000 in
set_option maxHeartbeats 4000000 in
theorem w_X11_champion_b214 {G : GW} {E : EE} (hG : ab_ok G) {k97 : Int32 → Int32 → Int32 → Int32 → Mem → Option (Int32 × Mem)} (B : Bx G E RX11 cX11_champion 10 3 (some .int)) (hk97 : ∀ (v2 : Int32) (v3 : Int32) (v4 : Int32) (v5 : Int32) (M : Mem), AWo G E cX11_champion 10 (ab_Q G E embI) 97 [(0, .ref 47), (2, .int v2), (3, .int v3), (4, .int v4), (5, .int v5)] [] M (k97 v2 v3 v4 v5 M)) (v2 : Int32) (v3 : Int32) (v4 : Int32) (v5 : Int32) (s0 : Int32) (s1 : Int32) (M : Mem) : AWo G E cX11_champion 10 (ab_Q G E embI) 214 [(0, .ref 47), (2, .int v2), (3, .int v3), (4, .int v4), (5, .int v5)] [.int s0, .int s1, .ref 66] M (f_X11_champion_b214 k97 v2 v3 v4 v5 s0 s1 M) := by
  unfold f_X11_champion_b214
  refine aw_iastore B (by decide +kernel) (fun M1 => ?_)
  refine aw_iinc (i := 5) (n := 1) B 4 [(5, .int (v5 + 1)), (0, .ref 47), (2, .int v2), (3, .int v3), (4, .int v4)] (by decide +kernel) rfl (Nat.le_of_ble_eq_true rfl) (v5 + 1) (ab_inc (by decide)) rfl ?_
  refine aw_goto (off := -121) B 97 (by decide +kernel) (by decide) ?_
  exact aw_sub [1, 2, 3, 4, 0] rfl (hk97 _ _ _ _ _)
def f_X11_champion_b189 (k97 : Int32 → Int32 → Int32 → Int32 → Mem → Option (Int32 × Mem)) (v2 : Int32) (v4 : Int32) (v5 : Int32) (v6 : Int32) (v7 : Int32) (s0 : Int32) (M : Mem) : Option (Int32 × Mem) := (f_X11_isMore v6 v7 M).bind fun x1 => (if x1 = 0 then f_X11_champion_b214 k97 v2 s0 v4 v5 v7 v5 M else f_X11_champion_b214 k97 v2 s0 v4 v5 v6 v5 M)
set_option maxRecDepth 100000 in
set_option maxHeartbeats 4000000 in
theorem w_X11_champion_b189 {G : GW} {E : EE} (hG : ab_ok G) {k97 : Int32 → Int32 → Int32 → Int32 → Mem → Option (Int32 × Mem)} (B : Bx G E RX11 cX11_champion 10 3 (some .int)) (hk97 : ∀ (v2 : Int32) (v3 : Int32) (v4 : Int32) (v5 : Int32) (M : Mem), AWo G E cX11_champion 10 (ab_Q G E embI) 97 [(0, .ref 47), (2, .int v2), (3, .int v3), (4, .int v4), (5, .int v5)] [] M (k97 v2 v3 v4 v5 M)) (v2 : Int32) (v4 : Int32) (v5 : Int32) (v6 : Int32) (v7 : Int32) (s0 : Int32) (M : Mem) : AWo G E cX11_champion 10 (ab_Q G E embI) 189 [(0, .ref 47), (2, .int v2), (4, .int v4), (5, .int v5), (6, .int v6), (7, .int v7)] [.int s0] M (f_X11_champion_b189 k97 v2 v4 v5 v6 v7 s0 M) := by
  unfold f_X11_champion_b189
  refine aw_istore_n (k0 := 3) B [(3, .int s0), (0, .ref 47), (2, .int v2), (4, .int v4), (5, .int v5), (6, .int v6), (7, .int v7)] (by decide +kernel) rfl (Nat.le_of_ble_eq_true rfl) rfl ?_
  refine aw_aload_n (k0 := 0) B 1 (by decide +kernel) rfl rfl ?_
  refine aw_getr (c := 47) B lkX11_65 (by decide +kernel) rfl (r := 66) rfl ?_
  refine aw_iload (i := 5) B 4 (by decide +kernel) rfl ?_
  refine aw_aload_n (k0 := 0) B 1 (by decide +kernel) rfl rfl ?_
  refine aw_iload (i := 6) B 5 (by decide +kernel) rfl ?_
  refine aw_iload (i := 7) B 6 (by decide +kernel) rfl ?_
  refine aw_cVR B (c_X11_isMore (eLa E) hG v6 v7 M) cvX11_324 rfl rfl (Nat.le_of_ble_eq_true rfl) rfl (Nat.le_of_ble_eq_true rfl) (by decide +kernel) rfl (fun x1 => ?_)
  refine aw_if_eq (off := 8) B 212 (by decide +kernel) (by decide) (fun _ => ?_) (fun _ => ?_)
  · refine aw_iload (i := 7) B 6 (by decide +kernel) rfl ?_
    exact aw_sub [1, 2, 0, 3, 4] rfl (w_X11_champion_b214 hG B hk97 _ _ _ _ _ _ _)
  · refine aw_iload (i := 6) B 5 (by decide +kernel) rfl ?_
    refine aw_goto (off := 5) B 214 (by decide +kernel) (by decide) ?_
    exact aw_sub [1, 2, 0, 3, 4] rfl (w_X11_champion_b214 hG B hk97 _ _ _ _ _ _ _)
def f_X11_champion_b188 (k97 : Int32 → Int32 → Int32 → Int32 → Mem → Option (Int32 × Mem)) (v2 : Int32) (v3 : Int32) (v4 : Int32) (v5 : Int32) (v6 : Int32) (v7 : Int32) (M : Mem) : Option (Int32 × Mem) := f_X11_champion_b189 k97 v2 v4 v5 v6 v7 v3 M
set_option maxRecDepth 100000 in
set_option maxHeartbeats 4000000 in
theorem w_X11_champion_b188 {G : GW} {E : EE} (hG : ab_ok G) {k97 : Int32 → Int32 → Int32 → Int32 → Mem → Option (Int32 × Mem)} (B : Bx G E RX11 cX11_champion 10 3 (some .int)) (hk97 : ∀ (v2 : Int32) (v3 : Int32) (v4 : Int32) (v5 : Int32) (M : Mem), AWo G E cX11_champion 10 (ab_Q G E embI) 97 [(0, .ref 47), (2, .int v2), (3, .int v3), (4, .int v4), (5, .int v5)] [] M (k97 v2 v3 v4 v5 M)) (v2 : Int32) (v3 : Int32) (v4 : Int32) (v5 : Int32) (v6 : Int32) (v7 : Int32) (M : Mem) : AWo G E cX11_champion 10 (ab_Q G E embI) 188 [(0, .ref 47), (2, .int v2), (3, .int v3), (4, .int v4), (5, .int v5), (6, .int v6), (7, .int v7)] [] M (f_X11_champion_b188 k97 v2 v3 v4 v5 v6 v7 M) := by
  unfold f_X11_champion_b188
  refine aw_iload_n (k0 := 3) B 2 (by decide +kernel) rfl rfl ?_
  exact aw_sub [0, 1, 3, 4, 5, 6] rfl (w_X11_champion_b189 hG B hk97 _ _ _ _ _ _ _)
def f_X11_champion_b183 (k97 : Int32 → Int32 → Int32 → Int32 → Mem → Option (Int32 × Mem)) (v2 : Int32) (v4 : Int32) (v5 : Int32) (v6 : Int32) (v7 : Int32) (v8 : Int32) (M : Mem) : Option (Int32 × Mem) := f_X11_champion_b189 k97 v2 v4 v5 v6 v7 v8 M
set_option maxRecDepth 100000 in
set_option maxHeartbeats 4000000 in
theorem w_X11_champion_b183 {G : GW} {E : EE} (hG : ab_ok G) {k97 : Int32 → Int32 → Int32 → Int32 → Mem → Option (Int32 × Mem)} (B : Bx G E RX11 cX11_champion 10 3 (some .int)) (hk97 : ∀ (v2 : Int32) (v3 : Int32) (v4 : Int32) (v5 : Int32) (M : Mem), AWo G E cX11_champion 10 (ab_Q G E embI) 97 [(0, .ref 47), (2, .int v2), (3, .int v3), (4, .int v4), (5, .int v5)] [] M (k97 v2 v3 v4 v5 M)) (v2 : Int32) (v4 : Int32) (v5 : Int32) (v6 : Int32) (v7 : Int32) (v8 : Int32) (M : Mem) : AWo G E cX11_champion 10 (ab_Q G E embI) 183 [(0, .ref 47), (2, .int v2), (4, .int v4), (5, .int v5), (6, .int v6), (7, .int v7), (8, .int v8)] [] M (f_X11_champion_b183 k97 v2 v4 v5 v6 v7 v8 M) := by
  unfold f_X11_champion_b183
  refine aw_iload (i := 8) B 6 (by decide +kernel) rfl ?_
  refine aw_goto (off := 4) B 189 (by decide +kernel) (by decide) ?_
  exact aw_sub [0, 1, 2, 3, 4, 5] rfl (w_X11_champion_b189 hG B hk97 _ _ _ _ _ _ _)
def f_X11_champion_b162 (k97 : Int32 → Int32 → Int32 → Int32 → Mem → Option (Int32 × Mem)) (v2 : Int32) (v3 : Int32) (v4 : Int32) (v5 : Int32) (v6 : Int32) (v7 : Int32) (v8 : Int32) (s0 : Int32) (M : Mem) : Option (Int32 × Mem) := (if s0 = 0 then f_X11_champion_b188 k97 v2 v3 v4 v5 v6 v7 M else (if v3 < 0 then f_X11_champion_b183 k97 v2 v4 v5 v6 v7 v8 M else (f_X11_isMore v8 v3 M).bind fun x1 => (if x1 = 0 then f_X11_champion_b188 k97 v2 v3 v4 v5 v6 v7 M else f_X11_champion_b183 k97 v2 v4 v5 v6 v7 v8 M)))
set_option maxRecDepth 100000 in
set_option maxHeartbeats 4000000 in
theorem w_X11_champion_b162 {G : GW} {E : EE} (hG : ab_ok G) {k97 : Int32 → Int32 → Int32 → Int32 → Mem → Option (Int32 × Mem)} (B : Bx G E RX11 cX11_champion 10 3 (some .int)) (hk97 : ∀ (v2 : Int32) (v3 : Int32) (v4 : Int32) (v5 : Int32) (M : Mem), AWo G E cX11_champion 10 (ab_Q G E embI) 97 [(0, .ref 47), (2, .int v2), (3, .int v3), (4, .int v4), (5, .int v5)] [] M (k97 v2 v3 v4 v5 M)) (v2 : Int32) (v3 : Int32) (v4 : Int32) (v5 : Int32) (v6 : Int32) (v7 : Int32) (v8 : Int32) (s0 : Int32) (M : Mem) : AWo G E cX11_champion 10 (ab_Q G E embI) 162 [(0, .ref 47), (2, .int v2), (3, .int v3), (4, .int v4), (5, .int v5), (6, .int v6), (7, .int v7), (8, .int v8)] [.int s0] M (f_X11_champion_b162 k97 v2 v3 v4 v5 v6 v7 v8 s0 M) := by
  unfold f_X11_champion_b162
  refine aw_istore (i := 9) B [(9, .int s0), (0, .ref 47), (2, .int v2), (3, .int v3), (4, .int v4), (5, .int v5), (6, .int v6), (7, .int v7), (8, .int v8)] (by decide +kernel) (Nat.le_of_ble_eq_true rfl) rfl ?_
  refine aw_iload (i := 9) B 0 (by decide +kernel) rfl ?_
  refine aw_if_eq (off := 22) B 188 (by decide +kernel) (by decide) (fun _ => ?_) (fun _ => ?_)
  · exact aw_sub [1, 2, 3, 4, 5, 6, 7] rfl (w_X11_champion_b188 hG B hk97 _ _ _ _ _ _ _)
  · refine aw_iload_n (k0 := 3) B 3 (by decide +kernel) rfl rfl ?_
    refine aw_if_lt (off := 13) B 183 (by decide +kernel) (by decide) (fun _ => ?_) (fun _ => ?_)
    · exact aw_sub [1, 2, 4, 5, 6, 7, 8] rfl (w_X11_champion_b183 hG B hk97 _ _ _ _ _ _ _)
    · refine aw_aload_n (k0 := 0) B 1 (by decide +kernel) rfl rfl ?_
      refine aw_iload (i := 8) B 8 (by decide +kernel) rfl ?_
      refine aw_iload_n (k0 := 3) B 3 (by decide +kernel) rfl rfl ?_
      refine aw_cVR B (c_X11_isMore (eLa E) hG v8 v3 M) cvX11_324 rfl rfl (Nat.le_of_ble_eq_true rfl) rfl (Nat.le_of_ble_eq_true rfl) (by decide +kernel) rfl (fun x1 => ?_)
      refine aw_if_eq (off := 8) B 188 (by decide +kernel) (by decide) (fun _ => ?_) (fun _ => ?_)
      · exact aw_sub [1, 2, 3, 4, 5, 6, 7] rfl (w_X11_champion_b188 hG B hk97 _ _ _ _ _ _ _)
      · exact aw_sub [1, 2, 4, 5, 6, 7, 8] rfl (w_X11_champion_b183 hG B hk97 _ _ _ _ _ _ _)
def f_X11_champion_b157 (k97 : Int32 → Int32 → Int32 → Int32 → Mem → Option (Int32 × Mem)) (v2 : Int32) (v3 : Int32) (v4 : Int32) (v5 : Int32) (v6 : Int32) (v7 : Int32) (v8 : Int32) (M : Mem) : Option (Int32 × Mem) := f_X11_champion_b162 k97 v2 v3 v4 v5 v6 v7 v8 (1 : Int32) M
set_option maxRecDepth 100000 in
set_option maxHeartbeats 4000000 in
theorem w_X11_champion_b157 {G : GW} {E : EE} (hG : ab_ok G) {k97 : Int32 → Int32 → Int32 → Int32 → Mem → Option (Int32 × Mem)} (B : Bx G E RX11 cX11_champion 10 3 (some .int)) (hk97 : ∀ (v2 : Int32) (v3 : Int32) (v4 : Int32) (v5 : Int32) (M : Mem), AWo G E cX11_champion 10 (ab_Q G E embI) 97 [(0, .ref 47), (2, .int v2), (3, .int v3), (4, .int v4), (5, .int v5)] [] M (k97 v2 v3 v4 v5 M)) (v2 : Int32) (v3 : Int32) (v4 : Int32) (v5 : Int32) (v6 : Int32) (v7 : Int32) (v8 : Int32) (M : Mem) : AWo G E cX11_champion 10 (ab_Q G E embI) 157 [(0, .ref 47), (2, .int v2), (3, .int v3), (4, .int v4), (5, .int v5), (6, .int v6), (7, .int v7), (8, .int v8)] [] M (f_X11_champion_b157 k97 v2 v3 v4 v5 v6 v7 v8 M) := by
  unfold f_X11_champion_b157
  refine aw_iconst (n := 1) (v := (1 : Int32)) B (by decide +kernel) (by decide) ?_
  refine aw_goto (off := 4) B 162 (by decide +kernel) (by decide) ?_
  exact w_X11_champion_b162 hG B hk97 _ _ _ _ _ _ _ _ _
def f_X11_champion_b143 (k97 : Int32 → Int32 → Int32 → Int32 → Mem → Option (Int32 × Mem)) (v2 : Int32) (v3 : Int32) (v4 : Int32) (v5 : Int32) (v6 : Int32) (v7 : Int32) (s0 : Int32) (M : Mem) : Option (Int32 × Mem) := (if v6 = v2 then f_X11_champion_b157 k97 v2 v3 v4 v5 v6 v7 s0 M else (if v7 = v2 then f_X11_champion_b157 k97 v2 v3 v4 v5 v6 v7 s0 M else f_X11_champion_b162 k97 v2 v3 v4 v5 v6 v7 s0 (0 : Int32) M))
set_option maxRecDepth 100000 in
set_option maxHeartbeats 4000000 in
theorem w_X11_champion_b143 {G : GW} {E : EE} (hG : ab_ok G) {k97 : Int32 → Int32 → Int32 → Int32 → Mem → Option (Int32 × Mem)} (B : Bx G E RX11 cX11_champion 10 3 (some .int)) (hk97 : ∀ (v2 : Int32) (v3 : Int32) (v4 : Int32) (v5 : Int32) (M : Mem), AWo G E cX11_champion 10 (ab_Q G E embI) 97 [(0, .ref 47), (2, .int v2), (3, .int v3), (4, .int v4), (5, .int v5)] [] M (k97 v2 v3 v4 v5 M)) (v2 : Int32) (v3 : Int32) (v4 : Int32) (v5 : Int32) (v6 : Int32) (v7 : Int32) (s0 : Int32) (M : Mem) : AWo G E cX11_champion 10 (ab_Q G E embI) 143 [(0, .ref 47), (2, .int v2), (3, .int v3), (4, .int v4), (5, .int v5), (6, .int v6), (7, .int v7)] [.int s0] M (f_X11_champion_b143 k97 v2 v3 v4 v5 v6 v7 s0 M) := by
  unfold f_X11_champion_b143
  refine aw_istore (i := 8) B [(8, .int s0), (0, .ref 47), (2, .int v2), (3, .int v3), (4, .int v4), (5, .int v5), (6, .int v6), (7, .int v7)] (by decide +kernel) (Nat.le_of_ble_eq_true rfl) rfl ?_
  refine aw_iload (i := 6) B 6 (by decide +kernel) rfl ?_
  refine aw_iload_n (k0 := 2) B 2 (by decide +kernel) rfl rfl ?_
  refine aw_icmp_eq (off := 9) B 157 (by decide +kernel) (by decide) (fun _ => ?_) (fun _ => ?_)
  · exact aw_sub [1, 2, 3, 4, 5, 6, 7, 0] rfl (w_X11_champion_b157 hG B hk97 _ _ _ _ _ _ _ _)
  · refine aw_iload (i := 7) B 7 (by decide +kernel) rfl ?_
    refine aw_iload_n (k0 := 2) B 2 (by decide +kernel) rfl rfl ?_
    refine aw_icmp_ne (off := 7) B 161 (by decide +kernel) (by decide) (fun _ => ?_) (fun _ => ?_)
    · refine aw_iconst (n := 0) (v := (0 : Int32)) B (by decide +kernel) (by decide) ?_
      exact aw_sub [1, 2, 3, 4, 5, 6, 7, 0] rfl (w_X11_champion_b162 hG B hk97 _ _ _ _ _ _ _ _ _)
    · exact aw_sub [1, 2, 3, 4, 5, 6, 7, 0] rfl (w_X11_champion_b157 hG B hk97 _ _ _ _ _ _ _ _)
def f_X11_champion_L97 (k88 : Int32 → Int32 → Int32 → Mem → Option (Int32 × Mem)) : Nat → Int32 → Int32 → Int32 → Int32 → Mem → Option (Int32 × Mem)
  | 0, _, _, _, _, _ => none
  | n + 1, v2, v3, v4, v5, M => (if (v4 / (2 : Int32)) ≤ v5 then lt (v4 / (2 : Int32)) fun x1 => k88 v2 v3 x1 M else ck (okI 66 ((2 : Int32) * v5)) (lt (M.1 66 ((2 : Int32) * v5).toNatClampNeg) fun x2 => ck (okI 66 (((2 : Int32) * v5) + (1 : Int32))) (lt (M.1 66 (((2 : Int32) * v5) + (1 : Int32)).toNatClampNeg) fun x3 => (if x2 = v2 then f_X11_champion_b143 (fun a0 a1 a2 a3 a4 => f_X11_champion_L97 k88 n a0 a1 a2 a3 a4) v2 v3 v4 v5 x2 x3 x3 M else f_X11_champion_b143 (fun a0 a1 a2 a3 a4 => f_X11_champion_L97 k88 n a0 a1 a2 a3 a4) v2 v3 v4 v5 x2 x3 x2 M))))
set_option maxRecDepth 100000 in
set_option maxHeartbeats 4000000 in
theorem w_X11_champion_L97 {G : GW} {E : EE} (hG : ab_ok G) {k88 : Int32 → Int32 → Int32 → Mem → Option (Int32 × Mem)} (B : Bx G E RX11 cX11_champion 10 3 (some .int)) (hk88 : ∀ (v2 : Int32) (v3 : Int32) (v4 : Int32) (M : Mem), AWo G E cX11_champion 10 (ab_Q G E embI) 88 [(0, .ref 47), (2, .int v2), (3, .int v3), (4, .int v4)] [] M (k88 v2 v3 v4 M)) : ∀ (n : Nat) (v2 : Int32) (v3 : Int32) (v4 : Int32) (v5 : Int32) (M : Mem), AWo G E cX11_champion 10 (ab_Q G E embI) 97 [(0, .ref 47), (2, .int v2), (3, .int v3), (4, .int v4), (5, .int v5)] [] M (f_X11_champion_L97 k88 n v2 v3 v4 v5 M) := by
  intro n
  induction n with
  | zero => intro _ _ _ _ _; exact aw_none
  | succ n ih =>
    intro v2 v3 v4 v5 M
    rw [f_X11_champion_L97]
    refine aw_iload (i := 5) B 4 (by decide +kernel) rfl ?_
    refine aw_iload (i := 4) B 3 (by decide +kernel) rfl ?_
    refine aw_iconst (n := 2) (v := (2 : Int32)) B (by decide +kernel) (by decide) ?_
    refine aw_idivK B (by decide +kernel) (by decide) ?_
    refine aw_icmp_ge (off := 118) B 221 (by decide +kernel) (by decide) (fun _ => ?_) (fun _ => ?_)
    · refine aw_iload (i := 4) B 3 (by decide +kernel) rfl ?_
      refine aw_iconst (n := 2) (v := (2 : Int32)) B (by decide +kernel) (by decide) ?_
      refine aw_idivK B (by decide +kernel) (by decide) ?_
      refine aw_ltI (fun x1 => ?_)
      refine aw_istore (i := 4) B [(4, .int x1), (0, .ref 47), (2, .int v2), (3, .int v3), (5, .int v5)] (by decide +kernel) (Nat.le_of_ble_eq_true rfl) rfl ?_
      refine aw_goto (off := -139) B 88 (by decide +kernel) (by decide) ?_
      exact aw_sub [1, 2, 3, 0] rfl (hk88 _ _ _ _)
    · refine aw_aload_n (k0 := 0) B 0 (by decide +kernel) rfl rfl ?_
      refine aw_getr (c := 47) B lkX11_65 (by decide +kernel) rfl (r := 66) rfl ?_
      refine aw_iconst (n := 2) (v := (2 : Int32)) B (by decide +kernel) (by decide) ?_
      refine aw_iload (i := 5) B 4 (by decide +kernel) rfl ?_
      refine aw_imul B (by decide +kernel) ?_
      refine aw_iaload B (by decide +kernel) ?_
      refine aw_ltI (fun x2 => ?_)
      refine aw_istore (i := 6) B [(6, .int x2), (0, .ref 47), (2, .int v2), (3, .int v3), (4, .int v4), (5, .int v5)] (by decide +kernel) (Nat.le_of_ble_eq_true rfl) rfl ?_
      refine aw_aload_n (k0 := 0) B 1 (by decide +kernel) rfl rfl ?_
      refine aw_getr (c := 47) B lkX11_65 (by decide +kernel) rfl (r := 66) rfl ?_
      refine aw_iconst (n := 2) (v := (2 : Int32)) B (by decide +kernel) (by decide) ?_
      refine aw_iload (i := 5) B 5 (by decide +kernel) rfl ?_
      refine aw_imul B (by decide +kernel) ?_
      refine aw_iconst (n := 1) (v := (1 : Int32)) B (by decide +kernel) (by decide) ?_
      refine aw_iadd B (by decide +kernel) ?_
      refine aw_iaload B (by decide +kernel) ?_
      refine aw_ltI (fun x3 => ?_)
      refine aw_istore (i := 7) B [(7, .int x3), (6, .int x2), (0, .ref 47), (2, .int v2), (3, .int v3), (4, .int v4), (5, .int v5)] (by decide +kernel) (Nat.le_of_ble_eq_true rfl) rfl ?_
      refine aw_iload (i := 6) B 1 (by decide +kernel) rfl ?_
      refine aw_iload_n (k0 := 2) B 3 (by decide +kernel) rfl rfl ?_
      refine aw_icmp_ne (off := 8) B 141 (by decide +kernel) (by decide) (fun _ => ?_) (fun _ => ?_)
      · refine aw_iload (i := 6) B 1 (by decide +kernel) rfl ?_
        exact aw_sub [2, 3, 4, 5, 6, 1, 0] rfl (w_X11_champion_b143 hG B ih _ _ _ _ _ _ _ _)
      · refine aw_iload (i := 7) B 0 (by decide +kernel) rfl ?_
        refine aw_goto (off := 5) B 143 (by decide +kernel) (by decide) ?_
        exact aw_sub [2, 3, 4, 5, 6, 1, 0] rfl (w_X11_champion_b143 hG B ih _ _ _ _ _ _ _ _)
def f_X11_champion_L88 : Nat → Int32 → Int32 → Int32 → Mem → Option (Int32 × Mem)
  | 0, _, _, _, _ => none
  | n + 1, v2, v3, v4, M => (if v4 ≤ (1 : Int32) then (some (v3, M)) else f_X11_champion_L97 (fun a0 a1 a2 a3 => f_X11_champion_L88 n a0 a1 a2 a3) FU v2 v3 v4 (0 : Int32) M)
set_option maxRecDepth 100000 in
set_option maxHeartbeats 4000000 in
theorem w_X11_champion_L88 {G : GW} {E : EE} (hG : ab_ok G) (B : Bx G E RX11 cX11_champion 10 3 (some .int)) : ∀ (n : Nat) (v2 : Int32) (v3 : Int32) (v4 : Int32) (M : Mem), AWo G E cX11_champion 10 (ab_Q G E embI) 88 [(0, .ref 47), (2, .int v2), (3, .int v3), (4, .int v4)] [] M (f_X11_champion_L88 n v2 v3 v4 M) := by
  intro n
  induction n with
  | zero => intro _ _ _ _; exact aw_none
  | succ n ih =>
    intro v2 v3 v4 M
    rw [f_X11_champion_L88]
    refine aw_iload (i := 4) B 3 (by decide +kernel) rfl ?_
    refine aw_iconst (n := 1) (v := (1 : Int32)) B (by decide +kernel) (by decide) ?_
    refine aw_icmp_le (off := 139) B 230 (by decide +kernel) (by decide) (fun _ => ?_) (fun _ => ?_)
    · refine aw_iload_n (k0 := 3) B 2 (by decide +kernel) rfl rfl ?_
      exact aw_ireturn B (by decide +kernel) rfl
    · refine aw_iconst (n := 0) (v := (0 : Int32)) B (by decide +kernel) (by decide) ?_
      refine aw_istore (i := 5) B [(5, .int (0 : Int32)), (0, .ref 47), (2, .int v2), (3, .int v3), (4, .int v4)] (by decide +kernel) (Nat.le_of_ble_eq_true rfl) rfl ?_
      exact aw_sub [1, 2, 3, 4, 0] rfl (w_X11_champion_L97 hG B ih FU _ _ _ _ _)
def f_X11_champion_b63 (k31 : Int32 → Int32 → Int32 → Mem → Option (Int32 × Mem)) (v1 : Int32) (v3 : Int32) (s0 : Int32) (M : Mem) : Option (Int32 × Mem) := k31 v1 s0 (v3 + 1) M
set_option maxRecDepth 100000 in
set_option maxHeartbeats 4000000 in
theorem w_X11_champion_b63 {G : GW} {E : EE} (hG : ab_ok G) {k31 : Int32 → Int32 → Int32 → Mem → Option (Int32 × Mem)} (B : Bx G E RX11 cX11_champion 10 3 (some .int)) (hk31 : ∀ (v1 : Int32) (v2 : Int32) (v3 : Int32) (M : Mem), AWo G E cX11_champion 10 (ab_Q G E embI) 31 [(0, .ref 47), (1, .int v1), (2, .int v2), (3, .int v3)] [] M (k31 v1 v2 v3 M)) (v1 : Int32) (v3 : Int32) (s0 : Int32) (M : Mem) : AWo G E cX11_champion 10 (ab_Q G E embI) 63 [(0, .ref 47), (1, .int v1), (3, .int v3)] [.int s0] M (f_X11_champion_b63 k31 v1 v3 s0 M) := by
  unfold f_X11_champion_b63
  refine aw_istore_n (k0 := 2) B [(2, .int s0), (0, .ref 47), (1, .int v1), (3, .int v3)] (by decide +kernel) rfl (Nat.le_of_ble_eq_true rfl) rfl ?_
  refine aw_iinc (i := 3) (n := 1) B 3 [(3, .int (v3 + 1)), (2, .int s0), (0, .ref 47), (1, .int v1)] (by decide +kernel) rfl (Nat.le_of_ble_eq_true rfl) (v3 + 1) (ab_inc (by decide)) rfl ?_
  refine aw_goto (off := -36) B 31 (by decide +kernel) (by decide) ?_
  exact aw_sub [2, 3, 1, 0] rfl (hk31 _ _ _ _)
def f_X11_champion_L31 : Nat → Int32 → Int32 → Int32 → Mem → Option (Int32 × Mem)
  | 0, _, _, _, _ => none
  | n + 1, v1, v2, v3, M => (if (M.1 47 34) ≤ v3 then (if v1 = 0 then (some (v2, M)) else (f_X11_linesUp M).bind fun M2 => lt (M2.1 47 34) fun x3 => f_X11_champion_L88 FU v2 (-1 : Int32) x3 M2) else ck (okI 65 v3) ((f_X11_isMore (M.1 65 v3.toNatClampNeg) v2 M).bind fun x4 => (if x4 = 0 then f_X11_champion_b63 (fun a0 a1 a2 a3 => f_X11_champion_L31 n a0 a1 a2 a3) v1 v3 v2 M else ck (okI 65 v3) (f_X11_champion_b63 (fun a0 a1 a2 a3 => f_X11_champion_L31 n a0 a1 a2 a3) v1 v3 (M.1 65 v3.toNatClampNeg) M))))
set_option maxRecDepth 100000 in
set_option maxHeartbeats 4000000 in
theorem w_X11_champion_L31 {G : GW} {E : EE} (hG : ab_ok G) (B : Bx G E RX11 cX11_champion 10 3 (some .int)) : ∀ (n : Nat) (v1 : Int32) (v2 : Int32) (v3 : Int32) (M : Mem), AWo G E cX11_champion 10 (ab_Q G E embI) 31 [(0, .ref 47), (1, .int v1), (2, .int v2), (3, .int v3)] [] M (f_X11_champion_L31 n v1 v2 v3 M) := by
  intro n
  induction n with
  | zero => intro _ _ _ _; exact aw_none
  | succ n ih =>
    intro v1 v2 v3 M
    rw [f_X11_champion_L31]
    refine aw_iload_n (k0 := 3) B 3 (by decide +kernel) rfl rfl ?_
    refine aw_aload_n (k0 := 0) B 0 (by decide +kernel) rfl rfl ?_
    refine aw_geti (c := 47) B lkX11_285 (by decide +kernel) rfl ?_
    refine aw_icmp_ge (off := 34) B 70 (by decide +kernel) (by decide) (fun _ => ?_) (fun _ => ?_)
    · refine aw_iload_n (k0 := 1) B 1 (by decide +kernel) rfl rfl ?_
      refine aw_if_ne (off := 5) B 76 (by decide +kernel) (by decide) (fun _ => ?_) (fun _ => ?_)
      · refine aw_aload_n (k0 := 0) B 0 (by decide +kernel) rfl rfl ?_
        refine aw_cVV B (c_X11_linesUp (eLa E) hG M) cvX11_303 rfl rfl (Nat.le_of_ble_eq_true rfl) rfl (Nat.le_of_ble_eq_true rfl) (by decide +kernel) rfl (fun M2 => ?_)
        refine aw_iconst (n := -1) (v := (-1 : Int32)) B (by decide +kernel) (by decide) ?_
        refine aw_istore_n (k0 := 3) B [(3, .int (-1 : Int32)), (0, .ref 47), (1, .int v1), (2, .int v2)] (by decide +kernel) rfl (Nat.le_of_ble_eq_true rfl) rfl ?_
        refine aw_aload_n (k0 := 0) B 1 (by decide +kernel) rfl rfl ?_
        refine aw_geti (c := 47) B lkX11_285 (by decide +kernel) rfl ?_
        refine aw_ltI (fun x3 => ?_)
        refine aw_istore (i := 4) B [(4, .int x3), (3, .int (-1 : Int32)), (0, .ref 47), (1, .int v1), (2, .int v2)] (by decide +kernel) (Nat.le_of_ble_eq_true rfl) rfl ?_
        exact aw_sub [2, 4, 1, 0] rfl (w_X11_champion_L88 hG B FU _ _ _ _)
      · refine aw_iload_n (k0 := 2) B 2 (by decide +kernel) rfl rfl ?_
        exact aw_ireturn B (by decide +kernel) rfl
    · refine aw_aload_n (k0 := 0) B 0 (by decide +kernel) rfl rfl ?_
      refine aw_aload_n (k0 := 0) B 0 (by decide +kernel) rfl rfl ?_
      refine aw_getr (c := 47) B lkX11_62 (by decide +kernel) rfl (r := 65) rfl ?_
      refine aw_iload_n (k0 := 3) B 3 (by decide +kernel) rfl rfl ?_
      refine aw_iaload B (by decide +kernel) ?_
      refine aw_iload_n (k0 := 2) B 2 (by decide +kernel) rfl rfl ?_
      refine aw_cVR B (c_X11_isMore (eLa E) hG (M.1 65 v3.toNatClampNeg) v2 M) cvX11_324 rfl rfl (Nat.le_of_ble_eq_true rfl) rfl (Nat.le_of_ble_eq_true rfl) (by decide +kernel) rfl (fun x4 => ?_)
      refine aw_if_eq (off := 12) B 62 (by decide +kernel) (by decide) (fun _ => ?_) (fun _ => ?_)
      · refine aw_iload_n (k0 := 2) B 2 (by decide +kernel) rfl rfl ?_
        exact aw_sub [0, 1, 3] rfl (w_X11_champion_b63 hG B ih _ _ _ _)
      · refine aw_aload_n (k0 := 0) B 0 (by decide +kernel) rfl rfl ?_
        refine aw_getr (c := 47) B lkX11_62 (by decide +kernel) rfl (r := 65) rfl ?_
        refine aw_iload_n (k0 := 3) B 3 (by decide +kernel) rfl rfl ?_
        refine aw_iaload B (by decide +kernel) ?_
        refine aw_goto (off := 4) B 63 (by decide +kernel) (by decide) ?_
        exact aw_sub [0, 1, 3] rfl (w_X11_champion_b63 hG B ih _ _ _ _)
def f_X11_champion (v1 : Int32) (M : Mem) : Option (Int32 × Mem) := (f_X11_within v1.toInt64 (0 : Int64) (1 : Int64)).bind fun x1 => (if x1 = 0 then (some ((-1 : Int32), M)) else (f_X11_isCup M).bind fun x3 => (if x3 = 0 then (some ((-5 : Int32), M)) else ck (okI 65 (0 : Int32)) (lt (M.1 65 (0 : Int32).toNatClampNeg) fun x5 => f_X11_champion_L31 FU v1 x5 (1 : Int32) M)))
set_option maxRecDepth 100000 in
set_option maxHeartbeats 4000000 in
theorem w_X11_champion {G : GW} {E : EE} (hG : ab_ok G) (B : Bx G E RX11 cX11_champion 10 3 (some .int)) (v1 : Int32) (M : Mem) : AWo G E cX11_champion 10 (ab_Q G E embI) 0 [(0, .ref 47), (1, .int v1)] [] M (f_X11_champion v1 M) := by
  unfold f_X11_champion
  refine aw_iload_n (k0 := 1) B 1 (by decide +kernel) rfl rfl ?_
  refine aw_i2l B (by decide +kernel) ?_
  refine aw_lconst (n := 0) (v := (0 : Int64)) B (by decide +kernel) (by decide) ?_
  refine aw_lconst (n := 1) (v := (1 : Int64)) B (by decide +kernel) (by decide) ?_
  refine aw_cSR B (c_X11_within (eLa E) hG v1.toInt64 (0 : Int64) (1 : Int64) M) csX11_112 (Nat.le_of_ble_eq_true rfl) rfl (Nat.le_of_ble_eq_true rfl) (by decide +kernel) rfl (fun x1 => ?_)
  refine aw_if_ne (off := 5) B 12 (by decide +kernel) (by decide) (fun _ => ?_) (fun _ => ?_)
  · refine aw_aload_n (k0 := 0) B 0 (by decide +kernel) rfl rfl ?_
    refine aw_cVR B (c_X11_isCup (eLa E) hG M) cvX11_295 rfl rfl (Nat.le_of_ble_eq_true rfl) rfl (Nat.le_of_ble_eq_true rfl) (by decide +kernel) rfl (fun x3 => ?_)
    refine aw_if_ne (off := 6) B 22 (by decide +kernel) (by decide) (fun _ => ?_) (fun _ => ?_)
    · refine aw_aload_n (k0 := 0) B 0 (by decide +kernel) rfl rfl ?_
      refine aw_getr (c := 47) B lkX11_62 (by decide +kernel) rfl (r := 65) rfl ?_
      refine aw_iconst (n := 0) (v := (0 : Int32)) B (by decide +kernel) (by decide) ?_
      refine aw_iaload B (by decide +kernel) ?_
      refine aw_ltI (fun x5 => ?_)
      refine aw_istore_n (k0 := 2) B [(2, .int x5), (0, .ref 47), (1, .int v1)] (by decide +kernel) rfl (Nat.le_of_ble_eq_true rfl) rfl ?_
      refine aw_iconst (n := 1) (v := (1 : Int32)) B (by decide +kernel) (by decide) ?_
      refine aw_istore_n (k0 := 3) B [(3, .int (1 : Int32)), (2, .int x5), (0, .ref 47), (1, .int v1)] (by decide +kernel) rfl (Nat.le_of_ble_eq_true rfl) rfl ?_
      exact aw_sub [2, 3, 1, 0] rfl (w_X11_champion_L31 hG B FU _ _ _ _)
    · refine aw_bipush (n := -5) (v := (-5 : Int32)) B (by decide +kernel) (by decide) ?_
      exact aw_ireturn B (by decide +kernel) rfl
  · refine aw_iconst (n := -1) (v := (-1 : Int32)) B (by decide +kernel) (by decide) ?_
    exact aw_ireturn B (by decide +kernel) rfl
theorem c_X11_champion (l : Launch) {G : GW} (hG : ab_ok G) (v1 : Int32) (M : Mem) : AC l G yX11_champion cX11_champion 10 (some .int) 3 [.ref 47, .int v1] M embI (f_X11_champion v1 M) := AC.of hG (by decide) (Nat.le_of_ble_eq_true rfl) (fun E hE B => by subst hE; exact w_X11_champion hG B v1 M)
def f_X6_read_L10 : Nat → Int32 → Mem → Option Mem
  | 0, _, _ => none
  | n + 1, v2, M => (if (M.1 34 2) ≤ v2 then (some M) else (f_X4_wonBy v2 M).bind fun x1 => ck (okI 35 v2) (lt (wI M 35 v2.toNatClampNeg x1) fun M3 => (f_X4_lostBy v2 M3).bind fun x4 => ck (okI 36 v2) (lt (wI M3 36 v2.toNatClampNeg x4) fun M6 => f_X6_read_L10 n (v2 + 1) M6)))
set_option maxRecDepth 100000 in
set_option maxHeartbeats 4000000 in
theorem w_X6_read_L10 {G : GW} {E : EE} (hG : ab_ok G) (B : Bx G E RX6 cX6_read 3 3 none) : ∀ (n : Nat) (v2 : Int32) (M : Mem), AWo G E cX6_read 3 (ab_Q G E embV) 10 [(0, .ref 34), (1, .ref 1), (2, .int v2)] [] M (f_X6_read_L10 n v2 M) := by
  intro n
  induction n with
  | zero => intro _ _; exact aw_none
  | succ n ih =>
    intro v2 M
    rw [f_X6_read_L10]
    refine aw_iload_n (k0 := 2) B 2 (by decide +kernel) rfl rfl ?_
    refine aw_aload_n (k0 := 0) B 0 (by decide +kernel) rfl rfl ?_
    refine aw_geti (c := 34) B lkX6_31 (by decide +kernel) rfl ?_
    refine aw_icmp_ge (off := 31) B 46 (by decide +kernel) (by decide) (fun _ => ?_) (fun _ => ?_)
    · exact aw_vreturn B (by decide +kernel) rfl
    · refine aw_aload_n (k0 := 0) B 0 (by decide +kernel) rfl rfl ?_
      refine aw_getr (c := 34) B lkX6_9 (by decide +kernel) rfl (r := 35) rfl ?_
      refine aw_iload_n (k0 := 2) B 2 (by decide +kernel) rfl rfl ?_
      refine aw_aload_n (k0 := 1) B 1 (by decide +kernel) rfl rfl ?_
      refine aw_iload_n (k0 := 2) B 2 (by decide +kernel) rfl rfl ?_
      refine aw_cVR B (c_X4_wonBy (eLa E) hG v2 M) cvX6_32 rfl rfl (Nat.le_of_ble_eq_true rfl) rfl (Nat.le_of_ble_eq_true rfl) (by decide +kernel) rfl (fun x1 => ?_)
      refine aw_iastore B (by decide +kernel) (fun M3 => ?_)
      refine aw_aload_n (k0 := 0) B 0 (by decide +kernel) rfl rfl ?_
      refine aw_getr (c := 34) B lkX6_15 (by decide +kernel) rfl (r := 36) rfl ?_
      refine aw_iload_n (k0 := 2) B 2 (by decide +kernel) rfl rfl ?_
      refine aw_aload_n (k0 := 1) B 1 (by decide +kernel) rfl rfl ?_
      refine aw_iload_n (k0 := 2) B 2 (by decide +kernel) rfl rfl ?_
      refine aw_cVR B (c_X4_lostBy (eLa E) hG v2 M3) cvX6_36 rfl rfl (Nat.le_of_ble_eq_true rfl) rfl (Nat.le_of_ble_eq_true rfl) (by decide +kernel) rfl (fun x4 => ?_)
      refine aw_iastore B (by decide +kernel) (fun M6 => ?_)
      refine aw_iinc (i := 2) (n := 1) B 2 [(2, .int (v2 + 1)), (0, .ref 34), (1, .ref 1)] (by decide +kernel) rfl (Nat.le_of_ble_eq_true rfl) (v2 + 1) (ab_inc (by decide)) rfl ?_
      refine aw_goto (off := -33) B 10 (by decide +kernel) (by decide) ?_
      exact aw_sub [1, 2, 0] rfl (ih _ _)
def f_X6_read (M : Mem) : Option Mem := lt (wI M 34 2 (M.1 1 0)) fun M1 => f_X6_read_L10 FU (0 : Int32) M1
set_option maxRecDepth 100000 in
set_option maxHeartbeats 4000000 in
theorem w_X6_read {G : GW} {E : EE} (hG : ab_ok G) (B : Bx G E RX6 cX6_read 3 3 none) (M : Mem) : AWo G E cX6_read 3 (ab_Q G E embV) 0 [(0, .ref 34), (1, .ref 1)] [] M (f_X6_read M) := by
  unfold f_X6_read
  refine aw_aload_n (k0 := 0) B 0 (by decide +kernel) rfl rfl ?_
  refine aw_aload_n (k0 := 1) B 1 (by decide +kernel) rfl rfl ?_
  refine aw_geti (c := 1) B lkX6_27 (by decide +kernel) rfl ?_
  refine aw_puti (c := 34) B lkX6_31 lp6_2 (by decide +kernel) rfl (fun M1 => ?_)
  refine aw_iconst (n := 0) (v := (0 : Int32)) B (by decide +kernel) (by decide) ?_
  refine aw_istore_n (k0 := 2) B [(2, .int (0 : Int32)), (0, .ref 34), (1, .ref 1)] (by decide +kernel) rfl (Nat.le_of_ble_eq_true rfl) rfl ?_
  exact aw_sub [1, 2, 0] rfl (w_X6_read_L10 hG B FU _ _)
theorem c_X6_read (l : Launch) {G : GW} (hG : ab_ok G) (M : Mem) : AC l G yX6_read cX6_read 3 none 3 [.ref 34, .ref 1] M embV (f_X6_read M) := AC.of hG (by decide) (Nat.le_of_ble_eq_true rfl) (fun E hE B => by subst hE; exact w_X6_read hG B M)
def f_X6_isHigher (v1 : Int32) (v2 : Int32) (M : Mem) : Option Int32 := ck (okI 35 v1) (ck (okI 35 v2) ((if (M.1 35 v1.toNatClampNeg) = (M.1 35 v2.toNatClampNeg) then ck (okI 36 v1) (ck (okI 36 v2) ((if (M.1 36 v1.toNatClampNeg) = (M.1 36 v2.toNatClampNeg) then (if v2 ≤ v1 then (some (0 : Int32)) else (some (1 : Int32))) else ck (okI 36 v1) (ck (okI 36 v2) ((if (M.1 36 v2.toNatClampNeg) ≤ (M.1 36 v1.toNatClampNeg) then (some (0 : Int32)) else (some (1 : Int32)))))))) else ck (okI 35 v1) (ck (okI 35 v2) ((if (M.1 35 v1.toNatClampNeg) ≤ (M.1 35 v2.toNatClampNeg) then (some (0 : Int32)) else (some (1 : Int32))))))))
set_option maxRecDepth 100000 in
set_option maxHeartbeats 4000000 in
theorem w_X6_isHigher {G : GW} {E : EE} (hG : ab_ok G) (B : Bx G E RX6 cX6_isHigher 3 2 (some .boolean)) (v1 : Int32) (v2 : Int32) (M : Mem) : AWo G E cX6_isHigher 3 (ab_Q G E (embRI M)) 0 [(0, .ref 34), (1, .int v1), (2, .int v2)] [] M (f_X6_isHigher v1 v2 M) := by
  unfold f_X6_isHigher
  refine aw_aload_n (k0 := 0) B 0 (by decide +kernel) rfl rfl ?_
  refine aw_getr (c := 34) B lkX6_9 (by decide +kernel) rfl (r := 35) rfl ?_
  refine aw_iload_n (k0 := 1) B 1 (by decide +kernel) rfl rfl ?_
  refine aw_iaload B (by decide +kernel) ?_
  refine aw_aload_n (k0 := 0) B 0 (by decide +kernel) rfl rfl ?_
  refine aw_getr (c := 34) B lkX6_9 (by decide +kernel) rfl (r := 35) rfl ?_
  refine aw_iload_n (k0 := 2) B 2 (by decide +kernel) rfl rfl ?_
  refine aw_iaload B (by decide +kernel) ?_
  refine aw_icmp_eq (off := 24) B 36 (by decide +kernel) (by decide) (fun _ => ?_) (fun _ => ?_)
  · refine aw_aload_n (k0 := 0) B 0 (by decide +kernel) rfl rfl ?_
    refine aw_getr (c := 34) B lkX6_15 (by decide +kernel) rfl (r := 36) rfl ?_
    refine aw_iload_n (k0 := 1) B 1 (by decide +kernel) rfl rfl ?_
    refine aw_iaload B (by decide +kernel) ?_
    refine aw_aload_n (k0 := 0) B 0 (by decide +kernel) rfl rfl ?_
    refine aw_getr (c := 34) B lkX6_15 (by decide +kernel) rfl (r := 36) rfl ?_
    refine aw_iload_n (k0 := 2) B 2 (by decide +kernel) rfl rfl ?_
    refine aw_iaload B (by decide +kernel) ?_
    refine aw_icmp_eq (off := 26) B 74 (by decide +kernel) (by decide) (fun _ => ?_) (fun _ => ?_)
    · refine aw_iload_n (k0 := 1) B 1 (by decide +kernel) rfl rfl ?_
      refine aw_iload_n (k0 := 2) B 2 (by decide +kernel) rfl rfl ?_
      refine aw_icmp_ge (off := 7) B 83 (by decide +kernel) (by decide) (fun _ => ?_) (fun _ => ?_)
      · refine aw_iconst (n := 0) (v := (0 : Int32)) B (by decide +kernel) (by decide) ?_
        exact aw_zreturnK B (by decide +kernel) rfl (by decide)
      · refine aw_iconst (n := 1) (v := (1 : Int32)) B (by decide +kernel) (by decide) ?_
        refine aw_goto (off := 4) B 84 (by decide +kernel) (by decide) ?_
        exact aw_zreturnK B (by decide +kernel) rfl (by decide)
    · refine aw_aload_n (k0 := 0) B 0 (by decide +kernel) rfl rfl ?_
      refine aw_getr (c := 34) B lkX6_15 (by decide +kernel) rfl (r := 36) rfl ?_
      refine aw_iload_n (k0 := 1) B 1 (by decide +kernel) rfl rfl ?_
      refine aw_iaload B (by decide +kernel) ?_
      refine aw_aload_n (k0 := 0) B 0 (by decide +kernel) rfl rfl ?_
      refine aw_getr (c := 34) B lkX6_15 (by decide +kernel) rfl (r := 36) rfl ?_
      refine aw_iload_n (k0 := 2) B 2 (by decide +kernel) rfl rfl ?_
      refine aw_iaload B (by decide +kernel) ?_
      refine aw_icmp_ge (off := 7) B 70 (by decide +kernel) (by decide) (fun _ => ?_) (fun _ => ?_)
      · refine aw_iconst (n := 0) (v := (0 : Int32)) B (by decide +kernel) (by decide) ?_
        refine aw_goto (off := 13) B 84 (by decide +kernel) (by decide) ?_
        exact aw_zreturnK B (by decide +kernel) rfl (by decide)
      · refine aw_iconst (n := 1) (v := (1 : Int32)) B (by decide +kernel) (by decide) ?_
        refine aw_goto (off := 17) B 84 (by decide +kernel) (by decide) ?_
        exact aw_zreturnK B (by decide +kernel) rfl (by decide)
  · refine aw_aload_n (k0 := 0) B 0 (by decide +kernel) rfl rfl ?_
    refine aw_getr (c := 34) B lkX6_9 (by decide +kernel) rfl (r := 35) rfl ?_
    refine aw_iload_n (k0 := 1) B 1 (by decide +kernel) rfl rfl ?_
    refine aw_iaload B (by decide +kernel) ?_
    refine aw_aload_n (k0 := 0) B 0 (by decide +kernel) rfl rfl ?_
    refine aw_getr (c := 34) B lkX6_9 (by decide +kernel) rfl (r := 35) rfl ?_
    refine aw_iload_n (k0 := 2) B 2 (by decide +kernel) rfl rfl ?_
    refine aw_iaload B (by decide +kernel) ?_
    refine aw_icmp_le (off := 7) B 34 (by decide +kernel) (by decide) (fun _ => ?_) (fun _ => ?_)
    · refine aw_iconst (n := 0) (v := (0 : Int32)) B (by decide +kernel) (by decide) ?_
      exact aw_zreturnK B (by decide +kernel) rfl (by decide)
    · refine aw_iconst (n := 1) (v := (1 : Int32)) B (by decide +kernel) (by decide) ?_
      refine aw_goto (off := 4) B 35 (by decide +kernel) (by decide) ?_
      exact aw_zreturnK B (by decide +kernel) rfl (by decide)
theorem c_X6_isHigher (l : Launch) {G : GW} (hG : ab_ok G) (v1 : Int32) (v2 : Int32) (M : Mem) : AC l G yX6_isHigher cX6_isHigher 3 (some .boolean) 2 [.ref 34, .int v1, .int v2] M (embRI M) (f_X6_isHigher v1 v2 M) := AC.of hG (by decide) (Nat.le_of_ble_eq_true rfl) (fun E hE B => by subst hE; exact w_X6_isHigher hG B v1 v2 M)
def f_X6_lostByHigher_b44 (k4 : Int32 → Int32 → Option Int32) (M : Mem) (v2 : Int32) (v3 : Int32) : Option Int32 := k4 v2 (v3 + 1)
set_option maxRecDepth 100000 in
set_option maxHeartbeats 4000000 in
theorem w_X6_lostByHigher_b44 {G : GW} {E : EE} (hG : ab_ok G) (M : Mem) {k4 : Int32 → Int32 → Option Int32} (B : Bx G E RX6 cX6_lostByHigher 4 3 (some .int)) (hk4 : ∀ (v2 : Int32) (v3 : Int32), AWo G E cX6_lostByHigher 4 (ab_Q G E (embRI M)) 4 [(0, .ref 34), (1, .ref 1), (2, .int v2), (3, .int v3)] [] M (k4 v2 v3)) (v2 : Int32) (v3 : Int32) : AWo G E cX6_lostByHigher 4 (ab_Q G E (embRI M)) 44 [(0, .ref 34), (1, .ref 1), (2, .int v2), (3, .int v3)] [] M (f_X6_lostByHigher_b44 k4 M v2 v3) := by
  unfold f_X6_lostByHigher_b44
  refine aw_iinc (i := 3) (n := 1) B 3 [(3, .int (v3 + 1)), (0, .ref 34), (1, .ref 1), (2, .int v2)] (by decide +kernel) rfl (Nat.le_of_ble_eq_true rfl) (v3 + 1) (ab_inc (by decide)) rfl ?_
  refine aw_goto (off := -43) B 4 (by decide +kernel) (by decide) ?_
  exact aw_sub [1, 2, 3, 0] rfl (hk4 _ _)
def f_X6_lostByHigher_L4 (M : Mem) : Nat → Int32 → Int32 → Option Int32
  | 0, _, _ => none
  | n + 1, v2, v3 => (if (M.1 1 1) ≤ v3 then (some v2) else ck (okI 5 v3) ((if (M.1 5 v3.toNatClampNeg) = (1 : Int32) then ck (okI 4 v3) (ck (okI 3 v3) ((f_X6_isHigher (M.1 4 v3.toNatClampNeg) (M.1 3 v3.toNatClampNeg) M).bind fun x1 => (if x1 = 0 then f_X6_lostByHigher_b44 (fun a0 a1 => f_X6_lostByHigher_L4 M n a0 a1) M v2 v3 else f_X6_lostByHigher_b44 (fun a0 a1 => f_X6_lostByHigher_L4 M n a0 a1) M (v2 + 1) v3))) else f_X6_lostByHigher_b44 (fun a0 a1 => f_X6_lostByHigher_L4 M n a0 a1) M v2 v3)))
set_option maxRecDepth 100000 in
set_option maxHeartbeats 4000000 in
theorem w_X6_lostByHigher_L4 {G : GW} {E : EE} (hG : ab_ok G) (M : Mem) (B : Bx G E RX6 cX6_lostByHigher 4 3 (some .int)) : ∀ (n : Nat) (v2 : Int32) (v3 : Int32), AWo G E cX6_lostByHigher 4 (ab_Q G E (embRI M)) 4 [(0, .ref 34), (1, .ref 1), (2, .int v2), (3, .int v3)] [] M (f_X6_lostByHigher_L4 M n v2 v3) := by
  intro n
  induction n with
  | zero => intro _ _; exact aw_none
  | succ n ih =>
    intro v2 v3
    rw [f_X6_lostByHigher_L4]
    refine aw_iload_n (k0 := 3) B 3 (by decide +kernel) rfl rfl ?_
    refine aw_aload_n (k0 := 1) B 1 (by decide +kernel) rfl rfl ?_
    refine aw_geti (c := 1) B lkX6_46 (by decide +kernel) rfl ?_
    refine aw_icmp_ge (off := 41) B 50 (by decide +kernel) (by decide) (fun _ => ?_) (fun _ => ?_)
    · refine aw_iload_n (k0 := 2) B 2 (by decide +kernel) rfl rfl ?_
      exact aw_ireturn B (by decide +kernel) rfl
    · refine aw_aload_n (k0 := 1) B 1 (by decide +kernel) rfl rfl ?_
      refine aw_getr (c := 1) B lkX6_49 (by decide +kernel) rfl (r := 5) rfl ?_
      refine aw_iload_n (k0 := 3) B 3 (by decide +kernel) rfl rfl ?_
      refine aw_iaload B (by decide +kernel) ?_
      refine aw_iconst (n := 1) (v := (1 : Int32)) B (by decide +kernel) (by decide) ?_
      refine aw_icmp_ne (off := 25) B 44 (by decide +kernel) (by decide) (fun _ => ?_) (fun _ => ?_)
      · exact w_X6_lostByHigher_b44 hG M B ih _ _
      · refine aw_aload_n (k0 := 0) B 0 (by decide +kernel) rfl rfl ?_
        refine aw_aload_n (k0 := 1) B 1 (by decide +kernel) rfl rfl ?_
        refine aw_getr (c := 1) B lkX6_52 (by decide +kernel) rfl (r := 4) rfl ?_
        refine aw_iload_n (k0 := 3) B 3 (by decide +kernel) rfl rfl ?_
        refine aw_iaload B (by decide +kernel) ?_
        refine aw_aload_n (k0 := 1) B 1 (by decide +kernel) rfl rfl ?_
        refine aw_getr (c := 1) B lkX6_55 (by decide +kernel) rfl (r := 3) rfl ?_
        refine aw_iload_n (k0 := 3) B 3 (by decide +kernel) rfl rfl ?_
        refine aw_iaload B (by decide +kernel) ?_
        refine aw_cVR B (c_X6_isHigher (eLa E) hG (M.1 4 v3.toNatClampNeg) (M.1 3 v3.toNatClampNeg) M) cvX6_39 rfl rfl (Nat.le_of_ble_eq_true rfl) rfl (Nat.le_of_ble_eq_true rfl) (by decide +kernel) rfl (fun x1 => ?_)
        refine aw_if_eq (off := 6) B 44 (by decide +kernel) (by decide) (fun _ => ?_) (fun _ => ?_)
        · exact w_X6_lostByHigher_b44 hG M B ih _ _
        · refine aw_iinc (i := 2) (n := 1) B 2 [(2, .int (v2 + 1)), (0, .ref 34), (1, .ref 1), (3, .int v3)] (by decide +kernel) rfl (Nat.le_of_ble_eq_true rfl) (v2 + 1) (ab_inc (by decide)) rfl ?_
          exact aw_sub [1, 2, 0, 3] rfl (w_X6_lostByHigher_b44 hG M B ih _ _)
def f_X6_lostByHigher (M : Mem) : Option Int32 := f_X6_lostByHigher_L4 M FU (0 : Int32) (0 : Int32)
set_option maxRecDepth 100000 in
set_option maxHeartbeats 4000000 in
theorem w_X6_lostByHigher {G : GW} {E : EE} (hG : ab_ok G) (B : Bx G E RX6 cX6_lostByHigher 4 3 (some .int)) (M : Mem) : AWo G E cX6_lostByHigher 4 (ab_Q G E (embRI M)) 0 [(0, .ref 34), (1, .ref 1)] [] M (f_X6_lostByHigher M) := by
  unfold f_X6_lostByHigher
  refine aw_iconst (n := 0) (v := (0 : Int32)) B (by decide +kernel) (by decide) ?_
  refine aw_istore_n (k0 := 2) B [(2, .int (0 : Int32)), (0, .ref 34), (1, .ref 1)] (by decide +kernel) rfl (Nat.le_of_ble_eq_true rfl) rfl ?_
  refine aw_iconst (n := 0) (v := (0 : Int32)) B (by decide +kernel) (by decide) ?_
  refine aw_istore_n (k0 := 3) B [(3, .int (0 : Int32)), (2, .int (0 : Int32)), (0, .ref 34), (1, .ref 1)] (by decide +kernel) rfl (Nat.le_of_ble_eq_true rfl) rfl ?_
  exact aw_sub [2, 3, 1, 0] rfl (w_X6_lostByHigher_L4 hG M B FU _ _)
theorem c_X6_lostByHigher (l : Launch) {G : GW} (hG : ab_ok G) (M : Mem) : AC l G yX6_lostByHigher cX6_lostByHigher 4 (some .int) 3 [.ref 34, .ref 1] M (embRI M) (f_X6_lostByHigher M) := AC.of hG (by decide) (Nat.le_of_ble_eq_true rfl) (fun E hE B => by subst hE; exact w_X6_lostByHigher hG B M)
def f_X6_placeOf_b24 (k4 : Int32 → Int32 → Int32 → Option Int32) (M : Mem) (v1 : Int32) (v2 : Int32) (v3 : Int32) : Option Int32 := k4 v1 v2 (v3 + 1)
set_option maxRecDepth 100000 in
set_option maxHeartbeats 4000000 in
theorem w_X6_placeOf_b24 {G : GW} {E : EE} (hG : ab_ok G) (M : Mem) {k4 : Int32 → Int32 → Int32 → Option Int32} (B : Bx G E RX6 cX6_placeOf 4 3 (some .int)) (hk4 : ∀ (v1 : Int32) (v2 : Int32) (v3 : Int32), AWo G E cX6_placeOf 4 (ab_Q G E (embRI M)) 4 [(0, .ref 34), (1, .int v1), (2, .int v2), (3, .int v3)] [] M (k4 v1 v2 v3)) (v1 : Int32) (v2 : Int32) (v3 : Int32) : AWo G E cX6_placeOf 4 (ab_Q G E (embRI M)) 24 [(0, .ref 34), (1, .int v1), (2, .int v2), (3, .int v3)] [] M (f_X6_placeOf_b24 k4 M v1 v2 v3) := by
  unfold f_X6_placeOf_b24
  refine aw_iinc (i := 3) (n := 1) B 3 [(3, .int (v3 + 1)), (0, .ref 34), (1, .int v1), (2, .int v2)] (by decide +kernel) rfl (Nat.le_of_ble_eq_true rfl) (v3 + 1) (ab_inc (by decide)) rfl ?_
  refine aw_goto (off := -23) B 4 (by decide +kernel) (by decide) ?_
  exact aw_sub [1, 2, 3, 0] rfl (hk4 _ _ _)
def f_X6_placeOf_L4 (M : Mem) : Nat → Int32 → Int32 → Int32 → Option Int32
  | 0, _, _, _ => none
  | n + 1, v1, v2, v3 => (if (M.1 34 2) ≤ v3 then (some v2) else (f_X6_isHigher v3 v1 M).bind fun x1 => (if x1 = 0 then f_X6_placeOf_b24 (fun a0 a1 a2 => f_X6_placeOf_L4 M n a0 a1 a2) M v1 v2 v3 else f_X6_placeOf_b24 (fun a0 a1 a2 => f_X6_placeOf_L4 M n a0 a1 a2) M v1 (v2 + 1) v3))
set_option maxRecDepth 100000 in
set_option maxHeartbeats 4000000 in
theorem w_X6_placeOf_L4 {G : GW} {E : EE} (hG : ab_ok G) (M : Mem) (B : Bx G E RX6 cX6_placeOf 4 3 (some .int)) : ∀ (n : Nat) (v1 : Int32) (v2 : Int32) (v3 : Int32), AWo G E cX6_placeOf 4 (ab_Q G E (embRI M)) 4 [(0, .ref 34), (1, .int v1), (2, .int v2), (3, .int v3)] [] M (f_X6_placeOf_L4 M n v1 v2 v3) := by
  intro n
  induction n with
  | zero => intro _ _ _; exact aw_none
  | succ n ih =>
    intro v1 v2 v3
    rw [f_X6_placeOf_L4]
    refine aw_iload_n (k0 := 3) B 3 (by decide +kernel) rfl rfl ?_
    refine aw_aload_n (k0 := 0) B 0 (by decide +kernel) rfl rfl ?_
    refine aw_geti (c := 34) B lkX6_31 (by decide +kernel) rfl ?_
    refine aw_icmp_ge (off := 21) B 30 (by decide +kernel) (by decide) (fun _ => ?_) (fun _ => ?_)
    · refine aw_iload_n (k0 := 2) B 2 (by decide +kernel) rfl rfl ?_
      exact aw_ireturn B (by decide +kernel) rfl
    · refine aw_aload_n (k0 := 0) B 0 (by decide +kernel) rfl rfl ?_
      refine aw_iload_n (k0 := 3) B 3 (by decide +kernel) rfl rfl ?_
      refine aw_iload_n (k0 := 1) B 1 (by decide +kernel) rfl rfl ?_
      refine aw_cVR B (c_X6_isHigher (eLa E) hG v3 v1 M) cvX6_39 rfl rfl (Nat.le_of_ble_eq_true rfl) rfl (Nat.le_of_ble_eq_true rfl) (by decide +kernel) rfl (fun x1 => ?_)
      refine aw_if_eq (off := 6) B 24 (by decide +kernel) (by decide) (fun _ => ?_) (fun _ => ?_)
      · exact w_X6_placeOf_b24 hG M B ih _ _ _
      · refine aw_iinc (i := 2) (n := 1) B 2 [(2, .int (v2 + 1)), (0, .ref 34), (1, .int v1), (3, .int v3)] (by decide +kernel) rfl (Nat.le_of_ble_eq_true rfl) (v2 + 1) (ab_inc (by decide)) rfl ?_
        exact aw_sub [1, 2, 0, 3] rfl (w_X6_placeOf_b24 hG M B ih _ _ _)
def f_X6_placeOf (v1 : Int32) (M : Mem) : Option Int32 := f_X6_placeOf_L4 M FU v1 (0 : Int32) (0 : Int32)
set_option maxRecDepth 100000 in
set_option maxHeartbeats 4000000 in
theorem w_X6_placeOf {G : GW} {E : EE} (hG : ab_ok G) (B : Bx G E RX6 cX6_placeOf 4 3 (some .int)) (v1 : Int32) (M : Mem) : AWo G E cX6_placeOf 4 (ab_Q G E (embRI M)) 0 [(0, .ref 34), (1, .int v1)] [] M (f_X6_placeOf v1 M) := by
  unfold f_X6_placeOf
  refine aw_iconst (n := 0) (v := (0 : Int32)) B (by decide +kernel) (by decide) ?_
  refine aw_istore_n (k0 := 2) B [(2, .int (0 : Int32)), (0, .ref 34), (1, .int v1)] (by decide +kernel) rfl (Nat.le_of_ble_eq_true rfl) rfl ?_
  refine aw_iconst (n := 0) (v := (0 : Int32)) B (by decide +kernel) (by decide) ?_
  refine aw_istore_n (k0 := 3) B [(3, .int (0 : Int32)), (2, .int (0 : Int32)), (0, .ref 34), (1, .int v1)] (by decide +kernel) rfl (Nat.le_of_ble_eq_true rfl) rfl ?_
  exact aw_sub [2, 3, 1, 0] rfl (w_X6_placeOf_L4 hG M B FU _ _ _)
theorem c_X6_placeOf (l : Launch) {G : GW} (hG : ab_ok G) (v1 : Int32) (M : Mem) : AC l G yX6_placeOf cX6_placeOf 4 (some .int) 3 [.ref 34, .int v1] M (embRI M) (f_X6_placeOf v1 M) := AC.of hG (by decide) (Nat.le_of_ble_eq_true rfl) (fun E hE B => by subst hE; exact w_X6_placeOf hG B v1 M)
def f_X6_whoIsAt_b23 (k4 : Int32 → Int32 → Int32 → Option Int32) (M : Mem) (v1 : Int32) (v2 : Int32) (v3 : Int32) : Option Int32 := k4 v1 v2 (v3 + 1)
set_option maxRecDepth 100000 in
set_option maxHeartbeats 4000000 in
theorem w_X6_whoIsAt_b23 {G : GW} {E : EE} (hG : ab_ok G) (M : Mem) {k4 : Int32 → Int32 → Int32 → Option Int32} (B : Bx G E RX6 cX6_whoIsAt 4 4 (some .int)) (hk4 : ∀ (v1 : Int32) (v2 : Int32) (v3 : Int32), AWo G E cX6_whoIsAt 4 (ab_Q G E (embRI M)) 4 [(0, .ref 34), (1, .int v1), (2, .int v2), (3, .int v3)] [] M (k4 v1 v2 v3)) (v1 : Int32) (v2 : Int32) (v3 : Int32) : AWo G E cX6_whoIsAt 4 (ab_Q G E (embRI M)) 23 [(0, .ref 34), (1, .int v1), (2, .int v2), (3, .int v3)] [] M (f_X6_whoIsAt_b23 k4 M v1 v2 v3) := by
  unfold f_X6_whoIsAt_b23
  refine aw_iinc (i := 3) (n := 1) B 3 [(3, .int (v3 + 1)), (0, .ref 34), (1, .int v1), (2, .int v2)] (by decide +kernel) rfl (Nat.le_of_ble_eq_true rfl) (v3 + 1) (ab_inc (by decide)) rfl ?_
  refine aw_goto (off := -22) B 4 (by decide +kernel) (by decide) ?_
  exact aw_sub [1, 2, 3, 0] rfl (hk4 _ _ _)
def f_X6_whoIsAt_L4 (M : Mem) : Nat → Int32 → Int32 → Int32 → Option Int32
  | 0, _, _, _ => none
  | n + 1, v1, v2, v3 => (if (M.1 34 2) ≤ v3 then (some v2) else (f_X6_placeOf v3 M).bind fun x1 => (if x1 = v1 then f_X6_whoIsAt_b23 (fun a0 a1 a2 => f_X6_whoIsAt_L4 M n a0 a1 a2) M v1 v3 v3 else f_X6_whoIsAt_b23 (fun a0 a1 a2 => f_X6_whoIsAt_L4 M n a0 a1 a2) M v1 v2 v3))
set_option maxRecDepth 100000 in
set_option maxHeartbeats 4000000 in
theorem w_X6_whoIsAt_L4 {G : GW} {E : EE} (hG : ab_ok G) (M : Mem) (B : Bx G E RX6 cX6_whoIsAt 4 4 (some .int)) : ∀ (n : Nat) (v1 : Int32) (v2 : Int32) (v3 : Int32), AWo G E cX6_whoIsAt 4 (ab_Q G E (embRI M)) 4 [(0, .ref 34), (1, .int v1), (2, .int v2), (3, .int v3)] [] M (f_X6_whoIsAt_L4 M n v1 v2 v3) := by
  intro n
  induction n with
  | zero => intro _ _ _; exact aw_none
  | succ n ih =>
    intro v1 v2 v3
    rw [f_X6_whoIsAt_L4]
    refine aw_iload_n (k0 := 3) B 3 (by decide +kernel) rfl rfl ?_
    refine aw_aload_n (k0 := 0) B 0 (by decide +kernel) rfl rfl ?_
    refine aw_geti (c := 34) B lkX6_31 (by decide +kernel) rfl ?_
    refine aw_icmp_ge (off := 20) B 29 (by decide +kernel) (by decide) (fun _ => ?_) (fun _ => ?_)
    · refine aw_iload_n (k0 := 2) B 2 (by decide +kernel) rfl rfl ?_
      exact aw_ireturn B (by decide +kernel) rfl
    · refine aw_aload_n (k0 := 0) B 0 (by decide +kernel) rfl rfl ?_
      refine aw_iload_n (k0 := 3) B 3 (by decide +kernel) rfl rfl ?_
      refine aw_cVR B (c_X6_placeOf (eLa E) hG v3 M) cvX6_43 rfl rfl (Nat.le_of_ble_eq_true rfl) rfl (Nat.le_of_ble_eq_true rfl) (by decide +kernel) rfl (fun x1 => ?_)
      refine aw_iload_n (k0 := 1) B 1 (by decide +kernel) rfl rfl ?_
      refine aw_icmp_ne (off := 5) B 23 (by decide +kernel) (by decide) (fun _ => ?_) (fun _ => ?_)
      · exact w_X6_whoIsAt_b23 hG M B ih _ _ _
      · refine aw_iload_n (k0 := 3) B 3 (by decide +kernel) rfl rfl ?_
        refine aw_istore_n (k0 := 2) B [(2, .int v3), (0, .ref 34), (1, .int v1), (3, .int v3)] (by decide +kernel) rfl (Nat.le_of_ble_eq_true rfl) rfl ?_
        exact aw_sub [1, 2, 0, 3] rfl (w_X6_whoIsAt_b23 hG M B ih _ _ _)
def f_X6_whoIsAt (v1 : Int32) (M : Mem) : Option Int32 := f_X6_whoIsAt_L4 M FU v1 (0 : Int32) (0 : Int32)
set_option maxRecDepth 100000 in
set_option maxHeartbeats 4000000 in
theorem w_X6_whoIsAt {G : GW} {E : EE} (hG : ab_ok G) (B : Bx G E RX6 cX6_whoIsAt 4 4 (some .int)) (v1 : Int32) (M : Mem) : AWo G E cX6_whoIsAt 4 (ab_Q G E (embRI M)) 0 [(0, .ref 34), (1, .int v1)] [] M (f_X6_whoIsAt v1 M) := by
  unfold f_X6_whoIsAt
  refine aw_iconst (n := 0) (v := (0 : Int32)) B (by decide +kernel) (by decide) ?_
  refine aw_istore_n (k0 := 2) B [(2, .int (0 : Int32)), (0, .ref 34), (1, .int v1)] (by decide +kernel) rfl (Nat.le_of_ble_eq_true rfl) rfl ?_
  refine aw_iconst (n := 0) (v := (0 : Int32)) B (by decide +kernel) (by decide) ?_
  refine aw_istore_n (k0 := 3) B [(3, .int (0 : Int32)), (2, .int (0 : Int32)), (0, .ref 34), (1, .int v1)] (by decide +kernel) rfl (Nat.le_of_ble_eq_true rfl) rfl ?_
  exact aw_sub [2, 3, 1, 0] rfl (w_X6_whoIsAt_L4 hG M B FU _ _ _)
theorem c_X6_whoIsAt (l : Launch) {G : GW} (hG : ab_ok G) (v1 : Int32) (M : Mem) : AC l G yX6_whoIsAt cX6_whoIsAt 4 (some .int) 4 [.ref 34, .int v1] M (embRI M) (f_X6_whoIsAt v1 M) := AC.of hG (by decide) (Nat.le_of_ble_eq_true rfl) (fun E hE B => by subst hE; exact w_X6_whoIsAt hG B v1 M)
def f_X10_table_b40 (v1 : Int32) (v2 : Int32) (M : Mem) : Option (Int32 × Mem) := (if (M.1 1 0) = 0 then (some ((-5 : Int32), M)) else (f_X6_read M).bind fun M2 => (if v2 = (2 : Int32) then (f_X6_lostByHigher M2).bind fun x5 => (some (x5, M2)) else (f_X6_whoIsAt v1 M2).bind fun x3 => (if v2 = 0 then (some (x3, M2)) else ck (okI 35 x3) ((some (M2.1 35 x3.toNatClampNeg, M2))))))
set_option maxRecDepth 100000 in
set_option maxHeartbeats 4000000 in
theorem w_X10_table_b40 {G : GW} {E : EE} (hG : ab_ok G) (B : Bx G E RX10 cX10_table 4 5 (some .int)) (v1 : Int32) (v2 : Int32) (M : Mem) : AWo G E cX10_table 4 (ab_Q G E embI) 40 [(0, .ref 0), (1, .int v1), (2, .int v2)] [] M (f_X10_table_b40 v1 v2 M) := by
  unfold f_X10_table_b40
  refine aw_aload_n (k0 := 0) B 0 (by decide +kernel) rfl rfl ?_
  refine aw_getr (c := 0) B lkX10_10 (by decide +kernel) rfl (r := 1) rfl ?_
  refine aw_geti (c := 1) B lkX10_167 (by decide +kernel) rfl ?_
  refine aw_if_ne (off := 6) B 53 (by decide +kernel) (by decide) (fun _ => ?_) (fun _ => ?_)
  · refine aw_aload_n (k0 := 0) B 0 (by decide +kernel) rfl rfl ?_
    refine aw_getr (c := 0) B lkX10_61 (by decide +kernel) rfl (r := 34) rfl ?_
    refine aw_aload_n (k0 := 0) B 0 (by decide +kernel) rfl rfl ?_
    refine aw_getr (c := 0) B lkX10_10 (by decide +kernel) rfl (r := 1) rfl ?_
    refine aw_cVV B (c_X6_read (eLa E) hG M) cvX10_304 rfl rfl (Nat.le_of_ble_eq_true rfl) rfl (Nat.le_of_ble_eq_true rfl) (by decide +kernel) rfl (fun M2 => ?_)
    refine aw_iload_n (k0 := 2) B 2 (by decide +kernel) rfl rfl ?_
    refine aw_iconst (n := 2) (v := (2 : Int32)) B (by decide +kernel) (by decide) ?_
    refine aw_icmp_ne (off := 15) B 81 (by decide +kernel) (by decide) (fun _ => ?_) (fun _ => ?_)
    · refine aw_aload_n (k0 := 0) B 0 (by decide +kernel) rfl rfl ?_
      refine aw_getr (c := 0) B lkX10_61 (by decide +kernel) rfl (r := 34) rfl ?_
      refine aw_iload_n (k0 := 1) B 1 (by decide +kernel) rfl rfl ?_
      refine aw_cVR B (c_X6_whoIsAt (eLa E) hG v1 M2) cvX10_311 rfl rfl (Nat.le_of_ble_eq_true rfl) rfl (Nat.le_of_ble_eq_true rfl) (by decide +kernel) rfl (fun x3 => ?_)
      refine aw_istore_n (k0 := 3) B [(3, .int x3), (0, .ref 0), (1, .int v1), (2, .int v2)] (by decide +kernel) rfl (Nat.le_of_ble_eq_true rfl) rfl ?_
      refine aw_iload_n (k0 := 2) B 3 (by decide +kernel) rfl rfl ?_
      refine aw_if_ne (off := 7) B 98 (by decide +kernel) (by decide) (fun _ => ?_) (fun _ => ?_)
      · refine aw_aload_n (k0 := 0) B 1 (by decide +kernel) rfl rfl ?_
        refine aw_getr (c := 0) B lkX10_61 (by decide +kernel) rfl (r := 34) rfl ?_
        refine aw_getr (c := 34) B lkX10_314 (by decide +kernel) rfl (r := 35) rfl ?_
        refine aw_iload_n (k0 := 3) B 0 (by decide +kernel) rfl rfl ?_
        refine aw_iaload B (by decide +kernel) ?_
        exact aw_ireturn B (by decide +kernel) rfl
      · refine aw_iload_n (k0 := 3) B 0 (by decide +kernel) rfl rfl ?_
        refine aw_goto (off := 12) B 107 (by decide +kernel) (by decide) ?_
        exact aw_ireturn B (by decide +kernel) rfl
    · refine aw_aload_n (k0 := 0) B 0 (by decide +kernel) rfl rfl ?_
      refine aw_getr (c := 0) B lkX10_61 (by decide +kernel) rfl (r := 34) rfl ?_
      refine aw_aload_n (k0 := 0) B 0 (by decide +kernel) rfl rfl ?_
      refine aw_getr (c := 0) B lkX10_10 (by decide +kernel) rfl (r := 1) rfl ?_
      refine aw_cVR B (c_X6_lostByHigher (eLa E) hG M2) cvX10_308 rfl rfl (Nat.le_of_ble_eq_true rfl) rfl (Nat.le_of_ble_eq_true rfl) (by decide +kernel) rfl (fun x5 => ?_)
      exact aw_ireturn B (by decide +kernel) rfl
  · refine aw_bipush (n := -5) (v := (-5 : Int32)) B (by decide +kernel) (by decide) ?_
    exact aw_ireturn B (by decide +kernel) rfl
def f_X10_table (v1 : Int32) (v2 : Int32) (M : Mem) : Option (Int32 × Mem) := (if v2 < 0 then (some ((-1 : Int32), M)) else (if (2 : Int32) < v2 then (some ((-1 : Int32), M)) else (if 0 ≤ v1 then (if v2 = (2 : Int32) then (if v1 = 0 then f_X10_table_b40 v1 v2 M else (some ((-1 : Int32), M))) else (if v1 < (M.1 1 0) then f_X10_table_b40 v1 v2 M else (some ((-1 : Int32), M)))) else (some ((-1 : Int32), M)))))
set_option maxRecDepth 100000 in
set_option maxHeartbeats 4000000 in
theorem w_X10_table {G : GW} {E : EE} (hG : ab_ok G) (B : Bx G E RX10 cX10_table 4 5 (some .int)) (v1 : Int32) (v2 : Int32) (M : Mem) : AWo G E cX10_table 4 (ab_Q G E embI) 0 [(0, .ref 0), (1, .int v1), (2, .int v2)] [] M (f_X10_table v1 v2 M) := by
  unfold f_X10_table
  refine aw_iload_n (k0 := 2) B 2 (by decide +kernel) rfl rfl ?_
  refine aw_if_lt (off := 12) B 13 (by decide +kernel) (by decide) (fun _ => ?_) (fun _ => ?_)
  · refine aw_iconst (n := -1) (v := (-1 : Int32)) B (by decide +kernel) (by decide) ?_
    exact aw_ireturn B (by decide +kernel) rfl
  · refine aw_iload_n (k0 := 2) B 2 (by decide +kernel) rfl rfl ?_
    refine aw_iconst (n := 2) (v := (2 : Int32)) B (by decide +kernel) (by decide) ?_
    refine aw_icmp_gt (off := 7) B 13 (by decide +kernel) (by decide) (fun _ => ?_) (fun _ => ?_)
    · refine aw_iconst (n := -1) (v := (-1 : Int32)) B (by decide +kernel) (by decide) ?_
      exact aw_ireturn B (by decide +kernel) rfl
    · refine aw_iload_n (k0 := 1) B 1 (by decide +kernel) rfl rfl ?_
      refine aw_if_ge (off := 5) B 15 (by decide +kernel) (by decide) (fun _ => ?_) (fun _ => ?_)
      · refine aw_iload_n (k0 := 2) B 2 (by decide +kernel) rfl rfl ?_
        refine aw_iconst (n := 2) (v := (2 : Int32)) B (by decide +kernel) (by decide) ?_
        refine aw_icmp_ne (off := 10) B 27 (by decide +kernel) (by decide) (fun _ => ?_) (fun _ => ?_)
        · refine aw_iload_n (k0 := 1) B 1 (by decide +kernel) rfl rfl ?_
          refine aw_aload_n (k0 := 0) B 0 (by decide +kernel) rfl rfl ?_
          refine aw_getr (c := 0) B lkX10_10 (by decide +kernel) rfl (r := 1) rfl ?_
          refine aw_geti (c := 1) B lkX10_167 (by decide +kernel) rfl ?_
          refine aw_icmp_lt (off := 5) B 40 (by decide +kernel) (by decide) (fun _ => ?_) (fun _ => ?_)
          · exact w_X10_table_b40 hG B _ _ _
          · refine aw_iconst (n := -1) (v := (-1 : Int32)) B (by decide +kernel) (by decide) ?_
            exact aw_ireturn B (by decide +kernel) rfl
        · refine aw_iload_n (k0 := 1) B 1 (by decide +kernel) rfl rfl ?_
          refine aw_if_eq (off := 19) B 40 (by decide +kernel) (by decide) (fun _ => ?_) (fun _ => ?_)
          · exact w_X10_table_b40 hG B _ _ _
          · refine aw_goto (off := 14) B 38 (by decide +kernel) (by decide) ?_
            refine aw_iconst (n := -1) (v := (-1 : Int32)) B (by decide +kernel) (by decide) ?_
            exact aw_ireturn B (by decide +kernel) rfl
      · refine aw_iconst (n := -1) (v := (-1 : Int32)) B (by decide +kernel) (by decide) ?_
        exact aw_ireturn B (by decide +kernel) rfl
theorem c_X10_table (l : Launch) {G : GW} (hG : ab_ok G) (v1 : Int32) (v2 : Int32) (M : Mem) : AC l G yX10_table cX10_table 4 (some .int) 5 [.ref 0, .int v1, .int v2] M embI (f_X10_table v1 v2 M) := AC.of hG (by decide) (Nat.le_of_ble_eq_true rfl) (fun E hE B => by subst hE; exact w_X10_table hG B v1 v2 M)
def f_X11_isHigher (v1 : Int32) (v2 : Int32) (M : Mem) : Option Int32 := (f_X11_wonBy v1 M).bind fun x1 => (f_X11_wonBy v2 M).bind fun x3 => (if x1 = x3 then (f_X11_lostBy v1 M).bind fun x5 => (f_X11_lostBy v2 M).bind fun x7 => (if x5 = x7 then (if v2 ≤ v1 then (some (0 : Int32)) else (some (1 : Int32))) else (f_X11_lostBy v1 M).bind fun x9 => (f_X11_lostBy v2 M).bind fun x11 => (if x11 ≤ x9 then (some (0 : Int32)) else (some (1 : Int32)))) else (f_X11_wonBy v1 M).bind fun x13 => (f_X11_wonBy v2 M).bind fun x15 => (if x13 ≤ x15 then (some (0 : Int32)) else (some (1 : Int32))))
set_option maxRecDepth 100000 in
set_option maxHeartbeats 4000000 in
theorem w_X11_isHigher {G : GW} {E : EE} (hG : ab_ok G) (B : Bx G E RX11 cX11_isHigher 3 4 (some .boolean)) (v1 : Int32) (v2 : Int32) (M : Mem) : AWo G E cX11_isHigher 3 (ab_Q G E (embRI M)) 0 [(0, .ref 47), (1, .int v1), (2, .int v2)] [] M (f_X11_isHigher v1 v2 M) := by
  unfold f_X11_isHigher
  refine aw_aload_n (k0 := 0) B 0 (by decide +kernel) rfl rfl ?_
  refine aw_iload_n (k0 := 1) B 1 (by decide +kernel) rfl rfl ?_
  refine aw_cVR B (c_X11_wonBy (eLa E) hG v1 M) cvX11_154 rfl rfl (Nat.le_of_ble_eq_true rfl) rfl (Nat.le_of_ble_eq_true rfl) (by decide +kernel) rfl (fun x1 => ?_)
  refine aw_aload_n (k0 := 0) B 0 (by decide +kernel) rfl rfl ?_
  refine aw_iload_n (k0 := 2) B 2 (by decide +kernel) rfl rfl ?_
  refine aw_cVR B (c_X11_wonBy (eLa E) hG v2 M) cvX11_154 rfl rfl (Nat.le_of_ble_eq_true rfl) rfl (Nat.le_of_ble_eq_true rfl) (by decide +kernel) rfl (fun x3 => ?_)
  refine aw_icmp_eq (off := 22) B 32 (by decide +kernel) (by decide) (fun _ => ?_) (fun _ => ?_)
  · refine aw_aload_n (k0 := 0) B 0 (by decide +kernel) rfl rfl ?_
    refine aw_iload_n (k0 := 1) B 1 (by decide +kernel) rfl rfl ?_
    refine aw_cVR B (c_X11_lostBy (eLa E) hG v1 M) cvX11_150 rfl rfl (Nat.le_of_ble_eq_true rfl) rfl (Nat.le_of_ble_eq_true rfl) (by decide +kernel) rfl (fun x5 => ?_)
    refine aw_aload_n (k0 := 0) B 0 (by decide +kernel) rfl rfl ?_
    refine aw_iload_n (k0 := 2) B 2 (by decide +kernel) rfl rfl ?_
    refine aw_cVR B (c_X11_lostBy (eLa E) hG v2 M) cvX11_150 rfl rfl (Nat.le_of_ble_eq_true rfl) rfl (Nat.le_of_ble_eq_true rfl) (by decide +kernel) rfl (fun x7 => ?_)
    refine aw_icmp_eq (off := 24) B 66 (by decide +kernel) (by decide) (fun _ => ?_) (fun _ => ?_)
    · refine aw_iload_n (k0 := 1) B 1 (by decide +kernel) rfl rfl ?_
      refine aw_iload_n (k0 := 2) B 2 (by decide +kernel) rfl rfl ?_
      refine aw_icmp_ge (off := 7) B 75 (by decide +kernel) (by decide) (fun _ => ?_) (fun _ => ?_)
      · refine aw_iconst (n := 0) (v := (0 : Int32)) B (by decide +kernel) (by decide) ?_
        exact aw_zreturnK B (by decide +kernel) rfl (by decide)
      · refine aw_iconst (n := 1) (v := (1 : Int32)) B (by decide +kernel) (by decide) ?_
        refine aw_goto (off := 4) B 76 (by decide +kernel) (by decide) ?_
        exact aw_zreturnK B (by decide +kernel) rfl (by decide)
    · refine aw_aload_n (k0 := 0) B 0 (by decide +kernel) rfl rfl ?_
      refine aw_iload_n (k0 := 1) B 1 (by decide +kernel) rfl rfl ?_
      refine aw_cVR B (c_X11_lostBy (eLa E) hG v1 M) cvX11_150 rfl rfl (Nat.le_of_ble_eq_true rfl) rfl (Nat.le_of_ble_eq_true rfl) (by decide +kernel) rfl (fun x9 => ?_)
      refine aw_aload_n (k0 := 0) B 0 (by decide +kernel) rfl rfl ?_
      refine aw_iload_n (k0 := 2) B 2 (by decide +kernel) rfl rfl ?_
      refine aw_cVR B (c_X11_lostBy (eLa E) hG v2 M) cvX11_150 rfl rfl (Nat.le_of_ble_eq_true rfl) rfl (Nat.le_of_ble_eq_true rfl) (by decide +kernel) rfl (fun x11 => ?_)
      refine aw_icmp_ge (off := 7) B 62 (by decide +kernel) (by decide) (fun _ => ?_) (fun _ => ?_)
      · refine aw_iconst (n := 0) (v := (0 : Int32)) B (by decide +kernel) (by decide) ?_
        refine aw_goto (off := 13) B 76 (by decide +kernel) (by decide) ?_
        exact aw_zreturnK B (by decide +kernel) rfl (by decide)
      · refine aw_iconst (n := 1) (v := (1 : Int32)) B (by decide +kernel) (by decide) ?_
        refine aw_goto (off := 17) B 76 (by decide +kernel) (by decide) ?_
        exact aw_zreturnK B (by decide +kernel) rfl (by decide)
  · refine aw_aload_n (k0 := 0) B 0 (by decide +kernel) rfl rfl ?_
    refine aw_iload_n (k0 := 1) B 1 (by decide +kernel) rfl rfl ?_
    refine aw_cVR B (c_X11_wonBy (eLa E) hG v1 M) cvX11_154 rfl rfl (Nat.le_of_ble_eq_true rfl) rfl (Nat.le_of_ble_eq_true rfl) (by decide +kernel) rfl (fun x13 => ?_)
    refine aw_aload_n (k0 := 0) B 0 (by decide +kernel) rfl rfl ?_
    refine aw_iload_n (k0 := 2) B 2 (by decide +kernel) rfl rfl ?_
    refine aw_cVR B (c_X11_wonBy (eLa E) hG v2 M) cvX11_154 rfl rfl (Nat.le_of_ble_eq_true rfl) rfl (Nat.le_of_ble_eq_true rfl) (by decide +kernel) rfl (fun x15 => ?_)
    refine aw_icmp_le (off := 7) B 30 (by decide +kernel) (by decide) (fun _ => ?_) (fun _ => ?_)
    · refine aw_iconst (n := 0) (v := (0 : Int32)) B (by decide +kernel) (by decide) ?_
      exact aw_zreturnK B (by decide +kernel) rfl (by decide)
    · refine aw_iconst (n := 1) (v := (1 : Int32)) B (by decide +kernel) (by decide) ?_
      refine aw_goto (off := 4) B 31 (by decide +kernel) (by decide) ?_
      exact aw_zreturnK B (by decide +kernel) rfl (by decide)
theorem c_X11_isHigher (l : Launch) {G : GW} (hG : ab_ok G) (v1 : Int32) (v2 : Int32) (M : Mem) : AC l G yX11_isHigher cX11_isHigher 3 (some .boolean) 4 [.ref 47, .int v1, .int v2] M (embRI M) (f_X11_isHigher v1 v2 M) := AC.of hG (by decide) (Nat.le_of_ble_eq_true rfl) (fun E hE B => by subst hE; exact w_X11_isHigher hG B v1 v2 M)
def f_X11_placeInTable_b32 (k4 : Int32 → Int32 → Int32 → Option Int32) (M : Mem) (v1 : Int32) (v3 : Int32) (s0 : Int32) (s1 : Int32) : Option Int32 := lt (s1 + s0) fun x1 => k4 v1 x1 (v3 + 1)
set_option maxRecDepth 100000 in
set_option maxHeartbeats 4000000 in
theorem w_X11_placeInTable_b32 {G : GW} {E : EE} (hG : ab_ok G) (M : Mem) {k4 : Int32 → Int32 → Int32 → Option Int32} (B : Bx G E RX11 cX11_placeInTable 4 5 (some .int)) (hk4 : ∀ (v1 : Int32) (v2 : Int32) (v3 : Int32), AWo G E cX11_placeInTable 4 (ab_Q G E (embRI M)) 4 [(0, .ref 47), (1, .int v1), (2, .int v2), (3, .int v3)] [] M (k4 v1 v2 v3)) (v1 : Int32) (v3 : Int32) (s0 : Int32) (s1 : Int32) : AWo G E cX11_placeInTable 4 (ab_Q G E (embRI M)) 32 [(0, .ref 47), (1, .int v1), (3, .int v3)] [.int s0, .int s1] M (f_X11_placeInTable_b32 k4 M v1 v3 s0 s1) := by
  unfold f_X11_placeInTable_b32
  refine aw_iadd B (by decide +kernel) ?_
  refine aw_ltI (fun x1 => ?_)
  refine aw_istore_n (k0 := 2) B [(2, .int x1), (0, .ref 47), (1, .int v1), (3, .int v3)] (by decide +kernel) rfl (Nat.le_of_ble_eq_true rfl) rfl ?_
  refine aw_iinc (i := 3) (n := 1) B 3 [(3, .int (v3 + 1)), (2, .int x1), (0, .ref 47), (1, .int v1)] (by decide +kernel) rfl (Nat.le_of_ble_eq_true rfl) (v3 + 1) (ab_inc (by decide)) rfl ?_
  refine aw_goto (off := -33) B 4 (by decide +kernel) (by decide) ?_
  exact aw_sub [2, 3, 1, 0] rfl (hk4 _ _ _)
def f_X11_placeInTable_b31 (k4 : Int32 → Int32 → Int32 → Option Int32) (M : Mem) (v1 : Int32) (v3 : Int32) (s0 : Int32) : Option Int32 := f_X11_placeInTable_b32 k4 M v1 v3 (0 : Int32) s0
set_option maxRecDepth 100000 in
set_option maxHeartbeats 4000000 in
theorem w_X11_placeInTable_b31 {G : GW} {E : EE} (hG : ab_ok G) (M : Mem) {k4 : Int32 → Int32 → Int32 → Option Int32} (B : Bx G E RX11 cX11_placeInTable 4 5 (some .int)) (hk4 : ∀ (v1 : Int32) (v2 : Int32) (v3 : Int32), AWo G E cX11_placeInTable 4 (ab_Q G E (embRI M)) 4 [(0, .ref 47), (1, .int v1), (2, .int v2), (3, .int v3)] [] M (k4 v1 v2 v3)) (v1 : Int32) (v3 : Int32) (s0 : Int32) : AWo G E cX11_placeInTable 4 (ab_Q G E (embRI M)) 31 [(0, .ref 47), (1, .int v1), (3, .int v3)] [.int s0] M (f_X11_placeInTable_b31 k4 M v1 v3 s0) := by
  unfold f_X11_placeInTable_b31
  refine aw_iconst (n := 0) (v := (0 : Int32)) B (by decide +kernel) (by decide) ?_
  exact w_X11_placeInTable_b32 hG M B hk4 _ _ _ _
def f_X11_placeInTable_L4 (M : Mem) : Nat → Int32 → Int32 → Int32 → Option Int32
  | 0, _, _, _ => none
  | n + 1, v1, v2, v3 => (if (M.1 47 6) ≤ v3 then (some v2) else (if v3 = v1 then f_X11_placeInTable_b31 (fun a0 a1 a2 => f_X11_placeInTable_L4 M n a0 a1 a2) M v1 v3 v2 else (f_X11_isHigher v3 v1 M).bind fun x1 => (if x1 = 0 then f_X11_placeInTable_b31 (fun a0 a1 a2 => f_X11_placeInTable_L4 M n a0 a1 a2) M v1 v3 v2 else f_X11_placeInTable_b32 (fun a0 a1 a2 => f_X11_placeInTable_L4 M n a0 a1 a2) M v1 v3 (1 : Int32) v2)))
set_option maxRecDepth 100000 in
set_option maxHeartbeats 4000000 in
theorem w_X11_placeInTable_L4 {G : GW} {E : EE} (hG : ab_ok G) (M : Mem) (B : Bx G E RX11 cX11_placeInTable 4 5 (some .int)) : ∀ (n : Nat) (v1 : Int32) (v2 : Int32) (v3 : Int32), AWo G E cX11_placeInTable 4 (ab_Q G E (embRI M)) 4 [(0, .ref 47), (1, .int v1), (2, .int v2), (3, .int v3)] [] M (f_X11_placeInTable_L4 M n v1 v2 v3) := by
  intro n
  induction n with
  | zero => intro _ _ _; exact aw_none
  | succ n ih =>
    intro v1 v2 v3
    rw [f_X11_placeInTable_L4]
    refine aw_iload_n (k0 := 3) B 3 (by decide +kernel) rfl rfl ?_
    refine aw_aload_n (k0 := 0) B 0 (by decide +kernel) rfl rfl ?_
    refine aw_geti (c := 47) B lkX11_109 (by decide +kernel) rfl ?_
    refine aw_icmp_ge (off := 31) B 40 (by decide +kernel) (by decide) (fun _ => ?_) (fun _ => ?_)
    · refine aw_iload_n (k0 := 2) B 2 (by decide +kernel) rfl rfl ?_
      exact aw_ireturn B (by decide +kernel) rfl
    · refine aw_iload_n (k0 := 2) B 2 (by decide +kernel) rfl rfl ?_
      refine aw_iload_n (k0 := 3) B 3 (by decide +kernel) rfl rfl ?_
      refine aw_iload_n (k0 := 1) B 1 (by decide +kernel) rfl rfl ?_
      refine aw_icmp_eq (off := 16) B 31 (by decide +kernel) (by decide) (fun _ => ?_) (fun _ => ?_)
      · exact aw_sub [0, 1, 3] rfl (w_X11_placeInTable_b31 hG M B ih _ _ _)
      · refine aw_aload_n (k0 := 0) B 0 (by decide +kernel) rfl rfl ?_
        refine aw_iload_n (k0 := 3) B 3 (by decide +kernel) rfl rfl ?_
        refine aw_iload_n (k0 := 1) B 1 (by decide +kernel) rfl rfl ?_
        refine aw_cVR B (c_X11_isHigher (eLa E) hG v3 v1 M) cvX11_328 rfl rfl (Nat.le_of_ble_eq_true rfl) rfl (Nat.le_of_ble_eq_true rfl) (by decide +kernel) rfl (fun x1 => ?_)
        refine aw_if_eq (off := 7) B 31 (by decide +kernel) (by decide) (fun _ => ?_) (fun _ => ?_)
        · exact aw_sub [0, 1, 3] rfl (w_X11_placeInTable_b31 hG M B ih _ _ _)
        · refine aw_iconst (n := 1) (v := (1 : Int32)) B (by decide +kernel) (by decide) ?_
          refine aw_goto (off := 4) B 32 (by decide +kernel) (by decide) ?_
          exact aw_sub [0, 1, 3] rfl (w_X11_placeInTable_b32 hG M B ih _ _ _ _)
def f_X11_placeInTable (v1 : Int32) (M : Mem) : Option Int32 := f_X11_placeInTable_L4 M FU v1 (0 : Int32) (0 : Int32)
set_option maxRecDepth 100000 in
set_option maxHeartbeats 4000000 in
theorem w_X11_placeInTable {G : GW} {E : EE} (hG : ab_ok G) (B : Bx G E RX11 cX11_placeInTable 4 5 (some .int)) (v1 : Int32) (M : Mem) : AWo G E cX11_placeInTable 4 (ab_Q G E (embRI M)) 0 [(0, .ref 47), (1, .int v1)] [] M (f_X11_placeInTable v1 M) := by
  unfold f_X11_placeInTable
  refine aw_iconst (n := 0) (v := (0 : Int32)) B (by decide +kernel) (by decide) ?_
  refine aw_istore_n (k0 := 2) B [(2, .int (0 : Int32)), (0, .ref 47), (1, .int v1)] (by decide +kernel) rfl (Nat.le_of_ble_eq_true rfl) rfl ?_
  refine aw_iconst (n := 0) (v := (0 : Int32)) B (by decide +kernel) (by decide) ?_
  refine aw_istore_n (k0 := 3) B [(3, .int (0 : Int32)), (2, .int (0 : Int32)), (0, .ref 47), (1, .int v1)] (by decide +kernel) rfl (Nat.le_of_ble_eq_true rfl) rfl ?_
  exact aw_sub [2, 3, 1, 0] rfl (w_X11_placeInTable_L4 hG M B FU _ _ _)
theorem c_X11_placeInTable (l : Launch) {G : GW} (hG : ab_ok G) (v1 : Int32) (M : Mem) : AC l G yX11_placeInTable cX11_placeInTable 4 (some .int) 5 [.ref 47, .int v1] M (embRI M) (f_X11_placeInTable v1 M) := AC.of hG (by decide) (Nat.le_of_ble_eq_true rfl) (fun E hE B => by subst hE; exact w_X11_placeInTable hG B v1 M)
def f_X11_table_b141 (k116 : Int32 → Int32 → Int32 → Int32 → Option Int32) (M : Mem) (v1 : Int32) (v2 : Int32) (v4 : Int32) (s0 : Int32) : Option Int32 := k116 v1 v2 s0 (v4 + 1)
set_option maxRecDepth 100000 in
set_option maxHeartbeats 4000000 in
theorem w_X11_table_b141 {G : GW} {E : EE} (hG : ab_ok G) (M : Mem) {k116 : Int32 → Int32 → Int32 → Int32 → Option Int32} (B : Bx G E RX11 cX11_table 5 6 (some .int)) (hk116 : ∀ (v1 : Int32) (v2 : Int32) (v3 : Int32) (v4 : Int32), AWo G E cX11_table 5 (ab_Q G E (embRI M)) 116 [(0, .ref 47), (1, .int v1), (2, .int v2), (3, .int v3), (4, .int v4)] [] M (k116 v1 v2 v3 v4)) (v1 : Int32) (v2 : Int32) (v4 : Int32) (s0 : Int32) : AWo G E cX11_table 5 (ab_Q G E (embRI M)) 141 [(0, .ref 47), (1, .int v1), (2, .int v2), (4, .int v4)] [.int s0] M (f_X11_table_b141 k116 M v1 v2 v4 s0) := by
  unfold f_X11_table_b141
  refine aw_istore_n (k0 := 3) B [(3, .int s0), (0, .ref 47), (1, .int v1), (2, .int v2), (4, .int v4)] (by decide +kernel) rfl (Nat.le_of_ble_eq_true rfl) rfl ?_
  refine aw_iinc (i := 4) (n := 1) B 4 [(4, .int (v4 + 1)), (3, .int s0), (0, .ref 47), (1, .int v1), (2, .int v2)] (by decide +kernel) rfl (Nat.le_of_ble_eq_true rfl) (v4 + 1) (ab_inc (by decide)) rfl ?_
  refine aw_goto (off := -29) B 116 (by decide +kernel) (by decide) ?_
  exact aw_sub [2, 3, 4, 1, 0] rfl (hk116 _ _ _ _)
def f_X11_table_L116 (M : Mem) : Nat → Int32 → Int32 → Int32 → Int32 → Option Int32
  | 0, _, _, _, _ => none
  | n + 1, v1, v2, v3, v4 => (if (M.1 47 6) ≤ v4 then (if v2 = 0 then (some v3) else (f_X11_wonBy v3 M).bind fun x1 => (some x1)) else (f_X11_placeInTable v4 M).bind fun x3 => (if x3 = v1 then f_X11_table_b141 (fun a0 a1 a2 a3 => f_X11_table_L116 M n a0 a1 a2 a3) M v1 v2 v4 v4 else f_X11_table_b141 (fun a0 a1 a2 a3 => f_X11_table_L116 M n a0 a1 a2 a3) M v1 v2 v4 v3))
set_option maxRecDepth 100000 in
set_option maxHeartbeats 4000000 in
theorem w_X11_table_L116 {G : GW} {E : EE} (hG : ab_ok G) (M : Mem) (B : Bx G E RX11 cX11_table 5 6 (some .int)) : ∀ (n : Nat) (v1 : Int32) (v2 : Int32) (v3 : Int32) (v4 : Int32), AWo G E cX11_table 5 (ab_Q G E (embRI M)) 116 [(0, .ref 47), (1, .int v1), (2, .int v2), (3, .int v3), (4, .int v4)] [] M (f_X11_table_L116 M n v1 v2 v3 v4) := by
  intro n
  induction n with
  | zero => intro _ _ _ _; exact aw_none
  | succ n ih =>
    intro v1 v2 v3 v4
    rw [f_X11_table_L116]
    refine aw_iload (i := 4) B 4 (by decide +kernel) rfl ?_
    refine aw_aload_n (k0 := 0) B 0 (by decide +kernel) rfl rfl ?_
    refine aw_geti (c := 47) B lkX11_109 (by decide +kernel) rfl ?_
    refine aw_icmp_ge (off := 26) B 148 (by decide +kernel) (by decide) (fun _ => ?_) (fun _ => ?_)
    · refine aw_iload_n (k0 := 2) B 2 (by decide +kernel) rfl rfl ?_
      refine aw_if_ne (off := 7) B 156 (by decide +kernel) (by decide) (fun _ => ?_) (fun _ => ?_)
      · refine aw_aload_n (k0 := 0) B 0 (by decide +kernel) rfl rfl ?_
        refine aw_iload_n (k0 := 3) B 3 (by decide +kernel) rfl rfl ?_
        refine aw_cVR B (c_X11_wonBy (eLa E) hG v3 M) cvX11_154 rfl rfl (Nat.le_of_ble_eq_true rfl) rfl (Nat.le_of_ble_eq_true rfl) (by decide +kernel) rfl (fun x1 => ?_)
        exact aw_ireturn B (by decide +kernel) rfl
      · refine aw_iload_n (k0 := 3) B 3 (by decide +kernel) rfl rfl ?_
        refine aw_goto (off := 8) B 161 (by decide +kernel) (by decide) ?_
        exact aw_ireturn B (by decide +kernel) rfl
    · refine aw_aload_n (k0 := 0) B 0 (by decide +kernel) rfl rfl ?_
      refine aw_iload (i := 4) B 4 (by decide +kernel) rfl ?_
      refine aw_cVR B (c_X11_placeInTable (eLa E) hG v4 M) cvX11_331 rfl rfl (Nat.le_of_ble_eq_true rfl) rfl (Nat.le_of_ble_eq_true rfl) (by decide +kernel) rfl (fun x3 => ?_)
      refine aw_iload_n (k0 := 1) B 1 (by decide +kernel) rfl rfl ?_
      refine aw_icmp_ne (off := 8) B 140 (by decide +kernel) (by decide) (fun _ => ?_) (fun _ => ?_)
      · refine aw_iload_n (k0 := 3) B 3 (by decide +kernel) rfl rfl ?_
        exact aw_sub [0, 1, 2, 4] rfl (w_X11_table_b141 hG M B ih _ _ _ _)
      · refine aw_iload (i := 4) B 4 (by decide +kernel) rfl ?_
        refine aw_goto (off := 4) B 141 (by decide +kernel) (by decide) ?_
        exact aw_sub [0, 1, 2, 4] rfl (w_X11_table_b141 hG M B ih _ _ _ _)
def f_X11_table_b101 (k56 : Int32 → Int32 → Option Int32) (M : Mem) (v4 : Int32) (s0 : Int32) (s1 : Int32) : Option Int32 := lt (s1 + s0) fun x1 => k56 x1 (v4 + 1)
set_option maxRecDepth 100000 in
set_option maxHeartbeats 4000000 in
theorem w_X11_table_b101 {G : GW} {E : EE} (hG : ab_ok G) (M : Mem) {k56 : Int32 → Int32 → Option Int32} (B : Bx G E RX11 cX11_table 5 6 (some .int)) (hk56 : ∀ (v3 : Int32) (v4 : Int32), AWo G E cX11_table 5 (ab_Q G E (embRI M)) 56 [(0, .ref 47), (3, .int v3), (4, .int v4)] [] M (k56 v3 v4)) (v4 : Int32) (s0 : Int32) (s1 : Int32) : AWo G E cX11_table 5 (ab_Q G E (embRI M)) 101 [(0, .ref 47), (4, .int v4)] [.int s0, .int s1] M (f_X11_table_b101 k56 M v4 s0 s1) := by
  unfold f_X11_table_b101
  refine aw_iadd B (by decide +kernel) ?_
  refine aw_ltI (fun x1 => ?_)
  refine aw_istore_n (k0 := 3) B [(3, .int x1), (0, .ref 47), (4, .int v4)] (by decide +kernel) rfl (Nat.le_of_ble_eq_true rfl) rfl ?_
  refine aw_iinc (i := 4) (n := 1) B 2 [(4, .int (v4 + 1)), (3, .int x1), (0, .ref 47)] (by decide +kernel) rfl (Nat.le_of_ble_eq_true rfl) (v4 + 1) (ab_inc (by decide)) rfl ?_
  refine aw_goto (off := -50) B 56 (by decide +kernel) (by decide) ?_
  exact aw_sub [2, 1, 0] rfl (hk56 _ _)
def f_X11_table_b100 (k56 : Int32 → Int32 → Option Int32) (M : Mem) (v4 : Int32) (s0 : Int32) : Option Int32 := f_X11_table_b101 k56 M v4 (0 : Int32) s0
set_option maxRecDepth 100000 in
set_option maxHeartbeats 4000000 in
theorem w_X11_table_b100 {G : GW} {E : EE} (hG : ab_ok G) (M : Mem) {k56 : Int32 → Int32 → Option Int32} (B : Bx G E RX11 cX11_table 5 6 (some .int)) (hk56 : ∀ (v3 : Int32) (v4 : Int32), AWo G E cX11_table 5 (ab_Q G E (embRI M)) 56 [(0, .ref 47), (3, .int v3), (4, .int v4)] [] M (k56 v3 v4)) (v4 : Int32) (s0 : Int32) : AWo G E cX11_table 5 (ab_Q G E (embRI M)) 100 [(0, .ref 47), (4, .int v4)] [.int s0] M (f_X11_table_b100 k56 M v4 s0) := by
  unfold f_X11_table_b100
  refine aw_iconst (n := 0) (v := (0 : Int32)) B (by decide +kernel) (by decide) ?_
  exact w_X11_table_b101 hG M B hk56 _ _ _
def f_X11_table_L56 (M : Mem) : Nat → Int32 → Int32 → Option Int32
  | 0, _, _ => none
  | n + 1, v3, v4 => (if (M.1 47 7) ≤ v4 then (some v3) else (f_X11_counts v4 M).bind fun x1 => (if x1 = 0 then f_X11_table_b100 (fun a0 a1 => f_X11_table_L56 M n a0 a1) M v4 v3 else ck (okI 53 v4) (ck (okI 52 v4) ((f_X11_isHigher (M.1 53 v4.toNatClampNeg) (M.1 52 v4.toNatClampNeg) M).bind fun x3 => (if x3 = 0 then f_X11_table_b100 (fun a0 a1 => f_X11_table_L56 M n a0 a1) M v4 v3 else f_X11_table_b101 (fun a0 a1 => f_X11_table_L56 M n a0 a1) M v4 (1 : Int32) v3)))))
set_option maxRecDepth 100000 in
set_option maxHeartbeats 4000000 in
theorem w_X11_table_L56 {G : GW} {E : EE} (hG : ab_ok G) (M : Mem) (B : Bx G E RX11 cX11_table 5 6 (some .int)) : ∀ (n : Nat) (v3 : Int32) (v4 : Int32), AWo G E cX11_table 5 (ab_Q G E (embRI M)) 56 [(0, .ref 47), (3, .int v3), (4, .int v4)] [] M (f_X11_table_L56 M n v3 v4) := by
  intro n
  induction n with
  | zero => intro _ _; exact aw_none
  | succ n ih =>
    intro v3 v4
    rw [f_X11_table_L56]
    refine aw_iload (i := 4) B 2 (by decide +kernel) rfl ?_
    refine aw_aload_n (k0 := 0) B 0 (by decide +kernel) rfl rfl ?_
    refine aw_geti (c := 47) B lkX11_116 (by decide +kernel) rfl ?_
    refine aw_icmp_ge (off := 47) B 109 (by decide +kernel) (by decide) (fun _ => ?_) (fun _ => ?_)
    · refine aw_iload_n (k0 := 3) B 1 (by decide +kernel) rfl rfl ?_
      exact aw_ireturn B (by decide +kernel) rfl
    · refine aw_iload_n (k0 := 3) B 1 (by decide +kernel) rfl rfl ?_
      refine aw_aload_n (k0 := 0) B 0 (by decide +kernel) rfl rfl ?_
      refine aw_iload (i := 4) B 2 (by decide +kernel) rfl ?_
      refine aw_cVR B (c_X11_counts (eLa E) hG v4 M) cvX11_145 rfl rfl (Nat.le_of_ble_eq_true rfl) rfl (Nat.le_of_ble_eq_true rfl) (by decide +kernel) rfl (fun x1 => ?_)
      refine aw_if_eq (off := 28) B 100 (by decide +kernel) (by decide) (fun _ => ?_) (fun _ => ?_)
      · exact aw_sub [0, 2] rfl (w_X11_table_b100 hG M B ih _ _)
      · refine aw_aload_n (k0 := 0) B 0 (by decide +kernel) rfl rfl ?_
        refine aw_aload_n (k0 := 0) B 0 (by decide +kernel) rfl rfl ?_
        refine aw_getr (c := 47) B lkX11_25 (by decide +kernel) rfl (r := 53) rfl ?_
        refine aw_iload (i := 4) B 2 (by decide +kernel) rfl ?_
        refine aw_iaload B (by decide +kernel) ?_
        refine aw_aload_n (k0 := 0) B 0 (by decide +kernel) rfl rfl ?_
        refine aw_getr (c := 47) B lkX11_22 (by decide +kernel) rfl (r := 52) rfl ?_
        refine aw_iload (i := 4) B 2 (by decide +kernel) rfl ?_
        refine aw_iaload B (by decide +kernel) ?_
        refine aw_cVR B (c_X11_isHigher (eLa E) hG (M.1 53 v4.toNatClampNeg) (M.1 52 v4.toNatClampNeg) M) cvX11_328 rfl rfl (Nat.le_of_ble_eq_true rfl) rfl (Nat.le_of_ble_eq_true rfl) (by decide +kernel) rfl (fun x3 => ?_)
        refine aw_if_eq (off := 7) B 100 (by decide +kernel) (by decide) (fun _ => ?_) (fun _ => ?_)
        · exact aw_sub [0, 2] rfl (w_X11_table_b100 hG M B ih _ _)
        · refine aw_iconst (n := 1) (v := (1 : Int32)) B (by decide +kernel) (by decide) ?_
          refine aw_goto (off := 4) B 101 (by decide +kernel) (by decide) ?_
          exact aw_sub [0, 2] rfl (w_X11_table_b101 hG M B ih _ _ _)
def f_X11_table_b36 (M : Mem) (v1 : Int32) (v2 : Int32) : Option Int32 := (if (M.1 47 6) = 0 then (some (-5 : Int32)) else (if v2 = (2 : Int32) then f_X11_table_L56 M FU (0 : Int32) (0 : Int32) else f_X11_table_L116 M FU v1 v2 (0 : Int32) (0 : Int32)))
set_option maxRecDepth 100000 in
set_option maxHeartbeats 4000000 in
theorem w_X11_table_b36 {G : GW} {E : EE} (hG : ab_ok G) (M : Mem) (B : Bx G E RX11 cX11_table 5 6 (some .int)) (v1 : Int32) (v2 : Int32) : AWo G E cX11_table 5 (ab_Q G E (embRI M)) 36 [(0, .ref 47), (1, .int v1), (2, .int v2)] [] M (f_X11_table_b36 M v1 v2) := by
  unfold f_X11_table_b36
  refine aw_aload_n (k0 := 0) B 0 (by decide +kernel) rfl rfl ?_
  refine aw_geti (c := 47) B lkX11_109 (by decide +kernel) rfl ?_
  refine aw_if_ne (off := 6) B 46 (by decide +kernel) (by decide) (fun _ => ?_) (fun _ => ?_)
  · refine aw_iload_n (k0 := 2) B 2 (by decide +kernel) rfl rfl ?_
    refine aw_iconst (n := 2) (v := (2 : Int32)) B (by decide +kernel) (by decide) ?_
    refine aw_icmp_ne (off := 63) B 111 (by decide +kernel) (by decide) (fun _ => ?_) (fun _ => ?_)
    · refine aw_iconst (n := 0) (v := (0 : Int32)) B (by decide +kernel) (by decide) ?_
      refine aw_istore_n (k0 := 3) B [(3, .int (0 : Int32)), (0, .ref 47), (1, .int v1), (2, .int v2)] (by decide +kernel) rfl (Nat.le_of_ble_eq_true rfl) rfl ?_
      refine aw_iconst (n := 0) (v := (0 : Int32)) B (by decide +kernel) (by decide) ?_
      refine aw_istore (i := 4) B [(4, .int (0 : Int32)), (3, .int (0 : Int32)), (0, .ref 47), (1, .int v1), (2, .int v2)] (by decide +kernel) (Nat.le_of_ble_eq_true rfl) rfl ?_
      exact aw_sub [2, 3, 4, 1, 0] rfl (w_X11_table_L116 hG M B FU _ _ _ _)
    · refine aw_iconst (n := 0) (v := (0 : Int32)) B (by decide +kernel) (by decide) ?_
      refine aw_istore_n (k0 := 3) B [(3, .int (0 : Int32)), (0, .ref 47), (1, .int v1), (2, .int v2)] (by decide +kernel) rfl (Nat.le_of_ble_eq_true rfl) rfl ?_
      refine aw_iconst (n := 0) (v := (0 : Int32)) B (by decide +kernel) (by decide) ?_
      refine aw_istore (i := 4) B [(4, .int (0 : Int32)), (3, .int (0 : Int32)), (0, .ref 47), (1, .int v1), (2, .int v2)] (by decide +kernel) (Nat.le_of_ble_eq_true rfl) rfl ?_
      exact aw_sub [2, 1, 0] rfl (w_X11_table_L56 hG M B FU _ _)
  · refine aw_bipush (n := -5) (v := (-5 : Int32)) B (by decide +kernel) (by decide) ?_
    exact aw_ireturn B (by decide +kernel) rfl
def f_X11_table_b21 (M : Mem) (v1 : Int32) (v2 : Int32) : Option Int32 := (if (2 : Int32) ≤ v2 then f_X11_table_b36 M v1 v2 else (f_X11_isPlayer v1 M).bind fun x1 => (if x1 = 0 then (some (-1 : Int32)) else f_X11_table_b36 M v1 v2))
set_option maxRecDepth 100000 in
set_option maxHeartbeats 4000000 in
theorem w_X11_table_b21 {G : GW} {E : EE} (hG : ab_ok G) (M : Mem) (B : Bx G E RX11 cX11_table 5 6 (some .int)) (v1 : Int32) (v2 : Int32) : AWo G E cX11_table 5 (ab_Q G E (embRI M)) 21 [(0, .ref 47), (1, .int v1), (2, .int v2)] [] M (f_X11_table_b21 M v1 v2) := by
  unfold f_X11_table_b21
  refine aw_iload_n (k0 := 2) B 2 (by decide +kernel) rfl rfl ?_
  refine aw_iconst (n := 2) (v := (2 : Int32)) B (by decide +kernel) (by decide) ?_
  refine aw_icmp_ge (off := 13) B 36 (by decide +kernel) (by decide) (fun _ => ?_) (fun _ => ?_)
  · exact w_X11_table_b36 hG M B _ _
  · refine aw_aload_n (k0 := 0) B 0 (by decide +kernel) rfl rfl ?_
    refine aw_iload_n (k0 := 1) B 1 (by decide +kernel) rfl rfl ?_
    refine aw_cVR B (c_X11_isPlayer (eLa E) hG v1 M) cvX11_135 rfl rfl (Nat.le_of_ble_eq_true rfl) rfl (Nat.le_of_ble_eq_true rfl) (by decide +kernel) rfl (fun x1 => ?_)
    refine aw_if_ne (off := 5) B 36 (by decide +kernel) (by decide) (fun _ => ?_) (fun _ => ?_)
    · exact w_X11_table_b36 hG M B _ _
    · refine aw_iconst (n := -1) (v := (-1 : Int32)) B (by decide +kernel) (by decide) ?_
      exact aw_ireturn B (by decide +kernel) rfl
def f_X11_table (v1 : Int32) (v2 : Int32) (M : Mem) : Option Int32 := (f_X11_within v2.toInt64 (0 : Int64) (2 : Int64)).bind fun x1 => (if x1 = 0 then (some (-1 : Int32)) else (if v2 = (2 : Int32) then (if v1 = 0 then f_X11_table_b21 M v1 v2 else (some (-1 : Int32))) else f_X11_table_b21 M v1 v2))
set_option maxRecDepth 100000 in
set_option maxHeartbeats 4000000 in
theorem w_X11_table {G : GW} {E : EE} (hG : ab_ok G) (B : Bx G E RX11 cX11_table 5 6 (some .int)) (v1 : Int32) (v2 : Int32) (M : Mem) : AWo G E cX11_table 5 (ab_Q G E (embRI M)) 0 [(0, .ref 47), (1, .int v1), (2, .int v2)] [] M (f_X11_table v1 v2 M) := by
  unfold f_X11_table
  refine aw_iload_n (k0 := 2) B 2 (by decide +kernel) rfl rfl ?_
  refine aw_i2l B (by decide +kernel) ?_
  refine aw_lconst (n := 0) (v := (0 : Int64)) B (by decide +kernel) (by decide) ?_
  refine aw_ldc2 B (by decide +kernel) lwX11_217 ?_
  refine aw_cSR B (c_X11_within (eLa E) hG v2.toInt64 (0 : Int64) (2 : Int64) M) csX11_112 (Nat.le_of_ble_eq_true rfl) rfl (Nat.le_of_ble_eq_true rfl) (by decide +kernel) rfl (fun x1 => ?_)
  refine aw_if_eq (off := 25) B 34 (by decide +kernel) (by decide) (fun _ => ?_) (fun _ => ?_)
  · refine aw_iconst (n := -1) (v := (-1 : Int32)) B (by decide +kernel) (by decide) ?_
    exact aw_ireturn B (by decide +kernel) rfl
  · refine aw_iload_n (k0 := 2) B 2 (by decide +kernel) rfl rfl ?_
    refine aw_iconst (n := 2) (v := (2 : Int32)) B (by decide +kernel) (by decide) ?_
    refine aw_icmp_ne (off := 7) B 21 (by decide +kernel) (by decide) (fun _ => ?_) (fun _ => ?_)
    · exact w_X11_table_b21 hG M B _ _
    · refine aw_iload_n (k0 := 1) B 1 (by decide +kernel) rfl rfl ?_
      refine aw_if_ne (off := 16) B 34 (by decide +kernel) (by decide) (fun _ => ?_) (fun _ => ?_)
      · refine aw_iconst (n := -1) (v := (-1 : Int32)) B (by decide +kernel) (by decide) ?_
        exact aw_ireturn B (by decide +kernel) rfl
      · exact w_X11_table_b21 hG M B _ _
theorem c_X11_table (l : Launch) {G : GW} (hG : ab_ok G) (v1 : Int32) (v2 : Int32) (M : Mem) : AC l G yX11_table cX11_table 5 (some .int) 6 [.ref 47, .int v1, .int v2] M (embRI M) (f_X11_table v1 v2 M) := AC.of hG (by decide) (Nat.le_of_ble_eq_true rfl) (fun E hE B => by subst hE; exact w_X11_table hG B v1 v2 M)
