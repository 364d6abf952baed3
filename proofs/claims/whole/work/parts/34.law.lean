/-! the law's loop over the script -/
def okX (L : Nat) (i : Int32) : Bool := decide (¬ (i < 0 ∨ L ≤ i.toNatClampNeg))
def ab_X (G : GW) (E : EE) (L : Nat) (xs : Nat → Int32) : Prop := va_X (G.1 2000) L xs (eS E) (eS E).heap ∧ G.1 2000 < (eS E).heap.size ∧ ¬ ab_A G (G.1 2000)
section AWX
variable {α : Type} {G : GW} {E : EE} {own : String} {cc : ByteArray} {nL lev : Nat} {ret : Option FieldType} {Q : α → State → Prop} {pc : Nat} {lv : List (Nat × Value)} {st : List Value} {M : Mem} {X : Option α} {L : Nat} {xs : Nat → Int32}
theorem aw_xlen (hX : ab_X G E L xs) (B : Bx G E own cc nL lev ret) (hd : decode cc pc = .ok (.arraylength, 1)) (k : AWo G E cc nL Q (pc + 1) lv (.int (nI L) :: st) M X) : AWo G E cc nL Q pc lv (.ref 2000 :: st) M X :=
  fun a ha H locs ls hP hS hl => va_slen B.1 B.2.1 hX.1 hX.2.1 hX.2.2 hS hd (k a ha H locs ls hP hS hl)
theorem aw_xld (hX : ab_X G E L xs) (B : Bx G E own cc nL lev ret) {i : Int32} (hd : decode cc pc = .ok (.iaload, 1)) (k : AWo G E cc nL Q (pc + 1) lv (.int (xs i.toNatClampNeg) :: st) M X) : AWo G E cc nL Q pc lv (.int i :: .ref 2000 :: st) M (ck (okX L i) X) := by
  intro a ha H locs ls hP hS hl
  obtain ⟨h, ha⟩ := ck_some ha
  have h2 : vp_in i L := by
    simp only [okX, decide_eq_true_eq] at h
    exact h
  exact va_sld B.1 B.2.1 hX.1 hX.2.1 hX.2.2 hS h2 hd (k a ha H locs ls hP hS hl)
end AWX
def f_law_b1336 (L : Nat) (xs : Nat → Int32) (k18 : Int32 → Mem → Option Mem) (v3 : Int32) (M : Mem) : Option Mem := k18 (v3 + 6) M
set_option maxRecDepth 100000 in
set_option maxHeartbeats 4000000 in
theorem w_law_b1336 {G : GW} {E : EE} {QL : Mem → State → Prop} {rt : Option FieldType} {L : Nat} {xs : Nat → Int32} (hG : ab_ok G) (hX : ab_X G E L xs) (hret : ∀ lv M, AWo G E code 4 QL 1343 lv [.int (1 : Int32)] M (some M)) {k18 : Int32 → Mem → Option Mem} (B : Bx G E RL code 4 2000 rt) (hk18 : ∀ (v3 : Int32) (M : Mem), AWo G E code 4 QL 18 [(0, .ref 2000), (1, .ref 0), (2, .ref 47), (3, .int v3)] [] M (k18 v3 M)) (v3 : Int32) (M : Mem) : AWo G E code 4 QL 1336 [(0, .ref 2000), (1, .ref 0), (2, .ref 47), (3, .int v3)] [] M (f_law_b1336 L xs k18 v3 M) := by
  unfold f_law_b1336
  refine aw_iinc (i := 3) (n := 6) B 3 [(3, .int (v3 + 6)), (0, .ref 2000), (1, .ref 0), (2, .ref 47)] (by decide +kernel) rfl (Nat.le_of_ble_eq_true rfl) (v3 + 6) (ab_inc (by decide)) rfl ?_
  refine aw_goto (off := -1321) B 18 (by decide +kernel) (by decide) ?_
  exact aw_sub [1, 2, 3, 0] rfl (hk18 _ _)
def f_law_b1313 (L : Nat) (xs : Nat → Int32) (k18 : Int32 → Mem → Option Mem) (v3 : Int32) (M : Mem) : Option Mem := ck (okX L (v3 + (1 : Int32))) ((f_X10_count (xs (v3 + (1 : Int32)).toNatClampNeg) M).bind fun x1 => ck (okX L (v3 + (1 : Int32))) ((f_X11_count (xs (v3 + (1 : Int32)).toNatClampNeg) M).bind fun x3 => (if x1 = x3 then f_law_b1336 L xs k18 v3 M else none)))
set_option maxRecDepth 100000 in
set_option maxHeartbeats 4000000 in
theorem w_law_b1313 {G : GW} {E : EE} {QL : Mem → State → Prop} {rt : Option FieldType} {L : Nat} {xs : Nat → Int32} (hG : ab_ok G) (hX : ab_X G E L xs) (hret : ∀ lv M, AWo G E code 4 QL 1343 lv [.int (1 : Int32)] M (some M)) {k18 : Int32 → Mem → Option Mem} (B : Bx G E RL code 4 2000 rt) (hk18 : ∀ (v3 : Int32) (M : Mem), AWo G E code 4 QL 18 [(0, .ref 2000), (1, .ref 0), (2, .ref 47), (3, .int v3)] [] M (k18 v3 M)) (v3 : Int32) (M : Mem) : AWo G E code 4 QL 1313 [(0, .ref 2000), (1, .ref 0), (2, .ref 47), (3, .int v3)] [] M (f_law_b1313 L xs k18 v3 M) := by
  unfold f_law_b1313
  refine aw_aload_n (k0 := 1) B 1 (by decide +kernel) rfl rfl ?_
  refine aw_aload_n (k0 := 0) B 0 (by decide +kernel) rfl rfl ?_
  refine aw_iload_n (k0 := 3) B 3 (by decide +kernel) rfl rfl ?_
  refine aw_iconst (n := 1) (v := (1 : Int32)) B (by decide +kernel) (by decide) ?_
  refine aw_iadd B (by decide +kernel) ?_
  refine aw_xld hX B (by decide +kernel) ?_
  refine aw_cVR B (c_X10_count (eLa E) hG (xs (v3 + (1 : Int32)).toNatClampNeg) M) cvL_171 rfl rfl (Nat.le_of_ble_eq_true rfl) rfl (Nat.le_of_ble_eq_true rfl) (by decide +kernel) rfl (fun x1 => ?_)
  refine aw_aload_n (k0 := 2) B 2 (by decide +kernel) rfl rfl ?_
  refine aw_aload_n (k0 := 0) B 0 (by decide +kernel) rfl rfl ?_
  refine aw_iload_n (k0 := 3) B 3 (by decide +kernel) rfl rfl ?_
  refine aw_iconst (n := 1) (v := (1 : Int32)) B (by decide +kernel) (by decide) ?_
  refine aw_iadd B (by decide +kernel) ?_
  refine aw_xld hX B (by decide +kernel) ?_
  refine aw_cVR B (c_X11_count (eLa E) hG (xs (v3 + (1 : Int32)).toNatClampNeg) M) cvL_174 rfl rfl (Nat.le_of_ble_eq_true rfl) rfl (Nat.le_of_ble_eq_true rfl) (by decide +kernel) rfl (fun x3 => ?_)
  refine aw_icmp_eq (off := 5) B 1336 (by decide +kernel) (by decide) (fun _ => ?_) (fun _ => ?_)
  · exact w_law_b1336 hG hX hret B hk18 _ _
  · refine aw_iconst (n := 0) (v := (0 : Int32)) B (by decide +kernel) (by decide) ?_
    exact aw_none
def f_law_b1280 (L : Nat) (xs : Nat → Int32) (k18 : Int32 → Mem → Option Mem) (v3 : Int32) (M : Mem) : Option Mem := ck (okX L (v3 + (1 : Int32))) (ck (okX L (v3 + (2 : Int32))) ((f_X10_taken (xs (v3 + (1 : Int32)).toNatClampNeg) (xs (v3 + (2 : Int32)).toNatClampNeg) M).bind fun x1 => ck (okX L (v3 + (1 : Int32))) (ck (okX L (v3 + (2 : Int32))) ((f_X11_taken (xs (v3 + (1 : Int32)).toNatClampNeg) (xs (v3 + (2 : Int32)).toNatClampNeg) M).bind fun x3 => (if x1 = x3 then f_law_b1336 L xs k18 v3 M else none)))))
set_option maxRecDepth 100000 in
set_option maxHeartbeats 4000000 in
theorem w_law_b1280 {G : GW} {E : EE} {QL : Mem → State → Prop} {rt : Option FieldType} {L : Nat} {xs : Nat → Int32} (hG : ab_ok G) (hX : ab_X G E L xs) (hret : ∀ lv M, AWo G E code 4 QL 1343 lv [.int (1 : Int32)] M (some M)) {k18 : Int32 → Mem → Option Mem} (B : Bx G E RL code 4 2000 rt) (hk18 : ∀ (v3 : Int32) (M : Mem), AWo G E code 4 QL 18 [(0, .ref 2000), (1, .ref 0), (2, .ref 47), (3, .int v3)] [] M (k18 v3 M)) (v3 : Int32) (M : Mem) : AWo G E code 4 QL 1280 [(0, .ref 2000), (1, .ref 0), (2, .ref 47), (3, .int v3)] [] M (f_law_b1280 L xs k18 v3 M) := by
  unfold f_law_b1280
  refine aw_aload_n (k0 := 1) B 1 (by decide +kernel) rfl rfl ?_
  refine aw_aload_n (k0 := 0) B 0 (by decide +kernel) rfl rfl ?_
  refine aw_iload_n (k0 := 3) B 3 (by decide +kernel) rfl rfl ?_
  refine aw_iconst (n := 1) (v := (1 : Int32)) B (by decide +kernel) (by decide) ?_
  refine aw_iadd B (by decide +kernel) ?_
  refine aw_xld hX B (by decide +kernel) ?_
  refine aw_aload_n (k0 := 0) B 0 (by decide +kernel) rfl rfl ?_
  refine aw_iload_n (k0 := 3) B 3 (by decide +kernel) rfl rfl ?_
  refine aw_iconst (n := 2) (v := (2 : Int32)) B (by decide +kernel) (by decide) ?_
  refine aw_iadd B (by decide +kernel) ?_
  refine aw_xld hX B (by decide +kernel) ?_
  refine aw_cVR B (c_X10_taken (eLa E) hG (xs (v3 + (1 : Int32)).toNatClampNeg) (xs (v3 + (2 : Int32)).toNatClampNeg) M) cvL_167 rfl rfl (Nat.le_of_ble_eq_true rfl) rfl (Nat.le_of_ble_eq_true rfl) (by decide +kernel) rfl (fun x1 => ?_)
  refine aw_aload_n (k0 := 2) B 2 (by decide +kernel) rfl rfl ?_
  refine aw_aload_n (k0 := 0) B 0 (by decide +kernel) rfl rfl ?_
  refine aw_iload_n (k0 := 3) B 3 (by decide +kernel) rfl rfl ?_
  refine aw_iconst (n := 1) (v := (1 : Int32)) B (by decide +kernel) (by decide) ?_
  refine aw_iadd B (by decide +kernel) ?_
  refine aw_xld hX B (by decide +kernel) ?_
  refine aw_aload_n (k0 := 0) B 0 (by decide +kernel) rfl rfl ?_
  refine aw_iload_n (k0 := 3) B 3 (by decide +kernel) rfl rfl ?_
  refine aw_iconst (n := 2) (v := (2 : Int32)) B (by decide +kernel) (by decide) ?_
  refine aw_iadd B (by decide +kernel) ?_
  refine aw_xld hX B (by decide +kernel) ?_
  refine aw_cVR B (c_X11_taken (eLa E) hG (xs (v3 + (1 : Int32)).toNatClampNeg) (xs (v3 + (2 : Int32)).toNatClampNeg) M) cvL_170 rfl rfl (Nat.le_of_ble_eq_true rfl) rfl (Nat.le_of_ble_eq_true rfl) (by decide +kernel) rfl (fun x3 => ?_)
  refine aw_icmp_eq (off := 28) B 1336 (by decide +kernel) (by decide) (fun _ => ?_) (fun _ => ?_)
  · exact w_law_b1336 hG hX hret B hk18 _ _
  · refine aw_iconst (n := 0) (v := (0 : Int32)) B (by decide +kernel) (by decide) ?_
    exact aw_none
def f_law_b1217 (L : Nat) (xs : Nat → Int32) (k18 : Int32 → Mem → Option Mem) (v3 : Int32) (M : Mem) : Option Mem := ck (okX L (v3 + (1 : Int32))) (ck (okX L (v3 + (2 : Int32))) (ck (okX L (v3 + (3 : Int32))) (ck (okX L (v3 + (4 : Int32))) (ck (okX L (v3 + (5 : Int32))) (bI (f_X10_shift (xs (v3 + (1 : Int32)).toNatClampNeg) (xs (v3 + (2 : Int32)).toNatClampNeg) (xs (v3 + (3 : Int32)).toNatClampNeg) (xs (v3 + (4 : Int32)).toNatClampNeg) (xs (v3 + (5 : Int32)).toNatClampNeg) M) fun x1 M2 => ck (okX L (v3 + (1 : Int32))) (ck (okX L (v3 + (2 : Int32))) (ck (okX L (v3 + (3 : Int32))) (ck (okX L (v3 + (4 : Int32))) (ck (okX L (v3 + (5 : Int32))) (bI (f_X11_shift (xs (v3 + (1 : Int32)).toNatClampNeg) (xs (v3 + (2 : Int32)).toNatClampNeg) (xs (v3 + (3 : Int32)).toNatClampNeg) (xs (v3 + (4 : Int32)).toNatClampNeg) (xs (v3 + (5 : Int32)).toNatClampNeg) M2) fun x3 M4 => (if x1 = x3 then f_law_b1336 L xs k18 v3 M4 else none)))))))))))
set_option maxRecDepth 100000 in
set_option maxHeartbeats 4000000 in
theorem w_law_b1217 {G : GW} {E : EE} {QL : Mem → State → Prop} {rt : Option FieldType} {L : Nat} {xs : Nat → Int32} (hG : ab_ok G) (hX : ab_X G E L xs) (hret : ∀ lv M, AWo G E code 4 QL 1343 lv [.int (1 : Int32)] M (some M)) {k18 : Int32 → Mem → Option Mem} (B : Bx G E RL code 4 2000 rt) (hk18 : ∀ (v3 : Int32) (M : Mem), AWo G E code 4 QL 18 [(0, .ref 2000), (1, .ref 0), (2, .ref 47), (3, .int v3)] [] M (k18 v3 M)) (v3 : Int32) (M : Mem) : AWo G E code 4 QL 1217 [(0, .ref 2000), (1, .ref 0), (2, .ref 47), (3, .int v3)] [] M (f_law_b1217 L xs k18 v3 M) := by
  unfold f_law_b1217
  refine aw_aload_n (k0 := 1) B 1 (by decide +kernel) rfl rfl ?_
  refine aw_aload_n (k0 := 0) B 0 (by decide +kernel) rfl rfl ?_
  refine aw_iload_n (k0 := 3) B 3 (by decide +kernel) rfl rfl ?_
  refine aw_iconst (n := 1) (v := (1 : Int32)) B (by decide +kernel) (by decide) ?_
  refine aw_iadd B (by decide +kernel) ?_
  refine aw_xld hX B (by decide +kernel) ?_
  refine aw_aload_n (k0 := 0) B 0 (by decide +kernel) rfl rfl ?_
  refine aw_iload_n (k0 := 3) B 3 (by decide +kernel) rfl rfl ?_
  refine aw_iconst (n := 2) (v := (2 : Int32)) B (by decide +kernel) (by decide) ?_
  refine aw_iadd B (by decide +kernel) ?_
  refine aw_xld hX B (by decide +kernel) ?_
  refine aw_aload_n (k0 := 0) B 0 (by decide +kernel) rfl rfl ?_
  refine aw_iload_n (k0 := 3) B 3 (by decide +kernel) rfl rfl ?_
  refine aw_iconst (n := 3) (v := (3 : Int32)) B (by decide +kernel) (by decide) ?_
  refine aw_iadd B (by decide +kernel) ?_
  refine aw_xld hX B (by decide +kernel) ?_
  refine aw_aload_n (k0 := 0) B 0 (by decide +kernel) rfl rfl ?_
  refine aw_iload_n (k0 := 3) B 3 (by decide +kernel) rfl rfl ?_
  refine aw_iconst (n := 4) (v := (4 : Int32)) B (by decide +kernel) (by decide) ?_
  refine aw_iadd B (by decide +kernel) ?_
  refine aw_xld hX B (by decide +kernel) ?_
  refine aw_aload_n (k0 := 0) B 0 (by decide +kernel) rfl rfl ?_
  refine aw_iload_n (k0 := 3) B 3 (by decide +kernel) rfl rfl ?_
  refine aw_iconst (n := 5) (v := (5 : Int32)) B (by decide +kernel) (by decide) ?_
  refine aw_iadd B (by decide +kernel) ?_
  refine aw_xld hX B (by decide +kernel) ?_
  refine aw_cVI B (c_X10_shift (eLa E) hG (xs (v3 + (1 : Int32)).toNatClampNeg) (xs (v3 + (2 : Int32)).toNatClampNeg) (xs (v3 + (3 : Int32)).toNatClampNeg) (xs (v3 + (4 : Int32)).toNatClampNeg) (xs (v3 + (5 : Int32)).toNatClampNeg) M) cvL_162 rfl rfl (Nat.le_of_ble_eq_true rfl) rfl (Nat.le_of_ble_eq_true rfl) (by decide +kernel) rfl (fun x1 M2 => ?_)
  refine aw_aload_n (k0 := 2) B 2 (by decide +kernel) rfl rfl ?_
  refine aw_aload_n (k0 := 0) B 0 (by decide +kernel) rfl rfl ?_
  refine aw_iload_n (k0 := 3) B 3 (by decide +kernel) rfl rfl ?_
  refine aw_iconst (n := 1) (v := (1 : Int32)) B (by decide +kernel) (by decide) ?_
  refine aw_iadd B (by decide +kernel) ?_
  refine aw_xld hX B (by decide +kernel) ?_
  refine aw_aload_n (k0 := 0) B 0 (by decide +kernel) rfl rfl ?_
  refine aw_iload_n (k0 := 3) B 3 (by decide +kernel) rfl rfl ?_
  refine aw_iconst (n := 2) (v := (2 : Int32)) B (by decide +kernel) (by decide) ?_
  refine aw_iadd B (by decide +kernel) ?_
  refine aw_xld hX B (by decide +kernel) ?_
  refine aw_aload_n (k0 := 0) B 0 (by decide +kernel) rfl rfl ?_
  refine aw_iload_n (k0 := 3) B 3 (by decide +kernel) rfl rfl ?_
  refine aw_iconst (n := 3) (v := (3 : Int32)) B (by decide +kernel) (by decide) ?_
  refine aw_iadd B (by decide +kernel) ?_
  refine aw_xld hX B (by decide +kernel) ?_
  refine aw_aload_n (k0 := 0) B 0 (by decide +kernel) rfl rfl ?_
  refine aw_iload_n (k0 := 3) B 3 (by decide +kernel) rfl rfl ?_
  refine aw_iconst (n := 4) (v := (4 : Int32)) B (by decide +kernel) (by decide) ?_
  refine aw_iadd B (by decide +kernel) ?_
  refine aw_xld hX B (by decide +kernel) ?_
  refine aw_aload_n (k0 := 0) B 0 (by decide +kernel) rfl rfl ?_
  refine aw_iload_n (k0 := 3) B 3 (by decide +kernel) rfl rfl ?_
  refine aw_iconst (n := 5) (v := (5 : Int32)) B (by decide +kernel) (by decide) ?_
  refine aw_iadd B (by decide +kernel) ?_
  refine aw_xld hX B (by decide +kernel) ?_
  refine aw_cVI B (c_X11_shift (eLa E) hG (xs (v3 + (1 : Int32)).toNatClampNeg) (xs (v3 + (2 : Int32)).toNatClampNeg) (xs (v3 + (3 : Int32)).toNatClampNeg) (xs (v3 + (4 : Int32)).toNatClampNeg) (xs (v3 + (5 : Int32)).toNatClampNeg) M2) cvL_166 rfl rfl (Nat.le_of_ble_eq_true rfl) rfl (Nat.le_of_ble_eq_true rfl) (by decide +kernel) rfl (fun x3 M4 => ?_)
  refine aw_icmp_eq (off := 61) B 1336 (by decide +kernel) (by decide) (fun _ => ?_) (fun _ => ?_)
  · exact w_law_b1336 hG hX hret B hk18 _ _
  · refine aw_iconst (n := 0) (v := (0 : Int32)) B (by decide +kernel) (by decide) ?_
    exact aw_none
def f_law_b1183 (L : Nat) (xs : Nat → Int32) (k18 : Int32 → Mem → Option Mem) (v3 : Int32) (M : Mem) : Option Mem := ck (okX L (v3 + (1 : Int32))) (ck (okX L (v3 + (2 : Int32))) ((f_X10_element (xs (v3 + (1 : Int32)).toNatClampNeg) (xs (v3 + (2 : Int32)).toNatClampNeg) M).bind fun x1 => ck (okX L (v3 + (1 : Int32))) (ck (okX L (v3 + (2 : Int32))) ((f_X11_element (xs (v3 + (1 : Int32)).toNatClampNeg) (xs (v3 + (2 : Int32)).toNatClampNeg) M).bind fun x3 => (if (lg_cmp x1 x3) = 0 then f_law_b1336 L xs k18 v3 M else none)))))
set_option maxRecDepth 100000 in
set_option maxHeartbeats 4000000 in
theorem w_law_b1183 {G : GW} {E : EE} {QL : Mem → State → Prop} {rt : Option FieldType} {L : Nat} {xs : Nat → Int32} (hG : ab_ok G) (hX : ab_X G E L xs) (hret : ∀ lv M, AWo G E code 4 QL 1343 lv [.int (1 : Int32)] M (some M)) {k18 : Int32 → Mem → Option Mem} (B : Bx G E RL code 4 2000 rt) (hk18 : ∀ (v3 : Int32) (M : Mem), AWo G E code 4 QL 18 [(0, .ref 2000), (1, .ref 0), (2, .ref 47), (3, .int v3)] [] M (k18 v3 M)) (v3 : Int32) (M : Mem) : AWo G E code 4 QL 1183 [(0, .ref 2000), (1, .ref 0), (2, .ref 47), (3, .int v3)] [] M (f_law_b1183 L xs k18 v3 M) := by
  unfold f_law_b1183
  refine aw_aload_n (k0 := 1) B 1 (by decide +kernel) rfl rfl ?_
  refine aw_aload_n (k0 := 0) B 0 (by decide +kernel) rfl rfl ?_
  refine aw_iload_n (k0 := 3) B 3 (by decide +kernel) rfl rfl ?_
  refine aw_iconst (n := 1) (v := (1 : Int32)) B (by decide +kernel) (by decide) ?_
  refine aw_iadd B (by decide +kernel) ?_
  refine aw_xld hX B (by decide +kernel) ?_
  refine aw_aload_n (k0 := 0) B 0 (by decide +kernel) rfl rfl ?_
  refine aw_iload_n (k0 := 3) B 3 (by decide +kernel) rfl rfl ?_
  refine aw_iconst (n := 2) (v := (2 : Int32)) B (by decide +kernel) (by decide) ?_
  refine aw_iadd B (by decide +kernel) ?_
  refine aw_xld hX B (by decide +kernel) ?_
  refine aw_cVL B (c_X10_element (eLa E) hG (xs (v3 + (1 : Int32)).toNatClampNeg) (xs (v3 + (2 : Int32)).toNatClampNeg) M) cvL_157 rfl rfl (Nat.le_of_ble_eq_true rfl) rfl (Nat.le_of_ble_eq_true rfl) (by decide +kernel) rfl (fun x1 => ?_)
  refine aw_aload_n (k0 := 2) B 2 (by decide +kernel) rfl rfl ?_
  refine aw_aload_n (k0 := 0) B 0 (by decide +kernel) rfl rfl ?_
  refine aw_iload_n (k0 := 3) B 3 (by decide +kernel) rfl rfl ?_
  refine aw_iconst (n := 1) (v := (1 : Int32)) B (by decide +kernel) (by decide) ?_
  refine aw_iadd B (by decide +kernel) ?_
  refine aw_xld hX B (by decide +kernel) ?_
  refine aw_aload_n (k0 := 0) B 0 (by decide +kernel) rfl rfl ?_
  refine aw_iload_n (k0 := 3) B 3 (by decide +kernel) rfl rfl ?_
  refine aw_iconst (n := 2) (v := (2 : Int32)) B (by decide +kernel) (by decide) ?_
  refine aw_iadd B (by decide +kernel) ?_
  refine aw_xld hX B (by decide +kernel) ?_
  refine aw_cVL B (c_X11_element (eLa E) hG (xs (v3 + (1 : Int32)).toNatClampNeg) (xs (v3 + (2 : Int32)).toNatClampNeg) M) cvL_161 rfl rfl (Nat.le_of_ble_eq_true rfl) rfl (Nat.le_of_ble_eq_true rfl) (by decide +kernel) rfl (fun x3 => ?_)
  refine aw_lcmp B (by decide +kernel) ?_
  refine aw_if_eq (off := 124) B 1336 (by decide +kernel) (by decide) (fun _ => ?_) (fun _ => ?_)
  · exact w_law_b1336 hG hX hret B hk18 _ _
  · refine aw_iconst (n := 0) (v := (0 : Int32)) B (by decide +kernel) (by decide) ?_
    exact aw_none
def f_law_b1110 (L : Nat) (xs : Nat → Int32) (k18 : Int32 → Mem → Option Mem) (v3 : Int32) (M : Mem) : Option Mem := ck (okX L (v3 + (1 : Int32))) (ck (okX L (v3 + (2 : Int32))) (ck (okX L (v3 + (3 : Int32))) (ck (okX L (v3 + (4 : Int32))) (bI (f_X10_put (xs (v3 + (1 : Int32)).toNatClampNeg) (xs (v3 + (2 : Int32)).toNatClampNeg) ((ab_lshl ((xs (v3 + (3 : Int32)).toNatClampNeg).toInt64) (32 : Int32)) ||| (((xs (v3 + (4 : Int32)).toNatClampNeg).toInt64) &&& (4294967295 : Int64))) M) fun x1 M2 => ck (okX L (v3 + (1 : Int32))) (ck (okX L (v3 + (2 : Int32))) (ck (okX L (v3 + (3 : Int32))) (ck (okX L (v3 + (4 : Int32))) (bI (f_X11_put (xs (v3 + (1 : Int32)).toNatClampNeg) (xs (v3 + (2 : Int32)).toNatClampNeg) ((ab_lshl ((xs (v3 + (3 : Int32)).toNatClampNeg).toInt64) (32 : Int32)) ||| (((xs (v3 + (4 : Int32)).toNatClampNeg).toInt64) &&& (4294967295 : Int64))) M2) fun x3 M4 => (if x1 = x3 then f_law_b1336 L xs k18 v3 M4 else none)))))))))
set_option maxRecDepth 100000 in
set_option maxHeartbeats 4000000 in
theorem w_law_b1110 {G : GW} {E : EE} {QL : Mem → State → Prop} {rt : Option FieldType} {L : Nat} {xs : Nat → Int32} (hG : ab_ok G) (hX : ab_X G E L xs) (hret : ∀ lv M, AWo G E code 4 QL 1343 lv [.int (1 : Int32)] M (some M)) {k18 : Int32 → Mem → Option Mem} (B : Bx G E RL code 4 2000 rt) (hk18 : ∀ (v3 : Int32) (M : Mem), AWo G E code 4 QL 18 [(0, .ref 2000), (1, .ref 0), (2, .ref 47), (3, .int v3)] [] M (k18 v3 M)) (v3 : Int32) (M : Mem) : AWo G E code 4 QL 1110 [(0, .ref 2000), (1, .ref 0), (2, .ref 47), (3, .int v3)] [] M (f_law_b1110 L xs k18 v3 M) := by
  unfold f_law_b1110
  refine aw_aload_n (k0 := 1) B 1 (by decide +kernel) rfl rfl ?_
  refine aw_aload_n (k0 := 0) B 0 (by decide +kernel) rfl rfl ?_
  refine aw_iload_n (k0 := 3) B 3 (by decide +kernel) rfl rfl ?_
  refine aw_iconst (n := 1) (v := (1 : Int32)) B (by decide +kernel) (by decide) ?_
  refine aw_iadd B (by decide +kernel) ?_
  refine aw_xld hX B (by decide +kernel) ?_
  refine aw_aload_n (k0 := 0) B 0 (by decide +kernel) rfl rfl ?_
  refine aw_iload_n (k0 := 3) B 3 (by decide +kernel) rfl rfl ?_
  refine aw_iconst (n := 2) (v := (2 : Int32)) B (by decide +kernel) (by decide) ?_
  refine aw_iadd B (by decide +kernel) ?_
  refine aw_xld hX B (by decide +kernel) ?_
  refine aw_aload_n (k0 := 0) B 0 (by decide +kernel) rfl rfl ?_
  refine aw_iload_n (k0 := 3) B 3 (by decide +kernel) rfl rfl ?_
  refine aw_iconst (n := 3) (v := (3 : Int32)) B (by decide +kernel) (by decide) ?_
  refine aw_iadd B (by decide +kernel) ?_
  refine aw_xld hX B (by decide +kernel) ?_
  refine aw_i2l B (by decide +kernel) ?_
  refine aw_bipush (n := 32) (v := (32 : Int32)) B (by decide +kernel) (by decide) ?_
  refine aw_lshl B (by decide +kernel) ?_
  refine aw_aload_n (k0 := 0) B 0 (by decide +kernel) rfl rfl ?_
  refine aw_iload_n (k0 := 3) B 3 (by decide +kernel) rfl rfl ?_
  refine aw_iconst (n := 4) (v := (4 : Int32)) B (by decide +kernel) (by decide) ?_
  refine aw_iadd B (by decide +kernel) ?_
  refine aw_xld hX B (by decide +kernel) ?_
  refine aw_i2l B (by decide +kernel) ?_
  refine aw_ldc2 B (by decide +kernel) lwL_150 ?_
  refine aw_land B (by decide +kernel) ?_
  refine aw_lor B (by decide +kernel) ?_
  refine aw_cVI B (c_X10_put (eLa E) hG (xs (v3 + (1 : Int32)).toNatClampNeg) (xs (v3 + (2 : Int32)).toNatClampNeg) ((ab_lshl ((xs (v3 + (3 : Int32)).toNatClampNeg).toInt64) (32 : Int32)) ||| (((xs (v3 + (4 : Int32)).toNatClampNeg).toInt64) &&& (4294967295 : Int64))) M) cvL_152 rfl rfl (Nat.le_of_ble_eq_true rfl) rfl (Nat.le_of_ble_eq_true rfl) (by decide +kernel) rfl (fun x1 M2 => ?_)
  refine aw_aload_n (k0 := 2) B 2 (by decide +kernel) rfl rfl ?_
  refine aw_aload_n (k0 := 0) B 0 (by decide +kernel) rfl rfl ?_
  refine aw_iload_n (k0 := 3) B 3 (by decide +kernel) rfl rfl ?_
  refine aw_iconst (n := 1) (v := (1 : Int32)) B (by decide +kernel) (by decide) ?_
  refine aw_iadd B (by decide +kernel) ?_
  refine aw_xld hX B (by decide +kernel) ?_
  refine aw_aload_n (k0 := 0) B 0 (by decide +kernel) rfl rfl ?_
  refine aw_iload_n (k0 := 3) B 3 (by decide +kernel) rfl rfl ?_
  refine aw_iconst (n := 2) (v := (2 : Int32)) B (by decide +kernel) (by decide) ?_
  refine aw_iadd B (by decide +kernel) ?_
  refine aw_xld hX B (by decide +kernel) ?_
  refine aw_aload_n (k0 := 0) B 0 (by decide +kernel) rfl rfl ?_
  refine aw_iload_n (k0 := 3) B 3 (by decide +kernel) rfl rfl ?_
  refine aw_iconst (n := 3) (v := (3 : Int32)) B (by decide +kernel) (by decide) ?_
  refine aw_iadd B (by decide +kernel) ?_
  refine aw_xld hX B (by decide +kernel) ?_
  refine aw_i2l B (by decide +kernel) ?_
  refine aw_bipush (n := 32) (v := (32 : Int32)) B (by decide +kernel) (by decide) ?_
  refine aw_lshl B (by decide +kernel) ?_
  refine aw_aload_n (k0 := 0) B 0 (by decide +kernel) rfl rfl ?_
  refine aw_iload_n (k0 := 3) B 3 (by decide +kernel) rfl rfl ?_
  refine aw_iconst (n := 4) (v := (4 : Int32)) B (by decide +kernel) (by decide) ?_
  refine aw_iadd B (by decide +kernel) ?_
  refine aw_xld hX B (by decide +kernel) ?_
  refine aw_i2l B (by decide +kernel) ?_
  refine aw_ldc2 B (by decide +kernel) lwL_150 ?_
  refine aw_land B (by decide +kernel) ?_
  refine aw_lor B (by decide +kernel) ?_
  refine aw_cVI B (c_X11_put (eLa E) hG (xs (v3 + (1 : Int32)).toNatClampNeg) (xs (v3 + (2 : Int32)).toNatClampNeg) ((ab_lshl ((xs (v3 + (3 : Int32)).toNatClampNeg).toInt64) (32 : Int32)) ||| (((xs (v3 + (4 : Int32)).toNatClampNeg).toInt64) &&& (4294967295 : Int64))) M2) cvL_156 rfl rfl (Nat.le_of_ble_eq_true rfl) rfl (Nat.le_of_ble_eq_true rfl) (by decide +kernel) rfl (fun x3 M4 => ?_)
  refine aw_icmp_eq (off := 158) B 1336 (by decide +kernel) (by decide) (fun _ => ?_) (fun _ => ?_)
  · exact w_law_b1336 hG hX hret B hk18 _ _
  · refine aw_iconst (n := 0) (v := (0 : Int32)) B (by decide +kernel) (by decide) ?_
    exact aw_none
def f_law_b1067 (L : Nat) (xs : Nat → Int32) (k18 : Int32 → Mem → Option Mem) (v3 : Int32) (M : Mem) : Option Mem := ck (okX L (v3 + (1 : Int32))) (ck (okX L (v3 + (2 : Int32))) (ck (okX L (v3 + (3 : Int32))) (bI (f_X10_row (xs (v3 + (1 : Int32)).toNatClampNeg) (xs (v3 + (2 : Int32)).toNatClampNeg) (xs (v3 + (3 : Int32)).toNatClampNeg) M) fun x1 M2 => ck (okX L (v3 + (1 : Int32))) (ck (okX L (v3 + (2 : Int32))) (ck (okX L (v3 + (3 : Int32))) (bI (f_X11_row (xs (v3 + (1 : Int32)).toNatClampNeg) (xs (v3 + (2 : Int32)).toNatClampNeg) (xs (v3 + (3 : Int32)).toNatClampNeg) M2) fun x3 M4 => (if x1 = x3 then f_law_b1336 L xs k18 v3 M4 else none)))))))
set_option maxRecDepth 100000 in
set_option maxHeartbeats 4000000 in
theorem w_law_b1067 {G : GW} {E : EE} {QL : Mem → State → Prop} {rt : Option FieldType} {L : Nat} {xs : Nat → Int32} (hG : ab_ok G) (hX : ab_X G E L xs) (hret : ∀ lv M, AWo G E code 4 QL 1343 lv [.int (1 : Int32)] M (some M)) {k18 : Int32 → Mem → Option Mem} (B : Bx G E RL code 4 2000 rt) (hk18 : ∀ (v3 : Int32) (M : Mem), AWo G E code 4 QL 18 [(0, .ref 2000), (1, .ref 0), (2, .ref 47), (3, .int v3)] [] M (k18 v3 M)) (v3 : Int32) (M : Mem) : AWo G E code 4 QL 1067 [(0, .ref 2000), (1, .ref 0), (2, .ref 47), (3, .int v3)] [] M (f_law_b1067 L xs k18 v3 M) := by
  unfold f_law_b1067
  refine aw_aload_n (k0 := 1) B 1 (by decide +kernel) rfl rfl ?_
  refine aw_aload_n (k0 := 0) B 0 (by decide +kernel) rfl rfl ?_
  refine aw_iload_n (k0 := 3) B 3 (by decide +kernel) rfl rfl ?_
  refine aw_iconst (n := 1) (v := (1 : Int32)) B (by decide +kernel) (by decide) ?_
  refine aw_iadd B (by decide +kernel) ?_
  refine aw_xld hX B (by decide +kernel) ?_
  refine aw_aload_n (k0 := 0) B 0 (by decide +kernel) rfl rfl ?_
  refine aw_iload_n (k0 := 3) B 3 (by decide +kernel) rfl rfl ?_
  refine aw_iconst (n := 2) (v := (2 : Int32)) B (by decide +kernel) (by decide) ?_
  refine aw_iadd B (by decide +kernel) ?_
  refine aw_xld hX B (by decide +kernel) ?_
  refine aw_aload_n (k0 := 0) B 0 (by decide +kernel) rfl rfl ?_
  refine aw_iload_n (k0 := 3) B 3 (by decide +kernel) rfl rfl ?_
  refine aw_iconst (n := 3) (v := (3 : Int32)) B (by decide +kernel) (by decide) ?_
  refine aw_iadd B (by decide +kernel) ?_
  refine aw_xld hX B (by decide +kernel) ?_
  refine aw_cVI B (c_X10_row (eLa E) hG (xs (v3 + (1 : Int32)).toNatClampNeg) (xs (v3 + (2 : Int32)).toNatClampNeg) (xs (v3 + (3 : Int32)).toNatClampNeg) M) cvL_146 rfl rfl (Nat.le_of_ble_eq_true rfl) rfl (Nat.le_of_ble_eq_true rfl) (by decide +kernel) rfl (fun x1 M2 => ?_)
  refine aw_aload_n (k0 := 2) B 2 (by decide +kernel) rfl rfl ?_
  refine aw_aload_n (k0 := 0) B 0 (by decide +kernel) rfl rfl ?_
  refine aw_iload_n (k0 := 3) B 3 (by decide +kernel) rfl rfl ?_
  refine aw_iconst (n := 1) (v := (1 : Int32)) B (by decide +kernel) (by decide) ?_
  refine aw_iadd B (by decide +kernel) ?_
  refine aw_xld hX B (by decide +kernel) ?_
  refine aw_aload_n (k0 := 0) B 0 (by decide +kernel) rfl rfl ?_
  refine aw_iload_n (k0 := 3) B 3 (by decide +kernel) rfl rfl ?_
  refine aw_iconst (n := 2) (v := (2 : Int32)) B (by decide +kernel) (by decide) ?_
  refine aw_iadd B (by decide +kernel) ?_
  refine aw_xld hX B (by decide +kernel) ?_
  refine aw_aload_n (k0 := 0) B 0 (by decide +kernel) rfl rfl ?_
  refine aw_iload_n (k0 := 3) B 3 (by decide +kernel) rfl rfl ?_
  refine aw_iconst (n := 3) (v := (3 : Int32)) B (by decide +kernel) (by decide) ?_
  refine aw_iadd B (by decide +kernel) ?_
  refine aw_xld hX B (by decide +kernel) ?_
  refine aw_cVI B (c_X11_row (eLa E) hG (xs (v3 + (1 : Int32)).toNatClampNeg) (xs (v3 + (2 : Int32)).toNatClampNeg) (xs (v3 + (3 : Int32)).toNatClampNeg) M2) cvL_149 rfl rfl (Nat.le_of_ble_eq_true rfl) rfl (Nat.le_of_ble_eq_true rfl) (by decide +kernel) rfl (fun x3 M4 => ?_)
  refine aw_icmp_eq (off := 231) B 1336 (by decide +kernel) (by decide) (fun _ => ?_) (fun _ => ?_)
  · exact w_law_b1336 hG hX hret B hk18 _ _
  · refine aw_iconst (n := 0) (v := (0 : Int32)) B (by decide +kernel) (by decide) ?_
    exact aw_none
def f_law_b1034 (L : Nat) (xs : Nat → Int32) (k18 : Int32 → Mem → Option Mem) (v3 : Int32) (M : Mem) : Option Mem := ck (okX L (v3 + (1 : Int32))) (ck (okX L (v3 + (2 : Int32))) (bI (f_X10_keep (xs (v3 + (1 : Int32)).toNatClampNeg) (xs (v3 + (2 : Int32)).toNatClampNeg) M) fun x1 M2 => ck (okX L (v3 + (1 : Int32))) (ck (okX L (v3 + (2 : Int32))) (bI (f_X11_keep (xs (v3 + (1 : Int32)).toNatClampNeg) (xs (v3 + (2 : Int32)).toNatClampNeg) M2) fun x3 M4 => (if x1 = x3 then f_law_b1336 L xs k18 v3 M4 else none)))))
set_option maxRecDepth 100000 in
set_option maxHeartbeats 4000000 in
theorem w_law_b1034 {G : GW} {E : EE} {QL : Mem → State → Prop} {rt : Option FieldType} {L : Nat} {xs : Nat → Int32} (hG : ab_ok G) (hX : ab_X G E L xs) (hret : ∀ lv M, AWo G E code 4 QL 1343 lv [.int (1 : Int32)] M (some M)) {k18 : Int32 → Mem → Option Mem} (B : Bx G E RL code 4 2000 rt) (hk18 : ∀ (v3 : Int32) (M : Mem), AWo G E code 4 QL 18 [(0, .ref 2000), (1, .ref 0), (2, .ref 47), (3, .int v3)] [] M (k18 v3 M)) (v3 : Int32) (M : Mem) : AWo G E code 4 QL 1034 [(0, .ref 2000), (1, .ref 0), (2, .ref 47), (3, .int v3)] [] M (f_law_b1034 L xs k18 v3 M) := by
  unfold f_law_b1034
  refine aw_aload_n (k0 := 1) B 1 (by decide +kernel) rfl rfl ?_
  refine aw_aload_n (k0 := 0) B 0 (by decide +kernel) rfl rfl ?_
  refine aw_iload_n (k0 := 3) B 3 (by decide +kernel) rfl rfl ?_
  refine aw_iconst (n := 1) (v := (1 : Int32)) B (by decide +kernel) (by decide) ?_
  refine aw_iadd B (by decide +kernel) ?_
  refine aw_xld hX B (by decide +kernel) ?_
  refine aw_aload_n (k0 := 0) B 0 (by decide +kernel) rfl rfl ?_
  refine aw_iload_n (k0 := 3) B 3 (by decide +kernel) rfl rfl ?_
  refine aw_iconst (n := 2) (v := (2 : Int32)) B (by decide +kernel) (by decide) ?_
  refine aw_iadd B (by decide +kernel) ?_
  refine aw_xld hX B (by decide +kernel) ?_
  refine aw_cVI B (c_X10_keep (eLa E) hG (xs (v3 + (1 : Int32)).toNatClampNeg) (xs (v3 + (2 : Int32)).toNatClampNeg) M) cvL_142 rfl rfl (Nat.le_of_ble_eq_true rfl) rfl (Nat.le_of_ble_eq_true rfl) (by decide +kernel) rfl (fun x1 M2 => ?_)
  refine aw_aload_n (k0 := 2) B 2 (by decide +kernel) rfl rfl ?_
  refine aw_aload_n (k0 := 0) B 0 (by decide +kernel) rfl rfl ?_
  refine aw_iload_n (k0 := 3) B 3 (by decide +kernel) rfl rfl ?_
  refine aw_iconst (n := 1) (v := (1 : Int32)) B (by decide +kernel) (by decide) ?_
  refine aw_iadd B (by decide +kernel) ?_
  refine aw_xld hX B (by decide +kernel) ?_
  refine aw_aload_n (k0 := 0) B 0 (by decide +kernel) rfl rfl ?_
  refine aw_iload_n (k0 := 3) B 3 (by decide +kernel) rfl rfl ?_
  refine aw_iconst (n := 2) (v := (2 : Int32)) B (by decide +kernel) (by decide) ?_
  refine aw_iadd B (by decide +kernel) ?_
  refine aw_xld hX B (by decide +kernel) ?_
  refine aw_cVI B (c_X11_keep (eLa E) hG (xs (v3 + (1 : Int32)).toNatClampNeg) (xs (v3 + (2 : Int32)).toNatClampNeg) M2) cvL_145 rfl rfl (Nat.le_of_ble_eq_true rfl) rfl (Nat.le_of_ble_eq_true rfl) (by decide +kernel) rfl (fun x3 M4 => ?_)
  refine aw_icmp_eq (off := 274) B 1336 (by decide +kernel) (by decide) (fun _ => ?_) (fun _ => ?_)
  · exact w_law_b1336 hG hX hret B hk18 _ _
  · refine aw_iconst (n := 0) (v := (0 : Int32)) B (by decide +kernel) (by decide) ?_
    exact aw_none
def f_law_b1011 (L : Nat) (xs : Nat → Int32) (k18 : Int32 → Mem → Option Mem) (v3 : Int32) (M : Mem) : Option Mem := ck (okX L (v3 + (1 : Int32))) ((f_X10_trace (xs (v3 + (1 : Int32)).toNatClampNeg) M).bind fun x1 => ck (okX L (v3 + (1 : Int32))) ((f_X11_trace (xs (v3 + (1 : Int32)).toNatClampNeg) M).bind fun x3 => (if x1 = x3 then f_law_b1336 L xs k18 v3 M else none)))
set_option maxRecDepth 100000 in
set_option maxHeartbeats 4000000 in
theorem w_law_b1011 {G : GW} {E : EE} {QL : Mem → State → Prop} {rt : Option FieldType} {L : Nat} {xs : Nat → Int32} (hG : ab_ok G) (hX : ab_X G E L xs) (hret : ∀ lv M, AWo G E code 4 QL 1343 lv [.int (1 : Int32)] M (some M)) {k18 : Int32 → Mem → Option Mem} (B : Bx G E RL code 4 2000 rt) (hk18 : ∀ (v3 : Int32) (M : Mem), AWo G E code 4 QL 18 [(0, .ref 2000), (1, .ref 0), (2, .ref 47), (3, .int v3)] [] M (k18 v3 M)) (v3 : Int32) (M : Mem) : AWo G E code 4 QL 1011 [(0, .ref 2000), (1, .ref 0), (2, .ref 47), (3, .int v3)] [] M (f_law_b1011 L xs k18 v3 M) := by
  unfold f_law_b1011
  refine aw_aload_n (k0 := 1) B 1 (by decide +kernel) rfl rfl ?_
  refine aw_aload_n (k0 := 0) B 0 (by decide +kernel) rfl rfl ?_
  refine aw_iload_n (k0 := 3) B 3 (by decide +kernel) rfl rfl ?_
  refine aw_iconst (n := 1) (v := (1 : Int32)) B (by decide +kernel) (by decide) ?_
  refine aw_iadd B (by decide +kernel) ?_
  refine aw_xld hX B (by decide +kernel) ?_
  refine aw_cVR B (c_X10_trace (eLa E) hG (xs (v3 + (1 : Int32)).toNatClampNeg) M) cvL_138 rfl rfl (Nat.le_of_ble_eq_true rfl) rfl (Nat.le_of_ble_eq_true rfl) (by decide +kernel) rfl (fun x1 => ?_)
  refine aw_aload_n (k0 := 2) B 2 (by decide +kernel) rfl rfl ?_
  refine aw_aload_n (k0 := 0) B 0 (by decide +kernel) rfl rfl ?_
  refine aw_iload_n (k0 := 3) B 3 (by decide +kernel) rfl rfl ?_
  refine aw_iconst (n := 1) (v := (1 : Int32)) B (by decide +kernel) (by decide) ?_
  refine aw_iadd B (by decide +kernel) ?_
  refine aw_xld hX B (by decide +kernel) ?_
  refine aw_cVR B (c_X11_trace (eLa E) hG (xs (v3 + (1 : Int32)).toNatClampNeg) M) cvL_141 rfl rfl (Nat.le_of_ble_eq_true rfl) rfl (Nat.le_of_ble_eq_true rfl) (by decide +kernel) rfl (fun x3 => ?_)
  refine aw_icmp_eq (off := 307) B 1336 (by decide +kernel) (by decide) (fun _ => ?_) (fun _ => ?_)
  · exact w_law_b1336 hG hX hret B hk18 _ _
  · refine aw_iconst (n := 0) (v := (0 : Int32)) B (by decide +kernel) (by decide) ?_
    exact aw_none
def f_law_b968 (L : Nat) (xs : Nat → Int32) (k18 : Int32 → Mem → Option Mem) (v3 : Int32) (M : Mem) : Option Mem := ck (okX L (v3 + (1 : Int32))) (ck (okX L (v3 + (2 : Int32))) (ck (okX L (v3 + (3 : Int32))) (bI (f_X10_act (xs (v3 + (1 : Int32)).toNatClampNeg) (xs (v3 + (2 : Int32)).toNatClampNeg) (xs (v3 + (3 : Int32)).toNatClampNeg) M) fun x1 M2 => ck (okX L (v3 + (1 : Int32))) (ck (okX L (v3 + (2 : Int32))) (ck (okX L (v3 + (3 : Int32))) (bI (f_X11_act (xs (v3 + (1 : Int32)).toNatClampNeg) (xs (v3 + (2 : Int32)).toNatClampNeg) (xs (v3 + (3 : Int32)).toNatClampNeg) M2) fun x3 M4 => (if x1 = x3 then f_law_b1336 L xs k18 v3 M4 else none)))))))
set_option maxRecDepth 100000 in
set_option maxHeartbeats 4000000 in
theorem w_law_b968 {G : GW} {E : EE} {QL : Mem → State → Prop} {rt : Option FieldType} {L : Nat} {xs : Nat → Int32} (hG : ab_ok G) (hX : ab_X G E L xs) (hret : ∀ lv M, AWo G E code 4 QL 1343 lv [.int (1 : Int32)] M (some M)) {k18 : Int32 → Mem → Option Mem} (B : Bx G E RL code 4 2000 rt) (hk18 : ∀ (v3 : Int32) (M : Mem), AWo G E code 4 QL 18 [(0, .ref 2000), (1, .ref 0), (2, .ref 47), (3, .int v3)] [] M (k18 v3 M)) (v3 : Int32) (M : Mem) : AWo G E code 4 QL 968 [(0, .ref 2000), (1, .ref 0), (2, .ref 47), (3, .int v3)] [] M (f_law_b968 L xs k18 v3 M) := by
  unfold f_law_b968
  refine aw_aload_n (k0 := 1) B 1 (by decide +kernel) rfl rfl ?_
  refine aw_aload_n (k0 := 0) B 0 (by decide +kernel) rfl rfl ?_
  refine aw_iload_n (k0 := 3) B 3 (by decide +kernel) rfl rfl ?_
  refine aw_iconst (n := 1) (v := (1 : Int32)) B (by decide +kernel) (by decide) ?_
  refine aw_iadd B (by decide +kernel) ?_
  refine aw_xld hX B (by decide +kernel) ?_
  refine aw_aload_n (k0 := 0) B 0 (by decide +kernel) rfl rfl ?_
  refine aw_iload_n (k0 := 3) B 3 (by decide +kernel) rfl rfl ?_
  refine aw_iconst (n := 2) (v := (2 : Int32)) B (by decide +kernel) (by decide) ?_
  refine aw_iadd B (by decide +kernel) ?_
  refine aw_xld hX B (by decide +kernel) ?_
  refine aw_aload_n (k0 := 0) B 0 (by decide +kernel) rfl rfl ?_
  refine aw_iload_n (k0 := 3) B 3 (by decide +kernel) rfl rfl ?_
  refine aw_iconst (n := 3) (v := (3 : Int32)) B (by decide +kernel) (by decide) ?_
  refine aw_iadd B (by decide +kernel) ?_
  refine aw_xld hX B (by decide +kernel) ?_
  refine aw_cVI B (c_X10_act (eLa E) hG (xs (v3 + (1 : Int32)).toNatClampNeg) (xs (v3 + (2 : Int32)).toNatClampNeg) (xs (v3 + (3 : Int32)).toNatClampNeg) M) cvL_134 rfl rfl (Nat.le_of_ble_eq_true rfl) rfl (Nat.le_of_ble_eq_true rfl) (by decide +kernel) rfl (fun x1 M2 => ?_)
  refine aw_aload_n (k0 := 2) B 2 (by decide +kernel) rfl rfl ?_
  refine aw_aload_n (k0 := 0) B 0 (by decide +kernel) rfl rfl ?_
  refine aw_iload_n (k0 := 3) B 3 (by decide +kernel) rfl rfl ?_
  refine aw_iconst (n := 1) (v := (1 : Int32)) B (by decide +kernel) (by decide) ?_
  refine aw_iadd B (by decide +kernel) ?_
  refine aw_xld hX B (by decide +kernel) ?_
  refine aw_aload_n (k0 := 0) B 0 (by decide +kernel) rfl rfl ?_
  refine aw_iload_n (k0 := 3) B 3 (by decide +kernel) rfl rfl ?_
  refine aw_iconst (n := 2) (v := (2 : Int32)) B (by decide +kernel) (by decide) ?_
  refine aw_iadd B (by decide +kernel) ?_
  refine aw_xld hX B (by decide +kernel) ?_
  refine aw_aload_n (k0 := 0) B 0 (by decide +kernel) rfl rfl ?_
  refine aw_iload_n (k0 := 3) B 3 (by decide +kernel) rfl rfl ?_
  refine aw_iconst (n := 3) (v := (3 : Int32)) B (by decide +kernel) (by decide) ?_
  refine aw_iadd B (by decide +kernel) ?_
  refine aw_xld hX B (by decide +kernel) ?_
  refine aw_cVI B (c_X11_act (eLa E) hG (xs (v3 + (1 : Int32)).toNatClampNeg) (xs (v3 + (2 : Int32)).toNatClampNeg) (xs (v3 + (3 : Int32)).toNatClampNeg) M2) cvL_137 rfl rfl (Nat.le_of_ble_eq_true rfl) rfl (Nat.le_of_ble_eq_true rfl) (by decide +kernel) rfl (fun x3 M4 => ?_)
  refine aw_icmp_eq (off := 330) B 1336 (by decide +kernel) (by decide) (fun _ => ?_) (fun _ => ?_)
  · exact w_law_b1336 hG hX hret B hk18 _ _
  · refine aw_iconst (n := 0) (v := (0 : Int32)) B (by decide +kernel) (by decide) ?_
    exact aw_none
def f_law_b945 (L : Nat) (xs : Nat → Int32) (k18 : Int32 → Mem → Option Mem) (v3 : Int32) (M : Mem) : Option Mem := ck (okX L (v3 + (1 : Int32))) (bI (f_X10_body (xs (v3 + (1 : Int32)).toNatClampNeg) M) fun x1 M2 => ck (okX L (v3 + (1 : Int32))) (bI (f_X11_body (xs (v3 + (1 : Int32)).toNatClampNeg) M2) fun x3 M4 => (if x1 = x3 then f_law_b1336 L xs k18 v3 M4 else none)))
set_option maxRecDepth 100000 in
set_option maxHeartbeats 4000000 in
theorem w_law_b945 {G : GW} {E : EE} {QL : Mem → State → Prop} {rt : Option FieldType} {L : Nat} {xs : Nat → Int32} (hG : ab_ok G) (hX : ab_X G E L xs) (hret : ∀ lv M, AWo G E code 4 QL 1343 lv [.int (1 : Int32)] M (some M)) {k18 : Int32 → Mem → Option Mem} (B : Bx G E RL code 4 2000 rt) (hk18 : ∀ (v3 : Int32) (M : Mem), AWo G E code 4 QL 18 [(0, .ref 2000), (1, .ref 0), (2, .ref 47), (3, .int v3)] [] M (k18 v3 M)) (v3 : Int32) (M : Mem) : AWo G E code 4 QL 945 [(0, .ref 2000), (1, .ref 0), (2, .ref 47), (3, .int v3)] [] M (f_law_b945 L xs k18 v3 M) := by
  unfold f_law_b945
  refine aw_aload_n (k0 := 1) B 1 (by decide +kernel) rfl rfl ?_
  refine aw_aload_n (k0 := 0) B 0 (by decide +kernel) rfl rfl ?_
  refine aw_iload_n (k0 := 3) B 3 (by decide +kernel) rfl rfl ?_
  refine aw_iconst (n := 1) (v := (1 : Int32)) B (by decide +kernel) (by decide) ?_
  refine aw_iadd B (by decide +kernel) ?_
  refine aw_xld hX B (by decide +kernel) ?_
  refine aw_cVI B (c_X10_body (eLa E) hG (xs (v3 + (1 : Int32)).toNatClampNeg) M) cvL_130 rfl rfl (Nat.le_of_ble_eq_true rfl) rfl (Nat.le_of_ble_eq_true rfl) (by decide +kernel) rfl (fun x1 M2 => ?_)
  refine aw_aload_n (k0 := 2) B 2 (by decide +kernel) rfl rfl ?_
  refine aw_aload_n (k0 := 0) B 0 (by decide +kernel) rfl rfl ?_
  refine aw_iload_n (k0 := 3) B 3 (by decide +kernel) rfl rfl ?_
  refine aw_iconst (n := 1) (v := (1 : Int32)) B (by decide +kernel) (by decide) ?_
  refine aw_iadd B (by decide +kernel) ?_
  refine aw_xld hX B (by decide +kernel) ?_
  refine aw_cVI B (c_X11_body (eLa E) hG (xs (v3 + (1 : Int32)).toNatClampNeg) M2) cvL_133 rfl rfl (Nat.le_of_ble_eq_true rfl) rfl (Nat.le_of_ble_eq_true rfl) (by decide +kernel) rfl (fun x3 M4 => ?_)
  refine aw_icmp_eq (off := 373) B 1336 (by decide +kernel) (by decide) (fun _ => ?_) (fun _ => ?_)
  · exact w_law_b1336 hG hX hret B hk18 _ _
  · refine aw_iconst (n := 0) (v := (0 : Int32)) B (by decide +kernel) (by decide) ?_
    exact aw_none
def f_law_b932 (L : Nat) (xs : Nat → Int32) (k18 : Int32 → Mem → Option Mem) (v3 : Int32) (M : Mem) : Option Mem := bI (f_X10_redo M) fun x1 M2 => bI (f_X11_redo M2) fun x3 M4 => (if x1 = x3 then f_law_b1336 L xs k18 v3 M4 else none)
set_option maxRecDepth 100000 in
set_option maxHeartbeats 4000000 in
theorem w_law_b932 {G : GW} {E : EE} {QL : Mem → State → Prop} {rt : Option FieldType} {L : Nat} {xs : Nat → Int32} (hG : ab_ok G) (hX : ab_X G E L xs) (hret : ∀ lv M, AWo G E code 4 QL 1343 lv [.int (1 : Int32)] M (some M)) {k18 : Int32 → Mem → Option Mem} (B : Bx G E RL code 4 2000 rt) (hk18 : ∀ (v3 : Int32) (M : Mem), AWo G E code 4 QL 18 [(0, .ref 2000), (1, .ref 0), (2, .ref 47), (3, .int v3)] [] M (k18 v3 M)) (v3 : Int32) (M : Mem) : AWo G E code 4 QL 932 [(0, .ref 2000), (1, .ref 0), (2, .ref 47), (3, .int v3)] [] M (f_law_b932 L xs k18 v3 M) := by
  unfold f_law_b932
  refine aw_aload_n (k0 := 1) B 1 (by decide +kernel) rfl rfl ?_
  refine aw_cVI B (c_X10_redo (eLa E) hG M) cvL_126 rfl rfl (Nat.le_of_ble_eq_true rfl) rfl (Nat.le_of_ble_eq_true rfl) (by decide +kernel) rfl (fun x1 M2 => ?_)
  refine aw_aload_n (k0 := 2) B 2 (by decide +kernel) rfl rfl ?_
  refine aw_cVI B (c_X11_redo (eLa E) hG M2) cvL_129 rfl rfl (Nat.le_of_ble_eq_true rfl) rfl (Nat.le_of_ble_eq_true rfl) (by decide +kernel) rfl (fun x3 M4 => ?_)
  refine aw_icmp_eq (off := 396) B 1336 (by decide +kernel) (by decide) (fun _ => ?_) (fun _ => ?_)
  · exact w_law_b1336 hG hX hret B hk18 _ _
  · refine aw_iconst (n := 0) (v := (0 : Int32)) B (by decide +kernel) (by decide) ?_
    exact aw_none
def f_law_b919 (L : Nat) (xs : Nat → Int32) (k18 : Int32 → Mem → Option Mem) (v3 : Int32) (M : Mem) : Option Mem := bI (f_X10_undo M) fun x1 M2 => bI (f_X11_undo M2) fun x3 M4 => (if x1 = x3 then f_law_b1336 L xs k18 v3 M4 else none)
set_option maxRecDepth 100000 in
set_option maxHeartbeats 4000000 in
theorem w_law_b919 {G : GW} {E : EE} {QL : Mem → State → Prop} {rt : Option FieldType} {L : Nat} {xs : Nat → Int32} (hG : ab_ok G) (hX : ab_X G E L xs) (hret : ∀ lv M, AWo G E code 4 QL 1343 lv [.int (1 : Int32)] M (some M)) {k18 : Int32 → Mem → Option Mem} (B : Bx G E RL code 4 2000 rt) (hk18 : ∀ (v3 : Int32) (M : Mem), AWo G E code 4 QL 18 [(0, .ref 2000), (1, .ref 0), (2, .ref 47), (3, .int v3)] [] M (k18 v3 M)) (v3 : Int32) (M : Mem) : AWo G E code 4 QL 919 [(0, .ref 2000), (1, .ref 0), (2, .ref 47), (3, .int v3)] [] M (f_law_b919 L xs k18 v3 M) := by
  unfold f_law_b919
  refine aw_aload_n (k0 := 1) B 1 (by decide +kernel) rfl rfl ?_
  refine aw_cVI B (c_X10_undo (eLa E) hG M) cvL_122 rfl rfl (Nat.le_of_ble_eq_true rfl) rfl (Nat.le_of_ble_eq_true rfl) (by decide +kernel) rfl (fun x1 M2 => ?_)
  refine aw_aload_n (k0 := 2) B 2 (by decide +kernel) rfl rfl ?_
  refine aw_cVI B (c_X11_undo (eLa E) hG M2) cvL_125 rfl rfl (Nat.le_of_ble_eq_true rfl) rfl (Nat.le_of_ble_eq_true rfl) (by decide +kernel) rfl (fun x3 M4 => ?_)
  refine aw_icmp_eq (off := 409) B 1336 (by decide +kernel) (by decide) (fun _ => ?_) (fun _ => ?_)
  · exact w_law_b1336 hG hX hret B hk18 _ _
  · refine aw_iconst (n := 0) (v := (0 : Int32)) B (by decide +kernel) (by decide) ?_
    exact aw_none
def f_law_b886 (L : Nat) (xs : Nat → Int32) (k18 : Int32 → Mem → Option Mem) (v3 : Int32) (M : Mem) : Option Mem := ck (okX L (v3 + (1 : Int32))) (ck (okX L (v3 + (2 : Int32))) (bI (f_X10_days (xs (v3 + (1 : Int32)).toNatClampNeg) (xs (v3 + (2 : Int32)).toNatClampNeg) M) fun x1 M2 => ck (okX L (v3 + (1 : Int32))) (ck (okX L (v3 + (2 : Int32))) (bI (f_X11_days (xs (v3 + (1 : Int32)).toNatClampNeg) (xs (v3 + (2 : Int32)).toNatClampNeg) M2) fun x3 M4 => (if x1 = x3 then f_law_b1336 L xs k18 v3 M4 else none)))))
set_option maxRecDepth 100000 in
set_option maxHeartbeats 4000000 in
theorem w_law_b886 {G : GW} {E : EE} {QL : Mem → State → Prop} {rt : Option FieldType} {L : Nat} {xs : Nat → Int32} (hG : ab_ok G) (hX : ab_X G E L xs) (hret : ∀ lv M, AWo G E code 4 QL 1343 lv [.int (1 : Int32)] M (some M)) {k18 : Int32 → Mem → Option Mem} (B : Bx G E RL code 4 2000 rt) (hk18 : ∀ (v3 : Int32) (M : Mem), AWo G E code 4 QL 18 [(0, .ref 2000), (1, .ref 0), (2, .ref 47), (3, .int v3)] [] M (k18 v3 M)) (v3 : Int32) (M : Mem) : AWo G E code 4 QL 886 [(0, .ref 2000), (1, .ref 0), (2, .ref 47), (3, .int v3)] [] M (f_law_b886 L xs k18 v3 M) := by
  unfold f_law_b886
  refine aw_aload_n (k0 := 1) B 1 (by decide +kernel) rfl rfl ?_
  refine aw_aload_n (k0 := 0) B 0 (by decide +kernel) rfl rfl ?_
  refine aw_iload_n (k0 := 3) B 3 (by decide +kernel) rfl rfl ?_
  refine aw_iconst (n := 1) (v := (1 : Int32)) B (by decide +kernel) (by decide) ?_
  refine aw_iadd B (by decide +kernel) ?_
  refine aw_xld hX B (by decide +kernel) ?_
  refine aw_aload_n (k0 := 0) B 0 (by decide +kernel) rfl rfl ?_
  refine aw_iload_n (k0 := 3) B 3 (by decide +kernel) rfl rfl ?_
  refine aw_iconst (n := 2) (v := (2 : Int32)) B (by decide +kernel) (by decide) ?_
  refine aw_iadd B (by decide +kernel) ?_
  refine aw_xld hX B (by decide +kernel) ?_
  refine aw_cVI B (c_X10_days (eLa E) hG (xs (v3 + (1 : Int32)).toNatClampNeg) (xs (v3 + (2 : Int32)).toNatClampNeg) M) cvL_118 rfl rfl (Nat.le_of_ble_eq_true rfl) rfl (Nat.le_of_ble_eq_true rfl) (by decide +kernel) rfl (fun x1 M2 => ?_)
  refine aw_aload_n (k0 := 2) B 2 (by decide +kernel) rfl rfl ?_
  refine aw_aload_n (k0 := 0) B 0 (by decide +kernel) rfl rfl ?_
  refine aw_iload_n (k0 := 3) B 3 (by decide +kernel) rfl rfl ?_
  refine aw_iconst (n := 1) (v := (1 : Int32)) B (by decide +kernel) (by decide) ?_
  refine aw_iadd B (by decide +kernel) ?_
  refine aw_xld hX B (by decide +kernel) ?_
  refine aw_aload_n (k0 := 0) B 0 (by decide +kernel) rfl rfl ?_
  refine aw_iload_n (k0 := 3) B 3 (by decide +kernel) rfl rfl ?_
  refine aw_iconst (n := 2) (v := (2 : Int32)) B (by decide +kernel) (by decide) ?_
  refine aw_iadd B (by decide +kernel) ?_
  refine aw_xld hX B (by decide +kernel) ?_
  refine aw_cVI B (c_X11_days (eLa E) hG (xs (v3 + (1 : Int32)).toNatClampNeg) (xs (v3 + (2 : Int32)).toNatClampNeg) M2) cvL_121 rfl rfl (Nat.le_of_ble_eq_true rfl) rfl (Nat.le_of_ble_eq_true rfl) (by decide +kernel) rfl (fun x3 M4 => ?_)
  refine aw_icmp_eq (off := 422) B 1336 (by decide +kernel) (by decide) (fun _ => ?_) (fun _ => ?_)
  · exact w_law_b1336 hG hX hret B hk18 _ _
  · refine aw_iconst (n := 0) (v := (0 : Int32)) B (by decide +kernel) (by decide) ?_
    exact aw_none
def f_law_b853 (L : Nat) (xs : Nat → Int32) (k18 : Int32 → Mem → Option Mem) (v3 : Int32) (M : Mem) : Option Mem := ck (okX L (v3 + (1 : Int32))) (ck (okX L (v3 + (2 : Int32))) (bI (f_X10_table (xs (v3 + (1 : Int32)).toNatClampNeg) (xs (v3 + (2 : Int32)).toNatClampNeg) M) fun x1 M2 => ck (okX L (v3 + (1 : Int32))) (ck (okX L (v3 + (2 : Int32))) ((f_X11_table (xs (v3 + (1 : Int32)).toNatClampNeg) (xs (v3 + (2 : Int32)).toNatClampNeg) M2).bind fun x3 => (if x1 = x3 then f_law_b1336 L xs k18 v3 M2 else none)))))
set_option maxRecDepth 100000 in
set_option maxHeartbeats 4000000 in
theorem w_law_b853 {G : GW} {E : EE} {QL : Mem → State → Prop} {rt : Option FieldType} {L : Nat} {xs : Nat → Int32} (hG : ab_ok G) (hX : ab_X G E L xs) (hret : ∀ lv M, AWo G E code 4 QL 1343 lv [.int (1 : Int32)] M (some M)) {k18 : Int32 → Mem → Option Mem} (B : Bx G E RL code 4 2000 rt) (hk18 : ∀ (v3 : Int32) (M : Mem), AWo G E code 4 QL 18 [(0, .ref 2000), (1, .ref 0), (2, .ref 47), (3, .int v3)] [] M (k18 v3 M)) (v3 : Int32) (M : Mem) : AWo G E code 4 QL 853 [(0, .ref 2000), (1, .ref 0), (2, .ref 47), (3, .int v3)] [] M (f_law_b853 L xs k18 v3 M) := by
  unfold f_law_b853
  refine aw_aload_n (k0 := 1) B 1 (by decide +kernel) rfl rfl ?_
  refine aw_aload_n (k0 := 0) B 0 (by decide +kernel) rfl rfl ?_
  refine aw_iload_n (k0 := 3) B 3 (by decide +kernel) rfl rfl ?_
  refine aw_iconst (n := 1) (v := (1 : Int32)) B (by decide +kernel) (by decide) ?_
  refine aw_iadd B (by decide +kernel) ?_
  refine aw_xld hX B (by decide +kernel) ?_
  refine aw_aload_n (k0 := 0) B 0 (by decide +kernel) rfl rfl ?_
  refine aw_iload_n (k0 := 3) B 3 (by decide +kernel) rfl rfl ?_
  refine aw_iconst (n := 2) (v := (2 : Int32)) B (by decide +kernel) (by decide) ?_
  refine aw_iadd B (by decide +kernel) ?_
  refine aw_xld hX B (by decide +kernel) ?_
  refine aw_cVI B (c_X10_table (eLa E) hG (xs (v3 + (1 : Int32)).toNatClampNeg) (xs (v3 + (2 : Int32)).toNatClampNeg) M) cvL_114 rfl rfl (Nat.le_of_ble_eq_true rfl) rfl (Nat.le_of_ble_eq_true rfl) (by decide +kernel) rfl (fun x1 M2 => ?_)
  refine aw_aload_n (k0 := 2) B 2 (by decide +kernel) rfl rfl ?_
  refine aw_aload_n (k0 := 0) B 0 (by decide +kernel) rfl rfl ?_
  refine aw_iload_n (k0 := 3) B 3 (by decide +kernel) rfl rfl ?_
  refine aw_iconst (n := 1) (v := (1 : Int32)) B (by decide +kernel) (by decide) ?_
  refine aw_iadd B (by decide +kernel) ?_
  refine aw_xld hX B (by decide +kernel) ?_
  refine aw_aload_n (k0 := 0) B 0 (by decide +kernel) rfl rfl ?_
  refine aw_iload_n (k0 := 3) B 3 (by decide +kernel) rfl rfl ?_
  refine aw_iconst (n := 2) (v := (2 : Int32)) B (by decide +kernel) (by decide) ?_
  refine aw_iadd B (by decide +kernel) ?_
  refine aw_xld hX B (by decide +kernel) ?_
  refine aw_cVR B (c_X11_table (eLa E) hG (xs (v3 + (1 : Int32)).toNatClampNeg) (xs (v3 + (2 : Int32)).toNatClampNeg) M2) cvL_117 rfl rfl (Nat.le_of_ble_eq_true rfl) rfl (Nat.le_of_ble_eq_true rfl) (by decide +kernel) rfl (fun x3 => ?_)
  refine aw_icmp_eq (off := 455) B 1336 (by decide +kernel) (by decide) (fun _ => ?_) (fun _ => ?_)
  · exact w_law_b1336 hG hX hret B hk18 _ _
  · refine aw_iconst (n := 0) (v := (0 : Int32)) B (by decide +kernel) (by decide) ?_
    exact aw_none
def f_law_b830 (L : Nat) (xs : Nat → Int32) (k18 : Int32 → Mem → Option Mem) (v3 : Int32) (M : Mem) : Option Mem := ck (okX L (v3 + (1 : Int32))) (bI (f_X10_champion (xs (v3 + (1 : Int32)).toNatClampNeg) M) fun x1 M2 => ck (okX L (v3 + (1 : Int32))) (bI (f_X11_champion (xs (v3 + (1 : Int32)).toNatClampNeg) M2) fun x3 M4 => (if x1 = x3 then f_law_b1336 L xs k18 v3 M4 else none)))
set_option maxRecDepth 100000 in
set_option maxHeartbeats 4000000 in
theorem w_law_b830 {G : GW} {E : EE} {QL : Mem → State → Prop} {rt : Option FieldType} {L : Nat} {xs : Nat → Int32} (hG : ab_ok G) (hX : ab_X G E L xs) (hret : ∀ lv M, AWo G E code 4 QL 1343 lv [.int (1 : Int32)] M (some M)) {k18 : Int32 → Mem → Option Mem} (B : Bx G E RL code 4 2000 rt) (hk18 : ∀ (v3 : Int32) (M : Mem), AWo G E code 4 QL 18 [(0, .ref 2000), (1, .ref 0), (2, .ref 47), (3, .int v3)] [] M (k18 v3 M)) (v3 : Int32) (M : Mem) : AWo G E code 4 QL 830 [(0, .ref 2000), (1, .ref 0), (2, .ref 47), (3, .int v3)] [] M (f_law_b830 L xs k18 v3 M) := by
  unfold f_law_b830
  refine aw_aload_n (k0 := 1) B 1 (by decide +kernel) rfl rfl ?_
  refine aw_aload_n (k0 := 0) B 0 (by decide +kernel) rfl rfl ?_
  refine aw_iload_n (k0 := 3) B 3 (by decide +kernel) rfl rfl ?_
  refine aw_iconst (n := 1) (v := (1 : Int32)) B (by decide +kernel) (by decide) ?_
  refine aw_iadd B (by decide +kernel) ?_
  refine aw_xld hX B (by decide +kernel) ?_
  refine aw_cVI B (c_X10_champion (eLa E) hG (xs (v3 + (1 : Int32)).toNatClampNeg) M) cvL_110 rfl rfl (Nat.le_of_ble_eq_true rfl) rfl (Nat.le_of_ble_eq_true rfl) (by decide +kernel) rfl (fun x1 M2 => ?_)
  refine aw_aload_n (k0 := 2) B 2 (by decide +kernel) rfl rfl ?_
  refine aw_aload_n (k0 := 0) B 0 (by decide +kernel) rfl rfl ?_
  refine aw_iload_n (k0 := 3) B 3 (by decide +kernel) rfl rfl ?_
  refine aw_iconst (n := 1) (v := (1 : Int32)) B (by decide +kernel) (by decide) ?_
  refine aw_iadd B (by decide +kernel) ?_
  refine aw_xld hX B (by decide +kernel) ?_
  refine aw_cVI B (c_X11_champion (eLa E) hG (xs (v3 + (1 : Int32)).toNatClampNeg) M2) cvL_113 rfl rfl (Nat.le_of_ble_eq_true rfl) rfl (Nat.le_of_ble_eq_true rfl) (by decide +kernel) rfl (fun x3 M4 => ?_)
  refine aw_icmp_eq (off := 488) B 1336 (by decide +kernel) (by decide) (fun _ => ?_) (fun _ => ?_)
  · exact w_law_b1336 hG hX hret B hk18 _ _
  · refine aw_iconst (n := 0) (v := (0 : Int32)) B (by decide +kernel) (by decide) ?_
    exact aw_none
def f_law_b787 (L : Nat) (xs : Nat → Int32) (k18 : Int32 → Mem → Option Mem) (v3 : Int32) (M : Mem) : Option Mem := ck (okX L (v3 + (1 : Int32))) (ck (okX L (v3 + (2 : Int32))) (ck (okX L (v3 + (3 : Int32))) (bI (f_X10_lots (xs (v3 + (1 : Int32)).toNatClampNeg) (xs (v3 + (2 : Int32)).toNatClampNeg) (xs (v3 + (3 : Int32)).toNatClampNeg) M) fun x1 M2 => ck (okX L (v3 + (1 : Int32))) (ck (okX L (v3 + (2 : Int32))) (ck (okX L (v3 + (3 : Int32))) (bI (f_X11_lots (xs (v3 + (1 : Int32)).toNatClampNeg) (xs (v3 + (2 : Int32)).toNatClampNeg) (xs (v3 + (3 : Int32)).toNatClampNeg) M2) fun x3 M4 => (if x1 = x3 then f_law_b1336 L xs k18 v3 M4 else none)))))))
set_option maxRecDepth 100000 in
set_option maxHeartbeats 4000000 in
theorem w_law_b787 {G : GW} {E : EE} {QL : Mem → State → Prop} {rt : Option FieldType} {L : Nat} {xs : Nat → Int32} (hG : ab_ok G) (hX : ab_X G E L xs) (hret : ∀ lv M, AWo G E code 4 QL 1343 lv [.int (1 : Int32)] M (some M)) {k18 : Int32 → Mem → Option Mem} (B : Bx G E RL code 4 2000 rt) (hk18 : ∀ (v3 : Int32) (M : Mem), AWo G E code 4 QL 18 [(0, .ref 2000), (1, .ref 0), (2, .ref 47), (3, .int v3)] [] M (k18 v3 M)) (v3 : Int32) (M : Mem) : AWo G E code 4 QL 787 [(0, .ref 2000), (1, .ref 0), (2, .ref 47), (3, .int v3)] [] M (f_law_b787 L xs k18 v3 M) := by
  unfold f_law_b787
  refine aw_aload_n (k0 := 1) B 1 (by decide +kernel) rfl rfl ?_
  refine aw_aload_n (k0 := 0) B 0 (by decide +kernel) rfl rfl ?_
  refine aw_iload_n (k0 := 3) B 3 (by decide +kernel) rfl rfl ?_
  refine aw_iconst (n := 1) (v := (1 : Int32)) B (by decide +kernel) (by decide) ?_
  refine aw_iadd B (by decide +kernel) ?_
  refine aw_xld hX B (by decide +kernel) ?_
  refine aw_aload_n (k0 := 0) B 0 (by decide +kernel) rfl rfl ?_
  refine aw_iload_n (k0 := 3) B 3 (by decide +kernel) rfl rfl ?_
  refine aw_iconst (n := 2) (v := (2 : Int32)) B (by decide +kernel) (by decide) ?_
  refine aw_iadd B (by decide +kernel) ?_
  refine aw_xld hX B (by decide +kernel) ?_
  refine aw_aload_n (k0 := 0) B 0 (by decide +kernel) rfl rfl ?_
  refine aw_iload_n (k0 := 3) B 3 (by decide +kernel) rfl rfl ?_
  refine aw_iconst (n := 3) (v := (3 : Int32)) B (by decide +kernel) (by decide) ?_
  refine aw_iadd B (by decide +kernel) ?_
  refine aw_xld hX B (by decide +kernel) ?_
  refine aw_cVI B (c_X10_lots (eLa E) hG (xs (v3 + (1 : Int32)).toNatClampNeg) (xs (v3 + (2 : Int32)).toNatClampNeg) (xs (v3 + (3 : Int32)).toNatClampNeg) M) cvL_106 rfl rfl (Nat.le_of_ble_eq_true rfl) rfl (Nat.le_of_ble_eq_true rfl) (by decide +kernel) rfl (fun x1 M2 => ?_)
  refine aw_aload_n (k0 := 2) B 2 (by decide +kernel) rfl rfl ?_
  refine aw_aload_n (k0 := 0) B 0 (by decide +kernel) rfl rfl ?_
  refine aw_iload_n (k0 := 3) B 3 (by decide +kernel) rfl rfl ?_
  refine aw_iconst (n := 1) (v := (1 : Int32)) B (by decide +kernel) (by decide) ?_
  refine aw_iadd B (by decide +kernel) ?_
  refine aw_xld hX B (by decide +kernel) ?_
  refine aw_aload_n (k0 := 0) B 0 (by decide +kernel) rfl rfl ?_
  refine aw_iload_n (k0 := 3) B 3 (by decide +kernel) rfl rfl ?_
  refine aw_iconst (n := 2) (v := (2 : Int32)) B (by decide +kernel) (by decide) ?_
  refine aw_iadd B (by decide +kernel) ?_
  refine aw_xld hX B (by decide +kernel) ?_
  refine aw_aload_n (k0 := 0) B 0 (by decide +kernel) rfl rfl ?_
  refine aw_iload_n (k0 := 3) B 3 (by decide +kernel) rfl rfl ?_
  refine aw_iconst (n := 3) (v := (3 : Int32)) B (by decide +kernel) (by decide) ?_
  refine aw_iadd B (by decide +kernel) ?_
  refine aw_xld hX B (by decide +kernel) ?_
  refine aw_cVI B (c_X11_lots (eLa E) hG (xs (v3 + (1 : Int32)).toNatClampNeg) (xs (v3 + (2 : Int32)).toNatClampNeg) (xs (v3 + (3 : Int32)).toNatClampNeg) M2) cvL_109 rfl rfl (Nat.le_of_ble_eq_true rfl) rfl (Nat.le_of_ble_eq_true rfl) (by decide +kernel) rfl (fun x3 M4 => ?_)
  refine aw_icmp_eq (off := 511) B 1336 (by decide +kernel) (by decide) (fun _ => ?_) (fun _ => ?_)
  · exact w_law_b1336 hG hX hret B hk18 _ _
  · refine aw_iconst (n := 0) (v := (0 : Int32)) B (by decide +kernel) (by decide) ?_
    exact aw_none
def f_law_b764 (L : Nat) (xs : Nat → Int32) (k18 : Int32 → Mem → Option Mem) (v3 : Int32) (M : Mem) : Option Mem := ck (okX L (v3 + (1 : Int32))) (bI (f_X10_friend (xs (v3 + (1 : Int32)).toNatClampNeg) M) fun x1 M2 => ck (okX L (v3 + (1 : Int32))) (bI (f_X11_friend (xs (v3 + (1 : Int32)).toNatClampNeg) M2) fun x3 M4 => (if x1 = x3 then f_law_b1336 L xs k18 v3 M4 else none)))
set_option maxRecDepth 100000 in
set_option maxHeartbeats 4000000 in
theorem w_law_b764 {G : GW} {E : EE} {QL : Mem → State → Prop} {rt : Option FieldType} {L : Nat} {xs : Nat → Int32} (hG : ab_ok G) (hX : ab_X G E L xs) (hret : ∀ lv M, AWo G E code 4 QL 1343 lv [.int (1 : Int32)] M (some M)) {k18 : Int32 → Mem → Option Mem} (B : Bx G E RL code 4 2000 rt) (hk18 : ∀ (v3 : Int32) (M : Mem), AWo G E code 4 QL 18 [(0, .ref 2000), (1, .ref 0), (2, .ref 47), (3, .int v3)] [] M (k18 v3 M)) (v3 : Int32) (M : Mem) : AWo G E code 4 QL 764 [(0, .ref 2000), (1, .ref 0), (2, .ref 47), (3, .int v3)] [] M (f_law_b764 L xs k18 v3 M) := by
  unfold f_law_b764
  refine aw_aload_n (k0 := 1) B 1 (by decide +kernel) rfl rfl ?_
  refine aw_aload_n (k0 := 0) B 0 (by decide +kernel) rfl rfl ?_
  refine aw_iload_n (k0 := 3) B 3 (by decide +kernel) rfl rfl ?_
  refine aw_iconst (n := 1) (v := (1 : Int32)) B (by decide +kernel) (by decide) ?_
  refine aw_iadd B (by decide +kernel) ?_
  refine aw_xld hX B (by decide +kernel) ?_
  refine aw_cVI B (c_X10_friend (eLa E) hG (xs (v3 + (1 : Int32)).toNatClampNeg) M) cvL_102 rfl rfl (Nat.le_of_ble_eq_true rfl) rfl (Nat.le_of_ble_eq_true rfl) (by decide +kernel) rfl (fun x1 M2 => ?_)
  refine aw_aload_n (k0 := 2) B 2 (by decide +kernel) rfl rfl ?_
  refine aw_aload_n (k0 := 0) B 0 (by decide +kernel) rfl rfl ?_
  refine aw_iload_n (k0 := 3) B 3 (by decide +kernel) rfl rfl ?_
  refine aw_iconst (n := 1) (v := (1 : Int32)) B (by decide +kernel) (by decide) ?_
  refine aw_iadd B (by decide +kernel) ?_
  refine aw_xld hX B (by decide +kernel) ?_
  refine aw_cVI B (c_X11_friend (eLa E) hG (xs (v3 + (1 : Int32)).toNatClampNeg) M2) cvL_105 rfl rfl (Nat.le_of_ble_eq_true rfl) rfl (Nat.le_of_ble_eq_true rfl) (by decide +kernel) rfl (fun x3 M4 => ?_)
  refine aw_icmp_eq (off := 554) B 1336 (by decide +kernel) (by decide) (fun _ => ?_) (fun _ => ?_)
  · exact w_law_b1336 hG hX hret B hk18 _ _
  · refine aw_iconst (n := 0) (v := (0 : Int32)) B (by decide +kernel) (by decide) ?_
    exact aw_none
def f_law_b720 (L : Nat) (xs : Nat → Int32) (k18 : Int32 → Mem → Option Mem) (v3 : Int32) (M : Mem) : Option Mem := ck (okX L (v3 + (1 : Int32))) (ck (okX L (v3 + (2 : Int32))) (ck (okX L (v3 + (3 : Int32))) (bI (f_X10_likely (xs (v3 + (1 : Int32)).toNatClampNeg) (xs (v3 + (2 : Int32)).toNatClampNeg) (xs (v3 + (3 : Int32)).toNatClampNeg) M) fun x1 M2 => ck (okX L (v3 + (1 : Int32))) (ck (okX L (v3 + (2 : Int32))) (ck (okX L (v3 + (3 : Int32))) (bI (f_X11_likely (xs (v3 + (1 : Int32)).toNatClampNeg) (xs (v3 + (2 : Int32)).toNatClampNeg) (xs (v3 + (3 : Int32)).toNatClampNeg) M2) fun x3 M4 => (if (lg_cmp x1 x3) = 0 then f_law_b1336 L xs k18 v3 M4 else none)))))))
set_option maxRecDepth 100000 in
set_option maxHeartbeats 4000000 in
theorem w_law_b720 {G : GW} {E : EE} {QL : Mem → State → Prop} {rt : Option FieldType} {L : Nat} {xs : Nat → Int32} (hG : ab_ok G) (hX : ab_X G E L xs) (hret : ∀ lv M, AWo G E code 4 QL 1343 lv [.int (1 : Int32)] M (some M)) {k18 : Int32 → Mem → Option Mem} (B : Bx G E RL code 4 2000 rt) (hk18 : ∀ (v3 : Int32) (M : Mem), AWo G E code 4 QL 18 [(0, .ref 2000), (1, .ref 0), (2, .ref 47), (3, .int v3)] [] M (k18 v3 M)) (v3 : Int32) (M : Mem) : AWo G E code 4 QL 720 [(0, .ref 2000), (1, .ref 0), (2, .ref 47), (3, .int v3)] [] M (f_law_b720 L xs k18 v3 M) := by
  unfold f_law_b720
  refine aw_aload_n (k0 := 1) B 1 (by decide +kernel) rfl rfl ?_
  refine aw_aload_n (k0 := 0) B 0 (by decide +kernel) rfl rfl ?_
  refine aw_iload_n (k0 := 3) B 3 (by decide +kernel) rfl rfl ?_
  refine aw_iconst (n := 1) (v := (1 : Int32)) B (by decide +kernel) (by decide) ?_
  refine aw_iadd B (by decide +kernel) ?_
  refine aw_xld hX B (by decide +kernel) ?_
  refine aw_aload_n (k0 := 0) B 0 (by decide +kernel) rfl rfl ?_
  refine aw_iload_n (k0 := 3) B 3 (by decide +kernel) rfl rfl ?_
  refine aw_iconst (n := 2) (v := (2 : Int32)) B (by decide +kernel) (by decide) ?_
  refine aw_iadd B (by decide +kernel) ?_
  refine aw_xld hX B (by decide +kernel) ?_
  refine aw_aload_n (k0 := 0) B 0 (by decide +kernel) rfl rfl ?_
  refine aw_iload_n (k0 := 3) B 3 (by decide +kernel) rfl rfl ?_
  refine aw_iconst (n := 3) (v := (3 : Int32)) B (by decide +kernel) (by decide) ?_
  refine aw_iadd B (by decide +kernel) ?_
  refine aw_xld hX B (by decide +kernel) ?_
  refine aw_cVJ B (c_X10_likely (eLa E) hG (xs (v3 + (1 : Int32)).toNatClampNeg) (xs (v3 + (2 : Int32)).toNatClampNeg) (xs (v3 + (3 : Int32)).toNatClampNeg) M) cvL_97 rfl rfl (Nat.le_of_ble_eq_true rfl) rfl (Nat.le_of_ble_eq_true rfl) (by decide +kernel) rfl (fun x1 M2 => ?_)
  refine aw_aload_n (k0 := 2) B 2 (by decide +kernel) rfl rfl ?_
  refine aw_aload_n (k0 := 0) B 0 (by decide +kernel) rfl rfl ?_
  refine aw_iload_n (k0 := 3) B 3 (by decide +kernel) rfl rfl ?_
  refine aw_iconst (n := 1) (v := (1 : Int32)) B (by decide +kernel) (by decide) ?_
  refine aw_iadd B (by decide +kernel) ?_
  refine aw_xld hX B (by decide +kernel) ?_
  refine aw_aload_n (k0 := 0) B 0 (by decide +kernel) rfl rfl ?_
  refine aw_iload_n (k0 := 3) B 3 (by decide +kernel) rfl rfl ?_
  refine aw_iconst (n := 2) (v := (2 : Int32)) B (by decide +kernel) (by decide) ?_
  refine aw_iadd B (by decide +kernel) ?_
  refine aw_xld hX B (by decide +kernel) ?_
  refine aw_aload_n (k0 := 0) B 0 (by decide +kernel) rfl rfl ?_
  refine aw_iload_n (k0 := 3) B 3 (by decide +kernel) rfl rfl ?_
  refine aw_iconst (n := 3) (v := (3 : Int32)) B (by decide +kernel) (by decide) ?_
  refine aw_iadd B (by decide +kernel) ?_
  refine aw_xld hX B (by decide +kernel) ?_
  refine aw_cVJ B (c_X11_likely (eLa E) hG (xs (v3 + (1 : Int32)).toNatClampNeg) (xs (v3 + (2 : Int32)).toNatClampNeg) (xs (v3 + (3 : Int32)).toNatClampNeg) M2) cvL_101 rfl rfl (Nat.le_of_ble_eq_true rfl) rfl (Nat.le_of_ble_eq_true rfl) (by decide +kernel) rfl (fun x3 M4 => ?_)
  refine aw_lcmp B (by decide +kernel) ?_
  refine aw_if_eq (off := 577) B 1336 (by decide +kernel) (by decide) (fun _ => ?_) (fun _ => ?_)
  · exact w_law_b1336 hG hX hret B hk18 _ _
  · refine aw_iconst (n := 0) (v := (0 : Int32)) B (by decide +kernel) (by decide) ?_
    exact aw_none
def f_law_b697 (L : Nat) (xs : Nat → Int32) (k18 : Int32 → Mem → Option Mem) (v3 : Int32) (M : Mem) : Option Mem := ck (okX L (v3 + (1 : Int32))) (bI (f_X10_cup (xs (v3 + (1 : Int32)).toNatClampNeg) M) fun x1 M2 => ck (okX L (v3 + (1 : Int32))) (bI (f_X11_cup (xs (v3 + (1 : Int32)).toNatClampNeg) M2) fun x3 M4 => (if x1 = x3 then f_law_b1336 L xs k18 v3 M4 else none)))
set_option maxRecDepth 100000 in
set_option maxHeartbeats 4000000 in
theorem w_law_b697 {G : GW} {E : EE} {QL : Mem → State → Prop} {rt : Option FieldType} {L : Nat} {xs : Nat → Int32} (hG : ab_ok G) (hX : ab_X G E L xs) (hret : ∀ lv M, AWo G E code 4 QL 1343 lv [.int (1 : Int32)] M (some M)) {k18 : Int32 → Mem → Option Mem} (B : Bx G E RL code 4 2000 rt) (hk18 : ∀ (v3 : Int32) (M : Mem), AWo G E code 4 QL 18 [(0, .ref 2000), (1, .ref 0), (2, .ref 47), (3, .int v3)] [] M (k18 v3 M)) (v3 : Int32) (M : Mem) : AWo G E code 4 QL 697 [(0, .ref 2000), (1, .ref 0), (2, .ref 47), (3, .int v3)] [] M (f_law_b697 L xs k18 v3 M) := by
  unfold f_law_b697
  refine aw_aload_n (k0 := 1) B 1 (by decide +kernel) rfl rfl ?_
  refine aw_aload_n (k0 := 0) B 0 (by decide +kernel) rfl rfl ?_
  refine aw_iload_n (k0 := 3) B 3 (by decide +kernel) rfl rfl ?_
  refine aw_iconst (n := 1) (v := (1 : Int32)) B (by decide +kernel) (by decide) ?_
  refine aw_iadd B (by decide +kernel) ?_
  refine aw_xld hX B (by decide +kernel) ?_
  refine aw_cVI B (c_X10_cup (eLa E) hG (xs (v3 + (1 : Int32)).toNatClampNeg) M) cvL_93 rfl rfl (Nat.le_of_ble_eq_true rfl) rfl (Nat.le_of_ble_eq_true rfl) (by decide +kernel) rfl (fun x1 M2 => ?_)
  refine aw_aload_n (k0 := 2) B 2 (by decide +kernel) rfl rfl ?_
  refine aw_aload_n (k0 := 0) B 0 (by decide +kernel) rfl rfl ?_
  refine aw_iload_n (k0 := 3) B 3 (by decide +kernel) rfl rfl ?_
  refine aw_iconst (n := 1) (v := (1 : Int32)) B (by decide +kernel) (by decide) ?_
  refine aw_iadd B (by decide +kernel) ?_
  refine aw_xld hX B (by decide +kernel) ?_
  refine aw_cVI B (c_X11_cup (eLa E) hG (xs (v3 + (1 : Int32)).toNatClampNeg) M2) cvL_96 rfl rfl (Nat.le_of_ble_eq_true rfl) rfl (Nat.le_of_ble_eq_true rfl) (by decide +kernel) rfl (fun x3 M4 => ?_)
  refine aw_icmp_eq (off := 621) B 1336 (by decide +kernel) (by decide) (fun _ => ?_) (fun _ => ?_)
  · exact w_law_b1336 hG hX hret B hk18 _ _
  · refine aw_iconst (n := 0) (v := (0 : Int32)) B (by decide +kernel) (by decide) ?_
    exact aw_none
def f_law_b664 (L : Nat) (xs : Nat → Int32) (k18 : Int32 → Mem → Option Mem) (v3 : Int32) (M : Mem) : Option Mem := ck (okX L (v3 + (1 : Int32))) (ck (okX L (v3 + (2 : Int32))) (bI (f_X10_chance (xs (v3 + (1 : Int32)).toNatClampNeg) (xs (v3 + (2 : Int32)).toNatClampNeg) M) fun x1 M2 => ck (okX L (v3 + (1 : Int32))) (ck (okX L (v3 + (2 : Int32))) (bI (f_X11_chance (xs (v3 + (1 : Int32)).toNatClampNeg) (xs (v3 + (2 : Int32)).toNatClampNeg) M2) fun x3 M4 => (if x1 = x3 then f_law_b1336 L xs k18 v3 M4 else none)))))
set_option maxRecDepth 100000 in
set_option maxHeartbeats 4000000 in
theorem w_law_b664 {G : GW} {E : EE} {QL : Mem → State → Prop} {rt : Option FieldType} {L : Nat} {xs : Nat → Int32} (hG : ab_ok G) (hX : ab_X G E L xs) (hret : ∀ lv M, AWo G E code 4 QL 1343 lv [.int (1 : Int32)] M (some M)) {k18 : Int32 → Mem → Option Mem} (B : Bx G E RL code 4 2000 rt) (hk18 : ∀ (v3 : Int32) (M : Mem), AWo G E code 4 QL 18 [(0, .ref 2000), (1, .ref 0), (2, .ref 47), (3, .int v3)] [] M (k18 v3 M)) (v3 : Int32) (M : Mem) : AWo G E code 4 QL 664 [(0, .ref 2000), (1, .ref 0), (2, .ref 47), (3, .int v3)] [] M (f_law_b664 L xs k18 v3 M) := by
  unfold f_law_b664
  refine aw_aload_n (k0 := 1) B 1 (by decide +kernel) rfl rfl ?_
  refine aw_aload_n (k0 := 0) B 0 (by decide +kernel) rfl rfl ?_
  refine aw_iload_n (k0 := 3) B 3 (by decide +kernel) rfl rfl ?_
  refine aw_iconst (n := 1) (v := (1 : Int32)) B (by decide +kernel) (by decide) ?_
  refine aw_iadd B (by decide +kernel) ?_
  refine aw_xld hX B (by decide +kernel) ?_
  refine aw_aload_n (k0 := 0) B 0 (by decide +kernel) rfl rfl ?_
  refine aw_iload_n (k0 := 3) B 3 (by decide +kernel) rfl rfl ?_
  refine aw_iconst (n := 2) (v := (2 : Int32)) B (by decide +kernel) (by decide) ?_
  refine aw_iadd B (by decide +kernel) ?_
  refine aw_xld hX B (by decide +kernel) ?_
  refine aw_cVI B (c_X10_chance (eLa E) hG (xs (v3 + (1 : Int32)).toNatClampNeg) (xs (v3 + (2 : Int32)).toNatClampNeg) M) cvL_89 rfl rfl (Nat.le_of_ble_eq_true rfl) rfl (Nat.le_of_ble_eq_true rfl) (by decide +kernel) rfl (fun x1 M2 => ?_)
  refine aw_aload_n (k0 := 2) B 2 (by decide +kernel) rfl rfl ?_
  refine aw_aload_n (k0 := 0) B 0 (by decide +kernel) rfl rfl ?_
  refine aw_iload_n (k0 := 3) B 3 (by decide +kernel) rfl rfl ?_
  refine aw_iconst (n := 1) (v := (1 : Int32)) B (by decide +kernel) (by decide) ?_
  refine aw_iadd B (by decide +kernel) ?_
  refine aw_xld hX B (by decide +kernel) ?_
  refine aw_aload_n (k0 := 0) B 0 (by decide +kernel) rfl rfl ?_
  refine aw_iload_n (k0 := 3) B 3 (by decide +kernel) rfl rfl ?_
  refine aw_iconst (n := 2) (v := (2 : Int32)) B (by decide +kernel) (by decide) ?_
  refine aw_iadd B (by decide +kernel) ?_
  refine aw_xld hX B (by decide +kernel) ?_
  refine aw_cVI B (c_X11_chance (eLa E) hG (xs (v3 + (1 : Int32)).toNatClampNeg) (xs (v3 + (2 : Int32)).toNatClampNeg) M2) cvL_92 rfl rfl (Nat.le_of_ble_eq_true rfl) rfl (Nat.le_of_ble_eq_true rfl) (by decide +kernel) rfl (fun x3 M4 => ?_)
  refine aw_icmp_eq (off := 644) B 1336 (by decide +kernel) (by decide) (fun _ => ?_) (fun _ => ?_)
  · exact w_law_b1336 hG hX hret B hk18 _ _
  · refine aw_iconst (n := 0) (v := (0 : Int32)) B (by decide +kernel) (by decide) ?_
    exact aw_none
def f_law_b641 (L : Nat) (xs : Nat → Int32) (k18 : Int32 → Mem → Option Mem) (v3 : Int32) (M : Mem) : Option Mem := ck (okX L (v3 + (1 : Int32))) (bI (f_X10_longest (xs (v3 + (1 : Int32)).toNatClampNeg) M) fun x1 M2 => ck (okX L (v3 + (1 : Int32))) (bI (f_X11_longest (xs (v3 + (1 : Int32)).toNatClampNeg) M2) fun x3 M4 => (if x1 = x3 then f_law_b1336 L xs k18 v3 M4 else none)))
set_option maxRecDepth 100000 in
set_option maxHeartbeats 4000000 in
theorem w_law_b641 {G : GW} {E : EE} {QL : Mem → State → Prop} {rt : Option FieldType} {L : Nat} {xs : Nat → Int32} (hG : ab_ok G) (hX : ab_X G E L xs) (hret : ∀ lv M, AWo G E code 4 QL 1343 lv [.int (1 : Int32)] M (some M)) {k18 : Int32 → Mem → Option Mem} (B : Bx G E RL code 4 2000 rt) (hk18 : ∀ (v3 : Int32) (M : Mem), AWo G E code 4 QL 18 [(0, .ref 2000), (1, .ref 0), (2, .ref 47), (3, .int v3)] [] M (k18 v3 M)) (v3 : Int32) (M : Mem) : AWo G E code 4 QL 641 [(0, .ref 2000), (1, .ref 0), (2, .ref 47), (3, .int v3)] [] M (f_law_b641 L xs k18 v3 M) := by
  unfold f_law_b641
  refine aw_aload_n (k0 := 1) B 1 (by decide +kernel) rfl rfl ?_
  refine aw_aload_n (k0 := 0) B 0 (by decide +kernel) rfl rfl ?_
  refine aw_iload_n (k0 := 3) B 3 (by decide +kernel) rfl rfl ?_
  refine aw_iconst (n := 1) (v := (1 : Int32)) B (by decide +kernel) (by decide) ?_
  refine aw_iadd B (by decide +kernel) ?_
  refine aw_xld hX B (by decide +kernel) ?_
  refine aw_cVI B (c_X10_longest (eLa E) hG (xs (v3 + (1 : Int32)).toNatClampNeg) M) cvL_85 rfl rfl (Nat.le_of_ble_eq_true rfl) rfl (Nat.le_of_ble_eq_true rfl) (by decide +kernel) rfl (fun x1 M2 => ?_)
  refine aw_aload_n (k0 := 2) B 2 (by decide +kernel) rfl rfl ?_
  refine aw_aload_n (k0 := 0) B 0 (by decide +kernel) rfl rfl ?_
  refine aw_iload_n (k0 := 3) B 3 (by decide +kernel) rfl rfl ?_
  refine aw_iconst (n := 1) (v := (1 : Int32)) B (by decide +kernel) (by decide) ?_
  refine aw_iadd B (by decide +kernel) ?_
  refine aw_xld hX B (by decide +kernel) ?_
  refine aw_cVI B (c_X11_longest (eLa E) hG (xs (v3 + (1 : Int32)).toNatClampNeg) M2) cvL_88 rfl rfl (Nat.le_of_ble_eq_true rfl) rfl (Nat.le_of_ble_eq_true rfl) (by decide +kernel) rfl (fun x3 M4 => ?_)
  refine aw_icmp_eq (off := 677) B 1336 (by decide +kernel) (by decide) (fun _ => ?_) (fun _ => ?_)
  · exact w_law_b1336 hG hX hret B hk18 _ _
  · refine aw_iconst (n := 0) (v := (0 : Int32)) B (by decide +kernel) (by decide) ?_
    exact aw_none
def f_law_b608 (L : Nat) (xs : Nat → Int32) (k18 : Int32 → Mem → Option Mem) (v3 : Int32) (M : Mem) : Option Mem := ck (okX L (v3 + (1 : Int32))) (ck (okX L (v3 + (2 : Int32))) (bI (f_X10_next (xs (v3 + (1 : Int32)).toNatClampNeg) (xs (v3 + (2 : Int32)).toNatClampNeg) M) fun x1 M2 => ck (okX L (v3 + (1 : Int32))) (ck (okX L (v3 + (2 : Int32))) (bI (f_X11_next (xs (v3 + (1 : Int32)).toNatClampNeg) (xs (v3 + (2 : Int32)).toNatClampNeg) M2) fun x3 M4 => (if x1 = x3 then f_law_b1336 L xs k18 v3 M4 else none)))))
set_option maxRecDepth 100000 in
set_option maxHeartbeats 4000000 in
theorem w_law_b608 {G : GW} {E : EE} {QL : Mem → State → Prop} {rt : Option FieldType} {L : Nat} {xs : Nat → Int32} (hG : ab_ok G) (hX : ab_X G E L xs) (hret : ∀ lv M, AWo G E code 4 QL 1343 lv [.int (1 : Int32)] M (some M)) {k18 : Int32 → Mem → Option Mem} (B : Bx G E RL code 4 2000 rt) (hk18 : ∀ (v3 : Int32) (M : Mem), AWo G E code 4 QL 18 [(0, .ref 2000), (1, .ref 0), (2, .ref 47), (3, .int v3)] [] M (k18 v3 M)) (v3 : Int32) (M : Mem) : AWo G E code 4 QL 608 [(0, .ref 2000), (1, .ref 0), (2, .ref 47), (3, .int v3)] [] M (f_law_b608 L xs k18 v3 M) := by
  unfold f_law_b608
  refine aw_aload_n (k0 := 1) B 1 (by decide +kernel) rfl rfl ?_
  refine aw_aload_n (k0 := 0) B 0 (by decide +kernel) rfl rfl ?_
  refine aw_iload_n (k0 := 3) B 3 (by decide +kernel) rfl rfl ?_
  refine aw_iconst (n := 1) (v := (1 : Int32)) B (by decide +kernel) (by decide) ?_
  refine aw_iadd B (by decide +kernel) ?_
  refine aw_xld hX B (by decide +kernel) ?_
  refine aw_aload_n (k0 := 0) B 0 (by decide +kernel) rfl rfl ?_
  refine aw_iload_n (k0 := 3) B 3 (by decide +kernel) rfl rfl ?_
  refine aw_iconst (n := 2) (v := (2 : Int32)) B (by decide +kernel) (by decide) ?_
  refine aw_iadd B (by decide +kernel) ?_
  refine aw_xld hX B (by decide +kernel) ?_
  refine aw_cVI B (c_X10_next (eLa E) hG (xs (v3 + (1 : Int32)).toNatClampNeg) (xs (v3 + (2 : Int32)).toNatClampNeg) M) cvL_81 rfl rfl (Nat.le_of_ble_eq_true rfl) rfl (Nat.le_of_ble_eq_true rfl) (by decide +kernel) rfl (fun x1 M2 => ?_)
  refine aw_aload_n (k0 := 2) B 2 (by decide +kernel) rfl rfl ?_
  refine aw_aload_n (k0 := 0) B 0 (by decide +kernel) rfl rfl ?_
  refine aw_iload_n (k0 := 3) B 3 (by decide +kernel) rfl rfl ?_
  refine aw_iconst (n := 1) (v := (1 : Int32)) B (by decide +kernel) (by decide) ?_
  refine aw_iadd B (by decide +kernel) ?_
  refine aw_xld hX B (by decide +kernel) ?_
  refine aw_aload_n (k0 := 0) B 0 (by decide +kernel) rfl rfl ?_
  refine aw_iload_n (k0 := 3) B 3 (by decide +kernel) rfl rfl ?_
  refine aw_iconst (n := 2) (v := (2 : Int32)) B (by decide +kernel) (by decide) ?_
  refine aw_iadd B (by decide +kernel) ?_
  refine aw_xld hX B (by decide +kernel) ?_
  refine aw_cVI B (c_X11_next (eLa E) hG (xs (v3 + (1 : Int32)).toNatClampNeg) (xs (v3 + (2 : Int32)).toNatClampNeg) M2) cvL_84 rfl rfl (Nat.le_of_ble_eq_true rfl) rfl (Nat.le_of_ble_eq_true rfl) (by decide +kernel) rfl (fun x3 M4 => ?_)
  refine aw_icmp_eq (off := 700) B 1336 (by decide +kernel) (by decide) (fun _ => ?_) (fun _ => ?_)
  · exact w_law_b1336 hG hX hret B hk18 _ _
  · refine aw_iconst (n := 0) (v := (0 : Int32)) B (by decide +kernel) (by decide) ?_
    exact aw_none
def f_law_b575 (L : Nat) (xs : Nat → Int32) (k18 : Int32 → Mem → Option Mem) (v3 : Int32) (M : Mem) : Option Mem := ck (okX L (v3 + (1 : Int32))) (ck (okX L (v3 + (2 : Int32))) (bI (f_X10_mean (xs (v3 + (1 : Int32)).toNatClampNeg) (xs (v3 + (2 : Int32)).toNatClampNeg) M) fun x1 M2 => ck (okX L (v3 + (1 : Int32))) (ck (okX L (v3 + (2 : Int32))) (bI (f_X11_mean (xs (v3 + (1 : Int32)).toNatClampNeg) (xs (v3 + (2 : Int32)).toNatClampNeg) M2) fun x3 M4 => (if x1 = x3 then f_law_b1336 L xs k18 v3 M4 else none)))))
set_option maxRecDepth 100000 in
set_option maxHeartbeats 4000000 in
theorem w_law_b575 {G : GW} {E : EE} {QL : Mem → State → Prop} {rt : Option FieldType} {L : Nat} {xs : Nat → Int32} (hG : ab_ok G) (hX : ab_X G E L xs) (hret : ∀ lv M, AWo G E code 4 QL 1343 lv [.int (1 : Int32)] M (some M)) {k18 : Int32 → Mem → Option Mem} (B : Bx G E RL code 4 2000 rt) (hk18 : ∀ (v3 : Int32) (M : Mem), AWo G E code 4 QL 18 [(0, .ref 2000), (1, .ref 0), (2, .ref 47), (3, .int v3)] [] M (k18 v3 M)) (v3 : Int32) (M : Mem) : AWo G E code 4 QL 575 [(0, .ref 2000), (1, .ref 0), (2, .ref 47), (3, .int v3)] [] M (f_law_b575 L xs k18 v3 M) := by
  unfold f_law_b575
  refine aw_aload_n (k0 := 1) B 1 (by decide +kernel) rfl rfl ?_
  refine aw_aload_n (k0 := 0) B 0 (by decide +kernel) rfl rfl ?_
  refine aw_iload_n (k0 := 3) B 3 (by decide +kernel) rfl rfl ?_
  refine aw_iconst (n := 1) (v := (1 : Int32)) B (by decide +kernel) (by decide) ?_
  refine aw_iadd B (by decide +kernel) ?_
  refine aw_xld hX B (by decide +kernel) ?_
  refine aw_aload_n (k0 := 0) B 0 (by decide +kernel) rfl rfl ?_
  refine aw_iload_n (k0 := 3) B 3 (by decide +kernel) rfl rfl ?_
  refine aw_iconst (n := 2) (v := (2 : Int32)) B (by decide +kernel) (by decide) ?_
  refine aw_iadd B (by decide +kernel) ?_
  refine aw_xld hX B (by decide +kernel) ?_
  refine aw_cVI B (c_X10_mean (eLa E) hG (xs (v3 + (1 : Int32)).toNatClampNeg) (xs (v3 + (2 : Int32)).toNatClampNeg) M) cvL_77 rfl rfl (Nat.le_of_ble_eq_true rfl) rfl (Nat.le_of_ble_eq_true rfl) (by decide +kernel) rfl (fun x1 M2 => ?_)
  refine aw_aload_n (k0 := 2) B 2 (by decide +kernel) rfl rfl ?_
  refine aw_aload_n (k0 := 0) B 0 (by decide +kernel) rfl rfl ?_
  refine aw_iload_n (k0 := 3) B 3 (by decide +kernel) rfl rfl ?_
  refine aw_iconst (n := 1) (v := (1 : Int32)) B (by decide +kernel) (by decide) ?_
  refine aw_iadd B (by decide +kernel) ?_
  refine aw_xld hX B (by decide +kernel) ?_
  refine aw_aload_n (k0 := 0) B 0 (by decide +kernel) rfl rfl ?_
  refine aw_iload_n (k0 := 3) B 3 (by decide +kernel) rfl rfl ?_
  refine aw_iconst (n := 2) (v := (2 : Int32)) B (by decide +kernel) (by decide) ?_
  refine aw_iadd B (by decide +kernel) ?_
  refine aw_xld hX B (by decide +kernel) ?_
  refine aw_cVI B (c_X11_mean (eLa E) hG (xs (v3 + (1 : Int32)).toNatClampNeg) (xs (v3 + (2 : Int32)).toNatClampNeg) M2) cvL_80 rfl rfl (Nat.le_of_ble_eq_true rfl) rfl (Nat.le_of_ble_eq_true rfl) (by decide +kernel) rfl (fun x3 M4 => ?_)
  refine aw_icmp_eq (off := 733) B 1336 (by decide +kernel) (by decide) (fun _ => ?_) (fun _ => ?_)
  · exact w_law_b1336 hG hX hret B hk18 _ _
  · refine aw_iconst (n := 0) (v := (0 : Int32)) B (by decide +kernel) (by decide) ?_
    exact aw_none
def f_law_b552 (L : Nat) (xs : Nat → Int32) (k18 : Int32 → Mem → Option Mem) (v3 : Int32) (M : Mem) : Option Mem := ck (okX L (v3 + (1 : Int32))) (bI (f_X10_worst (xs (v3 + (1 : Int32)).toNatClampNeg) M) fun x1 M2 => ck (okX L (v3 + (1 : Int32))) (bI (f_X11_worst (xs (v3 + (1 : Int32)).toNatClampNeg) M2) fun x3 M4 => (if x1 = x3 then f_law_b1336 L xs k18 v3 M4 else none)))
set_option maxRecDepth 100000 in
set_option maxHeartbeats 4000000 in
theorem w_law_b552 {G : GW} {E : EE} {QL : Mem → State → Prop} {rt : Option FieldType} {L : Nat} {xs : Nat → Int32} (hG : ab_ok G) (hX : ab_X G E L xs) (hret : ∀ lv M, AWo G E code 4 QL 1343 lv [.int (1 : Int32)] M (some M)) {k18 : Int32 → Mem → Option Mem} (B : Bx G E RL code 4 2000 rt) (hk18 : ∀ (v3 : Int32) (M : Mem), AWo G E code 4 QL 18 [(0, .ref 2000), (1, .ref 0), (2, .ref 47), (3, .int v3)] [] M (k18 v3 M)) (v3 : Int32) (M : Mem) : AWo G E code 4 QL 552 [(0, .ref 2000), (1, .ref 0), (2, .ref 47), (3, .int v3)] [] M (f_law_b552 L xs k18 v3 M) := by
  unfold f_law_b552
  refine aw_aload_n (k0 := 1) B 1 (by decide +kernel) rfl rfl ?_
  refine aw_aload_n (k0 := 0) B 0 (by decide +kernel) rfl rfl ?_
  refine aw_iload_n (k0 := 3) B 3 (by decide +kernel) rfl rfl ?_
  refine aw_iconst (n := 1) (v := (1 : Int32)) B (by decide +kernel) (by decide) ?_
  refine aw_iadd B (by decide +kernel) ?_
  refine aw_xld hX B (by decide +kernel) ?_
  refine aw_cVI B (c_X10_worst (eLa E) hG (xs (v3 + (1 : Int32)).toNatClampNeg) M) cvL_73 rfl rfl (Nat.le_of_ble_eq_true rfl) rfl (Nat.le_of_ble_eq_true rfl) (by decide +kernel) rfl (fun x1 M2 => ?_)
  refine aw_aload_n (k0 := 2) B 2 (by decide +kernel) rfl rfl ?_
  refine aw_aload_n (k0 := 0) B 0 (by decide +kernel) rfl rfl ?_
  refine aw_iload_n (k0 := 3) B 3 (by decide +kernel) rfl rfl ?_
  refine aw_iconst (n := 1) (v := (1 : Int32)) B (by decide +kernel) (by decide) ?_
  refine aw_iadd B (by decide +kernel) ?_
  refine aw_xld hX B (by decide +kernel) ?_
  refine aw_cVI B (c_X11_worst (eLa E) hG (xs (v3 + (1 : Int32)).toNatClampNeg) M2) cvL_76 rfl rfl (Nat.le_of_ble_eq_true rfl) rfl (Nat.le_of_ble_eq_true rfl) (by decide +kernel) rfl (fun x3 M4 => ?_)
  refine aw_icmp_eq (off := 766) B 1336 (by decide +kernel) (by decide) (fun _ => ?_) (fun _ => ?_)
  · exact w_law_b1336 hG hX hret B hk18 _ _
  · refine aw_iconst (n := 0) (v := (0 : Int32)) B (by decide +kernel) (by decide) ?_
    exact aw_none
def f_law_b529 (L : Nat) (xs : Nat → Int32) (k18 : Int32 → Mem → Option Mem) (v3 : Int32) (M : Mem) : Option Mem := ck (okX L (v3 + (1 : Int32))) (bI (f_X10_proof (xs (v3 + (1 : Int32)).toNatClampNeg) M) fun x1 M2 => ck (okX L (v3 + (1 : Int32))) (bI (f_X11_proof (xs (v3 + (1 : Int32)).toNatClampNeg) M2) fun x3 M4 => (if x1 = x3 then f_law_b1336 L xs k18 v3 M4 else none)))
set_option maxRecDepth 100000 in
set_option maxHeartbeats 4000000 in
theorem w_law_b529 {G : GW} {E : EE} {QL : Mem → State → Prop} {rt : Option FieldType} {L : Nat} {xs : Nat → Int32} (hG : ab_ok G) (hX : ab_X G E L xs) (hret : ∀ lv M, AWo G E code 4 QL 1343 lv [.int (1 : Int32)] M (some M)) {k18 : Int32 → Mem → Option Mem} (B : Bx G E RL code 4 2000 rt) (hk18 : ∀ (v3 : Int32) (M : Mem), AWo G E code 4 QL 18 [(0, .ref 2000), (1, .ref 0), (2, .ref 47), (3, .int v3)] [] M (k18 v3 M)) (v3 : Int32) (M : Mem) : AWo G E code 4 QL 529 [(0, .ref 2000), (1, .ref 0), (2, .ref 47), (3, .int v3)] [] M (f_law_b529 L xs k18 v3 M) := by
  unfold f_law_b529
  refine aw_aload_n (k0 := 1) B 1 (by decide +kernel) rfl rfl ?_
  refine aw_aload_n (k0 := 0) B 0 (by decide +kernel) rfl rfl ?_
  refine aw_iload_n (k0 := 3) B 3 (by decide +kernel) rfl rfl ?_
  refine aw_iconst (n := 1) (v := (1 : Int32)) B (by decide +kernel) (by decide) ?_
  refine aw_iadd B (by decide +kernel) ?_
  refine aw_xld hX B (by decide +kernel) ?_
  refine aw_cVI B (c_X10_proof (eLa E) hG (xs (v3 + (1 : Int32)).toNatClampNeg) M) cvL_69 rfl rfl (Nat.le_of_ble_eq_true rfl) rfl (Nat.le_of_ble_eq_true rfl) (by decide +kernel) rfl (fun x1 M2 => ?_)
  refine aw_aload_n (k0 := 2) B 2 (by decide +kernel) rfl rfl ?_
  refine aw_aload_n (k0 := 0) B 0 (by decide +kernel) rfl rfl ?_
  refine aw_iload_n (k0 := 3) B 3 (by decide +kernel) rfl rfl ?_
  refine aw_iconst (n := 1) (v := (1 : Int32)) B (by decide +kernel) (by decide) ?_
  refine aw_iadd B (by decide +kernel) ?_
  refine aw_xld hX B (by decide +kernel) ?_
  refine aw_cVI B (c_X11_proof (eLa E) hG (xs (v3 + (1 : Int32)).toNatClampNeg) M2) cvL_72 rfl rfl (Nat.le_of_ble_eq_true rfl) rfl (Nat.le_of_ble_eq_true rfl) (by decide +kernel) rfl (fun x3 M4 => ?_)
  refine aw_icmp_eq (off := 789) B 1336 (by decide +kernel) (by decide) (fun _ => ?_) (fun _ => ?_)
  · exact w_law_b1336 hG hX hret B hk18 _ _
  · refine aw_iconst (n := 0) (v := (0 : Int32)) B (by decide +kernel) (by decide) ?_
    exact aw_none
def f_law_b496 (L : Nat) (xs : Nat → Int32) (k18 : Int32 → Mem → Option Mem) (v3 : Int32) (M : Mem) : Option Mem := ck (okX L (v3 + (1 : Int32))) (ck (okX L (v3 + (2 : Int32))) (bI (f_X10_ask (xs (v3 + (1 : Int32)).toNatClampNeg) (xs (v3 + (2 : Int32)).toNatClampNeg) M) fun x1 M2 => ck (okX L (v3 + (1 : Int32))) (ck (okX L (v3 + (2 : Int32))) (bI (f_X11_ask (xs (v3 + (1 : Int32)).toNatClampNeg) (xs (v3 + (2 : Int32)).toNatClampNeg) M2) fun x3 M4 => (if x1 = x3 then f_law_b1336 L xs k18 v3 M4 else none)))))
set_option maxRecDepth 100000 in
set_option maxHeartbeats 4000000 in
theorem w_law_b496 {G : GW} {E : EE} {QL : Mem → State → Prop} {rt : Option FieldType} {L : Nat} {xs : Nat → Int32} (hG : ab_ok G) (hX : ab_X G E L xs) (hret : ∀ lv M, AWo G E code 4 QL 1343 lv [.int (1 : Int32)] M (some M)) {k18 : Int32 → Mem → Option Mem} (B : Bx G E RL code 4 2000 rt) (hk18 : ∀ (v3 : Int32) (M : Mem), AWo G E code 4 QL 18 [(0, .ref 2000), (1, .ref 0), (2, .ref 47), (3, .int v3)] [] M (k18 v3 M)) (v3 : Int32) (M : Mem) : AWo G E code 4 QL 496 [(0, .ref 2000), (1, .ref 0), (2, .ref 47), (3, .int v3)] [] M (f_law_b496 L xs k18 v3 M) := by
  unfold f_law_b496
  refine aw_aload_n (k0 := 1) B 1 (by decide +kernel) rfl rfl ?_
  refine aw_aload_n (k0 := 0) B 0 (by decide +kernel) rfl rfl ?_
  refine aw_iload_n (k0 := 3) B 3 (by decide +kernel) rfl rfl ?_
  refine aw_iconst (n := 1) (v := (1 : Int32)) B (by decide +kernel) (by decide) ?_
  refine aw_iadd B (by decide +kernel) ?_
  refine aw_xld hX B (by decide +kernel) ?_
  refine aw_aload_n (k0 := 0) B 0 (by decide +kernel) rfl rfl ?_
  refine aw_iload_n (k0 := 3) B 3 (by decide +kernel) rfl rfl ?_
  refine aw_iconst (n := 2) (v := (2 : Int32)) B (by decide +kernel) (by decide) ?_
  refine aw_iadd B (by decide +kernel) ?_
  refine aw_xld hX B (by decide +kernel) ?_
  refine aw_cVI B (c_X10_ask (eLa E) hG (xs (v3 + (1 : Int32)).toNatClampNeg) (xs (v3 + (2 : Int32)).toNatClampNeg) M) cvL_65 rfl rfl (Nat.le_of_ble_eq_true rfl) rfl (Nat.le_of_ble_eq_true rfl) (by decide +kernel) rfl (fun x1 M2 => ?_)
  refine aw_aload_n (k0 := 2) B 2 (by decide +kernel) rfl rfl ?_
  refine aw_aload_n (k0 := 0) B 0 (by decide +kernel) rfl rfl ?_
  refine aw_iload_n (k0 := 3) B 3 (by decide +kernel) rfl rfl ?_
  refine aw_iconst (n := 1) (v := (1 : Int32)) B (by decide +kernel) (by decide) ?_
  refine aw_iadd B (by decide +kernel) ?_
  refine aw_xld hX B (by decide +kernel) ?_
  refine aw_aload_n (k0 := 0) B 0 (by decide +kernel) rfl rfl ?_
  refine aw_iload_n (k0 := 3) B 3 (by decide +kernel) rfl rfl ?_
  refine aw_iconst (n := 2) (v := (2 : Int32)) B (by decide +kernel) (by decide) ?_
  refine aw_iadd B (by decide +kernel) ?_
  refine aw_xld hX B (by decide +kernel) ?_
  refine aw_cVI B (c_X11_ask (eLa E) hG (xs (v3 + (1 : Int32)).toNatClampNeg) (xs (v3 + (2 : Int32)).toNatClampNeg) M2) cvL_68 rfl rfl (Nat.le_of_ble_eq_true rfl) rfl (Nat.le_of_ble_eq_true rfl) (by decide +kernel) rfl (fun x3 M4 => ?_)
  refine aw_icmp_eq (off := 812) B 1336 (by decide +kernel) (by decide) (fun _ => ?_) (fun _ => ?_)
  · exact w_law_b1336 hG hX hret B hk18 _ _
  · refine aw_iconst (n := 0) (v := (0 : Int32)) B (by decide +kernel) (by decide) ?_
    exact aw_none
def f_law_b483 (L : Nat) (xs : Nat → Int32) (k18 : Int32 → Mem → Option Mem) (v3 : Int32) (M : Mem) : Option Mem := bI (f_X10_wrong M) fun x1 M2 => bI (f_X11_wrong M2) fun x3 M4 => (if x1 = x3 then f_law_b1336 L xs k18 v3 M4 else none)
set_option maxRecDepth 100000 in
set_option maxHeartbeats 4000000 in
theorem w_law_b483 {G : GW} {E : EE} {QL : Mem → State → Prop} {rt : Option FieldType} {L : Nat} {xs : Nat → Int32} (hG : ab_ok G) (hX : ab_X G E L xs) (hret : ∀ lv M, AWo G E code 4 QL 1343 lv [.int (1 : Int32)] M (some M)) {k18 : Int32 → Mem → Option Mem} (B : Bx G E RL code 4 2000 rt) (hk18 : ∀ (v3 : Int32) (M : Mem), AWo G E code 4 QL 18 [(0, .ref 2000), (1, .ref 0), (2, .ref 47), (3, .int v3)] [] M (k18 v3 M)) (v3 : Int32) (M : Mem) : AWo G E code 4 QL 483 [(0, .ref 2000), (1, .ref 0), (2, .ref 47), (3, .int v3)] [] M (f_law_b483 L xs k18 v3 M) := by
  unfold f_law_b483
  refine aw_aload_n (k0 := 1) B 1 (by decide +kernel) rfl rfl ?_
  refine aw_cVI B (c_X10_wrong (eLa E) hG M) cvL_61 rfl rfl (Nat.le_of_ble_eq_true rfl) rfl (Nat.le_of_ble_eq_true rfl) (by decide +kernel) rfl (fun x1 M2 => ?_)
  refine aw_aload_n (k0 := 2) B 2 (by decide +kernel) rfl rfl ?_
  refine aw_cVI B (c_X11_wrong (eLa E) hG M2) cvL_64 rfl rfl (Nat.le_of_ble_eq_true rfl) rfl (Nat.le_of_ble_eq_true rfl) (by decide +kernel) rfl (fun x3 M4 => ?_)
  refine aw_icmp_eq (off := 845) B 1336 (by decide +kernel) (by decide) (fun _ => ?_) (fun _ => ?_)
  · exact w_law_b1336 hG hX hret B hk18 _ _
  · refine aw_iconst (n := 0) (v := (0 : Int32)) B (by decide +kernel) (by decide) ?_
    exact aw_none
def f_law_b470 (L : Nat) (xs : Nat → Int32) (k18 : Int32 → Mem → Option Mem) (v3 : Int32) (M : Mem) : Option Mem := bI (f_X10_clash M) fun x1 M2 => bI (f_X11_clash M2) fun x3 M4 => (if x1 = x3 then f_law_b1336 L xs k18 v3 M4 else none)
set_option maxRecDepth 100000 in
set_option maxHeartbeats 4000000 in
theorem w_law_b470 {G : GW} {E : EE} {QL : Mem → State → Prop} {rt : Option FieldType} {L : Nat} {xs : Nat → Int32} (hG : ab_ok G) (hX : ab_X G E L xs) (hret : ∀ lv M, AWo G E code 4 QL 1343 lv [.int (1 : Int32)] M (some M)) {k18 : Int32 → Mem → Option Mem} (B : Bx G E RL code 4 2000 rt) (hk18 : ∀ (v3 : Int32) (M : Mem), AWo G E code 4 QL 18 [(0, .ref 2000), (1, .ref 0), (2, .ref 47), (3, .int v3)] [] M (k18 v3 M)) (v3 : Int32) (M : Mem) : AWo G E code 4 QL 470 [(0, .ref 2000), (1, .ref 0), (2, .ref 47), (3, .int v3)] [] M (f_law_b470 L xs k18 v3 M) := by
  unfold f_law_b470
  refine aw_aload_n (k0 := 1) B 1 (by decide +kernel) rfl rfl ?_
  refine aw_cVI B (c_X10_clash (eLa E) hG M) cvL_57 rfl rfl (Nat.le_of_ble_eq_true rfl) rfl (Nat.le_of_ble_eq_true rfl) (by decide +kernel) rfl (fun x1 M2 => ?_)
  refine aw_aload_n (k0 := 2) B 2 (by decide +kernel) rfl rfl ?_
  refine aw_cVI B (c_X11_clash (eLa E) hG M2) cvL_60 rfl rfl (Nat.le_of_ble_eq_true rfl) rfl (Nat.le_of_ble_eq_true rfl) (by decide +kernel) rfl (fun x3 M4 => ?_)
  refine aw_icmp_eq (off := 858) B 1336 (by decide +kernel) (by decide) (fun _ => ?_) (fun _ => ?_)
  · exact w_law_b1336 hG hX hret B hk18 _ _
  · refine aw_iconst (n := 0) (v := (0 : Int32)) B (by decide +kernel) (by decide) ?_
    exact aw_none
def f_law_b447 (L : Nat) (xs : Nat → Int32) (k18 : Int32 → Mem → Option Mem) (v3 : Int32) (M : Mem) : Option Mem := ck (okX L (v3 + (1 : Int32))) (bI (f_X10_places (xs (v3 + (1 : Int32)).toNatClampNeg) M) fun x1 M2 => ck (okX L (v3 + (1 : Int32))) (bI (f_X11_places (xs (v3 + (1 : Int32)).toNatClampNeg) M2) fun x3 M4 => (if x1 = x3 then f_law_b1336 L xs k18 v3 M4 else none)))
set_option maxRecDepth 100000 in
set_option maxHeartbeats 4000000 in
theorem w_law_b447 {G : GW} {E : EE} {QL : Mem → State → Prop} {rt : Option FieldType} {L : Nat} {xs : Nat → Int32} (hG : ab_ok G) (hX : ab_X G E L xs) (hret : ∀ lv M, AWo G E code 4 QL 1343 lv [.int (1 : Int32)] M (some M)) {k18 : Int32 → Mem → Option Mem} (B : Bx G E RL code 4 2000 rt) (hk18 : ∀ (v3 : Int32) (M : Mem), AWo G E code 4 QL 18 [(0, .ref 2000), (1, .ref 0), (2, .ref 47), (3, .int v3)] [] M (k18 v3 M)) (v3 : Int32) (M : Mem) : AWo G E code 4 QL 447 [(0, .ref 2000), (1, .ref 0), (2, .ref 47), (3, .int v3)] [] M (f_law_b447 L xs k18 v3 M) := by
  unfold f_law_b447
  refine aw_aload_n (k0 := 1) B 1 (by decide +kernel) rfl rfl ?_
  refine aw_aload_n (k0 := 0) B 0 (by decide +kernel) rfl rfl ?_
  refine aw_iload_n (k0 := 3) B 3 (by decide +kernel) rfl rfl ?_
  refine aw_iconst (n := 1) (v := (1 : Int32)) B (by decide +kernel) (by decide) ?_
  refine aw_iadd B (by decide +kernel) ?_
  refine aw_xld hX B (by decide +kernel) ?_
  refine aw_cVI B (c_X10_places (eLa E) hG (xs (v3 + (1 : Int32)).toNatClampNeg) M) cvL_53 rfl rfl (Nat.le_of_ble_eq_true rfl) rfl (Nat.le_of_ble_eq_true rfl) (by decide +kernel) rfl (fun x1 M2 => ?_)
  refine aw_aload_n (k0 := 2) B 2 (by decide +kernel) rfl rfl ?_
  refine aw_aload_n (k0 := 0) B 0 (by decide +kernel) rfl rfl ?_
  refine aw_iload_n (k0 := 3) B 3 (by decide +kernel) rfl rfl ?_
  refine aw_iconst (n := 1) (v := (1 : Int32)) B (by decide +kernel) (by decide) ?_
  refine aw_iadd B (by decide +kernel) ?_
  refine aw_xld hX B (by decide +kernel) ?_
  refine aw_cVI B (c_X11_places (eLa E) hG (xs (v3 + (1 : Int32)).toNatClampNeg) M2) cvL_56 rfl rfl (Nat.le_of_ble_eq_true rfl) rfl (Nat.le_of_ble_eq_true rfl) (by decide +kernel) rfl (fun x3 M4 => ?_)
  refine aw_icmp_eq (off := 871) B 1336 (by decide +kernel) (by decide) (fun _ => ?_) (fun _ => ?_)
  · exact w_law_b1336 hG hX hret B hk18 _ _
  · refine aw_iconst (n := 0) (v := (0 : Int32)) B (by decide +kernel) (by decide) ?_
    exact aw_none
def f_law_b424 (L : Nat) (xs : Nat → Int32) (k18 : Int32 → Mem → Option Mem) (v3 : Int32) (M : Mem) : Option Mem := ck (okX L (v3 + (1 : Int32))) (bI (f_X10_sure (xs (v3 + (1 : Int32)).toNatClampNeg) M) fun x1 M2 => ck (okX L (v3 + (1 : Int32))) (bI (f_X11_sure (xs (v3 + (1 : Int32)).toNatClampNeg) M2) fun x3 M4 => (if x1 = x3 then f_law_b1336 L xs k18 v3 M4 else none)))
set_option maxRecDepth 100000 in
set_option maxHeartbeats 4000000 in
theorem w_law_b424 {G : GW} {E : EE} {QL : Mem → State → Prop} {rt : Option FieldType} {L : Nat} {xs : Nat → Int32} (hG : ab_ok G) (hX : ab_X G E L xs) (hret : ∀ lv M, AWo G E code 4 QL 1343 lv [.int (1 : Int32)] M (some M)) {k18 : Int32 → Mem → Option Mem} (B : Bx G E RL code 4 2000 rt) (hk18 : ∀ (v3 : Int32) (M : Mem), AWo G E code 4 QL 18 [(0, .ref 2000), (1, .ref 0), (2, .ref 47), (3, .int v3)] [] M (k18 v3 M)) (v3 : Int32) (M : Mem) : AWo G E code 4 QL 424 [(0, .ref 2000), (1, .ref 0), (2, .ref 47), (3, .int v3)] [] M (f_law_b424 L xs k18 v3 M) := by
  unfold f_law_b424
  refine aw_aload_n (k0 := 1) B 1 (by decide +kernel) rfl rfl ?_
  refine aw_aload_n (k0 := 0) B 0 (by decide +kernel) rfl rfl ?_
  refine aw_iload_n (k0 := 3) B 3 (by decide +kernel) rfl rfl ?_
  refine aw_iconst (n := 1) (v := (1 : Int32)) B (by decide +kernel) (by decide) ?_
  refine aw_iadd B (by decide +kernel) ?_
  refine aw_xld hX B (by decide +kernel) ?_
  refine aw_cVI B (c_X10_sure (eLa E) hG (xs (v3 + (1 : Int32)).toNatClampNeg) M) cvL_49 rfl rfl (Nat.le_of_ble_eq_true rfl) rfl (Nat.le_of_ble_eq_true rfl) (by decide +kernel) rfl (fun x1 M2 => ?_)
  refine aw_aload_n (k0 := 2) B 2 (by decide +kernel) rfl rfl ?_
  refine aw_aload_n (k0 := 0) B 0 (by decide +kernel) rfl rfl ?_
  refine aw_iload_n (k0 := 3) B 3 (by decide +kernel) rfl rfl ?_
  refine aw_iconst (n := 1) (v := (1 : Int32)) B (by decide +kernel) (by decide) ?_
  refine aw_iadd B (by decide +kernel) ?_
  refine aw_xld hX B (by decide +kernel) ?_
  refine aw_cVI B (c_X11_sure (eLa E) hG (xs (v3 + (1 : Int32)).toNatClampNeg) M2) cvL_52 rfl rfl (Nat.le_of_ble_eq_true rfl) rfl (Nat.le_of_ble_eq_true rfl) (by decide +kernel) rfl (fun x3 M4 => ?_)
  refine aw_icmp_eq (off := 894) B 1336 (by decide +kernel) (by decide) (fun _ => ?_) (fun _ => ?_)
  · exact w_law_b1336 hG hX hret B hk18 _ _
  · refine aw_iconst (n := 0) (v := (0 : Int32)) B (by decide +kernel) (by decide) ?_
    exact aw_none
def f_law_b401 (L : Nat) (xs : Nat → Int32) (k18 : Int32 → Mem → Option Mem) (v3 : Int32) (M : Mem) : Option Mem := ck (okX L (v3 + (1 : Int32))) (bI (f_X10_orders (xs (v3 + (1 : Int32)).toNatClampNeg) M) fun x1 M2 => ck (okX L (v3 + (1 : Int32))) (bI (f_X11_orders (xs (v3 + (1 : Int32)).toNatClampNeg) M2) fun x3 M4 => (if x1 = x3 then f_law_b1336 L xs k18 v3 M4 else none)))
set_option maxRecDepth 100000 in
set_option maxHeartbeats 4000000 in
theorem w_law_b401 {G : GW} {E : EE} {QL : Mem → State → Prop} {rt : Option FieldType} {L : Nat} {xs : Nat → Int32} (hG : ab_ok G) (hX : ab_X G E L xs) (hret : ∀ lv M, AWo G E code 4 QL 1343 lv [.int (1 : Int32)] M (some M)) {k18 : Int32 → Mem → Option Mem} (B : Bx G E RL code 4 2000 rt) (hk18 : ∀ (v3 : Int32) (M : Mem), AWo G E code 4 QL 18 [(0, .ref 2000), (1, .ref 0), (2, .ref 47), (3, .int v3)] [] M (k18 v3 M)) (v3 : Int32) (M : Mem) : AWo G E code 4 QL 401 [(0, .ref 2000), (1, .ref 0), (2, .ref 47), (3, .int v3)] [] M (f_law_b401 L xs k18 v3 M) := by
  unfold f_law_b401
  refine aw_aload_n (k0 := 1) B 1 (by decide +kernel) rfl rfl ?_
  refine aw_aload_n (k0 := 0) B 0 (by decide +kernel) rfl rfl ?_
  refine aw_iload_n (k0 := 3) B 3 (by decide +kernel) rfl rfl ?_
  refine aw_iconst (n := 1) (v := (1 : Int32)) B (by decide +kernel) (by decide) ?_
  refine aw_iadd B (by decide +kernel) ?_
  refine aw_xld hX B (by decide +kernel) ?_
  refine aw_cVI B (c_X10_orders (eLa E) hG (xs (v3 + (1 : Int32)).toNatClampNeg) M) cvL_45 rfl rfl (Nat.le_of_ble_eq_true rfl) rfl (Nat.le_of_ble_eq_true rfl) (by decide +kernel) rfl (fun x1 M2 => ?_)
  refine aw_aload_n (k0 := 2) B 2 (by decide +kernel) rfl rfl ?_
  refine aw_aload_n (k0 := 0) B 0 (by decide +kernel) rfl rfl ?_
  refine aw_iload_n (k0 := 3) B 3 (by decide +kernel) rfl rfl ?_
  refine aw_iconst (n := 1) (v := (1 : Int32)) B (by decide +kernel) (by decide) ?_
  refine aw_iadd B (by decide +kernel) ?_
  refine aw_xld hX B (by decide +kernel) ?_
  refine aw_cVI B (c_X11_orders (eLa E) hG (xs (v3 + (1 : Int32)).toNatClampNeg) M2) cvL_48 rfl rfl (Nat.le_of_ble_eq_true rfl) rfl (Nat.le_of_ble_eq_true rfl) (by decide +kernel) rfl (fun x3 M4 => ?_)
  refine aw_icmp_eq (off := 917) B 1336 (by decide +kernel) (by decide) (fun _ => ?_) (fun _ => ?_)
  · exact w_law_b1336 hG hX hret B hk18 _ _
  · refine aw_iconst (n := 0) (v := (0 : Int32)) B (by decide +kernel) (by decide) ?_
    exact aw_none
def f_law_b388 (L : Nat) (xs : Nat → Int32) (k18 : Int32 → Mem → Option Mem) (v3 : Int32) (M : Mem) : Option Mem := bI (f_X10_law M) fun x1 M2 => bI (f_X11_law M2) fun x3 M4 => (if x1 = x3 then f_law_b1336 L xs k18 v3 M4 else none)
set_option maxRecDepth 100000 in
set_option maxHeartbeats 4000000 in
theorem w_law_b388 {G : GW} {E : EE} {QL : Mem → State → Prop} {rt : Option FieldType} {L : Nat} {xs : Nat → Int32} (hG : ab_ok G) (hX : ab_X G E L xs) (hret : ∀ lv M, AWo G E code 4 QL 1343 lv [.int (1 : Int32)] M (some M)) {k18 : Int32 → Mem → Option Mem} (B : Bx G E RL code 4 2000 rt) (hk18 : ∀ (v3 : Int32) (M : Mem), AWo G E code 4 QL 18 [(0, .ref 2000), (1, .ref 0), (2, .ref 47), (3, .int v3)] [] M (k18 v3 M)) (v3 : Int32) (M : Mem) : AWo G E code 4 QL 388 [(0, .ref 2000), (1, .ref 0), (2, .ref 47), (3, .int v3)] [] M (f_law_b388 L xs k18 v3 M) := by
  unfold f_law_b388
  refine aw_aload_n (k0 := 1) B 1 (by decide +kernel) rfl rfl ?_
  refine aw_cVI B (c_X10_law (eLa E) hG M) cvL_40 rfl rfl (Nat.le_of_ble_eq_true rfl) rfl (Nat.le_of_ble_eq_true rfl) (by decide +kernel) rfl (fun x1 M2 => ?_)
  refine aw_aload_n (k0 := 2) B 2 (by decide +kernel) rfl rfl ?_
  refine aw_cVI B (c_X11_law (eLa E) hG M2) cvL_44 rfl rfl (Nat.le_of_ble_eq_true rfl) rfl (Nat.le_of_ble_eq_true rfl) (by decide +kernel) rfl (fun x3 M4 => ?_)
  refine aw_icmp_eq (off := 940) B 1336 (by decide +kernel) (by decide) (fun _ => ?_) (fun _ => ?_)
  · exact w_law_b1336 hG hX hret B hk18 _ _
  · refine aw_iconst (n := 0) (v := (0 : Int32)) B (by decide +kernel) (by decide) ?_
    exact aw_none
def f_law_b365 (L : Nat) (xs : Nat → Int32) (k18 : Int32 → Mem → Option Mem) (v3 : Int32) (M : Mem) : Option Mem := ck (okX L (v3 + (1 : Int32))) (bI (f_X10_feed (xs (v3 + (1 : Int32)).toNatClampNeg) M) fun x1 M2 => ck (okX L (v3 + (1 : Int32))) (bI (f_X11_feed (xs (v3 + (1 : Int32)).toNatClampNeg) M2) fun x3 M4 => (if x1 = x3 then f_law_b1336 L xs k18 v3 M4 else none)))
set_option maxRecDepth 100000 in
set_option maxHeartbeats 4000000 in
theorem w_law_b365 {G : GW} {E : EE} {QL : Mem → State → Prop} {rt : Option FieldType} {L : Nat} {xs : Nat → Int32} (hG : ab_ok G) (hX : ab_X G E L xs) (hret : ∀ lv M, AWo G E code 4 QL 1343 lv [.int (1 : Int32)] M (some M)) {k18 : Int32 → Mem → Option Mem} (B : Bx G E RL code 4 2000 rt) (hk18 : ∀ (v3 : Int32) (M : Mem), AWo G E code 4 QL 18 [(0, .ref 2000), (1, .ref 0), (2, .ref 47), (3, .int v3)] [] M (k18 v3 M)) (v3 : Int32) (M : Mem) : AWo G E code 4 QL 365 [(0, .ref 2000), (1, .ref 0), (2, .ref 47), (3, .int v3)] [] M (f_law_b365 L xs k18 v3 M) := by
  unfold f_law_b365
  refine aw_aload_n (k0 := 1) B 1 (by decide +kernel) rfl rfl ?_
  refine aw_aload_n (k0 := 0) B 0 (by decide +kernel) rfl rfl ?_
  refine aw_iload_n (k0 := 3) B 3 (by decide +kernel) rfl rfl ?_
  refine aw_iconst (n := 1) (v := (1 : Int32)) B (by decide +kernel) (by decide) ?_
  refine aw_iadd B (by decide +kernel) ?_
  refine aw_xld hX B (by decide +kernel) ?_
  refine aw_cVI B (c_X10_feed (eLa E) hG (xs (v3 + (1 : Int32)).toNatClampNeg) M) cvL_36 rfl rfl (Nat.le_of_ble_eq_true rfl) rfl (Nat.le_of_ble_eq_true rfl) (by decide +kernel) rfl (fun x1 M2 => ?_)
  refine aw_aload_n (k0 := 2) B 2 (by decide +kernel) rfl rfl ?_
  refine aw_aload_n (k0 := 0) B 0 (by decide +kernel) rfl rfl ?_
  refine aw_iload_n (k0 := 3) B 3 (by decide +kernel) rfl rfl ?_
  refine aw_iconst (n := 1) (v := (1 : Int32)) B (by decide +kernel) (by decide) ?_
  refine aw_iadd B (by decide +kernel) ?_
  refine aw_xld hX B (by decide +kernel) ?_
  refine aw_cVI B (c_X11_feed (eLa E) hG (xs (v3 + (1 : Int32)).toNatClampNeg) M2) cvL_39 rfl rfl (Nat.le_of_ble_eq_true rfl) rfl (Nat.le_of_ble_eq_true rfl) (by decide +kernel) rfl (fun x3 M4 => ?_)
  refine aw_icmp_eq (off := 953) B 1336 (by decide +kernel) (by decide) (fun _ => ?_) (fun _ => ?_)
  · exact w_law_b1336 hG hX hret B hk18 _ _
  · refine aw_iconst (n := 0) (v := (0 : Int32)) B (by decide +kernel) (by decide) ?_
    exact aw_none
def f_law_b332 (L : Nat) (xs : Nat → Int32) (k18 : Int32 → Mem → Option Mem) (v3 : Int32) (M : Mem) : Option Mem := ck (okX L (v3 + (1 : Int32))) (ck (okX L (v3 + (2 : Int32))) ((f_X10_of (xs (v3 + (1 : Int32)).toNatClampNeg) (xs (v3 + (2 : Int32)).toNatClampNeg) M).bind fun x1 => ck (okX L (v3 + (1 : Int32))) (ck (okX L (v3 + (2 : Int32))) ((f_X11_of (xs (v3 + (1 : Int32)).toNatClampNeg) (xs (v3 + (2 : Int32)).toNatClampNeg) M).bind fun x3 => (if x1 = x3 then f_law_b1336 L xs k18 v3 M else none)))))
set_option maxRecDepth 100000 in
set_option maxHeartbeats 4000000 in
theorem w_law_b332 {G : GW} {E : EE} {QL : Mem → State → Prop} {rt : Option FieldType} {L : Nat} {xs : Nat → Int32} (hG : ab_ok G) (hX : ab_X G E L xs) (hret : ∀ lv M, AWo G E code 4 QL 1343 lv [.int (1 : Int32)] M (some M)) {k18 : Int32 → Mem → Option Mem} (B : Bx G E RL code 4 2000 rt) (hk18 : ∀ (v3 : Int32) (M : Mem), AWo G E code 4 QL 18 [(0, .ref 2000), (1, .ref 0), (2, .ref 47), (3, .int v3)] [] M (k18 v3 M)) (v3 : Int32) (M : Mem) : AWo G E code 4 QL 332 [(0, .ref 2000), (1, .ref 0), (2, .ref 47), (3, .int v3)] [] M (f_law_b332 L xs k18 v3 M) := by
  unfold f_law_b332
  refine aw_aload_n (k0 := 1) B 1 (by decide +kernel) rfl rfl ?_
  refine aw_aload_n (k0 := 0) B 0 (by decide +kernel) rfl rfl ?_
  refine aw_iload_n (k0 := 3) B 3 (by decide +kernel) rfl rfl ?_
  refine aw_iconst (n := 1) (v := (1 : Int32)) B (by decide +kernel) (by decide) ?_
  refine aw_iadd B (by decide +kernel) ?_
  refine aw_xld hX B (by decide +kernel) ?_
  refine aw_aload_n (k0 := 0) B 0 (by decide +kernel) rfl rfl ?_
  refine aw_iload_n (k0 := 3) B 3 (by decide +kernel) rfl rfl ?_
  refine aw_iconst (n := 2) (v := (2 : Int32)) B (by decide +kernel) (by decide) ?_
  refine aw_iadd B (by decide +kernel) ?_
  refine aw_xld hX B (by decide +kernel) ?_
  refine aw_cVR B (c_X10_of (eLa E) hG (xs (v3 + (1 : Int32)).toNatClampNeg) (xs (v3 + (2 : Int32)).toNatClampNeg) M) cvL_31 rfl rfl (Nat.le_of_ble_eq_true rfl) rfl (Nat.le_of_ble_eq_true rfl) (by decide +kernel) rfl (fun x1 => ?_)
  refine aw_aload_n (k0 := 2) B 2 (by decide +kernel) rfl rfl ?_
  refine aw_aload_n (k0 := 0) B 0 (by decide +kernel) rfl rfl ?_
  refine aw_iload_n (k0 := 3) B 3 (by decide +kernel) rfl rfl ?_
  refine aw_iconst (n := 1) (v := (1 : Int32)) B (by decide +kernel) (by decide) ?_
  refine aw_iadd B (by decide +kernel) ?_
  refine aw_xld hX B (by decide +kernel) ?_
  refine aw_aload_n (k0 := 0) B 0 (by decide +kernel) rfl rfl ?_
  refine aw_iload_n (k0 := 3) B 3 (by decide +kernel) rfl rfl ?_
  refine aw_iconst (n := 2) (v := (2 : Int32)) B (by decide +kernel) (by decide) ?_
  refine aw_iadd B (by decide +kernel) ?_
  refine aw_xld hX B (by decide +kernel) ?_
  refine aw_cVR B (c_X11_of (eLa E) hG (xs (v3 + (1 : Int32)).toNatClampNeg) (xs (v3 + (2 : Int32)).toNatClampNeg) M) cvL_35 rfl rfl (Nat.le_of_ble_eq_true rfl) rfl (Nat.le_of_ble_eq_true rfl) (by decide +kernel) rfl (fun x3 => ?_)
  refine aw_icmp_eq (off := 976) B 1336 (by decide +kernel) (by decide) (fun _ => ?_) (fun _ => ?_)
  · exact w_law_b1336 hG hX hret B hk18 _ _
  · refine aw_iconst (n := 0) (v := (0 : Int32)) B (by decide +kernel) (by decide) ?_
    exact aw_none
def f_law_b289 (L : Nat) (xs : Nat → Int32) (k18 : Int32 → Mem → Option Mem) (v3 : Int32) (M : Mem) : Option Mem := ck (okX L (v3 + (1 : Int32))) (ck (okX L (v3 + (2 : Int32))) (ck (okX L (v3 + (3 : Int32))) (bI (f_X10_mend (xs (v3 + (1 : Int32)).toNatClampNeg) (xs (v3 + (2 : Int32)).toNatClampNeg) (xs (v3 + (3 : Int32)).toNatClampNeg) M) fun x1 M2 => ck (okX L (v3 + (1 : Int32))) (ck (okX L (v3 + (2 : Int32))) (ck (okX L (v3 + (3 : Int32))) (bI (f_X11_mend (xs (v3 + (1 : Int32)).toNatClampNeg) (xs (v3 + (2 : Int32)).toNatClampNeg) (xs (v3 + (3 : Int32)).toNatClampNeg) M2) fun x3 M4 => (if x1 = x3 then f_law_b1336 L xs k18 v3 M4 else none)))))))
set_option maxRecDepth 100000 in
set_option maxHeartbeats 4000000 in
theorem w_law_b289 {G : GW} {E : EE} {QL : Mem → State → Prop} {rt : Option FieldType} {L : Nat} {xs : Nat → Int32} (hG : ab_ok G) (hX : ab_X G E L xs) (hret : ∀ lv M, AWo G E code 4 QL 1343 lv [.int (1 : Int32)] M (some M)) {k18 : Int32 → Mem → Option Mem} (B : Bx G E RL code 4 2000 rt) (hk18 : ∀ (v3 : Int32) (M : Mem), AWo G E code 4 QL 18 [(0, .ref 2000), (1, .ref 0), (2, .ref 47), (3, .int v3)] [] M (k18 v3 M)) (v3 : Int32) (M : Mem) : AWo G E code 4 QL 289 [(0, .ref 2000), (1, .ref 0), (2, .ref 47), (3, .int v3)] [] M (f_law_b289 L xs k18 v3 M) := by
  unfold f_law_b289
  refine aw_aload_n (k0 := 1) B 1 (by decide +kernel) rfl rfl ?_
  refine aw_aload_n (k0 := 0) B 0 (by decide +kernel) rfl rfl ?_
  refine aw_iload_n (k0 := 3) B 3 (by decide +kernel) rfl rfl ?_
  refine aw_iconst (n := 1) (v := (1 : Int32)) B (by decide +kernel) (by decide) ?_
  refine aw_iadd B (by decide +kernel) ?_
  refine aw_xld hX B (by decide +kernel) ?_
  refine aw_aload_n (k0 := 0) B 0 (by decide +kernel) rfl rfl ?_
  refine aw_iload_n (k0 := 3) B 3 (by decide +kernel) rfl rfl ?_
  refine aw_iconst (n := 2) (v := (2 : Int32)) B (by decide +kernel) (by decide) ?_
  refine aw_iadd B (by decide +kernel) ?_
  refine aw_xld hX B (by decide +kernel) ?_
  refine aw_aload_n (k0 := 0) B 0 (by decide +kernel) rfl rfl ?_
  refine aw_iload_n (k0 := 3) B 3 (by decide +kernel) rfl rfl ?_
  refine aw_iconst (n := 3) (v := (3 : Int32)) B (by decide +kernel) (by decide) ?_
  refine aw_iadd B (by decide +kernel) ?_
  refine aw_xld hX B (by decide +kernel) ?_
  refine aw_cVI B (c_X10_mend (eLa E) hG (xs (v3 + (1 : Int32)).toNatClampNeg) (xs (v3 + (2 : Int32)).toNatClampNeg) (xs (v3 + (3 : Int32)).toNatClampNeg) M) cvL_27 rfl rfl (Nat.le_of_ble_eq_true rfl) rfl (Nat.le_of_ble_eq_true rfl) (by decide +kernel) rfl (fun x1 M2 => ?_)
  refine aw_aload_n (k0 := 2) B 2 (by decide +kernel) rfl rfl ?_
  refine aw_aload_n (k0 := 0) B 0 (by decide +kernel) rfl rfl ?_
  refine aw_iload_n (k0 := 3) B 3 (by decide +kernel) rfl rfl ?_
  refine aw_iconst (n := 1) (v := (1 : Int32)) B (by decide +kernel) (by decide) ?_
  refine aw_iadd B (by decide +kernel) ?_
  refine aw_xld hX B (by decide +kernel) ?_
  refine aw_aload_n (k0 := 0) B 0 (by decide +kernel) rfl rfl ?_
  refine aw_iload_n (k0 := 3) B 3 (by decide +kernel) rfl rfl ?_
  refine aw_iconst (n := 2) (v := (2 : Int32)) B (by decide +kernel) (by decide) ?_
  refine aw_iadd B (by decide +kernel) ?_
  refine aw_xld hX B (by decide +kernel) ?_
  refine aw_aload_n (k0 := 0) B 0 (by decide +kernel) rfl rfl ?_
  refine aw_iload_n (k0 := 3) B 3 (by decide +kernel) rfl rfl ?_
  refine aw_iconst (n := 3) (v := (3 : Int32)) B (by decide +kernel) (by decide) ?_
  refine aw_iadd B (by decide +kernel) ?_
  refine aw_xld hX B (by decide +kernel) ?_
  refine aw_cVI B (c_X11_mend (eLa E) hG (xs (v3 + (1 : Int32)).toNatClampNeg) (xs (v3 + (2 : Int32)).toNatClampNeg) (xs (v3 + (3 : Int32)).toNatClampNeg) M2) cvL_30 rfl rfl (Nat.le_of_ble_eq_true rfl) rfl (Nat.le_of_ble_eq_true rfl) (by decide +kernel) rfl (fun x3 M4 => ?_)
  refine aw_icmp_eq (off := 1009) B 1336 (by decide +kernel) (by decide) (fun _ => ?_) (fun _ => ?_)
  · exact w_law_b1336 hG hX hret B hk18 _ _
  · refine aw_iconst (n := 0) (v := (0 : Int32)) B (by decide +kernel) (by decide) ?_
    exact aw_none
def f_law_b246 (L : Nat) (xs : Nat → Int32) (k18 : Int32 → Mem → Option Mem) (v3 : Int32) (M : Mem) : Option Mem := ck (okX L (v3 + (1 : Int32))) (ck (okX L (v3 + (2 : Int32))) (ck (okX L (v3 + (3 : Int32))) (bI (f_X10_matches (xs (v3 + (1 : Int32)).toNatClampNeg) (xs (v3 + (2 : Int32)).toNatClampNeg) (xs (v3 + (3 : Int32)).toNatClampNeg) M) fun x1 M2 => ck (okX L (v3 + (1 : Int32))) (ck (okX L (v3 + (2 : Int32))) (ck (okX L (v3 + (3 : Int32))) (bI (f_X11_matches (xs (v3 + (1 : Int32)).toNatClampNeg) (xs (v3 + (2 : Int32)).toNatClampNeg) (xs (v3 + (3 : Int32)).toNatClampNeg) M2) fun x3 M4 => (if x1 = x3 then f_law_b1336 L xs k18 v3 M4 else none)))))))
set_option maxRecDepth 100000 in
set_option maxHeartbeats 4000000 in
theorem w_law_b246 {G : GW} {E : EE} {QL : Mem → State → Prop} {rt : Option FieldType} {L : Nat} {xs : Nat → Int32} (hG : ab_ok G) (hX : ab_X G E L xs) (hret : ∀ lv M, AWo G E code 4 QL 1343 lv [.int (1 : Int32)] M (some M)) {k18 : Int32 → Mem → Option Mem} (B : Bx G E RL code 4 2000 rt) (hk18 : ∀ (v3 : Int32) (M : Mem), AWo G E code 4 QL 18 [(0, .ref 2000), (1, .ref 0), (2, .ref 47), (3, .int v3)] [] M (k18 v3 M)) (v3 : Int32) (M : Mem) : AWo G E code 4 QL 246 [(0, .ref 2000), (1, .ref 0), (2, .ref 47), (3, .int v3)] [] M (f_law_b246 L xs k18 v3 M) := by
  unfold f_law_b246
  refine aw_aload_n (k0 := 1) B 1 (by decide +kernel) rfl rfl ?_
  refine aw_aload_n (k0 := 0) B 0 (by decide +kernel) rfl rfl ?_
  refine aw_iload_n (k0 := 3) B 3 (by decide +kernel) rfl rfl ?_
  refine aw_iconst (n := 1) (v := (1 : Int32)) B (by decide +kernel) (by decide) ?_
  refine aw_iadd B (by decide +kernel) ?_
  refine aw_xld hX B (by decide +kernel) ?_
  refine aw_aload_n (k0 := 0) B 0 (by decide +kernel) rfl rfl ?_
  refine aw_iload_n (k0 := 3) B 3 (by decide +kernel) rfl rfl ?_
  refine aw_iconst (n := 2) (v := (2 : Int32)) B (by decide +kernel) (by decide) ?_
  refine aw_iadd B (by decide +kernel) ?_
  refine aw_xld hX B (by decide +kernel) ?_
  refine aw_aload_n (k0 := 0) B 0 (by decide +kernel) rfl rfl ?_
  refine aw_iload_n (k0 := 3) B 3 (by decide +kernel) rfl rfl ?_
  refine aw_iconst (n := 3) (v := (3 : Int32)) B (by decide +kernel) (by decide) ?_
  refine aw_iadd B (by decide +kernel) ?_
  refine aw_xld hX B (by decide +kernel) ?_
  refine aw_cVI B (c_X10_matches (eLa E) hG (xs (v3 + (1 : Int32)).toNatClampNeg) (xs (v3 + (2 : Int32)).toNatClampNeg) (xs (v3 + (3 : Int32)).toNatClampNeg) M) cvL_22 rfl rfl (Nat.le_of_ble_eq_true rfl) rfl (Nat.le_of_ble_eq_true rfl) (by decide +kernel) rfl (fun x1 M2 => ?_)
  refine aw_aload_n (k0 := 2) B 2 (by decide +kernel) rfl rfl ?_
  refine aw_aload_n (k0 := 0) B 0 (by decide +kernel) rfl rfl ?_
  refine aw_iload_n (k0 := 3) B 3 (by decide +kernel) rfl rfl ?_
  refine aw_iconst (n := 1) (v := (1 : Int32)) B (by decide +kernel) (by decide) ?_
  refine aw_iadd B (by decide +kernel) ?_
  refine aw_xld hX B (by decide +kernel) ?_
  refine aw_aload_n (k0 := 0) B 0 (by decide +kernel) rfl rfl ?_
  refine aw_iload_n (k0 := 3) B 3 (by decide +kernel) rfl rfl ?_
  refine aw_iconst (n := 2) (v := (2 : Int32)) B (by decide +kernel) (by decide) ?_
  refine aw_iadd B (by decide +kernel) ?_
  refine aw_xld hX B (by decide +kernel) ?_
  refine aw_aload_n (k0 := 0) B 0 (by decide +kernel) rfl rfl ?_
  refine aw_iload_n (k0 := 3) B 3 (by decide +kernel) rfl rfl ?_
  refine aw_iconst (n := 3) (v := (3 : Int32)) B (by decide +kernel) (by decide) ?_
  refine aw_iadd B (by decide +kernel) ?_
  refine aw_xld hX B (by decide +kernel) ?_
  refine aw_cVI B (c_X11_matches (eLa E) hG (xs (v3 + (1 : Int32)).toNatClampNeg) (xs (v3 + (2 : Int32)).toNatClampNeg) (xs (v3 + (3 : Int32)).toNatClampNeg) M2) cvL_26 rfl rfl (Nat.le_of_ble_eq_true rfl) rfl (Nat.le_of_ble_eq_true rfl) (by decide +kernel) rfl (fun x3 M4 => ?_)
  refine aw_icmp_eq (off := 1052) B 1336 (by decide +kernel) (by decide) (fun _ => ?_) (fun _ => ?_)
  · exact w_law_b1336 hG hX hret B hk18 _ _
  · refine aw_iconst (n := 0) (v := (0 : Int32)) B (by decide +kernel) (by decide) ?_
    exact aw_none
def f_law_b223 (L : Nat) (xs : Nat → Int32) (k18 : Int32 → Mem → Option Mem) (v3 : Int32) (M : Mem) : Option Mem := ck (okX L (v3 + (1 : Int32))) (bI (f_X10_match (xs (v3 + (1 : Int32)).toNatClampNeg) M) fun x1 M2 => ck (okX L (v3 + (1 : Int32))) (bI (f_X11_match (xs (v3 + (1 : Int32)).toNatClampNeg) M2) fun x3 M4 => (if x1 = x3 then f_law_b1336 L xs k18 v3 M4 else none)))
set_option maxRecDepth 100000 in
set_option maxHeartbeats 4000000 in
theorem w_law_b223 {G : GW} {E : EE} {QL : Mem → State → Prop} {rt : Option FieldType} {L : Nat} {xs : Nat → Int32} (hG : ab_ok G) (hX : ab_X G E L xs) (hret : ∀ lv M, AWo G E code 4 QL 1343 lv [.int (1 : Int32)] M (some M)) {k18 : Int32 → Mem → Option Mem} (B : Bx G E RL code 4 2000 rt) (hk18 : ∀ (v3 : Int32) (M : Mem), AWo G E code 4 QL 18 [(0, .ref 2000), (1, .ref 0), (2, .ref 47), (3, .int v3)] [] M (k18 v3 M)) (v3 : Int32) (M : Mem) : AWo G E code 4 QL 223 [(0, .ref 2000), (1, .ref 0), (2, .ref 47), (3, .int v3)] [] M (f_law_b223 L xs k18 v3 M) := by
  unfold f_law_b223
  refine aw_aload_n (k0 := 1) B 1 (by decide +kernel) rfl rfl ?_
  refine aw_aload_n (k0 := 0) B 0 (by decide +kernel) rfl rfl ?_
  refine aw_iload_n (k0 := 3) B 3 (by decide +kernel) rfl rfl ?_
  refine aw_iconst (n := 1) (v := (1 : Int32)) B (by decide +kernel) (by decide) ?_
  refine aw_iadd B (by decide +kernel) ?_
  refine aw_xld hX B (by decide +kernel) ?_
  refine aw_cVI B (c_X10_match (eLa E) hG (xs (v3 + (1 : Int32)).toNatClampNeg) M) cvL_18 rfl rfl (Nat.le_of_ble_eq_true rfl) rfl (Nat.le_of_ble_eq_true rfl) (by decide +kernel) rfl (fun x1 M2 => ?_)
  refine aw_aload_n (k0 := 2) B 2 (by decide +kernel) rfl rfl ?_
  refine aw_aload_n (k0 := 0) B 0 (by decide +kernel) rfl rfl ?_
  refine aw_iload_n (k0 := 3) B 3 (by decide +kernel) rfl rfl ?_
  refine aw_iconst (n := 1) (v := (1 : Int32)) B (by decide +kernel) (by decide) ?_
  refine aw_iadd B (by decide +kernel) ?_
  refine aw_xld hX B (by decide +kernel) ?_
  refine aw_cVI B (c_X11_match (eLa E) hG (xs (v3 + (1 : Int32)).toNatClampNeg) M2) cvL_21 rfl rfl (Nat.le_of_ble_eq_true rfl) rfl (Nat.le_of_ble_eq_true rfl) (by decide +kernel) rfl (fun x3 M4 => ?_)
  refine aw_icmp_eq (off := 1095) B 1336 (by decide +kernel) (by decide) (fun _ => ?_) (fun _ => ?_)
  · exact w_law_b1336 hG hX hret B hk18 _ _
  · refine aw_iconst (n := 0) (v := (0 : Int32)) B (by decide +kernel) (by decide) ?_
    exact aw_none
def f_law_b200 (L : Nat) (xs : Nat → Int32) (k18 : Int32 → Mem → Option Mem) (v3 : Int32) (M : Mem) : Option Mem := ck (okX L (v3 + (1 : Int32))) (bI (f_X10_player (xs (v3 + (1 : Int32)).toNatClampNeg) M) fun x1 M2 => ck (okX L (v3 + (1 : Int32))) (bI (f_X11_player (xs (v3 + (1 : Int32)).toNatClampNeg) M2) fun x3 M4 => (if x1 = x3 then f_law_b1336 L xs k18 v3 M4 else none)))
set_option maxRecDepth 100000 in
set_option maxHeartbeats 4000000 in
theorem w_law_b200 {G : GW} {E : EE} {QL : Mem → State → Prop} {rt : Option FieldType} {L : Nat} {xs : Nat → Int32} (hG : ab_ok G) (hX : ab_X G E L xs) (hret : ∀ lv M, AWo G E code 4 QL 1343 lv [.int (1 : Int32)] M (some M)) {k18 : Int32 → Mem → Option Mem} (B : Bx G E RL code 4 2000 rt) (hk18 : ∀ (v3 : Int32) (M : Mem), AWo G E code 4 QL 18 [(0, .ref 2000), (1, .ref 0), (2, .ref 47), (3, .int v3)] [] M (k18 v3 M)) (v3 : Int32) (M : Mem) : AWo G E code 4 QL 200 [(0, .ref 2000), (1, .ref 0), (2, .ref 47), (3, .int v3)] [] M (f_law_b200 L xs k18 v3 M) := by
  unfold f_law_b200
  refine aw_aload_n (k0 := 1) B 1 (by decide +kernel) rfl rfl ?_
  refine aw_aload_n (k0 := 0) B 0 (by decide +kernel) rfl rfl ?_
  refine aw_iload_n (k0 := 3) B 3 (by decide +kernel) rfl rfl ?_
  refine aw_iconst (n := 1) (v := (1 : Int32)) B (by decide +kernel) (by decide) ?_
  refine aw_iadd B (by decide +kernel) ?_
  refine aw_xld hX B (by decide +kernel) ?_
  refine aw_cVI B (c_X10_player (eLa E) hG (xs (v3 + (1 : Int32)).toNatClampNeg) M) cvL_13 rfl rfl (Nat.le_of_ble_eq_true rfl) rfl (Nat.le_of_ble_eq_true rfl) (by decide +kernel) rfl (fun x1 M2 => ?_)
  refine aw_aload_n (k0 := 2) B 2 (by decide +kernel) rfl rfl ?_
  refine aw_aload_n (k0 := 0) B 0 (by decide +kernel) rfl rfl ?_
  refine aw_iload_n (k0 := 3) B 3 (by decide +kernel) rfl rfl ?_
  refine aw_iconst (n := 1) (v := (1 : Int32)) B (by decide +kernel) (by decide) ?_
  refine aw_iadd B (by decide +kernel) ?_
  refine aw_xld hX B (by decide +kernel) ?_
  refine aw_cVI B (c_X11_player (eLa E) hG (xs (v3 + (1 : Int32)).toNatClampNeg) M2) cvL_17 rfl rfl (Nat.le_of_ble_eq_true rfl) rfl (Nat.le_of_ble_eq_true rfl) (by decide +kernel) rfl (fun x3 M4 => ?_)
  refine aw_icmp_eq (off := 1118) B 1336 (by decide +kernel) (by decide) (fun _ => ?_) (fun _ => ?_)
  · exact w_law_b1336 hG hX hret B hk18 _ _
  · refine aw_iconst (n := 0) (v := (0 : Int32)) B (by decide +kernel) (by decide) ?_
    exact aw_none
def f_law_L18 (L : Nat) (xs : Nat → Int32) : Nat → Int32 → Mem → Option Mem
  | 0, _, _ => none
  | n + 1, v3, M => (if ((nI L) - (6 : Int32)) < v3 then (some M) else ck (okX L v3) ((if ((xs v3.toNatClampNeg) &&& (63 : Int32)) = (0 : Int32) then f_law_b200 L xs (fun a0 a1 => f_law_L18 L xs n a0 a1) v3 M else if ((xs v3.toNatClampNeg) &&& (63 : Int32)) = (1 : Int32) then f_law_b223 L xs (fun a0 a1 => f_law_L18 L xs n a0 a1) v3 M else if ((xs v3.toNatClampNeg) &&& (63 : Int32)) = (2 : Int32) then f_law_b246 L xs (fun a0 a1 => f_law_L18 L xs n a0 a1) v3 M else if ((xs v3.toNatClampNeg) &&& (63 : Int32)) = (3 : Int32) then f_law_b289 L xs (fun a0 a1 => f_law_L18 L xs n a0 a1) v3 M else if ((xs v3.toNatClampNeg) &&& (63 : Int32)) = (4 : Int32) then f_law_b332 L xs (fun a0 a1 => f_law_L18 L xs n a0 a1) v3 M else if ((xs v3.toNatClampNeg) &&& (63 : Int32)) = (5 : Int32) then f_law_b365 L xs (fun a0 a1 => f_law_L18 L xs n a0 a1) v3 M else if ((xs v3.toNatClampNeg) &&& (63 : Int32)) = (6 : Int32) then f_law_b388 L xs (fun a0 a1 => f_law_L18 L xs n a0 a1) v3 M else if ((xs v3.toNatClampNeg) &&& (63 : Int32)) = (7 : Int32) then f_law_b401 L xs (fun a0 a1 => f_law_L18 L xs n a0 a1) v3 M else if ((xs v3.toNatClampNeg) &&& (63 : Int32)) = (8 : Int32) then f_law_b424 L xs (fun a0 a1 => f_law_L18 L xs n a0 a1) v3 M else if ((xs v3.toNatClampNeg) &&& (63 : Int32)) = (9 : Int32) then f_law_b447 L xs (fun a0 a1 => f_law_L18 L xs n a0 a1) v3 M else if ((xs v3.toNatClampNeg) &&& (63 : Int32)) = (10 : Int32) then f_law_b470 L xs (fun a0 a1 => f_law_L18 L xs n a0 a1) v3 M else if ((xs v3.toNatClampNeg) &&& (63 : Int32)) = (11 : Int32) then f_law_b483 L xs (fun a0 a1 => f_law_L18 L xs n a0 a1) v3 M else if ((xs v3.toNatClampNeg) &&& (63 : Int32)) = (12 : Int32) then f_law_b496 L xs (fun a0 a1 => f_law_L18 L xs n a0 a1) v3 M else if ((xs v3.toNatClampNeg) &&& (63 : Int32)) = (13 : Int32) then f_law_b529 L xs (fun a0 a1 => f_law_L18 L xs n a0 a1) v3 M else if ((xs v3.toNatClampNeg) &&& (63 : Int32)) = (14 : Int32) then f_law_b552 L xs (fun a0 a1 => f_law_L18 L xs n a0 a1) v3 M else if ((xs v3.toNatClampNeg) &&& (63 : Int32)) = (15 : Int32) then f_law_b575 L xs (fun a0 a1 => f_law_L18 L xs n a0 a1) v3 M else if ((xs v3.toNatClampNeg) &&& (63 : Int32)) = (16 : Int32) then f_law_b608 L xs (fun a0 a1 => f_law_L18 L xs n a0 a1) v3 M else if ((xs v3.toNatClampNeg) &&& (63 : Int32)) = (17 : Int32) then f_law_b641 L xs (fun a0 a1 => f_law_L18 L xs n a0 a1) v3 M else if ((xs v3.toNatClampNeg) &&& (63 : Int32)) = (18 : Int32) then f_law_b664 L xs (fun a0 a1 => f_law_L18 L xs n a0 a1) v3 M else if ((xs v3.toNatClampNeg) &&& (63 : Int32)) = (19 : Int32) then f_law_b697 L xs (fun a0 a1 => f_law_L18 L xs n a0 a1) v3 M else if ((xs v3.toNatClampNeg) &&& (63 : Int32)) = (20 : Int32) then f_law_b720 L xs (fun a0 a1 => f_law_L18 L xs n a0 a1) v3 M else if ((xs v3.toNatClampNeg) &&& (63 : Int32)) = (21 : Int32) then f_law_b764 L xs (fun a0 a1 => f_law_L18 L xs n a0 a1) v3 M else if ((xs v3.toNatClampNeg) &&& (63 : Int32)) = (22 : Int32) then f_law_b787 L xs (fun a0 a1 => f_law_L18 L xs n a0 a1) v3 M else if ((xs v3.toNatClampNeg) &&& (63 : Int32)) = (23 : Int32) then f_law_b830 L xs (fun a0 a1 => f_law_L18 L xs n a0 a1) v3 M else if ((xs v3.toNatClampNeg) &&& (63 : Int32)) = (24 : Int32) then f_law_b853 L xs (fun a0 a1 => f_law_L18 L xs n a0 a1) v3 M else if ((xs v3.toNatClampNeg) &&& (63 : Int32)) = (25 : Int32) then f_law_b886 L xs (fun a0 a1 => f_law_L18 L xs n a0 a1) v3 M else if ((xs v3.toNatClampNeg) &&& (63 : Int32)) = (26 : Int32) then f_law_b919 L xs (fun a0 a1 => f_law_L18 L xs n a0 a1) v3 M else if ((xs v3.toNatClampNeg) &&& (63 : Int32)) = (27 : Int32) then f_law_b932 L xs (fun a0 a1 => f_law_L18 L xs n a0 a1) v3 M else if ((xs v3.toNatClampNeg) &&& (63 : Int32)) = (28 : Int32) then f_law_b945 L xs (fun a0 a1 => f_law_L18 L xs n a0 a1) v3 M else if ((xs v3.toNatClampNeg) &&& (63 : Int32)) = (29 : Int32) then f_law_b968 L xs (fun a0 a1 => f_law_L18 L xs n a0 a1) v3 M else if ((xs v3.toNatClampNeg) &&& (63 : Int32)) = (30 : Int32) then f_law_b1011 L xs (fun a0 a1 => f_law_L18 L xs n a0 a1) v3 M else if ((xs v3.toNatClampNeg) &&& (63 : Int32)) = (31 : Int32) then f_law_b1034 L xs (fun a0 a1 => f_law_L18 L xs n a0 a1) v3 M else if ((xs v3.toNatClampNeg) &&& (63 : Int32)) = (32 : Int32) then f_law_b1067 L xs (fun a0 a1 => f_law_L18 L xs n a0 a1) v3 M else if ((xs v3.toNatClampNeg) &&& (63 : Int32)) = (33 : Int32) then f_law_b1110 L xs (fun a0 a1 => f_law_L18 L xs n a0 a1) v3 M else if ((xs v3.toNatClampNeg) &&& (63 : Int32)) = (34 : Int32) then f_law_b1183 L xs (fun a0 a1 => f_law_L18 L xs n a0 a1) v3 M else if ((xs v3.toNatClampNeg) &&& (63 : Int32)) = (35 : Int32) then f_law_b1217 L xs (fun a0 a1 => f_law_L18 L xs n a0 a1) v3 M else if ((xs v3.toNatClampNeg) &&& (63 : Int32)) = (36 : Int32) then f_law_b1280 L xs (fun a0 a1 => f_law_L18 L xs n a0 a1) v3 M else if ((xs v3.toNatClampNeg) &&& (63 : Int32)) = (37 : Int32) then f_law_b1313 L xs (fun a0 a1 => f_law_L18 L xs n a0 a1) v3 M else f_law_b1336 L xs (fun a0 a1 => f_law_L18 L xs n a0 a1) v3 M)))
set_option maxRecDepth 100000 in
set_option maxHeartbeats 4000000 in
theorem w_law_L18 {G : GW} {E : EE} {QL : Mem → State → Prop} {rt : Option FieldType} {L : Nat} {xs : Nat → Int32} (hG : ab_ok G) (hX : ab_X G E L xs) (hret : ∀ lv M, AWo G E code 4 QL 1343 lv [.int (1 : Int32)] M (some M)) (B : Bx G E RL code 4 2000 rt) : ∀ (n : Nat) (v3 : Int32) (M : Mem), AWo G E code 4 QL 18 [(0, .ref 2000), (1, .ref 0), (2, .ref 47), (3, .int v3)] [] M (f_law_L18 L xs n v3 M) := by
  intro n
  induction n with
  | zero => intro _ _; exact aw_none
  | succ n ih =>
    intro v3 M
    rw [f_law_L18]
    refine aw_iload_n (k0 := 3) B 3 (by decide +kernel) rfl rfl ?_
    refine aw_aload_n (k0 := 0) B 0 (by decide +kernel) rfl rfl ?_
    refine aw_xlen hX B (by decide +kernel) ?_
    refine aw_bipush (n := 6) (v := (6 : Int32)) B (by decide +kernel) (by decide) ?_
    refine aw_isub B (by decide +kernel) ?_
    refine aw_icmp_gt (off := 1318) B 1342 (by decide +kernel) (by decide) (fun _ => ?_) (fun _ => ?_)
    · refine aw_iconst (n := 1) (v := (1 : Int32)) B (by decide +kernel) (by decide) ?_
      exact hret _ _
    · refine aw_aload_n (k0 := 0) B 0 (by decide +kernel) rfl rfl ?_
      refine aw_iload_n (k0 := 3) B 3 (by decide +kernel) rfl rfl ?_
      refine aw_xld hX B (by decide +kernel) ?_
      refine aw_bipush (n := 63) (v := (63 : Int32)) B (by decide +kernel) (by decide) ?_
      refine aw_iand B (by decide +kernel) ?_
      refine aw_ite (fun h33_0 => ?_) (fun h33_0 => ?_)
      · refine aw_tin (k0 := (0 : Int32)) (dflt := 1303) (lo := 0) (hi := 37) (offs := #[167, 190, 213, 256, 299, 332, 355, 368, 391, 414, 437, 450, 463, 496, 519, 542, 575, 608, 631, 664, 687, 731, 754, 797, 820, 853, 886, 899, 912, 935, 978, 1001, 1034, 1077, 1150, 1184, 1247, 1280]) (len := 167) (off := 167) B 200 (by decide +kernel) h33_0 (by decide) (by decide) (by decide +kernel) (by decide) ?_
        exact w_law_b200 hG hX hret B ih _ _
      refine aw_ite (fun h33_1 => ?_) (fun h33_1 => ?_)
      · refine aw_tin (k0 := (1 : Int32)) (dflt := 1303) (lo := 0) (hi := 37) (offs := #[167, 190, 213, 256, 299, 332, 355, 368, 391, 414, 437, 450, 463, 496, 519, 542, 575, 608, 631, 664, 687, 731, 754, 797, 820, 853, 886, 899, 912, 935, 978, 1001, 1034, 1077, 1150, 1184, 1247, 1280]) (len := 167) (off := 190) B 223 (by decide +kernel) h33_1 (by decide) (by decide) (by decide +kernel) (by decide) ?_
        exact w_law_b223 hG hX hret B ih _ _
      refine aw_ite (fun h33_2 => ?_) (fun h33_2 => ?_)
      · refine aw_tin (k0 := (2 : Int32)) (dflt := 1303) (lo := 0) (hi := 37) (offs := #[167, 190, 213, 256, 299, 332, 355, 368, 391, 414, 437, 450, 463, 496, 519, 542, 575, 608, 631, 664, 687, 731, 754, 797, 820, 853, 886, 899, 912, 935, 978, 1001, 1034, 1077, 1150, 1184, 1247, 1280]) (len := 167) (off := 213) B 246 (by decide +kernel) h33_2 (by decide) (by decide) (by decide +kernel) (by decide) ?_
        exact w_law_b246 hG hX hret B ih _ _
      refine aw_ite (fun h33_3 => ?_) (fun h33_3 => ?_)
      · refine aw_tin (k0 := (3 : Int32)) (dflt := 1303) (lo := 0) (hi := 37) (offs := #[167, 190, 213, 256, 299, 332, 355, 368, 391, 414, 437, 450, 463, 496, 519, 542, 575, 608, 631, 664, 687, 731, 754, 797, 820, 853, 886, 899, 912, 935, 978, 1001, 1034, 1077, 1150, 1184, 1247, 1280]) (len := 167) (off := 256) B 289 (by decide +kernel) h33_3 (by decide) (by decide) (by decide +kernel) (by decide) ?_
        exact w_law_b289 hG hX hret B ih _ _
      refine aw_ite (fun h33_4 => ?_) (fun h33_4 => ?_)
      · refine aw_tin (k0 := (4 : Int32)) (dflt := 1303) (lo := 0) (hi := 37) (offs := #[167, 190, 213, 256, 299, 332, 355, 368, 391, 414, 437, 450, 463, 496, 519, 542, 575, 608, 631, 664, 687, 731, 754, 797, 820, 853, 886, 899, 912, 935, 978, 1001, 1034, 1077, 1150, 1184, 1247, 1280]) (len := 167) (off := 299) B 332 (by decide +kernel) h33_4 (by decide) (by decide) (by decide +kernel) (by decide) ?_
        exact w_law_b332 hG hX hret B ih _ _
      refine aw_ite (fun h33_5 => ?_) (fun h33_5 => ?_)
      · refine aw_tin (k0 := (5 : Int32)) (dflt := 1303) (lo := 0) (hi := 37) (offs := #[167, 190, 213, 256, 299, 332, 355, 368, 391, 414, 437, 450, 463, 496, 519, 542, 575, 608, 631, 664, 687, 731, 754, 797, 820, 853, 886, 899, 912, 935, 978, 1001, 1034, 1077, 1150, 1184, 1247, 1280]) (len := 167) (off := 332) B 365 (by decide +kernel) h33_5 (by decide) (by decide) (by decide +kernel) (by decide) ?_
        exact w_law_b365 hG hX hret B ih _ _
      refine aw_ite (fun h33_6 => ?_) (fun h33_6 => ?_)
      · refine aw_tin (k0 := (6 : Int32)) (dflt := 1303) (lo := 0) (hi := 37) (offs := #[167, 190, 213, 256, 299, 332, 355, 368, 391, 414, 437, 450, 463, 496, 519, 542, 575, 608, 631, 664, 687, 731, 754, 797, 820, 853, 886, 899, 912, 935, 978, 1001, 1034, 1077, 1150, 1184, 1247, 1280]) (len := 167) (off := 355) B 388 (by decide +kernel) h33_6 (by decide) (by decide) (by decide +kernel) (by decide) ?_
        exact w_law_b388 hG hX hret B ih _ _
      refine aw_ite (fun h33_7 => ?_) (fun h33_7 => ?_)
      · refine aw_tin (k0 := (7 : Int32)) (dflt := 1303) (lo := 0) (hi := 37) (offs := #[167, 190, 213, 256, 299, 332, 355, 368, 391, 414, 437, 450, 463, 496, 519, 542, 575, 608, 631, 664, 687, 731, 754, 797, 820, 853, 886, 899, 912, 935, 978, 1001, 1034, 1077, 1150, 1184, 1247, 1280]) (len := 167) (off := 368) B 401 (by decide +kernel) h33_7 (by decide) (by decide) (by decide +kernel) (by decide) ?_
        exact w_law_b401 hG hX hret B ih _ _
      refine aw_ite (fun h33_8 => ?_) (fun h33_8 => ?_)
      · refine aw_tin (k0 := (8 : Int32)) (dflt := 1303) (lo := 0) (hi := 37) (offs := #[167, 190, 213, 256, 299, 332, 355, 368, 391, 414, 437, 450, 463, 496, 519, 542, 575, 608, 631, 664, 687, 731, 754, 797, 820, 853, 886, 899, 912, 935, 978, 1001, 1034, 1077, 1150, 1184, 1247, 1280]) (len := 167) (off := 391) B 424 (by decide +kernel) h33_8 (by decide) (by decide) (by decide +kernel) (by decide) ?_
        exact w_law_b424 hG hX hret B ih _ _
      refine aw_ite (fun h33_9 => ?_) (fun h33_9 => ?_)
      · refine aw_tin (k0 := (9 : Int32)) (dflt := 1303) (lo := 0) (hi := 37) (offs := #[167, 190, 213, 256, 299, 332, 355, 368, 391, 414, 437, 450, 463, 496, 519, 542, 575, 608, 631, 664, 687, 731, 754, 797, 820, 853, 886, 899, 912, 935, 978, 1001, 1034, 1077, 1150, 1184, 1247, 1280]) (len := 167) (off := 414) B 447 (by decide +kernel) h33_9 (by decide) (by decide) (by decide +kernel) (by decide) ?_
        exact w_law_b447 hG hX hret B ih _ _
      refine aw_ite (fun h33_10 => ?_) (fun h33_10 => ?_)
      · refine aw_tin (k0 := (10 : Int32)) (dflt := 1303) (lo := 0) (hi := 37) (offs := #[167, 190, 213, 256, 299, 332, 355, 368, 391, 414, 437, 450, 463, 496, 519, 542, 575, 608, 631, 664, 687, 731, 754, 797, 820, 853, 886, 899, 912, 935, 978, 1001, 1034, 1077, 1150, 1184, 1247, 1280]) (len := 167) (off := 437) B 470 (by decide +kernel) h33_10 (by decide) (by decide) (by decide +kernel) (by decide) ?_
        exact w_law_b470 hG hX hret B ih _ _
      refine aw_ite (fun h33_11 => ?_) (fun h33_11 => ?_)
      · refine aw_tin (k0 := (11 : Int32)) (dflt := 1303) (lo := 0) (hi := 37) (offs := #[167, 190, 213, 256, 299, 332, 355, 368, 391, 414, 437, 450, 463, 496, 519, 542, 575, 608, 631, 664, 687, 731, 754, 797, 820, 853, 886, 899, 912, 935, 978, 1001, 1034, 1077, 1150, 1184, 1247, 1280]) (len := 167) (off := 450) B 483 (by decide +kernel) h33_11 (by decide) (by decide) (by decide +kernel) (by decide) ?_
        exact w_law_b483 hG hX hret B ih _ _
      refine aw_ite (fun h33_12 => ?_) (fun h33_12 => ?_)
      · refine aw_tin (k0 := (12 : Int32)) (dflt := 1303) (lo := 0) (hi := 37) (offs := #[167, 190, 213, 256, 299, 332, 355, 368, 391, 414, 437, 450, 463, 496, 519, 542, 575, 608, 631, 664, 687, 731, 754, 797, 820, 853, 886, 899, 912, 935, 978, 1001, 1034, 1077, 1150, 1184, 1247, 1280]) (len := 167) (off := 463) B 496 (by decide +kernel) h33_12 (by decide) (by decide) (by decide +kernel) (by decide) ?_
        exact w_law_b496 hG hX hret B ih _ _
      refine aw_ite (fun h33_13 => ?_) (fun h33_13 => ?_)
      · refine aw_tin (k0 := (13 : Int32)) (dflt := 1303) (lo := 0) (hi := 37) (offs := #[167, 190, 213, 256, 299, 332, 355, 368, 391, 414, 437, 450, 463, 496, 519, 542, 575, 608, 631, 664, 687, 731, 754, 797, 820, 853, 886, 899, 912, 935, 978, 1001, 1034, 1077, 1150, 1184, 1247, 1280]) (len := 167) (off := 496) B 529 (by decide +kernel) h33_13 (by decide) (by decide) (by decide +kernel) (by decide) ?_
        exact w_law_b529 hG hX hret B ih _ _
      refine aw_ite (fun h33_14 => ?_) (fun h33_14 => ?_)
      · refine aw_tin (k0 := (14 : Int32)) (dflt := 1303) (lo := 0) (hi := 37) (offs := #[167, 190, 213, 256, 299, 332, 355, 368, 391, 414, 437, 450, 463, 496, 519, 542, 575, 608, 631, 664, 687, 731, 754, 797, 820, 853, 886, 899, 912, 935, 978, 1001, 1034, 1077, 1150, 1184, 1247, 1280]) (len := 167) (off := 519) B 552 (by decide +kernel) h33_14 (by decide) (by decide) (by decide +kernel) (by decide) ?_
        exact w_law_b552 hG hX hret B ih _ _
      refine aw_ite (fun h33_15 => ?_) (fun h33_15 => ?_)
      · refine aw_tin (k0 := (15 : Int32)) (dflt := 1303) (lo := 0) (hi := 37) (offs := #[167, 190, 213, 256, 299, 332, 355, 368, 391, 414, 437, 450, 463, 496, 519, 542, 575, 608, 631, 664, 687, 731, 754, 797, 820, 853, 886, 899, 912, 935, 978, 1001, 1034, 1077, 1150, 1184, 1247, 1280]) (len := 167) (off := 542) B 575 (by decide +kernel) h33_15 (by decide) (by decide) (by decide +kernel) (by decide) ?_
        exact w_law_b575 hG hX hret B ih _ _
      refine aw_ite (fun h33_16 => ?_) (fun h33_16 => ?_)
      · refine aw_tin (k0 := (16 : Int32)) (dflt := 1303) (lo := 0) (hi := 37) (offs := #[167, 190, 213, 256, 299, 332, 355, 368, 391, 414, 437, 450, 463, 496, 519, 542, 575, 608, 631, 664, 687, 731, 754, 797, 820, 853, 886, 899, 912, 935, 978, 1001, 1034, 1077, 1150, 1184, 1247, 1280]) (len := 167) (off := 575) B 608 (by decide +kernel) h33_16 (by decide) (by decide) (by decide +kernel) (by decide) ?_
        exact w_law_b608 hG hX hret B ih _ _
      refine aw_ite (fun h33_17 => ?_) (fun h33_17 => ?_)
      · refine aw_tin (k0 := (17 : Int32)) (dflt := 1303) (lo := 0) (hi := 37) (offs := #[167, 190, 213, 256, 299, 332, 355, 368, 391, 414, 437, 450, 463, 496, 519, 542, 575, 608, 631, 664, 687, 731, 754, 797, 820, 853, 886, 899, 912, 935, 978, 1001, 1034, 1077, 1150, 1184, 1247, 1280]) (len := 167) (off := 608) B 641 (by decide +kernel) h33_17 (by decide) (by decide) (by decide +kernel) (by decide) ?_
        exact w_law_b641 hG hX hret B ih _ _
      refine aw_ite (fun h33_18 => ?_) (fun h33_18 => ?_)
      · refine aw_tin (k0 := (18 : Int32)) (dflt := 1303) (lo := 0) (hi := 37) (offs := #[167, 190, 213, 256, 299, 332, 355, 368, 391, 414, 437, 450, 463, 496, 519, 542, 575, 608, 631, 664, 687, 731, 754, 797, 820, 853, 886, 899, 912, 935, 978, 1001, 1034, 1077, 1150, 1184, 1247, 1280]) (len := 167) (off := 631) B 664 (by decide +kernel) h33_18 (by decide) (by decide) (by decide +kernel) (by decide) ?_
        exact w_law_b664 hG hX hret B ih _ _
      refine aw_ite (fun h33_19 => ?_) (fun h33_19 => ?_)
      · refine aw_tin (k0 := (19 : Int32)) (dflt := 1303) (lo := 0) (hi := 37) (offs := #[167, 190, 213, 256, 299, 332, 355, 368, 391, 414, 437, 450, 463, 496, 519, 542, 575, 608, 631, 664, 687, 731, 754, 797, 820, 853, 886, 899, 912, 935, 978, 1001, 1034, 1077, 1150, 1184, 1247, 1280]) (len := 167) (off := 664) B 697 (by decide +kernel) h33_19 (by decide) (by decide) (by decide +kernel) (by decide) ?_
        exact w_law_b697 hG hX hret B ih _ _
      refine aw_ite (fun h33_20 => ?_) (fun h33_20 => ?_)
      · refine aw_tin (k0 := (20 : Int32)) (dflt := 1303) (lo := 0) (hi := 37) (offs := #[167, 190, 213, 256, 299, 332, 355, 368, 391, 414, 437, 450, 463, 496, 519, 542, 575, 608, 631, 664, 687, 731, 754, 797, 820, 853, 886, 899, 912, 935, 978, 1001, 1034, 1077, 1150, 1184, 1247, 1280]) (len := 167) (off := 687) B 720 (by decide +kernel) h33_20 (by decide) (by decide) (by decide +kernel) (by decide) ?_
        exact w_law_b720 hG hX hret B ih _ _
      refine aw_ite (fun h33_21 => ?_) (fun h33_21 => ?_)
      · refine aw_tin (k0 := (21 : Int32)) (dflt := 1303) (lo := 0) (hi := 37) (offs := #[167, 190, 213, 256, 299, 332, 355, 368, 391, 414, 437, 450, 463, 496, 519, 542, 575, 608, 631, 664, 687, 731, 754, 797, 820, 853, 886, 899, 912, 935, 978, 1001, 1034, 1077, 1150, 1184, 1247, 1280]) (len := 167) (off := 731) B 764 (by decide +kernel) h33_21 (by decide) (by decide) (by decide +kernel) (by decide) ?_
        exact w_law_b764 hG hX hret B ih _ _
      refine aw_ite (fun h33_22 => ?_) (fun h33_22 => ?_)
      · refine aw_tin (k0 := (22 : Int32)) (dflt := 1303) (lo := 0) (hi := 37) (offs := #[167, 190, 213, 256, 299, 332, 355, 368, 391, 414, 437, 450, 463, 496, 519, 542, 575, 608, 631, 664, 687, 731, 754, 797, 820, 853, 886, 899, 912, 935, 978, 1001, 1034, 1077, 1150, 1184, 1247, 1280]) (len := 167) (off := 754) B 787 (by decide +kernel) h33_22 (by decide) (by decide) (by decide +kernel) (by decide) ?_
        exact w_law_b787 hG hX hret B ih _ _
      refine aw_ite (fun h33_23 => ?_) (fun h33_23 => ?_)
      · refine aw_tin (k0 := (23 : Int32)) (dflt := 1303) (lo := 0) (hi := 37) (offs := #[167, 190, 213, 256, 299, 332, 355, 368, 391, 414, 437, 450, 463, 496, 519, 542, 575, 608, 631, 664, 687, 731, 754, 797, 820, 853, 886, 899, 912, 935, 978, 1001, 1034, 1077, 1150, 1184, 1247, 1280]) (len := 167) (off := 797) B 830 (by decide +kernel) h33_23 (by decide) (by decide) (by decide +kernel) (by decide) ?_
        exact w_law_b830 hG hX hret B ih _ _
      refine aw_ite (fun h33_24 => ?_) (fun h33_24 => ?_)
      · refine aw_tin (k0 := (24 : Int32)) (dflt := 1303) (lo := 0) (hi := 37) (offs := #[167, 190, 213, 256, 299, 332, 355, 368, 391, 414, 437, 450, 463, 496, 519, 542, 575, 608, 631, 664, 687, 731, 754, 797, 820, 853, 886, 899, 912, 935, 978, 1001, 1034, 1077, 1150, 1184, 1247, 1280]) (len := 167) (off := 820) B 853 (by decide +kernel) h33_24 (by decide) (by decide) (by decide +kernel) (by decide) ?_
        exact w_law_b853 hG hX hret B ih _ _
      refine aw_ite (fun h33_25 => ?_) (fun h33_25 => ?_)
      · refine aw_tin (k0 := (25 : Int32)) (dflt := 1303) (lo := 0) (hi := 37) (offs := #[167, 190, 213, 256, 299, 332, 355, 368, 391, 414, 437, 450, 463, 496, 519, 542, 575, 608, 631, 664, 687, 731, 754, 797, 820, 853, 886, 899, 912, 935, 978, 1001, 1034, 1077, 1150, 1184, 1247, 1280]) (len := 167) (off := 853) B 886 (by decide +kernel) h33_25 (by decide) (by decide) (by decide +kernel) (by decide) ?_
        exact w_law_b886 hG hX hret B ih _ _
      refine aw_ite (fun h33_26 => ?_) (fun h33_26 => ?_)
      · refine aw_tin (k0 := (26 : Int32)) (dflt := 1303) (lo := 0) (hi := 37) (offs := #[167, 190, 213, 256, 299, 332, 355, 368, 391, 414, 437, 450, 463, 496, 519, 542, 575, 608, 631, 664, 687, 731, 754, 797, 820, 853, 886, 899, 912, 935, 978, 1001, 1034, 1077, 1150, 1184, 1247, 1280]) (len := 167) (off := 886) B 919 (by decide +kernel) h33_26 (by decide) (by decide) (by decide +kernel) (by decide) ?_
        exact w_law_b919 hG hX hret B ih _ _
      refine aw_ite (fun h33_27 => ?_) (fun h33_27 => ?_)
      · refine aw_tin (k0 := (27 : Int32)) (dflt := 1303) (lo := 0) (hi := 37) (offs := #[167, 190, 213, 256, 299, 332, 355, 368, 391, 414, 437, 450, 463, 496, 519, 542, 575, 608, 631, 664, 687, 731, 754, 797, 820, 853, 886, 899, 912, 935, 978, 1001, 1034, 1077, 1150, 1184, 1247, 1280]) (len := 167) (off := 899) B 932 (by decide +kernel) h33_27 (by decide) (by decide) (by decide +kernel) (by decide) ?_
        exact w_law_b932 hG hX hret B ih _ _
      refine aw_ite (fun h33_28 => ?_) (fun h33_28 => ?_)
      · refine aw_tin (k0 := (28 : Int32)) (dflt := 1303) (lo := 0) (hi := 37) (offs := #[167, 190, 213, 256, 299, 332, 355, 368, 391, 414, 437, 450, 463, 496, 519, 542, 575, 608, 631, 664, 687, 731, 754, 797, 820, 853, 886, 899, 912, 935, 978, 1001, 1034, 1077, 1150, 1184, 1247, 1280]) (len := 167) (off := 912) B 945 (by decide +kernel) h33_28 (by decide) (by decide) (by decide +kernel) (by decide) ?_
        exact w_law_b945 hG hX hret B ih _ _
      refine aw_ite (fun h33_29 => ?_) (fun h33_29 => ?_)
      · refine aw_tin (k0 := (29 : Int32)) (dflt := 1303) (lo := 0) (hi := 37) (offs := #[167, 190, 213, 256, 299, 332, 355, 368, 391, 414, 437, 450, 463, 496, 519, 542, 575, 608, 631, 664, 687, 731, 754, 797, 820, 853, 886, 899, 912, 935, 978, 1001, 1034, 1077, 1150, 1184, 1247, 1280]) (len := 167) (off := 935) B 968 (by decide +kernel) h33_29 (by decide) (by decide) (by decide +kernel) (by decide) ?_
        exact w_law_b968 hG hX hret B ih _ _
      refine aw_ite (fun h33_30 => ?_) (fun h33_30 => ?_)
      · refine aw_tin (k0 := (30 : Int32)) (dflt := 1303) (lo := 0) (hi := 37) (offs := #[167, 190, 213, 256, 299, 332, 355, 368, 391, 414, 437, 450, 463, 496, 519, 542, 575, 608, 631, 664, 687, 731, 754, 797, 820, 853, 886, 899, 912, 935, 978, 1001, 1034, 1077, 1150, 1184, 1247, 1280]) (len := 167) (off := 978) B 1011 (by decide +kernel) h33_30 (by decide) (by decide) (by decide +kernel) (by decide) ?_
        exact w_law_b1011 hG hX hret B ih _ _
      refine aw_ite (fun h33_31 => ?_) (fun h33_31 => ?_)
      · refine aw_tin (k0 := (31 : Int32)) (dflt := 1303) (lo := 0) (hi := 37) (offs := #[167, 190, 213, 256, 299, 332, 355, 368, 391, 414, 437, 450, 463, 496, 519, 542, 575, 608, 631, 664, 687, 731, 754, 797, 820, 853, 886, 899, 912, 935, 978, 1001, 1034, 1077, 1150, 1184, 1247, 1280]) (len := 167) (off := 1001) B 1034 (by decide +kernel) h33_31 (by decide) (by decide) (by decide +kernel) (by decide) ?_
        exact w_law_b1034 hG hX hret B ih _ _
      refine aw_ite (fun h33_32 => ?_) (fun h33_32 => ?_)
      · refine aw_tin (k0 := (32 : Int32)) (dflt := 1303) (lo := 0) (hi := 37) (offs := #[167, 190, 213, 256, 299, 332, 355, 368, 391, 414, 437, 450, 463, 496, 519, 542, 575, 608, 631, 664, 687, 731, 754, 797, 820, 853, 886, 899, 912, 935, 978, 1001, 1034, 1077, 1150, 1184, 1247, 1280]) (len := 167) (off := 1034) B 1067 (by decide +kernel) h33_32 (by decide) (by decide) (by decide +kernel) (by decide) ?_
        exact w_law_b1067 hG hX hret B ih _ _
      refine aw_ite (fun h33_33 => ?_) (fun h33_33 => ?_)
      · refine aw_tin (k0 := (33 : Int32)) (dflt := 1303) (lo := 0) (hi := 37) (offs := #[167, 190, 213, 256, 299, 332, 355, 368, 391, 414, 437, 450, 463, 496, 519, 542, 575, 608, 631, 664, 687, 731, 754, 797, 820, 853, 886, 899, 912, 935, 978, 1001, 1034, 1077, 1150, 1184, 1247, 1280]) (len := 167) (off := 1077) B 1110 (by decide +kernel) h33_33 (by decide) (by decide) (by decide +kernel) (by decide) ?_
        exact w_law_b1110 hG hX hret B ih _ _
      refine aw_ite (fun h33_34 => ?_) (fun h33_34 => ?_)
      · refine aw_tin (k0 := (34 : Int32)) (dflt := 1303) (lo := 0) (hi := 37) (offs := #[167, 190, 213, 256, 299, 332, 355, 368, 391, 414, 437, 450, 463, 496, 519, 542, 575, 608, 631, 664, 687, 731, 754, 797, 820, 853, 886, 899, 912, 935, 978, 1001, 1034, 1077, 1150, 1184, 1247, 1280]) (len := 167) (off := 1150) B 1183 (by decide +kernel) h33_34 (by decide) (by decide) (by decide +kernel) (by decide) ?_
        exact w_law_b1183 hG hX hret B ih _ _
      refine aw_ite (fun h33_35 => ?_) (fun h33_35 => ?_)
      · refine aw_tin (k0 := (35 : Int32)) (dflt := 1303) (lo := 0) (hi := 37) (offs := #[167, 190, 213, 256, 299, 332, 355, 368, 391, 414, 437, 450, 463, 496, 519, 542, 575, 608, 631, 664, 687, 731, 754, 797, 820, 853, 886, 899, 912, 935, 978, 1001, 1034, 1077, 1150, 1184, 1247, 1280]) (len := 167) (off := 1184) B 1217 (by decide +kernel) h33_35 (by decide) (by decide) (by decide +kernel) (by decide) ?_
        exact w_law_b1217 hG hX hret B ih _ _
      refine aw_ite (fun h33_36 => ?_) (fun h33_36 => ?_)
      · refine aw_tin (k0 := (36 : Int32)) (dflt := 1303) (lo := 0) (hi := 37) (offs := #[167, 190, 213, 256, 299, 332, 355, 368, 391, 414, 437, 450, 463, 496, 519, 542, 575, 608, 631, 664, 687, 731, 754, 797, 820, 853, 886, 899, 912, 935, 978, 1001, 1034, 1077, 1150, 1184, 1247, 1280]) (len := 167) (off := 1247) B 1280 (by decide +kernel) h33_36 (by decide) (by decide) (by decide +kernel) (by decide) ?_
        exact w_law_b1280 hG hX hret B ih _ _
      refine aw_ite (fun h33_37 => ?_) (fun h33_37 => ?_)
      · refine aw_tin (k0 := (37 : Int32)) (dflt := 1303) (lo := 0) (hi := 37) (offs := #[167, 190, 213, 256, 299, 332, 355, 368, 391, 414, 437, 450, 463, 496, 519, 542, 575, 608, 631, 664, 687, 731, 754, 797, 820, 853, 886, 899, 912, 935, 978, 1001, 1034, 1077, 1150, 1184, 1247, 1280]) (len := 167) (off := 1280) B 1313 (by decide +kernel) h33_37 (by decide) (by decide) (by decide +kernel) (by decide) ?_
        exact w_law_b1313 hG hX hret B ih _ _
      · refine aw_tout (dflt := 1303) (lo := 0) (hi := 37) (offs := #[167, 190, 213, 256, 299, 332, 355, 368, 391, 414, 437, 450, 463, 496, 519, 542, 575, 608, 631, 664, 687, 731, 754, 797, 820, 853, 886, 899, 912, 935, 978, 1001, 1034, 1077, 1150, 1184, 1247, 1280]) (len := 167) B 1336 (by decide +kernel) (by have qh33_0 := lv_neT (a := 0) h33_0 (by decide); have qh33_1 := lv_neT (a := 1) h33_1 (by decide); have qh33_2 := lv_neT (a := 2) h33_2 (by decide); have qh33_3 := lv_neT (a := 3) h33_3 (by decide); have qh33_4 := lv_neT (a := 4) h33_4 (by decide); have qh33_5 := lv_neT (a := 5) h33_5 (by decide); have qh33_6 := lv_neT (a := 6) h33_6 (by decide); have qh33_7 := lv_neT (a := 7) h33_7 (by decide); have qh33_8 := lv_neT (a := 8) h33_8 (by decide); have qh33_9 := lv_neT (a := 9) h33_9 (by decide); have qh33_10 := lv_neT (a := 10) h33_10 (by decide); have qh33_11 := lv_neT (a := 11) h33_11 (by decide); have qh33_12 := lv_neT (a := 12) h33_12 (by decide); have qh33_13 := lv_neT (a := 13) h33_13 (by decide); have qh33_14 := lv_neT (a := 14) h33_14 (by decide); have qh33_15 := lv_neT (a := 15) h33_15 (by decide); have qh33_16 := lv_neT (a := 16) h33_16 (by decide); have qh33_17 := lv_neT (a := 17) h33_17 (by decide); have qh33_18 := lv_neT (a := 18) h33_18 (by decide); have qh33_19 := lv_neT (a := 19) h33_19 (by decide); have qh33_20 := lv_neT (a := 20) h33_20 (by decide); have qh33_21 := lv_neT (a := 21) h33_21 (by decide); have qh33_22 := lv_neT (a := 22) h33_22 (by decide); have qh33_23 := lv_neT (a := 23) h33_23 (by decide); have qh33_24 := lv_neT (a := 24) h33_24 (by decide); have qh33_25 := lv_neT (a := 25) h33_25 (by decide); have qh33_26 := lv_neT (a := 26) h33_26 (by decide); have qh33_27 := lv_neT (a := 27) h33_27 (by decide); have qh33_28 := lv_neT (a := 28) h33_28 (by decide); have qh33_29 := lv_neT (a := 29) h33_29 (by decide); have qh33_30 := lv_neT (a := 30) h33_30 (by decide); have qh33_31 := lv_neT (a := 31) h33_31 (by decide); have qh33_32 := lv_neT (a := 32) h33_32 (by decide); have qh33_33 := lv_neT (a := 33) h33_33 (by decide); have qh33_34 := lv_neT (a := 34) h33_34 (by decide); have qh33_35 := lv_neT (a := 35) h33_35 (by decide); have qh33_36 := lv_neT (a := 36) h33_36 (by decide); have qh33_37 := lv_neT (a := 37) h33_37 (by decide); omega) (by decide) ?_
        exact w_law_b1336 hG hX hret B ih _ _
