def f_X11_takesIn_b231 (M : Mem) : Option Mem := lt (wI M 47 22 ((M.1 47 22) + (1 : Int32))) fun M1 => (some M1)
set_option maxRecDepth 100000 in
set_option maxHeartbeats 4000000 in
theorem w_X11_takesIn_b231 {G : GW} {E : EE} (hG : ab_ok G) (B : Bx G E RX11 cX11_takesIn 3 3 none) (M : Mem) : AWo G E cX11_takesIn 3 (ab_Q G E embV) 231 [(0, .ref 47)] [] M (f_X11_takesIn_b231 M) := by
  unfold f_X11_takesIn_b231
  refine aw_aload_n (k0 := 0) B 0 (by decide +kernel) rfl rfl ?_
  refine aw_dup B (by decide +kernel) rfl ?_
  refine aw_geti (c := 47) B lkX11_225 (by decide +kernel) rfl ?_
  refine aw_iconst (n := 1) (v := (1 : Int32)) B (by decide +kernel) (by decide) ?_
  refine aw_iadd B (by decide +kernel) ?_
  refine aw_puti (c := 47) B lkX11_225 lp11_22 (by decide +kernel) rfl (fun M1 => ?_)
  exact aw_vreturn B (by decide +kernel) rfl
def f_X11_takesIn_b230 (s0 : Int32) (s1 : Int32) (M : Mem) : Option Mem := ck (okI 64 s1) (lt (wI M 64 s1.toNatClampNeg s0) fun M1 => f_X11_takesIn_b231 M1)
set_option maxRecDepth 100000 in
set_option maxHeartbeats 4000000 in
theorem w_X11_takesIn_b230 {G : GW} {E : EE} (hG : ab_ok G) (B : Bx G E RX11 cX11_takesIn 3 3 none) (s0 : Int32) (s1 : Int32) (M : Mem) : AWo G E cX11_takesIn 3 (ab_Q G E embV) 230 [(0, .ref 47)] [.int s0, .int s1, .ref 64] M (f_X11_takesIn_b230 s0 s1 M) := by
  unfold f_X11_takesIn_b230
  refine aw_iastore B (by decide +kernel) (fun M1 => ?_)
  exact w_X11_takesIn_b231 hG B _
def f_X11_takesIn_L170 : Nat → Int32 → Mem → Option Mem
  | 0, _, _ => none
  | n + 1, v1, M => (if (M.1 47 6) ≤ v1 then (if (M.1 47 28) = (4 : Int32) then f_X11_takesIn_b230 (M.1 47 22) (M.1 47 22) M else (f_X11_codeNow M).bind fun x1 => f_X11_takesIn_b230 x1 (M.1 47 22) M) else ck (okI 58 v1) (ck (okI 63 (((4 : Int32) * (M.1 47 22)) + (M.1 58 v1.toNatClampNeg))) (lt (wI M 63 (((4 : Int32) * (M.1 47 22)) + (M.1 58 v1.toNatClampNeg)).toNatClampNeg v1) fun M3 => f_X11_takesIn_L170 n (v1 + 1) M3)))
set_option maxRecDepth 100000 in
set_option maxHeartbeats 4000000 in
theorem w_X11_takesIn_L170 {G : GW} {E : EE} (hG : ab_ok G) (B : Bx G E RX11 cX11_takesIn 3 3 none) : ∀ (n : Nat) (v1 : Int32) (M : Mem), AWo G E cX11_takesIn 3 (ab_Q G E embV) 170 [(0, .ref 47), (1, .int v1)] [] M (f_X11_takesIn_L170 n v1 M) := by
  intro n
  induction n with
  | zero => intro _ _; exact aw_none
  | succ n ih =>
    intro v1 M
    rw [f_X11_takesIn_L170]
    refine aw_iload_n (k0 := 1) B 1 (by decide +kernel) rfl rfl ?_
    refine aw_aload_n (k0 := 0) B 0 (by decide +kernel) rfl rfl ?_
    refine aw_geti (c := 47) B lkX11_109 (by decide +kernel) rfl ?_
    refine aw_icmp_ge (off := 28) B 203 (by decide +kernel) (by decide) (fun _ => ?_) (fun _ => ?_)
    · refine aw_aload_n (k0 := 0) B 0 (by decide +kernel) rfl rfl ?_
      refine aw_getr (c := 47) B lkX11_59 (by decide +kernel) rfl (r := 64) rfl ?_
      refine aw_aload_n (k0 := 0) B 0 (by decide +kernel) rfl rfl ?_
      refine aw_geti (c := 47) B lkX11_225 (by decide +kernel) rfl ?_
      refine aw_aload_n (k0 := 0) B 0 (by decide +kernel) rfl rfl ?_
      refine aw_geti (c := 47) B lkX11_219 (by decide +kernel) rfl ?_
      refine aw_iconst (n := 4) (v := (4 : Int32)) B (by decide +kernel) (by decide) ?_
      refine aw_icmp_ne (off := 10) B 226 (by decide +kernel) (by decide) (fun _ => ?_) (fun _ => ?_)
      · refine aw_aload_n (k0 := 0) B 0 (by decide +kernel) rfl rfl ?_
        refine aw_cVR B (c_X11_codeNow (eLa E) hG M) cvX11_228 rfl rfl (Nat.le_of_ble_eq_true rfl) rfl (Nat.le_of_ble_eq_true rfl) (by decide +kernel) rfl (fun x1 => ?_)
        exact aw_sub [0] rfl (w_X11_takesIn_b230 hG B _ _ _)
      · refine aw_aload_n (k0 := 0) B 0 (by decide +kernel) rfl rfl ?_
        refine aw_geti (c := 47) B lkX11_225 (by decide +kernel) rfl ?_
        refine aw_goto (off := 7) B 230 (by decide +kernel) (by decide) ?_
        exact aw_sub [0] rfl (w_X11_takesIn_b230 hG B _ _ _)
    · refine aw_aload_n (k0 := 0) B 0 (by decide +kernel) rfl rfl ?_
      refine aw_getr (c := 47) B lkX11_56 (by decide +kernel) rfl (r := 63) rfl ?_
      refine aw_iconst (n := 4) (v := (4 : Int32)) B (by decide +kernel) (by decide) ?_
      refine aw_aload_n (k0 := 0) B 0 (by decide +kernel) rfl rfl ?_
      refine aw_geti (c := 47) B lkX11_225 (by decide +kernel) rfl ?_
      refine aw_imul B (by decide +kernel) ?_
      refine aw_aload_n (k0 := 0) B 0 (by decide +kernel) rfl rfl ?_
      refine aw_getr (c := 47) B lkX11_40 (by decide +kernel) rfl (r := 58) rfl ?_
      refine aw_iload_n (k0 := 1) B 1 (by decide +kernel) rfl rfl ?_
      refine aw_iaload B (by decide +kernel) ?_
      refine aw_iadd B (by decide +kernel) ?_
      refine aw_iload_n (k0 := 1) B 1 (by decide +kernel) rfl rfl ?_
      refine aw_iastore B (by decide +kernel) (fun M3 => ?_)
      refine aw_iinc (i := 1) (n := 1) B 1 [(1, .int (v1 + 1)), (0, .ref 47)] (by decide +kernel) rfl (Nat.le_of_ble_eq_true rfl) (v1 + 1) (ab_inc (by decide)) rfl ?_
      refine aw_goto (off := -30) B 170 (by decide +kernel) (by decide) ?_
      exact aw_sub [1, 0] rfl (ih _ _)
def f_X11_takesIn_b161 (M : Mem) : Option Mem := (if (M.1 47 32) = 0 then f_X11_takesIn_b231 M else f_X11_takesIn_L170 FU (0 : Int32) M)
set_option maxRecDepth 100000 in
set_option maxHeartbeats 4000000 in
theorem w_X11_takesIn_b161 {G : GW} {E : EE} (hG : ab_ok G) (B : Bx G E RX11 cX11_takesIn 3 3 none) (M : Mem) : AWo G E cX11_takesIn 3 (ab_Q G E embV) 161 [(0, .ref 47)] [] M (f_X11_takesIn_b161 M) := by
  unfold f_X11_takesIn_b161
  refine aw_aload_n (k0 := 0) B 0 (by decide +kernel) rfl rfl ?_
  refine aw_geti (c := 47) B lkX11_234 (by decide +kernel) rfl ?_
  refine aw_if_eq (off := 66) B 231 (by decide +kernel) (by decide) (fun _ => ?_) (fun _ => ?_)
  · exact w_X11_takesIn_b231 hG B _
  · refine aw_iconst (n := 0) (v := (0 : Int32)) B (by decide +kernel) (by decide) ?_
    refine aw_istore_n (k0 := 1) B [(1, .int (0 : Int32)), (0, .ref 47)] (by decide +kernel) rfl (Nat.le_of_ble_eq_true rfl) rfl ?_
    exact aw_sub [1, 0] rfl (w_X11_takesIn_L170 hG B FU _ _)
def f_X11_takesIn_b150 (v1 : Int32) (s0 : Int32) (s1 : Int32) (M : Mem) : Option Mem := lt (wI M 47 27 (s1 + s0)) fun M1 => ck (okZ 62 v1) (lt (wI M1 62 v1.toNatClampNeg (1 : Int32)) fun M2 => f_X11_takesIn_b161 M2)
set_option maxRecDepth 100000 in
set_option maxHeartbeats 4000000 in
theorem w_X11_takesIn_b150 {G : GW} {E : EE} (hG : ab_ok G) (B : Bx G E RX11 cX11_takesIn 3 3 none) (v1 : Int32) (s0 : Int32) (s1 : Int32) (M : Mem) : AWo G E cX11_takesIn 3 (ab_Q G E embV) 150 [(0, .ref 47), (1, .int v1)] [.int s0, .int s1, .ref 47] M (f_X11_takesIn_b150 v1 s0 s1 M) := by
  unfold f_X11_takesIn_b150
  refine aw_iadd B (by decide +kernel) ?_
  refine aw_puti (c := 47) B lkX11_231 lp11_27 (by decide +kernel) rfl (fun M1 => ?_)
  refine aw_aload_n (k0 := 0) B 0 (by decide +kernel) rfl rfl ?_
  refine aw_getr (c := 47) B lkX11_52 (by decide +kernel) rfl (r := 62) rfl ?_
  refine aw_iload_n (k0 := 1) B 1 (by decide +kernel) rfl rfl ?_
  refine aw_iconst (n := 1) (v := (1 : Int32)) B (by decide +kernel) (by decide) ?_
  refine aw_zastore B (by decide +kernel) (by decide) (fun M2 => ?_)
  exact aw_sub [0] rfl (w_X11_takesIn_b161 hG B _)
def f_X11_takesIn_L66 (k37 : Int32 → Mem → Option Mem) : Nat → Int32 → Int32 → Mem → Option Mem
  | 0, _, _, _ => none
  | n + 1, v1, v2, M => (if (M.1 47 6) ≤ v2 then k37 (v1 + 1) M else ck (okI 58 v1) (ck (okI 58 v2) (ck (okI 61 (((8 : Int32) * (M.1 58 v1.toNatClampNeg)) + (M.1 58 v2.toNatClampNeg))) (ck (okI 61 (((8 : Int32) * (M.1 58 v1.toNatClampNeg)) + (M.1 58 v2.toNatClampNeg))) (lt (wI M 61 (((8 : Int32) * (M.1 58 v1.toNatClampNeg)) + (M.1 58 v2.toNatClampNeg)).toNatClampNeg ((M.1 61 (((8 : Int32) * (M.1 58 v1.toNatClampNeg)) + (M.1 58 v2.toNatClampNeg)).toNatClampNeg) + (1 : Int32))) fun M1 => f_X11_takesIn_L66 k37 n v1 (v2 + 1) M1)))))
set_option maxRecDepth 100000 in
set_option maxHeartbeats 4000000 in
theorem w_X11_takesIn_L66 {G : GW} {E : EE} (hG : ab_ok G) {k37 : Int32 → Mem → Option Mem} (B : Bx G E RX11 cX11_takesIn 3 3 none) (hk37 : ∀ (v1 : Int32) (M : Mem), AWo G E cX11_takesIn 3 (ab_Q G E embV) 37 [(0, .ref 47), (1, .int v1)] [] M (k37 v1 M)) : ∀ (n : Nat) (v1 : Int32) (v2 : Int32) (M : Mem), AWo G E cX11_takesIn 3 (ab_Q G E embV) 66 [(0, .ref 47), (1, .int v1), (2, .int v2)] [] M (f_X11_takesIn_L66 k37 n v1 v2 M) := by
  intro n
  induction n with
  | zero => intro _ _ _; exact aw_none
  | succ n ih =>
    intro v1 v2 M
    rw [f_X11_takesIn_L66]
    refine aw_iload_n (k0 := 2) B 2 (by decide +kernel) rfl rfl ?_
    refine aw_aload_n (k0 := 0) B 0 (by decide +kernel) rfl rfl ?_
    refine aw_geti (c := 47) B lkX11_109 (by decide +kernel) rfl ?_
    refine aw_icmp_ge (off := 34) B 105 (by decide +kernel) (by decide) (fun _ => ?_) (fun _ => ?_)
    · refine aw_iinc (i := 1) (n := 1) B 1 [(1, .int (v1 + 1)), (0, .ref 47), (2, .int v2)] (by decide +kernel) rfl (Nat.le_of_ble_eq_true rfl) (v1 + 1) (ab_inc (by decide)) rfl ?_
      refine aw_goto (off := -71) B 37 (by decide +kernel) (by decide) ?_
      exact aw_sub [1, 0] rfl (hk37 _ _)
    · refine aw_aload_n (k0 := 0) B 0 (by decide +kernel) rfl rfl ?_
      refine aw_getr (c := 47) B lkX11_49 (by decide +kernel) rfl (r := 61) rfl ?_
      refine aw_bipush (n := 8) (v := (8 : Int32)) B (by decide +kernel) (by decide) ?_
      refine aw_aload_n (k0 := 0) B 0 (by decide +kernel) rfl rfl ?_
      refine aw_getr (c := 47) B lkX11_40 (by decide +kernel) rfl (r := 58) rfl ?_
      refine aw_iload_n (k0 := 1) B 1 (by decide +kernel) rfl rfl ?_
      refine aw_iaload B (by decide +kernel) ?_
      refine aw_imul B (by decide +kernel) ?_
      refine aw_aload_n (k0 := 0) B 0 (by decide +kernel) rfl rfl ?_
      refine aw_getr (c := 47) B lkX11_40 (by decide +kernel) rfl (r := 58) rfl ?_
      refine aw_iload_n (k0 := 2) B 2 (by decide +kernel) rfl rfl ?_
      refine aw_iaload B (by decide +kernel) ?_
      refine aw_iadd B (by decide +kernel) ?_
      refine aw_dup2_11 B (by decide +kernel) rfl rfl ?_
      refine aw_iaload B (by decide +kernel) ?_
      refine aw_iconst (n := 1) (v := (1 : Int32)) B (by decide +kernel) (by decide) ?_
      refine aw_iadd B (by decide +kernel) ?_
      refine aw_iastore B (by decide +kernel) (fun M1 => ?_)
      refine aw_iinc (i := 2) (n := 1) B 2 [(2, .int (v2 + 1)), (0, .ref 47), (1, .int v1)] (by decide +kernel) rfl (Nat.le_of_ble_eq_true rfl) (v2 + 1) (ab_inc (by decide)) rfl ?_
      refine aw_goto (off := -36) B 66 (by decide +kernel) (by decide) ?_
      exact aw_sub [1, 2, 0] rfl (ih _ _ _)
def f_X11_takesIn_L37 : Nat → Int32 → Mem → Option Mem
  | 0, _, _ => none
  | n + 1, v1, M => (if (M.1 47 6) ≤ v1 then (if (M.1 47 28) < 0 then f_X11_takesIn_b161 M else (if (M.1 47 28) = (4 : Int32) then f_X11_takesIn_b161 M else (f_X11_codeNow M).bind fun x1 => ck (okZ 62 x1) ((if (M.1 62 x1.toNatClampNeg) = 0 then f_X11_takesIn_b150 x1 (1 : Int32) (M.1 47 27) M else f_X11_takesIn_b150 x1 (0 : Int32) (M.1 47 27) M)))) else ck (okI 58 v1) (ck (okI 60 (M.1 58 v1.toNatClampNeg)) (ck (okI 60 (M.1 58 v1.toNatClampNeg)) (lt (wI M 60 (M.1 58 v1.toNatClampNeg).toNatClampNeg ((M.1 60 (M.1 58 v1.toNatClampNeg).toNatClampNeg) ||| (ab_shl (1 : Int32) v1))) fun M3 => lt (v1 + (1 : Int32)) fun x4 => f_X11_takesIn_L66 (fun a0 a1 => f_X11_takesIn_L37 n a0 a1) FU v1 x4 M3))))
set_option maxRecDepth 100000 in
set_option maxHeartbeats 4000000 in
theorem w_X11_takesIn_L37 {G : GW} {E : EE} (hG : ab_ok G) (B : Bx G E RX11 cX11_takesIn 3 3 none) : ∀ (n : Nat) (v1 : Int32) (M : Mem), AWo G E cX11_takesIn 3 (ab_Q G E embV) 37 [(0, .ref 47), (1, .int v1)] [] M (f_X11_takesIn_L37 n v1 M) := by
  intro n
  induction n with
  | zero => intro _ _; exact aw_none
  | succ n ih =>
    intro v1 M
    rw [f_X11_takesIn_L37]
    refine aw_iload_n (k0 := 1) B 1 (by decide +kernel) rfl rfl ?_
    refine aw_aload_n (k0 := 0) B 0 (by decide +kernel) rfl rfl ?_
    refine aw_geti (c := 47) B lkX11_109 (by decide +kernel) rfl ?_
    refine aw_icmp_ge (off := 69) B 111 (by decide +kernel) (by decide) (fun _ => ?_) (fun _ => ?_)
    · refine aw_aload_n (k0 := 0) B 0 (by decide +kernel) rfl rfl ?_
      refine aw_geti (c := 47) B lkX11_219 (by decide +kernel) rfl ?_
      refine aw_if_lt (off := 46) B 161 (by decide +kernel) (by decide) (fun _ => ?_) (fun _ => ?_)
      · exact aw_sub [0] rfl (w_X11_takesIn_b161 hG B _)
      · refine aw_aload_n (k0 := 0) B 0 (by decide +kernel) rfl rfl ?_
        refine aw_geti (c := 47) B lkX11_219 (by decide +kernel) rfl ?_
        refine aw_iconst (n := 4) (v := (4 : Int32)) B (by decide +kernel) (by decide) ?_
        refine aw_icmp_eq (off := 38) B 161 (by decide +kernel) (by decide) (fun _ => ?_) (fun _ => ?_)
        · exact aw_sub [0] rfl (w_X11_takesIn_b161 hG B _)
        · refine aw_aload_n (k0 := 0) B 0 (by decide +kernel) rfl rfl ?_
          refine aw_cVR B (c_X11_codeNow (eLa E) hG M) cvX11_228 rfl rfl (Nat.le_of_ble_eq_true rfl) rfl (Nat.le_of_ble_eq_true rfl) (by decide +kernel) rfl (fun x1 => ?_)
          refine aw_istore_n (k0 := 1) B [(1, .int x1), (0, .ref 47)] (by decide +kernel) rfl (Nat.le_of_ble_eq_true rfl) rfl ?_
          refine aw_aload_n (k0 := 0) B 1 (by decide +kernel) rfl rfl ?_
          refine aw_dup B (by decide +kernel) rfl ?_
          refine aw_geti (c := 47) B lkX11_231 (by decide +kernel) rfl ?_
          refine aw_aload_n (k0 := 0) B 1 (by decide +kernel) rfl rfl ?_
          refine aw_getr (c := 47) B lkX11_52 (by decide +kernel) rfl (r := 62) rfl ?_
          refine aw_iload_n (k0 := 1) B 0 (by decide +kernel) rfl rfl ?_
          refine aw_zaload B (by decide +kernel) ?_
          refine aw_if_eq (off := 7) B 149 (by decide +kernel) (by decide) (fun _ => ?_) (fun _ => ?_)
          · refine aw_iconst (n := 1) (v := (1 : Int32)) B (by decide +kernel) (by decide) ?_
            exact aw_sub [1, 0] rfl (w_X11_takesIn_b150 hG B _ _ _ _)
          · refine aw_iconst (n := 0) (v := (0 : Int32)) B (by decide +kernel) (by decide) ?_
            refine aw_goto (off := 4) B 150 (by decide +kernel) (by decide) ?_
            exact aw_sub [1, 0] rfl (w_X11_takesIn_b150 hG B _ _ _ _)
    · refine aw_aload_n (k0 := 0) B 0 (by decide +kernel) rfl rfl ?_
      refine aw_getr (c := 47) B lkX11_46 (by decide +kernel) rfl (r := 60) rfl ?_
      refine aw_aload_n (k0 := 0) B 0 (by decide +kernel) rfl rfl ?_
      refine aw_getr (c := 47) B lkX11_40 (by decide +kernel) rfl (r := 58) rfl ?_
      refine aw_iload_n (k0 := 1) B 1 (by decide +kernel) rfl rfl ?_
      refine aw_iaload B (by decide +kernel) ?_
      refine aw_dup2_11 B (by decide +kernel) rfl rfl ?_
      refine aw_iaload B (by decide +kernel) ?_
      refine aw_iconst (n := 1) (v := (1 : Int32)) B (by decide +kernel) (by decide) ?_
      refine aw_iload_n (k0 := 1) B 1 (by decide +kernel) rfl rfl ?_
      refine aw_ishl B (by decide +kernel) ?_
      refine aw_ior B (by decide +kernel) ?_
      refine aw_iastore B (by decide +kernel) (fun M3 => ?_)
      refine aw_iload_n (k0 := 1) B 1 (by decide +kernel) rfl rfl ?_
      refine aw_iconst (n := 1) (v := (1 : Int32)) B (by decide +kernel) (by decide) ?_
      refine aw_iadd B (by decide +kernel) ?_
      refine aw_ltI (fun x4 => ?_)
      refine aw_istore_n (k0 := 2) B [(2, .int x4), (0, .ref 47), (1, .int v1)] (by decide +kernel) rfl (Nat.le_of_ble_eq_true rfl) rfl ?_
      exact aw_sub [1, 2, 0] rfl (w_X11_takesIn_L66 hG B ih FU _ _ _)
def f_X11_takesIn_b35 (M : Mem) : Option Mem := f_X11_takesIn_L37 FU (0 : Int32) M
set_option maxRecDepth 100000 in
set_option maxHeartbeats 4000000 in
theorem w_X11_takesIn_b35 {G : GW} {E : EE} (hG : ab_ok G) (B : Bx G E RX11 cX11_takesIn 3 3 none) (M : Mem) : AWo G E cX11_takesIn 3 (ab_Q G E embV) 35 [(0, .ref 47)] [] M (f_X11_takesIn_b35 M) := by
  unfold f_X11_takesIn_b35
  refine aw_iconst (n := 0) (v := (0 : Int32)) B (by decide +kernel) (by decide) ?_
  refine aw_istore_n (k0 := 1) B [(1, .int (0 : Int32)), (0, .ref 47)] (by decide +kernel) rfl (Nat.le_of_ble_eq_true rfl) rfl ?_
  exact aw_sub [1, 0] rfl (w_X11_takesIn_L37 hG B FU _ _)
def f_X11_takesIn_L2 : Nat → Int32 → Mem → Option Mem
  | 0, _, _ => none
  | n + 1, v1, M => (if (M.1 47 6) ≤ v1 then f_X11_takesIn_b35 M else (if (M.1 47 22) = 0 then ck (okI 58 v1) (ck (okI 59 v1) (lt (wI M 59 v1.toNatClampNeg (M.1 58 v1.toNatClampNeg)) fun M1 => f_X11_takesIn_L2 n (v1 + 1) M1)) else f_X11_takesIn_b35 M))
set_option maxRecDepth 100000 in
set_option maxHeartbeats 4000000 in
theorem w_X11_takesIn_L2 {G : GW} {E : EE} (hG : ab_ok G) (B : Bx G E RX11 cX11_takesIn 3 3 none) : ∀ (n : Nat) (v1 : Int32) (M : Mem), AWo G E cX11_takesIn 3 (ab_Q G E embV) 2 [(0, .ref 47), (1, .int v1)] [] M (f_X11_takesIn_L2 n v1 M) := by
  intro n
  induction n with
  | zero => intro _ _; exact aw_none
  | succ n ih =>
    intro v1 M
    rw [f_X11_takesIn_L2]
    refine aw_iload_n (k0 := 1) B 1 (by decide +kernel) rfl rfl ?_
    refine aw_aload_n (k0 := 0) B 0 (by decide +kernel) rfl rfl ?_
    refine aw_geti (c := 47) B lkX11_109 (by decide +kernel) rfl ?_
    refine aw_icmp_ge (off := 28) B 35 (by decide +kernel) (by decide) (fun _ => ?_) (fun _ => ?_)
    · exact aw_sub [0] rfl (w_X11_takesIn_b35 hG B _)
    · refine aw_aload_n (k0 := 0) B 0 (by decide +kernel) rfl rfl ?_
      refine aw_geti (c := 47) B lkX11_225 (by decide +kernel) rfl ?_
      refine aw_if_ne (off := 21) B 35 (by decide +kernel) (by decide) (fun _ => ?_) (fun _ => ?_)
      · exact aw_sub [0] rfl (w_X11_takesIn_b35 hG B _)
      · refine aw_aload_n (k0 := 0) B 0 (by decide +kernel) rfl rfl ?_
        refine aw_getr (c := 47) B lkX11_43 (by decide +kernel) rfl (r := 59) rfl ?_
        refine aw_iload_n (k0 := 1) B 1 (by decide +kernel) rfl rfl ?_
        refine aw_aload_n (k0 := 0) B 0 (by decide +kernel) rfl rfl ?_
        refine aw_getr (c := 47) B lkX11_40 (by decide +kernel) rfl (r := 58) rfl ?_
        refine aw_iload_n (k0 := 1) B 1 (by decide +kernel) rfl rfl ?_
        refine aw_iaload B (by decide +kernel) ?_
        refine aw_iastore B (by decide +kernel) (fun M1 => ?_)
        refine aw_iinc (i := 1) (n := 1) B 1 [(1, .int (v1 + 1)), (0, .ref 47)] (by decide +kernel) rfl (Nat.le_of_ble_eq_true rfl) (v1 + 1) (ab_inc (by decide)) rfl ?_
        refine aw_goto (off := -30) B 2 (by decide +kernel) (by decide) ?_
        exact aw_sub [1, 0] rfl (ih _ _)
def f_X11_takesIn (M : Mem) : Option Mem := f_X11_takesIn_L2 FU (0 : Int32) M
set_option maxRecDepth 100000 in
set_option maxHeartbeats 4000000 in
theorem w_X11_takesIn {G : GW} {E : EE} (hG : ab_ok G) (B : Bx G E RX11 cX11_takesIn 3 3 none) (M : Mem) : AWo G E cX11_takesIn 3 (ab_Q G E embV) 0 [(0, .ref 47)] [] M (f_X11_takesIn M) := by
  unfold f_X11_takesIn
  refine aw_iconst (n := 0) (v := (0 : Int32)) B (by decide +kernel) (by decide) ?_
  refine aw_istore_n (k0 := 1) B [(1, .int (0 : Int32)), (0, .ref 47)] (by decide +kernel) rfl (Nat.le_of_ble_eq_true rfl) rfl ?_
  exact aw_sub [1, 0] rfl (w_X11_takesIn_L2 hG B FU _ _)
theorem c_X11_takesIn (l : Launch) {G : GW} (hG : ab_ok G) (M : Mem) : AC l G yX11_takesIn cX11_takesIn 3 none 3 [.ref 47] M embV (f_X11_takesIn M) := AC.of hG (by decide) (Nat.le_of_ble_eq_true rfl) (fun E hE B => by subst hE; exact w_X11_takesIn hG B M)
def f_X11_laysFrom_b63 (rc : Int32 → Int32 → Mem → Option Mem) (k15 : Int32 → Int32 → Int32 → Mem → Option Mem) (v1 : Int32) (v2 : Int32) (v3 : Int32) (M : Mem) : Option Mem := k15 v1 v2 (v3 + 1) M
set_option maxRecDepth 100000 in
set_option maxHeartbeats 4000000 in
theorem w_X11_laysFrom_b63 {G : GW} {E : EE} (hG : ab_ok G) {k15 : Int32 → Int32 → Int32 → Mem → Option Mem} {rc : Int32 → Int32 → Mem → Option Mem} (lv0 : Nat) (hl0 : 4 ≤ lv0) (hrc : ∀ (v1 : Int32) (v2 : Int32) (M : Mem), AC (eLa E) G yX11_laysFrom cX11_laysFrom 4 none lv0 [.ref 47, .int v1, .int v2] M embV (rc v1 v2 M)) (B : Bx G E RX11 cX11_laysFrom 4 (lv0 + 1) none) (hk15 : ∀ (v1 : Int32) (v2 : Int32) (v3 : Int32) (M : Mem), AWo G E cX11_laysFrom 4 (ab_Q G E embV) 15 [(0, .ref 47), (1, .int v1), (2, .int v2), (3, .int v3)] [] M (k15 v1 v2 v3 M)) (v1 : Int32) (v2 : Int32) (v3 : Int32) (M : Mem) : AWo G E cX11_laysFrom 4 (ab_Q G E embV) 63 [(0, .ref 47), (1, .int v1), (2, .int v2), (3, .int v3)] [] M (f_X11_laysFrom_b63 rc k15 v1 v2 v3 M) := by
  unfold f_X11_laysFrom_b63
  refine aw_iinc (i := 3) (n := 1) B 3 [(3, .int (v3 + 1)), (0, .ref 47), (1, .int v1), (2, .int v2)] (by decide +kernel) rfl (Nat.le_of_ble_eq_true rfl) (v3 + 1) (ab_inc (by decide)) rfl ?_
  refine aw_goto (off := -51) B 15 (by decide +kernel) (by decide) ?_
  exact aw_sub [1, 2, 3, 0] rfl (hk15 _ _ _ _)
def f_X11_laysFrom_L15 (rc : Int32 → Int32 → Mem → Option Mem) : Nat → Int32 → Int32 → Int32 → Mem → Option Mem
  | 0, _, _, _, _ => none
  | n + 1, v1, v2, v3, M => (if (M.1 47 6) ≤ v3 then (some M) else (if ((ab_shr v2 v3) &&& (1 : Int32)) = 0 then ck (okI 57 v3) ((if ((M.1 57 v3.toNatClampNeg) &&& (v2 ^^^ (-1 : Int32))) = 0 then ck (okI 58 v1) (lt (wI M 58 v1.toNatClampNeg v3) fun M1 => (rc (v1 + (1 : Int32)) (v2 ||| (ab_shl (1 : Int32) v3)) M1).bind fun M3 => f_X11_laysFrom_b63 rc (fun a0 a1 a2 a3 => f_X11_laysFrom_L15 rc n a0 a1 a2 a3) v1 v2 v3 M3) else f_X11_laysFrom_b63 rc (fun a0 a1 a2 a3 => f_X11_laysFrom_L15 rc n a0 a1 a2 a3) v1 v2 v3 M)) else f_X11_laysFrom_b63 rc (fun a0 a1 a2 a3 => f_X11_laysFrom_L15 rc n a0 a1 a2 a3) v1 v2 v3 M))
set_option maxRecDepth 100000 in
set_option maxHeartbeats 4000000 in
theorem w_X11_laysFrom_L15 {G : GW} {E : EE} (hG : ab_ok G) {rc : Int32 → Int32 → Mem → Option Mem} (lv0 : Nat) (hl0 : 4 ≤ lv0) (hrc : ∀ (v1 : Int32) (v2 : Int32) (M : Mem), AC (eLa E) G yX11_laysFrom cX11_laysFrom 4 none lv0 [.ref 47, .int v1, .int v2] M embV (rc v1 v2 M)) (B : Bx G E RX11 cX11_laysFrom 4 (lv0 + 1) none) : ∀ (n : Nat) (v1 : Int32) (v2 : Int32) (v3 : Int32) (M : Mem), AWo G E cX11_laysFrom 4 (ab_Q G E embV) 15 [(0, .ref 47), (1, .int v1), (2, .int v2), (3, .int v3)] [] M (f_X11_laysFrom_L15 rc n v1 v2 v3 M) := by
  intro n
  induction n with
  | zero => intro _ _ _ _; exact aw_none
  | succ n ih =>
    intro v1 v2 v3 M
    rw [f_X11_laysFrom_L15]
    refine aw_iload_n (k0 := 3) B 3 (by decide +kernel) rfl rfl ?_
    refine aw_aload_n (k0 := 0) B 0 (by decide +kernel) rfl rfl ?_
    refine aw_geti (c := 47) B lkX11_109 (by decide +kernel) rfl ?_
    refine aw_icmp_ge (off := 49) B 69 (by decide +kernel) (by decide) (fun _ => ?_) (fun _ => ?_)
    · exact aw_vreturn B (by decide +kernel) rfl
    · refine aw_iload_n (k0 := 2) B 2 (by decide +kernel) rfl rfl ?_
      refine aw_iload_n (k0 := 3) B 3 (by decide +kernel) rfl rfl ?_
      refine aw_ishr B (by decide +kernel) ?_
      refine aw_iconst (n := 1) (v := (1 : Int32)) B (by decide +kernel) (by decide) ?_
      refine aw_iand B (by decide +kernel) ?_
      refine aw_if_ne (off := 35) B 63 (by decide +kernel) (by decide) (fun _ => ?_) (fun _ => ?_)
      · exact w_X11_laysFrom_b63 hG lv0 hl0 hrc B ih _ _ _ _
      · refine aw_aload_n (k0 := 0) B 0 (by decide +kernel) rfl rfl ?_
        refine aw_getr (c := 47) B lkX11_37 (by decide +kernel) rfl (r := 57) rfl ?_
        refine aw_iload_n (k0 := 3) B 3 (by decide +kernel) rfl rfl ?_
        refine aw_iaload B (by decide +kernel) ?_
        refine aw_iload_n (k0 := 2) B 2 (by decide +kernel) rfl rfl ?_
        refine aw_iconst (n := -1) (v := (-1 : Int32)) B (by decide +kernel) (by decide) ?_
        refine aw_ixor B (by decide +kernel) ?_
        refine aw_iand B (by decide +kernel) ?_
        refine aw_if_ne (off := 22) B 63 (by decide +kernel) (by decide) (fun _ => ?_) (fun _ => ?_)
        · exact w_X11_laysFrom_b63 hG lv0 hl0 hrc B ih _ _ _ _
        · refine aw_aload_n (k0 := 0) B 0 (by decide +kernel) rfl rfl ?_
          refine aw_getr (c := 47) B lkX11_40 (by decide +kernel) rfl (r := 58) rfl ?_
          refine aw_iload_n (k0 := 1) B 1 (by decide +kernel) rfl rfl ?_
          refine aw_iload_n (k0 := 3) B 3 (by decide +kernel) rfl rfl ?_
          refine aw_iastore B (by decide +kernel) (fun M1 => ?_)
          refine aw_aload_n (k0 := 0) B 0 (by decide +kernel) rfl rfl ?_
          refine aw_iload_n (k0 := 1) B 1 (by decide +kernel) rfl rfl ?_
          refine aw_iconst (n := 1) (v := (1 : Int32)) B (by decide +kernel) (by decide) ?_
          refine aw_iadd B (by decide +kernel) ?_
          refine aw_iload_n (k0 := 2) B 2 (by decide +kernel) rfl rfl ?_
          refine aw_iconst (n := 1) (v := (1 : Int32)) B (by decide +kernel) (by decide) ?_
          refine aw_iload_n (k0 := 3) B 3 (by decide +kernel) rfl rfl ?_
          refine aw_ishl B (by decide +kernel) ?_
          refine aw_ior B (by decide +kernel) ?_
          refine aw_cVV B (hrc (v1 + (1 : Int32)) (v2 ||| (ab_shl (1 : Int32) v3)) M1) cvX11_241 rfl rfl (by have hF : FD = 40 := rfl; omega) rfl (Nat.le_of_ble_eq_true rfl) (by decide +kernel) rfl (fun M3 => ?_)
          exact w_X11_laysFrom_b63 hG lv0 hl0 hrc B ih _ _ _ _
def f_X11_laysFrom_o (rc : Int32 → Int32 → Mem → Option Mem) (v1 : Int32) (v2 : Int32) (M : Mem) : Option Mem := (if v1 = (M.1 47 6) then (f_X11_takesIn M).bind fun M2 => (some M2) else f_X11_laysFrom_L15 rc FU v1 v2 (0 : Int32) M)
set_option maxRecDepth 100000 in
set_option maxHeartbeats 4000000 in
theorem w_X11_laysFrom_o {G : GW} {E : EE} (hG : ab_ok G) {rc : Int32 → Int32 → Mem → Option Mem} (lv0 : Nat) (hl0 : 4 ≤ lv0) (hrc : ∀ (v1 : Int32) (v2 : Int32) (M : Mem), AC (eLa E) G yX11_laysFrom cX11_laysFrom 4 none lv0 [.ref 47, .int v1, .int v2] M embV (rc v1 v2 M)) (B : Bx G E RX11 cX11_laysFrom 4 (lv0 + 1) none) (v1 : Int32) (v2 : Int32) (M : Mem) : AWo G E cX11_laysFrom 4 (ab_Q G E embV) 0 [(0, .ref 47), (1, .int v1), (2, .int v2)] [] M (f_X11_laysFrom_o rc v1 v2 M) := by
  unfold f_X11_laysFrom_o
  refine aw_iload_n (k0 := 1) B 1 (by decide +kernel) rfl rfl ?_
  refine aw_aload_n (k0 := 0) B 0 (by decide +kernel) rfl rfl ?_
  refine aw_geti (c := 47) B lkX11_109 (by decide +kernel) rfl ?_
  refine aw_icmp_ne (off := 8) B 13 (by decide +kernel) (by decide) (fun _ => ?_) (fun _ => ?_)
  · refine aw_iconst (n := 0) (v := (0 : Int32)) B (by decide +kernel) (by decide) ?_
    refine aw_istore_n (k0 := 3) B [(3, .int (0 : Int32)), (0, .ref 47), (1, .int v1), (2, .int v2)] (by decide +kernel) rfl (Nat.le_of_ble_eq_true rfl) rfl ?_
    exact aw_sub [1, 2, 3, 0] rfl (w_X11_laysFrom_L15 hG lv0 hl0 hrc B FU _ _ _ _)
  · refine aw_aload_n (k0 := 0) B 0 (by decide +kernel) rfl rfl ?_
    refine aw_cVV B (c_X11_takesIn (eLa E) hG M) cvX11_238 rfl rfl (by have hF : FD = 40 := rfl; omega) rfl (Nat.le_of_ble_eq_true rfl) (by decide +kernel) rfl (fun M2 => ?_)
    exact aw_vreturn B (by decide +kernel) rfl
def f_X11_laysFrom : Nat → Int32 → Int32 → Mem → Option Mem
  | 0, _, _, _ => none
  | d + 1, v1, v2, M => f_X11_laysFrom_o (fun v1 v2 M => f_X11_laysFrom d v1 v2 M) v1 v2 M
theorem c_X11_laysFrom (l : Launch) {G : GW} (hG : ab_ok G) : ∀ (d : Nat) (v1 : Int32) (v2 : Int32) (M : Mem), AC l G yX11_laysFrom cX11_laysFrom 4 none (4 + 1 * d) [.ref 47, .int v1, .int v2] M embV (f_X11_laysFrom d v1 v2 M)
  | 0, _, _, _ => fun a ha => by cases ha
  | d + 1, v1, v2, M => AC.of hG (by decide) (Nat.le_of_ble_eq_true rfl) (fun E hE B => by
    subst hE
    have e : 4 + 1 * (d + 1) = 4 + 1 * d + 1 := by omega
    rw [e] at B
    exact w_X11_laysFrom_o hG (4 + 1 * d) (Nat.le_add_right _ _) (fun v1 v2 M => c_X11_laysFrom (eLa E) hG d v1 v2 M) B v1 v2 M)
def f_X11_goesThrough_b124 (s0 : Int32) (M : Mem) : Option Mem := lt (wI M 47 27 s0) fun M1 => (some M1)
set_option maxRecDepth 100000 in
set_option maxHeartbeats 4000000 in
theorem w_X11_goesThrough_b124 {G : GW} {E : EE} (hG : ab_ok G) (B : Bx G E RX11 cX11_goesThrough 5 45 none) (s0 : Int32) (M : Mem) : AWo G E cX11_goesThrough 5 (ab_Q G E embV) 124 [] [.int s0, .ref 47] M (f_X11_goesThrough_b124 s0 M) := by
  unfold f_X11_goesThrough_b124
  refine aw_puti (c := 47) B lkX11_231 lp11_27 (by decide +kernel) rfl (fun M1 => ?_)
  exact aw_vreturn B (by decide +kernel) rfl
def f_X11_goesThrough_L77 : Nat → Int32 → Mem → Option Mem
  | 0, _, _ => none
  | n + 1, v4, M => (if (64 : Int32) ≤ v4 then (f_X11_laysFrom FD (0 : Int32) (0 : Int32) M).bind fun M2 => (if (M2.1 47 28) = (4 : Int32) then f_X11_goesThrough_b124 (M2.1 47 22) M2 else f_X11_goesThrough_b124 (M2.1 47 27) M2) else ck (okI 61 v4) (lt (wI M 61 v4.toNatClampNeg (0 : Int32)) fun M3 => f_X11_goesThrough_L77 n (v4 + 1) M3))
set_option maxRecDepth 100000 in
set_option maxHeartbeats 4000000 in
theorem w_X11_goesThrough_L77 {G : GW} {E : EE} (hG : ab_ok G) (B : Bx G E RX11 cX11_goesThrough 5 45 none) : ∀ (n : Nat) (v4 : Int32) (M : Mem), AWo G E cX11_goesThrough 5 (ab_Q G E embV) 77 [(0, .ref 47), (4, .int v4)] [] M (f_X11_goesThrough_L77 n v4 M) := by
  intro n
  induction n with
  | zero => intro _ _; exact aw_none
  | succ n ih =>
    intro v4 M
    rw [f_X11_goesThrough_L77]
    refine aw_iload (i := 4) B 1 (by decide +kernel) rfl ?_
    refine aw_bipush (n := 64) (v := (64 : Int32)) B (by decide +kernel) (by decide) ?_
    refine aw_icmp_ge (off := 17) B 98 (by decide +kernel) (by decide) (fun _ => ?_) (fun _ => ?_)
    · refine aw_aload_n (k0 := 0) B 0 (by decide +kernel) rfl rfl ?_
      refine aw_iconst (n := 0) (v := (0 : Int32)) B (by decide +kernel) (by decide) ?_
      refine aw_iconst (n := 0) (v := (0 : Int32)) B (by decide +kernel) (by decide) ?_
      refine aw_cVV B (c_X11_laysFrom (eLa E) hG FD (0 : Int32) (0 : Int32) M) cvX11_241 rfl rfl (Nat.le_of_ble_eq_true rfl) rfl (Nat.le_of_ble_eq_true rfl) (by decide +kernel) rfl (fun M2 => ?_)
      refine aw_aload_n (k0 := 0) B 0 (by decide +kernel) rfl rfl ?_
      refine aw_aload_n (k0 := 0) B 0 (by decide +kernel) rfl rfl ?_
      refine aw_geti (c := 47) B lkX11_219 (by decide +kernel) rfl ?_
      refine aw_iconst (n := 4) (v := (4 : Int32)) B (by decide +kernel) (by decide) ?_
      refine aw_icmp_ne (off := 10) B 120 (by decide +kernel) (by decide) (fun _ => ?_) (fun _ => ?_)
      · refine aw_aload_n (k0 := 0) B 0 (by decide +kernel) rfl rfl ?_
        refine aw_geti (c := 47) B lkX11_231 (by decide +kernel) rfl ?_
        exact aw_sub [] rfl (w_X11_goesThrough_b124 hG B _ _)
      · refine aw_aload_n (k0 := 0) B 0 (by decide +kernel) rfl rfl ?_
        refine aw_geti (c := 47) B lkX11_225 (by decide +kernel) rfl ?_
        refine aw_goto (off := 7) B 124 (by decide +kernel) (by decide) ?_
        exact aw_sub [] rfl (w_X11_goesThrough_b124 hG B _ _)
    · refine aw_aload_n (k0 := 0) B 0 (by decide +kernel) rfl rfl ?_
      refine aw_getr (c := 47) B lkX11_49 (by decide +kernel) rfl (r := 61) rfl ?_
      refine aw_iload (i := 4) B 1 (by decide +kernel) rfl ?_
      refine aw_iconst (n := 0) (v := (0 : Int32)) B (by decide +kernel) (by decide) ?_
      refine aw_iastore B (by decide +kernel) (fun M3 => ?_)
      refine aw_iinc (i := 4) (n := 1) B 1 [(4, .int (v4 + 1)), (0, .ref 47)] (by decide +kernel) rfl (Nat.le_of_ble_eq_true rfl) (v4 + 1) (ab_inc (by decide)) rfl ?_
      refine aw_goto (off := -18) B 77 (by decide +kernel) (by decide) ?_
      exact aw_sub [1, 0] rfl (ih _ _)
def f_X11_goesThrough_L53 : Nat → Int32 → Mem → Option Mem
  | 0, _, _ => none
  | n + 1, v4, M => (if (8 : Int32) ≤ v4 then f_X11_goesThrough_L77 FU (0 : Int32) M else ck (okI 60 v4) (lt (wI M 60 v4.toNatClampNeg (0 : Int32)) fun M1 => f_X11_goesThrough_L53 n (v4 + 1) M1))
set_option maxRecDepth 100000 in
set_option maxHeartbeats 4000000 in
theorem w_X11_goesThrough_L53 {G : GW} {E : EE} (hG : ab_ok G) (B : Bx G E RX11 cX11_goesThrough 5 45 none) : ∀ (n : Nat) (v4 : Int32) (M : Mem), AWo G E cX11_goesThrough 5 (ab_Q G E embV) 53 [(0, .ref 47), (4, .int v4)] [] M (f_X11_goesThrough_L53 n v4 M) := by
  intro n
  induction n with
  | zero => intro _ _; exact aw_none
  | succ n ih =>
    intro v4 M
    rw [f_X11_goesThrough_L53]
    refine aw_iload (i := 4) B 1 (by decide +kernel) rfl ?_
    refine aw_bipush (n := 8) (v := (8 : Int32)) B (by decide +kernel) (by decide) ?_
    refine aw_icmp_ge (off := 17) B 74 (by decide +kernel) (by decide) (fun _ => ?_) (fun _ => ?_)
    · refine aw_iconst (n := 0) (v := (0 : Int32)) B (by decide +kernel) (by decide) ?_
      refine aw_istore (i := 4) B [(4, .int (0 : Int32)), (0, .ref 47)] (by decide +kernel) (Nat.le_of_ble_eq_true rfl) rfl ?_
      exact aw_sub [1, 0] rfl (w_X11_goesThrough_L77 hG B FU _ _)
    · refine aw_aload_n (k0 := 0) B 0 (by decide +kernel) rfl rfl ?_
      refine aw_getr (c := 47) B lkX11_46 (by decide +kernel) rfl (r := 60) rfl ?_
      refine aw_iload (i := 4) B 1 (by decide +kernel) rfl ?_
      refine aw_iconst (n := 0) (v := (0 : Int32)) B (by decide +kernel) (by decide) ?_
      refine aw_iastore B (by decide +kernel) (fun M1 => ?_)
      refine aw_iinc (i := 4) (n := 1) B 1 [(4, .int (v4 + 1)), (0, .ref 47)] (by decide +kernel) rfl (Nat.le_of_ble_eq_true rfl) (v4 + 1) (ab_inc (by decide)) rfl ?_
      refine aw_goto (off := -18) B 53 (by decide +kernel) (by decide) ?_
      exact aw_sub [1, 0] rfl (ih _ _)
def f_X11_goesThrough_L28 : Nat → Int32 → Mem → Option Mem
  | 0, _, _ => none
  | n + 1, v4, M => (if (256 : Int32) ≤ v4 then f_X11_goesThrough_L53 FU (0 : Int32) M else ck (okZ 62 v4) (lt (wI M 62 v4.toNatClampNeg (0 : Int32)) fun M1 => f_X11_goesThrough_L28 n (v4 + 1) M1))
set_option maxRecDepth 100000 in
set_option maxHeartbeats 4000000 in
theorem w_X11_goesThrough_L28 {G : GW} {E : EE} (hG : ab_ok G) (B : Bx G E RX11 cX11_goesThrough 5 45 none) : ∀ (n : Nat) (v4 : Int32) (M : Mem), AWo G E cX11_goesThrough 5 (ab_Q G E embV) 28 [(0, .ref 47), (4, .int v4)] [] M (f_X11_goesThrough_L28 n v4 M) := by
  intro n
  induction n with
  | zero => intro _ _; exact aw_none
  | succ n ih =>
    intro v4 M
    rw [f_X11_goesThrough_L28]
    refine aw_iload (i := 4) B 1 (by decide +kernel) rfl ?_
    refine aw_sipush (n := 256) (v := (256 : Int32)) B (by decide +kernel) (by decide) ?_
    refine aw_icmp_ge (off := 17) B 50 (by decide +kernel) (by decide) (fun _ => ?_) (fun _ => ?_)
    · refine aw_iconst (n := 0) (v := (0 : Int32)) B (by decide +kernel) (by decide) ?_
      refine aw_istore (i := 4) B [(4, .int (0 : Int32)), (0, .ref 47)] (by decide +kernel) (Nat.le_of_ble_eq_true rfl) rfl ?_
      exact aw_sub [1, 0] rfl (w_X11_goesThrough_L53 hG B FU _ _)
    · refine aw_aload_n (k0 := 0) B 0 (by decide +kernel) rfl rfl ?_
      refine aw_getr (c := 47) B lkX11_52 (by decide +kernel) rfl (r := 62) rfl ?_
      refine aw_iload (i := 4) B 1 (by decide +kernel) rfl ?_
      refine aw_iconst (n := 0) (v := (0 : Int32)) B (by decide +kernel) (by decide) ?_
      refine aw_zastore B (by decide +kernel) (by decide) (fun M1 => ?_)
      refine aw_iinc (i := 4) (n := 1) B 1 [(4, .int (v4 + 1)), (0, .ref 47)] (by decide +kernel) rfl (Nat.le_of_ble_eq_true rfl) (v4 + 1) (ab_inc (by decide)) rfl ?_
      refine aw_goto (off := -19) B 28 (by decide +kernel) (by decide) ?_
      exact aw_sub [1, 0] rfl (ih _ _)
def f_X11_goesThrough (v1 : Int32) (v2 : Int32) (v3 : Int32) (M : Mem) : Option Mem := (f_X11_beats v1 M).bind fun M2 => lt (wI M2 47 22 (0 : Int32)) fun M3 => lt (wI M3 47 27 (0 : Int32)) fun M4 => lt (wI M4 47 28 v2) fun M5 => lt (wI M5 47 29 v3) fun M6 => f_X11_goesThrough_L28 FU (0 : Int32) M6
set_option maxRecDepth 100000 in
set_option maxHeartbeats 4000000 in
theorem w_X11_goesThrough {G : GW} {E : EE} (hG : ab_ok G) (B : Bx G E RX11 cX11_goesThrough 5 45 none) (v1 : Int32) (v2 : Int32) (v3 : Int32) (M : Mem) : AWo G E cX11_goesThrough 5 (ab_Q G E embV) 0 [(0, .ref 47), (1, .int v1), (2, .int v2), (3, .int v3)] [] M (f_X11_goesThrough v1 v2 v3 M) := by
  unfold f_X11_goesThrough
  refine aw_aload_n (k0 := 0) B 0 (by decide +kernel) rfl rfl ?_
  refine aw_iload_n (k0 := 1) B 1 (by decide +kernel) rfl rfl ?_
  refine aw_cVV B (c_X11_beats (eLa E) hG v1 M) cvX11_244 rfl rfl (Nat.le_of_ble_eq_true rfl) rfl (Nat.le_of_ble_eq_true rfl) (by decide +kernel) rfl (fun M2 => ?_)
  refine aw_aload_n (k0 := 0) B 0 (by decide +kernel) rfl rfl ?_
  refine aw_iconst (n := 0) (v := (0 : Int32)) B (by decide +kernel) (by decide) ?_
  refine aw_puti (c := 47) B lkX11_225 lp11_22 (by decide +kernel) rfl (fun M3 => ?_)
  refine aw_aload_n (k0 := 0) B 0 (by decide +kernel) rfl rfl ?_
  refine aw_iconst (n := 0) (v := (0 : Int32)) B (by decide +kernel) (by decide) ?_
  refine aw_puti (c := 47) B lkX11_231 lp11_27 (by decide +kernel) rfl (fun M4 => ?_)
  refine aw_aload_n (k0 := 0) B 0 (by decide +kernel) rfl rfl ?_
  refine aw_iload_n (k0 := 2) B 2 (by decide +kernel) rfl rfl ?_
  refine aw_puti (c := 47) B lkX11_219 lp11_28 (by decide +kernel) rfl (fun M5 => ?_)
  refine aw_aload_n (k0 := 0) B 0 (by decide +kernel) rfl rfl ?_
  refine aw_iload_n (k0 := 3) B 3 (by decide +kernel) rfl rfl ?_
  refine aw_puti (c := 47) B lkX11_222 lp11_29 (by decide +kernel) rfl (fun M6 => ?_)
  refine aw_iconst (n := 0) (v := (0 : Int32)) B (by decide +kernel) (by decide) ?_
  refine aw_istore (i := 4) B [(4, .int (0 : Int32)), (0, .ref 47), (1, .int v1), (2, .int v2), (3, .int v3)] (by decide +kernel) (Nat.le_of_ble_eq_true rfl) rfl ?_
  exact aw_sub [1, 0] rfl (w_X11_goesThrough_L28 hG B FU _ _)
theorem c_X11_goesThrough (l : Launch) {G : GW} (hG : ab_ok G) (v1 : Int32) (v2 : Int32) (v3 : Int32) (M : Mem) : AC l G yX11_goesThrough cX11_goesThrough 5 none 45 [.ref 47, .int v1, .int v2, .int v3] M embV (f_X11_goesThrough v1 v2 v3 M) := AC.of hG (by decide) (Nat.le_of_ble_eq_true rfl) (fun E hE B => by subst hE; exact w_X11_goesThrough hG B v1 v2 v3 M)
def f_X11_orders_b15 (v1 : Int32) (M : Mem) : Option (Int32 × Mem) := (f_X11_allThatCount M).bind fun x1 => (f_X11_goesThrough x1 (-1 : Int32) (0 : Int32) M).bind fun M4 => (if v1 = (-1 : Int32) then (some (M4.1 47 22, M4)) else (if (M4.1 47 22) = 0 then (some ((-2 : Int32), M4)) else ck (okI 59 v1) ((some (M4.1 59 v1.toNatClampNeg, M4)))))
set_option maxRecDepth 100000 in
set_option maxHeartbeats 4000000 in
theorem w_X11_orders_b15 {G : GW} {E : EE} (hG : ab_ok G) (B : Bx G E RX11 cX11_orders 2 46 (some .int)) (v1 : Int32) (M : Mem) : AWo G E cX11_orders 2 (ab_Q G E embI) 15 [(0, .ref 47), (1, .int v1)] [] M (f_X11_orders_b15 v1 M) := by
  unfold f_X11_orders_b15
  refine aw_aload_n (k0 := 0) B 0 (by decide +kernel) rfl rfl ?_
  refine aw_aload_n (k0 := 0) B 0 (by decide +kernel) rfl rfl ?_
  refine aw_cVR B (c_X11_allThatCount (eLa E) hG M) cvX11_248 rfl rfl (Nat.le_of_ble_eq_true rfl) rfl (Nat.le_of_ble_eq_true rfl) (by decide +kernel) rfl (fun x1 => ?_)
  refine aw_iconst (n := -1) (v := (-1 : Int32)) B (by decide +kernel) (by decide) ?_
  refine aw_iconst (n := 0) (v := (0 : Int32)) B (by decide +kernel) (by decide) ?_
  refine aw_cVV B (c_X11_goesThrough (eLa E) hG x1 (-1 : Int32) (0 : Int32) M) cvX11_251 rfl rfl (Nat.le_of_ble_eq_true rfl) rfl (Nat.le_of_ble_eq_true rfl) (by decide +kernel) rfl (fun M4 => ?_)
  refine aw_iload_n (k0 := 1) B 1 (by decide +kernel) rfl rfl ?_
  refine aw_iconst (n := -1) (v := (-1 : Int32)) B (by decide +kernel) (by decide) ?_
  refine aw_icmp_ne (off := 10) B 37 (by decide +kernel) (by decide) (fun _ => ?_) (fun _ => ?_)
  · refine aw_aload_n (k0 := 0) B 0 (by decide +kernel) rfl rfl ?_
    refine aw_geti (c := 47) B lkX11_225 (by decide +kernel) rfl ?_
    refine aw_if_ne (off := 8) B 49 (by decide +kernel) (by decide) (fun _ => ?_) (fun _ => ?_)
    · refine aw_aload_n (k0 := 0) B 0 (by decide +kernel) rfl rfl ?_
      refine aw_getr (c := 47) B lkX11_43 (by decide +kernel) rfl (r := 59) rfl ?_
      refine aw_iload_n (k0 := 1) B 1 (by decide +kernel) rfl rfl ?_
      refine aw_iaload B (by decide +kernel) ?_
      exact aw_ireturn B (by decide +kernel) rfl
    · refine aw_bipush (n := -2) (v := (-2 : Int32)) B (by decide +kernel) (by decide) ?_
      refine aw_goto (off := 9) B 55 (by decide +kernel) (by decide) ?_
      exact aw_ireturn B (by decide +kernel) rfl
  · refine aw_aload_n (k0 := 0) B 0 (by decide +kernel) rfl rfl ?_
    refine aw_geti (c := 47) B lkX11_225 (by decide +kernel) rfl ?_
    refine aw_goto (off := 21) B 55 (by decide +kernel) (by decide) ?_
    exact aw_ireturn B (by decide +kernel) rfl
def f_X11_orders (v1 : Int32) (M : Mem) : Option (Int32 × Mem) := (if v1 = (-1 : Int32) then f_X11_orders_b15 v1 M else (f_X11_isPlayer v1 M).bind fun x1 => (if x1 = 0 then (some ((-1 : Int32), M)) else f_X11_orders_b15 v1 M))
set_option maxRecDepth 100000 in
set_option maxHeartbeats 4000000 in
theorem w_X11_orders {G : GW} {E : EE} (hG : ab_ok G) (B : Bx G E RX11 cX11_orders 2 46 (some .int)) (v1 : Int32) (M : Mem) : AWo G E cX11_orders 2 (ab_Q G E embI) 0 [(0, .ref 47), (1, .int v1)] [] M (f_X11_orders v1 M) := by
  unfold f_X11_orders
  refine aw_iload_n (k0 := 1) B 1 (by decide +kernel) rfl rfl ?_
  refine aw_iconst (n := -1) (v := (-1 : Int32)) B (by decide +kernel) (by decide) ?_
  refine aw_icmp_eq (off := 13) B 15 (by decide +kernel) (by decide) (fun _ => ?_) (fun _ => ?_)
  · exact w_X11_orders_b15 hG B _ _
  · refine aw_aload_n (k0 := 0) B 0 (by decide +kernel) rfl rfl ?_
    refine aw_iload_n (k0 := 1) B 1 (by decide +kernel) rfl rfl ?_
    refine aw_cVR B (c_X11_isPlayer (eLa E) hG v1 M) cvX11_135 rfl rfl (Nat.le_of_ble_eq_true rfl) rfl (Nat.le_of_ble_eq_true rfl) (by decide +kernel) rfl (fun x1 => ?_)
    refine aw_if_ne (off := 5) B 15 (by decide +kernel) (by decide) (fun _ => ?_) (fun _ => ?_)
    · exact w_X11_orders_b15 hG B _ _
    · refine aw_iconst (n := -1) (v := (-1 : Int32)) B (by decide +kernel) (by decide) ?_
      exact aw_ireturn B (by decide +kernel) rfl
theorem c_X11_orders (l : Launch) {G : GW} (hG : ab_ok G) (v1 : Int32) (M : Mem) : AC l G yX11_orders cX11_orders 2 (some .int) 46 [.ref 47, .int v1] M embI (f_X11_orders v1 M) := AC.of hG (by decide) (Nat.le_of_ble_eq_true rfl) (fun E hE B => by subst hE; exact w_X11_orders hG B v1 M)
def f_X7_isBetter_b38 (k2 : Int32 → Int32 → Int32 → Option Int32) (M : Mem) (v1 : Int32) (v2 : Int32) (v3 : Int32) : Option Int32 := k2 v1 v2 (v3 + 1)
set_option maxRecDepth 100000 in
set_option maxHeartbeats 4000000 in
theorem w_X7_isBetter_b38 {G : GW} {E : EE} (hG : ab_ok G) (M : Mem) {k2 : Int32 → Int32 → Int32 → Option Int32} (B : Bx G E RX7 cX7_isBetter 4 2 (some .boolean)) (hk2 : ∀ (v1 : Int32) (v2 : Int32) (v3 : Int32), AWo G E cX7_isBetter 4 (ab_Q G E (embRI M)) 2 [(0, .ref 11), (1, .int v1), (2, .int v2), (3, .int v3)] [] M (k2 v1 v2 v3)) (v1 : Int32) (v2 : Int32) (v3 : Int32) : AWo G E cX7_isBetter 4 (ab_Q G E (embRI M)) 38 [(0, .ref 11), (1, .int v1), (2, .int v2), (3, .int v3)] [] M (f_X7_isBetter_b38 k2 M v1 v2 v3) := by
  unfold f_X7_isBetter_b38
  refine aw_iinc (i := 3) (n := 1) B 3 [(3, .int (v3 + 1)), (0, .ref 11), (1, .int v1), (2, .int v2)] (by decide +kernel) rfl (Nat.le_of_ble_eq_true rfl) (v3 + 1) (ab_inc (by decide)) rfl ?_
  refine aw_goto (off := -39) B 2 (by decide +kernel) (by decide) ?_
  exact aw_sub [1, 2, 3, 0] rfl (hk2 _ _ _)
def f_X7_isBetter_L2 (M : Mem) : Nat → Int32 → Int32 → Int32 → Option Int32
  | 0, _, _, _ => none
  | n + 1, v1, v2, v3 => (if (M.1 11 2) < v3 then (some (1 : Int32)) else ck (okI 13 v3) ((if (M.1 13 v3.toNatClampNeg) ≤ 0 then f_X7_isBetter_b38 (fun a0 a1 a2 => f_X7_isBetter_L2 M n a0 a1 a2) M v1 v2 v3 else (if ((ab_shr v3 v2) &&& (1 : Int32)) = (1 : Int32) then (if ((ab_shr v3 v1) &&& (1 : Int32)) = 0 then (some (0 : Int32)) else f_X7_isBetter_b38 (fun a0 a1 a2 => f_X7_isBetter_L2 M n a0 a1 a2) M v1 v2 v3) else f_X7_isBetter_b38 (fun a0 a1 a2 => f_X7_isBetter_L2 M n a0 a1 a2) M v1 v2 v3))))
set_option maxRecDepth 100000 in
set_option maxHeartbeats 4000000 in
theorem w_X7_isBetter_L2 {G : GW} {E : EE} (hG : ab_ok G) (M : Mem) (B : Bx G E RX7 cX7_isBetter 4 2 (some .boolean)) : ∀ (n : Nat) (v1 : Int32) (v2 : Int32) (v3 : Int32), AWo G E cX7_isBetter 4 (ab_Q G E (embRI M)) 2 [(0, .ref 11), (1, .int v1), (2, .int v2), (3, .int v3)] [] M (f_X7_isBetter_L2 M n v1 v2 v3) := by
  intro n
  induction n with
  | zero => intro _ _ _; exact aw_none
  | succ n ih =>
    intro v1 v2 v3
    rw [f_X7_isBetter_L2]
    refine aw_iload_n (k0 := 3) B 3 (by decide +kernel) rfl rfl ?_
    refine aw_aload_n (k0 := 0) B 0 (by decide +kernel) rfl rfl ?_
    refine aw_geti (c := 11) B lkX7_22 (by decide +kernel) rfl ?_
    refine aw_icmp_gt (off := 37) B 44 (by decide +kernel) (by decide) (fun _ => ?_) (fun _ => ?_)
    · refine aw_iconst (n := 1) (v := (1 : Int32)) B (by decide +kernel) (by decide) ?_
      exact aw_zreturnK B (by decide +kernel) rfl (by decide)
    · refine aw_aload_n (k0 := 0) B 0 (by decide +kernel) rfl rfl ?_
      refine aw_getr (c := 11) B lkX7_15 (by decide +kernel) rfl (r := 13) rfl ?_
      refine aw_iload_n (k0 := 3) B 3 (by decide +kernel) rfl rfl ?_
      refine aw_iaload B (by decide +kernel) ?_
      refine aw_if_le (off := 22) B 38 (by decide +kernel) (by decide) (fun _ => ?_) (fun _ => ?_)
      · exact w_X7_isBetter_b38 hG M B ih _ _ _
      · refine aw_iload_n (k0 := 3) B 3 (by decide +kernel) rfl rfl ?_
        refine aw_iload_n (k0 := 2) B 2 (by decide +kernel) rfl rfl ?_
        refine aw_ishr B (by decide +kernel) ?_
        refine aw_iconst (n := 1) (v := (1 : Int32)) B (by decide +kernel) (by decide) ?_
        refine aw_iand B (by decide +kernel) ?_
        refine aw_iconst (n := 1) (v := (1 : Int32)) B (by decide +kernel) (by decide) ?_
        refine aw_icmp_ne (off := 13) B 38 (by decide +kernel) (by decide) (fun _ => ?_) (fun _ => ?_)
        · exact w_X7_isBetter_b38 hG M B ih _ _ _
        · refine aw_iload_n (k0 := 3) B 3 (by decide +kernel) rfl rfl ?_
          refine aw_iload_n (k0 := 1) B 1 (by decide +kernel) rfl rfl ?_
          refine aw_ishr B (by decide +kernel) ?_
          refine aw_iconst (n := 1) (v := (1 : Int32)) B (by decide +kernel) (by decide) ?_
          refine aw_iand B (by decide +kernel) ?_
          refine aw_if_ne (off := 5) B 38 (by decide +kernel) (by decide) (fun _ => ?_) (fun _ => ?_)
          · exact w_X7_isBetter_b38 hG M B ih _ _ _
          · refine aw_iconst (n := 0) (v := (0 : Int32)) B (by decide +kernel) (by decide) ?_
            exact aw_zreturnK B (by decide +kernel) rfl (by decide)
def f_X7_isBetter (v1 : Int32) (v2 : Int32) (M : Mem) : Option Int32 := f_X7_isBetter_L2 M FU v1 v2 (0 : Int32)
set_option maxRecDepth 100000 in
set_option maxHeartbeats 4000000 in
theorem w_X7_isBetter {G : GW} {E : EE} (hG : ab_ok G) (B : Bx G E RX7 cX7_isBetter 4 2 (some .boolean)) (v1 : Int32) (v2 : Int32) (M : Mem) : AWo G E cX7_isBetter 4 (ab_Q G E (embRI M)) 0 [(0, .ref 11), (1, .int v1), (2, .int v2)] [] M (f_X7_isBetter v1 v2 M) := by
  unfold f_X7_isBetter
  refine aw_iconst (n := 0) (v := (0 : Int32)) B (by decide +kernel) (by decide) ?_
  refine aw_istore_n (k0 := 3) B [(3, .int (0 : Int32)), (0, .ref 11), (1, .int v1), (2, .int v2)] (by decide +kernel) rfl (Nat.le_of_ble_eq_true rfl) rfl ?_
  exact aw_sub [1, 2, 3, 0] rfl (w_X7_isBetter_L2 hG M B FU _ _ _)
theorem c_X7_isBetter (l : Launch) {G : GW} (hG : ab_ok G) (v1 : Int32) (v2 : Int32) (M : Mem) : AC l G yX7_isBetter cX7_isBetter 4 (some .boolean) 2 [.ref 11, .int v1, .int v2] M (embRI M) (f_X7_isBetter v1 v2 M) := AC.of hG (by decide) (Nat.le_of_ble_eq_true rfl) (fun E hE B => by subst hE; exact w_X7_isBetter hG B v1 v2 M)
def f_X10_sure (v1 : Int32) (M : Mem) : Option (Int32 × Mem) := (f_X4_isPair v1 M).bind fun x1 => (if x1 = 0 then (some ((-1 : Int32), M)) else (f_X10_tallied M).bind fun M4 => (f_X7_all_11 M4).bind fun x5 => (if x5 = 0 then (some ((0 : Int32), M4)) else (f_X7_isBetter (v1 / (10 : Int32)) (ab_rem v1 (10 : Int32)) M4).bind fun x7 => (if x7 = 0 then (f_X7_isBetter (ab_rem v1 (10 : Int32)) (v1 / (10 : Int32)) M4).bind fun x9 => (if x9 = 0 then (some ((0 : Int32), M4)) else (some ((2 : Int32), M4))) else (some ((1 : Int32), M4)))))
set_option maxRecDepth 100000 in
set_option maxHeartbeats 4000000 in
theorem w_X10_sure {G : GW} {E : EE} (hG : ab_ok G) (B : Bx G E RX10 cX10_sure 3 6 (some .int)) (v1 : Int32) (M : Mem) : AWo G E cX10_sure 3 (ab_Q G E embI) 0 [(0, .ref 0), (1, .int v1)] [] M (f_X10_sure v1 M) := by
  unfold f_X10_sure
  refine aw_aload_n (k0 := 0) B 0 (by decide +kernel) rfl rfl ?_
  refine aw_getr (c := 0) B lkX10_10 (by decide +kernel) rfl (r := 1) rfl ?_
  refine aw_iload_n (k0 := 1) B 1 (by decide +kernel) rfl rfl ?_
  refine aw_cVR B (c_X4_isPair (eLa E) hG v1 M) cvX10_87 rfl rfl (Nat.le_of_ble_eq_true rfl) rfl (Nat.le_of_ble_eq_true rfl) (by decide +kernel) rfl (fun x1 => ?_)
  refine aw_if_ne (off := 5) B 13 (by decide +kernel) (by decide) (fun _ => ?_) (fun _ => ?_)
  · refine aw_aload_n (k0 := 0) B 0 (by decide +kernel) rfl rfl ?_
    refine aw_cVA B (c_X10_tallied (eLa E) hG M) cvX10_171 rfl rfl (Nat.le_of_ble_eq_true rfl) rfl (Nat.le_of_ble_eq_true rfl) (by decide +kernel) rfl (fun M4 => ?_)
    refine aw_astore_n (k0 := 2) B [(2, .ref 11), (0, .ref 0), (1, .int v1)] (by decide +kernel) rfl (Nat.le_of_ble_eq_true rfl) rfl ?_
    refine aw_aload_n (k0 := 2) B 0 (by decide +kernel) rfl rfl ?_
    refine aw_cVR B (c_X7_all_11 (eLa E) hG M4) cvX10_175 rfl rfl (Nat.le_of_ble_eq_true rfl) rfl (Nat.le_of_ble_eq_true rfl) (by decide +kernel) rfl (fun x5 => ?_)
    refine aw_if_ne (off := 5) B 27 (by decide +kernel) (by decide) (fun _ => ?_) (fun _ => ?_)
    · refine aw_aload_n (k0 := 2) B 0 (by decide +kernel) rfl rfl ?_
      refine aw_iload_n (k0 := 1) B 2 (by decide +kernel) rfl rfl ?_
      refine aw_bipush (n := 10) (v := (10 : Int32)) B (by decide +kernel) (by decide) ?_
      refine aw_idivK B (by decide +kernel) (by decide) ?_
      refine aw_iload_n (k0 := 1) B 2 (by decide +kernel) rfl rfl ?_
      refine aw_bipush (n := 10) (v := (10 : Int32)) B (by decide +kernel) (by decide) ?_
      refine aw_iremK B (by decide +kernel) (by decide) ?_
      refine aw_cVR B (c_X7_isBetter (eLa E) hG (v1 / (10 : Int32)) (ab_rem v1 (10 : Int32)) M4) cvX10_181 rfl rfl (Nat.le_of_ble_eq_true rfl) rfl (Nat.le_of_ble_eq_true rfl) (by decide +kernel) rfl (fun x7 => ?_)
      refine aw_if_eq (off := 5) B 44 (by decide +kernel) (by decide) (fun _ => ?_) (fun _ => ?_)
      · refine aw_aload_n (k0 := 2) B 0 (by decide +kernel) rfl rfl ?_
        refine aw_iload_n (k0 := 1) B 2 (by decide +kernel) rfl rfl ?_
        refine aw_bipush (n := 10) (v := (10 : Int32)) B (by decide +kernel) (by decide) ?_
        refine aw_iremK B (by decide +kernel) (by decide) ?_
        refine aw_iload_n (k0 := 1) B 2 (by decide +kernel) rfl rfl ?_
        refine aw_bipush (n := 10) (v := (10 : Int32)) B (by decide +kernel) (by decide) ?_
        refine aw_idivK B (by decide +kernel) (by decide) ?_
        refine aw_cVR B (c_X7_isBetter (eLa E) hG (ab_rem v1 (10 : Int32)) (v1 / (10 : Int32)) M4) cvX10_181 rfl rfl (Nat.le_of_ble_eq_true rfl) rfl (Nat.le_of_ble_eq_true rfl) (by decide +kernel) rfl (fun x9 => ?_)
        refine aw_if_eq (off := 7) B 63 (by decide +kernel) (by decide) (fun _ => ?_) (fun _ => ?_)
        · refine aw_iconst (n := 0) (v := (0 : Int32)) B (by decide +kernel) (by decide) ?_
          exact aw_ireturn B (by decide +kernel) rfl
        · refine aw_iconst (n := 2) (v := (2 : Int32)) B (by decide +kernel) (by decide) ?_
          refine aw_goto (off := 4) B 64 (by decide +kernel) (by decide) ?_
          exact aw_ireturn B (by decide +kernel) rfl
      · refine aw_iconst (n := 1) (v := (1 : Int32)) B (by decide +kernel) (by decide) ?_
        exact aw_ireturn B (by decide +kernel) rfl
    · refine aw_iconst (n := 0) (v := (0 : Int32)) B (by decide +kernel) (by decide) ?_
      exact aw_ireturn B (by decide +kernel) rfl
  · refine aw_iconst (n := -1) (v := (-1 : Int32)) B (by decide +kernel) (by decide) ?_
    exact aw_ireturn B (by decide +kernel) rfl
theorem c_X10_sure (l : Launch) {G : GW} (hG : ab_ok G) (v1 : Int32) (M : Mem) : AC l G yX10_sure cX10_sure 3 (some .int) 6 [.ref 0, .int v1] M embI (f_X10_sure v1 M) := AC.of hG (by decide) (Nat.le_of_ble_eq_true rfl) (fun E hE B => by subst hE; exact w_X10_sure hG B v1 M)
def f_X11_sure (v1 : Int32) (M : Mem) : Option (Int32 × Mem) := (if v1 < 0 then (some ((-1 : Int32), M)) else (f_X11_areTwo ((v1 / (10 : Int32)).toInt64) ((ab_rem v1 (10 : Int32)).toInt64) M).bind fun x1 => (if x1 = 0 then (some ((-1 : Int32), M)) else (f_X11_allThatCount M).bind fun x3 => (f_X11_goesThrough x3 (-1 : Int32) (0 : Int32) M).bind fun M6 => ck (okI 61 (((8 : Int32) * (v1 / (10 : Int32))) + (ab_rem v1 (10 : Int32)))) (lt (M6.1 61 (((8 : Int32) * (v1 / (10 : Int32))) + (ab_rem v1 (10 : Int32))).toNatClampNeg) fun x7 => (if (M6.1 47 22) = 0 then (some ((0 : Int32), M6)) else (if x7 = (M6.1 47 22) then (some ((1 : Int32), M6)) else (if x7 = 0 then (some ((2 : Int32), M6)) else (some ((0 : Int32), M6))))))))
set_option maxRecDepth 100000 in
set_option maxHeartbeats 4000000 in
theorem w_X11_sure {G : GW} {E : EE} (hG : ab_ok G) (B : Bx G E RX11 cX11_sure 3 46 (some .int)) (v1 : Int32) (M : Mem) : AWo G E cX11_sure 3 (ab_Q G E embI) 0 [(0, .ref 47), (1, .int v1)] [] M (f_X11_sure v1 M) := by
  unfold f_X11_sure
  refine aw_iload_n (k0 := 1) B 1 (by decide +kernel) rfl rfl ?_
  refine aw_if_lt (off := 20) B 21 (by decide +kernel) (by decide) (fun _ => ?_) (fun _ => ?_)
  · refine aw_iconst (n := -1) (v := (-1 : Int32)) B (by decide +kernel) (by decide) ?_
    exact aw_ireturn B (by decide +kernel) rfl
  · refine aw_aload_n (k0 := 0) B 0 (by decide +kernel) rfl rfl ?_
    refine aw_iload_n (k0 := 1) B 1 (by decide +kernel) rfl rfl ?_
    refine aw_bipush (n := 10) (v := (10 : Int32)) B (by decide +kernel) (by decide) ?_
    refine aw_idivK B (by decide +kernel) (by decide) ?_
    refine aw_i2l B (by decide +kernel) ?_
    refine aw_iload_n (k0 := 1) B 1 (by decide +kernel) rfl rfl ?_
    refine aw_bipush (n := 10) (v := (10 : Int32)) B (by decide +kernel) (by decide) ?_
    refine aw_iremK B (by decide +kernel) (by decide) ?_
    refine aw_i2l B (by decide +kernel) ?_
    refine aw_cVR B (c_X11_areTwo (eLa E) hG ((v1 / (10 : Int32)).toInt64) ((ab_rem v1 (10 : Int32)).toInt64) M) cvX11_121 rfl rfl (Nat.le_of_ble_eq_true rfl) rfl (Nat.le_of_ble_eq_true rfl) (by decide +kernel) rfl (fun x1 => ?_)
    refine aw_if_ne (off := 5) B 23 (by decide +kernel) (by decide) (fun _ => ?_) (fun _ => ?_)
    · refine aw_aload_n (k0 := 0) B 0 (by decide +kernel) rfl rfl ?_
      refine aw_aload_n (k0 := 0) B 0 (by decide +kernel) rfl rfl ?_
      refine aw_cVR B (c_X11_allThatCount (eLa E) hG M) cvX11_248 rfl rfl (Nat.le_of_ble_eq_true rfl) rfl (Nat.le_of_ble_eq_true rfl) (by decide +kernel) rfl (fun x3 => ?_)
      refine aw_iconst (n := -1) (v := (-1 : Int32)) B (by decide +kernel) (by decide) ?_
      refine aw_iconst (n := 0) (v := (0 : Int32)) B (by decide +kernel) (by decide) ?_
      refine aw_cVV B (c_X11_goesThrough (eLa E) hG x3 (-1 : Int32) (0 : Int32) M) cvX11_251 rfl rfl (Nat.le_of_ble_eq_true rfl) rfl (Nat.le_of_ble_eq_true rfl) (by decide +kernel) rfl (fun M6 => ?_)
      refine aw_aload_n (k0 := 0) B 0 (by decide +kernel) rfl rfl ?_
      refine aw_getr (c := 47) B lkX11_49 (by decide +kernel) rfl (r := 61) rfl ?_
      refine aw_bipush (n := 8) (v := (8 : Int32)) B (by decide +kernel) (by decide) ?_
      refine aw_iload_n (k0 := 1) B 1 (by decide +kernel) rfl rfl ?_
      refine aw_bipush (n := 10) (v := (10 : Int32)) B (by decide +kernel) (by decide) ?_
      refine aw_idivK B (by decide +kernel) (by decide) ?_
      refine aw_imul B (by decide +kernel) ?_
      refine aw_iload_n (k0 := 1) B 1 (by decide +kernel) rfl rfl ?_
      refine aw_bipush (n := 10) (v := (10 : Int32)) B (by decide +kernel) (by decide) ?_
      refine aw_iremK B (by decide +kernel) (by decide) ?_
      refine aw_iadd B (by decide +kernel) ?_
      refine aw_iaload B (by decide +kernel) ?_
      refine aw_ltI (fun x7 => ?_)
      refine aw_istore_n (k0 := 2) B [(2, .int x7), (0, .ref 47), (1, .int v1)] (by decide +kernel) rfl (Nat.le_of_ble_eq_true rfl) rfl ?_
      refine aw_aload_n (k0 := 0) B 1 (by decide +kernel) rfl rfl ?_
      refine aw_geti (c := 47) B lkX11_225 (by decide +kernel) rfl ?_
      refine aw_if_ne (off := 7) B 62 (by decide +kernel) (by decide) (fun _ => ?_) (fun _ => ?_)
      · refine aw_iload_n (k0 := 2) B 0 (by decide +kernel) rfl rfl ?_
        refine aw_aload_n (k0 := 0) B 1 (by decide +kernel) rfl rfl ?_
        refine aw_geti (c := 47) B lkX11_225 (by decide +kernel) rfl ?_
        refine aw_icmp_ne (off := 7) B 74 (by decide +kernel) (by decide) (fun _ => ?_) (fun _ => ?_)
        · refine aw_iload_n (k0 := 2) B 0 (by decide +kernel) rfl rfl ?_
          refine aw_if_ne (off := 7) B 82 (by decide +kernel) (by decide) (fun _ => ?_) (fun _ => ?_)
          · refine aw_iconst (n := 0) (v := (0 : Int32)) B (by decide +kernel) (by decide) ?_
            exact aw_ireturn B (by decide +kernel) rfl
          · refine aw_iconst (n := 2) (v := (2 : Int32)) B (by decide +kernel) (by decide) ?_
            refine aw_goto (off := 4) B 83 (by decide +kernel) (by decide) ?_
            exact aw_ireturn B (by decide +kernel) rfl
        · refine aw_iconst (n := 1) (v := (1 : Int32)) B (by decide +kernel) (by decide) ?_
          refine aw_goto (off := 12) B 83 (by decide +kernel) (by decide) ?_
          exact aw_ireturn B (by decide +kernel) rfl
      · refine aw_iconst (n := 0) (v := (0 : Int32)) B (by decide +kernel) (by decide) ?_
        refine aw_goto (off := 24) B 83 (by decide +kernel) (by decide) ?_
        exact aw_ireturn B (by decide +kernel) rfl
    · refine aw_iconst (n := -1) (v := (-1 : Int32)) B (by decide +kernel) (by decide) ?_
      exact aw_ireturn B (by decide +kernel) rfl
theorem c_X11_sure (l : Launch) {G : GW} (hG : ab_ok G) (v1 : Int32) (M : Mem) : AC l G yX11_sure cX11_sure 3 (some .int) 46 [.ref 47, .int v1] M embI (f_X11_sure v1 M) := AC.of hG (by decide) (Nat.le_of_ble_eq_true rfl) (fun E hE B => by subst hE; exact w_X11_sure hG B v1 M)
def f_X7_placesOf_b43 (k4 : Int32 → Int32 → Int32 → Option Int32) (M : Mem) (v1 : Int32) (v2 : Int32) (v3 : Int32) : Option Int32 := k4 v1 v2 (v3 + 1)
set_option maxRecDepth 100000 in
set_option maxHeartbeats 4000000 in
theorem w_X7_placesOf_b43 {G : GW} {E : EE} (hG : ab_ok G) (M : Mem) {k4 : Int32 → Int32 → Int32 → Option Int32} (B : Bx G E RX7 cX7_placesOf 4 3 (some .int)) (hk4 : ∀ (v1 : Int32) (v2 : Int32) (v3 : Int32), AWo G E cX7_placesOf 4 (ab_Q G E (embRI M)) 4 [(0, .ref 11), (1, .int v1), (2, .int v2), (3, .int v3)] [] M (k4 v1 v2 v3)) (v1 : Int32) (v2 : Int32) (v3 : Int32) : AWo G E cX7_placesOf 4 (ab_Q G E (embRI M)) 43 [(0, .ref 11), (1, .int v1), (2, .int v2), (3, .int v3)] [] M (f_X7_placesOf_b43 k4 M v1 v2 v3) := by
  unfold f_X7_placesOf_b43
  refine aw_iinc (i := 3) (n := 1) B 3 [(3, .int (v3 + 1)), (0, .ref 11), (1, .int v1), (2, .int v2)] (by decide +kernel) rfl (Nat.le_of_ble_eq_true rfl) (v3 + 1) (ab_inc (by decide)) rfl ?_
  refine aw_goto (off := -42) B 4 (by decide +kernel) (by decide) ?_
  exact aw_sub [1, 2, 3, 0] rfl (hk4 _ _ _)
def f_X7_placesOf_L4 (M : Mem) : Nat → Int32 → Int32 → Int32 → Option Int32
  | 0, _, _, _ => none
  | n + 1, v1, v2, v3 => (if (M.1 11 2) ≤ v3 then (some v2) else ck (okI 13 v3) ((if (M.1 13 v3.toNatClampNeg) ≤ 0 then f_X7_placesOf_b43 (fun a0 a1 a2 => f_X7_placesOf_L4 M n a0 a1 a2) M v1 v2 v3 else (f_X7_followers_11 v3 M).bind fun x1 => (if ((ab_shr x1 v1) &&& (1 : Int32)) = (1 : Int32) then (f_J6_bitCount_0f7a4 v3).bind fun x3 => lt (v2 ||| (ab_shl (1 : Int32) x3)) fun x5 => f_X7_placesOf_b43 (fun a0 a1 a2 => f_X7_placesOf_L4 M n a0 a1 a2) M v1 x5 v3 else f_X7_placesOf_b43 (fun a0 a1 a2 => f_X7_placesOf_L4 M n a0 a1 a2) M v1 v2 v3))))
set_option maxRecDepth 100000 in
set_option maxHeartbeats 4000000 in
theorem w_X7_placesOf_L4 {G : GW} {E : EE} (hG : ab_ok G) (M : Mem) (B : Bx G E RX7 cX7_placesOf 4 3 (some .int)) : ∀ (n : Nat) (v1 : Int32) (v2 : Int32) (v3 : Int32), AWo G E cX7_placesOf 4 (ab_Q G E (embRI M)) 4 [(0, .ref 11), (1, .int v1), (2, .int v2), (3, .int v3)] [] M (f_X7_placesOf_L4 M n v1 v2 v3) := by
  intro n
  induction n with
  | zero => intro _ _ _; exact aw_none
  | succ n ih =>
    intro v1 v2 v3
    rw [f_X7_placesOf_L4]
    refine aw_iload_n (k0 := 3) B 3 (by decide +kernel) rfl rfl ?_
    refine aw_aload_n (k0 := 0) B 0 (by decide +kernel) rfl rfl ?_
    refine aw_geti (c := 11) B lkX7_22 (by decide +kernel) rfl ?_
    refine aw_icmp_ge (off := 40) B 49 (by decide +kernel) (by decide) (fun _ => ?_) (fun _ => ?_)
    · refine aw_iload_n (k0 := 2) B 2 (by decide +kernel) rfl rfl ?_
      exact aw_ireturn B (by decide +kernel) rfl
    · refine aw_aload_n (k0 := 0) B 0 (by decide +kernel) rfl rfl ?_
      refine aw_getr (c := 11) B lkX7_15 (by decide +kernel) rfl (r := 13) rfl ?_
      refine aw_iload_n (k0 := 3) B 3 (by decide +kernel) rfl rfl ?_
      refine aw_iaload B (by decide +kernel) ?_
      refine aw_if_le (off := 25) B 43 (by decide +kernel) (by decide) (fun _ => ?_) (fun _ => ?_)
      · exact w_X7_placesOf_b43 hG M B ih _ _ _
      · refine aw_aload_n (k0 := 0) B 0 (by decide +kernel) rfl rfl ?_
        refine aw_iload_n (k0 := 3) B 3 (by decide +kernel) rfl rfl ?_
        refine aw_cVR B (c_X7_followers_11 (eLa E) hG v3 M) cvX7_52 rfl rfl (Nat.le_of_ble_eq_true rfl) rfl (Nat.le_of_ble_eq_true rfl) (by decide +kernel) rfl (fun x1 => ?_)
        refine aw_iload_n (k0 := 1) B 1 (by decide +kernel) rfl rfl ?_
        refine aw_ishr B (by decide +kernel) ?_
        refine aw_iconst (n := 1) (v := (1 : Int32)) B (by decide +kernel) (by decide) ?_
        refine aw_iand B (by decide +kernel) ?_
        refine aw_iconst (n := 1) (v := (1 : Int32)) B (by decide +kernel) (by decide) ?_
        refine aw_icmp_ne (off := 12) B 43 (by decide +kernel) (by decide) (fun _ => ?_) (fun _ => ?_)
        · exact w_X7_placesOf_b43 hG M B ih _ _ _
        · refine aw_iload_n (k0 := 2) B 2 (by decide +kernel) rfl rfl ?_
          refine aw_iconst (n := 1) (v := (1 : Int32)) B (by decide +kernel) (by decide) ?_
          refine aw_iload_n (k0 := 3) B 3 (by decide +kernel) rfl rfl ?_
          refine aw_cSR B (c_J6_bitCount_0f7a4 (eLa E) hG v3 M) csX7_56 (Nat.le_of_ble_eq_true rfl) rfl (Nat.le_of_ble_eq_true rfl) (by decide +kernel) rfl (fun x3 => ?_)
          refine aw_ishl B (by decide +kernel) ?_
          refine aw_ior B (by decide +kernel) ?_
          refine aw_ltI (fun x5 => ?_)
          refine aw_istore_n (k0 := 2) B [(2, .int x5), (0, .ref 11), (1, .int v1), (3, .int v3)] (by decide +kernel) rfl (Nat.le_of_ble_eq_true rfl) rfl ?_
          exact aw_sub [1, 2, 0, 3] rfl (w_X7_placesOf_b43 hG M B ih _ _ _)
def f_X7_placesOf (v1 : Int32) (M : Mem) : Option Int32 := f_X7_placesOf_L4 M FU v1 (0 : Int32) (0 : Int32)
set_option maxRecDepth 100000 in
set_option maxHeartbeats 4000000 in
theorem w_X7_placesOf {G : GW} {E : EE} (hG : ab_ok G) (B : Bx G E RX7 cX7_placesOf 4 3 (some .int)) (v1 : Int32) (M : Mem) : AWo G E cX7_placesOf 4 (ab_Q G E (embRI M)) 0 [(0, .ref 11), (1, .int v1)] [] M (f_X7_placesOf v1 M) := by
  unfold f_X7_placesOf
  refine aw_iconst (n := 0) (v := (0 : Int32)) B (by decide +kernel) (by decide) ?_
  refine aw_istore_n (k0 := 2) B [(2, .int (0 : Int32)), (0, .ref 11), (1, .int v1)] (by decide +kernel) rfl (Nat.le_of_ble_eq_true rfl) rfl ?_
  refine aw_iconst (n := 0) (v := (0 : Int32)) B (by decide +kernel) (by decide) ?_
  refine aw_istore_n (k0 := 3) B [(3, .int (0 : Int32)), (2, .int (0 : Int32)), (0, .ref 11), (1, .int v1)] (by decide +kernel) rfl (Nat.le_of_ble_eq_true rfl) rfl ?_
  exact aw_sub [2, 3, 1, 0] rfl (w_X7_placesOf_L4 hG M B FU _ _ _)
theorem c_X7_placesOf (l : Launch) {G : GW} (hG : ab_ok G) (v1 : Int32) (M : Mem) : AC l G yX7_placesOf cX7_placesOf 4 (some .int) 3 [.ref 11, .int v1] M (embRI M) (f_X7_placesOf v1 M) := AC.of hG (by decide) (Nat.le_of_ble_eq_true rfl) (fun E hE B => by subst hE; exact w_X7_placesOf hG B v1 M)
def f_X10_places (v1 : Int32) (M : Mem) : Option (Int32 × Mem) := (f_X4_hasPlayer v1 M).bind fun x1 => (if x1 = 0 then (some ((-1 : Int32), M)) else (f_X10_tallied M).bind fun M4 => (f_X7_all_11 M4).bind fun x5 => (if x5 = 0 then (some ((0 : Int32), M4)) else (f_X7_placesOf v1 M4).bind fun x7 => (some (x7, M4))))
set_option maxRecDepth 100000 in
set_option maxHeartbeats 4000000 in
theorem w_X10_places {G : GW} {E : EE} (hG : ab_ok G) (B : Bx G E RX10 cX10_places 3 6 (some .int)) (v1 : Int32) (M : Mem) : AWo G E cX10_places 3 (ab_Q G E embI) 0 [(0, .ref 0), (1, .int v1)] [] M (f_X10_places v1 M) := by
  unfold f_X10_places
  refine aw_aload_n (k0 := 0) B 0 (by decide +kernel) rfl rfl ?_
  refine aw_getr (c := 0) B lkX10_10 (by decide +kernel) rfl (r := 1) rfl ?_
  refine aw_iload_n (k0 := 1) B 1 (by decide +kernel) rfl rfl ?_
  refine aw_cVR B (c_X4_hasPlayer (eLa E) hG v1 M) cvX10_135 rfl rfl (Nat.le_of_ble_eq_true rfl) rfl (Nat.le_of_ble_eq_true rfl) (by decide +kernel) rfl (fun x1 => ?_)
  refine aw_if_ne (off := 5) B 13 (by decide +kernel) (by decide) (fun _ => ?_) (fun _ => ?_)
  · refine aw_aload_n (k0 := 0) B 0 (by decide +kernel) rfl rfl ?_
    refine aw_cVA B (c_X10_tallied (eLa E) hG M) cvX10_171 rfl rfl (Nat.le_of_ble_eq_true rfl) rfl (Nat.le_of_ble_eq_true rfl) (by decide +kernel) rfl (fun M4 => ?_)
    refine aw_astore_n (k0 := 2) B [(2, .ref 11), (0, .ref 0), (1, .int v1)] (by decide +kernel) rfl (Nat.le_of_ble_eq_true rfl) rfl ?_
    refine aw_aload_n (k0 := 2) B 0 (by decide +kernel) rfl rfl ?_
    refine aw_cVR B (c_X7_all_11 (eLa E) hG M4) cvX10_175 rfl rfl (Nat.le_of_ble_eq_true rfl) rfl (Nat.le_of_ble_eq_true rfl) (by decide +kernel) rfl (fun x5 => ?_)
    refine aw_if_ne (off := 7) B 29 (by decide +kernel) (by decide) (fun _ => ?_) (fun _ => ?_)
    · refine aw_aload_n (k0 := 2) B 0 (by decide +kernel) rfl rfl ?_
      refine aw_iload_n (k0 := 1) B 2 (by decide +kernel) rfl rfl ?_
      refine aw_cVR B (c_X7_placesOf (eLa E) hG v1 M4) cvX10_184 rfl rfl (Nat.le_of_ble_eq_true rfl) rfl (Nat.le_of_ble_eq_true rfl) (by decide +kernel) rfl (fun x7 => ?_)
      exact aw_ireturn B (by decide +kernel) rfl
    · refine aw_iconst (n := 0) (v := (0 : Int32)) B (by decide +kernel) (by decide) ?_
      refine aw_goto (off := 8) B 34 (by decide +kernel) (by decide) ?_
      exact aw_ireturn B (by decide +kernel) rfl
  · refine aw_iconst (n := -1) (v := (-1 : Int32)) B (by decide +kernel) (by decide) ?_
    exact aw_ireturn B (by decide +kernel) rfl
theorem c_X10_places (l : Launch) {G : GW} (hG : ab_ok G) (v1 : Int32) (M : Mem) : AC l G yX10_places cX10_places 3 (some .int) 6 [.ref 0, .int v1] M embI (f_X10_places v1 M) := AC.of hG (by decide) (Nat.le_of_ble_eq_true rfl) (fun E hE B => by subst hE; exact w_X10_places hG B v1 M)
def f_X11_places (v1 : Int32) (M : Mem) : Option (Int32 × Mem) := (f_X11_isPlayer v1 M).bind fun x1 => (if x1 = 0 then (some ((-1 : Int32), M)) else (f_X11_allThatCount M).bind fun x3 => (f_X11_goesThrough x3 (-1 : Int32) (0 : Int32) M).bind fun M6 => ck (okI 60 v1) ((some (M6.1 60 v1.toNatClampNeg, M6))))
set_option maxRecDepth 100000 in
set_option maxHeartbeats 4000000 in
theorem w_X11_places {G : GW} {E : EE} (hG : ab_ok G) (B : Bx G E RX11 cX11_places 2 46 (some .int)) (v1 : Int32) (M : Mem) : AWo G E cX11_places 2 (ab_Q G E embI) 0 [(0, .ref 47), (1, .int v1)] [] M (f_X11_places v1 M) := by
  unfold f_X11_places
  refine aw_aload_n (k0 := 0) B 0 (by decide +kernel) rfl rfl ?_
  refine aw_iload_n (k0 := 1) B 1 (by decide +kernel) rfl rfl ?_
  refine aw_cVR B (c_X11_isPlayer (eLa E) hG v1 M) cvX11_135 rfl rfl (Nat.le_of_ble_eq_true rfl) rfl (Nat.le_of_ble_eq_true rfl) (by decide +kernel) rfl (fun x1 => ?_)
  refine aw_if_ne (off := 5) B 10 (by decide +kernel) (by decide) (fun _ => ?_) (fun _ => ?_)
  · refine aw_aload_n (k0 := 0) B 0 (by decide +kernel) rfl rfl ?_
    refine aw_aload_n (k0 := 0) B 0 (by decide +kernel) rfl rfl ?_
    refine aw_cVR B (c_X11_allThatCount (eLa E) hG M) cvX11_248 rfl rfl (Nat.le_of_ble_eq_true rfl) rfl (Nat.le_of_ble_eq_true rfl) (by decide +kernel) rfl (fun x3 => ?_)
    refine aw_iconst (n := -1) (v := (-1 : Int32)) B (by decide +kernel) (by decide) ?_
    refine aw_iconst (n := 0) (v := (0 : Int32)) B (by decide +kernel) (by decide) ?_
    refine aw_cVV B (c_X11_goesThrough (eLa E) hG x3 (-1 : Int32) (0 : Int32) M) cvX11_251 rfl rfl (Nat.le_of_ble_eq_true rfl) rfl (Nat.le_of_ble_eq_true rfl) (by decide +kernel) rfl (fun M6 => ?_)
    refine aw_aload_n (k0 := 0) B 0 (by decide +kernel) rfl rfl ?_
    refine aw_getr (c := 47) B lkX11_46 (by decide +kernel) rfl (r := 60) rfl ?_
    refine aw_iload_n (k0 := 1) B 1 (by decide +kernel) rfl rfl ?_
    refine aw_iaload B (by decide +kernel) ?_
    exact aw_ireturn B (by decide +kernel) rfl
  · refine aw_iconst (n := -1) (v := (-1 : Int32)) B (by decide +kernel) (by decide) ?_
    exact aw_ireturn B (by decide +kernel) rfl
theorem c_X11_places (l : Launch) {G : GW} (hG : ab_ok G) (v1 : Int32) (M : Mem) : AC l G yX11_places cX11_places 2 (some .int) 46 [.ref 47, .int v1] M embI (f_X11_places v1 M) := AC.of hG (by decide) (Nat.le_of_ble_eq_true rfl) (fun E hE B => by subst hE; exact w_X11_places hG B v1 M)
def f_X7_isAny_L4 (M : Mem) : Nat → Int32 → Int32 → Option Int32
  | 0, _, _ => none
  | n + 1, v1, v2 => (if (M.1 11 0) ≤ v2 then (if v1 = (M.1 11 2) then (some (1 : Int32)) else (some (0 : Int32))) else (f_X7_followers_11 v1 M).bind fun x1 => lt (v1 ||| x1) fun x3 => f_X7_isAny_L4 M n x3 (v2 + 1))
set_option maxRecDepth 100000 in
set_option maxHeartbeats 4000000 in
theorem w_X7_isAny_L4 {G : GW} {E : EE} (hG : ab_ok G) (M : Mem) (B : Bx G E RX7 cX7_isAny 3 3 (some .boolean)) : ∀ (n : Nat) (v1 : Int32) (v2 : Int32), AWo G E cX7_isAny 3 (ab_Q G E (embRI M)) 4 [(0, .ref 11), (1, .int v1), (2, .int v2)] [] M (f_X7_isAny_L4 M n v1 v2) := by
  intro n
  induction n with
  | zero => intro _ _; exact aw_none
  | succ n ih =>
    intro v1 v2
    rw [f_X7_isAny_L4]
    refine aw_iload_n (k0 := 2) B 2 (by decide +kernel) rfl rfl ?_
    refine aw_aload_n (k0 := 0) B 0 (by decide +kernel) rfl rfl ?_
    refine aw_geti (c := 11) B lkX7_18 (by decide +kernel) rfl ?_
    refine aw_icmp_ge (off := 17) B 26 (by decide +kernel) (by decide) (fun _ => ?_) (fun _ => ?_)
    · refine aw_iload_n (k0 := 1) B 1 (by decide +kernel) rfl rfl ?_
      refine aw_aload_n (k0 := 0) B 0 (by decide +kernel) rfl rfl ?_
      refine aw_geti (c := 11) B lkX7_22 (by decide +kernel) rfl ?_
      refine aw_icmp_ne (off := 7) B 38 (by decide +kernel) (by decide) (fun _ => ?_) (fun _ => ?_)
      · refine aw_iconst (n := 0) (v := (0 : Int32)) B (by decide +kernel) (by decide) ?_
        exact aw_zreturnK B (by decide +kernel) rfl (by decide)
      · refine aw_iconst (n := 1) (v := (1 : Int32)) B (by decide +kernel) (by decide) ?_
        refine aw_goto (off := 4) B 39 (by decide +kernel) (by decide) ?_
        exact aw_zreturnK B (by decide +kernel) rfl (by decide)
    · refine aw_iload_n (k0 := 1) B 1 (by decide +kernel) rfl rfl ?_
      refine aw_aload_n (k0 := 0) B 0 (by decide +kernel) rfl rfl ?_
      refine aw_iload_n (k0 := 1) B 1 (by decide +kernel) rfl rfl ?_
      refine aw_cVR B (c_X7_followers_11 (eLa E) hG v1 M) cvX7_52 rfl rfl (Nat.le_of_ble_eq_true rfl) rfl (Nat.le_of_ble_eq_true rfl) (by decide +kernel) rfl (fun x1 => ?_)
      refine aw_ior B (by decide +kernel) ?_
      refine aw_ltI (fun x3 => ?_)
      refine aw_istore_n (k0 := 1) B [(1, .int x3), (0, .ref 11), (2, .int v2)] (by decide +kernel) rfl (Nat.le_of_ble_eq_true rfl) rfl ?_
      refine aw_iinc (i := 2) (n := 1) B 2 [(2, .int (v2 + 1)), (1, .int x3), (0, .ref 11)] (by decide +kernel) rfl (Nat.le_of_ble_eq_true rfl) (v2 + 1) (ab_inc (by decide)) rfl ?_
      refine aw_goto (off := -19) B 4 (by decide +kernel) (by decide) ?_
      exact aw_sub [2, 1, 0] rfl (ih _ _)
def f_X7_isAny (M : Mem) : Option Int32 := f_X7_isAny_L4 M FU (0 : Int32) (0 : Int32)
set_option maxRecDepth 100000 in
set_option maxHeartbeats 4000000 in
theorem w_X7_isAny {G : GW} {E : EE} (hG : ab_ok G) (B : Bx G E RX7 cX7_isAny 3 3 (some .boolean)) (M : Mem) : AWo G E cX7_isAny 3 (ab_Q G E (embRI M)) 0 [(0, .ref 11)] [] M (f_X7_isAny M) := by
  unfold f_X7_isAny
  refine aw_iconst (n := 0) (v := (0 : Int32)) B (by decide +kernel) (by decide) ?_
  refine aw_istore_n (k0 := 1) B [(1, .int (0 : Int32)), (0, .ref 11)] (by decide +kernel) rfl (Nat.le_of_ble_eq_true rfl) rfl ?_
  refine aw_iconst (n := 0) (v := (0 : Int32)) B (by decide +kernel) (by decide) ?_
  refine aw_istore_n (k0 := 2) B [(2, .int (0 : Int32)), (1, .int (0 : Int32)), (0, .ref 11)] (by decide +kernel) rfl (Nat.le_of_ble_eq_true rfl) rfl ?_
  exact aw_sub [2, 1, 0] rfl (w_X7_isAny_L4 hG M B FU _ _)
theorem c_X7_isAny (l : Launch) {G : GW} (hG : ab_ok G) (M : Mem) : AC l G yX7_isAny cX7_isAny 3 (some .boolean) 3 [.ref 11] M (embRI M) (f_X7_isAny M) := AC.of hG (by decide) (Nat.le_of_ble_eq_true rfl) (fun E hE B => by subst hE; exact w_X7_isAny hG B M)
def f_X10_clash_b58 (k4 : Int32 → Int32 → Mem → Option (Int32 × Mem)) (v1 : Int32) (v2 : Int32) (M : Mem) : Option (Int32 × Mem) := k4 v1 (v2 + 1) M
set_option maxRecDepth 100000 in
set_option maxHeartbeats 4000000 in
theorem w_X10_clash_b58 {G : GW} {E : EE} (hG : ab_ok G) {k4 : Int32 → Int32 → Mem → Option (Int32 × Mem)} (B : Bx G E RX10 cX10_clash 3 5 (some .int)) (hk4 : ∀ (v1 : Int32) (v2 : Int32) (M : Mem), AWo G E cX10_clash 3 (ab_Q G E embI) 4 [(0, .ref 0), (1, .int v1), (2, .int v2)] [] M (k4 v1 v2 M)) (v1 : Int32) (v2 : Int32) (M : Mem) : AWo G E cX10_clash 3 (ab_Q G E embI) 58 [(0, .ref 0), (1, .int v1), (2, .int v2)] [] M (f_X10_clash_b58 k4 v1 v2 M) := by
  unfold f_X10_clash_b58
  refine aw_iinc (i := 2) (n := 1) B 2 [(2, .int (v2 + 1)), (0, .ref 0), (1, .int v1)] (by decide +kernel) rfl (Nat.le_of_ble_eq_true rfl) (v2 + 1) (ab_inc (by decide)) rfl ?_
  refine aw_goto (off := -57) B 4 (by decide +kernel) (by decide) ?_
  exact aw_sub [1, 2, 0] rfl (hk4 _ _ _)
def f_X10_clash_L4 : Nat → Int32 → Int32 → Mem → Option (Int32 × Mem)
  | 0, _, _, _ => none
  | n + 1, v1, v2, M => (if (M.1 1 1) ≤ v2 then (some ((-2 : Int32), M)) else ck (okI 5 v2) ((if (M.1 5 v2.toNatClampNeg) = (1 : Int32) then lt (v1 ||| (ab_shl (1 : Int32) v2)) fun x1 => (f_X7_take x1 M).bind fun M3 => (f_X7_isAny M3).bind fun x4 => (if x4 = 0 then (some (v2, M3)) else f_X10_clash_b58 (fun a0 a1 a2 => f_X10_clash_L4 n a0 a1 a2) x1 v2 M3) else f_X10_clash_b58 (fun a0 a1 a2 => f_X10_clash_L4 n a0 a1 a2) v1 v2 M)))
set_option maxRecDepth 100000 in
set_option maxHeartbeats 4000000 in
theorem w_X10_clash_L4 {G : GW} {E : EE} (hG : ab_ok G) (B : Bx G E RX10 cX10_clash 3 5 (some .int)) : ∀ (n : Nat) (v1 : Int32) (v2 : Int32) (M : Mem), AWo G E cX10_clash 3 (ab_Q G E embI) 4 [(0, .ref 0), (1, .int v1), (2, .int v2)] [] M (f_X10_clash_L4 n v1 v2 M) := by
  intro n
  induction n with
  | zero => intro _ _ _; exact aw_none
  | succ n ih =>
    intro v1 v2 M
    rw [f_X10_clash_L4]
    refine aw_iload_n (k0 := 2) B 2 (by decide +kernel) rfl rfl ?_
    refine aw_aload_n (k0 := 0) B 0 (by decide +kernel) rfl rfl ?_
    refine aw_getr (c := 0) B lkX10_10 (by decide +kernel) rfl (r := 1) rfl ?_
    refine aw_geti (c := 1) B lkX10_187 (by decide +kernel) rfl ?_
    refine aw_icmp_ge (off := 52) B 64 (by decide +kernel) (by decide) (fun _ => ?_) (fun _ => ?_)
    · refine aw_bipush (n := -2) (v := (-2 : Int32)) B (by decide +kernel) (by decide) ?_
      exact aw_ireturn B (by decide +kernel) rfl
    · refine aw_aload_n (k0 := 0) B 0 (by decide +kernel) rfl rfl ?_
      refine aw_getr (c := 0) B lkX10_10 (by decide +kernel) rfl (r := 1) rfl ?_
      refine aw_getr (c := 1) B lkX10_154 (by decide +kernel) rfl (r := 5) rfl ?_
      refine aw_iload_n (k0 := 2) B 2 (by decide +kernel) rfl rfl ?_
      refine aw_iaload B (by decide +kernel) ?_
      refine aw_iconst (n := 1) (v := (1 : Int32)) B (by decide +kernel) (by decide) ?_
      refine aw_icmp_ne (off := 33) B 58 (by decide +kernel) (by decide) (fun _ => ?_) (fun _ => ?_)
      · exact w_X10_clash_b58 hG B ih _ _ _
      · refine aw_iload_n (k0 := 1) B 1 (by decide +kernel) rfl rfl ?_
        refine aw_iconst (n := 1) (v := (1 : Int32)) B (by decide +kernel) (by decide) ?_
        refine aw_iload_n (k0 := 2) B 2 (by decide +kernel) rfl rfl ?_
        refine aw_ishl B (by decide +kernel) ?_
        refine aw_ior B (by decide +kernel) ?_
        refine aw_ltI (fun x1 => ?_)
        refine aw_istore_n (k0 := 1) B [(1, .int x1), (0, .ref 0), (2, .int v2)] (by decide +kernel) rfl (Nat.le_of_ble_eq_true rfl) rfl ?_
        refine aw_aload_n (k0 := 0) B 1 (by decide +kernel) rfl rfl ?_
        refine aw_getr (c := 0) B lkX10_26 (by decide +kernel) rfl (r := 11) rfl ?_
        refine aw_aload_n (k0 := 0) B 1 (by decide +kernel) rfl rfl ?_
        refine aw_getr (c := 0) B lkX10_10 (by decide +kernel) rfl (r := 1) rfl ?_
        refine aw_iload_n (k0 := 1) B 0 (by decide +kernel) rfl rfl ?_
        refine aw_cVV B (c_X7_take (eLa E) hG x1 M) cvX10_190 rfl rfl (Nat.le_of_ble_eq_true rfl) rfl (Nat.le_of_ble_eq_true rfl) (by decide +kernel) rfl (fun M3 => ?_)
        refine aw_aload_n (k0 := 0) B 1 (by decide +kernel) rfl rfl ?_
        refine aw_getr (c := 0) B lkX10_26 (by decide +kernel) rfl (r := 11) rfl ?_
        refine aw_cVR B (c_X7_isAny (eLa E) hG M3) cvX10_194 rfl rfl (Nat.le_of_ble_eq_true rfl) rfl (Nat.le_of_ble_eq_true rfl) (by decide +kernel) rfl (fun x4 => ?_)
        refine aw_if_ne (off := 5) B 58 (by decide +kernel) (by decide) (fun _ => ?_) (fun _ => ?_)
        · exact aw_sub [1, 0, 2] rfl (w_X10_clash_b58 hG B ih _ _ _)
        · refine aw_iload_n (k0 := 2) B 2 (by decide +kernel) rfl rfl ?_
          exact aw_ireturn B (by decide +kernel) rfl
def f_X10_clash (M : Mem) : Option (Int32 × Mem) := f_X10_clash_L4 FU (0 : Int32) (0 : Int32) M
set_option maxRecDepth 100000 in
set_option maxHeartbeats 4000000 in
theorem w_X10_clash {G : GW} {E : EE} (hG : ab_ok G) (B : Bx G E RX10 cX10_clash 3 5 (some .int)) (M : Mem) : AWo G E cX10_clash 3 (ab_Q G E embI) 0 [(0, .ref 0)] [] M (f_X10_clash M) := by
  unfold f_X10_clash
  refine aw_iconst (n := 0) (v := (0 : Int32)) B (by decide +kernel) (by decide) ?_
  refine aw_istore_n (k0 := 1) B [(1, .int (0 : Int32)), (0, .ref 0)] (by decide +kernel) rfl (Nat.le_of_ble_eq_true rfl) rfl ?_
  refine aw_iconst (n := 0) (v := (0 : Int32)) B (by decide +kernel) (by decide) ?_
  refine aw_istore_n (k0 := 2) B [(2, .int (0 : Int32)), (1, .int (0 : Int32)), (0, .ref 0)] (by decide +kernel) rfl (Nat.le_of_ble_eq_true rfl) rfl ?_
  exact aw_sub [2, 1, 0] rfl (w_X10_clash_L4 hG B FU _ _ _)
theorem c_X10_clash (l : Launch) {G : GW} (hG : ab_ok G) (M : Mem) : AC l G yX10_clash cX10_clash 3 (some .int) 5 [.ref 0] M embI (f_X10_clash M) := AC.of hG (by decide) (Nat.le_of_ble_eq_true rfl) (fun E hE B => by subst hE; exact w_X10_clash hG B M)
def f_X11_hasOrder_b59 (k18 : Int32 → Int32 → Int32 → Mem → Option (Int32 × Mem)) (v2 : Int32) (v3 : Int32) (v4 : Int32) (M : Mem) : Option (Int32 × Mem) := k18 v2 v3 (v4 + 1) M
set_option maxRecDepth 100000 in
set_option maxHeartbeats 4000000 in
theorem w_X11_hasOrder_b59 {G : GW} {E : EE} (hG : ab_ok G) {k18 : Int32 → Int32 → Int32 → Mem → Option (Int32 × Mem)} (B : Bx G E RX11 cX11_hasOrder 5 3 (some .boolean)) (hk18 : ∀ (v2 : Int32) (v3 : Int32) (v4 : Int32) (M : Mem), AWo G E cX11_hasOrder 5 (ab_Q G E embI) 18 [(0, .ref 47), (2, .int v2), (3, .int v3), (4, .int v4)] [] M (k18 v2 v3 v4 M)) (v2 : Int32) (v3 : Int32) (v4 : Int32) (M : Mem) : AWo G E cX11_hasOrder 5 (ab_Q G E embI) 59 [(0, .ref 47), (2, .int v2), (3, .int v3), (4, .int v4)] [] M (f_X11_hasOrder_b59 k18 v2 v3 v4 M) := by
  unfold f_X11_hasOrder_b59
  refine aw_iinc (i := 4) (n := 1) B 3 [(4, .int (v4 + 1)), (0, .ref 47), (2, .int v2), (3, .int v3)] (by decide +kernel) rfl (Nat.le_of_ble_eq_true rfl) (v4 + 1) (ab_inc (by decide)) rfl ?_
  refine aw_goto (off := -44) B 18 (by decide +kernel) (by decide) ?_
  exact aw_sub [1, 2, 3, 0] rfl (hk18 _ _ _ _)
def f_X11_hasOrder_L18 (k9 : Int32 → Int32 → Mem → Option (Int32 × Mem)) : Nat → Int32 → Int32 → Int32 → Mem → Option (Int32 × Mem)
  | 0, _, _, _, _ => none
  | n + 1, v2, v3, v4, M => (if (M.1 47 6) ≤ v4 then k9 v2 v3 M else (if ((ab_shr v2 v4) &&& (1 : Int32)) = 0 then ck (okI 57 v4) ((if ((M.1 57 v4.toNatClampNeg) &&& (v2 ^^^ (-1 : Int32))) = 0 then lt (v2 ||| (ab_shl (1 : Int32) v4)) fun x1 => f_X11_hasOrder_b59 (fun a0 a1 a2 a3 => f_X11_hasOrder_L18 k9 n a0 a1 a2 a3) x1 (1 : Int32) v4 M else f_X11_hasOrder_b59 (fun a0 a1 a2 a3 => f_X11_hasOrder_L18 k9 n a0 a1 a2 a3) v2 v3 v4 M)) else f_X11_hasOrder_b59 (fun a0 a1 a2 a3 => f_X11_hasOrder_L18 k9 n a0 a1 a2 a3) v2 v3 v4 M))
set_option maxRecDepth 100000 in
set_option maxHeartbeats 4000000 in
theorem w_X11_hasOrder_L18 {G : GW} {E : EE} (hG : ab_ok G) {k9 : Int32 → Int32 → Mem → Option (Int32 × Mem)} (B : Bx G E RX11 cX11_hasOrder 5 3 (some .boolean)) (hk9 : ∀ (v2 : Int32) (v3 : Int32) (M : Mem), AWo G E cX11_hasOrder 5 (ab_Q G E embI) 9 [(0, .ref 47), (2, .int v2), (3, .int v3)] [] M (k9 v2 v3 M)) : ∀ (n : Nat) (v2 : Int32) (v3 : Int32) (v4 : Int32) (M : Mem), AWo G E cX11_hasOrder 5 (ab_Q G E embI) 18 [(0, .ref 47), (2, .int v2), (3, .int v3), (4, .int v4)] [] M (f_X11_hasOrder_L18 k9 n v2 v3 v4 M) := by
  intro n
  induction n with
  | zero => intro _ _ _ _; exact aw_none
  | succ n ih =>
    intro v2 v3 v4 M
    rw [f_X11_hasOrder_L18]
    refine aw_iload (i := 4) B 3 (by decide +kernel) rfl ?_
    refine aw_aload_n (k0 := 0) B 0 (by decide +kernel) rfl rfl ?_
    refine aw_geti (c := 47) B lkX11_109 (by decide +kernel) rfl ?_
    refine aw_icmp_ge (off := 41) B 65 (by decide +kernel) (by decide) (fun _ => ?_) (fun _ => ?_)
    · refine aw_goto (off := -56) B 9 (by decide +kernel) (by decide) ?_
      exact aw_sub [0, 1, 2] rfl (hk9 _ _ _)
    · refine aw_iload_n (k0 := 2) B 1 (by decide +kernel) rfl rfl ?_
      refine aw_iload (i := 4) B 3 (by decide +kernel) rfl ?_
      refine aw_ishr B (by decide +kernel) ?_
      refine aw_iconst (n := 1) (v := (1 : Int32)) B (by decide +kernel) (by decide) ?_
      refine aw_iand B (by decide +kernel) ?_
      refine aw_if_ne (off := 26) B 59 (by decide +kernel) (by decide) (fun _ => ?_) (fun _ => ?_)
      · exact w_X11_hasOrder_b59 hG B ih _ _ _ _
      · refine aw_aload_n (k0 := 0) B 0 (by decide +kernel) rfl rfl ?_
        refine aw_getr (c := 47) B lkX11_37 (by decide +kernel) rfl (r := 57) rfl ?_
        refine aw_iload (i := 4) B 3 (by decide +kernel) rfl ?_
        refine aw_iaload B (by decide +kernel) ?_
        refine aw_iload_n (k0 := 2) B 1 (by decide +kernel) rfl rfl ?_
        refine aw_iconst (n := -1) (v := (-1 : Int32)) B (by decide +kernel) (by decide) ?_
        refine aw_ixor B (by decide +kernel) ?_
        refine aw_iand B (by decide +kernel) ?_
        refine aw_if_ne (off := 12) B 59 (by decide +kernel) (by decide) (fun _ => ?_) (fun _ => ?_)
        · exact w_X11_hasOrder_b59 hG B ih _ _ _ _
        · refine aw_iload_n (k0 := 2) B 1 (by decide +kernel) rfl rfl ?_
          refine aw_iconst (n := 1) (v := (1 : Int32)) B (by decide +kernel) (by decide) ?_
          refine aw_iload (i := 4) B 3 (by decide +kernel) rfl ?_
          refine aw_ishl B (by decide +kernel) ?_
          refine aw_ior B (by decide +kernel) ?_
          refine aw_ltI (fun x1 => ?_)
          refine aw_istore_n (k0 := 2) B [(2, .int x1), (0, .ref 47), (3, .int v3), (4, .int v4)] (by decide +kernel) rfl (Nat.le_of_ble_eq_true rfl) rfl ?_
          refine aw_iconst (n := 1) (v := (1 : Int32)) B (by decide +kernel) (by decide) ?_
          refine aw_istore_n (k0 := 3) B [(3, .int (1 : Int32)), (2, .int x1), (0, .ref 47), (4, .int v4)] (by decide +kernel) rfl (Nat.le_of_ble_eq_true rfl) rfl ?_
          exact aw_sub [2, 1, 0, 3] rfl (w_X11_hasOrder_b59 hG B ih _ _ _ _)
def f_X11_hasOrder_L9 : Nat → Int32 → Int32 → Mem → Option (Int32 × Mem)
  | 0, _, _, _ => none
  | n + 1, v2, v3, M => (if v3 = 0 then (if v2 = ((ab_shl (1 : Int32) (M.1 47 6)) - (1 : Int32)) then (some ((1 : Int32), M)) else (some ((0 : Int32), M))) else f_X11_hasOrder_L18 (fun a0 a1 a2 => f_X11_hasOrder_L9 n a0 a1 a2) FU v2 (0 : Int32) (0 : Int32) M)
set_option maxRecDepth 100000 in
set_option maxHeartbeats 4000000 in
theorem w_X11_hasOrder_L9 {G : GW} {E : EE} (hG : ab_ok G) (B : Bx G E RX11 cX11_hasOrder 5 3 (some .boolean)) : ∀ (n : Nat) (v2 : Int32) (v3 : Int32) (M : Mem), AWo G E cX11_hasOrder 5 (ab_Q G E embI) 9 [(0, .ref 47), (2, .int v2), (3, .int v3)] [] M (f_X11_hasOrder_L9 n v2 v3 M) := by
  intro n
  induction n with
  | zero => intro _ _ _; exact aw_none
  | succ n ih =>
    intro v2 v3 M
    rw [f_X11_hasOrder_L9]
    refine aw_iload_n (k0 := 3) B 2 (by decide +kernel) rfl rfl ?_
    refine aw_if_eq (off := 58) B 68 (by decide +kernel) (by decide) (fun _ => ?_) (fun _ => ?_)
    · refine aw_iload_n (k0 := 2) B 1 (by decide +kernel) rfl rfl ?_
      refine aw_iconst (n := 1) (v := (1 : Int32)) B (by decide +kernel) (by decide) ?_
      refine aw_aload_n (k0 := 0) B 0 (by decide +kernel) rfl rfl ?_
      refine aw_geti (c := 47) B lkX11_109 (by decide +kernel) rfl ?_
      refine aw_ishl B (by decide +kernel) ?_
      refine aw_iconst (n := 1) (v := (1 : Int32)) B (by decide +kernel) (by decide) ?_
      refine aw_isub B (by decide +kernel) ?_
      refine aw_icmp_ne (off := 7) B 84 (by decide +kernel) (by decide) (fun _ => ?_) (fun _ => ?_)
      · refine aw_iconst (n := 0) (v := (0 : Int32)) B (by decide +kernel) (by decide) ?_
        exact aw_zreturnK B (by decide +kernel) rfl (by decide)
      · refine aw_iconst (n := 1) (v := (1 : Int32)) B (by decide +kernel) (by decide) ?_
        refine aw_goto (off := 4) B 85 (by decide +kernel) (by decide) ?_
        exact aw_zreturnK B (by decide +kernel) rfl (by decide)
    · refine aw_iconst (n := 0) (v := (0 : Int32)) B (by decide +kernel) (by decide) ?_
      refine aw_istore_n (k0 := 3) B [(3, .int (0 : Int32)), (0, .ref 47), (2, .int v2)] (by decide +kernel) rfl (Nat.le_of_ble_eq_true rfl) rfl ?_
      refine aw_iconst (n := 0) (v := (0 : Int32)) B (by decide +kernel) (by decide) ?_
      refine aw_istore (i := 4) B [(4, .int (0 : Int32)), (3, .int (0 : Int32)), (0, .ref 47), (2, .int v2)] (by decide +kernel) (Nat.le_of_ble_eq_true rfl) rfl ?_
      exact aw_sub [2, 3, 1, 0] rfl (w_X11_hasOrder_L18 hG B ih FU _ _ _ _)
def f_X11_hasOrder (v1 : Int32) (M : Mem) : Option (Int32 × Mem) := (f_X11_beats v1 M).bind fun M2 => f_X11_hasOrder_L9 FU (0 : Int32) (1 : Int32) M2
set_option maxRecDepth 100000 in
set_option maxHeartbeats 4000000 in
theorem w_X11_hasOrder {G : GW} {E : EE} (hG : ab_ok G) (B : Bx G E RX11 cX11_hasOrder 5 3 (some .boolean)) (v1 : Int32) (M : Mem) : AWo G E cX11_hasOrder 5 (ab_Q G E embI) 0 [(0, .ref 47), (1, .int v1)] [] M (f_X11_hasOrder v1 M) := by
  unfold f_X11_hasOrder
  refine aw_aload_n (k0 := 0) B 0 (by decide +kernel) rfl rfl ?_
  refine aw_iload_n (k0 := 1) B 1 (by decide +kernel) rfl rfl ?_
  refine aw_cVV B (c_X11_beats (eLa E) hG v1 M) cvX11_244 rfl rfl (Nat.le_of_ble_eq_true rfl) rfl (Nat.le_of_ble_eq_true rfl) (by decide +kernel) rfl (fun M2 => ?_)
  refine aw_iconst (n := 0) (v := (0 : Int32)) B (by decide +kernel) (by decide) ?_
  refine aw_istore_n (k0 := 2) B [(2, .int (0 : Int32)), (0, .ref 47), (1, .int v1)] (by decide +kernel) rfl (Nat.le_of_ble_eq_true rfl) rfl ?_
  refine aw_iconst (n := 1) (v := (1 : Int32)) B (by decide +kernel) (by decide) ?_
  refine aw_istore_n (k0 := 3) B [(3, .int (1 : Int32)), (2, .int (0 : Int32)), (0, .ref 47), (1, .int v1)] (by decide +kernel) rfl (Nat.le_of_ble_eq_true rfl) rfl ?_
  exact aw_sub [2, 1, 0] rfl (w_X11_hasOrder_L9 hG B FU _ _ _)
theorem c_X11_hasOrder (l : Launch) {G : GW} (hG : ab_ok G) (v1 : Int32) (M : Mem) : AC l G yX11_hasOrder cX11_hasOrder 5 (some .boolean) 3 [.ref 47, .int v1] M embI (f_X11_hasOrder v1 M) := AC.of hG (by decide) (Nat.le_of_ble_eq_true rfl) (fun E hE B => by subst hE; exact w_X11_hasOrder hG B v1 M)
def f_X11_clash_b28 (k4 : Int32 → Int32 → Mem → Option (Int32 × Mem)) (v2 : Int32) (s0 : Int32) (s1 : Int32) (M : Mem) : Option (Int32 × Mem) := lt (s1 ||| s0) fun x1 => bI (f_X11_hasOrder x1 M) fun x2 M3 => (if x2 = 0 then (some (v2, M3)) else k4 x1 (v2 + 1) M3)
set_option maxRecDepth 100000 in
set_option maxHeartbeats 4000000 in
theorem w_X11_clash_b28 {G : GW} {E : EE} (hG : ab_ok G) {k4 : Int32 → Int32 → Mem → Option (Int32 × Mem)} (B : Bx G E RX11 cX11_clash 3 4 (some .int)) (hk4 : ∀ (v1 : Int32) (v2 : Int32) (M : Mem), AWo G E cX11_clash 3 (ab_Q G E embI) 4 [(0, .ref 47), (1, .int v1), (2, .int v2)] [] M (k4 v1 v2 M)) (v2 : Int32) (s0 : Int32) (s1 : Int32) (M : Mem) : AWo G E cX11_clash 3 (ab_Q G E embI) 28 [(0, .ref 47), (2, .int v2)] [.int s0, .int s1] M (f_X11_clash_b28 k4 v2 s0 s1 M) := by
  unfold f_X11_clash_b28
  refine aw_ior B (by decide +kernel) ?_
  refine aw_ltI (fun x1 => ?_)
  refine aw_istore_n (k0 := 1) B [(1, .int x1), (0, .ref 47), (2, .int v2)] (by decide +kernel) rfl (Nat.le_of_ble_eq_true rfl) rfl ?_
  refine aw_aload_n (k0 := 0) B 1 (by decide +kernel) rfl rfl ?_
  refine aw_iload_n (k0 := 1) B 0 (by decide +kernel) rfl rfl ?_
  refine aw_cVI B (c_X11_hasOrder (eLa E) hG x1 M) cvX11_255 rfl rfl (Nat.le_of_ble_eq_true rfl) rfl (Nat.le_of_ble_eq_true rfl) (by decide +kernel) rfl (fun x2 M3 => ?_)
  refine aw_if_ne (off := 5) B 40 (by decide +kernel) (by decide) (fun _ => ?_) (fun _ => ?_)
  · refine aw_iinc (i := 2) (n := 1) B 2 [(2, .int (v2 + 1)), (1, .int x1), (0, .ref 47)] (by decide +kernel) rfl (Nat.le_of_ble_eq_true rfl) (v2 + 1) (ab_inc (by decide)) rfl ?_
    refine aw_goto (off := -39) B 4 (by decide +kernel) (by decide) ?_
    exact aw_sub [2, 1, 0] rfl (hk4 _ _ _)
  · refine aw_iload_n (k0 := 2) B 2 (by decide +kernel) rfl rfl ?_
    exact aw_ireturn B (by decide +kernel) rfl
def f_X11_clash_L4 : Nat → Int32 → Int32 → Mem → Option (Int32 × Mem)
  | 0, _, _, _ => none
  | n + 1, v1, v2, M => (if (M.1 47 7) ≤ v2 then (some ((-2 : Int32), M)) else (f_X11_counts v2 M).bind fun x1 => (if x1 = 0 then f_X11_clash_b28 (fun a0 a1 a2 => f_X11_clash_L4 n a0 a1 a2) v2 (0 : Int32) v1 M else f_X11_clash_b28 (fun a0 a1 a2 => f_X11_clash_L4 n a0 a1 a2) v2 (ab_shl (1 : Int32) v2) v1 M))
set_option maxRecDepth 100000 in
set_option maxHeartbeats 4000000 in
theorem w_X11_clash_L4 {G : GW} {E : EE} (hG : ab_ok G) (B : Bx G E RX11 cX11_clash 3 4 (some .int)) : ∀ (n : Nat) (v1 : Int32) (v2 : Int32) (M : Mem), AWo G E cX11_clash 3 (ab_Q G E embI) 4 [(0, .ref 47), (1, .int v1), (2, .int v2)] [] M (f_X11_clash_L4 n v1 v2 M) := by
  intro n
  induction n with
  | zero => intro _ _ _; exact aw_none
  | succ n ih =>
    intro v1 v2 M
    rw [f_X11_clash_L4]
    refine aw_iload_n (k0 := 2) B 2 (by decide +kernel) rfl rfl ?_
    refine aw_aload_n (k0 := 0) B 0 (by decide +kernel) rfl rfl ?_
    refine aw_geti (c := 47) B lkX11_116 (by decide +kernel) rfl ?_
    refine aw_icmp_ge (off := 37) B 46 (by decide +kernel) (by decide) (fun _ => ?_) (fun _ => ?_)
    · refine aw_bipush (n := -2) (v := (-2 : Int32)) B (by decide +kernel) (by decide) ?_
      exact aw_ireturn B (by decide +kernel) rfl
    · refine aw_iload_n (k0 := 1) B 1 (by decide +kernel) rfl rfl ?_
      refine aw_aload_n (k0 := 0) B 0 (by decide +kernel) rfl rfl ?_
      refine aw_iload_n (k0 := 2) B 2 (by decide +kernel) rfl rfl ?_
      refine aw_cVR B (c_X11_counts (eLa E) hG v2 M) cvX11_145 rfl rfl (Nat.le_of_ble_eq_true rfl) rfl (Nat.le_of_ble_eq_true rfl) (by decide +kernel) rfl (fun x1 => ?_)
      refine aw_if_eq (off := 9) B 27 (by decide +kernel) (by decide) (fun _ => ?_) (fun _ => ?_)
      · refine aw_iconst (n := 0) (v := (0 : Int32)) B (by decide +kernel) (by decide) ?_
        exact aw_sub [0, 2] rfl (w_X11_clash_b28 hG B ih _ _ _ _)
      · refine aw_iconst (n := 1) (v := (1 : Int32)) B (by decide +kernel) (by decide) ?_
        refine aw_iload_n (k0 := 2) B 2 (by decide +kernel) rfl rfl ?_
        refine aw_ishl B (by decide +kernel) ?_
        refine aw_goto (off := 4) B 28 (by decide +kernel) (by decide) ?_
        exact aw_sub [0, 2] rfl (w_X11_clash_b28 hG B ih _ _ _ _)
def f_X11_clash (M : Mem) : Option (Int32 × Mem) := f_X11_clash_L4 FU (0 : Int32) (0 : Int32) M
set_option maxRecDepth 100000 in
set_option maxHeartbeats 4000000 in
theorem w_X11_clash {G : GW} {E : EE} (hG : ab_ok G) (B : Bx G E RX11 cX11_clash 3 4 (some .int)) (M : Mem) : AWo G E cX11_clash 3 (ab_Q G E embI) 0 [(0, .ref 47)] [] M (f_X11_clash M) := by
  unfold f_X11_clash
  refine aw_iconst (n := 0) (v := (0 : Int32)) B (by decide +kernel) (by decide) ?_
  refine aw_istore_n (k0 := 1) B [(1, .int (0 : Int32)), (0, .ref 47)] (by decide +kernel) rfl (Nat.le_of_ble_eq_true rfl) rfl ?_
  refine aw_iconst (n := 0) (v := (0 : Int32)) B (by decide +kernel) (by decide) ?_
  refine aw_istore_n (k0 := 2) B [(2, .int (0 : Int32)), (1, .int (0 : Int32)), (0, .ref 47)] (by decide +kernel) rfl (Nat.le_of_ble_eq_true rfl) rfl ?_
  exact aw_sub [2, 1, 0] rfl (w_X11_clash_L4 hG B FU _ _ _)
theorem c_X11_clash (l : Launch) {G : GW} (hG : ab_ok G) (M : Mem) : AC l G yX11_clash cX11_clash 3 (some .int) 4 [.ref 47] M embI (f_X11_clash M) := AC.of hG (by decide) (Nat.le_of_ble_eq_true rfl) (fun E hE B => by subst hE; exact w_X11_clash hG B M)
