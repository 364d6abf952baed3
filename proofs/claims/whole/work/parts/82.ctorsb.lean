theorem knX10_7 : ab_LN RX10 7 4 6 [.int 0, .int 0, .null, .null, .null, .null] := ⟨RX4, TX4, tyX4, rfl, tyX4_ok, bw_mem 125 (by decide +kernel) (by decide +kernel), bw_mem 126 (by decide +kernel) (by decide +kernel), bw_mem 102 (by decide +kernel) (by decide +kernel), by decide +kernel⟩
theorem kcX4 : ab_CC yX4_init cX4_init 1 := ⟨⟨rfl, bw_mem 128 (by decide +kernel) (by decide +kernel), bw_mem 102 (by decide +kernel) (by decide +kernel), bw_mem 129 (by decide +kernel) (by decide +kernel)⟩, by decide +kernel, by decide⟩
theorem klX10_10 : ab_LK RX10 10 10 0 := ⟨RX10, TX10, 10, rfl, by decide, by decide, by decide, rfl, bw_mem 400 (by decide +kernel) (by decide +kernel)⟩
theorem kiX10_0 : ab_LI RX10 10 0 (.object "SecondBest$Field") := ⟨RX10, TX10, 10, tyX10, rfl, by decide, rfl, by decide +kernel, tyX10_ok, nmX10⟩
theorem knX10_16 : ab_LN RX10 16 2 6 [.int 0, .int 0, .null, .null, .null, .null] := ⟨RX2, TX2, tyX2, rfl, tyX2_ok, bw_mem 174 (by decide +kernel) (by decide +kernel), bw_mem 175 (by decide +kernel) (by decide +kernel), bw_mem 103 (by decide +kernel) (by decide +kernel), by decide +kernel⟩
theorem kcX2 : ab_CC yX2_init cX2_init 1 := ⟨⟨rfl, bw_mem 177 (by decide +kernel) (by decide +kernel), bw_mem 103 (by decide +kernel) (by decide +kernel), bw_mem 178 (by decide +kernel) (by decide +kernel)⟩, by decide +kernel, by decide⟩
theorem klX10_19 : ab_LK RX10 19 10 1 := ⟨RX10, TX10, 10, rfl, by decide, by decide, by decide, rfl, bw_mem 401 (by decide +kernel) (by decide +kernel)⟩
theorem kiX10_1 : ab_LI RX10 10 1 (.object "SecondBest$Changes") := ⟨RX10, TX10, 10, tyX10, rfl, by decide, rfl, by decide +kernel, tyX10_ok, nmX10⟩
theorem knX10_23 : ab_LN RX10 23 7 4 [.int 0, .null, .int 0, .null] := ⟨RX7, TX7, tyX7, rfl, tyX7_ok, bw_mem 200 (by decide +kernel) (by decide +kernel), bw_mem 201 (by decide +kernel) (by decide +kernel), bw_mem 104 (by decide +kernel) (by decide +kernel), by decide +kernel⟩
theorem klX10_26 : ab_LK RX10 26 10 2 := ⟨RX10, TX10, 10, rfl, by decide, by decide, by decide, rfl, bw_mem 402 (by decide +kernel) (by decide +kernel)⟩
theorem kiX10_2 : ab_LI RX10 10 2 (.object "SecondBest$Orders") := ⟨RX10, TX10, 10, tyX10, rfl, by decide, rfl, by decide +kernel, tyX10_ok, nmX10⟩
theorem knX10_30 : ab_LN RX10 30 8 8 [.null, .null, .null, .int 0, .int 0, .int 0, .int 0, .int 0] := ⟨RX8, TX8, tyX8, rfl, tyX8_ok, bw_mem 221 (by decide +kernel) (by decide +kernel), bw_mem 222 (by decide +kernel) (by decide +kernel), bw_mem 105 (by decide +kernel) (by decide +kernel), by decide +kernel⟩
theorem kcX8 : ab_CC yX8_init cX8_init 1 := ⟨⟨rfl, bw_mem 224 (by decide +kernel) (by decide +kernel), bw_mem 105 (by decide +kernel) (by decide +kernel), bw_mem 225 (by decide +kernel) (by decide +kernel)⟩, by decide +kernel, by decide⟩
theorem klX10_33 : ab_LK RX10 33 10 3 := ⟨RX10, TX10, 10, rfl, by decide, by decide, by decide, rfl, bw_mem 403 (by decide +kernel) (by decide +kernel)⟩
theorem kiX10_3 : ab_LI RX10 10 3 (.object "SecondBest$Search") := ⟨RX10, TX10, 10, tyX10, rfl, by decide, rfl, by decide +kernel, tyX10_ok, nmX10⟩
theorem knX10_37 : ab_LN RX10 37 0 1 [.null] := ⟨RX0, TX0, tyX0, rfl, tyX0_ok, bw_mem 254 (by decide +kernel) (by decide +kernel), bw_mem 255 (by decide +kernel) (by decide +kernel), bw_mem 106 (by decide +kernel) (by decide +kernel), by decide +kernel⟩
theorem kcX0 : ab_CC yX0_init cX0_init 1 := ⟨⟨rfl, bw_mem 257 (by decide +kernel) (by decide +kernel), bw_mem 106 (by decide +kernel) (by decide +kernel), bw_mem 258 (by decide +kernel) (by decide +kernel)⟩, by decide +kernel, by decide⟩
theorem klX10_40 : ab_LK RX10 40 10 4 := ⟨RX10, TX10, 10, rfl, by decide, by decide, by decide, rfl, bw_mem 404 (by decide +kernel) (by decide +kernel)⟩
theorem kiX10_4 : ab_LI RX10 10 4 (.object "SecondBest$Blame") := ⟨RX10, TX10, 10, tyX10, rfl, by decide, rfl, by decide +kernel, tyX10_ok, nmX10⟩
theorem knX10_44 : ab_LN RX10 44 5 11 [.int 0, .null, .int 0, .int 0, .null, .int 0, .null, .int 0, .null, .int 0, .null] := ⟨RX5, TX5, tyX5, rfl, tyX5_ok, bw_mem 264 (by decide +kernel) (by decide +kernel), bw_mem 265 (by decide +kernel) (by decide +kernel), bw_mem 107 (by decide +kernel) (by decide +kernel), by decide +kernel⟩
theorem kcX5 : ab_CC yX5_init cX5_init 1 := ⟨⟨rfl, bw_mem 267 (by decide +kernel) (by decide +kernel), bw_mem 107 (by decide +kernel) (by decide +kernel), bw_mem 268 (by decide +kernel) (by decide +kernel)⟩, by decide +kernel, by decide⟩
theorem klX10_47 : ab_LK RX10 47 10 5 := ⟨RX10, TX10, 10, rfl, by decide, by decide, by decide, rfl, bw_mem 405 (by decide +kernel) (by decide +kernel)⟩
theorem kiX10_5 : ab_LI RX10 10 5 (.object "SecondBest$Law") := ⟨RX10, TX10, 10, tyX10, rfl, by decide, rfl, by decide +kernel, tyX10_ok, nmX10⟩
theorem knX10_51 : ab_LN RX10 51 3 6 [.int 0, .null, .null, .null, .null, .null] := ⟨RX3, TX3, tyX3, rfl, tyX3_ok, bw_mem 305 (by decide +kernel) (by decide +kernel), bw_mem 306 (by decide +kernel) (by decide +kernel), bw_mem 108 (by decide +kernel) (by decide +kernel), by decide +kernel⟩
theorem kcX3 : ab_CC yX3_init cX3_init 1 := ⟨⟨rfl, bw_mem 308 (by decide +kernel) (by decide +kernel), bw_mem 108 (by decide +kernel) (by decide +kernel), bw_mem 309 (by decide +kernel) (by decide +kernel)⟩, by decide +kernel, by decide⟩
theorem klX10_54 : ab_LK RX10 54 10 6 := ⟨RX10, TX10, 10, rfl, by decide, by decide, by decide, rfl, bw_mem 406 (by decide +kernel) (by decide +kernel)⟩
theorem kiX10_6 : ab_LI RX10 10 6 (.object "SecondBest$Cup") := ⟨RX10, TX10, 10, tyX10, rfl, by decide, rfl, by decide +kernel, tyX10_ok, nmX10⟩
theorem knX10_58 : ab_LN RX10 58 6 6 [.null, .null, .int 0, .null, .null, .null] := ⟨RX6, TX6, tyX6, rfl, tyX6_ok, bw_mem 332 (by decide +kernel) (by decide +kernel), bw_mem 333 (by decide +kernel) (by decide +kernel), bw_mem 109 (by decide +kernel) (by decide +kernel), by decide +kernel⟩
theorem kcX6 : ab_CC yX6_init cX6_init 1 := ⟨⟨rfl, bw_mem 335 (by decide +kernel) (by decide +kernel), bw_mem 109 (by decide +kernel) (by decide +kernel), bw_mem 336 (by decide +kernel) (by decide +kernel)⟩, by decide +kernel, by decide⟩
theorem klX10_61 : ab_LK RX10 61 10 7 := ⟨RX10, TX10, 10, rfl, by decide, by decide, by decide, rfl, bw_mem 407 (by decide +kernel) (by decide +kernel)⟩
theorem kiX10_7 : ab_LI RX10 10 7 (.object "SecondBest$League") := ⟨RX10, TX10, 10, tyX10, rfl, by decide, rfl, by decide +kernel, tyX10_ok, nmX10⟩
theorem knX10_65 : ab_LN RX10 65 1 5 [.int 0, .int 0, .null, .null, .int 0] := ⟨RX1, TX1, tyX1, rfl, tyX1_ok, bw_mem 359 (by decide +kernel) (by decide +kernel), bw_mem 360 (by decide +kernel) (by decide +kernel), bw_mem 110 (by decide +kernel) (by decide +kernel), by decide +kernel⟩
theorem kcX1 : ab_CC yX1_init cX1_init 1 := ⟨⟨rfl, bw_mem 362 (by decide +kernel) (by decide +kernel), bw_mem 110 (by decide +kernel) (by decide +kernel), bw_mem 363 (by decide +kernel) (by decide +kernel)⟩, by decide +kernel, by decide⟩
theorem klX10_68 : ab_LK RX10 68 10 8 := ⟨RX10, TX10, 10, rfl, by decide, by decide, by decide, rfl, bw_mem 408 (by decide +kernel) (by decide +kernel)⟩
theorem kiX10_8 : ab_LI RX10 10 8 (.object "SecondBest$Bodies") := ⟨RX10, TX10, 10, tyX10, rfl, by decide, rfl, by decide +kernel, tyX10_ok, nmX10⟩
theorem knX10_72 : ab_LN RX10 72 9 3 [.null, .null, .null] := ⟨RX9, TX9, tyX9, rfl, tyX9_ok, bw_mem 384 (by decide +kernel) (by decide +kernel), bw_mem 385 (by decide +kernel) (by decide +kernel), bw_mem 111 (by decide +kernel) (by decide +kernel), by decide +kernel⟩
theorem kcX9 : ab_CC yX9_init cX9_init 1 := ⟨⟨rfl, bw_mem 387 (by decide +kernel) (by decide +kernel), bw_mem 111 (by decide +kernel) (by decide +kernel), bw_mem 388 (by decide +kernel) (by decide +kernel)⟩, by decide +kernel, by decide⟩
theorem klX10_75 : ab_LK RX10 75 10 9 := ⟨RX10, TX10, 10, rfl, by decide, by decide, by decide, rfl, bw_mem 409 (by decide +kernel) (by decide +kernel)⟩
theorem kiX10_9 : ab_LI RX10 10 9 (.object "SecondBest$Shelves") := ⟨RX10, TX10, 10, tyX10, rfl, by decide, rfl, by decide +kernel, tyX10_ok, nmX10⟩
def wX10 (T : ClassId × ClassId × ClassId) (a : Nat → Nat) : va_W := (a 0, .inr (10, [.ref (a 1), .ref (a 6), .ref (a 11), .ref (a 14), .ref (a 20), .ref (a 22), .ref (a 28), .ref (a 34), .ref (a 40), .ref (a 43)])) :: (((((((((wX4 T (fun j => a (1 + j)) ++ wX2 T (fun j => a (6 + j))) ++ wX7 T (fun j => a (11 + j))) ++ wX8 T (fun j => a (14 + j))) ++ wX0 T (fun j => a (20 + j))) ++ wX5 T (fun j => a (22 + j))) ++ wX3 T (fun j => a (28 + j))) ++ wX6 T (fun j => a (34 + j))) ++ wX1 T (fun j => a (40 + j))) ++ wX9 T (fun j => a (43 + j)))
set_option maxHeartbeats 4000000 in
set_option maxRecDepth 100000 in
theorem ctX10 (l : Launch) (D : va_G) (T : ClassId × ClassId × ClassId) (q0 : Nat) : CI l D T yX10_init cX10_init 1 4 46 3982 q0 10 [.null, .null, .null, .null, .null, .null, .null, .null, .null, .null] (wX10 T) := by
  refine CI.of (by decide) rfl (by decide) ?_
  intro E A hla hin hr hlk hN B
  subst hla
  refine cw_aload (k0 := 0) B 0 (by decide +kernel) rfl rfl ?_
  refine cw_obj (idx := 1) B (bw_mem 122 (by decide +kernel) (by decide +kernel)) (by decide +kernel) (Nat.le_of_ble_eq_true rfl) (Nat.le_of_ble_eq_true rfl) ?_
  refine cw_aload (k0 := 0) B 0 (by decide +kernel) rfl rfl ?_
  refine cw_new B knX10_7 (by decide +kernel) (Nat.le_of_ble_eq_true rfl) (Nat.le_of_ble_eq_true rfl) (fun q1 => ?_)
  refine cw_dup B (by decide +kernel) rfl ?_
  refine cw_initN (idx := 9) B hN (ctX4 _ _ _ _) (by decide +kernel) kcX4 (Nat.le_of_ble_eq_true rfl) (Nat.le_of_ble_eq_true rfl) (by decide +kernel) (Nat.le_of_ble_eq_true rfl) (Nat.le_of_ble_eq_true rfl) (fun a1 ha1 => ?_)
  subst ha1
  refine cw_eq (ws2 := (q0, .inr (10, [.null, .null, .null, .null, .null, .null, .null, .null, .null, .null])) :: wX4 T a1) rfl ?_
  refine cw_put0 (j := 0) (fs2 := [.ref (a1 0), .null, .null, .null, .null, .null, .null, .null, .null, .null]) B hin klX10_10 kiX10_0 (by decide +kernel) rfl rfl (Nat.le_of_ble_eq_true rfl) rfl ?_
  refine cw_aload (k0 := 0) B 0 (by decide +kernel) rfl rfl ?_
  refine cw_new B knX10_16 (by decide +kernel) (Nat.le_of_ble_eq_true rfl) (Nat.le_of_ble_eq_true rfl) (fun q2 => ?_)
  refine cw_dup B (by decide +kernel) rfl ?_
  refine cw_initN (idx := 18) B hN (ctX2 _ _ _ _) (by decide +kernel) kcX2 (Nat.le_of_ble_eq_true rfl) (Nat.le_of_ble_eq_true rfl) (by decide +kernel) (Nat.le_of_ble_eq_true rfl) (Nat.le_of_ble_eq_true rfl) (fun a2 ha2 => ?_)
  subst ha2
  refine cw_eq (ws2 := (q0, .inr (10, [.ref (a1 0), .null, .null, .null, .null, .null, .null, .null, .null, .null])) :: (wX4 T a1 ++ wX2 T a2)) rfl ?_
  refine cw_put0 (j := 1) (fs2 := [.ref (a1 0), .ref (a2 0), .null, .null, .null, .null, .null, .null, .null, .null]) B hin klX10_19 kiX10_1 (by decide +kernel) rfl rfl (Nat.le_of_ble_eq_true rfl) rfl ?_
  refine cw_aload (k0 := 0) B 0 (by decide +kernel) rfl rfl ?_
  refine cw_new B knX10_23 (by decide +kernel) (Nat.le_of_ble_eq_true rfl) (Nat.le_of_ble_eq_true rfl) (fun q3 => ?_)
  refine cw_dup B (by decide +kernel) rfl ?_
  refine cw_initN (idx := 25) B hN (ctX7 _ _ _ _) (by decide +kernel) kcX7 (Nat.le_of_ble_eq_true rfl) (Nat.le_of_ble_eq_true rfl) (by decide +kernel) (Nat.le_of_ble_eq_true rfl) (Nat.le_of_ble_eq_true rfl) (fun a3 ha3 => ?_)
  subst ha3
  refine cw_eq (ws2 := (q0, .inr (10, [.ref (a1 0), .ref (a2 0), .null, .null, .null, .null, .null, .null, .null, .null])) :: ((wX4 T a1 ++ wX2 T a2) ++ wX7 T a3)) rfl ?_
  refine cw_put0 (j := 2) (fs2 := [.ref (a1 0), .ref (a2 0), .ref (a3 0), .null, .null, .null, .null, .null, .null, .null]) B hin klX10_26 kiX10_2 (by decide +kernel) rfl rfl (Nat.le_of_ble_eq_true rfl) rfl ?_
  refine cw_aload (k0 := 0) B 0 (by decide +kernel) rfl rfl ?_
  refine cw_new B knX10_30 (by decide +kernel) (Nat.le_of_ble_eq_true rfl) (Nat.le_of_ble_eq_true rfl) (fun q4 => ?_)
  refine cw_dup B (by decide +kernel) rfl ?_
  refine cw_initN (idx := 32) B hN (ctX8 _ _ _ _) (by decide +kernel) kcX8 (Nat.le_of_ble_eq_true rfl) (Nat.le_of_ble_eq_true rfl) (by decide +kernel) (Nat.le_of_ble_eq_true rfl) (Nat.le_of_ble_eq_true rfl) (fun a4 ha4 => ?_)
  subst ha4
  refine cw_eq (ws2 := (q0, .inr (10, [.ref (a1 0), .ref (a2 0), .ref (a3 0), .null, .null, .null, .null, .null, .null, .null])) :: (((wX4 T a1 ++ wX2 T a2) ++ wX7 T a3) ++ wX8 T a4)) rfl ?_
  refine cw_put0 (j := 3) (fs2 := [.ref (a1 0), .ref (a2 0), .ref (a3 0), .ref (a4 0), .null, .null, .null, .null, .null, .null]) B hin klX10_33 kiX10_3 (by decide +kernel) rfl rfl (Nat.le_of_ble_eq_true rfl) rfl ?_
  refine cw_aload (k0 := 0) B 0 (by decide +kernel) rfl rfl ?_
  refine cw_new B knX10_37 (by decide +kernel) (Nat.le_of_ble_eq_true rfl) (Nat.le_of_ble_eq_true rfl) (fun q5 => ?_)
  refine cw_dup B (by decide +kernel) rfl ?_
  refine cw_initN (idx := 39) B hN (ctX0 _ _ _ _) (by decide +kernel) kcX0 (Nat.le_of_ble_eq_true rfl) (Nat.le_of_ble_eq_true rfl) (by decide +kernel) (Nat.le_of_ble_eq_true rfl) (Nat.le_of_ble_eq_true rfl) (fun a5 ha5 => ?_)
  subst ha5
  refine cw_eq (ws2 := (q0, .inr (10, [.ref (a1 0), .ref (a2 0), .ref (a3 0), .ref (a4 0), .null, .null, .null, .null, .null, .null])) :: ((((wX4 T a1 ++ wX2 T a2) ++ wX7 T a3) ++ wX8 T a4) ++ wX0 T a5)) rfl ?_
  refine cw_put0 (j := 4) (fs2 := [.ref (a1 0), .ref (a2 0), .ref (a3 0), .ref (a4 0), .ref (a5 0), .null, .null, .null, .null, .null]) B hin klX10_40 kiX10_4 (by decide +kernel) rfl rfl (Nat.le_of_ble_eq_true rfl) rfl ?_
  refine cw_aload (k0 := 0) B 0 (by decide +kernel) rfl rfl ?_
  refine cw_new B knX10_44 (by decide +kernel) (Nat.le_of_ble_eq_true rfl) (Nat.le_of_ble_eq_true rfl) (fun q6 => ?_)
  refine cw_dup B (by decide +kernel) rfl ?_
  refine cw_initN (idx := 46) B hN (ctX5 _ _ _ _) (by decide +kernel) kcX5 (Nat.le_of_ble_eq_true rfl) (Nat.le_of_ble_eq_true rfl) (by decide +kernel) (Nat.le_of_ble_eq_true rfl) (Nat.le_of_ble_eq_true rfl) (fun a6 ha6 => ?_)
  subst ha6
  refine cw_eq (ws2 := (q0, .inr (10, [.ref (a1 0), .ref (a2 0), .ref (a3 0), .ref (a4 0), .ref (a5 0), .null, .null, .null, .null, .null])) :: (((((wX4 T a1 ++ wX2 T a2) ++ wX7 T a3) ++ wX8 T a4) ++ wX0 T a5) ++ wX5 T a6)) rfl ?_
  refine cw_put0 (j := 5) (fs2 := [.ref (a1 0), .ref (a2 0), .ref (a3 0), .ref (a4 0), .ref (a5 0), .ref (a6 0), .null, .null, .null, .null]) B hin klX10_47 kiX10_5 (by decide +kernel) rfl rfl (Nat.le_of_ble_eq_true rfl) rfl ?_
  refine cw_aload (k0 := 0) B 0 (by decide +kernel) rfl rfl ?_
  refine cw_new B knX10_51 (by decide +kernel) (Nat.le_of_ble_eq_true rfl) (Nat.le_of_ble_eq_true rfl) (fun q7 => ?_)
  refine cw_dup B (by decide +kernel) rfl ?_
  refine cw_initN (idx := 53) B hN (ctX3 _ _ _ _) (by decide +kernel) kcX3 (Nat.le_of_ble_eq_true rfl) (Nat.le_of_ble_eq_true rfl) (by decide +kernel) (Nat.le_of_ble_eq_true rfl) (Nat.le_of_ble_eq_true rfl) (fun a7 ha7 => ?_)
  subst ha7
  refine cw_eq (ws2 := (q0, .inr (10, [.ref (a1 0), .ref (a2 0), .ref (a3 0), .ref (a4 0), .ref (a5 0), .ref (a6 0), .null, .null, .null, .null])) :: ((((((wX4 T a1 ++ wX2 T a2) ++ wX7 T a3) ++ wX8 T a4) ++ wX0 T a5) ++ wX5 T a6) ++ wX3 T a7)) rfl ?_
  refine cw_put0 (j := 6) (fs2 := [.ref (a1 0), .ref (a2 0), .ref (a3 0), .ref (a4 0), .ref (a5 0), .ref (a6 0), .ref (a7 0), .null, .null, .null]) B hin klX10_54 kiX10_6 (by decide +kernel) rfl rfl (Nat.le_of_ble_eq_true rfl) rfl ?_
  refine cw_aload (k0 := 0) B 0 (by decide +kernel) rfl rfl ?_
  refine cw_new B knX10_58 (by decide +kernel) (Nat.le_of_ble_eq_true rfl) (Nat.le_of_ble_eq_true rfl) (fun q8 => ?_)
  refine cw_dup B (by decide +kernel) rfl ?_
  refine cw_initN (idx := 60) B hN (ctX6 _ _ _ _) (by decide +kernel) kcX6 (Nat.le_of_ble_eq_true rfl) (Nat.le_of_ble_eq_true rfl) (by decide +kernel) (Nat.le_of_ble_eq_true rfl) (Nat.le_of_ble_eq_true rfl) (fun a8 ha8 => ?_)
  subst ha8
  refine cw_eq (ws2 := (q0, .inr (10, [.ref (a1 0), .ref (a2 0), .ref (a3 0), .ref (a4 0), .ref (a5 0), .ref (a6 0), .ref (a7 0), .null, .null, .null])) :: (((((((wX4 T a1 ++ wX2 T a2) ++ wX7 T a3) ++ wX8 T a4) ++ wX0 T a5) ++ wX5 T a6) ++ wX3 T a7) ++ wX6 T a8)) rfl ?_
  refine cw_put0 (j := 7) (fs2 := [.ref (a1 0), .ref (a2 0), .ref (a3 0), .ref (a4 0), .ref (a5 0), .ref (a6 0), .ref (a7 0), .ref (a8 0), .null, .null]) B hin klX10_61 kiX10_7 (by decide +kernel) rfl rfl (Nat.le_of_ble_eq_true rfl) rfl ?_
  refine cw_aload (k0 := 0) B 0 (by decide +kernel) rfl rfl ?_
  refine cw_new B knX10_65 (by decide +kernel) (Nat.le_of_ble_eq_true rfl) (Nat.le_of_ble_eq_true rfl) (fun q9 => ?_)
  refine cw_dup B (by decide +kernel) rfl ?_
  refine cw_initN (idx := 67) B hN (ctX1 _ _ _ _) (by decide +kernel) kcX1 (Nat.le_of_ble_eq_true rfl) (Nat.le_of_ble_eq_true rfl) (by decide +kernel) (Nat.le_of_ble_eq_true rfl) (Nat.le_of_ble_eq_true rfl) (fun a9 ha9 => ?_)
  subst ha9
  refine cw_eq (ws2 := (q0, .inr (10, [.ref (a1 0), .ref (a2 0), .ref (a3 0), .ref (a4 0), .ref (a5 0), .ref (a6 0), .ref (a7 0), .ref (a8 0), .null, .null])) :: ((((((((wX4 T a1 ++ wX2 T a2) ++ wX7 T a3) ++ wX8 T a4) ++ wX0 T a5) ++ wX5 T a6) ++ wX3 T a7) ++ wX6 T a8) ++ wX1 T a9)) rfl ?_
  refine cw_put0 (j := 8) (fs2 := [.ref (a1 0), .ref (a2 0), .ref (a3 0), .ref (a4 0), .ref (a5 0), .ref (a6 0), .ref (a7 0), .ref (a8 0), .ref (a9 0), .null]) B hin klX10_68 kiX10_8 (by decide +kernel) rfl rfl (Nat.le_of_ble_eq_true rfl) rfl ?_
  refine cw_aload (k0 := 0) B 0 (by decide +kernel) rfl rfl ?_
  refine cw_new B knX10_72 (by decide +kernel) (Nat.le_of_ble_eq_true rfl) (Nat.le_of_ble_eq_true rfl) (fun q10 => ?_)
  refine cw_dup B (by decide +kernel) rfl ?_
  refine cw_initN (idx := 74) B hN (ctX9 _ _ _ _) (by decide +kernel) kcX9 (Nat.le_of_ble_eq_true rfl) (Nat.le_of_ble_eq_true rfl) (by decide +kernel) (Nat.le_of_ble_eq_true rfl) (Nat.le_of_ble_eq_true rfl) (fun a10 ha10 => ?_)
  subst ha10
  refine cw_eq (ws2 := (q0, .inr (10, [.ref (a1 0), .ref (a2 0), .ref (a3 0), .ref (a4 0), .ref (a5 0), .ref (a6 0), .ref (a7 0), .ref (a8 0), .ref (a9 0), .null])) :: (((((((((wX4 T a1 ++ wX2 T a2) ++ wX7 T a3) ++ wX8 T a4) ++ wX0 T a5) ++ wX5 T a6) ++ wX3 T a7) ++ wX6 T a8) ++ wX1 T a9) ++ wX9 T a10)) rfl ?_
  refine cw_put0 (j := 9) (fs2 := [.ref (a1 0), .ref (a2 0), .ref (a3 0), .ref (a4 0), .ref (a5 0), .ref (a6 0), .ref (a7 0), .ref (a8 0), .ref (a9 0), .ref (a10 0)]) B hin klX10_75 kiX10_9 (by decide +kernel) rfl rfl (Nat.le_of_ble_eq_true rfl) rfl ?_
  exact cw_ret B hr hlk (by decide +kernel) (Nat.le_of_ble_eq_true rfl) (Nat.le_of_ble_eq_true rfl) (ab_fn [q0, a1 0, a1 1, a1 2, a1 3, a1 4, a2 0, a2 1, a2 2, a2 3, a2 4, a3 0, a3 1, a3 2, a4 0, a4 1, a4 2, a4 3, a4 4, a4 5, a5 0, a5 1, a6 0, a6 1, a6 2, a6 3, a6 4, a6 5, a7 0, a7 1, a7 2, a7 3, a7 4, a7 5, a8 0, a8 1, a8 2, a8 3, a8 4, a8 5, a9 0, a9 1, a9 2, a10 0, a10 1, a10 2, a10 3]) rfl rfl
