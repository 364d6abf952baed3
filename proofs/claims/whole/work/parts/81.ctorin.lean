def ab_fn (l : List Nat) (j : Nat) : Nat := l.getD j 0
theorem klX4_11 : ab_LK RX4 11 4 2 := ⟨RX4, TX4, 6, rfl, by decide, by decide, by decide, rfl, bw_mem 142 (by decide +kernel) (by decide +kernel)⟩
theorem kiX4_2 : ab_LI RX4 4 2 (.array .int) := ⟨RX4, TX4, 6, tyX4, rfl, by decide, rfl, by decide +kernel, tyX4_ok, nmX4⟩
theorem klX4_15 : ab_LK RX4 15 4 3 := ⟨RX4, TX4, 6, rfl, by decide, by decide, by decide, rfl, bw_mem 146 (by decide +kernel) (by decide +kernel)⟩
theorem kiX4_3 : ab_LI RX4 4 3 (.array .int) := ⟨RX4, TX4, 6, tyX4, rfl, by decide, rfl, by decide +kernel, tyX4_ok, nmX4⟩
theorem klX4_18 : ab_LK RX4 18 4 4 := ⟨RX4, TX4, 6, rfl, by decide, by decide, by decide, rfl, bw_mem 151 (by decide +kernel) (by decide +kernel)⟩
theorem kiX4_4 : ab_LI RX4 4 4 (.array .int) := ⟨RX4, TX4, 6, tyX4, rfl, by decide, rfl, by decide +kernel, tyX4_ok, nmX4⟩
theorem klX4_21 : ab_LK RX4 21 4 5 := ⟨RX4, TX4, 6, rfl, by decide, by decide, by decide, rfl, bw_mem 156 (by decide +kernel) (by decide +kernel)⟩
theorem kiX4_5 : ab_LI RX4 4 5 (.array .int) := ⟨RX4, TX4, 6, tyX4, rfl, by decide, rfl, by decide +kernel, tyX4_ok, nmX4⟩
theorem klX2_11 : ab_LK RX2 11 2 2 := ⟨RX2, TX2, 6, rfl, by decide, by decide, by decide, rfl, bw_mem 183 (by decide +kernel) (by decide +kernel)⟩
theorem kiX2_2 : ab_LI RX2 2 2 (.array .int) := ⟨RX2, TX2, 6, tyX2, rfl, by decide, rfl, by decide +kernel, tyX2_ok, nmX2⟩
theorem klX2_15 : ab_LK RX2 15 2 3 := ⟨RX2, TX2, 6, rfl, by decide, by decide, by decide, rfl, bw_mem 184 (by decide +kernel) (by decide +kernel)⟩
theorem kiX2_3 : ab_LI RX2 2 3 (.array .int) := ⟨RX2, TX2, 6, tyX2, rfl, by decide, rfl, by decide +kernel, tyX2_ok, nmX2⟩
theorem klX2_18 : ab_LK RX2 18 2 4 := ⟨RX2, TX2, 6, rfl, by decide, by decide, by decide, rfl, bw_mem 185 (by decide +kernel) (by decide +kernel)⟩
theorem kiX2_4 : ab_LI RX2 2 4 (.array .int) := ⟨RX2, TX2, 6, tyX2, rfl, by decide, rfl, by decide +kernel, tyX2_ok, nmX2⟩
theorem klX2_21 : ab_LK RX2 21 2 5 := ⟨RX2, TX2, 6, rfl, by decide, by decide, by decide, rfl, bw_mem 186 (by decide +kernel) (by decide +kernel)⟩
theorem kiX2_5 : ab_LI RX2 2 5 (.array .int) := ⟨RX2, TX2, 6, tyX2, rfl, by decide, rfl, by decide +kernel, tyX2_ok, nmX2⟩
theorem klX7_9 : ab_LK RX7 9 7 1 := ⟨RX7, TX7, 4, rfl, by decide, by decide, by decide, rfl, bw_mem 208 (by decide +kernel) (by decide +kernel)⟩
theorem kiX7_1 : ab_LI RX7 7 1 (.array .int) := ⟨RX7, TX7, 4, tyX7, rfl, by decide, rfl, by decide +kernel, tyX7_ok, nmX7⟩
theorem klX7_15 : ab_LK RX7 15 7 3 := ⟨RX7, TX7, 4, rfl, by decide, by decide, by decide, rfl, bw_mem 211 (by decide +kernel) (by decide +kernel)⟩
theorem kiX7_3 : ab_LI RX7 7 3 (.array .int) := ⟨RX7, TX7, 4, tyX7, rfl, by decide, rfl, by decide +kernel, tyX7_ok, nmX7⟩
theorem knX8_7 : ab_LN RX8 7 7 4 [.int 0, .null, .int 0, .null] := ⟨RX7, TX7, tyX7, rfl, tyX7_ok, bw_mem 227 (by decide +kernel) (by decide +kernel), bw_mem 201 (by decide +kernel) (by decide +kernel), bw_mem 104 (by decide +kernel) (by decide +kernel), by decide +kernel⟩
theorem kcX7 : ab_CC yX7_init cX7_init 1 := ⟨⟨rfl, bw_mem 203 (by decide +kernel) (by decide +kernel), bw_mem 104 (by decide +kernel) (by decide +kernel), bw_mem 204 (by decide +kernel) (by decide +kernel)⟩, by decide +kernel, by decide⟩
theorem klX8_10 : ab_LK RX8 10 8 0 := ⟨RX8, TX8, 8, rfl, by decide, by decide, by decide, rfl, bw_mem 229 (by decide +kernel) (by decide +kernel)⟩
theorem kiX8_0 : ab_LI RX8 8 0 (.object "SecondBest$Orders") := ⟨RX8, TX8, 8, tyX8, rfl, by decide, rfl, by decide +kernel, tyX8_ok, nmX8⟩
theorem klX8_16 : ab_LK RX8 16 8 1 := ⟨RX8, TX8, 8, rfl, by decide, by decide, by decide, rfl, bw_mem 230 (by decide +kernel) (by decide +kernel)⟩
theorem kiX8_1 : ab_LI RX8 8 1 (.array .int) := ⟨RX8, TX8, 8, tyX8, rfl, by decide, rfl, by decide +kernel, tyX8_ok, nmX8⟩
theorem klX8_20 : ab_LK RX8 20 8 2 := ⟨RX8, TX8, 8, rfl, by decide, by decide, by decide, rfl, bw_mem 231 (by decide +kernel) (by decide +kernel)⟩
theorem kiX8_2 : ab_LI RX8 8 2 (.array .int) := ⟨RX8, TX8, 8, tyX8, rfl, by decide, rfl, by decide +kernel, tyX8_ok, nmX8⟩
theorem klX0_11 : ab_LK RX0 11 0 0 := ⟨RX0, TX0, 1, rfl, by decide, by decide, by decide, rfl, bw_mem 260 (by decide +kernel) (by decide +kernel)⟩
theorem kiX0_0 : ab_LI RX0 0 0 (.array .int) := ⟨RX0, TX0, 1, tyX0, rfl, by decide, rfl, by decide +kernel, tyX0_ok, nmX0⟩
theorem klX5_11 : ab_LK RX5 11 5 1 := ⟨RX5, TX5, 11, rfl, by decide, by decide, by decide, rfl, bw_mem 272 (by decide +kernel) (by decide +kernel)⟩
theorem kiX5_1 : ab_LI RX5 5 1 (.array .int) := ⟨RX5, TX5, 11, tyX5, rfl, by decide, rfl, by decide +kernel, tyX5_ok, nmX5⟩
theorem klX5_15 : ab_LK RX5 15 5 4 := ⟨RX5, TX5, 11, rfl, by decide, by decide, by decide, rfl, bw_mem 275 (by decide +kernel) (by decide +kernel)⟩
theorem kiX5_4 : ab_LI RX5 5 4 (.array .int) := ⟨RX5, TX5, 11, tyX5, rfl, by decide, rfl, by decide +kernel, tyX5_ok, nmX5⟩
theorem klX5_18 : ab_LK RX5 18 5 6 := ⟨RX5, TX5, 11, rfl, by decide, by decide, by decide, rfl, bw_mem 277 (by decide +kernel) (by decide +kernel)⟩
theorem kiX5_6 : ab_LI RX5 5 6 (.array .int) := ⟨RX5, TX5, 11, tyX5, rfl, by decide, rfl, by decide +kernel, tyX5_ok, nmX5⟩
theorem klX5_21 : ab_LK RX5 21 5 8 := ⟨RX5, TX5, 11, rfl, by decide, by decide, by decide, rfl, bw_mem 279 (by decide +kernel) (by decide +kernel)⟩
theorem kiX5_8 : ab_LI RX5 5 8 (.array .int) := ⟨RX5, TX5, 11, tyX5, rfl, by decide, rfl, by decide +kernel, tyX5_ok, nmX5⟩
theorem klX5_24 : ab_LK RX5 24 5 10 := ⟨RX5, TX5, 11, rfl, by decide, by decide, by decide, rfl, bw_mem 281 (by decide +kernel) (by decide +kernel)⟩
theorem kiX5_10 : ab_LI RX5 5 10 (.array .int) := ⟨RX5, TX5, 11, tyX5, rfl, by decide, rfl, by decide +kernel, tyX5_ok, nmX5⟩
theorem klX3_11 : ab_LK RX3 11 3 1 := ⟨RX3, TX3, 6, rfl, by decide, by decide, by decide, rfl, bw_mem 313 (by decide +kernel) (by decide +kernel)⟩
theorem kiX3_1 : ab_LI RX3 3 1 (.array .int) := ⟨RX3, TX3, 6, tyX3, rfl, by decide, rfl, by decide +kernel, tyX3_ok, nmX3⟩
theorem klX3_15 : ab_LK RX3 15 3 2 := ⟨RX3, TX3, 6, rfl, by decide, by decide, by decide, rfl, bw_mem 314 (by decide +kernel) (by decide +kernel)⟩
theorem kiX3_2 : ab_LI RX3 3 2 (.array .int) := ⟨RX3, TX3, 6, tyX3, rfl, by decide, rfl, by decide +kernel, tyX3_ok, nmX3⟩
theorem klX3_18 : ab_LK RX3 18 3 3 := ⟨RX3, TX3, 6, rfl, by decide, by decide, by decide, rfl, bw_mem 315 (by decide +kernel) (by decide +kernel)⟩
theorem kiX3_3 : ab_LI RX3 3 3 (.array .int) := ⟨RX3, TX3, 6, tyX3, rfl, by decide, rfl, by decide +kernel, tyX3_ok, nmX3⟩
theorem klX3_21 : ab_LK RX3 21 3 4 := ⟨RX3, TX3, 6, rfl, by decide, by decide, by decide, rfl, bw_mem 316 (by decide +kernel) (by decide +kernel)⟩
theorem kiX3_4 : ab_LI RX3 3 4 (.array .int) := ⟨RX3, TX3, 6, tyX3, rfl, by decide, rfl, by decide +kernel, tyX3_ok, nmX3⟩
theorem klX3_24 : ab_LK RX3 24 3 5 := ⟨RX3, TX3, 6, rfl, by decide, by decide, by decide, rfl, bw_mem 317 (by decide +kernel) (by decide +kernel)⟩
theorem kiX3_5 : ab_LI RX3 3 5 (.array .long) := ⟨RX3, TX3, 6, tyX3, rfl, by decide, rfl, by decide +kernel, tyX3_ok, nmX3⟩
theorem klX6_9 : ab_LK RX6 9 6 0 := ⟨RX6, TX6, 6, rfl, by decide, by decide, by decide, rfl, bw_mem 338 (by decide +kernel) (by decide +kernel)⟩
theorem kiX6_0 : ab_LI RX6 6 0 (.array .int) := ⟨RX6, TX6, 6, tyX6, rfl, by decide, rfl, by decide +kernel, tyX6_ok, nmX6⟩
theorem klX6_15 : ab_LK RX6 15 6 1 := ⟨RX6, TX6, 6, rfl, by decide, by decide, by decide, rfl, bw_mem 340 (by decide +kernel) (by decide +kernel)⟩
theorem kiX6_1 : ab_LI RX6 6 1 (.array .int) := ⟨RX6, TX6, 6, tyX6, rfl, by decide, rfl, by decide +kernel, tyX6_ok, nmX6⟩
theorem klX6_18 : ab_LK RX6 18 6 3 := ⟨RX6, TX6, 6, rfl, by decide, by decide, by decide, rfl, bw_mem 342 (by decide +kernel) (by decide +kernel)⟩
theorem kiX6_3 : ab_LI RX6 6 3 (.array .int) := ⟨RX6, TX6, 6, tyX6, rfl, by decide, rfl, by decide +kernel, tyX6_ok, nmX6⟩
theorem klX6_21 : ab_LK RX6 21 6 4 := ⟨RX6, TX6, 6, rfl, by decide, by decide, by decide, rfl, bw_mem 344 (by decide +kernel) (by decide +kernel)⟩
theorem kiX6_4 : ab_LI RX6 6 4 (.array .int) := ⟨RX6, TX6, 6, tyX6, rfl, by decide, rfl, by decide +kernel, tyX6_ok, nmX6⟩
theorem klX6_24 : ab_LK RX6 24 6 5 := ⟨RX6, TX6, 6, rfl, by decide, by decide, by decide, rfl, bw_mem 345 (by decide +kernel) (by decide +kernel)⟩
theorem kiX6_5 : ab_LI RX6 6 5 (.array .int) := ⟨RX6, TX6, 6, tyX6, rfl, by decide, rfl, by decide +kernel, tyX6_ok, nmX6⟩
theorem klX1_11 : ab_LK RX1 11 1 2 := ⟨RX1, TX1, 5, rfl, by decide, by decide, by decide, rfl, bw_mem 369 (by decide +kernel) (by decide +kernel)⟩
theorem kiX1_2 : ab_LI RX1 1 2 (.array .int) := ⟨RX1, TX1, 5, tyX1, rfl, by decide, rfl, by decide +kernel, tyX1_ok, nmX1⟩
theorem klX1_15 : ab_LK RX1 15 1 3 := ⟨RX1, TX1, 5, rfl, by decide, by decide, by decide, rfl, bw_mem 371 (by decide +kernel) (by decide +kernel)⟩
theorem kiX1_3 : ab_LI RX1 1 3 (.array .int) := ⟨RX1, TX1, 5, tyX1, rfl, by decide, rfl, by decide +kernel, tyX1_ok, nmX1⟩
theorem klX9_11 : ab_LK RX9 11 9 0 := ⟨RX9, TX9, 3, rfl, by decide, by decide, by decide, rfl, bw_mem 390 (by decide +kernel) (by decide +kernel)⟩
theorem kiX9_0 : ab_LI RX9 9 0 (.array .int) := ⟨RX9, TX9, 3, tyX9, rfl, by decide, rfl, by decide +kernel, tyX9_ok, nmX9⟩
theorem klX9_15 : ab_LK RX9 15 9 1 := ⟨RX9, TX9, 3, rfl, by decide, by decide, by decide, rfl, bw_mem 391 (by decide +kernel) (by decide +kernel)⟩
theorem kiX9_1 : ab_LI RX9 9 1 (.array .int) := ⟨RX9, TX9, 3, tyX9, rfl, by decide, rfl, by decide +kernel, tyX9_ok, nmX9⟩
theorem klX9_18 : ab_LK RX9 18 9 2 := ⟨RX9, TX9, 3, rfl, by decide, by decide, by decide, rfl, bw_mem 392 (by decide +kernel) (by decide +kernel)⟩
theorem kiX9_2 : ab_LI RX9 9 2 (.array .long) := ⟨RX9, TX9, 3, tyX9, rfl, by decide, rfl, by decide +kernel, tyX9_ok, nmX9⟩
def wX4 (T : ClassId × ClassId × ClassId) (a : Nat → Nat) : va_W := (a 0, .inr (4, [.int 0, .int 0, .ref (a 1), .ref (a 2), .ref (a 3), .ref (a 4)])) :: [(a 1, .inl (T.1, 8, .inl (fun _ => 0))), (a 2, .inl (T.1, 12, .inl (fun _ => 0))), (a 3, .inl (T.1, 12, .inl (fun _ => 0))), (a 4, .inl (T.1, 12, .inl (fun _ => 0)))]
set_option maxHeartbeats 4000000 in
set_option maxRecDepth 100000 in
theorem ctX4 (l : Launch) (D : va_G) (T : ClassId × ClassId × ClassId) (q0 : Nat) : CI l D T yX4_init cX4_init 1 2 4 44 q0 4 [.int 0, .int 0, .null, .null, .null, .null] (wX4 T) := by
  refine CI.of (by decide) rfl (by decide) ?_
  intro E A hla hin hr hlk hN B
  subst hla
  refine cw_aload (k0 := 0) B 0 (by decide +kernel) rfl rfl ?_
  refine cw_obj (idx := 3) B (bw_mem 130 (by decide +kernel) (by decide +kernel)) (by decide +kernel) (Nat.le_of_ble_eq_true rfl) (Nat.le_of_ble_eq_true rfl) ?_
  refine cw_aload (k0 := 0) B 0 (by decide +kernel) rfl rfl ?_
  refine cw_bipush (n := 8) (v := 8) B (by decide +kernel) (by decide) ?_
  refine cw_newI B (N := 8) (bw_mem 173 (by decide +kernel) (by decide +kernel)) (by decide +kernel) (by decide) (by decide) (Nat.le_of_ble_eq_true rfl) (Nat.le_of_ble_eq_true rfl) (Nat.le_of_ble_eq_true rfl) (fun q1 => ?_)
  refine cw_eq (ws2 := [(q0, .inr (4, [.int 0, .int 0, .null, .null, .null, .null])), (q1, .inl (T.1, 8, .inl (fun _ => 0)))]) rfl ?_
  refine cw_put0 (j := 2) (fs2 := [.int 0, .int 0, .ref q1, .null, .null, .null]) B hin klX4_11 kiX4_2 (by decide +kernel) rfl rfl (Nat.le_of_ble_eq_true rfl) rfl ?_
  refine cw_aload (k0 := 0) B 0 (by decide +kernel) rfl rfl ?_
  refine cw_bipush (n := 12) (v := 12) B (by decide +kernel) (by decide) ?_
  refine cw_newI B (N := 12) (bw_mem 173 (by decide +kernel) (by decide +kernel)) (by decide +kernel) (by decide) (by decide) (Nat.le_of_ble_eq_true rfl) (Nat.le_of_ble_eq_true rfl) (Nat.le_of_ble_eq_true rfl) (fun q2 => ?_)
  refine cw_eq (ws2 := [(q0, .inr (4, [.int 0, .int 0, .ref q1, .null, .null, .null])), (q1, .inl (T.1, 8, .inl (fun _ => 0))), (q2, .inl (T.1, 12, .inl (fun _ => 0)))]) rfl ?_
  refine cw_put0 (j := 3) (fs2 := [.int 0, .int 0, .ref q1, .ref q2, .null, .null]) B hin klX4_15 kiX4_3 (by decide +kernel) rfl rfl (Nat.le_of_ble_eq_true rfl) rfl ?_
  refine cw_aload (k0 := 0) B 0 (by decide +kernel) rfl rfl ?_
  refine cw_bipush (n := 12) (v := 12) B (by decide +kernel) (by decide) ?_
  refine cw_newI B (N := 12) (bw_mem 173 (by decide +kernel) (by decide +kernel)) (by decide +kernel) (by decide) (by decide) (Nat.le_of_ble_eq_true rfl) (Nat.le_of_ble_eq_true rfl) (Nat.le_of_ble_eq_true rfl) (fun q3 => ?_)
  refine cw_eq (ws2 := [(q0, .inr (4, [.int 0, .int 0, .ref q1, .ref q2, .null, .null])), (q1, .inl (T.1, 8, .inl (fun _ => 0))), (q2, .inl (T.1, 12, .inl (fun _ => 0))), (q3, .inl (T.1, 12, .inl (fun _ => 0)))]) rfl ?_
  refine cw_put0 (j := 4) (fs2 := [.int 0, .int 0, .ref q1, .ref q2, .ref q3, .null]) B hin klX4_18 kiX4_4 (by decide +kernel) rfl rfl (Nat.le_of_ble_eq_true rfl) rfl ?_
  refine cw_aload (k0 := 0) B 0 (by decide +kernel) rfl rfl ?_
  refine cw_bipush (n := 12) (v := 12) B (by decide +kernel) (by decide) ?_
  refine cw_newI B (N := 12) (bw_mem 173 (by decide +kernel) (by decide +kernel)) (by decide +kernel) (by decide) (by decide) (Nat.le_of_ble_eq_true rfl) (Nat.le_of_ble_eq_true rfl) (Nat.le_of_ble_eq_true rfl) (fun q4 => ?_)
  refine cw_eq (ws2 := [(q0, .inr (4, [.int 0, .int 0, .ref q1, .ref q2, .ref q3, .null])), (q1, .inl (T.1, 8, .inl (fun _ => 0))), (q2, .inl (T.1, 12, .inl (fun _ => 0))), (q3, .inl (T.1, 12, .inl (fun _ => 0))), (q4, .inl (T.1, 12, .inl (fun _ => 0)))]) rfl ?_
  refine cw_put0 (j := 5) (fs2 := [.int 0, .int 0, .ref q1, .ref q2, .ref q3, .ref q4]) B hin klX4_21 kiX4_5 (by decide +kernel) rfl rfl (Nat.le_of_ble_eq_true rfl) rfl ?_
  exact cw_ret B hr hlk (by decide +kernel) (Nat.le_of_ble_eq_true rfl) (Nat.le_of_ble_eq_true rfl) (ab_fn [q0, q1, q2, q3, q4]) rfl rfl

def wX2 (T : ClassId × ClassId × ClassId) (a : Nat → Nat) : va_W := (a 0, .inr (2, [.int 0, .int 0, .ref (a 1), .ref (a 2), .ref (a 3), .ref (a 4)])) :: [(a 1, .inl (T.1, 40, .inl (fun _ => 0))), (a 2, .inl (T.1, 40, .inl (fun _ => 0))), (a 3, .inl (T.1, 40, .inl (fun _ => 0))), (a 4, .inl (T.1, 40, .inl (fun _ => 0)))]
set_option maxHeartbeats 4000000 in
set_option maxRecDepth 100000 in
theorem ctX2 (l : Launch) (D : va_G) (T : ClassId × ClassId × ClassId) (q0 : Nat) : CI l D T yX2_init cX2_init 1 2 4 160 q0 2 [.int 0, .int 0, .null, .null, .null, .null] (wX2 T) := by
  refine CI.of (by decide) rfl (by decide) ?_
  intro E A hla hin hr hlk hN B
  subst hla
  refine cw_aload (k0 := 0) B 0 (by decide +kernel) rfl rfl ?_
  refine cw_obj (idx := 3) B (bw_mem 179 (by decide +kernel) (by decide +kernel)) (by decide +kernel) (Nat.le_of_ble_eq_true rfl) (Nat.le_of_ble_eq_true rfl) ?_
  refine cw_aload (k0 := 0) B 0 (by decide +kernel) rfl rfl ?_
  refine cw_bipush (n := 40) (v := 40) B (by decide +kernel) (by decide) ?_
  refine cw_newI B (N := 40) (bw_mem 173 (by decide +kernel) (by decide +kernel)) (by decide +kernel) (by decide) (by decide) (Nat.le_of_ble_eq_true rfl) (Nat.le_of_ble_eq_true rfl) (Nat.le_of_ble_eq_true rfl) (fun q1 => ?_)
  refine cw_eq (ws2 := [(q0, .inr (2, [.int 0, .int 0, .null, .null, .null, .null])), (q1, .inl (T.1, 40, .inl (fun _ => 0)))]) rfl ?_
  refine cw_put0 (j := 2) (fs2 := [.int 0, .int 0, .ref q1, .null, .null, .null]) B hin klX2_11 kiX2_2 (by decide +kernel) rfl rfl (Nat.le_of_ble_eq_true rfl) rfl ?_
  refine cw_aload (k0 := 0) B 0 (by decide +kernel) rfl rfl ?_
  refine cw_bipush (n := 40) (v := 40) B (by decide +kernel) (by decide) ?_
  refine cw_newI B (N := 40) (bw_mem 173 (by decide +kernel) (by decide +kernel)) (by decide +kernel) (by decide) (by decide) (Nat.le_of_ble_eq_true rfl) (Nat.le_of_ble_eq_true rfl) (Nat.le_of_ble_eq_true rfl) (fun q2 => ?_)
  refine cw_eq (ws2 := [(q0, .inr (2, [.int 0, .int 0, .ref q1, .null, .null, .null])), (q1, .inl (T.1, 40, .inl (fun _ => 0))), (q2, .inl (T.1, 40, .inl (fun _ => 0)))]) rfl ?_
  refine cw_put0 (j := 3) (fs2 := [.int 0, .int 0, .ref q1, .ref q2, .null, .null]) B hin klX2_15 kiX2_3 (by decide +kernel) rfl rfl (Nat.le_of_ble_eq_true rfl) rfl ?_
  refine cw_aload (k0 := 0) B 0 (by decide +kernel) rfl rfl ?_
  refine cw_bipush (n := 40) (v := 40) B (by decide +kernel) (by decide) ?_
  refine cw_newI B (N := 40) (bw_mem 173 (by decide +kernel) (by decide +kernel)) (by decide +kernel) (by decide) (by decide) (Nat.le_of_ble_eq_true rfl) (Nat.le_of_ble_eq_true rfl) (Nat.le_of_ble_eq_true rfl) (fun q3 => ?_)
  refine cw_eq (ws2 := [(q0, .inr (2, [.int 0, .int 0, .ref q1, .ref q2, .null, .null])), (q1, .inl (T.1, 40, .inl (fun _ => 0))), (q2, .inl (T.1, 40, .inl (fun _ => 0))), (q3, .inl (T.1, 40, .inl (fun _ => 0)))]) rfl ?_
  refine cw_put0 (j := 4) (fs2 := [.int 0, .int 0, .ref q1, .ref q2, .ref q3, .null]) B hin klX2_18 kiX2_4 (by decide +kernel) rfl rfl (Nat.le_of_ble_eq_true rfl) rfl ?_
  refine cw_aload (k0 := 0) B 0 (by decide +kernel) rfl rfl ?_
  refine cw_bipush (n := 40) (v := 40) B (by decide +kernel) (by decide) ?_
  refine cw_newI B (N := 40) (bw_mem 173 (by decide +kernel) (by decide +kernel)) (by decide +kernel) (by decide) (by decide) (Nat.le_of_ble_eq_true rfl) (Nat.le_of_ble_eq_true rfl) (Nat.le_of_ble_eq_true rfl) (fun q4 => ?_)
  refine cw_eq (ws2 := [(q0, .inr (2, [.int 0, .int 0, .ref q1, .ref q2, .ref q3, .null])), (q1, .inl (T.1, 40, .inl (fun _ => 0))), (q2, .inl (T.1, 40, .inl (fun _ => 0))), (q3, .inl (T.1, 40, .inl (fun _ => 0))), (q4, .inl (T.1, 40, .inl (fun _ => 0)))]) rfl ?_
  refine cw_put0 (j := 5) (fs2 := [.int 0, .int 0, .ref q1, .ref q2, .ref q3, .ref q4]) B hin klX2_21 kiX2_5 (by decide +kernel) rfl rfl (Nat.le_of_ble_eq_true rfl) rfl ?_
  exact cw_ret B hr hlk (by decide +kernel) (Nat.le_of_ble_eq_true rfl) (Nat.le_of_ble_eq_true rfl) (ab_fn [q0, q1, q2, q3, q4]) rfl rfl

def wX7 (T : ClassId × ClassId × ClassId) (a : Nat → Nat) : va_W := (a 0, .inr (7, [.int 0, .ref (a 1), .int 0, .ref (a 2)])) :: [(a 1, .inl (T.1, 8, .inl (fun _ => 0))), (a 2, .inl (T.1, 256, .inl (fun _ => 0)))]
set_option maxHeartbeats 4000000 in
set_option maxRecDepth 100000 in
theorem ctX7 (l : Launch) (D : va_G) (T : ClassId × ClassId × ClassId) (q0 : Nat) : CI l D T yX7_init cX7_init 1 2 2 264 q0 7 [.int 0, .null, .int 0, .null] (wX7 T) := by
  refine CI.of (by decide) rfl (by decide) ?_
  intro E A hla hin hr hlk hN B
  subst hla
  refine cw_aload (k0 := 0) B 0 (by decide +kernel) rfl rfl ?_
  refine cw_obj (idx := 1) B (bw_mem 205 (by decide +kernel) (by decide +kernel)) (by decide +kernel) (Nat.le_of_ble_eq_true rfl) (Nat.le_of_ble_eq_true rfl) ?_
  refine cw_aload (k0 := 0) B 0 (by decide +kernel) rfl rfl ?_
  refine cw_bipush (n := 8) (v := 8) B (by decide +kernel) (by decide) ?_
  refine cw_newI B (N := 8) (bw_mem 173 (by decide +kernel) (by decide +kernel)) (by decide +kernel) (by decide) (by decide) (Nat.le_of_ble_eq_true rfl) (Nat.le_of_ble_eq_true rfl) (Nat.le_of_ble_eq_true rfl) (fun q1 => ?_)
  refine cw_eq (ws2 := [(q0, .inr (7, [.int 0, .null, .int 0, .null])), (q1, .inl (T.1, 8, .inl (fun _ => 0)))]) rfl ?_
  refine cw_put0 (j := 1) (fs2 := [.int 0, .ref q1, .int 0, .null]) B hin klX7_9 kiX7_1 (by decide +kernel) rfl rfl (Nat.le_of_ble_eq_true rfl) rfl ?_
  refine cw_aload (k0 := 0) B 0 (by decide +kernel) rfl rfl ?_
  refine cw_sipush (n := 256) (v := 256) B (by decide +kernel) (by decide) ?_
  refine cw_newI B (N := 256) (bw_mem 173 (by decide +kernel) (by decide +kernel)) (by decide +kernel) (by decide) (by decide) (Nat.le_of_ble_eq_true rfl) (Nat.le_of_ble_eq_true rfl) (Nat.le_of_ble_eq_true rfl) (fun q2 => ?_)
  refine cw_eq (ws2 := [(q0, .inr (7, [.int 0, .ref q1, .int 0, .null])), (q1, .inl (T.1, 8, .inl (fun _ => 0))), (q2, .inl (T.1, 256, .inl (fun _ => 0)))]) rfl ?_
  refine cw_put0 (j := 3) (fs2 := [.int 0, .ref q1, .int 0, .ref q2]) B hin klX7_15 kiX7_3 (by decide +kernel) rfl rfl (Nat.le_of_ble_eq_true rfl) rfl ?_
  exact cw_ret B hr hlk (by decide +kernel) (Nat.le_of_ble_eq_true rfl) (Nat.le_of_ble_eq_true rfl) (ab_fn [q0, q1, q2]) rfl rfl

def wX8 (T : ClassId × ClassId × ClassId) (a : Nat → Nat) : va_W := (a 0, .inr (8, [.ref (a 1), .ref (a 4), .ref (a 5), .int 0, .int 0, .int 0, .int 0, .int 0])) :: (wX7 T (fun j => a (1 + j)) ++ [(a 4, .inl (T.1, 729, .inl (fun _ => 0))), (a 5, .inl (T.1, 729, .inl (fun _ => 0)))])
set_option maxHeartbeats 4000000 in
set_option maxRecDepth 100000 in
theorem ctX8 (l : Launch) (D : va_G) (T : ClassId × ClassId × ClassId) (q0 : Nat) : CI l D T yX8_init cX8_init 1 3 5 1726 q0 8 [.null, .null, .null, .int 0, .int 0, .int 0, .int 0, .int 0] (wX8 T) := by
  refine CI.of (by decide) rfl (by decide) ?_
  intro E A hla hin hr hlk hN B
  subst hla
  refine cw_aload (k0 := 0) B 0 (by decide +kernel) rfl rfl ?_
  refine cw_obj (idx := 1) B (bw_mem 226 (by decide +kernel) (by decide +kernel)) (by decide +kernel) (Nat.le_of_ble_eq_true rfl) (Nat.le_of_ble_eq_true rfl) ?_
  refine cw_aload (k0 := 0) B 0 (by decide +kernel) rfl rfl ?_
  refine cw_new B knX8_7 (by decide +kernel) (Nat.le_of_ble_eq_true rfl) (Nat.le_of_ble_eq_true rfl) (fun q1 => ?_)
  refine cw_dup B (by decide +kernel) rfl ?_
  refine cw_initN (idx := 9) B hN (ctX7 _ _ _ _) (by decide +kernel) kcX7 (Nat.le_of_ble_eq_true rfl) (Nat.le_of_ble_eq_true rfl) (by decide +kernel) (Nat.le_of_ble_eq_true rfl) (Nat.le_of_ble_eq_true rfl) (fun a1 ha1 => ?_)
  subst ha1
  refine cw_eq (ws2 := (q0, .inr (8, [.null, .null, .null, .int 0, .int 0, .int 0, .int 0, .int 0])) :: wX7 T a1) rfl ?_
  refine cw_put0 (j := 0) (fs2 := [.ref (a1 0), .null, .null, .int 0, .int 0, .int 0, .int 0, .int 0]) B hin klX8_10 kiX8_0 (by decide +kernel) rfl rfl (Nat.le_of_ble_eq_true rfl) rfl ?_
  refine cw_aload (k0 := 0) B 0 (by decide +kernel) rfl rfl ?_
  refine cw_sipush (n := 729) (v := 729) B (by decide +kernel) (by decide) ?_
  refine cw_newI B (N := 729) (bw_mem 173 (by decide +kernel) (by decide +kernel)) (by decide +kernel) (by decide) (by decide) (Nat.le_of_ble_eq_true rfl) (Nat.le_of_ble_eq_true rfl) (Nat.le_of_ble_eq_true rfl) (fun q2 => ?_)
  refine cw_eq (ws2 := (q0, .inr (8, [.ref (a1 0), .null, .null, .int 0, .int 0, .int 0, .int 0, .int 0])) :: (wX7 T a1 ++ [(q2, .inl (T.1, 729, .inl (fun _ => 0)))])) rfl ?_
  refine cw_put0 (j := 1) (fs2 := [.ref (a1 0), .ref q2, .null, .int 0, .int 0, .int 0, .int 0, .int 0]) B hin klX8_16 kiX8_1 (by decide +kernel) rfl rfl (Nat.le_of_ble_eq_true rfl) rfl ?_
  refine cw_aload (k0 := 0) B 0 (by decide +kernel) rfl rfl ?_
  refine cw_sipush (n := 729) (v := 729) B (by decide +kernel) (by decide) ?_
  refine cw_newI B (N := 729) (bw_mem 173 (by decide +kernel) (by decide +kernel)) (by decide +kernel) (by decide) (by decide) (Nat.le_of_ble_eq_true rfl) (Nat.le_of_ble_eq_true rfl) (Nat.le_of_ble_eq_true rfl) (fun q3 => ?_)
  refine cw_eq (ws2 := (q0, .inr (8, [.ref (a1 0), .ref q2, .null, .int 0, .int 0, .int 0, .int 0, .int 0])) :: (wX7 T a1 ++ [(q2, .inl (T.1, 729, .inl (fun _ => 0))), (q3, .inl (T.1, 729, .inl (fun _ => 0)))])) rfl ?_
  refine cw_put0 (j := 2) (fs2 := [.ref (a1 0), .ref q2, .ref q3, .int 0, .int 0, .int 0, .int 0, .int 0]) B hin klX8_20 kiX8_2 (by decide +kernel) rfl rfl (Nat.le_of_ble_eq_true rfl) rfl ?_
  exact cw_ret B hr hlk (by decide +kernel) (Nat.le_of_ble_eq_true rfl) (Nat.le_of_ble_eq_true rfl) (ab_fn [q0, a1 0, a1 1, a1 2, q2, q3]) rfl rfl

def wX0 (T : ClassId × ClassId × ClassId) (a : Nat → Nat) : va_W := (a 0, .inr (0, [.ref (a 1)])) :: [(a 1, .inl (T.1, 256, .inl (fun _ => 0)))]
set_option maxHeartbeats 4000000 in
set_option maxRecDepth 100000 in
theorem ctX0 (l : Launch) (D : va_G) (T : ClassId × ClassId × ClassId) (q0 : Nat) : CI l D T yX0_init cX0_init 1 2 1 256 q0 0 [.null] (wX0 T) := by
  refine CI.of (by decide) rfl (by decide) ?_
  intro E A hla hin hr hlk hN B
  subst hla
  refine cw_aload (k0 := 0) B 0 (by decide +kernel) rfl rfl ?_
  refine cw_obj (idx := 5) B (bw_mem 259 (by decide +kernel) (by decide +kernel)) (by decide +kernel) (Nat.le_of_ble_eq_true rfl) (Nat.le_of_ble_eq_true rfl) ?_
  refine cw_aload (k0 := 0) B 0 (by decide +kernel) rfl rfl ?_
  refine cw_sipush (n := 256) (v := 256) B (by decide +kernel) (by decide) ?_
  refine cw_newI B (N := 256) (bw_mem 173 (by decide +kernel) (by decide +kernel)) (by decide +kernel) (by decide) (by decide) (Nat.le_of_ble_eq_true rfl) (Nat.le_of_ble_eq_true rfl) (Nat.le_of_ble_eq_true rfl) (fun q1 => ?_)
  refine cw_eq (ws2 := [(q0, .inr (0, [.null])), (q1, .inl (T.1, 256, .inl (fun _ => 0)))]) rfl ?_
  refine cw_put0 (j := 0) (fs2 := [.ref q1]) B hin klX0_11 kiX0_0 (by decide +kernel) rfl rfl (Nat.le_of_ble_eq_true rfl) rfl ?_
  exact cw_ret B hr hlk (by decide +kernel) (Nat.le_of_ble_eq_true rfl) (Nat.le_of_ble_eq_true rfl) (ab_fn [q0, q1]) rfl rfl

def wX5 (T : ClassId × ClassId × ClassId) (a : Nat → Nat) : va_W := (a 0, .inr (5, [.int 0, .ref (a 1), .int 0, .int 0, .ref (a 2), .int 0, .ref (a 3), .int 0, .ref (a 4), .int 0, .ref (a 5)])) :: [(a 1, .inl (T.1, 120, .inl (fun _ => 0))), (a 2, .inl (T.1, 242, .inl (fun _ => 0))), (a 3, .inl (T.1, 242, .inl (fun _ => 0))), (a 4, .inl (T.1, 121, .inl (fun _ => 0))), (a 5, .inl (T.1, 5, .inl (fun _ => 0)))]
set_option maxHeartbeats 4000000 in
set_option maxRecDepth 100000 in
theorem ctX5 (l : Launch) (D : va_G) (T : ClassId × ClassId × ClassId) (q0 : Nat) : CI l D T yX5_init cX5_init 1 2 5 730 q0 5 [.int 0, .null, .int 0, .int 0, .null, .int 0, .null, .int 0, .null, .int 0, .null] (wX5 T) := by
  refine CI.of (by decide) rfl (by decide) ?_
  intro E A hla hin hr hlk hN B
  subst hla
  refine cw_aload (k0 := 0) B 0 (by decide +kernel) rfl rfl ?_
  refine cw_obj (idx := 5) B (bw_mem 269 (by decide +kernel) (by decide +kernel)) (by decide +kernel) (Nat.le_of_ble_eq_true rfl) (Nat.le_of_ble_eq_true rfl) ?_
  refine cw_aload (k0 := 0) B 0 (by decide +kernel) rfl rfl ?_
  refine cw_bipush (n := 120) (v := 120) B (by decide +kernel) (by decide) ?_
  refine cw_newI B (N := 120) (bw_mem 173 (by decide +kernel) (by decide +kernel)) (by decide +kernel) (by decide) (by decide) (Nat.le_of_ble_eq_true rfl) (Nat.le_of_ble_eq_true rfl) (Nat.le_of_ble_eq_true rfl) (fun q1 => ?_)
  refine cw_eq (ws2 := [(q0, .inr (5, [.int 0, .null, .int 0, .int 0, .null, .int 0, .null, .int 0, .null, .int 0, .null])), (q1, .inl (T.1, 120, .inl (fun _ => 0)))]) rfl ?_
  refine cw_put0 (j := 1) (fs2 := [.int 0, .ref q1, .int 0, .int 0, .null, .int 0, .null, .int 0, .null, .int 0, .null]) B hin klX5_11 kiX5_1 (by decide +kernel) rfl rfl (Nat.le_of_ble_eq_true rfl) rfl ?_
  refine cw_aload (k0 := 0) B 0 (by decide +kernel) rfl rfl ?_
  refine cw_sipush (n := 242) (v := 242) B (by decide +kernel) (by decide) ?_
  refine cw_newI B (N := 242) (bw_mem 173 (by decide +kernel) (by decide +kernel)) (by decide +kernel) (by decide) (by decide) (Nat.le_of_ble_eq_true rfl) (Nat.le_of_ble_eq_true rfl) (Nat.le_of_ble_eq_true rfl) (fun q2 => ?_)
  refine cw_eq (ws2 := [(q0, .inr (5, [.int 0, .ref q1, .int 0, .int 0, .null, .int 0, .null, .int 0, .null, .int 0, .null])), (q1, .inl (T.1, 120, .inl (fun _ => 0))), (q2, .inl (T.1, 242, .inl (fun _ => 0)))]) rfl ?_
  refine cw_put0 (j := 4) (fs2 := [.int 0, .ref q1, .int 0, .int 0, .ref q2, .int 0, .null, .int 0, .null, .int 0, .null]) B hin klX5_15 kiX5_4 (by decide +kernel) rfl rfl (Nat.le_of_ble_eq_true rfl) rfl ?_
  refine cw_aload (k0 := 0) B 0 (by decide +kernel) rfl rfl ?_
  refine cw_sipush (n := 242) (v := 242) B (by decide +kernel) (by decide) ?_
  refine cw_newI B (N := 242) (bw_mem 173 (by decide +kernel) (by decide +kernel)) (by decide +kernel) (by decide) (by decide) (Nat.le_of_ble_eq_true rfl) (Nat.le_of_ble_eq_true rfl) (Nat.le_of_ble_eq_true rfl) (fun q3 => ?_)
  refine cw_eq (ws2 := [(q0, .inr (5, [.int 0, .ref q1, .int 0, .int 0, .ref q2, .int 0, .null, .int 0, .null, .int 0, .null])), (q1, .inl (T.1, 120, .inl (fun _ => 0))), (q2, .inl (T.1, 242, .inl (fun _ => 0))), (q3, .inl (T.1, 242, .inl (fun _ => 0)))]) rfl ?_
  refine cw_put0 (j := 6) (fs2 := [.int 0, .ref q1, .int 0, .int 0, .ref q2, .int 0, .ref q3, .int 0, .null, .int 0, .null]) B hin klX5_18 kiX5_6 (by decide +kernel) rfl rfl (Nat.le_of_ble_eq_true rfl) rfl ?_
  refine cw_aload (k0 := 0) B 0 (by decide +kernel) rfl rfl ?_
  refine cw_bipush (n := 121) (v := 121) B (by decide +kernel) (by decide) ?_
  refine cw_newI B (N := 121) (bw_mem 173 (by decide +kernel) (by decide +kernel)) (by decide +kernel) (by decide) (by decide) (Nat.le_of_ble_eq_true rfl) (Nat.le_of_ble_eq_true rfl) (Nat.le_of_ble_eq_true rfl) (fun q4 => ?_)
  refine cw_eq (ws2 := [(q0, .inr (5, [.int 0, .ref q1, .int 0, .int 0, .ref q2, .int 0, .ref q3, .int 0, .null, .int 0, .null])), (q1, .inl (T.1, 120, .inl (fun _ => 0))), (q2, .inl (T.1, 242, .inl (fun _ => 0))), (q3, .inl (T.1, 242, .inl (fun _ => 0))), (q4, .inl (T.1, 121, .inl (fun _ => 0)))]) rfl ?_
  refine cw_put0 (j := 8) (fs2 := [.int 0, .ref q1, .int 0, .int 0, .ref q2, .int 0, .ref q3, .int 0, .ref q4, .int 0, .null]) B hin klX5_21 kiX5_8 (by decide +kernel) rfl rfl (Nat.le_of_ble_eq_true rfl) rfl ?_
  refine cw_aload (k0 := 0) B 0 (by decide +kernel) rfl rfl ?_
  refine cw_iconst (n := 5) (v := 5) B (by decide +kernel) (by decide) ?_
  refine cw_newI B (N := 5) (bw_mem 173 (by decide +kernel) (by decide +kernel)) (by decide +kernel) (by decide) (by decide) (Nat.le_of_ble_eq_true rfl) (Nat.le_of_ble_eq_true rfl) (Nat.le_of_ble_eq_true rfl) (fun q5 => ?_)
  refine cw_eq (ws2 := [(q0, .inr (5, [.int 0, .ref q1, .int 0, .int 0, .ref q2, .int 0, .ref q3, .int 0, .ref q4, .int 0, .null])), (q1, .inl (T.1, 120, .inl (fun _ => 0))), (q2, .inl (T.1, 242, .inl (fun _ => 0))), (q3, .inl (T.1, 242, .inl (fun _ => 0))), (q4, .inl (T.1, 121, .inl (fun _ => 0))), (q5, .inl (T.1, 5, .inl (fun _ => 0)))]) rfl ?_
  refine cw_put0 (j := 10) (fs2 := [.int 0, .ref q1, .int 0, .int 0, .ref q2, .int 0, .ref q3, .int 0, .ref q4, .int 0, .ref q5]) B hin klX5_24 kiX5_10 (by decide +kernel) rfl rfl (Nat.le_of_ble_eq_true rfl) rfl ?_
  exact cw_ret B hr hlk (by decide +kernel) (Nat.le_of_ble_eq_true rfl) (Nat.le_of_ble_eq_true rfl) (ab_fn [q0, q1, q2, q3, q4, q5]) rfl rfl

def wX3 (T : ClassId × ClassId × ClassId) (a : Nat → Nat) : va_W := (a 0, .inr (3, [.int 0, .ref (a 1), .ref (a 2), .ref (a 3), .ref (a 4), .ref (a 5)])) :: [(a 1, .inl (T.1, 8, .inl (fun _ => 0))), (a 2, .inl (T.1, 8, .inl (fun _ => 0))), (a 3, .inl (T.1, 8, .inl (fun _ => 0))), (a 4, .inl (T.1, 192, .inl (fun _ => 0))), (a 5, .inl (T.2.1, 32, .inr (.inl (fun _ => 0))))]
set_option maxHeartbeats 4000000 in
set_option maxRecDepth 100000 in
theorem ctX3 (l : Launch) (D : va_G) (T : ClassId × ClassId × ClassId) (q0 : Nat) : CI l D T yX3_init cX3_init 1 2 5 248 q0 3 [.int 0, .null, .null, .null, .null, .null] (wX3 T) := by
  refine CI.of (by decide) rfl (by decide) ?_
  intro E A hla hin hr hlk hN B
  subst hla
  refine cw_aload (k0 := 0) B 0 (by decide +kernel) rfl rfl ?_
  refine cw_obj (idx := 3) B (bw_mem 310 (by decide +kernel) (by decide +kernel)) (by decide +kernel) (Nat.le_of_ble_eq_true rfl) (Nat.le_of_ble_eq_true rfl) ?_
  refine cw_aload (k0 := 0) B 0 (by decide +kernel) rfl rfl ?_
  refine cw_bipush (n := 8) (v := 8) B (by decide +kernel) (by decide) ?_
  refine cw_newI B (N := 8) (bw_mem 173 (by decide +kernel) (by decide +kernel)) (by decide +kernel) (by decide) (by decide) (Nat.le_of_ble_eq_true rfl) (Nat.le_of_ble_eq_true rfl) (Nat.le_of_ble_eq_true rfl) (fun q1 => ?_)
  refine cw_eq (ws2 := [(q0, .inr (3, [.int 0, .null, .null, .null, .null, .null])), (q1, .inl (T.1, 8, .inl (fun _ => 0)))]) rfl ?_
  refine cw_put0 (j := 1) (fs2 := [.int 0, .ref q1, .null, .null, .null, .null]) B hin klX3_11 kiX3_1 (by decide +kernel) rfl rfl (Nat.le_of_ble_eq_true rfl) rfl ?_
  refine cw_aload (k0 := 0) B 0 (by decide +kernel) rfl rfl ?_
  refine cw_bipush (n := 8) (v := 8) B (by decide +kernel) (by decide) ?_
  refine cw_newI B (N := 8) (bw_mem 173 (by decide +kernel) (by decide +kernel)) (by decide +kernel) (by decide) (by decide) (Nat.le_of_ble_eq_true rfl) (Nat.le_of_ble_eq_true rfl) (Nat.le_of_ble_eq_true rfl) (fun q2 => ?_)
  refine cw_eq (ws2 := [(q0, .inr (3, [.int 0, .ref q1, .null, .null, .null, .null])), (q1, .inl (T.1, 8, .inl (fun _ => 0))), (q2, .inl (T.1, 8, .inl (fun _ => 0)))]) rfl ?_
  refine cw_put0 (j := 2) (fs2 := [.int 0, .ref q1, .ref q2, .null, .null, .null]) B hin klX3_15 kiX3_2 (by decide +kernel) rfl rfl (Nat.le_of_ble_eq_true rfl) rfl ?_
  refine cw_aload (k0 := 0) B 0 (by decide +kernel) rfl rfl ?_
  refine cw_bipush (n := 8) (v := 8) B (by decide +kernel) (by decide) ?_
  refine cw_newI B (N := 8) (bw_mem 173 (by decide +kernel) (by decide +kernel)) (by decide +kernel) (by decide) (by decide) (Nat.le_of_ble_eq_true rfl) (Nat.le_of_ble_eq_true rfl) (Nat.le_of_ble_eq_true rfl) (fun q3 => ?_)
  refine cw_eq (ws2 := [(q0, .inr (3, [.int 0, .ref q1, .ref q2, .null, .null, .null])), (q1, .inl (T.1, 8, .inl (fun _ => 0))), (q2, .inl (T.1, 8, .inl (fun _ => 0))), (q3, .inl (T.1, 8, .inl (fun _ => 0)))]) rfl ?_
  refine cw_put0 (j := 3) (fs2 := [.int 0, .ref q1, .ref q2, .ref q3, .null, .null]) B hin klX3_18 kiX3_3 (by decide +kernel) rfl rfl (Nat.le_of_ble_eq_true rfl) rfl ?_
  refine cw_aload (k0 := 0) B 0 (by decide +kernel) rfl rfl ?_
  refine cw_sipush (n := 192) (v := 192) B (by decide +kernel) (by decide) ?_
  refine cw_newI B (N := 192) (bw_mem 173 (by decide +kernel) (by decide +kernel)) (by decide +kernel) (by decide) (by decide) (Nat.le_of_ble_eq_true rfl) (Nat.le_of_ble_eq_true rfl) (Nat.le_of_ble_eq_true rfl) (fun q4 => ?_)
  refine cw_eq (ws2 := [(q0, .inr (3, [.int 0, .ref q1, .ref q2, .ref q3, .null, .null])), (q1, .inl (T.1, 8, .inl (fun _ => 0))), (q2, .inl (T.1, 8, .inl (fun _ => 0))), (q3, .inl (T.1, 8, .inl (fun _ => 0))), (q4, .inl (T.1, 192, .inl (fun _ => 0)))]) rfl ?_
  refine cw_put0 (j := 4) (fs2 := [.int 0, .ref q1, .ref q2, .ref q3, .ref q4, .null]) B hin klX3_21 kiX3_4 (by decide +kernel) rfl rfl (Nat.le_of_ble_eq_true rfl) rfl ?_
  refine cw_aload (k0 := 0) B 0 (by decide +kernel) rfl rfl ?_
  refine cw_bipush (n := 32) (v := 32) B (by decide +kernel) (by decide) ?_
  refine cw_newJ B (N := 32) (bw_mem 331 (by decide +kernel) (by decide +kernel)) (by decide +kernel) (by decide) (by decide) (Nat.le_of_ble_eq_true rfl) (Nat.le_of_ble_eq_true rfl) (Nat.le_of_ble_eq_true rfl) (fun q5 => ?_)
  refine cw_eq (ws2 := [(q0, .inr (3, [.int 0, .ref q1, .ref q2, .ref q3, .ref q4, .null])), (q1, .inl (T.1, 8, .inl (fun _ => 0))), (q2, .inl (T.1, 8, .inl (fun _ => 0))), (q3, .inl (T.1, 8, .inl (fun _ => 0))), (q4, .inl (T.1, 192, .inl (fun _ => 0))), (q5, .inl (T.2.1, 32, .inr (.inl (fun _ => 0))))]) rfl ?_
  refine cw_put0 (j := 5) (fs2 := [.int 0, .ref q1, .ref q2, .ref q3, .ref q4, .ref q5]) B hin klX3_24 kiX3_5 (by decide +kernel) rfl rfl (Nat.le_of_ble_eq_true rfl) rfl ?_
  exact cw_ret B hr hlk (by decide +kernel) (Nat.le_of_ble_eq_true rfl) (Nat.le_of_ble_eq_true rfl) (ab_fn [q0, q1, q2, q3, q4, q5]) rfl rfl

def wX6 (T : ClassId × ClassId × ClassId) (a : Nat → Nat) : va_W := (a 0, .inr (6, [.ref (a 1), .ref (a 2), .int 0, .ref (a 3), .ref (a 4), .ref (a 5)])) :: [(a 1, .inl (T.1, 8, .inl (fun _ => 0))), (a 2, .inl (T.1, 8, .inl (fun _ => 0))), (a 3, .inl (T.1, 12, .inl (fun _ => 0))), (a 4, .inl (T.1, 12, .inl (fun _ => 0))), (a 5, .inl (T.1, 12, .inl (fun _ => 0)))]
set_option maxHeartbeats 4000000 in
set_option maxRecDepth 100000 in
theorem ctX6 (l : Launch) (D : va_G) (T : ClassId × ClassId × ClassId) (q0 : Nat) : CI l D T yX6_init cX6_init 1 2 5 52 q0 6 [.null, .null, .int 0, .null, .null, .null] (wX6 T) := by
  refine CI.of (by decide) rfl (by decide) ?_
  intro E A hla hin hr hlk hN B
  subst hla
  refine cw_aload (k0 := 0) B 0 (by decide +kernel) rfl rfl ?_
  refine cw_obj (idx := 1) B (bw_mem 337 (by decide +kernel) (by decide +kernel)) (by decide +kernel) (Nat.le_of_ble_eq_true rfl) (Nat.le_of_ble_eq_true rfl) ?_
  refine cw_aload (k0 := 0) B 0 (by decide +kernel) rfl rfl ?_
  refine cw_bipush (n := 8) (v := 8) B (by decide +kernel) (by decide) ?_
  refine cw_newI B (N := 8) (bw_mem 173 (by decide +kernel) (by decide +kernel)) (by decide +kernel) (by decide) (by decide) (Nat.le_of_ble_eq_true rfl) (Nat.le_of_ble_eq_true rfl) (Nat.le_of_ble_eq_true rfl) (fun q1 => ?_)
  refine cw_eq (ws2 := [(q0, .inr (6, [.null, .null, .int 0, .null, .null, .null])), (q1, .inl (T.1, 8, .inl (fun _ => 0)))]) rfl ?_
  refine cw_put0 (j := 0) (fs2 := [.ref q1, .null, .int 0, .null, .null, .null]) B hin klX6_9 kiX6_0 (by decide +kernel) rfl rfl (Nat.le_of_ble_eq_true rfl) rfl ?_
  refine cw_aload (k0 := 0) B 0 (by decide +kernel) rfl rfl ?_
  refine cw_bipush (n := 8) (v := 8) B (by decide +kernel) (by decide) ?_
  refine cw_newI B (N := 8) (bw_mem 173 (by decide +kernel) (by decide +kernel)) (by decide +kernel) (by decide) (by decide) (Nat.le_of_ble_eq_true rfl) (Nat.le_of_ble_eq_true rfl) (Nat.le_of_ble_eq_true rfl) (fun q2 => ?_)
  refine cw_eq (ws2 := [(q0, .inr (6, [.ref q1, .null, .int 0, .null, .null, .null])), (q1, .inl (T.1, 8, .inl (fun _ => 0))), (q2, .inl (T.1, 8, .inl (fun _ => 0)))]) rfl ?_
  refine cw_put0 (j := 1) (fs2 := [.ref q1, .ref q2, .int 0, .null, .null, .null]) B hin klX6_15 kiX6_1 (by decide +kernel) rfl rfl (Nat.le_of_ble_eq_true rfl) rfl ?_
  refine cw_aload (k0 := 0) B 0 (by decide +kernel) rfl rfl ?_
  refine cw_bipush (n := 12) (v := 12) B (by decide +kernel) (by decide) ?_
  refine cw_newI B (N := 12) (bw_mem 173 (by decide +kernel) (by decide +kernel)) (by decide +kernel) (by decide) (by decide) (Nat.le_of_ble_eq_true rfl) (Nat.le_of_ble_eq_true rfl) (Nat.le_of_ble_eq_true rfl) (fun q3 => ?_)
  refine cw_eq (ws2 := [(q0, .inr (6, [.ref q1, .ref q2, .int 0, .null, .null, .null])), (q1, .inl (T.1, 8, .inl (fun _ => 0))), (q2, .inl (T.1, 8, .inl (fun _ => 0))), (q3, .inl (T.1, 12, .inl (fun _ => 0)))]) rfl ?_
  refine cw_put0 (j := 3) (fs2 := [.ref q1, .ref q2, .int 0, .ref q3, .null, .null]) B hin klX6_18 kiX6_3 (by decide +kernel) rfl rfl (Nat.le_of_ble_eq_true rfl) rfl ?_
  refine cw_aload (k0 := 0) B 0 (by decide +kernel) rfl rfl ?_
  refine cw_bipush (n := 12) (v := 12) B (by decide +kernel) (by decide) ?_
  refine cw_newI B (N := 12) (bw_mem 173 (by decide +kernel) (by decide +kernel)) (by decide +kernel) (by decide) (by decide) (Nat.le_of_ble_eq_true rfl) (Nat.le_of_ble_eq_true rfl) (Nat.le_of_ble_eq_true rfl) (fun q4 => ?_)
  refine cw_eq (ws2 := [(q0, .inr (6, [.ref q1, .ref q2, .int 0, .ref q3, .null, .null])), (q1, .inl (T.1, 8, .inl (fun _ => 0))), (q2, .inl (T.1, 8, .inl (fun _ => 0))), (q3, .inl (T.1, 12, .inl (fun _ => 0))), (q4, .inl (T.1, 12, .inl (fun _ => 0)))]) rfl ?_
  refine cw_put0 (j := 4) (fs2 := [.ref q1, .ref q2, .int 0, .ref q3, .ref q4, .null]) B hin klX6_21 kiX6_4 (by decide +kernel) rfl rfl (Nat.le_of_ble_eq_true rfl) rfl ?_
  refine cw_aload (k0 := 0) B 0 (by decide +kernel) rfl rfl ?_
  refine cw_bipush (n := 12) (v := 12) B (by decide +kernel) (by decide) ?_
  refine cw_newI B (N := 12) (bw_mem 173 (by decide +kernel) (by decide +kernel)) (by decide +kernel) (by decide) (by decide) (Nat.le_of_ble_eq_true rfl) (Nat.le_of_ble_eq_true rfl) (Nat.le_of_ble_eq_true rfl) (fun q5 => ?_)
  refine cw_eq (ws2 := [(q0, .inr (6, [.ref q1, .ref q2, .int 0, .ref q3, .ref q4, .null])), (q1, .inl (T.1, 8, .inl (fun _ => 0))), (q2, .inl (T.1, 8, .inl (fun _ => 0))), (q3, .inl (T.1, 12, .inl (fun _ => 0))), (q4, .inl (T.1, 12, .inl (fun _ => 0))), (q5, .inl (T.1, 12, .inl (fun _ => 0)))]) rfl ?_
  refine cw_put0 (j := 5) (fs2 := [.ref q1, .ref q2, .int 0, .ref q3, .ref q4, .ref q5]) B hin klX6_24 kiX6_5 (by decide +kernel) rfl rfl (Nat.le_of_ble_eq_true rfl) rfl ?_
  exact cw_ret B hr hlk (by decide +kernel) (Nat.le_of_ble_eq_true rfl) (Nat.le_of_ble_eq_true rfl) (ab_fn [q0, q1, q2, q3, q4, q5]) rfl rfl

def wX1 (T : ClassId × ClassId × ClassId) (a : Nat → Nat) : va_W := (a 0, .inr (1, [.int 0, .int 0, .ref (a 1), .ref (a 2), .int 0])) :: [(a 1, .inl (T.1, 24, .inl (fun _ => 0))), (a 2, .inl (T.1, 50, .inl (fun _ => 0)))]
set_option maxHeartbeats 4000000 in
set_option maxRecDepth 100000 in
theorem ctX1 (l : Launch) (D : va_G) (T : ClassId × ClassId × ClassId) (q0 : Nat) : CI l D T yX1_init cX1_init 1 2 2 74 q0 1 [.int 0, .int 0, .null, .null, .int 0] (wX1 T) := by
  refine CI.of (by decide) rfl (by decide) ?_
  intro E A hla hin hr hlk hN B
  subst hla
  refine cw_aload (k0 := 0) B 0 (by decide +kernel) rfl rfl ?_
  refine cw_obj (idx := 3) B (bw_mem 364 (by decide +kernel) (by decide +kernel)) (by decide +kernel) (Nat.le_of_ble_eq_true rfl) (Nat.le_of_ble_eq_true rfl) ?_
  refine cw_aload (k0 := 0) B 0 (by decide +kernel) rfl rfl ?_
  refine cw_bipush (n := 24) (v := 24) B (by decide +kernel) (by decide) ?_
  refine cw_newI B (N := 24) (bw_mem 173 (by decide +kernel) (by decide +kernel)) (by decide +kernel) (by decide) (by decide) (Nat.le_of_ble_eq_true rfl) (Nat.le_of_ble_eq_true rfl) (Nat.le_of_ble_eq_true rfl) (fun q1 => ?_)
  refine cw_eq (ws2 := [(q0, .inr (1, [.int 0, .int 0, .null, .null, .int 0])), (q1, .inl (T.1, 24, .inl (fun _ => 0)))]) rfl ?_
  refine cw_put0 (j := 2) (fs2 := [.int 0, .int 0, .ref q1, .null, .int 0]) B hin klX1_11 kiX1_2 (by decide +kernel) rfl rfl (Nat.le_of_ble_eq_true rfl) rfl ?_
  refine cw_aload (k0 := 0) B 0 (by decide +kernel) rfl rfl ?_
  refine cw_bipush (n := 50) (v := 50) B (by decide +kernel) (by decide) ?_
  refine cw_newI B (N := 50) (bw_mem 173 (by decide +kernel) (by decide +kernel)) (by decide +kernel) (by decide) (by decide) (Nat.le_of_ble_eq_true rfl) (Nat.le_of_ble_eq_true rfl) (Nat.le_of_ble_eq_true rfl) (fun q2 => ?_)
  refine cw_eq (ws2 := [(q0, .inr (1, [.int 0, .int 0, .ref q1, .null, .int 0])), (q1, .inl (T.1, 24, .inl (fun _ => 0))), (q2, .inl (T.1, 50, .inl (fun _ => 0)))]) rfl ?_
  refine cw_put0 (j := 3) (fs2 := [.int 0, .int 0, .ref q1, .ref q2, .int 0]) B hin klX1_15 kiX1_3 (by decide +kernel) rfl rfl (Nat.le_of_ble_eq_true rfl) rfl ?_
  exact cw_ret B hr hlk (by decide +kernel) (Nat.le_of_ble_eq_true rfl) (Nat.le_of_ble_eq_true rfl) (ab_fn [q0, q1, q2]) rfl rfl

def wX9 (T : ClassId × ClassId × ClassId) (a : Nat → Nat) : va_W := (a 0, .inr (9, [.ref (a 1), .ref (a 2), .ref (a 3)])) :: [(a 1, .inl (T.1, 6, .inl (ab_upn 6 6 (fun _ => 0)))), (a 2, .inl (T.1, 6, .inl (fun _ => 0))), (a 3, .inl (T.2.1, 360, .inr (.inl (fun _ => 0))))]
set_option maxHeartbeats 4000000 in
set_option maxRecDepth 100000 in
theorem ctX9 (l : Launch) (D : va_G) (T : ClassId × ClassId × ClassId) (q0 : Nat) : CI l D T yX9_init cX9_init 1 2 3 372 q0 9 [.null, .null, .null] (wX9 T) := by
  refine CI.of (by decide) rfl (by decide) ?_
  intro E A hla hin hr hlk hN B
  subst hla
  refine cw_aload (k0 := 0) B 0 (by decide +kernel) rfl rfl ?_
  refine cw_obj (idx := 3) B (bw_mem 389 (by decide +kernel) (by decide +kernel)) (by decide +kernel) (Nat.le_of_ble_eq_true rfl) (Nat.le_of_ble_eq_true rfl) ?_
  refine cw_aload (k0 := 0) B 0 (by decide +kernel) rfl rfl ?_
  refine cw_bipush (n := 6) (v := 6) B (by decide +kernel) (by decide) ?_
  refine cw_newI B (N := 6) (bw_mem 173 (by decide +kernel) (by decide +kernel)) (by decide +kernel) (by decide) (by decide) (Nat.le_of_ble_eq_true rfl) (Nat.le_of_ble_eq_true rfl) (Nat.le_of_ble_eq_true rfl) (fun q1 => ?_)
  refine cw_eq (ws2 := [(q0, .inr (9, [.null, .null, .null])), (q1, .inl (T.1, 6, .inl (fun _ => 0)))]) rfl ?_
  refine cw_dup B (by decide +kernel) rfl ?_
  refine cw_iconst (n := 0) (v := 0) B (by decide +kernel) (by decide) ?_
  refine cw_bipush (n := 6) (v := 6) B (by decide +kernel) (by decide) ?_
  refine cw_iast B (j := 0) (ws2 := [(q0, .inr (9, [.null, .null, .null])), (q1, .inl (T.1, 6, .inl (ab_upn 6 1 (fun _ => 0))))]) 1 rfl (by unfold vp_in; decide) (by decide) (by decide +kernel) rfl ?_
  refine cw_dup B (by decide +kernel) rfl ?_
  refine cw_iconst (n := 1) (v := 1) B (by decide +kernel) (by decide) ?_
  refine cw_bipush (n := 6) (v := 6) B (by decide +kernel) (by decide) ?_
  refine cw_iast B (j := 1) (ws2 := [(q0, .inr (9, [.null, .null, .null])), (q1, .inl (T.1, 6, .inl (ab_upn 6 2 (fun _ => 0))))]) 1 rfl (by unfold vp_in; decide) (by decide) (by decide +kernel) rfl ?_
  refine cw_dup B (by decide +kernel) rfl ?_
  refine cw_iconst (n := 2) (v := 2) B (by decide +kernel) (by decide) ?_
  refine cw_bipush (n := 6) (v := 6) B (by decide +kernel) (by decide) ?_
  refine cw_iast B (j := 2) (ws2 := [(q0, .inr (9, [.null, .null, .null])), (q1, .inl (T.1, 6, .inl (ab_upn 6 3 (fun _ => 0))))]) 1 rfl (by unfold vp_in; decide) (by decide) (by decide +kernel) rfl ?_
  refine cw_dup B (by decide +kernel) rfl ?_
  refine cw_iconst (n := 3) (v := 3) B (by decide +kernel) (by decide) ?_
  refine cw_bipush (n := 6) (v := 6) B (by decide +kernel) (by decide) ?_
  refine cw_iast B (j := 3) (ws2 := [(q0, .inr (9, [.null, .null, .null])), (q1, .inl (T.1, 6, .inl (ab_upn 6 4 (fun _ => 0))))]) 1 rfl (by unfold vp_in; decide) (by decide) (by decide +kernel) rfl ?_
  refine cw_dup B (by decide +kernel) rfl ?_
  refine cw_iconst (n := 4) (v := 4) B (by decide +kernel) (by decide) ?_
  refine cw_bipush (n := 6) (v := 6) B (by decide +kernel) (by decide) ?_
  refine cw_iast B (j := 4) (ws2 := [(q0, .inr (9, [.null, .null, .null])), (q1, .inl (T.1, 6, .inl (ab_upn 6 5 (fun _ => 0))))]) 1 rfl (by unfold vp_in; decide) (by decide) (by decide +kernel) rfl ?_
  refine cw_dup B (by decide +kernel) rfl ?_
  refine cw_iconst (n := 5) (v := 5) B (by decide +kernel) (by decide) ?_
  refine cw_bipush (n := 6) (v := 6) B (by decide +kernel) (by decide) ?_
  refine cw_iast B (j := 5) (ws2 := [(q0, .inr (9, [.null, .null, .null])), (q1, .inl (T.1, 6, .inl (ab_upn 6 6 (fun _ => 0))))]) 1 rfl (by unfold vp_in; decide) (by decide) (by decide +kernel) rfl ?_
  refine cw_put0 (j := 0) (fs2 := [.ref q1, .null, .null]) B hin klX9_11 kiX9_0 (by decide +kernel) rfl rfl (Nat.le_of_ble_eq_true rfl) rfl ?_
  refine cw_aload (k0 := 0) B 0 (by decide +kernel) rfl rfl ?_
  refine cw_bipush (n := 6) (v := 6) B (by decide +kernel) (by decide) ?_
  refine cw_newI B (N := 6) (bw_mem 173 (by decide +kernel) (by decide +kernel)) (by decide +kernel) (by decide) (by decide) (Nat.le_of_ble_eq_true rfl) (Nat.le_of_ble_eq_true rfl) (Nat.le_of_ble_eq_true rfl) (fun q2 => ?_)
  refine cw_eq (ws2 := [(q0, .inr (9, [.ref q1, .null, .null])), (q1, .inl (T.1, 6, .inl (ab_upn 6 6 (fun _ => 0)))), (q2, .inl (T.1, 6, .inl (fun _ => 0)))]) rfl ?_
  refine cw_put0 (j := 1) (fs2 := [.ref q1, .ref q2, .null]) B hin klX9_15 kiX9_1 (by decide +kernel) rfl rfl (Nat.le_of_ble_eq_true rfl) rfl ?_
  refine cw_aload (k0 := 0) B 0 (by decide +kernel) rfl rfl ?_
  refine cw_sipush (n := 360) (v := 360) B (by decide +kernel) (by decide) ?_
  refine cw_newJ B (N := 360) (bw_mem 331 (by decide +kernel) (by decide +kernel)) (by decide +kernel) (by decide) (by decide) (Nat.le_of_ble_eq_true rfl) (Nat.le_of_ble_eq_true rfl) (Nat.le_of_ble_eq_true rfl) (fun q3 => ?_)
  refine cw_eq (ws2 := [(q0, .inr (9, [.ref q1, .ref q2, .null])), (q1, .inl (T.1, 6, .inl (ab_upn 6 6 (fun _ => 0)))), (q2, .inl (T.1, 6, .inl (fun _ => 0))), (q3, .inl (T.2.1, 360, .inr (.inl (fun _ => 0))))]) rfl ?_
  refine cw_put0 (j := 2) (fs2 := [.ref q1, .ref q2, .ref q3]) B hin klX9_18 kiX9_2 (by decide +kernel) rfl rfl (Nat.le_of_ble_eq_true rfl) rfl ?_
  exact cw_ret B hr hlk (by decide +kernel) (Nat.le_of_ble_eq_true rfl) (Nat.le_of_ble_eq_true rfl) (ab_fn [q0, q1, q2, q3]) rfl rfl
