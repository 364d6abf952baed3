/-! the law's entry: the first memory, the statics, what is known of the classes -/
theorem knL_7 : ab_LN RL 7 10 10 [.null, .null, .null, .null, .null, .null, .null, .null, .null, .null] := ⟨RX10, TX10, tyX10, rfl, tyX10_ok, bw_mem 117 (by decide +kernel) (by decide +kernel), bw_mem 118 (by decide +kernel) (by decide +kernel), bw_mem 101 (by decide +kernel) (by decide +kernel), by decide +kernel⟩
theorem knL_10 : ab_LN RL 10 11 50 [.null, .null, .null, .null, .int 0, .int 0, .int 0, .int 0, .null, .null, .null, .int 0, .null, .int 0, .int 0, .int 0, .int 0, .int 0, .int 0, .null, .null, .null, .int 0, .null, .null, .null, .null, .int 0, .int 0, .int 0, .null, .null, .int 0, .null, .int 0, .null, .null, .null, .null, .null, .int 0, .null, .null, .int 0, .int 0, .int 0, .null, .null, .null, .null] := ⟨RX11, TX11, tyX11, rfl, tyX11_ok, bw_mem 1176 (by decide +kernel) (by decide +kernel), bw_mem 1177 (by decide +kernel) (by decide +kernel), bw_mem 112 (by decide +kernel) (by decide +kernel), by decide +kernel⟩
theorem kcX10 : ab_CC yX10_init cX10_init 1 := ⟨⟨rfl, bw_mem 120 (by decide +kernel) (by decide +kernel), bw_mem 101 (by decide +kernel) (by decide +kernel), bw_mem 121 (by decide +kernel) (by decide +kernel)⟩, by decide +kernel, by decide⟩
theorem kcX11 : ab_CC yX11_init cX11_init 2 := ⟨⟨rfl, bw_mem 1179 (by decide +kernel) (by decide +kernel), bw_mem 112 (by decide +kernel) (by decide +kernel), bw_mem 1180 (by decide +kernel) (by decide +kernel)⟩, by decide +kernel, by decide⟩
theorem kmL_9 : Cond.methodLink RL 9 yX10_init ∈ BW := bw_mem 119 (by decide +kernel) (by decide +kernel)
theorem kmL_12 : Cond.methodLink RL 12 yX11_init ∈ BW := bw_mem 1178 (by decide +kernel) (by decide +kernel)
def ab_G (D : va_G) (T : ClassId × ClassId × ClassId) (a b : Nat → Nat) (t0 t1 t2 x : Nat) : GW := (fun c => if c < 47 then a c else if c < 77 then b (c - 47) else if c = 1000 then t0 else if c = 1001 then t1 else if c = 1002 then t2 else x, D, T.1, T.2.1, T.2.2)
set_option maxHeartbeats 4000000 in
set_option maxRecDepth 100000 in
theorem ab_w0 (D : va_G) (T : ClassId × ClassId × ClassId) (a b : Nat → Nat) (t0 t1 t2 x : Nat) : wX10 T a ++ wX11 T b = ab_w (ab_G D T a b t0 t1 t2 x) ab_M0 := rfl
theorem ab_arr {args : Array Value} {s : State} {ty : FieldType} (h : (Cond.arrayClass ty).before args s = true) : ∃ cA : ClassId, ArrOfT s cA ty ∧ s.vm.findClass ("[" ++ ty.toString) = some cA := by
  obtain ⟨cA, kA, comp, h1, h2, h3⟩ := Cond.arrayClass_spec h
  exact ⟨cA, fun n z => ⟨fun k h => (by cases h), kA, h2, comp, h3⟩, h1⟩
theorem ab_aw : Cond.arrayClass .int ∈ BW ∧ Cond.arrayClass .long ∈ BW ∧ Cond.arrayClass .boolean ∈ BW := ⟨bw_mem 173 (by decide +kernel) (by decide +kernel), bw_mem 331 (by decide +kernel) (by decide +kernel), bw_mem 1333 (by decide +kernel) (by decide +kernel)⟩
theorem ab_K0 {args : Array Value} {s : State} (hts : ∀ w ∈ BW, w.before args s = true) : ∃ (D : va_G) (T : ClassId × ClassId × ClassId), va_K D ab_cls (ab_tys T) s := by
  obtain ⟨c0, i0, k0⟩ := u_known (C := RX0) (T := TX0) (N := 1) (n := 1) hts ab_h0 (hts (.instantiable RX0 1) (bw_mem 255 (by decide +kernel) (by decide +kernel)))
  obtain ⟨c1, i1, k1⟩ := u_known (C := RX1) (T := TX1) (N := 5) (n := 5) hts ab_h1 (hts (.instantiable RX1 5) (bw_mem 360 (by decide +kernel) (by decide +kernel)))
  obtain ⟨c2, i2, k2⟩ := u_known (C := RX2) (T := TX2) (N := 6) (n := 6) hts ab_h2 (hts (.instantiable RX2 6) (bw_mem 175 (by decide +kernel) (by decide +kernel)))
  obtain ⟨c3, i3, k3⟩ := u_known (C := RX3) (T := TX3) (N := 6) (n := 6) hts ab_h3 (hts (.instantiable RX3 6) (bw_mem 306 (by decide +kernel) (by decide +kernel)))
  obtain ⟨c4, i4, k4⟩ := u_known (C := RX4) (T := TX4) (N := 6) (n := 6) hts ab_h4 (hts (.instantiable RX4 6) (bw_mem 126 (by decide +kernel) (by decide +kernel)))
  obtain ⟨c5, i5, k5⟩ := u_known (C := RX5) (T := TX5) (N := 11) (n := 11) hts ab_h5 (hts (.instantiable RX5 11) (bw_mem 265 (by decide +kernel) (by decide +kernel)))
  obtain ⟨c6, i6, k6⟩ := u_known (C := RX6) (T := TX6) (N := 6) (n := 6) hts ab_h6 (hts (.instantiable RX6 6) (bw_mem 333 (by decide +kernel) (by decide +kernel)))
  obtain ⟨c7, i7, k7⟩ := u_known (C := RX7) (T := TX7) (N := 4) (n := 4) hts ab_h7 (hts (.instantiable RX7 4) (bw_mem 201 (by decide +kernel) (by decide +kernel)))
  obtain ⟨c8, i8, k8⟩ := u_known (C := RX8) (T := TX8) (N := 8) (n := 8) hts ab_h8 (hts (.instantiable RX8 8) (bw_mem 222 (by decide +kernel) (by decide +kernel)))
  obtain ⟨c9, i9, k9⟩ := u_known (C := RX9) (T := TX9) (N := 3) (n := 3) hts ab_h9 (hts (.instantiable RX9 3) (bw_mem 385 (by decide +kernel) (by decide +kernel)))
  obtain ⟨c10, i10, k10⟩ := u_known (C := RX10) (T := TX10) (N := 10) (n := 10) hts ab_h10 (hts (.instantiable RX10 10) (bw_mem 118 (by decide +kernel) (by decide +kernel)))
  obtain ⟨c11, i11, k11⟩ := u_known (C := RX11) (T := TX11) (N := 50) (n := 50) hts ab_h11 (hts (.instantiable RX11 50) (bw_mem 1177 (by decide +kernel) (by decide +kernel)))
  obtain ⟨A, A1, A2⟩ := ab_arr (hts _ ab_aw.1)
  obtain ⟨B, B1, B2⟩ := ab_arr (hts _ ab_aw.2.1)
  obtain ⟨C, C1, C2⟩ := ab_arr (hts _ ab_aw.2.2)
  refine ⟨(fun k => if k = 0 then c0 else if k = 1 then c1 else if k = 2 then c2 else if k = 3 then c3 else if k = 4 then c4 else if k = 5 then c5 else if k = 6 then c6 else if k = 7 then c7 else if k = 8 then c8 else if k = 9 then c9 else if k = 10 then c10 else c11, fun k => if k = 0 then i0 else if k = 1 then i1 else if k = 2 then i2 else if k = 3 then i3 else if k = 4 then i4 else if k = 5 then i5 else if k = 6 then i6 else if k = 7 then i7 else if k = 8 then i8 else if k = 9 then i9 else if k = 10 then i10 else i11), (A, B, C), fun k q hq => ?_, fun k q hq => ?_⟩
  · match k, hq with
    | 0, hq => cases hq; exact k0
    | 1, hq => cases hq; exact k1
    | 2, hq => cases hq; exact k2
    | 3, hq => cases hq; exact k3
    | 4, hq => cases hq; exact k4
    | 5, hq => cases hq; exact k5
    | 6, hq => cases hq; exact k6
    | 7, hq => cases hq; exact k7
    | 8, hq => cases hq; exact k8
    | 9, hq => cases hq; exact k9
    | 10, hq => cases hq; exact k10
    | 11, hq => cases hq; exact k11
    | n + 12, hq => exact absurd (List.getElem?_eq_some_iff.mp hq).1 (by show ¬ n + 12 < 12; omega)
  · match k, hq with
    | 0, hq => cases hq; exact ⟨A1, A2⟩
    | 1, hq => cases hq; exact ⟨B1, B2⟩
    | 2, hq => cases hq; exact ⟨C1, C2⟩
    | n + 3, hq => exact absurd (List.getElem?_eq_some_iff.mp hq).1 (by show ¬ n + 3 < 3; omega)
theorem ab_NW0 {args : Array Value} {s : State} (hts : ∀ w ∈ lw_tbl, w.before args s = true) : ab_NW s := by
  have key : ∀ q ∈ ab_nests, Cond.methodLinkNest q.1 q.2.1 q.2.2 "SecondBest" ∈ lw_tbl := by decide +kernel
  exact fun q hq => va_Nw.of rfl (hts _ (key q hq))
def ab_given : Jvm.Cond := Jvm.Cond.and given_1 narrow_1
def ab_tm0 : Term := .static "SecondBest$Bodies" "KIND_ABOVE" "[I"
def ab_tm1 : Term := .static "SecondBest$Bodies" "OWN" "[I"
def ab_tm2 : Term := .static "SecondBest$Cup" "PARTS" "[J"
theorem ab_g0 : (∀ j, j < 8 → Cond.eq (.elem ab_tm0 (.int (Int32.ofNat j))) (.int ((ab_st 0).getD j 0)) ∈ flatC ab_given) ∧ Cond.arrayOf ab_tm0 .int ∈ flatC ab_given ∧ Cond.eq (.length ab_tm0) (.int (Int32.ofNat 8)) ∈ flatC ab_given := by decide +kernel
theorem ab_g1 : (∀ j, j < 32 → Cond.eq (.elem ab_tm1 (.int (Int32.ofNat j))) (.int ((ab_st 1).getD j 0)) ∈ flatC ab_given) ∧ Cond.arrayOf ab_tm1 .int ∈ flatC ab_given ∧ Cond.eq (.length ab_tm1) (.int (Int32.ofNat 32)) ∈ flatC ab_given := by decide +kernel
theorem ab_g2 : (∀ j, j < 4 → Cond.eq (.elem ab_tm2 (.int (Int32.ofNat j))) (.long (ab_stL.getD j 0)) ∈ flatC ab_given) ∧ Cond.arrayOf ab_tm2 .long ∈ flatC ab_given ∧ Cond.eq (.length ab_tm2) (.int (Int32.ofNat 4)) ∈ flatC ab_given := by decide +kernel
theorem ab_sw : Cond.laysStatic "SecondBest$Bodies" "KIND_ABOVE" "[I" ∈ lw_tbl ∧ Cond.laysStatic "SecondBest$Bodies" "OWN" "[I" ∈ lw_tbl ∧ Cond.laysStatic "SecondBest$Cup" "PARTS" "[J" ∈ lw_tbl ∧ Cond.initialized "SecondBest$Bodies" ∈ lw_tbl ∧ Cond.initialized "SecondBest$Cup" ∈ lw_tbl := by decide +kernel
def ab_SF0 (t0 t1 t2 : Nat) (A : Nat → Prop) (U : State) : Prop :=
  (va_Z "SecondBest$Bodies" "KIND_ABOVE" "[I" (.ref t0) A U U.heap ∧ va_T .int t0 8 (fun j => .int ((ab_st 0).getD j 0)) A U U.heap) ∧
  (va_Z "SecondBest$Bodies" "OWN" "[I" (.ref t1) A U U.heap ∧ va_T .int t1 32 (fun j => .int ((ab_st 1).getD j 0)) A U U.heap) ∧
  (va_Z "SecondBest$Cup" "PARTS" "[J" (.ref t2) A U U.heap ∧ va_T .long t2 4 (fun j => .long (ab_stL.getD j 0)) A U U.heap)
theorem ab_statics {args : Array Value} {s : State} (hts : ∀ w ∈ lw_tbl, w.before args s = true) (hg : ab_given.before args s = true) : ∃ t0 t1 t2 : Nat, ab_SF0 t0 t1 t2 (fun q => s.heap.size ≤ q) s := by
  have fl := flat_of_before _ hg
  have hA : ∀ a : Nat, a < s.heap.size → ¬ (fun q : Nat => s.heap.size ≤ q) a := fun a h => Nat.not_le.mpr h
  obtain ⟨t0, e0, T0⟩ := va_Tof (tm := ab_tm0) (ty := .int) (N := 8) (f := fun j => .int ((ab_st 0).getD j 0)) (by decide) (fl _ ab_g0.2.1) (va_eqt (fl _ ab_g0.2.2)) (fun j hj => va_eqt (fl _ (ab_g0.1 j hj))) hA
  obtain ⟨t1, e1, T1⟩ := va_Tof (tm := ab_tm1) (ty := .int) (N := 32) (f := fun j => .int ((ab_st 1).getD j 0)) (by decide) (fl _ ab_g1.2.1) (va_eqt (fl _ ab_g1.2.2)) (fun j hj => va_eqt (fl _ (ab_g1.1 j hj))) hA
  obtain ⟨t2, e2, T2⟩ := va_Tof (tm := ab_tm2) (ty := .long) (N := 4) (f := fun j => .long (ab_stL.getD j 0)) (by decide) (fl _ ab_g2.2.1) (va_eqt (fl _ ab_g2.2.2)) (fun j hj => va_eqtl (fl _ (ab_g2.1 j hj))) hA
  exact ⟨t0, t1, t2, ⟨va_Zof (hts _ ab_sw.1) (hts _ ab_sw.2.2.2.1) e0 hA, T0⟩, ⟨va_Zof (hts _ ab_sw.2.1) (hts _ ab_sw.2.2.2.1) e1 hA, T1⟩, va_Zof (hts _ ab_sw.2.2.1) (hts _ ab_sw.2.2.2.2) e2 hA, T2⟩
theorem ab_SF0.of {D : va_G} {T : ClassId × ClassId × ClassId} {a b : Nat → Nat} {t0 t1 t2 x : Nat} {U : State} (h : ab_SF0 t0 t1 t2 (fun q => U.heap.size ≤ q) U) (hA : ∀ q, ab_A (ab_G D T a b t0 t1 t2 x) q → U.heap.size ≤ q) : ab_SF (ab_G D T a b t0 t1 t2 x) U :=
  ⟨⟨h.1.1.narrow hA, h.1.2.narrow hA⟩, ⟨h.2.1.1.narrow hA, h.2.1.2.narrow hA⟩, h.2.2.1.narrow hA, h.2.2.2.narrow hA⟩
theorem ab_ok0 {G : GW} {M : Mem} {A : Nat → Prop} (h : va_D A (ab_w G M)) : ab_ok G ∧ ∀ q, ab_A G q → A q := by
  refine ⟨fun i j hi hj e => h.1 i j _ _ (ab_w_at G M hi) (ab_w_at G M hj) e, fun q hq => ?_⟩
  obtain ⟨c, hc, rfl⟩ := hq
  exact h.2 c _ (ab_w_at G M hc)
