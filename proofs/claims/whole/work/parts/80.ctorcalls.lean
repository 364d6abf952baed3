/-! constructors: fields put, cells born, constructors called, the way back -/
def ab_nests : List (String × Nat × MethodName) := [(RX10, 9, yX4_init), (RX10, 18, yX2_init), (RX10, 25, yX7_init), (RX10, 32, yX8_init), (RX8, 9, yX7_init), (RX10, 39, yX0_init), (RX10, 46, yX5_init), (RX10, 53, yX3_init), (RX10, 60, yX6_init), (RX10, 67, yX1_init), (RX10, 74, yX9_init)]
def ab_NW (U : State) : Prop := ∀ q ∈ ab_nests, va_Nw (.methodLinkNest q.1 q.2.1 q.2.2 "SecondBest") U
theorem ab_NW.warm {s U : State} (hW : s.WarmedH U.vm) (h : ab_NW s) : ab_NW U := fun q hq => va_Nw.warmM hW (h q hq)
theorem ab_NW.same {u U : State} (e : u.vm = U.vm) (h : ab_NW u) : ab_NW U := fun q hq => va_Nw.same rfl e (h q hq)
def ab_PI (D : va_G) (T : ClassId × ClassId × ClassId) (q ci : Nat) (fs : List Value) (sz : Nat) (U : State) : Prop := U.heap.size = sz ∧ va_P D ab_cls [(q, .inr (ci, fs))] U.heap ∧ va_K D ab_cls (ab_tys T) U ∧ ab_NW U
def ab_QI (D : va_G) (A : Nat → Prop) (q : Nat) (w : (Nat → Nat) → va_W) : Array Value → State → Outcome → State → Prop := va_Qv (fun a : Nat → Nat => a 0 = q) (fun a t => va_P D ab_cls (w a) t.heap ∧ va_D A (w a)) A
/-- a constructor's contract: behind it stands the world w a, its own cell at a 0 -/
def CI (l : Launch) (D : va_G) (T : ClassId × ClassId × ClassId) (y : MethodName) (cc : ByteArray) (nL lev K Z q ci : Nat) (fs : List Value) (w : (Nat → Nat) → va_W) : Prop :=
  ∀ sz : Nat, Met l y (.code y cc nL none :: BW) { frames := lev, cells := K, slots := Z, locals := 41 * lev } (va_Pc [.ref q] (ab_PI D T q ci fs sz)) (ab_QI D (va_A [(q, .inr (ci, fs))] sz) q w) K Z (va_A [(q, .inr (ci, fs))] sz)
theorem ab_D1 {x : Nat × va_E} {sz : Nat} : va_D (va_A [x] sz) [x] := by
  refine ⟨fun i j p q hi hj _ => ?_, fun k q hk => va_A.in hk⟩
  have h1 : i < 1 := (List.getElem?_eq_some_iff.mp hi).1
  have h2 : j < 1 := (List.getElem?_eq_some_iff.mp hj).1
  omega
theorem CI.of {l : Launch} {D : va_G} {T : ClassId × ClassId × ClassId} {y : MethodName} {cc : ByteArray} {nL lev K Z q ci : Nat} {fs : List Value} {w : (Nat → Nat) → va_W} (hy : plainName y.cls = true) (hy1 : y.name = "<init>") (hn : 1 ≤ nL)
    (h : ∀ (E : EE) (A : Nat → Prop), eLa E = l → (eMe E).name = "<init>" → (eMe E).sig.returnType = none → (eMe E).locks = false → ab_NW (eS E) → Cx E D T A y.cls cc nL lev K Z → CWo E D A nL (MQ (eB E) (ab_QI D A q w) (eA E) (eS E) K Z A) 0 [(0, .ref q)] [] 0 0 [(q, .inr (ci, fs))]) : CI l D T y cc nL lev K Z q ci fs w := by
  intro sz
  refine Met.ofW (cc := cc) (maxL := nL) (ret := none) hy rfl ?_
  intro p e s m args below meth c s₁ B hml hv
  obtain ⟨rfl, rfl, hP, hK, hN⟩ := hv
  have hts := atoms_spec (ws := .code y cc nL none :: BW) B.pre
  have hl := lv_entry ([.ref q]) (n := nL) (by show 1 ≤ nL; exact hn)
  rw [lg_entry_eq]
  have hin : meth.name = "<init>" := (name_of_methodNamed B.named B.method).1.trans hy1
  exact h (p, l, e, _, s, m, _, below, meth, c, 0, 0) (va_A [(q, .inr (ci, fs))] s.heap.size) rfl hin B.returns B.notSynchronized hN ⟨B.exec, B.bytes, hml, findClass_of_methodNamed B.named, fun w hw => hts w (List.mem_cons_of_mem _ hw), hK, fun x hx => Or.inr hx, Nat.le_refl _, Nat.le_refl _, Nat.le_refl _, Nat.le_refl _⟩ s.heap [] _ hP ab_D1 va_S.rf hl
/-- a field that its class's constructor may put -/
def ab_LI (own : String) (ci k : Nat) (ty : FieldType) : Prop := ∃ (C : String) (T : u_T) (N : Nat) (ty0 : Nat → FieldType), ab_cls[ci]? = some (C, T, N) ∧ k < N ∧ (T k).1 = own ∧ parseFieldDescriptor (T k).2.2.1 = some ty ∧ (∀ k, k < N → parseFieldDescriptor (T k).2.2.1 = some (ty0 k)) ∧ (∀ a, a < N → ∀ b, b < N → a ≠ b → (T a).2.1 ≠ (T b).2.1)
/-- a class that is made here -/
def ab_LN (own : String) (idx ci N : Nat) (fs : List Value) : Prop := ∃ (C : String) (T : u_T) (ty : Nat → FieldType), ab_cls[ci]? = some (C, T, N) ∧ (∀ k, k < N → parseFieldDescriptor (T k).2.2.1 = some (ty k)) ∧ Cond.classLink own idx C ∈ BW ∧ Cond.instantiable C N ∈ BW ∧ Cond.initialized C ∈ BW ∧ ∀ j, j < N → defaultValue (ty j) = vp_V fs j
/-- a constructor's static facts -/
def ab_CC (y : MethodName) (bytes : ByteArray) (maxL : Nat) : Prop := (y.name = "<init>" ∧ Cond.instanceMethod y ∈ BW ∧ Cond.initialized y.cls ∈ BW ∧ Cond.code y bytes maxL none ∈ BW) ∧ (y.cls ≠ "java/lang/invoke/MethodHandle" ∧ y.cls ≠ "java/lang/invoke/VarHandle" ∧ (parseMethodDescriptor y.desc).map (fun d => d.parameters.length) = some 0) ∧ maxL ≤ 22
theorem ab_blindI {D : va_G} {T : ClassId × ClassId × ClassId} {q ci : Nat} {fs : List Value} {sz : Nat} {av : List Value} : FrameBlind (va_Pc av (ab_PI D T q ci fs sz)) := by
  intro a U g mk h
  obtain ⟨h0, h1, hP, hK, hN⟩ := h
  exact ⟨h0, h1, hP, va_K.moved (u := U) (U := U.calling g mk a) (Vm.Alike.refl U.vm) hK, ab_NW.same (u := U) (U := U.calling g mk a) rfl hN⟩
theorem ab_ndr : ∀ (n s : Nat), va_nd (List.range' s n) = true
  | 0, _ => rfl
  | n + 1, s => by
    rw [List.range'_succ]
    simp only [va_nd, Bool.and_eq_true, decide_eq_true_eq]
    refine ⟨fun h => ?_, ab_ndr n (s + 1)⟩
    have := (List.mem_range'_1.mp h).1
    omega
theorem ab_tail {x : Nat × va_E} {wr : va_W} : [wr.length].map (fun i => (wr ++ [x])[i]?) = [x].map some := by simp
theorem ab_tail2 {x : Nat × va_E} {wr : va_W} : [wr.length].filterMap (fun i => (wr ++ [x])[i]?) = [x] := by simp
theorem ab_head {x : Nat × va_E} {wr : va_W} : (List.range' 0 wr.length).map (fun i => (wr ++ [x])[i]?) = wr.map some := by
  apply List.ext_getElem?
  intro i
  rw [List.getElem?_map, List.getElem?_map]
  by_cases h : i < wr.length
  · rw [List.getElem?_range' h]
    simp only [Option.map_some, Nat.one_mul, Nat.zero_add]
    rw [List.getElem?_append_left h, List.getElem?_eq_getElem h]
    rfl
  · rw [List.getElem?_eq_none (by simpa using h), List.getElem?_eq_none (by omega)]
    rfl
section CWI
variable {E : EE} {D : va_G} {T : ClassId × ClassId × ClassId} {A : Nat → Prop} {own : String} {cc : ByteArray} {nL lev K Z : Nat} {Q : State → Prop} {pc : Nat} {lv : List (Nat × Value)} {st : List Value} {k z : Nat} {ws : va_W}
theorem cw_ret (B : Cx E D T A own cc nL lev K Z) (hr : (eMe E).sig.returnType = none) (hlk : (eMe E).locks = false) {q : Nat} {w : (Nat → Nat) → va_W} (hd : decode cc pc = .ok (.return_, 1)) (hk : k ≤ K) (hz : z ≤ Z) (a : Nat → Nat) (ha : a 0 = q) (hw : ws = w a) : CWo E D A nL (MQ (eB E) (ab_QI D A q w) (eA E) (eS E) K Z A) pc lv [] k z ws := by
  intro H locs ls hP hD hS hl
  subst hw
  refine W.widen (k := K) (n := Z) hk hz ?_
  exact W.vret B.1 B.2.1 hr (fun t ht _ => ⟨⟨a, rfl, ha, by rw [ht]; exact hP, hD⟩, hS.F ht⟩) hS.2.2 hd hlk
theorem cw_get0 (B : Cx E D T A own cc nL lev K Z) {a idx ci j : Nat} {fs : List Value} {v : Value} {wr : va_W} (hL : ab_LK own idx ci j) (hd : decode cc pc = .ok (.getfield idx, 3)) (hv : fs[j]? = some v) (kk : CWo E D A nL Q (pc + 3) lv (v :: st) k z ((a, .inr (ci, fs)) :: wr)) : CWo E D A nL Q pc lv (.ref a :: st) k z ((a, .inr (ci, fs)) :: wr) := by
  intro H locs ls hP hD hS hl
  obtain ⟨C, T0, N, hc, hk, hkf, h100, hT, hw⟩ := hL
  exact va_get B.1 B.2.1 B.2.2.2.2.1 (ab_hin _ _ hc) B.2.2.2.1 B.2.2.2.2.2.1 hP 0 rfl hc j hk (B.2.2.2.2.1 _ hw) (fun x hx => by rw [hT] at hx; exact hx) hv hd (kk H locs ls hP hD hS hl)
theorem cw_put0 (B : Cx E D T A own cc nL lev K Z) (hin : (eMe E).name = "<init>") {a idx ci j : Nat} {fs fs2 : List Value} {v : Value} {ty : FieldType} {wr : va_W} (hL : ab_LK own idx ci j) (hI : ab_LI own ci j ty) (hd : decode cc pc = .ok (.putfield idx, 3)) (hn : narrow ty v = v) (hfit : fits ty v = true) (hlt : j < fs.length) (h2 : fs.set j v = fs2) (kk : CWo E D A nL Q (pc + 3) lv st k z ((a, .inr (ci, fs2)) :: wr)) : CWo E D A nL Q pc lv (v :: .ref a :: st) k z ((a, .inr (ci, fs)) :: wr) := by
  intro H locs ls hP hD hS hl
  subst h2
  obtain ⟨C, T0, N, hc, hk, hkf, h100, hT, hw⟩ := hL
  obtain ⟨C', T', N', ty0, hc', hk', how, hty, htys, hnm⟩ := hI
  have hb : (T0 j).2.2.2 = false ∨ (T0 j).2.2.2 = true := by cases (T0 j).2.2.2 <;> simp
  have e := hc.symm.trans hc'
  cases e
  rcases hb with hf | hf
  · exact va_put B.1 B.2.1 B.2.2.2.2.1 (ab_hin _ _ hc) ty0 htys hnm B.2.2.2.1 B.2.2.2.2.2.1 hP hD hS 0 rfl hc j hk (B.2.2.2.2.1 _ hw) (fun x hx => by rw [hT] at hx; exact hx) hf hty hn hfit hlt hd (fun H1 locs1 hP1 hD1 hS1 => kk H1 locs1 ls hP1 hD1 hS1 hl)
  · exact va_putF B.1 B.2.1 B.2.2.2.2.1 (ab_hin _ _ hc) ty0 htys hnm B.2.2.2.1 B.2.2.2.2.2.1 hP hD hS 0 rfl hc j hk (B.2.2.2.2.1 _ hw) (fun x hx => by rw [hT] at hx; exact hx) hf hin how hty hn hfit hlt hd (fun H1 locs1 hP1 hD1 hS1 => kk H1 locs1 ls hP1 hD1 hS1 hl)
theorem cw_iast (B : Cx E D T A own cc nL lev K Z) {q n j : Nat} {f : Nat → Int32} {i x : Int32} {ws2 : va_W} (p : Nat) (hp : ws[p]? = some (q, .inl (T.1, n, .inl f))) (hin : vp_in i n) (hj : i.toNatClampNeg = j) (hd : decode cc pc = .ok (.iastore, 1)) (h2 : ws.set p (q, .inl (T.1, n, .inl (upd f j x))) = ws2) (kk : CWo E D A nL Q (pc + 1) lv st k z ws2) : CWo E D A nL Q pc lv (.int x :: .int i :: .ref q :: st) k z ws := by
  intro H locs ls hP hD hS hl
  subst hj
  subst h2
  exact va_iast B.1 B.2.1 B.2.2.2.2.2.1 hP hD hS p 0 hp rfl hin hd (fun H1 locs1 hP1 hD1 hS1 => kk H1 locs1 ls hP1 hD1 hS1 hl)
theorem cw_new (B : Cx E D T A own cc nL lev K Z) {idx ci N : Nat} {fs : List Value} (hN : ab_LN own idx ci N fs) (hd : decode cc pc = .ok (.new idx, 3)) (hk : k + 1 ≤ K) (hz : z + N ≤ Z) (kk : ∀ q : Nat, CWo E D A nL Q (pc + 3) lv (.ref q :: st) (k + 1) (z + N) (ws ++ [(q, .inr (ci, fs))])) : CWo E D A nL Q pc lv st k z ws := by
  intro H locs ls hP hD hS hl
  obtain ⟨C, T0, ty, hc, hty, w1, w2, w3, hfs⟩ := hN
  obtain ⟨l1, l2, l3, l4⟩ := B.2.2.2.2.2.2.2
  exact va_new B.1 B.2.1 B.2.2.2.2.1 (ab_hin _ _ hc) ty hty B.2.2.2.1 (B.2.2.2.2.1 _ w1) (B.2.2.2.2.1 _ w2) (B.2.2.2.2.1 _ w3) B.2.2.2.2.2.1 hP hD hS B.2.2.2.2.2.2.1 hc hfs (Nat.le_trans hk l3) (Nat.le_trans hz l4) hd (fun q H1 hP1 hD1 hS1 => kk q H1 locs ls hP1 hD1 hS1 hl)
theorem cw_back {q ci K2 Z2 : Nat} {fs : List Value} {w : (Nat → Nat) → va_W} {wr : va_W} {stk : List Value} {av : Array Value} {H : Heap} {locs : List Loc} {ls : Array Slot} (hA : ∀ q, (eS E).heap.size ≤ q → A q) (hl : lv_has ls nL lv) (hr : va_Run (eP E) (eLa E) (eE E) (eR E) (eS E) (eM E) (eA E) (eB E) (eMe E) (eC E) H locs k z K2 Z2 (F0 (eM E) pc ls stk) st (ab_QI D (va_A [(q, .inr (ci, fs))] H.size) q w av) (va_A [(q, .inr (ci, fs))] H.size)) (hP : va_P D ab_cls (wr ++ [(q, .inr (ci, fs))]) H) (hD : va_D A (wr ++ [(q, .inr (ci, fs))])) (hS : va_S A (eS E).heap H locs) (kk : ∀ a : Nat → Nat, a 0 = q → CWo E D A nL Q (pc + 3) lv st (k + K2) (z + Z2) (wr ++ w a)) : W (eP E) (eLa E) (eE E) (eR E) (eS E) (eM E) (eA E) (eB E) (eMe E) (eC E) H locs k z Q (F0 (eM E) pc ls stk) := by
  have hF := va_free (wc := [(q, .inr (ci, fs))]) hD hS hA [wr.length] ab_tail
  refine va_callv hr hS (fun x _ h => hF x h) hF (fun u t H1 locs1 ht hvm hw hB hz1 hk1 hS1 => ?_)
  obtain ⟨hP1, hD1⟩ := hB
  rw [ht] at hP1
  obtain ⟨hP2, hD2⟩ := va_join (wr := wr) (w1 := w u) hP hD [wr.length] (List.range' 0 wr.length) ab_tail ab_head (ab_ndr _ _) (fun i hi hm => by
    have h1 := (List.mem_range'_1.mp hi).2
    have h2 := List.mem_singleton.mp hm
    omega) hk1 hF hP1 hD1
  exact kk u hw H1 locs1 ls hP2 hD2 hS1 hl
theorem cw_initN (B : Cx E D T A own cc nL lev K Z) (hNW : ab_NW (eS E)) {y : MethodName} {bytes : ByteArray} {maxL lev2 K2 Z2 idx q ci : Nat} {fs : List Value} {w : (Nat → Nat) → va_W} {wr : va_W} (hC : CI (eLa E) D T y bytes maxL lev2 K2 Z2 q ci fs w) (hm : (own, idx, y) ∈ ab_nests) (hst : ab_CC y bytes maxL) (hlev : lev2 + 1 ≤ lev) (hs : (st.map fun v => v.category).sum ≤ 8) (hd : decode cc pc = .ok (.invokespecial idx, 3)) (hk : k + K2 ≤ K) (hz : z + Z2 ≤ Z) (kk : ∀ a : Nat → Nat, a 0 = q → CWo E D A nL Q (pc + 3) lv st (k + K2) (z + Z2) (wr ++ w a)) : CWo E D A nL Q pc lv (.ref q :: st) k z (wr ++ [(q, .inr (ci, fs))]) := by
  intro H locs ls hP hD hS hl
  obtain ⟨⟨y1, w1, w2, w3⟩, hdd, h22⟩ := hst
  obtain ⟨l1, l2, l3, l4⟩ := B.2.2.2.2.2.2.2
  refine cw_back B.2.2.2.2.2.2.1 hl (va_runIN (As := []) (rest := st) (b := q) (n := 0) (index := idx) (host := "SecondBest") ⟨B.1, B.2.1, B.2.2.1, B.2.2.2.1, B.2.2.2.2.1⟩ (hC H.size) ⟨va_cnB 0 B.2.2.2.2.1 (ab_gin (pre := []) (fun w hw => by cases hw) w3) rfl rfl rfl (hNW _ hm) (B.2.2.2.2.1 _ w2) hdd ⟨?_, ?_⟩, y1, B.2.2.2.2.1 _ w1⟩ ⟨ab_blindI, fun U hU hW => ⟨rfl, by rw [hU], ?_, ?_, ?_⟩⟩ rfl rfl hl.1 rfl (lv_room hs) hd ⟨by omega, by omega⟩) hP hD hS kk
  · show lev2 + 1 ≤ _; omega
  · show 8 + (maxL + 11) + 41 * lev2 ≤ _; omega
  · rw [hU]; exact hP.sub [wr.length] ab_tail2
  · exact va_K.moved hW.alike B.2.2.2.2.2.1
  · exact hNW.warm hW
theorem cw_initL (B : Cx E D T A own cc nL lev K Z) (hNW : ab_NW (eS E)) {y : MethodName} {bytes : ByteArray} {maxL lev2 K2 Z2 idx q ci : Nat} {fs : List Value} {w : (Nat → Nat) → va_W} {wr : va_W} (hC : CI (eLa E) D T y bytes maxL lev2 K2 Z2 q ci fs w) (hm : Cond.methodLink own idx y ∈ BW) (hst : ab_CC y bytes maxL) (hlev : lev2 + 1 ≤ lev) (hs : (st.map fun v => v.category).sum ≤ 8) (hd : decode cc pc = .ok (.invokespecial idx, 3)) (hk : k + K2 ≤ K) (hz : z + Z2 ≤ Z) (kk : ∀ a : Nat → Nat, a 0 = q → CWo E D A nL Q (pc + 3) lv st (k + K2) (z + Z2) (wr ++ w a)) : CWo E D A nL Q pc lv (.ref q :: st) k z (wr ++ [(q, .inr (ci, fs))]) := by
  intro H locs ls hP hD hS hl
  obtain ⟨⟨y1, w1, w2, w3⟩, hdd, h22⟩ := hst
  obtain ⟨l1, l2, l3, l4⟩ := B.2.2.2.2.2.2.2
  refine cw_back B.2.2.2.2.2.2.1 hl (va_runI (As := []) (rest := st) (b := q) (n := 0) (index := idx) ⟨B.1, B.2.1, B.2.2.1, B.2.2.2.1, B.2.2.2.2.1⟩ (hC H.size) (cwI 0 B.2.2.2.2.1 (ab_gin (pre := []) (fun w hw => by cases hw) w3) rfl rfl rfl (B.2.2.2.2.1 _ w2) (B.2.2.2.2.1 _ hm) (B.2.2.2.2.1 _ w1) y1 hdd ⟨?_, ?_⟩) ⟨ab_blindI, fun U hU hW => ⟨rfl, by rw [hU], ?_, ?_, ?_⟩⟩ rfl rfl hl.1 rfl (lv_room hs) hd ⟨by omega, by omega⟩) hP hD hS kk
  · show lev2 + 1 ≤ _; omega
  · show 8 + (maxL + 11) + 41 * lev2 ≤ _; omega
  · rw [hU]; exact hP.sub [wr.length] ab_tail2
  · exact va_K.moved hW.alike B.2.2.2.2.2.1
  · exact hNW.warm hW
end CWI
