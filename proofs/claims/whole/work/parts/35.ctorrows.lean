/-! constructors: the machine over a world that grows -/
def ab_upn (v : Int32) : Nat → (Nat → Int32) → (Nat → Int32)
  | 0, f => f
  | k + 1, f => upd (ab_upn v k f) k v
/-- what the store holds behind the constructors -/
def ab_M0 : Mem := (fun c => if c = 44 then ab_upn 6 6 (fun _ => 0) else if c = 73 then ab_upn (-1) 6 (fun _ => 0) else if c = 47 then upd (fun _ => 0) 13 (-1) else fun _ => 0, fun _ _ => 0, fun c k => if c = 22 then (if k = 4 then 24 else if k = 6 then 25 else 0) else 0)
def ab_wr (G : GW) (c0 m : Nat) : va_W := (List.range m).map (fun j => (G.1 (c0 + j), ab_ce G ab_M0 (c0 + j)))
def CWo (E : EE) (D : va_G) (A : Nat → Prop) (nL : Nat) (Q : State → Prop) (pc : Nat) (lv : List (Nat × Value)) (st : List Value) (k z : Nat) (ws : va_W) : Prop :=
  ∀ (H : Heap) (locs : List Loc) (ls : Array Slot), va_P D ab_cls ws H → va_D A ws → va_S A (eS E).heap H locs → lv_has ls nL lv →
    W (eP E) (eLa E) (eE E) (eR E) (eS E) (eM E) (eA E) (eB E) (eMe E) (eC E) H locs k z Q (F0 (eM E) pc ls st)
def ab_tys (T : ClassId × ClassId × ClassId) : List (ClassId × FieldType) := [(T.1, .int), (T.2.1, .long), (T.2.2, .boolean)]
def Cx (E : EE) (D : va_G) (T : ClassId × ClassId × ClassId) (A : Nat → Prop) (own : String) (cc : ByteArray) (nL lev K Z : Nat) : Prop :=
  (eP E).tables.exec = Jvm.exec ∧ (eC E).code = cc ∧ (eC E).maxLocals = nL ∧ (eS E).vm.findClass own = some (eM E).cls ∧ (∀ w ∈ BW, w.before (eA E) (eS E) = true) ∧ va_K D ab_cls (ab_tys T) (eS E) ∧ (∀ q, (eS E).heap.size ≤ q → A q) ∧ (lev ≤ (eR E).frames ∧ 41 * lev ≤ (eR E).locals ∧ K ≤ (eR E).cells ∧ Z ≤ (eR E).slots)
section CWR
variable {E : EE} {D : va_G} {T : ClassId × ClassId × ClassId} {A : Nat → Prop} {own : String} {cc : ByteArray} {nL lev K Z : Nat} {Q : State → Prop} {pc : Nat} {lv : List (Nat × Value)} {st : List Value} {k z : Nat} {ws : va_W}
theorem cw_eq {ws2 : va_W} (h : ws = ws2) (kk : CWo E D A nL Q pc lv st k z ws2) : CWo E D A nL Q pc lv st k z ws := h ▸ kk
theorem cw_aload (B : Cx E D T A own cc nL lev K Z) {k0 : Fin 4} {i x : Nat} (j : Nat) (hd : decode cc pc = .ok (.aload_n k0, 1)) (hi : (k0 : Nat) = i) (hj : lv[j]? = some (i, .ref x)) (kk : CWo E D A nL Q (pc + 1) lv (.ref x :: st) k z ws) : CWo E D A nL Q pc lv st k z ws :=
  fun H locs ls hP hD hS hl => lv_aload_n B.1 B.2.1 hd hi (lv_at hl j hj) (kk H locs ls hP hD hS hl)
theorem cw_iload (B : Cx E D T A own cc nL lev K Z) {k0 : Fin 4} {i : Nat} {x : Int32} (j : Nat) (hd : decode cc pc = .ok (.iload_n k0, 1)) (hi : (k0 : Nat) = i) (hj : lv[j]? = some (i, .int x)) (kk : CWo E D A nL Q (pc + 1) lv (.int x :: st) k z ws) : CWo E D A nL Q pc lv st k z ws :=
  fun H locs ls hP hD hS hl => lv_iload_n B.1 B.2.1 hd hi (lv_at hl j hj) (kk H locs ls hP hD hS hl)
theorem cw_iconst (B : Cx E D T A own cc nL lev K Z) {n : Int} {v : Int32} (hd : decode cc pc = .ok (.iconst n, 1)) (hv : Int32.ofInt n = v) (kk : CWo E D A nL Q (pc + 1) lv (.int v :: st) k z ws) : CWo E D A nL Q pc lv st k z ws :=
  fun H locs ls hP hD hS hl => lv_iconst B.1 B.2.1 hd hv (kk H locs ls hP hD hS hl)
theorem cw_bipush (B : Cx E D T A own cc nL lev K Z) {n : Int} {v : Int32} (hd : decode cc pc = .ok (.bipush n, 2)) (hv : (Int8.ofInt n).toInt32 = v) (kk : CWo E D A nL Q (pc + 2) lv (.int v :: st) k z ws) : CWo E D A nL Q pc lv st k z ws :=
  fun H locs ls hP hD hS hl => lv_bipush B.1 B.2.1 hd hv (kk H locs ls hP hD hS hl)
theorem cw_sipush (B : Cx E D T A own cc nL lev K Z) {n : Int} {v : Int32} (hd : decode cc pc = .ok (.sipush n, 3)) (hv : (Int16.ofInt n).toInt32 = v) (kk : CWo E D A nL Q (pc + 3) lv (.int v :: st) k z ws) : CWo E D A nL Q pc lv st k z ws :=
  fun H locs ls hP hD hS hl => lv_sipush B.1 B.2.1 hd hv (kk H locs ls hP hD hS hl)
theorem cw_dup (B : Cx E D T A own cc nL lev K Z) {va : Value} (hd : decode cc pc = .ok (.dup, 1)) (hc : va.category = 1) (kk : CWo E D A nL Q (pc + 1) lv (va :: va :: st) k z ws) : CWo E D A nL Q pc lv (va :: st) k z ws :=
  fun H locs ls hP hD hS hl => lv_dup B.1 B.2.1 hd hc (kk H locs ls hP hD hS hl)
theorem cw_istore (B : Cx E D T A own cc nL lev K Z) {k0 : Fin 4} {i : Nat} {x : Int32} (lv2 : List (Nat × Value)) (hd : decode cc pc = .ok (.istore_n k0, 1)) (hi : (k0 : Nat) = i) (hn : i < nL) (h2 : (i, Value.int x) :: lv.filter (fun q => !(q.1 == i) && !(q.1 + 1 == i && q.2.category == 2)) = lv2) (kk : CWo E D A nL Q (pc + 1) lv2 st k z ws) : CWo E D A nL Q pc lv (.int x :: st) k z ws :=
  fun H locs ls hP hD hS hl => lv_istore_n B.1 B.2.1 hd hi hl hn h2 (fun ls2 h => kk H locs ls2 hP hD hS h)
theorem cw_astore (B : Cx E D T A own cc nL lev K Z) {k0 : Fin 4} {i : Nat} {x : Nat} (lv2 : List (Nat × Value)) (hd : decode cc pc = .ok (.astore_n k0, 1)) (hi : (k0 : Nat) = i) (hn : i < nL) (h2 : (i, Value.ref x) :: lv.filter (fun q => !(q.1 == i) && !(q.1 + 1 == i && q.2.category == 2)) = lv2) (kk : CWo E D A nL Q (pc + 1) lv2 st k z ws) : CWo E D A nL Q pc lv (.ref x :: st) k z ws :=
  fun H locs ls hP hD hS hl => lv_astore_n B.1 B.2.1 hd hi hl hn h2 (fun ls2 h => kk H locs ls2 hP hD hS h)
theorem cw_iinc (B : Cx E D T A own cc nL lev K Z) {i : Nat} {n : Int} {x : Int32} (j : Nat) (lv2 : List (Nat × Value)) (hd : decode cc pc = .ok (.iinc i n, 3)) (hj : lv[j]? = some (i, .int x)) (hn : i < nL) (v : Int32) (hv : x + Int32.ofInt n = v) (h2 : (i, Value.int v) :: lv.filter (fun q => !(q.1 == i) && !(q.1 + 1 == i && q.2.category == 2)) = lv2) (kk : CWo E D A nL Q (pc + 3) lv2 st k z ws) : CWo E D A nL Q pc lv st k z ws :=
  fun H locs ls hP hD hS hl => lv_iinc B.1 B.2.1 hd hl hj hv hn h2 (fun ls2 h => kk H locs ls2 hP hD hS h)
theorem cw_goto (B : Cx E D T A own cc nL lev K Z) {off : Int} (tgt : Nat) (hd : decode cc pc = .ok (.goto off, 3)) (ht : (pc : Int) + off = (tgt : Int)) (kk : CWo E D A nL Q tgt lv st k z ws) : CWo E D A nL Q pc lv st k z ws :=
  fun H locs ls hP hD hS hl => lv_goto B.1 B.2.1 hd ht (kk H locs ls hP hD hS hl)
theorem cw_geT (B : Cx E D T A own cc nL lev K Z) {x y : Int32} {off : Int} (tgt : Nat) (hd : decode cc pc = .ok (.if_icmp .ge off, 3)) (ht : (pc : Int) + off = (tgt : Int)) (h : y ≤ x) (kk : CWo E D A nL Q tgt lv st k z ws) : CWo E D A nL Q pc lv (.int y :: .int x :: st) k z ws :=
  fun H locs ls hP hD hS hl => lv_icmp_ge B.1 B.2.1 hd ht (fun _ => kk H locs ls hP hD hS hl) (fun c => absurd h c)
theorem cw_geF (B : Cx E D T A own cc nL lev K Z) {x y : Int32} {off : Int} (tgt : Nat) (hd : decode cc pc = .ok (.if_icmp .ge off, 3)) (ht : (pc : Int) + off = (tgt : Int)) (h : ¬ y ≤ x) (kk : CWo E D A nL Q (pc + 3) lv st k z ws) : CWo E D A nL Q pc lv (.int y :: .int x :: st) k z ws :=
  fun H locs ls hP hD hS hl => lv_icmp_ge B.1 B.2.1 hd ht (fun c => absurd c h) (fun _ => kk H locs ls hP hD hS hl)
theorem ab_objw : Cond.instanceMethod objectInit ∈ BW ∧ Cond.code objectInit ⟨#[0xb1]⟩ 1 none ∈ BW := by decide +kernel
theorem cw_obj (B : Cx E D T A own cc nL lev K Z) {a idx : Nat} (hw : Cond.methodLink own idx objectInit ∈ BW) (hd : decode cc pc = .ok (.invokespecial idx, 3)) (hs : (st.map fun v => v.category).sum ≤ 8) (hlev : 1 ≤ lev) (kk : CWo E D A nL Q (pc + 3) lv st k z ws) : CWo E D A nL Q pc lv (.ref a :: st) k z ws := by
  intro H locs ls hP hD hS hl
  obtain ⟨l1, l2, l3, l4⟩ := B.2.2.2.2.2.2.2
  have hr : 2 * (F0 (eM E) pc ls (.ref a :: st)).monitorRoom + (st.map fun v => v.category).sum ≤ 8 := lv_room hs
  exact W.objInit B.1 B.2.1 B.2.2.2.1 (B.2.2.2.2.1 _ hw) (B.2.2.2.2.1 _ ab_objw.1) (B.2.2.2.2.1 _ ab_objw.2) rfl (hl.1.trans B.2.2.1.symm) rfl hd (by omega) (by omega) (kk H locs ls hP hD hS hl)
theorem ab_one {U : State} {ty : FieldType} (hty : ∀ C, ty ≠ .object C) {a b : ClassId} (h1 : va_RA U a ty) (h2 : va_RA U b ty) : a = b := by
  cases ty with
  | object C => exact absurd rfl (hty C)
  | _ => exact Option.some.inj (Eq.trans (Eq.symm h1) h2)
theorem cw_newI (B : Cx E D T A own cc nL lev K Z) {n : Int32} {N : Nat} (hw : Cond.arrayClass .int ∈ BW) (hd : decode cc pc = .ok (.newarray .int, 2)) (hn : ¬ n < 0) (hN : n.toNatClampNeg = N) (hb : N ≤ 100000) (hk : k + 1 ≤ K) (hz : z + N ≤ Z) (kk : ∀ q : Nat, CWo E D A nL Q (pc + 2) lv (.ref q :: st) (k + 1) (z + N) (ws ++ [(q, .inl (T.1, N, .inl (fun _ => 0)))])) : CWo E D A nL Q pc lv (.int n :: st) k z ws := by
  intro H locs ls hP hD hS hl
  obtain ⟨l1, l2, l3, l4⟩ := B.2.2.2.2.2.2.2
  refine va_newa B.1 B.2.1 (atype := .int) (ty := .int) (B.2.2.2.2.1 _ hw) rfl B.2.2.2.2.2.1 hP hD hS B.2.2.2.2.2.2.1 (n := n) (N' := N) (a0 := (N, .inl (fun _ => 0))) (fun _ => rfl) hn hN (by show N * 4 ≤ _; omega) (by omega) (by omega) hd (fun q cA H1 hK1 hP1 hD1 hS1 => ?_)
  have e : cA = T.1 := ab_one (fun C h => by cases h) (hK1.2 3 (cA, .int) rfl).2 (B.2.2.2.2.2.1.2 0 (T.1, .int) rfl).2
  subst e
  exact kk q H1 locs ls hP1 hD1 hS1 hl
theorem cw_newJ (B : Cx E D T A own cc nL lev K Z) {n : Int32} {N : Nat} (hw : Cond.arrayClass .long ∈ BW) (hd : decode cc pc = .ok (.newarray .long, 2)) (hn : ¬ n < 0) (hN : n.toNatClampNeg = N) (hb : N ≤ 100000) (hk : k + 1 ≤ K) (hz : z + N ≤ Z) (kk : ∀ q : Nat, CWo E D A nL Q (pc + 2) lv (.ref q :: st) (k + 1) (z + N) (ws ++ [(q, .inl (T.2.1, N, .inr (.inl (fun _ => 0))))])) : CWo E D A nL Q pc lv (.int n :: st) k z ws := by
  intro H locs ls hP hD hS hl
  obtain ⟨l1, l2, l3, l4⟩ := B.2.2.2.2.2.2.2
  refine va_newa B.1 B.2.1 (atype := .long) (ty := .long) (B.2.2.2.2.1 _ hw) rfl B.2.2.2.2.2.1 hP hD hS B.2.2.2.2.2.2.1 (n := n) (N' := N) (a0 := (N, .inr (.inl (fun _ => 0)))) (fun _ => rfl) hn hN (by show N * 8 ≤ _; omega) (by omega) (by omega) hd (fun q cA H1 hK1 hP1 hD1 hS1 => ?_)
  have e : cA = T.2.1 := ab_one (fun C h => by cases h) (hK1.2 3 (cA, .long) rfl).2 (B.2.2.2.2.2.1.2 1 (T.2.1, .long) rfl).2
  subst e
  exact kk q H1 locs ls hP1 hD1 hS1 hl
theorem cw_newZ (B : Cx E D T A own cc nL lev K Z) {n : Int32} {N : Nat} (hw : Cond.arrayClass .boolean ∈ BW) (hd : decode cc pc = .ok (.newarray .boolean, 2)) (hn : ¬ n < 0) (hN : n.toNatClampNeg = N) (hb : N ≤ 100000) (hk : k + 1 ≤ K) (hz : z + N ≤ Z) (kk : ∀ q : Nat, CWo E D A nL Q (pc + 2) lv (.ref q :: st) (k + 1) (z + N) (ws ++ [(q, .inl (T.2.2, N, .inl (fun _ => 0)))])) : CWo E D A nL Q pc lv (.int n :: st) k z ws := by
  intro H locs ls hP hD hS hl
  obtain ⟨l1, l2, l3, l4⟩ := B.2.2.2.2.2.2.2
  refine va_newa B.1 B.2.1 (atype := .boolean) (ty := .boolean) (B.2.2.2.2.1 _ hw) rfl B.2.2.2.2.2.1 hP hD hS B.2.2.2.2.2.2.1 (n := n) (N' := N) (a0 := (N, .inl (fun _ => 0))) (fun _ => rfl) hn hN (by show N * 1 ≤ _; omega) (by omega) (by omega) hd (fun q cA H1 hK1 hP1 hD1 hS1 => ?_)
  have e : cA = T.2.2 := ab_one (fun C h => by cases h) (hK1.2 3 (cA, .boolean) rfl).2 (B.2.2.2.2.2.1.2 2 (T.2.2, .boolean) rfl).2
  subst e
  exact kk q H1 locs ls hP1 hD1 hS1 hl
end CWR
