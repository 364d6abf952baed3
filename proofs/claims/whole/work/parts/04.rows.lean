/-! the machine over the abstract store -/
def BW : List Cond := lw_tbl.filter goodWord
def ab_rem (x y : Int32) : Int32 := x - x / y * y
def ab_lrem (x y : Int64) : Int64 := x - x / y * y
def ab_shl (x y : Int32) : Int32 := x <<< (y &&& 31)
def ab_shr (x y : Int32) : Int32 := x >>> (y &&& 31)
def ab_ushr (x y : Int32) : Int32 := (x.toUInt32 >>> (y.toUInt32 &&& Int32.toUInt32 31)).toInt32
def ab_lshl (x : Int64) (y : Int32) : Int64 := x <<< (y.toInt64 &&& 63)
def ck {α : Type} (b : Bool) (x : Option α) : Option α := cond b x none
def lt {α β : Type} (e : α) (k : α → Option β) : Option β := k e
def bI {α β : Type} (x : Option (α × Mem)) (k : α → Mem → Option β) : Option β := x.bind (fun r => k r.1 r.2)
def okI (c : Nat) (i : Int32) : Bool := decide (ab_k c = 100) && decide (¬ (i < 0 ∨ ab_n c ≤ i.toNatClampNeg))
def okL (c : Nat) (i : Int32) : Bool := decide (ab_k c = 101) && decide (¬ (i < 0 ∨ ab_n c ≤ i.toNatClampNeg))
def okZ (c : Nat) (i : Int32) : Bool := decide (ab_k c = 102) && decide (¬ (i < 0 ∨ ab_n c ≤ i.toNatClampNeg))
def okB (v : Int32) : Bool := decide (v = 0 ∨ v = 1)
def ab_st (j : Nat) : List Int32 := if j = 0 then [-1, 0, 0, 2, 1, 3, 0, 4] else [1, 10, 11, 2, 20, 0, 0, 0, 0, 30, 0, 0, 0, 41, 40, 0, 0, 0, 50, 0, 0, 0, 0, 60, 70, 0, 0, 0, 0, 80, 0, 81]
def ab_stL : List Int64 := [1, 100, 1000000, 100000000000000]
def okS (j : Nat) (i : Int32) : Bool := decide (¬ (i < 0 ∨ (ab_st j).length ≤ i.toNatClampNeg))
def okSL (i : Int32) : Bool := decide (¬ (i < 0 ∨ 4 ≤ i.toNatClampNeg))
def ab_tr (ad : Nat → Nat) (v : Value) : Value := match v with
  | .ref i => .ref (ad i)
  | w => w
def ab_tp (ad : Nat → Nat) (q : Nat × Value) : Nat × Value := (q.1, ab_tr ad q.2)
theorem ab_cat {ad : Nat → Nat} {v : Value} : (ab_tr ad v).category = v.category := by cases v <;> rfl
theorem ab_lvat {ad : Nat → Nat} {lv : List (Nat × Value)} {j i : Nat} {v : Value} (h : lv[j]? = some (i, v)) : (lv.map (ab_tp ad))[j]? = some (i, ab_tr ad v) := by
  rw [List.getElem?_map, h]
  rfl
theorem ab_lvst {ad : Nat → Nat} {lv lv2 : List (Nat × Value)} {i : Nat} {v : Value} {p : Nat × Value → Bool} (h : (i, v) :: lv.filter p = lv2) (hp : ∀ q, p (ab_tp ad q) = p q) : (i, ab_tr ad v) :: (lv.map (ab_tp ad)).filter p = lv2.map (ab_tp ad) := by
  rw [← h, List.map_cons, List.filter_map]
  have e : p ∘ ab_tp ad = p := funext fun q => hp q
  rw [e]
  rfl
theorem ab_pick {ad : Nat → Nat} {lv lv2 : List (Nat × Value)} {ks : List Nat} (h : lv_pick lv ks = lv2) : lv_pick (lv.map (ab_tp ad)) ks = lv2.map (ab_tp ad) := by
  rw [← h]
  clear h
  unfold lv_pick
  induction ks with
  | nil => rfl
  | cons k ks ih =>
    rw [List.filterMap_cons, List.filterMap_cons, List.getElem?_map]
    cases hk : lv[k]? with
    | none => simpa [hk] using ih
    | some q => simpa [hk] using ih
/-- machine, launch, env, room, start, method, args, below, method's record, its code, cells, slots -/
abbrev EE : Type := Program × Launch × Env × Room × State × MethodId × Array Value × List Frame × Method × Code × Nat × Nat
abbrev eP (E : EE) : Program := E.1
abbrev eLa (E : EE) : Launch := E.2.1
abbrev eE (E : EE) : Env := E.2.2.1
abbrev eR (E : EE) : Room := E.2.2.2.1
abbrev eS (E : EE) : State := E.2.2.2.2.1
abbrev eM (E : EE) : MethodId := E.2.2.2.2.2.1
abbrev eA (E : EE) : Array Value := E.2.2.2.2.2.2.1
abbrev eB (E : EE) : List Frame := E.2.2.2.2.2.2.2.1
abbrev eMe (E : EE) : Method := E.2.2.2.2.2.2.2.2.1
abbrev eC (E : EE) : Code := E.2.2.2.2.2.2.2.2.2.1
abbrev eK (E : EE) : Nat := E.2.2.2.2.2.2.2.2.2.2.1
abbrev eZ (E : EE) : Nat := E.2.2.2.2.2.2.2.2.2.2.2
/-- the static arrays -/
def ab_SF (G : GW) (U : State) : Prop :=
  (va_Z "SecondBest$Bodies" "KIND_ABOVE" "[I" (.ref (G.1 1000)) (ab_A G) U U.heap ∧ va_T .int (G.1 1000) 8 (fun j => .int ((ab_st 0).getD j 0)) (ab_A G) U U.heap) ∧
  (va_Z "SecondBest$Bodies" "OWN" "[I" (.ref (G.1 1001)) (ab_A G) U U.heap ∧ va_T .int (G.1 1001) 32 (fun j => .int ((ab_st 1).getD j 0)) (ab_A G) U U.heap) ∧
  (va_Z "SecondBest$Cup" "PARTS" "[J" (.ref (G.1 1002)) (ab_A G) U U.heap ∧ va_T .long (G.1 1002) 4 (fun j => .long (ab_stL.getD j 0)) (ab_A G) U U.heap)
def Bx (G : GW) (E : EE) (own : String) (cc : ByteArray) (nL lev : Nat) (ret : Option FieldType) : Prop :=
  (eP E).tables.exec = Jvm.exec ∧ (eC E).code = cc ∧ (eC E).maxLocals = nL ∧ (eS E).vm.findClass own = some (eM E).cls ∧ (∀ w ∈ BW, w.before (eA E) (eS E) = true) ∧ va_K G.2.1 ab_cls (ab_ty G) (eS E) ∧ ab_ok G ∧ ab_SF G (eS E) ∧ (eMe E).sig.returnType = ret ∧ (eMe E).locks = false ∧ (lev ≤ (eR E).frames ∧ 41 * lev ≤ (eR E).locals ∧ eK E ≤ (eR E).cells ∧ eZ E ≤ (eR E).slots)
def AWo {α : Type} (G : GW) (E : EE) (cc : ByteArray) (nL : Nat) (Q : α → State → Prop) (pc : Nat) (lv : List (Nat × Value)) (st : List Value) (M : Mem) (X : Option α) : Prop :=
  ∀ a, X = some a → ∀ (H : Heap) (locs : List Loc) (ls : Array Slot), va_P G.2.1 ab_cls (ab_w G M) H → va_S (ab_A G) (eS E).heap H locs → lv_has ls nL (lv.map (ab_tp G.1)) →
    W (eP E) (eLa E) (eE E) (eR E) (eS E) (eM E) (eA E) (eB E) (eMe E) (eC E) H locs (eK E) (eZ E) (Q a) (F0 (eM E) pc ls (st.map (ab_tr G.1)))
section AWR
variable {α : Type} {G : GW} {E : EE} {own : String} {cc : ByteArray} {nL lev : Nat} {ret : Option FieldType} {Q : α → State → Prop} {pc : Nat} {lv : List (Nat × Value)} {st : List Value} {M : Mem} {X : Option α}

theorem aw_iconst (B : Bx G E own cc nL lev ret) {n : Int} {v : Int32} (hd : decode cc pc = .ok (.iconst n, 1)) (hv : Int32.ofInt n = v) (k : AWo G E cc nL Q (pc + 1) lv (.int v :: st) M X) : AWo G E cc nL Q pc lv (st) M X := fun a ha H locs ls hP hS hl => lv_iconst B.1 B.2.1 hd hv (k a ha H locs ls hP hS hl)
theorem aw_bipush (B : Bx G E own cc nL lev ret) {n : Int} {v : Int32} (hd : decode cc pc = .ok (.bipush n, 2)) (hv : (Int8.ofInt n).toInt32 = v) (k : AWo G E cc nL Q (pc + 2) lv (.int v :: st) M X) : AWo G E cc nL Q pc lv (st) M X := fun a ha H locs ls hP hS hl => lv_bipush B.1 B.2.1 hd hv (k a ha H locs ls hP hS hl)
theorem aw_sipush (B : Bx G E own cc nL lev ret) {n : Int} {v : Int32} (hd : decode cc pc = .ok (.sipush n, 3)) (hv : (Int16.ofInt n).toInt32 = v) (k : AWo G E cc nL Q (pc + 3) lv (.int v :: st) M X) : AWo G E cc nL Q pc lv (st) M X := fun a ha H locs ls hP hS hl => lv_sipush B.1 B.2.1 hd hv (k a ha H locs ls hP hS hl)
theorem aw_lconst (B : Bx G E own cc nL lev ret) {n : Fin 2} {v : Int64} (hd : decode cc pc = .ok (.lconst n, 1)) (hv : Int64.ofNat (n : Nat) = v) (k : AWo G E cc nL Q (pc + 1) lv (.long v :: st) M X) : AWo G E cc nL Q pc lv (st) M X := fun a ha H locs ls hP hS hl => lv_lconst B.1 B.2.1 hd hv (k a ha H locs ls hP hS hl)
theorem aw_iload_n (B : Bx G E own cc nL lev ret) {k0 : Fin 4} {i : Nat} {x : Int32} (j : Nat) (hd : decode cc pc = .ok (.iload_n k0, 1)) (hi : (k0 : Nat) = i) (hj : lv[j]? = some (i, .int x)) (k : AWo G E cc nL Q (pc + 1) lv (.int x :: st) M X) : AWo G E cc nL Q pc lv (st) M X := fun a ha H locs ls hP hS hl => lv_iload_n B.1 B.2.1 hd hi (lv_at hl j (ab_lvat hj)) (k a ha H locs ls hP hS hl)
theorem aw_iload (B : Bx G E own cc nL lev ret) {i : Nat} {x : Int32} (j : Nat) (hd : decode cc pc = .ok (.iload i, 2)) (hj : lv[j]? = some (i, .int x)) (k : AWo G E cc nL Q (pc + 2) lv (.int x :: st) M X) : AWo G E cc nL Q pc lv (st) M X := fun a ha H locs ls hP hS hl => lv_iload B.1 B.2.1 hd (lv_at hl j (ab_lvat hj)) (k a ha H locs ls hP hS hl)
theorem aw_istore_n (B : Bx G E own cc nL lev ret) {k0 : Fin 4} {i : Nat} {x : Int32} (lv2 : List (Nat × Value)) (hd : decode cc pc = .ok (.istore_n k0, 1)) (hi : (k0 : Nat) = i) (hn : i < nL) (h2 : (i, Value.int x) :: lv.filter (fun q => !(q.1 == i) && !(q.1 + 1 == i && q.2.category == 2)) = lv2) (k : AWo G E cc nL Q (pc + 1) lv2 st M X) : AWo G E cc nL Q pc lv (.int x :: st) M X := fun a ha H locs ls hP hS hl => lv_istore_n B.1 B.2.1 hd hi hl hn (ab_lvst h2 (fun q => by simp only [ab_tp, ab_cat])) (fun ls2 h => k a ha H locs ls2 hP hS h)
theorem aw_istore (B : Bx G E own cc nL lev ret) {i : Nat} {x : Int32} (lv2 : List (Nat × Value)) (hd : decode cc pc = .ok (.istore i, 2)) (hn : i < nL) (h2 : (i, Value.int x) :: lv.filter (fun q => !(q.1 == i) && !(q.1 + 1 == i && q.2.category == 2)) = lv2) (k : AWo G E cc nL Q (pc + 2) lv2 st M X) : AWo G E cc nL Q pc lv (.int x :: st) M X := fun a ha H locs ls hP hS hl => lv_istore B.1 B.2.1 hd hl hn (ab_lvst h2 (fun q => by simp only [ab_tp, ab_cat])) (fun ls2 h => k a ha H locs ls2 hP hS h)
theorem aw_lload_n (B : Bx G E own cc nL lev ret) {k0 : Fin 4} {i : Nat} {x : Int64} (j : Nat) (hd : decode cc pc = .ok (.lload_n k0, 1)) (hi : (k0 : Nat) = i) (hj : lv[j]? = some (i, .long x)) (k : AWo G E cc nL Q (pc + 1) lv (.long x :: st) M X) : AWo G E cc nL Q pc lv (st) M X := fun a ha H locs ls hP hS hl => lv_lload_n B.1 B.2.1 hd hi (lv_at hl j (ab_lvat hj)) (k a ha H locs ls hP hS hl)
theorem aw_lload (B : Bx G E own cc nL lev ret) {i : Nat} {x : Int64} (j : Nat) (hd : decode cc pc = .ok (.lload i, 2)) (hj : lv[j]? = some (i, .long x)) (k : AWo G E cc nL Q (pc + 2) lv (.long x :: st) M X) : AWo G E cc nL Q pc lv (st) M X := fun a ha H locs ls hP hS hl => lv_lload B.1 B.2.1 hd (lv_at hl j (ab_lvat hj)) (k a ha H locs ls hP hS hl)
theorem aw_lstore_n (B : Bx G E own cc nL lev ret) {k0 : Fin 4} {i : Nat} {x : Int64} (lv2 : List (Nat × Value)) (hd : decode cc pc = .ok (.lstore_n k0, 1)) (hi : (k0 : Nat) = i) (hn : i + 1 < nL) (h2 : (i, Value.long x) :: lv.filter (fun q => !(q.1 == i) && (!(q.1 == i + 1) && !(q.1 + 1 == i && q.2.category == 2))) = lv2) (k : AWo G E cc nL Q (pc + 1) lv2 st M X) : AWo G E cc nL Q pc lv (.long x :: st) M X := fun a ha H locs ls hP hS hl => lv_lstore_n B.1 B.2.1 hd hi hl hn (ab_lvst h2 (fun q => by simp only [ab_tp, ab_cat])) (fun ls2 h => k a ha H locs ls2 hP hS h)
theorem aw_lstore (B : Bx G E own cc nL lev ret) {i : Nat} {x : Int64} (lv2 : List (Nat × Value)) (hd : decode cc pc = .ok (.lstore i, 2)) (hn : i + 1 < nL) (h2 : (i, Value.long x) :: lv.filter (fun q => !(q.1 == i) && (!(q.1 == i + 1) && !(q.1 + 1 == i && q.2.category == 2))) = lv2) (k : AWo G E cc nL Q (pc + 2) lv2 st M X) : AWo G E cc nL Q pc lv (.long x :: st) M X := fun a ha H locs ls hP hS hl => lv_lstore B.1 B.2.1 hd hl hn (ab_lvst h2 (fun q => by simp only [ab_tp, ab_cat])) (fun ls2 h => k a ha H locs ls2 hP hS h)
theorem aw_aload_n (B : Bx G E own cc nL lev ret) {k0 : Fin 4} {i : Nat} {x : Nat} (j : Nat) (hd : decode cc pc = .ok (.aload_n k0, 1)) (hi : (k0 : Nat) = i) (hj : lv[j]? = some (i, .ref x)) (k : AWo G E cc nL Q (pc + 1) lv (.ref x :: st) M X) : AWo G E cc nL Q pc lv (st) M X := fun a ha H locs ls hP hS hl => lv_aload_n B.1 B.2.1 hd hi (lv_at hl j (ab_lvat hj)) (k a ha H locs ls hP hS hl)
theorem aw_aload (B : Bx G E own cc nL lev ret) {i : Nat} {x : Nat} (j : Nat) (hd : decode cc pc = .ok (.aload i, 2)) (hj : lv[j]? = some (i, .ref x)) (k : AWo G E cc nL Q (pc + 2) lv (.ref x :: st) M X) : AWo G E cc nL Q pc lv (st) M X := fun a ha H locs ls hP hS hl => lv_aload B.1 B.2.1 hd (lv_at hl j (ab_lvat hj)) (k a ha H locs ls hP hS hl)
theorem aw_astore_n (B : Bx G E own cc nL lev ret) {k0 : Fin 4} {i : Nat} {x : Nat} (lv2 : List (Nat × Value)) (hd : decode cc pc = .ok (.astore_n k0, 1)) (hi : (k0 : Nat) = i) (hn : i < nL) (h2 : (i, Value.ref x) :: lv.filter (fun q => !(q.1 == i) && !(q.1 + 1 == i && q.2.category == 2)) = lv2) (k : AWo G E cc nL Q (pc + 1) lv2 st M X) : AWo G E cc nL Q pc lv (.ref x :: st) M X := fun a ha H locs ls hP hS hl => lv_astore_n B.1 B.2.1 hd hi hl hn (ab_lvst h2 (fun q => by simp only [ab_tp, ab_cat])) (fun ls2 h => k a ha H locs ls2 hP hS h)
theorem aw_astore (B : Bx G E own cc nL lev ret) {i : Nat} {x : Nat} (lv2 : List (Nat × Value)) (hd : decode cc pc = .ok (.astore i, 2)) (hn : i < nL) (h2 : (i, Value.ref x) :: lv.filter (fun q => !(q.1 == i) && !(q.1 + 1 == i && q.2.category == 2)) = lv2) (k : AWo G E cc nL Q (pc + 2) lv2 st M X) : AWo G E cc nL Q pc lv (.ref x :: st) M X := fun a ha H locs ls hP hS hl => lv_astore B.1 B.2.1 hd hl hn (ab_lvst h2 (fun q => by simp only [ab_tp, ab_cat])) (fun ls2 h => k a ha H locs ls2 hP hS h)
theorem aw_iinc (B : Bx G E own cc nL lev ret) {i : Nat} {n : Int} {x : Int32} (j : Nat) (lv2 : List (Nat × Value)) (hd : decode cc pc = .ok (.iinc i n, 3)) (hj : lv[j]? = some (i, .int x)) (hn : i < nL) (v : Int32) (hv : x + Int32.ofInt n = v) (h2 : (i, Value.int v) :: lv.filter (fun q => !(q.1 == i) && !(q.1 + 1 == i && q.2.category == 2)) = lv2) (k : AWo G E cc nL Q (pc + 3) lv2 st M X) : AWo G E cc nL Q pc lv st M X := fun a ha H locs ls hP hS hl => lv_iinc B.1 B.2.1 hd hl (ab_lvat hj) hv hn (ab_lvst h2 (fun q => by simp only [ab_tp, ab_cat])) (fun ls2 h => k a ha H locs ls2 hP hS h)
theorem aw_iadd (B : Bx G E own cc nL lev ret) {x y : Int32} (hd : decode cc pc = .ok (.iadd, 1)) (k : AWo G E cc nL Q (pc + 1) lv (.int (x + y) :: st) M X) : AWo G E cc nL Q pc lv (.int y :: .int x :: st) M X := fun a ha H locs ls hP hS hl => lv_iadd B.1 B.2.1 hd (k a ha H locs ls hP hS hl)
theorem aw_isub (B : Bx G E own cc nL lev ret) {x y : Int32} (hd : decode cc pc = .ok (.isub, 1)) (k : AWo G E cc nL Q (pc + 1) lv (.int (x - y) :: st) M X) : AWo G E cc nL Q pc lv (.int y :: .int x :: st) M X := fun a ha H locs ls hP hS hl => lv_isub B.1 B.2.1 hd (k a ha H locs ls hP hS hl)
theorem aw_imul (B : Bx G E own cc nL lev ret) {x y : Int32} (hd : decode cc pc = .ok (.imul, 1)) (k : AWo G E cc nL Q (pc + 1) lv (.int (x * y) :: st) M X) : AWo G E cc nL Q pc lv (.int y :: .int x :: st) M X := fun a ha H locs ls hP hS hl => lv_imul B.1 B.2.1 hd (k a ha H locs ls hP hS hl)
theorem aw_iand (B : Bx G E own cc nL lev ret) {x y : Int32} (hd : decode cc pc = .ok (.iand, 1)) (k : AWo G E cc nL Q (pc + 1) lv (.int (x &&& y) :: st) M X) : AWo G E cc nL Q pc lv (.int y :: .int x :: st) M X := fun a ha H locs ls hP hS hl => lv_iand B.1 B.2.1 hd (k a ha H locs ls hP hS hl)
theorem aw_ior (B : Bx G E own cc nL lev ret) {x y : Int32} (hd : decode cc pc = .ok (.ior, 1)) (k : AWo G E cc nL Q (pc + 1) lv (.int (x ||| y) :: st) M X) : AWo G E cc nL Q pc lv (.int y :: .int x :: st) M X := fun a ha H locs ls hP hS hl => lv_ior B.1 B.2.1 hd (k a ha H locs ls hP hS hl)
theorem aw_ixor (B : Bx G E own cc nL lev ret) {x y : Int32} (hd : decode cc pc = .ok (.ixor, 1)) (k : AWo G E cc nL Q (pc + 1) lv (.int (x ^^^ y) :: st) M X) : AWo G E cc nL Q pc lv (.int y :: .int x :: st) M X := fun a ha H locs ls hP hS hl => lv_ixor B.1 B.2.1 hd (k a ha H locs ls hP hS hl)
theorem aw_ishl (B : Bx G E own cc nL lev ret) {x y : Int32} (hd : decode cc pc = .ok (.ishl, 1)) (k : AWo G E cc nL Q (pc + 1) lv (.int (ab_shl x y) :: st) M X) : AWo G E cc nL Q pc lv (.int y :: .int x :: st) M X := fun a ha H locs ls hP hS hl => lv_ishl B.1 B.2.1 hd (k a ha H locs ls hP hS hl)
theorem aw_ishr (B : Bx G E own cc nL lev ret) {x y : Int32} (hd : decode cc pc = .ok (.ishr, 1)) (k : AWo G E cc nL Q (pc + 1) lv (.int (ab_shr x y) :: st) M X) : AWo G E cc nL Q pc lv (.int y :: .int x :: st) M X := fun a ha H locs ls hP hS hl => lv_ishr B.1 B.2.1 hd (k a ha H locs ls hP hS hl)
theorem aw_iushr (B : Bx G E own cc nL lev ret) {x y : Int32} (hd : decode cc pc = .ok (.iushr, 1)) (k : AWo G E cc nL Q (pc + 1) lv (.int (ab_ushr x y) :: st) M X) : AWo G E cc nL Q pc lv (.int y :: .int x :: st) M X := fun a ha H locs ls hP hS hl => lv_iushr B.1 B.2.1 hd rfl (k a ha H locs ls hP hS hl)
theorem aw_ineg (B : Bx G E own cc nL lev ret) {x : Int32} (hd : decode cc pc = .ok (.ineg, 1)) (k : AWo G E cc nL Q (pc + 1) lv (.int (-x) :: st) M X) : AWo G E cc nL Q pc lv (.int x :: st) M X := fun a ha H locs ls hP hS hl => lv_ineg B.1 B.2.1 hd (k a ha H locs ls hP hS hl)
theorem aw_ladd (B : Bx G E own cc nL lev ret) {x y : Int64} (hd : decode cc pc = .ok (.ladd, 1)) (k : AWo G E cc nL Q (pc + 1) lv (.long (x + y) :: st) M X) : AWo G E cc nL Q pc lv (.long y :: .long x :: st) M X := fun a ha H locs ls hP hS hl => lv_ladd B.1 B.2.1 hd (k a ha H locs ls hP hS hl)
theorem aw_lsub (B : Bx G E own cc nL lev ret) {x y : Int64} (hd : decode cc pc = .ok (.lsub, 1)) (k : AWo G E cc nL Q (pc + 1) lv (.long (x - y) :: st) M X) : AWo G E cc nL Q pc lv (.long y :: .long x :: st) M X := fun a ha H locs ls hP hS hl => lv_lsub B.1 B.2.1 hd (k a ha H locs ls hP hS hl)
theorem aw_lmul (B : Bx G E own cc nL lev ret) {x y : Int64} (hd : decode cc pc = .ok (.lmul, 1)) (k : AWo G E cc nL Q (pc + 1) lv (.long (x * y) :: st) M X) : AWo G E cc nL Q pc lv (.long y :: .long x :: st) M X := fun a ha H locs ls hP hS hl => lv_lmul B.1 B.2.1 hd (k a ha H locs ls hP hS hl)
theorem aw_land (B : Bx G E own cc nL lev ret) {x y : Int64} (hd : decode cc pc = .ok (.land, 1)) (k : AWo G E cc nL Q (pc + 1) lv (.long (x &&& y) :: st) M X) : AWo G E cc nL Q pc lv (.long y :: .long x :: st) M X := fun a ha H locs ls hP hS hl => lv_land B.1 B.2.1 hd (k a ha H locs ls hP hS hl)
theorem aw_lor (B : Bx G E own cc nL lev ret) {x y : Int64} (hd : decode cc pc = .ok (.lor, 1)) (k : AWo G E cc nL Q (pc + 1) lv (.long (x ||| y) :: st) M X) : AWo G E cc nL Q pc lv (.long y :: .long x :: st) M X := fun a ha H locs ls hP hS hl => lv_lor B.1 B.2.1 hd (k a ha H locs ls hP hS hl)
theorem aw_lshl (B : Bx G E own cc nL lev ret) {x : Int64} {y : Int32} (hd : decode cc pc = .ok (.lshl, 1)) (k : AWo G E cc nL Q (pc + 1) lv (.long (ab_lshl x y) :: st) M X) : AWo G E cc nL Q pc lv (.int y :: .long x :: st) M X := fun a ha H locs ls hP hS hl => lv_lshl B.1 B.2.1 hd rfl (k a ha H locs ls hP hS hl)
theorem aw_i2l (B : Bx G E own cc nL lev ret) {x : Int32} (hd : decode cc pc = .ok (.i2l, 1)) (k : AWo G E cc nL Q (pc + 1) lv (.long x.toInt64 :: st) M X) : AWo G E cc nL Q pc lv (.int x :: st) M X := fun a ha H locs ls hP hS hl => lv_i2l B.1 B.2.1 hd rfl (k a ha H locs ls hP hS hl)
theorem aw_l2i (B : Bx G E own cc nL lev ret) {x : Int64} (hd : decode cc pc = .ok (.l2i, 1)) (k : AWo G E cc nL Q (pc + 1) lv (.int x.toInt32 :: st) M X) : AWo G E cc nL Q pc lv (.long x :: st) M X := fun a ha H locs ls hP hS hl => lv_l2i B.1 B.2.1 hd rfl (k a ha H locs ls hP hS hl)
theorem aw_i2b (B : Bx G E own cc nL lev ret) {x : Int32} (hd : decode cc pc = .ok (.i2b, 1)) (k : AWo G E cc nL Q (pc + 1) lv (.int x.toInt8.toInt32 :: st) M X) : AWo G E cc nL Q pc lv (.int x :: st) M X := fun a ha H locs ls hP hS hl => lv_i2b B.1 B.2.1 hd rfl (k a ha H locs ls hP hS hl)
theorem aw_i2s (B : Bx G E own cc nL lev ret) {x : Int32} (hd : decode cc pc = .ok (.i2s, 1)) (k : AWo G E cc nL Q (pc + 1) lv (.int x.toInt16.toInt32 :: st) M X) : AWo G E cc nL Q pc lv (.int x :: st) M X := fun a ha H locs ls hP hS hl => lv_i2s B.1 B.2.1 hd rfl (k a ha H locs ls hP hS hl)
theorem aw_lcmp (B : Bx G E own cc nL lev ret) {x y : Int64} (hd : decode cc pc = .ok (.lcmp, 1)) (k : AWo G E cc nL Q (pc + 1) lv (.int (lg_cmp x y) :: st) M X) : AWo G E cc nL Q pc lv (.long y :: .long x :: st) M X := fun a ha H locs ls hP hS hl => W.lcmp B.1 B.2.1 hd (k a ha H locs ls hP hS hl)
theorem aw_dup (B : Bx G E own cc nL lev ret) {va : Value} (hd : decode cc pc = .ok (.dup, 1)) (hc : va.category = 1) (k : AWo G E cc nL Q (pc + 1) lv (va :: va :: st) M X) : AWo G E cc nL Q pc lv (va :: st) M X := fun a ha H locs ls hP hS hl => lv_dup B.1 B.2.1 hd (by rw [ab_cat]; exact hc) (k a ha H locs ls hP hS hl)
theorem aw_pop (B : Bx G E own cc nL lev ret) {va : Value} (hd : decode cc pc = .ok (.pop, 1)) (hc : va.category = 1) (k : AWo G E cc nL Q (pc + 1) lv (st) M X) : AWo G E cc nL Q pc lv (va :: st) M X := fun a ha H locs ls hP hS hl => lv_pop B.1 B.2.1 hd (by rw [ab_cat]; exact hc) (k a ha H locs ls hP hS hl)
theorem aw_dup_x1 (B : Bx G E own cc nL lev ret) {va vb : Value} (hd : decode cc pc = .ok (.dup_x1, 1)) (hc : va.category = 1) (hb : vb.category = 1) (k : AWo G E cc nL Q (pc + 1) lv (va :: vb :: va :: st) M X) : AWo G E cc nL Q pc lv (va :: vb :: st) M X := fun a ha H locs ls hP hS hl => lv_dup_x1 B.1 B.2.1 hd (by rw [ab_cat]; exact hc) (by rw [ab_cat]; exact hb) (k a ha H locs ls hP hS hl)
theorem aw_dup2_11 (B : Bx G E own cc nL lev ret) {va vb : Value} (hd : decode cc pc = .ok (.dup2, 1)) (hc : va.category = 1) (hb : vb.category = 1) (k : AWo G E cc nL Q (pc + 1) lv (va :: vb :: va :: vb :: st) M X) : AWo G E cc nL Q pc lv (va :: vb :: st) M X := fun a ha H locs ls hP hS hl => lv_dup2_11 B.1 B.2.1 hd (by rw [ab_cat]; exact hc) (by rw [ab_cat]; exact hb) (k a ha H locs ls hP hS hl)
theorem aw_ldc (B : Bx G E own cc nL lev ret) {i : Nat} {v : Int32} (hd : decode cc pc = .ok (.ldc i, 2)) (hw : Cond.constant own i v ∈ BW) (k : AWo G E cc nL Q (pc + 2) lv (.int v :: st) M X) : AWo G E cc nL Q pc lv (st) M X := fun a ha H locs ls hP hS hl => lv_ldc B.1 B.2.1 B.2.2.2.1 (B.2.2.2.2.1 _ hw) hd (k a ha H locs ls hP hS hl)
theorem aw_ldcw (B : Bx G E own cc nL lev ret) {i : Nat} {v : Int32} (hd : decode cc pc = .ok (.ldc_w i, 3)) (hw : Cond.constant own i v ∈ BW) (k : AWo G E cc nL Q (pc + 3) lv (.int v :: st) M X) : AWo G E cc nL Q pc lv (st) M X := fun a ha H locs ls hP hS hl => lv_ldcw B.1 B.2.1 B.2.2.2.1 (B.2.2.2.2.1 _ hw) hd (k a ha H locs ls hP hS hl)
theorem aw_ldc2 (B : Bx G E own cc nL lev ret) {i : Nat} {v : Int64} (hd : decode cc pc = .ok (.ldc2_w i, 3)) (hw : Cond.constantLong own i v ∈ BW) (k : AWo G E cc nL Q (pc + 3) lv (.long v :: st) M X) : AWo G E cc nL Q pc lv (st) M X := fun a ha H locs ls hP hS hl => lv_ldc2 B.1 B.2.1 B.2.2.2.1 (B.2.2.2.2.1 _ hw) hd (k a ha H locs ls hP hS hl)
theorem aw_icmp_eq (B : Bx G E own cc nL lev ret) {x y : Int32} {off : Int} (tgt : Nat) (hd : decode cc pc = .ok (.if_icmp .eq off, 3)) (ht : (pc : Int) + off = (tgt : Int)) {X2 : Option α} (kt : x = y → AWo G E cc nL Q tgt lv st M X) (kf : ¬ (x = y) → AWo G E cc nL Q (pc + 3) lv st M X2) : AWo G E cc nL Q pc lv (.int y :: .int x :: st) M (if x = y then X else X2) := fun a ha H locs ls hP hS hl => lv_icmp_eq B.1 B.2.1 hd ht (fun c => kt c a ((if_pos c).symm.trans ha) H locs ls hP hS hl) (fun c => kf c a ((if_neg c).symm.trans ha) H locs ls hP hS hl)
theorem aw_if_eq (B : Bx G E own cc nL lev ret) {x : Int32} {off : Int} (tgt : Nat) (hd : decode cc pc = .ok (.ifCond .eq off, 3)) (ht : (pc : Int) + off = (tgt : Int)) {X2 : Option α} (kt : x = 0 → AWo G E cc nL Q tgt lv st M X) (kf : ¬ (x = 0) → AWo G E cc nL Q (pc + 3) lv st M X2) : AWo G E cc nL Q pc lv (.int x :: st) M (if x = 0 then X else X2) := fun a ha H locs ls hP hS hl => lv_if_eq B.1 B.2.1 hd ht (fun c => kt c a ((if_pos c).symm.trans ha) H locs ls hP hS hl) (fun c => kf c a ((if_neg c).symm.trans ha) H locs ls hP hS hl)
theorem aw_icmp_lt (B : Bx G E own cc nL lev ret) {x y : Int32} {off : Int} (tgt : Nat) (hd : decode cc pc = .ok (.if_icmp .lt off, 3)) (ht : (pc : Int) + off = (tgt : Int)) {X2 : Option α} (kt : x < y → AWo G E cc nL Q tgt lv st M X) (kf : ¬ (x < y) → AWo G E cc nL Q (pc + 3) lv st M X2) : AWo G E cc nL Q pc lv (.int y :: .int x :: st) M (if x < y then X else X2) := fun a ha H locs ls hP hS hl => lv_icmp_lt B.1 B.2.1 hd ht (fun c => kt c a ((if_pos c).symm.trans ha) H locs ls hP hS hl) (fun c => kf c a ((if_neg c).symm.trans ha) H locs ls hP hS hl)
theorem aw_if_lt (B : Bx G E own cc nL lev ret) {x : Int32} {off : Int} (tgt : Nat) (hd : decode cc pc = .ok (.ifCond .lt off, 3)) (ht : (pc : Int) + off = (tgt : Int)) {X2 : Option α} (kt : x < 0 → AWo G E cc nL Q tgt lv st M X) (kf : ¬ (x < 0) → AWo G E cc nL Q (pc + 3) lv st M X2) : AWo G E cc nL Q pc lv (.int x :: st) M (if x < 0 then X else X2) := fun a ha H locs ls hP hS hl => lv_if_lt B.1 B.2.1 hd ht (fun c => kt c a ((if_pos c).symm.trans ha) H locs ls hP hS hl) (fun c => kf c a ((if_neg c).symm.trans ha) H locs ls hP hS hl)
theorem aw_icmp_ge (B : Bx G E own cc nL lev ret) {x y : Int32} {off : Int} (tgt : Nat) (hd : decode cc pc = .ok (.if_icmp .ge off, 3)) (ht : (pc : Int) + off = (tgt : Int)) {X2 : Option α} (kt : y ≤ x → AWo G E cc nL Q tgt lv st M X) (kf : ¬ (y ≤ x) → AWo G E cc nL Q (pc + 3) lv st M X2) : AWo G E cc nL Q pc lv (.int y :: .int x :: st) M (if y ≤ x then X else X2) := fun a ha H locs ls hP hS hl => lv_icmp_ge B.1 B.2.1 hd ht (fun c => kt c a ((if_pos c).symm.trans ha) H locs ls hP hS hl) (fun c => kf c a ((if_neg c).symm.trans ha) H locs ls hP hS hl)
theorem aw_if_ge (B : Bx G E own cc nL lev ret) {x : Int32} {off : Int} (tgt : Nat) (hd : decode cc pc = .ok (.ifCond .ge off, 3)) (ht : (pc : Int) + off = (tgt : Int)) {X2 : Option α} (kt : 0 ≤ x → AWo G E cc nL Q tgt lv st M X) (kf : ¬ (0 ≤ x) → AWo G E cc nL Q (pc + 3) lv st M X2) : AWo G E cc nL Q pc lv (.int x :: st) M (if 0 ≤ x then X else X2) := fun a ha H locs ls hP hS hl => lv_if_ge B.1 B.2.1 hd ht (fun c => kt c a ((if_pos c).symm.trans ha) H locs ls hP hS hl) (fun c => kf c a ((if_neg c).symm.trans ha) H locs ls hP hS hl)
theorem aw_icmp_gt (B : Bx G E own cc nL lev ret) {x y : Int32} {off : Int} (tgt : Nat) (hd : decode cc pc = .ok (.if_icmp .gt off, 3)) (ht : (pc : Int) + off = (tgt : Int)) {X2 : Option α} (kt : y < x → AWo G E cc nL Q tgt lv st M X) (kf : ¬ (y < x) → AWo G E cc nL Q (pc + 3) lv st M X2) : AWo G E cc nL Q pc lv (.int y :: .int x :: st) M (if y < x then X else X2) := fun a ha H locs ls hP hS hl => lv_icmp_gt B.1 B.2.1 hd ht (fun c => kt c a ((if_pos c).symm.trans ha) H locs ls hP hS hl) (fun c => kf c a ((if_neg c).symm.trans ha) H locs ls hP hS hl)
theorem aw_if_gt (B : Bx G E own cc nL lev ret) {x : Int32} {off : Int} (tgt : Nat) (hd : decode cc pc = .ok (.ifCond .gt off, 3)) (ht : (pc : Int) + off = (tgt : Int)) {X2 : Option α} (kt : 0 < x → AWo G E cc nL Q tgt lv st M X) (kf : ¬ (0 < x) → AWo G E cc nL Q (pc + 3) lv st M X2) : AWo G E cc nL Q pc lv (.int x :: st) M (if 0 < x then X else X2) := fun a ha H locs ls hP hS hl => lv_if_gt B.1 B.2.1 hd ht (fun c => kt c a ((if_pos c).symm.trans ha) H locs ls hP hS hl) (fun c => kf c a ((if_neg c).symm.trans ha) H locs ls hP hS hl)
theorem aw_icmp_le (B : Bx G E own cc nL lev ret) {x y : Int32} {off : Int} (tgt : Nat) (hd : decode cc pc = .ok (.if_icmp .le off, 3)) (ht : (pc : Int) + off = (tgt : Int)) {X2 : Option α} (kt : x ≤ y → AWo G E cc nL Q tgt lv st M X) (kf : ¬ (x ≤ y) → AWo G E cc nL Q (pc + 3) lv st M X2) : AWo G E cc nL Q pc lv (.int y :: .int x :: st) M (if x ≤ y then X else X2) := fun a ha H locs ls hP hS hl => lv_icmp_le B.1 B.2.1 hd ht (fun c => kt c a ((if_pos c).symm.trans ha) H locs ls hP hS hl) (fun c => kf c a ((if_neg c).symm.trans ha) H locs ls hP hS hl)
theorem aw_if_le (B : Bx G E own cc nL lev ret) {x : Int32} {off : Int} (tgt : Nat) (hd : decode cc pc = .ok (.ifCond .le off, 3)) (ht : (pc : Int) + off = (tgt : Int)) {X2 : Option α} (kt : x ≤ 0 → AWo G E cc nL Q tgt lv st M X) (kf : ¬ (x ≤ 0) → AWo G E cc nL Q (pc + 3) lv st M X2) : AWo G E cc nL Q pc lv (.int x :: st) M (if x ≤ 0 then X else X2) := fun a ha H locs ls hP hS hl => lv_if_le B.1 B.2.1 hd ht (fun c => kt c a ((if_pos c).symm.trans ha) H locs ls hP hS hl) (fun c => kf c a ((if_neg c).symm.trans ha) H locs ls hP hS hl)
theorem aw_icmp_ne (B : Bx G E own cc nL lev ret) {x y : Int32} {off : Int} (tgt : Nat) (hd : decode cc pc = .ok (.if_icmp .ne off, 3)) (ht : (pc : Int) + off = (tgt : Int)) {X2 : Option α} (kt : ¬ (x = y) → AWo G E cc nL Q tgt lv st M X2) (kf : x = y → AWo G E cc nL Q (pc + 3) lv st M X) : AWo G E cc nL Q pc lv (.int y :: .int x :: st) M (if x = y then X else X2) := fun a ha H locs ls hP hS hl => lv_icmp_ne B.1 B.2.1 hd ht (fun c => kt c a ((if_neg c).symm.trans ha) H locs ls hP hS hl) (fun c => kf c a ((if_pos c).symm.trans ha) H locs ls hP hS hl)
theorem aw_if_ne (B : Bx G E own cc nL lev ret) {x : Int32} {off : Int} (tgt : Nat) (hd : decode cc pc = .ok (.ifCond .ne off, 3)) (ht : (pc : Int) + off = (tgt : Int)) {X2 : Option α} (kt : ¬ (x = 0) → AWo G E cc nL Q tgt lv st M X2) (kf : x = 0 → AWo G E cc nL Q (pc + 3) lv st M X) : AWo G E cc nL Q pc lv (.int x :: st) M (if x = 0 then X else X2) := fun a ha H locs ls hP hS hl => lv_if_ne B.1 B.2.1 hd ht (fun c => kt c a ((if_neg c).symm.trans ha) H locs ls hP hS hl) (fun c => kf c a ((if_pos c).symm.trans ha) H locs ls hP hS hl)
theorem aw_goto (B : Bx G E own cc nL lev ret) {off : Int} (tgt : Nat) (hd : decode cc pc = .ok (.goto off, 3)) (ht : (pc : Int) + off = (tgt : Int)) (k : AWo G E cc nL Q tgt lv st M X) : AWo G E cc nL Q pc lv st M X := fun a ha H locs ls hP hS hl => lv_goto B.1 B.2.1 hd ht (k a ha H locs ls hP hS hl)
theorem aw_sub {lv2 : List (Nat × Value)} (ks : List Nat) (h : lv_pick lv ks = lv2) (k : AWo G E cc nL Q pc lv2 st M X) : AWo G E cc nL Q pc lv st M X := fun a ha H locs ls hP hS hl => k a ha H locs ls hP hS (lv_sub hl ks (ab_pick h))
theorem aw_ck {b : Bool} (k : b = true → AWo G E cc nL Q pc lv st M X) : AWo G E cc nL Q pc lv st M (ck b X) := by
  intro a ha
  cases b with
  | false => cases ha
  | true => exact k rfl a ha
theorem aw_none : AWo G E cc nL Q pc lv st M (none : Option α) := fun a ha => by cases ha
theorem aw_idiv (B : Bx G E own cc nL lev ret) {x y : Int32} (hd : decode cc pc = .ok (.idiv, 1)) (k : AWo G E cc nL Q (pc + 1) lv (.int (x / y) :: st) M X) : AWo G E cc nL Q pc lv (.int y :: .int x :: st) M (if y = 0 then none else X) := by
  intro a ha H locs ls hP hS hl
  by_cases h : y = 0
  · rw [if_pos h] at ha; cases ha
  · rw [if_neg h] at ha
    exact lv_idiv B.1 B.2.1 hd h (k a ha H locs ls hP hS hl)
theorem aw_irem (B : Bx G E own cc nL lev ret) {x y : Int32} (hd : decode cc pc = .ok (.irem, 1)) (k : AWo G E cc nL Q (pc + 1) lv (.int (ab_rem x y) :: st) M X) : AWo G E cc nL Q pc lv (.int y :: .int x :: st) M (if y = 0 then none else X) := by
  intro a ha H locs ls hP hS hl
  by_cases h : y = 0
  · rw [if_pos h] at ha; cases ha
  · rw [if_neg h] at ha
    exact lv_irem B.1 B.2.1 hd h (k a ha H locs ls hP hS hl)
theorem aw_idivK (B : Bx G E own cc nL lev ret) {x y : Int32} (hd : decode cc pc = .ok (.idiv, 1)) (h : ¬ y = 0) (k : AWo G E cc nL Q (pc + 1) lv (.int (x / y) :: st) M X) : AWo G E cc nL Q pc lv (.int y :: .int x :: st) M X := fun a ha H locs ls hP hS hl => lv_idiv B.1 B.2.1 hd h (k a ha H locs ls hP hS hl)
theorem aw_iremK (B : Bx G E own cc nL lev ret) {x y : Int32} (hd : decode cc pc = .ok (.irem, 1)) (h : ¬ y = 0) (k : AWo G E cc nL Q (pc + 1) lv (.int (ab_rem x y) :: st) M X) : AWo G E cc nL Q pc lv (.int y :: .int x :: st) M X := fun a ha H locs ls hP hS hl => lv_irem B.1 B.2.1 hd h (k a ha H locs ls hP hS hl)
theorem aw_ldiv (B : Bx G E own cc nL lev ret) {x y : Int64} (hd : decode cc pc = .ok (.ldiv, 1)) (k : AWo G E cc nL Q (pc + 1) lv (.long (x / y) :: st) M X) : AWo G E cc nL Q pc lv (.long y :: .long x :: st) M (if y = 0 then none else X) := by
  intro a ha H locs ls hP hS hl
  by_cases h : y = 0
  · rw [if_pos h] at ha; cases ha
  · rw [if_neg h] at ha
    exact lv_ldiv B.1 B.2.1 hd h (k a ha H locs ls hP hS hl)
theorem aw_lrem (B : Bx G E own cc nL lev ret) {x y : Int64} (hd : decode cc pc = .ok (.lrem, 1)) (k : AWo G E cc nL Q (pc + 1) lv (.long (ab_lrem x y) :: st) M X) : AWo G E cc nL Q pc lv (.long y :: .long x :: st) M (if y = 0 then none else X) := by
  intro a ha H locs ls hP hS hl
  by_cases h : y = 0
  · rw [if_pos h] at ha; cases ha
  · rw [if_neg h] at ha
    exact lv_lrem B.1 B.2.1 hd h (k a ha H locs ls hP hS hl)
theorem ck_some {β : Type} {b : Bool} {x : Option β} {a : β} (h : ck b x = some a) : b = true ∧ x = some a := by
  cases b with
  | false => cases h
  | true => exact ⟨rfl, h⟩
theorem okI_spec {c : Nat} {i : Int32} (h : okI c i = true) : ab_k c = 100 ∧ vp_in i (ab_n c) := by
  simp only [okI, Bool.and_eq_true, decide_eq_true_eq] at h
  exact h
theorem okL_spec {c : Nat} {i : Int32} (h : okL c i = true) : ab_k c = 101 ∧ vp_in i (ab_n c) := by
  simp only [okL, Bool.and_eq_true, decide_eq_true_eq] at h
  exact h
theorem okZ_spec {c : Nat} {i : Int32} (h : okZ c i = true) : ab_k c = 102 ∧ vp_in i (ab_n c) := by
  simp only [okZ, Bool.and_eq_true, decide_eq_true_eq] at h
  exact h
theorem ab_atI (G : GW) (M : Mem) {c : Nat} (h : ab_k c = 100) : (ab_w G M)[c]? = some (G.1 c, .inl (G.2.2.1, ab_n c, .inl (M.1 c))) := by rw [ab_w_at G M (ab_klt (by omega)), ab_ceI h]
theorem ab_atL (G : GW) (M : Mem) {c : Nat} (h : ab_k c = 101) : (ab_w G M)[c]? = some (G.1 c, .inl (G.2.2.2.1, ab_n c, .inr (.inl (M.2.1 c)))) := by rw [ab_w_at G M (ab_klt (by omega)), ab_ceL h]
theorem ab_atZ (G : GW) (M : Mem) {c : Nat} (h : ab_k c = 102) : (ab_w G M)[c]? = some (G.1 c, .inl (G.2.2.2.2, ab_n c, .inl (M.1 c))) := by rw [ab_w_at G M (ab_klt (by omega)), ab_ceZ h]
theorem ab_atO (G : GW) (M : Mem) {c : Nat} (h : ab_k c < 100) : (ab_w G M)[c]? = some (G.1 c, .inr (ab_k c, ab_fl G.1 M c)) := by rw [ab_w_at G M (ab_klt (by omega)), ab_ceO h]
theorem aw_iaload (B : Bx G E own cc nL lev ret) {c : Nat} {i : Int32} (hd : decode cc pc = .ok (.iaload, 1)) (k : AWo G E cc nL Q (pc + 1) lv (.int (M.1 c i.toNatClampNeg) :: st) M X) : AWo G E cc nL Q pc lv (.int i :: .ref c :: st) M (ck (okI c i) X) := by
  intro a ha H locs ls hP hS hl
  obtain ⟨h, ha⟩ := ck_some ha
  obtain ⟨h1, h2⟩ := okI_spec h
  exact va_iald B.1 B.2.1 B.2.2.2.2.2.1 hP c 0 (ab_atI G M h1) rfl h2 hd (k a ha H locs ls hP hS hl)
theorem aw_laload (B : Bx G E own cc nL lev ret) {c : Nat} {i : Int32} (hd : decode cc pc = .ok (.laload, 1)) (k : AWo G E cc nL Q (pc + 1) lv (.long (M.2.1 c i.toNatClampNeg) :: st) M X) : AWo G E cc nL Q pc lv (.int i :: .ref c :: st) M (ck (okL c i) X) := by
  intro a ha H locs ls hP hS hl
  obtain ⟨h, ha⟩ := ck_some ha
  obtain ⟨h1, h2⟩ := okL_spec h
  exact va_lald B.1 B.2.1 B.2.2.2.2.2.1 hP c 1 (ab_atL G M h1) rfl h2 hd (k a ha H locs ls hP hS hl)
theorem aw_zaload (B : Bx G E own cc nL lev ret) {c : Nat} {i : Int32} (hd : decode cc pc = .ok (.baload, 1)) (k : AWo G E cc nL Q (pc + 1) lv (.int (M.1 c i.toNatClampNeg) :: st) M X) : AWo G E cc nL Q pc lv (.int i :: .ref c :: st) M (ck (okZ c i) X) := by
  intro a ha H locs ls hP hS hl
  obtain ⟨h, ha⟩ := ck_some ha
  obtain ⟨h1, h2⟩ := okZ_spec h
  exact va_zald B.1 B.2.1 B.2.2.2.2.2.1 hP c 2 (ab_atZ G M h1) rfl h2 hd (k a ha H locs ls hP hS hl)
theorem aw_iastore (B : Bx G E own cc nL lev ret) {c : Nat} {i v : Int32} {K : Mem → Option α} (hd : decode cc pc = .ok (.iastore, 1)) (k : ∀ M2, AWo G E cc nL Q (pc + 1) lv st M2 (K M2)) : AWo G E cc nL Q pc lv (.int v :: .int i :: .ref c :: st) M (ck (okI c i) (lt (wI M c i.toNatClampNeg v) K)) := by
  intro a ha H locs ls hP hS hl
  obtain ⟨h, ha⟩ := ck_some ha
  obtain ⟨h1, h2⟩ := okI_spec h
  refine va_iast B.1 B.2.1 B.2.2.2.2.2.1 hP (ab_D B.2.2.2.2.2.2.1 M) hS c 0 (ab_atI G M h1) rfl h2 hd (fun H1 locs1 hP1 _ hS1 => ?_)
  rw [ab_setI h1] at hP1
  exact k _ a ha H1 locs1 ls hP1 hS1 hl
theorem aw_lastore (B : Bx G E own cc nL lev ret) {c : Nat} {i : Int32} {v : Int64} {K : Mem → Option α} (hd : decode cc pc = .ok (.lastore, 1)) (k : ∀ M2, AWo G E cc nL Q (pc + 1) lv st M2 (K M2)) : AWo G E cc nL Q pc lv (.long v :: .int i :: .ref c :: st) M (ck (okL c i) (lt (wL M c i.toNatClampNeg v) K)) := by
  intro a ha H locs ls hP hS hl
  obtain ⟨h, ha⟩ := ck_some ha
  obtain ⟨h1, h2⟩ := okL_spec h
  refine va_last B.1 B.2.1 B.2.2.2.2.2.1 hP (ab_D B.2.2.2.2.2.2.1 M) hS c 1 (ab_atL G M h1) rfl h2 hd (fun H1 locs1 hP1 _ hS1 => ?_)
  rw [ab_setL h1] at hP1
  exact k _ a ha H1 locs1 ls hP1 hS1 hl
theorem ab_nz {v : Int32} (h : okB v = true) : vp_nar .boolean v = v ∧ narrow .boolean (.int v) = .int v ∧ fits .boolean (.int v) = true := by
  simp only [okB, decide_eq_true_eq] at h
  rcases h with rfl | rfl <;> exact ⟨by decide, by decide, by decide⟩
theorem aw_zastore (B : Bx G E own cc nL lev ret) {c : Nat} {i v : Int32} {K : Mem → Option α} (hd : decode cc pc = .ok (.bastore, 1)) (hv : okB v = true) (k : ∀ M2, AWo G E cc nL Q (pc + 1) lv st M2 (K M2)) : AWo G E cc nL Q pc lv (.int v :: .int i :: .ref c :: st) M (ck (okZ c i) (lt (wI M c i.toNatClampNeg v) K)) := by
  intro a ha H locs ls hP hS hl
  obtain ⟨h, ha⟩ := ck_some ha
  obtain ⟨h1, h2⟩ := okZ_spec h
  refine va_zast B.1 B.2.1 B.2.2.2.2.2.1 hP (ab_D B.2.2.2.2.2.2.1 M) hS c 2 (ab_atZ G M h1) rfl h2 hd (fun H1 locs1 hP1 _ hS1 => ?_)
  rw [(ab_nz hv).1, ab_setZ h1] at hP1
  exact k _ a ha H1 locs1 ls hP1 hS1 hl
end AWR

