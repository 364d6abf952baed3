/-! contracts and calls over the abstract store -/
def ab_QR (G : GW) (v : Option Value × Mem) : Array Value → State → Outcome → State → Prop := fun _ st o t => (o = .returned (v.1.map (ab_tr G.1)) ∧ va_P G.2.1 ab_cls (ab_w G v.2) t.heap) ∧ va_F (ab_A G) st t
def ab_Q {α : Type} (G : GW) (E : EE) (emb : α → Option Value × Mem) : α → State → Prop := fun a => MQ (eB E) (ab_QR G (emb a)) (eA E) (eS E) (eK E) (eZ E) (ab_A G)
def Rm (lev : Nat) : Room := { frames := lev, cells := 0, slots := 0, locals := 41 * lev }
def ab_PW (G : GW) (M : Mem) (U : State) : Prop := va_P G.2.1 ab_cls (ab_w G M) U.heap ∧ va_K G.2.1 ab_cls (ab_ty G) U ∧ ab_SF G U
def AC {α : Type} (l : Launch) (G : GW) (y : MethodName) (cc : ByteArray) (nL : Nat) (ret : Option FieldType) (lev : Nat) (av : List Value) (M : Mem) (emb : α → Option Value × Mem) (X : Option α) : Prop :=
  ∀ a, X = some a → Met l y (.code y cc nL ret :: BW) (Rm lev) (va_Pc (av.map (ab_tr G.1)) (ab_PW G M)) (ab_QR G (emb a)) 0 0 (ab_A G)
def embI (r : Int32 × Mem) : Option Value × Mem := (some (.int r.1), r.2)
def embJ (r : Int64 × Mem) : Option Value × Mem := (some (.long r.1), r.2)
def embV (r : Mem) : Option Value × Mem := (none, r)
def embRI (M : Mem) (r : Int32) : Option Value × Mem := (some (.int r), M)
def embRJ (M : Mem) (r : Int64) : Option Value × Mem := (some (.long r), M)
def embA (c : Nat) (r : Mem) : Option Value × Mem := (some (.ref c), r)
theorem bw_good {w : Cond} (h : w ∈ BW) : w ∈ BW ∧ ((w.onTables && w.keeps) = true ∨ ∃ ty, w = .arrayClass ty) := ⟨h, good_of_word (List.mem_filter.mp h).2⟩
theorem bw_mem {w : Cond} (i : Nat) (h : lw_tbl[i]? = some w) (g : goodWord w = true) : w ∈ BW := List.mem_filter.mpr ⟨List.mem_of_getElem? h, g⟩
theorem ab_SF.moved {G : GW} {u U : State} (hvm : u.vm.Alike U.vm) (hh : U.heap = u.heap) (h : ab_SF G u) : ab_SF G U := by
  unfold ab_SF at h ⊢
  rw [hh]
  obtain ⟨⟨a1, a2⟩, ⟨b1, b2⟩, c1, c2⟩ := h
  exact ⟨⟨a1.moved hvm, a2.moved hvm⟩, ⟨b1.moved hvm, b2.moved hvm⟩, c1.moved hvm, c2.moved hvm⟩
theorem ab_SF.kept {G : GW} {u U : State} {H : Heap} {locs : List Loc} (hvm : u.vm.Alike U.vm) (hS : va_S (ab_A G) u.heap H locs) (hh : U.heap = H) (h : ab_SF G u) : ab_SF G U := by
  unfold ab_SF at h ⊢
  rw [hh]
  obtain ⟨⟨a1, a2⟩, ⟨b1, b2⟩, c1, c2⟩ := h
  exact ⟨⟨(a1.kept hS.2.1).moved hvm, (a2.kept hS.2.1).moved hvm⟩, ⟨(b1.kept hS.2.1).moved hvm, (b2.kept hS.2.1).moved hvm⟩, (c1.kept hS.2.1).moved hvm, (c2.kept hS.2.1).moved hvm⟩
theorem ab_args {ad : Nat → Nat} : ∀ (av : List Value) (i : Nat), lv_args i (av.map (ab_tr ad)) = (lv_args i av).map (ab_tp ad)
  | [], _ => rfl
  | v :: vs, i => by
    show (i, ab_tr ad v) :: lv_args _ _ = (i, ab_tr ad v) :: _
    rw [ab_cat, ab_args vs]
theorem ab_sl {ad : Nat → Nat} : ∀ (av : List Value), (lg_sl (av.map (ab_tr ad))).length = (lg_sl av).length
  | [] => rfl
  | v :: vs => by
    have ih := ab_sl (ad := ad) vs
    unfold lg_sl at ih ⊢
    simp only [List.map_cons, List.flatMap_cons, List.length_append, ih, ab_cat]
    split <;> rfl
theorem AC.of {α : Type} {l : Launch} {G : GW} {y : MethodName} {cc : ByteArray} {nL : Nat} {ret : Option FieldType} {lev : Nat} {av : List Value} {M : Mem} {emb : α → Option Value × Mem} {X : Option α} (hG : ab_ok G) (hy : plainName y.cls = true) (hn : (lg_sl av).length ≤ nL)
    (h : ∀ E : EE, eLa E = l → Bx G E y.cls cc nL lev ret → AWo G E cc nL (ab_Q G E emb) 0 (lv_args 0 av) [] M X) : AC l G y cc nL ret lev av M emb X := by
  intro a ha
  refine Met.ofW (cc := cc) (maxL := nL) (ret := ret) hy rfl ?_
  intro p e s m args below meth c s₁ B hml hv
  obtain ⟨rfl, hP, hK, hSF⟩ := hv
  have hts := atoms_spec (ws := .code y cc nL ret :: BW) B.pre
  have hl := lv_entry (av.map (ab_tr G.1)) (n := nL) (by rw [ab_sl]; exact hn)
  rw [lg_entry_eq]
  rw [ab_args] at hl
  exact h (p, l, e, _, s, m, _, below, meth, c, 0, 0) rfl ⟨B.exec, B.bytes, hml, findClass_of_methodNamed B.named, fun w hw => hts w (List.mem_cons_of_mem _ hw), hK, hG, hSF, B.returns, B.notSynchronized, Nat.le_refl _, Nat.le_refl _, Nat.le_refl _, Nat.le_refl _⟩ a ha s.heap [] _ hP va_S.rf hl
section AWC
variable {α : Type} {G : GW} {E : EE} {own : String} {cc : ByteArray} {nL lev : Nat} {ret : Option FieldType} {Q : α → State → Prop} {pc : Nat} {lv : List (Nat × Value)} {st : List Value} {M : Mem} {X : Option α}
theorem aw_ireturn (B : Bx G E own cc nL lev (some .int)) {emb : α → Option Value × Mem} {b : α} {v : Int32} (hd : decode cc pc = .ok (.ireturn, 1)) (he : emb b = (some (.int v), M)) : AWo G E cc nL (ab_Q G E emb) pc lv [.int v] M (some b) := by
  intro a ha H locs ls hP hS hl
  cases ha
  refine W.iret B.1 B.2.1 B.2.2.2.2.2.2.2.2.1 (fun t ht _ => ?_) (fun q hq => hS.2.2 q hq) hd B.2.2.2.2.2.2.2.2.2.1
  rw [he]
  exact ⟨⟨rfl, by rw [ht]; exact hP⟩, hS.F ht⟩
theorem aw_zreturn (B : Bx G E own cc nL lev (some .boolean)) {emb : α → Option Value × Mem} {b : α} {v : Int32} (hd : decode cc pc = .ok (.ireturn, 1)) (he : emb b = (some (.int v), M)) : AWo G E cc nL (ab_Q G E emb) pc lv [.int v] M (ck (okB v) (some b)) := by
  intro a ha H locs ls hP hS hl
  obtain ⟨hv, ha⟩ := ck_some ha
  cases ha
  refine W.zret B.1 B.2.1 B.2.2.2.2.2.2.2.2.1 (ab_nz hv).2.1 (fun t ht _ => ?_) (fun q hq => hS.2.2 q hq) hd B.2.2.2.2.2.2.2.2.2.1
  rw [he]
  exact ⟨⟨rfl, by rw [ht]; exact hP⟩, hS.F ht⟩
theorem aw_zreturnK (B : Bx G E own cc nL lev (some .boolean)) {emb : α → Option Value × Mem} {b : α} {v : Int32} (hd : decode cc pc = .ok (.ireturn, 1)) (he : emb b = (some (.int v), M)) (hv : okB v = true) : AWo G E cc nL (ab_Q G E emb) pc lv [.int v] M (some b) := by
  intro a ha H locs ls hP hS hl
  cases ha
  refine W.zret B.1 B.2.1 B.2.2.2.2.2.2.2.2.1 (ab_nz hv).2.1 (fun t ht _ => ?_) (fun q hq => hS.2.2 q hq) hd B.2.2.2.2.2.2.2.2.2.1
  rw [he]
  exact ⟨⟨rfl, by rw [ht]; exact hP⟩, hS.F ht⟩
theorem aw_lreturn (B : Bx G E own cc nL lev (some .long)) {emb : α → Option Value × Mem} {b : α} {v : Int64} (hd : decode cc pc = .ok (.lreturn, 1)) (he : emb b = (some (.long v), M)) : AWo G E cc nL (ab_Q G E emb) pc lv [.long v] M (some b) := by
  intro a ha H locs ls hP hS hl
  cases ha
  refine W.lret B.1 B.2.1 B.2.2.2.2.2.2.2.2.1 (fun t ht _ => ?_) (fun q hq => hS.2.2 q hq) hd B.2.2.2.2.2.2.2.2.2.1
  rw [he]
  exact ⟨⟨rfl, by rw [ht]; exact hP⟩, hS.F ht⟩
theorem aw_vreturn (B : Bx G E own cc nL lev none) {emb : α → Option Value × Mem} {b : α} (hd : decode cc pc = .ok (.return_, 1)) (he : emb b = (none, M)) : AWo G E cc nL (ab_Q G E emb) pc lv [] M (some b) := by
  intro a ha H locs ls hP hS hl
  cases ha
  refine W.vret B.1 B.2.1 B.2.2.2.2.2.2.2.2.1 (fun t ht _ => ?_) (fun q hq => hS.2.2 q hq) hd B.2.2.2.2.2.2.2.2.2.1
  rw [he]
  exact ⟨⟨rfl, by rw [ht]; exact hP⟩, hS.F ht⟩
theorem aw_areturn {C : String} (B : Bx G E own cc nL lev (some (.object C))) {emb : α → Option Value × Mem} {b : α} {v : Nat} (hd : decode cc pc = .ok (.areturn, 1)) (he : emb b = (some (.ref v), M)) : AWo G E cc nL (ab_Q G E emb) pc lv [.ref v] M (some b) := by
  intro a ha H locs ls hP hS hl
  cases ha
  refine W.aret B.1 B.2.1 B.2.2.2.2.2.2.2.2.1 (Or.inl ⟨_, rfl⟩) (Or.inr ⟨_, rfl⟩) (fun t ht _ => ?_) (fun q hq => hS.2.2 q hq) hd B.2.2.2.2.2.2.2.2.2.1
  rw [he]
  exact ⟨⟨rfl, by rw [ht]; exact hP⟩, hS.F ht⟩
/-- a field's link: own class, place in its pool; the class and the field it names -/
def ab_LK (own : String) (idx ci k : Nat) : Prop := ∃ (C : String) (T : u_T) (N : Nat), ab_cls[ci]? = some (C, T, N) ∧ k < N ∧ k < ab_fN ci ∧ ci < 100 ∧ (T k).1 = C ∧ Cond.fieldLink own idx C (T k).2.1 (T k).2.2.1 ∈ BW
/-- a field that may be put -/
def ab_LP (ci k : Nat) (ty : FieldType) : Prop := ∃ (C : String) (T : u_T) (N : Nat) (ty0 : Nat → FieldType), ab_cls[ci]? = some (C, T, N) ∧ k < N ∧ (T k).2.2.2 = false ∧ parseFieldDescriptor (T k).2.2.1 = some ty ∧ (∀ k, k < N → parseFieldDescriptor (T k).2.2.1 = some (ty0 k)) ∧ (∀ a, a < N → ∀ b, b < N → a ≠ b → (T a).2.1 ≠ (T b).2.1)
theorem ab_h0 : ∀ w ∈ u_ws RX0 TX0 1, w ∈ BW := by decide +kernel
theorem ab_h1 : ∀ w ∈ u_ws RX1 TX1 5, w ∈ BW := by decide +kernel
theorem ab_h2 : ∀ w ∈ u_ws RX2 TX2 6, w ∈ BW := by decide +kernel
theorem ab_h3 : ∀ w ∈ u_ws RX3 TX3 6, w ∈ BW := by decide +kernel
theorem ab_h4 : ∀ w ∈ u_ws RX4 TX4 6, w ∈ BW := by decide +kernel
theorem ab_h5 : ∀ w ∈ u_ws RX5 TX5 11, w ∈ BW := by decide +kernel
theorem ab_h6 : ∀ w ∈ u_ws RX6 TX6 6, w ∈ BW := by decide +kernel
theorem ab_h7 : ∀ w ∈ u_ws RX7 TX7 4, w ∈ BW := by decide +kernel
theorem ab_h8 : ∀ w ∈ u_ws RX8 TX8 8, w ∈ BW := by decide +kernel
theorem ab_h9 : ∀ w ∈ u_ws RX9 TX9 3, w ∈ BW := by decide +kernel
theorem ab_h10 : ∀ w ∈ u_ws RX10 TX10 10, w ∈ BW := by decide +kernel
theorem ab_h11 : ∀ w ∈ u_ws RX11 TX11 50, w ∈ BW := by decide +kernel
theorem ab_hin (ci : Nat) (q : vw_C) (h : ab_cls[ci]? = some q) : ∀ w ∈ u_ws q.1 q.2.1 q.2.2, w ∈ BW := by
  have key : ∀ i, i < 12 → ∀ q, ab_cls[i]? = some q → ∀ w ∈ u_ws q.1 q.2.1 q.2.2, w ∈ BW := by
    intro i hi q hq
    match i, hq with
    | 0, hq => cases hq; exact ab_h0
    | 1, hq => cases hq; exact ab_h1
    | 2, hq => cases hq; exact ab_h2
    | 3, hq => cases hq; exact ab_h3
    | 4, hq => cases hq; exact ab_h4
    | 5, hq => cases hq; exact ab_h5
    | 6, hq => cases hq; exact ab_h6
    | 7, hq => cases hq; exact ab_h7
    | 8, hq => cases hq; exact ab_h8
    | 9, hq => cases hq; exact ab_h9
    | 10, hq => cases hq; exact ab_h10
    | 11, hq => cases hq; exact ab_h11
    | n + 12, hq => omega
  refine key ci ?_ q h
  exact (List.getElem?_eq_some_iff.mp h).1
theorem aw_get (B : Bx G E own cc nL lev ret) {c idx k : Nat} (hL : ab_LK own idx (ab_k c) k) (hd : decode cc pc = .ok (.getfield idx, 3)) {v : Value} (hv : ∀ ad, ab_fv ad M c k = ab_tr ad v) (kk : AWo G E cc nL Q (pc + 3) lv (v :: st) M X) : AWo G E cc nL Q pc lv (.ref c :: st) M X := by
  intro a ha H locs ls hP hS hl
  obtain ⟨C, T, N, hc, hk, hkf, h100, hT, hw⟩ := hL
  refine va_get B.1 B.2.1 B.2.2.2.2.1 (ab_hin _ _ hc) B.2.2.2.1 B.2.2.2.2.2.1 hP c (ab_atO G M h100) hc k hk (B.2.2.2.2.1 _ hw) (fun x hx => by rw [hT] at hx; exact hx) (v := ab_tr G.1 v) ?_ hd (kk a ha H locs ls hP hS hl)
  rw [ab_fl_at hkf, hv]
theorem aw_geti (B : Bx G E own cc nL lev ret) {c idx k : Nat} (hL : ab_LK own idx (ab_k c) k) (hd : decode cc pc = .ok (.getfield idx, 3)) (ht : ab_ft (ab_k c) k = 0) (kk : AWo G E cc nL Q (pc + 3) lv (.int (M.1 c k) :: st) M X) : AWo G E cc nL Q pc lv (.ref c :: st) M X :=
  aw_get B hL hd (fun ad => by simp [ab_fv, ht, ab_tr]) kk
theorem aw_getr (B : Bx G E own cc nL lev ret) {c idx k : Nat} (hL : ab_LK own idx (ab_k c) k) (hd : decode cc pc = .ok (.getfield idx, 3)) (ht : ab_ft (ab_k c) k = 1) {r : Nat} (hr : ab_rf c k = r) (kk : AWo G E cc nL Q (pc + 3) lv (.ref r :: st) M X) : AWo G E cc nL Q pc lv (.ref c :: st) M X :=
  aw_get B hL hd (fun ad => by simp [ab_fv, ht, ab_tr, hr]) kk
theorem aw_getm (B : Bx G E own cc nL lev ret) {c idx k : Nat} (hL : ab_LK own idx (ab_k c) k) (hd : decode cc pc = .ok (.getfield idx, 3)) (ht : ab_ft (ab_k c) k = 2) (kk : AWo G E cc nL Q (pc + 3) lv (.ref (M.2.2 c k) :: st) M X) : AWo G E cc nL Q pc lv (.ref c :: st) M X :=
  aw_get B hL hd (fun ad => by simp [ab_fv, ht, ab_tr]) kk
theorem ab_putx (B : Bx G E own cc nL lev ret) {c idx k : Nat} {ty : FieldType} {v : Value} {a : α} (hL : ab_LK own idx (ab_k c) k) (hp : ab_LP (ab_k c) k ty) (hd : decode cc pc = .ok (.putfield idx, 3)) (hn : narrow ty (ab_tr G.1 v) = ab_tr G.1 v) (hfit : fits ty (ab_tr G.1 v) = true) {M2 : Mem} (hset : (ab_w G M).set c (G.1 c, .inr (ab_k c, (ab_fl G.1 M c).set k (ab_tr G.1 v))) = ab_w G M2) {X2 : Option α} (hx : X2 = some a) (kk : AWo G E cc nL Q (pc + 3) lv st M2 X2) : ∀ (H : Heap) (locs : List Loc) (ls : Array Slot), va_P G.2.1 ab_cls (ab_w G M) H → va_S (ab_A G) (eS E).heap H locs → lv_has ls nL (lv.map (ab_tp G.1)) →
    W (eP E) (eLa E) (eE E) (eR E) (eS E) (eM E) (eA E) (eB E) (eMe E) (eC E) H locs (eK E) (eZ E) (Q a) (F0 (eM E) pc ls ((v :: .ref c :: st).map (ab_tr G.1))) := by
  intro H locs ls hP hS hl
  obtain ⟨C, T, N, hc, hk, hkf, h100, hT, hw⟩ := hL
  obtain ⟨C', T', N', ty0, hc', hk', hfin, hty, htys, hnm⟩ := hp
  have e := hc.symm.trans hc'
  cases e
  refine va_put B.1 B.2.1 B.2.2.2.2.1 (ab_hin _ _ hc) ty0 htys hnm B.2.2.2.1 B.2.2.2.2.2.1 hP (ab_D B.2.2.2.2.2.2.1 M) hS c (ab_atO G M h100) hc k hk (B.2.2.2.2.1 _ hw) (fun x hx => by rw [hT] at hx; exact hx) hfin hty hn hfit (by rw [ab_fl_len]; exact hkf) hd (fun H1 locs1 hP1 _ hS1 => ?_)
  rw [hset] at hP1
  exact kk a hx H1 locs1 ls hP1 hS1 hl
theorem aw_puti (B : Bx G E own cc nL lev ret) {c idx k : Nat} {v : Int32} {K : Mem → Option α} (hL : ab_LK own idx (ab_k c) k) (hp : ab_LP (ab_k c) k .int) (hd : decode cc pc = .ok (.putfield idx, 3)) (ht : ab_ft (ab_k c) k = 0) (kk : ∀ M2, AWo G E cc nL Q (pc + 3) lv st M2 (K M2)) : AWo G E cc nL Q pc lv (.int v :: .ref c :: st) M (lt (wI M c k v) K) := by
  intro a ha H locs ls hP hS hl
  have h100 := id hL
  obtain ⟨C, T, N, hc, hk, hkf, h100, hT, hw⟩ := h100
  exact ab_putx B hL hp hd (v := .int v) rfl rfl (ab_setFI h100 ht) ha (kk _) H locs ls hP hS hl
theorem aw_putz (B : Bx G E own cc nL lev ret) {c idx k : Nat} {v : Int32} {K : Mem → Option α} (hL : ab_LK own idx (ab_k c) k) (hp : ab_LP (ab_k c) k .boolean) (hd : decode cc pc = .ok (.putfield idx, 3)) (ht : ab_ft (ab_k c) k = 0) (kk : ∀ M2, AWo G E cc nL Q (pc + 3) lv st M2 (K M2)) : AWo G E cc nL Q pc lv (.int v :: .ref c :: st) M (ck (okB v) (lt (wI M c k v) K)) := by
  intro a ha H locs ls hP hS hl
  obtain ⟨hv, ha⟩ := ck_some ha
  have h100 := id hL
  obtain ⟨C, T, N, hc, hk, hkf, h100, hT, hw⟩ := h100
  exact ab_putx B hL hp hd (v := .int v) (ab_nz hv).2.1 (ab_nz hv).2.2 (ab_setFI h100 ht) ha (kk _) H locs ls hP hS hl
theorem aw_putr (B : Bx G E own cc nL lev ret) {c idx k : Nat} {v : Nat} {K : Mem → Option α} (hL : ab_LK own idx (ab_k c) k) (hp : ab_LP (ab_k c) k (.array .int)) (hd : decode cc pc = .ok (.putfield idx, 3)) (ht : ab_ft (ab_k c) k = 2) (kk : ∀ M2, AWo G E cc nL Q (pc + 3) lv st M2 (K M2)) : AWo G E cc nL Q pc lv (.ref v :: .ref c :: st) M (lt (wR M c k v) K) := by
  intro a ha H locs ls hP hS hl
  have h100 := id hL
  obtain ⟨C, T, N, hc, hk, hkf, h100, hT, hw⟩ := h100
  exact ab_putx B hL hp hd (v := .ref v) rfl rfl (ab_setFR h100 ht) ha (kk _) H locs ls hP hS hl
theorem aw_gets0 (B : Bx G E own cc nL lev ret) {idx : Nat} (hw : Cond.fieldLink own idx "SecondBest$Bodies" "KIND_ABOVE" "[I" ∈ BW) (hd : decode cc pc = .ok (.getstatic idx, 3)) (kk : AWo G E cc nL Q (pc + 3) lv (.ref 1000 :: st) M X) : AWo G E cc nL Q pc lv st M X := fun a ha H locs ls hP hS hl => va_gets B.1 B.2.1 B.2.2.2.2.2.2.2.1.1.1 hS B.2.2.2.1 (B.2.2.2.2.1 _ hw) (fun x hx => hx) hd (kk a ha H locs ls hP hS hl)
theorem aw_gets1 (B : Bx G E own cc nL lev ret) {idx : Nat} (hw : Cond.fieldLink own idx "SecondBest$Bodies" "OWN" "[I" ∈ BW) (hd : decode cc pc = .ok (.getstatic idx, 3)) (kk : AWo G E cc nL Q (pc + 3) lv (.ref 1001 :: st) M X) : AWo G E cc nL Q pc lv st M X := fun a ha H locs ls hP hS hl => va_gets B.1 B.2.1 B.2.2.2.2.2.2.2.1.2.1.1 hS B.2.2.2.1 (B.2.2.2.2.1 _ hw) (fun x hx => hx) hd (kk a ha H locs ls hP hS hl)
theorem aw_gets2 (B : Bx G E own cc nL lev ret) {idx : Nat} (hw : Cond.fieldLink own idx "SecondBest$Cup" "PARTS" "[J" ∈ BW) (hd : decode cc pc = .ok (.getstatic idx, 3)) (kk : AWo G E cc nL Q (pc + 3) lv (.ref 1002 :: st) M X) : AWo G E cc nL Q pc lv st M X := fun a ha H locs ls hP hS hl => va_gets B.1 B.2.1 B.2.2.2.2.2.2.2.1.2.2.1 hS B.2.2.2.1 (B.2.2.2.2.1 _ hw) (fun x hx => hx) hd (kk a ha H locs ls hP hS hl)
theorem okS_spec {j : Nat} {i : Int32} (h : okS j i = true) : vp_in i (ab_st j).length := by
  simp only [okS, decide_eq_true_eq] at h
  exact h
theorem okSL_spec {i : Int32} (h : okSL i = true) : vp_in i 4 := by
  simp only [okSL, decide_eq_true_eq] at h
  exact h
theorem aw_sld0 (B : Bx G E own cc nL lev ret) {i : Int32} (hd : decode cc pc = .ok (.iaload, 1)) (k : AWo G E cc nL Q (pc + 1) lv (.int ((ab_st 0).getD i.toNatClampNeg 0) :: st) M X) : AWo G E cc nL Q pc lv (.int i :: .ref 1000 :: st) M (ck (okS 0 i) X) := by
  intro a ha H locs ls hP hS hl
  obtain ⟨h, ha⟩ := ck_some ha
  exact va_ti B.1 B.2.1 B.2.2.2.2.2.2.2.1.1.2 hS (okS_spec h) rfl hd (k a ha H locs ls hP hS hl)
theorem aw_sld1 (B : Bx G E own cc nL lev ret) {i : Int32} (hd : decode cc pc = .ok (.iaload, 1)) (k : AWo G E cc nL Q (pc + 1) lv (.int ((ab_st 1).getD i.toNatClampNeg 0) :: st) M X) : AWo G E cc nL Q pc lv (.int i :: .ref 1001 :: st) M (ck (okS 1 i) X) := by
  intro a ha H locs ls hP hS hl
  obtain ⟨h, ha⟩ := ck_some ha
  exact va_ti B.1 B.2.1 B.2.2.2.2.2.2.2.1.2.1.2 hS (okS_spec h) rfl hd (k a ha H locs ls hP hS hl)
theorem aw_sld2 (B : Bx G E own cc nL lev ret) {i : Int32} (hd : decode cc pc = .ok (.laload, 1)) (k : AWo G E cc nL Q (pc + 1) lv (.long (ab_stL.getD i.toNatClampNeg 0) :: st) M X) : AWo G E cc nL Q pc lv (.int i :: .ref 1002 :: st) M (ck (okSL i) X) := by
  intro a ha H locs ls hP hS hl
  obtain ⟨h, ha⟩ := ck_some ha
  exact va_tl B.1 B.2.1 B.2.2.2.2.2.2.2.1.2.2.2 hS (okSL_spec h) rfl hd (k a ha H locs ls hP hS hl)
/-- a call's static facts -/
def ab_CV (own : String) (idx : Nat) (y : MethodName) (cc : ByteArray) (nL : Nat) (ret : Option FieldType) (n : Nat) : Prop :=
  (Cond.methodLink own idx y ∈ BW ∧ Cond.instanceMethod y ∈ BW ∧ Cond.selects y.cls y y ∈ BW ∧ Cond.initialized y.cls ∈ BW ∧ Cond.code y cc nL ret ∈ BW) ∧ (y.cls ≠ "java/lang/invoke/MethodHandle" ∧ y.cls ≠ "java/lang/invoke/VarHandle" ∧ (parseMethodDescriptor y.desc).map (fun d => d.parameters.length) = some n) ∧ nL ≤ 22
def ab_CS (own : String) (idx : Nat) (y : MethodName) (cc : ByteArray) (nL : Nat) (ret : Option FieldType) (n : Nat) : Prop :=
  (Cond.methodLink own idx y ∈ BW ∧ Cond.static y ∈ BW ∧ Cond.initialized y.cls ∈ BW ∧ Cond.code y cc nL ret ∈ BW) ∧ (y.cls ≠ "java/lang/invoke/MethodHandle" ∧ y.cls ≠ "java/lang/invoke/VarHandle" ∧ (parseMethodDescriptor y.desc).map (fun d => d.parameters.length) = some n) ∧ nL ≤ 22
theorem ab_gin {pre : List Cond} {c : Cond} (hp : ∀ w ∈ pre, w ∈ BW) (hc : c ∈ BW) : GoodIn BW (pre ++ (c :: BW)) := by
  intro w hw
  rcases List.mem_append.mp hw with h | h
  · exact bw_good (hp w h)
  · rcases List.mem_cons.mp h with rfl | h
    · exact bw_good hc
    · exact bw_good h
theorem ab_blind {G : GW} {av : List Value} {M : Mem} : FrameBlind (va_Pc av (ab_PW G M)) := by
  intro a U g mk q
  obtain ⟨q0, qP, qK, qS⟩ := q
  exact ⟨q0, qP, va_K.moved (u := U) (U := U.calling g mk a) (Vm.Alike.refl U.vm) qK, ab_SF.moved (u := U) (U := U.calling g mk a) (Vm.Alike.refl U.vm) rfl qS⟩
/-- the end of any call: the callee's world comes back -/
theorem ab_back {v : Option Value × Mem} {H : Heap} {locs : List Loc} {ls : Array Slot} {a : α} (hl : lv_has ls nL (lv.map (ab_tp G.1))) {stk : List Value} {av : Array Value} (hr : va_Run (eP E) (eLa E) (eE E) (eR E) (eS E) (eM E) (eA E) (eB E) (eMe E) (eC E) H locs (eK E) (eZ E) 0 0 (F0 (eM E) pc ls stk) (st.map (ab_tr G.1)) (ab_QR G v av) (ab_A G)) (hS : va_S (ab_A G) (eS E).heap H locs) (ha : X = some a) (k : AWo G E cc nL Q (pc + 3) lv (v.1.toList ++ st) v.2 X) : W (eP E) (eLa E) (eE E) (eR E) (eS E) (eM E) (eA E) (eB E) (eMe E) (eC E) H locs (eK E) (eZ E) (Q a) (F0 (eM E) pc ls stk) := by
  intro T hT XX
  obtain ⟨v', st₀, t, T', L, h0, X', hL, e1, e2, ⟨⟨hv, hp⟩, hz, hk⟩, stp⟩ := hr T hT XX
  have hv' : v' = v.1.map (ab_tr G.1) := by cases hv; rfl
  subst hv'
  rw [h0] at hz hk
  have hS' : va_S (ab_A G) (eS E).heap T'.heap (locs ++ L) := by
    refine ⟨Nat.le_trans hS.1 (by rw [e1]; exact hz), fun q h1 h2 => ?_, fun q hq => ?_⟩
    · rw [e1, hk q (Nat.lt_of_lt_of_le h1 hS.1) h2]
      exact hS.2.1 q h1 h2
    · rcases List.mem_append.mp hq with h | h
      · exact hS.2.2 q h
      · exact hL q h
  obtain ⟨t2, a1, b1⟩ := k a ha T'.heap (locs ++ L) ls (by rw [e1]; exact hp) hS' hl T' rfl X'
  refine ⟨t2, stp t2 ?_, b1⟩
  have es : (v.1.toList ++ st).map (ab_tr G.1) = (v.1.map (ab_tr G.1)).toList ++ st.map (ab_tr G.1) := by
    cases v.1 <;> simp
  rw [es] at a1
  exact a1
theorem ab_catsum {ad : Nat → Nat} (st : List Value) : ((st.map (ab_tr ad)).map fun v => v.category).sum = (st.map fun v => v.category).sum := by
  rw [List.map_map]
  congr 1
  apply List.map_congr_left
  intro v _
  exact ab_cat
theorem aw_callV {β : Type} {emb2 : β → Option Value × Mem} {X2 : Option β} {K : β → Option α} {y : MethodName} {bytes : ByteArray} {maxL lev2 n idx b : Nat} {ret2 : Option FieldType} {As : List Value} (B : Bx G E own cc nL lev ret) (hA : AC (eLa E) G y bytes maxL ret2 lev2 (.ref b :: As) M emb2 X2) (hC : ab_CV own idx y bytes maxL ret2 n) {q : vw_C} (hb : ab_cls[ab_k b]? = some q) (hq : q.1 = y.cls) (hlev : lev2 + 1 ≤ lev) (hn : As.length = n) (hs : (st.map fun v => v.category).sum ≤ 8) (hd : decode cc pc = .ok (.invokevirtual idx, 3)) {stk : List Value} (hk : stk = As.reverse ++ .ref b :: st)
    (k : ∀ r, X2 = some r → AWo G E cc nL Q (pc + 3) lv ((emb2 r).1.toList ++ st) (emb2 r).2 (K r)) : AWo G E cc nL Q pc lv stk M (X2.bind K) := by
  intro a ha H locs ls hP hS hl
  obtain ⟨r, hr, hK⟩ := Option.bind_eq_some_iff.mp ha
  have hM := hA r hr
  obtain ⟨⟨w1, w2, w3, w4, w5⟩, hdd, h22⟩ := hC
  have h100 : ab_k b < 100 := by
    have := (List.getElem?_eq_some_iff.mp hb).1
    have e : ab_cls.length = 12 := rfl
    omega
  obtain ⟨l1, l2, l3, l4⟩ := B.2.2.2.2.2.2.2.2.2.2
  refine ab_back (v := emb2 r) hl (va_runV (As := As.map (ab_tr G.1)) (b := G.1 b) (rest := st.map (ab_tr G.1)) (C := y.cls) (n := n) (index := idx) ⟨B.1, B.2.1, B.2.2.1, B.2.2.2.1, B.2.2.2.2.1⟩ hM (cwV (Ts := BW) n B.2.2.2.2.1 (ab_gin (pre := [.methodLink own idx y, .instanceMethod y, .selects y.cls y y, .initialized y.cls]) (fun w hw => ?_) w5) rfl rfl rfl ⟨rfl, hdd⟩ ⟨?_, ?_⟩) ⟨ab_blind, ?_, fun U hU hW => ⟨rfl, ?_, ?_, ?_⟩⟩ rfl (by rw [List.length_map]; exact hn) hl.1 ?_ (lv_room (by rw [ab_catsum]; exact hs)) hd ⟨l3, l4⟩) hS hK (k r hr)
  · simp only [List.mem_cons, List.not_mem_nil, or_false] at hw
    rcases hw with rfl | rfl | rfl | rfl <;> assumption
  · show lev2 + 1 ≤ _; omega
  · show 8 + (maxL + 11) + 41 * lev2 ≤ _; omega
  · obtain ⟨cell, g1, g2, g3⟩ := va_recv B.2.2.2.2.2.1 hP hb (ab_atO G M h100)
    exact ⟨cell, g1, g2, by rw [← hq]; exact g3⟩
  · rw [hU]; exact hP
  · exact va_K.moved hW.alike B.2.2.2.2.2.1
  · exact ab_SF.kept hW.alike hS hU B.2.2.2.2.2.2.2.1
  · rw [hk]
    show (As.reverse ++ .ref b :: st).map (ab_tr G.1) = _
    rw [List.map_append, List.map_reverse]
    rfl
theorem aw_callS {β : Type} {emb2 : β → Option Value × Mem} {X2 : Option β} {K : β → Option α} {y : MethodName} {bytes : ByteArray} {maxL lev2 n idx : Nat} {ret2 : Option FieldType} {As : List Value} (B : Bx G E own cc nL lev ret) (hA : AC (eLa E) G y bytes maxL ret2 lev2 As M emb2 X2) (hC : ab_CS own idx y bytes maxL ret2 n) (hlev : lev2 + 1 ≤ lev) (hn : As.length = n) (hs : (st.map fun v => v.category).sum ≤ 8) (hd : decode cc pc = .ok (.invokestatic idx, 3)) {stk : List Value} (hk : stk = As.reverse ++ st)
    (k : ∀ r, X2 = some r → AWo G E cc nL Q (pc + 3) lv ((emb2 r).1.toList ++ st) (emb2 r).2 (K r)) : AWo G E cc nL Q pc lv stk M (X2.bind K) := by
  intro a ha H locs ls hP hS hl
  obtain ⟨r, hr, hK⟩ := Option.bind_eq_some_iff.mp ha
  have hM := hA r hr
  obtain ⟨⟨w1, w2, w4, w5⟩, hdd, h22⟩ := hC
  obtain ⟨l1, l2, l3, l4⟩ := B.2.2.2.2.2.2.2.2.2.2
  refine ab_back (v := emb2 r) hl (va_runS (As := As.map (ab_tr G.1)) (rest := st.map (ab_tr G.1)) (n := n) (index := idx) ⟨B.1, B.2.1, B.2.2.1, B.2.2.2.1, B.2.2.2.2.1⟩ hM (va_cwS (Ts := BW) n B.2.2.2.2.1 (ab_gin (pre := [.methodLink own idx y, .static y, .initialized y.cls]) (fun w hw => ?_) w5) rfl rfl rfl hdd ⟨?_, ?_⟩) ⟨ab_blind, fun U hU hW => ⟨rfl, ?_, ?_, ?_⟩⟩ rfl (by rw [List.length_map]; exact hn) hl.1 ?_ (lv_room (by rw [ab_catsum]; exact hs)) hd ⟨l3, l4⟩) hS hK (k r hr)
  · simp only [List.mem_cons, List.not_mem_nil, or_false] at hw
    rcases hw with rfl | rfl | rfl <;> assumption
  · show lev2 + 1 ≤ _; omega
  · show 8 + (maxL + 11) + 41 * lev2 ≤ _; omega
  · rw [hU]; exact hP
  · exact va_K.moved hW.alike B.2.2.2.2.2.1
  · exact ab_SF.kept hW.alike hS hU B.2.2.2.2.2.2.2.1
  · rw [hk]
    show (As.reverse ++ st).map (ab_tr G.1) = _
    rw [List.map_append, List.map_reverse]
end AWC
