/-! switches, copies, calls by the kind of their answer -/
section AWD
variable {α : Type} {G : GW} {E : EE} {own : String} {cc : ByteArray} {nL lev : Nat} {ret : Option FieldType} {Q : α → State → Prop} {pc : Nat} {lv : List (Nat × Value)} {st : List Value} {M : Mem} {X : Option α}
theorem aw_ite {c : Prop} {d : Decidable c} {X2 : Option α} (kt : c → AWo G E cc nL Q pc lv st M X) (kf : ¬ c → AWo G E cc nL Q pc lv st M X2) : AWo G E cc nL Q pc lv st M (@ite _ c d X X2) := by
  intro a ha
  by_cases h : c
  · rw [if_pos h] at ha; exact kt h a ha
  · rw [if_neg h] at ha; exact kf h a ha
theorem aw_tin (B : Bx G E own cc nL lev ret) {dflt lo hi : Int} {offs : Array Int} {len : Nat} {x k0 : Int32} {off : Int} (tgt : Nat) (hd : decode cc pc = .ok (.tableswitch dflt lo hi offs, len)) (hx : x = k0) (h1 : ¬ k0.toInt < lo) (h2 : ¬ hi < k0.toInt) (ho : offs[(k0.toInt - lo).toNat]? = some off) (ht : (pc : Int) + off = (tgt : Int)) (k : AWo G E cc nL Q tgt lv st M X) : AWo G E cc nL Q pc lv (.int x :: st) M X := by
  subst hx
  exact fun a ha H locs ls hP hS hl => lv_tableIn B.1 B.2.1 hd h1 h2 ho ht (k a ha H locs ls hP hS hl)
theorem aw_tout (B : Bx G E own cc nL lev ret) {dflt lo hi : Int} {offs : Array Int} {len : Nat} {x : Int32} (tgt : Nat) (hd : decode cc pc = .ok (.tableswitch dflt lo hi offs, len)) (h : x.toInt < lo ∨ hi < x.toInt) (ht : (pc : Int) + dflt = (tgt : Int)) (k : AWo G E cc nL Q tgt lv st M X) : AWo G E cc nL Q pc lv (.int x :: st) M X :=
  fun a ha H locs ls hP hS hl => lv_tableOut B.1 B.2.1 hd h ht (k a ha H locs ls hP hS hl)
theorem aw_lkp (B : Bx G E own cc nL lev ret) {dflt : Int} {ps : Array (Int × Int)} {len : Nat} {x : Int32} {off : Int} (tgt : Nat) (hd : decode cc pc = .ok (.lookupswitch dflt ps, len)) (hp : (ps.toList.zip (ps.toList.drop 1)).all (fun (a, next) => a.1 < next.1) = true) (ho : Op.lookupswitch.offset ps.toList dflt x.toInt = off) (ht : (pc : Int) + off = (tgt : Int)) (k : AWo G E cc nL Q tgt lv st M X) : AWo G E cc nL Q pc lv (.int x :: st) M X :=
  fun a ha H locs ls hP hS hl => lv_lookup B.1 B.2.1 hd hp ho ht (k a ha H locs ls hP hS hl)
theorem aw_lkpK (B : Bx G E own cc nL lev ret) {dflt : Int} {ps : Array (Int × Int)} {len : Nat} {x k0 : Int32} {off : Int} (tgt : Nat) (hd : decode cc pc = .ok (.lookupswitch dflt ps, len)) (hp : (ps.toList.zip (ps.toList.drop 1)).all (fun (a, next) => a.1 < next.1) = true) (hx : x = k0) (ho : Op.lookupswitch.offset ps.toList dflt k0.toInt = off) (ht : (pc : Int) + off = (tgt : Int)) (k : AWo G E cc nL Q tgt lv st M X) : AWo G E cc nL Q pc lv (.int x :: st) M X := by
  subst hx
  exact aw_lkp B tgt hd hp ho ht k
def okC (kd c : Nat) (i n : Int32) : Bool := decide (ab_k c = kd ∧ ¬ i < 0 ∧ ¬ n < 0 ∧ i.toNatClampNeg + n.toNatClampNeg ≤ ab_n c)
theorem okC_spec {kd c : Nat} {i n : Int32} (h : okC kd c i n = true) : ab_k c = kd ∧ ¬ i < 0 ∧ ¬ n < 0 ∧ i.toNatClampNeg + n.toNatClampNeg ≤ ab_n c := by
  simpa only [okC, decide_eq_true_eq] using h
theorem ab_copyw : Cond.native arraycopyName ∈ BW ∧ Cond.static arraycopyName ∈ BW ∧ Cond.initialized "java/lang/System" ∈ BW := by decide +kernel
theorem aw_copyI (B : Bx G E own cc nL lev ret) {c d idx : Nat} {sp dp n : Int32} {K : Mem → Option α} (hw : Cond.methodLink own idx arraycopyName ∈ BW) (hd : decode cc pc = .ok (.invokestatic idx, 3)) (hs : (st.map fun v => v.category).sum ≤ 8) (hlev : 2 ≤ lev) (kk : ∀ M2, AWo G E cc nL Q (pc + 3) lv st M2 (K M2)) : AWo G E cc nL Q pc lv (.int n :: .int dp :: .ref d :: .int sp :: .ref c :: st) M (ck (okC 100 c sp n && okC 100 d dp n) (lt (cpI M c sp.toNatClampNeg d dp.toNatClampNeg n.toNatClampNeg) K)) := by
  intro a ha H locs ls hP hS hl
  obtain ⟨h, ha⟩ := ck_some ha
  obtain ⟨h1, h2⟩ := Bool.and_eq_true_iff.mp h
  obtain ⟨a1, a2, a3, a4⟩ := okC_spec h1
  obtain ⟨b1, b2, b3, b4⟩ := okC_spec h2
  obtain ⟨l1, l2, l3, l4⟩ := B.2.2.2.2.2.2.2.2.2.2
  refine va_copyi B.1 B.2.1 (B.2.2.1.trans hl.1.symm) B.2.2.2.1 (B.2.2.2.2.1 _ hw) (B.2.2.2.2.1 _ ab_copyw.1) (B.2.2.2.2.1 _ ab_copyw.2.1) (B.2.2.2.2.1 _ ab_copyw.2.2) B.2.2.2.2.2.1 hP (ab_D B.2.2.2.2.2.2.1 M) hS c d 0 0 (ab_atI G M a1) (ab_atI G M b1) rfl rfl rfl a2 b2 a3 a4 b4 (fun _ _ => rfl) (by omega) ?_ hd (fun H1 locs1 hP1 _ hS1 => ?_)
  · have e : nativeFrameWords "java/lang/System" "arraycopy" 5 ≤ 50 := by decide +kernel
    rw [ab_catsum]
    omega
  · rw [ab_setCI b1] at hP1
    exact kk _ a ha H1 locs1 ls hP1 hS1 hl
theorem aw_copyL (B : Bx G E own cc nL lev ret) {c d idx : Nat} {sp dp n : Int32} {K : Mem → Option α} (hw : Cond.methodLink own idx arraycopyName ∈ BW) (hd : decode cc pc = .ok (.invokestatic idx, 3)) (hs : (st.map fun v => v.category).sum ≤ 8) (hlev : 2 ≤ lev) (kk : ∀ M2, AWo G E cc nL Q (pc + 3) lv st M2 (K M2)) : AWo G E cc nL Q pc lv (.int n :: .int dp :: .ref d :: .int sp :: .ref c :: st) M (ck (okC 101 c sp n && okC 101 d dp n) (lt (cpL M c sp.toNatClampNeg d dp.toNatClampNeg n.toNatClampNeg) K)) := by
  intro a ha H locs ls hP hS hl
  obtain ⟨h, ha⟩ := ck_some ha
  obtain ⟨h1, h2⟩ := Bool.and_eq_true_iff.mp h
  obtain ⟨a1, a2, a3, a4⟩ := okC_spec h1
  obtain ⟨b1, b2, b3, b4⟩ := okC_spec h2
  obtain ⟨l1, l2, l3, l4⟩ := B.2.2.2.2.2.2.2.2.2.2
  refine va_copyl B.1 B.2.1 (B.2.2.1.trans hl.1.symm) B.2.2.2.1 (B.2.2.2.2.1 _ hw) (B.2.2.2.2.1 _ ab_copyw.1) (B.2.2.2.2.1 _ ab_copyw.2.1) (B.2.2.2.2.1 _ ab_copyw.2.2) B.2.2.2.2.2.1 hP (ab_D B.2.2.2.2.2.2.1 M) hS c d 1 1 (ab_atL G M a1) (ab_atL G M b1) rfl rfl rfl a2 b2 a3 a4 b4 (fun _ _ => rfl) (by omega) ?_ hd (fun H1 locs1 hP1 _ hS1 => ?_)
  · have e : nativeFrameWords "java/lang/System" "arraycopy" 5 ≤ 50 := by decide +kernel
    rw [ab_catsum]
    omega
  · rw [ab_setCL b1] at hP1
    exact kk _ a ha H1 locs1 ls hP1 hS1 hl
theorem aw_alen (B : Bx G E own cc nL lev ret) {c : Nat} (hd : decode cc pc = .ok (.arraylength, 1)) (k : AWo G E cc nL Q (pc + 1) lv (.int (Int32.ofNat (ab_n c)) :: st) M X) : AWo G E cc nL Q pc lv (.ref c :: st) M (ck (decide (ab_k c = 100)) X) := by
  intro a ha H locs ls hP hS hl
  obtain ⟨h, ha⟩ := ck_some ha
  have h1 : ab_k c = 100 := of_decide_eq_true h
  exact va_alen B.1 B.2.1 B.2.2.2.2.2.1 hP c 0 (ab_atI G M h1) rfl rfl hd (k a ha H locs ls hP hS hl)
theorem aw_alenL (B : Bx G E own cc nL lev ret) {c : Nat} (hd : decode cc pc = .ok (.arraylength, 1)) (k : AWo G E cc nL Q (pc + 1) lv (.int (Int32.ofNat (ab_n c)) :: st) M X) : AWo G E cc nL Q pc lv (.ref c :: st) M (ck (decide (ab_k c = 101)) X) := by
  intro a ha H locs ls hP hS hl
  obtain ⟨h, ha⟩ := ck_some ha
  have h1 : ab_k c = 101 := of_decide_eq_true h
  exact va_alen B.1 B.2.1 B.2.2.2.2.2.1 hP c 1 (ab_atL G M h1) rfl rfl hd (k a ha H locs ls hP hS hl)
end AWD
