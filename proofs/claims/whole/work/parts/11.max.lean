/-! Math.max, Math.min -/
def ab_max (x y : Int32) : Int32 := if x < y then y else x
def ab_min (x y : Int32) : Int32 := if y < x then y else x
theorem ab_maxw : Cond.static Lib.Math.max.name ∈ BW ∧ Cond.initialized "java/lang/Math" ∈ BW ∧ Cond.code Lib.Math.max.name Lib.Math.max.code 2 (some .int) ∈ BW := by decide +kernel
theorem ab_minw : Cond.static Lib.Math.min.name ∈ BW ∧ Cond.initialized "java/lang/Math" ∈ BW ∧ Cond.code Lib.Math.min.name Lib.Math.min.code 2 (some .int) ∈ BW := by decide +kernel
section AWF
variable {α : Type} {G : GW} {E : EE} {own : String} {cc : ByteArray} {nL lev : Nat} {ret : Option FieldType} {Q : α → State → Prop} {pc : Nat} {lv : List (Nat × Value)} {st : List Value} {M : Mem} {X : Option α}
theorem aw_max (B : Bx G E own cc nL lev ret) {x y : Int32} {idx : Nat} (hw : Cond.methodLink own idx Lib.Math.max.name ∈ BW) (hd : decode cc pc = .ok (.invokestatic idx, 3)) (hs : (st.map fun v => v.category).sum ≤ 8) (hlev : 1 ≤ lev) (k : AWo G E cc nL Q (pc + 3) lv (.int (ab_max x y) :: st) M X) : AWo G E cc nL Q pc lv (.int y :: .int x :: st) M X := by
  intro a ha H locs ls hP hS hl
  obtain ⟨l1, l2, l3, l4⟩ := B.2.2.2.2.2.2.2.2.2.2
  exact va_mmax B.1 B.2.1 (B.2.2.1.trans hl.1.symm) B.2.2.2.1 (B.2.2.2.2.1 _ hw) (B.2.2.2.2.1 _ ab_maxw.1) (B.2.2.2.2.1 _ ab_maxw.2.1) (B.2.2.2.2.1 _ ab_maxw.2.2) (by omega) (by rw [ab_catsum]; omega) l3 l4 hd (k a ha H locs ls hP hS hl)
theorem aw_min (B : Bx G E own cc nL lev ret) {x y : Int32} {idx : Nat} (hw : Cond.methodLink own idx Lib.Math.min.name ∈ BW) (hd : decode cc pc = .ok (.invokestatic idx, 3)) (hs : (st.map fun v => v.category).sum ≤ 8) (hlev : 1 ≤ lev) (k : AWo G E cc nL Q (pc + 3) lv (.int (ab_min x y) :: st) M X) : AWo G E cc nL Q pc lv (.int y :: .int x :: st) M X := by
  intro a ha H locs ls hP hS hl
  obtain ⟨l1, l2, l3, l4⟩ := B.2.2.2.2.2.2.2.2.2.2
  exact va_mmin B.1 B.2.1 (B.2.2.1.trans hl.1.symm) B.2.2.2.1 (B.2.2.2.2.1 _ hw) (B.2.2.2.2.1 _ ab_minw.1) (B.2.2.2.2.1 _ ab_minw.2.1) (B.2.2.2.2.1 _ ab_minw.2.2) (by omega) (by rw [ab_catsum]; omega) l3 l4 hd (k a ha H locs ls hP hS hl)
end AWF
