/-! the calls that change something -/
section STY
variable {np : Nat} {nm : Nat} {wo : Nat → Nat} {wi : Nat → Nat} {lo : Nat → Nat} {ct : Nat → Nat} {d : Nat} {k : Nat} {wh : Nat → Nat} {nu : Nat → Nat} {be : Nat → Nat} {af : Nat → Nat} {t : Nat} {tp : Nat → Nat} {lw : LwO} {n : Nat} {ro : Nat → Nat} {nb : Nat} {kd : Nat → Nat} {rn : Nat} {tr : Nat → Nat} {ty : Nat → Nat} {nn : Nat → Nat} {el : Nat → Nat → Int64} {M M1 : Mem} {l : List (Nat × Nat)}
theorem OKS.row (h : OKS nb ty nn el) {a x y : Nat} (hx : x ≤ 4) (hy : y ≤ 60) : OKS nb (upN ty a x) (upN nn a y) (zeE el a) := fun c hc => by
  obtain ⟨a1, a2, a3, a4⟩ := h c hc
  have e1 : upN ty a x c = if c = a then x else ty c := rfl
  have e2 : upN nn a y c = if c = a then y else nn c := rfl
  have e3 : ∀ i, zeE el a c i = if c = a then 0 else el c i := fun _ => rfl
  rw [e1, e2]
  by_cases e : c = a
  · rw [if_pos e, if_pos e]
    refine ⟨by omega, fun q => by omega, fun _ => hy, fun _ i _ => ?_⟩
    rw [e3, if_pos e]
    decide
  · rw [if_neg e, if_neg e]
    refine ⟨a1, a2, a3, fun q i hi => ?_⟩
    rw [e3, if_neg e]
    exact a4 q i hi
theorem rowC_1 {a x y : Nat} (ha : a < 6) (hx : x ≤ 4) (hy : y ≤ 60) : rowC (nI a) (nI x) (nI y) = 1 := by
  unfold rowC
  have h1 : inN 6 (nI a) = true := by rw [inN_n (by omega)]; exact decide_eq_true ha
  have h2 : inN 5 (nI x) = true := by rw [inN_n (by omega)]; exact decide_eq_true (by omega)
  rw [if_pos ⟨h1, h2, (n_le (b := 60) (by omega) (by omega)).mpr hy⟩, if_pos (show (0 : Int32) ≤ nI y from (n_le (a := 0) (b := y) (by omega) (by omega)).mpr (by omega))]
theorem p_row (h : IV np nm wo wi lo ct d k wh nu be af t tp lw n ro nb kd rn tr ty nn el M) (v1 : Int32) (v2 : Int32) (v3 : Int32) : ∃ a M1 M2, f_X10_row v1 v2 v3 M = some (a, M1) ∧ f_X11_row v1 v2 v3 M1 = some (a, M2) ∧ Inv M2 := by
  rcases cl_row h.c8 h.o8 v1 v2 v3 with ⟨e, f1⟩ | ⟨a, x, y, M1, ha, hx, hy, e1, e2, e3, f1, g1⟩
  · rcases mo_row h.m8 h.o8 v1 v2 v3 with ⟨-, f2⟩ | ⟨a, x, y, M2, ha, hx, hy, e1, e2, e3, -, -⟩
    · exact ⟨_, M, M, f1, f2, h.inv⟩
    · exfalso; apply e; rw [e1, e2, e3]; exact rowC_1 ha hx hy
  · have fr1 := fr_X10_row v1 v2 v3 M _ f1
    have r1 : okR M1 := okR_of h.r (fr1 h.r.c).1
    rcases mo_row (grp_MS.kp h.r fr1 (by decide) h.m8) h.o8 v1 v2 v3 with ⟨e, f2⟩ | ⟨a2, x2, y2, M2, ha2, hx2, hy2, d1, d2, d3, f2, g2⟩
    · exfalso; apply e; rw [e1, e2, e3]; exact rowC_1 ha hx hy
    · have q1 : a2 = a := (n_eq (by omega) (by omega)).mp (d1.symm.trans e1)
      have q2 : x2 = x := (n_eq (by omega) (by omega)).mp (d2.symm.trans e2)
      have q3 : y2 = y := (n_eq (by omega) (by omega)).mp (d3.symm.trans e3)
      rw [q1, q2, q3] at g2
      have fr2 := fr_X11_row v1 v2 v3 M1 _ f2
      exact ⟨_, M1, M2, f1, f2, (show IV np nm wo wi lo ct d k wh nu be af t tp lw n ro nb kd rn tr (upN ty a x) (upN nn a y) (zeE el a) _ from ⟨h.o1, h.o2, h.o3, h.o4, h.o5, h.o6, h.o7, h.o8.row hx hy, grp_CF.kp r1 fr2 (by decide) (grp_CF.kp h.r fr1 (by decide) h.c1), grp_MF.kp r1 fr2 (by decide) (grp_MF.kp h.r fr1 (by decide) h.m1), grp_CC.kp r1 fr2 (by decide) (grp_CC.kp h.r fr1 (by decide) h.c2), grp_MC.kp r1 fr2 (by decide) (grp_MC.kp h.r fr1 (by decide) h.m2), grp_CT.kp r1 fr2 (by decide) (grp_CT.kp h.r fr1 (by decide) h.c3), grp_MT.kp r1 fr2 (by decide) (grp_MT.kp h.r fr1 (by decide) h.m3), grp_CW.kp r1 fr2 (by decide) (grp_CW.kp h.r fr1 (by decide) h.c4), grp_MW.kp r1 fr2 (by decide) (grp_MW.kp h.r fr1 (by decide) h.m4), grp_CU.kp r1 fr2 (by decide) (grp_CU.kp h.r fr1 (by decide) h.c5), grp_MU.kp r1 fr2 (by decide) (grp_MU.kp h.r fr1 (by decide) h.m5), grp_CB.kp r1 fr2 (by decide) (grp_CB.kp h.r fr1 (by decide) h.c6), grp_MB.kp r1 fr2 (by decide) (grp_MB.kp h.r fr1 (by decide) h.m6), grp_CR.kp r1 fr2 (by decide) (grp_CR.kp h.r fr1 (by decide) h.c7), grp_MR.kp r1 fr2 (by decide) (grp_MR.kp h.r fr1 (by decide) h.m7), grp_CS.kp r1 fr2 (by decide) g1, g2, grp_Z32.kp r1 fr2 (by decide) (grp_Z32.kp h.r fr1 (by decide) h.z), grp_SI.kp r1 fr2 (by decide) (grp_SI.kp h.r fr1 (by decide) h.si), okR_of r1 (fr2 r1.c).1⟩).inv⟩
theorem OKS.put (h : OKS nb ty nn el) {a i : Nat} {v : Int64} : OKS nb ty nn (upE el a i (narV (ty a) v)) := fun c hc => by
  obtain ⟨a1, a2, a3, a4⟩ := h c hc
  refine ⟨a1, a2, a3, fun q j hj => ?_⟩
  have e3 : upE el a i (narV (ty a) v) c j = if c = a ∧ j = i then narV (ty a) v else el c j := rfl
  rw [e3]
  by_cases e : c = a ∧ j = i
  · rw [if_pos e, ← e.1, q]
    have e4 : narV 0 v = v.toInt32.toInt8.toInt32.toInt64 := rfl
    rw [e4, Int32.toInt_toInt64, Int8.toInt_toInt32]
    exact ⟨Int8.le_toInt _, Int8.toInt_lt _⟩
  · rw [if_neg e]; exact a4 q j hj
theorem refV_0 {a i : Nat} (ha : a < 6) (ht : ty a ≤ 4) (hi : i < nn a) (hn : nn a ≤ 60) : refV ty nn (nI a) (nI i) = 0 := by
  unfold refV
  have h1 : inN 6 (nI a) = true := by rw [inN_n (by omega)]; exact decide_eq_true ha
  have h2 : inN (nn a) (nI i) = true := by rw [inN_n (by omega)]; exact decide_eq_true hi
  rw [if_pos h1, n_clamp (by omega), if_neg (by omega), if_neg (by omega), if_pos h2]
theorem p_put (h : IV np nm wo wi lo ct d k wh nu be af t tp lw n ro nb kd rn tr ty nn el M) (v1 : Int32) (v2 : Int32) (v3 : Int64) : ∃ a M1 M2, f_X10_put v1 v2 v3 M = some (a, M1) ∧ f_X11_put v1 v2 v3 M1 = some (a, M2) ∧ Inv M2 := by
  rcases cl_put h.c8 h.o8 v1 v2 v3 with ⟨e, f1⟩ | ⟨a, x, M1, ha, ht, hx, e1, e2, f1, g1⟩
  · rcases mo_put h.m8 h.o8 h.o6.1 v1 v2 v3 with ⟨-, f2⟩ | ⟨a, x, M2, ha, ht, hx, e1, e2, -, -⟩
    · exact ⟨_, M, M, f1, f2, h.inv⟩
    · exfalso; apply e; rw [e1, e2]; exact refV_0 ha ht hx ((h.o8 a ha).2.2.1 ht)
  · have fr1 := fr_X10_put v1 v2 v3 M _ f1
    have r1 : okR M1 := okR_of h.r (fr1 h.r.c).1
    have h60 := (h.o8 a ha).2.2.1 ht
    rcases mo_put (grp_MS.kp h.r fr1 (by decide) h.m8) h.o8 h.o6.1 v1 v2 v3 with ⟨e, f2⟩ | ⟨a2, x2, M2, ha2, ht2, hx2, d1, d2, f2, g2⟩
    · exfalso; apply e; rw [e1, e2]; exact refV_0 ha ht hx h60
    · have h602 := (h.o8 a2 ha2).2.2.1 ht2
      have q1 : a2 = a := (n_eq (by omega) (by omega)).mp (d1.symm.trans e1)
      have q2 : x2 = x := (n_eq (by omega) (by omega)).mp (d2.symm.trans e2)
      rw [q1, q2] at g2
      have fr2 := fr_X11_put v1 v2 v3 M1 _ f2
      exact ⟨_, M1, M2, f1, f2, (show IV np nm wo wi lo ct d k wh nu be af t tp lw n ro nb kd rn tr ty nn (upE el a x (narV (ty a) v3)) _ from ⟨h.o1, h.o2, h.o3, h.o4, h.o5, h.o6, h.o7, h.o8.put, grp_CF.kp r1 fr2 (by decide) (grp_CF.kp h.r fr1 (by decide) h.c1), grp_MF.kp r1 fr2 (by decide) (grp_MF.kp h.r fr1 (by decide) h.m1), grp_CC.kp r1 fr2 (by decide) (grp_CC.kp h.r fr1 (by decide) h.c2), grp_MC.kp r1 fr2 (by decide) (grp_MC.kp h.r fr1 (by decide) h.m2), grp_CT.kp r1 fr2 (by decide) (grp_CT.kp h.r fr1 (by decide) h.c3), grp_MT.kp r1 fr2 (by decide) (grp_MT.kp h.r fr1 (by decide) h.m3), grp_CW.kp r1 fr2 (by decide) (grp_CW.kp h.r fr1 (by decide) h.c4), grp_MW.kp r1 fr2 (by decide) (grp_MW.kp h.r fr1 (by decide) h.m4), grp_CU.kp r1 fr2 (by decide) (grp_CU.kp h.r fr1 (by decide) h.c5), grp_MU.kp r1 fr2 (by decide) (grp_MU.kp h.r fr1 (by decide) h.m5), grp_CB.kp r1 fr2 (by decide) (grp_CB.kp h.r fr1 (by decide) h.c6), grp_MB.kp r1 fr2 (by decide) (grp_MB.kp h.r fr1 (by decide) h.m6), grp_CR.kp r1 fr2 (by decide) (grp_CR.kp h.r fr1 (by decide) h.c7), grp_MR.kp r1 fr2 (by decide) (grp_MR.kp h.r fr1 (by decide) h.m7), grp_CS.kp r1 fr2 (by decide) g1, g2, grp_Z32.kp r1 fr2 (by decide) (grp_Z32.kp h.r fr1 (by decide) h.z), grp_SI.kp r1 fr2 (by decide) (grp_SI.kp h.r fr1 (by decide) h.si), okR_of r1 (fr2 r1.c).1⟩).inv⟩
end STY
