/-! the calls that change something -/
section STU
variable {np : Nat} {nm : Nat} {wo : Nat → Nat} {wi : Nat → Nat} {lo : Nat → Nat} {ct : Nat → Nat} {d : Nat} {k : Nat} {wh : Nat → Nat} {nu : Nat → Nat} {be : Nat → Nat} {af : Nat → Nat} {t : Nat} {tp : Nat → Nat} {lw : LwO} {n : Nat} {ro : Nat → Nat} {nb : Nat} {kd : Nat → Nat} {rn : Nat} {tr : Nat → Nat} {ty : Nat → Nat} {nn : Nat → Nat} {el : Nat → Nat → Int64} {M M1 : Mem} {l : List (Nat × Nat)}
theorem aAll_le : ∀ k, k < 8 → ∀ o, o < 4 → (aAll k o).length < 100000 := by decide +kernel
theorem p_cup (h : IV np nm wo wi lo ct d k wh nu be af t tp lw n ro nb kd rn tr ty nn el M) (v1 : Int32) : ∃ a M1 M2, f_X10_cup v1 M = some (a, M1) ∧ f_X11_cup v1 M1 = some (a, M2) ∧ Inv M2 := by
  obtain ⟨M1, f1, g1⟩ := cl_cup h.c5 h.o5.1 h.c1.1 h.o1.1 v1
  have fr1 := fr_X10_cup v1 M _ f1
  have r1 : okR M1 := okR_of h.r (fr1 h.r.c).1
  obtain ⟨M2, f2, g2⟩ := mo_cup (grp_MU.kp h.r fr1 (by decide) h.m5) h.o5.1 (grp_MF.kp h.r fr1 (by decide) h.m1).1 h.o1.1 v1
  have fr2 := fr_X11_cup v1 M1 _ f2
  exact ⟨_, M1, M2, f1, f2, (show IV np nm wo wi lo ct d k wh nu be af t tp lw (cupN np n ro v1) (cupR np n ro v1) nb kd rn tr ty nn el _ from ⟨h.o1, h.o2, h.o3, h.o4, h.o5.cup h.o1.1 v1, h.o6, h.o7, h.o8, grp_CF.kp r1 fr2 (by decide) (grp_CF.kp h.r fr1 (by decide) h.c1), grp_MF.kp r1 fr2 (by decide) (grp_MF.kp h.r fr1 (by decide) h.m1), grp_CC.kp r1 fr2 (by decide) (grp_CC.kp h.r fr1 (by decide) h.c2), grp_MC.kp r1 fr2 (by decide) (grp_MC.kp h.r fr1 (by decide) h.m2), grp_CT.kp r1 fr2 (by decide) (grp_CT.kp h.r fr1 (by decide) h.c3), grp_MT.kp r1 fr2 (by decide) (grp_MT.kp h.r fr1 (by decide) h.m3), grp_CW.kp r1 fr2 (by decide) (grp_CW.kp h.r fr1 (by decide) h.c4), grp_MW.kp r1 fr2 (by decide) (grp_MW.kp h.r fr1 (by decide) h.m4), grp_CU.kp r1 fr2 (by decide) g1, g2, grp_CB.kp r1 fr2 (by decide) (grp_CB.kp h.r fr1 (by decide) h.c6), grp_MB.kp r1 fr2 (by decide) (grp_MB.kp h.r fr1 (by decide) h.m6), grp_CR.kp r1 fr2 (by decide) (grp_CR.kp h.r fr1 (by decide) h.c7), grp_MR.kp r1 fr2 (by decide) (grp_MR.kp h.r fr1 (by decide) h.m7), grp_CS.kp r1 fr2 (by decide) (grp_CS.kp h.r fr1 (by decide) h.c8), grp_MS.kp r1 fr2 (by decide) (grp_MS.kp h.r fr1 (by decide) h.m8), grp_Z32.kp r1 fr2 (by decide) (grp_Z32.kp h.r fr1 (by decide) h.z), grp_SI.kp r1 fr2 (by decide) (grp_SI.kp h.r fr1 (by decide) h.si), okR_of r1 (fr2 r1.c).1⟩).inv⟩
theorem p_act (h : IV np nm wo wi lo ct d k wh nu be af t tp lw n ro nb kd rn tr ty nn el M) (v1 : Int32) (v2 : Int32) (v3 : Int32) : ∃ a M1 M2, f_X10_act v1 v2 v3 M = some (a, M1) ∧ f_X11_act v1 v2 v3 M1 = some (a, M2) ∧ Inv M2 := by
  have o7 : (aLst nb kd v1 v2).length < 100000 := by
    unfold aLst
    by_cases q : inN nb v1 = true ∧ inN 4 v2 = true
    · rw [if_pos q]
      obtain ⟨i, hi, hi2, e1⟩ := inN_t q.1
      obtain ⟨j, hj, hj2, e2⟩ := inN_t q.2
      rw [e1, e2, n_clamp hi2, n_clamp hj2]
      exact aAll_le _ (by have := h.o6.2 i hi; omega) j hj
    · rw [if_neg q]; exact Nat.zero_lt_succ _
  obtain ⟨M1, f1, g1⟩ := cl_act h.c6 h.o6 v1 v2 v3
  have fr1 := fr_X10_act v1 v2 v3 M _ f1
  have r1 : okR M1 := okR_of h.r (fr1 h.r.c).1
  obtain ⟨M2, f2, g2⟩ := mo_act (grp_MB.kp h.r fr1 (by decide) h.m6) h.o6 v1 v2 v3
  have fr2 := fr_X11_act v1 v2 v3 M1 _ f2
  exact ⟨_, M1, M2, f1, f2, (show IV np nm wo wi lo ct d k wh nu be af t tp lw n ro nb kd (aLst nb kd v1 v2).length (tAp (fun _ => 0) 0 (aLst nb kd v1 v2)) ty nn el _ from ⟨h.o1, h.o2, h.o3, h.o4, h.o5, h.o6, o7, h.o8, grp_CF.kp r1 fr2 (by decide) (grp_CF.kp h.r fr1 (by decide) h.c1), grp_MF.kp r1 fr2 (by decide) (grp_MF.kp h.r fr1 (by decide) h.m1), grp_CC.kp r1 fr2 (by decide) (grp_CC.kp h.r fr1 (by decide) h.c2), grp_MC.kp r1 fr2 (by decide) (grp_MC.kp h.r fr1 (by decide) h.m2), grp_CT.kp r1 fr2 (by decide) (grp_CT.kp h.r fr1 (by decide) h.c3), grp_MT.kp r1 fr2 (by decide) (grp_MT.kp h.r fr1 (by decide) h.m3), grp_CW.kp r1 fr2 (by decide) (grp_CW.kp h.r fr1 (by decide) h.c4), grp_MW.kp r1 fr2 (by decide) (grp_MW.kp h.r fr1 (by decide) h.m4), grp_CU.kp r1 fr2 (by decide) (grp_CU.kp h.r fr1 (by decide) h.c5), grp_MU.kp r1 fr2 (by decide) (grp_MU.kp h.r fr1 (by decide) h.m5), grp_CB.kp r1 fr2 (by decide) (grp_CB.kp h.r fr1 (by decide) h.c6), grp_MB.kp r1 fr2 (by decide) (grp_MB.kp h.r fr1 (by decide) h.m6), grp_CR.kp r1 fr2 (by decide) g1, g2, grp_CS.kp r1 fr2 (by decide) (grp_CS.kp h.r fr1 (by decide) h.c8), grp_MS.kp r1 fr2 (by decide) (grp_MS.kp h.r fr1 (by decide) h.m8), grp_Z32.kp r1 fr2 (by decide) (grp_Z32.kp h.r fr1 (by decide) h.z), grp_SI.kp r1 fr2 (by decide) (grp_SI.kp h.r fr1 (by decide) h.si), okR_of r1 (fr2 r1.c).1⟩).inv⟩
end STU
