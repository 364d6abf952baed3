/-! the calls that change something -/
section STV
variable {np : Nat} {nm : Nat} {wo : Nat → Nat} {wi : Nat → Nat} {lo : Nat → Nat} {ct : Nat → Nat} {d : Nat} {k : Nat} {wh : Nat → Nat} {nu : Nat → Nat} {be : Nat → Nat} {af : Nat → Nat} {t : Nat} {tp : Nat → Nat} {lw : LwO} {n : Nat} {ro : Nat → Nat} {nb : Nat} {kd : Nat → Nat} {rn : Nat} {tr : Nat → Nat} {ty : Nat → Nat} {nn : Nat → Nat} {el : Nat → Nat → Int64} {M M1 : Mem} {l : List (Nat × Nat)}
theorem p_feed (h : IV np nm wo wi lo ct d k wh nu be af t tp lw n ro nb kd rn tr ty nn el M) (v1 : Int32) : ∃ a M1 M2, f_X10_feed v1 M = some (a, M1) ∧ f_X11_feed v1 M1 = some (a, M2) ∧ Inv M2 := by
  have ht := h.o3.1
  by_cases q : inN 256 v1 = true
  · obtain ⟨x, hx, hx2, rfl⟩ := inN_t q
    by_cases c : t < 120
    · have o3 : OKT (t + 1) (upN tp t x) := ⟨by omega, fun j hj => by
        unfold upN
        by_cases e : j = t
        · rw [if_pos e]; omega
        · rw [if_neg e]; exact h.o3.2 j (by omega)⟩
      obtain ⟨M1, f1, g1⟩ := cl_feed h.c3 c (show x ≤ 255 by omega)
      have fr1 := fr_X10_feed (nI x) M _ f1
      have r1 : okR M1 := okR_of h.r (fr1 h.r.c).1
      obtain ⟨M2, f2, g2⟩ := mo_feed (grp_MT.kp h.r fr1 (by decide) h.m3) c (show x ≤ 255 by omega)
      have fr2 := fr_X11_feed (nI x) M1 _ f2
      exact ⟨_, M1, M2, f1, f2, (show IV np nm wo wi lo ct d k wh nu be af (t + 1) (upN tp t x) lw n ro nb kd rn tr ty nn el _ from ⟨h.o1, h.o2, o3, h.o4, h.o5, h.o6, h.o7, h.o8, grp_CF.kp r1 fr2 (by decide) (grp_CF.kp h.r fr1 (by decide) h.c1), grp_MF.kp r1 fr2 (by decide) (grp_MF.kp h.r fr1 (by decide) h.m1), grp_CC.kp r1 fr2 (by decide) (grp_CC.kp h.r fr1 (by decide) h.c2), grp_MC.kp r1 fr2 (by decide) (grp_MC.kp h.r fr1 (by decide) h.m2), grp_CT.kp r1 fr2 (by decide) g1, g2, grp_CW.kp r1 fr2 (by decide) (grp_CW.kp h.r fr1 (by decide) h.c4), grp_MW.kp r1 fr2 (by decide) (grp_MW.kp h.r fr1 (by decide) h.m4), grp_CU.kp r1 fr2 (by decide) (grp_CU.kp h.r fr1 (by decide) h.c5), grp_MU.kp r1 fr2 (by decide) (grp_MU.kp h.r fr1 (by decide) h.m5), grp_CB.kp r1 fr2 (by decide) (grp_CB.kp h.r fr1 (by decide) h.c6), grp_MB.kp r1 fr2 (by decide) (grp_MB.kp h.r fr1 (by decide) h.m6), grp_CR.kp r1 fr2 (by decide) (grp_CR.kp h.r fr1 (by decide) h.c7), grp_MR.kp r1 fr2 (by decide) (grp_MR.kp h.r fr1 (by decide) h.m7), grp_CS.kp r1 fr2 (by decide) (grp_CS.kp h.r fr1 (by decide) h.c8), grp_MS.kp r1 fr2 (by decide) (grp_MS.kp h.r fr1 (by decide) h.m8), grp_Z32.kp r1 fr2 (by decide) (grp_Z32.kp h.r fr1 (by decide) h.z), grp_SI.kp r1 fr2 (by decide) (grp_SI.kp h.r fr1 (by decide) h.si), okR_of r1 (fr2 r1.c).1⟩).inv⟩
    · have e : t = 120 := by omega
      have c3 := h.c3
      have m3 := h.m3
      rw [e] at c3 m3
      exact ⟨_, M, M, cl_feed_full c3 (show x ≤ 255 by omega), mo_feed_full m3 (show x ≤ 255 by omega), h.inv⟩
  · have q2 : inN 256 v1 = false := by simpa using q
    exact ⟨_, M, M, cl_feed_bad q2, mo_feed_bad q2, h.inv⟩
end STV
