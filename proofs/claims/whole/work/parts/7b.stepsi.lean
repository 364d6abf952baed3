/-! the calls that change something -/
section STC
variable {np : Nat} {nm : Nat} {wo : Nat → Nat} {wi : Nat → Nat} {lo : Nat → Nat} {ct : Nat → Nat} {d : Nat} {k : Nat} {wh : Nat → Nat} {nu : Nat → Nat} {be : Nat → Nat} {af : Nat → Nat} {t : Nat} {tp : Nat → Nat} {lw : LwO} {n : Nat} {ro : Nat → Nat} {nb : Nat} {kd : Nat → Nat} {rn : Nat} {tr : Nat → Nat} {ty : Nat → Nat} {nn : Nat → Nat} {el : Nat → Nat → Int64} {M M1 : Mem} {l : List (Nat × Nat)}
theorem p_matches (h : IV np nm wo wi lo ct d k wh nu be af t tp lw n ro nb kd rn tr ty nn el M) (v1 : Int32) (v2 : Int32) (v3 : Int32) : ∃ a M1 M2, f_X10_matches v1 v2 v3 M = some (a, M1) ∧ f_X11_matches v1 v2 v3 M1 = some (a, M2) ∧ Inv M2 := by
  by_cases q : mtB ty v1 v3 = true
  · unfold mtB at q
    simp only [Bool.and_eq_true, Bool.or_eq_true, decide_eq_true_eq] at q
    obtain ⟨⟨q1, q2⟩, q3⟩ := q
    obtain ⟨a, ha, ha2, e1⟩ := inN_t q1
    have e3 : v3 = nI v3.toInt.toNat := n_of (by omega)
    have hN : 1 ≤ v3.toInt.toNat ∧ v3.toInt.toNat ≤ 12 := by omega
    generalize v3.toInt.toNat = N at e3 hN
    rw [e1, n_clamp ha2] at q3
    subst e1 e3
    obtain ⟨r, nm2, wi2, lo2, ct2, M1, t1, -, le, f1, g1, o1, g2⟩ := cl_matches h.c1 h.o1 h.c8 h.o8 ha q3 hN.1 hN.2 v2
    have fr1 := fr_X10_matches (nI a) v2 (nI N) M _ f1
    have r1 : okR M1 := okR_of h.r (fr1 h.r.c).1
    obtain ⟨r', nm3, wi3, lo3, ct3, M2, t2, f2, g3, g4⟩ := mo_matches (grp_MF.kp h.r fr1 (by decide) h.m1) h.o1 (grp_MS.kp h.r fr1 (by decide) h.m8) h.o8 ha q3 hN.1 hN.2 v2
    rw [t1] at t2
    injection t2 with u1 u2
    injection u2 with u2 u3
    injection u3 with u3 u4
    injection u4 with u4 u5
    subst u1 u2 u3 u4 u5
    have fr2 := fr_X11_matches (nI a) v2 (nI N) M1 _ f2
    have o2 : OKC np nm2 d k wh nu be af := ⟨h.o2.1, h.o2.2.1, fun j hj => (h.o2.2.2 j hj).elim Or.inl (fun a => Or.inr ⟨a.1, by omega, a.2.2⟩)⟩
    exact ⟨_, M1, M2, f1, f2, (show IV np nm2 wo wi2 lo2 ct2 d k wh nu be af t tp lw n ro nb kd rn tr ty nn el _ from ⟨o1, o2, h.o3, h.o4, h.o5, h.o6, h.o7, h.o8, grp_CF.kp r1 fr2 (by decide) g1, g3, grp_CC.kp r1 fr2 (by decide) (grp_CC.kp h.r fr1 (by decide) h.c2), grp_MC.kp r1 fr2 (by decide) (grp_MC.kp h.r fr1 (by decide) h.m2), grp_CT.kp r1 fr2 (by decide) (grp_CT.kp h.r fr1 (by decide) h.c3), grp_MT.kp r1 fr2 (by decide) (grp_MT.kp h.r fr1 (by decide) h.m3), grp_CW.kp r1 fr2 (by decide) (grp_CW.kp h.r fr1 (by decide) h.c4), grp_MW.kp r1 fr2 (by decide) (grp_MW.kp h.r fr1 (by decide) h.m4), grp_CU.kp r1 fr2 (by decide) (grp_CU.kp h.r fr1 (by decide) h.c5), grp_MU.kp r1 fr2 (by decide) (grp_MU.kp h.r fr1 (by decide) h.m5), grp_CB.kp r1 fr2 (by decide) (grp_CB.kp h.r fr1 (by decide) h.c6), grp_MB.kp r1 fr2 (by decide) (grp_MB.kp h.r fr1 (by decide) h.m6), grp_CR.kp r1 fr2 (by decide) (grp_CR.kp h.r fr1 (by decide) h.c7), grp_MR.kp r1 fr2 (by decide) (grp_MR.kp h.r fr1 (by decide) h.m7), grp_CS.kp r1 fr2 (by decide) (grp_CS.kp h.r fr1 (by decide) h.c8), grp_MS.kp r1 fr2 (by decide) (grp_MS.kp h.r fr1 (by decide) h.m8), grp_Z32.kp r1 fr2 (by decide) (grp_Z32.kp h.r fr1 (by decide) h.z), grp_SI.kp r1 fr2 (by decide) (grp_SI.kp h.r fr1 (by decide) h.si), okR_of r1 (fr2 r1.c).1⟩).inv⟩
  · have q2 : mtB ty v1 v3 = false := by simpa using q
    exact ⟨_, M, M, cl_matches_bad h.c8 h.o8 q2, mo_matches_bad h.m8 h.o8 h.o6.1 q2, h.inv⟩
end STC
