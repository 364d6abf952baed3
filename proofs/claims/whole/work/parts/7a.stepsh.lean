/-! the calls that change something -/
section STB
variable {np : Nat} {nm : Nat} {wo : Nat → Nat} {wi : Nat → Nat} {lo : Nat → Nat} {ct : Nat → Nat} {d : Nat} {k : Nat} {wh : Nat → Nat} {nu : Nat → Nat} {be : Nat → Nat} {af : Nat → Nat} {t : Nat} {tp : Nat → Nat} {lw : LwO} {n : Nat} {ro : Nat → Nat} {nb : Nat} {kd : Nat → Nat} {rn : Nat} {tr : Nat → Nat} {ty : Nat → Nat} {nn : Nat → Nat} {el : Nat → Nat → Int64} {M M1 : Mem} {l : List (Nat × Nat)}
theorem p_shift (h : IV np nm wo wi lo ct d k wh nu be af t tp lw n ro nb kd rn tr ty nn el M) (v1 : Int32) (v2 : Int32) (v3 : Int32) (v4 : Int32) (v5 : Int32) : ∃ a M1 M2, f_X10_shift v1 v2 v3 v4 v5 M = some (a, M1) ∧ f_X11_shift v1 v2 v3 v4 v5 M1 = some (a, M2) ∧ Inv M2 := by
  have sh : ∀ {a e i j m : Nat}, a < 6 → e < 6 → ty a ≤ 4 → ty a = ty e → i + m ≤ nn a → j + m ≤ nn e → i < 1000 ∧ j < 1000 ∧ m < 1000 ∧ shOK ty nn a e (nI i) (nI j) (nI m) := fun {a e i j m} ha he ht hte h1 h2 => by
    have b1 := (h.o8 a ha).2.2.1 ht
    have b2 := (h.o8 e he).2.2.1 (by omega)
    refine ⟨by omega, by omega, by omega, ?_⟩
    unfold shOK
    rw [n_toInt (by omega), n_toInt (by omega), n_toInt (by omega)]
    omega
  rcases cl_shift h.c8 h.o8 v1 v2 v3 v4 v5 with ⟨f1, e⟩ | ⟨a, e, i, j, m, M1, ha, he, ht, hte, e1, e3, e2, e4, e5, l1, l2, f1, g1⟩
  · rcases mo_shift h.m8 h.o8 h.o6.1 v1 v2 v3 v4 v5 with ⟨f2, -⟩ | ⟨a, b, i, j, m, M2, ha, hb, ht, hte, e1, e3, e2, e4, e5, l1, l2, -, -⟩
    · exact ⟨_, M, M, f1, f2, h.inv⟩
    · exfalso
      exact e ⟨a, b, ha, hb, e1, e3, ht, hte, by rw [e2, e4, e5]; exact (sh ha hb ht hte l1 l2).2.2.2⟩
  · have fr1 := fr_X10_shift v1 v2 v3 v4 v5 M _ f1
    have r1 : okR M1 := okR_of h.r (fr1 h.r.c).1
    obtain ⟨b1, b2, b3, b4⟩ := sh ha he ht hte l1 l2
    rcases mo_shift (grp_MS.kp h.r fr1 (by decide) h.m8) h.o8 h.o6.1 v1 v2 v3 v4 v5 with ⟨f2, x⟩ | ⟨a', e', i', j', m', M2, ha', he', ht', hte', d1, d3, d2, d4, d5, k1, k2, f2, g2⟩
    · exfalso
      exact x ⟨a, e, ha, he, e1, e3, ht, hte, by rw [e2, e4, e5]; exact b4⟩
    · obtain ⟨c1, c2, c3, -⟩ := sh ha' he' ht' hte' k1 k2
      have q1 : a' = a := (n_eq (by omega) (by omega)).mp (d1.symm.trans e1)
      have q2 : e' = e := (n_eq (by omega) (by omega)).mp (d3.symm.trans e3)
      have q3 : i' = i := (n_eq (by omega) (by omega)).mp (d2.symm.trans e2)
      have q4 : j' = j := (n_eq (by omega) (by omega)).mp (d4.symm.trans e4)
      have q5 : m' = m := (n_eq (by omega) (by omega)).mp (d5.symm.trans e5)
      rw [q1, q2, q3, q4, q5] at g2
      rw [q5] at f2
      have fr2 := fr_X11_shift v1 v2 v3 v4 v5 M1 _ f2
      have o8 : OKS nb ty nn (mvE el a i e j m) := fun c hc => by
        obtain ⟨z1, z2, z3, z4⟩ := h.o8 c hc
        refine ⟨z1, z2, z3, fun hz y hy => ?_⟩
        unfold mvE
        split
        · next hh => exact (h.o8 a ha).2.2.2 (by have := hh.1; subst this; omega) _ (by omega)
        · exact z4 hz y hy
      exact ⟨_, M1, M2, f1, f2, (show IV np nm wo wi lo ct d k wh nu be af t tp lw n ro nb kd rn tr ty nn (mvE el a i e j m) _ from ⟨h.o1, h.o2, h.o3, h.o4, h.o5, h.o6, h.o7, o8, grp_CF.kp r1 fr2 (by decide) (grp_CF.kp h.r fr1 (by decide) h.c1), grp_MF.kp r1 fr2 (by decide) (grp_MF.kp h.r fr1 (by decide) h.m1), grp_CC.kp r1 fr2 (by decide) (grp_CC.kp h.r fr1 (by decide) h.c2), grp_MC.kp r1 fr2 (by decide) (grp_MC.kp h.r fr1 (by decide) h.m2), grp_CT.kp r1 fr2 (by decide) (grp_CT.kp h.r fr1 (by decide) h.c3), grp_MT.kp r1 fr2 (by decide) (grp_MT.kp h.r fr1 (by decide) h.m3), grp_CW.kp r1 fr2 (by decide) (grp_CW.kp h.r fr1 (by decide) h.c4), grp_MW.kp r1 fr2 (by decide) (grp_MW.kp h.r fr1 (by decide) h.m4), grp_CU.kp r1 fr2 (by decide) (grp_CU.kp h.r fr1 (by decide) h.c5), grp_MU.kp r1 fr2 (by decide) (grp_MU.kp h.r fr1 (by decide) h.m5), grp_CB.kp r1 fr2 (by decide) (grp_CB.kp h.r fr1 (by decide) h.c6), grp_MB.kp r1 fr2 (by decide) (grp_MB.kp h.r fr1 (by decide) h.m6), grp_CR.kp r1 fr2 (by decide) (grp_CR.kp h.r fr1 (by decide) h.c7), grp_MR.kp r1 fr2 (by decide) (grp_MR.kp h.r fr1 (by decide) h.m7), grp_CS.kp r1 fr2 (by decide) g1, g2, grp_Z32.kp r1 fr2 (by decide) (grp_Z32.kp h.r fr1 (by decide) h.z), grp_SI.kp r1 fr2 (by decide) (grp_SI.kp h.r fr1 (by decide) h.si), okR_of r1 (fr2 r1.c).1⟩).inv⟩
end STB
