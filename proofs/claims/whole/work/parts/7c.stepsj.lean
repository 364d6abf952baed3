/-! the calls that change something -/
section STD
variable {np : Nat} {nm : Nat} {wo : Nat → Nat} {wi : Nat → Nat} {lo : Nat → Nat} {ct : Nat → Nat} {d : Nat} {k : Nat} {wh : Nat → Nat} {nu : Nat → Nat} {be : Nat → Nat} {af : Nat → Nat} {t : Nat} {tp : Nat → Nat} {lw : LwO} {n : Nat} {ro : Nat → Nat} {nb : Nat} {kd : Nat → Nat} {rn : Nat} {tr : Nat → Nat} {ty : Nat → Nat} {nn : Nat → Nat} {el : Nat → Nat → Int64} {M M1 : Mem} {l : List (Nat × Nat)}
theorem OKC.add (h : OKC np nm d k wh nu be af) {a b x y : Nat} (hx : (a = 0 ∧ b < np ∧ x ≤ 99 ∧ y ≤ 99) ∨ (a = 1 ∧ b < nm ∧ x ≤ 1 ∧ y ≤ 1)) : OKC np nm (cd d + 1) (cd d + 1) (upN (cs d wh) (cd d) a) (upN (cs d nu) (cd d) b) (upN (cs d be) (cd d) x) (upN (cs d af) (cd d) y) := by
  obtain ⟨h1, h2, h3⟩ := h
  have up : ∀ (f : Nat → Nat) (z j : Nat), upN f (cd d) z j = if j = cd d then z else f j := fun _ _ _ => rfl
  refine ⟨Nat.le_refl _, by unfold cd; split <;> omega, fun j hj => ?_⟩
  rw [up, up, up, up]
  by_cases e : j = cd d
  · rw [if_pos e, if_pos e, if_pos e, if_pos e]; exact hx
  · rw [if_neg e, if_neg e, if_neg e, if_neg e]
    unfold cd at hj e
    unfold cs
    by_cases c : d < 40
    · rw [if_pos c] at hj e
      simp only [c, if_true]
      exact h3 j (by omega)
    · rw [if_neg c] at hj e
      simp only [c, if_false]
      exact h3 (j + 1) (by omega)
theorem OKF.upw (hO : OKF np nm wo wi lo ct) {j x : Nat} (hx : x ≤ 99) : OKF np nm (upN wo j x) wi lo ct := ⟨hO.1, hO.2.1, fun p hp => by
  have e : upN wo j x p = if p = j then x else wo p := rfl
  have := hO.2.2.1 p hp
  rw [e]; split <;> omega, hO.2.2.2⟩
theorem OKF.upc (hO : OKF np nm wo wi lo ct) {j x : Nat} (hx : x ≤ 1) : OKF np nm wo wi lo (upN ct j x) := ⟨hO.1, hO.2.1, hO.2.2.1, fun p hp => ⟨(hO.2.2.2 p hp).1, (hO.2.2.2 p hp).2.1, (hO.2.2.2 p hp).2.2.1, by
  have e : upN ct j x p = if p = j then x else ct p := rfl
  have := (hO.2.2.2 p hp).2.2.2
  rw [e]; split <;> omega⟩⟩
theorem p_mend (h : IV np nm wo wi lo ct d k wh nu be af t tp lw n ro nb kd rn tr ty nn el M) (v1 : Int32) (v2 : Int32) (v3 : Int32) : ∃ a M1 M2, f_X10_mend v1 v2 v3 M = some (a, M1) ∧ f_X11_mend v1 v2 v3 M1 = some (a, M2) ∧ Inv M2 := by
  by_cases q : okMend np nm v1 v2 v3 = true
  · unfold okMend at q
    simp only [Bool.or_eq_true, Bool.and_eq_true, decide_eq_true_eq] at q
    rcases q with ⟨⟨e2, q1⟩, q3⟩ | ⟨⟨e2, q1⟩, q3⟩
    · obtain ⟨j, hj, -, e1⟩ := inN_t q1
      obtain ⟨x, hx, -, e3⟩ := inN_t q3
      subst e1 e2 e3
      by_cases c : wo j = x
      · subst c
        exact ⟨_, M, M, cl_mend_w0 h.c1 h.o1 hj, mo_mend_w0 h.m1 h.o1 hj, h.inv⟩
      · obtain ⟨M1, f1, g1, g2⟩ := cl_mend_w h.r h.c1 h.o1 h.c2 h.o2 hj (show x ≤ 99 by omega) c
        have fr1 := fr_X10_mend (nI j) 0 (nI x) M _ f1
        have r1 : okR M1 := okR_of h.r (fr1 h.r.c).1
        obtain ⟨M2, f2, g3, g4⟩ := mo_mend_w r1 (grp_MF.kp h.r fr1 (by decide) h.m1) h.o1 (grp_MC.kp h.r fr1 (by decide) h.m2) h.o2 hj (show x ≤ 99 by omega) c
        have fr2 := fr_X11_mend (nI j) 0 (nI x) M1 _ f2
        have o2 := h.o2.add (a := 0) (b := j) (x := wo j) (y := x) (Or.inl ⟨rfl, hj, h.o1.2.2.1 j hj, by omega⟩)
        exact ⟨_, M1, M2, f1, f2, (show IV np nm (upN wo j x) wi lo ct (cd d + 1) (cd d + 1) (upN (cs d wh) (cd d) 0) (upN (cs d nu) (cd d) j) (upN (cs d be) (cd d) (wo j)) (upN (cs d af) (cd d) x) t tp lw n ro nb kd rn tr ty nn el _ from ⟨h.o1.upw (by omega), o2, h.o3, h.o4, h.o5, h.o6, h.o7, h.o8, grp_CF.kp r1 fr2 (by decide) g1, g3, grp_CC.kp r1 fr2 (by decide) g2, g4, grp_CT.kp r1 fr2 (by decide) (grp_CT.kp h.r fr1 (by decide) h.c3), grp_MT.kp r1 fr2 (by decide) (grp_MT.kp h.r fr1 (by decide) h.m3), grp_CW.kp r1 fr2 (by decide) (grp_CW.kp h.r fr1 (by decide) h.c4), grp_MW.kp r1 fr2 (by decide) (grp_MW.kp h.r fr1 (by decide) h.m4), grp_CU.kp r1 fr2 (by decide) (grp_CU.kp h.r fr1 (by decide) h.c5), grp_MU.kp r1 fr2 (by decide) (grp_MU.kp h.r fr1 (by decide) h.m5), grp_CB.kp r1 fr2 (by decide) (grp_CB.kp h.r fr1 (by decide) h.c6), grp_MB.kp r1 fr2 (by decide) (grp_MB.kp h.r fr1 (by decide) h.m6), grp_CR.kp r1 fr2 (by decide) (grp_CR.kp h.r fr1 (by decide) h.c7), grp_MR.kp r1 fr2 (by decide) (grp_MR.kp h.r fr1 (by decide) h.m7), grp_CS.kp r1 fr2 (by decide) (grp_CS.kp h.r fr1 (by decide) h.c8), grp_MS.kp r1 fr2 (by decide) (grp_MS.kp h.r fr1 (by decide) h.m8), grp_Z32.kp r1 fr2 (by decide) (grp_Z32.kp h.r fr1 (by decide) h.z), grp_SI.kp r1 fr2 (by decide) (grp_SI.kp h.r fr1 (by decide) h.si), okR_of r1 (fr2 r1.c).1⟩).inv⟩
    · obtain ⟨j, hj, -, e1⟩ := inN_t q1
      obtain ⟨x, hx, -, e3⟩ := inN_t q3
      subst e1 e2 e3
      by_cases c : ct j = x
      · subst c
        exact ⟨_, M, M, cl_mend_c0 h.c1 h.o1 hj, mo_mend_c0 h.m1 h.o1 hj, h.inv⟩
      · obtain ⟨M1, f1, g1, g2⟩ := cl_mend_c h.r h.c1 h.o1 h.c2 h.o2 hj (show x ≤ 1 by omega) c
        have fr1 := fr_X10_mend (nI j) 1 (nI x) M _ f1
        have r1 : okR M1 := okR_of h.r (fr1 h.r.c).1
        obtain ⟨M2, f2, g3, g4⟩ := mo_mend_c r1 (grp_MF.kp h.r fr1 (by decide) h.m1) h.o1 (grp_MC.kp h.r fr1 (by decide) h.m2) h.o2 hj (show x ≤ 1 by omega) c
        have fr2 := fr_X11_mend (nI j) 1 (nI x) M1 _ f2
        have o2 := h.o2.add (a := 1) (b := j) (x := ct j) (y := x) (Or.inr ⟨rfl, hj, (h.o1.2.2.2 j hj).2.2.2, by omega⟩)
        exact ⟨_, M1, M2, f1, f2, (show IV np nm wo wi lo (upN ct j x) (cd d + 1) (cd d + 1) (upN (cs d wh) (cd d) 1) (upN (cs d nu) (cd d) j) (upN (cs d be) (cd d) (ct j)) (upN (cs d af) (cd d) x) t tp lw n ro nb kd rn tr ty nn el _ from ⟨h.o1.upc (by omega), o2, h.o3, h.o4, h.o5, h.o6, h.o7, h.o8, grp_CF.kp r1 fr2 (by decide) g1, g3, grp_CC.kp r1 fr2 (by decide) g2, g4, grp_CT.kp r1 fr2 (by decide) (grp_CT.kp h.r fr1 (by decide) h.c3), grp_MT.kp r1 fr2 (by decide) (grp_MT.kp h.r fr1 (by decide) h.m3), grp_CW.kp r1 fr2 (by decide) (grp_CW.kp h.r fr1 (by decide) h.c4), grp_MW.kp r1 fr2 (by decide) (grp_MW.kp h.r fr1 (by decide) h.m4), grp_CU.kp r1 fr2 (by decide) (grp_CU.kp h.r fr1 (by decide) h.c5), grp_MU.kp r1 fr2 (by decide) (grp_MU.kp h.r fr1 (by decide) h.m5), grp_CB.kp r1 fr2 (by decide) (grp_CB.kp h.r fr1 (by decide) h.c6), grp_MB.kp r1 fr2 (by decide) (grp_MB.kp h.r fr1 (by decide) h.m6), grp_CR.kp r1 fr2 (by decide) (grp_CR.kp h.r fr1 (by decide) h.c7), grp_MR.kp r1 fr2 (by decide) (grp_MR.kp h.r fr1 (by decide) h.m7), grp_CS.kp r1 fr2 (by decide) (grp_CS.kp h.r fr1 (by decide) h.c8), grp_MS.kp r1 fr2 (by decide) (grp_MS.kp h.r fr1 (by decide) h.m8), grp_Z32.kp r1 fr2 (by decide) (grp_Z32.kp h.r fr1 (by decide) h.z), grp_SI.kp r1 fr2 (by decide) (grp_SI.kp h.r fr1 (by decide) h.si), okR_of r1 (fr2 r1.c).1⟩).inv⟩
  · have q2 : okMend np nm v1 v2 v3 = false := by simpa using q
    exact ⟨_, M, M, cl_mend_bad h.c1 h.o1 q2, mo_mend_bad h.m1 h.o1 q2, h.inv⟩
end STD
