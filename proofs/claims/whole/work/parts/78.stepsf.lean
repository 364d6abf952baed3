/-! the calls that change something -/
section STZ
variable {np : Nat} {nm : Nat} {wo : Nat → Nat} {wi : Nat → Nat} {lo : Nat → Nat} {ct : Nat → Nat} {d : Nat} {k : Nat} {wh : Nat → Nat} {nu : Nat → Nat} {be : Nat → Nat} {af : Nat → Nat} {t : Nat} {tp : Nat → Nat} {lw : LwO} {n : Nat} {ro : Nat → Nat} {nb : Nat} {kd : Nat → Nat} {rn : Nat} {tr : Nat → Nat} {ty : Nat → Nat} {nn : Nat → Nat} {el : Nat → Nat → Int64} {M M1 : Mem} {l : List (Nat × Nat)}
theorem p_body (h : IV np nm wo wi lo ct d k wh nu be af t tp lw n ro nb kd rn tr ty nn el M) (v1 : Int32) : ∃ a M1 M2, f_X10_body v1 M = some (a, M1) ∧ f_X11_body v1 M1 = some (a, M2) ∧ Inv M2 := by
  have f1 := cl_body h.c6 h.o6 v1
  have h50 := h.o6.1
  by_cases q : inN 8 v1 = true
  · by_cases c : nb < 50
    · rw [if_pos q, if_pos c] at f1
      obtain ⟨x, hx, hx2, rfl⟩ := inN_t q
      have fr1 := fr_X10_body _ M _ f1
      have r1 : okR (wI (wI M 42 nb (nI x)) 40 0 (nI (nb + 1))) := okR_of h.r (fr1 h.r.c).1
      have f2 := mo_body (grp_MB.kp h.r fr1 (by decide) h.m6) h.o6 (nI x)
      rw [if_pos q, if_pos c] at f2
      have fr2 := fr_X11_body _ _ _ f2
      have hc : CB (nb + 1) (upN kd nb x) (wI (wI M 42 nb (nI x)) 40 0 (nI (nb + 1))) := by
        obtain ⟨a1, a2⟩ := h.c6
        refine ⟨by simp [wI_rd], fun p hp => ?_⟩
        rw [ab_wI_o (by omega), wI_rd]
        unfold upN
        by_cases e : p = nb
        · rw [if_pos ⟨rfl, e⟩, if_pos e]
        · rw [if_neg (fun h => e h.2), if_neg e]; exact a2 p (by omega)
      have hm : MB (nb + 1) (upN kd nb x) (wI (wI (wI (wI M 42 nb (nI x)) 40 0 (nI (nb + 1))) 71 nb (nI x)) 47 40 (nI (nb + 1))) := by
        obtain ⟨a1, a2⟩ := h.m6
        refine ⟨by simp [wI_rd], fun p hp => ?_⟩
        rw [ab_wI_o (by omega), wI_rd]
        unfold upN
        by_cases e : p = nb
        · rw [if_pos ⟨rfl, e⟩, if_pos e]
        · rw [if_neg (fun h => e h.2), if_neg e, ab_wI_o (by omega), ab_wI_o (by omega)]; exact a2 p (by omega)
      have o6 : OKBo (nb + 1) (upN kd nb x) := ⟨by omega, fun p hp => by
        unfold upN
        by_cases e : p = nb
        · rw [if_pos e]; omega
        · rw [if_neg e]; exact h.o6.2 p (by omega)⟩
      have o8 : OKS (nb + 1) ty nn el := fun a ha => ⟨(h.o8 a ha).1, fun q => by have := (h.o8 a ha).2.1 q; omega, (h.o8 a ha).2.2⟩
      exact ⟨_, _, _, f1, f2, (show IV np nm wo wi lo ct d k wh nu be af t tp lw n ro (nb + 1) (upN kd nb x) rn tr ty nn el _ from ⟨h.o1, h.o2, h.o3, h.o4, h.o5, o6, h.o7, o8, grp_CF.kp r1 fr2 (by decide) (grp_CF.kp h.r fr1 (by decide) h.c1), grp_MF.kp r1 fr2 (by decide) (grp_MF.kp h.r fr1 (by decide) h.m1), grp_CC.kp r1 fr2 (by decide) (grp_CC.kp h.r fr1 (by decide) h.c2), grp_MC.kp r1 fr2 (by decide) (grp_MC.kp h.r fr1 (by decide) h.m2), grp_CT.kp r1 fr2 (by decide) (grp_CT.kp h.r fr1 (by decide) h.c3), grp_MT.kp r1 fr2 (by decide) (grp_MT.kp h.r fr1 (by decide) h.m3), grp_CW.kp r1 fr2 (by decide) (grp_CW.kp h.r fr1 (by decide) h.c4), grp_MW.kp r1 fr2 (by decide) (grp_MW.kp h.r fr1 (by decide) h.m4), grp_CU.kp r1 fr2 (by decide) (grp_CU.kp h.r fr1 (by decide) h.c5), grp_MU.kp r1 fr2 (by decide) (grp_MU.kp h.r fr1 (by decide) h.m5), grp_CB.kp r1 fr2 (by decide) hc, hm, grp_CR.kp r1 fr2 (by decide) (grp_CR.kp h.r fr1 (by decide) h.c7), grp_MR.kp r1 fr2 (by decide) (grp_MR.kp h.r fr1 (by decide) h.m7), grp_CS.kp r1 fr2 (by decide) (grp_CS.kp h.r fr1 (by decide) h.c8), grp_MS.kp r1 fr2 (by decide) (grp_MS.kp h.r fr1 (by decide) h.m8), grp_Z32.kp r1 fr2 (by decide) (grp_Z32.kp h.r fr1 (by decide) h.z), grp_SI.kp r1 fr2 (by decide) (grp_SI.kp h.r fr1 (by decide) h.si), okR_of r1 (fr2 r1.c).1⟩).inv⟩
    · have f2 := mo_body h.m6 h.o6 v1
      rw [if_pos q, if_neg c] at f1 f2
      exact ⟨_, _, _, f1, f2, h.inv⟩
  · have f2 := mo_body h.m6 h.o6 v1
    rw [if_neg q] at f1 f2
    exact ⟨_, _, _, f1, f2, h.inv⟩
theorem OKS.keep (h : OKS nb ty nn el) {a x y : Nat} (hx : (x = 6 ∧ y = nn a) ∨ (x = 5 ∧ y < nb)) : OKS nb (upN ty a x) (upN nn a y) el := fun c hc => by
  obtain ⟨a1, a2, a3, a4⟩ := h c hc
  have e1 : upN ty a x c = if c = a then x else ty c := rfl
  have e2 : upN nn a y c = if c = a then y else nn c := rfl
  rw [e1, e2]
  by_cases e : c = a
  · rw [if_pos e, if_pos e]
    exact ⟨by omega, fun q => by omega, fun q => by omega, fun q => by omega⟩
  · rw [if_neg e, if_neg e]; exact ⟨a1, a2, a3, a4⟩
theorem upN_self (f : Nat → Nat) (a : Nat) : upN f a (f a) = f := funext fun j => by
  unfold upN
  by_cases e : j = a
  · rw [if_pos e, e]
  · rw [if_neg e]
theorem p_keep (h : IV np nm wo wi lo ct d k wh nu be af t tp lw n ro nb kd rn tr ty nn el M) (v1 : Int32) (v2 : Int32) : ∃ a M1 M2, f_X10_keep v1 v2 M = some (a, M1) ∧ f_X11_keep v1 v2 M1 = some (a, M2) ∧ Inv M2 := by
  have x1 := cl_keep_x h.c6 h.o6 v1 v2
  have h50 := h.o6.1
  by_cases q : okKeep nb v1 v2 = true
  · rw [if_pos q] at x1
    unfold okKeep at q
    rw [Bool.and_eq_true, Bool.or_eq_true, decide_eq_true_eq] at q
    obtain ⟨a, ha, ha2, e1⟩ := inN_t q.1
    have q' : okKeep nb v1 v2 = true := by unfold okKeep; rw [Bool.and_eq_true, Bool.or_eq_true, decide_eq_true_eq]; exact q
    rcases q.2 with e2 | q2
    · obtain ⟨M1, f1, g1⟩ := cl_keep0 h.c8 ha
      rw [← e1, ← e2, ← x1] at f1
      have fr1 := fr_X10_keep v1 v2 M _ f1
      have r1 : okR M1 := okR_of h.r (fr1 h.r.c).1
      have x2 := mo_keep_x (grp_MB.kp h.r fr1 (by decide) h.m6) h.o6 v1 v2
      rw [if_pos q'] at x2
      obtain ⟨M2, f2, g2⟩ := mo_keep0 (grp_MS.kp h.r fr1 (by decide) h.m8) ha
      rw [← e1, ← e2, ← x2] at f2
      have fr2 := fr_X11_keep v1 v2 M1 _ f2
      have o8 := h.o8.keep (a := a) (x := 6) (y := nn a) (Or.inl ⟨rfl, rfl⟩)
      rw [upN_self] at o8
      exact ⟨_, M1, M2, f1, f2, (show IV np nm wo wi lo ct d k wh nu be af t tp lw n ro nb kd rn tr (upN ty a 6) nn el _ from ⟨h.o1, h.o2, h.o3, h.o4, h.o5, h.o6, h.o7, o8, grp_CF.kp r1 fr2 (by decide) (grp_CF.kp h.r fr1 (by decide) h.c1), grp_MF.kp r1 fr2 (by decide) (grp_MF.kp h.r fr1 (by decide) h.m1), grp_CC.kp r1 fr2 (by decide) (grp_CC.kp h.r fr1 (by decide) h.c2), grp_MC.kp r1 fr2 (by decide) (grp_MC.kp h.r fr1 (by decide) h.m2), grp_CT.kp r1 fr2 (by decide) (grp_CT.kp h.r fr1 (by decide) h.c3), grp_MT.kp r1 fr2 (by decide) (grp_MT.kp h.r fr1 (by decide) h.m3), grp_CW.kp r1 fr2 (by decide) (grp_CW.kp h.r fr1 (by decide) h.c4), grp_MW.kp r1 fr2 (by decide) (grp_MW.kp h.r fr1 (by decide) h.m4), grp_CU.kp r1 fr2 (by decide) (grp_CU.kp h.r fr1 (by decide) h.c5), grp_MU.kp r1 fr2 (by decide) (grp_MU.kp h.r fr1 (by decide) h.m5), grp_CB.kp r1 fr2 (by decide) (grp_CB.kp h.r fr1 (by decide) h.c6), grp_MB.kp r1 fr2 (by decide) (grp_MB.kp h.r fr1 (by decide) h.m6), grp_CR.kp r1 fr2 (by decide) (grp_CR.kp h.r fr1 (by decide) h.c7), grp_MR.kp r1 fr2 (by decide) (grp_MR.kp h.r fr1 (by decide) h.m7), grp_CS.kp r1 fr2 (by decide) g1, g2, grp_Z32.kp r1 fr2 (by decide) (grp_Z32.kp h.r fr1 (by decide) h.z), grp_SI.kp r1 fr2 (by decide) (grp_SI.kp h.r fr1 (by decide) h.si), okR_of r1 (fr2 r1.c).1⟩).inv⟩
    · obtain ⟨b, hb, hb2, e2⟩ := inN_t q2
      obtain ⟨M1, f1, g1⟩ := cl_keep1 h.c8 ha (show b < 50 by omega)
      rw [← e1, ← e2, ← x1] at f1
      have fr1 := fr_X10_keep v1 v2 M _ f1
      have r1 : okR M1 := okR_of h.r (fr1 h.r.c).1
      have x2 := mo_keep_x (grp_MB.kp h.r fr1 (by decide) h.m6) h.o6 v1 v2
      rw [if_pos q'] at x2
      obtain ⟨M2, f2, g2⟩ := mo_keep1 (grp_MS.kp h.r fr1 (by decide) h.m8) ha (show b < 50 by omega)
      rw [← e1, ← e2, ← x2] at f2
      have fr2 := fr_X11_keep v1 v2 M1 _ f2
      exact ⟨_, M1, M2, f1, f2, (show IV np nm wo wi lo ct d k wh nu be af t tp lw n ro nb kd rn tr (upN ty a 5) (upN nn a b) el _ from ⟨h.o1, h.o2, h.o3, h.o4, h.o5, h.o6, h.o7, h.o8.keep (Or.inr ⟨rfl, hb⟩), grp_CF.kp r1 fr2 (by decide) (grp_CF.kp h.r fr1 (by decide) h.c1), grp_MF.kp r1 fr2 (by decide) (grp_MF.kp h.r fr1 (by decide) h.m1), grp_CC.kp r1 fr2 (by decide) (grp_CC.kp h.r fr1 (by decide) h.c2), grp_MC.kp r1 fr2 (by decide) (grp_MC.kp h.r fr1 (by decide) h.m2), grp_CT.kp r1 fr2 (by decide) (grp_CT.kp h.r fr1 (by decide) h.c3), grp_MT.kp r1 fr2 (by decide) (grp_MT.kp h.r fr1 (by decide) h.m3), grp_CW.kp r1 fr2 (by decide) (grp_CW.kp h.r fr1 (by decide) h.c4), grp_MW.kp r1 fr2 (by decide) (grp_MW.kp h.r fr1 (by decide) h.m4), grp_CU.kp r1 fr2 (by decide) (grp_CU.kp h.r fr1 (by decide) h.c5), grp_MU.kp r1 fr2 (by decide) (grp_MU.kp h.r fr1 (by decide) h.m5), grp_CB.kp r1 fr2 (by decide) (grp_CB.kp h.r fr1 (by decide) h.c6), grp_MB.kp r1 fr2 (by decide) (grp_MB.kp h.r fr1 (by decide) h.m6), grp_CR.kp r1 fr2 (by decide) (grp_CR.kp h.r fr1 (by decide) h.c7), grp_MR.kp r1 fr2 (by decide) (grp_MR.kp h.r fr1 (by decide) h.m7), grp_CS.kp r1 fr2 (by decide) g1, g2, grp_Z32.kp r1 fr2 (by decide) (grp_Z32.kp h.r fr1 (by decide) h.z), grp_SI.kp r1 fr2 (by decide) (grp_SI.kp h.r fr1 (by decide) h.si), okR_of r1 (fr2 r1.c).1⟩).inv⟩
  · have x2 := mo_keep_x h.m6 h.o6 v1 v2
    rw [if_neg q] at x1 x2
    exact ⟨_, M, M, x1, x2, h.inv⟩
end STZ
