/-! the calls that change something -/
section STX
variable {np : Nat} {nm : Nat} {wo : Nat → Nat} {wi : Nat → Nat} {lo : Nat → Nat} {ct : Nat → Nat} {d : Nat} {k : Nat} {wh : Nat → Nat} {nu : Nat → Nat} {be : Nat → Nat} {af : Nat → Nat} {t : Nat} {tp : Nat → Nat} {lw : LwO} {n : Nat} {ro : Nat → Nat} {nb : Nat} {kd : Nat → Nat} {rn : Nat} {tr : Nat → Nat} {ty : Nat → Nat} {nn : Nat → Nat} {el : Nat → Nat → Int64} {M M1 : Mem} {l : List (Nat × Nat)}
theorem OKF.ch (hO : OKF np nm wo wi lo ct) {a b x : Nat} (h : (a = 0 ∧ b < np ∧ x ≤ 99) ∨ (a = 1 ∧ b < nm ∧ x ≤ 1)) : OKF np nm (cw wo a b x) wi lo (cc ct a b x) := by
  obtain ⟨a1, a2, a3, a4⟩ := hO
  refine ⟨a1, a2, fun p hp => ?_, fun m hm => ⟨(a4 m hm).1, (a4 m hm).2.1, (a4 m hm).2.2.1, ?_⟩⟩
  · have := a3 p hp
    have e : upN wo b x p = if p = b then x else wo p := rfl
    unfold cw
    by_cases c : a = 0
    · rw [if_pos c, e]; split <;> omega
    · rw [if_neg c]; omega
  · have := (a4 m hm).2.2.2
    have e : upN ct b x m = if m = b then x else ct m := rfl
    unfold cc
    by_cases c : a = 0
    · rw [if_pos c]; omega
    · rw [if_neg c, e]; split <;> omega
theorem p_undo (h : IV np nm wo wi lo ct d k wh nu be af t tp lw n ro nb kd rn tr ty nn el M) : ∃ a M1 M2, f_X10_undo M = some (a, M1) ∧ f_X11_undo M1 = some (a, M2) ∧ Inv M2 := by
  rcases cl_undo h.c1 h.o1 h.c2 h.o2 with ⟨e, f1⟩ | ⟨j, M1, e, f1, g1, g2⟩
  · rcases mo_undo h.m1 h.o1 h.m2 h.o2 with ⟨-, f2⟩ | ⟨j, M2, e2, -⟩
    · exact ⟨_, M, M, f1, f2, h.inv⟩
    · omega
  · have fr1 := fr_X10_undo M _ f1
    have r1 : okR M1 := okR_of h.r (fr1 h.r.c).1
    rcases mo_undo (grp_MF.kp h.r fr1 (by decide) h.m1) h.o1 (grp_MC.kp h.r fr1 (by decide) h.m2) h.o2 with ⟨e2, -⟩ | ⟨j2, M2, e2, f2, g3, g4⟩
    · omega
    · have ej : j2 = j := by omega
      subst ej
      have fr2 := fr_X11_undo M1 _ f2
      have o1 := h.o1.ch (a := wh j2) (b := nu j2) (x := be j2) ((h.o2.2.2 j2 (by have := h.o2.1; omega)).elim (fun a => Or.inl ⟨a.1, a.2.1, a.2.2.1⟩) (fun a => Or.inr ⟨a.1, a.2.1, a.2.2.1⟩))
      have o2 : OKC np nm j2 k wh nu be af := ⟨by have := h.o2.1; omega, h.o2.2⟩
      exact ⟨_, M1, M2, f1, f2, (show IV np nm (cw wo (wh j2) (nu j2) (be j2)) wi lo (cc ct (wh j2) (nu j2) (be j2)) j2 k wh nu be af t tp lw n ro nb kd rn tr ty nn el _ from ⟨o1, o2, h.o3, h.o4, h.o5, h.o6, h.o7, h.o8, grp_CF.kp r1 fr2 (by decide) g1, g3, grp_CC.kp r1 fr2 (by decide) g2, g4, grp_CT.kp r1 fr2 (by decide) (grp_CT.kp h.r fr1 (by decide) h.c3), grp_MT.kp r1 fr2 (by decide) (grp_MT.kp h.r fr1 (by decide) h.m3), grp_CW.kp r1 fr2 (by decide) (grp_CW.kp h.r fr1 (by decide) h.c4), grp_MW.kp r1 fr2 (by decide) (grp_MW.kp h.r fr1 (by decide) h.m4), grp_CU.kp r1 fr2 (by decide) (grp_CU.kp h.r fr1 (by decide) h.c5), grp_MU.kp r1 fr2 (by decide) (grp_MU.kp h.r fr1 (by decide) h.m5), grp_CB.kp r1 fr2 (by decide) (grp_CB.kp h.r fr1 (by decide) h.c6), grp_MB.kp r1 fr2 (by decide) (grp_MB.kp h.r fr1 (by decide) h.m6), grp_CR.kp r1 fr2 (by decide) (grp_CR.kp h.r fr1 (by decide) h.c7), grp_MR.kp r1 fr2 (by decide) (grp_MR.kp h.r fr1 (by decide) h.m7), grp_CS.kp r1 fr2 (by decide) (grp_CS.kp h.r fr1 (by decide) h.c8), grp_MS.kp r1 fr2 (by decide) (grp_MS.kp h.r fr1 (by decide) h.m8), grp_Z32.kp r1 fr2 (by decide) (grp_Z32.kp h.r fr1 (by decide) h.z), grp_SI.kp r1 fr2 (by decide) (grp_SI.kp h.r fr1 (by decide) h.si), okR_of r1 (fr2 r1.c).1⟩).inv⟩
theorem p_redo (h : IV np nm wo wi lo ct d k wh nu be af t tp lw n ro nb kd rn tr ty nn el M) : ∃ a M1 M2, f_X10_redo M = some (a, M1) ∧ f_X11_redo M1 = some (a, M2) ∧ Inv M2 := by
  rcases cl_redo h.c1 h.o1 h.c2 h.o2 with ⟨e, f1⟩ | ⟨M1, e, f1, g1, g2⟩
  · rcases mo_redo h.m1 h.o1 h.m2 h.o2 with ⟨-, f2⟩ | ⟨M2, e2, -⟩
    · exact ⟨_, M, M, f1, f2, h.inv⟩
    · omega
  · have fr1 := fr_X10_redo M _ f1
    have r1 : okR M1 := okR_of h.r (fr1 h.r.c).1
    rcases mo_redo (grp_MF.kp h.r fr1 (by decide) h.m1) h.o1 (grp_MC.kp h.r fr1 (by decide) h.m2) h.o2 with ⟨e2, -⟩ | ⟨M2, e2, f2, g3, g4⟩
    · omega
    · have fr2 := fr_X11_redo M1 _ f2
      have o1 := h.o1.ch (a := wh d) (b := nu d) (x := af d) ((h.o2.2.2 d e).elim (fun a => Or.inl ⟨a.1, a.2.1, a.2.2.2⟩) (fun a => Or.inr ⟨a.1, a.2.1, a.2.2.2⟩))
      have o2 : OKC np nm (d + 1) k wh nu be af := ⟨by omega, h.o2.2⟩
      exact ⟨_, M1, M2, f1, f2, (show IV np nm (cw wo (wh d) (nu d) (af d)) wi lo (cc ct (wh d) (nu d) (af d)) (d + 1) k wh nu be af t tp lw n ro nb kd rn tr ty nn el _ from ⟨o1, o2, h.o3, h.o4, h.o5, h.o6, h.o7, h.o8, grp_CF.kp r1 fr2 (by decide) g1, g3, grp_CC.kp r1 fr2 (by decide) g2, g4, grp_CT.kp r1 fr2 (by decide) (grp_CT.kp h.r fr1 (by decide) h.c3), grp_MT.kp r1 fr2 (by decide) (grp_MT.kp h.r fr1 (by decide) h.m3), grp_CW.kp r1 fr2 (by decide) (grp_CW.kp h.r fr1 (by decide) h.c4), grp_MW.kp r1 fr2 (by decide) (grp_MW.kp h.r fr1 (by decide) h.m4), grp_CU.kp r1 fr2 (by decide) (grp_CU.kp h.r fr1 (by decide) h.c5), grp_MU.kp r1 fr2 (by decide) (grp_MU.kp h.r fr1 (by decide) h.m5), grp_CB.kp r1 fr2 (by decide) (grp_CB.kp h.r fr1 (by decide) h.c6), grp_MB.kp r1 fr2 (by decide) (grp_MB.kp h.r fr1 (by decide) h.m6), grp_CR.kp r1 fr2 (by decide) (grp_CR.kp h.r fr1 (by decide) h.c7), grp_MR.kp r1 fr2 (by decide) (grp_MR.kp h.r fr1 (by decide) h.m7), grp_CS.kp r1 fr2 (by decide) (grp_CS.kp h.r fr1 (by decide) h.c8), grp_MS.kp r1 fr2 (by decide) (grp_MS.kp h.r fr1 (by decide) h.m8), grp_Z32.kp r1 fr2 (by decide) (grp_Z32.kp h.r fr1 (by decide) h.z), grp_SI.kp r1 fr2 (by decide) (grp_SI.kp h.r fr1 (by decide) h.si), okR_of r1 (fr2 r1.c).1⟩).inv⟩
theorem p_law (h : IV np nm wo wi lo ct d k wh nu be af t tp lw n ro nb kd rn tr ty nn el M) : ∃ a M1 M2, f_X10_law M = some (a, M1) ∧ f_X11_law M1 = some (a, M2) ∧ Inv M2 := by
  obtain ⟨M1, f1, g1, g2, hf⟩ := cl_law h.c3 h.o3 h.c4
  have r1 : okR M1 := g2.2.1
  have gk : ∀ {l : List (Nat × Nat)} {P : Mem → Prop}, Grp l P → disj l [(22, 0), (24, 0), (25, 0)] = true → P M → P (M1.1, M1.2.1, M.2.2) := fun hG hd hP => hG M (M1.1, M1.2.1, M.2.2) (fun c k hc => hf c k (disj_s hd hc)) rfl hP
  have k_c1 : CF np nm wo wi lo ct M1 := gk grp_CF (by decide) h.c1
  have k_m1 : MF np nm wo wi lo ct M1 := gk grp_MF (by decide) h.m1
  have k_c2 : CC d k wh nu be af M1 := gk grp_CC (by decide) h.c2
  have k_m2 : MC d k wh nu be af M1 := gk grp_MC (by decide) h.m2
  have k_m3 : MT t tp M1 := gk grp_MT (by decide) h.m3
  have k_m4 : MW lw M1 := gk grp_MW (by decide) h.m4
  have k_c5 : CU n ro M1 := gk grp_CU (by decide) h.c5
  have k_m5 : MU n ro M1 := gk grp_MU (by decide) h.m5
  have k_c6 : CB nb kd M1 := gk grp_CB (by decide) h.c6
  have k_m6 : MB nb kd M1 := gk grp_MB (by decide) h.m6
  have k_c7 : CR rn tr M1 := gk grp_CR (by decide) h.c7
  have k_m7 : MR rn tr M1 := gk grp_MR (by decide) h.m7
  have k_c8 : CS ty nn el M1 := gk grp_CS (by decide) h.c8
  have k_m8 : MS ty nn el M1 := gk grp_MS (by decide) h.m8
  have k_z : Z32  M1 := gk grp_Z32 (by decide) h.z
  have k_si : SI  M1 := gk grp_SI (by decide) h.si
  obtain ⟨M2, f2, g3, g4⟩ := mo_law r1 k_m3 h.o3 k_m4
  have fr2 := fr_X11_law M1 _ f2
  have o3 : OKT 0 tp := ⟨by omega, fun j hj => by omega⟩
  exact ⟨_, M1, M2, f1, f2, (show IV np nm wo wi lo ct d k wh nu be af 0 tp (lawN t tp lw) n ro nb kd rn tr ty nn el M2 from ⟨h.o1, h.o2, o3, h.o4.law h.o3, h.o5, h.o6, h.o7, h.o8, grp_CF.kp r1 fr2 (by decide) k_c1, grp_MF.kp r1 fr2 (by decide) k_m1, grp_CC.kp r1 fr2 (by decide) k_c2, grp_MC.kp r1 fr2 (by decide) k_m2, grp_CT.kp r1 fr2 (by decide) g1, g3, grp_CW.kp r1 fr2 (by decide) g2, g4, grp_CU.kp r1 fr2 (by decide) k_c5, grp_MU.kp r1 fr2 (by decide) k_m5, grp_CB.kp r1 fr2 (by decide) k_c6, grp_MB.kp r1 fr2 (by decide) k_m6, grp_CR.kp r1 fr2 (by decide) k_c7, grp_MR.kp r1 fr2 (by decide) k_m7, grp_CS.kp r1 fr2 (by decide) k_c8, grp_MS.kp r1 fr2 (by decide) k_m8, grp_Z32.kp r1 fr2 (by decide) k_z, grp_SI.kp r1 fr2 (by decide) k_si, okR_of r1 (fr2 r1.c).1⟩).inv⟩
end STX
