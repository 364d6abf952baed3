/-! the calls that change something -/
section STW
variable {np : Nat} {nm : Nat} {wo : Nat → Nat} {wi : Nat → Nat} {lo : Nat → Nat} {ct : Nat → Nat} {d : Nat} {k : Nat} {wh : Nat → Nat} {nu : Nat → Nat} {be : Nat → Nat} {af : Nat → Nat} {t : Nat} {tp : Nat → Nat} {lw : LwO} {n : Nat} {ro : Nat → Nat} {nb : Nat} {kd : Nat → Nat} {rn : Nat} {tr : Nat → Nat} {ty : Nat → Nat} {nn : Nat → Nat} {el : Nat → Nat → Int64} {M M1 : Mem} {l : List (Nat × Nat)}
theorem p_player (h : IV np nm wo wi lo ct d k wh nu be af t tp lw n ro nb kd rn tr ty nn el M) (v1 : Int32) : ∃ a M1 M2, f_X10_player v1 M = some (a, M1) ∧ f_X11_player v1 M1 = some (a, M2) ∧ Inv M2 := by
  have f1 := cl_player h.c1 h.o1 v1
  have h8 := h.o1.1
  by_cases q : inN 100 v1 = true
  · by_cases c : np < 8
    · rw [if_pos q, if_pos c] at f1
      obtain ⟨x, hx, hx2, rfl⟩ := inN_t q
      have fr1 := fr_X10_player _ M _ f1
      have r1 : okR (wI (wI M 2 np (nI x)) 1 0 (nI (np + 1))) := okR_of h.r (fr1 h.r.c).1
      have f2 := mo_player (grp_MF.kp h.r fr1 (by decide) h.m1) h.o1 (nI x)
      rw [if_pos q, if_pos c] at f2
      have fr2 := fr_X11_player _ _ _ f2
      have hc : CF (np + 1) nm (upN wo np x) wi lo ct (wI (wI M 2 np (nI x)) 1 0 (nI (np + 1))) := by
        obtain ⟨a1, a2, a3, a4⟩ := h.c1
        refine ⟨by simp [wI_rd], by simp [wI_rd, a2], fun p hp => ?_, fun m hm => by simp [wI_rd, a4 m hm]⟩
        rw [ab_wI_o (by omega), wI_rd]
        unfold upN
        by_cases e : p = np
        · rw [if_pos ⟨rfl, e⟩, if_pos e]
        · rw [if_neg (fun h => e h.2), if_neg e]; exact a3 p (by omega)
      have hm : MF (np + 1) nm (upN wo np x) wi lo ct (wI (wI (wI (wI M 2 np (nI x)) 1 0 (nI (np + 1))) 48 np (nI x)) 47 6 (nI (np + 1))) := by
        obtain ⟨a1, a2, a3, a4⟩ := h.m1
        refine ⟨by simp [wI_rd], by simp [wI_rd, a2], fun p hp => ?_, fun m hm => ⟨by simp [wI_rd, a4 m hm], by simp [wI_rd, a4 m hm], ?_⟩⟩
        · rw [ab_wI_o (by omega), wI_rd]
          unfold upN
          by_cases e : p = np
          · rw [if_pos ⟨rfl, e⟩, if_pos e]
          · rw [if_neg (fun h => e h.2), if_neg e, ab_wI_o (by omega), ab_wI_o (by omega)]; exact a3 p (by omega)
        · rw [ab_wI_o (by omega), wI_rd, if_neg (by omega), ab_wI_o (by omega), ab_wI_o (by omega)]; exact (a4 m hm).2.2
      have o1 : OKF (np + 1) nm (upN wo np x) wi lo ct := by
        obtain ⟨a1, a2, a3, a4⟩ := h.o1
        refine ⟨by omega, a2, fun p hp => ?_, fun m hm => ⟨by have := a4 m hm; omega, by have := a4 m hm; omega, (a4 m hm).2.2.1, (a4 m hm).2.2.2⟩⟩
        unfold upN
        by_cases e : p = np
        · rw [if_pos e]; omega
        · rw [if_neg e]; exact a3 p (by omega)
      have o2 : OKC (np + 1) nm d k wh nu be af := ⟨h.o2.1, h.o2.2.1, fun j hj => (h.o2.2.2 j hj).elim (fun a => Or.inl ⟨a.1, by omega, a.2.2⟩) Or.inr⟩
      have o5 : OKU (np + 1) n ro := ⟨h.o5.1, fun j hj => by have := h.o5.2.1 j hj; omega, h.o5.2.2⟩
      exact ⟨_, _, _, f1, f2, (show IV (np + 1) nm (upN wo np x) wi lo ct d k wh nu be af t tp lw n ro nb kd rn tr ty nn el _ from ⟨o1, o2, h.o3, h.o4, o5, h.o6, h.o7, h.o8, grp_CF.kp r1 fr2 (by decide) hc, hm, grp_CC.kp r1 fr2 (by decide) (grp_CC.kp h.r fr1 (by decide) h.c2), grp_MC.kp r1 fr2 (by decide) (grp_MC.kp h.r fr1 (by decide) h.m2), grp_CT.kp r1 fr2 (by decide) (grp_CT.kp h.r fr1 (by decide) h.c3), grp_MT.kp r1 fr2 (by decide) (grp_MT.kp h.r fr1 (by decide) h.m3), grp_CW.kp r1 fr2 (by decide) (grp_CW.kp h.r fr1 (by decide) h.c4), grp_MW.kp r1 fr2 (by decide) (grp_MW.kp h.r fr1 (by decide) h.m4), grp_CU.kp r1 fr2 (by decide) (grp_CU.kp h.r fr1 (by decide) h.c5), grp_MU.kp r1 fr2 (by decide) (grp_MU.kp h.r fr1 (by decide) h.m5), grp_CB.kp r1 fr2 (by decide) (grp_CB.kp h.r fr1 (by decide) h.c6), grp_MB.kp r1 fr2 (by decide) (grp_MB.kp h.r fr1 (by decide) h.m6), grp_CR.kp r1 fr2 (by decide) (grp_CR.kp h.r fr1 (by decide) h.c7), grp_MR.kp r1 fr2 (by decide) (grp_MR.kp h.r fr1 (by decide) h.m7), grp_CS.kp r1 fr2 (by decide) (grp_CS.kp h.r fr1 (by decide) h.c8), grp_MS.kp r1 fr2 (by decide) (grp_MS.kp h.r fr1 (by decide) h.m8), grp_Z32.kp r1 fr2 (by decide) (grp_Z32.kp h.r fr1 (by decide) h.z), grp_SI.kp r1 fr2 (by decide) (grp_SI.kp h.r fr1 (by decide) h.si), okR_of r1 (fr2 r1.c).1⟩).inv⟩
    · have f2 := mo_player h.m1 h.o1 v1
      rw [if_pos q, if_neg c] at f1 f2
      exact ⟨_, _, _, f1, f2, h.inv⟩
  · have f2 := mo_player h.m1 h.o1 v1
    rw [if_neg q] at f1 f2
    exact ⟨_, _, _, f1, f2, h.inv⟩
end STW
