/-! the calls that change something -/
section STA
variable {np : Nat} {nm : Nat} {wo : Nat → Nat} {wi : Nat → Nat} {lo : Nat → Nat} {ct : Nat → Nat} {d : Nat} {k : Nat} {wh : Nat → Nat} {nu : Nat → Nat} {be : Nat → Nat} {af : Nat → Nat} {t : Nat} {tp : Nat → Nat} {lw : LwO} {n : Nat} {ro : Nat → Nat} {nb : Nat} {kd : Nat → Nat} {rn : Nat} {tr : Nat → Nat} {ty : Nat → Nat} {nn : Nat → Nat} {el : Nat → Nat → Int64} {M M1 : Mem} {l : List (Nat × Nat)}
theorem OKF.add (hO : OKF np nm wo wi lo ct) (hn : nm < 12) {a b : Nat} (ha : a < np) (hb : b < np) (hab : a ≠ b) : OKF np (nm + 1) wo (upN wi nm a) (upN lo nm b) (upN ct nm 1) := by
  obtain ⟨a1, a2, a3, a4⟩ := hO
  refine ⟨a1, by omega, a3, fun m hm => ?_⟩
  have e1 : upN wi nm a m = if m = nm then a else wi m := rfl
  have e2 : upN lo nm b m = if m = nm then b else lo m := rfl
  have e3 : upN ct nm 1 m = if m = nm then 1 else ct m := rfl
  rw [e1, e2, e3]
  by_cases e : m = nm
  · rw [if_pos e, if_pos e, if_pos e]; exact ⟨ha, hb, hab, by omega⟩
  · rw [if_neg e, if_neg e, if_neg e]; exact a4 m (by omega)
theorem p_match (h : IV np nm wo wi lo ct d k wh nu be af t tp lw n ro nb kd rn tr ty nn el M) (v1 : Int32) : ∃ a M1 M2, f_X10_match v1 M = some (a, M1) ∧ f_X11_match v1 M1 = some (a, M2) ∧ Inv M2 := by
  have f1 := cl_match h.c1 h.o1 v1
  have h8 := h.o1.1
  by_cases q : pair np v1 = true
  · by_cases c : nm < 12
    · rw [if_pos q, if_pos c] at f1
      obtain ⟨a, b, ha, hb, hab, ea, eb⟩ := pair_t q h8
      rw [ea, eb] at f1
      have fr1 := fr_X10_match _ M _ f1
      have r1 : okR (wI (wI (wI (wI M 3 nm (nI a)) 4 nm (nI b)) 5 nm 1) 1 1 (nI (nm + 1))) := okR_of h.r (fr1 h.r.c).1
      have f2 := mo_match (grp_MF.kp h.r fr1 (by decide) h.m1) h.o1 v1
      rw [if_pos q, if_pos c, ea, eb] at f2
      have fr2 := fr_X11_match _ _ _ f2
      have up : ∀ (f : Nat → Nat) (x m : Nat), upN f nm x m = if m = nm then x else f m := fun _ _ _ => rfl
      have hc : CF np (nm + 1) wo (upN wi nm a) (upN lo nm b) (upN ct nm 1) (wI (wI (wI (wI M 3 nm (nI a)) 4 nm (nI b)) 5 nm 1) 1 1 (nI (nm + 1))) := by
        obtain ⟨a1, a2, a3, a4⟩ := h.c1
        refine ⟨by simp [wI_rd, a1], by simp [wI_rd], fun p hp => by simp [wI_rd, a3 p hp], fun m hm => ?_⟩
        rw [up, up, up]
        by_cases e : m = nm
        · rw [if_pos e, if_pos e, if_pos e, e]
          exact ⟨by simp [wI_rd], by simp [wI_rd], by simp [wI_rd]; rfl⟩
        · rw [if_neg e, if_neg e, if_neg e]
          have := a4 m (by omega)
          exact ⟨by simp [wI_rd, e, this], by simp [wI_rd, e, this], by simp [wI_rd, e, this]⟩
      have hm : MF np (nm + 1) wo (upN wi nm a) (upN lo nm b) (upN ct nm 1) (wI (wI (wI (wI (wI (wI (wI (wI M 3 nm (nI a)) 4 nm (nI b)) 5 nm 1) 1 1 (nI (nm + 1))) 52 nm (nI a)) 53 nm (nI b)) 48 (8 + nm) 1) 47 7 (nI (nm + 1))) := by
        obtain ⟨a1, a2, a3, a4⟩ := h.m1
        refine ⟨by simp [wI_rd, a1], by simp [wI_rd], fun p hp => ?_, fun m hm => ?_⟩
        · have e : ¬ p = 8 + nm := by omega
          simp [wI_rd, e, a3 p hp]
        · rw [up, up, up]
          by_cases e : m = nm
          · rw [if_pos e, if_pos e, if_pos e, e]
            exact ⟨by simp [wI_rd], by simp [wI_rd], by simp [wI_rd]; rfl⟩
          · rw [if_neg e, if_neg e, if_neg e]
            have := a4 m (by omega)
            have e8 : ¬ 8 + m = 8 + nm := by omega
            exact ⟨by simp [wI_rd, e, this], by simp [wI_rd, e, this], by simp [wI_rd, e, this]⟩
      have o2 : OKC np (nm + 1) d k wh nu be af := ⟨h.o2.1, h.o2.2.1, fun j hj => (h.o2.2.2 j hj).elim Or.inl (fun a => Or.inr ⟨a.1, by omega, a.2.2⟩)⟩
      exact ⟨_, _, _, f1, f2, (show IV np (nm + 1) wo (upN wi nm a) (upN lo nm b) (upN ct nm 1) d k wh nu be af t tp lw n ro nb kd rn tr ty nn el _ from ⟨h.o1.add c ha hb hab, o2, h.o3, h.o4, h.o5, h.o6, h.o7, h.o8, grp_CF.kp r1 fr2 (by decide) hc, hm, grp_CC.kp r1 fr2 (by decide) (grp_CC.kp h.r fr1 (by decide) h.c2), grp_MC.kp r1 fr2 (by decide) (grp_MC.kp h.r fr1 (by decide) h.m2), grp_CT.kp r1 fr2 (by decide) (grp_CT.kp h.r fr1 (by decide) h.c3), grp_MT.kp r1 fr2 (by decide) (grp_MT.kp h.r fr1 (by decide) h.m3), grp_CW.kp r1 fr2 (by decide) (grp_CW.kp h.r fr1 (by decide) h.c4), grp_MW.kp r1 fr2 (by decide) (grp_MW.kp h.r fr1 (by decide) h.m4), grp_CU.kp r1 fr2 (by decide) (grp_CU.kp h.r fr1 (by decide) h.c5), grp_MU.kp r1 fr2 (by decide) (grp_MU.kp h.r fr1 (by decide) h.m5), grp_CB.kp r1 fr2 (by decide) (grp_CB.kp h.r fr1 (by decide) h.c6), grp_MB.kp r1 fr2 (by decide) (grp_MB.kp h.r fr1 (by decide) h.m6), grp_CR.kp r1 fr2 (by decide) (grp_CR.kp h.r fr1 (by decide) h.c7), grp_MR.kp r1 fr2 (by decide) (grp_MR.kp h.r fr1 (by decide) h.m7), grp_CS.kp r1 fr2 (by decide) (grp_CS.kp h.r fr1 (by decide) h.c8), grp_MS.kp r1 fr2 (by decide) (grp_MS.kp h.r fr1 (by decide) h.m8), grp_Z32.kp r1 fr2 (by decide) (grp_Z32.kp h.r fr1 (by decide) h.z), grp_SI.kp r1 fr2 (by decide) (grp_SI.kp h.r fr1 (by decide) h.si), okR_of r1 (fr2 r1.c).1⟩).inv⟩
    · have f2 := mo_match h.m1 h.o1 v1
      rw [if_pos q, if_neg c] at f1 f2
      exact ⟨_, _, _, f1, f2, h.inv⟩
  · have f2 := mo_match h.m1 h.o1 v1
    rw [if_neg q] at f1 f2
    exact ⟨_, _, _, f1, f2, h.inv⟩
end STA
