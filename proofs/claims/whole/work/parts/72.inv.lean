/-! what holds between two calls -/
def Z32 (M : Mem) : Prop := M.1 47 32 = 0
theorem grp_Z32 : Grp [(47, 33)] Z32 := fun M M2 h _ h1 => ((h 47 32 (in_f (by decide))).1).trans h1
def IV (np : Nat) (nm : Nat) (wo : Nat → Nat) (wi : Nat → Nat) (lo : Nat → Nat) (ct : Nat → Nat) (d : Nat) (k : Nat) (wh : Nat → Nat) (nu : Nat → Nat) (be : Nat → Nat) (af : Nat → Nat) (t : Nat) (tp : Nat → Nat) (lw : LwO) (n : Nat) (ro : Nat → Nat) (nb : Nat) (kd : Nat → Nat) (rn : Nat) (tr : Nat → Nat) (ty : Nat → Nat) (nn : Nat → Nat) (el : Nat → Nat → Int64) (M : Mem) : Prop := OKF np nm wo wi lo ct ∧ OKC np nm d k wh nu be af ∧ OKT t tp ∧ okO lw ∧ OKU np n ro ∧ OKBo nb kd ∧ rn < 100000 ∧ OKS nb ty nn el ∧ CF np nm wo wi lo ct M ∧ MF np nm wo wi lo ct M ∧ CC d k wh nu be af M ∧ MC d k wh nu be af M ∧ CT t tp M ∧ MT t tp M ∧ CW lw M ∧ MW lw M ∧ CU n ro M ∧ MU n ro M ∧ CB nb kd M ∧ MB nb kd M ∧ CR rn tr M ∧ MR rn tr M ∧ CS ty nn el M ∧ MS ty nn el M ∧ Z32 M ∧ SI M ∧ okR M
def Inv (M : Mem) : Prop := ∃ (np : Nat) (nm : Nat) (wo : Nat → Nat) (wi : Nat → Nat) (lo : Nat → Nat) (ct : Nat → Nat) (d : Nat) (k : Nat) (wh : Nat → Nat) (nu : Nat → Nat) (be : Nat → Nat) (af : Nat → Nat) (t : Nat) (tp : Nat → Nat) (lw : LwO) (n : Nat) (ro : Nat → Nat) (nb : Nat) (kd : Nat → Nat) (rn : Nat) (tr : Nat → Nat) (ty : Nat → Nat) (nn : Nat → Nat) (el : Nat → Nat → Int64), IV np nm wo wi lo ct d k wh nu be af t tp lw n ro nb kd rn tr ty nn el M
def GLs : List (List (Nat × Nat)) := [[(1, 0), (2, 0), (3, 0), (4, 0), (5, 0)], [(47, 7), (47, 8), (48, 0), (52, 0), (53, 0)], [(6, 0), (7, 0), (8, 0), (9, 0), (10, 0)], [(47, 6), (47, 5), (49, 0), (50, 0), (51, 0)], [(22, 1), (23, 0)], [(47, 12), (54, 0)], [(22, 8), (24, 0), (25, 0)], [(47, 14), (55, 0)], [(28, 1), (29, 0)], [(47, 35), (65, 0)], [(40, 1), (42, 0)], [(47, 41), (71, 0)], [(40, 2), (41, 0)], [(47, 44), (72, 0)], [(44, 0), (45, 0), (46, 0)], [(73, 0), (74, 0), (75, 0)], [(47, 33)], [(14, 4), (14, 5), (14, 6), (18, 0), (19, 0)]]
def GL_kpS : List (List (Nat × Nat)) := [[(1, 0), (2, 0), (3, 0), (4, 0), (5, 0)], [(47, 7), (47, 8), (48, 0), (52, 0), (53, 0)], [(6, 0), (7, 0), (8, 0), (9, 0), (10, 0)], [(47, 6), (47, 5), (49, 0), (50, 0), (51, 0)], [(22, 1), (23, 0)], [(47, 12), (54, 0)], [(22, 8), (24, 0), (25, 0)], [(47, 14), (55, 0)], [(28, 1), (29, 0)], [(47, 35), (65, 0)], [(40, 1), (42, 0)], [(47, 41), (71, 0)], [(40, 2), (41, 0)], [(47, 44), (72, 0)], [(44, 0), (45, 0), (46, 0)], [(73, 0), (74, 0), (75, 0)], [(47, 33)]]
def GL_kpZ : List (List (Nat × Nat)) := [[(1, 0), (2, 0), (3, 0), (4, 0), (5, 0)], [(47, 7), (47, 8), (48, 0), (52, 0), (53, 0)], [(6, 0), (7, 0), (8, 0), (9, 0), (10, 0)], [(47, 6), (47, 5), (49, 0), (50, 0), (51, 0)], [(22, 1), (23, 0)], [(47, 12), (54, 0)], [(22, 8), (24, 0), (25, 0)], [(47, 14), (55, 0)], [(28, 1), (29, 0)], [(47, 35), (65, 0)], [(40, 1), (42, 0)], [(47, 41), (71, 0)], [(40, 2), (41, 0)], [(47, 44), (72, 0)], [(44, 0), (45, 0), (46, 0)], [(73, 0), (74, 0), (75, 0)], [(14, 4), (14, 5), (14, 6), (18, 0), (19, 0)]]
section STP
variable {np : Nat} {nm : Nat} {wo : Nat → Nat} {wi : Nat → Nat} {lo : Nat → Nat} {ct : Nat → Nat} {d : Nat} {k : Nat} {wh : Nat → Nat} {nu : Nat → Nat} {be : Nat → Nat} {af : Nat → Nat} {t : Nat} {tp : Nat → Nat} {lw : LwO} {n : Nat} {ro : Nat → Nat} {nb : Nat} {kd : Nat → Nat} {rn : Nat} {tr : Nat → Nat} {ty : Nat → Nat} {nn : Nat → Nat} {el : Nat → Nat → Int64} {M M1 : Mem} {l : List (Nat × Nat)}
theorem IV.o1 (h : IV np nm wo wi lo ct d k wh nu be af t tp lw n ro nb kd rn tr ty nn el M) : OKF np nm wo wi lo ct := h.1
theorem IV.o2 (h : IV np nm wo wi lo ct d k wh nu be af t tp lw n ro nb kd rn tr ty nn el M) : OKC np nm d k wh nu be af := h.2.1
theorem IV.o3 (h : IV np nm wo wi lo ct d k wh nu be af t tp lw n ro nb kd rn tr ty nn el M) : OKT t tp := h.2.2.1
theorem IV.o4 (h : IV np nm wo wi lo ct d k wh nu be af t tp lw n ro nb kd rn tr ty nn el M) : okO lw := h.2.2.2.1
theorem IV.o5 (h : IV np nm wo wi lo ct d k wh nu be af t tp lw n ro nb kd rn tr ty nn el M) : OKU np n ro := h.2.2.2.2.1
theorem IV.o6 (h : IV np nm wo wi lo ct d k wh nu be af t tp lw n ro nb kd rn tr ty nn el M) : OKBo nb kd := h.2.2.2.2.2.1
theorem IV.o7 (h : IV np nm wo wi lo ct d k wh nu be af t tp lw n ro nb kd rn tr ty nn el M) : rn < 100000 := h.2.2.2.2.2.2.1
theorem IV.o8 (h : IV np nm wo wi lo ct d k wh nu be af t tp lw n ro nb kd rn tr ty nn el M) : OKS nb ty nn el := h.2.2.2.2.2.2.2.1
theorem IV.c1 (h : IV np nm wo wi lo ct d k wh nu be af t tp lw n ro nb kd rn tr ty nn el M) : CF np nm wo wi lo ct M := h.2.2.2.2.2.2.2.2.1
theorem IV.m1 (h : IV np nm wo wi lo ct d k wh nu be af t tp lw n ro nb kd rn tr ty nn el M) : MF np nm wo wi lo ct M := h.2.2.2.2.2.2.2.2.2.1
theorem IV.c2 (h : IV np nm wo wi lo ct d k wh nu be af t tp lw n ro nb kd rn tr ty nn el M) : CC d k wh nu be af M := h.2.2.2.2.2.2.2.2.2.2.1
theorem IV.m2 (h : IV np nm wo wi lo ct d k wh nu be af t tp lw n ro nb kd rn tr ty nn el M) : MC d k wh nu be af M := h.2.2.2.2.2.2.2.2.2.2.2.1
theorem IV.c3 (h : IV np nm wo wi lo ct d k wh nu be af t tp lw n ro nb kd rn tr ty nn el M) : CT t tp M := h.2.2.2.2.2.2.2.2.2.2.2.2.1
theorem IV.m3 (h : IV np nm wo wi lo ct d k wh nu be af t tp lw n ro nb kd rn tr ty nn el M) : MT t tp M := h.2.2.2.2.2.2.2.2.2.2.2.2.2.1
theorem IV.c4 (h : IV np nm wo wi lo ct d k wh nu be af t tp lw n ro nb kd rn tr ty nn el M) : CW lw M := h.2.2.2.2.2.2.2.2.2.2.2.2.2.2.1
theorem IV.m4 (h : IV np nm wo wi lo ct d k wh nu be af t tp lw n ro nb kd rn tr ty nn el M) : MW lw M := h.2.2.2.2.2.2.2.2.2.2.2.2.2.2.2.1
theorem IV.c5 (h : IV np nm wo wi lo ct d k wh nu be af t tp lw n ro nb kd rn tr ty nn el M) : CU n ro M := h.2.2.2.2.2.2.2.2.2.2.2.2.2.2.2.2.1
theorem IV.m5 (h : IV np nm wo wi lo ct d k wh nu be af t tp lw n ro nb kd rn tr ty nn el M) : MU n ro M := h.2.2.2.2.2.2.2.2.2.2.2.2.2.2.2.2.2.1
theorem IV.c6 (h : IV np nm wo wi lo ct d k wh nu be af t tp lw n ro nb kd rn tr ty nn el M) : CB nb kd M := h.2.2.2.2.2.2.2.2.2.2.2.2.2.2.2.2.2.2.1
theorem IV.m6 (h : IV np nm wo wi lo ct d k wh nu be af t tp lw n ro nb kd rn tr ty nn el M) : MB nb kd M := h.2.2.2.2.2.2.2.2.2.2.2.2.2.2.2.2.2.2.2.1
theorem IV.c7 (h : IV np nm wo wi lo ct d k wh nu be af t tp lw n ro nb kd rn tr ty nn el M) : CR rn tr M := h.2.2.2.2.2.2.2.2.2.2.2.2.2.2.2.2.2.2.2.2.1
theorem IV.m7 (h : IV np nm wo wi lo ct d k wh nu be af t tp lw n ro nb kd rn tr ty nn el M) : MR rn tr M := h.2.2.2.2.2.2.2.2.2.2.2.2.2.2.2.2.2.2.2.2.2.1
theorem IV.c8 (h : IV np nm wo wi lo ct d k wh nu be af t tp lw n ro nb kd rn tr ty nn el M) : CS ty nn el M := h.2.2.2.2.2.2.2.2.2.2.2.2.2.2.2.2.2.2.2.2.2.2.1
theorem IV.m8 (h : IV np nm wo wi lo ct d k wh nu be af t tp lw n ro nb kd rn tr ty nn el M) : MS ty nn el M := h.2.2.2.2.2.2.2.2.2.2.2.2.2.2.2.2.2.2.2.2.2.2.2.1
theorem IV.z (h : IV np nm wo wi lo ct d k wh nu be af t tp lw n ro nb kd rn tr ty nn el M) : Z32 M := h.2.2.2.2.2.2.2.2.2.2.2.2.2.2.2.2.2.2.2.2.2.2.2.2.1
theorem IV.si (h : IV np nm wo wi lo ct d k wh nu be af t tp lw n ro nb kd rn tr ty nn el M) : SI M := h.2.2.2.2.2.2.2.2.2.2.2.2.2.2.2.2.2.2.2.2.2.2.2.2.2.1
theorem IV.r (h : IV np nm wo wi lo ct d k wh nu be af t tp lw n ro nb kd rn tr ty nn el M) : okR M := h.2.2.2.2.2.2.2.2.2.2.2.2.2.2.2.2.2.2.2.2.2.2.2.2.2.2
theorem IV.inv (h : IV np nm wo wi lo ct d k wh nu be af t tp lw n ro nb kd rn tr ty nn el M) : Inv M := ⟨_, _, _, _, _, _, _, _, _, _, _, _, _, _, _, _, _, _, _, _, _, _, _, _, h⟩
theorem IV.kp (h : IV np nm wo wi lo ct d k wh nu be af t tp lw n ro nb kd rn tr ty nn el M) (hF : FrS l M M1) (hd : GLs.all (fun g => disj g l) = true) : IV np nm wo wi lo ct d k wh nu be af t tp lw n ro nb kd rn tr ty nn el M1 := by
  have e : ∀ g ∈ GLs, disj g l = true := List.all_eq_true.mp hd
  exact ⟨h.o1, h.o2, h.o3, h.o4, h.o5, h.o6, h.o7, h.o8, grp_CF.kp h.r hF (e [(1, 0), (2, 0), (3, 0), (4, 0), (5, 0)] (by decide)) h.c1, grp_MF.kp h.r hF (e [(47, 7), (47, 8), (48, 0), (52, 0), (53, 0)] (by decide)) h.m1, grp_CC.kp h.r hF (e [(6, 0), (7, 0), (8, 0), (9, 0), (10, 0)] (by decide)) h.c2, grp_MC.kp h.r hF (e [(47, 6), (47, 5), (49, 0), (50, 0), (51, 0)] (by decide)) h.m2, grp_CT.kp h.r hF (e [(22, 1), (23, 0)] (by decide)) h.c3, grp_MT.kp h.r hF (e [(47, 12), (54, 0)] (by decide)) h.m3, grp_CW.kp h.r hF (e [(22, 8), (24, 0), (25, 0)] (by decide)) h.c4, grp_MW.kp h.r hF (e [(47, 14), (55, 0)] (by decide)) h.m4, grp_CU.kp h.r hF (e [(28, 1), (29, 0)] (by decide)) h.c5, grp_MU.kp h.r hF (e [(47, 35), (65, 0)] (by decide)) h.m5, grp_CB.kp h.r hF (e [(40, 1), (42, 0)] (by decide)) h.c6, grp_MB.kp h.r hF (e [(47, 41), (71, 0)] (by decide)) h.m6, grp_CR.kp h.r hF (e [(40, 2), (41, 0)] (by decide)) h.c7, grp_MR.kp h.r hF (e [(47, 44), (72, 0)] (by decide)) h.m7, grp_CS.kp h.r hF (e [(44, 0), (45, 0), (46, 0)] (by decide)) h.c8, grp_MS.kp h.r hF (e [(73, 0), (74, 0), (75, 0)] (by decide)) h.m8, grp_Z32.kp h.r hF (e [(47, 33)] (by decide)) h.z, grp_SI.kp h.r hF (e [(14, 4), (14, 5), (14, 6), (18, 0), (19, 0)] (by decide)) h.si, okR_of h.r (hF h.r.c).1⟩
theorem IV.kpS (h : IV np nm wo wi lo ct d k wh nu be af t tp lw n ro nb kd rn tr ty nn el M) (hF : FrS l M M1) (hd : GL_kpS.all (fun g => disj g l) = true) (hs : SI M1) : IV np nm wo wi lo ct d k wh nu be af t tp lw n ro nb kd rn tr ty nn el M1 := by
  have e : ∀ g ∈ GL_kpS, disj g l = true := List.all_eq_true.mp hd
  exact ⟨h.o1, h.o2, h.o3, h.o4, h.o5, h.o6, h.o7, h.o8, grp_CF.kp h.r hF (e [(1, 0), (2, 0), (3, 0), (4, 0), (5, 0)] (by decide)) h.c1, grp_MF.kp h.r hF (e [(47, 7), (47, 8), (48, 0), (52, 0), (53, 0)] (by decide)) h.m1, grp_CC.kp h.r hF (e [(6, 0), (7, 0), (8, 0), (9, 0), (10, 0)] (by decide)) h.c2, grp_MC.kp h.r hF (e [(47, 6), (47, 5), (49, 0), (50, 0), (51, 0)] (by decide)) h.m2, grp_CT.kp h.r hF (e [(22, 1), (23, 0)] (by decide)) h.c3, grp_MT.kp h.r hF (e [(47, 12), (54, 0)] (by decide)) h.m3, grp_CW.kp h.r hF (e [(22, 8), (24, 0), (25, 0)] (by decide)) h.c4, grp_MW.kp h.r hF (e [(47, 14), (55, 0)] (by decide)) h.m4, grp_CU.kp h.r hF (e [(28, 1), (29, 0)] (by decide)) h.c5, grp_MU.kp h.r hF (e [(47, 35), (65, 0)] (by decide)) h.m5, grp_CB.kp h.r hF (e [(40, 1), (42, 0)] (by decide)) h.c6, grp_MB.kp h.r hF (e [(47, 41), (71, 0)] (by decide)) h.m6, grp_CR.kp h.r hF (e [(40, 2), (41, 0)] (by decide)) h.c7, grp_MR.kp h.r hF (e [(47, 44), (72, 0)] (by decide)) h.m7, grp_CS.kp h.r hF (e [(44, 0), (45, 0), (46, 0)] (by decide)) h.c8, grp_MS.kp h.r hF (e [(73, 0), (74, 0), (75, 0)] (by decide)) h.m8, grp_Z32.kp h.r hF (e [(47, 33)] (by decide)) h.z, hs, okR_of h.r (hF h.r.c).1⟩
theorem IV.kpZ (h : IV np nm wo wi lo ct d k wh nu be af t tp lw n ro nb kd rn tr ty nn el M) (hF : FrS l M M1) (hd : GL_kpZ.all (fun g => disj g l) = true) (hs : Z32 M1) : IV np nm wo wi lo ct d k wh nu be af t tp lw n ro nb kd rn tr ty nn el M1 := by
  have e : ∀ g ∈ GL_kpZ, disj g l = true := List.all_eq_true.mp hd
  exact ⟨h.o1, h.o2, h.o3, h.o4, h.o5, h.o6, h.o7, h.o8, grp_CF.kp h.r hF (e [(1, 0), (2, 0), (3, 0), (4, 0), (5, 0)] (by decide)) h.c1, grp_MF.kp h.r hF (e [(47, 7), (47, 8), (48, 0), (52, 0), (53, 0)] (by decide)) h.m1, grp_CC.kp h.r hF (e [(6, 0), (7, 0), (8, 0), (9, 0), (10, 0)] (by decide)) h.c2, grp_MC.kp h.r hF (e [(47, 6), (47, 5), (49, 0), (50, 0), (51, 0)] (by decide)) h.m2, grp_CT.kp h.r hF (e [(22, 1), (23, 0)] (by decide)) h.c3, grp_MT.kp h.r hF (e [(47, 12), (54, 0)] (by decide)) h.m3, grp_CW.kp h.r hF (e [(22, 8), (24, 0), (25, 0)] (by decide)) h.c4, grp_MW.kp h.r hF (e [(47, 14), (55, 0)] (by decide)) h.m4, grp_CU.kp h.r hF (e [(28, 1), (29, 0)] (by decide)) h.c5, grp_MU.kp h.r hF (e [(47, 35), (65, 0)] (by decide)) h.m5, grp_CB.kp h.r hF (e [(40, 1), (42, 0)] (by decide)) h.c6, grp_MB.kp h.r hF (e [(47, 41), (71, 0)] (by decide)) h.m6, grp_CR.kp h.r hF (e [(40, 2), (41, 0)] (by decide)) h.c7, grp_MR.kp h.r hF (e [(47, 44), (72, 0)] (by decide)) h.m7, grp_CS.kp h.r hF (e [(44, 0), (45, 0), (46, 0)] (by decide)) h.c8, grp_MS.kp h.r hF (e [(73, 0), (74, 0), (75, 0)] (by decide)) h.m8, hs, grp_SI.kp h.r hF (e [(14, 4), (14, 5), (14, 6), (18, 0), (19, 0)] (by decide)) h.si, okR_of h.r (hF h.r.c).1⟩
theorem p_orders (h : IV np nm wo wi lo ct d k wh nu be af t tp lw n ro nb kd rn tr ty nn el M) (v1 : Int32) : ∃ a M1 M2, f_X10_orders v1 M = some (a, M1) ∧ f_X11_orders v1 M1 = some (a, M2) ∧ Inv M2 := by
  obtain ⟨M1, f1⟩ := cl_orders h.o1 h.c1 v1
  have h1 := h.kp (fr_X10_orders v1 M _ f1) (by decide)
  obtain ⟨M2, f2⟩ := mo_orders h1.r h1.o1 h1.m1 h1.z v1
  exact ⟨_, M1, M2, f1, f2, (h1.kp (fr_X11_orders v1 M1 _ f2) (by decide)).inv⟩
theorem p_sure (h : IV np nm wo wi lo ct d k wh nu be af t tp lw n ro nb kd rn tr ty nn el M) (v1 : Int32) : ∃ a M1 M2, f_X10_sure v1 M = some (a, M1) ∧ f_X11_sure v1 M1 = some (a, M2) ∧ Inv M2 := by
  obtain ⟨M1, f1⟩ := cl_sure h.o1 h.c1 v1
  have h1 := h.kp (fr_X10_sure v1 M _ f1) (by decide)
  obtain ⟨M2, f2⟩ := mo_sure h1.r h1.o1 h1.m1 h1.z v1
  exact ⟨_, M1, M2, f1, f2, (h1.kp (fr_X11_sure v1 M1 _ f2) (by decide)).inv⟩
theorem p_places (h : IV np nm wo wi lo ct d k wh nu be af t tp lw n ro nb kd rn tr ty nn el M) (v1 : Int32) : ∃ a M1 M2, f_X10_places v1 M = some (a, M1) ∧ f_X11_places v1 M1 = some (a, M2) ∧ Inv M2 := by
  obtain ⟨M1, f1⟩ := cl_places h.o1 h.c1 v1
  have h1 := h.kp (fr_X10_places v1 M _ f1) (by decide)
  obtain ⟨M2, f2⟩ := mo_places h1.r h1.o1 h1.m1 h1.z v1
  exact ⟨_, M1, M2, f1, f2, (h1.kp (fr_X11_places v1 M1 _ f2) (by decide)).inv⟩
theorem p_clash (h : IV np nm wo wi lo ct d k wh nu be af t tp lw n ro nb kd rn tr ty nn el M) : ∃ a M1 M2, f_X10_clash M = some (a, M1) ∧ f_X11_clash M1 = some (a, M2) ∧ Inv M2 := by
  obtain ⟨M1, f1⟩ := cl_clash h.o1 h.r h.c1 
  have h1 := h.kp (fr_X10_clash  M _ f1) (by decide)
  obtain ⟨M2, f2⟩ := mo_clash h1.o1 h1.r h1.m1 
  exact ⟨_, M1, M2, f1, f2, (h1.kp (fr_X11_clash  M1 _ f2) (by decide)).inv⟩
theorem p_ask (h : IV np nm wo wi lo ct d k wh nu be af t tp lw n ro nb kd rn tr ty nn el M) (v1 : Int32) (v2 : Int32) : ∃ a M1 M2, f_X10_ask v1 v2 M = some (a, M1) ∧ f_X11_ask v1 v2 M1 = some (a, M2) ∧ Inv M2 := by
  obtain ⟨M1, f1⟩ := cl_ask h.o1 h.c1 v1 v2
  have h1 := h.kp (fr_X10_ask v1 v2 M _ f1) (by decide)
  obtain ⟨M2, f2⟩ := mo_ask h1.r h1.o1 h1.m1 h1.z v1 v2
  exact ⟨_, M1, M2, f1, f2, (h1.kp (fr_X11_ask v1 v2 M1 _ f2) (by decide)).inv⟩
theorem p_longest (h : IV np nm wo wi lo ct d k wh nu be af t tp lw n ro nb kd rn tr ty nn el M) (v1 : Int32) : ∃ a M1 M2, f_X10_longest v1 M = some (a, M1) ∧ f_X11_longest v1 M1 = some (a, M2) ∧ Inv M2 := by
  obtain ⟨M1, f1⟩ := cl_longest h.o1 h.c1 v1
  have h1 := h.kp (fr_X10_longest v1 M _ f1) (by decide)
  obtain ⟨M2, f2⟩ := mo_longest h1.r h1.o1 h1.m1 h1.z v1
  exact ⟨_, M1, M2, f1, f2, (h1.kp (fr_X11_longest v1 M1 _ f2) (by decide)).inv⟩
theorem p_chance (h : IV np nm wo wi lo ct d k wh nu be af t tp lw n ro nb kd rn tr ty nn el M) (v1 : Int32) (v2 : Int32) : ∃ a M1 M2, f_X10_chance v1 v2 M = some (a, M1) ∧ f_X11_chance v1 v2 M1 = some (a, M2) ∧ Inv M2 := by
  obtain ⟨M1, f1⟩ := cl_chance h.c1 h.o1 h.c4 h.o4 v1 v2
  have h1 := h.kp (fr_X10_chance v1 v2 M _ f1) (by decide)
  obtain ⟨M2, f2⟩ := mo_chance h1.m1 h1.o1 h1.m4 h1.o4 v1 v2
  exact ⟨_, M1, M2, f1, f2, (h1.kp (fr_X11_chance v1 v2 M1 _ f2) (by decide)).inv⟩
theorem p_likely (h : IV np nm wo wi lo ct d k wh nu be af t tp lw n ro nb kd rn tr ty nn el M) (v1 : Int32) (v2 : Int32) (v3 : Int32) : ∃ a M1 M2, f_X10_likely v1 v2 v3 M = some (a, M1) ∧ f_X11_likely v1 v2 v3 M1 = some (a, M2) ∧ Inv M2 := by
  obtain ⟨M1, f1⟩ := cl_likely h.o1 h.o4 h.o5 h.c1 h.c4 h.c5 v1 v2 v3
  have h1 := h.kp (fr_X10_likely v1 v2 v3 M _ f1) (by decide)
  obtain ⟨M2, f2⟩ := mo_likely h1.r h1.o1 h1.o4 h1.o5 h1.m1 h1.m4 h1.m5 v1 v2 v3
  exact ⟨_, M1, M2, f1, f2, (h1.kp (fr_X11_likely v1 v2 v3 M1 _ f2) (by decide)).inv⟩
theorem p_friend (h : IV np nm wo wi lo ct d k wh nu be af t tp lw n ro nb kd rn tr ty nn el M) (v1 : Int32) : ∃ a M1 M2, f_X10_friend v1 M = some (a, M1) ∧ f_X11_friend v1 M1 = some (a, M2) ∧ Inv M2 := by
  obtain ⟨M1, f1⟩ := cl_friend h.o1 h.o4 h.o5 h.c1 h.c4 h.c5 v1
  have h1 := h.kp (fr_X10_friend v1 M _ f1) (by decide)
  obtain ⟨M2, f2⟩ := mo_friend h1.r h1.o1 h1.o4 h1.o5 h1.m1 h1.m4 h1.m5 v1
  exact ⟨_, M1, M2, f1, f2, (h1.kp (fr_X11_friend v1 M1 _ f2) (by decide)).inv⟩
theorem p_lots (h : IV np nm wo wi lo ct d k wh nu be af t tp lw n ro nb kd rn tr ty nn el M) (v1 : Int32) (v2 : Int32) (v3 : Int32) : ∃ a M1 M2, f_X10_lots v1 v2 v3 M = some (a, M1) ∧ f_X11_lots v1 v2 v3 M1 = some (a, M2) ∧ Inv M2 := by
  obtain ⟨M1, f1⟩ := cl_lots h.o1 h.o4 h.o5 h.c1 h.c4 h.c5 v1 v2 v3
  have h1 := h.kp (fr_X10_lots v1 v2 v3 M _ f1) (by decide)
  obtain ⟨M2, f2⟩ := mo_lots h1.r h1.o1 h1.o4 h1.o5 h1.m1 h1.m4 h1.m5 v1 v2 v3
  exact ⟨_, M1, M2, f1, f2, (h1.kp (fr_X11_lots v1 v2 v3 M1 _ f2) (by decide)).inv⟩
theorem p_champion (h : IV np nm wo wi lo ct d k wh nu be af t tp lw n ro nb kd rn tr ty nn el M) (v1 : Int32) : ∃ a M1 M2, f_X10_champion v1 M = some (a, M1) ∧ f_X11_champion v1 M1 = some (a, M2) ∧ Inv M2 := by
  obtain ⟨M1, f1⟩ := cl_champion h.o1 h.c1 h.c5 h.o5 v1
  have h1 := h.kp (fr_X10_champion v1 M _ f1) (by decide)
  obtain ⟨M2, f2⟩ := mo_champion h1.o1 h1.m1 h1.m5 h1.o5 v1
  exact ⟨_, M1, M2, f1, f2, (h1.kp (fr_X11_champion v1 M1 _ f2) (by decide)).inv⟩
theorem p_days (h : IV np nm wo wi lo ct d k wh nu be af t tp lw n ro nb kd rn tr ty nn el M) (v1 : Int32) (v2 : Int32) : ∃ a M1 M2, f_X10_days v1 v2 M = some (a, M1) ∧ f_X11_days v1 v2 M1 = some (a, M2) ∧ Inv M2 := by
  obtain ⟨M1, f1⟩ := cl_days h.o1 h.c1 v1 v2
  have h1 := h.kp (fr_X10_days v1 v2 M _ f1) (by decide)
  obtain ⟨M2, f2⟩ := mo_days h1.o1 h1.m1 v1 v2
  exact ⟨_, M1, M2, f1, f2, (h1.kp (fr_X11_days v1 v2 M1 _ f2) (by decide)).inv⟩
theorem p_worst (h : IV np nm wo wi lo ct d k wh nu be af t tp lw n ro nb kd rn tr ty nn el M) (v1 : Int32) : ∃ a M1 M2, f_X10_worst v1 M = some (a, M1) ∧ f_X11_worst v1 M1 = some (a, M2) ∧ Inv M2 := by
  obtain ⟨M1, f1, g1⟩ := cl_worst h.o1 h.c1 h.si h.r v1
  have h1 := h.kpS (fr_X10_worst v1 M _ f1) (by decide) g1
  obtain ⟨M2, f2, g2⟩ := mo_worst h1.r h1.o1 h1.m1 h1.z v1
  exact ⟨_, M1, M2, f1, f2, (h1.kpZ (fr_X11_worst v1 M1 _ f2) (by decide) g2).inv⟩
theorem p_mean (h : IV np nm wo wi lo ct d k wh nu be af t tp lw n ro nb kd rn tr ty nn el M) (v1 : Int32) (v2 : Int32) : ∃ a M1 M2, f_X10_mean v1 v2 M = some (a, M1) ∧ f_X11_mean v1 v2 M1 = some (a, M2) ∧ Inv M2 := by
  obtain ⟨M1, f1, g1⟩ := cl_mean h.o1 h.c1 h.si h.r v1 v2
  have h1 := h.kpS (fr_X10_mean v1 v2 M _ f1) (by decide) g1
  obtain ⟨M2, f2, g2⟩ := mo_mean h1.r h1.o1 h1.m1 h1.z v1 v2
  exact ⟨_, M1, M2, f1, f2, (h1.kpZ (fr_X11_mean v1 v2 M1 _ f2) (by decide) g2).inv⟩
theorem p_next (h : IV np nm wo wi lo ct d k wh nu be af t tp lw n ro nb kd rn tr ty nn el M) (v1 : Int32) (v2 : Int32) : ∃ a M1 M2, f_X10_next v1 v2 M = some (a, M1) ∧ f_X11_next v1 v2 M1 = some (a, M2) ∧ Inv M2 := by
  obtain ⟨M1, f1, g1⟩ := cl_next h.o1 h.c1 h.si h.r v1 v2
  have h1 := h.kpS (fr_X10_next v1 v2 M _ f1) (by decide) g1
  obtain ⟨M2, f2, g2⟩ := mo_next h1.r h1.o1 h1.m1 h1.z v1 v2
  exact ⟨_, M1, M2, f1, f2, (h1.kpZ (fr_X11_next v1 v2 M1 _ f2) (by decide) g2).inv⟩
theorem p_proof (h : IV np nm wo wi lo ct d k wh nu be af t tp lw n ro nb kd rn tr ty nn el M) (v1 : Int32) : ∃ a M1 M2, f_X10_proof v1 M = some (a, M1) ∧ f_X11_proof v1 M1 = some (a, M2) ∧ Inv M2 := by
  obtain ⟨B, M1, f1, g1⟩ := cl_proof h.o1 h.r h.c1 v1
  have h1 := h.kp (fr_X10_proof v1 M _ f1) (by decide)
  obtain ⟨B2, M2, f2, g2⟩ := mo_proof h1.r h1.o1 h1.m1 h1.z v1
  rw [← pro_u h.o1 g1 g2] at f2
  exact ⟨_, M1, M2, f1, f2, (h1.kp (fr_X11_proof v1 M1 _ f2) (by decide)).inv⟩
theorem p_wrong (h : IV np nm wo wi lo ct d k wh nu be af t tp lw n ro nb kd rn tr ty nn el M) : ∃ a M1 M2, f_X10_wrong M = some (a, M1) ∧ f_X11_wrong M1 = some (a, M2) ∧ Inv M2 := by
  obtain ⟨B, M1, f1, g1⟩ := cl_wrong h.o1 h.c1
  have h1 := h.kp (fr_X10_wrong M _ f1) (by decide)
  obtain ⟨B2, M2, f2, g2⟩ := mo_wrong h1.o1 h1.r h1.m1
  rw [← best_u (cms_lt h.o1) g1 g2] at f2
  exact ⟨_, M1, M2, f1, f2, (h1.kp (fr_X11_wrong M1 _ f2) (by decide)).inv⟩
theorem p_table (h : IV np nm wo wi lo ct d k wh nu be af t tp lw n ro nb kd rn tr ty nn el M) (v1 v2 : Int32) : ∃ a M1, f_X10_table v1 v2 M = some (a, M1) ∧ f_X11_table v1 v2 M1 = some a ∧ Inv M1 := by
  obtain ⟨M1, f1⟩ := cl_table h.o1 h.c1 v1 v2
  have h1 := h.kp (fr_X10_table v1 v2 M _ f1) (by decide)
  exact ⟨_, M1, f1, mo_table h1.o1 h1.m1 v1 v2, h1.inv⟩
theorem p_of (h : IV np nm wo wi lo ct d k wh nu be af t tp lw n ro nb kd rn tr ty nn el M) (v1 v2 : Int32) : ∃ a, f_X10_of v1 v2 M = some a ∧ f_X11_of v1 v2 M = some a := ⟨_, cl_of h.c1 h.o1 v1 v2, mo_of h.m1 h.o1 v1 v2⟩
theorem p_trace (h : IV np nm wo wi lo ct d k wh nu be af t tp lw n ro nb kd rn tr ty nn el M) (v1 : Int32) : ∃ a, f_X10_trace v1 M = some a ∧ f_X11_trace v1 M = some a := ⟨_, cl_trace h.c7 h.o7 v1, mo_trace h.m7 h.o7 v1⟩
theorem p_element (h : IV np nm wo wi lo ct d k wh nu be af t tp lw n ro nb kd rn tr ty nn el M) (v1 v2 : Int32) : ∃ a, f_X10_element v1 v2 M = some a ∧ f_X11_element v1 v2 M = some a := ⟨_, cl_element h.c8 h.o8 v1 v2, mo_element h.m8 h.o8 h.o6.1 v1 v2⟩
theorem p_taken (h : IV np nm wo wi lo ct d k wh nu be af t tp lw n ro nb kd rn tr ty nn el M) (v1 v2 : Int32) : ∃ a, f_X10_taken v1 v2 M = some a ∧ f_X11_taken v1 v2 M = some a := ⟨_, cl_taken h.c6 h.o6 h.c8 h.o8 v1 v2, mo_taken h.m6 h.o6 h.m8 h.o8 v1 v2⟩
theorem p_count (h : IV np nm wo wi lo ct d k wh nu be af t tp lw n ro nb kd rn tr ty nn el M) (v1 : Int32) : ∃ a, f_X10_count v1 M = some a ∧ f_X11_count v1 M = some a := by
  unfold f_X10_count f_X11_count
  rw [h.c1.1, h.c1.2.1, h.c5.1, h.c3.1, h.c2.1, h.c6.1, h.c7.1, h.m1.1, h.m1.2.1, h.m5.1, h.m3.1, h.m2.1, h.m6.1, h.m7.1]
  refine ⟨if v1 = 0 then nI np else if v1 = 1 then nI nm else if v1 = 2 then nI n else if v1 = 3 then nI t else if v1 = 4 then nI d else if v1 = 5 then nI nb else if v1 = 6 then nI rn else -1, ?_, ?_⟩ <;> (repeat' split) <;> rfl
end STP
