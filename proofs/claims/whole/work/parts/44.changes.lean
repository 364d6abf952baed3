/-! changes: mend, undo, redo -/
def upN (f : Nat → Nat) (d x : Nat) : Nat → Nat := fun j => if j = d then x else f j
def CC (d k : Nat) (wh nu be af : Nat → Nat) (M : Mem) : Prop := M.1 6 0 = nI d ∧ M.1 6 1 = nI k ∧ ∀ j, j < k → M.1 7 j = nI (wh j) ∧ M.1 8 j = nI (nu j) ∧ M.1 9 j = nI (be j) ∧ M.1 10 j = nI (af j)
def wher (wh nu : Nat → Nat) (j : Nat) : Nat := if wh j = 0 then nu j else 8 + nu j
def MC (d k : Nat) (wh nu be af : Nat → Nat) (M : Mem) : Prop := M.1 47 5 = nI d ∧ M.1 47 4 = nI k ∧ ∀ j, j < k → M.1 49 j = nI (wher wh nu j) ∧ M.1 50 j = nI (be j) ∧ M.1 51 j = nI (af j)
def OKC (np nm d k : Nat) (wh nu be af : Nat → Nat) : Prop := d ≤ k ∧ k ≤ 40 ∧ ∀ j, j < k → (wh j = 0 ∧ nu j < np ∧ be j ≤ 99 ∧ af j ≤ 99) ∨ (wh j = 1 ∧ nu j < nm ∧ be j ≤ 1 ∧ af j ≤ 1)
/-- the place of the next change, and what is kept ahead of it -/
def cd (d : Nat) : Nat := if d < 40 then d else 39
def cs (d : Nat) (f : Nat → Nat) : Nat → Nat := if d < 40 then f else fun j => f (j + 1)
theorem cpI_rd (M : Mem) (c sp d dp n a b : Nat) : (cpI M c sp d dp n).1 a b = if a = d ∧ dp ≤ b ∧ b < dp + n then M.1 c (sp + (b - dp)) else M.1 a b := by
  by_cases ha : a = d
  · subst ha
    simp [cpI, va_cpy]
  · simp [cpI, ha]
theorem s_X2_add {d k : Nat} {wh nu be af : Nat → Nat} {M : Mem} (hC : CC d k wh nu be af M) (hd : d ≤ k) (hk : k ≤ 40) (a b c e : Nat) : ∃ M1, f_X2_add (nI a) (nI b) (nI c) (nI e) M = some M1 ∧ CC (cd d + 1) (cd d + 1) (upN (cs d wh) (cd d) a) (upN (cs d nu) (cd d) b) (upN (cs d be) (cd d) c) (upN (cs d af) (cd d) e) M1 := by
  obtain ⟨h0, h1, h2⟩ := hC
  have el : (nI d < 40) = (d < 40) := propext (n_lt (b := 40) (by omega) (by omega))
  by_cases h : d < 40
  · refine ⟨_, by simp (disch := omega) [f_X2_add, f_X2_add_b13, h0, el, h, okI_7, okI_8, okI_9, okI_10, ck_T, lt_e, n_clamp, wI_rd, n_s1]; rfl, ?_⟩
    refine ⟨by simp [wI_rd, cd, h], by simp [wI_rd, cd, h], fun j hj => ?_⟩
    simp only [cd, h, if_true] at hj
    by_cases e1 : j = d
    · subst e1; simp [wI_rd, cd, cs, h, upN]
    · simp [wI_rd, cd, cs, h, upN, e1, h2 j (by omega)]
  · have e40 : d = 40 := by omega
    have k40 : k = 40 := by omega
    subst e40; subst k40
    have o7 : (okC 100 7 1 39 && okC 100 7 0 39) = true := by decide
    have o8 : (okC 100 8 1 39 && okC 100 8 0 39) = true := by decide
    have o9 : (okC 100 9 1 39 && okC 100 9 0 39) = true := by decide
    have o10 : (okC 100 10 1 39 && okC 100 10 0 39) = true := by decide
    have c1 : (1 : Int32).toNatClampNeg = 1 := by decide
    have c0 : (0 : Int32).toNatClampNeg = 0 := by decide
    have c39 : (39 : Int32).toNatClampNeg = 39 := by decide
    have p7 : okI 7 39 = true := by decide
    have p8 : okI 8 39 = true := by decide
    have p9 : okI 9 39 = true := by decide
    have p10 : okI 10 39 = true := by decide
    refine ⟨_, by simp [f_X2_add, f_X2_add_b13, f_X2_forgetOldest, h0, el, o7, o8, o9, o10, ck_T, lt_e, wI_rd, p7, p8, p9, p10, c1, c0, c39]; rfl, ?_⟩
    refine ⟨by simp [wI_rd, cd]; rfl, by simp [wI_rd, cd]; rfl, fun j hj => ?_⟩
    simp only [cd, h, if_false] at hj
    by_cases e1 : j = 39
    · subst e1; simp [wI_rd, cd, cs, upN]
    · have hj2 : j < 39 := by omega
      have := h2 (j + 1) (by omega)
      simp [wI_rd, cpI_rd, cd, cs, upN, e1, hj2, Nat.add_comm 1 j]
      exact this
def okMend (np nm : Nat) (v1 v2 v3 : Int32) : Bool := (decide (v2 = 0) && inN np v1 && inN 100 v3) || (decide (v2 = 1) && inN nm v1 && inN 2 v3)
theorem in2 (v : Int32) : inN 2 v = (decide (v = 0) || decide (v = 1)) := by
  have h0 : (0 : Int32).toInt = 0 := rfl
  have h1 : (1 : Int32).toInt = 1 := rfl
  simp only [inN, i_eq, h0, h1]
  rw [← Bool.decide_or]
  congr 1
  apply propext
  omega
section MEND
variable {np nm : Nat} {wo wi lo ct : Nat → Nat} {M : Mem} {d k : Nat} {wh nu be af : Nat → Nat}
theorem s_canBecome (hF : CF np nm wo wi lo ct M) (hO : OKF np nm wo wi lo ct) (v1 v2 v3 : Int32) : f_X4_canBecome v2 v1 v3 M = some (bb (okMend np nm v1 v2 v3)) := by
  have eP := s_hasPlayer hF.1 hO.1 v1
  have eM := s_hasMatch hF.2.1 hO.2.1 v1
  have eW := s_isWorth v3
  have e2 := in2 v3
  unfold f_X4_canBecome f_X4_canBecome_b47 okMend
  rw [eP, eM, eW, e2]
  by_cases a : v2 = 0
  · subst a
    cases inN np v1 <;> cases inN 100 v3 <;> simp [ite_bb, bb]
  · by_cases b : v2 = 1
    · subst b
      cases inN nm v1
      · simp [ite_bb, bb]
      · by_cases c : v3 = 0
        · subst c; simp [ite_bb, bb]
        · by_cases c1 : v3 = 1
          · subst c1; simp [ite_bb, bb]
          · simp [ite_bb, bb, c, c1]
    · simp [a, b, bb]
theorem mend_cases {v1 v2 v3 : Int32} (h : okMend np nm v1 v2 v3 = true) : (∃ j x, v2 = 0 ∧ j < np ∧ x ≤ 99 ∧ v1 = nI j ∧ v3 = nI x) ∨ (∃ j x, v2 = 1 ∧ j < nm ∧ x ≤ 1 ∧ v1 = nI j ∧ v3 = nI x) := by
  simp only [okMend, Bool.or_eq_true, Bool.and_eq_true, decide_eq_true_eq] at h
  rcases h with ⟨⟨h1, h2⟩, h3⟩ | ⟨⟨h1, h2⟩, h3⟩
  · obtain ⟨j, hj, -, e⟩ := inN_t h2
    obtain ⟨x, hx, -, e2⟩ := inN_t h3
    exact Or.inl ⟨j, x, h1, hj, by omega, e, e2⟩
  · obtain ⟨j, hj, -, e⟩ := inN_t h2
    obtain ⟨x, hx, -, e2⟩ := inN_t h3
    exact Or.inr ⟨j, x, h1, hj, by omega, e, e2⟩
theorem grp_CF : Grp [(1, 0), (2, 0), (3, 0), (4, 0), (5, 0)] (CF np nm wo wi lo ct) := by
  intro M M2 h _ hF
  obtain ⟨a, b, c, e⟩ := hF
  have r : ∀ q k, 1 ≤ q → q ≤ 5 → M2.1 q k = M.1 q k := fun q k h1 h2 => (h q k (in_a k (by
    have : q = 1 ∨ q = 2 ∨ q = 3 ∨ q = 4 ∨ q = 5 := by omega
    rcases this with rfl | rfl | rfl | rfl | rfl <;> decide))).1
  refine ⟨by rw [r 1 0 (by omega) (by omega)]; exact a, by rw [r 1 1 (by omega) (by omega)]; exact b, fun p hp => by rw [r 2 p (by omega) (by omega)]; exact c p hp, fun m hm => ?_⟩
  rw [r 3 m (by omega) (by omega), r 4 m (by omega) (by omega), r 5 m (by omega) (by omega)]
  exact e m hm
theorem grp_MF : Grp [(47, 7), (47, 8), (48, 0), (52, 0), (53, 0)] (MF np nm wo wi lo ct) := by
  intro M M2 h _ hF
  obtain ⟨a, b, c, e⟩ := hF
  have r48 : ∀ k, M2.1 48 k = M.1 48 k := fun k => (h 48 k (in_a k (by decide))).1
  have r52 : ∀ k, M2.1 52 k = M.1 52 k := fun k => (h 52 k (in_a k (by decide))).1
  have r53 : ∀ k, M2.1 53 k = M.1 53 k := fun k => (h 53 k (in_a k (by decide))).1
  refine ⟨by rw [(h 47 6 (in_f (by decide))).1]; exact a, by rw [(h 47 7 (in_f (by decide))).1]; exact b, fun p hp => by rw [r48]; exact c p hp, fun m hm => ?_⟩
  rw [r48, r52, r53]
  exact e m hm
theorem grp_CC : Grp [(6, 0), (7, 0), (8, 0), (9, 0), (10, 0)] (CC d k wh nu be af) := by
  intro M M2 h _ hF
  obtain ⟨a, b, c⟩ := hF
  have r : ∀ q k, 6 ≤ q → q ≤ 10 → M2.1 q k = M.1 q k := fun q k h1 h2 => (h q k (in_a k (by
    have : q = 6 ∨ q = 7 ∨ q = 8 ∨ q = 9 ∨ q = 10 := by omega
    rcases this with rfl | rfl | rfl | rfl | rfl <;> decide))).1
  refine ⟨by rw [r 6 0 (by omega) (by omega)]; exact a, by rw [r 6 1 (by omega) (by omega)]; exact b, fun p hp => ?_⟩
  rw [r 7 p (by omega) (by omega), r 8 p (by omega) (by omega), r 9 p (by omega) (by omega), r 10 p (by omega) (by omega)]
  exact c p hp
theorem grp_MC : Grp [(47, 6), (47, 5), (49, 0), (50, 0), (51, 0)] (MC d k wh nu be af) := by
  intro M M2 h _ hF
  obtain ⟨a, b, c⟩ := hF
  have r49 : ∀ k, M2.1 49 k = M.1 49 k := fun k => (h 49 k (in_a k (by decide))).1
  have r50 : ∀ k, M2.1 50 k = M.1 50 k := fun k => (h 50 k (in_a k (by decide))).1
  have r51 : ∀ k, M2.1 51 k = M.1 51 k := fun k => (h 51 k (in_a k (by decide))).1
  refine ⟨by rw [(h 47 5 (in_f (by decide))).1]; exact a, by rw [(h 47 4 (in_f (by decide))).1]; exact b, fun p hp => ?_⟩
  rw [r49, r50, r51]
  exact c p hp
theorem cl_mend_bad (hF : CF np nm wo wi lo ct M) (hO : OKF np nm wo wi lo ct) {v1 v2 v3 : Int32} (h : okMend np nm v1 v2 v3 = false) : f_X10_mend v1 v2 v3 M = some (-1, M) := by
  simp [f_X10_mend, s_canBecome hF hO, h, ite_bb]
theorem cl_mend_w0 (hF : CF np nm wo wi lo ct M) (hO : OKF np nm wo wi lo ct) {j : Nat} (hj : j < np) : f_X10_mend (nI j) 0 (nI (wo j)) M = some (nI (wo j), M) := by
  have hn := hO.1
  have hw := hO.2.2.1 j hj
  have h : okMend np nm (nI j) 0 (nI (wo j)) = true := by
    simp (disch := omega) [okMend, inN_n, hj]; omega
  simp (disch := omega) [f_X10_mend, s_canBecome hF hO, h, ite_bb, f_X4_valueOf, okI_2, ck_T, n_clamp, hF.2.2.1 j hj]
theorem cl_mend_c0 (hF : CF np nm wo wi lo ct M) (hO : OKF np nm wo wi lo ct) {j : Nat} (hj : j < nm) : f_X10_mend (nI j) 1 (nI (ct j)) M = some (nI (ct j), M) := by
  have hn := hO.2.1
  obtain ⟨-, -, -, hc⟩ := hO.2.2.2 j hj
  have h : okMend np nm (nI j) 1 (nI (ct j)) = true := by
    simp (disch := omega) [okMend, inN_n, hj]; omega
  simp (disch := omega) [f_X10_mend, s_canBecome hF hO, h, ite_bb, f_X4_valueOf, okI_5, ck_T, n_clamp, hF.2.2.2 j hj]
theorem cl_mend_w (hR : okR M) (hF : CF np nm wo wi lo ct M) (hO : OKF np nm wo wi lo ct) (hC : CC d k wh nu be af M) (hK : OKC np nm d k wh nu be af) {j x : Nat} (hj : j < np) (hx : x ≤ 99) (hne : wo j ≠ x) : ∃ M1, f_X10_mend (nI j) 0 (nI x) M = some (nI (wo j), M1) ∧ CF np nm (upN wo j x) wi lo ct M1 ∧ CC (cd d + 1) (cd d + 1) (upN (cs d wh) (cd d) 0) (upN (cs d nu) (cd d) j) (upN (cs d be) (cd d) (wo j)) (upN (cs d af) (cd d) x) M1 := by
  have hn := hO.1
  have hw := hO.2.2.1 j hj
  have h : okMend np nm (nI j) 0 (nI x) = true := by
    simp (disch := omega) [okMend, inN_n, hj]; omega
  obtain ⟨M1, e1, c1⟩ := s_X2_add hC hK.1 hK.2.1 0 j (wo j) x
  have F1 : CF np nm wo wi lo ct M1 := grp_CF.kp hR (fr_X2_add (nI 0) (nI j) (nI (wo j)) (nI x) M M1 e1) (by decide) hF
  have e0 : f_X2_add 0 (nI j) (nI (wo j)) (nI x) M = some M1 := e1
  refine ⟨wI M1 2 j (nI x), ?_, ?_, ?_⟩
  · simp (disch := omega) [f_X10_mend, s_canBecome hF hO, h, ite_bb, f_X4_valueOf, f_X4_become, okI_2, ck_T, n_clamp, hF.2.2.1 j hj, n_eq, hne, e0, lt_e]
  · obtain ⟨a, b, c, e⟩ := F1
    refine ⟨by simp [wI_rd, a], by simp [wI_rd, b], fun p hp => ?_, fun m hm => by simp [wI_rd, e m hm]⟩
    by_cases q : p = j
    · subst q; simp [wI_rd, upN]
    · simp [wI_rd, upN, q, c p hp]
  · obtain ⟨a, b, c⟩ := c1
    exact ⟨by simp [wI_rd, a], by simp [wI_rd, b], fun m hm => by simp [wI_rd, c m hm]⟩
theorem cl_mend_c (hR : okR M) (hF : CF np nm wo wi lo ct M) (hO : OKF np nm wo wi lo ct) (hC : CC d k wh nu be af M) (hK : OKC np nm d k wh nu be af) {j x : Nat} (hj : j < nm) (hx : x ≤ 1) (hne : ct j ≠ x) : ∃ M1, f_X10_mend (nI j) 1 (nI x) M = some (nI (ct j), M1) ∧ CF np nm wo wi lo (upN ct j x) M1 ∧ CC (cd d + 1) (cd d + 1) (upN (cs d wh) (cd d) 1) (upN (cs d nu) (cd d) j) (upN (cs d be) (cd d) (ct j)) (upN (cs d af) (cd d) x) M1 := by
  have hn := hO.2.1
  obtain ⟨-, -, -, hc⟩ := hO.2.2.2 j hj
  have h : okMend np nm (nI j) 1 (nI x) = true := by
    simp (disch := omega) [okMend, inN_n, hj]; omega
  obtain ⟨M1, e1, c1⟩ := s_X2_add hC hK.1 hK.2.1 1 j (ct j) x
  have F1 : CF np nm wo wi lo ct M1 := grp_CF.kp hR (fr_X2_add (nI 1) (nI j) (nI (ct j)) (nI x) M M1 e1) (by decide) hF
  have e0 : f_X2_add 1 (nI j) (nI (ct j)) (nI x) M = some M1 := e1
  refine ⟨wI M1 5 j (nI x), ?_, ?_, ?_⟩
  · simp (disch := omega) [f_X10_mend, s_canBecome hF hO, h, ite_bb, f_X4_valueOf, f_X4_become, okI_5, ck_T, n_clamp, hF.2.2.2 j hj, n_eq, hne, e0, lt_e]
  · obtain ⟨a, b, c, e⟩ := F1
    refine ⟨by simp [wI_rd, a], by simp [wI_rd, b], fun p hp => by simp [wI_rd, c p hp], fun m hm => ?_⟩
    by_cases q : m = j
    · subst q; simp [wI_rd, upN, e m hm]
    · simp [wI_rd, upN, q, e m hm]
  · obtain ⟨a, b, c⟩ := c1
    exact ⟨by simp [wI_rd, a], by simp [wI_rd, b], fun m hm => by simp [wI_rd, c m hm]⟩
/-- the model's rows moved up by one, as far as j -/
def shM (M : Mem) (j : Nat) : Mem := (fun a => if a = 49 ∨ a = 50 ∨ a = 51 then (fun i => if i + 1 < j then M.1 a (i + 1) else M.1 a i) else M.1 a, M.2)
theorem shM_rd (M : Mem) (j a i : Nat) : (shM M j).1 a i = if (a = 49 ∨ a = 50 ∨ a = 51) ∧ i + 1 < j then M.1 a (i + 1) else M.1 a i := by
  unfold shM
  by_cases h : a = 49 ∨ a = 50 ∨ a = 51
  · simp only [h, if_true, true_and]
  · simp only [h, if_false, false_and]
theorem mem_ext1 {M N : Mem} (h1 : ∀ a b, M.1 a b = N.1 a b) (h2 : M.2 = N.2) : M = N := Prod.ext (funext fun a => funext fun b => h1 a b) h2
theorem shM_1 (M : Mem) : shM M 1 = M := mem_ext1 (fun a b => by rw [shM_rd]; simp) rfl
theorem shM_s (M : Mem) {j : Nat} (hj : 1 ≤ j) : wI (wI (wI (shM M j) 49 (j - 1) (M.1 49 j)) 50 (j - 1) (M.1 50 j)) 51 (j - 1) (M.1 51 j) = shM M (j + 1) := by
  refine mem_ext1 (fun a b => ?_) rfl
  have e : j - 1 + 1 = j := by omega
  rw [wI_rd, wI_rd, wI_rd, shM_rd, shM_rd]
  by_cases hb : b = j - 1
  · subst hb
    by_cases h1 : a = 49
    · subst h1; simp [e]
    · by_cases h2 : a = 50
      · subst h2; simp [e]
      · by_cases h3 : a = 51
        · subst h3; simp [e]
        · simp [h1, h2, h3]
  · have hb1 : (b + 1 < j + 1) = (b + 1 < j) := propext ⟨fun _ => by omega, fun _ => by omega⟩
    simp only [hb, and_false, if_false, hb1]
theorem becomes_L : ∀ (r j n : Nat) (v1 v2 v3 : Int32), j + r = 40 → 1 ≤ j → r < n → f_X11_becomes_L26 n v1 v2 v3 (nI j) (shM M j) = f_X11_becomes_b97 v1 v2 v3 (wI (shM M 40) 47 5 (M.1 47 5 - 1))
  | 0, j, n, v1, v2, v3, h1, h2, h3 => by
    obtain ⟨n, rfl⟩ : ∃ n2, n = n2 + 1 := ⟨n - 1, by omega⟩
    have e : j = 40 := by omega
    subst e
    have e40 : (40 : Int32) ≤ nI 40 := by decide
    simp [f_X11_becomes_L26, e40, lt_e, shM_rd]
  | r + 1, j, n, v1, v2, v3, h1, h2, h3 => by
    obtain ⟨n, rfl⟩ : ∃ n2, n = n2 + 1 := ⟨n - 1, by omega⟩
    have e40 : ((40 : Int32) ≤ nI j) = (40 ≤ j) := propext (n_le (a := 40) (by omega) (by omega))
    have ej : nI j - 1 = nI (j - 1) := pk_sub (b := 1) h2
    have ih := becomes_L r (j + 1) n v1 v2 v3 (by omega) (by omega) (by omega)
    rw [← shM_s M h2] at ih
    rw [← ih]
    simp (disch := omega) [f_X11_becomes_L26, e40, show ¬ 40 ≤ j by omega, show ¬ j + 1 < j by omega, ej, okI_49, okI_50, okI_51, ck_T, lt_e, n_clamp, shM_rd, wI_rd, n_s1]
theorem s_becomes (hC : MC d k wh nu be af M) (hd : d ≤ k) (hk : k ≤ 40) {wv nv : Nat} {b : Nat} {q x : Nat} (hq : q = if wv = 0 then nv else 8 + nv) (hq2 : q < 20) (hb : M.1 48 q = nI b) (hb2 : b < 1000) (hx : x < 1000) (hne : b ≠ x) : ∃ M1, f_X11_becomes (nI q) (nI x) M = some (nI b, wI M1 48 q (nI x)) ∧ (∀ i, M1.1 48 i = M.1 48 i) ∧ MC (cd d + 1) (cd d + 1) (upN (cs d wh) (cd d) wv) (upN (cs d nu) (cd d) nv) (upN (cs d be) (cd d) b) (upN (cs d af) (cd d) x) (wI M1 48 q (nI x)) := by
  obtain ⟨h0, h1, h2⟩ := hC
  have el : (nI d = 40) = (d = 40) := propext (n_eq (b := 40) (by omega) (by omega))
  by_cases h : d < 40
  · have h4 : ¬ d = 40 := by omega
    refine ⟨_, by simp (disch := omega) [f_X11_becomes, f_X11_becomes_b97, hb, n_eq, hne, h0, el, h4, okI_48, okI_49, okI_50, okI_51, ck_T, lt_e, n_clamp, wI_rd, n_s1]; rfl, fun i => by simp [wI_rd], ?_⟩
    refine ⟨by simp [wI_rd, cd, h], by simp [wI_rd, cd, h], fun j hj => ?_⟩
    simp only [cd, h, if_true] at hj
    by_cases e1 : j = d
    · subst e1; simp [wI_rd, cd, cs, h, upN, wher, hq]
    · simp [wI_rd, cd, cs, h, upN, e1, wher, h2 j (by omega)]
  · have e40 : d = 40 := by omega
    have k40 : k = 40 := by omega
    subst e40; subst k40
    have L := becomes_L (M := M) 39 1 FU (nI q) (nI x) (nI b) (by omega) (by omega) (by show 39 < 5000; omega)
    rw [shM_1] at L
    have e39 : nI 40 - 1 = nI 39 := rfl
    have p49 : okI 49 (nI 39) = true := by decide
    have p50 : okI 50 (nI 39) = true := by decide
    have p51 : okI 51 (nI 39) = true := by decide
    have L2 : f_X11_becomes_L26 FU (nI q) (nI x) (nI b) 1 M = _ := L
    refine ⟨_, by simp (disch := omega) [f_X11_becomes, L2, f_X11_becomes_b97, hb, n_eq, hne, h0, el, okI_48, p49, p50, p51, e39, ck_T, lt_e, n_clamp, wI_rd, shM_rd, n_s1]; rfl, fun i => by simp [wI_rd, shM_rd], ?_⟩
    refine ⟨by simp [wI_rd, cd], by simp [wI_rd, cd], fun j hj => ?_⟩
    simp only [cd, h, if_false] at hj
    by_cases e1 : j = 39
    · subst e1; simp [wI_rd, cd, cs, upN, wher, hq]
    · have hj2 : j + 1 < 40 := by omega
      simp [wI_rd, shM_rd, cd, cs, upN, e1, hj2, wher, h2 (j + 1) (by omega)]
theorem mo_mend_x (hF : MF np nm wo wi lo ct M) (hO : OKF np nm wo wi lo ct) (v1 v2 v3 : Int32) : f_X11_mend v1 v2 v3 M = if okMend np nm v1 v2 v3 = true then (if v2 = 0 then bI (f_X11_becomes v1 v3 M) (fun a b => some (a, b)) else bI (f_X11_becomes (8 + v1) v3 M) (fun a b => some (a, b))) else some (-1, M) := by
  have eP := s_isPlayer hF.1 hO.1 v1
  have eM := s_isMatch hF.2.1 hO.2.1 v1
  have w1 := s_within_n 99 99 rfl v3
  have w2 := s_within_n 1 1 rfl v3
  unfold f_X11_mend okMend
  rw [eP, eM, w1, w2]
  by_cases a : v2 = 0
  · subst a
    cases inN np v1 <;> cases inN 100 v3 <;> simp [ite_bb, bb]
  · by_cases b : v2 = 1
    · subst b
      cases inN nm v1 <;> cases inN 2 v3 <;> simp [ite_bb, bb]
    · simp [a, b]
theorem bI_id {α : Type} (x : Option (α × Mem)) : bI x (fun a b => some (a, b)) = x := by cases x <;> rfl
theorem mo_mend_bad (hF : MF np nm wo wi lo ct M) (hO : OKF np nm wo wi lo ct) {v1 v2 v3 : Int32} (h : okMend np nm v1 v2 v3 = false) : f_X11_mend v1 v2 v3 M = some (-1, M) := by
  rw [mo_mend_x hF hO, h]; simp
theorem mo_mend_w0 (hF : MF np nm wo wi lo ct M) (hO : OKF np nm wo wi lo ct) {j : Nat} (hj : j < np) : f_X11_mend (nI j) 0 (nI (wo j)) M = some (nI (wo j), M) := by
  have hn := hO.1
  have hw := hO.2.2.1 j hj
  have h : okMend np nm (nI j) 0 (nI (wo j)) = true := by
    simp (disch := omega) [okMend, inN_n, hj]; omega
  rw [mo_mend_x hF hO, h]
  simp (disch := omega) [bI_id, f_X11_becomes, okI_48, ck_T, lt_e, n_clamp, hF.2.2.1 j hj]
theorem mo_mend_c0 (hF : MF np nm wo wi lo ct M) (hO : OKF np nm wo wi lo ct) {j : Nat} (hj : j < nm) : f_X11_mend (nI j) 1 (nI (ct j)) M = some (nI (ct j), M) := by
  have hn := hO.2.1
  obtain ⟨-, -, -, hc⟩ := hO.2.2.2 j hj
  have h : okMend np nm (nI j) 1 (nI (ct j)) = true := by
    simp (disch := omega) [okMend, inN_n, hj]; omega
  have e8 : (8 : Int32) + nI j = nI (8 + j) := nI_add 8 j
  rw [mo_mend_x hF hO, h]
  simp (disch := omega) [bI_id, e8, f_X11_becomes, okI_48, ck_T, lt_e, n_clamp, hF.2.2.2 j hj]
theorem mo_mend_w (hR : okR M) (hF : MF np nm wo wi lo ct M) (hO : OKF np nm wo wi lo ct) (hC : MC d k wh nu be af M) (hK : OKC np nm d k wh nu be af) {j x : Nat} (hj : j < np) (hx : x ≤ 99) (hne : wo j ≠ x) : ∃ M1, f_X11_mend (nI j) 0 (nI x) M = some (nI (wo j), M1) ∧ MF np nm (upN wo j x) wi lo ct M1 ∧ MC (cd d + 1) (cd d + 1) (upN (cs d wh) (cd d) 0) (upN (cs d nu) (cd d) j) (upN (cs d be) (cd d) (wo j)) (upN (cs d af) (cd d) x) M1 := by
  have hn := hO.1
  have hw := hO.2.2.1 j hj
  have h : okMend np nm (nI j) 0 (nI x) = true := by
    simp (disch := omega) [okMend, inN_n, hj]; omega
  obtain ⟨M1, e1, e2, c1⟩ := s_becomes hC hK.1 hK.2.1 (wv := 0) (nv := j) (q := j) (b := wo j) (x := x) rfl (by omega) (hF.2.2.1 j hj) (by omega) (by omega) hne
  refine ⟨_, by rw [mo_mend_x hF hO, h]; simp only [if_true, bI_id]; exact e1, ?_, c1⟩
  have fr := fr_X11_becomes (nI j) (nI x) M _ e1 hR.c
  obtain ⟨a, b, c, e⟩ := hF
  refine ⟨?_, ?_, fun p hp => ?_, fun m hm => ?_⟩
  · rw [(fr.2 47 6 (by rintro ⟨e, he, e1, e2⟩; simp at he; rcases he with rfl | rfl | rfl | rfl | rfl | rfl <;> simp_all)).1]; exact a
  · rw [(fr.2 47 7 (by rintro ⟨e, he, e1, e2⟩; simp at he; rcases he with rfl | rfl | rfl | rfl | rfl | rfl <;> simp_all)).1]; exact b
  · by_cases q : p = j
    · subst q; simp [wI_rd, upN]
    · simp [wI_rd, upN, q, e2, c p hp]
  · rw [(fr.2 52 m (by rintro ⟨e, he, e1, e2⟩; simp at he; rcases he with rfl | rfl | rfl | rfl | rfl | rfl <;> simp_all)).1, (fr.2 53 m (by rintro ⟨e, he, e1, e2⟩; simp at he; rcases he with rfl | rfl | rfl | rfl | rfl | rfl <;> simp_all)).1]
    simp [wI_rd, e2, show ¬ 8 + m = j by omega, e m hm]
theorem mo_mend_c (hR : okR M) (hF : MF np nm wo wi lo ct M) (hO : OKF np nm wo wi lo ct) (hC : MC d k wh nu be af M) (hK : OKC np nm d k wh nu be af) {j x : Nat} (hj : j < nm) (hx : x ≤ 1) (hne : ct j ≠ x) : ∃ M1, f_X11_mend (nI j) 1 (nI x) M = some (nI (ct j), M1) ∧ MF np nm wo wi lo (upN ct j x) M1 ∧ MC (cd d + 1) (cd d + 1) (upN (cs d wh) (cd d) 1) (upN (cs d nu) (cd d) j) (upN (cs d be) (cd d) (ct j)) (upN (cs d af) (cd d) x) M1 := by
  have hn := hO.2.1
  have hp8 := hO.1
  obtain ⟨-, -, -, hc⟩ := hO.2.2.2 j hj
  have h : okMend np nm (nI j) 1 (nI x) = true := by
    simp (disch := omega) [okMend, inN_n, hj]; omega
  have e8 : (8 : Int32) + nI j = nI (8 + j) := nI_add 8 j
  obtain ⟨M1, e1, e2, c1⟩ := s_becomes hC hK.1 hK.2.1 (wv := 1) (nv := j) (q := 8 + j) (b := ct j) (x := x) rfl (by omega) (hF.2.2.2 j hj).2.2 (by omega) (by omega) hne
  refine ⟨_, by rw [mo_mend_x hF hO, h]; simp only [if_true, bI_id, e8]; exact e1, ?_, c1⟩
  have fr := fr_X11_becomes (nI (8 + j)) (nI x) M _ e1 hR.c
  obtain ⟨a, b, c, e⟩ := hF
  refine ⟨?_, ?_, fun p hp => ?_, fun m hm => ?_⟩
  · rw [(fr.2 47 6 (by rintro ⟨e, he, e1, e2⟩; simp at he; rcases he with rfl | rfl | rfl | rfl | rfl | rfl <;> simp_all)).1]; exact a
  · rw [(fr.2 47 7 (by rintro ⟨e, he, e1, e2⟩; simp at he; rcases he with rfl | rfl | rfl | rfl | rfl | rfl <;> simp_all)).1]; exact b
  · simp [wI_rd, e2, show ¬ p = 8 + j by omega, c p hp]
  · rw [(fr.2 52 m (by rintro ⟨e, he, e1, e2⟩; simp at he; rcases he with rfl | rfl | rfl | rfl | rfl | rfl <;> simp_all)).1, (fr.2 53 m (by rintro ⟨e, he, e1, e2⟩; simp at he; rcases he with rfl | rfl | rfl | rfl | rfl | rfl <;> simp_all)).1]
    by_cases q : m = j
    · subst q; simp [wI_rd, upN, e m hm]
    · simp [wI_rd, upN, q, e2, e m hm]
/-- undo, redo: what a change is of becomes v -/
def cw (wo : Nat → Nat) (w n v : Nat) : Nat → Nat := if w = 0 then upN wo n v else wo
def cc (ct : Nat → Nat) (w n v : Nat) : Nat → Nat := if w = 0 then ct else upN ct n v
theorem s_become (hF : CF np nm wo wi lo ct M) (hO : OKF np nm wo wi lo ct) {w n v : Nat} (hw : (w = 0 ∧ n < np) ∨ (w = 1 ∧ n < nm)) : ∃ M1, f_X4_become (nI w) (nI n) (nI v) M = some M1 ∧ CF np nm (cw wo w n v) wi lo (cc ct w n v) M1 ∧ (∀ c i, 6 ≤ c → M1.1 c i = M.1 c i) ∧ M1.2 = M.2 := by
  have hn := hO.1
  have hm := hO.2.1
  obtain ⟨a, b, c, e⟩ := hF
  rcases hw with ⟨rfl, h⟩ | ⟨rfl, h⟩
  · refine ⟨wI M 2 n (nI v), by simp (disch := omega) [f_X4_become, show nI 0 = 0 from rfl, okI_2, ck_T, lt_e, n_clamp], ⟨by simp [wI_rd, a], by simp [wI_rd, b], fun p hp => ?_, fun m hm => by simp [wI_rd, cc, e m hm]⟩, fun c i hc => by rw [wI_rd, if_neg (by omega)], rfl⟩
    by_cases q : p = n
    · subst q; simp [wI_rd, cw, upN]
    · simp [wI_rd, cw, upN, q, c p hp]
  · refine ⟨wI M 5 n (nI v), by simp (disch := omega) [f_X4_become, show ¬ nI 1 = 0 by decide, okI_5, ck_T, lt_e, n_clamp], ⟨by simp [wI_rd, a], by simp [wI_rd, b], fun p hp => by simp [wI_rd, cw, c p hp], fun m hm => ?_⟩, fun c i hc => by rw [wI_rd, if_neg (by omega)], rfl⟩
    by_cases q : m = n
    · subst q; simp [wI_rd, cc, upN, e m hm]
    · simp [wI_rd, cc, upN, q, e m hm]
theorem chg (hK : OKC np nm d k wh nu be af) {j : Nat} (hj : j < k) : (wh j = 0 ∧ nu j < np) ∨ (wh j = 1 ∧ nu j < nm) := (hK.2.2 j hj).elim (fun h => Or.inl ⟨h.1, h.2.1⟩) (fun h => Or.inr ⟨h.1, h.2.1⟩)
theorem cl_undo (hF : CF np nm wo wi lo ct M) (hO : OKF np nm wo wi lo ct) (hC : CC d k wh nu be af M) (hK : OKC np nm d k wh nu be af) : (d = 0 ∧ f_X10_undo M = some (-5, M)) ∨ (∃ j M1, d = j + 1 ∧ f_X10_undo M = some (nI j, M1) ∧ CF np nm (cw wo (wh j) (nu j) (be j)) wi lo (cc ct (wh j) (nu j) (be j)) M1 ∧ CC j k wh nu be af M1) := by
  obtain ⟨h0, h1, h2⟩ := hC
  have hk := hK.1
  have hk2 := hK.2.1
  cases d with
  | zero => exact Or.inl ⟨rfl, by simp [f_X10_undo, f_X2_goBack, h0, show nI 0 = 0 from rfl, bI_s]⟩
  | succ j =>
    refine Or.inr ⟨j, ?_⟩
    have F1 : CF np nm wo wi lo ct (wI M 6 0 (nI j)) := grp_CF M _ (fun c k hc => ⟨by
      rw [wI_rd, if_neg]; rintro ⟨rfl, -⟩
      obtain ⟨e, he, e1, -⟩ := hc
      simp at he; rcases he with rfl | rfl | rfl | rfl | rfl <;> simp at e1, rfl⟩) rfl hF
    obtain ⟨M1, e1, F2, fr, fr2⟩ := s_become F1 hO (v := be j) (chg hK (show j < k by omega))
    obtain ⟨a1, a2, a3, a4⟩ := h2 j (by omega)
    have ne : ¬ nI (j + 1) = 0 := fun q => by have := (n_eq (b := 0) (by omega) (by omega)).mp q; omega
    refine ⟨M1, rfl, ?_, F2, ?_⟩
    · simp (disch := omega) [f_X10_undo, f_X2_goBack, h0, ne, n_p1, lt_e, wI_rd, okI_7, okI_8, okI_9, ck_T, n_clamp, a1, a2, a3, e1, fr, bI_s]
    · refine ⟨by rw [fr 6 0 (by omega)]; simp [wI_rd], by rw [fr 6 1 (by omega)]; simp [wI_rd, h1], fun i hi => ?_⟩
      rw [fr 7 i (by omega), fr 8 i (by omega), fr 9 i (by omega), fr 10 i (by omega)]
      simp [wI_rd, h2 i hi]
theorem mo_undo (hF : MF np nm wo wi lo ct M) (hO : OKF np nm wo wi lo ct) (hC : MC d k wh nu be af M) (hK : OKC np nm d k wh nu be af) : (d = 0 ∧ f_X11_undo M = some (-5, M)) ∨ (∃ j M1, d = j + 1 ∧ f_X11_undo M = some (nI j, M1) ∧ MF np nm (cw wo (wh j) (nu j) (be j)) wi lo (cc ct (wh j) (nu j) (be j)) M1 ∧ MC j k wh nu be af M1) := by
  obtain ⟨h0, h1, h2⟩ := hC
  obtain ⟨a, b, c, e⟩ := hF
  have hk := hK.1
  have hk2 := hK.2.1
  have hn := hO.1
  have hm := hO.2.1
  cases d with
  | zero => exact Or.inl ⟨rfl, by simp [f_X11_undo, h0, show nI 0 = 0 from rfl]⟩
  | succ j =>
    refine Or.inr ⟨j, ?_⟩
    obtain ⟨a1, a2, a3⟩ := h2 j (by omega)
    have ne : ¬ nI (j + 1) = 0 := fun q => by have := (n_eq (b := 0) (by omega) (by omega)).mp q; omega
    have hw := chg hK (show j < k by omega)
    have hq : wher wh nu j < 20 := by unfold wher; split <;> omega
    refine ⟨_, rfl, by simp (disch := omega) [f_X11_undo, h0, ne, n_p1, lt_e, wI_rd, okI_49, okI_50, okI_48, ck_T, n_clamp, a1, a2]; rfl, ⟨by simp [wI_rd, a], by simp [wI_rd, b], fun p hp => ?_, fun m hm => ?_⟩, by simp [wI_rd], by simp [wI_rd, h1], fun i hi => by simp [wI_rd, h2 i hi]⟩
    · rcases hw with ⟨w0, w1⟩ | ⟨w0, w1⟩
      · by_cases q : p = nu j
        · subst q; simp [wI_rd, wher, w0, cw, upN]
        · simp [wI_rd, wher, w0, cw, upN, q, c p hp]
      · simp [wI_rd, wher, w0, cw, show ¬ p = 8 + nu j by omega, c p hp]
    · rcases hw with ⟨w0, w1⟩ | ⟨w0, w1⟩
      · simp [wI_rd, wher, w0, cc, show ¬ 8 + m = nu j by omega, e m hm]
      · by_cases q : m = nu j
        · subst q; simp [wI_rd, wher, w0, cc, upN, e (nu j) hm]
        · simp [wI_rd, wher, w0, cc, upN, q, e m hm]
theorem cl_redo (hF : CF np nm wo wi lo ct M) (hO : OKF np nm wo wi lo ct) (hC : CC d k wh nu be af M) (hK : OKC np nm d k wh nu be af) : (d = k ∧ f_X10_redo M = some (-5, M)) ∨ (∃ M1, d < k ∧ f_X10_redo M = some (nI (k - (d + 1)), M1) ∧ CF np nm (cw wo (wh d) (nu d) (af d)) wi lo (cc ct (wh d) (nu d) (af d)) M1 ∧ CC (d + 1) k wh nu be af M1) := by
  obtain ⟨h0, h1, h2⟩ := hC
  have hk := hK.1
  have hk2 := hK.2.1
  by_cases hd : d < k
  · right
    obtain ⟨M1, e1, F2, fr, fr2⟩ := s_become hF hO (v := af d) (chg hK hd)
    obtain ⟨a1, a2, a3, a4⟩ := h2 d hd
    have es : nI k - nI (d + 1) = nI (k - (d + 1)) := pk_sub (by omega)
    refine ⟨wI M1 6 0 (nI (d + 1)), hd, ?_, ?_, ?_⟩
    · simp (disch := omega) [f_X10_redo, f_X2_goOn, h0, h1, n_lt, hd, okI_7, okI_8, okI_10, ck_T, n_clamp, a1, a2, a4, e1, fr, lt_e, wI_rd, n_s1, es, bI_s]
    · exact grp_CF M1 _ (fun c k hc => ⟨by
        rw [wI_rd, if_neg]; rintro ⟨rfl, -⟩
        obtain ⟨e, he, e1, -⟩ := hc
        simp at he; rcases he with rfl | rfl | rfl | rfl | rfl <;> simp at e1, rfl⟩) rfl F2
    · refine ⟨by simp [wI_rd], by rw [wI_rd, if_neg (by omega), fr 6 1 (by omega)]; exact h1, fun i hi => ?_⟩
      simp [wI_rd, fr, h2 i hi]
  · left
    have e : d = k := by omega
    subst e
    exact ⟨rfl, by simp (disch := omega) [f_X10_redo, f_X2_goOn, h0, h1, n_lt, bI_s]⟩
theorem mo_redo (hF : MF np nm wo wi lo ct M) (hO : OKF np nm wo wi lo ct) (hC : MC d k wh nu be af M) (hK : OKC np nm d k wh nu be af) : (d = k ∧ f_X11_redo M = some (-5, M)) ∨ (∃ M1, d < k ∧ f_X11_redo M = some (nI (k - (d + 1)), M1) ∧ MF np nm (cw wo (wh d) (nu d) (af d)) wi lo (cc ct (wh d) (nu d) (af d)) M1 ∧ MC (d + 1) k wh nu be af M1) := by
  obtain ⟨h0, h1, h2⟩ := hC
  obtain ⟨a, b, c, e⟩ := hF
  have hk := hK.1
  have hk2 := hK.2.1
  have hn := hO.1
  have hm := hO.2.1
  by_cases hd : d < k
  · right
    obtain ⟨a1, a2, a3⟩ := h2 d hd
    have hw := chg hK hd
    have hq : wher wh nu d < 20 := by unfold wher; split <;> omega
    have es : nI k - nI (d + 1) = nI (k - (d + 1)) := pk_sub (by omega)
    have ne : ¬ nI d = nI k := fun q => by have := (n_eq (by omega) (by omega)).mp q; omega
    refine ⟨_, hd, by simp (disch := omega) [f_X11_redo, h0, h1, ne, lt_e, wI_rd, okI_49, okI_51, okI_48, ck_T, n_clamp, a1, a3, n_s1, es]; rfl, ⟨by simp [wI_rd, a], by simp [wI_rd, b], fun p hp => ?_, fun m hm => ?_⟩, by simp [wI_rd], by simp [wI_rd, h1], fun i hi => by simp [wI_rd, h2 i hi]⟩
    · rcases hw with ⟨w0, w1⟩ | ⟨w0, w1⟩
      · by_cases q : p = nu d
        · subst q; simp [wI_rd, wher, w0, cw, upN]
        · simp [wI_rd, wher, w0, cw, upN, q, c p hp]
      · simp [wI_rd, wher, w0, cw, show ¬ p = 8 + nu d by omega, c p hp]
    · rcases hw with ⟨w0, w1⟩ | ⟨w0, w1⟩
      · simp [wI_rd, wher, w0, cc, show ¬ 8 + m = nu d by omega, e m hm]
      · by_cases q : m = nu d
        · subst q; simp [wI_rd, wher, w0, cc, upN, e (nu d) hm]
        · simp [wI_rd, wher, w0, cc, upN, q, e m hm]
  · left
    have e : d = k := by omega
    subst e
    exact ⟨rfl, by simp [f_X11_redo, h0, h1]⟩
end MEND
