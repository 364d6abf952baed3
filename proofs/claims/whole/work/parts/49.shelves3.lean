/-! shift, taken -/
section SHELF3
variable {nb : Nat} {kd : Nat → Nat} {ty nn : Nat → Nat} {el : Nat → Nat → Int64} {M : Mem}
/-- what shift answers; n where it does it -/
def shOK (ty nn : Nat → Nat) (d e : Nat) (i j n : Int32) : Prop := 0 ≤ i.toInt ∧ 0 ≤ j.toInt ∧ 0 ≤ n.toInt ∧ i.toInt + n.toInt ≤ nn d ∧ j.toInt + n.toInt ≤ nn e
def shV (ty nn : Nat → Nat) (v1 v2 v3 v4 v5 : Int32) : Int32 :=
  if ¬ (inN 6 v1 = true ∧ inN 6 v3 = true) then -1
  else if ty v1.toNatClampNeg = 6 ∨ ty v3.toNatClampNeg = 6 then -11
  else if ¬ (ty v1.toNatClampNeg ≤ 4 ∧ ty v1.toNatClampNeg = ty v3.toNatClampNeg) then -12
  else -13
def mvE (el : Nat → Nat → Int64) (d i e j n : Nat) : Nat → Nat → Int64 := fun a b => if a = e ∧ j ≤ b ∧ b < j + n then el d (i + (b - j)) else el a b
theorem s_areLike (hC : CS ty nn el M) (hO : OKS nb ty nn el) {d e : Nat} (hd : d < 6) (he : e < 6) : f_X9_areLikeRows (nI d) (nI e) M = some (bb (decide (ty d ≤ 4 ∧ ty d = ty e))) := by
  have h := hO d hd
  have h2 := hO e he
  obtain ⟨a, -, -, -, e3⟩ := ck6 hd
  obtain ⟨a2, -, -, -, e32⟩ := ck6 he
  by_cases q : ty d ≤ 4
  · by_cases q2 : ty d = ty e
    · simp (disch := omega) [f_X9_areLikeRows, a, a2, ck_T, e3, e32, (hC d hd).1, (hC e he).1, s_isSort, inN_n, show ty d < 5 by omega, ite_bb, n_eq, q, q2, bb]
      simp (disch := omega) [show ty e < 5 by omega, show ty e ≤ 4 by omega, bb]
    · simp (disch := omega) [f_X9_areLikeRows, a, a2, ck_T, e3, e32, (hC d hd).1, (hC e he).1, s_isSort, inN_n, show ty d < 5 by omega, ite_bb, n_eq, q, q2, bb]
  · simp (disch := omega) [f_X9_areLikeRows, a, a2, ck_T, e3, e32, (hC d hd).1, (hC e he).1, s_isSort, inN_n, show ¬ ty d < 5 by omega, ite_bb, q, bb]
theorem i_sub {a b : Int32} (h1 : -2147483648 ≤ a.toInt - b.toInt) (h2 : a.toInt - b.toInt < 2147483648) : (a - b).toInt = a.toInt - b.toInt := by
  rw [Int32.toInt_sub]
  exact Int.bmod_eq_of_le (by omega) (by omega)
theorem s_hasRange (hC : CS ty nn el M) (hO : OKS nb ty nn el) {d : Nat} (hd : d < 6) (h4 : ty d ≤ 4) (i n : Int32) : f_X9_hasRange (nI d) i n M = some (bb (decide (0 ≤ i.toInt ∧ 0 ≤ n.toInt ∧ i.toInt + n.toInt ≤ nn d))) := by
  have hn := (hO d hd).2.2.1 h4
  have z : (0 : Int32).toInt = 0 := rfl
  have ri := i_rng i
  unfold f_X9_hasRange
  rw [s_lengthOf hC hO hd, if_pos h4, bd_s]
  simp only [i_lt, z]
  by_cases h1 : i.toInt < 0
  · rw [if_pos h1, decide_eq_false (by omega)]; rfl
  · rw [if_neg h1]
    by_cases h2 : n.toInt < 0
    · rw [if_pos h2, decide_eq_false (by omega)]; rfl
    · rw [if_neg h2, i_sub (by rw [n_toInt (by omega)]; omega) (by rw [n_toInt (by omega)]; omega), n_toInt (by omega)]
      by_cases h3 : (nn d : Int) - i.toInt < n.toInt
      · rw [if_pos h3, decide_eq_false (by omega)]; rfl
      · rw [if_neg h3, decide_eq_true (by omega)]; rfl
theorem okC_t {kd c i n : Nat} (hk : ab_k c = kd) (h : i + n ≤ ab_n c) (hb : ab_n c < 100000) : okC kd c (nI i) (nI n) = true := by
  unfold okC
  rw [decide_eq_true]
  exact ⟨hk, nI_pos (by omega), nI_pos (by omega), by rw [n_clamp (by omega), n_clamp (by omega)]; exact h⟩
theorem cpL_rd (M : Mem) (c sp d dp n a b : Nat) : (cpL M c sp d dp n).2.1 a b = if a = d ∧ dp ≤ b ∧ b < dp + n then M.2.1 c (sp + (b - dp)) else M.2.1 a b := by
  by_cases ha : a = d
  · subst ha
    simp [cpL, va_cpy]
  · simp [cpL, ha]
theorem sh_nat {ty nn : Nat → Nat} {d e : Nat} {i j n : Int32} (h : shOK ty nn d e i j n) (hd : nn d ≤ 60) : ∃ i' j' n' : Nat, i = nI i' ∧ j = nI j' ∧ n = nI n' ∧ i' + n' ≤ nn d ∧ j' + n' ≤ nn e := by
  obtain ⟨h1, h2, h3, h4, h5⟩ := h
  exact ⟨_, _, _, n_of h1, n_of h2, n_of h3, by omega, by omega⟩
theorem cl_shift (hC : CS ty nn el M) (hO : OKS nb ty nn el) (v1 v2 v3 v4 v5 : Int32) : (f_X10_shift v1 v2 v3 v4 v5 M = some (shV ty nn v1 v2 v3 v4 v5, M) ∧ ¬ ∃ d e, d < 6 ∧ e < 6 ∧ v1 = nI d ∧ v3 = nI e ∧ ty d ≤ 4 ∧ ty d = ty e ∧ shOK ty nn d e v2 v4 v5) ∨ ∃ d e i j n M1, d < 6 ∧ e < 6 ∧ ty d ≤ 4 ∧ ty d = ty e ∧ v1 = nI d ∧ v3 = nI e ∧ v2 = nI i ∧ v4 = nI j ∧ v5 = nI n ∧ i + n ≤ nn d ∧ j + n ≤ nn e ∧ f_X10_shift v1 v2 v3 v4 v5 M = some (nI n, M1) ∧ CS ty nn (mvE el d i e j n) M1 := by
  unfold f_X10_shift shV
  rw [s_isShelf, bd_s, ite_bb, s_isShelf, bd_s, ite_bb]
  cases h1 : inN 6 v1
  · left
    refine ⟨by simp, ?_⟩
    rintro ⟨d, e, hd, he, rfl, rfl, -⟩
    rw [inN_n (by omega)] at h1; simp at h1; omega
  · cases h3 : inN 6 v3
    · left
      refine ⟨by simp, ?_⟩
      rintro ⟨d, e, hd, he, rfl, rfl, -⟩
      rw [inN_n (by omega)] at h3; simp at h3; omega
    · obtain ⟨d, hd, hd2, rfl⟩ := inN_t h1
      obtain ⟨e, he, he2, rfl⟩ := inN_t h3
      have inj : ∀ {d2 e2 : Nat}, d2 < 6 → e2 < 6 → nI d = nI d2 → nI e = nI e2 → d2 = d ∧ e2 = e := fun a b c f => ⟨((n_eq (by omega) (by omega)).mp c).symm, ((n_eq (by omega) (by omega)).mp f).symm⟩
      rw [s_isEmpty hC hO hd, s_isEmpty hC hO he, bd_s, ite_bb, bd_s, ite_bb, n_clamp hd2, n_clamp he2, s_areLike hC hO hd he, bd_s, ite_bb]
      by_cases q1 : ty d = 6
      · left
        refine ⟨by simp [q1], ?_⟩
        rintro ⟨d2, e2, a1, a2, a3, a4, a5, -⟩
        obtain ⟨rfl, rfl⟩ := inj a1 a2 a3 a4
        omega
      · by_cases q2 : ty e = 6
        · left
          refine ⟨by simp [q1, q2], ?_⟩
          rintro ⟨d2, e2, a1, a2, a3, a4, a5, a6, -⟩
          obtain ⟨rfl, rfl⟩ := inj a1 a2 a3 a4
          omega
        · by_cases q3 : ty d ≤ 4 ∧ ty d = ty e
          · have h60d := (hO d hd).2.2.1 q3.1
            have h60e := (hO e he).2.2.1 (by omega)
            have qe : ty e ≤ 4 := by omega
            have qe2 : ¬ 4 < ty e := by omega
            rw [s_hasRange hC hO hd q3.1, s_hasRange hC hO he (by omega), bd_s, ite_bb, bd_s, ite_bb]
            by_cases q4 : shOK ty nn d e v2 v4 v5
            · right
              obtain ⟨i, j, n, rfl, rfl, rfl, b1, b2⟩ := sh_nat q4 h60d
              refine ⟨d, e, i, j, n, cpL M 46 (60 * d + i) 46 (60 * e + j) n, hd, he, q3.1, q3.2, rfl, rfl, rfl, rfl, rfl, b1, b2, ?_, ?_⟩
              · have c1 : decide (0 ≤ (nI i).toInt ∧ 0 ≤ (nI n).toInt ∧ (nI i).toInt + (nI n).toInt ≤ nn d) = true := decide_eq_true ⟨q4.1, q4.2.2.1, q4.2.2.2.1⟩
                have c2 : decide (0 ≤ (nI j).toInt ∧ 0 ≤ (nI n).toInt ∧ (nI j).toInt + (nI n).toInt ≤ nn e) = true := decide_eq_true ⟨q4.2.1, q4.2.2.1, q4.2.2.2.2⟩
                have o1 := okC_t (kd := 101) (c := 46) (i := 60 * d + i) (n := n) rfl (by show _ ≤ 360; omega) (by decide)
                have o2 := okC_t (kd := 101) (c := 46) (i := 60 * e + j) (n := n) rfl (by show _ ≤ 360; omega) (by decide)
                rw [c1, c2]
                simp (disch := omega) [q1, q2, q3, qe, qe2, f_X9_copy, cix, o1, o2, ck_T, lt_e, n_clamp]
              · intro q hq
                obtain ⟨g1, g2, g3⟩ := hC q hq
                refine ⟨g1, g2, fun h4 x hx => ?_⟩
                have h60q := (hO q hq).2.2.1 h4
                rw [cpL_rd, mvE]
                by_cases c : q = e ∧ j ≤ x ∧ x < j + n
                · obtain ⟨rfl, c2, c3⟩ := c
                  rw [if_pos ⟨rfl, by omega, by omega⟩, if_pos ⟨rfl, c2, c3⟩]
                  have := (hC d hd).2.2 q3.1 (i + (x - j)) (by omega)
                  have e1 : 60 * d + i + (60 * q + x - (60 * q + j)) = 60 * d + (i + (x - j)) := by omega
                  rw [e1]; exact this
                · rw [if_neg (fun r => c (by omega)), if_neg c]; exact g3 h4 x hx
            · left
              constructor
              · have : ¬ (decide (0 ≤ v2.toInt ∧ 0 ≤ v5.toInt ∧ v2.toInt + v5.toInt ≤ nn d) = true ∧ decide (0 ≤ v4.toInt ∧ 0 ≤ v5.toInt ∧ v4.toInt + v5.toInt ≤ nn e) = true) := by
                  rintro ⟨x1, x2⟩
                  have x1 := of_decide_eq_true x1
                  have x2 := of_decide_eq_true x2
                  exact q4 ⟨x1.1, x2.1, x1.2.1, x1.2.2, x2.2.2⟩
                cases c1 : decide (0 ≤ v2.toInt ∧ 0 ≤ v5.toInt ∧ v2.toInt + v5.toInt ≤ nn d) <;> cases c2 : decide (0 ≤ v4.toInt ∧ 0 ≤ v5.toInt ∧ v4.toInt + v5.toInt ≤ nn e)
                · simp [q1, q2, q3, qe, qe2]
                · simp [q1, q2, q3, qe, qe2]
                · simp [q1, q2, q3, qe, qe2]
                · exact absurd ⟨c1, c2⟩ this
              · rintro ⟨d2, e2, a1, a2, a3, a4, a5, a6, a7⟩
                obtain ⟨rfl, rfl⟩ := inj a1 a2 a3 a4
                exact q4 a7
          · left
            refine ⟨by simp [q1, q2, q3], ?_⟩
            rintro ⟨d2, e2, a1, a2, a3, a4, a5, a6, -⟩
            obtain ⟨rfl, rfl⟩ := inj a1 a2 a3 a4
            exact q3 ⟨a5, a6⟩
/-- the model's two ways of carrying -/
def caM (M : Mem) (s k : Nat) : Mem := (M.1, fun a => if a = 76 then (fun i => if i < k then M.2.1 75 (s + i) else M.2.1 76 i) else M.2.1 a, M.2.2)
theorem caM_rd (M : Mem) (s k a i : Nat) : (caM M s k).2.1 a i = if a = 76 ∧ i < k then M.2.1 75 (s + i) else M.2.1 a i := by
  unfold caM
  by_cases h : a = 76
  · subst h; simp
  · simp [h]
theorem caM_0 (M : Mem) (s : Nat) : caM M s 0 = M := mem_ext2 (fun _ _ => rfl) (fun a b => by rw [caM_rd, if_neg (by omega)]) rfl
theorem caM_s (M : Mem) (s k : Nat) : wL (caM M s k) 76 k (M.2.1 75 (s + k)) = caM M s (k + 1) := by
  refine mem_ext2 (fun _ _ => rfl) (fun a b => ?_) rfl
  rw [wL_rd, caM_rd, caM_rd]
  by_cases ha : a = 76
  · by_cases hb : b = k
    · rw [if_pos ⟨ha, hb⟩, if_pos ⟨ha, by omega⟩, hb]
    · rw [if_neg (fun q => hb q.2)]
      by_cases h2 : b < k
      · rw [if_pos ⟨ha, h2⟩, if_pos ⟨ha, by omega⟩]
      · rw [if_neg (fun q => h2 q.2), if_neg (fun q => h2 (by omega))]
  · simp [ha]
def laM (M : Mem) (t k : Nat) : Mem := (M.1, fun a => if a = 75 then (fun i => if t ≤ i ∧ i < t + k then M.2.1 76 (i - t) else M.2.1 75 i) else M.2.1 a, M.2.2)
theorem laM_rd (M : Mem) (t k a i : Nat) : (laM M t k).2.1 a i = if a = 75 ∧ t ≤ i ∧ i < t + k then M.2.1 76 (i - t) else M.2.1 a i := by
  unfold laM
  by_cases h : a = 75
  · subst h; simp
  · simp [h]
theorem laM_0 (M : Mem) (s : Nat) : laM M s 0 = M := mem_ext2 (fun _ _ => rfl) (fun a b => by rw [laM_rd, if_neg (by omega)]) rfl
theorem laM_s (M : Mem) (t k : Nat) : wL (laM M t k) 75 (t + k) (M.2.1 76 k) = laM M t (k + 1) := by
  refine mem_ext2 (fun _ _ => rfl) (fun a b => ?_) rfl
  rw [wL_rd, laM_rd, laM_rd]
  by_cases ha : a = 75
  · by_cases hb : b = t + k
    · rw [if_pos ⟨ha, hb⟩, if_pos ⟨ha, by omega⟩, hb, Nat.add_sub_cancel_left]
    · rw [if_neg (fun q => hb q.2)]
      by_cases h2 : t ≤ b ∧ b < t + k
      · rw [if_pos ⟨ha, h2⟩, if_pos ⟨ha, by omega⟩]
      · rw [if_neg (fun q => h2 q.2), if_neg (fun q => h2 (by omega))]
  · simp [ha]
theorem cixM3 (d i k : Nat) : (((60 : Int32) * nI d) + nI i) + nI k = nI (60 * d + i + k) := by rw [cixM, n_ad]
theorem sh_L2 {e j n : Nat} (he : e < 6) (hn : j + n ≤ 60) : ∀ (r k f : Nat), k + r = n → r < f → f_X11_shift_L150 f (nI e) (nI j) (nI n) (nI k) (laM M (60 * e + j) k) = some (nI n, laM M (60 * e + j) n)
  | 0, k, f, h1, h2 => by
    obtain ⟨f, rfl⟩ : ∃ n2, f = n2 + 1 := ⟨f - 1, by omega⟩
    have : k = n := by omega
    subst this
    simp (disch := omega) [f_X11_shift_L150, n_le]
  | r + 1, k, f, h1, h2 => by
    obtain ⟨f, rfl⟩ : ∃ n2, f = n2 + 1 := ⟨f - 1, by omega⟩
    have ih := sh_L2 he hn r (k + 1) f (by omega) (by omega)
    rw [← laM_s M (60 * e + j) k] at ih
    simp (disch := omega) [f_X11_shift_L150, n_le, show ¬ n ≤ k by omega, okL_76, cixM3, okL_75, ck_T, lt_e, n_clamp, n_s1, laM_rd, ih]
theorem sh_L1 {d i e j n : Nat} (hd : d < 6) (he : e < 6) (hi : i + n ≤ 60) (hn : j + n ≤ 60) : ∀ (r k f : Nat), k + r = n → r < f → f_X11_shift_L113 f (nI d) (nI i) (nI e) (nI j) (nI n) (nI k) (caM M (60 * d + i) k) = some (nI n, laM (caM M (60 * d + i) n) (60 * e + j) n)
  | 0, k, f, h1, h2 => by
    obtain ⟨f, rfl⟩ : ∃ n2, f = n2 + 1 := ⟨f - 1, by omega⟩
    have : k = n := by omega
    subst this
    have L := sh_L2 (M := caM M (60 * d + i) k) he hn k 0 FU (by omega) (by show k < 5000; omega)
    rw [laM_0] at L
    have L2 : f_X11_shift_L150 FU (nI e) (nI j) (nI k) 0 (caM M (60 * d + i) k) = _ := L
    simp (disch := omega) [f_X11_shift_L113, n_le, L2]
  | r + 1, k, f, h1, h2 => by
    obtain ⟨f, rfl⟩ : ∃ n2, f = n2 + 1 := ⟨f - 1, by omega⟩
    have ih := sh_L1 hd he hi hn r (k + 1) f (by omega) (by omega)
    rw [← caM_s M (60 * d + i) k] at ih
    simp (disch := omega) [f_X11_shift_L113, n_le, show ¬ n ≤ k by omega, okL_76, cixM3, okL_75, ck_T, lt_e, n_clamp, n_s1, caM_rd, ih]
theorem mo_shift (hC : MS ty nn el M) (hO : OKS nb ty nn el) (hb : nb ≤ 50) (v1 v2 v3 v4 v5 : Int32) : (f_X11_shift v1 v2 v3 v4 v5 M = some (shV ty nn v1 v2 v3 v4 v5, M) ∧ ¬ ∃ d e, d < 6 ∧ e < 6 ∧ v1 = nI d ∧ v3 = nI e ∧ ty d ≤ 4 ∧ ty d = ty e ∧ shOK ty nn d e v2 v4 v5) ∨ ∃ d e i j n M1, d < 6 ∧ e < 6 ∧ ty d ≤ 4 ∧ ty d = ty e ∧ v1 = nI d ∧ v3 = nI e ∧ v2 = nI i ∧ v4 = nI j ∧ v5 = nI n ∧ i + n ≤ nn d ∧ j + n ≤ nn e ∧ f_X11_shift v1 v2 v3 v4 v5 M = some (nI n, M1) ∧ MS ty nn (mvE el d i e j n) M1 := by
  unfold f_X11_shift shV
  rw [s_isShelfM, bd_s, ite_bb, s_isShelfM, bd_s, ite_bb]
  cases h1 : inN 6 v1
  · left
    refine ⟨by simp, ?_⟩
    rintro ⟨d, e, hd, he, rfl, rfl, -⟩
    rw [inN_n (by omega)] at h1; simp at h1; omega
  · cases h3 : inN 6 v3
    · left
      refine ⟨by simp, ?_⟩
      rintro ⟨d, e, hd, he, rfl, rfl, -⟩
      rw [inN_n (by omega)] at h3; simp at h3; omega
    · obtain ⟨d, hd, hd2, rfl⟩ := inN_t h1
      obtain ⟨e, he, he2, rfl⟩ := inN_t h3
      obtain ⟨-, -, o73, o74, o3⟩ := ck6 hd
      obtain ⟨-, -, p73, p74, p3⟩ := ck6 he
      obtain ⟨d6, d5, d4⟩ := hC d hd
      obtain ⟨e6, e5, e4⟩ := hC e he
      obtain ⟨x1, x2, x3, -⟩ := hO d hd
      obtain ⟨y1, y2, y3, -⟩ := hO e he
      have inj : ∀ {d2 e2 : Nat}, d2 < 6 → e2 < 6 → nI d = nI d2 → nI e = nI e2 → d2 = d ∧ e2 = e := fun a b c f => ⟨((n_eq (by omega) (by omega)).mp c).symm, ((n_eq (by omega) (by omega)).mp f).symm⟩
      have ng : (-1 : Int32) < 0 := by decide
      have ng2 : ¬ (0 : Int32) ≤ -1 := by decide
      have ps : ∀ {x : Nat}, x < 1000 → ¬ nI x < 0 ∧ (0 : Int32) ≤ nI x := fun h => ⟨nI_pos (by omega), nI_pos' (by omega)⟩
      rw [o3, p3]
      by_cases q1 : ty d = 6
      · left
        refine ⟨by simp [q1, o73, ck_T, d6 q1, ng], ?_⟩
        rintro ⟨d2, e2, a1, a2, a3, a4, a5, -⟩
        obtain ⟨rfl, rfl⟩ := inj a1 a2 a3 a4
        omega
      · obtain ⟨rd, hrd, hrd2, hrd3⟩ : ∃ r, M.1 73 d = nI r ∧ r < 100 ∧ (r < 50 ↔ ty d = 5) := by
          by_cases q5 : ty d = 5
          · exact ⟨nn d, d5 q5, by have := x2 q5; omega, by have := x2 q5; simp [q5]; omega⟩
          · exact ⟨50 + ty d, (d4 (by omega)).1, by omega, by omega⟩
        by_cases q2 : ty e = 6
        · left
          refine ⟨by simp [q1, q2, o73, p73, ck_T, hrd, e6 q2, ng2, ps (show rd < 1000 by omega)], ?_⟩
          rintro ⟨d2, e2, a1, a2, a3, a4, a5, a6, -⟩
          obtain ⟨rfl, rfl⟩ := inj a1 a2 a3 a4
          omega
        · obtain ⟨re, hre, hre2, hre3, hre4⟩ : ∃ r, M.1 73 e = nI r ∧ r < 100 ∧ (r < 50 ↔ ty e = 5) ∧ (ty e ≤ 4 → r = 50 + ty e) := by
            by_cases q5 : ty e = 5
            · exact ⟨nn e, e5 q5, by have := y2 q5; omega, by have := y2 q5; simp [q5]; omega, by omega⟩
            · exact ⟨50 + ty e, (e4 (by omega)).1, by omega, by omega, fun _ => rfl⟩
          have l50 : (nI rd < 50) = (rd < 50) := propext (n_lt (b := 50) (by omega) (by omega))
          by_cases q5 : ty d = 5
          · left
            refine ⟨by simp [q1, q2, q5, o73, p73, ck_T, hrd, hre, l50, hrd3, ps (show rd < 1000 by omega), ps (show re < 1000 by omega)], ?_⟩
            rintro ⟨d2, e2, a1, a2, a3, a4, a5, a6, -⟩
            obtain ⟨rfl, rfl⟩ := inj a1 a2 a3 a4
            omega
          · have q4 : ty d ≤ 4 := by omega
            have erd : rd = 50 + ty d := by
              have := hrd.symm.trans (d4 q4).1
              exact (n_eq (by omega) (by omega)).mp this
            by_cases q3 : ty d = ty e
            · have h60d := x3 q4
              have h60e := y3 (by omega)
              have ere : re = 50 + ty e := hre4 (by omega)
              have t1 : (0 : Int32).toInt = 0 := rfl
              have g1 := (d4 q4).2.1
              have g2 := (e4 (by omega)).2.1
              have r5 := i_rng v5
              by_cases q6 : shOK ty nn d e v2 v4 v5
              · right
                obtain ⟨i, j, n, rfl, rfl, rfl, b1, b2⟩ := sh_nat q6 h60d
                have L := sh_L1 (M := M) hd he (show i + n ≤ 60 by omega) (show j + n ≤ 60 by omega) n 0 FU (by omega) (by show n < 5000; omega)
                rw [caM_0] at L
                have L2 : f_X11_shift_L113 FU (nI d) (nI i) (nI e) (nI j) (nI n) 0 M = _ := L
                have z1 : nI (nn d) - nI n = nI (nn d - n) := pk_sub (by omega)
                have z2 : nI (nn e) - nI n = nI (nn e - n) := pk_sub (by omega)
                refine ⟨d, e, i, j, n, laM (caM M (60 * d + i) n) (60 * e + j) n, hd, he, q4, q3, rfl, rfl, rfl, rfl, rfl, b1, b2, ?_, ?_⟩
                · have nre : rd = re := by omega
                  subst nre
                  simp (disch := omega) [o73, p73, o74, p74, ck_T, hrd, hre, l50, ps (show rd < 1000 by omega), ps (show i < 1000 by omega), ps (show j < 1000 by omega), ps (show n < 1000 by omega), show ¬ rd < 50 by omega, g1, g2, z1, z2, n_lt, n_le, show ¬ nn d - n < i by omega, show j ≤ nn e - n by omega, L2]
                · intro q hq
                  obtain ⟨k1, k2, k3⟩ := hC q hq
                  refine ⟨k1, k2, fun h4 => ⟨(k3 h4).1, (k3 h4).2.1, fun x hx => ?_⟩⟩
                  have h60q := (hO q hq).2.2.1 h4
                  rw [laM_rd, mvE]
                  by_cases c : q = e ∧ j ≤ x ∧ x < j + n
                  · obtain ⟨rfl, c2, c3⟩ := c
                    rw [if_pos ⟨rfl, by omega, by omega⟩, if_pos ⟨rfl, c2, c3⟩, caM_rd, if_pos ⟨rfl, by omega⟩]
                    have := (d4 q4).2.2 (i + (x - j)) (by omega)
                    have e1 : 60 * d + i + (60 * q + x - (60 * q + j)) = 60 * d + (i + (x - j)) := by omega
                    rw [e1]; exact this
                  · rw [if_neg (fun r => c (by omega)), if_neg c, caM_rd, if_neg (by omega)]; exact (k3 h4).2.2 x hx
              · left
                constructor
                · have nre : rd = re := by omega
                  subst nre
                  simp only [o73, p73, o74, p74, ck_T, hrd, hre, l50, ps (show rd < 1000 by omega), show ¬ rd < 50 by omega, g1, g2, if_true, if_false, q1, q2, q3, i_lt, i_le, t1]
                  have tt : ty e ≤ 4 := by omega
                  by_cases c5 : v5.toInt < 0
                  · simp [c5, tt]
                  · by_cases c2 : v2.toInt < 0
                    · simp [c5, c2, tt]
                    · by_cases c4 : v4.toInt < 0
                      · simp [c5, c2, c4, tt]
                      · have s1 : (nI (nn d) - v5).toInt = nn d - v5.toInt := by rw [i_sub] <;> rw [n_toInt (by omega)] <;> omega
                        have s2 : (nI (nn e) - v5).toInt = nn e - v5.toInt := by rw [i_sub] <;> rw [n_toInt (by omega)] <;> omega
                        by_cases c6 : (nn d : Int) - v5.toInt < v2.toInt
                        · simp [c5, c2, c4, s1, c6, tt]
                        · by_cases c7 : v4.toInt ≤ (nn e : Int) - v5.toInt
                          · exact absurd ⟨by omega, by omega, by omega, by omega, by omega⟩ q6
                          · simp [c5, c2, c4, s1, s2, c6, c7, tt]
                · rintro ⟨d2, e2, a1, a2, a3, a4, a5, a6, a7⟩
                  obtain ⟨rfl, rfl⟩ := inj a1 a2 a3 a4
                  exact q6 a7
            · left
              have ne : ¬ rd = re := by
                intro h
                by_cases q7 : ty e = 5
                · have := hre3.mpr q7; omega
                · have := hre4 (by omega); omega
              refine ⟨by simp (disch := omega) [q1, q2, q3, q4, o73, p73, ck_T, hrd, hre, l50, show ¬ rd < 50 by omega, n_eq, ne, ps (show rd < 1000 by omega), ps (show re < 1000 by omega)], ?_⟩
              rintro ⟨d2, e2, a1, a2, a3, a4, a5, a6, -⟩
              obtain ⟨rfl, rfl⟩ := inj a1 a2 a3 a4
              exact q3 a6
end SHELF3
