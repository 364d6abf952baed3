theorem cpI_0 (M : Mem) (c sp d dp : Nat) : cpI M c sp d dp 0 = M := mem_ext1 (fun a b => by rw [cpI_rd, if_neg (by omega)]) rfl
theorem cpI_s (M : Mem) (c d i : Nat) (h : c ≠ d) : wI (cpI M c 0 d 0 i) d i ((cpI M c 0 d 0 i).1 c i) = cpI M c 0 d 0 (i + 1) := by
  have e0 : (cpI M c 0 d 0 i).1 c i = M.1 c i := by rw [cpI_rd, if_neg (fun q => h q.1)]
  rw [e0]
  refine mem_ext1 (fun a b => ?_) rfl
  rw [wI_rd, cpI_rd, cpI_rd]
  by_cases ha : a = d
  · by_cases hb : b = i
    · rw [if_pos ⟨ha, hb⟩, if_pos ⟨ha, by omega⟩, hb]; simp
    · rw [if_neg (fun q => hb q.2)]
      by_cases h2 : b < i
      · rw [if_pos ⟨ha, by omega⟩, if_pos ⟨ha, by omega⟩]
      · rw [if_neg (by omega), if_neg (by omega)]
  · simp [ha]
theorem n_div {a b : Nat} (ha : a < 2147483648) (hb : b < 2147483648) : nI a / nI b = nI (a / b) := by
  have h := Nat.div_le_self a b
  rw [i_eq, Int32.toInt_div, n_toInt ha, n_toInt hb, n_toInt (by omega), ← Int.ofNat_tdiv]
  have h0 : (0 : Int) ≤ ((a / b : Nat) : Int) := Int.natCast_nonneg _
  generalize a / b = c at *
  exact Int.bmod_eq_of_le (by omega) (by omega)
theorem n_mod {a b : Nat} (ha : a < 2147483648) (hb : b < 2147483648) : nI a % nI b = nI (a % b) := by
  have h := Nat.mod_le a b
  rw [i_eq, Int32.toInt_mod, n_toInt ha, n_toInt hb, n_toInt (by omega), ← Int.ofNat_tmod]
section CHAMP3
variable {np nm : Nat} {wo wi lo ct : Nat → Nat} {n : Nat} {rw : Nat → Nat} {M : Mem}
theorem mo_linesUp_L (hU : M.1 47 34 = nI n) (hn : n ≤ 8) : ∀ (k i m : Nat), i + k = n → k < m → f_X11_linesUp_L2 m (nI i) (cpI M 65 0 66 0 i) = some (cpI M 65 0 66 0 n)
  | 0, i, m, h, hm => by
    obtain ⟨m, rfl⟩ : ∃ m2, m = m2 + 1 := ⟨m - 1, by omega⟩
    have e : i = n := by omega
    subst e
    have e2 : (cpI M 65 0 66 0 i).1 47 34 = nI i := by rw [cpI_rd, if_neg (by omega)]; exact hU
    rw [f_X11_linesUp_L2, e2, if_pos ((n_le (by omega) (by omega)).mpr (by omega))]
  | k + 1, i, m, h, hm => by
    obtain ⟨m, rfl⟩ : ∃ m2, m = m2 + 1 := ⟨m - 1, by omega⟩
    have e2 : (cpI M 65 0 66 0 i).1 47 34 = nI n := by rw [cpI_rd, if_neg (by omega)]; exact hU
    rw [f_X11_linesUp_L2, e2, if_neg (by rw [n_le (by omega) (by omega)]; omega), ck_t (okI_65 (by omega)), ck_t (okI_66 (by omega)), lt_e, n_clamp (by omega), cpI_s M 65 66 i (by omega), n_s1]
    exact mo_linesUp_L hU hn k (i + 1) m (by omega) (by omega)
theorem mo_linesUp (hU : M.1 47 34 = nI n) (hn : n ≤ 8) : f_X11_linesUp M = some (cpI M 65 0 66 0 n) := by
  have := mo_linesUp_L hU hn n 0 FU (by omega) (by unfold FU; omega)
  rw [cpI_0] at this
  exact this
theorem MF.cp66 {a b k l : Nat} (hC : MF np nm wo wi lo ct M) : MF np nm wo wi lo ct (cpI M a b 66 k l) := ⟨by simp [cpI_rd, hC.1], by simp [cpI_rd, hC.2.1], fun p hp => by simp [cpI_rd, hC.2.2.1 p hp], fun m hm => by have := hC.2.2.2 m hm; simp [cpI_rd, this]⟩
def bst (wo rw : Nat → Nat) : Nat → Nat → Nat → Nat
  | 0, _, b => b
  | k + 1, i, b => bst wo rw k (i + 1) (if mor wo (rw i) b = true then rw i else b)
theorem bst_ok : ∀ (k i b : Nat), i + k = n → (∃ j, j < n ∧ rw j = b) → (∀ j, j < i → rw j = b ∨ mor wo b (rw j) = true) → (∃ j, j < n ∧ rw j = bst wo rw k i b) ∧ (∀ j, j < n → rw j = bst wo rw k i b ∨ mor wo (bst wo rw k i b) (rw j) = true)
  | 0, i, b, h, h1, h2 => ⟨h1, fun j hj => h2 j (by omega)⟩
  | k + 1, i, b, h, h1, h2 => by
    rw [bst]
    by_cases q : mor wo (rw i) b = true
    · rw [if_pos q]
      refine bst_ok k (i + 1) _ (by omega) ⟨i, by omega, rfl⟩ (fun j hj => ?_)
      by_cases e : j = i
      · exact Or.inl (by rw [e])
      · rcases h2 j (by omega) with q2 | q2
        · exact Or.inr (by rw [q2]; exact q)
        · exact Or.inr (mor_tr q q2)
    · rw [if_neg q]
      refine bst_ok k (i + 1) _ (by omega) h1 (fun j hj => ?_)
      by_cases e : j = i
      · subst e
        by_cases e2 : rw j = b
        · exact Or.inl e2
        · exact Or.inr (mor_tot e2 (by simpa using q))
      · exact h2 j (by omega)
def chB (wo : Nat → Nat) (n : Nat) (rw : Nat → Nat) : Nat := bst wo rw (n - 1) 1 (rw 0)
theorem JJ_0 (hp8 : np ≤ 8) (hU : OKU np n rw) (hn : n = 4 ∨ n = 8) : JJ wo np (chB wo n rw) n n (rw, fun _ => -1, -1) := by
  obtain ⟨h1, h2⟩ := bst_ok (wo := wo) (rw := rw) (n - 1) 1 (rw 0) (by omega : 1 + (n - 1) = n) ⟨0, by omega, rfl⟩ (fun j hj => Or.inl (by rw [show j = 0 by omega]))
  obtain ⟨j, hj, e⟩ := h1
  have e1 : ∀ j, lv n n j ↔ j < n := fun j => by unfold lv; omega
  have hb : chB wo n rw < np := by unfold chB; rw [← e]; exact hU.2.1 j hj
  refine ⟨hb, fun i j a b c => hU.2.2 i j ((e1 i).mp a) ((e1 j).mp b) c, fun j a => ⟨hU.2.1 j ((e1 j).mp a), rfl, h2 j ((e1 j).mp a)⟩, ⟨j, (e1 j).mpr hj, e⟩, Or.inl ⟨rfl, fun p hp q => ?_⟩⟩
  exact nI_m1 (by omega) q
def champA (wo : Nat → Nat) (n : Nat) (rw : Nat → Nat) (v : Int32) : Int32 := if inN 2 v = true then (if n = 4 ∨ n = 8 then (if v = 0 then nI (chB wo n rw) else (chT wo (chB wo n rw) n (rw, fun _ => -1, -1)).2.2) else -5) else -1
theorem s_isWhole (hU : M.1 28 0 = nI n) (hn : n ≤ 8) : f_X3_isWhole M = some (bb (decide (n = 4 ∨ n = 8))) := by
  unfold f_X3_isWhole f_X3_isWhole_b17
  rw [hU]
  have e4 : (nI n = 4) = (n = 4) := propext (n_eq (b := 4) (by omega) (by omega))
  have e8 : (nI n = 8) = (n = 8) := propext (n_eq (b := 8) (by omega) (by omega))
  simp only [e4, e8]
  by_cases h4 : n = 4
  · simp [h4, bb]
  · by_cases h8 : n = 8
    · simp [h8, bb]
    · simp [h4, h8, bb]
theorem s_isCup (hU : M.1 47 34 = nI n) (hn : n ≤ 8) : f_X11_isCup M = some (bb (decide (n = 4 ∨ n = 8))) := by
  unfold f_X11_isCup f_X11_isCup_b17
  rw [hU]
  have e4 : (nI n = 4) = (n = 4) := propext (n_eq (b := 4) (by omega) (by omega))
  have e8 : (nI n = 8) = (n = 8) := propext (n_eq (b := 8) (by omega) (by omega))
  simp only [e4, e8]
  by_cases h4 : n = 4
  · simp [h4, bb]
  · by_cases h8 : n = 8
    · simp [h8, bb]
    · simp [h4, h8, bb]
theorem in2_c (v : Int32) : (inN 2 v = true ∧ ¬ v < 0 ∧ v ≤ 1) ∨ (inN 2 v = false ∧ (v < 0 ∨ ¬ v ≤ 1)) := by
  have h0 : (0 : Int32).toInt = 0 := rfl
  have h1 : (1 : Int32).toInt = 1 := rfl
  simp only [inN, decide_eq_true_eq, decide_eq_false_iff_not, i_lt, i_le, h0, h1]
  omega
theorem cl_champion (hO : OKF np nm wo wi lo ct) (hC : CF np nm wo wi lo ct M) (hU : CU n rw M) (hOU : OKU np n rw) (v : Int32) : ∃ M1, f_X10_champion v M = some (champA wo n rw v, M1) := by
  unfold f_X10_champion champA
  rcases in2_c v with ⟨h, h1, h2⟩ | ⟨h, h1⟩
  · rw [if_neg h1, if_pos h2, s_isWhole hU.1 hOU.1, bd_s, ite_bb, if_pos h]
    by_cases q : n = 4 ∨ n = 8
    · rw [if_pos (by simpa using q), if_pos q]
      obtain ⟨M2, e2, c2, b2, j2⟩ := cl_best hO hC hU q (JJ_0 (wo := wo) hO.1 hOU q)
      rw [e2, bI_s]
      by_cases q2 : v = 0
      · rw [if_pos q2, if_pos q2]; exact ⟨M2, rfl⟩
      · rw [if_neg q2, if_neg q2, cl_second hO c2 j2.1 b2 j2.2.2.2.2, bd_s]; exact ⟨M2, rfl⟩
    · rw [if_neg (by simpa using q), if_neg q]; exact ⟨M, rfl⟩
  · rw [if_neg (show ¬ inN 2 v = true by simp [h])]
    rcases h1 with h1 | h1
    · rw [if_pos h1]; exact ⟨M, rfl⟩
    · rw [if_neg h1, ite_self]; exact ⟨M, rfl⟩
theorem mo_ch_g {k88 : Int32 → Int32 → Int32 → Mem → Option (Int32 × Mem)} (hO : OKF np nm wo wi lo ct) (hn : n ≤ 8) {best cnt g m : Nat} {s : ChS} (h2 : 2 * cnt ≤ n) (hg : g < cnt) (hC : MF np nm wo wi lo ct M) (hS : ChM n s.1 M) (hJ : JJ wo np best g cnt s) : ∃ M2, f_X11_champion_L97 k88 (m + 1) (nI best) s.2.2 (nI (2 * cnt)) (nI g) M = f_X11_champion_L97 k88 m (nI best) (ch1 wo best s g).2.2 (nI (2 * cnt)) (nI (g + 1)) M2 ∧ MF np nm wo wi lo ct M2 ∧ ChM n (ch1 wo best s g).1 M2 := by
  have h8 := hO.1
  obtain ⟨hbn, hi, hl, -, hs⟩ := hJ
  obtain ⟨S, B, t⟩ := s
  simp only at hi hl hS hs
  have la : lv g cnt (2 * g) := by unfold lv; omega
  have lb : lv g cnt (2 * g + 1) := by unfold lv; omega
  have hab : S (2 * g) ≠ S (2 * g + 1) := fun q => by have := hi _ _ la lb q; omega
  have ha1 := (hl _ la).1
  have hb1 := (hl _ lb).1
  have ra := hS (2 * g) (by omega)
  have rb := hS (2 * g + 1) (by omega)
  have hd : nI (2 * cnt) / (2 : Int32) = nI cnt := by
    have := n_div (a := 2 * cnt) (b := 2) (by omega) (by omega)
    rw [show 2 * cnt / 2 = cnt by omega] at this
    exact this
  refine ⟨wI M 66 g (nI (wor wo (S (2 * g)) (S (2 * g + 1)))), ?_, hC.w66, fun j hj => ?_⟩
  · simp only [ch1]
    rw [f_X11_champion_L97, hd, if_neg (by rw [n_le (by omega) (by omega)]; omega), n_dbl, n_s1, ck_t (okI_66 (by omega)), lt_e, ck_t (okI_66 (by omega)), lt_e, n_clamp (by omega), n_clamp (by omega), ra, rb]
    generalize S (2 * g) = a at *
    generalize S (2 * g + 1) = b at *
    have em : ∀ (x : Int32), f_X11_champion_b189 (fun a0 a1 a2 a3 a4 => f_X11_champion_L97 k88 m a0 a1 a2 a3 a4) (nI best) (nI (2 * cnt)) (nI g) (nI a) (nI b) x M = f_X11_champion_L97 k88 m (nI best) x (nI (2 * cnt)) (nI (g + 1)) (wI M 66 g (nI (wor wo a b))) := by
      intro x
      unfold f_X11_champion_b189
      rw [s_isMore hC hO ha1 hb1, bd_s, ite_bb]
      unfold f_X11_champion_b214
      rw [n_clamp (by omega), n_s1, lt_e, lt_e]
      unfold wor
      have ok := okI_66 (i := g) (by omega)
      split <;> rw [ck_t ok]
    have e1 : (if nI a = nI best then f_X11_champion_b143 (fun a0 a1 a2 a3 a4 => f_X11_champion_L97 k88 m a0 a1 a2 a3 a4) (nI best) t (nI (2 * cnt)) (nI g) (nI a) (nI b) (nI b) M else f_X11_champion_b143 (fun a0 a1 a2 a3 a4 => f_X11_champion_L97 k88 m a0 a1 a2 a3 a4) (nI best) t (nI (2 * cnt)) (nI g) (nI a) (nI b) (nI a) M) = f_X11_champion_b143 (fun a0 a1 a2 a3 a4 => f_X11_champion_L97 k88 m a0 a1 a2 a3 a4) (nI best) t (nI (2 * cnt)) (nI g) (nI a) (nI b) (nI (oth best a b)) M := by
      simp only [n_eq (show a < 2147483648 by omega) (show best < 2147483648 by omega), oth]
      split <;> rfl
    rw [e1]
    unfold f_X11_champion_b143
    simp only [n_eq (show a < 2147483648 by omega) (show best < 2147483648 by omega), n_eq (show b < 2147483648 by omega) (show best < 2147483648 by omega)]
    have ho : oth best a b < np := by unfold oth; split <;> assumption
    have e2 : ∀ x : Int32, f_X11_champion_b162 (fun a0 a1 a2 a3 a4 => f_X11_champion_L97 k88 m a0 a1 a2 a3 a4) (nI best) t (nI (2 * cnt)) (nI g) (nI a) (nI b) (nI (oth best a b)) x M = f_X11_champion_L97 k88 m (nI best) (if ¬ x = 0 ∧ (t < 0 ∨ mor wo (oth best a b) t.toNatClampNeg = true) then nI (oth best a b) else t) (nI (2 * cnt)) (nI (g + 1)) (wI M 66 g (nI (wor wo a b))) := by
      intro x
      unfold f_X11_champion_b162 f_X11_champion_b188 f_X11_champion_b183
      rw [em, em]
      by_cases q : x = 0
      · rw [if_pos q, if_neg (by simp [q])]
      · rw [if_neg q]
        by_cases q2 : t < 0
        · rw [if_pos q2, if_pos ⟨q, Or.inl q2⟩]
        · rw [if_neg q2]
          rcases hs with ⟨et, -⟩ | ⟨t0, ht0, et, -, -⟩
          · rw [et] at q2; exact absurd (by decide) q2
          · rw [et, s_isMore hC hO ho ht0, bd_s, ite_bb, n_clamp (by omega)]
            rw [et] at q2
            by_cases q3 : mor wo (oth best a b) t0 = true
            · rw [if_pos q3, if_pos ⟨q, Or.inr q3⟩]
            · rw [if_neg q3, if_neg (by rintro ⟨-, r | r⟩ <;> contradiction)]
    unfold f_X11_champion_b157
    rw [e2, e2]
    by_cases q : a = best
    · rw [if_pos q]; simp [q]
    · rw [if_neg q]
      by_cases q2 : b = best
      · rw [if_pos q2]; simp [q2]
      · rw [if_neg q2]; simp [q, q2]
  · simp only [ch1, upN]
    by_cases q : j = g
    · subst q; simp [wI_rd]
    · simp [wI_rd, q, hS j hj]
theorem mo_ch_L {k88 : Int32 → Int32 → Int32 → Mem → Option (Int32 × Mem)} (hO : OKF np nm wo wi lo ct) (hn : n ≤ 8) {best cnt : Nat} (h2 : 2 * cnt ≤ n) : ∀ (k g m : Nat) (s : ChS) (M : Mem), g + k = cnt → k < m → MF np nm wo wi lo ct M → ChM n s.1 M → JJ wo np best g cnt s → ∃ M2, f_X11_champion_L97 k88 m (nI best) s.2.2 (nI (2 * cnt)) (nI g) M = k88 (nI best) (chs wo best k g s).2.2 (nI cnt) M2 ∧ MF np nm wo wi lo ct M2 ∧ ChM n (chs wo best k g s).1 M2
  | 0, g, m, s, M, h, hm, hC, hS, hJ => by
    obtain ⟨m, rfl⟩ : ∃ m2, m = m2 + 1 := ⟨m - 1, by omega⟩
    have hd : nI (2 * cnt) / (2 : Int32) = nI cnt := by
      have := n_div (a := 2 * cnt) (b := 2) (by omega) (by omega)
      rw [show 2 * cnt / 2 = cnt by omega] at this
      exact this
    refine ⟨M, ?_, hC, hS⟩
    rw [f_X11_champion_L97, hd, if_pos ((n_le (by omega) (by omega)).mpr (by omega)), lt_e]
    rfl
  | k + 1, g, m, s, M, h, hm, hC, hS, hJ => by
    obtain ⟨m, rfl⟩ : ∃ m2, m = m2 + 1 := ⟨m - 1, by omega⟩
    obtain ⟨M1, e1, c1, s1⟩ := mo_ch_g (k88 := k88) (m := m) hO hn h2 (by omega) hC hS hJ
    obtain ⟨M2, e2, c2, s2⟩ := mo_ch_L (k88 := k88) hO hn h2 k (g + 1) m _ M1 (by omega) (by omega) c1 s1 (JJ_1 hO.1 hJ (by omega))
    exact ⟨M2, e1.trans e2, c2, s2⟩
theorem mo_ch_o (hO : OKF np nm wo wi lo ct) (hn : n ≤ 8) {best cnt m : Nat} (h1 : 1 ≤ cnt) (h2 : 2 * cnt ≤ n) {s : ChS} (hC : MF np nm wo wi lo ct M) (hS : ChM n s.1 M) (hJ : JJ wo np best 0 cnt s) : ∃ M2, f_X11_champion_L88 (m + 1) (nI best) s.2.2 (nI (2 * cnt)) M = f_X11_champion_L88 m (nI best) (chs wo best cnt 0 s).2.2 (nI cnt) M2 ∧ MF np nm wo wi lo ct M2 ∧ ChM n (chs wo best cnt 0 s).1 M2 := by
  have e : ¬ nI (2 * cnt) ≤ 1 := fun q => by have := (n_le (b := 1) (by omega) (by omega)).mp q; omega
  rw [f_X11_champion_L88, if_neg e]
  exact mo_ch_L hO hn h2 cnt 0 FU s M (by omega) (by unfold FU; omega) hC hS hJ
theorem mo_champion (hO : OKF np nm wo wi lo ct) (hC : MF np nm wo wi lo ct M) (hU : MU n rw M) (hOU : OKU np n rw) (v : Int32) : ∃ M1, f_X11_champion v M = some (champA wo n rw v, M1) := by
  have h8 := hOU.1
  have hp := hO.1
  unfold f_X11_champion champA
  rw [s_within_n 1 1 rfl, bd_s, ite_bb]
  by_cases h : inN 2 v = true
  · rw [if_pos h, if_pos h, s_isCup hU.1 hOU.1, bd_s, ite_bb]
    by_cases q : n = 4 ∨ n = 8
    · rw [if_pos (by simpa using q), if_pos q, ck_t (show okI 65 0 = true from rfl), lt_e, show (0 : Int32).toNatClampNeg = 0 from rfl, hU.2 0 (by omega)]
      have key : ∀ (k i m b : Nat), i + k = n → k < m → b < np → f_X11_champion_L31 m v (nI b) (nI i) M = (if v = 0 then (some (nI (bst wo rw k i b), M)) else (f_X11_linesUp M).bind fun M2 => lt (M2.1 47 34) fun x3 => f_X11_champion_L88 FU (nI (bst wo rw k i b)) (-1 : Int32) x3 M2) := by
        intro k
        induction k with
        | zero =>
          intro i m b h1 h2 hb
          obtain ⟨m, rfl⟩ : ∃ m2, m = m2 + 1 := ⟨m - 1, by omega⟩
          rw [f_X11_champion_L31, hU.1, if_pos ((n_le (by omega) (by omega)).mpr (by omega))]
          rfl
        | succ k ih =>
          intro i m b h1 h2 hb
          obtain ⟨m, rfl⟩ : ∃ m2, m = m2 + 1 := ⟨m - 1, by omega⟩
          have hri := hOU.2.1 i (by omega)
          rw [f_X11_champion_L31, hU.1, if_neg (by rw [n_le (by omega) (by omega)]; omega), ck_t (okI_65 (by omega)), ck_t (okI_65 (by omega)), n_clamp (by omega), hU.2 i (by omega), s_isMore hC hO hri hb, bd_s, ite_bb, bst]
          unfold f_X11_champion_b63
          rw [n_s1]
          by_cases q : mor wo (rw i) b = true
          · rw [if_pos q, if_pos q]; exact ih (i + 1) m _ (by omega) (by omega) hri
          · rw [if_neg q, if_neg q]; exact ih (i + 1) m _ (by omega) (by omega) hb
      have hk := key (n - 1) 1 FU (rw 0) (by omega) (by unfold FU; omega) (hOU.2.1 0 (by omega))
      rw [show (nI 1 : Int32) = 1 from rfl] at hk
      rw [hk]
      by_cases q2 : v = 0
      · rw [if_pos q2, if_pos q2]; exact ⟨M, rfl⟩
      · rw [if_neg q2, if_neg q2, mo_linesUp hU.1 h8, bd_s, lt_e]
        have e3 : (cpI M 65 0 66 0 n).1 47 34 = nI n := by rw [cpI_rd, if_neg (by omega)]; exact hU.1
        rw [e3]
        have hJ := JJ_0 (wo := wo) hp hOU q
        have c0 : MF np nm wo wi lo ct (cpI M 65 0 66 0 n) := hC.cp66
        have s0 : ChM n ((rw, fun _ => -1, -1) : ChS).1 (cpI M 65 0 66 0 n) := fun j hj => by simp [cpI_rd, hj, hU.2 j hj]
        have fin : ∀ (m : Nat) (x : Int32) (M : Mem), f_X11_champion_L88 (m + 1) (nI (chB wo n rw)) x (nI 1) M = some (x, M) := by
          intro m x M
          rw [f_X11_champion_L88, if_pos (show nI 1 ≤ 1 by decide)]
        show ∃ M1, f_X11_champion_L88 (4997 + 1 + 1 + 1) (nI (chB wo n rw)) (-1) (nI n) (cpI M 65 0 66 0 n) = some ((chT wo (chB wo n rw) n (rw, fun _ => -1, -1)).2.2, M1)
        rcases q with rfl | rfl
        · obtain ⟨M4, e4, c4, s4⟩ := mo_ch_o (m := 4999) (cnt := 2) hO (by omega) (by omega) (by omega) c0 s0 (JJ_n hJ)
          obtain ⟨M5, e5, c5, s5⟩ := mo_ch_o (m := 4998) (cnt := 1) hO (by omega) (by omega) (by omega) c4 s4 (JJ_n (JJ_s hp 2 0 _ rfl (JJ_n hJ)))
          exact ⟨M5, e4.trans (e5.trans (fin 4997 _ M5))⟩
        · obtain ⟨M4, e4, c4, s4⟩ := mo_ch_o (m := 4999) (cnt := 4) hO (by omega) (by omega) (by omega) c0 s0 (JJ_n hJ)
          obtain ⟨M5, e5, c5, s5⟩ := mo_ch_o (m := 4998) (cnt := 2) hO (by omega) (by omega) (by omega) c4 s4 (JJ_n (JJ_s hp 4 0 _ rfl (JJ_n hJ)))
          obtain ⟨M6, e6, c6, s6⟩ := mo_ch_o (m := 4997) (cnt := 1) hO (by omega) (by omega) (by omega) c5 s5 (JJ_n (JJ_s hp 2 0 _ rfl (JJ_n (JJ_s hp 4 0 _ rfl (JJ_n hJ)))))
          exact ⟨M6, e4.trans (e5.trans (e6.trans (fin 4996 _ M6)))⟩
    · rw [if_neg (by simpa using q), if_neg q]; exact ⟨M, rfl⟩
  · rw [if_neg h, if_neg h]; exact ⟨M, rfl⟩
end CHAMP3
