def ChC (n : Nat) (S : Nat → Nat) (B : Nat → Int32) (M : Mem) : Prop := M.1 28 0 = nI n ∧ (∀ j, j < n → M.1 30 j = nI (S j)) ∧ ∀ p, p < 8 → M.1 31 p = B p
def ChM (n : Nat) (S : Nat → Nat) (M : Mem) : Prop := ∀ j, j < n → M.1 66 j = nI (S j)
section CHAMP2
variable {np nm : Nat} {wo wi lo ct : Nat → Nat} {n : Nat} {rw : Nat → Nat} {M : Mem}
theorem CF.w30 {a : Nat} {v : Int32} (hC : CF np nm wo wi lo ct M) : CF np nm wo wi lo ct (wI M 30 a v) := ⟨by simp [wI_rd, hC.1], by simp [wI_rd, hC.2.1], fun p hp => by simp [wI_rd, hC.2.2.1 p hp], fun m hm => by have := hC.2.2.2 m hm; simp [wI_rd, this]⟩
theorem CF.w31 {a : Nat} {v : Int32} (hC : CF np nm wo wi lo ct M) : CF np nm wo wi lo ct (wI M 31 a v) := ⟨by simp [wI_rd, hC.1], by simp [wI_rd, hC.2.1], fun p hp => by simp [wI_rd, hC.2.2.1 p hp], fun m hm => by have := hC.2.2.2 m hm; simp [wI_rd, this]⟩
theorem MF.w66 {a : Nat} {v : Int32} (hC : MF np nm wo wi lo ct M) : MF np nm wo wi lo ct (wI M 66 a v) := ⟨by simp [wI_rd, hC.1], by simp [wI_rd, hC.2.1], fun p hp => by simp [wI_rd, hC.2.2.1 p hp], fun m hm => by have := hC.2.2.2 m hm; simp [wI_rd, this]⟩
theorem cl_ch_g {k14 : Int32 → Mem → Option (Int32 × Mem)} (hO : OKF np nm wo wi lo ct) (hn : n ≤ 8) {best cnt r g m : Nat} {s : ChS} (hr : ab_shr (nI n) (nI r + 1) = nI cnt) (h2 : 2 * cnt ≤ n) (hg : g < cnt) (hC : CF np nm wo wi lo ct M) (hS : ChC n s.1 s.2.1 M) (hJ : JJ wo np best g cnt s) : ∃ M2, f_X3_bestByWorth_L24 k14 (m + 1) (nI r) (nI g) M = f_X3_bestByWorth_L24 k14 m (nI r) (nI (g + 1)) M2 ∧ CF np nm wo wi lo ct M2 ∧ ChC n (ch1 wo best s g).1 (ch1 wo best s g).2.1 M2 := by
  have h8 := hO.1
  obtain ⟨-, hi, hl, -, -⟩ := hJ
  obtain ⟨S, B, t⟩ := s
  simp only at hi hl hS
  have la : lv g cnt (2 * g) := by unfold lv; omega
  have lb : lv g cnt (2 * g + 1) := by unfold lv; omega
  have hab : S (2 * g) ≠ S (2 * g + 1) := fun q => by have := hi _ _ la lb q; omega
  have ha1 := (hl _ la).1
  have hb1 := (hl _ lb).1
  have ra := hS.2.1 (2 * g) (by omega)
  have rb := hS.2.1 (2 * g + 1) (by omega)
  have hw := s_worthier hC hO ha1 hb1 hab
  have hwlt : wor wo (S (2 * g)) (S (2 * g + 1)) < 8 := by unfold wor; split <;> omega
  refine ⟨wI (wI M 31 (if wor wo (S (2 * g)) (S (2 * g + 1)) = S (2 * g) then S (2 * g + 1) else S (2 * g)) (nI (wor wo (S (2 * g)) (S (2 * g + 1))))) 30 g (nI (wor wo (S (2 * g)) (S (2 * g + 1)))), ?_, hC.w31.w30, by simp [wI_rd, hS.1], fun j hj => ?_, fun p hp => ?_⟩
  · rw [f_X3_bestByWorth_L24, hS.1, hr, if_neg (by rw [n_le (by omega) (by omega)]; omega), n_dbl, n_s1, ck_t (okI_30 (by omega)), ck_t (okI_30 (by omega)), n_clamp (by omega), n_clamp (by omega), ra, rb, hw, bd_s, ck_t (okI_30 (by omega)), ck_t (okI_30 (by omega)), ck_t (okI_30 (by omega))]
    simp only [n_eq (show wor wo (S (2 * g)) (S (2 * g + 1)) < 2147483648 by omega) (show S (2 * g) < 2147483648 by omega)]
    by_cases q : wor wo (S (2 * g)) (S (2 * g + 1)) = S (2 * g)
    · rw [if_pos q, if_pos q]
      unfold f_X3_bestByWorth_b94
      rw [ck_t (okI_31 (by omega)), lt_e, ck_t (okI_30 (by omega)), lt_e, n_clamp (by omega), n_clamp (by omega), n_s1]
    · rw [if_neg q, if_neg q]
      unfold f_X3_bestByWorth_b94
      rw [ck_t (okI_31 (by omega)), lt_e, ck_t (okI_30 (by omega)), lt_e, n_clamp (by omega), n_clamp (by omega), n_s1]
  · simp only [ch1, upN]
    by_cases q : j = g
    · subst q; simp [wI_rd]
    · simp [wI_rd, q, hS.2.1 j hj]
  · simp only [ch1, upd]
    by_cases q : p = (if wor wo (S (2 * g)) (S (2 * g + 1)) = S (2 * g) then S (2 * g + 1) else S (2 * g))
    · rw [if_pos q, q]; simp [wI_rd]
    · rw [if_neg q]; simp only [wI_rd, q, hS.2.2 p hp]; simp
theorem cl_ch_L {k14 : Int32 → Mem → Option (Int32 × Mem)} (hO : OKF np nm wo wi lo ct) (hn : n ≤ 8) {best cnt r : Nat} (hr : ab_shr (nI n) (nI r + 1) = nI cnt) (h2 : 2 * cnt ≤ n) : ∀ (k g m : Nat) (s : ChS) (M : Mem), g + k = cnt → k < m → CF np nm wo wi lo ct M → ChC n s.1 s.2.1 M → JJ wo np best g cnt s → ∃ M2, f_X3_bestByWorth_L24 k14 m (nI r) (nI g) M = k14 (nI (r + 1)) M2 ∧ CF np nm wo wi lo ct M2 ∧ ChC n (chs wo best k g s).1 (chs wo best k g s).2.1 M2
  | 0, g, m, s, M, h, hm, hC, hS, hJ => by
    obtain ⟨m, rfl⟩ : ∃ m2, m = m2 + 1 := ⟨m - 1, by omega⟩
    refine ⟨M, ?_, hC, hS⟩
    rw [f_X3_bestByWorth_L24, hS.1, hr, if_pos ((n_le (by omega) (by omega)).mpr (by omega)), n_s1]
  | k + 1, g, m, s, M, h, hm, hC, hS, hJ => by
    obtain ⟨m, rfl⟩ : ∃ m2, m = m2 + 1 := ⟨m - 1, by omega⟩
    obtain ⟨M1, e1, c1, s1⟩ := cl_ch_g (k14 := k14) (m := m) hO hn hr h2 (by omega) hC hS hJ
    obtain ⟨M2, e2, c2, s2⟩ := cl_ch_L (k14 := k14) hO hn hr h2 k (g + 1) m _ M1 (by omega) (by omega) c1 s1 (JJ_1 hO.1 hJ (by omega))
    exact ⟨M2, e1.trans e2, c2, s2⟩
theorem cl_best (hO : OKF np nm wo wi lo ct) (hC : CF np nm wo wi lo ct M) (hU : CU n rw M) (hn : n = 4 ∨ n = 8) {best : Nat} (hJ0 : JJ wo np best n n (rw, fun _ => -1, -1)) : ∃ M2, f_X3_bestByWorth M = some (nI best, M2) ∧ CF np nm wo wi lo ct M2 ∧ (∀ p, p < 8 → M2.1 31 p = (chT wo best n (rw, fun _ => -1, -1)).2.1 p) ∧ JJ wo np best 1 1 (chT wo best n (rw, fun _ => -1, -1)) := by
  have hn8 : n ≤ 8 := by omega
  have ok : (okC 100 29 (0 : Int32) (nI n) && okC 100 30 (0 : Int32) (nI n)) = true := by rcases hn with rfl | rfl <;> decide
  have hM3 : ∃ M3, (f_X3_sitDown M).bind (fun M2 => (f_J7_fill_53178 31 (-1 : Int32) M2).bind fun M4 => f_X3_bestByWorth_L14 FU (0 : Int32) M4) = f_X3_bestByWorth_L14 FU (nI 0) M3 ∧ CF np nm wo wi lo ct M3 ∧ ChC n rw (fun _ => -1) M3 := by
    refine ⟨fiI (cpI M 29 0 30 0 n) 31 0 8 (-1), ?_, ?_, ?_⟩
    · unfold f_X3_sitDown
      rw [hU.1, ck_t ok, lt_e, bd_s, s_fillA rfl (by decide), bd_s, n_clamp (by omega)]
      rfl
    · exact ⟨by simp [fiI_rd, cpI_rd, hC.1], by simp [fiI_rd, cpI_rd, hC.2.1], fun p hp => by simp [fiI_rd, cpI_rd, hC.2.2.1 p hp], fun m hm => by have := hC.2.2.2 m hm; simp [fiI_rd, cpI_rd, this]⟩
    · refine ⟨by simp [fiI_rd, cpI_rd, hU.1], fun j hj => ?_, fun p hp => ?_⟩
      · simp [fiI_rd, cpI_rd, hj, hU.2 j hj]
      · simp [fiI_rd, hp]
  obtain ⟨M3, e3, c3, s3⟩ := hM3
  have hT := JJ_T hO.1 hn hJ0
  have hsp : ∀ (m : Nat) (s : ChS) (r cnt : Nat) (M : Mem), (n = 4 ∧ ((r = 0 ∧ cnt = 2) ∨ (r = 1 ∧ cnt = 1)) ∨ n = 8 ∧ ((r = 0 ∧ cnt = 4) ∨ (r = 1 ∧ cnt = 2) ∨ (r = 2 ∧ cnt = 1))) → CF np nm wo wi lo ct M → ChC n s.1 s.2.1 M → JJ wo np best 0 cnt s → ∃ M2, f_X3_bestByWorth_L14 (m + 1) (nI r) M = f_X3_bestByWorth_L14 m (nI (r + 1)) M2 ∧ CF np nm wo wi lo ct M2 ∧ ChC n (chs wo best cnt 0 s).1 (chs wo best cnt 0 s).2.1 M2 := by
    intro m s r cnt M q hC hS hJ
    have hr : ab_shr (nI n) (nI r + 1) = nI cnt := by
      rcases q with ⟨rfl, ⟨rfl, rfl⟩ | ⟨rfl, rfl⟩⟩ | ⟨rfl, ⟨rfl, rfl⟩ | ⟨rfl, rfl⟩ | ⟨rfl, rfl⟩⟩ <;> decide
    have hrd : ∃ x, f_X3_rounds M = some x ∧ ¬ x ≤ nI r := by
      unfold f_X3_rounds
      rw [hS.1]
      rcases q with ⟨rfl, ⟨rfl, rfl⟩ | ⟨rfl, rfl⟩⟩ | ⟨rfl, ⟨rfl, rfl⟩ | ⟨rfl, rfl⟩ | ⟨rfl, rfl⟩⟩
      · exact ⟨2, rfl, by decide⟩
      · exact ⟨2, rfl, by decide⟩
      · exact ⟨3, rfl, by decide⟩
      · exact ⟨3, rfl, by decide⟩
      · exact ⟨3, rfl, by decide⟩
    obtain ⟨x, ex, hx⟩ := hrd
    rw [f_X3_bestByWorth_L14, ex, bd_s, if_neg hx]
    exact cl_ch_L hO hn8 hr (by omega) cnt 0 FU s M (by omega) (by unfold FU; omega) hC hS hJ
  have fin : ∀ (m : Nat) (s : ChS) (r : Nat) (M : Mem), (n = 4 ∧ r = 2 ∨ n = 8 ∧ r = 3) → ChC n s.1 s.2.1 M → f_X3_bestByWorth_L14 (m + 1) (nI r) M = some (nI (s.1 0), M) := by
    intro m s r M q hS
    have hrd : f_X3_rounds M = some (nI r) := by
      unfold f_X3_rounds
      rw [hS.1]
      rcases q with ⟨rfl, rfl⟩ | ⟨rfl, rfl⟩ <;> rfl
    rw [f_X3_bestByWorth_L14, hrd, bd_s, if_pos (by rw [i_le]; omega), ck_t (show okI 30 0 = true from rfl)]
    rw [show (0 : Int32).toNatClampNeg = 0 from rfl, hS.2.1 0 (by omega)]
  unfold f_X3_bestByWorth
  rw [e3]
  have hF : FU = 4996 + 1 + 1 + 1 + 1 := rfl
  rw [hF]
  rcases hn with rfl | rfl
  · obtain ⟨M4, e4, c4, s4⟩ := hsp 4999 (rw, fun _ => -1, -1) 0 2 M3 (Or.inl ⟨rfl, Or.inl ⟨rfl, rfl⟩⟩) c3 s3 (JJ_n hJ0)
    obtain ⟨M5, e5, c5, s5⟩ := hsp 4998 _ 1 1 M4 (Or.inl ⟨rfl, Or.inr ⟨rfl, rfl⟩⟩) c4 s4 (JJ_n (JJ_s hO.1 2 0 _ rfl (JJ_n hJ0)))
    refine ⟨M5, ?_, c5, fun p hp => s5.2.2 p hp, hT⟩
    rw [e4.trans (e5.trans (fin 4997 _ 2 M5 (Or.inl ⟨rfl, rfl⟩) s5))]
    have := JJ_e hT
    exact congrArg (fun x => some (nI x, M5)) this
  · obtain ⟨M4, e4, c4, s4⟩ := hsp 4999 (rw, fun _ => -1, -1) 0 4 M3 (Or.inr ⟨rfl, Or.inl ⟨rfl, rfl⟩⟩) c3 s3 (JJ_n hJ0)
    obtain ⟨M5, e5, c5, s5⟩ := hsp 4998 _ 1 2 M4 (Or.inr ⟨rfl, Or.inr (Or.inl ⟨rfl, rfl⟩)⟩) c4 s4 (JJ_n (JJ_s hO.1 4 0 _ rfl (JJ_n hJ0)))
    obtain ⟨M6, e6, c6, s6⟩ := hsp 4997 _ 2 1 M5 (Or.inr ⟨rfl, Or.inr (Or.inr ⟨rfl, rfl⟩)⟩) c5 s5 (JJ_n (JJ_s hO.1 2 0 _ rfl (JJ_n (JJ_s hO.1 4 0 _ rfl (JJ_n hJ0)))))
    refine ⟨M6, ?_, c6, fun p hp => s6.2.2 p hp, hT⟩
    rw [e4.trans (e5.trans (e6.trans (fin 4996 _ 3 M6 (Or.inr ⟨rfl, rfl⟩) s6)))]
    have := JJ_e hT
    exact congrArg (fun x => some (nI x, M6)) this
theorem cl_second (hO : OKF np nm wo wi lo ct) (hC : CF np nm wo wi lo ct M) {B : Nat → Int32} {best : Nat} (hb : best < np) (hB : ∀ p, p < 8 → M.1 31 p = B p) {s : Int32} (hs : secO wo np best B s) : f_X3_bestBeatenBy (nI best) M = some s := by
  have h8 := hO.1
  have key : ∀ (k i m : Nat) (r : Int32), i + k = np → k < m → ((r = -1 ∧ ∀ p, p < i → ¬ B p = nI best) ∨ (∃ t, t < i ∧ r = nI t ∧ B t = nI best ∧ ∀ p, p < i → B p = nI best → p = t ∨ mor wo t p = true)) → f_X3_bestBeatenBy_L5 M m (nI best) r (nI i) = some s := by
    intro k
    induction k with
    | zero =>
      intro i m r h hm hr
      obtain ⟨m, rfl⟩ : ∃ m2, m = m2 + 1 := ⟨m - 1, by omega⟩
      have e : i = np := by omega
      subst e
      rw [f_X3_bestBeatenBy_L5, hC.1, if_pos ((n_le (by omega) (by omega)).mpr (by omega))]
      rw [secO_u hr hs]
    | succ k ih =>
      intro i m r h hm hr
      obtain ⟨m, rfl⟩ : ∃ m2, m = m2 + 1 := ⟨m - 1, by omega⟩
      rw [f_X3_bestBeatenBy_L5, hC.1, if_neg (by rw [n_le (by omega) (by omega)]; omega), ck_t (okI_31 (by omega)), n_clamp (by omega), hB i (by omega)]
      by_cases q : B i = nI best
      · rw [if_pos q]
        rcases hr with ⟨rfl, hr⟩ | ⟨t, ht, rfl, hbt, hm2⟩
        · rw [if_neg (by decide)]
          unfold f_X3_bestBeatenBy_b41 f_X3_bestBeatenBy_b42
          rw [n_s1]
          refine ih (i + 1) m _ (by omega) (by omega) (Or.inr ⟨i, by omega, rfl, q, fun p hp hp2 => ?_⟩)
          by_cases e : p = i
          · exact Or.inl e
          · exact absurd hp2 (hr p (by omega))
        · rw [if_pos (nI_pos' (by omega)), s_worthier hC hO (by omega) (by omega) (by omega), bd_s]
          unfold f_X3_bestBeatenBy_b41 f_X3_bestBeatenBy_b42
          rw [n_s1]
          refine ih (i + 1) m _ (by omega) (by omega) (Or.inr ?_)
          unfold wor
          by_cases m3 : mor wo t i = true
          · rw [if_pos m3]
            refine ⟨t, by omega, rfl, hbt, fun p hp hp2 => ?_⟩
            by_cases e : p = i
            · exact Or.inr (by rw [e]; exact m3)
            · exact hm2 p (by omega) hp2
          · rw [if_neg m3]
            have m4 := mor_tot (show t ≠ i by omega) (by simpa using m3)
            refine ⟨i, by omega, rfl, q, fun p hp hp2 => ?_⟩
            by_cases e : p = i
            · exact Or.inl e
            · rcases hm2 p (by omega) hp2 with rfl | q2
              · exact Or.inr m4
              · exact Or.inr (mor_tr m4 q2)
      · rw [if_neg q]
        unfold f_X3_bestBeatenBy_b42
        rw [n_s1]
        refine ih (i + 1) m _ (by omega) (by omega) ?_
        rcases hr with ⟨rfl, hr⟩ | ⟨t, ht, rfl, hbt, hm2⟩
        · refine Or.inl ⟨rfl, fun p hp hp2 => ?_⟩
          by_cases e : p = i
          · exact q (e ▸ hp2)
          · exact hr p (by omega) hp2
        · refine Or.inr ⟨t, by omega, rfl, hbt, fun p hp hp2 => ?_⟩
          by_cases e : p = i
          · exact absurd (e ▸ hp2) q
          · exact hm2 p (by omega) hp2
  exact key np 0 FU (-1) (by omega) (by unfold FU; omega) (Or.inl ⟨rfl, fun p hp => by omega⟩)
end CHAMP2
