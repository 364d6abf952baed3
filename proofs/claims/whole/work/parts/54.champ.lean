/-! champion -/
theorem n_min {a b : Nat} (ha : a < 2147483648) (hb : b < 2147483648) : ab_min (nI a) (nI b) = nI (min a b) := by
  unfold ab_min
  simp only [n_lt hb ha]
  by_cases h : b < a
  · rw [if_pos h, Nat.min_eq_right (by omega)]
  · rw [if_neg h, Nat.min_eq_left (by omega)]
theorem n_max {a b : Nat} (ha : a < 2147483648) (hb : b < 2147483648) : ab_max (nI a) (nI b) = nI (max a b) := by
  unfold ab_max
  simp only [n_lt ha hb]
  by_cases h : a < b
  · rw [if_pos h, Nat.max_eq_right (by omega)]
  · rw [if_neg h, Nat.max_eq_left (by omega)]
theorem n_add (a b : Nat) : nI a + nI b = nI (a + b) := nI_add a b
theorem n_mul (a b : Nat) : nI a * nI b = nI (a * b) := (Int32.ofNat_mul a b).symm
theorem n_dbl (a : Nat) : (2 : Int32) * nI a = nI (2 * a) := n_mul 2 a
def mor (wo : Nat → Nat) (a b : Nat) : Bool := decide (wo b < wo a ∨ (wo a = wo b ∧ a < b))
def wor (wo : Nat → Nat) (a b : Nat) : Nat := if mor wo a b = true then a else b
theorem mor_irr (wo : Nat → Nat) (a : Nat) : mor wo a a = false := by simp [mor]
theorem mor_asym {wo : Nat → Nat} {a b : Nat} (h : mor wo a b = true) : mor wo b a = false := by
  simp only [mor, decide_eq_true_eq, decide_eq_false_iff_not] at *; omega
theorem mor_tot {wo : Nat → Nat} {a b : Nat} (h : a ≠ b) (h2 : mor wo a b = false) : mor wo b a = true := by
  simp only [mor, decide_eq_true_eq, decide_eq_false_iff_not] at *; omega
theorem mor_tr {wo : Nat → Nat} {a b c : Nat} (h : mor wo a b = true) (h2 : mor wo b c = true) : mor wo a c = true := by
  simp only [mor, decide_eq_true_eq] at *; omega
section CHAMP
variable {np nm : Nat} {wo wi lo ct : Nat → Nat} {n : Nat} {rw : Nat → Nat} {M : Mem}
theorem s_worthier (hC : CF np nm wo wi lo ct M) (hO : OKF np nm wo wi lo ct) {a b : Nat} (ha : a < np) (hb : b < np) (hab : a ≠ b) : f_X3_worthier (nI a) (nI b) M = some (nI (wor wo a b)) := by
  have h8 := hO.1
  have w1 := hO.2.2.1 a ha
  have w2 := hO.2.2.1 b hb
  have r1 := hC.2.2.1 a ha
  have r2 := hC.2.2.1 b hb
  unfold f_X3_worthier
  rw [n_min (by omega) (by omega), n_max (by omega) (by omega), lt_e, lt_e, ck_t (okI_2 (by omega)), ck_t (okI_2 (by omega)), n_clamp (by omega), n_clamp (by omega)]
  unfold wor mor
  by_cases h : a < b
  · rw [Nat.min_eq_left (by omega), Nat.max_eq_right (by omega), r1, r2]
    simp only [n_le (show wo b < 2147483648 by omega) (show wo a < 2147483648 by omega)]
    by_cases q : wo b ≤ wo a
    · rw [if_pos q, if_pos (by simp; omega)]
    · rw [if_neg q, if_neg (by simp; omega)]
  · rw [Nat.min_eq_right (by omega), Nat.max_eq_left (by omega), r1, r2]
    simp only [n_le (show wo a < 2147483648 by omega) (show wo b < 2147483648 by omega)]
    by_cases q : wo a ≤ wo b
    · rw [if_pos q, if_neg (by simp; omega)]
    · rw [if_neg q, if_pos (by simp; omega)]
theorem s_isMore (hC : MF np nm wo wi lo ct M) (hO : OKF np nm wo wi lo ct) {a b : Nat} (ha : a < np) (hb : b < np) : f_X11_isMore (nI a) (nI b) M = some (bb (mor wo a b)) := by
  have h8 := hO.1
  have w1 := hO.2.2.1 a ha
  have w2 := hO.2.2.1 b hb
  have r1 := hC.2.2.1 a ha
  have r2 := hC.2.2.1 b hb
  unfold f_X11_isMore
  rw [ck_t (okI_48 (by omega)), ck_t (okI_48 (by omega)), ck_t (okI_48 (by omega)), ck_t (okI_48 (by omega)), n_clamp (by omega), n_clamp (by omega), r1, r2]
  simp only [n_lt (show wo b < 2147483648 by omega) (show wo a < 2147483648 by omega), n_eq (show wo a < 2147483648 by omega) (show wo b < 2147483648 by omega), n_le (show b < 2147483648 by omega) (show a < 2147483648 by omega), f_X11_isMore_b35, mor]
  by_cases q : wo b < wo a
  · rw [if_pos q, decide_eq_true (Or.inl q)]; rfl
  · rw [if_neg q]
    by_cases q2 : wo a = wo b
    · rw [if_pos q2]
      by_cases q3 : b ≤ a
      · rw [if_pos q3, decide_eq_false (by omega)]; rfl
      · rw [if_neg q3, decide_eq_true (by omega)]; rfl
    · rw [if_neg q2, decide_eq_false (by omega)]; rfl
/-- one cup by worth: the seats, who was beaten by whom, the best of those that the best one beat -/
abbrev ChS : Type := (Nat → Nat) × (Nat → Int32) × Int32
def oth (best a b : Nat) : Nat := if a = best then b else a
def ch1 (wo : Nat → Nat) (best : Nat) (s : ChS) (g : Nat) : ChS :=
  let a := s.1 (2 * g)
  let b := s.1 (2 * g + 1)
  let w := wor wo a b
  (upN s.1 g w, upd s.2.1 (if w = a then b else a) (nI w), if (a = best ∨ b = best) ∧ (s.2.2 < 0 ∨ mor wo (oth best a b) s.2.2.toNatClampNeg = true) then nI (oth best a b) else s.2.2)
def chs (wo : Nat → Nat) (best : Nat) : Nat → Nat → ChS → ChS
  | 0, _, s => s
  | k + 1, g, s => chs wo best k (g + 1) (ch1 wo best s g)
def lv (g cnt j : Nat) : Prop := j < g ∨ (2 * g ≤ j ∧ j < 2 * cnt)
def secO (wo : Nat → Nat) (np best : Nat) (B : Nat → Int32) (s : Int32) : Prop := (s = -1 ∧ ∀ p, p < np → ¬ B p = nI best) ∨ (∃ t, t < np ∧ s = nI t ∧ B t = nI best ∧ ∀ p, p < np → B p = nI best → p = t ∨ mor wo t p = true)
def JJ (wo : Nat → Nat) (np best g cnt : Nat) (s : ChS) : Prop := best < np ∧ (∀ i j, lv g cnt i → lv g cnt j → s.1 i = s.1 j → i = j) ∧ (∀ j, lv g cnt j → s.1 j < np ∧ s.2.1 (s.1 j) = -1 ∧ (s.1 j = best ∨ mor wo best (s.1 j) = true)) ∧ (∃ j, lv g cnt j ∧ s.1 j = best) ∧ secO wo np best s.2.1 s.2.2
theorem secO_u {best : Nat} {B : Nat → Int32} {s s2 : Int32} (h : secO wo np best B s) (h2 : secO wo np best B s2) : s = s2 := by
  rcases h with ⟨e, h⟩ | ⟨t, ht, e, hb, hm⟩
  · rcases h2 with ⟨e2, -⟩ | ⟨t2, ht2, -, hb2, -⟩
    · rw [e, e2]
    · exact absurd hb2 (h t2 ht2)
  · rcases h2 with ⟨-, h2⟩ | ⟨t2, ht2, e2, hb2, hm2⟩
    · exact absurd hb (h2 t ht)
    · rw [e, e2]
      rcases hm t2 ht2 hb2 with q | q
      · rw [q]
      · rcases hm2 t ht hb with q2 | q2
        · rw [q2]
        · rw [mor_asym q] at q2; cases q2
theorem nI_m1 {p : Nat} (h : p < 100) : ¬ (-1 : Int32) = nI p := fun q => by
  have := congrArg Int32.toInt q
  rw [n_toInt (by omega)] at this
  have e : (-1 : Int32).toInt = -1 := rfl
  omega
theorem JJ_1 (hp : np ≤ 8) {best g cnt : Nat} {s : ChS} (h : JJ wo np best g cnt s) (hg : g < cnt) : JJ wo np best (g + 1) cnt (ch1 wo best s g) := by
  obtain ⟨hb, hi, hl, ⟨j0, hj0, ej0⟩, hs⟩ := h
  obtain ⟨S, B, t⟩ := s
  have la : lv g cnt (2 * g) := by unfold lv; omega
  have lb : lv g cnt (2 * g + 1) := by unfold lv; omega
  have hab : S (2 * g) ≠ S (2 * g + 1) := fun q => by have := hi _ _ la lb q; omega
  simp only at hi hl ej0 hs
  have ha1 := hl _ la
  have hb1 := hl _ lb
  simp only [JJ, ch1]
  generalize ea : S (2 * g) = a at *
  generalize eb : S (2 * g + 1) = b at *
  have hw : (wor wo a b = a ∧ mor wo a b = true) ∨ (wor wo a b = b ∧ mor wo b a = true) := by
    unfold wor
    by_cases q : mor wo a b = true
    · exact Or.inl ⟨by rw [if_pos q], q⟩
    · exact Or.inr ⟨by rw [if_neg q], mor_tot hab (by simpa using q)⟩
  generalize ew : wor wo a b = w at *
  -- live seats of the next: an old live seat other than the two, or g
  have lv2 : ∀ j, lv (g + 1) cnt j → j = g ∨ (lv g cnt j ∧ j ≠ 2 * g ∧ j ≠ 2 * g + 1 ∧ j ≠ g) := by
    intro j hj
    unfold lv at *
    omega
  have hwl : ∃ q, (q = 2 * g ∨ q = 2 * g + 1) ∧ S q = w := by
    rcases hw with ⟨e, -⟩ | ⟨e, -⟩
    · exact ⟨2 * g, Or.inl rfl, by rw [ea, e]⟩
    · exact ⟨2 * g + 1, Or.inr rfl, by rw [eb, e]⟩
  obtain ⟨qw, hqw, eqw⟩ := hwl
  have lqw : lv g cnt qw := by rcases hqw with rfl | rfl <;> assumption
  generalize el : (if w = a then b else a) = l
  have hlq : ∃ q, (q = 2 * g ∨ q = 2 * g + 1) ∧ S q = l ∧ q ≠ qw := by
    rcases hw with ⟨e, -⟩ | ⟨e, -⟩
    · rw [e, if_pos rfl] at el
      exact ⟨2 * g + 1, Or.inr rfl, by rw [eb, el], fun q => by rw [← q, eb, e] at eqw; exact hab eqw.symm⟩
    · rw [e, if_neg (fun q => hab q.symm)] at el
      exact ⟨2 * g, Or.inl rfl, by rw [ea, el], fun q => by rw [← q, ea, e] at eqw; exact hab eqw⟩
  obtain ⟨ql, hql, eql, hne⟩ := hlq
  have lql : lv g cnt ql := by rcases hql with rfl | rfl <;> assumption
  have hlw : l ≠ w := fun q => hne (hi _ _ lql lqw (by rw [eql, eqw, q]))
  have hnl : ∀ j, lv g cnt j → j ≠ 2 * g → j ≠ 2 * g + 1 → S j ≠ l ∧ S j ≠ w := by
    intro j hj h1 h2
    exact ⟨fun q => by have := hi _ _ hj lql (by rw [q, eql]); omega, fun q => by have := hi _ _ hj lqw (by rw [q, eqw]); omega⟩
  have hwbest : (a = best ∨ b = best) → w = best ∧ l = oth best a b := by
    intro q
    rcases hw with ⟨e, m⟩ | ⟨e, m⟩
    · rw [e, if_pos rfl] at el
      rcases q with q | q
      · exact ⟨by rw [e, q], by unfold oth; rw [if_pos q, el]⟩
      · rcases ha1.2.2 with q2 | q2
        · exact absurd (q2.trans q.symm) hab
        · rw [q] at m; rw [mor_asym m] at q2; cases q2
    · rw [e, if_neg (fun q => hab q.symm)] at el
      rcases q with q | q
      · rcases hb1.2.2 with q2 | q2
        · exact absurd (q.trans q2.symm) hab
        · rw [q] at m; rw [mor_asym m] at q2; cases q2
      · exact ⟨by rw [e, q], by unfold oth; rw [if_neg (fun q3 => hab (q3.trans q.symm)), el]⟩
  have hl8 : l < np := by have := (hl _ lql).1; rw [eql] at this; exact this
  have hBl : B l = -1 := by have := (hl _ lql).2.1; rw [eql] at this; exact this
  refine ⟨hb, ?_, ?_, ?_, ?_⟩
  · intro i j h1 h2 e
    unfold upN at e
    rcases lv2 i h1 with rfl | ⟨l1, a1, a2, a3⟩
    · rcases lv2 j h2 with rfl | ⟨l2, b1, b2, b3⟩
      · rfl
      · rw [if_pos rfl, if_neg b3] at e
        exact absurd e.symm (hnl j l2 b1 b2).2
    · rcases lv2 j h2 with rfl | ⟨l2, b1, b2, b3⟩
      · rw [if_pos rfl, if_neg a3] at e
        exact absurd e (hnl i l1 a1 a2).2
      · rw [if_neg a3, if_neg b3] at e
        exact hi i j l1 l2 e
  · intro j hj
    unfold upN
    rcases lv2 j hj with rfl | ⟨l1, a1, a2, a3⟩
    · rw [if_pos rfl]
      have := hl _ lqw
      rw [eqw] at this
      exact ⟨this.1, by unfold upd; rw [if_neg (Ne.symm hlw)]; exact this.2.1, this.2.2⟩
    · rw [if_neg a3]
      have := hl _ l1
      exact ⟨this.1, by unfold upd; rw [if_neg (hnl j l1 a1 a2).1]; exact this.2.1, this.2.2⟩
  · by_cases q : j0 = 2 * g ∨ j0 = 2 * g + 1
    · refine ⟨g, by unfold lv; omega, ?_⟩
      unfold upN
      rw [if_pos rfl]
      refine (hwbest ?_).1
      rcases q with q | q
      · rw [q, ea] at ej0; exact Or.inl ej0
      · rw [q, eb] at ej0; exact Or.inr ej0
    · refine ⟨j0, by unfold lv at *; omega, ?_⟩
      unfold upN
      rw [if_neg (by unfold lv at *; omega)]
      exact ej0
  · by_cases q : a = best ∨ b = best
    · obtain ⟨e1, e2⟩ := hwbest q
      rw [e1, ← e2]
      have hB1 : ∀ p, upd B l (nI best) p = if p = l then nI best else B p := fun p => rfl
      simp only [q, true_and]
      right
      rcases hs with ⟨et, hn⟩ | ⟨t0, ht0, et, hbt, hm⟩
      · rw [et, if_pos (Or.inl (by decide))]
        refine ⟨l, hl8, rfl, by rw [hB1, if_pos rfl], fun p hp2 hp3 => ?_⟩
        rw [hB1] at hp3
        by_cases e : p = l
        · exact Or.inl e
        · rw [if_neg e] at hp3; exact absurd hp3 (hn p hp2)
      · have hc : (nI t0).toNatClampNeg = t0 := n_clamp (by omega)
        have hneg : ¬ nI t0 < 0 := nI_pos (by omega)
        rw [et, hc]
        simp only [hneg, false_or]
        by_cases m : mor wo l t0 = true
        · rw [if_pos m]
          refine ⟨l, hl8, rfl, by rw [hB1, if_pos rfl], fun p hp2 hp3 => ?_⟩
          rw [hB1] at hp3
          by_cases e : p = l
          · exact Or.inl e
          · rw [if_neg e] at hp3
            rcases hm p hp2 hp3 with rfl | q3
            · exact Or.inr m
            · exact Or.inr (mor_tr m q3)
        · rw [if_neg m]
          have htl : t0 ≠ l := fun q3 => by rw [q3, hBl] at hbt; exact nI_m1 (by omega) hbt
          refine ⟨t0, ht0, rfl, by rw [hB1, if_neg htl]; exact hbt, fun p hp2 hp3 => ?_⟩
          rw [hB1] at hp3
          by_cases e : p = l
          · exact Or.inr (by rw [e]; exact mor_tot (Ne.symm htl) (by simpa using m))
          · rw [if_neg e] at hp3; exact hm p hp2 hp3
    · simp only [q, false_and, if_false]
      have hwb : w ≠ best := by
        rcases hw with ⟨e, -⟩ | ⟨e, -⟩
        · rw [e]; exact fun q2 => q (Or.inl q2)
        · rw [e]; exact fun q2 => q (Or.inr q2)
      have hw8 : w < np := by have := (hl _ lqw).1; rw [eqw] at this; exact this
      have hB2 : ∀ p, upd B l (nI w) p = nI best ↔ B p = nI best := by
        intro p
        unfold upd
        by_cases e : p = l
        · rw [if_pos e, e, hBl]
          constructor
          · intro q2; exact absurd ((n_eq (by omega) (by omega)).mp q2) hwb
          · intro q2; exact absurd q2 (nI_m1 (by omega))
        · rw [if_neg e]
      rcases hs with ⟨et, hn⟩ | ⟨t0, ht0, et, hbt, hm⟩
      · exact Or.inl ⟨et, fun p hp2 hp3 => hn p hp2 ((hB2 p).mp hp3)⟩
      · exact Or.inr ⟨t0, ht0, et, (hB2 t0).mpr hbt, fun p hp2 hp3 => hm p hp2 ((hB2 p).mp hp3)⟩
theorem JJ_s (hp : np ≤ 8) {best cnt : Nat} : ∀ (k g : Nat) (s : ChS), g + k = cnt → JJ wo np best g cnt s → JJ wo np best cnt cnt (chs wo best k g s)
  | 0, g, s, h, hJ => by
    have e : g = cnt := by omega
    subst e
    exact hJ
  | k + 1, g, s, h, hJ => JJ_s hp k (g + 1) _ (by omega) (JJ_1 hp hJ (by omega))
theorem JJ_n {best cnt : Nat} {s : ChS} (h : JJ wo np best (2 * cnt) (2 * cnt) s) : JJ wo np best 0 cnt s := by
  have e : ∀ j, lv 0 cnt j ↔ lv (2 * cnt) (2 * cnt) j := fun j => by unfold lv; omega
  simpa only [JJ, e] using h
def chT (wo : Nat → Nat) (best n : Nat) (s : ChS) : ChS := if n = 8 then chs wo best 1 0 (chs wo best 2 0 (chs wo best 4 0 s)) else chs wo best 1 0 (chs wo best 2 0 s)
theorem JJ_T (hp : np ≤ 8) {best : Nat} (hn : n = 4 ∨ n = 8) {s : ChS} (h : JJ wo np best n n s) : JJ wo np best 1 1 (chT wo best n s) := by
  unfold chT
  rcases hn with rfl | rfl
  · rw [if_neg (by omega)]
    exact JJ_s hp 1 0 _ rfl (JJ_n (JJ_s hp 2 0 _ rfl (JJ_n h)))
  · rw [if_pos rfl]
    exact JJ_s hp 1 0 _ rfl (JJ_n (JJ_s hp 2 0 _ rfl (JJ_n (JJ_s hp 4 0 _ rfl (JJ_n h)))))
theorem JJ_e {best : Nat} {s : ChS} (h : JJ wo np best 1 1 s) : s.1 0 = best := by
  obtain ⟨-, -, -, ⟨j, hj, e⟩, -⟩ := h
  have : j = 0 := by unfold lv at hj; omega
  rw [← this]; exact e
end CHAMP
