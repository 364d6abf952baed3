/-! days -/
def shr (wi lo : Nat → Nat) (j k : Nat) : Bool := decide (wi j = wi k ∨ wi j = lo k ∨ lo j = wi k ∨ lo j = lo k)
def onD (ct D : Nat → Nat) (d j : Nat) : Bool := decide (ct j = 1 ∧ D j = d)
def cfl (wi lo ct D : Nat → Nat) (k d : Nat) : Nat → Nat → Bool
  | 0, _ => false
  | r + 1, j => (onD ct D d j && shr wi lo j k) || cfl wi lo ct D k d r (j + 1)
def onN (ct D : Nat → Nat) (d k : Nat) : Nat := su (fun j => (onD ct D d j).toNat) k 0
def fitD (wi lo ct D : Nat → Nat) (t k d : Nat) : Bool := !(cfl wi lo ct D k d k 0) && decide (onN ct D d k < t)
def fstD (wi lo ct D : Nat → Nat) (t k : Nat) : Nat → Nat → Nat
  | 0, d => d
  | f + 1, d => if fitD wi lo ct D t k d = true then d else fstD wi lo ct D t k f (d + 1)
/-- the days told one by one: (days, how many) -/
def dayS (wi lo ct : Nat → Nat) (t : Nat) : Nat → Nat → (Nat → Nat) × Nat → (Nat → Nat) × Nat
  | 0, _, s => s
  | r + 1, k, s => dayS wi lo ct t r (k + 1) (if ct k = 1 then (upN s.1 k (fstD wi lo ct s.1 t k 12 0), max s.2 (fstD wi lo ct s.1 t k 12 0 + 1)) else s)
theorem cfl_f {wi lo ct D : Nat → Nat} {k d : Nat} : ∀ (r j : Nat), (∀ i, j ≤ i → i < j + r → onD ct D d i = false) → cfl wi lo ct D k d r j = false
  | 0, _, _ => rfl
  | r + 1, j, h => by
    rw [cfl, h j (by omega) (by omega), cfl_f r (j + 1) (fun i h1 h2 => h i (by omega) (by omega))]; rfl
theorem su_0 {g : Nat → Nat} : ∀ (r j : Nat), (∀ i, j ≤ i → i < j + r → g i = 0) → su g r j = 0
  | 0, _, _ => rfl
  | r + 1, j, h => by rw [su, h j (by omega) (by omega), su_0 r (j + 1) (fun i h1 h2 => h i (by omega) (by omega))]
theorem fit_k {wi lo ct D : Nat → Nat} {t k : Nat} (ht : 1 ≤ t) (hD : ∀ j, j < k → ct j = 1 → D j ≤ j) : fitD wi lo ct D t k k = true := by
  have h0 : ∀ i, i < k → onD ct D k i = false := fun i hi => by
    simp only [onD, decide_eq_false_iff_not]
    rintro ⟨h1, h2⟩
    have := hD i hi h1
    omega
  unfold fitD onN
  rw [cfl_f k 0 (fun i _ h => h0 i (by omega)), su_0 k 0 (fun i _ h => by show (onD ct D k i).toNat = 0; rw [h0 i (by omega)]; rfl), decide_eq_true (by omega)]
  rfl
theorem fst_x {wi lo ct D : Nat → Nat} {t k : Nat} : ∀ (f d e : Nat), d ≤ e → e < d + f → fitD wi lo ct D t k e = true → fstD wi lo ct D t k f d ≤ e ∧ d ≤ fstD wi lo ct D t k f d ∧ fitD wi lo ct D t k (fstD wi lo ct D t k f d) = true ∧ ∀ x, d ≤ x → x < fstD wi lo ct D t k f d → fitD wi lo ct D t k x = false
  | 0, d, e, h1, h2, _ => by omega
  | f + 1, d, e, h1, h2, h3 => by
    rw [fstD]
    by_cases q : fitD wi lo ct D t k d = true
    · rw [if_pos q]; exact ⟨h1, Nat.le_refl _, q, fun x hx1 hx2 => by omega⟩
    · rw [if_neg q]
      have hne : d ≠ e := fun h => q (by rw [h]; exact h3)
      obtain ⟨a, b, c, g⟩ := fst_x f (d + 1) e (by omega) (by omega) h3
      exact ⟨a, by omega, c, fun x hx1 hx2 => by
        by_cases qx : x = d
        · rw [qx]; simpa using q
        · exact g x (by omega) hx2⟩
section DAY
variable {np nm : Nat} {wo wi lo ct : Nat → Nat} {M : Mem}
theorem mo_may_L (hO : OKF np nm wo wi lo ct) (hC : MF np nm wo wi lo ct M) {D : Nat → Nat} {k d t : Nat} (hk : k < nm) (hd : d ≤ 12) (ht : t ≤ 4) (hb : ∀ j, j < k → ct j = 1 → D j ≤ 12) (h70 : ∀ j, j < k → ct j = 1 → M.1 70 j = nI (D j)) : ∀ (r j m acc : Nat), j + r = k → r < m → acc + r ≤ 20 → f_X11_mayPlay_L6 M m (nI k) (nI d) (nI t) (nI acc) (nI j) = some (bb (!(cfl wi lo ct D k d r j) && decide (acc + su (fun j => (onD ct D d j).toNat) r j < t)))
  | 0, j, m, acc, h, hm, ha => by
    have h12 := hO.2.1
    obtain ⟨m, rfl⟩ : ∃ m2, m = m2 + 1 := ⟨m - 1, by omega⟩
    rw [f_X11_mayPlay_L6, if_pos ((n_le (by omega) (by omega)).mpr (by omega))]
    simp only [n_le (show t < 2147483648 by omega) (show acc < 2147483648 by omega)]
    show _ = some (bb (true && decide (acc + 0 < t)))
    by_cases q : t ≤ acc
    · have h3 : ¬ acc + 0 < t := by omega
      rw [if_pos q, decide_eq_false h3]; rfl
    · have h3 : acc + 0 < t := by omega
      rw [if_neg q, decide_eq_true h3]; rfl
  | r + 1, j, m, acc, h, hm, ha => by
    have h12 := hO.2.1
    have h8 := hO.1
    obtain ⟨m, rfl⟩ : ∃ m2, m = m2 + 1 := ⟨m - 1, by omega⟩
    obtain ⟨a1, a2, a3⟩ := hC.2.2.2 j (by omega)
    obtain ⟨c1, c2, c3⟩ := hC.2.2.2 k hk
    obtain ⟨b1, b2, b3, b4⟩ := hO.2.2.2 j (by omega)
    obtain ⟨d1, d2, d3, d4⟩ := hO.2.2.2 k hk
    have hle : su (fun j => (onD ct D d j).toNat) r (j + 1) ≤ r * 1 := su_le r (j + 1) (fun i _ _ => by show (onD ct D d i).toNat ≤ 1; cases onD ct D d i <;> decide)
    rw [f_X11_mayPlay_L6, if_neg (by rw [n_le (by omega) (by omega)]; omega), s_counts hC hO (by omega), bd_s, ite_bb, cfl, su]
    unfold f_X11_mayPlay_b104
    rw [n_s1, n_s1]
    by_cases q : ct j = 1
    · rw [if_pos (by simpa using q), ck_t (okI_70 (by omega)), n_clamp (by omega), n_clamp (by omega), h70 j (by omega) q, ck_t (okI_52 (by omega)), ck_t (okI_52 (by omega)), ck_t (okI_52 (by omega)), ck_t (okI_53 (by omega)), ck_t (okI_53 (by omega)), ck_t (okI_52 (by omega)), ck_t (okI_53 (by omega)), ck_t (okI_53 (by omega)), a1, a2, c1, c2]
      have hb2 := hb j (by omega) q
      simp only [n_eq (show D j < 2147483648 by omega) (show d < 2147483648 by omega), n_eq (show wi j < 2147483648 by omega) (show wi k < 2147483648 by omega), n_eq (show wi j < 2147483648 by omega) (show lo k < 2147483648 by omega), n_eq (show lo j < 2147483648 by omega) (show wi k < 2147483648 by omega), n_eq (show lo j < 2147483648 by omega) (show lo k < 2147483648 by omega)]
      by_cases q2 : D j = d
      · have eo : onD ct D d j = true := by simp [onD, q, q2]
        rw [if_pos q2, eo, Bool.true_and]
        by_cases q3 : shr wi lo j k = true
        · have q4 := q3
          simp only [shr, decide_eq_true_eq] at q4
          rw [q3, Bool.true_or]
          have : (if wi j = wi k then some (0 : Int32) else if wi j = lo k then some 0 else if lo j = wi k then some 0 else if lo j = lo k then some 0 else (fun a0 a1 a2 a3 a4 => f_X11_mayPlay_L6 M m a0 a1 a2 a3 a4) (nI k) (nI d) (nI t) (nI (acc + 1)) (nI (j + 1))) = some 0 := by
            by_cases p1 : wi j = wi k
            · rw [if_pos p1]
            · rw [if_neg p1]
              by_cases p2 : wi j = lo k
              · rw [if_pos p2]
              · rw [if_neg p2]
                by_cases p3 : lo j = wi k
                · rw [if_pos p3]
                · rw [if_neg p3, if_pos (by omega)]
          rw [this]; rfl
        · have q4 := q3
          simp only [shr, decide_eq_true_eq] at q4
          rw [if_neg (by omega), if_neg (by omega), if_neg (by omega), if_neg (by omega), Bool.eq_false_iff.mpr q3, Bool.false_or]
          exact (mo_may_L hO hC hk hd ht hb h70 r (j + 1) m (acc + 1) (by omega) (by omega) (by omega)).trans (by rw [Nat.add_assoc]; rfl)
      · have eo : onD ct D d j = false := by simp [onD, q2]
        rw [if_neg q2, eo, Bool.false_and, Bool.false_or]
        exact (mo_may_L hO hC hk hd ht hb h70 r (j + 1) m acc (by omega) (by omega) (by omega)).trans (by simp)
    · have eo : onD ct D d j = false := by simp [onD, q]
      rw [if_neg (by simpa using q), eo, Bool.false_and, Bool.false_or]
      exact (mo_may_L hO hC hk hd ht hb h70 r (j + 1) m acc (by omega) (by omega) (by omega)).trans (by simp)
theorem mo_may (hO : OKF np nm wo wi lo ct) (hC : MF np nm wo wi lo ct M) {D : Nat → Nat} {k d t : Nat} (hk : k < nm) (hd : d ≤ 12) (ht : t ≤ 4) (hb : ∀ j, j < k → ct j = 1 → D j ≤ 12) (h70 : ∀ j, j < k → ct j = 1 → M.1 70 j = nI (D j)) : f_X11_mayPlay (nI k) (nI d) (nI t) M = some (bb (fitD wi lo ct D t k d)) := by
  have h12 := hO.2.1
  have := mo_may_L hO hC hk hd ht hb h70 k 0 FU 0 (by omega) (by unfold FU; omega) (by omega)
  rw [Nat.zero_add] at this
  exact this
theorem mo_day_1 {k32 : Int32 → Int32 → Int32 → Int32 → Mem → Option (Int32 × Mem)} (hO : OKF np nm wo wi lo ct) (hC : MF np nm wo wi lo ct M) {D : Nat → Nat} {k t mx : Nat} (v2 : Int32) (hk : k < nm) (ht : t ≤ 4) (hmx : mx ≤ 12) (hb : ∀ j, j < k → ct j = 1 → D j ≤ 12) (h70 : ∀ j, j < k → ct j = 1 → M.1 70 j = nI (D j)) : ∀ (f d m e : Nat), d ≤ e → e < d + f → e ≤ 11 → fitD wi lo ct D t k e = true → f < m → f_X11_days_L65 k32 m (nI t) v2 (nI mx) (nI k) (nI d) M = k32 (nI t) v2 (nI (max mx (fstD wi lo ct D t k f d + 1))) (nI (k + 1)) (wI M 70 k (nI (fstD wi lo ct D t k f d)))
  | 0, d, m, e, h1, h2, _, _, _ => by omega
  | f + 1, d, m, e, h1, h2, h3, h4, hm => by
    have h12 := hO.2.1
    obtain ⟨m, rfl⟩ : ∃ m2, m = m2 + 1 := ⟨m - 1, by omega⟩
    rw [f_X11_days_L65, mo_may hO hC hk (by omega) ht hb h70, bd_s, ite_bb, fstD]
    by_cases q : fitD wi lo ct D t k d = true
    · rw [if_pos q, if_pos q, ck_t (okI_70 (by omega)), lt_e, n_clamp (by omega), n_s1]
      unfold f_X11_days_b108 f_X11_days_b109
      rw [n_s1]
      simp only [n_le (show d + 1 < 2147483648 by omega) (show mx < 2147483648 by omega)]
      by_cases q2 : d + 1 ≤ mx
      · rw [if_pos q2, Nat.max_eq_left q2]
      · rw [if_neg q2, Nat.max_eq_right (by omega)]
    · rw [if_neg q, if_neg q, n_s1]
      have hne : d ≠ e := fun h => q (by rw [h]; exact h4)
      exact mo_day_1 hO hC v2 hk ht hmx hb h70 f (d + 1) m e (by omega) (by omega) h3 h4 (by omega)
theorem mo_days_L (hO : OKF np nm wo wi lo ct) {t : Nat} (ht : t ≤ 4) (ht1 : 1 ≤ t) (v2 : Int32) : ∀ (r k m : Nat) (s : (Nat → Nat) × Nat) (M : Mem), k + r = nm → r < m → MF np nm wo wi lo ct M → s.2 ≤ 12 → (∀ j, j < k → (ct j = 1 → s.1 j ≤ j ∧ M.1 70 j = nI (s.1 j)) ∧ (¬ ct j = 1 → M.1 70 j = -2)) → ∃ M1, f_X11_days_L32 m (nI t) v2 (nI s.2) (nI k) M = (if v2 = -1 then some (nI (dayS wi lo ct t r k s).2, M1) else ck (okI 70 v2) (some (M1.1 70 v2.toNatClampNeg, M1))) ∧ (∀ j, j < nm → (ct j = 1 → M1.1 70 j = nI ((dayS wi lo ct t r k s).1 j)) ∧ (¬ ct j = 1 → M1.1 70 j = -2))
  | 0, k, m, s, M, h, hm, hC, hmx, hP => by
    have h12 := hO.2.1
    obtain ⟨m, rfl⟩ : ∃ m2, m = m2 + 1 := ⟨m - 1, by omega⟩
    rw [f_X11_days_L32, hC.2.1, if_pos ((n_le (by omega) (by omega)).mpr (by omega))]
    exact ⟨M, rfl, fun j hj => ⟨fun q => ((hP j (by omega)).1 q).2, (hP j (by omega)).2⟩⟩
  | r + 1, k, m, s, M, h, hm, hC, hmx, hP => by
    have h12 := hO.2.1
    obtain ⟨m, rfl⟩ : ∃ m2, m = m2 + 1 := ⟨m - 1, by omega⟩
    have wMF : ∀ (M : Mem) (j : Nat) (x : Int32), MF np nm wo wi lo ct M → MF np nm wo wi lo ct (wI M 70 j x) := fun M j x hC => ⟨by simp [wI_rd, hC.1], by simp [wI_rd, hC.2.1], fun q hq => by simp [wI_rd, hC.2.2.1 q hq], fun q hq => by simp [wI_rd, hC.2.2.2 q hq]⟩
    have c1 := wMF M k (-2) hC
    rw [f_X11_days_L32, hC.2.1, if_neg (by rw [n_le (by omega) (by omega)]; omega), ck_t (okI_70 (by omega)), lt_e, n_clamp (by omega), s_counts c1 hO (by omega), bd_s, ite_bb, dayS]
    by_cases q : ct k = 1
    · rw [if_pos (by simpa using q), if_pos q]
      have hfk := fit_k (wi := wi) (lo := lo) (D := s.1) ht1 (fun j hj hc => ((hP j hj).1 hc).1)
      obtain ⟨x1, x2, x3, x4⟩ := fst_x (wi := wi) (lo := lo) (ct := ct) (D := s.1) (t := t) (k := k) 12 0 k (by omega) (by omega) hfk
      have hd := mo_day_1 (k32 := fun a0 a1 a2 a3 a4 => f_X11_days_L32 m a0 a1 a2 a3 a4) hO c1 (D := s.1) (k := k) (t := t) (mx := s.2) v2 (by omega) ht hmx (fun j hj hc => by have := ((hP j hj).1 hc).1; omega) (fun j hj hc => by rw [wI_rd, if_neg (by omega)]; exact ((hP j hj).1 hc).2) 12 0 FU k (by omega) (by omega) (by omega) hfk (by unfold FU; omega)
      have hd' : f_X11_days_L65 (fun a0 a1 a2 a3 a4 => f_X11_days_L32 m a0 a1 a2 a3 a4) FU (nI t) v2 (nI s.2) (nI k) 0 (wI M 70 k (-2)) = _ := hd
      rw [hd']
      refine mo_days_L hO ht ht1 v2 r (k + 1) m (upN s.1 k (fstD wi lo ct s.1 t k 12 0), max s.2 (fstD wi lo ct s.1 t k 12 0 + 1)) _ (by omega) (by omega) (wMF _ _ _ c1) (by show max s.2 _ ≤ 12; omega) (fun j hj => ?_)
      by_cases e : j = k
      · subst e
        refine ⟨fun _ => ⟨by simp only [upN, if_true]; exact x1, by simp [wI_rd, upN]⟩, fun h => absurd q h⟩
      · refine ⟨fun hc => ⟨by simp only [upN, e, if_false]; exact ((hP j (by omega)).1 hc).1, by simp [wI_rd, upN, e, ((hP j (by omega)).1 hc).2]⟩, fun hc => by simp [wI_rd, e, (hP j (by omega)).2 hc]⟩
    · rw [if_neg (by simpa using q), if_neg q]
      unfold f_X11_days_b109
      rw [n_s1]
      refine mo_days_L hO ht ht1 v2 r (k + 1) m s _ (by omega) (by omega) c1 hmx (fun j hj => ?_)
      by_cases e : j = k
      · subst e
        exact ⟨fun hc => absurd hc q, fun _ => by simp [wI_rd]⟩
      · refine ⟨fun hc => ⟨((hP j (by omega)).1 hc).1, by simp [wI_rd, e, ((hP j (by omega)).1 hc).2]⟩, fun hc => by simp [wI_rd, e, (hP j (by omega)).2 hc]⟩
def dayA (nm : Nat) (wi lo ct : Nat → Nat) (v w : Int32) : Int32 := if 1 ≤ v.toInt ∧ v.toInt ≤ 4 ∧ (w = -1 ∨ inN nm w = true) then (if w = -1 then nI (dayS wi lo ct v.toNatClampNeg nm 0 (fun _ => 0, 0)).2 else if ct w.toNatClampNeg = 1 then nI ((dayS wi lo ct v.toNatClampNeg nm 0 (fun _ => 0, 0)).1 w.toNatClampNeg) else -2) else -1
theorem mo_days (hO : OKF np nm wo wi lo ct) (hC : MF np nm wo wi lo ct M) (v w : Int32) : ∃ M1, f_X11_days v w M = some (dayA nm wi lo ct v w, M1) := by
  have h12 := hO.2.1
  unfold f_X11_days dayA
  rw [s_within, w_toInt, bd_s, ite_bb, show (1 : Int64).toInt = 1 from rfl, show (4 : Int64).toInt = 4 from rfl]
  by_cases q : 1 ≤ v.toInt ∧ v.toInt ≤ 4
  · rw [if_pos (by simpa using q), s_isMatch hC.2.1 hO.2.1, bd_s, ite_bb]
    obtain ⟨t, ht1, ht4, rfl⟩ : ∃ t, 1 ≤ t ∧ t ≤ 4 ∧ v = nI t := ⟨v.toInt.toNat, by omega, by omega, n_of (by omega)⟩
    rw [n_clamp (by omega)]
    unfold f_X11_days_b27
    obtain ⟨M1, f1, c1⟩ := mo_days_L hO ht4 ht1 w nm 0 FU (fun _ => 0, 0) M (by omega) (by unfold FU; omega) hC (by omega) (fun j hj => by omega)
    have f1' : f_X11_days_L32 FU (nI t) w 0 0 M = _ := f1
    rw [f1']
    by_cases qw : w = -1
    · have hA : 1 ≤ (nI t).toInt ∧ (nI t).toInt ≤ 4 ∧ (w = -1 ∨ inN nm w = true) := ⟨q.1, q.2, Or.inl qw⟩
      rw [if_pos qw, if_pos qw, if_pos hA, if_pos qw]
      exact ⟨M1, rfl⟩
    · rw [if_neg qw, if_neg qw]
      by_cases q2 : inN nm w = true
      · have hA : 1 ≤ (nI t).toInt ∧ (nI t).toInt ≤ 4 ∧ (w = -1 ∨ inN nm w = true) := ⟨q.1, q.2, Or.inr q2⟩
        rw [if_pos q2, if_pos hA, if_neg qw]
        obtain ⟨j, hj, hj2, rfl⟩ := inN_t q2
        rw [ck_t (okI_70 (by omega)), n_clamp hj2]
        by_cases qc : ct j = 1
        · rw [if_pos qc, (c1 j hj).1 qc]; exact ⟨M1, rfl⟩
        · rw [if_neg qc, (c1 j hj).2 qc]; exact ⟨M1, rfl⟩
      · have hA : ¬ (1 ≤ (nI t).toInt ∧ (nI t).toInt ≤ 4 ∧ (w = -1 ∨ inN nm w = true)) := fun h => by rcases h.2.2 with h | h; exact qw h; exact q2 h
        rw [if_neg q2, if_neg hA]; exact ⟨M, rfl⟩
  · have hA : ¬ (1 ≤ v.toInt ∧ v.toInt ≤ 4 ∧ (w = -1 ∨ inN nm w = true)) := fun h => q ⟨h.1, h.2.1⟩
    rw [if_neg (by simpa using q), if_neg hA]; exact ⟨M, rfl⟩
end DAY
