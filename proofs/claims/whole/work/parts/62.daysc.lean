/-! days: the class -/
theorem su_last (g : Nat → Nat) : ∀ (k j : Nat), su g (k + 1) j = su g k j + g (j + k)
  | 0, j => by simp [su]
  | k + 1, j => by
    have e : j + 1 + k = j + (k + 1) := by omega
    rw [su, su_last g k (j + 1), su, e, Nat.add_assoc]
theorem cfl_iff {wi lo ct D : Nat → Nat} {k d : Nat} : ∀ (r j : Nat), cfl wi lo ct D k d r j = true ↔ ∃ i, j ≤ i ∧ i < j + r ∧ onD ct D d i = true ∧ shr wi lo i k = true
  | 0, j => by
    constructor
    · intro h; cases h
    · rintro ⟨i, h1, h2, -⟩; omega
  | r + 1, j => by
    rw [cfl, Bool.or_eq_true, Bool.and_eq_true, cfl_iff r (j + 1)]
    constructor
    · rintro (⟨h1, h2⟩ | ⟨i, h1, h2, h3⟩)
      · exact ⟨j, by omega, by omega, h1, h2⟩
      · exact ⟨i, by omega, by omega, h3⟩
    · rintro ⟨i, h1, h2, h3, h4⟩
      by_cases q : i = j
      · subst q; exact Or.inl ⟨h3, h4⟩
      · exact Or.inr ⟨i, by omega, by omega, h3, h4⟩
def BZ (wi lo ct D : Nat → Nat) (k d B : Nat) : Prop := B < 2 ^ 8 ∧ ∀ i, B.testBit i = true ↔ ∃ j, j < k ∧ onD ct D d j = true ∧ (wi j = i ∨ lo j = i)
def PL (wi lo ct D : Nat → Nat) (k : Nat) (M : Mem) : Prop := (∀ d, d < 12 → (∃ B, M.1 38 d = nI B ∧ BZ wi lo ct D k d B) ∧ M.1 39 d = nI (onN ct D d k)) ∧ (∀ j, j < k → ct j = 1 → D j ≤ j ∧ M.1 37 j = nI (D j))
theorem BZ_f {wi lo ct D : Nat → Nat} {k d B : Nat} (h : BZ wi lo ct D k d B) (h1 : wi k < 8) (h2 : lo k < 8) : (nI B &&& (ab_shl 1 (nI (wi k)) ||| ab_shl 1 (nI (lo k))) = 0) = (cfl wi lo ct D k d k 0 = false) := by
  apply propext
  have hB := h.1
  rw [n_shl1 _ (by omega), n_shl1 _ (by omega), n_or, n_and]
  have hlt : B &&& (2 ^ wi k ||| 2 ^ lo k) < 2147483648 := by
    have := Nat.and_le_left (n := B) (m := 2 ^ wi k ||| 2 ^ lo k)
    omega
  rw [show (0 : Int32) = nI 0 from rfl, n_eq hlt (by omega), ← Bool.not_eq_true, cfl_iff]
  constructor
  · rintro e ⟨i, -, hi, h3, h4⟩
    simp only [shr, decide_eq_true_eq] at h4
    have key : ∀ x, B.testBit x = true → (x = wi k ∨ x = lo k) → False := by
      intro x hx hx2
      have : (B &&& (2 ^ wi k ||| 2 ^ lo k)).testBit x = true := by
        rw [Nat.testBit_and, Nat.testBit_or, Nat.testBit_two_pow, Nat.testBit_two_pow, hx]
        rcases hx2 with q | q
        · simp [q]
        · simp [q]
      rw [e, Nat.zero_testBit] at this
      cases this
    rcases h4 with q | q | q | q
    · exact key (wi i) ((h.2 _).mpr ⟨i, by omega, h3, Or.inl rfl⟩) (Or.inl q)
    · exact key (wi i) ((h.2 _).mpr ⟨i, by omega, h3, Or.inl rfl⟩) (Or.inr q)
    · exact key (lo i) ((h.2 _).mpr ⟨i, by omega, h3, Or.inr rfl⟩) (Or.inl q)
    · exact key (lo i) ((h.2 _).mpr ⟨i, by omega, h3, Or.inr rfl⟩) (Or.inr q)
  · intro hn
    apply Nat.eq_of_testBit_eq
    intro x
    rw [Nat.zero_testBit, Nat.testBit_and, Nat.testBit_or, Nat.testBit_two_pow, Nat.testBit_two_pow]
    cases hx : B.testBit x
    · rfl
    · obtain ⟨j, hj, h3, h4⟩ := (h.2 x).mp hx
      have : ¬ (wi k = x ∨ lo k = x) := by
        intro q
        exact hn ⟨j, by omega, by omega, h3, by simp only [shr, decide_eq_true_eq]; omega⟩
      have p1 : ¬ wi k = x := fun q => this (Or.inl q)
      have p2 : ¬ lo k = x := fun q => this (Or.inr q)
      simp [p1, p2]
theorem onD_up {ct D : Nat → Nat} {k d x j : Nat} (h : j ≠ k) : onD ct (upN D k x) d j = onD ct D d j := by simp [onD, upN, h]
theorem onN_up {ct D : Nat → Nat} {k d x : Nat} : onN ct (upN D k x) d (k + 1) = onN ct D d k + (onD ct (upN D k x) d k).toNat := by
  unfold onN
  rw [su_last, Nat.zero_add]
  congr 1
  exact su_congr k 0 (fun j _ h => by show (onD ct (upN D k x) d j).toNat = _; rw [onD_up (by omega)])
theorem BZ_up {wi lo ct D : Nat → Nat} {k d x B : Nat} (h : BZ wi lo ct D k d B) (hc : ct k = 1) (h1 : wi k < 8) (h2 : lo k < 8) : BZ wi lo ct (upN D k x) (k + 1) d (if d = x then B ||| (2 ^ wi k ||| 2 ^ lo k) else B) := by
  by_cases q : d = x
  · subst q
    rw [if_pos rfl]
    refine ⟨Nat.or_lt_two_pow h.1 (Nat.or_lt_two_pow (Nat.pow_lt_pow_right (by omega) h1) (Nat.pow_lt_pow_right (by omega) h2)), fun i => ?_⟩
    rw [Nat.testBit_or, Nat.testBit_or, Nat.testBit_two_pow, Nat.testBit_two_pow, Bool.or_eq_true, Bool.or_eq_true, decide_eq_true_eq, decide_eq_true_eq, h.2 i]
    constructor
    · rintro (⟨j, hj, h3, h4⟩ | h3)
      · exact ⟨j, by omega, by rw [onD_up (by omega)]; exact h3, h4⟩
      · exact ⟨k, by omega, by simp [onD, upN, hc], h3⟩
    · rintro ⟨j, hj, h3, h4⟩
      by_cases e : j = k
      · subst e; exact Or.inr h4
      · rw [onD_up e] at h3
        exact Or.inl ⟨j, by omega, h3, h4⟩
  · rw [if_neg q]
    refine ⟨h.1, fun i => ?_⟩
    rw [h.2 i]
    constructor
    · rintro ⟨j, hj, h3, h4⟩
      exact ⟨j, by omega, by rw [onD_up (by omega)]; exact h3, h4⟩
    · rintro ⟨j, hj, h3, h4⟩
      by_cases e : j = k
      · subst e; simp [onD, upN, Ne.symm q] at h3
      · rw [onD_up e] at h3
        exact ⟨j, by omega, h3, h4⟩
section DAYC
variable {np nm : Nat} {wo wi lo ct : Nat → Nat} {M : Mem}
theorem cl_free {D : Nat → Nat} {k t : Nat} (h1 : wi k < 8) (h2 : lo k < 8) (ht : t ≤ 4) (hk : k < 12) (hP : PL wi lo ct D k M) : ∀ (f d m e : Nat), d + f = 12 → d ≤ e → e ≤ 11 → fitD wi lo ct D t k e = true → f < m → f_X6_firstFree_L2 M m (ab_shl 1 (nI (wi k)) ||| ab_shl 1 (nI (lo k))) (nI t) (nI d) = some (nI (fstD wi lo ct D t k f d))
  | 0, d, m, e, h0, _, _, _, _ => by omega
  | f + 1, d, m, e, h0, h3, h4, h5, hm => by
    obtain ⟨m, rfl⟩ : ∃ m2, m = m2 + 1 := ⟨m - 1, by omega⟩
    obtain ⟨⟨B, e1, hB⟩, e2⟩ := hP.1 d (by omega)
    have hon : onN ct D d k ≤ 12 := by
      have := su_le (g := fun j => (onD ct D d j).toNat) (b := 1) k 0 (fun i _ _ => by show (onD ct D d i).toNat ≤ 1; cases onD ct D d i <;> decide)
      unfold onN; omega
    rw [f_X6_firstFree_L2, if_neg (by rw [show (12 : Int32) = nI 12 from rfl, n_le (by omega) (by omega)]; omega), ck_t (okI_38 (by omega)), ck_t (okI_39 (by omega)), n_clamp (by omega), e1, e2, fstD]
    simp only [BZ_f hB h1 h2, n_le (show t < 2147483648 by omega) (show onN ct D d k < 2147483648 by omega)]
    unfold f_X6_firstFree_b31
    rw [n_s1]
    have next : ¬ fitD wi lo ct D t k d = true → f_X6_firstFree_L2 M m (ab_shl 1 (nI (wi k)) ||| ab_shl 1 (nI (lo k))) (nI t) (nI (d + 1)) = some (nI (fstD wi lo ct D t k f (d + 1))) := fun q => by
      have hne : d ≠ e := fun h => q (by rw [h]; exact h5)
      exact cl_free h1 h2 ht hk hP f (d + 1) m e (by omega) (by omega) h4 h5 (by omega)
    by_cases q1 : cfl wi lo ct D k d k 0 = false
    · rw [if_pos q1]
      by_cases q2 : t ≤ onN ct D d k
      · have q : ¬ fitD wi lo ct D t k d = true := by simp [fitD, q1]; omega
        rw [if_pos q2, if_neg q]; exact next q
      · have q : fitD wi lo ct D t k d = true := by simp [fitD, q1]; omega
        rw [if_neg q2, if_pos q]
    · have q : ¬ fitD wi lo ct D t k d = true := by simp [fitD, q1]
      rw [if_neg q1, if_neg q]; exact next q
theorem cl_plan_L (hO : OKF np nm wo wi lo ct) {t : Nat} (ht : t ≤ 4) (ht1 : 1 ≤ t) : ∀ (r k m : Nat) (s : (Nat → Nat) × Nat) (M : Mem), k + r = nm → r < m → CF np nm wo wi lo ct M → s.2 ≤ 12 → PL wi lo ct s.1 k M → ∃ M1, f_X6_plan_L21 m (nI t) (nI s.2) (nI k) M = some (nI (dayS wi lo ct t r k s).2, M1) ∧ ∀ j, j < nm → ct j = 1 → M1.1 37 j = nI ((dayS wi lo ct t r k s).1 j)
  | 0, k, m, s, M, h, hm, hC, hmx, hP => by
    have h12 := hO.2.1
    obtain ⟨m, rfl⟩ : ∃ m2, m = m2 + 1 := ⟨m - 1, by omega⟩
    rw [f_X6_plan_L21, hC.2.1, if_pos ((n_le (by omega) (by omega)).mpr (by omega))]
    exact ⟨M, rfl, fun j hj q => (hP.2 j (by omega) q).2⟩
  | r + 1, k, m, s, M, h, hm, hC, hmx, hP => by
    have h12 := hO.2.1
    have h8 := hO.1
    obtain ⟨m, rfl⟩ : ∃ m2, m = m2 + 1 := ⟨m - 1, by omega⟩
    obtain ⟨a1, a2, a3⟩ := hC.2.2.2 k (by omega)
    obtain ⟨b1, b2, b3, b4⟩ := hO.2.2.2 k (by omega)
    have e1 : (nI (ct k) = 1) = (ct k = 1) := propext (n_eq (b := 1) (by omega) (by omega))
    rw [f_X6_plan_L21, hC.2.1, if_neg (by rw [n_le (by omega) (by omega)]; omega), ck_t (okI_5 (by omega)), n_clamp (by omega), a3, dayS]
    simp only [e1]
    unfold f_X6_plan_b123
    by_cases q : ct k = 1
    · rw [if_pos q, if_pos q, ck_t (okI_3 (by omega)), ck_t (okI_4 (by omega)), lt_e, a1, a2]
      have hfk := fit_k (wi := wi) (lo := lo) (D := s.1) ht1 (fun j hj hc => (hP.2 j hj hc).1)
      obtain ⟨x1, x2, x3, x4⟩ := fst_x (wi := wi) (lo := lo) (ct := ct) (D := s.1) (t := t) (k := k) 12 0 k (by omega) (by omega) hfk
      have hf : f_X6_firstFree (ab_shl 1 (nI (wi k)) ||| ab_shl 1 (nI (lo k))) (nI t) M = _ := cl_free (by omega) (by omega) ht (by omega) hP 12 0 FU k (by omega) (by omega) (by omega) hfk (by unfold FU; omega)
      rw [hf, bd_s]
      generalize hx : fstD wi lo ct s.1 t k 12 0 = x at *
      obtain ⟨⟨B, eB, hB⟩, e39⟩ := hP.1 x (by omega)
      have r1 : (wI M 37 k (nI x)).1 37 k = nI x := by simp [wI_rd]
      have r2 : (wI M 37 k (nI x)).1 38 x = nI B := by simp [wI_rd, eB]
      rw [ck_t (okI_37 (by omega)), lt_e, r1, ck_t (okI_37 (by omega)), ck_t (okI_38 (by omega)), ck_t (okI_38 (by omega)), lt_e, n_clamp (by omega), r2]
      have r3 : (wI (wI M 37 k (nI x)) 38 x (nI B ||| (ab_shl 1 (nI (wi k)) ||| ab_shl 1 (nI (lo k))))).1 37 k = nI x := by simp [wI_rd]
      have r4 : (wI (wI M 37 k (nI x)) 38 x (nI B ||| (ab_shl 1 (nI (wi k)) ||| ab_shl 1 (nI (lo k))))).1 39 x = nI (onN ct s.1 x k) := by simp [wI_rd, e39]
      rw [r3, ck_t (okI_37 (by omega)), ck_t (okI_39 (by omega)), ck_t (okI_39 (by omega)), lt_e, n_clamp (by omega), r4, n_s1]
      have r5 : (wI (wI (wI M 37 k (nI x)) 38 x (nI B ||| (ab_shl 1 (nI (wi k)) ||| ab_shl 1 (nI (lo k))))) 39 x (nI (onN ct s.1 x k + 1))).1 37 k = nI x := by simp [wI_rd]
      rw [r5, ck_t (okI_37 (by omega)), lt_e, n_s1, n_max (by omega) (by omega), n_s1]
      refine cl_plan_L hO ht ht1 r (k + 1) m (upN s.1 k x, max s.2 (x + 1)) _ (by omega) (by omega) ⟨by simp [wI_rd, hC.1], by simp [wI_rd, hC.2.1], fun p hp => by simp [wI_rd, hC.2.2.1 p hp], fun p hp => by simp [wI_rd, hC.2.2.2 p hp]⟩ (by show max s.2 _ ≤ 12; omega) ⟨fun d hd => ?_, fun j hj hc => ?_⟩
      · obtain ⟨⟨B2, eB2, hB2⟩, e392⟩ := hP.1 d hd
        have hu := BZ_up (x := x) hB2 q (by omega : wi k < 8) (by omega : lo k < 8)
        refine ⟨⟨_, ?_, hu⟩, ?_⟩
        · by_cases qd : d = x
          · subst qd
            rw [eB] at eB2
            have : B = B2 := (n_eq (by have := hB.1; omega) (by have := hB2.1; omega)).mp eB2
            subst this
            rw [if_pos rfl, n_shl1 _ (by omega), n_shl1 _ (by omega), n_or, n_or]
            simp [wI_rd]
          · rw [if_neg qd]
            simp [wI_rd, qd, eB2]
        · rw [onN_up]
          by_cases qd : d = x
          · subst qd
            have : onD ct (upN s.1 k d) d k = true := by simp [onD, upN, q]
            rw [this]
            simp [wI_rd]
          · have : onD ct (upN s.1 k x) d k = false := by simp [onD, upN, Ne.symm qd]
            rw [this]
            simp [wI_rd, qd, e392]
      · by_cases e : j = k
        · subst e
          exact ⟨by simp only [upN, if_true]; exact x1, by simp [wI_rd, upN]⟩
        · have := hP.2 j (by omega) hc
          exact ⟨by simp only [upN, e, if_false]; exact this.1, by simp [wI_rd, upN, e, this.2]⟩
    · rw [if_neg q, if_neg q, n_s1]
      refine cl_plan_L hO ht ht1 r (k + 1) m s M (by omega) (by omega) hC hmx ⟨fun d hd => ?_, fun j hj hc => ?_⟩
      · obtain ⟨⟨B2, eB2, hB2⟩, e392⟩ := hP.1 d hd
        have ho : onD ct s.1 d k = false := by simp [onD, q]
        refine ⟨⟨B2, eB2, hB2.1, fun i => ?_⟩, ?_⟩
        · rw [hB2.2 i]
          constructor
          · rintro ⟨j, hj, h3⟩; exact ⟨j, by omega, h3⟩
          · rintro ⟨j, hj, h3, h4⟩
            have : j ≠ k := fun e => by subst e; rw [ho] at h3; cases h3
            exact ⟨j, by omega, h3, h4⟩
        · rw [e392]
          unfold onN
          rw [su_last, Nat.zero_add]
          show nI _ = nI (_ + (onD ct s.1 d k).toNat)
          rw [ho]; rfl
      · have : j ≠ k := fun e => q (by rw [← e]; exact hc)
        exact hP.2 j (by omega) hc
theorem cl_plan (hO : OKF np nm wo wi lo ct) {t : Nat} (ht : t ≤ 4) (ht1 : 1 ≤ t) (hC : CF np nm wo wi lo ct M) : ∃ M1, f_X6_plan (nI t) M = some (nI (dayS wi lo ct t nm 0 (fun _ => 0, 0)).2, M1) ∧ ∀ j, j < nm → ct j = 1 → M1.1 37 j = nI ((dayS wi lo ct t nm 0 (fun _ => 0, 0)).1 j) := by
  have h12 := hO.2.1
  unfold f_X6_plan
  rw [s_fillA rfl (by decide), bd_s, s_fillA rfl (by decide), bd_s]
  exact cl_plan_L hO ht ht1 nm 0 FU (fun _ => 0, 0) _ (by omega) (by unfold FU; omega) ⟨by simp [fiI_rd, hC.1], by simp [fiI_rd, hC.2.1], fun p hp => by simp [fiI_rd, hC.2.2.1 p hp], fun p hp => by simp [fiI_rd, hC.2.2.2 p hp]⟩ (by omega) ⟨fun d hd => ⟨⟨0, by rw [fiI_rd, if_neg (by omega), fiI_rd, if_pos ⟨rfl, by omega, hd⟩]; rfl, by decide, fun i => ⟨fun h => (by rw [Nat.zero_testBit] at h; exact absurd h (by decide)), fun ⟨j, hj, _⟩ => by omega⟩⟩, by rw [fiI_rd, if_pos ⟨rfl, by omega, hd⟩]; rfl⟩, fun j hj => by omega⟩
theorem cl_days (hO : OKF np nm wo wi lo ct) (hC : CF np nm wo wi lo ct M) (v w : Int32) : ∃ M1, f_X10_days v w M = some (dayA nm wi lo ct v w, M1) := by
  have h12 := hO.2.1
  unfold f_X10_days dayA
  have hv : (1 ≤ v.toInt ∧ v.toInt ≤ 4) ↔ (¬ v < 1 ∧ ¬ 4 < v) := by
    rw [i_lt, i_lt]
    have h1 : (1 : Int32).toInt = 1 := rfl
    have h2 : (4 : Int32).toInt = 4 := rfl
    omega
  by_cases q : 1 ≤ v.toInt ∧ v.toInt ≤ 4
  · obtain ⟨q1, q2⟩ := hv.mp q
    rw [if_neg q1, if_neg q2, s_hasMatch hC.2.1 hO.2.1, bd_s, ite_bb]
    obtain ⟨t, ht1, ht4, rfl⟩ : ∃ t, 1 ≤ t ∧ t ≤ 4 ∧ v = nI t := ⟨v.toInt.toNat, by omega, by omega, n_of (by omega)⟩
    rw [n_clamp (by omega)]
    obtain ⟨M1, f1, c1⟩ := cl_plan hO ht4 ht1 hC
    unfold f_X10_days_b28 f_X10_days_b48
    rw [f1, bI_s]
    by_cases qw : w = -1
    · have hA : 1 ≤ (nI t).toInt ∧ (nI t).toInt ≤ 4 ∧ (w = -1 ∨ inN nm w = true) := ⟨q.1, q.2, Or.inl qw⟩
      rw [if_pos qw, if_pos qw, if_pos qw, if_pos hA, if_pos qw]
      exact ⟨M1, rfl⟩
    · rw [if_neg qw, if_neg qw, if_neg qw]
      by_cases q2 : inN nm w = true
      · have hA : 1 ≤ (nI t).toInt ∧ (nI t).toInt ≤ 4 ∧ (w = -1 ∨ inN nm w = true) := ⟨q.1, q.2, Or.inr q2⟩
        rw [if_pos q2, if_pos hA, if_neg qw]
        obtain ⟨j, hj, hj2, rfl⟩ := inN_t q2
        have hct := (hO.2.2.2 j hj).2.2.2
        rw [ck_t (okI_5 (by omega)), ck_t (okI_37 (by omega)), n_clamp hj2, (hC.2.2.2 j hj).2.2]
        by_cases qc : ct j = 1
        · rw [if_pos qc, qc, if_neg (by decide), c1 j hj qc]; exact ⟨M1, rfl⟩
        · have : ct j = 0 := by omega
          rw [if_neg qc, this, if_pos (show nI 0 = 0 from rfl)]; exact ⟨M, rfl⟩
      · have hA : ¬ (1 ≤ (nI t).toInt ∧ (nI t).toInt ≤ 4 ∧ (w = -1 ∨ inN nm w = true)) := fun h => by rcases h.2.2 with h | h; exact qw h; exact q2 h
        rw [if_neg q2, if_neg hA]; exact ⟨M, rfl⟩
  · have hA : ¬ (1 ≤ v.toInt ∧ v.toInt ≤ 4 ∧ (w = -1 ∨ inN nm w = true)) := fun h => q ⟨h.1, h.2.1⟩
    rw [if_neg hA]
    by_cases q1 : v < 1
    · rw [if_pos q1]; exact ⟨M, rfl⟩
    · have q2 : 4 < v := by
        by_cases q2 : 4 < v
        · exact q2
        · exact absurd (hv.mpr ⟨q1, q2⟩) q
      rw [if_neg q1, if_pos q2]; exact ⟨M, rfl⟩
end DAYC
