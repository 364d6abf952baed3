/-! orders: which matches there are -/
def abv (wi lo : Nat → Nat) (s : Nat) : Nat → Nat → Nat
  | 0, _ => 0
  | k + 1, p => if s.testBit k = true ∧ lo k = p then abv wi lo s k p ||| 2 ^ wi k else abv wi lo s k p
theorem abv_lt {wi lo : Nat → Nat} {s n : Nat} : ∀ k p, (∀ m, m < k → wi m < n) → abv wi lo s k p < 2 ^ n
  | 0, _, _ => Nat.two_pow_pos n
  | k + 1, p, h => by
    rw [abv]
    have ih := abv_lt (wi := wi) (lo := lo) (s := s) k p (fun m hm => h m (by omega))
    split
    · exact or_lt ih (h k (by omega))
    · exact ih
theorem tb_abv {wi lo : Nat → Nat} {s i : Nat} : ∀ k p, (abv wi lo s k p).testBit i = true ↔ ∃ m, m < k ∧ s.testBit m = true ∧ lo m = p ∧ wi m = i
  | 0, p => by
    rw [abv, Nat.zero_testBit]
    constructor
    · intro h; cases h
    · rintro ⟨m, h, -⟩; omega
  | k + 1, p => by
    rw [abv]
    by_cases q : s.testBit k = true ∧ lo k = p
    · rw [if_pos q, tb_or, Bool.or_eq_true, tb_abv k p, decide_eq_true_eq]
      constructor
      · rintro (⟨m, h1, h2⟩ | h)
        · exact ⟨m, by omega, h2⟩
        · exact ⟨k, by omega, q.1, q.2, h⟩
      · rintro ⟨m, h1, h2, h3, h4⟩
        by_cases e : m = k
        · subst e; exact Or.inr h4
        · exact Or.inl ⟨m, by omega, h2, h3, h4⟩
    · rw [if_neg q, tb_abv k p]
      constructor
      · rintro ⟨m, h1, h2⟩; exact ⟨m, by omega, h2⟩
      · rintro ⟨m, h1, h2, h3, h4⟩
        have : m ≠ k := fun e => by subst e; exact q ⟨h2, h3⟩
        exact ⟨m, by omega, h2, h3, h4⟩
def cms (ct : Nat → Nat) (k : Nat) : Nat := msk (fun m => decide (ct m = 1)) k
section TAKE
variable {np nm : Nat} {wo wi lo ct : Nat → Nat} {M : Mem}
theorem okA_abv (hO : OKF np nm wo wi lo ct) (s : Nat) : okA np (abv wi lo s nm) := ⟨hO.1, fun p => abv_lt (n := 8) nm p (fun m hm => by have := (hO.2.2.2 m hm).1; have := hO.1; omega)⟩
theorem cms_lt (hO : OKF np nm wo wi lo ct) : cms ct nm < 4096 := by
  have h1 := msk_lt (fun m => decide (ct m = 1)) nm
  have h2 : 2 ^ nm ≤ 2 ^ 12 := Nat.pow_le_pow_right (by omega) hO.2.1
  unfold cms
  omega
theorem n_shl0 : ∀ p, p < 31 → ab_shl 0 (nI p) = 0 := by decide +kernel
theorem s_counting_L (hC : CF np nm wo wi lo ct M) (hO : OKF np nm wo wi lo ct) : ∀ (r k m : Nat), k + r = nm → r < m → f_X4_counting_L4 M m (nI (cms ct k)) (nI k) = some (nI (cms ct nm))
  | 0, k, m, h, hm => by
    have h12 := hO.2.1
    obtain ⟨m, rfl⟩ : ∃ m2, m = m2 + 1 := ⟨m - 1, by omega⟩
    have : k = nm := by omega
    subst this
    rw [f_X4_counting_L4, hC.2.1, if_pos (by rw [i_le]; omega)]
  | r + 1, k, m, h, hm => by
    have h12 := hO.2.1
    obtain ⟨m, rfl⟩ : ∃ m2, m = m2 + 1 := ⟨m - 1, by omega⟩
    have ih := s_counting_L hC hO r (k + 1) m (by omega) (by omega)
    have hb := (hO.2.2.2 k (by omega)).2.2.2
    rw [f_X4_counting_L4, hC.2.1, if_neg (by rw [n_le (by omega) (by omega)]; omega), ck_t (okI_5 (by omega)), n_clamp (by omega), (hC.2.2.2 k (by omega)).2.2, n_s1, lt_e]
    unfold cms at ih ⊢
    rw [msk] at ih
    by_cases q : ct k = 1
    · rw [if_pos (by simpa using q)] at ih
      rw [q, show nI 1 = 1 from rfl, n_shl1 k (by omega), n_or]
      exact ih
    · have e : ct k = 0 := by omega
      rw [if_neg (by simpa using q), Nat.or_zero] at ih
      rw [e, show nI 0 = 0 from rfl, n_shl0 k (by omega), show (0 : Int32) = nI 0 from rfl, n_or, Nat.or_zero]
      exact ih
theorem s_counting (hC : CF np nm wo wi lo ct M) (hO : OKF np nm wo wi lo ct) : f_X4_counting M = some (nI (cms ct nm)) := by
  have h12 := hO.2.1
  exact s_counting_L hC hO nm 0 FU (by omega) (by unfold FU; omega)
theorem s_all_L (hC : MF np nm wo wi lo ct M) (hO : OKF np nm wo wi lo ct) : ∀ (r k m : Nat), k + r = nm → r < m → f_X11_allThatCount_L4 M m (nI (cms ct k)) (nI k) = some (nI (cms ct nm))
  | 0, k, m, h, hm => by
    have h12 := hO.2.1
    obtain ⟨m, rfl⟩ : ∃ m2, m = m2 + 1 := ⟨m - 1, by omega⟩
    have : k = nm := by omega
    subst this
    rw [f_X11_allThatCount_L4, hC.2.1, if_pos (by rw [i_le]; omega)]
  | r + 1, k, m, h, hm => by
    have h12 := hO.2.1
    obtain ⟨m, rfl⟩ : ∃ m2, m = m2 + 1 := ⟨m - 1, by omega⟩
    have ih := s_all_L hC hO r (k + 1) m (by omega) (by omega)
    rw [f_X11_allThatCount_L4, hC.2.1, if_neg (by rw [n_le (by omega) (by omega)]; omega), s_counts hC hO (by omega), bd_s, ite_bb]
    unfold f_X11_allThatCount_b28
    rw [n_s1, lt_e, lt_e, n_shl1 k (by omega), n_or]
    unfold cms at ih ⊢
    rw [msk] at ih
    by_cases q : ct k = 1
    · rw [if_pos (by simpa using q)] at ih
      rw [if_pos (by simpa using q)]
      exact ih
    · rw [if_neg (by simpa using q), Nat.or_zero] at ih
      rw [if_neg (by simpa using q), show (0 : Int32) = nI 0 from rfl, n_or, Nat.or_zero]
      exact ih
theorem s_all (hC : MF np nm wo wi lo ct M) (hO : OKF np nm wo wi lo ct) : f_X11_allThatCount M = some (nI (cms ct nm)) := by
  have h12 := hO.2.1
  exact s_all_L hC hO nm 0 FU (by omega) (by unfold FU; omega)
theorem cl_take_L (hO : OKF np nm wo wi lo ct) {s : Nat} (hs : s < 4096) : ∀ (r k m : Nat) (M : Mem), k + r = nm → r < m → CF np nm wo wi lo ct M → CO np (abv wi lo s k) M → ∃ M1, f_X7_take_L10 m (nI s) (nI k) M = some M1 ∧ CO np (abv wi lo s nm) M1
  | 0, k, m, M, h, hm, hC, hA => by
    have h12 := hO.2.1
    obtain ⟨m, rfl⟩ : ∃ m2, m = m2 + 1 := ⟨m - 1, by omega⟩
    have : k = nm := by omega
    subst this
    rw [f_X7_take_L10, hC.2.1, if_pos (by rw [i_le]; omega)]
    exact ⟨M, rfl, hA⟩
  | r + 1, k, m, M, h, hm, hC, hA => by
    have h12 := hO.2.1
    have h8 := hO.1
    obtain ⟨m, rfl⟩ : ∃ m2, m = m2 + 1 := ⟨m - 1, by omega⟩
    obtain ⟨a1, a2, a3⟩ := hC.2.2.2 k (by omega)
    obtain ⟨b1, b2, b3, b4⟩ := hO.2.2.2 k (by omega)
    rw [f_X7_take_L10, hC.2.1, if_neg (by rw [n_le (by omega) (by omega)]; omega), n_b1 (by omega) (by omega), ck_t (okI_3 (by omega)), ck_t (okI_4 (by omega)), n_clamp (by omega), a1, a2]
    simp only [bb_1]
    unfold f_X7_take_b43 f_X7_add
    rw [n_s1]
    by_cases q : s.testBit k = true
    · rw [if_pos q, ck_t (okI_12 (by omega)), ck_t (okI_12 (by omega)), lt_e, n_clamp (by omega), hA.2.2 (lo k) (by omega), n_shl1 _ (by omega), n_or, bd_s]
      refine cl_take_L hO hs r (k + 1) m _ (by omega) (by omega) ⟨by simp [wI_rd, hC.1], by simp [wI_rd, hC.2.1], fun p hp => by simp [wI_rd, hC.2.2.1 p hp], fun p hp => by simp [wI_rd, hC.2.2.2 p hp]⟩ ⟨by simp [wI_rd, hA.1], by simp [wI_rd, hA.2.1], fun p hp => ?_⟩
      rw [wI_rd, abv]
      by_cases e : p = lo k
      · subst e
        rw [if_pos ⟨rfl, rfl⟩, if_pos ⟨q, rfl⟩]
      · rw [if_neg (fun h => e h.2), if_neg (fun h => e h.2.symm)]
        exact hA.2.2 p hp
    · rw [if_neg q]
      refine cl_take_L hO hs r (k + 1) m M (by omega) (by omega) hC ⟨hA.1, hA.2.1, fun p hp => ?_⟩
      rw [abv, if_neg (fun h => q h.1)]
      exact hA.2.2 p hp
theorem pow_I {n : Nat} (h : n ≤ 8) : ab_shl 1 (nI n) - 1 = nI (2 ^ n - 1) := by
  have h3 := Nat.two_pow_pos n
  obtain ⟨x, hx⟩ : ∃ x, 2 ^ n = x + 1 := ⟨2 ^ n - 1, by omega⟩
  rw [n_shl1 n (by omega), hx, n_p1, Nat.add_sub_cancel]
theorem cl_take (hO : OKF np nm wo wi lo ct) (hC : CF np nm wo wi lo ct M) {s : Nat} (hs : s < 4096) : ∃ M1, f_X7_take (nI s) M = some M1 ∧ CO np (abv wi lo s nm) M1 := by
  have h12 := hO.2.1
  have h8 := hO.1
  unfold f_X7_take f_X7_clear_11
  rw [hC.1, pow_I h8, lt_e, lt_e, s_fillA rfl (by decide), bd_s, bd_s]
  exact cl_take_L hO hs nm 0 FU _ (by omega) (by unfold FU; omega) ⟨by simp [fiI_rd, wI_rd, hC.1], by simp [fiI_rd, wI_rd, hC.2.1], fun p hp => by simp [fiI_rd, wI_rd, hC.2.2.1 p hp], fun p hp => by simp [fiI_rd, wI_rd, hC.2.2.2 p hp]⟩ ⟨by simp [fiI_rd, wI_rd], by simp [fiI_rd, wI_rd], fun p hp => by rw [fiI_rd, if_pos ⟨rfl, by omega, hp⟩]; rfl⟩
theorem cl_tallied (hO : OKF np nm wo wi lo ct) (hC : CF np nm wo wi lo ct M) : ∃ M1, f_X10_tallied M = some M1 ∧ TL np (abv wi lo (cms ct nm) nm) M1 := by
  unfold f_X10_tallied
  rw [s_counting hC hO, bd_s]
  obtain ⟨M4, f4, c4⟩ := cl_take hO hC (cms_lt hO)
  obtain ⟨M6, f6, c6⟩ := cl_tally (okA_abv hO _) c4
  rw [f4, bd_s, f6, bd_s]
  exact ⟨M6, rfl, c6⟩
theorem mo_beats_L (hO : OKF np nm wo wi lo ct) {s : Nat} (hs : s < 4096) : ∀ (r k m : Nat) (M : Mem), k + r = nm → r < m → MF np nm wo wi lo ct M → (∀ p, p < 8 → M.1 57 p = nI (abv wi lo s k p)) → ∃ M1, f_X11_beats_L23 m (nI s) (nI k) M = some M1 ∧ ∀ p, p < 8 → M1.1 57 p = nI (abv wi lo s nm p)
  | 0, k, m, M, h, hm, hC, hA => by
    have h12 := hO.2.1
    obtain ⟨m, rfl⟩ : ∃ m2, m = m2 + 1 := ⟨m - 1, by omega⟩
    have : k = nm := by omega
    subst this
    rw [f_X11_beats_L23, hC.2.1, if_pos (by rw [i_le]; omega)]
    exact ⟨M, rfl, hA⟩
  | r + 1, k, m, M, h, hm, hC, hA => by
    have h12 := hO.2.1
    have h8 := hO.1
    obtain ⟨m, rfl⟩ : ∃ m2, m = m2 + 1 := ⟨m - 1, by omega⟩
    obtain ⟨a1, a2, a3⟩ := hC.2.2.2 k (by omega)
    obtain ⟨b1, b2, b3, b4⟩ := hO.2.2.2 k (by omega)
    rw [f_X11_beats_L23, hC.2.1, if_neg (by rw [n_le (by omega) (by omega)]; omega), n_b1 (by omega) (by omega), ck_t (okI_53 (by omega)), n_clamp (by omega), a1, a2, ck_t (okI_57 (by omega)), ck_t (okI_52 (by omega)), ck_t (okI_57 (by omega)), lt_e, n_clamp (by omega), hA (lo k) (by omega), n_shl1 _ (by omega), n_or]
    simp only [bb_1]
    unfold f_X11_beats_b62
    rw [n_s1]
    by_cases q : s.testBit k = true
    · rw [if_pos q]
      refine mo_beats_L hO hs r (k + 1) m _ (by omega) (by omega) ⟨by simp [wI_rd, hC.1], by simp [wI_rd, hC.2.1], fun p hp => by simp [wI_rd, hC.2.2.1 p hp], fun p hp => by simp [wI_rd, hC.2.2.2 p hp]⟩ (fun p hp => ?_)
      rw [wI_rd, abv]
      by_cases e : p = lo k
      · subst e
        rw [if_pos ⟨rfl, rfl⟩, if_pos ⟨q, rfl⟩]
      · rw [if_neg (fun h => e h.2), if_neg (fun h => e h.2.symm)]
        exact hA p hp
    · rw [if_neg q]
      refine mo_beats_L hO hs r (k + 1) m M (by omega) (by omega) hC (fun p hp => ?_)
      rw [abv, if_neg (fun h => q h.1)]
      exact hA p hp
theorem mo_beats0 {v : Int32} : ∀ (r k m : Nat) (M : Mem), k + r = 8 → r < m → (∀ p, p < k → M.1 57 p = 0) → ∃ M1, f_X11_beats_L2 m v (nI k) M = f_X11_beats_L23 FU v 0 M1 ∧ (∀ p, p < 8 → M1.1 57 p = 0) ∧ ∀ c, c ≠ 57 → M1.1 c = M.1 c
  | 0, k, m, M, h, hm, h0 => by
    obtain ⟨m, rfl⟩ : ∃ m2, m = m2 + 1 := ⟨m - 1, by omega⟩
    rw [f_X11_beats_L2, if_pos (by rw [show (8 : Int32) = nI 8 from rfl, n_le (by omega) (by omega)]; omega)]
    exact ⟨M, rfl, fun p hp => h0 p (by omega), fun c _ => rfl⟩
  | r + 1, k, m, M, h, hm, h0 => by
    obtain ⟨m, rfl⟩ : ∃ m2, m = m2 + 1 := ⟨m - 1, by omega⟩
    rw [f_X11_beats_L2, if_neg (by rw [show (8 : Int32) = nI 8 from rfl, n_le (by omega) (by omega)]; omega), ck_t (okI_57 (by omega)), lt_e, n_clamp (by omega), n_s1]
    obtain ⟨M1, f1, c1, d1⟩ := mo_beats0 (v := v) r (k + 1) m (wI M 57 k 0) (by omega) (by omega) (fun p hp => by
      rw [wI_rd]
      by_cases e : p = k
      · rw [if_pos ⟨rfl, e⟩]
      · rw [if_neg (fun h => e h.2)]; exact h0 p (by omega))
    exact ⟨M1, f1, c1, fun c hc => by rw [d1 c hc]; exact ab_wI_o hc⟩
theorem mo_beats (hO : OKF np nm wo wi lo ct) (hC : MF np nm wo wi lo ct M) {s : Nat} (hs : s < 4096) : ∃ M1, f_X11_beats (nI s) M = some M1 ∧ ∀ p, p < 8 → M1.1 57 p = nI (abv wi lo s nm p) := by
  have h12 := hO.2.1
  unfold f_X11_beats
  obtain ⟨M2, f2, c2, d2⟩ := mo_beats0 (v := nI s) 8 0 FU M (by omega) (by unfold FU; omega) (fun p hp => by omega)
  have f2' : f_X11_beats_L2 FU (nI s) 0 M = _ := f2
  rw [f2']
  have hC2 : MF np nm wo wi lo ct M2 := by
    refine ⟨by rw [d2 47 (by omega)]; exact hC.1, by rw [d2 47 (by omega)]; exact hC.2.1, fun p hp => by rw [d2 48 (by omega)]; exact hC.2.2.1 p hp, fun p hp => by rw [d2 52 (by omega), d2 53 (by omega), d2 48 (by omega)]; exact hC.2.2.2 p hp⟩
  exact mo_beats_L hO hs nm 0 FU M2 (by omega) (by unfold FU; omega) hC2 (fun p hp => by rw [c2 p hp]; rfl)
end TAKE
