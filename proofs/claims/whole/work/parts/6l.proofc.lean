/-! proof: the class's search, each pair but once -/
def anF (P : Nat → Bool) : Nat → Nat → Bool
  | 0, _ => false
  | r + 1, j => P j || anF P r (j + 1)
theorem anF_iff (P : Nat → Bool) : ∀ r j, anF P r j = true ↔ ∃ i, j ≤ i ∧ i < j + r ∧ P i = true
  | 0, j => ⟨fun h => (by cases h), fun ⟨i, h1, h2, _⟩ => (by omega)⟩
  | r + 1, j => by
    rw [anF, Bool.or_eq_true, anF_iff P r (j + 1)]
    constructor
    · rintro (h | ⟨i, h1, h2, h3⟩)
      · exact ⟨j, by omega, by omega, h⟩
      · exact ⟨i, by omega, by omega, h3⟩
    · rintro ⟨i, h1, h2, h3⟩
      by_cases e : i = j
      · rw [e] at h3; exact Or.inl h3
      · exact Or.inr ⟨i, by omega, by omega, h3⟩
def samB (wi lo : Nat → Nat) (s k m : Nat) : Bool := s.testBit m && (decide (wi m = wi k) && decide (lo m = lo k))
def onc (wi lo ct : Nat → Nat) : Nat → Nat
  | 0 => 0
  | k + 1 => if ct k = 1 ∧ anF (samB wi lo (onc wi lo ct k) k) k 0 = false then onc wi lo ct k ||| 2 ^ k else onc wi lo ct k
theorem onc_1 {wi lo ct : Nat → Nat} {e : Nat} : ∀ k, (onc wi lo ct k).testBit e = true → e < k ∧ ct e = 1
  | 0, h => by rw [onc, Nat.zero_testBit] at h; cases h
  | k + 1, h => by
    rw [onc] at h
    by_cases c : ct k = 1 ∧ anF (samB wi lo (onc wi lo ct k) k) k 0 = false
    · rw [if_pos c, tb_or, Bool.or_eq_true, decide_eq_true_eq] at h
      rcases h with h | h
      · have := onc_1 k h; exact ⟨by omega, this.2⟩
      · subst h; exact ⟨by omega, c.1⟩
    · rw [if_neg c] at h
      have := onc_1 k h; exact ⟨by omega, this.2⟩
theorem onc_up {wi lo ct : Nat → Nat} {e : Nat} (k : Nat) (h : (onc wi lo ct k).testBit e = true) : (onc wi lo ct (k + 1)).testBit e = true := by
  rw [onc]
  split
  · rw [tb_or, h]; rfl
  · exact h
theorem onc_2 {wi lo ct : Nat → Nat} {m : Nat} : ∀ k, m < k → ct m = 1 → ∃ e, e ≤ m ∧ (onc wi lo ct k).testBit e = true ∧ wi e = wi m ∧ lo e = lo m
  | 0, h, _ => by omega
  | k + 1, h, hc => by
    by_cases e : m = k
    · subst e
      by_cases c : anF (samB wi lo (onc wi lo ct m) m) m 0 = true
      · obtain ⟨i, -, h2, h3⟩ := (anF_iff _ _ _).mp c
        unfold samB at h3
        simp only [Bool.and_eq_true, decide_eq_true_eq] at h3
        exact ⟨i, by omega, onc_up m h3.1, h3.2.1, h3.2.2⟩
      · refine ⟨m, Nat.le_refl _, ?_, rfl, rfl⟩
        rw [onc, if_pos ⟨hc, by simpa using c⟩, tb_or]
        simp
    · obtain ⟨i, h1, h2, h3⟩ := onc_2 (wi := wi) (lo := lo) k (by omega) hc
      exact ⟨i, h1, onc_up k h2, h3⟩
section PRC
variable {np nm : Nat} {wo wi lo ct : Nat → Nat} {M : Mem} {kn ak : Nat}
theorem onc_lt (hO : OKF np nm wo wi lo ct) {k : Nat} (hk : k ≤ nm) : onc wi lo ct k < 4096 := by
  have h12 := hO.2.1
  refine Nat.lt_pow_two_of_testBit (n := 12) _ (fun i hi => ?_)
  by_cases q : (onc wi lo ct k).testBit i = true
  · have := onc_1 k q; omega
  · simpa using q
theorem cl_told (hO : OKF np nm wo wi lo ct) (hC : CF np nm wo wi lo ct M) {s k : Nat} (hs : s < 4096) (hk : k < nm) : ∀ (r j m : Nat), j + r = k → r < m → f_X4_isToldIn_L2 M m (nI s) (nI k) (nI j) = some (bb (anF (samB wi lo s k) r j))
  | 0, j, m, h, hm => by
    have h12 := hO.2.1
    obtain ⟨m, rfl⟩ : ∃ m2, m = m2 + 1 := ⟨m - 1, by omega⟩
    rw [f_X4_isToldIn_L2, if_pos ((n_le (by omega) (by omega)).mpr (by omega))]
    rfl
  | r + 1, j, m, h, hm => by
    have h12 := hO.2.1
    have h8 := hO.1
    obtain ⟨m, rfl⟩ : ∃ m2, m = m2 + 1 := ⟨m - 1, by omega⟩
    have ih := cl_told hO hC hs hk r (j + 1) m (by omega) (by omega)
    have a := hC.2.2.2 j (by omega)
    have b := hC.2.2.2 k (by omega)
    have p := hO.2.2.2 j (by omega)
    have q := hO.2.2.2 k (by omega)
    rw [f_X4_isToldIn_L2, if_neg (by rw [n_le (by omega) (by omega)]; omega), n_b1 (by omega) (by omega), ck_t (okI_3 (by omega)), ck_t (okI_3 (by omega)), ck_t (okI_4 (by omega)), ck_t (okI_4 (by omega)), n_clamp (show j < 2147483648 by omega), n_clamp (show k < 2147483648 by omega), a.1, a.2.1, b.1, b.2.1]
    unfold f_X4_isToldIn_b48
    have e1 : (nI (wi j) = nI (wi k)) = (wi j = wi k) := propext (n_eq (by omega) (by omega))
    have e2 : (nI (lo j) = nI (lo k)) = (lo j = lo k) := propext (n_eq (by omega) (by omega))
    simp only [bb_1, e1, e2]
    rw [n_s1, ih, anF]
    unfold samB
    by_cases c1 : s.testBit j = true
    · rw [if_pos c1, c1, Bool.true_and]
      by_cases c2 : wi j = wi k
      · rw [if_pos c2, decide_eq_true c2, Bool.true_and]
        by_cases c3 : lo j = lo k
        · rw [if_pos c3, decide_eq_true c3]; rfl
        · rw [if_neg c3, decide_eq_false c3]; rfl
      · rw [if_neg c2, decide_eq_false c2]; rfl
    · rw [if_neg c1, show s.testBit j = false by simpa using c1]; rfl
theorem cl_once_L (hO : OKF np nm wo wi lo ct) (hC : CF np nm wo wi lo ct M) : ∀ (r k m : Nat), k + r = nm → r < m → f_X4_countingOnce_L4 M m (nI (onc wi lo ct k)) (nI k) = some (nI (onc wi lo ct nm))
  | 0, k, m, h, hm => by
    have h12 := hO.2.1
    obtain ⟨m, rfl⟩ : ∃ m2, m = m2 + 1 := ⟨m - 1, by omega⟩
    have : k = nm := by omega
    subst this
    rw [f_X4_countingOnce_L4, hC.2.1, if_pos (by rw [i_le]; omega)]
  | r + 1, k, m, h, hm => by
    have h12 := hO.2.1
    obtain ⟨m, rfl⟩ : ∃ m2, m = m2 + 1 := ⟨m - 1, by omega⟩
    have ih := cl_once_L hO hC r (k + 1) m (by omega) (by omega)
    have hb := (hO.2.2.2 k (by omega)).2.2.2
    have e1 : (nI (ct k) = 1) = (ct k = 1) := propext (n_eq (b := 1) (by omega) (by omega))
    have ht := cl_told hO hC (onc_lt hO (show k ≤ nm by omega)) (show k < nm by omega) k 0 FU (by omega) (by unfold FU; omega)
    have ht' : f_X4_isToldIn (nI (onc wi lo ct k)) (nI k) M = _ := ht
    rw [f_X4_countingOnce_L4, hC.2.1, if_neg (by rw [n_le (by omega) (by omega)]; omega), ck_t (okI_5 (by omega)), n_clamp (by omega), (hC.2.2.2 k (by omega)).2.2, ht', bd_s, ite_bb]
    unfold f_X4_countingOnce_b37
    rw [n_s1, lt_e, n_shl1 k (by omega), n_or]
    simp only [e1]
    rw [onc] at ih
    by_cases c1 : ct k = 1
    · rw [if_pos c1]
      by_cases c2 : anF (samB wi lo (onc wi lo ct k) k) k 0 = true
      · rw [if_neg (fun h => by rw [h.2] at c2; cases c2)] at ih
        rw [if_pos c2]
        exact ih
      · rw [if_pos ⟨c1, by simpa using c2⟩] at ih
        rw [if_neg c2]
        exact ih
    · rw [if_neg (fun h => c1 h.1)] at ih
      rw [if_neg c1]
      exact ih
theorem cl_once (hO : OKF np nm wo wi lo ct) (hC : CF np nm wo wi lo ct M) : f_X4_countingOnce M = some (nI (onc wi lo ct nm)) := by
  have h12 := hO.2.1
  exact cl_once_L hO hC nm 0 FU (by omega) (by unfold FU; omega)
theorem abv_eq {A B : Nat} (h1 : ∀ m, m < nm → A.testBit m = true → ∃ e, e < nm ∧ B.testBit e = true ∧ wi e = wi m ∧ lo e = lo m) (h2 : ∀ m, m < nm → B.testBit m = true → ∃ e, e < nm ∧ A.testBit e = true ∧ wi e = wi m ∧ lo e = lo m) : abv wi lo A nm = abv wi lo B nm := by
  funext p
  apply Nat.eq_of_testBit_eq
  intro i
  rw [Bool.eq_iff_iff, tb_abv, tb_abv]
  constructor
  · rintro ⟨m, a, b, c, d⟩
    obtain ⟨e, e1, e2, e3, e4⟩ := h1 m a b
    exact ⟨e, e1, e2, by rw [e4, c], by rw [e3, d]⟩
  · rintro ⟨m, a, b, c, d⟩
    obtain ⟨e, e1, e2, e3, e4⟩ := h2 m a b
    exact ⟨e, e1, e2, by rw [e4, c], by rw [e3, d]⟩
/-- one told twice is never needed -/
theorem once_min (hO : OKF np nm wo wi lo ct) {b : Nat} (hb : ∀ F, F &&& onc wi lo ct nm = F → ansN np (abv wi lo F nm) kn ak ≤ 1 → b ≤ keyV F) : ∀ (d F : Nat), keyV F ≤ d → PQ np nm wi lo kn ak (cms ct nm) F → b ≤ keyV F := by
  have h12 := hO.2.1
  intro d
  induction d with
  | zero =>
    intro F hd hF
    have : F = 0 := by unfold keyV at hd; omega
    subst this
    exact hb 0 (Nat.zero_and _) hF.2
  | succ d ih =>
    intro F hd hF
    have hFl : F < 2 ^ nm := by
      have h1 := Nat.and_le_right (n := F) (m := cms ct nm)
      have h2 : cms ct nm < 2 ^ nm := msk_lt _ _
      have := hF.1
      omega
    by_cases q : F &&& onc wi lo ct nm = F
    · exact hb F q hF.2
    · have hex : ∃ m, F.testBit m = true ∧ ¬ (onc wi lo ct nm).testBit m = true := by
        by_cases h : ∃ m, F.testBit m = true ∧ ¬ (onc wi lo ct nm).testBit m = true
        · exact h
        · exact absurd (land_sub.mpr (fun i hi => by
            by_cases h2 : (onc wi lo ct nm).testBit i = true
            · exact h2
            · exact absurd ⟨i, hi, h2⟩ h)) q
      obtain ⟨m, m1, m2⟩ := hex
      have hm := land_sub.mp hF.1 m m1
      unfold cms at hm
      rw [tb_msk, Bool.and_eq_true, decide_eq_true_eq, decide_eq_true_eq] at hm
      obtain ⟨e, e1, e2, e3, e4⟩ := onc_2 (wi := wi) (lo := lo) nm hm.1 hm.2
      have hem : e < m := by
        have : e ≠ m := fun h => by rw [h] at e2; exact m2 e2
        omega
      have he := onc_1 nm e2
      have tb2 : ∀ i, ((F ^^^ 2 ^ m) ||| 2 ^ e).testBit i = ((F.testBit i && !decide (m = i)) || decide (e = i)) := fun i => by
        rw [tb_or, Nat.testBit_xor, Nat.testBit_two_pow]
        by_cases c : m = i
        · subst c; simp [m1]
        · simp [c]
      have hF2 : (F ^^^ 2 ^ m) ||| 2 ^ e < 2 ^ nm := Nat.lt_pow_two_of_testBit _ (fun i hi => by
        rw [tb2, tb_st8 hFl hi, decide_eq_false (show ¬ e = i by omega)]; rfl)
      have hab : abv wi lo ((F ^^^ 2 ^ m) ||| 2 ^ e) nm = abv wi lo F nm := by
        refine abv_eq (fun i hi hb2 => ?_) (fun i hi hb2 => ?_)
        · rw [tb2, Bool.or_eq_true, Bool.and_eq_true, decide_eq_true_eq] at hb2
          rcases hb2 with hb2 | hb2
          · exact ⟨i, hi, hb2.1, rfl, rfl⟩
          · subst hb2; exact ⟨m, hm.1, m1, e3.symm, e4.symm⟩
        · by_cases c : m = i
          · subst c
            exact ⟨e, he.1, by rw [tb2]; simp, e3, e4⟩
          · exact ⟨i, hi, by rw [tb2, hb2]; simp [c], rfl, rfl⟩
      have hk : keyV ((F ^^^ 2 ^ m) ||| 2 ^ e) < keyV F := by
        have k1 := (keyN_eq h12 hFl).1
        have k2 := (keyN_eq h12 hF2).1
        have s1 := su_add (fun j => if ((F ^^^ 2 ^ m) ||| 2 ^ e).testBit j = true then 4096 + 2 ^ j else 0) (fun j => if j = m then 4096 + 2 ^ m else 0) nm 0
        have s2 := su_add (fun j => if F.testBit j = true then 4096 + 2 ^ j else 0) (fun j => if j = e then 4096 + 2 ^ e else 0) nm 0
        rw [su_one nm 0 (by omega) (by omega)] at s1 s2
        have s3 := su_mono (g := fun j => (if ((F ^^^ 2 ^ m) ||| 2 ^ e).testBit j = true then 4096 + 2 ^ j else 0) + (if j = m then 4096 + 2 ^ m else 0)) (h := fun j => (if F.testBit j = true then 4096 + 2 ^ j else 0) + (if j = e then 4096 + 2 ^ e else 0)) nm 0 (fun j _ _ => by
          show (if ((F ^^^ 2 ^ m) ||| 2 ^ e).testBit j = true then 4096 + 2 ^ j else 0) + (if j = m then 4096 + 2 ^ m else 0) ≤ (if F.testBit j = true then 4096 + 2 ^ j else 0) + (if j = e then 4096 + 2 ^ e else 0)
          rw [tb2]
          by_cases c : j = m
          · subst c
            rw [m1, if_pos rfl, if_pos rfl, if_neg (by simp; omega)]
            omega
          · rw [if_neg c, decide_eq_false (Ne.symm c)]
            by_cases c2 : j = e
            · subst c2
              rw [if_pos rfl, decide_eq_true rfl, Bool.or_true, if_pos rfl]
              have := Nat.two_pow_pos j
              split <;> omega
            · rw [if_neg c2, decide_eq_false (Ne.symm c2)]
              simp)
        have hp : 2 ^ e < 2 ^ m := Nat.pow_lt_pow_right (by omega) hem
        unfold keyN at k1 k2
        unfold keyV
        omega
      have := ih ((F ^^^ 2 ^ m) ||| 2 ^ e) (by omega) ⟨land_sub.mpr (fun i hi => by
        rw [tb2, Bool.or_eq_true, Bool.and_eq_true, decide_eq_true_eq] at hi
        rcases hi with hi | hi
        · exact land_sub.mp hF.1 i hi.1
        · subst hi
          unfold cms
          rw [tb_msk]
          simp [he.1, he.2]), by rw [hab]; exact hF.2⟩
      omega
end PRC
