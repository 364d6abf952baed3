/-! lowest terms -/
/-- how many steps Euclid's way takes at most -/
theorem eu_half {d r j : Nat} (hr : 0 < r) (h : r < 2 ^ (j + 1)) : r % (d % r) < 2 ^ j ∨ d % r = 0 := by
  by_cases q : d % r = 0
  · exact Or.inr q
  · refine Or.inl ?_
    have h1 : d % r < r := Nat.mod_lt _ hr
    have h2 : r % (d % r) < d % r := Nat.mod_lt _ (by omega)
    have h3 : r % (d % r) + d % r ≤ r := by
      have := Nat.div_add_mod r (d % r)
      have h4 : 1 ≤ r / (d % r) := (Nat.one_le_div_iff (by omega)).mpr (by omega)
      have h5 : d % r * 1 ≤ d % r * (r / (d % r)) := Nat.mul_le_mul_left _ h4
      omega
    have : 2 ^ (j + 1) = 2 * 2 ^ j := by rw [Nat.pow_succ]; omega
    omega
def euN : Nat → Nat → Nat → Option Nat
  | 0, _, _ => none
  | k + 1, d, r => if r = 0 then some d else euN k r (d % r)
theorem euN_some : ∀ (j d r : Nat), r < 2 ^ j → euN (2 * j + 1) d r = some (Nat.gcd d r)
  | 0, d, r, h => by
    have : r = 0 := by simpa using h
    subst this
    simp [euN]
  | j + 1, d, r, h => by
    show euN (2 * j + 1 + 1 + 1) d r = _
    rw [euN]
    by_cases q : r = 0
    · subst q; simp
    · rw [if_neg q, euN]
      have hg : Nat.gcd d r = Nat.gcd r (d % r) := by rw [Nat.gcd_comm d r, Nat.gcd_rec r d, Nat.gcd_comm]
      by_cases q2 : d % r = 0
      · rw [if_pos q2, hg, q2, Nat.gcd_zero_right]
      · rw [if_neg q2, euN_some j _ _ ((eu_half (by omega) h).resolve_right q2), hg, Nat.gcd_comm r (d % r), Nat.gcd_rec (d % r) r, Nat.gcd_comm]
theorem euN_mono : ∀ (k d r g m : Nat), euN k d r = some g → k ≤ m → euN m d r = some g
  | 0, d, r, g, m, h, _ => by cases h
  | k + 1, d, r, g, m, h, hm => by
    obtain ⟨m, rfl⟩ : ∃ m2, m = m2 + 1 := ⟨m - 1, by omega⟩
    rw [euN] at h ⊢
    by_cases q : r = 0
    · rw [if_pos q] at h ⊢; exact h
    · rw [if_neg q] at h ⊢; exact euN_mono k _ _ _ m h (by omega)
theorem l_zero {b : Nat} (h : b < 2 ^ 63) : (lN b = 0) = (b = 0) := propext (pk_lEQ (b := 0) h (by decide))
theorem mo_common : ∀ (k d r g : Nat), d < 2 ^ 63 → r < 2 ^ 63 → euN k d r = some g → f_X11_commonOf_L6 k (lN d) (lN r) = some (lN g)
  | 0, d, r, g, _, _, h => by cases h
  | k + 1, d, r, g, hd, hr, h => by
    rw [euN] at h
    rw [f_X11_commonOf_L6]
    simp only [lc_eq, l_zero hr]
    by_cases q : r = 0
    · rw [if_pos q] at h ⊢; cases h; rfl
    · rw [if_neg q] at h ⊢
      have e : ab_lrem (lN d) (lN r) = lN (d % r) := pk_lRem hd (by omega) hr
      rw [if_neg q, lt_e, e]
      have := Nat.mod_lt d (show r > 0 by omega)
      exact mo_common k r (d % r) g hr (by omega) h
def prt (above below : Nat) (v : Int32) : Nat := if v = 0 then above / Nat.gcd above below else below / Nat.gcd above below
theorem mo_part {a b : Nat} (ha : a < 2 ^ 60) (hb : b < 2 ^ 60) (h0 : 0 < b) (v : Int32) : f_X11_partOf (lN a) (lN b) v = some (lN (prt a b v)) := by
  have hg := euN_some 60 a b hb
  have hg2 := mo_common FU a b _ (by omega) (by omega) (euN_mono _ _ _ _ FU hg (by unfold FU; omega))
  have hp : 0 < Nat.gcd a b := Nat.gcd_pos_of_pos_right _ h0
  have hle : Nat.gcd a b ≤ b := Nat.le_of_dvd h0 (Nat.gcd_dvd_right a b)
  unfold f_X11_partOf f_X11_commonOf
  rw [hg2, bd_s]
  have e0 : ¬ lN (Nat.gcd a b) = 0 := fun q => by have := (l_zero (by omega)).mp q; omega
  unfold prt
  by_cases q : v = 0
  · rw [if_pos q, if_neg e0, if_pos q, pk_lDiv (by omega) hp (by omega)]
  · rw [if_neg q, if_neg e0, if_neg q, pk_lDiv (by omega) hp (by omega)]
theorem cl_low_L {v0 v2 : Int64} {v4 : Int32} : ∀ (k m s d r g : Nat), d < 2 ^ 63 → r < 2 ^ 63 → euN k d r = some g → s + k ≤ 101 → k ≤ m → f_X10_lowest_L9 m v0 v2 v4 (lN d) (lN r) (nI s) = f_X10_lowest_b44 v0 v2 v4 (lN g)
  | 0, m, s, d, r, g, _, _, h, _, _ => by cases h
  | k + 1, m, s, d, r, g, hd, hr, h, hs, hm => by
    obtain ⟨m, rfl⟩ : ∃ m2, m = m2 + 1 := ⟨m - 1, by omega⟩
    rw [euN] at h
    rw [f_X10_lowest_L9]
    simp only [lc_eq, l_zero hr]
    by_cases q : r = 0
    · rw [if_pos q] at h ⊢
      cases h
      rw [ite_self]
    · rw [if_neg q] at h ⊢
      have hk : k ≠ 0 := fun q2 => by subst q2; cases h
      have e : ab_lrem (lN d) (lN r) = lN (d % r) := pk_lRem hd (by omega) hr
      rw [if_neg (by rw [show (100 : Int32) = nI 100 from rfl, n_le (by omega) (by omega)]; omega), if_neg q, lt_e, e, n_s1]
      have := Nat.mod_lt d (show r > 0 by omega)
      exact cl_low_L k m (s + 1) r (d % r) g hr (by omega) h (by omega) (by omega)
theorem cl_low {a b : Nat} (ha : a < 2 ^ 60) (hb : b < 2 ^ 47) (h0 : 0 < b) (v : Int32) : f_X10_lowest (lN a) (lN b) v = some (lN (prt a b v)) := by
  have hp : 0 < Nat.gcd a b := Nat.gcd_pos_of_pos_right _ h0
  have hle : Nat.gcd a b ≤ b := Nat.le_of_dvd h0 (Nat.gcd_dvd_right a b)
  have hg : euN 96 b a = some (Nat.gcd a b) := by
    show euN (95 + 1) b a = _
    rw [euN]
    by_cases q : a = 0
    · rw [if_pos q, q, Nat.gcd_zero_left]
    · rw [if_neg q, Nat.gcd_rec a b, Nat.gcd_comm]
      have h1 : b % a ≤ b := Nat.mod_le b a
      exact euN_some 47 a (b % a) (by omega)
  unfold f_X10_lowest
  have := cl_low_L (v0 := lN a) (v2 := lN b) (v4 := v) 96 FU 0 b a _ (by omega) (by omega) hg (by omega) (by unfold FU; omega)
  have h1 : f_X10_lowest_L9 FU (lN a) (lN b) v (lN b) (lN a) 0 = _ := this
  rw [h1]
  unfold f_X10_lowest_b44 f_X10_lowest_b72 prt
  have hc : (0 ≤ lg_cmp (lN (Nat.gcd a b)) 1) := by
    have h2 : ¬ (lg_cmp (lN (Nat.gcd a b)) 1 < 0) := by
      rw [lc_lt, pk_lT (by omega)]
      have : (1 : Int64).toInt = 1 := rfl
      omega
    rw [i_le]
    rw [i_lt] at h2
    omega
  have e0 : ¬ lN (Nat.gcd a b) = 0 := fun q => by have := (l_zero (by omega)).mp q; omega
  rw [if_pos hc]
  by_cases q : v = 0
  · rw [if_pos q, if_neg e0, if_pos q, pk_lDiv (by omega) hp (by omega)]
  · rw [if_neg q, if_neg e0, if_neg q, pk_lDiv (by omega) hp (by omega)]
