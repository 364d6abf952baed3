/-! proof: all parts of a set, in their order -/
theorem and2 (a b : Nat) {x y : Nat} (hx : x < 2) (hy : y < 2) : (2 * a + x) &&& (2 * b + y) = 2 * (a &&& b) + (x &&& y) := by
  have h1 : ((2 * a + x) &&& (2 * b + y)) / 2 = a &&& b := by
    rw [Nat.and_div_two, show (2 * a + x) / 2 = a by omega, show (2 * b + y) / 2 = b by omega]
  have h2 : ((2 * a + x) &&& (2 * b + y)) % 2 = x &&& y := by
    have := Nat.and_mod_two_eq_one (a := 2 * a + x) (b := 2 * b + y)
    rcases show x = 0 ∨ x = 1 by omega with rfl | rfl <;> rcases show y = 0 ∨ y = 1 by omega with rfl | rfl
    · have h3 : ¬ ((2 * a + 0) &&& (2 * b + 0)) % 2 = 1 := fun h => by have := this.mp h; omega
      show _ = 0; omega
    · have h3 : ¬ ((2 * a + 0) &&& (2 * b + 1)) % 2 = 1 := fun h => by have := this.mp h; omega
      show _ = 0; omega
    · have h3 : ¬ ((2 * a + 1) &&& (2 * b + 0)) % 2 = 1 := fun h => by have := this.mp h; omega
      show _ = 0; omega
    · show _ = 1; exact this.mpr (by omega)
  have := Nat.div_add_mod ((2 * a + x) &&& (2 * b + y)) 2
  omega
def depF : Nat → Nat → Nat → Nat
  | 0, _, _ => 0
  | f + 1, u, t => if u % 2 = 1 then t % 2 + 2 * depF f (u / 2) (t / 2) else 2 * depF f (u / 2) t
theorem dep_le : ∀ f u t, depF f u t ≤ u
  | 0, _, _ => Nat.zero_le _
  | f + 1, u, t => by
    rw [depF]
    split
    · have := dep_le f (u / 2) (t / 2); omega
    · have := dep_le f (u / 2) t; omega
theorem dep_0 : ∀ f u, depF f u 0 = 0
  | 0, _ => rfl
  | f + 1, u => by
    rw [depF]
    split
    · rw [Nat.zero_div, dep_0 f]
    · rw [dep_0 f]
theorem dep_c : ∀ (f u t N : Nat), u < 2 ^ f → f ≤ N → (2 ^ N - 1 - (u - depF f u t)) &&& u = depF f u t
  | 0, u, t, N, h, _ => by
    have : u = 0 := by simpa using h
    rw [this, Nat.and_zero]; rfl
  | f + 1, u, t, N, h, hN => by
    obtain ⟨N, rfl⟩ : ∃ K, N = K + 1 := ⟨N - 1, by omega⟩
    have h3 : 2 ^ (f + 1) = 2 * 2 ^ f := by rw [Nat.pow_succ]; omega
    have h4 : 2 ^ (N + 1) = 2 * 2 ^ N := by rw [Nat.pow_succ]; omega
    have hp : 2 ^ f ≤ 2 ^ N := Nat.pow_le_pow_right (by omega) (by omega)
    rw [depF]
    by_cases q : u % 2 = 1
    · rw [if_pos q]
      have ih := dep_c f (u / 2) (t / 2) N (by omega) (by omega)
      have hl := dep_le f (u / 2) (t / 2)
      generalize depF f (u / 2) (t / 2) = s at *
      rcases show t % 2 = 0 ∨ t % 2 = 1 by omega with e | e
      · have e1 : 2 ^ (N + 1) - 1 - (u - (t % 2 + 2 * s)) = 2 * (2 ^ N - 1 - (u / 2 - s)) + 0 := by omega
        have e2 : u = 2 * (u / 2) + 1 := by omega
        rw [e1]
        conv => lhs; rw [e2]
        rw [show (2 * (u / 2) + 1) / 2 = u / 2 by omega, and2 _ _ (by omega) (by omega), ih, e]
        show 2 * s + 0 = 0 + 2 * s
        omega
      · have e1 : 2 ^ (N + 1) - 1 - (u - (t % 2 + 2 * s)) = 2 * (2 ^ N - 1 - (u / 2 - s)) + 1 := by omega
        have e2 : u = 2 * (u / 2) + 1 := by omega
        rw [e1]
        conv => lhs; rw [e2]
        rw [show (2 * (u / 2) + 1) / 2 = u / 2 by omega, and2 _ _ (by omega) (by omega), ih, e]
        show 2 * s + 1 = 1 + 2 * s
        omega
    · rw [if_neg q]
      have ih := dep_c f (u / 2) t N (by omega) (by omega)
      have hl := dep_le f (u / 2) t
      generalize depF f (u / 2) t = s at *
      have e1 : 2 ^ (N + 1) - 1 - (u - 2 * s) = 2 * (2 ^ N - 1 - (u / 2 - s)) + 1 := by omega
      have e2 : u = 2 * (u / 2) + 0 := by omega
      rw [e1]
      conv => lhs; rw [e2]
      rw [show (2 * (u / 2) + 0) / 2 = u / 2 by omega, and2 _ _ (by omega) (by omega), ih]; rfl
theorem dep_nx : ∀ (f u t N : Nat), u < 2 ^ f → f < N → t + 1 < 2 ^ popF f u → (2 ^ N + depF f u t - u) &&& u = depF f u (t + 1)
  | 0, u, t, N, h, _, ht => by simp [popF] at ht
  | f + 1, u, t, N, h, hN, ht => by
    obtain ⟨N, rfl⟩ : ∃ K, N = K + 1 := ⟨N - 1, by omega⟩
    have h3 : 2 ^ (f + 1) = 2 * 2 ^ f := by rw [Nat.pow_succ]; omega
    have h4 : 2 ^ (N + 1) = 2 * 2 ^ N := by rw [Nat.pow_succ]; omega
    have hp : 2 ^ f ≤ 2 ^ N := Nat.pow_le_pow_right (by omega) (by omega)
    rw [popF] at ht
    rw [depF, depF]
    by_cases q : u % 2 = 1
    · rw [if_pos q, if_pos q]
      rw [q, Nat.add_comm 1, Nat.pow_succ] at ht
      have hl := dep_le f (u / 2) (t / 2)
      have e2 : u = 2 * (u / 2) + 1 := by omega
      rcases show t % 2 = 0 ∨ t % 2 = 1 by omega with e | e
      · have hc := dep_c f (u / 2) (t / 2) N (by omega) (by omega)
        rw [show (t + 1) / 2 = t / 2 by omega, show (t + 1) % 2 = 1 by omega]
        generalize depF f (u / 2) (t / 2) = s at *
        have e1 : 2 ^ (N + 1) + (t % 2 + 2 * s) - u = 2 * (2 ^ N - 1 - (u / 2 - s)) + 1 := by omega
        rw [e1]
        conv => lhs; rw [e2]
        rw [show (2 * (u / 2) + 1) / 2 = u / 2 by omega, and2 _ _ (by omega) (by omega), hc]
        show 2 * s + 1 = 1 + 2 * s
        omega
      · have ih := dep_nx f (u / 2) (t / 2) N (by omega) (by omega) (by omega)
        rw [show (t + 1) / 2 = t / 2 + 1 by omega, show (t + 1) % 2 = 0 by omega, ← ih]
        generalize depF f (u / 2) (t / 2) = s at *
        have e1 : 2 ^ (N + 1) + (t % 2 + 2 * s) - u = 2 * (2 ^ N + s - u / 2) + 0 := by omega
        rw [e1]
        conv => lhs; rw [e2]
        rw [show (2 * (u / 2) + 1) / 2 = u / 2 by omega, and2 _ _ (by omega) (by omega)]
        show 2 * _ + 0 = 0 + 2 * _
        omega
    · rw [if_neg q, if_neg q]
      rw [show u % 2 = 0 by omega, Nat.zero_add] at ht
      have hl := dep_le f (u / 2) t
      have e2 : u = 2 * (u / 2) + 0 := by omega
      have ih := dep_nx f (u / 2) t N (by omega) (by omega) ht
      rw [← ih]
      generalize depF f (u / 2) t = s at *
      have e1 : 2 ^ (N + 1) + 2 * s - u = 2 * (2 ^ N + s - u / 2) + 0 := by omega
      rw [e1]
      conv => lhs; rw [e2]
      rw [show (2 * (u / 2) + 0) / 2 = u / 2 by omega, and2 _ _ (by omega) (by omega)]
      rfl
theorem dep_sur : ∀ (f u s : Nat), u < 2 ^ f → s &&& u = s → ∃ t, t < 2 ^ popF f u ∧ depF f u t = s
  | 0, u, s, h, hs => by
    have : u = 0 := by simpa using h
    rw [this, Nat.and_zero] at hs
    exact ⟨0, by simp [popF], hs⟩
  | f + 1, u, s, h, hs => by
    have h3 : 2 ^ (f + 1) = 2 * 2 ^ f := by rw [Nat.pow_succ]; omega
    have hs2 : s / 2 &&& u / 2 = s / 2 := by rw [← Nat.and_div_two, hs]
    have hm := Nat.and_mod_two_eq_one (a := s) (b := u)
    rw [hs] at hm
    obtain ⟨t, h1, h2⟩ := dep_sur f (u / 2) (s / 2) (by omega) hs2
    rw [popF]
    by_cases q : u % 2 = 1
    · refine ⟨2 * t + s % 2, ?_, ?_⟩
      · rw [q, Nat.add_comm 1, Nat.pow_succ]; omega
      · rw [depF, if_pos q, show (2 * t + s % 2) / 2 = t by omega, h2]; omega
    · refine ⟨t, by rw [show u % 2 = 0 by omega, Nat.zero_add]; exact h1, ?_⟩
      rw [depF, if_neg q, h2]
      have : ¬ s % 2 = 1 := fun h => q (hm.mp h).2
      omega
theorem dep_mono : ∀ (f u t t2 : Nat), t < t2 → t2 < 2 ^ popF f u → depF f u t < depF f u t2
  | 0, u, t, t2, h, h2 => by simp [popF] at h2; omega
  | f + 1, u, t, t2, h, h2 => by
    rw [popF] at h2
    rw [depF, depF]
    by_cases q : u % 2 = 1
    · rw [q, Nat.add_comm 1, Nat.pow_succ] at h2
      rw [if_pos q, if_pos q]
      by_cases e : t / 2 = t2 / 2
      · rw [e]; omega
      · have := dep_mono f (u / 2) (t / 2) (t2 / 2) (by omega) (by omega)
        omega
    · rw [show u % 2 = 0 by omega, Nat.zero_add] at h2
      rw [if_neg q, if_neg q]
      have := dep_mono f (u / 2) t t2 h h2
      omega
theorem dep_sub : ∀ (f u t : Nat), depF f u t &&& u = depF f u t
  | 0, _, _ => Nat.zero_and _
  | f + 1, u, t => by
    rw [depF]
    by_cases q : u % 2 = 1
    · have e2 : u = 2 * (u / 2) + 1 := by omega
      rw [if_pos q, Nat.add_comm (t % 2)]
      conv => lhs; rhs; rw [e2]
      rw [and2 _ _ (by omega) (by omega), dep_sub f]
      congr 1
      rcases show t % 2 = 0 ∨ t % 2 = 1 by omega with e | e <;> rw [e] <;> rfl
    · have e2 : u = 2 * (u / 2) + 0 := by omega
      rw [if_neg q]
      have := and2 (depF f (u / 2) t) (u / 2) (x := 0) (y := 0) (by omega) (by omega)
      rw [← e2, dep_sub f] at this
      exact this
def dep (u t : Nat) : Nat := depF 12 u t
theorem pop_12 : ∀ a, a < 64 → ∀ b, b < 64 → pop (64 * a + b) = popF 12 (64 * a + b) := by decide +kernel
theorem pop_12' {u : Nat} (h : u < 4096) : pop u = popF 12 u := by
  have := pop_12 (u / 64) (by omega) (u % 64) (by omega)
  rw [Nat.div_add_mod] at this
  exact this
theorem n_wrap {s u : Nat} (hs : s < 4096) (hu : u < 4096) : nI s - nI u = nI (4294967296 + s - u) := by
  have h1 : nI (4294967296 + s - u) + nI u = nI (4294967296 + s) := by rw [n_add]; congr 1; omega
  have h2 : nI (4294967296 + s) = nI s := Int32.toBitVec_inj.mp (by
    show BitVec.ofNat 32 _ = BitVec.ofNat 32 _
    apply BitVec.eq_of_toNat_eq
    rw [BitVec.toNat_ofNat, BitVec.toNat_ofNat]
    omega)
  rw [← h2, ← h1, Int32.add_sub_cancel]
theorem nx_dep {u t : Nat} (hu : u < 4096) (ht : t + 1 < 2 ^ pop u) : (nI (dep u t) - nI u) &&& nI u = nI (dep u (t + 1)) := by
  have hl := dep_le 12 u t
  rw [n_wrap (by unfold dep; omega) hu, n_and]
  unfold dep
  rw [pop_12' hu] at ht
  rw [← dep_nx 12 u t 32 hu (by omega) ht]
