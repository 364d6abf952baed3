/-! the search: what is known of four players, as sixteen bits -/
def ka (K a b : Nat) : Bool := K.testBit (4 * b + a)
def rwK (K p : Nat) : Nat := (K >>> (4 * p)) &&& 15
def clB (K : Nat) : Bool := (List.range 4).all fun b => (List.range 4).all fun a => !ka K a b || (!ka K b a && (List.range 4).all fun c => !ka K b c || ka K a c)
def unk (K a b : Nat) : Bool := !ka K a b && !ka K b a
def insB (n K : Nat) : Bool := (List.range 4).all fun b => (List.range 4).all fun a => !ka K a b || (decide (a < n) && decide (b < n))
def wth (K a b : Nat) : Nat := msk (fun i => K.testBit i || ((decide (i / 4 = b) || ka K b (i / 4)) && (decide (i % 4 = a) || ka K (i % 4) a))) 16
def dgt (d a b : Nat) : Nat := if d = 1 then 2 ^ (4 * b + a) else if d = 2 then 2 ^ (4 * a + b) else 0
def Kof (c : Nat) : Nat := dgt (c / 243 % 3) 0 1 + dgt (c / 81 % 3) 0 2 + dgt (c / 27 % 3) 0 3 + dgt (c / 9 % 3) 1 2 + dgt (c / 3 % 3) 1 3 + dgt (c % 3) 2 3
def stN (K : Nat) : Nat := ((f_X8_stateOf (nI K)).getD 0).toNatClampNeg
/-- all that is tried one by one -/
def fcB (K : Nat) : Bool := decide (f_X8_stateOf (nI K) = some (nI (stN K))) && decide (stN K < 729) && decide (Kof (stN K) = K) && decide (pop K ≤ 6) && ((List.range 4).all fun a => (List.range 4).all fun b => decide (a = b) || !unk K a b || (decide (f_X8_with (nI K) (nI a) (nI b) = some (nI (wth K a b))) && clB (wth K a b) && decide (pop K < pop (wth K a b)))) && ((List.range 5).all fun n => !insB n K || (decide (0 < (ext n (rwK K) n 0).length) && (decide ((ext n (rwK K) n 0).length ≤ 1) || (List.range n).any fun a => (List.range n).any fun b => decide (a < b) && unk K a b)))
def fcA : Bool := (List.range 16).all fun r0 => r0.testBit 0 || (List.range 16).all fun r1 => r1.testBit 1 || (List.range 16).all fun r2 => r2.testBit 2 || (List.range 16).all fun r3 => r3.testBit 3 || !clB (r0 + 16 * r1 + 256 * r2 + 4096 * r3) || fcB (r0 + 16 * r1 + 256 * r2 + 4096 * r3)
theorem fc_all : fcA = true := by decide +kernel
theorem clB_iff {K : Nat} : clB K = true ↔ ∀ a b, a < 4 → b < 4 → ka K a b = true → ka K b a = false ∧ ∀ c, c < 4 → ka K b c = true → ka K a c = true := by
  unfold clB
  simp only [List.all_eq_true, List.mem_range, Bool.or_eq_true, Bool.and_eq_true, Bool.not_eq_true']
  constructor
  · intro h a b ha hb hk
    rcases h b hb a ha with h2 | ⟨h2, h3⟩
    · rw [h2] at hk; cases hk
    · refine ⟨h2, fun c hc hk2 => ?_⟩
      rcases h3 c hc with h4 | h4
      · rw [h4] at hk2; cases hk2
      · exact h4
  · intro h b hb a ha
    cases e : ka K a b
    · exact Or.inl rfl
    · obtain ⟨h1, h2⟩ := h a b ha hb e
      refine Or.inr ⟨h1, fun c hc => ?_⟩
      cases e2 : ka K b c
      · exact Or.inl rfl
      · exact Or.inr (h2 c hc e2)
theorem insB_iff {n K : Nat} : insB n K = true ↔ ∀ a b, a < 4 → b < 4 → ka K a b = true → a < n ∧ b < n := by
  unfold insB
  simp only [List.all_eq_true, List.mem_range, Bool.or_eq_true, Bool.and_eq_true, Bool.not_eq_true', decide_eq_true_eq]
  constructor
  · intro h a b ha hb hk
    rcases h b hb a ha with h2 | h2
    · rw [h2] at hk; cases hk
    · exact h2
  · intro h b hb a ha
    cases e : ka K a b
    · exact Or.inl rfl
    · exact Or.inr (h a b ha hb e)
theorem fc_K {K : Nat} (hK : K < 65536) (h : clB K = true) : fcB K = true := by
  have h1 := fc_all
  unfold fcA at h1
  simp only [List.all_eq_true, List.mem_range, Bool.or_eq_true, Bool.not_eq_true'] at h1
  have hd : ∀ b, b < 4 → ka K b b = false := fun b hb => by
    cases e : ka K b b
    · rfl
    · have := (clB_iff.mp h b b hb hb e).1; rw [e] at this; cases this
  have e : K % 16 + 16 * (K / 16 % 16) + 256 * (K / 256 % 16) + 4096 * (K / 4096) = K := by omega
  have tb : ∀ j i, i < 4 → (K / 2 ^ j % 16).testBit i = K.testBit (j + i) := fun j i hi => by
    rw [show (16 : Nat) = 2 ^ 4 from rfl, Nat.testBit_mod_two_pow, Nat.testBit_div_two_pow, decide_eq_true hi, Bool.true_and, Nat.add_comm]
  have t0 : (K % 16).testBit 0 = false := by have := tb 0 0 (by omega); rw [Nat.pow_zero, Nat.div_one] at this; rw [this]; exact hd 0 (by omega)
  have t1 : (K / 16 % 16).testBit 1 = false := (tb 4 1 (by omega)).trans (hd 1 (by omega))
  have t2 : (K / 256 % 16).testBit 2 = false := (tb 8 2 (by omega)).trans (hd 2 (by omega))
  have t3 : (K / 4096).testBit 3 = false := by
    have := (tb 12 3 (by omega)).trans (hd 3 (by omega))
    rw [show K / 2 ^ 12 % 16 = K / 4096 by omega] at this
    exact this
  have h2 := ((h1 (K % 16) (by omega)).resolve_left (by rw [t0]; decide))
  have h3 := ((h2 (K / 16 % 16) (by omega)).resolve_left (by rw [t1]; decide))
  have h4 := ((h3 (K / 256 % 16) (by omega)).resolve_left (by rw [t2]; decide))
  rcases h4 (K / 4096) (by omega) with (h5 | h5) | h5
  · rw [t3] at h5; cases h5
  · rw [e, h] at h5; cases h5
  · rw [e] at h5; exact h5
