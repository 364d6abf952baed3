/-! orders: sequences in which everyone stands behind those who must stand above -/
def fl (ab : Nat → Nat) (S p : Nat) : Bool := !S.testBit p && decide (ab p &&& S = ab p)
def vld (ab : Nat → Nat) : Nat → List Nat → Bool
  | _, [] => true
  | S, p :: l => fl ab S p && vld ab (S ||| 2 ^ p) l
def ext (n : Nat) (ab : Nat → Nat) : Nat → Nat → List (List Nat)
  | 0, _ => [[]]
  | d + 1, S => ((List.range n).filter (fl ab S)).flatMap (fun p => (ext n ab d (S ||| 2 ^ p)).map (fun l => p :: l))
def st (S : Nat) : List Nat → Nat
  | [] => S
  | p :: l => st (S ||| 2 ^ p) l
theorem land_sub {a S : Nat} : a &&& S = a ↔ ∀ i, a.testBit i = true → S.testBit i = true := by
  constructor
  · intro h i hi
    rw [← h, Nat.testBit_and, Bool.and_eq_true] at hi
    exact hi.2
  · intro h
    apply Nat.eq_of_testBit_eq
    intro i
    rw [Nat.testBit_and]
    cases ha : a.testBit i
    · rfl
    · rw [h i ha]; rfl
theorem tb_or (S p i : Nat) : (S ||| 2 ^ p).testBit i = (S.testBit i || decide (p = i)) := by
  rw [Nat.testBit_or, Nat.testBit_two_pow]
theorem tb_st : ∀ (l : List Nat) (S i : Nat), (st S l).testBit i = (S.testBit i || decide (i ∈ l))
  | [], S, i => by simp [st]
  | p :: l, S, i => by
    rw [st, tb_st l, tb_or]
    by_cases h : p = i
    · subst h; simp
    · have : i ≠ p := fun e => h e.symm
      simp [h, this]
theorem mem_ext (n : Nat) (ab : Nat → Nat) : ∀ (d S : Nat) (l : List Nat), l ∈ ext n ab d S ↔ l.length = d ∧ (∀ p ∈ l, p < n) ∧ vld ab S l = true
  | 0, S, l => by
    constructor
    · intro h
      have : l = [] := by simpa [ext] using h
      subst this
      simp [vld]
    · rintro ⟨h, -, -⟩
      have : l = [] := List.length_eq_zero_iff.mp h
      subst this
      simp [ext]
  | d + 1, S, l => by
    constructor
    · intro h
      simp only [ext, List.mem_flatMap, List.mem_filter, List.mem_range, List.mem_map] at h
      obtain ⟨p, ⟨h1, h2⟩, l2, h3, rfl⟩ := h
      obtain ⟨a, b, c⟩ := (mem_ext n ab d _ l2).mp h3
      refine ⟨by simp [a], ?_, by simp [vld, h2, c]⟩
      intro q hq
      rcases List.mem_cons.mp hq with rfl | hq
      · exact h1
      · exact b q hq
    · rintro ⟨h, h2, h3⟩
      cases l with
      | nil => simp at h
      | cons p l =>
        simp only [vld, Bool.and_eq_true] at h3
        simp only [ext, List.mem_flatMap, List.mem_filter, List.mem_range, List.mem_map]
        exact ⟨p, ⟨h2 p List.mem_cons_self, h3.1⟩, l, (mem_ext n ab d _ l).mpr ⟨by simpa using h, fun q hq => h2 q (List.mem_cons_of_mem _ hq), h3.2⟩, rfl⟩
theorem vld_app (ab : Nat → Nat) : ∀ (l m : List Nat) (S : Nat), vld ab S (l ++ m) = (vld ab S l && vld ab (st S l) m)
  | [], m, S => by simp [vld, st]
  | p :: l, m, S => by simp [vld, st, vld_app ab l m, Bool.and_assoc]
theorem st_app : ∀ (l m : List Nat) (S : Nat), st S (l ++ m) = st (st S l) m
  | [], _, _ => rfl
  | p :: l, m, S => by simp [st, st_app l m]
theorem vld_out {ab : Nat → Nat} : ∀ {l : List Nat} {S : Nat}, vld ab S l = true → l.Nodup ∧ ∀ p ∈ l, S.testBit p = false
  | [], S, _ => ⟨List.nodup_nil, fun p h => by cases h⟩
  | p :: l, S, h => by
    simp only [vld, fl, Bool.and_eq_true, Bool.not_eq_true'] at h
    obtain ⟨⟨h1, h2⟩, h3⟩ := h
    obtain ⟨a, b⟩ := vld_out h3
    refine ⟨List.nodup_cons.mpr ⟨fun hp => ?_, a⟩, fun q hq => ?_⟩
    · have := b p hp
      rw [tb_or] at this
      simp at this
    · rcases List.mem_cons.mp hq with rfl | hq
      · exact h1
      · have := b q hq
        rw [tb_or, Bool.or_eq_false_iff] at this
        exact this.1
/-- whoever stands in a sequence has all that must stand above ahead -/
theorem vld_abv {ab : Nat → Nat} : ∀ {l : List Nat} {S : Nat}, vld ab S l = true → ∀ p ∈ l, ∀ i, (ab p).testBit i = true → S.testBit i = true ∨ i ∈ l
  | [], S, _, p, h => by cases h
  | q :: l, S, h, p, hp => by
    intro i hi
    simp only [vld, fl, Bool.and_eq_true, decide_eq_true_eq] at h
    rcases List.mem_cons.mp hp with rfl | hp
    · exact Or.inl (land_sub.mp h.1.2 i hi)
    · rcases vld_abv h.2 p hp i hi with h4 | h4
      · rw [tb_or, Bool.or_eq_true, decide_eq_true_eq] at h4
        rcases h4 with h4 | h4
        · exact Or.inl h4
        · subst h4; exact Or.inr List.mem_cons_self
      · exact Or.inr (List.mem_cons_of_mem _ h4)
/-- a sequence goes on from any set: leave out who is in it -/
theorem vld_fill {ab : Nat → Nat} (S0 : Nat) : ∀ (o : List Nat) (T S : Nat), vld ab T o = true → (∀ i, S.testBit i = (S0.testBit i || T.testBit i)) → vld ab S (o.filter (fun p => !S0.testBit p)) = true
  | [], T, S, _, _ => rfl
  | p :: o, T, S, h, hS => by
    simp only [vld, fl, Bool.and_eq_true, Bool.not_eq_true', decide_eq_true_eq] at h
    obtain ⟨⟨h1, h2⟩, h3⟩ := h
    cases hp : S0.testBit p
    · rw [List.filter_cons_of_pos (by simp [hp])]
      simp only [vld, fl, Bool.and_eq_true, Bool.not_eq_true', decide_eq_true_eq]
      refine ⟨⟨by rw [hS, hp, h1]; rfl, ?_⟩, vld_fill S0 o (T ||| 2 ^ p) _ h3 (fun i => by rw [tb_or, tb_or, hS]; cases S0.testBit i <;> simp)⟩
      rw [land_sub] at h2 ⊢
      intro i hi
      rw [hS, h2 i hi, Bool.or_true]
    · rw [List.filter_cons_of_neg (by simp [hp])]
      refine vld_fill S0 o (T ||| 2 ^ p) S h3 (fun i => ?_)
      rw [hS, tb_or]
      by_cases e : p = i
      · subst e; simp [hp]
      · simp [e]
/-- the part of a sequence in a set that holds all that must stand above its members -/
theorem vld_part {ab : Nat → Nat} (D : Nat) (hD : ∀ p, D.testBit p = true → ∀ i, (ab p).testBit i = true → D.testBit i = true) : ∀ (o : List Nat) (T S : Nat), vld ab T o = true → (∀ i, S.testBit i = (D.testBit i && T.testBit i)) → vld ab S (o.filter (fun p => D.testBit p)) = true
  | [], T, S, _, _ => rfl
  | p :: o, T, S, h, hS => by
    simp only [vld, fl, Bool.and_eq_true, Bool.not_eq_true', decide_eq_true_eq] at h
    obtain ⟨⟨h1, h2⟩, h3⟩ := h
    cases hp : D.testBit p
    · rw [List.filter_cons_of_neg (by simp [hp])]
      refine vld_part D hD o (T ||| 2 ^ p) S h3 (fun i => ?_)
      rw [hS, tb_or]
      by_cases e : p = i
      · subst e; simp [hp]
      · simp [e]
    · rw [List.filter_cons_of_pos (by simp [hp])]
      simp only [vld, fl, Bool.and_eq_true, Bool.not_eq_true', decide_eq_true_eq]
      refine ⟨⟨by rw [hS, h1, Bool.and_false], ?_⟩, vld_part D hD o (T ||| 2 ^ p) _ h3 (fun i => ?_)⟩
      · rw [land_sub] at h2 ⊢
        intro i hi
        rw [hS, h2 i hi, hD p hp i hi]; rfl
      · rw [tb_or, tb_or, hS]
        by_cases e : p = i
        · subst e; simp [hp]
        · simp [e]
