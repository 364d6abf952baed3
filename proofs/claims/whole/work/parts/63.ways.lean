/-! orders: counts by sets -/
def msk (P : Nat → Bool) : Nat → Nat
  | 0 => 0
  | k + 1 => msk P k ||| (if P k = true then 2 ^ k else 0)
theorem tb_msk (P : Nat → Bool) : ∀ k i, (msk P k).testBit i = (decide (i < k) && P i)
  | 0, i => by simp [msk]
  | k + 1, i => by
    rw [msk, Nat.testBit_or, tb_msk P k]
    by_cases q : P k = true
    · rw [if_pos q, Nat.testBit_two_pow]
      by_cases e : k = i
      · subst e; simp [q]
      · have : decide (i < k + 1) = decide (i < k) := by congr 1; apply propext; omega
        simp [e, this]
    · rw [if_neg q, Nat.zero_testBit, Bool.or_false]
      by_cases e : k = i
      · subst e; simp [q]
      · have : decide (i < k + 1) = decide (i < k) := by congr 1; apply propext; omega
        rw [this]
theorem msk_lt (P : Nat → Bool) (k : Nat) : msk P k < 2 ^ k := Nat.lt_pow_two_of_testBit _ (fun i hi => by rw [tb_msk, decide_eq_false (by omega)]; rfl)
theorem pop_or0 : ∀ S, S < 256 → ∀ p, p < 8 → S.testBit p = false → pop (S ||| 2 ^ p) = pop S + 1 := by decide +kernel
theorem pop_xor0 : ∀ S, S < 256 → ∀ p, p < 8 → S.testBit p = true → pop S = pop (S ^^^ 2 ^ p) + 1 := by decide +kernel
theorem pop_full0 : ∀ n, n < 9 → pop (2 ^ n - 1) = n := by decide +kernel
theorem pop_full1 : ∀ n, n < 9 → ∀ S, S < 256 → S < 2 ^ n → pop S = n → S = 2 ^ n - 1 := by decide +kernel
theorem pop_pos0 : ∀ S, S < 256 → ¬ S = 0 → ¬ pop S = 0 := by decide +kernel
theorem pow_n {n : Nat} (h : n ≤ 8) : 2 ^ n ≤ 256 := Nat.pow_le_pow_right (n := 2) (by omega) h
theorem su_add (g h : Nat → Nat) : ∀ k j, su (fun q => g q + h q) k j = su g k j + su h k j
  | 0, _ => rfl
  | k + 1, j => by rw [su, su, su, su_add g h k (j + 1)]; omega
theorem su_one {p x : Nat} : ∀ k j, j ≤ p → p < j + k → su (fun q => if q = p then x else 0) k j = x
  | 0, j, _, _ => by omega
  | k + 1, j, h1, h2 => by
    rw [su]
    by_cases q : j = p
    · rw [if_pos q, su_0 k (j + 1) (fun i h3 _ => by show (if i = p then x else 0) = 0; rw [if_neg (by omega)])]
      omega
    · rw [if_neg q, su_one k (j + 1) (by omega) (by omega)]
      omega
theorem su_pos {g : Nat → Nat} : ∀ k j, 0 < su g k j → ∃ i, j ≤ i ∧ i < j + k ∧ 0 < g i
  | 0, _, h => by simp [su] at h
  | k + 1, j, h => by
    rw [su] at h
    by_cases q : 0 < g j
    · exact ⟨j, by omega, by omega, q⟩
    · obtain ⟨i, h1, h2, h3⟩ := su_pos (g := g) k (j + 1) (by omega)
      exact ⟨i, by omega, by omega, h3⟩
theorem su_ge {g : Nat → Nat} : ∀ k j i, j ≤ i → i < j + k → g i ≤ su g k j
  | 0, _, _, _, _ => by omega
  | k + 1, j, i, h1, h2 => by
    rw [su]
    by_cases q : i = j
    · subst q; omega
    · have := su_ge (g := g) k (j + 1) i (by omega) (by omega); omega
theorem cp_range (P : Nat → Bool) : ∀ k, (List.range k).countP P = su (fun p => if P p = true then 1 else 0) k 0
  | 0 => rfl
  | k + 1 => by
    rw [List.range_succ, List.countP_append, cp_range P k, su_last, Nat.zero_add]
    congr 1
    by_cases q : P k = true
    · simp [q]
    · simp [q]
theorem sum_su {α : Type} (g : α → Nat → Nat) (n : Nat) : ∀ L : List α, (L.map (fun l => su (g l) n 0)).sum = su (fun p => (L.map (fun l => g l p)).sum) n 0
  | [] => (su_0 n 0 (fun _ _ _ => rfl)).symm
  | l :: L => by
    simp only [List.map_cons, List.sum_cons]
    rw [sum_su g n L, su_add]
section WAY
variable (n : Nat) (ab : Nat → Nat)
def foll (S : Nat) : List Nat := (List.range n).filter (fl ab S)
theorem ext_snoc : ∀ (d S : Nat), ext n ab (d + 1) S = (ext n ab d S).flatMap (fun l => (foll n ab (st S l)).map (fun p => l ++ [p]))
  | 0, S => by
    simp only [ext, List.flatMap_cons, List.flatMap_nil, List.append_nil, st, List.map_cons, List.map_nil, List.nil_append, foll]
    induction (List.range n).filter (fl ab S) with
    | nil => rfl
    | cons a l ih => simp only [List.flatMap_cons, List.map_cons, ih]; rfl
  | d + 1, S => by
    have ih := ext_snoc d
    show (foll n ab S).flatMap (fun p => (ext n ab (d + 1) (S ||| 2 ^ p)).map (fun l => p :: l)) = ((foll n ab S).flatMap (fun p => (ext n ab d (S ||| 2 ^ p)).map (fun l => p :: l))).flatMap _
    rw [List.flatMap_assoc]
    congr 1
    funext p
    rw [ih, List.map_flatMap, List.flatMap_map]
    congr 1
    funext l
    rw [List.map_map]
    rfl
def cnt (f T : Nat) : Nat := (ext n ab f 0).countP (fun l => decide (st 0 l = T))
theorem fl_or {S p T : Nat} : (fl ab S p && decide (S ||| 2 ^ p = T)) = (T.testBit p && fl ab (T ^^^ 2 ^ p) p && decide (S = T ^^^ 2 ^ p)) := by
  rw [Bool.eq_iff_iff]
  simp only [Bool.and_eq_true, decide_eq_true_eq]
  constructor
  · rintro ⟨h1, h2⟩
    have hp : S.testBit p = false := by simp only [fl, Bool.and_eq_true, Bool.not_eq_true'] at h1; exact h1.1
    have e : T ^^^ 2 ^ p = S := by
      apply Nat.eq_of_testBit_eq
      intro i
      rw [← h2, Nat.testBit_xor, tb_or, Nat.testBit_two_pow]
      by_cases q : p = i
      · subst q; simp [hp]
      · simp [q]
    rw [e]
    refine ⟨⟨?_, h1⟩, rfl⟩
    rw [← h2, tb_or]; simp
  · rintro ⟨⟨h1, h2⟩, h3⟩
    rw [h3]
    refine ⟨h2, ?_⟩
    apply Nat.eq_of_testBit_eq
    intro i
    rw [tb_or, Nat.testBit_xor, Nat.testBit_two_pow]
    by_cases q : p = i
    · subst q; simp [h1]
    · simp [q]
theorem cnt_s (f T : Nat) : cnt n ab (f + 1) T = su (fun p => if (T.testBit p && fl ab (T ^^^ 2 ^ p) p) = true then cnt n ab f (T ^^^ 2 ^ p) else 0) n 0 := by
  unfold cnt
  rw [ext_snoc, List.countP_flatMap]
  have e1 : (List.countP (fun l => decide (st 0 l = T)) ∘ fun l => (foll n ab (st 0 l)).map (fun p => l ++ [p])) = fun l => su (fun p => if (fl ab (st 0 l) p && decide (st 0 l ||| 2 ^ p = T)) = true then 1 else 0) n 0 := by
    funext l
    rw [Function.comp, List.countP_map, ← cp_range]
    unfold foll
    rw [List.countP_filter]
    congr 1
    funext p
    show (decide (st 0 (l ++ [p]) = T) && fl ab (st 0 l) p) = _
    rw [st_app, Bool.and_comm]
    rfl
  rw [e1, sum_su]
  refine su_congr n 0 (fun p _ _ => ?_)
  induction ext n ab f 0 with
  | nil => simp
  | cons l L ih =>
    rw [List.map_cons, List.sum_cons, ih, List.countP_cons, fl_or]
    by_cases q : (T.testBit p && fl ab (T ^^^ 2 ^ p) p) = true
    · simp only [q, if_true, Bool.true_and]
      omega
    · simp only [q, if_false, Bool.eq_false_iff.mpr q, Bool.false_and]
      simp
theorem cnt_le (hn : n ≤ 8) : ∀ f T, cnt n ab f T ≤ 8 ^ f
  | 0, T => by
    have : cnt n ab 0 T ≤ (ext n ab 0 0).length := List.countP_le_length
    exact this
  | f + 1, T => by
    rw [cnt_s]
    have := su_le (g := fun p => if (T.testBit p && fl ab (T ^^^ 2 ^ p) p) = true then cnt n ab f (T ^^^ 2 ^ p) else 0) (b := 8 ^ f) n 0 (fun j _ _ => by
      show (if (T.testBit j && fl ab (T ^^^ 2 ^ j) j) = true then cnt n ab f (T ^^^ 2 ^ j) else 0) ≤ 8 ^ f
      split
      · exact cnt_le hn f _
      · exact Nat.zero_le _)
    have h2 : n * 8 ^ f ≤ 8 * 8 ^ f := Nat.mul_le_mul_right _ hn
    rw [Nat.pow_succ]
    omega
def way (S : Nat) : Nat := cnt n ab (pop S) S
theorem way_le (hn : n ≤ 8) {S : Nat} (hS : S < 2 ^ n) : way n ab S ≤ 16777216 := by
  have h1 := cnt_le n ab hn (pop S) S
  have h2 : pop S ≤ 8 := by
    have h3 : ∀ S, S < 256 → pop S ≤ 8 := by decide +kernel
    exact h3 S (by have := pow_n hn; omega)
  have h4 : 8 ^ pop S ≤ 8 ^ 8 := Nat.pow_le_pow_right (by omega) h2
  unfold way
  omega
theorem way_0 : way n ab 0 = 1 := by
  unfold way
  rw [pop_0]
  rfl
theorem way_rec (hn : n ≤ 8) {T : Nat} (hT : T < 2 ^ n) (h0 : T ≠ 0) : way n ab T = su (fun p => if (T.testBit p && fl ab (T ^^^ 2 ^ p) p) = true then way n ab (T ^^^ 2 ^ p) else 0) n 0 := by
  have h256 := pow_n hn
  obtain ⟨f, hf⟩ : ∃ f, pop T = f + 1 := ⟨pop T - 1, by have := pop_pos0 T (by omega) h0; omega⟩
  unfold way
  rw [hf, cnt_s]
  refine su_congr n 0 (fun p _ hp => ?_)
  by_cases q : (T.testBit p && fl ab (T ^^^ 2 ^ p) p) = true
  · rw [if_pos q, if_pos q]
    have := pop_xor0 T (by omega) p (by omega) (by rw [Bool.and_eq_true] at q; exact q.1)
    rw [show pop (T ^^^ 2 ^ p) = f by omega]
  · rw [if_neg q, if_neg q]
def rch (S : Nat) : Prop := ∃ l : List Nat, (∀ p ∈ l, p < n) ∧ vld ab 0 l = true ∧ st 0 l = S
theorem pop_st (hn : n ≤ 8) : ∀ (l : List Nat) (S : Nat), S < 2 ^ n → (∀ p ∈ l, p < n) → vld ab S l = true → st S l < 2 ^ n ∧ pop (st S l) = pop S + l.length
  | [], S, h, _, _ => ⟨h, (Nat.add_zero _).symm⟩
  | p :: l, S, h, h2, h3 => by
    have h256 := pow_n hn
    simp only [vld, Bool.and_eq_true] at h3
    have hp := h2 p List.mem_cons_self
    have hf : S.testBit p = false := by have := h3.1; simp only [fl, Bool.and_eq_true, Bool.not_eq_true'] at this; exact this.1
    obtain ⟨a, b⟩ := pop_st hn l (S ||| 2 ^ p) (or_lt h hp) (fun q hq => h2 q (List.mem_cons_of_mem _ hq)) h3.2
    refine ⟨a, ?_⟩
    show pop (st (S ||| 2 ^ p) l) = _
    rw [b, pop_or0 S (by omega) p (by omega) hf, List.length_cons]
    omega
theorem way_pos (hn : n ≤ 8) (S : Nat) : 0 < way n ab S ↔ rch n ab S := by
  unfold way cnt rch
  rw [List.countP_pos_iff]
  constructor
  · rintro ⟨l, h1, h2⟩
    obtain ⟨a, b, c⟩ := (mem_ext n ab _ _ l).mp h1
    exact ⟨l, b, c, by simpa using h2⟩
  · rintro ⟨l, h1, h2, h3⟩
    have := (pop_st n ab hn l 0 (Nat.two_pow_pos n) h1 h2).2
    rw [h3, pop_0] at this
    exact ⟨l, (mem_ext n ab _ _ l).mpr ⟨by omega, h1, h2⟩, by simpa using h3⟩
theorem st_full (hn : n ≤ 8) {l : List Nat} (h : l ∈ ext n ab n 0) : st 0 l = 2 ^ n - 1 := by
  have h256 := pow_n hn
  obtain ⟨a, b, c⟩ := (mem_ext n ab _ _ l).mp h
  obtain ⟨d, e⟩ := pop_st n ab hn l 0 (Nat.two_pow_pos n) b c
  rw [pop_0, a] at e
  exact pop_full1 n (by omega) _ (by omega) d (by omega)
theorem way_all (hn : n ≤ 8) : way n ab (2 ^ n - 1) = (ext n ab n 0).length := by
  unfold way cnt
  rw [pop_full0 n (by omega), List.countP_eq_length]
  intro l hl
  simp [st_full n ab hn hl]
end WAY
