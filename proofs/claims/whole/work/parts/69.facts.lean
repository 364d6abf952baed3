/-! orders: sets that come about, and orders -/
section FACT
variable {n : Nat} {ab : Nat → Nat}
theorem full_mem (hn : n ≤ 8) {l : List Nat} (h1 : ∀ p ∈ l, p < n) (h2 : vld ab 0 l = true) (h3 : ∀ i, i < n → i ∈ l) : l ∈ ext n ab n 0 := by
  have hp := (pop_st n ab hn l 0 (Nat.two_pow_pos n) h1 h2).2
  have e : st 0 l = 2 ^ n - 1 := by
    apply Nat.eq_of_testBit_eq
    intro i
    rw [tb_st, Nat.zero_testBit, Bool.false_or, Nat.testBit_two_pow_sub_one]
    exact decide_eq_decide.mpr ⟨h1 i, h3 i⟩
  rw [e, pop_full0 n (by omega), pop_0] at hp
  exact (mem_ext n ab n 0 l).mpr ⟨by omega, h1, h2⟩
/-- an order that begins with a given sequence -/
theorem ord_ext (hn : n ≤ 8) {o l : List Nat} (ho : o ∈ ext n ab n 0) (h1 : ∀ p ∈ l, p < n) (h2 : vld ab 0 l = true) : ∃ r, l ++ r ∈ ext n ab n 0 := by
  obtain ⟨a1, a2, a3, a4⟩ := ext_ok hn ho
  have ov := ((mem_ext n ab n 0 o).mp ho).2.2
  refine ⟨o.filter (fun p => !(st 0 l).testBit p), full_mem hn (fun p hp => ?_) ?_ (fun i hi => ?_)⟩
  · rcases List.mem_append.mp hp with hp | hp
    · exact h1 p hp
    · exact a3 p (List.mem_filter.mp hp).1
  · rw [vld_app, h2, Bool.true_and]
    exact vld_fill (st 0 l) o 0 (st 0 l) ov (fun i => by rw [Nat.zero_testBit, Bool.or_false])
  · by_cases q : i ∈ l
    · exact List.mem_append_left _ q
    · refine List.mem_append_right _ (List.mem_filter.mpr ⟨a4 i hi, ?_⟩)
      rw [tb_st, Nat.zero_testBit, decide_eq_false q]
      rfl
theorem vld_take {l : List Nat} {S : Nat} (h : vld ab S l = true) (k : Nat) : vld ab S (l.take k) = true ∧ vld ab (st S (l.take k)) (l.drop k) = true := by
  have := vld_app ab (l.take k) (l.drop k) S
  rw [List.take_append_drop, h] at this
  simpa using this.symm
theorem rch_take (hn : n ≤ 8) {o : List Nat} (ho : o ∈ ext n ab n 0) {k : Nat} (hk : k ≤ n) : rch n ab (st 0 (o.take k)) ∧ pop (st 0 (o.take k)) = k := by
  obtain ⟨a1, a2, a3⟩ := (mem_ext n ab n 0 o).mp ho
  have h1 : ∀ p ∈ o.take k, p < n := fun p hp => a2 p (List.mem_of_mem_take hp)
  have h2 := (vld_take a3 k).1
  refine ⟨⟨_, h1, h2, rfl⟩, ?_⟩
  have := (pop_st n ab hn _ 0 (Nat.two_pow_pos n) h1 h2).2
  rw [this, pop_0, List.length_take]
  omega
theorem drop_cons {o : List Nat} (h : o.length = n) {k : Nat} (hk : k < n) : o.drop k = oL o k :: o.drop (k + 1) := by
  have hk2 : k < o.length := by omega
  rw [List.drop_eq_getElem_cons hk2]
  congr 1
  unfold oL
  rw [List.getD_eq_getElem?_getD, List.getElem?_eq_getElem hk2]
  rfl
theorem fl_take (hn : n ≤ 8) {o : List Nat} (ho : o ∈ ext n ab n 0) {k : Nat} (hk : k < n) : fl ab (st 0 (o.take k)) (oL o k) = true := by
  obtain ⟨a1, a2, a3⟩ := (mem_ext n ab n 0 o).mp ho
  have h2 := (vld_take a3 k).2
  rw [drop_cons a1 hk] at h2
  simp only [vld, Bool.and_eq_true] at h2
  exact h2.1
/-- someone can have a place -/
theorem at_iff (hn : n ≤ 8) (hE : ext n ab n 0 ≠ []) {p k : Nat} (hp : p < n) (hk : k < n) : (∃ o ∈ ext n ab n 0, oL o k = p) ↔ ∃ S, rch n ab S ∧ pop S = k ∧ fl ab S p = true := by
  constructor
  · rintro ⟨o, ho, rfl⟩
    obtain ⟨h1, h2⟩ := rch_take hn ho (k := k) (by omega)
    exact ⟨_, h1, h2, fl_take hn ho hk⟩
  · rintro ⟨S, ⟨l, h1, h2, h3⟩, h4, h5⟩
    obtain ⟨o, ho⟩ := List.exists_mem_of_ne_nil _ hE
    obtain ⟨r, hr⟩ := ord_ext hn ho (l := l ++ [p]) (fun x hx => by
      rcases List.mem_append.mp hx with hx | hx
      · exact h1 x hx
      · rw [List.mem_singleton.mp hx]; exact hp) (by rw [vld_app, h2, h3]; simp [vld, h5])
    refine ⟨_, hr, ?_⟩
    have hl := (pop_st n ab hn l 0 (Nat.two_pow_pos n) h1 h2).2
    rw [h3, pop_0, h4] at hl
    rw [oL_app2 (by simp; omega), oL_app1 (by omega)]
theorem idx_app {l r : List Nat} {a : Nat} (h : a ∈ l) : (l ++ r).idxOf a = l.idxOf a := by
  rw [List.idxOf_append, if_pos h]
theorem idx_app2 {l r : List Nat} {a : Nat} (h : a ∉ l) : l.length ≤ (l ++ r).idxOf a := by
  rw [List.idxOf_append, if_neg h]
  omega
/-- one stands ahead of another one in some order -/
theorem bef_iff (hn : n ≤ 8) (hE : ext n ab n 0 ≠ []) {a b : Nat} (ha : a < n) (hb : b < n) (hab : a ≠ b) : (∃ o ∈ ext n ab n 0, pL o b < pL o a) ↔ ∃ S, rch n ab S ∧ S.testBit b = true ∧ S.testBit a = false := by
  constructor
  · rintro ⟨o, ho, h⟩
    have hk := ext_ok hn ho
    have hp := permL hk
    obtain ⟨b1, b2⟩ := hp.2 b hb
    refine ⟨st 0 (o.take (pL o b + 1)), (rch_take hn ho (by omega)).1, ?_, ?_⟩
    · rw [tb_st, Nat.zero_testBit, Bool.false_or, decide_eq_true_eq, List.take_succ]
      have : o[pL o b]? = some b := by
        have hl : pL o b < o.length := by rw [hk.1]; exact b1
        rw [List.getElem?_eq_getElem hl]
        have e := b2
        unfold oL at e
        rw [List.getD_eq_getElem?_getD, List.getElem?_eq_getElem hl] at e
        exact congrArg some e
      rw [this]
      simp
    · rw [tb_st, Nat.zero_testBit, Bool.false_or, decide_eq_false_iff_not]
      intro hm
      obtain ⟨i, hi, e⟩ := List.mem_iff_getElem.mp hm
      rw [List.length_take] at hi
      rw [List.getElem_take] at e
      have : pL o a = i := by
        rw [← e]
        have hi2 : i < n := by have := hk.1; omega
        have := (hp.1 i hi2).2
        unfold oL at this
        rw [List.getD_eq_getElem?_getD, List.getElem?_eq_getElem (by have := hk.1; omega)] at this
        exact this
      omega
  · rintro ⟨S, ⟨l, h1, h2, h3⟩, h4, h5⟩
    obtain ⟨o, ho⟩ := List.exists_mem_of_ne_nil _ hE
    obtain ⟨r, hr⟩ := ord_ext hn ho h1 h2
    rw [← h3, tb_st, Nat.zero_testBit, Bool.false_or] at h4 h5
    have hbl : b ∈ l := by simpa using h4
    have hal : a ∉ l := by simpa using h5
    refine ⟨_, hr, ?_⟩
    unfold pL
    rw [idx_app hbl]
    have h6 := idx_app2 (r := r) hal
    have h7 : l.idxOf b < l.length := List.idxOf_lt_length_of_mem hbl
    omega
theorem pL_ne {o : List Nat} (h : okL3 n o) {a b : Nat} (ha : a < n) (hb : b < n) (hab : a ≠ b) : pL o a ≠ pL o b := fun e => hab (by
  have hp := permL h
  rw [← (hp.2 a ha).2, e, (hp.2 b hb).2])
def isBet (n : Nat) (ab : Nat → Nat) (a b : Nat) : Prop := ∀ S, S < 2 ^ n → 0 < way n ab S → S.testBit b = true → S.testBit a = true
theorem rch_lt (hn : n ≤ 8) {S : Nat} (h : rch n ab S) : S < 2 ^ n := by
  obtain ⟨l, h1, h2, h3⟩ := h
  rw [← h3]
  exact (pop_st n ab hn l 0 (Nat.two_pow_pos n) h1 h2).1
theorem isBet_iff (hn : n ≤ 8) (hE : ext n ab n 0 ≠ []) {a b : Nat} (ha : a < n) (hb : b < n) (hab : a ≠ b) : isBet n ab a b ↔ btL (ext n ab n 0) a b = (ext n ab n 0).length := by
  unfold btL
  rw [List.countP_eq_length]
  constructor
  · intro h o ho
    simp only [decide_eq_true_eq]
    by_cases q : pL o a < pL o b
    · exact q
    · exfalso
      have hne := pL_ne (ext_ok hn ho) ha hb hab
      obtain ⟨S, h1, h2, h3⟩ := (bef_iff hn hE ha hb hab).mp ⟨o, ho, by omega⟩
      have := h S (rch_lt hn h1) ((way_pos n ab hn S).mpr h1) h2
      rw [h3] at this
      cases this
  · intro h S _ h2 h3
    by_cases q : S.testBit a = true
    · exact q
    · exfalso
      obtain ⟨o, ho, h4⟩ := (bef_iff hn hE ha hb hab).mpr ⟨S, (way_pos n ab hn S).mp h2, h3, by simpa using q⟩
      have := h o ho
      simp only [decide_eq_true_eq] at this
      omega
theorem isBet_iff0 (hn : n ≤ 8) (hE : ext n ab n 0 ≠ []) {a b : Nat} (ha : a < n) (hb : b < n) (hab : a ≠ b) : isBet n ab b a ↔ btL (ext n ab n 0) a b = 0 := by
  rw [isBet_iff hn hE hb ha (Ne.symm hab)]
  unfold btL
  rw [List.countP_eq_length, List.countP_eq_zero]
  constructor
  · intro h o ho
    have := h o ho
    simp only [decide_eq_true_eq] at this ⊢
    omega
  · intro h o ho
    have := h o ho
    have hne := pL_ne (ext_ok hn ho) ha hb hab
    simp only [decide_eq_true_eq] at this ⊢
    omega
/-! the first order -/
def lsbF : Nat → Nat → Nat
  | 0, _ => 0
  | f + 1, m => if m % 2 = 1 then 0 else 1 + lsbF f (m / 2)
def lsb (m : Nat) : Nat := lsbF 8 m
theorem lsb_0 : ∀ m, m < 256 → m = 0 ∨ (lsb m < 8 ∧ m.testBit (lsb m) = true ∧ nI m &&& -(nI m) = nI (2 ^ lsb m)) := by decide +kernel
theorem lsb_1 : ∀ m, m < 256 → ∀ j, j < 8 → ¬ (j < lsb m) ∨ m.testBit j = false := by decide +kernel
def gre (n : Nat) (ab : Nat → Nat) : Nat → Nat → List Nat
  | 0, _ => []
  | d + 1, S => lsb (msk (fl ab S) n) :: gre n ab d (S ||| 2 ^ lsb (msk (fl ab S) n))
theorem hd_P (n : Nat) (ab : Nat → Nat) (d S p0 : Nat) (h1 : fl ab S p0 = true) (h2 : ∀ j, j < p0 → fl ab S j = false) {x : List Nat} (h3 : (ext n ab d (S ||| 2 ^ p0)).head? = some x) : ∀ q p, p ≤ p0 → p0 < p + q → (extP n ab d S q p).head? = some (p0 :: x)
  | 0, p, h4, h5 => by omega
  | q + 1, p, h4, h5 => by
    rw [extP]
    by_cases e : p = p0
    · subst e
      rw [if_pos h1, List.head?_append, List.head?_map, h3]
      rfl
    · rw [if_neg (by rw [h2 p (by omega)]; decide), List.nil_append]
      exact hd_P n ab d S p0 h1 h2 h3 q (p + 1) (by omega) (by omega)
theorem live_ne (hn : n ≤ 8) (hE : ext n ab n 0 ≠ []) {d S : Nat} (h : rch n ab S) (hd : pop S + d = n) : ext n ab d S ≠ [] := by
  obtain ⟨l, h1, h2, h3⟩ := h
  obtain ⟨o, ho⟩ := List.exists_mem_of_ne_nil _ hE
  obtain ⟨r, hr⟩ := ord_ext hn ho h1 h2
  obtain ⟨a1, a2, a3⟩ := (mem_ext n ab n 0 _).mp hr
  have hl := (pop_st n ab hn l 0 (Nat.two_pow_pos n) h1 h2).2
  rw [h3, pop_0] at hl
  rw [vld_app, h2, Bool.true_and, h3] at a3
  rw [List.length_append] at a1
  have : r ∈ ext n ab d S := (mem_ext n ab d S r).mpr ⟨by omega, fun p hp => a2 p (List.mem_append_right _ hp), a3⟩
  intro e
  rw [e] at this
  cases this
theorem rch_or {S p : Nat} (h : rch n ab S) (hp : p < n) (hf : fl ab S p = true) : rch n ab (S ||| 2 ^ p) := by
  obtain ⟨l, h1, h2, h3⟩ := h
  refine ⟨l ++ [p], fun x hx => ?_, by rw [vld_app, h2, h3]; simp [vld, hf], by rw [st_app, h3]; rfl⟩
  rcases List.mem_append.mp hx with hx | hx
  · exact h1 x hx
  · rw [List.mem_singleton.mp hx]; exact hp
theorem fl_f {S p : Nat} (h : fl ab S p = true) : S.testBit p = false := by simp only [fl, Bool.and_eq_true, Bool.not_eq_true'] at h; exact h.1
theorem low_p (hn : n ≤ 8) {S : Nat} (hm : msk (fl ab S) n ≠ 0) : lsb (msk (fl ab S) n) < n ∧ fl ab S (lsb (msk (fl ab S) n)) = true ∧ ∀ j, j < lsb (msk (fl ab S) n) → fl ab S j = false := by
  have h256 := pow_n hn
  have hlt := msk_lt (fl ab S) n
  obtain ⟨h1, h2, -⟩ := (lsb_0 _ (by omega)).resolve_left hm
  rw [tb_msk] at h2
  simp only [Bool.and_eq_true, decide_eq_true_eq] at h2
  refine ⟨h2.1, h2.2, fun j hj => ?_⟩
  have h3 := (lsb_1 _ (show msk (fl ab S) n < 256 by omega) j (by omega)).resolve_left (fun h => h hj)
  rw [tb_msk, decide_eq_true (show j < n by omega), Bool.true_and] at h3
  exact h3
theorem gre_hd (hn : n ≤ 8) (hE : ext n ab n 0 ≠ []) : ∀ (d S : Nat), rch n ab S → pop S + d = n → (ext n ab d S).head? = some (gre n ab d S) ∧ (0 < d → msk (fl ab S) n ≠ 0) := by
  intro d
  induction d with
  | zero =>
    intro S _ _
    exact ⟨rfl, fun h => absurd h (Nat.lt_irrefl 0)⟩
  | succ d ih =>
    intro S h hd
    have h256 := pow_n hn
    have hS := rch_lt hn h
    have hne := live_ne hn hE h hd
    have hm : msk (fl ab S) n ≠ 0 := by
      intro e
      apply hne
      have hall : ∀ p, p < n → fl ab S p = false := fun p hp => by
        have := tb_msk (fl ab S) n p
        rw [e, Nat.zero_testBit, decide_eq_true hp, Bool.true_and] at this
        exact this.symm
      have hlen : (ext n ab (d + 1) S).length = 0 := by
        rw [ext_len]
        exact su_0 n 0 (fun p _ hp => by show (if fl ab S p = true then _ else 0) = 0; rw [hall p (by omega)]; rfl)
      exact List.length_eq_zero_iff.mp hlen
    obtain ⟨l1, l2, l3⟩ := low_p hn hm
    have hr := rch_or h l1 l2
    have hpop := pop_or0 S (by omega) _ (by omega) (fl_f l2)
    obtain ⟨h3, -⟩ := ih _ hr (by omega)
    refine ⟨?_, fun _ => hm⟩
    rw [ext_P, gre]
    exact hd_P n ab d S _ l2 l3 h3 n 0 (by omega) (by omega)
end FACT
