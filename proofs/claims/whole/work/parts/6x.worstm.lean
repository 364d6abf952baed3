/-! the search: the model's sets, step by step -/
section MOS
variable {n : Nat} {ab : Nat → Nat} {M : Mem} {kn ak : Nat}
def thP (n : Nat) (ab : Nat → Nat) (V a b i : Nat) : Bool := V.testBit i && decide (pL ((ext n ab n 0).getD i []) a < pL ((ext n ab n 0).getD i []) b)
theorem pL_lt {o : List Nat} (h : okL3 n o) {a : Nat} (ha : a < n) : pL o a < n := ((permL h).2 a ha).1
theorem mo_those_L (hn : n ≤ 4) (hM : MG n ab kn ak M) {V a b : Nat} (hV : V < 2 ^ 24) (ha : a < n) (hb : b < n) : ∀ (r k m : Nat), k + r = (ext n ab n 0).length → r < m → f_X11_those_L6 M m (nI V) (nI a) (nI b) (nI (msk (thP n ab V a b) k)) (nI k) = some (nI (msk (thP n ab V a b) (ext n ab n 0).length))
  | 0, k, m, h, hm => by
    have h24 := ext_24 hn ab
    obtain ⟨m, rfl⟩ : ∃ m2, m = m2 + 1 := ⟨m - 1, by omega⟩
    have : k = (ext n ab n 0).length := by omega
    rw [f_X11_those_L6, hM.2.1, if_pos ((n_le (by omega) (by omega)).mpr (by omega)), this]
  | r + 1, k, m, h, hm => by
    have h24 := ext_24 hn ab
    obtain ⟨m, rfl⟩ : ∃ m2, m = m2 + 1 := ⟨m - 1, by omega⟩
    have ih := mo_those_L hn hM hV ha hb r (k + 1) m (by omega) (by omega)
    obtain ⟨g1, g2⟩ := hM.2.2 k (by omega)
    have ho := (getD_ok (ab := ab) (show n ≤ 8 by omega) (show k < (ext n ab n 0).length by omega)).2
    have l1 := pL_lt ho ha
    have l2 := pL_lt ho hb
    rw [f_X11_those_L6, hM.2.1, if_neg (by rw [n_le (by omega) (by omega)]; omega), n_b1 (by omega) (by omega), show (4 : Int32) = nI 4 from rfl, n_mul, n_add, n_add, ck_t (okI_63 (by omega)), ck_t (okI_63 (by omega)), n_clamp (show 4 * k + a < 2147483648 by omega), n_clamp (show 4 * k + b < 2147483648 by omega), g1 a ha, g1 b hb]
    simp only [bb_1, n_le (show pL ((ext n ab n 0).getD k []) b < 2147483648 by omega) (show pL ((ext n ab n 0).getD k []) a < 2147483648 by omega)]
    unfold f_X11_those_b59 f_X11_those_b60
    rw [n_s1, n_shl1 k (by omega), n_or, lt_e, lt_e, show (0 : Int32) = nI 0 from rfl, n_or, Nat.or_zero]
    rw [msk] at ih
    by_cases c1 : V.testBit k = true
    · rw [if_pos c1]
      by_cases c2 : pL ((ext n ab n 0).getD k []) b ≤ pL ((ext n ab n 0).getD k []) a
      · have hp : ¬ thP n ab V a b k = true := by unfold thP; rw [c1, decide_eq_false (by omega)]; decide
        rw [if_neg hp, Nat.or_zero] at ih
        rw [if_pos c2]
        exact ih
      · have hp : thP n ab V a b k = true := by unfold thP; rw [c1, decide_eq_true (by omega)]; rfl
        rw [if_pos hp] at ih
        rw [if_neg c2]
        exact ih
    · have hp : ¬ thP n ab V a b k = true := by unfold thP; rw [show V.testBit k = false by simpa using c1]; simp
      rw [if_neg hp, Nat.or_zero] at ih
      rw [if_neg c1]
      exact ih
theorem mo_those (hn : n ≤ 4) (hM : MG n ab kn ak M) {V a b : Nat} (hV : V < 2 ^ 24) (ha : a < n) (hb : b < n) : f_X11_those (nI V) (nI a) (nI b) M = some (nI (msk (thP n ab V a b) (ext n ab n 0).length)) := by
  have h24 := ext_24 hn ab
  exact mo_those_L hn hM hV ha hb (ext n ab n 0).length 0 FU (by omega) (by unfold FU; omega)
theorem th_K (hn : n ≤ 4) {K a b : Nat} (h : OKK n K) (ha : a < n) (hb : b < n) (hab : a ≠ b) : (unk K a b = true → msk (thP n ab (VK n ab K) a b) (ext n ab n 0).length = VK n ab (wth K a b) ∧ VK n ab K ^^^ (VK n ab K &&& VK n ab (wth K a b)) = VK n ab (wth K b a)) ∧ (ka K a b = true → msk (thP n ab (VK n ab K) a b) (ext n ab n 0).length = VK n ab K) ∧ (ka K b a = true → msk (thP n ab (VK n ab K) a b) (ext n ab n 0).length = 0) := by
  have key : ∀ i, i < (ext n ab n 0).length → (vld (rwK K) 0 ((ext n ab n 0).getD i []) = true ↔ (ext n ab n 0).getD i [] ∈ ext n (rwK K) n 0) := fun i hi => mem_vld (by omega) (getD_ok (by omega) hi).2
  refine ⟨fun hu => ?_, fun hk => ?_, fun hk => ?_⟩
  · have hu2 : unk K b a = true := by rw [unk_sym]; exact hu
    have w1 : ∀ i, i < (ext n ab n 0).length → (vld (rwK (wth K a b)) 0 ((ext n ab n 0).getD i []) = true ↔ (vld (rwK K) 0 ((ext n ab n 0).getD i []) = true ∧ pL ((ext n ab n 0).getD i []) a < pL ((ext n ab n 0).getD i []) b)) := fun i hi => by
      have ho := (getD_ok (ab := ab) (show n ≤ 8 by omega) hi).2
      rw [mem_vld (by omega) ho, ord_wth h ha hb hab hu ho, key i hi]
    have w2 : ∀ i, i < (ext n ab n 0).length → (vld (rwK (wth K b a)) 0 ((ext n ab n 0).getD i []) = true ↔ (vld (rwK K) 0 ((ext n ab n 0).getD i []) = true ∧ pL ((ext n ab n 0).getD i []) b < pL ((ext n ab n 0).getD i []) a)) := fun i hi => by
      have ho := (getD_ok (ab := ab) (show n ≤ 8 by omega) hi).2
      rw [mem_vld (by omega) ho, ord_wth h hb ha (Ne.symm hab) hu2 ho, key i hi]
    constructor
    · apply Nat.eq_of_testBit_eq
      intro i
      rw [tb_msk, tb_VK]
      by_cases hi : i < (ext n ab n 0).length
      · rw [decide_eq_true hi, Bool.true_and, Bool.true_and, Bool.eq_iff_iff, w1 i hi]
        unfold thP
        rw [tb_VK, decide_eq_true hi, Bool.true_and, Bool.and_eq_true, decide_eq_true_eq]
      · rw [decide_eq_false hi]; rfl
    · apply Nat.eq_of_testBit_eq
      intro i
      rw [tb_diff, tb_VK, tb_VK, tb_VK]
      by_cases hi : i < (ext n ab n 0).length
      · have ho := (getD_ok (ab := ab) (show n ≤ 8 by omega) hi).2
        have hne := pL_ne ho ha hb hab
        rw [decide_eq_true hi, Bool.true_and, Bool.true_and, Bool.true_and, Bool.eq_iff_iff, w2 i hi, Bool.and_eq_true, Bool.not_eq_true']
        constructor
        · rintro ⟨a1, a2⟩
          refine ⟨a1, ?_⟩
          have : ¬ (vld (rwK (wth K a b)) 0 ((ext n ab n 0).getD i []) = true) := by rw [a2]; decide
          rw [w1 i hi] at this
          have : ¬ pL ((ext n ab n 0).getD i []) a < pL ((ext n ab n 0).getD i []) b := fun h3 => this ⟨a1, h3⟩
          omega
        · rintro ⟨a1, a2⟩
          refine ⟨a1, ?_⟩
          cases e : vld (rwK (wth K a b)) 0 ((ext n ab n 0).getD i [])
          · rfl
          · have := ((w1 i hi).mp e).2; omega
      · rw [decide_eq_false hi]; rfl
  · apply Nat.eq_of_testBit_eq
    intro i
    rw [tb_msk, tb_VK]
    by_cases hi : i < (ext n ab n 0).length
    · have ho := (getD_ok (ab := ab) (show n ≤ 8 by omega) hi).2
      rw [decide_eq_true hi, Bool.true_and, Bool.true_and]
      unfold thP
      rw [tb_VK, decide_eq_true hi, Bool.true_and]
      cases e : vld (rwK K) 0 ((ext n ab n 0).getD i [])
      · rfl
      · rw [Bool.true_and]
        exact decide_eq_true ((ord_K h ho).mp ((key i hi).mp e) a b ha hb hk)
    · rw [decide_eq_false hi]; rfl
  · apply Nat.eq_of_testBit_eq
    intro i
    rw [tb_msk, Nat.zero_testBit]
    by_cases hi : i < (ext n ab n 0).length
    · have ho := (getD_ok (ab := ab) (show n ≤ 8 by omega) hi).2
      rw [decide_eq_true hi, Bool.true_and]
      unfold thP
      rw [tb_VK, decide_eq_true hi, Bool.true_and]
      cases e : vld (rwK K) 0 ((ext n ab n 0).getD i [])
      · rfl
      · rw [Bool.true_and]
        have := (ord_K h ho).mp ((key i hi).mp e) b a hb ha hk
        exact decide_eq_false (by omega)
    · rw [decide_eq_false hi]; rfl
theorem sup_wth {K a b : Nat} (h : OKK n K) (hs : sup ab K) : sup ab (wth K a b) := fun p i hi => by
  have := hs p i hi
  rw [tb_rwK, Bool.and_eq_true, decide_eq_true_eq] at this ⊢
  refine ⟨this.1, ?_⟩
  have hp : p < 4 := by
    by_cases q : p < 4
    · exact q
    · rw [tb_st8 (n := 16) h.2.1 (show 16 ≤ 4 * p + i by omega)] at this
      exact absurd this.2 (by decide)
  have e := ka_wth (K := K) (a := a) (b := b) (c := i) (v := p) this.1 hp
  unfold ka at e
  rw [e, this.2]; rfl
def cdV (n : Nat) (ab : Nat → Nat) (kn ak i : Nat) : Nat := if kn = 4 then i else codeF n kn ak (oL ((ext n ab n 0).getD i []))
theorem mo_an_L (hn : n ≤ 4) (hQ : okQ n kn ak) (hM : MG n ab kn ak M) {V : Nat} (hV : V < 2 ^ 24) : ∀ (r k m : Nat) (v2 : Int32), k + r = (ext n ab n 0).length → r < m → ((v2 = -1 ∧ ∀ i, i < k → V.testBit i = false) ∨ ∃ j, j < k ∧ V.testBit j = true ∧ v2 = nI (cdV n ab kn ak j) ∧ ∀ i, i < k → V.testBit i = true → cdV n ab kn ak i = cdV n ab kn ak j) → ∃ x : Bool, f_X11_isAnswered_L4 M m (nI V) v2 (nI k) = some (bb x) ∧ (x = true ↔ ∀ i j, i < (ext n ab n 0).length → j < (ext n ab n 0).length → V.testBit i = true → V.testBit j = true → cdV n ab kn ak i = cdV n ab kn ak j)
  | 0, k, m, v2, h, hm, hv => by
    have h24 := ext_24 hn ab
    obtain ⟨m, rfl⟩ : ∃ m2, m = m2 + 1 := ⟨m - 1, by omega⟩
    rw [f_X11_isAnswered_L4, hM.2.1, if_pos ((n_le (by omega) (by omega)).mpr (by omega))]
    refine ⟨true, rfl, fun _ i j hi hj h1 h2 => ?_, fun _ => rfl⟩
    rcases hv with ⟨-, hv⟩ | ⟨j0, -, -, -, hv⟩
    · rw [hv i (by omega)] at h1; cases h1
    · rw [hv i (by omega) h1, hv j (by omega) h2]
  | r + 1, k, m, v2, h, hm, hv => by
    have h24 := ext_24 hn ab
    obtain ⟨m, rfl⟩ : ∃ m2, m = m2 + 1 := ⟨m - 1, by omega⟩
    obtain ⟨g1, g2⟩ := hM.2.2 k (by omega)
    have cl : ∀ i, i < (ext n ab n 0).length → cdV n ab kn ak i < 256 := fun i hi => by
      unfold cdV
      split
      · omega
      · exact codeF_lt hQ (fun k hk => ((permL (getD_ok (ab := ab) (show n ≤ 8 by omega) hi).2).1 k hk).1)
    have g2' : M.1 64 k = nI (cdV n ab kn ak k) := g2
    have ck := cl k (by omega)
    rw [f_X11_isAnswered_L4, hM.2.1, if_neg (by rw [n_le (by omega) (by omega)]; omega), n_b1 (by omega) (by omega), ite_bb, ck_t (okI_64 (by omega)), n_clamp (by omega), g2']
    unfold f_X11_isAnswered_b39 f_X11_isAnswered_b46
    rw [n_s1, ck_t (okI_64 (by omega)), lt_e, n_clamp (by omega), g2']
    by_cases c1 : V.testBit k = true
    · rw [if_pos c1]
      rcases hv with ⟨e, hv⟩ | ⟨j, hj, j1, j2, j3⟩
      · rw [if_pos (by rw [e]; decide)]
        refine mo_an_L hn hQ hM hV r (k + 1) m _ (by omega) (by omega) (Or.inr ⟨k, by omega, c1, rfl, fun i hi h1 => ?_⟩)
        by_cases q : i = k
        · rw [q]
        · rw [hv i (by omega)] at h1; cases h1
      · have cj := cl j (by omega)
        have e1 : (nI (cdV n ab kn ak k) = nI (cdV n ab kn ak j)) = (cdV n ab kn ak k = cdV n ab kn ak j) := propext (n_eq (by omega) (by omega))
        rw [j2, if_neg (by rw [show (0 : Int32) = nI 0 from rfl, n_lt (by omega) (by omega)]; omega)]
        simp only [e1]
        by_cases c2 : cdV n ab kn ak k = cdV n ab kn ak j
        · rw [if_pos c2]
          refine mo_an_L hn hQ hM hV r (k + 1) m _ (by omega) (by omega) (Or.inr ⟨k, by omega, c1, rfl, fun i hi h1 => ?_⟩)
          by_cases q : i = k
          · rw [q]
          · rw [j3 i (by omega) h1, c2]
        · rw [if_neg c2]
          exact ⟨false, rfl, fun h => (by cases h), fun h => absurd (h k j (by omega) (by omega) c1 j1) c2⟩
    · rw [if_neg c1]
      have c1' : V.testBit k = false := by simpa using c1
      refine mo_an_L hn hQ hM hV r (k + 1) m _ (by omega) (by omega) ?_
      rcases hv with ⟨e, hv⟩ | ⟨j, hj, j1, j2, j3⟩
      · refine Or.inl ⟨e, fun i hi => ?_⟩
        by_cases q : i = k
        · rw [q]; exact c1'
        · exact hv i (by omega)
      · refine Or.inr ⟨j, by omega, j1, j2, fun i hi h1 => ?_⟩
        by_cases q : i = k
        · rw [q, c1'] at h1; cases h1
        · exact j3 i (by omega) h1
theorem mo_an (hn : n ≤ 4) (hQ : okQ n kn ak) (hM : MG n ab kn ak M) {K : Nat} (hs : sup ab K) : f_X11_isAnswered (nI (VK n ab K)) M = some (bb (decide (ansN n (rwK K) kn ak ≤ 1))) := by
  have h24 := ext_24 hn ab
  obtain ⟨x, fx, hx⟩ := mo_an_L hn hQ hM (VK_lt hn K) (ext n ab n 0).length 0 FU (-1) (by omega) (by unfold FU; omega) (Or.inl ⟨rfl, fun i hi => by omega⟩)
  have fx' : f_X11_isAnswered (nI (VK n ab K)) M = some (bb x) := fx
  rw [fx']
  have := (VK_ans hn hQ hs).trans hx.symm
  by_cases c : ansN n (rwK K) kn ak ≤ 1
  · rw [decide_eq_true c, this.mp c]
  · rw [decide_eq_false c]
    cases x
    · rfl
    · exact absurd (this.mpr rfl) c
end MOS
