/-! the search: facts of what is known, and the least cost -/
def OKK (n K : Nat) : Prop := n ≤ 4 ∧ K < 65536 ∧ clB K = true ∧ insB n K = true
theorem tb_rwK (K p i : Nat) : (rwK K p).testBit i = (decide (i < 4) && K.testBit (4 * p + i)) := by
  unfold rwK
  rw [show (15 : Nat) = 2 ^ 4 - 1 from rfl, Nat.testBit_and, Nat.testBit_shiftRight, Nat.testBit_two_pow_sub_one, Bool.and_comm]
theorem ka_wth {K a b c v : Nat} (hc : c < 4) (hv : v < 4) : ka (wth K a b) c v = (ka K c v || ((decide (v = b) || ka K b v) && (decide (c = a) || ka K c a))) := by
  unfold wth
  rw [ka, tb_msk, decide_eq_true (show 4 * v + c < 16 by omega), Bool.true_and, show (4 * v + c) / 4 = v by omega, show (4 * v + c) % 4 = c by omega]
  rfl
theorem wth_lt (K a b : Nat) : wth K a b < 65536 := msk_lt _ 16
section KK
variable {n K : Nat}
theorem OKK.fc (h : OKK n K) : fcB K = true := fc_K h.2.1 h.2.2.1
theorem kk_st (h : OKK n K) : f_X8_stateOf (nI K) = some (nI (stN K)) ∧ stN K < 729 ∧ Kof (stN K) = K ∧ pop K ≤ 6 := by
  have := h.fc
  unfold fcB at this
  simp only [Bool.and_eq_true, decide_eq_true_eq] at this
  exact ⟨this.1.1.1.1.1, this.1.1.1.1.2, this.1.1.1.2, this.1.1.2⟩
theorem kk_with (h : OKK n K) {a b : Nat} (ha : a < n) (hb : b < n) (hab : a ≠ b) (hu : unk K a b = true) : f_X8_with (nI K) (nI a) (nI b) = some (nI (wth K a b)) ∧ OKK n (wth K a b) ∧ pop K < pop (wth K a b) := by
  have h4 := h.1
  have := h.fc
  unfold fcB at this
  simp only [Bool.and_eq_true, decide_eq_true_eq] at this
  have h2 := this.1.2
  simp only [List.all_eq_true, List.mem_range, Bool.or_eq_true, Bool.and_eq_true, Bool.not_eq_true', decide_eq_true_eq] at h2
  rcases h2 a (by omega) b (by omega) with (h3 | h3) | h3
  · exact absurd h3 hab
  · rw [hu] at h3; cases h3
  · refine ⟨h3.1.1, ⟨h4, wth_lt _ _ _, h3.1.2, insB_iff.mpr (fun c v hc hv hk => ?_)⟩, h3.2⟩
    have hi := insB_iff.mp h.2.2.2
    rw [ka_wth hc hv] at hk
    simp only [Bool.or_eq_true, Bool.and_eq_true, decide_eq_true_eq] at hk
    rcases hk with hk | ⟨hk1, hk2⟩
    · exact hi c v hc hv hk
    · constructor
      · rcases hk2 with e | e
        · omega
        · exact (hi c a hc (by omega) e).1
      · rcases hk1 with e | e
        · omega
        · exact (hi b v (by omega) hv e).2
theorem kk_has (h : OKK n K) : 0 < (ext n (rwK K) n 0).length ∧ ((ext n (rwK K) n 0).length ≤ 1 ∨ ∃ a b, a < b ∧ b < n ∧ unk K a b = true) := by
  have h4 := h.1
  have := h.fc
  unfold fcB at this
  simp only [Bool.and_eq_true, decide_eq_true_eq] at this
  have h2 := this.2
  simp only [List.all_eq_true, List.mem_range, Bool.or_eq_true, Bool.and_eq_true, Bool.not_eq_true', decide_eq_true_eq, List.any_eq_true] at h2
  rcases h2 n (by omega) with h3 | ⟨h3, h5⟩
  · rw [h.2.2.2] at h3; cases h3
  · refine ⟨h3, ?_⟩
    rcases h5 with h5 | ⟨a, ha, b, hb, h6, h7⟩
    · exact Or.inl h5
    · exact Or.inr ⟨a, b, h6, hb, h7⟩
theorem cl_above {a b : Nat} (hK : K < 65536) (ha : a < 4) (hb : b < 4) : f_X8_isAbove (nI K) (nI a) (nI b) = some (bb (ka K a b)) := by
  unfold f_X8_isAbove ka
  rw [show (4 : Int32) = nI 4 from rfl, n_mul, n_add, n_b1 (by omega) (by omega)]
  cases K.testBit (4 * b + a) <;> rfl
theorem cl_unk {a b : Nat} (hK : K < 65536) (ha : a < 4) (hb : b < 4) : f_X8_isUnknown (nI K) (nI a) (nI b) = some (bb (unk K a b)) := by
  unfold f_X8_isUnknown unk
  rw [cl_above hK ha hb, bd_s, cl_above hK hb ha, bd_s, ite_bb, ite_bb]
  cases ka K a b <;> cases ka K b a <;> rfl
theorem okA_K (h : OKK n K) : okA n (rwK K) := by
  have h4 := h.1
  refine ⟨by omega, fun p => ?_⟩
  unfold rwK
  have := Nat.and_le_right (n := K >>> (4 * p)) (m := 15)
  omega
theorem unk_sym (a b : Nat) : unk K a b = unk K b a := by unfold unk; rw [Bool.and_comm]
end KK
def cmb (md x y : Nat) : Nat := if md = 0 then max x y else x + y
def rst (n : Nat) (g : Nat → Nat → Nat) : Nat := mi (fun a => mi (g a) (n - (a + 1)) (a + 1)) n 0
def WK (n kn ak md : Nat) : Nat → Nat → Nat
  | 0, _ => 0
  | f + 1, K => if ansN n (rwK K) kn ak ≤ 1 then 0 else (if md = 0 then 1 else (ext n (rwK K) n 0).length) + rst n (fun a b => if unk K a b = true then cmb md (WK n kn ak md f (wth K a b)) (WK n kn ak md f (wth K b a)) else 2147483647)
theorem rst_congr {n : Nat} {g h : Nat → Nat → Nat} (e : ∀ a b, a < b → b < n → g a b = h a b) : rst n g = rst n h := by
  unfold rst
  refine mi_congr n 0 (fun a _ ha => ?_)
  exact mi_congr _ _ (fun b h1 h2 => e a b (by omega) (by omega))
theorem rst_le {n : Nat} {g : Nat → Nat → Nat} {a b : Nat} (h1 : a < b) (h2 : b < n) : rst n g ≤ g a b := by
  unfold rst
  have e1 := mi_le (g := fun a => mi (g a) (n - (a + 1)) (a + 1)) n 0 a (by omega) (by omega)
  have e2 := mi_le (g := g a) (n - (a + 1)) (a + 1) b (by omega) (by omega)
  exact Nat.le_trans e1 e2
section WKS
variable {n kn ak md : Nat}
theorem WK_ind : ∀ (f f2 K : Nat), OKK n K → 7 ≤ f + pop K → 7 ≤ f2 + pop K → WK n kn ak md f K = WK n kn ak md f2 K := by
  intro f
  induction f with
  | zero => intro f2 K h h1 _; have := (kk_st h).2.2.2; omega
  | succ f ih =>
    intro f2 K h h1 h2
    have hp := (kk_st h).2.2.2
    obtain ⟨f2, rfl⟩ : ∃ f3, f2 = f3 + 1 := ⟨f2 - 1, by omega⟩
    rw [WK, WK]
    have e : rst n (fun a b => if unk K a b = true then cmb md (WK n kn ak md f (wth K a b)) (WK n kn ak md f (wth K b a)) else 2147483647) = rst n (fun a b => if unk K a b = true then cmb md (WK n kn ak md f2 (wth K a b)) (WK n kn ak md f2 (wth K b a)) else 2147483647) := rst_congr (fun a b hab hb => by
      by_cases q : unk K a b = true
      · obtain ⟨-, w1, w2⟩ := kk_with h (show a < n by omega) hb (by omega) q
        obtain ⟨-, w3, w4⟩ := kk_with h hb (show a < n by omega) (by omega) (by rw [unk_sym]; exact q)
        rw [if_pos q, if_pos q, ih f2 _ w1 (by omega) (by omega), ih f2 _ w3 (by omega) (by omega)]
      · rw [if_neg q, if_neg q])
    rw [e]
def CK (n kn ak md K : Nat) : Nat := WK n kn ak md 7 K
theorem CK_rec {K : Nat} (h : OKK n K) : CK n kn ak md K = if ansN n (rwK K) kn ak ≤ 1 then 0 else (if md = 0 then 1 else (ext n (rwK K) n 0).length) + rst n (fun a b => if unk K a b = true then cmb md (CK n kn ak md (wth K a b)) (CK n kn ak md (wth K b a)) else 2147483647) := by
  unfold CK
  rw [WK_ind 7 8 K h (by omega) (by omega)]
  rw [WK]
theorem ansN_one {ab : Nat → Nat} (h : (ext n ab n 0).length ≤ 1) : ansN n ab kn ak ≤ 1 := by
  unfold ansN
  split
  · exact h
  · rcases e : ext n ab n 0 with _ | ⟨o, l⟩
    · rw [nCd_0]; omega
    · rw [e] at h
      have : l = [] := by
        rcases l with _ | ⟨x, l⟩
        · rfl
        · simp at h
      subst this
      unfold nCd
      have h1 := su_mono (g := fun c => (sn n kn ak [o] c).toNat) (h := fun c => if c = codeF n kn ak (oL o) then 1 else 0) 256 0 (fun c _ _ => by
        show (sn n kn ak [o] c).toNat ≤ if c = codeF n kn ak (oL o) then 1 else 0
        unfold sn
        by_cases q : c = codeF n kn ak (oL o)
        · rw [if_pos q]; cases ([o].any fun l => decide (codeF n kn ak (oL l) = c)) <;> decide
        · rw [if_neg q]; simp [Ne.symm q])
      by_cases q : codeF n kn ak (oL o) < 256
      · rw [su_one 256 0 (by omega) (by omega)] at h1; exact h1
      · have h0 : su (fun c => if c = codeF n kn ak (oL o) then 1 else 0) 256 0 = 0 := su_0 256 0 (fun c _ hc => by
          show (if c = codeF n kn ak (oL o) then 1 else 0) = 0
          rw [if_neg (by omega)])
        omega
/-- not answered: there is a pair to ask -/
theorem CK_pair {K : Nat} (h : OKK n K) (ha : ¬ ansN n (rwK K) kn ak ≤ 1) : ∃ a b, a < b ∧ b < n ∧ unk K a b = true := by
  rcases (kk_has h).2 with h2 | h2
  · exact absurd (ansN_one h2) ha
  · exact h2
theorem WK_le : ∀ (f K : Nat), OKK n K → WK n kn ak md f K ≤ 24 * (2 ^ f - 1) := by
  intro f
  induction f with
  | zero => intro K _; exact Nat.zero_le _
  | succ f ih =>
    intro K h
    rw [WK]
    by_cases c : ansN n (rwK K) kn ak ≤ 1
    · rw [if_pos c]; exact Nat.zero_le _
    · rw [if_neg c]
      obtain ⟨a, b, h1, h2, h3⟩ := CK_pair h c
      have hr := rst_le (g := fun a b => if unk K a b = true then cmb md (WK n kn ak md f (wth K a b)) (WK n kn ak md f (wth K b a)) else 2147483647) h1 h2
      simp only [h3, if_true] at hr
      obtain ⟨-, w1, -⟩ := kk_with h (show a < n by omega) h2 (by omega) h3
      obtain ⟨-, w3, -⟩ := kk_with h h2 (show a < n by omega) (by omega) (by rw [unk_sym]; exact h3)
      have i1 := ih _ w1
      have i2 := ih _ w3
      have h24 := ext_24 h.1 (rwK K)
      have hp : 2 ^ (f + 1) = 2 * 2 ^ f := by rw [Nat.pow_succ]; omega
      have hq := Nat.two_pow_pos f
      have hc : cmb md (WK n kn ak md f (wth K a b)) (WK n kn ak md f (wth K b a)) ≤ WK n kn ak md f (wth K a b) + WK n kn ak md f (wth K b a) := by unfold cmb; split <;> omega
      have hs : (if md = 0 then 1 else (ext n (rwK K) n 0).length) ≤ 24 := by split <;> omega
      omega
theorem CK_le {K : Nat} (h : OKK n K) : CK n kn ak md K ≤ 3048 := WK_le 7 K h
theorem cmb_le {K a b : Nat} (h : OKK n K) (ha : a < n) (hb : b < n) (hab : a ≠ b) (hu : unk K a b = true) : cmb md (CK n kn ak md (wth K a b)) (CK n kn ak md (wth K b a)) ≤ 6096 := by
  have i1 := CK_le (kn := kn) (ak := ak) (md := md) (kk_with h ha hb hab hu).2.1
  have i2 := CK_le (kn := kn) (ak := ak) (md := md) (kk_with h hb ha (Ne.symm hab) (by rw [unk_sym]; exact hu)).2.1
  unfold cmb
  split <;> omega
end WKS
