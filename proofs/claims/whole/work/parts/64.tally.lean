/-! orders: the class takes matches, and tallies -/
def CO (n : Nat) (ab : Nat → Nat) (M : Mem) : Prop := M.1 11 0 = nI n ∧ M.1 11 2 = nI (2 ^ n - 1) ∧ ∀ p, p < 8 → M.1 12 p = nI (ab p)
def okA (n : Nat) (ab : Nat → Nat) : Prop := n ≤ 8 ∧ ∀ p, ab p < 256
section PT
variable (n : Nat) (ab : Nat → Nat)
def pc (s p T q : Nat) : Bool := T.testBit q && fl ab (T ^^^ 2 ^ q) q && decide (T ^^^ 2 ^ q < s ∨ (T ^^^ 2 ^ q = s ∧ q < p))
def pt (s p T : Nat) : Nat := if T = 0 then 1 else su (fun q => if pc ab s p T q = true then way n ab (T ^^^ 2 ^ q) else 0) n 0
theorem xor_lt {T q : Nat} (h : T.testBit q = true) : T ^^^ 2 ^ q < T := by
  have h1 : (T ^^^ 2 ^ q) &&& T = T ^^^ 2 ^ q := by
    apply Nat.eq_of_testBit_eq
    intro i
    rw [Nat.testBit_and, Nat.testBit_xor, Nat.testBit_two_pow]
    by_cases e : q = i
    · subst e; simp [h]
    · simp [e]
  have h2 : (T ^^^ 2 ^ q) &&& T ≤ T := Nat.and_le_right
  have h3 : ¬ T ^^^ 2 ^ q = T := fun e => by
    have := congrArg (fun x => x.testBit q) e
    simp only [Nat.testBit_xor, Nat.testBit_two_pow, h] at this
    simp at this
  omega
theorem pt_0 (T : Nat) : pt n ab 0 0 T = if T = 0 then 1 else 0 := by
  unfold pt
  split
  · rfl
  · refine su_0 n 0 (fun i _ _ => ?_)
    show (if pc ab 0 0 T i = true then way n ab (T ^^^ 2 ^ i) else 0) = 0
    rw [if_neg]
    unfold pc
    rw [decide_eq_false (by omega)]
    simp
theorem pt_fin (hn : n ≤ 8) {T s p : Nat} (hT : T < 2 ^ n) (h : T ≤ s) : pt n ab s p T = way n ab T := by
  unfold pt
  by_cases q : T = 0
  · rw [if_pos q, q, way_0]
  · rw [if_neg q, way_rec n ab hn hT q]
    refine su_congr n 0 (fun i _ _ => ?_)
    unfold pc
    by_cases e : T.testBit i = true
    · have := xor_lt e
      rw [decide_eq_true (Or.inl (by omega)), Bool.and_true]
    · rw [Bool.eq_false_iff.mpr e]; rfl
theorem pt_next (s T : Nat) : pt n ab s n T = pt n ab (s + 1) 0 T := by
  unfold pt
  split
  · rfl
  · refine su_congr n 0 (fun i _ hi => ?_)
    have : pc ab s n T i = pc ab (s + 1) 0 T i := by
      unfold pc
      congr 2
      apply propext
      omega
    rw [this]
theorem pt_step {s p : Nat} (hp : p < n) (T : Nat) : pt n ab s (p + 1) T = pt n ab s p T + (if (fl ab s p && decide (s ||| 2 ^ p = T)) = true then way n ab s else 0) := by
  unfold pt
  by_cases h0 : T = 0
  · rw [if_pos h0, if_pos h0, if_neg]
    rw [h0]
    have : ¬ s ||| 2 ^ p = 0 := fun e => by
      have := congrArg (fun x => x.testBit p) e
      simp [tb_or] at this
    simp [this]
  · rw [if_neg h0, if_neg h0]
    have e := su_one (p := p) (x := if (fl ab s p && decide (s ||| 2 ^ p = T)) = true then way n ab s else 0) n 0 (by omega) (by omega)
    rw [← e, ← su_add]
    refine su_congr n 0 (fun q _ hq => ?_)
    by_cases hqp : q = p
    · subst hqp
      rw [if_pos rfl, fl_or]
      unfold pc
      by_cases c : (T.testBit q && fl ab (T ^^^ 2 ^ q) q) = true
      · rw [c]
        by_cases c1 : T ^^^ 2 ^ q < s
        · rw [decide_eq_true (Or.inl c1), decide_eq_true (Or.inl c1), decide_eq_false (show ¬ s = T ^^^ 2 ^ q by omega)]
          simp
        · by_cases c2 : s = T ^^^ 2 ^ q
          · rw [decide_eq_true (show T ^^^ 2 ^ q < s ∨ (T ^^^ 2 ^ q = s ∧ q < q + 1) from Or.inr ⟨c2.symm, by omega⟩), decide_eq_false (show ¬ (T ^^^ 2 ^ q < s ∨ (T ^^^ 2 ^ q = s ∧ q < q)) by omega), decide_eq_true c2]
            simp [← c2]
          · rw [decide_eq_false (show ¬ (T ^^^ 2 ^ q < s ∨ (T ^^^ 2 ^ q = s ∧ q < q + 1)) by omega), decide_eq_false (show ¬ (T ^^^ 2 ^ q < s ∨ (T ^^^ 2 ^ q = s ∧ q < q)) by omega), decide_eq_false c2]
            simp
      · rw [Bool.eq_false_iff.mpr c]
        simp
    · rw [if_neg hqp]
      have : pc ab s (p + 1) T q = pc ab s p T q := by
        unfold pc
        congr 2
        apply propext
        omega
      rw [this, Nat.add_zero]
theorem pt_skip {s : Nat} (h : ∀ q, q < n → fl ab s q = false ∨ way n ab s = 0) (T : Nat) : ∀ r p, p + r = n → pt n ab s p T = pt n ab (s + 1) 0 T
  | 0, p, e => by
    have : p = n := by omega
    subst this
    exact pt_next _ ab s T
  | r + 1, p, e => by
    rw [← pt_skip h T r (p + 1) (by omega), pt_step n ab (by omega)]
    have : (if (fl ab s p && decide (s ||| 2 ^ p = T)) = true then way n ab s else 0) = 0 := by
      rcases h p (by omega) with q | q
      · rw [q]; rfl
      · rw [q, ite_self]
    omega
end PT
section TAL
variable {n : Nat} {ab : Nat → Nat} {M : Mem}
theorem s_foll_L (hA : okA n ab) (hC : CO n ab M) {S : Nat} (hS : S < 256) : ∀ (k p m : Nat), p + k = n → k < m → f_X7_followers_11_L4 M m (nI S) (nI (msk (fl ab S) p)) (nI p) = some (nI (msk (fl ab S) n))
  | 0, p, m, h, hm => by
    have h8 := hA.1
    obtain ⟨m, rfl⟩ : ∃ m2, m = m2 + 1 := ⟨m - 1, by omega⟩
    have : p = n := by omega
    subst this
    rw [f_X7_followers_11_L4, hC.1, if_pos (by rw [i_le]; omega)]
  | k + 1, p, m, h, hm => by
    have h8 := hA.1
    obtain ⟨m, rfl⟩ : ∃ m2, m = m2 + 1 := ⟨m - 1, by omega⟩
    have ha := hA.2 p
    have ih := s_foll_L hA hC hS k (p + 1) m (by omega) (by omega)
    rw [msk] at ih
    rw [f_X7_followers_11_L4, hC.1, if_neg (by rw [n_le (by omega) (by omega)]; omega), n_b1 (by omega) (by omega), ck_t (okI_12 (by omega)), n_clamp (by omega), hC.2.2 p (by omega), n_shl1 p (by omega), n_or, lt_e]
    simp only [bb_0, n_sub0 (show ab p < 2147483648 by omega)]
    unfold f_X7_followers_11_b39
    rw [n_s1]
    by_cases q1 : S.testBit p = false
    · rw [if_pos q1]
      by_cases q2 : ab p &&& S = ab p
      · have : fl ab S p = true := by simp [fl, q1, q2]
        rw [if_pos this] at ih
        rw [if_pos q2]
        exact ih
      · have : ¬ fl ab S p = true := by simp [fl, q2]
        rw [if_neg this, Nat.or_zero] at ih
        rw [if_neg q2]
        exact ih
    · have : ¬ fl ab S p = true := by simp [fl, q1]
      rw [if_neg this, Nat.or_zero] at ih
      rw [if_neg q1]
      exact ih
theorem s_foll (hA : okA n ab) (hC : CO n ab M) {S : Nat} (hS : S < 256) : f_X7_followers_11 (nI S) M = some (nI (msk (fl ab S) n)) := by
  have := hA.1
  exact s_foll_L hA hC hS n 0 FU (by omega) (by unfold FU; omega)
theorem msk_8 (hA : okA n ab) (P : Nat → Bool) : msk P n < 256 := by
  have h1 := msk_lt P n
  have h2 := pow_n hA.1
  omega
theorem cl_tal_i {k24 : Int32 → Mem → Option Mem} (hA : okA n ab) {s : Nat} (hs : s < 2 ^ n) : ∀ (r p m : Nat) (M : Mem), p + r = n → r < m → CO n ab M → (∀ T, T < 2 ^ n → M.1 13 T = nI (pt n ab s p T)) → ∃ M1, f_X7_tally_11_L53 k24 m (nI s) (nI (msk (fl ab s) n)) (nI p) M = k24 (nI (s + 1)) M1 ∧ CO n ab M1 ∧ ∀ T, T < 2 ^ n → M1.1 13 T = nI (pt n ab (s + 1) 0 T)
  | 0, p, m, M, h, hm, hC, hT => by
    have h8 := hA.1
    obtain ⟨m, rfl⟩ : ∃ m2, m = m2 + 1 := ⟨m - 1, by omega⟩
    have : p = n := by omega
    subst this
    rw [f_X7_tally_11_L53, hC.1, if_pos (by rw [i_le]; omega)]
    unfold f_X7_tally_11_b99
    rw [n_s1]
    exact ⟨M, rfl, hC, fun T h => by rw [← pt_next]; exact hT T h⟩
  | r + 1, p, m, M, h, hm, hC, hT => by
    have h8 := hA.1
    have h256 := pow_n hA.1
    obtain ⟨m, rfl⟩ : ∃ m2, m = m2 + 1 := ⟨m - 1, by omega⟩
    have hm8 := msk_8 hA (fl ab s)
    have e0 : (nI (msk (fl ab s) n) = 0) = (msk (fl ab s) n = 0) := propext (n_eq (b := 0) (by omega) (by omega))
    rw [f_X7_tally_11_L53, hC.1, if_neg (by rw [n_le (by omega) (by omega)]; omega), n_b1 (by omega) (by omega), tb_msk, decide_eq_true (show p < n by omega), Bool.true_and]
    simp only [e0, bb_1]
    unfold f_X7_tally_11_b99 f_X7_tally_11_b93
    rw [n_s1, n_s1]
    by_cases q0 : msk (fl ab s) n = 0
    · rw [if_pos q0]
      refine ⟨M, rfl, hC, fun T h2 => ?_⟩
      rw [hT T h2, pt_skip n ab (fun q hq => Or.inl ?_) T (r + 1) p h]
      have := tb_msk (fl ab s) n q
      rw [q0, Nat.zero_testBit, decide_eq_true hq, Bool.true_and] at this
      exact this.symm
    · rw [if_neg q0]
      by_cases q1 : fl ab s p = true
      · have hlt : s ||| 2 ^ p < 2 ^ n := or_lt hs (by omega)
        rw [if_pos q1, n_shl1 p (by omega), n_or, ck_t (okI_13 (by omega)), ck_t (okI_13 (by omega)), ck_t (okI_13 (by omega)), lt_e, n_clamp (by omega), n_clamp (by omega), hT _ hlt, hT s hs, n_add]
        refine cl_tal_i hA hs r (p + 1) m _ (by omega) (by omega) ⟨by simp [wI_rd, hC.1], by simp [wI_rd, hC.2.1], fun q hq => by simp [wI_rd, hC.2.2 q hq]⟩ (fun T h2 => ?_)
        rw [pt_step n ab (by omega), pt_fin n ab hA.1 hs (Nat.le_refl _), q1, Bool.true_and, wI_rd]
        by_cases e : T = s ||| 2 ^ p
        · rw [if_pos ⟨rfl, e⟩, ← e, decide_eq_true rfl, if_pos rfl]
        · rw [if_neg (fun h => e h.2), decide_eq_false (fun h => e h.symm), if_neg (by decide), Nat.add_zero, hT T h2]
      · rw [if_neg q1]
        refine cl_tal_i hA hs r (p + 1) m M (by omega) (by omega) hC (fun T h2 => ?_)
        rw [pt_step n ab (by omega), Bool.eq_false_iff.mpr q1, Bool.false_and, if_neg (by decide), Nat.add_zero, hT T h2]
def TL (n : Nat) (ab : Nat → Nat) (M : Mem) : Prop := CO n ab M ∧ ∀ S, S < 2 ^ n → M.1 13 S = nI (way n ab S)
theorem cl_tal_o (hA : okA n ab) : ∀ (r s m : Nat) (M : Mem), s + r = 2 ^ n - 1 → r < m → CO n ab M → (∀ T, T < 2 ^ n → M.1 13 T = nI (pt n ab s 0 T)) → ∃ M1, f_X7_tally_11_L24 m (nI s) M = some M1 ∧ TL n ab M1
  | 0, s, m, M, h, hm, hC, hT => by
    have h256 := pow_n hA.1
    have hp := Nat.two_pow_pos n
    obtain ⟨m, rfl⟩ : ∃ m2, m = m2 + 1 := ⟨m - 1, by omega⟩
    rw [f_X7_tally_11_L24, hC.2.1, if_pos ((n_le (by omega) (by omega)).mpr (by omega))]
    exact ⟨M, rfl, hC, fun T h2 => by rw [hT T h2, pt_fin n ab hA.1 h2 (by omega)]⟩
  | r + 1, s, m, M, h, hm, hC, hT => by
    have h8 := hA.1
    have h256 := pow_n hA.1
    have hp := Nat.two_pow_pos n
    obtain ⟨m, rfl⟩ : ∃ m2, m = m2 + 1 := ⟨m - 1, by omega⟩
    have hs : s < 2 ^ n := by omega
    have hw := way_le n ab hA.1 hs
    rw [f_X7_tally_11_L24, hC.2.1, if_neg (by rw [n_le (by omega) (by omega)]; omega), ck_t (okI_13 (by omega)), n_clamp (by omega), hT s hs, pt_fin n ab hA.1 hs (Nat.le_refl _), s_foll hA hC (by omega), bd_s]
    unfold f_X7_tally_11_b50
    have e0 : (nI (way n ab s) ≤ 0) = (way n ab s ≤ 0) := propext (n_le (b := 0) (by omega) (by omega))
    simp only [e0]
    by_cases q : way n ab s ≤ 0
    · rw [if_pos q]
      have hk : f_X7_tally_11_L53 (fun a0 a1 => f_X7_tally_11_L24 m a0 a1) FU (nI s) 0 0 M = f_X7_tally_11_L24 m (nI (s + 1)) M := by
        show f_X7_tally_11_L53 (fun a0 a1 => f_X7_tally_11_L24 m a0 a1) (4999 + 1) (nI s) 0 0 M = _
        rw [f_X7_tally_11_L53, if_pos (show (0 : Int32) = 0 from rfl), ite_self]
        unfold f_X7_tally_11_b99
        rw [n_s1]
      rw [hk]
      exact cl_tal_o hA r (s + 1) m M (by omega) (by omega) hC (fun T h2 => by rw [hT T h2, pt_skip n ab (fun q _ => Or.inr (by omega)) T n 0 (by omega)])
    · rw [if_neg q]
      obtain ⟨M1, f1, c1, t1⟩ := cl_tal_i (k24 := fun a0 a1 => f_X7_tally_11_L24 m a0 a1) hA hs n 0 FU M (by omega) (by unfold FU; omega) hC hT
      have f1' : f_X7_tally_11_L53 (fun a0 a1 => f_X7_tally_11_L24 m a0 a1) FU (nI s) (nI (msk (fl ab s) n)) 0 M = _ := f1
      rw [f1']
      exact cl_tal_o hA r (s + 1) m M1 (by omega) (by omega) c1 t1
theorem cl_tally (hA : okA n ab) (hC : CO n ab M) : ∃ M1, f_X7_tally_11 M = some M1 ∧ TL n ab M1 := by
  have h256 := pow_n hA.1
  have hp := Nat.two_pow_pos n
  unfold f_X7_tally_11
  have e1 : nI (2 ^ n - 1) + 1 = nI (2 ^ n) := by rw [n_s1, Nat.sub_add_cancel (by omega)]
  have hf := s_fillI (M := M) (c := 13) (lo := 0) (hi := 2 ^ n) (v := 0) rfl (show 2 ^ n ≤ 256 from h256) (by decide) (by omega)
  have hf' : f_J7_fill_fda19 13 0 (nI (2 ^ n)) 0 M = _ := hf
  rw [hC.2.1, e1, hf', bd_s, ck_t (by decide), lt_e]
  refine cl_tal_o hA (2 ^ n - 1) 0 FU _ (by omega) (by unfold FU; omega) ⟨by simp [wI_rd, fiI_rd, hC.1], by simp [wI_rd, fiI_rd, hC.2.1], fun q hq => by simp [wI_rd, fiI_rd, hC.2.2 q hq]⟩ (fun T h2 => ?_)
  rw [wI_rd, fiI_rd, pt_0, show (0 : Int32).toNatClampNeg = 0 from rfl]
  by_cases q : T = 0
  · rw [if_pos ⟨rfl, q⟩, if_pos q]; rfl
  · rw [if_neg (fun h => q h.2), if_pos ⟨rfl, by omega, h2⟩, if_neg q]; rfl
end TAL
