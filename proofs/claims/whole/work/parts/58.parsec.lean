/-! the class reads the law's text -/
def flI : Option Nat → Int32
  | none => -1
  | some f => nI f
def StL (D : Nat) (dl : LwL) (M : Mem) : Prop := ∀ (j : Nat) (x : Nat × Int32), dl[j]? = some x → M.1 D (2 * j) = nI x.1 ∧ M.1 D (2 * j + 1) = x.2
def sgI (c : Nat) : Int32 := if c = 999 then -1 else nI c
def okTx (tp : Nat → Nat) (n : Nat) : Prop := n ≤ 120 ∧ ∀ j, j < n → tp j ≤ 255
def CSt (tp : Nat → Nat) (n D E : Nat) (F : Nat → Int32) (s : LwS) (dl : LwL) (M : Mem) : Prop := M.1 22 0 = nI n ∧ (∀ j, j < n → M.1 23 j = nI (tp j)) ∧ M.1 22 2 = nI s.1 ∧ M.1 22 3 = flI s.2 ∧ M.1 22 5 = nI dl.length ∧ M.2.2 22 4 = D ∧ StL D dl M ∧ (∀ j, M.1 E j = F j) ∧ (∀ f, s.2 = some f → f ≤ n)
def okDE (D E : Nat) : Prop := (D = 24 ∧ E = 25) ∨ (D = 25 ∧ E = 24)
def ClP (tp : Nat → Nat) (n D E : Nat) (F : Nat → Int32) (f : Mem → Option Mem) (P : LwS → LwS × LwL) : Prop := ∀ (s : LwS) (dl : LwL) (M : Mem), s.1 ≤ n → dl.length ≤ s.1 → CSt tp n D E F s dl M → ∃ M2, f M = some M2 ∧ CSt tp n D E F (P s).1 (dl ++ (P s).2) M2
section CLAW
variable {tp : Nat → Nat} {n D E : Nat} {F : Nat → Int32} {s : LwS} {dl : LwL} {M : Mem}
theorem lch_b (hT : okTx tp n) (s : LwS) : lch tp n s ≤ 255 ∨ lch tp n s = 999 := by
  unfold lch
  by_cases q : s.2 = none ∧ s.1 < n
  · rw [if_pos q]; exact Or.inl (hT.2 _ q.2)
  · rw [if_neg q]; exact Or.inr rfl
theorem sgI_eq {c k : Nat} (hc : c ≤ 255 ∨ c = 999) (hk : k ≤ 255) : (sgI c = nI k) = (c = k) := by
  apply propext
  unfold sgI
  by_cases q : c = 999
  · rw [if_pos q]
    constructor
    · intro h
      have := congrArg Int32.toInt h
      rw [n_toInt (by omega)] at this
      have e : (-1 : Int32).toInt = -1 := rfl
      omega
    · intro h; omega
  · rw [if_neg q]
    exact n_eq (by omega) (by omega)
theorem flI_neg {f : Option Nat} (h : ∀ x, f = some x → x ≤ 200) : (0 ≤ flI f) = (¬ f = none) := by
  apply propext
  cases f with
  | none => simp only [flI, not_true_eq_false, iff_false]; decide
  | some x =>
    have := h x rfl
    simp only [flI]
    constructor
    · intro _ q; cases q
    · intro _; exact nI_pos' (by omega)
theorem CSt.fl (hT : okTx tp n) (h : CSt tp n D E F s dl M) : (0 ≤ M.1 22 3) = (¬ s.2 = none) := by
  rw [h.2.2.2.1]
  exact flI_neg (fun x q => by have := h.2.2.2.2.2.2.2.2 x q; have := hT.1; omega)
theorem cs_sign (hT : okTx tp n) (h : CSt tp n D E F s dl M) (hs : s.1 ≤ n) : f_X5_sign M = some (sgI (lch tp n s)) := by
  have h1 := hT.1
  unfold f_X5_sign
  simp only [h.fl hT]
  by_cases q : s.2 = none
  · rw [if_neg (by simpa using q), h.1, h.2.2.1]
    simp only [n_le (show n < 2147483648 by omega) (show s.1 < 2147483648 by omega)]
    by_cases q2 : n ≤ s.1
    · have e : lch tp n s = 999 := by unfold lch; rw [if_neg (by omega)]
      rw [if_pos q2, e]; rfl
    · have := hT.2 s.1 (by omega)
      have e : lch tp n s = tp s.1 := by unfold lch; rw [if_pos ⟨q, by omega⟩]
      rw [if_neg q2, e, ck_t (okI_23 (by omega)), n_clamp (by omega), h.2.1 s.1 (by omega)]
      unfold sgI
      rw [if_neg (by omega)]
  · have e : lch tp n s = 999 := by unfold lch; rw [if_neg (fun q2 => q q2.1)]
    rw [if_pos q, e]; rfl
theorem CSt.w2 (hD : okDE D E) (h : CSt tp n D E F s dl M) : CSt tp n D E F (ladv s) dl (wI M 22 2 (nI (s.1 + 1))) := by
  obtain ⟨a1, a2, a3, a4, a5, a6, a7, a8, a9⟩ := h
  refine ⟨by simp [wI_rd, a1], fun j hj => by simp [wI_rd, a2 j hj], by simp [wI_rd, ladv], by simp [wI_rd, a4, ladv], by simp [wI_rd, a5], a6, fun j x q => ?_, fun j => ?_, a9⟩
  · have := a7 j x q
    rcases hD with ⟨rfl, rfl⟩ | ⟨rfl, rfl⟩ <;> simp [wI_rd, this]
  · have := a8 j
    rcases hD with ⟨rfl, rfl⟩ | ⟨rfl, rfl⟩ <;> simp [wI_rd, this]
theorem CSt.adv (hD : okDE D E) (h : CSt tp n D E F s dl M) : CSt tp n D E F (ladv s) dl (wI M 22 2 ((M.1 22 2) + (1 : Int32))) := by
  rw [h.2.2.1, n_s1]
  exact h.w2 hD
theorem cs_comes (hT : okTx tp n) (hD : okDE D E) (h : CSt tp n D E F s dl M) (hs : s.1 ≤ n) {k : Nat} (hk : k ≤ 255) : ∃ M2, f_X5_comes (nI k) M = some (bb (decide (lch tp n s = k)), M2) ∧ CSt tp n D E F (if lch tp n s = k then ladv s else s) dl M2 := by
  unfold f_X5_comes
  rw [cs_sign hT h hs, bd_s]
  simp only [sgI_eq (lch_b hT s) hk]
  by_cases q : lch tp n s = k
  · rw [if_pos q, if_pos q]
    exact ⟨_, by rw [decide_eq_true q]; rfl, h.adv hD⟩
  · rw [if_neg q, if_neg q]
    exact ⟨M, by rw [decide_eq_false q]; rfl, h⟩
theorem cs_fail (hT : okTx tp n) (hD : okDE D E) (h : CSt tp n D E F s dl M) (hs : s.1 ≤ n) : ∃ M2, f_X5_failHere M = some M2 ∧ CSt tp n D E F (lfal s) dl M2 := by
  have h1 := hT.1
  unfold f_X5_failHere
  simp only [h.fl hT]
  obtain ⟨a1, a2, a3, a4, a5, a6, a7, a8, a9⟩ := h
  by_cases q : s.2 = none
  · rw [if_neg (by simpa using q), lt_e, a3]
    refine ⟨_, rfl, by simp [wI_rd, a1], fun j hj => by simp [wI_rd, a2 j hj], by simp [wI_rd, a3, lfal], by simp [wI_rd, lfal, q, flI], by simp [wI_rd, a5], a6, fun j x q => ?_, fun j => ?_, fun f hf => by simp [lfal, q] at hf; omega⟩
    · have := a7 j x q
      rcases hD with ⟨rfl, rfl⟩ | ⟨rfl, rfl⟩ <;> simp [wI_rd, this]
    · have := a8 j
      rcases hD with ⟨rfl, rfl⟩ | ⟨rfl, rfl⟩ <;> simp [wI_rd, this]
  · rw [if_pos q]
    obtain ⟨f, hf⟩ := Option.ne_none_iff_exists'.mp q
    have e : lfal s = s := by
      unfold lfal
      rw [hf]
      exact Prod.ext rfl (by rw [hf]; rfl)
    rw [e]
    exact ⟨M, rfl, a1, a2, a3, a4, a5, a6, a7, a8, a9⟩
theorem cs_add (hD : okDE D E) (h : CSt tp n D E F s dl M) (hl : dl.length < 121) {c : Nat} {v : Int32} : ∃ M2, f_X5_addStep (nI c) v M = some M2 ∧ CSt tp n D E F s (dl ++ [(c, v)]) M2 := by
  obtain ⟨a1, a2, a3, a4, a5, a6, a7, a8, a9⟩ := h
  have hlt : ¬ (121 : Int32) ≤ nI dl.length := fun q => by have := (n_le (a := 121) (by omega) (by omega)).mp q; omega
  have ok1 : okI D (nI (2 * dl.length)) = true := by rcases hD with ⟨rfl, rfl⟩ | ⟨rfl, rfl⟩; exact okI_24 (by omega); exact okI_25 (by omega)
  have ok2 : okI D (nI (2 * dl.length + 1)) = true := by rcases hD with ⟨rfl, rfl⟩ | ⟨rfl, rfl⟩; exact okI_24 (by omega); exact okI_25 (by omega)
  have hD22 : ¬ 22 = D ∧ ¬ 23 = D ∧ ¬ E = D ∧ ¬ D = 22 ∧ ¬ E = 22 := by rcases hD with ⟨rfl, rfl⟩ | ⟨rfl, rfl⟩ <;> omega
  refine ⟨wI (wI (wI M D (2 * dl.length) (nI c)) D (2 * dl.length + 1) v) 22 5 (nI (dl.length + 1)), ?_, by simp [wI_rd, a1, hD22], fun j hj => by simp [wI_rd, a2 j hj, hD22], by simp [wI_rd, a3, hD22], by simp [wI_rd, a4, hD22], by simp [wI_rd], a6, fun j x q => ?_, fun j => by simp [wI_rd, a8 j, hD22], a9⟩
  · unfold f_X5_addStep
    have r1 : (wI M D (2 * dl.length) (nI c)).1 22 5 = nI dl.length := by simp [wI_rd, a5, hD22]
    have r2 : (wI (wI M D (2 * dl.length) (nI c)) D (2 * dl.length + 1) v).1 22 5 = nI dl.length := by simp [wI_rd, a5, hD22]
    have r3 : (wI M D (2 * dl.length) (nI c)).2.2 22 4 = D := a6
    rw [a5, if_neg hlt, a6, n_dbl, ck_t ok1, lt_e, n_clamp (by omega), r1, r3, n_dbl, n_s1, ck_t ok2, lt_e, n_clamp (by omega), r2, n_s1, lt_e]
  · rw [List.getElem?_append] at q
    by_cases q2 : j < dl.length
    · rw [if_pos q2] at q
      have := a7 j x q
      simp [wI_rd, hD22, this, show ¬ 2 * j = 2 * dl.length by omega, show ¬ 2 * j = 2 * dl.length + 1 by omega, show ¬ 2 * j + 1 = 2 * dl.length by omega, show ¬ j = dl.length by omega]
    · rw [if_neg q2] at q
      have e : j = dl.length := by
        by_cases q3 : j - dl.length = 0
        · omega
        · obtain ⟨t, ht⟩ : ∃ t, j - dl.length = t + 1 := ⟨j - dl.length - 1, by omega⟩
          rw [ht] at q
          simp at q
      subst e
      simp at q
      subst q
      simp [wI_rd, hD22]
theorem cs_digit {c : Nat} (hc : c ≤ 255 ∨ c = 999) : f_X5_isDigit (sgI c) = some (bb (decide (48 ≤ c ∧ c ≤ 57))) := by
  unfold f_X5_isDigit sgI
  by_cases q : c = 999
  · rw [if_pos q, if_pos (by decide), decide_eq_false (by omega)]; rfl
  · rw [if_neg q]
    have e1 : (nI c < 48) = (c < 48) := propext (n_lt (b := 48) (by omega) (by omega))
    have e2 : ((57 : Int32) < nI c) = (57 < c) := propext (n_lt (a := 57) (by omega) (by omega))
    simp only [e1, e2]
    by_cases q1 : c < 48
    · rw [if_pos q1, decide_eq_false (by omega)]; rfl
    · rw [if_neg q1]
      by_cases q2 : 57 < c
      · rw [if_pos q2, decide_eq_false (by omega)]; rfl
      · rw [if_neg q2, decide_eq_true (by omega)]; rfl
def nmR (c : Nat) : Int32 := if nmI c < 5 then nI (nmI c) else -1
theorem cs_name {c : Nat} (hc : c ≤ 255 ∨ c = 999) : f_X5_nameOf (sgI c) = some (nmR c) := by
  unfold f_X5_nameOf
  have e1 : (sgI c = 97) = (c = 97) := sgI_eq (k := 97) hc (by omega)
  have e2 : (sgI c = 98) = (c = 98) := sgI_eq (k := 98) hc (by omega)
  have e3 : (sgI c = 114) = (c = 114) := sgI_eq (k := 114) hc (by omega)
  have e4 : (sgI c = 120) = (c = 120) := sgI_eq (k := 120) hc (by omega)
  have e5 : (sgI c = 121) = (c = 121) := sgI_eq (k := 121) hc (by omega)
  simp only [e1, e2, e3, e4, e5]
  unfold nmR nmI
  split
  · rfl
  · split
    · rfl
    · split
      · rfl
      · split
        · rfl
        · split <;> rfl
theorem nmI_lt (c : Nat) : nmI c < 5 ∨ nmI c = 9 := by
  unfold nmI
  repeat' split
  all_goals omega
theorem cs_number (hT : okTx tp n) (hD : okDE D E) : ∀ (k m d : Nat) (s : LwS) (v : Int32) (M : Mem), d + k = 4 → k < m → s.1 ≤ n → dl.length < 121 → CSt tp n D E F s dl M → ∃ M2, f_X5_readNumber_L4 m v (nI d) M = some M2 ∧ CSt tp n D E F (pNum tp n k s v).1 (dl ++ [(48, (pNum tp n k s v).2)]) M2
  | 0, m, d, s, v, M, h, hm, hs, hl, hC => by
    obtain ⟨m, rfl⟩ : ∃ m2, m = m2 + 1 := ⟨m - 1, by omega⟩
    have e : d = 4 := by omega
    subst e
    rw [f_X5_readNumber_L4, if_pos (by decide)]
    unfold f_X5_readNumber_b48
    obtain ⟨M2, e2, c2⟩ := cs_add hD hC hl (c := 48) (v := v)
    exact ⟨M2, by rw [show (48 : Int32) = nI 48 from rfl, e2]; rfl, c2⟩
  | k + 1, m, d, s, v, M, h, hm, hs, hl, hC => by
    obtain ⟨m, rfl⟩ : ∃ m2, m = m2 + 1 := ⟨m - 1, by omega⟩
    have h4 : ¬ (4 : Int32) ≤ nI d := fun q => by have := (n_le (a := 4) (by omega) (by omega)).mp q; omega
    rw [f_X5_readNumber_L4, if_neg h4, cs_sign hT hC hs, bd_s, cs_digit (lch_b hT s), bd_s, ite_bb, pNum]
    by_cases q : 48 ≤ lch tp n s ∧ lch tp n s ≤ 57
    · rw [if_pos (by simpa using q), if_pos q, bd_s, lt_e, lt_e, n_s1]
      obtain ⟨b1, -⟩ := lch_lt (tp := tp) (n := n) (s := s) (by omega)
      have e : sgI (lch tp n s) = nI (lch tp n s) := by unfold sgI; rw [if_neg (by omega)]
      rw [e]
      exact cs_number hT hD k m (d + 1) (ladv s) _ _ (by omega) (by omega) (by unfold ladv; omega) hl (hC.adv hD)
    · rw [if_neg (by simpa using q), if_neg q]
      unfold f_X5_readNumber_b48
      obtain ⟨M2, e2, c2⟩ := cs_add hD hC hl (c := 48) (v := v)
      exact ⟨M2, by rw [show (48 : Int32) = nI 48 from rfl, e2]; rfl, c2⟩
theorem cs_comesOf (hT : okTx tp n) (hD : okDE D E) (h : CSt tp n D E F s dl M) (hs : s.1 ≤ n) {a b c : Nat} (ha : a ≤ 255) (hb : b ≤ 255) (hc : c ≤ 255) : ∃ M2, f_X5_comesOf (nI a) (nI b) (nI c) M = some (if lch tp n s ∈ [a, b, c] then nI (lch tp n s) else -1, M2) ∧ CSt tp n D E F (if lch tp n s ∈ [a, b, c] then ladv s else s) dl M2 := by
  unfold f_X5_comesOf
  rw [cs_sign hT h hs, bd_s]
  simp only [sgI_eq (lch_b hT s) ha, sgI_eq (lch_b hT s) hb, sgI_eq (lch_b hT s) hc]
  by_cases q : lch tp n s ∈ [a, b, c]
  · simp only [q, if_true]
    have e : sgI (lch tp n s) = nI (lch tp n s) := by
      unfold sgI
      simp only [List.mem_cons, List.not_mem_nil, or_false] at q
      rw [if_neg (by omega)]
    rw [e]
    unfold f_X5_comesOf_b26
    refine ⟨wI M 22 2 ((M.1 22 2) + (1 : Int32)), ?_, h.adv hD⟩
    simp only [List.mem_cons, List.not_mem_nil, or_false] at q
    rcases q with q | q | q
    · rw [if_pos q]; rfl
    · by_cases q2 : lch tp n s = a
      · rw [if_pos q2]; rfl
      · rw [if_neg q2, if_pos q]; rfl
    · by_cases q2 : lch tp n s = a
      · rw [if_pos q2]; rfl
      · rw [if_neg q2]
        by_cases q3 : lch tp n s = b
        · rw [if_pos q3]; rfl
        · rw [if_neg q3, if_pos q]; rfl
  · simp only [q, if_false]
    simp only [List.mem_cons, List.not_mem_nil, or_false, not_or] at q
    exact ⟨M, by rw [if_neg q.1, if_neg q.2.1, if_neg q.2.2], h⟩
end CLAW
