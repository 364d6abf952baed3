/-! clash: whether there is an order -/
def hasO (n : Nat) (ab : Nat → Nat) : Bool := decide (0 < (ext n ab n 0).length)
section CLA
variable {np nm : Nat} {wo wi lo ct : Nat → Nat} {n : Nat} {ab : Nat → Nat} {M : Mem}
theorem hasO_rch (hn : n ≤ 8) : hasO n ab = true ↔ rch n ab (2 ^ n - 1) := by
  unfold hasO
  rw [decide_eq_true_eq, ← way_all n ab hn, way_pos n ab hn]
theorem hasO_ne : hasO n ab = true ↔ ext n ab n 0 ≠ [] := by
  unfold hasO
  rw [decide_eq_true_eq]
  constructor
  · intro h e; rw [e] at h; exact absurd h (by decide)
  · intro h
    exact List.length_pos_iff.mpr h
theorem rch_orM (hn : n ≤ 8) {S : Nat} (h : rch n ab S) : ∀ k, k ≤ n → rch n ab (S ||| msk (fl ab S) k)
  | 0, _ => by rw [msk, Nat.or_zero]; exact h
  | k + 1, hk => by
    have ih := rch_orM hn h k (by omega)
    rw [msk]
    by_cases q : fl ab S k = true
    · rw [if_pos q, ← Nat.or_assoc]
      refine rch_or ih (by omega) ?_
      simp only [fl, Bool.and_eq_true, Bool.not_eq_true', decide_eq_true_eq] at q ⊢
      refine ⟨?_, land_sub.mpr (fun i hi => ?_)⟩
      · rw [Nat.testBit_or, q.1, tb_msk]
        simp
      · rw [Nat.testBit_or, land_sub.mp q.2 i hi, Bool.true_or]
    · rw [if_neg q, Nat.or_zero]; exact ih
theorem full_eq (hn : n ≤ 8) {S : Nat} (hS : S < 2 ^ n) (h : ∀ i, i < n → S.testBit i = true) : S = 2 ^ n - 1 := by
  apply Nat.eq_of_testBit_eq
  intro i
  rw [Nat.testBit_two_pow_sub_one]
  by_cases q : i < n
  · rw [h i q, decide_eq_true q]
  · rw [tb_st8 hS (by omega), decide_eq_false q]
theorem cl_any_L (hA : okA n ab) (hC : CO n ab M) : ∀ (r k S m : Nat), k + r = n → r < m → rch n ab S → (∀ o ∈ ext n ab n 0, ∀ i ∈ o.take k, S.testBit i = true) → f_X7_isAny_L4 M m (nI S) (nI k) = some (bb (hasO n ab))
  | 0, k, S, m, h, hm, hr, hP => by
    have h8 := hA.1
    have h256 := pow_n h8
    have hp := Nat.two_pow_pos n
    obtain ⟨m, rfl⟩ : ∃ m2, m = m2 + 1 := ⟨m - 1, by omega⟩
    have hS := rch_lt h8 hr
    rw [f_X7_isAny_L4, hC.1, if_pos ((n_le (by omega) (by omega)).mpr (by omega)), hC.2.1]
    simp only [n_eq (show S < 2147483648 by omega) (show 2 ^ n - 1 < 2147483648 by omega)]
    by_cases q : S = 2 ^ n - 1
    · rw [if_pos q]
      have : hasO n ab = true := (hasO_rch h8).mpr (by rw [← q]; exact hr)
      rw [this]; rfl
    · rw [if_neg q]
      have : hasO n ab = false := by
        rw [← Bool.not_eq_true]
        intro hh
        obtain ⟨o, ho⟩ := List.exists_mem_of_ne_nil _ (hasO_ne.mp hh)
        have hk := ext_ok h8 ho
        refine q (full_eq h8 hS (fun i hi => hP o ho i ?_))
        have e : k = n := by omega
        rw [e, ← hk.1, List.take_length]
        exact hk.2.2.2 i hi
      rw [this]; rfl
  | r + 1, k, S, m, h, hm, hr, hP => by
    have h8 := hA.1
    have h256 := pow_n h8
    obtain ⟨m, rfl⟩ : ∃ m2, m = m2 + 1 := ⟨m - 1, by omega⟩
    have hS := rch_lt h8 hr
    rw [f_X7_isAny_L4, hC.1, if_neg (by rw [n_le (by omega) (by omega)]; omega), s_foll hA hC (by omega), bd_s, n_or, lt_e, n_s1]
    refine cl_any_L hA hC r (k + 1) _ m (by omega) (by omega) (rch_orM h8 hr n (Nat.le_refl _)) (fun o ho i hi => ?_)
    have hk := ext_ok h8 ho
    rw [Nat.testBit_or, Bool.or_eq_true]
    by_cases q : i ∈ o.take k
    · exact Or.inl (hP o ho i q)
    · have hi2 : i < n := hk.2.2.1 i (List.mem_of_mem_take hi)
      have e : pL o i = k := by
        have h1 := (mem_take hk hi2 (by omega)).mp hi
        have h2 : ¬ pL o i < k := fun h3 => q ((mem_take hk hi2 (by omega)).mpr h3)
        omega
      have e2 : oL o k = i := by rw [← e]; exact ((permL hk).2 i hi2).2
      have hf := fl_take h8 ho (k := k) (by omega)
      rw [e2] at hf
      by_cases q2 : S.testBit i = true
      · exact Or.inl q2
      · refine Or.inr ?_
        rw [tb_msk, decide_eq_true hi2, Bool.true_and]
        simp only [fl, Bool.and_eq_true, Bool.not_eq_true', decide_eq_true_eq] at hf ⊢
        refine ⟨by simpa using q2, land_sub.mpr (fun x hx => ?_)⟩
        have h3 := land_sub.mp hf.2 x hx
        rw [tb_st, Nat.zero_testBit, Bool.false_or, decide_eq_true_eq] at h3
        exact hP o ho x h3
theorem cl_any (hA : okA n ab) (hC : CO n ab M) : f_X7_isAny M = some (bb (hasO n ab)) := by
  have h8 := hA.1
  exact cl_any_L hA hC n 0 0 FU (by omega) (by unfold FU; omega) rch_0 (fun o ho i hi => by simp at hi)
/-- the model: one pass -/
theorem mo_pass {k9 : Int32 → Int32 → Mem → Option (Int32 × Mem)} (hA : okA n ab) (h6 : M.1 47 6 = nI n) (h57 : ∀ p, p < 8 → M.1 57 p = nI (ab p)) : ∀ (r p S m : Nat) (c : Bool), p + r = n → r < m → rch n ab S → ∃ S2 c2, f_X11_hasOrder_L18 k9 m (nI S) (bb c) (nI p) M = k9 (nI S2) (bb c2) M ∧ rch n ab S2 ∧ pop S ≤ pop S2 ∧ (c2 = true → c = true ∨ pop S < pop S2) ∧ (c2 = false → c = false ∧ S2 = S ∧ ∀ q, p ≤ q → q < n → fl ab S q = false) := by
  have h8 := hA.1
  have h256 := pow_n h8
  intro r
  induction r with
  | zero =>
    intro p S m c h hm hr
    obtain ⟨m, rfl⟩ : ∃ m2, m = m2 + 1 := ⟨m - 1, by omega⟩
    rw [f_X11_hasOrder_L18, h6, if_pos ((n_le (by omega) (by omega)).mpr (by omega))]
    exact ⟨S, c, rfl, hr, Nat.le_refl _, fun h => Or.inl h, fun h => ⟨h, rfl, fun q _ _ => by omega⟩⟩
  | succ r ih =>
    intro p S m c h hm hr
    obtain ⟨m, rfl⟩ : ∃ m2, m = m2 + 1 := ⟨m - 1, by omega⟩
    have hS := rch_lt h8 hr
    have ha := hA.2 p
    rw [f_X11_hasOrder_L18, h6, if_neg (by rw [n_le (by omega) (by omega)]; omega), n_b1 (by omega) (by omega), ck_t (okI_57 (by omega)), n_clamp (by omega), h57 p (by omega), n_shl1 p (by omega), n_or, lt_e]
    simp only [bb_0, n_sub0 (show ab p < 2147483648 by omega)]
    unfold f_X11_hasOrder_b59
    rw [n_s1]
    by_cases q : fl ab S p = true
    · have q2 := q
      simp only [fl, Bool.and_eq_true, Bool.not_eq_true', decide_eq_true_eq] at q2
      rw [if_pos q2.1, if_pos q2.2]
      obtain ⟨S2, c2, f2, a1, a2, a3, a4⟩ := ih (p + 1) (S ||| 2 ^ p) m true (by omega) (by omega) (rch_or hr (by omega) q)
      have hp := pop_or0 S (by omega) p (by omega) q2.1
      refine ⟨S2, c2, f2, a1, by omega, fun _ => Or.inr (by omega), fun h => ?_⟩
      exact absurd (a4 h).1 (by decide)
    · obtain ⟨S2, c2, f2, a1, a2, a3, a4⟩ := ih (p + 1) S m c (by omega) (by omega) hr
      have hres : (if S.testBit p = false then (if ab p &&& S = ab p then (fun a0 a1 a2 a3 => f_X11_hasOrder_L18 k9 m a0 a1 a2 a3) (nI (S ||| 2 ^ p)) 1 (nI (p + 1)) M else (fun a0 a1 a2 a3 => f_X11_hasOrder_L18 k9 m a0 a1 a2 a3) (nI S) (bb c) (nI (p + 1)) M) else (fun a0 a1 a2 a3 => f_X11_hasOrder_L18 k9 m a0 a1 a2 a3) (nI S) (bb c) (nI (p + 1)) M) = f_X11_hasOrder_L18 k9 m (nI S) (bb c) (nI (p + 1)) M := by
        by_cases q1 : S.testBit p = false
        · rw [if_pos q1, if_neg (fun h => q (by simp [fl, q1, h]))]
        · rw [if_neg q1]
      refine ⟨S2, c2, hres.trans f2, a1, a2, a3, fun h => ⟨(a4 h).1, (a4 h).2.1, fun x hx1 hx2 => ?_⟩⟩
      by_cases e : x = p
      · rw [e]; simpa using q
      · exact (a4 h).2.2 x (by omega) hx2
theorem mo_has_L (hA : okA n ab) (h6 : M.1 47 6 = nI n) (h57 : ∀ p, p < 8 → M.1 57 p = nI (ab p)) : ∀ (d S m : Nat), n ≤ pop S + d → d + 2 < m → rch n ab S → f_X11_hasOrder_L9 m (nI S) 1 M = some (bb (hasO n ab), M) := by
  have h8 := hA.1
  have h256 := pow_n h8
  have hp0 := Nat.two_pow_pos n
  intro d
  induction d with
  | zero =>
    intro S m h hm hr
    obtain ⟨m, rfl⟩ : ∃ m2, m = m2 + 1 + 1 := ⟨m - 2, by omega⟩
    have hS := rch_lt h8 hr
    rw [f_X11_hasOrder_L9, if_neg (by decide)]
    obtain ⟨S2, c2, f2, a1, a2, a3, a4⟩ := mo_pass (k9 := fun a0 a1 a2 => f_X11_hasOrder_L9 (m + 1) a0 a1 a2) hA h6 h57 n 0 S FU false (by omega) (by unfold FU; omega) hr
    have f2' : f_X11_hasOrder_L18 (fun a0 a1 a2 => f_X11_hasOrder_L9 (m + 1) a0 a1 a2) FU (nI S) 0 0 M = _ := f2
    rw [f2']
    have hS2 := rch_lt h8 a1
    have hle := pop_ltn n (by omega) S2 (by omega) hS2
    cases c2 with
    | true =>
      rcases a3 rfl with q | q
      · cases q
      · omega
    | false =>
      have e := pop_full1 n (by omega) S (by omega) hS (by omega)
      show f_X11_hasOrder_L9 (m + 1) (nI S2) 0 M = _
      rw [f_X11_hasOrder_L9, if_pos rfl, h6, pow_I h8, (a4 rfl).2.1, e, if_pos rfl, (hasO_rch h8).mpr (by rw [← e]; exact hr)]
      rfl
  | succ d ih =>
    intro S m h hm hr
    obtain ⟨m, rfl⟩ : ∃ m2, m = m2 + 1 + 1 := ⟨m - 2, by omega⟩
    have hS := rch_lt h8 hr
    rw [f_X11_hasOrder_L9, if_neg (by decide)]
    obtain ⟨S2, c2, f2, a1, a2, a3, a4⟩ := mo_pass (k9 := fun a0 a1 a2 => f_X11_hasOrder_L9 (m + 1) a0 a1 a2) hA h6 h57 n 0 S FU false (by omega) (by unfold FU; omega) hr
    have f2' : f_X11_hasOrder_L18 (fun a0 a1 a2 => f_X11_hasOrder_L9 (m + 1) a0 a1 a2) FU (nI S) 0 0 M = _ := f2
    rw [f2']
    have hS2 := rch_lt h8 a1
    cases c2 with
    | true =>
      rcases a3 rfl with q | q
      · cases q
      · exact ih S2 (m + 1) (by omega) (by omega) a1
    | false =>
      obtain ⟨-, b2, b3⟩ := a4 rfl
      show f_X11_hasOrder_L9 (m + 1) (nI S2) 0 M = _
      rw [f_X11_hasOrder_L9, if_pos rfl, h6, pow_I h8, b2]
      simp only [n_eq (show S < 2147483648 by omega) (show 2 ^ n - 1 < 2147483648 by omega)]
      by_cases q : S = 2 ^ n - 1
      · rw [if_pos q, (hasO_rch h8).mpr (by rw [← q]; exact hr)]; rfl
      · rw [if_neg q]
        have : hasO n ab = false := by
          rw [← Bool.not_eq_true]
          intro hh
          have hle := pop_ltn n (by omega) S (by omega) hS
          have hlt : pop S < n := by
            by_cases e : pop S = n
            · exact absurd (pop_full1 n (by omega) S (by omega) hS e) q
            · omega
          have hm0 := (gre_hd h8 (hasO_ne.mp hh) (n - pop S) S hr (by omega)).2 (by omega)
          obtain ⟨l1, l2, -⟩ := low_p h8 hm0
          rw [b3 _ (by omega) l1] at l2
          cases l2
        rw [this]; rfl
theorem mo_has (hO : OKF np nm wo wi lo ct) (hR : okR M) (hC : MF np nm wo wi lo ct M) {s : Nat} (hs : s < 4096) : ∃ M1, f_X11_hasOrder (nI s) M = some (bb (hasO np (abv wi lo s nm)), M1) ∧ MF np nm wo wi lo ct M1 ∧ okR M1 := by
  have h8 := hO.1
  obtain ⟨M2, f2, c2⟩ := mo_beats hO hC hs
  have fr := fr_X11_beats (nI s) M _ f2
  have hC2 : MF np nm wo wi lo ct M2 := grp_MF.kp hR fr (by decide) hC
  unfold f_X11_hasOrder
  rw [f2, bd_s]
  have := mo_has_L (okA_abv hO s) hC2.1 c2 np 0 FU (by rw [pop_0]; omega) (by unfold FU; omega) rch_0
  have h' : f_X11_hasOrder_L9 FU 0 1 M2 = _ := this
  rw [h']
  refine ⟨M2, rfl, hC2, ?_⟩
  have := (fr hR.c).1
  unfold okR
  simp only [id] at this
  rw [this]
  exact hR
theorem vld_0 (hab : ∀ p, ab p = 0) : ∀ (l : List Nat) (S : Nat), l.Nodup → (∀ p ∈ l, S.testBit p = false) → vld ab S l = true
  | [], _, _, _ => rfl
  | p :: l, S, h1, h2 => by
    rw [List.nodup_cons] at h1
    rw [vld, vld_0 hab l (S ||| 2 ^ p) h1.2 (fun q hq => by
      rw [tb_or, h2 q (List.mem_cons_of_mem _ hq), Bool.false_or, decide_eq_false_iff_not]
      intro e; subst e; exact h1.1 hq), Bool.and_true]
    simp [fl, h2 p List.mem_cons_self, hab p]
theorem hasO_0 (hn : n ≤ 8) (hab : ∀ p, ab p = 0) : hasO n ab = true := by
  have : List.range n ∈ ext n ab n 0 := full_mem hn (fun p hp => List.mem_range.mp hp) (vld_0 hab _ 0 List.nodup_range (fun p _ => Nat.zero_testBit p)) (fun i hi => List.mem_range.mpr hi)
  exact hasO_ne.mpr (fun e => by rw [e] at this; cases this)
theorem abv_0 (wi lo : Nat → Nat) : ∀ k p, abv wi lo 0 k p = 0
  | 0, _ => rfl
  | k + 1, p => by rw [abv, if_neg (by simp), abv_0 wi lo k p]
def claS (np nm : Nat) (wi lo ct : Nat → Nat) : Nat → Nat → Int32
  | 0, _ => -2
  | r + 1, k => if hasO np (abv wi lo (cms ct (k + 1)) nm) = true then claS np nm wi lo ct r (k + 1) else nI k
theorem cms_s (ct : Nat → Nat) (k : Nat) : cms ct (k + 1) = cms ct k ||| (if ct k = 1 then 2 ^ k else 0) := by
  unfold cms
  rw [msk]
  congr 1
  by_cases q : ct k = 1 <;> simp [q]
theorem cms_ltk (hO : OKF np nm wo wi lo ct) {k : Nat} (hk : k ≤ nm) : cms ct k < 4096 := by
  have h1 := msk_lt (fun m => decide (ct m = 1)) k
  have h2 : 2 ^ k ≤ 2 ^ 12 := Nat.pow_le_pow_right (by omega) (by have := hO.2.1; omega)
  unfold cms
  omega
theorem cl_clash_L (hO : OKF np nm wo wi lo ct) : ∀ (r k m : Nat) (M : Mem), k + r = nm → r < m → CF np nm wo wi lo ct M → okR M → hasO np (abv wi lo (cms ct k) nm) = true → ∃ M1, f_X10_clash_L4 m (nI (cms ct k)) (nI k) M = some (claS np nm wi lo ct r k, M1)
  | 0, k, m, M, h, hm, hC, hR, hh => by
    have h12 := hO.2.1
    obtain ⟨m, rfl⟩ : ∃ m2, m = m2 + 1 := ⟨m - 1, by omega⟩
    rw [f_X10_clash_L4, hC.2.1, if_pos ((n_le (by omega) (by omega)).mpr (by omega))]
    exact ⟨M, rfl⟩
  | r + 1, k, m, M, h, hm, hC, hR, hh => by
    have h12 := hO.2.1
    obtain ⟨m, rfl⟩ : ∃ m2, m = m2 + 1 := ⟨m - 1, by omega⟩
    have hct := (hO.2.2.2 k (by omega)).2.2.2
    have e1 : (nI (ct k) = 1) = (ct k = 1) := propext (n_eq (b := 1) (by omega) (by omega))
    rw [f_X10_clash_L4, hC.2.1, if_neg (by rw [n_le (by omega) (by omega)]; omega), ck_t (okI_5 (by omega)), n_clamp (by omega), (hC.2.2.2 k (by omega)).2.2, claS]
    simp only [e1]
    unfold f_X10_clash_b58
    rw [n_s1]
    by_cases q : ct k = 1
    · have ec : cms ct (k + 1) = cms ct k ||| 2 ^ k := by rw [cms_s, if_pos q]
      rw [if_pos q, n_shl1 k (by omega), n_or, lt_e, ← ec]
      obtain ⟨M3, f3, c3⟩ := cl_take hO hC (cms_ltk hO (show k + 1 ≤ nm by omega))
      have fr := fr_X7_take _ M _ f3
      rw [f3, bd_s, cl_any (okA_abv hO _) c3, bd_s, ite_bb]
      by_cases q2 : hasO np (abv wi lo (cms ct (k + 1)) nm) = true
      · rw [if_pos q2, if_pos q2]
        have hR3 : okR M3 := by
          have := (fr hR.c).1
          simp only [id] at this
          unfold okR
          rw [this]
          exact hR
        exact cl_clash_L hO r (k + 1) m M3 (by omega) (by omega) (grp_CF.kp hR fr (by decide) hC) hR3 q2
      · rw [if_neg q2, if_neg q2]; exact ⟨M3, rfl⟩
    · have ec : cms ct (k + 1) = cms ct k := by rw [cms_s, if_neg q, Nat.or_zero]
      rw [if_neg q, ec, if_pos hh, ← ec]
      exact cl_clash_L hO r (k + 1) m M (by omega) (by omega) hC hR (by rw [ec]; exact hh)
theorem cl_clash (hO : OKF np nm wo wi lo ct) (hR : okR M) (hC : CF np nm wo wi lo ct M) : ∃ M1, f_X10_clash M = some (claS np nm wi lo ct nm 0, M1) := by
  have h12 := hO.2.1
  exact cl_clash_L hO nm 0 FU M (by omega) (by unfold FU; omega) hC hR (hasO_0 hO.1 (fun p => abv_0 wi lo nm p))
theorem mo_clash_L (hO : OKF np nm wo wi lo ct) : ∀ (r k m : Nat) (M : Mem), k + r = nm → r < m → MF np nm wo wi lo ct M → okR M → ∃ M1, f_X11_clash_L4 m (nI (cms ct k)) (nI k) M = some (claS np nm wi lo ct r k, M1)
  | 0, k, m, M, h, hm, hC, hR => by
    have h12 := hO.2.1
    obtain ⟨m, rfl⟩ : ∃ m2, m = m2 + 1 := ⟨m - 1, by omega⟩
    rw [f_X11_clash_L4, hC.2.1, if_pos ((n_le (by omega) (by omega)).mpr (by omega))]
    exact ⟨M, rfl⟩
  | r + 1, k, m, M, h, hm, hC, hR => by
    have h12 := hO.2.1
    obtain ⟨m, rfl⟩ : ∃ m2, m = m2 + 1 := ⟨m - 1, by omega⟩
    rw [f_X11_clash_L4, hC.2.1, if_neg (by rw [n_le (by omega) (by omega)]; omega), s_counts hC hO (by omega), bd_s, ite_bb, claS]
    obtain ⟨M3, f3, c3, r3⟩ := mo_has hO hR hC (cms_ltk hO (show k + 1 ≤ nm by omega))
    have tail : ∀ x : Nat, x = (if ct k = 1 then 2 ^ k else 0) → ∃ M1, f_X11_clash_b28 (fun a0 a1 a2 => f_X11_clash_L4 m a0 a1 a2) (nI k) (nI x) (nI (cms ct k)) M = some ((if hasO np (abv wi lo (cms ct (k + 1)) nm) = true then claS np nm wi lo ct r (k + 1) else nI k), M1) := by
      intro x hx
      unfold f_X11_clash_b28
      rw [n_or, hx, ← cms_s, lt_e, f3, bI_s, ite_bb, n_s1]
      by_cases q2 : hasO np (abv wi lo (cms ct (k + 1)) nm) = true
      · rw [if_pos q2, if_pos q2]
        exact mo_clash_L hO r (k + 1) m M3 (by omega) (by omega) c3 r3
      · rw [if_neg q2, if_neg q2]; exact ⟨M3, rfl⟩
    by_cases q : ct k = 1
    · rw [if_pos (by simpa using q), n_shl1 k (by omega)]
      exact tail (2 ^ k) (by rw [if_pos q])
    · rw [if_neg (by simpa using q)]
      exact tail 0 (by rw [if_neg q])
theorem mo_clash (hO : OKF np nm wo wi lo ct) (hR : okR M) (hC : MF np nm wo wi lo ct M) : ∃ M1, f_X11_clash M = some (claS np nm wi lo ct nm 0, M1) := by
  have h12 := hO.2.1
  exact mo_clash_L hO nm 0 FU M (by omega) (by unfold FU; omega) hC hR
end CLA
