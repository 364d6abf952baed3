/-! questions: how many answers, by the sets that come about -/
section KND
variable {n : Nat} {ab : Nat → Nat} {M : Mem}
theorem pop_msk (hn : n ≤ 8) (P : Nat → Bool) : pop (msk P n) = su (fun c => (decide (c < n) && P c).toNat) 256 0 := by
  have h256 := pow_n hn
  have h1 := msk_lt P n
  rw [pop_su (show msk P n < 4096 by omega)]
  have e := su_split (fun c => (decide (c < n) && P c).toNat) 12 244 0
  rw [e, su_0 244 (0 + 12) (fun c h2 _ => by show (decide (c < n) && P c).toNat = 0; rw [decide_eq_false (by omega)]; rfl), Nat.add_zero]
  exact su_congr 12 0 (fun c _ _ => by rw [tb_msk])
theorem nCd_msk (hn : n ≤ 8) {kn ak : Nat} {E : List (List Nat)} (P : Nat → Bool) (h : ∀ c, c < 256 → sn n kn ak E c = (decide (c < n) && P c)) : nCd n kn ak E = pop (msk P n) := by
  rw [pop_msk hn]
  unfold nCd
  exact su_congr 256 0 (fun c _ hc => by rw [h c (by omega)])
def atP (E : List (List Nat)) (k p : Nat) : Bool := E.any (fun o => decide (oL o k = p))
theorem atP_iff (E : List (List Nat)) (k p : Nat) : atP E k p = true ↔ ∃ o ∈ E, oL o k = p := by
  unfold atP
  rw [List.any_eq_true]
  simp only [decide_eq_true_eq]
theorem atP_lt (hn : n ≤ 8) {k p : Nat} (hk : k < n) (h : atP (ext n ab n 0) k p = true) : p < n := by
  obtain ⟨o, ho, e⟩ := (atP_iff _ _ _).mp h
  rw [← e]
  exact ((permL (ext_ok hn ho)).1 k hk).1
/-- the first place: those whom nobody must stand above -/
theorem foll_0 (hn : n ≤ 8) (hE : ext n ab n 0 ≠ []) (h1 : 1 ≤ n) : msk (fl ab 0) n = msk (atP (ext n ab n 0) 0) n := by
  have h256 := pow_n hn
  apply Nat.eq_of_testBit_eq
  intro p
  rw [tb_msk, tb_msk]
  by_cases hp : p < n
  · rw [decide_eq_true hp, Bool.true_and, Bool.true_and, Bool.eq_iff_iff, atP_iff, at_iff hn hE hp (by omega)]
    constructor
    · intro h; exact ⟨0, rch_0, pop_0, h⟩
    · rintro ⟨S, h2, h3, h4⟩
      have hS := rch_lt hn h2
      have : S = 0 := by
        by_cases q : S = 0
        · exact q
        · exact absurd h3 (pop_pos0 S (by omega) q)
      rw [this] at h4
      exact h4
  · rw [decide_eq_false hp]; rfl
/-- who can have a place, gathered by sets -/
def whS (n : Nat) (ab : Nat → Nat) (k : Nat) : Nat → Nat
  | 0 => 0
  | s + 1 => whS n ab k s ||| (if 0 < way n ab s ∧ pop s = k then msk (fl ab s) n else 0)
theorem tb_whS (k p : Nat) : ∀ s, (whS n ab k s).testBit p = true ↔ ∃ S, S < s ∧ 0 < way n ab S ∧ pop S = k ∧ p < n ∧ fl ab S p = true
  | 0 => by
    rw [whS, Nat.zero_testBit]
    constructor
    · intro h; cases h
    · rintro ⟨S, h, -⟩; omega
  | s + 1 => by
    rw [whS, Nat.testBit_or, Bool.or_eq_true, tb_whS k p s]
    by_cases q : 0 < way n ab s ∧ pop s = k
    · rw [if_pos q, tb_msk, Bool.and_eq_true, decide_eq_true_eq]
      constructor
      · rintro (⟨S, h1, h2⟩ | h)
        · exact ⟨S, by omega, h2⟩
        · exact ⟨s, by omega, q.1, q.2, h⟩
      · rintro ⟨S, h1, h2, h3, h4⟩
        by_cases e : S = s
        · subst e; exact Or.inr h4
        · exact Or.inl ⟨S, by omega, h2, h3, h4⟩
    · rw [if_neg q, Nat.zero_testBit]
      constructor
      · rintro (⟨S, h1, h2⟩ | h)
        · exact ⟨S, by omega, h2⟩
        · cases h
      · rintro ⟨S, h1, h2, h3, h4⟩
        have : S ≠ s := fun e => by subst e; exact q ⟨h2, h3⟩
        exact Or.inl ⟨S, by omega, h2, h3, h4⟩
theorem whS_eq (hn : n ≤ 8) (hE : ext n ab n 0 ≠ []) {k : Nat} (hk : k < n) : whS n ab k (2 ^ n - 1) = msk (atP (ext n ab n 0) k) n := by
  have hp0 := Nat.two_pow_pos n
  apply Nat.eq_of_testBit_eq
  intro p
  rw [Bool.eq_iff_iff, tb_whS, tb_msk, Bool.and_eq_true, decide_eq_true_eq, atP_iff]
  constructor
  · rintro ⟨S, h1, h2, h3, h4, h5⟩
    exact ⟨h4, (at_iff hn hE h4 hk).mpr ⟨S, (way_pos n ab hn S).mp h2, h3, h5⟩⟩
  · rintro ⟨h4, h⟩
    obtain ⟨S, h1, h2, h3⟩ := (at_iff hn hE h4 hk).mp h
    have hS := rch_lt hn h1
    refine ⟨S, ?_, (way_pos n ab hn S).mpr h1, h2, h4, h3⟩
    have hne : S ≠ 2 ^ n - 1 := fun e => by
      have := fl_f h3
      rw [e, Nat.testBit_two_pow_sub_one, decide_eq_true h4] at this
      cases this
    omega
theorem cl_who0 (hA : okA n ab) (hT : TL n ab M) {k : Nat} (hk : k < 100) : ∀ (r s m : Nat), s + r = 2 ^ n - 1 → r < m → f_X7_whoCanHave_11_L4 M m (nI k) (nI (whS n ab k s)) (nI s) = some (nI (whS n ab k (2 ^ n - 1)))
  | 0, s, m, h, hm => by
    have h256 := pow_n hA.1
    have hp0 := Nat.two_pow_pos n
    obtain ⟨m, rfl⟩ : ∃ m2, m = m2 + 1 := ⟨m - 1, by omega⟩
    rw [f_X7_whoCanHave_11_L4, hT.1.2.1, if_pos ((n_le (by omega) (by omega)).mpr (by omega)), show s = 2 ^ n - 1 by omega]
  | r + 1, s, m, h, hm => by
    have h8 := hA.1
    have h256 := pow_n hA.1
    have hp0 := Nat.two_pow_pos n
    obtain ⟨m, rfl⟩ : ∃ m2, m = m2 + 1 := ⟨m - 1, by omega⟩
    have hw := way_le n ab h8 (show s < 2 ^ n by omega)
    have hps := pop_lt8 s (by omega)
    have e0 : (nI (way n ab s) ≤ 0) = (way n ab s ≤ 0) := propext (n_le (b := 0) (by omega) (by omega))
    have ih := cl_who0 hA hT hk r (s + 1) m (by omega) (by omega)
    rw [whS] at ih
    rw [f_X7_whoCanHave_11_L4, hT.1.2.1, if_neg (by rw [n_le (by omega) (by omega)]; omega), ck_t (okI_13 (by omega)), n_clamp (by omega), hT.2 s (by omega), cl_bits (by omega), bd_s, s_foll hA hT.1 (by omega), bd_s, n_or, lt_e]
    simp only [e0, n_eq (show pop s < 2147483648 by omega) (show k < 2147483648 by omega)]
    unfold f_X7_whoCanHave_11_b37
    rw [n_s1]
    by_cases q1 : way n ab s ≤ 0
    · rw [if_neg (fun h => by omega), Nat.or_zero] at ih
      rw [if_pos q1]; exact ih
    · rw [if_neg q1]
      by_cases q2 : pop s = k
      · rw [if_pos ⟨by omega, q2⟩] at ih
        rw [if_pos q2]; exact ih
      · rw [if_neg (fun h => q2 h.2), Nat.or_zero] at ih
        rw [if_neg q2]; exact ih
theorem cl_who (hA : okA n ab) (hT : TL n ab M) (hE : ext n ab n 0 ≠ []) {k : Nat} (hk : k < n) : f_X7_whoCanHave_11 (nI k) M = some (nI (msk (atP (ext n ab n 0) k) n)) := by
  have h256 := pow_n hA.1
  have h8 := hA.1
  rw [← whS_eq hA.1 hE hk]
  exact cl_who0 hA hT (by omega) (2 ^ n - 1) 0 FU (by omega) (by unfold FU; omega)
/-- kind 5: sets of the first ones -/
theorem orS_st {o : List Nat} (h : okL3 n o) : ∀ k, k ≤ n → orS (oL o) k = st 0 (o.take k) := by
  intro k hk
  apply Nat.eq_of_testBit_eq
  intro i
  rw [Bool.eq_iff_iff, tb_orS, tb_st, Nat.zero_testBit, Bool.false_or, decide_eq_true_eq]
  have hp := permL h
  constructor
  · rintro ⟨j, hj, e⟩
    rw [← e]
    refine (mem_take h (hp.1 j (by omega)).1 hk).mpr ?_
    rw [(hp.1 j (by omega)).2]; exact hj
  · intro hm
    have hi : i < n := h.2.2.1 i (List.mem_of_mem_take hm)
    exact ⟨pL o i, (mem_take h hi hk).mp hm, (hp.2 i hi).2⟩
theorem sn_5 (hn : n ≤ 8) (hE : ext n ab n 0 ≠ []) {k : Nat} (hk : k ≤ n) (c : Nat) : sn n 5 k (ext n ab n 0) c = true ↔ (rch n ab c ∧ pop c = k) := by
  unfold sn
  rw [List.any_eq_true]
  have e : ∀ o, codeF n 5 k o = orS o k := fun o => rfl
  simp only [decide_eq_true_eq, e]
  constructor
  · rintro ⟨o, ho, rfl⟩
    rw [orS_st (ext_ok hn ho) k hk]
    exact rch_take hn ho hk
  · rintro ⟨⟨l, h1, h2, h3⟩, h4⟩
    obtain ⟨o, ho⟩ := List.exists_mem_of_ne_nil _ hE
    obtain ⟨r, hr⟩ := ord_ext hn ho h1 h2
    have hl := (pop_st n ab hn l 0 (Nat.two_pow_pos n) h1 h2).2
    rw [h3, pop_0, h4] at hl
    refine ⟨_, hr, ?_⟩
    have hkl : k = l.length := by omega
    have e2 : (l ++ r).take k = l := by rw [hkl, List.take_left]
    rw [orS_st (ext_ok hn hr) k hk, e2, h3]
theorem cl_sets_L (hA : okA n ab) (hT : TL n ab M) {k : Nat} (hk : k < 100) : ∀ (r s m acc : Nat), s + r = 2 ^ n → r < m → f_X7_setsOfFirst_11_L4 M m (nI k) (nI acc) (nI s) = some (nI (acc + su (fun S => if 0 < way n ab S ∧ pop S = k then 1 else 0) r s))
  | 0, s, m, acc, h, hm => by
    have h256 := pow_n hA.1
    have hp0 := Nat.two_pow_pos n
    obtain ⟨m, rfl⟩ : ∃ m2, m = m2 + 1 := ⟨m - 1, by omega⟩
    rw [f_X7_setsOfFirst_11_L4, hT.1.2.1, if_pos ((n_lt (by omega) (by omega)).mpr (by omega))]
    rfl
  | r + 1, s, m, acc, h, hm => by
    have h8 := hA.1
    have h256 := pow_n hA.1
    have hp0 := Nat.two_pow_pos n
    obtain ⟨m, rfl⟩ : ∃ m2, m = m2 + 1 := ⟨m - 1, by omega⟩
    have hw := way_le n ab h8 (show s < 2 ^ n by omega)
    have hps := pop_lt8 s (by omega)
    have e0 : (nI (way n ab s) ≤ 0) = (way n ab s ≤ 0) := propext (n_le (b := 0) (by omega) (by omega))
    rw [f_X7_setsOfFirst_11_L4, hT.1.2.1, if_neg (by rw [n_lt (by omega) (by omega)]; omega), ck_t (okI_13 (by omega)), n_clamp (by omega), hT.2 s (by omega), cl_bits (by omega), bd_s, su]
    simp only [e0, n_eq (show pop s < 2147483648 by omega) (show k < 2147483648 by omega)]
    unfold f_X7_setsOfFirst_11_b32
    rw [n_s1, n_s1]
    by_cases q : 0 < way n ab s ∧ pop s = k
    · rw [if_neg (by omega), if_pos q.2, if_pos q]
      exact (cl_sets_L hA hT hk r (s + 1) m (acc + 1) (by omega) (by omega)).trans (by rw [Nat.add_assoc])
    · have hres : (if way n ab s ≤ 0 then (fun a0 a1 a2 => f_X7_setsOfFirst_11_L4 M m a0 a1 a2) (nI k) (nI acc) (nI (s + 1)) else if pop s = k then (fun a0 a1 a2 => f_X7_setsOfFirst_11_L4 M m a0 a1 a2) (nI k) (nI (acc + 1)) (nI (s + 1)) else (fun a0 a1 a2 => f_X7_setsOfFirst_11_L4 M m a0 a1 a2) (nI k) (nI acc) (nI (s + 1))) = f_X7_setsOfFirst_11_L4 M m (nI k) (nI acc) (nI (s + 1)) := by
        by_cases q1 : way n ab s ≤ 0
        · rw [if_pos q1]
        · rw [if_neg q1, if_neg (fun h => q ⟨by omega, h⟩)]
      rw [hres, if_neg q, Nat.zero_add]
      exact cl_sets_L hA hT hk r (s + 1) m acc (by omega) (by omega)
theorem cl_sets (hA : okA n ab) (hT : TL n ab M) (hE : ext n ab n 0 ≠ []) {k : Nat} (hk : k ≤ n) : f_X7_setsOfFirst_11 (nI k) M = some (nI (nCd n 5 k (ext n ab n 0))) := by
  have h8 := hA.1
  have h256 := pow_n hA.1
  have h1 := cl_sets_L hA hT (k := k) (by omega) (2 ^ n) 0 FU 0 (by omega) (by unfold FU; omega)
  have e : nCd n 5 k (ext n ab n 0) = su (fun S => if 0 < way n ab S ∧ pop S = k then 1 else 0) (2 ^ n) 0 := by
    unfold nCd
    have hs := su_split (fun c => (sn n 5 k (ext n ab n 0) c).toNat) (2 ^ n) (256 - 2 ^ n) 0
    rw [show 2 ^ n + (256 - 2 ^ n) = 256 by omega] at hs
    rw [hs, su_0 (256 - 2 ^ n) (0 + 2 ^ n) (fun c hc _ => by
      show (sn n 5 k (ext n ab n 0) c).toNat = 0
      cases hq : sn n 5 k (ext n ab n 0) c
      · rfl
      · have := rch_lt h8 ((sn_5 h8 hE hk c).mp hq).1; omega), Nat.add_zero]
    refine su_congr (2 ^ n) 0 (fun S _ _ => ?_)
    have hi := sn_5 h8 hE hk S
    rw [← way_pos n ab h8 S] at hi
    by_cases q : 0 < way n ab S ∧ pop S = k
    · rw [if_pos q, hi.mpr q]; rfl
    · rw [if_neg q, Bool.eq_false_iff.mpr (fun h => q (hi.mp h))]; rfl
  rw [Nat.zero_add, ← e] at h1
  exact h1
/-- kind 6: whether one is last -/
theorem cl_last (hA : okA n ab) (hT : TL n ab M) (hE : ext n ab n 0 ≠ []) (h1 : 1 ≤ n) {k : Nat} (hk : k < n) : f_X7_lastOrNot_11 (nI k) M = some (nI (nCd n 6 k (ext n ab n 0))) := by
  have h8 := hA.1
  have h256 := pow_n hA.1
  have hm := msk_lt (atP (ext n ab n 0) (n - 1)) n
  have e6 : ∀ o, codeF n 6 k o = if o (n - 1) = k then 1 else 0 := fun o => rfl
  have s1 : sn n 6 k (ext n ab n 0) 1 = atP (ext n ab n 0) (n - 1) k := by
    unfold sn atP
    congr 1
    funext o
    rw [e6]
    by_cases q : oL o (n - 1) = k <;> simp [q]
  have s0 : sn n 6 k (ext n ab n 0) 0 = true ↔ ∃ p, p < n ∧ p ≠ k ∧ atP (ext n ab n 0) (n - 1) p = true := by
    unfold sn
    rw [List.any_eq_true]
    simp only [decide_eq_true_eq, e6]
    constructor
    · rintro ⟨o, ho, h⟩
      have hne : oL o (n - 1) ≠ k := fun q => by rw [if_pos q] at h; cases h
      exact ⟨oL o (n - 1), ((permL (ext_ok h8 ho)).1 (n - 1) (by omega)).1, hne, (atP_iff _ _ _).mpr ⟨o, ho, rfl⟩⟩
    · rintro ⟨p, hp, hne, h⟩
      obtain ⟨o, ho, e⟩ := (atP_iff _ _ _).mp h
      exact ⟨o, ho, by rw [if_neg (by rw [e]; exact hne)]⟩
  have hN : nCd n 6 k (ext n ab n 0) = (sn n 6 k (ext n ab n 0) 0).toNat + (sn n 6 k (ext n ab n 0) 1).toNat := by
    unfold nCd
    have hs := su_split (fun c => (sn n 6 k (ext n ab n 0) c).toNat) 2 254 0
    rw [hs, su_0 254 (0 + 2) (fun c hc _ => by
      show (sn n 6 k (ext n ab n 0) c).toNat = 0
      have : sn n 6 k (ext n ab n 0) c = false := by
        unfold sn
        rw [List.any_eq_false]
        intro o _
        rw [e6]
        simp only [decide_eq_true_eq]
        split <;> omega
      rw [this]; rfl), Nat.add_zero]
    simp [su]
  unfold f_X7_lastOrNot_11 f_X7_lastOrNot_11_b33
  rw [hT.1.1, n_pm h1, cl_who hA hT hE (by omega), bd_s, lt_e, n_shl1 k (by omega), n_b1 (by omega) (by omega), tb_msk, decide_eq_true hk, Bool.true_and]
  simp only [n_sub0 (show msk (atP (ext n ab n 0) (n - 1)) n < 2147483648 by omega)]
  rw [hN, s1]
  have hz : (msk (atP (ext n ab n 0) (n - 1)) n &&& 2 ^ k = msk (atP (ext n ab n 0) (n - 1)) n) ↔ sn n 6 k (ext n ab n 0) 0 = false := by
    rw [land_sub, ← Bool.not_eq_true, s0]
    constructor
    · rintro h ⟨p, hp, hne, h2⟩
      have := h p (by rw [tb_msk, decide_eq_true hp, h2]; rfl)
      rw [Nat.testBit_two_pow, decide_eq_true_eq] at this
      exact hne this.symm
    · intro h p hp
      rw [tb_msk, Bool.and_eq_true, decide_eq_true_eq] at hp
      rw [Nat.testBit_two_pow, decide_eq_true_eq]
      by_cases q : k = p
      · exact q
      · exact absurd ⟨p, hp.1, fun e => q e.symm, hp.2⟩ h
  by_cases q : msk (atP (ext n ab n 0) (n - 1)) n &&& 2 ^ k = msk (atP (ext n ab n 0) (n - 1)) n
  · rw [if_pos q, hz.mp q]
    cases atP (ext n ab n 0) (n - 1) k <;> rfl
  · rw [if_neg q]
    have : sn n 6 k (ext n ab n 0) 0 = true := by
      by_cases c : sn n 6 k (ext n ab n 0) 0 = true
      · exact c
      · exact absurd (hz.mpr (by simpa using c)) q
    rw [this]
    cases atP (ext n ab n 0) (n - 1) k <;> rfl
end KND
