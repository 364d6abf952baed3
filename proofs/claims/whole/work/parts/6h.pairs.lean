/-! questions: pairs, and all kinds together -/
section PRS
variable {n : Nat} {ab : Nat → Nat} {M : Mem}
theorem su_shift (g : Nat → Nat) : ∀ k j d, su g k (j + d) = su (fun i => g (i + d)) k j
  | 0, _, _ => rfl
  | k + 1, j, d => by
    rw [su, su, show j + d + 1 = (j + 1) + d by omega, su_shift g k (j + 1) d]
theorem su_blk (g : Nat → Nat) (b : Nat) : ∀ k, su g (k * b) 0 = su (fun p => su (fun q => g (b * p + q)) b 0) k 0
  | 0 => by simp [su]
  | k + 1 => by
    rw [Nat.succ_mul, su_split, su_blk g b k, su_last, Nat.zero_add, Nat.zero_add]
    congr 1
    have := su_shift g b 0 (k * b)
    rw [Nat.zero_add] at this
    rw [this]
    exact su_congr b 0 (fun i _ _ => by rw [Nat.mul_comm b k, Nat.add_comm])
/-- pairs told by 10 times the one and the other -/
theorem nCd_pairs (hn : n ≤ 8) {kn ak : Nat} {E : List (List Nat)} (R : Nat → Nat → Bool) (hR : ∀ p q, R p q = true → p < n ∧ q < n) (h : ∀ p q, q < 10 → sn n kn ak E (10 * p + q) = R p q) : nCd n kn ak E = su (fun p => su (fun q => (R p q).toNat) n 0) n 0 := by
  unfold nCd
  have e1 := su_split (fun c => (sn n kn ak E c).toNat) 250 6 0
  have hz : ∀ c, 100 ≤ c → (sn n kn ak E c).toNat = 0 := fun c hc => by
    have := h (c / 10) (c % 10) (by omega)
    rw [Nat.div_add_mod] at this
    rw [this]
    cases hr : R (c / 10) (c % 10)
    · rfl
    · have := (hR _ _ hr).1; omega
  rw [show 250 + 6 = 256 from rfl] at e1
  rw [e1, su_0 6 (0 + 250) (fun c hc _ => hz c (by omega)), Nat.add_zero, show 250 = 25 * 10 from rfl, su_blk]
  have e2 := su_split (fun p => su (fun q => (sn n kn ak E (10 * p + q)).toNat) 10 0) n (25 - n) 0
  rw [show n + (25 - n) = 25 by omega] at e2
  rw [e2, su_0 (25 - n) (0 + n) (fun p hp _ => su_0 10 0 (fun q _ hq => by
    show (sn n kn ak E (10 * p + q)).toNat = 0
    rw [h p q (by omega)]
    cases hr : R p q
    · rfl
    · have := (hR _ _ hr).1; omega)), Nat.add_zero]
  refine su_congr n 0 (fun p _ _ => ?_)
  have e3 := su_split (fun q => (sn n kn ak E (10 * p + q)).toNat) n (10 - n) 0
  rw [show n + (10 - n) = 10 by omega] at e3
  rw [e3, su_0 (10 - n) (0 + n) (fun q hq hq2 => by
    show (sn n kn ak E (10 * p + q)).toNat = 0
    rw [h p q (by omega)]
    cases hr : R p q
    · rfl
    · have := (hR _ _ hr).2; omega), Nat.add_zero]
  exact su_congr n 0 (fun q _ hq => by rw [h p q (by omega)])
theorem pop_mskn (hn : n ≤ 8) (P : Nat → Bool) : pop (msk P n) = su (fun c => (P c).toNat) n 0 := by
  rw [pop_msk hn]
  have e := su_split (fun c => (decide (c < n) && P c).toNat) n (256 - n) 0
  rw [show n + (256 - n) = 256 by omega] at e
  rw [e, su_0 (256 - n) (0 + n) (fun c hc _ => by show (decide (c < n) && P c).toNat = 0; rw [decide_eq_false (by omega)]; rfl), Nat.add_zero]
  exact su_congr n 0 (fun c _ hc => by rw [decide_eq_true (show c < n by omega), Bool.true_and])
/-- kind 1 -/
theorem cl_sec_L (hA : okA n ab) (hC : CO n ab M) : ∀ (r p m acc : Nat), p + r = n → r < m → f_X7_bestAndSecond_11_L20 M m (nI (msk (fl ab 0) n)) (nI acc) (nI p) = some (nI (acc + su (fun p => if fl ab 0 p = true then pop (msk (fl ab (2 ^ p)) n) else 0) r p))
  | 0, p, m, acc, h, hm => by
    have h8 := hA.1
    obtain ⟨m, rfl⟩ : ∃ m2, m = m2 + 1 := ⟨m - 1, by omega⟩
    rw [f_X7_bestAndSecond_11_L20, hC.1, if_pos ((n_le (by omega) (by omega)).mpr (by omega))]
    rfl
  | r + 1, p, m, acc, h, hm => by
    have h8 := hA.1
    obtain ⟨m, rfl⟩ : ∃ m2, m = m2 + 1 := ⟨m - 1, by omega⟩
    have hm8 := msk_8 hA (fl ab 0)
    have hm9 := msk_8 hA (fl ab (2 ^ p))
    have hp8 : 2 ^ p < 2 ^ 8 := Nat.pow_lt_pow_right (by omega) (by omega)
    rw [f_X7_bestAndSecond_11_L20, hC.1, if_neg (by rw [n_le (by omega) (by omega)]; omega), n_b1 (by omega) (by omega), tb_msk, decide_eq_true (show p < n by omega), Bool.true_and, n_shl1 p (by omega), s_foll hA hC (by omega), bd_s, cl_bits (by omega), bd_s, n_add, lt_e, su]
    simp only [bb_1]
    unfold f_X7_bestAndSecond_11_b50
    rw [n_s1]
    by_cases q : fl ab 0 p = true
    · rw [if_pos q, if_pos q]
      exact (cl_sec_L hA hC r (p + 1) m (acc + pop (msk (fl ab (2 ^ p)) n)) (by omega) (by omega)).trans (by rw [Nat.add_assoc])
    · rw [if_neg q, if_neg q, Nat.zero_add]
      exact cl_sec_L hA hC r (p + 1) m acc (by omega) (by omega)
theorem sec_iff (hn : n ≤ 8) (hE : ext n ab n 0 ≠ []) (h2 : 2 ≤ n) (p q : Nat) : (∃ o ∈ ext n ab n 0, oL o 0 = p ∧ oL o 1 = q) ↔ (p < n ∧ q < n ∧ fl ab 0 p = true ∧ fl ab (2 ^ p) q = true) := by
  constructor
  · rintro ⟨o, ho, rfl, rfl⟩
    have hp := permL (ext_ok hn ho)
    have h0 := fl_take hn ho (k := 0) (by omega)
    have h1 := fl_take hn ho (k := 1) (by omega)
    have hl := (ext_ok hn ho).1
    have e1 : o.take 1 = [oL o 0] := by
      cases o with
      | nil => simp at hl; omega
      | cons x y => rfl
    rw [e1] at h1
    have e2 : st 0 [oL o 0] = 2 ^ oL o 0 := Nat.zero_or _
    rw [e2] at h1
    exact ⟨(hp.1 0 (by omega)).1, (hp.1 1 (by omega)).1, h0, h1⟩
  · rintro ⟨a1, a2, a3, a4⟩
    obtain ⟨o, ho⟩ := List.exists_mem_of_ne_nil _ hE
    obtain ⟨r, hr⟩ := ord_ext hn ho (l := [p, q]) (fun x hx => by
      simp only [List.mem_cons, List.not_mem_nil, or_false] at hx
      rcases hx with rfl | rfl <;> assumption) (by simp [vld, a3, a4])
    exact ⟨_, hr, rfl, rfl⟩
theorem cl_sec (hA : okA n ab) (hC : CO n ab M) (hE : ext n ab n 0 ≠ []) (h1 : 1 ≤ n) : f_X7_bestAndSecond_11 M = some (nI (nCd n 1 0 (ext n ab n 0))) := by
  have h8 := hA.1
  have e1 : (nI n = 1) = (n = 1) := propext (n_eq (b := 1) (by omega) (by omega))
  unfold f_X7_bestAndSecond_11
  rw [hC.1]
  simp only [e1]
  by_cases q1 : n = 1
  · rw [if_pos q1]
    have hs : ∀ c, c < 256 → sn n 1 0 (ext n ab n 0) c = (decide (c < n) && (fun c => decide (c = 0)) c) := fun c _ => by
      rw [Bool.eq_iff_iff]
      unfold sn
      rw [List.any_eq_true]
      have e : ∀ o, codeF n 1 0 o = o 0 := fun o => by unfold codeF; rw [if_neg (by decide), if_pos rfl, if_pos (by omega)]
      simp only [decide_eq_true_eq, e, Bool.and_eq_true]
      constructor
      · rintro ⟨o, ho, rfl⟩
        have := ((permL (ext_ok h8 ho)).1 0 (by omega)).1
        omega
      · rintro ⟨-, rfl⟩
        obtain ⟨o, ho⟩ := List.exists_mem_of_ne_nil _ hE
        have := ((permL (ext_ok h8 ho)).1 0 (by omega)).1
        exact ⟨o, ho, by omega⟩
    rw [nCd_msk h8 _ hs, q1]
    rfl
  · rw [if_neg q1, show (0 : Int32) = nI 0 from rfl, s_foll hA hC (by omega), bd_s]
    have hf := cl_sec_L hA hC n 0 FU 0 (by omega) (by unfold FU; omega)
    rw [Nat.zero_add] at hf
    have hN := nCd_pairs h8 (kn := 1) (ak := 0) (E := ext n ab n 0) (fun p q => decide (p < n) && decide (q < n) && fl ab 0 p && fl ab (2 ^ p) q) (fun p q h => by simp only [Bool.and_eq_true, decide_eq_true_eq] at h; exact ⟨h.1.1.1, h.1.1.2⟩) (fun p q hq => by
      rw [Bool.eq_iff_iff]
      have hs := sec_iff h8 hE (by omega) p q
      simp only [Bool.and_eq_true, decide_eq_true_eq]
      unfold sn
      rw [List.any_eq_true]
      have e : ∀ o, codeF n 1 0 o = 10 * o 0 + o 1 := fun o => by unfold codeF; rw [if_neg (by decide), if_pos rfl, if_neg (by omega)]
      simp only [decide_eq_true_eq, e]
      constructor
      · rintro ⟨o, ho, h⟩
        have hp := permL (ext_ok h8 ho)
        have l1 := (hp.1 1 (by omega)).1
        obtain ⟨a, b, c, d⟩ := hs.mp ⟨o, ho, by omega, by omega⟩
        exact ⟨⟨⟨a, b⟩, c⟩, d⟩
      · rintro ⟨⟨⟨a, b⟩, c⟩, d⟩
        obtain ⟨o, ho, h1, h2⟩ := hs.mpr ⟨a, b, c, d⟩
        exact ⟨o, ho, by omega⟩)
    have hv : su (fun p => if fl ab 0 p = true then pop (msk (fl ab (2 ^ p)) n) else 0) n 0 = su (fun p => su (fun q => (decide (p < n) && decide (q < n) && fl ab 0 p && fl ab (2 ^ p) q).toNat) n 0) n 0 := su_congr n 0 (fun p _ hp => by
      by_cases c : fl ab 0 p = true
      · rw [if_pos c, pop_mskn h8]
        exact su_congr n 0 (fun q _ hq => by simp [c, show p < n by omega, show q < n by omega])
      · rw [if_neg c]
        exact (su_0 n 0 (fun q _ _ => by simp [c])).symm)
    rw [hf, hv, hN]
/-- kind 3: the best one and the last -/
theorem las_iff (hn : n ≤ 8) (h2 : 2 ≤ n) (b l : Nat) : (∃ o ∈ ext n ab n 0, oL o 0 = b ∧ oL o (n - 1) = l) ↔ (b ≠ l ∧ b < n ∧ fl ab 0 b = true ∧ ∃ o ∈ ext n ab n 0, oL o (n - 1) = l) := by
  constructor
  · rintro ⟨o, ho, rfl, rfl⟩
    have hp := permL (ext_ok hn ho)
    refine ⟨fun e => ?_, (hp.1 0 (by omega)).1, fl_take hn ho (k := 0) (by omega), o, ho, rfl⟩
    have a1 := (hp.1 0 (by omega)).2
    have a2 := (hp.1 (n - 1) (by omega)).2
    rw [e, a2] at a1
    omega
  · rintro ⟨h3, h4, h5, o, ho, h6⟩
    have hk := ext_ok hn ho
    have ov := ((mem_ext n ab n 0 o).mp ho).2.2
    have es : o = o.take (n - 1) ++ [l] := by
      have hd := drop_cons hk.1 (k := n - 1) (by omega)
      rw [h6, show n - 1 + 1 = n by omega, ← hk.1, List.drop_length, hk.1] at hd
      rw [← hd, List.take_append_drop]
    have hv : vld ab (2 ^ b) (o.filter (fun p => !(2 ^ b).testBit p)) = true := vld_fill (2 ^ b) o 0 (2 ^ b) ov (fun i => by rw [Nat.zero_testBit, Bool.or_false])
    have hm : b :: o.filter (fun p => !(2 ^ b).testBit p) ∈ ext n ab n 0 := by
      refine full_mem hn (fun p hp => ?_) ?_ (fun i hi => ?_)
      · rcases List.mem_cons.mp hp with rfl | hp
        · exact h4
        · exact hk.2.2.1 p (List.mem_filter.mp hp).1
      · rw [vld, h5, Bool.true_and, Nat.zero_or]; exact hv
      · by_cases e : i = b
        · rw [e]; exact List.mem_cons_self
        · refine List.mem_cons_of_mem _ (List.mem_filter.mpr ⟨hk.2.2.2 i hi, ?_⟩)
          rw [Nat.testBit_two_pow, decide_eq_false (fun h => e h.symm)]; rfl
    refine ⟨_, hm, rfl, ?_⟩
    have hl2 := (ext_ok hn hm).1
    rw [es, List.filter_append] at hl2 ⊢
    have e3 : [l].filter (fun p => !(2 ^ b).testBit p) = [l] := by
      rw [List.filter_cons_of_pos (by rw [Nat.testBit_two_pow, decide_eq_false h3]; rfl)]; rfl
    rw [e3] at hl2 ⊢
    rw [← List.cons_append] at hl2 ⊢
    exact oL_app1 (by simp at hl2 ⊢; omega)
theorem cl_las (hA : okA n ab) (hT : TL n ab M) (hE : ext n ab n 0 ≠ []) (h1 : 1 ≤ n) : f_X7_bestAndLast_11 M = some (nI (nCd n 3 0 (ext n ab n 0))) := by
  have h8 := hA.1
  have e1 : (nI n = 1) = (n = 1) := propext (n_eq (b := 1) (by omega) (by omega))
  have e3 : ∀ o, codeF n 3 0 o = 10 * o 0 + o (n - 1) := fun o => rfl
  unfold f_X7_bestAndLast_11
  rw [hT.1.1]
  simp only [e1]
  by_cases q1 : n = 1
  · rw [if_pos q1]
    have hs : ∀ c, c < 256 → sn n 3 0 (ext n ab n 0) c = (decide (c < n) && (fun c => decide (c = 0)) c) := fun c _ => by
      rw [Bool.eq_iff_iff]
      unfold sn
      rw [List.any_eq_true]
      simp only [decide_eq_true_eq, e3, Bool.and_eq_true]
      have key : ∀ o ∈ ext n ab n 0, 10 * oL o 0 + oL o (n - 1) = 0 := fun o ho => by
        have a1 := ((permL (ext_ok h8 ho)).1 0 (by omega)).1
        have a2 := ((permL (ext_ok h8 ho)).1 (n - 1) (by omega)).1
        omega
      constructor
      · rintro ⟨o, ho, rfl⟩
        have := key o ho
        omega
      · rintro ⟨-, rfl⟩
        obtain ⟨o, ho⟩ := List.exists_mem_of_ne_nil _ hE
        exact ⟨o, ho, key o ho⟩
    rw [nCd_msk h8 _ hs, q1]
    rfl
  · have hm1 := msk_8 hA (fl ab 0)
    have hm2 := msk_8 hA (atP (ext n ab n 0) (n - 1))
    have hm3 : msk (fl ab 0) n &&& msk (atP (ext n ab n 0) (n - 1)) n ≤ msk (fl ab 0) n := Nat.and_le_left
    rw [if_neg q1, show (0 : Int32) = nI 0 from rfl, s_foll hA hT.1 (by omega), bd_s, n_pm h1, cl_who hA hT hE (by omega), bd_s, cl_bits (by omega), bd_s, cl_bits (by omega), bd_s, n_and, cl_bits (by omega), bd_s, n_mul]
    have eand : msk (fl ab 0) n &&& msk (atP (ext n ab n 0) (n - 1)) n = msk (fun p => fl ab 0 p && atP (ext n ab n 0) (n - 1) p) n := by
      apply Nat.eq_of_testBit_eq
      intro i
      rw [Nat.testBit_and, tb_msk, tb_msk, tb_msk]
      cases decide (i < n) <;> cases fl ab 0 i <;> rfl
    rw [eand]
    have hN := nCd_pairs h8 (kn := 3) (ak := 0) (E := ext n ab n 0) (fun b l => decide (b < n) && decide (l < n) && !(decide (b = l)) && fl ab 0 b && atP (ext n ab n 0) (n - 1) l) (fun p q h => by simp only [Bool.and_eq_true, decide_eq_true_eq] at h; exact ⟨h.1.1.1.1, h.1.1.1.2⟩) (fun p q hq => by
      rw [Bool.eq_iff_iff]
      have hs := las_iff (ab := ab) h8 (by omega) p q
      simp only [Bool.and_eq_true, decide_eq_true_eq, Bool.not_eq_true', decide_eq_false_iff_not]
      rw [atP_iff]
      unfold sn
      rw [List.any_eq_true]
      simp only [decide_eq_true_eq, e3]
      constructor
      · rintro ⟨o, ho, h⟩
        have hp := permL (ext_ok h8 ho)
        have l1 := (hp.1 (n - 1) (by omega)).1
        obtain ⟨a, b, c, d⟩ := hs.mp ⟨o, ho, by omega, by omega⟩
        exact ⟨⟨⟨⟨b, by omega⟩, a⟩, c⟩, d⟩
      · rintro ⟨⟨⟨⟨a, b⟩, c⟩, d⟩, e⟩
        obtain ⟨o, ho, h1, h2⟩ := hs.mpr ⟨c, a, d, e⟩
        exact ⟨o, ho, by omega⟩)
    rw [hN, pop_mskn h8, pop_mskn h8, pop_mskn h8]
    generalize hL : su (fun c => (atP (ext n ab n 0) (n - 1) c).toNat) n 0 = Lc
    have hrow : ∀ b, b < n → su (fun l => (decide (b < n) && decide (l < n) && !(decide (b = l)) && fl ab 0 b && atP (ext n ab n 0) (n - 1) l).toNat) n 0 + ((fl ab 0 b && atP (ext n ab n 0) (n - 1) b).toNat) = (fl ab 0 b).toNat * Lc := by
      intro b hb
      cases hf : fl ab 0 b
      · rw [su_0 n 0 (fun l _ _ => by simp)]
        simp
      · have e5 := su_one (p := b) (x := (atP (ext n ab n 0) (n - 1) b).toNat) n 0 (by omega) (by omega)
        rw [Bool.true_and, Bool.toNat_true, Nat.one_mul, ← hL, ← e5, ← su_add]
        refine su_congr n 0 (fun l _ hl => ?_)
        by_cases e : l = b
        · subst e; simp
        · simp [e, hb, show l < n by omega, Ne.symm e]
    have hsum : su (fun b => su (fun l => (decide (b < n) && decide (l < n) && !(decide (b = l)) && fl ab 0 b && atP (ext n ab n 0) (n - 1) l).toNat) n 0) n 0 + su (fun b => (fl ab 0 b && atP (ext n ab n 0) (n - 1) b).toNat) n 0 = su (fun b => (fl ab 0 b).toNat * Lc) n 0 := by
      rw [← su_add]
      exact su_congr n 0 (fun b _ hb => hrow b (by omega))
    have hmul : ∀ k j, su (fun b => (fl ab 0 b).toNat * Lc) k j = su (fun b => (fl ab 0 b).toNat) k j * Lc := by
      intro k
      induction k with
      | zero => intro j; simp [su]
      | succ k ih => intro j; rw [su, su, ih, Nat.add_mul]
    rw [hmul] at hsum
    have b1 := su_le (g := fun b => (fl ab 0 b).toNat) (b := 1) n 0 (fun i _ _ => by show (fl ab 0 i).toNat ≤ 1; cases fl ab 0 i <;> decide)
    have b2 := su_le (g := fun c => (atP (ext n ab n 0) (n - 1) c).toNat) (b := 1) n 0 (fun i _ _ => by show (atP (ext n ab n 0) (n - 1) i).toNat ≤ 1; cases atP (ext n ab n 0) (n - 1) i <;> decide)
    rw [hL] at b2
    have b3 : su (fun b => (fl ab 0 b).toNat) n 0 * Lc ≤ 8 * 8 := Nat.mul_le_mul (by omega) (by omega)
    have hv : nI (su (fun b => (fl ab 0 b).toNat) n 0 * Lc) - nI (su (fun b => (fl ab 0 b && atP (ext n ab n 0) (n - 1) b).toNat) n 0) = nI (su (fun b => su (fun l => (decide (b < n) && decide (l < n) && !(decide (b = l)) && fl ab 0 b && atP (ext n ab n 0) (n - 1) l).toNat) n 0) n 0) := by
      rw [i_eq, n_toInt (by omega), pk_sub_toInt (by omega) (by omega)]
      omega
    rw [hv]
/-- all kinds -/
def ansN (n : Nat) (ab : Nat → Nat) (kn ak : Nat) : Nat := if kn = 4 then (ext n ab n 0).length else nCd n kn ak (ext n ab n 0)
theorem cl_answers (hA : okA n ab) (hT : TL n ab M) {kn ak : Nat} (hQ : okQ n kn ak) (h6 : kn = 6 → ak < n) (h0 : (kn = 0 ∨ kn = 1 ∨ kn = 3 ∨ kn = 4) → ak = 0) : f_X7_answers_11 (nI kn) (nI ak) M = some (nI (ansN n ab kn ak)) := by
  obtain ⟨q1, q2, q3, q4, q5, q6⟩ := hQ
  have hm1 := msk_8 hA (fl ab 0)
  have e : ∀ j, j ≤ 6 → (nI kn = nI j) = (kn = j) := fun j hj => propext (n_eq (by omega) (by omega))
  have e0 : (nI kn = 0) = (kn = 0) := e 0 (by omega)
  have e1 : (nI kn = 1) = (kn = 1) := e 1 (by omega)
  have e2 : (nI kn = 2) = (kn = 2) := e 2 (by omega)
  have e3 : (nI kn = 3) = (kn = 3) := e 3 (by omega)
  have e4 : (nI kn = 4) = (kn = 4) := e 4 (by omega)
  have e5 : (nI kn = 5) = (kn = 5) := e 5 (by omega)
  unfold f_X7_answers_11 ansN
  rw [s_allC hA hT, bd_s]
  simp only [len_0 q3, e0, e1, e2, e3, e4, e5]
  by_cases c : (ext n ab n 0).length = 0
  · rw [if_pos c, List.length_eq_zero_iff.mp c, nCd_0]
    split <;> rfl
  · have hE : ext n ab n 0 ≠ [] := fun h => c (by rw [h]; rfl)
    have hat : ∀ k, k < n → nCd n 2 k (ext n ab n 0) = pop (msk (atP (ext n ab n 0) k) n) := fun k hk => nCd_msk q3 _ (fun c _ => by
      have : sn n 2 k (ext n ab n 0) c = atP (ext n ab n 0) k c := rfl
      rw [this]
      cases h : atP (ext n ab n 0) k c
      · rw [Bool.and_false]
      · rw [decide_eq_true (atP_lt q3 hk h)]; rfl)
    rw [if_neg c]
    by_cases c0 : kn = 0
    · have ha := h0 (Or.inl c0)
      have : nCd n 0 0 (ext n ab n 0) = nCd n 2 0 (ext n ab n 0) := rfl
      rw [if_pos c0, if_neg (by omega), c0, ha, this, hat 0 (by omega), show (0 : Int32) = nI 0 from rfl, s_foll hA hT.1 (by omega), bd_s, cl_bits (by omega), bd_s, foll_0 q3 hE q2]
    rw [if_neg c0]
    by_cases c1 : kn = 1
    · have ha := h0 (Or.inr (Or.inl c1))
      rw [if_pos c1, if_neg (by omega), c1, ha, cl_sec hA hT.1 hE q2, bd_s]
    rw [if_neg c1]
    by_cases c2 : kn = 2
    · have ha := q4 c2
      have hm2 := msk_8 hA (atP (ext n ab n 0) ak)
      rw [if_pos c2, if_neg (by omega), c2, hat ak ha, cl_who hA hT hE ha, bd_s, cl_bits (by omega), bd_s]
    rw [if_neg c2]
    by_cases c3 : kn = 3
    · have ha := h0 (Or.inr (Or.inr (Or.inl c3)))
      rw [if_pos c3, if_neg (by omega), c3, ha, cl_las hA hT hE q2, bd_s]
    rw [if_neg c3]
    by_cases c4 : kn = 4
    · rw [if_pos c4, if_pos c4, bd_s]
    rw [if_neg c4, if_neg c4]
    by_cases c5 : kn = 5
    · rw [if_pos c5, c5, cl_sets hA hT hE (q5 c5), bd_s]
    · have c6 : kn = 6 := by omega
      rw [if_neg c5, c6, cl_last hA hT hE q2 (h6 c6), bd_s]
end PRS
