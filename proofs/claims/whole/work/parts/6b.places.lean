/-! places, longest, clash -/
section PLC
variable {np nm : Nat} {wo wi lo ct : Nat → Nat} {n : Nat} {ab : Nat → Nat} {M : Mem}
def plS (n : Nat) (ab : Nat → Nat) (p : Nat) : Nat → Nat
  | 0 => 0
  | s + 1 => plS n ab p s ||| (if 0 < way n ab s ∧ fl ab s p = true then 2 ^ pop s else 0)
theorem tb_plS (p i : Nat) : ∀ s, (plS n ab p s).testBit i = true ↔ ∃ S, S < s ∧ 0 < way n ab S ∧ fl ab S p = true ∧ pop S = i
  | 0 => by
    rw [plS, Nat.zero_testBit]
    constructor
    · intro h; cases h
    · rintro ⟨S, h, -⟩; omega
  | s + 1 => by
    rw [plS, Nat.testBit_or, Bool.or_eq_true, tb_plS p i s]
    by_cases q : 0 < way n ab s ∧ fl ab s p = true
    · rw [if_pos q, Nat.testBit_two_pow, decide_eq_true_eq]
      constructor
      · rintro (⟨S, h1, h2⟩ | h)
        · exact ⟨S, by omega, h2⟩
        · exact ⟨s, by omega, q.1, q.2, h⟩
      · rintro ⟨S, h1, h2, h3, h4⟩
        by_cases e : S = s
        · subst e; exact Or.inr h4
        · exact Or.inl ⟨S, by omega, h2, h3, h4⟩
    · rw [if_neg q, Nat.zero_testBit]
      constructor
      · rintro (⟨S, h1, h2⟩ | h)
        · exact ⟨S, by omega, h2⟩
        · cases h
      · rintro ⟨S, h1, h2, h3, h4⟩
        have : S ≠ s := fun e => by subst e; exact q ⟨h2, h3⟩
        exact Or.inl ⟨S, by omega, h2, h3, h4⟩
theorem pop_ltn : ∀ n, n < 9 → ∀ S, S < 256 → S < 2 ^ n → pop S ≤ n := by decide +kernel
theorem pop_lt8 : ∀ S, S < 256 → pop S ≤ 8 := by decide +kernel
theorem plS_lt (h256 : 2 ^ n ≤ 256) (p : Nat) : ∀ s, s ≤ 2 ^ n → plS n ab p s < 2 ^ 9
  | 0, _ => by rw [plS]; decide
  | s + 1, h => by
    rw [plS]
    have ih := plS_lt h256 p s (by omega)
    split
    · exact or_lt ih (by have := pop_lt8 s (by omega); omega)
    · rw [Nat.or_zero]; exact ih
theorem cl_plc_L (hA : okA n ab) (hT : TL n ab M) {p : Nat} (hp : p < n) : ∀ (r s m : Nat), s + r = 2 ^ n - 1 → r < m → f_X7_placesOf_L4 M m (nI p) (nI (plS n ab p s)) (nI s) = some (nI (plS n ab p (2 ^ n - 1)))
  | 0, s, m, h, hm => by
    have h256 := pow_n hA.1
    have hp0 := Nat.two_pow_pos n
    obtain ⟨m, rfl⟩ : ∃ m2, m = m2 + 1 := ⟨m - 1, by omega⟩
    rw [f_X7_placesOf_L4, hT.1.2.1, if_pos ((n_le (by omega) (by omega)).mpr (by omega)), show s = 2 ^ n - 1 by omega]
  | r + 1, s, m, h, hm => by
    have h8 := hA.1
    have h256 := pow_n hA.1
    have hp0 := Nat.two_pow_pos n
    obtain ⟨m, rfl⟩ : ∃ m2, m = m2 + 1 := ⟨m - 1, by omega⟩
    have hw := way_le n ab h8 (show s < 2 ^ n by omega)
    have hm8 := msk_8 hA (fl ab s)
    have hps := pop_lt8 s (by omega)
    have e0 : (nI (way n ab s) ≤ 0) = (way n ab s ≤ 0) := propext (n_le (b := 0) (by omega) (by omega))
    have ih := cl_plc_L hA hT hp r (s + 1) m (by omega) (by omega)
    rw [plS] at ih
    rw [f_X7_placesOf_L4, hT.1.2.1, if_neg (by rw [n_le (by omega) (by omega)]; omega), ck_t (okI_13 (by omega)), n_clamp (by omega), hT.2 s (by omega), s_foll hA hT.1 (by omega), bd_s, n_b1 (by omega) (by omega), tb_msk, decide_eq_true hp, Bool.true_and, cl_bits (by omega), bd_s, n_shl1 _ (by omega), n_or, lt_e]
    simp only [e0, bb_1]
    unfold f_X7_placesOf_b43
    rw [n_s1]
    by_cases q1 : way n ab s ≤ 0
    · rw [if_neg (fun h => by omega), Nat.or_zero] at ih
      rw [if_pos q1]; exact ih
    · rw [if_neg q1]
      by_cases q2 : fl ab s p = true
      · rw [if_pos ⟨by omega, q2⟩] at ih
        rw [if_pos q2]; exact ih
      · rw [if_neg (fun h => q2 h.2), Nat.or_zero] at ih
        rw [if_neg q2]; exact ih
theorem plS_plL (hn : n ≤ 8) (hE : ext n ab n 0 ≠ []) {p : Nat} (hp : p < n) : plS n ab p (2 ^ n - 1) = plL n (ext n ab n 0) p := by
  have h256 := pow_n hn
  have hp0 := Nat.two_pow_pos n
  apply Nat.eq_of_testBit_eq
  intro i
  rw [Bool.eq_iff_iff, tb_plS]
  unfold plL
  rw [tb_msk, Bool.and_eq_true, decide_eq_true_eq, List.any_eq_true]
  simp only [decide_eq_true_eq]
  constructor
  · rintro ⟨S, h1, h2, h3, h4⟩
    have hr := (way_pos n ab hn S).mp h2
    have hi : i < n := by
      have h5 := fl_f h3
      have h6 := pop_or0 S (by omega) p (by omega) h5
      have h7 : S ||| 2 ^ p < 2 ^ n := or_lt (by omega) hp
      have h8 : pop (S ||| 2 ^ p) ≤ n := pop_ltn n (by omega) _ (by omega) h7
      omega
    exact ⟨hi, (at_iff hn hE hp hi).mpr ⟨S, hr, h4, h3⟩⟩
  · rintro ⟨hi, ho⟩
    obtain ⟨S, h1, h2, h3⟩ := (at_iff hn hE hp hi).mp ho
    have hS := rch_lt hn h1
    refine ⟨S, ?_, (way_pos n ab hn S).mpr h1, h3, h2⟩
    have hne : S ≠ 2 ^ n - 1 := fun e => by
      have := fl_f h3
      rw [e, Nat.testBit_two_pow_sub_one, decide_eq_true hp] at this
      cases this
    omega
def plaA (n : Nat) (E : List (List Nat)) (v : Int32) : Int32 := if inN n v = true then nI (plL n E v.toNatClampNeg) else -1
theorem cl_places (hO : OKF np nm wo wi lo ct) (hC : CF np nm wo wi lo ct M) (v : Int32) : ∃ M1, f_X10_places v M = some (plaA np (ext np (abv wi lo (cms ct nm) nm) np 0) v, M1) := by
  have h8 := hO.1
  have h256 := pow_n h8
  have hA := okA_abv hO (cms ct nm)
  obtain ⟨M2, f2, t2⟩ := cl_tallied hO hC
  unfold f_X10_places plaA
  rw [s_hasPlayer hC.1 h8, bd_s, ite_bb]
  by_cases q : inN np v = true
  · obtain ⟨p, hp, hp2, rfl⟩ := inN_t q
    rw [if_pos q, if_pos q, f2, bd_s, s_allC hA t2, bd_s, n_clamp hp2]
    simp only [len_0 h8]
    by_cases q0 : (ext np (abv wi lo (cms ct nm) nm) np 0).length = 0
    · have hE := List.length_eq_zero_iff.mp q0
      rw [if_pos q0, hE, plL_0]; exact ⟨M2, rfl⟩
    · have hE : ext np (abv wi lo (cms ct nm) nm) np 0 ≠ [] := fun e => q0 (by rw [e]; rfl)
      have hf := cl_plc_L hA t2 hp (2 ^ np - 1) 0 FU (by omega) (by unfold FU; omega)
      rw [plS_plL h8 hE hp] at hf
      rw [if_neg q0]
      unfold f_X7_placesOf
      have hf' : f_X7_placesOf_L4 M2 FU (nI p) 0 0 = _ := hf
      rw [hf', bd_s]
      exact ⟨M2, rfl⟩
  · rw [if_neg q, if_neg q]; exact ⟨M, rfl⟩
theorem mo_places (hR : okR M) (hO : OKF np nm wo wi lo ct) (hC : MF np nm wo wi lo ct M) (h32 : M.1 47 32 = 0) (v : Int32) : ∃ M1, f_X11_places v M = some (plaA np (ext np (abv wi lo (cms ct nm) nm) np 0) v, M1) := by
  have h8 := hO.1
  obtain ⟨M4, f4, c4⟩ := mo_goes (w := false) (kn := 0) (ak := 0) (g := false) hR hO hC (cms_lt hO) (fun h => by rcases h with h | h <;> cases h) (fun h => by cases h) (fun h => by cases h) (by omega) h32
  have f4' : f_X11_goesThrough (nI (cms ct nm)) (-1) 0 M = some M4 := f4
  obtain ⟨g1, g2, g3, g4, g5, g6, g7, -⟩ := c4.1
  unfold f_X11_places plaA
  rw [s_isPlayer hC.1 h8, bd_s, ite_bb]
  by_cases q : inN np v = true
  · obtain ⟨p, hp, hp2, rfl⟩ := inN_t q
    rw [if_pos q, if_pos q, s_all hC hO, bd_s, f4', bd_s, n_clamp hp2, ck_t (okI_60 (by omega)), g7 p hp]
    exact ⟨M4, rfl⟩
  · rw [if_neg q, if_neg q]; exact ⟨M, rfl⟩
/-! longest: one match more -/
theorem fl_mono {ab2 : Nat → Nat} (h : ∀ p i, (ab p).testBit i = true → (ab2 p).testBit i = true) {S p : Nat} (hf : fl ab2 S p = true) : fl ab S p = true := by
  simp only [fl, Bool.and_eq_true, Bool.not_eq_true', decide_eq_true_eq] at hf ⊢
  refine ⟨hf.1, land_sub.mpr (fun i hi => land_sub.mp hf.2 i (h p i hi))⟩
theorem ext_flt {ab2 : Nat → Nat} (h : ∀ p i, (ab p).testBit i = true → (ab2 p).testBit i = true) : ∀ d S, (ext n ab d S).filter (vld ab2 S) = ext n ab2 d S
  | 0, S => by simp [ext, vld]
  | d + 1, S => by
    rw [ext_P, ext_P]
    have key : ∀ q p, (extP n ab d S q p).filter (vld ab2 S) = extP n ab2 d S q p := by
      intro q
      induction q with
      | zero => intro p; rfl
      | succ q ih =>
        intro p
        rw [extP, extP, List.filter_append, ih]
        congr 1
        by_cases c2 : fl ab2 S p = true
        · rw [if_pos c2, if_pos (fl_mono h c2), List.filter_map, ← ext_flt h d (S ||| 2 ^ p)]
          congr 1
          congr 1
          funext l
          show (fl ab2 S p && vld ab2 (S ||| 2 ^ p) l) = _
          rw [c2, Bool.true_and]
        · rw [if_neg c2]
          split
          · rw [List.filter_map]
            have : (vld ab2 S ∘ fun l => p :: l) = fun _ => false := by
              funext l
              show (fl ab2 S p && vld ab2 (S ||| 2 ^ p) l) = false
              rw [Bool.eq_false_iff.mpr c2]; rfl
            rw [this]
            simp
          · rfl
    exact key n 0
theorem vld_iff : ∀ (l : List Nat) (S : Nat), vld ab S l = true ↔ ∀ k, k < l.length → fl ab (st S (l.take k)) (oL l k) = true
  | [], S => by simp [vld]
  | p :: l, S => by
    rw [vld, Bool.and_eq_true, vld_iff l]
    constructor
    · rintro ⟨h1, h2⟩ k hk
      cases k with
      | zero => exact h1
      | succ k => exact h2 k (by simpa using hk)
    · intro h
      refine ⟨h 0 (by simp), fun k hk => h (k + 1) (by simpa using hk)⟩
theorem mem_take {o : List Nat} (h : okL3 n o) {a k : Nat} (ha : a < n) (hk : k ≤ n) : a ∈ o.take k ↔ pL o a < k := by
  have hp := permL h
  constructor
  · intro hm
    obtain ⟨i, hi, e⟩ := List.mem_iff_getElem.mp hm
    rw [List.length_take] at hi
    rw [List.getElem_take] at e
    have hi2 : i < n := by have := h.1; omega
    have := (hp.1 i hi2).2
    unfold oL at this
    rw [List.getD_eq_getElem?_getD, List.getElem?_eq_getElem (by have := h.1; omega)] at this
    have e2 : pL o a = i := by rw [← e]; exact this
    omega
  · intro hlt
    obtain ⟨b1, b2⟩ := hp.2 a ha
    refine List.mem_iff_getElem.mpr ⟨pL o a, by rw [List.length_take]; have := h.1; omega, ?_⟩
    rw [List.getElem_take]
    unfold oL at b2
    rw [List.getD_eq_getElem?_getD, List.getElem?_eq_getElem (by have := h.1; omega)] at b2
    exact b2
theorem bt_more (hn : n ≤ 8) {a b : Nat} (ha : a < n) (hb : b < n) : (ext n (upN ab b (ab b ||| 2 ^ a)) n 0).length = btL (ext n ab n 0) a b := by
  have hmono : ∀ p i, (ab p).testBit i = true → (upN ab b (ab b ||| 2 ^ a) p).testBit i = true := by
    intro p i hi
    unfold upN
    split
    · rename_i e; subst e; rw [tb_or, hi]; rfl
    · exact hi
  rw [← ext_flt hmono n 0, ← List.countP_eq_length_filter]
  unfold btL
  refine List.countP_congr (fun o ho => ?_)
  have hk := ext_ok hn ho
  have hp := permL hk
  have ov := ((mem_ext n ab n 0 o).mp ho).2.2
  rw [decide_eq_true_eq, vld_iff]
  constructor
  · intro h
    obtain ⟨b1, b2⟩ := hp.2 b hb
    have := h (pL o b) (by rw [hk.1]; exact b1)
    rw [b2] at this
    simp only [fl, Bool.and_eq_true, decide_eq_true_eq] at this
    have h3 := land_sub.mp this.2 a (by unfold upN; rw [if_pos rfl, tb_or]; simp)
    rw [tb_st, Nat.zero_testBit, Bool.false_or, decide_eq_true_eq] at h3
    exact (mem_take hk ha (by omega)).mp h3
  · intro h k hk2
    rw [hk.1] at hk2
    have h0 := (vld_iff o 0).mp ov k (by rw [hk.1]; exact hk2)
    by_cases e : oL o k = b
    · simp only [fl, Bool.and_eq_true, Bool.not_eq_true', decide_eq_true_eq] at h0 ⊢
      refine ⟨h0.1, land_sub.mpr (fun i hi => ?_)⟩
      unfold upN at hi
      rw [if_pos e, tb_or, Bool.or_eq_true, decide_eq_true_eq] at hi
      rcases hi with hi | hi
      · rw [← e] at hi; exact land_sub.mp h0.2 i hi
      · subst hi
        rw [tb_st, Nat.zero_testBit, Bool.false_or, decide_eq_true_eq]
        have e2 : pL o b = k := by rw [← e]; exact (hp.1 k hk2).2
        exact (mem_take hk ha (by omega)).mpr (by omega)
    · have : upN ab b (ab b ||| 2 ^ a) (oL o k) = ab (oL o k) := by unfold upN; rw [if_neg e]
      unfold fl at h0 ⊢
      rw [this]
      exact h0
theorem bt_sum (hn : n ≤ 8) {a b : Nat} (ha : a < n) (hb : b < n) (hab : a ≠ b) : btL (ext n ab n 0) a b + btL (ext n ab n 0) b a = (ext n ab n 0).length := by
  unfold btL
  have e : (ext n ab n 0).countP (fun l => decide (pL l b < pL l a)) = (ext n ab n 0).countP (fun l => decide (¬ decide (pL l a < pL l b) = true)) := by
    refine List.countP_congr (fun o ho => ?_)
    have := pL_ne (ext_ok hn ho) ha hb hab
    simp only [decide_eq_true_eq]
    omega
  rw [e]
  exact (List.length_eq_countP_add_countP _).symm
def lonA (n : Nat) (E : List (List Nat)) (v : Int32) : Int32 := if pair n v = true then (if E.length = 0 then -2 else nI (if btL E (min (v / 10).toNatClampNeg (ab_rem v 10).toNatClampNeg) (max (v / 10).toNatClampNeg (ab_rem v 10).toNatClampNeg) < btL E (max (v / 10).toNatClampNeg (ab_rem v 10).toNatClampNeg) (min (v / 10).toNatClampNeg (ab_rem v 10).toNatClampNeg) then max (v / 10).toNatClampNeg (ab_rem v 10).toNatClampNeg else min (v / 10).toNatClampNeg (ab_rem v 10).toNatClampNeg)) else -1
theorem cl_longest (hO : OKF np nm wo wi lo ct) (hC : CF np nm wo wi lo ct M) (v : Int32) : ∃ M1, f_X10_longest v M = some (lonA np (ext np (abv wi lo (cms ct nm) nm) np 0) v, M1) := by
  have h8 := hO.1
  have hA := okA_abv hO (cms ct nm)
  obtain ⟨M2, f2, t2⟩ := cl_tallied hO hC
  unfold f_X10_longest lonA
  rw [s_isPair hC.1 h8, bd_s, ite_bb]
  by_cases q : pair np v = true
  · obtain ⟨a, b, ha, hb, hab, e1, e2⟩ := pair_t q h8
    rw [if_pos q, if_pos q, lt_e, lt_e, f2, bd_s, s_allC hA t2, bd_s, e1, e2, n_clamp (by omega), n_clamp (by omega)]
    simp only [len_0 h8]
    generalize hab2 : abv wi lo (cms ct nm) nm = ab at *
    by_cases q0 : (ext np ab np 0).length = 0
    · rw [if_pos q0, if_pos q0]; exact ⟨M2, rfl⟩
    · have hbig := ext_big h8 ab
      have hA2 : okA np (upN ab b (ab b ||| 2 ^ a)) := ⟨h8, fun p => by
        unfold upN
        split
        · exact or_lt (n := 8) (hA.2 b) (by omega)
        · exact hA.2 p⟩
      have hC2 : CO np (upN ab b (ab b ||| 2 ^ a)) (wI M2 12 b (nI (ab b ||| 2 ^ a))) := ⟨by simp [wI_rd, t2.1.1], by simp [wI_rd, t2.1.2.1], fun p hp => by
        rw [wI_rd]
        unfold upN
        by_cases e : p = b
        · rw [if_pos ⟨rfl, e⟩, if_pos e]
        · rw [if_neg (fun h => e h.2), if_neg e]; exact t2.1.2.2 p hp⟩
      obtain ⟨M3, f3, t3⟩ := cl_tally hA2 hC2
      have hsum := bt_sum (ab := ab) h8 ha hb hab
      have es : nI (ext np ab np 0).length - nI (btL (ext np ab np 0) a b) = nI (btL (ext np ab np 0) b a) := by
        rw [i_eq, pk_sub_toInt (by omega) (by omega), n_toInt (by omega)]
        omega
      unfold f_X7_add
      rw [if_neg q0, if_neg q0, ck_t (okI_12 (by omega)), ck_t (okI_12 (by omega)), lt_e, n_clamp (by omega), t2.1.2.2 b (by omega), n_shl1 a (by omega), n_or, bd_s, f3, bd_s, s_allC hA2 t3, bd_s, lt_e, bt_more h8 ha hb, es, n_min (by omega) (by omega)]
      simp only [n_eq (show btL (ext np ab np 0) a b < 2147483648 by omega) (show btL (ext np ab np 0) b a < 2147483648 by omega), n_le (show btL (ext np ab np 0) a b < 2147483648 by omega) (show btL (ext np ab np 0) b a < 2147483648 by omega)]
      refine ⟨M3, ?_⟩
      by_cases qab : a < b
      · rw [Nat.min_eq_left (by omega), Nat.max_eq_right (by omega)]
        by_cases c1 : btL (ext np ab np 0) a b = btL (ext np ab np 0) b a
        · rw [if_pos c1, if_neg (by omega)]
        · rw [if_neg c1]
          by_cases c2 : btL (ext np ab np 0) a b ≤ btL (ext np ab np 0) b a
          · rw [if_pos c2, if_pos (by omega)]
          · rw [if_neg c2, if_neg (by omega)]
      · rw [Nat.min_eq_right (by omega), Nat.max_eq_left (by omega)]
        by_cases c1 : btL (ext np ab np 0) a b = btL (ext np ab np 0) b a
        · rw [if_pos c1, if_neg (by omega)]
        · rw [if_neg c1]
          by_cases c2 : btL (ext np ab np 0) a b ≤ btL (ext np ab np 0) b a
          · rw [if_pos c2, if_neg (by omega)]
          · rw [if_neg c2, if_pos (by omega)]
  · rw [if_neg q, if_neg q]; exact ⟨M, rfl⟩
theorem mo_longest (hR : okR M) (hO : OKF np nm wo wi lo ct) (hC : MF np nm wo wi lo ct M) (h32 : M.1 47 32 = 0) (v : Int32) : ∃ M1, f_X11_longest v M = some (lonA np (ext np (abv wi lo (cms ct nm) nm) np 0) v, M1) := by
  have h8 := hO.1
  obtain ⟨M4, f4, c4⟩ := mo_goes (w := false) (kn := 0) (ak := 0) (g := false) hR hO hC (cms_lt hO) (fun h => by rcases h with h | h <;> cases h) (fun h => by cases h) (fun h => by cases h) (by omega) h32
  have f4' : f_X11_goesThrough (nI (cms ct nm)) (-1) 0 M = some M4 := f4
  obtain ⟨g1, g2, g3, g4, g5, g6, g7, g8, -⟩ := c4.1
  unfold f_X11_longest lonA
  by_cases q0 : v < 0
  · rw [if_pos q0, if_neg (by simp [pair, q0])]; exact ⟨M, rfl⟩
  · have ep : pair np v = two np (v / 10) (ab_rem v 10) := by simp [pair, q0]
    rw [if_neg q0, s_areTwoM hC.1 hO.1, bd_s, ite_bb, ← ep]
    by_cases q : pair np v = true
    · obtain ⟨a, b, ha, hb, hab, e1, e2⟩ := pair_t q h8
      have hbig := ext_big h8 (abv wi lo (cms ct nm) nm)
      have tail : ∀ s0 : Nat, s0 = min a b → ∃ M1, f_X11_longest_b55 v (nI s0) M4 = some ((if (ext np (abv wi lo (cms ct nm) nm) np 0).length = 0 then -2 else nI (if btL (ext np (abv wi lo (cms ct nm) nm) np 0) (min a b) (max a b) < btL (ext np (abv wi lo (cms ct nm) nm) np 0) (max a b) (min a b) then max a b else min a b)), M1) := by
        rintro s0 rfl
        have hl1 := btL_le (ext np (abv wi lo (cms ct nm) nm) np 0) (min a b) (max a b)
        have hl2 := btL_le (ext np (abv wi lo (cms ct nm) nm) np 0) (max a b) (min a b)
        have ei : (8 : Int32) * nI (min a b) + nI (max a b) = nI (8 * min a b + max a b) := by rw [show (8 : Int32) = nI 8 from rfl, n_mul, n_add]
        have ej : (8 : Int32) * nI (max a b) + nI (min a b) = nI (8 * max a b + min a b) := by rw [show (8 : Int32) = nI 8 from rfl, n_mul, n_add]
        unfold f_X11_longest_b55
        rw [e1, e2, n_sm (by omega) (by omega), lt_e, ei, ej, ck_t (okI_61 (by omega)), ck_t (okI_61 (by omega)), n_clamp (by omega), n_clamp (by omega), g8 _ _ (by omega) (by omega), g8 _ _ (by omega) (by omega), g5]
        simp only [len_0 h8, n_lt (show btL (ext np (abv wi lo (cms ct nm) nm) np 0) (min a b) (max a b) < 2147483648 by omega) (show btL (ext np (abv wi lo (cms ct nm) nm) np 0) (max a b) (min a b) < 2147483648 by omega)]
        by_cases c0 : (ext np (abv wi lo (cms ct nm) nm) np 0).length = 0
        · rw [if_pos c0, if_pos c0]; exact ⟨M4, rfl⟩
        · rw [if_neg c0, if_neg c0]
          split <;> exact ⟨M4, rfl⟩
      rw [if_pos q, if_pos q, s_all hC hO, bd_s, f4', bd_s, e1, e2, n_clamp (by omega), n_clamp (by omega)]
      simp only [n_le (show b < 2147483648 by omega) (show a < 2147483648 by omega)]
      by_cases c : b ≤ a
      · rw [if_pos c]; exact tail b (by omega)
      · rw [if_neg c]; exact tail a (by omega)
    · rw [if_neg q, if_neg q]; exact ⟨M, rfl⟩
end PLC
