/-! the search: the class's costs and what it keeps of them -/
def SM (n kn ak : Nat) (M : Mem) : Prop := M.1 14 3 = nI n ∧ M.1 14 4 = nI kn ∧ M.1 14 5 = nI ak ∧ ∀ md, md < 2 → ∀ K, OKK n K → M.1 (18 + md) (stN K) = -1 ∨ M.1 (18 + md) (stN K) = nI (CK n kn ak md K)
section CST
variable {n kn ak md : Nat} {M : Mem}
theorem grp_SM : Grp [(14, 4), (14, 5), (14, 6), (18, 0), (19, 0)] (SM n kn ak) := by
  intro M M2 h _ ⟨a, b, c, d⟩
  have e := fun c k hc => (h c k hc).1
  refine ⟨by rw [e 14 3 (in_f (by decide))]; exact a, by rw [e 14 4 (in_f (by decide))]; exact b, by rw [e 14 5 (in_f (by decide))]; exact c, fun md hm K hK => ?_⟩
  rcases show md = 0 ∨ md = 1 by omega with rfl | rfl
  · rw [e (18 + 0) _ (in_a _ (by decide))]; exact d 0 hm K hK
  · rw [e (18 + 1) _ (in_a _ (by decide))]; exact d 1 hm K hK
theorem SM.wO {c k : Nat} {v : Int32} (h : SM n kn ak M) (hc : c ≠ 14) (h8 : c ≠ 18) (h9 : c ≠ 19) : SM n kn ak (wI M c k v) := by
  obtain ⟨a, b, c2, d⟩ := h
  refine ⟨by rw [ab_wI_o (Ne.symm hc)]; exact a, by rw [ab_wI_o (Ne.symm hc)]; exact b, by rw [ab_wI_o (Ne.symm hc)]; exact c2, fun md hm K hK => ?_⟩
  rw [ab_wI_o (by omega)]
  exact d md hm K hK
theorem SM.w {K : Nat} (h : SM n kn ak M) (hm : md < 2) (hK : OKK n K) : SM n kn ak (wI M (18 + md) (stN K) (nI (CK n kn ak md K))) := by
  obtain ⟨a, b, c2, d⟩ := h
  refine ⟨by rw [ab_wI_o (by omega)]; exact a, by rw [ab_wI_o (by omega)]; exact b, by rw [ab_wI_o (by omega)]; exact c2, fun md2 hm2 K2 hK2 => ?_⟩
  rw [wI_rd]
  by_cases q : 18 + md2 = 18 + md ∧ stN K2 = stN K
  · rw [if_pos q]
    have e1 : md2 = md := by omega
    have e2 : K2 = K := by rw [← (kk_st hK2).2.2.1, q.2, (kk_st hK).2.2.1]
    rw [e1, e2]
    exact Or.inr rfl
  · rw [if_neg q]
    exact d md2 hm2 K2 hK2
theorem cl_restBy (hm : md < 2) {K a b z : Nat} (h : OKK n K) (ha : a < n) (hb : b < n) (hab : a ≠ b) (hu : unk K a b = true) {rc : Int32 → Int32 → Int32 → Mem → Option (Int32 × Mem)} (hrc : ∀ K2 M, OKK n K2 → pop K < pop K2 → SM n kn ak M → okR M → ∃ M1, rc (nI K2) (nI md) (nI (z + 1)) M = some (nI (CK n kn ak md K2), M1) ∧ SM n kn ak M1 ∧ okR M1) (hS : SM n kn ak M) (hR : okR M) : ∃ M1, f_X8_restBy rc (nI K) (nI a) (nI b) (nI md) (nI z) M = some (nI (cmb md (CK n kn ak md (wth K a b)) (CK n kn ak md (wth K b a))), M1) ∧ SM n kn ak M1 ∧ okR M1 := by
  obtain ⟨w1, w2, w3⟩ := kk_with h ha hb hab hu
  obtain ⟨v1, v2, v3⟩ := kk_with h hb ha (Ne.symm hab) (by rw [unk_sym]; exact hu)
  obtain ⟨M4, f4, s4, r4⟩ := hrc _ M w2 w3 hS hR
  obtain ⟨M8, f8, s8, r8⟩ := hrc _ M4 v2 v3 s4 r4
  have i1 := CK_le (kn := kn) (ak := ak) (md := md) w2
  have i2 := CK_le (kn := kn) (ak := ak) (md := md) v2
  refine ⟨M8, ?_, s8, r8⟩
  unfold f_X8_restBy cmb
  rw [w1, bd_s, n_s1, f4, bI_s, v1, bd_s, f8, bI_s, n_max (by omega) (by omega), n_add]
  rcases show md = 0 ∨ md = 1 by omega with rfl | rfl
  · rw [if_pos (show nI 0 = 0 from rfl), if_pos rfl]
  · rw [if_neg (show ¬ nI 1 = 0 by decide), if_neg (by omega)]
theorem cl_lr_i (hm : md < 2) {K a z : Nat} (h : OKK n K) {rc : Int32 → Int32 → Int32 → Mem → Option (Int32 × Mem)} {k7 : Int32 → Int32 → Int32 → Int32 → Int32 → Mem → Option (Int32 × Mem)} (hrc : ∀ K2 M, OKK n K2 → pop K < pop K2 → SM n kn ak M → okR M → ∃ M1, rc (nI K2) (nI md) (nI (z + 1)) M = some (nI (CK n kn ak md K2), M1) ∧ SM n kn ak M1 ∧ okR M1) (ha : a < n) : ∀ (r b m acc : Nat) (M : Mem), b + r = n → r < m → a < b → acc ≤ 2147483647 → SM n kn ak M → okR M → ∃ M1, f_X8_leastRest_L22 rc k7 m (nI K) (nI md) (nI z) (nI acc) (nI a) (nI b) M = k7 (nI K) (nI md) (nI z) (nI (min acc (mi (fun b => if unk K a b = true then cmb md (CK n kn ak md (wth K a b)) (CK n kn ak md (wth K b a)) else 2147483647) r b))) (nI (a + 1)) M1 ∧ SM n kn ak M1 ∧ okR M1
  | 0, b, m, acc, M, hb, hf, hab, hacc, hS, hR => by
    have h4 := h.1
    obtain ⟨m, rfl⟩ : ∃ m2, m = m2 + 1 := ⟨m - 1, by omega⟩
    rw [f_X8_leastRest_L22, hS.1, if_pos ((n_le (by omega) (by omega)).mpr (by omega)), n_s1, mi, Nat.min_eq_left hacc]
    exact ⟨M, rfl, hS, hR⟩
  | r + 1, b, m, acc, M, hb, hf, hab, hacc, hS, hR => by
    have h4 := h.1
    obtain ⟨m, rfl⟩ : ∃ m2, m = m2 + 1 := ⟨m - 1, by omega⟩
    rw [f_X8_leastRest_L22, hS.1, if_neg (by rw [n_le (by omega) (by omega)]; omega), cl_unk h.2.1 (by omega) (by omega), bd_s, ite_bb, mi]
    unfold f_X8_leastRest_b60
    rw [n_s1]
    by_cases q : unk K a b = true
    · obtain ⟨M4, f4, s4, r4⟩ := cl_restBy hm h ha (show b < n by omega) (by omega) q hrc hS hR
      have hc := cmb_le (kn := kn) (ak := ak) (md := md) h ha (show b < n by omega) (by omega) q
      rw [if_pos q, if_pos q, f4, bI_s, n_min (by omega) (by omega), lt_e]
      obtain ⟨M1, f1, s1, r1⟩ := cl_lr_i hm h (k7 := k7) hrc ha r (b + 1) m (min acc (cmb md (CK n kn ak md (wth K a b)) (CK n kn ak md (wth K b a)))) M4 (by omega) (by omega) (by omega) (by omega) s4 r4
      refine ⟨M1, f1.trans ?_, s1, r1⟩
      rw [Nat.min_assoc]
    · obtain ⟨M1, f1, s1, r1⟩ := cl_lr_i hm h (k7 := k7) hrc ha r (b + 1) m acc M (by omega) (by omega) (by omega) hacc hS hR
      rw [if_neg q, if_neg q]
      refine ⟨M1, f1.trans ?_, s1, r1⟩
      have hb2 := mi_big (g := fun b => if unk K a b = true then cmb md (CK n kn ak md (wth K a b)) (CK n kn ak md (wth K b a)) else 2147483647) r (b + 1)
      rw [Nat.min_eq_right hb2]
theorem cl_lr_o (hm : md < 2) {K z : Nat} (h : OKK n K) {rc : Int32 → Int32 → Int32 → Mem → Option (Int32 × Mem)} (hrc : ∀ K2 M, OKK n K2 → pop K < pop K2 → SM n kn ak M → okR M → ∃ M1, rc (nI K2) (nI md) (nI (z + 1)) M = some (nI (CK n kn ak md K2), M1) ∧ SM n kn ak M1 ∧ okR M1) {x : Nat} (hx : x < 2147483647) : ∀ (r a m acc : Nat) (M : Mem), a + r = n → r < m → acc ≤ 2147483647 → SM n kn ak M → okR M → min acc (mi (fun a => mi (fun b => if unk K a b = true then cmb md (CK n kn ak md (wth K a b)) (CK n kn ak md (wth K b a)) else 2147483647) (n - (a + 1)) (a + 1)) r a) = x → ∃ M1, f_X8_leastRest_L7 rc m (nI K) (nI md) (nI z) (nI acc) (nI a) M = some (nI x, M1) ∧ SM n kn ak M1 ∧ okR M1
  | 0, a, m, acc, M, hb, hf, hacc, hS, hR, he => by
    have h4 := h.1
    obtain ⟨m, rfl⟩ : ∃ m2, m = m2 + 1 := ⟨m - 1, by omega⟩
    rw [mi, Nat.min_eq_left hacc] at he
    subst he
    rw [f_X8_leastRest_L7, hS.1, if_pos ((n_le (by omega) (by omega)).mpr (by omega)), if_neg (by rw [show (2147483647 : Int32) = nI 2147483647 from rfl, n_eq (by omega) (by omega)]; omega)]
    exact ⟨M, rfl, hS, hR⟩
  | r + 1, a, m, acc, M, hb, hf, hacc, hS, hR, he => by
    have h4 := h.1
    obtain ⟨m, rfl⟩ : ∃ m2, m = m2 + 1 := ⟨m - 1, by omega⟩
    rw [f_X8_leastRest_L7, hS.1, if_neg (by rw [n_le (by omega) (by omega)]; omega), n_s1, lt_e]
    obtain ⟨M1, f1, s1, r1⟩ := cl_lr_i hm h (k7 := fun a0 a1 a2 a3 a4 a5 => f_X8_leastRest_L7 rc m a0 a1 a2 a3 a4 a5) hrc (show a < n by omega) (n - (a + 1)) (a + 1) FU acc M (by omega) (by unfold FU; omega) (by omega) hacc hS hR
    rw [f1]
    rw [mi, ← Nat.min_assoc] at he
    exact cl_lr_o hm h hrc hx r (a + 1) m _ M1 (by omega) (by omega) (by omega) s1 r1 he
theorem cl_c52 {K : Nat} (h : OKK n K) {rc : Int32 → Int32 → Int32 → Mem → Option (Int32 × Mem)} (v2 v3 : Int32) (v4 : Nat) (v5 : Int32) : ∀ (r k m : Nat) (M : Mem), k + r = n → r < m → M.1 15 0 = nI n → M.1 15 2 = nI (2 ^ n - 1) → (∀ p, p < 8 → M.1 16 p = nI (if p < k then rwK K p else 0)) → SM n kn ak M → okR M → ∃ M1, f_X8_cost_L52 rc m (nI K) v2 v3 v4 v5 (nI k) M = ((f_X7_tally_15 M1).bind fun M2 => (f_X7_answers_15 (M2.1 14 4) (M2.1 14 5) M2).bind fun x3 => (if (1 : Int32) < x3 then f_X8_cost_b117 rc (nI K) v2 v3 v4 v5 (0 : Int32) M2 else f_X8_cost_b117 rc (nI K) v2 v3 v4 v5 (1 : Int32) M2)) ∧ CO5 n (rwK K) M1 ∧ SM n kn ak M1 ∧ okR M1
  | 0, k, m, M, hb, hf, a1, a2, a3, hS, hR => by
    have h4 := h.1
    obtain ⟨m, rfl⟩ : ∃ m2, m = m2 + 1 := ⟨m - 1, by omega⟩
    rw [f_X8_cost_L52, hS.1, if_pos ((n_le (by omega) (by omega)).mpr (by omega))]
    refine ⟨M, rfl, ⟨a1, a2, fun p hp => ?_⟩, hS, hR⟩
    rw [a3 p hp]
    by_cases q : p < k
    · rw [if_pos q]
    · rw [if_neg q]
      have : rwK K p = 0 := Nat.eq_of_testBit_eq (fun i => by
        rw [tb_rwK, Nat.zero_testBit]
        by_cases c : i < 4
        · rw [decide_eq_true c, Bool.true_and]
          by_cases c2 : p < 4
          · cases e : K.testBit (4 * p + i)
            · rfl
            · have := (insB_iff.mp h.2.2.2 i p c c2 e).2; omega
          · exact tb_st8 (n := 16) h.2.1 (by omega)
        · rw [decide_eq_false c, Bool.false_and])
      rw [this]
  | r + 1, k, m, M, hb, hf, a1, a2, a3, hS, hR => by
    have h4 := h.1
    have hK := h.2.1
    obtain ⟨m, rfl⟩ : ∃ m2, m = m2 + 1 := ⟨m - 1, by omega⟩
    rw [f_X8_cost_L52, hS.1, if_neg (by rw [n_le (by omega) (by omega)]; omega), ck_t (okI_16 (by omega)), n_clamp (by omega), n_s1, lt_e, show (4 : Int32) = nI 4 from rfl, n_mul, n_shr (by omega) (by omega), show (15 : Int32) = nI 15 from rfl, n_and]
    refine cl_c52 h v2 v3 v4 v5 r (k + 1) m _ (by omega) (by omega) (by rw [ab_wI_o (by omega)]; exact a1) (by rw [ab_wI_o (by omega)]; exact a2) (fun p hp => ?_) (hS.wO (by omega) (by omega) (by omega)) hR
    rw [wI_rd]
    by_cases e : p = k
    · rw [if_pos ⟨rfl, e⟩, e, if_pos (by omega)]; rfl
    · rw [if_neg (fun h => e h.2), a3 p hp]
      by_cases c : p < k
      · rw [if_pos c, if_pos (by omega)]
      · rw [if_neg c, if_neg (by omega)]
end CST
