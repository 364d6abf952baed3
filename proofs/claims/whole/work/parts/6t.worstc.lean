/-! the search: the class's worst -/
def K0 (n : Nat) (ab : Nat → Nat) : Nat := msk (fun i => decide (i % 4 < n) && decide (i / 4 < n) && decide (i % 4 ≠ i / 4) && decide (btL (ext n ab n 0) (i % 4) (i / 4) = (ext n ab n 0).length)) 16
def CKz (n : Nat) (ab : Nat → Nat) (kn ak md : Nat) : Nat := if 1 < ansN n ab kn ak then CK n kn ak md (K0 n ab) else 0
section WCL
variable {n : Nat} {ab : Nat → Nat} {M : Mem} {kn ak : Nat}
theorem ans_ne (h : 1 < ansN n ab kn ak) : ext n ab n 0 ≠ [] := fun e => by
  have := ansN_0 (kn := kn) (ak := ak) e
  omega
theorem KP_K0 (hA : okA n ab) (hE : ext n ab n 0 ≠ []) : KP n ab true n 0 (K0 n ab) := by
  refine ⟨msk_lt _ 16, fun c v hc hv => ?_⟩
  unfold ka K0
  rw [tb_msk, decide_eq_true (show 4 * v + c < 16 by omega), Bool.true_and, show (4 * v + c) / 4 = v by omega, show (4 * v + c) % 4 = c by omega]
  simp only [Bool.and_eq_true, decide_eq_true_eq]
  constructor
  · rintro ⟨⟨⟨a, b⟩, d⟩, e⟩
    exact ⟨trivial, a, b, d, (isBet_iff hA.1 hE a b d).mpr e, Or.inl a⟩
  · rintro ⟨-, a, b, d, e, -⟩
    exact ⟨⟨⟨a, b⟩, d⟩, (isBet_iff hA.1 hE a b d).mp e⟩
theorem KP_u {W1 W2 : Nat} (h1 : KP n ab true n 0 W1) (h2 : KP n ab true n 0 W2) : W1 = W2 := by
  apply Nat.eq_of_testBit_eq
  intro i
  by_cases q : i < 16
  · have e : 4 * (i / 4) + i % 4 = i := by omega
    have a1 := h1.2 (i % 4) (i / 4) (by omega) (by omega)
    have a2 := h2.2 (i % 4) (i / 4) (by omega) (by omega)
    unfold ka at a1 a2
    rw [e] at a1 a2
    rw [Bool.eq_iff_iff, a1, a2]
  · rw [tb_st8 (n := 16) h1.1 (by omega), tb_st8 (n := 16) h2.1 (by omega)]
theorem OKK_K0 (hA : okA n ab) (hn : n ≤ 4) (hE : ext n ab n 0 ≠ []) : OKK n (K0 n ab) := KP_OKK hA hn hE (KP_K0 hA hE)
theorem cl_bg_55 (hA : okA n ab) (hn : n ≤ 4) (hQ : okQ n kn ak) (h6 : kn = 6 → ak < n) (h0 : (kn = 0 ∨ kn = 1 ∨ kn = 3 ∨ kn = 4) → ak = 0) (hT : TL n ab M) (hR : okR M) (hV : ∀ md, md < 2 → ∀ K, OKK n K → M.1 (18 + md) (stN K) = -1 ∨ M.1 (18 + md) (stN K) = nI (CK n kn ak md K)) : ∃ M1, f_X8_begin_b55 (nI kn) (nI ak) M = some M1 ∧ BG n ab kn ak (decide (1 < ansN n ab kn ak)) M1 ∧ (1 < ansN n ab kn ak → M1.1 14 6 = nI (K0 n ab)) := by
  have hle := ansN_le hA.1 ab kn ak
  unfold f_X8_begin_b55
  rw [hT.1.1, lt_e, lt_e, lt_e]
  generalize hM3 : wI (wI (wI M 14 3 (nI n)) 14 4 (nI kn)) 14 5 (nI ak) = M3
  have r3 : ∀ c, c ≠ 14 → M3.1 c = M.1 c := fun c hc => by rw [← hM3, ab_wI_o hc, ab_wI_o hc, ab_wI_o hc]
  have t3 : TL n ab M3 := ⟨⟨by rw [r3 11 (by omega)]; exact hT.1.1, by rw [r3 11 (by omega)]; exact hT.1.2.1, fun p hp => by rw [r3 12 (by omega)]; exact hT.1.2.2 p hp⟩, fun S hS => by rw [r3 13 (by omega)]; exact hT.2 S hS⟩
  have s3 : SM n kn ak M3 := ⟨by rw [← hM3]; simp [wI_rd], by rw [← hM3]; simp [wI_rd], by rw [← hM3]; simp [wI_rd], fun md hm K hK => by rw [r3 _ (by omega)]; exact hV md hm K hK⟩
  have k3 : okR M3 := by rw [← hM3]; exact hR
  rw [s3.2.1, s3.2.2.1, cl_answers hA t3 hQ h6 h0, bd_s]
  have e1 : (nI (ansN n ab kn ak) ≤ 1) = (ansN n ab kn ak ≤ 1) := propext (n_le (b := 1) (by omega) (by omega))
  simp only [e1]
  have e2 : (if ansN n ab kn ak ≤ 1 then f_X8_begin_b95 0 M3 else f_X8_begin_b95 1 M3) = f_X8_begin_b95 (bb (decide (1 < ansN n ab kn ak))) M3 := by
    by_cases c : ansN n ab kn ak ≤ 1
    · rw [if_pos c, decide_eq_false (by omega)]; rfl
    · rw [if_neg c, decide_eq_true (by omega)]; rfl
  rw [e2]
  unfold f_X8_begin_b95
  rw [ck_t (bb_ok _), lt_e, lt_e]
  generalize hg : decide (1 < ansN n ab kn ak) = g
  have hB : BG n ab kn ak g (wI (wI M3 14 7 (bb g)) 14 6 0) := by
    obtain ⟨a, b, c, d⟩ := s3
    obtain ⟨⟨t1, t2, t3'⟩, t4⟩ := t3
    refine BG.w ⟨⟨by simp [wI_rd, a], by simp [wI_rd, b], by simp [wI_rd, c], fun md hm K hK => ?_⟩, ⟨⟨by simp [wI_rd, t1], by simp [wI_rd, t2], fun p hp => by simp [wI_rd, t3' p hp]⟩, fun S hS => by simp [wI_rd, t4 S hS]⟩, k3, by simp [wI_rd]⟩
    rw [ab_wI_o (by omega)]
    exact d md hm K hK
  obtain ⟨W1, M1, f1, b1, w1, k1⟩ := cl_bg_o hA hn n 0 FU 0 _ (by omega) (by unfold FU; omega) hB (by simp [wI_rd]; rfl) ⟨by omega, fun c v _ _ => by
    unfold ka
    rw [Nat.zero_testBit]
    constructor
    · intro h; cases h
    · rintro ⟨-, -, -, -, -, h⟩; omega⟩
  refine ⟨M1, f1, b1, fun h => ?_⟩
  rw [decide_eq_true h] at hg
  subst hg
  rw [w1, KP_u k1 (KP_K0 hA (ans_ne h))]
theorem cl_begin (hA : okA n ab) (hn : n ≤ 4) (hQ : okQ n kn ak) (h6 : kn = 6 → ak < n) (h0 : (kn = 0 ∨ kn = 1 ∨ kn = 3 ∨ kn = 4) → ak = 0) (hT : TL n ab M) (hS : SI M) (hR : okR M) : ∃ M1, f_X8_begin (nI kn) (nI ak) M = some M1 ∧ BG n ab kn ak (decide (1 < ansN n ab kn ak)) M1 ∧ (1 < ansN n ab kn ak → M1.1 14 6 = nI (K0 n ab)) := by
  obtain ⟨n1, kn1, ak1, b1, b2, b3, hS1⟩ := hS
  have hk := hQ.1
  have hk2 := hQ.2.2.2.2.2
  have fresh : ∃ M1, f_X8_begin_b31 (nI kn) (nI ak) M = some M1 ∧ BG n ab kn ak (decide (1 < ansN n ab kn ak)) M1 ∧ (1 < ansN n ab kn ak → M1.1 14 6 = nI (K0 n ab)) := by
    unfold f_X8_begin_b31 f_X8_begin_b32
    rw [if_pos rfl, s_fillA rfl (by decide), bd_s, s_fillA rfl (by decide), bd_s]
    refine cl_bg_55 hA hn hQ h6 h0 ⟨⟨by simp [fiI_rd, hT.1.1], by simp [fiI_rd, hT.1.2.1], fun p hp => by simp [fiI_rd, hT.1.2.2 p hp]⟩, fun S hS => by simp [fiI_rd, hT.2 S hS]⟩ hR (fun md hm K hK => Or.inl ?_)
    have h7 := (kk_st hK).2.1
    rcases show md = 0 ∨ md = 1 by omega with rfl | rfl
    · rw [fiI_rd, if_neg (by omega), fiI_rd, if_pos ⟨rfl, by omega, h7⟩]
    · rw [fiI_rd, if_pos ⟨rfl, by omega, h7⟩]
  have e1 : (M.1 14 3 = M.1 11 0) = (n1 = n) := by rw [hS1.1, hT.1.1]; exact propext (n_eq (by omega) (by omega))
  have e2 : (M.1 14 4 = nI kn) = (kn1 = kn) := by rw [hS1.2.1]; exact propext (n_eq (by omega) (by omega))
  have e3 : (M.1 14 5 = nI ak) = (ak1 = ak) := by rw [hS1.2.2.1]; exact propext (n_eq (by omega) (by omega))
  unfold f_X8_begin
  simp only [e1, e2, e3]
  by_cases c1 : n1 = n
  · rw [if_pos c1]
    by_cases c2 : kn1 = kn
    · rw [if_pos c2]
      by_cases c3 : ak1 = ak
      · rw [if_pos c3]
        unfold f_X8_begin_b32
        rw [if_neg (by decide)]
        subst c1 c2 c3
        exact cl_bg_55 hA hn hQ h6 h0 hT hR hS1.2.2.2
      · rw [if_neg c3]; exact fresh
    · rw [if_neg c2]; exact fresh
  · rw [if_neg c1]; exact fresh
theorem BG.si {g : Bool} (hn : n ≤ 4) (hQ : okQ n kn ak) (h : SM n kn ak M) : SI M := by
  have h1 := hQ.1
  have h2 := hQ.2.2.2.2.2
  exact ⟨n, kn, ak, by omega, by omega, by omega, h⟩
theorem cl_lw (hA : okA n ab) (hn : n ≤ 4) (hQ : okQ n kn ak) (h6 : kn = 6 → ak < n) (h0 : (kn = 0 ∨ kn = 1 ∨ kn = 3 ∨ kn = 4) → ak = 0) (hB : BG n ab kn ak (decide (1 < ansN n ab kn ak)) M) (hW : 1 < ansN n ab kn ak → M.1 14 6 = nI (K0 n ab)) : ∃ M1, f_X8_leastWorst M = some (nI (CKz n ab kn ak 0), M1) ∧ SM n kn ak M1 ∧ okR M1 := by
  unfold f_X8_leastWorst CKz
  rw [hB.2.2.2, ite_bb]
  by_cases c : 1 < ansN n ab kn ak
  · have hE := ans_ne c
    obtain ⟨M2, f2, s2, r2⟩ := cl_cost (md := 0) (by omega) hQ h6 h0 FD (K0 n ab) 0 M (OKK_K0 hA hn hE) (by unfold FD; omega) (by omega) hB.1 hB.2.2.1
    have f2' : f_X8_cost FD (nI (K0 n ab)) 0 0 M = _ := f2
    rw [if_pos (decide_eq_true c), if_pos c, hW c, f2', bI_s]
    exact ⟨M2, rfl, s2, r2⟩
  · rw [if_neg (by simpa using c), if_neg c]
    exact ⟨M, rfl, hB.1, hB.2.2.1⟩
theorem cl_ls (hA : okA n ab) (hn : n ≤ 4) (hQ : okQ n kn ak) (h6 : kn = 6 → ak < n) (h0 : (kn = 0 ∨ kn = 1 ∨ kn = 3 ∨ kn = 4) → ak = 0) (hB : BG n ab kn ak (decide (1 < ansN n ab kn ak)) M) (hW : 1 < ansN n ab kn ak → M.1 14 6 = nI (K0 n ab)) : ∃ M1, f_X8_leastSum M = some (nI (CKz n ab kn ak 1), M1) ∧ SM n kn ak M1 ∧ okR M1 := by
  unfold f_X8_leastSum CKz
  rw [hB.2.2.2, ite_bb]
  by_cases c : 1 < ansN n ab kn ak
  · have hE := ans_ne c
    obtain ⟨M2, f2, s2, r2⟩ := cl_cost (md := 1) (by omega) hQ h6 h0 FD (K0 n ab) 0 M (OKK_K0 hA hn hE) (by unfold FD; omega) (by omega) hB.1 hB.2.2.1
    have f2' : f_X8_cost FD (nI (K0 n ab)) 1 0 M = _ := f2
    rw [if_pos (decide_eq_true c), if_pos c, hW c, f2', bI_s]
    exact ⟨M2, rfl, s2, r2⟩
  · rw [if_neg (by simpa using c), if_neg c]
    exact ⟨M, rfl, hB.1, hB.2.2.1⟩
end WCL
