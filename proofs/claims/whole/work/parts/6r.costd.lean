/-! the search: the class's cost -/
section CSD
variable {n kn ak md : Nat} {M : Mem}
theorem okR_of {M M1 : Mem} (h : okR M) (e : M1.2.2 = M.2.2) : okR M1 := by unfold okR; rw [e]; exact h
theorem okI_m {md i : Nat} (hm : md < 2) (hi : i < 729) : okI (18 + md) (nI i) = true := by
  rcases show md = 0 ∨ md = 1 by omega with rfl | rfl
  · exact okI_18 hi
  · exact okI_19 hi
theorem cl_cost (hm : md < 2) (hQ : okQ n kn ak) (h6 : kn = 6 → ak < n) (h0 : (kn = 0 ∨ kn = 1 ∨ kn = 3 ∨ kn = 4) → ak = 0) : ∀ (d K z : Nat) (M : Mem), OKK n K → 7 ≤ d + pop K → z ≤ pop K → SM n kn ak M → okR M → ∃ M1, f_X8_cost d (nI K) (nI md) (nI z) M = some (nI (CK n kn ak md K), M1) ∧ SM n kn ak M1 ∧ okR M1 := by
  intro d
  induction d with
  | zero => intro K z M h hd; have := (kk_st h).2.2.2; omega
  | succ d ih =>
    intro K z M h hd hz hS hR
    have h4 := h.1
    obtain ⟨g1, g2, g3, g4⟩ := kk_st h
    have hle := CK_le (kn := kn) (ak := ak) (md := md) h
    have e0 : f_X8_cost (d + 1) (nI K) (nI md) (nI z) M = f_X8_cost_b15 (fun v1 v2 v3 M => f_X8_cost d v1 v2 v3 M) (nI K) (nI md) (nI z) (18 + md) M := by
      rw [f_X8_cost]
      unfold f_X8_cost_o
      rcases show md = 0 ∨ md = 1 by omega with rfl | rfl
      · rw [if_pos (show nI 0 = 0 from rfl)]
      · rw [if_neg (show ¬ nI 1 = 0 by decide)]
    rw [e0]
    unfold f_X8_cost_b15
    rw [g1, bd_s, ck_t (okI_m hm g2), n_clamp (by omega)]
    have hmx : ab_max 0 (nI (CK n kn ak md K)) = nI (CK n kn ak md K) := by
      rw [show (0 : Int32) = nI 0 from rfl, n_max (by omega) (by omega), Nat.zero_max]
    have b160 : ∀ (rc : Int32 → Int32 → Int32 → Mem → Option (Int32 × Mem)) (M2 : Mem), M2.1 (18 + md) (stN K) = nI (CK n kn ak md K) → f_X8_cost_b160 rc (18 + md) (nI (stN K)) M2 = some (nI (CK n kn ak md K), M2) := fun rc M2 e => by
      unfold f_X8_cost_b160
      rw [ck_t (okI_m hm g2), n_clamp (by omega), e, hmx]
    rcases hS.2.2.2 md hm K h with q | q
    · rw [if_pos q, if_neg (by rw [show (6 : Int32) = nI 6 from rfl, n_lt (by omega) (by omega)]; omega)]
      have hcl : ∃ M4, f_X7_clear_15 (M.1 14 3) M = some M4 ∧ M4.1 15 0 = nI n ∧ M4.1 15 2 = nI (2 ^ n - 1) ∧ (∀ p, p < 8 → M4.1 16 p = 0) := by
        unfold f_X7_clear_15
        rw [hS.1, pow_I (by omega), lt_e, lt_e, s_fillA rfl (by decide), bd_s]
        exact ⟨_, rfl, by simp [fiI_rd, wI_rd], by simp [fiI_rd, wI_rd], fun p hp => by rw [fiI_rd, if_pos ⟨rfl, by omega, hp⟩]⟩
      obtain ⟨M4, f4, k1, k2, k3⟩ := hcl
      have fr4 := fr_X7_clear_15 _ M _ f4
      have s4 : SM n kn ak M4 := grp_SM.kp hR fr4 (by decide) hS
      have r4 : okR M4 := okR_of hR (fr4 hR.c).1
      rw [f4, bd_s]
      obtain ⟨M5, f5, c5, s5, r5⟩ := cl_c52 h (rc := fun v1 v2 v3 M => f_X8_cost d v1 v2 v3 M) (nI md) (nI z) (18 + md) (nI (stN K)) n 0 FU M4 (by omega) (by unfold FU; omega) k1 k2 (fun p hp => by rw [k3 p hp, if_neg (by omega)]; rfl) s4 r4
      have f5' : f_X8_cost_L52 (fun v1 v2 v3 M => f_X8_cost d v1 v2 v3 M) FU (nI K) (nI md) (nI z) (18 + md) (nI (stN K)) 0 M4 = _ := f5
      rw [f5']
      obtain ⟨M6, f6, c6⟩ := cl_tally5 (okA_K h) c5
      have fr6 := fr_X7_tally_15 M5 _ f6
      have s6 : SM n kn ak M6 := grp_SM.kp r5 fr6 (by decide) s5
      have r6 : okR M6 := okR_of r5 (fr6 r5.c).1
      have hal := ansN_le (show n ≤ 8 by omega) (rwK K) kn ak
      rw [f6, bd_s, s6.2.1, s6.2.2.1, cl_answers5 (okA_K h) c6 hQ h6 h0, bd_s]
      have e1 : ((1 : Int32) < nI (ansN n (rwK K) kn ak)) = (1 < ansN n (rwK K) kn ak) := propext (n_lt (a := 1) (by omega) (by omega))
      simp only [e1]
      have h24 := ext_24 h4 (rwK K)
      have b117 : ∀ (s0 : Int32), f_X8_cost_b117 (fun v1 v2 v3 M => f_X8_cost d v1 v2 v3 M) (nI K) (nI md) (nI z) (18 + md) (nI (stN K)) s0 M6 = f_X8_cost_b134 (fun v1 v2 v3 M => f_X8_cost d v1 v2 v3 M) (nI K) (nI md) (nI z) (18 + md) (nI (stN K)) s0 (nI (if md = 0 then 1 else (ext n (rwK K) n 0).length)) M6 := fun s0 => by
        unfold f_X8_cost_b117
        rcases show md = 0 ∨ md = 1 by omega with rfl | rfl
        · rw [if_pos (show nI 0 = 0 from rfl), if_pos rfl]; rfl
        · rw [if_neg (show ¬ nI 1 = 0 by decide), if_neg (by omega), s_allC5 (okA_K h) c6, bd_s]
      rw [b117, b117]
      have b159 : ∀ (M2 : Mem), SM n kn ak M2 → okR M2 → ∃ M1, f_X8_cost_b159 (fun v1 v2 v3 M => f_X8_cost d v1 v2 v3 M) (18 + md) (nI (stN K)) (nI (CK n kn ak md K)) (nI (stN K)) (18 + md) M2 = some (nI (CK n kn ak md K), M1) ∧ SM n kn ak M1 ∧ okR M1 := fun M2 s2 r2 => by
        unfold f_X8_cost_b159
        rw [ck_t (okI_m hm g2), n_clamp (by omega), lt_e, b160 _ _ (by rw [wI_rd, if_pos ⟨rfl, rfl⟩])]
        exact ⟨_, rfl, s2.w hm h, r2⟩
      have hrec := CK_rec (kn := kn) (ak := ak) (md := md) h
      unfold f_X8_cost_b134
      rw [if_pos (show (0 : Int32) = 0 from rfl), if_neg (show ¬ (1 : Int32) = 0 by decide)]
      by_cases c : 1 < ansN n (rwK K) kn ak
      · rw [if_pos c]
        rw [if_neg (by omega)] at hrec
        have hrst : rst n (fun a b => if unk K a b = true then cmb md (CK n kn ak md (wth K a b)) (CK n kn ak md (wth K b a)) else 2147483647) < 2147483647 := by omega
        obtain ⟨M7, f7, s7, r7⟩ := cl_lr_o (md := md) (kn := kn) (ak := ak) hm h (z := z) (rc := fun v1 v2 v3 M => f_X8_cost d v1 v2 v3 M) (fun K2 M2 hK2 hp2 s2 r2 => ih K2 (z + 1) M2 hK2 (by omega) (by omega) s2 r2) hrst n 0 FU 2147483647 M6 (by omega) (by unfold FU; omega) (by omega) s6 r6 (by
          have := mi_big (g := fun a => mi (fun b => if unk K a b = true then cmb md (CK n kn ak md (wth K a b)) (CK n kn ak md (wth K b a)) else 2147483647) (n - (a + 1)) (a + 1)) n 0
          rw [Nat.min_eq_right this]; rfl)
        have f7' : f_X8_leastRest (fun v1 v2 v3 M => f_X8_cost d v1 v2 v3 M) (nI K) (nI md) (nI z) M6 = _ := f7
        rw [f7', bI_s, n_add, ← hrec]
        exact b159 M7 s7 r7
      · rw [if_neg c]
        rw [if_pos (by omega)] at hrec
        have := b159 M6 s6 r6
        rw [hrec] at this ⊢
        exact this
    · rw [if_neg (by
        rw [q]
        intro e
        have := congrArg Int32.toInt e
        rw [n_toInt (by omega)] at this
        have h1 : (-1 : Int32).toInt = -1 := rfl
        omega), b160 _ M q]
      exact ⟨M, rfl, hS, hR⟩
end CSD
