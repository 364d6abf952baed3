/-! cups by chances: the model -/
section GOC
variable {np nm : Nat} {wo wi lo ct : Nat → Nat} {lw : LwO} {n : Nat} {rw S : Nat → Nat} {M : Mem}
def MWS (np nm : Nat) (wo wi lo ct : Nat → Nat) (lw : LwO) (n : Nat) (rw S : Nat → Nat) (M : Mem) : Prop := MF np nm wo wi lo ct M ∧ MW lw M ∧ MU n rw M ∧ (∀ j, j < n → M.1 66 j = nI (S j)) ∧ okR M
theorem grp_66 : Grp [(66, 0)] (fun M => ∀ j, j < n → M.1 66 j = nI (S j)) := by
  intro M M2 h _ hF j hj
  rw [(h 66 j (in_a j (by decide))).1]
  exact hF j hj
def LQ (M1 M : Mem) : Prop := (∀ k, M1.2.1 67 k = M.2.1 67 k) ∧ (∀ k, M1.2.1 68 k = M.2.1 68 k) ∧ ∀ k, M1.2.1 69 k = M.2.1 69 k
theorem LQ.tr {A B C : Mem} (h : LQ A B) (h2 : LQ B C) : LQ A C := ⟨fun k => (h.1 k).trans (h2.1 k), fun k => (h.2.1 k).trans (h2.2.1 k), fun k => (h.2.2 k).trans (h2.2.2 k)⟩
theorem s_cho (hW : MWS np nm wo wi lo ct lw n rw S M) (hO : OKF np nm wo wi lo ct) (hL : okO lw) {a b : Nat} (ha : a < np) (hb : b < np) (hab : a ≠ b) (r : Nat) : ∃ M1, f_X11_chanceOf FD (nI a) (nI b) (nI r) M = some (nI (cN lw wo r a b), M1) ∧ MWS np nm wo wi lo ct lw n rw S M1 ∧ LQ M1 M := by
  obtain ⟨w1, w2, w3, w4, hR⟩ := hW
  obtain ⟨M1, f1⟩ := mo_chanceOf w1 hO w2 hL ha hb hab (nI r)
  have fr := fr_X11_chanceOf _ _ _ _ M _ f1
  refine ⟨M1, f1, ⟨grp_MF.kp hR fr (by decide) w1, grp_MW.kp hR fr (by decide) w2, grp_MU.kp hR fr (by decide) w3, grp_66.kp hR fr (by decide) w4, ?_⟩, ?_⟩
  · have := (fr hR.c).1
    unfold okR
    simp only at this
    rw [this]
    exact hR
  · exact ⟨fun k => ((fr hR.c).2 67 k (disj_s (a := [(67, 0)]) (by decide) (in_a k (by decide)))).2, fun k => ((fr hR.c).2 68 k (disj_s (a := [(68, 0)]) (by decide) (in_a k (by decide)))).2, fun k => ((fr hR.c).2 69 k (disj_s (a := [(69, 0)]) (by decide) (in_a k (by decide)))).2⟩
theorem rv_M : ∀ i, i < 8 → (nI i ^^^ 1 = nI (rv 0 i)) ∧ ((nI i / 2) ^^^ 1) * 2 = nI (rv 1 i) ∧ ((nI i / 4) ^^^ 1) * 4 = nI (rv 2 i) := by decide +kernel
theorem mo_go3_i (hK : OKW np nm wo wi lo ct lw n S) (hn : n = 8) {i : Nat} (hi : i < n) {T : Nat → Nat} {k136 : Int32 → Mem → Option Mem} : ∀ (k j m acc : Nat) (M : Mem), j + k = rv 2 i + 4 → rv 2 i ≤ j → k < m → MWS np nm wo wi lo ct lw n rw S M → (∀ j, j < n → M.2.1 68 j = lN (T j)) → ∃ M1, f_X11_goesCup_L166 k136 m (nI i) (nI (rv 2 i)) (lN acc) (nI j) M = k136 (nI (i + 1)) (wL M1 69 i (lN (T i * (acc + rvS (cN lw wo) S T 2 i k j)))) ∧ MWS np nm wo wi lo ct lw n rw S M1 ∧ LQ M1 M
  | 0, j, m, acc, M, h1, h0, h2, hW, hT => by
    have h8 := hK.2.2.1
    have hok := rv_ok 2 (by omega) i (by omega)
    obtain ⟨m, rfl⟩ : ∃ m2, m = m2 + 1 := ⟨m - 1, by omega⟩
    rw [f_X11_goesCup_L166, show (4 : Int32) = nI 4 from rfl, n_add, if_pos ((n_le (by omega) (by omega)).mpr (by omega)), ck_t (okL_68 (by omega)), ck_t (okL_69 (by omega)), lt_e, n_clamp (by omega), hT i hi, lN_mul, n_s1]
    exact ⟨M, rfl, hW, fun _ => rfl, fun _ => rfl, fun _ => rfl⟩
  | k + 1, j, m, acc, M, h1, h0, h2, hW, hT => by
    have h8 := hK.2.2.1
    have hok := rv_ok 2 (by omega) i (by omega)
    have hok1 : rv 2 i + 4 ≤ 8 := hok.1
    obtain ⟨m, rfl⟩ : ∃ m2, m = m2 + 1 := ⟨m - 1, by omega⟩
    have hji : j ≠ i := hok.2.2 j (by omega) h0 (by omega)
    have hne : S i ≠ S j := fun q => hji (hK.2.2.2.2 i j hi (by omega) q).symm
    obtain ⟨M2, f2, c2, t2⟩ := s_cho hW hK.1 hK.2.1 (hK.2.2.2.1 i hi) (hK.2.2.2.1 j (by omega)) hne 2
    have f2' : f_X11_chanceOf FD (nI (S i)) (nI (S j)) 2 M = _ := f2
    have hcl := cN_le lw wo 2 (S i) (S j)
    rw [f_X11_goesCup_L166, show (4 : Int32) = nI 4 from rfl, n_add, if_neg (by rw [n_le (by omega) (by omega)]; omega), ck_t (okL_68 (by omega)), ck_t (okI_66 (by omega)), ck_t (okI_66 (by omega)), n_clamp (by omega), n_clamp (by omega), hW.2.2.2.1 i hi, hW.2.2.2.1 j (by omega), f2', bI_s, lt_e, hT j (by omega), n_s1, n_l _ (by omega), lN_mul, lN_add]
    obtain ⟨M3, f3, c3, t3⟩ := mo_go3_i hK hn hi (T := T) (k136 := k136) k (j + 1) m (acc + T j * cN lw wo 2 (S i) (S j)) M2 (by omega) (by omega) (by omega) c2 (fun j hj => by rw [t2.2.1]; exact hT j hj)
    refine ⟨M3, ?_, c3, t3.tr t2⟩
    rw [f3, rvS, Nat.add_assoc]
theorem MWS.wL {M : Mem} (h : MWS np nm wo wi lo ct lw n rw S M) (c k : Nat) (v : Int64) : MWS np nm wo wi lo ct lw n rw S (wL M c k v) := h
/-- three rounds -/
def T1 (c : Nat → Nat → Nat → Nat) (S : Nat → Nat) (n : Nat) (M : Mem) : Prop := ∀ j, j < n → M.2.1 67 j = lN (th c S 1 j)
def T2 (c : Nat → Nat → Nat → Nat) (S : Nat → Nat) (n : Nat) (M : Mem) : Prop := ∀ j, j < n → M.2.1 68 j = lN (th c S 2 j)
def T3 (c : Nat → Nat → Nat → Nat) (S : Nat → Nat) (n : Nat) (M : Mem) : Prop := ∀ j, j < n → M.2.1 69 j = lN (th c S 3 j)
theorem mo_go3 (hK : OKW np nm wo wi lo ct lw n S) (hn : n = 4 ∨ n = 8) : ∀ (k i m : Nat) (M : Mem), i + k = n → k < m → MWS np nm wo wi lo ct lw n rw S M → T1 (cN lw wo) S n M → T2 (cN lw wo) S n M → (∀ j, j < i → n = 8 → M.2.1 69 j = lN (th (cN lw wo) S 3 j)) → ∃ M1, f_X11_goesCup_L136 m (nI i) M = some M1 ∧ MWS np nm wo wi lo ct lw n rw S M1 ∧ T1 (cN lw wo) S n M1 ∧ T2 (cN lw wo) S n M1 ∧ (n = 8 → T3 (cN lw wo) S n M1)
  | 0, i, m, M, h1, h2, hW, t1, t2, t3 => by
    have h8 := hK.2.2.1
    obtain ⟨m, rfl⟩ : ∃ m2, m = m2 + 1 := ⟨m - 1, by omega⟩
    rw [f_X11_goesCup_L136, hW.2.2.1.1, if_pos ((n_le (by omega) (by omega)).mpr (by omega))]
    exact ⟨M, rfl, hW, t1, t2, fun q j hj => t3 j (by omega) q⟩
  | k + 1, i, m, M, h1, h2, hW, t1, t2, t3 => by
    have h8 := hK.2.2.1
    obtain ⟨m, rfl⟩ : ∃ m2, m = m2 + 1 := ⟨m - 1, by omega⟩
    rw [f_X11_goesCup_L136, hW.2.2.1.1, if_neg (by rw [n_le (by omega) (by omega)]; omega)]
    by_cases q8 : n = 8
    · rw [if_pos (show nI n = 8 from by rw [q8]; rfl), (rv_M i (by omega)).2.2, lt_e]
      obtain ⟨M1, f1, c1, e1⟩ := mo_go3_i hK q8 (i := i) (by omega) (T := th (cN lw wo) S 2) (k136 := fun a0 a1 => f_X11_goesCup_L136 m a0 a1) 4 (rv 2 i) FU 0 M (by omega) (by omega) (by unfold FU; omega) hW t2
      have f1' : f_X11_goesCup_L166 (fun a0 a1 => f_X11_goesCup_L136 m a0 a1) FU (nI i) (nI (rv 2 i)) 0 (nI (rv 2 i)) M = _ := f1
      rw [f1']
      refine mo_go3 hK hn k (i + 1) m _ (by omega) (by omega) (c1.wL _ _ _) (fun j hj => ?_) (fun j hj => ?_) (fun j hj _ => ?_)
      · rw [wL_rd, if_neg (by omega), e1.1]; exact t1 j hj
      · rw [wL_rd, if_neg (by omega), e1.2.1]; exact t2 j hj
      · rw [wL_rd]
        by_cases q : j = i
        · subst q; rw [if_pos ⟨rfl, rfl⟩, Nat.zero_add]; rfl
        · rw [if_neg (by omega), e1.2.2]; exact t3 j (by omega) q8
    · rw [if_neg (show ¬ nI n = 8 from fun q => q8 ((n_eq (b := 8) (by omega) (by omega)).mp q))]
      exact ⟨M, rfl, hW, t1, t2, fun q => absurd q q8⟩
theorem mo_go2 (hK : OKW np nm wo wi lo ct lw n S) (hn : n = 4 ∨ n = 8) : ∀ (k i m : Nat) (M : Mem), i + k = n → k < m → MWS np nm wo wi lo ct lw n rw S M → T1 (cN lw wo) S n M → (∀ j, j < i → M.2.1 68 j = lN (th (cN lw wo) S 2 j)) → ∃ M1, f_X11_goesCup_L44 m (nI i) M = some M1 ∧ MWS np nm wo wi lo ct lw n rw S M1 ∧ T1 (cN lw wo) S n M1 ∧ T2 (cN lw wo) S n M1 ∧ (n = 8 → T3 (cN lw wo) S n M1)
  | 0, i, m, M, h1, h2, hW, t1, t2 => by
    have h8 := hK.2.2.1
    obtain ⟨m, rfl⟩ : ∃ m2, m = m2 + 1 := ⟨m - 1, by omega⟩
    rw [f_X11_goesCup_L44, hW.2.2.1.1, if_pos ((n_le (by omega) (by omega)).mpr (by omega))]
    exact mo_go3 hK hn n 0 FU M (by omega) (by unfold FU; omega) hW t1 (fun j hj => t2 j (by omega)) (fun j hj => by omega)
  | k + 1, i, m, M, h1, h2, hW, t1, t2 => by
    have h8 := hK.2.2.1
    obtain ⟨m, rfl⟩ : ∃ m2, m = m2 + 1 := ⟨m - 1, by omega⟩
    have hok := rv_ok 1 (by omega) i (by omega)
    have hrn : rv 1 i + 2 ≤ n := by
      rcases hn with hn | hn
      · have := hok.2.1 (by omega) (by omega); omega
      · have := hok.1; omega
    have hne0 : S i ≠ S (rv 1 i) := fun q => hok.2.2 (rv 1 i) (by omega) (by omega) (by simp) (hK.2.2.2.2 i _ (by omega) (by omega) q).symm
    have hne1 : S i ≠ S (rv 1 i + 1) := fun q => hok.2.2 (rv 1 i + 1) (by omega) (by omega) (by simp) (hK.2.2.2.2 i _ (by omega) (by omega) q).symm
    obtain ⟨M2, f2, c2, e2⟩ := s_cho hW hK.1 hK.2.1 (hK.2.2.2.1 i (by omega)) (hK.2.2.2.1 (rv 1 i) (by omega)) hne0 1
    have f2' : f_X11_chanceOf FD (nI (S i)) (nI (S (rv 1 i))) 1 M = _ := f2
    obtain ⟨M3, f3, c3, e3⟩ := s_cho c2 hK.1 hK.2.1 (hK.2.2.2.1 i (by omega)) (hK.2.2.2.1 (rv 1 i + 1) (by omega)) hne1 1
    have f3' : f_X11_chanceOf FD (nI (S i)) (nI (S (rv 1 i + 1))) 1 M2 = _ := f3
    have hc1 := cN_le lw wo 1 (S i) (S (rv 1 i))
    have hc2 := cN_le lw wo 1 (S i) (S (rv 1 i + 1))
    rw [f_X11_goesCup_L44, hW.2.2.1.1, if_neg (by rw [n_le (by omega) (by omega)]; omega), (rv_M i (by omega)).2.1, lt_e, ck_t (okL_67 (by omega)), ck_t (okL_67 (by omega)), ck_t (okI_66 (by omega)), ck_t (okI_66 (by omega)), n_clamp (by omega), n_clamp (by omega), hW.2.2.2.1 i (by omega), hW.2.2.2.1 (rv 1 i) (by omega), f2', bI_s, n_s1, ck_t (okL_67 (by omega)), ck_t (okI_66 (by omega)), ck_t (okI_66 (by omega)), n_clamp (by omega), c2.2.2.2.1 i (by omega), c2.2.2.2.1 (rv 1 i + 1) (by omega), f3', bI_s, ck_t (okL_68 (by omega)), lt_e, e2.1, t1 i (by omega), t1 (rv 1 i) (by omega), t1 (rv 1 i + 1) (by omega), n_l _ (by omega), n_l _ (by omega), lN_mul, lN_mul, lN_add, lN_mul, n_s1]
    refine mo_go2 hK hn k (i + 1) m _ (by omega) (by omega) (c3.wL _ _ _) (fun j hj => ?_) (fun j hj => ?_)
    · rw [wL_rd, if_neg (by omega), e3.1, e2.1]; exact t1 j hj
    · rw [wL_rd]
      by_cases q : j = i
      · subst q; rw [if_pos ⟨rfl, rfl⟩]; rfl
      · rw [if_neg (by omega), e3.2.1, e2.2.1]; exact t2 j (by omega)
theorem mo_go1 (hK : OKW np nm wo wi lo ct lw n S) (hn : n = 4 ∨ n = 8) : ∀ (k i m : Nat) (M : Mem), i + k = n → k < m → MWS np nm wo wi lo ct lw n rw S M → (∀ j, j < i → M.2.1 67 j = lN (th (cN lw wo) S 1 j)) → ∃ M1, f_X11_goesCup_L2 m (nI i) M = some M1 ∧ MWS np nm wo wi lo ct lw n rw S M1 ∧ T1 (cN lw wo) S n M1 ∧ T2 (cN lw wo) S n M1 ∧ (n = 8 → T3 (cN lw wo) S n M1)
  | 0, i, m, M, h1, h2, hW, t1 => by
    have h8 := hK.2.2.1
    obtain ⟨m, rfl⟩ : ∃ m2, m = m2 + 1 := ⟨m - 1, by omega⟩
    rw [f_X11_goesCup_L2, hW.2.2.1.1, if_pos ((n_le (by omega) (by omega)).mpr (by omega))]
    exact mo_go2 hK hn n 0 FU M (by omega) (by unfold FU; omega) hW (fun j hj => t1 j (by omega)) (fun j hj => by omega)
  | k + 1, i, m, M, h1, h2, hW, t1 => by
    have h8 := hK.2.2.1
    obtain ⟨m, rfl⟩ : ∃ m2, m = m2 + 1 := ⟨m - 1, by omega⟩
    have hok := rv_ok 0 (by omega) i (by omega)
    have hrn : rv 0 i + 1 ≤ n := by
      rcases hn with hn | hn
      · have := hok.2.1 (by omega) (by omega); omega
      · have := hok.1; omega
    have hne0 : S i ≠ S (rv 0 i) := fun q => hok.2.2 (rv 0 i) (by omega) (by omega) (by simp) (hK.2.2.2.2 i _ (by omega) (by omega) q).symm
    obtain ⟨M2, f2, c2, e2⟩ := s_cho hW hK.1 hK.2.1 (hK.2.2.2.1 i (by omega)) (hK.2.2.2.1 (rv 0 i) (by omega)) hne0 0
    have f2' : f_X11_chanceOf FD (nI (S i)) (nI (S (rv 0 i))) 0 M = _ := f2
    have hc1 := cN_le lw wo 0 (S i) (S (rv 0 i))
    rw [f_X11_goesCup_L2, hW.2.2.1.1, if_neg (by rw [n_le (by omega) (by omega)]; omega), (rv_M i (by omega)).1, ck_t (okI_66 (by omega)), ck_t (okI_66 (by omega)), n_clamp (by omega), n_clamp (by omega), hW.2.2.2.1 i (by omega), hW.2.2.2.1 (rv 0 i) (by omega), f2', bI_s, ck_t (okL_67 (by omega)), lt_e, n_l _ (by omega), n_s1]
    refine mo_go1 hK hn k (i + 1) m _ (by omega) (by omega) (c2.wL _ _ _) (fun j hj => ?_)
    rw [wL_rd]
    by_cases q : j = i
    · subst q
      rw [if_pos ⟨rfl, rfl⟩]
      show _ = lN (1 * (1 * cN lw wo 0 (S j) (S (rv 0 j)) + 0))
      rw [Nat.one_mul, Nat.one_mul, Nat.add_zero]
    · rw [if_neg (by omega), e2.1]; exact t1 j (by omega)
theorem mo_goesCup (hK : OKW np nm wo wi lo ct lw n S) (hn : n = 4 ∨ n = 8) (hW : MWS np nm wo wi lo ct lw n rw S M) : ∃ M1, f_X11_goesCup M = some M1 ∧ MWS np nm wo wi lo ct lw n rw S M1 ∧ T1 (cN lw wo) S n M1 ∧ T2 (cN lw wo) S n M1 ∧ (n = 8 → T3 (cN lw wo) S n M1) := by
  have h8 := hK.2.2.1
  unfold f_X11_goesCup
  exact mo_go1 hK hn n 0 FU M (by omega) (by unfold FU; omega) hW (fun j hj => by omega)
end GOC
