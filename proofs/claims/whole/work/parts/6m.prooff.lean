/-! proof: the class's two loops -/
section PRL
variable {np nm : Nat} {wo wi lo ct : Nat → Nat} {M : Mem}
theorem cl_isP (hO : OKF np nm wo wi lo ct) (hR : okR M) (hC : CF np nm wo wi lo ct M) {s kn ak : Nat} (hs : s < 4096) (hQ : okQ np kn ak) (h6 : kn = 6 → ak < np) (h0 : (kn = 0 ∨ kn = 1 ∨ kn = 3 ∨ kn = 4) → ak = 0) : ∃ M1, f_X10_isProved (nI s) (nI kn) (nI ak) M = some (bb (decide (ansN np (abv wi lo s nm) kn ak = 1)), M1) ∧ CF np nm wo wi lo ct M1 ∧ okR M1 := by
  obtain ⟨M2, f2, c2⟩ := cl_take hO hC hs
  obtain ⟨M4, f4, c4⟩ := cl_tally (okA_abv hO s) c2
  have hle := ansN_le hO.1 (abv wi lo s nm) kn ak
  have e1 : (nI (ansN np (abv wi lo s nm) kn ak) = 1) = (ansN np (abv wi lo s nm) kn ak = 1) := propext (n_eq (b := 1) (by omega) (by omega))
  have f : f_X10_isProved (nI s) (nI kn) (nI ak) M = some (bb (decide (ansN np (abv wi lo s nm) kn ak = 1)), M4) := by
    unfold f_X10_isProved
    rw [f2, bd_s, f4, bd_s, cl_answers (okA_abv hO s) c4 hQ h6 h0, bd_s]
    simp only [e1]
    by_cases c : ansN np (abv wi lo s nm) kn ak = 1
    · rw [if_pos c, decide_eq_true c]; rfl
    · rw [if_neg c, decide_eq_false c]; rfl
  have fr := fr_X10_isProved _ _ _ M _ f
  refine ⟨M4, f, grp_CF.kp hR fr (by decide) hC, ?_⟩
  have := (fr hR.c).1
  unfold okR
  simp only at this
  rw [this]
  exact hR
theorem pop_sub_le {A B : Nat} (hB : B < 4096) (h : A &&& B = A) : pop A ≤ pop B := by
  rcases pop_sub hB (land_sub.mp h) with q | q
  · omega
  · rw [q]; exact Nat.le_refl _
theorem pop12_le {u : Nat} (hu : u < 4096) : pop u ≤ 12 := by
  rw [pop_su hu]
  have := su_le (g := fun m => (u.testBit m).toNat) (b := 1) 12 0 (fun m _ _ => by show (u.testBit m).toNat ≤ 1; cases u.testBit m <;> decide)
  omega
variable {kn ak u : Nat}
theorem cl_fp_i {k17 : Int32 → Int32 → Int32 → Int32 → Int32 → Mem → Option (Int32 × Mem)} (hO : OKF np nm wo wi lo ct) (hu : u < 4096) (hQ : okQ np kn ak) (h6 : kn = 6 → ak < np) (h0 : (kn = 0 ∨ kn = 1 ∨ kn = 3 ∨ kn = 4) → ak = 0) (hE : ∀ F, F &&& u = F → 1 ≤ ansN np (abv wi lo F nm) kn ak) {z : Nat} (hz : z < 100) (R : Option (Int32 × Mem) → Prop) (hno : ∀ M, CF np nm wo wi lo ct M → okR M → (∀ F, F &&& u = F → pop F ≤ z → ¬ ansN np (abv wi lo F nm) kn ak ≤ 1) → R (k17 (nI kn) (nI ak) (nI u) (nI (pop u)) (nI (z + 1)) M)) (hyes : ∀ B M, B &&& u = B → ansN np (abv wi lo B nm) kn ak ≤ 1 → (∀ F, F &&& u = F → ansN np (abv wi lo F nm) kn ak ≤ 1 → keyV B ≤ keyV F) → R (some (nI B, M))) (hlt : ∀ F, F &&& u = F → pop F < z → ¬ ansN np (abv wi lo F nm) kn ak ≤ 1) : ∀ (r t m : Nat) (v6 : Int32) (M : Mem), t + r = 2 ^ pop u → r < m → (t < 2 ^ pop u → v6 = nI (dep u t)) → CF np nm wo wi lo ct M → okR M → (∀ t2, t2 < t → pop (dep u t2) = z → ¬ ansN np (abv wi lo (dep u t2) nm) kn ak ≤ 1) → R (f_X10_fewestProving_L30 k17 m (nI kn) (nI ak) (nI u) (nI (pop u)) (nI z) v6 (nI t) M)
  | 0, t, m, v6, M, h, hm, hv, hC, hR, hp => by
    obtain ⟨m, rfl⟩ : ∃ m2, m = m2 + 1 := ⟨m - 1, by omega⟩
    have hp12 := pop12_le hu
    have h4 : 2 ^ pop u ≤ 2 ^ 12 := Nat.pow_le_pow_right (by omega) hp12
    rw [f_X10_fewestProving_L30, n_shl1 _ (by omega), if_pos ((n_le (by omega) (by omega)).mpr (by omega)), n_s1]
    refine hno M hC hR (fun F hF hpF => ?_)
    by_cases c : pop F < z
    · exact hlt F hF c
    · obtain ⟨t2, a1, a2⟩ := dep_sur 12 u F hu hF
      rw [← pop_12' hu] at a1
      have := hp t2 (by omega) (by show pop (depF 12 u t2) = z; rw [a2]; omega)
      rw [show dep u t2 = F from a2] at this
      exact this
  | r + 1, t, m, v6, M, h, hm, hv, hC, hR, hp => by
    obtain ⟨m, rfl⟩ : ∃ m2, m = m2 + 1 := ⟨m - 1, by omega⟩
    have hp12 := pop12_le hu
    have h4 : 2 ^ pop u ≤ 2 ^ 12 := Nat.pow_le_pow_right (by omega) hp12
    have hv' := hv (by omega)
    subst hv'
    have hdl : dep u t < 4096 := by have := dep_le 12 u t; unfold dep; omega
    have hds : dep u t &&& u = dep u t := dep_sub 12 u t
    have hpd := pop12_le hdl
    have e1 : (nI (pop (dep u t)) = nI z) = (pop (dep u t) = z) := propext (n_eq (by omega) (by omega))
    have keep : ∀ M2, CF np nm wo wi lo ct M2 → okR M2 → (pop (dep u t) = z → ¬ ansN np (abv wi lo (dep u t) nm) kn ak ≤ 1) → R (f_X10_fewestProving_L30 k17 m (nI kn) (nI ak) (nI u) (nI (pop u)) (nI z) ((nI (dep u t) - nI u) &&& nI u) (nI (t + 1)) M2) := fun M2 hC2 hR2 hs => cl_fp_i hO hu hQ h6 h0 hE hz R hno hyes hlt r (t + 1) m _ M2 (by omega) (by omega) (fun ht => nx_dep hu ht) hC2 hR2 (fun t2 h2 hp2 => by
      by_cases e : t2 = t
      · rw [e] at hp2 ⊢; exact hs hp2
      · exact hp t2 (by omega) hp2)
    rw [f_X10_fewestProving_L30, n_shl1 _ (by omega), if_neg (by rw [n_le (by omega) (by omega)]; omega), cl_bits hdl, bd_s]
    simp only [e1]
    unfold f_X10_fewestProving_b63
    rw [n_s1, lt_e]
    by_cases c1 : pop (dep u t) = z
    · rw [if_pos c1]
      obtain ⟨M4, f4, hC4, hR4⟩ := cl_isP hO hR hC hdl hQ h6 h0
      rw [f4, bI_s, ite_bb, lt_e]
      by_cases c2 : ansN np (abv wi lo (dep u t) nm) kn ak = 1
      · rw [if_pos (decide_eq_true c2)]
        refine hyes (dep u t) M4 hds (by omega) (fun F hF hFa => ?_)
        have hF4 : F < 4096 := by have := Nat.and_le_right (n := F) (m := u); omega
        unfold keyV
        rw [c1]
        by_cases d1 : pop F < z
        · exact absurd hFa (hlt F hF d1)
        · by_cases d2 : pop F = z
          · obtain ⟨t2, a1, a2⟩ := dep_sur 12 u F hu hF
            by_cases d3 : t2 < t
            · have := hp t2 d3 (by show pop (depF 12 u t2) = z; rw [a2]; omega)
              rw [show dep u t2 = F from a2] at this
              exact absurd hFa this
            · by_cases d4 : t2 = t
              · rw [d4] at a2
                rw [show dep u t = F from a2, d2]
                exact Nat.le_refl _
              · have := dep_mono 12 u t t2 (by omega) a1
                rw [a2] at this
                have h' : dep u t < F := this
                omega
          · omega
      · rw [if_neg (by simpa using c2)]
        refine keep M4 hC4 hR4 (fun _ => ?_)
        have := hE (dep u t) hds
        omega
    · rw [if_neg c1]
      exact keep M hC hR (fun h => absurd h c1)
theorem cl_fp_o (hO : OKF np nm wo wi lo ct) (hu : u < 4096) (hQ : okQ np kn ak) (h6 : kn = 6 → ak < np) (h0 : (kn = 0 ∨ kn = 1 ∨ kn = 3 ∨ kn = 4) → ak = 0) (hE : ∀ F, F &&& u = F → 1 ≤ ansN np (abv wi lo F nm) kn ak) (hU : ansN np (abv wi lo u nm) kn ak ≤ 1) : ∀ (r z m : Nat) (M : Mem), z + r = pop u + 1 → r < m → CF np nm wo wi lo ct M → okR M → (∀ F, F &&& u = F → pop F < z → ¬ ansN np (abv wi lo F nm) kn ak ≤ 1) → ∃ B M1, f_X10_fewestProving_L17 m (nI kn) (nI ak) (nI u) (nI (pop u)) (nI z) M = some (nI B, M1) ∧ B &&& u = B ∧ ansN np (abv wi lo B nm) kn ak ≤ 1 ∧ ∀ F, F &&& u = F → ansN np (abv wi lo F nm) kn ak ≤ 1 → keyV B ≤ keyV F
  | 0, z, m, M, h, hm, hC, hR, hlt => by
    exact absurd hU (hlt u (Nat.and_self _) (by omega))
  | r + 1, z, m, M, h, hm, hC, hR, hlt => by
    obtain ⟨m, rfl⟩ : ∃ m2, m = m2 + 1 := ⟨m - 1, by omega⟩
    have hp12 := pop12_le hu
    have h4 : 2 ^ pop u ≤ 2 ^ 12 := Nat.pow_le_pow_right (by omega) hp12
    rw [f_X10_fewestProving_L17, if_neg (by rw [n_lt (by omega) (by omega)]; omega)]
    have hd0 : (0 : Int32) = nI (dep u 0) := by unfold dep; rw [dep_0]; rfl
    have := cl_fp_i (k17 := fun a0 a1 a2 a3 a4 a5 => f_X10_fewestProving_L17 m a0 a1 a2 a3 a4 a5) hO hu hQ h6 h0 hE (z := z) (by omega) (fun x => ∃ B M1, x = some (nI B, M1) ∧ B &&& u = B ∧ ansN np (abv wi lo B nm) kn ak ≤ 1 ∧ ∀ F, F &&& u = F → ansN np (abv wi lo F nm) kn ak ≤ 1 → keyV B ≤ keyV F) (fun M2 hC2 hR2 h2 => cl_fp_o hO hu hQ h6 h0 hE hU r (z + 1) m M2 (by omega) (by omega) hC2 hR2 (fun F hF hp => h2 F hF (by omega))) (fun B M2 b1 b2 b3 => ⟨B, M2, rfl, b1, b2, b3⟩) hlt (2 ^ pop u) 0 FU 0 M (by omega) (by unfold FU; omega) (fun _ => hd0) hC hR (fun t2 h2 => by omega)
    exact this
theorem cl_proof (hO : OKF np nm wo wi lo ct) (hR : okR M) (hC : CF np nm wo wi lo ct M) (v : Int32) : ∃ B M1, f_X10_proof v M = some (proA np (abv wi lo (cms ct nm) nm) v B, M1) ∧ proB np nm wi lo ct v B := by
  have h8 := hO.1
  have h12 := hO.2.1
  have e0 : (nI np = 0) = (np = 0) := propext (n_eq (b := 0) (by omega) (by omega))
  have e5 : (nI np ≤ 5) = (np ≤ 5) := propext (n_le (b := 5) (by omega) (by omega))
  unfold f_X10_proof proB
  rw [cl_isQ h8 hC.1, bd_s, ite_bb, hC.1]
  simp only [e0, e5]
  by_cases q : qOK np v = true
  · rw [if_pos q]
    by_cases c0 : np = 0
    · rw [if_pos c0]
      exact ⟨0, M, by rw [pA5 q (Or.inl c0)], fun _ h => absurd c0 h⟩
    rw [if_neg c0]
    by_cases c5 : np ≤ 5
    · rw [if_pos c5]
      obtain ⟨x, hx, rfl, hqb⟩ := qOK_nat q
      obtain ⟨o1, o2, o3⟩ := qb_okQ h8 hqb (by omega)
      obtain ⟨M4, f4, c4⟩ := cl_tallied hO hC
      have fr := fr_X10_tallied M _ f4
      have hC4 : CF np nm wo wi lo ct M4 := grp_CF.kp hR fr (by decide) hC
      have hR4 : okR M4 := by
        have := (fr hR.c).1
        simp only [id] at this
        unfold okR
        rw [this]
        exact hR
      have hle := ansN_le h8 (abv wi lo (cms ct nm) nm) (x / 10) (x % 10)
      have e1 : (nI (ansN np (abv wi lo (cms ct nm) nm) (x / 10) (x % 10)) = 1) = (ansN np (abv wi lo (cms ct nm) nm) (x / 10) (x % 10) = 1) := propext (n_eq (b := 1) (by omega) (by omega))
      have hcl := n_clamp hx
      rw [f4, bd_s, n_rem10 hx, n_div10 hx, cl_answers (okA_abv hO _) c4 o1 o2 o3, bd_s]
      simp only [e1]
      by_cases c1 : ansN np (abv wi lo (cms ct nm) nm) (x / 10) (x % 10) = 1
      · rw [if_pos c1]
        have hu := onc_lt (wi := wi) (lo := lo) hO (Nat.le_refl nm)
        have hsub : ∀ F, F &&& onc wi lo ct nm = F → F &&& cms ct nm = F := fun F hF => land_sub.mpr (fun i hi => by
          have := onc_1 nm (land_sub.mp hF i hi)
          unfold cms
          rw [tb_msk]
          simp [this.1, this.2])
        have hEa : ext np (abv wi lo (cms ct nm) nm) np 0 ≠ [] := fun e => by
          have := ansN_0 (kn := x / 10) (ak := x % 10) e
          omega
        have hab : abv wi lo (onc wi lo ct nm) nm = abv wi lo (cms ct nm) nm := abv_eq (fun m hm hb => ⟨m, hm, land_sub.mp (hsub _ (Nat.and_self _)) m hb, rfl, rfl⟩) (fun m hm hb => by
          unfold cms at hb
          rw [tb_msk, Bool.and_eq_true, decide_eq_true_eq, decide_eq_true_eq] at hb
          obtain ⟨e, a1, a2, a3⟩ := onc_2 (wi := wi) (lo := lo) nm hb.1 hb.2
          exact ⟨e, by omega, a2, a3⟩)
        obtain ⟨B, M1, g1, g2, g3, g4⟩ := cl_fp_o (kn := x / 10) (ak := x % 10) hO hu o1 o2 o3 (fun F hF => ansN_pos o1 (ext_sub hO (hsub F hF) hEa)) (by rw [hab]; omega) (pop (onc wi lo ct nm) + 1) 0 FU M4 (by omega) (by have := pop12_le hu; unfold FU; omega) hC4 hR4 (fun F _ h => by omega)
        have g1' : f_X10_fewestProving_L17 FU (nI (x / 10)) (nI (x % 10)) (nI (onc wi lo ct nm)) (nI (pop (onc wi lo ct nm))) 0 M4 = _ := g1
        unfold f_X10_fewestProving
        rw [cl_once hO hC4, bd_s, cl_bits hu, bd_s, g1', bI_s]
        refine ⟨B, M1, by rw [pAb q c0 c5 (by rw [hcl]; omega)], fun _ _ _ _ => ?_⟩
        rw [hcl]
        exact ⟨⟨hsub B g2, g3⟩, fun F hF => once_min hO (kn := x / 10) (ak := x % 10) g4 (keyV F) F (Nat.le_refl _) hF⟩
      · rw [if_neg c1]
        exact ⟨0, M4, by rw [pA2 q c0 c5 (by rw [hcl]; omega)], fun _ _ h => by rw [hcl] at h; omega⟩
    · rw [if_neg c5]
      exact ⟨0, M, by rw [pA5 q (Or.inr c5)], fun _ _ _ h => absurd h c5⟩
  · rw [if_neg q]
    exact ⟨0, M, by rw [pA1 q], fun h => absurd h q⟩
/-- both sides give one answer -/
theorem pro_u (hO : OKF np nm wo wi lo ct) {v : Int32} {A B : Nat} (h1 : proB np nm wi lo ct v A) (h2 : proB np nm wi lo ct v B) : proA np (abv wi lo (cms ct nm) nm) v A = proA np (abv wi lo (cms ct nm) nm) v B := by
  by_cases q : qOK np v = true
  · by_cases c : np = 0 ∨ ¬ np ≤ 5
    · rw [pA5 q c, pA5 q c]
    · have c0 : np ≠ 0 := fun e => c (Or.inl e)
      have c5 : np ≤ 5 := by omega
      by_cases c1 : ansN np (abv wi lo (cms ct nm) nm) (v.toNatClampNeg / 10) (v.toNatClampNeg % 10) = 1
      · rw [bestP_u (cms_lt hO) (h1 q c0 c1 c5) (h2 q c0 c1 c5)]
      · rw [pA2 q c0 c5 c1, pA2 q c0 c5 c1]
  · rw [pA1 q, pA1 q]
end PRL
