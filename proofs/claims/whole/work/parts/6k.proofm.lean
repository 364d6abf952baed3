/-! proof: what is asked, and the model's search -/
def PQ (np nm : Nat) (wi lo : Nat → Nat) (kn ak all F : Nat) : Prop := F &&& all = F ∧ ansN np (abv wi lo F nm) kn ak ≤ 1
def bestP (np nm : Nat) (wi lo : Nat → Nat) (kn ak all B : Nat) : Prop := PQ np nm wi lo kn ak all B ∧ ∀ F, PQ np nm wi lo kn ak all F → keyV B ≤ keyV F
section PRF
variable {np nm : Nat} {wo wi lo ct : Nat → Nat} {M : Mem} {kn ak : Nat}
theorem bestP_u {all A B : Nat} (hall : all < 4096) (h1 : bestP np nm wi lo kn ak all A) (h2 : bestP np nm wi lo kn ak all B) : A = B := by
  have e1 := h1.2 B h2.1
  have e2 := h2.2 A h1.1
  have l1 : A < 4096 := by have := Nat.and_le_right (n := A) (m := all); have := h1.1.1; omega
  have l2 : B < 4096 := by have := Nat.and_le_right (n := B) (m := all); have := h2.1.1; omega
  unfold keyV at e1 e2
  omega
theorem ansN_pos {ab : Nat → Nat} (hQ : okQ np kn ak) (hE : ext np ab np 0 ≠ []) : 1 ≤ ansN np ab kn ak := by
  unfold ansN
  split
  · exact List.length_pos_iff.mpr hE
  · obtain ⟨o, ho⟩ := List.exists_mem_of_ne_nil _ hE
    have hk := permL (ext_ok hQ.2.2.1 ho)
    have hlt := codeF_lt hQ (fun k hk2 => (hk.1 k hk2).1)
    unfold nCd
    have h1 := su_mono (g := fun c => if c = codeF np kn ak (oL o) then 1 else 0) (h := fun c => (sn np kn ak (ext np ab np 0) c).toNat) 256 0 (fun c _ _ => by
      show (if c = codeF np kn ak (oL o) then 1 else 0) ≤ (sn np kn ak (ext np ab np 0) c).toNat
      by_cases e : c = codeF np kn ak (oL o)
      · have : sn np kn ak (ext np ab np 0) c = true := by
          unfold sn
          rw [List.any_eq_true]
          exact ⟨o, ho, by rw [e]; simp⟩
        rw [if_pos e, this]; exact Nat.le_refl _
      · rw [if_neg e]; exact Nat.zero_le _)
    rw [su_one 256 0 (by omega) (by omega)] at h1
    exact h1
theorem ansN_0 {ab : Nat → Nat} (hE : ext np ab np 0 = []) : ansN np ab kn ak = 0 := by
  unfold ansN
  rw [hE, nCd_0]
  split <;> rfl
theorem ext_sub (hO : OKF np nm wo wi lo ct) {F all : Nat} (h : F &&& all = F) (hE : ext np (abv wi lo all nm) np 0 ≠ []) : ext np (abv wi lo F nm) np 0 ≠ [] := by
  obtain ⟨o, ho⟩ := List.exists_mem_of_ne_nil _ hE
  have hk := ext_ok hO.1 ho
  have h1 := (ord_of hO.1 (hwm hO) hk).mp ho
  have h2 := (ord_of (s := F) hO.1 (hwm hO) hk).mpr (fun m hm hs => h1 m hm (land_sub.mp h m hs))
  intro e
  rw [e] at h2
  cases h2
theorem mo_pr_L (hO : OKF np nm wo wi lo ct) {x : Nat} (hx : x < 2147483648) (hQ : okQ np (x / 10) (x % 10)) : ∀ (r s m B : Nat) (M : Mem), s + r = 2 ^ nm → r < m → MF np nm wo wi lo ct M → okR M → M.1 47 32 = 0 → PQ np nm wi lo (x / 10) (x % 10) (cms ct nm) B → (B = cms ct nm ∨ B < s) → (∀ F, F < s → PQ np nm wi lo (x / 10) (x % 10) (cms ct nm) F → keyV B ≤ keyV F) → ∃ B2 M1, f_X11_proof_L69 m (nI x) (nI (cms ct nm)) (nI B) (nI s) M = some (nI B2, M1) ∧ bestP np nm wi lo (x / 10) (x % 10) (cms ct nm) B2
  | 0, s, m, B, M, h, hm, hC, hR, h32, hQ2, hB, hP => by
    have h12 := hO.2.1
    have h4 : 2 ^ nm ≤ 2 ^ 12 := Nat.pow_le_pow_right (by omega) h12
    obtain ⟨m, rfl⟩ : ∃ m2, m = m2 + 1 := ⟨m - 1, by omega⟩
    rw [f_X11_proof_L69, hC.2.1, n_shl1 nm (by omega), if_pos ((n_le (by omega) (by omega)).mpr (by omega))]
    refine ⟨B, M, rfl, hQ2, fun F hF => hP F ?_ hF⟩
    have h1 := Nat.and_le_right (n := F) (m := cms ct nm)
    have h2 : cms ct nm < 2 ^ nm := msk_lt _ _
    have := hF.1
    omega
  | r + 1, s, m, B, M, h, hm, hC, hR, h32, hQ2, hB, hP => by
    have h12 := hO.2.1
    have h4 : 2 ^ nm ≤ 2 ^ 12 := Nat.pow_le_pow_right (by omega) h12
    have hcl := cms_lt hO
    obtain ⟨m, rfl⟩ : ∃ m2, m = m2 + 1 := ⟨m - 1, by omega⟩
    have hB4 : B < 4096 := by have := Nat.and_le_right (n := B) (m := cms ct nm); have := hQ2.1; omega
    have pl1 := pop_le s
    have pl2 := pop_le B
    rw [f_X11_proof_L69, hC.2.1, n_shl1 nm (by omega), if_neg (by rw [n_le (by omega) (by omega)]; omega), mo_bits (by omega), bd_s, mo_bits (by omega), bd_s, n_rem10 hx, n_div10 hx]
    simp only [n_sub0 (show s < 2147483648 by omega), n_le (show pop B < 2147483648 by omega) (show pop s < 2147483648 by omega)]
    unfold f_X11_proof_b129 f_X11_proof_b130
    rw [n_s1]
    have keep : ∀ M2, MF np nm wo wi lo ct M2 → okR M2 → M2.1 47 32 = 0 → (PQ np nm wi lo (x / 10) (x % 10) (cms ct nm) s → keyV B ≤ keyV s) → ∃ B2 M1, f_X11_proof_L69 m (nI x) (nI (cms ct nm)) (nI B) (nI (s + 1)) M2 = some (nI B2, M1) ∧ bestP np nm wi lo (x / 10) (x % 10) (cms ct nm) B2 := fun M2 hC2 hR2 h2 hs => mo_pr_L hO hx hQ r (s + 1) m B M2 (by omega) (by omega) hC2 hR2 h2 hQ2 (by omega) (fun F hF hFQ => by
      by_cases e : F = s
      · rw [e]; rw [e] at hFQ; exact hs hFQ
      · exact hP F (by omega) hFQ)
    by_cases c1 : s &&& cms ct nm = s
    · rw [if_pos c1]
      by_cases c2 : pop B ≤ pop s
      · rw [if_pos c2]
        refine keep M hC hR h32 (fun hs => ?_)
        unfold keyV
        rcases hB with hB | hB
        · rcases pop_sub hcl (land_sub.mp c1) with q | q
          · rw [hB] at c2; omega
          · rw [hB, q]; exact Nat.le_refl _
        · omega
      · rw [if_neg c2]
        obtain ⟨M6, f6, c6⟩ := mo_goes (w := true) (kn := x / 10) (ak := x % 10) (g := false) hR hO hC (show s < 4096 by omega) (fun _ => hQ) (fun h => by cases h) (fun h => by cases h) hQ.1 h32
        rw [if_pos rfl] at f6
        have fr := fr_X11_goesThrough _ _ _ M _ f6
        have hC6 : MF np nm wo wi lo ct M6 := grp_MF.kp hR fr (by decide) hC
        have hR6 : okR M6 := by
          have := (fr hR.c).1
          simp only [id] at this
          unfold okR
          rw [this]
          exact hR
        have h36 : M6.1 47 32 = 0 := c6.1.2.2.2.1
        have hle := ansN_le hO.1 (abv wi lo s nm) (x / 10) (x % 10)
        have e1 : ((2 : Int32) ≤ nI (ansN np (abv wi lo s nm) (x / 10) (x % 10))) = (2 ≤ ansN np (abv wi lo s nm) (x / 10) (x % 10)) := propext (n_le (a := 2) (by omega) (by omega))
        rw [f6, bd_s, GT_27 c6]
        simp only [e1]
        by_cases c3 : 2 ≤ ansN np (abv wi lo s nm) (x / 10) (x % 10)
        · rw [if_pos c3]
          exact keep M6 hC6 hR6 h36 (fun hs => by have := hs.2; omega)
        · rw [if_neg c3]
          refine mo_pr_L hO hx hQ r (s + 1) m s M6 (by omega) (by omega) hC6 hR6 h36 ⟨c1, by omega⟩ (Or.inr (by omega)) (fun F hF hFQ => ?_)
          by_cases e : F = s
          · rw [e]; exact Nat.le_refl _
          · have := hP F (by omega) hFQ
            have hF4 : F < 4096 := by omega
            unfold keyV at this ⊢
            omega
    · rw [if_neg c1]
      exact keep M hC hR h32 (fun hs => absurd hs.1 c1)
def proA (np : Nat) (ab : Nat → Nat) (v : Int32) (B : Nat) : Int32 := if qOK np v = true then (if np = 0 then -5 else if np ≤ 5 then (if ansN np ab (v.toNatClampNeg / 10) (v.toNatClampNeg % 10) = 1 then nI B else -2) else -5) else -1
def proB (np nm : Nat) (wi lo ct : Nat → Nat) (v : Int32) (B : Nat) : Prop := qOK np v = true → np ≠ 0 → ansN np (abv wi lo (cms ct nm) nm) (v.toNatClampNeg / 10) (v.toNatClampNeg % 10) = 1 → np ≤ 5 → bestP np nm wi lo (v.toNatClampNeg / 10) (v.toNatClampNeg % 10) (cms ct nm) B
theorem pA1 {ab : Nat → Nat} {v : Int32} {B : Nat} (q : ¬ qOK np v = true) : proA np ab v B = -1 := by unfold proA; rw [if_neg q]
theorem pA5 {ab : Nat → Nat} {v : Int32} {B : Nat} (q : qOK np v = true) (h : np = 0 ∨ ¬ np ≤ 5) : proA np ab v B = -5 := by
  unfold proA
  rw [if_pos q]
  by_cases c : np = 0
  · rw [if_pos c]
  · rw [if_neg c, if_neg (h.resolve_left c)]
theorem pAb {ab : Nat → Nat} {v : Int32} {B : Nat} (q : qOK np v = true) (h : np ≠ 0) (h5 : np ≤ 5) (h1 : ansN np ab (v.toNatClampNeg / 10) (v.toNatClampNeg % 10) = 1) : proA np ab v B = nI B := by
  unfold proA
  rw [if_pos q, if_neg h, if_pos h5, if_pos h1]
theorem pA2 {ab : Nat → Nat} {v : Int32} {B : Nat} (q : qOK np v = true) (h : np ≠ 0) (h5 : np ≤ 5) (h1 : ¬ ansN np ab (v.toNatClampNeg / 10) (v.toNatClampNeg % 10) = 1) : proA np ab v B = -2 := by
  unfold proA
  rw [if_pos q, if_neg h, if_pos h5, if_neg h1]
theorem mo_proof (hR : okR M) (hO : OKF np nm wo wi lo ct) (hC : MF np nm wo wi lo ct M) (h32 : M.1 47 32 = 0) (v : Int32) : ∃ B M1, f_X11_proof v M = some (proA np (abv wi lo (cms ct nm) nm) v B, M1) ∧ proB np nm wi lo ct v B := by
  have h8 := hO.1
  have h12 := hO.2.1
  have h4 : 2 ^ nm ≤ 2 ^ 12 := Nat.pow_le_pow_right (by omega) h12
  have e0 : (nI np = 0) = (np = 0) := propext (n_eq (b := 0) (by omega) (by omega))
  have e5 : (nI np ≤ 5) = (np ≤ 5) := propext (n_le (b := 5) (by omega) (by omega))
  unfold f_X11_proof proB
  rw [mo_isQ h8 hC.1, bd_s, ite_bb, hC.1]
  simp only [e0, e5]
  by_cases q : qOK np v = true
  · rw [if_pos q]
    by_cases c0 : np = 0
    · rw [if_pos c0]
      exact ⟨0, M, by rw [pA5 q (Or.inl c0)], fun _ h => absurd c0 h⟩
    rw [if_neg c0]
    by_cases c5 : np ≤ 5
    · rw [if_pos c5]
      obtain ⟨x, hx, rfl, hqb⟩ := qOK_nat q
      obtain ⟨o1, o2, o3⟩ := qb_okQ h8 hqb (by omega)
      obtain ⟨M6, f6, c6⟩ := mo_goes (w := true) (kn := x / 10) (ak := x % 10) (g := false) hR hO hC (cms_lt hO) (fun _ => o1) (fun h => by cases h) (fun h => by cases h) o1.1 h32
      rw [if_pos rfl] at f6
      have fr := fr_X11_goesThrough _ _ _ M _ f6
      have hC6 : MF np nm wo wi lo ct M6 := grp_MF.kp hR fr (by decide) hC
      have hR6 : okR M6 := by
        have := (fr hR.c).1
        simp only [id] at this
        unfold okR
        rw [this]
        exact hR
      have h36 : M6.1 47 32 = 0 := c6.1.2.2.2.1
      have hle := ansN_le h8 (abv wi lo (cms ct nm) nm) (x / 10) (x % 10)
      have hxl := ext_big h8 (abv wi lo (cms ct nm) nm)
      have e1 : (nI (ansN np (abv wi lo (cms ct nm) nm) (x / 10) (x % 10)) ≤ 1) = (ansN np (abv wi lo (cms ct nm) nm) (x / 10) (x % 10) ≤ 1) := propext (n_le (b := 1) (by omega) (by omega))
      have e2 : (nI (ext np (abv wi lo (cms ct nm) nm) np 0).length = 0) = ((ext np (abv wi lo (cms ct nm) nm) np 0).length = 0) := propext (n_eq (b := 0) (by omega) (by omega))
      have hcl := n_clamp hx
      rw [s_all hC hO, bd_s, n_rem10 hx, n_div10 hx, f6, bd_s, GT_27 c6, c6.1.2.2.2.2.1]
      simp only [e1, e2]
      by_cases cE : (ext np (abv wi lo (cms ct nm) nm) np 0).length = 0
      · have h0 := ansN_0 (kn := x / 10) (ak := x % 10) (List.length_eq_zero_iff.mp cE)
        rw [if_pos cE]
        exact ⟨0, M6, by rw [pA2 q c0 c5 (by rw [hcl]; omega)], fun _ _ h => by rw [hcl] at h; omega⟩
      · have hE : ext np (abv wi lo (cms ct nm) nm) np 0 ≠ [] := fun e => cE (by rw [e]; rfl)
        have h1 := ansN_pos o1 hE
        rw [if_neg cE]
        by_cases c1 : ansN np (abv wi lo (cms ct nm) nm) (x / 10) (x % 10) ≤ 1
        · obtain ⟨B, M1, g1, g2⟩ := mo_pr_L hO hx o1 (2 ^ nm) 0 FU (cms ct nm) M6 (by omega) (by unfold FU; omega) hC6 hR6 h36 ⟨Nat.and_self _, c1⟩ (Or.inl rfl) (fun F hF => by omega)
          have g1' : f_X11_proof_L69 FU (nI x) (nI (cms ct nm)) (nI (cms ct nm)) 0 M6 = _ := g1
          rw [if_pos c1, g1']
          exact ⟨B, M1, by rw [pAb q c0 c5 (by rw [hcl]; omega)], fun _ _ _ _ => by rw [hcl]; exact g2⟩
        · rw [if_neg c1]
          exact ⟨0, M6, by rw [pA2 q c0 c5 (by rw [hcl]; omega)], fun _ _ h => by rw [hcl] at h; omega⟩
    · rw [if_neg c5]
      exact ⟨0, M, by rw [pA5 q (Or.inr c5)], fun _ _ _ h => absurd h c5⟩
  · rw [if_neg q]
    exact ⟨0, M, by rw [pA1 q], fun h => absurd h q⟩
end PRF
