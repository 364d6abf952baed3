/-! wrong: both sides -/
section WRM
variable {np nm : Nat} {wo wi lo ct : Nat → Nat} {M : Mem}
theorem hwm (hO : OKF np nm wo wi lo ct) : ∀ m, m < nm → wi m < np ∧ lo m < np ∧ wi m ≠ lo m := fun m hm => ⟨(hO.2.2.2 m hm).1, (hO.2.2.2 m hm).2.1, (hO.2.2.2 m hm).2.2.1⟩
theorem pop12 : ∀ a, a < 64 → ∀ b, b < 64 → pop (64 * a + b) = su (fun m => ((64 * a + b).testBit m).toNat) 12 0 := by decide +kernel
theorem pop_su {F : Nat} (h : F < 4096) : pop F = su (fun m => (F.testBit m).toNat) 12 0 := by
  have := pop12 (F / 64) (by omega) (F % 64) (by omega)
  rw [Nat.div_add_mod] at this
  exact this
/-- a part of a set: fewer, or the same -/
theorem pop_sub {A B : Nat} (hB : B < 4096) (h : ∀ i, A.testBit i = true → B.testBit i = true) : pop A < pop B ∨ A = B := by
  have hA : A < 4096 := by
    have : A &&& B = A := land_sub.mpr h
    have h2 := Nat.and_le_right (n := A) (m := B)
    omega
  rw [pop_su hA, pop_su hB]
  have hle : ∀ i, (A.testBit i).toNat ≤ (B.testBit i).toNat := fun i => by
    cases e : A.testBit i
    · exact Nat.zero_le _
    · rw [h i e]; exact Nat.le_refl _
  by_cases q : ∃ i, i < 12 ∧ A.testBit i = false ∧ B.testBit i = true
  · obtain ⟨i, hi, a1, a2⟩ := q
    left
    have e1 := su_add (fun m => (A.testBit m).toNat) (fun m => if m = i then 1 else 0) 12 0
    rw [su_one 12 0 (by omega) (by omega)] at e1
    have e2 := su_mono (g := fun m => (A.testBit m).toNat + (if m = i then 1 else 0)) (h := fun m => (B.testBit m).toNat) 12 0 (fun m _ _ => by
      show (A.testBit m).toNat + (if m = i then 1 else 0) ≤ (B.testBit m).toNat
      by_cases c : m = i
      · rw [if_pos c, c, a1, a2]; decide
      · rw [if_neg c]; exact hle m)
    omega
  · right
    apply Nat.eq_of_testBit_eq
    intro i
    cases ea : A.testBit i
    · cases eb : B.testBit i
      · rfl
      · exfalso
        by_cases c : i < 12
        · exact q ⟨i, c, ea, eb⟩
        · rw [tb_st8 (n := 12) hB (by omega)] at eb; cases eb
    · rw [h i ea]
def keyV (F : Nat) : Nat := 4096 * pop F + F
theorem key_sub {A B : Nat} (hB : B < 4096) (h : ∀ i, A.testBit i = true → B.testBit i = true) : keyV A ≤ keyV B := by
  have hA : A < 4096 := by
    have : A &&& B = A := land_sub.mpr h
    have h2 := Nat.and_le_right (n := A) (m := B)
    omega
  unfold keyV
  rcases pop_sub hB h with q | q
  · omega
  · rw [q]; exact Nat.le_refl _
/-- the least of all -/
def best (np nm : Nat) (wi lo : Nat → Nat) (all B : Nat) : Prop := Qf np nm wi lo all B ∧ ∀ F, Qf np nm wi lo all F → keyV B ≤ keyV F
theorem best_u {all A B : Nat} (hall : all < 4096) (h1 : best np nm wi lo all A) (h2 : best np nm wi lo all B) : A = B := by
  have e1 := h1.2 B h2.1
  have e2 := h2.2 A h1.1
  have l1 : A < 4096 := by have := Nat.and_le_right (n := A) (m := all); have := h1.1.1; omega
  have l2 : B < 4096 := by have := Nat.and_le_right (n := B) (m := all); have := h2.1.1; omega
  unfold keyV at e1 e2
  omega
theorem Fo_Q (hO : OKF np nm wo wi lo ct) {o : List Nat} (ho : okL3 np o) : Qf np nm wi lo (cms ct nm) (Fo nm wi lo ct o) := by
  have hw := hwm hO
  refine ⟨land_sub.mpr (fun i hi => ?_), ?_⟩
  · unfold Fo at hi
    unfold cms
    rw [tb_msk] at hi ⊢
    simp only [Bool.and_eq_true] at hi ⊢
    exact ⟨hi.1, hi.2.1⟩
  · refine hasO_ne.mpr (fun e => ?_)
    have := (ord_of (s := cms ct nm ^^^ (cms ct nm &&& Fo nm wi lo ct o)) hO.1 hw ho).mpr (fun m hm hs => by
      rw [tb_diff] at hs
      simp only [Bool.and_eq_true, Bool.not_eq_true'] at hs
      have h1 : ct m = 1 := by
        have := hs.1
        unfold cms at this
        rw [tb_msk] at this
        simp only [Bool.and_eq_true, decide_eq_true_eq] at this
        exact this.2
      have h2 := hs.2
      unfold Fo at h2
      rw [tb_msk, decide_eq_true hm, Bool.true_and, decide_eq_true h1, Bool.true_and, decide_eq_false_iff_not] at h2
      have := pL_ne ho (hw m hm).1 (hw m hm).2.1 (hw m hm).2.2
      omega)
    rw [e] at this
    cases this
theorem Q_Fo (hO : OKF np nm wo wi lo ct) {F : Nat} (hF : Qf np nm wi lo (cms ct nm) F) : ∃ o, okL3 np o ∧ ∀ i, (Fo nm wi lo ct o).testBit i = true → F.testBit i = true := by
  have hw := hwm hO
  obtain ⟨o, ho⟩ := List.exists_mem_of_ne_nil _ (hasO_ne.mp hF.2)
  have hk := ext_ok hO.1 ho
  refine ⟨o, hk, fun i hi => ?_⟩
  unfold Fo at hi
  rw [tb_msk] at hi
  simp only [Bool.and_eq_true, decide_eq_true_eq] at hi
  by_cases q : F.testBit i = true
  · exact q
  · exfalso
    have := (ord_of hO.1 hw hk).mp ho i hi.1 (by
      rw [tb_diff]
      have : (cms ct nm).testBit i = true := by
        unfold cms
        rw [tb_msk]
        simp [hi.1, hi.2.1]
      rw [this]
      simpa using q)
    omega
theorem cl_best_w (hO : OKF np nm wo wi lo ct) : ∃ B, best np nm wi lo (cms ct nm) B ∧ B < 4096 ∧ ls np nm wi lo ct (2 ^ np - 1) = keyV B := by
  have h8 := hO.1
  have h12 := hO.2.1
  have hw := hwm hO
  have hp0 := Nat.two_pow_pos np
  obtain ⟨l, a1, a2, a3, a4⟩ := ls_hi (nm := nm) (wi := wi) (lo := lo) (ct := ct) h8 h12 (pop (2 ^ np - 1)) (2 ^ np - 1) (by omega) rfl
  have hl : l ∈ ext np (fun _ => 0) np 0 := full_mem h8 a1 a2 (fun i hi => by
    have := tb_st l 0 i
    rw [a3, Nat.testBit_two_pow_sub_one, Nat.zero_testBit, Bool.false_or, decide_eq_true hi] at this
    simpa using this.symm)
  have hk := ext_ok h8 hl
  have hlt : Fo nm wi lo ct l < 2 ^ nm := msk_lt _ _
  obtain ⟨k1, k2⟩ := keyN_eq h12 hlt
  rw [cst_key hw hk, k1] at a4
  refine ⟨Fo nm wi lo ct l, ⟨Fo_Q hO hk, fun F hF => ?_⟩, k2, a4.symm⟩
  obtain ⟨o, ho, hs⟩ := Q_Fo hO hF
  have hcl := cms_lt hO
  have hF4 : F < 4096 := by have := Nat.and_le_right (n := F) (m := cms ct nm); have := hF.1; omega
  have h1 := key_sub hF4 hs
  have hv : vld (fun _ => 0) 0 o = true := vld_0 (fun _ => rfl) o 0 ho.2.1 (fun p _ => Nat.zero_testBit p)
  have h2 := ls_lo (nm := nm) (wi := wi) (lo := lo) (ct := ct) h8 np o ho.1 ho.2.2.1 hv
  have hst : st 0 o = 2 ^ np - 1 := st_full np (fun _ => 0) h8 (full_mem h8 ho.2.2.1 hv ho.2.2.2)
  rw [hst, cst_key hw ho, (keyN_eq h12 (show Fo nm wi lo ct o < 2 ^ nm from msk_lt _ _)).1] at h2
  have e : keyV (Fo nm wi lo ct l) = ls np nm wi lo ct (2 ^ np - 1) := a4
  rw [e]
  exact Nat.le_trans h2 h1
theorem cl_wrong (hO : OKF np nm wo wi lo ct) (hC : CF np nm wo wi lo ct M) : ∃ B M1, f_X10_wrong M = some (nI B, M1) ∧ best np nm wi lo (cms ct nm) B := by
  obtain ⟨B, hB, h4, hk⟩ := cl_best_w hO
  obtain ⟨M1, f1⟩ := cl_wrong0 hO hC
  refine ⟨B, M1, ?_, hB⟩
  have e : keyV B &&& (2 ^ 12 - 1) = B := by
    rw [Nat.and_two_pow_sub_one_eq_mod]
    unfold keyV
    omega
  rw [f1, hk, show (4095 : Int32) = nI (2 ^ 12 - 1) from rfl, n_and, e]
theorem mo_wr_L (hO : OKF np nm wo wi lo ct) : ∀ (r s m B : Nat) (M : Mem), s + r = 2 ^ nm → r < m → MF np nm wo wi lo ct M → okR M → Qf np nm wi lo (cms ct nm) B → (B = cms ct nm ∨ B < s) → (∀ F, F < s → Qf np nm wi lo (cms ct nm) F → keyV B ≤ keyV F) → ∃ B2 M1, f_X11_wrong_L9 m (nI (cms ct nm)) (nI B) (nI s) M = some (nI B2, M1) ∧ best np nm wi lo (cms ct nm) B2
  | 0, s, m, B, M, h, hm, hC, hR, hQ, hB, hP => by
    have h12 := hO.2.1
    have h4 : 2 ^ nm ≤ 2 ^ 12 := Nat.pow_le_pow_right (by omega) h12
    obtain ⟨m, rfl⟩ : ∃ m2, m = m2 + 1 := ⟨m - 1, by omega⟩
    rw [f_X11_wrong_L9, hC.2.1, n_shl1 nm (by omega), if_pos ((n_le (by omega) (by omega)).mpr (by omega))]
    refine ⟨B, M, rfl, hQ, fun F hF => hP F ?_ hF⟩
    have h1 := Nat.and_le_right (n := F) (m := cms ct nm)
    have h2 : cms ct nm < 2 ^ nm := msk_lt _ _
    have := hF.1
    omega
  | r + 1, s, m, B, M, h, hm, hC, hR, hQ, hB, hP => by
    have h12 := hO.2.1
    have h4 : 2 ^ nm ≤ 2 ^ 12 := Nat.pow_le_pow_right (by omega) h12
    have hcl := cms_lt hO
    obtain ⟨m, rfl⟩ : ∃ m2, m = m2 + 1 := ⟨m - 1, by omega⟩
    have hB4 : B < 4096 := by have := Nat.and_le_right (n := B) (m := cms ct nm); have := hQ.1; omega
    have pl1 := pop_le s
    have pl2 := pop_le B
    have hd4 : cms ct nm ^^^ (cms ct nm &&& s) < 4096 := by
      refine Nat.lt_pow_two_of_testBit (n := 12) _ (fun i hi => ?_)
      rw [tb_diff, tb_st8 (n := 12) hcl hi]; rfl
    rw [f_X11_wrong_L9, hC.2.1, n_shl1 nm (by omega), if_neg (by rw [n_le (by omega) (by omega)]; omega), mo_bits (by omega), bd_s, mo_bits (by omega), bd_s, n_diff (cms ct nm) s (by omega)]
    simp only [n_sub0 (show s < 2147483648 by omega), n_le (show pop B < 2147483648 by omega) (show pop s < 2147483648 by omega)]
    unfold f_X11_wrong_b52
    rw [n_s1]
    have keep : ∀ M2, MF np nm wo wi lo ct M2 → okR M2 → (Qf np nm wi lo (cms ct nm) s → keyV B ≤ keyV s) → ∃ B2 M1, f_X11_wrong_L9 m (nI (cms ct nm)) (nI B) (nI (s + 1)) M2 = some (nI B2, M1) ∧ best np nm wi lo (cms ct nm) B2 := fun M2 hC2 hR2 hs => mo_wr_L hO r (s + 1) m B M2 (by omega) (by omega) hC2 hR2 hQ (by omega) (fun F hF hFQ => by
      by_cases e : F = s
      · rw [e]; rw [e] at hFQ; exact hs hFQ
      · exact hP F (by omega) hFQ)
    by_cases c1 : s &&& cms ct nm = s
    · rw [if_pos c1]
      by_cases c2 : pop B ≤ pop s
      · rw [if_pos c2]
        refine keep M hC hR (fun hs => ?_)
        unfold keyV
        rcases hB with hB | hB
        · rcases pop_sub hcl (land_sub.mp c1) with q | q
          · rw [hB] at c2; omega
          · rw [hB, q]; exact Nat.le_refl _
        · omega
      · rw [if_neg c2]
        obtain ⟨M6, f6, c6, r6⟩ := mo_has hO hR hC hd4
        rw [f6, bI_s, ite_bb]
        by_cases c3 : hasO np (abv wi lo (cms ct nm ^^^ (cms ct nm &&& s)) nm) = true
        · rw [if_pos c3]
          refine mo_wr_L hO r (s + 1) m s M6 (by omega) (by omega) c6 r6 ⟨c1, c3⟩ (Or.inr (by omega)) (fun F hF hFQ => ?_)
          by_cases e : F = s
          · rw [e]; exact Nat.le_refl _
          · have := hP F (by omega) hFQ
            have hF4 : F < 4096 := by omega
            unfold keyV at this ⊢
            omega
        · rw [if_neg c3]
          exact keep M6 c6 r6 (fun hs => absurd hs.2 c3)
    · rw [if_neg c1]
      exact keep M hC hR (fun hs => absurd hs.1 c1)
theorem mo_wrong (hO : OKF np nm wo wi lo ct) (hR : okR M) (hC : MF np nm wo wi lo ct M) : ∃ B M1, f_X11_wrong M = some (nI B, M1) ∧ best np nm wi lo (cms ct nm) B := by
  have h12 := hO.2.1
  have h4 : 2 ^ nm ≤ 2 ^ 12 := Nat.pow_le_pow_right (by omega) h12
  unfold f_X11_wrong
  rw [s_all hC hO, bd_s]
  refine mo_wr_L hO (2 ^ nm) 0 FU (cms ct nm) M (by omega) (by unfold FU; omega) hC hR ⟨Nat.and_self _, ?_⟩ (Or.inl rfl) (fun F hF => by omega)
  rw [Nat.and_self, Nat.xor_self]
  exact hasO_0 hO.1 (fun p => abv_0 wi lo nm p)
end WRM
