/-! the search: worst, mean and next of the class -/
def fs1 (Q : Nat → Bool) : Nat → Nat → Option Nat
  | 0, _ => none
  | r + 1, b => if Q b = true then some b else fs1 Q r (b + 1)
def fs2 (n : Nat) (P : Nat → Nat → Bool) : Nat → Nat → Option (Nat × Nat)
  | 0, _ => none
  | r + 1, a => match fs1 (P a) (n - (a + 1)) (a + 1) with
    | some b => some (a, b)
    | none => fs2 n P r (a + 1)
def kpP (n kn ak K a b : Nat) : Bool := unk K a b && decide (1 + cmb 0 (CK n kn ak 0 (wth K a b)) (CK n kn ak 0 (wth K b a)) = CK n kn ak 0 K)
theorem fs1_lt {Q : Nat → Bool} : ∀ (r b x : Nat), fs1 Q r b = some x → b ≤ x ∧ x < b + r
  | 0, _, _, h => by cases h
  | r + 1, b, x, h => by
    rw [fs1] at h
    by_cases q : Q b = true
    · rw [if_pos q] at h; cases h; omega
    · rw [if_neg q] at h
      have := fs1_lt r (b + 1) x h; omega
section SCL
variable {n kn ak : Nat} {M : Mem}
theorem cl_fk_i (hQ : okQ n kn ak) (h6 : kn = 6 → ak < n) (h0 : (kn = 0 ∨ kn = 1 ∨ kn = 3 ∨ kn = 4) → ak = 0) {K a : Nat} (h : OKK n K) {k22 : Int32 → Int32 → Mem → Option (Int32 × Mem)} (ha : a < n) : ∀ (r b m : Nat) (M : Mem), b + r = n → r < m → a < b → SM n kn ak M → okR M → M.1 14 6 = nI K → ∃ M1, f_X8_firstKeeping_L34 k22 m (nI (CK n kn ak 0 K)) (nI a) (nI b) M = (match fs1 (kpP n kn ak K a) r b with | some x => some (nI (10 * a + x), M1) | none => k22 (nI (CK n kn ak 0 K)) (nI (a + 1)) M1) ∧ SM n kn ak M1 ∧ okR M1 ∧ M1.1 14 6 = nI K
  | 0, b, m, M, hb, hf, hab, hS, hR, hK => by
    have h4 := h.1
    obtain ⟨m, rfl⟩ : ∃ m2, m = m2 + 1 := ⟨m - 1, by omega⟩
    rw [f_X8_firstKeeping_L34, hS.1, if_pos ((n_le (by omega) (by omega)).mpr (by omega)), n_s1, fs1]
    exact ⟨M, rfl, hS, hR, hK⟩
  | r + 1, b, m, M, hb, hf, hab, hS, hR, hK => by
    have h4 := h.1
    obtain ⟨m, rfl⟩ : ∃ m2, m = m2 + 1 := ⟨m - 1, by omega⟩
    have hle := CK_le (kn := kn) (ak := ak) (md := 0) h
    rw [f_X8_firstKeeping_L34, hS.1, if_neg (by rw [n_le (by omega) (by omega)]; omega), hK, cl_unk h.2.1 (by omega) (by omega), bd_s, ite_bb, fs1]
    unfold f_X8_firstKeeping_b79
    rw [n_s1]
    by_cases q : unk K a b = true
    · obtain ⟨M4, f4, s4, r4⟩ := cl_restBy (md := 0) (z := 0) (by omega) h ha (show b < n by omega) (by omega) q (rc := f_X8_cost FD) (fun K2 M2 hK2 hp2 s2 r2 => cl_cost (md := 0) (by omega) hQ h6 h0 FD K2 1 M2 hK2 (by unfold FD; omega) (by omega) s2 r2) hS hR
      have f4' : f_X8_restBy (f_X8_cost FD) (nI K) (nI a) (nI b) 0 0 M = _ := f4
      have hc := cmb_le (kn := kn) (ak := ak) (md := 0) h ha (show b < n by omega) (by omega) q
      have fr := fr_X8_restBy (rc := f_X8_cost FD) (fun v1 v2 v3 M => fr_X8_cost FD v1 v2 v3 M) (nI K) (nI a) (nI b) 0 0 M _ f4'
      have k4 : M4.1 14 6 = nI K := by
        have : Grp [(14, 7)] (fun M => M.1 14 6 = nI K) := fun M M2 h _ h1 => ((h 14 6 (in_f (by decide))).1).trans h1
        exact this.kp hR fr (by decide) hK
      have e1 : ((1 : Int32) + nI (cmb 0 (CK n kn ak 0 (wth K a b)) (CK n kn ak 0 (wth K b a))) = nI (CK n kn ak 0 K)) = (1 + cmb 0 (CK n kn ak 0 (wth K a b)) (CK n kn ak 0 (wth K b a)) = CK n kn ak 0 K) := by
        rw [show (1 : Int32) = nI 1 from rfl, n_add]
        exact propext (n_eq (by omega) (by omega))
      rw [if_pos q, f4', bI_s]
      simp only [e1]
      by_cases c : 1 + cmb 0 (CK n kn ak 0 (wth K a b)) (CK n kn ak 0 (wth K b a)) = CK n kn ak 0 K
      · have hp : kpP n kn ak K a b = true := by unfold kpP; rw [q, decide_eq_true c]; rfl
        rw [if_pos c, if_pos hp, show (10 : Int32) = nI 10 from rfl, n_mul, n_add]
        exact ⟨M4, rfl, s4, r4, k4⟩
      · have hp : ¬ kpP n kn ak K a b = true := by unfold kpP; rw [q, decide_eq_false c]; decide
        rw [if_neg c, if_neg hp]
        exact cl_fk_i hQ h6 h0 h (k22 := k22) ha r (b + 1) m M4 (by omega) (by omega) (by omega) s4 r4 k4
    · have hp : ¬ kpP n kn ak K a b = true := by unfold kpP; rw [show unk K a b = false by simpa using q]; simp
      rw [if_neg q, if_neg hp]
      exact cl_fk_i hQ h6 h0 h (k22 := k22) ha r (b + 1) m M (by omega) (by omega) (by omega) hS hR hK
theorem cl_fk_o (hQ : okQ n kn ak) (h6 : kn = 6 → ak < n) (h0 : (kn = 0 ∨ kn = 1 ∨ kn = 3 ∨ kn = 4) → ak = 0) {K : Nat} (h : OKK n K) : ∀ (r a m : Nat) (M : Mem), a + r = n → r < m → SM n kn ak M → okR M → M.1 14 6 = nI K → ∃ M1, f_X8_firstKeeping_L22 m (nI (CK n kn ak 0 K)) (nI a) M = some ((match fs2 n (kpP n kn ak K) r a with | some x => nI (10 * x.1 + x.2) | none => -1), M1) ∧ SM n kn ak M1 ∧ okR M1
  | 0, a, m, M, hb, hf, hS, hR, hK => by
    have h4 := h.1
    obtain ⟨m, rfl⟩ : ∃ m2, m = m2 + 1 := ⟨m - 1, by omega⟩
    rw [f_X8_firstKeeping_L22, hS.1, if_pos ((n_le (by omega) (by omega)).mpr (by omega)), fs2]
    exact ⟨M, rfl, hS, hR⟩
  | r + 1, a, m, M, hb, hf, hS, hR, hK => by
    have h4 := h.1
    obtain ⟨m, rfl⟩ : ∃ m2, m = m2 + 1 := ⟨m - 1, by omega⟩
    rw [f_X8_firstKeeping_L22, hS.1, if_neg (by rw [n_le (by omega) (by omega)]; omega), n_s1, lt_e, fs2]
    obtain ⟨M1, f1, s1, r1, k1⟩ := cl_fk_i hQ h6 h0 h (k22 := fun a0 a1 a2 => f_X8_firstKeeping_L22 m a0 a1 a2) (show a < n by omega) (n - (a + 1)) (a + 1) FU M (by omega) (by unfold FU; omega) (by omega) hS hR hK
    rw [f1]
    cases e : fs1 (kpP n kn ak K a) (n - (a + 1)) (a + 1) with
    | some x => exact ⟨M1, rfl, s1, r1⟩
    | none => exact cl_fk_o hQ h6 h0 h r (a + 1) m M1 (by omega) (by omega) s1 r1 k1
/-- the first pair that keeps the worst, or none -/
def nxP (n : Nat) (ab : Nat → Nat) (kn ak : Nat) : Option (Nat × Nat) := if 1 < ansN n ab kn ak then fs2 n (kpP n kn ak (K0 n ab)) n 0 else none
theorem cl_fk {ab : Nat → Nat} (hA : okA n ab) (hn : n ≤ 4) (hQ : okQ n kn ak) (h6 : kn = 6 → ak < n) (h0 : (kn = 0 ∨ kn = 1 ∨ kn = 3 ∨ kn = 4) → ak = 0) (hB : BG n ab kn ak (decide (1 < ansN n ab kn ak)) M) (hW : 1 < ansN n ab kn ak → M.1 14 6 = nI (K0 n ab)) : ∃ M1, f_X8_firstKeeping M = some ((match nxP n ab kn ak with | some x => nI (10 * x.1 + x.2) | none => -1), M1) ∧ SM n kn ak M1 ∧ okR M1 := by
  unfold f_X8_firstKeeping nxP
  rw [hB.2.2.2, ite_bb]
  by_cases c : 1 < ansN n ab kn ak
  · have hE := ans_ne c
    have hK := OKK_K0 hA hn hE
    obtain ⟨M2, f2, s2, r2⟩ := cl_cost (md := 0) (by omega) hQ h6 h0 FD (K0 n ab) 0 M hK (by unfold FD; omega) (by omega) hB.1 hB.2.2.1
    have f2' : f_X8_cost FD (nI (K0 n ab)) 0 0 M = _ := f2
    have fr := fr_X8_cost FD _ _ _ M _ f2'
    have k2 : M2.1 14 6 = nI (K0 n ab) := by
      have : Grp [(14, 7)] (fun M => M.1 14 6 = nI (K0 n ab)) := fun M M2 h _ h1 => ((h 14 6 (in_f (by decide))).1).trans h1
      exact this.kp hB.2.2.1 fr (by decide) (hW c)
    rw [if_pos (decide_eq_true c), if_pos c, hW c, f2', bI_s]
    exact cl_fk_o hQ h6 h0 hK n 0 FU M2 (by omega) (by unfold FU; omega) s2 r2 k2
  · rw [if_neg (by simpa using c), if_neg c]
    exact ⟨M, rfl, hB.1, hB.2.2.1⟩
end SCL
