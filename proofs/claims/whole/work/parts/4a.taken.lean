/-! taken, matches from a row, count -/
def par (a : Nat) : Nat := [0, 0, 0, 2, 1, 3, 0, 4].getD a 0
def und (a b : Nat) : Bool := decide (a = b) || (decide (a ≠ 0) && (decide (par a = b) || (decide (par a ≠ 0) && (decide (par (par a) = b) || (decide (par (par a) ≠ 0) && decide (par (par (par a)) = b))))))
def ab_Mz : Mem := (fun _ _ => 0, fun _ _ => 0, fun _ _ => 0)
theorem under_M (M N : Mem) : ∀ (n : Nat) (a b c : Int32), f_X1_isUnder_L4 M n a b c = f_X1_isUnder_L4 N n a b c
  | 0, _, _, _ => rfl
  | n + 1, a, b, c => by
    rw [f_X1_isUnder_L4, f_X1_isUnder_L4]
    simp only [under_M M N n]
theorem under_k : ∀ a, a < 8 → ∀ b, b < 8 → f_X1_isUnder (nI a) (nI b) ab_Mz = some (bb (und a b)) := by decide +kernel
theorem under_n : ∀ b, b < 8 → f_X1_isUnder (-1) (nI b) ab_Mz = some 0 := by decide +kernel
theorem s_isUnder (M : Mem) {a b : Nat} (ha : a < 8) (hb : b < 8) : f_X1_isUnder (nI a) (nI b) M = some (bb (und a b)) := by
  rw [← under_k a ha b hb]; exact under_M _ _ _ _ _ _
theorem s_isUnder0 (M : Mem) {b : Nat} (hb : b < 8) : f_X1_isUnder (-1) (nI b) M = some 0 := by
  rw [← under_n b hb]; exact under_M _ _ _ _ _ _
section TAKEN
variable {nb : Nat} {kd : Nat → Nat} {ty nn : Nat → Nat} {el : Nat → Nat → Int64} {M : Mem}
theorem above_k : ∀ a, a < 8 → f_X11_above (nI a) = some (nI (par a)) := by decide +kernel
theorem tk_step {a b n : Nat} (ha : a < 8) (hb : b < 8) (v1 : Int32) : f_X11_taken_L58 M (n + 1) v1 (nI b) (nI a) = if a = b then f_X11_taken_b75 M v1 (nI b) (nI a) else if a = 0 then f_X11_taken_b75 M v1 (nI b) (nI a) else f_X11_taken_L58 M n v1 (nI b) (nI (par a)) := by
  have e0 : (nI a ≤ 0) = (a = 0) := propext ((n_le (b := 0) (by omega) (by omega)).trans (by omega))
  rw [f_X11_taken_L58]
  simp (disch := omega) only [n_eq, e0, above_k a ha, bd_s]
theorem par_lt : ∀ a, a < 8 → par a < 8 ∧ (par (par (par a)) = 0) := by decide
theorem tk_L {a b n : Nat} (ha : a < 8) (hb : b < 8) (hn : 8 ≤ n) (v1 : Int32) : f_X11_taken_L58 M n v1 (nI b) (nI a) = if und a b = true then f_X11_taken_b75 M v1 (nI b) (nI b) else some (-12) := by
  obtain ⟨n, rfl⟩ : ∃ m, n = m + 4 := ⟨n - 4, by omega⟩
  have h1 := (par_lt a ha).1
  have h2 := (par_lt _ h1).1
  have h3 := (par_lt a ha).2
  have b0 : ∀ x, x < 8 → ¬ x = b → f_X11_taken_b75 M v1 (nI b) (nI x) = some (-12) := by
    intro x hx h
    simp (disch := omega) [f_X11_taken_b75, n_eq, h]
  rw [tk_step ha hb]
  by_cases c1 : a = b
  · subst c1; simp [und]
  · rw [if_neg c1]
    by_cases z1 : a = 0
    · rw [if_pos z1, b0 a ha c1]; simp [und, z1]; omega
    · rw [if_neg z1, tk_step h1 hb]
      by_cases c2 : par a = b
      · rw [if_pos c2]; simp [und, c1, z1, c2]
      · rw [if_neg c2]
        by_cases z2 : par a = 0
        · rw [if_pos z2, b0 _ h1 c2]; simp [und, c1, z1, z2]; omega
        · rw [if_neg z2, tk_step h2 hb]
          by_cases c3 : par (par a) = b
          · rw [if_pos c3]; simp [und, c1, z1, c2, z2, c3]
          · rw [if_neg c3]
            by_cases z3 : par (par a) = 0
            · rw [if_pos z3, b0 _ h2 c3]; simp [und, c1, z1, c2, z2, z3]; omega
            · rw [if_neg z3, h3, tk_step (show 0 < 8 by omega) hb]
              by_cases c4 : 0 = b
              · rw [if_pos c4]; simp [und, c1, z1, c2, z2, c3, z3, h3, c4]
              · rw [if_neg c4, if_pos rfl, b0 0 (by omega) c4]; simp [und, c1, z1, c2, z2, c3, z3, h3, c4]
def takV (kd ty nn : Nat → Nat) (v1 v2 : Int32) : Int32 := if inN 6 v1 = true ∧ inN 8 v2 = true then (if ty v1.toNatClampNeg = 6 then -11 else if ty v1.toNatClampNeg = 5 ∧ und (kd (nn v1.toNatClampNeg)) v2.toNatClampNeg = true then nI (kd (nn v1.toNatClampNeg)) else -12) else -1
theorem cl_taken (hB : CB nb kd M) (hBo : OKBo nb kd) (hC : CS ty nn el M) (hO : OKS nb ty nn el) (v1 v2 : Int32) : f_X10_taken v1 v2 M = some (takV kd ty nn v1 v2) := by
  unfold f_X10_taken takV
  rw [s_isShelf, bd_s, ite_bb, s_isKind, bd_s, ite_bb]
  cases h1 : inN 6 v1
  · simp
  · cases h2 : inN 8 v2
    · simp
    · obtain ⟨d, hd, hd2, rfl⟩ := inN_t h1
      obtain ⟨k, hk, hk2, rfl⟩ := inN_t h2
      obtain ⟨a, b, c, e2, e3⟩ := ck6 hd
      obtain ⟨x1, x2, x3, -⟩ := hO d hd
      have hb50 := hBo.1
      rw [s_isEmpty hC hO hd, bd_s, ite_bb, n_clamp hd2, n_clamp hk2]
      by_cases q6 : ty d = 6
      · simp [q6]
      · have e5 : (nI (ty d) = 5) = (ty d = 5) := propext (n_eq (b := 5) (by omega) (by omega))
        by_cases q5 : ty d = 5
        · have hn := x2 q5
          have hk7 := hBo.2 _ hn
          have hh := s_has hB hBo (nI (nn d))
          rw [inN_n (by omega), decide_eq_true hn] at hh
          simp (disch := omega) [q5, f_X9_bodyOn, a, b, ck_T, e3, (hC d hd).1, show nI 5 = 5 from rfl, (hC d hd).2.1 (by omega), f_X1_kindOf, hh, ite_bb, okI_42, n_clamp, hB.2 _ hn, s_isUnder M (show kd (nn d) < 8 by omega) hk]
          cases und (kd (nn d)) k <;> simp
        · have hh : f_X1_has (-1) M = some 0 := by
            rw [s_has hB hBo, inN_f0 (by decide)]; rfl
          simp [q6, q5, f_X9_bodyOn, a, ck_T, e3, (hC d hd).1, e5, f_X1_kindOf, hh, s_isUnder0 M hk]
theorem mo_taken (hB : MB nb kd M) (hBo : OKBo nb kd) (hC : MS ty nn el M) (hO : OKS nb ty nn el) (v1 v2 : Int32) : f_X11_taken v1 v2 M = some (takV kd ty nn v1 v2) := by
  unfold f_X11_taken takV
  rw [s_isShelfM, bd_s, ite_bb, s_within_n 7 7 rfl, bd_s, ite_bb]
  cases h1 : inN 6 v1
  · simp
  · cases h2 : inN 8 v2
    · simp
    · obtain ⟨d, hd, hd2, rfl⟩ := inN_t h1
      obtain ⟨k, hk, hk2, rfl⟩ := inN_t h2
      obtain ⟨a, b, c, e2, e3⟩ := ck6 hd
      obtain ⟨x1, x2, x3, -⟩ := hO d hd
      obtain ⟨m6, m5, m4⟩ := hC d hd
      have hb50 := hBo.1
      rw [e3, n_clamp hk2]
      by_cases q6 : ty d = 6
      · have n1 : ¬ (0 : Int32) ≤ -1 := by decide
        simp [q6, c, ck_T, m6 q6, n1]
      · by_cases q5 : ty d = 5
        · have hn := x2 q5
          have hk7 := hBo.2 _ hn
          have z : (0 : Int32) ≤ nI (nn d) := nI_pos' (by omega)
          have e50 : (nI (nn d) < 50) = (nn d < 50) := propext (n_lt (b := 50) (by omega) (by omega))
          have L := tk_L (M := M) (a := kd (nn d)) (n := FU) (by omega) hk (by show 8 ≤ 5000; omega) (nI d)
          simp (disch := omega) [q5, c, ck_T, m5 q5, z, e50, show nn d < 50 by omega, f_X11_kindOf, okI_71, n_clamp, hB.2 _ hn, L, f_X11_taken_b75, e3]
          cases und (kd (nn d)) k <;> simp
        · have q4 : ty d ≤ 4 := by omega
          have z : (0 : Int32) ≤ nI (50 + ty d) := nI_pos' (by omega)
          have e50 : (nI (50 + ty d) < 50) = (50 + ty d < 50) := propext (n_lt (b := 50) (by omega) (by omega))
          simp [q6, q5, c, ck_T, (m4 q4).1, z, e50]
          intro h; omega
end TAKEN
