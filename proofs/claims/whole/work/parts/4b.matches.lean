/-! matches from a row -/
section MATCHES
variable {np nb : Nat} {wo : Nat → Nat} {ty nn : Nat → Nat} {el : Nat → Nat → Int64}
/-- the c-th two of a row from place i on comes -/
def mok (np : Nat) (nn : Nat → Nat) (el : Nat → Nat → Int64) (d : Nat) (i : Int) (c nm : Nat) : Bool :=
  decide (0 ≤ i ∧ i + 2 * c + 1 < nn d) && two np (el d (i.toNat + 2 * c)).toInt32 (el d (i.toNat + 2 * c + 1)).toInt32 && decide (nm < 12)
def mst (np : Nat) (nn : Nat → Nat) (el : Nat → Nat → Int64) (d : Nat) (i : Int) : Nat → Nat → Nat → (Nat → Nat) → (Nat → Nat) → (Nat → Nat) → Nat × Nat × (Nat → Nat) × (Nat → Nat) × (Nat → Nat)
  | 0, c, nm, wi, lo, ct => (c, nm, wi, lo, ct)
  | k + 1, c, nm, wi, lo, ct => if mok np nn el d i c nm = true then mst np nn el d i k (c + 1) (nm + 1) (upN wi nm ((el d (i.toNat + 2 * c)).toInt32.toNatClampNeg)) (upN lo nm ((el d (i.toNat + 2 * c + 1)).toInt32.toNatClampNeg)) (upN ct nm 1) else (c, nm, wi, lo, ct)
theorem l_ad {a b : Int64} (h1 : -9223372036854775808 ≤ a.toInt + b.toInt) (h2 : a.toInt + b.toInt < 9223372036854775808) : (a + b).toInt = a.toInt + b.toInt := by
  rw [Int64.toInt_add]
  exact Int.bmod_eq_of_le (by omega) (by omega)
theorem two_c (c : Nat) (h : c < 1000) : ((2 : Int64) * (nI c).toInt64).toInt = 2 * c := by
  rw [nI_l (by omega)]
  have : (2 : Int64) * lN c = lN (2 * c) := lN_mul 2 c
  rw [this, lN_toInt (by omega)]
  omega
theorem at_c (v : Int32) (c : Nat) (h : c < 1000) : (v.toInt64 + (2 : Int64) * (nI c).toInt64).toInt = v.toInt + 2 * c := by
  have r := i_rng v
  rw [l_ad] <;> rw [two_c c h, w_toInt] <;> omega
theorem at_32 {x : Int64} {a : Nat} (h : x.toInt = a) (ha : a < 1000) : x.toInt32 = nI a := by
  have : x = lN a := by rw [← Int64.toInt_inj, h, lN_toInt (by omega)]
  rw [this, lN_i]
theorem upF {nm : Nat} {wi lo ct : Nat → Nat} (hO : OKF np nm wo wi lo ct) (hm : nm < 12) {a b : Nat} (ha : a < np) (hb : b < np) (hab : a ≠ b) : OKF np (nm + 1) wo (upN wi nm a) (upN lo nm b) (upN ct nm 1) := by
  refine ⟨hO.1, by omega, hO.2.2.1, fun m h => ?_⟩
  unfold upN
  by_cases e : m = nm
  · simp [e, ha, hb, hab]
  · simp only [e, if_false]; exact hO.2.2.2 m (by omega)
theorem addCF {nm : Nat} {wi lo ct : Nat → Nat} {M : Mem} (hF : CF np nm wo wi lo ct M) {a b : Nat} : CF np (nm + 1) wo (upN wi nm a) (upN lo nm b) (upN ct nm 1) (wI (wI (wI (wI M 3 nm (nI a)) 4 nm (nI b)) 5 nm 1) 1 1 (nI (nm + 1))) := by
  obtain ⟨h1, h2, h3, h4⟩ := hF
  refine ⟨by simp [wI_rd, h1], by simp [wI_rd], fun p hp => by simp [wI_rd, h3 p hp], fun m hm => ?_⟩
  by_cases e : m = nm
  · subst e; simp [wI_rd, upN]; rfl
  · simp [wI_rd, upN, e, h4 m (by omega)]
theorem addMF {nm : Nat} {wi lo ct : Nat → Nat} {M : Mem} (hF : MF np nm wo wi lo ct M) (hp8 : np ≤ 8) {a b : Nat} : MF np (nm + 1) wo (upN wi nm a) (upN lo nm b) (upN ct nm 1) (wI (wI (wI (wI M 52 nm (nI a)) 53 nm (nI b)) 48 (8 + nm) 1) 47 7 (nI (nm + 1))) := by
  obtain ⟨h1, h2, h3, h4⟩ := hF
  refine ⟨by simp [wI_rd, h1], by simp [wI_rd], fun p hp => by simp [wI_rd, show ¬ p = 8 + nm by omega, h3 p hp], fun m hm => ?_⟩
  by_cases e : m = nm
  · subst e; simp [wI_rd, upN]; rfl
  · simp [wI_rd, upN, e, h4 m (by omega)]
theorem s_comes {nm : Nat} {wi lo ct : Nat → Nat} {M : Mem} (hF : CF np nm wo wi lo ct M) (hO : OKF np nm wo wi lo ct) (hC : CS ty nn el M) (hS : OKS nb ty nn el) {d : Nat} (hd : d < 6) (h0 : ty d = 0 ∨ ty d = 6) (v : Int32) {c : Nat} (hc : c < 100) (hv : c = 0 ∨ 0 ≤ v.toInt) : (mok np (fun d => if ty d = 0 then nn d else 0) el d v.toInt c nm = false ∧ f_X10_comesFromRow (nI d) (v.toInt64 + (2 : Int64) * (nI c).toInt64) M = some (0, M)) ∨ ∃ a b M1, mok np (fun d => if ty d = 0 then nn d else 0) el d v.toInt c nm = true ∧ nm < 12 ∧ a < np ∧ b < np ∧ a ≠ b ∧ (el d (v.toInt.toNat + 2 * c)).toInt32 = nI a ∧ (el d (v.toInt.toNat + 2 * c + 1)).toInt32 = nI b ∧ f_X10_comesFromRow (nI d) (v.toInt64 + (2 : Int64) * (nI c).toInt64) M = some (1, M1) ∧ CF np (nm + 1) wo (upN wi nm a) (upN lo nm b) (upN ct nm 1) M1 ∧ CS ty nn el M1 := by
  have r := i_rng v
  have hat := at_c v c (by omega)
  have z : (0 : Int64).toInt = 0 := rfl
  have o1 : (1 : Int64).toInt = 1 := rfl
  have hlen := s_lengthOf hC hS hd
  have hn60 := (hS d hd).2.2.1
  generalize hx : v.toInt64 + (2 : Int64) * (nI c).toInt64 = x at hat ⊢
  unfold f_X10_comesFromRow mok
  rw [hlen, bd_s]
  simp only [lc_lt, hat, z]
  by_cases c0 : v.toInt + 2 * (c : Int) < 0
  · left
    rw [if_pos c0, decide_eq_false (by omega)]
    simp
  · rw [if_neg c0]
    have hx1 : (x + 1).toInt = v.toInt + 2 * c + 1 := by rw [l_ad] <;> rw [hat, o1] <;> omega
    have hL : ((if ty d ≤ 4 then nI (nn d) else 0 : Int32)).toInt64.toInt = ((if ty d = 0 then nn d else 0 : Nat) : Int) := by
      rw [w_toInt]
      rcases h0 with h0 | h0
      · rw [h0]; have := hn60 (by omega); simp; exact n_toInt (by omega)
      · rw [h0]; rfl
    rw [hx1, hL]
    by_cases c1 : v.toInt + 2 * (c : Int) + 1 < ((if ty d = 0 then nn d else 0 : Nat) : Int)
    · rw [if_pos c1]
      have t0 : ty d = 0 := by
        rcases h0 with h0 | h0
        · exact h0
        · rw [h0] at c1; simp at c1; omega
      rw [t0] at c1
      simp only [if_true] at c1
      have h60 := hn60 (by omega)
      by_cases cv : 0 ≤ v.toInt
      · obtain ⟨i, hi⟩ : ∃ i : Nat, v.toInt = i := ⟨v.toInt.toNat, by omega⟩
        have a1 : x.toInt32 = nI (i + 2 * c) := at_32 (by rw [hat, hi]; omega) (by omega)
        have a2 : nI (i + 2 * c) + 1 = nI (i + 2 * c + 1) := n_s1 _
        have v1 := (hC d hd).2.2 (by omega) (i + 2 * c) (by omega)
        have v2 := (hC d hd).2.2 (by omega) (i + 2 * c + 1) (by omega)
        rw [hi]
        simp only [Int.toNat_natCast]
        have dd : decide ((0 : Int) ≤ (i : Int) ∧ (i : Int) + 2 * c + 1 < ((if ty d = 0 then nn d else 0 : Nat) : Int)) = true := decide_eq_true (by rw [t0]; simp; omega)
        rw [dd, a1, a2]
        generalize e1 : (el d (i + 2 * c)).toInt32 = A
        generalize e2 : (el d (i + 2 * c + 1)).toInt32 = B
        cases ht : two np A B
        · left
          simp (disch := omega) [f_X9_valueAt, cix, okL_46, ck_T, n_clamp, v1, v2, e1, e2, s_areTwo hF.1 hO.1, ht, ite_bb]
        · obtain ⟨a, b, ha, hb, hab, rfl, rfl⟩ := two_t ht hO.1
          by_cases hm : nm < 12
          · right
            have np0 : ¬ nI nm < 0 := nI_pos (by omega)
            refine ⟨a, b, _, by simp [hm], hm, ha, hb, hab, rfl, rfl, by simp (disch := omega) [f_X9_valueAt, cix, okL_46, ck_T, n_clamp, v1, v2, e1, e2, s_areTwo hF.1 hO.1, ht, ite_bb, s_addMatch hF.2.1 hO.2.1, hm, bI_s, np0], addCF hF, ?_⟩
            exact grp_CS M _ (fun q k hq => ⟨by
              obtain ⟨e, he, e1, -⟩ := hq
              simp at he
              simp only [wI_rd]
              rcases he with rfl | rfl | rfl <;> simp at e1 <;> subst e1 <;> simp, rfl⟩) rfl hC
          · left
            have ng : (-3 : Int32) < 0 := by decide
            simp (disch := omega) [f_X9_valueAt, cix, okL_46, ck_T, n_clamp, v1, v2, e1, e2, s_areTwo hF.1 hO.1, ht, ite_bb, s_addMatch hF.2.1 hO.2.1, hm, bI_s, ng]
      · exfalso; omega
    · left
      rw [if_neg c1, decide_eq_false (by omega)]
      simp
theorem cl_matches_L {d : Nat} (hd : d < 6) (h0 : ty d = 0 ∨ ty d = 6) (hS : OKS nb ty nn el) (v : Int32) {N : Nat} (hN : N ≤ 12) : ∀ (k c f nm : Nat) (wi lo ct : Nat → Nat) (M : Mem), c + k = N → k < f → (c = 0 ∨ 0 ≤ v.toInt) → CF np nm wo wi lo ct M → OKF np nm wo wi lo ct → CS ty nn el M → ∃ r nm2 wi2 lo2 ct2 M1, mst np (fun d => if ty d = 0 then nn d else 0) el d v.toInt k c nm wi lo ct = (r, nm2, wi2, lo2, ct2) ∧ r ≤ N ∧ nm ≤ nm2 ∧ f_X10_matches_L48 f (nI d) v (nI N) (nI c) M = some (nI r, M1) ∧ CF np nm2 wo wi2 lo2 ct2 M1 ∧ OKF np nm2 wo wi2 lo2 ct2 ∧ CS ty nn el M1
  | 0, c, f, nm, wi, lo, ct, M, h1, h2, h3, hF, hO, hC => by
    obtain ⟨f, rfl⟩ : ∃ n2, f = n2 + 1 := ⟨f - 1, by omega⟩
    have : c = N := by omega
    subst this
    exact ⟨c, nm, wi, lo, ct, M, rfl, Nat.le_refl _, Nat.le_refl _, by simp (disch := omega) [f_X10_matches_L48, n_le], hF, hO, hC⟩
  | k + 1, c, f, nm, wi, lo, ct, M, h1, h2, h3, hF, hO, hC => by
    obtain ⟨f, rfl⟩ : ∃ n2, f = n2 + 1 := ⟨f - 1, by omega⟩
    rcases s_comes hF hO hC hS hd h0 v (c := c) (by omega) h3 with ⟨m0, e⟩ | ⟨a, b, M1, m1, hm, ha, hb, hab, ea, eb, e, F1, C1⟩
    · refine ⟨c, nm, wi, lo, ct, M, by simp [mst, m0], by omega, Nat.le_refl _, ?_, hF, hO, hC⟩
      simp (disch := omega) [f_X10_matches_L48, n_le, show ¬ N ≤ c by omega, e, bI_s]
    · have hnn := hO.1
      have hv : 0 ≤ v.toInt := by
        simp only [mok, Bool.and_eq_true, decide_eq_true_eq] at m1
        exact m1.1.1.1
      obtain ⟨r, nm2, wi2, lo2, ct2, M2, x1, x2, x3, x4, x5, x6, x7⟩ := cl_matches_L hd h0 hS v hN k (c + 1) f (nm + 1) _ _ _ M1 (by omega) (by omega) (Or.inr hv) F1 (upF hO hm ha hb hab) C1
      refine ⟨r, nm2, wi2, lo2, ct2, M2, ?_, x2, by omega, ?_, x5, x6, x7⟩
      · rw [← x1, mst, if_pos m1, ea, eb, n_clamp (by omega), n_clamp (by omega)]
      · have ne : ¬ (1 : Int32) = 0 := by decide
        simp (disch := omega) [f_X10_matches_L48, n_le, show ¬ N ≤ c by omega, e, bI_s, n_s1, x4]
theorem l_rt {x : Int64} (h1 : -128 ≤ x.toInt) (h2 : x.toInt < 128) : x.toInt32.toInt64 = x := by
  rw [← Int64.toInt_inj, w_toInt, Int64.toInt_toInt32]
  exact Int.bmod_eq_of_le (by omega) (by omega)
theorem mo_matches_L {d : Nat} (hd : d < 6) (h0 : ty d = 0) (hS : OKS nb ty nn el) {v : Int32} {i : Nat} (hv : v.toInt = i) {N : Nat} (hN : N ≤ 12) : ∀ (k c f nm : Nat) (wi lo ct : Nat → Nat) (M : Mem), c + k = N → k + 1 < f → MF np nm wo wi lo ct M → OKF np nm wo wi lo ct → MS ty nn el M → ∃ r nm2 wi2 lo2 ct2 M1, mst np (fun d => if ty d = 0 then nn d else 0) el d v.toInt k c nm wi lo ct = (r, nm2, wi2, lo2, ct2) ∧ f_X11_matches_L69 f (nI d) v (nI N) (nI c) 1 M = some (nI r, M1) ∧ MF np nm2 wo wi2 lo2 ct2 M1 ∧ MS ty nn el M1
  | 0, c, f, nm, wi, lo, ct, M, h1, h2, hF, hO, hC => by
    obtain ⟨f, rfl⟩ : ∃ n2, f = n2 + 1 := ⟨f - 1, by omega⟩
    have : c = N := by omega
    subst this
    have o1 : ¬ (1 : Int32) = 0 := by decide
    exact ⟨c, nm, wi, lo, ct, M, rfl, by simp (disch := omega) [f_X11_matches_L69, n_le], hF, hC⟩
  | k + 1, c, f, nm, wi, lo, ct, M, h1, h2, hF, hO, hC => by
    obtain ⟨f, rfl⟩ : ∃ n2, f = n2 + 2 := ⟨f - 2, by omega⟩
    obtain ⟨a, b, q73, q74, e3⟩ := ck6 hd
    have h60 := (hS d hd).2.2.1 (by omega)
    obtain ⟨g1, g2, g3⟩ := (hC d hd).2.2 (by omega)
    have r := i_rng v
    have hm12 := hO.2.1
    have ev : v = nI i := by rw [i_eq, hv, n_toInt (by omega)]
    have t2 : ((nI (nn d) - 2) - (2 : Int32) * nI c).toInt = (nn d : Int) - 2 - 2 * c := by
      have w1 : (nI (nn d) - 2).toInt = (nn d : Int) - 2 := pk_sub_toInt (b := 2) (by omega) (by omega)
      have w2 : (2 : Int32) * nI c = nI (2 * c) := pk_mul 2 c
      rw [w2, i_sub] <;> rw [w1, n_toInt (by omega)] <;> omega
    have stop : ∀ x : Int32, f_X11_matches_L69 (f + 1) (nI d) v (nI N) (nI c) 0 M = some (nI c, M) := fun _ => by simp [f_X11_matches_L69]
    have ec : (((60 : Int32) * nI d) + v) + (2 : Int32) * nI c = nI (60 * d + i + 2 * c) := by
      have w2 : (2 : Int32) * nI c = nI (2 * c) := pk_mul 2 c
      rw [ev, w2, cixM, n_ad]
    have e12 : ((12 : Int32) ≤ nI nm) = (12 ≤ nm) := propext (n_le (a := 12) (by omega) (by omega))
    have nN : ¬ nI N ≤ nI c := fun q => by have := (n_le (by omega) (by omega)).mp q; omega
    have dk : mok np (fun d => if ty d = 0 then nn d else 0) el d v.toInt c nm = (decide ((i : Int) + 2 * c + 1 < nn d) && two np (el d (i + 2 * c)).toInt32 (el d (i + 2 * c + 1)).toInt32 && decide (nm < 12)) := by
      unfold mok
      rw [hv]
      simp [h0]
    by_cases c1 : (i : Int) + 2 * c + 1 < nn d
    · have nlt : ¬ ((nI (nn d) - 2) - (2 : Int32) * nI c) < v := by rw [i_lt, t2, hv]; omega
      by_cases c2 : nm < 12
      · have v1 := g3 (i + 2 * c) (by omega)
        have v2 := g3 (i + 2 * c + 1) (by omega)
        have b1 := (hS d hd).2.2.2 h0 (i + 2 * c) (by omega)
        have b2 := (hS d hd).2.2.2 h0 (i + 2 * c + 1) (by omega)
        have w := s_areTwoM hF.1 hO.1 (el d (i + 2 * c)).toInt32 (el d (i + 2 * c + 1)).toInt32
        rw [l_rt b1.1 b1.2, l_rt b2.1 b2.2] at w
        have s1 : nI (60 * d + i + 2 * c) + 1 = nI (60 * d + i + 2 * c + 1) := n_s1 _
        have v1' : M.2.1 75 (60 * d + i + 2 * c) = el d (i + 2 * c) := by rw [show 60 * d + i + 2 * c = 60 * d + (i + 2 * c) by omega]; exact v1
        have v2' : M.2.1 75 (60 * d + i + 2 * c + 1) = el d (i + 2 * c + 1) := by rw [show 60 * d + i + 2 * c + 1 = 60 * d + (i + 2 * c + 1) by omega]; exact v2
        have k1 : okL 75 (nI (60 * d + i + 2 * c)) = true := okL_75 (by omega)
        have k2 : okL 75 (nI (60 * d + i + 2 * c + 1)) = true := okL_75 (by omega)
        have j1 : (nI (60 * d + i + 2 * c)).toNatClampNeg = 60 * d + i + 2 * c := n_clamp (by omega)
        have j2 : (nI (60 * d + i + 2 * c + 1)).toNatClampNeg = 60 * d + i + 2 * c + 1 := n_clamp (by omega)
        cases ht : two np (el d (i + 2 * c)).toInt32 (el d (i + 2 * c + 1)).toInt32
        · refine ⟨c, nm, wi, lo, ct, M, by rw [mst, dk, ht]; simp, ?_, hF, hC⟩
          rw [f_X11_matches_L69]
          simp only [f_X11_matches_b111, f_X11_matches_b158, f_X11_matches_b159, f_X11_matches_b191, nN, q74, ck_T, e3, g2, nlt, hF.2.1, e12, show ¬ 12 ≤ nm by omega, lt_e, ec, s1, k1, k2, j1, j2, v1', v2', w, ht, bd_s, ite_bb, if_false, if_true, Bool.false_eq_true, show ¬ (1 : Int32) = 0 by decide]
          exact stop 0
        · obtain ⟨x, y, hx, hy, hxy, ex, ey⟩ := two_t ht hO.1
          have hp8 := hO.1
          have ht2 : two np (nI x) (nI y) = true := by rw [← ex, ← ey]; exact ht
          have C1 : MS ty nn el (wI (wI (wI (wI M 52 nm (nI x)) 53 nm (nI y)) 48 (8 + nm) 1) 47 7 (nI (nm + 1))) := grp_MS M _ (fun q k hq => ⟨by
              obtain ⟨e, he, e1, -⟩ := hq
              simp at he
              simp only [wI_rd]
              rcases he with rfl | rfl | rfl <;> simp at e1 <;> subst e1 <;> simp, rfl⟩) rfl hC
          obtain ⟨r2, nm2, wi2, lo2, ct2, M2, x1, x4, x5, x7⟩ := mo_matches_L hd h0 hS hv hN k (c + 1) (f + 1) (nm + 1) _ _ _ _ (by omega) (by omega) (addMF hF hO.1 (a := x) (b := y)) (upF hO c2 hx hy hxy) C1
          refine ⟨r2, nm2, wi2, lo2, ct2, M2, ?_, ?_, x5, x7⟩
          · rw [← x1, mst, dk, ht, if_pos (by simp [c1, c2])]
            rw [hv]
            simp only [Int.toNat_natCast, ex, ey, n_clamp (show x < 2147483648 by omega), n_clamp (show y < 2147483648 by omega)]
          · rw [f_X11_matches_L69]
            simp only [f_X11_matches_b111, f_X11_matches_b158, f_X11_matches_b159, f_X11_matches_b191, nN, q74, ck_T, e3, g2, nlt, hF.2.1, e12, show ¬ 12 ≤ nm by omega, lt_e, ec, s1, k1, k2, j1, j2, v1', v2', w, ht, bd_s, ite_bb, if_false, if_true, Bool.false_eq_true, show ¬ (1 : Int32) = 0 by decide, s_adds hF.2.1 c2, ex, ey, ht2, n_s1]
            exact x4
      · refine ⟨c, nm, wi, lo, ct, M, by rw [mst, dk]; simp [c2], ?_, hF, hC⟩
        rw [f_X11_matches_L69]
        simp only [f_X11_matches_b110, f_X11_matches_b111, f_X11_matches_b158, f_X11_matches_b159, f_X11_matches_b191, nN, q74, ck_T, e3, g2, nlt, hF.2.1, e12, show 12 ≤ nm by omega, lt_e, if_false, if_true, show ¬ (1 : Int32) = 0 by decide]
        exact stop 0
    · have lt1 : ((nI (nn d) - 2) - (2 : Int32) * nI c) < v := by rw [i_lt, t2, hv]; omega
      refine ⟨c, nm, wi, lo, ct, M, by rw [mst, dk]; simp [c1], ?_, hF, hC⟩
      rw [f_X11_matches_L69]
      simp only [f_X11_matches_b110, f_X11_matches_b111, f_X11_matches_b158, f_X11_matches_b159, f_X11_matches_b191, nN, q74, ck_T, e3, g2, lt1, lt_e, if_false, if_true, show ¬ (1 : Int32) = 0 by decide]
      exact stop 0
/-- matches: both sides -/
def mtB (ty : Nat → Nat) (v1 v3 : Int32) : Bool := inN 6 v1 && decide (1 ≤ v3.toInt ∧ v3.toInt ≤ 12) && (decide (ty v1.toNatClampNeg = 0) || decide (ty v1.toNatClampNeg = 6))
def mtC (v1 v3 : Int32) : Int32 := if inN 6 v1 = true ∧ 1 ≤ v3.toInt ∧ v3.toInt ≤ 12 then -12 else -1
theorem mt_c {v1 v3 : Int32} (h : mtB ty v1 v3 = true) : ∃ d N, d < 6 ∧ v1 = nI d ∧ 1 ≤ N ∧ N ≤ 12 ∧ v3 = nI N ∧ (ty d = 0 ∨ ty d = 6) := by
  simp only [mtB, Bool.and_eq_true, Bool.or_eq_true, decide_eq_true_eq] at h
  obtain ⟨⟨h1, h2⟩, h3⟩ := h
  obtain ⟨d, hd, hd2, rfl⟩ := inN_t h1
  rw [n_clamp hd2] at h3
  exact ⟨d, v3.toInt.toNat, hd, rfl, by omega, by omega, n_of (by omega), h3⟩
theorem cl_matches_bad {M : Mem} (hC : CS ty nn el M) (hS : OKS nb ty nn el) {v1 v2 v3 : Int32} (h : mtB ty v1 v3 = false) : f_X10_matches v1 v2 v3 M = some (mtC v1 v3, M) := by
  have t1 : (1 : Int32).toInt = 1 := rfl
  have t12 : (12 : Int32).toInt = 12 := rfl
  unfold f_X10_matches mtC
  rw [s_isShelf, bd_s, ite_bb]
  simp only [i_lt, i_le, t1, t12]
  cases h1 : inN 6 v1
  · simp
  · by_cases c1 : v3.toInt < 1
    · simp [c1, show ¬ 1 ≤ v3.toInt by omega]
    · by_cases c2 : v3.toInt ≤ 12
      · obtain ⟨d, hd, hd2, rfl⟩ := inN_t h1
        simp only [mtB, h1, n_clamp hd2, Bool.true_and, Bool.and_eq_false_iff, Bool.or_eq_false_iff, decide_eq_false_iff_not] at h
        have h' : ¬ ty d = 0 ∧ ¬ ty d = 6 := by
          rcases h with h | h
          · exact absurd ⟨by omega, c2⟩ h
          · exact h
        simp [c1, c2, show 1 ≤ v3.toInt by omega, s_isEmpty hC hS hd, s_holdsBytes hC hS hd, ite_bb, h']
      · simp [c1, c2]
theorem mo_matches_bad {M : Mem} (hC : MS ty nn el M) (hS : OKS nb ty nn el) (hb : nb ≤ 50) {v1 v2 v3 : Int32} (h : mtB ty v1 v3 = false) : f_X11_matches v1 v2 v3 M = some (mtC v1 v3, M) := by
  have t1 : (1 : Int64).toInt = 1 := rfl
  have t12 : (12 : Int64).toInt = 12 := rfl
  unfold f_X11_matches mtC
  rw [s_isShelfM, bd_s, ite_bb, s_within, bd_s, ite_bb, w_toInt, t1, t12]
  cases h1 : inN 6 v1
  · simp
  · by_cases c2 : 1 ≤ v3.toInt ∧ v3.toInt ≤ 12
    · obtain ⟨d, hd, hd2, rfl⟩ := inN_t h1
      obtain ⟨a, b, q73, q74, e3⟩ := ck6 hd
      simp only [mtB, h1, n_clamp hd2, Bool.true_and, Bool.and_eq_false_iff, Bool.or_eq_false_iff, decide_eq_false_iff_not] at h
      have h' : ¬ ty d = 0 ∧ ¬ ty d = 6 := by
        rcases h with h | h
        · exact absurd c2 h
        · exact h
      obtain ⟨m6, m5, m4⟩ := hC d hd
      obtain ⟨x1, x2, x3, -⟩ := hS d hd
      obtain ⟨r, e, hr, hr2⟩ : ∃ r, M.1 73 d = nI r ∧ r < 100 ∧ r ≠ 50 := by
        by_cases q5 : ty d = 5
        · exact ⟨nn d, m5 q5, by have := x2 q5; omega, by have := x2 q5; omega⟩
        · exact ⟨50 + ty d, (m4 (by omega)).1, by omega, by omega⟩
      have n0 : ¬ nI r < 0 := nI_pos (by omega)
      have n5 : ¬ nI r = 50 := fun q => hr2 ((n_eq (b := 50) (by omega) (by omega)).mp q)
      simp [c2, q73, ck_T, e3, e, n0, n5]
    · simp [c2]
theorem cl_matches {nm : Nat} {wi lo ct : Nat → Nat} {M : Mem} (hF : CF np nm wo wi lo ct M) (hO : OKF np nm wo wi lo ct) (hC : CS ty nn el M) (hS : OKS nb ty nn el) {d N : Nat} (hd : d < 6) (h0 : ty d = 0 ∨ ty d = 6) (h1 : 1 ≤ N) (hN : N ≤ 12) (v : Int32) : ∃ r nm2 wi2 lo2 ct2 M1, mst np (fun d => if ty d = 0 then nn d else 0) el d v.toInt N 0 nm wi lo ct = (r, nm2, wi2, lo2, ct2) ∧ r ≤ N ∧ nm ≤ nm2 ∧ f_X10_matches (nI d) v (nI N) M = some (nI r, M1) ∧ CF np nm2 wo wi2 lo2 ct2 M1 ∧ OKF np nm2 wo wi2 lo2 ct2 ∧ CS ty nn el M1 := by
  obtain ⟨r, nm2, wi2, lo2, ct2, M2, x1, x2, x3, x4, x5, x6, x7⟩ := cl_matches_L hd h0 hS v hN N 0 FU nm wi lo ct M (by omega) (by show N < 5000; omega) (Or.inl rfl) hF hO hC
  refine ⟨r, nm2, wi2, lo2, ct2, M2, x1, x2, x3, ?_, x5, x6, x7⟩
  have x4' : f_X10_matches_L48 FU (nI d) v (nI N) 0 M = some (nI r, M2) := x4
  have c1 : ¬ nI N < 1 := fun q => by have := (n_lt (b := 1) (by omega) (by omega)).mp q; omega
  have c2 : nI N ≤ 12 := (n_le (b := 12) (by omega) (by omega)).mpr hN
  rcases h0 with h0 | h0
  · simp (disch := omega) [f_X10_matches, f_X10_matches_b45, s_isShelf, inN_n, hd, ite_bb, c1, c2, s_isEmpty hC hS hd, s_holdsBytes hC hS hd, h0, x4']
  · simp (disch := omega) [f_X10_matches, f_X10_matches_b45, s_isShelf, inN_n, hd, ite_bb, c1, c2, s_isEmpty hC hS hd, h0, x4']
theorem mst_out {i : Int} {d : Nat} {nm : Nat} {wi lo ct : Nat → Nat} {nn : Nat → Nat} (h : i < 0 ∨ nn d = 0) : ∀ k, mst np nn el d i k 0 nm wi lo ct = (0, nm, wi, lo, ct)
  | 0 => rfl
  | k + 1 => by
    have : mok np nn el d i 0 nm = false := by
      unfold mok
      rw [decide_eq_false (by omega)]
      rfl
    rw [mst, this]; rfl
theorem mo_matches {nm : Nat} {wi lo ct : Nat → Nat} {M : Mem} (hF : MF np nm wo wi lo ct M) (hO : OKF np nm wo wi lo ct) (hC : MS ty nn el M) (hS : OKS nb ty nn el) {d N : Nat} (hd : d < 6) (h0 : ty d = 0 ∨ ty d = 6) (h1 : 1 ≤ N) (hN : N ≤ 12) (v : Int32) : ∃ r nm2 wi2 lo2 ct2 M1, mst np (fun d => if ty d = 0 then nn d else 0) el d v.toInt N 0 nm wi lo ct = (r, nm2, wi2, lo2, ct2) ∧ f_X11_matches (nI d) v (nI N) M = some (nI r, M1) ∧ MF np nm2 wo wi2 lo2 ct2 M1 ∧ MS ty nn el M1 := by
  obtain ⟨a, b, q73, q74, e3⟩ := ck6 hd
  have t1 : (1 : Int64).toInt = 1 := rfl
  have t12 : (12 : Int64).toInt = 12 := rfl
  have w := s_within (nI N).toInt64 1 12
  rw [w_toInt, t1, t12, n_toInt (by omega), decide_eq_true (by omega)] at w
  have stop : f_X11_matches_L69 FU (nI d) v (nI N) 0 0 M = some (0, M) := by
    rw [show FU = 4999 + 1 from rfl, f_X11_matches_L69]; rfl
  have z : (0 : Int32) = nI 0 := rfl
  rcases h0 with h0 | h0
  · obtain ⟨g1, g2, g3⟩ := (hC d hd).2.2 (by omega)
    have n0 : ¬ nI (50 + ty d) < 0 := nI_pos (by omega)
    have n5 : nI (50 + ty d) = 50 := by rw [h0]; rfl
    by_cases hv : v < 0
    · have hv' : v.toInt < 0 := by rw [i_lt] at hv; exact hv
      refine ⟨0, nm, wi, lo, ct, M, mst_out (Or.inl hv') N, ?_, hF, hC⟩
      simp (disch := omega) [f_X11_matches, f_X11_matches_b44, f_X11_matches_b66, f_X11_matches_b67, s_isShelfM, inN_n, hd, ite_bb, w, q73, ck_T, e3, g1, n5, hv, stop]
      rfl
    · have hv' : 0 ≤ v.toInt := by rw [i_lt] at hv; have : (0 : Int32).toInt = 0 := rfl; omega
      obtain ⟨r, nm2, wi2, lo2, ct2, M2, x1, x4, x5, x7⟩ := mo_matches_L (np := np) (wo := wo) hd h0 hS (v := v) (i := v.toInt.toNat) (by omega) hN N 0 FU nm wi lo ct M (by omega) (by show N + 1 < 5000; omega) hF hO hC
      have x4' : f_X11_matches_L69 FU (nI d) v (nI N) 0 1 M = some (nI r, M2) := x4
      refine ⟨r, nm2, wi2, lo2, ct2, M2, x1, ?_, x5, x7⟩
      simp (disch := omega) [f_X11_matches, f_X11_matches_b44, f_X11_matches_b66, f_X11_matches_b67, s_isShelfM, inN_n, hd, ite_bb, w, q73, ck_T, e3, g1, n5, hv, x4']
  · have m6 := (hC d hd).1 h0
    have n0 : (-1 : Int32) < 0 := by decide
    refine ⟨0, nm, wi, lo, ct, M, mst_out (Or.inr (by simp [h0])) N, ?_, hF, hC⟩
    simp (disch := omega) [f_X11_matches, f_X11_matches_b44, f_X11_matches_b66, f_X11_matches_b67, s_isShelfM, inN_n, hd, ite_bb, w, q73, ck_T, e3, m6, n0, stop]
    rfl
end MATCHES
