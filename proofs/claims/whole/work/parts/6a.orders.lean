/-! orders, sure, places -/
section ORD
variable {np nm : Nat} {wo wi lo ct : Nat → Nat} {n : Nat} {ab : Nat → Nat} {M : Mem}
theorem s_allC (hA : okA n ab) (hT : TL n ab M) : f_X7_all_11 M = some (nI (ext n ab n 0).length) := by
  have h256 := pow_n hA.1
  have hp := Nat.two_pow_pos n
  unfold f_X7_all_11
  rw [hT.1.2.1, ck_t (okI_13 (by omega)), n_clamp (by omega), hT.2 _ (by omega), way_all n ab hA.1]
theorem len_0 (hn : n ≤ 8) (ab : Nat → Nat) : (nI (ext n ab n 0).length = 0) = ((ext n ab n 0).length = 0) := propext (n_eq (b := 0) (by have := ext_big hn ab; omega) (by omega))
def ordA (n : Nat) (E : List (List Nat)) (v : Int32) : Int32 := if v = -1 then nI E.length else if inN n v = true then (match E with
  | [] => -2
  | l :: _ => nI (oL l v.toNatClampNeg)) else -1
theorem gre_len (n : Nat) (ab : Nat → Nat) : ∀ d S, (gre n ab d S).length = d
  | 0, _ => rfl
  | d + 1, S => by rw [gre, List.length_cons, gre_len n ab d]
theorem cl_first_L (hA : okA n ab) (hC : CO n ab M) (hE : ext n ab n 0 ≠ []) {k : Nat} (hk : k < 8) : ∀ (d S j m l0 : Nat), rch n ab S → pop S + d = n → j ≤ k → k < j + d → d < m → f_X7_firstAt_L7 M m (nI k) (nI S) (nI l0) (nI j) = some (nI (oL (gre n ab d S) (k - j))) := by
  have h8 := hA.1
  have h256 := pow_n hA.1
  intro d
  induction d with
  | zero => intro S j m l0 _ _ h1 h2 _; exact absurd h2 (by omega)
  | succ d ih =>
    intro S j m l0 hr hd h1 h2 hm
    obtain ⟨m, rfl⟩ : ∃ m2, m = m2 + 1 := ⟨m - 1, by omega⟩
    have hS := rch_lt h8 hr
    have hm0 := (gre_hd h8 hE (d + 1) S hr hd).2 (by omega)
    obtain ⟨l1, l2, l3⟩ := low_p h8 hm0
    have hlt := msk_8 hA (fl ab S)
    obtain ⟨b1, -, b3⟩ := (lsb_0 _ hlt).resolve_left hm0
    have hr2 := rch_or hr l1 l2
    have hpop := pop_or0 S (by omega) _ b1 (fl_f l2)
    rw [f_X7_firstAt_L7, if_neg (by rw [n_lt (by omega) (by omega)]; omega), s_foll hA hC (by omega), bd_s, bd_s, b3, lt_e, n_or, lt_e, n_s1, gre]
    by_cases q : k = j
    · subst q
      obtain ⟨m, rfl⟩ : ∃ m2, m = m2 + 1 := ⟨m - 1, by omega⟩
      have hp2 := Nat.two_pow_pos (lsb (msk (fl ab S) n))
      have hp8 : 2 ^ lsb (msk (fl ab S) n) ≤ 2 ^ 8 := Nat.pow_le_pow_right (by omega) (by omega)
      obtain ⟨x, hx⟩ : ∃ x, 2 ^ lsb (msk (fl ab S) n) = x + 1 := ⟨2 ^ lsb (msk (fl ab S) n) - 1, by omega⟩
      have e : pop x = lsb (msk (fl ab S) n) := by
        have := pop_full0 (lsb (msk (fl ab S) n)) (by omega)
        rw [hx, Nat.add_sub_cancel] at this
        exact this
      rw [f_X7_firstAt_L7, if_pos ((n_lt (by omega) (by omega)).mpr (by omega)), hx, n_p1, cl_bits (by omega), bd_s, e, Nat.sub_self]
      rfl
    · rw [ih (S ||| 2 ^ lsb (msk (fl ab S) n)) (j + 1) m _ hr2 (by omega) (by omega) (by omega) (by omega)]
      obtain ⟨y, hy⟩ : ∃ y, k - j = y + 1 := ⟨k - j - 1, by omega⟩
      rw [hy, show k - (j + 1) = y by omega]
      rfl
theorem rch_0 : rch n ab 0 := ⟨[], fun p hp => (by cases hp), rfl, rfl⟩
theorem cl_orders (hO : OKF np nm wo wi lo ct) (hC : CF np nm wo wi lo ct M) (v : Int32) : ∃ M1, f_X10_orders v M = some (ordA np (ext np (abv wi lo (cms ct nm) nm) np 0) v, M1) := by
  have h8 := hO.1
  have hA := okA_abv hO (cms ct nm)
  obtain ⟨M2, f2, t2⟩ := cl_tallied hO hC
  unfold f_X10_orders ordA
  rw [f2, bd_s, hC.1, s_allC hA t2, bd_s, bd_s]
  by_cases q : v = -1
  · subst q
    rw [if_neg (by decide), if_pos (by rw [i_lt, n_toInt (by omega)]; have : (-1 : Int32).toInt = -1 := rfl; omega), if_pos rfl, if_pos rfl]
    exact ⟨M2, rfl⟩
  · rw [if_neg q, if_neg q]
    by_cases q2 : inN np v = true
    · obtain ⟨j, hj, hj2, rfl⟩ := inN_t q2
      rw [if_neg (by rw [i_lt, n_toInt (by omega)]; have : (-1 : Int32).toInt = -1 := rfl; omega), if_pos ((n_lt (by omega) (by omega)).mpr hj), if_pos q2, n_clamp hj2]
      simp only [len_0 h8]
      have hr0 : rch np (abv wi lo (cms ct nm) nm) 0 := rch_0
      cases hE : ext np (abv wi lo (cms ct nm) nm) np 0 with
      | nil => rw [if_pos List.length_nil]; exact ⟨M2, rfl⟩
      | cons l r =>
        rw [if_neg (by simp)]
        have hE2 : ext np (abv wi lo (cms ct nm) nm) np 0 ≠ [] := by rw [hE]; simp
        have hf := cl_first_L (k := j) hA t2.1 hE2 (by omega) np 0 0 FU 0 hr0 (by rw [pop_0]; omega) (by omega) (by omega) (by unfold FU; omega)
        have hg := (gre_hd h8 hE2 np 0 hr0 (by rw [pop_0]; omega)).1
        rw [hE] at hg
        have hl : l = gre np (abv wi lo (cms ct nm) nm) np 0 := by simpa using hg
        rw [Nat.sub_zero, ← hl] at hf
        unfold f_X7_firstAt
        rw [show (0 : Int32) = nI 0 from rfl, hf, bd_s]
        exact ⟨M2, rfl⟩
    · rw [if_neg q2]
      by_cases q3 : v < -1
      · rw [if_pos q3]; exact ⟨M, rfl⟩
      · rw [if_neg q3]
        have : ¬ v < nI np := by
          intro h
          apply q2
          rw [i_lt, n_toInt (by omega)] at h
          rw [i_lt] at q3
          rw [i_eq] at q
          have h1 : (-1 : Int32).toInt = -1 := rfl
          simp only [inN, decide_eq_true_eq]
          omega
        rw [if_neg this]; exact ⟨M, rfl⟩
theorem mo_orders (hR : okR M) (hO : OKF np nm wo wi lo ct) (hC : MF np nm wo wi lo ct M) (h32 : M.1 47 32 = 0) (v : Int32) : ∃ M1, f_X11_orders v M = some (ordA np (ext np (abv wi lo (cms ct nm) nm) np 0) v, M1) := by
  have h8 := hO.1
  obtain ⟨M4, f4, c4⟩ := mo_goes (w := false) (kn := 0) (ak := 0) (g := false) hR hO hC (cms_lt hO) (fun h => by rcases h with h | h <;> cases h) (fun h => by cases h) (fun h => by cases h) (by omega) h32
  have f4' : f_X11_goesThrough (nI (cms ct nm)) (-1) 0 M = some M4 := f4
  obtain ⟨g1, g2, g3, g4, g5, g6, -⟩ := c4.1
  unfold f_X11_orders f_X11_orders_b15 ordA
  rw [s_all hC hO, bd_s, f4', bd_s, g5, s_isPlayer hC.1 h8, bd_s, ite_bb]
  by_cases q : v = -1
  · rw [if_pos q, if_pos q, if_pos q]
    exact ⟨M4, rfl⟩
  · rw [if_neg q, if_neg q, if_neg q]
    by_cases q2 : inN np v = true
    · obtain ⟨j, hj, hj2, rfl⟩ := inN_t q2
      rw [if_pos q2, if_pos q2, n_clamp hj2, ck_t (okI_59 (by omega))]
      simp only [len_0 h8]
      cases hE : ext np (abv wi lo (cms ct nm) nm) np 0 with
      | nil => rw [if_pos List.length_nil]; exact ⟨M4, rfl⟩
      | cons l r =>
        rw [if_neg (by simp), g6 l r hE j hj]
        exact ⟨M4, rfl⟩
    · rw [if_neg q2, if_neg q2]; exact ⟨M, rfl⟩
/-! sure -/
def surA (E : List (List Nat)) (a b : Nat) : Int32 := if E.length = 0 then 0 else if btL E a b = E.length then 1 else if btL E a b = 0 then 2 else 0
def sureA (n : Nat) (E : List (List Nat)) (v : Int32) : Int32 := if pair n v = true then surA E (v / 10).toNatClampNeg (ab_rem v 10).toNatClampNeg else -1
theorem cl_better_L (hA : okA n ab) (hT : TL n ab M) {a b : Nat} (ha : a < n) (hb : b < n) : ∀ (r s m : Nat), s + r = 2 ^ n → r < m → (∀ S, S < s → 0 < way n ab S → S.testBit b = true → S.testBit a = true) → ∃ x : Bool, f_X7_isBetter_L2 M m (nI a) (nI b) (nI s) = some (bb x) ∧ (x = true ↔ isBet n ab a b)
  | 0, s, m, h, hm, hP => by
    have h256 := pow_n hA.1
    have hp := Nat.two_pow_pos n
    obtain ⟨m, rfl⟩ : ∃ m2, m = m2 + 1 := ⟨m - 1, by omega⟩
    rw [f_X7_isBetter_L2, hT.1.2.1, if_pos ((n_lt (by omega) (by omega)).mpr (by omega))]
    exact ⟨true, rfl, fun _ S hS => hP S (by omega), fun _ => rfl⟩
  | r + 1, s, m, h, hm, hP => by
    have h8 := hA.1
    have h256 := pow_n hA.1
    have hp := Nat.two_pow_pos n
    obtain ⟨m, rfl⟩ : ∃ m2, m = m2 + 1 := ⟨m - 1, by omega⟩
    have hw := way_le n ab h8 (show s < 2 ^ n by omega)
    have e0 : (nI (way n ab s) ≤ 0) = (way n ab s ≤ 0) := propext (n_le (b := 0) (by omega) (by omega))
    rw [f_X7_isBetter_L2, hT.1.2.1, if_neg (by rw [n_lt (by omega) (by omega)]; omega), ck_t (okI_13 (by omega)), n_clamp (by omega), hT.2 s (by omega), n_b1 (by omega) (by omega), n_b1 (by omega) (by omega)]
    simp only [e0, bb_0, bb_1]
    unfold f_X7_isBetter_b38
    rw [n_s1]
    have next : (0 < way n ab s → s.testBit b = true → s.testBit a = true) → ∃ x : Bool, f_X7_isBetter_L2 M m (nI a) (nI b) (nI (s + 1)) = some (bb x) ∧ (x = true ↔ isBet n ab a b) := fun hs => cl_better_L hA hT ha hb r (s + 1) m (by omega) (by omega) (fun S hS => by
      by_cases e : S = s
      · subst e; exact hs
      · exact hP S (by omega))
    by_cases q1 : way n ab s ≤ 0
    · rw [if_pos q1]; exact next (fun h => by omega)
    · rw [if_neg q1]
      by_cases q2 : s.testBit b = true
      · rw [if_pos q2]
        by_cases q3 : s.testBit a = false
        · rw [if_pos q3]
          refine ⟨false, rfl, fun h => (by cases h), fun h => ?_⟩
          have := h s (by omega) (by omega) q2
          rw [q3] at this
          cases this
        · rw [if_neg q3]; exact next (fun _ _ => by simpa using q3)
      · rw [if_neg q2]; exact next (fun _ h => absurd h q2)
theorem cl_better (hA : okA n ab) (hT : TL n ab M) {a b : Nat} (ha : a < n) (hb : b < n) : ∃ x : Bool, f_X7_isBetter (nI a) (nI b) M = some (bb x) ∧ (x = true ↔ isBet n ab a b) := by
  have h256 := pow_n hA.1
  exact cl_better_L hA hT ha hb (2 ^ n) 0 FU (by omega) (by unfold FU; omega) (fun S hS => by omega)
theorem cl_sure (hO : OKF np nm wo wi lo ct) (hC : CF np nm wo wi lo ct M) (v : Int32) : ∃ M1, f_X10_sure v M = some (sureA np (ext np (abv wi lo (cms ct nm) nm) np 0) v, M1) := by
  have h8 := hO.1
  have hA := okA_abv hO (cms ct nm)
  obtain ⟨M2, f2, t2⟩ := cl_tallied hO hC
  unfold f_X10_sure sureA
  rw [s_isPair hC.1 h8, bd_s, ite_bb]
  by_cases q : pair np v = true
  · obtain ⟨a, b, ha, hb, hab, e1, e2⟩ := pair_t q h8
    rw [if_pos q, if_pos q, f2, bd_s, s_allC hA t2, bd_s, e1, e2, n_clamp (by omega), n_clamp (by omega)]
    simp only [len_0 h8]
    unfold surA
    by_cases q0 : (ext np (abv wi lo (cms ct nm) nm) np 0).length = 0
    · rw [if_pos q0, if_pos q0]; exact ⟨M2, rfl⟩
    · have hE : ext np (abv wi lo (cms ct nm) nm) np 0 ≠ [] := fun e => q0 (by rw [e]; rfl)
      obtain ⟨x, fx, hx⟩ := cl_better hA t2 ha hb
      obtain ⟨y, fy, hy⟩ := cl_better hA t2 hb ha
      rw [isBet_iff h8 hE ha hb hab] at hx
      rw [isBet_iff0 h8 hE ha hb hab] at hy
      rw [if_neg q0, if_neg q0, fx, bd_s, ite_bb, fy, bd_s, ite_bb]
      by_cases c1 : x = true
      · rw [if_pos c1, if_pos (hx.mp c1)]; exact ⟨M2, rfl⟩
      · rw [if_neg c1, if_neg (fun h => c1 (hx.mpr h))]
        by_cases c2 : y = true
        · rw [if_pos c2, if_pos (hy.mp c2)]; exact ⟨M2, rfl⟩
        · rw [if_neg c2, if_neg (fun h => c2 (hy.mpr h))]; exact ⟨M2, rfl⟩
  · rw [if_neg q, if_neg q]; exact ⟨M, rfl⟩
theorem btL_le (E : List (List Nat)) (a b : Nat) : btL E a b ≤ E.length := List.countP_le_length
theorem mo_sure (hR : okR M) (hO : OKF np nm wo wi lo ct) (hC : MF np nm wo wi lo ct M) (h32 : M.1 47 32 = 0) (v : Int32) : ∃ M1, f_X11_sure v M = some (sureA np (ext np (abv wi lo (cms ct nm) nm) np 0) v, M1) := by
  have h8 := hO.1
  obtain ⟨M4, f4, c4⟩ := mo_goes (w := false) (kn := 0) (ak := 0) (g := false) hR hO hC (cms_lt hO) (fun h => by rcases h with h | h <;> cases h) (fun h => by cases h) (fun h => by cases h) (by omega) h32
  have f4' : f_X11_goesThrough (nI (cms ct nm)) (-1) 0 M = some M4 := f4
  obtain ⟨g1, g2, g3, g4, g5, g6, g7, g8, -⟩ := c4.1
  unfold f_X11_sure sureA
  by_cases q0 : v < 0
  · rw [if_pos q0, if_neg (by simp [pair, q0])]; exact ⟨M, rfl⟩
  · have ep : pair np v = two np (v / 10) (ab_rem v 10) := by simp [pair, q0]
    rw [if_neg q0, s_areTwoM hC.1 hO.1, bd_s, ite_bb, ← ep]
    by_cases q : pair np v = true
    · obtain ⟨a, b, ha, hb, hab, e1, e2⟩ := pair_t q h8
      have ei : (8 : Int32) * nI a + nI b = nI (8 * a + b) := by rw [show (8 : Int32) = nI 8 from rfl, n_mul, n_add]
      have hbig := ext_big h8 (abv wi lo (cms ct nm) nm)
      have hble := btL_le (ext np (abv wi lo (cms ct nm) nm) np 0) a b
      rw [if_pos q, if_pos q, s_all hC hO, bd_s, f4', bd_s, e1, e2, n_clamp (by omega), n_clamp (by omega), ei, ck_t (okI_61 (by omega)), lt_e, n_clamp (by omega), g8 a b ha hb, g5]
      have e0 : (nI (btL (ext np (abv wi lo (cms ct nm) nm) np 0) a b) = 0) = (btL (ext np (abv wi lo (cms ct nm) nm) np 0) a b = 0) := propext (n_eq (b := 0) (by omega) (by omega))
      simp only [len_0 h8, e0, n_eq (show btL (ext np (abv wi lo (cms ct nm) nm) np 0) a b < 2147483648 by omega) (show (ext np (abv wi lo (cms ct nm) nm) np 0).length < 2147483648 by omega)]
      unfold surA
      by_cases c0 : (ext np (abv wi lo (cms ct nm) nm) np 0).length = 0
      · rw [if_pos c0, if_pos c0]; exact ⟨M4, rfl⟩
      · rw [if_neg c0, if_neg c0]
        by_cases c1 : btL (ext np (abv wi lo (cms ct nm) nm) np 0) a b = (ext np (abv wi lo (cms ct nm) nm) np 0).length
        · rw [if_pos c1, if_pos c1]; exact ⟨M4, rfl⟩
        · rw [if_neg c1, if_neg c1]
          by_cases c2 : btL (ext np (abv wi lo (cms ct nm) nm) np 0) a b = 0
          · rw [if_pos c2, if_pos c2]; exact ⟨M4, rfl⟩
          · rw [if_neg c2, if_neg c2]; exact ⟨M4, rfl⟩
    · rw [if_neg q, if_neg q]; exact ⟨M, rfl⟩
end ORD
