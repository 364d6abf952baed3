/-! the second tally, in the search's own board -/
def CO5 (n : Nat) (ab : Nat → Nat) (M : Mem) : Prop := M.1 15 0 = nI n ∧ M.1 15 2 = nI (2 ^ n - 1) ∧ ∀ p, p < 8 → M.1 16 p = nI (ab p)
section TAL5
variable {n : Nat} {ab : Nat → Nat} {M : Mem}
theorem s_foll_L5 (hA : okA n ab) (hC : CO5 n ab M) {S : Nat} (hS : S < 256) : ∀ (k p m : Nat), p + k = n → k < m → f_X7_followers_15_L4 M m (nI S) (nI (msk (fl ab S) p)) (nI p) = some (nI (msk (fl ab S) n))
  | 0, p, m, h, hm => by
    have h8 := hA.1
    obtain ⟨m, rfl⟩ : ∃ m2, m = m2 + 1 := ⟨m - 1, by omega⟩
    have : p = n := by omega
    subst this
    rw [f_X7_followers_15_L4, hC.1, if_pos (by rw [i_le]; omega)]
  | k + 1, p, m, h, hm => by
    have h8 := hA.1
    obtain ⟨m, rfl⟩ : ∃ m2, m = m2 + 1 := ⟨m - 1, by omega⟩
    have ha := hA.2 p
    have ih := s_foll_L5 hA hC hS k (p + 1) m (by omega) (by omega)
    rw [msk] at ih
    rw [f_X7_followers_15_L4, hC.1, if_neg (by rw [n_le (by omega) (by omega)]; omega), n_b1 (by omega) (by omega), ck_t (okI_16 (by omega)), n_clamp (by omega), hC.2.2 p (by omega), n_shl1 p (by omega), n_or, lt_e]
    simp only [bb_0, n_sub0 (show ab p < 2147483648 by omega)]
    unfold f_X7_followers_15_b39
    rw [n_s1]
    by_cases q1 : S.testBit p = false
    · rw [if_pos q1]
      by_cases q2 : ab p &&& S = ab p
      · have : fl ab S p = true := by simp [fl, q1, q2]
        rw [if_pos this] at ih
        rw [if_pos q2]
        exact ih
      · have : ¬ fl ab S p = true := by simp [fl, q2]
        rw [if_neg this, Nat.or_zero] at ih
        rw [if_neg q2]
        exact ih
    · have : ¬ fl ab S p = true := by simp [fl, q1]
      rw [if_neg this, Nat.or_zero] at ih
      rw [if_neg q1]
      exact ih
theorem s_foll5 (hA : okA n ab) (hC : CO5 n ab M) {S : Nat} (hS : S < 256) : f_X7_followers_15 (nI S) M = some (nI (msk (fl ab S) n)) := by
  have := hA.1
  exact s_foll_L5 hA hC hS n 0 FU (by omega) (by unfold FU; omega)
theorem cl_tal_i5 {k24 : Int32 → Mem → Option Mem} (hA : okA n ab) {s : Nat} (hs : s < 2 ^ n) : ∀ (r p m : Nat) (M : Mem), p + r = n → r < m → CO5 n ab M → (∀ T, T < 2 ^ n → M.1 17 T = nI (pt n ab s p T)) → ∃ M1, f_X7_tally_15_L53 k24 m (nI s) (nI (msk (fl ab s) n)) (nI p) M = k24 (nI (s + 1)) M1 ∧ CO5 n ab M1 ∧ ∀ T, T < 2 ^ n → M1.1 17 T = nI (pt n ab (s + 1) 0 T)
  | 0, p, m, M, h, hm, hC, hT => by
    have h8 := hA.1
    obtain ⟨m, rfl⟩ : ∃ m2, m = m2 + 1 := ⟨m - 1, by omega⟩
    have : p = n := by omega
    subst this
    rw [f_X7_tally_15_L53, hC.1, if_pos (by rw [i_le]; omega)]
    unfold f_X7_tally_15_b99
    rw [n_s1]
    exact ⟨M, rfl, hC, fun T h => by rw [← pt_next]; exact hT T h⟩
  | r + 1, p, m, M, h, hm, hC, hT => by
    have h8 := hA.1
    have h256 := pow_n hA.1
    obtain ⟨m, rfl⟩ : ∃ m2, m = m2 + 1 := ⟨m - 1, by omega⟩
    have hm8 := msk_8 hA (fl ab s)
    have e0 : (nI (msk (fl ab s) n) = 0) = (msk (fl ab s) n = 0) := propext (n_eq (b := 0) (by omega) (by omega))
    rw [f_X7_tally_15_L53, hC.1, if_neg (by rw [n_le (by omega) (by omega)]; omega), n_b1 (by omega) (by omega), tb_msk, decide_eq_true (show p < n by omega), Bool.true_and]
    simp only [e0, bb_1]
    unfold f_X7_tally_15_b99 f_X7_tally_15_b93
    rw [n_s1, n_s1]
    by_cases q0 : msk (fl ab s) n = 0
    · rw [if_pos q0]
      refine ⟨M, rfl, hC, fun T h2 => ?_⟩
      rw [hT T h2, pt_skip n ab (fun q hq => Or.inl ?_) T (r + 1) p h]
      have := tb_msk (fl ab s) n q
      rw [q0, Nat.zero_testBit, decide_eq_true hq, Bool.true_and] at this
      exact this.symm
    · rw [if_neg q0]
      by_cases q1 : fl ab s p = true
      · have hlt : s ||| 2 ^ p < 2 ^ n := or_lt hs (by omega)
        rw [if_pos q1, n_shl1 p (by omega), n_or, ck_t (okI_17 (by omega)), ck_t (okI_17 (by omega)), ck_t (okI_17 (by omega)), lt_e, n_clamp (by omega), n_clamp (by omega), hT _ hlt, hT s hs, n_add]
        refine cl_tal_i5 hA hs r (p + 1) m _ (by omega) (by omega) ⟨by simp [wI_rd, hC.1], by simp [wI_rd, hC.2.1], fun q hq => by simp [wI_rd, hC.2.2 q hq]⟩ (fun T h2 => ?_)
        rw [pt_step n ab (by omega), pt_fin n ab hA.1 hs (Nat.le_refl _), q1, Bool.true_and, wI_rd]
        by_cases e : T = s ||| 2 ^ p
        · rw [if_pos ⟨rfl, e⟩, ← e, decide_eq_true rfl, if_pos rfl]
        · rw [if_neg (fun h => e h.2), decide_eq_false (fun h => e h.symm), if_neg (by decide), Nat.add_zero, hT T h2]
      · rw [if_neg q1]
        refine cl_tal_i5 hA hs r (p + 1) m M (by omega) (by omega) hC (fun T h2 => ?_)
        rw [pt_step n ab (by omega), Bool.eq_false_iff.mpr q1, Bool.false_and, if_neg (by decide), Nat.add_zero, hT T h2]
def TL5 (n : Nat) (ab : Nat → Nat) (M : Mem) : Prop := CO5 n ab M ∧ ∀ S, S < 2 ^ n → M.1 17 S = nI (way n ab S)
theorem cl_tal_o5 (hA : okA n ab) : ∀ (r s m : Nat) (M : Mem), s + r = 2 ^ n - 1 → r < m → CO5 n ab M → (∀ T, T < 2 ^ n → M.1 17 T = nI (pt n ab s 0 T)) → ∃ M1, f_X7_tally_15_L24 m (nI s) M = some M1 ∧ TL5 n ab M1
  | 0, s, m, M, h, hm, hC, hT => by
    have h256 := pow_n hA.1
    have hp := Nat.two_pow_pos n
    obtain ⟨m, rfl⟩ : ∃ m2, m = m2 + 1 := ⟨m - 1, by omega⟩
    rw [f_X7_tally_15_L24, hC.2.1, if_pos ((n_le (by omega) (by omega)).mpr (by omega))]
    exact ⟨M, rfl, hC, fun T h2 => by rw [hT T h2, pt_fin n ab hA.1 h2 (by omega)]⟩
  | r + 1, s, m, M, h, hm, hC, hT => by
    have h8 := hA.1
    have h256 := pow_n hA.1
    have hp := Nat.two_pow_pos n
    obtain ⟨m, rfl⟩ : ∃ m2, m = m2 + 1 := ⟨m - 1, by omega⟩
    have hs : s < 2 ^ n := by omega
    have hw := way_le n ab hA.1 hs
    rw [f_X7_tally_15_L24, hC.2.1, if_neg (by rw [n_le (by omega) (by omega)]; omega), ck_t (okI_17 (by omega)), n_clamp (by omega), hT s hs, pt_fin n ab hA.1 hs (Nat.le_refl _), s_foll5 hA hC (by omega), bd_s]
    unfold f_X7_tally_15_b50
    have e0 : (nI (way n ab s) ≤ 0) = (way n ab s ≤ 0) := propext (n_le (b := 0) (by omega) (by omega))
    simp only [e0]
    by_cases q : way n ab s ≤ 0
    · rw [if_pos q]
      have hk : f_X7_tally_15_L53 (fun a0 a1 => f_X7_tally_15_L24 m a0 a1) FU (nI s) 0 0 M = f_X7_tally_15_L24 m (nI (s + 1)) M := by
        show f_X7_tally_15_L53 (fun a0 a1 => f_X7_tally_15_L24 m a0 a1) (4999 + 1) (nI s) 0 0 M = _
        rw [f_X7_tally_15_L53, if_pos (show (0 : Int32) = 0 from rfl), ite_self]
        unfold f_X7_tally_15_b99
        rw [n_s1]
      rw [hk]
      exact cl_tal_o5 hA r (s + 1) m M (by omega) (by omega) hC (fun T h2 => by rw [hT T h2, pt_skip n ab (fun q _ => Or.inr (by omega)) T n 0 (by omega)])
    · rw [if_neg q]
      obtain ⟨M1, f1, c1, t1⟩ := cl_tal_i5 (k24 := fun a0 a1 => f_X7_tally_15_L24 m a0 a1) hA hs n 0 FU M (by omega) (by unfold FU; omega) hC hT
      have f1' : f_X7_tally_15_L53 (fun a0 a1 => f_X7_tally_15_L24 m a0 a1) FU (nI s) (nI (msk (fl ab s) n)) 0 M = _ := f1
      rw [f1']
      exact cl_tal_o5 hA r (s + 1) m M1 (by omega) (by omega) c1 t1
theorem cl_tally5 (hA : okA n ab) (hC : CO5 n ab M) : ∃ M1, f_X7_tally_15 M = some M1 ∧ TL5 n ab M1 := by
  have h256 := pow_n hA.1
  have hp := Nat.two_pow_pos n
  unfold f_X7_tally_15
  have e1 : nI (2 ^ n - 1) + 1 = nI (2 ^ n) := by rw [n_s1, Nat.sub_add_cancel (by omega)]
  have hf := s_fillI (M := M) (c := 17) (lo := 0) (hi := 2 ^ n) (v := 0) rfl (show 2 ^ n ≤ 256 from h256) (by decide) (by omega)
  have hf' : f_J7_fill_fda19 17 0 (nI (2 ^ n)) 0 M = _ := hf
  rw [hC.2.1, e1, hf', bd_s, ck_t (by decide), lt_e]
  refine cl_tal_o5 hA (2 ^ n - 1) 0 FU _ (by omega) (by unfold FU; omega) ⟨by simp [wI_rd, fiI_rd, hC.1], by simp [wI_rd, fiI_rd, hC.2.1], fun q hq => by simp [wI_rd, fiI_rd, hC.2.2 q hq]⟩ (fun T h2 => ?_)
  rw [wI_rd, fiI_rd, pt_0, show (0 : Int32).toNatClampNeg = 0 from rfl]
  by_cases q : T = 0
  · rw [if_pos ⟨rfl, q⟩, if_pos q]; rfl
  · rw [if_neg (fun h => q h.2), if_pos ⟨rfl, by omega, h2⟩, if_neg q]; rfl
theorem s_allC5 (hA : okA n ab) (hT : TL5 n ab M) : f_X7_all_15 M = some (nI (ext n ab n 0).length) := by
  have h256 := pow_n hA.1
  have hp := Nat.two_pow_pos n
  unfold f_X7_all_15
  rw [hT.1.2.1, ck_t (okI_17 (by omega)), n_clamp (by omega), hT.2 _ (by omega), way_all n ab hA.1]
theorem cl_who05 (hA : okA n ab) (hT : TL5 n ab M) {k : Nat} (hk : k < 100) : ∀ (r s m : Nat), s + r = 2 ^ n - 1 → r < m → f_X7_whoCanHave_15_L4 M m (nI k) (nI (whS n ab k s)) (nI s) = some (nI (whS n ab k (2 ^ n - 1)))
  | 0, s, m, h, hm => by
    have h256 := pow_n hA.1
    have hp0 := Nat.two_pow_pos n
    obtain ⟨m, rfl⟩ : ∃ m2, m = m2 + 1 := ⟨m - 1, by omega⟩
    rw [f_X7_whoCanHave_15_L4, hT.1.2.1, if_pos ((n_le (by omega) (by omega)).mpr (by omega)), show s = 2 ^ n - 1 by omega]
  | r + 1, s, m, h, hm => by
    have h8 := hA.1
    have h256 := pow_n hA.1
    have hp0 := Nat.two_pow_pos n
    obtain ⟨m, rfl⟩ : ∃ m2, m = m2 + 1 := ⟨m - 1, by omega⟩
    have hw := way_le n ab h8 (show s < 2 ^ n by omega)
    have hps := pop_lt8 s (by omega)
    have e0 : (nI (way n ab s) ≤ 0) = (way n ab s ≤ 0) := propext (n_le (b := 0) (by omega) (by omega))
    have ih := cl_who05 hA hT hk r (s + 1) m (by omega) (by omega)
    rw [whS] at ih
    rw [f_X7_whoCanHave_15_L4, hT.1.2.1, if_neg (by rw [n_le (by omega) (by omega)]; omega), ck_t (okI_17 (by omega)), n_clamp (by omega), hT.2 s (by omega), cl_bits (by omega), bd_s, s_foll5 hA hT.1 (by omega), bd_s, n_or, lt_e]
    simp only [e0, n_eq (show pop s < 2147483648 by omega) (show k < 2147483648 by omega)]
    unfold f_X7_whoCanHave_15_b37
    rw [n_s1]
    by_cases q1 : way n ab s ≤ 0
    · rw [if_neg (fun h => by omega), Nat.or_zero] at ih
      rw [if_pos q1]; exact ih
    · rw [if_neg q1]
      by_cases q2 : pop s = k
      · rw [if_pos ⟨by omega, q2⟩] at ih
        rw [if_pos q2]; exact ih
      · rw [if_neg (fun h => q2 h.2), Nat.or_zero] at ih
        rw [if_neg q2]; exact ih
theorem cl_who5 (hA : okA n ab) (hT : TL5 n ab M) (hE : ext n ab n 0 ≠ []) {k : Nat} (hk : k < n) : f_X7_whoCanHave_15 (nI k) M = some (nI (msk (atP (ext n ab n 0) k) n)) := by
  have h256 := pow_n hA.1
  have h8 := hA.1
  rw [← whS_eq hA.1 hE hk]
  exact cl_who05 hA hT (by omega) (2 ^ n - 1) 0 FU (by omega) (by unfold FU; omega)
theorem cl_sets_L5 (hA : okA n ab) (hT : TL5 n ab M) {k : Nat} (hk : k < 100) : ∀ (r s m acc : Nat), s + r = 2 ^ n → r < m → f_X7_setsOfFirst_15_L4 M m (nI k) (nI acc) (nI s) = some (nI (acc + su (fun S => if 0 < way n ab S ∧ pop S = k then 1 else 0) r s))
  | 0, s, m, acc, h, hm => by
    have h256 := pow_n hA.1
    have hp0 := Nat.two_pow_pos n
    obtain ⟨m, rfl⟩ : ∃ m2, m = m2 + 1 := ⟨m - 1, by omega⟩
    rw [f_X7_setsOfFirst_15_L4, hT.1.2.1, if_pos ((n_lt (by omega) (by omega)).mpr (by omega))]
    rfl
  | r + 1, s, m, acc, h, hm => by
    have h8 := hA.1
    have h256 := pow_n hA.1
    have hp0 := Nat.two_pow_pos n
    obtain ⟨m, rfl⟩ : ∃ m2, m = m2 + 1 := ⟨m - 1, by omega⟩
    have hw := way_le n ab h8 (show s < 2 ^ n by omega)
    have hps := pop_lt8 s (by omega)
    have e0 : (nI (way n ab s) ≤ 0) = (way n ab s ≤ 0) := propext (n_le (b := 0) (by omega) (by omega))
    rw [f_X7_setsOfFirst_15_L4, hT.1.2.1, if_neg (by rw [n_lt (by omega) (by omega)]; omega), ck_t (okI_17 (by omega)), n_clamp (by omega), hT.2 s (by omega), cl_bits (by omega), bd_s, su]
    simp only [e0, n_eq (show pop s < 2147483648 by omega) (show k < 2147483648 by omega)]
    unfold f_X7_setsOfFirst_15_b32
    rw [n_s1, n_s1]
    by_cases q : 0 < way n ab s ∧ pop s = k
    · rw [if_neg (by omega), if_pos q.2, if_pos q]
      exact (cl_sets_L5 hA hT hk r (s + 1) m (acc + 1) (by omega) (by omega)).trans (by rw [Nat.add_assoc])
    · have hres : (if way n ab s ≤ 0 then (fun a0 a1 a2 => f_X7_setsOfFirst_15_L4 M m a0 a1 a2) (nI k) (nI acc) (nI (s + 1)) else if pop s = k then (fun a0 a1 a2 => f_X7_setsOfFirst_15_L4 M m a0 a1 a2) (nI k) (nI (acc + 1)) (nI (s + 1)) else (fun a0 a1 a2 => f_X7_setsOfFirst_15_L4 M m a0 a1 a2) (nI k) (nI acc) (nI (s + 1))) = f_X7_setsOfFirst_15_L4 M m (nI k) (nI acc) (nI (s + 1)) := by
        by_cases q1 : way n ab s ≤ 0
        · rw [if_pos q1]
        · rw [if_neg q1, if_neg (fun h => q ⟨by omega, h⟩)]
      rw [hres, if_neg q, Nat.zero_add]
      exact cl_sets_L5 hA hT hk r (s + 1) m acc (by omega) (by omega)
theorem cl_sets5 (hA : okA n ab) (hT : TL5 n ab M) (hE : ext n ab n 0 ≠ []) {k : Nat} (hk : k ≤ n) : f_X7_setsOfFirst_15 (nI k) M = some (nI (nCd n 5 k (ext n ab n 0))) := by
  have h8 := hA.1
  have h256 := pow_n hA.1
  have h1 := cl_sets_L5 hA hT (k := k) (by omega) (2 ^ n) 0 FU 0 (by omega) (by unfold FU; omega)
  have e : nCd n 5 k (ext n ab n 0) = su (fun S => if 0 < way n ab S ∧ pop S = k then 1 else 0) (2 ^ n) 0 := by
    unfold nCd
    have hs := su_split (fun c => (sn n 5 k (ext n ab n 0) c).toNat) (2 ^ n) (256 - 2 ^ n) 0
    rw [show 2 ^ n + (256 - 2 ^ n) = 256 by omega] at hs
    rw [hs, su_0 (256 - 2 ^ n) (0 + 2 ^ n) (fun c hc _ => by
      show (sn n 5 k (ext n ab n 0) c).toNat = 0
      cases hq : sn n 5 k (ext n ab n 0) c
      · rfl
      · have := rch_lt h8 ((sn_5 h8 hE hk c).mp hq).1; omega), Nat.add_zero]
    refine su_congr (2 ^ n) 0 (fun S _ _ => ?_)
    have hi := sn_5 h8 hE hk S
    rw [← way_pos n ab h8 S] at hi
    by_cases q : 0 < way n ab S ∧ pop S = k
    · rw [if_pos q, hi.mpr q]; rfl
    · rw [if_neg q, Bool.eq_false_iff.mpr (fun h => q (hi.mp h))]; rfl
  rw [Nat.zero_add, ← e] at h1
  exact h1
theorem cl_last5 (hA : okA n ab) (hT : TL5 n ab M) (hE : ext n ab n 0 ≠ []) (h1 : 1 ≤ n) {k : Nat} (hk : k < n) : f_X7_lastOrNot_15 (nI k) M = some (nI (nCd n 6 k (ext n ab n 0))) := by
  have h8 := hA.1
  have h256 := pow_n hA.1
  have hm := msk_lt (atP (ext n ab n 0) (n - 1)) n
  have e6 : ∀ o, codeF n 6 k o = if o (n - 1) = k then 1 else 0 := fun o => rfl
  have s1 : sn n 6 k (ext n ab n 0) 1 = atP (ext n ab n 0) (n - 1) k := by
    unfold sn atP
    congr 1
    funext o
    rw [e6]
    by_cases q : oL o (n - 1) = k <;> simp [q]
  have s0 : sn n 6 k (ext n ab n 0) 0 = true ↔ ∃ p, p < n ∧ p ≠ k ∧ atP (ext n ab n 0) (n - 1) p = true := by
    unfold sn
    rw [List.any_eq_true]
    simp only [decide_eq_true_eq, e6]
    constructor
    · rintro ⟨o, ho, h⟩
      have hne : oL o (n - 1) ≠ k := fun q => by rw [if_pos q] at h; cases h
      exact ⟨oL o (n - 1), ((permL (ext_ok h8 ho)).1 (n - 1) (by omega)).1, hne, (atP_iff _ _ _).mpr ⟨o, ho, rfl⟩⟩
    · rintro ⟨p, hp, hne, h⟩
      obtain ⟨o, ho, e⟩ := (atP_iff _ _ _).mp h
      exact ⟨o, ho, by rw [if_neg (by rw [e]; exact hne)]⟩
  have hN : nCd n 6 k (ext n ab n 0) = (sn n 6 k (ext n ab n 0) 0).toNat + (sn n 6 k (ext n ab n 0) 1).toNat := by
    unfold nCd
    have hs := su_split (fun c => (sn n 6 k (ext n ab n 0) c).toNat) 2 254 0
    rw [hs, su_0 254 (0 + 2) (fun c hc _ => by
      show (sn n 6 k (ext n ab n 0) c).toNat = 0
      have : sn n 6 k (ext n ab n 0) c = false := by
        unfold sn
        rw [List.any_eq_false]
        intro o _
        rw [e6]
        simp only [decide_eq_true_eq]
        split <;> omega
      rw [this]; rfl), Nat.add_zero]
    simp [su]
  unfold f_X7_lastOrNot_15 f_X7_lastOrNot_15_b33
  rw [hT.1.1, n_pm h1, cl_who5 hA hT hE (by omega), bd_s, lt_e, n_shl1 k (by omega), n_b1 (by omega) (by omega), tb_msk, decide_eq_true hk, Bool.true_and]
  simp only [n_sub0 (show msk (atP (ext n ab n 0) (n - 1)) n < 2147483648 by omega)]
  rw [hN, s1]
  have hz : (msk (atP (ext n ab n 0) (n - 1)) n &&& 2 ^ k = msk (atP (ext n ab n 0) (n - 1)) n) ↔ sn n 6 k (ext n ab n 0) 0 = false := by
    rw [land_sub, ← Bool.not_eq_true, s0]
    constructor
    · rintro h ⟨p, hp, hne, h2⟩
      have := h p (by rw [tb_msk, decide_eq_true hp, h2]; rfl)
      rw [Nat.testBit_two_pow, decide_eq_true_eq] at this
      exact hne this.symm
    · intro h p hp
      rw [tb_msk, Bool.and_eq_true, decide_eq_true_eq] at hp
      rw [Nat.testBit_two_pow, decide_eq_true_eq]
      by_cases q : k = p
      · exact q
      · exact absurd ⟨p, hp.1, fun e => q e.symm, hp.2⟩ h
  by_cases q : msk (atP (ext n ab n 0) (n - 1)) n &&& 2 ^ k = msk (atP (ext n ab n 0) (n - 1)) n
  · rw [if_pos q, hz.mp q]
    cases atP (ext n ab n 0) (n - 1) k <;> rfl
  · rw [if_neg q]
    have : sn n 6 k (ext n ab n 0) 0 = true := by
      by_cases c : sn n 6 k (ext n ab n 0) 0 = true
      · exact c
      · exact absurd (hz.mpr (by simpa using c)) q
    rw [this]
    cases atP (ext n ab n 0) (n - 1) k <;> rfl
theorem cl_sec_L5 (hA : okA n ab) (hC : CO5 n ab M) : ∀ (r p m acc : Nat), p + r = n → r < m → f_X7_bestAndSecond_15_L20 M m (nI (msk (fl ab 0) n)) (nI acc) (nI p) = some (nI (acc + su (fun p => if fl ab 0 p = true then pop (msk (fl ab (2 ^ p)) n) else 0) r p))
  | 0, p, m, acc, h, hm => by
    have h8 := hA.1
    obtain ⟨m, rfl⟩ : ∃ m2, m = m2 + 1 := ⟨m - 1, by omega⟩
    rw [f_X7_bestAndSecond_15_L20, hC.1, if_pos ((n_le (by omega) (by omega)).mpr (by omega))]
    rfl
  | r + 1, p, m, acc, h, hm => by
    have h8 := hA.1
    obtain ⟨m, rfl⟩ : ∃ m2, m = m2 + 1 := ⟨m - 1, by omega⟩
    have hm8 := msk_8 hA (fl ab 0)
    have hm9 := msk_8 hA (fl ab (2 ^ p))
    have hp8 : 2 ^ p < 2 ^ 8 := Nat.pow_lt_pow_right (by omega) (by omega)
    rw [f_X7_bestAndSecond_15_L20, hC.1, if_neg (by rw [n_le (by omega) (by omega)]; omega), n_b1 (by omega) (by omega), tb_msk, decide_eq_true (show p < n by omega), Bool.true_and, n_shl1 p (by omega), s_foll5 hA hC (by omega), bd_s, cl_bits (by omega), bd_s, n_add, lt_e, su]
    simp only [bb_1]
    unfold f_X7_bestAndSecond_15_b50
    rw [n_s1]
    by_cases q : fl ab 0 p = true
    · rw [if_pos q, if_pos q]
      exact (cl_sec_L5 hA hC r (p + 1) m (acc + pop (msk (fl ab (2 ^ p)) n)) (by omega) (by omega)).trans (by rw [Nat.add_assoc])
    · rw [if_neg q, if_neg q, Nat.zero_add]
      exact cl_sec_L5 hA hC r (p + 1) m acc (by omega) (by omega)
theorem cl_sec5 (hA : okA n ab) (hC : CO5 n ab M) (hE : ext n ab n 0 ≠ []) (h1 : 1 ≤ n) : f_X7_bestAndSecond_15 M = some (nI (nCd n 1 0 (ext n ab n 0))) := by
  have h8 := hA.1
  have e1 : (nI n = 1) = (n = 1) := propext (n_eq (b := 1) (by omega) (by omega))
  unfold f_X7_bestAndSecond_15
  rw [hC.1]
  simp only [e1]
  by_cases q1 : n = 1
  · rw [if_pos q1]
    have hs : ∀ c, c < 256 → sn n 1 0 (ext n ab n 0) c = (decide (c < n) && (fun c => decide (c = 0)) c) := fun c _ => by
      rw [Bool.eq_iff_iff]
      unfold sn
      rw [List.any_eq_true]
      have e : ∀ o, codeF n 1 0 o = o 0 := fun o => by unfold codeF; rw [if_neg (by decide), if_pos rfl, if_pos (by omega)]
      simp only [decide_eq_true_eq, e, Bool.and_eq_true]
      constructor
      · rintro ⟨o, ho, rfl⟩
        have := ((permL (ext_ok h8 ho)).1 0 (by omega)).1
        omega
      · rintro ⟨-, rfl⟩
        obtain ⟨o, ho⟩ := List.exists_mem_of_ne_nil _ hE
        have := ((permL (ext_ok h8 ho)).1 0 (by omega)).1
        exact ⟨o, ho, by omega⟩
    rw [nCd_msk h8 _ hs, q1]
    rfl
  · rw [if_neg q1, show (0 : Int32) = nI 0 from rfl, s_foll5 hA hC (by omega), bd_s]
    have hf := cl_sec_L5 hA hC n 0 FU 0 (by omega) (by unfold FU; omega)
    rw [Nat.zero_add] at hf
    have hN := nCd_pairs h8 (kn := 1) (ak := 0) (E := ext n ab n 0) (fun p q => decide (p < n) && decide (q < n) && fl ab 0 p && fl ab (2 ^ p) q) (fun p q h => by simp only [Bool.and_eq_true, decide_eq_true_eq] at h; exact ⟨h.1.1.1, h.1.1.2⟩) (fun p q hq => by
      rw [Bool.eq_iff_iff]
      have hs := sec_iff h8 hE (by omega) p q
      simp only [Bool.and_eq_true, decide_eq_true_eq]
      unfold sn
      rw [List.any_eq_true]
      have e : ∀ o, codeF n 1 0 o = 10 * o 0 + o 1 := fun o => by unfold codeF; rw [if_neg (by decide), if_pos rfl, if_neg (by omega)]
      simp only [decide_eq_true_eq, e]
      constructor
      · rintro ⟨o, ho, h⟩
        have hp := permL (ext_ok h8 ho)
        have l1 := (hp.1 1 (by omega)).1
        obtain ⟨a, b, c, d⟩ := hs.mp ⟨o, ho, by omega, by omega⟩
        exact ⟨⟨⟨a, b⟩, c⟩, d⟩
      · rintro ⟨⟨⟨a, b⟩, c⟩, d⟩
        obtain ⟨o, ho, h1, h2⟩ := hs.mpr ⟨a, b, c, d⟩
        exact ⟨o, ho, by omega⟩)
    have hv : su (fun p => if fl ab 0 p = true then pop (msk (fl ab (2 ^ p)) n) else 0) n 0 = su (fun p => su (fun q => (decide (p < n) && decide (q < n) && fl ab 0 p && fl ab (2 ^ p) q).toNat) n 0) n 0 := su_congr n 0 (fun p _ hp => by
      by_cases c : fl ab 0 p = true
      · rw [if_pos c, pop_mskn h8]
        exact su_congr n 0 (fun q _ hq => by simp [c, show p < n by omega, show q < n by omega])
      · rw [if_neg c]
        exact (su_0 n 0 (fun q _ _ => by simp [c])).symm)
    rw [hf, hv, hN]
theorem cl_las5 (hA : okA n ab) (hT : TL5 n ab M) (hE : ext n ab n 0 ≠ []) (h1 : 1 ≤ n) : f_X7_bestAndLast_15 M = some (nI (nCd n 3 0 (ext n ab n 0))) := by
  have h8 := hA.1
  have e1 : (nI n = 1) = (n = 1) := propext (n_eq (b := 1) (by omega) (by omega))
  have e3 : ∀ o, codeF n 3 0 o = 10 * o 0 + o (n - 1) := fun o => rfl
  unfold f_X7_bestAndLast_15
  rw [hT.1.1]
  simp only [e1]
  by_cases q1 : n = 1
  · rw [if_pos q1]
    have hs : ∀ c, c < 256 → sn n 3 0 (ext n ab n 0) c = (decide (c < n) && (fun c => decide (c = 0)) c) := fun c _ => by
      rw [Bool.eq_iff_iff]
      unfold sn
      rw [List.any_eq_true]
      simp only [decide_eq_true_eq, e3, Bool.and_eq_true]
      have key : ∀ o ∈ ext n ab n 0, 10 * oL o 0 + oL o (n - 1) = 0 := fun o ho => by
        have a1 := ((permL (ext_ok h8 ho)).1 0 (by omega)).1
        have a2 := ((permL (ext_ok h8 ho)).1 (n - 1) (by omega)).1
        omega
      constructor
      · rintro ⟨o, ho, rfl⟩
        have := key o ho
        omega
      · rintro ⟨-, rfl⟩
        obtain ⟨o, ho⟩ := List.exists_mem_of_ne_nil _ hE
        exact ⟨o, ho, key o ho⟩
    rw [nCd_msk h8 _ hs, q1]
    rfl
  · have hm1 := msk_8 hA (fl ab 0)
    have hm2 := msk_8 hA (atP (ext n ab n 0) (n - 1))
    have hm3 : msk (fl ab 0) n &&& msk (atP (ext n ab n 0) (n - 1)) n ≤ msk (fl ab 0) n := Nat.and_le_left
    rw [if_neg q1, show (0 : Int32) = nI 0 from rfl, s_foll5 hA hT.1 (by omega), bd_s, n_pm h1, cl_who5 hA hT hE (by omega), bd_s, cl_bits (by omega), bd_s, cl_bits (by omega), bd_s, n_and, cl_bits (by omega), bd_s, n_mul]
    have eand : msk (fl ab 0) n &&& msk (atP (ext n ab n 0) (n - 1)) n = msk (fun p => fl ab 0 p && atP (ext n ab n 0) (n - 1) p) n := by
      apply Nat.eq_of_testBit_eq
      intro i
      rw [Nat.testBit_and, tb_msk, tb_msk, tb_msk]
      cases decide (i < n) <;> cases fl ab 0 i <;> rfl
    rw [eand]
    have hN := nCd_pairs h8 (kn := 3) (ak := 0) (E := ext n ab n 0) (fun b l => decide (b < n) && decide (l < n) && !(decide (b = l)) && fl ab 0 b && atP (ext n ab n 0) (n - 1) l) (fun p q h => by simp only [Bool.and_eq_true, decide_eq_true_eq] at h; exact ⟨h.1.1.1.1, h.1.1.1.2⟩) (fun p q hq => by
      rw [Bool.eq_iff_iff]
      have hs := las_iff (ab := ab) h8 (by omega) p q
      simp only [Bool.and_eq_true, decide_eq_true_eq, Bool.not_eq_true', decide_eq_false_iff_not]
      rw [atP_iff]
      unfold sn
      rw [List.any_eq_true]
      simp only [decide_eq_true_eq, e3]
      constructor
      · rintro ⟨o, ho, h⟩
        have hp := permL (ext_ok h8 ho)
        have l1 := (hp.1 (n - 1) (by omega)).1
        obtain ⟨a, b, c, d⟩ := hs.mp ⟨o, ho, by omega, by omega⟩
        exact ⟨⟨⟨⟨b, by omega⟩, a⟩, c⟩, d⟩
      · rintro ⟨⟨⟨⟨a, b⟩, c⟩, d⟩, e⟩
        obtain ⟨o, ho, h1, h2⟩ := hs.mpr ⟨c, a, d, e⟩
        exact ⟨o, ho, by omega⟩)
    rw [hN, pop_mskn h8, pop_mskn h8, pop_mskn h8]
    generalize hL : su (fun c => (atP (ext n ab n 0) (n - 1) c).toNat) n 0 = Lc
    have hrow : ∀ b, b < n → su (fun l => (decide (b < n) && decide (l < n) && !(decide (b = l)) && fl ab 0 b && atP (ext n ab n 0) (n - 1) l).toNat) n 0 + ((fl ab 0 b && atP (ext n ab n 0) (n - 1) b).toNat) = (fl ab 0 b).toNat * Lc := by
      intro b hb
      cases hf : fl ab 0 b
      · rw [su_0 n 0 (fun l _ _ => by simp)]
        simp
      · have e5 := su_one (p := b) (x := (atP (ext n ab n 0) (n - 1) b).toNat) n 0 (by omega) (by omega)
        rw [Bool.true_and, Bool.toNat_true, Nat.one_mul, ← hL, ← e5, ← su_add]
        refine su_congr n 0 (fun l _ hl => ?_)
        by_cases e : l = b
        · subst e; simp
        · simp [e, hb, show l < n by omega, Ne.symm e]
    have hsum : su (fun b => su (fun l => (decide (b < n) && decide (l < n) && !(decide (b = l)) && fl ab 0 b && atP (ext n ab n 0) (n - 1) l).toNat) n 0) n 0 + su (fun b => (fl ab 0 b && atP (ext n ab n 0) (n - 1) b).toNat) n 0 = su (fun b => (fl ab 0 b).toNat * Lc) n 0 := by
      rw [← su_add]
      exact su_congr n 0 (fun b _ hb => hrow b (by omega))
    have hmul : ∀ k j, su (fun b => (fl ab 0 b).toNat * Lc) k j = su (fun b => (fl ab 0 b).toNat) k j * Lc := by
      intro k
      induction k with
      | zero => intro j; simp [su]
      | succ k ih => intro j; rw [su, su, ih, Nat.add_mul]
    rw [hmul] at hsum
    have b1 := su_le (g := fun b => (fl ab 0 b).toNat) (b := 1) n 0 (fun i _ _ => by show (fl ab 0 i).toNat ≤ 1; cases fl ab 0 i <;> decide)
    have b2 := su_le (g := fun c => (atP (ext n ab n 0) (n - 1) c).toNat) (b := 1) n 0 (fun i _ _ => by show (atP (ext n ab n 0) (n - 1) i).toNat ≤ 1; cases atP (ext n ab n 0) (n - 1) i <;> decide)
    rw [hL] at b2
    have b3 : su (fun b => (fl ab 0 b).toNat) n 0 * Lc ≤ 8 * 8 := Nat.mul_le_mul (by omega) (by omega)
    have hv : nI (su (fun b => (fl ab 0 b).toNat) n 0 * Lc) - nI (su (fun b => (fl ab 0 b && atP (ext n ab n 0) (n - 1) b).toNat) n 0) = nI (su (fun b => su (fun l => (decide (b < n) && decide (l < n) && !(decide (b = l)) && fl ab 0 b && atP (ext n ab n 0) (n - 1) l).toNat) n 0) n 0) := by
      rw [i_eq, n_toInt (by omega), pk_sub_toInt (by omega) (by omega)]
      omega
    rw [hv]
theorem cl_answers5 (hA : okA n ab) (hT : TL5 n ab M) {kn ak : Nat} (hQ : okQ n kn ak) (h6 : kn = 6 → ak < n) (h0 : (kn = 0 ∨ kn = 1 ∨ kn = 3 ∨ kn = 4) → ak = 0) : f_X7_answers_15 (nI kn) (nI ak) M = some (nI (ansN n ab kn ak)) := by
  obtain ⟨q1, q2, q3, q4, q5, q6⟩ := hQ
  have hm1 := msk_8 hA (fl ab 0)
  have e : ∀ j, j ≤ 6 → (nI kn = nI j) = (kn = j) := fun j hj => propext (n_eq (by omega) (by omega))
  have e0 : (nI kn = 0) = (kn = 0) := e 0 (by omega)
  have e1 : (nI kn = 1) = (kn = 1) := e 1 (by omega)
  have e2 : (nI kn = 2) = (kn = 2) := e 2 (by omega)
  have e3 : (nI kn = 3) = (kn = 3) := e 3 (by omega)
  have e4 : (nI kn = 4) = (kn = 4) := e 4 (by omega)
  have e5 : (nI kn = 5) = (kn = 5) := e 5 (by omega)
  unfold f_X7_answers_15 ansN
  rw [s_allC5 hA hT, bd_s]
  simp only [len_0 q3, e0, e1, e2, e3, e4, e5]
  by_cases c : (ext n ab n 0).length = 0
  · rw [if_pos c, List.length_eq_zero_iff.mp c, nCd_0]
    split <;> rfl
  · have hE : ext n ab n 0 ≠ [] := fun h => c (by rw [h]; rfl)
    have hat : ∀ k, k < n → nCd n 2 k (ext n ab n 0) = pop (msk (atP (ext n ab n 0) k) n) := fun k hk => nCd_msk q3 _ (fun c _ => by
      have : sn n 2 k (ext n ab n 0) c = atP (ext n ab n 0) k c := rfl
      rw [this]
      cases h : atP (ext n ab n 0) k c
      · rw [Bool.and_false]
      · rw [decide_eq_true (atP_lt q3 hk h)]; rfl)
    rw [if_neg c]
    by_cases c0 : kn = 0
    · have ha := h0 (Or.inl c0)
      have : nCd n 0 0 (ext n ab n 0) = nCd n 2 0 (ext n ab n 0) := rfl
      rw [if_pos c0, if_neg (by omega), c0, ha, this, hat 0 (by omega), show (0 : Int32) = nI 0 from rfl, s_foll5 hA hT.1 (by omega), bd_s, cl_bits (by omega), bd_s, foll_0 q3 hE q2]
    rw [if_neg c0]
    by_cases c1 : kn = 1
    · have ha := h0 (Or.inr (Or.inl c1))
      rw [if_pos c1, if_neg (by omega), c1, ha, cl_sec5 hA hT.1 hE q2, bd_s]
    rw [if_neg c1]
    by_cases c2 : kn = 2
    · have ha := q4 c2
      have hm2 := msk_8 hA (atP (ext n ab n 0) ak)
      rw [if_pos c2, if_neg (by omega), c2, hat ak ha, cl_who5 hA hT hE ha, bd_s, cl_bits (by omega), bd_s]
    rw [if_neg c2]
    by_cases c3 : kn = 3
    · have ha := h0 (Or.inr (Or.inr (Or.inl c3)))
      rw [if_pos c3, if_neg (by omega), c3, ha, cl_las5 hA hT hE q2, bd_s]
    rw [if_neg c3]
    by_cases c4 : kn = 4
    · rw [if_pos c4, if_pos c4, bd_s]
    rw [if_neg c4, if_neg c4]
    by_cases c5 : kn = 5
    · rw [if_pos c5, c5, cl_sets5 hA hT hE (q5 c5), bd_s]
    · have c6 : kn = 6 := by omega
      rw [if_neg c5, c6, cl_last5 hA hT hE q2 (h6 c6), bd_s]
end TAL5
