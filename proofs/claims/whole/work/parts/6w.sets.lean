/-! the search: sets of orders, as the model holds them -/
theorem msk_0s (P : Nat → Bool) (k : Nat) : msk P (k + 1) = (P 0).toNat + 2 * msk (fun i => P (i + 1)) k := by
  apply Nat.eq_of_testBit_eq
  intro i
  have hb : (P 0).toNat < 2 := by cases P 0 <;> decide
  cases i with
  | zero =>
    rw [tb_msk, Nat.testBit_zero, show ((P 0).toNat + 2 * msk (fun i => P (i + 1)) k) % 2 = (P 0).toNat by omega]
    cases P 0 <;> simp
  | succ i =>
    rw [tb_msk, Nat.testBit_succ, show ((P 0).toNat + 2 * msk (fun i => P (i + 1)) k) / 2 = msk (fun i => P (i + 1)) k by omega, tb_msk]
    congr 1
    exact decide_eq_decide.mpr (by omega)
theorem popF_msk : ∀ (k f : Nat) (P : Nat → Bool), k ≤ f → popF f (msk P k) = su (fun i => (P i).toNat) k 0
  | 0, f, P, _ => by
    have : ∀ f, popF f 0 = 0 := fun f => by
      induction f with
      | zero => rfl
      | succ f ih => rw [popF, show 0 / 2 = 0 from rfl, ih]
    exact this f
  | k + 1, f, P, h => by
    obtain ⟨f, rfl⟩ : ∃ f2, f = f2 + 1 := ⟨f - 1, by omega⟩
    have hb : (P 0).toNat < 2 := by cases P 0 <;> decide
    rw [popF, msk_0s, show ((P 0).toNat + 2 * msk (fun i => P (i + 1)) k) % 2 = (P 0).toNat by omega, show ((P 0).toNat + 2 * msk (fun i => P (i + 1)) k) / 2 = msk (fun i => P (i + 1)) k by omega, popF_msk k f _ (by omega), su]
    have := su_shift (fun i => (P i).toNat) k 0 1
    rw [this]
theorem pop_mskk {k : Nat} (P : Nat → Bool) (h : k ≤ 31) : pop (msk P k) = su (fun i => (P i).toNat) k 0 := popF_msk k 31 P h
theorem su_uniq {Q : Nat → Bool} {k : Nat} : su (fun i => (Q i).toNat) k 0 ≤ 1 ↔ ∀ i j, i < k → j < k → Q i = true → Q j = true → i = j := by
  constructor
  · intro h i j hi hj qi qj
    by_cases e : i = j
    · exact e
    · exfalso
      have s1 := su_add (fun q => if q = i then 1 else 0) (fun q => if q = j then 1 else 0) k 0
      rw [su_one k 0 (by omega) (by omega), su_one k 0 (by omega) (by omega)] at s1
      have s2 := su_mono (g := fun q => (if q = i then 1 else 0) + (if q = j then 1 else 0)) (h := fun i => (Q i).toNat) k 0 (fun q _ _ => by
        show (if q = i then 1 else 0) + (if q = j then 1 else 0) ≤ (Q q).toNat
        by_cases c1 : q = i
        · rw [if_pos c1, if_neg (by omega), c1, qi]; decide
        · rw [if_neg c1]
          by_cases c2 : q = j
          · rw [if_pos c2, c2, qj]; decide
          · rw [if_neg c2]; exact Nat.zero_le _)
      omega
  · intro h
    by_cases e : ∃ i, i < k ∧ Q i = true
    · obtain ⟨i, hi, qi⟩ := e
      have s2 := su_mono (g := fun i => (Q i).toNat) (h := fun q => if q = i then 1 else 0) k 0 (fun q _ hq => by
        show (Q q).toNat ≤ if q = i then 1 else 0
        cases c : Q q
        · exact Nat.zero_le _
        · rw [if_pos (h q i (by omega) hi c qi)]; decide)
      rw [su_one k 0 (by omega) (by omega)] at s2
      exact s2
    · rw [su_0 k 0 (fun q _ hq => by
        show (Q q).toNat = 0
        cases c : Q q
        · rfl
        · exact absurd ⟨q, by omega, c⟩ e)]
      omega
theorem flt_su {α : Type} (P : α → Bool) (d : α) : ∀ (L : List α), (L.filter P).length = su (fun i => (P (L.getD i d)).toNat) L.length 0
  | [] => rfl
  | x :: L => by
    have := su_shift (fun i => (P ((x :: L).getD i d)).toNat) L.length 0 1
    rw [List.length_cons, su, this]
    have e : (fun i => (P ((x :: L).getD (i + 1) d)).toNat) = fun i => (P (L.getD i d)).toNat := by
      funext i
      simp
    rw [e, ← flt_su P d L, List.filter_cons]
    show _ = (P x).toNat + _
    cases P x
    · simp
    · simp; omega
def sup (ab : Nat → Nat) (K : Nat) : Prop := ∀ p i, (ab p).testBit i = true → (rwK K p).testBit i = true
def VK (n : Nat) (ab : Nat → Nat) (K : Nat) : Nat := msk (fun i => vld (rwK K) 0 ((ext n ab n 0).getD i [])) (ext n ab n 0).length
def MG (n : Nat) (ab : Nat → Nat) (kn ak : Nat) (M : Mem) : Prop := M.1 47 6 = nI n ∧ M.1 47 22 = nI (ext n ab n 0).length ∧ ∀ i, i < (ext n ab n 0).length → (∀ p, p < n → M.1 63 (4 * i + p) = nI (pL ((ext n ab n 0).getD i []) p)) ∧ M.1 64 i = nI (if kn = 4 then i else codeF n kn ak (oL ((ext n ab n 0).getD i [])))
section SET
variable {n : Nat} {ab : Nat → Nat} {M : Mem} {kn ak : Nat}
theorem getD_ok (hn : n ≤ 8) {i : Nat} (hi : i < (ext n ab n 0).length) : (ext n ab n 0).getD i [] ∈ ext n ab n 0 ∧ okL3 n ((ext n ab n 0).getD i []) := by
  have e : (ext n ab n 0).getD i [] = (ext n ab n 0)[i] := by rw [List.getD_eq_getElem?_getD, List.getElem?_eq_getElem hi]; rfl
  rw [e]
  exact ⟨List.getElem_mem hi, ext_ok hn (List.getElem_mem hi)⟩
theorem mem_vld (hn : n ≤ 8) {ab2 : Nat → Nat} {o : List Nat} (h : okL3 n o) : vld ab2 0 o = true ↔ o ∈ ext n ab2 n 0 := by
  constructor
  · intro h2; exact full_mem hn h.2.2.1 h2 h.2.2.2
  · intro h2; exact ((mem_ext n ab2 n 0 o).mp h2).2.2
theorem VK_lt (hn : n ≤ 4) (K : Nat) : VK n ab K < 2 ^ 24 := by
  have h1 := msk_lt (fun i => vld (rwK K) 0 ((ext n ab n 0).getD i [])) (ext n ab n 0).length
  have h2 : 2 ^ (ext n ab n 0).length ≤ 2 ^ 24 := Nat.pow_le_pow_right (by omega) (ext_24 hn ab)
  unfold VK
  omega
theorem VK_pop (hn : n ≤ 4) {K : Nat} (hs : sup ab K) : pop (VK n ab K) = (ext n (rwK K) n 0).length := by
  have h24 := ext_24 hn ab
  unfold VK
  rw [pop_mskk _ (by omega), ← ext_flt hs n 0, flt_su (vld (rwK K) 0) []]
theorem VK_ne (hn : n ≤ 4) {K : Nat} (hs : sup ab K) (h : 0 < (ext n (rwK K) n 0).length) : VK n ab K ≠ 0 := fun e => by
  have := VK_pop hn hs
  rw [e, pop_0] at this
  omega
theorem tb_VK (K i : Nat) : (VK n ab K).testBit i = (decide (i < (ext n ab n 0).length) && vld (rwK K) 0 ((ext n ab n 0).getD i [])) := by
  unfold VK
  rw [tb_msk]
/-- the set is answered -/
theorem VK_ans (hn : n ≤ 4) {K : Nat} (hQ : okQ n kn ak) (hs : sup ab K) : ansN n (rwK K) kn ak ≤ 1 ↔ ∀ i j, i < (ext n ab n 0).length → j < (ext n ab n 0).length → (VK n ab K).testBit i = true → (VK n ab K).testBit j = true → (if kn = 4 then i else codeF n kn ak (oL ((ext n ab n 0).getD i []))) = (if kn = 4 then j else codeF n kn ak (oL ((ext n ab n 0).getD j []))) := by
  unfold ansN
  by_cases c : kn = 4
  · simp only [c, if_true]
    rw [← ext_flt hs n 0, flt_su (vld (rwK K) 0) [], su_uniq]
    constructor
    · intro h i j hi hj h1 h2
      rw [tb_VK, Bool.and_eq_true] at h1 h2
      exact h i j hi hj h1.2 h2.2
    · intro h i j hi hj h1 h2
      exact h i j hi hj (by rw [tb_VK, h1, decide_eq_true hi]; rfl) (by rw [tb_VK, h2, decide_eq_true hj]; rfl)
  · simp only [c, if_false]
    unfold nCd
    rw [su_uniq]
    have hm : ∀ i, i < (ext n ab n 0).length → (VK n ab K).testBit i = true → (ext n ab n 0).getD i [] ∈ ext n (rwK K) n 0 := fun i hi h1 => by
      rw [tb_VK, Bool.and_eq_true] at h1
      exact (mem_vld (by omega) (getD_ok (by omega) hi).2).mp h1.2
    constructor
    · intro h i j hi hj h1 h2
      have p1 := permL (getD_ok (ab := ab) (show n ≤ 8 by omega) hi).2
      have p2 := permL (getD_ok (ab := ab) (show n ≤ 8 by omega) hj).2
      refine h _ _ (codeF_lt hQ (fun k hk => (p1.1 k hk).1)) (codeF_lt hQ (fun k hk => (p2.1 k hk).1)) ?_ ?_
      · unfold sn; rw [List.any_eq_true]; exact ⟨_, hm i hi h1, by simp⟩
      · unfold sn; rw [List.any_eq_true]; exact ⟨_, hm j hj h2, by simp⟩
    · intro h c1 c2 _ _ h1 h2
      unfold sn at h1 h2
      rw [List.any_eq_true] at h1 h2
      obtain ⟨o1, m1, e1⟩ := h1
      obtain ⟨o2, m2, e2⟩ := h2
      rw [decide_eq_true_eq] at e1 e2
      rw [← ext_flt hs n 0, List.mem_filter] at m1 m2
      obtain ⟨i, hi, g1⟩ := List.mem_iff_getElem.mp m1.1
      obtain ⟨j, hj, g2⟩ := List.mem_iff_getElem.mp m2.1
      have d1 : (ext n ab n 0).getD i [] = o1 := by rw [List.getD_eq_getElem?_getD, List.getElem?_eq_getElem hi]; exact g1
      have d2 : (ext n ab n 0).getD j [] = o2 := by rw [List.getD_eq_getElem?_getD, List.getElem?_eq_getElem hj]; exact g2
      have := h i j hi hj (by rw [tb_VK, d1, m1.2, decide_eq_true hi]; rfl) (by rw [tb_VK, d2, m2.2, decide_eq_true hj]; rfl)
      rw [d1, d2, e1, e2] at this
      exact this
end SET
