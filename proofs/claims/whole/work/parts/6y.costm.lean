/-! the search: the model's costs -/
def avS (s x : Nat) : Int32 := if x = 2147483647 then -1 else nI (s + x)
section MOC
variable {n : Nat} {ab : Nat → Nat} {M : Mem} {kn ak : Nat}
theorem avS_n {s x : Nat} (h : x < 2147483647) : avS s x = nI (s + x) := by unfold avS; rw [if_neg (by omega)]
/-- the smaller of two, as the model takes it -/
theorem avS_min {α : Type} {s x y : Nat} (hs : s ≤ 24) (hx : x = 2147483647 ∨ x ≤ 6096) (hy : y ≤ 6096) (f : Int32 → α) : (if avS s x < 0 then f (nI (s + y)) else if avS s x ≤ nI (s + y) then f (avS s x) else f (nI (s + y))) = f (avS s (min x y)) := by
  rcases hx with rfl | hx
  · have e : avS s 2147483647 = -1 := by unfold avS; rw [if_pos rfl]
    rw [e, if_pos (by decide), Nat.min_eq_right (by omega), avS_n (by omega)]
  · rw [avS_n (by omega), avS_n (by omega), if_neg (by rw [show (0 : Int32) = nI 0 from rfl, n_lt (by omega) (by omega)]; omega)]
    by_cases c : x ≤ y
    · rw [if_pos ((n_le (by omega) (by omega)).mpr (by omega)), Nat.min_eq_left c]
    · rw [if_neg (by rw [n_le (by omega) (by omega)]; omega), Nat.min_eq_right (by omega)]
def gP (n kn ak md K a b : Nat) : Nat := if unk K a b = true then cmb md (CK n kn ak md (wth K a b)) (CK n kn ak md (wth K b a)) else 2147483647
/-- what the model finds at a pair: nothing to ask, or two parts -/
theorem th_two (hn : n ≤ 4) (hM : MG n ab kn ak M) {K a b : Nat} (h : OKK n K) (hs : sup ab K) (ha : a < n) (hb : b < n) (hab : a ≠ b) : ∃ x1, f_X11_those (nI (VK n ab K)) (nI a) (nI b) M = some (nI x1) ∧ nI (VK n ab K) &&& (nI x1 ^^^ -1) = nI (VK n ab K ^^^ (VK n ab K &&& x1)) ∧ ((unk K a b = true ∧ x1 = VK n ab (wth K a b) ∧ VK n ab K ^^^ (VK n ab K &&& x1) = VK n ab (wth K b a) ∧ ¬ nI x1 = 0 ∧ ¬ nI (VK n ab K ^^^ (VK n ab K &&& x1)) = 0) ∨ (¬ unk K a b = true ∧ (nI x1 = 0 ∨ nI (VK n ab K ^^^ (VK n ab K &&& x1)) = 0))) := by
  have hV := VK_lt (ab := ab) hn K
  obtain ⟨t1, t2, t3⟩ := th_K (ab := ab) hn h ha hb hab
  refine ⟨_, mo_those hn hM hV ha hb, n_diff _ _ (by omega), ?_⟩
  by_cases q : unk K a b = true
  · left
    obtain ⟨e1, e2⟩ := t1 q
    have w1 := (kk_with h ha hb hab q).2.1
    have w2 := (kk_with h hb ha (Ne.symm hab) (by rw [unk_sym]; exact q)).2.1
    have v1 := VK_lt (ab := ab) hn (wth K a b)
    have v2 := VK_lt (ab := ab) hn (wth K b a)
    have n1 := VK_ne hn (sup_wth (a := a) (b := b) h hs) (kk_has w1).1
    have n2 := VK_ne hn (sup_wth (a := b) (b := a) h hs) (kk_has w2).1
    rw [e1]
    refine ⟨q, rfl, e2, ?_, ?_⟩
    · rw [show (0 : Int32) = nI 0 from rfl, n_eq (by omega) (by omega)]; exact n1
    · rw [e2, show (0 : Int32) = nI 0 from rfl, n_eq (by omega) (by omega)]; exact n2
  · right
    refine ⟨q, ?_⟩
    by_cases k1 : ka K a b = true
    · right
      rw [t2 k1, Nat.and_self, Nat.xor_self]; rfl
    · left
      have : ka K b a = true := by
        unfold unk at q
        rw [show ka K a b = false by simpa using k1] at q
        simpa using q
      rw [t3 this]; rfl
theorem mo_w_i (hn : n ≤ 4) (hM : MG n ab kn ak M) {K a : Nat} (h : OKK n K) (hs : sup ab K) (ha : a < n) {rc : Int32 → Mem → Option Int32} {k14 : Int32 → Int32 → Int32 → Option Int32} (hrc : ∀ K2, OKK n K2 → pop K < pop K2 → sup ab K2 → rc (nI (VK n ab K2)) M = some (nI (CK n kn ak 0 K2))) : ∀ (r b m x : Nat), b + r = n → r < m → a < b → (x = 2147483647 ∨ x ≤ 6096) → f_X11_worstOf_L27 rc k14 M m (nI (VK n ab K)) (avS 1 x) (nI a) (nI b) = k14 (nI (VK n ab K)) (avS 1 (min x (mi (gP n kn ak 0 K a) r b))) (nI (a + 1))
  | 0, b, m, x, hb, hm, hab, hx => by
    obtain ⟨m, rfl⟩ : ∃ m2, m = m2 + 1 := ⟨m - 1, by omega⟩
    rw [f_X11_worstOf_L27, hM.1, if_pos ((n_le (by omega) (by omega)).mpr (by omega)), n_s1, mi, Nat.min_eq_left (by omega)]
  | r + 1, b, m, x, hb, hm, hab, hx => by
    obtain ⟨m, rfl⟩ : ∃ m2, m = m2 + 1 := ⟨m - 1, by omega⟩
    obtain ⟨x1, f1, e3, hc⟩ := th_two hn hM h hs ha (show b < n by omega) (by omega)
    rw [f_X11_worstOf_L27, hM.1, if_neg (by rw [n_le (by omega) (by omega)]; omega), f1, bd_s, e3, lt_e, mi]
    unfold f_X11_worstOf_b98 f_X11_worstOf_b111 f_X11_worstOf_b117 f_X11_worstOf_b118
    rw [n_s1]
    rcases hc with ⟨q, e1, e2, z1, z2⟩ | ⟨q, hz⟩
    · have w1 := kk_with h ha (show b < n by omega) (by omega) q
      have w2 := kk_with h (show b < n by omega) ha (by omega) (by rw [unk_sym]; exact q)
      have l1 := CK_le (kn := kn) (ak := ak) (md := 0) w1.2.1
      have l2 := CK_le (kn := kn) (ak := ak) (md := 0) w2.2.1
      rw [if_neg z1, if_neg z2, e2, e1, hrc _ w1.2.1 w1.2.2 (sup_wth h hs), bd_s, hrc _ w2.2.1 w2.2.2 (sup_wth h hs), bd_s]
      have eg : gP n kn ak 0 K a b = max (CK n kn ak 0 (wth K a b)) (CK n kn ak 0 (wth K b a)) := by unfold gP cmb; rw [if_pos q, if_pos rfl]
      have hm1 : (if nI (CK n kn ak 0 (wth K a b)) ≤ nI (CK n kn ak 0 (wth K b a)) then (1 : Int32) + nI (CK n kn ak 0 (wth K b a)) else 1 + nI (CK n kn ak 0 (wth K a b))) = nI (1 + gP n kn ak 0 K a b) := by
        rw [eg, show (1 : Int32) = nI 1 from rfl, n_add, n_add]
        by_cases c : CK n kn ak 0 (wth K a b) ≤ CK n kn ak 0 (wth K b a)
        · rw [if_pos ((n_le (by omega) (by omega)).mpr c), Nat.max_eq_right c]
        · rw [if_neg (by rw [n_le (by omega) (by omega)]; omega), Nat.max_eq_left (by omega)]
      have ih := mo_w_i hn hM h hs ha (k14 := k14) hrc r (b + 1) m (min x (gP n kn ak 0 K a b)) (by omega) (by omega) (by omega) (by omega)
      have mn := avS_min (s := 1) (by omega) hx (show gP n kn ak 0 K a b ≤ 6096 by omega) (fun v => f_X11_worstOf_L27 rc k14 M m (nI (VK n ab K)) v (nI a) (nI (b + 1)))
      rw [← hm1] at mn
      rw [← Nat.min_assoc, ← ih]
      refine Eq.trans ?_ mn
      by_cases c : nI (CK n kn ak 0 (wth K a b)) ≤ nI (CK n kn ak 0 (wth K b a))
      · rw [if_pos c, if_pos c, lt_e]
      · rw [if_neg c, if_neg c, lt_e]
    · have ih := mo_w_i hn hM h hs ha (k14 := k14) hrc r (b + 1) m x (by omega) (by omega) (by omega) hx
      have eg : gP n kn ak 0 K a b = 2147483647 := by unfold gP; rw [if_neg q]
      have hb2 := mi_big (g := gP n kn ak 0 K a) r (b + 1)
      rw [eg, Nat.min_eq_right hb2, ← ih]
      by_cases z1 : nI x1 = 0
      · rw [if_pos z1]
      · rw [if_neg z1, if_pos (hz.resolve_left z1)]
theorem mo_w_o (hn : n ≤ 4) (hM : MG n ab kn ak M) {K : Nat} (h : OKK n K) (hs : sup ab K) {rc : Int32 → Mem → Option Int32} (hrc : ∀ K2, OKK n K2 → pop K < pop K2 → sup ab K2 → rc (nI (VK n ab K2)) M = some (nI (CK n kn ak 0 K2))) : ∀ (r a m x : Nat), a + r = n → r < m → (x = 2147483647 ∨ x ≤ 6096) → f_X11_worstOf_L14 rc M m (nI (VK n ab K)) (avS 1 x) (nI a) = some (avS 1 (min x (mi (fun a => mi (gP n kn ak 0 K a) (n - (a + 1)) (a + 1)) r a)))
  | 0, a, m, x, hb, hm, hx => by
    obtain ⟨m, rfl⟩ : ∃ m2, m = m2 + 1 := ⟨m - 1, by omega⟩
    rw [f_X11_worstOf_L14, hM.1, if_pos ((n_le (by omega) (by omega)).mpr (by omega)), mi, Nat.min_eq_left (by omega)]
  | r + 1, a, m, x, hb, hm, hx => by
    obtain ⟨m, rfl⟩ : ∃ m2, m = m2 + 1 := ⟨m - 1, by omega⟩
    have hmi : mi (gP n kn ak 0 K a) (n - (a + 1)) (a + 1) = 2147483647 ∨ mi (gP n kn ak 0 K a) (n - (a + 1)) (a + 1) ≤ 6096 := by
      rcases mi_at (g := gP n kn ak 0 K a) (n - (a + 1)) (a + 1) with e | ⟨i, i1, i2, e⟩
      · exact Or.inl e
      · rw [e]
        unfold gP
        by_cases q : unk K a i = true
        · rw [if_pos q]; exact Or.inr (cmb_le h (by omega) (by omega) (by omega) q)
        · rw [if_neg q]; exact Or.inl rfl
    rw [f_X11_worstOf_L14, hM.1, if_neg (by rw [n_le (by omega) (by omega)]; omega), n_s1, lt_e, mo_w_i hn hM h hs (by omega) hrc (n - (a + 1)) (a + 1) FU x (by omega) (by unfold FU; omega) (by omega) hx]
    rw [mi, ← Nat.min_assoc]
    exact mo_w_o hn hM h hs hrc r (a + 1) m _ (by omega) (by omega) (by omega)
theorem mo_worstOf (hn : n ≤ 4) (hQ : okQ n kn ak) (hM : MG n ab kn ak M) : ∀ (d K : Nat), OKK n K → sup ab K → 7 ≤ d + pop K → f_X11_worstOf d (nI (VK n ab K)) M = some (nI (CK n kn ak 0 K)) := by
  intro d
  induction d with
  | zero => intro K h _ hd; have := (kk_st h).2.2.2; omega
  | succ d ih =>
    intro K h hs hd
    have hrec := CK_rec (kn := kn) (ak := ak) (md := 0) h
    have hle := CK_le (kn := kn) (ak := ak) (md := 0) h
    rw [f_X11_worstOf]
    unfold f_X11_worstOf_o
    rw [mo_an hn hQ hM hs, bd_s, ite_bb]
    by_cases c : ansN n (rwK K) kn ak ≤ 1
    · rw [if_pos c] at hrec
      rw [if_pos (decide_eq_true c), hrec]; rfl
    · rw [if_neg c, if_pos rfl] at hrec
      rw [if_neg (by simpa using c)]
      have hw := mo_w_o hn hM h hs (rc := fun v1 M => f_X11_worstOf d v1 M) (fun K2 h2 hp hs2 => ih K2 h2 hs2 (by omega)) n 0 FU 2147483647 (by omega) (by unfold FU; omega) (Or.inl rfl)
      have hw' : f_X11_worstOf_L14 (fun v1 M => f_X11_worstOf d v1 M) M FU (nI (VK n ab K)) (-1) 0 = _ := hw
      have hb2 := mi_big (g := fun a => mi (gP n kn ak 0 K a) (n - (a + 1)) (a + 1)) n 0
      have hr : rst n (fun a b => if unk K a b = true then cmb 0 (CK n kn ak 0 (wth K a b)) (CK n kn ak 0 (wth K b a)) else 2147483647) = mi (fun a => mi (gP n kn ak 0 K a) (n - (a + 1)) (a + 1)) n 0 := rfl
      rw [hr] at hrec
      rw [hw', Nat.min_eq_right hb2, avS_n (by omega), ← hrec]
end MOC
