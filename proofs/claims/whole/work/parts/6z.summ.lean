/-! the search: the model's sum -/
section MOT
variable {n : Nat} {ab : Nat → Nat} {M : Mem} {kn ak : Nat}
theorem mo_t_i (hn : n ≤ 4) (hM : MG n ab kn ak M) {K a : Nat} (h : OKK n K) (hs : sup ab K) (ha : a < n) {rc : Int32 → Mem → Option Int32} {k14 : Int32 → Int32 → Int32 → Option Int32} (hrc : ∀ K2, OKK n K2 → pop K < pop K2 → sup ab K2 → rc (nI (VK n ab K2)) M = some (nI (CK n kn ak 1 K2))) : ∀ (r b m x : Nat), b + r = n → r < m → a < b → (x = 2147483647 ∨ x ≤ 6096) → f_X11_togetherOf_L27 rc k14 M m (nI (VK n ab K)) (avS (ext n (rwK K) n 0).length x) (nI a) (nI b) = k14 (nI (VK n ab K)) (avS (ext n (rwK K) n 0).length (min x (mi (gP n kn ak 1 K a) r b))) (nI (a + 1))
  | 0, b, m, x, hb, hm, hab, hx => by
    obtain ⟨m, rfl⟩ : ∃ m2, m = m2 + 1 := ⟨m - 1, by omega⟩
    rw [f_X11_togetherOf_L27, hM.1, if_pos ((n_le (by omega) (by omega)).mpr (by omega)), n_s1, mi, Nat.min_eq_left (by omega)]
  | r + 1, b, m, x, hb, hm, hab, hx => by
    obtain ⟨m, rfl⟩ : ∃ m2, m = m2 + 1 := ⟨m - 1, by omega⟩
    obtain ⟨x1, f1, e3, hc⟩ := th_two hn hM h hs ha (show b < n by omega) (by omega)
    rw [f_X11_togetherOf_L27, hM.1, if_neg (by rw [n_le (by omega) (by omega)]; omega), f1, bd_s, e3, lt_e, mi]
    unfold f_X11_togetherOf_b97 f_X11_togetherOf_b103 f_X11_togetherOf_b104
    rw [n_s1]
    rcases hc with ⟨q, e1, e2, z1, z2⟩ | ⟨q, hz⟩
    · have w1 := kk_with h ha (show b < n by omega) (by omega) q
      have w2 := kk_with h (show b < n by omega) ha (by omega) (by rw [unk_sym]; exact q)
      have l1 := CK_le (kn := kn) (ak := ak) (md := 1) w1.2.1
      have l2 := CK_le (kn := kn) (ak := ak) (md := 1) w2.2.1
      have hV := VK_lt (ab := ab) hn K
      rw [if_neg z1, if_neg z2, e2, e1, mo_bits (by omega), bd_s, hrc _ w1.2.1 w1.2.2 (sup_wth h hs), bd_s, hrc _ w2.2.1 w2.2.2 (sup_wth h hs), bd_s, VK_pop hn hs]
      have eg : gP n kn ak 1 K a b = CK n kn ak 1 (wth K a b) + CK n kn ak 1 (wth K b a) := by unfold gP cmb; rw [if_pos q, if_neg (by omega)]
      have h24 := ext_24 hn (rwK K)
      rw [n_add, n_add, Nat.add_assoc, ← eg, lt_e]
      have ih := mo_t_i hn hM h hs ha (k14 := k14) hrc r (b + 1) m (min x (gP n kn ak 1 K a b)) (by omega) (by omega) (by omega) (by omega)
      rw [← Nat.min_assoc, ← ih]
      exact avS_min (s := (ext n (rwK K) n 0).length) (by omega) hx (show gP n kn ak 1 K a b ≤ 6096 by omega) (fun v => f_X11_togetherOf_L27 rc k14 M m (nI (VK n ab K)) v (nI a) (nI (b + 1)))
    · have ih := mo_t_i hn hM h hs ha (k14 := k14) hrc r (b + 1) m x (by omega) (by omega) (by omega) hx
      have eg : gP n kn ak 1 K a b = 2147483647 := by unfold gP; rw [if_neg q]
      have hb2 := mi_big (g := gP n kn ak 1 K a) r (b + 1)
      rw [eg, Nat.min_eq_right hb2, ← ih]
      by_cases z1 : nI x1 = 0
      · rw [if_pos z1]
      · rw [if_neg z1, if_pos (hz.resolve_left z1)]
theorem mo_t_o (hn : n ≤ 4) (hM : MG n ab kn ak M) {K : Nat} (h : OKK n K) (hs : sup ab K) {rc : Int32 → Mem → Option Int32} (hrc : ∀ K2, OKK n K2 → pop K < pop K2 → sup ab K2 → rc (nI (VK n ab K2)) M = some (nI (CK n kn ak 1 K2))) : ∀ (r a m x : Nat), a + r = n → r < m → (x = 2147483647 ∨ x ≤ 6096) → f_X11_togetherOf_L14 rc M m (nI (VK n ab K)) (avS (ext n (rwK K) n 0).length x) (nI a) = some (avS (ext n (rwK K) n 0).length (min x (mi (fun a => mi (gP n kn ak 1 K a) (n - (a + 1)) (a + 1)) r a)))
  | 0, a, m, x, hb, hm, hx => by
    obtain ⟨m, rfl⟩ : ∃ m2, m = m2 + 1 := ⟨m - 1, by omega⟩
    rw [f_X11_togetherOf_L14, hM.1, if_pos ((n_le (by omega) (by omega)).mpr (by omega)), mi, Nat.min_eq_left (by omega)]
  | r + 1, a, m, x, hb, hm, hx => by
    obtain ⟨m, rfl⟩ : ∃ m2, m = m2 + 1 := ⟨m - 1, by omega⟩
    have hmi : mi (gP n kn ak 1 K a) (n - (a + 1)) (a + 1) = 2147483647 ∨ mi (gP n kn ak 1 K a) (n - (a + 1)) (a + 1) ≤ 6096 := by
      rcases mi_at (g := gP n kn ak 1 K a) (n - (a + 1)) (a + 1) with e | ⟨i, i1, i2, e⟩
      · exact Or.inl e
      · rw [e]
        unfold gP
        by_cases q : unk K a i = true
        · rw [if_pos q]; exact Or.inr (cmb_le h (by omega) (by omega) (by omega) q)
        · rw [if_neg q]; exact Or.inl rfl
    rw [f_X11_togetherOf_L14, hM.1, if_neg (by rw [n_le (by omega) (by omega)]; omega), n_s1, lt_e, mo_t_i hn hM h hs (by omega) hrc (n - (a + 1)) (a + 1) FU x (by omega) (by unfold FU; omega) (by omega) hx]
    rw [mi, ← Nat.min_assoc]
    exact mo_t_o hn hM h hs hrc r (a + 1) m _ (by omega) (by omega) (by omega)
theorem mo_togetherOf (hn : n ≤ 4) (hQ : okQ n kn ak) (hM : MG n ab kn ak M) : ∀ (d K : Nat), OKK n K → sup ab K → 7 ≤ d + pop K → f_X11_togetherOf d (nI (VK n ab K)) M = some (nI (CK n kn ak 1 K)) := by
  intro d
  induction d with
  | zero => intro K h _ hd; have := (kk_st h).2.2.2; omega
  | succ d ih =>
    intro K h hs hd
    have hrec := CK_rec (kn := kn) (ak := ak) (md := 1) h
    have hle := CK_le (kn := kn) (ak := ak) (md := 1) h
    rw [f_X11_togetherOf]
    unfold f_X11_togetherOf_o
    rw [mo_an hn hQ hM hs, bd_s, ite_bb]
    by_cases c : ansN n (rwK K) kn ak ≤ 1
    · rw [if_pos c] at hrec
      rw [if_pos (decide_eq_true c), hrec]; rfl
    · rw [if_neg c, if_neg (by omega)] at hrec
      rw [if_neg (by simpa using c)]
      have hw := mo_t_o hn hM h hs (rc := fun v1 M => f_X11_togetherOf d v1 M) (fun K2 h2 hp hs2 => ih K2 h2 hs2 (by omega)) n 0 FU 2147483647 (by omega) (by unfold FU; omega) (Or.inl rfl)
      have hw' : f_X11_togetherOf_L14 (fun v1 M => f_X11_togetherOf d v1 M) M FU (nI (VK n ab K)) (-1) 0 = _ := hw
      have hb2 := mi_big (g := fun a => mi (gP n kn ak 1 K a) (n - (a + 1)) (a + 1)) n 0
      have hr : rst n (fun a b => if unk K a b = true then cmb 1 (CK n kn ak 1 (wth K a b)) (CK n kn ak 1 (wth K b a)) else 2147483647) = mi (fun a => mi (gP n kn ak 1 K a) (n - (a + 1)) (a + 1)) n 0 := rfl
      rw [hr] at hrec
      rw [hw', Nat.min_eq_right hb2, avS_n (by omega), ← hrec]
end MOT
