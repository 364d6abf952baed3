/-! the search: the model's three calls -/
theorem n_rem {x y : Nat} (hx : x < 2147483648) (hy : y < 2147483648) : ab_rem (nI x) (nI y) = nI (x % y) := by
  unfold ab_rem
  rw [n_div hx hy, n_mul]
  have e : x = x % y + x / y * y := by rw [Nat.mul_comm]; exact (Nat.mod_add_div x y).symm
  have h : nI x = nI (x % y) + nI (x / y * y) := by rw [n_add, ← e]
  rw [h, Int32.add_sub_cancel]
theorem mo_com32 : ∀ (k d r g : Nat), d < 2147483648 → r < 2147483648 → euN k d r = some g → f_X11_common_L4 k (nI d) (nI r) = some (nI g)
  | 0, d, r, g, _, _, h => by cases h
  | k + 1, d, r, g, hd, hr, h => by
    rw [euN] at h
    rw [f_X11_common_L4]
    have e0 : (nI r = 0) = (r = 0) := propext (n_eq (b := 0) hr (by omega))
    simp only [e0]
    by_cases q : r = 0
    · rw [if_pos q] at h ⊢; cases h; rfl
    · rw [if_neg q] at h ⊢
      rw [if_neg q, n_rem hd hr, lt_e]
      have := Nat.mod_lt d (show r > 0 by omega)
      exact mo_com32 k r (d % r) g hr (by omega) h
section MSC
variable {n : Nat} {ab : Nat → Nat} {M : Mem} {kn ak : Nat}
theorem sup_K0 (hA : okA n ab) (hn : n ≤ 4) (hp : ∀ p i, (ab p).testBit i = true → p < n) (hE : ext n ab n 0 ≠ []) : sup ab (K0 n ab) := fun p i hi => by
  have hpn := hp p i hi
  have hall : ∀ o ∈ ext n ab n 0, i < n ∧ pL o i < pL o p := fun o ho => (ord_g hA.1 (ext_ok hA.1 ho)).mp ho p hpn i hi
  obtain ⟨o, ho⟩ := List.exists_mem_of_ne_nil _ hE
  have h1 := hall o ho
  have hne : i ≠ p := fun e => by rw [e] at h1; omega
  have hk := ((KP_K0 hA hE).2 i p (by omega) (by omega)).mpr ⟨rfl, h1.1, hpn, hne, (isBet_all hA.1 hE h1.1 hpn hne).mpr (fun o ho => (hall o ho).2), Or.inl h1.1⟩
  rw [tb_rwK, decide_eq_true (show i < 4 by omega), Bool.true_and]
  exact hk
theorem all_K0 (hA : okA n ab) (hn : n ≤ 4) (hE : ext n ab n 0 ≠ []) {o : List Nat} (ho : o ∈ ext n ab n 0) : vld (rwK (K0 n ab)) 0 o = true := by
  have hk := ext_ok hA.1 ho
  rw [mem_vld hA.1 hk, ord_K (OKK_K0 hA hn hE) hk]
  intro c v hc hv hkk
  obtain ⟨-, -, -, q4, q5, -⟩ := ((KP_K0 hA hE).2 c v (by omega) (by omega)).mp hkk
  exact (isBet_all hA.1 hE hc hv q4).mp q5 o ho
theorem ext_K0 (hA : okA n ab) (hn : n ≤ 4) (hp : ∀ p i, (ab p).testBit i = true → p < n) (hE : ext n ab n 0 ≠ []) : ext n (rwK (K0 n ab)) n 0 = ext n ab n 0 := by
  rw [← ext_flt (sup_K0 hA hn hp hE) n 0, List.filter_eq_self]
  exact fun o ho => all_K0 hA hn hE ho
theorem VK_all (hA : okA n ab) (hn : n ≤ 4) (hE : ext n ab n 0 ≠ []) : VK n ab (K0 n ab) = 2 ^ (ext n ab n 0).length - 1 := by
  apply Nat.eq_of_testBit_eq
  intro i
  rw [tb_VK, Nat.testBit_two_pow_sub_one]
  by_cases hi : i < (ext n ab n 0).length
  · rw [decide_eq_true hi, all_K0 hA hn hE (getD_ok hA.1 hi).1]; rfl
  · rw [decide_eq_false hi]; rfl
theorem CKz_eq (hA : okA n ab) (hn : n ≤ 4) (hp : ∀ p i, (ab p).testBit i = true → p < n) (hE : ext n ab n 0 ≠ []) (md : Nat) : CK n kn ak md (K0 n ab) = CKz n ab kn ak md := by
  unfold CKz
  by_cases c : 1 < ansN n ab kn ak
  · rw [if_pos c]
  · rw [if_neg c, CK_rec (OKK_K0 hA hn hE), if_pos]
    unfold ansN at c ⊢
    rw [ext_K0 hA hn hp hE]
    omega
theorem mo_all (hn : n ≤ 4) (hM : MG n ab kn ak M) : f_X11_allOrders M = some (nI (2 ^ (ext n ab n 0).length - 1)) := by
  have h24 := ext_24 hn ab
  have h3 := Nat.two_pow_pos (ext n ab n 0).length
  obtain ⟨x, hx⟩ : ∃ x, 2 ^ (ext n ab n 0).length = x + 1 := ⟨2 ^ (ext n ab n 0).length - 1, by omega⟩
  unfold f_X11_allOrders
  rw [hM.2.1, n_shl1 _ (by omega), hx, n_p1, Nat.add_sub_cancel]
theorem mo_an0 (hn : n ≤ 4) (hQ : okQ n kn ak) (hM : MG n ab kn ak M) : f_X11_isAnswered (nI 0) M = some 1 := by
  have h24 := ext_24 hn ab
  obtain ⟨x, fx, hx⟩ := mo_an_L hn hQ hM (V := 0) (by omega) (ext n ab n 0).length 0 FU (-1) (by omega) (by unfold FU; omega) (Or.inl ⟨rfl, fun i hi => by omega⟩)
  have : x = true := hx.mpr (fun i j _ _ h => by rw [Nat.zero_testBit] at h; cases h)
  rw [this] at fx
  exact fx
theorem mo_wz (hA : okA n ab) (hn : n ≤ 4) (hp : ∀ p i, (ab p).testBit i = true → p < n) (hQ : okQ n kn ak) (hM : MG n ab kn ak M) : f_X11_worstOf FD (nI (2 ^ (ext n ab n 0).length - 1)) M = some (nI (CKz n ab kn ak 0)) := by
  by_cases hE : ext n ab n 0 = []
  · have h0 := ansN_0 (kn := kn) (ak := ak) hE
    have hz : CKz n ab kn ak 0 = 0 := by unfold CKz; rw [if_neg (by omega)]
    rw [hz, hE]
    show f_X11_worstOf (39 + 1) (nI 0) M = _
    rw [f_X11_worstOf]
    unfold f_X11_worstOf_o
    rw [mo_an0 hn hQ hM, bd_s, if_neg (by decide)]
    rfl
  · rw [← VK_all hA hn hE, mo_worstOf hn hQ hM FD _ (OKK_K0 hA hn hE) (sup_K0 hA hn hp hE) (by unfold FD; omega), CKz_eq hA hn hp hE]
theorem mo_tz (hA : okA n ab) (hn : n ≤ 4) (hp : ∀ p i, (ab p).testBit i = true → p < n) (hQ : okQ n kn ak) (hM : MG n ab kn ak M) : f_X11_togetherOf FD (nI (2 ^ (ext n ab n 0).length - 1)) M = some (nI (CKz n ab kn ak 1)) := by
  by_cases hE : ext n ab n 0 = []
  · have h0 := ansN_0 (kn := kn) (ak := ak) hE
    have hz : CKz n ab kn ak 1 = 0 := by unfold CKz; rw [if_neg (by omega)]
    rw [hz, hE]
    show f_X11_togetherOf (39 + 1) (nI 0) M = _
    rw [f_X11_togetherOf]
    unfold f_X11_togetherOf_o
    rw [mo_an0 hn hQ hM, bd_s, if_neg (by decide)]
    rfl
  · rw [← VK_all hA hn hE, mo_togetherOf hn hQ hM FD _ (OKK_K0 hA hn hE) (sup_K0 hA hn hp hE) (by unfold FD; omega), CKz_eq hA hn hp hE]
theorem kp_iff {K a b : Nat} (h : OKK n K) (hu : ¬ ansN n (rwK K) kn ak ≤ 1) (hab : a < b) (hb : b < n) (q : unk K a b = true) : kpP n kn ak K a b = true ↔ (¬ CK n kn ak 0 K ≤ CK n kn ak 0 (wth K a b) ∧ ¬ CK n kn ak 0 K ≤ CK n kn ak 0 (wth K b a)) := by
  have hrec := CK_rec (kn := kn) (ak := ak) (md := 0) h
  rw [if_neg hu, if_pos rfl] at hrec
  have hr := rst_le (g := fun a b => if unk K a b = true then cmb 0 (CK n kn ak 0 (wth K a b)) (CK n kn ak 0 (wth K b a)) else 2147483647) hab hb
  simp only [q, if_true] at hr
  unfold kpP
  rw [q, Bool.true_and, decide_eq_true_eq]
  have hc : cmb 0 (CK n kn ak 0 (wth K a b)) (CK n kn ak 0 (wth K b a)) = max (CK n kn ak 0 (wth K a b)) (CK n kn ak 0 (wth K b a)) := by unfold cmb; rw [if_pos rfl]
  rw [hc] at hr ⊢
  omega
theorem mo_nx_i (hn : n ≤ 4) (hQ : okQ n kn ak) (hM : MG n ab kn ak M) {K a : Nat} (h : OKK n K) (hs : sup ab K) (hu : ¬ ansN n (rwK K) kn ak ≤ 1) (ha : a < n) (w : Int32) {k41 : Int32 → Int32 → Int32 → Int32 → Mem → Option (Int32 × Mem)} : ∀ (r b m : Nat), b + r = n → r < m → a < b → f_X11_next_L61 k41 m w (nI (VK n ab K)) (nI (CK n kn ak 0 K)) (nI a) (nI b) M = (match fs1 (kpP n kn ak K a) r b with | some x => some (if w = 0 then nI a else nI x, M) | none => k41 w (nI (VK n ab K)) (nI (CK n kn ak 0 K)) (nI (a + 1)) M)
  | 0, b, m, hb, hm, hab => by
    obtain ⟨m, rfl⟩ : ∃ m2, m = m2 + 1 := ⟨m - 1, by omega⟩
    rw [f_X11_next_L61, hM.1, if_pos ((n_le (by omega) (by omega)).mpr (by omega)), n_s1, fs1]
  | r + 1, b, m, hb, hm, hab => by
    obtain ⟨m, rfl⟩ : ∃ m2, m = m2 + 1 := ⟨m - 1, by omega⟩
    have ih := mo_nx_i hn hQ hM h hs hu ha w (k41 := k41) r (b + 1) m (by omega) (by omega) (by omega)
    have l0 := CK_le (kn := kn) (ak := ak) (md := 0) h
    obtain ⟨x1, f1, e3, hc⟩ := th_two hn hM h hs ha (show b < n by omega) (by omega)
    rw [f_X11_next_L61, hM.1, if_neg (by rw [n_le (by omega) (by omega)]; omega), f1, bd_s, e3, lt_e, fs1]
    unfold f_X11_next_b135
    rw [n_s1]
    rcases hc with ⟨q, e1, e2, z1, z2⟩ | ⟨q, hz⟩
    · have w1 := kk_with h ha (show b < n by omega) (by omega) q
      have w2 := kk_with h (show b < n by omega) ha (by omega) (by rw [unk_sym]; exact q)
      have l1 := CK_le (kn := kn) (ak := ak) (md := 0) w1.2.1
      have l2 := CK_le (kn := kn) (ak := ak) (md := 0) w2.2.1
      have hk := kp_iff h hu hab (show b < n by omega) q
      rw [if_neg z1, if_neg z2, e2, e1, mo_worstOf hn hQ hM FD _ w1.2.1 (sup_wth h hs) (by unfold FD; omega), bd_s, mo_worstOf hn hQ hM FD _ w2.2.1 (sup_wth h hs) (by unfold FD; omega), bd_s]
      simp only [n_le (show CK n kn ak 0 K < 2147483648 by omega) (show CK n kn ak 0 (wth K a b) < 2147483648 by omega), n_le (show CK n kn ak 0 K < 2147483648 by omega) (show CK n kn ak 0 (wth K b a) < 2147483648 by omega)]
      by_cases c1 : CK n kn ak 0 K ≤ CK n kn ak 0 (wth K a b)
      · rw [if_pos c1, if_neg (fun hh => (hk.mp hh).1 c1)]
        exact ih
      · rw [if_neg c1]
        by_cases c2 : CK n kn ak 0 K ≤ CK n kn ak 0 (wth K b a)
        · rw [if_pos c2, if_neg (fun hh => (hk.mp hh).2 c2)]
          exact ih
        · rw [if_neg c2, if_pos (hk.mpr ⟨c1, c2⟩)]
          show _ = some (if w = 0 then nI a else nI b, M)
          by_cases cw : w = 0
          · rw [if_pos cw, if_pos cw]
          · rw [if_neg cw, if_neg cw]
    · have hp : ¬ kpP n kn ak K a b = true := by unfold kpP; rw [show unk K a b = false by simpa using q]; simp
      rw [if_neg hp]
      by_cases z1 : nI x1 = 0
      · rw [if_pos z1]; exact ih
      · rw [if_neg z1, if_pos (hz.resolve_left z1)]; exact ih
theorem mo_nx_o (hn : n ≤ 4) (hQ : okQ n kn ak) (hM : MG n ab kn ak M) {K : Nat} (h : OKK n K) (hs : sup ab K) (hu : ¬ ansN n (rwK K) kn ak ≤ 1) (hpos : 0 < CK n kn ak 0 K) (w : Int32) : ∀ (r a m : Nat), a + r = n → r < m → f_X11_next_L41 m w (nI (VK n ab K)) (nI (CK n kn ak 0 K)) (nI a) M = some ((match fs2 n (kpP n kn ak K) r a with | some x => if w = 0 then nI x.1 else nI x.2 | none => -2), M)
  | 0, a, m, hb, hm => by
    obtain ⟨m, rfl⟩ : ∃ m2, m = m2 + 1 := ⟨m - 1, by omega⟩
    rw [f_X11_next_L41, hM.1, if_pos ((n_le (by omega) (by omega)).mpr (by omega)), fs2]
  | r + 1, a, m, hb, hm => by
    obtain ⟨m, rfl⟩ : ∃ m2, m = m2 + 1 := ⟨m - 1, by omega⟩
    have l0 := CK_le (kn := kn) (ak := ak) (md := 0) h
    rw [f_X11_next_L41, hM.1, if_neg (by rw [n_le (by omega) (by omega)]; omega), if_neg (by rw [show (0 : Int32) = nI 0 from rfl, n_le (by omega) (by omega)]; omega), n_s1, lt_e, mo_nx_i hn hQ hM h hs hu (show a < n by omega) w (n - (a + 1)) (a + 1) FU (by omega) (by unfold FU; omega) (by omega), fs2]
    cases e : fs1 (kpP n kn ak K a) (n - (a + 1)) (a + 1) with
    | some x => rfl
    | none => exact mo_nx_o hn hQ hM h hs hu hpos w r (a + 1) m (by omega) (by omega)
end MSC
