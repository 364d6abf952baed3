/-! orders: the model takes each order in -/
def PermO (n : Nat) (o pos : Nat → Nat) : Prop := (∀ k, k < n → o k < n ∧ pos (o k) = k) ∧ ∀ a, a < n → pos a < n ∧ o (pos a) = a
def orS (o : Nat → Nat) : Nat → Nat
  | 0 => 0
  | k + 1 => orS o k ||| 2 ^ o k
def codeF (n kn ak : Nat) (o : Nat → Nat) : Nat := if kn = 0 then o 0 else if kn = 1 then (if n ≤ 1 then o 0 else 10 * o 0 + o 1) else if kn = 2 then o ak else if kn = 3 then 10 * o 0 + o (n - 1) else if kn = 5 then orS o ak else (if o (n - 1) = ak then 1 else 0)
def okQ (n kn ak : Nat) : Prop := kn ≤ 6 ∧ 1 ≤ n ∧ n ≤ 8 ∧ (kn = 2 → ak < n) ∧ (kn = 5 → ak ≤ n) ∧ ak < 100
theorem orS_lt {o : Nat → Nat} {n : Nat} (h : ∀ k, k < n → o k < n) : ∀ k, k ≤ n → orS o k < 2 ^ n
  | 0, _ => Nat.two_pow_pos n
  | k + 1, hk => or_lt (orS_lt h k (by omega)) (h k (by omega))
theorem tb_orS (o : Nat → Nat) (i : Nat) : ∀ k, (orS o k).testBit i = true ↔ ∃ j, j < k ∧ o j = i
  | 0 => by
    rw [orS, Nat.zero_testBit]
    constructor
    · intro h; cases h
    · rintro ⟨j, h, -⟩; omega
  | k + 1 => by
    rw [orS, tb_or, Bool.or_eq_true, tb_orS o i k, decide_eq_true_eq]
    constructor
    · rintro (⟨j, h1, h2⟩ | h)
      · exact ⟨j, by omega, h2⟩
      · exact ⟨k, by omega, h⟩
    · rintro ⟨j, h1, h2⟩
      by_cases e : j = k
      · subst e; exact Or.inr h2
      · exact Or.inl ⟨j, by omega, h2⟩
theorem codeF_lt {n kn ak : Nat} {o : Nat → Nat} (hQ : okQ n kn ak) (h : ∀ k, k < n → o k < n) : codeF n kn ak o < 256 := by
  obtain ⟨q1, q2, q3, q4, q5, q6⟩ := hQ
  have h0 := h 0 (by omega)
  have hl := h (n - 1) (by omega)
  have h256 := pow_n q3
  unfold codeF
  split
  · omega
  · split
    · split
      · omega
      · have := h 1 (by omega); omega
    · split
      · have := h ak (q4 (by assumption)); omega
      · split
        · omega
        · split
          · have := orS_lt h ak (q5 (by assumption)); omega
          · split <;> omega
section TKS
variable {n : Nat} {o pos : Nat → Nat} {M : Mem}
theorem mo_code_L (hn : n ≤ 8) (ho : ∀ k, k < n → o k < n) (h58 : ∀ k, k < n → M.1 58 k = nI (o k)) {ak : Nat} (hak : ak ≤ n) (ha : M.1 47 29 = nI ak) : ∀ (r k m : Nat), k + r = ak → r < m → f_X11_codeNow_L121 M m (nI (orS o k)) (nI k) = some (nI (orS o ak))
  | 0, k, m, h, hm => by
    obtain ⟨m, rfl⟩ : ∃ m2, m = m2 + 1 := ⟨m - 1, by omega⟩
    have : k = ak := by omega
    subst this
    rw [f_X11_codeNow_L121, ha, if_pos (by rw [i_le]; omega)]
  | r + 1, k, m, h, hm => by
    obtain ⟨m, rfl⟩ : ∃ m2, m = m2 + 1 := ⟨m - 1, by omega⟩
    have := ho k (by omega)
    have ih := mo_code_L hn ho h58 hak ha r (k + 1) m (by omega) (by omega)
    rw [f_X11_codeNow_L121, ha, if_neg (by rw [n_le (by omega) (by omega)]; omega), ck_t (okI_58 (by omega)), lt_e, n_clamp (by omega), h58 k (by omega), n_shl1 _ (by omega), n_or, n_s1]
    exact ih
theorem n_pm {n : Nat} (h : 1 ≤ n) : nI n - 1 = nI (n - 1) := by
  obtain ⟨x, rfl⟩ : ∃ x, n = x + 1 := ⟨n - 1, by omega⟩
  rw [n_p1]; rfl
theorem mo_code {kn ak : Nat} (hQ : okQ n kn ak) (ho : ∀ k, k < n → o k < n) (h6 : M.1 47 6 = nI n) (hk : M.1 47 28 = nI kn) (ha : M.1 47 29 = nI ak) (h58 : ∀ k, k < n → M.1 58 k = nI (o k)) : f_X11_codeNow M = some (nI (codeF n kn ak o)) := by
  obtain ⟨q1, q2, q3, q4, q5, q6⟩ := hQ
  have h0 := ho 0 (by omega)
  have hl := ho (n - 1) (by omega)
  unfold f_X11_codeNow codeF f_X11_codeNow_b148
  have e : ∀ j, j ≤ 6 → (nI kn = nI j) = (kn = j) := fun j hj => propext (n_eq (by omega) (by omega))
  have e0 : (nI kn = 0) = (kn = 0) := e 0 (by omega)
  have e1 : (nI kn = 1) = (kn = 1) := e 1 (by omega)
  have e2 : (nI kn = 2) = (kn = 2) := e 2 (by omega)
  have e3 : (nI kn = 3) = (kn = 3) := e 3 (by omega)
  have e4 : (nI kn = 4) = (kn = 4) := e 4 (by omega)
  have e5 : (nI kn = 5) = (kn = 5) := e 5 (by omega)
  have en : (nI n ≤ 1) = (n ≤ 1) := propext (n_le (b := 1) (by omega) (by omega))
  rw [hk, h6, ha, n_pm q2]
  simp only [e0, e1, e2, e3, e4, e5, en, show (0 : Int32).toNatClampNeg = 0 from rfl, show (1 : Int32).toNatClampNeg = 1 from rfl, n_clamp (show n - 1 < 2147483648 by omega), n_clamp (show ak < 2147483648 by omega), h58 0 (by omega), h58 (n - 1) (by omega), ck_t (show okI 58 0 = true by decide), ck_t (show okI 58 1 = true by decide), ck_t (okI_58 (show n - 1 < 8 by omega)), n_eq (show o (n - 1) < 2147483648 by omega) (show ak < 2147483648 by omega)]
  by_cases c0 : kn = 0
  · rw [if_pos c0, if_pos c0]
  rw [if_neg c0, if_neg c0]
  by_cases c1 : kn = 1
  · rw [if_pos c1, if_pos c1]
    by_cases c : n ≤ 1
    · rw [if_pos c, if_pos c]
    · rw [if_neg c, if_neg c, h58 1 (by omega), show (10 : Int32) = nI 10 from rfl, n_mul, n_add]
  rw [if_neg c1, if_neg c1]
  by_cases c2 : kn = 2
  · have := q4 c2
    rw [if_pos c2, if_pos c2, ck_t (okI_58 (by omega)), h58 ak this]
  rw [if_neg c2, if_neg c2]
  by_cases c3 : kn = 3
  · rw [if_pos c3, if_pos c3, show (10 : Int32) = nI 10 from rfl, n_mul, n_add]
  rw [if_neg c3, if_neg c3]
  have hb : (if o (n - 1) = ak then some (1 : Int32) else some 0) = some (nI (if o (n - 1) = ak then 1 else 0)) := by split <;> rfl
  by_cases c4 : kn = 4
  · rw [if_pos c4, hb, if_neg (show ¬ kn = 5 by omega)]
  rw [if_neg c4]
  by_cases c5 : kn = 5
  · have := q5 c5
    rw [if_pos c5, if_pos c5]
    exact mo_code_L q3 ho h58 this ha ak 0 FU (by omega) (by unfold FU; omega)
  · rw [if_neg c5, if_neg c5, hb]
theorem mo_bt {k37 : Int32 → Mem → Option Mem} (hn : n ≤ 8) (hp : PermO n o pos) {k : Nat} (hk : k < n) {base : Nat → Nat → Nat} : ∀ (r j m : Nat) (M : Mem), j + r = n → k < j → r < m → M.1 47 6 = nI n → (∀ k, k < n → M.1 58 k = nI (o k)) → (∀ a b, a < n → b < n → M.1 61 (8 * a + b) = nI (base a b + (if pos a < pos b ∧ (pos a < k ∨ (pos a = k ∧ pos b < j)) then 1 else 0))) → ∃ M1, f_X11_takesIn_L66 k37 m (nI k) (nI j) M = k37 (nI (k + 1)) M1 ∧ (∀ a b, a < n → b < n → M1.1 61 (8 * a + b) = nI (base a b + (if pos a < pos b ∧ pos a < k + 1 then 1 else 0))) ∧ ∀ c, c ≠ 61 → M1.1 c = M.1 c
  | 0, j, m, M, h, hkj, hm, h6, h58, h61 => by
    obtain ⟨m, rfl⟩ : ∃ m2, m = m2 + 1 := ⟨m - 1, by omega⟩
    rw [f_X11_takesIn_L66, h6, if_pos ((n_le (by omega) (by omega)).mpr (by omega)), n_s1]
    refine ⟨M, rfl, fun a b ha hb => ?_, fun _ _ => rfl⟩
    rw [h61 a b ha hb]
    have := (hp.2 b hb).1
    congr 2
    by_cases q : pos a < pos b ∧ pos a < k + 1
    · rw [if_pos q, if_pos (by omega)]
    · rw [if_neg q, if_neg (by omega)]
  | r + 1, j, m, M, h, hkj, hm, h6, h58, h61 => by
    obtain ⟨m, rfl⟩ : ∃ m2, m = m2 + 1 := ⟨m - 1, by omega⟩
    obtain ⟨a1, a2⟩ := hp.1 k hk
    obtain ⟨b1, b2⟩ := hp.1 j (by omega)
    have ei : (8 : Int32) * nI (o k) + nI (o j) = nI (8 * o k + o j) := by rw [show (8 : Int32) = nI 8 from rfl, n_mul, n_add]
    rw [f_X11_takesIn_L66, h6, if_neg (by rw [n_le (by omega) (by omega)]; omega), ck_t (okI_58 (by omega)), ck_t (okI_58 (by omega)), n_clamp (by omega), n_clamp (by omega), h58 k hk, h58 j (by omega), ei, ck_t (okI_61 (by omega)), ck_t (okI_61 (by omega)), lt_e, n_clamp (by omega), h61 _ _ a1 b1, n_s1, n_s1]
    obtain ⟨M1, f1, c1, d1⟩ := mo_bt (k37 := k37) hn hp hk (base := base) r (j + 1) m (wI M 61 (8 * o k + o j) (nI (base (o k) (o j) + (if pos (o k) < pos (o j) ∧ (pos (o k) < k ∨ (pos (o k) = k ∧ pos (o j) < j)) then 1 else 0) + 1))) (by omega) (by omega) (by omega) (by simp [wI_rd, h6]) (fun k hk => by simp [wI_rd, h58 k hk]) (fun a b ha hb => by
      rw [wI_rd]
      by_cases e : a = o k ∧ b = o j
      · obtain ⟨rfl, rfl⟩ := e
        rw [if_pos ⟨rfl, rfl⟩, a2, b2, if_neg (by omega), if_pos (by omega)]
      · rw [if_neg (by omega), h61 a b ha hb]
        have hne : ¬ (pos a = k ∧ pos b = j) := fun h => e ⟨by rw [← h.1]; exact (hp.2 a ha).2.symm, by rw [← h.2]; exact (hp.2 b hb).2.symm⟩
        congr 2
        by_cases q : pos a < pos b ∧ (pos a < k ∨ (pos a = k ∧ pos b < j))
        · rw [if_pos q, if_pos (by omega)]
        · rw [if_neg q, if_neg (by omega)])
    exact ⟨M1, f1, c1, fun c hc => by rw [d1 c hc]; exact ab_wI_o hc⟩
/-- what stands behind the places and who is better -/
def tkEnd (M : Mem) : Option Mem := (if (M.1 47 28) < 0 then f_X11_takesIn_b161 M else (if (M.1 47 28) = (4 : Int32) then f_X11_takesIn_b161 M else (f_X11_codeNow M).bind fun x1 => ck (okZ 62 x1) ((if (M.1 62 x1.toNatClampNeg) = 0 then f_X11_takesIn_b150 x1 (1 : Int32) (M.1 47 27) M else f_X11_takesIn_b150 x1 (0 : Int32) (M.1 47 27) M))))
theorem mo_tk (hn : n ≤ 8) (hp : PermO n o pos) {base : Nat → Nat → Nat} {pl : Nat → Nat} : ∀ (r k m : Nat) (M : Mem), k + r = n → r < m → M.1 47 6 = nI n → (∀ k, k < n → M.1 58 k = nI (o k)) → (∀ a, a < n → M.1 60 a = nI (pl a ||| (if pos a < k then 2 ^ pos a else 0))) → (∀ a b, a < n → b < n → M.1 61 (8 * a + b) = nI (base a b + (if pos a < pos b ∧ pos a < k then 1 else 0))) → ∃ M1, f_X11_takesIn_L37 m (nI k) M = tkEnd M1 ∧ (∀ a, a < n → M1.1 60 a = nI (pl a ||| 2 ^ pos a)) ∧ (∀ a b, a < n → b < n → M1.1 61 (8 * a + b) = nI (base a b + (if pos a < pos b then 1 else 0))) ∧ ∀ c, c ≠ 60 → c ≠ 61 → M1.1 c = M.1 c
  | 0, k, m, M, h, hm, h6, h58, h60, h61 => by
    obtain ⟨m, rfl⟩ : ∃ m2, m = m2 + 1 := ⟨m - 1, by omega⟩
    rw [f_X11_takesIn_L37, h6, if_pos ((n_le (by omega) (by omega)).mpr (by omega))]
    refine ⟨M, rfl, fun a ha => ?_, fun a b ha hb => ?_, fun _ _ _ => rfl⟩
    · have := (hp.2 a ha).1
      rw [h60 a ha, if_pos (by omega)]
    · have := (hp.2 a ha).1
      rw [h61 a b ha hb]
      congr 2
      by_cases q : pos a < pos b
      · rw [if_pos q, if_pos (by omega)]
      · rw [if_neg q, if_neg (by omega)]
  | r + 1, k, m, M, h, hm, h6, h58, h60, h61 => by
    obtain ⟨m, rfl⟩ : ∃ m2, m = m2 + 1 := ⟨m - 1, by omega⟩
    obtain ⟨a1, a2⟩ := hp.1 k (by omega)
    rw [f_X11_takesIn_L37, h6, if_neg (by rw [n_le (by omega) (by omega)]; omega), ck_t (okI_58 (by omega)), n_clamp (by omega), h58 k (by omega), ck_t (okI_60 (by omega)), ck_t (okI_60 (by omega)), lt_e, lt_e, n_clamp (by omega), h60 _ a1, a2, if_neg (by omega), Nat.or_zero, n_shl1 k (by omega), n_or, n_s1]
    obtain ⟨M2, f2, c2, d2⟩ := mo_bt (k37 := fun a0 a1 => f_X11_takesIn_L37 m a0 a1) hn hp (k := k) (by omega) (base := base) r (k + 1) FU (wI M 60 (o k) (nI (pl (o k) ||| 2 ^ k))) (by omega) (by omega) (by unfold FU; omega) (by simp [wI_rd, h6]) (fun k hk => by simp [wI_rd, h58 k hk]) (fun a b ha hb => by
      rw [wI_rd, if_neg (by omega), h61 a b ha hb]
      congr 2
      by_cases q : pos a < pos b ∧ pos a < k
      · rw [if_pos q, if_pos (by omega)]
      · rw [if_neg q, if_neg (by omega)])
    rw [f2]
    obtain ⟨M3, f3, c3, e3, d3⟩ := mo_tk hn hp (base := base) (pl := pl) r (k + 1) m M2 (by omega) (by omega) (by rw [d2 47 (by omega)]; simp [wI_rd, h6]) (fun k hk => by rw [d2 58 (by omega)]; simp [wI_rd, h58 k hk]) (fun a ha => by
      rw [d2 60 (by omega), wI_rd]
      by_cases e : a = o k
      · subst e
        rw [if_pos ⟨rfl, rfl⟩, a2, if_pos (by omega)]
      · have : pos a ≠ k := fun h => e (by rw [← h]; exact (hp.2 a ha).2.symm)
        rw [if_neg (fun h => e h.2), h60 a ha]
        congr 2
        by_cases q : pos a < k
        · rw [if_pos q, if_pos (by omega)]
        · rw [if_neg q, if_neg (by omega)]) c2
    exact ⟨M3, f3, c3, e3, fun c hc1 hc2 => by rw [d3 c hc1 hc2, d2 c hc2]; exact ab_wI_o hc1⟩
theorem mo_gat (hn : n ≤ 4) (hp : PermO n o pos) {N : Nat} (hN : N < 24) : ∀ (r k m : Nat) (M : Mem), k + r = n → r < m → M.1 47 6 = nI n → M.1 47 22 = nI N → (∀ k, k < n → M.1 58 k = nI (o k)) → (∀ j, j < k → M.1 63 (4 * N + o j) = nI j) → ∃ M1, f_X11_takesIn_L170 m (nI k) M = (if (M1.1 47 28) = (4 : Int32) then f_X11_takesIn_b230 (nI N) (nI N) M1 else (f_X11_codeNow M1).bind fun x1 => f_X11_takesIn_b230 x1 (nI N) M1) ∧ (∀ j, j < n → M1.1 63 (4 * N + o j) = nI j) ∧ (∀ i, i < 4 * N → M1.1 63 i = M.1 63 i) ∧ ∀ c, c ≠ 63 → M1.1 c = M.1 c
  | 0, k, m, M, h, hm, h6, h22, h58, h63 => by
    obtain ⟨m, rfl⟩ : ∃ m2, m = m2 + 1 := ⟨m - 1, by omega⟩
    rw [f_X11_takesIn_L170, h6, if_pos ((n_le (by omega) (by omega)).mpr (by omega)), h22]
    exact ⟨M, rfl, fun j hj => h63 j (by omega), fun _ _ => rfl, fun _ _ => rfl⟩
  | r + 1, k, m, M, h, hm, h6, h22, h58, h63 => by
    obtain ⟨m, rfl⟩ : ∃ m2, m = m2 + 1 := ⟨m - 1, by omega⟩
    obtain ⟨a1, a2⟩ := hp.1 k (by omega)
    have ei : (4 : Int32) * nI N + nI (o k) = nI (4 * N + o k) := by rw [show (4 : Int32) = nI 4 from rfl, n_mul, n_add]
    rw [f_X11_takesIn_L170, h6, if_neg (by rw [n_le (by omega) (by omega)]; omega), ck_t (okI_58 (by omega)), n_clamp (by omega), h58 k (by omega), h22, ei, ck_t (okI_63 (by omega)), lt_e, n_clamp (by omega), n_s1]
    obtain ⟨M1, f1, c1, e1, d1⟩ := mo_gat hn hp hN r (k + 1) m (wI M 63 (4 * N + o k) (nI k)) (by omega) (by omega) (by simp [wI_rd, h6]) (by simp [wI_rd, h22]) (fun k hk => by simp [wI_rd, h58 k hk]) (fun j hj => by
      rw [wI_rd]
      by_cases e : j = k
      · subst e; rw [if_pos ⟨rfl, rfl⟩]
      · have : o j ≠ o k := fun h => by
          have h1 := (hp.1 j (by omega)).2
          rw [h, a2] at h1
          omega
        rw [if_neg (by omega)]
        exact h63 j (by omega))
    exact ⟨M1, f1, c1, fun i hi => by rw [e1 i hi, wI_rd, if_neg (by omega)], fun c hc => by rw [d1 c hc]; exact ab_wI_o hc⟩
theorem mo_first {N : Nat} (hN : N < 2147483648) (hn : n ≤ 8) : ∀ (r k m : Nat) (M : Mem), k + r = n → r < m → M.1 47 6 = nI n → M.1 47 22 = nI N → (∀ k, k < n → M.1 58 k = nI (o k)) → (N = 0 → ∀ j, j < k → M.1 59 j = nI (o j)) → ∃ M1, f_X11_takesIn_L2 m (nI k) M = f_X11_takesIn_L37 FU 0 M1 ∧ (N = 0 → ∀ j, j < n → M1.1 59 j = nI (o j)) ∧ (¬ N = 0 → M1.1 59 = M.1 59) ∧ ∀ c, c ≠ 59 → M1.1 c = M.1 c
  | 0, k, m, M, h, hm, h6, h22, h58, h59 => by
    obtain ⟨m, rfl⟩ : ∃ m2, m = m2 + 1 := ⟨m - 1, by omega⟩
    rw [f_X11_takesIn_L2, h6, if_pos ((n_le (by omega) (by omega)).mpr (by omega))]
    exact ⟨M, rfl, fun q j hj => h59 q j (by omega), fun _ => rfl, fun _ _ => rfl⟩
  | r + 1, k, m, M, h, hm, h6, h22, h58, h59 => by
    obtain ⟨m, rfl⟩ : ∃ m2, m = m2 + 1 := ⟨m - 1, by omega⟩
    rw [f_X11_takesIn_L2, h6, if_neg (by rw [n_le (by omega) (by omega)]; omega), h22]
    have e0 : (nI N = 0) = (N = 0) := propext (n_eq (b := 0) hN (by omega))
    simp only [e0]
    by_cases q : N = 0
    · rw [if_pos q, ck_t (okI_58 (by omega)), ck_t (okI_59 (by omega)), lt_e, n_clamp (by omega), h58 k (by omega), n_s1]
      obtain ⟨M1, f1, c1, e1, d1⟩ := mo_first hN hn r (k + 1) m (wI M 59 k (nI (o k))) (by omega) (by omega) (by simp [wI_rd, h6]) (by simp [wI_rd, h22]) (fun k hk => by simp [wI_rd, h58 k hk]) (fun q j hj => by
        rw [wI_rd]
        by_cases e : j = k
        · subst e; rw [if_pos ⟨rfl, rfl⟩]
        · rw [if_neg (by omega)]; exact h59 q j (by omega))
      exact ⟨M1, f1, c1, fun h => absurd q h, fun c hc => by rw [d1 c hc]; exact ab_wI_o hc⟩
    · rw [if_neg q]
      exact ⟨M, rfl, fun h => absurd h q, fun _ => rfl, fun _ _ => rfl⟩
end TKS
