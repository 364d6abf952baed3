/-! bits; the first rows (bt, b_..) are the kit's starting text BITS.to-paste -/
def bt (x : Int32) (i : Nat) : Bool := x.toBitVec.getLsbD i
theorem b_ext {x y : Int32} (h : ∀ i, i < 32 → bt x i = bt y i) : x = y := Int32.toBitVec_inj.mp (BitVec.eq_of_getLsbD_eq (fun i hi => h i hi))
theorem b_or (x y : Int32) (i : Nat) : bt (x ||| y) i = (bt x i || bt y i) := by unfold bt; rw [Int32.toBitVec_or, BitVec.getLsbD_or]
theorem b_and (x y : Int32) (i : Nat) : bt (x &&& y) i = (bt x i && bt y i) := by unfold bt; rw [Int32.toBitVec_and, BitVec.getLsbD_and]
theorem b_xor (x y : Int32) (i : Nat) : bt (x ^^^ y) i = (bt x i ^^ bt y i) := by unfold bt; rw [Int32.toBitVec_xor, BitVec.getLsbD_xor]
theorem b_big {x : Int32} {i : Nat} (h : 32 ≤ i) : bt x i = false := BitVec.getLsbD_of_ge _ _ h
theorem b_m1 : ∀ i, i < 32 → bt (-1) i = true := by decide +kernel
theorem b_0 (i : Nat) : bt 0 i = false := BitVec.getLsbD_zero
theorem s_l : ∀ n, n < 32 → ((nI n &&& 31).toBitVec.smod 32).toNat = n := by decide +kernel
theorem s_u : ∀ n, n < 32 → (((nI n).toUInt32 &&& Int32.toUInt32 31).toBitVec % 32).toNat = n := by decide +kernel
theorem b_shl (n : Nat) (hn : n < 32) (x : Int32) {i : Nat} (hi : i < 32) : bt (x <<< (nI n &&& 31)) i = (decide (n ≤ i) && bt x (i - n)) := by
  unfold bt
  rw [Int32.toBitVec_shiftLeft]
  show (x.toBitVec <<< ((nI n &&& 31).toBitVec.smod 32).toNat).getLsbD i = _
  rw [s_l n hn, BitVec.getLsbD_shiftLeft]
  rcases Nat.lt_or_ge i n with h | h
  · simp [h, Nat.not_le.mpr h]
  · simp [hi, h, Nat.not_lt.mpr h]
theorem b_ushr (n : Nat) (hn : n < 32) (x : Int32) (i : Nat) : bt ((x.toUInt32 >>> ((nI n).toUInt32 &&& Int32.toUInt32 31)).toInt32) i = bt x (n + i) := by
  show (x.toUInt32 >>> ((nI n).toUInt32 &&& Int32.toUInt32 31)).toBitVec.getLsbD i = x.toUInt32.toBitVec.getLsbD (n + i)
  rw [UInt32.toBitVec_shiftRight]
  show (x.toUInt32.toBitVec >>> (((nI n).toUInt32 &&& Int32.toUInt32 31).toBitVec % 32).toNat).getLsbD i = _
  rw [s_u n hn, BitVec.getLsbD_ushiftRight]
theorem b_sshr (n : Nat) (hn : n < 32) (x : Int32) {i : Nat} (hi : i < 32) : bt (x >>> (nI n &&& 31)) i = if n + i < 32 then bt x (n + i) else bt x 31 := by
  unfold bt
  rw [Int32.toBitVec_shiftRight]
  show (x.toBitVec.sshiftRight ((nI n &&& 31).toBitVec.smod 32).toNat).getLsbD i = _
  rw [s_l n hn, BitVec.getLsbD_sshiftRight, BitVec.msb_eq_getLsbD_last]
  simp [hi]
theorem bt_n {k i : Nat} (hi : i < 32) : bt (nI k) i = k.testBit i := by
  show (BitVec.ofNat 32 k).getLsbD i = _
  rw [BitVec.getLsbD_ofNat]
  simp [hi]
theorem n_or (a b : Nat) : nI a ||| nI b = nI (a ||| b) := b_ext fun i hi => by rw [b_or, bt_n hi, bt_n hi, bt_n hi, Nat.testBit_or]
theorem n_and (a b : Nat) : nI a &&& nI b = nI (a &&& b) := b_ext fun i hi => by rw [b_and, bt_n hi, bt_n hi, bt_n hi, Nat.testBit_and]
theorem n_xor (a b : Nat) : nI a ^^^ nI b = nI (a ^^^ b) := b_ext fun i hi => by rw [b_xor, bt_n hi, bt_n hi, bt_n hi, Nat.testBit_xor]
theorem n_shl1 : ∀ p, p < 31 → ab_shl 1 (nI p) = nI (2 ^ p) := by decide +kernel
theorem tb_big {k i : Nat} (h : k < 2147483648) (hi : 31 ≤ i) : k.testBit i = false := Nat.testBit_lt_two_pow (Nat.lt_of_lt_of_le h (show 2 ^ 31 ≤ 2 ^ i from Nat.pow_le_pow_right (by omega) hi))
theorem n_shr {S p : Nat} (hS : S < 2147483648) (hp : p < 31) : ab_shr (nI S) (nI p) = nI (S >>> p) := b_ext fun i hi => by
  unfold ab_shr
  rw [b_sshr p (by omega) _ hi, bt_n hi, Nat.testBit_shiftRight]
  by_cases q : p + i < 32
  · rw [if_pos q, bt_n q]
  · rw [if_neg q, bt_n (by omega), tb_big hS (by omega), tb_big hS (by omega)]
theorem n_b1 {S p : Nat} (hS : S < 2147483648) (hp : p < 31) : ab_shr (nI S) (nI p) &&& 1 = bb (S.testBit p) := by
  rw [n_shr hS hp, show (1 : Int32) = nI 1 from rfl, n_and]
  have e : (S >>> p) &&& 1 = (S.testBit p).toNat := by
    rw [Nat.and_one_is_mod, Nat.shiftRight_eq_div_pow, Nat.testBit_eq_decide_div_mod_eq]
    by_cases q : S / 2 ^ p % 2 = 1
    · simp [q]
    · have : S / 2 ^ p % 2 = 0 := by omega
      simp [this]
  rw [e]
  cases S.testBit p <;> rfl
theorem bb_1 (b : Bool) : (bb b = 1) = (b = true) := by cases b <;> simp [bb]
theorem n_sub0 {a S : Nat} (ha : a < 2147483648) : (nI a &&& (nI S ^^^ (-1)) = 0) = (a &&& S = a) := by
  apply propext
  rw [land_sub]
  constructor
  · intro h i hi
    by_cases q : i < 31
    · have := congrArg (fun x => bt x i) h
      simp only [b_and, b_xor, bt_n (show i < 32 by omega), b_m1 i (by omega), b_0, hi, Bool.true_and] at this
      cases e : S.testBit i
      · rw [e] at this; simp at this
      · rfl
    · rw [tb_big ha (by omega)] at hi; cases hi
  · intro h
    refine b_ext fun i hi => ?_
    rw [b_and, b_xor, bt_n hi, bt_n hi, b_m1 i hi, b_0]
    cases e : a.testBit i
    · rfl
    · rw [h i e]; rfl
theorem n_diff (a S : Nat) (ha : a < 2147483648) : nI a &&& (nI S ^^^ (-1)) = nI (a ^^^ (a &&& S)) := b_ext fun i hi => by
  rw [b_and, b_xor, bt_n hi, bt_n hi, b_m1 i hi, bt_n hi, Nat.testBit_xor, Nat.testBit_and]
  cases a.testBit i <;> cases S.testBit i <;> rfl
def popF : Nat → Nat → Nat
  | 0, _ => 0
  | f + 1, k => k % 2 + popF f (k / 2)
def pop (k : Nat) : Nat := popF 31 k
theorem popF_le : ∀ f k, popF f k ≤ f
  | 0, _ => Nat.le_refl _
  | f + 1, k => by
    have := popF_le f (k / 2)
    rw [popF]; omega
theorem pop_low : ∀ (f k : Nat), 0 < k → k < 2 ^ f → popF f (k &&& (k - 1)) + 1 = popF f k
  | 0, k, h, h2 => by simp at h2; omega
  | f + 1, k, h, h2 => by
    rw [popF, popF, Nat.and_div_two]
    have h3 : 2 ^ (f + 1) = 2 * 2 ^ f := by rw [Nat.pow_succ]; omega
    by_cases q : k % 2 = 1
    · have e1 : (k &&& (k - 1)) % 2 = 0 := by
        have := Nat.and_mod_two_eq_one (a := k) (b := k - 1)
        have : ¬ (k &&& (k - 1)) % 2 = 1 := fun h => by have := this.mp h; omega
        omega
      have e2 : k / 2 &&& (k - 1) / 2 = k / 2 := by
        have : (k - 1) / 2 = k / 2 := by omega
        rw [this, Nat.and_self]
      rw [e1, e2, q]; omega
    · have e1 : (k &&& (k - 1)) % 2 = 0 := by
        have := Nat.and_mod_two_eq_one (a := k) (b := k - 1)
        have : ¬ (k &&& (k - 1)) % 2 = 1 := fun h => by have := this.mp h; omega
        omega
      have e2 : (k - 1) / 2 = k / 2 - 1 := by omega
      have ih := pop_low f (k / 2) (by omega) (by omega)
      rw [e1, e2]; omega
theorem pop_0 : pop 0 = 0 := by decide
theorem pop_l {k : Nat} (h : 0 < k) (hk : k < 2147483648) : pop (k &&& (k - 1)) + 1 = pop k := pop_low 31 k h (Nat.lt_of_lt_of_eq hk (by decide))
theorem pop_le (k : Nat) : pop k ≤ 31 := popF_le 31 k
theorem mo_bits_L : ∀ (d k m acc : Nat), k < 2147483648 → pop k = d → d < m → f_X11_bitsOf_L4 m (nI acc) (nI k) = some (nI (acc + d)) := by
  intro d
  induction d with
  | zero =>
    intro k m acc hk hd hm
    obtain ⟨m, rfl⟩ : ∃ m2, m = m2 + 1 := ⟨m - 1, by omega⟩
    have h0 : k = 0 := by
      by_cases q : k = 0
      · exact q
      · have := pop_l (k := k) (by omega) hk
        omega
    rw [h0, f_X11_bitsOf_L4, if_pos (show nI 0 = 0 from rfl), Nat.add_zero]
  | succ d ih =>
    intro k m acc hk hd hm
    obtain ⟨m, rfl⟩ : ∃ m2, m = m2 + 1 := ⟨m - 1, by omega⟩
    have hk0 : k ≠ 0 := fun q => by rw [q, pop_0] at hd; omega
    have hl := pop_l (k := k) (by omega) hk
    have hle : k &&& (k - 1) ≤ k := Nat.and_le_left
    obtain ⟨j, rfl⟩ : ∃ j, k = j + 1 := ⟨k - 1, by omega⟩
    rw [Nat.add_sub_cancel] at hl hle
    rw [f_X11_bitsOf_L4, if_neg (show ¬ nI (j + 1) = 0 from fun q => hk0 ((n_eq (b := 0) hk (by omega)).mp q)), n_p1, n_and, lt_e, n_s1, ih ((j + 1) &&& j) m (acc + 1) (by omega) (by omega) (by omega), Nat.add_assoc, Nat.add_comm 1 d]
theorem mo_bits {k : Nat} (hk : k < 2147483648) : f_X11_bitsOf (nI k) = some (nI (pop k)) := by
  have h1 := pop_le k
  have := mo_bits_L (pop k) k FU 0 hk rfl (by unfold FU; omega)
  rw [Nat.zero_add] at this
  exact this
theorem cl_bits0 : ∀ a, a < 64 → ∀ b, b < 64 → f_J6_bitCount_0f7a4 (nI (64 * a + b)) = some (nI (pop (64 * a + b))) := by decide +kernel
theorem cl_bits {k : Nat} (hk : k < 4096) : f_J6_bitCount_0f7a4 (nI k) = some (nI (pop k)) := by
  have := cl_bits0 (k / 64) (by omega) (k % 64) (by omega)
  rw [Nat.div_add_mod] at this
  exact this
theorem tb_st8 {S : Nat} {n : Nat} (h : S < 2 ^ n) {i : Nat} (hi : n ≤ i) : S.testBit i = false := Nat.testBit_lt_two_pow (Nat.lt_of_lt_of_le h (Nat.pow_le_pow_right (by omega) hi))
theorem or_lt {S n p : Nat} (h : S < 2 ^ n) (hp : p < n) : S ||| 2 ^ p < 2 ^ n := Nat.or_lt_two_pow h (Nat.pow_lt_pow_right (by omega) hp)
