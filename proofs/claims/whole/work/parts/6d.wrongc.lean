/-! wrong: the class's least prices -/
def mi (g : Nat → Nat) : Nat → Nat → Nat
  | 0, _ => 2147483647
  | k + 1, j => min (g j) (mi g k (j + 1))
theorem mi_congr {g h : Nat → Nat} : ∀ (k m : Nat), (∀ j, m ≤ j → j < m + k → g j = h j) → mi g k m = mi h k m
  | 0, _, _ => rfl
  | k + 1, m, e => by rw [mi, mi, e m (by omega) (by omega), mi_congr k (m + 1) (fun j h1 h2 => e j (by omega) (by omega))]
theorem mi_le {g : Nat → Nat} : ∀ k j i, j ≤ i → i < j + k → mi g k j ≤ g i
  | 0, _, _, _, _ => by omega
  | k + 1, j, i, h1, h2 => by
    rw [mi]
    by_cases e : i = j
    · subst e; omega
    · have := mi_le (g := g) k (j + 1) i (by omega) (by omega); omega
theorem mi_big {g : Nat → Nat} : ∀ k j, mi g k j ≤ 2147483647
  | 0, _ => Nat.le_refl _
  | k + 1, j => by have := mi_big (g := g) k (j + 1); rw [mi]; omega
theorem mi_at {g : Nat → Nat} : ∀ k j, mi g k j = 2147483647 ∨ ∃ i, j ≤ i ∧ i < j + k ∧ mi g k j = g i
  | 0, _ => Or.inl rfl
  | k + 1, j => by
    rw [mi]
    by_cases q : g j ≤ mi g k (j + 1)
    · exact Or.inr ⟨j, by omega, by omega, by omega⟩
    · rcases mi_at (g := g) k (j + 1) with h | ⟨i, h1, h2, h3⟩
      · left; omega
      · exact Or.inr ⟨i, by omega, by omega, by omega⟩
theorem mi_one {g : Nat → Nat} {p x : Nat} : ∀ k j, j ≤ p → p < j + k → mi (fun q => if q = p then min (g q) x else g q) k j = min (mi g k j) x
  | 0, j, _, _ => by omega
  | k + 1, j, h1, h2 => by
    rw [mi, mi]
    by_cases q : j = p
    · have e : mi (fun q => if q = p then min (g q) x else g q) k (j + 1) = mi g k (j + 1) := mi_congr k (j + 1) (fun i h3 _ => by show (if i = p then min (g i) x else g i) = g i; rw [if_neg (by omega)])
      rw [if_pos q, e]; omega
    · rw [if_neg q, mi_one k (j + 1) (by omega) (by omega)]; omega
section WRC
variable (n nm : Nat) (wi lo ct : Nat → Nat)
def prc (q S : Nat) : Nat := su (fun m => if wi m = q ∧ ct m = 1 ∧ S.testBit (lo m) = true then 4096 + 2 ^ m else 0) nm 0
def lsF : Nat → Nat → Nat
  | 0, _ => 0
  | f + 1, T => mi (fun q => if T.testBit q = true then lsF f (T ^^^ 2 ^ q) + prc nm wi lo ct q (T ^^^ 2 ^ q) else 2147483647) n 0
def ls (T : Nat) : Nat := lsF n nm wi lo ct (pop T) T
theorem prc_le (h : nm ≤ 12) (q S : Nat) : prc nm wi lo ct q S ≤ 73728 := by
  have := su_le (g := fun m => if wi m = q ∧ ct m = 1 ∧ S.testBit (lo m) = true then 4096 + 2 ^ m else 0) (b := 6144) nm 0 (fun m _ hm => by
    show (if wi m = q ∧ ct m = 1 ∧ S.testBit (lo m) = true then 4096 + 2 ^ m else 0) ≤ 6144
    have : 2 ^ m ≤ 2 ^ 11 := Nat.pow_le_pow_right (by omega) (by omega)
    split <;> omega)
  unfold prc
  omega
theorem tb_ex0 : ∀ T, T < 256 → ¬ T = 0 → T.testBit (lsb T) = true ∧ lsb T < 8 := by
  intro T hT h0
  obtain ⟨a, b, -⟩ := (lsb_0 T hT).resolve_left h0
  exact ⟨b, a⟩
theorem ls_rec (hn : n ≤ 8) {T : Nat} (hT : T < 2 ^ n) (h0 : T ≠ 0) : ls n nm wi lo ct T = mi (fun q => if T.testBit q = true then ls n nm wi lo ct (T ^^^ 2 ^ q) + prc nm wi lo ct q (T ^^^ 2 ^ q) else 2147483647) n 0 := by
  have h256 := pow_n hn
  obtain ⟨f, hf⟩ : ∃ f, pop T = f + 1 := ⟨pop T - 1, by have := pop_pos0 T (by omega) h0; omega⟩
  unfold ls
  rw [hf, lsF]
  refine mi_congr n 0 (fun q _ hq => ?_)
  by_cases c : T.testBit q = true
  · have := pop_xor0 T (by omega) q (by omega) c
    rw [if_pos c, if_pos c, show pop (T ^^^ 2 ^ q) = f by omega]
  · rw [if_neg c, if_neg c]
theorem ls_0 : ls n nm wi lo ct 0 = 0 := by unfold ls; rw [pop_0]; rfl
theorem ls_le (hn : n ≤ 8) (hm : nm ≤ 12) : ∀ f T, T < 2 ^ n → pop T = f → ls n nm wi lo ct T ≤ f * 73728 := by
  have h256 := pow_n hn
  intro f
  induction f with
  | zero =>
    intro T hT hp
    have : T = 0 := by
      by_cases q : T = 0
      · exact q
      · exact absurd hp (pop_pos0 T (by omega) q)
    rw [this, ls_0]; omega
  | succ f ih =>
    intro T hT hp
    have h0 : T ≠ 0 := fun e => by rw [e, pop_0] at hp; omega
    obtain ⟨h1, h2⟩ := tb_ex0 T (by omega) h0
    have hq : lsb T < n := by
      by_cases q : lsb T < n
      · exact q
      · rw [tb_st8 hT (by omega)] at h1; cases h1
    have h3 := pop_xor0 T (by omega) _ h2 h1
    have h4 := ih (T ^^^ 2 ^ lsb T) (by have := xor_lt h1; omega) (by omega)
    have h5 := prc_le nm wi lo ct hm (lsb T) (T ^^^ 2 ^ lsb T)
    rw [ls_rec n nm wi lo ct hn hT h0]
    have h6 := mi_le (g := fun q => if T.testBit q = true then ls n nm wi lo ct (T ^^^ 2 ^ q) + prc nm wi lo ct q (T ^^^ 2 ^ q) else 2147483647) n 0 (lsb T) (by omega) (by omega)
    simp only [h1, if_true] at h6
    rw [Nat.succ_mul]
    omega
theorem ls_b (hn : n ≤ 8) (hm : nm ≤ 12) {T : Nat} (hT : T < 2 ^ n) : ls n nm wi lo ct T ≤ 600000 := by
  have h256 := pow_n hn
  have h1 := ls_le n nm wi lo ct hn hm (pop T) T hT rfl
  have h2 := pop_lt8 T (by omega)
  have : pop T * 73728 ≤ 8 * 73728 := Nat.mul_le_mul_right _ h2
  omega
def qc (s p T q : Nat) : Prop := T.testBit q = true ∧ (T ^^^ 2 ^ q < s ∨ (T ^^^ 2 ^ q = s ∧ q < p))
def pm (s p T : Nat) : Nat := if T = 0 then 0 else mi (fun q => if T.testBit q = true ∧ (T ^^^ 2 ^ q < s ∨ (T ^^^ 2 ^ q = s ∧ q < p)) then ls n nm wi lo ct (T ^^^ 2 ^ q) + prc nm wi lo ct q (T ^^^ 2 ^ q) else 2147483647) n 0
theorem pm_0 (T : Nat) : pm n nm wi lo ct 0 0 T = if T = 0 then 0 else 2147483647 := by
  unfold pm
  split
  · rfl
  · have e : mi (fun q => if T.testBit q = true ∧ (T ^^^ 2 ^ q < 0 ∨ (T ^^^ 2 ^ q = 0 ∧ q < 0)) then ls n nm wi lo ct (T ^^^ 2 ^ q) + prc nm wi lo ct q (T ^^^ 2 ^ q) else 2147483647) n 0 = mi (fun _ => 2147483647) n 0 := mi_congr n 0 (fun q _ _ => by
      show (if T.testBit q = true ∧ (T ^^^ 2 ^ q < 0 ∨ (T ^^^ 2 ^ q = 0 ∧ q < 0)) then _ else 2147483647) = 2147483647
      rw [if_neg (by omega)])
    rw [e]
    rcases mi_at (g := fun _ => 2147483647) n 0 with h | ⟨i, -, -, h⟩ <;> exact h
theorem pm_fin (hn : n ≤ 8) {T s p : Nat} (hT : T < 2 ^ n) (h : T ≤ s) : pm n nm wi lo ct s p T = ls n nm wi lo ct T := by
  unfold pm
  by_cases q : T = 0
  · rw [if_pos q, q, ls_0]
  · rw [if_neg q, ls_rec n nm wi lo ct hn hT q]
    refine mi_congr n 0 (fun i _ _ => ?_)
    by_cases e : T.testBit i = true
    · have := xor_lt e
      rw [if_pos ⟨e, Or.inl (by omega)⟩, if_pos e]
    · rw [if_neg (fun h => e h.1), if_neg e]
theorem pm_next (s T : Nat) : pm n nm wi lo ct s n T = pm n nm wi lo ct (s + 1) 0 T := by
  unfold pm
  split
  · rfl
  · refine mi_congr n 0 (fun i _ hi => ?_)
    by_cases c : T.testBit i = true ∧ (T ^^^ 2 ^ i < s ∨ (T ^^^ 2 ^ i = s ∧ i < n))
    · rw [if_pos c, if_pos ⟨c.1, by omega⟩]
    · rw [if_neg c, if_neg (fun h => c ⟨h.1, by omega⟩)]
theorem pm_step (hn : n ≤ 8) (hm : nm ≤ 12) {s p : Nat} (hs : s < 2 ^ n) (hp : p < n) (T : Nat) : pm n nm wi lo ct s (p + 1) T = if s.testBit p = false ∧ s ||| 2 ^ p = T then min (pm n nm wi lo ct s p T) (ls n nm wi lo ct s + prc nm wi lo ct p s) else pm n nm wi lo ct s p T := by
  have hfl : (s.testBit p = false ∧ s ||| 2 ^ p = T) ↔ (T.testBit p = true ∧ s = T ^^^ 2 ^ p) := by
    have := fl_or (ab := fun _ => 0) (S := s) (p := p) (T := T)
    rw [Bool.eq_iff_iff] at this
    have e1 : ∀ S, fl (fun _ => 0) S p = !S.testBit p := fun S => by simp [fl]
    simp only [Bool.and_eq_true, decide_eq_true_eq, e1, Bool.not_eq_true'] at this
    constructor
    · intro h
      obtain ⟨⟨a, -⟩, c⟩ := this.mp h
      exact ⟨a, c⟩
    · rintro ⟨a, c⟩
      refine this.mpr ⟨⟨a, ?_⟩, c⟩
      rw [Nat.testBit_xor, a, Nat.testBit_two_pow_self]; rfl
  unfold pm
  by_cases h0 : T = 0
  · have : ¬ (s.testBit p = false ∧ s ||| 2 ^ p = T) := fun h => by
      have h1 := (hfl.mp h).1
      rw [h0, Nat.zero_testBit] at h1
      cases h1
    rw [if_pos h0, if_neg this, if_pos h0]
  · rw [if_neg h0, if_neg h0]
    have hb := ls_b n nm wi lo ct hn hm hs
    have hpb := prc_le nm wi lo ct hm p s
    by_cases c : s.testBit p = false ∧ s ||| 2 ^ p = T
    · obtain ⟨c1, c2⟩ := hfl.mp c
      rw [if_pos c, ← mi_one (p := p) n 0 (by omega) (by omega)]
      refine mi_congr n 0 (fun q _ _ => ?_)
      by_cases e : q = p
      · subst e
        rw [if_pos rfl, if_pos ⟨c1, Or.inr ⟨c2.symm, by omega⟩⟩, if_neg (fun h => by omega), ← c2]
        omega
      · rw [if_neg e]
        by_cases c3 : T.testBit q = true ∧ (T ^^^ 2 ^ q < s ∨ (T ^^^ 2 ^ q = s ∧ q < p))
        · rw [if_pos c3, if_pos ⟨c3.1, by omega⟩]
        · rw [if_neg c3, if_neg (fun h => c3 ⟨h.1, by omega⟩)]
    · rw [if_neg c]
      refine mi_congr n 0 (fun q _ _ => ?_)
      by_cases c3 : T.testBit q = true ∧ (T ^^^ 2 ^ q < s ∨ (T ^^^ 2 ^ q = s ∧ q < p))
      · rw [if_pos c3, if_pos ⟨c3.1, by omega⟩]
      · rw [if_neg c3, if_neg]
        rintro ⟨h1, h2⟩
        apply c3
        refine ⟨h1, ?_⟩
        rcases h2 with h2 | ⟨h2, h3⟩
        · exact Or.inl h2
        · by_cases e : q = p
          · subst e; exact absurd (hfl.mpr ⟨h1, h2.symm⟩) c
          · exact Or.inr ⟨h2, by omega⟩
end WRC
section WRD
variable {np nm : Nat} {wo wi lo ct : Nat → Nat} {M : Mem}
theorem cl_price_L (hO : OKF np nm wo wi lo ct) (hC : CF np nm wo wi lo ct M) {q S : Nat} (hq : q < 8) (hS : S < 256) : ∀ (r k m acc : Nat), k + r = nm → r < m → f_X0_priceBehind_L6 M m (nI q) (nI S) (nI acc) (nI k) = some (nI (acc + su (fun m => if wi m = q ∧ ct m = 1 ∧ S.testBit (lo m) = true then 4096 + 2 ^ m else 0) r k))
  | 0, k, m, acc, h, hm => by
    have h12 := hO.2.1
    obtain ⟨m, rfl⟩ : ∃ m2, m = m2 + 1 := ⟨m - 1, by omega⟩
    rw [f_X0_priceBehind_L6, hC.2.1, if_pos ((n_le (by omega) (by omega)).mpr (by omega))]
    rfl
  | r + 1, k, m, acc, h, hm => by
    have h12 := hO.2.1
    have h8 := hO.1
    obtain ⟨m, rfl⟩ : ∃ m2, m = m2 + 1 := ⟨m - 1, by omega⟩
    obtain ⟨a1, a2, a3⟩ := hC.2.2.2 k (by omega)
    obtain ⟨b1, b2, b3, b4⟩ := hO.2.2.2 k (by omega)
    have e1 : (nI (ct k) = 1) = (ct k = 1) := propext (n_eq (b := 1) (by omega) (by omega))
    rw [f_X0_priceBehind_L6, hC.2.1, if_neg (by rw [n_le (by omega) (by omega)]; omega), ck_t (okI_3 (by omega)), ck_t (okI_5 (by omega)), ck_t (okI_4 (by omega)), n_clamp (by omega), a1, a2, a3, n_b1 (by omega) (by omega), n_shl1 k (by omega), show (4096 : Int32) = nI 4096 from rfl, n_add, n_add, lt_e, su]
    simp only [e1, bb_1, n_eq (show wi k < 2147483648 by omega) (show q < 2147483648 by omega)]
    unfold f_X0_priceBehind_b65
    rw [n_s1]
    have skip : ¬ (wi k = q ∧ ct k = 1 ∧ S.testBit (lo k) = true) → f_X0_priceBehind_L6 M m (nI q) (nI S) (nI acc) (nI (k + 1)) = some (nI (acc + ((if wi k = q ∧ ct k = 1 ∧ S.testBit (lo k) = true then 4096 + 2 ^ k else 0) + su (fun m => if wi m = q ∧ ct m = 1 ∧ S.testBit (lo m) = true then 4096 + 2 ^ m else 0) r (k + 1)))) := fun c => by
      rw [if_neg c, Nat.zero_add]
      exact cl_price_L hO hC hq hS r (k + 1) m acc (by omega) (by omega)
    by_cases c1 : wi k = q
    · rw [if_pos c1]
      by_cases c2 : ct k = 1
      · rw [if_pos c2]
        by_cases c3 : S.testBit (lo k) = true
        · rw [if_pos c3, if_pos ⟨c1, c2, c3⟩]
          exact (cl_price_L hO hC hq hS r (k + 1) m (acc + (4096 + 2 ^ k)) (by omega) (by omega)).trans (by rw [Nat.add_assoc])
        · rw [if_neg c3]; exact skip (fun h => c3 h.2.2)
      · rw [if_neg c2]; exact skip (fun h => c2 h.2.1)
    · rw [if_neg c1]; exact skip (fun h => c1 h.1)
theorem cl_price (hO : OKF np nm wo wi lo ct) (hC : CF np nm wo wi lo ct M) {q S : Nat} (hq : q < 8) (hS : S < 256) : f_X0_priceBehind (nI q) (nI S) M = some (nI (prc nm wi lo ct q S)) := by
  have h12 := hO.2.1
  have := cl_price_L hO hC hq hS nm 0 FU 0 (by omega) (by unfold FU; omega)
  rw [Nat.zero_add] at this
  exact this
theorem n_minN {a b : Nat} (ha : a < 2147483648) (hb : b < 2147483648) : ab_min (nI a) (nI b) = nI (min a b) := n_min ha hb
theorem CF.w21 {k : Nat} {v : Int32} (hC : CF np nm wo wi lo ct M) : CF np nm wo wi lo ct (wI M 21 k v) := ⟨by simp [wI_rd, hC.1], by simp [wI_rd, hC.2.1], fun p hp => by simp [wI_rd, hC.2.2.1 p hp], fun p hp => by simp [wI_rd, hC.2.2.2 p hp]⟩
theorem pm_big (s p T : Nat) : pm np nm wi lo ct s p T ≤ 2147483647 := by
  unfold pm
  split
  · omega
  · exact mi_big _ _
theorem cl_wr_i {k31 : Int32 → Int32 → Mem → Option (Int32 × Mem)} (hO : OKF np nm wo wi lo ct) {s : Nat} (hs : s < 2 ^ np) (v2 : Int32) : ∀ (r p m : Nat) (M : Mem), p + r = np → r < m → CF np nm wo wi lo ct M → (∀ T, T < 2 ^ np → M.1 21 T = nI (pm np nm wi lo ct s p T)) → ∃ M1, f_X0_fewestFalse_L39 k31 m v2 (nI s) (nI p) M = k31 v2 (nI (s + 1)) M1 ∧ CF np nm wo wi lo ct M1 ∧ ∀ T, T < 2 ^ np → M1.1 21 T = nI (pm np nm wi lo ct (s + 1) 0 T)
  | 0, p, m, M, h, hm, hC, hT => by
    have h8 := hO.1
    obtain ⟨m, rfl⟩ : ∃ m2, m = m2 + 1 := ⟨m - 1, by omega⟩
    rw [f_X0_fewestFalse_L39, hC.1, if_pos ((n_le (by omega) (by omega)).mpr (by omega)), n_s1]
    have e : p = np := by omega
    exact ⟨M, rfl, hC, fun T h2 => by rw [hT T h2, e, pm_next]⟩
  | r + 1, p, m, M, h, hm, hC, hT => by
    have h8 := hO.1
    have h12 := hO.2.1
    have h256 := pow_n h8
    obtain ⟨m, rfl⟩ : ∃ m2, m = m2 + 1 := ⟨m - 1, by omega⟩
    have hlt : s ||| 2 ^ p < 2 ^ np := or_lt hs (by omega)
    have hls := ls_b np nm wi lo ct h8 h12 hs
    have hpr := prc_le nm wi lo ct h12 p s
    have hbg := pm_big (np := np) (nm := nm) (wi := wi) (lo := lo) (ct := ct) s p (s ||| 2 ^ p)
    rw [f_X0_fewestFalse_L39, hC.1, if_neg (by rw [n_le (by omega) (by omega)]; omega), n_b1 (by omega) (by omega), n_shl1 p (by omega), n_or, lt_e, ck_t (okI_21 (by omega)), ck_t (okI_21 (by omega)), cl_price hO hC (by omega) (by omega), bd_s, ck_t (okI_21 (by omega)), lt_e, n_clamp (by omega), n_clamp (by omega), hT _ hlt, hT s hs, pm_fin np nm wi lo ct h8 hs (Nat.le_refl _), n_add, n_min (by omega) (by omega)]
    simp only [bb_0]
    unfold f_X0_fewestFalse_b97
    rw [n_s1]
    by_cases q : s.testBit p = false
    · rw [if_pos q]
      refine cl_wr_i hO hs v2 r (p + 1) m _ (by omega) (by omega) hC.w21 (fun T h2 => ?_)
      rw [wI_rd, pm_step np nm wi lo ct h8 h12 hs (by omega)]
      by_cases e : T = s ||| 2 ^ p
      · rw [if_pos ⟨rfl, e⟩, if_pos ⟨q, e.symm⟩, e]
      · rw [if_neg (fun h => e h.2), if_neg (fun h => e h.2.symm), hT T h2]
    · rw [if_neg q]
      refine cl_wr_i hO hs v2 r (p + 1) m M (by omega) (by omega) hC (fun T h2 => ?_)
      rw [pm_step np nm wi lo ct h8 h12 hs (by omega), if_neg (fun h => q h.1), hT T h2]
theorem cl_wr_o (hO : OKF np nm wo wi lo ct) : ∀ (r s m : Nat) (M : Mem), s + r = 2 ^ np - 1 → r < m → CF np nm wo wi lo ct M → (∀ T, T < 2 ^ np → M.1 21 T = nI (pm np nm wi lo ct s 0 T)) → ∃ M1, f_X0_fewestFalse_L31 m (nI (2 ^ np - 1)) (nI s) M = some (nI (ls np nm wi lo ct (2 ^ np - 1)) &&& 4095, M1)
  | 0, s, m, M, h, hm, hC, hT => by
    have h8 := hO.1
    have h256 := pow_n h8
    have hp := Nat.two_pow_pos np
    obtain ⟨m, rfl⟩ : ∃ m2, m = m2 + 1 := ⟨m - 1, by omega⟩
    rw [f_X0_fewestFalse_L31, if_pos ((n_le (by omega) (by omega)).mpr (by omega)), ck_t (okI_21 (by omega)), n_clamp (by omega), hT _ (by omega), pm_fin np nm wi lo ct h8 (by omega) (by omega)]
    exact ⟨M, rfl⟩
  | r + 1, s, m, M, h, hm, hC, hT => by
    have h8 := hO.1
    have h256 := pow_n h8
    have hp := Nat.two_pow_pos np
    obtain ⟨m, rfl⟩ : ∃ m2, m = m2 + 1 := ⟨m - 1, by omega⟩
    rw [f_X0_fewestFalse_L31, if_neg (by rw [n_le (by omega) (by omega)]; omega)]
    obtain ⟨M1, f1, c1, t1⟩ := cl_wr_i (k31 := fun a0 a1 a2 => f_X0_fewestFalse_L31 m a0 a1 a2) hO (s := s) (by omega) (nI (2 ^ np - 1)) np 0 FU M (by omega) (by unfold FU; omega) hC hT
    have f1' : f_X0_fewestFalse_L39 (fun a0 a1 a2 => f_X0_fewestFalse_L31 m a0 a1 a2) FU (nI (2 ^ np - 1)) (nI s) 0 M = _ := f1
    rw [f1']
    exact cl_wr_o hO r (s + 1) m M1 (by omega) (by omega) c1 t1
theorem cl_wrong0 (hO : OKF np nm wo wi lo ct) (hC : CF np nm wo wi lo ct M) : ∃ M1, f_X10_wrong M = some (nI (ls np nm wi lo ct (2 ^ np - 1)) &&& 4095, M1) := by
  have h8 := hO.1
  have h256 := pow_n h8
  have hp := Nat.two_pow_pos np
  unfold f_X10_wrong f_X0_fewestFalse
  have e1 : nI (2 ^ np - 1) + 1 = nI (2 ^ np) := by rw [n_s1, Nat.sub_add_cancel (by omega)]
  have hf := s_fillI (M := M) (c := 21) (lo := 0) (hi := 2 ^ np) (v := 2147483647) rfl (show 2 ^ np ≤ 256 from h256) (by decide) (by omega)
  have hf' : f_J7_fill_fda19 21 0 (nI (2 ^ np)) 2147483647 M = _ := hf
  rw [hC.1, pow_I h8, lt_e, e1, hf', bd_s, ck_t (by decide), lt_e]
  obtain ⟨M1, f1⟩ := cl_wr_o hO (2 ^ np - 1) 0 FU (wI (fiI M 21 0 (2 ^ np) 2147483647) 21 (0 : Int32).toNatClampNeg 0) (by omega) (by unfold FU; omega) ⟨by simp [wI_rd, fiI_rd, hC.1], by simp [wI_rd, fiI_rd, hC.2.1], fun p hp => by simp [wI_rd, fiI_rd, hC.2.2.1 p hp], fun p hp => by simp [wI_rd, fiI_rd, hC.2.2.2 p hp]⟩ (fun T h2 => by
    rw [wI_rd, fiI_rd, pm_0, show (0 : Int32).toNatClampNeg = 0 from rfl]
    by_cases q : T = 0
    · rw [if_pos ⟨rfl, q⟩, if_pos q]; rfl
    · rw [if_neg (fun h => q h.2), if_pos ⟨rfl, by omega, h2⟩, if_neg q]; rfl)
  have f1' : f_X0_fewestFalse_L31 FU (nI (2 ^ np - 1)) 0 (wI (fiI M 21 0 (2 ^ np) 2147483647) 21 (0 : Int32).toNatClampNeg 0) = _ := f1
  rw [f1', bI_s]
  exact ⟨M1, rfl⟩
end WRD
