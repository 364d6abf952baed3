/-! cups by chances: the class weighs -/
def rv (r i : Nat) : Nat := ((i >>> r) ^^^ 1) <<< r
def rvS (c : Nat → Nat → Nat → Nat) (S T : Nat → Nat) (r i : Nat) : Nat → Nat → Nat
  | 0, _ => 0
  | k + 1, j => T j * c r (S i) (S j) + rvS c S T r i k (j + 1)
def th (c : Nat → Nat → Nat → Nat) (S : Nat → Nat) : Nat → Nat → Nat
  | 0, _ => 1
  | r + 1, i => th c S r i * rvS c S (th c S r) r i (2 ^ r) (rv r i)
def rdn (n : Nat) : Nat := if n = 8 then 3 else 2
theorem rv_I : ∀ r, r < 3 → ∀ i, i < 8 → ab_shl ((ab_shr (nI i) (nI r)) ^^^ 1) (nI r) = nI (rv r i) ∧ ab_shl 1 (nI r) = nI (2 ^ r) := by decide +kernel
theorem rv_ok0 : ∀ r, r < 3 → ∀ i, i < 8 → rv r i + 2 ^ r ≤ 8 ∧ (¬ (r < 2 ∧ i < 4) ∨ rv r i + 2 ^ r ≤ 4) ∧ ¬ (rv r i ≤ i ∧ i < rv r i + 2 ^ r) := by decide +kernel
theorem rv_ok (r : Nat) (hr : r < 3) (i : Nat) (hi : i < 8) : rv r i + 2 ^ r ≤ 8 ∧ (r < 2 → i < 4 → rv r i + 2 ^ r ≤ 4) ∧ ∀ j, j < 8 → rv r i ≤ j → j < rv r i + 2 ^ r → j ≠ i := by
  obtain ⟨a, b, c⟩ := rv_ok0 r hr i hi
  exact ⟨a, fun h1 h2 => b.resolve_left (fun h => h ⟨h1, h2⟩), fun j _ h1 h2 q => c (by subst q; exact ⟨h1, h2⟩)⟩
def cN (lw : LwO) (wo : Nat → Nat) (r a b : Nat) : Nat := chN lw wo (nI r) a b
theorem rvS_le {c : Nat → Nat → Nat → Nat} (hc : ∀ r a b, c r a b ≤ 100) {S T : Nat → Nat} {B : Nat} (hT : ∀ j, T j ≤ B) (r i : Nat) : ∀ k j, rvS c S T r i k j ≤ k * (B * 100)
  | 0, _ => by simp [rvS]
  | k + 1, j => by
    have h1 := rvS_le hc hT r i k (j + 1) (S := S)
    have h2 : T j * c r (S i) (S j) ≤ B * 100 := Nat.mul_le_mul (hT j) (hc _ _ _)
    rw [rvS, Nat.succ_mul]
    omega
theorem th_le {c : Nat → Nat → Nat → Nat} (hc : ∀ r a b, c r a b ≤ 100) (S : Nat → Nat) : (∀ i, th c S 1 i ≤ 100) ∧ (∀ i, th c S 2 i ≤ 2000000) ∧ (∀ i, th c S 3 i ≤ 1600000000000000) := by
  have h1 : ∀ i, th c S 1 i ≤ 100 := fun i => by
    have := rvS_le hc (S := S) (T := th c S 0) (B := 1) (fun j => Nat.le_refl _) 0 i (2 ^ 0) (rv 0 i)
    rw [th]
    have e : th c S 0 i = 1 := rfl
    rw [e, Nat.one_mul]
    omega
  have h2 : ∀ i, th c S 2 i ≤ 2000000 := fun i => by
    have := rvS_le hc (S := S) (T := th c S 1) (B := 100) h1 1 i (2 ^ 1) (rv 1 i)
    rw [th]
    have h3 := Nat.mul_le_mul (h1 i) this
    omega
  refine ⟨h1, h2, fun i => ?_⟩
  have := rvS_le hc (S := S) (T := th c S 2) (B := 2000000) h2 2 i (2 ^ 2) (rv 2 i)
  rw [th]
  have h3 := Nat.mul_le_mul (h2 i) this
  omega
theorem cN_le (lw : LwO) (wo : Nat → Nat) (r a b : Nat) : cN lw wo r a b ≤ 100 := chN_le _ _ _ _ _
theorem n_l (a : Nat) (h : a < 2147483648) : (nI a).toInt64 = lN a := by
  rw [← Int64.toInt_inj, w_toInt, n_toInt h, pk_lT (by omega)]
section WEI
variable {np nm : Nat} {wo wi lo ct : Nat → Nat} {lw : LwO} {n : Nat} {rw S : Nat → Nat} {M : Mem}
def Odd (np : Nat) (c : Nat → Nat → Nat → Nat) (M : Mem) : Prop := ∀ r a b, r < 3 → a < np → b < np → M.1 32 ((r * 8 + a) * 8 + b) = -1 ∨ M.1 32 ((r * 8 + a) * 8 + b) = nI (c r a b)
def WS (np nm : Nat) (wo wi lo ct : Nat → Nat) (lw : LwO) (n : Nat) (rw S : Nat → Nat) (M : Mem) : Prop := CF np nm wo wi lo ct M ∧ CW lw M ∧ CU n rw M ∧ (∀ j, j < n → M.1 30 j = nI (S j)) ∧ Odd np (cN lw wo) M
def OKW (np nm : Nat) (wo wi lo ct : Nat → Nat) (lw : LwO) (n : Nat) (S : Nat → Nat) : Prop := OKF np nm wo wi lo ct ∧ okO lw ∧ n ≤ 8 ∧ (∀ j, j < n → S j < np) ∧ ∀ i j, i < n → j < n → S i = S j → i = j
theorem grp_30 : Grp [(30, 0)] (fun M => ∀ j, j < n → M.1 30 j = nI (S j)) := by
  intro M M2 h _ hF j hj
  rw [(h 30 j (in_a j (by decide))).1]
  exact hF j hj
theorem s_odds (hW : WS np nm wo wi lo ct lw n rw S M) (hO : OKF np nm wo wi lo ct) (hL : okO lw) {r a b : Nat} (hr : r < 3) (ha : a < np) (hb : b < np) (hab : a ≠ b) : ∃ M1, f_X3_oddsOf (nI a) (nI b) (nI r) M = some (nI (cN lw wo r a b), M1) ∧ WS np nm wo wi lo ct lw n rw S M1 ∧ ∀ k, M1.2.1 33 k = M.2.1 33 k := by
  obtain ⟨w1, w2, w3, w4, w5⟩ := hW
  have h8 := hO.1
  have hR := w2.2.1
  have key : ∀ x M1, f_X3_oddsOf (nI a) (nI b) (nI r) M = some (x, M1) → Odd np (cN lw wo) M1 → WS np nm wo wi lo ct lw n rw S M1 ∧ ∀ k, M1.2.1 33 k = M.2.1 33 k := by
    intro x M1 hf ho
    have fr := fr_X3_oddsOf _ _ _ M _ hf
    exact ⟨⟨grp_CF.kp hR fr (by decide) w1, grp_CW.kp hR fr (by decide) w2, grp_CU.kp hR fr (by decide) w3, grp_30.kp hR fr (by decide) w4, ho⟩, fun k => ((fr hR.c).2 33 k (disj_s (a := [(33, 0)]) (by decide) (in_a k (by decide)))).2⟩
  have ei : nI r * 8 + nI a = nI (r * 8 + a) := by rw [show (8 : Int32) = nI 8 from rfl, n_mul, n_add]
  have ei2 : nI (r * 8 + a) * 8 + nI b = nI ((r * 8 + a) * 8 + b) := by rw [show (8 : Int32) = nI 8 from rfl, n_mul, n_add]
  have ex : f_X3_oddsOf (nI a) (nI b) (nI r) M = (if M.1 32 ((r * 8 + a) * 8 + b) = -1 then bI (f_X5_hundredths (nI a) (nI b) (nI r) M) fun x2 M3 => some ((wI M3 32 ((r * 8 + a) * 8 + b) x2).1 32 ((r * 8 + a) * 8 + b), wI M3 32 ((r * 8 + a) * 8 + b) x2) else some (M.1 32 ((r * 8 + a) * 8 + b), M)) := by
    unfold f_X3_oddsOf f_X3_oddsOf_b43
    have ok : okI 32 (nI ((r * 8 + a) * 8 + b)) = true := okI_32 (by omega)
    rw [ei, ei2, lt_e]
    simp only [ok, ck_T, lt_e, n_clamp (show (r * 8 + a) * 8 + b < 2147483648 by omega)]
  by_cases q : M.1 32 ((r * 8 + a) * 8 + b) = -1
  · rw [if_pos q] at ex
    obtain ⟨M3, f3⟩ := cl_hund w1 hO w2 hL ha hb hab (nI r)
    have fr := fr_X5_hundredths _ _ _ M _ f3
    rw [f3, bI_s] at ex
    have e1 : (wI M3 32 ((r * 8 + a) * 8 + b) (nI (chN lw wo (nI r) a b))).1 32 ((r * 8 + a) * 8 + b) = nI (cN lw wo r a b) := by simp [wI_rd, cN]
    rw [e1] at ex
    refine ⟨_, ex, key _ _ ex ?_⟩
    intro r2 a2 b2 h1 h2 h3
    have e32 : M3.1 32 ((r2 * 8 + a2) * 8 + b2) = M.1 32 ((r2 * 8 + a2) * 8 + b2) := ((fr hR.c).2 32 _ (disj_s (a := [(32, 0)]) (by decide) (in_a _ (by decide)))).1
    by_cases q2 : (r2 * 8 + a2) * 8 + b2 = (r * 8 + a) * 8 + b
    · have e2 : r2 = r ∧ a2 = a ∧ b2 = b := by omega
      obtain ⟨rfl, rfl, rfl⟩ := e2
      exact Or.inr e1
    · simp only [wI_rd, q2, and_false, if_false, e32]
      exact w5 r2 a2 b2 h1 h2 h3
  · rw [if_neg q] at ex
    have e1 := (w5 r a b hr ha hb).resolve_left q
    rw [e1] at ex
    exact ⟨M, ex, ⟨w1, w2, w3, w4, w5⟩, fun _ => rfl⟩
theorem cl_beat_L (hK : OKW np nm wo wi lo ct lw n S) {r i : Nat} (hr : r < 3) (hi : i < n) (hrn : rv r i + 2 ^ r ≤ n) {T : Nat → Nat} : ∀ (k j m acc : Nat) (M : Mem), j + k = rv r i + 2 ^ r → rv r i ≤ j → k < m → WS np nm wo wi lo ct lw n rw S M → (∀ j, j < n → M.2.1 33 (r * 8 + j) = lN (T j)) → ∃ M1, f_X3_beatingRivals_L18 m (nI i) (nI r) (nI (rv r i)) (lN acc) (nI j) M = some (lN (acc + rvS (cN lw wo) S T r i k j), M1) ∧ WS np nm wo wi lo ct lw n rw S M1 ∧ ∀ k, M1.2.1 33 k = M.2.1 33 k
  | 0, j, m, acc, M, h1, h0, h2, hW, hT => by
    have h8 := hK.2.2.1
    obtain ⟨m, rfl⟩ : ∃ m2, m = m2 + 1 := ⟨m - 1, by omega⟩
    rw [f_X3_beatingRivals_L18, (rv_I r hr i (by omega)).2, n_add, if_pos ((n_le (by omega) (by omega)).mpr (by omega))]
    exact ⟨M, rfl, hW, fun _ => rfl⟩
  | k + 1, j, m, acc, M, h1, h0, h2, hW, hT => by
    have h8 := hK.2.2.1
    obtain ⟨m, rfl⟩ : ∃ m2, m = m2 + 1 := ⟨m - 1, by omega⟩
    have hji : j ≠ i := (rv_ok r hr i (by omega)).2.2 j (by omega) h0 (by omega)
    have e8 : nI r * 8 + nI j = nI (r * 8 + j) := by rw [show (8 : Int32) = nI 8 from rfl, n_mul, n_add]
    have hne : S i ≠ S j := fun q => hji (hK.2.2.2.2 i j hi (by omega) q).symm
    obtain ⟨M2, f2, c2, t2⟩ := s_odds hW hK.1 hK.2.1 hr (hK.2.2.2.1 i hi) (hK.2.2.2.1 j (by omega)) hne
    rw [f_X3_beatingRivals_L18, (rv_I r hr i (by omega)).2, n_add, if_neg (by rw [n_le (by omega) (by omega)]; omega), e8, ck_t (okL_33 (by omega)), ck_t (okI_30 (by omega)), ck_t (okI_30 (by omega)), n_clamp (by omega), n_clamp (by omega), n_clamp (by omega), hW.2.2.2.1 i hi, hW.2.2.2.1 j (by omega), f2, bI_s, lt_e, hT j (by omega), n_s1]
    have hcl := cN_le lw wo r (S i) (S j)
    rw [n_l _ (by omega), lN_mul, lN_add]
    obtain ⟨M3, f3, c3, t3⟩ := cl_beat_L hK hr hi hrn (T := T) k (j + 1) m (acc + T j * cN lw wo r (S i) (S j)) M2 (by omega) (by omega) (by omega) c2 (fun j hj => by rw [t2]; exact hT j hj)
    refine ⟨M3, ?_, c3, fun k => by rw [t3, t2]⟩
    rw [f3, rvS, Nat.add_assoc]
theorem cl_beat (hK : OKW np nm wo wi lo ct lw n S) (hW : WS np nm wo wi lo ct lw n rw S M) {r i : Nat} (hr : r < 3) (hi : i < n) (hrn : rv r i + 2 ^ r ≤ n) {T : Nat → Nat} (hT : ∀ j, j < n → M.2.1 33 (r * 8 + j) = lN (T j)) : ∃ M1, f_X3_beatingRivals (nI i) (nI r) M = some (lN (rvS (cN lw wo) S T r i (2 ^ r) (rv r i)), M1) ∧ WS np nm wo wi lo ct lw n rw S M1 ∧ ∀ k, M1.2.1 33 k = M.2.1 33 k := by
  have h8 := hK.2.2.1
  unfold f_X3_beatingRivals
  rw [(rv_I r hr i (by omega)).1, lt_e]
  obtain ⟨M1, f1, c1, t1⟩ := cl_beat_L hK hr hi hrn (T := T) (2 ^ r) (rv r i) FU 0 M (by omega) (by omega) (by have := (rv_ok r hr i (by omega)).1; unfold FU; omega) hW hT
  rw [Nat.zero_add] at f1
  exact ⟨M1, f1, c1, t1⟩
def TH (c : Nat → Nat → Nat → Nat) (S : Nat → Nat) (n R : Nat) (M : Mem) : Prop := ∀ r, r ≤ R → ∀ j, j < n → M.2.1 33 (r * 8 + j) = lN (th c S r j)
theorem WS.wL {M : Mem} (h : WS np nm wo wi lo ct lw n rw S M) (k : Nat) (v : Int64) : WS np nm wo wi lo ct lw n rw S (wL M 33 k v) := h
theorem cl_weigh_L (hK : OKW np nm wo wi lo ct lw n S) {r : Nat} (hr : r < rdn n) (hn : n = 4 ∨ n = 8) {k13 : Int32 → Mem → Option Mem} : ∀ (k i m : Nat) (M : Mem), i + k = n → k < m → WS np nm wo wi lo ct lw n rw S M → TH (cN lw wo) S n r M → (∀ j, j < i → M.2.1 33 ((r + 1) * 8 + j) = lN (th (cN lw wo) S (r + 1) j)) → ∃ M1, f_X3_weigh_L24 k13 m (nI r) (nI i) M = k13 (nI (r + 1)) M1 ∧ WS np nm wo wi lo ct lw n rw S M1 ∧ TH (cN lw wo) S n (r + 1) M1
  | 0, i, m, M, h1, h2, hW, hT, hP => by
    have h8 := hK.2.2.1
    obtain ⟨m, rfl⟩ : ∃ m2, m = m2 + 1 := ⟨m - 1, by omega⟩
    rw [f_X3_weigh_L24, hW.2.2.1.1, if_pos ((n_le (by omega) (by omega)).mpr (by omega)), n_s1]
    refine ⟨M, rfl, hW, fun r2 h j hj => ?_⟩
    by_cases q : r2 = r + 1
    · subst q; exact hP j (by omega)
    · exact hT r2 (by omega) j hj
  | k + 1, i, m, M, h1, h2, hW, hT, hP => by
    have h8 := hK.2.2.1
    have hr3 : r < 3 := by unfold rdn at hr; split at hr <;> omega
    obtain ⟨m, rfl⟩ : ∃ m2, m = m2 + 1 := ⟨m - 1, by omega⟩
    have hok := rv_ok r hr3 i (by omega)
    have hrn : rv r i + 2 ^ r ≤ n := by
      rcases hn with rfl | rfl
      · exact hok.2.1 hr (by omega)
      · exact hok.1
    obtain ⟨M2, f2, c2, t2⟩ := cl_beat hK hW hr3 (by omega) hrn (T := th (cN lw wo) S r) (hT r (Nat.le_refl _))
    have e8 : nI r * 8 + nI i = nI (r * 8 + i) := by rw [show (8 : Int32) = nI 8 from rfl, n_mul, n_add]
    have e9 : nI (r + 1) * 8 + nI i = nI ((r + 1) * 8 + i) := by rw [show (8 : Int32) = nI 8 from rfl, n_mul, n_add]
    rw [f_X3_weigh_L24, hW.2.2.1.1, if_neg (by rw [n_le (by omega) (by omega)]; omega), e8, ck_t (okL_33 (by omega)), f2, bI_s, n_s1, e9, ck_t (okL_33 (by omega)), lt_e, n_clamp (by omega), n_clamp (by omega), hT r (Nat.le_refl _) i (by omega), lN_mul, n_s1]
    refine cl_weigh_L hK hr hn k (i + 1) m _ (by omega) (by omega) (c2.wL _ _) (fun r2 h j hj => ?_) (fun j hj => ?_)
    · rw [wL_rd, if_neg (by omega), t2]
      exact hT r2 h j hj
    · rw [wL_rd]
      by_cases q : j = i
      · subst q; rw [if_pos ⟨rfl, rfl⟩]; rfl
      · rw [if_neg (by omega), t2]; exact hP j (by omega)
theorem s_rounds (hU : M.1 28 0 = nI n) (hn : n = 4 ∨ n = 8) : f_X3_rounds M = some (nI (rdn n)) := by
  unfold f_X3_rounds
  rw [hU]
  rcases hn with rfl | rfl <;> rfl
theorem cl_weigh (hK : OKW np nm wo wi lo ct lw n S) (hn : n = 4 ∨ n = 8) (hW : WS np nm wo wi lo ct lw n rw S M) : ∃ M1, f_X3_weigh M = some M1 ∧ WS np nm wo wi lo ct lw n rw S M1 ∧ TH (cN lw wo) S n (rdn n) M1 := by
  have h8 := hK.2.2.1
  have key : ∀ (k r m : Nat) (M : Mem), r + k = rdn n → k < m → WS np nm wo wi lo ct lw n rw S M → TH (cN lw wo) S n r M → ∃ M1, f_X3_weigh_L13 m (nI r) M = some M1 ∧ WS np nm wo wi lo ct lw n rw S M1 ∧ TH (cN lw wo) S n (rdn n) M1 := by
    have h3 : rdn n ≤ 3 := by unfold rdn; split <;> omega
    intro k
    induction k with
    | zero =>
      intro r m M h1 h2 hW hT
      obtain ⟨m, rfl⟩ : ∃ m2, m = m2 + 1 := ⟨m - 1, by omega⟩
      rw [f_X3_weigh_L13, s_rounds hW.2.2.1.1 hn, bd_s, if_pos ((n_le (by omega) (by omega)).mpr (by omega))]
      have e : r = rdn n := by omega
      subst e
      exact ⟨M, rfl, hW, hT⟩
    | succ k ih =>
      intro r m M h1 h2 hW hT
      obtain ⟨m, rfl⟩ : ∃ m2, m = m2 + 1 := ⟨m - 1, by omega⟩
      rw [f_X3_weigh_L13, s_rounds hW.2.2.1.1 hn, bd_s, if_neg (by rw [n_le (by omega) (by omega)]; omega)]
      obtain ⟨M1, f1, c1, t1⟩ := cl_weigh_L hK (r := r) (by omega) hn (k13 := fun a0 a1 => f_X3_weigh_L13 m a0 a1) n 0 FU M (by omega) (by unfold FU; omega) hW hT (fun j hj => by omega)
      obtain ⟨M2, f2, c2, t2⟩ := ih (r + 1) m M1 (by omega) (by omega) c1 t1
      exact ⟨M2, by rw [← f2, ← f1]; rfl, c2, t2⟩
  unfold f_X3_weigh
  have hf := s_fillL (M := M) (c := 33) (lo := 0) (hi := 8) (v := 1) rfl (by decide) (by decide) (by omega)
  have hf' : f_J7_fill_bad5a 33 0 8 1 M = _ := hf
  rw [hf', bd_s]
  obtain ⟨M1, f1, c1, t1⟩ := key (rdn n) 0 FU (fiL M 33 0 8 1) (by omega) (by unfold rdn FU; split <;> omega) hW (fun r h j hj => by
    have e : r = 0 := by omega
    subst e
    rw [fiL_rd, if_pos ⟨rfl, by omega, by omega⟩]; rfl)
  exact ⟨M1, f1, c1, t1⟩
end WEI
