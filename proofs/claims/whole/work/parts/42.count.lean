/-! sums along the matches; won and lost -/
def su (g : Nat → Nat) : Nat → Nat → Nat
  | 0, _ => 0
  | k + 1, m => g m + su g k (m + 1)
theorem su_congr {g h : Nat → Nat} : ∀ (k m : Nat), (∀ j, m ≤ j → j < m + k → g j = h j) → su g k m = su h k m
  | 0, _, _ => rfl
  | k + 1, m, e => by
    rw [su, su, e m (by omega) (by omega), su_congr k (m + 1) (fun j h1 h2 => e j (by omega) (by omega))]
theorem su_le {g : Nat → Nat} {b : Nat} : ∀ (k m : Nat), (∀ j, m ≤ j → j < m + k → g j ≤ b) → su g k m ≤ k * b
  | 0, _, _ => by simp [su]
  | k + 1, m, e => by
    have h1 := e m (by omega) (by omega)
    have h2 := su_le k (m + 1) (fun j h1 h2 => e j (by omega) (by omega))
    rw [su, Nat.succ_mul]
    omega
def wonN (nm : Nat) (wi ct : Nat → Nat) (p : Nat) : Nat := su (fun m => if wi m = p then ct m else 0) nm 0
theorem n_ad (a b : Nat) : nI a + nI b = nI (a + b) := nI_add a b
theorem wonN_le {nm : Nat} {wi ct : Nat → Nat} (h : ∀ m, m < nm → ct m ≤ 1) (p : Nat) : wonN nm wi ct p ≤ nm := by
  have := su_le (g := fun m => if wi m = p then ct m else 0) (b := 1) nm 0 (fun j _ h2 => by
    show (if wi j = p then ct j else 0) ≤ 1
    have := h j (by omega)
    split <;> omega)
  unfold wonN
  omega
section WON
variable {np nm : Nat} {wo wi lo ct : Nat → Nat} {M : Mem}
theorem wonBy_L (hF : CF np nm wo wi lo ct M) (hO : OKF np nm wo wi lo ct) {p : Nat} (hp : p < 100) : ∀ (k m w n : Nat), m + k = nm → k < n → w + k ≤ 100 → f_X4_wonBy_L4 M n (nI p) (nI w) (nI m) = some (nI (w + su (fun m => if wi m = p then ct m else 0) k m))
  | 0, m, w, n, h1, h2, h3 => by
    obtain ⟨n, rfl⟩ : ∃ n2, n = n2 + 1 := ⟨n - 1, by omega⟩
    have := hO.2.1
    simp (disch := omega) [f_X4_wonBy_L4, hF.2.1, n_le, su, show nm ≤ m by omega]
  | k + 1, m, w, n, h1, h2, h3 => by
    obtain ⟨n, rfl⟩ : ∃ n2, n = n2 + 1 := ⟨n - 1, by omega⟩
    have hm := hO.2.1
    have hn := hO.1
    obtain ⟨a1, a2, a3⟩ := hF.2.2.2 m (by omega)
    obtain ⟨b1, b2, b3, b4⟩ := hO.2.2.2 m (by omega)
    have ih := wonBy_L hF hO hp k (m + 1)
    by_cases e : wi m = p
    · simp (disch := omega) [f_X4_wonBy_L4, f_X4_wonBy_b31, hF.2.1, n_le, show ¬ nm ≤ m by omega, okI_3, okI_5, ck_T, n_clamp, a1, a3, n_eq, e, lt_e, n_s1, n_ad, su]
      rw [ih (w + ct m) n (by omega) (by omega) (by omega)]
      congr 2; omega
    · simp (disch := omega) [f_X4_wonBy_L4, f_X4_wonBy_b31, hF.2.1, n_le, show ¬ nm ≤ m by omega, okI_3, okI_5, ck_T, n_clamp, a1, a3, n_eq, e, lt_e, n_s1, n_ad, su]
      rw [ih w n (by omega) (by omega) (by omega)]
theorem s_wonBy (hF : CF np nm wo wi lo ct M) (hO : OKF np nm wo wi lo ct) {p : Nat} (hp : p < 100) : f_X4_wonBy (nI p) M = some (nI (wonN nm wi ct p)) := by
  have hm := hO.2.1
  have := wonBy_L hF hO hp nm 0 0 FU (by omega) (by show nm < 5000; omega) (by omega)
  unfold f_X4_wonBy
  rw [Nat.zero_add] at this
  exact this
theorem lostBy_L (hF : CF np nm wo wi lo ct M) (hO : OKF np nm wo wi lo ct) {p : Nat} (hp : p < 100) : ∀ (k m w n : Nat), m + k = nm → k < n → w + k ≤ 100 → f_X4_lostBy_L4 M n (nI p) (nI w) (nI m) = some (nI (w + su (fun m => if lo m = p then ct m else 0) k m))
  | 0, m, w, n, h1, h2, h3 => by
    obtain ⟨n, rfl⟩ : ∃ n2, n = n2 + 1 := ⟨n - 1, by omega⟩
    have := hO.2.1
    simp (disch := omega) [f_X4_lostBy_L4, hF.2.1, n_le, su, show nm ≤ m by omega]
  | k + 1, m, w, n, h1, h2, h3 => by
    obtain ⟨n, rfl⟩ : ∃ n2, n = n2 + 1 := ⟨n - 1, by omega⟩
    have hm := hO.2.1
    have hn := hO.1
    obtain ⟨a1, a2, a3⟩ := hF.2.2.2 m (by omega)
    obtain ⟨b1, b2, b3, b4⟩ := hO.2.2.2 m (by omega)
    have ih := lostBy_L hF hO hp k (m + 1)
    by_cases e : lo m = p
    · simp (disch := omega) [f_X4_lostBy_L4, f_X4_lostBy_b31, hF.2.1, n_le, show ¬ nm ≤ m by omega, okI_4, okI_5, ck_T, n_clamp, a2, a3, n_eq, e, lt_e, n_s1, n_ad, su]
      rw [ih (w + ct m) n (by omega) (by omega) (by omega)]
      congr 2; omega
    · simp (disch := omega) [f_X4_lostBy_L4, f_X4_lostBy_b31, hF.2.1, n_le, show ¬ nm ≤ m by omega, okI_4, okI_5, ck_T, n_clamp, a2, a3, n_eq, e, lt_e, n_s1, n_ad, su]
      rw [ih w n (by omega) (by omega) (by omega)]
theorem s_lostBy (hF : CF np nm wo wi lo ct M) (hO : OKF np nm wo wi lo ct) {p : Nat} (hp : p < 100) : f_X4_lostBy (nI p) M = some (nI (wonN nm lo ct p)) := by
  have hm := hO.2.1
  have := lostBy_L hF hO hp nm 0 0 FU (by omega) (by show nm < 5000; omega) (by omega)
  unfold f_X4_lostBy
  rw [Nat.zero_add] at this
  exact this
theorem s_counts (hF : MF np nm wo wi lo ct M) (hO : OKF np nm wo wi lo ct) {m : Nat} (h : m < nm) : f_X11_counts (nI m) M = some (bb (decide (ct m = 1))) := by
  have hm := hO.2.1
  obtain ⟨a1, a2, a3⟩ := hF.2.2.2 m h
  obtain ⟨b1, b2, b3, b4⟩ := hO.2.2.2 m h
  have e8 : (8 : Int32) + nI m = nI (8 + m) := nI_add 8 m
  have e1 : (nI (ct m) = 1) = (ct m = 1) := propext (n_eq (b := 1) (by omega) (by omega))
  by_cases e : ct m = 1
  · simp (disch := omega) [f_X11_counts, e8, okI_48, ck_T, n_clamp, a3, e1, e, bb]
    rfl
  · simp (disch := omega) [f_X11_counts, e8, okI_48, ck_T, n_clamp, a3, e1, e, bb]
theorem wonByM_L (hF : MF np nm wo wi lo ct M) (hO : OKF np nm wo wi lo ct) {p : Nat} (hp : p < 100) : ∀ (k m w n : Nat), m + k = nm → k < n → w + k ≤ 100 → f_X11_wonBy_L4 M n (nI p) (nI w) (nI m) = some (nI (w + su (fun m => if wi m = p then ct m else 0) k m))
  | 0, m, w, n, h1, h2, h3 => by
    obtain ⟨n, rfl⟩ : ∃ n2, n = n2 + 1 := ⟨n - 1, by omega⟩
    have := hO.2.1
    simp (disch := omega) [f_X11_wonBy_L4, hF.2.1, n_le, su, show nm ≤ m by omega]
  | k + 1, m, w, n, h1, h2, h3 => by
    obtain ⟨n, rfl⟩ : ∃ n2, n = n2 + 1 := ⟨n - 1, by omega⟩
    have hm := hO.2.1
    have hn := hO.1
    obtain ⟨a1, a2, a3⟩ := hF.2.2.2 m (by omega)
    obtain ⟨b1, b2, b3, b4⟩ := hO.2.2.2 m (by omega)
    have ih := wonByM_L hF hO hp k (m + 1)
    have hc := s_counts hF hO (m := m) (by omega)
    have i0 := ih w n (by omega) (by omega) (by omega)
    have i1 := ih (w + 1) n (by omega) (by omega) (by omega)
    have e0 : nI w + 0 = nI w := n_ad w 0
    by_cases c : ct m = 1
    · by_cases e : wi m = p
      · simp (disch := omega) [f_X11_wonBy_L4, f_X11_wonBy_b35, f_X11_wonBy_b36, hF.2.1, n_le, show ¬ nm ≤ m by omega, hc, ite_bb, c, okI_52, ck_T, n_clamp, a1, n_eq, e, lt_e, n_s1, su, i1]
        congr 1; omega
      · simp (disch := omega) [f_X11_wonBy_L4, f_X11_wonBy_b35, f_X11_wonBy_b36, hF.2.1, n_le, show ¬ nm ≤ m by omega, hc, ite_bb, c, okI_52, ck_T, n_clamp, a1, n_eq, e, lt_e, n_s1, su, i0, e0]
    · have c0 : ct m = 0 := by omega
      simp (disch := omega) [f_X11_wonBy_L4, f_X11_wonBy_b35, f_X11_wonBy_b36, hF.2.1, n_le, show ¬ nm ≤ m by omega, hc, ite_bb, c0, lt_e, n_s1, su, i0, e0]
theorem s_wonByM (hF : MF np nm wo wi lo ct M) (hO : OKF np nm wo wi lo ct) {p : Nat} (hp : p < 100) : f_X11_wonBy (nI p) M = some (nI (wonN nm wi ct p)) := by
  have hm := hO.2.1
  have := wonByM_L hF hO hp nm 0 0 FU (by omega) (by show nm < 5000; omega) (by omega)
  unfold f_X11_wonBy
  rw [Nat.zero_add] at this
  exact this
theorem lostByM_L (hF : MF np nm wo wi lo ct M) (hO : OKF np nm wo wi lo ct) {p : Nat} (hp : p < 100) : ∀ (k m w n : Nat), m + k = nm → k < n → w + k ≤ 100 → f_X11_lostBy_L4 M n (nI p) (nI w) (nI m) = some (nI (w + su (fun m => if lo m = p then ct m else 0) k m))
  | 0, m, w, n, h1, h2, h3 => by
    obtain ⟨n, rfl⟩ : ∃ n2, n = n2 + 1 := ⟨n - 1, by omega⟩
    have := hO.2.1
    simp (disch := omega) [f_X11_lostBy_L4, hF.2.1, n_le, su, show nm ≤ m by omega]
  | k + 1, m, w, n, h1, h2, h3 => by
    obtain ⟨n, rfl⟩ : ∃ n2, n = n2 + 1 := ⟨n - 1, by omega⟩
    have hm := hO.2.1
    have hn := hO.1
    obtain ⟨a1, a2, a3⟩ := hF.2.2.2 m (by omega)
    obtain ⟨b1, b2, b3, b4⟩ := hO.2.2.2 m (by omega)
    have ih := lostByM_L hF hO hp k (m + 1)
    have hc := s_counts hF hO (m := m) (by omega)
    have i0 := ih w n (by omega) (by omega) (by omega)
    have i1 := ih (w + 1) n (by omega) (by omega) (by omega)
    have e0 : nI w + 0 = nI w := n_ad w 0
    by_cases c : ct m = 1
    · by_cases e : lo m = p
      · simp (disch := omega) [f_X11_lostBy_L4, f_X11_lostBy_b35, f_X11_lostBy_b36, hF.2.1, n_le, show ¬ nm ≤ m by omega, hc, ite_bb, c, okI_53, ck_T, n_clamp, a2, n_eq, e, lt_e, n_s1, su, i1]
        congr 1; omega
      · simp (disch := omega) [f_X11_lostBy_L4, f_X11_lostBy_b35, f_X11_lostBy_b36, hF.2.1, n_le, show ¬ nm ≤ m by omega, hc, ite_bb, c, okI_53, ck_T, n_clamp, a2, n_eq, e, lt_e, n_s1, su, i0, e0]
    · have c0 : ct m = 0 := by omega
      simp (disch := omega) [f_X11_lostBy_L4, f_X11_lostBy_b35, f_X11_lostBy_b36, hF.2.1, n_le, show ¬ nm ≤ m by omega, hc, ite_bb, c0, lt_e, n_s1, su, i0, e0]
theorem s_lostByM (hF : MF np nm wo wi lo ct M) (hO : OKF np nm wo wi lo ct) {p : Nat} (hp : p < 100) : f_X11_lostBy (nI p) M = some (nI (wonN nm lo ct p)) := by
  have hm := hO.2.1
  have := lostByM_L hF hO hp nm 0 0 FU (by omega) (by show nm < 5000; omega) (by omega)
  unfold f_X11_lostBy
  rw [Nat.zero_add] at this
  exact this
end WON
