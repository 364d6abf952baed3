/-! the league's table -/
def hig (W L : Nat → Nat) (a b : Nat) : Bool := if W a = W b then (if L a = L b then decide (a < b) else decide (L a < L b)) else decide (W b < W a)
def plcN (W L : Nat → Nat) (np p : Nat) : Nat := su (fun q => if hig W L q p = true then 1 else 0) np 0
def whN (W L : Nat → Nat) (np : Nat) (v : Int32) : Nat → Nat → Nat → Nat
  | 0, _, w => w
  | k + 1, p, w => whN W L np v k (p + 1) (if nI (plcN W L np p) = v then p else w)
def upsN (W L : Nat → Nat) (nm : Nat) (wi lo ct : Nat → Nat) : Nat := su (fun m => if ct m = 1 ∧ hig W L (lo m) (wi m) = true then 1 else 0) nm 0
def tabA (np nm : Nat) (wi lo ct : Nat → Nat) (v w : Int32) : Int32 :=
  if inN 3 w = true then (if w = 2 then (if v = 0 then (if np = 0 then -5 else nI (upsN (wonN nm wi ct) (wonN nm lo ct) nm wi lo ct)) else -1) else (if inN np v = true then (if w = 0 then nI (whN (wonN nm wi ct) (wonN nm lo ct) np v np 0 0) else nI (wonN nm wi ct (whN (wonN nm wi ct) (wonN nm lo ct) np v np 0 0))) else -1)) else -1
theorem whN_lt (W L : Nat → Nat) (np : Nat) (v : Int32) : ∀ (k p w : Nat), p + k = np → w < np → whN W L np v k p w < np
  | 0, _, w, _, h => h
  | k + 1, p, w, h1, h => by
    rw [whN]
    exact whN_lt W L np v k (p + 1) _ (by omega) (by split <;> omega)
theorem su_b1 (P : Nat → Prop) [DecidablePred P] (k m : Nat) : su (fun q => if P q then 1 else 0) k m ≤ k := by
  have := su_le (g := fun q => if P q then 1 else 0) (b := 1) k m (fun j _ _ => by show (if P j then 1 else 0) ≤ 1; split <;> omega)
  omega
section TAB
variable {np nm : Nat} {wo wi lo ct : Nat → Nat} {M : Mem}
def LG (np : Nat) (W L : Nat → Nat) (M : Mem) : Prop := M.1 34 2 = nI np ∧ ∀ p, p < np → M.1 35 p = nI (W p) ∧ M.1 36 p = nI (L p)
theorem cl_read_L (hO : OKF np nm wo wi lo ct) : ∀ (k p m : Nat) (M : Mem), p + k = np → k < m → CF np nm wo wi lo ct M → M.1 34 2 = nI np → (∀ q, q < p → M.1 35 q = nI (wonN nm wi ct q) ∧ M.1 36 q = nI (wonN nm lo ct q)) → ∃ M1, f_X6_read_L10 m (nI p) M = some M1 ∧ CF np nm wo wi lo ct M1 ∧ LG np (wonN nm wi ct) (wonN nm lo ct) M1
  | 0, p, m, M, h, hm, hC, h2, hP => by
    have h8 := hO.1
    obtain ⟨m, rfl⟩ : ∃ m2, m = m2 + 1 := ⟨m - 1, by omega⟩
    rw [f_X6_read_L10, h2, if_pos ((n_le (by omega) (by omega)).mpr (by omega))]
    exact ⟨M, rfl, hC, h2, fun q hq => hP q (by omega)⟩
  | k + 1, p, m, M, h, hm, hC, h2, hP => by
    have h8 := hO.1
    obtain ⟨m, rfl⟩ : ∃ m2, m = m2 + 1 := ⟨m - 1, by omega⟩
    have c1 : CF np nm wo wi lo ct (wI M 35 p (nI (wonN nm wi ct p))) := ⟨by simp [wI_rd, hC.1], by simp [wI_rd, hC.2.1], fun q hq => by simp [wI_rd, hC.2.2.1 q hq], fun q hq => by simp [wI_rd, hC.2.2.2 q hq]⟩
    have c2 : CF np nm wo wi lo ct (wI (wI M 35 p (nI (wonN nm wi ct p))) 36 p (nI (wonN nm lo ct p))) := ⟨by simp [wI_rd, hC.1], by simp [wI_rd, hC.2.1], fun q hq => by simp [wI_rd, hC.2.2.1 q hq], fun q hq => by simp [wI_rd, hC.2.2.2 q hq]⟩
    rw [f_X6_read_L10, h2, if_neg (by rw [n_le (by omega) (by omega)]; omega), s_wonBy hC hO (by omega), bd_s, ck_t (okI_35 (by omega)), lt_e, n_clamp (by omega), s_lostBy c1 hO (by omega), bd_s, ck_t (okI_36 (by omega)), lt_e, n_s1]
    refine cl_read_L hO k (p + 1) m _ (by omega) (by omega) c2 (by simp [wI_rd, h2]) (fun q hq => ?_)
    by_cases e : q = p
    · subst e; simp [wI_rd]
    · have := hP q (by omega)
      simp [wI_rd, e, this]
theorem cl_read (hO : OKF np nm wo wi lo ct) (hC : CF np nm wo wi lo ct M) : ∃ M1, f_X6_read M = some M1 ∧ CF np nm wo wi lo ct M1 ∧ LG np (wonN nm wi ct) (wonN nm lo ct) M1 := by
  have h8 := hO.1
  unfold f_X6_read
  rw [lt_e, hC.1]
  exact cl_read_L hO np 0 FU _ (by omega) (by unfold FU; omega) ⟨by simp [wI_rd, hC.1], by simp [wI_rd, hC.2.1], fun q hq => by simp [wI_rd, hC.2.2.1 q hq], fun q hq => by simp [wI_rd, hC.2.2.2 q hq]⟩ (by simp [wI_rd]) (fun q hq => by omega)
theorem hig_x {W L : Nat → Nat} {a b : Nat} (ha : a < 100) (hb : b < 100) (h1 : W a < 100) (h2 : W b < 100) (h3 : L a < 100) (h4 : L b < 100) : (if nI (W a) = nI (W b) then (if nI (L a) = nI (L b) then (if nI b ≤ nI a then (some (0 : Int32)) else some 1) else (if nI (L b) ≤ nI (L a) then some 0 else some 1)) else (if nI (W a) ≤ nI (W b) then some 0 else some 1)) = some (bb (hig W L a b)) := by
  simp only [n_eq (show W a < 2147483648 by omega) (show W b < 2147483648 by omega), n_eq (show L a < 2147483648 by omega) (show L b < 2147483648 by omega), n_le (show b < 2147483648 by omega) (show a < 2147483648 by omega), n_le (show L b < 2147483648 by omega) (show L a < 2147483648 by omega), n_le (show W a < 2147483648 by omega) (show W b < 2147483648 by omega)]
  unfold hig
  by_cases q : W a = W b
  · rw [if_pos q, if_pos q]
    by_cases q2 : L a = L b
    · rw [if_pos q2, if_pos q2]
      by_cases q3 : b ≤ a
      · rw [if_pos q3, decide_eq_false (by omega)]; rfl
      · rw [if_neg q3, decide_eq_true (by omega)]; rfl
    · rw [if_neg q2, if_neg q2]
      by_cases q3 : L b ≤ L a
      · rw [if_pos q3, decide_eq_false (by omega)]; rfl
      · rw [if_neg q3, decide_eq_true (by omega)]; rfl
  · rw [if_neg q, if_neg q]
    by_cases q3 : W a ≤ W b
    · rw [if_pos q3, decide_eq_false (by omega)]; rfl
    · rw [if_neg q3, decide_eq_true (by omega)]; rfl
theorem wl_b (hO : OKF np nm wo wi lo ct) (p : Nat) : wonN nm wi ct p < 100 ∧ wonN nm lo ct p < 100 := by
  have h1 := wonN_le (wi := wi) (fun m hm => (hO.2.2.2 m hm).2.2.2) p
  have h2 := wonN_le (wi := lo) (fun m hm => (hO.2.2.2 m hm).2.2.2) p
  have := hO.2.1
  omega
theorem cl_isH (hO : OKF np nm wo wi lo ct) (hL : LG np (wonN nm wi ct) (wonN nm lo ct) M) {a b : Nat} (ha : a < np) (hb : b < np) : f_X6_isHigher (nI a) (nI b) M = some (bb (hig (wonN nm wi ct) (wonN nm lo ct) a b)) := by
  have h8 := hO.1
  have wa := wl_b hO a
  have wb := wl_b hO b
  unfold f_X6_isHigher
  simp only [ck_t (okI_35 (show a < 8 by omega)), ck_t (okI_35 (show b < 8 by omega)), ck_t (okI_36 (show a < 8 by omega)), ck_t (okI_36 (show b < 8 by omega)), n_clamp (show a < 2147483648 by omega), n_clamp (show b < 2147483648 by omega), (hL.2 a ha).1, (hL.2 a ha).2, (hL.2 b hb).1, (hL.2 b hb).2]
  exact hig_x (by omega) (by omega) wa.1 wb.1 wa.2 wb.2
theorem mo_isH (hO : OKF np nm wo wi lo ct) (hC : MF np nm wo wi lo ct M) {a b : Nat} (ha : a < np) (hb : b < np) : f_X11_isHigher (nI a) (nI b) M = some (bb (hig (wonN nm wi ct) (wonN nm lo ct) a b)) := by
  have h8 := hO.1
  have wa := wl_b hO a
  have wb := wl_b hO b
  unfold f_X11_isHigher
  simp only [s_wonByM hC hO (show a < 100 by omega), s_wonByM hC hO (show b < 100 by omega), s_lostByM hC hO (show a < 100 by omega), s_lostByM hC hO (show b < 100 by omega), bd_s]
  exact hig_x (by omega) (by omega) wa.1 wb.1 wa.2 wb.2
theorem cl_place_L (hO : OKF np nm wo wi lo ct) (hL : LG np (wonN nm wi ct) (wonN nm lo ct) M) {p : Nat} (hp : p < np) : ∀ (k q m acc : Nat), q + k = np → k < m → f_X6_placeOf_L4 M m (nI p) (nI acc) (nI q) = some (nI (acc + su (fun q => if hig (wonN nm wi ct) (wonN nm lo ct) q p = true then 1 else 0) k q))
  | 0, q, m, acc, h, hm => by
    have h8 := hO.1
    obtain ⟨m, rfl⟩ : ∃ m2, m = m2 + 1 := ⟨m - 1, by omega⟩
    rw [f_X6_placeOf_L4, hL.1, if_pos ((n_le (by omega) (by omega)).mpr (by omega))]
    rfl
  | k + 1, q, m, acc, h, hm => by
    have h8 := hO.1
    obtain ⟨m, rfl⟩ : ∃ m2, m = m2 + 1 := ⟨m - 1, by omega⟩
    rw [f_X6_placeOf_L4, hL.1, if_neg (by rw [n_le (by omega) (by omega)]; omega), cl_isH hO hL (by omega) hp, bd_s, ite_bb, su]
    unfold f_X6_placeOf_b24
    rw [n_s1, n_s1]
    by_cases e : hig (wonN nm wi ct) (wonN nm lo ct) q p = true
    · rw [if_pos e, if_pos e]; exact (cl_place_L hO hL hp k (q + 1) m (acc + 1) (by omega) (by omega)).trans (by rw [Nat.add_assoc])
    · rw [if_neg e, if_neg e]; exact (cl_place_L hO hL hp k (q + 1) m acc (by omega) (by omega)).trans (by rw [Nat.zero_add])
theorem cl_place (hO : OKF np nm wo wi lo ct) (hL : LG np (wonN nm wi ct) (wonN nm lo ct) M) {p : Nat} (hp : p < np) : f_X6_placeOf (nI p) M = some (nI (plcN (wonN nm wi ct) (wonN nm lo ct) np p)) := by
  have h8 := hO.1
  have := cl_place_L hO hL hp np 0 FU 0 (by omega) (by unfold FU; omega)
  rw [Nat.zero_add] at this
  exact this
theorem mo_place_L (hO : OKF np nm wo wi lo ct) (hC : MF np nm wo wi lo ct M) {p : Nat} (hp : p < np) : ∀ (k q m acc : Nat), q + k = np → k < m → f_X11_placeInTable_L4 M m (nI p) (nI acc) (nI q) = some (nI (acc + su (fun q => if hig (wonN nm wi ct) (wonN nm lo ct) q p = true then 1 else 0) k q))
  | 0, q, m, acc, h, hm => by
    have h8 := hO.1
    obtain ⟨m, rfl⟩ : ∃ m2, m = m2 + 1 := ⟨m - 1, by omega⟩
    rw [f_X11_placeInTable_L4, hC.1, if_pos ((n_le (by omega) (by omega)).mpr (by omega))]
    rfl
  | k + 1, q, m, acc, h, hm => by
    have h8 := hO.1
    obtain ⟨m, rfl⟩ : ∃ m2, m = m2 + 1 := ⟨m - 1, by omega⟩
    rw [f_X11_placeInTable_L4, hC.1, if_neg (by rw [n_le (by omega) (by omega)]; omega), mo_isH hO hC (by omega) hp, bd_s, ite_bb, su]
    unfold f_X11_placeInTable_b31 f_X11_placeInTable_b32
    rw [lt_e, lt_e, n_s1, n_s1, Int32.add_zero]
    have ir : hig (wonN nm wi ct) (wonN nm lo ct) p p = false := by simp [hig]
    simp only [n_eq (show q < 2147483648 by omega) (show p < 2147483648 by omega)]
    by_cases e : hig (wonN nm wi ct) (wonN nm lo ct) q p = true
    · have hne : ¬ q = p := fun h => by subst h; rw [ir] at e; cases e
      rw [if_neg hne, if_pos e, if_pos e]; exact (mo_place_L hO hC hp k (q + 1) m (acc + 1) (by omega) (by omega)).trans (by rw [Nat.add_assoc])
    · rw [if_neg e, if_neg e, ite_self]; exact (mo_place_L hO hC hp k (q + 1) m acc (by omega) (by omega)).trans (by rw [Nat.zero_add])
theorem mo_place (hO : OKF np nm wo wi lo ct) (hC : MF np nm wo wi lo ct M) {p : Nat} (hp : p < np) : f_X11_placeInTable (nI p) M = some (nI (plcN (wonN nm wi ct) (wonN nm lo ct) np p)) := by
  have h8 := hO.1
  have := mo_place_L hO hC hp np 0 FU 0 (by omega) (by unfold FU; omega)
  rw [Nat.zero_add] at this
  exact this
theorem cl_who_L (hO : OKF np nm wo wi lo ct) (hL : LG np (wonN nm wi ct) (wonN nm lo ct) M) (v : Int32) : ∀ (k p m w : Nat), p + k = np → k < m → f_X6_whoIsAt_L4 M m v (nI w) (nI p) = some (nI (whN (wonN nm wi ct) (wonN nm lo ct) np v k p w))
  | 0, p, m, w, h, hm => by
    have h8 := hO.1
    obtain ⟨m, rfl⟩ : ∃ m2, m = m2 + 1 := ⟨m - 1, by omega⟩
    rw [f_X6_whoIsAt_L4, hL.1, if_pos ((n_le (by omega) (by omega)).mpr (by omega))]
    rfl
  | k + 1, p, m, w, h, hm => by
    have h8 := hO.1
    obtain ⟨m, rfl⟩ : ∃ m2, m = m2 + 1 := ⟨m - 1, by omega⟩
    rw [f_X6_whoIsAt_L4, hL.1, if_neg (by rw [n_le (by omega) (by omega)]; omega), cl_place hO hL (by omega), bd_s, whN]
    unfold f_X6_whoIsAt_b23
    rw [n_s1]
    by_cases e : nI (plcN (wonN nm wi ct) (wonN nm lo ct) np p) = v
    · rw [if_pos e, if_pos e]; exact cl_who_L hO hL v k (p + 1) m p (by omega) (by omega)
    · rw [if_neg e, if_neg e]; exact cl_who_L hO hL v k (p + 1) m w (by omega) (by omega)
theorem mo_who_L (hO : OKF np nm wo wi lo ct) (hC : MF np nm wo wi lo ct M) (v x : Int32) : ∀ (k p m w : Nat), p + k = np → k < m → w < np → f_X11_table_L116 M m v x (nI w) (nI p) = some (if x = 0 then nI (whN (wonN nm wi ct) (wonN nm lo ct) np v k p w) else nI (wonN nm wi ct (whN (wonN nm wi ct) (wonN nm lo ct) np v k p w)))
  | 0, p, m, w, h, hm, hw => by
    have h8 := hO.1
    obtain ⟨m, rfl⟩ : ∃ m2, m = m2 + 1 := ⟨m - 1, by omega⟩
    rw [f_X11_table_L116, hC.1, if_pos ((n_le (by omega) (by omega)).mpr (by omega)), s_wonByM hC hO (by omega), bd_s]
    split <;> rfl
  | k + 1, p, m, w, h, hm, hw => by
    have h8 := hO.1
    obtain ⟨m, rfl⟩ : ∃ m2, m = m2 + 1 := ⟨m - 1, by omega⟩
    rw [f_X11_table_L116, hC.1, if_neg (by rw [n_le (by omega) (by omega)]; omega), mo_place hO hC (by omega), bd_s, whN]
    unfold f_X11_table_b141
    rw [n_s1]
    by_cases e : nI (plcN (wonN nm wi ct) (wonN nm lo ct) np p) = v
    · rw [if_pos e, if_pos e]; exact mo_who_L hO hC v x k (p + 1) m p (by omega) (by omega) (by omega)
    · rw [if_neg e, if_neg e]; exact mo_who_L hO hC v x k (p + 1) m w (by omega) (by omega) hw
theorem cl_ups_L (hO : OKF np nm wo wi lo ct) (hC : CF np nm wo wi lo ct M) (hL : LG np (wonN nm wi ct) (wonN nm lo ct) M) : ∀ (k j m acc : Nat), j + k = nm → k < m → f_X6_lostByHigher_L4 M m (nI acc) (nI j) = some (nI (acc + su (fun m => if ct m = 1 ∧ hig (wonN nm wi ct) (wonN nm lo ct) (lo m) (wi m) = true then 1 else 0) k j))
  | 0, j, m, acc, h, hm => by
    have h12 := hO.2.1
    obtain ⟨m, rfl⟩ : ∃ m2, m = m2 + 1 := ⟨m - 1, by omega⟩
    rw [f_X6_lostByHigher_L4, hC.2.1, if_pos ((n_le (by omega) (by omega)).mpr (by omega))]
    rfl
  | k + 1, j, m, acc, h, hm => by
    have h12 := hO.2.1
    obtain ⟨m, rfl⟩ : ∃ m2, m = m2 + 1 := ⟨m - 1, by omega⟩
    obtain ⟨a1, a2, a3⟩ := hC.2.2.2 j (by omega)
    obtain ⟨b1, b2, b3, b4⟩ := hO.2.2.2 j (by omega)
    have e1 : (nI (ct j) = 1) = (ct j = 1) := propext (n_eq (b := 1) (by omega) (by omega))
    rw [f_X6_lostByHigher_L4, hC.2.1, if_neg (by rw [n_le (by omega) (by omega)]; omega), ck_t (okI_5 (by omega)), ck_t (okI_4 (by omega)), ck_t (okI_3 (by omega)), n_clamp (by omega), a1, a2, a3, cl_isH hO hL b2 b1, bd_s, ite_bb, su]
    simp only [e1]
    unfold f_X6_lostByHigher_b44
    rw [n_s1, n_s1]
    by_cases q : ct j = 1
    · rw [if_pos q]
      by_cases e : hig (wonN nm wi ct) (wonN nm lo ct) (lo j) (wi j) = true
      · rw [if_pos e, if_pos ⟨q, e⟩]; exact (cl_ups_L hO hC hL k (j + 1) m (acc + 1) (by omega) (by omega)).trans (by rw [Nat.add_assoc])
      · rw [if_neg e, if_neg (fun h => e h.2)]; exact (cl_ups_L hO hC hL k (j + 1) m acc (by omega) (by omega)).trans (by rw [Nat.zero_add])
    · rw [if_neg q, if_neg (fun h => q h.1)]; exact (cl_ups_L hO hC hL k (j + 1) m acc (by omega) (by omega)).trans (by rw [Nat.zero_add])
theorem mo_ups_L (hO : OKF np nm wo wi lo ct) (hC : MF np nm wo wi lo ct M) : ∀ (k j m acc : Nat), j + k = nm → k < m → f_X11_table_L56 M m (nI acc) (nI j) = some (nI (acc + su (fun m => if ct m = 1 ∧ hig (wonN nm wi ct) (wonN nm lo ct) (lo m) (wi m) = true then 1 else 0) k j))
  | 0, j, m, acc, h, hm => by
    have h12 := hO.2.1
    obtain ⟨m, rfl⟩ : ∃ m2, m = m2 + 1 := ⟨m - 1, by omega⟩
    rw [f_X11_table_L56, hC.2.1, if_pos ((n_le (by omega) (by omega)).mpr (by omega))]
    rfl
  | k + 1, j, m, acc, h, hm => by
    have h12 := hO.2.1
    obtain ⟨m, rfl⟩ : ∃ m2, m = m2 + 1 := ⟨m - 1, by omega⟩
    obtain ⟨a1, a2, a3⟩ := hC.2.2.2 j (by omega)
    obtain ⟨b1, b2, b3, b4⟩ := hO.2.2.2 j (by omega)
    rw [f_X11_table_L56, hC.2.1, if_neg (by rw [n_le (by omega) (by omega)]; omega), s_counts hC hO (by omega), bd_s, ite_bb, ck_t (okI_53 (by omega)), ck_t (okI_52 (by omega)), n_clamp (by omega), a1, a2, mo_isH hO hC b2 b1, bd_s, ite_bb, su]
    unfold f_X11_table_b100 f_X11_table_b101
    rw [lt_e, lt_e, n_s1, n_s1, Int32.add_zero]
    by_cases q : ct j = 1
    · rw [if_pos (by simpa using q)]
      by_cases e : hig (wonN nm wi ct) (wonN nm lo ct) (lo j) (wi j) = true
      · rw [if_pos e, if_pos ⟨q, e⟩]; exact (mo_ups_L hO hC k (j + 1) m (acc + 1) (by omega) (by omega)).trans (by rw [Nat.add_assoc])
      · rw [if_neg e, if_neg (fun h => e h.2)]; exact (mo_ups_L hO hC k (j + 1) m acc (by omega) (by omega)).trans (by rw [Nat.zero_add])
    · rw [if_neg (by simpa using q), if_neg (fun h => q h.1)]; exact (mo_ups_L hO hC k (j + 1) m acc (by omega) (by omega)).trans (by rw [Nat.zero_add])
theorem cl_table (hO : OKF np nm wo wi lo ct) (hC : CF np nm wo wi lo ct M) (v w : Int32) : ∃ M1, f_X10_table v w M = some (tabA np nm wi lo ct v w, M1) := by
  have h8 := hO.1
  have h12 := hO.2.1
  obtain ⟨M2, f2, c2, l2⟩ := cl_read hO hC
  have hn0 : (nI np = 0) = (np = 0) := propext (n_eq (b := 0) (by omega) (by omega))
  have hups := cl_ups_L hO c2 l2 nm 0 FU 0 (by omega) (by unfold FU; omega)
  have hups' : f_X6_lostByHigher M2 = some (nI (upsN (wonN nm wi ct) (wonN nm lo ct) nm wi lo ct)) := by
    rw [Nat.zero_add] at hups; exact hups
  have hwho' : f_X6_whoIsAt v M2 = some (nI (whN (wonN nm wi ct) (wonN nm lo ct) np v np 0 0)) := cl_who_L hO l2 v np 0 FU 0 (by omega) (by unfold FU; omega)
  unfold f_X10_table tabA
  rcases in3_c w with ⟨q1, q2, q3⟩ | ⟨q1, q2⟩
  · rw [if_neg q2, if_neg q3, if_pos q1]
    by_cases qw : w = 2
    · subst qw
      rw [if_pos rfl, if_pos rfl]
      by_cases qv : v = 0
      · subst qv
        rw [if_pos (by decide), if_pos rfl, if_pos rfl]
        unfold f_X10_table_b40
        rw [hC.1]
        simp only [hn0]
        by_cases q0 : np = 0
        · rw [if_pos q0, if_pos q0]; exact ⟨M, rfl⟩
        · rw [if_neg q0, if_neg q0, f2, bd_s, if_pos trivial, hups', bd_s]; exact ⟨M2, rfl⟩
      · rw [if_neg qv, if_neg qv, ite_self]; exact ⟨M, rfl⟩
    · rw [if_neg qw, if_neg qw, hC.1]
      by_cases qv : inN np v = true
      · obtain ⟨p, hp, hp2, rfl⟩ := inN_t qv
        have hlt := whN_lt (wonN nm wi ct) (wonN nm lo ct) np (nI p) np 0 0 (by omega) (by omega)
        rw [if_pos (nI_pos' (by omega)), if_pos ((n_lt (by omega) (by omega)).mpr hp), if_pos qv]
        unfold f_X10_table_b40
        rw [hC.1]
        simp only [hn0]
        rw [if_neg (by omega), f2, bd_s, if_neg qw, hwho', bd_s]
        by_cases q0 : w = 0
        · rw [if_pos q0, if_pos q0]; exact ⟨M2, rfl⟩
        · rw [if_neg q0, if_neg q0, ck_t (okI_35 (by omega)), n_clamp (by omega), (l2.2 _ hlt).1]; exact ⟨M2, rfl⟩
      · rw [if_neg qv]
        have : ¬ (0 ≤ v ∧ v < nI np) := by
          rintro ⟨h1, h2⟩
          apply qv
          rw [i_lt, n_toInt (by omega)] at h2
          rw [i_le] at h1
          have h0 : (0 : Int32).toInt = 0 := rfl
          simp only [inN, decide_eq_true_eq]
          omega
        by_cases h1 : 0 ≤ v
        · rw [if_pos h1, if_neg (fun h2 => this ⟨h1, h2⟩)]; exact ⟨M, rfl⟩
        · rw [if_neg h1]; exact ⟨M, rfl⟩
  · have hA : ¬ inN 3 w = true := by rw [q1]; decide
    rw [if_neg hA]
    rcases q2 with q2 | q2
    · rw [if_pos q2]; exact ⟨M, rfl⟩
    · rw [if_pos q2, ite_self]; exact ⟨M, rfl⟩
theorem mo_table (hO : OKF np nm wo wi lo ct) (hC : MF np nm wo wi lo ct M) (v w : Int32) : f_X11_table v w M = some (tabA np nm wi lo ct v w) := by
  have h8 := hO.1
  have h12 := hO.2.1
  have hn0 : (nI np = 0) = (np = 0) := propext (n_eq (b := 0) (by omega) (by omega))
  have hups := mo_ups_L hO hC nm 0 FU 0 (by omega) (by unfold FU; omega)
  have hups' : f_X11_table_L56 M FU 0 0 = some (nI (upsN (wonN nm wi ct) (wonN nm lo ct) nm wi lo ct)) := by
    rw [Nat.zero_add] at hups; exact hups
  unfold f_X11_table tabA
  rw [s_within_n 2 2 rfl w, bd_s, ite_bb]
  by_cases q1 : inN 3 w = true
  · rw [if_pos q1, if_pos q1]
    by_cases qw : w = 2
    · subst qw
      rw [if_pos rfl, if_pos rfl]
      by_cases qv : v = 0
      · subst qv
        rw [if_pos rfl, if_pos rfl]
        unfold f_X11_table_b21 f_X11_table_b36
        rw [if_pos (by decide), hC.1]
        simp only [hn0]
        by_cases q0 : np = 0
        · rw [if_pos q0, if_pos q0]
        · rw [if_neg q0, if_neg q0, if_pos trivial, hups']
      · rw [if_neg qv, if_neg qv]
    · rw [if_neg qw, if_neg qw]
      unfold f_X11_table_b21 f_X11_table_b36
      have hw2 : ¬ (2 : Int32) ≤ w := by
        obtain ⟨j, hj, hj2, rfl⟩ := inN_t q1
        rw [show (2 : Int32) = nI 2 from rfl, n_le (by omega) (by omega)]
        intro h
        have : j = 2 := by omega
        subst this
        exact qw rfl
      rw [if_neg hw2, s_isPlayer hC.1 hO.1, bd_s, ite_bb]
      by_cases qv : inN np v = true
      · obtain ⟨p, hp, hp2, rfl⟩ := inN_t qv
        rw [if_pos qv, if_pos qv, hC.1]
        simp only [hn0]
        rw [if_neg (by omega), if_neg qw]
        exact mo_who_L hO hC (nI p) w np 0 FU 0 (by omega) (by unfold FU; omega) (by omega)
      · rw [if_neg qv, if_neg qv]
  · rw [if_neg q1, if_neg q1]
end TAB
