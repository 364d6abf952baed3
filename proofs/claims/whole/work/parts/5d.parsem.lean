/-! the model reads the text and works it out at once -/
def MSt (tp : Nat → Nat) (n : Nat) (bs : Bool) (nm : Nat → Int32) (d : Nat) (s : LwS) (M : Mem) : Prop := (bs = true → M.1 47 14 = -1 ∧ ∀ j, j < n → M.1 54 j = nI (tp j)) ∧ (bs = false → M.1 47 14 = 0 ∧ ∀ j, j < n → M.1 55 j = nI (tp j)) ∧ M.1 47 15 = nI s.1 ∧ M.1 47 16 = nI n ∧ M.1 47 17 = flI s.2 ∧ (s.2 = none → M.1 47 18 = nI (6 - d)) ∧ (∀ i, i < 5 → M.1 56 i = nm i) ∧ (∀ f, s.2 = some f → f ≤ n)
def MoP (tp : Nat → Nat) (n : Nat) (bs : Bool) (nm : Nat → Int32) (d : Nat) (f : Mem → Option (Int32 × Mem)) (P : LwS → LwS × LwL) : Prop := ∀ (s : LwS) (M : Mem), s.1 ≤ n → MSt tp n bs nm d s M → ∃ v M2, f M = some (v, M2) ∧ MSt tp n bs nm d (P s).1 M2 ∧ ((P s).1.2 = none → v = vl nm (P s).2)
section MLAW
variable {tp : Nat → Nat} {n : Nat} {bs : Bool} {nm : Nat → Int32} {d : Nat} {s : LwS} {M : Mem}
theorem MSt.fl (hT : okTx tp n) (h : MSt tp n bs nm d s M) : (0 ≤ M.1 47 17) = (¬ s.2 = none) := by
  rw [h.2.2.2.2.1]
  exact flI_neg (fun x q => by have := h.2.2.2.2.2.2.2 x q; have := hT.1; omega)
theorem MSt.fl2 (hT : okTx tp n) (h : MSt tp n bs nm d s M) : (M.1 47 17 < 0) = (s.2 = none) := by
  have e := h.fl hT
  apply propext
  rw [i_lt]
  rw [i_le] at e
  constructor
  · intro q
    by_cases q2 : s.2 = none
    · exact q2
    · have := e.mpr q2; omega
  · intro q
    have : ¬ (0 : Int32).toInt ≤ (M.1 47 17).toInt := fun q2 => (e.mp q2) q
    omega
/-- the byte that stands there, whether there is a fault or not -/
def lby (tp : Nat → Nat) (n : Nat) (s : LwS) : Nat := if s.1 < n then tp s.1 else 0
theorem lby_ch (h : s.2 = none) : lby tp n s = lch tp n s ∨ (lby tp n s = 0 ∧ lch tp n s = 999) := by
  unfold lby lch
  by_cases q : s.1 < n
  · rw [if_pos q, if_pos ⟨h, q⟩]; exact Or.inl rfl
  · rw [if_neg q, if_neg (fun q2 => q q2.2)]; exact Or.inr ⟨rfl, rfl⟩
theorem lby_b (hT : okTx tp n) (s : LwS) : lby tp n s ≤ 255 := by
  unfold lby
  split
  · exact hT.2 _ (by assumption)
  · omega
theorem ms_byte (hT : okTx tp n) (h : MSt tp n bs nm d s M) (hs : s.1 ≤ n) : f_X11_byteAt M = some (nI (lby tp n s)) := by
  have h120 := hT.1
  obtain ⟨a1, a2, a3, a4, a5, a6, a7, a8⟩ := h
  unfold f_X11_byteAt
  rw [a3, a4]
  simp only [n_le (show n < 2147483648 by omega) (show s.1 < 2147483648 by omega)]
  by_cases q : n ≤ s.1
  · have e : lby tp n s = 0 := by unfold lby; rw [if_neg (by omega)]
    rw [if_pos q, e]; rfl
  · have e : lby tp n s = tp s.1 := by unfold lby; rw [if_pos (by omega)]
    rw [if_neg q, e]
    cases bs with
    | true =>
      obtain ⟨b1, b2⟩ := a1 rfl
      rw [b1, if_neg (by decide), ck_t (okI_54 (by omega)), n_clamp (by omega), b2 _ (by omega)]
    | false =>
      obtain ⟨b1, b2⟩ := a2 rfl
      rw [b1, if_pos (by decide), show (0 : Int32) + nI s.1 = nI (0 + s.1) from n_add 0 s.1, Nat.zero_add, ck_t (okI_55 (by omega)), n_clamp (by omega), b2 _ (by omega)]
theorem by_eq (hT : okTx tp n) (h : s.2 = none) {k : Nat} (hk : k ≤ 255) (hk0 : k ≠ 0) : (nI (lby tp n s) = nI k) = (lch tp n s = k) := by
  have := lby_b hT s
  apply propext
  rw [n_eq (by omega) (by omega)]
  rcases lby_ch (tp := tp) (n := n) h with q | ⟨q1, q2⟩ <;> omega
theorem MSt.w15 (h : MSt tp n bs nm d s M) : MSt tp n bs nm d (ladv s) (wI M 47 15 (M.1 47 15 + 1)) := by
  obtain ⟨a1, a2, a3, a4, a5, a6, a7, a8⟩ := h
  rw [a3, n_s1]
  refine ⟨fun q => ⟨by simp [wI_rd, (a1 q).1], fun j hj => by simp [wI_rd, (a1 q).2 j hj]⟩, fun q => ⟨by simp [wI_rd, (a2 q).1], fun j hj => by simp [wI_rd, (a2 q).2 j hj]⟩, by simp [wI_rd, ladv], by simp [wI_rd, a4], by simp [wI_rd, a5, ladv], fun q => by simp [wI_rd, a6 q], fun i hi => by simp [wI_rd, a7 i hi], a8⟩
theorem MSt.w18 {e : Nat} (h : MSt tp n bs nm d s M) : MSt tp n bs nm e s (wI M 47 18 (nI (6 - e))) := by
  obtain ⟨a1, a2, a3, a4, a5, a6, a7, a8⟩ := h
  refine ⟨fun q => ⟨by simp [wI_rd, (a1 q).1], fun j hj => by simp [wI_rd, (a1 q).2 j hj]⟩, fun q => ⟨by simp [wI_rd, (a2 q).1], fun j hj => by simp [wI_rd, (a2 q).2 j hj]⟩, by simp [wI_rd, a3], by simp [wI_rd, a4], by simp [wI_rd, a5], fun q => by simp [wI_rd], fun i hi => by simp [wI_rd, a7 i hi], a8⟩
theorem MSt.w18f {e : Nat} {v : Int32} (h : MSt tp n bs nm d s M) (hf : ¬ s.2 = none) : MSt tp n bs nm e s (wI M 47 18 v) := by
  obtain ⟨a1, a2, a3, a4, a5, a6, a7, a8⟩ := h
  refine ⟨fun q => ⟨by simp [wI_rd, (a1 q).1], fun j hj => by simp [wI_rd, (a1 q).2 j hj]⟩, fun q => ⟨by simp [wI_rd, (a2 q).1], fun j hj => by simp [wI_rd, (a2 q).2 j hj]⟩, by simp [wI_rd, a3], by simp [wI_rd, a4], by simp [wI_rd, a5], fun q => absurd q hf, fun i hi => by simp [wI_rd, a7 i hi], a8⟩
theorem MSt.dd {e : Nat} (h : MSt tp n bs nm d s M) (hf : ¬ s.2 = none) : MSt tp n bs nm e s M := by
  obtain ⟨a1, a2, a3, a4, a5, a6, a7, a8⟩ := h
  exact ⟨a1, a2, a3, a4, a5, fun q => absurd q hf, a7, a8⟩
theorem ms_takes (hT : okTx tp n) (h : MSt tp n bs nm d s M) (hs : s.1 ≤ n) {k : Nat} (hk : k ≤ 255) (hk0 : k ≠ 0) : ∃ M2, f_X11_takes (nI k) M = some (bb (decide (lch tp n s = k)), M2) ∧ MSt tp n bs nm d (if lch tp n s = k then ladv s else s) M2 := by
  unfold f_X11_takes
  simp only [h.fl hT]
  by_cases q : s.2 = none
  · rw [if_neg (by simpa using q), ms_byte hT h hs, bd_s]
    simp only [by_eq hT q hk hk0]
    by_cases q2 : lch tp n s = k
    · rw [if_pos q2, if_pos q2, lt_e]
      exact ⟨_, by rw [decide_eq_true q2]; rfl, h.w15⟩
    · rw [if_neg q2, if_neg q2]
      exact ⟨M, by rw [decide_eq_false q2]; rfl, h⟩
  · have e : lch tp n s = 999 := by unfold lch; rw [if_neg (fun q2 => q q2.1)]
    rw [if_pos q, e, if_neg (by omega)]
    exact ⟨M, by rw [decide_eq_false (by omega)]; rfl, h⟩
theorem ms_faulty (h : MSt tp n bs nm d s M) (hT : okTx tp n) (hs : s.1 ≤ n) {e : Nat} : ∃ M2, f_X11_faulty M = some (0, M2) ∧ MSt tp n bs nm e (lfal s) M2 := by
  have h120 := hT.1
  unfold f_X11_faulty f_X11_faulty_b19
  simp only [h.fl hT]
  obtain ⟨a1, a2, a3, a4, a5, a6, a7, a8⟩ := h
  have key : ∀ x : Int32, x = flI (lfal s).2 → MSt tp n bs nm e (lfal s) (wI M 47 17 x) := by
    intro x hx
    refine ⟨fun q => ⟨by simp [wI_rd, (a1 q).1], fun j hj => by simp [wI_rd, (a1 q).2 j hj]⟩, fun q => ⟨by simp [wI_rd, (a2 q).1], fun j hj => by simp [wI_rd, (a2 q).2 j hj]⟩, by simp [wI_rd, a3, lfal], by simp [wI_rd, a4], by simp [wI_rd, hx], fun q => absurd q (lfal_n s), fun i hi => by simp [wI_rd, a7 i hi], fun f hf => ?_⟩
    simp only [lfal, Option.some.injEq] at hf
    cases h2 : s.2 with
    | none => rw [h2] at hf; simp at hf; omega
    | some f2 => rw [h2] at hf; simp at hf; have := a8 f2 h2; omega
  by_cases q : s.2 = none
  · rw [if_neg (by simpa using q), lt_e]
    exact ⟨_, rfl, key _ (by rw [a3]; simp [lfal, q, flI])⟩
  · rw [if_pos q, lt_e]
    obtain ⟨f, hf⟩ := Option.ne_none_iff_exists'.mp q
    exact ⟨_, rfl, key _ (by rw [a5]; simp [lfal, hf])⟩
theorem ms_num (hT : okTx tp n) {rc : Mem → Option (Int32 × Mem)} : ∀ (k m g : Nat) (s : LwS) (v : Int32) (M : Mem), g + k = 4 → 1 ≤ g → k < m → s.1 ≤ n → s.2 = none → MSt tp n bs nm d s M → ∃ M2, f_X11_one_L176 rc m v (nI g) M = some ((pNum tp n k s v).2, M2) ∧ MSt tp n bs nm d (pNum tp n k s v).1 M2
  | 0, m, g, s, v, M, h1, h2, h3, hs, hf, hC => by
    obtain ⟨m, rfl⟩ : ∃ m2, m = m2 + 1 := ⟨m - 1, by omega⟩
    have e : g = 4 := by omega
    subst e
    rw [f_X11_one_L176, if_pos (by decide)]
    exact ⟨M, rfl, hC⟩
  | k + 1, m, g, s, v, M, h1, h2, h3, hs, hf, hC => by
    obtain ⟨m, rfl⟩ : ∃ m2, m = m2 + 1 := ⟨m - 1, by omega⟩
    have h4 : ¬ (4 : Int32) ≤ nI g := fun q => by have := (n_le (a := 4) (by omega) (by omega)).mp q; omega
    have hg0 : ¬ nI g = 0 := fun q => by have := (n_eq (b := 0) (by omega) (by omega)).mp q; omega
    have hb := lby_b hT s
    have e1 : (nI (lby tp n s) < 48) = (lby tp n s < 48) := propext (n_lt (b := 48) (by omega) (by omega))
    have e2 : ((57 : Int32) < nI (lby tp n s)) = (57 < lby tp n s) := propext (n_lt (a := 57) (by omega) (by omega))
    have hc := lby_ch (tp := tp) (n := n) hf
    rw [f_X11_one_L176, if_neg h4, ms_byte hT hC hs, bd_s, bd_s, bd_s, pNum]
    unfold f_X11_one_b229
    simp only [e1, e2]
    rw [if_neg hg0]
    by_cases q : 48 ≤ lch tp n s ∧ lch tp n s ≤ 57
    · rw [if_neg (by omega), if_neg (by omega), if_pos q, lt_e, lt_e, n_s1]
      obtain ⟨b1, -⟩ := lch_lt (tp := tp) (n := n) (s := s) (by omega)
      have e : lby tp n s = lch tp n s := by omega
      rw [e, Int32.mul_comm 10 v]
      exact ms_num hT k m (g + 1) (ladv s) _ _ (by omega) (by omega) (by omega) (by unfold ladv; omega) hf hC.w15
    · rw [if_neg q]
      by_cases q2 : lby tp n s < 48
      · rw [if_pos q2]; exact ⟨M, rfl, hC⟩
      · rw [if_neg q2, if_pos (by omega)]; exact ⟨M, rfl, hC⟩
end MLAW
