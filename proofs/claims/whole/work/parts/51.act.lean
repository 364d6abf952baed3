/-! act -/
def tAp (tr : Nat → Nat) (rn : Nat) (l : List Nat) : Nat → Nat := fun j => if j < rn then tr j else l.getD (j - rn) 0
theorem tAp_nil (tr : Nat → Nat) (rn : Nat) (j : Nat) (h : j < rn) : tAp tr rn [] j = tr j := by simp [tAp, h]
theorem tAp_app (tr : Nat → Nat) (rn : Nat) (l l2 : List Nat) : tAp (tAp tr rn l) (rn + l.length) l2 = tAp tr rn (l ++ l2) := by
  funext j
  unfold tAp
  by_cases h : j < rn
  · simp [h, show j < rn + l.length by omega]
  · by_cases h2 : j < rn + l.length
    · simp only [h, h2, if_true, if_false, List.getD_eq_getElem?_getD]
      rw [List.getElem?_append_left (by omega)]
    · simp only [h, h2, if_false, List.getD_eq_getElem?_getD]
      rw [List.getElem?_append_right (by omega)]
      rw [show j - rn - l.length = j - (rn + l.length) by omega]
def Wk (P : Nat → (Nat → Nat) → Mem → Prop) (X : Mem → Option (Int32 × Mem)) (l : List Nat) (v : Int32) : Prop := ∀ (rn : Nat) (tr : Nat → Nat) (M : Mem), rn + l.length < 1000 → P rn tr M → ∃ M2, X M = some (v, M2) ∧ P (rn + l.length) (tAp tr rn l) M2
def WkB (P : Nat → (Nat → Nat) → Mem → Prop) (Y : Mem → Option Mem) (c : Nat) : Prop := ∀ (rn : Nat) (tr : Nat → Nat) (M : Mem), rn + 1 < 1000 → P rn tr M → ∃ M2, Y M = some M2 ∧ P (rn + 1) (tAp tr rn [c]) M2
section WK
variable {P : Nat → (Nat → Nat) → Mem → Prop} {X X2 : Mem → Option (Int32 × Mem)} {l l2 : List Nat} {v v2 : Int32} {Y : Mem → Option Mem} {c : Nat}
theorem Wk.beg (hY : WkB P Y c) (hX : Wk P X l v) : Wk P (fun M => (Y M).bind X) (c :: l) v := by
  intro rn tr M hn hP
  simp only [List.length_cons] at hn
  obtain ⟨M1, e1, h1⟩ := hY rn tr M (by omega) hP
  obtain ⟨M2, e2, h2⟩ := hX (rn + 1) _ M1 (by omega) h1
  refine ⟨M2, by simp only [e1, bd_s, e2], ?_⟩
  have e := tAp_app tr rn [c] l
  rw [show rn + [c].length = rn + 1 from rfl] at e
  rw [e] at h2
  rw [List.length_cons, show rn + (l.length + 1) = rn + 1 + l.length by omega]
  exact h2
theorem Wk.seq {K : Int32 → Mem → Option (Int32 × Mem)} (hX : Wk P X l v) (hK : Wk P (K v) l2 v2) : Wk P (fun M => bI (X M) K) (l ++ l2) v2 := by
  intro rn tr M hn hP
  rw [List.length_append] at hn
  obtain ⟨M1, e1, h1⟩ := hX rn tr M (by omega) hP
  obtain ⟨M2, e2, h2⟩ := hK _ _ M1 (by omega) h1
  refine ⟨M2, by simp only [e1, bI_s, e2], ?_⟩
  rw [tAp_app] at h2
  rw [List.length_append, ← Nat.add_assoc]
  exact h2
theorem Wk.map (g : Int32 → Int32) (hX : Wk P X l v) : Wk P (fun M => bI (X M) fun a m => some (g a, m)) l (g v) := by
  intro rn tr M hn hP
  obtain ⟨M1, e1, h1⟩ := hX rn tr M hn hP
  exact ⟨M1, by simp only [e1, bI_s], h1⟩
theorem Wk.cg (h : ∀ (rn : Nat) (tr : Nat → Nat) (M : Mem), P rn tr M → X2 M = X M) (hX : Wk P X l v) : Wk P X2 l v := by
  intro rn tr M hn hP
  rw [h rn tr M hP]
  exact hX rn tr M hn hP
end WK
def Pc (b k : Nat) (rn : Nat) (tr : Nat → Nat) (M : Mem) : Prop := CR rn tr M ∧ M.1 40 4 = nI b ∧ M.1 42 b = nI k
def Pm (b k : Nat) (rn : Nat) (tr : Nat → Nat) (M : Mem) : Prop := MR rn tr M ∧ M.1 47 45 = nI b ∧ M.1 47 44 = nI k
theorem tAp_1 (tr : Nat → Nat) (rn c j : Nat) (h : j < rn + 1) : tAp tr rn [c] j = if j = rn then c else tr j := by
  unfold tAp
  by_cases q : j = rn
  · subst q; simp
  · simp [q, show j < rn by omega]
theorem wkb_c {b k : Nat} (c : Nat) : WkB (Pc b k) (f_X1_begin (nI c)) c := by
  intro rn tr M hn ⟨⟨h1, h2⟩, h3, h4⟩
  have e : ((24 : Int32) ≤ nI rn) = (24 ≤ rn) := propext (n_le (a := 24) (by omega) (by omega))
  by_cases h : 24 ≤ rn
  · refine ⟨wI M 40 1 (nI (rn + 1)), by simp (disch := omega) [f_X1_begin, f_X1_begin_b19, h1, e, h, lt_e, n_s1], ⟨by simp [wI_rd], fun j hj hj2 => ?_⟩, by simp [wI_rd, h3], by simp [wI_rd, h4]⟩
    rw [tAp_1 _ _ _ _ hj]
    simp [wI_rd, h2 j (by omega) hj2, show ¬ j = rn by omega]
  · refine ⟨wI (wI M 41 rn (nI c)) 40 1 (nI (rn + 1)), by simp (disch := omega) [f_X1_begin, f_X1_begin_b19, h1, e, h, lt_e, n_s1, okI_41, ck_T, n_clamp, wI_rd], ⟨by simp [wI_rd], fun j hj hj2 => ?_⟩, by simp [wI_rd, h3], by simp [wI_rd, h4]⟩
    rw [tAp_1 _ _ _ _ hj]
    by_cases q : j = rn
    · simp [wI_rd, q]
    · simp [wI_rd, h2 j (by omega) hj2, q]
theorem wkb_m {b k : Nat} (c : Nat) : WkB (Pm b k) (f_X11_begins (nI c)) c := by
  intro rn tr M hn ⟨⟨h1, h2⟩, h3, h4⟩
  have e : ((24 : Int32) ≤ nI rn) = (24 ≤ rn) := propext (n_le (a := 24) (by omega) (by omega))
  by_cases h : 24 ≤ rn
  · refine ⟨wI M 47 43 (nI (rn + 1)), by simp (disch := omega) [f_X11_begins, f_X11_begins_b19, h1, e, h, lt_e, n_s1], ⟨by simp [wI_rd], fun j hj hj2 => ?_⟩, by simp [wI_rd, h3], by simp [wI_rd, h4]⟩
    rw [tAp_1 _ _ _ _ hj]
    simp [wI_rd, h2 j (by omega) hj2, show ¬ j = rn by omega]
  · refine ⟨wI (wI M 72 rn (nI c)) 47 43 (nI (rn + 1)), by simp (disch := omega) [f_X11_begins, f_X11_begins_b19, h1, e, h, lt_e, n_s1, okI_72, ck_T, n_clamp, wI_rd], ⟨by simp [wI_rd], fun j hj hj2 => ?_⟩, by simp [wI_rd, h3], by simp [wI_rd, h4]⟩
    rw [tAp_1 _ _ _ _ hj]
    by_cases q : j = rn
    · simp [wI_rd, q]
    · simp [wI_rd, h2 j (by omega) hj2, q]
theorem wk_ret {P : Nat → (Nat → Nat) → Mem → Prop} {v : Int32} (hP : ∀ rn tr tr2 M, (∀ j, j < rn → tr2 j = tr j) → P rn tr M → P rn tr2 M) : Wk P (fun M => some (v, M)) [] v := fun rn tr M _ h => ⟨M, rfl, hP rn tr _ M (fun j hj => tAp_nil tr rn j hj) h⟩
theorem pc_e {b k : Nat} : ∀ rn tr tr2 M, (∀ j, j < rn → tr2 j = tr j) → Pc b k rn tr M → Pc b k rn tr2 M := fun rn tr tr2 M h ⟨⟨h1, h2⟩, h3⟩ => ⟨⟨h1, fun j hj hj2 => by rw [h j hj]; exact h2 j hj hj2⟩, h3⟩
theorem pm_e {b k : Nat} : ∀ rn tr tr2 M, (∀ j, j < rn → tr2 j = tr j) → Pm b k rn tr M → Pm b k rn tr2 M := fun rn tr tr2 M h ⟨⟨h1, h2⟩, h3⟩ => ⟨⟨h1, fun j hj hj2 => by rw [h j hj]; exact h2 j hj hj2⟩, h3⟩
/-- which body a kind's act runs -/
def resB (k a : Nat) : Nat := ([1, 10, 11, 2, 20, 10, 11, 2, 1, 30, 11, 2, 1, 41, 40, 2, 20, 10, 50, 2, 1, 41, 40, 60, 70, 10, 11, 2, 20, 80, 50, 81] : List Nat).getD (k * 4 + a) 0
theorem from_res {rc : Int32 → Int32 → Int32 → Int32 → Mem → Option (Int32 × Mem)} (n : Nat) {k a : Nat} (hk : k < 8) (ha : a < 4) (x : Int32) {dep : Int32} (hd : ¬ (30 : Int32) ≤ dep) (M : Mem) : f_X1_from_L6 rc (n + 5) (nI a) x dep (nI k) 0 M = (f_X1_begin (nI (resB k a)) M).bind fun M5 => bI (f_X1_run rc (nI (resB k a)) x (dep + 1) M5) fun v m => some (v, m) := by
  have key : ∀ (st v5 : Int32) (n : Nat) (b : Int32), ¬ (7 : Int32) < st → inN 8 v5 = true → okS 1 (v5 * 4 + nI a) = true → (ab_st 1).getD (v5 * 4 + nI a).toNatClampNeg 0 = b → ¬ b = 0 → f_X1_from_L6 rc (n + 1) (nI a) x dep v5 st M = (f_X1_begin b M).bind fun M5 => bI (f_X1_run rc b x (dep + 1) M5) fun v m => some (v, m) := by
    intro st v5 n b h1 h2 h3 h4 h5
    rw [f_X1_from_L6, if_neg h1, s_isKind, bd_s, ite_bb, if_pos h2, ck_t h3, lt_e, h4, if_neg h5, if_neg hd]
  have up : ∀ (st v5 : Int32) (n : Nat), ¬ (7 : Int32) < st → inN 8 v5 = true → okS 1 (v5 * 4 + nI a) = true → (ab_st 1).getD (v5 * 4 + nI a).toNatClampNeg 0 = 0 → okS 0 v5 = true → f_X1_from_L6 rc (n + 1) (nI a) x dep v5 st M = f_X1_from_L6 rc n (nI a) x dep ((ab_st 0).getD v5.toNatClampNeg 0) (st + 1) M := by
    intro st v5 n h1 h2 h3 h4 h6
    rw [f_X1_from_L6, if_neg h1, s_isKind, bd_s, ite_bb, if_pos h2, ck_t h3, lt_e, h4, if_pos rfl]
    unfold f_X1_from_b63
    rw [ck_t h6, lt_e]
  have h8 : k = 0 ∨ k = 1 ∨ k = 2 ∨ k = 3 ∨ k = 4 ∨ k = 5 ∨ k = 6 ∨ k = 7 := by omega
  have h4 : a = 0 ∨ a = 1 ∨ a = 2 ∨ a = 3 := by omega
  rcases h8 with rfl | rfl | rfl | rfl | rfl | rfl | rfl | rfl <;> rcases h4 with rfl | rfl | rfl | rfl <;>
  first
  | exact key 0 _ _ _ (by decide) (by decide) (by decide) (by decide) (by decide)
  | (rw [up 0 _ _ (by decide) (by decide) (by decide) (by decide) (by decide)]; exact key _ _ _ _ (by decide) (by decide) (by decide) (by decide) (by decide))
  | (rw [up 0 _ _ (by decide) (by decide) (by decide) (by decide) (by decide), up _ _ _ (by decide) (by decide) (by decide) (by decide) (by decide)]; exact key _ _ _ _ (by decide) (by decide) (by decide) (by decide) (by decide))
  | (rw [up 0 _ _ (by decide) (by decide) (by decide) (by decide) (by decide), up _ _ _ (by decide) (by decide) (by decide) (by decide) (by decide), up _ _ _ (by decide) (by decide) (by decide) (by decide) (by decide)]; exact key _ _ _ _ (by decide) (by decide) (by decide) (by decide) (by decide))
