/-! the law taken in, and the chances by it -/
abbrev LwO : Type := Option ((Nat → Nat) × Nat)
def okO (lw : LwO) : Prop := ∀ t, lw = some t → okTx t.1 t.2 ∧ (pAll t.1 t.2).1.2 = none
def slO (lw : LwO) : LwL := match lw with
  | none => []
  | some t => lnA (pAll t.1 t.2).2
def CW (lw : LwO) (M : Mem) : Prop := M.1 22 7 = nI (slO lw).length ∧ okR M ∧ StL (M.2.2 22 6) (slO lw) M
def MW (lw : LwO) (M : Mem) : Prop := (lw = none → M.1 47 13 = -1) ∧ ∀ t, lw = some t → M.1 47 13 = nI t.2 ∧ ∀ j, j < t.2 → M.1 55 j = nI (t.1 j)
theorem grp_CW {lw : LwO} : Grp [(22, 8), (24, 0), (25, 0)] (CW lw) := by
  intro M M2 h hr hF
  refine ⟨by rw [(h 22 7 (in_f (by decide))).1]; exact hF.1, by unfold okR; rw [hr]; exact hF.2.1, ?_⟩
  rw [hr]
  intro j x q
  have := hF.2.2 j x q
  rcases hF.2.1 with ⟨-, e⟩ | ⟨-, e⟩
  · rw [e] at this ⊢
    rw [(h 25 _ (in_a _ (by decide))).1, (h 25 _ (in_a _ (by decide))).1]
    exact this
  · rw [e] at this ⊢
    rw [(h 24 _ (in_a _ (by decide))).1, (h 24 _ (in_a _ (by decide))).1]
    exact this
theorem grp_MW {lw : LwO} : Grp [(47, 14), (55, 0)] (MW lw) := by
  intro M M2 h _ hF
  refine ⟨fun q => by rw [(h 47 13 (in_f (by decide))).1]; exact hF.1 q, fun t q => ⟨by rw [(h 47 13 (in_f (by decide))).1]; exact (hF.2 t q).1, fun j hj => by rw [(h 55 j (in_a j (by decide))).1]; exact (hF.2 t q).2 j hj⟩⟩
def lawA (t : Nat) (tp : Nat → Nat) : Int32 := match (pAll tp t).1.2 with
  | none => 1
  | some f => -100 - nI f
def lawN (t : Nat) (tp : Nat → Nat) (lw : LwO) : LwO := match (pAll tp t).1.2 with
  | none => some (tp, t)
  | some _ => lw
theorem okO.law {t : Nat} {tp : Nat → Nat} {lw : LwO} (h : okO lw) (hT : OKT t tp) : okO (lawN t tp lw) := by
  unfold lawN
  cases q : (pAll tp t).1.2 with
  | none => intro x hx; cases hx; exact ⟨hT, q⟩
  | some f => exact h
section LAWT
variable {t : Nat} {tp : Nat → Nat} {lw : LwO} {M : Mem}
theorem cl_law (hT : CT t tp M) (hO : OKT t tp) (hW : CW lw M) : ∃ M1, f_X10_law M = some (lawA t tp, M1) ∧ CT 0 tp M1 ∧ CW (lawN t tp lw) M1 ∧ ∀ c k, ¬ inS [(22, 0), (24, 0), (25, 0)] c k → M1.1 c k = M.1 c k ∧ M1.2.1 c k = M.2.1 c k := by
  obtain ⟨w1, w2, w3⟩ := hW
  obtain ⟨D, E, hd, he, hD⟩ : ∃ D E, M.2.2 22 4 = D ∧ M.2.2 22 6 = E ∧ okDE D E := ⟨_, _, rfl, rfl, w2⟩
  have hn : ¬ D = 22 ∧ ¬ E = 22 ∧ ¬ D = E := by rcases hD with ⟨rfl, rfl⟩ | ⟨rfl, rfl⟩ <;> omega
  have hC : CSt tp t D E (M.1 E) (0, none) [] (wI (wI (wI M 22 2 0) 22 3 (-1)) 22 5 0) := by
    refine ⟨by simp [wI_rd, hT.1], fun j hj => by simp [wI_rd, hT.2 j hj], by simp [wI_rd]; rfl, by simp [wI_rd, flI], by simp [wI_rd]; rfl, hd, fun j x q => by simp at q, fun j => by simp [wI_rd, hn.2.1], fun f hf => by cases hf⟩
  obtain ⟨M5, f5, c5⟩ := cs_lines hO hD hC
  have hfr := fr_X5_readLines _ M5 f5 w2.c
  obtain ⟨a1, a2, a3, a4, a5, a6, a7, a8, a9⟩ := c5
  have hr : M5.2.2 = M.2.2 := hfr.1
  have hfr2 : ∀ c k, ¬ inS [(22, 0), (24, 0), (25, 0)] c k → M5.1 c k = M.1 c k ∧ M5.2.1 c k = M.2.1 c k := by
    intro c k h
    have h22 : ¬ c = 22 := fun q => h (by subst q; exact in_a k (by decide))
    obtain ⟨x, y⟩ := hfr.2 c k (by
      rintro ⟨e, h1, h2, h3⟩
      apply h
      simp only [List.mem_cons, List.not_mem_nil, or_false] at h1
      rcases h1 with rfl | rfl | rfl | rfl | rfl
      · exact absurd h2.symm h22
      · exact absurd h2.symm h22
      · exact absurd h2.symm h22
      · simp only at h2; subst h2; exact in_a k (by decide)
      · simp only at h2; subst h2; exact in_a k (by decide))
    simp only [id] at x y
    exact ⟨by rw [x]; simp [wI_rd, h22], by rw [y]; rfl⟩
  have h7 : M5.1 22 7 = M.1 22 7 := by
    have := (hfr.2 22 7 (by
      rintro ⟨e, h1, h2, h3⟩
      simp only [List.mem_cons, List.not_mem_nil, or_false] at h1
      rcases h1 with rfl | rfl | rfl | rfl | rfl <;> simp at h2 h3)).1
    simp only [id] at this
    rw [this]; simp [wI_rd]
  unfold f_X10_law f_X5_adopt
  simp only [lt_e]
  rw [f5, bd_s]
  have e3 : (wI M5 22 0 0).1 22 3 = flI (pAll tp t).1.2 := by simp [wI_rd, a4]
  rw [e3]
  unfold lawA lawN
  cases q : (pAll tp t).1.2 with
  | none =>
    rw [if_pos (by decide), bI_s]
    refine ⟨_, rfl, ⟨by simp [wI_rd, wR]; rfl, fun j hj => by omega⟩, ⟨by simp [wI_rd, wR, slO, a5], ?_, ?_⟩, fun c k h => ?_⟩
    · rcases hD with ⟨rfl, rfl⟩ | ⟨rfl, rfl⟩
      · refine Or.inr ⟨?_, ?_⟩ <;> simp [wI, wR, va_up, hr, hd, he]
      · refine Or.inl ⟨?_, ?_⟩ <;> simp [wI, wR, va_up, hr, hd, he]
    · have e6 : (wI (wR (wR (wI M5 22 0 0) 22 6 ((wI M5 22 0 0).2.2 22 4)) 22 4 ((wI M5 22 0 0).2.2 22 6)) 22 7 ((wR (wR (wI M5 22 0 0) 22 6 ((wI M5 22 0 0).2.2 22 4)) 22 4 ((wI M5 22 0 0).2.2 22 6)).1 22 5)).2.2 22 6 = D := by simp [wI, wR, va_up, hr, hd]
      rw [e6]
      intro j x hx
      have := a7 j x hx
      simp [wI_rd, wR, hn.1, this]
    · have h22 : ¬ c = 22 := fun q => h (by subst q; exact in_a k (by decide))
      obtain ⟨x, y⟩ := hfr2 c k h
      exact ⟨by simp [wI_rd, wR, h22, x], y⟩
  | some f =>
    have hf : ¬ flI (some f) < 0 := nI_pos (by have := a9 f q; have := hO.1; omega)
    rw [if_neg hf, bI_s]
    refine ⟨_, rfl, ⟨by simp [wI_rd]; rfl, fun j hj => by omega⟩, ⟨by simp [wI_rd, h7, w1], by unfold okR; rw [wI_2, hr]; exact w2, ?_⟩, fun c k h => ?_⟩
    · rw [wI_2, hr, he]
      rw [he] at w3
      intro j x hx
      have := w3 j x hx
      simp only [wI_rd, hn.2.1, false_and, if_false, a8]
      exact this
    · have h22 : ¬ c = 22 := fun q => h (by subst q; exact in_a k (by decide))
      obtain ⟨x, y⟩ := hfr2 c k h
      exact ⟨by simp [wI_rd, h22, x], y⟩
theorem mo_law_L {t : Nat} {tp : Nat → Nat} (ht : t ≤ 120) : ∀ (k i m : Nat) (M : Mem), i + k = t → k < m → (∀ j, j < t → M.1 54 j = nI (tp j)) → (∀ j, j < i → M.1 55 j = nI (tp j)) → ∃ M1, f_X11_law_L37 m (nI t) (nI i) M = some (1, M1) ∧ M1.1 47 13 = nI t ∧ (∀ j, j < t → M1.1 55 j = nI (tp j)) ∧ M1.1 47 11 = M.1 47 11
  | 0, i, m, M, h, hm, h1, h2 => by
    obtain ⟨m, rfl⟩ : ∃ m2, m = m2 + 1 := ⟨m - 1, by omega⟩
    rw [f_X11_law_L37, if_pos ((n_le (by omega) (by omega)).mpr (by omega)), lt_e]
    exact ⟨_, rfl, by simp [wI_rd], fun j hj => by simp [wI_rd, h2 j (by omega)], by simp [wI_rd]⟩
  | k + 1, i, m, M, h, hm, h1, h2 => by
    obtain ⟨m, rfl⟩ : ∃ m2, m = m2 + 1 := ⟨m - 1, by omega⟩
    rw [f_X11_law_L37, if_neg (by rw [n_le (by omega) (by omega)]; omega), ck_t (okI_54 (by omega)), ck_t (okI_55 (by omega)), lt_e, n_clamp (by omega), h1 i (by omega), n_s1]
    obtain ⟨M1, f1, c1, c2, c3⟩ := mo_law_L (tp := tp) ht k (i + 1) m (wI M 55 i (nI (tp i))) (by omega) (by omega) (fun j hj => by simp [wI_rd, h1 j hj]) (fun j hj => by
      by_cases q : j = i
      · subst q; simp [wI_rd]
      · simp [wI_rd, q, h2 j (by omega)])
    exact ⟨M1, f1, c1, c2, by rw [c3]; simp [wI_rd]⟩
theorem mo_law (hR : okR M) (hT : MT t tp M) (hO : OKT t tp) (hW : MW lw M) : ∃ M1, f_X11_law M = some (lawA t tp, M1) ∧ MT 0 tp M1 ∧ MW (lawN t tp lw) M1 := by
  obtain ⟨v, M2, f2, c2, -, hfb⟩ := ms_workOut (tp := tp) (n := t) (bs := true) (nm := fun i => M.1 56 i) (M := M) (v1 := -1) hO (fun _ => ⟨rfl, hT.2⟩) (fun q => by cases q) (fun _ _ => rfl)
  have hfr := (fr_X11_workOut (-1) (nI t) M _ f2 hR.c).2
  simp only at hfr
  have h54 : ∀ j, M2.1 54 j = M.1 54 j := fun j => (hfr 54 j (disj_s (a := [(54, 0)]) (by decide) (in_a j (by decide)))).1
  have h55 : ∀ j, M2.1 55 j = M.1 55 j := fun j => (hfr 55 j (disj_s (a := [(55, 0)]) (by decide) (in_a j (by decide)))).1
  have h11 : M2.1 47 11 = M.1 47 11 := (hfr 47 11 (disj_s (a := [(47, 12)]) (by decide) (in_f (by decide)))).1
  have h13 : M2.1 47 13 = M.1 47 13 := (hfr 47 13 (disj_s (a := [(47, 14)]) (by decide) (in_f (by decide)))).1
  unfold f_X11_law
  rw [hT.1, f2, bI_s, lt_e, lt_e, h11, hT.1]
  have e3 : (wI M2 47 11 0).1 47 17 = flI (pAll tp t).1.2 := by simp [wI_rd, c2]
  rw [e3]
  unfold lawA lawN
  cases q : (pAll tp t).1.2 with
  | none =>
    rw [if_pos (by decide)]
    obtain ⟨M1, f1, k1, k2, k3⟩ := mo_law_L (tp := tp) hO.1 t 0 FU (wI M2 47 11 0) (by omega) (by have := hO.1; unfold FU; omega) (fun j hj => by simp [wI_rd, h54, hT.2 j hj]) (fun j hj => by omega)
    refine ⟨M1, f1, ⟨by rw [k3]; simp [wI_rd]; rfl, fun j hj => by omega⟩, fun q => (by cases q), fun x hx => ?_⟩
    cases hx
    exact ⟨k1, k2⟩
  | some f =>
    have hf : ¬ flI (some f) < 0 := nI_pos (by have := hfb f q; have := hO.1; omega)
    rw [if_neg hf]
    refine ⟨_, rfl, ⟨by simp [wI_rd]; rfl, fun j hj => by omega⟩, fun q => by simp [wI_rd, h13, hW.1 q], fun x hx => ⟨by simp [wI_rd, h13, (hW.2 x hx).1], fun j hj => by simp [wI_rd, h55, (hW.2 x hx).2 j hj]⟩⟩
end LAWT
