section EVC2
variable {nm : Nat → Int32} {E : Nat} {sl : LwL} {stk : List Int32} {M : Mem}
theorem evS_len (nm : Nat → Int32) : ∀ (l : LwL) (stk : List Int32), (evS nm l stk).length ≤ stk.length + l.length
  | [], stk => by simp [evS]
  | x :: l, stk => by
    have := evS_len nm l (ev1 nm stk x)
    have h2 : (ev1 nm stk x).length ≤ stk.length + 1 := by
      unfold ev1
      split
      · simp
      · split
        · simp
        · split <;> simp <;> omega
    simp only [evS, List.foldl_cons, List.length_cons] at *
    omega
theorem ev_step (hE : okE E) (h : ESt nm E sl stk M) (hl : stk.length < 121) (hs : sl.length ≤ 121) {i : Nat} {x : Nat × Int32} (hx : sl[i]? = some x) (ho : x.1 < 256 ∧ x.1 ≠ 59 ∧ x.1 ≠ 63 ∧ (x.1 = 97 → ∃ i, i < 5 ∧ x.2 = nI i)) (m : Nat) : ∃ M2, f_X5_workOut_L9 (m + 1) 0 (nI i) M = f_X5_workOut_L9 m 0 (nI (i + 1)) M2 ∧ ESt nm E sl (ev1 nm stk x) M2 := by
  have hi := (List.getElem?_eq_some_iff.mp hx).1
  obtain ⟨r1, r2⟩ := h.2.2.1 i x hx
  have ok1 : okI E (nI (2 * i)) = true := by rcases hE with rfl | rfl; exact okI_24 (by omega); exact okI_25 (by omega)
  have ok2 : okI E (nI (2 * i + 1)) = true := by rcases hE with rfl | rfl; exact okI_24 (by omega); exact okI_25 (by omega)
  have e : ∀ k : Nat, k < 256 → (nI x.1 = nI k) = (x.1 = k) := fun k hk => propext (n_eq (by omega) (by omega))
  have e1 : (nI x.1 = 59) = (x.1 = 59) := e 59 (by omega)
  have e2 : (nI x.1 = 63) = (x.1 = 63) := e 63 (by omega)
  have e3 : (nI x.1 = 48) = (x.1 = 48) := e 48 (by omega)
  have e4 : (nI x.1 = 97) = (x.1 = 97) := e 97 (by omega)
  have e5 : (nI x.1 = 33) = (x.1 = 33) := e 33 (by omega)
  have e6 : (nI x.1 = 126) = (x.1 = 126) := e 126 (by omega)
  rw [f_X5_workOut_L9, h.1, if_neg (by rw [n_le (by omega) (by omega)]; omega), h.2.1, n_dbl, ck_t ok1, lt_e, n_clamp (by omega), r1, if_pos rfl, n_s1]
  simp only [e1, e2, e3, e4, e5, e6]
  rw [if_neg ho.2.1, if_neg ho.2.2.1]
  unfold ev1
  by_cases q1 : x.1 = 48
  · rw [if_pos q1, if_pos q1, ck_t ok2, n_clamp (by omega), r2]
    obtain ⟨M2, f2, c2⟩ := ev_push hE h hl x.2
    rw [f2, bd_s]
    unfold f_X5_workOut_b169
    exact ⟨M2, by rw [n_s1], c2⟩
  · rw [if_neg q1, if_neg q1]
    by_cases q2 : x.1 = 97
    · obtain ⟨t, ht, et⟩ := ho.2.2.2 q2
      rw [if_pos q2, if_pos q2, ck_t ok2, n_clamp (by omega), r2, et, ck_t (okI_27 ht), n_clamp (by omega), h.2.2.2.1 t ht]
      obtain ⟨M2, f2, c2⟩ := ev_push hE h hl (nm t)
      rw [f2, bd_s]
      unfold f_X5_workOut_b169
      exact ⟨M2, by rw [n_s1], c2⟩
    · rw [if_neg q2, if_neg q2]
      obtain ⟨M2, f2, c2⟩ := ev_pop hE h (by omega)
      rw [f2, bI_s]
      unfold f_X5_workOut_b147 f_X5_workOut_b155
      have ht : stk.tail.length < 121 := by rw [List.length_tail]; omega
      by_cases q3 : x.1 = 33
      · rw [if_pos q3, if_pos (Or.inl q3), jn_ok ho.1, bd_s]
        obtain ⟨M3, f3, c3⟩ := ev_push hE c2 ht (jn x.1 0 (stk.headD 0))
        rw [f3, bd_s]
        unfold f_X5_workOut_b169
        exact ⟨M3, by rw [n_s1], c3⟩
      · rw [if_neg q3]
        by_cases q4 : x.1 = 126
        · rw [if_pos q4, if_pos (Or.inr q4), jn_ok ho.1, bd_s]
          obtain ⟨M3, f3, c3⟩ := ev_push hE c2 ht (jn x.1 0 (stk.headD 0))
          rw [f3, bd_s]
          unfold f_X5_workOut_b169
          exact ⟨M3, by rw [n_s1], c3⟩
        · rw [if_neg q4, if_neg (by omega)]
          obtain ⟨M3, f3, c3⟩ := ev_pop hE c2 (by omega)
          rw [f3, bI_s, jn_ok ho.1, bd_s]
          obtain ⟨M4, f4, c4⟩ := ev_push hE c3 (by rw [List.length_tail]; omega) (jn x.1 (stk.tail.headD 0) (stk.headD 0))
          rw [f4, bd_s]
          unfold f_X5_workOut_b169
          exact ⟨M4, by rw [n_s1], c4⟩
theorem ev_seg (hE : okE E) (hs : sl.length ≤ 121) : ∀ (l pre post : LwL) (stk : List Int32) (m : Nat) (M : Mem), sl = pre ++ l ++ post → okSt l → stk.length + l.length ≤ 121 → ESt nm E sl stk M → ∃ M2, f_X5_workOut_L9 (m + l.length) 0 (nI pre.length) M = f_X5_workOut_L9 m 0 (nI (pre.length + l.length)) M2 ∧ ESt nm E sl (evS nm l stk) M2
  | [], pre, post, stk, m, M, _, _, _, hC => ⟨M, by simp, hC⟩
  | x :: l, pre, post, stk, m, M, h1, h2, h3, hC => by
    simp only [List.length_cons] at h3 ⊢
    have hx : sl[pre.length]? = some x := by rw [h1]; simp
    obtain ⟨M2, f2, c2⟩ := ev_step hE hC (by omega) hs hx (h2 x (by simp)) (m + l.length)
    have hlen : (ev1 nm stk x).length ≤ stk.length + 1 := by
      have := evS_len nm [x] stk
      simpa [evS] using this
    obtain ⟨M3, f3, c3⟩ := ev_seg hE hs l (pre ++ [x]) post (ev1 nm stk x) m M2 (by rw [h1]; simp) (fun y hy => h2 y (by simp [hy])) (by omega) c2
    refine ⟨M3, ?_, by simpa [evS] using c3⟩
    rw [show m + (l.length + 1) = m + l.length + 1 by omega, f2]
    simp only [List.length_append, List.length_singleton] at f3
    rw [f3]
    rw [show pre.length + 1 + l.length = pre.length + (l.length + 1) by omega]
theorem ev_skip (hE : okE E) (hs : sl.length ≤ 121) (hC : ESt nm E sl stk M) : ∀ (l pre post : LwL) (m : Nat), sl = pre ++ l ++ post → okSt l → f_X5_workOut_L9 (m + l.length) 1 (nI pre.length) M = f_X5_workOut_L9 m 1 (nI (pre.length + l.length)) M
  | [], pre, post, m, _, _ => by simp
  | x :: l, pre, post, m, h1, h2 => by
    have hx : sl[pre.length]? = some x := by rw [h1]; simp
    have hi := (List.getElem?_eq_some_iff.mp hx).1
    obtain ⟨r1, r2⟩ := hC.2.2.1 _ x hx
    have ok1 : okI E (nI (2 * pre.length)) = true := by rcases hE with rfl | rfl; exact okI_24 (by omega); exact okI_25 (by omega)
    have ho := h2 x (by simp)
    have e1 : (nI x.1 = 59) = (x.1 = 59) := propext (n_eq (b := 59) (by omega) (by omega))
    have ih := ev_skip hE hs hC l (pre ++ [x]) post m (by rw [h1]; simp) (fun y hy => h2 y (by simp [hy]))
    simp only [List.length_append, List.length_singleton] at ih
    simp only [List.length_cons]
    rw [show m + (l.length + 1) = m + l.length + 1 by omega, f_X5_workOut_L9, hC.1, if_neg (by rw [n_le (by omega) (by omega)]; omega), hC.2.1, n_dbl, ck_t ok1, lt_e, n_clamp (by omega), r1, if_neg (by decide)]
    simp only [e1]
    rw [if_neg ho.2.1]
    unfold f_X5_workOut_b41 f_X5_workOut_b169
    rw [n_s1]
    exact ih.trans (by rw [show pre.length + 1 + l.length = pre.length + (l.length + 1) by omega])
theorem ev_rd (hE : okE E) (hs : sl.length ≤ 121) (hC : ESt nm E sl stk M) {i c : Nat} {v : Int32} (hx : sl[i]? = some (c, v)) (hc : c = 59 ∨ c = 63) (m : Nat) (v1 : Int32) : ∃ x, x = nI c ∧ f_X5_workOut_L9 (m + 1) v1 (nI i) M = (if v1 = 0 then (if x = (59 : Int32) then bI (f_X5_pop M) fun x12 M13 => (some (x12, M13)) else (if x = (63 : Int32) then bI (f_X5_pop M) fun x10 M11 => (if x10 = 0 then f_X5_workOut_b74 (fun a0 a1 a2 => f_X5_workOut_L9 m a0 a1 a2) (nI i) (1 : Int32) M11 else f_X5_workOut_b74 (fun a0 a1 a2 => f_X5_workOut_L9 m a0 a1 a2) (nI i) (0 : Int32) M11) else f_X5_workOut_L9 (m + 1) v1 (nI i) M)) else (if x = (59 : Int32) then f_X5_workOut_b41 (fun a0 a1 a2 => f_X5_workOut_L9 m a0 a1 a2) (nI i) (0 : Int32) M else f_X5_workOut_b41 (fun a0 a1 a2 => f_X5_workOut_L9 m a0 a1 a2) (nI i) (1 : Int32) M)) := by
  have hi := (List.getElem?_eq_some_iff.mp hx).1
  obtain ⟨r1, r2⟩ := hC.2.2.1 _ _ hx
  have ok1 : okI E (nI (2 * i)) = true := by rcases hE with rfl | rfl; exact okI_24 (by omega); exact okI_25 (by omega)
  refine ⟨nI c, rfl, ?_⟩
  conv => lhs; rw [f_X5_workOut_L9]
  rw [hC.1, if_neg (by rw [n_le (by omega) (by omega)]; omega), hC.2.1, n_dbl, ck_t ok1, lt_e, n_clamp (by omega), r1]
  by_cases q0 : v1 = 0
  · rw [if_pos q0, if_pos q0]
    by_cases q1 : nI c = 59
    · rw [if_pos q1, if_pos q1]
    · rw [if_neg q1, if_neg q1]
      by_cases q2 : nI c = 63
      · rw [if_pos q2, if_pos q2]
      · rcases hc with rfl | rfl
        · exact absurd rfl q1
        · exact absurd rfl q2
  · rw [if_neg q0, if_neg q0]
theorem ev_lines (hE : okE E) (hs : sl.length ≤ 121) : ∀ (ls : List LwN) (pre : LwL) (m : Nat) (M : Mem), sl = pre ++ lnA ls → (∀ x ∈ ls, okLn x ∧ okVn nm x) → (lnA ls).length < m → ESt nm E sl [] M → ∃ M2, f_X5_workOut_L9 m 0 (nI pre.length) M = some (evW nm ls, M2)
  | [], pre, m, M, h1, _, hm, hC => by
    obtain ⟨m, rfl⟩ : ∃ m2, m = m2 + 1 := ⟨m - 1, by simp [lnA] at hm; omega⟩
    have e : sl.length = pre.length := by rw [h1]; simp [lnA]
    rw [f_X5_workOut_L9, hC.1, if_pos (by rw [n_le (by omega) (by omega)]; omega)]
    exact ⟨M, rfl⟩
  | x :: ls, pre, m, M, h1, h2, hm, hC => by
    obtain ⟨l1, o⟩ := x
    obtain ⟨⟨k1, k2⟩, v1, v2⟩ := h2 _ (List.mem_cons_self ..)
    simp only at k1 k2 v1 v2
    have hA : lnA ((l1, o) :: ls) = lnS (l1, o) ++ lnA ls := by simp [lnA]
    rw [hA] at h1 hm
    have hsl : pre.length + ((lnS (l1, o)).length + (lnA ls).length) ≤ 121 := by rw [h1] at hs; simpa using hs
    rw [List.length_append] at hm
    cases o with
    | none =>
      simp only [lnS] at h1 hm hsl
      simp only [List.length_append, List.length_singleton] at hm hsl
      obtain ⟨t, rfl⟩ : ∃ t, m = t + 1 + l1.length := ⟨m - 1 - l1.length, by omega⟩
      obtain ⟨M2, f2, c2⟩ := ev_seg (nm := nm) hE hs l1 pre ([(59, 0)] ++ lnA ls) [] (t + 1) M (by rw [h1]; simp) k1 (by simp; omega) hC
      rw [f2]
      have hx : sl[pre.length + l1.length]? = some (59, 0) := by
        rw [h1, ← List.length_append, List.append_assoc, ← List.append_assoc, List.getElem?_append_right (Nat.le_refl _)]; simp
      obtain ⟨y, hy, e⟩ := ev_rd hE hs c2 hx (Or.inl rfl) t 0
      rw [v1] at c2
      obtain ⟨M3, f3, c3⟩ := ev_pop hE c2 (by simp)
      rw [e, if_pos rfl, if_pos (show y = 59 from hy), f3, bI_s]
      exact ⟨M3, rfl⟩
    | some l2 =>
      simp only [lnS] at h1 hm hsl
      simp only [List.length_append, List.length_singleton] at hm hsl
      obtain ⟨t, rfl⟩ : ∃ t, m = (t + 1 + l2.length) + 1 + l1.length := ⟨m - 1 - l2.length - 1 - l1.length, by omega⟩
      obtain ⟨M2, f2, c2⟩ := ev_seg (nm := nm) hE hs l1 pre ([(63, 0)] ++ l2 ++ [(59, 0)] ++ lnA ls) [] ((t + 1 + l2.length) + 1) M (by rw [h1]; simp) k1 (by simp; omega) hC
      rw [f2]
      have hx : sl[pre.length + l1.length]? = some (63, 0) := by
        rw [h1, ← List.length_append]
        have : pre ++ (l1 ++ [(63, 0)] ++ l2 ++ [(59, 0)] ++ lnA ls) = (pre ++ l1) ++ ((63, 0) :: (l2 ++ [(59, 0)] ++ lnA ls)) := by simp
        rw [this, List.getElem?_append_right (Nat.le_refl _)]; simp
      have hx2 : sl[(pre ++ l1 ++ [(63, 0)]).length + l2.length]? = some (59, 0) := by
        rw [h1, ← List.length_append]
        have : pre ++ (l1 ++ [(63, 0)] ++ l2 ++ [(59, 0)] ++ lnA ls) = (pre ++ l1 ++ [(63, 0)] ++ l2) ++ ((59, 0) :: lnA ls) := by simp
        rw [this, List.getElem?_append_right (Nat.le_refl _)]; simp
      obtain ⟨y, hy, e⟩ := ev_rd hE hs c2 hx (Or.inr rfl) (t + 1 + l2.length) 0
      rw [v1] at c2
      obtain ⟨M3, f3, c3⟩ := ev_pop hE c2 (by simp)
      have f3' : f_X5_pop M2 = some (vl nm l1, M3) := f3
      have hy2 : ¬ y = 59 := by rw [hy]; decide
      have hy3 : y = 63 := hy
      rw [e, if_pos rfl, if_neg hy2, if_pos hy3, f3', bI_s]
      simp only [List.tail_cons] at c3
      have hl3 : (pre ++ l1 ++ [(63, 0)]).length = pre.length + l1.length + 1 := by simp; omega
      unfold f_X5_workOut_b74 f_X5_workOut_b169
      rw [n_s1, ← hl3]
      simp only [evW]
      by_cases q : vl nm l1 = 0
      · rw [if_pos q, if_pos q]
        rw [ev_skip hE hs c3 l2 (pre ++ l1 ++ [(63, 0)]) ([(59, 0)] ++ lnA ls) (t + 1) (by rw [h1]; simp) (k2 l2 rfl)]
        obtain ⟨y2, hz, e2⟩ := ev_rd hE hs c3 hx2 (Or.inl rfl) t 1
        rw [e2, if_neg (by decide), if_pos (show y2 = 59 from hz)]
        unfold f_X5_workOut_b41 f_X5_workOut_b169
        rw [n_s1]
        have := ev_lines hE hs ls (pre ++ l1 ++ [(63, 0)] ++ l2 ++ [(59, 0)]) t M3 (by rw [h1]; simp) (fun x hx => h2 x (List.mem_cons_of_mem _ hx)) (by omega) c3
        have hl4 : (pre ++ l1 ++ [(63, 0)] ++ l2 ++ [(59, 0)]).length = (pre ++ l1 ++ [(63, 0)]).length + l2.length + 1 := by simp; omega
        rw [hl4] at this
        exact this
      · rw [if_neg q, if_neg q]
        obtain ⟨M4, f4, c4⟩ := ev_seg (nm := nm) hE hs l2 (pre ++ l1 ++ [(63, 0)]) ([(59, 0)] ++ lnA ls) [] (t + 1) M3 (by rw [h1]; simp) (k2 l2 rfl) (by simp; omega) c3
        rw [f4]
        obtain ⟨y2, hz, e2⟩ := ev_rd hE hs c4 hx2 (Or.inl rfl) t 0
        rw [v2 l2 rfl] at c4
        obtain ⟨M5, f5, c5⟩ := ev_pop hE c4 (by simp)
        rw [e2, if_pos rfl, if_pos (show y2 = 59 from hz), f5, bI_s]
        exact ⟨M5, rfl⟩
end EVC2
