/-! what steps work out to -/
def jn (c : Nat) (l r : Int32) : Int32 := if c = 33 then (if r = 0 then 1 else 0) else if c = 38 then (if l = 0 then 0 else if r = 0 then 0 else 1) else if c = 42 then l * r else if c = 43 then l + r else if c = 45 then l - r else if c = 47 then (if r = 0 then 0 else l / r) else if c = 60 then (if r ≤ l then 0 else 1) else if c = 61 then (if l = r then 1 else 0) else if c = 62 then (if l ≤ r then 0 else 1) else if c = 124 then (if l = 0 then (if r = 0 then 0 else 1) else 1) else if c = 126 then -r else (if r = 0 then 0 else ab_rem l r)
def ev1 (nm : Nat → Int32) (stk : List Int32) (x : Nat × Int32) : List Int32 := if x.1 = 48 then x.2 :: stk else if x.1 = 97 then nm x.2.toNatClampNeg :: stk else if x.1 = 33 ∨ x.1 = 126 then jn x.1 0 (stk.headD 0) :: stk.tail else jn x.1 (stk.tail.headD 0) (stk.headD 0) :: stk.tail.tail
def evS (nm : Nat → Int32) (l : LwL) (stk : List Int32) : List Int32 := l.foldl (ev1 nm) stk
def vl (nm : Nat → Int32) (l : LwL) : Int32 := (evS nm l []).headD 0
def Vl (nm : Nat → Int32) (l : LwL) : Prop := ∀ stk, evS nm l stk = vl nm l :: stk
theorem evS_app (nm : Nat → Int32) (l l2 : LwL) (stk : List Int32) : evS nm (l ++ l2) stk = evS nm l2 (evS nm l stk) := by simp [evS]
theorem Vl_of {nm : Nat → Int32} {l : LwL} {v : Int32} (h : ∀ stk, evS nm l stk = v :: stk) : vl nm l = v ∧ Vl nm l := by
  have e : vl nm l = v := by unfold vl; rw [h]; rfl
  exact ⟨e, fun stk => by rw [e]; exact h stk⟩
def opC (c : Nat) : Prop := c ≠ 48 ∧ c ≠ 97 ∧ c ≠ 33 ∧ c ≠ 126
theorem Vl_bin {nm : Nat → Int32} {l l2 : LwL} {c : Nat} (hc : opC c) (h : Vl nm l) (h2 : Vl nm l2) : vl nm (l ++ l2 ++ [(c, 0)]) = jn c (vl nm l) (vl nm l2) ∧ Vl nm (l ++ l2 ++ [(c, 0)]) := by
  refine Vl_of (fun stk => ?_)
  rw [evS_app, evS_app, h, h2]
  obtain ⟨h1, h3, h4, h5⟩ := hc
  simp [evS, ev1, h1, h3, h4, h5]
theorem Vl_un {nm : Nat → Int32} {l : LwL} {c : Nat} (hc : c = 33 ∨ c = 126) (h : Vl nm l) : vl nm (l ++ [(c, 0)]) = jn c 0 (vl nm l) ∧ Vl nm (l ++ [(c, 0)]) := by
  refine Vl_of (fun stk => ?_)
  rw [evS_app, h]
  rcases hc with rfl | rfl <;> simp [evS, ev1]
theorem Vl_num {nm : Nat → Int32} {v : Int32} : vl nm [(48, v)] = v ∧ Vl nm [(48, v)] := Vl_of (fun stk => by simp [evS, ev1])
theorem Vl_name {nm : Nat → Int32} {v : Int32} : vl nm [(97, v)] = nm v.toNatClampNeg ∧ Vl nm [(97, v)] := Vl_of (fun stk => by simp [evS, ev1])
/-- without a fault at its end there was none at its beginning, and the steps work out to one value -/
def OkV (P : LwS → LwS × LwL) : Prop := ∀ s : LwS, (P s).1.2 = none → s.2 = none ∧ ∀ nm, Vl nm (P s).2
section EVP
variable {tp : Nat → Nat} {n : Nat}
theorem OkV_lp {cs : List Nat} (hc : ∀ c ∈ cs, opC c) {sub : LwS → LwS × LwL} (hs : OkV sub) : ∀ (k : Nat) (s : LwS) (l : LwL), (pLp tp n cs sub k s l).1.2 = none → s.2 = none ∧ ∀ nm, Vl nm l → Vl nm (pLp tp n cs sub k s l).2
  | 0, s, l, h => ⟨h, fun nm hl => hl⟩
  | k + 1, s, l, h => by
    rw [pLp] at h ⊢
    by_cases q : lch tp n s ∈ cs
    · rw [if_pos q] at h ⊢
      obtain ⟨a1, a2⟩ := OkV_lp hc hs k _ _ h
      obtain ⟨b1, b2⟩ := hs _ a1
      exact ⟨b1, fun nm hl => a2 nm (Vl_bin (hc _ q) hl (b2 nm)).2⟩
    · rw [if_neg q] at h ⊢
      exact ⟨h, fun nm hl => hl⟩
theorem OkV_bin {cs : List Nat} (hc : ∀ c ∈ cs, opC c) {sub : LwS → LwS × LwL} (hs : OkV sub) : OkV (pBin tp n cs sub) := by
  intro s h
  obtain ⟨a1, a2⟩ := OkV_lp hc hs 130 _ _ h
  obtain ⟨b1, b2⟩ := hs s a1
  exact ⟨b1, fun nm => a2 nm (b2 nm)⟩
theorem OkV_cmp {sub : LwS → LwS × LwL} (hs : OkV sub) : OkV (pCmp tp n sub) := by
  intro s h
  unfold pCmp at h ⊢
  by_cases q : lch tp n (sub s).1 ∈ [60, 61, 62]
  · rw [if_pos q] at h ⊢
    obtain ⟨a1, a2⟩ := hs _ h
    obtain ⟨b1, b2⟩ := hs s a1
    refine ⟨b1, fun nm => (Vl_bin ?_ (b2 nm) (a2 nm)).2⟩
    simp only [List.mem_cons, List.not_mem_nil, or_false] at q
    unfold opC
    omega
  · rw [if_neg q] at h ⊢
    exact hs s h
theorem opC_m {cs : List Nat} (h : cs.all (fun c => c != 48 && c != 97 && c != 33 && c != 126) = true) : ∀ c ∈ cs, opC c := by
  intro c hc
  have := List.all_eq_true.mp h c hc
  simp only [Bool.and_eq_true, bne_iff_ne] at this
  exact ⟨this.1.1.1, this.1.1.2, this.1.2, this.2⟩
theorem OkV_eith {one : LwS → LwS × LwL} (h : OkV one) : OkV (pEith tp n one) := OkV_bin (opC_m rfl) (OkV_bin (opC_m rfl) (OkV_cmp (OkV_bin (opC_m rfl) (OkV_bin (opC_m rfl) h))))
theorem lfal_n (s : LwS) : ¬ (lfal s).2 = none := by simp [lfal]
theorem pNum_fl : ∀ (k : Nat) (s : LwS) (v : Int32), (pNum tp n k s v).1.2 = s.2
  | 0, _, _ => rfl
  | k + 1, s, v => by
    rw [pNum]
    split
    · rw [pNum_fl k]; rfl
    · rfl
theorem OkV_one0 {s : LwS} {K : LwS × LwL} (hK : K.1.2 = none → s.2 = none ∧ ∀ nm, Vl nm K.2) : (pOne0 tp n s K).1.2 = none → s.2 = none ∧ ∀ nm, Vl nm (pOne0 tp n s K).2 := by
  unfold pOne0
  split
  · intro h; exact ⟨by rw [pNum_fl] at h; exact h, fun nm => Vl_num.2⟩
  · split
    · intro h; exact ⟨h, fun nm => Vl_name.2⟩
    · exact hK
theorem OkV_one : ∀ d : Nat, OkV (pOne tp n d)
  | 0 => fun s => OkV_one0 (fun h => absurd h (lfal_n s))
  | d + 1 => fun s => by
    rw [pOne]
    refine OkV_one0 ?_
    split
    · unfold pPar
      split
      · intro h
        exact OkV_eith (OkV_one d) (ladv s) h
      · intro h; exact absurd h (lfal_n _)
    · split
      · intro h
        obtain ⟨a, b⟩ := OkV_one d (ladv s) h
        exact ⟨a, fun nm => (Vl_un (Or.inl rfl) (b nm)).2⟩
      · split
        · intro h
          obtain ⟨a, b⟩ := OkV_one d (ladv s) h
          exact ⟨a, fun nm => (Vl_un (Or.inr rfl) (b nm)).2⟩
        · intro h; exact absurd h (lfal_n s)
end EVP
/-- what the lines work out to -/
def evW (nm : Nat → Int32) : List LwN → Int32
  | [] => 0
  | x :: r => match x.2 with
    | none => vl nm x.1
    | some l2 => if vl nm x.1 = 0 then evW nm r else vl nm l2
def okVn (nm : Nat → Int32) (x : LwN) : Prop := Vl nm x.1 ∧ ∀ l, x.2 = some l → Vl nm l
def SkL (stk : List Int32) (M : Mem) : Prop := M.1 22 9 = nI stk.length ∧ ∀ (i : Nat) (x : Int32), stk[i]? = some x → M.1 26 (stk.length - 1 - i) = x
def ESt (nm : Nat → Int32) (E : Nat) (sl : LwL) (stk : List Int32) (M : Mem) : Prop := M.1 22 7 = nI sl.length ∧ M.2.2 22 6 = E ∧ StL E sl M ∧ (∀ i, i < 5 → M.1 27 i = nm i) ∧ SkL stk M
def okE (E : Nat) : Prop := E = 24 ∨ E = 25
section EVC
variable {nm : Nat → Int32} {E : Nat} {sl : LwL} {stk : List Int32} {M : Mem}
theorem ev_push (hE : okE E) (h : ESt nm E sl stk M) (hl : stk.length < 121) (v : Int32) : ∃ M2, f_X5_push v M = some M2 ∧ ESt nm E sl (v :: stk) M2 := by
  obtain ⟨a1, a2, a3, a4, a5, a6⟩ := h
  have ht : ¬ (121 : Int32) ≤ nI stk.length := fun q => by have := (n_le (a := 121) (by omega) (by omega)).mp q; omega
  have hE2 : ¬ E = 26 ∧ ¬ E = 22 := by rcases hE with rfl | rfl <;> omega
  refine ⟨wI (wI M 26 stk.length v) 22 9 (nI (stk.length + 1)), ?_, by simp [wI_rd, a1], a2, fun j x q => ?_, fun i hi => by simp [wI_rd, a4 i hi], by simp [wI_rd], fun i x q => ?_⟩
  · have r1 : (wI M 26 stk.length v).1 22 9 = nI stk.length := by simp [wI_rd, a5]
    unfold f_X5_push
    rw [a5, if_neg ht, ck_t (okI_26 hl), lt_e, n_clamp (by omega), r1, n_s1, lt_e]
  · have := a3 j x q
    simp [wI_rd, hE2, this]
  · cases i with
    | zero =>
      simp at q
      subst q
      simp [wI_rd]
    | succ i =>
      simp only [List.getElem?_cons_succ] at q
      have hi := (List.getElem?_eq_some_iff.mp q).1
      have := a6 i x q
      simp only [List.length_cons]
      rw [show stk.length + 1 - 1 - (i + 1) = stk.length - 1 - i by omega]
      simp [wI_rd, this, show ¬ stk.length - 1 - i = stk.length by omega]
theorem ev_pop (hE : okE E) (h : ESt nm E sl stk M) (hl : stk.length ≤ 121) : ∃ M2, f_X5_pop M = some (stk.headD 0, M2) ∧ ESt nm E sl stk.tail M2 := by
  obtain ⟨a1, a2, a3, a4, a5, a6⟩ := h
  have hE2 : ¬ E = 26 ∧ ¬ E = 22 := by rcases hE with rfl | rfl <;> omega
  unfold f_X5_pop
  rw [a5]
  cases stk with
  | nil => exact ⟨M, rfl, a1, a2, a3, a4, a5, a6⟩
  | cons x r =>
    simp only [List.length_cons] at *
    have h0 : ¬ nI (r.length + 1) = 0 := fun q => by have := (n_eq (b := 0) (by omega) (by omega)).mp q; omega
    have r1 : (wI M 22 9 (nI r.length)).1 22 9 = nI r.length := by simp [wI_rd]
    have r2 : (wI M 22 9 (nI r.length)).1 26 r.length = x := by
      have := a6 0 x (by simp)
      simpa [wI_rd] using this
    refine ⟨wI M 22 9 (nI r.length), ?_, by simp [wI_rd, a1], a2, fun j x q => ?_, fun i hi => by simp [wI_rd, a4 i hi], by simp [wI_rd], fun i y q => ?_⟩
    · rw [if_neg h0, n_p1, lt_e, r1, ck_t (okI_26 (by omega)), n_clamp (by omega), r2]
      rfl
    · have := a3 j x q
      simp [wI_rd, hE2, this]
    · simp only [List.tail_cons] at q ⊢
      have hi := (List.getElem?_eq_some_iff.mp q).1
      have := a6 (i + 1) y (by simpa using q)
      rw [show r.length + 1 - 1 - (i + 1) = r.length - 1 - i by omega] at this
      simp [wI_rd, this]
theorem jn_ok {c : Nat} (hc : c < 256) (l r : Int32) : f_X5_joined (nI c) l r = some (jn c l r) := by
  unfold f_X5_joined jn f_X5_joined_b121
  have e : ∀ k : Nat, k < 256 → (nI c = nI k) = (c = k) := fun k hk => propext (n_eq (by omega) (by omega))
  have e1 : (nI c = 33) = (c = 33) := e 33 (by omega)
  have e2 : (nI c = 38) = (c = 38) := e 38 (by omega)
  have e3 : (nI c = 42) = (c = 42) := e 42 (by omega)
  have e4 : (nI c = 43) = (c = 43) := e 43 (by omega)
  have e5 : (nI c = 45) = (c = 45) := e 45 (by omega)
  have e6 : (nI c = 47) = (c = 47) := e 47 (by omega)
  have e7 : (nI c = 60) = (c = 60) := e 60 (by omega)
  have e8 : (nI c = 61) = (c = 61) := e 61 (by omega)
  have e9 : (nI c = 62) = (c = 62) := e 62 (by omega)
  have ea : (nI c = 124) = (c = 124) := e 124 (by omega)
  have eb : (nI c = 126) = (c = 126) := e 126 (by omega)
  simp only [e1, e2, e3, e4, e5, e6, e7, e8, e9, ea, eb]
  by_cases q0 : c = 33
  · rw [if_pos q0, if_pos q0]
    split <;> rfl
  rw [if_neg q0, if_neg q0]
  by_cases q1 : c = 38
  · rw [if_pos q1, if_pos q1]
    split
    · rfl
    · split <;> rfl
  rw [if_neg q1, if_neg q1]
  by_cases q2 : c = 42
  · rw [if_pos q2, if_pos q2]
  rw [if_neg q2, if_neg q2]
  by_cases q3 : c = 43
  · rw [if_pos q3, if_pos q3]
  rw [if_neg q3, if_neg q3]
  by_cases q4 : c = 45
  · rw [if_pos q4, if_pos q4]
  rw [if_neg q4, if_neg q4]
  by_cases q5 : c = 47
  · rw [if_pos q5, if_pos q5]
    by_cases h0 : r = 0
    · rw [if_pos h0, if_pos h0]
    · rw [if_neg h0, if_neg h0, if_neg h0]
  rw [if_neg q5, if_neg q5]
  by_cases q6 : c = 60
  · rw [if_pos q6, if_pos q6]
    split <;> rfl
  rw [if_neg q6, if_neg q6]
  by_cases q7 : c = 61
  · rw [if_pos q7, if_pos q7]
    split <;> rfl
  rw [if_neg q7, if_neg q7]
  by_cases q8 : c = 62
  · rw [if_pos q8, if_pos q8]
    split <;> rfl
  rw [if_neg q8, if_neg q8]
  by_cases q9 : c = 124
  · rw [if_pos q9, if_pos q9]
    split
    · split <;> rfl
    · rfl
  rw [if_neg q9, if_neg q9]
  by_cases q10 : c = 126
  · rw [if_pos q10, if_pos q10]
  rw [if_neg q10, if_neg q10]
  by_cases h0 : r = 0
  · rw [if_pos h0, if_pos h0]
  · rw [if_neg h0, if_neg h0, if_neg h0]
end EVC
