/-! the law's text: a reading of it without a machine -/
abbrev LwS : Type := Nat × Option Nat
abbrev LwL : Type := List (Nat × Int32)
section PARSE
variable (tp : Nat → Nat) (n : Nat)
def lch (s : LwS) : Nat := if s.2 = none ∧ s.1 < n then tp s.1 else 999
def ladv (s : LwS) : LwS := (s.1 + 1, s.2)
def lfal (s : LwS) : LwS := (s.1, some (s.2.getD s.1))
def pNum : Nat → LwS → Int32 → LwS × Int32
  | 0, s, v => (s, v)
  | k + 1, s, v => if 48 ≤ lch tp n s ∧ lch tp n s ≤ 57 then pNum k (ladv s) (v * 10 + nI (lch tp n s) - 48) else (s, v)
def nmI (c : Nat) : Nat := if c = 97 then 0 else if c = 98 then 1 else if c = 114 then 4 else if c = 120 then 2 else if c = 121 then 3 else 9
def pLp (cs : List Nat) (sub : LwS → LwS × LwL) : Nat → LwS → LwL → LwS × LwL
  | 0, s, l => (s, l)
  | k + 1, s, l => if lch tp n s ∈ cs then pLp cs sub k (sub (ladv s)).1 (l ++ (sub (ladv s)).2 ++ [(lch tp n s, 0)]) else (s, l)
def pBin (cs : List Nat) (sub : LwS → LwS × LwL) (s : LwS) : LwS × LwL := pLp tp n cs sub 130 (sub s).1 (sub s).2
def pCmp (sub : LwS → LwS × LwL) (s : LwS) : LwS × LwL := if lch tp n (sub s).1 ∈ [60, 61, 62] then ((sub (ladv (sub s).1)).1, (sub s).2 ++ (sub (ladv (sub s).1)).2 ++ [(lch tp n (sub s).1, 0)]) else sub s
def pProd (one : LwS → LwS × LwL) : LwS → LwS × LwL := pBin tp n [42, 47, 37] one
def pSum (one : LwS → LwS × LwL) : LwS → LwS × LwL := pBin tp n [43, 45, 45] (pProd tp n one)
def pBoth (one : LwS → LwS × LwL) : LwS → LwS × LwL := pBin tp n [38] (pCmp tp n (pSum tp n one))
def pEith (one : LwS → LwS × LwL) : LwS → LwS × LwL := pBin tp n [124] (pBoth tp n one)
def pOne0 (s : LwS) (K : LwS × LwL) : LwS × LwL := if 48 ≤ lch tp n s ∧ lch tp n s ≤ 57 then ((pNum tp n 4 s 0).1, [(48, (pNum tp n 4 s 0).2)]) else if nmI (lch tp n s) < 5 then (ladv s, [(97, nI (nmI (lch tp n s)))]) else K
def pPar (s : LwS) (e : LwS × LwL) : LwS × LwL := if lch tp n e.1 = 41 then (ladv e.1, e.2) else (lfal e.1, e.2)
def pOne : Nat → LwS → LwS × LwL
  | 0, s => pOne0 tp n s (lfal s, [])
  | d + 1, s => pOne0 tp n s (if lch tp n s = 40 then pPar tp n s (pEith tp n (pOne d) (ladv s)) else if lch tp n s = 33 then ((pOne d (ladv s)).1, (pOne d (ladv s)).2 ++ [(33, 0)]) else if lch tp n s = 45 then ((pOne d (ladv s)).1, (pOne d (ladv s)).2 ++ [(126, 0)]) else (lfal s, []))
abbrev LwN : Type := LwL × Option LwL
def pLine (s : LwS) : LwS × LwN := if lch tp n (pEith tp n (pOne tp n 6) s).1 = 63 then ((pEith tp n (pOne tp n 6) (ladv (pEith tp n (pOne tp n 6) s).1)).1, (pEith tp n (pOne tp n 6) s).2, some (pEith tp n (pOne tp n 6) (ladv (pEith tp n (pOne tp n 6) s).1)).2) else ((pEith tp n (pOne tp n 6) s).1, (pEith tp n (pOne tp n 6) s).2, none)
def pLs : Nat → LwS → List LwN → LwS × List LwN
  | 0, s, ls => (s, ls)
  | k + 1, s, ls => if lch tp n s = 59 then pLs k (pLine tp n (ladv s)).1 (ls ++ [(pLine tp n (ladv s)).2]) else (s, ls)
def pAll0 : LwS × List LwN := pLs tp n 130 (pLine tp n (0, none)).1 [(pLine tp n (0, none)).2]
def pAll : LwS × List LwN := (if (pAll0 tp n).1.1 < n then lfal (pAll0 tp n).1 else (pAll0 tp n).1, (pAll0 tp n).2)
end PARSE
def okSt (l : LwL) : Prop := ∀ x ∈ l, x.1 < 256 ∧ x.1 ≠ 59 ∧ x.1 ≠ 63 ∧ (x.1 = 97 → ∃ i, i < 5 ∧ x.2 = nI i)
def Gd (n : Nat) (P : LwS → LwS × LwL) : Prop := ∀ s : LwS, s.1 ≤ n → s.1 ≤ (P s).1.1 ∧ (P s).1.1 ≤ n ∧ (P s).2.length + s.1 ≤ (P s).1.1 ∧ okSt (P s).2
section PARSE2
variable {tp : Nat → Nat} {n : Nat}
theorem lch_lt {s : LwS} (h : lch tp n s ≠ 999) : s.1 < n ∧ s.2 = none := by
  unfold lch at h
  by_cases q : s.2 = none ∧ s.1 < n
  · exact ⟨q.2, q.1⟩
  · rw [if_neg q] at h; exact absurd rfl h
theorem okSt_nil : okSt [] := fun x h => by simp at h
theorem okSt_app {l l2 : LwL} (h : okSt l) (h2 : okSt l2) : okSt (l ++ l2) := fun x hx => by
  rcases List.mem_append.mp hx with q | q
  · exact h x q
  · exact h2 x q
theorem okSt_1 {c : Nat} {v : Int32} (h : c < 256) (h1 : c ≠ 59) (h2 : c ≠ 63) (h3 : c = 97 → ∃ i, i < 5 ∧ v = nI i) : okSt [(c, v)] := fun x hx => by
  simp only [List.mem_singleton] at hx
  subst hx
  exact ⟨h, h1, h2, h3⟩
def okCs (cs : List Nat) : Prop := ∀ c ∈ cs, c < 256 ∧ c ≠ 59 ∧ c ≠ 63 ∧ c ≠ 97
theorem Gd_lp {cs : List Nat} (hc : okCs cs) {sub : LwS → LwS × LwL} (hs : Gd n sub) : ∀ (k : Nat) (s : LwS) (l : LwL) (m : Nat), s.1 ≤ n → l.length + m ≤ s.1 → okSt l → s.1 ≤ (pLp tp n cs sub k s l).1.1 ∧ (pLp tp n cs sub k s l).1.1 ≤ n ∧ (pLp tp n cs sub k s l).2.length + m ≤ (pLp tp n cs sub k s l).1.1 ∧ okSt (pLp tp n cs sub k s l).2
  | 0, s, l, m, h, hl, ho => ⟨Nat.le_refl _, h, hl, ho⟩
  | k + 1, s, l, m, h, hl, ho => by
    rw [pLp]
    by_cases q : lch tp n s ∈ cs
    · rw [if_pos q]
      obtain ⟨c1, c2, c3, c4⟩ := hc _ q
      obtain ⟨b1, -⟩ := lch_lt (tp := tp) (n := n) (s := s) (by omega)
      obtain ⟨g1, g2, g3, g4⟩ := hs (ladv s) (by unfold ladv; omega)
      have e : (ladv s).1 = s.1 + 1 := rfl
      rw [e] at g1 g3
      obtain ⟨r1, r2, r3, r4⟩ := Gd_lp hc hs k (sub (ladv s)).1 (l ++ (sub (ladv s)).2 ++ [(lch tp n s, 0)]) m g2 (by simp; omega) (okSt_app (okSt_app ho g4) (okSt_1 c1 c2 c3 (fun q => absurd q c4)))
      exact ⟨by omega, r2, r3, r4⟩
    · rw [if_neg q]
      exact ⟨Nat.le_refl _, h, hl, ho⟩
theorem Gd_bin {cs : List Nat} (hc : okCs cs) {sub : LwS → LwS × LwL} (hs : Gd n sub) : Gd n (pBin tp n cs sub) := by
  intro s h
  obtain ⟨g1, g2, g3, g4⟩ := hs s h
  obtain ⟨r1, r2, r3, r4⟩ := Gd_lp (tp := tp) hc hs 130 (sub s).1 (sub s).2 s.1 g2 g3 g4
  exact ⟨by unfold pBin; omega, r2, r3, r4⟩
theorem Gd_cmp {sub : LwS → LwS × LwL} (hs : Gd n sub) : Gd n (pCmp tp n sub) := by
  intro s h
  obtain ⟨g1, g2, g3, g4⟩ := hs s h
  unfold pCmp
  by_cases q : lch tp n (sub s).1 ∈ [60, 61, 62]
  · rw [if_pos q]
    simp only [List.mem_cons, List.not_mem_nil, or_false] at q
    obtain ⟨b1, -⟩ := lch_lt (tp := tp) (n := n) (s := (sub s).1) (by omega)
    obtain ⟨k1, k2, k3, k4⟩ := hs (ladv (sub s).1) (by unfold ladv; omega)
    have e : (ladv (sub s).1).1 = (sub s).1.1 + 1 := rfl
    rw [e] at k1 k3
    exact ⟨by simp only; omega, k2, by simp; omega, okSt_app (okSt_app g4 k4) (okSt_1 (by omega) (by omega) (by omega) (by omega))⟩
  · rw [if_neg q]
    exact ⟨g1, g2, g3, g4⟩
theorem pNum_ok : ∀ (k : Nat) (s : LwS) (v : Int32), s.1 ≤ n → s.1 ≤ (pNum tp n k s v).1.1 ∧ (pNum tp n k s v).1.1 ≤ n
  | 0, s, v, h => ⟨Nat.le_refl _, h⟩
  | k + 1, s, v, h => by
    rw [pNum]
    by_cases q : 48 ≤ lch tp n s ∧ lch tp n s ≤ 57
    · rw [if_pos q]
      obtain ⟨b1, -⟩ := lch_lt (tp := tp) (n := n) (s := s) (by omega)
      have := pNum_ok k (ladv s) (v * 10 + nI (lch tp n s) - 48) (by unfold ladv; omega)
      have e : (ladv s).1 = s.1 + 1 := rfl
      omega
    · rw [if_neg q]
      exact ⟨Nat.le_refl _, h⟩
theorem nmI_9 : nmI 999 = 9 := rfl
theorem Gd_one0 {s : LwS} (h : s.1 ≤ n) {K : LwS × LwL} (hK : s.1 ≤ K.1.1 ∧ K.1.1 ≤ n ∧ K.2.length + s.1 ≤ K.1.1 ∧ okSt K.2) : s.1 ≤ (pOne0 tp n s K).1.1 ∧ (pOne0 tp n s K).1.1 ≤ n ∧ (pOne0 tp n s K).2.length + s.1 ≤ (pOne0 tp n s K).1.1 ∧ okSt (pOne0 tp n s K).2 := by
  unfold pOne0
  by_cases q : 48 ≤ lch tp n s ∧ lch tp n s ≤ 57
  · rw [if_pos q]
    obtain ⟨b1, -⟩ := lch_lt (tp := tp) (n := n) (s := s) (by omega)
    rw [pNum, if_pos q]
    have := pNum_ok (tp := tp) (n := n) 3 (ladv s) (0 * 10 + nI (lch tp n s) - 48) (by unfold ladv; omega)
    have e : (ladv s).1 = s.1 + 1 := rfl
    rw [e] at this
    exact ⟨by simp only; omega, this.2, by simp only [List.length_singleton]; omega, okSt_1 (by omega) (by omega) (by omega) (by omega)⟩
  · rw [if_neg q]
    by_cases q2 : nmI (lch tp n s) < 5
    · rw [if_pos q2]
      obtain ⟨b1, -⟩ := lch_lt (tp := tp) (n := n) (s := s) (fun q3 => by rw [q3, nmI_9] at q2; omega)
      exact ⟨by unfold ladv; simp only; omega, by unfold ladv; simp only; omega, by unfold ladv; simp; omega, okSt_1 (by omega) (by omega) (by omega) (fun _ => ⟨_, q2, rfl⟩)⟩
    · rw [if_neg q2]; exact hK
theorem Gd_eith {one : LwS → LwS × LwL} (h : Gd n one) : Gd n (pEith tp n one) :=
  Gd_bin (by intro c hc; simp at hc; omega) (Gd_bin (by intro c hc; simp at hc; omega) (Gd_cmp (Gd_bin (by intro c hc; simp at hc; omega) (Gd_bin (by intro c hc; simp at hc; omega) h))))
theorem Gd_fal {s : LwS} (h : s.1 ≤ n) : s.1 ≤ ((lfal s, ([] : LwL))).1.1 ∧ ((lfal s, ([] : LwL))).1.1 ≤ n ∧ ((lfal s, ([] : LwL))).2.length + s.1 ≤ ((lfal s, ([] : LwL))).1.1 ∧ okSt ((lfal s, ([] : LwL))).2 := ⟨Nat.le_refl _, h, by simp [lfal], okSt_nil⟩
theorem Gd_one : ∀ d : Nat, Gd n (pOne tp n d)
  | 0 => fun s h => Gd_one0 h (Gd_fal h)
  | d + 1 => fun s h => by
    rw [pOne]
    refine Gd_one0 h ?_
    have e : (ladv s).1 = s.1 + 1 := rfl
    by_cases q : lch tp n s = 40
    · rw [if_pos q]
      obtain ⟨b1, -⟩ := lch_lt (tp := tp) (n := n) (s := s) (by omega)
      obtain ⟨g1, g2, g3, g4⟩ := Gd_eith (tp := tp) (Gd_one d) (ladv s) (by omega)
      unfold pPar
      by_cases q2 : lch tp n (pEith tp n (pOne tp n d) (ladv s)).1 = 41
      · rw [if_pos q2]
        obtain ⟨b2, -⟩ := lch_lt (tp := tp) (n := n) (s := (pEith tp n (pOne tp n d) (ladv s)).1) (by omega)
        exact ⟨by simp only [ladv] at *; omega, by simp only [ladv] at *; omega, by simp only [ladv] at *; omega, g4⟩
      · rw [if_neg q2]
        exact ⟨by simp only [lfal]; omega, g2, by simp only [lfal]; omega, g4⟩
    · rw [if_neg q]
      by_cases q2 : lch tp n s = 33
      · rw [if_pos q2]
        obtain ⟨b1, -⟩ := lch_lt (tp := tp) (n := n) (s := s) (by omega)
        obtain ⟨g1, g2, g3, g4⟩ := Gd_one d (ladv s) (by omega)
        exact ⟨by simp only; omega, g2, by simp; omega, okSt_app g4 (okSt_1 (by omega) (by omega) (by omega) (by omega))⟩
      · rw [if_neg q2]
        by_cases q3 : lch tp n s = 45
        · rw [if_pos q3]
          obtain ⟨b1, -⟩ := lch_lt (tp := tp) (n := n) (s := s) (by omega)
          obtain ⟨g1, g2, g3, g4⟩ := Gd_one d (ladv s) (by omega)
          exact ⟨by simp only; omega, g2, by simp; omega, okSt_app g4 (okSt_1 (by omega) (by omega) (by omega) (by omega))⟩
        · rw [if_neg q3]
          exact Gd_fal h
end PARSE2
