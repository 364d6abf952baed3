/-! pure facts: the functions' words, numbers, memory -/
theorem ck_t {α : Type} {b : Bool} {x : Option α} (h : b = true) : ck b x = x := by rw [h]; rfl
theorem lt_e {α β : Type} (e : α) (k : α → Option β) : lt e k = k e := rfl
theorem bI_s {α β : Type} (a : α) (m : Mem) (k : α → Mem → Option β) : bI (some (a, m)) k = k a m := rfl
theorem bI_r {α β : Type} (r : α × Mem) (k : α → Mem → Option β) : bI (some r) k = k r.1 r.2 := rfl
theorem bd_s {α β : Type} (a : α) (k : α → Option β) : (some a).bind k = k a := rfl
theorem wI_rd (M : Mem) (c k : Nat) (v : Int32) (a b : Nat) : (wI M c k v).1 a b = if a = c ∧ b = k then v else M.1 a b := by
  by_cases ha : a = c
  · subst ha
    by_cases hb : b = k
    · simp [wI, upd, hb]
    · simp [wI, upd, hb]
  · simp [wI, ha]
theorem wL_rd (M : Mem) (c k : Nat) (v : Int64) (a b : Nat) : (wL M c k v).2.1 a b = if a = c ∧ b = k then v else M.2.1 a b := by
  by_cases ha : a = c
  · subst ha
    by_cases hb : b = k
    · simp [wL, vp_updL, hb]
    · simp [wL, vp_updL, hb]
  · simp [wL, ha]
theorem wI_2 (M : Mem) (c k : Nat) (v : Int32) : (wI M c k v).2 = M.2 := rfl
theorem wL_1 (M : Mem) (c k : Nat) (v : Int64) : (wL M c k v).1 = M.1 := rfl
theorem wL_2 (M : Mem) (c k : Nat) (v : Int64) : (wL M c k v).2.2 = M.2.2 := rfl
theorem n_lit (n : Nat) : (OfNat.ofNat n : Int32) = nI n := rfl
theorem l_lit (n : Nat) : (OfNat.ofNat n : Int64) = lN n := rfl
theorem n_clamp {n : Nat} (h : n < 2147483648) : (nI n).toNatClampNeg = n := nI_clamp (by omega)
theorem n_toInt {n : Nat} (h : n < 2147483648) : (nI n).toInt = n := nI_toInt (by omega)
theorem n_eq {a b : Nat} (ha : a < 2147483648) (hb : b < 2147483648) : (nI a = nI b) ↔ a = b := nI_eq (by omega) (by omega)
theorem n_le {a b : Nat} (ha : a < 2147483648) (hb : b < 2147483648) : (nI a ≤ nI b) ↔ a ≤ b := nI_leI (by omega) (by omega)
theorem n_lt {a b : Nat} (ha : a < 2147483648) (hb : b < 2147483648) : (nI a < nI b) ↔ a < b := nI_ltI (by omega) (by omega)
theorem i_lt (a b : Int32) : a < b ↔ a.toInt < b.toInt := Int32.lt_iff_toInt_lt
theorem i_le (a b : Int32) : a ≤ b ↔ a.toInt ≤ b.toInt := Int32.le_iff_toInt_le
theorem i_eq (a b : Int32) : a = b ↔ a.toInt = b.toInt := Int32.toInt_inj.symm
theorem i_rng (x : Int32) : -2147483648 ≤ x.toInt ∧ x.toInt < 2147483648 := ⟨Int32.le_toInt x, Int32.toInt_lt x⟩
theorem n_of {x : Int32} (h : 0 ≤ x.toInt) : x = nI x.toInt.toNat := by
  have hr := i_rng x
  rw [i_eq, n_toInt (by omega)]
  omega
/-- a number below n, as an int -/
def inN (n : Nat) (v : Int32) : Bool := decide (0 ≤ v.toInt ∧ v.toInt < n)
def bb (b : Bool) : Int32 := cond b 1 0
theorem inN_t {n : Nat} {v : Int32} (h : inN n v = true) : ∃ j, j < n ∧ j < 2147483648 ∧ v = nI j := by
  simp only [inN, decide_eq_true_eq] at h
  have hr := i_rng v
  exact ⟨v.toInt.toNat, by omega, by omega, n_of h.1⟩
theorem inN_n {n j : Nat} (hj : j < 2147483648) : inN n (nI j) = decide (j < n) := by
  simp only [inN, n_toInt hj]
  congr 1
  apply propext
  constructor <;> intro h <;> omega
theorem bb_0 (b : Bool) : (bb b = 0) = (b = false) := by cases b <;> simp [bb]
theorem bb_ok (b : Bool) : okB (bb b) = true := by cases b <;> rfl
theorem ite_bb {α : Type} (b : Bool) (x y : α) : (if bb b = 0 then x else y) = (if b = true then y else x) := by cases b <;> rfl
theorem okI_n {c i : Nat} (hk : ab_k c = 100) (h : i < ab_n c) (hn : ab_n c < 2147483648) : okI c (nI i) = true := by
  have h2 := n_clamp (n := i) (by omega)
  have h3 : ¬ (nI i < 0) := nI_pos (by omega)
  have h4 : ¬ (nI i < 0 ∨ ab_n c ≤ (nI i).toNatClampNeg) := by
    rw [h2]
    rintro (q | q)
    · exact h3 q
    · omega
  unfold okI
  rw [hk, decide_eq_true h4]
  rfl
theorem okL_n {c i : Nat} (hk : ab_k c = 101) (h : i < ab_n c) (hn : ab_n c < 2147483648) : okL c (nI i) = true := by
  have h2 := n_clamp (n := i) (by omega)
  have h3 : ¬ (nI i < 0) := nI_pos (by omega)
  have h4 : ¬ (nI i < 0 ∨ ab_n c ≤ (nI i).toNatClampNeg) := by
    rw [h2]
    rintro (q | q)
    · exact h3 q
    · omega
  unfold okL
  rw [hk, decide_eq_true h4]
  rfl
theorem okZ_n {c i : Nat} (hk : ab_k c = 102) (h : i < ab_n c) (hn : ab_n c < 2147483648) : okZ c (nI i) = true := by
  have h2 := n_clamp (n := i) (by omega)
  have h3 : ¬ (nI i < 0) := nI_pos (by omega)
  have h4 : ¬ (nI i < 0 ∨ ab_n c ≤ (nI i).toNatClampNeg) := by
    rw [h2]
    rintro (q | q)
    · exact h3 q
    · omega
  unfold okZ
  rw [hk, decide_eq_true h4]
  rfl
/-! footprints -/
def disj (a b : List (Nat × Nat)) : Bool := a.all fun e => b.all fun f => e.1 != f.1 || (e.2 != 0 && f.2 != 0 && e.2 != f.2)
theorem disj_s {a b : List (Nat × Nat)} (h : disj a b = true) {c k : Nat} (ha : inS a c k) : ¬ inS b c k := by
  rintro ⟨f, hf, f1, f2⟩
  obtain ⟨e, he, e1, e2⟩ := ha
  have h1 := List.all_eq_true.mp (List.all_eq_true.mp h e he) f hf
  simp only [Bool.or_eq_true, bne_iff_ne, Bool.and_eq_true] at h1
  rcases h1 with h1 | ⟨⟨h1, h2⟩, h3⟩
  · exact h1 (e1.trans f1.symm)
  · rcases e2 with e2 | e2
    · exact h1 e2
    · rcases f2 with f2 | f2
      · exact h2 f2
      · exact h3 (e2.trans f2.symm)
/-- P looks at the places of l alone -/
def Grp (l : List (Nat × Nat)) (P : Mem → Prop) : Prop := ∀ M M2 : Mem, (∀ c k, inS l c k → M2.1 c k = M.1 c k ∧ M2.2.1 c k = M.2.1 c k) → M2.2.2 = M.2.2 → P M → P M2
def okR (M : Mem) : Prop := (M.2.2 22 4 = 24 ∧ M.2.2 22 6 = 25) ∨ (M.2.2 22 4 = 25 ∧ M.2.2 22 6 = 24)
theorem okR.c {M : Mem} (h : okR M) : M.2.2 22 4 = 24 ∨ M.2.2 22 4 = 25 := h.elim (fun h => Or.inl h.1) (fun h => Or.inr h.1)
theorem Grp.kp {l l2 : List (Nat × Nat)} {P : Mem → Prop} (hG : Grp l P) {M M2 : Mem} (hR : okR M) (hF : FrS l2 M M2) (hd : disj l l2 = true) (h : P M) : P M2 :=
  hG M M2 (fun c k hc => (hF hR.c).2 c k (disj_s hd hc)) (hF hR.c).1 h
theorem in_a {l : List (Nat × Nat)} {c : Nat} (k : Nat) (h : (c, 0) ∈ l) : inS l c k := ⟨_, h, rfl, Or.inl rfl⟩
theorem in_f {l : List (Nat × Nat)} {c k : Nat} (h : (c, k + 1) ∈ l) : inS l c k := ⟨_, h, rfl, Or.inr rfl⟩
theorem okI_2 {i : Nat} (h : i < 8) : okI 2 (nI i) = true := okI_n rfl h (by decide)
theorem okI_3 {i : Nat} (h : i < 12) : okI 3 (nI i) = true := okI_n rfl h (by decide)
theorem okI_4 {i : Nat} (h : i < 12) : okI 4 (nI i) = true := okI_n rfl h (by decide)
theorem okI_5 {i : Nat} (h : i < 12) : okI 5 (nI i) = true := okI_n rfl h (by decide)
theorem okI_7 {i : Nat} (h : i < 40) : okI 7 (nI i) = true := okI_n rfl h (by decide)
theorem okI_8 {i : Nat} (h : i < 40) : okI 8 (nI i) = true := okI_n rfl h (by decide)
theorem okI_9 {i : Nat} (h : i < 40) : okI 9 (nI i) = true := okI_n rfl h (by decide)
theorem okI_10 {i : Nat} (h : i < 40) : okI 10 (nI i) = true := okI_n rfl h (by decide)
theorem okI_12 {i : Nat} (h : i < 8) : okI 12 (nI i) = true := okI_n rfl h (by decide)
theorem okI_13 {i : Nat} (h : i < 256) : okI 13 (nI i) = true := okI_n rfl h (by decide)
theorem okI_16 {i : Nat} (h : i < 8) : okI 16 (nI i) = true := okI_n rfl h (by decide)
theorem okI_17 {i : Nat} (h : i < 256) : okI 17 (nI i) = true := okI_n rfl h (by decide)
theorem okI_18 {i : Nat} (h : i < 729) : okI 18 (nI i) = true := okI_n rfl h (by decide)
theorem okI_19 {i : Nat} (h : i < 729) : okI 19 (nI i) = true := okI_n rfl h (by decide)
theorem okI_21 {i : Nat} (h : i < 256) : okI 21 (nI i) = true := okI_n rfl h (by decide)
theorem okI_23 {i : Nat} (h : i < 120) : okI 23 (nI i) = true := okI_n rfl h (by decide)
theorem okI_24 {i : Nat} (h : i < 242) : okI 24 (nI i) = true := okI_n rfl h (by decide)
theorem okI_25 {i : Nat} (h : i < 242) : okI 25 (nI i) = true := okI_n rfl h (by decide)
theorem okI_26 {i : Nat} (h : i < 121) : okI 26 (nI i) = true := okI_n rfl h (by decide)
theorem okI_27 {i : Nat} (h : i < 5) : okI 27 (nI i) = true := okI_n rfl h (by decide)
theorem okI_29 {i : Nat} (h : i < 8) : okI 29 (nI i) = true := okI_n rfl h (by decide)
theorem okI_30 {i : Nat} (h : i < 8) : okI 30 (nI i) = true := okI_n rfl h (by decide)
theorem okI_31 {i : Nat} (h : i < 8) : okI 31 (nI i) = true := okI_n rfl h (by decide)
theorem okI_32 {i : Nat} (h : i < 192) : okI 32 (nI i) = true := okI_n rfl h (by decide)
theorem okL_33 {i : Nat} (h : i < 32) : okL 33 (nI i) = true := okL_n rfl h (by decide)
theorem okI_35 {i : Nat} (h : i < 8) : okI 35 (nI i) = true := okI_n rfl h (by decide)
theorem okI_36 {i : Nat} (h : i < 8) : okI 36 (nI i) = true := okI_n rfl h (by decide)
theorem okI_37 {i : Nat} (h : i < 12) : okI 37 (nI i) = true := okI_n rfl h (by decide)
theorem okI_38 {i : Nat} (h : i < 12) : okI 38 (nI i) = true := okI_n rfl h (by decide)
theorem okI_39 {i : Nat} (h : i < 12) : okI 39 (nI i) = true := okI_n rfl h (by decide)
theorem okI_41 {i : Nat} (h : i < 24) : okI 41 (nI i) = true := okI_n rfl h (by decide)
theorem okI_42 {i : Nat} (h : i < 50) : okI 42 (nI i) = true := okI_n rfl h (by decide)
theorem okI_44 {i : Nat} (h : i < 6) : okI 44 (nI i) = true := okI_n rfl h (by decide)
theorem okI_45 {i : Nat} (h : i < 6) : okI 45 (nI i) = true := okI_n rfl h (by decide)
theorem okL_46 {i : Nat} (h : i < 360) : okL 46 (nI i) = true := okL_n rfl h (by decide)
theorem okI_48 {i : Nat} (h : i < 20) : okI 48 (nI i) = true := okI_n rfl h (by decide)
theorem okI_49 {i : Nat} (h : i < 40) : okI 49 (nI i) = true := okI_n rfl h (by decide)
theorem okI_50 {i : Nat} (h : i < 40) : okI 50 (nI i) = true := okI_n rfl h (by decide)
theorem okI_51 {i : Nat} (h : i < 40) : okI 51 (nI i) = true := okI_n rfl h (by decide)
theorem okI_52 {i : Nat} (h : i < 12) : okI 52 (nI i) = true := okI_n rfl h (by decide)
theorem okI_53 {i : Nat} (h : i < 12) : okI 53 (nI i) = true := okI_n rfl h (by decide)
theorem okI_54 {i : Nat} (h : i < 120) : okI 54 (nI i) = true := okI_n rfl h (by decide)
theorem okI_55 {i : Nat} (h : i < 120) : okI 55 (nI i) = true := okI_n rfl h (by decide)
theorem okI_56 {i : Nat} (h : i < 5) : okI 56 (nI i) = true := okI_n rfl h (by decide)
theorem okI_57 {i : Nat} (h : i < 8) : okI 57 (nI i) = true := okI_n rfl h (by decide)
theorem okI_58 {i : Nat} (h : i < 8) : okI 58 (nI i) = true := okI_n rfl h (by decide)
theorem okI_59 {i : Nat} (h : i < 8) : okI 59 (nI i) = true := okI_n rfl h (by decide)
theorem okI_60 {i : Nat} (h : i < 8) : okI 60 (nI i) = true := okI_n rfl h (by decide)
theorem okI_61 {i : Nat} (h : i < 64) : okI 61 (nI i) = true := okI_n rfl h (by decide)
theorem okZ_62 {i : Nat} (h : i < 256) : okZ 62 (nI i) = true := okZ_n rfl h (by decide)
theorem okI_63 {i : Nat} (h : i < 96) : okI 63 (nI i) = true := okI_n rfl h (by decide)
theorem okI_64 {i : Nat} (h : i < 24) : okI 64 (nI i) = true := okI_n rfl h (by decide)
theorem okI_65 {i : Nat} (h : i < 8) : okI 65 (nI i) = true := okI_n rfl h (by decide)
theorem okI_66 {i : Nat} (h : i < 8) : okI 66 (nI i) = true := okI_n rfl h (by decide)
theorem okL_67 {i : Nat} (h : i < 8) : okL 67 (nI i) = true := okL_n rfl h (by decide)
theorem okL_68 {i : Nat} (h : i < 8) : okL 68 (nI i) = true := okL_n rfl h (by decide)
theorem okL_69 {i : Nat} (h : i < 8) : okL 69 (nI i) = true := okL_n rfl h (by decide)
theorem okI_70 {i : Nat} (h : i < 12) : okI 70 (nI i) = true := okI_n rfl h (by decide)
theorem okI_71 {i : Nat} (h : i < 50) : okI 71 (nI i) = true := okI_n rfl h (by decide)
theorem okI_72 {i : Nat} (h : i < 24) : okI 72 (nI i) = true := okI_n rfl h (by decide)
theorem okI_73 {i : Nat} (h : i < 6) : okI 73 (nI i) = true := okI_n rfl h (by decide)
theorem okI_74 {i : Nat} (h : i < 6) : okI 74 (nI i) = true := okI_n rfl h (by decide)
theorem okL_75 {i : Nat} (h : i < 360) : okL 75 (nI i) = true := okL_n rfl h (by decide)
theorem okL_76 {i : Nat} (h : i < 60) : okL 76 (nI i) = true := okL_n rfl h (by decide)
