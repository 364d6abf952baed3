/-! rows filled -/
def fiL (M : Mem) (c lo hi : Nat) (v : Int64) : Mem := (M.1, fun a => if a = c then (fun i => if lo ≤ i ∧ i < hi then v else M.2.1 c i) else M.2.1 a, M.2.2)
def fiI (M : Mem) (c lo hi : Nat) (v : Int32) : Mem := (fun a => if a = c then (fun i => if lo ≤ i ∧ i < hi then v else M.1 c i) else M.1 a, M.2)
theorem fiL_rd (M : Mem) (c lo hi : Nat) (v : Int64) (a i : Nat) : (fiL M c lo hi v).2.1 a i = if a = c ∧ lo ≤ i ∧ i < hi then v else M.2.1 a i := by
  unfold fiL
  by_cases h : a = c
  · subst h; simp
  · simp [h]
theorem fiI_rd (M : Mem) (c lo hi : Nat) (v : Int32) (a i : Nat) : (fiI M c lo hi v).1 a i = if a = c ∧ lo ≤ i ∧ i < hi then v else M.1 a i := by
  unfold fiI
  by_cases h : a = c
  · subst h; simp
  · simp [h]
theorem mem_ext2 {M N : Mem} (h1 : ∀ a b, M.1 a b = N.1 a b) (h2 : ∀ a b, M.2.1 a b = N.2.1 a b) (h3 : M.2.2 = N.2.2) : M = N := Prod.ext (funext fun a => funext fun b => h1 a b) (Prod.ext (funext fun a => funext fun b => h2 a b) h3)
theorem fiL_0 (M : Mem) (c lo : Nat) (v : Int64) : fiL M c lo lo v = M := mem_ext2 (fun _ _ => rfl) (fun a b => by rw [fiL_rd, if_neg (by omega)]) rfl
theorem fiI_0 (M : Mem) (c lo : Nat) (v : Int32) : fiI M c lo lo v = M := mem_ext2 (fun a b => by rw [fiI_rd, if_neg (by omega)]) (fun _ _ => rfl) rfl
theorem fiL_s (M : Mem) (c lo i : Nat) (v : Int64) (h : lo ≤ i) : wL (fiL M c lo i v) c i v = fiL M c lo (i + 1) v := by
  refine mem_ext2 (fun _ _ => rfl) (fun a b => ?_) rfl
  rw [wL_rd, fiL_rd, fiL_rd]
  by_cases ha : a = c
  · by_cases hb : b = i
    · rw [if_pos ⟨ha, hb⟩, if_pos ⟨ha, by omega⟩]
    · rw [if_neg (fun q => hb q.2)]
      by_cases h2 : lo ≤ b ∧ b < i
      · rw [if_pos ⟨ha, h2⟩, if_pos ⟨ha, by omega⟩]
      · rw [if_neg (fun q => h2 q.2), if_neg (fun q => h2 (by omega))]
  · simp [ha]
theorem fiI_s (M : Mem) (c lo i : Nat) (v : Int32) (h : lo ≤ i) : wI (fiI M c lo i v) c i v = fiI M c lo (i + 1) v := by
  refine mem_ext2 (fun a b => ?_) (fun _ _ => rfl) rfl
  rw [wI_rd, fiI_rd, fiI_rd]
  by_cases ha : a = c
  · by_cases hb : b = i
    · rw [if_pos ⟨ha, hb⟩, if_pos ⟨ha, by omega⟩]
    · rw [if_neg (fun q => hb q.2)]
      by_cases h2 : lo ≤ b ∧ b < i
      · rw [if_pos ⟨ha, h2⟩, if_pos ⟨ha, by omega⟩]
      · rw [if_neg (fun q => h2 q.2), if_neg (fun q => h2 (by omega))]
  · simp [ha]
theorem fillL_L {M : Mem} {c lo hi : Nat} {v : Int64} (hk : ab_k c = 101) (hn : hi ≤ ab_n c) (hb : ab_n c < 100000) : ∀ (r i n : Nat), i + r = hi → lo ≤ i → r < n → f_J7_fill_bad5a_L10 n c (nI hi) v (nI i) (fiL M c lo i v) = some (fiL M c lo hi v)
  | 0, i, n, h1, h2, h3 => by
    obtain ⟨n, rfl⟩ : ∃ n2, n = n2 + 1 := ⟨n - 1, by omega⟩
    have e : i = hi := by omega
    subst e
    simp (disch := omega) [f_J7_fill_bad5a_L10, n_le]
  | r + 1, i, n, h1, h2, h3 => by
    obtain ⟨n, rfl⟩ : ∃ n2, n = n2 + 1 := ⟨n - 1, by omega⟩
    have ih := fillL_L (M := M) (v := v) (lo := lo) hk hn hb r (i + 1) n (by omega) (by omega) (by omega)
    have ok := okL_n hk (show i < ab_n c by omega) (by omega)
    rw [← fiL_s M c lo i v h2] at ih
    simp (disch := omega) [f_J7_fill_bad5a_L10, n_le, show ¬ hi ≤ i by omega, ok, ck_T, lt_e, n_clamp, n_s1, ih]
theorem s_fillL {M : Mem} {c lo hi : Nat} {v : Int64} (hk : ab_k c = 101) (hn : hi ≤ ab_n c) (hb : ab_n c < 4000) (hl : lo ≤ hi) : f_J7_fill_bad5a c (nI lo) (nI hi) v M = some (fiL M c lo hi v) := by
  have L := fillL_L (M := M) (v := v) (lo := lo) hk hn (by omega) (hi - lo) lo FU (by omega) (by omega) (by show hi - lo < 5000; omega)
  rw [fiL_0] at L
  have e0 : (0 : Int32) ≤ nI lo := nI_pos' (by omega)
  have e1 : nI hi ≤ Int32.ofNat (ab_n c) := (n_le (by omega) (by omega)).mpr hn
  simp (disch := omega) [f_J7_fill_bad5a, f_J7_rangeCheck_23922, hk, ck_T, n_le, hl, e0, e1, L]
theorem fillI_L {M : Mem} {c lo hi : Nat} {v : Int32} (hk : ab_k c = 100) (hn : hi ≤ ab_n c) (hb : ab_n c < 100000) : ∀ (r i n : Nat), i + r = hi → lo ≤ i → r < n → f_J7_fill_fda19_L10 n c (nI hi) v (nI i) (fiI M c lo i v) = some (fiI M c lo hi v)
  | 0, i, n, h1, h2, h3 => by
    obtain ⟨n, rfl⟩ : ∃ n2, n = n2 + 1 := ⟨n - 1, by omega⟩
    have e : i = hi := by omega
    subst e
    simp (disch := omega) [f_J7_fill_fda19_L10, n_le]
  | r + 1, i, n, h1, h2, h3 => by
    obtain ⟨n, rfl⟩ : ∃ n2, n = n2 + 1 := ⟨n - 1, by omega⟩
    have ih := fillI_L (M := M) (v := v) (lo := lo) hk hn hb r (i + 1) n (by omega) (by omega) (by omega)
    have ok := okI_n hk (show i < ab_n c by omega) (by omega)
    rw [← fiI_s M c lo i v h2] at ih
    simp (disch := omega) [f_J7_fill_fda19_L10, n_le, show ¬ hi ≤ i by omega, ok, ck_T, lt_e, n_clamp, n_s1, ih]
theorem s_fillI {M : Mem} {c lo hi : Nat} {v : Int32} (hk : ab_k c = 100) (hn : hi ≤ ab_n c) (hb : ab_n c < 4000) (hl : lo ≤ hi) : f_J7_fill_fda19 c (nI lo) (nI hi) v M = some (fiI M c lo hi v) := by
  have L := fillI_L (M := M) (v := v) (lo := lo) hk hn (by omega) (hi - lo) lo FU (by omega) (by omega) (by show hi - lo < 5000; omega)
  rw [fiI_0] at L
  have e0 : (0 : Int32) ≤ nI lo := nI_pos' (by omega)
  have e1 : nI hi ≤ Int32.ofNat (ab_n c) := (n_le (by omega) (by omega)).mpr hn
  simp (disch := omega) [f_J7_fill_fda19, f_J7_rangeCheck_23922, hk, ck_T, n_le, hl, e0, e1, L]
theorem fillA_L {M : Mem} {c : Nat} {v : Int32} (hk : ab_k c = 100) (hb : ab_n c < 100000) : ∀ (r i n : Nat), i + r = ab_n c → r < n → f_J7_fill_53178_L5 n c v (nI i) (nI (ab_n c)) (fiI M c 0 i v) = some (fiI M c 0 (ab_n c) v)
  | 0, i, n, h1, h3 => by
    obtain ⟨n, rfl⟩ : ∃ n2, n = n2 + 1 := ⟨n - 1, by omega⟩
    have e : i = ab_n c := by omega
    subst e
    simp (disch := omega) [f_J7_fill_53178_L5, n_le]
  | r + 1, i, n, h1, h3 => by
    obtain ⟨n, rfl⟩ : ∃ n2, n = n2 + 1 := ⟨n - 1, by omega⟩
    have ih := fillA_L (M := M) (v := v) hk hb r (i + 1) n (by omega) (by omega)
    have ok := okI_n hk (show i < ab_n c by omega) (by omega)
    rw [← fiI_s M c 0 i v (by omega)] at ih
    simp (disch := omega) [f_J7_fill_53178_L5, n_le, show ¬ ab_n c ≤ i by omega, ok, ck_T, lt_e, n_clamp, n_s1, ih]
theorem s_fillA {M : Mem} {c : Nat} {v : Int32} (hk : ab_k c = 100) (hb : ab_n c < 4000) : f_J7_fill_53178 c v M = some (fiI M c 0 (ab_n c) v) := by
  have L := fillA_L (M := M) (v := v) hk (by omega) (ab_n c) 0 FU (by omega) (by show ab_n c < 5000; omega)
  rw [fiI_0] at L
  have e : Int32.ofNat (ab_n c) = nI (ab_n c) := rfl
  have e0 : (0 : Int32) = nI 0 := rfl
  simp only [f_J7_fill_53178, hk, decide_true, ck_T, lt_e]
  rw [e0, e]
  exact L
