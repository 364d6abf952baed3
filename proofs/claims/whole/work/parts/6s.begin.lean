/-! the search: orders of what is known, and how the class begins -/
section BEG
variable {n : Nat} {ab : Nat → Nat} {M : Mem}
theorem ord_g (hn : n ≤ 8) {o : List Nat} (ho : okL3 n o) : o ∈ ext n ab n 0 ↔ ∀ p, p < n → ∀ i, (ab p).testBit i = true → i < n ∧ pL o i < pL o p := by
  have hp := permL ho
  constructor
  · intro h p hpn i hi
    obtain ⟨b1, b2⟩ := hp.2 p hpn
    have hf := fl_take hn h b1
    rw [b2] at hf
    simp only [fl, Bool.and_eq_true, decide_eq_true_eq] at hf
    have h3 := land_sub.mp hf.2 i hi
    rw [tb_st, Nat.zero_testBit, Bool.false_or, decide_eq_true_eq] at h3
    have hin := ho.2.2.1 i (List.mem_of_mem_take h3)
    exact ⟨hin, (mem_take ho hin (by omega)).mp h3⟩
  · intro h
    refine full_mem hn ho.2.2.1 ((vld_iff o 0).mpr (fun k hk => ?_)) ho.2.2.2
    rw [ho.1] at hk
    simp only [fl, Bool.and_eq_true, Bool.not_eq_true', decide_eq_true_eq]
    constructor
    · rw [tb_st, Nat.zero_testBit, Bool.false_or, decide_eq_false_iff_not]
      intro hm
      have := (mem_take ho (hp.1 k hk).1 (by omega)).mp hm
      rw [(hp.1 k hk).2] at this
      omega
    · refine land_sub.mpr (fun i hi => ?_)
      rw [tb_st, Nat.zero_testBit, Bool.false_or, decide_eq_true_eq]
      obtain ⟨a1, a2⟩ := h _ (hp.1 k hk).1 i hi
      refine (mem_take ho a1 (by omega)).mpr ?_
      rw [(hp.1 k hk).2] at a2
      exact a2
theorem isBet_all (hn : n ≤ 8) (hE : ext n ab n 0 ≠ []) {a b : Nat} (ha : a < n) (hb : b < n) (hab : a ≠ b) : isBet n ab a b ↔ ∀ o ∈ ext n ab n 0, pL o a < pL o b := by
  rw [isBet_iff hn hE ha hb hab]
  unfold btL
  rw [List.countP_eq_length]
  simp only [decide_eq_true_eq]
theorem ord_K {K : Nat} (h : OKK n K) {o : List Nat} (ho : okL3 n o) : o ∈ ext n (rwK K) n 0 ↔ ∀ c v, c < n → v < n → ka K c v = true → pL o c < pL o v := by
  have h4 := h.1
  rw [ord_g (by omega) ho]
  constructor
  · intro h1 c v hc hv hk
    exact (h1 v hv c (by rw [tb_rwK, decide_eq_true (show c < 4 by omega), Bool.true_and]; exact hk)).2
  · intro h1 p hp i hi
    rw [tb_rwK, Bool.and_eq_true, decide_eq_true_eq] at hi
    have hin := (insB_iff.mp h.2.2.2 i p hi.1 (by omega) hi.2).1
    exact ⟨hin, h1 i p hin hp hi.2⟩
theorem ord_wth {K a b : Nat} (h : OKK n K) (ha : a < n) (hb : b < n) (hab : a ≠ b) (hu : unk K a b = true) {o : List Nat} (ho : okL3 n o) : o ∈ ext n (rwK (wth K a b)) n 0 ↔ (o ∈ ext n (rwK K) n 0 ∧ pL o a < pL o b) := by
  have h4 := h.1
  rw [ord_K (kk_with h ha hb hab hu).2.1 ho, ord_K h ho]
  constructor
  · intro h1
    refine ⟨fun c v hc hv hk => h1 c v hc hv ?_, h1 a b ha hb ?_⟩
    · rw [ka_wth (by omega) (by omega), hk]; rfl
    · rw [ka_wth (by omega) (by omega)]; simp
  · rintro ⟨h1, h2⟩ c v hc hv hk
    rw [ka_wth (by omega) (by omega)] at hk
    simp only [Bool.or_eq_true, Bool.and_eq_true, decide_eq_true_eq] at hk
    rcases hk with hk | ⟨hk1, hk2⟩
    · exact h1 c v hc hv hk
    · have e1 : pL o c ≤ pL o a := by
        rcases hk2 with e | e
        · rw [e]; exact Nat.le_refl _
        · exact Nat.le_of_lt (h1 c a hc ha e)
      have e2 : pL o b ≤ pL o v := by
        rcases hk1 with e | e
        · rw [e]; exact Nat.le_refl _
        · exact Nat.le_of_lt (h1 b v hb hv e)
      omega
/-- what the class holds of the search between calls -/
def SI (M : Mem) : Prop := ∃ n kn ak, n < 100 ∧ kn < 100 ∧ ak < 100 ∧ SM n kn ak M
def KP (n : Nat) (ab : Nat → Nat) (g : Bool) (a b W : Nat) : Prop := W < 65536 ∧ ∀ c v, c < 4 → v < 4 → (ka W c v = true ↔ (g = true ∧ c < n ∧ v < n ∧ c ≠ v ∧ isBet n ab c v ∧ (c < a ∨ (c = a ∧ v < b))))
def BG (n : Nat) (ab : Nat → Nat) (kn ak : Nat) (g : Bool) (M : Mem) : Prop := SM n kn ak M ∧ TL n ab M ∧ okR M ∧ M.1 14 7 = bb g
theorem BG.w {kn ak : Nat} {g : Bool} {v : Int32} (h : BG n ab kn ak g M) : BG n ab kn ak g (wI M 14 6 v) := by
  obtain ⟨⟨a, b, c, d⟩, ⟨⟨t1, t2, t3⟩, t4⟩, r, q⟩ := h
  refine ⟨⟨by simp [wI_rd, a], by simp [wI_rd, b], by simp [wI_rd, c], fun md hm K hK => ?_⟩, ⟨⟨by simp [wI_rd, t1], by simp [wI_rd, t2], fun p hp => by simp [wI_rd, t3 p hp]⟩, fun S hS => by simp [wI_rd, t4 S hS]⟩, r, by simp [wI_rd, q]⟩
  rw [ab_wI_o (by omega)]
  exact d md hm K hK
theorem or_16 {W c v : Nat} (hW : W < 65536) (hc : c < 4) (hv : v < 4) : W ||| 2 ^ (4 * v + c) < 65536 := or_lt (n := 16) hW (by omega)
theorem ka_or {W a b c v : Nat} (ha : a < 4) (hc : c < 4) : ka (W ||| 2 ^ (4 * b + a)) c v = (ka W c v || (decide (a = c ∧ b = v))) := by
  unfold ka
  rw [tb_or]
  congr 1
  exact decide_eq_decide.mpr (by omega)
theorem cl_bg_i (hA : okA n ab) (hn : n ≤ 4) {kn ak : Nat} {g : Bool} {k106 : Int32 → Mem → Option Mem} {a : Nat} (ha : a < n) : ∀ (r b m W : Nat) (M : Mem), b + r = n → r < m → BG n ab kn ak g M → M.1 14 6 = nI W → KP n ab g a b W → ∃ W1 M1, f_X8_begin_L118 k106 m (nI a) (nI b) M = k106 (nI (a + 1)) M1 ∧ BG n ab kn ak g M1 ∧ M1.1 14 6 = nI W1 ∧ KP n ab g (a + 1) 0 W1
  | 0, b, m, W, M, h, hm, hB, hW, hK => by
    obtain ⟨m, rfl⟩ : ∃ m2, m = m2 + 1 := ⟨m - 1, by omega⟩
    rw [f_X8_begin_L118, hB.1.1, if_pos ((n_le (by omega) (by omega)).mpr (by omega)), n_s1]
    refine ⟨W, M, rfl, hB, hW, hK.1, fun c v hc hv => ?_⟩
    rw [hK.2 c v hc hv]
    constructor
    · rintro ⟨q1, q2, q3, q4, q5, q6⟩; exact ⟨q1, q2, q3, q4, q5, by omega⟩
    · rintro ⟨q1, q2, q3, q4, q5, q6⟩; exact ⟨q1, q2, q3, q4, q5, by omega⟩
  | r + 1, b, m, W, M, h, hm, hB, hW, hK => by
    obtain ⟨m, rfl⟩ : ∃ m2, m = m2 + 1 := ⟨m - 1, by omega⟩
    have skip : (¬ (g = true ∧ a ≠ b ∧ isBet n ab a b)) → KP n ab g a (b + 1) W := fun hs => ⟨hK.1, fun c v hc hv => by
      rw [hK.2 c v hc hv]
      constructor
      · rintro ⟨q1, q2, q3, q4, q5, q6⟩; exact ⟨q1, q2, q3, q4, q5, by omega⟩
      · rintro ⟨q1, q2, q3, q4, q5, q6⟩
        refine ⟨q1, q2, q3, q4, q5, ?_⟩
        by_cases e : c = a ∧ v = b
        · rw [e.1, e.2] at q4 q5
          exact absurd ⟨q1, q4, q5⟩ hs
        · omega⟩
    have e1 : (nI a = nI b) = (a = b) := propext (n_eq (by omega) (by omega))
    obtain ⟨x, fx, hx⟩ := cl_better hA hB.2.1 ha (show b < n by omega)
    rw [f_X8_begin_L118, hB.1.1, if_neg (by rw [n_le (by omega) (by omega)]; omega), hB.2.2.2, fx, bd_s, ite_bb, ite_bb, hW]
    simp only [e1]
    unfold f_X8_begin_b170
    rw [n_s1, show (4 : Int32) = nI 4 from rfl, n_mul, n_add, n_shl1 _ (by omega), n_or, lt_e]
    by_cases c1 : g = true
    · rw [if_pos c1]
      by_cases c2 : a = b
      · rw [if_pos c2]
        exact cl_bg_i hA hn ha r (b + 1) m W M (by omega) (by omega) hB hW (skip (fun h => h.2.1 c2))
      · rw [if_neg c2]
        by_cases c3 : x = true
        · rw [if_pos c3]
          refine cl_bg_i hA hn ha r (b + 1) m (W ||| 2 ^ (4 * b + a)) _ (by omega) (by omega) hB.w (by simp [wI_rd]) ⟨or_16 hK.1 (by omega) (by omega), fun c v hc hv => ?_⟩
          rw [ka_or (by omega) hc, Bool.or_eq_true, hK.2 c v hc hv, decide_eq_true_eq]
          constructor
          · rintro (⟨q1, q2, q3, q4, q5, q6⟩ | ⟨e2, e3⟩)
            · exact ⟨q1, q2, q3, q4, q5, by omega⟩
            · subst e2 e3
              exact ⟨c1, ha, by omega, c2, hx.mp c3, by omega⟩
          · rintro ⟨q1, q2, q3, q4, q5, q6⟩
            by_cases e : a = c ∧ b = v
            · exact Or.inr e
            · exact Or.inl ⟨q1, q2, q3, q4, q5, by omega⟩
        · rw [if_neg c3]
          exact cl_bg_i hA hn ha r (b + 1) m W M (by omega) (by omega) hB hW (skip (fun h => c3 (hx.mpr h.2.2)))
    · rw [if_neg c1]
      exact cl_bg_i hA hn ha r (b + 1) m W M (by omega) (by omega) hB hW (skip (fun h => c1 h.1))
theorem cl_bg_o (hA : okA n ab) (hn : n ≤ 4) {kn ak : Nat} {g : Bool} : ∀ (r a m W : Nat) (M : Mem), a + r = n → r < m → BG n ab kn ak g M → M.1 14 6 = nI W → KP n ab g a 0 W → ∃ W1 M1, f_X8_begin_L106 m (nI a) M = some M1 ∧ BG n ab kn ak g M1 ∧ M1.1 14 6 = nI W1 ∧ KP n ab g n 0 W1
  | 0, a, m, W, M, h, hm, hB, hW, hK => by
    obtain ⟨m, rfl⟩ : ∃ m2, m = m2 + 1 := ⟨m - 1, by omega⟩
    have : a = n := by omega
    subst this
    rw [f_X8_begin_L106, hB.1.1, if_pos ((n_le (by omega) (by omega)).mpr (by omega))]
    exact ⟨W, M, rfl, hB, hW, hK⟩
  | r + 1, a, m, W, M, h, hm, hB, hW, hK => by
    obtain ⟨m, rfl⟩ : ∃ m2, m = m2 + 1 := ⟨m - 1, by omega⟩
    rw [f_X8_begin_L106, hB.1.1, if_neg (by rw [n_le (by omega) (by omega)]; omega)]
    obtain ⟨W1, M1, f1, b1, w1, k1⟩ := cl_bg_i hA hn (k106 := fun a0 a1 => f_X8_begin_L106 m a0 a1) (show a < n by omega) n 0 FU W M (by omega) (by unfold FU; omega) hB hW hK
    have f1' : f_X8_begin_L118 (fun a0 a1 => f_X8_begin_L106 m a0 a1) FU (nI a) 0 M = _ := f1
    rw [f1']
    exact cl_bg_o hA hn r (a + 1) m W1 M1 (by omega) (by omega) b1 w1 k1
theorem KP_OKK (hA : okA n ab) (hn : n ≤ 4) {W : Nat} (hE : ext n ab n 0 ≠ []) (h : KP n ab true n 0 W) : OKK n W := by
  refine ⟨hn, h.1, clB_iff.mpr (fun a b ha hb hk => ?_), insB_iff.mpr (fun a b ha hb hk => ?_)⟩
  · obtain ⟨-, q2, q3, q4, q5, -⟩ := (h.2 a b ha hb).mp hk
    have hab := (isBet_all hA.1 hE q2 q3 q4).mp q5
    constructor
    · cases e : ka W b a
      · rfl
      · exfalso
        obtain ⟨-, p2, p3, p4, p5, -⟩ := (h.2 b a hb ha).mp e
        have hba := (isBet_all hA.1 hE p2 p3 p4).mp p5
        obtain ⟨o, ho⟩ := List.exists_mem_of_ne_nil _ hE
        have := hab o ho
        have := hba o ho
        omega
    · intro c hc hk2
      obtain ⟨-, p2, p3, p4, p5, -⟩ := (h.2 b c hb hc).mp hk2
      have hbc := (isBet_all hA.1 hE p2 p3 p4).mp p5
      refine (h.2 a c ha hc).mpr ⟨rfl, q2, p3, ?_, fun S hS hw hs => q5 S hS hw (p5 S hS hw hs), Or.inl q2⟩
      intro e
      obtain ⟨o, ho⟩ := List.exists_mem_of_ne_nil _ hE
      have := hab o ho
      have := hbc o ho
      rw [e] at *
      omega
  · obtain ⟨-, q2, q3, -⟩ := (h.2 a b ha hb).mp hk
    exact ⟨q2, q3⟩
end BEG
