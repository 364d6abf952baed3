/-! wrong: what the least price tells, and the model's search -/
def cstF (nm : Nat) (wi lo ct : Nat → Nat) : Nat → List Nat → Nat
  | _, [] => 0
  | S, p :: l => prc nm wi lo ct p S + cstF nm wi lo ct (S ||| 2 ^ p) l
section WRT
variable {n nm : Nat} {wi lo ct : Nat → Nat}
theorem cst_app (S : Nat) : ∀ (l m : List Nat) (S : Nat), cstF nm wi lo ct S (l ++ m) = cstF nm wi lo ct S l + cstF nm wi lo ct (st S l) m
  | [], m, S => by simp [cstF, st]
  | p :: l, m, S => by
    rw [List.cons_append, cstF, cst_app S l m, cstF, st]; omega
theorem xor_or {S q : Nat} (h : S.testBit q = false) : (S ||| 2 ^ q) ^^^ 2 ^ q = S := by
  apply Nat.eq_of_testBit_eq
  intro i
  rw [Nat.testBit_xor, tb_or, Nat.testBit_two_pow]
  by_cases e : q = i
  · subst e; simp [h]
  · simp [e]
theorem or_xor {T q : Nat} (h : T.testBit q = true) : (T ^^^ 2 ^ q) ||| 2 ^ q = T := by
  apply Nat.eq_of_testBit_eq
  intro i
  rw [tb_or, Nat.testBit_xor, Nat.testBit_two_pow]
  by_cases e : q = i
  · subst e; simp [h]
  · simp [e]
theorem ls_lo (hn : n ≤ 8) : ∀ (f : Nat) (l : List Nat), l.length = f → (∀ p ∈ l, p < n) → vld (fun _ => 0) 0 l = true → ls n nm wi lo ct (st 0 l) ≤ cstF nm wi lo ct 0 l := by
  intro f
  induction f with
  | zero =>
    intro l hl _ _
    have : l = [] := List.length_eq_zero_iff.mp hl
    rw [this]
    show ls n nm wi lo ct 0 ≤ _
    rw [ls_0]; exact Nat.zero_le _
  | succ f ih =>
    intro l hl h1 h2
    rcases List.eq_nil_or_concat l with e | ⟨l2, q, e⟩
    · rw [e] at hl; simp at hl
    · rw [List.concat_eq_append] at e
      subst e
      rw [vld_app, Bool.and_eq_true] at h2
      simp only [vld, Bool.and_true] at h2
      have hq := fl_f h2.2
      have hqn := h1 q (by simp)
      have h3 := ih l2 (by simpa using hl) (fun p hp => h1 p (by simp [hp])) h2.1
      have hS := (pop_st n (fun _ => 0) hn l2 0 (Nat.two_pow_pos n) (fun p hp => h1 p (by simp [hp])) h2.1).1
      have hT : st 0 l2 ||| 2 ^ q < 2 ^ n := or_lt hS hqn
      have h0 : st 0 l2 ||| 2 ^ q ≠ 0 := fun e => by
        have := congrArg (fun x => x.testBit q) e
        simp [tb_or] at this
      have hb : (st 0 l2 ||| 2 ^ q).testBit q = true := by rw [tb_or]; simp
      rw [st_app, cst_app 0]
      show ls n nm wi lo ct (st 0 l2 ||| 2 ^ q) ≤ cstF nm wi lo ct 0 l2 + (prc nm wi lo ct q (st 0 l2) + 0)
      rw [ls_rec n nm wi lo ct hn hT h0]
      have := mi_le (g := fun q' => if (st 0 l2 ||| 2 ^ q).testBit q' = true then ls n nm wi lo ct ((st 0 l2 ||| 2 ^ q) ^^^ 2 ^ q') + prc nm wi lo ct q' ((st 0 l2 ||| 2 ^ q) ^^^ 2 ^ q') else 2147483647) n 0 q (by omega) (by omega)
      simp only [hb, if_true, xor_or hq] at this
      omega
theorem ls_hi (hn : n ≤ 8) (hm : nm ≤ 12) : ∀ (f T : Nat), T < 2 ^ n → pop T = f → ∃ l : List Nat, (∀ p ∈ l, p < n) ∧ vld (fun _ => 0) 0 l = true ∧ st 0 l = T ∧ cstF nm wi lo ct 0 l = ls n nm wi lo ct T := by
  have h256 := pow_n hn
  intro f
  induction f with
  | zero =>
    intro T hT hp
    have : T = 0 := by
      by_cases q : T = 0
      · exact q
      · exact absurd hp (pop_pos0 T (by omega) q)
    exact ⟨[], fun p hp => (by cases hp), rfl, this.symm, by rw [this, ls_0]; rfl⟩
  | succ f ih =>
    intro T hT hp
    have h0 : T ≠ 0 := fun e => by rw [e, pop_0] at hp; omega
    have hb := ls_b n nm wi lo ct hn hm hT
    have hrec := ls_rec n nm wi lo ct hn hT h0
    rcases mi_at (g := fun q => if T.testBit q = true then ls n nm wi lo ct (T ^^^ 2 ^ q) + prc nm wi lo ct q (T ^^^ 2 ^ q) else 2147483647) n 0 with h | ⟨q, -, hq, h⟩
    · omega
    · by_cases c : T.testBit q = true
      · simp only [c, if_true] at h
        have hx := xor_lt c
        have hpp := pop_xor0 T (by omega) q (by omega) c
        obtain ⟨l, a1, a2, a3, a4⟩ := ih (T ^^^ 2 ^ q) (by omega) (by omega)
        refine ⟨l ++ [q], fun p hp => ?_, ?_, ?_, ?_⟩
        · rcases List.mem_append.mp hp with hp | hp
          · exact a1 p hp
          · rw [List.mem_singleton.mp hp]; omega
        · rw [vld_app, a2, a3]
          have : (T ^^^ 2 ^ q).testBit q = false := by rw [Nat.testBit_xor, c, Nat.testBit_two_pow_self]; rfl
          simp [vld, fl, this]
        · rw [st_app, a3]
          exact or_xor c
        · rw [cst_app 0, a3, a4, hrec, h]
          show _ + (prc nm wi lo ct q (T ^^^ 2 ^ q) + 0) = _
          omega
      · have h' : mi (fun q => if T.testBit q = true then ls n nm wi lo ct (T ^^^ 2 ^ q) + prc nm wi lo ct q (T ^^^ 2 ^ q) else 2147483647) n 0 = 2147483647 := by
          rw [h]
          show (if T.testBit q = true then _ else 2147483647) = 2147483647
          rw [if_neg c]
        omega
/-- which matches an order makes false -/
def Fo (nm : Nat) (wi lo ct : Nat → Nat) (o : List Nat) : Nat := msk (fun m => decide (ct m = 1) && decide (pL o (lo m) < pL o (wi m))) nm
def keyN (nm F : Nat) : Nat := su (fun m => if F.testBit m = true then 4096 + 2 ^ m else 0) nm 0
theorem cst_v (hw : ∀ m, m < nm → wi m ≠ lo m) : ∀ (l : List Nat) (S : Nat), l.Nodup → (∀ p ∈ l, S.testBit p = false) → cstF nm wi lo ct S l = su (fun m => if ct m = 1 ∧ wi m ∈ l ∧ (S.testBit (lo m) = true ∨ (lo m ∈ l ∧ l.idxOf (lo m) < l.idxOf (wi m))) then 4096 + 2 ^ m else 0) nm 0
  | [], S, _, _ => by
    rw [cstF]
    exact (su_0 nm 0 (fun m _ _ => by show (if ct m = 1 ∧ wi m ∈ [] ∧ _ then _ else 0) = 0; rw [if_neg (fun h => by simp at h)])).symm
  | p :: l, S, h1, h2 => by
    rw [List.nodup_cons] at h1
    rw [cstF, cst_v hw l (S ||| 2 ^ p) h1.2 (fun q hq => by
      rw [tb_or, h2 q (List.mem_cons_of_mem _ hq), Bool.false_or, decide_eq_false_iff_not]
      intro e; subst e; exact h1.1 hq)]
    unfold prc
    rw [← su_add]
    refine su_congr nm 0 (fun m _ hm => ?_)
    have hne := hw m (by omega)
    have hpS := h2 p List.mem_cons_self
    by_cases c : ct m = 1
    · by_cases e : wi m = p
      · have e2 : wi m ∉ l := by rw [e]; exact h1.1
        have e3 : (p :: l).idxOf (wi m) = 0 := by rw [e]; simp
        by_cases s : S.testBit (lo m) = true
        · rw [if_pos ⟨e, c, s⟩, if_neg (fun h => e2 h.2.1), if_pos ⟨c, by rw [e]; simp, Or.inl s⟩, Nat.add_zero]
        · rw [if_neg (fun h => s h.2.2), if_neg (fun h => e2 h.2.1), if_neg]
          rintro ⟨-, -, h | ⟨-, h⟩⟩
          · exact s h
          · omega
      · rw [if_neg (fun h => e h.1), Nat.zero_add]
        have iw : (p :: l).idxOf (wi m) = l.idxOf (wi m) + 1 := by rw [List.idxOf_cons, beq_eq_false_iff_ne.mpr (Ne.symm e)]; rfl
        have key : (ct m = 1 ∧ wi m ∈ l ∧ ((S ||| 2 ^ p).testBit (lo m) = true ∨ (lo m ∈ l ∧ l.idxOf (lo m) < l.idxOf (wi m)))) ↔ (ct m = 1 ∧ wi m ∈ p :: l ∧ (S.testBit (lo m) = true ∨ (lo m ∈ p :: l ∧ (p :: l).idxOf (lo m) < (p :: l).idxOf (wi m)))) := by
          rw [List.mem_cons, List.mem_cons, iw, tb_or, Bool.or_eq_true, decide_eq_true_eq]
          by_cases el : lo m = p
          · have il : (p :: l).idxOf (lo m) = 0 := by rw [el]; simp
            rw [il]
            constructor
            · rintro ⟨a, b, -⟩; exact ⟨a, Or.inr b, Or.inr ⟨Or.inl el, by omega⟩⟩
            · rintro ⟨a, b | b, -⟩
              · exact absurd b e
              · exact ⟨a, b, Or.inl (Or.inr el.symm)⟩
          · have il : (p :: l).idxOf (lo m) = l.idxOf (lo m) + 1 := by rw [List.idxOf_cons, beq_eq_false_iff_ne.mpr (Ne.symm el)]; rfl
            rw [il]
            constructor
            · rintro ⟨a, b, (h | h) | ⟨h, h3⟩⟩
              · exact ⟨a, Or.inr b, Or.inl h⟩
              · exact absurd h.symm el
              · exact ⟨a, Or.inr b, Or.inr ⟨Or.inr h, by omega⟩⟩
            · rintro ⟨a, b | b, h | ⟨h | h, h3⟩⟩
              · exact absurd b e
              · exact absurd b e
              · exact absurd b e
              · exact ⟨a, b, Or.inl (Or.inl h)⟩
              · exact absurd h el
              · exact ⟨a, b, Or.inr ⟨h, by omega⟩⟩
        by_cases k : ct m = 1 ∧ wi m ∈ l ∧ ((S ||| 2 ^ p).testBit (lo m) = true ∨ (lo m ∈ l ∧ l.idxOf (lo m) < l.idxOf (wi m)))
        · rw [if_pos k, if_pos (key.mp k)]
        · rw [if_neg k, if_neg (fun h => k (key.mpr h))]
    · rw [if_neg (fun h => c h.2.1), if_neg (fun h => c h.1), if_neg (fun h => c h.1)]
theorem cst_key (hw : ∀ m, m < nm → wi m < n ∧ lo m < n ∧ wi m ≠ lo m) {o : List Nat} (ho : okL3 n o) : cstF nm wi lo ct 0 o = keyN nm (Fo nm wi lo ct o) := by
  rw [cst_v (fun m hm => (hw m hm).2.2) o 0 ho.2.1 (fun p _ => Nat.zero_testBit p)]
  unfold keyN
  refine su_congr nm 0 (fun m _ hm => ?_)
  have h1 := hw m (by omega)
  unfold Fo
  rw [tb_msk, decide_eq_true (show m < nm by omega), Bool.true_and]
  by_cases k : ct m = 1 ∧ pL o (lo m) < pL o (wi m)
  · rw [if_pos ⟨k.1, ho.2.2.2 _ h1.1, Or.inr ⟨ho.2.2.2 _ h1.2.1, k.2⟩⟩, if_pos (by simp [k.1, k.2])]
  · rw [if_neg, if_neg (by simp only [Bool.and_eq_true, decide_eq_true_eq]; exact k)]
    rintro ⟨a, -, h | ⟨-, h⟩⟩
    · rw [Nat.zero_testBit] at h; cases h
    · exact k ⟨a, h⟩
theorem key12 : ∀ a, a < 64 → ∀ b, b < 64 → keyN 12 (64 * a + b) = 4096 * pop (64 * a + b) + (64 * a + b) := by decide +kernel
theorem su_split (g : Nat → Nat) : ∀ a b j, su g (a + b) j = su g a j + su g b (j + a)
  | 0, b, j => by simp [su]
  | a + 1, b, j => by
    rw [show a + 1 + b = (a + b) + 1 by omega, su, su_split g a b (j + 1), su, show j + 1 + a = j + (a + 1) by omega]
    omega
theorem keyN_eq (hm : nm ≤ 12) {F : Nat} (hF : F < 2 ^ nm) : keyN nm F = 4096 * pop F + F ∧ F < 4096 := by
  have h2 : 2 ^ nm ≤ 2 ^ 12 := Nat.pow_le_pow_right (by omega) hm
  have h3 : F < 4096 := by omega
  refine ⟨?_, h3⟩
  have h4 := key12 (F / 64) (by omega) (F % 64) (by omega)
  rw [Nat.div_add_mod] at h4
  rw [← h4]
  unfold keyN
  have e := su_split (fun m => if F.testBit m = true then 4096 + 2 ^ m else 0) nm (12 - nm) 0
  rw [show nm + (12 - nm) = 12 by omega] at e
  rw [e, su_0 (12 - nm) (0 + nm) (fun m h5 _ => by
    show (if F.testBit m = true then 4096 + 2 ^ m else 0) = 0
    rw [tb_st8 hF (by omega)]; rfl)]
  omega
/-- without which there is an order -/
def Qf (n nm : Nat) (wi lo : Nat → Nat) (all F : Nat) : Prop := F &&& all = F ∧ hasO n (abv wi lo (all ^^^ (all &&& F)) nm) = true
theorem tb_diff (a F i : Nat) : (a ^^^ (a &&& F)).testBit i = (a.testBit i && !F.testBit i) := by
  rw [Nat.testBit_xor, Nat.testBit_and]
  cases a.testBit i <;> cases F.testBit i <;> rfl
theorem ord_of (hn : n ≤ 8) {s : Nat} (hw : ∀ m, m < nm → wi m < n ∧ lo m < n ∧ wi m ≠ lo m) {o : List Nat} (ho : okL3 n o) : o ∈ ext n (abv wi lo s nm) n 0 ↔ ∀ m, m < nm → s.testBit m = true → pL o (wi m) < pL o (lo m) := by
  have hp := permL ho
  constructor
  · intro h m hm hs
    obtain ⟨h1, h2, -⟩ := hw m hm
    obtain ⟨b1, b2⟩ := hp.2 (lo m) h2
    have hf := fl_take hn h b1
    rw [b2] at hf
    simp only [fl, Bool.and_eq_true, decide_eq_true_eq] at hf
    have h3 := land_sub.mp hf.2 (wi m) ((tb_abv nm (lo m)).mpr ⟨m, hm, hs, rfl, rfl⟩)
    rw [tb_st, Nat.zero_testBit, Bool.false_or, decide_eq_true_eq] at h3
    exact (mem_take ho h1 (by omega)).mp h3
  · intro h
    refine full_mem hn ho.2.2.1 ((vld_iff o 0).mpr (fun k hk => ?_)) ho.2.2.2
    rw [ho.1] at hk
    simp only [fl, Bool.and_eq_true, Bool.not_eq_true', decide_eq_true_eq]
    constructor
    · rw [tb_st, Nat.zero_testBit, Bool.false_or, decide_eq_false_iff_not]
      intro hm
      have := (mem_take ho (hp.1 k hk).1 (by omega)).mp hm
      rw [(hp.1 k hk).2] at this
      omega
    · refine land_sub.mpr (fun i hi => ?_)
      obtain ⟨m, hm, hs, e1, e2⟩ := (tb_abv nm _).mp hi
      rw [tb_st, Nat.zero_testBit, Bool.false_or, decide_eq_true_eq, ← e2]
      refine (mem_take ho (hw m hm).1 (by omega)).mpr ?_
      have := h m hm hs
      rw [e1, (hp.1 k hk).2] at this
      exact this
end WRT
