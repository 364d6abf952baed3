/-! the law's loop ends -/
theorem okX_i {L i : Nat} (h : i < L) (hL : L ≤ 100000) : okX L (nI i) = true := by
  unfold okX
  rw [decide_eq_true_eq, n_clamp (by omega), i_lt, n_toInt (by omega)]
  have h0 : (0 : Int32).toInt = 0 := rfl
  omega
theorem br_e {c : Prop} [Decidable c] {X Y : Option Mem} (h1 : ∃ M1, X = some M1) (h2 : ∃ M1, Y = some M1) : ∃ M1, (if c then X else Y) = some M1 := by
  split
  · exact h1
  · exact h2
theorem law_run {L : Nat} {xs : Nat → Int32} (hL : L ≤ 100000) : ∀ (f i : Nat) (M : Mem), L < i + 6 * f → i ≤ L → Inv M → ∃ M1, f_law_L18 L xs f (nI i) M = some M1 := by
  intro f
  induction f with
  | zero => intro i M h1 h2; omega
  | succ f ih =>
    intro i M h1 h2 hI
    rw [f_law_L18]
    have e6 : (nI L - 6).toInt = (L : Int) - 6 := by
      rw [Int32.toInt_sub, n_toInt (by omega)]
      have h6 : (6 : Int32).toInt = 6 := rfl
      rw [h6]
      exact Int.bmod_eq_of_le (by omega) (by omega)
    have ec : (nI L - 6 < nI i) = ((L : Int) - 6 < i) := by rw [i_lt, e6, n_toInt (by omega)]
    simp only [ec]
    by_cases c : (L : Int) - 6 < i
    · rw [if_pos c]; exact ⟨M, rfl⟩
    · rw [if_neg c, ck_t (okX_i (by omega) hL)]
      have ad : ∀ j : Nat, nI i + nI j = nI (i + j) := fun j => n_add i j
      have hx : HX L (nI i) := ⟨(congrArg (okX L) (ad 1)).trans (okX_i (by omega) hL), (congrArg (okX L) (ad 2)).trans (okX_i (by omega) hL), (congrArg (okX L) (ad 3)).trans (okX_i (by omega) hL), (congrArg (okX L) (ad 4)).trans (okX_i (by omega) hL), (congrArg (okX L) (ad 5)).trans (okX_i (by omega) hL)⟩
      have go : ∀ {X : Option Mem}, (∃ M1, X = (fun a0 a1 => f_law_L18 L xs f a0 a1) (nI i + 6) M1 ∧ Inv M1) → ∃ M1, X = some M1 := fun ⟨M1, e, h3⟩ => by
        obtain ⟨M2, e2⟩ := ih (i + 6) M1 (by omega) (by omega) h3
        refine ⟨M2, e.trans ?_⟩
        show f_law_L18 L xs f (nI i + 6) M1 = some M2
        rw [show nI i + 6 = nI (i + 6) from ad 6, e2]
      refine br_e (go (st_player hx hI)) ?_
      refine br_e (go (st_match hx hI)) ?_
      refine br_e (go (st_matches hx hI)) ?_
      refine br_e (go (st_mend hx hI)) ?_
      refine br_e (go (st_of hx hI)) ?_
      refine br_e (go (st_feed hx hI)) ?_
      refine br_e (go (st_law hx hI)) ?_
      refine br_e (go (st_orders hx hI)) ?_
      refine br_e (go (st_sure hx hI)) ?_
      refine br_e (go (st_places hx hI)) ?_
      refine br_e (go (st_clash hx hI)) ?_
      refine br_e (go (st_wrong hx hI)) ?_
      refine br_e (go (st_ask hx hI)) ?_
      refine br_e (go (st_proof hx hI)) ?_
      refine br_e (go (st_worst hx hI)) ?_
      refine br_e (go (st_mean hx hI)) ?_
      refine br_e (go (st_next hx hI)) ?_
      refine br_e (go (st_longest hx hI)) ?_
      refine br_e (go (st_chance hx hI)) ?_
      refine br_e (go (st_cup hx hI)) ?_
      refine br_e (go (st_likely hx hI)) ?_
      refine br_e (go (st_friend hx hI)) ?_
      refine br_e (go (st_lots hx hI)) ?_
      refine br_e (go (st_champion hx hI)) ?_
      refine br_e (go (st_table hx hI)) ?_
      refine br_e (go (st_days hx hI)) ?_
      refine br_e (go (st_undo hx hI)) ?_
      refine br_e (go (st_redo hx hI)) ?_
      refine br_e (go (st_body hx hI)) ?_
      refine br_e (go (st_act hx hI)) ?_
      refine br_e (go (st_trace hx hI)) ?_
      refine br_e (go (st_keep hx hI)) ?_
      refine br_e (go (st_row hx hI)) ?_
      refine br_e (go (st_put hx hI)) ?_
      refine br_e (go (st_element hx hI)) ?_
      refine br_e (go (st_shift hx hI)) ?_
      refine br_e (go (st_taken hx hI)) ?_
      refine br_e (go (st_count hx hI)) ?_
      exact go ⟨M, rfl, hI⟩
