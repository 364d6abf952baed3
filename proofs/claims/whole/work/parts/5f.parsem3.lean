section MLAW3
variable {tp : Nat → Nat} {n : Nat} {bs : Bool} {nm : Nat → Int32} {d : Nat} {s : LwS} {M : Mem}
theorem ms_name (hT : okTx tp n) (h : s.2 = none) : f_X11_nameOf (nI (lby tp n s)) = some (nmR (lch tp n s)) := by
  unfold f_X11_nameOf
  have e1 : (nI (lby tp n s) = 97) = (lch tp n s = 97) := by_eq hT h (k := 97) (by omega) (by omega)
  have e2 : (nI (lby tp n s) = 98) = (lch tp n s = 98) := by_eq hT h (k := 98) (by omega) (by omega)
  have e3 : (nI (lby tp n s) = 114) = (lch tp n s = 114) := by_eq hT h (k := 114) (by omega) (by omega)
  have e4 : (nI (lby tp n s) = 120) = (lch tp n s = 120) := by_eq hT h (k := 120) (by omega) (by omega)
  have e5 : (nI (lby tp n s) = 121) = (lch tp n s = 121) := by_eq hT h (k := 121) (by omega) (by omega)
  simp only [e1, e2, e3, e4, e5]
  unfold nmR nmI
  split
  · rfl
  · split
    · rfl
    · split
      · rfl
      · split
        · rfl
        · split <;> rfl
/-- a number, a name, or neither: what one() does where no bracket opens -/
theorem ms_one0 (hT : okTx tp n) {rc : Mem → Option (Int32 × Mem)} (hs : s.1 ≤ n) (hf : s.2 = none) (hC : MSt tp n bs nm d s M) (h1 : lch tp n s ≠ 33) (h2 : lch tp n s ≠ 45) (h3 : lch tp n s ≠ 40) : ∃ v M2, ((f_X11_nameOf (nI (lby tp n s))).bind fun x3 => (if x3 < 0 then f_X11_one_L176 rc FU (0 : Int32) (0 : Int32) M else lt (wI M 47 15 ((M.1 47 15) + (1 : Int32))) fun M5 => ck (okI 56 x3) ((some (M5.1 56 x3.toNatClampNeg, M5))))) = some (v, M2) ∧ MSt tp n bs nm d (pOne0 tp n s (lfal s, [])).1 M2 ∧ ((pOne0 tp n s (lfal s, [])).1.2 = none → v = vl nm (pOne0 tp n s (lfal s, [])).2) := by
  rw [ms_name hT hf, bd_s]
  unfold pOne0
  have hb := lby_b hT s
  have hc := lby_ch (tp := tp) (n := n) hf
  by_cases q : 48 ≤ lch tp n s ∧ lch tp n s ≤ 57
  · have e9 : nmI (lch tp n s) = 9 := by unfold nmI; rw [if_neg (by omega), if_neg (by omega), if_neg (by omega), if_neg (by omega), if_neg (by omega)]
    have e : nmR (lch tp n s) = -1 := by unfold nmR; rw [e9, if_neg (by omega)]
    rw [e, if_pos (by decide), if_pos q, pNum, if_pos q]
    obtain ⟨b1, -⟩ := lch_lt (tp := tp) (n := n) (s := s) (by omega)
    have e1 : (nI (lby tp n s) < 48) = (lby tp n s < 48) := propext (n_lt (b := 48) (by omega) (by omega))
    have e2 : ((57 : Int32) < nI (lby tp n s)) = (57 < lby tp n s) := propext (n_lt (a := 57) (by omega) (by omega))
    show ∃ v M2, f_X11_one_L176 rc (4999 + 1) 0 0 M = some (v, M2) ∧ _
    rw [f_X11_one_L176, if_neg (by decide), ms_byte hT hC hs, bd_s, bd_s, bd_s]
    simp only [e1, e2]
    rw [if_neg (by omega), if_neg (by omega), lt_e, lt_e]
    have e : lby tp n s = lch tp n s := by omega
    rw [e, Int32.mul_comm 10 0]
    obtain ⟨M2, f2, c2⟩ := ms_num hT (rc := rc) 3 4999 1 (ladv s) (0 * 10 + nI (lch tp n s) - 48) _ (by omega) (by omega) (by omega) (by unfold ladv; omega) hf hC.w15
    refine ⟨_, M2, f2, c2, fun _ => ?_⟩
    exact Vl_num.1.symm
  · rw [if_neg q]
    by_cases q2 : nmI (lch tp n s) < 5
    · have e : nmR (lch tp n s) = nI (nmI (lch tp n s)) := by unfold nmR; rw [if_pos q2]
      rw [e, if_neg (nI_pos (by omega)), if_pos q2, lt_e, ck_t (okI_56 q2), n_clamp (by omega)]
      refine ⟨_, _, rfl, hC.w15, fun _ => ?_⟩
      rw [Vl_name.1, n_clamp (by omega)]
      simp [wI_rd, hC.2.2.2.2.2.2.1 _ q2]
    · have e : nmR (lch tp n s) = -1 := by unfold nmR; rw [if_neg q2]
      rw [e, if_pos (by decide), if_neg q2]
      have e1 : (nI (lby tp n s) < 48) = (lby tp n s < 48) := propext (n_lt (b := 48) (by omega) (by omega))
      have e2 : ((57 : Int32) < nI (lby tp n s)) = (57 < lby tp n s) := propext (n_lt (a := 57) (by omega) (by omega))
      obtain ⟨M2, f2, c2⟩ := ms_faulty hC hT hs (e := d)
      refine ⟨0, M2, ?_, c2, fun q => absurd q (lfal_n s)⟩
      show f_X11_one_L176 rc (4999 + 1) 0 0 M = _
      rw [f_X11_one_L176, if_neg (by decide), ms_byte hT hC hs, bd_s, bd_s, bd_s]
      unfold f_X11_one_b229
      simp only [e1, e2, if_true, f2, bI_s]
      by_cases q3 : lby tp n s < 48
      · rw [if_pos q3]
      · rw [if_neg q3, if_pos (by omega)]
theorem pOne0_f (h : ¬ s.2 = none) (K : LwS × LwL) : pOne0 tp n s K = K := by
  unfold pOne0
  rw [lch_f h, if_neg (by omega), if_neg (by decide)]
theorem lfal_f (h : ¬ s.2 = none) : lfal s = s := by
  obtain ⟨f, hf⟩ := Option.ne_none_iff_exists'.mp h
  unfold lfal
  rw [hf]
  exact Prod.ext rfl (by rw [hf]; rfl)
theorem ms_one (hT : okTx tp n) : ∀ (d e : Nat), d ≤ 6 → MoP tp n bs nm d (f_X11_one (e + d + 1)) (pOne tp n d) := by
  have h120 := hT.1
  intro d
  induction d with
  | zero =>
    intro e _ s M hs hC
    show ∃ v M2, f_X11_one_o (fun M => f_X11_one (e + 0) M) M = some (v, M2) ∧ _
    rw [pOne]
    unfold f_X11_one_o
    simp only [hC.fl2 hT]
    by_cases q : s.2 = none
    · rw [if_pos q, ms_byte hT hC hs, bd_s]
      have e1 : (nI (lby tp n s) = 33) = (lch tp n s = 33) := by_eq hT q (k := 33) (by omega) (by omega)
      have e2 : (nI (lby tp n s) = 45) = (lch tp n s = 45) := by_eq hT q (k := 45) (by omega) (by omega)
      have e3 : (nI (lby tp n s) = 40) = (lch tp n s = 40) := by_eq hT q (k := 40) (by omega) (by omega)
      simp only [e1, e2, e3]
      have hfa : (lch tp n s = 33 ∨ lch tp n s = 45 ∨ lch tp n s = 40) → ∃ v M2, f_X11_one_b32 (fun M => f_X11_one (e + 0) M) (nI (lby tp n s)) M = some (v, M2) ∧ MSt tp n bs nm 0 (pOne0 tp n s (lfal s, [])).1 M2 ∧ ((pOne0 tp n s (lfal s, [])).1.2 = none → v = vl nm (pOne0 tp n s (lfal s, [])).2) := by
        intro q2
        have ep : pOne0 tp n s (lfal s, []) = (lfal s, []) := by
          unfold pOne0 nmI
          rw [if_neg (by omega)]
          rcases q2 with q2 | q2 | q2 <;> rw [q2] <;> rfl
        rw [ep]
        unfold f_X11_one_b32
        obtain ⟨M2, f2, c2⟩ := ms_faulty hC hT hs (e := 0)
        rw [hC.2.2.2.2.2.1 q, if_pos (by decide), f2, bI_s]
        exact ⟨0, M2, rfl, c2, fun q => absurd q (lfal_n s)⟩
      by_cases q1 : lch tp n s = 33
      · rw [if_pos q1]; exact hfa (Or.inl q1)
      · rw [if_neg q1]
        by_cases q2 : lch tp n s = 45
        · rw [if_pos q2]; exact hfa (Or.inr (Or.inl q2))
        · rw [if_neg q2]
          by_cases q3 : lch tp n s = 40
          · rw [if_pos q3]; exact hfa (Or.inr (Or.inr q3))
          · rw [if_neg q3]
            exact ms_one0 hT hs q hC q1 q2 q3
    · rw [if_neg q, pOne0_f q, lfal_f q]
      exact ⟨0, M, rfl, hC, fun q2 => absurd q2 q⟩
  | succ d ih =>
    intro e hd s M hs hC
    have ih := ih e (by omega)
    show ∃ v M2, f_X11_one_o (fun M => f_X11_one (e + d + 1) M) M = some (v, M2) ∧ _
    rw [pOne]
    unfold f_X11_one_o
    simp only [hC.fl2 hT]
    by_cases q : s.2 = none
    · rw [if_pos q, ms_byte hT hC hs, bd_s]
      have e1 : (nI (lby tp n s) = 33) = (lch tp n s = 33) := by_eq hT q (k := 33) (by omega) (by omega)
      have e2 : (nI (lby tp n s) = 45) = (lch tp n s = 45) := by_eq hT q (k := 45) (by omega) (by omega)
      have e3 : (nI (lby tp n s) = 40) = (lch tp n s = 40) := by_eq hT q (k := 40) (by omega) (by omega)
      simp only [e1, e2, e3]
      have h18 := hC.2.2.2.2.2.1 q
      have h6 : ¬ nI (6 - (d + 1)) = 6 := fun q => by have := (n_eq (b := 6) (by omega) (by omega)).mp q; omega
      have hC2 : MSt tp n bs nm d (ladv s) (wI (wI M 47 18 (nI (6 - (d + 1) + 1))) 47 15 ((wI M 47 18 (nI (6 - (d + 1) + 1))).1 47 15 + 1)) := by
        have := (hC.w18 (e := d)).w15
        rw [show 6 - d = 6 - (d + 1) + 1 by omega] at this
        exact this
      have e1s : (ladv s).1 = s.1 + 1 := rfl
      have ep : ∀ K, (lch tp n s = 33 ∨ lch tp n s = 45 ∨ lch tp n s = 40) → pOne0 tp n s K = K := by
        intro K q2
        unfold pOne0 nmI
        rw [if_neg (by omega)]
        rcases q2 with q2 | q2 | q2 <;> rw [q2] <;> rfl
      have hun : ∀ (c : Nat), (c = 33 ∨ c = 45) → lch tp n s = c → ∃ v M2, f_X11_one_b32 (fun M => f_X11_one (e + d + 1) M) (nI (lby tp n s)) M = some (v, M2) ∧ MSt tp n bs nm (d + 1) (pOne tp n d (ladv s)).1 M2 ∧ ((pOne tp n d (ladv s)).1.2 = none → v = jn (if c = 33 then 33 else 126) 0 (vl nm (pOne tp n d (ladv s)).2)) := by
        intro c hc hl
        obtain ⟨b1, -⟩ := lch_lt (tp := tp) (n := n) (s := s) (by omega)
        obtain ⟨v, M3, f3, c3, v3⟩ := ih (ladv s) _ (by omega) hC2
        unfold f_X11_one_b32
        rw [h18, if_neg h6, n_s1, lt_e, lt_e]
        simp only [e3]
        rw [if_neg (by omega)]
        simp only [f3, bI_s]
        unfold f_X11_one_b83 f_X11_one_b104
        simp only [e3, e2]
        rw [if_neg (by omega), lt_e, if_neg (by omega)]
        have c4 : MSt tp n bs nm (d + 1) (pOne tp n d (ladv s)).1 (wI M3 47 18 (M3.1 47 18 - 1)) := by
          by_cases q5 : (pOne tp n d (ladv s)).1.2 = none
          · have h5 := c3.2.2.2.2.2.1 q5
            rw [h5, show 6 - d = 6 - (d + 1) + 1 by omega, n_p1]
            exact c3.w18
          · exact c3.w18f q5
        rcases hc with rfl | rfl
        · rw [if_neg (by omega)]
          by_cases q5 : v = 0
          · rw [if_pos q5]
            refine ⟨_, _, rfl, c4, fun q6 => ?_⟩
            rw [← v3 q6]; simp [jn, q5]
          · rw [if_neg q5]
            refine ⟨_, _, rfl, c4, fun q6 => ?_⟩
            rw [← v3 q6]; simp [jn, q5]
        · rw [if_pos hl]
          refine ⟨_, _, rfl, c4, fun q6 => ?_⟩
          rw [← v3 q6]; simp [jn]
      by_cases q1 : lch tp n s = 33
      · rw [if_pos q1, ep _ (Or.inl q1), if_neg (by omega), if_pos q1]
        obtain ⟨v, M3, f3, c3, v3⟩ := hun 33 (Or.inl rfl) q1
        refine ⟨v, M3, f3, c3, fun q5 => ?_⟩
        rw [v3 q5]
        exact (Vl_un (Or.inl rfl) ((OkV_one d _ q5).2 nm)).1.symm
      · rw [if_neg q1]
        by_cases q2 : lch tp n s = 45
        · rw [if_pos q2, ep _ (Or.inr (Or.inl q2)), if_neg (by omega), if_neg (by omega), if_pos q2]
          obtain ⟨v, M3, f3, c3, v3⟩ := hun 45 (Or.inr rfl) q2
          refine ⟨v, M3, f3, c3, fun q5 => ?_⟩
          rw [v3 q5]
          exact (Vl_un (Or.inr rfl) ((OkV_one d _ q5).2 nm)).1.symm
        · rw [if_neg q2]
          by_cases q3 : lch tp n s = 40
          · rw [if_pos q3, ep _ (Or.inr (Or.inr q3)), if_pos q3]
            obtain ⟨b1, -⟩ := lch_lt (tp := tp) (n := n) (s := s) (by omega)
            have hE : MoP tp n bs nm d (f_X11_either (fun M => f_X11_one (e + d + 1) M)) (pEith tp n (pOne tp n d)) := ms_eith hT ih (Gd_one d) (OkV_one d)
            have hGE := Gd_eith (tp := tp) (n := n) (Gd_one (tp := tp) d)
            unfold pPar
            generalize pEith tp n (pOne tp n d) = P at *
            obtain ⟨v, M3, f3, c3, v3⟩ := hE (ladv s) _ (by omega) hC2
            obtain ⟨g1, g2, -, -⟩ := hGE (ladv s) (by omega)
            unfold f_X11_one_b32
            rw [h18, if_neg h6, n_s1, lt_e, lt_e]
            simp only [e3]
            rw [if_pos q3]
            simp only [f3, bI_s]
            unfold f_X11_one_b83
            simp only [e3]
            rw [if_pos q3]
            obtain ⟨M4, f4, c4⟩ := ms_takes hT c3 g2 (k := 41) (by omega) (by omega)
            have f4' : f_X11_takes 41 M3 = _ := f4
            rw [f4', bI_s, ite_bb]
            by_cases q5 : lch tp n (P (ladv s)).1 = 41
            · rw [if_pos (by simpa using q5), if_pos q5]
              rw [if_pos q5] at c4
              obtain ⟨-, b5⟩ := lch_lt (tp := tp) (n := n) (s := (P (ladv s)).1) (by omega)
              unfold f_X11_one_b104
              simp only [e3]
              rw [lt_e, if_pos q3]
              have h5 := c4.2.2.2.2.2.1 b5
              rw [h5, show 6 - d = 6 - (d + 1) + 1 by omega, n_p1]
              exact ⟨v, _, rfl, c4.w18, fun _ => v3 b5⟩
            · rw [if_neg (by simpa using q5), if_neg q5]
              rw [if_neg q5] at c4
              obtain ⟨M5, f5, c5⟩ := ms_faulty c4 hT g2 (e := d + 1)
              rw [f5, bI_s]
              exact ⟨0, M5, rfl, c5, fun q => absurd q (lfal_n _)⟩
          · rw [if_neg q3]
            have := ms_one0 hT hs q hC (rc := fun M => f_X11_one (e + d + 1) M) q1 q2 q3
            rw [if_neg q3, if_neg q1, if_neg q2]
            exact this
    · rw [if_neg q, pOne0_f q, lch_f q, if_neg (by omega), if_neg (by omega), if_neg (by omega), lfal_f q]
      exact ⟨0, M, rfl, hC, fun q2 => absurd q2 q⟩
end MLAW3
