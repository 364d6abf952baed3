/-! friend -/
def Sc (w : Nat) (rw : Nat → Nat) : Nat → Nat := upN (upN rw 1 (rw (1 + w))) (1 + w) (rw 1)
def Sm (w : Nat) (rw : Nat → Nat) : Nat → Nat := upN (upN (upN (upN rw 0 (rw 0)) 1 (rw (w + 1))) 2 (rw (if w = 0 then 2 else 1))) 3 (rw (if w = 2 then 2 else 3))
def scT (w k : Nat) : Nat := ([0, 1, 2, 3, 0, 2, 1, 3, 0, 3, 2, 1] : List Nat).getD (4 * w + k) 0
def smT (w k : Nat) : Nat := ([0, 1, 2, 3, 0, 2, 1, 3, 0, 2, 3, 1] : List Nat).getD (4 * w + k) 0
theorem fr_eq (c : Nat → Nat → Nat → Nat) (rw : Nat → Nat) : ∀ w, w < 3 → ∀ k, k < 4 → th c (Sc w rw) 2 (scT w k) = th c (Sm w rw) 2 (smT w k) ∧ Sc w rw (scT w k) = rw k ∧ Sm w rw (smT w k) = rw k := by
  intro w hw k hk
  rcases show w = 0 ∨ w = 1 ∨ w = 2 by omega with rfl | rfl | rfl <;> rcases show k = 0 ∨ k = 1 ∨ k = 2 ∨ k = 3 by omega with rfl | rfl | rfl | rfl <;> refine ⟨?_, rfl, rfl⟩ <;> first | rfl | (simp [th, rvS, rv, Sc, Sm, scT, smT, upN, Nat.add_comm])
theorem sT_lt : ∀ w, w < 3 → ∀ k, k < 4 → scT w k < 4 ∧ smT w k < 4 := by decide
def frS (V : Int64) (w : Nat) (s : Int64 × Int32) : Int64 × Int32 := if lg_cmp V s.1 ≤ 0 then s else (V, nI w)
def frV (c : Nat → Nat → Nat → Nat) (rw : Nat → Nat) (k w : Nat) : Int64 := lN (th c (Sc w rw) 2 (scT w k))
def frA (c : Nat → Nat → Nat → Nat) (n : Nat) (rw : Nat → Nat) (v : Int32) : Int32 := match fnd rw v n 0 with
  | none => -1
  | some k => if n = 4 then (frS (frV c rw k 2) 2 (frS (frV c rw k 1) 1 (frS (frV c rw k 0) 0 (-1, 0)))).2 else -5
section FRI
variable {np nm : Nat} {wo wi lo ct : Nat → Nat} {lw : LwO} {n : Nat} {rw S : Nat → Nat} {M : Mem}
theorem WS.st (h : WS np nm wo wi lo ct lw n rw S M) (j x : Nat) : WS np nm wo wi lo ct lw n rw (upN S j x) (wI M 30 j (nI x)) := by
  obtain ⟨w1, w2, w3, w4, w5⟩ := h
  have hR := w2.2.1
  have fr : FrS [(30, 0)] M (wI M 30 j (nI x)) := fr_wIa (by decide)
  refine ⟨grp_CF.kp hR fr (by decide) w1, grp_CW.kp hR fr (by decide) w2, grp_CU.kp hR fr (by decide) w3, fun i hi => ?_, fun r a b h1 h2 h3 => ?_⟩
  · rw [wI_rd]
    unfold upN
    by_cases q : i = j
    · rw [if_pos ⟨rfl, q⟩, if_pos q]
    · rw [if_neg (fun h => q h.2), if_neg q]; exact w4 i hi
  · rw [wI_rd, if_neg (fun h => by omega)]; exact w5 r a b h1 h2 h3
theorem MWS.st (h : MWS np nm wo wi lo ct lw n rw S M) (j x : Nat) : MWS np nm wo wi lo ct lw n rw (upN S j x) (wI M 66 j (nI x)) := by
  obtain ⟨w1, w2, w3, w4, hR⟩ := h
  have fr : FrS [(66, 0)] M (wI M 66 j (nI x)) := fr_wIa (by decide)
  refine ⟨grp_MF.kp hR fr (by decide) w1, grp_MW.kp hR fr (by decide) w2, grp_MU.kp hR fr (by decide) w3, fun i hi => ?_, hR⟩
  rw [wI_rd]
  unfold upN
  by_cases q : i = j
  · rw [if_pos ⟨rfl, q⟩, if_pos q]
  · rw [if_neg (fun h => q h.2), if_neg q]; exact w4 i hi
theorem OKW_c (hK : OKW np nm wo wi lo ct lw 4 rw) {w : Nat} (hw : w < 3) : OKW np nm wo wi lo ct lw 4 (Sc w rw) ∧ OKW np nm wo wi lo ct lw 4 (Sm w rw) := by
  obtain ⟨h1, h2, h3, h4, h5⟩ := hK
  have key : ∀ T : Nat → Nat, (∃ f : Nat → Nat, (∀ j, j < 4 → f j < 4 ∧ T j = rw (f j)) ∧ ∀ i j, i < 4 → j < 4 → f i = f j → i = j) → OKW np nm wo wi lo ct lw 4 T := by
    rintro T ⟨f, hf, hi⟩
    refine ⟨h1, h2, h3, fun j hj => by rw [(hf j hj).2]; exact h4 _ (hf j hj).1, fun i j hI hJ e => ?_⟩
    rw [(hf i hI).2, (hf j hJ).2] at e
    exact hi i j hI hJ (h5 _ _ (hf i hI).1 (hf j hJ).1 e)
  constructor
  · refine key _ ⟨fun j => if j = 1 + w then 1 else if j = 1 then 1 + w else j, fun j hj => ?_, fun i j hi hj e => ?_⟩
    · unfold Sc upN
      simp only
      split
      · exact ⟨by omega, rfl⟩
      · split
        · exact ⟨by omega, rfl⟩
        · exact ⟨hj, rfl⟩
    · simp only at e
      split at e <;> split at e <;> (try split at e) <;> (try split at e) <;> omega
  · refine key _ ⟨fun j => if j = 3 then (if w = 2 then 2 else 3) else if j = 2 then (if w = 0 then 2 else 1) else if j = 1 then w + 1 else 0, fun j hj => ?_, fun i j hi hj e => ?_⟩
    · unfold Sm upN
      simp only
      by_cases q3 : j = 3
      · rw [if_pos q3, if_pos q3]; exact ⟨by split <;> omega, rfl⟩
      · rw [if_neg q3, if_neg q3]
        by_cases q2 : j = 2
        · rw [if_pos q2, if_pos q2]; exact ⟨by split <;> omega, rfl⟩
        · rw [if_neg q2, if_neg q2]
          by_cases q1 : j = 1
          · rw [if_pos q1, if_pos q1]; exact ⟨by omega, rfl⟩
          · rw [if_neg q1, if_neg q1]
            have : j = 0 := by omega
            subst this
            exact ⟨by omega, rfl⟩
    · rcases show w = 0 ∨ w = 1 ∨ w = 2 by omega with rfl | rfl | rfl <;> rcases show i = 0 ∨ i = 1 ∨ i = 2 ∨ i = 3 by omega with rfl | rfl | rfl | rfl <;> rcases show j = 0 ∨ j = 1 ∨ j = 2 ∨ j = 3 by omega with rfl | rfl | rfl | rfl <;> first | rfl | (exfalso; revert e; decide)
theorem fnd_at (hK : ∀ i j, i < n → j < n → S i = S j → i = j) (hb : ∀ j, j < n → S j < 8) {k : Nat} (hk : k < n) : ∀ (d j : Nat), j + d = n → j ≤ k → fnd S (nI (S k)) d j = some k
  | 0, j, h, h2 => by omega
  | d + 1, j, h, h2 => by
    rw [fnd]
    have h1 := hb j (by omega)
    have h3 := hb k hk
    by_cases q : S j = S k
    · have e := hK j k (by omega) hk q
      subst e
      rw [if_pos rfl]
    · rw [if_neg (by rw [n_eq (by omega) (by omega)]; exact q)]
      have : j ≠ k := fun e => q (by rw [e])
      exact fnd_at hK hb hk d (j + 1) (by omega) (by omega)
def FW (np nm : Nat) (wo wi lo ct : Nat → Nat) (lw : LwO) (rw : Nat → Nat) (M : Mem) : Prop := CF np nm wo wi lo ct M ∧ CW lw M ∧ CU 4 rw M ∧ Odd np (cN lw wo) M
theorem cl_fr_1 (hK : OKW np nm wo wi lo ct lw 4 rw) (hW : FW np nm wo wi lo ct lw rw M) {k w : Nat} (hk : k < 4) (hw : w < 3) (m : Nat) (s : Int64 × Int32) : ∃ M1, f_X3_bestPairing_L15 (m + 1) (nI (rw k)) s.1 s.2 (nI w) M = f_X3_bestPairing_L15 m (nI (rw k)) (frS (frV (cN lw wo) rw k w) w s).1 (frS (frV (cN lw wo) rw k w) w s).2 (nI (w + 1)) M1 ∧ FW np nm wo wi lo ct lw rw M1 := by
  obtain ⟨w1, w2, w3, w4⟩ := hW
  obtain ⟨h2, c2⟩ := WS.sit (Or.inl rfl) hK.1 w1 w2 w3 w4
  have c4 := (c2.st 1 (rw (1 + w))).st (1 + w) (rw 1)
  obtain ⟨M6, f6, c6, t6⟩ := cl_weigh (OKW_c hK hw).1 (Or.inl rfl) c4
  have hs : scT w k < 4 := (sT_lt w hw k hk).1
  have e2 : (cpI M 29 0 30 0 4).1 29 (1 + w) = nI (rw (1 + w)) := c2.2.2.1.2 (1 + w) (by omega)
  have e3 : (wI (cpI M 29 0 30 0 4) 30 1 (nI (rw (1 + w)))).1 29 1 = nI (rw 1) := (c2.st 1 (rw (1 + w))).2.2.1.2 1 (by omega)
  have hO2 := (OKW_c hK hw).1
  have hf : fnd (Sc w rw) (nI (rw k)) 4 0 = some (scT w k) := by
    have := (fr_eq (cN lw wo) rw w hw k hk).2.1
    rw [← this]
    exact fnd_at hO2.2.2.2.2 (fun j hj => by have := hO2.2.2.2.1 j hj; have := hK.1.1; omega) hs 4 0 (by omega) (by omega)
  have ev : M6.2.1 33 (2 * 8 + scT w k) = frV (cN lw wo) rw k w := t6 2 (by decide) _ hs
  have ei : nI (rdn 4) * 8 + nI (scT w k) = nI (2 * 8 + scT w k) := by rw [show (8 : Int32) = nI 8 from rfl, n_mul, n_add]; rfl
  refine ⟨M6, ?_, c6.1, c6.2.1, c6.2.2.1, c6.2.2.2.2⟩
  rw [f_X3_bestPairing_L15, if_neg (by rw [show (3 : Int32) = nI 3 from rfl, n_le (by omega) (by omega)]; omega), h2, bd_s, show (1 : Int32) + nI w = nI (1 + w) from n_add 1 w, ck_t (okI_29 (by omega)), ck_t (by decide), lt_e, n_clamp (by omega), show (1 : Int32).toNatClampNeg = 1 from rfl, e2, ck_t (by decide), ck_t (okI_30 (by omega)), lt_e, e3, f6, bd_s, s_rounds c6.2.2.1.1 (Or.inl rfl), bd_s, s_seatOf30 c6.2.2.1.1 c6.2.2.2.1 (by omega), bd_s, hf, show seatI (some (scT w k)) = nI (scT w k) from rfl, max_0 (by omega), ei, ck_t (okL_33 (by omega)), lt_e, n_clamp (by omega), ev]
  unfold f_X3_bestPairing_b105 frS
  rw [n_s1]
  by_cases q : lg_cmp (frV (cN lw wo) rw k w) s.1 ≤ 0
  · rw [if_pos q, if_pos q]
  · rw [if_neg q, if_neg q]
theorem cl_friend (hO : OKF np nm wo wi lo ct) (hL : okO lw) (hOU : OKU np n rw) (hC : CF np nm wo wi lo ct M) (hW : CW lw M) (hU : CU n rw M) (v : Int32) : ∃ M1, f_X10_friend v M = some (frA (cN lw wo) n rw v, M1) := by
  have hn8 := hOU.1
  unfold f_X10_friend frA
  rw [s_hasC hU hn8, bd_s, ite_bb]
  unfold inRow
  cases hf : fnd rw v n 0 with
  | none => exact ⟨M, rfl⟩
  | some k =>
    obtain ⟨-, hk, hkv⟩ := fnd_some n 0 k hf
    simp only [Option.isSome_some, if_true]
    rw [hU.1]
    by_cases q : n = 4
    · subst q
      rw [if_pos (show nI 4 = 4 from rfl), if_pos rfl]
      have hR := hW.2.1
      have fr := fr_X3_forgetOdds M _ s_forget
      have hF : FW np nm wo wi lo ct lw rw (fiI M 32 0 192 (-1)) := ⟨grp_CF.kp hR fr (by decide) hC, grp_CW.kp hR fr (by decide) hW, grp_CU.kp hR fr (by decide) hU, Odd_f np hO.1 _⟩
      have hK := OKW.of hO hL hOU
      obtain ⟨M1, f1, c1⟩ := cl_fr_1 hK hF (k := k) (w := 0) (by omega) (by omega) 4999 (-1, 0)
      obtain ⟨M2, f2, c2⟩ := cl_fr_1 hK c1 (k := k) (w := 1) (by omega) (by omega) 4998 (frS (frV (cN lw wo) rw k 0) 0 (-1, 0))
      obtain ⟨M3, f3, c3⟩ := cl_fr_1 hK c2 (k := k) (w := 2) (by omega) (by omega) 4997 (frS (frV (cN lw wo) rw k 1) 1 (frS (frV (cN lw wo) rw k 0) 0 (-1, 0)))
      have hfin : ∀ (s : Int64 × Int32), f_X3_bestPairing_L15 4997 (nI (rw k)) s.1 s.2 (nI (2 + 1)) M3 = some (s.2, M3) := by
        intro s
        show f_X3_bestPairing_L15 (4996 + 1) _ _ _ _ _ = _
        rw [f_X3_bestPairing_L15, if_pos (by decide)]
      unfold f_X3_bestPairing
      rw [s_forget, bd_s, ← hkv]
      have f1' : f_X3_bestPairing_L15 FU (nI (rw k)) (-1) 0 0 (fiI M 32 0 192 (-1)) = _ := f1
      rw [f1', f2, f3, hfin, bI_s]
      exact ⟨M3, rfl⟩
    · rw [if_neg (show ¬ nI n = 4 from fun q2 => q ((n_eq (b := 4) (by omega) (by omega)).mp q2)), if_neg q]
      exact ⟨M, rfl⟩
theorem mo_fr_i {k30 : Int32 → Int32 → Int64 → Int32 → Mem → Option (Int32 × Mem)} (hK : OKW np nm wo wi lo ct lw 4 S) (hW : MWS np nm wo wi lo ct lw 4 rw S M) (h2 : T2 (cN lw wo) S 4 M) {s w : Nat} (hs : s < 4) (a : Int64 × Int32) : f_X11_friend_L113 k30 FU (nI (S s)) a.2 a.1 (nI w) 0 M = k30 (nI (S s)) (frS (lN (th (cN lw wo) S 2 s)) w a).2 (frS (lN (th (cN lw wo) S 2 s)) w a).1 (nI (w + 1)) M := by
  have step : ∀ (m j : Nat) (a : Int64 × Int32), j < 4 → f_X11_friend_L113 k30 (m + 1) (nI (S s)) a.2 a.1 (nI w) (nI j) M = f_X11_friend_L113 k30 m (nI (S s)) (if j = s then frS (lN (th (cN lw wo) S 2 s)) w a else a).2 (if j = s then frS (lN (th (cN lw wo) S 2 s)) w a else a).1 (nI w) (nI (j + 1)) M := by
    intro m j a hj
    have hb : ∀ j, j < 4 → S j < 8 := fun j hj => by have := hK.2.2.2.1 j hj; have := hK.1.1; omega
    have h1 := hb j hj
    have h3 := hb s hs
    rw [f_X11_friend_L113, if_neg (by rw [show (4 : Int32) = nI 4 from rfl, n_le (by omega) (by omega)]; omega), ck_t (okI_66 (by omega)), n_clamp (by omega), hW.2.2.2.1 j hj, h2 j hj]
    unfold f_X11_friend_b153
    rw [n_s1]
    by_cases q : j = s
    · subst q
      rw [if_pos rfl, if_pos rfl, ck_t (okL_68 (by omega)), ck_t (okL_68 (by omega)), lt_e]
      unfold frS
      by_cases q2 : lg_cmp (lN (th (cN lw wo) S 2 j)) a.1 ≤ 0
      · rw [if_pos q2, if_pos q2]
      · rw [if_neg q2, if_neg q2]
    · rw [if_neg (by rw [n_eq (by omega) (by omega)]; exact fun e => q (hK.2.2.2.2 j s hj hs e)), if_neg q]
  have fin : ∀ (m : Nat) (a : Int64 × Int32), f_X11_friend_L113 k30 (m + 1) (nI (S s)) a.2 a.1 (nI w) (nI 4) M = k30 (nI (S s)) a.2 a.1 (nI (w + 1)) M := by
    intro m a
    rw [f_X11_friend_L113, if_pos (by decide), n_s1]
  show f_X11_friend_L113 k30 (4999 + 1) (nI (S s)) a.2 a.1 (nI w) (nI 0) M = _
  rw [step 4999 0 _ (by omega), step 4998 1 _ (by omega), step 4997 2 _ (by omega), step 4996 3 _ (by omega), fin 4995]
  rcases show s = 0 ∨ s = 1 ∨ s = 2 ∨ s = 3 by omega with rfl | rfl | rfl | rfl <;> rfl
theorem mo_fr_1 (hK : OKW np nm wo wi lo ct lw 4 rw) (hW : MWS np nm wo wi lo ct lw 4 rw S M) {k w : Nat} (hk : k < 4) (hw : w < 3) (m : Nat) (s : Int64 × Int32) : ∃ M1 S1, f_X11_friend_L30 (m + 1) (nI (rw k)) s.2 s.1 (nI w) M = f_X11_friend_L30 m (nI (rw k)) (frS (frV (cN lw wo) rw k w) w s).2 (frS (frV (cN lw wo) rw k w) w s).1 (nI (w + 1)) M1 ∧ MWS np nm wo wi lo ct lw 4 rw S1 M1 := by
  have hO2 := (OKW_c hK hw).2
  have hs : smT w k < 4 := (sT_lt w hw k hk).2
  obtain ⟨p1, p2, p3⟩ := fr_eq (cN lw wo) rw w hw k hk
  have c1 := hW.st 0 (rw 0)
  have c2 := c1.st 1 (rw (w + 1))
  have c3 := c2.st 2 (rw (if w = 0 then 2 else 1))
  have c4 := c3.st 3 (rw (if w = 2 then 2 else 3))
  have hS4 : MWS np nm wo wi lo ct lw 4 rw (Sm w rw) (wI (wI (wI (wI M 66 0 (nI (rw 0))) 66 1 (nI (rw (w + 1)))) 66 2 (nI (rw (if w = 0 then 2 else 1)))) 66 3 (nI (rw (if w = 2 then 2 else 3)))) := by
    refine ⟨c4.1, c4.2.1, c4.2.2.1, fun j hj => ?_, c4.2.2.2.2⟩
    rw [c4.2.2.2.1 j hj]
    congr 1
    unfold Sm upN
    rcases show j = 0 ∨ j = 1 ∨ j = 2 ∨ j = 3 by omega with rfl | rfl | rfl | rfl <;> rfl
  obtain ⟨M6, f6, c6, t1, t2, -⟩ := mo_goesCup hO2 (Or.inl rfl) hS4
  have r0 : M.1 65 0 = nI (rw 0) := hW.2.2.1.2 0 (by omega)
  have r1 := c1.2.2.1.2 (w + 1) (by omega)
  have r2 := c2.2.2.1.2 (if w = 0 then 2 else 1) (by split <;> omega)
  have r3 := c3.2.2.1.2 (if w = 2 then 2 else 3) (by split <;> omega)
  have key := fun k30 => mo_fr_i (k30 := k30) hO2 c6 t2 (w := w) hs s
  rw [p3] at key
  unfold frV
  rw [p1]
  refine ⟨M6, Sm w rw, ?_, c6⟩
  rw [f_X11_friend_L30, if_neg (by rw [show (3 : Int32) = nI 3 from rfl, n_le (by omega) (by omega)]; omega), ck_t (by decide), ck_t (by decide), lt_e, show (0 : Int32).toNatClampNeg = 0 from rfl, r0, n_s1, ck_t (okI_65 (by omega)), ck_t (by decide), lt_e, n_clamp (by omega), show (1 : Int32).toNatClampNeg = 1 from rfl, r1]
  have e0 : (nI w = 0) = (w = 0) := propext (n_eq (b := 0) (by omega) (by omega))
  have e2 : (nI w = 2) = (w = 2) := propext (n_eq (b := 2) (by omega) (by omega))
  have h82 : ∀ s0 : Nat, s0 = (if w = 0 then 2 else 1) → f_X11_friend_b82 (fun a0 a1 a2 a3 a4 => f_X11_friend_L30 m a0 a1 a2 a3 a4) (nI (rw k)) s.2 s.1 (nI w) (nI s0) 2 (wI (wI M 66 0 (nI (rw 0))) 66 1 (nI (rw (w + 1)))) = f_X11_friend_L30 m (nI (rw k)) (frS (lN (th (cN lw wo) (Sm w rw) 2 (smT w k))) w s).2 (frS (lN (th (cN lw wo) (Sm w rw) 2 (smT w k))) w s).1 (nI (w + 1)) M6 := by
    intro s0 hs0
    unfold f_X11_friend_b82 f_X11_friend_b104
    have hs4 : s0 < 4 := by rw [hs0]; split <;> omega
    rw [ck_t (okI_65 (by omega)), ck_t (by decide), lt_e, show (2 : Int32).toNatClampNeg = 2 from rfl, n_clamp (by omega), hs0, r2]
    simp only [e2]
    by_cases q2 : w = 2
    · rw [if_pos q2] at r3 f6
      rw [if_pos q2, ck_t (by decide), ck_t (by decide), lt_e, show (3 : Int32).toNatClampNeg = 3 from rfl, r3, f6, bd_s]
      exact key _
    · rw [if_neg q2] at r3 f6
      rw [if_neg q2, ck_t (by decide), ck_t (by decide), lt_e, show (3 : Int32).toNatClampNeg = 3 from rfl, r3, f6, bd_s]
      exact key _
  simp only [e0]
  by_cases q0 : w = 0
  · rw [if_pos q0]; exact h82 2 (by rw [if_pos q0])
  · rw [if_neg q0]; exact h82 1 (by rw [if_neg q0])
theorem mo_friend (hR : okR M) (hO : OKF np nm wo wi lo ct) (hL : okO lw) (hOU : OKU np n rw) (hC : MF np nm wo wi lo ct M) (hW : MW lw M) (hU : MU n rw M) (v : Int32) : ∃ M1, f_X11_friend v M = some (frA (cN lw wo) n rw v, M1) := by
  have hn8 := hOU.1
  unfold f_X11_friend frA
  rw [s_placeInRow hU hn8, bd_s]
  cases hf : fnd rw v n 0 with
  | none =>
    show ∃ M1, (if (0 : Int32) ≤ -1 then _ else _) = _
    rw [if_neg (by decide)]
    exact ⟨M, rfl⟩
  | some k =>
    obtain ⟨-, hk, hkv⟩ := fnd_some n 0 k hf
    show ∃ M1, (if (0 : Int32) ≤ nI k then _ else _) = some (if n = 4 then _ else -5, M1)
    rw [if_pos (nI_pos' (by omega)), hU.1]
    by_cases q : n = 4
    · subst q
      rw [if_pos (show nI 4 = 4 from rfl), if_pos rfl]
      have hK := OKW.of hO hL hOU
      have hS : ∃ S, MWS np nm wo wi lo ct lw 4 rw S M := by
        refine ⟨fun j => (M.1 66 j).toBitVec.toNat, hC, hW, hU, fun j hj => ?_, hR⟩
        exact Int32.toBitVec_inj.mp (by show _ = BitVec.ofNat 32 _; simp)
      obtain ⟨S0, c0⟩ := hS
      obtain ⟨M1, S1, f1, c1⟩ := mo_fr_1 hK c0 (k := k) (w := 0) (by omega) (by omega) 4999 (-1, 0)
      obtain ⟨M2, S2, f2, c2⟩ := mo_fr_1 hK c1 (k := k) (w := 1) (by omega) (by omega) 4998 (frS (frV (cN lw wo) rw k 0) 0 (-1, 0))
      obtain ⟨M3, S3, f3, c3⟩ := mo_fr_1 hK c2 (k := k) (w := 2) (by omega) (by omega) 4997 (frS (frV (cN lw wo) rw k 1) 1 (frS (frV (cN lw wo) rw k 0) 0 (-1, 0)))
      have hfin : ∀ (s : Int64 × Int32), f_X11_friend_L30 4997 (nI (rw k)) s.2 s.1 (nI (2 + 1)) M3 = some (s.2, M3) := by
        intro s
        show f_X11_friend_L30 (4996 + 1) _ _ _ _ _ = _
        rw [f_X11_friend_L30, if_pos (by decide)]
      rw [← hkv]
      have f1' : f_X11_friend_L30 FU (nI (rw k)) 0 (-1) 0 M = _ := f1
      rw [f1', f2, f3, hfin]
      exact ⟨M3, rfl⟩
    · rw [if_neg (show ¬ nI n = 4 from fun q2 => q ((n_eq (b := 4) (by omega) (by omega)).mp q2)), if_neg q]
      exact ⟨M, rfl⟩
end FRI
