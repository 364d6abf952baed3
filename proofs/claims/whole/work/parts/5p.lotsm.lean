/-! lots: the model -/
theorem n_sm {x y : Nat} (hx : x < 1000) (hy : y < 1000) : nI x + nI y - nI (min x y) = nI (max x y) := by
  rw [n_add, i_eq, n_toInt (by omega), pk_sub_toInt (by omega) (by omega)]
  omega
section LOTM
variable {np nm : Nat} {wo wi lo ct : Nat → Nat} {lw : LwO} {n : Nat} {rw S : Nat → Nat} {M : Mem}
theorem mo_lot_g {k60 : Int32 → Int32 → Int32 → Int32 → Int32 → Int32 → Int32 → Mem → Option (Int32 × Mem)} (hO : OKF np nm wo wi lo ct) (hL : okO lw) (hn : n ≤ 8) {cnt r g m : Nat} {s : LtS} (h2 : 2 * cnt ≤ n) (hg : g < cnt) (v2 v3 v5 v6 : Int32) (hW : MWS np nm wo wi lo ct lw n rw s.1 M) (hJ : LJ np g cnt s.1) : ∃ M2, f_X11_lots_L69 k60 (m + 1) v2 v3 s.2 v5 v6 (nI r) (nI (2 * cnt)) (nI g) M = f_X11_lots_L69 k60 m v2 v3 (lt1 (cN lw wo) r s g).2 v5 v6 (nI r) (nI (2 * cnt)) (nI (g + 1)) M2 ∧ MWS np nm wo wi lo ct lw n rw (lt1 (cN lw wo) r s g).1 M2 := by
  have h8 := hO.1
  have ha : lv g cnt (2 * g) := Or.inr ⟨by omega, by omega⟩
  have hb : lv g cnt (2 * g + 1) := Or.inr ⟨by omega, by omega⟩
  have l1 := hJ.2 _ ha
  have l2 := hJ.2 _ hb
  have hne : s.1 (2 * g) ≠ s.1 (2 * g + 1) := fun q => by have := hJ.1 _ _ ha hb q; omega
  obtain ⟨M5, f5, c5, -⟩ := s_cho hW hO hL (a := min (s.1 (2 * g)) (s.1 (2 * g + 1))) (b := max (s.1 (2 * g)) (s.1 (2 * g + 1))) (by omega) (by omega) (by omega) r
  have e2 : nI (2 * cnt) / 2 = nI cnt := by rw [show (2 : Int32) = nI 2 from rfl, n_div (by omega) (by omega)]; congr 1; omega
  have tail : ∃ M2, f_X11_lots_b124 (fun a0 a1 a2 a3 a4 a5 a6 a7 a8 => f_X11_lots_L69 k60 m a0 a1 a2 a3 a4 a5 a6 a7 a8) v2 v3 s.2 v5 v6 (nI r) (nI (2 * cnt)) (nI g) (nI (min (s.1 (2 * g)) (s.1 (2 * g + 1)))) M = f_X11_lots_L69 k60 m v2 v3 (lt1 (cN lw wo) r s g).2 v5 v6 (nI r) (nI (2 * cnt)) (nI (g + 1)) M2 ∧ MWS np nm wo wi lo ct lw n rw (lt1 (cN lw wo) r s g).1 M2 := by
    unfold f_X11_lots_b124 f_X11_lots_b198
    rw [n_dbl, n_s1, ck_t (okI_66 (by omega)), ck_t (okI_66 (by omega)), n_clamp (by omega), n_clamp (by omega), hW.2.2.2.1 _ (by omega), hW.2.2.2.1 _ (by omega), n_sm (by omega) (by omega), lt_e, lt_e, f5, bI_s, ck_t (okI_66 (by omega)), ck_t (okI_66 (by omega)), lt_e, lt_e, n_clamp (by omega), n_s1]
    unfold lt1
    simp only
    by_cases q : nI (cN lw wo r (min (s.1 (2 * g)) (s.1 (2 * g + 1))) (max (s.1 (2 * g)) (s.1 (2 * g + 1)))) ≤ ab_rem (ab_ushr (s.2 * 1103515245 + 12345) 8) 100
    · rw [if_pos q, if_pos q]
      exact ⟨_, rfl, c5.st _ _⟩
    · rw [if_neg q, if_neg q]
      exact ⟨_, rfl, c5.st _ _⟩
  rw [f_X11_lots_L69, e2, if_neg (by rw [n_le (by omega) (by omega)]; omega), n_dbl, n_s1, ck_t (okI_66 (by omega)), ck_t (okI_66 (by omega)), ck_t (okI_66 (by omega)), ck_t (okI_66 (by omega)), n_clamp (by omega), n_clamp (by omega), hW.2.2.2.1 _ (by omega), hW.2.2.2.1 _ (by omega)]
  simp only [n_le (show s.1 (2 * g + 1) < 2147483648 by omega) (show s.1 (2 * g) < 2147483648 by omega)]
  by_cases q : s.1 (2 * g + 1) ≤ s.1 (2 * g)
  · rw [if_pos q]
    rw [Nat.min_eq_right q] at tail
    exact tail
  · rw [if_neg q]
    rw [Nat.min_eq_left (by omega)] at tail
    exact tail
theorem mo_lot_L {k60 : Int32 → Int32 → Int32 → Int32 → Int32 → Int32 → Int32 → Mem → Option (Int32 × Mem)} (hO : OKF np nm wo wi lo ct) (hL : okO lw) (hn : n ≤ 8) {cnt r : Nat} (h2 : 2 * cnt ≤ n) (v2 v3 v5 v6 : Int32) : ∀ (k g m : Nat) (s : LtS) (M : Mem), g + k = cnt → k < m → MWS np nm wo wi lo ct lw n rw s.1 M → LJ np g cnt s.1 → ∃ M2, f_X11_lots_L69 k60 m v2 v3 s.2 v5 v6 (nI r) (nI (2 * cnt)) (nI g) M = k60 v2 v3 (lts (cN lw wo) r k g s).2 v5 v6 (nI (r + 1)) (nI cnt) M2 ∧ MWS np nm wo wi lo ct lw n rw (lts (cN lw wo) r k g s).1 M2
  | 0, g, m, s, M, h, hm, hW, hJ => by
    obtain ⟨m, rfl⟩ : ∃ m2, m = m2 + 1 := ⟨m - 1, by omega⟩
    have e2 : nI (2 * cnt) / 2 = nI cnt := by rw [show (2 : Int32) = nI 2 from rfl, n_div (by omega) (by omega)]; congr 1; omega
    rw [f_X11_lots_L69, e2, if_pos ((n_le (by omega) (by omega)).mpr (by omega)), lt_e, n_s1]
    exact ⟨M, rfl, hW⟩
  | k + 1, g, m, s, M, h, hm, hW, hJ => by
    obtain ⟨m, rfl⟩ : ∃ m2, m = m2 + 1 := ⟨m - 1, by omega⟩
    obtain ⟨M2, f2, c2⟩ := mo_lot_g (k60 := k60) hO hL hn (m := m) (r := r) h2 (show g < cnt by omega) v2 v3 v5 v6 hW hJ
    obtain ⟨M3, f3, c3⟩ := mo_lot_L hO hL hn h2 v2 v3 v5 v6 k (g + 1) m (lt1 (cN lw wo) r s g) M2 (by omega) (by omega) c2 (LJ_1 (by omega) hJ)
    exact ⟨M3, by rw [f2, f3]; rfl, c3⟩
theorem mo_lot_r {k41 : Int32 → Int32 → Int32 → Int32 → Int32 → Mem → Option (Int32 × Mem)} (hO : OKF np nm wo wi lo ct) (hL : okO lw) (hn : n ≤ 8) (v2 v3 v5 v6 : Int32) {cnt r m : Nat} {s : LtS} (h1 : 1 ≤ cnt) (h2 : 2 * cnt ≤ n) (hW : MWS np nm wo wi lo ct lw n rw s.1 M) (hJ : LJ np 0 cnt s.1) : ∃ M2, f_X11_lots_L60 k41 (m + 1) v2 v3 s.2 v5 v6 (nI r) (nI (2 * cnt)) M = f_X11_lots_L60 k41 m v2 v3 (lts (cN lw wo) r cnt 0 s).2 v5 v6 (nI (r + 1)) (nI cnt) M2 ∧ MWS np nm wo wi lo ct lw n rw (lts (cN lw wo) r cnt 0 s).1 M2 := by
  rw [f_X11_lots_L60, if_neg (by rw [show (1 : Int32) = nI 1 from rfl, n_le (by omega) (by omega)]; omega)]
  exact mo_lot_L hO hL hn h2 v2 v3 v5 v6 cnt 0 FU s M (by omega) (by unfold FU; omega) hW hJ
theorem mo_lot_f {k41 : Int32 → Int32 → Int32 → Int32 → Int32 → Mem → Option (Int32 × Mem)} (hn : 1 ≤ n) (v2 v3 v5 v6 r : Int32) {m : Nat} {s : LtS} (hW : MWS np nm wo wi lo ct lw n rw s.1 M) : f_X11_lots_L60 k41 (m + 1) v2 v3 s.2 v5 v6 r (nI 1) M = k41 v2 v3 s.2 (if nI (s.1 0) = v3 then v5 + 1 else v5) (v6 + 1) M := by
  rw [f_X11_lots_L60, if_pos (by decide), ck_t (by decide), show (0 : Int32).toNatClampNeg = 0 from rfl, hW.2.2.2.1 0 (by omega)]
  unfold f_X11_lots_b234
  rw [lt_e, lt_e]
  by_cases q : nI (s.1 0) = v3
  · rw [if_pos q, if_pos q]
  · rw [if_neg q, if_neg q, Int32.add_zero]
theorem mo_lot_p {k41 : Int32 → Int32 → Int32 → Int32 → Int32 → Mem → Option (Int32 × Mem)} (hO : OKF np nm wo wi lo ct) (hL : okO lw) (hOU : OKU np n rw) (hn : n = 4 ∨ n = 8) (v2 v3 v5 v6 z : Int32) (hW : MWS np nm wo wi lo ct lw n rw rw M) : ∃ M2, f_X11_lots_L60 k41 FU v2 v3 z v5 v6 0 (nI n) M = k41 v2 v3 (ltT (cN lw wo) n (rw, z)).2 (if nI ((ltT (cN lw wo) n (rw, z)).1 0) = v3 then v5 + 1 else v5) (v6 + 1) M2 ∧ MWS np nm wo wi lo ct lw n rw (ltT (cN lw wo) n (rw, z)).1 M2 := by
  have hn8 := hOU.1
  have j0 := LJ_0 hOU
  show ∃ M2, f_X11_lots_L60 k41 (4996 + 1 + 1 + 1 + 1) v2 v3 (rw, z).2 v5 v6 (nI 0) (nI n) M = _ ∧ _
  rcases hn with rfl | rfl
  · have j1 := LJ_s (c := cN lw wo) (r := 0) 2 0 (rw, z) rfl (LJ_n (cnt := 2) j0)
    obtain ⟨M4, f4, c4⟩ := mo_lot_r (k41 := k41) hO hL hn8 v2 v3 v5 v6 (cnt := 2) (r := 0) (m := 4996 + 1 + 1 + 1) (s := (rw, z)) (by omega) (by omega) hW (LJ_n (cnt := 2) j0)
    obtain ⟨M5, f5, c5⟩ := mo_lot_r (k41 := k41) hO hL hn8 v2 v3 v5 v6 (cnt := 1) (r := 0 + 1) (m := 4996 + 1 + 1) (by omega) (by omega) c4 (LJ_n (cnt := 1) j1)
    have f4' : f_X11_lots_L60 k41 (4996 + 1 + 1 + 1 + 1) v2 v3 (rw, z).2 v5 v6 (nI 0) (nI 4) M = f_X11_lots_L60 k41 (4996 + 1 + 1 + 1) v2 v3 (lts (cN lw wo) 0 2 0 (rw, z)).2 v5 v6 (nI (0 + 1)) (nI (2 * 1)) M4 := f4
    rw [f4', f5, mo_lot_f (by omega) v2 v3 v5 v6 _ c5]
    exact ⟨M5, rfl, c5⟩
  · have j1 := LJ_s (c := cN lw wo) (r := 0) 4 0 (rw, z) rfl (LJ_n (cnt := 4) j0)
    have j2 := LJ_s (c := cN lw wo) (r := 1) 2 0 _ rfl (LJ_n (cnt := 2) j1)
    obtain ⟨M4, f4, c4⟩ := mo_lot_r (k41 := k41) hO hL hn8 v2 v3 v5 v6 (cnt := 4) (r := 0) (m := 4996 + 1 + 1 + 1) (s := (rw, z)) (by omega) (by omega) hW (LJ_n (cnt := 4) j0)
    obtain ⟨M5, f5, c5⟩ := mo_lot_r (k41 := k41) hO hL hn8 v2 v3 v5 v6 (cnt := 2) (r := 0 + 1) (m := 4996 + 1 + 1) (by omega) (by omega) c4 (LJ_n (cnt := 2) j1)
    obtain ⟨M6, f6, c6⟩ := mo_lot_r (k41 := k41) hO hL hn8 v2 v3 v5 v6 (cnt := 1) (r := 0 + 1 + 1) (m := 4996 + 1) (by omega) (by omega) c5 (LJ_n (cnt := 1) j2)
    have f4' : f_X11_lots_L60 k41 (4996 + 1 + 1 + 1 + 1) v2 v3 (rw, z).2 v5 v6 (nI 0) (nI 8) M = f_X11_lots_L60 k41 (4996 + 1 + 1 + 1) v2 v3 (lts (cN lw wo) 0 4 0 (rw, z)).2 v5 v6 (nI (0 + 1)) (nI (2 * 2)) M4 := f4
    have f5' : f_X11_lots_L60 k41 (4996 + 1 + 1 + 1) v2 v3 (lts (cN lw wo) 0 4 0 (rw, z)).2 v5 v6 (nI (0 + 1)) (nI (2 * 2)) M4 = f_X11_lots_L60 k41 (4996 + 1 + 1) v2 v3 (lts (cN lw wo) 1 2 0 (lts (cN lw wo) 0 4 0 (rw, z))).2 v5 v6 (nI (0 + 1 + 1)) (nI (2 * 1)) M5 := f5
    rw [f4', f5', f6, mo_lot_f (by omega) v2 v3 v5 v6 _ c6]
    exact ⟨M6, rfl, c6⟩
theorem mo_lot_k (hO : OKF np nm wo wi lo ct) (hL : okO lw) (hOU : OKU np n rw) (hn : n = 4 ∨ n = 8) (v : Int32) {N : Nat} (hN : N ≤ 50) : ∀ (k i m : Nat) (o z : Int32) (M : Mem), i + k = N → k < m → (∃ S, MWS np nm wo wi lo ct lw n rw S M) → ∃ M2, f_X11_lots_L41 m (nI N) v z o (nI i) M = some (lotF (cN lw wo) n rw v k o z, M2)
  | 0, i, m, o, z, M, h, hm, hW => by
    obtain ⟨m, rfl⟩ : ∃ m2, m = m2 + 1 := ⟨m - 1, by omega⟩
    rw [f_X11_lots_L41, if_pos ((n_le (by omega) (by omega)).mpr (by omega))]
    exact ⟨M, rfl⟩
  | k + 1, i, m, o, z, M, h, hm, hW => by
    obtain ⟨m, rfl⟩ : ∃ m2, m = m2 + 1 := ⟨m - 1, by omega⟩
    obtain ⟨S0, c0⟩ := hW
    have c1 := MWS_0 c0.2.2.2.2 c0.1 c0.2.1 c0.2.2.1
    obtain ⟨M2, f2, c2⟩ := mo_lot_p (k41 := fun a0 a1 a2 a3 a4 a5 => f_X11_lots_L41 m a0 a1 a2 a3 a4 a5) hO hL hOU hn (nI N) v o (nI i) z c1
    rw [f_X11_lots_L41, if_neg (by rw [n_le (by omega) (by omega)]; omega), mo_linesUp c0.2.2.1.1 hOU.1, bd_s, lt_e, c1.2.2.1.1, f2, lotF, n_s1]
    exact mo_lot_k hO hL hOU hn v hN k (i + 1) m _ _ M2 (by omega) (by omega) ⟨_, c2⟩
theorem mo_lots (hR : okR M) (hO : OKF np nm wo wi lo ct) (hL : okO lw) (hOU : OKU np n rw) (hC : MF np nm wo wi lo ct M) (hW : MW lw M) (hU : MU n rw M) (z k v : Int32) : ∃ M1, f_X11_lots z k v M = some (lotA (cN lw wo) n rw z k v, M1) := by
  have hn8 := hOU.1
  unfold f_X11_lots lotA
  rw [s_within, w_toInt, bd_s, ite_bb, s_placeInRow hU hn8, bd_s, show (1 : Int64).toInt = 1 from rfl, show (50 : Int64).toInt = 50 from rfl]
  unfold inRow
  by_cases q : 1 ≤ k.toInt ∧ k.toInt ≤ 50
  · rw [if_pos (by simpa using q)]
    cases hf : fnd rw v n 0 with
    | none =>
      show ∃ M1, (if (0 : Int32) ≤ -1 then _ else _) = _
      rw [if_neg (by decide), if_neg (fun h => by have := h.1; simp at this)]
      exact ⟨M, rfl⟩
    | some j =>
      obtain ⟨-, hk, hkv⟩ := fnd_some n 0 j hf
      show ∃ M1, (if (0 : Int32) ≤ nI j then _ else _) = _
      rw [if_pos (nI_pos' (by omega)), if_pos ⟨by rfl, q⟩, s_isCup hU.1 hn8, bd_s, ite_bb]
      by_cases hn : n = 4 ∨ n = 8
      · rw [if_pos (by simpa using hn), if_pos hn]
        have hk2 : k = nI k.toNatClampNeg := by
          have := n_of (x := k) (by omega)
          rw [this, n_clamp (by omega)]
        have hkN : k.toNatClampNeg ≤ 50 := by
          have e := n_of (x := k) (by omega)
          rw [e, n_clamp (by omega)]; omega
        have hWS : ∃ S, MWS np nm wo wi lo ct lw n rw S M := by
          refine ⟨fun j => (M.1 66 j).toBitVec.toNat, hC, hW, hU, fun j hj => ?_, hR⟩
          exact Int32.toBitVec_inj.mp (by show _ = BitVec.ofNat 32 _; simp)
        obtain ⟨M2, f2⟩ := mo_lot_k hO hL hOU hn v hkN k.toNatClampNeg 0 FU 0 z M (by omega) (by unfold FU; omega) hWS
        rw [← hk2] at f2
        exact ⟨M2, f2⟩
      · rw [if_neg (by simpa using hn), if_neg hn]
        exact ⟨M, rfl⟩
  · rw [if_neg (by simpa using q), if_neg (fun h => q h.2)]
    exact ⟨M, rfl⟩
end LOTM
