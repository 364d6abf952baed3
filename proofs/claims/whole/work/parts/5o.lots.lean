/-! lots -/
abbrev LtS : Type := (Nat → Nat) × Int32
def lt1 (c : Nat → Nat → Nat → Nat) (r : Nat) (s : LtS) (g : Nat) : LtS := (upN s.1 g (if nI (c r (min (s.1 (2 * g)) (s.1 (2 * g + 1))) (max (s.1 (2 * g)) (s.1 (2 * g + 1)))) ≤ ab_rem (ab_ushr (s.2 * 1103515245 + 12345) 8) 100 then max (s.1 (2 * g)) (s.1 (2 * g + 1)) else min (s.1 (2 * g)) (s.1 (2 * g + 1))), s.2 * 1103515245 + 12345)
def lts (c : Nat → Nat → Nat → Nat) (r : Nat) : Nat → Nat → LtS → LtS
  | 0, _, s => s
  | k + 1, g, s => lts c r k (g + 1) (lt1 c r s g)
def ltT (c : Nat → Nat → Nat → Nat) (n : Nat) (s : LtS) : LtS := if n = 8 then lts c 2 1 0 (lts c 1 2 0 (lts c 0 4 0 s)) else lts c 1 1 0 (lts c 0 2 0 s)
def LJ (np g cnt : Nat) (S : Nat → Nat) : Prop := (∀ i j, lv g cnt i → lv g cnt j → S i = S j → i = j) ∧ ∀ j, lv g cnt j → S j < np
theorem LJ_1 {c : Nat → Nat → Nat → Nat} {np g cnt r : Nat} {s : LtS} (hg : g < cnt) (h : LJ np g cnt s.1) : LJ np (g + 1) cnt (lt1 c r s g).1 := by
  have ha : lv g cnt (2 * g) := Or.inr ⟨by omega, by omega⟩
  have hb : lv g cnt (2 * g + 1) := Or.inr ⟨by omega, by omega⟩
  have hv : ∀ j, lv (g + 1) cnt j → j ≠ g → lv g cnt j ∧ j ≠ 2 * g ∧ j ≠ 2 * g + 1 := by
    intro j hj hne
    rcases hj with hj | hj
    · exact ⟨Or.inl (by omega), by omega, by omega⟩
    · exact ⟨Or.inr (by omega), by omega, by omega⟩
  have hw : ∃ x, (x = 2 * g ∨ x = 2 * g + 1) ∧ (lt1 c r s g).1 = upN s.1 g (s.1 x) := by
    unfold lt1
    simp only
    split
    · by_cases q : s.1 (2 * g) ≤ s.1 (2 * g + 1)
      · exact ⟨_, Or.inr rfl, by rw [Nat.max_eq_right q]⟩
      · exact ⟨_, Or.inl rfl, by rw [Nat.max_eq_left (by omega)]⟩
    · by_cases q : s.1 (2 * g) ≤ s.1 (2 * g + 1)
      · exact ⟨_, Or.inl rfl, by rw [Nat.min_eq_left q]⟩
      · exact ⟨_, Or.inr rfl, by rw [Nat.min_eq_right (by omega)]⟩
  obtain ⟨x, hx, e⟩ := hw
  have hlx : lv g cnt x := by rcases hx with rfl | rfl; exact ha; exact hb
  rw [e]
  unfold upN
  refine ⟨fun i j hi hj q => ?_, fun j hj => ?_⟩
  · by_cases qi : i = g <;> by_cases qj : j = g
    · omega
    · simp only [qi, qj, if_true, if_false] at q
      obtain ⟨l1, l2, l3⟩ := hv j hj qj
      have := h.1 x j hlx l1 q
      omega
    · simp only [qi, qj, if_true, if_false] at q
      obtain ⟨l1, l2, l3⟩ := hv i hi qi
      have := h.1 i x l1 hlx q
      omega
    · simp only [qi, qj, if_false] at q
      exact h.1 i j (hv i hi qi).1 (hv j hj qj).1 q
  · by_cases qj : j = g
    · simp only [qj, if_true]; exact h.2 x hlx
    · simp only [qj, if_false]; exact h.2 j (hv j hj qj).1
theorem LJ_s {c : Nat → Nat → Nat → Nat} {np cnt r : Nat} : ∀ (k g : Nat) (s : LtS), g + k = cnt → LJ np g cnt s.1 → LJ np cnt cnt (lts c r k g s).1
  | 0, g, s, h, hJ => by
    have : g = cnt := by omega
    subst this
    exact hJ
  | k + 1, g, s, h, hJ => LJ_s k (g + 1) _ (by omega) (LJ_1 (by omega) hJ)
theorem LJ_n {np cnt : Nat} {S : Nat → Nat} (h : LJ np (2 * cnt) (2 * cnt) S) : LJ np 0 cnt S := by
  have hv : ∀ j, lv 0 cnt j → lv (2 * cnt) (2 * cnt) j := by
    intro j hj
    rcases hj with hj | hj
    · omega
    · exact Or.inl (by omega)
  exact ⟨fun i j hi hj => h.1 i j (hv i hi) (hv j hj), fun j hj => h.2 j (hv j hj)⟩
def lotF (c : Nat → Nat → Nat → Nat) (n : Nat) (rw : Nat → Nat) (v : Int32) : Nat → Int32 → Int32 → Int32
  | 0, o, _ => o
  | k + 1, o, z => lotF c n rw v k (if nI ((ltT c n (rw, z)).1 0) = v then o + 1 else o) (ltT c n (rw, z)).2
def lotA (c : Nat → Nat → Nat → Nat) (n : Nat) (rw : Nat → Nat) (z k v : Int32) : Int32 := if inRow n rw v = true ∧ 1 ≤ k.toInt ∧ k.toInt ≤ 50 then (if n = 4 ∨ n = 8 then lotF c n rw v k.toNatClampNeg 0 z else -5) else -1
section LOT
variable {np nm : Nat} {wo wi lo ct : Nat → Nat} {lw : LwO} {n : Nat} {rw S : Nat → Nat} {M : Mem}
theorem cl_lot_g {k10 : Int32 → Int32 → Mem → Option (Int32 × Mem)} (hO : OKF np nm wo wi lo ct) (hL : okO lw) (hn : n ≤ 8) {cnt r g m : Nat} {s : LtS} (hr3 : r < 3) (hr : ab_shr (nI n) (nI r + 1) = nI cnt) (h2 : 2 * cnt ≤ n) (hg : g < cnt) (hW : WS np nm wo wi lo ct lw n rw s.1 M) (hJ : LJ np g cnt s.1) : ∃ M2, f_X3_playByLot_L22 k10 (m + 1) s.2 (nI r) (nI g) M = f_X3_playByLot_L22 k10 m (lt1 (cN lw wo) r s g).2 (nI r) (nI (g + 1)) M2 ∧ WS np nm wo wi lo ct lw n rw (lt1 (cN lw wo) r s g).1 M2 := by
  have h8 := hO.1
  have ha : lv g cnt (2 * g) := Or.inr ⟨by omega, by omega⟩
  have hb : lv g cnt (2 * g + 1) := Or.inr ⟨by omega, by omega⟩
  have l1 := hJ.2 _ ha
  have l2 := hJ.2 _ hb
  have hne : s.1 (2 * g) ≠ s.1 (2 * g + 1) := fun q => by have := hJ.1 _ _ ha hb q; omega
  obtain ⟨M5, f5, c5, -⟩ := s_odds hW hO hL hr3 (a := min (s.1 (2 * g)) (s.1 (2 * g + 1))) (b := max (s.1 (2 * g)) (s.1 (2 * g + 1))) (by omega) (by omega) (by omega)
  rw [f_X3_playByLot_L22, hW.2.2.1.1, hr, if_neg (by rw [n_le (by omega) (by omega)]; omega), n_dbl, n_s1, ck_t (okI_30 (by omega)), ck_t (okI_30 (by omega)), lt_e, ck_t (okI_30 (by omega)), ck_t (okI_30 (by omega)), lt_e, lt_e, n_clamp (by omega), n_clamp (by omega), hW.2.2.2.1 _ (by omega), hW.2.2.2.1 _ (by omega), n_min (by omega) (by omega), n_max (by omega) (by omega), f5, bI_s]
  unfold f_X3_playByLot_b125 f_X3_playByLot_b145 lt1
  simp only
  rw [ck_t (okI_30 (by omega)), ck_t (okI_30 (by omega)), lt_e, lt_e, n_clamp (by omega), n_s1, if_neg (show ¬ (1 : Int32) = 0 by decide)]
  by_cases q : nI (cN lw wo r (min (s.1 (2 * g)) (s.1 (2 * g + 1))) (max (s.1 (2 * g)) (s.1 (2 * g + 1)))) ≤ ab_rem (ab_ushr (s.2 * 1103515245 + 12345) 8) 100
  · rw [if_pos q, if_pos q]
    exact ⟨_, rfl, c5.st _ _⟩
  · rw [if_neg q, if_neg q]
    exact ⟨_, rfl, c5.st _ _⟩
theorem cl_lot_L {k10 : Int32 → Int32 → Mem → Option (Int32 × Mem)} (hO : OKF np nm wo wi lo ct) (hL : okO lw) (hn : n ≤ 8) {cnt r : Nat} (hr3 : r < 3) (hr : ab_shr (nI n) (nI r + 1) = nI cnt) (h2 : 2 * cnt ≤ n) : ∀ (k g m : Nat) (s : LtS) (M : Mem), g + k = cnt → k < m → WS np nm wo wi lo ct lw n rw s.1 M → LJ np g cnt s.1 → ∃ M2, f_X3_playByLot_L22 k10 m s.2 (nI r) (nI g) M = k10 (lts (cN lw wo) r k g s).2 (nI (r + 1)) M2 ∧ WS np nm wo wi lo ct lw n rw (lts (cN lw wo) r k g s).1 M2
  | 0, g, m, s, M, h, hm, hW, hJ => by
    obtain ⟨m, rfl⟩ : ∃ m2, m = m2 + 1 := ⟨m - 1, by omega⟩
    rw [f_X3_playByLot_L22, hW.2.2.1.1, hr, if_pos ((n_le (by omega) (by omega)).mpr (by omega)), n_s1]
    exact ⟨M, rfl, hW⟩
  | k + 1, g, m, s, M, h, hm, hW, hJ => by
    obtain ⟨m, rfl⟩ : ∃ m2, m = m2 + 1 := ⟨m - 1, by omega⟩
    obtain ⟨M2, f2, c2⟩ := cl_lot_g (k10 := k10) hO hL hn (m := m) hr3 hr h2 (show g < cnt by omega) hW hJ
    obtain ⟨M3, f3, c3⟩ := cl_lot_L hO hL hn hr3 hr h2 k (g + 1) m (lt1 (cN lw wo) r s g) M2 (by omega) (by omega) c2 (LJ_1 (by omega) hJ)
    exact ⟨M3, by rw [f2, f3]; rfl, c3⟩
theorem LJ_0 (hOU : OKU np n rw) : LJ np n n rw := by
  have hv : ∀ j, lv n n j → j < n := fun j hj => by rcases hj with hj | hj <;> omega
  exact ⟨fun i j hi hj => hOU.2.2 i j (hv i hi) (hv j hj), fun j hj => hOU.2.1 j (hv j hj)⟩
theorem cl_lot_p (hO : OKF np nm wo wi lo ct) (hL : okO lw) (hOU : OKU np n rw) (hn : n = 4 ∨ n = 8) (z : Int32) (hW : ∃ S, WS np nm wo wi lo ct lw n rw S M) : ∃ M2, f_X3_playByLot z M = some ((ltT (cN lw wo) n (rw, z)).2, M2) ∧ WS np nm wo wi lo ct lw n rw (ltT (cN lw wo) n (rw, z)).1 M2 := by
  have hn8 := hOU.1
  obtain ⟨S0, c0⟩ := hW
  obtain ⟨h3, c3⟩ := WS.sit hn hO c0.1 c0.2.1 c0.2.2.1 c0.2.2.2.2
  have rnd : ∀ (m r cnt : Nat) (s : LtS) (M : Mem), (n = 4 ∧ ((r = 0 ∧ cnt = 2) ∨ (r = 1 ∧ cnt = 1)) ∨ n = 8 ∧ ((r = 0 ∧ cnt = 4) ∨ (r = 1 ∧ cnt = 2) ∨ (r = 2 ∧ cnt = 1))) → WS np nm wo wi lo ct lw n rw s.1 M → LJ np 0 cnt s.1 → ∃ M2, f_X3_playByLot_L10 (m + 1) s.2 (nI r) M = f_X3_playByLot_L10 m (lts (cN lw wo) r cnt 0 s).2 (nI (r + 1)) M2 ∧ WS np nm wo wi lo ct lw n rw (lts (cN lw wo) r cnt 0 s).1 M2 := by
    intro m r cnt s M q hW hJ
    have hr : ab_shr (nI n) (nI r + 1) = nI cnt := by
      rcases q with ⟨rfl, ⟨rfl, rfl⟩ | ⟨rfl, rfl⟩⟩ | ⟨rfl, ⟨rfl, rfl⟩ | ⟨rfl, rfl⟩ | ⟨rfl, rfl⟩⟩ <;> decide
    have hrd : r < rdn n ∧ rdn n ≤ 3 := by
      unfold rdn
      rcases q with ⟨rfl, ⟨rfl, rfl⟩ | ⟨rfl, rfl⟩⟩ | ⟨rfl, ⟨rfl, rfl⟩ | ⟨rfl, rfl⟩ | ⟨rfl, rfl⟩⟩ <;> decide
    rw [f_X3_playByLot_L10, s_rounds hW.2.2.1.1 hn, bd_s, if_neg (by rw [n_le (by omega) (by omega)]; omega)]
    exact cl_lot_L hO hL hn8 (by omega) hr (by omega) cnt 0 FU s M (by omega) (by unfold FU; omega) hW hJ
  have fin : ∀ (m r : Nat) (s : LtS) (M : Mem), r = rdn n → WS np nm wo wi lo ct lw n rw s.1 M → f_X3_playByLot_L10 (m + 1) s.2 (nI r) M = some (s.2, M) := by
    intro m r s M q hW
    rw [f_X3_playByLot_L10, s_rounds hW.2.2.1.1 hn, bd_s, q, if_pos (by rw [i_le]; omega)]
  unfold f_X3_playByLot
  rw [h3, bd_s]
  show ∃ M2, f_X3_playByLot_L10 (4996 + 1 + 1 + 1 + 1) (rw, z).2 (nI 0) _ = _ ∧ _
  have j0 := LJ_0 hOU
  rcases hn with rfl | rfl
  · obtain ⟨M4, f4, c4⟩ := rnd (4996 + 1 + 1 + 1) 0 2 (rw, z) _ (Or.inl ⟨rfl, Or.inl ⟨rfl, rfl⟩⟩) c3 (LJ_n (cnt := 2) j0)
    have j1 := LJ_s (c := cN lw wo) (r := 0) 2 0 (rw, z) rfl (LJ_n (cnt := 2) j0)
    obtain ⟨M5, f5, c5⟩ := rnd (4996 + 1 + 1) 1 1 _ _ (Or.inl ⟨rfl, Or.inr ⟨rfl, rfl⟩⟩) c4 (LJ_n (cnt := 1) j1)
    rw [f4, f5, fin (4996 + 1) (1 + 1) _ M5 rfl c5]
    exact ⟨M5, rfl, c5⟩
  · obtain ⟨M4, f4, c4⟩ := rnd (4996 + 1 + 1 + 1) 0 4 (rw, z) _ (Or.inr ⟨rfl, Or.inl ⟨rfl, rfl⟩⟩) c3 (LJ_n (cnt := 4) j0)
    have j1 := LJ_s (c := cN lw wo) (r := 0) 4 0 (rw, z) rfl (LJ_n (cnt := 4) j0)
    obtain ⟨M5, f5, c5⟩ := rnd (4996 + 1 + 1) 1 2 _ _ (Or.inr ⟨rfl, Or.inr (Or.inl ⟨rfl, rfl⟩)⟩) c4 (LJ_n (cnt := 2) j1)
    have j2 := LJ_s (c := cN lw wo) (r := 1) 2 0 _ rfl (LJ_n (cnt := 2) j1)
    obtain ⟨M6, f6, c6⟩ := rnd (4996 + 1) 2 1 _ _ (Or.inr ⟨rfl, Or.inr (Or.inr ⟨rfl, rfl⟩)⟩) c5 (LJ_n (cnt := 1) j2)
    rw [f4, f5, f6, fin 4996 (2 + 1) _ M6 rfl c6]
    exact ⟨M6, rfl, c6⟩
theorem cl_lot_k (hO : OKF np nm wo wi lo ct) (hL : okO lw) (hOU : OKU np n rw) (hn : n = 4 ∨ n = 8) (v : Int32) {N : Nat} (hN : N ≤ 50) : ∀ (k i m : Nat) (o z : Int32) (M : Mem), i + k = N → k < m → (∃ S, WS np nm wo wi lo ct lw n rw S M) → ∃ M2, f_X3_wonByLot_L13 m (nI N) v z o (nI i) M = some (lotF (cN lw wo) n rw v k o z, M2)
  | 0, i, m, o, z, M, h, hm, hW => by
    obtain ⟨m, rfl⟩ : ∃ m2, m = m2 + 1 := ⟨m - 1, by omega⟩
    rw [f_X3_wonByLot_L13, if_pos ((n_le (by omega) (by omega)).mpr (by omega))]
    exact ⟨M, rfl⟩
  | k + 1, i, m, o, z, M, h, hm, hW => by
    obtain ⟨m, rfl⟩ : ∃ m2, m = m2 + 1 := ⟨m - 1, by omega⟩
    obtain ⟨M2, f2, c2⟩ := cl_lot_p hO hL hOU hn z hW
    rw [f_X3_wonByLot_L13, if_neg (by rw [n_le (by omega) (by omega)]; omega), f2, bI_s, ck_t (by decide), show (0 : Int32).toNatClampNeg = 0 from rfl, c2.2.2.2.1 0 (by omega), lotF]
    unfold f_X3_wonByLot_b44
    rw [n_s1]
    by_cases q : nI ((ltT (cN lw wo) n (rw, z)).1 0) = v
    · rw [if_pos q, if_pos q]
      exact cl_lot_k hO hL hOU hn v hN k (i + 1) m _ _ M2 (by omega) (by omega) ⟨_, c2⟩
    · rw [if_neg q, if_neg q]
      exact cl_lot_k hO hL hOU hn v hN k (i + 1) m _ _ M2 (by omega) (by omega) ⟨_, c2⟩
theorem in50 (k : Int32) : (1 ≤ k.toInt ∧ k.toInt ≤ 50) ↔ (¬ k < 1 ∧ k ≤ 50) := by
  rw [i_lt, i_le]
  have h1 : (1 : Int32).toInt = 1 := rfl
  have h2 : (50 : Int32).toInt = 50 := rfl
  omega
theorem cl_lots (hO : OKF np nm wo wi lo ct) (hL : okO lw) (hOU : OKU np n rw) (hC : CF np nm wo wi lo ct M) (hW : CW lw M) (hU : CU n rw M) (z k v : Int32) : ∃ M1, f_X10_lots z k v M = some (lotA (cN lw wo) n rw z k v, M1) := by
  have hn8 := hOU.1
  unfold f_X10_lots lotA
  rw [s_hasC hU hn8, bd_s, ite_bb]
  simp only [in50]
  by_cases q : inRow n rw v = true
  · rw [if_pos q]
    by_cases q1 : k < 1
    · rw [if_pos q1, if_neg (fun h : inRow n rw v = true ∧ ¬ k < 1 ∧ k ≤ 50 => h.2.1 q1)]
      exact ⟨M, rfl⟩
    · rw [if_neg q1]
      by_cases q2 : k ≤ 50
      · have hA : inRow n rw v = true ∧ ¬ k < 1 ∧ k ≤ 50 := ⟨q, q1, q2⟩
        rw [if_pos q2, if_pos hA, s_isWhole hU.1 hn8, bd_s, ite_bb]
        by_cases hn : n = 4 ∨ n = 8
        · rw [if_pos (by simpa using hn), if_pos hn]
          obtain ⟨p1, p2⟩ := (in50 k).mpr ⟨q1, q2⟩
          have hk : k = nI k.toNatClampNeg := by
            have := n_of (x := k) (by omega)
            rw [this, n_clamp (by omega)]
          have hkN : k.toNatClampNeg ≤ 50 := by
            have e := n_of (x := k) (by omega)
            rw [e, n_clamp (by omega)]; omega
          have hR := hW.2.1
          have fr := fr_X3_forgetOdds M _ s_forget
          have hWS : ∃ S, WS np nm wo wi lo ct lw n rw S (fiI M 32 0 192 (-1)) := by
            refine ⟨fun j => (M.1 30 j).toBitVec.toNat, WS_0 hO hC hW hU (fun j hj => ?_)⟩
            exact Int32.toBitVec_inj.mp (by show _ = BitVec.ofNat 32 _; simp)
          obtain ⟨M2, f2⟩ := cl_lot_k hO hL hOU hn v hkN k.toNatClampNeg 0 FU 0 z _ (by omega) (by unfold FU; omega) hWS
          rw [← hk] at f2
          unfold f_X3_wonByLot
          have f2' : f_X3_wonByLot_L13 FU k v z 0 0 (fiI M 32 0 192 (-1)) = _ := f2
          rw [s_forget, bd_s, f2', bI_s]
          exact ⟨M2, rfl⟩
        · rw [if_neg (by simpa using hn), if_neg hn]
          exact ⟨M, rfl⟩
      · rw [if_neg q2, if_neg (fun h : inRow n rw v = true ∧ ¬ k < 1 ∧ k ≤ 50 => q2 h.2.2)]
        exact ⟨M, rfl⟩
  · rw [if_neg q, if_neg (fun h : inRow n rw v = true ∧ ¬ k < 1 ∧ k ≤ 50 => q h.1)]
    exact ⟨M, rfl⟩
end LOT
