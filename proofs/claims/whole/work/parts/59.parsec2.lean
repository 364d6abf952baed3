section CLAW2
variable {tp : Nat → Nat} {n D E : Nat} {F : Nat → Int32} {s : LwS} {dl : LwL} {M : Mem}
theorem cs_lpOf (hT : okTx tp n) (hD : okDE D E) {g : Mem → Option Mem} {sub : LwS → LwS × LwL} (hg : ClP tp n D E F g sub) (hG : Gd n sub) {a b c : Nat} (ha : a ≤ 255) (hb : b ≤ 255) (hc : c ≤ 255) {L : Nat → Int32 → Int32 → Mem → Option Mem} (hL : ∀ (m : Nat) (v2 v3 : Int32) (M : Mem), L (m + 1) v2 v3 M = (if (120 : Int32) ≤ v3 then (some M) else (if v2 = (-1 : Int32) then (some M) else (g M).bind fun M2 => (f_X5_addStep v2 (0 : Int32) M2).bind fun M4 => bI (f_X5_comesOf (nI a) (nI b) (nI c) M4) fun x5 M6 => L m x5 (v3 + 1) M6))) : ∀ (k m t : Nat) (s : LwS) (l : LwL) (M : Mem), n < s.1 + k → k < m → t + n ≤ 120 + s.1 → s.1 ≤ n → (dl ++ l).length ≤ s.1 → CSt tp n D E F (if lch tp n s ∈ [a, b, c] then ladv s else s) (dl ++ l) M → ∃ M2, L m (if lch tp n s ∈ [a, b, c] then nI (lch tp n s) else -1) (nI t) M = some M2 ∧ CSt tp n D E F (pLp tp n [a, b, c] sub k s l).1 (dl ++ (pLp tp n [a, b, c] sub k s l).2) M2
  | 0, m, t, s, l, M, h1, _, _, h4, _, _ => by omega
  | k + 1, m, t, s, l, M, h1, h2, h3, h4, h5, hC => by
    have h120 := hT.1
    obtain ⟨m, rfl⟩ : ∃ m2, m = m2 + 1 := ⟨m - 1, by omega⟩
    rw [hL, pLp]
    by_cases q : lch tp n s ∈ [a, b, c]
    · have q' := q
      simp only [List.mem_cons, List.not_mem_nil, or_false] at q'
      have h255 : lch tp n s ≤ 255 := by omega
      obtain ⟨b1, -⟩ := lch_lt (tp := tp) (n := n) (s := s) (by omega)
      simp only [q, if_true] at hC ⊢
      have ht : ¬ (120 : Int32) ≤ nI t := fun q => by have := (n_le (a := 120) (by omega) (by omega)).mp q; omega
      have hm1 : ¬ nI (lch tp n s) = -1 := fun q => by
        have := congrArg Int32.toInt q
        rw [n_toInt (by omega)] at this
        have e : (-1 : Int32).toInt = -1 := rfl
        omega
      rw [if_neg ht, if_neg hm1]
      have e1 : (ladv s).1 = s.1 + 1 := rfl
      obtain ⟨g1, g2, g3, -⟩ := hG (ladv s) (by omega)
      obtain ⟨M2, f2, c2⟩ := hg (ladv s) (dl ++ l) M (by omega) (by omega) hC
      have hlen : ((dl ++ l) ++ (sub (ladv s)).2).length < 121 := by rw [List.length_append]; omega
      obtain ⟨M4, f4, c4⟩ := cs_add hD c2 hlen (c := lch tp n s) (v := 0)
      obtain ⟨M6, f6, c6⟩ := cs_comesOf hT hD c4 g2 ha hb hc
      have hl6 : ((dl ++ l) ++ (sub (ladv s)).2 ++ [(lch tp n s, 0)]).length ≤ (sub (ladv s)).1.1 := by rw [List.length_append, List.length_append]; simp only [List.length_singleton]; omega
      have eA : (dl ++ l) ++ (sub (ladv s)).2 ++ [(lch tp n s, 0)] = dl ++ (l ++ (sub (ladv s)).2 ++ [(lch tp n s, 0)]) := by simp only [List.append_assoc]
      rw [eA] at c6 hl6
      obtain ⟨M8, f8, c8⟩ := cs_lpOf hT hD hg hG ha hb hc hL k m (t + 1) (sub (ladv s)).1 _ M6 (by omega) (by omega) (by omega) g2 hl6 c6
      refine ⟨M8, ?_, c8⟩
      rw [f2, bd_s, f4, bd_s, f6, bI_s, n_s1]
      exact f8
    · simp only [q, if_false] at hC ⊢
      rw [if_pos trivial, ite_self]
      exact ⟨M, rfl, hC⟩
theorem cs_lpC (hT : okTx tp n) (hD : okDE D E) {g : Mem → Option Mem} {sub : LwS → LwS × LwL} (hg : ClP tp n D E F g sub) (hG : Gd n sub) {a : Nat} (ha : a ≤ 255) {L : Nat → Int32 → Mem → Option Mem} (hL : ∀ (m : Nat) (v2 : Int32) (M : Mem), L (m + 1) v2 M = (if (120 : Int32) ≤ v2 then (some M) else bI (f_X5_comes (nI a) M) fun x1 M2 => (if x1 = 0 then (some M2) else (g M2).bind fun M4 => (f_X5_addStep (nI a) (0 : Int32) M4).bind fun M6 => L m (v2 + 1) M6))) : ∀ (k m t : Nat) (s : LwS) (l : LwL) (M : Mem), n < s.1 + k → k < m → t + n ≤ 120 + s.1 → s.1 ≤ n → (dl ++ l).length ≤ s.1 → CSt tp n D E F s (dl ++ l) M → ∃ M2, L m (nI t) M = some M2 ∧ CSt tp n D E F (pLp tp n [a] sub k s l).1 (dl ++ (pLp tp n [a] sub k s l).2) M2
  | 0, m, t, s, l, M, h1, _, _, h4, _, _ => by omega
  | k + 1, m, t, s, l, M, h1, h2, h3, h4, h5, hC => by
    have h120 := hT.1
    obtain ⟨m, rfl⟩ : ∃ m2, m = m2 + 1 := ⟨m - 1, by omega⟩
    rw [hL, pLp]
    by_cases ht : (120 : Int32) ≤ nI t
    · have ht2 := (n_le (a := 120) (by omega) (by omega)).mp ht
      have e : lch tp n s = 999 := by unfold lch; rw [if_neg (by omega)]
      rw [if_pos ht, e, if_neg (by simp; omega)]
      exact ⟨M, rfl, hC⟩
    · rw [if_neg ht]
      obtain ⟨M2, f2, c2⟩ := cs_comes hT hD hC h4 ha
      rw [f2, bI_s, ite_bb]
      by_cases q : lch tp n s = a
      · rw [if_pos (by simpa using q)]
        rw [if_pos q] at c2
        rw [if_pos (by rw [q]; simp)]
        obtain ⟨b1, -⟩ := lch_lt (tp := tp) (n := n) (s := s) (by omega)
        have e1 : (ladv s).1 = s.1 + 1 := rfl
        obtain ⟨g1, g2, g3, -⟩ := hG (ladv s) (by omega)
        obtain ⟨M4, f4, c4⟩ := hg (ladv s) (dl ++ l) M2 (by omega) (by omega) c2
        have hlen : ((dl ++ l) ++ (sub (ladv s)).2).length < 121 := by rw [List.length_append]; omega
        obtain ⟨M6, f6, c6⟩ := cs_add hD c4 hlen (c := a) (v := 0)
        have hl6 : ((dl ++ l) ++ (sub (ladv s)).2 ++ [(a, 0)]).length ≤ (sub (ladv s)).1.1 := by rw [List.length_append, List.length_append]; simp only [List.length_singleton]; omega
        have eA : (dl ++ l) ++ (sub (ladv s)).2 ++ [(a, 0)] = dl ++ (l ++ (sub (ladv s)).2 ++ [(lch tp n s, 0)]) := by rw [q]; simp only [List.append_assoc]
        rw [eA] at c6 hl6
        obtain ⟨M8, f8, c8⟩ := cs_lpC hT hD hg hG ha hL k m (t + 1) (sub (ladv s)).1 _ M6 (by omega) (by omega) (by omega) g2 hl6 c6
        refine ⟨M8, ?_, c8⟩
        rw [f4, bd_s, f6, bd_s, n_s1]
        exact f8
      · rw [if_neg (by simpa using q)]
        rw [if_neg q] at c2
        rw [if_neg (by simpa using q)]
        exact ⟨M2, rfl, c2⟩
theorem cs_prod (hT : okTx tp n) (hD : okDE D E) {rc : Int32 → Mem → Option Mem} {v : Int32} {one : LwS → LwS × LwL} (hg : ClP tp n D E F (rc v) one) (hG : Gd n one) : ClP tp n D E F (f_X5_readProduct rc v) (pProd tp n one) := by
  intro s dl M hs hl hC
  have h120 := hT.1
  obtain ⟨g1, g2, g3, -⟩ := hG s hs
  obtain ⟨M2, f2, c2⟩ := hg s dl M hs hl hC
  obtain ⟨M4, f4, c4⟩ := cs_comesOf hT hD c2 g2 (a := 42) (b := 47) (c := 37) (by omega) (by omega) (by omega)
  obtain ⟨M6, f6, c6⟩ := cs_lpOf hT hD hg hG (a := 42) (b := 47) (c := 37) (by omega) (by omega) (by omega) (L := fun m v2 v3 M => f_X5_readProduct_L18 rc m v v2 v3 M) (fun m v2 v3 M => by rw [f_X5_readProduct_L18]; rfl) 130 FU 0 (one s).1 (one s).2 M4 (by omega) (by unfold FU; omega) (by omega) g2 (by rw [List.length_append]; omega) c4
  refine ⟨M6, ?_, c6⟩
  unfold f_X5_readProduct
  rw [f2, bd_s]
  have f4' : f_X5_comesOf 42 47 37 M2 = _ := f4
  rw [f4', bI_s]
  exact f6
theorem cs_sum (hT : okTx tp n) (hD : okDE D E) {rc : Int32 → Mem → Option Mem} {v : Int32} {one : LwS → LwS × LwL} (hg : ClP tp n D E F (rc v) one) (hG : Gd n one) : ClP tp n D E F (f_X5_readSum rc v) (pSum tp n one) := by
  intro s dl M hs hl hC
  have h120 := hT.1
  have hP := cs_prod hT hD hg hG
  have hPG : Gd n (pProd tp n one) := Gd_bin (by intro c hc; simp at hc; omega) hG
  obtain ⟨g1, g2, g3, -⟩ := hPG s hs
  obtain ⟨M2, f2, c2⟩ := hP s dl M hs hl hC
  obtain ⟨M4, f4, c4⟩ := cs_comesOf hT hD c2 g2 (a := 43) (b := 45) (c := 45) (by omega) (by omega) (by omega)
  obtain ⟨M6, f6, c6⟩ := cs_lpOf hT hD hP hPG (a := 43) (b := 45) (c := 45) (by omega) (by omega) (by omega) (L := fun m v2 v3 M => f_X5_readSum_L18 rc m v v2 v3 M) (fun m v2 v3 M => by rw [f_X5_readSum_L18]; rfl) 130 FU 0 (pProd tp n one s).1 (pProd tp n one s).2 M4 (by omega) (by unfold FU; omega) (by omega) g2 (by rw [List.length_append]; omega) c4
  refine ⟨M6, ?_, c6⟩
  unfold f_X5_readSum
  rw [f2, bd_s]
  have f4' : f_X5_comesOf 43 45 45 M2 = _ := f4
  rw [f4', bI_s]
  exact f6
theorem cs_cmp (hT : okTx tp n) (hD : okDE D E) {rc : Int32 → Mem → Option Mem} {v : Int32} {one : LwS → LwS × LwL} (hg : ClP tp n D E F (rc v) one) (hG : Gd n one) : ClP tp n D E F (f_X5_readCompared rc v) (pCmp tp n (pSum tp n one)) := by
  intro s dl M hs hl hC
  have h120 := hT.1
  have hP := cs_sum hT hD hg hG
  have hPG : Gd n (pSum tp n one) := Gd_bin (by intro c hc; simp at hc; omega) (Gd_bin (by intro c hc; simp at hc; omega) hG)
  obtain ⟨g1, g2, g3, -⟩ := hPG s hs
  obtain ⟨M2, f2, c2⟩ := hP s dl M hs hl hC
  obtain ⟨M4, f4, c4⟩ := cs_comesOf hT hD c2 g2 (a := 60) (b := 61) (c := 62) (by omega) (by omega) (by omega)
  unfold f_X5_readCompared
  rw [f2, bd_s]
  have f4' : f_X5_comesOf 60 61 62 M2 = _ := f4
  rw [f4', bI_s]
  unfold pCmp
  by_cases q : lch tp n (pSum tp n one s).1 ∈ [60, 61, 62]
  · simp only [q, if_true] at c4 ⊢
    simp only [List.mem_cons, List.not_mem_nil, or_false] at q
    have hm1 : ¬ nI (lch tp n (pSum tp n one s).1) = -1 := fun q => by
      have := congrArg Int32.toInt q
      rw [n_toInt (by omega)] at this
      have e : (-1 : Int32).toInt = -1 := rfl
      omega
    rw [if_neg hm1]
    obtain ⟨b1, -⟩ := lch_lt (tp := tp) (n := n) (s := (pSum tp n one s).1) (by omega)
    have e1 : (ladv (pSum tp n one s).1).1 = (pSum tp n one s).1.1 + 1 := rfl
    obtain ⟨k1, k2, k3, -⟩ := hPG (ladv (pSum tp n one s).1) (by omega)
    obtain ⟨M6, f6, c6⟩ := hP (ladv (pSum tp n one s).1) _ M4 (by omega) (by rw [List.length_append]; omega) c4
    obtain ⟨M8, f8, c8⟩ := cs_add hD c6 (by rw [List.length_append, List.length_append]; omega) (c := lch tp n (pSum tp n one s).1) (v := 0)
    refine ⟨M8, by rw [f6, bd_s, f8, bd_s], ?_⟩
    simp only [List.append_assoc] at c8 ⊢
    exact c8
  · simp only [q, if_false] at c4 ⊢
    exact ⟨M4, by simp, c4⟩
theorem cs_both (hT : okTx tp n) (hD : okDE D E) {rc : Int32 → Mem → Option Mem} {v : Int32} {one : LwS → LwS × LwL} (hg : ClP tp n D E F (rc v) one) (hG : Gd n one) : ClP tp n D E F (f_X5_readBoth rc v) (pBoth tp n one) := by
  intro s dl M hs hl hC
  have h120 := hT.1
  have hP := cs_cmp hT hD hg hG
  have hPG : Gd n (pCmp tp n (pSum tp n one)) := Gd_cmp (Gd_bin (by intro c hc; simp at hc; omega) (Gd_bin (by intro c hc; simp at hc; omega) hG))
  obtain ⟨g1, g2, g3, -⟩ := hPG s hs
  obtain ⟨M2, f2, c2⟩ := hP s dl M hs hl hC
  obtain ⟨M6, f6, c6⟩ := cs_lpC hT hD hP hPG (a := 38) (by omega) (L := fun m v2 M => f_X5_readBoth_L7 rc m v v2 M) (fun m v2 M => by rw [f_X5_readBoth_L7]; rfl) 130 FU 0 _ _ M2 (by omega) (by unfold FU; omega) (by omega) g2 (by rw [List.length_append]; omega) c2
  refine ⟨M6, ?_, c6⟩
  unfold f_X5_readBoth
  rw [f2, bd_s]
  exact f6
theorem cs_eith (hT : okTx tp n) (hD : okDE D E) {rc : Int32 → Mem → Option Mem} {v : Int32} {one : LwS → LwS × LwL} (hg : ClP tp n D E F (rc v) one) (hG : Gd n one) : ClP tp n D E F (f_X5_readEither rc v) (pEith tp n one) := by
  intro s dl M hs hl hC
  have h120 := hT.1
  have hP := cs_both hT hD hg hG
  have hPG : Gd n (pBoth tp n one) := Gd_bin (by intro c hc; simp at hc; omega) (Gd_cmp (Gd_bin (by intro c hc; simp at hc; omega) (Gd_bin (by intro c hc; simp at hc; omega) hG)))
  obtain ⟨g1, g2, g3, -⟩ := hPG s hs
  obtain ⟨M2, f2, c2⟩ := hP s dl M hs hl hC
  obtain ⟨M6, f6, c6⟩ := cs_lpC hT hD hP hPG (a := 124) (by omega) (L := fun m v2 M => f_X5_readEither_L7 rc m v v2 M) (fun m v2 M => by rw [f_X5_readEither_L7]; rfl) 130 FU 0 _ _ M2 (by omega) (by unfold FU; omega) (by omega) g2 (by rw [List.length_append]; omega) c2
  refine ⟨M6, ?_, c6⟩
  unfold f_X5_readEither
  rw [f2, bd_s]
  exact f6
theorem cs_one (hT : okTx tp n) (hD : okDE D E) : ∀ (d e : Nat), d ≤ 6 → ClP tp n D E F (f_X5_readOne (e + d + 1) (nI (6 - d))) (pOne tp n d) := by
  have h120 := hT.1
  intro d
  induction d with
  | zero =>
    intro e _ s dl M hs hl hC
    show ∃ M2, f_X5_readOne_o (fun v1 M => f_X5_readOne (e + 0) v1 M) (nI 6) M = some M2 ∧ _
    rw [pOne]
    unfold f_X5_readOne_o pOne0
    rw [cs_sign hT hC hs, bd_s, cs_digit (lch_b hT s), bd_s, ite_bb]
    by_cases q : 48 ≤ lch tp n s ∧ lch tp n s ≤ 57
    · rw [if_pos (by simpa using q), if_pos q]
      unfold f_X5_readNumber
      obtain ⟨M2, f2, c2⟩ := cs_number hT hD 4 FU 0 s 0 M (by omega) (by unfold FU; omega) hs (by omega) hC
      exact ⟨M2, by rw [show (0 : Int32) = nI 0 from rfl] at f2 ⊢; rw [f2]; rfl, c2⟩
    · rw [if_neg (by simpa using q), if_neg q, cs_name (lch_b hT s), bd_s]
      by_cases q2 : nmI (lch tp n s) < 5
      · have e2 : nmR (lch tp n s) = nI (nmI (lch tp n s)) := by unfold nmR; rw [if_pos q2]
        rw [e2, if_neg (nI_pos (by omega)), if_pos q2, lt_e, bd_s]
        obtain ⟨M2, f2, c2⟩ := cs_add hD (hC.adv hD) (by omega) (c := 97) (v := nI (nmI (lch tp n s)))
        exact ⟨M2, by rw [show (97 : Int32) = nI 97 from rfl, f2]; rfl, c2⟩
      · have e2 : nmR (lch tp n s) = -1 := by unfold nmR; rw [if_neg q2]
        rw [e2, if_pos (by decide), if_neg q2, if_pos (by decide)]
        unfold f_X5_readOne_b87 f_X5_readOne_b119 f_X5_readOne_b151
        rw [if_pos (by decide), if_pos (by decide)]
        obtain ⟨M2, f2, c2⟩ := cs_fail hT hD hC hs
        exact ⟨M2, by rw [f2]; rfl, by simpa using c2⟩
  | succ d ih =>
    intro e hd s dl M hs hl hC
    have ih := ih e (by omega)
    rw [show 6 - d = (6 - (d + 1)) + 1 by omega] at ih
    have hr : (nI (6 - (d + 1)) + 1) = nI ((6 - (d + 1)) + 1) := n_s1 _
    have h6 : ¬ (6 : Int32) ≤ nI (6 - (d + 1)) := fun q => by have := (n_le (a := 6) (by omega) (by omega)).mp q; omega
    show ∃ M2, f_X5_readOne_o (fun v1 M => f_X5_readOne (e + d + 1) v1 M) (nI (6 - (d + 1))) M = some M2 ∧ _
    rw [pOne]
    unfold f_X5_readOne_o pOne0
    rw [cs_sign hT hC hs, bd_s, cs_digit (lch_b hT s), bd_s, ite_bb]
    have e1 : (ladv s).1 = s.1 + 1 := rfl
    by_cases q : 48 ≤ lch tp n s ∧ lch tp n s ≤ 57
    · rw [if_pos (by simpa using q), if_pos q]
      unfold f_X5_readNumber
      obtain ⟨M2, f2, c2⟩ := cs_number hT hD 4 FU 0 s 0 M (by omega) (by unfold FU; omega) hs (by omega) hC
      exact ⟨M2, by rw [show (0 : Int32) = nI 0 from rfl] at f2 ⊢; rw [f2]; rfl, c2⟩
    · rw [if_neg (by simpa using q), if_neg q, cs_name (lch_b hT s), bd_s]
      by_cases q2 : nmI (lch tp n s) < 5
      · have e2 : nmR (lch tp n s) = nI (nmI (lch tp n s)) := by unfold nmR; rw [if_pos q2]
        rw [e2, if_neg (nI_pos (by omega)), if_pos q2, lt_e, bd_s]
        obtain ⟨M2, f2, c2⟩ := cs_add hD (hC.adv hD) (by omega) (c := 97) (v := nI (nmI (lch tp n s)))
        exact ⟨M2, by rw [show (97 : Int32) = nI 97 from rfl, f2]; rfl, c2⟩
      · have e2 : nmR (lch tp n s) = -1 := by unfold nmR; rw [if_neg q2]
        rw [e2, if_pos (by decide), if_neg q2, if_neg h6]
        obtain ⟨M2, f2, c2⟩ := cs_comes hT hD hC hs (k := 40) (by omega)
        rw [show (40 : Int32) = nI 40 from rfl, f2, bI_s, ite_bb]
        by_cases q3 : lch tp n s = 40
        · rw [if_pos (by simpa using q3), if_pos q3]
          rw [if_pos q3] at c2
          obtain ⟨b1, -⟩ := lch_lt (tp := tp) (n := n) (s := s) (by omega)
          have hE := cs_eith hT hD (rc := fun v1 M => f_X5_readOne (e + d + 1) v1 M) (v := nI (6 - (d + 1)) + 1) (by rw [hr]; exact ih) (Gd_one d)
          obtain ⟨M4, f4, c4⟩ := hE (ladv s) dl M2 (by omega) (by omega) c2
          obtain ⟨g1, g2, g3, -⟩ := Gd_eith (tp := tp) (n := n) (Gd_one (tp := tp) d) (ladv s) (by omega)
          obtain ⟨M6, f6, c6⟩ := cs_comes hT hD c4 g2 (k := 41) (by omega)
          rw [f4, bd_s, show (41 : Int32) = nI 41 from rfl, f6, bI_s, ite_bb]
          unfold pPar
          by_cases q4 : lch tp n (pEith tp n (pOne tp n d) (ladv s)).1 = 41
          · rw [if_pos (by simpa using q4), if_pos q4]
            rw [if_pos q4] at c6
            exact ⟨M6, rfl, c6⟩
          · rw [if_neg (by simpa using q4), if_neg q4]
            rw [if_neg q4] at c6
            obtain ⟨M8, f8, c8⟩ := cs_fail hT hD c6 g2
            exact ⟨M8, by rw [f8]; rfl, c8⟩
        · rw [if_neg (by simpa using q3), if_neg q3]
          rw [if_neg q3] at c2
          unfold f_X5_readOne_b87
          rw [if_neg h6]
          obtain ⟨M3, f3, c3⟩ := cs_comes hT hD c2 hs (k := 33) (by omega)
          rw [show (33 : Int32) = nI 33 from rfl, f3, bI_s, ite_bb]
          by_cases q4 : lch tp n s = 33
          · rw [if_pos (by simpa using q4), if_pos q4]
            rw [if_pos q4] at c3
            obtain ⟨b1, -⟩ := lch_lt (tp := tp) (n := n) (s := s) (by omega)
            obtain ⟨M4, f4, c4⟩ := ih (ladv s) dl M3 (by omega) (by omega) c3
            obtain ⟨g1, g2, g3, -⟩ := Gd_one (tp := tp) (n := n) d (ladv s) (by omega)
            obtain ⟨M5, f5, c5⟩ := cs_add hD c4 (by rw [List.length_append]; omega) (c := 33) (v := 0)
            refine ⟨M5, by simp only [hr, f4, bd_s, f5], ?_⟩
            simp only [List.append_assoc] at c5 ⊢
            exact c5
          · rw [if_neg (by simpa using q4), if_neg q4]
            rw [if_neg q4] at c3
            unfold f_X5_readOne_b119
            rw [if_neg h6]
            obtain ⟨M4, f4, c4⟩ := cs_comes hT hD c3 hs (k := 45) (by omega)
            rw [show (45 : Int32) = nI 45 from rfl, f4, bI_s, ite_bb]
            by_cases q5 : lch tp n s = 45
            · rw [if_pos (by simpa using q5), if_pos q5]
              rw [if_pos q5] at c4
              obtain ⟨b1, -⟩ := lch_lt (tp := tp) (n := n) (s := s) (by omega)
              obtain ⟨M5, f5, c5⟩ := ih (ladv s) dl M4 (by omega) (by omega) c4
              obtain ⟨g1, g2, g3, -⟩ := Gd_one (tp := tp) (n := n) d (ladv s) (by omega)
              obtain ⟨M6, f6, c6⟩ := cs_add hD c5 (by rw [List.length_append]; omega) (c := 126) (v := 0)
              have f6' : f_X5_addStep 126 0 M5 = some M6 := f6
              refine ⟨M6, by simp only [hr, f5, bd_s, f6'], ?_⟩
              simp only [List.append_assoc] at c6 ⊢
              exact c6
            · rw [if_neg (by simpa using q5), if_neg q5]
              rw [if_neg q5] at c4
              unfold f_X5_readOne_b151
              obtain ⟨M5, f5, c5⟩ := cs_fail hT hD c4 hs
              exact ⟨M5, by rw [f5]; rfl, by simpa using c5⟩
end CLAW2
