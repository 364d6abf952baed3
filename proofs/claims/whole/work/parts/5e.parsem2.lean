section MLAW2
variable {tp : Nat → Nat} {n : Nat} {bs : Bool} {nm : Nat → Int32} {d : Nat} {s : LwS} {M : Mem}
theorem lch_f (h : ¬ s.2 = none) : lch tp n s = 999 := by unfold lch; rw [if_neg (fun q => h q.1)]
theorem ms_prodL (hT : okTx tp n) {rc : Mem → Option (Int32 × Mem)} {sub : LwS → LwS × LwL} (hr : MoP tp n bs nm d rc sub) (hG : Gd n sub) (hV : OkV sub) : ∀ (k m : Nat) (s : LwS) (l : LwL) (v : Int32) (M : Mem), n < s.1 + k → k < m → s.1 ≤ n → (s.2 = none → v = vl nm l ∧ Vl nm l) → MSt tp n bs nm d s M → ∃ v2 M2, f_X11_product_L10 rc m v (nI (lby tp n s)) M = some (v2, M2) ∧ MSt tp n bs nm d (pLp tp n [42, 47, 37] sub k s l).1 M2 ∧ ((pLp tp n [42, 47, 37] sub k s l).1.2 = none → v2 = vl nm (pLp tp n [42, 47, 37] sub k s l).2)
  | 0, m, s, l, v, M, h1, h2, h3, hv, hC => by omega
  | k + 1, m, s, l, v, M, h1, h2, h3, hv, hC => by
    obtain ⟨m, rfl⟩ : ∃ m2, m = m2 + 1 := ⟨m - 1, by omega⟩
    rw [f_X11_product_L10, pLp]
    simp only [hC.fl hT]
    by_cases q : s.2 = none
    · rw [if_neg (by simpa using q)]
      have e1 : (nI (lby tp n s) = 42) = (lch tp n s = 42) := by_eq hT q (k := 42) (by omega) (by omega)
      have e2 : (nI (lby tp n s) = 47) = (lch tp n s = 47) := by_eq hT q (k := 47) (by omega) (by omega)
      have e3 : (nI (lby tp n s) = 37) = (lch tp n s = 37) := by_eq hT q (k := 37) (by omega) (by omega)
      simp only [e1, e2, e3]
      obtain ⟨hv1, hv2⟩ := hv q
      by_cases q1 : lch tp n s ∈ [42, 47, 37]
      · rw [if_pos q1]
        have q2 := q1
        simp only [List.mem_cons, List.not_mem_nil, or_false] at q2
        have e1s : (ladv s).1 = s.1 + 1 := rfl
        obtain ⟨b1, -⟩ := lch_lt (tp := tp) (n := n) (s := s) (by omega)
        obtain ⟨w, M3, f3, c3, w3⟩ := hr (ladv s) _ (by omega) hC.w15
        obtain ⟨g1, g2, -, -⟩ := hG (ladv s) (by omega)
        have key : f_X11_product_b35 rc (fun a0 a1 a2 => f_X11_product_L10 rc m a0 a1 a2) v (nI (lby tp n s)) M = f_X11_product_L10 rc m (jn (lch tp n s) v w) (nI (lby tp n (sub (ladv s)).1)) M3 := by
          unfold f_X11_product_b35
          rw [lt_e, f3, bI_s]
          simp only [e1, e2]
          unfold f_X11_product_b85
          rw [ms_byte hT c3 g2, bd_s, bd_s, bd_s, bd_s]
          unfold jn
          rcases q2 with q2 | q2 | q2
          · simp [q2]
          · by_cases q3 : w = 0 <;> simp [q2, q3]
          · by_cases q3 : w = 0 <;> simp [q2, q3]
        have key2 : (if lch tp n s = 42 then f_X11_product_b35 rc (fun a0 a1 a2 => f_X11_product_L10 rc m a0 a1 a2) v (nI (lby tp n s)) M else if lch tp n s = 47 then f_X11_product_b35 rc (fun a0 a1 a2 => f_X11_product_L10 rc m a0 a1 a2) v (nI (lby tp n s)) M else if lch tp n s = 37 then f_X11_product_b35 rc (fun a0 a1 a2 => f_X11_product_L10 rc m a0 a1 a2) v (nI (lby tp n s)) M else some (v, M)) = f_X11_product_b35 rc (fun a0 a1 a2 => f_X11_product_L10 rc m a0 a1 a2) v (nI (lby tp n s)) M := by
          rcases q2 with q2 | q2 | q2 <;> simp [q2]
        rw [key2, key]
        refine ms_prodL hT hr hG hV k m _ _ _ M3 (by omega) (by omega) g2 (fun q3 => ?_) c3
        have hop : opC (lch tp n s) := by unfold opC; omega
        have := Vl_bin hop hv2 ((hV _ q3).2 nm)
        rw [w3 q3, hv1]
        exact ⟨this.1.symm, this.2⟩
      · rw [if_neg q1]
        simp only [List.mem_cons, List.not_mem_nil, or_false, not_or] at q1
        rw [if_neg q1.1, if_neg q1.2.1, if_neg q1.2.2]
        exact ⟨v, M, rfl, hC, fun _ => hv1⟩
    · rw [if_pos q, lch_f q, if_neg (by simp)]
      exact ⟨v, M, rfl, hC, fun q2 => absurd q2 q⟩
theorem ms_prod (hT : okTx tp n) {rc : Mem → Option (Int32 × Mem)} {sub : LwS → LwS × LwL} (hr : MoP tp n bs nm d rc sub) (hG : Gd n sub) (hV : OkV sub) : MoP tp n bs nm d (f_X11_product rc) (pProd tp n sub) := by
  intro s M hs hC
  have h120 := hT.1
  obtain ⟨v, M2, f2, c2, v2⟩ := hr s M hs hC
  obtain ⟨g1, g2, -, -⟩ := hG s hs
  unfold f_X11_product
  rw [f2, bI_s, ms_byte hT c2 g2, bd_s]
  exact ms_prodL hT hr hG hV 130 FU _ _ v M2 (by omega) (by unfold FU; omega) g2 (fun q => ⟨v2 q, (hV _ q).2 nm⟩) c2
theorem ms_sumL (hT : okTx tp n) {rc : Mem → Option (Int32 × Mem)} {sub : LwS → LwS × LwL} (hr : MoP tp n bs nm d (f_X11_product rc) sub) (hG : Gd n sub) (hV : OkV sub) : ∀ (k m : Nat) (s : LwS) (l : LwL) (v : Int32) (M : Mem), n < s.1 + k → k < m → s.1 ≤ n → (s.2 = none → v = vl nm l ∧ Vl nm l) → MSt tp n bs nm d s M → ∃ v2 M2, f_X11_sums_L5 rc m v M = some (v2, M2) ∧ MSt tp n bs nm d (pLp tp n [43, 45, 45] sub k s l).1 M2 ∧ ((pLp tp n [43, 45, 45] sub k s l).1.2 = none → v2 = vl nm (pLp tp n [43, 45, 45] sub k s l).2)
  | 0, m, s, l, v, M, h1, h2, h3, hv, hC => by omega
  | k + 1, m, s, l, v, M, h1, h2, h3, hv, hC => by
    obtain ⟨m, rfl⟩ : ∃ m2, m = m2 + 1 := ⟨m - 1, by omega⟩
    rw [f_X11_sums_L5, pLp]
    simp only [hC.fl hT]
    by_cases q : s.2 = none
    · have e1 : (nI (lby tp n s) = 43) = (lch tp n s = 43) := by_eq hT q (k := 43) (by omega) (by omega)
      have e2 : (nI (lby tp n s) = 45) = (lch tp n s = 45) := by_eq hT q (k := 45) (by omega) (by omega)
      rw [if_neg (by simpa using q), ms_byte hT hC h3, bd_s, bd_s]
      simp only [e1, e2]
      obtain ⟨hv1, hv2⟩ := hv q
      by_cases q1 : lch tp n s ∈ [43, 45, 45]
      · rw [if_pos q1]
        have q2 := q1
        simp only [List.mem_cons, List.not_mem_nil, or_false] at q2
        have e1s : (ladv s).1 = s.1 + 1 := rfl
        obtain ⟨b1, -⟩ := lch_lt (tp := tp) (n := n) (s := s) (by omega)
        obtain ⟨w, M3, f3, c3, w3⟩ := hr (ladv s) _ (by omega) hC.w15
        obtain ⟨g1, g2, -, -⟩ := hG (ladv s) (by omega)
        have key : f_X11_sums_b30 rc (fun a0 a1 => f_X11_sums_L5 rc m a0 a1) v M = f_X11_sums_L5 rc m (jn (lch tp n s) v w) M3 := by
          unfold f_X11_sums_b30
          rw [ms_byte hT hC h3, bd_s]
          simp only [e1]
          unfold f_X11_sums_b44 f_X11_sums_b73
          rw [lt_e, f3, bI_s]
          unfold jn
          rcases q2 with q2 | q2 | q2
          · simp [q2, lt_e, f3, bI_s]
          · simp [q2, lt_e, f3, bI_s]
          · simp [q2, lt_e, f3, bI_s]
        have key2 : (if lch tp n s = 43 then f_X11_sums_b30 rc (fun a0 a1 => f_X11_sums_L5 rc m a0 a1) v M else if lch tp n s = 45 then f_X11_sums_b30 rc (fun a0 a1 => f_X11_sums_L5 rc m a0 a1) v M else some (v, M)) = f_X11_sums_b30 rc (fun a0 a1 => f_X11_sums_L5 rc m a0 a1) v M := by
          rcases q2 with q2 | q2 | q2 <;> simp [q2]
        rw [key2, key]
        refine ms_sumL hT hr hG hV k m _ _ _ M3 (by omega) (by omega) g2 (fun q3 => ?_) c3
        have hop : opC (lch tp n s) := by unfold opC; omega
        have := Vl_bin hop hv2 ((hV _ q3).2 nm)
        rw [w3 q3, hv1]
        exact ⟨this.1.symm, this.2⟩
      · rw [if_neg q1]
        simp only [List.mem_cons, List.not_mem_nil, or_false, not_or] at q1
        rw [if_neg q1.1, if_neg q1.2.1]
        exact ⟨v, M, rfl, hC, fun _ => hv1⟩
    · rw [if_pos q, lch_f q, if_neg (by simp)]
      exact ⟨v, M, rfl, hC, fun q2 => absurd q2 q⟩
theorem ms_sum (hT : okTx tp n) {rc : Mem → Option (Int32 × Mem)} {one : LwS → LwS × LwL} (hr : MoP tp n bs nm d rc one) (hG : Gd n one) (hV : OkV one) : MoP tp n bs nm d (f_X11_sums rc) (pSum tp n one) := by
  intro s M hs hC
  have h120 := hT.1
  have hP := ms_prod hT hr hG hV
  have hPG : Gd n (pProd tp n one) := Gd_bin (by intro c hc; simp at hc; omega) hG
  have hPV : OkV (pProd tp n one) := OkV_bin (opC_m rfl) hV
  obtain ⟨v, M2, f2, c2, v2⟩ := hP s M hs hC
  obtain ⟨g1, g2, -, -⟩ := hPG s hs
  unfold f_X11_sums
  rw [f2, bI_s]
  exact ms_sumL hT hP hPG hPV 130 FU _ _ v M2 (by omega) (by unfold FU; omega) g2 (fun q => ⟨v2 q, (hPV _ q).2 nm⟩) c2
theorem ms_cmp (hT : okTx tp n) {rc : Mem → Option (Int32 × Mem)} {one : LwS → LwS × LwL} (hr : MoP tp n bs nm d rc one) (hG : Gd n one) (hV : OkV one) : MoP tp n bs nm d (f_X11_compared rc) (pCmp tp n (pSum tp n one)) := by
  intro s M hs hC
  have h120 := hT.1
  have hP := ms_sum hT hr hG hV
  have hPG : Gd n (pSum tp n one) := Gd_bin (by intro c hc; simp at hc; omega) (Gd_bin (by intro c hc; simp at hc; omega) hG)
  have hPV : OkV (pSum tp n one) := OkV_bin (opC_m rfl) (OkV_bin (opC_m rfl) hV)
  obtain ⟨v, M2, f2, c2, v2⟩ := hP s M hs hC
  obtain ⟨g1, g2, -, -⟩ := hPG s hs
  unfold f_X11_compared pCmp
  rw [f2, bI_s, ms_byte hT c2 g2, bd_s]
  generalize pSum tp n one = S at *
  simp only [c2.fl hT]
  by_cases q : (S s).1.2 = none
  · have e1 : (nI (lby tp n (S s).1) = 60) = (lch tp n (S s).1 = 60) := by_eq hT q (k := 60) (by omega) (by omega)
    have e2 : (nI (lby tp n (S s).1) = 61) = (lch tp n (S s).1 = 61) := by_eq hT q (k := 61) (by omega) (by omega)
    have e3 : (nI (lby tp n (S s).1) = 62) = (lch tp n (S s).1 = 62) := by_eq hT q (k := 62) (by omega) (by omega)
    rw [if_neg (by simpa using q)]
    simp only [e1, e2, e3]
    have hv2 := (hPV _ q).2 nm
    by_cases q1 : lch tp n (S s).1 ∈ [60, 61, 62]
    · rw [if_pos q1]
      have q2 := q1
      simp only [List.mem_cons, List.not_mem_nil, or_false] at q2
      have e1s : (ladv (S s).1).1 = (S s).1.1 + 1 := rfl
      obtain ⟨b1, -⟩ := lch_lt (tp := tp) (n := n) (s := (S s).1) (by omega)
      obtain ⟨w, M3, f3, c3, w3⟩ := hP (ladv (S s).1) _ (by omega) c2.w15
      have key : f_X11_compared_b37 rc v (nI (lby tp n (S s).1)) M2 = some (jn (lch tp n (S s).1) v w, M3) := by
        unfold f_X11_compared_b37 f_X11_compared_b85
        rw [lt_e, f3, bI_s]
        simp only [e1, e2]
        unfold jn
        rcases q2 with q2 | q2 | q2
        · by_cases q3 : w ≤ v <;> simp [q2, q3]
        · by_cases q3 : v = w <;> simp [q2, q3]
        · by_cases q3 : v ≤ w <;> simp [q2, q3]
      have key2 : (if lch tp n (S s).1 = 60 then f_X11_compared_b37 rc v (nI (lby tp n (S s).1)) M2 else if lch tp n (S s).1 = 61 then f_X11_compared_b37 rc v (nI (lby tp n (S s).1)) M2 else if lch tp n (S s).1 = 62 then f_X11_compared_b37 rc v (nI (lby tp n (S s).1)) M2 else some (v, M2)) = f_X11_compared_b37 rc v (nI (lby tp n (S s).1)) M2 := by
        rcases q2 with q2 | q2 | q2 <;> simp [q2]
      rw [key2, key]
      refine ⟨_, M3, rfl, c3, fun q3 => ?_⟩
      have hop : opC (lch tp n (S s).1) := by unfold opC; omega
      have := Vl_bin hop hv2 ((hPV _ q3).2 nm)
      rw [w3 q3, v2 q]
      exact this.1.symm
    · rw [if_neg q1]
      simp only [List.mem_cons, List.not_mem_nil, or_false, not_or] at q1
      rw [if_neg q1.1, if_neg q1.2.1, if_neg q1.2.2]
      exact ⟨v, M2, rfl, c2, v2⟩
  · rw [if_pos q, lch_f q, if_neg (by simp)]
    exact ⟨v, M2, rfl, c2, v2⟩
theorem ms_lpT (hT : okTx tp n) {g : Mem → Option (Int32 × Mem)} {sub : LwS → LwS × LwL} (hr : MoP tp n bs nm d g sub) (hG : Gd n sub) (hV : OkV sub) {a : Nat} (ha : a ≤ 255) (hop : opC a) (ha0 : a ≠ 0) {L : Nat → Int32 → Mem → Option (Int32 × Mem)} (hL : ∀ (m : Nat) (v : Int32) (M : Mem), L (m + 1) v M = bI (f_X11_takes (nI a) M) fun x1 M2 => (if x1 = 0 then (some (v, M2)) else bI (g M2) fun x3 M4 => L m (jn a v x3) M4)) : ∀ (k m : Nat) (s : LwS) (l : LwL) (v : Int32) (M : Mem), n < s.1 + k → k < m → s.1 ≤ n → (s.2 = none → v = vl nm l ∧ Vl nm l) → MSt tp n bs nm d s M → ∃ v2 M2, L m v M = some (v2, M2) ∧ MSt tp n bs nm d (pLp tp n [a] sub k s l).1 M2 ∧ ((pLp tp n [a] sub k s l).1.2 = none → v2 = vl nm (pLp tp n [a] sub k s l).2)
  | 0, m, s, l, v, M, h1, h2, h3, hv, hC => by omega
  | k + 1, m, s, l, v, M, h1, h2, h3, hv, hC => by
    obtain ⟨m, rfl⟩ : ∃ m2, m = m2 + 1 := ⟨m - 1, by omega⟩
    obtain ⟨M2, f2, c2⟩ := ms_takes hT hC h3 ha ha0
    rw [hL, pLp, f2, bI_s, ite_bb]
    by_cases q1 : lch tp n s = a
    · rw [if_pos (by simpa using q1)]
      rw [if_pos q1] at c2
      rw [if_pos (by rw [q1]; simp)]
      obtain ⟨b1, b2⟩ := lch_lt (tp := tp) (n := n) (s := s) (by omega)
      have e1s : (ladv s).1 = s.1 + 1 := rfl
      obtain ⟨w, M3, f3, c3, w3⟩ := hr (ladv s) _ (by omega) c2
      obtain ⟨g1, g2, -, -⟩ := hG (ladv s) (by omega)
      obtain ⟨hv1, hv2⟩ := hv b2
      rw [f3, bI_s]
      refine ms_lpT hT hr hG hV ha hop ha0 hL k m _ _ _ M3 (by omega) (by omega) g2 (fun q3 => ?_) c3
      rw [q1]
      have := Vl_bin hop hv2 ((hV _ q3).2 nm)
      rw [w3 q3, hv1]
      exact ⟨this.1.symm, this.2⟩
    · rw [if_neg (by simpa using q1)]
      rw [if_neg q1] at c2
      rw [if_neg (by simpa using q1)]
      exact ⟨v, M2, rfl, c2, fun q2 => (hv q2).1⟩
theorem ms_both (hT : okTx tp n) {rc : Mem → Option (Int32 × Mem)} {one : LwS → LwS × LwL} (hr : MoP tp n bs nm d rc one) (hG : Gd n one) (hV : OkV one) : MoP tp n bs nm d (f_X11_both rc) (pBoth tp n one) := by
  intro s M hs hC
  have h120 := hT.1
  have hP := ms_cmp hT hr hG hV
  have hPG : Gd n (pCmp tp n (pSum tp n one)) := Gd_cmp (Gd_bin (by intro c hc; simp at hc; omega) (Gd_bin (by intro c hc; simp at hc; omega) hG))
  have hPV : OkV (pCmp tp n (pSum tp n one)) := OkV_cmp (OkV_bin (opC_m rfl) (OkV_bin (opC_m rfl) hV))
  obtain ⟨v, M2, f2, c2, v2⟩ := hP s M hs hC
  obtain ⟨g1, g2, -, -⟩ := hPG s hs
  unfold f_X11_both
  rw [f2, bI_s]
  refine ms_lpT hT hP hPG hPV (a := 38) (by omega) (by unfold opC; omega) (by omega) (L := fun m v M => f_X11_both_L5 rc m v M) (fun m v M => ?_) 130 FU _ _ v M2 (by omega) (by unfold FU; omega) g2 (fun q => ⟨v2 q, (hPV _ q).2 nm⟩) c2
  show f_X11_both_L5 rc (m + 1) v M = _
  rw [f_X11_both_L5]
  unfold f_X11_both_b31 f_X11_both_b32
  congr 1
  funext x1 M2
  split
  · rfl
  · congr 1
    funext x3 M4
    unfold jn
    by_cases q : v = 0
    · simp [q]
    · by_cases q2 : x3 = 0 <;> simp [q, q2]
theorem ms_eith (hT : okTx tp n) {rc : Mem → Option (Int32 × Mem)} {one : LwS → LwS × LwL} (hr : MoP tp n bs nm d rc one) (hG : Gd n one) (hV : OkV one) : MoP tp n bs nm d (f_X11_either rc) (pEith tp n one) := by
  intro s M hs hC
  have h120 := hT.1
  have hP := ms_both hT hr hG hV
  have hPG : Gd n (pBoth tp n one) := Gd_bin (by intro c hc; simp at hc; omega) (Gd_cmp (Gd_bin (by intro c hc; simp at hc; omega) (Gd_bin (by intro c hc; simp at hc; omega) hG)))
  have hPV : OkV (pBoth tp n one) := OkV_bin (opC_m rfl) (OkV_cmp (OkV_bin (opC_m rfl) (OkV_bin (opC_m rfl) hV)))
  obtain ⟨v, M2, f2, c2, v2⟩ := hP s M hs hC
  obtain ⟨g1, g2, -, -⟩ := hPG s hs
  unfold f_X11_either
  rw [f2, bI_s]
  refine ms_lpT hT hP hPG hPV (a := 124) (by omega) (by unfold opC; omega) (by omega) (L := fun m v M => f_X11_either_L5 rc m v M) (fun m v M => ?_) 130 FU _ _ v M2 (by omega) (by unfold FU; omega) g2 (fun q => ⟨v2 q, (hPV _ q).2 nm⟩) c2
  show f_X11_either_L5 rc (m + 1) v M = _
  rw [f_X11_either_L5]
  unfold f_X11_either_b27 f_X11_either_b32
  congr 1
  funext x1 M2
  split
  · rfl
  · congr 1
    funext x3 M4
    unfold jn
    by_cases q : v = 0
    · by_cases q2 : x3 = 0 <;> simp [q, q2]
    · simp [q]
end MLAW2
