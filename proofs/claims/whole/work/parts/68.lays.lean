/-! orders: all laid -/
def extP (n : Nat) (ab : Nat → Nat) (r S : Nat) : Nat → Nat → List (List Nat)
  | 0, _ => []
  | q + 1, p => (if fl ab S p = true then (ext n ab r (S ||| 2 ^ p)).map (fun l => p :: l) else []) ++ extP n ab r S q (p + 1)
theorem extP_r (n : Nat) (ab : Nat → Nat) (r S : Nat) : ∀ q p, ((List.range' p q).filter (fl ab S)).flatMap (fun p => (ext n ab r (S ||| 2 ^ p)).map (fun l => p :: l)) = extP n ab r S q p
  | 0, _ => rfl
  | q + 1, p => by
    rw [List.range'_succ, List.filter_cons, extP, ← extP_r n ab r S q (p + 1)]
    by_cases c : fl ab S p = true
    · rw [if_pos c, if_pos c, List.flatMap_cons]
    · rw [if_neg c, if_neg c, List.nil_append]
theorem ext_P (n : Nat) (ab : Nat → Nat) (r S : Nat) : ext n ab (r + 1) S = extP n ab r S n 0 := by
  rw [← extP_r, ext, List.range_eq_range']
section LAY
variable {n : Nat} {ab : Nat → Nat} {w : Bool} {kn ak : Nat} {g : Bool} {M : Mem}
theorem GS_c {L : List (List Nat)} {M1 : Mem} (h : ∀ c, c ≠ 57 → c ≠ 58 → M1.1 c = M.1 c) (hG : GS n w kn ak g L M) : GS n w kn ak g L M1 := by
  obtain ⟨g1, g2, g3, g4, g5, g6, g7, g8, g9, g10⟩ := hG
  have h47 := h 47 (by omega) (by omega)
  have h59 := h 59 (by omega) (by omega)
  have h60 := h 60 (by omega) (by omega)
  have h61 := h 61 (by omega) (by omega)
  have h62 := h 62 (by omega) (by omega)
  have h63 := h 63 (by omega) (by omega)
  have h64 := h 64 (by omega) (by omega)
  refine ⟨by rw [h47]; exact g1, by rw [h47]; exact g2, by rw [h47]; exact g3, by rw [h47]; exact g4, by rw [h47]; exact g5, by rw [h59]; exact g6, by rw [h60]; exact g7, by rw [h61]; exact g8, by rw [h62, h47]; exact g9, by rw [h63, h64]; exact g10⟩
theorem oL_app1 {pre : List Nat} {p k : Nat} (h : pre.length = k) : oL (pre ++ [p]) k = p := by
  unfold oL
  rw [List.getD_eq_getElem?_getD, ← h]
  simp
theorem oL_app2 {pre l : List Nat} {j : Nat} (h : j < pre.length) : oL (pre ++ l) j = oL pre j := by
  unfold oL
  rw [List.getD_eq_getElem?_getD, List.getD_eq_getElem?_getD, List.getElem?_append_left h]
theorem mo_lays (hA : okA n ab) (hQ : (w = true ∨ g = true) → okQ n kn ak) (hgw : g = true → w = true) {B : Nat} (hgn : g = true → n ≤ 4 ∧ B ≤ 24) (hB : B < 2147483647) : ∀ (r k S e : Nat) (pre : List Nat) (L : List (List Nat)) (M : Mem), k + r = n → pre.length = k → (∀ p ∈ pre, p < n) → vld ab 0 pre = true → st 0 pre = S → L.length + (ext n ab r S).length ≤ B → (∀ l ∈ L, okL3 n l) → GS n w kn ak g L M → (∀ p, p < 8 → M.1 57 p = nI (ab p)) → (∀ j, j < k → M.1 58 j = nI (oL pre j)) → ∃ M1, f_X11_laysFrom (e + r + 1) (nI k) (nI S) M = some M1 ∧ GS n w kn ak g (L ++ (ext n ab r S).map (fun l => pre ++ l)) M1 ∧ (∀ p, p < 8 → M1.1 57 p = nI (ab p)) ∧ (∀ j, j < k → M1.1 58 j = nI (oL pre j)) := by
  have h8 := hA.1
  have h256 := pow_n hA.1
  intro r
  induction r with
  | zero =>
    intro k S e pre L M hk hl h1 h2 h3 hLB hLo hG h57 h58
    have hkn : k = n := by omega
    subst hkn
    have hm : pre ∈ ext k ab k 0 := (mem_ext k ab k 0 pre).mpr ⟨hl, h1, h2⟩
    have hB1 : L.length + 1 ≤ B := hLB
    obtain ⟨M1, f1, c1, d1, d2⟩ := mo_takesIn h8 hQ hgw (fun hg => ⟨(hgn hg).1, by have := (hgn hg).2; omega⟩) (by omega) hLo (ext_ok h8 hm) hG h58
    show ∃ M1, f_X11_laysFrom_o (fun v1 v2 M => f_X11_laysFrom (e + 0) v1 v2 M) (nI k) (nI S) M = some M1 ∧ _
    unfold f_X11_laysFrom_o
    rw [hG.1, if_pos rfl, f1, bd_s]
    refine ⟨M1, rfl, ?_, fun p hp => by rw [d2]; exact h57 p hp, fun j hj => by rw [d1]; exact h58 j hj⟩
    simpa [ext] using c1
  | succ r ih =>
    intro k S e pre L M hk hl h1 h2 h3 hLB hLo hG h57 h58
    have hS : S < 2 ^ n := by rw [← h3]; exact (pop_st n ab h8 pre 0 (Nat.two_pow_pos n) h1 h2).1
    show ∃ M1, f_X11_laysFrom_o (fun v1 v2 M => f_X11_laysFrom (e + r + 1) v1 v2 M) (nI k) (nI S) M = some M1 ∧ _
    unfold f_X11_laysFrom_o
    rw [hG.1, if_neg (by rw [n_eq (by omega) (by omega)]; omega)]
    have loop : ∀ (q p m : Nat) (L : List (List Nat)) (M : Mem), p + q = n → q < m → L.length + (extP n ab r S q p).length ≤ B → (∀ l ∈ L, okL3 n l) → GS n w kn ak g L M → (∀ p, p < 8 → M.1 57 p = nI (ab p)) → (∀ j, j < k → M.1 58 j = nI (oL pre j)) → ∃ M1, f_X11_laysFrom_L15 (fun v1 v2 M => f_X11_laysFrom (e + r + 1) v1 v2 M) m (nI k) (nI S) (nI p) M = some M1 ∧ GS n w kn ak g (L ++ (extP n ab r S q p).map (fun l => pre ++ l)) M1 ∧ (∀ p, p < 8 → M1.1 57 p = nI (ab p)) ∧ (∀ j, j < k → M1.1 58 j = nI (oL pre j)) := by
      intro q
      induction q with
      | zero =>
        intro p m L M hp hm hLB hLo hG h57 h58
        obtain ⟨m, rfl⟩ : ∃ m2, m = m2 + 1 := ⟨m - 1, by omega⟩
        rw [f_X11_laysFrom_L15, hG.1, if_pos ((n_le (by omega) (by omega)).mpr (by omega))]
        exact ⟨M, rfl, by simpa [extP] using hG, h57, h58⟩
      | succ q ihq =>
        intro p m L M hp hm hLB hLo hG h57 h58
        obtain ⟨m, rfl⟩ : ∃ m2, m = m2 + 1 := ⟨m - 1, by omega⟩
        have ha := hA.2 p
        rw [extP] at hLB
        rw [f_X11_laysFrom_L15, hG.1, if_neg (by rw [n_le (by omega) (by omega)]; omega), n_b1 (by omega) (by omega), ck_t (okI_57 (by omega)), n_clamp (by omega), h57 p (by omega), extP]
        simp only [bb_0, n_sub0 (show ab p < 2147483648 by omega)]
        unfold f_X11_laysFrom_b63
        simp only [n_s1]
        by_cases c : fl ab S p = true
        · have c2 := c
          simp only [fl, Bool.and_eq_true, Bool.not_eq_true', decide_eq_true_eq] at c2
          rw [if_pos c] at hLB ⊢
          rw [if_pos c2.1, if_pos c2.2, ck_t (okI_58 (by omega)), lt_e, n_clamp (by omega), n_shl1 p (by omega), n_or]
          rw [List.length_append, List.length_map] at hLB
          have hp2 : p < n := by omega
          obtain ⟨M3, f3, c3, d3, e3⟩ := ih (k + 1) (S ||| 2 ^ p) e (pre ++ [p]) L (wI M 58 k (nI p)) (by omega) (by simp [hl]) (fun x hx => by
            rcases List.mem_append.mp hx with hx | hx
            · exact h1 x hx
            · rw [List.mem_singleton.mp hx]; exact hp2) (by rw [vld_app, h2, h3]; simp [vld, c]) (by rw [st_app, h3]; rfl) (by omega) hLo (GS_c (fun c hc1 hc2 => ab_wI_o hc2) hG) (fun x hx => by rw [ab_wI_o (by omega)]; exact h57 x hx) (fun j hj => by
            rw [wI_rd]
            by_cases q2 : j = k
            · rw [if_pos ⟨rfl, q2⟩, q2, oL_app1 hl]
            · rw [if_neg (fun h => q2 h.2), oL_app2 (by omega)]
              exact h58 j (by omega))
          rw [f3, bd_s]
          have hmap : (ext n ab r (S ||| 2 ^ p)).map (fun l => pre ++ [p] ++ l) = ((ext n ab r (S ||| 2 ^ p)).map (fun l => p :: l)).map (fun l => pre ++ l) := by
            rw [List.map_map]
            congr 1
            funext l
            simp
          rw [hmap] at c3
          obtain ⟨M4, f4, c4, d4, e4⟩ := ihq (p + 1) m (L ++ ((ext n ab r (S ||| 2 ^ p)).map (fun l => p :: l)).map (fun l => pre ++ l)) M3 (by omega) (by omega) (by rw [List.length_append, List.length_map, List.length_map]; omega) (fun l hl2 => by
            rcases List.mem_append.mp hl2 with hl2 | hl2
            · exact hLo l hl2
            · obtain ⟨l2, hl3, rfl⟩ := List.mem_map.mp hl2
              obtain ⟨l4, hl5, rfl⟩ := List.mem_map.mp hl3
              obtain ⟨a1, a2, a3⟩ := (mem_ext n ab _ _ l4).mp hl5
              refine ext_ok h8 (ab := ab) ((mem_ext n ab n 0 _).mpr ⟨by simp; omega, fun x hx => ?_, ?_⟩)
              · rcases List.mem_append.mp hx with hx | hx
                · exact h1 x hx
                · rcases List.mem_cons.mp hx with hx | hx
                  · rw [hx]; exact hp2
                  · exact a2 x hx
              · rw [vld_app, h2, h3]; simp [vld, c, a3]) c3 d3 (fun j hj => by rw [e3 j (by omega), oL_app2 (by omega)])
          refine ⟨M4, f4, ?_, d4, e4⟩
          rw [List.map_append, ← List.append_assoc]
          exact c4
        · rw [if_neg c] at hLB ⊢
          rw [List.nil_append] at hLB ⊢
          have hc2 : ¬ (S.testBit p = false ∧ ab p &&& S = ab p) := fun h => c (by simp [fl, h.1, h.2])
          have hn := ihq (p + 1) m L M (by omega) (by omega) hLB hLo hG h57 h58
          by_cases q1 : S.testBit p = false
          · rw [if_pos q1, if_neg (fun h => hc2 ⟨q1, h⟩)]; exact hn
          · rw [if_neg q1]; exact hn
    rw [ext_P] at hLB ⊢
    exact loop n 0 FU L M (by omega) (by unfold FU; omega) hLB hLo hG h57 h58
theorem clr62 : ∀ (r c m : Nat) (M : Mem), c + r = 256 → r < m → (∀ i, i < c → M.1 62 i = 0) → ∃ M1, f_X11_goesThrough_L28 m (nI c) M = f_X11_goesThrough_L53 FU 0 M1 ∧ (∀ i, i < 256 → M1.1 62 i = 0) ∧ ∀ c, c ≠ 62 → M1.1 c = M.1 c
  | 0, c, m, M, h, hm, h0 => by
    obtain ⟨m, rfl⟩ : ∃ m2, m = m2 + 1 := ⟨m - 1, by omega⟩
    rw [f_X11_goesThrough_L28, if_pos (by rw [show (256 : Int32) = nI 256 from rfl, n_le (by omega) (by omega)]; omega)]
    exact ⟨M, rfl, fun i hi => h0 i (by omega), fun _ _ => rfl⟩
  | r + 1, c, m, M, h, hm, h0 => by
    obtain ⟨m, rfl⟩ : ∃ m2, m = m2 + 1 := ⟨m - 1, by omega⟩
    rw [f_X11_goesThrough_L28, if_neg (by rw [show (256 : Int32) = nI 256 from rfl, n_le (by omega) (by omega)]; omega), ck_t (okZ_62 (by omega)), lt_e, n_clamp (by omega), n_s1]
    obtain ⟨M1, f1, c1, d1⟩ := clr62 r (c + 1) m (wI M 62 c 0) (by omega) (by omega) (fun i hi => by
      rw [wI_rd]
      by_cases e : i = c
      · rw [if_pos ⟨rfl, e⟩]
      · rw [if_neg (fun h => e h.2)]; exact h0 i (by omega))
    exact ⟨M1, f1, c1, fun c hc => by rw [d1 c hc]; exact ab_wI_o hc⟩
theorem clr60 : ∀ (r c m : Nat) (M : Mem), c + r = 8 → r < m → (∀ i, i < c → M.1 60 i = 0) → ∃ M1, f_X11_goesThrough_L53 m (nI c) M = f_X11_goesThrough_L77 FU 0 M1 ∧ (∀ i, i < 8 → M1.1 60 i = 0) ∧ ∀ c, c ≠ 60 → M1.1 c = M.1 c
  | 0, c, m, M, h, hm, h0 => by
    obtain ⟨m, rfl⟩ : ∃ m2, m = m2 + 1 := ⟨m - 1, by omega⟩
    rw [f_X11_goesThrough_L53, if_pos (by rw [show (8 : Int32) = nI 8 from rfl, n_le (by omega) (by omega)]; omega)]
    exact ⟨M, rfl, fun i hi => h0 i (by omega), fun _ _ => rfl⟩
  | r + 1, c, m, M, h, hm, h0 => by
    obtain ⟨m, rfl⟩ : ∃ m2, m = m2 + 1 := ⟨m - 1, by omega⟩
    rw [f_X11_goesThrough_L53, if_neg (by rw [show (8 : Int32) = nI 8 from rfl, n_le (by omega) (by omega)]; omega), ck_t (okI_60 (by omega)), lt_e, n_clamp (by omega), n_s1]
    obtain ⟨M1, f1, c1, d1⟩ := clr60 r (c + 1) m (wI M 60 c 0) (by omega) (by omega) (fun i hi => by
      rw [wI_rd]
      by_cases e : i = c
      · rw [if_pos ⟨rfl, e⟩]
      · rw [if_neg (fun h => e h.2)]; exact h0 i (by omega))
    exact ⟨M1, f1, c1, fun c hc => by rw [d1 c hc]; exact ab_wI_o hc⟩
def goEnd (M : Mem) : Option Mem := (f_X11_laysFrom FD (0 : Int32) (0 : Int32) M).bind fun M2 => (if (M2.1 47 28) = (4 : Int32) then f_X11_goesThrough_b124 (M2.1 47 22) M2 else f_X11_goesThrough_b124 (M2.1 47 27) M2)
theorem clr61 : ∀ (r c m : Nat) (M : Mem), c + r = 64 → r < m → (∀ i, i < c → M.1 61 i = 0) → ∃ M1, f_X11_goesThrough_L77 m (nI c) M = goEnd M1 ∧ (∀ i, i < 64 → M1.1 61 i = 0) ∧ ∀ c, c ≠ 61 → M1.1 c = M.1 c
  | 0, c, m, M, h, hm, h0 => by
    obtain ⟨m, rfl⟩ : ∃ m2, m = m2 + 1 := ⟨m - 1, by omega⟩
    rw [f_X11_goesThrough_L77, if_pos (by rw [show (64 : Int32) = nI 64 from rfl, n_le (by omega) (by omega)]; omega)]
    exact ⟨M, rfl, fun i hi => h0 i (by omega), fun _ _ => rfl⟩
  | r + 1, c, m, M, h, hm, h0 => by
    obtain ⟨m, rfl⟩ : ∃ m2, m = m2 + 1 := ⟨m - 1, by omega⟩
    rw [f_X11_goesThrough_L77, if_neg (by rw [show (64 : Int32) = nI 64 from rfl, n_le (by omega) (by omega)]; omega), ck_t (okI_61 (by omega)), lt_e, n_clamp (by omega), n_s1]
    obtain ⟨M1, f1, c1, d1⟩ := clr61 r (c + 1) m (wI M 61 c 0) (by omega) (by omega) (fun i hi => by
      rw [wI_rd]
      by_cases e : i = c
      · rw [if_pos ⟨rfl, e⟩]
      · rw [if_neg (fun h => e h.2)]; exact h0 i (by omega))
    exact ⟨M1, f1, c1, fun c hc => by rw [d1 c hc]; exact ab_wI_o hc⟩
theorem ext_len (n : Nat) (ab : Nat → Nat) (d S : Nat) : (ext n ab (d + 1) S).length = su (fun p => if fl ab S p = true then (ext n ab d (S ||| 2 ^ p)).length else 0) n 0 := by
  rw [ext_P]
  have key : ∀ q p, (extP n ab d S q p).length = su (fun p => if fl ab S p = true then (ext n ab d (S ||| 2 ^ p)).length else 0) q p := by
    intro q
    induction q with
    | zero => intro p; rfl
    | succ q ih =>
      intro p
      rw [extP, List.length_append, ih, su]
      congr 1
      split <;> simp
  exact key n 0
theorem su_mono {g h : Nat → Nat} : ∀ k j, (∀ i, j ≤ i → i < j + k → g i ≤ h i) → su g k j ≤ su h k j
  | 0, _, _ => Nat.le_refl _
  | k + 1, j, e => by
    have h1 := e j (by omega) (by omega)
    have h2 := su_mono k (j + 1) (fun i a b => e i (by omega) (by omega)) (g := g) (h := h)
    rw [su, su]; omega
theorem ext_mono (n : Nat) (ab : Nat → Nat) : ∀ d S, (ext n ab d S).length ≤ (ext n (fun _ => 0) d S).length
  | 0, _ => Nat.le_refl _
  | d + 1, S => by
    rw [ext_len, ext_len]
    refine su_mono n 0 (fun p _ _ => ?_)
    by_cases c : fl ab S p = true
    · have : fl (fun _ => 0) S p = true := by simp only [fl, Bool.and_eq_true] at c ⊢; exact ⟨c.1, by simp⟩
      rw [if_pos c, if_pos this]
      exact ext_mono n ab d _
    · rw [if_neg c]; exact Nat.zero_le _
theorem ext_24 {n : Nat} (hn : n ≤ 4) (ab : Nat → Nat) : (ext n ab n 0).length ≤ 24 := by
  have h1 := ext_mono n ab n 0
  have h2 : ∀ n, n < 5 → (ext n (fun _ => 0) n 0).length ≤ 24 := by decide +kernel
  exact Nat.le_trans h1 (h2 n (by omega))
theorem ext_big {n : Nat} (hn : n ≤ 8) (ab : Nat → Nat) : (ext n ab n 0).length ≤ 16777216 := by
  rw [← way_all n ab hn]
  exact way_le n ab hn (by have := Nat.two_pow_pos n; omega)
end LAY
section GOES
variable {np nm : Nat} {wo wi lo ct : Nat → Nat} {M : Mem} {w : Bool} {kn ak : Nat} {g : Bool}
/-- what goesThrough leaves -/
def GT (np : Nat) (ab : Nat → Nat) (w : Bool) (kn ak : Nat) (g : Bool) (M : Mem) : Prop := GS np w kn ak g (ext np ab np 0) M ∧ (w = true → kn = 4 → M.1 47 27 = nI (ext np ab np 0).length)
theorem nCd_0 (n kn ak : Nat) : nCd n kn ak [] = 0 := by
  unfold nCd
  exact su_0 256 0 (fun i _ _ => by show (sn n kn ak [] i).toNat = 0; rfl)
theorem plL_0 (n p : Nat) : plL n [] p = 0 := Nat.eq_of_testBit_eq (fun i => by unfold plL; rw [tb_msk, Nat.zero_testBit]; simp)
theorem GS_0 (h8 : np ≤ 8) (r1 : M.1 47 6 = nI np) (r2 : M.1 47 28 = (if w = true then nI kn else -1)) (r3 : M.1 47 29 = nI ak) (r4 : M.1 47 32 = bb g) (r5 : M.1 47 22 = 0) (r6 : M.1 47 27 = 0) (c7 : ∀ i, i < 256 → M.1 62 i = 0) (c8 : ∀ i, i < 8 → M.1 60 i = 0) (c9 : ∀ i, i < 64 → M.1 61 i = 0) : GS np w kn ak g [] M := by
  refine ⟨r1, r2, r3, r4, r5, fun l r h => (by cases h), fun p hp => ?_, fun a b ha hb => ?_, fun _ _ => ⟨fun c hc => ?_, ?_⟩, fun _ i l h => by simp at h⟩
  · rw [c8 p (by omega), plL_0]; rfl
  · rw [c9 _ (by omega)]; rfl
  · rw [c7 c hc]; rfl
  · rw [r6, nCd_0]; rfl
theorem mo_go_b {ab : Nat → Nat} (hA : okA np ab) (hQ : (w = true ∨ g = true) → okQ np kn ak) (hgw : g = true → w = true) (hgn : g = true → np ≤ 4) (hkn : kn ≤ 6) (hG0 : GS np w kn ak g [] M) (h57 : ∀ p, p < 8 → M.1 57 p = nI (ab p)) : ∃ M1, goEnd M = some M1 ∧ GT np ab w kn ak g M1 := by
  have h8 := hA.1
  have hlen : g = true → (ext np ab np 0).length ≤ 24 := fun hg => ext_24 (hgn hg) _
  have hbig := ext_big h8 ab
  obtain ⟨M10, f10, c10, d10, -⟩ := mo_lays hA hQ hgw (B := (ext np ab np 0).length) (fun hg => ⟨hgn hg, hlen hg⟩) (by omega) np 0 0 (39 - np) [] [] M (by omega) rfl (fun p hp => (by cases hp)) rfl rfl (by simp) (fun l hl => (by cases hl)) hG0 h57 (fun j hj => by omega)
  have eFD : 39 - np + np + 1 = FD := by unfold FD; omega
  rw [eFD] at f10
  have hid : ([] : List (List Nat)) ++ (ext np ab np 0).map (fun l => [] ++ l) = ext np ab np 0 := by simp
  rw [hid] at c10
  unfold goEnd f_X11_goesThrough_b124
  rw [show (0 : Int32) = nI 0 from rfl, f10, bd_s, lt_e, lt_e]
  obtain ⟨g1, g2, g3, g4, g5, g6, g7, g8, g9, g10⟩ := c10
  have key : ∀ x : Int32, (w = true → kn ≠ 4 → x = M10.1 47 27) → (w = true → kn = 4 → x = M10.1 47 22) → GT np ab w kn ak g (wI M10 47 27 x) := by
    intro x h1 h2
    refine ⟨⟨by simp [wI_rd, g1], by simp [wI_rd, g2], by simp [wI_rd, g3], by simp [wI_rd, g4], by simp [wI_rd, g5], fun l r h k hk => by rw [ab_wI_o (by omega)]; exact g6 l r h k hk, fun p hp => by rw [ab_wI_o (by omega)]; exact g7 p hp, fun a b ha hb => by rw [ab_wI_o (by omega)]; exact g8 a b ha hb, fun q1 q2 => ⟨fun c hc => by rw [ab_wI_o (by omega)]; exact (g9 q1 q2).1 c hc, by rw [h1 q1 q2]; simp [wI_rd, (g9 q1 q2).2]⟩, fun q i l h => ⟨fun k hk => by rw [ab_wI_o (by omega)]; exact (g10 q i l h).1 k hk, by rw [ab_wI_o (by omega)]; exact (g10 q i l h).2⟩⟩, fun q1 q2 => ?_⟩
    rw [h2 q1 q2]
    simp [wI_rd, g5]
  have e4 : w = true → ((M10.1 47 28 = 4) = (kn = 4)) := fun hw => by rw [g2, if_pos hw]; exact propext (n_eq (b := 4) (by omega) (by omega))
  by_cases q : M10.1 47 28 = 4
  · rw [if_pos q]
    exact ⟨_, rfl, key _ (fun hw h => absurd ((e4 hw).mp q) h) (fun _ _ => rfl)⟩
  · rw [if_neg q]
    exact ⟨_, rfl, key _ (fun _ _ => rfl) (fun hw h => absurd ((e4 hw).mpr h) q)⟩
theorem mo_goes (hR : okR M) (hO : OKF np nm wo wi lo ct) (hC : MF np nm wo wi lo ct M) {s : Nat} (hs : s < 4096) (hQ : (w = true ∨ g = true) → okQ np kn ak) (hgw : g = true → w = true) (hgn : g = true → np ≤ 4) (hkn : kn ≤ 6) (h32 : M.1 47 32 = bb g) : ∃ M1, f_X11_goesThrough (nI s) (if w = true then nI kn else -1) (nI ak) M = some M1 ∧ GT np (abv wi lo s nm) w kn ak g M1 := by
  have h8 := hO.1
  obtain ⟨M2, f2, c2⟩ := mo_beats hO hC hs
  have fr := (fr_X11_beats (nI s) M _ f2 hR.c).2
  have fr' : ∀ c k, c ≠ 57 → M2.1 c k = M.1 c k := fun c k hc => (fr c k (by
    rintro ⟨e, h1, h2, -⟩
    simp only [List.mem_singleton] at h1
    subst h1
    exact hc h2.symm)).1
  unfold f_X11_goesThrough
  rw [f2, bd_s, lt_e, lt_e, lt_e, lt_e]
  generalize hM6 : wI (wI (wI (wI M2 47 22 0) 47 27 0) 47 28 (if w = true then nI kn else -1)) 47 29 (nI ak) = M6
  have r6 : ∀ c, c ≠ 47 → M6.1 c = M2.1 c := fun c hc => by rw [← hM6, ab_wI_o hc, ab_wI_o hc, ab_wI_o hc, ab_wI_o hc]
  have r47 : M6.1 47 6 = nI np ∧ M6.1 47 28 = (if w = true then nI kn else -1) ∧ M6.1 47 29 = nI ak ∧ M6.1 47 32 = bb g ∧ M6.1 47 22 = 0 ∧ M6.1 47 27 = 0 := by
    rw [← hM6]
    refine ⟨?_, ?_, ?_, ?_, ?_, ?_⟩ <;> simp [wI_rd, fr' 47 _ (by omega), hC.1, h32]
  obtain ⟨M7, f7, c7, d7⟩ := clr62 256 0 FU M6 (by omega) (by unfold FU; omega) (fun i hi => by omega)
  obtain ⟨M8, f8, c8, d8⟩ := clr60 8 0 FU M7 (by omega) (by unfold FU; omega) (fun i hi => by omega)
  obtain ⟨M9, f9, c9, d9⟩ := clr61 64 0 FU M8 (by omega) (by unfold FU; omega) (fun i hi => by omega)
  rw [show nI 0 = (0 : Int32) from rfl] at f7 f8 f9
  rw [f7, f8, f9]
  have e47 : M9.1 47 = M6.1 47 := by rw [d9 47 (by omega), d8 47 (by omega), d7 47 (by omega)]
  exact mo_go_b (okA_abv hO s) hQ hgw hgn hkn (GS_0 h8 (by rw [e47]; exact r47.1) (by rw [e47]; exact r47.2.1) (by rw [e47]; exact r47.2.2.1) (by rw [e47]; exact r47.2.2.2.1) (by rw [e47]; exact r47.2.2.2.2.1) (by rw [e47]; exact r47.2.2.2.2.2) (fun i hi => by rw [d9 62 (by omega), d8 62 (by omega), c7 i hi]) (fun i hi => by rw [d9 60 (by omega), c8 i hi]) c9) (fun p hp => by rw [d9 57 (by omega), d8 57 (by omega), d7 57 (by omega), r6 57 (by omega)]; exact c2 p hp)
end GOES
