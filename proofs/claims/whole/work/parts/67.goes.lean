/-! orders: the model goes through them all -/
def oL (l : List Nat) (k : Nat) : Nat := l.getD k 0
def pL (l : List Nat) (a : Nat) : Nat := l.idxOf a
def plL (n : Nat) (L : List (List Nat)) (p : Nat) : Nat := msk (fun k => L.any (fun l => decide (oL l k = p))) n
def btL (L : List (List Nat)) (a b : Nat) : Nat := L.countP (fun l => decide (pL l a < pL l b))
def sn (n kn ak : Nat) (L : List (List Nat)) (c : Nat) : Bool := L.any (fun l => decide (codeF n kn ak (oL l) = c))
def nCd (n kn ak : Nat) (L : List (List Nat)) : Nat := su (fun c => (sn n kn ak L c).toNat) 256 0
def GS (n : Nat) (w : Bool) (kn ak : Nat) (g : Bool) (L : List (List Nat)) (M : Mem) : Prop :=
  M.1 47 6 = nI n ∧ M.1 47 28 = (if w = true then nI kn else -1) ∧ M.1 47 29 = nI ak ∧ M.1 47 32 = bb g ∧ M.1 47 22 = nI L.length ∧ (∀ l r, L = l :: r → ∀ k, k < n → M.1 59 k = nI (oL l k)) ∧ (∀ p, p < n → M.1 60 p = nI (plL n L p)) ∧ (∀ a b, a < n → b < n → M.1 61 (8 * a + b) = nI (btL L a b)) ∧ (w = true → kn ≠ 4 → (∀ c, c < 256 → M.1 62 c = bb (sn n kn ak L c)) ∧ M.1 47 27 = nI (nCd n kn ak L)) ∧ (g = true → ∀ i l, L[i]? = some l → (∀ k, k < n → M.1 63 (4 * i + oL l k) = nI k) ∧ M.1 64 i = nI (if kn = 4 then i else codeF n kn ak (oL l)))
def okL3 (n : Nat) (l : List Nat) : Prop := l.length = n ∧ l.Nodup ∧ (∀ p ∈ l, p < n) ∧ ∀ p, p < n → p ∈ l
theorem permL {n : Nat} {l : List Nat} (h : okL3 n l) : PermO n (oL l) (pL l) := by
  obtain ⟨h1, h2, h3, h4⟩ := h
  refine ⟨fun k hk => ?_, fun a ha => ?_⟩
  · have hk2 : k < l.length := by omega
    have e : oL l k = l[k] := by unfold oL; rw [List.getD_eq_getElem?_getD, List.getElem?_eq_getElem hk2]; rfl
    rw [e]
    refine ⟨h3 _ (List.getElem_mem _), ?_⟩
    unfold pL
    have hm : l[k] ∈ l := List.getElem_mem _
    have hi : l.idxOf l[k] < l.length := List.idxOf_lt_length_of_mem hm
    have he : l[l.idxOf l[k]] = l[k] := List.getElem_idxOf hi
    have hpw := List.pairwise_iff_getElem.mp h2
    rcases Nat.lt_trichotomy (l.idxOf l[k]) k with q | q | q
    · exact absurd he (hpw _ _ hi hk2 q)
    · exact q
    · exact absurd he.symm (hpw _ _ hk2 hi q)
  · have hm := h4 a ha
    have hl : l.idxOf a < l.length := List.idxOf_lt_length_of_mem hm
    refine ⟨by unfold pL; omega, ?_⟩
    unfold oL pL
    rw [List.getD_eq_getElem?_getD, List.getElem?_eq_getElem hl]
    simp
theorem ext_ok {n : Nat} {ab : Nat → Nat} (hn : n ≤ 8) {l : List Nat} (h : l ∈ ext n ab n 0) : okL3 n l := by
  obtain ⟨a, b, c⟩ := (mem_ext n ab _ _ l).mp h
  refine ⟨a, (vld_out c).1, b, fun p hp => ?_⟩
  have e := st_full n ab hn h
  have := tb_st l 0 p
  rw [e, Nat.testBit_two_pow_sub_one, Nat.zero_testBit, Bool.false_or, decide_eq_true hp] at this
  simpa using this.symm
section GO
variable {n : Nat} {w : Bool} {kn ak : Nat} {g : Bool} {L : List (List Nat)} {M : Mem}
theorem plL_app {l : List Nat} (h : okL3 n l) {a : Nat} (ha : a < n) : plL n (L ++ [l]) a = plL n L a ||| 2 ^ pL l a := by
  have hp := permL h
  apply Nat.eq_of_testBit_eq
  intro i
  unfold plL
  rw [tb_or, tb_msk, tb_msk, List.any_append]
  have e : ([l].any fun l => decide (oL l i = a)) = decide (oL l i = a) := by simp
  rw [e]
  by_cases q : i < n
  · have : decide (oL l i = a) = decide (pL l a = i) := by
      congr 1
      apply propext
      constructor
      · intro h; rw [← h]; exact (hp.1 i q).2
      · intro h; rw [← h]; exact (hp.2 a ha).2
    rw [this, decide_eq_true q, Bool.true_and, Bool.true_and]
  · have := (hp.2 a ha).1
    rw [decide_eq_false q, decide_eq_false (show ¬ pL l a = i by omega)]
    rfl
theorem btL_app (l : List Nat) (a b : Nat) : btL (L ++ [l]) a b = btL L a b + (if pL l a < pL l b then 1 else 0) := by
  unfold btL
  rw [List.countP_append]
  congr 1
  by_cases q : pL l a < pL l b <;> simp [q]
theorem sn_app (l : List Nat) (c : Nat) : sn n kn ak (L ++ [l]) c = (sn n kn ak L c || decide (codeF n kn ak (oL l) = c)) := by
  unfold sn
  rw [List.any_append]
  simp
theorem nCd_app {l : List Nat} (h : codeF n kn ak (oL l) < 256) : nCd n kn ak (L ++ [l]) = nCd n kn ak L + (if sn n kn ak L (codeF n kn ak (oL l)) = true then 0 else 1) := by
  unfold nCd
  have e := su_one (p := codeF n kn ak (oL l)) (x := if sn n kn ak L (codeF n kn ak (oL l)) = true then 0 else 1) 256 0 (by omega) (by omega)
  rw [← e, ← su_add]
  refine su_congr 256 0 (fun c _ _ => ?_)
  rw [sn_app]
  by_cases q : c = codeF n kn ak (oL l)
  · rw [if_pos q, ← q, decide_eq_true rfl, Bool.or_true]
    cases sn n kn ak L c <;> rfl
  · rw [if_neg q, decide_eq_false (fun h => q h.symm), Bool.or_false, Nat.add_zero]
theorem nCd_le : nCd n kn ak L ≤ 256 := by
  have := su_le (g := fun c => (sn n kn ak L c).toNat) (b := 1) 256 0 (fun c _ _ => by show (sn n kn ak L c).toNat ≤ 1; cases sn n kn ak L c <;> decide)
  unfold nCd
  omega
theorem mo_takesIn (hn : n ≤ 8) (hQ : (w = true ∨ g = true) → okQ n kn ak) (hgw : g = true → w = true) (hgn : g = true → n ≤ 4 ∧ L.length < 24) (hN : L.length < 2147483647) (hLo : ∀ l' ∈ L, okL3 n l') {l : List Nat} (hl : okL3 n l) (hG : GS n w kn ak g L M) (h58 : ∀ k, k < n → M.1 58 k = nI (oL l k)) : ∃ M1, f_X11_takesIn M = some M1 ∧ GS n w kn ak g (L ++ [l]) M1 ∧ M1.1 58 = M.1 58 ∧ M1.1 57 = M.1 57 := by
  obtain ⟨g1, g2, g3, g4, g5, g6, g7, g8, g9, g10⟩ := hG
  have hp := permL hl
  obtain ⟨M1, f1, c1, e1, d1⟩ := mo_first (o := oL l) (N := L.length) (by omega) hn n 0 FU M (by omega) (by unfold FU; omega) g1 g5 h58 (fun _ j hj => by omega)
  obtain ⟨M2, f2, c2, e2, d2⟩ := mo_tk hn hp (base := btL L) (pl := plL n L) n 0 FU M1 (by omega) (by unfold FU; omega) (by rw [d1 47 (by omega)]; exact g1) (fun k hk => by rw [d1 58 (by omega)]; exact h58 k hk) (fun a ha => by rw [d1 60 (by omega), g7 a ha, if_neg (by omega), Nat.or_zero]) (fun a b ha hb => by rw [d1 61 (by omega), g8 a b ha hb, if_neg (by omega), Nat.add_zero])
  have f1' : f_X11_takesIn M = _ := f1
  have f2' : f_X11_takesIn_L37 FU 0 M1 = _ := f2
  rw [f1', f2']
  have hc : ∀ c, c ≠ 59 → c ≠ 60 → c ≠ 61 → M2.1 c = M.1 c := fun c h1 h2 h3 => by rw [d2 c h2 h3, d1 c h1]
  have h47 : M2.1 47 = M.1 47 := hc 47 (by omega) (by omega) (by omega)
  have h58b : ∀ k, k < n → M2.1 58 k = nI (oL l k) := fun k hk => by rw [hc 58 (by omega) (by omega) (by omega)]; exact h58 k hk
  have h59 : ∀ l' r, L ++ [l] = l' :: r → ∀ k, k < n → M2.1 59 k = nI (oL l' k) := by
    intro l' r hL k hk
    rw [d2 59 (by omega) (by omega)]
    cases L with
    | nil =>
      have : l = l' := by simpa using (List.cons.inj hL).1
      subst this
      exact c1 rfl k hk
    | cons x y =>
      have : x = l' := (List.cons.inj hL).1
      subst this
      rw [e1 (by simp)]
      exact g6 x y rfl k hk
  have h60 : ∀ p, p < n → M2.1 60 p = nI (plL n (L ++ [l]) p) := fun p hp2 => by rw [c2 p hp2, plL_app hl hp2]
  have h61 : ∀ a b, a < n → b < n → M2.1 61 (8 * a + b) = nI (btL (L ++ [l]) a b) := fun a b ha hb => by rw [e2 a b ha hb, btL_app]
  /- behind the codes -/
  have fin : ∀ M3 : Mem, (∀ c, c ≠ 62 → c ≠ 47 → M3.1 c = M2.1 c) → (∀ k, k ≠ 27 → M3.1 47 k = M2.1 47 k) → (w = true → kn ≠ 4 → (∀ c, c < 256 → M3.1 62 c = bb (sn n kn ak (L ++ [l]) c)) ∧ M3.1 47 27 = nI (nCd n kn ak (L ++ [l]))) → ∃ M4, f_X11_takesIn_b161 M3 = some M4 ∧ GS n w kn ak g (L ++ [l]) M4 ∧ M4.1 58 = M.1 58 ∧ M4.1 57 = M.1 57 := by
    intro M3 k1 k2 k3
    have r6 : M3.1 47 6 = nI n := by rw [k2 6 (by omega), h47]; exact g1
    have r28 : M3.1 47 28 = (if w = true then nI kn else -1) := by rw [k2 28 (by omega), h47]; exact g2
    have r29 : M3.1 47 29 = nI ak := by rw [k2 29 (by omega), h47]; exact g3
    have r32 : M3.1 47 32 = bb g := by rw [k2 32 (by omega), h47]; exact g4
    have r22 : M3.1 47 22 = nI L.length := by rw [k2 22 (by omega), h47]; exact g5
    have r58 : ∀ k, k < n → M3.1 58 k = nI (oL l k) := fun k hk => by rw [k1 58 (by omega) (by omega)]; exact h58b k hk
    unfold f_X11_takesIn_b161
    rw [r32]
    by_cases hg : g = true
    case neg =>
      have hgf : g = false := by simpa using hg
      rw [if_pos (show bb g = 0 by rw [hgf]; rfl)]
      unfold f_X11_takesIn_b231
      rw [lt_e, r22, n_s1]
      refine ⟨_, rfl, ⟨by simp [wI_rd, r6], by simp [wI_rd, r28], by simp [wI_rd, r29], by simp [wI_rd, r32], by simp [wI_rd], fun l' r hL k hk => ?_, fun p hp2 => ?_, fun a b ha hb => ?_, fun h1 h2 => ?_, fun h => absurd h hg⟩, ?_, ?_⟩
      · rw [ab_wI_o (by omega), k1 59 (by omega) (by omega)]; exact h59 l' r hL k hk
      · rw [ab_wI_o (by omega), k1 60 (by omega) (by omega)]; exact h60 p hp2
      · rw [ab_wI_o (by omega), k1 61 (by omega) (by omega)]; exact h61 a b ha hb
      · obtain ⟨x, y⟩ := k3 h1 h2
        exact ⟨fun c hc2 => by rw [ab_wI_o (by omega)]; exact x c hc2, by simp [wI_rd, y]⟩
      · rw [ab_wI_o (by omega), k1 58 (by omega) (by omega), hc 58 (by omega) (by omega) (by omega)]
      · rw [ab_wI_o (by omega), k1 57 (by omega) (by omega), hc 57 (by omega) (by omega) (by omega)]
    case pos =>
      have hw := hgw hg
      obtain ⟨hn4, hL24⟩ := hgn hg
      rw [if_neg (show ¬ bb g = 0 by rw [hg]; decide)]
      obtain ⟨M5, f5, c5, e5, d5⟩ := mo_gat hn4 hp hL24 n 0 FU M3 (by omega) (by unfold FU; omega) r6 r22 r58 (fun j hj => by omega)
      have f5' : f_X11_takesIn_L170 FU 0 M3 = _ := f5
      have hQ2 := hQ (Or.inl hw)
      have p47 : M5.1 47 = M3.1 47 := d5 47 (by omega)
      have p28 : M5.1 47 28 = nI kn := by rw [p47, r28, if_pos hw]
      have hcd := mo_code (M := M5) hQ2 (fun k hk => (hp.1 k hk).1) (by rw [p47]; exact r6) p28 (by rw [p47]; exact r29) (fun k hk => by rw [d5 58 (by omega)]; exact r58 k hk)
      have e4 : (nI kn = 4) = (kn = 4) := propext (n_eq (b := 4) (by have := hQ2.1; omega) (by omega))
      have h230 : ∀ x : Int32, f_X11_takesIn_b230 x (nI L.length) M5 = some (wI (wI M5 64 L.length x) 47 22 (nI (L.length + 1))) := by
        intro x
        unfold f_X11_takesIn_b230 f_X11_takesIn_b231
        have : (wI M5 64 L.length x).1 47 22 = nI L.length := by rw [ab_wI_o (by omega), p47]; exact r22
        rw [ck_t (okI_64 hL24), lt_e, lt_e, n_clamp (by omega), this, n_s1]
      rw [f5', p28, hcd, bd_s, h230, h230]
      simp only [e4]
      have hres : (if kn = 4 then some (wI (wI M5 64 L.length (nI L.length)) 47 22 (nI (L.length + 1))) else some (wI (wI M5 64 L.length (nI (codeF n kn ak (oL l)))) 47 22 (nI (L.length + 1)))) = some (wI (wI M5 64 L.length (nI (if kn = 4 then L.length else codeF n kn ak (oL l)))) 47 22 (nI (L.length + 1))) := by split <;> rfl
      rw [hres]
      have q : ∀ c, c ≠ 47 → c ≠ 64 → c ≠ 63 → c ≠ 62 → (wI (wI M5 64 L.length (nI (if kn = 4 then L.length else codeF n kn ak (oL l)))) 47 22 (nI (L.length + 1))).1 c = M2.1 c := fun c h1 h2 h3 h4 => by rw [ab_wI_o h1, ab_wI_o h2, d5 c h3, k1 c h4 h1]
      refine ⟨_, rfl, ⟨by simp [wI_rd, p47, r6], by simp [wI_rd, p47, r28], by simp [wI_rd, p47, r29], by simp [wI_rd, p47, r32], by simp [wI_rd], fun l' r hL k hk => ?_, fun p hp2 => ?_, fun a b ha hb => ?_, fun h1 h2 => ?_, fun _ i l' hi => ?_⟩, ?_, ?_⟩
      · rw [q 59 (by omega) (by omega) (by omega) (by omega)]; exact h59 l' r hL k hk
      · rw [q 60 (by omega) (by omega) (by omega) (by omega)]; exact h60 p hp2
      · rw [q 61 (by omega) (by omega) (by omega) (by omega)]; exact h61 a b ha hb
      · obtain ⟨x, y⟩ := k3 h1 h2
        exact ⟨fun c hc2 => by rw [ab_wI_o (by omega), ab_wI_o (by omega), d5 62 (by omega)]; exact x c hc2, by simp [wI_rd, p47, y]⟩
      · have hlen := (List.getElem?_eq_some_iff.mp hi).1
        rw [List.length_append, List.length_singleton] at hlen
        by_cases e : i = L.length
        · subst e
          have : l = l' := by simpa using hi
          subst this
          refine ⟨fun k hk => ?_, by simp [wI_rd]⟩
          rw [ab_wI_o (by omega), ab_wI_o (by omega)]
          exact c5 k hk
        · have hi2 : L[i]? = some l' := by rw [List.getElem?_append_left (by omega)] at hi; exact hi
          obtain ⟨x, y⟩ := g10 hg i l' hi2
          refine ⟨fun k hk => ?_, ?_⟩
          · have hlt : 4 * i + oL l' k < 4 * L.length := by
              have := ((permL (hLo l' (List.mem_of_getElem? hi2))).1 k hk).1
              omega
            rw [ab_wI_o (by omega), ab_wI_o (by omega), e5 _ hlt, k1 63 (by omega) (by omega), hc 63 (by omega) (by omega) (by omega)]
            exact x k hk
          · rw [ab_wI_o (by omega), wI_rd, if_neg (fun h => e h.2), d5 64 (by omega), k1 64 (by omega) (by omega), hc 64 (by omega) (by omega) (by omega)]
            exact y
      · rw [q 58 (by omega) (by omega) (by omega) (by omega), hc 58 (by omega) (by omega) (by omega)]
      · rw [q 57 (by omega) (by omega) (by omega) (by omega), hc 57 (by omega) (by omega) (by omega)]
  unfold tkEnd
  rw [h47, g2]
  by_cases hw : w = true
  case neg =>
    rw [if_neg hw, if_pos (show (-1 : Int32) < 0 by decide)]
    exact fin M2 (fun _ _ _ => rfl) (fun _ _ => rfl) (fun h => absurd h hw)
  case pos =>
    have hQ2 := hQ (Or.inl hw)
    have h6 := hQ2.1
    have e4 : (nI kn = 4) = (kn = 4) := propext (n_eq (b := 4) (by omega) (by omega))
    rw [if_pos hw, if_neg (nI_pos (by omega))]
    simp only [e4]
    by_cases q4 : kn = 4
    · rw [if_pos q4]
      exact fin M2 (fun _ _ _ => rfl) (fun _ _ => rfl) (fun _ h => absurd q4 h)
    · rw [if_neg q4]
      have hcd := mo_code (M := M2) hQ2 (fun k hk => (hp.1 k hk).1) (by rw [h47]; exact g1) (by rw [h47, g2, if_pos hw]) (by rw [h47]; exact g3) h58b
      have hlt := codeF_lt hQ2 (fun k hk => (hp.1 k hk).1)
      obtain ⟨s1, s2⟩ := g9 hw q4
      have h62 : ∀ c, c < 256 → M2.1 62 c = bb (sn n kn ak L c) := fun c hc2 => by rw [hc 62 (by omega) (by omega) (by omega)]; exact s1 c hc2
      rw [hcd, bd_s, ck_t (okZ_62 hlt), n_clamp (by omega), h62 _ hlt]
      simp only [bb_0]
      unfold f_X11_takesIn_b150
      rw [s2]
      simp only [lt_e, ck_t (okZ_62 hlt), n_clamp (show codeF n kn ak (oL l) < 2147483648 by omega)]
      have key : ∀ x : Nat, x = (if sn n kn ak L (codeF n kn ak (oL l)) = true then 0 else 1) → ∃ M4, f_X11_takesIn_b161 (wI (wI M2 47 27 (nI (nCd n kn ak L) + nI x)) 62 (codeF n kn ak (oL l)) 1) = some M4 ∧ GS n w kn ak g (L ++ [l]) M4 ∧ M4.1 58 = M.1 58 ∧ M4.1 57 = M.1 57 := by
        intro x hx
        have := fin (wI (wI M2 47 27 (nI (nCd n kn ak L) + nI x)) 62 (codeF n kn ak (oL l)) 1) (fun c h1 h2 => by rw [ab_wI_o h1, ab_wI_o h2]) (fun k hk => by simp [wI_rd, hk]) (fun _ _ => ⟨fun c hc2 => ?_, ?_⟩)
        · exact this
        · rw [wI_rd, sn_app]
          by_cases e : c = codeF n kn ak (oL l)
          · rw [if_pos ⟨rfl, e⟩, decide_eq_true e.symm, Bool.or_true]; rfl
          · rw [if_neg (fun h => e h.2), ab_wI_o (by omega), h62 c hc2, decide_eq_false (fun h => e h.symm), Bool.or_false]
        · rw [ab_wI_o (by omega), nCd_app hlt, ← hx, n_add]
          simp [wI_rd]
      cases hs : sn n kn ak L (codeF n kn ak (oL l))
      · rw [if_pos rfl]
        exact key 1 (by rw [hs]; rfl)
      · rw [if_neg (by decide)]
        exact key 0 (by rw [hs]; rfl)
end GO
