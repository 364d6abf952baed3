/-! the abstract store: 77 cells of fixed shapes, what they hold as functions; the machine over it -/
def ab_NC : Nat := 77
def ab_sK : List Nat := [10, 4, 100, 100, 100, 100, 2, 100, 100, 100, 100, 7, 100, 100, 8, 7, 100, 100, 100, 100, 0, 100, 5, 100, 100, 100, 100, 100, 3, 100, 100, 100, 100, 101, 6, 100, 100, 100, 100, 100, 1, 100, 100, 9, 100, 100, 101, 11, 100, 100, 100, 100, 100, 100, 100, 100, 100, 100, 100, 100, 100, 100, 102, 100, 100, 100, 100, 101, 101, 101, 100, 100, 100, 100, 100, 101, 101]
def ab_sN : List Nat := [0, 0, 8, 12, 12, 12, 0, 40, 40, 40, 40, 0, 8, 256, 0, 0, 8, 256, 729, 729, 0, 256, 0, 120, 242, 242, 121, 5, 0, 8, 8, 8, 192, 32, 0, 8, 8, 12, 12, 12, 0, 24, 50, 0, 6, 6, 360, 0, 20, 40, 40, 40, 12, 12, 120, 120, 5, 8, 8, 8, 8, 64, 256, 96, 24, 8, 8, 8, 8, 8, 12, 50, 24, 6, 6, 360, 60]
def ab_k (c : Nat) : Nat := ab_sK.getD c 999
def ab_n (c : Nat) : Nat := ab_sN.getD c 0
def ab_fT : List (List Nat) := [[1], [0, 0, 1, 1, 0], [0, 0, 1, 1, 1, 1], [0, 1, 1, 1, 1, 1], [0, 0, 1, 1, 1, 1], [0, 1, 0, 0, 2, 0, 2, 0, 1, 0, 1], [1, 1, 0, 1, 1, 1], [0, 1, 0, 1], [1, 1, 1, 0, 0, 0, 0, 0], [1, 1, 1], [1, 1, 1, 1, 1, 1, 1, 1, 1, 1], [1, 1, 1, 1, 0, 0, 0, 0, 1, 1, 1, 0, 1, 0, 0, 0, 0, 0, 0, 1, 1, 1, 0, 1, 1, 1, 1, 0, 0, 0, 1, 1, 0, 1, 0, 1, 1, 1, 1, 1, 0, 1, 1, 0, 0, 0, 1, 1, 1, 1]]
def ab_ft (ci k : Nat) : Nat := (ab_fT.getD ci []).getD k 9
def ab_fN (ci : Nat) : Nat := (ab_fT.getD ci []).length
def ab_rT : List (List Nat) := [[1, 6, 11, 14, 20, 22, 28, 34, 40, 43], [0, 0, 2, 3, 4, 5], [], [], [], [], [0, 0, 7, 8, 9, 10], [], [], [], [], [0, 12, 0, 13], [], [], [15, 18, 19, 0, 0, 0, 0, 0], [0, 16, 0, 17], [], [], [], [], [21], [], [0, 23, 0, 0, 24, 0, 25, 0, 26, 0, 27], [], [], [], [], [], [0, 29, 30, 31, 32, 33], [], [], [], [], [], [35, 36, 0, 37, 38, 39], [], [], [], [], [], [0, 0, 41, 42, 0], [], [], [44, 45, 46], [], [], [], [48, 49, 50, 51, 0, 0, 0, 0, 52, 53, 54, 0, 55, 0, 0, 0, 0, 0, 0, 56, 57, 58, 0, 59, 60, 61, 62, 0, 0, 0, 63, 64, 0, 65, 0, 66, 67, 68, 69, 70, 0, 71, 72, 0, 0, 0, 73, 74, 75, 76], [], [], [], [], [], [], [], [], [], [], [], [], [], [], [], [], [], [], [], [], [], [], [], [], [], [], [], [], []]
def ab_rf (c k : Nat) : Nat := (ab_rT.getD c []).getD k 0
abbrev ab_cls : List vw_C := [(RX0, TX0, 1), (RX1, TX1, 5), (RX2, TX2, 6), (RX3, TX3, 6), (RX4, TX4, 6), (RX5, TX5, 11), (RX6, TX6, 6), (RX7, TX7, 4), (RX8, TX8, 8), (RX9, TX9, 3), (RX10, TX10, 10), (RX11, TX11, 50)]
abbrev Mem : Type := (Nat → Nat → Int32) × (Nat → Nat → Int64) × (Nat → Nat → Nat)
abbrev GW : Type := (Nat → Nat) × va_G × ClassId × ClassId × ClassId
def wI (M : Mem) (c k : Nat) (v : Int32) : Mem := (fun a => if a = c then upd (M.1 c) k v else M.1 a, M.2.1, M.2.2)
def wL (M : Mem) (c k : Nat) (v : Int64) : Mem := (M.1, fun a => if a = c then vp_updL (M.2.1 c) k v else M.2.1 a, M.2.2)
def wR (M : Mem) (c k : Nat) (v : Nat) : Mem := (M.1, M.2.1, fun a => if a = c then va_up (M.2.2 c) k v else M.2.2 a)
def cpI (M : Mem) (c sp d dp n : Nat) : Mem := (fun a => if a = d then va_cpy (M.1 c) (M.1 d) sp dp n else M.1 a, M.2.1, M.2.2)
def cpL (M : Mem) (c sp d dp n : Nat) : Mem := (M.1, fun a => if a = d then va_cpy (M.2.1 c) (M.2.1 d) sp dp n else M.2.1 a, M.2.2)
def ab_fv (ad : Nat → Nat) (M : Mem) (c k : Nat) : Value := if ab_ft (ab_k c) k = 1 then .ref (ad (ab_rf c k)) else if ab_ft (ab_k c) k = 2 then .ref (ad (M.2.2 c k)) else .int (M.1 c k)
def ab_fl (ad : Nat → Nat) (M : Mem) (c : Nat) : List Value := (List.range (ab_fN (ab_k c))).map (fun k => ab_fv ad M c k)
def ab_ce (G : GW) (M : Mem) (c : Nat) : va_E := if ab_k c = 100 then .inl (G.2.2.1, ab_n c, .inl (M.1 c)) else if ab_k c = 101 then .inl (G.2.2.2.1, ab_n c, .inr (.inl (M.2.1 c))) else if ab_k c = 102 then .inl (G.2.2.2.2, ab_n c, .inl (M.1 c)) else .inr (ab_k c, ab_fl G.1 M c)
def ab_w (G : GW) (M : Mem) : va_W := (List.range ab_NC).map (fun c => (G.1 c, ab_ce G M c))
def ab_A (G : GW) : Nat → Prop := fun q => ∃ c, c < ab_NC ∧ q = G.1 c
def ab_ok (G : GW) : Prop := ∀ i j, i < ab_NC → j < ab_NC → G.1 i = G.1 j → i = j
def ab_ty (G : GW) : List (ClassId × FieldType) := [(G.2.2.1, .int), (G.2.2.2.1, .long), (G.2.2.2.2, .boolean)]
theorem ab_klt {c : Nat} (h : ab_k c ≠ 999) : c < ab_NC := by
  refine Nat.lt_of_not_le fun q => h ?_
  have e : ab_sK.length = ab_NC := by decide +kernel
  unfold ab_k
  rw [List.getD_eq_getElem?_getD, List.getElem?_eq_none (by omega)]
  rfl
theorem ab_w_at (G : GW) (M : Mem) {c : Nat} (h : c < ab_NC) : (ab_w G M)[c]? = some (G.1 c, ab_ce G M c) := by
  simp [ab_w, List.getElem?_map, List.getElem?_range h]
theorem ab_D {G : GW} (h : ab_ok G) (M : Mem) : va_D (ab_A G) (ab_w G M) := by
  have key : ∀ (k : Nat) (q : Nat × va_E), (ab_w G M)[k]? = some q → k < ab_NC ∧ q.1 = G.1 k := by
    intro k q hk
    have hl := (List.getElem?_eq_some_iff.mp hk).1
    have hk' : k < ab_NC := by simpa [ab_w] using hl
    rw [ab_w_at G M hk'] at hk
    cases hk
    exact ⟨hk', rfl⟩
  refine ⟨fun i j p q hi hj e => ?_, fun k q hk => ?_⟩
  · obtain ⟨h1, e1⟩ := key i p hi
    obtain ⟨h2, e2⟩ := key j q hj
    exact h i j h1 h2 (e1.symm.trans (e.trans e2))
  · obtain ⟨h1, e1⟩ := key k q hk
    exact ⟨k, h1, e1⟩
theorem ab_w_set {G : GW} {M M' : Mem} {c : Nat} (hc : c < ab_NC) (h : ∀ a, a ≠ c → ab_ce G M' a = ab_ce G M a) : (ab_w G M).set c (G.1 c, ab_ce G M' c) = ab_w G M' := by
  apply List.ext_getElem?
  intro i
  by_cases hi : i = c
  · subst hi
    rw [List.getElem?_set_self (by simpa [ab_w] using hc), ab_w_at G M' hc]
  · rw [List.getElem?_set_ne (Ne.symm hi)]
    by_cases hl : i < ab_NC
    · rw [ab_w_at G M hl, ab_w_at G M' hl, h i hi]
    · rw [List.getElem?_eq_none (by simpa [ab_w] using Nat.not_lt.mp hl), List.getElem?_eq_none (by simpa [ab_w] using Nat.not_lt.mp hl)]
theorem ab_ce_congr {G : GW} {M M' : Mem} {a : Nat} (h1 : M'.1 a = M.1 a) (h2 : M'.2.1 a = M.2.1 a) (h3 : M'.2.2 a = M.2.2 a) : ab_ce G M' a = ab_ce G M a := by
  simp only [ab_ce, ab_fl, ab_fv, h1, h2, h3]
theorem ab_ceI {G : GW} {M : Mem} {c : Nat} (h : ab_k c = 100) : ab_ce G M c = .inl (G.2.2.1, ab_n c, .inl (M.1 c)) := by simp [ab_ce, h]
theorem ab_ceL {G : GW} {M : Mem} {c : Nat} (h : ab_k c = 101) : ab_ce G M c = .inl (G.2.2.2.1, ab_n c, .inr (.inl (M.2.1 c))) := by simp [ab_ce, h]
theorem ab_ceZ {G : GW} {M : Mem} {c : Nat} (h : ab_k c = 102) : ab_ce G M c = .inl (G.2.2.2.2, ab_n c, .inl (M.1 c)) := by simp [ab_ce, h]
theorem ab_ceO {G : GW} {M : Mem} {c : Nat} (h : ab_k c < 100) : ab_ce G M c = .inr (ab_k c, ab_fl G.1 M c) := by
  simp only [ab_ce]
  rw [if_neg (by omega), if_neg (by omega), if_neg (by omega)]
theorem ab_wI_o {M : Mem} {c k : Nat} {v : Int32} {a : Nat} (h : a ≠ c) : (wI M c k v).1 a = M.1 a := by simp [wI, h]
theorem ab_wI_s {M : Mem} {c k : Nat} {v : Int32} : (wI M c k v).1 c = upd (M.1 c) k v := by simp [wI]
theorem ab_setI {G : GW} {M : Mem} {c k : Nat} {v : Int32} (h : ab_k c = 100) : (ab_w G M).set c (G.1 c, .inl (G.2.2.1, ab_n c, .inl (upd (M.1 c) k v))) = ab_w G (wI M c k v) := by
  have e := ab_w_set (G := G) (M := M) (M' := wI M c k v) (c := c) (ab_klt (by omega)) (fun a ha => ab_ce_congr (ab_wI_o ha) rfl rfl)
  rw [ab_ceI h, ab_wI_s] at e
  exact e
theorem ab_setZ {G : GW} {M : Mem} {c k : Nat} {v : Int32} (h : ab_k c = 102) : (ab_w G M).set c (G.1 c, .inl (G.2.2.2.2, ab_n c, .inl (upd (M.1 c) k v))) = ab_w G (wI M c k v) := by
  have e := ab_w_set (G := G) (M := M) (M' := wI M c k v) (c := c) (ab_klt (by omega)) (fun a ha => ab_ce_congr (ab_wI_o ha) rfl rfl)
  rw [ab_ceZ h, ab_wI_s] at e
  exact e
theorem ab_setL {G : GW} {M : Mem} {c k : Nat} {v : Int64} (h : ab_k c = 101) : (ab_w G M).set c (G.1 c, .inl (G.2.2.2.1, ab_n c, .inr (.inl (vp_updL (M.2.1 c) k v)))) = ab_w G (wL M c k v) := by
  have e := ab_w_set (G := G) (M := M) (M' := wL M c k v) (c := c) (ab_klt (by omega)) (fun a ha => ab_ce_congr rfl (by simp [wL, ha]) rfl)
  rw [ab_ceL h] at e
  have e2 : (wL M c k v).2.1 c = vp_updL (M.2.1 c) k v := by simp [wL]
  rw [e2] at e
  exact e
theorem ab_setCI {G : GW} {M : Mem} {c sp d dp n : Nat} (h : ab_k d = 100) : (ab_w G M).set d (G.1 d, .inl (G.2.2.1, ab_n d, .inl (va_cpy (M.1 c) (M.1 d) sp dp n))) = ab_w G (cpI M c sp d dp n) := by
  have e := ab_w_set (G := G) (M := M) (M' := cpI M c sp d dp n) (c := d) (ab_klt (by omega)) (fun a ha => ab_ce_congr (by simp [cpI, ha]) rfl rfl)
  rw [ab_ceI h] at e
  have e2 : (cpI M c sp d dp n).1 d = va_cpy (M.1 c) (M.1 d) sp dp n := by simp [cpI]
  rw [e2] at e
  exact e
theorem ab_setCL {G : GW} {M : Mem} {c sp d dp n : Nat} (h : ab_k d = 101) : (ab_w G M).set d (G.1 d, .inl (G.2.2.2.1, ab_n d, .inr (.inl (va_cpy (M.2.1 c) (M.2.1 d) sp dp n)))) = ab_w G (cpL M c sp d dp n) := by
  have e := ab_w_set (G := G) (M := M) (M' := cpL M c sp d dp n) (c := d) (ab_klt (by omega)) (fun a ha => ab_ce_congr rfl (by simp [cpL, ha]) rfl)
  rw [ab_ceL h] at e
  have e2 : (cpL M c sp d dp n).2.1 d = va_cpy (M.2.1 c) (M.2.1 d) sp dp n := by simp [cpL]
  rw [e2] at e
  exact e
theorem ab_fl_at {ad : Nat → Nat} {M : Mem} {c k : Nat} (h : k < ab_fN (ab_k c)) : (ab_fl ad M c)[k]? = some (ab_fv ad M c k) := by
  simp [ab_fl, List.getElem?_map, List.getElem?_range h]
theorem ab_fl_len {ad : Nat → Nat} {M : Mem} {c : Nat} : (ab_fl ad M c).length = ab_fN (ab_k c) := by simp [ab_fl]
theorem ab_fl_setI {ad : Nat → Nat} {M : Mem} {c k : Nat} {v : Int32} (ht : ab_ft (ab_k c) k = 0) : (ab_fl ad M c).set k (.int v) = ab_fl ad (wI M c k v) c := by
  apply List.ext_getElem?
  intro i
  by_cases hl : i < ab_fN (ab_k c)
  · by_cases hi : i = k
    · subst hi
      rw [List.getElem?_set_self (by rw [ab_fl_len]; exact hl), ab_fl_at hl]
      simp [ab_fv, ht, ab_wI_s, upd]
    · rw [List.getElem?_set_ne (Ne.symm hi), ab_fl_at hl, ab_fl_at hl]
      simp [ab_fv, ab_wI_s, upd, hi, wI]
  · rw [List.getElem?_eq_none (by rw [List.length_set, ab_fl_len]; omega), List.getElem?_eq_none (by rw [ab_fl_len]; omega)]
theorem ab_fl_setR {ad : Nat → Nat} {M : Mem} {c k : Nat} {v : Nat} (ht : ab_ft (ab_k c) k = 2) : (ab_fl ad M c).set k (.ref (ad v)) = ab_fl ad (wR M c k v) c := by
  apply List.ext_getElem?
  intro i
  by_cases hl : i < ab_fN (ab_k c)
  · by_cases hi : i = k
    · subst hi
      rw [List.getElem?_set_self (by rw [ab_fl_len]; exact hl), ab_fl_at hl]
      simp [ab_fv, ht, wR, va_up]
    · rw [List.getElem?_set_ne (Ne.symm hi), ab_fl_at hl, ab_fl_at hl]
      simp [ab_fv, wR, va_up, hi]
  · rw [List.getElem?_eq_none (by rw [List.length_set, ab_fl_len]; omega), List.getElem?_eq_none (by rw [ab_fl_len]; omega)]
theorem ab_setFI {G : GW} {M : Mem} {c k : Nat} {v : Int32} (h : ab_k c < 100) (ht : ab_ft (ab_k c) k = 0) : (ab_w G M).set c (G.1 c, .inr (ab_k c, (ab_fl G.1 M c).set k (.int v))) = ab_w G (wI M c k v) := by
  have e := ab_w_set (G := G) (M := M) (M' := wI M c k v) (c := c) (ab_klt (by omega)) (fun a ha => ab_ce_congr (ab_wI_o ha) rfl rfl)
  rw [ab_ceO h] at e
  rw [ab_fl_setI ht]
  exact e
theorem ab_setFR {G : GW} {M : Mem} {c k : Nat} {v : Nat} (h : ab_k c < 100) (ht : ab_ft (ab_k c) k = 2) : (ab_w G M).set c (G.1 c, .inr (ab_k c, (ab_fl G.1 M c).set k (.ref (G.1 v)))) = ab_w G (wR M c k v) := by
  have e := ab_w_set (G := G) (M := M) (M' := wR M c k v) (c := c) (ab_klt (by omega)) (fun a ha => ab_ce_congr rfl rfl (by simp [wR, ha]))
  rw [ab_ceO h] at e
  rw [ab_fl_setR ht]
  exact e

