/-! what a function leaves as it was -/
def inS (l : List (Nat × Nat)) (c k : Nat) : Prop := ∃ e ∈ l, e.1 = c ∧ (e.2 = 0 ∨ e.2 = k + 1)
def FrS (l : List (Nat × Nat)) (M M2 : Mem) : Prop := (M.2.2 22 4 = 24 ∨ M.2.2 22 4 = 25) → M2.2.2 = M.2.2 ∧ ∀ c k, ¬ inS l c k → M2.1 c k = M.1 c k ∧ M2.2.1 c k = M.2.1 c k
def Fr {α : Type} (p : α → Mem) (l : List (Nat × Nat)) (M : Mem) (x : Option α) : Prop := ∀ r, x = some r → FrS l M (p r)
theorem FrS.rf {l : List (Nat × Nat)} {M : Mem} : FrS l M M := fun _ => ⟨rfl, fun _ _ _ => ⟨rfl, rfl⟩⟩
theorem FrS.tr {l : List (Nat × Nat)} {M M1 M2 : Mem} (h1 : FrS l M M1) (h2 : FrS l M1 M2) : FrS l M M2 := by
  intro hR
  obtain ⟨a1, b1⟩ := h1 hR
  obtain ⟨a2, b2⟩ := h2 (by rw [a1]; exact hR)
  exact ⟨a2.trans a1, fun c k h => ⟨(b2 c k h).1.trans (b1 c k h).1, (b2 c k h).2.trans (b1 c k h).2⟩⟩
section FRR
variable {α : Type} {p : α → Mem} {l : List (Nat × Nat)} {M : Mem} {x y : Option α}
theorem fr_none : Fr p l M (none : Option α) := fun r h => by cases h
theorem fr_some {r : α} (h : p r = M) : Fr p l M (some r) := by
  intro r2 h2
  cases h2
  rw [h]
  exact FrS.rf
theorem fr_ck {b : Bool} (h : Fr p l M x) : Fr p l M (ck b x) := fun r hr => h r (ck_some hr).2
theorem fr_ltv {β : Type} {e : β} {K : β → Option α} (h : ∀ v, Fr p l M (K v)) : Fr p l M (lt e K) := h e
theorem fr_ltw {M1 : Mem} {K : Mem → Option α} (h1 : FrS l M M1) (h : ∀ M2, Fr p l M2 (K M2)) : Fr p l M (lt M1 K) := fun r hr => h1.tr (h M1 r hr)
theorem fr_ite {c : Prop} {d : Decidable c} (h1 : Fr p l M x) (h2 : Fr p l M y) : Fr p l M (@ite _ c d x y) := by
  intro r hr
  by_cases h : c
  · rw [if_pos h] at hr; exact h1 r hr
  · rw [if_neg h] at hr; exact h2 r hr
theorem fr_bR {β : Type} {X : Option β} {K : β → Option α} (h : ∀ v, Fr p l M (K v)) : Fr p l M (X.bind K) := by
  intro r hr
  obtain ⟨v, -, hv⟩ := Option.bind_eq_some_iff.mp hr
  exact h v r hv
theorem fr_bI {β : Type} {X : Option (β × Mem)} {K : β → Mem → Option α} (h1 : Fr Prod.snd l M X) (h : ∀ v M2, Fr p l M2 (K v M2)) : Fr p l M (bI X K) := by
  intro r hr
  obtain ⟨v, h0, hv⟩ := Option.bind_eq_some_iff.mp hr
  exact (h1 v h0).tr (h v.1 v.2 r hv)
theorem fr_bV {X : Option Mem} {K : Mem → Option α} (h1 : Fr id l M X) (h : ∀ M2, Fr p l M2 (K M2)) : Fr p l M (X.bind K) := by
  intro r hr
  obtain ⟨v, h0, hv⟩ := Option.bind_eq_some_iff.mp hr
  exact (h1 v h0).tr (h v r hv)
theorem fr_mono {l2 : List (Nat × Nat)} (h : Fr p l M x) (hl : ∀ e ∈ l, e ∈ l2) : Fr p l2 M x := fun r hr hR => ⟨(h r hr hR).1, fun c k hn => (h r hr hR).2 c k (fun ⟨e, h1, h2⟩ => hn ⟨e, hl e h1, h2⟩)⟩
end FRR
theorem fr_wIx {l : List (Nat × Nat)} {M : Mem} {c k : Nat} {v : Int32} (h : inS l c k) : FrS l M (wI M c k v) := by
  intro _
  refine ⟨rfl, fun a b hn => ⟨?_, rfl⟩⟩
  by_cases ha : a = c
  · subst ha
    by_cases hb : b = k
    · subst hb; exact absurd h hn
    · simp [wI, upd, hb]
  · simp [wI, ha]
theorem fr_wLx {l : List (Nat × Nat)} {M : Mem} {c k : Nat} {v : Int64} (h : inS l c k) : FrS l M (wL M c k v) := by
  intro _
  refine ⟨rfl, fun a b hn => ⟨rfl, ?_⟩⟩
  by_cases ha : a = c
  · subst ha
    by_cases hb : b = k
    · subst hb; exact absurd h hn
    · simp [wL, vp_updL, hb]
  · simp [wL, ha]
theorem fr_wIf {l : List (Nat × Nat)} {M : Mem} {c k : Nat} {v : Int32} (h : (c, k + 1) ∈ l) : FrS l M (wI M c k v) := fr_wIx ⟨_, h, rfl, Or.inr rfl⟩
theorem fr_wIa {l : List (Nat × Nat)} {M : Mem} {c k : Nat} {v : Int32} (h : (c, 0) ∈ l) : FrS l M (wI M c k v) := fr_wIx ⟨_, h, rfl, Or.inl rfl⟩
theorem fr_wLa {l : List (Nat × Nat)} {M : Mem} {c k : Nat} {v : Int64} (h : (c, 0) ∈ l) : FrS l M (wL M c k v) := fr_wLx ⟨_, h, rfl, Or.inl rfl⟩
theorem fr_wId {l : List (Nat × Nat)} {M : Mem} {k : Nat} {v : Int32} (h : (24, 0) ∈ l) (h2 : (25, 0) ∈ l) : FrS l M (wI M (M.2.2 22 4) k v) := by
  intro hR
  rcases hR with e | e
  · exact fr_wIx ⟨_, h, e.symm, Or.inl rfl⟩ (Or.inl e)
  · exact fr_wIx ⟨_, h2, e.symm, Or.inl rfl⟩ (Or.inr e)
theorem fr_cpI {l : List (Nat × Nat)} {M : Mem} {c sp d dp n : Nat} (h : (d, 0) ∈ l) : FrS l M (cpI M c sp d dp n) := by
  intro _
  refine ⟨rfl, fun a b hn => ⟨?_, rfl⟩⟩
  by_cases ha : a = d
  · exact absurd ⟨_, h, ha.symm, Or.inl rfl⟩ hn
  · simp [cpI, ha]
theorem fr_cpL {l : List (Nat × Nat)} {M : Mem} {c sp d dp n : Nat} (h : (d, 0) ∈ l) : FrS l M (cpL M c sp d dp n) := by
  intro _
  refine ⟨rfl, fun a b hn => ⟨rfl, ?_⟩⟩
  by_cases ha : a = d
  · exact absurd ⟨_, h, ha.symm, Or.inl rfl⟩ hn
  · simp [cpL, ha]
theorem fr_wIv {l : List (Nat × Nat)} {M : Mem} {c k : Nat} {v : Int32} (hc : c = 18 ∨ c = 19) (h : (18, 0) ∈ l) (h2 : (19, 0) ∈ l) : FrS l M (wI M c k v) := by
  rcases hc with rfl | rfl
  · exact fr_wIa h
  · exact fr_wIa h2
