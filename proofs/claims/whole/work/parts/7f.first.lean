/-! what holds at first -/
theorem CK_00 (md K : Nat) (h : OKK 0 K) : CK 0 0 0 md K = 0 := by
  rw [CK_rec h, if_pos]
  exact ansN_one (by show ([[]] : List (List Nat)).length ≤ 1; decide)
theorem SM_0 : SM 0 0 0 ab_M0 := ⟨rfl, rfl, rfl, fun md hm K hK => Or.inr (by
  rw [CK_00 md K hK]
  rcases show md = 0 ∨ md = 1 by omega with rfl | rfl <;> rfl)⟩
theorem SI_0 : SI ab_M0 := ⟨0, 0, 0, by omega, by omega, by omega, SM_0⟩
theorem IV_0 : IV 0 0 (fun _ => 0) (fun _ => 0) (fun _ => 0) (fun _ => 0) 0 0 (fun _ => 0) (fun _ => 0) (fun _ => 0) (fun _ => 0) 0 (fun _ => 0) none 0 (fun _ => 0) 0 (fun _ => 0) 0 (fun _ => 0) (fun _ => 6) (fun _ => 0) (fun _ _ => 0) ab_M0 := by
  have z : ∀ {P : Nat → Prop}, ∀ j, j < 0 → P j := fun j hj => absurd hj (Nat.not_lt_zero j)
  refine ⟨⟨by omega, by omega, z, z⟩, ⟨by omega, by omega, z⟩, ⟨by omega, z⟩, fun t h => (by cases h), ⟨by omega, z, fun i j hi => absurd hi (Nat.not_lt_zero i)⟩, ⟨by omega, z⟩, by omega, fun d hd => ⟨Nat.le_refl 6, fun h => absurd (show (6 : Nat) = 5 from h) (by decide), fun h => absurd (show (6 : Nat) ≤ 4 from h) (by decide), fun h => absurd (show (6 : Nat) = 0 from h) (by decide)⟩, ⟨rfl, rfl, z, z⟩, ⟨rfl, rfl, z, z⟩, ⟨rfl, rfl, z⟩, ⟨rfl, rfl, z⟩, ⟨rfl, z⟩, ⟨rfl, z⟩, ⟨rfl, Or.inl ⟨rfl, rfl⟩, fun j x h => by simp [slO] at h⟩, ⟨fun _ => rfl, fun t h => (by cases h)⟩, ⟨rfl, z⟩, ⟨rfl, z⟩, ⟨rfl, z⟩, ⟨rfl, z⟩, ⟨rfl, z⟩, ⟨rfl, z⟩, fun d hd => ⟨?_, fun h => absurd (show (6 : Nat) ≤ 5 from h) (by decide), fun h => absurd (show (6 : Nat) ≤ 4 from h) (by decide)⟩, fun d hd => ⟨fun _ => ?_, fun h => absurd (show (6 : Nat) = 5 from h) (by decide), fun h => absurd (show (6 : Nat) ≤ 4 from h) (by decide)⟩, rfl, SI_0, Or.inl ⟨rfl, rfl⟩⟩
  · rcases show d = 0 ∨ d = 1 ∨ d = 2 ∨ d = 3 ∨ d = 4 ∨ d = 5 by omega with rfl | rfl | rfl | rfl | rfl | rfl <;> rfl
  · rcases show d = 0 ∨ d = 1 ∨ d = 2 ∨ d = 3 ∨ d = 4 ∨ d = 5 by omega with rfl | rfl | rfl | rfl | rfl | rfl <;> rfl
theorem Inv_0 : Inv ab_M0 := IV_0.inv
