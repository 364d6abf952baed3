/-! what holds at first -/
theorem CK_00 (md K : Nat) (h : OKK 0 K) : CK 0 0 0 md K = 0 := by
  rw [CK_rec h, if_pos]
  exact ansN_one (by show ([[]] : List (List Nat)).length ≤ 1; decide)
theorem SM_0 : SM 0 0 0 ab_M0 := ⟨rfl, rfl, rfl, fun md hm K hK => Or.inr (by
  rw [CK_00 md K hK]
  rcases show md = 0 ∨ md = 1 by omega with rfl | rfl <;> rfl)⟩
theorem SI_0 : SI ab_M0 := ⟨0, 0, 0, by omega, by omega, by omega, SM_0⟩
