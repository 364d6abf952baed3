/-! the calls that change something -/
section STA
variable {np : Nat} {nm : Nat} {wo : Nat → Nat} {wi : Nat → Nat} {lo : Nat → Nat} {ct : Nat → Nat} {d : Nat} {k : Nat} {wh : Nat → Nat} {nu : Nat → Nat} {be : Nat → Nat} {af : Nat → Nat} {t : Nat} {tp : Nat → Nat} {lw : LwO} {n : Nat} {ro : Nat → Nat} {nb : Nat} {kd : Nat → Nat} {rn : Nat} {tr : Nat → Nat} {ty : Nat → Nat} {nn : Nat → Nat} {el : Nat → Nat → Int64} {M M1 : Mem} {l : List (Nat × Nat)}
theorem OKF.add (hO : OKF np nm wo wi lo ct) (hn : nm < 12) {a b : Nat} (ha : a < np) (hb : b < np) (hab : a ≠ b) : OKF np (nm + 1) wo (upN wi nm a) (upN lo nm b) (upN ct nm 1) := by
  obtain ⟨a1, a2, a3, a4⟩ := hO
  refine ⟨a1, by omega, a3, fun m hm => ?_⟩
  have e1 : upN wi nm a m = if m = nm then a else wi m := rfl
  have e2 : upN lo nm b m = if m = nm then b else lo m := rfl
  have e3 : upN ct nm 1 m = if m = nm then 1 else ct m := rfl
  rw [e1, e2, e3]
  by_cases e : m = nm
  · rw [if_pos e, if_pos e, if_pos e]; exact ⟨ha, hb, hab, by omega⟩
  · rw [if_neg e, if_neg e, if_neg e]; exact a4 m (by omega)
end STA
