set_option maxHeartbeats 4000000 in
set_option maxRecDepth 100000 in
/-- YOUR PART: from the entry, for every script of at most 384 ints, the law comes to its end with true -/
theorem whole_start {p : Program} {e : Env} {s : State} {m : MethodId} {below : List Frame} {meth : Method} {c : Code} (l : Launch) {b L : Nat} {xs : Nat → Int32} (hL : L ≤ 384) (C0 : lw_At p s m meth c b L xs) : W p l e room_1 s m #[Value.ref b] below meth c s.heap [] 0 0 (lw_Z below #[Value.ref b] s) (entryFrame m ([Value.ref b] : List Value).toArray 4) := by
  obtain ⟨hx, hb, hr, hml, hown, htt, hX, hbl, hlocks, hgv⟩ := id C0
  have hts : ∀ w ∈ BW, w.before #[Value.ref b] s = true := fun w hw => htt w (List.mem_filter.mp hw).1
  obtain ⟨D, T, hK⟩ := ab_K0 hts
  obtain ⟨t0, t1, t2, hSF⟩ := ab_statics htt hgv
  have hN := ab_NW0 htt
  have hl := lv_entry ([.ref b]) (n := 4) (Nat.le_of_ble_eq_true rfl)
  rw [lg_entry_eq]
  have B : Cx (p, l, e, room_1, s, m, #[Value.ref b], below, meth, c, 600000, 7302250) D T (fun q => s.heap.size ≤ q) RL code 4 2000 600000 7302250 := ⟨hx, hb, hml, hown, hts, hK, fun q h => h, ab_room⟩
  have key : CWo (p, l, e, room_1, s, m, #[Value.ref b], below, meth, c, 600000, 7302250) D (fun q => s.heap.size ≤ q) 4 (lw_Z below #[Value.ref b] s) 0 [(0, .ref b)] [] 0 0 [] := by
    refine cw_new B knL_7 (by decide +kernel) (Nat.le_of_ble_eq_true rfl) (Nat.le_of_ble_eq_true rfl) (fun q0 => ?_)
    refine cw_dup B (by decide +kernel) rfl ?_
    refine cw_initL (idx := 9) B hN (ctX10 _ _ _ _) kmL_9 kcX10 (Nat.le_of_ble_eq_true rfl) (Nat.le_of_ble_eq_true rfl) (by decide +kernel) (Nat.le_of_ble_eq_true rfl) (Nat.le_of_ble_eq_true rfl) (fun a1 ha1 => ?_)
    subst ha1
    refine cw_astore (k0 := 1) B [(1, .ref (a1 0)), (0, .ref b)] (by decide +kernel) rfl (by decide) rfl ?_
    refine cw_eq (ws2 := wX10 T a1) rfl ?_
    refine cw_new B knL_10 (by decide +kernel) (Nat.le_of_ble_eq_true rfl) (Nat.le_of_ble_eq_true rfl) (fun q1 => ?_)
    refine cw_dup B (by decide +kernel) rfl ?_
    refine cw_initL (idx := 12) B hN (ctX11 _ _ _ _) kmL_12 kcX11 (Nat.le_of_ble_eq_true rfl) (Nat.le_of_ble_eq_true rfl) (by decide +kernel) (Nat.le_of_ble_eq_true rfl) (Nat.le_of_ble_eq_true rfl) (fun a2 ha2 => ?_)
    subst ha2
    refine cw_astore (k0 := 2) B [(2, .ref (a2 0)), (1, .ref (a1 0)), (0, .ref b)] (by decide +kernel) rfl (by decide) rfl ?_
    refine cw_iconst (n := 0) (v := 0) B (by decide +kernel) (by decide) ?_
    refine cw_istore (k0 := 3) B [(3, .int 0), (2, .ref (a2 0)), (1, .ref (a1 0)), (0, .ref b)] (by decide +kernel) rfl (by decide) rfl ?_
    exact lw_loop hL C0 hK hts hSF a1 a2 (Nat.le_of_ble_eq_true rfl) (Nat.le_of_ble_eq_true rfl)
  exact key s.heap [] _ (fun k q h => by simp at h) ⟨fun i j p q h => by simp at h, fun k q h => by simp at h⟩ va_S.rf hl
