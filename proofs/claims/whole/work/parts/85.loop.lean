/-! THE CLAIM OUT OF ONE WALK OF THE LAW'S BODY. Your part is whole_start (and what it stands on); all else here is the same for every law, but numbers. -/
def R_law : String := "SecondBestLaw"
def lw_P (b : Addr) (xs : List Int32) (args : Array Value) (s : State) : Prop := args = #[.ref b] ∧ s.IntsAt b xs ∧ xs.length ≤ 384 ∧ (Jvm.Cond.and given_1 narrow_1).before args s = true
def lw_Q (_ : Array Value) (s : State) (o : Outcome) (t : State) : Prop := o = .returned (some (.int 1)) ∧ Framed s o t [] 600000 7302250
def lw_Z (below : List Frame) (a : Array Value) (s : State) : State → Prop := fun t => ∃ o, t.status = .running ∧ Ended t below o ∧ lw_Q a s o t
/-- the law's own end, with 1 on the stack, nothing written that was there before, its room as the claim has it -/
theorem lw_ret {p : Program} {l : Launch} {e : Env} {s : State} {m : MethodId} {below : List Frame} {meth : Method} {c : Code} {b : Nat} (hx : p.tables.exec = Jvm.exec) (hb : c.code = code) (hr : meth.sig.returnType = ret) (hlocks : meth.locks = false) {pc : Nat} {H : Heap} {ls : Array Slot} (hdg : decode code pc = .ok (.ireturn, 1)) : W p l e room_1 s m #[Value.ref b] below meth c H [] 600000 7302250 (lw_Z below #[Value.ref b] s) (F0 m pc ls [.int 1]) := by
  intro T hT X
  obtain ⟨fs, hret, hrun, hended, hW, hframe⟩ := X.leave (v := some (.int 1)) (hlocks := hlocks) (fun h => by rw [hr] at h; cases h)
  have hmeth' : T.vm.method? m = some meth := X.method'
  refine ⟨T.setFrames fs, ?_, .returned (some (.int 1)), hrun, hended, rfl, ⟨_, rfl⟩, hW, hframe⟩
  jvm_step X.here [X.here.top, hx, hb, hdg, hmeth', hr, ret, narrow_b1]
  (try refine ⟨rfl, ?_⟩); (try refine ⟨rfl, ?_⟩)
  first | (intro acts; rw [hret _ acts rfl rfl rfl]) | rw [hret _ _ rfl rfl rfl]
  exact Steps.refl _
/-- what holds at the law's entry: the machine, the code, the tables' words (any of lw_tbl by 'hts w (by decide +kernel)'), the script of L ints xs at the cell b, what the Statement gives of the start (any of its parts by flat_of_before) -/
def lw_At (p : Program) (s : State) (m : MethodId) (meth : Method) (c : Code) (b L : Nat) (xs : Nat → Int32) : Prop :=
  p.tables.exec = Jvm.exec ∧ c.code = code ∧ meth.sig.returnType = ret ∧ c.maxLocals = 4 ∧ s.vm.findClass R_law = some m.cls ∧ (∀ w ∈ lw_tbl, w.before #[Value.ref b] s = true) ∧ va_X b L xs s s.heap ∧ b < s.heap.size ∧ meth.locks = false ∧ (Jvm.Cond.and given_1 narrow_1).before #[Value.ref b] s = true

theorem ab_room : 2000 ≤ room_1.frames ∧ 41 * 2000 ≤ room_1.locals ∧ 600000 ≤ room_1.cells ∧ 7302250 ≤ room_1.slots := by decide +kernel
/-- from the law's loop on -/
theorem lw_loop {p : Program} {l : Launch} {e : Env} {s : State} {m : MethodId} {below : List Frame} {meth : Method} {c : Code} {b L : Nat} {xs : Nat → Int32} (hL : L ≤ 384) (C0 : lw_At p s m meth c b L xs) {D : va_G} {T : ClassId × ClassId × ClassId} (hK : va_K D ab_cls (ab_tys T) s) (hts : ∀ w ∈ BW, w.before #[Value.ref b] s = true) {t0 t1 t2 : Nat} (hSF : ab_SF0 t0 t1 t2 (fun q => s.heap.size ≤ q) s) (a1 a2 : Nat → Nat) {k z : Nat} (hk : k ≤ 600000) (hz : z ≤ 7302250) : CWo (p, l, e, room_1, s, m, #[Value.ref b], below, meth, c, 600000, 7302250) D (fun q => s.heap.size ≤ q) 4 (lw_Z below #[Value.ref b] s) 18 [(3, .int 0), (2, .ref (a2 0)), (1, .ref (a1 0)), (0, .ref b)] [] k z (wX10 T a1 ++ wX11 T a2) := by
  obtain ⟨hx, hb, hr, hml, hown, htt, hX, hbl, hlocks, hgv⟩ := id C0
  intro H locs ls hP hD hS hl
  rw [ab_w0 D T a1 a2 t0 t1 t2 b] at hP hD
  obtain ⟨hok, hGA⟩ := ab_ok0 hD
  have hnb : ¬ ab_A (ab_G D T a1 a2 t0 t1 t2 b) b := fun h => absurd (hGA b h) (Nat.not_le.mpr hbl)
  obtain ⟨M1, hM1⟩ := law_run (L := L) (xs := xs) (by omega) 100 0 ab_M0 (by omega) (Nat.zero_le _) Inv_0
  rw [nI_0] at hM1
  refine va_forget (fun q hq => hS.2.2 q hq) ?_
  refine W.widen (k := 600000) (n := 7302250) hk hz ?_
  refine w_law_L18 (G := ab_G D T a1 a2 t0 t1 t2 b) (E := (p, l, e, room_1, s, m, #[Value.ref b], below, meth, c, 600000, 7302250)) (QL := fun _ => lw_Z below #[Value.ref b] s) (rt := ret) (L := L) (xs := xs) hok ⟨hX, hbl, hnb⟩ ?_ ⟨hx, hb, hml, hown, hts, hK, hok, hSF.of hGA, hr, hlocks, ab_room⟩ 100 0 ab_M0 M1 hM1 H [] ls hP ⟨hS.1, fun q h1 h2 => hS.2.1 q h1 (Nat.not_le.mpr h1), fun q hq => by cases hq⟩ (lv_sub hl [3, 2, 1, 0] rfl)
  intro lv M a ha H locs ls hP hS hl
  refine va_forget (fun q hq => hGA _ (hS.2.2 q hq)) ?_
  exact lw_ret hx hb hr hlocks (by decide +kernel)
