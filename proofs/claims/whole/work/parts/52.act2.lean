def aB (k : Nat) : List Nat := if k = 1 ∨ k = 4 ∨ k = 7 then [20, 1] else if k = 6 then [70, 1] else [1]
def vB (b k : Nat) (x : Int32) : Int32 := if k = 1 ∨ k = 4 ∨ k = 7 then x + nI b + 3 else if k = 6 then (x + nI b) * 2 else x + nI b
def aA (o k : Nat) : List Nat := if k = 3 ∨ k = 5 then [40, 11] else if k = 4 ∨ k = 7 then 50 :: ([11] ++ aB o) else [11]
def vA (b o k : Nat) (x : Int32) : Int32 := if k = 3 ∨ k = 5 then (x ^^^ nI b) * 3 else if k = 4 ∨ k = 7 then (x ^^^ nI b) - vB b o 2 else x ^^^ nI b
def aS (o k : Nat) : List Nat := if k = 3 ∨ k = 5 then 41 :: 30 :: 10 :: aB o else if k = 2 then 30 :: 10 :: aB o else if k = 7 then 80 :: ((10 :: aB o) ++ aA o o) else 10 :: aB o
def vS (b o k : Nat) (x : Int32) : Int32 := if k = 3 ∨ k = 5 then -(vB b o (x + 1) * 2) else if k = 2 then -(vB b o x * 2) else if k = 7 then vB b o x * 2 + vA b o o 2 else vB b o x * 2
def aT (o k : Nat) : List Nat := if k = 5 then 60 :: 2 :: (aS o o ++ aA o o) else if k = 7 then 81 :: 2 :: (aS o o ++ aA o o) else 2 :: (aS o o ++ aA o o)
def vT (b o k : Nat) (x : Int32) : Int32 := if k = 5 then (vS b o o x - vA b o o 1) ^^^ 5 else if k = 7 then (vS b o o x - vA b o o 1) - 1 else vS b o o x - vA b o o 1
section ACTM
variable {b o : Nat}
theorem wm_1 (x : Int32) : Wk (Pm b o) (fun M => (f_X11_begins (nI 1) M).bind fun M2 => (some (x + (M2.1 47 45), M2))) [1] (x + nI b) :=
  Wk.beg (wkb_m 1) (Wk.cg (X := fun M => some (x + nI b, M)) (fun rn tr M h => by rw [h.2.1]) (wk_ret pm_e))
theorem wm_11 (x : Int32) : Wk (Pm b o) (fun M => (f_X11_begins (nI 11) M).bind fun M2 => (some (x ^^^ (M2.1 47 45), M2))) [11] (x ^^^ nI b) :=
  Wk.beg (wkb_m 11) (Wk.cg (X := fun M => some (x ^^^ nI b, M)) (fun rn tr M h => by rw [h.2.1]) (wk_ret pm_e))
theorem wm_beats0 (d : Nat) (x : Int32) : Wk (Pm b o) (f_X11_beatsAs (d + 1) (nI 0) x) [1] (x + nI b) := wm_1 x
theorem wm_beats (d : Nat) {k : Nat} (hk : k < 8) (x : Int32) : Wk (Pm b o) (f_X11_beatsAs (d + 2) (nI k) x) (aB k) (vB b k x) := by
  have h8 : k = 0 ∨ k = 1 ∨ k = 2 ∨ k = 3 ∨ k = 4 ∨ k = 5 ∨ k = 6 ∨ k = 7 := by omega
  rcases h8 with rfl | rfl | rfl | rfl | rfl | rfl | rfl | rfl
  · exact wm_1 x
  · exact Wk.beg (wkb_m 20) ((wm_beats0 d x).map (· + 3))
  · exact wm_1 x
  · exact wm_1 x
  · exact Wk.beg (wkb_m 20) ((wm_beats0 d x).map (· + 3))
  · exact wm_1 x
  · exact Wk.beg (wkb_m 70) ((wm_beats0 d x).map (· * 2))
  · exact Wk.beg (wkb_m 20) ((wm_beats0 d x).map (· + 3))
theorem wm_bO (ho : o < 8) (x : Int32) (g : Int32 → Int32) : Wk (Pm b o) (fun M => bI (f_X11_beatsAs FD (M.1 47 44) x M) fun a m => some (g a, m)) (aB o) (g (vB b o x)) :=
  Wk.cg (X := fun M => bI (f_X11_beatsAs FD (nI o) x M) fun a m => some (g a, m)) (fun rn tr M h => by rw [h.2.2]) ((wm_beats 38 ho x).map g)
theorem wm_asks (ho : o < 8) (d : Nat) {k : Nat} (hk : k < 8) (x : Int32) : Wk (Pm b o) (f_X11_asksAs (d + 2) (nI k) x) (aA o k) (vA b o k x) := by
  have h8 : k = 0 ∨ k = 1 ∨ k = 2 ∨ k = 3 ∨ k = 4 ∨ k = 5 ∨ k = 6 ∨ k = 7 := by omega
  rcases h8 with rfl | rfl | rfl | rfl | rfl | rfl | rfl | rfl
  · exact wm_11 x
  · exact wm_11 x
  · exact wm_11 x
  · exact Wk.beg (wkb_m 40) (Wk.map (X := f_X11_asksAs (d + 1) (nI 2) x) (· * 3) (wm_11 x))
  · exact Wk.beg (wkb_m 50) (Wk.seq (X := f_X11_asksAs (d + 1) (nI 1) x) (wm_11 x) (wm_bO ho 2 (fun a => (x ^^^ nI b) - a)))
  · exact Wk.beg (wkb_m 40) (Wk.map (X := f_X11_asksAs (d + 1) (nI 2) x) (· * 3) (wm_11 x))
  · exact wm_11 x
  · exact Wk.beg (wkb_m 50) (Wk.seq (X := f_X11_asksAs (d + 1) (nI 1) x) (wm_11 x) (wm_bO ho 2 (fun a => (x ^^^ nI b) - a)))
theorem wm_aO (ho : o < 8) (x : Int32) (g : Int32 → Int32) : Wk (Pm b o) (fun M => bI (f_X11_asksAs FD (M.1 47 44) x M) fun a m => some (g a, m)) (aA o o) (g (vA b o o x)) :=
  Wk.cg (X := fun M => bI (f_X11_asksAs FD (nI o) x M) fun a m => some (g a, m)) (fun rn tr M h => by rw [h.2.2]) ((wm_asks ho 38 ho x).map g)
theorem wm_10 (ho : o < 8) (x : Int32) : Wk (Pm b o) (fun M => (f_X11_begins (nI 10) M).bind fun M2 => bI (f_X11_beatsAs FD (M2.1 47 44) x M2) fun x3 M4 => (some (x3 * (2 : Int32), M4))) (10 :: aB o) (vB b o x * 2) := Wk.beg (wkb_m 10) (wm_bO ho x (· * 2))
theorem wm_stands0 (ho : o < 8) (d : Nat) (x : Int32) : Wk (Pm b o) (f_X11_standsAs (d + 1) (nI 0) x) (10 :: aB o) (vB b o x * 2) := wm_10 ho x
theorem wm_stands4 (ho : o < 8) (d : Nat) (x : Int32) : Wk (Pm b o) (f_X11_standsAs (d + 1) (nI 4) x) (10 :: aB o) (vB b o x * 2) := wm_10 ho x
theorem wm_stands2 (ho : o < 8) (d : Nat) (x : Int32) : Wk (Pm b o) (f_X11_standsAs (d + 2) (nI 2) x) (30 :: 10 :: aB o) (-(vB b o x * 2)) := Wk.beg (wkb_m 30) ((wm_stands0 ho d x).map (- ·))
theorem wm_stands (ho : o < 8) (d : Nat) {k : Nat} (hk : k < 8) (x : Int32) : Wk (Pm b o) (f_X11_standsAs (d + 3) (nI k) x) (aS o k) (vS b o k x) := by
  have h8 : k = 0 ∨ k = 1 ∨ k = 2 ∨ k = 3 ∨ k = 4 ∨ k = 5 ∨ k = 6 ∨ k = 7 := by omega
  rcases h8 with rfl | rfl | rfl | rfl | rfl | rfl | rfl | rfl
  · exact wm_10 ho x
  · exact wm_10 ho x
  · exact wm_stands2 ho (d + 1) x
  · exact Wk.beg (wkb_m 41) ((wm_stands2 ho d (x + 1)).map id)
  · exact wm_10 ho x
  · exact Wk.beg (wkb_m 41) ((wm_stands2 ho d (x + 1)).map id)
  · exact wm_10 ho x
  · exact Wk.beg (wkb_m 80) (Wk.seq (wm_stands4 ho (d + 1) x) (wm_aO ho 2 (fun a => vB b o x * 2 + a)))
theorem wm_2 (ho : o < 8) (x : Int32) : Wk (Pm b o) (fun M => (f_X11_begins (nI 2) M).bind fun M2 => bI (f_X11_standsAs FD (M2.1 47 44) x M2) fun x3 M4 => bI (f_X11_asksAs FD (M4.1 47 44) (1 : Int32) M4) fun x5 M6 => (some (x3 - x5, M6))) (2 :: (aS o o ++ aA o o)) (vS b o o x - vA b o o 1) :=
  Wk.beg (wkb_m 2) (Wk.cg (X := fun M => bI (f_X11_standsAs FD (nI o) x M) fun x3 M4 => bI (f_X11_asksAs FD (M4.1 47 44) (1 : Int32) M4) fun x5 M6 => (some (x3 - x5, M6))) (fun rn tr M h => by rw [h.2.2]) (Wk.seq (wm_stands ho 37 ho x) (wm_aO ho 1 (fun a => vS b o o x - a))))
theorem wm_tells (ho : o < 8) (d : Nat) {k : Nat} (hk : k < 8) (x : Int32) : Wk (Pm b o) (f_X11_tellsAs (d + 2) (nI k) x) (aT o k) (vT b o k x) := by
  have h8 : k = 0 ∨ k = 1 ∨ k = 2 ∨ k = 3 ∨ k = 4 ∨ k = 5 ∨ k = 6 ∨ k = 7 := by omega
  rcases h8 with rfl | rfl | rfl | rfl | rfl | rfl | rfl | rfl
  · exact wm_2 ho x
  · exact wm_2 ho x
  · exact wm_2 ho x
  · exact wm_2 ho x
  · exact wm_2 ho x
  · exact Wk.beg (wkb_m 60) (Wk.map (X := f_X11_tellsAs (d + 1) (nI 3) x) (· ^^^ 5) (wm_2 ho x))
  · exact wm_2 ho x
  · exact Wk.beg (wkb_m 81) (Wk.map (X := f_X11_tellsAs (d + 1) (nI 4) x) (· - 1) (wm_2 ho x))
end ACTM
def aAll (o a : Nat) : List Nat := if a = 0 then aB o else if a = 1 then aS o o else if a = 2 then aA o o else aT o o
def vAll (b o a : Nat) (x : Int32) : Int32 := if a = 0 then vB b o x else if a = 1 then vS b o o x else if a = 2 then vA b o o x else vT b o o x
section ACTC
variable {b o : Nat}
theorem wc_res (d : Nat) {k a : Nat} (hk : k < 8) (ha : a < 4) (x : Int32) {dep : Nat} (hd : dep < 30) {l : List Nat} {v : Int32} (h : Wk (Pc b o) (f_X1_run (f_X1_from d) (nI (resB k a)) x (nI (dep + 1))) l v) : Wk (Pc b o) (f_X1_from (d + 1) (nI k) (nI a) x (nI dep)) (resB k a :: l) v := by
  have hd2 : ¬ (30 : Int32) ≤ nI dep := fun q => by have := (n_le (a := 30) (by omega) (by omega)).mp q; omega
  refine Wk.cg (X := fun M => (f_X1_begin (nI (resB k a)) M).bind fun M5 => bI (f_X1_run (f_X1_from d) (nI (resB k a)) x (nI (dep + 1)) M5) fun v m => some (v, m)) (fun rn tr M _ => ?_) (Wk.beg (wkb_c (resB k a)) (h.map id))
  have := from_res (rc := f_X1_from d) 4995 hk ha x hd2 M
  rw [show nI dep + 1 = nI (dep + 1) from n_s1 dep] at this
  exact this
theorem wc_run1 {rc : Int32 → Int32 → Int32 → Int32 → Mem → Option (Int32 × Mem)} (x dp : Int32) : Wk (Pc b o) (f_X1_run rc (nI 1) x dp) [] (x + nI b) := Wk.cg (X := fun M => some (x + nI b, M)) (fun rn tr M h => by show some (x + M.1 40 4, M) = _; rw [h.2.1]) (wk_ret pc_e)
theorem wc_run11 {rc : Int32 → Int32 → Int32 → Int32 → Mem → Option (Int32 × Mem)} (x dp : Int32) : Wk (Pc b o) (f_X1_run rc (nI 11) x dp) [] (x ^^^ nI b) := Wk.cg (X := fun M => some (x ^^^ nI b, M)) (fun rn tr M h => by show some (x ^^^ M.1 40 4, M) = _; rw [h.2.1]) (wk_ret pc_e)
theorem wc_own (hb : b < 50) {rc : Int32 → Int32 → Int32 → Int32 → Mem → Option (Int32 × Mem)} {a x dp : Int32} {l : List Nat} {v : Int32} (h : Wk (Pc b o) (rc (nI o) a x dp) l v) : Wk (Pc b o) (f_X1_own rc a x dp) l v :=
  Wk.cg (X := fun M => bI (rc (nI o) a x dp M) fun v m => some (id v, m)) (fun rn tr M hP => by unfold f_X1_own; rw [hP.2.1, ck_t (okI_42 hb), n_clamp (by omega), hP.2.2]; rfl) (h.map id)
theorem wc_above {rc : Int32 → Int32 → Int32 → Int32 → Mem → Option (Int32 × Mem)} {k : Int32} {u : Nat} {a x dp : Int32} {l : List Nat} {v : Int32} (hk : okS 0 k = true) (hu : (ab_st 0).getD k.toNatClampNeg 0 = nI u) (h : Wk (Pc b o) (rc (nI u) a x dp) l v) : Wk (Pc b o) (f_X1_above rc k a x dp) l v :=
  Wk.cg (X := fun M => bI (rc (nI u) a x dp M) fun v m => some (id v, m)) (fun rn tr M hP => by unfold f_X1_above; rw [ck_t hk, hu]; rfl) (h.map id)
theorem wc_beats0 (d : Nat) {k : Nat} (hk : k = 0 ∨ k = 2 ∨ k = 3 ∨ k = 5) (x : Int32) {dep : Nat} (hd : dep < 20) : Wk (Pc b o) (f_X1_from (d + 1) (nI k) (nI 0) x (nI dep)) [1] (x + nI b) := by
  rcases hk with rfl | rfl | rfl | rfl <;> exact wc_res d (by omega) (by omega) x (by omega) (wc_run1 x _)
theorem wc_beats (d : Nat) {k : Nat} (hk : k < 8) (x : Int32) {dep : Nat} (hd : dep < 19) : Wk (Pc b o) (f_X1_from (d + 2) (nI k) (nI 0) x (nI dep)) (aB k) (vB b k x) := by
  have h8 : k = 0 ∨ k = 1 ∨ k = 2 ∨ k = 3 ∨ k = 4 ∨ k = 5 ∨ k = 6 ∨ k = 7 := by omega
  have c20 : Wk (Pc b o) (f_X1_run (f_X1_from (d + 1)) (nI 20) x (nI (dep + 1))) [1] (x + nI b + 3) := Wk.map (· + 3) (wc_above (u := 0) rfl rfl (wc_beats0 d (by omega) x (by omega)))
  have c70 : Wk (Pc b o) (f_X1_run (f_X1_from (d + 1)) (nI 70) x (nI (dep + 1))) [1] ((x + nI b) * 2) := Wk.map (· * 2) (wc_above (u := 0) rfl rfl (wc_beats0 d (by omega) x (by omega)))
  rcases h8 with rfl | rfl | rfl | rfl | rfl | rfl | rfl | rfl
  · exact wc_beats0 _ (by omega) x (by omega)
  · exact wc_res _ (by omega) (by omega) x (by omega) c20
  · exact wc_beats0 _ (by omega) x (by omega)
  · exact wc_beats0 _ (by omega) x (by omega)
  · exact wc_res _ (by omega) (by omega) x (by omega) c20
  · exact wc_beats0 _ (by omega) x (by omega)
  · exact wc_res _ (by omega) (by omega) x (by omega) c70
  · exact wc_res _ (by omega) (by omega) x (by omega) c20
theorem wc_asks0 (d : Nat) {k : Nat} (hk : k = 0 ∨ k = 1 ∨ k = 2 ∨ k = 6) (x : Int32) {dep : Nat} (hd : dep < 20) : Wk (Pc b o) (f_X1_from (d + 1) (nI k) (nI 2) x (nI dep)) [11] (x ^^^ nI b) := by
  rcases hk with rfl | rfl | rfl | rfl <;> exact wc_res d (by omega) (by omega) x (by omega) (wc_run11 x _)
theorem wc_asks (hb : b < 50) (ho : o < 8) (d : Nat) {k : Nat} (hk : k < 8) (x : Int32) {dep : Nat} (hd : dep < 18) : Wk (Pc b o) (f_X1_from (d + 3) (nI k) (nI 2) x (nI dep)) (aA o k) (vA b o k x) := by
  have h8 : k = 0 ∨ k = 1 ∨ k = 2 ∨ k = 3 ∨ k = 4 ∨ k = 5 ∨ k = 6 ∨ k = 7 := by omega
  have c40 : Wk (Pc b o) (f_X1_run (f_X1_from (d + 2)) (nI 40) x (nI (dep + 1))) [11] ((x ^^^ nI b) * 3) := Wk.map (· * 3) (wc_above (u := 2) rfl rfl (wc_asks0 _ (by omega) x (by omega)))
  have c50 : Wk (Pc b o) (f_X1_run (f_X1_from (d + 2)) (nI 50) x (nI (dep + 1))) ([11] ++ aB o) ((x ^^^ nI b) - vB b o 2) := Wk.seq (X := f_X1_above (f_X1_from (d + 2)) 4 2 x (nI (dep + 1))) (K := fun x15 M16 => bI (f_X1_own (f_X1_from (d + 2)) 0 2 (nI (dep + 1)) M16) fun x17 M18 => some (x15 - x17, M18)) (wc_above (u := 1) rfl rfl (wc_asks0 _ (dep := dep + 1) (by omega) x (by omega))) (Wk.map (fun a => (x ^^^ nI b) - a) (wc_own hb (wc_beats d ho 2 (dep := dep + 1) (by omega))))
  rcases h8 with rfl | rfl | rfl | rfl | rfl | rfl | rfl | rfl
  · exact wc_asks0 _ (by omega) x (by omega)
  · exact wc_asks0 _ (by omega) x (by omega)
  · exact wc_asks0 _ (by omega) x (by omega)
  · exact wc_res _ (by omega) (by omega) x (by omega) c40
  · exact wc_res _ (by omega) (by omega) x (by omega) c50
  · exact wc_res _ (by omega) (by omega) x (by omega) c40
  · exact wc_asks0 _ (by omega) x (by omega)
  · exact wc_res _ (by omega) (by omega) x (by omega) c50
theorem wc_stands0 (hb : b < 50) (ho : o < 8) (d : Nat) {k : Nat} (hk : k = 0 ∨ k = 1 ∨ k = 4 ∨ k = 6) (x : Int32) {dep : Nat} (hd : dep < 18) : Wk (Pc b o) (f_X1_from (d + 3) (nI k) (nI 1) x (nI dep)) (10 :: aB o) (vB b o x * 2) := by
  have c10 : Wk (Pc b o) (f_X1_run (f_X1_from (d + 2)) (nI 10) x (nI (dep + 1))) (aB o) (vB b o x * 2) := Wk.map (· * 2) (wc_own hb (wc_beats d ho x (by omega)))
  rcases hk with rfl | rfl | rfl | rfl <;> exact wc_res _ (by omega) (by omega) x (by omega) c10
theorem wc_stands2 (hb : b < 50) (ho : o < 8) (d : Nat) (x : Int32) {dep : Nat} (hd : dep < 17) : Wk (Pc b o) (f_X1_from (d + 4) (nI 2) (nI 1) x (nI dep)) (30 :: 10 :: aB o) (-(vB b o x * 2)) :=
  wc_res _ (by omega) (by omega) x (by omega) (Wk.map (fun a => -a) (wc_above (u := 0) rfl rfl (wc_stands0 hb ho d (by omega) x (by omega))))
theorem wc_stands (hb : b < 50) (ho : o < 8) (d : Nat) {k : Nat} (hk : k < 8) (x : Int32) {dep : Nat} (hd : dep < 16) : Wk (Pc b o) (f_X1_from (d + 5) (nI k) (nI 1) x (nI dep)) (aS o k) (vS b o k x) := by
  have h8 : k = 0 ∨ k = 1 ∨ k = 2 ∨ k = 3 ∨ k = 4 ∨ k = 5 ∨ k = 6 ∨ k = 7 := by omega
  have c41 : Wk (Pc b o) (f_X1_run (f_X1_from (d + 4)) (nI 41) x (nI (dep + 1))) (30 :: 10 :: aB o) (-(vB b o (x + 1) * 2)) := Wk.map id (wc_above (u := 2) rfl rfl (wc_stands2 hb ho _ (x + 1) (by omega)))
  have c80 : Wk (Pc b o) (f_X1_run (f_X1_from (d + 4)) (nI 80) x (nI (dep + 1))) ((10 :: aB o) ++ aA o o) (vB b o x * 2 + vA b o o 2) := Wk.seq (X := f_X1_above (f_X1_from (d + 4)) 7 1 x (nI (dep + 1))) (K := fun x15 M16 => bI (f_X1_own (f_X1_from (d + 4)) 2 2 (nI (dep + 1)) M16) fun x17 M18 => some (x15 + x17, M18)) (wc_above (u := 4) rfl rfl (wc_stands0 hb ho _ (dep := dep + 1) (by omega) x (by omega))) (Wk.map (fun a => vB b o x * 2 + a) (wc_own hb (wc_asks hb ho (d + 1) ho 2 (dep := dep + 1) (by omega))))
  rcases h8 with rfl | rfl | rfl | rfl | rfl | rfl | rfl | rfl
  · exact wc_stands0 hb ho _ (by omega) x (by omega)
  · exact wc_stands0 hb ho _ (by omega) x (by omega)
  · exact wc_stands2 hb ho _ x (by omega)
  · exact wc_res _ (by omega) (by omega) x (by omega) c41
  · exact wc_stands0 hb ho _ (by omega) x (by omega)
  · exact wc_res _ (by omega) (by omega) x (by omega) c41
  · exact wc_stands0 hb ho _ (by omega) x (by omega)
  · exact wc_res _ (by omega) (by omega) x (by omega) c80
theorem wc_run2 (hb : b < 50) (ho : o < 8) (d : Nat) (x : Int32) {dep : Nat} (hd : dep < 15) : Wk (Pc b o) (f_X1_run (f_X1_from (d + 5)) (nI 2) x (nI dep)) (aS o o ++ aA o o) (vS b o o x - vA b o o 1) :=
  Wk.seq (X := f_X1_own (f_X1_from (d + 5)) 1 x (nI dep)) (K := fun x15 M16 => bI (f_X1_own (f_X1_from (d + 5)) 2 1 (nI dep) M16) fun x17 M18 => some (x15 - x17, M18)) (wc_own hb (wc_stands hb ho d ho x (dep := dep) (by omega))) (Wk.map (fun a => vS b o o x - a) (wc_own hb (wc_asks hb ho (d + 2) ho 1 (dep := dep) (by omega))))
theorem wc_tells (hb : b < 50) (ho : o < 8) (d : Nat) {k : Nat} (hk : k < 8) (x : Int32) {dep : Nat} (hd : dep < 10) : Wk (Pc b o) (f_X1_from (d + 7) (nI k) (nI 3) x (nI dep)) (aT o k) (vT b o k x) := by
  have h8 : k = 0 ∨ k = 1 ∨ k = 2 ∨ k = 3 ∨ k = 4 ∨ k = 5 ∨ k = 6 ∨ k = 7 := by omega
  have c60 : Wk (Pc b o) (f_X1_run (f_X1_from (d + 6)) (nI 60) x (nI (dep + 1))) (2 :: (aS o o ++ aA o o)) ((vS b o o x - vA b o o 1) ^^^ 5) := Wk.map (· ^^^ 5) (wc_above (u := 3) rfl rfl (wc_res (a := 3) (k := 3) _ (by omega) (by omega) x (by omega) (wc_run2 hb ho d x (by omega))))
  have c81 : Wk (Pc b o) (f_X1_run (f_X1_from (d + 6)) (nI 81) x (nI (dep + 1))) (2 :: (aS o o ++ aA o o)) ((vS b o o x - vA b o o 1) - 1) := Wk.map (· - 1) (wc_above (u := 4) rfl rfl (wc_res (a := 3) (k := 4) _ (by omega) (by omega) x (by omega) (wc_run2 hb ho d x (by omega))))
  rcases h8 with rfl | rfl | rfl | rfl | rfl | rfl | rfl | rfl
  · exact wc_res _ (by omega) (by omega) x (by omega) (wc_run2 hb ho _ x (by omega))
  · exact wc_res _ (by omega) (by omega) x (by omega) (wc_run2 hb ho _ x (by omega))
  · exact wc_res _ (by omega) (by omega) x (by omega) (wc_run2 hb ho _ x (by omega))
  · exact wc_res _ (by omega) (by omega) x (by omega) (wc_run2 hb ho _ x (by omega))
  · exact wc_res _ (by omega) (by omega) x (by omega) (wc_run2 hb ho _ x (by omega))
  · exact wc_res _ (by omega) (by omega) x (by omega) c60
  · exact wc_res _ (by omega) (by omega) x (by omega) (wc_run2 hb ho _ x (by omega))
  · exact wc_res _ (by omega) (by omega) x (by omega) c81
theorem wc_all (hb : b < 50) (ho : o < 8) {a : Nat} (ha : a < 4) (x : Int32) : Wk (Pc b o) (f_X1_from FD (nI o) (nI a) x 0) (aAll o a) (vAll b o a x) := by
  have h4 : a = 0 ∨ a = 1 ∨ a = 2 ∨ a = 3 := by omega
  rcases h4 with rfl | rfl | rfl | rfl
  · exact wc_beats 38 ho x (dep := 0) (by omega)
  · exact wc_stands hb ho 35 ho x (dep := 0) (by omega)
  · exact wc_asks hb ho 37 ho x (dep := 0) (by omega)
  · exact wc_tells hb ho 33 ho x (dep := 0) (by omega)
end ACTC
theorem aB_len (o : Nat) : (aB o).length ≤ 2 := by unfold aB; split <;> (try split) <;> simp
theorem aA_len (o k : Nat) : (aA o k).length ≤ 4 := by
  have := aB_len o
  unfold aA; split <;> (try split) <;> simp <;> omega
theorem aS_len (o k : Nat) : (aS o k).length ≤ 8 := by
  have := aB_len o
  have := aA_len o o
  unfold aS; split <;> (try split) <;> (try split) <;> simp <;> omega
theorem aAll_len (o a : Nat) : (aAll o a).length < 900 := by
  have := aB_len o
  have := aA_len o o
  have := aS_len o o
  unfold aAll aT
  repeat' split
  all_goals simp
  all_goals omega
def aLst (nb : Nat) (kd : Nat → Nat) (v1 v2 : Int32) : List Nat := if inN nb v1 = true ∧ inN 4 v2 = true then aAll (kd v1.toNatClampNeg) v2.toNatClampNeg else []
def aVal (nb : Nat) (kd : Nat → Nat) (v1 v2 x : Int32) : Int32 := if inN nb v1 = true ∧ inN 4 v2 = true then vAll v1.toNatClampNeg (kd v1.toNatClampNeg) v2.toNatClampNeg x else 0
section ACTE
variable {nb : Nat} {kd : Nat → Nat} {M : Mem}
theorem cl_act (hC : CB nb kd M) (hO : OKBo nb kd) (v1 v2 x : Int32) : ∃ M1, f_X10_act v1 v2 x M = some (aVal nb kd v1 v2 x, M1) ∧ CR (aLst nb kd v1 v2).length (tAp (fun _ => 0) 0 (aLst nb kd v1 v2)) M1 := by
  have hC1 : CB nb kd (wI M 40 1 0) := ⟨by simp [wI_rd, hC.1], fun j hj => by simp [wI_rd, hC.2 j hj]⟩
  by_cases h : inN nb v1 = true
  · obtain ⟨b, hb, -, rfl⟩ := inN_t h
    have hb5 := hO.1
    by_cases h2 : inN 4 v2 = true
    · obtain ⟨a, ha, -, rfl⟩ := inN_t h2
      have hc1 := n_clamp (n := b) (by omega)
      have hc2 := n_clamp (n := a) (by omega)
      have hk : (wI (wI M 40 1 0) 40 4 (nI b)).1 42 b = nI (kd b) := by simp [wI_rd, hC.2 b hb]
      have hP : Pc b (kd b) 0 (fun _ => 0) (wI (wI M 40 1 0) 40 4 (nI b)) := ⟨⟨by simp [wI_rd]; rfl, fun j hj => by omega⟩, by simp [wI_rd], hk⟩
      have hl := aAll_len (kd b) a
      obtain ⟨M1, e1, p1⟩ := wc_all (b := b) (by omega) (show kd b < 8 by have := hO.2 b hb; omega) ha x 0 (fun _ => 0) _ (by omega) hP
      refine ⟨M1, ?_, ?_⟩
      · have l0 : ¬ (nI a < 0) := nI_pos (by omega)
        have l4 : nI a < 4 := (n_lt (b := 4) (by omega) (by omega)).mpr ha
        unfold f_X10_act f_X1_perform
        rw [lt_e, s_has hC1 hO, bd_s, ite_bb, if_pos h, if_neg l0, if_pos l4, lt_e, ck_t (okI_42 (by omega)), hc1, hk, e1]
        simp only [bI_s, aVal, h, h2, and_self, if_true, hc1, hc2]
      · simp only [aLst, h, h2, and_self, if_true, hc1, hc2]
        have := p1.1
        rw [Nat.zero_add] at this
        exact this
    · refine ⟨wI M 40 1 0, ?_, ?_⟩
      · have h3 : v2 < 0 ∨ ¬ v2 < 4 := by
          simp only [inN, decide_eq_true_eq] at h2
          rw [i_lt, i_lt]
          have q0 : (0 : Int32).toInt = 0 := rfl
          have q1 : (4 : Int32).toInt = 4 := rfl
          omega
        unfold f_X10_act f_X1_perform
        rw [lt_e, s_has hC1 hO, bd_s, ite_bb, if_pos h]
        rcases h3 with h3 | h3
        · rw [if_pos h3]; simp [bI_s, aVal, h2]
        · rw [if_neg h3, ite_self]; simp [bI_s, aVal, h2]
      · have e : aLst nb kd (nI b) v2 = [] := by simp [aLst, h2]
        rw [e]
        exact ⟨by simp [wI_rd]; rfl, fun j hj => by simp at hj⟩
  · refine ⟨wI M 40 1 0, ?_, ?_⟩
    · unfold f_X10_act f_X1_perform
      rw [lt_e, s_has hC1 hO, bd_s, ite_bb, if_neg h]
      simp [bI_s, aVal, h]
    · have e : aLst nb kd v1 v2 = [] := by simp [aLst, h]
      rw [e]
      exact ⟨by simp [wI_rd]; rfl, fun j hj => by simp at hj⟩
theorem mo_act (hC : MB nb kd M) (hO : OKBo nb kd) (v1 v2 x : Int32) : ∃ M1, f_X11_act v1 v2 x M = some (aVal nb kd v1 v2 x, M1) ∧ MR (aLst nb kd v1 v2).length (tAp (fun _ => 0) 0 (aLst nb kd v1 v2)) M1 := by
  have hC1 : MB nb kd (wI M 47 43 0) := ⟨by simp [wI_rd, hC.1], fun j hj => by simp [wI_rd, hC.2 j hj]⟩
  by_cases h : inN nb v1 = true
  · obtain ⟨b, hb, -, rfl⟩ := inN_t h
    have hb5 := hO.1
    have hk8 : kd b < 8 := by have := hO.2 b hb; omega
    have hc1 := n_clamp (n := b) (by omega)
    have hk : (wI M 47 43 0).1 71 b = nI (kd b) := by simp [wI_rd, hC.2 b hb]
    have hP : Pm b (kd b) 0 (fun _ => 0) (wI (wI (wI M 47 43 0) 47 44 (nI (kd b))) 47 45 (nI b)) := ⟨⟨by simp [wI_rd]; rfl, fun j hj => by omega⟩, by simp [wI_rd], by simp [wI_rd]⟩
    have hr : (wI (wI (wI M 47 43 0) 47 44 (nI (kd b))) 47 45 (nI b)).1 47 44 = nI (kd b) := by simp [wI_rd]
    by_cases h2 : inN 4 v2 = true
    · obtain ⟨a, ha, -, rfl⟩ := inN_t h2
      have hc2 := n_clamp (n := a) (by omega)
      have h4 : a = 0 ∨ a = 1 ∨ a = 2 ∨ a = 3 := by omega
      have hl := aAll_len (kd b) a
      have eL : aLst nb kd (nI b) (nI a) = aAll (kd b) a := by simp only [aLst, h, h2, and_self, if_true, hc1, hc2]
      have eV : aVal nb kd (nI b) (nI a) x = vAll b (kd b) a x := by simp only [aVal, h, h2, and_self, if_true, hc1, hc2]
      rw [eL, eV]
      rcases h4 with rfl | rfl | rfl | rfl
      · obtain ⟨M1, e1, p1⟩ := wm_beats 38 hk8 x 0 (fun _ => 0) _ (by have : aAll (kd b) 0 = aB (kd b) := rfl; rw [← this]; omega) hP
        refine ⟨M1, ?_, by have := p1.1; rw [Nat.zero_add] at this; exact this⟩
        unfold f_X11_act
        rw [lt_e, s_isBody hC1 hO, bd_s, ite_bb, if_pos h, ck_t (okI_71 (by omega)), hc1, hk, lt_e, lt_e, if_pos (show nI 0 = 0 from rfl), hr]
        rw [show FD = 38 + 2 from rfl, e1]
        rfl
      · obtain ⟨M1, e1, p1⟩ := wm_stands hk8 37 hk8 x 0 (fun _ => 0) _ (by have : aAll (kd b) 1 = aS (kd b) (kd b) := rfl; rw [← this]; omega) hP
        refine ⟨M1, ?_, by have := p1.1; rw [Nat.zero_add] at this; exact this⟩
        unfold f_X11_act
        rw [lt_e, s_isBody hC1 hO, bd_s, ite_bb, if_pos h, ck_t (okI_71 (by omega)), hc1, hk, lt_e, lt_e, if_neg (by decide), if_pos (show nI 1 = 1 from rfl), hr]
        rw [show FD = 37 + 3 from rfl, e1]
        rfl
      · obtain ⟨M1, e1, p1⟩ := wm_asks hk8 38 hk8 x 0 (fun _ => 0) _ (by have : aAll (kd b) 2 = aA (kd b) (kd b) := rfl; rw [← this]; omega) hP
        refine ⟨M1, ?_, by have := p1.1; rw [Nat.zero_add] at this; exact this⟩
        unfold f_X11_act
        rw [lt_e, s_isBody hC1 hO, bd_s, ite_bb, if_pos h, ck_t (okI_71 (by omega)), hc1, hk, lt_e, lt_e, if_neg (by decide), if_neg (by decide), if_pos (show nI 2 = 2 from rfl), hr]
        rw [show FD = 38 + 2 from rfl, e1]
        rfl
      · obtain ⟨M1, e1, p1⟩ := wm_tells hk8 38 hk8 x 0 (fun _ => 0) _ (by have : aAll (kd b) 3 = aT (kd b) (kd b) := rfl; rw [← this]; omega) hP
        refine ⟨M1, ?_, by have := p1.1; rw [Nat.zero_add] at this; exact this⟩
        unfold f_X11_act
        rw [lt_e, s_isBody hC1 hO, bd_s, ite_bb, if_pos h, ck_t (okI_71 (by omega)), hc1, hk, lt_e, lt_e, if_neg (by decide), if_neg (by decide), if_neg (by decide), if_pos (show nI 3 = 3 from rfl), hr]
        rw [show FD = 38 + 2 from rfl, e1]
        rfl
    · have e : aLst nb kd (nI b) v2 = [] := by simp [aLst, h2]
      have z : ∀ k : Nat, k < 4 → ¬ v2 = nI k := fun k hk q => h2 (by rw [q, inN_n (by omega)]; simpa using hk)
      rw [e]
      refine ⟨_, ?_, hP.1⟩
      unfold f_X11_act
      rw [lt_e, s_isBody hC1 hO, bd_s, ite_bb, if_pos h, ck_t (okI_71 (by omega)), hc1, hk, lt_e, lt_e, if_neg (show ¬ v2 = 0 from z 0 (by omega)), if_neg (show ¬ v2 = 1 from z 1 (by omega)), if_neg (show ¬ v2 = 2 from z 2 (by omega)), if_neg (show ¬ v2 = 3 from z 3 (by omega))]
      simp [aVal, h2]
  · refine ⟨wI M 47 43 0, ?_, ?_⟩
    · unfold f_X11_act
      rw [lt_e, s_isBody hC1 hO, bd_s, ite_bb, if_neg h]
      simp [aVal, h]
    · have e : aLst nb kd v1 v2 = [] := by simp [aLst, h]
      rw [e]
      exact ⟨by simp [wI_rd]; rfl, fun j hj => by simp at hj⟩
end ACTE
