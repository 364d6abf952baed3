/-! the search: worst, mean and next of the model -/
section MSD
variable {np nm : Nat} {wo wi lo ct : Nat → Nat} {M : Mem}
theorem abv_in (hO : OKF np nm wo wi lo ct) (s : Nat) : ∀ p i, (abv wi lo s nm p).testBit i = true → p < np := fun p i h => by
  obtain ⟨m, hm, -, e, -⟩ := (tb_abv nm p).mp h
  rw [← e]
  exact (hO.2.2.2 m hm).2.1
theorem mo_gath (hR : okR M) (hO : OKF np nm wo wi lo ct) (hC : MF np nm wo wi lo ct M) (v : Int32) : (¬ qOK np v = true ∧ f_X11_gathers v M = some (-1, M)) ∨ (qOK np v = true ∧ ¬ (1 ≤ np ∧ np ≤ 4) ∧ f_X11_gathers v M = some (-5, M)) ∨ (1 ≤ np ∧ np ≤ 4 ∧ ∃ x, x < 2147483648 ∧ v = nI x ∧ qOK np v = true ∧ okQ np (x / 10) (x % 10) ∧ ∃ M1, f_X11_gathers v M = some (1, M1) ∧ MG np (abv wi lo (cms ct nm) nm) (x / 10) (x % 10) M1 ∧ M1.1 47 32 = 0) := by
  have h8 := hO.1
  have e0 : (nI np = 0) = (np = 0) := propext (n_eq (b := 0) (by omega) (by omega))
  have e4 : (nI np ≤ 4) = (np ≤ 4) := propext (n_le (b := 4) (by omega) (by omega))
  unfold f_X11_gathers
  rw [mo_isQ h8 hC.1, bd_s, ite_bb, hC.1]
  simp only [e0, e4]
  by_cases q : qOK np v = true
  · right
    rw [if_pos q]
    by_cases c0 : np = 0
    · exact Or.inl ⟨q, by omega, by rw [if_pos c0]⟩
    rw [if_neg c0]
    by_cases c4 : np ≤ 4
    · right
      obtain ⟨x, hx, rfl, hqb⟩ := qOK_nat q
      obtain ⟨o1, o2, o3⟩ := qb_okQ h8 hqb (by omega)
      refine ⟨by omega, c4, x, hx, rfl, q, o1, ?_⟩
      rw [if_pos c4, ck_t (by decide), lt_e]
      generalize hM3 : wI M 47 32 1 = M3
      have hC3 : MF np nm wo wi lo ct M3 := by
        rw [← hM3]
        exact ⟨by simp [wI_rd, hC.1], by simp [wI_rd, hC.2.1], fun p hp => by simp [wI_rd, hC.2.2.1 p hp], fun p hp => by simp [wI_rd, hC.2.2.2 p hp]⟩
      have hR3 : okR M3 := by rw [← hM3]; exact hR
      have h32 : M3.1 47 32 = bb true := by rw [← hM3, wI_rd, if_pos ⟨rfl, rfl⟩]; rfl
      obtain ⟨M7, f7, c7⟩ := mo_goes (w := true) (kn := x / 10) (ak := x % 10) (g := true) hR3 hO hC3 (cms_lt hO) (fun _ => o1) (fun _ => rfl) (fun _ => c4) o1.1 h32
      rw [if_pos rfl] at f7
      rw [s_all hC3 hO, bd_s, n_rem10 hx, n_div10 hx, f7, bd_s, ck_t (by decide), lt_e]
      refine ⟨_, rfl, ⟨?_, ?_, fun i hi => ?_⟩, by rw [wI_rd, if_pos ⟨rfl, rfl⟩]⟩
      · rw [wI_rd, if_neg (by omega)]; exact c7.1.1
      · rw [wI_rd, if_neg (by omega)]; exact c7.1.2.2.2.2.1
      · have hl : (ext np (abv wi lo (cms ct nm) nm) np 0)[i]? = some ((ext np (abv wi lo (cms ct nm) nm) np 0).getD i []) := by rw [List.getD_eq_getElem?_getD, List.getElem?_eq_getElem hi]; rfl
        obtain ⟨g1, g2⟩ := c7.1.2.2.2.2.2.2.2.2.2 rfl i _ hl
        refine ⟨fun p hp => ?_, ?_⟩
        · have ho := (getD_ok (ab := abv wi lo (cms ct nm) nm) h8 hi).2
          obtain ⟨b1, b2⟩ := (permL ho).2 p hp
          rw [ab_wI_o (by omega), ← g1 _ b1, b2]
        · rw [ab_wI_o (by omega), g2]
    · exact Or.inl ⟨q, by omega, by rw [if_neg c4]⟩
  · exact Or.inl ⟨q, by rw [if_neg q]⟩
theorem mo_worst (hR : okR M) (hO : OKF np nm wo wi lo ct) (hC : MF np nm wo wi lo ct M) (h32 : M.1 47 32 = 0) (v : Int32) : ∃ M1, f_X11_worst v M = some (worA np (abv wi lo (cms ct nm) nm) v, M1) ∧ M1.1 47 32 = 0 := by
  have hA := okA_abv hO (cms ct nm)
  unfold f_X11_worst worA
  rcases mo_gath hR hO hC v with ⟨q, f⟩ | ⟨q, c, f⟩ | ⟨c1, c4, x, hx, e, q, o1, M1, f, hM, hz⟩
  · rw [f, bI_s, if_neg (by decide), if_neg q]; exact ⟨M, rfl, h32⟩
  · rw [f, bI_s, if_neg (by decide), if_pos q, if_neg c]; exact ⟨M, rfl, h32⟩
  · rw [f, bI_s, if_pos (by decide), if_pos q, if_pos ⟨c1, c4⟩, mo_all c4 hM, bd_s, mo_wz hA c4 (abv_in hO _) o1 hM, bd_s, e, n_clamp hx]
    exact ⟨M1, rfl, hz⟩
theorem mo_mean (hR : okR M) (hO : OKF np nm wo wi lo ct) (hC : MF np nm wo wi lo ct M) (h32 : M.1 47 32 = 0) (v w : Int32) : ∃ M1, f_X11_mean v w M = some (meaA np (abv wi lo (cms ct nm) nm) v w, M1) ∧ M1.1 47 32 = 0 := by
  have hA := okA_abv hO (cms ct nm)
  unfold f_X11_mean meaA
  rw [s_within_n 1 1 rfl w, bd_s, ite_bb]
  by_cases cw : inN 2 w = true
  · rw [if_pos cw]
    rcases mo_gath hR hO hC v with ⟨q, f⟩ | ⟨q, c, f⟩ | ⟨c1, c4, x, hx, e, q, o1, M1, f, hM, hz⟩
    · rw [f, bI_s, if_neg (by decide), if_neg (fun h => q h.1)]; exact ⟨M, rfl, h32⟩
    · have hB : qOK np v = true ∧ inN 2 w = true := ⟨q, cw⟩
      rw [f, bI_s, if_neg (by decide), if_pos hB, if_neg c]; exact ⟨M, rfl, h32⟩
    · have hB : qOK np v = true ∧ inN 2 w = true := ⟨q, cw⟩
      have hcl : v.toNatClampNeg = x := by rw [e, n_clamp hx]
      rw [f, bI_s, if_pos (by decide), if_pos hB, if_pos ⟨c1, c4⟩, mo_all c4 hM, bd_s, mo_tz hA c4 (abv_in hO _) o1 hM, bd_s, hM.2.1, hcl]
      have hzl := CKz_le hA c4 (x / 10) (x % 10) 1
      have h24 := ext_24 c4 (abv wi lo (cms ct nm) nm)
      generalize hT : CKz np (abv wi lo (cms ct nm) nm) (x / 10) (x % 10) 1 = T at *
      generalize hL : (ext np (abv wi lo (cms ct nm) nm) np 0).length = L at *
      obtain ⟨j, hj, hj2, rfl⟩ := inN_t cw
      have e0 : (nI T = 0) = (T = 0) := propext (n_eq (b := 0) (by omega) (by omega))
      have ej : (nI j = 0) = (j = 0) := propext (n_eq (b := 0) (by omega) (by omega))
      simp only [e0]
      by_cases c : T = 0
      · rw [if_pos c]
        refine ⟨M1, ?_, hz⟩
        have : nI j = nI (prt T (max 1 L) (nI j)) := by
          unfold prt
          simp only [ej]
          rw [c, Nat.gcd_zero_left]
          rcases show j = 0 ∨ j = 1 by omega with rfl | rfl
          · rw [if_pos rfl, Nat.zero_div]
          · rw [if_neg (by omega), Nat.div_self (by omega)]
        rw [← this]
      · rw [if_neg c]
        have hL1 : 1 ≤ L := by
          by_cases z : L = 0
          · exfalso
            apply c
            rw [← hT]
            have h0 := ansN_0 (kn := x / 10) (ak := x % 10) (List.length_eq_zero_iff.mp (hL.trans z))
            unfold CKz
            rw [if_neg (by omega)]
          · omega
        have hg := mo_com32 FU T L _ (by omega) (by omega) (euN_mono _ _ _ _ FU (euN_some 31 T L (by omega)) (by unfold FU; omega))
        have hg' : f_X11_common (nI T) (nI L) = _ := hg
        have hpos : 0 < Nat.gcd T L := Nat.gcd_pos_of_pos_right _ (by omega)
        have hgl : Nat.gcd T L ≤ L := Nat.le_of_dvd (by omega) (Nat.gcd_dvd_right T L)
        have eg : ¬ nI (Nat.gcd T L) = 0 := by rw [show (0 : Int32) = nI 0 from rfl, n_eq (by omega) (by omega)]; omega
        rw [hg', bd_s, if_neg eg, if_neg eg, n_div (by omega) (by omega), n_div (by omega) (by omega)]
        refine ⟨M1, ?_, hz⟩
        unfold prt
        rw [Nat.max_eq_right hL1]
        simp only [ej]
        by_cases cj : j = 0
        · rw [if_pos cj, if_pos cj]
        · rw [if_neg cj, if_neg cj]
  · rw [if_neg cw, if_neg (fun h => cw h.2)]; exact ⟨M, rfl, h32⟩
theorem mo_next (hR : okR M) (hO : OKF np nm wo wi lo ct) (hC : MF np nm wo wi lo ct M) (h32 : M.1 47 32 = 0) (v w : Int32) : ∃ M1, f_X11_next v w M = some (nexA np (abv wi lo (cms ct nm) nm) v w, M1) ∧ M1.1 47 32 = 0 := by
  have hA := okA_abv hO (cms ct nm)
  unfold f_X11_next nexA
  rw [s_within_n 1 1 rfl w, bd_s, ite_bb]
  by_cases cw : inN 2 w = true
  · rw [if_pos cw]
    rcases mo_gath hR hO hC v with ⟨q, f⟩ | ⟨q, c, f⟩ | ⟨c1, c4, x, hx, e, q, o1, M1, f, hM, hz⟩
    · rw [f, bI_s, if_neg (by decide), if_neg (fun h => q h.1)]; exact ⟨M, rfl, h32⟩
    · have hB : qOK np v = true ∧ inN 2 w = true := ⟨q, cw⟩
      rw [f, bI_s, if_neg (by decide), if_pos hB, if_neg c]; exact ⟨M, rfl, h32⟩
    · have hB : qOK np v = true ∧ inN 2 w = true := ⟨q, cw⟩
      have hcl : v.toNatClampNeg = x := by rw [e, n_clamp hx]
      rw [f, bI_s, if_pos (by decide), if_pos hB, if_pos ⟨c1, c4⟩, mo_all c4 hM, bd_s, mo_wz hA c4 (abv_in hO _) o1 hM, bd_s, hcl]
      unfold nxP
      by_cases c : 1 < ansN np (abv wi lo (cms ct nm) nm) (x / 10) (x % 10)
      · have hE := ans_ne c
        have hK := OKK_K0 hA c4 hE
        have hs := sup_K0 hA c4 (abv_in hO _) hE
        have hu : ¬ ansN np (rwK (K0 np (abv wi lo (cms ct nm) nm))) (x / 10) (x % 10) ≤ 1 := by
          unfold ansN at c ⊢
          rw [ext_K0 hA c4 (abv_in hO _) hE]
          omega
        have hpos : 0 < CK np (x / 10) (x % 10) 0 (K0 np (abv wi lo (cms ct nm) nm)) := by
          rw [CK_rec hK, if_neg hu, if_pos rfl]; omega
        have ez : CKz np (abv wi lo (cms ct nm) nm) (x / 10) (x % 10) 0 = CK np (x / 10) (x % 10) 0 (K0 np (abv wi lo (cms ct nm) nm)) := (CKz_eq hA c4 (abv_in hO _) hE 0).symm
        have hx2 := mo_nx_o c4 o1 hM hK hs hu hpos w np 0 FU (by omega) (by unfold FU; omega)
        rw [VK_all hA c4 hE, ← ez] at hx2
        have hx3 : f_X11_next_L41 FU w (nI (2 ^ (ext np (abv wi lo (cms ct nm) nm) np 0).length - 1)) (nI (CKz np (abv wi lo (cms ct nm) nm) (x / 10) (x % 10) 0)) 0 M1 = _ := hx2
        rw [hx3, if_pos c]
        exact ⟨M1, rfl, hz⟩
      · have ez : CKz np (abv wi lo (cms ct nm) nm) (x / 10) (x % 10) 0 = 0 := by unfold CKz; rw [if_neg c]
        rw [ez, if_neg c]
        show ∃ M2, f_X11_next_L41 (4999 + 1) w _ (nI 0) 0 M1 = some (-2, M2) ∧ M2.1 47 32 = 0
        rw [f_X11_next_L41, hM.1, if_neg (by rw [show (0 : Int32) = nI 0 from rfl, n_le (by omega) (by omega)]; omega), if_pos (by decide)]
        exact ⟨M1, rfl, hz⟩
  · rw [if_neg cw, if_neg (fun h => cw h.2)]; exact ⟨M, rfl, h32⟩
end MSD
