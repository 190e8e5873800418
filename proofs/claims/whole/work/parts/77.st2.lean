def z98 (x : Int) : Int := if x = 9 then 8 else x
def dK (v : Nat → Int → Int) (u h : Int) : Int := zbrk (v (uc u) 0) (v (uc u) 1) (v (uc u) 2) (v (uc u) 3) (v (uc u) 4) (brow v u) (v (uc u) 5) (v (uc u) 6) h
theorem d_brokenBy (xs : List Int32) (sh : List q_Sh) (v w : Nat → Int → Int) (R : Nat → Nat → Option Nat) (hD : LD sh R) (hT : dT v) (hU : dUs v) (u h : Int) (hu : 0 ≤ u ∧ u < 3) (hh : 0 ≤ h ∧ h < 8) (Q : Int32 → q_H → Prop) : q_CallI (GG xs) PP kStation_brokenBy [.ref 32, .ref 25, .int (zi u), .int (zi h)] (sh, zs v, zt w, R) Q = Q (zi (z98 (dK v u h))) (sh, zs v, zt w, R) := cI (fun Q hQ => by
  have hu' := hU u hu.1 hu.2
  have hu2 := hu'
  obtain ⟨u1, u2, u3, u4, u5, u6, u7, u8⟩ := hu2
  have r := zprev_rng hT hU hu hh
  have r10 := hT (8 * u + h) (by omega) (by omega)
  have r11 := zlst_rng (t := brow v u) (wo := v (uc u) 5) (wh := v (uc u) 6) (h := h) (by omega) hh
  have hL := LD_LU hD hu
  have L : (v 25 (8 * u + h) = 0 ∨ v (uc u) 0 ≤ v 25 (8 * u + h) ∧ v 25 (8 * u + h) ≤ v (uc u) 1) → q_Rt (GG xs) PP 115 (q_FI Q) 43 [some (.ref 32), some (.ref 25), some (.int (zi u)), some (.int (zi h)), some (.ref (uc u)), some (.int (zi (v 25 (8 * u + h)))), some (.int (zi (zprev (brow v u) (v (uc u) 5) h)))] [] (sh, zs v, zt w, R) := fun g => by
    have r1 : -2147483648 ≤ (if 0 ≤ v 25 (8 * u + h) - zprev (brow v u) (v (uc u) 5) h then v 25 (8 * u + h) - zprev (brow v u) (v (uc u) 5) h else 0 - (v 25 (8 * u + h) - zprev (brow v u) (v (uc u) 5) h)) ∧ (if 0 ≤ v 25 (8 * u + h) - zprev (brow v u) (v (uc u) 5) h then v 25 (8 * u + h) - zprev (brow v u) (v (uc u) 5) h else 0 - (v 25 (8 * u + h) - zprev (brow v u) (v (uc u) 5) h)) < 2147483648 := by split <;> omega
    refine b_Station_brokenBy_43 xs _ _ _ _ _ _ _ _ (sh, zs v, zt w, R) ?_
    simp (discharger := first | assumption | omega) [hD, fI, fL, fV, zs_ar, zt_ar, zs_un, zt_un, zn_c, zu_a, zu_e, zu_j, zix, zi_lit, zl_lit, zi_add, zi_sub, zi_mul, zi_neg, zi_le, zi_lt, zi_eq, zl_add, zl_sub, zl_mul, zi_i2l, zl_l2i, zb0, zb1, zb0', zb1', zi_c0, zi_c1, zb_c, d_hoursHeld, hL.1, zi_ite, zi_le r1.1 r1.2]
    unfold dK zbrk z98 at hQ
    rw [show brow v u h = v 25 (8 * u + h) from rfl] at hQ
    repeat' (first | (refine And.intro (fun _ => ?_) (fun _ => ?_)) | (intro _) | fail)
    all_goals exact zi_cg (Q := Q) hQ (by (repeat' split) <;> omega)
  refine e_Station_brokenBy xs _ _ _ _ _ (sh, zs v, zt w, R) ?_
  by_cases g1 : v 25 (8 * u + h) = 0
  · simp (discharger := first | assumption | omega) [hD, fI, fL, fV, zs_ar, zt_ar, zs_un, zt_un, zn_c, zu_a, zu_e, zu_j, zix, zi_lit, zl_lit, zi_add, zi_sub, zi_mul, zi_neg, zi_le, zi_lt, zi_eq, zl_add, zl_sub, zl_mul, zi_i2l, zl_l2i, zb0, zb1, zb0', zb1', zi_c0, zi_c1, zb_c, d_cell, d_outputAhead, gat3, gna, LD_un hD hu, hL.1, L (Or.inl g1), g1]
    rw [← g1]
    exact L (Or.inl g1)
  · by_cases g2 : v (uc u) 0 ≤ v 25 (8 * u + h) ∧ v 25 (8 * u + h) ≤ v (uc u) 1
    · simp (discharger := first | assumption | omega) [hD, fI, fL, fV, zs_ar, zt_ar, zs_un, zt_un, zn_c, zu_a, zu_e, zu_j, zix, zi_lit, zl_lit, zi_add, zi_sub, zi_mul, zi_neg, zi_le, zi_lt, zi_eq, zl_add, zl_sub, zl_mul, zi_i2l, zl_l2i, zb0, zb1, zb0', zb1', zi_c0, zi_c1, zb_c, d_cell, d_outputAhead, d_canGive, gat3, gna, LD_un hD hu, hL.1, g1, g2]
      exact L (Or.inr g2)
    · simp (discharger := first | assumption | omega) [hD, fI, fL, fV, zs_ar, zt_ar, zs_un, zt_un, zn_c, zu_a, zu_e, zu_j, zix, zi_lit, zl_lit, zi_add, zi_sub, zi_mul, zi_neg, zi_le, zi_lt, zi_eq, zl_add, zl_sub, zl_mul, zi_i2l, zl_l2i, zb0, zb1, zb0', zb1', zi_c0, zi_c1, zb_c, d_cell, d_outputAhead, d_canGive, gat3, gna, LD_un hD hu, hL.1, g1, g2]
      unfold dK zbrk at hQ
      rw [show brow v u h = v 25 (8 * u + h) from rfl, if_neg g1, if_neg g2] at hQ
      exact hQ) Q
def dR (v : Nat → Int → Int) (n : Nat) (h : Int) : Int := zmin 9 (fun u => dK v u h) n
def dS (v : Nat → Int → Int) (n : Nat) (h : Int) : Int := zsum (fun u => v 25 (8 * u + h)) n
def dM (v : Nat → Int → Int) (n : Nat) (h : Int) : Int := zsum (fun u => if v 25 (8 * u + h) = 0 then 0 else v (uc u) 1) n
def dV (v : Nat → Int → Int) (h : Int) : Int := zrul (dR v (v 32 1).toNat h) (dS v (v 32 1).toNat h) (dM v (v 32 1).toNat h) (v 34 h) (v 35 h)
def dBt (v : Nat → Int → Int) (h : Int) : Int := if dS v (v 32 1).toNat h = v 34 h then (if v 35 h ≤ dM v (v 32 1).toNat h - v 34 h then 8 else 3) else 2
theorem dS_rng {v : Nat → Int → Int} (hT : dT v) {h : Int} (hh : 0 ≤ h ∧ h < 8) (k : Int) (h1 : 0 ≤ k) (h2 : k ≤ 3) : 0 ≤ dS v k.toNat h ∧ dS v k.toNat h ≤ 200 := by
  have := zsum_rng (c := 63) (f := fun u => v 25 (8 * u + h)) k.toNat (fun i a b => hT _ (by omega) (by omega))
  unfold dS
  omega
theorem dM_rng {v : Nat → Int → Int} (hU : dUs v) {h : Int} (k : Int) (h1 : 0 ≤ k) (h2 : k ≤ 3) : 0 ≤ dM v k.toNat h ∧ dM v k.toNat h ≤ 200 := by
  have := zsum_rng (c := 60) (f := fun u => if v 25 (8 * u + h) = 0 then 0 else v (uc u) 1) k.toNat (fun i a b => by
    obtain ⟨u1, u2, -⟩ := hU i a (by omega)
    show 0 ≤ (if v 25 (8 * i + h) = 0 then 0 else v (uc i) 1) ∧ (if v 25 (8 * i + h) = 0 then 0 else v (uc i) 1) ≤ 60
    split <;> omega)
  unfold dM
  omega
theorem l_bt8 (xs : List Int32) (sh : List q_Sh) (v w : Nat → Int → Int) (R : Nat → Nat → Option Nat) (hD : LD sh R) (hN : dN v) (hT : dT v) (hU : dUs v) (hE : dD v) (h : Int) (hh : 0 ≤ h ∧ h < 8) : ∀ u, 0 ≤ u → u ≤ v 32 1 → ∀ F : Option Value → q_H → Prop, q_Rt (GG xs) PP 114 F 8 [some (.ref 32), some (.ref 25), some (.int (zi h)), some (.int (zi (dS v u.toNat h))), some (.int (zi (dM v u.toNat h))), some (.int (zi u)), none] [] (sh, zs v, zt w, R) = F (some (.int (zi (dBt v h)))) (sh, zs v, zt w, R) := by
  have n2 := hN.2
  obtain ⟨d1, d2⟩ := hE h hh.1 hh.2
  refine zdown _ (fun F => cR (fun F hF => ?_) F) (fun u h1 h2 ih F => cR (fun F hF => ?_) F)
  · have y2 := dS_rng hT hh (v 32 1) (by omega) (by omega)
    have y3 := dM_rng hU (h := h) (v 32 1) (by omega) (by omega)
    unfold dBt at hF
    refine b_Station_brokenTogether_8 xs F _ _ _ _ _ _ (sh, zs v, zt w, R) ?_
    by_cases c1 : dS v (v 32 1).toNat h = v 34 h
    · rw [if_pos c1] at hF
      by_cases c2 : v 35 h ≤ dM v (v 32 1).toNat h - v 34 h
      · rw [if_pos c2] at hF
        simp (discharger := first | assumption | omega) [hD, fI, fL, fV, zs_ar, zt_ar, zs_un, zt_un, zn_c, zu_a, zu_e, zu_j, zix, zi_lit, zl_lit, zi_add, zi_sub, zi_mul, zi_neg, zi_le, zi_lt, zi_eq, zl_add, zl_sub, zl_mul, zi_i2l, zl_l2i, zb0, zb1, zb0', zb1', zi_c0, zi_c1, zb_c, i_leT, i_leF, i_ltT, i_ltF, i_eqT, i_eqF]
        exact hF
      · rw [if_neg c2] at hF
        simp (discharger := first | assumption | omega) [hD, fI, fL, fV, zs_ar, zt_ar, zs_un, zt_un, zn_c, zu_a, zu_e, zu_j, zix, zi_lit, zl_lit, zi_add, zi_sub, zi_mul, zi_neg, zi_le, zi_lt, zi_eq, zl_add, zl_sub, zl_mul, zi_i2l, zl_l2i, zb0, zb1, zb0', zb1', zi_c0, zi_c1, zb_c, i_leT, i_leF, i_ltT, i_ltF, i_eqT, i_eqF]
        exact hF
    · rw [if_neg c1] at hF
      simp (discharger := first | assumption | omega) [hD, fI, fL, fV, zs_ar, zt_ar, zs_un, zt_un, zn_c, zu_a, zu_e, zu_j, zix, zi_lit, zl_lit, zi_add, zi_sub, zi_mul, zi_neg, zi_le, zi_lt, zi_eq, zl_add, zl_sub, zl_mul, zi_i2l, zl_l2i, zb0, zb1, zb0', zb1', zi_c0, zi_c1, zb_c, i_leT, i_leF, i_ltT, i_ltF, i_eqT, i_eqF]
      exact hF
  · have hu : 0 ≤ u ∧ u < 3 := by omega
    have hL := LD_LU hD hu
    have y5 := hT (8 * u + h) (by omega) (by omega)
    have e : (u + 1).toNat = u.toNat + 1 := by omega
    have e2 : ((u.toNat : Nat) : Int) = u := by omega
    rw [e] at ih
    simp only [dS, dM, zsum_s, e2] at ih
    refine b_Station_brokenTogether_8 xs F _ _ _ _ _ _ (sh, zs v, zt w, R) ?_
    by_cases c : v 25 (8 * u + h) = 0
    · rw [if_pos c, Int.add_zero] at ih
      simp only [dS, dM]
      simp (discharger := first | assumption | omega) [hD, fI, fL, fV, zs_ar, zt_ar, zs_un, zt_un, zn_c, zu_a, zu_e, zu_j, zix, zi_lit, zl_lit, zi_add, zi_sub, zi_mul, zi_neg, zi_le, zi_lt, zi_eq, zl_add, zl_sub, zl_mul, zi_i2l, zl_l2i, zb0, zb1, zb0', zb1', zi_c0, zi_c1, zb_c, d_cell, gat3, gna, LD_un hD hu, hL.1, ih, i_leT, i_leF, i_ltT, i_ltF, i_eqT, i_eqF]
      exact hF
    · rw [if_neg c] at ih
      simp only [dS, dM]
      simp (discharger := first | assumption | omega) [hD, fI, fL, fV, zs_ar, zt_ar, zs_un, zt_un, zn_c, zu_a, zu_e, zu_j, zix, zi_lit, zl_lit, zi_add, zi_sub, zi_mul, zi_neg, zi_le, zi_lt, zi_eq, zl_add, zl_sub, zl_mul, zi_i2l, zl_l2i, zb0, zb1, zb0', zb1', zi_c0, zi_c1, zb_c, d_cell, gat3, gna, LD_un hD hu, hL.1, ih, i_leT, i_leF, i_ltT, i_ltF, i_eqT, i_eqF]
      exact hF
theorem d_brokenTogether (xs : List Int32) (sh : List q_Sh) (v w : Nat → Int → Int) (R : Nat → Nat → Option Nat) (hD : LD sh R) (hN : dN v) (hT : dT v) (hU : dUs v) (hE : dD v) (h : Int) (hh : 0 ≤ h ∧ h < 8) (Q : Int32 → q_H → Prop) : q_CallI (GG xs) PP kStation_brokenTogether [.ref 32, .ref 25, .int (zi h)] (sh, zs v, zt w, R) Q = Q (zi (dBt v h)) (sh, zs v, zt w, R) := cI (fun Q hQ => by
  refine e_Station_brokenTogether xs _ _ _ _ (sh, zs v, zt w, R) ?_
  have L := l_bt8 xs sh v w R hD hN hT hU hE h hh 0 (by omega) (by have := hN.2; omega)
  simp only [dS, dM, Int.toNat_zero, zsum] at L
  simp (discharger := first | assumption | omega) [hD, fI, fL, fV, zs_ar, zt_ar, zs_un, zt_un, zn_c, zu_a, zu_e, zu_j, zix, zi_lit, zl_lit, zi_add, zi_sub, zi_mul, zi_neg, zi_le, zi_lt, zi_eq, zl_add, zl_sub, zl_mul, zi_i2l, zl_l2i, zb0, zb1, zb0', zb1', zi_c0, zi_c1, zb_c, L]
  exact hQ) Q
theorem dR_rng {v : Nat → Int → Int} (n : Nat) (h : Int) : 1 ≤ dR v n h ∧ dR v n h ≤ 9 := zmin_rng (by omega) _ (fun i _ _ => zbrk_rng _ _ _ _ _ _ _ _ _)
theorem dR_s {v : Nat → Int → Int} {h : Int} (n : Nat) : dR v (n + 1) h = (if dK v n h < dR v n h then dK v n h else dR v n h) := rfl
def zmb (b r : Int) : Int := if z98 r < b then z98 r else b
theorem l_lb10 (xs : List Int32) (sh : List q_Sh) (v w : Nat → Int → Int) (R : Nat → Nat → Option Nat) (hD : LD sh R) (hN : dN v) (hT : dT v) (hU : dUs v) (hE : dD v) (h : Int) (hh : 0 ≤ h ∧ h < 8) : ∀ u, 0 ≤ u → u ≤ v 32 1 → ∀ F : Option Value → q_H → Prop, q_Rt (GG xs) PP 113 F 10 [some (.ref 32), some (.ref 25), some (.int (zi h)), some (.int (zi (zmb (dBt v h) (dR v u.toNat h)))), some (.int (zi u))] [] (sh, zs v, zt w, R) = F (some (.int (zi (z98 (dV v h))))) (sh, zs v, zt w, R) := by
  have n2 := hN.2
  refine zdown _ (fun F => cR (fun F hF => ?_) F) (fun u h1 h2 ih F => cR (fun F hF => ?_) F)
  · refine b_Station_leastBroken_10 xs F _ _ _ _ _ (sh, zs v, zt w, R) ?_
    have r := dR_rng (v := v) (v 32 1).toNat h
    simp (discharger := first | assumption | omega) [hD, fI, fL, fV, zs_ar, zt_ar, zs_un, zt_un, zn_c, zu_a, zu_e, zu_j, zix, zi_lit, zl_lit, zi_add, zi_sub, zi_mul, zi_neg, zi_le, zi_lt, zi_eq, zl_add, zl_sub, zl_mul, zi_i2l, zl_l2i, zb0, zb1, zb0', zb1', zi_c0, zi_c1, zb_c, i_leT, i_leF, i_ltT, i_ltF, i_eqT, i_eqF]
    refine zf_cg hF ?_
    unfold zmb dBt dV zrul z98
    (repeat' split) <;> omega
  · have hu : 0 ≤ u ∧ u < 3 := by omega
    have e : (u + 1).toNat = u.toNat + 1 := by omega
    have e2 : ((u.toNat : Nat) : Int) = u := by omega
    have r := dR_rng (v := v) u.toNat h
    have r2 := zbrk_rng (v (uc u) 0) (v (uc u) 1) (v (uc u) 2) (v (uc u) 3) (v (uc u) 4) (brow v u) (v (uc u) 5) (v (uc u) 6) h
    rw [show zbrk (v (uc u) 0) (v (uc u) 1) (v (uc u) 2) (v (uc u) 3) (v (uc u) 4) (brow v u) (v (uc u) 5) (v (uc u) 6) h = dK v u h from rfl] at r2
    have rb : 2 ≤ dBt v h ∧ dBt v h ≤ 8 := by unfold dBt; (repeat' split) <;> omega
    have rz : 1 ≤ z98 (dK v u h) ∧ z98 (dK v u h) ≤ 8 := by unfold z98; split <;> omega
    have rm : 1 ≤ zmb (dBt v h) (dR v u.toNat h) ∧ zmb (dBt v h) (dR v u.toNat h) ≤ 8 := by unfold zmb z98; (repeat' split) <;> omega
    have es : (if z98 (dK v u h) < zmb (dBt v h) (dR v u.toNat h) then z98 (dK v u h) else zmb (dBt v h) (dR v u.toNat h)) = zmb (dBt v h) (dR v (u + 1).toNat h) := by
      have ek : dR v (u + 1).toNat h = (if dK v u h < dR v u.toNat h then dK v u h else dR v u.toNat h) := by
        rw [e, dR_s, e2]
      rw [ek]
      unfold zmb z98
      (repeat' split) <;> omega
    refine b_Station_leastBroken_10 xs F _ _ _ _ _ (sh, zs v, zt w, R) ?_
    simp (discharger := first | assumption | omega) [hD, fI, fL, fV, zs_ar, zt_ar, zs_un, zt_un, zn_c, zu_a, zu_e, zu_j, zix, zi_lit, zl_lit, zi_add, zi_sub, zi_mul, zi_neg, zi_le, zi_lt, zi_eq, zl_add, zl_sub, zl_mul, zi_i2l, zl_l2i, zb0, zb1, zb0', zb1', zi_c0, zi_c1, zb_c, d_brokenBy, zi_ite, es, ih, i_leT, i_leF, i_ltT, i_ltF, i_eqT, i_eqF]
    exact hF
theorem d_leastBroken (xs : List Int32) (sh : List q_Sh) (v w : Nat → Int → Int) (R : Nat → Nat → Option Nat) (hD : LD sh R) (hN : dN v) (hT : dT v) (hU : dUs v) (hE : dD v) (h : Int) (hh : 0 ≤ h ∧ h < 8) (Q : Int32 → q_H → Prop) : q_CallI (GG xs) PP kStation_leastBroken [.ref 32, .ref 25, .int (zi h)] (sh, zs v, zt w, R) Q = Q (zi (z98 (dV v h))) (sh, zs v, zt w, R) := cI (fun Q hQ => by
  refine e_Station_leastBroken xs _ _ _ _ (sh, zs v, zt w, R) ?_
  have L := l_lb10 xs sh v w R hD hN hT hU hE h hh 0 (by omega) (by have := hN.2; omega)
  rw [show zmb (dBt v h) (dR v (0 : Int).toNat h) = dBt v h by
    show zmb (dBt v h) 9 = _
    unfold zmb z98 dBt
    (repeat' split) <;> omega] at L
  simp (discharger := first | assumption | omega) [hD, fI, fL, fV, zs_ar, zt_ar, zs_un, zt_un, zn_c, zu_a, zu_e, zu_j, zix, zi_lit, zl_lit, zi_add, zi_sub, zi_mul, zi_neg, zi_le, zi_lt, zi_eq, zl_add, zl_sub, zl_mul, zi_i2l, zl_l2i, zb0, zb1, zb0', zb1', zi_c0, zi_c1, zb_c, d_brokenTogether, L]
  exact hQ) Q
theorem dR_8 {v : Nat → Int → Int} {h : Int} : ∀ n, dR v n h ≤ 7 ∨ dR v n h = 9
  | 0 => Or.inr rfl
  | n + 1 => by
    have ih := dR_8 (v := v) (h := h) n
    have k : dK v n h ≤ 7 ∨ dK v n h = 9 := by
      unfold dK zbrk
      (repeat' split) <;> omega
    rw [dR_s]
    split <;> omega
theorem dV_rng {v : Nat → Int → Int} {h : Int} : 1 ≤ dV v h ∧ (dV v h ≤ 7 ∨ dV v h = 9) := by
  have := dR_rng (v := v) (v 32 1).toNat h
  have := dR_8 (v := v) (h := h) (v 32 1).toNat
  unfold dV zrul
  (repeat' split) <;> omega
theorem l_fb2 (xs : List Int32) (sh : List q_Sh) (v w : Nat → Int → Int) (R : Nat → Nat → Option Nat) (hD : LD sh R) (hN : dN v) (hT : dT v) (hU : dUs v) (hE : dD v) : ∀ h, 0 ≤ h → h ≤ v 32 0 → ∀ F : Option Value → q_H → Prop, q_Rt (GG xs) PP 109 F 2 [some (.ref 32), some (.ref 25), some (.int (zi h)), none] [] (sh, zs v, zt w, R) = F (some (.int (zi (zver (dV v) (v 32 0 - h).toNat h)))) (sh, zs v, zt w, R) := by
  have n1 := hN.1
  refine zdown _ (fun F => cR (fun F hF => ?_) F) (fun h h1 h2 ih F => cR (fun F hF => ?_) F)
  · refine b_Station_firstBreach_2 xs F _ _ _ (sh, zs v, zt w, R) ?_
    simp (discharger := first | assumption | omega) [hD, fI, fL, fV, zs_ar, zt_ar, zs_un, zt_un, zn_c, zu_a, zu_e, zu_j, zix, zi_lit, zl_lit, zi_add, zi_sub, zi_mul, zi_neg, zi_le, zi_lt, zi_eq, zl_add, zl_sub, zl_mul, zi_i2l, zl_l2i, zb0, zb1, zb0', zb1', zi_c0, zi_c1, zb_c, i_leT, i_leF, i_ltT, i_ltF, i_eqT, i_eqF]
    simpa [zver] using hF
  · have r := dV_rng (v := v) (h := h)
    rw [show (v 32 0 - h).toNat = (v 32 0 - (h + 1)).toNat + 1 by omega] at hF
    unfold zver at hF
    refine b_Station_firstBreach_2 xs F _ _ _ (sh, zs v, zt w, R) ?_
    by_cases c : dV v h < 9
    · have ez : z98 (dV v h) = dV v h := by unfold z98; rw [if_neg (by omega)]
      rw [if_pos c] at hF
      simp (discharger := first | assumption | omega) [hD, fI, fL, fV, zs_ar, zt_ar, zs_un, zt_un, zn_c, zu_a, zu_e, zu_j, zix, zi_lit, zl_lit, zi_add, zi_sub, zi_mul, zi_neg, zi_le, zi_lt, zi_eq, zl_add, zl_sub, zl_mul, zi_i2l, zl_l2i, zb0, zb1, zb0', zb1', zi_c0, zi_c1, zb_c, d_leastBroken, ez, i_leT, i_leF, i_ltT, i_ltF, i_eqT, i_eqF]
      exact hF
    · have ez : z98 (dV v h) = 8 := by unfold z98; rw [if_pos (by omega)]
      rw [if_neg c] at hF
      simp (discharger := first | assumption | omega) [hD, fI, fL, fV, zs_ar, zt_ar, zs_un, zt_un, zn_c, zu_a, zu_e, zu_j, zix, zi_lit, zl_lit, zi_add, zi_sub, zi_mul, zi_neg, zi_le, zi_lt, zi_eq, zl_add, zl_sub, zl_mul, zi_i2l, zl_l2i, zb0, zb1, zb0', zb1', zi_c0, zi_c1, zb_c, d_leastBroken, ez, ih, i_leT, i_leF, i_ltT, i_ltF, i_eqT, i_eqF]
      exact hF
def dVer (v : Nat → Int → Int) : Int := zver (dV v) (v 32 0).toNat 0
theorem d_firstBreach (xs : List Int32) (sh : List q_Sh) (v w : Nat → Int → Int) (R : Nat → Nat → Option Nat) (hD : LD sh R) (hN : dN v) (hT : dT v) (hU : dUs v) (hE : dD v) (Q : Int32 → q_H → Prop) : q_CallI (GG xs) PP kStation_firstBreach [.ref 32, .ref 25] (sh, zs v, zt w, R) Q = Q (zi (dVer v)) (sh, zs v, zt w, R) := cI (fun Q hQ => by
  refine e_Station_firstBreach xs _ _ _ (sh, zs v, zt w, R) ?_
  have L := l_fb2 xs sh v w R hD hN hT hU hE 0 (by omega) (by have := hN.1; omega)
  rw [Int.sub_zero] at L
  simp (discharger := first | assumption | omega) [hD, fI, fL, fV, zs_ar, zt_ar, zs_un, zt_un, zn_c, zu_a, zu_e, zu_j, zix, zi_lit, zl_lit, zi_add, zi_sub, zi_mul, zi_neg, zi_le, zi_lt, zi_eq, zl_add, zl_sub, zl_mul, zi_i2l, zl_l2i, zb0, zb1, zb0', zb1', zi_c0, zi_c1, zb_c, L]
  exact hQ) Q
theorem d_verify (xs : List Int32) (sh : List q_Sh) (v w : Nat → Int → Int) (R : Nat → Nat → Option Nat) (hD : LD sh R) (hN : dN v) (hT : dT v) (hU : dUs v) (hE : dD v) (Q : Int32 → q_H → Prop) : q_CallI (GG xs) PP kDesk_verify [.ref 0] (sh, zs v, zt w, R) Q = Q (zi (dVer v)) (sh, zs v, zt w, R) := cI (fun Q hQ => by
  refine e_Desk_verify xs _ _ (sh, zs v, zt w, R) ?_
  simp (discharger := first | assumption | omega) [hD, fI, fL, fV, zs_ar, zt_ar, zs_un, zt_un, zn_c, zu_a, zu_e, zu_j, zix, zi_lit, zl_lit, zi_add, zi_sub, zi_mul, zi_neg, zi_le, zi_lt, zi_eq, zl_add, zl_sub, zl_mul, zi_i2l, zl_l2i, zb0, zb1, zb0', zb1', zi_c0, zi_c1, zb_c, d_firstBreach]
  exact hQ) Q
