/-! The station: what its hours and starts cost, who is on; a set's rating. -/
def dSt (v : Nat → Int → Int) (u h : Int) : Int := zst (fun n => v (uc u + 2) (n - 1)) (brow v u) (v (uc u) 5) (v (uc u) 6) h
def dHr (v : Nat → Int → Int) (u h : Int) : Int := v (uc u + 1) (zcho (v (uc u) 0) (v (uc u) 1) (v 25 (8 * u + h)))
theorem l_sc15 (xs : List Int32) (sh : List q_Sh) (v w : Nat → Int → Int) (R : Nat → Nat → Option Nat) (hD : LD sh R) (hN : dN v) (hT : dT v) (hU : dUs v) (u a : Int) (hu : 0 ≤ u ∧ u < v 32 1) (F : Option Value → q_H → Prop) (hk : q_Rt (GG xs) PP 110 F 4 [some (.ref 32), some (.ref 25), some (.int (zi (a + zsum (dSt v u) (v 32 0).toNat))), some (.int (zi (u + 1))), none] [] (sh, zs v, zt w, R)) : ∀ h, 0 ≤ h → h ≤ v 32 0 → q_Rt (GG xs) PP 110 F 15 [some (.ref 32), some (.ref 25), some (.int (zi (a + zsum (dSt v u) h.toNat))), some (.int (zi u)), some (.int (zi h))] [] (sh, zs v, zt w, R) := by
  have n1 := hN.1
  have n2 := hN.2
  have hu3 : 0 ≤ u ∧ u < 3 := by omega
  have hL := LD_LU hD hu3
  obtain ⟨u1, u2, u3, u4, u5, u6, u7, u8⟩ := hU u hu3.1 hu3.2
  refine zdown _ ?_ (fun h h1 h2 ih => ?_)
  · refine b_Station_startsCharged_15 xs F _ _ _ _ _ (sh, zs v, zt w, R) ?_
    simp (discharger := first | assumption | omega) [hD, fI, fL, fV, zs_ar, zt_ar, zs_un, zt_un, zn_c, zu_a, zu_e, zu_j, zix, zi_lit, zl_lit, zi_add, zi_sub, zi_mul, zi_neg, zi_le, zi_lt, zi_eq, zl_add, zl_sub, zl_mul, zi_i2l, zl_l2i, zb0, zb1, zb0', zb1', zi_c0, zi_c1, zb_c, i_leT, i_leF, i_ltT, i_ltF, i_eqT, i_eqF]
    exact hk
  · have e : (h + 1).toNat = h.toNat + 1 := by omega
    have e2 : ((h.toNat : Nat) : Int) = h := by omega
    rw [e] at ih
    simp only [zsum_s, e2] at ih
    have y5 := hT (8 * u + h) (by omega) (by omega)
    have r9 := zprev_rng hT hU hu3 (h := h) (by omega)
    have r11 := zlst_rng (t := brow v u) (wo := v (uc u) 5) (wh := v (uc u) 6) (h := h) (by omega) (by omega)
    have r12 := zlst_pos (t := brow v u) (wo := v (uc u) 5) (wh := v (uc u) 6) (h := h) (by omega) (by omega)
    have ap : dSt v u h = (if v 25 (8 * u + h) = 0 then 0 else if zprev (brow v u) (v (uc u) 5) h = 0 then v (uc u + 2) ((if zlst (brow v u) (v (uc u) 5) (v (uc u) 6) h ≤ 3 then zlst (brow v u) (v (uc u) 5) (v (uc u) 6) h else 3) - 1) else 0) := rfl
    rw [ap] at ih
    refine b_Station_startsCharged_15 xs F _ _ _ _ _ (sh, zs v, zt w, R) ?_
    by_cases c1 : v 25 (8 * u + h) = 0
    · rw [if_pos c1] at ih
      simp (discharger := first | assumption | omega) [hD, fI, fL, fV, zs_ar, zt_ar, zs_un, zt_un, zn_c, zu_a, zu_e, zu_j, zix, zi_lit, zl_lit, zi_add, zi_sub, zi_mul, zi_neg, zi_le, zi_lt, zi_eq, zl_add, zl_sub, zl_mul, zi_i2l, zl_l2i, zb0, zb1, zb0', zb1', zi_c0, zi_c1, zb_c, d_cell, i_leT, i_leF, i_ltT, i_ltF, i_eqT, i_eqF]
      simpa using ih
    · rw [if_neg c1] at ih
      by_cases c2 : zprev (brow v u) (v (uc u) 5) h = 0
      · rw [if_pos c2] at ih
        have hl := d_hoursHeld xs sh v w R hD hT hU u h hu3 (by omega)
        have hc := d_costOfStart xs sh v w R (uc u) hL (zlst (brow v u) (v (uc u) 5) (v (uc u) 6) h) (by omega)
        generalize zlst (brow v u) (v (uc u) 5) (v (uc u) 6) h = n at *
        have ei : (if 1 < (if 3 < n then 3 else n) then (if 3 < n then 3 else n) else 1) - 1 = (if n ≤ 3 then n else 3) - 1 := by (repeat' split) <;> omega
        rw [ei] at hc
        simp (discharger := first | assumption | omega) [hD, fI, fL, fV, zs_ar, zt_ar, zs_un, zt_un, zn_c, zu_a, zu_e, zu_j, zix, zi_lit, zl_lit, zi_add, zi_sub, zi_mul, zi_neg, zi_le, zi_lt, zi_eq, zl_add, zl_sub, zl_mul, zi_i2l, zl_l2i, zb0, zb1, zb0', zb1', zi_c0, zi_c1, zb_c, d_cell, d_outputAhead, hl, hc, gat3, gna, LD_un hD hu3, hL.1, c2, i_leT, i_leF, i_ltT, i_ltF, i_eqT, i_eqF]
        simpa [Int.add_assoc] using ih
      · rw [if_neg c2] at ih
        simp (discharger := first | assumption | omega) [hD, fI, fL, fV, zs_ar, zt_ar, zs_un, zt_un, zn_c, zu_a, zu_e, zu_j, zix, zi_lit, zl_lit, zi_add, zi_sub, zi_mul, zi_neg, zi_le, zi_lt, zi_eq, zl_add, zl_sub, zl_mul, zi_i2l, zl_l2i, zb0, zb1, zb0', zb1', zi_c0, zi_c1, zb_c, d_cell, d_outputAhead, i_leT, i_leF, i_ltT, i_ltF, i_eqT, i_eqF]
        simpa using ih
def dCS (v : Nat → Int → Int) (n : Nat) : Int := zsum (fun u => zsum (dSt v u) (v 32 0).toNat) n
def dCH (v : Nat → Int → Int) (n : Nat) : Int := zsum (fun u => zsum (dHr v u) (v 32 0).toNat) n
theorem l_sc4 (xs : List Int32) (sh : List q_Sh) (v w : Nat → Int → Int) (R : Nat → Nat → Option Nat) (hD : LD sh R) (hN : dN v) (hT : dT v) (hU : dUs v) : ∀ u, 0 ≤ u → u ≤ v 32 1 → ∀ F : Option Value → q_H → Prop, q_Rt (GG xs) PP 110 F 4 [some (.ref 32), some (.ref 25), some (.int (zi (dCS v u.toNat))), some (.int (zi u)), none] [] (sh, zs v, zt w, R) = F (some (.int (zi (dCS v (v 32 1).toNat)))) (sh, zs v, zt w, R) := by
  have n1 := hN.1
  have n2 := hN.2
  refine zdown _ (fun F => cR (fun F hF => ?_) F) (fun u h1 h2 ih F => cR (fun F hF => ?_) F)
  · refine b_Station_startsCharged_4 xs F _ _ _ _ (sh, zs v, zt w, R) ?_
    simp (discharger := first | assumption | omega) [hD, fI, fL, fV, zs_ar, zt_ar, zs_un, zt_un, zn_c, zu_a, zu_e, zu_j, zix, zi_lit, zl_lit, zi_add, zi_sub, zi_mul, zi_neg, zi_le, zi_lt, zi_eq, zl_add, zl_sub, zl_mul, zi_i2l, zl_l2i, zb0, zb1, zb0', zb1', zi_c0, zi_c1, zb_c, i_leT, i_leF, i_ltT, i_ltF, i_eqT, i_eqF]
    exact hF
  · have e : (u + 1).toNat = u.toNat + 1 := by omega
    have e2 : ((u.toNat : Nat) : Int) = u := by omega
    have ih2 := ih F
    rw [e] at ih2
    simp only [dCS, zsum_s, e2] at ih2
    have K := l_sc15 xs sh v w R hD hN hT hU u (dCS v u.toNat) ⟨h1, h2⟩ F (by
      unfold dCS
      rw [ih2]
      exact hF) 0 (by omega) (by omega)
    simp only [Int.toNat_zero, zsum, Int.add_zero] at K
    refine b_Station_startsCharged_4 xs F _ _ _ _ (sh, zs v, zt w, R) ?_
    simp (discharger := first | assumption | omega) [hD, fI, fL, fV, zs_ar, zt_ar, zs_un, zt_un, zn_c, zu_a, zu_e, zu_j, zix, zi_lit, zl_lit, zi_add, zi_sub, zi_mul, zi_neg, zi_le, zi_lt, zi_eq, zl_add, zl_sub, zl_mul, zi_i2l, zl_l2i, zb0, zb1, zb0', zb1', zi_c0, zi_c1, zb_c, i_leT, i_leF, i_ltT, i_ltF, i_eqT, i_eqF]
    exact K
theorem d_startsCharged (xs : List Int32) (sh : List q_Sh) (v w : Nat → Int → Int) (R : Nat → Nat → Option Nat) (hD : LD sh R) (hN : dN v) (hT : dT v) (hU : dUs v) (Q : Int32 → q_H → Prop) : q_CallI (GG xs) PP kStation_startsCharged [.ref 32, .ref 25] (sh, zs v, zt w, R) Q = Q (zi (dCS v (v 32 1).toNat)) (sh, zs v, zt w, R) := cI (fun Q hQ => by
  refine e_Station_startsCharged xs _ _ _ (sh, zs v, zt w, R) ?_
  have L := l_sc4 xs sh v w R hD hN hT hU 0 (by omega) (by have := hN.2; omega)
  simp only [dCS, Int.toNat_zero, zsum] at L
  simp (discharger := first | assumption | omega) [hD, fI, fL, fV, zs_ar, zt_ar, zs_un, zt_un, zn_c, zu_a, zu_e, zu_j, zix, zi_lit, zl_lit, zi_add, zi_sub, zi_mul, zi_neg, zi_le, zi_lt, zi_eq, zl_add, zl_sub, zl_mul, zi_i2l, zl_l2i, zb0, zb1, zb0', zb1', zi_c0, zi_c1, zb_c, L]
  exact hQ) Q
theorem l_hc15 (xs : List Int32) (sh : List q_Sh) (v w : Nat → Int → Int) (R : Nat → Nat → Option Nat) (hD : LD sh R) (hN : dN v) (hT : dT v) (hU : dUs v) (u a : Int) (hu : 0 ≤ u ∧ u < v 32 1) (F : Option Value → q_H → Prop) (hk : q_Rt (GG xs) PP 111 F 4 [some (.ref 32), some (.ref 25), some (.int (zi (a + zsum (dHr v u) (v 32 0).toNat))), some (.int (zi (u + 1))), none] [] (sh, zs v, zt w, R)) : ∀ h, 0 ≤ h → h ≤ v 32 0 → q_Rt (GG xs) PP 111 F 15 [some (.ref 32), some (.ref 25), some (.int (zi (a + zsum (dHr v u) h.toNat))), some (.int (zi u)), some (.int (zi h))] [] (sh, zs v, zt w, R) := by
  have n1 := hN.1
  have n2 := hN.2
  have hu3 : 0 ≤ u ∧ u < 3 := by omega
  have hL := LD_LU hD hu3
  have hU' := hU u hu3.1 hu3.2
  refine zdown _ ?_ (fun h h1 h2 ih => ?_)
  · refine b_Station_hoursCharged_15 xs F _ _ _ _ _ (sh, zs v, zt w, R) ?_
    simp (discharger := first | assumption | omega) [hD, fI, fL, fV, zs_ar, zt_ar, zs_un, zt_un, zn_c, zu_a, zu_e, zu_j, zix, zi_lit, zl_lit, zi_add, zi_sub, zi_mul, zi_neg, zi_le, zi_lt, zi_eq, zl_add, zl_sub, zl_mul, zi_i2l, zl_l2i, zb0, zb1, zb0', zb1', zi_c0, zi_c1, zb_c, i_leT, i_leF, i_ltT, i_ltF, i_eqT, i_eqF]
    exact hk
  · have e : (h + 1).toNat = h.toNat + 1 := by omega
    have e2 : ((h.toNat : Nat) : Int) = h := by omega
    rw [e] at ih
    simp only [zsum_s, e2] at ih
    have y5 := hT (8 * u + h) (by omega) (by omega)
    have z := zcho_rng hU' (v 25 (8 * u + h))
    have hc := d_choiceFor xs sh v w R (uc u) hL hU' (v 25 (8 * u + h)) (by omega)
    have hd := d_costOfHour xs sh v w R (uc u) hL (zcho (v (uc u) 0) (v (uc u) 1) (v 25 (8 * u + h))) z
    rw [show v (uc u + 1) (zcho (v (uc u) 0) (v (uc u) 1) (v 25 (8 * u + h))) = dHr v u h from rfl] at hd
    refine b_Station_hoursCharged_15 xs F _ _ _ _ _ (sh, zs v, zt w, R) ?_
    simp (discharger := first | assumption | omega) [hD, fI, fL, fV, zs_ar, zt_ar, zs_un, zt_un, zn_c, zu_a, zu_e, zu_j, zix, zi_lit, zl_lit, zi_add, zi_sub, zi_mul, zi_neg, zi_le, zi_lt, zi_eq, zl_add, zl_sub, zl_mul, zi_i2l, zl_l2i, zb0, zb1, zb0', zb1', zi_c0, zi_c1, zb_c, d_cell, hc, hd, gat3, gna, LD_un hD hu3, hL.1, i_leT, i_leF, i_ltT, i_ltF, i_eqT, i_eqF]
    simpa [Int.add_assoc] using ih
theorem l_hc4 (xs : List Int32) (sh : List q_Sh) (v w : Nat → Int → Int) (R : Nat → Nat → Option Nat) (hD : LD sh R) (hN : dN v) (hT : dT v) (hU : dUs v) : ∀ u, 0 ≤ u → u ≤ v 32 1 → ∀ F : Option Value → q_H → Prop, q_Rt (GG xs) PP 111 F 4 [some (.ref 32), some (.ref 25), some (.int (zi (dCH v u.toNat))), some (.int (zi u)), none] [] (sh, zs v, zt w, R) = F (some (.int (zi (dCH v (v 32 1).toNat)))) (sh, zs v, zt w, R) := by
  have n1 := hN.1
  have n2 := hN.2
  refine zdown _ (fun F => cR (fun F hF => ?_) F) (fun u h1 h2 ih F => cR (fun F hF => ?_) F)
  · refine b_Station_hoursCharged_4 xs F _ _ _ _ (sh, zs v, zt w, R) ?_
    simp (discharger := first | assumption | omega) [hD, fI, fL, fV, zs_ar, zt_ar, zs_un, zt_un, zn_c, zu_a, zu_e, zu_j, zix, zi_lit, zl_lit, zi_add, zi_sub, zi_mul, zi_neg, zi_le, zi_lt, zi_eq, zl_add, zl_sub, zl_mul, zi_i2l, zl_l2i, zb0, zb1, zb0', zb1', zi_c0, zi_c1, zb_c, i_leT, i_leF, i_ltT, i_ltF, i_eqT, i_eqF]
    exact hF
  · have e : (u + 1).toNat = u.toNat + 1 := by omega
    have e2 : ((u.toNat : Nat) : Int) = u := by omega
    have ih2 := ih F
    rw [e] at ih2
    simp only [dCH, zsum_s, e2] at ih2
    have K := l_hc15 xs sh v w R hD hN hT hU u (dCH v u.toNat) ⟨h1, h2⟩ F (by
      unfold dCH
      rw [ih2]
      exact hF) 0 (by omega) (by omega)
    simp only [Int.toNat_zero, zsum, Int.add_zero] at K
    refine b_Station_hoursCharged_4 xs F _ _ _ _ (sh, zs v, zt w, R) ?_
    simp (discharger := first | assumption | omega) [hD, fI, fL, fV, zs_ar, zt_ar, zs_un, zt_un, zn_c, zu_a, zu_e, zu_j, zix, zi_lit, zl_lit, zi_add, zi_sub, zi_mul, zi_neg, zi_le, zi_lt, zi_eq, zl_add, zl_sub, zl_mul, zi_i2l, zl_l2i, zb0, zb1, zb0', zb1', zi_c0, zi_c1, zb_c, i_leT, i_leF, i_ltT, i_ltF, i_eqT, i_eqF]
    exact K
theorem d_hoursCharged (xs : List Int32) (sh : List q_Sh) (v w : Nat → Int → Int) (R : Nat → Nat → Option Nat) (hD : LD sh R) (hN : dN v) (hT : dT v) (hU : dUs v) (Q : Int32 → q_H → Prop) : q_CallI (GG xs) PP kStation_hoursCharged [.ref 32, .ref 25] (sh, zs v, zt w, R) Q = Q (zi (dCH v (v 32 1).toNat)) (sh, zs v, zt w, R) := cI (fun Q hQ => by
  refine e_Station_hoursCharged xs _ _ _ (sh, zs v, zt w, R) ?_
  have L := l_hc4 xs sh v w R hD hN hT hU 0 (by omega) (by have := hN.2; omega)
  simp only [dCH, Int.toNat_zero, zsum] at L
  simp (discharger := first | assumption | omega) [hD, fI, fL, fV, zs_ar, zt_ar, zs_un, zt_un, zn_c, zu_a, zu_e, zu_j, zix, zi_lit, zl_lit, zi_add, zi_sub, zi_mul, zi_neg, zi_le, zi_lt, zi_eq, zl_add, zl_sub, zl_mul, zi_i2l, zl_l2i, zb0, zb1, zb0', zb1', zi_c0, zi_c1, zb_c, L]
  exact hQ) Q
/-- who is on, bit by bit -/
def zbit (x k : Int) : Int := if x = 0 then 0 else k
def dWho (v : Nat → Int → Int) (h : Int) : Int := zbit (v 25 h) 1 + zbit (v 25 (8 + h)) 2 + zbit (v 25 (16 + h)) 4
theorem zor_0 (a : Int) : zi a ||| zi 0 = zi a := Int32.or_zero
theorem zor_10 : zi 0 ||| zi 1 <<< (zi 0 &&& zi 31) = zi 1 := by decide
theorem zor_11 {a : Int} (h1 : 0 ≤ a) (h2 : a < 2) : zi a ||| zi 1 <<< (zi 1 &&& zi 31) = zi (a + 2) := by
  obtain rfl | rfl : a = 0 ∨ a = 1 := by omega
  · decide
  · decide
theorem zor_12 {a : Int} (h1 : 0 ≤ a) (h2 : a < 4) : zi a ||| zi 1 <<< (zi 2 &&& zi 31) = zi (a + 4) := by
  obtain rfl | rfl | rfl | rfl : a = 0 ∨ a = 1 ∨ a = 2 ∨ a = 3 := by omega
  · decide
  · decide
  · decide
  · decide
theorem d_whoIsOn (xs : List Int32) (sh : List q_Sh) (v w : Nat → Int → Int) (R : Nat → Nat → Option Nat) (hD : LD sh R) (hT : dT v) (h : Int) (hh : 0 ≤ h ∧ h < 8) (Q : Int32 → q_H → Prop) : q_CallI (GG xs) PP kStation_whoIsOn [.ref 32, .ref 25, .int (zi h)] (sh, zs v, zt w, R) Q = Q (zi (dWho v h)) (sh, zs v, zt w, R) := cI (fun Q hQ => by
  have t0 := hT h (by omega) (by omega)
  have t1 := hT (8 + h) (by omega) (by omega)
  have t2 := hT (16 + h) (by omega) (by omega)
  have s3 : ∀ (a : Int) (F : Option Value → q_H → Prop), q_Rt (GG xs) PP 112 F 5 [none, some (.ref 25), some (.int (zi h)), some (.int (zi a)), some (.int (zi 3))] [] (sh, zs v, zt w, R) = F (some (.int (zi a))) (sh, zs v, zt w, R) := fun a F => cR (fun F hF => by
    refine b_Station_whoIsOn_5 xs F _ _ _ _ (sh, zs v, zt w, R) ?_
    simp (discharger := first | assumption | omega) [hD, fI, fL, fV, zs_ar, zt_ar, zs_un, zt_un, zn_c, zu_a, zu_e, zu_j, zix, zi_lit, zl_lit, zi_add, zi_sub, zi_mul, zi_neg, zi_le, zi_lt, zi_eq, zl_add, zl_sub, zl_mul, zi_i2l, zl_l2i, zb0, zb1, zb0', zb1', zi_c0, zi_c1, zb_c, i_leT, i_leF, i_ltT, i_ltF, i_eqT, i_eqF]
    exact hF) F
  have s2 : ∀ (a : Int) (h1 : 0 ≤ a ∧ a < 4) (F : Option Value → q_H → Prop), q_Rt (GG xs) PP 112 F 5 [none, some (.ref 25), some (.int (zi h)), some (.int (zi a)), some (.int (zi 2))] [] (sh, zs v, zt w, R) = F (some (.int (zi (a + zbit (v 25 (16 + h)) 4)))) (sh, zs v, zt w, R) := fun a h1 F => cR (fun F hF => by
    refine b_Station_whoIsOn_5 xs F _ _ _ _ (sh, zs v, zt w, R) ?_
    unfold zbit at hF
    by_cases c : v 25 (16 + h) = 0
    · rw [if_pos c] at hF
      simp (discharger := first | assumption | omega) [hD, fI, fL, fV, zs_ar, zt_ar, zs_un, zt_un, zn_c, zu_a, zu_e, zu_j, zix, zi_lit, zl_lit, zi_add, zi_sub, zi_mul, zi_neg, zi_le, zi_lt, zi_eq, zl_add, zl_sub, zl_mul, zi_i2l, zl_l2i, zb0, zb1, zb0', zb1', zi_c0, zi_c1, zb_c, d_cell, zor_0, c, s3, i_leT, i_leF, i_ltT, i_ltF, i_eqT, i_eqF]
      simpa using hF
    · rw [if_neg c] at hF
      simp (discharger := first | assumption | omega) [hD, fI, fL, fV, zs_ar, zt_ar, zs_un, zt_un, zn_c, zu_a, zu_e, zu_j, zix, zi_lit, zl_lit, zi_add, zi_sub, zi_mul, zi_neg, zi_le, zi_lt, zi_eq, zl_add, zl_sub, zl_mul, zi_i2l, zl_l2i, zb0, zb1, zb0', zb1', zi_c0, zi_c1, zb_c, d_cell, zor_12 h1.1 h1.2, s3, i_leT, i_leF, i_ltT, i_ltF, i_eqT, i_eqF]
      exact hF) F
  have s1 : ∀ (a : Int) (h1 : 0 ≤ a ∧ a < 2) (F : Option Value → q_H → Prop), q_Rt (GG xs) PP 112 F 5 [none, some (.ref 25), some (.int (zi h)), some (.int (zi a)), some (.int (zi 1))] [] (sh, zs v, zt w, R) = F (some (.int (zi (a + zbit (v 25 (8 + h)) 2 + zbit (v 25 (16 + h)) 4)))) (sh, zs v, zt w, R) := fun a h1 F => cR (fun F hF => by
    refine b_Station_whoIsOn_5 xs F _ _ _ _ (sh, zs v, zt w, R) ?_
    by_cases c : v 25 (8 + h) = 0
    · rw [show zbit (v 25 (8 + h)) 2 = 0 by unfold zbit; rw [if_pos c], Int.add_zero] at hF
      simp (discharger := first | assumption | omega) [hD, fI, fL, fV, zs_ar, zt_ar, zs_un, zt_un, zn_c, zu_a, zu_e, zu_j, zix, zi_lit, zl_lit, zi_add, zi_sub, zi_mul, zi_neg, zi_le, zi_lt, zi_eq, zl_add, zl_sub, zl_mul, zi_i2l, zl_l2i, zb0, zb1, zb0', zb1', zi_c0, zi_c1, zb_c, d_cell, zor_0, c, s2 a (by omega), i_leT, i_leF, i_ltT, i_ltF, i_eqT, i_eqF]
      exact hF
    · rw [show zbit (v 25 (8 + h)) 2 = 2 by unfold zbit; rw [if_neg c]] at hF
      simp (discharger := first | assumption | omega) [hD, fI, fL, fV, zs_ar, zt_ar, zs_un, zt_un, zn_c, zu_a, zu_e, zu_j, zix, zi_lit, zl_lit, zi_add, zi_sub, zi_mul, zi_neg, zi_le, zi_lt, zi_eq, zl_add, zl_sub, zl_mul, zi_i2l, zl_l2i, zb0, zb1, zb0', zb1', zi_c0, zi_c1, zb_c, d_cell, zor_11 h1.1 h1.2, s2 (a + 2) (by omega), i_leT, i_leF, i_ltT, i_ltF, i_eqT, i_eqF]
      exact hF) F
  refine e_Station_whoIsOn xs _ _ _ _ (sh, zs v, zt w, R) ?_
  simp (discharger := first | assumption | omega) [hD, fI, fL, fV, zs_ar, zt_ar, zs_un, zt_un, zn_c, zu_a, zu_e, zu_j, zix, zi_lit, zl_lit, zi_add, zi_sub, zi_mul, zi_neg, zi_le, zi_lt, zi_eq, zl_add, zl_sub, zl_mul, zi_i2l, zl_l2i, zb0, zb1, zb0', zb1', zi_c0, zi_c1, zb_c]
  refine b_Station_whoIsOn_5 xs _ _ _ _ _ (sh, zs v, zt w, R) ?_
  unfold dWho at hQ
  by_cases c : v 25 h = 0
  · rw [show zbit (v 25 h) 1 = 0 by unfold zbit; rw [if_pos c]] at hQ
    simp (discharger := first | assumption | omega) [hD, fI, fL, fV, zs_ar, zt_ar, zs_un, zt_un, zn_c, zu_a, zu_e, zu_j, zix, zi_lit, zl_lit, zi_add, zi_sub, zi_mul, zi_neg, zi_le, zi_lt, zi_eq, zl_add, zl_sub, zl_mul, zi_i2l, zl_l2i, zb0, zb1, zb0', zb1', zi_c0, zi_c1, zb_c, d_cell, zor_0, c, s1 0 (by omega), i_leT, i_leF, i_ltT, i_ltF, i_eqT, i_eqF]
    simpa using hQ
  · rw [show zbit (v 25 h) 1 = 1 by unfold zbit; rw [if_neg c]] at hQ
    simp (discharger := first | assumption | omega) [hD, fI, fL, fV, zs_ar, zt_ar, zs_un, zt_un, zn_c, zu_a, zu_e, zu_j, zix, zi_lit, zl_lit, zi_add, zi_sub, zi_mul, zi_neg, zi_le, zi_lt, zi_eq, zl_add, zl_sub, zl_mul, zi_i2l, zl_l2i, zb0, zb1, zb0', zb1', zi_c0, zi_c1, zb_c, d_cell, zor_10, s1 1 (by omega), i_leT, i_leF, i_ltT, i_ltF, i_eqT, i_eqF]
    exact hQ) Q
/-- the first k of a set's next states laid down -/
def fnx (v : Nat → Int → Int) (a : Nat) (k : Int) : Nat → Int → Int := fun b j => if b = a + 3 ∧ 0 ≤ j ∧ j < k then dX v a (j / 5) (j % 5) else v b j
theorem fnx_row {v : Nat → Int → Int} {a b : Nat} {k : Int} (h : b ≠ a + 3) : fnx v a k b = v b := by
  funext j
  simp only [fnx, h, false_and, if_false]
theorem fnx_X {v : Nat → Int → Int} {a : Nat} {k : Int} : dX (fnx v a k) a = dX v a := by
  funext s c
  unfold dX
  rw [fnx_row (by omega)]
theorem fnx_U {v : Nat → Int → Int} {a : Nat} {k : Int} (h : dU v a) : dU (fnx v a k) a := by
  unfold dU
  rw [fnx_row (by omega)]
  exact h
theorem fnx_0 {v : Nat → Int → Int} {a : Nat} : fnx v a 0 = v := by
  funext b j
  unfold fnx
  rw [if_neg (by omega)]
theorem fnx_s {v : Nat → Int → Int} {a : Nat} {s c : Int} (hs : 0 ≤ s) (h1 : 0 ≤ c) (h2 : c < 5) : zu (fnx v a (5 * s + c)) (a + 3) (s * 5 + c) (dX v a s c) = fnx v a (5 * s + (c + 1)) := by
  funext b j
  unfold zu
  by_cases q : b = a + 3 ∧ j = s * 5 + c
  · rw [if_pos q]
    unfold fnx
    rw [if_pos (by omega), show j / 5 = s by omega, show j % 5 = c by omega]
  · rw [if_neg q]
    unfold fnx
    by_cases q2 : b = a + 3 ∧ 0 ≤ j ∧ j < 5 * s + c
    · rw [if_pos q2, if_pos (by omega)]
    · rw [if_neg q2, if_neg (by omega)]
theorem l_fn10 (xs : List Int32) (sh : List q_Sh) (v w : Nat → Int → Int) (R : Nat → Nat → Option Nat) (a : Nat) (hL : LU sh R a) (hU : dU v a) (s : Int) (hs : 0 ≤ s ∧ s < 15) (F : Option Value → q_H → Prop) (hk : q_Rt (GG xs) PP 131 F 2 [some (.ref a), some (.int (zi (s + 1))), none] [] (sh, zs (fnx v a (5 * (s + 1))), zt w, R)) : ∀ c, 0 ≤ c → c ≤ 5 → q_Rt (GG xs) PP 131 F 10 [some (.ref a), some (.int (zi s)), some (.int (zi c))] [] (sh, zs (fnx v a (5 * s + c)), zt w, R) := by
  refine zdown _ ?_ (fun c h1 h2 ih => ?_)
  · refine b_Unit_fillNextStates_10 xs F _ _ _ _ ?_
    simp (discharger := first | assumption | omega) [fI, fL, fV, zs_ar, zt_ar, zs_un, zt_un, zn_c, zu_a, zu_e, zu_j, zix, zi_lit, zl_lit, zi_add, zi_sub, zi_mul, zi_neg, zi_le, zi_lt, zi_eq, zl_add, zl_sub, zl_mul, zi_i2l, zl_l2i, zb0, zb1, zb0', zb1', zi_c0, zi_c1, zb_c, i_leT, i_leF, i_ltT, i_ltF, i_eqT, i_eqF]
    rw [show 5 * s + 5 = 5 * (s + 1) by omega]
    exact hk
  · have f := d_find xs sh (fnx v a (5 * s + c)) w R a hL (fnx_U hU) s c hs (by omega)
    rw [fnx_X] at f
    refine b_Unit_fillNextStates_10 xs F _ _ _ _ ?_
    simp (discharger := first | assumption | omega) [fI, fL, fV, zs_ar, zt_ar, zs_un, zt_un, zn_c, zu_a, zu_e, zu_j, zix, zi_lit, zl_lit, zi_add, zi_sub, zi_mul, zi_neg, zi_le, zi_lt, zi_eq, zl_add, zl_sub, zl_mul, zi_i2l, zl_l2i, zb0, zb1, zb0', zb1', zi_c0, zi_c1, zb_c, hL.1, hL.2.2.2.1, hL.2.2.2.2.2.2, f, fnx_s hs.1 h1 h2, i_leT, i_leF, i_ltT, i_ltF, i_eqT, i_eqF]
    exact ih
theorem d_fillNext (xs : List Int32) (sh : List q_Sh) (v w : Nat → Int → Int) (R : Nat → Nat → Option Nat) (a : Nat) (hL : LU sh R a) (hU : dU v a) (Q : q_H → Prop) : q_CallV (GG xs) PP kUnit_fillNextStates [.ref a] (sh, zs v, zt w, R) Q = Q (sh, zs (fnx v a 75), zt w, R) := cV (fun Q hQ => by
  have L : ∀ s, 0 ≤ s → s ≤ 15 → q_Rt (GG xs) PP 131 (q_FV Q) 2 [some (.ref a), some (.int (zi s)), none] [] (sh, zs (fnx v a (5 * s)), zt w, R) := by
    refine zdown _ ?_ (fun s h1 h2 ih => ?_)
    · refine b_Unit_fillNextStates_2 xs _ _ _ _ ?_
      simp (discharger := first | assumption | omega) [fI, fL, fV, zs_ar, zt_ar, zs_un, zt_un, zn_c, zu_a, zu_e, zu_j, zix, zi_lit, zl_lit, zi_add, zi_sub, zi_mul, zi_neg, zi_le, zi_lt, zi_eq, zl_add, zl_sub, zl_mul, zi_i2l, zl_l2i, zb0, zb1, zb0', zb1', zi_c0, zi_c1, zb_c, i_leT, i_leF, i_ltT, i_ltF, i_eqT, i_eqF]
      exact hQ
    · refine b_Unit_fillNextStates_2 xs _ _ _ _ ?_
      have K := l_fn10 xs sh v w R a hL hU s ⟨h1, h2⟩ _ ih 0 (by omega) (by omega)
      rw [Int.add_zero] at K
      simp (discharger := first | assumption | omega) [fI, fL, fV, zs_ar, zt_ar, zs_un, zt_un, zn_c, zu_a, zu_e, zu_j, zix, zi_lit, zl_lit, zi_add, zi_sub, zi_mul, zi_neg, zi_le, zi_lt, zi_eq, zl_add, zl_sub, zl_mul, zi_i2l, zl_l2i, zb0, zb1, zb0', zb1', zi_c0, zi_c1, zb_c, i_leT, i_leF, i_ltT, i_ltF, i_eqT, i_eqF]
      exact K
  have K := L 0 (by omega) (by omega)
  rw [show (5 : Int) * 0 = 0 by rfl, fnx_0] at K
  refine e_Unit_fillNextStates xs _ _ (sh, zs v, zt w, R) ?_
  simp (discharger := first | assumption | omega) [fI, fL, fV, zs_ar, zt_ar, zs_un, zt_un, zn_c, zu_a, zu_e, zu_j, zix, zi_lit, zl_lit, zi_add, zi_sub, zi_mul, zi_neg, zi_le, zi_lt, zi_eq, zl_add, zl_sub, zl_mul, zi_i2l, zl_l2i, zb0, zb1, zb0', zb1', zi_c0, zi_c1, zb_c]
  exact K) Q
def dRa (v : Nat → Int → Int) (a : Nat) (l h u d r : Int) : Nat → Int → Int := fnx (zu (zu (zu (zu (zu v a 0 l) a 1 h) a 2 u) a 3 d) a 4 r) a 75
theorem d_rate (xs : List Int32) (sh : List q_Sh) (v w : Nat → Int → Int) (R : Nat → Nat → Option Nat) (a : Nat) (hL : LU sh R a) (hU : dU v a) (l h u d r : Int) (hl : 1 ≤ l ∧ l ≤ 60) (hh : l ≤ h ∧ h ≤ 60) (hlh : h ≤ l + 3) (hu : 1 ≤ u ∧ u ≤ 3) (hd : 1 ≤ d ∧ d ≤ 3) (hr : 1 ≤ r ∧ r ≤ 3) (Q : q_H → Prop) : q_CallV (GG xs) PP kUnit_rate [.ref a, .int (zi l), .int (zi h), .int (zi u), .int (zi d), .int (zi r)] (sh, zs v, zt w, R) Q = Q (sh, zs (dRa v a l h u d r), zt w, R) := cV (fun Q hQ => by
  have hU' : dU (zu (zu (zu (zu (zu v a 0 l) a 1 h) a 2 u) a 3 d) a 4 r) a := by
    obtain ⟨u1, u2, u3, u4, u5, u6, u7, u8⟩ := hU
    simp only [dU, zu]
    simp
    omega
  refine e_Unit_rate xs _ _ _ _ _ _ _ (sh, zs v, zt w, R) ?_
  simp (discharger := first | assumption | omega) [fI, fL, fV, zs_ar, zt_ar, zs_un, zt_un, zn_c, zu_a, zu_e, zu_j, zix, zi_lit, zl_lit, zi_add, zi_sub, zi_mul, zi_neg, zi_le, zi_lt, zi_eq, zl_add, zl_sub, zl_mul, zi_i2l, zl_l2i, zb0, zb1, zb0', zb1', zi_c0, zi_c1, zb_c, hL.1, d_fillNext xs sh _ w R a hL hU']
  exact hQ) Q
def dCg (v : Nat → Int → Int) (a : Nat) (b f s t : Int) : Nat → Int → Int := zu (zu (zu (zu v (a + 1) 1 b) (a + 1) 2 (b + f)) (a + 1) 3 (b + f + s)) (a + 1) 4 (b + f + s + t)
theorem d_chargeHours (xs : List Int32) (sh : List q_Sh) (v w : Nat → Int → Int) (R : Nat → Nat → Option Nat) (a : Nat) (hL : LU sh R a) (b f s t : Int) (Q : q_H → Prop) : q_CallV (GG xs) PP kUnit_chargeHours [.ref a, .int (zi b), .int (zi f), .int (zi s), .int (zi t)] (sh, zs v, zt w, R) Q = Q (sh, zs (dCg v a b f s t), zt w, R) := cV (fun Q hQ => by
  refine e_Unit_chargeHours xs _ _ _ _ _ _ (sh, zs v, zt w, R) ?_
  simp (discharger := first | assumption | omega) [fI, fL, fV, zs_ar, zt_ar, zs_un, zt_un, zn_c, zu_a, zu_e, zu_j, zix, zi_lit, zl_lit, zi_add, zi_sub, zi_mul, zi_neg, zi_le, zi_lt, zi_eq, zl_add, zl_sub, zl_mul, zi_i2l, zl_l2i, zb0, zb1, zb0', zb1', zi_c0, zi_c1, zb_c, hL.1, hL.2.1, hL.2.2.2.2.1]
  exact hQ) Q
def dCs (v : Nat → Int → Int) (a : Nat) (x y z : Int) : Nat → Int → Int := zu (zu (zu v (a + 2) 0 x) (a + 2) 1 y) (a + 2) 2 z
theorem d_chargeStarts (xs : List Int32) (sh : List q_Sh) (v w : Nat → Int → Int) (R : Nat → Nat → Option Nat) (a : Nat) (hL : LU sh R a) (x y z : Int) (Q : q_H → Prop) : q_CallV (GG xs) PP kUnit_chargeStarts [.ref a, .int (zi x), .int (zi y), .int (zi z)] (sh, zs v, zt w, R) Q = Q (sh, zs (dCs v a x y z), zt w, R) := cV (fun Q hQ => by
  refine e_Unit_chargeStarts xs _ _ _ _ _ (sh, zs v, zt w, R) ?_
  simp (discharger := first | assumption | omega) [fI, fL, fV, zs_ar, zt_ar, zs_un, zt_un, zn_c, zu_a, zu_e, zu_j, zix, zi_lit, zl_lit, zi_add, zi_sub, zi_mul, zi_neg, zi_le, zi_lt, zi_eq, zl_add, zl_sub, zl_mul, zi_i2l, zl_l2i, zb0, zb1, zb0', zb1', zi_c0, zi_c1, zb_c, hL.1, hL.2.2.1, hL.2.2.2.2.2.1]
  exact hQ) Q
def dSA (v : Nat → Int → Int) : Nat → Int → Int := zu (zu v 15 5 64) 15 7 0
theorem d_afresh (xs : List Int32) (sh : List q_Sh) (v w : Nat → Int → Int) (R : Nat → Nat → Option Nat) (hD : LD sh R) (Q : q_H → Prop) : q_CallV (GG xs) PP kMarket_startAfresh [.ref 15] (sh, zs v, zt w, R) Q = Q (sh, zs (dSA v), zt w, R) := cV (fun Q hQ => by
  refine e_Market_startAfresh xs _ _ (sh, zs v, zt w, R) ?_
  simp (discharger := first | assumption | omega) [hD, fI, fL, fV, zs_ar, zt_ar, zs_un, zt_un, zn_c, zu_a, zu_e, zu_j, zix, zi_lit, zl_lit, zi_add, zi_sub, zi_mul, zi_neg, zi_le, zi_lt, zi_eq, zl_add, zl_sub, zl_mul, zi_i2l, zl_l2i, zb0, zb1, zb0', zb1', zi_c0, zi_c1, zb_c]
  exact hQ) Q
