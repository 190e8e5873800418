/-! The runs that end in a throw. -/
theorem t_output (xs : List Int32) (sh : List q_Sh) (v w : Nat → Int → Int) (R : Nat → Nat → Option Nat) (hD : LD sh R) (hN : dN v) (u k : Int) (r1 : -2147483648 ≤ u ∧ u < 2147483648) (r2 : -2147483648 ≤ k ∧ k < 2147483648) (hq : ¬ ((0 ≤ u ∧ u < v 32 1) ∧ (0 ≤ k ∧ k < v 32 0))) : t_run xs kDesk_output [.ref 0, .int (zi u), .int (zi k)] (sh, zs v, zt w, R) 12 := t_run_of t8_12 (fun J hC hJ => by
  refine y_Desk_output xs hC 0 _ _ (sh, zs v, zt w, R) ?_
  simp (discharger := first | assumption | omega) [hD, fI, fL, fV, zs_ar, zt_ar, zs_un, zt_un, zn_c, zu_a, zu_e, zu_j, zix, zi_lit, zl_lit, zi_add, zi_sub, zi_mul, zi_neg, zi_le, zi_lt, zi_eq, zl_add, zl_sub, zl_mul, zi_i2l, zl_l2i, zb0, zb1, zb0', zb1', zi_c0, zi_c1, zb_c, d_hasCell, hq]
  exact hJ)
theorem t_priceOf (xs : List Int32) (sh : List q_Sh) (v w : Nat → Int → Int) (R : Nat → Nat → Option Nat) (hD : LD sh R) (hN : dN v) (k : Int) (r2 : -2147483648 ≤ k ∧ k < 2147483648) (hq : ¬ (0 ≤ k ∧ k < v 32 0)) : t_run xs kDesk_priceOf [.ref 0, .int (zi k)] (sh, zs v, zt w, R) 11 := t_run_of t13_11 (fun J hC hJ => by
  refine y_Desk_priceOf xs hC 0 _ (sh, zs v, zt w, R) ?_
  simp (discharger := first | assumption | omega) [hD, fI, fL, fV, zs_ar, zt_ar, zs_un, zt_un, zn_c, zu_a, zu_e, zu_j, zix, zi_lit, zl_lit, zi_add, zi_sub, zi_mul, zi_neg, zi_le, zi_lt, zi_eq, zl_add, zl_sub, zl_mul, zi_i2l, zl_l2i, zb0, zb1, zb0', zb1', zi_c0, zi_c1, zb_c, d_hasHour, hq]
  exact hJ)
theorem t_alone (xs : List Int32) (sh : List q_Sh) (v w : Nat → Int → Int) (R : Nat → Nat → Option Nat) (hD : LD sh R) (hN : dN v) (u : Int) (r2 : -2147483648 ≤ u ∧ u < 2147483648) (hq : ¬ (0 ≤ u ∧ u < v 32 1)) : t_run xs kDesk_alone [.ref 0, .int (zi u)] (sh, zs v, zt w, R) 11 := t_run_of t14_11 (fun J hC hJ => by
  refine y_Desk_alone xs hC 0 _ (sh, zs v, zt w, R) ?_
  simp (discharger := first | assumption | omega) [hD, fI, fL, fV, zs_ar, zt_ar, zs_un, zt_un, zn_c, zu_a, zu_e, zu_j, zix, zi_lit, zl_lit, zi_add, zi_sub, zi_mul, zi_neg, zi_le, zi_lt, zi_eq, zl_add, zl_sub, zl_mul, zi_i2l, zl_l2i, zb0, zb1, zb0', zb1', zi_c0, zi_c1, zb_c, d_hasSet, hq]
  exact hJ)
theorem t_lone (xs : List Int32) (sh : List q_Sh) (v w : Nat → Int → Int) (R : Nat → Nat → Option Nat) (hD : LD sh R) (hN : dN v) (u k : Int) (r1 : -2147483648 ≤ u ∧ u < 2147483648) (r2 : -2147483648 ≤ k ∧ k < 2147483648) (hq : ¬ ((0 ≤ u ∧ u < v 32 1) ∧ (0 ≤ k ∧ k < v 32 0))) : t_run xs kDesk_lone [.ref 0, .int (zi u), .int (zi k)] (sh, zs v, zt w, R) 12 := t_run_of t15_12 (fun J hC hJ => by
  refine y_Desk_lone xs hC 0 _ _ (sh, zs v, zt w, R) ?_
  simp (discharger := first | assumption | omega) [hD, fI, fL, fV, zs_ar, zt_ar, zs_un, zt_un, zn_c, zu_a, zu_e, zu_j, zix, zi_lit, zl_lit, zi_add, zi_sub, zi_mul, zi_neg, zi_le, zi_lt, zi_eq, zl_add, zl_sub, zl_mul, zi_i2l, zl_l2i, zb0, zb1, zb0', zb1', zi_c0, zi_c1, zb_c, d_hasCell, hq]
  exact hJ)
theorem t_improve (xs : List Int32) (sh : List q_Sh) (v w : Nat → Int → Int) (R : Nat → Nat → Option Nat) (hD : LD sh R) (n : Int) (r2 : -2147483648 ≤ n ∧ n < 2147483648) (hq : ¬ (1 ≤ n ∧ n ≤ 40)) : t_run xs kDesk_improve [.ref 0, .int (zi n)] (sh, zs v, zt w, R) 10 := t_run_of t17_10 (fun J hC hJ => by
  refine y_Desk_improve xs hC 0 _ (sh, zs v, zt w, R) ?_
  simp (discharger := first | assumption | omega) [hD, fI, fL, fV, zs_ar, zt_ar, zs_un, zt_un, zn_c, zu_a, zu_e, zu_j, zix, zi_lit, zl_lit, zi_add, zi_sub, zi_mul, zi_neg, zi_le, zi_lt, zi_eq, zl_add, zl_sub, zl_mul, zi_i2l, zl_l2i, zb0, zb1, zb0', zb1', zi_c0, zi_c1, zb_c, d_within, hq]
  exact hJ)
theorem t_cost1 (xs : List Int32) (sh : List q_Sh) (v w : Nat → Int → Int) (R : Nat → Nat → Option Nat) (hD : LD sh R) (n : Int) (r2 : -2147483648 ≤ n ∧ n < 2147483648) (hq : ¬ (0 ≤ n ∧ n ≤ 2)) : t_run xs kDesk_cost [.ref 0, .int (zi n)] (sh, zs v, zt w, R) 9 := t_run_of t11_9 (fun J hC hJ => by
  refine y_Desk_cost xs hC 0 _ (sh, zs v, zt w, R) ?_
  simp (discharger := first | assumption | omega) [hD, fI, fL, fV, zs_ar, zt_ar, zs_un, zt_un, zn_c, zu_a, zu_e, zu_j, zix, zi_lit, zl_lit, zi_add, zi_sub, zi_mul, zi_neg, zi_le, zi_lt, zi_eq, zl_add, zl_sub, zl_mul, zi_i2l, zl_l2i, zb0, zb1, zb0', zb1', zi_c0, zi_c1, zb_c, d_within, hq]
  exact hJ)
theorem t_cost2 (xs : List Int32) (sh : List q_Sh) (v w : Nat → Int → Int) (R : Nat → Nat → Option Nat) (hD : LD sh R) (hN : dN v) (hT : dT v) (hU : dUs v) (hE : dD v) (n : Int) (hq : 0 ≤ n ∧ n ≤ 2) (hvr : 0 ≤ dVer v ∧ dVer v ≤ 100) (hv : dVer v ≠ 0) : t_run xs kDesk_cost [.ref 0, .int (zi n)] (sh, zs v, zt w, R) 31 := t_run_of t11_31 (fun J hC hJ => by
  have s1 := d_firstBreach xs sh v w R hD hN hT hU hE
  refine y_Desk_cost xs hC 0 _ (sh, zs v, zt w, R) ?_
  simp (discharger := first | assumption | omega) [hD, fI, fL, fV, zs_ar, zt_ar, zs_un, zt_un, zn_c, zu_a, zu_e, zu_j, zix, zi_lit, zl_lit, zi_add, zi_sub, zi_mul, zi_neg, zi_le, zi_lt, zi_eq, zl_add, zl_sub, zl_mul, zi_i2l, zl_l2i, zb0, zb1, zb0', zb1', zi_c0, zi_c1, zb_c, d_within, hq, s1, hv]
  exact hJ)
theorem t_unit2 (xs : List Int32) (sh : List q_Sh) (v w : Nat → Int → Int) (R : Nat → Nat → Option Nat) (hD : LD sh R) (hN : dN v) (l h u d r : Int) (ok : okU l h u d r) (hs : ¬ v 32 1 < 3) : t_run xs kDesk_unit [.ref 0, .int (zi l), .int (zi h), .int (zi u), .int (zi d), .int (zi r)] (sh, zs v, zt w, R) 56 := t_run_of t1_56 (fun J hC hJ => by
  obtain ⟨o1, o2, o3, o4, o5, o6⟩ := ok
  have n2 := hN.2
  refine y_Desk_unit xs hC 0 _ _ _ _ _ (sh, zs v, zt w, R) ?_
  simp (discharger := first | assumption | omega) [hD, fI, fL, fV, zs_ar, zt_ar, zs_un, zt_un, zn_c, zu_a, zu_e, zu_j, zix, zi_lit, zl_lit, zi_add, zi_sub, zi_mul, zi_neg, zi_le, zi_lt, zi_eq, zl_add, zl_sub, zl_mul, zi_i2l, zl_l2i, zb0, zb1, zb0', zb1', zi_c0, zi_c1, zb_c, d_power, d_within, o1, o2, o3, o4, o5, o6, i_leT, i_leF, i_ltT, i_ltF, i_eqT, i_eqF]
  exact hJ)
theorem t_unit1 (xs : List Int32) (sh : List q_Sh) (v w : Nat → Int → Int) (R : Nat → Nat → Option Nat) (hD : LD sh R) (l h u d r : Int) (r1 : -2147483648 ≤ l ∧ l < 2147483648) (r2 : -2147483648 ≤ h ∧ h < 2147483648) (r3 : -2147483648 ≤ u ∧ u < 2147483648) (r4 : -2147483648 ≤ d ∧ d < 2147483648) (r5 : -2147483648 ≤ r ∧ r < 2147483648) (ok : ¬ okU l h u d r) : t_run xs kDesk_unit [.ref 0, .int (zi l), .int (zi h), .int (zi u), .int (zi d), .int (zi r)] (sh, zs v, zt w, R) 37 := t_run_of t1_37 (fun J hC hJ => by
  refine y_Desk_unit xs hC 0 _ _ _ _ _ (sh, zs v, zt w, R) ?_
  by_cases c1 : (1 ≤ l ∧ l ≤ 60) ∧ (l ≤ h ∧ h ≤ 60) ∧ h ≤ l + 3
  · obtain ⟨o1, o2, o3⟩ := c1
    by_cases c4 : 1 ≤ u ∧ u ≤ 3
    · by_cases c5 : 1 ≤ d ∧ d ≤ 3
      · have c6 : ¬ (1 ≤ r ∧ r ≤ 3) := fun c6 => ok ⟨o1, o2, o3, c4, c5, c6⟩
        simp (discharger := first | assumption | omega) [hD, fI, fL, fV, zs_ar, zt_ar, zs_un, zt_un, zn_c, zu_a, zu_e, zu_j, zix, zi_lit, zl_lit, zi_add, zi_sub, zi_mul, zi_neg, zi_le, zi_lt, zi_eq, zl_add, zl_sub, zl_mul, zi_i2l, zl_l2i, zb0, zb1, zb0', zb1', zi_c0, zi_c1, zb_c, d_power, d_within, o1, o2, o3, c4, c5, c6]
        exact hJ
      · simp (discharger := first | assumption | omega) [hD, fI, fL, fV, zs_ar, zt_ar, zs_un, zt_un, zn_c, zu_a, zu_e, zu_j, zix, zi_lit, zl_lit, zi_add, zi_sub, zi_mul, zi_neg, zi_le, zi_lt, zi_eq, zl_add, zl_sub, zl_mul, zi_i2l, zl_l2i, zb0, zb1, zb0', zb1', zi_c0, zi_c1, zb_c, d_power, d_within, o1, o2, o3, c4, c5]
        exact hJ
    · simp (discharger := first | assumption | omega) [hD, fI, fL, fV, zs_ar, zt_ar, zs_un, zt_un, zn_c, zu_a, zu_e, zu_j, zix, zi_lit, zl_lit, zi_add, zi_sub, zi_mul, zi_neg, zi_le, zi_lt, zi_eq, zl_add, zl_sub, zl_mul, zi_i2l, zl_l2i, zb0, zb1, zb0', zb1', zi_c0, zi_c1, zb_c, d_power, d_within, o1, o2, o3, c4]
      exact hJ
  · simp (discharger := first | assumption | omega) [hD, fI, fL, fV, zs_ar, zt_ar, zs_un, zt_un, zn_c, zu_a, zu_e, zu_j, zix, zi_lit, zl_lit, zi_add, zi_sub, zi_mul, zi_neg, zi_le, zi_lt, zi_eq, zl_add, zl_sub, zl_mul, zi_i2l, zl_l2i, zb0, zb1, zb0', zb1', zi_c0, zi_c1, zb_c, d_power, d_within, c1]
    exact hJ)
