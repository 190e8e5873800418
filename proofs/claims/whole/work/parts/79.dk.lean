/-! The desk's calls that don't search, where they don't throw. -/
theorem d_costs (xs : List Int32) (sh : List q_Sh) (v w : Nat → Int → Int) (R : Nat → Nat → Option Nat) (hD : LD sh R) (hN : dN v) (u b f s t : Int) (r1 : -2147483648 ≤ u ∧ u < 2147483648) (r2 : -2147483648 ≤ b ∧ b < 2147483648) (r3 : -2147483648 ≤ f ∧ f < 2147483648) (r4 : -2147483648 ≤ s ∧ s < 2147483648) (r5 : -2147483648 ≤ t ∧ t < 2147483648) (Q : Int32 → q_H → Prop) : q_CallI (GG xs) PP kDesk_costs [.ref 0, .int (zi u), .int (zi b), .int (zi f), .int (zi s), .int (zi t)] (sh, zs v, zt w, R) Q = if (0 ≤ u ∧ u < v 32 1) ∧ (0 ≤ b ∧ b ≤ 10000) ∧ (0 ≤ f ∧ f ≤ 10000) ∧ (0 ≤ s ∧ s ≤ 10000) ∧ (0 ≤ t ∧ t ≤ 10000) then Q (zi 1) (sh, zs (dSA (dCg v (uc u) b f s t)), zt w, R) else Q (zi 0) (sh, zs v, zt w, R) := by
  have n2 := hN.2
  by_cases c : (0 ≤ u ∧ u < v 32 1) ∧ (0 ≤ b ∧ b ≤ 10000) ∧ (0 ≤ f ∧ f ≤ 10000) ∧ (0 ≤ s ∧ s ≤ 10000) ∧ (0 ≤ t ∧ t ≤ 10000)
  · rw [if_pos c]
    obtain ⟨c1, c2, c3, c4, c5⟩ := c
    have hu3 : 0 ≤ u ∧ u < 3 := by omega
    have hL := LD_LU hD hu3
    refine cI (fun Q hQ => ?_) Q
    refine e_Desk_costs xs _ _ _ _ _ _ _ (sh, zs v, zt w, R) ?_
    simp (discharger := first | assumption | omega) [hD, fI, fL, fV, zs_ar, zt_ar, zs_un, zt_un, zn_c, zu_a, zu_e, zu_j, zix, zi_lit, zl_lit, zi_add, zi_sub, zi_mul, zi_neg, zi_le, zi_lt, zi_eq, zl_add, zl_sub, zl_mul, zi_i2l, zl_l2i, zb0, zb1, zb0', zb1', zi_c0, zi_c1, zb_c, d_hasSet, d_cost, d_chargeHours xs sh v w R (uc u) hL b f s t, d_afresh, gat3, gna, LD_un hD hu3, hL.1, c1, c2, c3, c4, c5]
    exact hQ
  · rw [if_neg c]
    refine cI (fun Q hQ => ?_) Q
    refine e_Desk_costs xs _ _ _ _ _ _ _ (sh, zs v, zt w, R) ?_
    by_cases c1 : 0 ≤ u ∧ u < v 32 1
    · by_cases c2 : 0 ≤ b ∧ b ≤ 10000
      · by_cases c3 : 0 ≤ f ∧ f ≤ 10000
        · by_cases c4 : 0 ≤ s ∧ s ≤ 10000
          · have c5 : ¬ (0 ≤ t ∧ t ≤ 10000) := fun c5 => c ⟨c1, c2, c3, c4, c5⟩
            simp (discharger := first | assumption | omega) [hD, fI, fL, fV, zs_ar, zt_ar, zs_un, zt_un, zn_c, zu_a, zu_e, zu_j, zix, zi_lit, zl_lit, zi_add, zi_sub, zi_mul, zi_neg, zi_le, zi_lt, zi_eq, zl_add, zl_sub, zl_mul, zi_i2l, zl_l2i, zb0, zb1, zb0', zb1', zi_c0, zi_c1, zb_c, d_hasSet, d_cost, c1, c2, c3, c4, c5]
            exact hQ
          · simp (discharger := first | assumption | omega) [hD, fI, fL, fV, zs_ar, zt_ar, zs_un, zt_un, zn_c, zu_a, zu_e, zu_j, zix, zi_lit, zl_lit, zi_add, zi_sub, zi_mul, zi_neg, zi_le, zi_lt, zi_eq, zl_add, zl_sub, zl_mul, zi_i2l, zl_l2i, zb0, zb1, zb0', zb1', zi_c0, zi_c1, zb_c, d_hasSet, d_cost, c1, c2, c3, c4]
            exact hQ
        · simp (discharger := first | assumption | omega) [hD, fI, fL, fV, zs_ar, zt_ar, zs_un, zt_un, zn_c, zu_a, zu_e, zu_j, zix, zi_lit, zl_lit, zi_add, zi_sub, zi_mul, zi_neg, zi_le, zi_lt, zi_eq, zl_add, zl_sub, zl_mul, zi_i2l, zl_l2i, zb0, zb1, zb0', zb1', zi_c0, zi_c1, zb_c, d_hasSet, d_cost, c1, c2, c3]
          exact hQ
      · simp (discharger := first | assumption | omega) [hD, fI, fL, fV, zs_ar, zt_ar, zs_un, zt_un, zn_c, zu_a, zu_e, zu_j, zix, zi_lit, zl_lit, zi_add, zi_sub, zi_mul, zi_neg, zi_le, zi_lt, zi_eq, zl_add, zl_sub, zl_mul, zi_i2l, zl_l2i, zb0, zb1, zb0', zb1', zi_c0, zi_c1, zb_c, d_hasSet, d_cost, c1, c2]
        exact hQ
    · simp (discharger := first | assumption | omega) [hD, fI, fL, fV, zs_ar, zt_ar, zs_un, zt_un, zn_c, zu_a, zu_e, zu_j, zix, zi_lit, zl_lit, zi_add, zi_sub, zi_mul, zi_neg, zi_le, zi_lt, zi_eq, zl_add, zl_sub, zl_mul, zi_i2l, zl_l2i, zb0, zb1, zb0', zb1', zi_c0, zi_c1, zb_c, d_hasSet, d_cost, c1]
      exact hQ
theorem d_starts (xs : List Int32) (sh : List q_Sh) (v w : Nat → Int → Int) (R : Nat → Nat → Option Nat) (hD : LD sh R) (hN : dN v) (u a b c : Int) (r1 : -2147483648 ≤ u ∧ u < 2147483648) (r2 : -2147483648 ≤ a ∧ a < 2147483648) (r3 : -2147483648 ≤ b ∧ b < 2147483648) (r4 : -2147483648 ≤ c ∧ c < 2147483648) (Q : Int32 → q_H → Prop) : q_CallI (GG xs) PP kDesk_starts [.ref 0, .int (zi u), .int (zi a), .int (zi b), .int (zi c)] (sh, zs v, zt w, R) Q = if (0 ≤ u ∧ u < v 32 1) ∧ (0 ≤ a ∧ a ≤ 10000) ∧ (0 ≤ b ∧ b ≤ 10000) ∧ (0 ≤ c ∧ c ≤ 10000) then Q (zi 1) (sh, zs (dSA (dCs v (uc u) a b c)), zt w, R) else Q (zi 0) (sh, zs v, zt w, R) := by
  have n2 := hN.2
  by_cases q : (0 ≤ u ∧ u < v 32 1) ∧ (0 ≤ a ∧ a ≤ 10000) ∧ (0 ≤ b ∧ b ≤ 10000) ∧ (0 ≤ c ∧ c ≤ 10000)
  · rw [if_pos q]
    obtain ⟨c1, c2, c3, c4⟩ := q
    have hu3 : 0 ≤ u ∧ u < 3 := by omega
    have hL := LD_LU hD hu3
    refine cI (fun Q hQ => ?_) Q
    refine e_Desk_starts xs _ _ _ _ _ _ (sh, zs v, zt w, R) ?_
    simp (discharger := first | assumption | omega) [hD, fI, fL, fV, zs_ar, zt_ar, zs_un, zt_un, zn_c, zu_a, zu_e, zu_j, zix, zi_lit, zl_lit, zi_add, zi_sub, zi_mul, zi_neg, zi_le, zi_lt, zi_eq, zl_add, zl_sub, zl_mul, zi_i2l, zl_l2i, zb0, zb1, zb0', zb1', zi_c0, zi_c1, zb_c, d_hasSet, d_cost, d_chargeStarts xs sh v w R (uc u) hL a b c, d_afresh, gat3, gna, LD_un hD hu3, hL.1, c1, c2, c3, c4]
    exact hQ
  · rw [if_neg q]
    refine cI (fun Q hQ => ?_) Q
    refine e_Desk_starts xs _ _ _ _ _ _ (sh, zs v, zt w, R) ?_
    by_cases c1 : 0 ≤ u ∧ u < v 32 1
    · by_cases c2 : 0 ≤ a ∧ a ≤ 10000
      · by_cases c3 : 0 ≤ b ∧ b ≤ 10000
        · have c4 : ¬ (0 ≤ c ∧ c ≤ 10000) := fun c4 => q ⟨c1, c2, c3, c4⟩
          simp (discharger := first | assumption | omega) [hD, fI, fL, fV, zs_ar, zt_ar, zs_un, zt_un, zn_c, zu_a, zu_e, zu_j, zix, zi_lit, zl_lit, zi_add, zi_sub, zi_mul, zi_neg, zi_le, zi_lt, zi_eq, zl_add, zl_sub, zl_mul, zi_i2l, zl_l2i, zb0, zb1, zb0', zb1', zi_c0, zi_c1, zb_c, d_hasSet, d_cost, c1, c2, c3, c4]
          exact hQ
        · simp (discharger := first | assumption | omega) [hD, fI, fL, fV, zs_ar, zt_ar, zs_un, zt_un, zn_c, zu_a, zu_e, zu_j, zix, zi_lit, zl_lit, zi_add, zi_sub, zi_mul, zi_neg, zi_le, zi_lt, zi_eq, zl_add, zl_sub, zl_mul, zi_i2l, zl_l2i, zb0, zb1, zb0', zb1', zi_c0, zi_c1, zb_c, d_hasSet, d_cost, c1, c2, c3]
          exact hQ
      · simp (discharger := first | assumption | omega) [hD, fI, fL, fV, zs_ar, zt_ar, zs_un, zt_un, zn_c, zu_a, zu_e, zu_j, zix, zi_lit, zl_lit, zi_add, zi_sub, zi_mul, zi_neg, zi_le, zi_lt, zi_eq, zl_add, zl_sub, zl_mul, zi_i2l, zl_l2i, zb0, zb1, zb0', zb1', zi_c0, zi_c1, zb_c, d_hasSet, d_cost, c1, c2]
        exact hQ
    · simp (discharger := first | assumption | omega) [hD, fI, fL, fV, zs_ar, zt_ar, zs_un, zt_un, zn_c, zu_a, zu_e, zu_j, zix, zi_lit, zl_lit, zi_add, zi_sub, zi_mul, zi_neg, zi_le, zi_lt, zi_eq, zl_add, zl_sub, zl_mul, zi_i2l, zl_l2i, zb0, zb1, zb0', zb1', zi_c0, zi_c1, zb_c, d_hasSet, d_cost, c1]
      exact hQ
theorem d_before (xs : List Int32) (sh : List q_Sh) (v w : Nat → Int → Int) (R : Nat → Nat → Option Nat) (hD : LD sh R) (hN : dN v) (hU : dUs v) (u o n : Int) (r1 : -2147483648 ≤ u ∧ u < 2147483648) (r2 : -2147483648 ≤ o ∧ o < 2147483648) (r3 : -2147483648 ≤ n ∧ n < 2147483648) (Q : Int32 → q_H → Prop) : q_CallI (GG xs) PP kDesk_before [.ref 0, .int (zi u), .int (zi o), .int (zi n)] (sh, zs v, zt w, R) Q = if (0 ≤ u ∧ u < v 32 1) ∧ (1 ≤ n ∧ n ≤ 100) ∧ (o = 0 ∨ (v (uc u) 0 ≤ o ∧ o ≤ v (uc u) 1)) then Q (zi 1) (sh, zs (dSA (zu (zu v (uc u) 5 o) (uc u) 6 n)), zt w, R) else Q (zi 0) (sh, zs v, zt w, R) := by
  have n2 := hN.2
  by_cases c1 : 0 ≤ u ∧ u < v 32 1
  · have hu3 : 0 ≤ u ∧ u < 3 := by omega
    have hL := LD_LU hD hu3
    have hU' := hU u hu3.1 hu3.2
    by_cases c2 : 1 ≤ n ∧ n ≤ 100
    · by_cases c3 : o = 0
      · rw [if_pos ⟨c1, c2, Or.inl c3⟩]
        refine cI (fun Q hQ => ?_) Q
        refine e_Desk_before xs _ _ _ _ _ (sh, zs v, zt w, R) ?_
        simp (discharger := first | assumption | omega) [hD, fI, fL, fV, zs_ar, zt_ar, zs_un, zt_un, zn_c, zu_a, zu_e, zu_j, zix, zi_lit, zl_lit, zi_add, zi_sub, zi_mul, zi_neg, zi_le, zi_lt, zi_eq, zl_add, zl_sub, zl_mul, zi_i2l, zl_l2i, zb0, zb1, zb0', zb1', zi_c0, zi_c1, zb_c, d_hasSet, d_within, d_afresh, gat3, gna, LD_un hD hu3, hL.1, c1, c2, i_leT, i_leF, i_ltT, i_ltF, i_eqT, i_eqF]
        exact hQ
      · by_cases c4 : v (uc u) 0 ≤ o ∧ o ≤ v (uc u) 1
        · rw [if_pos ⟨c1, c2, Or.inr c4⟩]
          refine cI (fun Q hQ => ?_) Q
          refine e_Desk_before xs _ _ _ _ _ (sh, zs v, zt w, R) ?_
          simp (discharger := first | assumption | omega) [hD, fI, fL, fV, zs_ar, zt_ar, zs_un, zt_un, zn_c, zu_a, zu_e, zu_j, zix, zi_lit, zl_lit, zi_add, zi_sub, zi_mul, zi_neg, zi_le, zi_lt, zi_eq, zl_add, zl_sub, zl_mul, zi_i2l, zl_l2i, zb0, zb1, zb0', zb1', zi_c0, zi_c1, zb_c, d_hasSet, d_within, d_canGive xs sh v w R (uc u) hL hU' o r2, d_afresh, gat3, gna, LD_un hD hu3, hL.1, c1, c2, c3, c4]
          exact hQ
        · rw [if_neg (fun q => q.2.2.elim c3 c4)]
          refine cI (fun Q hQ => ?_) Q
          refine e_Desk_before xs _ _ _ _ _ (sh, zs v, zt w, R) ?_
          simp (discharger := first | assumption | omega) [hD, fI, fL, fV, zs_ar, zt_ar, zs_un, zt_un, zn_c, zu_a, zu_e, zu_j, zix, zi_lit, zl_lit, zi_add, zi_sub, zi_mul, zi_neg, zi_le, zi_lt, zi_eq, zl_add, zl_sub, zl_mul, zi_i2l, zl_l2i, zb0, zb1, zb0', zb1', zi_c0, zi_c1, zb_c, d_hasSet, d_within, d_canGive xs sh v w R (uc u) hL hU' o r2, d_afresh, gat3, gna, LD_un hD hu3, hL.1, c1, c2, c3, c4]
          exact hQ
    · rw [if_neg (fun q => c2 q.2.1)]
      refine cI (fun Q hQ => ?_) Q
      refine e_Desk_before xs _ _ _ _ _ (sh, zs v, zt w, R) ?_
      simp (discharger := first | assumption | omega) [hD, fI, fL, fV, zs_ar, zt_ar, zs_un, zt_un, zn_c, zu_a, zu_e, zu_j, zix, zi_lit, zl_lit, zi_add, zi_sub, zi_mul, zi_neg, zi_le, zi_lt, zi_eq, zl_add, zl_sub, zl_mul, zi_i2l, zl_l2i, zb0, zb1, zb0', zb1', zi_c0, zi_c1, zb_c, d_hasSet, d_within, c1, c2]
      exact hQ
  · rw [if_neg (fun q => c1 q.1)]
    refine cI (fun Q hQ => ?_) Q
    refine e_Desk_before xs _ _ _ _ _ (sh, zs v, zt w, R) ?_
    simp (discharger := first | assumption | omega) [hD, fI, fL, fV, zs_ar, zt_ar, zs_un, zt_un, zn_c, zu_a, zu_e, zu_j, zix, zi_lit, zl_lit, zi_add, zi_sub, zi_mul, zi_neg, zi_le, zi_lt, zi_eq, zl_add, zl_sub, zl_mul, zi_i2l, zl_l2i, zb0, zb1, zb0', zb1', zi_c0, zi_c1, zb_c, d_hasSet, d_within, c1]
    exact hQ
theorem d_demand (xs : List Int32) (sh : List q_Sh) (v w : Nat → Int → Int) (R : Nat → Nat → Option Nat) (hD : LD sh R) (hN : dN v) (h d r : Int) (r1 : -2147483648 ≤ h ∧ h < 2147483648) (r2 : -2147483648 ≤ d ∧ d < 2147483648) (r3 : -2147483648 ≤ r ∧ r < 2147483648) (Q : Int32 → q_H → Prop) : q_CallI (GG xs) PP kDesk_demand [.ref 0, .int (zi h), .int (zi d), .int (zi r)] (sh, zs v, zt w, R) Q = if (0 ≤ h ∧ h < v 32 0) ∧ (0 ≤ d ∧ d ≤ 200) ∧ (0 ≤ r ∧ r ≤ 200) then Q (zi 1) (sh, zs (dSA (zu (zu v 34 h d) 35 h r)), zt w, R) else Q (zi 0) (sh, zs v, zt w, R) := by
  have n1 := hN.1
  by_cases c1 : 0 ≤ h ∧ h < v 32 0
  · by_cases c2 : 0 ≤ d ∧ d ≤ 200
    · by_cases c3 : 0 ≤ r ∧ r ≤ 200
      · rw [if_pos ⟨c1, c2, c3⟩]
        refine cI (fun Q hQ => ?_) Q
        refine e_Desk_demand xs _ _ _ _ _ (sh, zs v, zt w, R) ?_
        simp (discharger := first | assumption | omega) [hD, fI, fL, fV, zs_ar, zt_ar, zs_un, zt_un, zn_c, zu_a, zu_e, zu_j, zix, zi_lit, zl_lit, zi_add, zi_sub, zi_mul, zi_neg, zi_le, zi_lt, zi_eq, zl_add, zl_sub, zl_mul, zi_i2l, zl_l2i, zb0, zb1, zb0', zb1', zi_c0, zi_c1, zb_c, d_hasHour, d_within, d_afresh, c1, c2, c3]
        exact hQ
      · rw [if_neg (fun q => c3 q.2.2)]
        refine cI (fun Q hQ => ?_) Q
        refine e_Desk_demand xs _ _ _ _ _ (sh, zs v, zt w, R) ?_
        simp (discharger := first | assumption | omega) [hD, fI, fL, fV, zs_ar, zt_ar, zs_un, zt_un, zn_c, zu_a, zu_e, zu_j, zix, zi_lit, zl_lit, zi_add, zi_sub, zi_mul, zi_neg, zi_le, zi_lt, zi_eq, zl_add, zl_sub, zl_mul, zi_i2l, zl_l2i, zb0, zb1, zb0', zb1', zi_c0, zi_c1, zb_c, d_hasHour, d_within, c1, c2, c3]
        exact hQ
    · rw [if_neg (fun q => c2 q.2.1)]
      refine cI (fun Q hQ => ?_) Q
      refine e_Desk_demand xs _ _ _ _ _ (sh, zs v, zt w, R) ?_
      simp (discharger := first | assumption | omega) [hD, fI, fL, fV, zs_ar, zt_ar, zs_un, zt_un, zn_c, zu_a, zu_e, zu_j, zix, zi_lit, zl_lit, zi_add, zi_sub, zi_mul, zi_neg, zi_le, zi_lt, zi_eq, zl_add, zl_sub, zl_mul, zi_i2l, zl_l2i, zb0, zb1, zb0', zb1', zi_c0, zi_c1, zb_c, d_hasHour, d_within, c1, c2]
      exact hQ
  · rw [if_neg (fun q => c1 q.1)]
    refine cI (fun Q hQ => ?_) Q
    refine e_Desk_demand xs _ _ _ _ _ (sh, zs v, zt w, R) ?_
    simp (discharger := first | assumption | omega) [hD, fI, fL, fV, zs_ar, zt_ar, zs_un, zt_un, zn_c, zu_a, zu_e, zu_j, zix, zi_lit, zl_lit, zi_add, zi_sub, zi_mul, zi_neg, zi_le, zi_lt, zi_eq, zl_add, zl_sub, zl_mul, zi_i2l, zl_l2i, zb0, zb1, zb0', zb1', zi_c0, zi_c1, zb_c, d_hasHour, d_within, c1]
    exact hQ
theorem d_set (xs : List Int32) (sh : List q_Sh) (v w : Nat → Int → Int) (R : Nat → Nat → Option Nat) (hD : LD sh R) (hN : dN v) (u h x : Int) (r1 : -2147483648 ≤ u ∧ u < 2147483648) (r2 : -2147483648 ≤ h ∧ h < 2147483648) (r3 : -2147483648 ≤ x ∧ x < 2147483648) (Q : Int32 → q_H → Prop) : q_CallI (GG xs) PP kDesk_set [.ref 0, .int (zi u), .int (zi h), .int (zi x)] (sh, zs v, zt w, R) Q = if (0 ≤ u ∧ u < v 32 1) ∧ (0 ≤ h ∧ h < v 32 0) ∧ (0 ≤ x ∧ x ≤ 63) then Q (zi 1) (sh, zs (zu v 25 (8 * u + h) x), zt w, R) else Q (zi 0) (sh, zs v, zt w, R) := by
  have n1 := hN.1
  have n2 := hN.2
  by_cases c1 : (0 ≤ u ∧ u < v 32 1) ∧ (0 ≤ h ∧ h < v 32 0)
  · by_cases c2 : 0 ≤ x ∧ x ≤ 63
    · rw [if_pos ⟨c1.1, c1.2, c2⟩]
      refine cI (fun Q hQ => ?_) Q
      refine e_Desk_set xs _ _ _ _ _ (sh, zs v, zt w, R) ?_
      simp (discharger := first | assumption | omega) [hD, fI, fL, fV, zs_ar, zt_ar, zs_un, zt_un, zn_c, zu_a, zu_e, zu_j, zix, zi_lit, zl_lit, zi_add, zi_sub, zi_mul, zi_neg, zi_le, zi_lt, zi_eq, zl_add, zl_sub, zl_mul, zi_i2l, zl_l2i, zb0, zb1, zb0', zb1', zi_c0, zi_c1, zb_c, d_hasCell, d_within, d_cell, c1, c2]
      exact hQ
    · rw [if_neg (fun q => c2 q.2.2)]
      refine cI (fun Q hQ => ?_) Q
      refine e_Desk_set xs _ _ _ _ _ (sh, zs v, zt w, R) ?_
      simp (discharger := first | assumption | omega) [hD, fI, fL, fV, zs_ar, zt_ar, zs_un, zt_un, zn_c, zu_a, zu_e, zu_j, zix, zi_lit, zl_lit, zi_add, zi_sub, zi_mul, zi_neg, zi_le, zi_lt, zi_eq, zl_add, zl_sub, zl_mul, zi_i2l, zl_l2i, zb0, zb1, zb0', zb1', zi_c0, zi_c1, zb_c, d_hasCell, d_within, d_cell, c1, c2]
      exact hQ
  · rw [if_neg (fun q => c1 ⟨q.1, q.2.1⟩)]
    refine cI (fun Q hQ => ?_) Q
    refine e_Desk_set xs _ _ _ _ _ (sh, zs v, zt w, R) ?_
    simp (discharger := first | assumption | omega) [hD, fI, fL, fV, zs_ar, zt_ar, zs_un, zt_un, zn_c, zu_a, zu_e, zu_j, zix, zi_lit, zl_lit, zi_add, zi_sub, zi_mul, zi_neg, zi_le, zi_lt, zi_eq, zl_add, zl_sub, zl_mul, zi_i2l, zl_l2i, zb0, zb1, zb0', zb1', zi_c0, zi_c1, zb_c, d_hasCell, c1]
    exact hQ
theorem d_price (xs : List Int32) (sh : List q_Sh) (v w : Nat → Int → Int) (R : Nat → Nat → Option Nat) (hD : LD sh R) (hN : dN v) (h p : Int) (r1 : -2147483648 ≤ h ∧ h < 2147483648) (r2 : -2147483648 ≤ p ∧ p < 2147483648) (Q : Int32 → q_H → Prop) : q_CallI (GG xs) PP kDesk_price [.ref 0, .int (zi h), .int (zi p)] (sh, zs v, zt w, R) Q = if (0 ≤ h ∧ h < v 32 0) ∧ (-100000 ≤ p ∧ p ≤ 100000) then Q (zi 1) (sh, zs (dSA (zu v 16 h p)), zt w, R) else Q (zi 0) (sh, zs v, zt w, R) := by
  have n1 := hN.1
  by_cases c1 : 0 ≤ h ∧ h < v 32 0
  · by_cases c2 : -100000 ≤ p ∧ p ≤ 100000
    · rw [if_pos ⟨c1, c2⟩]
      refine cI (fun Q hQ => ?_) Q
      refine e_Desk_price xs _ _ _ _ (sh, zs v, zt w, R) ?_
      simp (discharger := first | assumption | omega) [hD, fI, fL, fV, zs_ar, zt_ar, zs_un, zt_un, zn_c, zu_a, zu_e, zu_j, zix, zi_lit, zl_lit, zi_add, zi_sub, zi_mul, zi_neg, zi_le, zi_lt, zi_eq, zl_add, zl_sub, zl_mul, zi_i2l, zl_l2i, zb0, zb1, zb0', zb1', zi_c0, zi_c1, zb_c, d_hasHour, d_within, d_afresh, c1, c2]
      exact hQ
    · rw [if_neg (fun q => c2 q.2)]
      refine cI (fun Q hQ => ?_) Q
      refine e_Desk_price xs _ _ _ _ (sh, zs v, zt w, R) ?_
      simp (discharger := first | assumption | omega) [hD, fI, fL, fV, zs_ar, zt_ar, zs_un, zt_un, zn_c, zu_a, zu_e, zu_j, zix, zi_lit, zl_lit, zi_add, zi_sub, zi_mul, zi_neg, zi_le, zi_lt, zi_eq, zl_add, zl_sub, zl_mul, zi_i2l, zl_l2i, zb0, zb1, zb0', zb1', zi_c0, zi_c1, zb_c, d_hasHour, d_within, d_afresh, c1, c2]
      exact hQ
  · rw [if_neg (fun q => c1 q.1)]
    refine cI (fun Q hQ => ?_) Q
    refine e_Desk_price xs _ _ _ _ (sh, zs v, zt w, R) ?_
    simp (discharger := first | assumption | omega) [hD, fI, fL, fV, zs_ar, zt_ar, zs_un, zt_un, zn_c, zu_a, zu_e, zu_j, zix, zi_lit, zl_lit, zi_add, zi_sub, zi_mul, zi_neg, zi_le, zi_lt, zi_eq, zl_add, zl_sub, zl_mul, zi_i2l, zl_l2i, zb0, zb1, zb0', zb1', zi_c0, zi_c1, zb_c, d_hasHour, d_within, c1]
    exact hQ
theorem d_unit (xs : List Int32) (sh : List q_Sh) (v w : Nat → Int → Int) (R : Nat → Nat → Option Nat) (hD : LD sh R) (hN : dN v) (hU : dUs v) (l h u d r : Int) (ok : okU l h u d r) (hs : v 32 1 < 3) (Q : Int32 → q_H → Prop) : q_CallI (GG xs) PP kDesk_unit [.ref 0, .int (zi l), .int (zi h), .int (zi u), .int (zi d), .int (zi r)] (sh, zs v, zt w, R) Q = Q (zi (v 32 1)) (sh, zs (dSA (zu (dRa v (uc (v 32 1)) l h u d r) 32 1 (v 32 1 + 1))), zt w, R) := cI (fun Q hQ => by
  have n2 := hN.2
  obtain ⟨o1, o2, o3, o4, o5, o6⟩ := ok
  have hu3 : 0 ≤ v 32 1 ∧ v 32 1 < 3 := by omega
  have hL := LD_LU hD hu3
  have hU' := hU _ hu3.1 hu3.2
  have s := d_rate xs sh v w R (uc (v 32 1)) hL hU' l h u d r o1 o2 o3 o4 o5 o6
  refine e_Desk_unit xs _ _ _ _ _ _ _ (sh, zs v, zt w, R) ?_
  simp (discharger := first | assumption | omega) [hD, fI, fL, fV, zs_ar, zt_ar, zs_un, zt_un, zn_c, zu_a, zu_e, zu_j, zix, zi_lit, zl_lit, zi_add, zi_sub, zi_mul, zi_neg, zi_le, zi_lt, zi_eq, zl_add, zl_sub, zl_mul, zi_i2l, zl_l2i, zb0, zb1, zb0', zb1', zi_c0, zi_c1, zb_c, d_power, d_within, s, d_afresh, gat3, gna, LD_un hD hu3, hL.1, o1, o2, o3, o4, o5, o6, i_leT, i_leF, i_ltT, i_ltF, i_eqT, i_eqF]
  exact hQ) Q
theorem d_output (xs : List Int32) (sh : List q_Sh) (v w : Nat → Int → Int) (R : Nat → Nat → Option Nat) (hD : LD sh R) (hN : dN v) (u h : Int) (hu : 0 ≤ u ∧ u < v 32 1) (hh : 0 ≤ h ∧ h < v 32 0) (Q : Int32 → q_H → Prop) : q_CallI (GG xs) PP kDesk_output [.ref 0, .int (zi u), .int (zi h)] (sh, zs v, zt w, R) Q = Q (zi (v 25 (8 * u + h))) (sh, zs v, zt w, R) := cI (fun Q hQ => by
  have n1 := hN.1
  have n2 := hN.2
  refine e_Desk_output xs _ _ _ _ (sh, zs v, zt w, R) ?_
  simp (discharger := first | assumption | omega) [hD, fI, fL, fV, zs_ar, zt_ar, zs_un, zt_un, zn_c, zu_a, zu_e, zu_j, zix, zi_lit, zl_lit, zi_add, zi_sub, zi_mul, zi_neg, zi_le, zi_lt, zi_eq, zl_add, zl_sub, zl_mul, zi_i2l, zl_l2i, zb0, zb1, zb0', zb1', zi_c0, zi_c1, zb_c, d_hasCell, d_cell, hu, hh]
  exact hQ) Q
theorem d_priceOf (xs : List Int32) (sh : List q_Sh) (v w : Nat → Int → Int) (R : Nat → Nat → Option Nat) (hD : LD sh R) (hN : dN v) (h : Int) (hh : 0 ≤ h ∧ h < v 32 0) (Q : Int32 → q_H → Prop) : q_CallI (GG xs) PP kDesk_priceOf [.ref 0, .int (zi h)] (sh, zs v, zt w, R) Q = Q (zi (v 16 h)) (sh, zs v, zt w, R) := cI (fun Q hQ => by
  have n1 := hN.1
  refine e_Desk_priceOf xs _ _ _ (sh, zs v, zt w, R) ?_
  simp (discharger := first | assumption | omega) [hD, fI, fL, fV, zs_ar, zt_ar, zs_un, zt_un, zn_c, zu_a, zu_e, zu_j, zix, zi_lit, zl_lit, zi_add, zi_sub, zi_mul, zi_neg, zi_le, zi_lt, zi_eq, zl_add, zl_sub, zl_mul, zi_i2l, zl_l2i, zb0, zb1, zb0', zb1', zi_c0, zi_c1, zb_c, d_hasHour, hh]
  exact hQ) Q
def dCo (v : Nat → Int → Int) (what : Int) : Int := (if what = 2 then 0 else dCS v (v 32 1).toNat) + (if what = 1 then 0 else dCH v (v 32 1).toNat)
theorem d_costD (xs : List Int32) (sh : List q_Sh) (v w : Nat → Int → Int) (R : Nat → Nat → Option Nat) (hD : LD sh R) (hN : dN v) (hT : dT v) (hU : dUs v) (hE : dD v) (what : Int) (hw : 0 ≤ what ∧ what ≤ 2) (hv : dVer v = 0) (Q : Int32 → q_H → Prop) : q_CallI (GG xs) PP kDesk_cost [.ref 0, .int (zi what)] (sh, zs v, zt w, R) Q = Q (zi (dCo v what)) (sh, zs v, zt w, R) := cI (fun Q hQ => by
  unfold dCo at hQ
  have K : ∀ x, x = (if what = 2 then 0 else dCS v (v 32 1).toNat) → q_Rt (GG xs) PP 11 (q_FI Q) 59 [some (.ref 0), some (.int (zi what)), none, none] [.int (zi x)] (sh, zs v, zt w, R) := fun x hx => by
    subst hx
    refine b_Desk_cost_59 xs _ _ _ _ (sh, zs v, zt w, R) ?_
    by_cases c : what = 1
    · rw [if_pos c, if_neg (show ¬ what = 2 by omega)] at hQ
      rw [if_neg (show ¬ what = 2 by omega)]
      simp (discharger := first | assumption | omega) [hD, fI, fL, fV, zs_ar, zt_ar, zs_un, zt_un, zn_c, zu_a, zu_e, zu_j, zix, zi_lit, zl_lit, zi_add, zi_sub, zi_mul, zi_neg, zi_le, zi_lt, zi_eq, zl_add, zl_sub, zl_mul, zi_i2l, zl_l2i, zb0, zb1, zb0', zb1', zi_c0, zi_c1, zb_c, i_leT, i_leF, i_ltT, i_ltF, i_eqT, i_eqF]
      simpa using hQ
    · rw [if_neg c] at hQ
      simp (discharger := first | assumption | omega) [hD, fI, fL, fV, zs_ar, zt_ar, zs_un, zt_un, zn_c, zu_a, zu_e, zu_j, zix, zi_lit, zl_lit, zi_add, zi_sub, zi_mul, zi_neg, zi_le, zi_lt, zi_eq, zl_add, zl_sub, zl_mul, zi_i2l, zl_l2i, zb0, zb1, zb0', zb1', zi_c0, zi_c1, zb_c, d_hoursCharged, c, i_leT, i_leF, i_ltT, i_ltF, i_eqT, i_eqF]
      exact hQ
  refine e_Desk_cost xs _ _ _ (sh, zs v, zt w, R) ?_
  by_cases c : what = 2
  · have K1 := K 0 (by rw [if_pos c])
    simp (discharger := first | assumption | omega) [hD, fI, fL, fV, zs_ar, zt_ar, zs_un, zt_un, zn_c, zu_a, zu_e, zu_j, zix, zi_lit, zl_lit, zi_add, zi_sub, zi_mul, zi_neg, zi_le, zi_lt, zi_eq, zl_add, zl_sub, zl_mul, zi_i2l, zl_l2i, zb0, zb1, zb0', zb1', zi_c0, zi_c1, zb_c, d_within, d_firstBreach, hw, hv, i_leT, i_leF, i_ltT, i_ltF, i_eqT, i_eqF]
    exact K1
  · have K1 := K (dCS v (v 32 1).toNat) (by rw [if_neg c])
    simp (discharger := first | assumption | omega) [hD, fI, fL, fV, zs_ar, zt_ar, zs_un, zt_un, zn_c, zu_a, zu_e, zu_j, zix, zi_lit, zl_lit, zi_add, zi_sub, zi_mul, zi_neg, zi_le, zi_lt, zi_eq, zl_add, zl_sub, zl_mul, zi_i2l, zl_l2i, zb0, zb1, zb0', zb1', zi_c0, zi_c1, zb_c, d_within, d_firstBreach, d_startsCharged, hw, hv, c, i_leT, i_leF, i_ltT, i_ltF, i_eqT, i_eqF]
    exact K1) Q
theorem tn0 : Int32.toNatClampNeg (zi 0) = 0 := by decide
theorem tn24 : Int32.toNatClampNeg (zi 24) = 24 := by decide
theorem cpy24 (v : Nat → Int → Int) (a b : Nat) : (fun (i j : Nat) => if i = b then va_cpy (zs v a) (zs v b) 0 0 24 j else zi (v i (j : Int))) = zs (zcp v b 0 a 0 24) := by
  funext i j
  show _ = zi (zcp v b 0 a 0 24 i j)
  unfold zcp va_cpy
  by_cases q : i = b
  · subst q
    rw [if_pos rfl]
    by_cases z : 0 ≤ j ∧ j < 0 + 24
    · rw [if_pos z, if_pos ⟨rfl, by omega, by omega⟩]
      show zi (v a ((0 + (j - 0) : Nat) : Int)) = _
      rw [show ((0 + (j - 0) : Nat) : Int) = 0 + ((j : Int) - 0) by omega]
    · rw [if_neg z, if_neg (by omega)]
      rfl
  · rw [if_neg q, if_neg (fun z => q z.1)]
theorem LD_kp {sh : List q_Sh} {R : Nat → Nat → Option Nat} (hD : LD sh R) {p : Int} (hp : 0 ≤ p ∧ p ≤ 3) : R 26 (zn p) = some (27 + p.toNat) ∧ sh[27 + p.toNat]? = some (.inr (0, 24)) := by
  obtain rfl | rfl | rfl | rfl : p = 0 ∨ p = 1 ∨ p = 2 ∨ p = 3 := by omega
  · simp [zn, hD]
  · simp [zn, hD]
  · simp [zn, hD]
  · simp [zn, hD]
theorem d_keep (xs : List Int32) (sh : List q_Sh) (v w : Nat → Int → Int) (R : Nat → Nat → Option Nat) (hD : LD sh R) (p : Int) (r1 : -2147483648 ≤ p ∧ p < 2147483648) (Q : Int32 → q_H → Prop) : q_CallI (GG xs) PP kDesk_keep [.ref 0, .int (zi p)] (sh, zs v, zt w, R) Q = if 0 ≤ p ∧ p ≤ 3 then Q (zi 1) (sh, zs (zu (zcp v (27 + p.toNat) 0 25 0 24) 31 p 1), zt w, R) else Q (zi 0) (sh, zs v, zt w, R) := by
  by_cases c : 0 ≤ p ∧ p ≤ 3
  · rw [if_pos c]
    obtain ⟨k1, k2⟩ := LD_kp hD c
    refine cI (fun Q hQ => ?_) Q
    refine e_Desk_keep xs _ _ _ (sh, zs v, zt w, R) ?_
    simp (discharger := first | assumption | omega) [hD, fI, fL, fV, zs_ar, zt_ar, zs_un, zt_un, zn_c, zu_a, zu_e, zu_j, zix, zi_lit, zl_lit, zi_add, zi_sub, zi_mul, zi_neg, zi_le, zi_lt, zi_eq, zl_add, zl_sub, zl_mul, zi_i2l, zl_l2i, zb0, zb1, zb0', zb1', zi_c0, zi_c1, zb_c, d_within, gat4, gna, k1, k2, tn0, tn24, cpy24, c]
    exact hQ
  · rw [if_neg c]
    refine cI (fun Q hQ => ?_) Q
    refine e_Desk_keep xs _ _ _ (sh, zs v, zt w, R) ?_
    simp (discharger := first | assumption | omega) [hD, fI, fL, fV, zs_ar, zt_ar, zs_un, zt_un, zn_c, zu_a, zu_e, zu_j, zix, zi_lit, zl_lit, zi_add, zi_sub, zi_mul, zi_neg, zi_le, zi_lt, zi_eq, zl_add, zl_sub, zl_mul, zi_i2l, zl_l2i, zb0, zb1, zb0', zb1', zi_c0, zi_c1, zb_c, d_within, c]
    exact hQ
theorem d_take (xs : List Int32) (sh : List q_Sh) (v w : Nat → Int → Int) (R : Nat → Nat → Option Nat) (hD : LD sh R) (hK : ∀ k, 0 ≤ k → k < 4 → 0 ≤ v 31 k ∧ v 31 k ≤ 1) (p : Int) (r1 : -2147483648 ≤ p ∧ p < 2147483648) (Q : Int32 → q_H → Prop) : q_CallI (GG xs) PP kDesk_take [.ref 0, .int (zi p)] (sh, zs v, zt w, R) Q = if (0 ≤ p ∧ p ≤ 3) ∧ v 31 p ≠ 0 then Q (zi 1) (sh, zs (zcp v 25 0 (27 + p.toNat) 0 24), zt w, R) else Q (zi 0) (sh, zs v, zt w, R) := by
  by_cases c : 0 ≤ p ∧ p ≤ 3
  · obtain ⟨k1, k2⟩ := LD_kp hD c
    have kk := hK p c.1 (by omega)
    by_cases c2 : v 31 p = 0
    · rw [if_neg (fun q => q.2 c2)]
      refine cI (fun Q hQ => ?_) Q
      refine e_Desk_take xs _ _ _ (sh, zs v, zt w, R) ?_
      simp (discharger := first | assumption | omega) [hD, fI, fL, fV, zs_ar, zt_ar, zs_un, zt_un, zn_c, zu_a, zu_e, zu_j, zix, zi_lit, zl_lit, zi_add, zi_sub, zi_mul, zi_neg, zi_le, zi_lt, zi_eq, zl_add, zl_sub, zl_mul, zi_i2l, zl_l2i, zb0, zb1, zb0', zb1', zi_c0, zi_c1, zb_c, d_within, c, i_leT, i_leF, i_ltT, i_ltF, i_eqT, i_eqF]
      exact hQ
    · rw [if_pos ⟨c, c2⟩]
      refine cI (fun Q hQ => ?_) Q
      refine e_Desk_take xs _ _ _ (sh, zs v, zt w, R) ?_
      simp (discharger := first | assumption | omega) [hD, fI, fL, fV, zs_ar, zt_ar, zs_un, zt_un, zn_c, zu_a, zu_e, zu_j, zix, zi_lit, zl_lit, zi_add, zi_sub, zi_mul, zi_neg, zi_le, zi_lt, zi_eq, zl_add, zl_sub, zl_mul, zi_i2l, zl_l2i, zb0, zb1, zb0', zb1', zi_c0, zi_c1, zb_c, d_within, gat4, gna, k1, k2, tn0, tn24, cpy24, c, i_leT, i_leF, i_ltT, i_ltF, i_eqT, i_eqF]
      exact hQ
  · rw [if_neg (fun q => c q.1)]
    refine cI (fun Q hQ => ?_) Q
    refine e_Desk_take xs _ _ _ (sh, zs v, zt w, R) ?_
    simp (discharger := first | assumption | omega) [hD, fI, fL, fV, zs_ar, zt_ar, zs_un, zt_un, zn_c, zu_a, zu_e, zu_j, zix, zi_lit, zl_lit, zi_add, zi_sub, zi_mul, zi_neg, zi_le, zi_lt, zi_eq, zl_add, zl_sub, zl_mul, zi_i2l, zl_l2i, zb0, zb1, zb0', zb1', zi_c0, zi_c1, zb_c, d_within, c]
    exact hQ
def dKn (v : Nat → Int → Int) : Nat → Int := zsum (fun k => if v 31 k = 0 then 0 else 1)
theorem d_filled (xs : List Int32) (sh : List q_Sh) (v w : Nat → Int → Int) (R : Nat → Nat → Option Nat) (hD : LD sh R) (hK : ∀ k, 0 ≤ k → k < 4 → 0 ≤ v 31 k ∧ v 31 k ≤ 1) (Q : Int32 → q_H → Prop) : q_CallI (GG xs) PP kDesk_filledPlaces [.ref 0] (sh, zs v, zt w, R) Q = Q (zi (dKn v 4)) (sh, zs v, zt w, R) := cI (fun Q hQ => by
  have L : ∀ k : Int, 0 ≤ k → k ≤ 4 → q_Rt (GG xs) PP 22 (q_FI Q) 4 [some (.ref 0), some (.int (zi (dKn v k.toNat))), some (.int (zi k))] [] (sh, zs v, zt w, R) := by
    refine zdown _ ?_ (fun k h1 h2 ih => ?_)
    · refine b_Desk_filledPlaces_4 xs _ _ _ _ (sh, zs v, zt w, R) ?_
      simp (discharger := first | assumption | omega) [fI, fL, fV, zs_ar, zt_ar, zs_un, zt_un, zn_c, zu_a, zu_e, zu_j, zix, zi_lit, zl_lit, zi_add, zi_sub, zi_mul, zi_neg, zi_le, zi_lt, zi_eq, zl_add, zl_sub, zl_mul, zi_i2l, zl_l2i, zb0, zb1, zb0', zb1', zi_c0, zi_c1, zb_c, i_leT, i_leF, i_ltT, i_ltF, i_eqT, i_eqF]
      exact hQ
    · have kk := hK k h1 h2
      rw [show (k + 1).toNat = k.toNat + 1 by omega] at ih
      unfold dKn at ih ⊢
      rw [zsum_s, show ((k.toNat : Nat) : Int) = k by omega] at ih
      refine b_Desk_filledPlaces_4 xs _ _ _ _ (sh, zs v, zt w, R) ?_
      by_cases c : v 31 k = 0
      · rw [if_pos c] at ih
        simp (discharger := first | assumption | omega) [hD, fI, fL, fV, zs_ar, zt_ar, zs_un, zt_un, zn_c, zu_a, zu_e, zu_j, zix, zi_lit, zl_lit, zi_add, zi_sub, zi_mul, zi_neg, zi_le, zi_lt, zi_eq, zl_add, zl_sub, zl_mul, zi_i2l, zl_l2i, zb0, zb1, zb0', zb1', zi_c0, zi_c1, zb_c, i_leT, i_leF, i_ltT, i_ltF, i_eqT, i_eqF]
        simpa using ih
      · rw [if_neg c] at ih
        simp (discharger := first | assumption | omega) [hD, fI, fL, fV, zs_ar, zt_ar, zs_un, zt_un, zn_c, zu_a, zu_e, zu_j, zix, zi_lit, zl_lit, zi_add, zi_sub, zi_mul, zi_neg, zi_le, zi_lt, zi_eq, zl_add, zl_sub, zl_mul, zi_i2l, zl_l2i, zb0, zb1, zb0', zb1', zi_c0, zi_c1, zb_c, i_leT, i_leF, i_ltT, i_ltF, i_eqT, i_eqF]
        exact ih
  have K := L 0 (by omega) (by omega)
  simp only [dKn, Int.toNat_zero, zsum] at K
  refine e_Desk_filledPlaces xs _ _ (sh, zs v, zt w, R) ?_
  simp (discharger := first | assumption | omega) [fI, fL, fV, zs_ar, zt_ar, zs_un, zt_un, zn_c, zu_a, zu_e, zu_j, zix, zi_lit, zl_lit, zi_add, zi_sub, zi_mul, zi_neg, zi_le, zi_lt, zi_eq, zl_add, zl_sub, zl_mul, zi_i2l, zl_l2i, zb0, zb1, zb0', zb1', zi_c0, zi_c1, zb_c]
  exact K) Q
def dOh (v : Nat → Int → Int) (what : Int) : Int := if 20 ≤ what then (if what - 20 < v 32 0 then v 35 (what - 20) else -1) else if 10 ≤ what then (if what - 10 < v 32 0 then v 34 (what - 10) else -1) else -1
theorem d_ofHour (xs : List Int32) (sh : List q_Sh) (v w : Nat → Int → Int) (R : Nat → Nat → Option Nat) (hD : LD sh R) (hN : dN v) (what : Int) (r1 : -2147483648 ≤ what ∧ what < 2147483648) (Q : Int32 → q_H → Prop) : q_CallI (GG xs) PP kDesk_ofHour [.ref 0, .int (zi what)] (sh, zs v, zt w, R) Q = Q (zi (dOh v what)) (sh, zs v, zt w, R) := cI (fun Q hQ => by
  have n1 := hN.1
  unfold dOh at hQ
  refine e_Desk_ofHour xs _ _ _ (sh, zs v, zt w, R) ?_
  by_cases c1 : 20 ≤ what
  · rw [if_pos c1] at hQ
    by_cases c2 : what - 20 < v 32 0
    · rw [if_pos c2] at hQ
      simp (discharger := first | assumption | omega) [hD, fI, fL, fV, zs_ar, zt_ar, zs_un, zt_un, zn_c, zu_a, zu_e, zu_j, zix, zi_lit, zl_lit, zi_add, zi_sub, zi_mul, zi_neg, zi_le, zi_lt, zi_eq, zl_add, zl_sub, zl_mul, zi_i2l, zl_l2i, zb0, zb1, zb0', zb1', zi_c0, zi_c1, zb_c, d_hasHour, c2, zbTr (p := True) trivial, i_leT, i_leF, i_ltT, i_ltF, i_eqT, i_eqF]
      exact hQ
    · rw [if_neg c2] at hQ
      simp (discharger := first | assumption | omega) [hD, fI, fL, fV, zs_ar, zt_ar, zs_un, zt_un, zn_c, zu_a, zu_e, zu_j, zix, zi_lit, zl_lit, zi_add, zi_sub, zi_mul, zi_neg, zi_le, zi_lt, zi_eq, zl_add, zl_sub, zl_mul, zi_i2l, zl_l2i, zb0, zb1, zb0', zb1', zi_c0, zi_c1, zb_c, d_hasHour, c2, zbFa (p := False) (fun q => q), i_leT, i_leF, i_ltT, i_ltF, i_eqT, i_eqF]
      exact hQ
  · rw [if_neg c1] at hQ
    by_cases c3 : 10 ≤ what
    · rw [if_pos c3] at hQ
      by_cases c2 : what - 10 < v 32 0
      · rw [if_pos c2] at hQ
        simp (discharger := first | assumption | omega) [hD, fI, fL, fV, zs_ar, zt_ar, zs_un, zt_un, zn_c, zu_a, zu_e, zu_j, zix, zi_lit, zl_lit, zi_add, zi_sub, zi_mul, zi_neg, zi_le, zi_lt, zi_eq, zl_add, zl_sub, zl_mul, zi_i2l, zl_l2i, zb0, zb1, zb0', zb1', zi_c0, zi_c1, zb_c, d_hasHour, c2, zbTr (p := True) trivial, i_leT, i_leF, i_ltT, i_ltF, i_eqT, i_eqF]
        exact hQ
      · rw [if_neg c2] at hQ
        simp (discharger := first | assumption | omega) [hD, fI, fL, fV, zs_ar, zt_ar, zs_un, zt_un, zn_c, zu_a, zu_e, zu_j, zix, zi_lit, zl_lit, zi_add, zi_sub, zi_mul, zi_neg, zi_le, zi_lt, zi_eq, zl_add, zl_sub, zl_mul, zi_i2l, zl_l2i, zb0, zb1, zb0', zb1', zi_c0, zi_c1, zb_c, d_hasHour, c2, zbFa (p := False) (fun q => q), i_leT, i_leF, i_ltT, i_ltF, i_eqT, i_eqF]
        exact hQ
    · rw [if_neg c3] at hQ
      simp (discharger := first | assumption | omega) [hD, fI, fL, fV, zs_ar, zt_ar, zs_un, zt_un, zn_c, zu_a, zu_e, zu_j, zix, zi_lit, zl_lit, zi_add, zi_sub, zi_mul, zi_neg, zi_le, zi_lt, zi_eq, zl_add, zl_sub, zl_mul, zi_i2l, zl_l2i, zb0, zb1, zb0', zb1', zi_c0, zi_c1, zb_c, i_leT, i_leF, i_ltT, i_ltF, i_eqT, i_eqF]
      exact hQ) Q
def dCn (v : Nat → Int → Int) (what : Int) : Int := if what = 0 then v 32 1 else if what = 1 then v 32 0 else if what = 2 then v 15 5 else if what = 3 then dKn v 4 else dOh v what
theorem d_count (xs : List Int32) (sh : List q_Sh) (v w : Nat → Int → Int) (R : Nat → Nat → Option Nat) (hD : LD sh R) (hN : dN v) (hK : ∀ k, 0 ≤ k → k < 4 → 0 ≤ v 31 k ∧ v 31 k ≤ 1) (what : Int) (r1 : -2147483648 ≤ what ∧ what < 2147483648) (Q : Int32 → q_H → Prop) : q_CallI (GG xs) PP kDesk_count [.ref 0, .int (zi what)] (sh, zs v, zt w, R) Q = Q (zi (dCn v what)) (sh, zs v, zt w, R) := cI (fun Q hQ => by
  unfold dCn at hQ
  by_cases c0 : what = 0
  · subst c0
    rw [if_pos rfl] at hQ
    refine e_Desk_count xs _ _ _ (sh, zs v, zt w, R) ⟨32, by decide, ?_⟩
    refine b_Desk_count_32 xs _ _ _ (sh, zs v, zt w, R) ?_
    simp (discharger := first | assumption | omega) [hD, fI, fL, fV, zs_ar, zt_ar, zs_un, zt_un, zn_c, zu_a, zu_e, zu_j, zix, zi_lit, zl_lit, zi_add, zi_sub, zi_mul, zi_neg, zi_le, zi_lt, zi_eq, zl_add, zl_sub, zl_mul, zi_i2l, zl_l2i, zb0, zb1, zb0', zb1', zi_c0, zi_c1, zb_c]
    exact hQ
  · rw [if_neg c0] at hQ
    by_cases c1 : what = 1
    · subst c1
      rw [if_pos rfl] at hQ
      refine e_Desk_count xs _ _ _ (sh, zs v, zt w, R) ⟨40, by decide, ?_⟩
      refine b_Desk_count_40 xs _ _ _ (sh, zs v, zt w, R) ?_
      simp (discharger := first | assumption | omega) [hD, fI, fL, fV, zs_ar, zt_ar, zs_un, zt_un, zn_c, zu_a, zu_e, zu_j, zix, zi_lit, zl_lit, zi_add, zi_sub, zi_mul, zi_neg, zi_le, zi_lt, zi_eq, zl_add, zl_sub, zl_mul, zi_i2l, zl_l2i, zb0, zb1, zb0', zb1', zi_c0, zi_c1, zb_c]
      exact hQ
    · rw [if_neg c1] at hQ
      by_cases c2 : what = 2
      · subst c2
        rw [if_pos rfl] at hQ
        refine e_Desk_count xs _ _ _ (sh, zs v, zt w, R) ⟨48, by decide, ?_⟩
        refine b_Desk_count_48 xs _ _ _ (sh, zs v, zt w, R) ?_
        simp (discharger := first | assumption | omega) [hD, fI, fL, fV, zs_ar, zt_ar, zs_un, zt_un, zn_c, zu_a, zu_e, zu_j, zix, zi_lit, zl_lit, zi_add, zi_sub, zi_mul, zi_neg, zi_le, zi_lt, zi_eq, zl_add, zl_sub, zl_mul, zi_i2l, zl_l2i, zb0, zb1, zb0', zb1', zi_c0, zi_c1, zb_c]
        exact hQ
      · rw [if_neg c2] at hQ
        by_cases c3 : what = 3
        · subst c3
          rw [if_pos rfl] at hQ
          refine e_Desk_count xs _ _ _ (sh, zs v, zt w, R) ⟨56, by decide, ?_⟩
          refine b_Desk_count_56 xs _ _ _ (sh, zs v, zt w, R) ?_
          simp (discharger := first | assumption | omega) [hD, fI, fL, fV, zs_ar, zt_ar, zs_un, zt_un, zn_c, zu_a, zu_e, zu_j, zix, zi_lit, zl_lit, zi_add, zi_sub, zi_mul, zi_neg, zi_le, zi_lt, zi_eq, zl_add, zl_sub, zl_mul, zi_i2l, zl_l2i, zb0, zb1, zb0', zb1', zi_c0, zi_c1, zb_c, d_filled]
          exact hQ
        · rw [if_neg c3] at hQ
          refine e_Desk_count xs _ _ _ (sh, zs v, zt w, R) ⟨61, ?_, ?_⟩
          · unfold q_tsw
            rw [zi_toInt r1.1 r1.2, if_pos (by omega)]
            rfl
          · refine b_Desk_count_61 xs _ _ _ (sh, zs v, zt w, R) ?_
            simp (discharger := first | assumption | omega) [hD, fI, fL, fV, zs_ar, zt_ar, zs_un, zt_un, zn_c, zu_a, zu_e, zu_j, zix, zi_lit, zl_lit, zi_add, zi_sub, zi_mul, zi_neg, zi_le, zi_lt, zi_eq, zl_add, zl_sub, zl_mul, zi_i2l, zl_l2i, zb0, zb1, zb0', zb1', zi_c0, zi_c1, zb_c, d_ofHour]
            exact hQ) Q
