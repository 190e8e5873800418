/-! The planner's fronts. -/
theorem gsz (xs : List Int32) : (g_sz (GG xs))[0]? = some ("CommitDesk", "CHOICE_WEIGHTS", "[I", [25, 5, 1]) := rfl
/-- the choice of a set in a code -/
def zdg (c u : Int) : Int := if u = 0 then c / 25 % 5 else if u = 1 then c / 5 % 5 else c % 5
theorem zdg_rng (c u : Int) : 0 ≤ zdg c u ∧ zdg c u < 5 := by
  unfold zdg
  (repeat' split) <;> omega
theorem d_choiceIn (xs : List Int32) (c u : Int) (H : q_H) (hc : 0 ≤ c ∧ c < 125) (hu : 0 ≤ u ∧ u < 3) (Q : Int32 → q_H → Prop) : q_CallI (GG xs) PP kFront_choiceIn [.int (zi c), .int (zi u)] H Q = Q (zi (zdg c u)) H := cI (fun Q hQ => by
  refine e_Front_choiceIn xs _ _ _ H ?_
  refine ⟨("CommitDesk", "CHOICE_WEIGHTS", "[I", [25, 5, 1]), zn u, gsz xs, zix hu.1 (by show u < ((3 : Nat) : Int); omega) (by omega), ?_⟩
  unfold zdg at hQ
  obtain rfl | rfl | rfl : u = 0 ∨ u = 1 ∨ u = 2 := by omega
  · rw [if_pos rfl] at hQ
    show ¬ (25 : Int32) = 0 ∧ ¬ (5 : Int32) = 0 ∧ q_FI Q (some (.int (zi c / 25 - zi c / 25 / 5 * 5))) H
    refine ⟨by decide, by decide, ?_⟩
    rw [show (25 : Int32) = zi 25 from rfl, show (5 : Int32) = zi 5 from rfl, zi_div hc.1 (by omega) (by omega) (by omega), zi_rem (by omega) (by omega) (by omega) (by omega)]
    exact hQ
  · rw [if_neg (by omega), if_pos rfl] at hQ
    show ¬ (5 : Int32) = 0 ∧ ¬ (5 : Int32) = 0 ∧ q_FI Q (some (.int (zi c / 5 - zi c / 5 / 5 * 5))) H
    refine ⟨by decide, by decide, ?_⟩
    rw [show (5 : Int32) = zi 5 from rfl, zi_div hc.1 (by omega) (by omega) (by omega), zi_rem (by omega) (by omega) (by omega) (by omega)]
    exact hQ
  · rw [if_neg (by omega), if_neg (by omega)] at hQ
    show ¬ (1 : Int32) = 0 ∧ ¬ (5 : Int32) = 0 ∧ q_FI Q (some (.int (zi c / 1 - zi c / 1 / 5 * 5))) H
    refine ⟨by decide, by decide, ?_⟩
    rw [show (1 : Int32) = zi 1 from rfl, show (5 : Int32) = zi 5 from rfl, zi_div hc.1 (by omega) (by omega) (by omega), Int.ediv_one, zi_rem (by omega) (by omega) (by omega) (by omega)]
    exact hQ) Q
/-- whether a set can give a choice, what it then can give at most -/
def dcan (v : Nat → Int → Int) (u c : Int) : Prop := c = 0 ∨ v (uc u) 0 + c - 1 ≤ v (uc u) 1
def dmo (v : Nat → Int → Int) (u c : Int) : Int := if c = 0 then 0 else v (uc u) 1
def dtg (v : Nat → Int → Int) (c : Int) : Int := zout (v (uc 0) 0) (zdg c 0) + zout (v (uc 1) 0) (zdg c 1) + zout (v (uc 2) 0) (zdg c 2)
def dms (v : Nat → Int → Int) (c : Int) : Int := dmo v 0 (zdg c 0) + dmo v 1 (zdg c 1) + dmo v 2 (zdg c 2)
def donn (c : Int) : Int := zbit (zdg c 0) 1 + zbit (zdg c 1) 2 + zbit (zdg c 2) 4
/-- a code fits an hour -/
abbrev FIT (v : Nat → Int → Int) (h who c : Int) : Prop := (zdg c 0 = 0 ∨ v (uc 0) 0 + zdg c 0 - 1 ≤ v (uc 0) 1) ∧ (zdg c 1 = 0 ∨ v (uc 1) 0 + zdg c 1 - 1 ≤ v (uc 1) 1) ∧ (zdg c 2 = 0 ∨ v (uc 2) 0 + zdg c 2 - 1 ≤ v (uc 2) 1) ∧ (who = -1 ∨ who = donn c) ∧ dtg v c = v 34 h ∧ v 35 h ≤ dms v c - dtg v c
theorem l_fits12 (xs : List Int32) (sh : List q_Sh) (v w : Nat → Int → Int) (R : Nat → Nat → Option Nat) (hD : LD sh R) (hU : dUs v) (h who c u k tog mo on : Int) (hc : 0 ≤ c ∧ c < 125) (hu : 0 ≤ u ∧ u < 3) (hor : zi on ||| zi 1 <<< (zi u &&& zi 31) = zi (on + k)) (N : Prop) [Decidable N] (F : Option Value → q_H → Prop) (hF : F (some (.int (zb ((zdg c u = 0 ∨ v (uc u) 0 + zdg c u - 1 ≤ v (uc u) 1) ∧ N)))) (sh, zs v, zt w, R))
    (hn : F (some (.int (zb N))) (sh, zs v, zt w, R) → q_Rt (GG xs) PP 79 F 12 [some (.ref 32), some (.int (zi h)), some (.int (zi who)), some (.int (zi c)), some (.int (zi (tog + zout (v (uc u) 0) (zdg c u)))), some (.int (zi (mo + dmo v u (zdg c u)))), some (.int (zi (on + zbit (zdg c u) k))), some (.int (zi (u + 1))), none, none] [] (sh, zs v, zt w, R)) :
    q_Rt (GG xs) PP 79 F 12 [some (.ref 32), some (.int (zi h)), some (.int (zi who)), some (.int (zi c)), some (.int (zi tog)), some (.int (zi mo)), some (.int (zi on)), some (.int (zi u)), none, none] [] (sh, zs v, zt w, R) := by
  have hL := LD_LU hD hu
  have hU' := hU u hu.1 hu.2
  have z := zdg_rng c u
  have s0 := d_choiceIn xs c u (sh, zs v, zt w, R) hc hu
  have s1 := d_canChoose xs sh v w R (uc u) hL hU' (zdg c u) z
  have s2 := d_outputOf xs sh v w R (uc u) hL (zdg c u) z
  refine b_Front_fits_12 xs F _ _ _ _ _ _ _ _ (sh, zs v, zt w, R) ?_
  by_cases q : zdg c u = 0 ∨ v (uc u) 0 + zdg c u - 1 ≤ v (uc u) 1
  · rw [show zb ((zdg c u = 0 ∨ v (uc u) 0 + zdg c u - 1 ≤ v (uc u) 1) ∧ N) = zb N from zb_iff ⟨fun x => x.2, fun x => ⟨q, x⟩⟩] at hF
    have K := hn hF
    unfold dmo zbit at K
    by_cases c0 : zdg c u = 0
    · rw [if_pos c0, if_pos c0, Int.add_zero, Int.add_zero] at K
      simp (discharger := first | assumption | omega) [hD, fI, fL, fV, zs_ar, zt_ar, zs_un, zt_un, zn_c, zu_a, zu_e, zu_j, zix, zi_lit, zl_lit, zi_add, zi_sub, zi_mul, zi_neg, zi_le, zi_lt, zi_eq, zl_add, zl_sub, zl_mul, zi_i2l, zl_l2i, zb0, zb1, zb0', zb1', zi_c0, zi_c1, zb_c, s0, s1, s2, gat3, gna, LD_un hD hu, hL.1, q, i_leT, i_leF, i_ltT, i_ltF, i_eqT, i_eqF]
      refine b_Front_fits_75 xs F _ _ _ _ _ _ _ _ _ _ (sh, zs v, zt w, R) ?_
      simp (discharger := first | assumption | omega) [fI, fL, fV, zs_ar, zt_ar, zs_un, zt_un, zn_c, zu_a, zu_e, zu_j, zix, zi_lit, zl_lit, zi_add, zi_sub, zi_mul, zi_neg, zi_le, zi_lt, zi_eq, zl_add, zl_sub, zl_mul, zi_i2l, zl_l2i, zb0, zb1, zb0', zb1', zi_c0, zi_c1, zb_c, zor_0, i_leT, i_leF, i_ltT, i_ltF, i_eqT, i_eqF]
      simpa using K
    · rw [if_neg c0, if_neg c0] at K
      simp (discharger := first | assumption | omega) [hD, fI, fL, fV, zs_ar, zt_ar, zs_un, zt_un, zn_c, zu_a, zu_e, zu_j, zix, zi_lit, zl_lit, zi_add, zi_sub, zi_mul, zi_neg, zi_le, zi_lt, zi_eq, zl_add, zl_sub, zl_mul, zi_i2l, zl_l2i, zb0, zb1, zb0', zb1', zi_c0, zi_c1, zb_c, s0, s1, s2, gat3, gna, LD_un hD hu, hL.1, q, c0, i_leT, i_leF, i_ltT, i_ltF, i_eqT, i_eqF]
      refine b_Front_fits_75 xs F _ _ _ _ _ _ _ _ _ _ (sh, zs v, zt w, R) ?_
      simp (discharger := first | assumption | omega) [fI, fL, fV, zs_ar, zt_ar, zs_un, zt_un, zn_c, zu_a, zu_e, zu_j, zix, zi_lit, zl_lit, zi_add, zi_sub, zi_mul, zi_neg, zi_le, zi_lt, zi_eq, zl_add, zl_sub, zl_mul, zi_i2l, zl_l2i, zb0, zb1, zb0', zb1', zi_c0, zi_c1, zb_c, hor, c0, i_leT, i_leF, i_ltT, i_ltF, i_eqT, i_eqF]
      exact K
  · rw [← zbF (fun x => q x.1)] at hF
    simp (discharger := first | assumption | omega) [hD, fI, fL, fV, zs_ar, zt_ar, zs_un, zt_un, zn_c, zu_a, zu_e, zu_j, zix, zi_lit, zl_lit, zi_add, zi_sub, zi_mul, zi_neg, zi_le, zi_lt, zi_eq, zl_add, zl_sub, zl_mul, zi_i2l, zl_l2i, zb0, zb1, zb0', zb1', zi_c0, zi_c1, zb_c, s0, s1, s2, gat3, gna, LD_un hD hu, hL.1, q, i_leT, i_leF, i_ltT, i_ltF, i_eqT, i_eqF]
    exact hF
theorem d_fits (xs : List Int32) (sh : List q_Sh) (v w : Nat → Int → Int) (R : Nat → Nat → Option Nat) (hD : LD sh R) (hU : dUs v) (hE : dD v) (h who c : Int) (hh : 0 ≤ h ∧ h < 8) (hw : -1 ≤ who ∧ who < 8) (hc : 0 ≤ c ∧ c < 125) (Q : Int32 → q_H → Prop) : q_CallI (GG xs) PP kFront_fits [.ref 32, .int (zi h), .int (zi who), .int (zi c)] (sh, zs v, zt w, R) Q = Q (zb (FIT v h who c)) (sh, zs v, zt w, R) := cI (fun Q hQ => by
  have z0 := zdg_rng c 0
  have z1 := zdg_rng c 1
  have z2 := zdg_rng c 2
  have o0 := zout_rng (c := zdg c 0) (hU 0 (by omega) (by omega)).1 z0
  have o1 := zout_rng (c := zdg c 1) (hU 1 (by omega) (by omega)).1 z1
  have o2 := zout_rng (c := zdg c 2) (hU 2 (by omega) (by omega)).1 z2
  have m0 : 0 ≤ dmo v 0 (zdg c 0) ∧ dmo v 0 (zdg c 0) ≤ 60 := by have := (hU 0 (by omega) (by omega)).2.1; unfold dmo; split <;> omega
  have m1 : 0 ≤ dmo v 1 (zdg c 1) ∧ dmo v 1 (zdg c 1) ≤ 60 := by have := (hU 1 (by omega) (by omega)).2.1; unfold dmo; split <;> omega
  have m2 : 0 ≤ dmo v 2 (zdg c 2) ∧ dmo v 2 (zdg c 2) ≤ 60 := by have := (hU 2 (by omega) (by omega)).2.1; unfold dmo; split <;> omega
  have b0 : 0 ≤ zbit (zdg c 0) 1 ∧ zbit (zdg c 0) 1 < 2 := by unfold zbit; split <;> omega
  have b1 : 0 ≤ zbit (zdg c 1) 2 ∧ zbit (zdg c 1) 2 ≤ 2 := by unfold zbit; split <;> omega
  have b2 : 0 ≤ zbit (zdg c 2) 4 ∧ zbit (zdg c 2) 4 ≤ 4 := by unfold zbit; split <;> omega
  have e := hE h hh.1 hh.2
  refine e_Front_fits xs _ _ _ _ _ (sh, zs v, zt w, R) ?_
  have K := l_fits12 xs sh v w R hD hU h who c 0 1 0 0 0 hc (by omega) zor_10 ((zdg c 1 = 0 ∨ v (uc 1) 0 + zdg c 1 - 1 ≤ v (uc 1) 1) ∧ (zdg c 2 = 0 ∨ v (uc 2) 0 + zdg c 2 - 1 ≤ v (uc 2) 1) ∧ (who = -1 ∨ who = donn c) ∧ dtg v c = v 34 h ∧ v 35 h ≤ dms v c - dtg v c) (q_FI Q) hQ (fun hQ1 => ?_)
  · simp (discharger := first | assumption | omega) [fI, fL, fV, zs_ar, zt_ar, zs_un, zt_un, zn_c, zu_a, zu_e, zu_j, zix, zi_lit, zl_lit, zi_add, zi_sub, zi_mul, zi_neg, zi_le, zi_lt, zi_eq, zl_add, zl_sub, zl_mul, zi_i2l, zl_l2i, zb0, zb1, zb0', zb1', zi_c0, zi_c1, zb_c]
    exact K
  · refine l_fits12 xs sh v w R hD hU h who c 1 2 _ _ _ hc (by omega) (zor_11 (by omega) (by omega)) ((zdg c 2 = 0 ∨ v (uc 2) 0 + zdg c 2 - 1 ≤ v (uc 2) 1) ∧ (who = -1 ∨ who = donn c) ∧ dtg v c = v 34 h ∧ v 35 h ≤ dms v c - dtg v c) (q_FI Q) hQ1 (fun hQ2 => ?_)
    refine l_fits12 xs sh v w R hD hU h who c 2 4 _ _ _ hc (by omega) (zor_12 (by omega) (by omega)) ((who = -1 ∨ who = donn c) ∧ dtg v c = v 34 h ∧ v 35 h ≤ dms v c - dtg v c) (q_FI Q) hQ2 (fun hQ3 => ?_)
    have e1 : 0 + zout (v (uc 0) 0) (zdg c 0) + zout (v (uc 1) 0) (zdg c 1) + zout (v (uc 2) 0) (zdg c 2) = dtg v c := by unfold dtg; omega
    have e2 : 0 + dmo v 0 (zdg c 0) + dmo v 1 (zdg c 1) + dmo v 2 (zdg c 2) = dms v c := by unfold dms; omega
    have e3 : 0 + zbit (zdg c 0) 1 + zbit (zdg c 1) 2 + zbit (zdg c 2) 4 = donn c := by unfold donn; omega
    rw [e1, e2, e3]
    have r1 : 0 ≤ dtg v c ∧ dtg v c ≤ 200 := by unfold dtg; omega
    have r2 : 0 ≤ dms v c ∧ dms v c ≤ 200 := by unfold dms; omega
    have r3 : 0 ≤ donn c ∧ donn c < 8 := by unfold donn; omega
    have fin : (who = -1 ∨ who = donn c) → q_Rt (GG xs) PP 79 (q_FI Q) 113 [some (.ref 32), some (.int (zi h)), none, none, some (.int (zi (dtg v c))), some (.int (zi (dms v c))), none, none, none, none] [] (sh, zs v, zt w, R) := fun hwo => by
      refine b_Front_fits_113 xs _ _ _ _ _ (sh, zs v, zt w, R) ?_
      unfold zb at hQ3
      simp (discharger := first | assumption | omega) [hD, fI, fL, fV, zs_ar, zt_ar, zs_un, zt_un, zn_c, zu_a, zu_e, zu_j, zix, zi_lit, zl_lit, zi_add, zi_sub, zi_mul, zi_neg, zi_le, zi_lt, zi_eq, zl_add, zl_sub, zl_mul, zi_i2l, zl_l2i, zb0, zb1, zb0', zb1', zi_c0, zi_c1, zb_c]
      repeat' (first | (refine And.intro (fun _ => ?_) (fun _ => ?_)) | (intro _) | fail)
      all_goals exact zi_cg (Q := Q) hQ3 (by (repeat' split) <;> omega)
    refine b_Front_fits_12 xs _ _ _ _ _ _ _ _ _ (sh, zs v, zt w, R) ?_
    simp (discharger := first | assumption | omega) [fI, fL, fV, zs_ar, zt_ar, zs_un, zt_un, zn_c, zu_a, zu_e, zu_j, zix, zi_lit, zl_lit, zi_add, zi_sub, zi_mul, zi_neg, zi_le, zi_lt, zi_eq, zl_add, zl_sub, zl_mul, zi_i2l, zl_l2i, zb0, zb1, zb0', zb1', zi_c0, zi_c1, zb_c, i_leT, i_leF, i_ltT, i_ltF, i_eqT, i_eqF]
    refine ⟨fun q => fin (Or.inl q), fun q => ⟨fun q2 => ?_, fun q2 => fin (Or.inr q2)⟩⟩
    unfold zb at hQ3
    exact zi_cg (Q := Q) hQ3 (by (repeat' split) <;> omega)) Q
/-- a front's cells -/
def FRa (sh : List q_Sh) (R : Nat → Nat → Option Nat) (a : Nat) : Prop := sh[a]? = some (.inl 1) ∧ R a 0 = some (a + 1) ∧ R a 1 = some (a + 4) ∧ R a 2 = some (a + 5) ∧ LY sh R (a + 1) (a + 2) (a + 3) 675 ∧ sh[a + 4]? = some (.inr (0, 25)) ∧ sh[a + 5]? = some (.inr (0, 75)) ∧ (a = 2 ∨ a = 8)
theorem LD_FR {sh : List q_Sh} {R : Nat → Nat → Option Nat} (hD : LD sh R) {a : Nat} (ha : a = 2 ∨ a = 8) : FRa sh R a := by
  rcases ha with rfl | rfl
  · simp [FRa, LY, hD]
  · simp [FRa, LY, hD]
/-- a code added to a front -/
def addc (v : Nat → Int → Int) (a : Nat) (c : Int) : Nat → Int → Int := zu (zu (zu (zu (zu v (a + 4) (v a 3) c) (a + 5) (v a 3 * 3) (zdg c 0)) (a + 5) (v a 3 * 3 + 1) (zdg c 1)) (a + 5) (v a 3 * 3 + 2) (zdg c 2)) a 3 (v a 3 + 1)
theorem d_addc (xs : List Int32) (sh : List q_Sh) (v w : Nat → Int → Int) (R : Nat → Nat → Option Nat) (a : Nat) (hF : FRa sh R a) (c : Int) (hc : 0 ≤ c ∧ c < 125) (hn : 0 ≤ v a 3 ∧ v a 3 < 25) (Q : q_H → Prop) : q_CallV (GG xs) PP kFront_addChoices [.ref a, .int (zi c)] (sh, zs v, zt w, R) Q = Q (sh, zs (addc v a c), zt w, R) := cV (fun Q hQ => by
  obtain ⟨f1, f2, f3, f4, f5, f6, f7, f8⟩ := hF
  have s := fun (x : Nat → Int → Int) u hu => d_choiceIn xs c u (sh, zs x, zt w, R) hc hu
  have n1 : a ≠ a + 4 := by omega
  have n2 : a ≠ a + 5 := by omega
  refine e_Front_addChoices xs _ _ _ (sh, zs v, zt w, R) ?_
  simp (discharger := first | assumption | omega) [fI, fL, fV, zs_ar, zt_ar, zs_un, zt_un, zn_c, zu_a, zu_e, zu_j, zix, zi_lit, zl_lit, zi_add, zi_sub, zi_mul, zi_neg, zi_le, zi_lt, zi_eq, zl_add, zl_sub, zl_mul, zi_i2l, zl_l2i, zb0, zb1, zb0', zb1', zi_c0, zi_c1, zb_c, f1, f3, f6]
  refine b_Front_addChoices_12 xs _ _ _ _ _ ?_
  simp (discharger := first | assumption | omega) [fI, fL, fV, zs_ar, zt_ar, zs_un, zt_un, zn_c, zu_a, zu_e, zu_j, zix, zi_lit, zl_lit, zi_add, zi_sub, zi_mul, zi_neg, zi_le, zi_lt, zi_eq, zl_add, zl_sub, zl_mul, zi_i2l, zl_l2i, zb0, zb1, zb0', zb1', zi_c0, zi_c1, zb_c, f1, f4, f7, s _ 0 (by omega), n1, n2, i_leT, i_leF, i_ltT, i_ltF, i_eqT, i_eqF]
  refine b_Front_addChoices_12 xs _ _ _ _ _ ?_
  simp (discharger := first | assumption | omega) [fI, fL, fV, zs_ar, zt_ar, zs_un, zt_un, zn_c, zu_a, zu_e, zu_j, zix, zi_lit, zl_lit, zi_add, zi_sub, zi_mul, zi_neg, zi_le, zi_lt, zi_eq, zl_add, zl_sub, zl_mul, zi_i2l, zl_l2i, zb0, zb1, zb0', zb1', zi_c0, zi_c1, zb_c, f1, f4, f7, s _ 1 (by omega), n1, n2, i_leT, i_leF, i_ltT, i_ltF, i_eqT, i_eqF]
  refine b_Front_addChoices_12 xs _ _ _ _ _ ?_
  simp (discharger := first | assumption | omega) [fI, fL, fV, zs_ar, zt_ar, zs_un, zt_un, zn_c, zu_a, zu_e, zu_j, zix, zi_lit, zl_lit, zi_add, zi_sub, zi_mul, zi_neg, zi_le, zi_lt, zi_eq, zl_add, zl_sub, zl_mul, zi_i2l, zl_l2i, zb0, zb1, zb0', zb1', zi_c0, zi_c1, zb_c, f1, f4, f7, s _ 2 (by omega), n1, n2, i_leT, i_leF, i_ltT, i_ltF, i_eqT, i_eqF]
  refine b_Front_addChoices_12 xs _ _ _ _ _ ?_
  simp (discharger := first | assumption | omega) [fI, fL, fV, zs_ar, zt_ar, zs_un, zt_un, zn_c, zu_a, zu_e, zu_j, zix, zi_lit, zl_lit, zi_add, zi_sub, zi_mul, zi_neg, zi_le, zi_lt, zi_eq, zl_add, zl_sub, zl_mul, zi_i2l, zl_l2i, zb0, zb1, zb0', zb1', zi_c0, zi_c1, zb_c, f1, f4, f7, n1, n2, i_leT, i_leF, i_ltT, i_ltF, i_eqT, i_eqF]
  exact hQ) Q
theorem addc_row {v : Nat → Int → Int} {a b : Nat} {c : Int} (h1 : b ≠ a) (h2 : b ≠ a + 4) (h3 : b ≠ a + 5) : addc v a c b = v b := by
  unfold addc
  rw [zu_row h1, zu_row h3, zu_row h3, zu_row h3, zu_row h2]
/-- the codes below n that fit laid in a front -/
def opn (v : Nat → Int → Int) (a : Nat) (h who : Int) : Nat → Nat → Int → Int
  | 0 => zu v a 3 0
  | c + 1 => if FIT v h who c ∧ opn v a h who c a 3 < 25 then addc (opn v a h who c) a c else opn v a h who c
theorem opn_row {v : Nat → Int → Int} {a b : Nat} {h who : Int} (h1 : b ≠ a) (h2 : b ≠ a + 4) (h3 : b ≠ a + 5) : ∀ n, opn v a h who n b = v b
  | 0 => zu_row h1
  | n + 1 => by
    unfold opn
    split
    · rw [addc_row h1 h2 h3]
      exact opn_row h1 h2 h3 n
    · exact opn_row h1 h2 h3 n
theorem opn_size {v : Nat → Int → Int} {a : Nat} {h who : Int} : ∀ n : Nat, 0 ≤ opn v a h who n a 3 ∧ opn v a h who n a 3 ≤ 25
  | 0 => by
    unfold opn
    rw [zu_e rfl]
    omega
  | n + 1 => by
    have ih := opn_size (v := v) (a := a) (h := h) (who := who) n
    unfold opn
    split
    · rename_i q
      unfold addc
      rw [zu_e rfl]
      omega
    · exact ih
theorem opn_full {v : Nat → Int → Int} {a : Nat} {h who : Int} (n : Nat) (hn : opn v a h who n a 3 = 25) : ∀ m, opn v a h who (n + m) = opn v a h who n
  | 0 => rfl
  | m + 1 => by
    show (if FIT v h who ((n + m : Nat) : Int) ∧ opn v a h who (n + m) a 3 < 25 then addc (opn v a h who (n + m)) a ((n + m : Nat) : Int) else opn v a h who (n + m)) = _
    rw [opn_full n hn m, if_neg (fun q => by omega)]
theorem uc_rng {u : Int} (hu : 0 ≤ u ∧ u < 3) : 36 ≤ uc u ∧ uc u ≤ 44 := by
  unfold uc
  omega
theorem opn_U {v : Nat → Int → Int} {a : Nat} (ha : a = 2 ∨ a = 8) {h who : Int} (n : Nat) (hU : dUs v) : dUs (opn v a h who n) := fun u h1 h2 => by
  have := uc_rng ⟨h1, h2⟩
  unfold dU
  rw [opn_row (by omega) (by omega) (by omega)]
  exact hU u h1 h2
theorem opn_FIT {v : Nat → Int → Int} {a : Nat} (ha : a = 2 ∨ a = 8) {h who h' who' c : Int} (n : Nat) : FIT (opn v a h who n) h' who' c ↔ FIT v h' who' c := by
  have r : ∀ b, 20 ≤ b → opn v a h who n b = v b := fun b hb => opn_row (by omega) (by omega) (by omega) n
  have u0 := uc_rng (u := 0) (by omega)
  have u1 := uc_rng (u := 1) (by omega)
  have u2 := uc_rng (u := 2) (by omega)
  unfold FIT dtg dms dmo
  rw [r (uc 0) (by omega), r (uc 1) (by omega), r (uc 2) (by omega), r 34 (by omega), r 35 (by omega)]
theorem d_openHour (xs : List Int32) (sh : List q_Sh) (v w : Nat → Int → Int) (R : Nat → Nat → Option Nat) (hD : LD sh R) (a : Nat) (ha : a = 2 ∨ a = 8) (hU : dUs v) (hE : dD v) (h who : Int) (hh : 0 ≤ h ∧ h < 8) (hw : -1 ≤ who ∧ who < 8) (Q : q_H → Prop) : q_CallV (GG xs) PP kFront_openHour [.ref a, .ref 32, .int (zi h), .int (zi who)] (sh, zs v, zt w, R) Q = Q (sh, zs (opn v a h who 125), zt (zfl w (a + 3) 675 (-1)), R) := cV (fun Q hQ => by
  have hF := LD_FR hD ha
  have hF2 := hF
  obtain ⟨f1, f2, f3, f4, f5, f6, f7, f8⟩ := hF2
  have L : ∀ c : Int, 0 ≤ c → c ≤ 125 → q_Rt (GG xs) PP 77 (q_FV Q) 15 [some (.ref a), some (.ref 32), some (.int (zi h)), some (.int (zi who)), some (.int (zi c))] [] (sh, zs (opn v a h who c.toNat), zt (zfl w (a + 3) 675 (-1)), R) := by
    refine zdown _ ?_ (fun c h1 h2 ih => ?_)
    · refine b_Front_openHour_15 xs _ _ _ _ _ _ _ ?_
      simp (discharger := first | assumption | omega) [fI, fL, fV, zs_ar, zt_ar, zs_un, zt_un, zn_c, zu_a, zu_e, zu_j, zix, zi_lit, zl_lit, zi_add, zi_sub, zi_mul, zi_neg, zi_le, zi_lt, zi_eq, zl_add, zl_sub, zl_mul, zi_i2l, zl_l2i, zb0, zb1, zb0', zb1', zi_c0, zi_c1, zb_c, i_leT, i_leF, i_ltT, i_ltF, i_eqT, i_eqF]
      exact hQ
    · have sz := opn_size (v := v) (a := a) (h := h) (who := who) c.toNat
      refine b_Front_openHour_15 xs _ _ _ _ _ _ _ ?_
      by_cases full : opn v a h who c.toNat a 3 = 25
      · have e := opn_full c.toNat full (125 - c.toNat)
        rw [show c.toNat + (125 - c.toNat) = 125 by omega] at e
        simp (discharger := first | assumption | omega) [fI, fL, fV, zs_ar, zt_ar, zs_un, zt_un, zn_c, zu_a, zu_e, zu_j, zix, zi_lit, zl_lit, zi_add, zi_sub, zi_mul, zi_neg, zi_le, zi_lt, zi_eq, zl_add, zl_sub, zl_mul, zi_i2l, zl_l2i, zb0, zb1, zb0', zb1', zi_c0, zi_c1, zb_c, f1, full, i_leT, i_leF, i_ltT, i_ltF, i_eqT, i_eqF]
        rw [← e]
        exact hQ
      · have e : (c + 1).toNat = c.toNat + 1 := by omega
        have e2 : ((c.toNat : Nat) : Int) = c := by omega
        rw [e] at ih
        unfold opn at ih
        rw [e2] at ih
        have s1 := d_fits xs sh (opn v a h who c.toNat) (zfl w (a + 3) 675 (-1)) R hD (opn_U ha _ hU) (fun k k1 k2 => by
          rw [opn_row (by omega) (by omega) (by omega), opn_row (by omega) (by omega) (by omega)]
          exact hE k k1 k2) h who c hh hw ⟨h1, h2⟩
        rw [zb_iff (opn_FIT ha c.toNat)] at s1
        by_cases q : FIT v h who c
        · rw [if_pos ⟨q, by omega⟩] at ih
          have s2 := d_addc xs sh (opn v a h who c.toNat) (zfl w (a + 3) 675 (-1)) R a hF c ⟨h1, h2⟩ (by omega)
          rw [zbTr q] at s1
          simp (discharger := first | assumption | omega) [fI, fL, fV, zs_ar, zt_ar, zs_un, zt_un, zn_c, zu_a, zu_e, zu_j, zix, zi_lit, zl_lit, zi_add, zi_sub, zi_mul, zi_neg, zi_le, zi_lt, zi_eq, zl_add, zl_sub, zl_mul, zi_i2l, zl_l2i, zb0, zb1, zb0', zb1', zi_c0, zi_c1, zb_c, f1, s1, s2, i_leT, i_leF, i_ltT, i_ltF, i_eqT, i_eqF]
          exact ih
        · rw [if_neg (fun z => q z.1)] at ih
          rw [zbFa q] at s1
          simp (discharger := first | assumption | omega) [fI, fL, fV, zs_ar, zt_ar, zs_un, zt_un, zn_c, zu_a, zu_e, zu_j, zix, zi_lit, zl_lit, zi_add, zi_sub, zi_mul, zi_neg, zi_le, zi_lt, zi_eq, zl_add, zl_sub, zl_mul, zi_i2l, zl_l2i, zb0, zb1, zb0', zb1', zi_c0, zi_c1, zb_c, f1, s1, i_leT, i_leF, i_ltT, i_ltF, i_eqT, i_eqF]
          exact ih
  have K0 := L 0 (by omega) (by omega)
  refine e_Front_openHour xs _ _ _ _ _ (sh, zs v, zt w, R) ?_
  simp (discharger := first | assumption | omega) [fI, fL, fV, zs_ar, zt_ar, zs_un, zt_un, zn_c, zu_a, zu_e, zu_j, zix, zi_lit, zl_lit, zi_add, zi_sub, zi_mul, zi_neg, zi_le, zi_lt, zi_eq, zl_add, zl_sub, zl_mul, zi_i2l, zl_l2i, zb0, zb1, zb0', zb1', zi_c0, zi_c1, zb_c, f1, f2, f5.1, d_clear xs sh v w R (a + 1) (a + 2) (a + 3) 675 f5]
  exact K0) Q
