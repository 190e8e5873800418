/-! The station: how a table stands to it. -/
theorem gat3 (xs : List Int32) : q_kd (g_at (GG xs) 3) = 2 := rfl
theorem gat4 (xs : List Int32) : q_kd (g_at (GG xs) 4) = 2 := rfl
theorem gna (xs : List Int32) : g_na (GG xs) = 5 := rfl
def dN (v : Nat → Int → Int) : Prop := (1 ≤ v 32 0 ∧ v 32 0 ≤ 8) ∧ (0 ≤ v 32 1 ∧ v 32 1 ≤ 3)
def dUs (v : Nat → Int → Int) : Prop := ∀ u, 0 ≤ u → u < 3 → dU v (uc u)
def dT (v : Nat → Int → Int) : Prop := ∀ j, 0 ≤ j → j < 24 → 0 ≤ v 25 j ∧ v 25 j ≤ 63
def dD (v : Nat → Int → Int) : Prop := ∀ h, 0 ≤ h → h < 8 → (0 ≤ v 34 h ∧ v 34 h ≤ 200) ∧ (0 ≤ v 35 h ∧ v 35 h ≤ 200)
def brow (v : Nat → Int → Int) (u : Int) : Int → Int := fun h => v 25 (8 * u + h)
theorem d_hasSet (xs : List Int32) (sh : List q_Sh) (v w : Nat → Int → Int) (R : Nat → Nat → Option Nat) (hD : LD sh R) (hN : dN v) (u : Int) (hu : -2147483648 ≤ u ∧ u < 2147483648) (Q : Int32 → q_H → Prop) : q_CallI (GG xs) PP kStation_hasSet [.ref 32, .int (zi u)] (sh, zs v, zt w, R) Q = Q (zb (0 ≤ u ∧ u < v 32 1)) (sh, zs v, zt w, R) := cI (fun Q hQ => by
  have n2 := hN.2
  refine e_Station_hasSet xs _ _ _ (sh, zs v, zt w, R) ?_
  simp (discharger := first | assumption | omega) [hD, fI, fL, fV, zs_ar, zt_ar, zs_un, zt_un, zn_c, zu_a, zu_e, zu_j, zix, zi_lit, zl_lit, zi_add, zi_sub, zi_mul, zi_neg, zi_le, zi_lt, zi_eq, zl_add, zl_sub, zl_mul, zi_i2l, zl_l2i, zb0, zb1, zb0', zb1', zi_c0, zi_c1, zb_c, d_within]
  rw [zb_iff (q := 0 ≤ u ∧ u < v 32 1) (by omega)]
  exact hQ) Q
theorem d_hasHour (xs : List Int32) (sh : List q_Sh) (v w : Nat → Int → Int) (R : Nat → Nat → Option Nat) (hD : LD sh R) (hN : dN v) (u : Int) (hu : -2147483648 ≤ u ∧ u < 2147483648) (Q : Int32 → q_H → Prop) : q_CallI (GG xs) PP kStation_hasHour [.ref 32, .int (zi u)] (sh, zs v, zt w, R) Q = Q (zb (0 ≤ u ∧ u < v 32 0)) (sh, zs v, zt w, R) := cI (fun Q hQ => by
  have n2 := hN.1
  refine e_Station_hasHour xs _ _ _ (sh, zs v, zt w, R) ?_
  simp (discharger := first | assumption | omega) [hD, fI, fL, fV, zs_ar, zt_ar, zs_un, zt_un, zn_c, zu_a, zu_e, zu_j, zix, zi_lit, zl_lit, zi_add, zi_sub, zi_mul, zi_neg, zi_le, zi_lt, zi_eq, zl_add, zl_sub, zl_mul, zi_i2l, zl_l2i, zb0, zb1, zb0', zb1', zi_c0, zi_c1, zb_c, d_within]
  rw [zb_iff (q := 0 ≤ u ∧ u < v 32 0) (by omega)]
  exact hQ) Q
theorem d_hasCell (xs : List Int32) (sh : List q_Sh) (v w : Nat → Int → Int) (R : Nat → Nat → Option Nat) (hD : LD sh R) (hN : dN v) (u h : Int) (hu : -2147483648 ≤ u ∧ u < 2147483648) (hh : -2147483648 ≤ h ∧ h < 2147483648) (Q : Int32 → q_H → Prop) : q_CallI (GG xs) PP kStation_hasCell [.ref 32, .int (zi u), .int (zi h)] (sh, zs v, zt w, R) Q = Q (zb ((0 ≤ u ∧ u < v 32 1) ∧ (0 ≤ h ∧ h < v 32 0))) (sh, zs v, zt w, R) := cI (fun Q hQ => by
  refine e_Station_hasCell xs _ _ _ _ (sh, zs v, zt w, R) ?_
  by_cases c1 : 0 ≤ u ∧ u < v 32 1
  · by_cases c2 : 0 ≤ h ∧ h < v 32 0
    · simp (discharger := first | assumption | omega) [hD, fI, fL, fV, zs_ar, zt_ar, zs_un, zt_un, zn_c, zu_a, zu_e, zu_j, zix, zi_lit, zl_lit, zi_add, zi_sub, zi_mul, zi_neg, zi_le, zi_lt, zi_eq, zl_add, zl_sub, zl_mul, zi_i2l, zl_l2i, zb0, zb1, zb0', zb1', zi_c0, zi_c1, zb_c, d_hasSet, d_hasHour, c1, c2]
      rw [← zbT ⟨c1, c2⟩] at hQ
      exact hQ
    · simp (discharger := first | assumption | omega) [hD, fI, fL, fV, zs_ar, zt_ar, zs_un, zt_un, zn_c, zu_a, zu_e, zu_j, zix, zi_lit, zl_lit, zi_add, zi_sub, zi_mul, zi_neg, zi_le, zi_lt, zi_eq, zl_add, zl_sub, zl_mul, zi_i2l, zl_l2i, zb0, zb1, zb0', zb1', zi_c0, zi_c1, zb_c, d_hasSet, d_hasHour, c1, c2]
      rw [← zbF (fun q => c2 q.2)] at hQ
      exact hQ
  · simp (discharger := first | assumption | omega) [hD, fI, fL, fV, zs_ar, zt_ar, zs_un, zt_un, zn_c, zu_a, zu_e, zu_j, zix, zi_lit, zl_lit, zi_add, zi_sub, zi_mul, zi_neg, zi_le, zi_lt, zi_eq, zl_add, zl_sub, zl_mul, zi_i2l, zl_l2i, zb0, zb1, zb0', zb1', zi_c0, zi_c1, zb_c, d_hasSet, d_hasHour, c1]
    rw [← zbF (fun q => c1 q.1)] at hQ
    exact hQ) Q
theorem d_outputAhead (xs : List Int32) (sh : List q_Sh) (v w : Nat → Int → Int) (R : Nat → Nat → Option Nat) (hD : LD sh R) (u h : Int) (hu : 0 ≤ u ∧ u < 3) (hh : 0 ≤ h ∧ h < 8) (Q : Int32 → q_H → Prop) : q_CallI (GG xs) PP kStation_outputAhead [.ref 32, .ref 25, .int (zi u), .int (zi h)] (sh, zs v, zt w, R) Q = Q (zi (zprev (brow v u) (v (uc u) 5) h)) (sh, zs v, zt w, R) := cI (fun Q hQ => by
  unfold zprev brow at hQ
  refine e_Station_outputAhead xs _ _ _ _ _ (sh, zs v, zt w, R) ?_
  by_cases c : h = 0
  · rw [if_pos c] at hQ
    simp (discharger := first | assumption | omega) [hD, fI, fL, fV, zs_ar, zt_ar, zs_un, zt_un, zn_c, zu_a, zu_e, zu_j, zix, zi_lit, zl_lit, zi_add, zi_sub, zi_mul, zi_neg, zi_le, zi_lt, zi_eq, zl_add, zl_sub, zl_mul, zi_i2l, zl_l2i, zb0, zb1, zb0', zb1', zi_c0, zi_c1, zb_c, d_cell, gat3, gna, LD_un hD hu, (LD_LU hD hu).1, c]
    exact hQ
  · rw [if_neg c] at hQ
    simp (discharger := first | assumption | omega) [hD, fI, fL, fV, zs_ar, zt_ar, zs_un, zt_un, zn_c, zu_a, zu_e, zu_j, zix, zi_lit, zl_lit, zi_add, zi_sub, zi_mul, zi_neg, zi_le, zi_lt, zi_eq, zl_add, zl_sub, zl_mul, zi_i2l, zl_l2i, zb0, zb1, zb0', zb1', zi_c0, zi_c1, zb_c, d_cell, c]
    exact hQ) Q
theorem l_held25 (xs : List Int32) (sh : List q_Sh) (v w : Nat → Int → Int) (R : Nat → Nat → Option Nat) (hD : LD sh R) (hT : dT v) (hU : dUs v) (u h : Int) (on : Prop) [Decidable on] (hu : 0 ≤ u ∧ u < 3) (hh : 0 ≤ h ∧ h < 8) : ∀ n, 0 ≤ n → n ≤ h → ∀ F : Option Value → q_H → Prop, q_Rt (GG xs) PP 117 F 25 [some (.ref 32), some (.ref 25), some (.int (zi u)), none, some (.int (zb on)), some (.int (zi n)), some (.int (zi (h - n - 1)))] [] (sh, zs v, zt w, R) = F (some (.int (zi (n + zhold (brow v u) (v (uc u) 5) (v (uc u) 6) on (h - n).toNat)))) (sh, zs v, zt w, R) := by
  obtain ⟨u1, u2, u3, u4, u5, u6, u7, u8⟩ := hU u hu.1 hu.2
  refine zdown _ (fun F => cR (fun F hF => ?_) F) (fun n h1 h2 ih F => cR (fun F hF => ?_) F)
  · rw [show h - h - 1 = -1 by omega]
    rw [show (h - h).toNat = 0 by omega] at hF
    unfold zhold at hF
    have L : ∀ p : Prop, [Decidable p] → (p ↔ (v (uc u) 5 ≠ 0 ↔ on)) → q_Rt (GG xs) PP 117 F 90 [some (.ref 32), none, some (.int (zi u)), none, none, some (.int (zi h)), none] [.int (zb p)] (sh, zs v, zt w, R) := by
      intro p _ hp
      refine b_Station_hoursHeld_90 xs F _ _ _ _ (sh, zs v, zt w, R) ?_
      by_cases c : p
      · rw [if_pos (hp.mp c)] at hF
        rw [zbTr c]
        simp (discharger := first | assumption | omega) [hD, fI, fL, fV, zs_ar, zt_ar, zs_un, zt_un, zn_c, zu_a, zu_e, zu_j, zix, zi_lit, zl_lit, zi_add, zi_sub, zi_mul, zi_neg, zi_le, zi_lt, zi_eq, zl_add, zl_sub, zl_mul, zi_i2l, zl_l2i, zb0, zb1, zb0', zb1', zi_c0, zi_c1, zb_c, gat3, gna, LD_un hD hu, (LD_LU hD hu).1]
        exact hF
      · rw [if_neg (fun q => c (hp.mpr q))] at hF
        rw [zbFa c]
        simp (discharger := first | assumption | omega) [hD, fI, fL, fV, zs_ar, zt_ar, zs_un, zt_un, zn_c, zu_a, zu_e, zu_j, zix, zi_lit, zl_lit, zi_add, zi_sub, zi_mul, zi_neg, zi_le, zi_lt, zi_eq, zl_add, zl_sub, zl_mul, zi_i2l, zl_l2i, zb0, zb1, zb0', zb1', zi_c0, zi_c1, zb_c, gat3, gna, LD_un hD hu, (LD_LU hD hu).1]
        simpa using hF
    refine b_Station_hoursHeld_25 xs F _ _ _ _ _ _ (sh, zs v, zt w, R) ?_
    have T := L True
    have N := L False
    rw [zbTr trivial] at T
    rw [zbFa (fun q => q)] at N
    simp (discharger := first | assumption | omega) [hD, fI, fL, fV, zs_ar, zt_ar, zs_un, zt_un, zn_c, zu_a, zu_e, zu_j, zix, zi_lit, zl_lit, zi_add, zi_sub, zi_mul, zi_neg, zi_le, zi_lt, zi_eq, zl_add, zl_sub, zl_mul, zi_i2l, zl_l2i, zb0, zb1, zb0', zb1', zi_c0, zi_c1, zb_c, gat3, gna, LD_un hD hu, (LD_LU hD hu).1, i_leT, i_leF, i_ltT, i_ltF, i_eqT, i_eqF]
    refine ⟨fun c => ⟨fun d => N ?_, fun d => T ?_⟩, fun c => ⟨fun d => N ?_, fun d => T ?_⟩⟩
    · simp [c, d]
    · simp [c, d]
    · simp [c, d]
    · simp [c, d]
  · have := hT (8 * u + (h - n - 1)) (by omega) (by omega)
    rw [show (h - n).toNat = (h - (n + 1)).toNat + 1 by omega] at hF
    unfold zhold at hF
    rw [show brow v u ((h - (n + 1)).toNat : Int) = v 25 (8 * u + (h - n - 1)) by unfold brow; congr 1; omega] at hF
    have e : h - n - 1 + -1 = h - (n + 1) - 1 := by omega
    refine b_Station_hoursHeld_25 xs F _ _ _ _ _ _ (sh, zs v, zt w, R) ?_
    by_cases h3 : v 25 (8 * u + (h - n - 1)) = 0 <;> by_cases h4 : on
    · simp (discharger := first | assumption | omega) [hD, fI, fL, fV, zs_ar, zt_ar, zs_un, zt_un, zn_c, zu_a, zu_e, zu_j, zix, zi_lit, zl_lit, zi_add, zi_sub, zi_mul, zi_neg, zi_le, zi_lt, zi_eq, zl_add, zl_sub, zl_mul, zi_i2l, zl_l2i, zb0, zb1, zb0', zb1', zi_c0, zi_c1, zb_c, d_cell, e, ih, i_leT, i_leF, i_ltT, i_ltF, i_eqT, i_eqF]
      simp only [h4] at hF ⊢
      simpa [h3] using hF
    · simp (discharger := first | assumption | omega) [hD, fI, fL, fV, zs_ar, zt_ar, zs_un, zt_un, zn_c, zu_a, zu_e, zu_j, zix, zi_lit, zl_lit, zi_add, zi_sub, zi_mul, zi_neg, zi_le, zi_lt, zi_eq, zl_add, zl_sub, zl_mul, zi_i2l, zl_l2i, zb0, zb1, zb0', zb1', zi_c0, zi_c1, zb_c, d_cell, e, ih, i_leT, i_leF, i_ltT, i_ltF, i_eqT, i_eqF]
      rw [if_pos (by simp [h3, h4])] at hF
      rw [Int.add_assoc n 1, Int.add_comm 1]
      simp only [h4] at hF ⊢
      simpa using hF
    · simp (discharger := first | assumption | omega) [hD, fI, fL, fV, zs_ar, zt_ar, zs_un, zt_un, zn_c, zu_a, zu_e, zu_j, zix, zi_lit, zl_lit, zi_add, zi_sub, zi_mul, zi_neg, zi_le, zi_lt, zi_eq, zl_add, zl_sub, zl_mul, zi_i2l, zl_l2i, zb0, zb1, zb0', zb1', zi_c0, zi_c1, zb_c, d_cell, e, ih, i_leT, i_leF, i_ltT, i_ltF, i_eqT, i_eqF]
      rw [if_pos (by simp [h3, h4])] at hF
      rw [Int.add_assoc n 1, Int.add_comm 1]
      simp only [h4] at hF ⊢
      simpa using hF
    · simp (discharger := first | assumption | omega) [hD, fI, fL, fV, zs_ar, zt_ar, zs_un, zt_un, zn_c, zu_a, zu_e, zu_j, zix, zi_lit, zl_lit, zi_add, zi_sub, zi_mul, zi_neg, zi_le, zi_lt, zi_eq, zl_add, zl_sub, zl_mul, zi_i2l, zl_l2i, zb0, zb1, zb0', zb1', zi_c0, zi_c1, zb_c, d_cell, e, ih, i_leT, i_leF, i_ltT, i_ltF, i_eqT, i_eqF]
      simp only [h4] at hF ⊢
      simpa [h3] using hF
theorem zprev_rng {v : Nat → Int → Int} (hT : dT v) (hU : dUs v) {u h : Int} (hu : 0 ≤ u ∧ u < 3) (hh : 0 ≤ h ∧ h < 8) : 0 ≤ zprev (brow v u) (v (uc u) 5) h ∧ zprev (brow v u) (v (uc u) 5) h ≤ 63 := by
  obtain ⟨u1, u2, u3, u4, u5, u6, u7, u8⟩ := hU u hu.1 hu.2
  unfold zprev brow
  split
  · omega
  · exact hT _ (by omega) (by omega)
theorem d_hoursHeld (xs : List Int32) (sh : List q_Sh) (v w : Nat → Int → Int) (R : Nat → Nat → Option Nat) (hD : LD sh R) (hT : dT v) (hU : dUs v) (u h : Int) (hu : 0 ≤ u ∧ u < 3) (hh : 0 ≤ h ∧ h < 8) (Q : Int32 → q_H → Prop) : q_CallI (GG xs) PP kStation_hoursHeld [.ref 32, .ref 25, .int (zi u), .int (zi h)] (sh, zs v, zt w, R) Q = Q (zi (zlst (brow v u) (v (uc u) 5) (v (uc u) 6) h)) (sh, zs v, zt w, R) := cI (fun Q hQ => by
  have r := zprev_rng hT hU hu hh
  refine e_Station_hoursHeld xs _ _ _ _ _ (sh, zs v, zt w, R) ?_
  unfold zlst at hQ
  have L := l_held25 xs sh v w R hD hT hU u h (zprev (brow v u) (v (uc u) 5) h ≠ 0) hu hh 0 (by omega) (by omega)
  simp only [Int.sub_zero, Int.zero_add] at L
  by_cases c : zprev (brow v u) (v (uc u) 5) h = 0
  · rw [zbFa (by simp [c])] at L
    simp (discharger := first | assumption | omega) [hD, fI, fL, fV, zs_ar, zt_ar, zs_un, zt_un, zn_c, zu_a, zu_e, zu_j, zix, zi_lit, zl_lit, zi_add, zi_sub, zi_mul, zi_neg, zi_le, zi_lt, zi_eq, zl_add, zl_sub, zl_mul, zi_i2l, zl_l2i, zb0, zb1, zb0', zb1', zi_c0, zi_c1, zb_c, d_outputAhead, c, L]
    simpa [c] using hQ
  · rw [zbTr c] at L
    simp (discharger := first | assumption | omega) [hD, fI, fL, fV, zs_ar, zt_ar, zs_un, zt_un, zn_c, zu_a, zu_e, zu_j, zix, zi_lit, zl_lit, zi_add, zi_sub, zi_mul, zi_neg, zi_le, zi_lt, zi_eq, zl_add, zl_sub, zl_mul, zi_i2l, zl_l2i, zb0, zb1, zb0', zb1', zi_c0, zi_c1, zb_c, d_outputAhead, c, L]
    simpa [c] using hQ) Q
