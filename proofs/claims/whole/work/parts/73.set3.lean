/-- demand -/
def vDe (v : Nat → Int → Int) (h d r : Int) : Nat → Int → Int := zu (zu (zu v 48 0 0) 58 h d) 59 h r
theorem rA_vDe {v : Nat → Int → Int} (hA : rA v) {h d r : Int} (hd : 0 ≤ d ∧ d ≤ 200) (hr : 0 ≤ r ∧ r ≤ 200) : rA (vDe v h d r) := by
  obtain ⟨a1, a2, a3, a4, a5, a6⟩ := hA
  refine ⟨fun k h1 h2 => ?_, ⟨fun j h1 h2 => ?_, fun j h1 h2 => ?_⟩, fun k h1 h2 => ?_, fun k h1 h2 => ?_, ?_, fun k h1 h2 => ?_⟩
  · have := a1 k h1 h2
    simpa [vDe, zu] using this
  · have := a2.1 j h1 h2
    simpa [vDe, zu] using this
  · have := a2.2 j h1 h2
    simpa [vDe, zu] using this
  · have := a3 k h1 (by simpa [vDe, zu] using h2)
    simpa [vDe, zu] using this
  · have := a4 k h1 h2
    by_cases c : k = h
    · subst c; simp [vDe, zu]; omega
    · simp [vDe, zu, c]; omega
  · have := a5
    unfold rN at this ⊢
    simpa [vDe, zu] using this
  · have := a6 k h1 h2
    simpa [vDe, zu] using this
theorem n_demand (xs : List Int32) (sh : List q_Sh) (v w : Nat → Int → Int) (R : Nat → Nat → Option Nat) (hM : LM sh R) (hA : rA v) (h d r : Int) (r1 : -2147483648 ≤ h ∧ h < 2147483648) (r2 : -2147483648 ≤ d ∧ d < 2147483648) (r3 : -2147483648 ≤ r ∧ r < 2147483648) :
    (¬ ((0 ≤ h ∧ h < v 48 1) ∧ (0 ≤ d ∧ d ≤ 200) ∧ (0 ≤ r ∧ r ≤ 200)) → ∀ Q : Int32 → q_H → Prop, q_CallI (GG xs) PP kMod_demand [.ref 48, .int (zi h), .int (zi d), .int (zi r)] (sh, zs v, zt w, R) Q = Q (zi 0) (sh, zs (zu v 48 0 0), zt w, R)) ∧
    (((0 ≤ h ∧ h < v 48 1) ∧ (0 ≤ d ∧ d ≤ 200) ∧ (0 ≤ r ∧ r ≤ 200)) → ∃ v' w', e66 (zu (vDe v h d r) 48 18 64) v' ∧ fL65 (zu w 48 19 (bnd (vDe v h d r))) w' ∧ ∀ Q : Int32 → q_H → Prop, q_CallI (GG xs) PP kMod_demand [.ref 48, .int (zi h), .int (zi d), .int (zi r)] (sh, zs v, zt w, R) Q = Q (zi 1) (sh, zs v', zt w', R)) := by
  have n1 := hA.2.2.2.2.1.1
  have e0 := zu_j (v := v) (a := 48) (b := 48) (e := 0) (j := 1) (x := 0) (by decide)
  refine ⟨fun k Q => cI (fun Q hQ => ?_) Q, fun k => ?_⟩
  · refine e_Mod_demand xs _ _ _ _ _ (sh, zs v, zt w, R) ?_
    by_cases c1 : 0 ≤ h ∧ h < v 48 1
    · by_cases c2 : 0 ≤ d ∧ d ≤ 200
      · have c3 : ¬ (0 ≤ r ∧ r ≤ 200) := fun c3 => k ⟨c1, c2, c3⟩
        simp (discharger := first | assumption | omega) [hM, fI, fL, fV, zs_ar, zt_ar, zs_un, zt_un, zn_c, zu_a, zu_e, zu_j, zix, zi_lit, zl_lit, zi_add, zi_sub, zi_mul, zi_neg, zi_le, zi_lt, zi_eq, zl_add, zl_sub, zl_mul, zi_i2l, zl_l2i, zb0, zb1, zb0', zb1', zi_c0, zi_c1, zb_c, n_isHour, n_in, e0, c1, c2, c3]
        exact hQ
      · simp (discharger := first | assumption | omega) [hM, fI, fL, fV, zs_ar, zt_ar, zs_un, zt_un, zn_c, zu_a, zu_e, zu_j, zix, zi_lit, zl_lit, zi_add, zi_sub, zi_mul, zi_neg, zi_le, zi_lt, zi_eq, zl_add, zl_sub, zl_mul, zi_i2l, zl_l2i, zb0, zb1, zb0', zb1', zi_c0, zi_c1, zb_c, n_isHour, n_in, e0, c1, c2]
        exact hQ
    · simp (discharger := first | assumption | omega) [hM, fI, fL, fV, zs_ar, zt_ar, zs_un, zt_un, zn_c, zu_a, zu_e, zu_j, zix, zi_lit, zl_lit, zi_add, zi_sub, zi_mul, zi_neg, zi_le, zi_lt, zi_eq, zl_add, zl_sub, zl_mul, zi_i2l, zl_l2i, zb0, zb1, zb0', zb1', zi_c0, zi_c1, zb_c, n_isHour, n_in, e0, c1]
      exact hQ
  · obtain ⟨c1, c2, c3⟩ := k
    obtain ⟨v', w', q1, q2, q3⟩ := n_anew2 xs sh (vDe v h d r) w R hM (rA_vDe hA c2 c3)
    refine ⟨v', w', q1, q2, fun Q => cI (fun Q hQ => ?_) Q⟩
    unfold vDe at q3
    refine e_Mod_demand xs _ _ _ _ _ (sh, zs v, zt w, R) ?_
    simp (discharger := first | assumption | omega) [hM, fI, fL, fV, zs_ar, zt_ar, zs_un, zt_un, zn_c, zu_a, zu_e, zu_j, zix, zi_lit, zl_lit, zi_add, zi_sub, zi_mul, zi_neg, zi_le, zi_lt, zi_eq, zl_add, zl_sub, zl_mul, zi_i2l, zl_l2i, zb0, zb1, zb0', zb1', zi_c0, zi_c1, zb_c, n_isHour, n_in, e0, c1, c2, c3, q3]
    exact hQ
/-- price -/
def vPr (v : Nat → Int → Int) (h p : Int) : Nat → Int → Int := zu (zu v 48 0 0) 63 h p
theorem rA_vPr {v : Nat → Int → Int} (hA : rA v) {h p : Int} (hp : -100000 ≤ p ∧ p ≤ 100000) : rA (vPr v h p) := rA_63 (rA_0 hA) (fun a h1 h2 => zu_row (by omega)) (fun k h1 h2 => by
  have := (hA.2.2.2.1 k h1 h2).2.2
  by_cases c : k = h
  · subst c; simp [vPr, zu]; omega
  · simp [vPr, zu, c]; omega)
theorem n_price (xs : List Int32) (sh : List q_Sh) (v w : Nat → Int → Int) (R : Nat → Nat → Option Nat) (hM : LM sh R) (hA : rA v) (h p : Int) (r1 : -2147483648 ≤ h ∧ h < 2147483648) (r2 : -2147483648 ≤ p ∧ p < 2147483648) :
    (¬ ((0 ≤ h ∧ h < v 48 1) ∧ (-100000 ≤ p ∧ p ≤ 100000)) → ∀ Q : Int32 → q_H → Prop, q_CallI (GG xs) PP kMod_price [.ref 48, .int (zi h), .int (zi p)] (sh, zs v, zt w, R) Q = Q (zi 0) (sh, zs (zu v 48 0 0), zt w, R)) ∧
    (((0 ≤ h ∧ h < v 48 1) ∧ (-100000 ≤ p ∧ p ≤ 100000)) → ∃ v' w', e66 (zu (vPr v h p) 48 18 64) v' ∧ fL65 (zu w 48 19 (bnd (vPr v h p))) w' ∧ ∀ Q : Int32 → q_H → Prop, q_CallI (GG xs) PP kMod_price [.ref 48, .int (zi h), .int (zi p)] (sh, zs v, zt w, R) Q = Q (zi 1) (sh, zs v', zt w', R)) := by
  have n1 := hA.2.2.2.2.1.1
  have e0 := zu_j (v := v) (a := 48) (b := 48) (e := 0) (j := 1) (x := 0) (by decide)
  refine ⟨fun k Q => cI (fun Q hQ => ?_) Q, fun k => ?_⟩
  · refine e_Mod_price xs _ _ _ _ (sh, zs v, zt w, R) ?_
    by_cases c1 : 0 ≤ h ∧ h < v 48 1
    · have c2 : ¬ (-100000 ≤ p ∧ p ≤ 100000) := fun c2 => k ⟨c1, c2⟩
      simp (discharger := first | assumption | omega) [hM, fI, fL, fV, zs_ar, zt_ar, zs_un, zt_un, zn_c, zu_a, zu_e, zu_j, zix, zi_lit, zl_lit, zi_add, zi_sub, zi_mul, zi_neg, zi_le, zi_lt, zi_eq, zl_add, zl_sub, zl_mul, zi_i2l, zl_l2i, zb0, zb1, zb0', zb1', zi_c0, zi_c1, zb_c, n_isHour, n_in, e0, c1, c2]
      exact hQ
    · simp (discharger := first | assumption | omega) [hM, fI, fL, fV, zs_ar, zt_ar, zs_un, zt_un, zn_c, zu_a, zu_e, zu_j, zix, zi_lit, zl_lit, zi_add, zi_sub, zi_mul, zi_neg, zi_le, zi_lt, zi_eq, zl_add, zl_sub, zl_mul, zi_i2l, zl_l2i, zb0, zb1, zb0', zb1', zi_c0, zi_c1, zb_c, n_isHour, n_in, e0, c1]
      exact hQ
  · obtain ⟨c1, c2⟩ := k
    obtain ⟨v', w', q1, q2, q3⟩ := n_anew2 xs sh (vPr v h p) w R hM (rA_vPr hA c2)
    refine ⟨v', w', q1, q2, fun Q => cI (fun Q hQ => ?_) Q⟩
    unfold vPr at q3
    refine e_Mod_price xs _ _ _ _ (sh, zs v, zt w, R) ?_
    simp (discharger := first | assumption | omega) [hM, fI, fL, fV, zs_ar, zt_ar, zs_un, zt_un, zn_c, zu_a, zu_e, zu_j, zix, zi_lit, zl_lit, zi_add, zi_sub, zi_mul, zi_neg, zi_le, zi_lt, zi_eq, zl_add, zl_sub, zl_mul, zi_i2l, zl_l2i, zb0, zb1, zb0', zb1', zi_c0, zi_c1, zb_c, n_isHour, n_in, e0, c1, c2, q3]
    exact hQ
theorem n_priceOf (xs : List Int32) (sh : List q_Sh) (v w : Nat → Int → Int) (R : Nat → Nat → Option Nat) (hM : LM sh R) (hA : rA v) (h : Int) (r1 : -2147483648 ≤ h ∧ h < 2147483648) (Q : Int32 → q_H → Prop) : q_CallI (GG xs) PP kMod_priceOf [.ref 48, .int (zi h)] (sh, zs v, zt w, R) Q = Q (zi (if 0 ≤ h ∧ h < v 48 1 then v 63 h else 0)) (sh, zs (zu v 48 0 (if 0 ≤ h ∧ h < v 48 1 then 0 else 1)), zt w, R) := cI (fun Q hQ => by
  have n1 := hA.2.2.2.2.1.1
  refine e_Mod_priceOf xs _ _ _ (sh, zs v, zt w, R) ?_
  by_cases c : 0 ≤ h ∧ h < v 48 1
  · rw [if_pos c, if_pos c] at hQ
    simp (discharger := first | assumption | omega) [hM, fI, fL, fV, zs_ar, zt_ar, zs_un, zt_un, zn_c, zu_a, zu_e, zu_j, zix, zi_lit, zl_lit, zi_add, zi_sub, zi_mul, zi_neg, zi_le, zi_lt, zi_eq, zl_add, zl_sub, zl_mul, zi_i2l, zl_l2i, zb0, zb1, zb0', zb1', zi_c0, zi_c1, zb_c, n_isHour, c]
    exact hQ
  · rw [if_neg c, if_neg c] at hQ
    simp (discharger := first | assumption | omega) [hM, fI, fL, fV, zs_ar, zt_ar, zs_un, zt_un, zn_c, zu_a, zu_e, zu_j, zix, zi_lit, zl_lit, zi_add, zi_sub, zi_mul, zi_neg, zi_le, zi_lt, zi_eq, zl_add, zl_sub, zl_mul, zi_i2l, zl_l2i, zb0, zb1, zb0', zb1', zi_c0, zi_c1, zb_c, n_isHour, n_fails, c]
    exact hQ) Q
theorem n_output (xs : List Int32) (sh : List q_Sh) (v w : Nat → Int → Int) (R : Nat → Nat → Option Nat) (hM : LM sh R) (hA : rA v) (u h : Int) (r1 : -2147483648 ≤ u ∧ u < 2147483648) (r2 : -2147483648 ≤ h ∧ h < 2147483648) (Q : Int32 → q_H → Prop) : q_CallI (GG xs) PP kMod_output [.ref 48, .int (zi u), .int (zi h)] (sh, zs v, zt w, R) Q = Q (zi (if (0 ≤ u ∧ u < v 48 2) ∧ (0 ≤ h ∧ h < v 48 1) then v 60 (8 * u + h) else 0)) (sh, zs (zu v 48 0 (if (0 ≤ u ∧ u < v 48 2) ∧ (0 ≤ h ∧ h < v 48 1) then 0 else 1)), zt w, R) := cI (fun Q hQ => by
  have n1 := hA.2.2.2.2.1.1
  have n2 := hA.2.2.2.2.1.2
  refine e_Mod_output xs _ _ _ _ (sh, zs v, zt w, R) ?_
  by_cases c : 0 ≤ u ∧ u < v 48 2
  · by_cases c2 : 0 ≤ h ∧ h < v 48 1
    · rw [if_pos ⟨c, c2⟩, if_pos ⟨c, c2⟩] at hQ
      simp (discharger := first | assumption | omega) [hM, fI, fL, fV, zs_ar, zt_ar, zs_un, zt_un, zn_c, zu_a, zu_e, zu_j, zix, zi_lit, zl_lit, zi_add, zi_sub, zi_mul, zi_neg, zi_le, zi_lt, zi_eq, zl_add, zl_sub, zl_mul, zi_i2l, zl_l2i, zb0, zb1, zb0', zb1', zi_c0, zi_c1, zb_c, n_isSet, n_isHour, c, c2]
      exact hQ
    · rw [if_neg (fun q => c2 q.2), if_neg (fun q => c2 q.2)] at hQ
      simp (discharger := first | assumption | omega) [hM, fI, fL, fV, zs_ar, zt_ar, zs_un, zt_un, zn_c, zu_a, zu_e, zu_j, zix, zi_lit, zl_lit, zi_add, zi_sub, zi_mul, zi_neg, zi_le, zi_lt, zi_eq, zl_add, zl_sub, zl_mul, zi_i2l, zl_l2i, zb0, zb1, zb0', zb1', zi_c0, zi_c1, zb_c, n_isSet, n_isHour, n_fails, c, c2]
      exact hQ
  · rw [if_neg (fun q => c q.1), if_neg (fun q => c q.1)] at hQ
    simp (discharger := first | assumption | omega) [hM, fI, fL, fV, zs_ar, zt_ar, zs_un, zt_un, zn_c, zu_a, zu_e, zu_j, zix, zi_lit, zl_lit, zi_add, zi_sub, zi_mul, zi_neg, zi_le, zi_lt, zi_eq, zl_add, zl_sub, zl_mul, zi_i2l, zl_l2i, zb0, zb1, zb0', zb1', zi_c0, zi_c1, zb_c, n_isSet, n_isHour, n_fails, c]
    exact hQ) Q
theorem n_set (xs : List Int32) (sh : List q_Sh) (v w : Nat → Int → Int) (R : Nat → Nat → Option Nat) (hM : LM sh R) (hA : rA v) (u h x : Int) (r1 : -2147483648 ≤ u ∧ u < 2147483648) (r2 : -2147483648 ≤ h ∧ h < 2147483648) (r3 : -2147483648 ≤ x ∧ x < 2147483648) (Q : Int32 → q_H → Prop) : q_CallI (GG xs) PP kMod_set [.ref 48, .int (zi u), .int (zi h), .int (zi x)] (sh, zs v, zt w, R) Q = if (0 ≤ u ∧ u < v 48 2) ∧ (0 ≤ h ∧ h < v 48 1) ∧ (0 ≤ x ∧ x ≤ 63) then Q (zi 1) (sh, zs (zu (zu v 48 0 0) 60 (8 * u + h) x), zt w, R) else Q (zi 0) (sh, zs (zu v 48 0 0), zt w, R) := by
  have n1 := hA.2.2.2.2.1.1
  have n2 := hA.2.2.2.2.1.2
  have e1 := zu_j (v := v) (a := 48) (b := 48) (e := 0) (j := 1) (x := 0) (by decide)
  have e2 := zu_j (v := v) (a := 48) (b := 48) (e := 0) (j := 2) (x := 0) (by decide)
  by_cases c : 0 ≤ u ∧ u < v 48 2
  · by_cases c2 : 0 ≤ h ∧ h < v 48 1
    · by_cases c3 : 0 ≤ x ∧ x ≤ 63
      · rw [if_pos ⟨c, c2, c3⟩]
        refine cI (fun Q hQ => ?_) Q
        refine e_Mod_set xs _ _ _ _ _ (sh, zs v, zt w, R) ?_
        simp (discharger := first | assumption | omega) [hM, fI, fL, fV, zs_ar, zt_ar, zs_un, zt_un, zn_c, zu_a, zu_e, zu_j, zix, zi_lit, zl_lit, zi_add, zi_sub, zi_mul, zi_neg, zi_le, zi_lt, zi_eq, zl_add, zl_sub, zl_mul, zi_i2l, zl_l2i, zb0, zb1, zb0', zb1', zi_c0, zi_c1, zb_c, n_isSet, n_isHour, n_in, e1, e2, c, c2, c3]
        exact hQ
      · rw [if_neg (fun q => c3 q.2.2)]
        refine cI (fun Q hQ => ?_) Q
        refine e_Mod_set xs _ _ _ _ _ (sh, zs v, zt w, R) ?_
        simp (discharger := first | assumption | omega) [hM, fI, fL, fV, zs_ar, zt_ar, zs_un, zt_un, zn_c, zu_a, zu_e, zu_j, zix, zi_lit, zl_lit, zi_add, zi_sub, zi_mul, zi_neg, zi_le, zi_lt, zi_eq, zl_add, zl_sub, zl_mul, zi_i2l, zl_l2i, zb0, zb1, zb0', zb1', zi_c0, zi_c1, zb_c, n_isSet, n_isHour, n_in, e1, e2, c, c2, c3]
        exact hQ
    · rw [if_neg (fun q => c2 q.2.1)]
      refine cI (fun Q hQ => ?_) Q
      refine e_Mod_set xs _ _ _ _ _ (sh, zs v, zt w, R) ?_
      simp (discharger := first | assumption | omega) [hM, fI, fL, fV, zs_ar, zt_ar, zs_un, zt_un, zn_c, zu_a, zu_e, zu_j, zix, zi_lit, zl_lit, zi_add, zi_sub, zi_mul, zi_neg, zi_le, zi_lt, zi_eq, zl_add, zl_sub, zl_mul, zi_i2l, zl_l2i, zb0, zb1, zb0', zb1', zi_c0, zi_c1, zb_c, n_isSet, n_isHour, n_in, e1, e2, c, c2]
      exact hQ
  · rw [if_neg (fun q => c q.1)]
    refine cI (fun Q hQ => ?_) Q
    refine e_Mod_set xs _ _ _ _ _ (sh, zs v, zt w, R) ?_
    simp (discharger := first | assumption | omega) [hM, fI, fL, fV, zs_ar, zt_ar, zs_un, zt_un, zn_c, zu_a, zu_e, zu_j, zix, zi_lit, zl_lit, zi_add, zi_sub, zi_mul, zi_neg, zi_le, zi_lt, zi_eq, zl_add, zl_sub, zl_mul, zi_i2l, zl_l2i, zb0, zb1, zb0', zb1', zi_c0, zi_c1, zb_c, n_isSet, n_isHour, n_in, e1, e2, c]
    exact hQ
