def okI (a : Int) : Prop := -2147483648 ≤ a ∧ a < 2147483648
theorem rA_0 {v : Nat → Int → Int} (hA : rA v) : rA (zu v 48 0 0) := sM_rA (sM_zu (sM_rf v) (by omega)) hA
/-- costs -/
def vCo (v : Nat → Int → Int) (u b f s t : Int) : Nat → Int → Int := zu (zu (zu (zu (zu v 48 0 0) 54 (4 * u) b) 54 (4 * u + 1) (b + f)) 54 (4 * u + 2) (b + f + s)) 54 (4 * u + 3) (b + f + s + t)
theorem rA_54 {v : Nat → Int → Int} (hA : rA v) {e x : Int} (hx : 0 ≤ x ∧ x ≤ 40000) : rA (zu v 54 e x) := by
  obtain ⟨a1, a2, a3, a4, a5, a6⟩ := hA
  refine ⟨fun k h1 h2 => ?_, ⟨fun j h1 h2 => ?_, fun j h1 h2 => ?_⟩, fun k h1 h2 => ?_, fun k h1 h2 => ?_, ?_, fun k h1 h2 => ?_⟩
  · have := a1 k h1 h2
    simpa [zu] using this
  · have := a2.1 j h1 h2
    unfold zu
    split <;> omega
  · have := a2.2 j h1 h2
    simpa [zu] using this
  · have := a3 k h1 (by simpa [zu] using h2)
    simpa [zu] using this
  · have := a4 k h1 h2
    simpa [zu] using this
  · have := a5
    unfold rN at this ⊢
    simpa [zu] using this
  · have := a6 k h1 h2
    simpa [zu] using this
theorem rA_55 {v : Nat → Int → Int} (hA : rA v) {e x : Int} (hx : 0 ≤ x ∧ x ≤ 10000) : rA (zu v 55 e x) := by
  obtain ⟨a1, a2, a3, a4, a5, a6⟩ := hA
  refine ⟨fun k h1 h2 => ?_, ⟨fun j h1 h2 => ?_, fun j h1 h2 => ?_⟩, fun k h1 h2 => ?_, fun k h1 h2 => ?_, ?_, fun k h1 h2 => ?_⟩
  · have := a1 k h1 h2
    simpa [zu] using this
  · have := a2.1 j h1 h2
    simpa [zu] using this
  · have := a2.2 j h1 h2
    unfold zu
    split <;> omega
  · have := a3 k h1 (by simpa [zu] using h2)
    simpa [zu] using this
  · have := a4 k h1 h2
    simpa [zu] using this
  · have := a5
    unfold rN at this ⊢
    simpa [zu] using this
  · have := a6 k h1 h2
    simpa [zu] using this
theorem n_costs (xs : List Int32) (sh : List q_Sh) (v w : Nat → Int → Int) (R : Nat → Nat → Option Nat) (hM : LM sh R) (hA : rA v) (u b f s t : Int) (r1 : -2147483648 ≤ u ∧ u < 2147483648) (r2 : -2147483648 ≤ b ∧ b < 2147483648) (r3 : -2147483648 ≤ f ∧ f < 2147483648) (r4 : -2147483648 ≤ s ∧ s < 2147483648) (r5 : -2147483648 ≤ t ∧ t < 2147483648) :
    (¬ ((0 ≤ u ∧ u < v 48 2) ∧ (0 ≤ b ∧ b ≤ 10000) ∧ (0 ≤ f ∧ f ≤ 10000) ∧ (0 ≤ s ∧ s ≤ 10000) ∧ (0 ≤ t ∧ t ≤ 10000)) → ∀ Q : Int32 → q_H → Prop, q_CallI (GG xs) PP kMod_costs [.ref 48, .int (zi u), .int (zi b), .int (zi f), .int (zi s), .int (zi t)] (sh, zs v, zt w, R) Q = Q (zi 0) (sh, zs (zu v 48 0 0), zt w, R)) ∧
    (((0 ≤ u ∧ u < v 48 2) ∧ (0 ≤ b ∧ b ≤ 10000) ∧ (0 ≤ f ∧ f ≤ 10000) ∧ (0 ≤ s ∧ s ≤ 10000) ∧ (0 ≤ t ∧ t ≤ 10000)) → ∃ v' w', e66 (zu (vCo v u b f s t) 48 18 64) v' ∧ fL65 (zu w 48 19 (bnd (vCo v u b f s t))) w' ∧ ∀ Q : Int32 → q_H → Prop, q_CallI (GG xs) PP kMod_costs [.ref 48, .int (zi u), .int (zi b), .int (zi f), .int (zi s), .int (zi t)] (sh, zs v, zt w, R) Q = Q (zi 1) (sh, zs v', zt w', R)) := by
  have n2 := hA.2.2.2.2.1.2
  have e0 := zu_j (v := v) (a := 48) (b := 48) (e := 0) (j := 2) (x := 0) (by decide)
  refine ⟨fun c Q => cI (fun Q hQ => ?_) Q, fun c => ?_⟩
  · refine e_Mod_costs xs _ _ _ _ _ _ _ (sh, zs v, zt w, R) ?_
    by_cases c1 : 0 ≤ u ∧ u < v 48 2
    · by_cases c2 : 0 ≤ b ∧ b ≤ 10000
      · by_cases c3 : 0 ≤ f ∧ f ≤ 10000
        · by_cases c4 : 0 ≤ s ∧ s ≤ 10000
          · have c5 : ¬ (0 ≤ t ∧ t ≤ 10000) := fun c5 => c ⟨c1, c2, c3, c4, c5⟩
            simp (discharger := first | assumption | omega) [hM, fI, fL, fV, zs_ar, zt_ar, zs_un, zt_un, zn_c, zu_a, zu_e, zu_j, zix, zi_lit, zl_lit, zi_add, zi_sub, zi_mul, zi_neg, zi_le, zi_lt, zi_eq, zl_add, zl_sub, zl_mul, zi_i2l, zl_l2i, zb0, zb1, zb0', zb1', zi_c0, zi_c1, zb_c, n_isSet, n_isCost, e0, c1, c2, c3, c4, c5]
            exact hQ
          · simp (discharger := first | assumption | omega) [hM, fI, fL, fV, zs_ar, zt_ar, zs_un, zt_un, zn_c, zu_a, zu_e, zu_j, zix, zi_lit, zl_lit, zi_add, zi_sub, zi_mul, zi_neg, zi_le, zi_lt, zi_eq, zl_add, zl_sub, zl_mul, zi_i2l, zl_l2i, zb0, zb1, zb0', zb1', zi_c0, zi_c1, zb_c, n_isSet, n_isCost, e0, c1, c2, c3, c4]
            exact hQ
        · simp (discharger := first | assumption | omega) [hM, fI, fL, fV, zs_ar, zt_ar, zs_un, zt_un, zn_c, zu_a, zu_e, zu_j, zix, zi_lit, zl_lit, zi_add, zi_sub, zi_mul, zi_neg, zi_le, zi_lt, zi_eq, zl_add, zl_sub, zl_mul, zi_i2l, zl_l2i, zb0, zb1, zb0', zb1', zi_c0, zi_c1, zb_c, n_isSet, n_isCost, e0, c1, c2, c3]
          exact hQ
      · simp (discharger := first | assumption | omega) [hM, fI, fL, fV, zs_ar, zt_ar, zs_un, zt_un, zn_c, zu_a, zu_e, zu_j, zix, zi_lit, zl_lit, zi_add, zi_sub, zi_mul, zi_neg, zi_le, zi_lt, zi_eq, zl_add, zl_sub, zl_mul, zi_i2l, zl_l2i, zb0, zb1, zb0', zb1', zi_c0, zi_c1, zb_c, n_isSet, n_isCost, e0, c1, c2]
        exact hQ
    · simp (discharger := first | assumption | omega) [hM, fI, fL, fV, zs_ar, zt_ar, zs_un, zt_un, zn_c, zu_a, zu_e, zu_j, zix, zi_lit, zl_lit, zi_add, zi_sub, zi_mul, zi_neg, zi_le, zi_lt, zi_eq, zl_add, zl_sub, zl_mul, zi_i2l, zl_l2i, zb0, zb1, zb0', zb1', zi_c0, zi_c1, zb_c, n_isSet, n_isCost, e0, c1]
      exact hQ
  · obtain ⟨c1, c2, c3, c4, c5⟩ := c
    obtain ⟨v', w', q1, q2, q3⟩ := n_anew2 xs sh (vCo v u b f s t) w R hM (rA_54 (rA_54 (rA_54 (rA_54 (rA_0 hA) (by omega)) (by omega)) (by omega)) (by omega))
    refine ⟨v', w', q1, q2, fun Q => cI (fun Q hQ => ?_) Q⟩
    unfold vCo at q3
    refine e_Mod_costs xs _ _ _ _ _ _ _ (sh, zs v, zt w, R) ?_
    simp (discharger := first | assumption | omega) [hM, fI, fL, fV, zs_ar, zt_ar, zs_un, zt_un, zn_c, zu_a, zu_e, zu_j, zix, zi_lit, zl_lit, zi_add, zi_sub, zi_mul, zi_neg, zi_le, zi_lt, zi_eq, zl_add, zl_sub, zl_mul, zi_i2l, zl_l2i, zb0, zb1, zb0', zb1', zi_c0, zi_c1, zb_c, n_isSet, n_isCost, e0, c1, c2, c3, c4, c5, q3]
    exact hQ
/-- starts -/
def vSt (v : Nat → Int → Int) (u a b c : Int) : Nat → Int → Int := zu (zu (zu (zu v 48 0 0) 55 (3 * u) a) 55 (3 * u + 1) b) 55 (3 * u + 2) c
theorem n_starts (xs : List Int32) (sh : List q_Sh) (v w : Nat → Int → Int) (R : Nat → Nat → Option Nat) (hM : LM sh R) (hA : rA v) (u a b c : Int) (r1 : -2147483648 ≤ u ∧ u < 2147483648) (r2 : -2147483648 ≤ a ∧ a < 2147483648) (r3 : -2147483648 ≤ b ∧ b < 2147483648) (r4 : -2147483648 ≤ c ∧ c < 2147483648) :
    (¬ ((0 ≤ u ∧ u < v 48 2) ∧ (0 ≤ a ∧ a ≤ 10000) ∧ (0 ≤ b ∧ b ≤ 10000) ∧ (0 ≤ c ∧ c ≤ 10000)) → ∀ Q : Int32 → q_H → Prop, q_CallI (GG xs) PP kMod_starts [.ref 48, .int (zi u), .int (zi a), .int (zi b), .int (zi c)] (sh, zs v, zt w, R) Q = Q (zi 0) (sh, zs (zu v 48 0 0), zt w, R)) ∧
    (((0 ≤ u ∧ u < v 48 2) ∧ (0 ≤ a ∧ a ≤ 10000) ∧ (0 ≤ b ∧ b ≤ 10000) ∧ (0 ≤ c ∧ c ≤ 10000)) → ∃ v' w', e66 (zu (vSt v u a b c) 48 18 64) v' ∧ fL65 (zu w 48 19 (bnd (vSt v u a b c))) w' ∧ ∀ Q : Int32 → q_H → Prop, q_CallI (GG xs) PP kMod_starts [.ref 48, .int (zi u), .int (zi a), .int (zi b), .int (zi c)] (sh, zs v, zt w, R) Q = Q (zi 1) (sh, zs v', zt w', R)) := by
  have n2 := hA.2.2.2.2.1.2
  have e0 := zu_j (v := v) (a := 48) (b := 48) (e := 0) (j := 2) (x := 0) (by decide)
  refine ⟨fun k Q => cI (fun Q hQ => ?_) Q, fun k => ?_⟩
  · refine e_Mod_starts xs _ _ _ _ _ _ (sh, zs v, zt w, R) ?_
    by_cases c1 : 0 ≤ u ∧ u < v 48 2
    · by_cases c2 : 0 ≤ a ∧ a ≤ 10000
      · by_cases c3 : 0 ≤ b ∧ b ≤ 10000
        · have c4 : ¬ (0 ≤ c ∧ c ≤ 10000) := fun c4 => k ⟨c1, c2, c3, c4⟩
          simp (discharger := first | assumption | omega) [hM, fI, fL, fV, zs_ar, zt_ar, zs_un, zt_un, zn_c, zu_a, zu_e, zu_j, zix, zi_lit, zl_lit, zi_add, zi_sub, zi_mul, zi_neg, zi_le, zi_lt, zi_eq, zl_add, zl_sub, zl_mul, zi_i2l, zl_l2i, zb0, zb1, zb0', zb1', zi_c0, zi_c1, zb_c, n_isSet, n_isCost, e0, c1, c2, c3, c4]
          exact hQ
        · simp (discharger := first | assumption | omega) [hM, fI, fL, fV, zs_ar, zt_ar, zs_un, zt_un, zn_c, zu_a, zu_e, zu_j, zix, zi_lit, zl_lit, zi_add, zi_sub, zi_mul, zi_neg, zi_le, zi_lt, zi_eq, zl_add, zl_sub, zl_mul, zi_i2l, zl_l2i, zb0, zb1, zb0', zb1', zi_c0, zi_c1, zb_c, n_isSet, n_isCost, e0, c1, c2, c3]
          exact hQ
      · simp (discharger := first | assumption | omega) [hM, fI, fL, fV, zs_ar, zt_ar, zs_un, zt_un, zn_c, zu_a, zu_e, zu_j, zix, zi_lit, zl_lit, zi_add, zi_sub, zi_mul, zi_neg, zi_le, zi_lt, zi_eq, zl_add, zl_sub, zl_mul, zi_i2l, zl_l2i, zb0, zb1, zb0', zb1', zi_c0, zi_c1, zb_c, n_isSet, n_isCost, e0, c1, c2]
        exact hQ
    · simp (discharger := first | assumption | omega) [hM, fI, fL, fV, zs_ar, zt_ar, zs_un, zt_un, zn_c, zu_a, zu_e, zu_j, zix, zi_lit, zl_lit, zi_add, zi_sub, zi_mul, zi_neg, zi_le, zi_lt, zi_eq, zl_add, zl_sub, zl_mul, zi_i2l, zl_l2i, zb0, zb1, zb0', zb1', zi_c0, zi_c1, zb_c, n_isSet, n_isCost, e0, c1]
      exact hQ
  · obtain ⟨c1, c2, c3, c4⟩ := k
    obtain ⟨v', w', q1, q2, q3⟩ := n_anew2 xs sh (vSt v u a b c) w R hM (rA_55 (rA_55 (rA_55 (rA_0 hA) (by omega)) (by omega)) (by omega))
    refine ⟨v', w', q1, q2, fun Q => cI (fun Q hQ => ?_) Q⟩
    unfold vSt at q3
    refine e_Mod_starts xs _ _ _ _ _ _ (sh, zs v, zt w, R) ?_
    simp (discharger := first | assumption | omega) [hM, fI, fL, fV, zs_ar, zt_ar, zs_un, zt_un, zn_c, zu_a, zu_e, zu_j, zix, zi_lit, zl_lit, zi_add, zi_sub, zi_mul, zi_neg, zi_le, zi_lt, zi_eq, zl_add, zl_sub, zl_mul, zi_i2l, zl_l2i, zb0, zb1, zb0', zb1', zi_c0, zi_c1, zb_c, n_isSet, n_isCost, e0, c1, c2, c3, c4, q3]
    exact hQ
/-- before -/
def vBe (v : Nat → Int → Int) (u o n : Int) : Nat → Int → Int := zu (zu (zu v 48 0 0) 56 u o) 57 u n
theorem rA_vBe {v : Nat → Int → Int} (hA : rA v) {u o n : Int} (hu : 0 ≤ u ∧ u < v 48 2) (ho : o = 0 ∨ v 49 u ≤ o ∧ o ≤ v 50 u) (hn : 1 ≤ n ∧ n ≤ 100) : rA (vBe v u o n) := by
  obtain ⟨a1, a2, a3, a4, a5, a6⟩ := hA
  have n2 := a5.2
  refine ⟨fun k h1 h2 => ?_, ⟨fun j h1 h2 => ?_, fun j h1 h2 => ?_⟩, fun k h1 h2 => ?_, fun k h1 h2 => ?_, ?_, fun k h1 h2 => ?_⟩
  · have := a1 k h1 h2
    by_cases c : k = u
    · subst c; simp [vBe, zu]; omega
    · simp [vBe, zu, c]; omega
  · have := a2.1 j h1 h2
    simpa [vBe, zu] using this
  · have := a2.2 j h1 h2
    simpa [vBe, zu] using this
  · have := a3 k h1 (by simpa [vBe, zu] using h2)
    by_cases c : k = u
    · subst c; simp [vBe, zu]; omega
    · simp [vBe, zu, c]; omega
  · have := a4 k h1 h2
    simpa [vBe, zu] using this
  · have := a5
    unfold rN at this ⊢
    simpa [vBe, zu] using this
  · have := a6 k h1 h2
    simpa [vBe, zu] using this
theorem n_before (xs : List Int32) (sh : List q_Sh) (v w : Nat → Int → Int) (R : Nat → Nat → Option Nat) (hM : LM sh R) (hA : rA v) (u o n : Int) (r1 : -2147483648 ≤ u ∧ u < 2147483648) (r2 : -2147483648 ≤ o ∧ o < 2147483648) (r3 : -2147483648 ≤ n ∧ n < 2147483648) :
    (¬ ((0 ≤ u ∧ u < v 48 2) ∧ (1 ≤ n ∧ n ≤ 100) ∧ (o = 0 ∨ v 49 u ≤ o ∧ o ≤ v 50 u)) → ∀ Q : Int32 → q_H → Prop, q_CallI (GG xs) PP kMod_before [.ref 48, .int (zi u), .int (zi o), .int (zi n)] (sh, zs v, zt w, R) Q = Q (zi 0) (sh, zs (zu v 48 0 0), zt w, R)) ∧
    (((0 ≤ u ∧ u < v 48 2) ∧ (1 ≤ n ∧ n ≤ 100) ∧ (o = 0 ∨ v 49 u ≤ o ∧ o ≤ v 50 u)) → ∃ v' w', e66 (zu (vBe v u o n) 48 18 64) v' ∧ fL65 (zu w 48 19 (bnd (vBe v u o n))) w' ∧ ∀ Q : Int32 → q_H → Prop, q_CallI (GG xs) PP kMod_before [.ref 48, .int (zi u), .int (zi o), .int (zi n)] (sh, zs v, zt w, R) Q = Q (zi 1) (sh, zs v', zt w', R)) := by
  have n2 := hA.2.2.2.2.1.2
  have e0 := zu_j (v := v) (a := 48) (b := 48) (e := 0) (j := 2) (x := 0) (by decide)
  refine ⟨fun k Q => cI (fun Q hQ => ?_) Q, fun k => ?_⟩
  · refine e_Mod_before xs _ _ _ _ _ (sh, zs v, zt w, R) ?_
    by_cases c1 : 0 ≤ u ∧ u < v 48 2
    · obtain ⟨r1, r2, -⟩ := hA.1 u c1.1 (by omega)
      by_cases c2 : 1 ≤ n ∧ n ≤ 100
      · have c3 : ¬ o = 0 := fun c3 => k ⟨c1, c2, Or.inl c3⟩
        have c4 : ¬ (v 49 u ≤ o ∧ o ≤ v 50 u) := fun c4 => k ⟨c1, c2, Or.inr c4⟩
        simp (discharger := first | assumption | omega) [hM, fI, fL, fV, zs_ar, zt_ar, zs_un, zt_un, zn_c, zu_a, zu_e, zu_j, zix, zi_lit, zl_lit, zi_add, zi_sub, zi_mul, zi_neg, zi_le, zi_lt, zi_eq, zl_add, zl_sub, zl_mul, zi_i2l, zl_l2i, zb0, zb1, zb0', zb1', zi_c0, zi_c1, zb_c, n_isSet, n_in, e0, c1, c2, c3, c4]
        exact hQ
      · simp (discharger := first | assumption | omega) [hM, fI, fL, fV, zs_ar, zt_ar, zs_un, zt_un, zn_c, zu_a, zu_e, zu_j, zix, zi_lit, zl_lit, zi_add, zi_sub, zi_mul, zi_neg, zi_le, zi_lt, zi_eq, zl_add, zl_sub, zl_mul, zi_i2l, zl_l2i, zb0, zb1, zb0', zb1', zi_c0, zi_c1, zb_c, n_isSet, n_in, e0, c1, c2]
        exact hQ
    · simp (discharger := first | assumption | omega) [hM, fI, fL, fV, zs_ar, zt_ar, zs_un, zt_un, zn_c, zu_a, zu_e, zu_j, zix, zi_lit, zl_lit, zi_add, zi_sub, zi_mul, zi_neg, zi_le, zi_lt, zi_eq, zl_add, zl_sub, zl_mul, zi_i2l, zl_l2i, zb0, zb1, zb0', zb1', zi_c0, zi_c1, zb_c, n_isSet, n_in, e0, c1]
      exact hQ
  · obtain ⟨c1, c2, c3⟩ := k
    obtain ⟨r1, r2, -⟩ := hA.1 u c1.1 (by omega)
    obtain ⟨v', w', q1, q2, q3⟩ := n_anew2 xs sh (vBe v u o n) w R hM (rA_vBe hA c1 c3 c2)
    refine ⟨v', w', q1, q2, fun Q => cI (fun Q hQ => ?_) Q⟩
    unfold vBe at q3
    have L : q_Rt (GG xs) PP 38 (q_FI Q) 48 [some (.ref 48), some (.int (zi u)), some (.int (zi o)), some (.int (zi n))] [] (sh, zs (zu v 48 0 0), zt w, R) := by
      refine b_Mod_before_48 xs _ _ _ _ _ (sh, zs (zu v 48 0 0), zt w, R) ?_
      simp (discharger := first | assumption | omega) [hM, fI, fL, fV, zs_ar, zt_ar, zs_un, zt_un, zn_c, zu_a, zu_e, zu_j, zix, zi_lit, zl_lit, zi_add, zi_sub, zi_mul, zi_neg, zi_le, zi_lt, zi_eq, zl_add, zl_sub, zl_mul, zi_i2l, zl_l2i, zb0, zb1, zb0', zb1', zi_c0, zi_c1, zb_c, q3]
      exact hQ
    refine e_Mod_before xs _ _ _ _ _ (sh, zs v, zt w, R) ?_
    by_cases c4 : o = 0
    · simp (discharger := first | assumption | omega) [hM, fI, fL, fV, zs_ar, zt_ar, zs_un, zt_un, zn_c, zu_a, zu_e, zu_j, zix, zi_lit, zl_lit, zi_add, zi_sub, zi_mul, zi_neg, zi_le, zi_lt, zi_eq, zl_add, zl_sub, zl_mul, zi_i2l, zl_l2i, zb0, zb1, zb0', zb1', zi_c0, zi_c1, zb_c, n_isSet, n_in, e0, c1, c2, i_eqT]
      rw [c4] at L ⊢
      exact L
    · have c5 : v 49 u ≤ o ∧ o ≤ v 50 u := by omega
      simp (discharger := first | assumption | omega) [hM, fI, fL, fV, zs_ar, zt_ar, zs_un, zt_un, zn_c, zu_a, zu_e, zu_j, zix, zi_lit, zl_lit, zi_add, zi_sub, zi_mul, zi_neg, zi_le, zi_lt, zi_eq, zl_add, zl_sub, zl_mul, zi_i2l, zl_l2i, zb0, zb1, zb0', zb1', zi_c0, zi_c1, zb_c, n_isSet, n_in, e0, c1, c2, c4, c5]
      exact L
