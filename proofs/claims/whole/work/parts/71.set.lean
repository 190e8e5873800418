/-! The reference's calls that change it. -/
theorem n_isCost (xs : List Int32) (a : Int) (H : q_H) (ha : -2147483648 ≤ a ∧ a < 2147483648) (Q : Int32 → q_H → Prop) : q_CallI (GG xs) PP kMod_isCost [.int (zi a)] H Q = Q (zb (0 ≤ a ∧ a ≤ 10000)) H := cI (fun Q hQ => by
  refine e_Mod_isCost xs _ _ H ?_
  simp (discharger := first | assumption | omega) [fI, fL, fV, zs_ar, zt_ar, zs_un, zt_un, zn_c, zu_a, zu_e, zu_j, zix, zi_lit, zl_lit, zi_add, zi_sub, zi_mul, zi_neg, zi_le, zi_lt, zi_eq, zl_add, zl_sub, zl_mul, zi_i2l, zl_l2i, zb0, zb1, zb0', zb1', zi_c0, zi_c1, zb_c, n_in]
  exact hQ) Q
theorem n_anew2 (xs : List Int32) (sh : List q_Sh) (v w : Nat → Int → Int) (R : Nat → Nat → Option Nat) (hM : LM sh R) (hA : rA v) : ∃ v' w', e66 (zu v 48 18 64) v' ∧ fL65 (zu w 48 19 (bnd v)) w' ∧ ∀ Q : q_H → Prop, q_CallV (GG xs) PP kMod_anew [.ref 48] (sh, zs v, zt w, R) Q = Q (sh, zs v', zt w', R) := by
  obtain ⟨v', w', h1, h2, h3⟩ := n_anew xs sh v w R hM hA
  refine ⟨v', zu w' 48 19 (bnd v), h1.1, fun a a1 a2 => ?_, h3⟩
  funext j
  unfold zu
  rw [h2 a a1 a2]
def okU (l h u d r : Int) : Prop := (1 ≤ l ∧ l ≤ 60) ∧ (l ≤ h ∧ h ≤ 60) ∧ h ≤ l + 3 ∧ (1 ≤ u ∧ u ≤ 3) ∧ (1 ≤ d ∧ d ≤ 3) ∧ (1 ≤ r ∧ r ≤ 3)
/-- the cells behind 'unit' -/
def vUn (v : Nat → Int → Int) (l h u d r : Int) : Nat → Int → Int := zu (zu (zu (zu (zu (zu (zu (zu v 48 0 0) 49 (v 48 2) l) 50 (v 48 2) h) 51 (v 48 2) u) 52 (v 48 2) d) 53 (v 48 2) r) 57 (v 48 2) 3) 48 2 (v 48 2 + 1)
theorem rA_vUn {v : Nat → Int → Int} (hA : rA v) (hz : v 48 2 < 3 → v 56 (v 48 2) = 0) (hn : v 48 2 < 3) {l h u d r : Int} (ok : okU l h u d r) : rA (vUn v l h u d r) := by
  obtain ⟨a1, a2, a3, a4, a5, a6⟩ := hA
  obtain ⟨o1, o2, o3, o4, o5, o6⟩ := ok
  have z := hz hn
  have n2 := a5.2
  refine ⟨fun k h1 h2 => ?_, ⟨fun j h1 h2 => ?_, fun j h1 h2 => ?_⟩, fun k h1 h2 => ?_, fun k h1 h2 => ?_, ?_, fun k h1 h2 => ?_⟩
  · have := a1 k h1 h2
    by_cases c : k = v 48 2
    · subst c; simp [vUn, zu]; omega
    · simp [vUn, zu, c]; omega
  · have := a2.1 j h1 h2
    simp [vUn, zu]; omega
  · have := a2.2 j h1 h2
    simp [vUn, zu]; omega
  · have e : vUn v l h u d r 48 2 = v 48 2 + 1 := by simp [vUn, zu]
    rw [e] at h2
    by_cases c : k = v 48 2
    · subst c; simp [vUn, zu, z]; omega
    · have := a3 k h1 (by omega)
      simp [vUn, zu, c]; omega
  · have := a4 k h1 h2
    simp [vUn, zu]; omega
  · have := a5
    unfold rN at this ⊢
    simp [vUn, zu]; omega
  · have := a6 k h1 h2
    simp [vUn, zu]; omega
theorem n_unit (xs : List Int32) (sh : List q_Sh) (v w : Nat → Int → Int) (R : Nat → Nat → Option Nat) (hM : LM sh R) (hA : rA v) (hz : v 48 2 < 3 → v 56 (v 48 2) = 0) (l h u d r : Int) (r1 : -2147483648 ≤ l ∧ l < 2147483648) (r2 : -2147483648 ≤ h ∧ h < 2147483648) (r3 : -2147483648 ≤ u ∧ u < 2147483648) (r4 : -2147483648 ≤ d ∧ d < 2147483648) (r5 : -2147483648 ≤ r ∧ r < 2147483648) :
    (¬ okU l h u d r → ∀ Q : Int32 → q_H → Prop, q_CallI (GG xs) PP kMod_unit [.ref 48, .int (zi l), .int (zi h), .int (zi u), .int (zi d), .int (zi r)] (sh, zs v, zt w, R) Q = Q (zi 0) (sh, zs (zu v 48 0 1), zt w, R)) ∧
    (okU l h u d r → v 48 2 = 3 → ∀ Q : Int32 → q_H → Prop, q_CallI (GG xs) PP kMod_unit [.ref 48, .int (zi l), .int (zi h), .int (zi u), .int (zi d), .int (zi r)] (sh, zs v, zt w, R) Q = Q (zi 0) (sh, zs (zu v 48 0 2), zt w, R)) ∧
    (okU l h u d r → v 48 2 < 3 → ∃ v' w', e66 (zu (vUn v l h u d r) 48 18 64) v' ∧ fL65 (zu w 48 19 (bnd (vUn v l h u d r))) w' ∧ ∀ Q : Int32 → q_H → Prop, q_CallI (GG xs) PP kMod_unit [.ref 48, .int (zi l), .int (zi h), .int (zi u), .int (zi d), .int (zi r)] (sh, zs v, zt w, R) Q = Q (zi (v 48 2)) (sh, zs v', zt w', R)) := by
  have n2 := hA.2.2.2.2.1.2
  refine ⟨fun c Q => cI (fun Q hQ => ?_) Q, fun c c2 Q => cI (fun Q hQ => ?_) Q, fun c c2 => ?_⟩
  · refine e_Mod_unit xs _ _ _ _ _ _ _ (sh, zs v, zt w, R) ?_
    by_cases c1 : 1 ≤ l ∧ l ≤ 60
    · by_cases c2 : l ≤ h ∧ h ≤ 60
      · by_cases c3 : h ≤ l + 3
        · by_cases c4 : 1 ≤ u ∧ u ≤ 3
          · by_cases c5 : 1 ≤ d ∧ d ≤ 3
            · have c6 : ¬ (1 ≤ r ∧ r ≤ 3) := fun c6 => c ⟨c1, c2, c3, c4, c5, c6⟩
              simp (discharger := first | assumption | omega) [hM, fI, fL, fV, zs_ar, zt_ar, zs_un, zt_un, zn_c, zu_a, zu_e, zu_j, zix, zi_lit, zl_lit, zi_add, zi_sub, zi_mul, zi_neg, zi_le, zi_lt, zi_eq, zl_add, zl_sub, zl_mul, zi_i2l, zl_l2i, zb0, zb1, zb0', zb1', zi_c0, zi_c1, zb_c, n_in, n_fails, c1, c2, c4, c5, c6, i_ltF]
              exact hQ
            · simp (discharger := first | assumption | omega) [hM, fI, fL, fV, zs_ar, zt_ar, zs_un, zt_un, zn_c, zu_a, zu_e, zu_j, zix, zi_lit, zl_lit, zi_add, zi_sub, zi_mul, zi_neg, zi_le, zi_lt, zi_eq, zl_add, zl_sub, zl_mul, zi_i2l, zl_l2i, zb0, zb1, zb0', zb1', zi_c0, zi_c1, zb_c, n_in, n_fails, c1, c2, c4, c5, i_ltF]
              exact hQ
          · simp (discharger := first | assumption | omega) [hM, fI, fL, fV, zs_ar, zt_ar, zs_un, zt_un, zn_c, zu_a, zu_e, zu_j, zix, zi_lit, zl_lit, zi_add, zi_sub, zi_mul, zi_neg, zi_le, zi_lt, zi_eq, zl_add, zl_sub, zl_mul, zi_i2l, zl_l2i, zb0, zb1, zb0', zb1', zi_c0, zi_c1, zb_c, n_in, n_fails, c1, c2, c4, i_ltF]
            exact hQ
        · simp (discharger := first | assumption | omega) [hM, fI, fL, fV, zs_ar, zt_ar, zs_un, zt_un, zn_c, zu_a, zu_e, zu_j, zix, zi_lit, zl_lit, zi_add, zi_sub, zi_mul, zi_neg, zi_le, zi_lt, zi_eq, zl_add, zl_sub, zl_mul, zi_i2l, zl_l2i, zb0, zb1, zb0', zb1', zi_c0, zi_c1, zb_c, n_in, n_fails, c1, c2, i_ltT]
          exact hQ
      · simp (discharger := first | assumption | omega) [hM, fI, fL, fV, zs_ar, zt_ar, zs_un, zt_un, zn_c, zu_a, zu_e, zu_j, zix, zi_lit, zl_lit, zi_add, zi_sub, zi_mul, zi_neg, zi_le, zi_lt, zi_eq, zl_add, zl_sub, zl_mul, zi_i2l, zl_l2i, zb0, zb1, zb0', zb1', zi_c0, zi_c1, zb_c, n_in, n_fails, c1, c2]
        exact hQ
    · simp (discharger := first | assumption | omega) [hM, fI, fL, fV, zs_ar, zt_ar, zs_un, zt_un, zn_c, zu_a, zu_e, zu_j, zix, zi_lit, zl_lit, zi_add, zi_sub, zi_mul, zi_neg, zi_le, zi_lt, zi_eq, zl_add, zl_sub, zl_mul, zi_i2l, zl_l2i, zb0, zb1, zb0', zb1', zi_c0, zi_c1, zb_c, n_in, n_fails, c1]
      exact hQ
  · obtain ⟨o1, o2, o3, o4, o5, o6⟩ := c
    refine e_Mod_unit xs _ _ _ _ _ _ _ (sh, zs v, zt w, R) ?_
    simp (discharger := first | assumption | omega) [hM, fI, fL, fV, zs_ar, zt_ar, zs_un, zt_un, zn_c, zu_a, zu_e, zu_j, zix, zi_lit, zl_lit, zi_add, zi_sub, zi_mul, zi_neg, zi_le, zi_lt, zi_eq, zl_add, zl_sub, zl_mul, zi_i2l, zl_l2i, zb0, zb1, zb0', zb1', zi_c0, zi_c1, zb_c, n_in, n_fails, o1, o2, o4, o5, o6, c2, i_ltF]
    exact hQ
  · have ok := c
    obtain ⟨o1, o2, o3, o4, o5, o6⟩ := c
    obtain ⟨v', w', q1, q2, q3⟩ := n_anew2 xs sh (vUn v l h u d r) w R hM (rA_vUn hA hz c2 ok)
    refine ⟨v', w', q1, q2, fun Q => cI (fun Q hQ => ?_) Q⟩
    have e : v' 48 2 = v 48 2 + 1 := by
      rw [q1 48 (by decide)]
      simp [vUn, zu]
    unfold vUn at q3
    refine e_Mod_unit xs _ _ _ _ _ _ _ (sh, zs v, zt w, R) ?_
    simp (discharger := first | assumption | omega) [hM, fI, fL, fV, zs_ar, zt_ar, zs_un, zt_un, zn_c, zu_a, zu_e, zu_j, zix, zi_lit, zl_lit, zi_add, zi_sub, zi_mul, zi_neg, zi_le, zi_lt, zi_eq, zl_add, zl_sub, zl_mul, zi_i2l, zl_l2i, zb0, zb1, zb0', zb1', zi_c0, zi_c1, zb_c, n_in, o1, o2, o4, o5, o6, i_ltF, i_eqF, q3, e]
    simpa using hQ
