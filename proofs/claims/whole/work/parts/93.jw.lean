/-! The reference's joint plan: the ways of an hour. -/
/-- whether a set of the reference can give a choice, as the table has it if that is asked -/
abbrev rok (v : Nat → Int → Int) (u c : Int) : Prop := (u < v 48 2 ∧ (c = 0 ∨ c - 1 ≤ v 50 u - v 49 u)) ∨ (v 48 2 ≤ u ∧ c = 0)
abbrev ron (v : Nat → Int → Int) (as : Prop) [Decidable as] (h u c : Int) : Prop := ¬ as ∨ v 48 2 ≤ u ∨ (v 60 (8 * u + h) ≠ 0 ↔ 0 < c)
def rto (v : Nat → Int → Int) (u c : Int) : Int := if c = 0 ∨ v 48 2 ≤ u then 0 else v 49 u + c - 1
def rmo (v : Nat → Int → Int) (u c : Int) : Int := if c = 0 ∨ v 48 2 ≤ u then 0 else v 50 u
theorem l_fw25 (xs : List Int32) (sh : List q_Sh) (v w : Nat → Int → Int) (R : Nat → Nat → Option Nat) (hM : LM sh R) (hA : rA v) (h t u s m : Int) (as g : Prop) [Decidable as] [Decidable g] (hh : 0 ≤ h ∧ h < 8) (ht : 0 ≤ t ∧ t < 125) (hu : 0 ≤ u ∧ u < 3) (hw : 0 ≤ v 48 24 ∧ v 48 24 < 125) (F : Option Value → q_H → Prop)
    (hn : q_Rt (GG xs) PP 47 F 25 [some (.ref 48), some (.int (zi h)), some (.int (zb as)), some (.int (zi t)), some (.int (zi (s + rto v u (zdg t u)))), some (.int (zi (m + rmo v u (zdg t u)))), some (.int (zb (g ∧ rok v u (zdg t u) ∧ ron v as h u (zdg t u)))), some (.int (zi (u + 1))), none] [] (sh, zs (zu v 68 (3 * v 48 24 + u) (zdg t u)), zt w, R)) :
    q_Rt (GG xs) PP 47 F 25 [some (.ref 48), some (.int (zi h)), some (.int (zb as)), some (.int (zi t)), some (.int (zi s)), some (.int (zi m)), some (.int (zb g)), some (.int (zi u)), none] [] (sh, zs v, zt w, R) := by
  obtain ⟨a1, a2, a3, a4, a5, a6⟩ := hA
  obtain ⟨r1, r2, r3, r4, r5, r6, r7⟩ := a1 u hu.1 hu.2
  have n2 := a5.2
  have z := zdg_rng t u
  have tb := a6 (8 * u + h) (by omega) (by omega)
  have z0 : t / 25 = zdg t 0 := by unfold zdg; rw [if_pos rfl]; omega
  have z1 : t / 5 - t / 5 / 5 * 5 = zdg t 1 := by unfold zdg; rw [if_neg (by omega), if_pos rfl]; omega
  have z2 : t - t / 5 * 5 = zdg t 2 := by unfold zdg; rw [if_neg (by omega), if_neg (by omega)]; omega
  have K225 : q_Rt (GG xs) PP 47 F 225 [some (.ref 48), some (.int (zi h)), some (.int (zb as)), some (.int (zi t)), some (.int (zi (s + rto v u (zdg t u)))), none, some (.int (zb (g ∧ rok v u (zdg t u) ∧ ron v as h u (zdg t u)))), some (.int (zi u)), some (.int (zi (zdg t u)))] [.int (zi (rmo v u (zdg t u))), .int (zi m)] (sh, zs v, zt w, R) := by
    refine b_Mod_findWays_225 xs F _ _ _ _ _ _ _ _ _ _ (sh, zs v, zt w, R) ?_
    simp (discharger := first | assumption | omega) [hM, fI, fL, fV, zs_ar, zt_ar, zs_un, zt_un, zn_c, zu_a, zu_e, zu_j, zix, zi_lit, zl_lit, zi_add, zi_sub, zi_mul, zi_neg, zi_le, zi_lt, zi_eq, zl_add, zl_sub, zl_mul, zi_i2l, zl_l2i, zb0, zb1, zb0', zb1', zi_c0, zi_c1, zb_c]
    exact hn
  have K195 : q_Rt (GG xs) PP 47 F 195 [some (.ref 48), some (.int (zi h)), some (.int (zb as)), some (.int (zi t)), none, some (.int (zi m)), some (.int (zb (g ∧ rok v u (zdg t u) ∧ ron v as h u (zdg t u)))), some (.int (zi u)), some (.int (zi (zdg t u)))] [.int (zi (rto v u (zdg t u))), .int (zi s)] (sh, zs v, zt w, R) := by
    refine b_Mod_findWays_195 xs F _ _ _ _ _ _ _ _ _ _ (sh, zs v, zt w, R) ?_
    unfold rmo at K225
    by_cases c0 : zdg t u = 0
    · rw [if_pos (Or.inl c0)] at K225
      rw [c0] at K225 ⊢
      simp (discharger := first | assumption | omega) [hM, fI, fL, fV, zs_ar, zt_ar, zs_un, zt_un, zn_c, zu_a, zu_e, zu_j, zix, zi_lit, zl_lit, zi_add, zi_sub, zi_mul, zi_neg, zi_le, zi_lt, zi_eq, zl_add, zl_sub, zl_mul, zi_i2l, zl_l2i, zb0, zb1, zb0', zb1', zi_c0, zi_c1, zb_c, i_leT, i_leF, i_ltT, i_ltF, i_eqT, i_eqF]
      exact K225
    · by_cases cu : v 48 2 ≤ u
      · rw [if_pos (Or.inr cu)] at K225
        simp (discharger := first | assumption | omega) [hM, fI, fL, fV, zs_ar, zt_ar, zs_un, zt_un, zn_c, zu_a, zu_e, zu_j, zix, zi_lit, zl_lit, zi_add, zi_sub, zi_mul, zi_neg, zi_le, zi_lt, zi_eq, zl_add, zl_sub, zl_mul, zi_i2l, zl_l2i, zb0, zb1, zb0', zb1', zi_c0, zi_c1, zb_c, c0, i_leT, i_leF, i_ltT, i_ltF, i_eqT, i_eqF]
        exact K225
      · rw [if_neg (by omega)] at K225
        simp (discharger := first | assumption | omega) [hM, fI, fL, fV, zs_ar, zt_ar, zs_un, zt_un, zn_c, zu_a, zu_e, zu_j, zix, zi_lit, zl_lit, zi_add, zi_sub, zi_mul, zi_neg, zi_le, zi_lt, zi_eq, zl_add, zl_sub, zl_mul, zi_i2l, zl_l2i, zb0, zb1, zb0', zb1', zi_c0, zi_c1, zb_c, c0, i_leT, i_leF, i_ltT, i_ltF, i_eqT, i_eqF]
        exact K225
  have K161 : q_Rt (GG xs) PP 47 F 161 [some (.ref 48), some (.int (zi h)), some (.int (zb as)), some (.int (zi t)), some (.int (zi s)), some (.int (zi m)), none, some (.int (zi u)), some (.int (zi (zdg t u)))] [.int (zb (g ∧ rok v u (zdg t u) ∧ ron v as h u (zdg t u)))] (sh, zs v, zt w, R) := by
    refine b_Mod_findWays_161 xs F _ _ _ _ _ _ _ _ _ (sh, zs v, zt w, R) ?_
    unfold rto at K195
    by_cases c0 : zdg t u = 0
    · rw [if_pos (Or.inl c0)] at K195
      rw [c0] at K195 ⊢
      simp (discharger := first | assumption | omega) [hM, fI, fL, fV, zs_ar, zt_ar, zs_un, zt_un, zn_c, zu_a, zu_e, zu_j, zix, zi_lit, zl_lit, zi_add, zi_sub, zi_mul, zi_neg, zi_le, zi_lt, zi_eq, zl_add, zl_sub, zl_mul, zi_i2l, zl_l2i, zb0, zb1, zb0', zb1', zi_c0, zi_c1, zb_c, i_leT, i_leF, i_ltT, i_ltF, i_eqT, i_eqF]
      exact K195
    · by_cases cu : v 48 2 ≤ u
      · rw [if_pos (Or.inr cu)] at K195
        simp (discharger := first | assumption | omega) [hM, fI, fL, fV, zs_ar, zt_ar, zs_un, zt_un, zn_c, zu_a, zu_e, zu_j, zix, zi_lit, zl_lit, zi_add, zi_sub, zi_mul, zi_neg, zi_le, zi_lt, zi_eq, zl_add, zl_sub, zl_mul, zi_i2l, zl_l2i, zb0, zb1, zb0', zb1', zi_c0, zi_c1, zb_c, c0, i_leT, i_leF, i_ltT, i_ltF, i_eqT, i_eqF]
        exact K195
      · rw [if_neg (by omega)] at K195
        simp (discharger := first | assumption | omega) [hM, fI, fL, fV, zs_ar, zt_ar, zs_un, zt_un, zn_c, zu_a, zu_e, zu_j, zix, zi_lit, zl_lit, zi_add, zi_sub, zi_mul, zi_neg, zi_le, zi_lt, zi_eq, zl_add, zl_sub, zl_mul, zi_i2l, zl_l2i, zb0, zb1, zb0', zb1', zi_c0, zi_c1, zb_c, c0, i_leT, i_leF, i_ltT, i_ltF, i_eqT, i_eqF]
        exact K195
  have K116 : ∀ x : Int32, x = zb (g ∧ rok v u (zdg t u)) → q_Rt (GG xs) PP 47 F 116 [some (.ref 48), some (.int (zi h)), some (.int (zb as)), some (.int (zi t)), some (.int (zi s)), some (.int (zi m)), none, some (.int (zi u)), some (.int (zi (zdg t u)))] [.int x] (sh, zs v, zt w, R) := by
    intro x hx
    subst hx
    refine b_Mod_findWays_116 xs F _ _ _ _ _ _ _ _ _ (sh, zs v, zt w, R) ?_
    by_cases p : g ∧ rok v u (zdg t u)
    · have fin : ∀ y : Int32, y = zb (ron v as h u (zdg t u)) → q_Rt (GG xs) PP 47 F 161 [some (.ref 48), some (.int (zi h)), some (.int (zb as)), some (.int (zi t)), some (.int (zi s)), some (.int (zi m)), none, some (.int (zi u)), some (.int (zi (zdg t u)))] [.int y] (sh, zs v, zt w, R) := by
        intro y hy
        rw [hy, show zb (ron v as h u (zdg t u)) = zb (g ∧ rok v u (zdg t u) ∧ ron v as h u (zdg t u)) from zb_iff ⟨fun q => ⟨p.1, p.2, q⟩, fun q => q.2.2⟩]
        exact K161
      rw [zbTr p]
      by_cases qa : as
      · rw [zbTr qa] at *
        by_cases cu : v 48 2 ≤ u
        · have K := fin (zi 1) (zbT (Or.inr (Or.inl cu)))
          simp (discharger := first | assumption | omega) [hM, fI, fL, fV, zs_ar, zt_ar, zs_un, zt_un, zn_c, zu_a, zu_e, zu_j, zix, zi_lit, zl_lit, zi_add, zi_sub, zi_mul, zi_neg, zi_le, zi_lt, zi_eq, zl_add, zl_sub, zl_mul, zi_i2l, zl_l2i, zb0, zb1, zb0', zb1', zi_c0, zi_c1, zb_c, i_leT, i_leF, i_ltT, i_ltF, i_eqT, i_eqF]
          exact K
        · by_cases on : v 60 (8 * u + h) = 0
          · by_cases c0 : zdg t u ≤ 0
            · have K := fin (zi 1) (zbT (Or.inr (Or.inr (by constructor <;> (intro q; omega)))))
              simp (discharger := first | assumption | omega) [hM, fI, fL, fV, zs_ar, zt_ar, zs_un, zt_un, zn_c, zu_a, zu_e, zu_j, zix, zi_lit, zl_lit, zi_add, zi_sub, zi_mul, zi_neg, zi_le, zi_lt, zi_eq, zl_add, zl_sub, zl_mul, zi_i2l, zl_l2i, zb0, zb1, zb0', zb1', zi_c0, zi_c1, zb_c, n_isOn, on, c0, zbFa (p := False) (fun q => q), i_leT, i_leF, i_ltT, i_ltF, i_eqT, i_eqF]
              exact K
            · have K := fin (zi 0) (zbF (fun q => by
                rcases q with q | q | q
                · exact q qa
                · omega
                · exact (q.mpr (by omega)) on))
              simp (discharger := first | assumption | omega) [hM, fI, fL, fV, zs_ar, zt_ar, zs_un, zt_un, zn_c, zu_a, zu_e, zu_j, zix, zi_lit, zl_lit, zi_add, zi_sub, zi_mul, zi_neg, zi_le, zi_lt, zi_eq, zl_add, zl_sub, zl_mul, zi_i2l, zl_l2i, zb0, zb1, zb0', zb1', zi_c0, zi_c1, zb_c, n_isOn, on, c0, zbFa (p := False) (fun q => q), i_leT, i_leF, i_ltT, i_ltF, i_eqT, i_eqF]
              exact K
          · by_cases c0 : zdg t u ≤ 0
            · have K := fin (zi 0) (zbF (fun q => by
                rcases q with q | q | q
                · exact q qa
                · omega
                · have := q.mp on
                  omega))
              simp (discharger := first | assumption | omega) [hM, fI, fL, fV, zs_ar, zt_ar, zs_un, zt_un, zn_c, zu_a, zu_e, zu_j, zix, zi_lit, zl_lit, zi_add, zi_sub, zi_mul, zi_neg, zi_le, zi_lt, zi_eq, zl_add, zl_sub, zl_mul, zi_i2l, zl_l2i, zb0, zb1, zb0', zb1', zi_c0, zi_c1, zb_c, n_isOn, on, c0, zbTr (p := True) trivial, i_leT, i_leF, i_ltT, i_ltF, i_eqT, i_eqF]
              exact K
            · have K := fin (zi 1) (zbT (Or.inr (Or.inr ⟨fun _ => by omega, fun _ => on⟩)))
              simp (discharger := first | assumption | omega) [hM, fI, fL, fV, zs_ar, zt_ar, zs_un, zt_un, zn_c, zu_a, zu_e, zu_j, zix, zi_lit, zl_lit, zi_add, zi_sub, zi_mul, zi_neg, zi_le, zi_lt, zi_eq, zl_add, zl_sub, zl_mul, zi_i2l, zl_l2i, zb0, zb1, zb0', zb1', zi_c0, zi_c1, zb_c, n_isOn, on, c0, zbTr (p := True) trivial, i_leT, i_leF, i_ltT, i_ltF, i_eqT, i_eqF]
              exact K
      · have K := fin (zi 1) (zbT (Or.inl qa))
        rw [zbFa qa] at *
        simp (discharger := first | assumption | omega) [hM, fI, fL, fV, zs_ar, zt_ar, zs_un, zt_un, zn_c, zu_a, zu_e, zu_j, zix, zi_lit, zl_lit, zi_add, zi_sub, zi_mul, zi_neg, zi_le, zi_lt, zi_eq, zl_add, zl_sub, zl_mul, zi_i2l, zl_l2i, zb0, zb1, zb0', zb1', zi_c0, zi_c1, zb_c, i_leT, i_leF, i_ltT, i_ltF, i_eqT, i_eqF]
        exact K
    · rw [zbFa p]
      have K := K161
      rw [zbFa (p := g ∧ rok v u (zdg t u) ∧ ron v as h u (zdg t u)) (fun q => p ⟨q.1, q.2.1⟩)] at K
      simp (discharger := first | assumption | omega) [hM, fI, fL, fV, zs_ar, zt_ar, zs_un, zt_un, zn_c, zu_a, zu_e, zu_j, zix, zi_lit, zl_lit, zi_add, zi_sub, zi_mul, zi_neg, zi_le, zi_lt, zi_eq, zl_add, zl_sub, zl_mul, zi_i2l, zl_l2i, zb0, zb1, zb0', zb1', zi_c0, zi_c1, zb_c, i_leT, i_leF, i_ltT, i_ltF, i_eqT, i_eqF]
      exact K
  have K60 : q_Rt (GG xs) PP 47 F 60 [some (.ref 48), some (.int (zi h)), some (.int (zb as)), some (.int (zi t)), some (.int (zi s)), some (.int (zi m)), some (.int (zb g)), some (.int (zi u)), none] [.int (zi (zdg t u))] (sh, zs v, zt w, R) := by
    refine b_Mod_findWays_60 xs F _ _ _ _ _ _ _ _ _ (sh, zs v, zt w, R) ?_
    by_cases p : g
    · have k1 := fun q => K116 (zi 1) (zbT (p := g ∧ rok v u (zdg t u)) q)
      have k0 := fun q => K116 (zi 0) (zbF (p := g ∧ rok v u (zdg t u)) q)
      rw [zbTr p]
      by_cases cu : v 48 2 ≤ u
      · by_cases c0 : zdg t u = 0
        · have K := k1 ⟨p, Or.inr ⟨cu, c0⟩⟩
          rw [c0] at K ⊢
          simp (discharger := first | assumption | omega) [hM, fI, fL, fV, zs_ar, zt_ar, zs_un, zt_un, zn_c, zu_a, zu_e, zu_j, zix, zi_lit, zl_lit, zi_add, zi_sub, zi_mul, zi_neg, zi_le, zi_lt, zi_eq, zl_add, zl_sub, zl_mul, zi_i2l, zl_l2i, zb0, zb1, zb0', zb1', zi_c0, zi_c1, zb_c, i_leT, i_leF, i_ltT, i_ltF, i_eqT, i_eqF]
          exact K
        · have K := k0 (fun q => by rcases q.2 with q | q <;> omega)
          simp (discharger := first | assumption | omega) [hM, fI, fL, fV, zs_ar, zt_ar, zs_un, zt_un, zn_c, zu_a, zu_e, zu_j, zix, zi_lit, zl_lit, zi_add, zi_sub, zi_mul, zi_neg, zi_le, zi_lt, zi_eq, zl_add, zl_sub, zl_mul, zi_i2l, zl_l2i, zb0, zb1, zb0', zb1', zi_c0, zi_c1, zb_c, c0, i_leT, i_leF, i_ltT, i_ltF, i_eqT, i_eqF]
          exact K
      · by_cases c0 : zdg t u = 0
        · have K := k1 ⟨p, Or.inl ⟨by omega, Or.inl c0⟩⟩
          rw [c0] at K ⊢
          simp (discharger := first | assumption | omega) [hM, fI, fL, fV, zs_ar, zt_ar, zs_un, zt_un, zn_c, zu_a, zu_e, zu_j, zix, zi_lit, zl_lit, zi_add, zi_sub, zi_mul, zi_neg, zi_le, zi_lt, zi_eq, zl_add, zl_sub, zl_mul, zi_i2l, zl_l2i, zb0, zb1, zb0', zb1', zi_c0, zi_c1, zb_c, i_leT, i_leF, i_ltT, i_ltF, i_eqT, i_eqF]
          exact K
        · by_cases c1 : zdg t u - 1 ≤ v 50 u - v 49 u
          · have K := k1 ⟨p, Or.inl ⟨by omega, Or.inr c1⟩⟩
            simp (discharger := first | assumption | omega) [hM, fI, fL, fV, zs_ar, zt_ar, zs_un, zt_un, zn_c, zu_a, zu_e, zu_j, zix, zi_lit, zl_lit, zi_add, zi_sub, zi_mul, zi_neg, zi_le, zi_lt, zi_eq, zl_add, zl_sub, zl_mul, zi_i2l, zl_l2i, zb0, zb1, zb0', zb1', zi_c0, zi_c1, zb_c, c0, i_leT, i_leF, i_ltT, i_ltF, i_eqT, i_eqF]
            exact K
          · have K := k0 (fun q => by rcases q.2 with q | q <;> omega)
            simp (discharger := first | assumption | omega) [hM, fI, fL, fV, zs_ar, zt_ar, zs_un, zt_un, zn_c, zu_a, zu_e, zu_j, zix, zi_lit, zl_lit, zi_add, zi_sub, zi_mul, zi_neg, zi_le, zi_lt, zi_eq, zl_add, zl_sub, zl_mul, zi_i2l, zl_l2i, zb0, zb1, zb0', zb1', zi_c0, zi_c1, zb_c, c0, i_leT, i_leF, i_ltT, i_ltF, i_eqT, i_eqF]
            exact K
    · have K := K116 (zi 0) (zbF (fun q => p q.1))
      rw [zbFa p]
      simp (discharger := first | assumption | omega) [hM, fI, fL, fV, zs_ar, zt_ar, zs_un, zt_un, zn_c, zu_a, zu_e, zu_j, zix, zi_lit, zl_lit, zi_add, zi_sub, zi_mul, zi_neg, zi_le, zi_lt, zi_eq, zl_add, zl_sub, zl_mul, zi_i2l, zl_l2i, zb0, zb1, zb0', zb1', zi_c0, zi_c1, zb_c, i_leT, i_leF, i_ltT, i_ltF, i_eqT, i_eqF]
      exact K
  refine b_Mod_findWays_25 xs F _ _ _ _ _ _ _ _ (sh, zs v, zt w, R) ?_
  obtain rfl | rfl | rfl : u = 0 ∨ u = 1 ∨ u = 2 := by omega
  · simp (discharger := first | assumption | omega) [fI, fL, fV, zs_ar, zt_ar, zs_un, zt_un, zn_c, zu_a, zu_e, zu_j, zix, zi_lit, zl_lit, zi_add, zi_sub, zi_mul, zi_neg, zi_le, zi_lt, zi_eq, zl_add, zl_sub, zl_mul, zi_i2l, zl_l2i, zb0, zb1, zb0', zb1', zi_c0, zi_c1, zb_c, zi_div, z0, i_leT, i_leF, i_ltT, i_ltF, i_eqT, i_eqF]
    exact K60
  · simp (discharger := first | assumption | omega) [fI, fL, fV, zs_ar, zt_ar, zs_un, zt_un, zn_c, zu_a, zu_e, zu_j, zix, zi_lit, zl_lit, zi_add, zi_sub, zi_mul, zi_neg, zi_le, zi_lt, zi_eq, zl_add, zl_sub, zl_mul, zi_i2l, zl_l2i, zb0, zb1, zb0', zb1', zi_c0, zi_c1, zb_c, zi_div, z1, i_leT, i_leF, i_ltT, i_ltF, i_eqT, i_eqF]
    exact K60
  · simp (discharger := first | assumption | omega) [fI, fL, fV, zs_ar, zt_ar, zs_un, zt_un, zn_c, zu_a, zu_e, zu_j, zix, zi_lit, zl_lit, zi_add, zi_sub, zi_mul, zi_neg, zi_le, zi_lt, zi_eq, zl_add, zl_sub, zl_mul, zi_i2l, zl_l2i, zb0, zb1, zb0', zb1', zi_c0, zi_c1, zb_c, zi_div, z2, i_leT, i_leF, i_ltT, i_ltF, i_eqT, i_eqF]
    exact K60
theorem l_fwE (xs : List Int32) (sh : List q_Sh) (v w : Nat → Int → Int) (R : Nat → Nat → Option Nat) (hM : LM sh R) (hA : rA v) (h t S M : Int) (as G : Prop) [Decidable as] [Decidable G] (hh : 0 ≤ h ∧ h < 8) (ht : 0 ≤ t ∧ t < 125) (hS : 0 ≤ S ∧ S ≤ 200) (hMM : 0 ≤ M ∧ M ≤ 200) (hw : 0 ≤ v 48 24 ∧ v 48 24 < 125) (F : Option Value → q_H → Prop)
    (hk : q_Rt (GG xs) PP 47 F 7 [some (.ref 48), some (.int (zi h)), some (.int (zb as)), some (.int (zi (t + 1))), none, none, none, none, none] [] (sh, zs (zu v 48 24 (v 48 24 + (if G ∧ S = v 58 h ∧ v 59 h ≤ M - S then 1 else 0))), zt w, R)) :
    q_Rt (GG xs) PP 47 F 25 [some (.ref 48), some (.int (zi h)), some (.int (zb as)), some (.int (zi t)), some (.int (zi S)), some (.int (zi M)), some (.int (zb G)), some (.int (zi 3)), none] [] (sh, zs v, zt w, R) := by
  have dm := hA.2.2.2.1 h hh.1 hh.2
  refine b_Mod_findWays_25 xs F _ _ _ _ _ _ _ _ (sh, zs v, zt w, R) ?_
  by_cases good : G
  · rw [zbTr good]
    by_cases c1 : S = v 58 h
    · by_cases c2 : v 59 h ≤ M - S
      · rw [if_pos ⟨good, c1, c2⟩] at hk
        simp (discharger := first | assumption | omega) [hM, fI, fL, fV, zs_ar, zt_ar, zs_un, zt_un, zn_c, zu_a, zu_e, zu_j, zix, zi_lit, zl_lit, zi_add, zi_sub, zi_mul, zi_neg, zi_le, zi_lt, zi_eq, zl_add, zl_sub, zl_mul, zi_i2l, zl_l2i, zb0, zb1, zb0', zb1', zi_c0, zi_c1, zb_c, i_leT, i_leF, i_ltT, i_ltF, i_eqT, i_eqF]
        exact hk
      · rw [if_neg (fun q => c2 q.2.2), Int.add_zero] at hk
        simp (discharger := first | assumption | omega) [hM, fI, fL, fV, zs_ar, zt_ar, zs_un, zt_un, zn_c, zu_a, zu_e, zu_j, zix, zi_lit, zl_lit, zi_add, zi_sub, zi_mul, zi_neg, zi_le, zi_lt, zi_eq, zl_add, zl_sub, zl_mul, zi_i2l, zl_l2i, zb0, zb1, zb0', zb1', zi_c0, zi_c1, zb_c, i_leT, i_leF, i_ltT, i_ltF, i_eqT, i_eqF]
        exact hk
    · rw [if_neg (fun q => c1 q.2.1), Int.add_zero] at hk
      simp (discharger := first | assumption | omega) [hM, fI, fL, fV, zs_ar, zt_ar, zs_un, zt_un, zn_c, zu_a, zu_e, zu_j, zix, zi_lit, zl_lit, zi_add, zi_sub, zi_mul, zi_neg, zi_le, zi_lt, zi_eq, zl_add, zl_sub, zl_mul, zi_i2l, zl_l2i, zb0, zb1, zb0', zb1', zi_c0, zi_c1, zb_c, i_leT, i_leF, i_ltT, i_ltF, i_eqT, i_eqF]
      exact hk
  · rw [zbFa good]
    rw [if_neg (fun q => good q.1), Int.add_zero] at hk
    simp (discharger := first | assumption | omega) [hM, fI, fL, fV, zs_ar, zt_ar, zs_un, zt_un, zn_c, zu_a, zu_e, zu_j, zix, zi_lit, zl_lit, zi_add, zi_sub, zi_mul, zi_neg, zi_le, zi_lt, zi_eq, zl_add, zl_sub, zl_mul, zi_i2l, zl_l2i, zb0, zb1, zb0', zb1', zi_c0, zi_c1, zb_c, i_leT, i_leF, i_ltT, i_ltF, i_eqT, i_eqF]
    exact hk
/-- a code fits an hour, as the reference has it -/
abbrev RFIT (v : Nat → Int → Int) (as : Prop) [Decidable as] (h t : Int) : Prop := ((rok v 0 (zdg t 0) ∧ ron v as h 0 (zdg t 0)) ∧ (rok v 1 (zdg t 1) ∧ ron v as h 1 (zdg t 1)) ∧ (rok v 2 (zdg t 2) ∧ ron v as h 2 (zdg t 2))) ∧ rto v 0 (zdg t 0) + rto v 1 (zdg t 1) + rto v 2 (zdg t 2) = v 58 h ∧ v 59 h ≤ (rmo v 0 (zdg t 0) + rmo v 1 (zdg t 1) + rmo v 2 (zdg t 2)) - (rto v 0 (zdg t 0) + rto v 1 (zdg t 1) + rto v 2 (zdg t 2))
/-- a code written in the ways -/
def wrc (v : Nat → Int → Int) (t : Int) : Nat → Int → Int := zu (zu (zu v 68 (3 * v 48 24) (zdg t 0)) 68 (3 * v 48 24 + 1) (zdg t 1)) 68 (3 * v 48 24 + 2) (zdg t 2)
def fwn (v : Nat → Int → Int) (as : Prop) [Decidable as] (h : Int) : Nat → Nat → Int → Int
  | 0 => zu v 48 24 0
  | t + 1 => zu (wrc (fwn v as h t) t) 48 24 (fwn v as h t 48 24 + (if RFIT v as h t then 1 else 0))
theorem fwn_row {v : Nat → Int → Int} {as : Prop} [Decidable as] {h : Int} {b : Nat} (h1 : b ≠ 48) (h2 : b ≠ 68) : ∀ n, fwn v as h n b = v b
  | 0 => zu_row h1
  | n + 1 => by
    unfold fwn wrc
    rw [zu_row h1, zu_row h2, zu_row h2, zu_row h2]
    exact fwn_row h1 h2 n
theorem fwn_48 {v : Nat → Int → Int} {as : Prop} [Decidable as] {h j : Int} (hj : j ≠ 24) : ∀ n, fwn v as h n 48 j = v 48 j
  | 0 => zu_j hj
  | n + 1 => by
    unfold fwn wrc
    rw [zu_j hj, zu_a (by omega), zu_a (by omega), zu_a (by omega)]
    exact fwn_48 hj n
theorem fwn_n {v : Nat → Int → Int} {as : Prop} [Decidable as] {h : Int} : ∀ n : Nat, 0 ≤ fwn v as h n 48 24 ∧ fwn v as h n 48 24 ≤ n
  | 0 => by
    unfold fwn
    rw [zu_e rfl]
    omega
  | n + 1 => by
    have ih := fwn_n (v := v) (as := as) (h := h) n
    unfold fwn
    rw [zu_e rfl]
    split <;> omega
/-- but the ways the same -/
def sWy (v v' : Nat → Int → Int) : Prop := (∀ b, b ≠ 48 → b ≠ 68 → v' b = v b) ∧ ∀ j, j ≠ 24 → v' 48 j = v 48 j
theorem fwn_sWy (v : Nat → Int → Int) (as : Prop) [Decidable as] (h : Int) (n : Nat) : sWy v (fwn v as h n) := ⟨fun b h1 h2 => fwn_row h1 h2 n, fun j hj => fwn_48 hj n⟩
theorem sWy_A {v v' : Nat → Int → Int} (s : sWy v v') (hA : rA v) : rA v' := by
  obtain ⟨a1, a2, a3, a4, a5, a6⟩ := hA
  refine ⟨fun u h1 h2 => ?_, ?_, fun u h1 h2 => ?_, fun k h1 h2 => ?_, ?_, fun u h1 h2 => ?_⟩
  · rw [s.1 49 (by decide) (by decide), s.1 50 (by decide) (by decide), s.1 51 (by decide) (by decide), s.1 52 (by decide) (by decide), s.1 53 (by decide) (by decide), s.1 56 (by decide) (by decide), s.1 57 (by decide) (by decide)]
    exact a1 u h1 h2
  · unfold rC
    rw [s.1 54 (by decide) (by decide), s.1 55 (by decide) (by decide)]
    exact a2
  · rw [s.2 2 (by decide)] at h2
    rw [s.1 49 (by decide) (by decide), s.1 50 (by decide) (by decide), s.1 51 (by decide) (by decide), s.1 52 (by decide) (by decide), s.1 53 (by decide) (by decide), s.1 56 (by decide) (by decide), s.1 57 (by decide) (by decide)]
    exact a3 u h1 h2
  · rw [s.1 58 (by decide) (by decide), s.1 59 (by decide) (by decide), s.1 63 (by decide) (by decide)]
    exact a4 k h1 h2
  · unfold rN
    rw [s.2 1 (by decide), s.2 2 (by decide)]
    exact a5
  · rw [s.1 60 (by decide) (by decide)]
    exact a6 u h1 h2
theorem sWy_RFIT {v v' : Nat → Int → Int} (s : sWy v v') {as : Prop} [Decidable as] {h t : Int} : RFIT v' as h t ↔ RFIT v as h t := by
  unfold RFIT rok ron rto rmo
  rw [s.1 49 (by decide) (by decide), s.1 50 (by decide) (by decide), s.1 58 (by decide) (by decide), s.1 59 (by decide) (by decide), s.1 60 (by decide) (by decide), s.2 2 (by decide)]
theorem n_findWays (xs : List Int32) (sh : List q_Sh) (v w : Nat → Int → Int) (R : Nat → Nat → Option Nat) (hM : LM sh R) (hA : rA v) (h : Int) (as : Prop) [Decidable as] (hh : 0 ≤ h ∧ h < 8) (Q : q_H → Prop) : q_CallV (GG xs) PP kMod_findWays [.ref 48, .int (zi h), .int (zb as)] (sh, zs v, zt w, R) Q = Q (sh, zs (fwn v as h 125), zt w, R) := cV (fun Q hQ => by
  have L : ∀ t : Int, 0 ≤ t → t ≤ 125 → q_Rt (GG xs) PP 47 (q_FV Q) 7 [some (.ref 48), some (.int (zi h)), some (.int (zb as)), some (.int (zi t)), none, none, none, none, none] [] (sh, zs (fwn v as h t.toNat), zt w, R) := by
    refine zdown _ ?_ (fun t h1 h2 ih => ?_)
    · refine b_Mod_findWays_7 xs _ _ _ _ _ _ ?_
      simp (discharger := first | assumption | omega) [fI, fL, fV, zs_ar, zt_ar, zs_un, zt_un, zn_c, zu_a, zu_e, zu_j, zix, zi_lit, zl_lit, zi_add, zi_sub, zi_mul, zi_neg, zi_le, zi_lt, zi_eq, zl_add, zl_sub, zl_mul, zi_i2l, zl_l2i, zb0, zb1, zb0', zb1', zi_c0, zi_c1, zb_c, i_leT, i_leF, i_ltT, i_ltF, i_eqT, i_eqF]
      exact hQ
    · rw [show (t + 1).toNat = t.toNat + 1 by omega] at ih
      unfold fwn at ih
      rw [show ((t.toNat : Nat) : Int) = t by omega] at ih
      have s := fwn_sWy v as h t.toNat
      have nn := fwn_n (v := v) (as := as) (h := h) t.toNat
      have hA' := sWy_A s hA
      have fit := sWy_RFIT s (as := as) (h := h) (t := t)
      generalize fwn v as h t.toNat = v1 at *
      have nw : 0 ≤ v1 48 24 ∧ v1 48 24 < 125 := by omega
      have zr := fun u => zdg_rng t u
      have sA : ∀ x e, rA (zu v1 68 e x) := fun x e => sWy_A (v := v1) ⟨fun b b1 b2 => zu_row b2, fun j hj => zu_a (by omega)⟩ hA'
      have q1 : sWy v1 (zu v1 68 (3 * v1 48 24 + 0) (zdg t 0)) := ⟨fun b b1 b2 => zu_row b2, fun j hj => zu_a (by omega)⟩
      have q2 : sWy v1 (zu (zu v1 68 (3 * v1 48 24 + 0) (zdg t 0)) 68 (3 * v1 48 24 + 1) (zdg t 1)) := ⟨fun b b1 b2 => (zu_row b2).trans (zu_row b2), fun j hj => (zu_a (by omega)).trans (zu_a (by omega))⟩
      have w1 : zu v1 68 (3 * v1 48 24 + 0) (zdg t 0) 48 24 = v1 48 24 := zu_a (by omega)
      have w2 : zu (zu v1 68 (3 * v1 48 24 + 0) (zdg t 0)) 68 (3 * v1 48 24 + 1) (zdg t 1) 48 24 = v1 48 24 := by rw [zu_a (by omega), zu_a (by omega)]
      have e1 : ∀ {x}, sWy v1 x → ∀ u c, rto x u c = rto v1 u c ∧ rmo x u c = rmo v1 u c := fun s u c => by
        unfold rto rmo
        rw [s.1 49 (by decide) (by decide), s.1 50 (by decide) (by decide), s.2 2 (by decide)]
        exact ⟨rfl, rfl⟩
      have e2 : ∀ {x}, sWy v1 x → ∀ u c, (rok x u c ∧ ron x as h u c) ↔ (rok v1 u c ∧ ron v1 as h u c) := fun s u c => by
        unfold rok ron
        rw [s.1 49 (by decide) (by decide), s.1 50 (by decide) (by decide), s.1 60 (by decide) (by decide), s.2 2 (by decide)]
      have K := l_fw25 xs sh v1 w R hM hA' h t 0 0 0 as True hh ⟨h1, h2⟩ (by omega) nw (q_FV Q) (by
        have K1 := l_fw25 xs sh (zu v1 68 (3 * v1 48 24 + 0) (zdg t 0)) w R hM (sWy_A q1 hA') h t 1 (0 + rto v1 0 (zdg t 0)) (0 + rmo v1 0 (zdg t 0)) as (True ∧ rok v1 0 (zdg t 0) ∧ ron v1 as h 0 (zdg t 0)) hh ⟨h1, h2⟩ (by omega) (by rw [w1]; exact nw) (q_FV Q) (by
          have K2 := l_fw25 xs sh (zu (zu v1 68 (3 * v1 48 24 + 0) (zdg t 0)) 68 (3 * v1 48 24 + 1) (zdg t 1)) w R hM (sWy_A q2 hA') h t 2 (0 + rto v1 0 (zdg t 0) + rto v1 1 (zdg t 1)) (0 + rmo v1 0 (zdg t 0) + rmo v1 1 (zdg t 1)) as ((True ∧ rok v1 0 (zdg t 0) ∧ ron v1 as h 0 (zdg t 0)) ∧ rok v1 1 (zdg t 1) ∧ ron v1 as h 1 (zdg t 1)) hh ⟨h1, h2⟩ (by omega) (by rw [w2]; exact nw) (q_FV Q) ?_
          · rw [w1, (e1 q1 1 (zdg t 1)).1, (e1 q1 1 (zdg t 1)).2, show zb ((True ∧ rok v1 0 (zdg t 0) ∧ ron v1 as h 0 (zdg t 0)) ∧ rok (zu v1 68 (3 * v1 48 24 + 0) (zdg t 0)) 1 (zdg t 1) ∧ ron (zu v1 68 (3 * v1 48 24 + 0) (zdg t 0)) as h 1 (zdg t 1)) = zb ((True ∧ rok v1 0 (zdg t 0) ∧ ron v1 as h 0 (zdg t 0)) ∧ rok v1 1 (zdg t 1) ∧ ron v1 as h 1 (zdg t 1)) from zb_iff (and_congr Iff.rfl (e2 q1 1 (zdg t 1)))]
            exact K2
          · rw [w2, (e1 q2 2 (zdg t 2)).1, (e1 q2 2 (zdg t 2)).2, show zb (((True ∧ rok v1 0 (zdg t 0) ∧ ron v1 as h 0 (zdg t 0)) ∧ rok v1 1 (zdg t 1) ∧ ron v1 as h 1 (zdg t 1)) ∧ rok (zu (zu v1 68 (3 * v1 48 24 + 0) (zdg t 0)) 68 (3 * v1 48 24 + 1) (zdg t 1)) 2 (zdg t 2) ∧ ron (zu (zu v1 68 (3 * v1 48 24 + 0) (zdg t 0)) 68 (3 * v1 48 24 + 1) (zdg t 1)) as h 2 (zdg t 2)) = zb ((rok v1 0 (zdg t 0) ∧ ron v1 as h 0 (zdg t 0)) ∧ (rok v1 1 (zdg t 1) ∧ ron v1 as h 1 (zdg t 1)) ∧ (rok v1 2 (zdg t 2) ∧ ron v1 as h 2 (zdg t 2))) from zb_iff ⟨fun q => ⟨q.1.1.2, q.1.2, (e2 q2 2 (zdg t 2)).mp q.2⟩, fun q => ⟨⟨⟨trivial, q.1⟩, q.2.1⟩, (e2 q2 2 (zdg t 2)).mpr q.2.2⟩⟩]
            have o : ∀ u, 0 ≤ u → u < 3 → (0 ≤ rto v1 u (zdg t u) ∧ rto v1 u (zdg t u) ≤ 64) ∧ (0 ≤ rmo v1 u (zdg t u) ∧ rmo v1 u (zdg t u) ≤ 60) := fun u u1 u2 => by
              have r := hA'.1 u u1 u2
              have z := zr u
              unfold rto rmo
              by_cases q : zdg t u = 0 ∨ v1 48 2 ≤ u
              · rw [if_pos q, if_pos q]; omega
              · rw [if_neg q, if_neg q]; omega
            have o0 := o 0 (by omega) (by omega)
            have o1 := o 1 (by omega) (by omega)
            have o2 := o 2 (by omega) (by omega)
            simp only [show (2 : Int) + 1 = 3 from rfl, Int.zero_add, Int.add_zero] at ih ⊢
            have q3 : sWy v1 (wrc v1 t) := ⟨fun b b1 b2 => by unfold wrc; rw [zu_row b2, zu_row b2, zu_row b2], fun j hj => by unfold wrc; rw [zu_a (by omega), zu_a (by omega), zu_a (by omega)]⟩
            have w48 : wrc v1 t 48 24 = v1 48 24 := by unfold wrc; rw [zu_a (by omega), zu_a (by omega), zu_a (by omega)]
            refine l_fwE xs sh (wrc v1 t) w R hM (sWy_A q3 hA') h t _ _ as _ hh ⟨h1, h2⟩ (by omega) (by omega) (by rw [w48]; exact nw) (q_FV Q) ?_
            rw [w48, q3.1 58 (by decide) (by decide), q3.1 59 (by decide) (by decide)]
            by_cases ff : RFIT v as h t
            · rw [if_pos ff] at ih
              rw [if_pos (fit.mpr ff)]
              exact ih
            · rw [if_neg ff] at ih
              rw [if_neg (fun q => ff (fit.mp q))]
              exact ih)
        exact K1)
      rw [zbTr trivial] at K
      refine b_Mod_findWays_7 xs _ _ _ _ _ _ ?_
      simp (discharger := first | assumption | omega) [fI, fL, fV, zs_ar, zt_ar, zs_un, zt_un, zn_c, zu_a, zu_e, zu_j, zix, zi_lit, zl_lit, zi_add, zi_sub, zi_mul, zi_neg, zi_le, zi_lt, zi_eq, zl_add, zl_sub, zl_mul, zi_i2l, zl_l2i, zb0, zb1, zb0', zb1', zi_c0, zi_c1, zb_c, i_leT, i_leF, i_ltT, i_ltF, i_eqT, i_eqF]
      exact K
  have K0 := L 0 (by omega) (by omega)
  refine e_Mod_findWays xs _ _ _ _ (sh, zs v, zt w, R) ?_
  simp (discharger := first | assumption | omega) [hM, fI, fL, fV, zs_ar, zt_ar, zs_un, zt_un, zn_c, zu_a, zu_e, zu_j, zix, zi_lit, zl_lit, zi_add, zi_sub, zi_mul, zi_neg, zi_le, zi_lt, zi_eq, zl_add, zl_sub, zl_mul, zi_i2l, zl_l2i, zb0, zb1, zb0', zb1', zi_c0, zi_c1, zb_c]
  exact K0) Q
