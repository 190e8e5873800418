/-! The reference's bound, and improving. -/
theorem cLx {G : q_G} {P : Nat → q_M} {k : Nat} {as : List Value} {H : q_H} {A : Int64 → q_H → Prop} (h : q_CallL G P k as H A) : ∃ r H0, A r H0 ∧ ∀ Q, q_CallL G P k as H Q = Q r H0 := by
  obtain ⟨v, H0, a, b⟩ := q_Call.one h
  match v, a, b with
  | some (.long x), a, b => exact ⟨x, H0, a, fun Q => b (q_FL Q)⟩
theorem cIx {G : q_G} {P : Nat → q_M} {k : Nat} {as : List Value} {H : q_H} {A : Int32 → q_H → Prop} (h : q_CallI G P k as H A) : ∃ r H0, A r H0 ∧ ∀ Q, q_CallI G P k as H Q = Q r H0 := by
  obtain ⟨v, H0, a, b⟩ := q_Call.one h
  match v, a, b with
  | some (.int x), a, b => exact ⟨x, H0, a, fun Q => b (q_FI Q)⟩
/-- all that is known of the reference's cells -/
def rA (v : Nat → Int → Int) : Prop := rU v ∧ rC v ∧ rS v ∧ rD v ∧ rN v ∧ rT v
theorem sM_rA {v v' : Nat → Int → Int} (h : sameM v v') (r : rA v) : rA v' := ⟨sM_rU h r.1, sM_rC h r.2.1, sM_rS h r.2.2.1, sM_rD h r.2.2.2.1, sM_rN h r.2.2.2.2.1, sM_rT h r.2.2.2.2.2⟩
def bm (v v' : Nat → Int → Int) : Prop := (∀ a, a ≠ 66 → v' a = v a) ∧ ∀ u h, 0 ≤ u → u < v 48 2 → 0 ≤ h → h < v 48 1 → v' 66 (8 * u + h) = xL v u h
theorem sM_66 {v v' : Nat → Int → Int} (h : ∀ a, a ≠ 66 → v' a = v a) : sameM v v' := ⟨fun a h1 h2 => h a (by omega), h 63 (by decide), by rw [h 48 (by decide)], by rw [h 48 (by decide)]⟩
def bnd (v : Nat → Int → Int) : Int := zsum (fun h => v 58 h * v 63 h) (v 48 1).toNat + zsum (xC v) (v 48 2).toNat
theorem l_bn38 (xs : List Int32) (sh : List q_Sh) (v w : Nat → Int → Int) (R : Nat → Nat → Option Nat) (hM : LM sh R) (hA : rA v) (a : Int) (F : Option Value → q_H → Prop) (hk : ∀ v' w', bm v v' → fL65 w w' → F (some (.long (zl (a + zsum (xC v) (v 48 2).toNat)))) (sh, zs v', zt w', R)) : ∀ u, 0 ≤ u → u ≤ v 48 2 → ∀ v1 w1 : Nat → Int → Int, (∀ a, a ≠ 66 → v1 a = v a) → (∀ u' h, 0 ≤ u' → u' < u → 0 ≤ h → h < v 48 1 → v1 66 (8 * u' + h) = xL v u' h) → fL65 w w1 → q_Rt (GG xs) PP 66 F 38 [some (.ref 48), some (.long (zl (a + zsum (xC v) u.toNat))), none, some (.int (zi u))] [] (sh, zs v1, zt w1, R) := by
  have n1 := hA.2.2.2.2.1.1
  have n2 := hA.2.2.2.2.1.2
  refine zdown _ (fun v1 w1 h1 h2 h3 => ?_) (fun u h1 h2 ih v1 w1 g1 g2 g3 => ?_)
  · refine b_Mod_boundNow_38 xs F _ _ _ (sh, zs v1, zt w1, R) ?_
    simp (discharger := first | assumption | omega) [hM, fI, fL, fV, zs_ar, zt_ar, zs_un, zt_un, zn_c, zu_a, zu_e, zu_j, zix, zi_lit, zl_lit, zi_add, zi_sub, zi_mul, zi_neg, zi_le, zi_lt, zi_eq, zl_add, zl_sub, zl_mul, zi_i2l, zl_l2i, zb0, zb1, zb0', zb1', zi_c0, zi_c1, zb_c, h1 48 (by decide), i_leT, i_leF, i_ltT, i_ltF, i_eqT, i_eqF]
    exact hk v1 w1 ⟨h1, h2⟩ h3
  · have s := sM_66 g1
    have r := sM_rA s hA
    obtain ⟨w', p1, p2, p3⟩ := n_planAlone xs sh v1 w1 R hM r.1 r.2.1 r.2.2.1 r.2.2.2.1 r.2.2.2.2.1 u (by rw [s.2.2.2]; omega)
    have e : (u + 1).toNat = u.toNat + 1 := by omega
    have e2 : ((u.toNat : Nat) : Int) = u := by omega
    rw [e] at ih
    simp only [zsum_s, e2] at ih
    rw [sM_xC s] at p2
    refine b_Mod_boundNow_38 xs F _ _ _ (sh, zs v1, zt w1, R) ?_
    simp (discharger := first | assumption | omega) [hM, fI, fL, fV, zs_ar, zt_ar, zs_un, zt_un, zn_c, zu_a, zu_e, zu_j, zix, zi_lit, zl_lit, zi_add, zi_sub, zi_mul, zi_neg, zi_le, zi_lt, zi_eq, zl_add, zl_sub, zl_mul, zi_i2l, zl_l2i, zb0, zb1, zb0', zb1', zi_c0, zi_c1, zb_c, g1 48 (by decide), p3, p2, Int.add_assoc, i_leT, i_leF, i_ltT, i_ltF, i_eqT, i_eqF]
    refine ih _ _ (fun a ha => by rw [lonS_row ha, g1 a ha]) (fun u' h q1 q2 q3 q4 => ?_) (fun a q1 q2 => by rw [p1 a q1 q2, g3 a q1 q2])
    unfold lonS
    rw [sM_xL s, s.2.2.1]
    by_cases c : u' = u
    · rw [if_pos (by omega), c, show 8 * u + h - 8 * u = h by omega]
    · rw [if_neg (by omega)]
      exact g2 u' h q1 (by omega) q3 q4
theorem l_bn4 (xs : List Int32) (sh : List q_Sh) (v w : Nat → Int → Int) (R : Nat → Nat → Option Nat) (hM : LM sh R) (hA : rA v) (F : Option Value → q_H → Prop) (hk : ∀ v' w', bm v v' → fL65 w w' → F (some (.long (zl (bnd v)))) (sh, zs v', zt w', R)) : ∀ h, 0 ≤ h → h ≤ v 48 1 → q_Rt (GG xs) PP 66 F 4 [some (.ref 48), some (.long (zl (zsum (fun h => v 58 h * v 63 h) h.toNat))), none, some (.int (zi h))] [] (sh, zs v, zt w, R) := by
  have n1 := hA.2.2.2.2.1.1
  have n2 := hA.2.2.2.2.1.2
  refine zdown _ ?_ (fun h h1 h2 ih => ?_)
  · refine b_Mod_boundNow_4 xs F _ _ _ (sh, zs v, zt w, R) ?_
    simp (discharger := first | assumption | omega) [hM, fI, fL, fV, zs_ar, zt_ar, zs_un, zt_un, zn_c, zu_a, zu_e, zu_j, zix, zi_lit, zl_lit, zi_add, zi_sub, zi_mul, zi_neg, zi_le, zi_lt, zi_eq, zl_add, zl_sub, zl_mul, zi_i2l, zl_l2i, zb0, zb1, zb0', zb1', zi_c0, zi_c1, zb_c, i_leT, i_leF, i_ltT, i_ltF, i_eqT, i_eqF]
    have := l_bn38 xs sh v w R hM hA (zsum (fun h => v 58 h * v 63 h) (v 48 1).toNat) F hk 0 (by omega) (by omega) v w (fun _ _ => rfl) (fun u' h q1 q2 => by omega) (fun _ _ _ => rfl)
    simpa [zsum] using this
  · have e : (h + 1).toNat = h.toNat + 1 := by omega
    have e2 : ((h.toNat : Nat) : Int) = h := by omega
    rw [e] at ih
    simp only [zsum_s, e2] at ih
    obtain ⟨d1, d2, d3⟩ := hA.2.2.2.1 h (by omega) (by omega)
    refine b_Mod_boundNow_4 xs F _ _ _ (sh, zs v, zt w, R) ?_
    simp (discharger := first | assumption | omega) [hM, fI, fL, fV, zs_ar, zt_ar, zs_un, zt_un, zn_c, zu_a, zu_e, zu_j, zix, zi_lit, zl_lit, zi_add, zi_sub, zi_mul, zi_neg, zi_le, zi_lt, zi_eq, zl_add, zl_sub, zl_mul, zi_i2l, zl_l2i, zb0, zb1, zb0', zb1', zi_c0, zi_c1, zb_c, i_leT, i_leF, i_ltT, i_ltF, i_eqT, i_eqF]
    exact ih
theorem n_boundNow (xs : List Int32) (sh : List q_Sh) (v w : Nat → Int → Int) (R : Nat → Nat → Option Nat) (hM : LM sh R) (hA : rA v) : ∃ v' w', bm v v' ∧ fL65 w w' ∧ ∀ Q : Int64 → q_H → Prop, q_CallL (GG xs) PP kMod_boundNow [.ref 48] (sh, zs v, zt w, R) Q = Q (zl (bnd v)) (sh, zs v', zt w', R) := by
  have n1 := hA.2.2.2.2.1.1
  have key : q_CallL (GG xs) PP kMod_boundNow [.ref 48] (sh, zs v, zt w, R) (fun x H' => x = zl (bnd v) ∧ ∃ v' w', (bm v v' ∧ fL65 w w') ∧ H' = (sh, zs v', zt w', R)) := by
    refine e_Mod_boundNow xs _ _ (sh, zs v, zt w, R) ?_
    have := l_bn4 xs sh v w R hM hA (q_FL (fun x H' => x = zl (bnd v) ∧ ∃ v' w', (bm v v' ∧ fL65 w w') ∧ H' = (sh, zs v', zt w', R))) (fun v' w' a b => ⟨rfl, v', w', ⟨a, b⟩, rfl⟩) 0 (by omega) (by omega)
    simpa [zsum, zl_lit, zi_lit] using this
  obtain ⟨r, H0, ⟨e0, v', w', h1, e⟩, h2⟩ := cLx key
  exact ⟨v', w', h1.1, h1.2, fun Q => by rw [h2, e, e0]⟩
theorem sM_bnd {v v' : Nat → Int → Int} (h : sameM v v') : bnd v' = bnd v := by
  simp only [bnd, sM_xC h, h.1 58 (by decide) (by decide), h.2.1, h.2.2.1, h.2.2.2]
theorem n_anew (xs : List Int32) (sh : List q_Sh) (v w : Nat → Int → Int) (R : Nat → Nat → Option Nat) (hM : LM sh R) (hA : rA v) : ∃ v' w', bm (zu v 48 18 64) v' ∧ fL65 w w' ∧ ∀ Q : q_H → Prop, q_CallV (GG xs) PP kMod_anew [.ref 48] (sh, zs v, zt w, R) Q = Q (sh, zs v', zt (zu w' 48 19 (bnd v)), R) := by
  have s : sameM v (zu v 48 18 64) := sM_zu (sM_rf v) (by omega)
  obtain ⟨v', w', h1, h2, h3⟩ := n_boundNow xs sh (zu v 48 18 64) w R hM (sM_rA s hA)
  refine ⟨v', w', h1, h2, fun Q => cV (fun Q hQ => ?_) Q⟩
  refine e_Mod_anew xs _ _ (sh, zs v, zt w, R) ?_
  simp (discharger := first | assumption | omega) [hM, fI, fL, fV, zs_ar, zt_ar, zs_un, zt_un, zn_c, zu_a, zu_e, zu_j, zix, zi_lit, zl_lit, zi_add, zi_sub, zi_mul, zi_neg, zi_le, zi_lt, zi_eq, zl_add, zl_sub, zl_mul, zi_i2l, zl_l2i, zb0, zb1, zb0', zb1', zi_c0, zi_c1, zb_c, h3, sM_bnd s]
  exact hQ
theorem n_bound (xs : List Int32) (sh : List q_Sh) (v w : Nat → Int → Int) (R : Nat → Nat → Option Nat) (hM : LM sh R) (hA : rA v) : ∃ v' w', bm (zu v 48 0 0) v' ∧ fL65 w w' ∧ ∀ Q : Int64 → q_H → Prop, q_CallL (GG xs) PP kMod_bound [.ref 48] (sh, zs v, zt w, R) Q = Q (zl (bnd v)) (sh, zs v', zt w', R) := by
  have s : sameM v (zu v 48 0 0) := sM_zu (sM_rf v) (by omega)
  obtain ⟨v', w', h1, h2, h3⟩ := n_boundNow xs sh (zu v 48 0 0) w R hM (sM_rA s hA)
  refine ⟨v', w', h1, h2, fun Q => cL (fun Q hQ => ?_) Q⟩
  refine e_Mod_bound xs _ _ (sh, zs v, zt w, R) ?_
  simp (discharger := first | assumption | omega) [hM, fI, fL, fV, zs_ar, zt_ar, zs_un, zt_un, zn_c, zu_a, zu_e, zu_j, zix, zi_lit, zl_lit, zi_add, zi_sub, zi_mul, zi_neg, zi_le, zi_lt, zi_eq, zl_add, zl_sub, zl_mul, zi_i2l, zl_l2i, zb0, zb1, zb0', zb1', zi_c0, zi_c1, zb_c, h3, sM_bnd s]
  exact hQ
/-- but for what is worked with -/
def e66 (v v' : Nat → Int → Int) : Prop := ∀ a, a ≠ 66 → v' a = v a
theorem n_alone (xs : List Int32) (sh : List q_Sh) (v w : Nat → Int → Int) (R : Nat → Nat → Option Nat) (hM : LM sh R) (hA : rA v) (u : Int) (hu : -2147483648 ≤ u ∧ u < 2147483648) : ∃ v' w', e66 (zu v 48 0 (if 0 ≤ u ∧ u < v 48 2 then 0 else 1)) v' ∧ fL65 w w' ∧ ∀ Q : Int64 → q_H → Prop, q_CallL (GG xs) PP kMod_alone [.ref 48, .int (zi u)] (sh, zs v, zt w, R) Q = Q (zl (if 0 ≤ u ∧ u < v 48 2 then xC v u else 0)) (sh, zs v', zt w', R) := by
  have n2 := hA.2.2.2.2.1.2
  by_cases c : 0 ≤ u ∧ u < v 48 2
  · have s : sameM v (zu v 48 0 0) := sM_zu (sM_rf v) (by omega)
    have r := sM_rA s hA
    obtain ⟨w', p1, p2, p3⟩ := n_planAlone xs sh (zu v 48 0 0) w R hM r.1 r.2.1 r.2.2.1 r.2.2.2.1 r.2.2.2.2.1 u (by rw [s.2.2.2]; omega)
    rw [sM_xC s] at p2
    refine ⟨lonS (zu v 48 0 0) u, w', fun a ha => by rw [lonS_row ha, if_pos c], p1, fun Q => cL (fun Q hQ => ?_) Q⟩
    rw [if_pos c] at hQ
    refine e_Mod_alone xs _ _ _ (sh, zs v, zt w, R) ?_
    simp (discharger := first | assumption | omega) [hM, fI, fL, fV, zs_ar, zt_ar, zs_un, zt_un, zn_c, zu_a, zu_e, zu_j, zix, zi_lit, zl_lit, zi_add, zi_sub, zi_mul, zi_neg, zi_le, zi_lt, zi_eq, zl_add, zl_sub, zl_mul, zi_i2l, zl_l2i, zb0, zb1, zb0', zb1', zi_c0, zi_c1, zb_c, n_isSet, p3, p2, c]
    exact hQ
  · refine ⟨_, w, fun _ _ => rfl, fun _ _ _ => rfl, fun Q => cL (fun Q hQ => ?_) Q⟩
    rw [if_neg c] at hQ
    rw [if_neg c] at hQ
    refine e_Mod_alone xs _ _ _ (sh, zs v, zt w, R) ?_
    simp (discharger := first | assumption | omega) [hM, fI, fL, fV, zs_ar, zt_ar, zs_un, zt_un, zn_c, zu_a, zu_e, zu_j, zix, zi_lit, zl_lit, zi_add, zi_sub, zi_mul, zi_neg, zi_le, zi_lt, zi_eq, zl_add, zl_sub, zl_mul, zi_i2l, zl_l2i, zb0, zb1, zb0', zb1', zi_c0, zi_c1, zb_c, n_isSet, n_fails, c]
    simpa using hQ
theorem n_lone (xs : List Int32) (sh : List q_Sh) (v w : Nat → Int → Int) (R : Nat → Nat → Option Nat) (hM : LM sh R) (hA : rA v) (u h : Int) (hu : -2147483648 ≤ u ∧ u < 2147483648) (hh : -2147483648 ≤ h ∧ h < 2147483648) : ∃ v' w', e66 (zu v 48 0 (if (0 ≤ u ∧ u < v 48 2) ∧ (0 ≤ h ∧ h < v 48 1) then 0 else 1)) v' ∧ fL65 w w' ∧ ∀ Q : Int32 → q_H → Prop, q_CallI (GG xs) PP kMod_lone [.ref 48, .int (zi u), .int (zi h)] (sh, zs v, zt w, R) Q = Q (zi (if (0 ≤ u ∧ u < v 48 2) ∧ (0 ≤ h ∧ h < v 48 1) then xL v u h else 0)) (sh, zs v', zt w', R) := by
  have n2 := hA.2.2.2.2.1.2
  have n1 := hA.2.2.2.2.1.1
  by_cases c : 0 ≤ u ∧ u < v 48 2
  · by_cases c2 : 0 ≤ h ∧ h < v 48 1
    · have s : sameM v (zu v 48 0 0) := sM_zu (sM_rf v) (by omega)
      have r := sM_rA s hA
      obtain ⟨w', p1, p2, p3⟩ := n_planAlone xs sh (zu v 48 0 0) w R hM r.1 r.2.1 r.2.2.1 r.2.2.2.1 r.2.2.2.2.1 u (by rw [s.2.2.2]; omega)
      refine ⟨lonS (zu v 48 0 0) u, w', fun a ha => by rw [lonS_row ha, if_pos ⟨c, c2⟩], p1, fun Q => cI (fun Q hQ => ?_) Q⟩
      rw [if_pos ⟨c, c2⟩] at hQ
      have e : lonS (zu v 48 0 0) u 66 (8 * u + h) = xL v u h := by
        unfold lonS
        rw [s.2.2.1, if_pos (by omega), sM_xL s, show 8 * u + h - 8 * u = h by omega]
      refine e_Mod_lone xs _ _ _ _ (sh, zs v, zt w, R) ?_
      simp (discharger := first | assumption | omega) [hM, fI, fL, fV, zs_ar, zt_ar, zs_un, zt_un, zn_c, zu_a, zu_e, zu_j, zix, zi_lit, zl_lit, zi_add, zi_sub, zi_mul, zi_neg, zi_le, zi_lt, zi_eq, zl_add, zl_sub, zl_mul, zi_i2l, zl_l2i, zb0, zb1, zb0', zb1', zi_c0, zi_c1, zb_c, n_isSet, n_isHour, p3, e, c, c2]
      exact hQ
    · refine ⟨_, w, fun _ _ => rfl, fun _ _ _ => rfl, fun Q => cI (fun Q hQ => ?_) Q⟩
      simp only [c, c2, and_false, if_false] at hQ
      refine e_Mod_lone xs _ _ _ _ (sh, zs v, zt w, R) ?_
      simp (discharger := first | assumption | omega) [hM, fI, fL, fV, zs_ar, zt_ar, zs_un, zt_un, zn_c, zu_a, zu_e, zu_j, zix, zi_lit, zl_lit, zi_add, zi_sub, zi_mul, zi_neg, zi_le, zi_lt, zi_eq, zl_add, zl_sub, zl_mul, zi_i2l, zl_l2i, zb0, zb1, zb0', zb1', zi_c0, zi_c1, zb_c, n_isSet, n_isHour, n_fails, c, c2]
      simpa using hQ
  · refine ⟨_, w, fun _ _ => rfl, fun _ _ _ => rfl, fun Q => cI (fun Q hQ => ?_) Q⟩
    simp only [c, false_and, if_false] at hQ
    refine e_Mod_lone xs _ _ _ _ (sh, zs v, zt w, R) ?_
    simp (discharger := first | assumption | omega) [hM, fI, fL, fV, zs_ar, zt_ar, zs_un, zt_un, zn_c, zu_a, zu_e, zu_j, zix, zi_lit, zl_lit, zi_add, zi_sub, zi_mul, zi_neg, zi_le, zi_lt, zi_eq, zl_add, zl_sub, zl_mul, zi_i2l, zl_l2i, zb0, zb1, zb0', zb1', zi_c0, zi_c1, zb_c, n_isSet, n_isHour, n_fails, c]
    simpa using hQ
