/-! How a table stands to the rules, hour by hour: the reference. -/
/-- how many hours a set was on, or off, without a break, at the end of k hours -/
def zhold (t : Int → Int) (wo wh : Int) (on : Prop) [Decidable on] : Nat → Int
  | 0 => if (wo ≠ 0 ↔ on) then wh else 0
  | k + 1 => if (t k ≠ 0 ↔ on) then zhold t wo wh on k + 1 else 0
theorem zhold_rng {t : Int → Int} {wo wh : Int} {on : Prop} [Decidable on] (h : 0 ≤ wh ∧ wh ≤ 100) : ∀ k : Nat, 0 ≤ zhold t wo wh on k ∧ zhold t wo wh on k ≤ 100 + k
  | 0 => by
    unfold zhold
    split <;> omega
  | k + 1 => by
    have := zhold_rng (t := t) (wo := wo) (on := on) h k
    unfold zhold
    split <;> omega
def zprev (t : Int → Int) (wo h : Int) : Int := if h = 0 then wo else t (h - 1)
def zlst (t : Int → Int) (wo wh h : Int) : Int := zhold t wo wh (zprev t wo h ≠ 0) h.toNat
/-- a set's row of the table -/
def trow (v : Nat → Int → Int) (u : Int) : Int → Int := fun h => v 60 (8 * u + h)
def rT (v : Nat → Int → Int) : Prop := ∀ j, 0 ≤ j → j < 24 → 0 ≤ v 60 j ∧ v 60 j ≤ 63
theorem l_lasted58 (xs : List Int32) (sh : List q_Sh) (v w : Nat → Int → Int) (R : Nat → Nat → Option Nat) (hM : LM sh R) (u h n : Int) (on : Prop) [Decidable on] (hR : rU v) (hu : 0 ≤ u ∧ u < 3) (hh : 0 ≤ h ∧ h < 8) (hn : 0 ≤ n ∧ n ≤ h) (F : Option Value → q_H → Prop) : q_Rt (GG xs) PP 57 F 58 [some (.ref 48), some (.int (zi u)), some (.int (zi h)), some (.int (zb on)), some (.int (zi n))] [] (sh, zs v, zt w, R) = F (some (.int (zi (if n < h then n else n + zhold (trow v u) (v 56 u) (v 57 u) on 0)))) (sh, zs v, zt w, R) := cR (fun F hF => by
  obtain ⟨r1, r2, r3, r4, r5, r6, r7⟩ := hR u hu.1 hu.2
  refine b_Mod_lasted_58 xs F _ _ _ _ _ (sh, zs v, zt w, R) ?_
  unfold zhold at hF
  by_cases h1 : n < h
  · simp (discharger := first | assumption | omega) [hM, fI, fL, fV, zs_ar, zt_ar, zs_un, zt_un, zn_c, zu_a, zu_e, zu_j, zix, zi_lit, zl_lit, zi_add, zi_sub, zi_mul, zi_neg, zi_le, zi_lt, zi_eq, zl_add, zl_sub, zl_mul, zi_i2l, zl_l2i, zb0, zb1, zb0', zb1', zi_c0, zi_c1, zb_c, i_leT, i_leF, i_ltT, i_ltF, i_eqT, i_eqF]
    simpa [h1] using hF
  · by_cases h2 : v 56 u = 0 <;> by_cases h3 : on <;> simp (discharger := first | assumption | omega) [hM, fI, fL, fV, zs_ar, zt_ar, zs_un, zt_un, zn_c, zu_a, zu_e, zu_j, zix, zi_lit, zl_lit, zi_add, zi_sub, zi_mul, zi_neg, zi_le, zi_lt, zi_eq, zl_add, zl_sub, zl_mul, zi_i2l, zl_l2i, zb0, zb1, zb0', zb1', zi_c0, zi_c1, zb_c, h3, i_leT, i_leF, i_ltT, i_ltF, i_eqT, i_eqF] <;> simpa [h1, h2, h3] using hF) F
theorem l_lasted18 (xs : List Int32) (sh : List q_Sh) (v w : Nat → Int → Int) (R : Nat → Nat → Option Nat) (hM : LM sh R) (u h : Int) (on : Prop) [Decidable on] (hR : rU v) (hT : rT v) (hu : 0 ≤ u ∧ u < 3) (hh : 0 ≤ h ∧ h < 8) : ∀ n, 0 ≤ n → n ≤ h → ∀ F : Option Value → q_H → Prop, q_Rt (GG xs) PP 57 F 18 [some (.ref 48), some (.int (zi u)), some (.int (zi h)), some (.int (zb on)), some (.int (zi n))] [] (sh, zs v, zt w, R) = F (some (.int (zi (n + zhold (trow v u) (v 56 u) (v 57 u) on (h - n).toNat)))) (sh, zs v, zt w, R) := zdown _ (fun F => cR (fun F hF => by
  refine b_Mod_lasted_18 xs F _ _ _ _ _ (sh, zs v, zt w, R) ?_
  simp (discharger := first | assumption | omega) [hM, fI, fL, fV, zs_ar, zt_ar, zs_un, zt_un, zn_c, zu_a, zu_e, zu_j, zix, zi_lit, zl_lit, zi_add, zi_sub, zi_mul, zi_neg, zi_le, zi_lt, zi_eq, zl_add, zl_sub, zl_mul, zi_i2l, zl_l2i, zb0, zb1, zb0', zb1', zi_c0, zi_c1, zb_c, l_lasted58]
  simpa using hF) F) (fun n h1 h2 ih F => cR (fun F hF => by
  have := hT (8 * u + h - 1 - n) (by omega) (by omega)
  refine b_Mod_lasted_18 xs F _ _ _ _ _ (sh, zs v, zt w, R) ?_
  rw [show (h - n).toNat = (h - (n + 1)).toNat + 1 by omega] at hF
  unfold zhold at hF
  rw [show trow v u ((h - (n + 1)).toNat : Int) = v 60 (8 * u + h - 1 - n) by unfold trow; congr 1; omega] at hF
  by_cases h3 : v 60 (8 * u + h - 1 - n) = 0 <;> by_cases h4 : on
  · simp (discharger := first | assumption | omega) [hM, fI, fL, fV, zs_ar, zt_ar, zs_un, zt_un, zn_c, zu_a, zu_e, zu_j, zix, zi_lit, zl_lit, zi_add, zi_sub, zi_mul, zi_neg, zi_le, zi_lt, zi_eq, zl_add, zl_sub, zl_mul, zi_i2l, zl_l2i, zb0, zb1, zb0', zb1', zi_c0, zi_c1, zb_c, l_lasted58, ih, h4, i_leT, i_leF, i_ltT, i_ltF, i_eqT, i_eqF]
    simpa [h3, h4, h2] using hF
  · simp (discharger := first | assumption | omega) [hM, fI, fL, fV, zs_ar, zt_ar, zs_un, zt_un, zn_c, zu_a, zu_e, zu_j, zix, zi_lit, zl_lit, zi_add, zi_sub, zi_mul, zi_neg, zi_le, zi_lt, zi_eq, zl_add, zl_sub, zl_mul, zi_i2l, zl_l2i, zb0, zb1, zb0', zb1', zi_c0, zi_c1, zb_c, l_lasted58, ih, i_leT, i_leF, i_ltT, i_ltF, i_eqT, i_eqF]
    rw [if_pos (by simp [h3, h4])] at hF
    rw [Int.add_assoc, Int.add_comm 1]
    simp only [h4] at hF ⊢
    simpa using hF
  · simp (discharger := first | assumption | omega) [hM, fI, fL, fV, zs_ar, zt_ar, zs_un, zt_un, zn_c, zu_a, zu_e, zu_j, zix, zi_lit, zl_lit, zi_add, zi_sub, zi_mul, zi_neg, zi_le, zi_lt, zi_eq, zl_add, zl_sub, zl_mul, zi_i2l, zl_l2i, zb0, zb1, zb0', zb1', zi_c0, zi_c1, zb_c, l_lasted58, ih, i_leT, i_leF, i_ltT, i_ltF, i_eqT, i_eqF]
    rw [if_pos (by simp [h3, h4])] at hF
    rw [Int.add_assoc, Int.add_comm 1]
    simp only [h4] at hF ⊢
    simpa using hF
  · simp (discharger := first | assumption | omega) [hM, fI, fL, fV, zs_ar, zt_ar, zs_un, zt_un, zn_c, zu_a, zu_e, zu_j, zix, zi_lit, zl_lit, zi_add, zi_sub, zi_mul, zi_neg, zi_le, zi_lt, zi_eq, zl_add, zl_sub, zl_mul, zi_i2l, zl_l2i, zb0, zb1, zb0', zb1', zi_c0, zi_c1, zb_c, l_lasted58, ih, h4, i_leT, i_leF, i_ltT, i_ltF, i_eqT, i_eqF]
    simpa [h3, h4, h2] using hF) F)
theorem n_lasted (xs : List Int32) (sh : List q_Sh) (v w : Nat → Int → Int) (R : Nat → Nat → Option Nat) (hM : LM sh R) (u h : Int) (hR : rU v) (hT : rT v) (hu : 0 ≤ u ∧ u < 3) (hh : 0 ≤ h ∧ h < 8) (Q : Int32 → q_H → Prop) : q_CallI (GG xs) PP kMod_lasted [.ref 48, .int (zi u), .int (zi h)] (sh, zs v, zt w, R) Q = Q (zi (zlst (trow v u) (v 56 u) (v 57 u) h)) (sh, zs v, zt w, R) := cI (fun Q hQ => by
  obtain ⟨r1, r2, r3, r4, r5, r6, r7⟩ := hR u hu.1 hu.2
  have r8 : h ≠ 0 → 0 ≤ v 60 (8 * u + h - 1) ∧ v 60 (8 * u + h - 1) ≤ 63 := fun _ => hT _ (by omega) (by omega)
  have r9 : -2147483648 ≤ (if h = 0 then v 56 u else v 60 (8 * u + h - 1)) ∧ (if h = 0 then v 56 u else v 60 (8 * u + h - 1)) < 2147483648 := by split <;> omega
  have e : zprev (trow v u) (v 56 u) h = (if h = 0 then v 56 u else v 60 (8 * u + h - 1)) := by
    unfold zprev trow
    rw [show 8 * u + (h - 1) = 8 * u + h - 1 by omega]
  refine e_Mod_lasted xs _ _ _ _ (sh, zs v, zt w, R) ?_
  unfold zlst at hQ
  simp only [e] at hQ
  have L := l_lasted18 xs sh v w R hM u h ((if h = 0 then v 56 u else v 60 (8 * u + h - 1)) ≠ 0) hR hT hu hh 0 (by omega) (by omega)
  simp only [Int.sub_zero, Int.zero_add] at L
  by_cases c : (if h = 0 then v 56 u else v 60 (8 * u + h - 1)) = 0
  · rw [zbFa (by simp [c])] at L
    simp (discharger := first | assumption | omega) [hM, fI, fL, fV, zs_ar, zt_ar, zs_un, zt_un, zn_c, zu_a, zu_e, zu_j, zix, zi_lit, zl_lit, zi_add, zi_sub, zi_mul, zi_neg, zi_le, zi_lt, zi_eq, zl_add, zl_sub, zl_mul, zi_i2l, zl_l2i, zb0, zb1, zb0', zb1', zi_c0, zi_c1, zb_c, n_last, c, L]
    simpa [c] using hQ
  · rw [zbTr c] at L
    simp (discharger := first | assumption | omega) [hM, fI, fL, fV, zs_ar, zt_ar, zs_un, zt_un, zn_c, zu_a, zu_e, zu_j, zix, zi_lit, zl_lit, zi_add, zi_sub, zi_mul, zi_neg, zi_le, zi_lt, zi_eq, zl_add, zl_sub, zl_mul, zi_i2l, zl_l2i, zb0, zb1, zb0', zb1', zi_c0, zi_c1, zb_c, n_last, c, L]
    simpa [c] using hQ) Q
