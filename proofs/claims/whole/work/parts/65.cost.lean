theorem zlst_pos {t : Int → Int} {wo wh h : Int} (hw : 1 ≤ wh ∧ wh ≤ 100) (hh : 0 ≤ h) : 1 ≤ zlst t wo wh h := by
  unfold zlst
  obtain ⟨n, rfl⟩ : ∃ n : Nat, h = n := ⟨h.toNat, by omega⟩
  rw [Int.toNat_natCast]
  match n with
  | 0 => simp [zhold, zprev]; omega
  | n + 1 =>
    have := zhold_rng (t := t) (wo := wo) (wh := wh) (on := zprev t wo ((n + 1 : Nat) : Int) ≠ 0) (by omega) n
    unfold zhold
    rw [if_pos]
    · omega
    · unfold zprev
      rw [if_neg (by omega), show ((n + 1 : Nat) : Int) - 1 = n by omega]
/-- what a set's start in an hour costs, and its hour -/
def zst (sc t : Int → Int) (wo wh h : Int) : Int := if t h = 0 then 0 else if zprev t wo h = 0 then sc (if zlst t wo wh h ≤ 3 then zlst t wo wh h else 3) else 0
def zrn (hc t : Int → Int) (h : Int) : Int := if t h = 0 then 0 else hc (t h)
def pst (v : Nat → Int → Int) (u h : Int) : Int := zst (fun n => v 55 (3 * u + n - 1)) (trow v u) (v 56 u) (v 57 u) h
def prn (v : Nat → Int → Int) (u h : Int) : Int := zrn (fun x => v 54 (4 * u + x - v 49 u)) (trow v u) h
/-- what is known of the sets that are there -/
def rS (v : Nat → Int → Int) : Prop := ∀ u, 0 ≤ u → u < v 48 2 → 1 ≤ v 49 u ∧ v 49 u ≤ v 50 u ∧ v 50 u ≤ v 49 u + 3 ∧ 1 ≤ v 51 u ∧ 1 ≤ v 52 u ∧ 1 ≤ v 53 u ∧ 1 ≤ v 57 u ∧ (v 56 u = 0 ∨ v 49 u ≤ v 56 u ∧ v 56 u ≤ v 50 u)
def rG (v : Nat → Int → Int) : Prop := ∀ u, 0 ≤ u → u < v 48 2 → ∀ h, 0 ≤ h → h < v 48 1 → v 60 (8 * u + h) = 0 ∨ v 49 u ≤ v 60 (8 * u + h) ∧ v 60 (8 * u + h) ≤ v 50 u
theorem l_cost47 (xs : List Int32) (sh : List q_Sh) (v w : Nat → Int → Int) (R : Nat → Nat → Option Nat) (hM : LM sh R) (u a b what : Int) (hR : rU v) (hT : rT v) (hN : rN v) (hS : rS v) (hG : rG v) (hu : 0 ≤ u ∧ u < v 48 2) (F : Option Value → q_H → Prop) (hk : q_Rt (GG xs) PP 60 F 35 [some (.ref 48), some (.int (zi what)), some (.int (zi (a + zsum (pst v u) (v 48 1).toNat))), some (.int (zi (b + zsum (prn v u) (v 48 1).toNat))), some (.int (zi (u + 1))), none, none, none] [] (sh, zs v, zt w, R)) : ∀ h, 0 ≤ h → h ≤ v 48 1 → q_Rt (GG xs) PP 60 F 47 [some (.ref 48), some (.int (zi what)), some (.int (zi (a + zsum (pst v u) h.toNat))), some (.int (zi (b + zsum (prn v u) h.toNat))), some (.int (zi u)), some (.int (zi h)), none, none] [] (sh, zs v, zt w, R) := by
  have n1 := hN.1
  have n2 := hN.2
  obtain ⟨r1, r2, r3, r4, r5, r6, r7⟩ := hR u hu.1 (by omega)
  obtain ⟨s1, s2, s3, s4, s5, s6, s7, s8⟩ := hS u hu.1 hu.2
  refine zdown _ ?_ (fun h h1 h2 ih => ?_)
  · refine b_Mod_cost_47 xs F _ _ _ _ _ _ (sh, zs v, zt w, R) ?_
    simp (discharger := first | assumption | omega) [hM, fI, fL, fV, zs_ar, zt_ar, zs_un, zt_un, zn_c, zu_a, zu_e, zu_j, zix, zi_lit, zl_lit, zi_add, zi_sub, zi_mul, zi_neg, zi_le, zi_lt, zi_eq, zl_add, zl_sub, zl_mul, zi_i2l, zl_l2i, zb0, zb1, zb0', zb1', zi_c0, zi_c1, zb_c, i_leT, i_leF, i_ltT, i_ltF, i_eqT, i_eqF]
    exact hk
  · have e : (h + 1).toNat = h.toNat + 1 := by omega
    have e2 : ((h.toNat : Nat) : Int) = h := by omega
    rw [e] at ih
    simp only [zsum_s, e2] at ih
    have y5 := hT (8 * u + h) (by omega) (by omega)
    have r8 : h ≠ 0 → 0 ≤ v 60 (8 * u + h - 1) ∧ v 60 (8 * u + h - 1) ≤ 63 := fun _ => hT _ (by omega) (by omega)
    have r9 : 0 ≤ zprev (trow v u) (v 56 u) h ∧ zprev (trow v u) (v 56 u) h ≤ 63 := by rw [← zprev_t]; split <;> omega
    have r11 := zlst_rng (t := trow v u) (wo := v 56 u) (h := h) r7 (by omega)
    have r12 := zlst_pos (t := trow v u) (wo := v 56 u) (wh := v 57 u) (h := h) (by omega) (by omega)
    have g := hG u hu.1 hu.2 h h1 h2
    have ap : pst v u h = (if v 60 (8 * u + h) = 0 then 0 else if zprev (trow v u) (v 56 u) h = 0 then v 55 (3 * u + (if zlst (trow v u) (v 56 u) (v 57 u) h ≤ 3 then zlst (trow v u) (v 56 u) (v 57 u) h else 3) - 1) else 0) := rfl
    have bp : prn v u h = (if v 60 (8 * u + h) = 0 then 0 else v 54 (4 * u + v 60 (8 * u + h) - v 49 u)) := rfl
    rw [ap, bp] at ih
    refine b_Mod_cost_47 xs F _ _ _ _ _ _ (sh, zs v, zt w, R) ?_
    by_cases c1 : v 60 (8 * u + h) = 0
    · rw [if_pos c1, if_pos c1] at ih
      simp (discharger := first | assumption | omega) [hM, fI, fL, fV, zs_ar, zt_ar, zs_un, zt_un, zn_c, zu_a, zu_e, zu_j, zix, zi_lit, zl_lit, zi_add, zi_sub, zi_mul, zi_neg, zi_le, zi_lt, zi_eq, zl_add, zl_sub, zl_mul, zi_i2l, zl_l2i, zb0, zb1, zb0', zb1', zi_c0, zi_c1, zb_c, n_lasted, n_isOn, zbFa (p := ¬ v 60 (8 * u + h) = 0) (by omega), i_leT, i_leF, i_ltT, i_ltF, i_eqT, i_eqF]
      refine b_Mod_cost_121 xs F _ _ _ _ _ _ _ _ (sh, zs v, zt w, R) ?_
      simp (discharger := first | assumption | omega) [hM, fI, fL, fV, zs_ar, zt_ar, zs_un, zt_un, zn_c, zu_a, zu_e, zu_j, zix, zi_lit, zl_lit, zi_add, zi_sub, zi_mul, zi_neg, zi_le, zi_lt, zi_eq, zl_add, zl_sub, zl_mul, zi_i2l, zl_l2i, zb0, zb1, zb0', zb1', zi_c0, zi_c1, zb_c, i_leT, i_leF, i_ltT, i_ltF, i_eqT, i_eqF]
      simpa using ih
    · rw [if_neg c1, if_neg c1] at ih
      have l121 : ∀ x : Int, (if zprev (trow v u) (v 56 u) h = 0 then v 55 (3 * u + (if zlst (trow v u) (v 56 u) (v 57 u) h ≤ 3 then zlst (trow v u) (v 56 u) (v 57 u) h else 3) - 1) else 0) = x → q_Rt (GG xs) PP 60 F 121 [some (.ref 48), some (.int (zi what)), none, some (.int (zi (b + zsum (prn v u) h.toNat))), some (.int (zi u)), some (.int (zi h)), none, some (.int (zi 1))] [.int (zi x), .int (zi (a + zsum (pst v u) h.toNat))] (sh, zs v, zt w, R) := by
        intro x ex
        rw [ex] at ih
        refine b_Mod_cost_121 xs F _ _ _ _ _ _ _ _ (sh, zs v, zt w, R) ?_
        simp (discharger := first | assumption | omega) [hM, fI, fL, fV, zs_ar, zt_ar, zs_un, zt_un, zn_c, zu_a, zu_e, zu_j, zix, zi_lit, zl_lit, zi_add, zi_sub, zi_mul, zi_neg, zi_le, zi_lt, zi_eq, zl_add, zl_sub, zl_mul, zi_i2l, zl_l2i, zb0, zb1, zb0', zb1', zi_c0, zi_c1, zb_c, i_leT, i_leF, i_ltT, i_ltF, i_eqT, i_eqF, Int.add_assoc]
        simpa [Int.add_assoc] using ih
      have z := zbTr (p := ¬ v 60 (8 * u + h) = 0) c1
      by_cases c2 : zprev (trow v u) (v 56 u) h = 0
      · by_cases c3 : zlst (trow v u) (v 56 u) (v 57 u) h ≤ 3
        · simp (discharger := first | assumption | omega) [hM, fI, fL, fV, zs_ar, zt_ar, zs_un, zt_un, zn_c, zu_a, zu_e, zu_j, zix, zi_lit, zl_lit, zi_add, zi_sub, zi_mul, zi_neg, zi_le, zi_lt, zi_eq, zl_add, zl_sub, zl_mul, zi_i2l, zl_l2i, zb0, zb1, zb0', zb1', zi_c0, zi_c1, zb_c, n_lasted, n_isOn, n_last, zprev_t, z, i_leT, i_leF, i_ltT, i_ltF, i_eqT, i_eqF]
          exact l121 _ (by rw [if_pos c2, if_pos c3])
        · simp (discharger := first | assumption | omega) [hM, fI, fL, fV, zs_ar, zt_ar, zs_un, zt_un, zn_c, zu_a, zu_e, zu_j, zix, zi_lit, zl_lit, zi_add, zi_sub, zi_mul, zi_neg, zi_le, zi_lt, zi_eq, zl_add, zl_sub, zl_mul, zi_i2l, zl_l2i, zb0, zb1, zb0', zb1', zi_c0, zi_c1, zb_c, n_lasted, n_isOn, n_last, zprev_t, z, i_leT, i_leF, i_ltT, i_ltF, i_eqT, i_eqF]
          exact l121 _ (by rw [if_pos c2, if_neg c3])
      · simp (discharger := first | assumption | omega) [hM, fI, fL, fV, zs_ar, zt_ar, zs_un, zt_un, zn_c, zu_a, zu_e, zu_j, zix, zi_lit, zl_lit, zi_add, zi_sub, zi_mul, zi_neg, zi_le, zi_lt, zi_eq, zl_add, zl_sub, zl_mul, zi_i2l, zl_l2i, zb0, zb1, zb0', zb1', zi_c0, zi_c1, zb_c, n_lasted, n_isOn, n_last, zprev_t, z, i_leT, i_leF, i_ltT, i_ltF, i_eqT, i_eqF]
        exact l121 _ (by rw [if_neg c2])
