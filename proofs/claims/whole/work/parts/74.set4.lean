/-- a stretch of n cells copied -/
def zcp (v : Nat → Int → Int) (a : Nat) (e : Int) (b : Nat) (f : Int) (n : Int) : Nat → Int → Int := fun c j => if c = a ∧ e ≤ j ∧ j < e + n then v b (f + (j - e)) else v c j
theorem zcp_0 (v : Nat → Int → Int) (a : Nat) (e : Int) (b : Nat) (f : Int) : zcp v a e b f 0 = v := by
  funext c j
  unfold zcp
  rw [if_neg (by omega)]
theorem zcp_row {v : Nat → Int → Int} {a : Nat} {e : Int} {b : Nat} {f n : Int} {c : Nat} (h : c ≠ a) : zcp v a e b f n c = v c := by
  funext j
  simp only [zcp, h, false_and, if_false]
theorem zcp_s {v : Nat → Int → Int} {a : Nat} {e : Int} {b : Nat} {f n : Int} (h : 0 ≤ n) : zu (zcp v a e b f n) a (e + n) (v b (f + n)) = zcp v a e b f (n + 1) := by
  funext c j
  unfold zu zcp
  by_cases q : c = a
  · by_cases d : j = e + n
    · rw [if_pos (by omega), if_pos (by omega), d, show e + n - e = n by omega]
    · rw [if_neg (by omega)]
      by_cases g : e ≤ j ∧ j < e + n
      · rw [if_pos (by omega), if_pos (by omega)]
      · rw [if_neg (by omega), if_neg (by omega)]
  · rw [if_neg (by omega), if_neg (by omega), if_neg (by omega)]
theorem l_keep25 (xs : List Int32) (sh : List q_Sh) (v w : Nat → Int → Int) (R : Nat → Nat → Option Nat) (hM : LM sh R) (p : Int) (hp : 0 ≤ p ∧ p ≤ 3) : ∀ k, 0 ≤ k → k ≤ 24 → ∀ F : Option Value → q_H → Prop, q_Rt (GG xs) PP 72 F 25 [some (.ref 48), some (.int (zi p)), some (.int (zi k))] [] (sh, zs (zcp v 61 (24 * p) 60 0 k), zt w, R) = F (some (.int (zi 1))) (sh, zs (zcp v 61 (24 * p) 60 0 24), zt w, R) := by
  refine zdown _ (fun F => cR (fun F hF => ?_) F) (fun k h1 h2 ih F => cR (fun F hF => ?_) F)
  · refine b_Mod_keep_25 xs F _ _ _ (sh, zs (zcp v 61 (24 * p) 60 0 24), zt w, R) ?_
    simp (discharger := first | assumption | omega) [hM, fI, fL, fV, zs_ar, zt_ar, zs_un, zt_un, zn_c, zu_a, zu_e, zu_j, zix, zi_lit, zl_lit, zi_add, zi_sub, zi_mul, zi_neg, zi_le, zi_lt, zi_eq, zl_add, zl_sub, zl_mul, zi_i2l, zl_l2i, zb0, zb1, zb0', zb1', zi_c0, zi_c1, zb_c, i_leT, i_leF, i_ltT, i_ltF, i_eqT, i_eqF]
    exact hF
  · have e := zcp_s (v := v) (a := 61) (e := 24 * p) (b := 60) (f := 0) (n := k) h1
    have e2 := zcp_row (v := v) (a := 61) (e := 24 * p) (b := 60) (f := 0) (n := k) (c := 60) (by decide)
    rw [Int.zero_add] at e
    refine b_Mod_keep_25 xs F _ _ _ (sh, zs (zcp v 61 (24 * p) 60 0 k), zt w, R) ?_
    simp (discharger := first | assumption | omega) [hM, fI, fL, fV, zs_ar, zt_ar, zs_un, zt_un, zn_c, zu_a, zu_e, zu_j, zix, zi_lit, zl_lit, zi_add, zi_sub, zi_mul, zi_neg, zi_le, zi_lt, zi_eq, zl_add, zl_sub, zl_mul, zi_i2l, zl_l2i, zb0, zb1, zb0', zb1', zi_c0, zi_c1, zb_c, e, e2, ih, i_leT, i_leF, i_ltT, i_ltF, i_eqT, i_eqF]
    exact hF
theorem n_keep (xs : List Int32) (sh : List q_Sh) (v w : Nat → Int → Int) (R : Nat → Nat → Option Nat) (hM : LM sh R) (p : Int) (r1 : -2147483648 ≤ p ∧ p < 2147483648) (Q : Int32 → q_H → Prop) : q_CallI (GG xs) PP kMod_keep [.ref 48, .int (zi p)] (sh, zs v, zt w, R) Q = if 0 ≤ p ∧ p ≤ 3 then Q (zi 1) (sh, zs (zcp (zu (zu v 48 0 0) 62 p 1) 61 (24 * p) 60 0 24), zt w, R) else Q (zi 0) (sh, zs (zu v 48 0 0), zt w, R) := by
  by_cases c : 0 ≤ p ∧ p ≤ 3
  · rw [if_pos c]
    refine cI (fun Q hQ => ?_) Q
    have L := l_keep25 xs sh (zu (zu v 48 0 0) 62 p 1) w R hM p c 0 (by omega) (by omega)
    rw [zcp_0] at L
    refine e_Mod_keep xs _ _ _ (sh, zs v, zt w, R) ?_
    simp (discharger := first | assumption | omega) [hM, fI, fL, fV, zs_ar, zt_ar, zs_un, zt_un, zn_c, zu_a, zu_e, zu_j, zix, zi_lit, zl_lit, zi_add, zi_sub, zi_mul, zi_neg, zi_le, zi_lt, zi_eq, zl_add, zl_sub, zl_mul, zi_i2l, zl_l2i, zb0, zb1, zb0', zb1', zi_c0, zi_c1, zb_c, n_in, c, L]
    exact hQ
  · rw [if_neg c]
    refine cI (fun Q hQ => ?_) Q
    refine e_Mod_keep xs _ _ _ (sh, zs v, zt w, R) ?_
    simp (discharger := first | assumption | omega) [hM, fI, fL, fV, zs_ar, zt_ar, zs_un, zt_un, zn_c, zu_a, zu_e, zu_j, zix, zi_lit, zl_lit, zi_add, zi_sub, zi_mul, zi_neg, zi_le, zi_lt, zi_eq, zl_add, zl_sub, zl_mul, zi_i2l, zl_l2i, zb0, zb1, zb0', zb1', zi_c0, zi_c1, zb_c, n_in, c]
    exact hQ
theorem l_take40 (xs : List Int32) (sh : List q_Sh) (v w : Nat → Int → Int) (R : Nat → Nat → Option Nat) (hM : LM sh R) (p : Int) (hp : 0 ≤ p ∧ p ≤ 3) : ∀ k, 0 ≤ k → k ≤ 24 → ∀ F : Option Value → q_H → Prop, q_Rt (GG xs) PP 73 F 40 [some (.ref 48), some (.int (zi p)), some (.int (zi k))] [] (sh, zs (zcp v 60 0 61 (24 * p) k), zt w, R) = F (some (.int (zi 1))) (sh, zs (zcp v 60 0 61 (24 * p) 24), zt w, R) := by
  refine zdown _ (fun F => cR (fun F hF => ?_) F) (fun k h1 h2 ih F => cR (fun F hF => ?_) F)
  · refine b_Mod_take_40 xs F _ _ _ (sh, zs (zcp v 60 0 61 (24 * p) 24), zt w, R) ?_
    simp (discharger := first | assumption | omega) [hM, fI, fL, fV, zs_ar, zt_ar, zs_un, zt_un, zn_c, zu_a, zu_e, zu_j, zix, zi_lit, zl_lit, zi_add, zi_sub, zi_mul, zi_neg, zi_le, zi_lt, zi_eq, zl_add, zl_sub, zl_mul, zi_i2l, zl_l2i, zb0, zb1, zb0', zb1', zi_c0, zi_c1, zb_c, i_leT, i_leF, i_ltT, i_ltF, i_eqT, i_eqF]
    exact hF
  · have e := zcp_s (v := v) (a := 60) (e := 0) (b := 61) (f := 24 * p) (n := k) h1
    have e2 := zcp_row (v := v) (a := 60) (e := 0) (b := 61) (f := 24 * p) (n := k) (c := 61) (by decide)
    rw [Int.zero_add] at e
    refine b_Mod_take_40 xs F _ _ _ (sh, zs (zcp v 60 0 61 (24 * p) k), zt w, R) ?_
    simp (discharger := first | assumption | omega) [hM, fI, fL, fV, zs_ar, zt_ar, zs_un, zt_un, zn_c, zu_a, zu_e, zu_j, zix, zi_lit, zl_lit, zi_add, zi_sub, zi_mul, zi_neg, zi_le, zi_lt, zi_eq, zl_add, zl_sub, zl_mul, zi_i2l, zl_l2i, zb0, zb1, zb0', zb1', zi_c0, zi_c1, zb_c, e, e2, ih, i_leT, i_leF, i_ltT, i_ltF, i_eqT, i_eqF]
    exact hF
theorem n_take (xs : List Int32) (sh : List q_Sh) (v w : Nat → Int → Int) (R : Nat → Nat → Option Nat) (hM : LM sh R) (hK : ∀ k, 0 ≤ k → k < 4 → 0 ≤ v 62 k ∧ v 62 k ≤ 1) (p : Int) (r1 : -2147483648 ≤ p ∧ p < 2147483648) (Q : Int32 → q_H → Prop) : q_CallI (GG xs) PP kMod_take [.ref 48, .int (zi p)] (sh, zs v, zt w, R) Q = if (0 ≤ p ∧ p ≤ 3) ∧ v 62 p ≠ 0 then Q (zi 1) (sh, zs (zcp (zu v 48 0 0) 60 0 61 (24 * p) 24), zt w, R) else Q (zi 0) (sh, zs (zu v 48 0 0), zt w, R) := by
  by_cases c : 0 ≤ p ∧ p ≤ 3
  · have := hK p c.1 (by omega)
    by_cases c2 : v 62 p = 0
    · rw [if_neg (fun q => q.2 c2)]
      refine cI (fun Q hQ => ?_) Q
      refine e_Mod_take xs _ _ _ (sh, zs v, zt w, R) ?_
      simp (discharger := first | assumption | omega) [hM, fI, fL, fV, zs_ar, zt_ar, zs_un, zt_un, zn_c, zu_a, zu_e, zu_j, zix, zi_lit, zl_lit, zi_add, zi_sub, zi_mul, zi_neg, zi_le, zi_lt, zi_eq, zl_add, zl_sub, zl_mul, zi_i2l, zl_l2i, zb0, zb1, zb0', zb1', zi_c0, zi_c1, zb_c, n_in, c, c2]
      exact hQ
    · rw [if_pos ⟨c, c2⟩]
      refine cI (fun Q hQ => ?_) Q
      have L := l_take40 xs sh (zu v 48 0 0) w R hM p c 0 (by omega) (by omega)
      rw [zcp_0] at L
      refine e_Mod_take xs _ _ _ (sh, zs v, zt w, R) ?_
      simp (discharger := first | assumption | omega) [hM, fI, fL, fV, zs_ar, zt_ar, zs_un, zt_un, zn_c, zu_a, zu_e, zu_j, zix, zi_lit, zl_lit, zi_add, zi_sub, zi_mul, zi_neg, zi_le, zi_lt, zi_eq, zl_add, zl_sub, zl_mul, zi_i2l, zl_l2i, zb0, zb1, zb0', zb1', zi_c0, zi_c1, zb_c, n_in, c, c2, L]
      exact hQ
  · rw [if_neg (fun q => c q.1)]
    refine cI (fun Q hQ => ?_) Q
    refine e_Mod_take xs _ _ _ (sh, zs v, zt w, R) ?_
    simp (discharger := first | assumption | omega) [hM, fI, fL, fV, zs_ar, zt_ar, zs_un, zt_un, zn_c, zu_a, zu_e, zu_j, zix, zi_lit, zl_lit, zi_add, zi_sub, zi_mul, zi_neg, zi_le, zi_lt, zi_eq, zl_add, zl_sub, zl_mul, zi_i2l, zl_l2i, zb0, zb1, zb0', zb1', zi_c0, zi_c1, zb_c, n_in, c]
    exact hQ
/-- count -/
def pKn (v : Nat → Int → Int) : Nat → Int := zsum (fun k => if v 62 k = 0 then 0 else 1)
def pCn (v : Nat → Int → Int) (what : Int) : Int := if 10 ≤ what ∧ what < 30 then (if what % 10 < v 48 1 then (if what < 20 then v 58 (what % 10) else v 59 (what % 10)) else -1) else if what = 0 then v 48 2 else if what = 1 then v 48 1 else if what = 2 then v 48 18 else if what = 3 then pKn v 4 else -1
theorem l_count9 (xs : List Int32) (sh : List q_Sh) (v w : Nat → Int → Int) (R : Nat → Nat → Option Nat) (hM : LM sh R) (hK : ∀ k, 0 ≤ k → k < 4 → 0 ≤ v 62 k ∧ v 62 k ≤ 1) (hA : rA v) (what : Int) (r1 : -2147483648 ≤ what ∧ what < 2147483648) : ∀ k, 0 ≤ k → k ≤ 4 → ∀ F : Option Value → q_H → Prop, q_Rt (GG xs) PP 74 F 9 [some (.ref 48), some (.int (zi what)), some (.int (zi (pKn v k.toNat))), some (.int (zi k))] [] (sh, zs v, zt w, R) = F (some (.int (zi (pCn v what)))) (sh, zs v, zt w, R) := by
  have n1 := hA.2.2.2.2.1.1
  refine zdown _ (fun F => cR (fun F hF => ?_) F) (fun k h1 h2 ih F => cR (fun F hF => ?_) F)
  · unfold pCn at hF
    have L : ¬ (10 ≤ what ∧ what < 30) → q_Rt (GG xs) PP 74 F 88 [some (.ref 48), some (.int (zi what)), some (.int (zi (pKn v 4))), none] [] (sh, zs v, zt w, R) := fun c => by
      rw [if_neg c] at hF
      refine b_Mod_count_88 xs F _ _ _ (sh, zs v, zt w, R) ?_
      simp (discharger := first | assumption | omega) [hM, fI, fL, fV, zs_ar, zt_ar, zs_un, zt_un, zn_c, zu_a, zu_e, zu_j, zix, zi_lit, zl_lit, zi_add, zi_sub, zi_mul, zi_neg, zi_le, zi_lt, zi_eq, zl_add, zl_sub, zl_mul, zi_i2l, zl_l2i, zb0, zb1, zb0', zb1', zi_c0, zi_c1, zb_c]
      refine ⟨fun c0 => ⟨fun c1 => ⟨fun c2 => ⟨fun c3 => ?_, fun c3 => ?_⟩, fun c2 => ?_⟩, fun c1 => ?_⟩, fun c0 => ?_⟩
      · rwa [if_neg c0, if_neg c1, if_neg c2, if_neg c3] at hF
      · rwa [if_neg c0, if_neg c1, if_neg c2, if_pos c3] at hF
      · rwa [if_neg c0, if_neg c1, if_pos c2] at hF
      · rwa [if_neg c0, if_pos c1] at hF
      · rwa [if_pos c0] at hF
    refine b_Mod_count_9 xs F _ _ _ _ (sh, zs v, zt w, R) ?_
    by_cases c : 10 ≤ what ∧ what < 30
    · rw [if_pos c] at hF
      have em : what - what / 10 * 10 = what % 10 := by omega
      by_cases c2 : what % 10 < v 48 1
      · rw [if_pos c2] at hF
        by_cases c3 : what < 20
        · rw [if_pos c3] at hF
          simp (discharger := first | assumption | omega) [hM, fI, fL, fV, zs_ar, zt_ar, zs_un, zt_un, zn_c, zu_a, zu_e, zu_j, zix, zi_lit, zl_lit, zi_add, zi_sub, zi_mul, zi_neg, zi_le, zi_lt, zi_eq, zl_add, zl_sub, zl_mul, zi_i2l, zl_l2i, zb0, zb1, zb0', zb1', zi_c0, zi_c1, zb_c, n_isHour, zi_div, em, i_leT, i_leF, i_ltT, i_ltF, i_eqT, i_eqF]
          exact hF
        · rw [if_neg c3] at hF
          simp (discharger := first | assumption | omega) [hM, fI, fL, fV, zs_ar, zt_ar, zs_un, zt_un, zn_c, zu_a, zu_e, zu_j, zix, zi_lit, zl_lit, zi_add, zi_sub, zi_mul, zi_neg, zi_le, zi_lt, zi_eq, zl_add, zl_sub, zl_mul, zi_i2l, zl_l2i, zb0, zb1, zb0', zb1', zi_c0, zi_c1, zb_c, n_isHour, zi_div, em, i_leT, i_leF, i_ltT, i_ltF, i_eqT, i_eqF]
          exact hF
      · rw [if_neg c2] at hF
        simp (discharger := first | assumption | omega) [hM, fI, fL, fV, zs_ar, zt_ar, zs_un, zt_un, zn_c, zu_a, zu_e, zu_j, zix, zi_lit, zl_lit, zi_add, zi_sub, zi_mul, zi_neg, zi_le, zi_lt, zi_eq, zl_add, zl_sub, zl_mul, zi_i2l, zl_l2i, zb0, zb1, zb0', zb1', zi_c0, zi_c1, zb_c, n_isHour, zi_div, em, i_leT, i_leF, i_ltT, i_ltF, i_eqT, i_eqF]
        exact hF
    · by_cases c4 : what < 10
      · simp (discharger := first | assumption | omega) [hM, fI, fL, fV, zs_ar, zt_ar, zs_un, zt_un, zn_c, zu_a, zu_e, zu_j, zix, zi_lit, zl_lit, zi_add, zi_sub, zi_mul, zi_neg, zi_le, zi_lt, zi_eq, zl_add, zl_sub, zl_mul, zi_i2l, zl_l2i, zb0, zb1, zb0', zb1', zi_c0, zi_c1, zb_c, i_leT, i_leF, i_ltT, i_ltF, i_eqT, i_eqF]
        exact L c
      · simp (discharger := first | assumption | omega) [hM, fI, fL, fV, zs_ar, zt_ar, zs_un, zt_un, zn_c, zu_a, zu_e, zu_j, zix, zi_lit, zl_lit, zi_add, zi_sub, zi_mul, zi_neg, zi_le, zi_lt, zi_eq, zl_add, zl_sub, zl_mul, zi_i2l, zl_l2i, zb0, zb1, zb0', zb1', zi_c0, zi_c1, zb_c, i_leT, i_leF, i_ltT, i_ltF, i_eqT, i_eqF]
        exact L c
  · have e : (k + 1).toNat = k.toNat + 1 := by omega
    have e2 : ((k.toNat : Nat) : Int) = k := by omega
    have := hK k h1 h2
    rw [e] at ih
    simp only [pKn, zsum_s, e2] at ih
    refine b_Mod_count_9 xs F _ _ _ _ (sh, zs v, zt w, R) ?_
    by_cases c : v 62 k = 0
    · rw [if_pos c, Int.add_zero] at ih
      simp (discharger := first | assumption | omega) [hM, fI, fL, fV, zs_ar, zt_ar, zs_un, zt_un, zn_c, zu_a, zu_e, zu_j, zix, zi_lit, zl_lit, zi_add, zi_sub, zi_mul, zi_neg, zi_le, zi_lt, zi_eq, zl_add, zl_sub, zl_mul, zi_i2l, zl_l2i, zb0, zb1, zb0', zb1', zi_c0, zi_c1, zb_c, pKn, ih, c, i_leT, i_leF, i_ltT, i_ltF, i_eqT, i_eqF]
      exact hF
    · rw [if_neg c] at ih
      simp (discharger := first | assumption | omega) [hM, fI, fL, fV, zs_ar, zt_ar, zs_un, zt_un, zn_c, zu_a, zu_e, zu_j, zix, zi_lit, zl_lit, zi_add, zi_sub, zi_mul, zi_neg, zi_le, zi_lt, zi_eq, zl_add, zl_sub, zl_mul, zi_i2l, zl_l2i, zb0, zb1, zb0', zb1', zi_c0, zi_c1, zb_c, pKn, ih, c, i_leT, i_leF, i_ltT, i_ltF, i_eqT, i_eqF]
      exact hF
theorem n_count (xs : List Int32) (sh : List q_Sh) (v w : Nat → Int → Int) (R : Nat → Nat → Option Nat) (hM : LM sh R) (hK : ∀ k, 0 ≤ k → k < 4 → 0 ≤ v 62 k ∧ v 62 k ≤ 1) (hA : rA v) (what : Int) (r1 : -2147483648 ≤ what ∧ what < 2147483648) (Q : Int32 → q_H → Prop) : q_CallI (GG xs) PP kMod_count [.ref 48, .int (zi what)] (sh, zs v, zt w, R) Q = Q (zi (pCn v what)) (sh, zs (zu v 48 0 0), zt w, R) := cI (fun Q hQ => by
  have L := l_count9 xs sh (zu v 48 0 0) w R hM (by simpa [zu] using hK) (rA_0 hA) what r1 0 (by omega) (by omega)
  have ec : pCn (zu v 48 0 0) what = pCn v what := by simp [pCn, pKn, zu]
  have e0 : pKn (zu v 48 0 0) (0 : Int).toNat = 0 := rfl
  rw [e0, ec] at L
  refine e_Mod_count xs _ _ _ (sh, zs v, zt w, R) ?_
  simp (discharger := first | assumption | omega) [hM, fI, fL, fV, zs_ar, zt_ar, zs_un, zt_un, zn_c, zu_a, zu_e, zu_j, zix, zi_lit, zl_lit, zi_add, zi_sub, zi_mul, zi_neg, zi_le, zi_lt, zi_eq, zl_add, zl_sub, zl_mul, zi_i2l, zl_l2i, zb0, zb1, zb0', zb1', zi_c0, zi_c1, zb_c, L]
  exact hQ) Q
