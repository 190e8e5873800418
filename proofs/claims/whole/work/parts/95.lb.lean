/-! The reference looks back on an hour. -/
theorem l_lb77 (xs : List Int32) (sh : List q_Sh) (v w : Nat → Int → Int) (R : Nat → Nat → Option Nat) (hM : LM sh R) (hA : rA v) (h all : Int) (cl : List Nat) (hc : RCw v cl) (hl : cl.length ≤ 125) (ha : 0 ≤ all ∧ all < 3375) (hh : 0 ≤ h ∧ h < 8) (V : Int → Int) (hV : ∀ t, 0 ≤ t → t < 3375 → v 64 (3375 * (h + 1) + t) = V t ∧ 0 ≤ V t ∧ V t ≤ MANY) (F : Option Value → q_H → Prop)
    (hk : q_Rt (GG xs) PP 50 F 8 [some (.ref 48), some (.int (zi h)), none, some (.int (zi (all + 1))), none, none, none, none, none] [] (sh, zs (zu v 64 (3375 * h + all) (lbi v V all cl cl.length)), zt w, R)) :
    ∀ i : Int, 0 ≤ i → i ≤ cl.length → q_Rt (GG xs) PP 50 F 77 [some (.ref 48), some (.int (zi h)), none, some (.int (zi all)), some (.int (zi (lbi v V all cl i.toNat))), some (.int (zi 1)), some (.int (zi i)), none, none] [] (sh, zs v, zt w, R) := by
  have hR := hA.1
  have hC := hA.2.1
  have hN := hA.2.2.2.2.1
  have mn : MANY = 1000000000 := rfl
  have h24 := hc.1
  have lr := fun i => lbi_rng hC hN hR (fun t a b => (hV t a b).2) ha cl i
  refine zdown _ ?_ (fun i h1 h2 ih => ?_)
  · refine b_Mod_lookBack_77 xs F _ _ _ _ _ _ (sh, zs v, zt w, R) ?_
    rw [Int.toNat_natCast]
    simp (discharger := first | assumption | omega) [hM, fI, fL, fV, zs_ar, zt_ar, zs_un, zt_un, zn_c, zu_a, zu_e, zu_j, zix, zi_lit, zl_lit, zi_add, zi_sub, zi_mul, zi_neg, zi_le, zi_lt, zi_eq, zl_add, zl_sub, zl_mul, zi_i2l, zl_l2i, zb0, zb1, zb0', zb1', zi_c0, zi_c1, zb_c, i_leT, i_leF, i_ltT, i_ltF, i_eqT, i_eqF]
    exact hk
  · rw [show (i + 1).toNat = i.toNat + 1 by omega] at ih
    have l1 := lr i.toNat
    have w0 := hc.2 i.toNat (by omega)
    rw [show ((i.toNat : Nat) : Int) = i by omega] at w0
    have es : lbi v V all cl (i.toNat + 1) = (if jvl v V all (cl.getD i.toNat 0 : Nat) < lbi v V all cl i.toNat then jvl v V all (cl.getD i.toNat 0 : Nat) else lbi v V all cl i.toNat) := rfl
    rw [es] at ih
    generalize lbi v V all cl i.toNat = le at *
    generalize ((cl.getD i.toNat 0 : Nat) : Int) = c at *
    have jx := jxC_rng hR (c := c) ha
    have jc := jcC_rng hC hN (c := c) ha
    have s1 := n_next xs sh v w R hM hR hN all c i w0 ha (by omega)
    have s2 := n_wayCost xs sh v w R hM hC hN all c i w0 ha (by omega)
    have K125 : ∀ x, x = (if jxC v all c < 0 then 1000000000 else V (jxC v all c)) → q_Rt (GG xs) PP 50 F 125 [some (.ref 48), some (.int (zi h)), none, some (.int (zi all)), some (.int (zi le)), some (.int (zi 1)), some (.int (zi i)), none, none] [.int (zi x)] (sh, zs v, zt w, R) := by
      intro x hx
      have xr : 0 ≤ x ∧ x ≤ 1000000000 := by
        rw [hx]
        split
        · omega
        · have := (hV (jxC v all c) (by omega) (by omega)).2
          omega
      have ej : jvl v V all c = (if x = 1000000000 then 1000000000 else x + jcC v all c) := by
        unfold jvl
        rw [mn]
        by_cases q : jxC v all c < 0
        · rw [if_pos q] at hx ⊢
          rw [if_pos hx]
        · rw [if_neg q] at hx ⊢
          rw [hx]
      rw [ej] at ih
      refine b_Mod_lookBack_125 xs F _ _ _ _ _ _ _ (sh, zs v, zt w, R) ?_
      by_cases q : x = 1000000000
      · rw [if_pos q, if_neg (by omega)] at ih
        simp (discharger := first | assumption | omega) [hM, fI, fL, fV, zs_ar, zt_ar, zs_un, zt_un, zn_c, zu_a, zu_e, zu_j, zix, zi_lit, zl_lit, zi_add, zi_sub, zi_mul, zi_neg, zi_le, zi_lt, zi_eq, zl_add, zl_sub, zl_mul, zi_i2l, zl_l2i, zb0, zb1, zb0', zb1', zi_c0, zi_c1, zb_c, i_leT, i_leF, i_ltT, i_ltF, i_eqT, i_eqF]
        exact ih
      · rw [if_neg q] at ih
        by_cases q2 : x + jcC v all c < le
        · rw [if_pos q2] at ih
          simp (discharger := first | assumption | omega) [hM, fI, fL, fV, zs_ar, zt_ar, zs_un, zt_un, zn_c, zu_a, zu_e, zu_j, zix, zi_lit, zl_lit, zi_add, zi_sub, zi_mul, zi_neg, zi_le, zi_lt, zi_eq, zl_add, zl_sub, zl_mul, zi_i2l, zl_l2i, zb0, zb1, zb0', zb1', zi_c0, zi_c1, zb_c, s2, i_leT, i_leF, i_ltT, i_ltF, i_eqT, i_eqF]
          exact ih
        · rw [if_neg q2] at ih
          simp (discharger := first | assumption | omega) [hM, fI, fL, fV, zs_ar, zt_ar, zs_un, zt_un, zn_c, zu_a, zu_e, zu_j, zix, zi_lit, zl_lit, zi_add, zi_sub, zi_mul, zi_neg, zi_le, zi_lt, zi_eq, zl_add, zl_sub, zl_mul, zi_i2l, zl_l2i, zb0, zb1, zb0', zb1', zi_c0, zi_c1, zb_c, s2, i_leT, i_leF, i_ltT, i_ltF, i_eqT, i_eqF]
          exact ih
    refine b_Mod_lookBack_77 xs F _ _ _ _ _ _ (sh, zs v, zt w, R) ?_
    by_cases q : jxC v all c < 0
    · have K := K125 1000000000 (by rw [if_pos q])
      simp (discharger := first | assumption | omega) [hM, fI, fL, fV, zs_ar, zt_ar, zs_un, zt_un, zn_c, zu_a, zu_e, zu_j, zix, zi_lit, zl_lit, zi_add, zi_sub, zi_mul, zi_neg, zi_le, zi_lt, zi_eq, zl_add, zl_sub, zl_mul, zi_i2l, zl_l2i, zb0, zb1, zb0', zb1', zi_c0, zi_c1, zb_c, s1, i_leT, i_leF, i_ltT, i_ltF, i_eqT, i_eqF]
      exact K
    · have K := K125 (V (jxC v all c)) (by rw [if_neg q])
      have e := (hV (jxC v all c) (by omega) (by omega)).1
      simp (discharger := first | assumption | omega) [hM, fI, fL, fV, zs_ar, zt_ar, zs_un, zt_un, zn_c, zu_a, zu_e, zu_j, zix, zi_lit, zl_lit, zi_add, zi_sub, zi_mul, zi_neg, zi_le, zi_lt, zi_eq, zl_add, zl_sub, zl_mul, zi_i2l, zl_l2i, zb0, zb1, zb0', zb1', zi_c0, zi_c1, zb_c, s1, e, i_leT, i_leF, i_ltT, i_ltF, i_eqT, i_eqF]
      exact K
/-- but the values ahead the same -/
def s64 (v v' : Nat → Int → Int) : Prop := ∀ b, b ≠ 64 → v' b = v b
theorem s64_A {v v' : Nat → Int → Int} (s : s64 v v') (hA : rA v) : rA v' := by
  obtain ⟨a1, a2, a3, a4, a5, a6⟩ := hA
  refine ⟨fun u h1 h2 => ?_, ?_, fun u h1 h2 => ?_, fun k h1 h2 => ?_, ?_, fun u h1 h2 => ?_⟩
  · rw [s 49 (by decide), s 50 (by decide), s 51 (by decide), s 52 (by decide), s 53 (by decide), s 56 (by decide), s 57 (by decide)]
    exact a1 u h1 h2
  · unfold rC
    rw [s 54 (by decide), s 55 (by decide)]
    exact a2
  · rw [s 48 (by decide)] at h2
    rw [s 49 (by decide), s 50 (by decide), s 51 (by decide), s 52 (by decide), s 53 (by decide), s 56 (by decide), s 57 (by decide)]
    exact a3 u h1 h2
  · rw [s 58 (by decide), s 59 (by decide), s 63 (by decide)]
    exact a4 k h1 h2
  · unfold rN
    rw [s 48 (by decide)]
    exact a5
  · rw [s 60 (by decide)]
    exact a6 u h1 h2
/-- what the next states and the costs read -/
def sJ (v v' : Nat → Int → Int) : Prop := (∀ b, 49 ≤ b → b ≤ 55 → v' b = v b) ∧ v' 48 2 = v 48 2
theorem sJ_jx {v v' : Nat → Int → Int} (s : sJ v v') : jxC v' = jxC v := by
  funext a c
  unfold jxC jnC pB
  rw [s.1 49 (by decide) (by decide), s.1 50 (by decide) (by decide), s.1 51 (by decide) (by decide), s.1 52 (by decide) (by decide), s.1 53 (by decide) (by decide), s.2]
theorem sJ_jc {v v' : Nat → Int → Int} (s : sJ v v') : jcC v' = jcC v := by
  funext a c
  unfold jcC pC
  rw [s.1 54 (by decide) (by decide), s.1 55 (by decide) (by decide), s.2]
theorem sJ_lbi {v v' : Nat → Int → Int} (s : sJ v v') (V : Int → Int) (all : Int) (cl : List Nat) : ∀ i, lbi v' V all cl i = lbi v V all cl i
  | 0 => rfl
  | i + 1 => by
    unfold lbi
    rw [sJ_lbi s V all cl i]
    unfold jvl
    rw [sJ_jx s, sJ_jc s]
theorem sJ_lbv {v v' : Nat → Int → Int} (s : sJ v v') (V : Int → Int) (all : Int) (cl : List Nat) : lbv v' V all cl = lbv v V all cl := by
  unfold lbv isv
  rw [sJ_lbi s, s.2]
theorem s64_J {v v' : Nat → Int → Int} (s : s64 v v') : sJ v v' := ⟨fun b h1 h2 => s b (by omega), by rw [s 48 (by decide)]⟩
theorem sWy_J {v v' : Nat → Int → Int} (s : sWy v v') : sJ v v' := ⟨fun b h1 h2 => s.1 b (by omega) (by omega), s.2 2 (by decide)⟩
/-- the values of the first k states of an hour laid down -/
def lbw (v : Nat → Int → Int) (h : Int) (V : Int → Int) (cl : List Nat) (k : Int) : Nat → Int → Int := fun b j => if b = 64 ∧ 3375 * h ≤ j ∧ j < 3375 * h + k then lbv v V (j - 3375 * h) cl else v b j
theorem lbw_s64 (v : Nat → Int → Int) (h : Int) (V : Int → Int) (cl : List Nat) (k : Int) : s64 v (lbw v h V cl k) := fun b hb => by
  funext j
  unfold lbw
  rw [if_neg (fun q => hb q.1)]
theorem lbw_0 {v : Nat → Int → Int} {h : Int} {V : Int → Int} {cl : List Nat} : lbw v h V cl 0 = v := by
  funext b j
  unfold lbw
  rw [if_neg (by omega)]
theorem lbw_s {v : Nat → Int → Int} {h : Int} {V : Int → Int} {cl : List Nat} {k : Int} (hk : 0 ≤ k) : zu (lbw v h V cl k) 64 (3375 * h + k) (lbv v V k cl) = lbw v h V cl (k + 1) := by
  funext b j
  unfold zu lbw
  by_cases q : b = 64 ∧ j = 3375 * h + k
  · rw [if_pos q, if_pos (by omega), show j - 3375 * h = k by omega]
  · rw [if_neg q]
    by_cases q2 : b = 64 ∧ 3375 * h ≤ j ∧ j < 3375 * h + k
    · rw [if_pos q2, if_pos (by omega)]
    · rw [if_neg q2, if_neg (by omega)]
theorem l_lb8 (xs : List Int32) (sh : List q_Sh) (v w : Nat → Int → Int) (R : Nat → Nat → Option Nat) (hM : LM sh R) (hA : rA v) (h : Int) (cl : List Nat) (hc : RCw v cl) (hl : cl.length ≤ 125) (hh : 0 ≤ h ∧ h < 8) (V : Int → Int) (hV : ∀ t, 0 ≤ t → t < 3375 → v 64 (3375 * (h + 1) + t) = V t ∧ 0 ≤ V t ∧ V t ≤ MANY) (F : Option Value → q_H → Prop) (hF : F none (sh, zs (lbw v h V cl 3375), zt w, R)) :
    ∀ all : Int, 0 ≤ all → all ≤ 3375 → q_Rt (GG xs) PP 50 F 8 [some (.ref 48), some (.int (zi h)), none, some (.int (zi all)), none, none, none, none, none] [] (sh, zs (lbw v h V cl all), zt w, R) := by
  refine zdown _ ?_ (fun all h1 h2 ih => ?_)
  · refine b_Mod_lookBack_8 xs F _ _ _ _ ?_
    simp (discharger := first | assumption | omega) [fI, fL, fV, zs_ar, zt_ar, zs_un, zt_un, zn_c, zu_a, zu_e, zu_j, zix, zi_lit, zl_lit, zi_add, zi_sub, zi_mul, zi_neg, zi_le, zi_lt, zi_eq, zl_add, zl_sub, zl_mul, zi_i2l, zl_l2i, zb0, zb1, zb0', zb1', zi_c0, zi_c1, zb_c, i_leT, i_leF, i_ltT, i_ltF, i_eqT, i_eqF]
    exact hF
  · have s := lbw_s64 v h V cl all
    have hA' := s64_A s hA
    have n2 := hA'.2.2.2.2.1.2
    have e1 := s64_J s
    have hc' : RCw (lbw v h V cl all) cl := by
      unfold RCw
      rw [s 48 (by decide), s 68 (by decide)]
      exact hc
    have hV' : ∀ t, 0 ≤ t → t < 3375 → lbw v h V cl all 64 (3375 * (h + 1) + t) = V t ∧ 0 ≤ V t ∧ V t ≤ MANY := fun t t1 t2 => by
      have := hV t t1 t2
      unfold lbw
      rw [if_neg (by omega)]
      exact this
    have st := lbw_s (v := v) (h := h) (V := V) (cl := cl) h1
    rw [← st] at ih
    have lv := sJ_lbv e1 V all cl
    have li := fun i => sJ_lbi e1 V all cl i
    have es : v 48 2 = lbw v h V cl all 48 2 := by rw [s 48 (by decide)]
    have h24 := hc'.1
    have K77 := fun q : isv v all => l_lb77 xs sh (lbw v h V cl all) w R hM hA' h all cl hc' hl ⟨h1, h2⟩ hh V hV' F (by
      rw [li]
      have : lbv v V all cl = lbi v V all cl cl.length := by unfold lbv; rw [if_pos q]
      rw [← this]
      exact ih) 0 (by omega) (by omega)
    have N77 : ¬ isv v all → q_Rt (GG xs) PP 50 F 77 [some (.ref 48), some (.int (zi h)), none, some (.int (zi all)), some (.int (zi 1000000000)), some (.int (zi 0)), some (.int (zi 0)), none, none] [] (sh, zs (lbw v h V cl all), zt w, R) := fun q => by
      have : lbv v V all cl = 1000000000 := by unfold lbv; rw [if_neg q]; rfl
      rw [this] at ih
      refine b_Mod_lookBack_77 xs F _ _ _ _ _ _ _ ?_
      by_cases z : cl.length = 0
      · rw [z] at h24
        simp (discharger := first | assumption | omega) [hM, fI, fL, fV, zs_ar, zt_ar, zs_un, zt_un, zn_c, zu_a, zu_e, zu_j, zix, zi_lit, zl_lit, zi_add, zi_sub, zi_mul, zi_neg, zi_le, zi_lt, zi_eq, zl_add, zl_sub, zl_mul, zi_i2l, zl_l2i, zb0, zb1, zb0', zb1', zi_c0, zi_c1, zb_c, h24, i_leT, i_leF, i_ltT, i_ltF, i_eqT, i_eqF]
        exact ih
      · simp (discharger := first | assumption | omega) [hM, fI, fL, fV, zs_ar, zt_ar, zs_un, zt_un, zn_c, zu_a, zu_e, zu_j, zix, zi_lit, zl_lit, zi_add, zi_sub, zi_mul, zi_neg, zi_le, zi_lt, zi_eq, zl_add, zl_sub, zl_mul, zi_i2l, zl_l2i, zb0, zb1, zb0', zb1', zi_c0, zi_c1, zb_c, h24, i_leT, i_leF, i_ltT, i_ltF, i_eqT, i_eqF]
        exact ih
    have Y77 : isv v all → q_Rt (GG xs) PP 50 F 77 [some (.ref 48), some (.int (zi h)), none, some (.int (zi all)), some (.int (zi 1000000000)), some (.int (zi 1)), some (.int (zi 0)), none, none] [] (sh, zs (lbw v h V cl all), zt w, R) := fun q => K77 q
    clear K77
    unfold isv at N77 Y77
    rw [es] at N77 Y77
    generalize lbw v h V cl all = v2 at *
    have m15 : all - all / 15 * 15 = all % 15 := by omega
    have m152 : all / 15 - all / 15 / 15 * 15 = all / 15 % 15 := by omega
    have K52 : (0 < v2 48 2 ∨ all / 225 = 0) → (1 < v2 48 2 ∨ all / 15 % 15 = 0) → q_Rt (GG xs) PP 50 F 52 [some (.ref 48), some (.int (zi h)), none, some (.int (zi all)), some (.int (zi 1000000000)), none, none, none, none] [] (sh, zs v2, zt w, R) := fun q1 q2 => by
      refine b_Mod_lookBack_52 xs F _ _ _ _ _ ?_
      by_cases z : 2 < v2 48 2
      · have K := Y77 ⟨q1, q2, Or.inl z⟩
        simp (discharger := first | assumption | omega) [hM, fI, fL, fV, zs_ar, zt_ar, zs_un, zt_un, zn_c, zu_a, zu_e, zu_j, zix, zi_lit, zl_lit, zi_add, zi_sub, zi_mul, zi_neg, zi_le, zi_lt, zi_eq, zl_add, zl_sub, zl_mul, zi_i2l, zl_l2i, zb0, zb1, zb0', zb1', zi_c0, zi_c1, zb_c, i_leT, i_leF, i_ltT, i_ltF, i_eqT, i_eqF]
        exact K
      · by_cases z2 : all % 15 = 0
        · have K := Y77 ⟨q1, q2, Or.inr z2⟩
          simp (discharger := first | assumption | omega) [hM, fI, fL, fV, zs_ar, zt_ar, zs_un, zt_un, zn_c, zu_a, zu_e, zu_j, zix, zi_lit, zl_lit, zi_add, zi_sub, zi_mul, zi_neg, zi_le, zi_lt, zi_eq, zl_add, zl_sub, zl_mul, zi_i2l, zl_l2i, zb0, zb1, zb0', zb1', zi_c0, zi_c1, zb_c, zi_div, m15, i_leT, i_leF, i_ltT, i_ltF, i_eqT, i_eqF]
          exact K
        · have K := N77 (fun q => by rcases q.2.2 with q | q <;> omega)
          simp (discharger := first | assumption | omega) [hM, fI, fL, fV, zs_ar, zt_ar, zs_un, zt_un, zn_c, zu_a, zu_e, zu_j, zix, zi_lit, zl_lit, zi_add, zi_sub, zi_mul, zi_neg, zi_le, zi_lt, zi_eq, zl_add, zl_sub, zl_mul, zi_i2l, zl_l2i, zb0, zb1, zb0', zb1', zi_c0, zi_c1, zb_c, zi_div, m15, i_leT, i_leF, i_ltT, i_ltF, i_eqT, i_eqF]
          exact K
    have K34 : (0 < v2 48 2 ∨ all / 225 = 0) → q_Rt (GG xs) PP 50 F 34 [some (.ref 48), some (.int (zi h)), none, some (.int (zi all)), some (.int (zi 1000000000)), none, none, none, none] [] (sh, zs v2, zt w, R) := fun q1 => by
      refine b_Mod_lookBack_34 xs F _ _ _ _ _ ?_
      by_cases z : 1 < v2 48 2
      · have K := K52 q1 (Or.inl z)
        simp (discharger := first | assumption | omega) [hM, fI, fL, fV, zs_ar, zt_ar, zs_un, zt_un, zn_c, zu_a, zu_e, zu_j, zix, zi_lit, zl_lit, zi_add, zi_sub, zi_mul, zi_neg, zi_le, zi_lt, zi_eq, zl_add, zl_sub, zl_mul, zi_i2l, zl_l2i, zb0, zb1, zb0', zb1', zi_c0, zi_c1, zb_c, i_leT, i_leF, i_ltT, i_ltF, i_eqT, i_eqF]
        exact K
      · by_cases z2 : all / 15 % 15 = 0
        · have K := K52 q1 (Or.inr z2)
          simp (discharger := first | assumption | omega) [hM, fI, fL, fV, zs_ar, zt_ar, zs_un, zt_un, zn_c, zu_a, zu_e, zu_j, zix, zi_lit, zl_lit, zi_add, zi_sub, zi_mul, zi_neg, zi_le, zi_lt, zi_eq, zl_add, zl_sub, zl_mul, zi_i2l, zl_l2i, zb0, zb1, zb0', zb1', zi_c0, zi_c1, zb_c, zi_div, m152, i_leT, i_leF, i_ltT, i_ltF, i_eqT, i_eqF]
          exact K
        · have K := N77 (fun q => by rcases q.2.1 with q | q <;> omega)
          simp (discharger := first | assumption | omega) [hM, fI, fL, fV, zs_ar, zt_ar, zs_un, zt_un, zn_c, zu_a, zu_e, zu_j, zix, zi_lit, zl_lit, zi_add, zi_sub, zi_mul, zi_neg, zi_le, zi_lt, zi_eq, zl_add, zl_sub, zl_mul, zi_i2l, zl_l2i, zb0, zb1, zb0', zb1', zi_c0, zi_c1, zb_c, zi_div, m152, i_leT, i_leF, i_ltT, i_ltF, i_eqT, i_eqF]
          exact K
    refine b_Mod_lookBack_8 xs F _ _ _ _ ?_
    by_cases z : 0 < v2 48 2
    · have K := K34 (Or.inl z)
      simp (discharger := first | assumption | omega) [hM, fI, fL, fV, zs_ar, zt_ar, zs_un, zt_un, zn_c, zu_a, zu_e, zu_j, zix, zi_lit, zl_lit, zi_add, zi_sub, zi_mul, zi_neg, zi_le, zi_lt, zi_eq, zl_add, zl_sub, zl_mul, zi_i2l, zl_l2i, zb0, zb1, zb0', zb1', zi_c0, zi_c1, zb_c, i_leT, i_leF, i_ltT, i_ltF, i_eqT, i_eqF]
      exact K
    · by_cases z2 : all / 225 = 0
      · have K := K34 (Or.inr z2)
        simp (discharger := first | assumption | omega) [hM, fI, fL, fV, zs_ar, zt_ar, zs_un, zt_un, zn_c, zu_a, zu_e, zu_j, zix, zi_lit, zl_lit, zi_add, zi_sub, zi_mul, zi_neg, zi_le, zi_lt, zi_eq, zl_add, zl_sub, zl_mul, zi_i2l, zl_l2i, zb0, zb1, zb0', zb1', zi_c0, zi_c1, zb_c, zi_div, i_leT, i_leF, i_ltT, i_ltF, i_eqT, i_eqF]
        exact K
      · have K := N77 (fun q => by rcases q.1 with q | q <;> omega)
        simp (discharger := first | assumption | omega) [hM, fI, fL, fV, zs_ar, zt_ar, zs_un, zt_un, zn_c, zu_a, zu_e, zu_j, zix, zi_lit, zl_lit, zi_add, zi_sub, zi_mul, zi_neg, zi_le, zi_lt, zi_eq, zl_add, zl_sub, zl_mul, zi_i2l, zl_l2i, zb0, zb1, zb0', zb1', zi_c0, zi_c1, zb_c, zi_div, i_leT, i_leF, i_ltT, i_ltF, i_eqT, i_eqF]
        exact K
theorem RFLn_len {v : Nat → Int → Int} {as : Prop} [Decidable as] {h : Int} : ∀ n, (RFLn v as h n).length ≤ n
  | 0 => Nat.le_refl _
  | n + 1 => by
    have ih := RFLn_len (v := v) (as := as) (h := h) n
    unfold RFLn
    split
    · rw [List.length_append, List.length_singleton]
      omega
    · omega
theorem n_lookBack (xs : List Int32) (sh : List q_Sh) (v w : Nat → Int → Int) (R : Nat → Nat → Option Nat) (hM : LM sh R) (hA : rA v) (h : Int) (as : Prop) [Decidable as] (hh : 0 ≤ h ∧ h < 8) (hV : ∀ t, 0 ≤ t → t < 3375 → 0 ≤ v 64 (3375 * (h + 1) + t) ∧ v 64 (3375 * (h + 1) + t) ≤ MANY) (Q : q_H → Prop) : q_CallV (GG xs) PP kMod_lookBack [.ref 48, .int (zi h), .int (zb as)] (sh, zs v, zt w, R) Q = Q (sh, zs (lbw (fwn v as h 125) h (fun t => v 64 (3375 * (h + 1) + t)) (RFLn v as h 125) 3375), zt w, R) := cV (fun Q hQ => by
  have s := fwn_sWy v as h 125
  have K := l_lb8 xs sh (fwn v as h 125) w R hM (sWy_A s hA) h (RFLn v as h 125) (fwn_RC 125) (RFLn_len 125) hh (fun t => v 64 (3375 * (h + 1) + t)) (fun t t1 t2 => ⟨by rw [s.1 64 (by decide) (by decide)], hV t t1 t2⟩) (q_FV Q) hQ 0 (by omega) (by omega)
  rw [lbw_0] at K
  refine e_Mod_lookBack xs _ _ _ _ (sh, zs v, zt w, R) ?_
  simp (discharger := first | assumption | omega) [hM, fI, fL, fV, zs_ar, zt_ar, zs_un, zt_un, zn_c, zu_a, zu_e, zu_j, zix, zi_lit, zl_lit, zi_add, zi_sub, zi_mul, zi_neg, zi_le, zi_lt, zi_eq, zl_add, zl_sub, zl_mul, zi_i2l, zl_l2i, zb0, zb1, zb0', zb1', zi_c0, zi_c1, zb_c, n_findWays]
  exact K) Q
