/-! The reference's joint plan: the plan laid down. -/
def jco (v : Nat → Int → Int) (as : Prop) [Decidable as] (k : Int) : Int := (jcd v as (v 48 1) k.toNat (jS v as (v 48 1) k.toNat) : Nat)
def jtw (v : Nat → Int → Int) (as : Prop) [Decidable as] (h u : Int) : Int → Int := fun j => if (0 ≤ j ∧ j < 24) ∧ j / 8 < v 48 2 ∧ (j % 8 < h ∨ (j % 8 = h ∧ j / 8 < u)) then pT v (j / 8) (zdg (jco v as (j % 8)) (j / 8)) else v 60 j
theorem pT_rng {v : Nat → Int → Int} (hR : rU v) {u c : Int} (hu : 0 ≤ u ∧ u < 3) (hc : 0 ≤ c ∧ c < 5) : 0 ≤ pT v u c ∧ pT v u c ≤ 63 := by
  obtain ⟨r1, -⟩ := hR u hu.1 hu.2
  unfold pT
  split <;> omega
theorem jtw_rng {v : Nat → Int → Int} (hA : rA v) (as : Prop) [Decidable as] (h u : Int) (j : Int) (h1 : 0 ≤ j) (h2 : j < 24) : 0 ≤ jtw v as h u j ∧ jtw v as h u j ≤ 63 := by
  unfold jtw
  split
  · exact pT_rng hA.1 (by omega) (zdg_rng _ _)
  · exact hA.2.2.2.2.2 j h1 h2
theorem jtw_s {v : Nat → Int → Int} (as : Prop) [Decidable as] {h u : Int} (hh : 0 ≤ h ∧ h < 8) (hu : 0 ≤ u ∧ u < 3) (hs : u < v 48 2) (j : Int) : (if j = 8 * u + h then pT v u (zdg (jco v as h) u) else jtw v as h u j) = jtw v as h (u + 1) j := by
  by_cases q : j = 8 * u + h
  · rw [if_pos q]
    unfold jtw
    rw [if_pos (by omega), show j / 8 = u by omega, show j % 8 = h by omega]
  · rw [if_neg q]
    unfold jtw
    by_cases q2 : (0 ≤ j ∧ j < 24) ∧ j / 8 < v 48 2 ∧ (j % 8 < h ∨ (j % 8 = h ∧ j / 8 < u))
    · rw [if_pos q2, if_pos (by omega)]
    · rw [if_neg q2, if_neg (by omega)]
theorem jtw_n {v : Nat → Int → Int} (as : Prop) [Decidable as] {h : Int} (hh : 0 ≤ h) : jtw v as h (v 48 2) = jtw v as (h + 1) 0 := by
  funext j
  unfold jtw
  by_cases q2 : (0 ≤ j ∧ j < 24) ∧ j / 8 < v 48 2 ∧ (j % 8 < h ∨ (j % 8 = h ∧ j / 8 < v 48 2))
  · rw [if_pos q2, if_pos (by omega)]
  · rw [if_neg q2, if_neg (by omega)]
/-- what holds as an hour of the plan begins -/
def PI (v v' : Nat → Int → Int) (as : Prop) [Decidable as] (h u : Int) : Prop := sP v v' ∧ aV v v' as 0 ∧ ∀ j, v' 60 j = jtw v as h u j
theorem PI_A {v v' : Nat → Int → Int} {as : Prop} [Decidable as] {h u : Int} (hA : rA v) (p : PI v v' as h u) : rA v' := sP_A p.1 (fun j h1 h2 => by rw [p.2.2 j]; exact jtw_rng hA as h u j h1 h2) hA
theorem l_pl249 (xs : List Int32) (sh : List q_Sh) (v w : Nat → Int → Int) (R : Nat → Nat → Option Nat) (hM : LM sh R) (hA : rA v) (as : Prop) [Decidable as] (h all to cost i : Int) (hh : 0 ≤ h ∧ h < 8) (hi : 0 ≤ i ∧ i < 125) (F : Option Value → q_H → Prop)
    (hE : ∀ v', PI v v' as (h + 1) 0 → q_Rt (GG xs) PP 51 F 110 [some (.ref 48), some (.int (zb as)), some (.int (zi to)), some (.int (zi cost)), some (.int (zi (h + 1))), none, none, none, none] [] (sh, zs v', zt w, R)) :
    ∀ u : Int, 0 ≤ u → u ≤ v 48 2 → ∀ v', PI v v' as h u → (∀ u, 0 ≤ u → u < 3 → v' 68 (3 * i + u) = zdg (jco v as h) u) → q_Rt (GG xs) PP 51 F 249 [some (.ref 48), some (.int (zb as)), none, some (.int (zi cost)), some (.int (zi h)), some (.int (zi i)), none, some (.int (zi to)), some (.int (zi u))] [] (sh, zs v', zt w, R) := by
  have n2 := hA.2.2.2.2.1.2
  refine zdown _ ?_ (fun u h1 h2 ih => ?_)
  · intro v' p hw
    have e2 : v' 48 2 = v 48 2 := p.1.2 2 (by decide)
    have K := hE v' (by
      refine ⟨p.1, p.2.1, fun j => ?_⟩
      rw [p.2.2 j, jtw_n as hh.1])
    refine b_Mod_planned_249 xs F _ _ _ _ _ _ _ _ ?_
    simp (discharger := first | assumption | omega) [hM, fI, fL, fV, zs_ar, zt_ar, zs_un, zt_un, zn_c, zu_a, zu_e, zu_j, zix, zi_lit, zl_lit, zi_add, zi_sub, zi_mul, zi_neg, zi_le, zi_lt, zi_eq, zl_add, zl_sub, zl_mul, zi_i2l, zl_l2i, zb0, zb1, zb0', zb1', zi_c0, zi_c1, zb_c, e2, i_leT, i_leF, i_ltT, i_ltF, i_eqT, i_eqF]
    exact K
  · intro v' p hw
    have e2 : v' 48 2 = v 48 2 := p.1.2 2 (by decide)
    have hu3 : 0 ≤ u ∧ u < 3 := by omega
    have w1 := hw u h1 hu3.2
    have z := zdg_rng (jco v as h) u
    have s1 := n_told xs sh v' w R hM u (zdg (jco v as h) u) hu3 z
    have ep : pT v' u (zdg (jco v as h) u) = pT v u (zdg (jco v as h) u) := by unfold pT; rw [p.1.1 49 (by decide) (by decide) (by decide) (by decide)]
    rw [ep] at s1
    have K := ih (zu v' 60 (8 * u + h) (pT v u (zdg (jco v as h) u))) (by
      refine ⟨⟨fun b b1 b2 b3 b4 => by rw [zu_row b2]; exact p.1.1 b b1 b2 b3 b4, fun j hj => by rw [zu_a (by omega)]; exact p.1.2 j hj⟩, fun a t q1 q2 q3 q4 q5 => by rw [zu_a (by omega)]; exact p.2.1 a t q1 q2 q3 q4 q5, fun j => ?_⟩
      rw [← jtw_s as hh hu3 h2 j, ← p.2.2 j]
      unfold zu
      by_cases q : j = 8 * u + h
      · rw [if_pos ⟨rfl, q⟩, if_pos q]
      · rw [if_neg (fun z => q z.2), if_neg q]) (fun k k1 k2 => by rw [zu_a (by omega)]; exact hw k k1 k2)
    refine b_Mod_planned_249 xs F _ _ _ _ _ _ _ _ ?_
    simp (discharger := first | assumption | omega) [hM, fI, fL, fV, zs_ar, zt_ar, zs_un, zt_un, zn_c, zu_a, zu_e, zu_j, zix, zi_lit, zl_lit, zi_add, zi_sub, zi_mul, zi_neg, zi_le, zi_lt, zi_eq, zl_add, zl_sub, zl_mul, zi_i2l, zl_l2i, zb0, zb1, zb0', zb1', zi_c0, zi_c1, zb_c, e2, w1, s1, i_leT, i_leF, i_ltT, i_ltF, i_eqT, i_eqF]
    exact K
theorem l_pl132 (xs : List Int32) (sh : List q_Sh) (v w : Nat → Int → Int) (R : Nat → Nat → Option Nat) (hM : LM sh R) (hA : rA v) (as : Prop) [Decidable as] (h cost : Int) (all : Int) (ea : all = jS v as (v 48 1) h.toNat) (ha : 0 ≤ all ∧ all < 3375) (hh : 0 ≤ h ∧ h < v 48 1) (hf : rWv v as (v 48 1) (v 48 1 - h).toNat all < MANY) (v1 : Nat → Int → Int) (p : PI v v1 as h 0) (hc : RCw v1 (RFLn v as h 125)) (F : Option Value → q_H → Prop)
    (hE : ∀ v', PI v v' as (h + 1) 0 → q_Rt (GG xs) PP 51 F 110 [some (.ref 48), some (.int (zb as)), some (.int (zi (jS v as (v 48 1) (h.toNat + 1)))), some (.int (zi cost)), some (.int (zi (h + 1))), none, none, none, none] [] (sh, zs v', zt w, R)) :
    q_Rt (GG xs) PP 51 F 132 [some (.ref 48), some (.int (zb as)), some (.int (zi all)), some (.int (zi cost)), some (.int (zi h)), some (.int (zi 0)), some (.int (zi 0)), none, none] [] (sh, zs v1, zt w, R) := by
  have n1 := hA.2.2.2.2.1.1
  have n2 := hA.2.2.2.2.1.2
  have mn : MANY = 1000000000 := rfl
  have hA1 := PI_A hA p
  have j1 := sP_J p.1
  have er : (v 48 1 - h).toNat = (v 48 1 - (h + 1)).toNat + 1 := by omega
  rw [er] at hf
  obtain ⟨-, d, d1, d2⟩ := jok_of hA as (v 48 1) (v 48 1 - (h + 1)).toNat ha hf
  rw [show v 48 1 - (((v 48 1 - (h + 1)).toNat + 1 : Nat) : Int) = h by omega] at d1 d2
  have ll := RFLn_len (v := v) (as := as) (h := h) 125
  obtain ⟨f1, f2, f3, f4⟩ := fsI_at (v := v) (V := rWv v as (v 48 1) (v 48 1 - (h + 1)).toNat) (m := rWv v as (v 48 1) ((v 48 1 - (h + 1)).toNat + 1) all) (all := all) (cl := RFLn v as h 125) 125 0 ⟨d, by omega, by omega, d2⟩
  have f5 : fsI v (rWv v as (v 48 1) (v 48 1 - (h + 1)).toNat) (rWv v as (v 48 1) ((v 48 1 - (h + 1)).toNat + 1) all) all (RFLn v as h 125) 125 0 ≤ d := by
    rcases Nat.lt_or_ge d (fsI v (rWv v as (v 48 1) (v 48 1 - (h + 1)).toNat) (rWv v as (v 48 1) ((v 48 1 - (h + 1)).toNat + 1) all) all (RFLn v as h 125) 125 0) with z | z
    · exact absurd d2 (f4 d (by omega) z)
    · exact z
  have ec : (((RFLn v as h 125).getD (fsI v (rWv v as (v 48 1) (v 48 1 - (h + 1)).toNat) (rWv v as (v 48 1) ((v 48 1 - (h + 1)).toNat + 1) all) all (RFLn v as h 125) 125 0) 0 : Nat) : Int) = jco v as h := by
    unfold jco jcd
    rw [show (v 48 1).toNat - (h.toNat + 1) = (v 48 1 - (h + 1)).toNat by omega, show (v 48 1).toNat - h.toNat = (v 48 1 - (h + 1)).toNat + 1 by omega, show ((h.toNat : Nat) : Int) = h by omega, ← ea]
  have es : jS v as (v 48 1) (h.toNat + 1) = jxC v all (jco v as h) := by
    show jxC v (jS v as (v 48 1) h.toNat) (jcd v as (v 48 1) h.toNat (jS v as (v 48 1) h.toNat) : Nat) = _
    rw [← ea]
    unfold jco
    rw [← ea]
  rw [es] at hE
  have vh : v1 64 (3375 * h + all) = rWv v as (v 48 1) ((v 48 1 - (h + 1)).toNat + 1) all := by rw [← er]; exact p.2.1 h all hh.1 hh.1 (by omega) ha.1 ha.2
  have vn : ∀ t, 0 ≤ t → t < 3375 → v1 64 (3375 * (h + 1) + t) = rWv v as (v 48 1) (v 48 1 - (h + 1)).toNat t := fun t t1 t2 => p.2.1 (h + 1) t (by omega) (by omega) (by omega) t1 t2
  have vr := rWv_rng hA as (v 48 1) (v 48 1 - (h + 1)).toNat
  have vr2 := rWv_rng hA as (v 48 1) ((v 48 1 - (h + 1)).toNat + 1) all ha.1 ha.2
  have wl : ∀ i : Nat, i < (RFLn v as h 125).length → ∀ u, 0 ≤ u → u < 3 → v1 68 (3 * (i : Int) + u) = zdg ((RFLn v as h 125).getD i 0 : Nat) u := hc.2
  have cond : ∀ i : Nat, i < 125 → True := fun _ _ => trivial
  generalize fsI v (rWv v as (v 48 1) (v 48 1 - (h + 1)).toNat) (rWv v as (v 48 1) ((v 48 1 - (h + 1)).toNat + 1) all) all (RFLn v as h 125) 125 0 = I0 at *
  generalize rWv v as (v 48 1) ((v 48 1 - (h + 1)).toNat + 1) all = m at *
  generalize rWv v as (v 48 1) (v 48 1 - (h + 1)).toNat = V at *
  have L : ∀ i : Int, 0 ≤ i → i ≤ I0 → q_Rt (GG xs) PP 51 F 132 [some (.ref 48), some (.int (zb as)), some (.int (zi all)), some (.int (zi cost)), some (.int (zi h)), some (.int (zi i)), some (.int (zi 0)), none, none] [] (sh, zs v1, zt w, R) := by
    refine zdown _ ?_ (fun i h1 h2 ih => ?_)
    · have w0 := wl I0 (by omega)
      rw [ec] at w0 f3
      have jx := jxC_rng hA.1 (c := jco v as h) ha
      have jc := jcC_rng hA.2.1 hA.2.2.2.2.1 (c := jco v as h) ha
      have s1 := n_next xs sh v1 w R hM hA1.1 hA1.2.2.2.2.1 all (jco v as h) (I0 : Nat) w0 ha (by omega)
      have s2 := n_wayCost xs sh v1 w R hM hA1.2.1 hA1.2.2.2.2.1 all (jco v as h) (I0 : Nat) w0 ha (by omega)
      rw [sJ_jx j1] at s1
      rw [sJ_jc j1] at s2
      obtain ⟨g1, g2, g3⟩ := f3
      have vx := vn (jxC v all (jco v as h)) (by omega) (by omega)
      have vxr := vr (jxC v all (jco v as h)) (by omega) (by omega)
      have K := l_pl249 xs sh v w R hM hA as h all (jxC v all (jco v as h)) cost (I0 : Nat) (by omega) (by omega) F hE 0 (by omega) (by omega) v1 p w0
      have K2 : q_Rt (GG xs) PP 51 F 132 [some (.ref 48), some (.int (zb as)), some (.int (zi all)), some (.int (zi cost)), some (.int (zi h)), some (.int (zi (I0 : Nat))), some (.int (zi 1)), none, none] [] (sh, zs v1, zt w, R) := by
        refine b_Mod_planned_132 xs F _ _ _ _ _ _ _ _ ?_
        simp (discharger := first | assumption | omega) [hM, fI, fL, fV, zs_ar, zt_ar, zs_un, zt_un, zn_c, zu_a, zu_e, zu_j, zix, zi_lit, zl_lit, zi_add, zi_sub, zi_mul, zi_neg, zi_le, zi_lt, zi_eq, zl_add, zl_sub, zl_mul, zi_i2l, zl_l2i, zb0, zb1, zb0', zb1', zi_c0, zi_c1, zb_c, s1, i_leT, i_leF, i_ltT, i_ltF, i_eqT, i_eqF]
        exact K
      refine b_Mod_planned_132 xs F _ _ _ _ _ _ _ _ ?_
      simp (discharger := first | assumption | omega) [hM, fI, fL, fV, zs_ar, zt_ar, zs_un, zt_un, zn_c, zu_a, zu_e, zu_j, zix, zi_lit, zl_lit, zi_add, zi_sub, zi_mul, zi_neg, zi_le, zi_lt, zi_eq, zl_add, zl_sub, zl_mul, zi_i2l, zl_l2i, zb0, zb1, zb0', zb1', zi_c0, zi_c1, zb_c, s1, s2, vx, vh, g3, i_leT, i_leF, i_ltT, i_ltF, i_eqT, i_eqF]
      exact K2
    · have w0 := wl i.toNat (by omega)
      rw [show ((i.toNat : Nat) : Int) = i by omega] at w0
      have nc := f4 i.toNat (by omega) (by omega)
      generalize (((RFLn v as h 125).getD i.toNat 0 : Nat) : Int) = c at *
      have jx := jxC_rng hA.1 (c := c) ha
      have jc := jcC_rng hA.2.1 hA.2.2.2.2.1 (c := c) ha
      have s1 := n_next xs sh v1 w R hM hA1.1 hA1.2.2.2.2.1 all c i w0 ha (by omega)
      have s2 := n_wayCost xs sh v1 w R hM hA1.2.1 hA1.2.2.2.2.1 all c i w0 ha (by omega)
      rw [sJ_jx j1] at s1
      rw [sJ_jc j1] at s2
      have K216 : q_Rt (GG xs) PP 51 F 216 [some (.ref 48), some (.int (zb as)), some (.int (zi all)), some (.int (zi cost)), some (.int (zi h)), some (.int (zi i)), none, none, none] [] (sh, zs v1, zt w, R) := by
        refine b_Mod_planned_216 xs F _ _ _ _ _ _ _ ?_
        simp (discharger := first | assumption | omega) [fI, fL, fV, zs_ar, zt_ar, zs_un, zt_un, zn_c, zu_a, zu_e, zu_j, zix, zi_lit, zl_lit, zi_add, zi_sub, zi_mul, zi_neg, zi_le, zi_lt, zi_eq, zl_add, zl_sub, zl_mul, zi_i2l, zl_l2i, zb0, zb1, zb0', zb1', zi_c0, zi_c1, zb_c, i_leT, i_leF, i_ltT, i_ltF, i_eqT, i_eqF]
        exact ih
      refine b_Mod_planned_132 xs F _ _ _ _ _ _ _ _ ?_
      by_cases q1 : jxC v all c < 0
      · simp (discharger := first | assumption | omega) [hM, fI, fL, fV, zs_ar, zt_ar, zs_un, zt_un, zn_c, zu_a, zu_e, zu_j, zix, zi_lit, zl_lit, zi_add, zi_sub, zi_mul, zi_neg, zi_le, zi_lt, zi_eq, zl_add, zl_sub, zl_mul, zi_i2l, zl_l2i, zb0, zb1, zb0', zb1', zi_c0, zi_c1, zb_c, s1, i_leT, i_leF, i_ltT, i_ltF, i_eqT, i_eqF]
        exact K216
      · have vx := vn (jxC v all c) (by omega) (by omega)
        have vxr := vr (jxC v all c) (by omega) (by omega)
        by_cases q2 : V (jxC v all c) < 1000000000
        · have q3 : ¬ V (jxC v all c) + jcC v all c = m := fun q => nc ⟨by omega, by omega, q⟩
          simp (discharger := first | assumption | omega) [hM, fI, fL, fV, zs_ar, zt_ar, zs_un, zt_un, zn_c, zu_a, zu_e, zu_j, zix, zi_lit, zl_lit, zi_add, zi_sub, zi_mul, zi_neg, zi_le, zi_lt, zi_eq, zl_add, zl_sub, zl_mul, zi_i2l, zl_l2i, zb0, zb1, zb0', zb1', zi_c0, zi_c1, zb_c, s1, s2, vx, vh, q3, i_leT, i_leF, i_ltT, i_ltF, i_eqT, i_eqF]
          exact K216
        · simp (discharger := first | assumption | omega) [hM, fI, fL, fV, zs_ar, zt_ar, zs_un, zt_un, zn_c, zu_a, zu_e, zu_j, zix, zi_lit, zl_lit, zi_add, zi_sub, zi_mul, zi_neg, zi_le, zi_lt, zi_eq, zl_add, zl_sub, zl_mul, zi_i2l, zl_l2i, zb0, zb1, zb0', zb1', zi_c0, zi_c1, zb_c, s1, s2, vx, vh, i_leT, i_leF, i_ltT, i_ltF, i_eqT, i_eqF]
          exact K216
  exact L 0 (by omega) (by omega)
