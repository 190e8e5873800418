/-! The planner's search. -/
theorem d_write (xs : List Int32) (sh : List q_Sh) (v w : Nat → Int → Int) (R : Nat → Nat → Option Nat) (hD : LD sh R) (hN : dN v) (cs : List Nat) (hl : (cs.length : Int) = v 32 0) (hd : dp_dig 125 cs) (Q : q_H → Prop) : q_CallV (GG xs) PP kPlanner_write [.ref 1, .ref 32, .long (zl (dp_num 125 cs)), .ref 25] (sh, zs v, zt w, R) Q = Q (sh, zs (wtb v (v 32 0) cs (-1) 0), zt w, R) := cV (fun Q hQ => by
  have n1 := hN.1
  have L : ∀ k : Int, 0 ≤ k → k ≤ v 32 0 → q_Rt (GG xs) PP 104 (q_FV Q) 11 [none, some (.ref 32), none, none, some (.ref 25), some (.long (zl (dp_num 125 (cs.take k.toNat)))), none, some (.int (zi (k - 1))), none, none] [] (sh, zs (wtb v (v 32 0) cs (k - 1) 0), zt w, R) := by
    refine zup _ ?_ (fun k h1 h2 ih => ?_)
    · refine b_Planner_write_11 xs _ _ _ _ _ _ ?_
      simp (discharger := first | assumption | omega) [fI, fL, fV, zs_ar, zt_ar, zs_un, zt_un, zn_c, zu_a, zu_e, zu_j, zix, zi_lit, zl_lit, zi_add, zi_sub, zi_mul, zi_neg, zi_le, zi_lt, zi_eq, zl_add, zl_sub, zl_mul, zi_i2l, zl_l2i, zb0, zb1, zb0', zb1', zi_c0, zi_c1, zb_c, i_leT, i_leF, i_ltT, i_ltF, i_eqT, i_eqF]
      exact hQ
    · rw [show (k + 1).toNat = k.toNat + 1 by omega, dp_num_take 125 cs k.toNat (by omega), show k + 1 - 1 = k by omega]
      have b1 := dp_num125 (dp_dig_take hd k.toNat) (by rw [List.length_take]; omega)
      have b2 := dp_dig_at hd (k := k.toNat) (by omega)
      have s2 := fun u hu => wtb_s (v := v) (n := v 32 0) (cs := cs) (k := k) (u := u) (by omega) h2 hu
      rw [← wtb_3] at ih
      generalize dp_num 125 (cs.take k.toNat) = N at *
      generalize cs.getD k.toNat 0 = d at *
      have e1 : ((N * 125 + d : Nat) : Int) / 125 = N := by omega
      have e2 : ((N * 125 + d : Nat) : Int) - ((N * 125 + d : Nat) : Int) / 125 * 125 = d := by omega
      have e3 : 0 ≤ ((N * 125 + d : Nat) : Int) ∧ ((N * 125 + d : Nat) : Int) < 9000000000000000000 := by omega
      generalize ((N * 125 + d : Nat) : Int) = x at *
      have e4 : zl x / zl 125 = zl N := by rw [zl_div (by omega) (by omega) (by omega) (by omega), e1]
      have e5 : zl x - zl N * zl 125 = zl d := by rw [zl_mul, zl_sub, ← e1, e2]
      have e6 : k + -1 = k - 1 := by omega
      have L3 : q_Rt (GG xs) PP 104 (q_FV Q) 28 [none, some (.ref 32), none, none, some (.ref 25), some (.long (zl x)), none, some (.int (zi k)), some (.int (zi d)), some (.int (zi 3))] [] (sh, zs (wtb v (v 32 0) cs k 3), zt w, R) := by
        refine b_Planner_write_28 xs _ _ _ _ _ _ _ _ ?_
        simp only [zl_lit]
        simp only [show ((125 : Nat) : Int) = 125 from rfl, e4]
        simp (discharger := first | assumption | omega) [fI, fL, fV, zs_ar, zt_ar, zs_un, zt_un, zn_c, zu_a, zu_e, zu_j, zix, zi_lit, zl_lit, zi_add, zi_sub, zi_mul, zi_neg, zi_le, zi_lt, zi_eq, zl_add, zl_sub, zl_mul, zi_i2l, zl_l2i, zb0, zb1, zb0', zb1', zi_c0, zi_c1, zb_c, e6, zl_eq, i_leT, i_leF, i_ltT, i_ltF, i_eqT, i_eqF]
        exact ih
      have st : ∀ u : Int, 0 ≤ u → u < 3 → q_Rt (GG xs) PP 104 (q_FV Q) 28 [none, some (.ref 32), none, none, some (.ref 25), some (.long (zl x)), none, some (.int (zi k)), some (.int (zi d)), some (.int (zi (u + 1)))] [] (sh, zs (wtb v (v 32 0) cs k (u + 1)), zt w, R) → q_Rt (GG xs) PP 104 (q_FV Q) 28 [none, some (.ref 32), none, none, some (.ref 25), some (.long (zl x)), none, some (.int (zi k)), some (.int (zi d)), some (.int (zi u))] [] (sh, zs (wtb v (v 32 0) cs k u), zt w, R) := by
        intro u u1 u2 hk
        have hu : 0 ≤ u ∧ u < 3 := ⟨u1, u2⟩
        have hL := LD_LU hD hu
        have hr := uc_rng hu
        have z := zdg_rng d u
        have c1 := d_choiceIn xs d u (sh, zs (wtb v (v 32 0) cs k u), zt w, R) (by omega) hu
        have c2 := d_outputOf xs sh (wtb v (v 32 0) cs k u) w R (uc u) hL (zdg d u) z
        rw [wtb_row (by omega)] at c2
        have s3 := s2 u hu
        have un := LD_un hD hu
        refine b_Planner_write_28 xs _ _ _ _ _ _ _ _ ?_
        simp (discharger := first | assumption | omega) [hD, fI, fL, fV, zs_ar, zt_ar, zs_un, zt_un, zn_c, zu_a, zu_e, zu_j, zix, zi_lit, zl_lit, zi_add, zi_sub, zi_mul, zi_neg, zi_le, zi_lt, zi_eq, zl_add, zl_sub, zl_mul, zi_i2l, zl_l2i, zb0, zb1, zb0', zb1', zi_c0, zi_c1, zb_c, d_cell, gat3, gna, un, hL.1, c1, c2, s3, i_leT, i_leF, i_ltT, i_ltF, i_eqT, i_eqF]
        exact hk
      refine b_Planner_write_11 xs _ _ _ _ _ _ ?_
      simp only [zl_lit]
      simp only [show ((125 : Nat) : Int) = 125 from rfl, e4, e5]
      simp (discharger := first | assumption | omega) [fI, fL, fV, zs_ar, zt_ar, zs_un, zt_un, zn_c, zu_a, zu_e, zu_j, zix, zi_lit, zl_lit, zi_add, zi_sub, zi_mul, zi_neg, zi_le, zi_lt, zi_eq, zl_add, zl_sub, zl_mul, zi_i2l, zl_l2i, zb0, zb1, zb0', zb1', zi_c0, zi_c1, zb_c, zl_eq, i_leT, i_leF, i_ltT, i_ltF, i_eqT, i_eqF]
      exact st 0 (by omega) (by omega) (st 1 (by omega) (by omega) (st 2 (by omega) (by omega) L3))
  have K := L (v 32 0) (by omega) (Int.le_refl _)
  rw [wtb_0, List.take_of_length_le (by omega)] at K
  refine e_Planner_write xs _ _ _ _ _ (sh, zs v, zt w, R) ?_
  simp (discharger := first | assumption | omega) [hD, fI, fL, fV, zs_ar, zt_ar, zs_un, zt_un, zn_c, zu_a, zu_e, zu_j, zix, zi_lit, zl_lit, zi_add, zi_sub, zi_mul, zi_neg, zi_le, zi_lt, zi_eq, zl_add, zl_sub, zl_mul, zi_i2l, zl_l2i, zb0, zb1, zb0', zb1', zi_c0, zi_c1, zb_c]
  exact K) Q
/-- the two fronts changed over -/
def swq (R : Nat → Nat → Option Nat) (f t : Nat) : Nat → Nat → Option Nat := q_up (q_up R 1 0 (some t)) 1 1 (some f)
theorem swq_at {R : Nat → Nat → Option Nat} {f t b j : Nat} (h : ¬ (b = 1 ∧ (j = 0 ∨ j = 1))) : swq R f t b j = R b j := by
  unfold swq q_up
  rw [if_neg (by omega), if_neg (by omega)]
theorem swq_LD {sh : List q_Sh} {R : Nat → Nat → Option Nat} {f t : Nat} (h : LD sh R) : LD sh (swq R f t) := by
  simpa [LD, swq, q_up] using h
theorem swq_PL {R : Nat → Nat → Option Nat} {f t : Nat} (h : PL R f t) : PL (swq R f t) t f := by
  obtain ⟨p1, p2, p3⟩ := h
  refine ⟨by simp [swq, q_up], by simp [swq, q_up], by omega⟩
def sR1 (R R' : Nat → Nat → Option Nat) : Prop := ∀ b j, ¬ (b = 1 ∧ (j = 0 ∨ j = 1)) → R' b j = R b j
/-- the codes that fit, hour by hour -/
def fls (v : Nat → Int → Int) (as : Prop) [Decidable as] : Nat → List Nat := fun h => FLn v h (if as then dWho v h else -1) 125
theorem fls_ok {v : Nat → Int → Int} (hU : dUs v) (as : Prop) [Decidable as] : okf (fls v as) := fun h => ⟨FLn_25 hU (Nat.le_refl _), fun c hc => ((FLn_mem 125).mp hc).1, fun i hi => FLn_ix 125 i hi⟩
theorem dWho_rng (v : Nat → Int → Int) (h : Int) : 0 ≤ dWho v h ∧ dWho v h < 8 := by
  unfold dWho zbit
  (repeat' split) <;> omega
def sw12 (w w' : Nat → Int → Int) : Prop := ∀ b, 12 ≤ b → w' b = w b
theorem FIT_s20 {v v' : Nat → Int → Int} (hs : s20 v v') {h who c : Int} : FIT v' h who c ↔ FIT v h who c := by
  unfold FIT dtg dms dmo
  rw [(s20_uc hs (u := 0) (by omega)).1, (s20_uc hs (u := 1) (by omega)).1, (s20_uc hs (u := 2) (by omega)).1, hs 34 (by omega), hs 35 (by omega)]
theorem FLn_s20 {v v' : Nat → Int → Int} (hs : s20 v v') {h who : Int} : ∀ n, FLn v' h who n = FLn v h who n
  | 0 => rfl
  | n + 1 => by
    show (if FIT v' h who n then FLn v' h who n ++ [n] else FLn v' h who n) = (if FIT v h who n then FLn v h who n ++ [n] else FLn v h who n)
    rw [FLn_s20 hs n]
    by_cases q : FIT v h who n
    · rw [if_pos q, if_pos ((FIT_s20 hs).mpr q)]
    · rw [if_neg q, if_neg (fun z => q ((FIT_s20 hs).mp z))]
/-- what holds as an hour begins -/
def SI (sh : List q_Sh) (v w0 : Nat → Int → Int) (R0 : Nat → Nat → Option Nat) (fl : Nat → List Nat) (p0 : Nat) (h : Int) (v' w : Nat → Int → Int) (R : Nat → Nat → Option Nat) (f t : Nat) : Prop := LD sh R ∧ PL R f t ∧ s20 v v' ∧ FH v v' fl h.toNat f ∧ gcf v' f ∧ RL w (f + 2) (f + 3) 675 (10000000 * h) (125 ^ h.toNat) ∧ RL0 w (t + 2) (t + 3) 675 ∧ dp_layer (plT v fl) 125 0 p0 h.toNat (LO w (f + 2) (f + 3) 675) ∧ (∀ s, 27 * szF fl h.toNat ≤ s → LO w (f + 2) (f + 3) 675 s = none) ∧ sw12 w0 w ∧ sR1 R0 R
theorem l_se11 (xs : List Int32) (sh : List q_Sh) (v w0 : Nat → Int → Int) (R0 : Nat → Nat → Option Nat) (hN : dN v) (hT : dT v) (hU : dUs v) (hO : dOs v) (hE : dD v) (as : Prop) [Decidable as] (p0 : Nat) (F : Option Value → q_H → Prop)
    (hEnd : ∀ v' w R f t, SI sh v w0 R0 (fls v as) p0 (v 32 0) v' w R f t → q_Rt (GG xs) PP 98 F 11 [some (.ref 1), some (.ref 32), some (.ref 25), some (.int (zb as)), some (.int (zi (v 32 0))), none] [] (sh, zs v', zt w, R)) :
    ∀ h : Int, 0 ≤ h → h ≤ v 32 0 → ∀ v' w R f t, SI sh v w0 R0 (fls v as) p0 h v' w R f t → q_Rt (GG xs) PP 98 F 11 [some (.ref 1), some (.ref 32), some (.ref 25), some (.int (zb as)), some (.int (zi h)), none] [] (sh, zs v', zt w, R) := by
  have n1 := hN.1
  refine zdown _ hEnd (fun h h1 h2 ih => ?_)
  intro v' w R f t ⟨hD, hP, hs, hF, hgf, hf, ht, hl, htop, hw, hr⟩
  have hP2 := hP
  obtain ⟨p1, p2, p3⟩ := hP2
  have p125 := p125_le (h := h.toNat) (by omega)
  obtain ⟨t1, t2, t3, t4, t5, t6, t7, t8⟩ := LD_FR hD (a := t) (by omega)
  have e32 := hs 32 (by omega)
  have hok := fls_ok hU as
  have eh : ((h.toNat : Nat) : Int) = h := by omega
  have hT' : dT v' := fun j a b => by rw [hs 25 (by omega)]; exact hT j a b
  have hU' : dUs v' := fun u a b => dU_row (s20_uc hs ⟨a, b⟩).1 (hU u a b)
  have hE' : dD v' := fun k a b => by rw [hs 34 (by omega), hs 35 (by omega)]; exact hE k a b
  have wr : dWho v' h = dWho v h := by unfold dWho; rw [hs 25 (by omega)]
  have wR := dWho_rng v h
  have L42 : ∀ who : Int, who = (if as then dWho v h else -1) → q_Rt (GG xs) PP 98 F 42 [some (.ref 1), some (.ref 32), some (.ref 25), some (.int (zb as)), some (.int (zi h)), none] [.int (zi who), .int (zi h), .ref 32, .ref t] (sh, zs v', zt w, R) := by
    intro who ew
    have hwho : -1 ≤ who ∧ who < 8 := by
      rw [ew]
      split <;> omega
    have s1 := d_openHour xs sh v' w R hD t (by omega) hU' hE' h who (by omega) hwho
    have hs2 : s20 v (opn v' t h who 125) := fun b hb => (opn_row (by omega) (by omega) (by omega) 125).trans (hs b hb)
    have hT2 : FC (opn v' t h who 125) t (fls v as h.toNat) := by
      have := opn_FC hU' (a := t) (h := h) (who := who) 125 (Nat.le_refl _)
      rw [FLn_s20 hs] at this
      unfold fls
      rw [eh, ← ew]
      exact this
    have hgt := FC_co hT2 (hok h.toNat).1 (hok h.toNat).2.1
    have hF2 : FH v (opn v' t h who 125) (fls v as) h.toNat f := by
      unfold FH
      rw [opn_row (b := f) (by omega) (by omega) (by omega), opn_row (b := f + 5) (by omega) (by omega) (by omega)]
      exact hF
    have hgf2 : gcf (opn v' t h who 125) f := by
      unfold gcf gch
      rw [opn_row (b := f) (by omega) (by omega) (by omega), opn_row (b := f + 5) (by omega) (by omega) (by omega)]
      exact hgf
    have f1 : RL (zfl w (t + 3) 675 (-1)) (f + 2) (f + 3) 675 (10000000 * h) (125 ^ h.toNat) := RL_fr hf (zfl_row (by omega)) (zfl_row (by omega))
    have tt : RL (zfl w (t + 3) 675 (-1)) (t + 2) (t + 3) 675 (10000000 * h + 10000000) (125 * 125 ^ h.toNat) := RL_clr (n := 675) ht (by omega)
    obtain ⟨v2, z14, s2⟩ := d_goOneHourP xs sh (opn v' t h who 125) (zfl w (t + 3) 675 (-1)) R hD (s20_Os hs2 hO) f t hP hgf2 hgt (10000000 * h) (125 ^ h.toNat) (by omega) (by omega) (by omega) f1 tt
    have hs3 : s20 v v2 := fun b hb => (z14 b (by omega)).trans (hs2 b hb)
    have szz : (27 * opn v' t h who 125 f 3).toNat = 27 * szF (fls v as) h.toNat := by
      rw [hF2.1]
      omega
    rw [szz] at s2
    have rr := gq_RL (s20_Os hs2 hO) p3 hgf2 hgt (by omega) f1 tt (27 * szF (fls v as) h.toNat) (by have := hF2.1; omega)
    have hh := gq_held hO hok p3 hs2 hF2 hgf2 hT2 (by omega) f1 tt Held_clear (27 * szF (fls v as) h.toNat) (Nat.le_refl _)
    have e0 : LO (zfl w (t + 3) 675 (-1)) (f + 2) (f + 3) 675 = LO w (f + 2) (f + 3) 675 := LO_rows (zfl_row (by omega)) (zfl_row (by omega))
    rw [e0] at hh
    have hl2 := offs_next (N := 27 * szF (fls v as) h.toNat) hl htop (by rw [Nat.zero_add]; exact hh)
    have e1 : (h + 1).toNat = h.toNat + 1 := by omega
    have hT3 : FC v2 t (fls v as h.toNat) := by
      unfold FC
      rw [z14 t (by omega), z14 (t + 4) (by omega), z14 (t + 5) (by omega)]
      exact hT2
    have k := ih v2 (gq (opn v' t h who 125) f t (zfl w (t + 3) 675 (-1)) (27 * szF (fls v as) h.toNat)) (swq R f t) t f ⟨swq_LD hD, swq_PL hP, hs3, by rw [e1]; exact FC_FH hT3, s14_cf z14 (by omega) ⟨hgt.1, hgt.2.1⟩, by
        rw [e1, p125_s, show 10000000 * (h + 1) = 10000000 * h + 10000000 by omega]
        exact rr, RL_mono (RL_fr f1 (gq_row (by omega) (by omega) _) (gq_row (by omega) (by omega) _)) (by omega) (by omega), by rw [e1]; exact hl2, by rw [e1]; exact offs_top hok hh, fun b hb => by
        rw [gq_row (by omega) (by omega), zfl_row (by omega)]
        exact hw b hb, fun b j hbj => by
        rw [swq_at hbj]
        exact hr b j hbj⟩
    refine b_Planner_search_42 xs F _ _ _ _ _ _ _ _ _ _ ?_
    unfold swq at k
    simp (discharger := first | assumption | omega) [fI, fL, fV, zs_ar, zt_ar, zs_un, zt_un, zn_c, zu_a, zu_e, zu_j, zix, zi_lit, zl_lit, zi_add, zi_sub, zi_mul, zi_neg, zi_le, zi_lt, zi_eq, zl_add, zl_sub, zl_mul, zi_i2l, zl_l2i, zb0, zb1, zb0', zb1', zi_c0, zi_c1, zb_c, hD, p1, p2, t1, s1, s2]
    exact k
  refine b_Planner_search_11 xs F _ _ _ _ _ _ ?_
  by_cases q : as
  · rw [zbTr q] at *
    have s0 := d_whoIsOn xs sh v' w R hD hT' h (by omega)
    rw [wr] at s0
    have K := L42 (dWho v h) (by rw [if_pos q])
    simp (discharger := first | assumption | omega) [fI, fL, fV, zs_ar, zt_ar, zs_un, zt_un, zn_c, zu_a, zu_e, zu_j, zix, zi_lit, zl_lit, zi_add, zi_sub, zi_mul, zi_neg, zi_le, zi_lt, zi_eq, zl_add, zl_sub, zl_mul, zi_i2l, zl_l2i, zb0, zb1, zb0', zb1', zi_c0, zi_c1, zb_c, hD, p2, e32, s0, i_leT, i_leF, i_ltT, i_ltF, i_eqT, i_eqF]
    exact K
  · rw [zbFa q] at *
    have K := L42 (-1) (by rw [if_neg q])
    simp (discharger := first | assumption | omega) [fI, fL, fV, zs_ar, zt_ar, zs_un, zt_un, zn_c, zu_a, zu_e, zu_j, zix, zi_lit, zl_lit, zi_add, zi_sub, zi_mul, zi_neg, zi_le, zi_lt, zi_eq, zl_add, zl_sub, zl_mul, zi_i2l, zl_l2i, zb0, zb1, zb0', zb1', zi_c0, zi_c1, zb_c, hD, p2, e32, i_leT, i_leF, i_ltT, i_ltF, i_eqT, i_eqF]
    exact K
/-- the planner's cells in order -/
def PR (sh : List q_Sh) (w : Nat → Int → Int) (R : Nat → Nat → Option Nat) : Prop := ∃ f t, PL R f t ∧ RL0 w (f + 2) (f + 3) 675 ∧ RL0 w (t + 2) (t + 3) 675
theorem d_search (xs : List Int32) (sh : List q_Sh) (v w : Nat → Int → Int) (R : Nat → Nat → Option Nat) (hD : LD sh R) (hN : dN v) (hT : dT v) (hU : dUs v) (hO : dOs v) (hE : dD v) (as : Prop) [Decidable as] (hK : PR sh w R) :
    ∃ (v' w' : Nat → Int → Int) (R' : Nat → Nat → Option Nat) (r : Int), (PR sh w' R' ∧ sw12 w w' ∧ sR1 R R' ∧ LD sh R' ∧
      ((r = -1 ∧ s20 v v' ∧ ∀ ds s k, ds.length = (v 32 0).toNat → dp_dig 125 ds → dp_run (plT v (fls v as)) 0 (sbh v).toNat ds ≠ some (s, k)) ∨
       ∃ cs, dp_best (plT v (fls v as)) 125 (v 32 0).toNat 0 (sbh v).toNat r cs ∧ s20 (wtb v (v 32 0) cs (-1) 0) v')) ∧
    ∀ Q : Int32 → q_H → Prop, q_CallI (GG xs) PP kPlanner_search [.ref 1, .ref 32, .ref 25, .int (zb as)] (sh, zs v, zt w, R) Q = Q (zi r) (sh, zs v', zt w', R') := by
  have n1 := hN.1
  have key : ∀ Q : Int32 → q_H → Prop, (∀ (v' w' : Nat → Int → Int) (R' : Nat → Nat → Option Nat) (r : Int), (PR sh w' R' ∧ sw12 w w' ∧ sR1 R R' ∧ LD sh R' ∧
      ((r = -1 ∧ s20 v v' ∧ ∀ ds s k, ds.length = (v 32 0).toNat → dp_dig 125 ds → dp_run (plT v (fls v as)) 0 (sbh v).toNat ds ≠ some (s, k)) ∨
       ∃ cs, dp_best (plT v (fls v as)) 125 (v 32 0).toNat 0 (sbh v).toNat r cs ∧ s20 (wtb v (v 32 0) cs (-1) 0) v')) → Q (zi r) (sh, zs v', zt w', R')) → q_CallI (GG xs) PP kPlanner_search [.ref 1, .ref 32, .ref 25, .int (zb as)] (sh, zs v, zt w, R) Q := by
    intro Q hQ
    obtain ⟨f, t, hP, hf, ht⟩ := hK
    have hP2 := hP
    obtain ⟨p1, p2, p3⟩ := hP2
    obtain ⟨f1, f2, f3, f4, f5, f6, f7, f8⟩ := LD_FR hD (a := f) (by omega)
    have s1 := d_standBefore xs sh v w R hD f (by omega) hU hf
    have g0 := dF_rng (hU 0 (by omega) (by omega))
    have g1 := dF_rng (hU 1 (by omega) (by omega))
    have g2 := dF_rng (hU 2 (by omega) (by omega))
    have hb : 0 ≤ sbh v ∧ sbh v < 27 := by unfold sbh; omega
    have r1 : RL (zfl w (f + 3) 675 (-1)) (f + 2) (f + 3) 675 0 1 := RL_clr (n := 675) hf (by omega)
    have r2 : RL (ofr (zfl w (f + 3) 675 (-1)) (f + 2) (f + 3) (sbh v) 0 0) (f + 2) (f + 3) 675 0 1 := RL_ofr r1 (by omega) (by omega) (by omega) (by omega)
    have lz := LO_one (w := w) (cc := f + 2) (wc := f + 3) (n := 675) (by omega) (p := sbh v) (by omega)
    have c0 := uc_rng (u := 0) (by omega)
    have e3 : sbv v f f 3 = 1 := by simp [sbv, zu]
    have d0 : sbv v f (f + 5) 0 = dF v (uc 0) / 3 := by simp [sbv, zu]
    have d1 : sbv v f (f + 5) 1 = dF v (uc 1) / 3 := by simp [sbv, zu]
    have d2 : sbv v f (f + 5) 2 = dF v (uc 2) / 3 := by simp [sbv, zu]
    have hgf : gcf (sbv v f) f := by
      refine ⟨by omega, fun j j1 j2 => ?_⟩
      rw [e3] at j2
      obtain rfl | rfl | rfl : j = 0 ∨ j = 1 ∨ j = 2 := by omega
      · omega
      · omega
      · omega
    have hFH : FH v (sbv v f) (fls v as) (0 : Int).toNat f := by
      refine ⟨e3, fun i u i1 i2 u1 u2 => ?_⟩
      have i0 : i = 0 := by
        have : szF (fls v as) (0 : Int).toNat = 1 := rfl
        rw [this] at i2
        omega
      subst i0
      show sbv v f (f + 5) (0 * 3 + u) = dF v (uc u) / 3
      rw [show (0 : Int) * 3 + u = u by omega]
      obtain rfl | rfl | rfl : u = 0 ∨ u = 1 ∨ u = 2 := by omega
      · exact d0
      · exact d1
      · exact d2
    have K := l_se11 xs sh v w R hN hT hU hO hE as (sbh v).toNat (q_FI Q) ?_ 0 (by omega) (by omega) (sbv v f) (ofr (zfl w (f + 3) 675 (-1)) (f + 2) (f + 3) (sbh v) 0 0) R f t ⟨hD, hP, fun b hb => sbv_row (by omega) (by omega), hFH, hgf, by simpa using r2, RL_fr ht ((ofr_row (by omega) (by omega)).trans (zfl_row (by omega))) ((ofr_row (by omega) (by omega)).trans (zfl_row (by omega))), dp_layer_zero _ _ _ _ _ lz.1 lz.2, fun s hs => lz.2 s (by
        have : szF (fls v as) (0 : Int).toNat = 1 := rfl
        rw [this] at hs
        omega), fun b hb => by rw [ofr_row (by omega) (by omega), zfl_row (by omega)], fun b j _ => rfl⟩
    · refine e_Planner_search xs _ _ _ _ _ (sh, zs v, zt w, R) ?_
      simp (discharger := first | assumption | omega) [hD, fI, fL, fV, zs_ar, zt_ar, zs_un, zt_un, zn_c, zu_a, zu_e, zu_j, zix, zi_lit, zl_lit, zi_add, zi_sub, zi_mul, zi_neg, zi_le, zi_lt, zi_eq, zl_add, zl_sub, zl_mul, zi_i2l, zl_l2i, zb0, zb1, zb0', zb1', zi_c0, zi_c1, zb_c, p1, f1, s1]
      exact K
    · intro v2 w2 R2 f2 t2 ⟨hD2, hP2, hs2, hF2, hgf2, hf2, ht2, hl2, htop2, hw2, hr2⟩
      have hP3 := hP2
      obtain ⟨p1, p2, p3⟩ := hP3
      have fr := LD_FR hD2 (a := f2) (by omega)
      have tr := LD_FR hD2 (a := t2) (by omega)
      obtain ⟨f1, f2', f3, f4, f5, f6, f7, f8⟩ := fr
      obtain ⟨t1, t2', t3, t4, t5, t6, t7, t8⟩ := tr
      have p125 := p125_le (h := (v 32 0).toNat) (by omega)
      have e32 := hs2 32 (by omega)
      have hf3 : RL0 w2 (f2 + 2) (f2 + 3) 675 := RL_mono hf2 (by omega) (by omega)
      have s4 := d_gather xs sh v2 w2 R2 (t2 + 1) (f2 + 1) (t2 + 2) (t2 + 3) (f2 + 2) (f2 + 3) 675 675 t5 f5 (by omega) (by omega) (by omega) (by omega) (by omega) 1000000000 8000000000000000000 (by omega) (by omega) ht2 hf3
      have q1 : RL (zfl w2 (t2 + 3) 675 (-1)) (t2 + 2) (t2 + 3) 675 1000000000 8000000000000000000 := RL_clr (n := 675) ht2 (by omega)
      have q2 : RL (zfl w2 (t2 + 3) 675 (-1)) (f2 + 2) (f2 + 3) 675 1000000000 8000000000000000000 := RL_fr hf3 (zfl_row (by omega)) (zfl_row (by omega))
      have e0 : LO (zfl w2 (t2 + 3) 675 (-1)) (f2 + 2) (f2 + 3) 675 = LO w2 (f2 + 2) (f2 + 3) 675 := LO_rows (zfl_row (by omega)) (zfl_row (by omega))
      have g := gth_best (n := 675) (m := 675) (cc := t2 + 2) (wc := t2 + 3) (by omega) (by omega) (by omega) q1 q2 Held_clear (by rw [e0]; exact hl2)
      have q3 := gth_RL (m := 675) (cc := t2 + 2) (wc := t2 + 3) (by omega) (by omega) q1 q2 675 (Nat.le_refl _)
      have q4 : ∀ b, b ≠ t2 + 2 → b ≠ t2 + 3 → gth (zfl w2 (t2 + 3) 675 (-1)) (t2 + 2) (t2 + 3) (f2 + 2) (f2 + 3) 675 b = w2 b := fun b h1 h2 => (gth_row h1 h2 _).trans (zfl_row h2)
      generalize gth (zfl w2 (t2 + 3) 675 (-1)) (t2 + 2) (t2 + 3) (f2 + 2) (f2 + 3) 675 = w3 at *
      have hPR : PR sh w3 R2 := ⟨f2, t2, hP2, RL_fr hf3 (q4 _ (by omega) (by omega)) (q4 _ (by omega) (by omega)), q3⟩
      have hw3 : sw12 w w3 := fun b hb => (q4 b (by omega) (by omega)).trans (hw2 b hb)
      have s5 := d_isReached xs sh v2 w3 R2 (t2 + 1) (t2 + 2) (t2 + 3) 675 t5 0 (by omega) (RL_okw q3 (by omega) (by omega))
      refine b_Planner_search_11 xs _ _ _ _ _ _ _ ?_
      cases eo : LO w3 (t2 + 2) (t2 + 3) 675 0 with
      | none =>
        have eq : w3 (t2 + 3) 0 = -1 := by
          by_cases z : w3 (t2 + 3) 0 = -1
          · exact z
          · unfold LO at eo
            rw [if_pos ⟨by omega, z⟩] at eo
            cases eo
        have K2 := hQ v2 w3 R2 (-1) ⟨hPR, hw3, hr2, hD2, Or.inl ⟨rfl, hs2, g.2 eo⟩⟩
        simp (discharger := first | assumption | omega) [hD, fI, fL, fV, zs_ar, zt_ar, zs_un, zt_un, zn_c, zu_a, zu_e, zu_j, zix, zi_lit, zl_lit, zi_add, zi_sub, zi_mul, zi_neg, zi_le, zi_lt, zi_eq, zl_add, zl_sub, zl_mul, zi_i2l, zl_l2i, zb0, zb1, zb0', zb1', zi_c0, zi_c1, zb_c, hD2, p1, p2, f1, f2', t1, t2', t5.1, e32, s4, s5, eq, i_leT, i_leF, i_ltT, i_ltF, i_eqT, i_eqF]
        exact K2
      | some ky =>
        obtain ⟨cs, y1, y2⟩ := g.1 ky.1 ky.2 eo
        obtain ⟨-, y5, y3, y4⟩ := (LO_some (k := ky.1) (y := ky.2) q3).mp eo
        rw [← y2] at y4
        have y5' : ¬ w3 (t2 + 3) 0 = -1 := y5
        have y3' : w3 (t2 + 2) 0 = ky.1 := y3
        have y4' : w3 (t2 + 3) 0 = (dp_num 125 cs : Nat) := y4
        have l1 : cs.length = (v 32 0).toNat := y1.1
        have hN2 : dN v2 := by unfold dN; rw [e32]; exact hN
        have s6 := d_write xs sh v2 w3 R2 hD2 hN2 cs (by rw [e32]; omega) y1.2.1
        have hs6 : s20 (wtb v (v 32 0) cs (-1) 0) (wtb v2 (v2 32 0) cs (-1) 0) := fun b hb => by
          funext j
          unfold wtb
          by_cases z : b = 25 ∧ (0 ≤ j ∧ j < 24) ∧ j % 8 < v 32 0 ∧ (-1 < j % 8 ∨ (j % 8 = -1 ∧ j / 8 < 0))
          · rw [if_pos z, if_pos (by rw [e32]; exact z), (s20_uc hs2 (u := j / 8) (by omega)).1]
          · rw [if_neg z, if_neg (by rw [e32]; exact z), hs2 b hb]
        have K2 := hQ (wtb v2 (v2 32 0) cs (-1) 0) w3 R2 ky.1 ⟨hPR, hw3, hr2, hD2, Or.inr ⟨cs, y1, hs6⟩⟩
        rw [e32] at s6 K2
        simp (discharger := first | assumption | omega) [hD, fI, fL, fV, zs_ar, zt_ar, zs_un, zt_un, zn_c, zu_a, zu_e, zu_j, zix, zi_lit, zl_lit, zi_add, zi_sub, zi_mul, zi_neg, zi_le, zi_lt, zi_eq, zl_add, zl_sub, zl_mul, zi_i2l, zl_l2i, zb0, zb1, zb0', zb1', zi_c0, zi_c1, zb_c, hD2, p1, p2, f1, f2', t1, t2', t5.1, t5.2.1, t5.2.2.1, t5.2.2.2.1, t5.2.2.2.2.1, e32, s4, s5, s6, y3', y4', i_leT, i_leF, i_ltT, i_ltF, i_eqT, i_eqF]
        simp only [y4'] at y5'
        simpa [y5'] using K2
  obtain ⟨r0, H0, ⟨v', w', R', r, h1, e1, e2⟩, h2⟩ := cIx (key (fun x H' => ∃ (v' w' : Nat → Int → Int) (R' : Nat → Nat → Option Nat) (r : Int), (PR sh w' R' ∧ sw12 w w' ∧ sR1 R R' ∧ LD sh R' ∧
      ((r = -1 ∧ s20 v v' ∧ ∀ ds s k, ds.length = (v 32 0).toNat → dp_dig 125 ds → dp_run (plT v (fls v as)) 0 (sbh v).toNat ds ≠ some (s, k)) ∨
       ∃ cs, dp_best (plT v (fls v as)) 125 (v 32 0).toNat 0 (sbh v).toNat r cs ∧ s20 (wtb v (v 32 0) cs (-1) 0) v')) ∧ x = zi r ∧ H' = (sh, zs v', zt w', R')) (fun v' w' R' r h => ⟨v', w', R', r, h, rfl, rfl⟩))
  exact ⟨v', w', R', r, h1, fun Q => by rw [h2, e1, e2]⟩
