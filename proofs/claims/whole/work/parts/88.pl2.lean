/-! The planner: from an hour to the next. -/
theorem dF_row {v v' : Nat → Int → Int} {a : Nat} (h : v' a = v a) : dF v' a = dF v a := by
  unfold dF
  rw [h]
theorem dU_row {v v' : Nat → Int → Int} {a : Nat} (h : v' a = v a) (x : dU v a) : dU v' a := by
  unfold dU
  rw [h]
  exact x
/-- a front stands before the first hour -/
def sbv (v : Nat → Int → Int) (a : Nat) : Nat → Int → Int := zu (zu (zu (zu v a 3 1) (a + 5) 0 (dF v (uc 0) / 3)) (a + 5) 1 (dF v (uc 1) / 3)) (a + 5) 2 (dF v (uc 2) / 3)
def sbh (v : Nat → Int → Int) : Int := (dF v (uc 0) % 3 * 3 + dF v (uc 1) % 3) * 3 + dF v (uc 2) % 3
theorem sbv_row {v : Nat → Int → Int} {a b : Nat} (h1 : b ≠ a) (h2 : b ≠ a + 5) : sbv v a b = v b := by
  unfold sbv
  rw [zu_row h2, zu_row h2, zu_row h2, zu_row h1]
theorem d_standBefore (xs : List Int32) (sh : List q_Sh) (v w : Nat → Int → Int) (R : Nat → Nat → Option Nat) (hD : LD sh R) (a : Nat) (ha : a = 2 ∨ a = 8) (hU : dUs v) (hr : RL0 w (a + 2) (a + 3) 675) (Q : q_H → Prop) : q_CallV (GG xs) PP kFront_standBefore [.ref a, .ref 32] (sh, zs v, zt w, R) Q = Q (sh, zs (sbv v a), zt (ofr (zfl w (a + 3) 675 (-1)) (a + 2) (a + 3) (sbh v) 0 0), R) := cV (fun Q hQ => by
  have hF := LD_FR hD ha
  obtain ⟨f1, f2, f3, f4, f5, f6, f7, f8⟩ := hF
  have c0 := uc_rng (u := 0) (by omega)
  have c1 := uc_rng (u := 1) (by omega)
  have c2 := uc_rng (u := 2) (by omega)
  have U0 := hU 0 (by omega) (by omega)
  have U1 := hU 1 (by omega) (by omega)
  have U2 := hU 2 (by omega) (by omega)
  have L0 := LD_LU hD (u := 0) (by omega)
  have L1 := LD_LU hD (u := 1) (by omega)
  have L2 := LD_LU hD (u := 2) (by omega)
  have g0 := dF_rng U0
  have g1 := dF_rng U1
  have g2 := dF_rng U2
  have w1 : zu v a 3 1 (uc 0) = v (uc 0) := zu_row (by omega)
  have w2 : zu (zu v a 3 1) (a + 5) 0 (dF v (uc 0) / 3) (uc 1) = v (uc 1) := by rw [zu_row (by omega), zu_row (by omega)]
  have w3 : zu (zu (zu v a 3 1) (a + 5) 0 (dF v (uc 0) / 3)) (a + 5) 1 (dF v (uc 1) / 3) (uc 2) = v (uc 2) := by rw [zu_row (by omega), zu_row (by omega), zu_row (by omega)]
  have s0 := d_stateBefore xs sh (zu v a 3 1) (zfl w (a + 3) 675 (-1)) R (uc 0) L0 (dU_row w1 U0)
  have s1 := d_stateBefore xs sh (zu (zu v a 3 1) (a + 5) 0 (dF v (uc 0) / 3)) (zfl w (a + 3) 675 (-1)) R (uc 1) L1 (dU_row w2 U1)
  have s2 := d_stateBefore xs sh (zu (zu (zu v a 3 1) (a + 5) 0 (dF v (uc 0) / 3)) (a + 5) 1 (dF v (uc 1) / 3)) (zfl w (a + 3) 675 (-1)) R (uc 2) L2 (dU_row w3 U2)
  rw [dF_row w1] at s0
  rw [dF_row w2] at s1
  rw [dF_row w3] at s2
  have r1 : RL (zfl w (a + 3) 675 (-1)) (a + 2) (a + 3) 675 0 1 := RL_clr (n := 675) hr (by omega)
  have hb : 0 ≤ sbh v ∧ sbh v < 675 := by unfold sbh; omega
  have s3 := d_offer xs sh (sbv v a) (zfl w (a + 3) 675 (-1)) R (a + 1) (a + 2) (a + 3) 675 f5 (sbh v) 0 0 (by omega) (RL_okw r1 (by omega) (by omega)) (RL_okc r1 (by omega)) (by unfold okL; omega) (by unfold okL; omega)
  unfold sbv sbh at s3
  unfold sbv sbh at hQ
  generalize dF v (uc 0) = x0 at *
  generalize dF v (uc 1) = x1 at *
  generalize dF v (uc 2) = x2 at *
  have m0 : x0 - x0 / 3 * 3 = x0 % 3 := by omega
  have m1 : x1 - x1 / 3 * 3 = x1 % 3 := by omega
  have m2 : x2 - x2 / 3 * 3 = x2 % 3 := by omega
  have n0 := LD_un hD (u := 0) (by omega)
  have n1 := LD_un hD (u := 1) (by omega)
  have n2 := LD_un hD (u := 2) (by omega)
  refine e_Front_standBefore xs _ _ _ (sh, zs v, zt w, R) ?_
  simp (discharger := first | assumption | omega) [fI, fL, fV, zs_ar, zt_ar, zs_un, zt_un, zn_c, zu_a, zu_e, zu_j, zix, zi_lit, zl_lit, zi_add, zi_sub, zi_mul, zi_neg, zi_le, zi_lt, zi_eq, zl_add, zl_sub, zl_mul, zi_i2l, zl_l2i, zb0, zb1, zb0', zb1', zi_c0, zi_c1, zb_c, f1, f2, f5.1, d_clear xs sh v w R (a + 1) (a + 2) (a + 3) 675 f5]
  refine b_Front_standBefore_16 xs _ _ _ _ _ _ ?_
  simp (discharger := first | assumption | omega) [hD, fI, fL, fV, zs_ar, zt_ar, zs_un, zt_un, zn_c, zu_a, zu_e, zu_j, zix, zi_lit, zl_lit, zi_add, zi_sub, zi_mul, zi_neg, zi_le, zi_lt, zi_eq, zl_add, zl_sub, zl_mul, zi_i2l, zl_l2i, zb0, zb1, zb0', zb1', zi_c0, zi_c1, zb_c, f1, f2, f4, f7, gat3, gna, n0, L0.1, s0, zi_div, m0, i_leT, i_leF, i_ltT, i_ltF, i_eqT, i_eqF]
  refine b_Front_standBefore_16 xs _ _ _ _ _ _ ?_
  simp (discharger := first | assumption | omega) [hD, fI, fL, fV, zs_ar, zt_ar, zs_un, zt_un, zn_c, zu_a, zu_e, zu_j, zix, zi_lit, zl_lit, zi_add, zi_sub, zi_mul, zi_neg, zi_le, zi_lt, zi_eq, zl_add, zl_sub, zl_mul, zi_i2l, zl_l2i, zb0, zb1, zb0', zb1', zi_c0, zi_c1, zb_c, f1, f2, f4, f7, gat3, gna, n1, L1.1, s1, zi_div, m1, i_leT, i_leF, i_ltT, i_ltF, i_eqT, i_eqF]
  refine b_Front_standBefore_16 xs _ _ _ _ _ _ ?_
  simp (discharger := first | assumption | omega) [hD, fI, fL, fV, zs_ar, zt_ar, zs_un, zt_un, zn_c, zu_a, zu_e, zu_j, zix, zi_lit, zl_lit, zi_add, zi_sub, zi_mul, zi_neg, zi_le, zi_lt, zi_eq, zl_add, zl_sub, zl_mul, zi_i2l, zl_l2i, zb0, zb1, zb0', zb1', zi_c0, zi_c1, zb_c, f1, f2, f4, f7, gat3, gna, n2, L2.1, s2, zi_div, m2, i_leT, i_leF, i_ltT, i_ltF, i_eqT, i_eqF]
  refine b_Front_standBefore_16 xs _ _ _ _ _ _ ?_
  simp (discharger := first | assumption | omega) [hD, fI, fL, fV, zs_ar, zt_ar, zs_un, zt_un, zn_c, zu_a, zu_e, zu_j, zix, zi_lit, zl_lit, zi_add, zi_sub, zi_mul, zi_neg, zi_le, zi_lt, zi_eq, zl_add, zl_sub, zl_mul, zi_i2l, zl_l2i, zb0, zb1, zb0', zb1', zi_c0, zi_c1, zb_c, f1, f2, f5.1, s3, i_leT, i_leF, i_ltT, i_ltF, i_eqT, i_eqF]
  exact hQ) Q
/-- the planner's two fronts -/
def PL (R : Nat → Nat → Option Nat) (f t : Nat) : Prop := R 1 0 = some f ∧ R 1 1 = some t ∧ (f = 2 ∧ t = 8 ∨ f = 8 ∧ t = 2)
/-- the states of a place read -/
def rds (v : Nat → Int → Int) (f : Nat) (i k : Int) : Nat → Int → Int := zu (zu (zu v 14 2 (v (f + 5) (i * 3 + 2) * 3 + k % 3)) 14 1 (v (f + 5) (i * 3 + 1) * 3 + k / 3 % 3)) 14 0 (v (f + 5) (i * 3) * 3 + k / 3 / 3 % 3)
theorem rds_row {v : Nat → Int → Int} {f b : Nat} {i k : Int} (h : b ≠ 14) : rds v f i k b = v b := by
  unfold rds
  rw [zu_row h, zu_row h, zu_row h]
theorem d_readStates (xs : List Int32) (sh : List q_Sh) (v w : Nat → Int → Int) (R : Nat → Nat → Option Nat) (hD : LD sh R) (f t : Nat) (hP : PL R f t) (i k : Int) (hi : 0 ≤ i ∧ i < 25) (hk : 0 ≤ k ∧ k < 27) (Q : q_H → Prop) : q_CallV (GG xs) PP kPlanner_readStates [.ref 1, .int (zi i), .int (zi k)] (sh, zs v, zt w, R) Q = Q (sh, zs (rds v f i k), zt w, R) := cV (fun Q hQ => by
  obtain ⟨p1, p2, p3⟩ := hP
  obtain ⟨f1, f2, f3, f4, f5, f6, f7, f8⟩ := LD_FR hD (a := f) (by omega)
  have m0 : k - k / 3 * 3 = k % 3 := by omega
  have m1 : k / 3 - k / 3 / 3 * 3 = k / 3 % 3 := by omega
  have m2 : k / 3 / 3 - k / 3 / 3 / 3 * 3 = k / 3 / 3 % 3 := by omega
  have nf : f + 5 ≠ 14 := by omega
  unfold rds at hQ
  refine e_Planner_readStates xs _ _ _ _ (sh, zs v, zt w, R) ?_
  simp (discharger := first | assumption | omega) [fI, fL, fV, zs_ar, zt_ar, zs_un, zt_un, zn_c, zu_a, zu_e, zu_j, zix, zi_lit, zl_lit, zi_add, zi_sub, zi_mul, zi_neg, zi_le, zi_lt, zi_eq, zl_add, zl_sub, zl_mul, zi_i2l, zl_l2i, zb0, zb1, zb0', zb1', zi_c0, zi_c1, zb_c]
  refine b_Planner_readStates_5 xs _ _ _ _ _ _ ?_
  simp (discharger := first | assumption | omega) [hD, fI, fL, fV, zs_ar, zt_ar, zs_un, zt_un, zn_c, zu_a, zu_e, zu_j, zix, zi_lit, zl_lit, zi_add, zi_sub, zi_mul, zi_neg, zi_le, zi_lt, zi_eq, zl_add, zl_sub, zl_mul, zi_i2l, zl_l2i, zb0, zb1, zb0', zb1', zi_c0, zi_c1, zb_c, p1, f1, f4, f7, zi_div, m0, nf, i_leT, i_leF, i_ltT, i_ltF, i_eqT, i_eqF]
  refine b_Planner_readStates_5 xs _ _ _ _ _ _ ?_
  simp (discharger := first | assumption | omega) [hD, fI, fL, fV, zs_ar, zt_ar, zs_un, zt_un, zn_c, zu_a, zu_e, zu_j, zix, zi_lit, zl_lit, zi_add, zi_sub, zi_mul, zi_neg, zi_le, zi_lt, zi_eq, zl_add, zl_sub, zl_mul, zi_i2l, zl_l2i, zb0, zb1, zb0', zb1', zi_c0, zi_c1, zb_c, p1, f1, f4, f7, zi_div, m1, nf, i_leT, i_leF, i_ltT, i_ltF, i_eqT, i_eqF]
  refine b_Planner_readStates_5 xs _ _ _ _ _ _ ?_
  simp (discharger := first | assumption | omega) [hD, fI, fL, fV, zs_ar, zt_ar, zs_un, zt_un, zn_c, zu_a, zu_e, zu_j, zix, zi_lit, zl_lit, zi_add, zi_sub, zi_mul, zi_neg, zi_le, zi_lt, zi_eq, zl_add, zl_sub, zl_mul, zi_i2l, zl_l2i, zb0, zb1, zb0', zb1', zi_c0, zi_c1, zb_c, p1, f1, f4, f7, zi_div, m2, nf, i_leT, i_leF, i_ltT, i_ltF, i_eqT, i_eqF]
  refine b_Planner_readStates_5 xs _ _ _ _ _ _ ?_
  simp (discharger := first | assumption | omega) [fI, fL, fV, zs_ar, zt_ar, zs_un, zt_un, zn_c, zu_a, zu_e, zu_j, zix, zi_lit, zl_lit, zi_add, zi_sub, zi_mul, zi_neg, zi_le, zi_lt, zi_eq, zl_add, zl_sub, zl_mul, zi_i2l, zl_l2i, zb0, zb1, zb0', zb1', zi_c0, zi_c1, zb_c, i_leT, i_leF, i_ltT, i_ltF, i_eqT, i_eqF]
  exact hQ) Q
/-- the next state of a set by a fitting choice; what is held behind it; what the steps cost -/
def nxs (v : Nat → Int → Int) (t : Nat) (i u : Int) : Int := v (uc u + 3) (v 14 u * 5 + v (t + 5) (i * 3 + u))
def hbv (v : Nat → Int → Int) (t : Nat) (i : Int) : Int := if nxs v t i 0 = -1 ∨ nxs v t i 1 = -1 ∨ nxs v t i 2 = -1 then -1 else (nxs v t i 0 % 3 * 3 + nxs v t i 1 % 3) * 3 + nxs v t i 2 % 3
def cs3 (v : Nat → Int → Int) (t : Nat) (i : Int) : Int := cstp v (uc 0) (v 14 0) (v (t + 5) (i * 3 + 0)) + cstp v (uc 1) (v 14 1) (v (t + 5) (i * 3 + 1)) + cstp v (uc 2) (v 14 2) (v (t + 5) (i * 3 + 2))
/-- the states read are states, the fitting choices choices -/
def g14 (v : Nat → Int → Int) : Prop := ∀ u, 0 ≤ u → u < 3 → 0 ≤ v 14 u ∧ v 14 u < 15
def gch (v : Nat → Int → Int) (a : Nat) : Prop := ∀ j, 0 ≤ j → j < 3 * v a 3 → 0 ≤ v (a + 5) j ∧ v (a + 5) j < 5
def gcf (v : Nat → Int → Int) (a : Nat) : Prop := (0 ≤ v a 3 ∧ v a 3 ≤ 25) ∧ gch v a
theorem l_hb5 (xs : List Int32) (sh : List q_Sh) (v w : Nat → Int → Int) (R : Nat → Nat → Option Nat) (hD : LD sh R) (hO : dOs v) (f t : Nat) (hP : PL R f t) (h14 : g14 v) (i u acc : Int) (hi : 0 ≤ i ∧ i < v t 3) (hi2 : i < 25) (hg : gch v t) (hu : 0 ≤ u ∧ u < 3) (F : Option Value → q_H → Prop) (h0 : nxs v t i u = -1 → F (some (.int (zi (-1)))) (sh, zs v, zt w, R))
    (hn : nxs v t i u ≠ -1 → q_Rt (GG xs) PP 102 F 5 [some (.ref 1), some (.ref 32), some (.int (zi i)), some (.int (zi (acc * 3 + nxs v t i u % 3))), some (.int (zi (u + 1))), none, none] [] (sh, zs v, zt w, R)) :
    q_Rt (GG xs) PP 102 F 5 [some (.ref 1), some (.ref 32), some (.int (zi i)), some (.int (zi acc)), some (.int (zi u)), none, none] [] (sh, zs v, zt w, R) := by
  obtain ⟨p1, p2, p3⟩ := hP
  obtain ⟨f1, f2, f3, f4, f5, f6, f7, f8⟩ := LD_FR hD (a := t) (by omega)
  have hL := LD_LU hD hu
  have a1 := h14 u hu.1 hu.2
  have a2 := hg (i * 3 + u) (by omega) (by omega)
  have a3 := (hO u hu.1 hu.2).1 (v 14 u) (v (t + 5) (i * 3 + u)) a1.1 a1.2 a2.1 a2.2
  have s := d_nextState xs sh v w R (uc u) hL (v 14 u) (v (t + 5) (i * 3 + u)) a1 a2
  rw [show v (uc u + 3) (v 14 u * 5 + v (t + 5) (i * 3 + u)) = nxs v t i u from rfl] at s a3
  have un := LD_un hD hu
  refine b_Planner_heldBehind_5 xs F _ _ _ _ _ (sh, zs v, zt w, R) ?_
  generalize nxs v t i u = x at *
  by_cases q : x = -1
  · have K := h0 q
    simp (discharger := first | assumption | omega) [hD, fI, fL, fV, zs_ar, zt_ar, zs_un, zt_un, zn_c, zu_a, zu_e, zu_j, zix, zi_lit, zl_lit, zi_add, zi_sub, zi_mul, zi_neg, zi_le, zi_lt, zi_eq, zl_add, zl_sub, zl_mul, zi_i2l, zl_l2i, zb0, zb1, zb0', zb1', zi_c0, zi_c1, zb_c, p2, f1, f4, f7, gat3, gna, un, hL.1, s, q, i_leT, i_leF, i_ltT, i_ltF, i_eqT, i_eqF]
    exact K
  · have K := hn q
    have m : x - x / 3 * 3 = x % 3 := by omega
    simp (discharger := first | assumption | omega) [hD, fI, fL, fV, zs_ar, zt_ar, zs_un, zt_un, zn_c, zu_a, zu_e, zu_j, zix, zi_lit, zl_lit, zi_add, zi_sub, zi_mul, zi_neg, zi_le, zi_lt, zi_eq, zl_add, zl_sub, zl_mul, zi_i2l, zl_l2i, zb0, zb1, zb0', zb1', zi_c0, zi_c1, zb_c, p2, f1, f4, f7, gat3, gna, un, hL.1, s, q, zi_div, m, i_leT, i_leF, i_ltT, i_ltF, i_eqT, i_eqF]
    exact K
theorem d_heldBehind (xs : List Int32) (sh : List q_Sh) (v w : Nat → Int → Int) (R : Nat → Nat → Option Nat) (hD : LD sh R) (hO : dOs v) (f t : Nat) (hP : PL R f t) (h14 : g14 v) (i : Int) (hi : 0 ≤ i ∧ i < v t 3) (hi2 : i < 25) (hg : gch v t) (Q : Int32 → q_H → Prop) : q_CallI (GG xs) PP kPlanner_heldBehind [.ref 1, .ref 32, .int (zi i)] (sh, zs v, zt w, R) Q = Q (zi (hbv v t i)) (sh, zs v, zt w, R) := cI (fun Q hQ => by
  have K := l_hb5 xs sh v w R hD hO f t hP h14 i 0 0 hi hi2 hg (by omega) (q_FI Q) (fun q => by
      unfold hbv at hQ
      rw [if_pos (Or.inl q)] at hQ
      exact hQ) (fun q0 => l_hb5 xs sh v w R hD hO f t hP h14 i 1 _ hi hi2 hg (by omega) (q_FI Q) (fun q => by
      unfold hbv at hQ
      rw [if_pos (Or.inr (Or.inl q))] at hQ
      exact hQ) (fun q1 => l_hb5 xs sh v w R hD hO f t hP h14 i 2 _ hi hi2 hg (by omega) (q_FI Q) (fun q => by
      unfold hbv at hQ
      rw [if_pos (Or.inr (Or.inr q))] at hQ
      exact hQ) (fun q2 => by
      unfold hbv at hQ
      rw [if_neg (fun z => z.elim q0 (fun z => z.elim q1 q2))] at hQ
      refine b_Planner_heldBehind_5 xs _ _ _ _ _ _ (sh, zs v, zt w, R) ?_
      simp (discharger := first | assumption | omega) [fI, fL, fV, zs_ar, zt_ar, zs_un, zt_un, zn_c, zu_a, zu_e, zu_j, zix, zi_lit, zl_lit, zi_add, zi_sub, zi_mul, zi_neg, zi_le, zi_lt, zi_eq, zl_add, zl_sub, zl_mul, zi_i2l, zl_l2i, zb0, zb1, zb0', zb1', zi_c0, zi_c1, zb_c, i_leT, i_leF, i_ltT, i_ltF, i_eqT, i_eqF]
      simpa using hQ)))
  refine e_Planner_heldBehind xs _ _ _ _ (sh, zs v, zt w, R) ?_
  simp (discharger := first | assumption | omega) [fI, fL, fV, zs_ar, zt_ar, zs_un, zt_un, zn_c, zu_a, zu_e, zu_j, zix, zi_lit, zl_lit, zi_add, zi_sub, zi_mul, zi_neg, zi_le, zi_lt, zi_eq, zl_add, zl_sub, zl_mul, zi_i2l, zl_l2i, zb0, zb1, zb0', zb1', zi_c0, zi_c1, zb_c]
  exact K) Q
theorem l_cs5 (xs : List Int32) (sh : List q_Sh) (v w : Nat → Int → Int) (R : Nat → Nat → Option Nat) (hD : LD sh R) (f t : Nat) (hP : PL R f t) (h14 : g14 v) (i u acc : Int) (hi : 0 ≤ i ∧ i < v t 3) (hi2 : i < 25) (hg : gch v t) (hu : 0 ≤ u ∧ u < 3) (F : Option Value → q_H → Prop)
    (hn : q_Rt (GG xs) PP 103 F 5 [some (.ref 1), some (.ref 32), some (.int (zi i)), some (.int (zi (acc + cstp v (uc u) (v 14 u) (v (t + 5) (i * 3 + u))))), some (.int (zi (u + 1))), none] [] (sh, zs v, zt w, R)) :
    q_Rt (GG xs) PP 103 F 5 [some (.ref 1), some (.ref 32), some (.int (zi i)), some (.int (zi acc)), some (.int (zi u)), none] [] (sh, zs v, zt w, R) := by
  obtain ⟨p1, p2, p3⟩ := hP
  obtain ⟨f1, f2, f3, f4, f5, f6, f7, f8⟩ := LD_FR hD (a := t) (by omega)
  have hL := LD_LU hD hu
  have a1 := h14 u hu.1 hu.2
  have a2 := hg (i * 3 + u) (by omega) (by omega)
  have s := d_costOfStep xs sh v w R (uc u) hL (v 14 u) (v (t + 5) (i * 3 + u)) a1 a2
  rw [show v (uc u + 1) (v (t + 5) (i * 3 + u)) + (if v 14 u < 3 ∧ v (t + 5) (i * 3 + u) ≠ 0 then v (uc u + 2) (v 14 u) else 0) = cstp v (uc u) (v 14 u) (v (t + 5) (i * 3 + u)) from rfl] at s
  have un := LD_un hD hu
  refine b_Planner_costOfSteps_5 xs F _ _ _ _ _ (sh, zs v, zt w, R) ?_
  simp (discharger := first | assumption | omega) [hD, fI, fL, fV, zs_ar, zt_ar, zs_un, zt_un, zn_c, zu_a, zu_e, zu_j, zix, zi_lit, zl_lit, zi_add, zi_sub, zi_mul, zi_neg, zi_le, zi_lt, zi_eq, zl_add, zl_sub, zl_mul, zi_i2l, zl_l2i, zb0, zb1, zb0', zb1', zi_c0, zi_c1, zb_c, p2, f1, f4, f7, gat3, gna, un, hL.1, s, i_leT, i_leF, i_ltT, i_ltF, i_eqT, i_eqF]
  exact hn
theorem d_costOfSteps (xs : List Int32) (sh : List q_Sh) (v w : Nat → Int → Int) (R : Nat → Nat → Option Nat) (hD : LD sh R) (f t : Nat) (hP : PL R f t) (h14 : g14 v) (i : Int) (hi : 0 ≤ i ∧ i < v t 3) (hi2 : i < 25) (hg : gch v t) (Q : Int32 → q_H → Prop) : q_CallI (GG xs) PP kPlanner_costOfSteps [.ref 1, .ref 32, .int (zi i)] (sh, zs v, zt w, R) Q = Q (zi (cs3 v t i)) (sh, zs v, zt w, R) := cI (fun Q hQ => by
  have K := l_cs5 xs sh v w R hD f t hP h14 i 0 0 hi hi2 hg (by omega) (q_FI Q) (l_cs5 xs sh v w R hD f t hP h14 i 1 _ hi hi2 hg (by omega) (q_FI Q) (l_cs5 xs sh v w R hD f t hP h14 i 2 _ hi hi2 hg (by omega) (q_FI Q) (by
      refine b_Planner_costOfSteps_5 xs _ _ _ _ _ _ (sh, zs v, zt w, R) ?_
      unfold cs3 at hQ
      simp (discharger := first | assumption | omega) [fI, fL, fV, zs_ar, zt_ar, zs_un, zt_un, zn_c, zu_a, zu_e, zu_j, zix, zi_lit, zl_lit, zi_add, zi_sub, zi_mul, zi_neg, zi_le, zi_lt, zi_eq, zl_add, zl_sub, zl_mul, zi_i2l, zl_l2i, zb0, zb1, zb0', zb1', zi_c0, zi_c1, zb_c, i_leT, i_leF, i_ltT, i_ltF, i_eqT, i_eqF]
      simpa using hQ)))
  refine e_Planner_costOfSteps xs _ _ _ _ (sh, zs v, zt w, R) ?_
  simp (discharger := first | assumption | omega) [fI, fL, fV, zs_ar, zt_ar, zs_un, zt_un, zn_c, zu_a, zu_e, zu_j, zix, zi_lit, zl_lit, zi_add, zi_sub, zi_mul, zi_neg, zi_le, zi_lt, zi_eq, zl_add, zl_sub, zl_mul, zi_i2l, zl_l2i, zb0, zb1, zb0', zb1', zi_c0, zi_c1, zb_c]
  exact K) Q
theorem hbv_rng (v : Nat → Int → Int) (t : Nat) (i : Int) : -1 ≤ hbv v t i ∧ hbv v t i < 27 := by
  unfold hbv
  split <;> omega
theorem cs3_rng {v : Nat → Int → Int} (hO : dOs v) (h14 : g14 v) {t : Nat} (hg : gch v t) {i : Int} (hi : 0 ≤ i ∧ i < v t 3) : 0 ≤ cs3 v t i ∧ cs3 v t i ≤ 150000 := by
  have a0 := cstp_rng (hO 0 (by omega) (by omega)) (h14 0 (by omega) (by omega)).1 (hg (i * 3 + 0) (by omega) (by omega))
  have a1 := cstp_rng (hO 1 (by omega) (by omega)) (h14 1 (by omega) (by omega)).1 (hg (i * 3 + 1) (by omega) (by omega))
  have a2 := cstp_rng (hO 2 (by omega) (by omega)) (h14 2 (by omega) (by omega)).1 (hg (i * 3 + 2) (by omega) (by omega))
  unfold cs3
  omega
/-- on from a place of cost k and way y -/
def gpl (v : Nat → Int → Int) (t : Nat) (k y : Int) (w : Nat → Int → Int) : Nat → Nat → Int → Int
  | 0 => w
  | i + 1 => if hbv v t i = -1 then gpl v t k y w i else ofr (gpl v t k y w i) (t + 2) (t + 3) (i * 27 + hbv v t i) (k + cs3 v t i) (y * 125 + v (t + 4) i)
theorem gpl_row {v : Nat → Int → Int} {t : Nat} {k y : Int} {w : Nat → Int → Int} {b : Nat} (h1 : b ≠ t + 2) (h2 : b ≠ t + 3) : ∀ i, gpl v t k y w i b = w b
  | 0 => rfl
  | i + 1 => by
    unfold gpl
    split
    · exact gpl_row h1 h2 i
    · rw [ofr_row h1 h2]
      exact gpl_row h1 h2 i
/-- a front's codes -/
def gco (v : Nat → Int → Int) (a : Nat) : Prop := (0 ≤ v a 3 ∧ v a 3 ≤ 25) ∧ gch v a ∧ ∀ j, 0 ≤ j → j < v a 3 → 0 ≤ v (a + 4) j ∧ v (a + 4) j < 125
theorem gpl_RL {v : Nat → Int → Int} (hO : dOs v) (h14 : g14 v) {t : Nat} (hg : gco v t) {k y K M : Int} {w : Nat → Int → Int} (hK : K + 10000000 ≤ 1000000000) (hf : 0 ≤ y ∧ y < M ∧ -K ≤ k ∧ k ≤ K) (ht : RL w (t + 2) (t + 3) 675 (K + 10000000) (125 * M)) : ∀ i : Nat, (i : Int) ≤ v t 3 → RL (gpl v t k y w i) (t + 2) (t + 3) 675 (K + 10000000) (125 * M)
  | 0, _ => ht
  | i + 1, hi => by
    have ih := gpl_RL hO h14 hg hK hf ht i (by omega)
    have c := cs3_rng hO h14 hg.2.1 (i := i) (by omega)
    have d := hg.2.2 i (by omega) (by omega)
    unfold gpl
    split
    · exact ih
    · exact RL_ofr ih (by omega) (by omega) (by omega) hK
theorem d_goOnFromP (xs : List Int32) (sh : List q_Sh) (v w : Nat → Int → Int) (R : Nat → Nat → Option Nat) (hD : LD sh R) (hO : dOs v) (f t : Nat) (hP : PL R f t) (h14 : g14 v) (hg : gco v t) (p : Int) (hp : 0 ≤ p ∧ p < 675) (K M : Int) (hK : K + 10000000 ≤ 1000000000) (hM : 125 * M ≤ 8000000000000000000) (hf : 0 ≤ w (f + 3) p ∧ w (f + 3) p < M ∧ -K ≤ w (f + 2) p ∧ w (f + 2) p ≤ K) (ht : RL w (t + 2) (t + 3) 675 (K + 10000000) (125 * M)) (Q : q_H → Prop) : q_CallV (GG xs) PP kPlanner_goOnFrom [.ref 1, .ref 32, .int (zi p)] (sh, zs v, zt w, R) Q = Q (sh, zs v, zt (gpl v t (w (f + 2) p) (w (f + 3) p) w (v t 3).toNat), R) := cV (fun Q hQ => by
  have hP2 := hP
  obtain ⟨p1, p2, p3⟩ := hP2
  obtain ⟨f1, f2, f3, f4, f5, f6, f7, f8⟩ := LD_FR hD (a := f) (by omega)
  obtain ⟨t1, t2, t3, t4, t5, t6, t7, t8⟩ := LD_FR hD (a := t) (by omega)
  have hg0 := hg.1
  have L : ∀ i : Int, 0 ≤ i → i ≤ v t 3 → q_Rt (GG xs) PP 101 (q_FV Q) 34 [some (.ref 1), some (.ref 32), none, some (.long (zl (w (f + 2) p))), none, some (.long (zl (w (f + 3) p * 125))), none, some (.int (zi i)), none, none, none] [] (sh, zs v, zt (gpl v t (w (f + 2) p) (w (f + 3) p) w i.toNat), R) := by
    refine zdown _ ?_ (fun i h1 h2 ih => ?_)
    · refine b_Planner_goOnFrom_34 xs _ _ _ _ _ _ _ ?_
      simp (discharger := first | assumption | omega) [hD, fI, fL, fV, zs_ar, zt_ar, zs_un, zt_un, zn_c, zu_a, zu_e, zu_j, zix, zi_lit, zl_lit, zi_add, zi_sub, zi_mul, zi_neg, zi_le, zi_lt, zi_eq, zl_add, zl_sub, zl_mul, zi_i2l, zl_l2i, zb0, zb1, zb0', zb1', zi_c0, zi_c1, zb_c, p2, t1, i_leT, i_leF, i_ltT, i_ltF, i_eqT, i_eqF]
      exact hQ
    · rw [show (i + 1).toNat = i.toNat + 1 by omega] at ih
      unfold gpl at ih
      rw [show ((i.toNat : Nat) : Int) = i by omega] at ih
      have r := gpl_RL hO h14 hg hK hf ht i.toNat (by omega)
      have c := cs3_rng hO h14 hg.2.1 (i := i) ⟨h1, h2⟩
      have d := hg.2.2 i h1 h2
      have hb := hbv_rng v t i
      have s1 := d_heldBehind xs sh v (gpl v t (w (f + 2) p) (w (f + 3) p) w i.toNat) R hD hO f t hP h14 i ⟨h1, h2⟩ (by omega) hg.2.1
      have s2 := d_costOfSteps xs sh v (gpl v t (w (f + 2) p) (w (f + 3) p) w i.toNat) R hD f t hP h14 i ⟨h1, h2⟩ (by omega) hg.2.1
      refine b_Planner_goOnFrom_34 xs _ _ _ _ _ _ _ ?_
      by_cases q : hbv v t i = -1
      · rw [if_pos q] at ih
        simp (discharger := first | assumption | omega) [hD, fI, fL, fV, zs_ar, zt_ar, zs_un, zt_un, zn_c, zu_a, zu_e, zu_j, zix, zi_lit, zl_lit, zi_add, zi_sub, zi_mul, zi_neg, zi_le, zi_lt, zi_eq, zl_add, zl_sub, zl_mul, zi_i2l, zl_l2i, zb0, zb1, zb0', zb1', zi_c0, zi_c1, zb_c, p2, t1, s1, q, i_leT, i_leF, i_ltT, i_ltF, i_eqT, i_eqF]
        exact ih
      · rw [if_neg q] at ih
        have s3 := d_offer xs sh v (gpl v t (w (f + 2) p) (w (f + 3) p) w i.toNat) R (t + 1) (t + 2) (t + 3) 675 t5 (i * 27 + hbv v t i) (w (f + 2) p + cs3 v t i) (w (f + 3) p * 125 + v (t + 4) i) (by omega) (RL_okw r hM (by omega)) (RL_okc r (by omega)) (by unfold okL; omega) (by unfold okL; omega)
        simp (discharger := first | assumption | omega) [hD, fI, fL, fV, zs_ar, zt_ar, zs_un, zt_un, zn_c, zu_a, zu_e, zu_j, zix, zi_lit, zl_lit, zi_add, zi_sub, zi_mul, zi_neg, zi_le, zi_lt, zi_eq, zl_add, zl_sub, zl_mul, zi_i2l, zl_l2i, zb0, zb1, zb0', zb1', zi_c0, zi_c1, zb_c, p2, t1, t2, t3, t5.1, t6, s1, s2, s3, q, i_leT, i_leF, i_ltT, i_ltF, i_eqT, i_eqF]
        exact ih
  have K0 := L 0 (by omega) (by omega)
  refine e_Planner_goOnFrom xs _ _ _ _ (sh, zs v, zt w, R) ?_
  simp (discharger := first | assumption | omega) [hD, fI, fL, fV, zs_ar, zt_ar, zs_un, zt_un, zn_c, zu_a, zu_e, zu_j, zix, zi_lit, zl_lit, zi_add, zi_sub, zi_mul, zi_neg, zi_le, zi_lt, zi_eq, zl_add, zl_sub, zl_mul, zi_i2l, zl_l2i, zb0, zb1, zb0', zb1', zi_c0, zi_c1, zb_c, p1, f1, f2, f5.1, f5.2.1, f5.2.2.1, f5.2.2.2.1, f5.2.2.2.2.1]
  exact K0) Q
