/-! The market: a round. -/
theorem cmp_mov (p d s t : Int) : (if -100000 < (if 100000 < p + zcmp d s * t then 100000 else p + zcmp d s * t) then (if 100000 < p + zcmp d s * t then 100000 else p + zcmp d s * t) else -100000) = zmov p d s t := by
  have e : zcmp d s * t = (if s < d then t else if d < s then -t else 0) := by
    unfold zcmp
    by_cases c1 : d < s
    · rw [if_pos c1, if_neg (show ¬ s < d by omega), if_pos c1]
      omega
    · rw [if_neg c1]
      by_cases c2 : d = s
      · rw [if_pos c2, if_neg (show ¬ s < d by omega), if_neg c1]
        omega
      · rw [if_neg c2, if_pos (show s < d by omega)]
        omega
  rw [e]
  unfold zmov zclp
  generalize (if s < d then t else if d < s then -t else 0) = m
  (repeat' split) <;> omega
/-- what of the class a round leaves -/
def sRd (v v' : Nat → Int → Int) : Prop := (∀ b, b ≠ 15 → b ≠ 16 → b ≠ 18 → v' b = v b) ∧ ∀ j, j ≠ 5 → v' 15 j = v 15 j
def sRw (w w' : Nat → Int → Int) : Prop := (∀ b, b ≠ 15 → b ≠ 17 → b < 20 ∨ 24 < b → w' b = w b) ∧ ∀ j, j ≠ 6 → w' 15 j = w 15 j
def rR (v v' : Nat → Int → Int) : Prop := ∀ b, 48 ≤ b → v' b = v b
theorem rR_M {v v' : Nat → Int → Int} (h : rR v v') : sameM v v' := ⟨fun a h1 h2 => h a (by omega), h 63 (by decide), by rw [h 48 (by decide)], by rw [h 48 (by decide)]⟩
theorem RR_pz {v v' : Nat → Int → Int} (s : sRd v v') (hn : pz v 48 2 ≤ 3) (h : RR (pz v)) : RR (pz v') := by
  obtain ⟨a1, a2, a3, a4, a5, a6⟩ := h
  have row : ∀ b, b ≠ 15 → b ≠ 16 → b ≠ 18 → b ≠ 63 → b ≠ 48 → pz v' b = pz v b := fun b b1 b2 b3 b4 b5 => by rw [pz_row b4 b5, pz_row b4 b5, s.1 b b1 b2 b3]
  have r48 : ∀ j, j ≠ 18 → pz v' 48 j = pz v 48 j := fun j hj => by rw [pz_48 hj, pz_48 hj, s.1 48 (by decide) (by decide) (by decide)]
  have un : ∀ u, 0 ≤ u → u < 3 → pz v' (uc u) = pz v (uc u) ∧ pz v' (uc u + 1) = pz v (uc u + 1) ∧ pz v' (uc u + 2) = pz v (uc u + 2) ∧ pz v' (uc u + 3) = pz v (uc u + 3) := fun u u1 u2 => by
    have r := uc_rng ⟨u1, u2⟩
    exact ⟨row _ (by omega) (by omega) (by omega) (by omega) (by omega), row _ (by omega) (by omega) (by omega) (by omega) (by omega), row _ (by omega) (by omega) (by omega) (by omega) (by omega), row _ (by omega) (by omega) (by omega) (by omega) (by omega)⟩
  refine ⟨?_, fun h h1 h2 => ?_, fun j j1 j2 => ?_, fun u u1 u2 => ?_, fun u u1 u2 => ?_, fun u u1 u2 => ?_⟩
  · rw [row 32 (by decide) (by decide) (by decide) (by decide) (by decide), r48 1 (by decide), r48 2 (by decide)]
    exact a1
  · obtain ⟨q1, q2, q3⟩ := a2 h h1 h2
    rw [row 34 (by decide) (by decide) (by decide) (by decide) (by decide), row 35 (by decide) (by decide) (by decide) (by decide) (by decide), row 58 (by decide) (by decide) (by decide) (by decide) (by decide), row 59 (by decide) (by decide) (by decide) (by decide) (by decide)]
    exact ⟨q1, q2, by rw [pz_63, pz_row (by decide) (by decide)]⟩
  · rw [row 25 (by decide) (by decide) (by decide) (by decide) (by decide), row 60 (by decide) (by decide) (by decide) (by decide) (by decide), r48 2 (by decide)]
    exact a3 j j1 j2
  · rw [r48 2 (by decide)] at u2
    have := a4 u u1 u2
    by_cases q : u < 3
    · obtain ⟨e0, e1, e2, e3⟩ := un u u1 q
      unfold RU
      rw [e0, e1, e2, row 49 (by decide) (by decide) (by decide) (by decide) (by decide), row 50 (by decide) (by decide) (by decide) (by decide) (by decide), row 51 (by decide) (by decide) (by decide) (by decide) (by decide), row 52 (by decide) (by decide) (by decide) (by decide) (by decide), row 53 (by decide) (by decide) (by decide) (by decide) (by decide), row 54 (by decide) (by decide) (by decide) (by decide) (by decide), row 55 (by decide) (by decide) (by decide) (by decide) (by decide), row 56 (by decide) (by decide) (by decide) (by decide) (by decide), row 57 (by decide) (by decide) (by decide) (by decide) (by decide)]
      exact this
    · omega
  · rw [r48 2 (by decide)] at u1
    have := a5 u u1 u2
    by_cases q : 0 ≤ u
    · obtain ⟨e0, e1, e2, e3⟩ := un u q u2
      unfold RN
      rw [e0, e1]
      exact this
    · have e : uc u = 36 := by unfold uc; omega
      unfold RN at this ⊢
      rw [e] at this ⊢
      rw [row 36 (by decide) (by decide) (by decide) (by decide) (by decide), row 37 (by decide) (by decide) (by decide) (by decide) (by decide)]
      exact this
  · obtain ⟨e0, e1, e2, e3⟩ := un u u1 u2
    unfold RX dX
    rw [e0, e3]
    exact a6 u u1 u2
theorem rA_pz {v v' : Nat → Int → Int} (s : sRd v v') (hP : dPr v') (h : rA (pz v)) : rA (pz v') := by
  have row : ∀ b, b ≠ 15 → b ≠ 16 → b ≠ 18 → b ≠ 63 → b ≠ 48 → pz v' b = pz v b := fun b b1 b2 b3 b4 b5 => by rw [pz_row b4 b5, pz_row b4 b5, s.1 b b1 b2 b3]
  obtain ⟨a1, a2, a3, a4, a5, a6⟩ := h
  refine ⟨fun u h1 h2 => ?_, ?_, fun u h1 h2 => ?_, fun k h1 h2 => ?_, ?_, fun u h1 h2 => ?_⟩
  · rw [row 49 (by decide) (by decide) (by decide) (by decide) (by decide), row 50 (by decide) (by decide) (by decide) (by decide) (by decide), row 51 (by decide) (by decide) (by decide) (by decide) (by decide), row 52 (by decide) (by decide) (by decide) (by decide) (by decide), row 53 (by decide) (by decide) (by decide) (by decide) (by decide), row 56 (by decide) (by decide) (by decide) (by decide) (by decide), row 57 (by decide) (by decide) (by decide) (by decide) (by decide)]
    exact a1 u h1 h2
  · unfold rC
    rw [row 54 (by decide) (by decide) (by decide) (by decide) (by decide), row 55 (by decide) (by decide) (by decide) (by decide) (by decide)]
    exact a2
  · rw [pz_48 (by decide), s.1 48 (by decide) (by decide) (by decide)] at h2
    rw [row 49 (by decide) (by decide) (by decide) (by decide) (by decide), row 50 (by decide) (by decide) (by decide) (by decide) (by decide), row 51 (by decide) (by decide) (by decide) (by decide) (by decide), row 52 (by decide) (by decide) (by decide) (by decide) (by decide), row 53 (by decide) (by decide) (by decide) (by decide) (by decide), row 56 (by decide) (by decide) (by decide) (by decide) (by decide), row 57 (by decide) (by decide) (by decide) (by decide) (by decide)]
    exact a3 u h1 (by rw [pz_48 (by decide)]; exact h2)
  · rw [row 58 (by decide) (by decide) (by decide) (by decide) (by decide), row 59 (by decide) (by decide) (by decide) (by decide) (by decide), pz_63]
    exact ⟨(a4 k h1 h2).1, (a4 k h1 h2).2.1, hP k h1 h2⟩
  · unfold rN at a5 ⊢
    rw [pz_48 (by decide), pz_48 (by decide)] at a5 ⊢
    rw [s.1 48 (by decide) (by decide) (by decide)]
    exact a5
  · rw [row 60 (by decide) (by decide) (by decide) (by decide) (by decide)]
    exact a6 u h1 h2
theorem sRd_CM {sh : List q_Sh} {v v' w w' : Nat → Int → Int} {R R' : Nat → Nat → Option Nat} (h : CM sh v w R) (s : sRd v v') (hD : LD sh R') (hM : MR sh w' R') (hP : dPr v') (ht : 1 ≤ v' 15 5 ∧ v' 15 5 ≤ 64) : CM sh v' w' R' := by
  have e := CM_n h
  obtain ⟨-, hN, hU, hO, hE, -, -, hA, hr, -⟩ := h
  refine ⟨hD, ?_, fun u u1 u2 => ?_, fun u u1 u2 => ?_, fun k k1 k2 => ?_, hP, hM, rA_pz s hP hA, RR_pz s (by have := hN.2; omega) hr, ht⟩
  · unfold dN
    rw [s.1 32 (by decide) (by decide) (by decide)]
    exact hN
  · have r := uc_rng ⟨u1, u2⟩
    exact dU_row (s.1 _ (by omega) (by omega) (by omega)) (hU u u1 u2)
  · have r := uc_rng ⟨u1, u2⟩
    unfold dO
    rw [s.1 (uc u) (by omega) (by omega) (by omega), s.1 (uc u + 1) (by omega) (by omega) (by omega), s.1 (uc u + 2) (by omega) (by omega) (by omega), s.1 (uc u + 3) (by omega) (by omega) (by omega)]
    exact hO u u1 u2
  · rw [s.1 34 (by decide) (by decide) (by decide), s.1 35 (by decide) (by decide) (by decide)]
    exact hE k k1 k2
theorem d_goRound (xs : List Int32) (sh : List q_Sh) (v w : Nat → Int → Int) (R : Nat → Nat → Option Nat) (h : CM sh v w R) (g : LGs v w) (hb : -1000000000 ≤ w 15 6 ∧ w 15 6 ≤ 1000000000) :
    ∃ (v' w' : Nat → Int → Int) (R' : Nat → Nat → Option Nat), (CM sh v' w' R' ∧ LGs v' w' ∧ sRd v v' ∧ sRw w w' ∧ sR15 R R' ∧ rR (rdS (pz v) (w 15 6)) (pz v') ∧ w' 15 6 = rdB (pz v) (w 15 6)) ∧
    ∀ Q : q_H → Prop, q_CallV (GG xs) PP kMarket_goRound [.ref 15, .ref 32] (sh, zs v, zt w, R) Q = Q (sh, zs v', zt w', R') := by
  have e := CM_n h
  have h' := h
  obtain ⟨hD, hN, hU, hO, hE, hP, hMR, hA, hr, ht⟩ := h'
  have n1 := hN.1
  have n2 := hN.2
  have gl := fun u a b => (CM_LG h g (u := u) a b).2
  have lr : ∀ u k, 0 ≤ u → u < v 32 1 → 0 ≤ k → k < v 32 0 → 0 ≤ v 18 (8 * u + k) ∧ v 18 (8 * u + k) ≤ 63 := fun u k u1 u2 k1 k2 => by
    rw [gl u u1 u2 k k1 k2]
    exact xL_rng hA (by rw [← e.2]; exact ⟨u1, u2⟩) (by rw [← e.1]; exact ⟨k1, k2⟩)
  -- the prices moved
  have P1 : dPr (cpr v (v 32 0)) := fun k k1 k2 => by
    unfold cpr
    split
    · unfold zmov
      exact zclp_rng _
    · exact hP k k1 k2
  have s1 : sRd v (cpr v (v 32 0)) := ⟨fun b b1 b2 b3 => cpr_row b2, fun j hj => by rw [cpr_row (by decide)]⟩
  have C1 : CM sh (cpr v (v 32 0)) w R := sRd_CM h s1 hD hMR P1 (by rw [cpr_row (by decide)]; exact ht)
  have pz1 : rR (prw (pz v)) (pz (cpr v (v 32 0))) := fun b hb => by
    funext j
    unfold prw prh
    by_cases c : b = 63
    · subst c
      rw [pz_63]
      unfold cpr
      rw [e.1]
      by_cases q : 0 ≤ j ∧ j < pz v 48 1
      · rw [if_pos ⟨rfl, q⟩, if_pos ⟨rfl, q⟩]
        unfold newp
        have q2 := hr.2.1 j q.1 (by omega)
        rw [pz_row (v := v) (b := 34) (by decide) (by decide), pz_row (v := v) (b := 16) (by decide) (by decide)] at q2
        rw [pz_63, pz_18, ← q2.1, e.2]
        rw [zsum_cg (g := fun u => xL (pz v) u j) (pz v 48 2).toNat (fun i i1 i2 => gl i i1 (by omega) j q.1 (by omega))]
      · rw [if_neg (fun z => q z.2), if_neg (fun z => q z.2), pz_63]
    · rw [if_neg (fun z => c z.1)]
      by_cases c2 : b = 48 ∧ j = 18
      · rw [c2.1, c2.2, pz_18, pz_18, cpr_row (by decide)]
      · by_cases c3 : b = 48
        · rw [c3, pz_48 (fun z => c2 ⟨c3, z⟩), pz_48 (fun z => c2 ⟨c3, z⟩), cpr_row (by decide)]
        · rw [pz_row c c3, pz_row c c3, cpr_row (by omega)]
  obtain ⟨v2, w2, R2, ⟨a1, a2, a3, a4, a5, a6⟩, a7⟩ := d_planAll xs sh (cpr v (v 32 0)) w R hD C1.2.1 C1.2.2.1 C1.2.2.2.1 P1 hMR (CM_ways C1)
  have e32 : v2 32 = v 32 := (a1 32 (by decide)).trans (cpr_row (by decide))
  have e15 : v2 15 = v 15 := (a1 15 (by decide)).trans (cpr_row (by decide))
  have s2 : sRd v v2 := ⟨fun b b1 b2 b3 => (a1 b b3).trans (cpr_row b2), fun j hj => by rw [e15]⟩
  have P2 : dPr v2 := fun k k1 k2 => by rw [a1 16 (by decide)]; exact P1 k k1 k2
  have C2 : CM sh v2 w2 R2 := sRd_CM h s2 a5 a2 P2 (by rw [e15]; exact ht)
  have G2 : LGs v2 w2 := fun u q1 q2 => by
    rw [e32] at q2 ⊢
    have := a6 u q1 (by rw [cpr_row (by decide)]; exact q2)
    rw [cpr_row (by decide)] at this
    exact this
  have pz2 : rR (prw (pz v)) (pz v2) := fun b hb => by
    rw [← pz1 b hb]
    funext j
    unfold pz
    rw [a1 16 (by decide), a1 15 (by decide)]
    by_cases c : b = 63
    · rw [if_pos c, if_pos c]
    · rw [if_neg c, if_neg c, a1 b (by omega)]
  have bn2 : dBn v2 w2 = bnd (prw (pz v)) := by
    rw [CM_Bn C2 G2]
    exact sM_bnd (rR_M pz2)
  have bR := bnd_rng C2.2.2.2.2.2.2.2.1
  rw [sM_bnd (rR_M pz2)] at bR
  have ew : w2 15 = w 15 := a3 15 (by decide) (by omega)
  have sb := d_presentBound xs sh v2 w2 R2 a5 C2.2.1 C2.2.2.2.2.1 P2
  have hw2 : sRw w w2 := ⟨fun b b1 b2 b3 => a3 b b2 b3, fun j hj => by rw [ew]⟩
  have L : ∀ Q : q_H → Prop, (w 15 6 < bnd (prw (pz v)) → Q (sh, zs v2, zt (zu w2 15 6 (bnd (prw (pz v)))), R2)) → (¬ w 15 6 < bnd (prw (pz v)) → Q (sh, zs (zu v2 15 5 (if 1 < v 15 5 / 2 then v 15 5 / 2 else 1)), zt w2, R2)) → ∀ k : Int, 0 ≤ k → k ≤ v 32 0 → q_Rt (GG xs) PP 90 (q_FV Q) 2 [some (.ref 15), some (.ref 32), some (.int (zi k)), none, none] [] (sh, zs (cpr v k), zt w, R) := by
    intro Q q1 q2
    refine zdown _ ?_ (fun k k1 k2 ih => ?_)
    · have c32 : cpr v (v 32 0) 32 0 = v 32 0 := by rw [cpr_row (by decide)]
      have ew6 : w2 15 6 = w 15 6 := by rw [ew]
      have ev5 : v2 15 5 = v 15 5 := by rw [e15]
      refine b_Market_goRound_2 xs _ _ _ _ _ ?_
      rw [bn2] at sb
      by_cases c : w 15 6 < bnd (prw (pz v))
      · have K := q1 c
        simp (discharger := first | assumption | omega) [fI, fL, fV, zs_ar, zt_ar, zs_un, zt_un, zn_c, zu_a, zu_e, zu_j, zix, zi_lit, zl_lit, zi_add, zi_sub, zi_mul, zi_neg, zi_le, zi_lt, zi_eq, zl_add, zl_sub, zl_mul, zi_i2l, zl_l2i, zb0, zb1, zb0', zb1', zi_c0, zi_c1, zb_c, hD, a5, c32, a7, sb, ew6, ev5, lg_leI, lg_gtI, zi_div, zi_ite, i_leT, i_leF, i_ltT, i_ltF, i_eqT, i_eqF]
        exact K
      · have K := q2 c
        simp (discharger := first | assumption | omega) [fI, fL, fV, zs_ar, zt_ar, zs_un, zt_un, zn_c, zu_a, zu_e, zu_j, zix, zi_lit, zl_lit, zi_add, zi_sub, zi_mul, zi_neg, zi_le, zi_lt, zi_eq, zl_add, zl_sub, zl_mul, zi_i2l, zl_l2i, zb0, zb1, zb0', zb1', zi_c0, zi_c1, zb_c, hD, a5, c32, a7, sb, ew6, ev5, lg_leI, lg_gtI, zi_div, zi_ite, i_leT, i_leF, i_ltT, i_ltF, i_eqT, i_eqF]
        exact K
    · have c32 : ∀ j, cpr v k 32 j = v 32 j := fun j => by rw [cpr_row (by decide)]
      have c15 : cpr v k 15 5 = v 15 5 := by rw [cpr_row (by decide)]
      have c34 : cpr v k 34 k = v 34 k := by rw [cpr_row (by decide)]
      have c16 : cpr v k 16 k = v 16 k := by unfold cpr; rw [if_neg (by omega)]
      have st := d_together xs sh (cpr v k) w R hD (by unfold dN; rw [c32, c32]; exact hN) k (by omega)
      rw [c32, cpr_row (b := 18) (by decide)] at st
      have sr := zsum_rng (c := 63) (f := fun u => v 18 (8 * u + k)) (v 32 1).toNat (fun i i1 i2 => lr i k i1 (by omega) k1 k2)
      have dd := (hE k k1 (by omega)).1
      have pp := hP k k1 (by omega)
      have cs := cpr_s (v := v) k1
      have cm := cmp_mov (v 16 k) (v 34 k) (zsum (fun u => v 18 (8 * u + k)) (v 32 1).toNat) (v 15 5)
      have zr : -1 ≤ zcmp (v 34 k) (zsum (fun u => v 18 (8 * u + k)) (v 32 1).toNat) ∧ zcmp (v 34 k) (zsum (fun u => v 18 (8 * u + k)) (v 32 1).toNat) ≤ 1 := by unfold zcmp; (repeat' split) <;> omega
      have mr : -64 ≤ zcmp (v 34 k) (zsum (fun u => v 18 (8 * u + k)) (v 32 1).toNat) * v 15 5 ∧ zcmp (v 34 k) (zsum (fun u => v 18 (8 * u + k)) (v 32 1).toNat) * v 15 5 ≤ 64 := by
        unfold zcmp
        (repeat' split) <;> omega
      generalize zsum (fun u => v 18 (8 * u + k)) (v 32 1).toNat = S at *
      have sc := d_compare xs (v 34 k) S (sh, zs (cpr v k), zt w, R) (by omega) (by omega)
      generalize zcmp (v 34 k) S = z at *
      have r1 : -2147483648 ≤ (if 100000 < v 16 k + z * v 15 5 then 100000 else v 16 k + z * v 15 5) ∧ (if 100000 < v 16 k + z * v 15 5 then 100000 else v 16 k + z * v 15 5) < 2147483648 := by split <;> omega
      refine b_Market_goRound_2 xs _ _ _ _ _ ?_
      simp (discharger := first | assumption | omega) [fI, fL, fV, zs_ar, zt_ar, zs_un, zt_un, zn_c, zu_a, zu_e, zu_j, zix, zi_lit, zl_lit, zi_add, zi_sub, zi_mul, zi_neg, zi_le, zi_lt, zi_eq, zl_add, zl_sub, zl_mul, zi_i2l, zl_l2i, zb0, zb1, zb0', zb1', zi_c0, zi_c1, zb_c, hD, c32, c15, c34, c16, st, sc, zi_ite, zi_lt (a := -100000) (by omega) (by omega) r1.1 r1.2, cm, cs, i_leT, i_leF, i_ltT, i_ltF, i_eqT, i_eqF]
      exact ih
  have go : ∀ Q : q_H → Prop, (w 15 6 < bnd (prw (pz v)) → Q (sh, zs v2, zt (zu w2 15 6 (bnd (prw (pz v)))), R2)) → (¬ w 15 6 < bnd (prw (pz v)) → Q (sh, zs (zu v2 15 5 (if 1 < v 15 5 / 2 then v 15 5 / 2 else 1)), zt w2, R2)) → q_CallV (GG xs) PP kMarket_goRound [.ref 15, .ref 32] (sh, zs v, zt w, R) Q := fun Q q1 q2 => by
    have K := L Q q1 q2 0 (by omega) (by omega)
    rw [cpr_0] at K
    refine e_Market_goRound xs _ _ _ (sh, zs v, zt w, R) ?_
    simp (discharger := first | assumption | omega) [fI, fL, fV, zs_ar, zt_ar, zs_un, zt_un, zn_c, zu_a, zu_e, zu_j, zix, zi_lit, zl_lit, zi_add, zi_sub, zi_mul, zi_neg, zi_le, zi_lt, zi_eq, zl_add, zl_sub, zl_mul, zi_i2l, zl_l2i, zb0, zb1, zb0', zb1', zi_c0, zi_c1, zb_c]
    exact K
  by_cases c : w 15 6 < bnd (prw (pz v))
  · refine ⟨v2, zu w2 15 6 (bnd (prw (pz v))), R2, ⟨?_, ?_, s2, ⟨fun b b1 b2 b3 => by rw [zu_row b1]; exact hw2.1 b b1 b2 b3, fun j hj => by rw [zu_j hj]; exact hw2.2 j hj⟩, a4, ?_, ?_⟩, fun Q => cV (fun Q hQ => go Q (fun _ => hQ) (fun z => absurd c z)) Q⟩
    · exact sRd_CM h s2 a5 (MR_fr a2 (fun b b1 b2 => zu_row (by omega))) P2 (by rw [e15]; exact ht)
    · intro u q1 q2
      obtain ⟨cs, g1, g2⟩ := G2 u q1 q2
      exact ⟨cs, by rw [zu_a (by decide)]; exact g1, g2⟩
    · unfold rdS
      rw [if_pos c]
      exact pz2
    · unfold rdB
      rw [if_pos c, zu_e rfl]
  · refine ⟨zu v2 15 5 (if 1 < v 15 5 / 2 then v 15 5 / 2 else 1), w2, R2, ⟨?_, ?_, ⟨fun b b1 b2 b3 => by rw [zu_row b1]; exact s2.1 b b1 b2 b3, fun j hj => by rw [zu_j hj]; exact s2.2 j hj⟩, hw2, a4, ?_, ?_⟩, fun Q => cV (fun Q hQ => go Q (fun z => absurd z c) (fun _ => hQ)) Q⟩
    · refine sRd_CM h ⟨fun b b1 b2 b3 => by rw [zu_row b1]; exact s2.1 b b1 b2 b3, fun j hj => by rw [zu_j hj]; exact s2.2 j hj⟩ a5 a2 (fun k k1 k2 => by rw [zu_a (by decide)]; exact P2 k k1 k2) ?_
      rw [zu_e rfl]
      split <;> omega
    · intro u q1 q2
      rw [zu_a (by decide)] at q2
      obtain ⟨cs, g1, g2⟩ := G2 u q1 q2
      have hu3 : 0 ≤ u ∧ u < 3 := by rw [e32] at q2; omega
      have r := uc_rng hu3
      refine ⟨cs, ?_, ?_⟩
      · have t1 : dpT (zu v2 15 5 (if 1 < v 15 5 / 2 then v 15 5 / 2 else 1)) (uc u) = dpT v2 (uc u) := by
          funext a b c
          simp only [dpT, lcs, cstp, zu_row (v := v2) (a := 15) (b := uc u) (e := 5) (x := (if 1 < v 15 5 / 2 then v 15 5 / 2 else 1)) (by omega), zu_row (v := v2) (a := 15) (b := uc u + 1) (e := 5) (x := (if 1 < v 15 5 / 2 then v 15 5 / 2 else 1)) (by omega), zu_row (v := v2) (a := 15) (b := uc u + 2) (e := 5) (x := (if 1 < v 15 5 / 2 then v 15 5 / 2 else 1)) (by omega), zu_row (v := v2) (a := 15) (b := uc u + 3) (e := 5) (x := (if 1 < v 15 5 / 2 then v 15 5 / 2 else 1)) (by omega), zu_row (v := v2) (a := 15) (b := 16) (e := 5) (x := (if 1 < v 15 5 / 2 then v 15 5 / 2 else 1)) (by omega)]
        rw [t1, dF_row (zu_row (by omega)), zu_a (by decide)]
        exact g1
      · intro k k1 k2
        rw [zu_a (by decide)] at k2
        rw [zu_a (by decide), zu_a (by omega)]
        exact g2 k k1 k2
    · intro b hb
      unfold rdS
      rw [if_neg c]
      funext j
      have pe : prw (pz v) b j = pz v2 b j := by rw [pz2 b hb]
      have z18 : pz v 48 18 = v 15 5 := pz_18
      by_cases q : b = 48 ∧ j = 18
      · obtain ⟨rfl, rfl⟩ := q
        rw [pz_18, zu_e rfl, zu_e rfl, z18]
        (repeat' split) <;> omega
      · have e1 : zu (prw (pz v)) 48 18 (if 1 < pz v 48 18 then pz v 48 18 / 2 else 1) b j = prw (pz v) b j := by
          unfold zu
          rw [if_neg q]
        rw [e1, pe]
        by_cases q2 : b = 63
        · subst q2
          rw [pz_63, pz_63, zu_a (by decide)]
        · by_cases q3 : b = 48
          · subst q3
            rw [pz_48 (fun z => q ⟨rfl, z⟩), pz_48 (fun z => q ⟨rfl, z⟩), zu_a (by decide)]
          · rw [pz_row q2 q3, pz_row q2 q3, zu_a (by omega)]
    · unfold rdB
      rw [if_neg c, ew]
