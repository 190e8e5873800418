/-! The market: a set's plan alone, all sets' plans, the present bound. -/
theorem dF_rng {v : Nat → Int → Int} {a : Nat} (hU : dU v a) : 0 ≤ dF v a ∧ dF v a < 15 := by
  have z := zcho_rng hU (v a 5)
  obtain ⟨u1, u2, u3, u4, u5, u6, u7, u8⟩ := hU
  unfold dF zsb
  (repeat' split) <;> omega
theorem LO_one {w : Nat → Int → Int} {cc wc n : Nat} (hne : cc ≠ wc) {p : Int} (hp : 0 ≤ p ∧ p < n) : LO (ofr (zfl w wc n (-1)) cc wc p 0 0) cc wc n p.toNat = some (0, 0) ∧ ∀ s, s ≠ p.toNat → LO (ofr (zfl w wc n (-1)) cc wc p 0 0) cc wc n s = none := by
  have e : ofr (zfl w wc n (-1)) cc wc p 0 0 = zu (zu (zfl w wc n (-1)) cc p 0) wc p 0 := by
    unfold ofr
    rw [if_pos (Or.inl (zfl_in hp.1 hp.2))]
  rw [e]
  refine ⟨?_, fun s hs => ?_⟩
  · unfold LO
    rw [zu_e (by omega), zu_a hne, zu_e (by omega), if_pos (by omega)]
    rfl
  · unfold LO
    rw [zu_j (by omega), zu_j (by omega)]
    rw [if_neg]
    intro q
    exact q.2 (zfl_in (by omega) (by omega))
/-- that there is a way -/
def hasWay (T : dp_T) (n s0 : Nat) : Prop := ∃ ds s k, ds.length = n ∧ dp_dig 5 ds ∧ dp_run T 0 s0 ds = some (s, k)
/-- the market's cells in order -/
def MR (sh : List q_Sh) (w : Nat → Int → Int) (R : Nat → Nat → Option Nat) : Prop := ∃ f cc wc t cd wd, MK sh R f cc wc t cd wd ∧ RL0 w cc wc 15 ∧ RL0 w cd wd 15
theorem MR_fr {sh : List q_Sh} {w w' : Nat → Int → Int} {R : Nat → Nat → Option Nat} (h : MR sh w R) (hw : ∀ b, 20 ≤ b → b ≤ 24 → w' b = w b) : MR sh w' R := by
  obtain ⟨f, cc, wc, t, cd, wd, hK, h1, h2⟩ := h
  have hK2 := hK
  obtain ⟨-, -, -, -, -, b1, b2, b3, b4⟩ := hK2
  exact ⟨f, cc, wc, t, cd, wd, hK, RL_fr h1 (hw _ b1.1 b1.2) (hw _ b2.1 b2.2), RL_fr h2 (hw _ b3.1 b3.2) (hw _ b4.1 b4.2)⟩
theorem d_planAlone (xs : List Int32) (sh : List q_Sh) (v w : Nat → Int → Int) (R : Nat → Nat → Option Nat) (hD : LD sh R) (a : Nat) (ha : a ≠ 18) (hL : LU sh R a) (hU : dU v a) (hO : dO v a) (hP : dPr v) (u n : Int) (hu : 0 ≤ u ∧ u < 3) (hn : 1 ≤ n ∧ n ≤ 8) (hK : MR sh w R) (hX : hasWay (dpT v a) n.toNat (dF v a).toNat) :
    ∃ (w' : Nat → Int → Int) (R' : Nat → Nat → Option Nat) (cs : List Nat), (MR sh w' R' ∧ (∀ b, b ≠ 17 → b < 20 ∨ 24 < b → w' b = w b) ∧ (∀ j, j ≠ u → w' 17 j = w 17 j) ∧ sR15 R R' ∧ LD sh R' ∧ dp_best (dpT v a) 5 n.toNat 0 (dF v a).toNat (w' 17 u) cs) ∧
    ∀ Q : q_H → Prop, q_CallV (GG xs) PP kMarket_planAlone [.ref 15, .ref a, .int (zi u), .int (zi n)] (sh, zs v, zt w, R) Q = Q (sh, zs (wlo v a u n cs 0), zt w', R') := by
  have s0 := dF_rng hU
  have key : q_CallV (GG xs) PP kMarket_planAlone [.ref 15, .ref a, .int (zi u), .int (zi n)] (sh, zs v, zt w, R) (fun H' => ∃ (w' : Nat → Int → Int) (R' : Nat → Nat → Option Nat) (cs : List Nat), (MR sh w' R' ∧ (∀ b, b ≠ 17 → b < 20 ∨ 24 < b → w' b = w b) ∧ (∀ j, j ≠ u → w' 17 j = w 17 j) ∧ sR15 R R' ∧ LD sh R' ∧ dp_best (dpT v a) 5 n.toNat 0 (dF v a).toNat (w' 17 u) cs) ∧ H' = (sh, zs (wlo v a u n cs 0), zt w', R')) := by
    obtain ⟨f, cc, wc, t, cd, wd, hK, hf, ht⟩ := hK
    have hK2 := hK
    obtain ⟨m1, m2, m3, m4, ⟨d1, d2, d3, d4⟩, b1, b2, b3, b4⟩ := hK2
    have hne : cc ≠ wc := m3.2.2.2.2.2.2
    have r1 : RL (zfl w wc 15 (-1)) cc wc 15 0 1 := RL_clr (n := 15) hf hne
    have r2 : RL (ofr (zfl w wc 15 (-1)) cc wc (dF v a) 0 0) cc wc 15 0 1 := RL_ofr r1 hne (by omega) (by omega) (by omega)
    have s1 := d_clear xs sh v w R f cc wc 15 m3
    have s2 := d_stateBefore xs sh v (zfl w wc 15 (-1)) R a hL hU
    have s3 := d_offer xs sh v (zfl w wc 15 (-1)) R f cc wc 15 m3 (dF v a) 0 0 (by omega) (RL_okw r1 (by omega) (by omega)) (RL_okc r1 (by omega)) (by unfold okL; omega) (by unfold okL; omega)
    have lz := LO_one (w := w) (n := 15) hne (p := dF v a) (by omega)
    have K := l_pa23 xs sh v w R a hO hP u n hn (dF v a).toNat (q_FV (fun H' => ∃ (w' : Nat → Int → Int) (R' : Nat → Nat → Option Nat) (cs : List Nat), (MR sh w' R' ∧ (∀ b, b ≠ 17 → b < 20 ∨ 24 < b → w' b = w b) ∧ (∀ j, j ≠ u → w' 17 j = w 17 j) ∧ sR15 R R' ∧ LD sh R' ∧ dp_best (dpT v a) 5 n.toNat 0 (dF v a).toNat (w' 17 u) cs) ∧ H' = (sh, zs (wlo v a u n cs 0), zt w', R'))) ?_ 0 (by omega) (by omega) (ofr (zfl w wc 15 (-1)) cc wc (dF v a) 0 0) R f cc wc t cd wd hD hL hK (by simpa using r2) (RL_fr ht ((ofr_row d1 d2).trans (zfl_row d2)) ((ofr_row d3 d4).trans (zfl_row d4))) (dp_layer_zero _ _ _ _ _ lz.1 lz.2) (fun b hb => by rw [ofr_row (by omega) (by omega), zfl_row (by omega)]) (fun b j _ => rfl)
    · refine e_Market_planAlone xs _ _ _ _ _ (sh, zs v, zt w, R) ?_
      simp only [zl_lit, zi_lit] at *
      simp (discharger := first | assumption | omega) [hD, fI, fL, fV, zs_ar, zt_ar, zs_un, zt_un, zn_c, zu_a, zu_e, zu_j, zix, zi_lit, zl_lit, zi_add, zi_sub, zi_mul, zi_neg, zi_le, zi_lt, zi_eq, zl_add, zl_sub, zl_mul, zi_i2l, zl_l2i, zb0, zb1, zb0', zb1', zi_c0, zi_c1, zb_c, m1, m3.1, hL.1, s1, s2, s3]
      exact K
    · intro w2 R2 f2 cc2 wc2 t2 cd2 wd2 hD2 hL2 hK2 hf2 ht2 hl2 hw2 hr2
      have hK3 := hK2
      obtain ⟨m1, m2, m3, m4, ⟨d1, d2, d3, d4⟩, b1, b2, b3, b4⟩ := hK3
      have hne : cd2 ≠ wd2 := m4.2.2.2.2.2.2
      have p5 := p5_le (h := n.toNat) (by omega)
      have hf3 : RL0 w2 cc2 wc2 15 := RL_mono hf2 (by omega) (by omega)
      have s4 := d_gather xs sh v w2 R2 t2 f2 cd2 wd2 cc2 wc2 15 15 m4 m3 (by omega) d1.symm d3.symm d2.symm d4.symm 1000000000 8000000000000000000 (by omega) (by omega) ht2 hf3
      have q1 : RL (zfl w2 wd2 15 (-1)) cd2 wd2 15 1000000000 8000000000000000000 := RL_clr (n := 15) ht2 hne
      have q2 : RL (zfl w2 wd2 15 (-1)) cc2 wc2 15 1000000000 8000000000000000000 := RL_fr hf3 (zfl_row d3.symm) (zfl_row d4.symm)
      have e0 : LO (zfl w2 wd2 15 (-1)) cc2 wc2 15 = LO w2 cc2 wc2 15 := LO_rows (zfl_row d3.symm) (zfl_row d4.symm)
      have g := gth_best (n := 15) (m := 15) hne (by omega) (by omega) q1 q2 Held_clear (by rw [e0]; exact hl2)
      have q3 := gth_RL (m := 15) hne (by omega) q1 q2 15 (Nat.le_refl _)
      have q4 : ∀ b, b ≠ cd2 → b ≠ wd2 → gth (zfl w2 wd2 15 (-1)) cd2 wd2 cc2 wc2 15 b = w2 b := fun b h1 h2 => (gth_row h1 h2 _).trans (zfl_row h2)
      generalize gth (zfl w2 wd2 15 (-1)) cd2 wd2 cc2 wc2 15 = w3 at *
      cases eo : LO w3 cd2 wd2 15 0 with
      | none =>
        obtain ⟨ds, s, k, x1, x2, x3⟩ := hX
        exact absurd x3 (g.2 eo ds s k x1 x2)
      | some ky =>
        obtain ⟨cs, y1, y2⟩ := g.1 ky.1 ky.2 eo
        obtain ⟨-, -, y3, y4⟩ := (LO_some (k := ky.1) (y := ky.2) q3).mp eo
        rw [← y2] at y4
        have l1 : cs.length = n.toNat := y1.1
        have y3' : w3 cd2 0 = ky.1 := y3
        have y4' : w3 wd2 0 = (dp_num 5 cs : Nat) := y4
        have s5 := d_writeLone xs sh v (zu w3 17 u ky.1) R2 hD2 a ha hL2 u n hu (by omega) cs (by omega) y1.2.1
        refine b_Market_planAlone_23 xs _ _ _ _ _ _ _ ?_
        simp (discharger := first | assumption | omega) [hD, fI, fL, fV, zs_ar, zt_ar, zs_un, zt_un, zn_c, zu_a, zu_e, zu_j, zix, zi_lit, zl_lit, zi_add, zi_sub, zi_mul, zi_neg, zi_le, zi_lt, zi_eq, zl_add, zl_sub, zl_mul, zi_i2l, zl_l2i, zb0, zb1, zb0', zb1', zi_c0, zi_c1, zb_c, hD2, m1, m2, m3.1, m4.1, m4.2.1, m4.2.2.1, m4.2.2.2.1, m4.2.2.2.2.1, s4, y3', y4', s5, i_leT, i_leF, i_ltT, i_ltF, i_eqT, i_eqF]
        refine ⟨zu w3 17 u ky.1, R2, cs, ⟨⟨f2, cc2, wc2, t2, cd2, wd2, hK2, ?_, ?_⟩, fun b h1 h2 => ?_, fun j hj => ?_, hr2, hD2, ?_⟩, rfl, rfl, rfl⟩
        · exact RL_fr hf3 ((zu_row (by omega)).trans (q4 _ d1.symm d3.symm)) ((zu_row (by omega)).trans (q4 _ d2.symm d4.symm))
        · exact RL_fr q3 (zu_row (by omega)) (zu_row (by omega))
        · rw [zu_row h1, q4 b (by omega) (by omega)]
          exact hw2 b h2
        · rw [zu_j hj, q4 17 (by omega) (by omega)]
          rw [hw2 17 (by omega)]
        · rw [zu_e rfl]
          exact y1
  obtain ⟨H0, ⟨w', R', cs, h1, e⟩, h2⟩ := cVx key
  exact ⟨w', R', cs, h1, fun Q => by rw [h2, e]⟩
/-- a set's plan alone is the best one -/
def LG (v w : Nat → Int → Int) (n u : Int) : Prop := ∃ cs, dp_best (dpT v (uc u)) 5 n.toNat 0 (dF v (uc u)).toNat (w 17 u) cs ∧ ∀ h, 0 ≤ h → h < n → v 18 (8 * u + h) = zout (v (uc u) 0) (cs.getD h.toNat 0)
def s18 (v v' : Nat → Int → Int) : Prop := ∀ b, b ≠ 18 → v' b = v b
theorem uc_18 (u : Int) : uc u ≠ 18 ∧ uc u + 1 ≠ 18 ∧ uc u + 2 ≠ 18 ∧ uc u + 3 ≠ 18 := by
  unfold uc
  omega
theorem s18_T {v v' : Nat → Int → Int} (h : s18 v v') (u : Int) : dpT v' (uc u) = dpT v (uc u) := by
  obtain ⟨c0, c1, c2, c3⟩ := uc_18 u
  funext a b c
  simp only [dpT, lcs, cstp, h _ c0, h _ c1, h _ c2, h _ c3, h 16 (by decide)]
theorem s18_F {v v' : Nat → Int → Int} (h : s18 v v') (u : Int) : dF v' (uc u) = dF v (uc u) := by
  simp only [dF, h _ (uc_18 u).1]
theorem s18_O {v v' : Nat → Int → Int} (h : s18 v v') {u : Int} (x : dO v (uc u)) : dO v' (uc u) := by
  obtain ⟨c0, c1, c2, c3⟩ := uc_18 u
  unfold dO
  rw [h _ c0, h _ c1, h _ c2, h _ c3]
  exact x
theorem s18_U {v v' : Nat → Int → Int} (h : s18 v v') {u : Int} (x : dU v (uc u)) : dU v' (uc u) := by
  unfold dU
  rw [h _ (uc_18 u).1]
  exact x
def dWays (v : Nat → Int → Int) : Prop := ∀ u, 0 ≤ u → u < v 32 1 → hasWay (dpT v (uc u)) (v 32 0).toNat (dF v (uc u)).toNat
def dOs (v : Nat → Int → Int) : Prop := ∀ u, 0 ≤ u → u < 3 → dO v (uc u)
theorem d_planAll (xs : List Int32) (sh : List q_Sh) (v w : Nat → Int → Int) (R : Nat → Nat → Option Nat) (hD : LD sh R) (hN : dN v) (hU : dUs v) (hO : dOs v) (hP : dPr v) (hK : MR sh w R) (hX : dWays v) :
    ∃ (v' w' : Nat → Int → Int) (R' : Nat → Nat → Option Nat), (s18 v v' ∧ MR sh w' R' ∧ (∀ b, b ≠ 17 → b < 20 ∨ 24 < b → w' b = w b) ∧ sR15 R R' ∧ LD sh R' ∧ ∀ u, 0 ≤ u → u < v 32 1 → LG v' w' (v 32 0) u) ∧
    ∀ Q : q_H → Prop, q_CallV (GG xs) PP kMarket_planAllAlone [.ref 15, .ref 32] (sh, zs v, zt w, R) Q = Q (sh, zs v', zt w', R') := by
  have n1 := hN.1
  have n2 := hN.2
  have key : ∀ Q : q_H → Prop, (∀ (v' w' : Nat → Int → Int) (R' : Nat → Nat → Option Nat), (s18 v v' ∧ MR sh w' R' ∧ (∀ b, b ≠ 17 → b < 20 ∨ 24 < b → w' b = w b) ∧ sR15 R R' ∧ LD sh R' ∧ ∀ u, 0 ≤ u → u < v 32 1 → LG v' w' (v 32 0) u) → Q (sh, zs v', zt w', R')) → q_CallV (GG xs) PP kMarket_planAllAlone [.ref 15, .ref 32] (sh, zs v, zt w, R) Q := by
    intro Q hQ
    have L : ∀ k : Int, 0 ≤ k → k ≤ v 32 1 → ∀ (v' w' : Nat → Int → Int) (R' : Nat → Nat → Option Nat), s18 v v' → MR sh w' R' → (∀ b, b ≠ 17 → b < 20 ∨ 24 < b → w' b = w b) → sR15 R R' → LD sh R' → (∀ u, 0 ≤ u → u < k → LG v' w' (v 32 0) u) → q_Rt (GG xs) PP 92 (q_FV Q) 2 [some (.ref 15), some (.ref 32), some (.int (zi k))] [] (sh, zs v', zt w', R') := by
      refine zdown _ ?_ (fun k h1 h2 ih => ?_)
      · intro v' w' R' a1 a2 a3 a4 a5 a6
        have e32 := a1 32 (by decide)
        refine b_Market_planAllAlone_2 xs _ _ _ _ _ ?_
        simp (discharger := first | assumption | omega) [fI, fL, fV, zs_ar, zt_ar, zs_un, zt_un, zn_c, zu_a, zu_e, zu_j, zix, zi_lit, zl_lit, zi_add, zi_sub, zi_mul, zi_neg, zi_le, zi_lt, zi_eq, zl_add, zl_sub, zl_mul, zi_i2l, zl_l2i, zb0, zb1, zb0', zb1', zi_c0, zi_c1, zb_c, a5, e32, i_leT, i_leF, i_ltT, i_ltF, i_eqT, i_eqF]
        exact hQ v' w' R' ⟨a1, a2, a3, a4, a5, a6⟩
      · intro v' w' R' a1 a2 a3 a4 a5 a6
        have e32 := a1 32 (by decide)
        have hu3 : 0 ≤ k ∧ k < 3 := by omega
        have hL := LD_LU a5 hu3
        have x := hX k h1 h2
        rw [← s18_T a1, ← s18_F a1] at x
        obtain ⟨w2, R2, cs, ⟨c1, c2, c3, c4, c5, c6⟩, c7⟩ := d_planAlone xs sh v' w' R' a5 (uc k) (uc_18 k).1 hL (s18_U a1 (hU k hu3.1 hu3.2)) (s18_O a1 (hO k hu3.1 hu3.2)) (by
          intro h q1 q2
          rw [a1 16 (by decide)]
          exact hP h q1 q2) k (v 32 0) hu3 n1 a2 x
        have o1 : s18 v' (wlo v' (uc k) k (v 32 0) cs 0) := fun b hb => wlo_row hb
        have o2 : s18 v (wlo v' (uc k) k (v 32 0) cs 0) := fun b hb => (wlo_row hb).trans (a1 b hb)
        have K := ih (wlo v' (uc k) k (v 32 0) cs 0) w2 R2 o2 c1 (fun b q1 q2 => (c2 b q1 q2).trans (a3 b q1 q2)) (fun b j q => (c4 b j q).trans (a4 b j q)) c5 (fun u q1 q2 => by
          unfold LG
          rw [s18_T o1, s18_F o1]
          by_cases z : u = k
          · subst z
            refine ⟨cs, c6, fun h z1 z2 => ?_⟩
            rw [o1 _ (uc_18 u).1]
            unfold wlo
            rw [if_pos (by omega), show 8 * u + h - 8 * u = h by omega]
          · obtain ⟨ds, y1, y2⟩ := a6 u q1 (by omega)
            refine ⟨ds, by rw [c3 u z]; exact y1, fun h z1 z2 => ?_⟩
            rw [o1 _ (uc_18 u).1, ← y2 h z1 z2]
            unfold wlo
            rw [if_neg (by omega)])
        refine b_Market_planAllAlone_2 xs _ _ _ _ _ ?_
        simp (discharger := first | assumption | omega) [fI, fL, fV, zs_ar, zt_ar, zs_un, zt_un, zn_c, zu_a, zu_e, zu_j, zix, zi_lit, zl_lit, zi_add, zi_sub, zi_mul, zi_neg, zi_le, zi_lt, zi_eq, zl_add, zl_sub, zl_mul, zi_i2l, zl_l2i, zb0, zb1, zb0', zb1', zi_c0, zi_c1, zb_c, a5, e32, gat3, gna, LD_un a5 hu3, hL.1, c7, i_leT, i_leF, i_ltT, i_ltF, i_eqT, i_eqF]
        exact K
    refine e_Market_planAllAlone xs _ _ _ (sh, zs v, zt w, R) ?_
    simp (discharger := first | assumption | omega) [fI, fL, fV, zs_ar, zt_ar, zs_un, zt_un, zn_c, zu_a, zu_e, zu_j, zix, zi_lit, zl_lit, zi_add, zi_sub, zi_mul, zi_neg, zi_le, zi_lt, zi_eq, zl_add, zl_sub, zl_mul, zi_i2l, zl_l2i, zb0, zb1, zb0', zb1', zi_c0, zi_c1, zb_c]
    exact L 0 (by omega) (by omega) v w R (fun _ _ => rfl) hK (fun _ _ _ => rfl) (fun _ _ _ => rfl) hD (fun u q1 q2 => by omega)
  obtain ⟨H0, ⟨v', w', R', h1, e⟩, h2⟩ := cVx (key (fun H' => ∃ (v' w' : Nat → Int → Int) (R' : Nat → Nat → Option Nat), (s18 v v' ∧ MR sh w' R' ∧ (∀ b, b ≠ 17 → b < 20 ∨ 24 < b → w' b = w b) ∧ sR15 R R' ∧ LD sh R' ∧ ∀ u, 0 ≤ u → u < v 32 1 → LG v' w' (v 32 0) u) ∧ H' = (sh, zs v', zt w', R')) (fun v' w' R' h => ⟨v', w', R', h, rfl⟩))
  exact ⟨v', w', R', h1, fun Q => by rw [h2, e]⟩
/-- the present bound -/
def dBn (v w : Nat → Int → Int) : Int := zsum (fun h => v 34 h * v 16 h) (v 32 0).toNat + zsum (fun u => w 17 u) (v 32 1).toNat
theorem d_presentBound (xs : List Int32) (sh : List q_Sh) (v w : Nat → Int → Int) (R : Nat → Nat → Option Nat) (hD : LD sh R) (hN : dN v) (hE : dD v) (hP : dPr v) (Q : Int64 → q_H → Prop) : q_CallL (GG xs) PP kMarket_presentBound [.ref 15, .ref 32] (sh, zs v, zt w, R) Q = Q (zl (dBn v w)) (sh, zs v, zt w, R) := cL (fun Q hQ => by
  have n1 := hN.1
  have n2 := hN.2
  have L2 : ∀ u : Int, 0 ≤ u → u ≤ v 32 1 → q_Rt (GG xs) PP 89 (q_FL Q) 43 [some (.ref 15), some (.ref 32), some (.long (zl (zsum (fun h => v 34 h * v 16 h) (v 32 0).toNat + zsum (fun u => w 17 u) u.toNat))), none, some (.int (zi u))] [] (sh, zs v, zt w, R) := by
    refine zdown _ ?_ (fun u h1 h2 ih => ?_)
    · refine b_Market_presentBound_43 xs _ _ _ _ _ _ ?_
      simp (discharger := first | assumption | omega) [hD, fI, fL, fV, zs_ar, zt_ar, zs_un, zt_un, zn_c, zu_a, zu_e, zu_j, zix, zi_lit, zl_lit, zi_add, zi_sub, zi_mul, zi_neg, zi_le, zi_lt, zi_eq, zl_add, zl_sub, zl_mul, zi_i2l, zl_l2i, zb0, zb1, zb0', zb1', zi_c0, zi_c1, zb_c, i_leT, i_leF, i_ltT, i_ltF, i_eqT, i_eqF]
      exact hQ
    · rw [show (u + 1).toNat = u.toNat + 1 by omega, zsum_s, show ((u.toNat : Nat) : Int) = u by omega, ← Int.add_assoc] at ih
      refine b_Market_presentBound_43 xs _ _ _ _ _ _ ?_
      simp (discharger := first | assumption | omega) [hD, fI, fL, fV, zs_ar, zt_ar, zs_un, zt_un, zn_c, zu_a, zu_e, zu_j, zix, zi_lit, zl_lit, zi_add, zi_sub, zi_mul, zi_neg, zi_le, zi_lt, zi_eq, zl_add, zl_sub, zl_mul, zi_i2l, zl_l2i, zb0, zb1, zb0', zb1', zi_c0, zi_c1, zb_c, i_leT, i_leF, i_ltT, i_ltF, i_eqT, i_eqF]
      exact ih
  have L1 : ∀ h : Int, 0 ≤ h → h ≤ v 32 0 → q_Rt (GG xs) PP 89 (q_FL Q) 5 [some (.ref 15), some (.ref 32), some (.long (zl (zsum (fun h => v 34 h * v 16 h) h.toNat))), none, some (.int (zi h))] [] (sh, zs v, zt w, R) := by
    refine zdown _ ?_ (fun h h1 h2 ih => ?_)
    · have K := L2 0 (by omega) (by omega)
      simp only [Int.toNat_zero, zsum, Int.add_zero] at K
      refine b_Market_presentBound_5 xs _ _ _ _ _ _ ?_
      simp (discharger := first | assumption | omega) [hD, fI, fL, fV, zs_ar, zt_ar, zs_un, zt_un, zn_c, zu_a, zu_e, zu_j, zix, zi_lit, zl_lit, zi_add, zi_sub, zi_mul, zi_neg, zi_le, zi_lt, zi_eq, zl_add, zl_sub, zl_mul, zi_i2l, zl_l2i, zb0, zb1, zb0', zb1', zi_c0, zi_c1, zb_c, i_leT, i_leF, i_ltT, i_ltF, i_eqT, i_eqF]
      simpa [zsum] using K
    · rw [show (h + 1).toNat = h.toNat + 1 by omega, zsum_s, show ((h.toNat : Nat) : Int) = h by omega] at ih
      have e1 := (hE h h1 (by omega)).1
      have e2 := hP h h1 (by omega)
      refine b_Market_presentBound_5 xs _ _ _ _ _ _ ?_
      simp (discharger := first | assumption | omega) [hD, fI, fL, fV, zs_ar, zt_ar, zs_un, zt_un, zn_c, zu_a, zu_e, zu_j, zix, zi_lit, zl_lit, zi_add, zi_sub, zi_mul, zi_neg, zi_le, zi_lt, zi_eq, zl_add, zl_sub, zl_mul, zi_i2l, zl_l2i, zb0, zb1, zb0', zb1', zi_c0, zi_c1, zb_c, i_leT, i_leF, i_ltT, i_ltF, i_eqT, i_eqF]
      exact ih
  have K := L1 0 (by omega) (by omega)
  simp only [Int.toNat_zero, zsum] at K
  refine e_Market_presentBound xs _ _ _ (sh, zs v, zt w, R) ?_
  simp (discharger := first | assumption | omega) [fI, fL, fV, zs_ar, zt_ar, zs_un, zt_un, zn_c, zu_a, zu_e, zu_j, zix, zi_lit, zl_lit, zi_add, zi_sub, zi_mul, zi_neg, zi_le, zi_lt, zi_eq, zl_add, zl_sub, zl_mul, zi_i2l, zl_l2i, zb0, zb1, zb0', zb1', zi_c0, zi_c1, zb_c]
  exact K) Q
