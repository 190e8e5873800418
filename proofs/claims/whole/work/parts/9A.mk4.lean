/-! The market: settling and improving, against the reference's rounds. -/
/-- the reference's cells, with the class's prices and step -/
def pz (v : Nat → Int → Int) : Nat → Int → Int := fun b j => if b = 63 then v 16 j else if b = 48 ∧ j = 18 then v 15 5 else v b j
theorem pz_row {v : Nat → Int → Int} {b : Nat} (h1 : b ≠ 63) (h2 : b ≠ 48) : pz v b = v b := by
  funext j
  unfold pz
  rw [if_neg h1, if_neg (fun q => h2 q.1)]
theorem pz_48 {v : Nat → Int → Int} {j : Int} (h : j ≠ 18) : pz v 48 j = v 48 j := by
  unfold pz
  rw [if_neg (by decide), if_neg (fun q => h q.2)]
theorem pz_63 {v : Nat → Int → Int} : pz v 63 = v 16 := by
  funext j
  unfold pz
  rw [if_pos rfl]
theorem pz_18 {v : Nat → Int → Int} : pz v 48 18 = v 15 5 := by
  unfold pz
  rw [if_neg (by decide), if_pos ⟨rfl, rfl⟩]
theorem uc_47 {u : Int} (hu : 0 ≤ u ∧ u < 3) : (uc u ≠ 63 ∧ uc u ≠ 48) ∧ (uc u + 1 ≠ 63 ∧ uc u + 1 ≠ 48) ∧ (uc u + 2 ≠ 63 ∧ uc u + 2 ≠ 48) ∧ (uc u + 3 ≠ 63 ∧ uc u + 3 ≠ 48) := by
  unfold uc
  omega
theorem pz_T {v : Nat → Int → Int} {u : Int} (hu : 0 ≤ u ∧ u < 3) : dpT (pz v) (uc u) = dpT v (uc u) := by
  obtain ⟨c0, c1, c2, c3⟩ := uc_47 hu
  funext a b c
  simp only [dpT, lcs, cstp, pz_row c0.1 c0.2, pz_row c1.1 c1.2, pz_row c2.1 c2.2, pz_row c3.1 c3.2, pz_row (v := v) (b := 16) (by decide) (by decide)]
theorem pz_F {v : Nat → Int → Int} {u : Int} (hu : 0 ≤ u ∧ u < 3) : dF (pz v) (uc u) = dF v (uc u) := by
  obtain ⟨c0, -⟩ := uc_47 hu
  simp only [dF, pz_row c0.1 c0.2]
theorem pz_LG {v w : Nat → Int → Int} {n u : Int} (hu : 0 ≤ u ∧ u < 3) (g : LG v w n u) : LG (pz v) w n u := by
  obtain ⟨c0, -⟩ := uc_47 hu
  obtain ⟨cs, g1, g2⟩ := g
  refine ⟨cs, by rw [pz_T hu, pz_F hu]; exact g1, fun h h1 h2 => ?_⟩
  rw [pz_row (b := 18) (by decide) (by decide), pz_row c0.1 c0.2]
  exact g2 h h1 h2
/-- the class's market may be asked -/
def CM (sh : List q_Sh) (v w : Nat → Int → Int) (R : Nat → Nat → Option Nat) : Prop := LD sh R ∧ dN v ∧ dUs v ∧ dOs v ∧ dD v ∧ dPr v ∧ MR sh w R ∧ rA (pz v) ∧ RR (pz v) ∧ (1 ≤ v 15 5 ∧ v 15 5 ≤ 64)
def LGs (v w : Nat → Int → Int) : Prop := ∀ u, 0 ≤ u → u < v 32 1 → LG v w (v 32 0) u
theorem CM_n {sh : List q_Sh} {v w : Nat → Int → Int} {R : Nat → Nat → Option Nat} (h : CM sh v w R) : v 32 0 = pz v 48 1 ∧ v 32 1 = pz v 48 2 := by
  obtain ⟨-, -, -, -, -, -, -, -, hr, -⟩ := h
  obtain ⟨⟨e1, e2⟩, -⟩ := hr
  rw [pz_row (v := v) (b := 32) (by decide) (by decide)] at e1 e2
  exact ⟨e1, e2⟩
theorem CM_ways {sh : List q_Sh} {v w : Nat → Int → Int} {R : Nat → Nat → Option Nat} (h : CM sh v w R) : dWays v := by
  have e := CM_n h
  obtain ⟨hD, hN, hU, hO, hE, hP, hMR, hA, hr, hs⟩ := h
  intro u h1 h2
  have hu3 : 0 ≤ u ∧ u < 3 := by have := hN.2; omega
  obtain ⟨n, rfl⟩ : ∃ n : Nat, u = n := ⟨u.toNat, by omega⟩
  have := link_way hA (n := n) (by rw [← e.2]; exact h2) (hr.2.2.2.1 n h1 (by rw [← e.2]; exact h2)) (hr.2.2.2.2.2 n h1 hu3.2) (fun k k1 k2 => (hr.2.1 k k1 k2).2.2)
  rw [pz_T hu3, pz_F hu3, ← e.1] at this
  exact this
theorem CM_LG {sh : List q_Sh} {v w : Nat → Int → Int} {R : Nat → Nat → Option Nat} (h : CM sh v w R) (g : LGs v w) {u : Int} (h1 : 0 ≤ u) (h2 : u < v 32 1) : w 17 u = xC (pz v) u ∧ ∀ k, 0 ≤ k → k < v 32 0 → v 18 (8 * u + k) = xL (pz v) u k := by
  have e := CM_n h
  obtain ⟨hD, hN, hU, hO, hE, hP, hMR, hA, hr, hs⟩ := h
  have hu3 : 0 ≤ u ∧ u < 3 := by have := hN.2; omega
  have gg := pz_LG hu3 (g u h1 h2)
  obtain ⟨n, rfl⟩ : ∃ n : Nat, u = n := ⟨u.toNat, by omega⟩
  rw [e.1] at gg ⊢
  have := link_LG hA (n := n) (by rw [← e.2]; exact h2) (hr.2.2.2.1 n h1 (by rw [← e.2]; exact h2)) (hr.2.2.2.2.2 n h1 hu3.2) (fun k k1 k2 => (hr.2.1 k k1 k2).2.2) gg
  rw [pz_row (b := 18) (by decide) (by decide)] at this
  exact this
theorem zsum_cg {f g : Int → Int} : ∀ n : Nat, (∀ i : Int, 0 ≤ i → i < n → f i = g i) → zsum f n = zsum g n
  | 0, _ => rfl
  | n + 1, h => by
    rw [zsum_s, zsum_s, zsum_cg n (fun i a b => h i a (by omega)), h n (by omega) (by omega)]
theorem CM_Bn {sh : List q_Sh} {v w : Nat → Int → Int} {R : Nat → Nat → Option Nat} (h : CM sh v w R) (g : LGs v w) : dBn v w = bnd (pz v) := by
  have e := CM_n h
  have gl := fun u a b => (CM_LG h g (u := u) a b).1
  obtain ⟨hD, hN, hU, hO, hE, hP, hMR, hA, hr, hs⟩ := h
  have n1 := hN.1
  have n2 := hN.2
  unfold dBn bnd
  rw [← e.1, ← e.2]
  rw [zsum_cg (g := fun h => pz v 58 h * pz v 63 h) (v 32 0).toNat (fun i a b => by
    have q := hr.2.1 i a (by omega)
    rw [pz_row (v := v) (b := 34) (by decide) (by decide), pz_row (v := v) (b := 16) (by decide) (by decide)] at q
    show v 34 i * v 16 i = pz v 58 i * pz v 63 i
    rw [← q.1, ← q.2.2]), zsum_cg (g := xC (pz v)) (v 32 1).toNat (fun i a b => gl i a (by omega))]
theorem d_settle0 (xs : List Int32) (sh : List q_Sh) (v w : Nat → Int → Int) (R : Nat → Nat → Option Nat) (h : CM sh v w R) (hs : v 15 7 = 0) :
    ∃ (v' w' : Nat → Int → Int) (R' : Nat → Nat → Option Nat), (s18 v v' ∧ MR sh w' R' ∧ (∀ b, b ≠ 17 → b < 20 ∨ 24 < b → w' b = w b) ∧ sR15 R R' ∧ LD sh R' ∧ LGs v' w') ∧
    ∀ Q : q_H → Prop, q_CallV (GG xs) PP kMarket_settle [.ref 15, .ref 32] (sh, zs v, zt w, R) Q = Q (sh, zs (zu v' 15 7 1), zt (zu w' 15 6 (dBn v' w')), R') := by
  have hX := CM_ways h
  obtain ⟨hD, hN, hU, hO, hE, hP, hMR, hA, hr, hst⟩ := h
  obtain ⟨v', w', R', ⟨a1, a2, a3, a4, a5, a6⟩, a7⟩ := d_planAll xs sh v w R hD hN hU hO hP hMR hX
  have e32 := a1 32 (by decide)
  refine ⟨v', w', R', ⟨a1, a2, a3, a4, a5, fun u q1 q2 => ?_⟩, fun Q => cV (fun Q hQ => ?_) Q⟩
  · rw [e32] at q2 ⊢
    exact a6 u q1 q2
  · have s1 := d_presentBound xs sh v' w' R' a5 (by unfold dN; rw [e32]; exact hN) (fun k k1 k2 => by rw [a1 34 (by decide), a1 35 (by decide)]; exact hE k k1 k2) (fun k k1 k2 => by rw [a1 16 (by decide)]; exact hP k k1 k2)
    refine e_Market_settle xs _ _ _ (sh, zs v, zt w, R) ?_
    simp (discharger := first | assumption | omega) [fI, fL, fV, zs_ar, zt_ar, zs_un, zt_un, zn_c, zu_a, zu_e, zu_j, zix, zi_lit, zl_lit, zi_add, zi_sub, zi_mul, zi_neg, zi_le, zi_lt, zi_eq, zl_add, zl_sub, zl_mul, zi_i2l, zl_l2i, zb0, zb1, zb0', zb1', zi_c0, zi_c1, zb_c, hD, a5, a7, s1, hs, i_leT, i_leF, i_ltT, i_ltF, i_eqT, i_eqF]
    exact hQ
theorem d_settle1 (xs : List Int32) (sh : List q_Sh) (v w : Nat → Int → Int) (R : Nat → Nat → Option Nat) (hD : LD sh R) (hs : v 15 7 = 1) (Q : q_H → Prop) : q_CallV (GG xs) PP kMarket_settle [.ref 15, .ref 32] (sh, zs v, zt w, R) Q = Q (sh, zs v, zt w, R) := cV (fun Q hQ => by
  refine e_Market_settle xs _ _ _ (sh, zs v, zt w, R) ?_
  simp (discharger := first | assumption | omega) [hD, fI, fL, fV, zs_ar, zt_ar, zs_un, zt_un, zn_c, zu_a, zu_e, zu_j, zix, zi_lit, zl_lit, zi_add, zi_sub, zi_mul, zi_neg, zi_le, zi_lt, zi_eq, zl_add, zl_sub, zl_mul, zi_i2l, zl_l2i, zb0, zb1, zb0', zb1', zi_c0, zi_c1, zb_c, hs, i_leT, i_leF, i_ltT, i_ltF, i_eqT, i_eqF]
  exact hQ) Q
theorem d_together (xs : List Int32) (sh : List q_Sh) (v w : Nat → Int → Int) (R : Nat → Nat → Option Nat) (hD : LD sh R) (hN : dN v) (h : Int) (hh : 0 ≤ h ∧ h < 8) (Q : Int32 → q_H → Prop) : q_CallI (GG xs) PP kMarket_outputsTogether [.ref 15, .ref 32, .int (zi h)] (sh, zs v, zt w, R) Q = Q (zi (zsum (fun u => v 18 (8 * u + h)) (v 32 1).toNat)) (sh, zs v, zt w, R) := cI (fun Q hQ => by
  have n2 := hN.2
  have L : ∀ u : Int, 0 ≤ u → u ≤ v 32 1 → q_Rt (GG xs) PP 91 (q_FI Q) 5 [some (.ref 15), some (.ref 32), some (.int (zi h)), some (.int (zi (zsum (fun u => v 18 (8 * u + h)) u.toNat))), some (.int (zi u))] [] (sh, zs v, zt w, R) := by
    refine zdown _ ?_ (fun u h1 h2 ih => ?_)
    · refine b_Market_outputsTogether_5 xs _ _ _ _ _ _ (sh, zs v, zt w, R) ?_
      simp (discharger := first | assumption | omega) [hD, fI, fL, fV, zs_ar, zt_ar, zs_un, zt_un, zn_c, zu_a, zu_e, zu_j, zix, zi_lit, zl_lit, zi_add, zi_sub, zi_mul, zi_neg, zi_le, zi_lt, zi_eq, zl_add, zl_sub, zl_mul, zi_i2l, zl_l2i, zb0, zb1, zb0', zb1', zi_c0, zi_c1, zb_c, i_leT, i_leF, i_ltT, i_ltF, i_eqT, i_eqF]
      exact hQ
    · rw [show (u + 1).toNat = u.toNat + 1 by omega, zsum_s, show ((u.toNat : Nat) : Int) = u by omega] at ih
      refine b_Market_outputsTogether_5 xs _ _ _ _ _ _ (sh, zs v, zt w, R) ?_
      simp (discharger := first | assumption | omega) [hD, fI, fL, fV, zs_ar, zt_ar, zs_un, zt_un, zn_c, zu_a, zu_e, zu_j, zix, zi_lit, zl_lit, zi_add, zi_sub, zi_mul, zi_neg, zi_le, zi_lt, zi_eq, zl_add, zl_sub, zl_mul, zi_i2l, zl_l2i, zb0, zb1, zb0', zb1', zi_c0, zi_c1, zb_c, d_cell, i_leT, i_leF, i_ltT, i_ltF, i_eqT, i_eqF]
      exact ih
  have K := L 0 (by omega) (by omega)
  simp only [Int.toNat_zero, zsum] at K
  refine e_Market_outputsTogether xs _ _ _ _ (sh, zs v, zt w, R) ?_
  simp (discharger := first | assumption | omega) [fI, fL, fV, zs_ar, zt_ar, zs_un, zt_un, zn_c, zu_a, zu_e, zu_j, zix, zi_lit, zl_lit, zi_add, zi_sub, zi_mul, zi_neg, zi_le, zi_lt, zi_eq, zl_add, zl_sub, zl_mul, zi_i2l, zl_l2i, zb0, zb1, zb0', zb1', zi_c0, zi_c1, zb_c]
  exact K) Q
def zcmp (a b : Int) : Int := if a < b then -1 else if a = b then 0 else 1
theorem d_compare (xs : List Int32) (a b : Int) (H : q_H) (ha : -2147483648 ≤ a ∧ a < 2147483648) (hb : -2147483648 ≤ b ∧ b < 2147483648) (Q : Int32 → q_H → Prop) : q_CallI (GG xs) PP kInteger_compare [.int (zi a), .int (zi b)] H Q = Q (zi (zcmp a b)) H := cI (fun Q hQ => by
  refine e_Integer_compare xs _ _ _ H ?_
  unfold zcmp at hQ
  simp (discharger := first | assumption | omega) [fI, fL, fV, zs_ar, zt_ar, zs_un, zt_un, zn_c, zu_a, zu_e, zu_j, zix, zi_lit, zl_lit, zi_add, zi_sub, zi_mul, zi_neg, zi_le, zi_lt, zi_eq, zl_add, zl_sub, zl_mul, zi_i2l, zl_l2i, zb0, zb1, zb0', zb1', zi_c0, zi_c1, zb_c]
  repeat' (first | (refine And.intro (fun _ => ?_) (fun _ => ?_)) | (intro _) | fail)
  all_goals exact zi_cg (Q := Q) hQ (by (repeat' split) <;> omega)) Q
/-- the first k hours' prices moved -/
def cpr (v : Nat → Int → Int) (k : Int) : Nat → Int → Int := fun b j => if b = 16 ∧ 0 ≤ j ∧ j < k then zmov (v 16 j) (v 34 j) (zsum (fun u => v 18 (8 * u + j)) (v 32 1).toNat) (v 15 5) else v b j
theorem cpr_row {v : Nat → Int → Int} {k : Int} {b : Nat} (h : b ≠ 16) : cpr v k b = v b := by
  funext j
  unfold cpr
  rw [if_neg (fun q => h q.1)]
theorem cpr_s {v : Nat → Int → Int} {k : Int} (hk : 0 ≤ k) : zu (cpr v k) 16 k (zmov (v 16 k) (v 34 k) (zsum (fun u => v 18 (8 * u + k)) (v 32 1).toNat) (v 15 5)) = cpr v (k + 1) := by
  funext b j
  unfold zu cpr
  by_cases q : b = 16 ∧ j = k
  · rw [if_pos q, if_pos (by omega), q.2]
  · rw [if_neg q]
    by_cases q2 : b = 16 ∧ 0 ≤ j ∧ j < k
    · rw [if_pos q2, if_pos (by omega)]
    · rw [if_neg q2, if_neg (by omega)]
theorem cpr_0 {v : Nat → Int → Int} : cpr v 0 = v := by
  funext b j
  unfold cpr
  rw [if_neg (by omega)]
