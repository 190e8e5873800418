/-! Calls that settle the market: alone, lone, bound. -/
def stepL (xs : List Int32) (sh : List q_Sh) (v w : Nat → Int → Int) (R : Nat → Nat → Option Nat) (kC : Nat) (aC : List Value) (kM : Nat) (aM : List Value) : Prop := ∃ (r : Int64) (v1 w1 : Nat → Int → Int) (R1 : Nat → Nat → Option Nat) (v2 w2 : Nat → Int → Int), (∀ Q : Int64 → q_H → Prop, q_CallL (GG xs) PP kC aC (sh, zs v, zt w, R) Q = Q r (sh, zs v1, zt w1, R1)) ∧ (∀ Q : Int64 → q_H → Prop, q_CallL (GG xs) PP kM aM (sh, zs v1, zt w1, R1) Q = Q r (sh, zs v2, zt w2, R1)) ∧ v2 48 0 = 0 ∧ INV sh v2 w2 R1
def stepP (xs : List Int32) (sh : List q_Sh) (v w : Nat → Int → Int) (R : Nat → Nat → Option Nat) (kC : Nat) (aC : List Value) (kM : Nat) (aM : List Value) : Prop := ∃ (r : Int64) (v1 w1 : Nat → Int → Int) (R1 : Nat → Nat → Option Nat), (∀ Q : Int64 → q_H → Prop, q_CallL (GG xs) PP kC aC (sh, zs v, zt w, R) Q = Q r (sh, zs v1, zt w1, R1)) ∧ ∀ t : Int, ∃ (v2 w2 : Nat → Int → Int), (∀ Q : Int64 → q_H → Prop, q_CallL (GG xs) PP kM aM (sh, zs v1, zt (zu w1 69 0 t), R1) Q = Q r (sh, zs v2, zt w2, R1)) ∧ v2 48 0 = 0 ∧ w2 69 0 = t ∧ INV sh v2 w2 R1
def stepU (xs : List Int32) (sh : List q_Sh) (v w : Nat → Int → Int) (R : Nat → Nat → Option Nat) (kM : Nat) (aM : List Value) (k : Int) : Prop := ∃ (r : Int64) (v2 w2 : Nat → Int → Int), (∀ Q : Int64 → q_H → Prop, q_CallL (GG xs) PP kM aM (sh, zs v, zt w, R) Q = Q r (sh, zs v2, zt w2, R)) ∧ v2 48 0 = k ∧ INV sh v2 w2 R
/-- all rows but the market's own -/
def sMk (v v' : Nat → Int → Int) : Prop := (∀ b, 16 ≤ b → b ≠ 18 → b ≠ 48 → b ≠ 64 → b ≠ 66 → b ≠ 68 → v' b = v b) ∧ ∀ j, j ≠ 0 → j ≠ 24 → v' 48 j = v 48 j
section
variable {sh : List q_Sh} {v w : Nat → Int → Int} {R : Nat → Nat → Option Nat}
theorem sMk_RR {v' : Nat → Int → Int} (s : sMk v v') (hn : v 48 2 ≤ 3) (h : RR v) : RR v' := by
  obtain ⟨a1, a2, a3, a4, a5, a6⟩ := h
  have row := fun b (q : (16 ≤ b ∧ b ≠ 18 ∧ b ≠ 48) ∧ b ≠ 64 ∧ b ≠ 66 ∧ b ≠ 68) => s.1 b q.1.1 q.1.2.1 q.1.2.2 q.2.1 q.2.2.1 q.2.2.2
  have un : ∀ u, u < 3 → v' (uc u) = v (uc u) ∧ v' (uc u + 1) = v (uc u + 1) ∧ v' (uc u + 2) = v (uc u + 2) ∧ v' (uc u + 3) = v (uc u + 3) := fun u u2 => by
    have r := uc_def u
    exact ⟨row _ (by omega), row _ (by omega), row _ (by omega), row _ (by omega)⟩
  refine ⟨?_, fun h h1 h2 => ?_, fun j j1 j2 => ?_, fun u u1 u2 => ?_, fun u u1 u2 => ?_, fun u u1 u2 => ?_⟩
  · rw [row 32 (by decide), s.2 1 (by decide) (by decide), s.2 2 (by decide) (by decide)]
    exact a1
  · rw [row 34 (by decide), row 35 (by decide), row 58 (by decide), row 59 (by decide), row 16 (by decide), row 63 (by decide)]
    exact a2 h h1 h2
  · rw [row 25 (by decide), row 60 (by decide), s.2 2 (by decide) (by decide)]
    exact a3 j j1 j2
  · rw [s.2 2 (by decide) (by decide)] at u2
    obtain ⟨e0, e1, e2, e3⟩ := un u (by omega)
    unfold RU
    rw [e0, e1, e2, row 49 (by decide), row 50 (by decide), row 51 (by decide), row 52 (by decide), row 53 (by decide), row 54 (by decide), row 55 (by decide), row 56 (by decide), row 57 (by decide)]
    exact a4 u u1 u2
  · rw [s.2 2 (by decide) (by decide)] at u1
    obtain ⟨e0, e1, e2, e3⟩ := un u u2
    unfold RN
    rw [e0, e1]
    exact a5 u u1 u2
  · obtain ⟨e0, e1, e2, e3⟩ := un u u2
    unfold RX dX
    rw [e0, e3]
    exact a6 u u1 u2
theorem INV_m {v' w' : Nat → Int → Int} {R' : Nat → Nat → Option Nat} (h : INV sh v w R) (s : sMk v v') (s15 : v' 15 5 = v 15 5) (sw : w' 48 19 = w 48 19) (hD : LD sh R') (hM : LM sh R') (hP : PR sh w' R') (hR : MR sh w' R') (hS : ST v' w') : INV sh v' w' R' := by
  have n2 := (I_dN h).2
  obtain ⟨-, -, ⟨hA, hr, hO⟩, ⟨⟨e1, e1'⟩, e2, e3⟩, e4, e7, e8⟩ := h
  have row := fun b (q : (16 ≤ b ∧ b ≠ 18 ∧ b ≠ 48) ∧ b ≠ 64 ∧ b ≠ 66 ∧ b ≠ 68) => s.1 b q.1.1 q.1.2.1 q.1.2.2 q.2.1 q.2.2.1 q.2.2.2
  have sm : sameM v v' := ⟨fun a h1 h2 => row a (by omega), row 63 (by decide), s.2 1 (by decide) (by decide), s.2 2 (by decide) (by decide)⟩
  refine ⟨⟨hD, hM⟩, ⟨hP, hR⟩, ⟨sM_rA sm hA, sMk_RR s (by have := hr.1.2; omega) hr, fun u h1 h2 => ?_⟩, ⟨⟨by rw [row 16 (by decide), row 63 (by decide)]; exact e1, by rw [row 25 (by decide), row 60 (by decide)]; exact e1'⟩, HZ_cg e2 (s.2 2 (by decide) (by decide)) (row 54 (by decide)) (row 55 (by decide)) (row 56 (by decide)) (fun b b1 b2 => row b (by omega)), fun k k1 k2 => ?_⟩, ?_, by rw [sw]; exact e7, hS⟩
  · have r := uc_rng ⟨h1, h2⟩
    unfold dO
    rw [row (uc u) (by omega), row (uc u + 1) (by omega), row (uc u + 2) (by omega), row (uc u + 3) (by omega)]
    exact hO u h1 h2
  · rw [row 31 (by decide), row 62 (by decide), row 61 (by decide), s.2 2 (by decide) (by decide), row (27 + k.toNat) (by omega)]
    exact e3 k k1 k2
  · rw [s15, s.2 18 (by decide) (by decide)]
    exact e4
theorem R15_48 {R' : Nat → Nat → Option Nat} (s : sR15 R R') {b : Nat} (hb : b ≠ 15) : R' b = R b := by
  funext j
  exact s b j (by omega)
theorem PR_R {w' : Nat → Int → Int} {R' : Nat → Nat → Option Nat} (h : PR sh w R) (s : ∀ b, b ≤ 14 → w' b = w b) (sR : ∀ b, b ≤ 14 → R' b = R b) : PR sh w' R' := by
  obtain ⟨f, t, ⟨p1, p2, p3⟩, q1, q2⟩ := h
  exact ⟨f, t, ⟨by rw [sR 1 (by decide)]; exact p1, by rw [sR 1 (by decide)]; exact p2, p3⟩, RL_fr q1 (s _ (by omega)) (s _ (by omega)), RL_fr q2 (s _ (by omega)) (s _ (by omega))⟩
/-- the market settled: the same seen from outside -/
theorem settle (xs : List Int32) (h : INV sh v w R) : ∃ (v1 w1 : Nat → Int → Int) (R1 : Nat → Nat → Option Nat), (∀ Q : q_H → Prop, q_CallV (GG xs) PP kMarket_settle [.ref 15, .ref 32] (sh, zs v, zt w, R) Q = Q (sh, zs v1, zt w1, R1)) ∧ INV sh v1 w1 R1 ∧ v1 15 7 = 1 ∧ (∀ b, b ≠ 15 → b ≠ 18 → v1 b = v b) := by
  have hC := I_CM h
  rcases id h.2.2.2.2.2.2 with ⟨q1, q2, q3⟩ | ⟨q1, q2, q3⟩
  · obtain ⟨v', w', R', ⟨a1, a2, a3, a4, a5, a6⟩, a7⟩ := d_settle0 xs sh v w R hC q1
    have hM' : LM sh R' := LM_R h.1.2 (R15_48 a4 (by decide))
    have hi : INV sh v' w' R' := INV_m h ⟨fun b b1 b2 b3 b4 b5 b6 => a1 b b2, fun j j1 j2 => by rw [a1 48 (by decide)]⟩ (by rw [a1 15 (by decide)]) (by rw [a3 48 (by decide) (by omega)]) a5 hM' (PR_R h.2.1.1 (fun b hb => a3 b (by omega) (by omega)) (fun b hb => R15_48 a4 (by omega))) a2 (Or.inl ⟨by rw [a1 15 (by decide)]; exact q1, by rw [a1 48 (by decide)]; exact q2, by
      rw [a3 48 (by decide) (by omega), q3]
      exact (sM_bnd ⟨fun a h1 h2 => a1 a (by omega), a1 63 (by decide), by rw [a1 48 (by decide)], by rw [a1 48 (by decide)]⟩).symm⟩)
    have hb := CM_Bn (I_CM hi) a6
    rw [I_pz hi] at hb
    have hw := hi.2.2.2.2.2.2
    have e7 : v' 15 7 = 0 := by rw [a1 15 (by decide)]; exact q1
    have w19 : w' 48 19 = bnd v' := by
      rcases hw with z | z
      · exact z.2.2
      · exact absurd z.1 (by omega)
    refine ⟨_, _, R', a7, INV_m hi ⟨fun b b1 b2 b3 b4 b5 b6 => zu_row (by omega), fun j j1 j2 => zu_a (by decide)⟩ (zu_j (by decide)) (zu_a (by decide)) a5 hM' (PR_w hi.2.1.1 (fun b hb => zu_row (by omega))) (MR_fr hi.2.1.2 (fun b b1 b2 => zu_row (by omega))) (Or.inr ⟨zu_e rfl, fun u u1 u2 => ?_, ?_⟩), zu_e rfl, fun b b1 b2 => ?_⟩
    · rw [zu_a (by decide)] at u2 ⊢
      have n2 := (I_dN hi).2
      have r := uc_rng (u := u) ⟨u1, by omega⟩
      obtain ⟨cs, g1, g2⟩ := a6 u u1 u2
      have t0 : ∀ b, b ≠ 15 → zu v' 15 7 1 b = v' b := fun b hb => zu_row hb
      have t1 : dpT (zu v' 15 7 1) (uc u) = dpT v' (uc u) := by
        funext a b c
        simp only [dpT, lcs, cstp, t0 (uc u) (by omega), t0 (uc u + 1) (by omega), t0 (uc u + 2) (by omega), t0 (uc u + 3) (by omega), t0 16 (by decide)]
      refine ⟨cs, by rw [t1, dF_row (t0 (uc u) (by omega)), zu_a (by decide)]; exact g1, fun k k1 k2 => ?_⟩
      rw [t0 18 (by decide), t0 (uc u) (by omega)]
      exact g2 k k1 k2
    · rw [zu_e rfl, zu_a (by decide), hb, w19]
    · rw [zu_row b1, a1 b b2]
  · exact ⟨v, w, R, fun Q => d_settle1 xs sh v w R h.1.1 q1 Q, h, q1, fun b _ _ => rfl⟩
theorem I_LGs (h : INV sh v w R) (q : v 15 7 = 1) : LGs v w ∧ w 15 6 = w 48 19 := by
  rcases h.2.2.2.2.2.2 with z | z
  · exact absurd z.1 (by omega)
  · exact z.2
theorem INV_e {x v2 w2 : Nat → Int → Int} (hi : INV sh x w R) (q1 : e66 x v2) (q2 : fL65 w w2) : INV sh v2 w2 R := INV_scr hi ⟨fun b b1 b2 b3 b4 b5 => q1 b b4, fun j j1 j2 => by rw [q1 48 (by decide)]⟩ (fun b b1 b2 b3 => q2 b b2 b3) hi.1.1 hi.1.2 (PR_w hi.2.1.1 (fun b hb => q2 b (by omega) (by omega))) (MR_fr hi.2.1.2 (fun b b1 b2 => q2 b (by omega) (by omega)))
theorem st_alone (xs : List Int32) (h : INV sh v w R) (u : Int) (r1 : -2147483648 ≤ u ∧ u < 2147483648) : if 0 ≤ u ∧ u < v 48 2 then stepP xs sh v w R kDesk_alone [.ref 0, .int (zi u)] kMod_alone [.ref 48, .int (zi u)] else stepU xs sh v w R kMod_alone [.ref 48, .int (zi u)] 1 := by
  have z2 := h.2.2.1.2.1.1.2
  have n2 := (I_dN h).2
  by_cases q : 0 ≤ u ∧ u < v 48 2
  · rw [if_pos q]
    obtain ⟨v1, w1, R1, a1, a2, a3, a4⟩ := settle xs h
    have hA := a2.2.2.1.1
    have e48 := a4 48 (by decide) (by decide)
    have e32 := a4 32 (by decide) (by decide)
    have z3 := a2.2.2.1.2.1.1.2
    have q' : 0 ≤ u ∧ u < v1 48 2 := by rw [e48]; exact q
    have qq : 0 ≤ u ∧ u < v 32 1 := by rw [z2]; exact q
    have ea := (CM_LG (I_CM a2) (I_LGs a2 a3).1 q.1 (by omega)).1
    rw [I_pz a2] at ea
    refine ⟨zl (xC v1 u), v1, w1, R1, fun Q => cL (fun Q hQ => ?_) Q, fun t => ?_⟩
    rotate_left
    · obtain ⟨v2, w2, m1, m2, m3⟩ := n_alone xs sh v1 (zu w1 69 0 t) R1 a2.1.2 hA u r1
      simp only [if_pos q'] at m1 m3
      exact ⟨v2, w2, m3, by rw [m1 48 (by decide)]; exact zu_e rfl, by rw [m2 69 (by decide) (by decide)]; exact zu_e rfl, INV_e (INV_0 (INV_y a2 t) 0) m1 m2⟩
    have hD := h.1.1
    have hD1 := a2.1.1
    have hN := I_dN h
    refine e_Desk_alone xs _ _ _ (sh, zs v, zt w, R) ?_
    simp (discharger := first | assumption | omega) [hD, fI, fL, fV, zs_ar, zt_ar, zs_un, zt_un, zn_c, zu_a, zu_e, zu_j, zix, zi_lit, zl_lit, zi_add, zi_sub, zi_mul, zi_neg, zi_le, zi_lt, zi_eq, zl_add, zl_sub, zl_mul, zi_i2l, zl_l2i, zb0, zb1, zb0', zb1', zi_c0, zi_c1, zb_c, d_hasSet, a1, hD1, qq, ea]
    exact hQ
  · rw [if_neg q]
    obtain ⟨v2, w2, m1, m2, m3⟩ := n_alone xs sh v w R h.1.2 h.2.2.1.1 u r1
    simp only [if_neg q] at m1 m3
    exact ⟨_, v2, w2, m3, by rw [m1 48 (by decide)]; exact zu_e rfl, INV_e (INV_0 h 1) m1 m2⟩
theorem st_lone (xs : List Int32) (h : INV sh v w R) (u k : Int) (r1 : -2147483648 ≤ u ∧ u < 2147483648) (r2 : -2147483648 ≤ k ∧ k < 2147483648) : if (0 ≤ u ∧ u < v 48 2) ∧ (0 ≤ k ∧ k < v 48 1) then stepO xs sh v w R kDesk_lone [.ref 0, .int (zi u), .int (zi k)] kMod_lone [.ref 48, .int (zi u), .int (zi k)] else stepT xs sh v w R kMod_lone [.ref 48, .int (zi u), .int (zi k)] 1 := by
  have z1 := h.2.2.1.2.1.1.1
  have z2 := h.2.2.1.2.1.1.2
  have n1 := (I_dN h).1
  have n2 := (I_dN h).2
  by_cases q : (0 ≤ u ∧ u < v 48 2) ∧ (0 ≤ k ∧ k < v 48 1)
  · rw [if_pos q]
    obtain ⟨v1, w1, R1, a1, a2, a3, a4⟩ := settle xs h
    have hA := a2.2.2.1.1
    have e48 := a4 48 (by decide) (by decide)
    have e32 := a4 32 (by decide) (by decide)
    have z3 := a2.2.2.1.2.1.1.2
    have q' : (0 ≤ u ∧ u < v1 48 2) ∧ (0 ≤ k ∧ k < v1 48 1) := by rw [e48]; exact q
    have qq : (0 ≤ u ∧ u < v 32 1) ∧ (0 ≤ k ∧ k < v 32 0) := by rw [z2, z1]; exact q
    have ea := (CM_LG (I_CM a2) (I_LGs a2 a3).1 q.1.1 (by omega)).2 k q.2.1 (by rw [e32]; exact qq.2.2)
    rw [I_pz a2] at ea
    refine ⟨zi (xL v1 u k), v1, w1, R1, fun Q => cI (fun Q hQ => ?_) Q, fun t => ?_⟩
    rotate_left
    · obtain ⟨v2, w2, m1, m2, m3⟩ := n_lone xs sh v1 (zu w1 69 0 t) R1 a2.1.2 hA u k r1 r2
      simp only [if_pos q'] at m1 m3
      exact ⟨v2, w2, m3, by rw [m1 48 (by decide)]; exact zu_e rfl, by rw [m2 69 (by decide) (by decide)]; exact zu_e rfl, INV_e (INV_0 (INV_y a2 t) 0) m1 m2⟩
    have hD := h.1.1
    have hD1 := a2.1.1
    have hN := I_dN h
    obtain ⟨qq1, qq2⟩ := id qq
    refine e_Desk_lone xs _ _ _ _ (sh, zs v, zt w, R) ?_
    simp (discharger := first | assumption | omega) [hD, fI, fL, fV, zs_ar, zt_ar, zs_un, zt_un, zn_c, zu_a, zu_e, zu_j, zix, zi_lit, zl_lit, zi_add, zi_sub, zi_mul, zi_neg, zi_le, zi_lt, zi_eq, zl_add, zl_sub, zl_mul, zi_i2l, zl_l2i, zb0, zb1, zb0', zb1', zi_c0, zi_c1, zb_c, d_hasCell, d_cell, a1, hD1, qq1, qq2, ea]
    exact hQ
  · rw [if_neg q]
    obtain ⟨v2, w2, m1, m2, m3⟩ := n_lone xs sh v w R h.1.2 h.2.2.1.1 u k r1 r2
    simp only [if_neg q] at m1 m3
    exact ⟨_, v2, w2, m3, by rw [m1 48 (by decide)]; exact zu_e rfl, INV_e (INV_0 h 1) m1 m2⟩
theorem st_bound (xs : List Int32) (h : INV sh v w R) : stepL xs sh v w R kDesk_bound [.ref 0] kMod_bound [.ref 48] := by
  obtain ⟨v1, w1, R1, a1, a2, a3, a4⟩ := settle xs h
  obtain ⟨v2, w2, m1, m2, m3⟩ := n_bound xs sh v1 w1 R1 a2.1.2 a2.2.2.1.1
  have hb := CM_Bn (I_CM a2) (I_LGs a2 a3).1
  rw [I_pz a2] at hb
  refine ⟨zl (bnd v1), v1, w1, R1, v2, w2, fun Q => cL (fun Q hQ => ?_) Q, m3, by rw [m1.1 48 (by decide)]; exact zu_e rfl, INV_e (INV_0 a2 0) m1.1 m2⟩
  have hD := h.1.1
  have hD1 := a2.1.1
  have s1 := d_presentBound xs sh v1 w1 R1 hD1 (I_dN a2) (I_dD a2) (I_dPr a2)
  rw [hb] at s1
  refine e_Desk_bound xs _ _ (sh, zs v, zt w, R) ?_
  simp (discharger := first | assumption | omega) [hD, fI, fL, fV, zs_ar, zt_ar, zs_un, zt_un, zn_c, zu_a, zu_e, zu_j, zix, zi_lit, zl_lit, zi_add, zi_sub, zi_mul, zi_neg, zi_le, zi_lt, zi_eq, zl_add, zl_sub, zl_mul, zi_i2l, zl_l2i, zb0, zb1, zb0', zb1', zi_c0, zi_c1, zb_c, a1, hD1, s1]
  exact hQ
end
