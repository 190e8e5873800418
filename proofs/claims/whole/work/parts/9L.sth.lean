/-! improve. -/
theorem zu_cm {α : Type} {v : Nat → Int → α} {a b : Nat} {e j : Int} {x y : α} (h : b ≠ a) : zu (zu v a e x) b j y = zu (zu v b j y) a e x := by
  funext c k
  by_cases q : c = b
  · subst q
    by_cases z : k = j
    · rw [zu_e z, zu_a h, zu_e z]
    · rw [zu_j z, zu_a h, zu_a h, zu_j z]
  · by_cases z : c = a
    · subst z
      by_cases z2 : k = e
      · rw [zu_a q, zu_e z2, zu_e z2]
      · rw [zu_a q, zu_j z2, zu_j z2, zu_a q]
    · rw [zu_a q, zu_a z, zu_a z, zu_a q]
def rQ (v v' : Nat → Int → Int) : Prop := (∀ b, 49 ≤ b → v' b = v b) ∧ ∀ j, j ≠ 0 → v' 48 j = v 48 j
theorem rQ_M {v v' : Nat → Int → Int} (h : rQ v v') : sameM v v' := ⟨fun a h1 h2 => h.1 a (by omega), h.1 63 (by decide), h.2 1 (by decide), h.2 2 (by decide)⟩
theorem rQ_rdS {v v' : Nat → Int → Int} (h : rQ v v') (b : Int) : rQ (rdS v b) (rdS v' b) ∧ rdB v' b = rdB v b := by
  have s := rQ_M h
  have ep : rQ (prw v) (prw v') := by
    have key : ∀ a j, (49 ≤ a ∨ a = 48 ∧ j ≠ 0) → prw v' a j = prw v a j := fun a j ha => by
      unfold prw prh newp
      rw [sM_xL s, h.2 1 (by decide), h.2 2 (by decide), h.2 18 (by decide), h.1 58 (by decide), h.1 63 (by decide)]
      rcases ha with q | q
      · rw [h.1 a q]
      · rw [q.1, h.2 j q.2]
    exact ⟨fun a ha => funext fun j => key a j (Or.inl ha), fun j hj => key 48 j (Or.inr ⟨rfl, hj⟩)⟩
  have eb : bnd (prw v') = bnd (prw v) := sM_bnd (rQ_M ep)
  refine ⟨?_, ?_⟩
  · unfold rdS
    rw [eb, h.2 18 (by decide)]
    split
    · exact ep
    · refine ⟨fun a ha => ?_, fun j hj => ?_⟩
      · rw [zu_row (by omega), zu_row (by omega), ep.1 a ha]
      · by_cases q : j = 18
        · rw [zu_e q, zu_e q]
        · rw [zu_j q, zu_j q, ep.2 j hj]
  · unfold rdB
    rw [eb]
theorem rQ_itS {v v' : Nat → Int → Int} (h : rQ v v') (b : Int) : ∀ k, rQ (itS v b k).1 (itS v' b k).1 ∧ (itS v' b k).2 = (itS v b k).2
  | 0 => ⟨h, rfl⟩
  | k + 1 => by
    obtain ⟨h1, h2⟩ := rQ_itS h b k
    show rQ (rdS _ _) (rdS _ _) ∧ rdB _ _ = rdB _ _
    rw [h2]
    exact rQ_rdS h1 _
theorem rdS_row {v : Nat → Int → Int} {b : Int} {a : Nat} {j : Int} (h1 : a ≠ 63) (h2 : ¬ (a = 48 ∧ j = 18)) : rdS v b a j = v a j := by
  unfold rdS
  split
  · rw [prw_row h1]
  · unfold zu
    rw [if_neg h2, prw_row h1]
theorem itS_row {v : Nat → Int → Int} {b : Int} {a : Nat} {j : Int} (h1 : a ≠ 63) (h2 : ¬ (a = 48 ∧ j = 18)) : ∀ k, (itS v b k).1 a j = v a j
  | 0 => rfl
  | k + 1 => by
    show rdS _ _ a j = v a j
    rw [rdS_row h1 h2]
    exact itS_row h1 h2 k
theorem rR_rQ {v v' : Nat → Int → Int} (h : rR v v') : rQ v v' := ⟨fun b hb => h b (by omega), fun j _ => by rw [h 48 (by decide)]⟩
section
variable {sh : List q_Sh} {v w : Nat → Int → Int} {R : Nat → Nat → Option Nat}
/-- k rounds of the class -/
theorem rounds (xs : List Int32) (h : INV sh v w R) (h7 : v 15 7 = 1) (hb : -1000000000 ≤ w 48 19 ∧ w 48 19 ≤ 1000000000) (n : Int) (hn : 1 ≤ n ∧ n ≤ 40) (Q : Int64 → q_H → Prop) (hk : ∀ v' w' R', CM sh v' w' R' → LGs v' w' → sRd v v' → sRw w w' → sR15 R R' → rQ (itS v (w 48 19) n.toNat).1 (pz v') → w' 15 6 = (itS v (w 48 19) n.toNat).2 → Q (zl (itS v (w 48 19) n.toNat).2) (sh, zs v', zt w', R')) :
    ∀ k, 0 ≤ k → k ≤ n → ∀ v' w' R', CM sh v' w' R' → LGs v' w' → sRd v v' → sRw w w' → sR15 R R' → rQ (itS v (w 48 19) k.toNat).1 (pz v') → w' 15 6 = (itS v (w 48 19) k.toNat).2 → q_Rt (GG xs) PP 17 (q_FL Q) 31 [some (.ref 0), some (.int (zi n)), some (.int (zi k))] [] (sh, zs v', zt w', R') := by
  have hA := h.2.2.1.1
  have ht := h.2.2.2.2.1.2
  refine zdown _ (fun v' w' R' c1 c2 c3 c4 c5 c6 c7 => ?_) (fun k h1 h2 ih v' w' R' c1 c2 c3 c4 c5 c6 c7 => ?_)
  · have hD := c1.1
    refine b_Desk_improve_31 xs _ _ _ _ (sh, zs v', zt w', R') ?_
    simp (discharger := first | assumption | omega) [hD, fI, fL, fV, zs_ar, zt_ar, zs_un, zt_un, zn_c, zu_a, zu_e, zu_j, zix, zi_lit, zl_lit, zi_add, zi_sub, zi_mul, zi_neg, zi_le, zi_lt, zi_eq, zl_add, zl_sub, zl_mul, zi_i2l, zl_l2i, zb0, zb1, zb0', zb1', zi_c0, zi_c1, zb_c, c7, i_leT, i_leF, i_ltT, i_ltF, i_eqT, i_eqF]
    exact hk v' w' R' c1 c2 c3 c4 c5 c6 c7
  · have ek : (k + 1).toNat = k.toNat + 1 := by omega
    rw [ek] at ih
    obtain ⟨o1, o2, o3⟩ := itS_ok hA ht hb k.toNat
    obtain ⟨v2, w2, R2, ⟨g1, g2, g3, g4, g5, g6, g7⟩, g8⟩ := d_goRound xs sh v' w' R' c1 c2 (by rw [c7]; exact o3)
    rw [c7] at g6 g7
    obtain ⟨r1, r2⟩ := rQ_rdS c6 (itS v (w 48 19) k.toNat).2
    have hD := c1.1
    have g6' := rR_rQ g6
    refine b_Desk_improve_31 xs _ _ _ _ (sh, zs v', zt w', R') ?_
    simp (discharger := first | assumption | omega) [hD, fI, fL, fV, zs_ar, zt_ar, zs_un, zt_un, zn_c, zu_a, zu_e, zu_j, zix, zi_lit, zl_lit, zi_add, zi_sub, zi_mul, zi_neg, zi_le, zi_lt, zi_eq, zl_add, zl_sub, zl_mul, zi_i2l, zl_l2i, zb0, zb1, zb0', zb1', zi_c0, zi_c1, zb_c, g8, i_leT, i_leF, i_ltT, i_ltF, i_eqT, i_eqF]
    refine ih v2 w2 R2 g1 g2 ⟨fun b b1 b2 b3 => by rw [g3.1 b b1 b2 b3, c3.1 b b1 b2 b3], fun j hj => by rw [g3.2 j hj, c3.2 j hj]⟩ ⟨fun b b1 b2 b3 => by rw [g4.1 b b1 b2 b3, c4.1 b b1 b2 b3], fun j hj => by rw [g4.2 j hj, c4.2 j hj]⟩ (fun b j hb => by rw [g5 b j hb, c5 b j hb]) ⟨fun b hb => ?_, fun j hj => ?_⟩ ?_
    · rw [g6'.1 b hb]
      exact r1.1 b hb
    · rw [g6'.2 j hj]
      exact r1.2 j hj
    · rw [g7]
      exact r2
theorem st_improve (xs : List Int32) (h : INV sh v w R) (n : Int) (r1 : -2147483648 ≤ n ∧ n < 2147483648) : if 1 ≤ n ∧ n ≤ 40 then stepP xs sh v w R kDesk_improve [.ref 0, .int (zi n)] kMod_improve [.ref 48, .int (zi n)] else stepU xs sh v w R kMod_improve [.ref 48, .int (zi n)] 1 := by
  by_cases q : 1 ≤ n ∧ n ≤ 40
  · rw [if_pos q]
    obtain ⟨v1, w1, R1, a1, a2, a3, a4⟩ := settle xs h
    have hb := a2.2.2.2.2.2.1
    obtain ⟨l1, l2⟩ := I_LGs a2 a3
    have hD := h.1.1
    have hD1 := a2.1.1
    have key : ∀ Q : Int64 → q_H → Prop, (∀ v' w' R', CM sh v' w' R' → LGs v' w' → sRd v1 v' → sRw w1 w' → sR15 R1 R' → rQ (itS v1 (w1 48 19) n.toNat).1 (pz v') → w' 15 6 = (itS v1 (w1 48 19) n.toNat).2 → Q (zl (itS v1 (w1 48 19) n.toNat).2) (sh, zs v', zt w', R')) → q_CallL (GG xs) PP kDesk_improve [.ref 0, .int (zi n)] (sh, zs v, zt w, R) Q := fun Q hQ => by
      have := rounds xs a2 a3 hb n q Q hQ 0 (by omega) (by omega) v1 w1 R1 (I_CM a2) l1 ⟨fun b _ _ _ => rfl, fun j _ => rfl⟩ ⟨fun b _ _ _ => rfl, fun j _ => rfl⟩ (fun b j _ => rfl) (by rw [I_pz a2]; exact ⟨fun b _ => rfl, fun j _ => rfl⟩) l2
      refine e_Desk_improve xs _ _ _ (sh, zs v, zt w, R) ?_
      simp (discharger := first | assumption | omega) [hD, fI, fL, fV, zs_ar, zt_ar, zs_un, zt_un, zn_c, zu_a, zu_e, zu_j, zix, zi_lit, zl_lit, zi_add, zi_sub, zi_mul, zi_neg, zi_le, zi_lt, zi_eq, zl_add, zl_sub, zl_mul, zi_i2l, zl_l2i, zb0, zb1, zb0', zb1', zi_c0, zi_c1, zb_c, d_within, q, a1]
      exact this
    obtain ⟨r0, H0, ⟨v', w', R', ⟨c1, c2, c3, c4, c5, c6, c7⟩, e0, e1⟩, k2⟩ := cLx (key (fun x H' => ∃ (v' w' : Nat → Int → Int) (R' : Nat → Nat → Option Nat), (CM sh v' w' R' ∧ LGs v' w' ∧ sRd v1 v' ∧ sRw w1 w' ∧ sR15 R1 R' ∧ rQ (itS v1 (w1 48 19) n.toNat).1 (pz v') ∧ w' 15 6 = (itS v1 (w1 48 19) n.toNat).2) ∧ x = zl (itS v1 (w1 48 19) n.toNat).2 ∧ H' = (sh, zs v', zt w', R')) (fun v' w' R' c1 c2 c3 c4 c5 c6 c7 => ⟨v', w', R', ⟨c1, c2, c3, c4, c5, c6, c7⟩, rfl, rfl⟩))
    subst e0
    subst e1
    obtain ⟨o1, o2, o3⟩ := itS_ok a2.2.2.1.1 a2.2.2.2.2.1.2 hb n.toNat
    have e48 : v' 48 = v1 48 := c3.1 48 (by decide) (by decide) (by decide)
    have rq0 : rQ v1 (zu v' 48 0 0) := ⟨fun b hb => by rw [zu_row (by omega), c3.1 b (by omega) (by omega) (by omega)], fun j hj => by rw [zu_j hj, e48]⟩
    have w19 : w' 48 19 = w1 48 19 := by rw [c4.1 48 (by decide) (by decide) (by omega)]
    have sm : sameM v1 v' := ⟨fun a h1 h2 => c3.1 a (by omega) (by omega) (by omega), c3.1 63 (by decide) (by decide) (by decide), by rw [e48], by rw [e48]⟩
    have hM' : LM sh R' := LM_R a2.1.2 (R15_48 c5 (by decide))
    obtain ⟨t1, t2⟩ := rQ_itS rq0 (w1 48 19) n.toNat
    -- what holds with the class's prices and step laid over
    have row : ∀ b, b ≠ 15 → b ≠ 16 → b ≠ 18 → b ≠ 48 → b ≠ 63 → pz v' b = v1 b := fun b b1 b2 b3 b4 b5 => by rw [pz_row b5 b4, c3.1 b b1 b2 b3]
    have r48 : ∀ j, j ≠ 18 → pz v' 48 j = v1 48 j := fun j hj => by rw [pz_48 hj, e48]
    have hi : INV sh (pz v') (zu w' 48 19 (w' 15 6)) R' := by
      obtain ⟨f1, f2, f3, f4, f5, f6, f7, f8, f9, f10⟩ := c1
      obtain ⟨-, -, -, ⟨⟨g1, g2⟩, g3, g4⟩, -⟩ := id a2
      have p15 : pz v' 15 = v' 15 := pz_row (by decide) (by decide)
      refine ⟨⟨f1, hM'⟩, ⟨PR_R a2.2.1.1 (fun b hb => by rw [zu_row (by omega), c4.1 b (by omega) (by omega) (by omega)]) (fun b hb => R15_48 c5 (by omega)), MR_fr f7 (fun b b1 b2 => zu_row (by omega))⟩, ⟨f8, f9, fun u h1 h2 => ?_⟩, ⟨⟨?_, ?_⟩, HZ_cg g3 (r48 2 (by decide)) (row 54 (by decide) (by decide) (by decide) (by decide) (by decide)) (row 55 (by decide) (by decide) (by decide) (by decide) (by decide)) (row 56 (by decide) (by decide) (by decide) (by decide) (by decide)) (fun b b1 b2 => row b (by omega) (by omega) (by omega) (by omega) (by omega)), fun k k1 k2 => ?_⟩, ?_, ?_, Or.inr ⟨?_, fun u u1 u2 => ?_, ?_⟩⟩
      · have r := uc_47 ⟨h1, h2⟩
        unfold dO
        rw [pz_row r.1.1 r.1.2, pz_row r.2.1.1 r.2.1.2, pz_row r.2.2.1.1 r.2.2.1.2, pz_row r.2.2.2.1 r.2.2.2.2]
        exact f4 u h1 h2
      · rw [pz_63, pz_row (by decide) (by decide)]
      · rw [row 25 (by decide) (by decide) (by decide) (by decide) (by decide), row 60 (by decide) (by decide) (by decide) (by decide) (by decide)]
        exact g2
      · rw [row 31 (by decide) (by decide) (by decide) (by decide) (by decide), row 62 (by decide) (by decide) (by decide) (by decide) (by decide), row 61 (by decide) (by decide) (by decide) (by decide) (by decide), r48 2 (by decide), row (27 + k.toNat) (by omega) (by omega) (by omega) (by omega) (by omega)]
        exact g4 k k1 k2
      · rw [pz_18, p15]
        exact ⟨rfl, f10⟩
      · rw [zu_e rfl, c7]
        exact o3
      · rw [p15, c3.2 7 (by decide)]
        exact a3
      · have n2 := f2.2
        have p32 : pz v' 32 = v' 32 := pz_row (by decide) (by decide)
        rw [p32] at u2 ⊢
        obtain ⟨cs, g1, g2⟩ := pz_LG ⟨u1, by omega⟩ (c2 u u1 u2)
        exact ⟨cs, by rw [zu_a (by decide)]; exact g1, g2⟩
      · rw [zu_e rfl, zu_a (by decide)]
    refine ⟨_, v', w', R', k2, fun t => ?_⟩
    have w19y : zu w' 69 0 t 48 19 = w1 48 19 := by rw [zu_a (by decide), w19]
    obtain ⟨v2, w2, m1, m2, m3⟩ := n_improve xs sh v' (zu w' 69 0 t) R' hM' (sM_rA sm a2.2.2.1.1) (by rw [e48]; exact a2.2.2.2.2.1.2) (by rw [w19y]; exact hb) n r1
    simp only [if_pos q] at m1 m2 m3
    rw [w19y] at m1 m2 m3
    rw [t2] at m2 m3
    refine ⟨v2, w2, m3, ?_, ?_, ?_⟩
    · rw [m1 48 (by decide), itS_row (by decide) (by omega), zu_e rfl]
    · rw [m2 69 (by decide) (by decide), zu_a (by decide)]
      exact zu_e rfl
    · rw [c7] at hi
      replace hi := INV_y hi t
      rw [zu_cm (by decide)] at hi
      refine INV_scr hi ⟨fun b b1 b2 b3 b4 b5 => ?_, fun j j1 j2 => ?_⟩ (fun b b1 b2 b3 => m2 b b2 b3) hi.1.1 hi.1.2 (PR_w hi.2.1.1 (fun b hb => m2 b (by omega) (by omega))) (MR_fr hi.2.1.2 (fun b b1 b2 => m2 b (by omega) (by omega)))
      · rw [m1 b b4]
        by_cases z : b = 63
        · subst z
          rw [c6.1 63 (by decide), t1.1 63 (by decide)]
        · rw [pz_row z b2]
          funext j
          rw [itS_row z (by omega), zu_a b2]
      · rw [m1 48 (by decide), t1.2 j j1]
        exact (c6.2 j j1).symm
  · rw [if_neg q]
    obtain ⟨v2, w2, m1, m2, m3⟩ := n_improve xs sh v w R h.1.2 h.2.2.1.1 h.2.2.2.2.1.2 h.2.2.2.2.2.1 n r1
    simp only [if_neg q] at m1 m2 m3
    exact ⟨_, v2, w2, m3, by rw [m1 48 (by decide)]; exact zu_e rfl, INV_e (INV_0 h 1) m1 m2⟩
end
