theorem lg_leI {a b : Int} (h1 : -9223372036854775808 ≤ a) (h2 : a < 9223372036854775808) (h3 : -9223372036854775808 ≤ b) (h4 : b < 9223372036854775808) : (lg_cmp (zl a) (zl b) ≤ zi 0) = (a ≤ b) := by
  unfold lg_cmp
  simp only [GT.gt, zl_lt h3 h4 h1 h2, zl_eq h1 h2 h3 h4]
  by_cases c : b < a
  · rw [if_pos c]
    exact propext ⟨fun h => absurd h (by decide), fun h => by omega⟩
  · rw [if_neg c]
    by_cases d : a = b
    · rw [if_pos d]
      exact propext ⟨fun _ => by omega, fun _ => by decide⟩
    · rw [if_neg d]
      exact propext ⟨fun _ => by omega, fun _ => by decide⟩
theorem lg_gtI {a b : Int} (h1 : -9223372036854775808 ≤ a) (h2 : a < 9223372036854775808) (h3 : -9223372036854775808 ≤ b) (h4 : b < 9223372036854775808) : (zi 0 < lg_cmp (zl a) (zl b)) = (b < a) := by
  rw [← Int32.not_le, lg_leI h1 h2 h3 h4]
  exact propext Int.not_le
def prw (v : Nat → Int → Int) : Nat → Int → Int := prh v v (v 48 1)
def rdS (v : Nat → Int → Int) (b : Int) : Nat → Int → Int := if b < bnd (prw v) then prw v else zu (prw v) 48 18 (if 1 < v 48 18 then v 48 18 / 2 else 1)
def rdB (v : Nat → Int → Int) (b : Int) : Int := if b < bnd (prw v) then bnd (prw v) else b
theorem prw_row {v : Nat → Int → Int} {a : Nat} (c : a ≠ 63) : prw v a = v a := prh_row c
theorem rA_63 {v v' : Nat → Int → Int} (hA : rA v) (h : ∀ a, 48 ≤ a → a ≤ 60 → v' a = v a) (h63 : ∀ h, 0 ≤ h → h < 8 → -100000 ≤ v' 63 h ∧ v' 63 h ≤ 100000) : rA v' := by
  obtain ⟨a1, a2, a3, a4, a5, a6⟩ := hA
  refine ⟨fun u h1 h2 => ?_, ?_, fun u h1 h2 => ?_, fun k h1 h2 => ?_, ?_, fun u h1 h2 => ?_⟩
  · simp only [h 49 (by decide) (by decide), h 50 (by decide) (by decide), h 51 (by decide) (by decide), h 52 (by decide) (by decide), h 53 (by decide) (by decide), h 56 (by decide) (by decide), h 57 (by decide) (by decide)]
    exact a1 u h1 h2
  · unfold rC
    rw [h 54 (by decide) (by decide), h 55 (by decide) (by decide)]
    exact a2
  · rw [h 48 (by decide) (by decide)] at h2
    simp only [h 49 (by decide) (by decide), h 50 (by decide) (by decide), h 51 (by decide) (by decide), h 52 (by decide) (by decide), h 53 (by decide) (by decide), h 56 (by decide) (by decide), h 57 (by decide) (by decide)]
    exact a3 u h1 h2
  · rw [h 58 (by decide) (by decide), h 59 (by decide) (by decide)]
    exact ⟨(a4 k h1 h2).1, (a4 k h1 h2).2.1, h63 k h1 h2⟩
  · unfold rN
    rw [h 48 (by decide) (by decide)]
    exact a5
  · rw [h 60 (by decide) (by decide)]
    exact a6 u h1 h2
theorem rA_prw {v : Nat → Int → Int} (hA : rA v) : rA (prw v) := rA_63 hA (fun a h1 h2 => prw_row (by omega)) (fun k h1 h2 => by
  have := (hA.2.2.2.1 k h1 h2).2.2
  unfold prw prh
  split
  · exact zclp_rng _
  · exact this)
theorem rA_rdS {v : Nat → Int → Int} (hA : rA v) (b : Int) : rA (rdS v b) := by
  unfold rdS
  split
  · exact rA_prw hA
  · exact sM_rA (sM_zu (sM_rf _) (by omega)) (rA_prw hA)
theorem rdS_18 {v : Nat → Int → Int} (ht : 1 ≤ v 48 18 ∧ v 48 18 ≤ 64) (b : Int) : 1 ≤ rdS v b 48 18 ∧ rdS v b 48 18 ≤ 64 := by
  unfold rdS
  split
  · rw [prw_row (by decide)]
    exact ht
  · rw [zu_e rfl]
    split <;> omega
theorem l_rd7 (xs : List Int32) (sh : List q_Sh) (v v' w : Nat → Int → Int) (R : Nat → Nat → Option Nat) (hM : LM sh R) (hA : rA v) (hB : bm v v') (ht : 1 ≤ v 48 18 ∧ v 48 18 ≤ 64) (hb : -1000000000 ≤ w 48 19 ∧ w 48 19 ≤ 1000000000) (F : Option Value → q_H → Prop) (hk : ∀ v3 w3, e66 (rdS v (w 48 19)) v3 → fL65 (zu w 48 19 (rdB v (w 48 19))) w3 → F none (sh, zs v3, zt w3, R)) : ∀ h, 0 ≤ h → h ≤ v 48 1 → q_Rt (GG xs) PP 70 F 7 [some (.ref 48), none, none, some (.int (zi h)), none, none] [] (sh, zs (prh v v' h), zt w, R) := by
  have n1 := hA.2.2.2.2.1.1
  have n2 := hA.2.2.2.2.1.2
  have p48 : ∀ h, prh v v' h 48 = v 48 := fun h => by rw [prh_row (by decide), hB.1 48 (by decide)]
  refine zdown _ ?_ (fun h h1 h2 ih => ?_)
  · have e : e66 (prw v) (prh v v' (v 48 1)) := fun a ha => by
      funext j
      unfold prw prh
      rw [hB.1 a ha]
    have s := sM_66 e
    obtain ⟨v3, w3, q1, q2, q3⟩ := n_boundNow xs sh (prh v v' (v 48 1)) w R hM (sM_rA s (rA_prw hA))
    rw [sM_bnd s] at q3
    have r := bnd_rng (rA_prw hA)
    have e19 : w3 48 19 = w 48 19 := by rw [q2 48 (by decide) (by decide)]
    have e18 : v3 48 = v 48 := by rw [q1.1 48 (by decide), p48]
    have e3 : ∀ a, a ≠ 66 → v3 a = prw v a := fun a ha => by rw [q1.1 a ha, e a ha]
    refine b_Mod_round_7 xs F _ _ (sh, zs (prh v v' (v 48 1)), zt w, R) ?_
    by_cases c : w 48 19 < bnd (prw v)
    · have hk' := hk v3 (zu w3 48 19 (bnd (prw v))) (fun a ha => by unfold rdS; rw [if_pos c]; exact e3 a ha) (fun a h1 h2 => by
        funext j
        unfold rdB
        rw [if_pos c]
        unfold zu
        rw [q2 a h1 h2])
      simp (discharger := first | assumption | omega) [hM, fI, fL, fV, zs_ar, zt_ar, zs_un, zt_un, zn_c, zu_a, zu_e, zu_j, zix, zi_lit, zl_lit, zi_add, zi_sub, zi_mul, zi_neg, zi_le, zi_lt, zi_eq, zl_add, zl_sub, zl_mul, zi_i2l, zl_l2i, zb0, zb1, zb0', zb1', zi_c0, zi_c1, zb_c, p48, q3, e18, e19, lg_leI, lg_gtI, i_leT, i_leF, i_ltT, i_ltF, i_eqT, i_eqF]
      exact hk'
    · have hk' := hk (zu v3 48 18 (if 1 < v 48 18 then v 48 18 / 2 else 1)) w3 (fun a ha => by
        funext j
        unfold rdS
        rw [if_neg c]
        unfold zu
        rw [e3 a ha]) (fun a h1 h2 => by
        funext j
        unfold rdB
        rw [if_neg c, q2 a h1 h2]
        unfold zu
        split
        · rename_i q
          rw [q.1, q.2]
        · rfl)
      by_cases d : v 48 18 ≤ 1
      · rw [if_neg (by omega)] at hk'
        simp (discharger := first | assumption | omega) [hM, fI, fL, fV, zs_ar, zt_ar, zs_un, zt_un, zn_c, zu_a, zu_e, zu_j, zix, zi_lit, zl_lit, zi_add, zi_sub, zi_mul, zi_neg, zi_le, zi_lt, zi_eq, zl_add, zl_sub, zl_mul, zi_i2l, zl_l2i, zb0, zb1, zb0', zb1', zi_c0, zi_c1, zb_c, p48, q3, e18, e19, lg_leI, lg_gtI, i_leT, i_leF, i_ltT, i_ltF, i_eqT, i_eqF]
        exact hk'
      · rw [if_pos (by omega)] at hk'
        simp (discharger := first | assumption | omega) [hM, fI, fL, fV, zs_ar, zt_ar, zs_un, zt_un, zn_c, zu_a, zu_e, zu_j, zix, zi_lit, zl_lit, zi_add, zi_sub, zi_mul, zi_neg, zi_le, zi_lt, zi_eq, zl_add, zl_sub, zl_mul, zi_i2l, zl_l2i, zb0, zb1, zb0', zb1', zi_c0, zi_c1, zb_c, p48, q3, e18, e19, lg_leI, lg_gtI, zi_div, i_leT, i_leF, i_ltT, i_ltF, i_eqT, i_eqF]
        exact hk'
  · refine b_Mod_round_7 xs F _ _ (sh, zs (prh v v' h), zt w, R) ?_
    simp (discharger := first | assumption | omega) [hM, fI, fL, fV, zs_ar, zt_ar, zs_un, zt_un, zn_c, zu_a, zu_e, zu_j, zix, zi_lit, zl_lit, zi_add, zi_sub, zi_mul, zi_neg, zi_le, zi_lt, zi_eq, zl_add, zl_sub, zl_mul, zi_i2l, zl_l2i, zb0, zb1, zb0', zb1', zi_c0, zi_c1, zb_c, p48, i_leT, i_leF, i_ltT, i_ltF, i_eqT, i_eqF]
    have := l_rd21 xs sh v v' w R hM hA hB ht h ⟨h1, h2⟩ F ih 0 (by omega) (by omega)
    simpa [zsum] using this
theorem n_round (xs : List Int32) (sh : List q_Sh) (v w : Nat → Int → Int) (R : Nat → Nat → Option Nat) (hM : LM sh R) (hA : rA v) (ht : 1 ≤ v 48 18 ∧ v 48 18 ≤ 64) (hb : -1000000000 ≤ w 48 19 ∧ w 48 19 ≤ 1000000000) : ∃ v' w', e66 (rdS v (w 48 19)) v' ∧ fL65 (zu w 48 19 (rdB v (w 48 19))) w' ∧ ∀ Q : q_H → Prop, q_CallV (GG xs) PP kMod_round [.ref 48] (sh, zs v, zt w, R) Q = Q (sh, zs v', zt w', R) := by
  have n1 := hA.2.2.2.2.1.1
  obtain ⟨v1, w1, h1, h2, h3⟩ := n_boundNow xs sh v w R hM hA
  have e19 : w1 48 19 = w 48 19 := by rw [h2 48 (by decide) (by decide)]
  have key : q_CallV (GG xs) PP kMod_round [.ref 48] (sh, zs v, zt w, R) (fun H' => ∃ v' w', (e66 (rdS v (w 48 19)) v' ∧ fL65 (zu w 48 19 (rdB v (w 48 19))) w') ∧ H' = (sh, zs v', zt w', R)) := by
    refine e_Mod_round xs _ _ (sh, zs v, zt w, R) ?_
    have p0 : prh v v1 0 = v1 := by
      funext a j
      unfold prh
      rw [if_neg (by omega)]
    have := l_rd7 xs sh v v1 w1 R hM hA h1 ht (by omega) (q_FV (fun H' => ∃ v' w', (e66 (rdS v (w 48 19)) v' ∧ fL65 (zu w 48 19 (rdB v (w 48 19))) w') ∧ H' = (sh, zs v', zt w', R))) (fun v3 w3 a b => ⟨v3, w3, ⟨by rw [← e19]; exact a, fun a q1 q2 => by
      rw [b a q1 q2, e19]
      funext j
      unfold zu
      rw [h2 a q1 q2]⟩, rfl⟩) 0 (by omega) (by omega)
    rw [p0] at this
    simp (discharger := first | assumption | omega) [hM, fI, fL, fV, zs_ar, zt_ar, zs_un, zt_un, zn_c, zu_a, zu_e, zu_j, zix, zi_lit, zl_lit, zi_add, zi_sub, zi_mul, zi_neg, zi_le, zi_lt, zi_eq, zl_add, zl_sub, zl_mul, zi_i2l, zl_l2i, zb0, zb1, zb0', zb1', zi_c0, zi_c1, zb_c, h3]
    exact this
  obtain ⟨H0, ⟨v', w', h1, e⟩, h2⟩ := cVx key
  exact ⟨v', w', h1.1, h1.2, fun Q => by rw [h2, e]⟩
/-- k rounds -/
def itS (v : Nat → Int → Int) (b : Int) : Nat → (Nat → Int → Int) × Int
  | 0 => (v, b)
  | k + 1 => (rdS (itS v b k).1 (itS v b k).2, rdB (itS v b k).1 (itS v b k).2)
theorem e66_rdS {v v' : Nat → Int → Int} (h : e66 v v') (b : Int) : e66 (rdS v b) (rdS v' b) ∧ rdB v' b = rdB v b := by
  have s := sM_66 h
  have ep : e66 (prw v) (prw v') := fun a ha => by
    funext j
    unfold prw prh newp
    rw [h a ha, sM_xL s, h 48 (by decide), h 58 (by decide), h 63 (by decide)]
  have eb : bnd (prw v') = bnd (prw v) := sM_bnd (sM_66 ep)
  refine ⟨fun a ha => ?_, ?_⟩
  · unfold rdS
    rw [eb, h 48 (by decide)]
    split
    · exact ep a ha
    · funext j
      unfold zu
      rw [ep a ha]
  · unfold rdB
    rw [eb]
theorem itS_ok {v : Nat → Int → Int} {b : Int} (hA : rA v) (ht : 1 ≤ v 48 18 ∧ v 48 18 ≤ 64) (hb : -1000000000 ≤ b ∧ b ≤ 1000000000) : ∀ k, rA (itS v b k).1 ∧ (1 ≤ (itS v b k).1 48 18 ∧ (itS v b k).1 48 18 ≤ 64) ∧ (-1000000000 ≤ (itS v b k).2 ∧ (itS v b k).2 ≤ 1000000000)
  | 0 => ⟨hA, ht, hb⟩
  | k + 1 => by
    obtain ⟨h1, h2, h3⟩ := itS_ok hA ht hb k
    refine ⟨rA_rdS h1 _, rdS_18 h2 _, ?_⟩
    show -1000000000 ≤ rdB _ _ ∧ rdB _ _ ≤ 1000000000
    have := bnd_rng (rA_prw h1)
    unfold rdB
    split <;> omega
theorem l_imp24 (xs : List Int32) (sh : List q_Sh) (v w : Nat → Int → Int) (R : Nat → Nat → Option Nat) (hM : LM sh R) (hA : rA v) (ht : 1 ≤ v 48 18 ∧ v 48 18 ≤ 64) (b : Int) (hb : -1000000000 ≤ b ∧ b ≤ 1000000000) (n : Int) (hn : 1 ≤ n ∧ n ≤ 40) (F : Option Value → q_H → Prop) (hk : ∀ v' w', e66 (itS v b n.toNat).1 v' → fL65 (zu w 48 19 (itS v b n.toNat).2) w' → F (some (.long (zl (itS v b n.toNat).2))) (sh, zs v', zt w', R)) : ∀ k, 0 ≤ k → k ≤ n → ∀ v1 w1, e66 (itS v b k.toNat).1 v1 → fL65 (zu w 48 19 (itS v b k.toNat).2) w1 → q_Rt (GG xs) PP 71 F 24 [some (.ref 48), some (.int (zi n)), some (.int (zi k))] [] (sh, zs v1, zt w1, R) := by
  refine zdown _ (fun v1 w1 h1 h2 => ?_) (fun k h1 h2 ih v1 w1 g1 g2 => ?_)
  · have e : w1 48 19 = (itS v b n.toNat).2 := by rw [h2 48 (by decide) (by decide), zu_e rfl]
    refine b_Mod_improve_24 xs F _ _ _ (sh, zs v1, zt w1, R) ?_
    simp (discharger := first | assumption | omega) [hM, fI, fL, fV, zs_ar, zt_ar, zs_un, zt_un, zn_c, zu_a, zu_e, zu_j, zix, zi_lit, zl_lit, zi_add, zi_sub, zi_mul, zi_neg, zi_le, zi_lt, zi_eq, zl_add, zl_sub, zl_mul, zi_i2l, zl_l2i, zb0, zb1, zb0', zb1', zi_c0, zi_c1, zb_c, e, i_leT, i_leF, i_ltT, i_ltF, i_eqT, i_eqF]
    exact hk v1 w1 h1 h2
  · have e : w1 48 19 = (itS v b k.toNat).2 := by rw [g2 48 (by decide) (by decide), zu_e rfl]
    have ek : (k + 1).toNat = k.toNat + 1 := by omega
    rw [ek] at ih
    obtain ⟨o1, o2, o3⟩ := itS_ok hA ht hb k.toNat
    have s := sM_66 g1
    obtain ⟨v2, w2, q1, q2, q3⟩ := n_round xs sh v1 w1 R hM (sM_rA s o1) (by rw [g1 48 (by decide)]; exact o2) (by rw [e]; exact o3)
    rw [e] at q1 q2
    obtain ⟨r1, r2⟩ := e66_rdS g1 (itS v b k.toNat).2
    refine b_Mod_improve_24 xs F _ _ _ (sh, zs v1, zt w1, R) ?_
    simp (discharger := first | assumption | omega) [hM, fI, fL, fV, zs_ar, zt_ar, zs_un, zt_un, zn_c, zu_a, zu_e, zu_j, zix, zi_lit, zl_lit, zi_add, zi_sub, zi_mul, zi_neg, zi_le, zi_lt, zi_eq, zl_add, zl_sub, zl_mul, zi_i2l, zl_l2i, zb0, zb1, zb0', zb1', zi_c0, zi_c1, zb_c, q3, i_leT, i_leF, i_ltT, i_ltF, i_eqT, i_eqF]
    refine ih v2 w2 (fun a ha => by rw [q1 a ha]; exact r1 a ha) (fun a a1 a2 => ?_)
    rw [q2 a a1 a2, r2]
    funext j
    show zu w1 48 19 (rdB (itS v b k.toNat).1 (itS v b k.toNat).2) a j = zu w 48 19 (rdB (itS v b k.toNat).1 (itS v b k.toNat).2) a j
    unfold zu
    split
    · rfl
    · rename_i q
      rw [g2 a a1 a2]
      unfold zu
      rw [if_neg q]
theorem n_improve (xs : List Int32) (sh : List q_Sh) (v w : Nat → Int → Int) (R : Nat → Nat → Option Nat) (hM : LM sh R) (hA : rA v) (ht : 1 ≤ v 48 18 ∧ v 48 18 ≤ 64) (hb : -1000000000 ≤ w 48 19 ∧ w 48 19 ≤ 1000000000) (n : Int) (hn : -2147483648 ≤ n ∧ n < 2147483648) : ∃ v' w', e66 (if 1 ≤ n ∧ n ≤ 40 then (itS (zu v 48 0 0) (w 48 19) n.toNat).1 else zu v 48 0 1) v' ∧ fL65 (if 1 ≤ n ∧ n ≤ 40 then zu w 48 19 (itS (zu v 48 0 0) (w 48 19) n.toNat).2 else w) w' ∧ ∀ Q : Int64 → q_H → Prop, q_CallL (GG xs) PP kMod_improve [.ref 48, .int (zi n)] (sh, zs v, zt w, R) Q = Q (zl (if 1 ≤ n ∧ n ≤ 40 then (itS (zu v 48 0 0) (w 48 19) n.toNat).2 else 0)) (sh, zs v', zt w', R) := by
  by_cases c : 1 ≤ n ∧ n ≤ 40
  · simp only [if_pos c]
    have s : sameM v (zu v 48 0 0) := sM_zu (sM_rf v) (by omega)
    have key : q_CallL (GG xs) PP kMod_improve [.ref 48, .int (zi n)] (sh, zs v, zt w, R) (fun x H' => x = zl (itS (zu v 48 0 0) (w 48 19) n.toNat).2 ∧ ∃ v' w', (e66 (itS (zu v 48 0 0) (w 48 19) n.toNat).1 v' ∧ fL65 (zu w 48 19 (itS (zu v 48 0 0) (w 48 19) n.toNat).2) w') ∧ H' = (sh, zs v', zt w', R)) := by
      refine e_Mod_improve xs _ _ _ (sh, zs v, zt w, R) ?_
      have := l_imp24 xs sh (zu v 48 0 0) w R hM (sM_rA s hA) (by rw [zu_j (by decide)]; exact ht) (w 48 19) hb n c (q_FL (fun x H' => x = zl (itS (zu v 48 0 0) (w 48 19) n.toNat).2 ∧ ∃ v' w', (e66 (itS (zu v 48 0 0) (w 48 19) n.toNat).1 v' ∧ fL65 (zu w 48 19 (itS (zu v 48 0 0) (w 48 19) n.toNat).2) w') ∧ H' = (sh, zs v', zt w', R))) (fun v' w' a b => ⟨rfl, v', w', ⟨a, b⟩, rfl⟩) 0 (by omega) (by omega) (zu v 48 0 0) w (fun _ _ => rfl) (fun a _ _ => by
        funext j
        show w a j = zu w 48 19 (w 48 19) a j
        unfold zu
        split
        · rename_i q
          rw [q.1, q.2]
        · rfl)
      simp (discharger := first | assumption | omega) [hM, fI, fL, fV, zs_ar, zt_ar, zs_un, zt_un, zn_c, zu_a, zu_e, zu_j, zix, zi_lit, zl_lit, zi_add, zi_sub, zi_mul, zi_neg, zi_le, zi_lt, zi_eq, zl_add, zl_sub, zl_mul, zi_i2l, zl_l2i, zb0, zb1, zb0', zb1', zi_c0, zi_c1, zb_c, n_in, c]
      simpa using this
    obtain ⟨r, H0, ⟨e0, v', w', h1, e⟩, h2⟩ := cLx key
    exact ⟨v', w', h1.1, h1.2, fun Q => by rw [h2, e, e0]⟩
  · simp only [if_neg c]
    refine ⟨_, w, fun _ _ => rfl, fun _ _ _ => rfl, fun Q => cL (fun Q hQ => ?_) Q⟩
    refine e_Mod_improve xs _ _ _ (sh, zs v, zt w, R) ?_
    simp (discharger := first | assumption | omega) [hM, fI, fL, fV, zs_ar, zt_ar, zs_un, zt_un, zn_c, zu_a, zu_e, zu_j, zix, zi_lit, zl_lit, zi_add, zi_sub, zi_mul, zi_neg, zi_le, zi_lt, zi_eq, zl_add, zl_sub, zl_mul, zi_i2l, zl_l2i, zb0, zb1, zb0', zb1', zi_c0, zi_c1, zb_c, n_in, n_fails, c]
    simpa using hQ
