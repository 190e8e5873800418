/-! The planner: an hour's search, the plan written. -/
def s14 (v v' : Nat → Int → Int) : Prop := ∀ b, b ≠ 14 → v' b = v b
def e14 (v v' : Nat → Int → Int) : Prop := s14 v v' ∧ ∀ u, 0 ≤ u → u < 3 → v' 14 u = v 14 u
theorem uc_14 {u : Int} (hu : 0 ≤ u ∧ u < 3) : uc u ≠ 14 ∧ uc u + 1 ≠ 14 ∧ uc u + 2 ≠ 14 ∧ uc u + 3 ≠ 14 := by
  have := uc_rng hu
  omega
theorem e14_nxs {v v' : Nat → Int → Int} (h : e14 v v') {t : Nat} (ht : t = 2 ∨ t = 8) (i : Int) {u : Int} (hu : 0 ≤ u ∧ u < 3) : nxs v' t i u = nxs v t i u := by
  unfold nxs
  rw [h.1 _ (uc_14 hu).2.2.2, h.1 (t + 5) (by omega), h.2 u hu.1 hu.2]
theorem e14_hbv {v v' : Nat → Int → Int} (h : e14 v v') {t : Nat} (ht : t = 2 ∨ t = 8) (i : Int) : hbv v' t i = hbv v t i := by
  unfold hbv
  rw [e14_nxs h ht i (u := 0) (by omega), e14_nxs h ht i (u := 1) (by omega), e14_nxs h ht i (u := 2) (by omega)]
theorem e14_cs3 {v v' : Nat → Int → Int} (h : e14 v v') {t : Nat} (ht : t = 2 ∨ t = 8) (i : Int) : cs3 v' t i = cs3 v t i := by
  obtain ⟨-, a1, a2, -⟩ := uc_14 (u := 0) (by omega)
  obtain ⟨-, b1, b2, -⟩ := uc_14 (u := 1) (by omega)
  obtain ⟨-, c1, c2, -⟩ := uc_14 (u := 2) (by omega)
  unfold cs3 cstp
  rw [h.1 (t + 5) (by omega), h.2 0 (by omega) (by omega), h.2 1 (by omega) (by omega), h.2 2 (by omega) (by omega), h.1 _ a1, h.1 _ a2, h.1 _ b1, h.1 _ b2, h.1 _ c1, h.1 _ c2]
theorem e14_gpl {v v' : Nat → Int → Int} (h : e14 v v') {t : Nat} (ht : t = 2 ∨ t = 8) (k y : Int) (w : Nat → Int → Int) : ∀ i, gpl v' t k y w i = gpl v t k y w i
  | 0 => rfl
  | i + 1 => by
    unfold gpl
    rw [e14_gpl h ht k y w i, e14_hbv h ht, e14_cs3 h ht, h.1 (t + 4) (by omega)]
theorem rds_e14 {v v' : Nat → Int → Int} (h : s14 v v') {f : Nat} (hf : f = 2 ∨ f = 8) (i k : Int) : e14 (rds v f i k) (rds v' f i k) := by
  refine ⟨fun b hb => ?_, fun u h1 h2 => ?_⟩
  · rw [rds_row hb, rds_row hb]
    exact h b hb
  · obtain rfl | rfl | rfl : u = 0 ∨ u = 1 ∨ u = 2 := by omega
    · simp [rds, zu, h (f + 5) (by omega)]
    · simp [rds, zu, h (f + 5) (by omega)]
    · simp [rds, zu, h (f + 5) (by omega)]
theorem rds_g14 {v : Nat → Int → Int} {f : Nat} (hg : gcf v f) {i k : Int} (hi : 0 ≤ i ∧ i < v f 3) : g14 (rds v f i k) := fun u h1 h2 => by
  have c0 := hg.2 (i * 3) (by omega) (by omega)
  have c1 := hg.2 (i * 3 + 1) (by omega) (by omega)
  have c2 := hg.2 (i * 3 + 2) (by omega) (by omega)
  obtain rfl | rfl | rfl : u = 0 ∨ u = 1 ∨ u = 2 := by omega
  · unfold rds
    rw [zu_e rfl]
    omega
  · unfold rds
    rw [zu_j (by omega), zu_e rfl]
    omega
  · unfold rds
    rw [zu_j (by omega), zu_j (by omega), zu_e rfl]
    omega
theorem s14_Os {v v' : Nat → Int → Int} (h : s14 v v') (x : dOs v) : dOs v' := fun u h1 h2 => by
  obtain ⟨a0, a1, a2, a3⟩ := uc_14 ⟨h1, h2⟩
  unfold dO
  rw [h _ a0, h _ a1, h _ a2, h _ a3]
  exact x u h1 h2
theorem s14_co {v v' : Nat → Int → Int} (h : s14 v v') {a : Nat} (ha : a = 2 ∨ a = 8) (x : gco v a) : gco v' a := by
  unfold gco gch
  rw [h a (by omega), h (a + 4) (by omega), h (a + 5) (by omega)]
  exact x
theorem s14_cf {v v' : Nat → Int → Int} (h : s14 v v') {a : Nat} (ha : a = 2 ∨ a = 8) (x : gcf v a) : gcf v' a := by
  unfold gcf gch
  rw [h a (by omega), h (a + 5) (by omega)]
  exact x
def gq (v : Nat → Int → Int) (f t : Nat) (w : Nat → Int → Int) : Nat → Nat → Int → Int
  | 0 => w
  | p + 1 => if w (f + 3) p = -1 then gq v f t w p else gpl (rds v f ((p : Int) / 27) ((p : Int) % 27)) t (w (f + 2) p) (w (f + 3) p) (gq v f t w p) (v t 3).toNat
theorem gq_row {v : Nat → Int → Int} {f t : Nat} {w : Nat → Int → Int} {b : Nat} (h1 : b ≠ t + 2) (h2 : b ≠ t + 3) : ∀ p, gq v f t w p b = w b
  | 0 => rfl
  | p + 1 => by
    unfold gq
    split
    · exact gq_row h1 h2 p
    · rw [gpl_row h1 h2]
      exact gq_row h1 h2 p
theorem gq_RL {v : Nat → Int → Int} (hO : dOs v) {f t : Nat} (hft : f = 2 ∧ t = 8 ∨ f = 8 ∧ t = 2) (hgf : gcf v f) (hgt : gco v t) {K M : Int} {w : Nat → Int → Int} (hK : K + 10000000 ≤ 1000000000) (hf : RL w (f + 2) (f + 3) 675 K M) (ht : RL w (t + 2) (t + 3) 675 (K + 10000000) (125 * M)) : ∀ p : Nat, (p : Int) ≤ 27 * v f 3 → RL (gq v f t w p) (t + 2) (t + 3) 675 (K + 10000000) (125 * M)
  | 0, _ => ht
  | p + 1, hp => by
    have ih := gq_RL hO hft hgf hgt hK hf ht p (by omega)
    have h25 := hgf.1
    have r := hf p (by omega) (by omega)
    unfold gq
    split
    · exact ih
    · have s : s14 v (rds v f ((p : Int) / 27) ((p : Int) % 27)) := fun b hb => rds_row hb
      have e3 : rds v f ((p : Int) / 27) ((p : Int) % 27) t 3 = v t 3 := by rw [s t (by omega)]
      have q := gpl_RL (s14_Os s hO) (rds_g14 hgf (i := (p : Int) / 27) (k := (p : Int) % 27) (by omega)) (s14_co s (by omega) hgt) hK (k := w (f + 2) p) (y := w (f + 3) p) (by omega) ih (v t 3).toNat (by rw [e3]; have := hgt.1; omega)
      exact q
theorem d_goOneHourP (xs : List Int32) (sh : List q_Sh) (v w : Nat → Int → Int) (R : Nat → Nat → Option Nat) (hD : LD sh R) (hO : dOs v) (f t : Nat) (hP : PL R f t) (hgf : gcf v f) (hgt : gco v t) (K M : Int) (hK : K + 10000000 ≤ 1000000000) (hM : 125 * M ≤ 8000000000000000000) (hM0 : 0 ≤ M) (hf : RL w (f + 2) (f + 3) 675 K M) (ht : RL w (t + 2) (t + 3) 675 (K + 10000000) (125 * M)) :
    ∃ v', s14 v v' ∧ ∀ Q : q_H → Prop, q_CallV (GG xs) PP kPlanner_goOneHour [.ref 1, .ref 32] (sh, zs v, zt w, R) Q = Q (sh, zs v', zt (gq v f t w (27 * v f 3).toNat), R) := by
  have hP2 := hP
  obtain ⟨p1, p2, p3⟩ := hP2
  obtain ⟨f1, f2, f3, f4, f5, f6, f7, f8⟩ := LD_FR hD (a := f) (by omega)
  have h25 := hgf.1
  have key : ∀ Q : q_H → Prop, (∀ v', s14 v v' → Q (sh, zs v', zt (gq v f t w (27 * v f 3).toNat), R)) → q_CallV (GG xs) PP kPlanner_goOneHour [.ref 1, .ref 32] (sh, zs v, zt w, R) Q := by
    intro Q hQ
    have L2 : ∀ i : Int, 0 ≤ i → i ≤ v f 3 → ∀ v', s14 v v' → q_Rt (GG xs) PP 99 (q_FV Q) 2 [some (.ref 1), some (.ref 32), some (.int (zi i)), none, none] [] (sh, zs v', zt (gq v f t w (27 * i).toNat), R) := by
      refine zdown _ ?_ (fun i h1 h2 ih => ?_)
      · intro v' s
        have e3 : v' f 3 = v f 3 := by rw [s f (by omega)]
        refine b_Planner_goOneHour_2 xs _ _ _ _ _ ?_
        simp (discharger := first | assumption | omega) [hD, fI, fL, fV, zs_ar, zt_ar, zs_un, zt_un, zn_c, zu_a, zu_e, zu_j, zix, zi_lit, zl_lit, zi_add, zi_sub, zi_mul, zi_neg, zi_le, zi_lt, zi_eq, zl_add, zl_sub, zl_mul, zi_i2l, zl_l2i, zb0, zb1, zb0', zb1', zi_c0, zi_c1, zb_c, p1, f1, e3, i_leT, i_leF, i_ltT, i_ltF, i_eqT, i_eqF]
        exact hQ v' s
      · have L1 : ∀ k : Int, 0 ≤ k → k ≤ 27 → ∀ v', s14 v v' → q_Rt (GG xs) PP 99 (q_FV Q) 15 [some (.ref 1), some (.ref 32), some (.int (zi i)), some (.int (zi k)), none] [] (sh, zs v', zt (gq v f t w (27 * i + k).toNat), R) := by
          refine zdown _ ?_ (fun k k1 k2 ihk => ?_)
          · intro v' s
            have K2 := ih v' s
            rw [show 27 * (i + 1) = 27 * i + 27 by omega] at K2
            refine b_Planner_goOneHour_15 xs _ _ _ _ _ _ ?_
            simp (discharger := first | assumption | omega) [fI, fL, fV, zs_ar, zt_ar, zs_un, zt_un, zn_c, zu_a, zu_e, zu_j, zix, zi_lit, zl_lit, zi_add, zi_sub, zi_mul, zi_neg, zi_le, zi_lt, zi_eq, zl_add, zl_sub, zl_mul, zi_i2l, zl_l2i, zb0, zb1, zb0', zb1', zi_c0, zi_c1, zb_c, i_leT, i_leF, i_ltT, i_ltF, i_eqT, i_eqF]
            exact K2
          · intro v' s
            rw [show 27 * i + (k + 1) = 27 * i + k + 1 by omega] at ihk
            have c1 := Int.mul_comm i 27
            have e1 : (27 * i + k + 1).toNat = (27 * i + k).toNat + 1 := by omega
            have e2 : (((27 * i + k).toNat : Nat) : Int) = 27 * i + k := by omega
            have d1 : (27 * i + k) / 27 = i := by omega
            have d2 : (27 * i + k) % 27 = k := by omega
            rw [e1] at ihk
            unfold gq at ihk
            rw [e2, d1, d2] at ihk
            have rw1 : gq v f t w (27 * i + k).toNat (f + 3) = w (f + 3) := gq_row (by omega) (by omega) _
            have rw2 : gq v f t w (27 * i + k).toNat (f + 2) = w (f + 2) := gq_row (by omega) (by omega) _
            have rf := hf (27 * i + k) (by omega) (by omega)
            have r := gq_RL hO p3 hgf hgt hK hf ht (27 * i + k).toNat (by omega)
            have s1 := d_isReached xs sh v' (gq v f t w (27 * i + k).toNat) R (f + 1) (f + 2) (f + 3) 675 f5 (27 * i + k) (by omega) (by rw [rw1]; unfold okL; omega)
            rw [rw1] at s1
            refine b_Planner_goOneHour_15 xs _ _ _ _ _ _ ?_
            by_cases q : w (f + 3) (27 * i + k) = -1
            · simp only [if_pos q] at ihk
              have K2 := ihk v' s
              simp (discharger := first | assumption | omega) [hD, fI, fL, fV, zs_ar, zt_ar, zs_un, zt_un, zn_c, zu_a, zu_e, zu_j, zix, zi_lit, zl_lit, zi_add, zi_sub, zi_mul, zi_neg, zi_le, zi_lt, zi_eq, zl_add, zl_sub, zl_mul, zi_i2l, zl_l2i, zb0, zb1, zb0', zb1', zi_c0, zi_c1, zb_c, p1, f1, f2, f5.1, s1, q, c1, i_leT, i_leF, i_ltT, i_ltF, i_eqT, i_eqF]
              exact K2
            · simp only [if_neg q] at ihk
              have s2 := d_readStates xs sh v' (gq v f t w (27 * i + k).toNat) R hD f t hP i k (by omega) (by omega)
              have z14 : s14 v (rds v' f i k) := fun b hb => (rds_row hb).trans (s b hb)
              have z3 : rds v' f i k t 3 = v t 3 := by rw [z14 t (by omega)]
              have s3 := d_goOnFromP xs sh (rds v' f i k) (gq v f t w (27 * i + k).toNat) R hD (s14_Os z14 hO) f t hP (rds_g14 (s14_cf s (by omega) hgf) (by rw [s f (by omega)]; omega)) (s14_co z14 (by omega) hgt) (27 * i + k) (by omega) K M hK hM (by rw [rw1, rw2]; omega) r
              rw [rw1, rw2, z3, e14_gpl (rds_e14 s (by omega) i k) (by omega)] at s3
              have K2 := ihk (rds v' f i k) z14
              simp (discharger := first | assumption | omega) [hD, fI, fL, fV, zs_ar, zt_ar, zs_un, zt_un, zn_c, zu_a, zu_e, zu_j, zix, zi_lit, zl_lit, zi_add, zi_sub, zi_mul, zi_neg, zi_le, zi_lt, zi_eq, zl_add, zl_sub, zl_mul, zi_i2l, zl_l2i, zb0, zb1, zb0', zb1', zi_c0, zi_c1, zb_c, p1, f1, f2, f5.1, s1, s2, s3, q, c1, i_leT, i_leF, i_ltT, i_ltF, i_eqT, i_eqF]
              exact K2
        intro v' s
        have e3 : v' f 3 = v f 3 := by rw [s f (by omega)]
        have K1 := L1 0 (by omega) (by omega) v' s
        rw [Int.add_zero] at K1
        refine b_Planner_goOneHour_2 xs _ _ _ _ _ ?_
        simp (discharger := first | assumption | omega) [hD, fI, fL, fV, zs_ar, zt_ar, zs_un, zt_un, zn_c, zu_a, zu_e, zu_j, zix, zi_lit, zl_lit, zi_add, zi_sub, zi_mul, zi_neg, zi_le, zi_lt, zi_eq, zl_add, zl_sub, zl_mul, zi_i2l, zl_l2i, zb0, zb1, zb0', zb1', zi_c0, zi_c1, zb_c, p1, f1, e3, i_leT, i_leF, i_ltT, i_ltF, i_eqT, i_eqF]
        exact K1
    refine e_Planner_goOneHour xs _ _ _ (sh, zs v, zt w, R) ?_
    simp (discharger := first | assumption | omega) [fI, fL, fV, zs_ar, zt_ar, zs_un, zt_un, zn_c, zu_a, zu_e, zu_j, zix, zi_lit, zl_lit, zi_add, zi_sub, zi_mul, zi_neg, zi_le, zi_lt, zi_eq, zl_add, zl_sub, zl_mul, zi_i2l, zl_l2i, zb0, zb1, zb0', zb1', zi_c0, zi_c1, zb_c]
    exact L2 0 (by omega) (by omega) v (fun _ _ => rfl)
  obtain ⟨H0, ⟨v', h1, e⟩, h2⟩ := cVx (key (fun H' => ∃ v', s14 v v' ∧ H' = (sh, zs v', zt (gq v f t w (27 * v f 3).toNat), R)) (fun v' s => ⟨v', s, rfl⟩))
  exact ⟨v', h1, fun Q => by rw [h2, e]⟩
