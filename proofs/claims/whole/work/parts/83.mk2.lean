/-! The market: a set's plan alone laid down. -/
theorem dp_num_take (C : Nat) (cs : List Nat) (k : Nat) (h : k < cs.length) : dp_num C (cs.take (k + 1)) = dp_num C (cs.take k) * C + cs.getD k 0 := by
  rw [List.take_succ_eq_append_getElem h, dp_num_snoc, List.getD_eq_getElem?_getD, List.getElem?_eq_getElem h]
  rfl
theorem dp_dig_take {C : Nat} {cs : List Nat} (h : dp_dig C cs) (k : Nat) : dp_dig C (cs.take k) := fun c hc => h c (List.mem_of_mem_take hc)
theorem dp_dig_at {C : Nat} {cs : List Nat} (h : dp_dig C cs) {k : Nat} (hk : k < cs.length) : cs.getD k 0 < C := by
  rw [List.getD_eq_getElem?_getD, List.getElem?_eq_getElem hk]
  exact h _ (List.getElem_mem hk)
theorem dp_num5 {cs : List Nat} (h : dp_dig 5 cs) (hl : cs.length ≤ 8) : dp_num 5 cs < 390625 := by
  have h1 := dp_num_lt 5 cs h
  have h2 : 5 ^ cs.length ≤ 5 ^ 8 := Nat.pow_le_pow_right (by decide) hl
  have h3 : (5 : Nat) ^ 8 = 390625 := by decide
  omega
/-- a way's outputs laid down, from hour k on -/
def wlo (v : Nat → Int → Int) (a : Nat) (u n : Int) (cs : List Nat) (k : Int) : Nat → Int → Int := fun b j => if b = 18 ∧ 8 * u + k ≤ j ∧ j < 8 * u + n then zout (v a 0) (cs.getD (j - 8 * u).toNat 0) else v b j
theorem wlo_row {v : Nat → Int → Int} {a b : Nat} {u n k : Int} {cs : List Nat} (h : b ≠ 18) : wlo v a u n cs k b = v b := by
  funext j
  unfold wlo
  rw [if_neg (fun q => h q.1)]
theorem wlo_n {v : Nat → Int → Int} {a : Nat} {u n : Int} {cs : List Nat} : wlo v a u n cs n = v := by
  funext b j
  unfold wlo
  rw [if_neg (by omega)]
theorem wlo_s {v : Nat → Int → Int} {a : Nat} {u n k : Int} {cs : List Nat} (h1 : 0 ≤ k) (h2 : k < n) : zu (wlo v a u n cs (k + 1)) 18 (8 * u + k) (zout (v a 0) (cs.getD k.toNat 0)) = wlo v a u n cs k := by
  funext b j
  unfold zu wlo
  by_cases q : b = 18 ∧ j = 8 * u + k
  · rw [if_pos q, if_pos (by omega), show j - 8 * u = k by omega]
  · rw [if_neg q]
    by_cases q2 : b = 18 ∧ 8 * u + (k + 1) ≤ j ∧ j < 8 * u + n
    · rw [if_pos q2, if_pos (by omega)]
    · rw [if_neg q2, if_neg (by omega)]
theorem d_writeLone (xs : List Int32) (sh : List q_Sh) (v w : Nat → Int → Int) (R : Nat → Nat → Option Nat) (hD : LD sh R) (a : Nat) (ha : a ≠ 18) (hL : LU sh R a) (u n : Int) (hu : 0 ≤ u ∧ u < 3) (hn : 0 ≤ n ∧ n ≤ 8) (cs : List Nat) (hl : (cs.length : Int) = n) (hd : dp_dig 5 cs) (Q : q_H → Prop) : q_CallV (GG xs) PP kMarket_writeLone [.ref 15, .ref a, .int (zi u), .int (zi n), .long (zl (dp_num 5 cs))] (sh, zs v, zt w, R) Q = Q (sh, zs (wlo v a u n cs 0), zt w, R) := cV (fun Q hQ => by
  have L : ∀ k : Int, 0 ≤ k → k ≤ n → q_Rt (GG xs) PP 96 (q_FV Q) 9 [some (.ref 15), some (.ref a), some (.int (zi u)), none, none, none, some (.long (zl (dp_num 5 (cs.take k.toNat)))), none, some (.int (zi (k - 1)))] [] (sh, zs (wlo v a u n cs k), zt w, R) := by
    refine zup _ ?_ (fun k h1 h2 ih => ?_)
    · refine b_Market_writeLone_9 xs _ _ _ _ _ _ _ ?_
      simp (discharger := first | assumption | omega) [fI, fL, fV, zs_ar, zt_ar, zs_un, zt_un, zn_c, zu_a, zu_e, zu_j, zix, zi_lit, zl_lit, zi_add, zi_sub, zi_mul, zi_neg, zi_le, zi_lt, zi_eq, zl_add, zl_sub, zl_mul, zi_i2l, zl_l2i, zb0, zb1, zb0', zb1', zi_c0, zi_c1, zb_c, i_leT, i_leF, i_ltT, i_ltF, i_eqT, i_eqF]
      exact hQ
    · rw [show (k + 1).toNat = k.toNat + 1 by omega, dp_num_take 5 cs k.toNat (by omega), show k + 1 - 1 = k by omega]
      have b1 := dp_num5 (dp_dig_take hd k.toNat) (by rw [List.length_take]; omega)
      have b2 := dp_dig_at hd (k := k.toNat) (by omega)
      have s1 := d_outputOf xs sh (wlo v a u n cs (k + 1)) w R a hL (cs.getD k.toNat 0 : Nat) (by omega)
      rw [wlo_row ha] at s1
      have s2 := wlo_s (v := v) (a := a) (u := u) (n := n) (k := k) (cs := cs) h1 h2
      generalize dp_num 5 (cs.take k.toNat) = N at *
      generalize cs.getD k.toNat 0 = d at *
      have e1 : ((N * 5 + d : Nat) : Int) / 5 = N := by omega
      have e2 : ((N * 5 + d : Nat) : Int) - ((N * 5 + d : Nat) : Int) / 5 * 5 = d := by omega
      have e3 : 0 ≤ ((N * 5 + d : Nat) : Int) ∧ ((N * 5 + d : Nat) : Int) < 10000000 := by omega
      generalize ((N * 5 + d : Nat) : Int) = x at *
      have e4 : zl x / zl 5 = zl N := by rw [zl_div (by omega) (by omega) (by omega) (by omega), e1]
      have e5 : zl x - zl N * zl 5 = zl d := by rw [zl_mul, zl_sub, ← e1, e2]
      have e6 : k + -1 = k - 1 := by omega
      refine b_Market_writeLone_9 xs _ _ _ _ _ _ _ ?_
      simp only [zl_lit]
      simp only [show ((5 : Nat) : Int) = 5 from rfl, e4, e5]
      simp (discharger := first | assumption | omega) [hD, fI, fL, fV, zs_ar, zt_ar, zs_un, zt_un, zn_c, zu_a, zu_e, zu_j, zix, zi_lit, zl_lit, zi_add, zi_sub, zi_mul, zi_neg, zi_le, zi_lt, zi_eq, zl_add, zl_sub, zl_mul, zi_i2l, zl_l2i, zb0, zb1, zb0', zb1', zi_c0, zi_c1, zb_c, hL.1, d_cell, s1, s2, e6, zl_eq, i_leT, i_leF, i_ltT, i_ltF, i_eqT, i_eqF]
      exact ih
  have K := L n hn.1 (Int.le_refl _)
  rw [wlo_n, List.take_of_length_le (by omega)] at K
  refine e_Market_writeLone xs _ _ _ _ _ _ (sh, zs v, zt w, R) ?_
  simp (discharger := first | assumption | omega) [fI, fL, fV, zs_ar, zt_ar, zs_un, zt_un, zn_c, zu_a, zu_e, zu_j, zix, zi_lit, zl_lit, zi_add, zi_sub, zi_mul, zi_neg, zi_le, zi_lt, zi_eq, zl_add, zl_sub, zl_mul, zi_i2l, zl_l2i, zb0, zb1, zb0', zb1', zi_c0, zi_c1, zb_c]
  exact K) Q
/-- the two layers changed over -/
def swp (R : Nat → Nat → Option Nat) (f t : Nat) : Nat → Nat → Option Nat := q_up (q_up R 15 3 (some t)) 15 4 (some f)
theorem swp_at {R : Nat → Nat → Option Nat} {f t b j : Nat} (h : ¬ (b = 15 ∧ (j = 3 ∨ j = 4))) : swp R f t b j = R b j := by
  unfold swp q_up
  rw [if_neg (by omega), if_neg (by omega)]
theorem swp_LD {sh : List q_Sh} {R : Nat → Nat → Option Nat} {f t : Nat} (h : LD sh R) : LD sh (swp R f t) := by
  simpa [LD, swp, q_up] using h
theorem swp_LU {sh : List q_Sh} {R : Nat → Nat → Option Nat} {f t a : Nat} (h : LU sh R a) : LU sh (swp R f t) a := by
  unfold LU at h ⊢
  rw [swp_at (by omega), swp_at (by omega), swp_at (by omega)]
  exact h
theorem swp_LY {sh : List q_Sh} {R : Nat → Nat → Option Nat} {f t a cc wc n : Nat} (h : LY sh R a cc wc n) : LY sh (swp R f t) a cc wc n := by
  unfold LY at h ⊢
  rw [swp_at (by omega), swp_at (by omega)]
  exact h
theorem swp_MK {sh : List q_Sh} {R : Nat → Nat → Option Nat} {f cc wc t cd wd : Nat} (h : MK sh R f cc wc t cd wd) : MK sh (swp R f t) t cd wd f cc wc := by
  obtain ⟨m1, m2, m3, m4, ⟨d1, d2, d3, d4⟩, b1, b2, b3, b4⟩ := h
  refine ⟨?_, ?_, swp_LY m4, swp_LY m3, ⟨d1.symm, d3.symm, d2.symm, d4.symm⟩, b3, b4, b1, b2⟩
  · simp [swp, q_up]
  · simp [swp, q_up]
/-- layers in the room -/
def RL0 (w : Nat → Int → Int) (cc wc n : Nat) : Prop := RL w cc wc n 1000000000 8000000000000000000
/-- what changes in a search alone -/
def sW (w w' : Nat → Int → Int) : Prop := ∀ b, b < 20 ∨ 24 < b → w' b = w b
def sR15 (R R' : Nat → Nat → Option Nat) : Prop := ∀ b j, ¬ (b = 15 ∧ (j = 3 ∨ j = 4)) → R' b j = R b j
theorem p5_s (h : Nat) : (5 : Int) ^ (h + 1) = 5 * 5 ^ h := by rw [Int.pow_succ, Int.mul_comm]
theorem p5_le {h : Nat} (hh : h ≤ 8) : (0 : Int) < 5 ^ h ∧ (5 : Int) ^ h ≤ 390625 := by
  refine ⟨Int.pow_pos (by decide), ?_⟩
  obtain rfl | rfl | rfl | rfl | rfl | rfl | rfl | rfl | rfl : h = 0 ∨ h = 1 ∨ h = 2 ∨ h = 3 ∨ h = 4 ∨ h = 5 ∨ h = 6 ∨ h = 7 ∨ h = 8 := by omega
  all_goals decide
def dPr (v : Nat → Int → Int) : Prop := ∀ h, 0 ≤ h → h < 8 → -100000 ≤ v 16 h ∧ v 16 h ≤ 100000
theorem l_pa23 (xs : List Int32) (sh : List q_Sh) (v w0 : Nat → Int → Int) (R0 : Nat → Nat → Option Nat) (a : Nat) (hO : dO v a) (hP : dPr v) (u n : Int) (hn : 1 ≤ n ∧ n ≤ 8) (s0 : Nat) (F : Option Value → q_H → Prop)
    (hE : ∀ (w : Nat → Int → Int) (R : Nat → Nat → Option Nat) (f cc wc t cd wd : Nat), LD sh R → LU sh R a → MK sh R f cc wc t cd wd → RL w cc wc 15 (10000000 * n) (5 ^ n.toNat) → RL0 w cd wd 15 → dp_layer (dpT v a) 5 0 s0 n.toNat (LO w cc wc 15) → sW w0 w → sR15 R0 R → q_Rt (GG xs) PP 93 F 23 [some (.ref 15), some (.ref a), some (.int (zi u)), some (.int (zi n)), some (.int (zi n)), none] [] (sh, zs v, zt w, R)) :
    ∀ h : Int, 0 ≤ h → h ≤ n → ∀ (w : Nat → Int → Int) (R : Nat → Nat → Option Nat) (f cc wc t cd wd : Nat), LD sh R → LU sh R a → MK sh R f cc wc t cd wd → RL w cc wc 15 (10000000 * h) (5 ^ h.toNat) → RL0 w cd wd 15 → dp_layer (dpT v a) 5 0 s0 h.toNat (LO w cc wc 15) → sW w0 w → sR15 R0 R → q_Rt (GG xs) PP 93 F 23 [some (.ref 15), some (.ref a), some (.int (zi u)), some (.int (zi n)), some (.int (zi h)), none] [] (sh, zs v, zt w, R) := by
  refine zdown _ hE (fun h h1 h2 ih => ?_)
  intro w R f cc wc t cd wd hD hL hK hf ht hl hw hr
  have hK2 := hK
  obtain ⟨m1, m2, m3, m4, ⟨d1, d2, d3, d4⟩, b1, b2, b3, b4⟩ := hK2
  have hne : cd ≠ wd := m4.2.2.2.2.2.2
  have hp := hP h h1 (by omega)
  have p5 := p5_le (h := h.toNat) (by omega)
  have f1 : RL (zfl w wd 15 (-1)) cc wc 15 (10000000 * h) (5 ^ h.toNat) := RL_fr hf (zfl_row d3.symm) (zfl_row d4.symm)
  have t1 : RL (zfl w wd 15 (-1)) cd wd 15 (10000000 * h + 10000000) (5 * 5 ^ h.toNat) := RL_clr (n := 15) ht hne
  have s1 := d_clear xs sh v w R t cd wd 15 m4
  have s2 := d_goh xs sh v (zfl w wd 15 (-1)) R hD a f cc wc t cd wd hL hO hK (v 16 h) hp (10000000 * h) (5 ^ h.toNat) (by omega) (by omega) (by omega) f1 t1
  have rr := goh_RL (v := v) (a := a) (pr := v 16 h) hO hp hne d1 d2 d3 d4 (by omega) f1 t1 15 (Nat.le_refl _)
  have hh := goh_held (v := v) (a := a) (pr := v 16 h) (h := h.toNat) hO (by rw [show ((h.toNat : Nat) : Int) = h by omega]) hp hne d1 d2 d3 d4 (by omega) f1 t1 Held_clear 15 (Nat.le_refl _)
  have e0 : LO (zfl w wd 15 (-1)) cc wc 15 = LO w cc wc 15 := LO_rows (zfl_row d3.symm) (zfl_row d4.symm)
  rw [e0] at hh
  have hl2 := offs_next (N := 15) hl (fun s hs => by unfold LO; rw [if_neg (by omega)]) (by rw [Nat.zero_add]; exact hh)
  have k := ih (goh v a (v 16 h) cc wc cd wd (zfl w wd 15 (-1)) 15) (swp R f t) t cd wd f cc wc (swp_LD hD) (swp_LU hL) (swp_MK hK) (by
      rw [show (h + 1).toNat = h.toNat + 1 by omega, p5_s, show 10000000 * (h + 1) = 10000000 * h + 10000000 by omega]
      exact rr) (by
      refine RL_mono (RL_fr f1 (goh_row d1.symm d3.symm _) (goh_row d2.symm d4.symm _)) (by omega) (by omega)) (by
      rw [show (h + 1).toNat = h.toNat + 1 by omega]
      exact hl2) (fun b hb => by
      rw [goh_row (by omega) (by omega), zfl_row (by omega)]
      exact hw b hb) (fun b j hbj => by
      rw [swp_at hbj]
      exact hr b j hbj)
  refine b_Market_planAlone_23 xs F _ _ _ _ _ (sh, zs v, zt w, R) ?_
  unfold swp at k
  simp (discharger := first | assumption | omega) [hD, fI, fL, fV, zs_ar, zt_ar, zs_un, zt_un, zn_c, zu_a, zu_e, zu_j, zix, zi_lit, zl_lit, zi_add, zi_sub, zi_mul, zi_neg, zi_le, zi_lt, zi_eq, zl_add, zl_sub, zl_mul, zi_i2l, zl_l2i, zb0, zb1, zb0', zb1', zi_c0, zi_c1, zb_c, m1, m2, m4.1, s1, s2, i_leT, i_leF, i_ltT, i_ltF, i_eqT, i_eqF]
  exact k
