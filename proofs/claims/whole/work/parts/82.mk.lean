/-! The market's search: a set alone. -/
def cstp (v : Nat → Int → Int) (a : Nat) (s c : Int) : Int := v (a + 1) c + (if s < 3 ∧ c ≠ 0 then v (a + 2) s else 0)
/-- what the search needs of a set: its next states are states, its costs in their bounds -/
def dO (v : Nat → Int → Int) (a : Nat) : Prop := (∀ s c, 0 ≤ s → s < 15 → 0 ≤ c → c < 5 → -1 ≤ v (a + 3) (s * 5 + c) ∧ v (a + 3) (s * 5 + c) < 15) ∧ (∀ c, 0 ≤ c → c < 5 → 0 ≤ v (a + 1) c ∧ v (a + 1) c ≤ 40000) ∧ (∀ s, 0 ≤ s → s < 3 → 0 ≤ v (a + 2) s ∧ v (a + 2) s ≤ 10000) ∧ (1 ≤ v a 0 ∧ v a 0 ≤ 60)
theorem cstp_rng {v : Nat → Int → Int} {a : Nat} (h : dO v a) {s c : Int} (hs : 0 ≤ s) (hc : 0 ≤ c ∧ c < 5) : 0 ≤ cstp v a s c ∧ cstp v a s c ≤ 50000 := by
  have h1 := h.2.1 c hc.1 hc.2
  unfold cstp
  split
  · rename_i q
    have h2 := h.2.2.1 s hs q.1
    omega
  · omega
theorem zout_rng {lo c : Int} (h : 1 ≤ lo ∧ lo ≤ 60) (hc : 0 ≤ c ∧ c < 5) : 0 ≤ zout lo c ∧ zout lo c ≤ 63 := by
  unfold zout
  split <;> omega
theorem gain_rng {p o : Int} (hp : -100000 ≤ p ∧ p ≤ 100000) (ho : 0 ≤ o ∧ o ≤ 63) : -6300000 ≤ p * o ∧ p * o ≤ 6300000 := by
  have h1 : p * o ≤ 100000 * o := Int.mul_le_mul_of_nonneg_right hp.2 ho.1
  have h2 : -100000 * o ≤ p * o := Int.mul_le_mul_of_nonneg_right hp.1 ho.1
  omega
/-- what a step costs, less its gain -/
def lcs (v : Nat → Int → Int) (a : Nat) (pr s c : Int) : Int := cstp v a s c - pr * zout (v a 0) c
theorem lcs_rng {v : Nat → Int → Int} {a : Nat} (h : dO v a) {pr s c : Int} (hp : -100000 ≤ pr ∧ pr ≤ 100000) (hs : 0 ≤ s) (hc : 0 ≤ c ∧ c < 5) : -10000000 ≤ lcs v a pr s c ∧ lcs v a pr s c ≤ 10000000 := by
  have h1 := cstp_rng h hs hc
  have h2 := gain_rng hp (zout_rng h.2.2.2 hc)
  unfold lcs
  omega
def gof (v : Nat → Int → Int) (a : Nat) (pr s : Int) (cc wc cd wd : Nat) (w : Nat → Int → Int) : Nat → Nat → Int → Int
  | 0 => w
  | c + 1 => if v (a + 3) (s * 5 + c) = -1 then gof v a pr s cc wc cd wd w c else ofr (gof v a pr s cc wc cd wd w c) cd wd (v (a + 3) (s * 5 + c)) (w cc s + lcs v a pr s c) (w wc s * 5 + c)
theorem gof_row {v : Nat → Int → Int} {a : Nat} {pr s : Int} {cc wc cd wd : Nat} {w : Nat → Int → Int} {b : Nat} (h1 : b ≠ cd) (h2 : b ≠ wd) : ∀ c, gof v a pr s cc wc cd wd w c b = w b
  | 0 => rfl
  | c + 1 => by
    unfold gof
    split
    · exact gof_row h1 h2 c
    · rw [ofr_row h1 h2]
      exact gof_row h1 h2 c
theorem gof_RL {v : Nat → Int → Int} {a : Nat} (hO : dO v a) {pr s : Int} (hp : -100000 ≤ pr ∧ pr ≤ 100000) (hs : 0 ≤ s ∧ s < 15) {cc wc cd wd : Nat} {w : Nat → Int → Int} {K M : Int} (hne : cd ≠ wd) (hK : K + 10000000 ≤ 1000000000) (hf : 0 ≤ w wc s ∧ w wc s < M ∧ -K ≤ w cc s ∧ w cc s ≤ K) (ht : RL w cd wd 15 (K + 10000000) (5 * M)) : ∀ c : Nat, c ≤ 5 → RL (gof v a pr s cc wc cd wd w c) cd wd 15 (K + 10000000) (5 * M)
  | 0, _ => ht
  | c + 1, hc => by
    have ih := gof_RL hO hp hs hne hK hf ht c (by omega)
    have l := lcs_rng hO (pr := pr) (s := s) (c := c) hp hs.1 (by omega)
    unfold gof
    split
    · exact ih
    · exact RL_ofr ih hne (by omega) (by omega) hK
/-- the market's two layers -/
def MK (sh : List q_Sh) (R : Nat → Nat → Option Nat) (f cc wc t cd wd : Nat) : Prop := R 15 3 = some f ∧ R 15 4 = some t ∧ LY sh R f cc wc 15 ∧ LY sh R t cd wd 15 ∧ (cd ≠ cc ∧ cd ≠ wc ∧ wd ≠ cc ∧ wd ≠ wc) ∧ (20 ≤ cc ∧ cc ≤ 24) ∧ (20 ≤ wc ∧ wc ≤ 24) ∧ (20 ≤ cd ∧ cd ≤ 24) ∧ (20 ≤ wd ∧ wd ≤ 24)
theorem d_gof (xs : List Int32) (sh : List q_Sh) (v w : Nat → Int → Int) (R : Nat → Nat → Option Nat) (hD : LD sh R) (a f cc wc t cd wd : Nat) (hL : LU sh R a) (hO : dO v a) (hK' : MK sh R f cc wc t cd wd) (pr s : Int) (hp : -100000 ≤ pr ∧ pr ≤ 100000) (hs : 0 ≤ s ∧ s < 15) (K M : Int) (hK : K + 10000000 ≤ 1000000000) (hM : 5 * M ≤ 8000000000000000000) (hf : 0 ≤ w wc s ∧ w wc s < M ∧ -K ≤ w cc s ∧ w cc s ≤ K) (ht : RL w cd wd 15 (K + 10000000) (5 * M)) (Q : q_H → Prop) : q_CallV (GG xs) PP kMarket_goOnFrom [.ref 15, .ref a, .int (zi pr), .int (zi s)] (sh, zs v, zt w, R) Q = Q (sh, zs v, zt (gof v a pr s cc wc cd wd w 5), R) := cV (fun Q hQ => by
  obtain ⟨m1, m2, m3, m4, ⟨d1, d2, d3, d4⟩, -⟩ := hK'
  have hne : cd ≠ wd := m4.2.2.2.2.2.2
  have L : ∀ c : Int, 0 ≤ c → c ≤ 5 → q_Rt (GG xs) PP 95 (q_FV Q) 3 [some (.ref 15), some (.ref a), some (.int (zi pr)), some (.int (zi s)), some (.int (zi c)), none, none, none, none, none] [] (sh, zs v, zt (gof v a pr s cc wc cd wd w c.toNat), R) := by
    refine zdown _ ?_ (fun c h1 h2 ih => ?_)
    · refine b_Market_goOnFrom_3 xs _ _ _ _ _ _ _ ?_
      simp (discharger := first | assumption | omega) [fI, fL, fV, zs_ar, zt_ar, zs_un, zt_un, zn_c, zu_a, zu_e, zu_j, zix, zi_lit, zl_lit, zi_add, zi_sub, zi_mul, zi_neg, zi_le, zi_lt, zi_eq, zl_add, zl_sub, zl_mul, zi_i2l, zl_l2i, zb0, zb1, zb0', zb1', zi_c0, zi_c1, zb_c, i_leT, i_leF, i_ltT, i_ltF, i_eqT, i_eqF]
      simpa using hQ
    · rw [show (c + 1).toNat = c.toNat + 1 by omega] at ih
      unfold gof at ih
      rw [show ((c.toNat : Nat) : Int) = c by omega] at ih
      have e1 : gof v a pr s cc wc cd wd w c.toNat cc = w cc := gof_row d1.symm d3.symm _
      have e2 : gof v a pr s cc wc cd wd w c.toNat wc = w wc := gof_row d2.symm d4.symm _
      have r := gof_RL hO hp hs hne hK hf ht c.toNat (by omega)
      have nx := hO.1 s c hs.1 hs.2 h1 h2
      have z1 := cstp_rng hO (s := s) (c := c) hs.1 ⟨h1, h2⟩
      have z2 := zout_rng (c := c) hO.2.2.2 ⟨h1, h2⟩
      have z3 := lcs_rng hO (pr := pr) (s := s) (c := c) hp hs.1 ⟨h1, h2⟩
      have s1 := d_nextState xs sh v (gof v a pr s cc wc cd wd w c.toNat) R a hL s c hs ⟨h1, h2⟩
      have s2 := d_outputOf xs sh v (gof v a pr s cc wc cd wd w c.toNat) R a hL c ⟨h1, h2⟩
      have s3 := d_costOfStep xs sh v (gof v a pr s cc wc cd wd w c.toNat) R a hL s c hs ⟨h1, h2⟩
      rw [show v (a + 1) c + (if s < 3 ∧ c ≠ 0 then v (a + 2) s else 0) = cstp v a s c from rfl] at s3
      refine b_Market_goOnFrom_3 xs _ _ _ _ _ _ _ ?_
      by_cases q : v (a + 3) (s * 5 + c) = -1
      · rw [if_pos q] at ih
        simp (discharger := first | assumption | omega) [hD, fI, fL, fV, zs_ar, zt_ar, zs_un, zt_un, zn_c, zu_a, zu_e, zu_j, zix, zi_lit, zl_lit, zi_add, zi_sub, zi_mul, zi_neg, zi_le, zi_lt, zi_eq, zl_add, zl_sub, zl_mul, zi_i2l, zl_l2i, zb0, zb1, zb0', zb1', zi_c0, zi_c1, zb_c, hL.1, s1, q, i_leT, i_leF, i_ltT, i_ltF, i_eqT, i_eqF]
        exact ih
      · rw [if_neg q] at ih
        have s4 := d_offer xs sh v (gof v a pr s cc wc cd wd w c.toNat) R t cd wd 15 m4 (v (a + 3) (s * 5 + c)) (w cc s + lcs v a pr s c) (w wc s * 5 + c) (by omega) (RL_okw r hM (by omega)) (RL_okc r (by omega)) (by unfold okL; omega) (by unfold okL; omega)
        rw [show w cc s + lcs v a pr s c = w cc s + cstp v a s c - pr * zout (v a 0) c by unfold lcs; omega] at s4 ih
        simp (discharger := first | assumption | omega) [hD, fI, fL, fV, zs_ar, zt_ar, zs_un, zt_un, zn_c, zu_a, zu_e, zu_j, zix, zi_lit, zl_lit, zi_add, zi_sub, zi_mul, zi_neg, zi_le, zi_lt, zi_eq, zl_add, zl_sub, zl_mul, zi_i2l, zl_l2i, zb0, zb1, zb0', zb1', zi_c0, zi_c1, zb_c, hL.1, s1, s2, s3, s4, e1, e2, m1, m2, m3.1, m3.2.1, m3.2.2.1, m3.2.2.2.1, m3.2.2.2.2.1, m4.1, q, i_leT, i_leF, i_ltT, i_ltF, i_eqT, i_eqF]
        exact ih
  have K0 := L 0 (by omega) (by omega)
  refine e_Market_goOnFrom xs _ _ _ _ _ (sh, zs v, zt w, R) ?_
  simp (discharger := first | assumption | omega) [fI, fL, fV, zs_ar, zt_ar, zs_un, zt_un, zn_c, zu_a, zu_e, zu_j, zix, zi_lit, zl_lit, zi_add, zi_sub, zi_mul, zi_neg, zi_le, zi_lt, zi_eq, zl_add, zl_sub, zl_mul, zi_i2l, zl_l2i, zb0, zb1, zb0', zb1', zi_c0, zi_c1, zb_c]
  exact K0) Q
def goh (v : Nat → Int → Int) (a : Nat) (pr : Int) (cc wc cd wd : Nat) (w : Nat → Int → Int) : Nat → Nat → Int → Int
  | 0 => w
  | s + 1 => if w wc s = -1 then goh v a pr cc wc cd wd w s else gof v a pr s cc wc cd wd (goh v a pr cc wc cd wd w s) 5
theorem goh_row {v : Nat → Int → Int} {a : Nat} {pr : Int} {cc wc cd wd : Nat} {w : Nat → Int → Int} {b : Nat} (h1 : b ≠ cd) (h2 : b ≠ wd) : ∀ s, goh v a pr cc wc cd wd w s b = w b
  | 0 => rfl
  | s + 1 => by
    unfold goh
    split
    · exact goh_row h1 h2 s
    · rw [gof_row h1 h2]
      exact goh_row h1 h2 s
theorem goh_RL {v : Nat → Int → Int} {a : Nat} (hO : dO v a) {pr : Int} (hp : -100000 ≤ pr ∧ pr ≤ 100000) {cc wc cd wd : Nat} {w : Nat → Int → Int} {K M : Int} (hne : cd ≠ wd) (d1 : cd ≠ cc) (d2 : cd ≠ wc) (d3 : wd ≠ cc) (d4 : wd ≠ wc) (hK : K + 10000000 ≤ 1000000000) (hf : RL w cc wc 15 K M) (ht : RL w cd wd 15 (K + 10000000) (5 * M)) : ∀ s : Nat, s ≤ 15 → RL (goh v a pr cc wc cd wd w s) cd wd 15 (K + 10000000) (5 * M)
  | 0, _ => ht
  | s + 1, hs => by
    have ih := goh_RL hO hp hne d1 d2 d3 d4 hK hf ht s (by omega)
    have r := hf s (by omega) (by omega)
    unfold goh
    split
    · exact ih
    · refine gof_RL hO hp (by omega) hne hK ?_ ih 5 (by omega)
      rw [goh_row d2.symm d4.symm, goh_row d1.symm d3.symm]
      omega
theorem d_goh (xs : List Int32) (sh : List q_Sh) (v w : Nat → Int → Int) (R : Nat → Nat → Option Nat) (hD : LD sh R) (a f cc wc t cd wd : Nat) (hL : LU sh R a) (hO : dO v a) (hK' : MK sh R f cc wc t cd wd) (pr : Int) (hp : -100000 ≤ pr ∧ pr ≤ 100000) (K M : Int) (hK : K + 10000000 ≤ 1000000000) (hM : 5 * M ≤ 8000000000000000000) (hM0 : 0 ≤ M) (hf : RL w cc wc 15 K M) (ht : RL w cd wd 15 (K + 10000000) (5 * M)) (Q : q_H → Prop) : q_CallV (GG xs) PP kMarket_goOneHour [.ref 15, .ref a, .int (zi pr)] (sh, zs v, zt w, R) Q = Q (sh, zs v, zt (goh v a pr cc wc cd wd w 15), R) := cV (fun Q hQ => by
  have hK2 := hK'
  obtain ⟨m1, m2, m3, m4, ⟨d1, d2, d3, d4⟩, -⟩ := hK2
  have hne : cd ≠ wd := m4.2.2.2.2.2.2
  have L : ∀ s : Int, 0 ≤ s → s ≤ 15 → q_Rt (GG xs) PP 94 (q_FV Q) 2 [some (.ref 15), some (.ref a), some (.int (zi pr)), some (.int (zi s))] [] (sh, zs v, zt (goh v a pr cc wc cd wd w s.toNat), R) := by
    refine zdown _ ?_ (fun s h1 h2 ih => ?_)
    · refine b_Market_goOneHour_2 xs _ _ _ _ _ _ ?_
      simp (discharger := first | assumption | omega) [fI, fL, fV, zs_ar, zt_ar, zs_un, zt_un, zn_c, zu_a, zu_e, zu_j, zix, zi_lit, zl_lit, zi_add, zi_sub, zi_mul, zi_neg, zi_le, zi_lt, zi_eq, zl_add, zl_sub, zl_mul, zi_i2l, zl_l2i, zb0, zb1, zb0', zb1', zi_c0, zi_c1, zb_c, i_leT, i_leF, i_ltT, i_ltF, i_eqT, i_eqF]
      simpa using hQ
    · rw [show (s + 1).toNat = s.toNat + 1 by omega] at ih
      unfold goh at ih
      rw [show ((s.toNat : Nat) : Int) = s by omega] at ih
      have e1 : goh v a pr cc wc cd wd w s.toNat cc = w cc := goh_row d1.symm d3.symm _
      have e2 : goh v a pr cc wc cd wd w s.toNat wc = w wc := goh_row d2.symm d4.symm _
      have r := goh_RL hO hp hne d1 d2 d3 d4 hK hf ht s.toNat (by omega)
      have rf := hf s h1 (by omega)
      have s1 := d_isReached xs sh v (goh v a pr cc wc cd wd w s.toNat) R f cc wc 15 m3 s (by omega) (by rw [e2]; unfold okL; omega)
      rw [e2] at s1
      refine b_Market_goOneHour_2 xs _ _ _ _ _ _ ?_
      by_cases q : w wc s = -1
      · rw [if_pos q] at ih
        simp (discharger := first | assumption | omega) [hD, fI, fL, fV, zs_ar, zt_ar, zs_un, zt_un, zn_c, zu_a, zu_e, zu_j, zix, zi_lit, zl_lit, zi_add, zi_sub, zi_mul, zi_neg, zi_le, zi_lt, zi_eq, zl_add, zl_sub, zl_mul, zi_i2l, zl_l2i, zb0, zb1, zb0', zb1', zi_c0, zi_c1, zb_c, m1, m3.1, s1, q, i_leT, i_leF, i_ltT, i_ltF, i_eqT, i_eqF]
        exact ih
      · rw [if_neg q] at ih
        have s2 := d_gof xs sh v (goh v a pr cc wc cd wd w s.toNat) R hD a f cc wc t cd wd hL hO hK' pr s hp ⟨h1, h2⟩ K M hK hM (by rw [e1, e2]; omega) r
        simp (discharger := first | assumption | omega) [hD, fI, fL, fV, zs_ar, zt_ar, zs_un, zt_un, zn_c, zu_a, zu_e, zu_j, zix, zi_lit, zl_lit, zi_add, zi_sub, zi_mul, zi_neg, zi_le, zi_lt, zi_eq, zl_add, zl_sub, zl_mul, zi_i2l, zl_l2i, zb0, zb1, zb0', zb1', zi_c0, zi_c1, zb_c, m1, m3.1, s1, s2, q, i_leT, i_leF, i_ltT, i_ltF, i_eqT, i_eqF]
        exact ih
  have K0 := L 0 (by omega) (by omega)
  refine e_Market_goOneHour xs _ _ _ _ (sh, zs v, zt w, R) ?_
  simp (discharger := first | assumption | omega) [fI, fL, fV, zs_ar, zt_ar, zs_un, zt_un, zn_c, zu_a, zu_e, zu_j, zix, zi_lit, zl_lit, zi_add, zi_sub, zi_mul, zi_neg, zi_le, zi_lt, zi_eq, zl_add, zl_sub, zl_mul, zi_i2l, zl_l2i, zb0, zb1, zb0', zb1', zi_c0, zi_c1, zb_c]
  exact K0) Q
/-- the set's system of steps -/
def dpT (v : Nat → Int → Int) (a : Nat) : dp_T := fun h s c => if s < 15 ∧ c < 5 ∧ v (a + 3) ((s : Int) * 5 + c) ≠ -1 then some ((v (a + 3) ((s : Int) * 5 + c)).toNat, lcs v a (v 16 h) s c) else none
theorem dpT_some {v : Nat → Int → Int} {a : Nat} (hO : dO v a) {h s c s1 : Nat} {j : Int} (hs : s < 15) (hc : c < 5) : dpT v a h s c = some (s1, j) ↔ v (a + 3) ((s : Int) * 5 + c) ≠ -1 ∧ v (a + 3) ((s : Int) * 5 + c) = s1 ∧ lcs v a (v 16 h) s c = j := by
  have n := hO.1 s c (by omega) (by omega) (by omega) (by omega)
  unfold dpT
  constructor
  · intro e
    split at e
    · rename_i q
      simp only [Option.some.injEq, Prod.mk.injEq] at e
      exact ⟨q.2.2, by omega, e.2⟩
    · cases e
  · intro e
    rw [if_pos ⟨hs, hc, e.1⟩, e.2.1, e.2.2, Int.toNat_natCast]
theorem gof_held {v : Nat → Int → Int} {a : Nat} (hO : dO v a) {pr : Int} {s h : Nat} (hpr : v 16 h = pr) (hp : -100000 ≤ pr ∧ pr ≤ 100000) (hs : s < 15) {cc wc cd wd : Nat} {w : Nat → Int → Int} {K M : Int} (hne : cd ≠ wd) (hK : K + 10000000 ≤ 1000000000) (hf : 0 ≤ w wc s ∧ w wc s < M ∧ -K ≤ w cc s ∧ w cc s ≤ K) (ht : RL w cd wd 15 (K + 10000000) (5 * M)) {O : Nat → Int → Nat → Prop} (hH : Held (LO w cd wd 15) O) : ∀ c : Nat, c ≤ 5 → Held (LO (gof v a pr s cc wc cd wd w c) cd wd 15) (fun s' k y => O s' k y ∨ ∃ d j, d < c ∧ dpT v a h s d = some (s', j) ∧ k = w cc s + j ∧ y = (w wc s).toNat * 5 + d)
  | 0, _ => Held_iff hH (fun s' k y => ⟨Or.inl, fun z => z.elim id (fun ⟨d, j, q, _⟩ => absurd q (Nat.not_lt_zero _))⟩)
  | c + 1, hc => by
    have ih := gof_held hO hpr hp hs hne hK hf ht hH c (by omega)
    have r := gof_RL (cc := cc) (wc := wc) hO hp (s := s) (by omega) hne hK hf ht c (by omega)
    have l := lcs_rng hO (pr := pr) (s := s) (c := c) hp (by omega) (by omega)
    have n := hO.1 s c (by omega) (by omega) (by omega) (by omega)
    unfold gof
    split
    · rename_i q
      refine Held_iff ih (fun s' k y => ⟨fun z => z.imp id (fun ⟨d, j, q1, q2⟩ => ⟨d, j, by omega, q2⟩), fun z => z.imp id (fun ⟨d, j, q1, q2⟩ => ⟨d, j, ?_, q2⟩)⟩)
      rcases Nat.lt_or_ge d c with z | z
      · exact z
      · have : d = c := by omega
        subst this
        exact absurd q ((dpT_some hO hs (by omega)).mp q2.1).1
    · rename_i q
      refine Held_iff (Held_ofr r hne (by omega) (by omega) (by omega) hK ih) (fun s' k y => ⟨fun z => ?_, fun z => ?_⟩)
      · rcases z with (z | ⟨d, j, q1, q2⟩) | ⟨z1, z2, z3⟩
        · exact Or.inl z
        · exact Or.inr ⟨d, j, by omega, q2⟩
        · exact Or.inr ⟨c, lcs v a pr s c, by omega, (dpT_some hO hs (by omega)).mpr ⟨q, z1.symm, by rw [hpr]⟩, z2, by omega⟩
      · rcases z with z | ⟨d, j, q1, q2, q3, q4⟩
        · exact Or.inl (Or.inl z)
        · rcases Nat.lt_or_ge d c with z | z
          · exact Or.inl (Or.inr ⟨d, j, z, q2, q3, q4⟩)
          · have : d = c := by omega
            subst this
            obtain ⟨t1, t2, t3⟩ := (dpT_some hO hs (by omega)).mp q2
            rw [hpr] at t3
            exact Or.inr ⟨t2.symm, by rw [q3, t3], by omega⟩
theorem goh_held {v : Nat → Int → Int} {a : Nat} (hO : dO v a) {pr : Int} {h : Nat} (hpr : v 16 h = pr) (hp : -100000 ≤ pr ∧ pr ≤ 100000) {cc wc cd wd : Nat} {w : Nat → Int → Int} {K M : Int} (hne : cd ≠ wd) (d1 : cd ≠ cc) (d2 : cd ≠ wc) (d3 : wd ≠ cc) (d4 : wd ≠ wc) (hK : K + 10000000 ≤ 1000000000) (hf : RL w cc wc 15 K M) (ht : RL w cd wd 15 (K + 10000000) (5 * M)) (hH : Held (LO w cd wd 15) (fun _ _ _ => False)) : ∀ s : Nat, s ≤ 15 → Held (LO (goh v a pr cc wc cd wd w s) cd wd 15) (offs (dpT v a) h 5 (LO w cc wc 15) s)
  | 0, _ => Held_iff hH (fun s' k y => ⟨fun q => q.elim, fun ⟨_, _, _, _, _, q, _⟩ => absurd q (Nat.not_lt_zero _)⟩)
  | s + 1, hs => by
    have ih := goh_held hO hpr hp hne d1 d2 d3 d4 hK hf ht hH s (by omega)
    have r := goh_RL (v := v) (a := a) hO hp hne d1 d2 d3 d4 hK hf ht s (by omega)
    have rf := hf s (by omega) (by omega)
    have e1 : goh v a pr cc wc cd wd w s cc = w cc := goh_row d1.symm d3.symm _
    have e2 : goh v a pr cc wc cd wd w s wc = w wc := goh_row d2.symm d4.symm _
    unfold goh
    split
    · rename_i q
      refine Held_iff ih (fun s' k y => offs_n ?_ s' k y)
      unfold LO
      rw [if_neg (fun z => z.2 q)]
    · rename_i q
      have hl : LO w cc wc 15 s = some (w cc s, (w wc s).toNat) := by
        unfold LO
        rw [if_pos ⟨by omega, q⟩]
      have g := gof_held (cc := cc) (wc := wc) hO hpr hp (s := s) (by omega) hne hK (by rw [e1, e2]; omega) r ih 5 (Nat.le_refl _)
      rw [e1, e2] at g
      exact Held_iff g (fun s' k y => offs_s hl s' k y)
