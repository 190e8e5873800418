/-! The class's layers. -/
theorem zi_on (n : Nat) : Int32.ofNat n = zi (n : Int) := by
  unfold zi
  exact (Int32.ofInt_eq_ofNat).symm
theorem lg_ltI {a b : Int} (h1 : -9223372036854775808 ≤ a) (h2 : a < 9223372036854775808) (h3 : -9223372036854775808 ≤ b) (h4 : b < 9223372036854775808) : (lg_cmp (zl a) (zl b) < zi 0) = (a < b) := by
  have h := lg_geI h1 h2 h3 h4
  have e : (lg_cmp (zl a) (zl b) < zi 0) = ¬ (zi 0 ≤ lg_cmp (zl a) (zl b)) := propext Int32.not_le.symm
  rw [e, h]
  exact propext Int.not_le
/-- the first k places of a table of longs laid over -/
def zfl (w : Nat → Int → Int) (a : Nat) (k x : Int) : Nat → Int → Int := fun b j => if b = a ∧ 0 ≤ j ∧ j < k then x else w b j
theorem zfl_s {w : Nat → Int → Int} {a : Nat} {k x : Int} (h : 0 ≤ k) : zu (zfl w a k x) a k x = zfl w a (k + 1) x := by
  funext b j
  unfold zu zfl
  by_cases q : b = a ∧ j = k
  · rw [if_pos q, if_pos (by omega)]
  · rw [if_neg q]
    by_cases q2 : b = a ∧ 0 ≤ j ∧ j < k
    · rw [if_pos q2, if_pos (by omega)]
    · rw [if_neg q2, if_neg (by omega)]
theorem zfl_0 {w : Nat → Int → Int} {a : Nat} {x : Int} : zfl w a 0 x = w := by
  funext b j
  unfold zfl
  rw [if_neg (by omega)]
theorem zfl_row {w : Nat → Int → Int} {a b : Nat} {k x : Int} (h : b ≠ a) : zfl w a k x b = w b := by
  funext j
  unfold zfl
  rw [if_neg (by simp [h])]
theorem zfl_in {w : Nat → Int → Int} {a : Nat} {k x j : Int} (h1 : 0 ≤ j) (h2 : j < k) : zfl w a k x a j = x := by
  unfold zfl
  rw [if_pos ⟨rfl, h1, h2⟩]
theorem d_fill (xs : List Int32) (sh : List q_Sh) (v w : Nat → Int → Int) (R : Nat → Nat → Option Nat) (a n : Nat) (hs : sh[a]? = some (.inr (1, n))) (hn : n ≤ 1000) (x : Int) (Q : q_H → Prop) : q_CallV (GG xs) PP kArrays_fill [.ref a, .long (zl x)] (sh, zs v, zt w, R) Q = Q (sh, zs v, zt (zfl w a n x), R) := cV (fun Q hQ => by
  have L : ∀ i : Int, 0 ≤ i → i ≤ n → q_Rt (GG xs) PP 134 (q_FV Q) 6 [some (.ref a), some (.long (zl x)), none, some (.int (zi i)), some (.int (zi n))] [] (sh, zs v, zt (zfl w a i x), R) := by
    refine zdown _ ?_ (fun i h1 h2 ih => ?_)
    · refine b_Arrays_fill_6 xs _ _ _ _ _ _ ?_
      simp (discharger := first | assumption | omega) [fI, fL, fV, zs_ar, zt_ar, zs_un, zt_un, zn_c, zu_a, zu_e, zu_j, zix, zi_lit, zl_lit, zi_add, zi_sub, zi_mul, zi_neg, zi_le, zi_lt, zi_eq, zl_add, zl_sub, zl_mul, zi_i2l, zl_l2i, zb0, zb1, zb0', zb1', zi_c0, zi_c1, zb_c, i_leT, i_leF, i_ltT, i_ltF, i_eqT, i_eqF]
      exact hQ
    · refine b_Arrays_fill_6 xs _ _ _ _ _ _ ?_
      simp (discharger := first | assumption | omega) [fI, fL, fV, zs_ar, zt_ar, zs_un, zt_un, zn_c, zu_a, zu_e, zu_j, zix, zi_lit, zl_lit, zi_add, zi_sub, zi_mul, zi_neg, zi_le, zi_lt, zi_eq, zl_add, zl_sub, zl_mul, zi_i2l, zl_l2i, zb0, zb1, zb0', zb1', zi_c0, zi_c1, zb_c, hs, zfl_s h1, i_leT, i_leF, i_ltT, i_ltF, i_eqT, i_eqF]
      exact ih
  have K := L 0 (by omega) (by omega)
  rw [zfl_0] at K
  refine e_Arrays_fill xs _ _ _ (sh, zs v, zt w, R) ?_
  simp (discharger := first | assumption | omega) [fI, fL, fV, zs_ar, zt_ar, zs_un, zt_un, zn_c, zu_a, zu_e, zu_j, zix, zi_lit, zl_lit, zi_add, zi_sub, zi_mul, zi_neg, zi_le, zi_lt, zi_eq, zl_add, zl_sub, zl_mul, zi_i2l, zl_l2i, zb0, zb1, zb0', zb1', zi_c0, zi_c1, zb_c, hs, gna, zi_on]
  exact K) Q
/-- a layer: its cell, its costs', its ways' -/
def LY (sh : List q_Sh) (R : Nat → Nat → Option Nat) (a cc wc n : Nat) : Prop := sh[a]? = some (.inl 2) ∧ R a 0 = some cc ∧ R a 1 = some wc ∧ sh[cc]? = some (.inr (1, n)) ∧ sh[wc]? = some (.inr (1, n)) ∧ n ≤ 1000 ∧ cc ≠ wc
def okL (x : Int) : Prop := -9000000000000000000 ≤ x ∧ x ≤ 9000000000000000000
theorem d_clear (xs : List Int32) (sh : List q_Sh) (v w : Nat → Int → Int) (R : Nat → Nat → Option Nat) (a cc wc n : Nat) (hL : LY sh R a cc wc n) (Q : q_H → Prop) : q_CallV (GG xs) PP kLayer_clear [.ref a] (sh, zs v, zt w, R) Q = Q (sh, zs v, zt (zfl w wc n (-1)), R) := cV (fun Q hQ => by
  obtain ⟨l1, l2, l3, l4, l5, l6, l7⟩ := hL
  refine e_Layer_clear xs _ _ (sh, zs v, zt w, R) ?_
  simp (discharger := first | assumption | omega) [fI, fL, fV, zs_ar, zt_ar, zs_un, zt_un, zn_c, zu_a, zu_e, zu_j, zix, zi_lit, zl_lit, zi_add, zi_sub, zi_mul, zi_neg, zi_le, zi_lt, zi_eq, zl_add, zl_sub, zl_mul, zi_i2l, zl_l2i, zb0, zb1, zb0', zb1', zi_c0, zi_c1, zb_c, l1, l3, zl_neg, d_fill xs sh v w R wc n l5 l6]
  exact hQ) Q
theorem d_isReached (xs : List Int32) (sh : List q_Sh) (v w : Nat → Int → Int) (R : Nat → Nat → Option Nat) (a cc wc n : Nat) (hL : LY sh R a cc wc n) (p : Int) (hp : 0 ≤ p ∧ p < n) (hr : okL (w wc p)) (Q : Int32 → q_H → Prop) : q_CallI (GG xs) PP kLayer_isReached [.ref a, .int (zi p)] (sh, zs v, zt w, R) Q = Q (zb (w wc p ≠ -1)) (sh, zs v, zt w, R) := cI (fun Q hQ => by
  obtain ⟨l1, l2, l3, l4, l5, l6, l7⟩ := hL
  unfold okL at hr
  refine e_Layer_isReached xs _ _ _ (sh, zs v, zt w, R) ?_
  by_cases c : w wc p = -1
  · rw [← zbF (fun q => q c)] at hQ
    simp (discharger := first | assumption | omega) [fI, fL, fV, zs_ar, zt_ar, zs_un, zt_un, zn_c, zu_a, zu_e, zu_j, zix, zi_lit, zl_lit, zi_add, zi_sub, zi_mul, zi_neg, zi_le, zi_lt, zi_eq, zl_add, zl_sub, zl_mul, zi_i2l, zl_l2i, zb0, zb1, zb0', zb1', zi_c0, zi_c1, zb_c, l1, l3, l5, zl_neg, lg_eqI, c]
    exact hQ
  · rw [← zbT c] at hQ
    simp (discharger := first | assumption | omega) [fI, fL, fV, zs_ar, zt_ar, zs_un, zt_un, zn_c, zu_a, zu_e, zu_j, zix, zi_lit, zl_lit, zi_add, zi_sub, zi_mul, zi_neg, zi_le, zi_lt, zi_eq, zl_add, zl_sub, zl_mul, zi_i2l, zl_l2i, zb0, zb1, zb0', zb1', zi_c0, zi_c1, zb_c, l1, l3, l5, zl_neg, lg_eqI, c]
    exact hQ) Q
/-- a way offered to a place -/
def ofr (w : Nat → Int → Int) (cc wc : Nat) (p k y : Int) : Nat → Int → Int := if w wc p = -1 ∨ k < w cc p ∨ (k = w cc p ∧ y < w wc p) then zu (zu w cc p k) wc p y else w
theorem d_offer (xs : List Int32) (sh : List q_Sh) (v w : Nat → Int → Int) (R : Nat → Nat → Option Nat) (a cc wc n : Nat) (hL : LY sh R a cc wc n) (p k y : Int) (hp : 0 ≤ p ∧ p < n) (h1 : okL (w wc p)) (h2 : okL (w cc p)) (h3 : okL k) (h4 : okL y) (Q : q_H → Prop) : q_CallV (GG xs) PP kLayer_offer [.ref a, .int (zi p), .long (zl k), .long (zl y)] (sh, zs v, zt w, R) Q = Q (sh, zs v, zt (ofr w cc wc p k y), R) := cV (fun Q hQ => by
  obtain ⟨l1, l2, l3, l4, l5, l6, l7⟩ := hL
  unfold okL at h1 h2 h3 h4
  refine e_Layer_offer xs _ _ _ _ _ (sh, zs v, zt w, R) ?_
  unfold ofr at hQ
  by_cases c1 : w wc p = -1
  · rw [if_pos (Or.inl c1)] at hQ
    simp (discharger := first | assumption | omega) [fI, fL, fV, zs_ar, zt_ar, zs_un, zt_un, zn_c, zu_a, zu_e, zu_j, zix, zi_lit, zl_lit, zi_add, zi_sub, zi_mul, zi_neg, zi_le, zi_lt, zi_eq, zl_add, zl_sub, zl_mul, zi_i2l, zl_l2i, zb0, zb1, zb0', zb1', zi_c0, zi_c1, zb_c, l1, l2, l3, l4, l5, zl_neg, lg_eqI, c1]
    exact hQ
  · by_cases c2 : k < w cc p
    · rw [if_pos (Or.inr (Or.inl c2))] at hQ
      simp (discharger := first | assumption | omega) [fI, fL, fV, zs_ar, zt_ar, zs_un, zt_un, zn_c, zu_a, zu_e, zu_j, zix, zi_lit, zl_lit, zi_add, zi_sub, zi_mul, zi_neg, zi_le, zi_lt, zi_eq, zl_add, zl_sub, zl_mul, zi_i2l, zl_l2i, zb0, zb1, zb0', zb1', zi_c0, zi_c1, zb_c, l1, l2, l3, l4, l5, zl_neg, lg_eqI, lg_ltI, lg_geI, i_leT, i_leF, i_ltT, i_ltF, i_eqT, i_eqF]
      exact hQ
    · by_cases c3 : k = w cc p
      · by_cases c4 : y < w wc p
        · rw [if_pos (Or.inr (Or.inr ⟨c3, c4⟩))] at hQ
          have c4' : ¬ w wc p ≤ y := by omega
          simp (discharger := first | assumption | omega) [fI, fL, fV, zs_ar, zt_ar, zs_un, zt_un, zn_c, zu_a, zu_e, zu_j, zix, zi_lit, zl_lit, zi_add, zi_sub, zi_mul, zi_neg, zi_le, zi_lt, zi_eq, zl_add, zl_sub, zl_mul, zi_i2l, zl_l2i, zb0, zb1, zb0', zb1', zi_c0, zi_c1, zb_c, l1, l2, l3, l4, l5, zl_neg, lg_eqI, lg_ltI, lg_geI, i_leT, i_leF, i_ltT, i_ltF, i_eqT, i_eqF]
          exact hQ
        · rw [if_neg (by omega)] at hQ
          have c4' : w wc p ≤ y := by omega
          simp (discharger := first | assumption | omega) [fI, fL, fV, zs_ar, zt_ar, zs_un, zt_un, zn_c, zu_a, zu_e, zu_j, zix, zi_lit, zl_lit, zi_add, zi_sub, zi_mul, zi_neg, zi_le, zi_lt, zi_eq, zl_add, zl_sub, zl_mul, zi_i2l, zl_l2i, zb0, zb1, zb0', zb1', zi_c0, zi_c1, zb_c, l1, l2, l3, l4, l5, zl_neg, lg_eqI, lg_ltI, lg_geI, i_leT, i_leF, i_ltT, i_ltF, i_eqT, i_eqF]
          exact hQ
      · rw [if_neg (by omega)] at hQ
        simp (discharger := first | assumption | omega) [fI, fL, fV, zs_ar, zt_ar, zs_un, zt_un, zn_c, zu_a, zu_e, zu_j, zix, zi_lit, zl_lit, zi_add, zi_sub, zi_mul, zi_neg, zi_le, zi_lt, zi_eq, zl_add, zl_sub, zl_mul, zi_i2l, zl_l2i, zb0, zb1, zb0', zb1', zi_c0, zi_c1, zb_c, l1, l2, l3, l4, l5, zl_neg, lg_eqI, lg_ltI, lg_geI, i_leT, i_leF, i_ltT, i_ltF, i_eqT, i_eqF]
        exact hQ) Q
theorem ofr_row {w : Nat → Int → Int} {cc wc b : Nat} {p k y : Int} (h1 : b ≠ cc) (h2 : b ≠ wc) : ofr w cc wc p k y b = w b := by
  unfold ofr
  split
  · rw [zu_row h2, zu_row h1]
  · rfl
/-- what is known of a layer's numbers: its costs stay in the room; what is reached has a way below M and a cost within K -/
def RL (w : Nat → Int → Int) (cc wc n : Nat) (K M : Int) : Prop := ∀ j : Int, 0 ≤ j → j < n → (-1000000000 ≤ w cc j ∧ w cc j ≤ 1000000000) ∧ (w wc j = -1 ∨ (0 ≤ w wc j ∧ w wc j < M ∧ -K ≤ w cc j ∧ w cc j ≤ K))
theorem RL_okw {w : Nat → Int → Int} {cc wc n : Nat} {K M : Int} (h : RL w cc wc n K M) (hM : M ≤ 8000000000000000000) {p : Int} (hp : 0 ≤ p ∧ p < n) : okL (w wc p) := by
  have := h p hp.1 hp.2
  unfold okL
  omega
theorem RL_okc {w : Nat → Int → Int} {cc wc n : Nat} {K M : Int} (h : RL w cc wc n K M) {p : Int} (hp : 0 ≤ p ∧ p < n) : okL (w cc p) := by
  have := h p hp.1 hp.2
  unfold okL
  omega
theorem RL_fr {w w' : Nat → Int → Int} {cc wc n : Nat} {K M : Int} (h : RL w cc wc n K M) (h1 : w' cc = w cc) (h2 : w' wc = w wc) : RL w' cc wc n K M := by
  unfold RL
  rw [h1, h2]
  exact h
theorem RL_mono {w : Nat → Int → Int} {cc wc n : Nat} {K M K' M' : Int} (h : RL w cc wc n K M) (h1 : K ≤ K') (h2 : M ≤ M') : RL w cc wc n K' M' := fun j a b => by
  have := h j a b
  omega
theorem RL_ofr {w : Nat → Int → Int} {cc wc n : Nat} {K M : Int} (h : RL w cc wc n K M) (hne : cc ≠ wc) {p k y : Int} (hk : -K ≤ k ∧ k ≤ K) (hy : 0 ≤ y ∧ y < M) (hK : K ≤ 1000000000) : RL (ofr w cc wc p k y) cc wc n K M := by
  unfold ofr
  split
  · intro j a b
    have hj := h j a b
    by_cases e : j = p
    · subst e
      rw [zu_e (a := wc) rfl, zu_a hne, zu_e rfl]
      omega
    · rw [zu_j e, zu_j e, zu_j e, zu_j e]
      exact hj
  · exact h
theorem RL_clr {w : Nat → Int → Int} {cc wc n : Nat} {K M K' M' : Int} (h : RL w cc wc n K M) (hne : cc ≠ wc) : RL (zfl w wc n (-1)) cc wc n K' M' := fun j a b => by
  have := h j a b
  rw [zfl_row hne, zfl_in a b]
  omega
/-- the best of one layer in another -/
def gth (w : Nat → Int → Int) (cc wc cd wd : Nat) : Nat → Nat → Int → Int
  | 0 => w
  | i + 1 => if w wd i = -1 then gth w cc wc cd wd i else ofr (gth w cc wc cd wd i) cc wc 0 (w cd i) (w wd i)
theorem gth_row {w : Nat → Int → Int} {cc wc cd wd b : Nat} (h1 : b ≠ cc) (h2 : b ≠ wc) : ∀ i, gth w cc wc cd wd i b = w b
  | 0 => rfl
  | i + 1 => by
    unfold gth
    split
    · exact gth_row h1 h2 i
    · rw [ofr_row h1 h2]
      exact gth_row h1 h2 i
theorem gth_RL {w : Nat → Int → Int} {cc wc cd wd n m : Nat} {K M : Int} (hne : cc ≠ wc) (hK : K ≤ 1000000000) (h : RL w cc wc n K M) (h' : RL w cd wd m K M) : ∀ i : Nat, i ≤ m → RL (gth w cc wc cd wd i) cc wc n K M
  | 0, _ => h
  | i + 1, hi => by
    have ih := gth_RL hne hK h h' i (by omega)
    have q := h' i (by omega) (by omega)
    unfold gth
    split
    · exact ih
    · exact RL_ofr ih hne (by omega) (by omega) hK
theorem d_gather (xs : List Int32) (sh : List q_Sh) (v w : Nat → Int → Int) (R : Nat → Nat → Option Nat) (a b cc wc cd wd n m : Nat) (hL : LY sh R a cc wc n) (hL' : LY sh R b cd wd m) (hn : 0 < n) (d1 : cd ≠ cc) (d2 : cd ≠ wc) (d3 : wd ≠ cc) (d4 : wd ≠ wc) (K M : Int) (hK : K ≤ 1000000000) (hM : M ≤ 8000000000000000000) (hR : RL w cc wc n K M) (hR' : RL w cd wd m K M) (Q : q_H → Prop) : q_CallV (GG xs) PP kLayer_gather [.ref a, .ref b] (sh, zs v, zt w, R) Q = Q (sh, zs v, zt (gth (zfl w wc n (-1)) cc wc cd wd m), R) := cV (fun Q hQ => by
  have r1 : RL (zfl w wc n (-1)) cc wc n K M := RL_clr hR hL.2.2.2.2.2.2
  have r2 : RL (zfl w wc n (-1)) cd wd m K M := RL_fr hR' (zfl_row d2) (zfl_row d4)
  have L : ∀ i : Int, 0 ≤ i → i ≤ m → q_Rt (GG xs) PP 85 (q_FV Q) 6 [some (.ref a), some (.ref b), some (.int (zi i))] [] (sh, zs v, zt (gth (zfl w wc n (-1)) cc wc cd wd i.toNat), R) := by
    obtain ⟨l1, l2, l3, l4, l5, l6, l7⟩ := hL'
    refine zdown _ ?_ (fun i h1 h2 ih => ?_)
    · refine b_Layer_gather_6 xs _ _ _ _ _ ?_
      simp (discharger := first | assumption | omega) [fI, fL, fV, zs_ar, zt_ar, zs_un, zt_un, zn_c, zu_a, zu_e, zu_j, zix, zi_lit, zl_lit, zi_add, zi_sub, zi_mul, zi_neg, zi_le, zi_lt, zi_eq, zl_add, zl_sub, zl_mul, zi_i2l, zl_l2i, zb0, zb1, zb0', zb1', zi_c0, zi_c1, zb_c, l1, l3, l5, gna, zi_on, i_leT, i_leF, i_ltT, i_ltF, i_eqT, i_eqF]
      simpa using hQ
    · rw [show (i + 1).toNat = i.toNat + 1 by omega] at ih
      unfold gth at ih
      rw [show ((i.toNat : Nat) : Int) = i by omega] at ih
      have r3 := gth_RL hL.2.2.2.2.2.2 hK r1 r2 i.toNat (by omega)
      have e1 : gth (zfl w wc n (-1)) cc wc cd wd i.toNat cd = zfl w wc n (-1) cd := gth_row d1 d2 _
      have e2 : gth (zfl w wc n (-1)) cc wc cd wd i.toNat wd = zfl w wc n (-1) wd := gth_row d3 d4 _
      have o := r2 i h1 (by omega)
      have s1 := d_isReached xs sh v (gth (zfl w wc n (-1)) cc wc cd wd i.toNat) R b cd wd m ⟨l1, l2, l3, l4, l5, l6, l7⟩ i (by omega) (by rw [e2]; unfold okL; omega)
      rw [e2] at s1
      refine b_Layer_gather_6 xs _ _ _ _ _ ?_
      by_cases c : zfl w wc n (-1) wd i = -1
      · rw [if_pos c] at ih
        simp (discharger := first | assumption | omega) [fI, fL, fV, zs_ar, zt_ar, zs_un, zt_un, zn_c, zu_a, zu_e, zu_j, zix, zi_lit, zl_lit, zi_add, zi_sub, zi_mul, zi_neg, zi_le, zi_lt, zi_eq, zl_add, zl_sub, zl_mul, zi_i2l, zl_l2i, zb0, zb1, zb0', zb1', zi_c0, zi_c1, zb_c, l1, l3, l5, gna, zi_on, s1, c, i_leT, i_leF, i_ltT, i_ltF, i_eqT, i_eqF]
        exact ih
      · rw [if_neg c] at ih
        have s2 := d_offer xs sh v (gth (zfl w wc n (-1)) cc wc cd wd i.toNat) R a cc wc n hL 0 (zfl w wc n (-1) cd i) (zfl w wc n (-1) wd i) (by omega) (RL_okw r3 hM (by omega)) (RL_okc r3 (by omega)) (by unfold okL; omega) (by unfold okL; omega)
        simp (discharger := first | assumption | omega) [fI, fL, fV, zs_ar, zt_ar, zs_un, zt_un, zn_c, zu_a, zu_e, zu_j, zix, zi_lit, zl_lit, zi_add, zi_sub, zi_mul, zi_neg, zi_le, zi_lt, zi_eq, zl_add, zl_sub, zl_mul, zi_i2l, zl_l2i, zb0, zb1, zb0', zb1', zi_c0, zi_c1, zb_c, l1, l2, l3, l4, l5, hL.1, gna, zi_on, s1, s2, e1, e2, c, i_leT, i_leF, i_ltT, i_ltF, i_eqT, i_eqF]
        exact ih
  have K0 := L 0 (by omega) (by omega)
  refine e_Layer_gather xs _ _ _ (sh, zs v, zt w, R) ?_
  simp (discharger := first | assumption | omega) [fI, fL, fV, zs_ar, zt_ar, zs_un, zt_un, zn_c, zu_a, zu_e, zu_j, zix, zi_lit, zl_lit, zi_add, zi_sub, zi_mul, zi_neg, zi_le, zi_lt, zi_eq, zl_add, zl_sub, zl_mul, zi_i2l, zl_l2i, zb0, zb1, zb0', zb1', zi_c0, zi_c1, zb_c, hL.1, d_clear xs sh v w R a cc wc n hL]
  simpa [gth] using K0) Q
