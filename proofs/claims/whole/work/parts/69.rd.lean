/-- where a price goes in a round -/
def zclp (p : Int) : Int := if p ≤ 100000 then (if -100000 ≤ p then p else -100000) else 100000
def zmov (p d s t : Int) : Int := zclp (p + (if s < d then t else if d < s then -t else 0))
def newp (v : Nat → Int → Int) (h : Int) : Int := zmov (v 63 h) (v 58 h) (zsum (fun u => xL v u h) (v 48 2).toNat) (v 48 18)
def prh (v v' : Nat → Int → Int) (h : Int) : Nat → Int → Int := fun a j => if a = 63 ∧ 0 ≤ j ∧ j < h then newp v j else v' a j
theorem prh_row {v v' : Nat → Int → Int} {h : Int} {a : Nat} (c : a ≠ 63) : prh v v' h a = v' a := by
  funext j
  simp only [prh, c, false_and, if_false]
theorem prh_s {v v' : Nat → Int → Int} {h : Int} (h0 : 0 ≤ h) : zu (prh v v' h) 63 h (newp v h) = prh v v' (h + 1) := by
  funext a j
  unfold zu prh
  by_cases c : a = 63
  · by_cases d : j = h
    · rw [if_pos (by omega), if_pos (by omega), d]
    · rw [if_neg (by omega)]
      by_cases e : 0 ≤ j ∧ j < h
      · rw [if_pos (by omega), if_pos (by omega)]
      · rw [if_neg (by omega), if_neg (by omega)]
  · rw [if_neg (by omega), if_neg (by omega), if_neg (by omega)]
theorem zclp_rng (p : Int) : -100000 ≤ zclp p ∧ zclp p ≤ 100000 := by
  unfold zclp
  (repeat' split) <;> omega
theorem xL_rng {v : Nat → Int → Int} (hA : rA v) {u h : Int} (hu : 0 ≤ u ∧ u < v 48 2) (hh : 0 ≤ h ∧ h < v 48 1) : 0 ≤ xL v u h ∧ xL v u h ≤ 63 := by
  have n1 := hA.2.2.2.2.1.1
  have n2 := hA.2.2.2.2.1.2
  obtain ⟨g1, g2⟩ := mU_zs hA.1 hA.2.1 hA.2.2.1 (u := u.toNat) (by omega) (by omega)
  have hp : ∀ h, h < 8 → -100000 ≤ vi (zs v) 63 h ∧ vi (zs v) 63 h ≤ 100000 := fun h hh => by
    have := (hA.2.2.2.1 h (by omega) (by omega)).2.2
    rw [vi_zs (by omega)]
    exact this
  have hg := mS_good g1 (hrs := (v 48 1).toNat) (by omega) hp g2 h.toNat (by omega)
  have hs : (((mS (zs v) u.toNat (v 48 1).toNat h.toNat).toNat : Nat) : Int) = mS (zs v) u.toNat (v 48 1).toNat h.toNat := by have := hg.1; omega
  obtain ⟨x1, -⟩ := mX_ok g1 (hrs := (v 48 1).toNat) (by omega) hp (h := h.toNat) (s := (mS (zs v) u.toNat (v 48 1).toNat h.toNat).toNat) (by omega) (by rw [hs]; exact hg)
  exact mT_rng g1 x1
theorem xC_rng {v : Nat → Int → Int} (hA : rA v) {u : Int} (hu : 0 ≤ u ∧ u < v 48 2) : -60000000 ≤ xC v u ∧ xC v u ≤ 60000000 := by
  have n1 := hA.2.2.2.2.1.1
  have n2 := hA.2.2.2.2.1.2
  obtain ⟨g1, g2⟩ := mU_zs hA.1 hA.2.1 hA.2.2.1 (u := u.toNat) (by omega) (by omega)
  have hp : ∀ h, h < 8 → -100000 ≤ vi (zs v) 63 h ∧ vi (zs v) 63 h ≤ 100000 := fun h hh => by
    have := (hA.2.2.2.1 h (by omega) (by omega)).2.2
    rw [vi_zs (by omega)]
    exact this
  have a := mW_rng g1 (hrs := (v 48 1).toNat) (by omega) hp (v 48 1).toNat (Nat.le_refl _) (mF (zs v) u.toNat)
  have b := mW_good g1 (hrs := (v 48 1).toNat) (by omega) hp (v 48 1).toNat (Nat.le_refl _) (mF (zs v) u.toNat) g2
  unfold xC
  omega
theorem zsum_rng2 {c d : Int} {f : Int → Int} : ∀ n : Nat, (∀ i : Int, 0 ≤ i → i < n → c ≤ f i ∧ f i ≤ d) → c * n ≤ zsum f n ∧ zsum f n ≤ d * n
  | 0, _ => by unfold zsum; omega
  | n + 1, h => by
    have h1 := zsum_rng2 (f := f) n (fun i a b => h i a (by omega))
    have h2 := h n (by omega) (by omega)
    unfold zsum
    rw [show c * ((n + 1 : Nat) : Int) = c * n + c by rw [Int.natCast_add, Int.mul_add]; simp, show d * ((n + 1 : Nat) : Int) = d * n + d by rw [Int.natCast_add, Int.mul_add]; simp]
    omega
theorem bnd_rng {v : Nat → Int → Int} (hA : rA v) : -1000000000 ≤ bnd v ∧ bnd v ≤ 1000000000 := by
  have n1 := hA.2.2.2.2.1.1
  have n2 := hA.2.2.2.2.1.2
  have a := zsum_rng2 (c := -60000000) (d := 60000000) (f := xC v) (v 48 2).toNat (fun i h1 h2 => xC_rng hA (by omega))
  have b := zsum_rng2 (c := -20000000) (d := 20000000) (f := fun h => v 58 h * v 63 h) (v 48 1).toNat (fun i h1 h2 => by
    obtain ⟨d1, d2, d3⟩ := hA.2.2.2.1 i (by omega) (by omega)
    have e1 : v 58 i * v 63 i ≤ v 58 i * 100000 := Int.mul_le_mul_of_nonneg_left d3.2 d1.1
    have e2 : v 58 i * -100000 ≤ v 58 i * v 63 i := Int.mul_le_mul_of_nonneg_left d3.1 d1.1
    show -20000000 ≤ v 58 i * v 63 i ∧ v 58 i * v 63 i ≤ 20000000
    omega)
  unfold bnd
  omega
theorem l_rd97 (xs : List Int32) (sh : List q_Sh) (v w : Nat → Int → Int) (R : Nat → Nat → Option Nat) (hM : LM sh R) (h a b : Int) (hh : 0 ≤ h ∧ h < 8) (ha : -1000000 ≤ a ∧ a ≤ 1000000) (hb : -1000000 ≤ b ∧ b ≤ 1000000) (F : Option Value → q_H → Prop) (hk : q_Rt (GG xs) PP 70 F 7 [some (.ref 48), none, none, some (.int (zi (h + 1))), none, none] [] (sh, zs (zu v 63 h (zclp (a + b))), zt w, R)) : q_Rt (GG xs) PP 70 F 97 [some (.ref 48), none, none, some (.int (zi h)), none, none] [.int (zi b), .int (zi a)] (sh, zs v, zt w, R) := by
  refine b_Mod_round_97 xs F _ _ _ _ (sh, zs v, zt w, R) ?_
  unfold zclp at hk
  by_cases c1 : a + b ≤ 100000
  · by_cases c2 : -100000 ≤ a + b
    · rw [if_pos c1, if_pos c2] at hk
      simp (discharger := first | assumption | omega) [hM, fI, fL, fV, zs_ar, zt_ar, zs_un, zt_un, zn_c, zu_a, zu_e, zu_j, zix, zi_lit, zl_lit, zi_add, zi_sub, zi_mul, zi_neg, zi_le, zi_lt, zi_eq, zl_add, zl_sub, zl_mul, zi_i2l, zl_l2i, zb0, zb1, zb0', zb1', zi_c0, zi_c1, zb_c, i_leT, i_leF, i_ltT, i_ltF, i_eqT, i_eqF]
      exact hk
    · rw [if_pos c1, if_neg c2] at hk
      simp (discharger := first | assumption | omega) [hM, fI, fL, fV, zs_ar, zt_ar, zs_un, zt_un, zn_c, zu_a, zu_e, zu_j, zix, zi_lit, zl_lit, zi_add, zi_sub, zi_mul, zi_neg, zi_le, zi_lt, zi_eq, zl_add, zl_sub, zl_mul, zi_i2l, zl_l2i, zb0, zb1, zb0', zb1', zi_c0, zi_c1, zb_c, i_leT, i_leF, i_ltT, i_ltF, i_eqT, i_eqF]
      exact hk
  · rw [if_neg c1] at hk
    simp (discharger := first | assumption | omega) [hM, fI, fL, fV, zs_ar, zt_ar, zs_un, zt_un, zn_c, zu_a, zu_e, zu_j, zix, zi_lit, zl_lit, zi_add, zi_sub, zi_mul, zi_neg, zi_le, zi_lt, zi_eq, zl_add, zl_sub, zl_mul, zi_i2l, zl_l2i, zb0, zb1, zb0', zb1', zi_c0, zi_c1, zb_c, i_leT, i_leF, i_ltT, i_ltF, i_eqT, i_eqF]
    exact hk
theorem l_rd21 (xs : List Int32) (sh : List q_Sh) (v v' w : Nat → Int → Int) (R : Nat → Nat → Option Nat) (hM : LM sh R) (hA : rA v) (hB : bm v v') (ht : 1 ≤ v 48 18 ∧ v 48 18 ≤ 64) (h : Int) (hh : 0 ≤ h ∧ h < v 48 1) (F : Option Value → q_H → Prop) (hk : q_Rt (GG xs) PP 70 F 7 [some (.ref 48), none, none, some (.int (zi (h + 1))), none, none] [] (sh, zs (prh v v' (h + 1)), zt w, R)) : ∀ u, 0 ≤ u → u ≤ v 48 2 → q_Rt (GG xs) PP 70 F 21 [some (.ref 48), none, none, some (.int (zi h)), some (.int (zi (zsum (fun u => xL v u h) u.toNat))), some (.int (zi u))] [] (sh, zs (prh v v' h), zt w, R) := by
  have n1 := hA.2.2.2.2.1.1
  have n2 := hA.2.2.2.2.1.2
  obtain ⟨d1, d2, d3⟩ := hA.2.2.2.1 h (by omega) (by omega)
  have p48 : prh v v' h 48 = v 48 := by rw [prh_row (by decide), hB.1 48 (by decide)]
  have p58 : prh v v' h 58 = v 58 := by rw [prh_row (by decide), hB.1 58 (by decide)]
  have p66 : prh v v' h 66 = v' 66 := by rw [prh_row (by decide)]
  have p63 : prh v v' h 63 h = v 63 h := by
    unfold prh
    rw [if_neg (by omega), hB.1 63 (by decide)]
  have rs : ∀ u : Int, 0 ≤ u → u ≤ v 48 2 → 0 ≤ zsum (fun u => xL v u h) u.toNat ∧ zsum (fun u => xL v u h) u.toNat ≤ 200 := fun u h1 h2 => by
    have := zsum_rng (c := 63) (f := fun u => xL v u h) u.toNat (fun i a b => xL_rng hA (by omega) hh)
    omega
  refine zdown _ ?_ (fun u h1 h2 ih => ?_)
  · have r := rs (v 48 2) (by omega) (by omega)
    rw [← prh_s hh.1] at hk
    unfold newp zmov at hk
    refine b_Mod_round_21 xs F _ _ _ _ (sh, zs (prh v v' h), zt w, R) ?_
    by_cases c1 : zsum (fun u => xL v u h) (v 48 2).toNat < v 58 h
    · rw [if_pos c1] at hk
      simp (discharger := first | assumption | omega) [hM, fI, fL, fV, zs_ar, zt_ar, zs_un, zt_un, zn_c, zu_a, zu_e, zu_j, zix, zi_lit, zl_lit, zi_add, zi_sub, zi_mul, zi_neg, zi_le, zi_lt, zi_eq, zl_add, zl_sub, zl_mul, zi_i2l, zl_l2i, zb0, zb1, zb0', zb1', zi_c0, zi_c1, zb_c, p48, p58, p63, i_leT, i_leF, i_ltT, i_ltF, i_eqT, i_eqF]
      exact l_rd97 xs sh _ w R hM h _ _ (by omega) (by omega) (by omega) F hk
    · by_cases c2 : v 58 h < zsum (fun u => xL v u h) (v 48 2).toNat
      · rw [if_neg c1, if_pos c2] at hk
        simp (discharger := first | assumption | omega) [hM, fI, fL, fV, zs_ar, zt_ar, zs_un, zt_un, zn_c, zu_a, zu_e, zu_j, zix, zi_lit, zl_lit, zi_add, zi_sub, zi_mul, zi_neg, zi_le, zi_lt, zi_eq, zl_add, zl_sub, zl_mul, zi_i2l, zl_l2i, zb0, zb1, zb0', zb1', zi_c0, zi_c1, zb_c, p48, p58, p63, i_leT, i_leF, i_ltT, i_ltF, i_eqT, i_eqF]
        exact l_rd97 xs sh _ w R hM h _ _ (by omega) (by omega) (by omega) F hk
      · rw [if_neg c1, if_neg c2] at hk
        simp (discharger := first | assumption | omega) [hM, fI, fL, fV, zs_ar, zt_ar, zs_un, zt_un, zn_c, zu_a, zu_e, zu_j, zix, zi_lit, zl_lit, zi_add, zi_sub, zi_mul, zi_neg, zi_le, zi_lt, zi_eq, zl_add, zl_sub, zl_mul, zi_i2l, zl_l2i, zb0, zb1, zb0', zb1', zi_c0, zi_c1, zb_c, p48, p58, p63, i_leT, i_leF, i_ltT, i_ltF, i_eqT, i_eqF]
        exact l_rd97 xs sh _ w R hM h _ _ (by omega) (by omega) (by omega) F hk
  · have e : (u + 1).toNat = u.toNat + 1 := by omega
    have e2 : ((u.toNat : Nat) : Int) = u := by omega
    rw [e] at ih
    simp only [zsum_s, e2] at ih
    have e3 := hB.2 u h h1 h2 hh.1 hh.2
    refine b_Mod_round_21 xs F _ _ _ _ (sh, zs (prh v v' h), zt w, R) ?_
    simp (discharger := first | assumption | omega) [hM, fI, fL, fV, zs_ar, zt_ar, zs_un, zt_un, zn_c, zu_a, zu_e, zu_j, zix, zi_lit, zl_lit, zi_add, zi_sub, zi_mul, zi_neg, zi_le, zi_lt, zi_eq, zl_add, zl_sub, zl_mul, zi_i2l, zl_l2i, zb0, zb1, zb0', zb1', zi_c0, zi_c1, zb_c, p48, p66, e3, i_leT, i_leF, i_ltT, i_ltF, i_eqT, i_eqF]
    exact ih
