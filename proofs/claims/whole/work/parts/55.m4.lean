/-- what an hour of a choice costs a set by the prices -/
def mA (S : Nat → Nat → Int32) (u h s c : Nat) : Int := mC S u s c - vi S 63 h * mT S u c
theorem mA_rng {S : Nat → Nat → Int32} {u h s c : Nat} (hu : mU S u) (hc : c < 5) (hp : -100000 ≤ vi S 63 h ∧ vi S 63 h ≤ 100000) : -6300000 ≤ mA S u h s c ∧ mA S u h s c ≤ 6350000 := by
  have h1 := mC_rng hu hc (s := s)
  have h2 := mT_rng hu hc
  unfold mA
  have h3 : vi S 63 h * mT S u c ≤ 100000 * mT S u c := Int.mul_le_mul_of_nonneg_right hp.2 h2.1
  have h4 : -100000 * mT S u c ≤ vi S 63 h * mT S u c := Int.mul_le_mul_of_nonneg_right hp.1 h2.1
  omega
theorem sm_aloneCost (xs : List Int32) (u h s c : Nat) (hu : u < 3) (hh : h < 8) (hs : s < 15) (hc : c < 5) (H : q_H) (hH : lay_m H) (hU : mU H.2.1 u) (hp : -100000 ≤ vi H.2.1 63 h ∧ vi H.2.1 63 h ≤ 100000) (Q : Int64 → q_H → Prop) (hq : Q (zl (mA H.2.1 u h s c)) H) : q_CallL (GG xs) PP kMod_aloneCost [.ref 48, .int (zi u), .int (zi s), .int (zi c), .int (zi h)] H Q := by
  have h1 := mC_rng hU hc (s := s)
  have h2 := mT_rng hU hc
  refine e_Mod_aloneCost xs _ 48 (zi u) (zi s) (zi c) (zi h) H ?_
  refine ⟨hH.1, sm_choiceCost xs u s c hu hs hc H hH _ ?_⟩
  simp [hH, zi_ixn hh]
  refine sm_told xs u c hu hc H hH _ ?_
  show Q _ H
  rw [vi_of H.2.1 63 h, zi_i2l (by omega) (by omega), zi_i2l (by omega) (by omega), zi_i2l (by omega) (by omega), zl_mul, zl_sub]
  exact hq
/-- 1 << 60: never -/
def NV : Int := 1152921504606846976
def mY (S : Nat → Nat → Int32) (V : Int → Int) (u h s c : Nat) : Int := if 0 ≤ mB S u s c then mA S u h s c + V (mB S u s c) else NV
theorem sm_wayAlone (xs : List Int32) (u h s c : Nat) (hu : u < 3) (hh : h < 8) (hs : s < 15) (hc : c < 5) (H : q_H) (hH : lay_m H) (hU : mU H.2.1 u) (hp : -100000 ≤ vi H.2.1 63 h ∧ vi H.2.1 63 h ≤ 100000) (V : Int → Int) (hV : ∀ t : Nat, t < 15 → H.2.2.1 65 (15 * (h + 1) + t) = zl (V t)) (Q : Int64 → q_H → Prop) (hq : Q (zl (mY H.2.1 V u h s c)) H) : q_CallL (GG xs) PP kMod_wayAlone [.ref 48, .int (zi u), .int (zi h), .int (zi s), .int (zi c)] H Q := by
  have hB := mB_rng hU (s := s) (c := c) (by omega) (by omega)
  refine e_Mod_wayAlone xs _ 48 (zi u) (zi h) (zi s) (zi c) H ?_
  refine ⟨hH.1, sm_behind xs u s c hu H hH hU (by omega) (by omega) _ ?_⟩
  unfold mY at hq
  refine ⟨fun e => ?_, fun e => ?_⟩
  · rw [show (0 : Int32) = zi 0 from rfl, zi_le (by omega) (by omega) (by omega) (by omega)] at e
    rw [if_pos e] at hq
    refine ⟨hH.1, sm_aloneCost xs u h s c hu hh hs hc H hH hU hp _ ?_⟩
    obtain ⟨t, ht⟩ : ∃ t : Nat, mB H.2.1 u s c = t := ⟨(mB H.2.1 u s c).toNat, by omega⟩
    rw [ht] at hq ⊢
    have ix : q_ix (zi (15 * ((h : Int) + 1) + t)) 135 = some (15 * (h + 1) + t) := by
      rw [zi_ix (by omega) (by omega) (by omega)]
      congr 1
    simp [hH, zi_lit, zi_add, zi_mul, ix]
    rw [hV t (by omega), zl_add]
    exact hq
  · rw [show (0 : Int32) = zi 0 from rfl, zi_le (by omega) (by omega) (by omega) (by omega)] at e
    rw [if_neg e] at hq
    exact hq
