/-! The reference's plan of a set alone, in whole numbers. -/
def sR (S S' : Nat → Nat → Int32) : Prop := ∀ a, (49 ≤ a ∧ a ≤ 57 ∨ a = 63) → S' a = S a
theorem sR_B {S S' : Nat → Nat → Int32} (h : sR S S') : mB S' = mB S := by
  funext u s c
  simp only [mB, vi, h 49 (by decide), h 50 (by decide), h 51 (by decide), h 52 (by decide), h 53 (by decide)]
theorem sR_T {S S' : Nat → Nat → Int32} (h : sR S S') : mT S' = mT S := by
  funext u c
  simp only [mT, vi, h 49 (by decide)]
theorem sR_F {S S' : Nat → Nat → Int32} (h : sR S S') : mF S' = mF S := by
  funext u
  simp only [mF, vi, h 49 (by decide), h 56 (by decide), h 57 (by decide)]
theorem sR_A {S S' : Nat → Nat → Int32} (h : sR S S') : mA S' = mA S := by
  funext u h' s c
  simp only [mA, mC, mT, vi, h 49 (by decide), h 54 (by decide), h 55 (by decide), h 63 (by decide)]
theorem sR_Y {S S' : Nat → Nat → Int32} (h : sR S S') : mY S' = mY S := by
  funext V u h' s c
  simp only [mY, sR_A h, sR_B h]
theorem sR_W {S S' : Nat → Nat → Int32} (h : sR S S') (u hrs : Nat) : ∀ r, mW S' u hrs r = mW S u hrs r
  | 0 => rfl
  | r + 1 => by
    funext s
    unfold mW
    rw [sR_W h u hrs r, sR_Y h]
theorem sR_X {S S' : Nat → Nat → Int32} (h : sR S S') (u hrs : Nat) : mX S' u hrs = mX S u hrs := by
  funext k s
  simp only [mX, sR_Y h, sR_W h]
theorem sR_S {S S' : Nat → Nat → Int32} (h : sR S S') (u hrs : Nat) : ∀ k, mS S' u hrs k = mS S u hrs k
  | 0 => by
    show mF S' u = mF S u
    rw [sR_F h]
  | k + 1 => by
    unfold mS
    rw [sR_S h u hrs k, sR_B h, sR_X h]
/-- a set's output alone, and what its hours alone cost -/
def xL (v : Nat → Int → Int) (u h : Int) : Int := mT (zs v) u.toNat (mX (zs v) u.toNat (v 48 1).toNat h.toNat (mS (zs v) u.toNat (v 48 1).toNat h.toNat).toNat)
def xC (v : Nat → Int → Int) (u : Int) : Int := mW (zs v) u.toNat (v 48 1).toNat (v 48 1).toNat (mF (zs v) u.toNat)
theorem sM_sR {v v' : Nat → Int → Int} (h : sameM v v') : sR (zs v) (zs v') := fun a ha => by
  funext j
  show zi (v' a j) = zi (v a j)
  rcases ha with h1 | h1
  · rw [h.1 a h1.1 (by omega)]
  · rw [h1, h.2.1]
theorem sM_xL {v v' : Nat → Int → Int} (h : sameM v v') : xL v' = xL v := by
  funext u k
  have s := sM_sR h
  simp only [xL, sR_T s, sR_X s, sR_S s, h.2.2.1]
theorem sM_xC {v v' : Nat → Int → Int} (h : sameM v v') : xC v' = xC v := by
  funext u
  have s := sM_sR h
  simp only [xC, sR_F s, sR_W s, h.2.2.1]
def rC (v : Nat → Int → Int) : Prop := (∀ j, 0 ≤ j → j < 12 → 0 ≤ v 54 j ∧ v 54 j ≤ 40000) ∧ (∀ j, 0 ≤ j → j < 9 → 0 ≤ v 55 j ∧ v 55 j ≤ 10000)
theorem sM_rC {v v' : Nat → Int → Int} (h : sameM v v') (r : rC v) : rC v' := by
  unfold rC
  rw [h.1 54 (by decide) (by decide), h.1 55 (by decide) (by decide)]
  exact r
theorem vi_zs {v : Nat → Int → Int} {a : Nat} {j : Nat} (h : -2147483648 ≤ v a j ∧ v a j < 2147483648) : vi (zs v) a j = v a j := zi_toInt h.1 h.2
theorem mU_zs {v : Nat → Int → Int} (hR : rU v) (hC : rC v) (hS : rS v) {u : Nat} (hu3 : u < 3) (hu : (u : Int) < v 48 2) : mU (zs v) u ∧ mG (zs v) u (mF (zs v) u) := by
  obtain ⟨r1, r2, r3, r4, r5, r6, r7⟩ := hR u (by omega) (by omega)
  obtain ⟨s1, s2, s3, s4, s5, s6, s7, s8⟩ := hS u (by omega) hu
  have e1 := vi_zs (v := v) (a := 49) (j := u) (by omega)
  have e2 := vi_zs (v := v) (a := 50) (j := u) (by omega)
  have e3 := vi_zs (v := v) (a := 51) (j := u) (by omega)
  have e4 := vi_zs (v := v) (a := 52) (j := u) (by omega)
  have e5 := vi_zs (v := v) (a := 53) (j := u) (by omega)
  have e6 := vi_zs (v := v) (a := 56) (j := u) (by omega)
  have e7 := vi_zs (v := v) (a := 57) (j := u) (by omega)
  refine ⟨⟨by omega, by omega, by omega, by omega, by omega, by omega, by omega, fun j hj => ?_, fun j hj => ?_, by omega⟩, ?_⟩
  · have := hC.1 ((4 * u + j : Nat) : Int) (by omega) (by omega)
    rw [vi_zs (by omega)]
    exact this
  · have := hC.2 ((3 * u + j : Nat) : Int) (by omega) (by omega)
    rw [vi_zs (by omega)]
    exact this
  · unfold mG mF
    rw [e1, e2, e6, e7]
    (repeat' split) <;> omega
/-- n sets' outputs alone laid down -/
def lonS (v : Nat → Int → Int) (u : Int) : Nat → Int → Int := fun a j => if a = 66 ∧ 8 * u ≤ j ∧ j < 8 * u + v 48 1 then xL v u (j - 8 * u) else v a j
theorem lonS_row {v : Nat → Int → Int} {u : Int} {a : Nat} (h : a ≠ 66) : lonS v u a = v a := by
  funext j
  simp only [lonS, h, false_and, if_false]
theorem sM_lonS {v v' : Nat → Int → Int} (h : sameM v v') (u : Int) : sameM v (lonS v' u) := by
  refine ⟨fun a h1 h2 => ?_, ?_, ?_, ?_⟩
  · rw [lonS_row (by omega)]; exact h.1 a h1 h2
  · rw [lonS_row (by decide)]; exact h.2.1
  · rw [lonS_row (by decide)]; exact h.2.2.1
  · rw [lonS_row (by decide)]; exact h.2.2.2
/-- the longs behind a plan alone: but 65 and 67 the same -/
def fL65 (w w' : Nat → Int → Int) : Prop := ∀ a, a ≠ 65 → a ≠ 67 → w' a = w a
theorem n_planAlone (xs : List Int32) (sh : List q_Sh) (v w : Nat → Int → Int) (R : Nat → Nat → Option Nat) (hM : LM sh R) (hR : rU v) (hC : rC v) (hS : rS v) (hD : rD v) (hN : rN v) (u : Int) (hu : 0 ≤ u ∧ u < v 48 2) : ∃ w' : Nat → Int → Int, fL65 w w' ∧ w' 67 u = xC v u ∧ ∀ Q : q_H → Prop, q_CallV (GG xs) PP kMod_planAlone [.ref 48, .int (zi u)] (sh, zs v, zt w, R) Q = Q (sh, zs (lonS v u), zt w', R) := by
  have n1 := hN.1
  have n2 := hN.2
  obtain ⟨n, rfl⟩ : ∃ n : Nat, u = n := ⟨u.toNat, by omega⟩
  obtain ⟨hrs, eh⟩ : ∃ n : Nat, v 48 1 = n := ⟨(v 48 1).toNat, by omega⟩
  obtain ⟨g1, g2⟩ := mU_zs hR hC hS (u := n) (by omega) hu.2
  have key : q_CallV (GG xs) PP kMod_planAlone [.ref 48, .int (zi n)] (sh, zs v, zt w, R) (fun H' => ∃ w' : Nat → Int → Int, (fL65 w w' ∧ w' 67 n = xC v n) ∧ H' = (sh, zs (lonS v n), zt w', R)) := by
    refine sm_planAlone xs n hrs (by omega) (by omega) sh (zs v) (zt w) R hM (by show zi (v 48 1) = _; rw [eh]) g1 (fun h hh => ?_) g2 _ (fun S' L c1 c2 c3 c4 c5 => ?_)
    · have := (hD h (by omega) (by omega)).2.2
      rw [vi_zs (by omega)]
      exact this
    · refine ⟨fun a j => if a = 65 ∧ 0 ≤ j then (L 65 j.toNat).toInt else if a = 67 ∧ j = n then xC v n else w a j, ⟨fun a h1 h2 => ?_, ?_⟩, ?_⟩
      · funext j
        simp only [h1, h2, false_and, if_false]
      · simp
      · refine congrArg (Prod.mk sh) (congr (congrArg Prod.mk ?_) (congrArg (fun x => (x, R)) ?_))
        · funext a j
          show _ = zi (lonS v n a j)
          unfold lonS
          by_cases c : a = 66
          · subst c
            by_cases d : 8 * n ≤ j ∧ j < 8 * n + hrs
            · rw [if_pos (by omega), show j = 8 * n + (j - 8 * n) by omega, c2 (j - 8 * n) (by omega)]
              unfold xL
              rw [eh, Int.toNat_natCast, Int.toNat_natCast, show (((8 * n + (j - 8 * n) : Nat) : Int) - 8 * (n : Int)).toNat = j - 8 * n by omega]
            · rw [if_neg (by omega), c3 j d]
              rfl
          · rw [if_neg (by simp [c]), c1 a c]
            rfl
        · funext a j
          show _ = zl (if a = 65 ∧ (0 : Int) ≤ j then (L 65 (j : Int).toNat).toInt else if a = 67 ∧ (j : Int) = n then xC v n else w a j)
          by_cases c : a = 65
          · subst c
            rw [if_pos (by omega), Int.toNat_natCast, ← zl_of]
          · rw [if_neg (by simp [c])]
            by_cases d : a = 67 ∧ j = n
            · rw [if_pos (by omega), d.1, d.2, c5]
              unfold xC
              rw [eh, Int.toNat_natCast, Int.toNat_natCast]
            · rw [if_neg (by omega), c4 a j c d]
              rfl
  obtain ⟨H0, ⟨w', h1, e⟩, h2⟩ := cVx key
  exact ⟨w', h1.1, h1.2, fun Q => by rw [h2, e]⟩
