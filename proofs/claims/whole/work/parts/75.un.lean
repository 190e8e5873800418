/-! The class's small ones and its sets. -/
theorem zi_ite (p : Prop) [Decidable p] (a b : Int) : (if p then zi a else zi b) = zi (if p then a else b) := by
  split <;> rfl
theorem d_within (xs : List Int32) (a b c : Int) (H : q_H) (ha : -2147483648 ≤ a ∧ a < 2147483648) (hb : -2147483648 ≤ b ∧ b < 2147483648) (hc : -2147483648 ≤ c ∧ c < 2147483648) (Q : Int32 → q_H → Prop) : q_CallI (GG xs) PP kDesk_within [.int (zi a), .int (zi b), .int (zi c)] H Q = Q (zb (b ≤ a ∧ a ≤ c)) H := cI (fun Q hQ => by
  refine e_Desk_within xs _ _ _ _ H ?_
  simp (discharger := first | assumption | omega) [fI, fL, fV, zs_ar, zt_ar, zs_un, zt_un, zn_c, zu_a, zu_e, zu_j, zix, zi_lit, zl_lit, zi_add, zi_sub, zi_mul, zi_neg, zi_le, zi_lt, zi_eq, zl_add, zl_sub, zl_mul, zi_i2l, zl_l2i, zb0, zb1, zb0', zb1', zi_c0, zi_c1, zb_c]
  unfold zb at hQ
  repeat' (first | (refine And.intro (fun _ => ?_) (fun _ => ?_)) | (intro _) | fail)
  all_goals exact zi_cg (Q := Q) hQ (by (repeat' split) <;> omega)) Q
theorem d_power (xs : List Int32) (l h : Int) (H : q_H) (hl : -2147483648 ≤ l ∧ l < 2147483648) (hh : -2147483648 ≤ h ∧ h < 2147483648) (Q : Int32 → q_H → Prop) : q_CallI (GG xs) PP kDesk_powerCanBe [.int (zi l), .int (zi h)] H Q = Q (zb ((1 ≤ l ∧ l ≤ 60) ∧ (l ≤ h ∧ h ≤ 60) ∧ h ≤ l + 3)) H := cI (fun Q hQ => by
  refine e_Desk_powerCanBe xs _ _ _ H ?_
  by_cases c1 : 1 ≤ l ∧ l ≤ 60
  · simp (discharger := first | assumption | omega) [fI, fL, fV, zs_ar, zt_ar, zs_un, zt_un, zn_c, zu_a, zu_e, zu_j, zix, zi_lit, zl_lit, zi_add, zi_sub, zi_mul, zi_neg, zi_le, zi_lt, zi_eq, zl_add, zl_sub, zl_mul, zi_i2l, zl_l2i, zb0, zb1, zb0', zb1', zi_c0, zi_c1, zb_c, d_within, c1]
    unfold zb at hQ
    repeat' (first | (refine And.intro (fun _ => ?_) (fun _ => ?_)) | (intro _) | fail)
    all_goals exact zi_cg (Q := Q) hQ (by (repeat' split) <;> omega)
  · simp (discharger := first | assumption | omega) [fI, fL, fV, zs_ar, zt_ar, zs_un, zt_un, zn_c, zu_a, zu_e, zu_j, zix, zi_lit, zl_lit, zi_add, zi_sub, zi_mul, zi_neg, zi_le, zi_lt, zi_eq, zl_add, zl_sub, zl_mul, zi_i2l, zl_l2i, zb0, zb1, zb0', zb1', zi_c0, zi_c1, zb_c, d_within, c1]
    rw [← zbF (fun q => c1 q.1)] at hQ
    exact hQ) Q
theorem d_cost (xs : List Int32) (a : Int) (H : q_H) (ha : -2147483648 ≤ a ∧ a < 2147483648) (Q : Int32 → q_H → Prop) : q_CallI (GG xs) PP kDesk_costCanBe [.int (zi a)] H Q = Q (zb (0 ≤ a ∧ a ≤ 10000)) H := cI (fun Q hQ => by
  refine e_Desk_costCanBe xs _ _ H ?_
  simp (discharger := first | assumption | omega) [fI, fL, fV, zs_ar, zt_ar, zs_un, zt_un, zn_c, zu_a, zu_e, zu_j, zix, zi_lit, zl_lit, zi_add, zi_sub, zi_mul, zi_neg, zi_le, zi_lt, zi_eq, zl_add, zl_sub, zl_mul, zi_i2l, zl_l2i, zb0, zb1, zb0', zb1', zi_c0, zi_c1, zb_c, d_within]
  exact hQ) Q
theorem d_cell (xs : List Int32) (u h : Int) (H : q_H) (Q : Int32 → q_H → Prop) : q_CallI (GG xs) PP kDesk_cell [.int (zi u), .int (zi h)] H Q = Q (zi (8 * u + h)) H := cI (fun Q hQ => by
  refine e_Desk_cell xs _ _ _ H ?_
  simp (discharger := first | assumption | omega) [fI, fL, fV, zs_ar, zt_ar, zs_un, zt_un, zn_c, zu_a, zu_e, zu_j, zix, zi_lit, zl_lit, zi_add, zi_sub, zi_mul, zi_neg, zi_le, zi_lt, zi_eq, zl_add, zl_sub, zl_mul, zi_i2l, zl_l2i, zb0, zb1, zb0', zb1', zi_c0, zi_c1, zb_c, Int.mul_comm u 8]
  exact hQ) Q
/-- a set's cells -/
def uc (u : Int) : Nat := 36 + 4 * u.toNat
def LU (sh : List q_Sh) (R : Nat → Nat → Option Nat) (a : Nat) : Prop := sh[a]? = some (.inl 6) ∧ sh[a + 1]? = some (.inr (0, 5)) ∧ sh[a + 2]? = some (.inr (0, 3)) ∧ sh[a + 3]? = some (.inr (0, 75)) ∧ R a 7 = some (a + 1) ∧ R a 8 = some (a + 2) ∧ R a 9 = some (a + 3)
theorem LD_LU {sh : List q_Sh} {R : Nat → Nat → Option Nat} (hD : LD sh R) {u : Int} (hu : 0 ≤ u ∧ u < 3) : LU sh R (uc u) := by
  obtain rfl | rfl | rfl : u = 0 ∨ u = 1 ∨ u = 2 := by omega
  · simp [LU, uc, hD]
  · simp [LU, uc, hD]
  · simp [LU, uc, hD]
theorem LD_un {sh : List q_Sh} {R : Nat → Nat → Option Nat} (hD : LD sh R) {u : Int} (hu : 0 ≤ u ∧ u < 3) : R 33 (zn u) = some (uc u) := by
  obtain rfl | rfl | rfl : u = 0 ∨ u = 1 ∨ u = 2 := by omega
  · simp [zn, uc, hD]
  · simp [zn, uc, hD]
  · simp [zn, uc, hD]
/-- what is known of a set's cells -/
def dU (v : Nat → Int → Int) (a : Nat) : Prop := (1 ≤ v a 0 ∧ v a 0 ≤ 60) ∧ (0 ≤ v a 1 ∧ v a 1 ≤ 60) ∧ (1 ≤ v a 2 ∧ v a 2 ≤ 3) ∧ (1 ≤ v a 3 ∧ v a 3 ≤ 3) ∧ (1 ≤ v a 4 ∧ v a 4 ≤ 3) ∧ (0 ≤ v a 5 ∧ v a 5 ≤ 60) ∧ (1 ≤ v a 6 ∧ v a 6 ≤ 100) ∧ v a 1 ≤ v a 0 + 3
theorem d_canGive (xs : List Int32) (sh : List q_Sh) (v w : Nat → Int → Int) (R : Nat → Nat → Option Nat) (a : Nat) (hL : LU sh R a) (hU : dU v a) (x : Int) (hx : -2147483648 ≤ x ∧ x < 2147483648) (Q : Int32 → q_H → Prop) : q_CallI (GG xs) PP kUnit_canGive [.ref a, .int (zi x)] (sh, zs v, zt w, R) Q = Q (zb (v a 0 ≤ x ∧ x ≤ v a 1)) (sh, zs v, zt w, R) := cI (fun Q hQ => by
  obtain ⟨u1, u2, u3, u4, u5, u6, u7, u8⟩ := hU
  refine e_Unit_canGive xs _ _ _ (sh, zs v, zt w, R) ?_
  simp (discharger := first | assumption | omega) [fI, fL, fV, zs_ar, zt_ar, zs_un, zt_un, zn_c, zu_a, zu_e, zu_j, zix, zi_lit, zl_lit, zi_add, zi_sub, zi_mul, zi_neg, zi_le, zi_lt, zi_eq, zl_add, zl_sub, zl_mul, zi_i2l, zl_l2i, zb0, zb1, zb0', zb1', zi_c0, zi_c1, zb_c, hL.1]
  unfold zb at hQ
  repeat' (first | (refine And.intro (fun _ => ?_) (fun _ => ?_)) | (intro _) | fail)
  all_goals exact zi_cg (Q := Q) hQ (by (repeat' split) <;> omega)) Q
theorem d_canChoose (xs : List Int32) (sh : List q_Sh) (v w : Nat → Int → Int) (R : Nat → Nat → Option Nat) (a : Nat) (hL : LU sh R a) (hU : dU v a) (c : Int) (hc : 0 ≤ c ∧ c < 5) (Q : Int32 → q_H → Prop) : q_CallI (GG xs) PP kUnit_canChoose [.ref a, .int (zi c)] (sh, zs v, zt w, R) Q = Q (zb (c = 0 ∨ v a 0 + c - 1 ≤ v a 1)) (sh, zs v, zt w, R) := cI (fun Q hQ => by
  obtain ⟨u1, u2, u3, u4, u5, u6, u7, u8⟩ := hU
  refine e_Unit_canChoose xs _ _ _ (sh, zs v, zt w, R) ?_
  simp (discharger := first | assumption | omega) [fI, fL, fV, zs_ar, zt_ar, zs_un, zt_un, zn_c, zu_a, zu_e, zu_j, zix, zi_lit, zl_lit, zi_add, zi_sub, zi_mul, zi_neg, zi_le, zi_lt, zi_eq, zl_add, zl_sub, zl_mul, zi_i2l, zl_l2i, zb0, zb1, zb0', zb1', zi_c0, zi_c1, zb_c, hL.1]
  unfold zb at hQ
  repeat' (first | (refine And.intro (fun _ => ?_) (fun _ => ?_)) | (intro _) | fail)
  all_goals exact zi_cg (Q := Q) hQ (by (repeat' split) <;> omega)) Q
def zout (lo c : Int) : Int := if c = 0 then 0 else lo + c - 1
theorem d_outputOf (xs : List Int32) (sh : List q_Sh) (v w : Nat → Int → Int) (R : Nat → Nat → Option Nat) (a : Nat) (hL : LU sh R a) (c : Int) (hc : 0 ≤ c ∧ c < 5) (Q : Int32 → q_H → Prop) : q_CallI (GG xs) PP kUnit_outputOf [.ref a, .int (zi c)] (sh, zs v, zt w, R) Q = Q (zi (zout (v a 0) c)) (sh, zs v, zt w, R) := cI (fun Q hQ => by
  refine e_Unit_outputOf xs _ _ _ (sh, zs v, zt w, R) ?_
  simp (discharger := first | assumption | omega) [fI, fL, fV, zs_ar, zt_ar, zs_un, zt_un, zn_c, zu_a, zu_e, zu_j, zix, zi_lit, zl_lit, zi_add, zi_sub, zi_mul, zi_neg, zi_le, zi_lt, zi_eq, zl_add, zl_sub, zl_mul, zi_i2l, zl_l2i, zb0, zb1, zb0', zb1', zi_c0, zi_c1, zb_c, hL.1]
  unfold zout at hQ
  repeat' (first | (refine And.intro (fun _ => ?_) (fun _ => ?_)) | (intro _) | fail)
  all_goals exact zi_cg (Q := Q) hQ (by (repeat' split) <;> omega)) Q
def zcho (lo hi x : Int) : Int := if lo ≤ x ∧ x ≤ hi then x - lo + 1 else 0
theorem d_choiceFor (xs : List Int32) (sh : List q_Sh) (v w : Nat → Int → Int) (R : Nat → Nat → Option Nat) (a : Nat) (hL : LU sh R a) (hU : dU v a) (x : Int) (hx : -2147483648 ≤ x ∧ x < 2147483648) (Q : Int32 → q_H → Prop) : q_CallI (GG xs) PP kUnit_choiceFor [.ref a, .int (zi x)] (sh, zs v, zt w, R) Q = Q (zi (zcho (v a 0) (v a 1) x)) (sh, zs v, zt w, R) := cI (fun Q hQ => by
  refine e_Unit_choiceFor xs _ _ _ (sh, zs v, zt w, R) ?_
  unfold zcho at hQ
  by_cases c : v a 0 ≤ x ∧ x ≤ v a 1
  · rw [if_pos c] at hQ
    simp (discharger := first | assumption | omega) [fI, fL, fV, zs_ar, zt_ar, zs_un, zt_un, zn_c, zu_a, zu_e, zu_j, zix, zi_lit, zl_lit, zi_add, zi_sub, zi_mul, zi_neg, zi_le, zi_lt, zi_eq, zl_add, zl_sub, zl_mul, zi_i2l, zl_l2i, zb0, zb1, zb0', zb1', zi_c0, zi_c1, zb_c, hL.1, d_canGive, c]
    exact hQ
  · rw [if_neg c] at hQ
    simp (discharger := first | assumption | omega) [fI, fL, fV, zs_ar, zt_ar, zs_un, zt_un, zn_c, zu_a, zu_e, zu_j, zix, zi_lit, zl_lit, zi_add, zi_sub, zi_mul, zi_neg, zi_le, zi_lt, zi_eq, zl_add, zl_sub, zl_mul, zi_i2l, zl_l2i, zb0, zb1, zb0', zb1', zi_c0, zi_c1, zb_c, hL.1, d_canGive, c]
    exact hQ) Q
theorem zcho_rng {v : Nat → Int → Int} {a : Nat} (hU : dU v a) (x : Int) : 0 ≤ zcho (v a 0) (v a 1) x ∧ zcho (v a 0) (v a 1) x < 5 := by
  obtain ⟨u1, u2, u3, u4, u5, u6, u7, u8⟩ := hU
  unfold zcho
  split <;> omega
/-- the state before the first hour -/
def zsb (ch up n : Int) : Int := ch * 3 + (if ch = 0 then (if 3 < n then 3 else n) else (if up < n then up else n)) - 1
def dF (v : Nat → Int → Int) (a : Nat) : Int := zsb (zcho (v a 0) (v a 1) (v a 5)) (v a 2) (v a 6)
theorem d_stateBefore (xs : List Int32) (sh : List q_Sh) (v w : Nat → Int → Int) (R : Nat → Nat → Option Nat) (a : Nat) (hL : LU sh R a) (hU : dU v a) (Q : Int32 → q_H → Prop) : q_CallI (GG xs) PP kUnit_stateBefore [.ref a] (sh, zs v, zt w, R) Q = Q (zi (dF v a)) (sh, zs v, zt w, R) := cI (fun Q hQ => by
  have hU' := hU
  obtain ⟨u1, u2, u3, u4, u5, u6, u7, u8⟩ := hU'
  have z := zcho_rng hU (v a 5)
  refine e_Unit_stateBefore xs _ _ (sh, zs v, zt w, R) ?_
  unfold dF zsb at hQ
  simp (discharger := first | assumption | omega) [fI, fL, fV, zs_ar, zt_ar, zs_un, zt_un, zn_c, zu_a, zu_e, zu_j, zix, zi_lit, zl_lit, zi_add, zi_sub, zi_mul, zi_neg, zi_le, zi_lt, zi_eq, zl_add, zl_sub, zl_mul, zi_i2l, zl_l2i, zb0, zb1, zb0', zb1', zi_c0, zi_c1, zb_c, hL.1, d_choiceFor, zi_ite]
  refine ⟨fun c => ?_, fun c => ?_⟩
  · rw [if_neg c] at hQ
    exact hQ
  · rw [if_pos c] at hQ
    exact hQ) Q
theorem d_nextState (xs : List Int32) (sh : List q_Sh) (v w : Nat → Int → Int) (R : Nat → Nat → Option Nat) (a : Nat) (hL : LU sh R a) (s c : Int) (hs : 0 ≤ s ∧ s < 15) (hc : 0 ≤ c ∧ c < 5) (Q : Int32 → q_H → Prop) : q_CallI (GG xs) PP kUnit_nextState [.ref a, .int (zi s), .int (zi c)] (sh, zs v, zt w, R) Q = Q (zi (v (a + 3) (s * 5 + c))) (sh, zs v, zt w, R) := cI (fun Q hQ => by
  refine e_Unit_nextState xs _ _ _ _ (sh, zs v, zt w, R) ?_
  simp (discharger := first | assumption | omega) [fI, fL, fV, zs_ar, zt_ar, zs_un, zt_un, zn_c, zu_a, zu_e, zu_j, zix, zi_lit, zl_lit, zi_add, zi_sub, zi_mul, zi_neg, zi_le, zi_lt, zi_eq, zl_add, zl_sub, zl_mul, zi_i2l, zl_l2i, zb0, zb1, zb0', zb1', zi_c0, zi_c1, zb_c, hL.1, hL.2.2.2.1, hL.2.2.2.2.2.2]
  exact hQ) Q
theorem d_costOfHour (xs : List Int32) (sh : List q_Sh) (v w : Nat → Int → Int) (R : Nat → Nat → Option Nat) (a : Nat) (hL : LU sh R a) (c : Int) (hc : 0 ≤ c ∧ c < 5) (Q : Int32 → q_H → Prop) : q_CallI (GG xs) PP kUnit_costOfHour [.ref a, .int (zi c)] (sh, zs v, zt w, R) Q = Q (zi (v (a + 1) c)) (sh, zs v, zt w, R) := cI (fun Q hQ => by
  refine e_Unit_costOfHour xs _ _ _ (sh, zs v, zt w, R) ?_
  simp (discharger := first | assumption | omega) [fI, fL, fV, zs_ar, zt_ar, zs_un, zt_un, zn_c, zu_a, zu_e, zu_j, zix, zi_lit, zl_lit, zi_add, zi_sub, zi_mul, zi_neg, zi_le, zi_lt, zi_eq, zl_add, zl_sub, zl_mul, zi_i2l, zl_l2i, zb0, zb1, zb0', zb1', zi_c0, zi_c1, zb_c, hL.1, hL.2.1, hL.2.2.2.2.1]
  exact hQ) Q
theorem d_costOfStart (xs : List Int32) (sh : List q_Sh) (v w : Nat → Int → Int) (R : Nat → Nat → Option Nat) (a : Nat) (hL : LU sh R a) (n : Int) (hn : 0 ≤ n ∧ n < 1000) (Q : Int32 → q_H → Prop) : q_CallI (GG xs) PP kUnit_costOfStart [.ref a, .int (zi n)] (sh, zs v, zt w, R) Q = Q (zi (v (a + 2) ((if 1 < (if 3 < n then 3 else n) then (if 3 < n then 3 else n) else 1) - 1))) (sh, zs v, zt w, R) := cI (fun Q hQ => by
  have r1 : -2147483648 ≤ (if 3 < n then 3 else n) ∧ (if 3 < n then 3 else n) < 2147483648 := by split <;> omega
  have r2 : 0 ≤ (if 1 < (if 3 < n then 3 else n) then (if 3 < n then 3 else n) else 1) - 1 ∧ (if 1 < (if 3 < n then 3 else n) then (if 3 < n then 3 else n) else 1) - 1 < 3 := by (repeat' split) <;> omega
  refine e_Unit_costOfStart xs _ _ _ (sh, zs v, zt w, R) ?_
  simp (discharger := first | assumption | omega) [fI, fL, fV, zs_ar, zt_ar, zs_un, zt_un, zn_c, zu_a, zu_e, zu_j, zix, zi_lit, zl_lit, zi_add, zi_sub, zi_mul, zi_neg, zi_le, zi_lt, zi_eq, zl_add, zl_sub, zl_mul, zi_i2l, zl_l2i, zb0, zb1, zb0', zb1', zi_c0, zi_c1, zb_c, hL.1, hL.2.2.1, hL.2.2.2.2.2.1, zi_ite, zix r2.1 r2.2]
  exact hQ) Q
/-- what a step costs -/
theorem d_costOfStep (xs : List Int32) (sh : List q_Sh) (v w : Nat → Int → Int) (R : Nat → Nat → Option Nat) (a : Nat) (hL : LU sh R a) (s c : Int) (hs : 0 ≤ s ∧ s < 15) (hc : 0 ≤ c ∧ c < 5) (Q : Int32 → q_H → Prop) : q_CallI (GG xs) PP kUnit_costOfStep [.ref a, .int (zi s), .int (zi c)] (sh, zs v, zt w, R) Q = Q (zi (v (a + 1) c + (if s < 3 ∧ c ≠ 0 then v (a + 2) s else 0))) (sh, zs v, zt w, R) := cI (fun Q hQ => by
  have L : ∀ x : Int, x = (if s < 3 ∧ c ≠ 0 then 1 else 0) → q_Rt (GG xs) PP 130 (q_FI Q) 14 [some (.ref a), some (.int (zi s)), some (.int (zi c)), none] [.int (zi x)] (sh, zs v, zt w, R) := by
    intro x hx
    refine b_Unit_costOfStep_14 xs _ _ _ _ _ (sh, zs v, zt w, R) ?_
    by_cases q : s < 3 ∧ c ≠ 0
    · rw [if_pos q] at hQ hx
      subst hx
      simp (discharger := first | assumption | omega) [fI, fL, fV, zs_ar, zt_ar, zs_un, zt_un, zn_c, zu_a, zu_e, zu_j, zix, zi_lit, zl_lit, zi_add, zi_sub, zi_mul, zi_neg, zi_le, zi_lt, zi_eq, zl_add, zl_sub, zl_mul, zi_i2l, zl_l2i, zb0, zb1, zb0', zb1', zi_c0, zi_c1, zb_c, hL.1, hL.2.1, hL.2.2.1, hL.2.2.2.2.1, hL.2.2.2.2.2.1]
      exact hQ
    · rw [if_neg q] at hQ hx
      subst hx
      simp (discharger := first | assumption | omega) [fI, fL, fV, zs_ar, zt_ar, zs_un, zt_un, zn_c, zu_a, zu_e, zu_j, zix, zi_lit, zl_lit, zi_add, zi_sub, zi_mul, zi_neg, zi_le, zi_lt, zi_eq, zl_add, zl_sub, zl_mul, zi_i2l, zl_l2i, zb0, zb1, zb0', zb1', zi_c0, zi_c1, zb_c, hL.1, hL.2.1, hL.2.2.1, hL.2.2.2.2.1, hL.2.2.2.2.2.1]
      simpa using hQ
  refine e_Unit_costOfStep xs _ _ _ _ (sh, zs v, zt w, R) ?_
  simp (discharger := first | assumption | omega) [fI, fL, fV, zs_ar, zt_ar, zs_un, zt_un, zn_c, zu_a, zu_e, zu_j, zix, zi_lit, zl_lit, zi_add, zi_sub, zi_mul, zi_neg, zi_le, zi_lt, zi_eq, zl_add, zl_sub, zl_mul, zi_i2l, zl_l2i, zb0, zb1, zb0', zb1', zi_c0, zi_c1, zb_c]
  repeat' (first | (refine And.intro (fun _ => ?_) (fun _ => ?_)) | (intro _) | fail)
  all_goals exact L _ (by split <;> omega)) Q
/-- the class's state behind an hour of a choice, -1 if none -/
def znx (lo hi up dn rp s c : Int) : Int :=
  if c = 0 ∨ lo + c - 1 ≤ hi then
    (if c = 0 then (if s / 3 = 0 then (if 2 < s % 3 + 1 then 2 else s % 3 + 1) else if up ≤ s % 3 + 1 then 0 else -1)
     else if s / 3 = 0 then (if s % 3 + 1 < dn then -1 else if c - 1 ≤ rp then c * 3 else -1)
     else if (if 0 ≤ c - s / 3 then c - s / 3 else s / 3 - c) ≤ rp then c * 3 + (if up - 1 < s % 3 + 1 then up - 1 else s % 3 + 1) else -1)
  else -1
def dX (v : Nat → Int → Int) (a : Nat) (s c : Int) : Int := znx (v a 0) (v a 1) (v a 2) (v a 3) (v a 4) s c
theorem d_find (xs : List Int32) (sh : List q_Sh) (v w : Nat → Int → Int) (R : Nat → Nat → Option Nat) (a : Nat) (hL : LU sh R a) (hU : dU v a) (s c : Int) (hs : 0 ≤ s ∧ s < 15) (hc : 0 ≤ c ∧ c < 5) (Q : Int32 → q_H → Prop) : q_CallI (GG xs) PP kUnit_findNextState [.ref a, .int (zi s), .int (zi c)] (sh, zs v, zt w, R) Q = Q (zi (dX v a s c)) (sh, zs v, zt w, R) := cI (fun Q hQ => by
  have hU' := hU
  obtain ⟨u1, u2, u3, u4, u5, u6, u7, u8⟩ := hU'
  unfold dX znx at hQ
  have em : s - s / 3 * 3 = s % 3 := by omega
  refine e_Unit_findNextState xs _ _ _ _ (sh, zs v, zt w, R) ?_
  by_cases c1 : c = 0 ∨ v a 0 + c - 1 ≤ v a 1
  · rw [if_pos c1] at hQ
    have L : ¬ (s / 3 = 0 ∧ c = 0) → q_Rt (GG xs) PP 132 (q_FI Q) 36 [some (.ref a), none, some (.int (zi c)), some (.int (zi (s / 3))), some (.int (zi (s % 3 + 1)))] [] (sh, zs v, zt w, R) := fun q => by
      refine b_Unit_findNextState_36 xs _ _ _ _ _ (sh, zs v, zt w, R) ?_
      have r1 : -2147483648 ≤ (if 0 ≤ c - s / 3 then c - s / 3 else 0 - (c - s / 3)) ∧ (if 0 ≤ c - s / 3 then c - s / 3 else 0 - (c - s / 3)) < 2147483648 := by split <;> omega
      simp (discharger := first | assumption | omega) [fI, fL, fV, zs_ar, zt_ar, zs_un, zt_un, zn_c, zu_a, zu_e, zu_j, zix, zi_lit, zl_lit, zi_add, zi_sub, zi_mul, zi_neg, zi_le, zi_lt, zi_eq, zl_add, zl_sub, zl_mul, zi_i2l, zl_l2i, zb0, zb1, zb0', zb1', zi_c0, zi_c1, zb_c, hL.1, zi_ite, zi_le r1.1 r1.2]
      repeat' (first | (refine And.intro (fun _ => ?_) (fun _ => ?_)) | (intro _) | fail)

      all_goals exact zi_cg (Q := Q) hQ (by (repeat' split) <;> omega)
    simp (discharger := first | assumption | omega) [fI, fL, fV, zs_ar, zt_ar, zs_un, zt_un, zn_c, zu_a, zu_e, zu_j, zix, zi_lit, zl_lit, zi_add, zi_sub, zi_mul, zi_neg, zi_le, zi_lt, zi_eq, zl_add, zl_sub, zl_mul, zi_i2l, zl_l2i, zb0, zb1, zb0', zb1', zi_c0, zi_c1, zb_c, hL.1, d_canChoose, c1, zi_div, em, zi_ite]
    refine ⟨fun q1 => L (by omega), fun q1 => ⟨fun q2 => L (by omega), fun q2 => ?_⟩⟩
    exact zi_cg (Q := Q) hQ (by (repeat' split) <;> omega)
  · rw [if_neg c1] at hQ
    simp (discharger := first | assumption | omega) [fI, fL, fV, zs_ar, zt_ar, zs_un, zt_un, zn_c, zu_a, zu_e, zu_j, zix, zi_lit, zl_lit, zi_add, zi_sub, zi_mul, zi_neg, zi_le, zi_lt, zi_eq, zl_add, zl_sub, zl_mul, zi_i2l, zl_l2i, zb0, zb1, zb0', zb1', zi_c0, zi_c1, zb_c, hL.1, d_canChoose, c1]
    exact hQ) Q
