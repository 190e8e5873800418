/-! The reference's small ones, as equations. -/
theorem n_thrown (xs : List Int32) (sh : List q_Sh) (v w : Nat → Int → Int) (R : Nat → Nat → Option Nat) (hM : LM sh R) (Q : Int32 → q_H → Prop) : q_CallI (GG xs) PP kMod_thrown [.ref 48] (sh, zs v, zt w, R) Q = Q (zi (v 48 0)) (sh, zs v, zt w, R) := cI (fun Q hQ => e_Mod_thrown xs _ 48 (sh, zs v, zt w, R) (by simp (discharger := first | assumption | omega) [hM, fI, fL, fV, zs_ar, zt_ar, zs_un, zt_un, zn_c, zu_a, zu_e, zu_j, zix, zi_lit, zl_lit, zi_add, zi_sub, zi_mul, zi_neg, zi_le, zi_lt, zi_eq, zl_add, zl_sub, zl_mul, zi_i2l, zl_l2i, zb0, zb1, zb0', zb1', zi_c0, zi_c1, zb_c]; exact hQ)) Q
theorem n_fails (xs : List Int32) (sh : List q_Sh) (v w : Nat → Int → Int) (R : Nat → Nat → Option Nat) (hM : LM sh R) (a : Int) (Q : Int32 → q_H → Prop) : q_CallI (GG xs) PP kMod_fails [.ref 48, .int (zi a)] (sh, zs v, zt w, R) Q = Q (zi 0) (sh, zs (zu v 48 0 a), zt w, R) := cI (fun Q hQ => e_Mod_fails xs _ 48 _ (sh, zs v, zt w, R) (by simp (discharger := first | assumption | omega) [hM, fI, fL, fV, zs_ar, zt_ar, zs_un, zt_un, zn_c, zu_a, zu_e, zu_j, zix, zi_lit, zl_lit, zi_add, zi_sub, zi_mul, zi_neg, zi_le, zi_lt, zi_eq, zl_add, zl_sub, zl_mul, zi_i2l, zl_l2i, zb0, zb1, zb0', zb1', zi_c0, zi_c1, zb_c]; exact hQ)) Q
theorem n_in (xs : List Int32) (a b c : Int) (H : q_H) (ha : -2147483648 ≤ a ∧ a < 2147483648) (hb : -2147483648 ≤ b ∧ b < 2147483648) (hc : -2147483648 ≤ c ∧ c < 2147483648) (Q : Int32 → q_H → Prop) : q_CallI (GG xs) PP kMod_in [.int (zi a), .int (zi b), .int (zi c)] H Q = Q (zb (b ≤ a ∧ a ≤ c)) H := cI (fun Q hQ => by
  refine e_Mod_in xs _ _ _ _ H ?_
  simp (discharger := first | assumption | omega) [fI, fL, fV, zs_ar, zt_ar, zs_un, zt_un, zn_c, zu_a, zu_e, zu_j, zix, zi_lit, zl_lit, zi_add, zi_sub, zi_mul, zi_neg, zi_le, zi_lt, zi_eq, zl_add, zl_sub, zl_mul, zi_i2l, zl_l2i, zb0, zb1, zb0', zb1', zi_c0, zi_c1, zb_c]
  unfold zb at hQ
  repeat' (first | (refine And.intro (fun _ => ?_) (fun _ => ?_)) | (intro _) | fail)
  all_goals exact zi_cg (Q := Q) hQ (by (repeat' split) <;> omega)) Q
theorem n_isSet (xs : List Int32) (sh : List q_Sh) (v w : Nat → Int → Int) (R : Nat → Nat → Option Nat) (hM : LM sh R) (u : Int) (hu : -2147483648 ≤ u ∧ u < 2147483648) (hn : 0 ≤ v 48 2 ∧ v 48 2 ≤ 3) (Q : Int32 → q_H → Prop) : q_CallI (GG xs) PP kMod_isSet [.ref 48, .int (zi u)] (sh, zs v, zt w, R) Q = Q (zb (0 ≤ u ∧ u < v 48 2)) (sh, zs v, zt w, R) := cI (fun Q hQ => by
  refine e_Mod_isSet xs _ _ _ (sh, zs v, zt w, R) ?_
  simp (discharger := first | assumption | omega) [hM, fI, fL, fV, zs_ar, zt_ar, zs_un, zt_un, zn_c, zu_a, zu_e, zu_j, zix, zi_lit, zl_lit, zi_add, zi_sub, zi_mul, zi_neg, zi_le, zi_lt, zi_eq, zl_add, zl_sub, zl_mul, zi_i2l, zl_l2i, zb0, zb1, zb0', zb1', zi_c0, zi_c1, zb_c]
  unfold zb at hQ
  repeat' (first | (refine And.intro (fun _ => ?_) (fun _ => ?_)) | (intro _) | fail)
  all_goals exact zi_cg (Q := Q) hQ (by (repeat' split) <;> omega)) Q
theorem n_isHour (xs : List Int32) (sh : List q_Sh) (v w : Nat → Int → Int) (R : Nat → Nat → Option Nat) (hM : LM sh R) (u : Int) (hu : -2147483648 ≤ u ∧ u < 2147483648) (hn : 1 ≤ v 48 1 ∧ v 48 1 ≤ 8) (Q : Int32 → q_H → Prop) : q_CallI (GG xs) PP kMod_isHour [.ref 48, .int (zi u)] (sh, zs v, zt w, R) Q = Q (zb (0 ≤ u ∧ u < v 48 1)) (sh, zs v, zt w, R) := cI (fun Q hQ => by
  refine e_Mod_isHour xs _ _ _ (sh, zs v, zt w, R) ?_
  simp (discharger := first | assumption | omega) [hM, fI, fL, fV, zs_ar, zt_ar, zs_un, zt_un, zn_c, zu_a, zu_e, zu_j, zix, zi_lit, zl_lit, zi_add, zi_sub, zi_mul, zi_neg, zi_le, zi_lt, zi_eq, zl_add, zl_sub, zl_mul, zi_i2l, zl_l2i, zb0, zb1, zb0', zb1', zi_c0, zi_c1, zb_c]
  unfold zb at hQ
  repeat' (first | (refine And.intro (fun _ => ?_) (fun _ => ?_)) | (intro _) | fail)
  all_goals exact zi_cg (Q := Q) hQ (by (repeat' split) <;> omega)) Q
def zof (all u : Int) : Int := if u = 0 then all / 225 else if u = 1 then all / 15 % 15 else all % 15
theorem n_of (xs : List Int32) (all u : Int) (H : q_H) (ha : 0 ≤ all ∧ all < 3375) (hu : 0 ≤ u ∧ u < 3) (Q : Int32 → q_H → Prop) : q_CallI (GG xs) PP kMod_of [.int (zi all), .int (zi u)] H Q = Q (zi (zof all u)) H := cI (fun Q hQ => by
  refine e_Mod_of xs _ _ _ H ?_
  simp (discharger := first | assumption | omega) [fI, fL, fV, zs_ar, zt_ar, zs_un, zt_un, zn_c, zu_a, zu_e, zu_j, zix, zi_lit, zl_lit, zi_add, zi_sub, zi_mul, zi_neg, zi_le, zi_lt, zi_eq, zl_add, zl_sub, zl_mul, zi_i2l, zl_l2i, zb0, zb1, zb0', zb1', zi_c0, zi_c1, zb_c, zi_div]
  unfold zof at hQ
  repeat' (first | (refine And.intro (fun _ => ?_) (fun _ => ?_)) | (intro _) | fail)
  all_goals exact zi_cg (Q := Q) hQ (by (repeat' split) <;> omega)) Q
theorem n_isOn (xs : List Int32) (sh : List q_Sh) (v w : Nat → Int → Int) (R : Nat → Nat → Option Nat) (hM : LM sh R) (u h : Int) (hu : 0 ≤ u ∧ u < 3) (hh : 0 ≤ h ∧ h < 8) (hv : -2147483648 ≤ v 60 (8 * u + h) ∧ v 60 (8 * u + h) < 2147483648) (Q : Int32 → q_H → Prop) : q_CallI (GG xs) PP kMod_isOn [.ref 48, .int (zi u), .int (zi h)] (sh, zs v, zt w, R) Q = Q (zb (v 60 (8 * u + h) ≠ 0)) (sh, zs v, zt w, R) := cI (fun Q hQ => by
  refine e_Mod_isOn xs _ _ _ _ (sh, zs v, zt w, R) ?_
  simp (discharger := first | assumption | omega) [hM, fI, fL, fV, zs_ar, zt_ar, zs_un, zt_un, zn_c, zu_a, zu_e, zu_j, zix, zi_lit, zl_lit, zi_add, zi_sub, zi_mul, zi_neg, zi_le, zi_lt, zi_eq, zl_add, zl_sub, zl_mul, zi_i2l, zl_l2i, zb0, zb1, zb0', zb1', zi_c0, zi_c1, zb_c]
  unfold zb at hQ
  repeat' (first | (refine And.intro (fun _ => ?_) (fun _ => ?_)) | (intro _) | fail)
  all_goals exact zi_cg (Q := Q) hQ (by (repeat' split) <;> omega)) Q
theorem n_last (xs : List Int32) (sh : List q_Sh) (v w : Nat → Int → Int) (R : Nat → Nat → Option Nat) (hM : LM sh R) (u h : Int) (hu : 0 ≤ u ∧ u < 3) (hh : 0 ≤ h ∧ h < 8) (Q : Int32 → q_H → Prop) : q_CallI (GG xs) PP kMod_last [.ref 48, .int (zi u), .int (zi h)] (sh, zs v, zt w, R) Q = Q (zi (if h = 0 then v 56 u else v 60 (8 * u + h - 1))) (sh, zs v, zt w, R) := cI (fun Q hQ => by
  refine e_Mod_last xs _ _ _ _ (sh, zs v, zt w, R) ?_
  simp (discharger := first | assumption | omega) [hM, fI, fL, fV, zs_ar, zt_ar, zs_un, zt_un, zn_c, zu_a, zu_e, zu_j, zix, zi_lit, zl_lit, zi_add, zi_sub, zi_mul, zi_neg, zi_le, zi_lt, zi_eq, zl_add, zl_sub, zl_mul, zi_i2l, zl_l2i, zb0, zb1, zb0', zb1', zi_c0, zi_c1, zb_c]
  repeat' (first | (refine And.intro (fun _ => ?_) (fun _ => ?_)) | (intro _) | fail)
  all_goals try simp (discharger := first | assumption | omega) [hM, fI, fL, fV, zs_ar, zt_ar, zs_un, zt_un, zn_c, zu_a, zu_e, zu_j, zix, zi_lit, zl_lit, zi_add, zi_sub, zi_mul, zi_neg, zi_le, zi_lt, zi_eq, zl_add, zl_sub, zl_mul, zi_i2l, zl_l2i, zb0, zb1, zb0', zb1', zi_c0, zi_c1, zb_c]
  all_goals exact zi_cg (Q := Q) hQ (by (repeat' split) <;> omega)) Q
theorem n_more (xs : List Int32) (n : Int) (H : q_H) (hn : 0 ≤ n ∧ n < 1000) (Q : Int32 → q_H → Prop) : q_CallI (GG xs) PP kMod_more [.int (zi n)] H Q = Q (zi (z_more n)) H := cI (fun Q hQ => sp_Mod_more xs n hn.1 hn.2 H Q hQ) Q
def pT (v : Nat → Int → Int) (u c : Int) : Int := if c = 0 then 0 else v 49 u + c - 1
theorem n_told (xs : List Int32) (sh : List q_Sh) (v w : Nat → Int → Int) (R : Nat → Nat → Option Nat) (hM : LM sh R) (u c : Int) (hu : 0 ≤ u ∧ u < 3) (hc : 0 ≤ c ∧ c < 5) (Q : Int32 → q_H → Prop) : q_CallI (GG xs) PP kMod_told [.ref 48, .int (zi u), .int (zi c)] (sh, zs v, zt w, R) Q = Q (zi (pT v u c)) (sh, zs v, zt w, R) := cI (fun Q hQ => by
  refine e_Mod_told xs _ _ _ _ (sh, zs v, zt w, R) ?_
  simp (discharger := first | assumption | omega) [hM, fI, fL, fV, zs_ar, zt_ar, zs_un, zt_un, zn_c, zu_a, zu_e, zu_j, zix, zi_lit, zl_lit, zi_add, zi_sub, zi_mul, zi_neg, zi_le, zi_lt, zi_eq, zl_add, zl_sub, zl_mul, zi_i2l, zl_l2i, zb0, zb1, zb0', zb1', zi_c0, zi_c1, zb_c]
  unfold pT at hQ
  repeat' (first | (refine And.intro (fun _ => ?_) (fun _ => ?_)) | (intro _) | fail)
  all_goals try simp (discharger := first | assumption | omega) [hM, fI, fL, fV, zs_ar, zt_ar, zs_un, zt_un, zn_c, zu_a, zu_e, zu_j, zix, zi_lit, zl_lit, zi_add, zi_sub, zi_mul, zi_neg, zi_le, zi_lt, zi_eq, zl_add, zl_sub, zl_mul, zi_i2l, zl_l2i, zb0, zb1, zb0', zb1', zi_c0, zi_c1, zb_c]
  all_goals exact zi_cg (Q := Q) hQ (by (repeat' split) <;> omega)) Q
def pC (v : Nat → Int → Int) (u s c : Int) : Int := if c = 0 then 0 else v 54 (4 * u + c - 1) + (if s < 3 then v 55 (3 * u + s) else 0)
theorem n_choiceCost (xs : List Int32) (sh : List q_Sh) (v w : Nat → Int → Int) (R : Nat → Nat → Option Nat) (hM : LM sh R) (u s c : Int) (hu : 0 ≤ u ∧ u < 3) (hs : 0 ≤ s ∧ s < 15) (hc : 0 ≤ c ∧ c < 5) (Q : Int32 → q_H → Prop) : q_CallI (GG xs) PP kMod_choiceCost [.ref 48, .int (zi u), .int (zi s), .int (zi c)] (sh, zs v, zt w, R) Q = Q (zi (pC v u s c)) (sh, zs v, zt w, R) := cI (fun Q hQ => by
  refine e_Mod_choiceCost xs _ _ _ _ _ (sh, zs v, zt w, R) ?_
  simp (discharger := first | assumption | omega) [hM, fI, fL, fV, zs_ar, zt_ar, zs_un, zt_un, zn_c, zu_a, zu_e, zu_j, zix, zi_lit, zl_lit, zi_add, zi_sub, zi_mul, zi_neg, zi_le, zi_lt, zi_eq, zl_add, zl_sub, zl_mul, zi_i2l, zl_l2i, zb0, zb1, zb0', zb1', zi_c0, zi_c1, zb_c]
  unfold pC at hQ
  repeat' (first | (refine And.intro (fun _ => ?_) (fun _ => ?_)) | (intro _) | fail)
  all_goals try simp (discharger := first | assumption | omega) [hM, fI, fL, fV, zs_ar, zt_ar, zs_un, zt_un, zn_c, zu_a, zu_e, zu_j, zix, zi_lit, zl_lit, zi_add, zi_sub, zi_mul, zi_neg, zi_le, zi_lt, zi_eq, zl_add, zl_sub, zl_mul, zi_i2l, zl_l2i, zb0, zb1, zb0', zb1', zi_c0, zi_c1, zb_c]
  repeat' (first | (refine And.intro (fun _ => ?_) (fun _ => ?_)) | (intro _) | fail)
  all_goals try simp (discharger := first | assumption | omega) [hM, fI, fL, fV, zs_ar, zt_ar, zs_un, zt_un, zn_c, zu_a, zu_e, zu_j, zix, zi_lit, zl_lit, zi_add, zi_sub, zi_mul, zi_neg, zi_le, zi_lt, zi_eq, zl_add, zl_sub, zl_mul, zi_i2l, zl_l2i, zb0, zb1, zb0', zb1', zi_c0, zi_c1, zb_c]
  all_goals exact zi_cg (Q := Q) hQ (by (repeat' split) <;> omega)) Q
def pB (v : Nat → Int → Int) (u s c : Int) : Int := z_beh (v 49 u) (v 50 u) (v 51 u) (v 52 u) (v 53 u) s c
/-- what is known of every set of the reference, made or not -/
def rU (v : Nat → Int → Int) : Prop := ∀ u, 0 ≤ u → u < 3 → (0 ≤ v 49 u ∧ v 49 u ≤ 60) ∧ (0 ≤ v 50 u ∧ v 50 u ≤ 60) ∧ (0 ≤ v 51 u ∧ v 51 u ≤ 3) ∧ (0 ≤ v 52 u ∧ v 52 u ≤ 3) ∧ (0 ≤ v 53 u ∧ v 53 u ≤ 3) ∧ (0 ≤ v 56 u ∧ v 56 u ≤ 60) ∧ (0 ≤ v 57 u ∧ v 57 u ≤ 100)
theorem n_behind (xs : List Int32) (sh : List q_Sh) (v w : Nat → Int → Int) (R : Nat → Nat → Option Nat) (hM : LM sh R) (hR : rU v) (u s c : Int) (hu : 0 ≤ u ∧ u < 3) (hs : 0 ≤ s ∧ s < 15) (hc : 0 ≤ c ∧ c < 5) (Q : Int32 → q_H → Prop) : q_CallI (GG xs) PP kMod_behind [.ref 48, .int (zi u), .int (zi s), .int (zi c)] (sh, zs v, zt w, R) Q = Q (zi (pB v u s c)) (sh, zs v, zt w, R) := cI (fun Q hQ => by
  obtain ⟨r1, r2, r3, r4, r5, -⟩ := hR u hu.1 hu.2
  obtain ⟨n, rfl⟩ : ∃ n : Nat, u = n := ⟨u.toNat, by omega⟩
  exact sp_Mod_behind xs n _ _ _ _ _ s c (by omega) (sh, zs v, zt w, R) hM rfl rfl rfl rfl rfl r1 r2 r3 r4 r5 hs hc Q hQ) Q
def pF (v : Nat → Int → Int) (u : Int) : Int := if v 56 u = 0 then (if v 57 u ≤ 3 then v 57 u else 3) - 1 else 3 + 3 * (v 56 u - v 49 u) + ((if v 57 u ≤ 3 then v 57 u else 3) - 1)
theorem n_firstState (xs : List Int32) (sh : List q_Sh) (v w : Nat → Int → Int) (R : Nat → Nat → Option Nat) (hM : LM sh R) (hR : rU v) (u : Int) (hu : 0 ≤ u ∧ u < 3) (Q : Int32 → q_H → Prop) : q_CallI (GG xs) PP kMod_firstState [.ref 48, .int (zi u)] (sh, zs v, zt w, R) Q = Q (zi (pF v u)) (sh, zs v, zt w, R) := cI (fun Q hQ => by
  obtain ⟨r1, r2, r3, r4, r5, r6, r7⟩ := hR u hu.1 hu.2
  have rest : ∀ n : Int, (if v 57 u ≤ 3 then v 57 u else 3) = n → q_Rt (GG xs) PP 40 (q_FI Q) 20 [some (.ref 48), some (.int (zi u)), none] [.int (zi n)] (sh, zs v, zt w, R) := by
    intro n hn
    refine b_Mod_firstState_20 xs _ _ _ _ (sh, zs v, zt w, R) ?_
    simp (discharger := first | assumption | omega) [hM, fI, fL, fV, zs_ar, zt_ar, zs_un, zt_un, zn_c, zu_a, zu_e, zu_j, zix, zi_lit, zl_lit, zi_add, zi_sub, zi_mul, zi_neg, zi_le, zi_lt, zi_eq, zl_add, zl_sub, zl_mul, zi_i2l, zl_l2i, zb0, zb1, zb0', zb1', zi_c0, zi_c1, zb_c]
    unfold pF at hQ
    repeat' (first | (refine And.intro (fun _ => ?_) (fun _ => ?_)) | (intro _) | fail)
    all_goals try simp (discharger := first | assumption | omega) [hM, fI, fL, fV, zs_ar, zt_ar, zs_un, zt_un, zn_c, zu_a, zu_e, zu_j, zix, zi_lit, zl_lit, zi_add, zi_sub, zi_mul, zi_neg, zi_le, zi_lt, zi_eq, zl_add, zl_sub, zl_mul, zi_i2l, zl_l2i, zb0, zb1, zb0', zb1', zi_c0, zi_c1, zb_c]
    all_goals exact zi_cg (Q := Q) hQ (by (repeat' split) <;> omega)
  refine e_Mod_firstState xs _ _ _ (sh, zs v, zt w, R) ?_
  simp (discharger := first | assumption | omega) [hM, fI, fL, fV, zs_ar, zt_ar, zs_un, zt_un, zn_c, zu_a, zu_e, zu_j, zix, zi_lit, zl_lit, zi_add, zi_sub, zi_mul, zi_neg, zi_le, zi_lt, zi_eq, zl_add, zl_sub, zl_mul, zi_i2l, zl_l2i, zb0, zb1, zb0', zb1', zi_c0, zi_c1, zb_c]
  exact ⟨fun e => rest _ (by rw [if_pos e]), fun e => rest _ (by rw [if_neg (by omega)])⟩) Q
