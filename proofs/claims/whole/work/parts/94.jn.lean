/-! The reference's joint plan: the next states, what a way costs, an hour looked back on. -/
theorem zof_rng {all u : Int} (ha : 0 ≤ all ∧ all < 3375) : 0 ≤ zof all u ∧ zof all u < 15 := by
  unfold zof
  (repeat' split) <;> omega
theorem pB_rng {v : Nat → Int → Int} (hR : rU v) {u s c : Int} (hu : 0 ≤ u ∧ u < 3) (hs : 0 ≤ s ∧ s < 15) (hc : 0 ≤ c ∧ c < 5) : -1 ≤ pB v u s c ∧ pB v u s c < 15 := by
  obtain ⟨r1, r2, r3, r4, r5, r6, r7⟩ := hR u hu.1 hu.2
  unfold pB z_beh z_more
  (repeat' split) <;> omega
theorem pC_rng {v : Nat → Int → Int} (hC : rC v) {u s c : Int} (hu : 0 ≤ u ∧ u < 3) (hs : 0 ≤ s ∧ s < 15) (hc : 0 ≤ c ∧ c < 5) : 0 ≤ pC v u s c ∧ pC v u s c ≤ 50000 := by
  unfold pC
  split
  · omega
  · have h1 := hC.1 (4 * u + c - 1) (by omega) (by omega)
    split
    · have h2 := hC.2 (3 * u + s) (by omega) (by omega)
      omega
    · omega
/-- the next state by a code, what the code costs -/
def jnC (v : Nat → Int → Int) (all c u : Int) : Int := if u < v 48 2 then pB v u (zof all u) (zdg c u) else 0
def jxC (v : Nat → Int → Int) (all c : Int) : Int := if jnC v all c 0 < 0 ∨ jnC v all c 1 < 0 ∨ jnC v all c 2 < 0 then -1 else 225 * jnC v all c 0 + 15 * jnC v all c 1 + jnC v all c 2
def jcC (v : Nat → Int → Int) (all c : Int) : Int := zsum (fun u => pC v u (zof all u) (zdg c u)) (v 48 2).toNat
theorem jnC_rng {v : Nat → Int → Int} (hR : rU v) {all c u : Int} (ha : 0 ≤ all ∧ all < 3375) (hu : 0 ≤ u ∧ u < 3) : -1 ≤ jnC v all c u ∧ jnC v all c u < 15 := by
  unfold jnC
  split
  · exact pB_rng hR hu (zof_rng ha) (zdg_rng c u)
  · omega
theorem jxC_rng {v : Nat → Int → Int} (hR : rU v) {all c : Int} (ha : 0 ≤ all ∧ all < 3375) : -1 ≤ jxC v all c ∧ jxC v all c < 3375 := by
  have h0 := jnC_rng hR (c := c) ha (u := 0) (by omega)
  have h1 := jnC_rng hR (c := c) ha (u := 1) (by omega)
  have h2 := jnC_rng hR (c := c) ha (u := 2) (by omega)
  unfold jxC
  split <;> omega
theorem jcC_rng {v : Nat → Int → Int} (hC : rC v) (hN : rN v) {all c : Int} (ha : 0 ≤ all ∧ all < 3375) : 0 ≤ jcC v all c ∧ jcC v all c ≤ 150000 := by
  have n2 := hN.2
  have := zsum_rng (c := 50000) (f := fun u => pC v u (zof all u) (zdg c u)) (v 48 2).toNat (fun i a b => pC_rng hC (by omega) (zof_rng ha) (zdg_rng c i))
  unfold jcC
  omega
/-- the ways as they lie -/
def RCw (v : Nat → Int → Int) (cl : List Nat) : Prop := v 48 24 = cl.length ∧ ∀ i : Nat, i < cl.length → ∀ u, 0 ≤ u → u < 3 → v 68 (3 * (i : Int) + u) = zdg (cl.getD i 0 : Nat) u
def RFLn (v : Nat → Int → Int) (as : Prop) [Decidable as] (h : Int) : Nat → List Nat
  | 0 => []
  | c + 1 => if RFIT v as h c then RFLn v as h c ++ [c] else RFLn v as h c
theorem fwn_RC {v : Nat → Int → Int} {as : Prop} [Decidable as] {h : Int} : ∀ n : Nat, RCw (fwn v as h n) (RFLn v as h n)
  | 0 => by
    refine ⟨?_, fun i hi => by simp [RFLn] at hi⟩
    unfold fwn
    rw [zu_e rfl]
    rfl
  | n + 1 => by
    obtain ⟨h1, h2⟩ := fwn_RC (v := v) (as := as) (h := h) n
    have old : ∀ i : Nat, i < (RFLn v as h n).length → ∀ u, 0 ≤ u → u < 3 → fwn v as h (n + 1) 68 (3 * (i : Int) + u) = zdg ((RFLn v as h n).getD i 0 : Nat) u := fun i hi u u1 u2 => by
      rw [← h2 i hi u u1 u2]
      show zu (wrc (fwn v as h n) n) 48 24 _ 68 _ = _
      unfold wrc
      rw [zu_a (by omega), zu_j (by omega), zu_j (by omega), zu_j (by omega)]
    have cnt : fwn v as h (n + 1) 48 24 = fwn v as h n 48 24 + (if RFIT v as h n then 1 else 0) := by
      show zu (wrc (fwn v as h n) n) 48 24 _ 48 24 = _
      rw [zu_e rfl]
    by_cases q : RFIT v as h n
    · have e : RFLn v as h (n + 1) = RFLn v as h n ++ [n] := by
        show (if RFIT v as h n then RFLn v as h n ++ [n] else RFLn v as h n) = _
        rw [if_pos q]
      rw [e]
      refine ⟨?_, fun i hi u u1 u2 => ?_⟩
      · rw [cnt, if_pos q, h1, List.length_append]
        rfl
      · rw [List.length_append, List.length_singleton] at hi
        by_cases z : i < (RFLn v as h n).length
        · have e1 : (RFLn v as h n ++ [n]).getD i 0 = (RFLn v as h n).getD i 0 := by
            simp only [List.getD_eq_getElem?_getD]
            rw [List.getElem?_append_left z]
          rw [e1]
          exact old i z u u1 u2
        · have e0 : i = (RFLn v as h n).length := by omega
          have e1 : (RFLn v as h n ++ [n]).getD i 0 = n := by
            rw [List.getD_eq_getElem?_getD, e0, List.getElem?_append_right (Nat.le_refl _), Nat.sub_self]
            rfl
          rw [e1]
          show zu (wrc (fwn v as h n) n) 48 24 _ 68 _ = _
          unfold wrc
          rw [zu_a (by omega)]
          obtain rfl | rfl | rfl : u = 0 ∨ u = 1 ∨ u = 2 := by omega
          · rw [zu_j (by omega), zu_j (by omega), zu_e (by omega)]
          · rw [zu_j (by omega), zu_e (by omega)]
          · rw [zu_e (by omega)]
    · have e : RFLn v as h (n + 1) = RFLn v as h n := by
        show (if RFIT v as h n then RFLn v as h n ++ [n] else RFLn v as h n) = _
        rw [if_neg q]
      rw [e]
      exact ⟨by rw [cnt, if_neg q, h1, Int.add_zero], old⟩
theorem RFLn_mem {v : Nat → Int → Int} {as : Prop} [Decidable as] {h : Int} {c : Nat} : ∀ n, c ∈ RFLn v as h n ↔ c < n ∧ RFIT v as h c
  | 0 => by simp [RFLn]
  | n + 1 => by
    have ih := RFLn_mem (v := v) (as := as) (h := h) (c := c) n
    unfold RFLn
    split
    · rename_i q
      rw [List.mem_append, ih, List.mem_singleton]
      constructor
      · rintro (z | z)
        · exact ⟨by omega, z.2⟩
        · subst z
          exact ⟨by omega, q⟩
      · intro z
        by_cases e : c = n
        · exact Or.inr e
        · exact Or.inl ⟨by omega, z.2⟩
    · rename_i q
      rw [ih]
      constructor
      · intro z
        exact ⟨by omega, z.2⟩
      · intro z
        refine ⟨?_, z.2⟩
        by_cases e : c = n
        · subst e
          exact absurd z.2 q
        · omega
theorem l_nx5 (xs : List Int32) (sh : List q_Sh) (v w : Nat → Int → Int) (R : Nat → Nat → Option Nat) (hM : LM sh R) (hR : rU v) (hN : rN v) (all to u c i : Int) (hc : ∀ u, 0 ≤ u → u < 3 → v 68 (3 * i + u) = zdg c u) (ha : 0 ≤ all ∧ all < 3375) (hi : 0 ≤ i ∧ i < 125) (hu : 0 ≤ u ∧ u < 3) (hto : -1 ≤ to ∧ to < 100000) (F : Option Value → q_H → Prop)
    (hk : q_Rt (GG xs) PP 48 F 5 [some (.ref 48), some (.int (zi all)), some (.int (zi i)), some (.int (zi (if to < 0 ∨ jnC v all c u < 0 then -1 else 15 * to + jnC v all c u))), some (.int (zi (u + 1))), none] [] (sh, zs v, zt w, R)) :
    q_Rt (GG xs) PP 48 F 5 [some (.ref 48), some (.int (zi all)), some (.int (zi i)), some (.int (zi to)), some (.int (zi u)), none] [] (sh, zs v, zt w, R) := by
  have n2 := hN.2
  have j := jnC_rng hR (c := c) ha hu
  have K : ∀ x, x = jnC v all c u → q_Rt (GG xs) PP 48 F 47 [some (.ref 48), some (.int (zi all)), some (.int (zi i)), some (.int (zi to)), some (.int (zi u)), none] [.int (zi x)] (sh, zs v, zt w, R) := by
    intro x hx
    subst hx
    refine b_Mod_next_47 xs F _ _ _ _ _ _ (sh, zs v, zt w, R) ?_
    generalize jnC v all c u = y at *
    by_cases c1 : to < 0
    · rw [if_pos (Or.inl c1)] at hk
      simp (discharger := first | assumption | omega) [fI, fL, fV, zs_ar, zt_ar, zs_un, zt_un, zn_c, zu_a, zu_e, zu_j, zix, zi_lit, zl_lit, zi_add, zi_sub, zi_mul, zi_neg, zi_le, zi_lt, zi_eq, zl_add, zl_sub, zl_mul, zi_i2l, zl_l2i, zb0, zb1, zb0', zb1', zi_c0, zi_c1, zb_c, i_leT, i_leF, i_ltT, i_ltF, i_eqT, i_eqF]
      exact hk
    · by_cases c2 : y < 0
      · rw [if_pos (Or.inr c2)] at hk
        simp (discharger := first | assumption | omega) [fI, fL, fV, zs_ar, zt_ar, zs_un, zt_un, zn_c, zu_a, zu_e, zu_j, zix, zi_lit, zl_lit, zi_add, zi_sub, zi_mul, zi_neg, zi_le, zi_lt, zi_eq, zl_add, zl_sub, zl_mul, zi_i2l, zl_l2i, zb0, zb1, zb0', zb1', zi_c0, zi_c1, zb_c, i_leT, i_leF, i_ltT, i_ltF, i_eqT, i_eqF]
        exact hk
      · rw [if_neg (by omega)] at hk
        simp (discharger := first | assumption | omega) [fI, fL, fV, zs_ar, zt_ar, zs_un, zt_un, zn_c, zu_a, zu_e, zu_j, zix, zi_lit, zl_lit, zi_add, zi_sub, zi_mul, zi_neg, zi_le, zi_lt, zi_eq, zl_add, zl_sub, zl_mul, zi_i2l, zl_l2i, zb0, zb1, zb0', zb1', zi_c0, zi_c1, zb_c, i_leT, i_leF, i_ltT, i_ltF, i_eqT, i_eqF]
        exact hk
  have w1 := hc u hu.1 hu.2
  have z := zdg_rng c u
  refine b_Mod_next_5 xs F _ _ _ _ _ (sh, zs v, zt w, R) ?_
  by_cases cu : u < v 48 2
  · have K1 := K (pB v u (zof all u) (zdg c u)) (by unfold jnC; rw [if_pos cu])
    have s1 := n_behind xs sh v w R hM hR u (zof all u) (zdg c u) hu (zof_rng ha) z
    simp (discharger := first | assumption | omega) [hM, fI, fL, fV, zs_ar, zt_ar, zs_un, zt_un, zn_c, zu_a, zu_e, zu_j, zix, zi_lit, zl_lit, zi_add, zi_sub, zi_mul, zi_neg, zi_le, zi_lt, zi_eq, zl_add, zl_sub, zl_mul, zi_i2l, zl_l2i, zb0, zb1, zb0', zb1', zi_c0, zi_c1, zb_c, n_of, w1, s1, i_leT, i_leF, i_ltT, i_ltF, i_eqT, i_eqF]
    exact K1
  · have K1 := K 0 (by unfold jnC; rw [if_neg cu])
    simp (discharger := first | assumption | omega) [hM, fI, fL, fV, zs_ar, zt_ar, zs_un, zt_un, zn_c, zu_a, zu_e, zu_j, zix, zi_lit, zl_lit, zi_add, zi_sub, zi_mul, zi_neg, zi_le, zi_lt, zi_eq, zl_add, zl_sub, zl_mul, zi_i2l, zl_l2i, zb0, zb1, zb0', zb1', zi_c0, zi_c1, zb_c, i_leT, i_leF, i_ltT, i_ltF, i_eqT, i_eqF]
    exact K1
theorem n_next (xs : List Int32) (sh : List q_Sh) (v w : Nat → Int → Int) (R : Nat → Nat → Option Nat) (hM : LM sh R) (hR : rU v) (hN : rN v) (all c i : Int) (hc : ∀ u, 0 ≤ u → u < 3 → v 68 (3 * i + u) = zdg c u) (ha : 0 ≤ all ∧ all < 3375) (hi : 0 ≤ i ∧ i < 125) (Q : Int32 → q_H → Prop) : q_CallI (GG xs) PP kMod_next [.ref 48, .int (zi all), .int (zi i)] (sh, zs v, zt w, R) Q = Q (zi (jxC v all c)) (sh, zs v, zt w, R) := cI (fun Q hQ => by
  have j0 := jnC_rng hR (c := c) ha (u := 0) (by omega)
  have j1 := jnC_rng hR (c := c) ha (u := 1) (by omega)
  have j2 := jnC_rng hR (c := c) ha (u := 2) (by omega)
  have K := l_nx5 xs sh v w R hM hR hN all 0 0 c i hc ha hi (by omega) (by omega) (q_FI Q) (l_nx5 xs sh v w R hM hR hN all _ 1 c i hc ha hi (by omega) (by split <;> omega) (q_FI Q) (l_nx5 xs sh v w R hM hR hN all _ 2 c i hc ha hi (by omega) (by (repeat' split) <;> omega) (q_FI Q) (by
    refine b_Mod_next_5 xs _ _ _ _ _ _ (sh, zs v, zt w, R) ?_
    unfold jxC at hQ
    simp (discharger := first | assumption | omega) [fI, fL, fV, zs_ar, zt_ar, zs_un, zt_un, zn_c, zu_a, zu_e, zu_j, zix, zi_lit, zl_lit, zi_add, zi_sub, zi_mul, zi_neg, zi_le, zi_lt, zi_eq, zl_add, zl_sub, zl_mul, zi_i2l, zl_l2i, zb0, zb1, zb0', zb1', zi_c0, zi_c1, zb_c, i_leT, i_leF, i_ltT, i_ltF, i_eqT, i_eqF]
    exact zi_cg (Q := Q) hQ (by (repeat' split) <;> omega))))
  refine e_Mod_next xs _ _ _ _ (sh, zs v, zt w, R) ?_
  simp (discharger := first | assumption | omega) [fI, fL, fV, zs_ar, zt_ar, zs_un, zt_un, zn_c, zu_a, zu_e, zu_j, zix, zi_lit, zl_lit, zi_add, zi_sub, zi_mul, zi_neg, zi_le, zi_lt, zi_eq, zl_add, zl_sub, zl_mul, zi_i2l, zl_l2i, zb0, zb1, zb0', zb1', zi_c0, zi_c1, zb_c]
  exact K) Q
theorem n_wayCost (xs : List Int32) (sh : List q_Sh) (v w : Nat → Int → Int) (R : Nat → Nat → Option Nat) (hM : LM sh R) (hC : rC v) (hN : rN v) (all c i : Int) (hc : ∀ u, 0 ≤ u → u < 3 → v 68 (3 * i + u) = zdg c u) (ha : 0 ≤ all ∧ all < 3375) (hi : 0 ≤ i ∧ i < 125) (Q : Int32 → q_H → Prop) : q_CallI (GG xs) PP kMod_wayCost [.ref 48, .int (zi all), .int (zi i)] (sh, zs v, zt w, R) Q = Q (zi (jcC v all c)) (sh, zs v, zt w, R) := cI (fun Q hQ => by
  have n2 := hN.2
  have L : ∀ u : Int, 0 ≤ u → u ≤ v 48 2 → q_Rt (GG xs) PP 49 (q_FI Q) 5 [some (.ref 48), some (.int (zi all)), some (.int (zi i)), some (.int (zi (zsum (fun u => pC v u (zof all u) (zdg c u)) u.toNat))), some (.int (zi u))] [] (sh, zs v, zt w, R) := by
    refine zdown _ ?_ (fun u h1 h2 ih => ?_)
    · refine b_Mod_wayCost_5 xs _ _ _ _ _ _ (sh, zs v, zt w, R) ?_
      unfold jcC at hQ
      simp (discharger := first | assumption | omega) [hM, fI, fL, fV, zs_ar, zt_ar, zs_un, zt_un, zn_c, zu_a, zu_e, zu_j, zix, zi_lit, zl_lit, zi_add, zi_sub, zi_mul, zi_neg, zi_le, zi_lt, zi_eq, zl_add, zl_sub, zl_mul, zi_i2l, zl_l2i, zb0, zb1, zb0', zb1', zi_c0, zi_c1, zb_c, i_leT, i_leF, i_ltT, i_ltF, i_eqT, i_eqF]
      exact hQ
    · rw [show (u + 1).toNat = u.toNat + 1 by omega, zsum_s, show ((u.toNat : Nat) : Int) = u by omega] at ih
      have w1 := hc u h1 (by omega)
      have z := zdg_rng c u
      have s1 := n_choiceCost xs sh v w R hM u (zof all u) (zdg c u) (by omega) (zof_rng ha) z
      refine b_Mod_wayCost_5 xs _ _ _ _ _ _ (sh, zs v, zt w, R) ?_
      simp (discharger := first | assumption | omega) [hM, fI, fL, fV, zs_ar, zt_ar, zs_un, zt_un, zn_c, zu_a, zu_e, zu_j, zix, zi_lit, zl_lit, zi_add, zi_sub, zi_mul, zi_neg, zi_le, zi_lt, zi_eq, zl_add, zl_sub, zl_mul, zi_i2l, zl_l2i, zb0, zb1, zb0', zb1', zi_c0, zi_c1, zb_c, n_of, w1, s1, i_leT, i_leF, i_ltT, i_ltF, i_eqT, i_eqF]
      exact ih
  have K := L 0 (by omega) (by omega)
  simp only [Int.toNat_zero, zsum] at K
  refine e_Mod_wayCost xs _ _ _ _ (sh, zs v, zt w, R) ?_
  simp (discharger := first | assumption | omega) [fI, fL, fV, zs_ar, zt_ar, zs_un, zt_un, zn_c, zu_a, zu_e, zu_j, zix, zi_lit, zl_lit, zi_add, zi_sub, zi_mul, zi_neg, zi_le, zi_lt, zi_eq, zl_add, zl_sub, zl_mul, zi_i2l, zl_l2i, zb0, zb1, zb0', zb1', zi_c0, zi_c1, zb_c]
  exact K) Q
def MANY : Int := 1000000000
/-- what a code comes to, by the values of the next hour -/
def jvl (v : Nat → Int → Int) (V : Int → Int) (all c : Int) : Int := if jxC v all c < 0 then MANY else if V (jxC v all c) = MANY then MANY else V (jxC v all c) + jcC v all c
def lbi (v : Nat → Int → Int) (V : Int → Int) (all : Int) (cl : List Nat) : Nat → Int
  | 0 => MANY
  | i + 1 => if jvl v V all (cl.getD i 0 : Nat) < lbi v V all cl i then jvl v V all (cl.getD i 0 : Nat) else lbi v V all cl i
abbrev isv (v : Nat → Int → Int) (all : Int) : Prop := (0 < v 48 2 ∨ all / 225 = 0) ∧ (1 < v 48 2 ∨ all / 15 % 15 = 0) ∧ (2 < v 48 2 ∨ all % 15 = 0)
def lbv (v : Nat → Int → Int) (V : Int → Int) (all : Int) (cl : List Nat) : Int := if isv v all then lbi v V all cl cl.length else MANY
theorem lbi_rng {v : Nat → Int → Int} (hC : rC v) (hN : rN v) (hR : rU v) {V : Int → Int} (hV : ∀ t, 0 ≤ t → t < 3375 → 0 ≤ V t ∧ V t ≤ MANY) {all : Int} (ha : 0 ≤ all ∧ all < 3375) (cl : List Nat) : ∀ i, 0 ≤ lbi v V all cl i ∧ lbi v V all cl i ≤ MANY
  | 0 => by unfold lbi MANY; omega
  | i + 1 => by
    have ih := lbi_rng hC hN hR hV ha cl i
    have jx := jxC_rng hR (c := (cl.getD i 0 : Nat)) ha
    have jc := jcC_rng hC hN (c := (cl.getD i 0 : Nat)) ha
    have hv := hV (jxC v all (cl.getD i 0 : Nat))
    unfold lbi
    split
    · rename_i q
      refine ⟨?_, by omega⟩
      unfold jvl MANY at *
      (repeat' split) <;> omega
    · exact ih
