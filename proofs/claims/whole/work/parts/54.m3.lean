abbrev vi (S : Nat → Nat → Int32) (a j : Nat) : Int := (S a j).toInt
abbrev vl (L : Nat → Nat → Int64) (a j : Nat) : Int := (L a j).toInt
theorem vi_of (S : Nat → Nat → Int32) (a j : Nat) : S a j = zi (vi S a j) := zi_of _
theorem vl_of (L : Nat → Nat → Int64) (a j : Nat) : L a j = zl (vl L a j) := zl_of _
/-- what is known of a set of the reference -/
def mU (S : Nat → Nat → Int32) (u : Nat) : Prop := (0 ≤ vi S 49 u ∧ vi S 49 u ≤ 60) ∧ (0 ≤ vi S 50 u ∧ vi S 50 u ≤ 60) ∧ (0 ≤ vi S 51 u ∧ vi S 51 u ≤ 3) ∧ (0 ≤ vi S 52 u ∧ vi S 52 u ≤ 3) ∧ (0 ≤ vi S 53 u ∧ vi S 53 u ≤ 3) ∧
  (0 ≤ vi S 56 u ∧ vi S 56 u ≤ 60) ∧ (0 ≤ vi S 57 u ∧ vi S 57 u ≤ 100) ∧ (∀ j, j < 4 → 0 ≤ vi S 54 (4 * u + j) ∧ vi S 54 (4 * u + j) ≤ 40000) ∧ (∀ j, j < 3 → 0 ≤ vi S 55 (3 * u + j) ∧ vi S 55 (3 * u + j) ≤ 10000) ∧ vi S 49 u ≤ vi S 50 u + 1
def mB (S : Nat → Nat → Int32) (u : Nat) (s c : Int) : Int := z_beh (vi S 49 u) (vi S 50 u) (vi S 51 u) (vi S 52 u) (vi S 53 u) s c
def mC (S : Nat → Nat → Int32) (u s c : Nat) : Int := if c = 0 then 0 else vi S 54 (4 * u + c - 1) + (if s < 3 then vi S 55 (3 * u + s) else 0)
def mT (S : Nat → Nat → Int32) (u c : Nat) : Int := if c = 0 then 0 else vi S 49 u + c - 1
theorem mB_rng {S : Nat → Nat → Int32} {u : Nat} (hu : mU S u) {s c : Int} (hs : 0 ≤ s ∧ s < 15) (hc : 0 ≤ c ∧ c < 5) : -1 ≤ mB S u s c ∧ mB S u s c < 15 := by
  unfold mB z_beh z_more
  (repeat' split) <;> omega
theorem mC_rng {S : Nat → Nat → Int32} {u s c : Nat} (hu : mU S u) (hc : c < 5) : 0 ≤ mC S u s c ∧ mC S u s c ≤ 50000 := by
  unfold mC
  split
  · omega
  · have h1 := hu.2.2.2.2.2.2.2.1 (c - 1) (by omega)
    rw [show 4 * u + (c - 1) = 4 * u + c - 1 by omega] at h1
    split
    · have h2 := hu.2.2.2.2.2.2.2.2.1 s (by omega)
      omega
    · omega
theorem mT_rng {S : Nat → Nat → Int32} {u c : Nat} (hu : mU S u) (hc : c < 5) : 0 ≤ mT S u c ∧ mT S u c ≤ 63 := by
  have := hu.1
  unfold mT
  split <;> omega
theorem sm_behind (xs : List Int32) (u : Nat) (s c : Int) (hu : u < 3) (H : q_H) (hH : lay_m H) (hU : mU H.2.1 u) (hs : 0 ≤ s ∧ s < 15) (hc : 0 ≤ c ∧ c < 5) (Q : Int32 → q_H → Prop) (h : Q (zi (mB H.2.1 u s c)) H) : q_CallI (GG xs) PP kMod_behind [.ref 48, .int (zi u), .int (zi s), .int (zi c)] H Q :=
  sp_Mod_behind xs u _ _ _ _ _ s c hu H hH (vi_of _ _ _) (vi_of _ _ _) (vi_of _ _ _) (vi_of _ _ _) (vi_of _ _ _) hU.1 hU.2.1 hU.2.2.1 hU.2.2.2.1 hU.2.2.2.2.1 hs hc Q h
theorem sm_told (xs : List Int32) (u c : Nat) (hu : u < 3) (hc : c < 5) (H : q_H) (hH : lay_m H) (Q : Int32 → q_H → Prop) (h : Q (zi (mT H.2.1 u c)) H) : q_CallI (GG xs) PP kMod_told [.ref 48, .int (zi u), .int (zi c)] H Q := sp_Mod_told xs u c _ hu (by omega) H hH (vi_of _ _ _) Q h
theorem sm_choiceCost (xs : List Int32) (u s c : Nat) (hu : u < 3) (hs : s < 15) (hc : c < 5) (H : q_H) (hH : lay_m H) (Q : Int32 → q_H → Prop) (h : Q (zi (mC H.2.1 u s c)) H) : q_CallI (GG xs) PP kMod_choiceCost [.ref 48, .int (zi u), .int (zi s), .int (zi c)] H Q := by
  refine e_Mod_choiceCost xs _ 48 (zi u) (zi s) (zi c) H ?_
  unfold mC at h
  by_cases c0 : c = 0
  · subst c0
    refine ⟨fun e => absurd rfl e, fun _ => ?_⟩
    exact h
  · have i1 : q_ix (zi (4 * (u : Int) + c - 1)) 12 = some (4 * u + c - 1) := by
      rw [zi_ix (by omega) (by omega) (by omega)]
      congr 1
      omega
    rw [if_neg c0] at h
    simp (discharger := omega) [hH, zi_lit, zi_mul, zi_add, zi_sub, zi_eq, zi_le, zi_lt, i1, c0]
    rw [vi_of H.2.1 54 (4 * u + c - 1)]
    refine ⟨fun e => ?_, fun e => ?_⟩
    · rw [if_neg (by omega)] at h
      rw [zi_add]
      exact h
    · have i2 : q_ix (zi (3 * (u : Int) + s)) 9 = some (3 * u + s) := by
        rw [zi_ix (by omega) (by omega) (by omega)]
        congr 1
      rw [if_pos (by omega)] at h
      simp [i2]
      rw [vi_of H.2.1 55 (3 * u + s), zi_add]
      exact h
/-- the state at the start -/
def mF (S : Nat → Nat → Int32) (u : Nat) : Int := if vi S 56 u = 0 then (if vi S 57 u ≤ 3 then vi S 57 u else 3) - 1 else 3 + 3 * (vi S 56 u - vi S 49 u) + ((if vi S 57 u ≤ 3 then vi S 57 u else 3) - 1)
theorem sm_firstState (xs : List Int32) (u : Nat) (hu : u < 3) (H : q_H) (hH : lay_m H) (hU : mU H.2.1 u) (Q : Int32 → q_H → Prop) (h : Q (zi (mF H.2.1 u)) H) : q_CallI (GG xs) PP kMod_firstState [.ref 48, .int (zi u)] H Q := by
  obtain ⟨u1, u2, u3, u4, u5, u6, u7, -⟩ := hU
  have rest : ∀ n : Int, (if vi H.2.1 57 u ≤ 3 then vi H.2.1 57 u else 3) = n → q_Rt (GG xs) PP 40 (q_FI Q) 20 [some (.ref 48), some (.int (zi u)), none] [.int (zi n)] H := by
    intro n hn
    refine b_Mod_firstState_20 xs _ 48 (zi u) (zi n) H ?_
    simp [hH, zi_ixn hu]
    rw [vi_of H.2.1 56 u, vi_of H.2.1 49 u]
    simp (discharger := omega) [zi_lit, zi_mul, zi_add, zi_sub, zi_eq]
    unfold mF at h
    rw [hn] at h
    refine ⟨fun e => ?_, fun e => ?_⟩
    · rw [if_neg e] at h
      exact h
    · rw [if_pos e] at h
      exact h
  refine e_Mod_firstState xs _ 48 (zi u) H ?_
  simp [hH, zi_ixn hu]
  rw [vi_of H.2.1 57 u]
  simp (discharger := omega) [zi_lit, zi_le, zi_lt]
  exact ⟨fun e => rest _ (by rw [if_pos e]), fun e => rest _ (by rw [if_neg (by omega)])⟩
