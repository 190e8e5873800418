/-! The reference's leaves. -/
theorem sp_Mod_in (xs : List Int32) (a b c : Int32) (H : q_H) (Q : Int32 → q_H → Prop) (h : Q (if b ≤ a ∧ a ≤ c then 1 else 0) H) : q_CallI (GG xs) PP kMod_in [.int a, .int b, .int c] H Q := by
  refine e_Mod_in xs _ a b c H ?_
  by_cases h1 : a < b
  · refine ⟨fun _ => ⟨by decide, ?_⟩, fun e => absurd h1 e⟩
    show Q 0 H
    rwa [if_neg (fun e => absurd h1 (Int32.not_lt.mpr e.1))] at h
  · refine ⟨fun e => absurd e h1, fun _ => ?_⟩
    by_cases h2 : c < a
    · refine ⟨fun _ => ⟨by decide, ?_⟩, fun e => absurd h2 e⟩
      show Q 0 H
      rwa [if_neg (fun e => absurd h2 (Int32.not_lt.mpr e.2))] at h
    · refine ⟨fun e => absurd e h2, fun _ => ⟨by decide, ?_⟩⟩
      show Q 1 H
      rwa [if_pos ⟨Int32.not_lt.mp h1, Int32.not_lt.mp h2⟩] at h
def z_more (n : Int) : Int := if n < 2 then n + 1 else 2
theorem sp_Mod_more (xs : List Int32) (n : Int) (h1 : 0 ≤ n) (h2 : n < 1000) (H : q_H) (Q : Int32 → q_H → Prop) (h : Q (zi (z_more n)) H) : q_CallI (GG xs) PP kMod_more [.int (zi n)] H Q := by
  refine e_Mod_more xs _ (zi n) H ?_
  rw [show (2 : Int32) = zi 2 from rfl, zi_le (by omega) (by omega) (by omega) (by omega), show (1 : Int32) = zi 1 from rfl, zi_add]
  unfold z_more at h
  refine ⟨fun e => ?_, fun e => ?_⟩
  · rwa [if_neg (by omega)] at h
  · rwa [if_pos (by omega)] at h
theorem sp_Mod_told (xs : List Int32) (u c : Nat) (lo : Int) (hu : u < 3) (hc : c < 1000) (H : q_H) (hH : lay_m H) (hl : H.2.1 49 u = zi lo) (Q : Int32 → q_H → Prop) (h : Q (zi (if c = 0 then 0 else lo + c - 1)) H) : q_CallI (GG xs) PP kMod_told [.ref 48, .int (zi u), .int (zi c)] H Q := by
  refine e_Mod_told xs _ 48 (zi u) (zi c) H ?_
  rw [show (0 : Int32) = zi 0 from rfl, show (1 : Int32) = zi 1 from rfl, zi_eq (by omega) (by omega) (by omega) (by omega)]
  by_cases e : (c : Int) = 0
  · refine ⟨fun q => absurd e q, fun _ => ?_⟩
    rwa [if_pos (by omega)] at h
  · refine ⟨fun _ => ?_, fun q => absurd e q⟩
    simp [hH, zi_ixn hu, hl, zi_add, zi_sub]
    rwa [if_neg (by omega)] at h
