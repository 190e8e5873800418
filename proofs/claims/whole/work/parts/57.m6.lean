theorem pa_s (xs : List Int32) (u h : Nat) (hu : u < 3) (hh : h < 8) (sh : List q_Sh) (S : Nat → Nat → Int32) (L0 : Nat → Nat → Int64) (R : Nat → Nat → Option Nat) (hH : lay_m (sh, S, L0, R)) (hU : mU S u) (hp : -100000 ≤ vi S 63 h ∧ vi S 63 h ≤ 100000) (V : Int → Int) (hV : ∀ t : Nat, t < 15 → L0 65 (15 * (h + 1) + t) = zl (V t)) (hr : ∀ t, -60000000 ≤ V t ∧ V t ≤ NV) (F : Option Value → q_H → Prop)
    (hk : ∀ L : Nat → Nat → Int64, (∀ t : Nat, t < 15 → L 65 (15 * h + t) = zl (mn5 (mY S V u h t) 5)) → (∀ a j, ¬ (a = 65 ∧ 15 * h ≤ j ∧ j < 15 * h + 15) → L a j = L0 a j) → q_Rt (GG xs) PP 65 F 36 [some (.ref 48), some (.int (zi u)), some (.int (zi ((h : Int) - 1))), none, none, none, none] [] (sh, S, L, R)) :
    ∀ n s : Nat, s + n = 15 → ∀ L : Nat → Nat → Int64, (∀ t : Nat, t < s → L 65 (15 * h + t) = zl (mn5 (mY S V u h t) 5)) → (∀ a j, ¬ (a = 65 ∧ 15 * h ≤ j ∧ j < 15 * h + 15) → L a j = L0 a j) → q_Rt (GG xs) PP 65 F 42 [some (.ref 48), some (.int (zi u)), some (.int (zi h)), some (.int (zi s)), none, none, none] [] (sh, S, L, R)
  | 0, s, hs, L, h1, h2 => by
    have s15 : s = 15 := by omega
    subst s15
    refine b_Mod_planAlone_42 xs F 48 (zi u) (zi h) (zi (15 : Nat)) (sh, S, L, R) ⟨fun _ => ?_, fun e => absurd (by decide) e⟩
    rw [show (-1 : Int32) = zi (-1) by decide, zi_add]
    exact hk L h1 h2
  | n + 1, s, hs, L, h1, h2 => by
    have ih := pa_s xs u h hu hh sh S L0 R hH hU hp V hV hr F hk n (s + 1) (by omega)
    have hs15 : ¬ (15 : Int32) ≤ zi s := by
      rw [show (15 : Int32) = zi 15 from rfl, zi_le (by omega) (by omega) (by omega) (by omega)]
      omega
    refine b_Mod_planAlone_42 xs F 48 (zi u) (zi h) (zi s) (sh, S, L, R) ⟨fun e => absurd e hs15, fun _ => ?_⟩
    refine pa_c xs u h s hu hh (by omega) (sh, S, L, R) hH hU hp V (fun t ht => ?_) hr F ?_ 5 0 rfl
    · show L 65 _ = _
      rw [h2 65 _ (by omega)]
      exact hV t ht
    · refine ih _ (fun t ht => ?_) (fun a j hj => ?_)
      · show q_up L 65 (15 * h + s) _ 65 (15 * h + t) = _
        by_cases e : t = s
        · subst e
          simp [q_up]
        · rw [show q_up L 65 (15 * h + s) (zl (mn5 (mY S V u h s) 5)) 65 (15 * h + t) = L 65 (15 * h + t) by simp [q_up]; omega]
          exact h1 t (by omega)
      · show q_up L 65 (15 * h + s) _ a j = _
        rw [← h2 a j hj]
        have : ¬ (a = 65 ∧ j = 15 * h + s) := by omega
        simp [q_up, this]
/-- the least cost of the ways from r hours ahead of the end -/
def mW (S : Nat → Nat → Int32) (u hrs : Nat) : Nat → Int → Int
  | 0, _ => 0
  | r + 1, s => mn5 (mY S (mW S u hrs r) u (hrs - (r + 1)) s.toNat) 5
theorem mW_rng {S : Nat → Nat → Int32} {u hrs : Nat} (hU : mU S u) (hh : hrs ≤ 8) (hp : ∀ h, h < 8 → -100000 ≤ vi S 63 h ∧ vi S 63 h ≤ 100000) : ∀ r, r ≤ hrs → ∀ s, -6300000 * (r : Int) ≤ mW S u hrs r s ∧ mW S u hrs r s ≤ NV
  | 0, _, s => by
    unfold mW NV
    omega
  | r + 1, hr, s => by
    have ih := mW_rng hU hh hp r (by omega)
    have nv : NV = 1152921504606846976 := rfl
    refine ⟨?_, mn5_le _ _⟩
    unfold mW
    refine mn5_ge (by omega) 5 (fun c hc => ?_)
    have h1 := mA_rng (s := s.toNat) hU hc (hp (hrs - (r + 1)) (by omega))
    unfold mY
    split
    · have h2 := (ih (mB S u s.toNat c)).1
      omega
    · omega
theorem pa_h (xs : List Int32) (u hrs : Nat) (hu : u < 3) (hh : hrs ≤ 8) (sh : List q_Sh) (S : Nat → Nat → Int32) (R : Nat → Nat → Option Nat) (L0 : Nat → Nat → Int64) (hH : lay_m (sh, S, L0, R)) (hU : mU S u) (hp : ∀ h, h < 8 → -100000 ≤ vi S 63 h ∧ vi S 63 h ≤ 100000) (F : Option Value → q_H → Prop)
    (hk : ∀ L : Nat → Nat → Int64, (∀ r t : Nat, r ≤ hrs → t < 15 → L 65 (15 * (hrs - r) + t) = zl (mW S u hrs r t)) → (∀ a j, a ≠ 65 → L a j = L0 a j) → q_Rt (GG xs) PP 65 F 36 [some (.ref 48), some (.int (zi u)), some (.int (zi (-1))), none, none, none, none] [] (sh, S, L, R)) :
    ∀ k r : Nat, k + r = hrs → ∀ L : Nat → Nat → Int64, (∀ q t : Nat, q ≤ r → t < 15 → L 65 (15 * (hrs - q) + t) = zl (mW S u hrs q t)) → (∀ a j, a ≠ 65 → L a j = L0 a j) → q_Rt (GG xs) PP 65 F 36 [some (.ref 48), some (.int (zi u)), some (.int (zi ((k : Int) - 1))), none, none, none, none] [] (sh, S, L, R)
  | 0, r, hr, L, h1, h2 => by
    have e : r = hrs := by omega
    subst e
    exact hk L h1 h2
  | k + 1, r, hr, L, h1, h2 => by
    have ih := pa_h xs u hrs hu hh sh S R L0 hH hU hp F hk k (r + 1) (by omega)
    have hneg : ¬ zi (((k + 1 : Nat) : Int) - 1) < 0 := by
      rw [show (0 : Int32) = zi 0 from rfl, zi_lt (by omega) (by omega) (by omega) (by omega)]
      omega
    refine b_Mod_planAlone_36 xs F 48 (zi u) _ (sh, S, L, R) ⟨fun e => absurd e hneg, fun _ => ?_⟩
    rw [show ((k + 1 : Nat) : Int) - 1 = (k : Int) by omega]
    have hrow : hrs - r = k + 1 := by omega
    refine pa_s xs u k hu (by omega) sh S L R hH hU (hp k (by omega)) (mW S u hrs r) (fun t ht => ?_) (fun t => ?_) F (fun L' g1 g2 => ?_) 15 0 rfl L (fun t ht => by omega) (fun _ _ _ => rfl)
    · rw [← hrow]
      exact h1 r t (Nat.le_refl _) ht
    · have := mW_rng hU hh hp r (by omega) t
      have nv : NV = 1152921504606846976 := rfl
      omega
    · refine ih L' (fun q t hq ht => ?_) (fun a j ha => ?_)
      · by_cases e : q = r + 1
        · subst e
          rw [show hrs - (r + 1) = k by omega, g1 t ht]
          unfold mW
          rw [show hrs - (r + 1) = k by omega]
          rfl
        · rw [g2 65 _ (by omega)]
          exact h1 q t (by omega) ht
      · rw [g2 a j (by omega)]
        exact h2 a j ha
