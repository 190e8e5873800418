theorem zi_suc (n : Nat) : zi (n : Int) + 1 = zi ((n + 1 : Nat) : Int) := by
  rw [show (1 : Int32) = zi 1 from rfl, zi_add]
  rfl
theorem lg_ge (x y : Int64) : (0 : Int32) ≤ lg_cmp x y ↔ ¬ x < y := by
  unfold lg_cmp
  by_cases h1 : y < x
  · rw [if_pos h1]
    exact ⟨fun _ h => absurd h (Int64.not_lt.mpr (Int64.le_of_lt h1)), fun _ => by decide⟩
  · rw [if_neg h1]
    by_cases h2 : x = y
    · rw [if_pos h2]
      exact ⟨fun _ h => by rw [h2] at h; exact absurd h (Int64.lt_irrefl), fun _ => by decide⟩
    · rw [if_neg h2]
      constructor
      · intro h
        exact absurd h (by decide)
      · intro h
        exact absurd (Int64.le_antisymm (Int64.not_lt.mp h1) (Int64.not_lt.mp h)) h2
theorem lg_eq (x y : Int64) : lg_cmp x y = 0 ↔ x = y := by
  unfold lg_cmp
  by_cases h1 : y < x
  · rw [if_pos h1]
    exact ⟨fun h => absurd h (by decide), fun h => by rw [h] at h1; exact absurd h1 (Int64.lt_irrefl)⟩
  · rw [if_neg h1]
    by_cases h2 : x = y
    · rw [if_pos h2]
      exact ⟨fun _ => h2, fun _ => rfl⟩
    · rw [if_neg h2]
      exact ⟨fun h => absurd h (by decide), fun h => absurd h h2⟩
/-- the least of f 0 .. f (n - 1), and never -/
def mn5 (f : Nat → Int) : Nat → Int
  | 0 => NV
  | n + 1 => if f n < mn5 f n then f n else mn5 f n
theorem mn5_le (f : Nat → Int) : ∀ n, mn5 f n ≤ NV
  | 0 => Int.le_refl _
  | n + 1 => by
    have := mn5_le f n
    unfold mn5
    split <;> omega
theorem mn5_ge {f : Nat → Int} {b : Int} (hb : b ≤ NV) : ∀ n, (∀ c, c < n → b ≤ f c) → b ≤ mn5 f n
  | 0, _ => hb
  | n + 1, h => by
    have := mn5_ge hb n (fun c hc => h c (by omega))
    have := h n (by omega)
    unfold mn5
    split <;> omega
theorem mY_rng {S : Nat → Nat → Int32} {u h s c : Nat} {V : Int → Int} (hu : mU S u) (hc : c < 5) (hp : -100000 ≤ vi S 63 h ∧ vi S 63 h ≤ 100000) (hV : ∀ t, -60000000 ≤ V t ∧ V t ≤ NV) : -66300000 ≤ mY S V u h s c ∧ mY S V u h s c ≤ NV + 6350000 := by
  have h1 := mA_rng hu hc hp (s := s)
  have h2 := hV (mB S u s c)
  unfold mY
  split
  · omega
  · unfold NV; omega
theorem pa_c (xs : List Int32) (u h s : Nat) (hu : u < 3) (hh : h < 8) (hs : s < 15) (H : q_H) (hH : lay_m H) (hU : mU H.2.1 u) (hp : -100000 ≤ vi H.2.1 63 h ∧ vi H.2.1 63 h ≤ 100000) (V : Int → Int) (hV : ∀ t : Nat, t < 15 → H.2.2.1 65 (15 * (h + 1) + t) = zl (V t)) (hr : ∀ t, -60000000 ≤ V t ∧ V t ≤ NV) (F : Option Value → q_H → Prop)
    (hk : q_Rt (GG xs) PP 65 F 42 [some (.ref 48), some (.int (zi u)), some (.int (zi h)), some (.int (zi ((s + 1 : Nat) : Int))), none, none, none] [] (H.1, H.2.1, q_up H.2.2.1 65 (15 * h + s) (zl (mn5 (mY H.2.1 V u h s) 5)), H.2.2.2)) :
    ∀ n c : Nat, c + n = 5 → q_Rt (GG xs) PP 65 F 56 [some (.ref 48), some (.int (zi u)), some (.int (zi h)), some (.int (zi s)), some (.long (zl (mn5 (mY H.2.1 V u h s) c))), none, some (.int (zi c))] [] H
  | 0, c, hc => by
    have c5 : c = 5 := by omega
    subst c5
    refine b_Mod_planAlone_56 xs F 48 (zi u) (zi h) (zi s) _ (zi (5 : Nat)) H ⟨fun _ => ?_, fun e => absurd (by decide) e⟩
    have ix : q_ix (zi (15 * (h : Int) + s)) 135 = some (15 * h + s) := by
      rw [zi_ix (by omega) (by omega) (by omega)]
      congr 1
    simp [hH, zi_lit, zi_mul, zi_add, ix]
    exact hk
  | n + 1, c, hc => by
    have ih := pa_c xs u h s hu hh hs H hH hU hp V hV hr F hk n (c + 1) (by omega)
    have hc5 : ¬ (5 : Int32) ≤ zi c := by
      rw [show (5 : Int32) = zi 5 from rfl, zi_le (by omega) (by omega) (by omega) (by omega)]
      omega
    have y1 := mY_rng (s := s) (c := c) hU (by omega) hp hr
    have m1 := mn5_le (mY H.2.1 V u h s) c
    have m2 : -66300000 ≤ mn5 (mY H.2.1 V u h s) c := mn5_ge (by decide) c (fun d hd => (mY_rng hU (by omega) hp hr).1)
    have nv : NV = 1152921504606846976 := rfl
    have cmp : zl (mY H.2.1 V u h s c) < zl (mn5 (mY H.2.1 V u h s) c) ↔ mY H.2.1 V u h s c < mn5 (mY H.2.1 V u h s) c := zl_lt (by omega) (by omega) (by omega) (by omega)
    refine b_Mod_planAlone_56 xs F 48 (zi u) (zi h) (zi s) _ (zi c) H ⟨fun e => absurd e hc5, fun _ => ⟨hH.1, ?_⟩⟩
    refine sm_wayAlone xs u h s c hu hh hs (by omega) H hH hU hp V hV _ ⟨fun e => ?_, fun e => ⟨hH.1, ?_⟩⟩
    · rw [lg_ge, cmp] at e
      rw [zi_suc]
      unfold mn5 at ih
      rw [if_neg e] at ih
      exact ih
    · rw [lg_ge, cmp, Decidable.not_not] at e
      refine sm_wayAlone xs u h s c hu hh hs (by omega) H hH hU hp V hV _ ?_
      rw [zi_suc]
      unfold mn5 at ih
      rw [if_pos e] at ih
      exact ih
