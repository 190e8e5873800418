def s66 (S S' : Nat → Nat → Int32) : Prop := ∀ a, a ≠ 66 → S' a = S a
theorem s66_B {S S' : Nat → Nat → Int32} (h : s66 S S') : mB S' = mB S := by
  funext u s c
  simp only [mB, vi, h 49 (by decide), h 50 (by decide), h 51 (by decide), h 52 (by decide), h 53 (by decide)]
theorem s66_T {S S' : Nat → Nat → Int32} (h : s66 S S') : mT S' = mT S := by
  funext u c
  simp only [mT, vi, h 49 (by decide)]
theorem s66_A {S S' : Nat → Nat → Int32} (h : s66 S S') : mA S' = mA S := by
  funext u h' s c
  simp only [mA, mC, mT, vi, h 49 (by decide), h 54 (by decide), h 55 (by decide), h 63 (by decide)]
theorem s66_Y {S S' : Nat → Nat → Int32} (h : s66 S S') : mY S' = mY S := by
  funext V u h' s c
  simp only [mY, s66_A h, s66_B h]
theorem s66_U {S S' : Nat → Nat → Int32} (h : s66 S S') {u : Nat} (hu : mU S u) : mU S' u := by
  unfold mU vi at hu ⊢
  simp only [h 49 (by decide), h 50 (by decide), h 51 (by decide), h 52 (by decide), h 53 (by decide), h 54 (by decide), h 55 (by decide), h 56 (by decide), h 57 (by decide)]
  exact hu
theorem s66_up {S S' : Nat → Nat → Int32} (h : s66 S S') (j : Nat) (x : Int32) : s66 S (q_up S' 66 j x) := fun a ha => (q_up_row _ _ ha).trans (h a ha)
theorem pa_w (xs : List Int32) (u hrs : Nat) (hu : u < 3) (hh : hrs ≤ 8) (sh : List q_Sh) (S : Nat → Nat → Int32) (L : Nat → Nat → Int64) (R : Nat → Nat → Option Nat) (hH : lay_m (sh, S, L, R)) (hS : S 48 1 = zi hrs) (hU : mU S u) (hp : ∀ h, h < 8 → -100000 ≤ vi S 63 h ∧ vi S 63 h ≤ 100000) (hF : mG S u (mF S u)) (hL : ∀ r t : Nat, r ≤ hrs → t < 15 → L 65 (15 * (hrs - r) + t) = zl (mW S u hrs r t)) (F : Option Value → q_H → Prop) (h : Nat) (hlt : h < hrs) (S' : Nat → Nat → Int32) (h66 : s66 S S') (hk : q_Rt (GG xs) PP 65 F 144 [some (.ref 48), some (.int (zi u)), some (.int (zi (mS S u hrs (h + 1)))), some (.int (zi ((h + 1 : Nat) : Int))), none, none, none] [] (sh, q_up S' 66 (8 * u + h) (zi (mT S u (mX S u hrs h (mS S u hrs h).toNat))), L, R)) :
    ∀ n c : Nat, c + n = mX S u hrs h (mS S u hrs h).toNat → q_Rt (GG xs) PP 65 F 155 [some (.ref 48), some (.int (zi u)), some (.int (zi (mS S u hrs h))), some (.int (zi h)), some (.int (zi c)), none, none] [] (sh, S', L, R) := by
  have hg := mS_good hU hh hp hF h (by omega)
  have hs : (((mS S u hrs h).toNat : Nat) : Int) = mS S u hrs h := by have := hg.1; omega
  obtain ⟨x1, x2, x3, x4⟩ := mX_ok hU hh hp (h := h) (s := (mS S u hrs h).toNat) hlt (by rw [hs]; exact hg)
  have g1 := hg.1
  have g2 := hg.2.1
  have nv : NV = 1152921504606846976 := rfl
  have hU' := s66_U h66 hU
  have hp' : -100000 ≤ vi S' 63 h ∧ vi S' 63 h ≤ 100000 := by
    unfold vi
    rw [h66 63 (by decide)]
    exact hp h (by omega)
  have hV : ∀ t : Nat, t < 15 → L 65 (15 * (h + 1) + t) = zl (mW S u hrs (hrs - (h + 1)) t) := fun t ht => by
    rw [← hL (hrs - (h + 1)) t (by omega) ht, show hrs - (hrs - (h + 1)) = h + 1 by omega]
  have ix : q_ix (zi (15 * (h : Int) + mS S u hrs h)) 135 = some (15 * h + (mS S u hrs h).toNat) := by
    rw [zi_ix (by omega) (by omega) (by omega)]
    congr 1
    omega
  have hLs : L 65 (15 * h + (mS S u hrs h).toNat) = zl (mW S u hrs (hrs - h) (mS S u hrs h).toNat) := by
    rw [← hL (hrs - h) (mS S u hrs h).toNat (by omega) (by omega), show hrs - (hrs - h) = h by omega]
  have w1 := mW_rng hU hh hp (hrs - h) (by omega) (mS S u hrs h).toNat
  have w0 := mW_rng hU hh hp (hrs - (h + 1)) (by omega)
  intro n
  induction n with
  | zero =>
    intro c hc
    refine b_Mod_planAlone_155 xs F 48 (zi u) (zi (mS S u hrs h)) (zi h) (zi c) (sh, S', L, R) ⟨hH.1, ?_⟩
    have hc5 : c < 5 := by omega
    rw [← hs]
    refine sm_wayAlone xs u h _ c hu (by omega) (by omega) hc5 (sh, S', L, R) hH hU' hp' (mW S u hrs (hrs - (h + 1))) hV _ ?_
    refine ⟨hH.1, 65, lm_r48_21 hH, 135, 15 * h + (mS S u hrs h).toNat, lm_s65 hH, by rw [hs, show (15 : Int32) = zi 15 from rfl, zi_mul, zi_add]; exact ix, fun _ => ?_, fun e => ?_⟩
    · refine ⟨hH.1, 66, lm_r48_22 hH, hH.1, sm_told xs u c hu hc5 (sh, S', L, R) hH _ ?_⟩
      have ix2 : q_ix (8 * zi u + zi h) 24 = some (8 * u + h) := by
        rw [show (8 : Int32) = zi 8 from rfl, zi_mul, zi_add, zi_ix (by omega) (by omega) (by omega)]
        congr 1
      refine ⟨24, 8 * u + h, lm_s66 hH, ix2, hH.1, ?_⟩
      have hup := s66_up h66 (8 * u + h) (zi (mT S' u c))
      refine sm_behind xs u _ c hu (sh, q_up S' 66 (8 * u + h) (zi (mT S' u c)), L, R) hH (s66_U hup hU) (by omega) (by omega) _ ?_
      rw [zi_suc]
      show q_Rt _ _ _ _ _ [_, _, some (.int (zi (mB (q_up S' 66 (8 * u + h) (zi (mT S' u c))) u _ c))), _, _, _, _] _ _
      rw [s66_B hup, s66_T h66, show c = mX S u hrs h (mS S u hrs h).toNat by omega]
      exact hk
    · exfalso
      apply e
      show lg_cmp (zl (mY S' _ u h _ c)) (L 65 _) = 0
      rw [lg_eq, hLs, s66_Y h66, show c = mX S u hrs h (mS S u hrs h).toNat by omega, x2]
  | succ n ih =>
    intro c hc
    have hc5 : c < 5 := by omega
    have y1 := mY_rng (s := (mS S u hrs h).toNat) (V := mW S u hrs (hrs - (h + 1))) hU hc5 (hp h (by omega)) (fun t => by have := w0 t; omega)
    refine b_Mod_planAlone_155 xs F 48 (zi u) (zi (mS S u hrs h)) (zi h) (zi c) (sh, S', L, R) ⟨hH.1, ?_⟩
    rw [← hs]
    refine sm_wayAlone xs u h _ c hu (by omega) (by omega) hc5 (sh, S', L, R) hH hU' hp' (mW S u hrs (hrs - (h + 1))) hV _ ?_
    refine ⟨hH.1, 65, lm_r48_21 hH, 135, 15 * h + (mS S u hrs h).toNat, lm_s65 hH, by rw [hs, show (15 : Int32) = zi 15 from rfl, zi_mul, zi_add]; exact ix, fun e => ?_, fun _ => ?_⟩
    · exfalso
      have e' : lg_cmp (zl (mY S' (mW S u hrs (hrs - (h + 1))) u h (mS S u hrs h).toNat c)) (L 65 (15 * h + (mS S u hrs h).toNat)) = 0 := e
      rw [lg_eq, hLs, s66_Y h66, zl_eq (by omega) (by omega) (by omega) (by omega)] at e'
      exact x3 c (by omega) e'
    · rw [zi_suc, hs]
      exact ih (c + 1) (by omega)
theorem pa_f (xs : List Int32) (u hrs : Nat) (hu : u < 3) (hh : hrs ≤ 8) (sh : List q_Sh) (S : Nat → Nat → Int32) (L : Nat → Nat → Int64) (R : Nat → Nat → Option Nat) (hH : lay_m (sh, S, L, R)) (hS : S 48 1 = zi hrs) (hU : mU S u) (hp : ∀ h, h < 8 → -100000 ≤ vi S 63 h ∧ vi S 63 h ≤ 100000) (hF : mG S u (mF S u)) (hL : ∀ r t : Nat, r ≤ hrs → t < 15 → L 65 (15 * (hrs - r) + t) = zl (mW S u hrs r t)) (F : Option Value → q_H → Prop) (hk : ∀ S' : Nat → Nat → Int32, s66 S S' → (∀ h, h < hrs → S' 66 (8 * u + h) = zi (mT S u (mX S u hrs h (mS S u hrs h).toNat))) → (∀ j, ¬ (8 * u ≤ j ∧ j < 8 * u + hrs) → S' 66 j = S 66 j) → F none (sh, S', L, R)) :
    ∀ n h : Nat, h + n = hrs → ∀ S' : Nat → Nat → Int32, s66 S S' → (∀ g, g < h → S' 66 (8 * u + g) = zi (mT S u (mX S u hrs g (mS S u hrs g).toNat))) → (∀ j, ¬ (8 * u ≤ j ∧ j < 8 * u + hrs) → S' 66 j = S 66 j) → q_Rt (GG xs) PP 65 F 144 [some (.ref 48), some (.int (zi u)), some (.int (zi (mS S u hrs h))), some (.int (zi h)), none, none, none] [] (sh, S', L, R) := by
  intro n
  induction n with
  | zero =>
    intro h hn S' h66 h1 h2
    have e : h = hrs := by omega
    subst e
    refine b_Mod_planAlone_144 xs F 48 (zi u) (zi (mS S u h h)) (zi h) (sh, S', L, R) ⟨hH.1, fun _ => hk S' h66 h1 h2, fun e => absurd ?_ e⟩
    show S' 48 1 ≤ zi h
    rw [h66 48 (by decide), hS]
    exact Int32.le_refl _
  | succ n ih =>
    intro h hn S' h66 h1 h2
    refine b_Mod_planAlone_144 xs F 48 (zi u) (zi (mS S u hrs h)) (zi h) (sh, S', L, R) ⟨hH.1, fun e => ?_, fun _ => ?_⟩
    · exfalso
      have e' : S' 48 1 ≤ zi h := e
      rw [h66 48 (by decide), hS, zi_le (by omega) (by omega) (by omega) (by omega)] at e'
      omega
    · refine pa_w xs u hrs hu hh sh S L R hH hS hU hp hF hL F h (by omega) S' h66 ?_ _ 0 (Nat.zero_add _)
      refine ih (h + 1) (by omega) _ (s66_up h66 _ _) (fun g hg => ?_) (fun j hj => ?_)
      · by_cases e : g = h
        · subst e
          simp [q_up]
        · rw [← h1 g (by omega)]
          simp [q_up]
          omega
      · rw [← h2 j hj]
        simp [q_up]
        omega
theorem sm_planAlone (xs : List Int32) (u hrs : Nat) (hu : u < 3) (hh : hrs ≤ 8) (sh : List q_Sh) (S : Nat → Nat → Int32) (L0 : Nat → Nat → Int64) (R : Nat → Nat → Option Nat) (hH : lay_m (sh, S, L0, R)) (hS : S 48 1 = zi hrs) (hU : mU S u) (hp : ∀ h, h < 8 → -100000 ≤ vi S 63 h ∧ vi S 63 h ≤ 100000) (hF : mG S u (mF S u)) (F : Option Value → q_H → Prop)
    (hk : ∀ (S' : Nat → Nat → Int32) (L : Nat → Nat → Int64), s66 S S' → (∀ h, h < hrs → S' 66 (8 * u + h) = zi (mT S u (mX S u hrs h (mS S u hrs h).toNat))) → (∀ j, ¬ (8 * u ≤ j ∧ j < 8 * u + hrs) → S' 66 j = S 66 j) → (∀ a j, a ≠ 65 → ¬ (a = 67 ∧ j = u) → L a j = L0 a j) → L 67 u = zl (mW S u hrs hrs (mF S u)) → F none (sh, S', L, R)) :
    q_Call (GG xs) PP kMod_planAlone [.ref 48, .int (zi u)] (sh, S, L0, R) F := by
  refine e_Mod_planAlone xs F 48 (zi u) (sh, S, L0, R) ?_
  refine pa_0 xs u hrs hh sh S R L0 hH hS F (fun L1 a1 a2 => ?_) 15 0 rfl L0 (fun t ht => absurd ht (Nat.not_lt_zero t)) (fun _ _ _ => rfl)
  refine pa_h xs u hrs hu hh sh S R L0 hH hU hp F (fun L2 b1 b2 => ?_) hrs 0 rfl L1 (fun q t hq ht => ?_) a2
  · refine b_Mod_planAlone_36 xs F 48 (zi u) (zi (-1)) (sh, S, L2, R) ⟨fun _ => ⟨hH.1, sm_firstState xs u hu (sh, S, L2, R) hH hU _ ?_⟩, fun e => absurd (by decide) e⟩
    have g1 := hF.1
    have g2 := hF.2.1
    have ix : q_ix (zi (mF S u)) 135 = some (mF S u).toNat := zi_ix g1 (by omega) (by omega)
    refine ⟨hH.1, 67, lm_r48_23 hH, hH.1, 65, lm_r48_21 hH, 135, (mF S u).toNat, lm_s65 hH, ix, 3, u, lm_s67 hH, zi_ixn hu (by omega), ?_⟩
    have eL : L2 65 (mF S u).toNat = zl (mW S u hrs hrs (mF S u)) := by
      have := b1 hrs (mF S u).toNat (Nat.le_refl _) (by omega)
      rw [show 15 * (hrs - hrs) + (mF S u).toNat = (mF S u).toNat by omega, Int.toNat_of_nonneg g1] at this
      exact this
    refine pa_f xs u hrs hu hh sh S (q_up L2 67 u (L2 65 (mF S u).toNat)) R hH hS hU hp hF (fun r t hr ht => ?_) F (fun S' c1 c2 c3 => ?_) hrs 0 (Nat.zero_add _) S (fun _ _ => rfl) (fun g hg => absurd hg (Nat.not_lt_zero g)) (fun _ _ => rfl)
    · rw [q_up_row _ _ (by decide)]
      exact b1 r t hr ht
    · refine hk S' _ c1 c2 c3 (fun a j h1 h2 => ?_) ?_
      · rw [← b2 a j h1]
        simp only [q_up, if_neg h2]
      · rw [← eL]
        simp [q_up]
  · have : q = 0 := by omega
    subst this
    rw [Nat.sub_zero]
    exact a1 t ht
