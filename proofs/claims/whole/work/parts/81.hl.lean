/-! What a layer holds: of what was offered, the best. -/
def LO (w : Nat → Int → Int) (cc wc n : Nat) : Nat → Option (Int × Nat) := fun s => if s < n ∧ w wc s ≠ -1 then some (w cc s, (w wc s).toNat) else none
def Held (M : Nat → Option (Int × Nat)) (O : Nat → Int → Nat → Prop) : Prop := (∀ s k y, M s = some (k, y) → O s k y) ∧ (∀ s k y, O s k y → ∃ k1 y1, M s = some (k1, y1) ∧ dp_le k1 y1 k y)
theorem Held_iff {M : Nat → Option (Int × Nat)} {O O' : Nat → Int → Nat → Prop} (h : Held M O) (e : ∀ s k y, O s k y ↔ O' s k y) : Held M O' := ⟨fun s k y q => (e s k y).mp (h.1 s k y q), fun s k y q => h.2 s k y ((e s k y).mpr q)⟩
theorem LO_some {w : Nat → Int → Int} {cc wc n : Nat} {s : Nat} {k : Int} {y : Nat} {K M : Int} (hR : RL w cc wc n K M) : LO w cc wc n s = some (k, y) ↔ s < n ∧ w wc s ≠ -1 ∧ w cc s = k ∧ w wc s = y := by
  unfold LO
  constructor
  · intro h
    split at h
    · rename_i q
      have r := hR s (by omega) (by omega)
      simp only [Option.some.injEq, Prod.mk.injEq] at h
      have r1 := q.2
      refine ⟨q.1, q.2, h.1, ?_⟩
      omega
    · cases h
  · intro h
    rw [if_pos ⟨h.1, h.2.1⟩, h.2.2.1, h.2.2.2, Int.toNat_natCast]
theorem LO_rows {w w' : Nat → Int → Int} {cc wc n : Nat} (h1 : w' cc = w cc) (h2 : w' wc = w wc) : LO w' cc wc n = LO w cc wc n := by
  funext s
  unfold LO
  rw [h1, h2]
theorem Held_clear {w : Nat → Int → Int} {cc wc n : Nat} : Held (LO (zfl w wc n (-1)) cc wc n) (fun _ _ _ => False) := by
  refine ⟨fun s k y h => ?_, fun s k y h => h.elim⟩
  unfold LO at h
  split at h
  · rename_i q
    exact absurd (zfl_in (by omega) (by omega)) q.2
  · cases h
theorem Held_ofr {w : Nat → Int → Int} {cc wc n : Nat} {K Mx : Int} (hR : RL w cc wc n K Mx) (hne : cc ≠ wc) {p k y : Int} (hp : 0 ≤ p ∧ p < n) (hk : -K ≤ k ∧ k ≤ K) (hy : 0 ≤ y ∧ y < Mx) (hK : K ≤ 1000000000) {O : Nat → Int → Nat → Prop} (h : Held (LO w cc wc n) O) : Held (LO (ofr w cc wc p k y) cc wc n) (fun s k' y' => O s k' y' ∨ ((s : Int) = p ∧ k' = k ∧ (y' : Int) = y)) := by
  have hR' := RL_ofr (p := p) hR hne hk hy hK
  by_cases c : w wc p = -1 ∨ k < w cc p ∨ (k = w cc p ∧ y < w wc p)
  · have e : ofr w cc wc p k y = zu (zu w cc p k) wc p y := by unfold ofr; rw [if_pos c]
    have e1 : ∀ s : Nat, (s : Int) ≠ p → LO (ofr w cc wc p k y) cc wc n s = LO w cc wc n s := by
      intro s hs
      unfold LO
      rw [e, zu_j hs, zu_j hs, zu_j hs, zu_j hs]
    have e2 : ∀ s : Nat, (s : Int) = p → ofr w cc wc p k y wc s = y := by
      intro s hs
      rw [e, zu_e hs]
    have e3 : ∀ s : Nat, (s : Int) = p → ofr w cc wc p k y cc s = k := by
      intro s hs
      rw [e, zu_a hne, zu_e hs]
    refine ⟨fun s k' y' hM => ?_, fun s k' y' hO => ?_⟩
    · by_cases hs : (s : Int) = p
      · obtain ⟨a1, a2, a3, a4⟩ := (LO_some hR').mp hM
        rw [e3 s hs] at a3
        rw [e2 s hs] at a4
        exact Or.inr ⟨hs, a3.symm, a4.symm⟩
      · rw [e1 s hs] at hM
        exact Or.inl (h.1 s k' y' hM)
    · by_cases hs : (s : Int) = p
      · have hM : LO (ofr w cc wc p k y) cc wc n s = some (k, y.toNat) := (LO_some hR').mpr ⟨by omega, by rw [e2 s hs]; omega, e3 s hs, by rw [e2 s hs]; omega⟩
        refine ⟨k, y.toNat, hM, ?_⟩
        rcases hO with hO | ⟨-, q1, q2⟩
        · obtain ⟨k1, y1, b1, b2⟩ := h.2 s k' y' hO
          obtain ⟨a1, a2, a3, a4⟩ := (LO_some hR).mp b1
          rw [hs] at a2 a3 a4
          unfold dp_le at b2 ⊢
          omega
        · unfold dp_le
          omega
      · rcases hO with hO | ⟨q0, q1, q2⟩
        · rw [e1 s hs]
          exact h.2 s k' y' hO
        · exact absurd q0 hs
  · have e : ofr w cc wc p k y = w := by unfold ofr; rw [if_neg c]
    rw [e]
    refine ⟨fun s k' y' hM => Or.inl (h.1 s k' y' hM), fun s k' y' hO => ?_⟩
    rcases hO with hO | ⟨q0, q1, q2⟩
    · exact h.2 s k' y' hO
    · have r := hR p hp.1 hp.2
      refine ⟨w cc p, (w wc p).toNat, (LO_some hR).mpr ⟨by omega, by rw [q0]; omega, by rw [q0], by rw [q0]; omega⟩, ?_⟩
      unfold dp_le
      omega
/-- the least of all places in place 0 -/
theorem Held_gth {w : Nat → Int → Int} {cc wc cd wd n m : Nat} {K M : Int} (hne : cc ≠ wc) (hn : 0 < n) (hK : K ≤ 1000000000) (h : RL w cc wc n K M) (h' : RL w cd wd m K M) (h0 : Held (LO w cc wc n) (fun _ _ _ => False)) : ∀ i : Nat, i ≤ m → Held (LO (gth w cc wc cd wd i) cc wc n) (fun s k y => s = 0 ∧ ∃ j, j < i ∧ LO w cd wd m j = some (k, y))
  | 0, _ => Held_iff h0 (fun s k y => ⟨fun q => q.elim, fun ⟨_, j, q, _⟩ => absurd q (Nat.not_lt_zero _)⟩)
  | i + 1, hi => by
    have ih := Held_gth hne hn hK h h' h0 i (by omega)
    have r := gth_RL hne hK h h' i (by omega)
    have q := h' i (by omega) (by omega)
    unfold gth
    split
    · rename_i c
      refine Held_iff ih (fun s k y => ⟨fun ⟨a, j, b, d⟩ => ⟨a, j, by omega, d⟩, fun ⟨a, j, b, d⟩ => ⟨a, j, ?_, d⟩⟩)
      rcases Nat.lt_or_ge j i with z | z
      · exact z
      · have : j = i := by omega
        subst this
        exact absurd c ((LO_some h').mp d).2.1
    · rename_i c
      refine Held_iff (Held_ofr (p := 0) r hne (by omega) (by omega) (by omega) hK ih) (fun s k y => ⟨fun z => ?_, fun ⟨a, j, b, d⟩ => ?_⟩)
      · rcases z with ⟨a, j, b, d⟩ | ⟨a, b, d⟩
        · exact ⟨a, j, by omega, d⟩
        · exact ⟨by omega, i, by omega, (LO_some h').mpr ⟨by omega, c, b.symm, d.symm⟩⟩
      · rcases Nat.lt_or_ge j i with z | z
        · exact Or.inl ⟨a, j, z, d⟩
        · have : j = i := by omega
          subst this
          obtain ⟨-, -, d3, d4⟩ := (LO_some h').mp d
          exact Or.inr ⟨by omega, d3.symm, d4.symm⟩
theorem gth_best {w : Nat → Int → Int} {cc wc cd wd n m : Nat} {K M : Int} (hne : cc ≠ wc) (hn : 0 < n) (hK : K ≤ 1000000000) (h : RL w cc wc n K M) (h' : RL w cd wd m K M) (h0 : Held (LO w cc wc n) (fun _ _ _ => False)) {T : dp_T} {C h1 s0 N : Nat} (hL : dp_layer T C h1 s0 N (LO w cd wd m)) :
    (∀ k y, LO (gth w cc wc cd wd m) cc wc n 0 = some (k, y) → ∃ cs, dp_best T C N h1 s0 k cs ∧ dp_num C cs = y) ∧
    (LO (gth w cc wc cd wd m) cc wc n 0 = none → ∀ ds s k, ds.length = N → dp_dig C ds → dp_run T h1 s0 ds ≠ some (s, k)) := by
  have H := Held_gth hne hn hK h h' h0 m (Nat.le_refl _)
  refine ⟨fun k y q => ?_, fun q ds s k hl hd => ?_⟩
  · obtain ⟨-, j, b, d⟩ := H.1 0 k y q
    refine dp_layer_best hL j k y d (fun s' k' w' e => ?_)
    have hs : s' < m := by
      rcases Nat.lt_or_ge s' m with z | z
      · exact z
      · unfold LO at e
        rw [if_neg (by omega)] at e
        cases e
    obtain ⟨k1, y1, f1, f2⟩ := H.2 0 k' w' ⟨rfl, s', hs, e⟩
    rw [q] at f1
    simp only [Option.some.injEq, Prod.mk.injEq] at f1
    obtain ⟨rfl, rfl⟩ := f1
    exact f2
  · refine dp_layer_none hL (fun s' => ?_) ds s k hl hd
    cases e : LO w cd wd m s' with
    | none => rfl
    | some p =>
      have hs : s' < m := by
        rcases Nat.lt_or_ge s' m with z | z
        · exact z
        · unfold LO at e
          rw [if_neg (by omega)] at e
          cases e
      obtain ⟨k1, y1, f1, f2⟩ := H.2 0 p.1 p.2 ⟨rfl, s', hs, e⟩
      rw [q] at f1
      cases f1
/-- one hour: what is offered from a layer by the steps of a system -/
def offs (T : dp_T) (h C : Nat) (L : Nat → Option (Int × Nat)) (i : Nat) : Nat → Int → Nat → Prop := fun s k y => ∃ s1 k1 y1 c j, s1 < i ∧ L s1 = some (k1, y1) ∧ c < C ∧ T h s1 c = some (s, j) ∧ k = k1 + j ∧ y = y1 * C + c
theorem offs_next {T : dp_T} {C h0 s0 n N : Nat} {L M : Nat → Option (Int × Nat)} (hL : dp_layer T C h0 s0 n L) (hN : ∀ s, N ≤ s → L s = none) (h : Held M (offs T (h0 + n) C L N)) : dp_layer T C h0 s0 (n + 1) M := by
  refine dp_layer_next hL (fun s k w q => ?_) (fun s1 k1 w1 c s j a1 a2 a3 => ?_)
  · obtain ⟨s1, k1, y1, c, j, -, b2, b3, b4, b5, b6⟩ := h.1 s k w q
    exact ⟨s1, k1, y1, c, j, b2, b3, b4, b5, b6⟩
  · refine h.2 s (k1 + j) (w1 * C + c) ⟨s1, k1, w1, c, j, ?_, a1, a2, a3, rfl, rfl⟩
    rcases Nat.lt_or_ge s1 N with z | z
    · exact z
    · rw [hN s1 z] at a1
      cases a1
theorem offs_s {T : dp_T} {h C : Nat} {L : Nat → Option (Int × Nat)} {i : Nat} {k1 : Int} {y1 : Nat} (hL : L i = some (k1, y1)) (s : Nat) (k : Int) (y : Nat) : (offs T h C L i s k y ∨ ∃ c j, c < C ∧ T h i c = some (s, j) ∧ k = k1 + j ∧ y = y1 * C + c) ↔ offs T h C L (i + 1) s k y := by
  constructor
  · rintro (⟨s1, k2, y2, c, j, b1, b2, b3, b4, b5, b6⟩ | ⟨c, j, b1, b2, b3, b4⟩)
    · exact ⟨s1, k2, y2, c, j, by omega, b2, b3, b4, b5, b6⟩
    · exact ⟨i, k1, y1, c, j, by omega, hL, b1, b2, b3, b4⟩
  · rintro ⟨s1, k2, y2, c, j, b1, b2, b3, b4, b5, b6⟩
    rcases Nat.lt_or_ge s1 i with z | z
    · exact Or.inl ⟨s1, k2, y2, c, j, z, b2, b3, b4, b5, b6⟩
    · have : s1 = i := by omega
      subst this
      rw [hL] at b2
      simp only [Option.some.injEq, Prod.mk.injEq] at b2
      obtain ⟨rfl, rfl⟩ := b2
      exact Or.inr ⟨c, j, b3, b4, b5, b6⟩
theorem offs_n {T : dp_T} {h C : Nat} {L : Nat → Option (Int × Nat)} {i : Nat} (hL : L i = none) (s : Nat) (k : Int) (y : Nat) : offs T h C L i s k y ↔ offs T h C L (i + 1) s k y := by
  constructor
  · rintro ⟨s1, k2, y2, c, j, b1, b2, b3, b4, b5, b6⟩
    exact ⟨s1, k2, y2, c, j, by omega, b2, b3, b4, b5, b6⟩
  · rintro ⟨s1, k2, y2, c, j, b1, b2, b3, b4, b5, b6⟩
    refine ⟨s1, k2, y2, c, j, ?_, b2, b3, b4, b5, b6⟩
    rcases Nat.lt_or_ge s1 i with z | z
    · exact z
    · have : s1 = i := by omega
      subst this
      rw [hL] at b2
      cases b2
