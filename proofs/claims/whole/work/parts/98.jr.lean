/-! The reference's joint plan is the best one. -/
theorem RFLn_lt {v : Nat → Int → Int} {as : Prop} [Decidable as] {h : Int} : ∀ n i j, i < j → j < (RFLn v as h n).length → (RFLn v as h n).getD i 0 < (RFLn v as h n).getD j 0
  | 0, i, j, _, hj => by simp [RFLn] at hj
  | n + 1, i, j, hi, hj => by
    have ih := RFLn_lt (v := v) (as := as) (h := h) n i j hi
    revert hj
    unfold RFLn
    split
    · intro hj
      rw [List.length_append, List.length_singleton] at hj
      have e1 : ∀ k, k < (RFLn v as h n).length → (RFLn v as h n ++ [n]).getD k 0 = (RFLn v as h n).getD k 0 := fun k hk => by
        simp only [List.getD_eq_getElem?_getD]
        rw [List.getElem?_append_left hk]
      by_cases z : j < (RFLn v as h n).length
      · rw [e1 i (by omega), e1 j z]
        exact ih z
      · have e0 : j = (RFLn v as h n).length := by omega
        have e2 : (RFLn v as h n ++ [n]).getD j 0 = n := by
          rw [List.getD_eq_getElem?_getD, e0, List.getElem?_append_right (Nat.le_refl _), Nat.sub_self]
          rfl
        rw [e1 i (by omega), e2]
        exact ((RFLn_mem n).mp (getD_mem (by omega))).1
    · exact ih
section
variable {v : Nat → Int → Int} {as : Prop}
theorem jcd_ok [Decidable as] (hA : rA v) {h : Nat} {all : Int} (hh : (h : Int) < v 48 1) (ha : 0 ≤ all ∧ all < 3375) (hf : rWv v as (v 48 1) ((v 48 1).toNat - h) all < MANY) : isv v all ∧ jcd v as (v 48 1) h all ∈ RFLn v as h 125 ∧ jok v (rWv v as (v 48 1) ((v 48 1).toNat - (h + 1))) (rWv v as (v 48 1) ((v 48 1).toNat - h) all) all (jcd v as (v 48 1) h all : Nat) ∧ ∀ c ∈ RFLn v as h 125, c < jcd v as (v 48 1) h all → ¬ jok v (rWv v as (v 48 1) ((v 48 1).toNat - (h + 1))) (rWv v as (v 48 1) ((v 48 1).toNat - h) all) all (c : Nat) := by
  have n1 := hA.2.2.2.2.1.1
  have er : (v 48 1).toNat - h = ((v 48 1).toNat - (h + 1)) + 1 := by omega
  rw [er] at hf ⊢
  obtain ⟨q, d, d1, d2⟩ := jok_of hA as (v 48 1) ((v 48 1).toNat - (h + 1)) ha hf
  rw [show v 48 1 - ((((v 48 1).toNat - (h + 1)) + 1 : Nat) : Int) = h by omega] at d1 d2
  have ll := RFLn_len (v := v) (as := as) (h := h) 125
  obtain ⟨f1, f2, f3, f4⟩ := fsI_at (v := v) (V := rWv v as (v 48 1) ((v 48 1).toNat - (h + 1))) (m := rWv v as (v 48 1) (((v 48 1).toNat - (h + 1)) + 1) all) (all := all) (cl := RFLn v as h 125) 125 0 ⟨d, by omega, by omega, d2⟩
  have ec : jcd v as (v 48 1) h all = (RFLn v as h 125).getD (fsI v (rWv v as (v 48 1) ((v 48 1).toNat - (h + 1))) (rWv v as (v 48 1) (((v 48 1).toNat - (h + 1)) + 1) all) all (RFLn v as h 125) 125 0) 0 := by
    unfold jcd
    rw [er]
  rw [ec]
  generalize fsI v (rWv v as (v 48 1) ((v 48 1).toNat - (h + 1))) (rWv v as (v 48 1) (((v 48 1).toNat - (h + 1)) + 1) all) all (RFLn v as h 125) 125 0 = I0 at *
  have f5 : I0 ≤ d := by
    rcases Nat.lt_or_ge d I0 with z | z
    · exact absurd d2 (f4 d (by omega) z)
    · exact z
  refine ⟨q, getD_mem (by omega), f3, fun c hc hlt hj => ?_⟩
  obtain ⟨i, hi, rfl⟩ : ∃ i, i < (RFLn v as h 125).length ∧ (RFLn v as h 125).getD i 0 = c := by
    obtain ⟨i, hi, e⟩ := List.getElem_of_mem hc
    exact ⟨i, hi, by rw [List.getD_eq_getElem?_getD, List.getElem?_eq_getElem hi]; exact e⟩
  rcases Nat.lt_or_ge i I0 with z | z
  · exact f4 i (by omega) z hj
  · by_cases e : i = I0
    · subst e
      omega
    · have := RFLn_lt (v := v) (as := as) (h := h) 125 I0 i (by omega) hi
      omega
theorem jS_ok [Decidable as] (hA : rA v) (h0 : rWv v as (v 48 1) (v 48 1).toNat (ja0 v) < MANY) : ∀ h : Nat, (h : Int) ≤ v 48 1 → (0 ≤ jS v as (v 48 1) h ∧ jS v as (v 48 1) h < 3375) ∧ rWv v as (v 48 1) ((v 48 1).toNat - h) (jS v as (v 48 1) h) < MANY
  | 0, _ => ⟨ja0_rng hA, h0⟩
  | h + 1, hh => by
    obtain ⟨i1, i2⟩ := jS_ok hA h0 h (by omega)
    obtain ⟨-, -, ⟨g1, g2, g3⟩, -⟩ := jcd_ok hA (h := h) (by omega) i1 i2
    have jx := jxC_rng hA.1 (c := (jcd v as (v 48 1) h (jS v as (v 48 1) h) : Nat)) i1
    exact ⟨⟨g1, jx.2⟩, g2⟩
/-- the reference's system -/
def rjT (v : Nat → Int → Int) (as : Prop) [Decidable as] : dp_T := fun h s c => if (s < 3375 ∧ isv v s) ∧ c ∈ RFLn v as h 125 ∧ 0 ≤ jxC v s c then some ((jxC v s c).toNat, jcC v s c) else none
def rjV (v : Nat → Int → Int) (as : Prop) [Decidable as] (h s : Nat) : Option Int := if h = (v 48 1).toNat then some 0 else if (s < 3375 ∧ isv v s) ∧ rWv v as (v 48 1) ((v 48 1).toNat - h) s < MANY then some (rWv v as (v 48 1) ((v 48 1).toNat - h) s) else none
theorem rjT_some [Decidable as] {h s c s1 : Nat} {k : Int} : rjT v as h s c = some (s1, k) ↔ ((s < 3375 ∧ isv v s) ∧ c ∈ RFLn v as h 125 ∧ 0 ≤ jxC v s c) ∧ jxC v s c = s1 ∧ jcC v s c = k := by
  unfold rjT
  constructor
  · intro e
    split at e
    · rename_i q
      simp only [Option.some.injEq, Prod.mk.injEq] at e
      have := q.2.2
      exact ⟨q, by omega, e.2⟩
    · cases e
  · intro e
    rw [if_pos e.1, e.2.1, e.2.2, Int.toNat_natCast]
theorem jx_isv (hA : rA v) {all c : Int} (ha : 0 ≤ all ∧ all < 3375) (h : 0 ≤ jxC v all c) : isv v (jxC v all c) := by
  have n2 := hA.2.2.2.2.1.2
  have h0 := jnC_rng hA.1 (c := c) ha (u := 0) (by omega)
  have h1 := jnC_rng hA.1 (c := c) ha (u := 1) (by omega)
  have h2 := jnC_rng hA.1 (c := c) ha (u := 2) (by omega)
  have z0 : ¬ (0 : Int) < v 48 2 → jnC v all c 0 = 0 := fun q => by unfold jnC; rw [if_neg q]
  have z1 : ¬ (1 : Int) < v 48 2 → jnC v all c 1 = 0 := fun q => by unfold jnC; rw [if_neg q]
  have z2 : ¬ (2 : Int) < v 48 2 → jnC v all c 2 = 0 := fun q => by unfold jnC; rw [if_neg q]
  revert h
  unfold jxC isv
  generalize jnC v all c 0 = a at *
  generalize jnC v all c 1 = b at *
  generalize jnC v all c 2 = d at *
  split
  · intro h
    omega
  · intro h
    refine ⟨?_, ?_, ?_⟩
    · by_cases q : 0 < v 48 2
      · exact Or.inl q
      · have := z0 q
        right
        omega
    · by_cases q : 1 < v 48 2
      · exact Or.inl q
      · have := z1 q
        right
        omega
    · by_cases q : 2 < v 48 2
      · exact Or.inl q
      · have := z2 q
        right
        omega
theorem rjT_next [Decidable as] (hA : rA v) {h s c s1 : Nat} {k : Int} (e : rjT v as h s c = some (s1, k)) : s1 < 3375 ∧ isv v s1 := by
  obtain ⟨⟨⟨g1, g2⟩, hc, hb⟩, e1, -⟩ := rjT_some.mp e
  have jx := jxC_rng hA.1 (all := s) (c := c) (by omega)
  refine ⟨by omega, ?_⟩
  rw [← e1]
  exact jx_isv hA (by omega) hb
theorem rjV_at [Decidable as] {h s : Nat} (hg : s < 3375 ∧ isv v s) (hh : h ≤ (v 48 1).toNat) {x : Int} : rjV v as h s = some x ↔ rWv v as (v 48 1) ((v 48 1).toNat - h) s < MANY ∧ rWv v as (v 48 1) ((v 48 1).toNat - h) s = x := by
  unfold rjV
  by_cases q : h = (v 48 1).toNat
  · rw [if_pos q, q, Nat.sub_self]
    show _ ↔ (0 : Int) < MANY ∧ (0 : Int) = x
    rw [Option.some.injEq]
    exact ⟨fun z => ⟨by decide, z⟩, fun z => z.2⟩
  · rw [if_neg q]
    by_cases q2 : rWv v as (v 48 1) ((v 48 1).toNat - h) s < MANY
    · rw [if_pos ⟨hg, q2⟩, Option.some.injEq]
      exact ⟨fun z => ⟨q2, z⟩, fun z => z.2⟩
    · rw [if_neg (fun z => q2 z.2)]
      exact ⟨fun z => (by cases z), fun z => absurd z.1 q2⟩
theorem rj_jok [Decidable as] (hA : rA v) {h s c s1 : Nat} {k x : Int} (hh : h < (v 48 1).toNat) (e : rjT v as h s c = some (s1, k)) (ev : rjV v as (h + 1) s1 = some x) : jvl v (rWv v as (v 48 1) ((v 48 1).toNat - (h + 1))) s c = k + x ∧ rWv v as (v 48 1) ((v 48 1).toNat - (h + 1)) s1 = x ∧ x < MANY := by
  obtain ⟨⟨⟨g1, g2⟩, hc, hb⟩, e1, e2⟩ := rjT_some.mp e
  obtain ⟨a1, a2⟩ := (rjV_at (rjT_next hA e) (by omega)).mp ev
  refine ⟨?_, a2, by omega⟩
  unfold jvl
  rw [if_neg (by omega), e1, if_neg (by omega), a2, e2]
  omega
theorem rj_val [Decidable as] (hA : rA v) {h s : Nat} (hh : h < (v 48 1).toNat) : rWv v as (v 48 1) ((v 48 1).toNat - h) s = lbv v (rWv v as (v 48 1) ((v 48 1).toNat - (h + 1))) s (RFLn v as h 125) := by
  rw [show (v 48 1).toNat - h = ((v 48 1).toNat - (h + 1)) + 1 by omega]
  show lbv v (rWv v as (v 48 1) ((v 48 1).toNat - (h + 1))) s (RFLn v as (v 48 1 - ((((v 48 1).toNat - (h + 1)) + 1 : Nat) : Int)) 125) = _
  rw [show v 48 1 - ((((v 48 1).toNat - (h + 1)) + 1 : Nat) : Int) = h by omega]
theorem rj_back [Decidable as] (hA : rA v) (h s : Nat) (hh : h < (v 48 1).toNat) : dp_back (rjT v as) 125 (rjV v as) h s := by
  have n1 := hA.2.2.2.2.1.1
  have mn : MANY = 1000000000 := rfl
  refine ⟨fun c s1 k x hc e ev => ?_, fun m hm => ?_⟩
  · obtain ⟨b1, b2, b3⟩ := rj_jok hA hh e ev
    obtain ⟨⟨⟨g1, g2⟩, hcl, hb⟩, e1, e2⟩ := rjT_some.mp e
    have fin := rWv_fin hA as (v 48 1) ((v 48 1).toNat - (h + 1)) s1 (by omega) (by have := (rjT_next hA e).1; omega) (by omega)
    have jc := jcC_rng hA.2.1 hA.2.2.2.2.1 (all := s) (c := c) (by omega)
    have le : rWv v as (v 48 1) ((v 48 1).toNat - h) s ≤ k + x := by
      rw [rj_val hA hh]
      unfold lbv
      rw [if_pos g2, ← b1]
      obtain ⟨i, hi, rfl⟩ : ∃ i, i < (RFLn v as h 125).length ∧ (RFLn v as h 125).getD i 0 = c := by
        obtain ⟨i, hi, e⟩ := List.getElem_of_mem hcl
        exact ⟨i, hi, by rw [List.getD_eq_getElem?_getD, List.getElem?_eq_getElem hi]; exact e⟩
      exact lbi_lb v _ s (RFLn v as h 125) _ i hi
    exact ⟨_, (rjV_at ⟨g1, g2⟩ (by omega)).mpr ⟨by omega, rfl⟩, le⟩
  · unfold rjV at hm
    rw [if_neg (by omega)] at hm
    split at hm
    · rename_i q
      obtain ⟨⟨g1, g2⟩, g3⟩ := q
      simp only [Option.some.injEq] at hm
      obtain ⟨-, c1, ⟨c2, c3, c4⟩, -⟩ := jcd_ok hA (h := h) (all := s) (by omega) (by omega) g3
      have e : rjT v as h s (jcd v as (v 48 1) h s) = some ((jxC v s (jcd v as (v 48 1) h s : Nat)).toNat, jcC v s (jcd v as (v 48 1) h s : Nat)) := rjT_some.mpr ⟨⟨⟨g1, g2⟩, c1, c2⟩, by omega, rfl⟩
      have ej : (((jxC v s (jcd v as (v 48 1) h s : Nat)).toNat : Nat) : Int) = jxC v s (jcd v as (v 48 1) h s : Nat) := by omega
      refine ⟨_, _, _, _, ((RFLn_mem 125).mp c1).1, e, (rjV_at (rjT_next hA e) (by omega)).mpr ⟨by rw [ej]; exact c3, rfl⟩, ?_⟩
      rw [ej]
      omega
    · cases hm
theorem rj_first [Decidable as] (hA : rA v) {h s : Nat} (hh : h < (v 48 1).toNat) (g : s < 3375 ∧ isv v s) (hf : rWv v as (v 48 1) ((v 48 1).toNat - h) s < MANY) : dp_first (rjT v as) 125 (rjV v as) h s (jcd v as (v 48 1) h s) ∧ rjT v as h s (jcd v as (v 48 1) h s) = some ((jxC v s (jcd v as (v 48 1) h s : Nat)).toNat, jcC v s (jcd v as (v 48 1) h s : Nat)) := by
  have n1 := hA.2.2.2.2.1.1
  obtain ⟨-, c1, ⟨c2, c3, c4⟩, c5⟩ := jcd_ok hA (h := h) (all := s) (by omega) (by omega) hf
  have e : rjT v as h s (jcd v as (v 48 1) h s) = some ((jxC v s (jcd v as (v 48 1) h s : Nat)).toNat, jcC v s (jcd v as (v 48 1) h s : Nat)) := rjT_some.mpr ⟨⟨g, c1, c2⟩, by omega, rfl⟩
  have ej : (((jxC v s (jcd v as (v 48 1) h s : Nat)).toNat : Nat) : Int) = jxC v s (jcd v as (v 48 1) h s : Nat) := by omega
  refine ⟨⟨⟨((RFLn_mem 125).mp c1).1, _, _, _, e, (rjV_at (rjT_next hA e) (by omega)).mpr ⟨by rw [ej]; exact c3, rfl⟩, (rjV_at g (by omega)).mpr ⟨hf, ?_⟩⟩, fun d hd => ?_⟩, e⟩
  · rw [ej, ← c4]
    omega
  · rintro ⟨s2, k2, x2, f1, f2, f3⟩
    obtain ⟨⟨-, hcl, hb⟩, e1, e2⟩ := rjT_some.mp f1
    obtain ⟨a1, a2⟩ := (rjV_at (rjT_next hA f1) (by omega)).mp f2
    obtain ⟨b1, b2⟩ := (rjV_at g (by omega)).mp f3
    refine c5 d hcl hd ⟨hb, ?_, ?_⟩
    · rw [e1]
      exact a1
    · rw [e1, a2, e2, b2]
      omega
/-- the reference's codes from an hour on -/
def jcs (v : Nat → Int → Int) (as : Prop) [Decidable as] : Nat → Nat → List Nat
  | 0, _ => []
  | r + 1, h => jcd v as (v 48 1) h (jS v as (v 48 1) h) :: jcs v as r (h + 1)
theorem jcs_len [Decidable as] : ∀ r h, (jcs v as r h).length = r
  | 0, _ => rfl
  | r + 1, h => by
    unfold jcs
    rw [List.length_cons, jcs_len r]
theorem jcs_at [Decidable as] : ∀ r h i, i < r → (jcs v as r h).getD i 0 = jcd v as (v 48 1) (h + i) (jS v as (v 48 1) (h + i))
  | 0, _, i, hi => by omega
  | r + 1, h, 0, hi => rfl
  | r + 1, h, i + 1, hi => by
    unfold jcs
    rw [List.getD_cons_succ, jcs_at r (h + 1) i (by omega), show h + 1 + i = h + (i + 1) by omega]
theorem ja0_isv (hA : rA v) : isv v (ja0 v) := by
  have n2 := hA.2.2.2.2.1.2
  have h0 := jf_rng hA (u := 0) (by omega)
  have h1 := jf_rng hA (u := 1) (by omega)
  have h2 := jf_rng hA (u := 2) (by omega)
  have z0 : ¬ (0 : Int) < v 48 2 → jf v 0 = 0 := fun q => by unfold jf; rw [if_neg q]
  have z1 : ¬ (1 : Int) < v 48 2 → jf v 1 = 0 := fun q => by unfold jf; rw [if_neg q]
  have z2 : ¬ (2 : Int) < v 48 2 → jf v 2 = 0 := fun q => by unfold jf; rw [if_neg q]
  unfold ja0 isv
  generalize jf v 0 = a at *
  generalize jf v 1 = b at *
  generalize jf v 2 = d at *
  refine ⟨?_, ?_, ?_⟩
  · by_cases q : 0 < v 48 2
    · exact Or.inl q
    · have := z0 q
      right
      omega
  · by_cases q : 1 < v 48 2
    · exact Or.inl q
    · have := z1 q
      right
      omega
  · by_cases q : 2 < v 48 2
    · exact Or.inl q
    · have := z2 q
      right
      omega
theorem jS_isv [Decidable as] (hA : rA v) (h0 : rWv v as (v 48 1) (v 48 1).toNat (ja0 v) < MANY) : ∀ h : Nat, (h : Int) ≤ v 48 1 → isv v (jS v as (v 48 1) h)
  | 0, _ => ja0_isv hA
  | h + 1, hh => by
    obtain ⟨i1, i2⟩ := jS_ok hA h0 h (by omega)
    obtain ⟨j1, -⟩ := jS_ok hA h0 (h + 1) hh
    exact jx_isv hA i1 j1.1
theorem jcs_goes [Decidable as] (hA : rA v) (h0 : rWv v as (v 48 1) (v 48 1).toNat (ja0 v) < MANY) : ∀ r h, h + r = (v 48 1).toNat → dp_goes (rjT v as) 125 (rjV v as) h (jS v as (v 48 1) h).toNat (jcs v as r h)
  | 0, _, _ => trivial
  | r + 1, h, e => by
    have n1 := hA.2.2.2.2.1.1
    obtain ⟨i1, i2⟩ := jS_ok hA h0 h (by omega)
    have iv := jS_isv hA h0 h (by omega)
    have ej : (((jS v as (v 48 1) h).toNat : Nat) : Int) = jS v as (v 48 1) h := by omega
    obtain ⟨f1, f2⟩ := rj_first (as := as) hA (h := h) (s := (jS v as (v 48 1) h).toNat) (by omega) ⟨by omega, by rw [ej]; exact iv⟩ (by rw [ej]; exact i2)
    rw [ej] at f1 f2
    refine ⟨f1, _, _, f2, ?_⟩
    have ih := jcs_goes hA h0 r (h + 1) (by omega)
    exact ih
theorem rj_best [Decidable as] (hA : rA v) (h0 : rWv v as (v 48 1) (v 48 1).toNat (ja0 v) < MANY) : dp_best (rjT v as) 125 (v 48 1).toNat 0 (ja0 v).toNat (rWv v as (v 48 1) (v 48 1).toNat (ja0 v)) (jcs v as (v 48 1).toNat 0) := by
  have n1 := hA.2.2.2.2.1.1
  have r0 := ja0_rng hA
  have ej : (((ja0 v).toNat : Nat) : Int) = ja0 v := by omega
  have ev : rjV v as 0 (ja0 v).toNat = some (rWv v as (v 48 1) (v 48 1).toNat (ja0 v)) := (rjV_at ⟨by omega, by rw [ej]; exact ja0_isv hA⟩ (by omega)).mpr ⟨by rw [ej, Nat.sub_zero]; exact h0, by rw [ej, Nat.sub_zero]⟩
  exact dp_back_best (v 48 1).toNat (v 48 1).toNat 0 _ (by omega) (fun h' s' _ q => rj_back hA h' s' q) (fun s' => by unfold rjV; rw [if_pos rfl]) _ _ ev (jcs_len _ _) (jcs_goes hA h0 (v 48 1).toNat 0 (by omega))
theorem rj_none [Decidable as] (hA : rA v) (h0 : ¬ rWv v as (v 48 1) (v 48 1).toNat (ja0 v) < MANY) (ds : List Nat) (s : Nat) (k : Int) (hl : ds.length = (v 48 1).toNat) (hd : dp_dig 125 ds) : dp_run (rjT v as) 0 (ja0 v).toNat ds ≠ some (s, k) := by
  intro hr
  have n1 := hA.2.2.2.2.1.1
  have r0 := ja0_rng hA
  have ej : (((ja0 v).toNat : Nat) : Int) = ja0 v := by omega
  obtain ⟨m, hm, -⟩ := dp_least (V := rjV v as) (v 48 1).toNat (v 48 1).toNat 0 (ja0 v).toNat (by omega) (fun h' s' _ q => rj_back hA h' s' q) (fun s' => by unfold rjV; rw [if_pos rfl]) ds s k hl hd hr
  obtain ⟨a1, -⟩ := (rjV_at ⟨by omega, by rw [ej]; exact ja0_isv hA⟩ (by omega)).mp hm
  rw [ej, Nat.sub_zero] at a1
  exact h0 a1
end
theorem n_planned (xs : List Int32) (sh : List q_Sh) (v w : Nat → Int → Int) (R : Nat → Nat → Option Nat) (hM : LM sh R) (hA : rA v) (as : Prop) [Decidable as] :
    ∃ (v' : Nat → Int → Int) (r : Int), (sP v v' ∧ ((¬ rWv v as (v 48 1) (v 48 1).toNat (ja0 v) < MANY ∧ v' 60 = v 60 ∧ r = -1) ∨ (rWv v as (v 48 1) (v 48 1).toNat (ja0 v) < MANY ∧ (∀ j, v' 60 j = jtw v as (v 48 1) 0 j) ∧ r = rWv v as (v 48 1) (v 48 1).toNat (ja0 v)))) ∧
    ∀ Q : Int32 → q_H → Prop, q_CallI (GG xs) PP kMod_planned [.ref 48, .int (zb as)] (sh, zs v, zt w, R) Q = Q (zi r) (sh, zs v', zt w, R) := by
  have n1 := hA.2.2.2.2.1.1
  have n2 := hA.2.2.2.2.1.2
  have mn : MANY = 1000000000 := rfl
  have key : ∀ Q : Int32 → q_H → Prop, (∀ (v' : Nat → Int → Int) (r : Int), (sP v v' ∧ ((¬ rWv v as (v 48 1) (v 48 1).toNat (ja0 v) < MANY ∧ v' 60 = v 60 ∧ r = -1) ∨ (rWv v as (v 48 1) (v 48 1).toNat (ja0 v) < MANY ∧ (∀ j, v' 60 j = jtw v as (v 48 1) 0 j) ∧ r = rWv v as (v 48 1) (v 48 1).toNat (ja0 v)))) → Q (zi r) (sh, zs v', zt w, R)) → q_CallI (GG xs) PP kMod_planned [.ref 48, .int (zb as)] (sh, zs v, zt w, R) Q := by
    intro Q hQ
    have L110 : rWv v as (v 48 1) (v 48 1).toNat (ja0 v) < MANY → ∀ h : Int, 0 ≤ h → h ≤ v 48 1 → ∀ v', PI v v' as h 0 → q_Rt (GG xs) PP 51 (q_FI Q) 110 [some (.ref 48), some (.int (zb as)), some (.int (zi (jS v as (v 48 1) h.toNat))), some (.int (zi (rWv v as (v 48 1) (v 48 1).toNat (ja0 v)))), some (.int (zi h)), none, none, none, none] [] (sh, zs v', zt w, R) := by
      intro h0
      refine zdown _ ?_ (fun h h1 h2 ih => ?_)
      · intro v' p
        have e1 : v' 48 1 = v 48 1 := p.1.2 1 (by decide)
        have K := hQ v' _ ⟨p.1, Or.inr ⟨h0, p.2.2, rfl⟩⟩
        refine b_Mod_planned_110 xs _ _ _ _ _ _ _ ?_
        simp (discharger := first | assumption | omega) [hM, fI, fL, fV, zs_ar, zt_ar, zs_un, zt_un, zn_c, zu_a, zu_e, zu_j, zix, zi_lit, zl_lit, zi_add, zi_sub, zi_mul, zi_neg, zi_le, zi_lt, zi_eq, zl_add, zl_sub, zl_mul, zi_i2l, zl_l2i, zb0, zb1, zb0', zb1', zi_c0, zi_c1, zb_c, e1, i_leT, i_leF, i_ltT, i_ltF, i_eqT, i_eqF]
        exact K
      · intro v' p
        have e1 : v' 48 1 = v 48 1 := p.1.2 1 (by decide)
        have hA' := PI_A hA p
        have s1 := n_findWays xs sh v' w R hM hA' h as (by omega)
        have sw := fwn_sWy v' as h 125
        have rc := fwn_RC (v := v') (as := as) (h := h) 125
        rw [sP_RFL p.1 (fun u u1 u2 => by
          rw [p.2.2]
          unfold jtw
          rw [if_neg (by omega)]) 125] at rc
        obtain ⟨i1, i2⟩ := jS_ok hA h0 h.toNat (by omega)
        have p1 : PI v (fwn v' as h 125) as h 0 := ⟨⟨fun b b1 b2 b3 b4 => (sw.1 b b1 b4).trans (p.1.1 b b1 b2 b3 b4), fun j hj => (sw.2 j hj).trans (p.1.2 j hj)⟩, fun a t q1 q2 q3 q4 q5 => by rw [sw.1 64 (by decide) (by decide)]; exact p.2.1 a t q1 q2 q3 q4 q5, fun j => by rw [sw.1 60 (by decide) (by decide)]; exact p.2.2 j⟩
        have K := l_pl132 xs sh v w R hM hA as h (rWv v as (v 48 1) (v 48 1).toNat (ja0 v)) (jS v as (v 48 1) h.toNat) rfl i1 ⟨h1, h2⟩ (by
          rw [show (v 48 1 - h).toNat = (v 48 1).toNat - h.toNat by omega]
          exact i2) (fwn v' as h 125) p1 rc (q_FI Q) (fun v2 p2 => by
          have := ih v2 p2
          rw [show (h + 1).toNat = h.toNat + 1 by omega] at this
          exact this)
        refine b_Mod_planned_110 xs _ _ _ _ _ _ _ ?_
        simp (discharger := first | assumption | omega) [hM, fI, fL, fV, zs_ar, zt_ar, zs_un, zt_un, zn_c, zu_a, zu_e, zu_j, zix, zi_lit, zl_lit, zi_add, zi_sub, zi_mul, zi_neg, zi_le, zi_lt, zi_eq, zl_add, zl_sub, zl_mul, zi_i2l, zl_l2i, zb0, zb1, zb0', zb1', zi_c0, zi_c1, zb_c, e1, s1, i_leT, i_leF, i_ltT, i_ltF, i_eqT, i_eqF]
        exact K
    have L58 : ∀ v', sP v v' → v' 60 = v 60 → aV v v' as 0 → q_Rt (GG xs) PP 51 (q_FI Q) 58 [some (.ref 48), some (.int (zb as)), some (.int (zi 0)), some (.int (zi 0)), none, none, none, none, none] [] (sh, zs v', zt w, R) := by
      intro v' s h60 ha
      have hA' : rA v' := sP_A s (by unfold rT; rw [h60]; exact hA.2.2.2.2.2) hA
      have e2 : v' 48 2 = v 48 2 := s.2 2 (by decide)
      have ef : ∀ u, pF v' u = pF v u := fun u => by
        unfold pF
        rw [s.1 49 (by decide) (by decide) (by decide) (by decide), s.1 56 (by decide) (by decide) (by decide) (by decide), s.1 57 (by decide) (by decide) (by decide) (by decide)]
      have a0 := ja0_rng hA
      have va := ha 0 (ja0 v) (by omega) (by omega) (by omega) a0.1 a0.2
      rw [show 3375 * (0 : Int) + ja0 v = ja0 v by omega, Int.sub_zero] at va
      have rr := rWv_rng hA as (v 48 1) (v 48 1).toNat (ja0 v) a0.1 a0.2
      have K3 : q_Rt (GG xs) PP 51 (q_FI Q) 58 [some (.ref 48), some (.int (zb as)), some (.int (zi (ja0 v))), some (.int (zi 3)), none, none, none, none, none] [] (sh, zs v', zt w, R) := by
        refine b_Mod_planned_58 xs _ _ _ _ _ _ ?_
        by_cases q : rWv v as (v 48 1) (v 48 1).toNat (ja0 v) < MANY
        · have K := L110 q 0 (by omega) (by omega) v' ⟨s, ha, fun j => by
            rw [h60]
            unfold jtw
            rw [if_neg (by omega)]⟩
          simp (discharger := first | assumption | omega) [hM, fI, fL, fV, zs_ar, zt_ar, zs_un, zt_un, zn_c, zu_a, zu_e, zu_j, zix, zi_lit, zl_lit, zi_add, zi_sub, zi_mul, zi_neg, zi_le, zi_lt, zi_eq, zl_add, zl_sub, zl_mul, zi_i2l, zl_l2i, zb0, zb1, zb0', zb1', zi_c0, zi_c1, zb_c, va, i_leT, i_leF, i_ltT, i_ltF, i_eqT, i_eqF]
          exact K
        · have K := hQ v' (-1) ⟨s, Or.inl ⟨q, h60, rfl⟩⟩
          have q2 : rWv v as (v 48 1) (v 48 1).toNat (ja0 v) = 1000000000 := by omega
          simp (discharger := first | assumption | omega) [hM, fI, fL, fV, zs_ar, zt_ar, zs_un, zt_un, zn_c, zu_a, zu_e, zu_j, zix, zi_lit, zl_lit, zi_add, zi_sub, zi_mul, zi_neg, zi_le, zi_lt, zi_eq, zl_add, zl_sub, zl_mul, zi_i2l, zl_l2i, zb0, zb1, zb0', zb1', zi_c0, zi_c1, zb_c, va, q2, i_leT, i_leF, i_ltT, i_ltF, i_eqT, i_eqF]
          exact K
      have st : ∀ (acc u : Int), 0 ≤ u → u < 3 → q_Rt (GG xs) PP 51 (q_FI Q) 58 [some (.ref 48), some (.int (zb as)), some (.int (zi (15 * acc + jf v u))), some (.int (zi (u + 1))), none, none, none, none, none] [] (sh, zs v', zt w, R) → q_Rt (GG xs) PP 51 (q_FI Q) 58 [some (.ref 48), some (.int (zb as)), some (.int (zi acc)), some (.int (zi u)), none, none, none, none, none] [] (sh, zs v', zt w, R) := by
        intro acc u u1 u2 hk
        unfold jf at hk
        have s1 := n_firstState xs sh v' w R hM hA'.1 u ⟨u1, u2⟩
        rw [ef] at s1
        refine b_Mod_planned_58 xs _ _ _ _ _ _ ?_
        by_cases q : u < v 48 2
        · rw [if_pos q] at hk
          simp (discharger := first | assumption | omega) [hM, fI, fL, fV, zs_ar, zt_ar, zs_un, zt_un, zn_c, zu_a, zu_e, zu_j, zix, zi_lit, zl_lit, zi_add, zi_sub, zi_mul, zi_neg, zi_le, zi_lt, zi_eq, zl_add, zl_sub, zl_mul, zi_i2l, zl_l2i, zb0, zb1, zb0', zb1', zi_c0, zi_c1, zb_c, e2, s1, i_leT, i_leF, i_ltT, i_ltF, i_eqT, i_eqF]
          exact hk
        · rw [if_neg q] at hk
          simp (discharger := first | assumption | omega) [hM, fI, fL, fV, zs_ar, zt_ar, zs_un, zt_un, zn_c, zu_a, zu_e, zu_j, zix, zi_lit, zl_lit, zi_add, zi_sub, zi_mul, zi_neg, zi_le, zi_lt, zi_eq, zl_add, zl_sub, zl_mul, zi_i2l, zl_l2i, zb0, zb1, zb0', zb1', zi_c0, zi_c1, zb_c, e2, i_leT, i_leF, i_ltT, i_ltF, i_eqT, i_eqF]
          simpa using hk
      refine st 0 0 (by omega) (by omega) (st _ 1 (by omega) (by omega) (st _ 2 (by omega) (by omega) ?_))
      rw [show 15 * (15 * (15 * 0 + jf v 0) + jf v 1) + jf v 2 = ja0 v by unfold ja0; omega]
      exact K3
    have L2 : ∀ k : Int, 0 ≤ k → k ≤ 3375 → q_Rt (GG xs) PP 51 (q_FI Q) 2 [some (.ref 48), some (.int (zb as)), some (.int (zi k)), none, none, none, none, none, none] [] (sh, zs (zla v k), zt w, R) := by
      refine zdown _ ?_ (fun k h1 h2 ih => ?_)
      · have e1 : zla v 3375 48 1 = v 48 1 := by rw [zla_row (by decide)]
        have K := l_pl38 xs sh v w R hM hA as (q_FI Q) L58 (v 48 1) (by omega) (by omega) (zla v 3375) ⟨fun b b1 b2 b3 b4 => zla_row b3, fun j hj => by rw [zla_row (by decide)]⟩ (zla_row (by decide)) (fun h t q1 q2 q3 t1 t2 => by
          have : h = v 48 1 := by omega
          subst this
          rw [Int.sub_self]
          unfold zla
          rw [if_pos ⟨rfl, by omega, by omega⟩]
          rfl)
        refine b_Mod_planned_2 xs _ _ _ _ _ ?_
        simp (discharger := first | assumption | omega) [hM, fI, fL, fV, zs_ar, zt_ar, zs_un, zt_un, zn_c, zu_a, zu_e, zu_j, zix, zi_lit, zl_lit, zi_add, zi_sub, zi_mul, zi_neg, zi_le, zi_lt, zi_eq, zl_add, zl_sub, zl_mul, zi_i2l, zl_l2i, zb0, zb1, zb0', zb1', zi_c0, zi_c1, zb_c, e1, i_leT, i_leF, i_ltT, i_ltF, i_eqT, i_eqF]
        exact K
      · have e1 : zla v k 48 1 = v 48 1 := by rw [zla_row (by decide)]
        have st := zla_s (v := v) h1
        refine b_Mod_planned_2 xs _ _ _ _ _ ?_
        simp (discharger := first | assumption | omega) [hM, fI, fL, fV, zs_ar, zt_ar, zs_un, zt_un, zn_c, zu_a, zu_e, zu_j, zix, zi_lit, zl_lit, zi_add, zi_sub, zi_mul, zi_neg, zi_le, zi_lt, zi_eq, zl_add, zl_sub, zl_mul, zi_i2l, zl_l2i, zb0, zb1, zb0', zb1', zi_c0, zi_c1, zb_c, e1, st, i_leT, i_leF, i_ltT, i_ltF, i_eqT, i_eqF]
        exact ih
    have K := L2 0 (by omega) (by omega)
    rw [zla_0] at K
    refine e_Mod_planned xs _ _ _ (sh, zs v, zt w, R) ?_
    simp (discharger := first | assumption | omega) [fI, fL, fV, zs_ar, zt_ar, zs_un, zt_un, zn_c, zu_a, zu_e, zu_j, zix, zi_lit, zl_lit, zi_add, zi_sub, zi_mul, zi_neg, zi_le, zi_lt, zi_eq, zl_add, zl_sub, zl_mul, zi_i2l, zl_l2i, zb0, zb1, zb0', zb1', zi_c0, zi_c1, zb_c]
    exact K
  obtain ⟨r0, H0, ⟨v', r, h1, e1, e2⟩, h2⟩ := cIx (key (fun x H' => ∃ (v' : Nat → Int → Int) (r : Int), (sP v v' ∧ ((¬ rWv v as (v 48 1) (v 48 1).toNat (ja0 v) < MANY ∧ v' 60 = v 60 ∧ r = -1) ∨ (rWv v as (v 48 1) (v 48 1).toNat (ja0 v) < MANY ∧ (∀ j, v' 60 j = jtw v as (v 48 1) 0 j) ∧ r = rWv v as (v 48 1) (v 48 1).toNat (ja0 v)))) ∧ x = zi r ∧ H' = (sh, zs v', zt w, R)) (fun v' r h => ⟨v', r, h, rfl, rfl⟩))
  exact ⟨v', r, h1, fun Q => by rw [h2, e1, e2]⟩
