/-! What the planner's layers hold. -/
theorem hbF_rng (v : Nat → Int → Int) (fl : Nat → List Nat) (h p c : Nat) : -1 ≤ hbF v fl h p c ∧ hbF v fl h p c < 27 := by
  unfold hbF
  split <;> omega
theorem plT_some {v : Nat → Int → Int} {fl : Nat → List Nat} {h p c s1 : Nat} {j : Int} : plT v fl h p c = some (s1, j) ↔ (p < 27 * szF fl h ∧ c ∈ fl h ∧ hbF v fl h p c ≠ -1) ∧ (ixl (fl h) c : Int) * 27 + hbF v fl h p c = s1 ∧ csF v fl h p c = j := by
  have r := hbF_rng v fl h p c
  unfold plT
  constructor
  · intro e
    split at e
    · rename_i q
      simp only [Option.some.injEq, Prod.mk.injEq] at e
      have := q.2.2
      exact ⟨q, by omega, e.2⟩
    · cases e
  · intro e
    have := e.1.2.2
    rw [if_pos e.1, e.2.2]
    simp only [Option.some.injEq, Prod.mk.injEq, and_true]
    omega
/-- the codes of each hour are in order -/
def okf (fl : Nat → List Nat) : Prop := ∀ h, (fl h).length ≤ 25 ∧ (∀ c ∈ fl h, c < 125) ∧ ∀ i, i < (fl h).length → ixl (fl h) ((fl h).getD i 0) = i
theorem getD_mem {l : List Nat} {i : Nat} (h : i < l.length) : l.getD i 0 ∈ l := by
  rw [List.getD_eq_getElem?_getD, List.getElem?_eq_getElem h]
  exact List.getElem_mem h
theorem rds_s20 {v v' : Nat → Int → Int} (h : s20 v v') (f : Nat) (i k : Int) : s20 v (rds v' f i k) := fun b hb => (rds_row (by omega)).trans (h b hb)
theorem s20_Os {v v' : Nat → Int → Int} (h : s20 v v') (x : dOs v) : dOs v' := fun u h1 h2 => by
  obtain ⟨a0, a1, a2, a3⟩ := s20_uc h ⟨h1, h2⟩
  unfold dO
  rw [a0, a1, a2, a3]
  exact x u h1 h2
theorem gpl_held {v v' : Nat → Int → Int} (hO : dOs v) {fl : Nat → List Nat} (hl : okf fl) {h f t : Nat} (hft : f = 2 ∧ t = 8 ∨ f = 8 ∧ t = 2) (hs : s20 v v') (hF : FH v v' fl h f) (hgf : gcf v' f) (hT : FC v' t (fl h)) {p : Nat} (hp : p < 27 * szF fl h) {k y K M : Int} {w : Nat → Int → Int} (hK : K + 10000000 ≤ 1000000000) (hf : 0 ≤ y ∧ y < M ∧ -K ≤ k ∧ k ≤ K) (ht : RL w (t + 2) (t + 3) 675 (K + 10000000) (125 * M)) {O : Nat → Int → Nat → Prop} (hH : Held (LO w (t + 2) (t + 3) 675) O) :
    ∀ i : Nat, i ≤ (fl h).length → Held (LO (gpl (rds v' f ((p : Int) / 27) ((p : Int) % 27)) t k y w i) (t + 2) (t + 3) 675) (fun s' k' y' => O s' k' y' ∨ ∃ i0 j, i0 < i ∧ plT v fl h p ((fl h).getD i0 0) = some (s', j) ∧ k' = k + j ∧ y' = y.toNat * 125 + (fl h).getD i0 0)
  | 0, _ => Held_iff hH (fun s' k y => ⟨Or.inl, fun z => z.elim id (fun ⟨d, j, q, _⟩ => absurd q (Nat.not_lt_zero _))⟩)
  | i + 1, hi => by
    have ih := gpl_held hO hl hft hs hF hgf hT hp hK hf ht hH i (by omega)
    obtain ⟨l1, l2, l3⟩ := hl h
    have hg := FC_co hT l1 l2
    have z3 : rds v' f ((p : Int) / 27) ((p : Int) % 27) t 3 = v' t 3 := by rw [rds_row (by omega)]
    have hO' := s20_Os (rds_s20 hs f ((p : Int) / 27) ((p : Int) % 27)) hO
    have h14 := rds_g14 hgf (i := (p : Int) / 27) (k := (p : Int) % 27) (by have := hF.1; omega)
    have hgt : gco (rds v' f ((p : Int) / 27) ((p : Int) % 27)) t := s14_co (fun b hb => rds_row hb) (by omega) hg
    have r := gpl_RL hO' h14 hgt hK hf ht i (by rw [z3]; have := hT.1; omega)
    obtain ⟨e1, e2⟩ := rds_hb hft hs hF hT hp (i := i) (by omega)
    have e3 : rds v' f ((p : Int) / 27) ((p : Int) % 27) (t + 4) i = (fl h).getD i 0 := by rw [rds_row (by omega)]; exact (hT.2 i (by omega)).1
    have c := cs3_rng hO' h14 hgt.2.1 (i := i) (by rw [z3]; have := hT.1; omega)
    have hm := getD_mem (l := fl h) (i := i) (by omega)
    have c125 := l2 _ hm
    have bR := hbF_rng v fl h p ((fl h).getD i 0)
    have ixi := l3 i (by omega)
    unfold gpl
    rw [e1, e2, e3]
    rw [e2] at c
    split
    · rename_i q
      refine Held_iff ih (fun s' k y => ⟨fun z => z.imp id (fun ⟨d, j, q1, q2⟩ => ⟨d, j, by omega, q2⟩), fun z => z.imp id (fun ⟨d, j, q1, q2⟩ => ⟨d, j, ?_, q2⟩)⟩)
      rcases Nat.lt_or_ge d i with z | z
      · exact z
      · have : d = i := by omega
        subst this
        exact absurd q (plT_some.mp q2.1).1.2.2
    · rename_i q
      refine Held_iff (Held_ofr r (by omega) (by omega) (by omega) (by omega) hK ih) (fun s' k y => ⟨fun z => ?_, fun z => ?_⟩)
      · rcases z with (z | ⟨d, j, q1, q2⟩) | ⟨z1, z2, z3⟩
        · exact Or.inl z
        · exact Or.inr ⟨d, j, by omega, q2⟩
        · exact Or.inr ⟨i, csF v fl h p ((fl h).getD i 0), by omega, plT_some.mpr ⟨⟨hp, hm, q⟩, by rw [ixi]; exact z1.symm, rfl⟩, z2, by omega⟩
      · rcases z with z | ⟨d, j, q1, q2, q3, q4⟩
        · exact Or.inl (Or.inl z)
        · rcases Nat.lt_or_ge d i with z | z
          · exact Or.inl (Or.inr ⟨d, j, z, q2, q3, q4⟩)
          · have : d = i := by omega
            subst this
            obtain ⟨t1, t2, t3⟩ := plT_some.mp q2
            rw [ixi] at t2
            exact Or.inr ⟨t2.symm, by rw [q3, t3], by omega⟩
theorem gq_held {v v' : Nat → Int → Int} (hO : dOs v) {fl : Nat → List Nat} (hl : okf fl) {h f t : Nat} (hft : f = 2 ∧ t = 8 ∨ f = 8 ∧ t = 2) (hs : s20 v v') (hF : FH v v' fl h f) (hgf : gcf v' f) (hT : FC v' t (fl h)) {K M : Int} {w : Nat → Int → Int} (hK : K + 10000000 ≤ 1000000000) (hf : RL w (f + 2) (f + 3) 675 K M) (ht : RL w (t + 2) (t + 3) 675 (K + 10000000) (125 * M)) (hH : Held (LO w (t + 2) (t + 3) 675) (fun _ _ _ => False)) :
    ∀ p : Nat, p ≤ 27 * szF fl h → Held (LO (gq v' f t w p) (t + 2) (t + 3) 675) (offs (plT v fl) h 125 (LO w (f + 2) (f + 3) 675) p)
  | 0, _ => Held_iff hH (fun s' k y => ⟨fun q => q.elim, fun ⟨_, _, _, _, _, q, _⟩ => absurd q (Nat.not_lt_zero _)⟩)
  | p + 1, hp => by
    have ih := gq_held hO hl hft hs hF hgf hT hK hf ht hH p (by omega)
    obtain ⟨l1, l2, l3⟩ := hl h
    have hgt := FC_co hT l1 l2
    have h25 := hgf.1
    have hz := hF.1
    have r := gq_RL (s20_Os hs hO) hft hgf hgt hK hf ht p (by omega)
    have rf := hf p (by omega) (by omega)
    have e1 : gq v' f t w p (f + 2) = w (f + 2) := gq_row (by omega) (by omega) _
    have e2 : gq v' f t w p (f + 3) = w (f + 3) := gq_row (by omega) (by omega) _
    unfold gq
    split
    · rename_i q
      refine Held_iff ih (fun s' k y => offs_n ?_ s' k y)
      unfold LO
      rw [if_neg (fun z => z.2 q)]
    · rename_i q
      have hlo : LO w (f + 2) (f + 3) 675 p = some (w (f + 2) p, (w (f + 3) p).toNat) := by
        unfold LO
        rw [if_pos ⟨by omega, q⟩]
      have len : (v' t 3).toNat = (fl h).length := by rw [hT.1, Int.toNat_natCast]
      have g := gpl_held hO hl hft hs hF hgf hT (p := p) (by omega) hK (k := w (f + 2) p) (y := w (f + 3) p) (by omega) r ih (fl h).length (Nat.le_refl _)
      rw [len]
      refine Held_iff g (fun s' k y => ?_)
      rw [← offs_s hlo s' k y]
      constructor
      · rintro (z | ⟨d, j, q1, q2, q3, q4⟩)
        · exact Or.inl z
        · exact Or.inr ⟨_, j, l2 _ (getD_mem q1), q2, q3, q4⟩
      · rintro (z | ⟨c, j, q1, q2, q3, q4⟩)
        · exact Or.inl z
        · obtain ⟨⟨t1, t2, t3⟩, -, -⟩ := plT_some.mp q2
          obtain ⟨i1, i2⟩ := ixl_mem _ c t2
          refine Or.inr ⟨ixl (fl h) c, j, i1, ?_, q3, ?_⟩
          · rw [i2]
            exact q2
          · rw [i2]
            exact q4
theorem offs_top {v : Nat → Int → Int} {fl : Nat → List Nat} (hl : okf fl) {h N : Nat} {L M : Nat → Option (Int × Nat)} (hH : Held M (offs (plT v fl) h 125 L N)) (s : Nat) (hs : 27 * szF fl (h + 1) ≤ s) : M s = none := by
  cases e : M s with
  | none => rfl
  | some p =>
    obtain ⟨s1, k1, y1, c, j, -, -, -, b4, -, -⟩ := hH.1 s p.1 p.2 e
    obtain ⟨⟨t1, t2, t3⟩, t4, -⟩ := plT_some.mp b4
    have r := hbF_rng v fl h s1 c
    have i1 := (ixl_mem _ c t2).1
    have ez : szF fl (h + 1) = (fl h).length := by
      unfold szF
      rw [if_neg (by omega), Nat.add_sub_cancel]
    rw [ez] at hs
    omega
/-- a front filled for an hour is the one that the next hour starts from -/
theorem FC_FH {v v' : Nat → Int → Int} {fl : Nat → List Nat} {h a : Nat} (hT : FC v' a (fl h)) : FH v v' fl (h + 1) a := by
  have ez : szF fl (h + 1) = (fl h).length := by
    unfold szF
    rw [if_neg (by omega), Nat.add_sub_cancel]
  refine ⟨by rw [ez]; exact hT.1, fun i u h1 h2 h3 h4 => ?_⟩
  rw [ez] at h2
  have g := (hT.2 i.toNat (by omega)).2 u h3 h4
  rw [show ((i.toNat : Nat) : Int) = i by omega] at g
  unfold chF
  rw [if_neg (by omega), Nat.add_sub_cancel]
  exact g
theorem p125_s (h : Nat) : (125 : Int) ^ (h + 1) = 125 * 125 ^ h := by rw [Int.pow_succ, Int.mul_comm]
theorem p125_le {h : Nat} (hh : h ≤ 8) : (0 : Int) < 125 ^ h ∧ (125 : Int) ^ h ≤ 59604644775390625 := by
  refine ⟨Int.pow_pos (by decide), ?_⟩
  obtain rfl | rfl | rfl | rfl | rfl | rfl | rfl | rfl | rfl : h = 0 ∨ h = 1 ∨ h = 2 ∨ h = 3 ∨ h = 4 ∨ h = 5 ∨ h = 6 ∨ h = 7 ∨ h = 8 := by omega
  all_goals decide
/-- a way's outputs laid in the table: the hours behind k, and of hour k the sets ahead of u -/
def wtb (v : Nat → Int → Int) (n : Int) (cs : List Nat) (k u : Int) : Nat → Int → Int := fun b j => if b = 25 ∧ (0 ≤ j ∧ j < 24) ∧ j % 8 < n ∧ (k < j % 8 ∨ (j % 8 = k ∧ j / 8 < u)) then zout (v (uc (j / 8)) 0) (zdg (cs.getD (j % 8).toNat 0 : Nat) (j / 8)) else v b j
theorem wtb_row {v : Nat → Int → Int} {n : Int} {cs : List Nat} {k u : Int} {b : Nat} (h : b ≠ 25) : wtb v n cs k u b = v b := by
  funext j
  unfold wtb
  rw [if_neg (fun q => h q.1)]
theorem wtb_0 {v : Nat → Int → Int} {n : Int} {cs : List Nat} : wtb v n cs (n - 1) 0 = v := by
  funext b j
  unfold wtb
  rw [if_neg (by omega)]
theorem wtb_3 {v : Nat → Int → Int} {n : Int} {cs : List Nat} {k : Int} : wtb v n cs k 3 = wtb v n cs (k - 1) 0 := by
  funext b j
  unfold wtb
  by_cases q : b = 25 ∧ (0 ≤ j ∧ j < 24) ∧ j % 8 < n ∧ (k < j % 8 ∨ (j % 8 = k ∧ j / 8 < 3))
  · rw [if_pos q, if_pos (by omega)]
  · rw [if_neg q, if_neg (by omega)]
theorem wtb_s {v : Nat → Int → Int} {n : Int} {cs : List Nat} {k u : Int} (hk : 0 ≤ k ∧ k < 8) (hn : k < n) (hu : 0 ≤ u ∧ u < 3) : zu (wtb v n cs k u) 25 (8 * u + k) (zout (v (uc u) 0) (zdg (cs.getD k.toNat 0 : Nat) u)) = wtb v n cs k (u + 1) := by
  funext b j
  unfold zu
  by_cases q : b = 25 ∧ j = 8 * u + k
  · rw [if_pos q]
    unfold wtb
    rw [if_pos (by omega), show j / 8 = u by omega, show j % 8 = k by omega]
  · rw [if_neg q]
    unfold wtb
    by_cases q2 : b = 25 ∧ (0 ≤ j ∧ j < 24) ∧ j % 8 < n ∧ (k < j % 8 ∨ (j % 8 = k ∧ j / 8 < u))
    · rw [if_pos q2, if_pos (by omega)]
    · rw [if_neg q2, if_neg (by omega)]
theorem dp_num125 {cs : List Nat} (h : dp_dig 125 cs) (hl : cs.length ≤ 8) : dp_num 125 cs < 59604644775390625 := by
  have h1 := dp_num_lt 125 cs h
  have h2 : 125 ^ cs.length ≤ 125 ^ 8 := Nat.pow_le_pow_right (by decide) hl
  have h3 : (125 : Nat) ^ 8 = 59604644775390625 := by decide
  omega
