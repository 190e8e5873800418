/-! The planner's system of steps: places and codes. -/
def ixl : List Nat → Nat → Nat
  | [], _ => 0
  | a :: l, c => if a = c then 0 else ixl l c + 1
theorem ixl_mem : ∀ (l : List Nat) (c : Nat), c ∈ l → ixl l c < l.length ∧ l.getD (ixl l c) 0 = c
  | [], c, h => by simp at h
  | a :: l, c, h => by
    unfold ixl
    by_cases e : a = c
    · rw [if_pos e]
      exact ⟨by simp, e⟩
    · rw [if_neg e]
      have h' : c ∈ l := by
        rcases List.mem_cons.mp h with q | q
        · exact absurd q.symm e
        · exact q
      obtain ⟨a1, a2⟩ := ixl_mem l c h'
      exact ⟨by simp; omega, by rw [List.getD_cons_succ]; exact a2⟩
/-- the codes below n that fit -/
def FLn (v : Nat → Int → Int) (h who : Int) : Nat → List Nat
  | 0 => []
  | c + 1 => if FIT v h who c then FLn v h who c ++ [c] else FLn v h who c
theorem FLn_mem {v : Nat → Int → Int} {h who : Int} {c : Nat} : ∀ n, c ∈ FLn v h who n ↔ c < n ∧ FIT v h who c
  | 0 => by simp [FLn]
  | n + 1 => by
    have ih := FLn_mem (v := v) (h := h) (who := who) (c := c) n
    unfold FLn
    split
    · rename_i q
      rw [List.mem_append, ih, List.mem_singleton]
      constructor
      · rintro (z | z)
        · exact ⟨by omega, z.2⟩
        · subst z
          exact ⟨by omega, q⟩
      · intro z
        by_cases e : c = n
        · exact Or.inr e
        · exact Or.inl ⟨by omega, z.2⟩
    · rename_i q
      rw [ih]
      constructor
      · intro z
        exact ⟨by omega, z.2⟩
      · intro z
        refine ⟨?_, z.2⟩
        by_cases e : c = n
        · subst e
          exact absurd z.2 q
        · omega
theorem FLn_ix {v : Nat → Int → Int} {h who : Int} : ∀ n i, i < (FLn v h who n).length → ixl (FLn v h who n) ((FLn v h who n).getD i 0) = i
  | 0, i, hi => by simp [FLn] at hi
  | n + 1, i, hi => by
    have ih := FLn_ix (v := v) (h := h) (who := who) n
    have app : ∀ (l : List Nat) (c d : Nat), ixl (l ++ [c]) d = if d ∈ l then ixl l d else if c = d then l.length else l.length + 1 := by
      intro l c d
      induction l with
      | nil => simp [ixl]
      | cons a l ihl =>
        by_cases e : a = d
        · subst e
          simp [ixl]
        · have e' : ¬ d = a := fun q => e q.symm
          simp only [List.cons_append, ixl, if_neg e, ihl, List.mem_cons, e', false_or, List.length_cons]
          split
          · rfl
          · split <;> rfl
    revert hi
    unfold FLn
    split
    · rename_i q
      intro hi
      rw [List.length_append, List.length_singleton] at hi
      by_cases e : i < (FLn v h who n).length
      · have e1 : (FLn v h who n ++ [n]).getD i 0 = (FLn v h who n).getD i 0 := by
          simp only [List.getD_eq_getElem?_getD]
          rw [List.getElem?_append_left e]
        have hm : (FLn v h who n).getD i 0 ∈ FLn v h who n := by
          rw [List.getD_eq_getElem?_getD, List.getElem?_eq_getElem e]
          exact List.getElem_mem e
        rw [e1, app, if_pos hm]
        exact ih i e
      · have e0 : i = (FLn v h who n).length := by omega
        have e1 : (FLn v h who n ++ [n]).getD i 0 = n := by
          rw [List.getD_eq_getElem?_getD, e0, List.getElem?_append_right (Nat.le_refl _), Nat.sub_self]
          rfl
        rw [e1, app, if_neg (fun z => by have := (FLn_mem n).mp z; omega), if_pos rfl, e0]
    · intro hi
      exact ih i hi
theorem FIT_one {v : Nat → Int → Int} (hU : dUs v) {h who : Int} {c d : Int} (hc : 0 ≤ c ∧ c < 125) (hd : 0 ≤ d ∧ d < 125) (e : c / 5 = d / 5) (h1 : FIT v h who c) (h2 : FIT v h who d) : c = d := by
  have lo := (hU 2 (by omega) (by omega)).1
  have a := h1.2.2.2.2.1
  have b := h2.2.2.2.2.1
  have e0 : zdg c 0 = zdg d 0 := by unfold zdg; rw [if_pos rfl, if_pos rfl]; omega
  have e1 : zdg c 1 = zdg d 1 := by unfold zdg; rw [if_neg (by omega), if_pos rfl, if_neg (by omega), if_pos rfl]; omega
  have e2 : zdg c 2 = c % 5 := by unfold zdg; rw [if_neg (by omega), if_neg (by omega)]
  have e3 : zdg d 2 = d % 5 := by unfold zdg; rw [if_neg (by omega), if_neg (by omega)]
  rw [← b] at a
  unfold dtg at a
  rw [e0, e1, e2, e3] at a
  have z : zout (v (uc 2) 0) (c % 5) = zout (v (uc 2) 0) (d % 5) := by omega
  unfold zout at z
  revert z
  (repeat' split) <;> omega
theorem FLn_le {v : Nat → Int → Int} (hU : dUs v) {h who : Int} : ∀ k, k ≤ 25 → (FLn v h who (5 * k)).length ≤ k
  | 0, _ => by simp [FLn]
  | k + 1, hk => by
    have ih := FLn_le hU (h := h) (who := who) k (by omega)
    have st : ∀ n, (FLn v h who (n + 1)).length = (FLn v h who n).length + (if FIT v h who n then 1 else 0) := by
      intro n
      show (if FIT v h who n then FLn v h who n ++ [n] else FLn v h who n).length = _
      split
      · rw [List.length_append]; rfl
      · rfl
    have ex : ∀ i j : Nat, i < 5 → j < 5 → i ≠ j → (if FIT v h who ((5 * k + i : Nat) : Int) then 1 else 0) + (if FIT v h who ((5 * k + j : Nat) : Int) then 1 else 0) ≤ 1 := by
      intro i j hi hj hne
      by_cases a : FIT v h who ((5 * k + i : Nat) : Int)
      · by_cases b : FIT v h who ((5 * k + j : Nat) : Int)
        · have := FIT_one hU (by omega) (by omega) (by omega) a b
          omega
        · rw [if_pos a, if_neg b]
          omega
      · rw [if_neg a]
        split <;> omega
    have le : ∀ n : Nat, (if FIT v h who (n : Int) then 1 else 0) ≤ 1 := fun n => by split <;> omega
    have s0 := st (5 * k)
    have s1 := st (5 * k + 1)
    have s2 := st (5 * k + 2)
    have s3 := st (5 * k + 3)
    have s4 := st (5 * k + 4)
    rw [show 5 * (k + 1) = 5 * k + 4 + 1 by omega, s4, s3, s2, s1, s0]
    have x01 := ex 0 1 (by omega) (by omega) (by omega)
    have x02 := ex 0 2 (by omega) (by omega) (by omega)
    have x03 := ex 0 3 (by omega) (by omega) (by omega)
    have x04 := ex 0 4 (by omega) (by omega) (by omega)
    have x12 := ex 1 2 (by omega) (by omega) (by omega)
    have x13 := ex 1 3 (by omega) (by omega) (by omega)
    have x14 := ex 1 4 (by omega) (by omega) (by omega)
    have x23 := ex 2 3 (by omega) (by omega) (by omega)
    have x24 := ex 2 4 (by omega) (by omega) (by omega)
    have x34 := ex 3 4 (by omega) (by omega) (by omega)
    have y0 := le (5 * k)
    have y1 := le (5 * k + 1)
    have y2 := le (5 * k + 2)
    have y3 := le (5 * k + 3)
    have y4 := le (5 * k + 4)
    simp only [Nat.add_zero] at x01 x02 x03 x04
    clear s0 s1 s2 s3 s4 st ex le
    generalize (if FIT v h who ((5 * k : Nat) : Int) then 1 else 0) = b0 at *
    generalize (if FIT v h who ((5 * k + 1 : Nat) : Int) then 1 else 0) = b1 at *
    generalize (if FIT v h who ((5 * k + 2 : Nat) : Int) then 1 else 0) = b2 at *
    generalize (if FIT v h who ((5 * k + 3 : Nat) : Int) then 1 else 0) = b3 at *
    generalize (if FIT v h who ((5 * k + 4 : Nat) : Int) then 1 else 0) = b4 at *
    have : b0 + b1 + b2 + b3 + b4 ≤ 1 := by
      rcases Nat.lt_or_ge b0 1 with z0 | z0
      · rcases Nat.lt_or_ge b1 1 with z1 | z1
        · rcases Nat.lt_or_ge b2 1 with z2 | z2
          · omega
          · omega
        · omega
      · omega
    omega
theorem FLn_mono {v : Nat → Int → Int} {h who : Int} (n : Nat) : ∀ m, (FLn v h who n).length ≤ (FLn v h who (n + m)).length
  | 0 => Nat.le_refl _
  | m + 1 => by
    have ih := FLn_mono (v := v) (h := h) (who := who) n m
    show _ ≤ (if FIT v h who ((n + m : Nat) : Int) then FLn v h who (n + m) ++ [n + m] else FLn v h who (n + m)).length
    split
    · rw [List.length_append]
      omega
    · exact ih
theorem FLn_25 {v : Nat → Int → Int} (hU : dUs v) {h who : Int} {n : Nat} (hn : n ≤ 125) : (FLn v h who n).length ≤ 25 := by
  have h1 := FLn_mono (v := v) (h := h) (who := who) n (125 - n)
  have h2 := FLn_le hU (h := h) (who := who) 25 (by omega)
  rw [show n + (125 - n) = 5 * 25 by omega] at h1
  omega
/-- what a front holds -/
def FC (v : Nat → Int → Int) (a : Nat) (cl : List Nat) : Prop := v a 3 = cl.length ∧ ∀ i : Nat, i < cl.length → v (a + 4) i = cl.getD i 0 ∧ ∀ u, 0 ≤ u → u < 3 → v (a + 5) ((i : Int) * 3 + u) = zdg (cl.getD i 0) u
theorem FC_add {v : Nat → Int → Int} {a : Nat} {cl : List Nat} (h : FC v a cl) (c : Nat) : FC (addc v a c) a (cl ++ [c]) := by
  obtain ⟨h1, h2⟩ := h
  refine ⟨?_, fun i hi => ?_⟩
  · unfold addc
    rw [zu_e rfl, h1, List.length_append]
    rfl
  · rw [List.length_append, List.length_singleton] at hi
    by_cases e : i < cl.length
    · have e1 : (cl ++ [c]).getD i 0 = cl.getD i 0 := by
        simp only [List.getD_eq_getElem?_getD]
        rw [List.getElem?_append_left e]
      obtain ⟨g1, g2⟩ := h2 i e
      rw [e1]
      refine ⟨?_, fun u u1 u2 => ?_⟩
      · unfold addc
        rw [zu_a (by omega), zu_a (by omega), zu_a (by omega), zu_a (by omega), zu_j (by omega), g1]
      · unfold addc
        rw [zu_a (by omega), zu_j (by omega), zu_j (by omega), zu_j (by omega), zu_a (by omega), g2 u u1 u2]
    · have e0 : i = cl.length := by omega
      have e1 : (cl ++ [c]).getD i 0 = c := by
        rw [List.getD_eq_getElem?_getD, e0, List.getElem?_append_right (Nat.le_refl _), Nat.sub_self]
        rfl
      rw [e1]
      refine ⟨?_, fun u u1 u2 => ?_⟩
      · unfold addc
        rw [zu_a (by omega), zu_a (by omega), zu_a (by omega), zu_a (by omega), zu_e (by omega)]
      · unfold addc
        rw [zu_a (by omega)]
        obtain rfl | rfl | rfl : u = 0 ∨ u = 1 ∨ u = 2 := by omega
        · rw [zu_j (by omega), zu_j (by omega), zu_e (by omega)]
        · rw [zu_j (by omega), zu_e (by omega)]
        · rw [zu_e (by omega)]
theorem opn_FC {v : Nat → Int → Int} (hU : dUs v) {a : Nat} {h who : Int} : ∀ n : Nat, n ≤ 125 → FC (opn v a h who n) a (FLn v h who n)
  | 0, _ => by
    refine ⟨?_, fun i hi => by simp [FLn] at hi⟩
    unfold opn
    rw [zu_e rfl]
    rfl
  | n + 1, hn => by
    have ih := opn_FC hU (a := a) (h := h) (who := who) n (by omega)
    have b := FLn_25 hU (h := h) (who := who) hn
    unfold opn
    by_cases q : FIT v h who n
    · have e : FLn v h who (n + 1) = FLn v h who n ++ [n] := by
        show (if FIT v h who n then FLn v h who n ++ [n] else FLn v h who n) = _
        rw [if_pos q]
      rw [e] at b ⊢
      rw [List.length_append, List.length_singleton] at b
      rw [if_pos ⟨q, by rw [ih.1]; omega⟩]
      exact FC_add ih n
    · have e : FLn v h who (n + 1) = FLn v h who n := by
        show (if FIT v h who n then FLn v h who n ++ [n] else FLn v h who n) = _
        rw [if_neg q]
      rw [e, if_neg (fun z => q z.1)]
      exact ih
theorem FC_co {v : Nat → Int → Int} {a : Nat} {cl : List Nat} (h : FC v a cl) (h25 : cl.length ≤ 25) (hc : ∀ c ∈ cl, c < 125) : gco v a := by
  obtain ⟨h1, h2⟩ := h
  refine ⟨by omega, fun j j1 j2 => ?_, fun j j1 j2 => ?_⟩
  · obtain ⟨-, g⟩ := h2 (j / 3).toNat (by omega)
    have := g (j % 3) (by omega) (by omega)
    rw [show (((j / 3).toNat : Nat) : Int) * 3 + j % 3 = j by omega] at this
    rw [this]
    exact zdg_rng _ _
  · obtain ⟨g, -⟩ := h2 j.toNat (by omega)
    rw [show ((j.toNat : Nat) : Int) = j by omega] at g
    have hm : cl.getD j.toNat 0 ∈ cl := by
      rw [List.getD_eq_getElem?_getD, List.getElem?_eq_getElem (show j.toNat < cl.length by omega)]
      exact List.getElem_mem _
    have := hc _ hm
    omega
/-- the system -/
def chF (v : Nat → Int → Int) (fl : Nat → List Nat) (h : Nat) (i u : Int) : Int := if h = 0 then dF v (uc u) / 3 else zdg ((fl (h - 1)).getD i.toNat 0) u
def szF (fl : Nat → List Nat) (h : Nat) : Nat := if h = 0 then 1 else (fl (h - 1)).length
def hdg (k u : Int) : Int := if u = 0 then k / 3 / 3 % 3 else if u = 1 then k / 3 % 3 else k % 3
def stF (v : Nat → Int → Int) (fl : Nat → List Nat) (h p : Nat) (u : Int) : Int := chF v fl h ((p : Int) / 27) u * 3 + hdg ((p : Int) % 27) u
def nxF (v : Nat → Int → Int) (fl : Nat → List Nat) (h p c : Nat) (u : Int) : Int := v (uc u + 3) (stF v fl h p u * 5 + zdg c u)
def hbF (v : Nat → Int → Int) (fl : Nat → List Nat) (h p c : Nat) : Int := if nxF v fl h p c 0 = -1 ∨ nxF v fl h p c 1 = -1 ∨ nxF v fl h p c 2 = -1 then -1 else (nxF v fl h p c 0 % 3 * 3 + nxF v fl h p c 1 % 3) * 3 + nxF v fl h p c 2 % 3
def csF (v : Nat → Int → Int) (fl : Nat → List Nat) (h p c : Nat) : Int := cstp v (uc 0) (stF v fl h p 0) (zdg c 0) + cstp v (uc 1) (stF v fl h p 1) (zdg c 1) + cstp v (uc 2) (stF v fl h p 2) (zdg c 2)
def plT (v : Nat → Int → Int) (fl : Nat → List Nat) : dp_T := fun h p c => if p < 27 * szF fl h ∧ c ∈ fl h ∧ hbF v fl h p c ≠ -1 then some (ixl (fl h) c * 27 + (hbF v fl h p c).toNat, csF v fl h p c) else none
/-- the front that the hour starts from -/
def FH (v v' : Nat → Int → Int) (fl : Nat → List Nat) (h f : Nat) : Prop := v' f 3 = szF fl h ∧ ∀ i u : Int, 0 ≤ i → i < szF fl h → 0 ≤ u → u < 3 → v' (f + 5) (i * 3 + u) = chF v fl h i u
/-- what of the class's cells the search reads besides its fronts stays -/
def s20 (v v' : Nat → Int → Int) : Prop := ∀ b, 15 ≤ b → v' b = v b
theorem s20_uc {v v' : Nat → Int → Int} (h : s20 v v') {u : Int} (hu : 0 ≤ u ∧ u < 3) : v' (uc u) = v (uc u) ∧ v' (uc u + 1) = v (uc u + 1) ∧ v' (uc u + 2) = v (uc u + 2) ∧ v' (uc u + 3) = v (uc u + 3) := by
  have := uc_rng hu
  exact ⟨h _ (by omega), h _ (by omega), h _ (by omega), h _ (by omega)⟩
theorem rds_st {v v' : Nat → Int → Int} {fl : Nat → List Nat} {h f : Nat} (hF : FH v v' fl h f) {p : Nat} (hp : p < 27 * szF fl h) {u : Int} (hu : 0 ≤ u ∧ u < 3) : rds v' f ((p : Int) / 27) ((p : Int) % 27) 14 u = stF v fl h p u := by
  have g := fun u a b => hF.2 ((p : Int) / 27) u (by omega) (by omega) a b
  unfold stF hdg
  obtain rfl | rfl | rfl : u = 0 ∨ u = 1 ∨ u = 2 := by omega
  · unfold rds
    rw [zu_e rfl, if_pos rfl, ← g 0 (by omega) (by omega), Int.add_zero]
  · unfold rds
    rw [zu_j (by omega), zu_e rfl, if_neg (by omega), if_pos rfl, ← g 1 (by omega) (by omega)]
  · unfold rds
    rw [zu_j (by omega), zu_j (by omega), zu_e rfl, if_neg (by omega), if_neg (by omega), ← g 2 (by omega) (by omega)]
theorem rds_hb {v v' : Nat → Int → Int} {fl : Nat → List Nat} {h f t : Nat} (hft : f = 2 ∧ t = 8 ∨ f = 8 ∧ t = 2) (hs : s20 v v') (hF : FH v v' fl h f) (hT : FC v' t (fl h)) {p i : Nat} (hp : p < 27 * szF fl h) (hi : i < (fl h).length) : hbv (rds v' f ((p : Int) / 27) ((p : Int) % 27)) t i = hbF v fl h p ((fl h).getD i 0) ∧ cs3 (rds v' f ((p : Int) / 27) ((p : Int) % 27)) t i = csF v fl h p ((fl h).getD i 0) := by
  have g := (hT.2 i hi).2
  have n : ∀ u, 0 ≤ u → u < 3 → nxs (rds v' f ((p : Int) / 27) ((p : Int) % 27)) t i u = nxF v fl h p ((fl h).getD i 0) u := fun u a b => by
    have := uc_rng ⟨a, b⟩
    unfold nxs nxF
    rw [rds_st hF hp ⟨a, b⟩, rds_row (by omega), rds_row (by omega), g u a b, (s20_uc hs ⟨a, b⟩).2.2.2]
  have m : ∀ u, 0 ≤ u → u < 3 → cstp (rds v' f ((p : Int) / 27) ((p : Int) % 27)) (uc u) (rds v' f ((p : Int) / 27) ((p : Int) % 27) 14 u) (rds v' f ((p : Int) / 27) ((p : Int) % 27) (t + 5) ((i : Int) * 3 + u)) = cstp v (uc u) (stF v fl h p u) (zdg ((fl h).getD i 0 : Nat) u) := fun u a b => by
    have := uc_rng ⟨a, b⟩
    unfold cstp
    rw [rds_st hF hp ⟨a, b⟩, rds_row (by omega), rds_row (by omega), rds_row (by omega), g u a b, (s20_uc hs ⟨a, b⟩).2.1, (s20_uc hs ⟨a, b⟩).2.2.1]
  refine ⟨?_, ?_⟩
  · unfold hbv hbF
    rw [n 0 (by omega) (by omega), n 1 (by omega) (by omega), n 2 (by omega) (by omega)]
  · unfold cs3 csF
    rw [m 0 (by omega) (by omega), m 1 (by omega) (by omega), m 2 (by omega) (by omega)]
