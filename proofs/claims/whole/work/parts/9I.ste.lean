/-! Calls that begin the market afresh: costs, starts, before, demand, price, unit. -/
section
variable {sh : List q_Sh} {v w : Nat → Int → Int} {R : Nat → Nat → Option Nat}
theorem PR_w {w' : Nat → Int → Int} (h : PR sh w R) (s : ∀ b, b ≤ 14 → w' b = w b) : PR sh w' R := by
  obtain ⟨f, t, p, q1, q2⟩ := h
  have r := p.2.2
  exact ⟨f, t, p, RL_fr q1 (s _ (by omega)) (s _ (by omega)), RL_fr q2 (s _ (by omega)) (s _ (by omega))⟩
theorem INV_B {y : Nat → Int → Int} (h : INV sh v w R) (hA : rA y) (hr : RR y) (hO : dOs y) (e1 : y 16 = y 63) (e2 : y 25 = y 60) (hz : HZ y) (hk : KP y) (s1 : y 15 5 = 64) (s2 : y 15 7 = 0) (s3 : y 48 18 = 64) : INV sh y (zu w 48 19 (bnd y)) R := by
  refine ⟨h.1, ⟨PR_w h.2.1.1 (fun b hb => zu_row (by omega)), MR_fr h.2.1.2 (fun b b1 b2 => zu_row (by omega))⟩, ⟨hA, hr, hO⟩, ⟨⟨e1, e2⟩, hz, hk⟩, ⟨by rw [s1, s3], by rw [s3]; omega, by rw [s3]; omega⟩, ?_, Or.inl ⟨s2, s3, zu_e rfl⟩⟩
  rw [zu_e rfl]
  exact bnd_rng hA
/-- the reference's 'anew' behind it -/
theorem INV_A {x v2 w2 : Nat → Int → Int} (hi : INV sh (zu x 48 18 64) (zu w 48 19 (bnd (zu x 48 18 64))) R) (q1 : e66 (zu x 48 18 64) v2) (q2 : fL65 (zu w 48 19 (bnd x)) w2) : INV sh v2 w2 R := by
  have eb : bnd (zu x 48 18 64) = bnd x := sM_bnd (sM_zu (sM_rf x) (by omega))
  rw [eb] at hi
  refine INV_scr hi ⟨fun b b1 b2 b3 b4 b5 => q1 b b4, fun j j1 j2 => by rw [q1 48 (by decide)]⟩ (fun b b1 b2 b3 => q2 b b2 b3) hi.1.1 hi.1.2 (PR_w hi.2.1.1 (fun b hb => q2 b (by omega) (by omega))) (MR_fr hi.2.1.2 (fun b b1 b2 => q2 b (by omega) (by omega)))
/-- one set changed -/
theorem INV_U {y : Nat → Int → Int} (h : INV sh v w R) {u0 : Int} (h0 : 0 ≤ u0) (h1 : u0 < v 48 2) (s : ∀ b, 16 ≤ b → b ≤ 63 → b ≠ 48 → b ≠ 54 → b ≠ 55 → b ≠ 56 → b ≠ 57 → ¬ (uc u0 ≤ b ∧ b < uc u0 + 3) → y b = v b) (s1 : y 48 1 = v 48 1) (s2 : y 48 2 = v 48 2) (s54 : ∀ j, ¬ (4 * u0 ≤ j ∧ j < 4 * u0 + 4) → y 54 j = v 54 j) (s55 : ∀ j, ¬ (3 * u0 ≤ j ∧ j < 3 * u0 + 3) → y 55 j = v 55 j) (s56 : ∀ j, j ≠ u0 → y 56 j = v 56 j) (s57 : ∀ j, j ≠ u0 → y 57 j = v 57 j) (hA : rA y) (hU : RU y u0) (ho : dO y (uc u0)) (e5 : y 15 5 = 64) (e7 : y 15 7 = 0) (e18 : y 48 18 = 64) : INV sh y (zu w 48 19 (bnd y)) R := by
  have hN := I_dN h
  have n2 := hN.2
  obtain ⟨-, -, ⟨hA0, ⟨a1, a2, a3, a4, a5, a6⟩, hO⟩, ⟨⟨c1, c2⟩, c3, c4⟩, -⟩ := id h
  have hn : v 48 2 ≤ 3 := by have := a1.2; omega
  have un : ∀ u, 0 ≤ u → u < 3 → u ≠ u0 → y (uc u) = v (uc u) ∧ y (uc u + 1) = v (uc u + 1) ∧ y (uc u + 2) = v (uc u + 2) ∧ y (uc u + 3) = v (uc u + 3) := fun u u1 u2 u3 => by
    have d : uc u = 36 + 4 * u.toNat := rfl
    have d0 : uc u0 = 36 + 4 * u0.toNat := rfl
    exact ⟨s _ (by omega) (by omega) (by omega) (by omega) (by omega) (by omega) (by omega) (by omega), s _ (by omega) (by omega) (by omega) (by omega) (by omega) (by omega) (by omega) (by omega), s _ (by omega) (by omega) (by omega) (by omega) (by omega) (by omega) (by omega) (by omega), s _ (by omega) (by omega) (by omega) (by omega) (by omega) (by omega) (by omega) (by omega)⟩
  have row := fun b (q : (16 ≤ b ∧ b < 36 ∨ 47 < b ∧ b ≤ 63) ∧ b ≠ 48 ∧ b ≠ 54 ∧ b ≠ 55 ∧ b ≠ 56 ∧ b ≠ 57) => s b (by omega) (by omega) q.2.1 q.2.2.1 q.2.2.2.1 q.2.2.2.2.1 q.2.2.2.2.2 (by
    have d0 : uc u0 = 36 + 4 * u0.toNat := rfl
    omega)
  have n3 : y (uc u0 + 3) = v (uc u0 + 3) := by
    have d0 : uc u0 = 36 + 4 * u0.toNat := rfl
    exact s _ (by omega) (by omega) (by omega) (by omega) (by omega) (by omega) (by omega) (by omega)
  refine INV_B h hA ⟨?_, fun k k1 k2 => ?_, fun j j1 j2 => ?_, fun u u1 u2 => ?_, fun u u1 u2 => ?_, fun u u1 u2 => ?_⟩ (fun u u1 u2 => ?_) ?_ ?_ (fun u u1 u2 u3 => ?_) (fun k k1 k2 => ?_) e5 e7 e18
  · rw [row 32 (by decide), s1, s2]
    exact a1
  · rw [row 34 (by decide), row 35 (by decide), row 58 (by decide), row 59 (by decide), row 16 (by decide), row 63 (by decide)]
    exact a2 k k1 k2
  · rw [row 25 (by decide), row 60 (by decide), s2]
    exact a3 j j1 j2
  · rw [s2] at u2
    by_cases q : u = u0
    · rw [q]; exact hU
    · obtain ⟨e0, e1, e2, e3⟩ := un u u1 (by omega) q
      obtain ⟨b1, b2, b3, b4⟩ := a4 u u1 u2
      unfold RU
      rw [e0, e1, e2, row 49 (by decide), row 50 (by decide), row 51 (by decide), row 52 (by decide), row 53 (by decide), s56 u q, s57 u q]
      exact ⟨b1, b2, fun c d1 d2 => by rw [s54 _ (by omega)]; exact b3 c d1 d2, fun t d1 d2 => by rw [s55 _ (by omega)]; exact b4 t d1 d2⟩
  · rw [s2] at u1
    obtain ⟨e0, e1, e2, e3⟩ := un u (by omega) u2 (by omega)
    unfold RN
    rw [e0, e1]
    exact a5 u u1 u2
  · by_cases q : u = u0
    · subst q
      have b := a6 u u1 u2
      have k0 := (a4 u u1 h1).1
      have k1 := hU.1
      have r0 := row 49 (by decide)
      intro t c t1 t2 d1 d2
      rw [n3, b t c t1 t2 d1 d2]
      unfold dX
      rw [k0.1, k0.2.1, k0.2.2.1, k0.2.2.2.1, k0.2.2.2.2.1, k1.1, k1.2.1, k1.2.2.1, k1.2.2.2.1, k1.2.2.2.2.1, row 49 (by decide), row 50 (by decide), row 51 (by decide), row 52 (by decide), row 53 (by decide)]
    · obtain ⟨e0, e1, e2, e3⟩ := un u u1 u2 q
      unfold RX dX
      rw [e0, e3]
      exact a6 u u1 u2
  · by_cases q : u = u0
    · rw [q]; exact ho
    · obtain ⟨e0, e1, e2, e3⟩ := un u u1 u2 q
      unfold dO
      rw [e0, e1, e2, e3]
      exact hO u u1 u2
  · rw [row 16 (by decide), row 63 (by decide)]
    exact c1
  · rw [row 25 (by decide), row 60 (by decide)]
    exact c2
  · rw [s2] at u2
    obtain ⟨e0, e1, e2, e3⟩ := un u u1 u3 (by omega)
    obtain ⟨b1, b2, b3, b4, b5⟩ := c3 u u1 u2 u3
    rw [e1, e2, s56 u (by omega)]
    exact ⟨b1, fun j d1 d2 => by rw [s54 _ (by omega)]; exact b2 j d1 d2, fun t d1 d2 => by rw [s55 _ (by omega)]; exact b3 t d1 d2, b4, b5⟩
  · rw [row 31 (by decide), row 62 (by decide), row 61 (by decide), s2, row (27 + k.toNat) (by omega)]
    exact c4 k k1 k2
/-- one hour changed -/
theorem INV_H {y : Nat → Int → Int} (h : INV sh v w R) (s : ∀ b, 17 ≤ b → b ≤ 62 → b ≠ 48 → b ≠ 34 → b ≠ 35 → b ≠ 58 → b ≠ 59 → y b = v b) (s1 : y 48 1 = v 48 1) (s2 : y 48 2 = v 48 2) (hA : rA y) (hd : ∀ k, 0 ≤ k → k < 8 → y 34 k = y 58 k ∧ y 35 k = y 59 k) (hp : y 16 = y 63) (e5 : y 15 5 = 64) (e7 : y 15 7 = 0) (e18 : y 48 18 = 64) : INV sh y (zu w 48 19 (bnd y)) R := by
  have hN := I_dN h
  have n2 := hN.2
  obtain ⟨-, -, ⟨hA0, ⟨a1, a2, a3, a4, a5, a6⟩, hO⟩, ⟨⟨c1, c2⟩, c3, c4⟩, -⟩ := id h
  have hn : v 48 2 ≤ 3 := by have := a1.2; omega
  have row := fun b (q : (17 ≤ b ∧ b ≤ 62) ∧ b ≠ 48 ∧ b ≠ 34 ∧ b ≠ 35 ∧ b ≠ 58 ∧ b ≠ 59) => s b q.1.1 q.1.2 q.2.1 q.2.2.1 q.2.2.2.1 q.2.2.2.2.1 q.2.2.2.2.2
  have un : ∀ u, u < 3 → y (uc u) = v (uc u) ∧ y (uc u + 1) = v (uc u + 1) ∧ y (uc u + 2) = v (uc u + 2) ∧ y (uc u + 3) = v (uc u + 3) := fun u u2 => by
    have d : uc u = 36 + 4 * u.toNat := rfl
    exact ⟨row _ (by omega), row _ (by omega), row _ (by omega), row _ (by omega)⟩
  refine INV_B h hA ⟨?_, fun k k1 k2 => ⟨(hd k k1 k2).1, (hd k k1 k2).2, by rw [hp]⟩, fun j j1 j2 => ?_, fun u u1 u2 => ?_, fun u u1 u2 => ?_, fun u u1 u2 => ?_⟩ (fun u u1 u2 => ?_) hp ?_ (HZ_cg c3 s2 (row 54 (by decide)) (row 55 (by decide)) (row 56 (by decide)) (fun b b1 b2 => row b (by omega))) (fun k k1 k2 => ?_) e5 e7 e18
  · rw [row 32 (by decide), s1, s2]
    exact a1
  · rw [row 25 (by decide), row 60 (by decide), s2]
    exact a3 j j1 j2
  · rw [s2] at u2
    obtain ⟨e0, e1, e2, e3⟩ := un u (by omega)
    unfold RU
    rw [e0, e1, e2, row 49 (by decide), row 50 (by decide), row 51 (by decide), row 52 (by decide), row 53 (by decide), row 54 (by decide), row 55 (by decide), row 56 (by decide), row 57 (by decide)]
    exact a4 u u1 u2
  · rw [s2] at u1
    obtain ⟨e0, e1, e2, e3⟩ := un u u2
    unfold RN
    rw [e0, e1]
    exact a5 u u1 u2
  · obtain ⟨e0, e1, e2, e3⟩ := un u u2
    unfold RX dX
    rw [e0, e3]
    exact a6 u u1 u2
  · obtain ⟨e0, e1, e2, e3⟩ := un u u2
    unfold dO
    rw [e0, e1, e2, e3]
    exact hO u u1 u2
  · rw [row 25 (by decide), row 60 (by decide)]
    exact c2
  · rw [row 31 (by decide), row 62 (by decide), row 61 (by decide), s2, row (27 + k.toNat) (by omega)]
    exact c4 k k1 k2
theorem st_demand (xs : List Int32) (h : INV sh v w R) (k d r : Int) (r1 : -2147483648 ≤ k ∧ k < 2147483648) (r2 : -2147483648 ≤ d ∧ d < 2147483648) (r3 : -2147483648 ≤ r ∧ r < 2147483648) : stepI xs sh v w R kDesk_demand [.ref 0, .int (zi k), .int (zi d), .int (zi r)] kMod_demand [.ref 48, .int (zi k), .int (zi d), .int (zi r)] := by
  have hA := h.2.2.1.1
  have hr := h.2.2.1.2.1
  have z1 := hr.1.1
  have c := fun Q => d_demand xs sh v w R h.1.1 (I_dN h) k d r r1 r2 r3 Q
  rw [z1] at c
  by_cases q : (0 ≤ k ∧ k < v 48 1) ∧ (0 ≤ d ∧ d ≤ 200) ∧ (0 ≤ r ∧ r ≤ 200)
  · simp only [if_pos q] at c
    have sm : sameM v (dSA (zu (zu v 34 k d) 35 k r)) := sM_zu (sM_zu (sM_zu (sM_zu (sM_rf v) (by omega)) (by omega)) (by omega)) (by omega)
    have hA1 := sM_rA sm hA
    have e48 : dSA (zu (zu v 34 k d) 35 k r) 48 = v 48 := by
      unfold dSA
      rw [zu_row (by decide), zu_row (by decide), zu_row (by decide), zu_row (by decide)]
    have m := (n_demand xs sh _ w R h.1.2 hA1 k d r r1 r2 r3).2
    rw [e48] at m
    obtain ⟨v2, w2, q1, q2, q3⟩ := m q
    refine ⟨zi 1, _, w, R, v2, w2, c, q3, INV_A (INV_H h (fun b b1 b2 b3 b4 b5 b6 b7 => ?_) ?_ ?_ (sM_rA (sM_zu (sM_rf _) (by omega)) (rA_vDe hA1 q.2.1 q.2.2)) (fun j j1 j2 => ?_) ?_ ?_ ?_ ?_) q1 q2⟩
    · unfold vDe dSA
      rw [zu_row b3, zu_row b7, zu_row b6, zu_row b3, zu_row (by omega), zu_row (by omega), zu_row b5, zu_row b4]
    · unfold vDe
      rw [zu_j (by decide), zu_a (by decide), zu_a (by decide), zu_j (by decide), e48]
    · unfold vDe
      rw [zu_j (by decide), zu_a (by decide), zu_a (by decide), zu_j (by decide), e48]
    · obtain ⟨b1, b2, -⟩ := hr.2.1 j j1 j2
      by_cases z : j = k
      · simp [vDe, dSA, zu, z]
      · simp [vDe, dSA, zu, z, b1, b2]
    · have := h.2.2.2.1.1.1
      funext j
      simp [vDe, dSA, zu, this]
    · simp [vDe, dSA, zu]
    · simp [vDe, dSA, zu]
    · simp [vDe, dSA, zu]
  · simp only [if_neg q] at c
    have m := (n_demand xs sh v w R h.1.2 hA k d r r1 r2 r3).1 q
    exact ⟨zi 0, v, w, R, zu v 48 0 0, w, c, m, INV_0 h 0⟩
theorem st_price (xs : List Int32) (h : INV sh v w R) (k p : Int) (r1 : -2147483648 ≤ k ∧ k < 2147483648) (r2 : -2147483648 ≤ p ∧ p < 2147483648) : stepI xs sh v w R kDesk_price [.ref 0, .int (zi k), .int (zi p)] kMod_price [.ref 48, .int (zi k), .int (zi p)] := by
  have hA := h.2.2.1.1
  have hr := h.2.2.1.2.1
  have z1 := hr.1.1
  have c := fun Q => d_price xs sh v w R h.1.1 (I_dN h) k p r1 r2 Q
  rw [z1] at c
  by_cases q : (0 ≤ k ∧ k < v 48 1) ∧ (-100000 ≤ p ∧ p ≤ 100000)
  · simp only [if_pos q] at c
    have sm : sameM v (dSA (zu v 16 k p)) := sM_zu (sM_zu (sM_zu (sM_rf v) (by omega)) (by omega)) (by omega)
    have hA1 := sM_rA sm hA
    have e48 : dSA (zu v 16 k p) 48 = v 48 := by
      unfold dSA
      rw [zu_row (by decide), zu_row (by decide), zu_row (by decide)]
    have m := (n_price xs sh _ w R h.1.2 hA1 k p r1 r2).2
    rw [e48] at m
    obtain ⟨v2, w2, q1, q2, q3⟩ := m q
    refine ⟨zi 1, _, w, R, v2, w2, c, q3, INV_A (INV_H h (fun b b1 b2 b3 b4 b5 b6 b7 => ?_) ?_ ?_ (sM_rA (sM_zu (sM_rf _) (by omega)) (rA_vPr hA1 q.2)) (fun j j1 j2 => ?_) ?_ ?_ ?_ ?_) q1 q2⟩
    · unfold vPr dSA
      rw [zu_row b3, zu_row (by omega), zu_row b3, zu_row (by omega), zu_row (by omega), zu_row (by omega)]
    · unfold vPr
      rw [zu_j (by decide), zu_a (by decide), zu_j (by decide), e48]
    · unfold vPr
      rw [zu_j (by decide), zu_a (by decide), zu_j (by decide), e48]
    · obtain ⟨b1, b2, -⟩ := hr.2.1 j j1 j2
      simp [vPr, dSA, zu, b1, b2]
    · have := h.2.2.2.1.1.1
      funext j
      by_cases z : j = k
      · simp [vPr, dSA, zu, z]
      · simp [vPr, dSA, zu, z, this]
    · simp [vPr, dSA, zu]
    · simp [vPr, dSA, zu]
    · simp [vPr, dSA, zu]
  · simp only [if_neg q] at c
    have m := (n_price xs sh v w R h.1.2 hA k p r1 r2).1 q
    exact ⟨zi 0, v, w, R, zu v 48 0 0, w, c, m, INV_0 h 0⟩
theorem uc_def (u : Int) : uc u = 36 + 4 * u.toNat := rfl
theorem dSA_row {b : Nat} {x : Nat → Int → Int} (hb : b ≠ 15) : dSA x b = x b := by
  unfold dSA
  rw [zu_row hb, zu_row hb]
theorem st_costs (xs : List Int32) (h : INV sh v w R) (u b f s t : Int) (r1 : -2147483648 ≤ u ∧ u < 2147483648) (r2 : -2147483648 ≤ b ∧ b < 2147483648) (r3 : -2147483648 ≤ f ∧ f < 2147483648) (r4 : -2147483648 ≤ s ∧ s < 2147483648) (r5 : -2147483648 ≤ t ∧ t < 2147483648) : stepI xs sh v w R kDesk_costs [.ref 0, .int (zi u), .int (zi b), .int (zi f), .int (zi s), .int (zi t)] kMod_costs [.ref 48, .int (zi u), .int (zi b), .int (zi f), .int (zi s), .int (zi t)] := by
  have hA := h.2.2.1.1
  have hr := h.2.2.1.2.1
  have hO := h.2.2.1.2.2
  have n2 := (I_dN h).2
  have z2 := hr.1.2
  have c := fun Q => d_costs xs sh v w R h.1.1 (I_dN h) u b f s t r1 r2 r3 r4 r5 Q
  rw [z2] at c
  by_cases q : (0 ≤ u ∧ u < v 48 2) ∧ (0 ≤ b ∧ b ≤ 10000) ∧ (0 ≤ f ∧ f ≤ 10000) ∧ (0 ≤ s ∧ s ≤ 10000) ∧ (0 ≤ t ∧ t ≤ 10000)
  · simp only [if_pos q] at c
    have d := uc_def u
    obtain ⟨⟨q1, q2⟩, q3, q4, q5, q6⟩ := id q
    have sm : sameM v (dSA (dCg v (uc u) b f s t)) := sM_zu (sM_zu (sM_zu (sM_zu (sM_zu (sM_zu (sM_rf v) (by omega)) (by omega)) (by omega)) (by omega)) (by omega)) (by omega)
    have hA1 := sM_rA sm hA
    have rw1 : ∀ k, k ≠ 15 → k ≠ uc u + 1 → dSA (dCg v (uc u) b f s t) k = v k := fun k k1 k2 => by
      rw [dSA_row k1]
      unfold dCg
      rw [zu_row k2, zu_row k2, zu_row k2, zu_row k2]
    have rwu : dSA (dCg v (uc u) b f s t) (uc u + 1) = dCg v (uc u) b f s t (uc u + 1) := dSA_row (by omega)
    have m := (n_costs xs sh _ w R h.1.2 hA1 u b f s t r1 r2 r3 r4 r5).2
    rw [rw1 48 (by decide) (by omega)] at m
    obtain ⟨v2, w2, m1, m2, m3⟩ := m q
    have rw2 : ∀ k, k ≠ 48 → k ≠ 54 → zu (vCo (dSA (dCg v (uc u) b f s t)) u b f s t) 48 18 64 k = dSA (dCg v (uc u) b f s t) k := fun k k1 k2 => by
      unfold vCo
      rw [zu_row k1, zu_row k2, zu_row k2, zu_row k2, zu_row k2, zu_row k1]
    have rw3 : ∀ j, j ≠ 0 → j ≠ 18 → zu (vCo (dSA (dCg v (uc u) b f s t)) u b f s t) 48 18 64 48 j = v 48 j := fun j j1 j2 => by
      unfold vCo
      rw [zu_j j2, zu_a (by decide), zu_a (by decide), zu_a (by decide), zu_a (by decide), zu_j j1, rw1 48 (by decide) (by omega)]
    have rw5 : ∀ j, zu (vCo (dSA (dCg v (uc u) b f s t)) u b f s t) 48 18 64 54 j = if j = 4 * u + 3 then b + f + s + t else if j = 4 * u + 2 then b + f + s else if j = 4 * u + 1 then b + f else if j = 4 * u then b else v 54 j := fun j => by
      have e := rw1 54 (by decide) (by omega)
      simp [vCo, zu, e]
    have rw6 : ∀ j, dCg v (uc u) b f s t (uc u + 1) j = if j = 4 then b + f + s + t else if j = 3 then b + f + s else if j = 2 then b + f else if j = 1 then b else v (uc u + 1) j := fun j => by
      simp [dCg, zu]
    have hA2 : rA (zu (vCo (dSA (dCg v (uc u) b f s t)) u b f s t) 48 18 64) := sM_rA (sM_zu (sM_rf _) (by omega)) (rA_54 (rA_54 (rA_54 (rA_54 (rA_0 hA1) (by omega)) (by omega)) (by omega)) (by omega))
    have e5 : dSA (dCg v (uc u) b f s t) 15 5 = 64 := by simp [dSA, zu]
    have e7 : dSA (dCg v (uc u) b f s t) 15 7 = 0 := by simp [dSA, zu]
    obtain ⟨k1, k2, k3, k4⟩ := hr.2.2.2.1 u q1 q2
    obtain ⟨o1, o2, o3, o4⟩ := hO u q1 (by omega)
    refine ⟨zi 1, _, w, R, v2, w2, c, m3, INV_A (INV_U h q1 q2 (fun k k1 k2 k3 k4 k5 k6 k7 k8 => ?_) (rw3 1 (by decide) (by decide)) (rw3 2 (by decide) (by decide)) (fun j j1 => ?_) (fun j j1 => ?_) (fun j j1 => ?_) (fun j j1 => ?_) hA2 ⟨?_, ?_, fun k g1 g2 => ?_, fun k g1 g2 => ?_⟩ ⟨?_, fun k g1 g2 => ?_, ?_, ?_⟩ ?_ ?_ (zu_e rfl)) m1 m2⟩
    · rw [rw2 k k3 k4, rw1 k (by omega) (by omega)]
    · rw [rw5, if_neg (by omega), if_neg (by omega), if_neg (by omega), if_neg (by omega)]
    · rw [rw2 55 (by decide) (by decide), rw1 55 (by decide) (by omega)]
    · rw [rw2 56 (by decide) (by decide), rw1 56 (by decide) (by omega)]
    · rw [rw2 57 (by decide) (by decide), rw1 57 (by decide) (by omega)]
    · rw [rw2 (uc u) (by omega) (by omega), rw1 (uc u) (by omega) (by omega), rw2 49 (by decide) (by decide), rw1 49 (by decide) (by omega), rw2 50 (by decide) (by decide), rw1 50 (by decide) (by omega), rw2 51 (by decide) (by decide), rw1 51 (by decide) (by omega), rw2 52 (by decide) (by decide), rw1 52 (by decide) (by omega), rw2 53 (by decide) (by decide), rw1 53 (by decide) (by omega), rw2 56 (by decide) (by decide), rw1 56 (by decide) (by omega), rw2 57 (by decide) (by decide), rw1 57 (by decide) (by omega)]
      exact k1
    · rw [rw2 (uc u + 1) (by omega) (by omega), rwu, rw6, if_neg (by decide), if_neg (by decide), if_neg (by decide), if_neg (by decide)]
      exact k2
    · rw [rw2 (uc u + 1) (by omega) (by omega), rwu, rw6, rw5]
      (repeat' split) <;> omega
    · rw [rw2 (uc u + 2) (by omega) (by omega), rw1 (uc u + 2) (by omega) (by omega), rw2 55 (by decide) (by decide), rw1 55 (by decide) (by omega)]
      exact k4 k g1 g2
    · rw [rw2 (uc u + 3) (by omega) (by omega), rw1 (uc u + 3) (by omega) (by omega)]
      exact o1
    · rw [rw2 (uc u + 1) (by omega) (by omega), rwu, rw6]
      have := o2 k g1 g2
      (repeat' split) <;> omega
    · rw [rw2 (uc u + 2) (by omega) (by omega), rw1 (uc u + 2) (by omega) (by omega)]
      exact o3
    · rw [rw2 (uc u) (by omega) (by omega), rw1 (uc u) (by omega) (by omega)]
      exact o4
    · rw [rw2 15 (by decide) (by decide)]
      exact e5
    · rw [rw2 15 (by decide) (by decide)]
      exact e7
  · simp only [if_neg q] at c
    have m := (n_costs xs sh v w R h.1.2 hA u b f s t r1 r2 r3 r4 r5).1 q
    exact ⟨zi 0, v, w, R, zu v 48 0 0, w, c, m, INV_0 h 0⟩
theorem st_starts (xs : List Int32) (h : INV sh v w R) (u b f s : Int) (r1 : -2147483648 ≤ u ∧ u < 2147483648) (r2 : -2147483648 ≤ b ∧ b < 2147483648) (r3 : -2147483648 ≤ f ∧ f < 2147483648) (r4 : -2147483648 ≤ s ∧ s < 2147483648) : stepI xs sh v w R kDesk_starts [.ref 0, .int (zi u), .int (zi b), .int (zi f), .int (zi s)] kMod_starts [.ref 48, .int (zi u), .int (zi b), .int (zi f), .int (zi s)] := by
  have hA := h.2.2.1.1
  have hr := h.2.2.1.2.1
  have hO := h.2.2.1.2.2
  have n2 := (I_dN h).2
  have z2 := hr.1.2
  have c := fun Q => d_starts xs sh v w R h.1.1 (I_dN h) u b f s r1 r2 r3 r4 Q
  rw [z2] at c
  by_cases q : (0 ≤ u ∧ u < v 48 2) ∧ (0 ≤ b ∧ b ≤ 10000) ∧ (0 ≤ f ∧ f ≤ 10000) ∧ (0 ≤ s ∧ s ≤ 10000)
  · simp only [if_pos q] at c
    have d := uc_def u
    obtain ⟨⟨q1, q2⟩, q3, q4, q5⟩ := id q
    have sm : sameM v (dSA (dCs v (uc u) b f s)) := sM_zu (sM_zu (sM_zu (sM_zu (sM_zu (sM_rf v) (by omega)) (by omega)) (by omega)) (by omega)) (by omega)
    have hA1 := sM_rA sm hA
    have rw1 : ∀ k, k ≠ 15 → k ≠ uc u + 2 → dSA (dCs v (uc u) b f s) k = v k := fun k k1 k2 => by
      rw [dSA_row k1]
      unfold dCs
      rw [zu_row k2, zu_row k2, zu_row k2]
    have rwu : dSA (dCs v (uc u) b f s) (uc u + 2) = dCs v (uc u) b f s (uc u + 2) := dSA_row (by omega)
    have m := (n_starts xs sh _ w R h.1.2 hA1 u b f s r1 r2 r3 r4).2
    rw [rw1 48 (by decide) (by omega)] at m
    obtain ⟨v2, w2, m1, m2, m3⟩ := m q
    have rw2 : ∀ k, k ≠ 48 → k ≠ 55 → zu (vSt (dSA (dCs v (uc u) b f s)) u b f s) 48 18 64 k = dSA (dCs v (uc u) b f s) k := fun k k1 k2 => by
      unfold vSt
      rw [zu_row k1, zu_row k2, zu_row k2, zu_row k2, zu_row k1]
    have rw3 : ∀ j, j ≠ 0 → j ≠ 18 → zu (vSt (dSA (dCs v (uc u) b f s)) u b f s) 48 18 64 48 j = v 48 j := fun j j1 j2 => by
      unfold vSt
      rw [zu_j j2, zu_a (by decide), zu_a (by decide), zu_a (by decide), zu_j j1, rw1 48 (by decide) (by omega)]
    have rw5 : ∀ j, zu (vSt (dSA (dCs v (uc u) b f s)) u b f s) 48 18 64 55 j = if j = 3 * u + 2 then s else if j = 3 * u + 1 then f else if j = 3 * u then b else v 55 j := fun j => by
      have e := rw1 55 (by decide) (by omega)
      simp [vSt, zu, e]
    have rw6 : ∀ j, dCs v (uc u) b f s (uc u + 2) j = if j = 2 then s else if j = 1 then f else if j = 0 then b else v (uc u + 2) j := fun j => by
      simp [dCs, zu]
    have hA2 : rA (zu (vSt (dSA (dCs v (uc u) b f s)) u b f s) 48 18 64) := sM_rA (sM_zu (sM_rf _) (by omega)) (rA_55 (rA_55 (rA_55 (rA_0 hA1) (by omega)) (by omega)) (by omega))
    have e5 : dSA (dCs v (uc u) b f s) 15 5 = 64 := by simp [dSA, zu]
    have e7 : dSA (dCs v (uc u) b f s) 15 7 = 0 := by simp [dSA, zu]
    obtain ⟨k1, k2, k3, k4⟩ := hr.2.2.2.1 u q1 q2
    obtain ⟨o1, o2, o3, o4⟩ := hO u q1 (by omega)
    refine ⟨zi 1, _, w, R, v2, w2, c, m3, INV_A (INV_U h q1 q2 (fun k k1 k2 k3 k4 k5 k6 k7 k8 => ?_) (rw3 1 (by decide) (by decide)) (rw3 2 (by decide) (by decide)) (fun j j1 => ?_) (fun j j1 => ?_) (fun j j1 => ?_) (fun j j1 => ?_) hA2 ⟨?_, ?_, fun k g1 g2 => ?_, fun k g1 g2 => ?_⟩ ⟨?_, ?_, fun k g1 g2 => ?_, ?_⟩ ?_ ?_ (zu_e rfl)) m1 m2⟩
    · rw [rw2 k k3 k5, rw1 k (by omega) (by omega)]
    · rw [rw2 54 (by decide) (by decide), rw1 54 (by decide) (by omega)]
    · rw [rw5, if_neg (by omega), if_neg (by omega), if_neg (by omega)]
    · rw [rw2 56 (by decide) (by decide), rw1 56 (by decide) (by omega)]
    · rw [rw2 57 (by decide) (by decide), rw1 57 (by decide) (by omega)]
    · rw [rw2 (uc u) (by omega) (by omega), rw1 (uc u) (by omega) (by omega), rw2 49 (by decide) (by decide), rw1 49 (by decide) (by omega), rw2 50 (by decide) (by decide), rw1 50 (by decide) (by omega), rw2 51 (by decide) (by decide), rw1 51 (by decide) (by omega), rw2 52 (by decide) (by decide), rw1 52 (by decide) (by omega), rw2 53 (by decide) (by decide), rw1 53 (by decide) (by omega), rw2 56 (by decide) (by decide), rw1 56 (by decide) (by omega), rw2 57 (by decide) (by decide), rw1 57 (by decide) (by omega)]
      exact k1
    · rw [rw2 (uc u + 1) (by omega) (by omega), rw1 (uc u + 1) (by omega) (by omega)]
      exact k2
    · rw [rw2 (uc u + 1) (by omega) (by omega), rw1 (uc u + 1) (by omega) (by omega), rw2 54 (by decide) (by decide), rw1 54 (by decide) (by omega)]
      exact k3 k g1 g2
    · rw [rw2 (uc u + 2) (by omega) (by omega), rwu, rw6, rw5]
      (repeat' split) <;> omega
    · rw [rw2 (uc u + 3) (by omega) (by omega), rw1 (uc u + 3) (by omega) (by omega)]
      exact o1
    · rw [rw2 (uc u + 1) (by omega) (by omega), rw1 (uc u + 1) (by omega) (by omega)]
      exact o2
    · rw [rw2 (uc u + 2) (by omega) (by omega), rwu, rw6]
      have := o3 k g1 g2
      (repeat' split) <;> omega
    · rw [rw2 (uc u) (by omega) (by omega), rw1 (uc u) (by omega) (by omega)]
      exact o4
    · rw [rw2 15 (by decide) (by decide)]
      exact e5
    · rw [rw2 15 (by decide) (by decide)]
      exact e7
  · simp only [if_neg q] at c
    have m := (n_starts xs sh v w R h.1.2 hA u b f s r1 r2 r3 r4).1 q
    exact ⟨zi 0, v, w, R, zu v 48 0 0, w, c, m, INV_0 h 0⟩
theorem st_before (xs : List Int32) (h : INV sh v w R) (u o n : Int) (r1 : -2147483648 ≤ u ∧ u < 2147483648) (r2 : -2147483648 ≤ o ∧ o < 2147483648) (r3 : -2147483648 ≤ n ∧ n < 2147483648) : stepI xs sh v w R kDesk_before [.ref 0, .int (zi u), .int (zi o), .int (zi n)] kMod_before [.ref 48, .int (zi u), .int (zi o), .int (zi n)] := by
  have hA := h.2.2.1.1
  have hr := h.2.2.1.2.1
  have hO := h.2.2.1.2.2
  have n2 := (I_dN h).2
  have z2 := hr.1.2
  have c := fun Q => d_before xs sh v w R h.1.1 (I_dN h) (I_dUs h) u o n r1 r2 r3 Q
  rw [z2] at c
  by_cases q : (0 ≤ u ∧ u < v 48 2) ∧ (1 ≤ n ∧ n ≤ 100) ∧ (o = 0 ∨ (v 49 u ≤ o ∧ o ≤ v 50 u))
  · have d := uc_def u
    obtain ⟨⟨q1, q2⟩, q3, q4⟩ := id q
    obtain ⟨k1, k2, k3, k4⟩ := hr.2.2.2.1 u q1 q2
    obtain ⟨o1, o2, o3, o4⟩ := hO u q1 (by omega)
    have q' : (0 ≤ u ∧ u < v 48 2) ∧ (1 ≤ n ∧ n ≤ 100) ∧ (o = 0 ∨ (v (uc u) 0 ≤ o ∧ o ≤ v (uc u) 1)) := by
      rw [k1.1, k1.2.1]
      exact q
    simp only [if_pos q'] at c
    have sm : sameM v (dSA (zu (zu v (uc u) 5 o) (uc u) 6 n)) := sM_zu (sM_zu (sM_zu (sM_zu (sM_rf v) (by omega)) (by omega)) (by omega)) (by omega)
    have hA1 := sM_rA sm hA
    have rw1 : ∀ k, k ≠ 15 → k ≠ uc u → dSA (zu (zu v (uc u) 5 o) (uc u) 6 n) k = v k := fun k k1 k2 => by
      rw [dSA_row k1]
      rw [zu_row k2, zu_row k2]
    have rwu : dSA (zu (zu v (uc u) 5 o) (uc u) 6 n) (uc u) = (zu (zu v (uc u) 5 o) (uc u) 6 n) (uc u) := dSA_row (by omega)
    have m := (n_before xs sh _ w R h.1.2 hA1 u o n r1 r2 r3).2
    rw [rw1 48 (by decide) (by omega), rw1 49 (by decide) (by omega), rw1 50 (by decide) (by omega)] at m
    obtain ⟨v2, w2, m1, m2, m3⟩ := m q
    have rw2 : ∀ k, k ≠ 48 → k ≠ 56 → k ≠ 57 → zu (vBe (dSA (zu (zu v (uc u) 5 o) (uc u) 6 n)) u o n) 48 18 64 k = dSA (zu (zu v (uc u) 5 o) (uc u) 6 n) k := fun k k1 k2 k3 => by
      unfold vBe
      rw [zu_row k1, zu_row k3, zu_row k2, zu_row k1]
    have rw3 : ∀ j, j ≠ 0 → j ≠ 18 → zu (vBe (dSA (zu (zu v (uc u) 5 o) (uc u) 6 n)) u o n) 48 18 64 48 j = v 48 j := fun j j1 j2 => by
      unfold vBe
      rw [zu_j j2, zu_a (by decide), zu_a (by decide), zu_j j1, rw1 48 (by decide) (by omega)]
    have rw56 : ∀ j, zu (vBe (dSA (zu (zu v (uc u) 5 o) (uc u) 6 n)) u o n) 48 18 64 56 j = if j = u then o else v 56 j := fun j => by
      have e := rw1 56 (by decide) (by omega)
      simp [vBe, zu, e]
    have rw57 : ∀ j, zu (vBe (dSA (zu (zu v (uc u) 5 o) (uc u) 6 n)) u o n) 48 18 64 57 j = if j = u then n else v 57 j := fun j => by
      have e := rw1 57 (by decide) (by omega)
      simp [vBe, zu, e]
    have rw6 : ∀ j, (zu (zu v (uc u) 5 o) (uc u) 6 n) (uc u) j = if j = 6 then n else if j = 5 then o else v (uc u) j := fun j => by
      simp [zu]
    have hA2 : rA (zu (vBe (dSA (zu (zu v (uc u) 5 o) (uc u) 6 n)) u o n) 48 18 64) := sM_rA (sM_zu (sM_rf _) (by omega)) (rA_vBe hA1 (by rw [rw1 48 (by decide) (by omega)]; exact q.1) (by rw [rw1 49 (by decide) (by omega), rw1 50 (by decide) (by omega)]; exact q4) q3)
    have e5 : dSA (zu (zu v (uc u) 5 o) (uc u) 6 n) 15 5 = 64 := by simp [dSA, zu]
    have e7 : dSA (zu (zu v (uc u) 5 o) (uc u) 6 n) 15 7 = 0 := by simp [dSA, zu]
    refine ⟨zi 1, _, w, R, v2, w2, c, m3, INV_A (INV_U h q1 q2 (fun k k1 k2 k3 k4 k5 k6 k7 k8 => ?_) (rw3 1 (by decide) (by decide)) (rw3 2 (by decide) (by decide)) (fun j j1 => ?_) (fun j j1 => ?_) (fun j j1 => ?_) (fun j j1 => ?_) hA2 ⟨?_, ?_, fun k g1 g2 => ?_, fun k g1 g2 => ?_⟩ ⟨?_, ?_, ?_, ?_⟩ ?_ ?_ (zu_e rfl)) m1 m2⟩
    · rw [rw2 k k3 k6 k7, rw1 k (by omega) (by omega)]
    · rw [rw2 54 (by decide) (by decide) (by decide), rw1 54 (by decide) (by omega)]
    · rw [rw2 55 (by decide) (by decide) (by decide), rw1 55 (by decide) (by omega)]
    · rw [rw56, if_neg j1]
    · rw [rw57, if_neg j1]
    · rw [rw2 (uc u) (by omega) (by omega) (by omega), rwu, rw6, rw6, rw6, rw6, rw6, rw6, rw6, rw2 49 (by decide) (by decide) (by decide), rw1 49 (by decide) (by omega), rw2 50 (by decide) (by decide) (by decide), rw1 50 (by decide) (by omega), rw2 51 (by decide) (by decide) (by decide), rw1 51 (by decide) (by omega), rw2 52 (by decide) (by decide) (by decide), rw1 52 (by decide) (by omega), rw2 53 (by decide) (by decide) (by decide), rw1 53 (by decide) (by omega), rw56, rw57]
      simpa using ⟨k1.1, k1.2.1, k1.2.2.1, k1.2.2.2.1, k1.2.2.2.2.1⟩
    · rw [rw2 (uc u + 1) (by omega) (by omega) (by omega), rw1 (uc u + 1) (by omega) (by omega)]
      exact k2
    · rw [rw2 (uc u + 1) (by omega) (by omega) (by omega), rw1 (uc u + 1) (by omega) (by omega), rw2 54 (by decide) (by decide) (by decide), rw1 54 (by decide) (by omega)]
      exact k3 k g1 g2
    · rw [rw2 (uc u + 2) (by omega) (by omega) (by omega), rw1 (uc u + 2) (by omega) (by omega), rw2 55 (by decide) (by decide) (by decide), rw1 55 (by decide) (by omega)]
      exact k4 k g1 g2
    · rw [rw2 (uc u + 3) (by omega) (by omega) (by omega), rw1 (uc u + 3) (by omega) (by omega)]
      exact o1
    · rw [rw2 (uc u + 1) (by omega) (by omega) (by omega), rw1 (uc u + 1) (by omega) (by omega)]
      exact o2
    · rw [rw2 (uc u + 2) (by omega) (by omega) (by omega), rw1 (uc u + 2) (by omega) (by omega)]
      exact o3
    · rw [rw2 (uc u) (by omega) (by omega) (by omega), rwu, rw6]
      simpa using o4
    · rw [rw2 15 (by decide) (by decide) (by decide)]
      exact e5
    · rw [rw2 15 (by decide) (by decide) (by decide)]
      exact e7
  · have q' : ¬ ((0 ≤ u ∧ u < v 48 2) ∧ (1 ≤ n ∧ n ≤ 100) ∧ (o = 0 ∨ (v (uc u) 0 ≤ o ∧ o ≤ v (uc u) 1))) := fun z => q (by
      obtain ⟨k1, -⟩ := hr.2.2.2.1 u z.1.1 z.1.2
      rw [k1.1, k1.2.1] at z
      exact z)
    simp only [if_neg q'] at c
    have m := (n_before xs sh v w R h.1.2 hA u o n r1 r2 r3).1 q
    exact ⟨zi 0, v, w, R, zu v 48 0 0, w, c, m, INV_0 h 0⟩
end
