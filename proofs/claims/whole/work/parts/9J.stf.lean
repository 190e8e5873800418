/-! unit. -/
theorem znx_rng {lo hi up dn rp s c : Int} (hu : 1 ≤ up ∧ up ≤ 3) (hs : 0 ≤ s ∧ s < 15) (hc : 0 ≤ c ∧ c < 5) : -1 ≤ znx lo hi up dn rp s c ∧ znx lo hi up dn rp s c < 15 := by
  unfold znx
  (repeat' split) <;> omega
section
variable {sh : List q_Sh} {v w : Nat → Int → Int} {R : Nat → Nat → Option Nat}
theorem st_unit (xs : List Int32) (h : INV sh v w R) (l hh u d r : Int) (r1 : -2147483648 ≤ l ∧ l < 2147483648) (r2 : -2147483648 ≤ hh ∧ hh < 2147483648) (r3 : -2147483648 ≤ u ∧ u < 2147483648) (r4 : -2147483648 ≤ d ∧ d < 2147483648) (r5 : -2147483648 ≤ r ∧ r < 2147483648) :
    (okU l hh u d r → v 48 2 < 3 → stepO xs sh v w R kDesk_unit [.ref 0, .int (zi l), .int (zi hh), .int (zi u), .int (zi d), .int (zi r)] kMod_unit [.ref 48, .int (zi l), .int (zi hh), .int (zi u), .int (zi d), .int (zi r)]) ∧
    (okU l hh u d r → ¬ v 48 2 < 3 → stepT xs sh v w R kMod_unit [.ref 48, .int (zi l), .int (zi hh), .int (zi u), .int (zi d), .int (zi r)] 2) ∧
    (¬ okU l hh u d r → stepT xs sh v w R kMod_unit [.ref 48, .int (zi l), .int (zi hh), .int (zi u), .int (zi d), .int (zi r)] 1) := by
  have hA := h.2.2.1.1
  have hr := h.2.2.1.2.1
  have hO := h.2.2.1.2.2
  have hz := h.2.2.2.1.2.1
  have hk := h.2.2.2.1.2.2
  have n2 := (I_dN h).2
  have z1 := hr.1.1
  have z2 := hr.1.2
  have hz0 : v 48 2 < 3 → v 56 (v 48 2) = 0 := fun q => (hz (v 48 2) (by omega) (by omega) q).1
  refine ⟨fun ok q => ?_, fun ok q => ?_, fun ok => ?_⟩
  · have c := fun Q => d_unit xs sh v w R h.1.1 (I_dN h) (I_dUs h) l hh u d r ok (by omega) Q
    rw [z2] at c
    obtain ⟨n, en⟩ : ∃ n, n = v 48 2 := ⟨_, rfl⟩
    rw [← en] at c q hz0 z2
    have d0 := uc_def n
    obtain ⟨a, ea⟩ : ∃ a, a = uc n := ⟨_, rfl⟩
    rw [← ea] at c d0
    obtain ⟨v1, e1⟩ : ∃ v1, v1 = dSA (zu (dRa v a l hh u d r) 32 1 (n + 1)) := ⟨_, rfl⟩
    rw [← e1] at c
    have rw1 : ∀ k, k ≠ 15 → k ≠ 32 → k ≠ a → k ≠ a + 3 → v1 k = v k := fun k k1 k2 k3 k4 => by
      rw [e1, dSA_row k1, zu_row k2]
      unfold dRa
      rw [fnx_row k4, zu_row k3, zu_row k3, zu_row k3, zu_row k3, zu_row k3]
    have rwa : v1 a = zu (zu (zu (zu (zu v a 0 l) a 1 hh) a 2 u) a 3 d) a 4 r a := by
      rw [e1, dSA_row (by omega), zu_row (by omega)]
      unfold dRa
      rw [fnx_row (by omega)]
    have rw3 : ∀ j, 0 ≤ j → j < 75 → v1 (a + 3) j = dX (zu (zu (zu (zu (zu v a 0 l) a 1 hh) a 2 u) a 3 d) a 4 r) a (j / 5) (j % 5) := fun j j1 j2 => by
      rw [e1, dSA_row (by omega), zu_row (by omega)]
      unfold dRa fnx
      rw [if_pos ⟨rfl, j1, j2⟩]
    have r32 : v1 32 1 = n + 1 ∧ v1 32 0 = v 32 0 := by
      rw [e1, dSA_row (by decide)]
      refine ⟨zu_e rfl, ?_⟩
      rw [zu_j (by decide)]
      unfold dRa
      rw [fnx_row (by omega), zu_row (by omega), zu_row (by omega), zu_row (by omega), zu_row (by omega), zu_row (by omega)]
    have e5 : v1 15 5 = 64 ∧ v1 15 7 = 0 := by
      rw [e1]
      simp [dSA, zu]
    have sm : sameM v v1 := ⟨fun k k1 k2 => rw1 k (by omega) (by omega) (by omega) (by omega), rw1 63 (by omega) (by omega) (by omega) (by omega), by rw [rw1 48 (by omega) (by omega) (by omega) (by omega)], by rw [rw1 48 (by omega) (by omega) (by omega) (by omega)]⟩
    have hA1 := sM_rA sm hA
    have e48 := rw1 48 (by omega) (by omega) (by omega) (by omega)
    have hz1 : v1 48 2 < 3 → v1 56 (v1 48 2) = 0 := by
      rw [e48, rw1 56 (by omega) (by omega) (by omega) (by omega), ← en]
      exact hz0
    refine ⟨zi n, v1, w, R, c, fun t => ?_⟩
    replace h := INV_y h t
    obtain ⟨w', ew⟩ : ∃ w', w' = zu w 69 0 t := ⟨_, rfl⟩
    rw [← ew] at h ⊢
    have e69 : w' 69 0 = t := by
      rw [ew]
      exact zu_e rfl
    have m := (n_unit xs sh v1 w' R h.1.2 hA1 hz1 l hh u d r r1 r2 r3 r4 r5).2.2 ok
    have hA2 := rA_vUn hA1 hz1 (by rw [e48, ← en]; exact q) ok
    rw [e48, ← en] at m
    obtain ⟨v2, w2, m1, m2, m3⟩ := m q
    have hA3 : rA (zu (vUn v1 l hh u d r) 48 18 64) := sM_rA (sM_zu (sM_rf _) (by omega)) hA2
    obtain ⟨y, ey⟩ : ∃ y, y = zu (vUn v1 l hh u d r) 48 18 64 := ⟨_, rfl⟩
    have y1 : ∀ k, k ≠ 48 → k ≠ 49 → k ≠ 50 → k ≠ 51 → k ≠ 52 → k ≠ 53 → k ≠ 57 → y k = v1 k := fun k k1 k2 k3 k4 k5 k6 k7 => by
      rw [ey]
      unfold vUn
      rw [zu_row k1, zu_row k1, zu_row k7, zu_row k6, zu_row k5, zu_row k4, zu_row k3, zu_row k2, zu_row k1]
    have y48 : ∀ j, j ≠ 0 → j ≠ 2 → j ≠ 18 → y 48 j = v 48 j := fun j j1 j2 j3 => by
      rw [ey]
      unfold vUn
      rw [zu_j j3, zu_j j2, zu_a (by decide), zu_a (by decide), zu_a (by decide), zu_a (by decide), zu_a (by decide), zu_a (by decide), zu_j j1, e48]
    have y2 : y 48 2 = n + 1 := by
      rw [ey]
      unfold vUn
      rw [zu_j (by decide), zu_e rfl, e48, ← en]
    have y18 : y 48 18 = 64 := by
      rw [ey]
      exact zu_e rfl
    have y49 : (∀ j, y 49 j = if j = n then l else v 49 j) ∧ (∀ j, y 50 j = if j = n then hh else v 50 j) ∧ (∀ j, y 51 j = if j = n then u else v 51 j) ∧ (∀ j, y 52 j = if j = n then d else v 52 j) ∧ (∀ j, y 53 j = if j = n then r else v 53 j) ∧ (∀ j, y 57 j = if j = n then 3 else v 57 j) := by
      have f1 := rw1 49 (by omega) (by omega) (by omega) (by omega)
      have f2 := rw1 50 (by omega) (by omega) (by omega) (by omega)
      have f3 := rw1 51 (by omega) (by omega) (by omega) (by omega)
      have f4 := rw1 52 (by omega) (by omega) (by omega) (by omega)
      have f5 := rw1 53 (by omega) (by omega) (by omega) (by omega)
      have f6 := rw1 57 (by omega) (by omega) (by omega) (by omega)
      refine ⟨fun j => ?_, fun j => ?_, fun j => ?_, fun j => ?_, fun j => ?_, fun j => ?_⟩ <;> simp [ey, vUn, zu, e48, ← en, f1, f2, f3, f4, f5, f6]
    have ya : ∀ j, y a j = if j = 4 then r else if j = 3 then d else if j = 2 then u else if j = 1 then hh else if j = 0 then l else v a j := fun j => by
      rw [y1 a (by omega) (by omega) (by omega) (by omega) (by omega) (by omega) (by omega), rwa]
      simp [zu]
    have yr : ∀ k, 16 ≤ k → k ≠ 32 → k ≠ 48 → k ≠ 49 → k ≠ 50 → k ≠ 51 → k ≠ 52 → k ≠ 53 → k ≠ 57 → k ≠ a → k ≠ a + 3 → y k = v k := fun k k1 k2 k3 k4 k5 k6 k7 k8 k9 k10 k11 => by
      rw [y1 k k3 k4 k5 k6 k7 k8 k9, rw1 k (by omega) k2 k10 k11]
    have un : ∀ i, 0 ≤ i → i < 3 → i ≠ n → y (uc i) = v (uc i) ∧ y (uc i + 1) = v (uc i + 1) ∧ y (uc i + 2) = v (uc i + 2) ∧ y (uc i + 3) = v (uc i + 3) := fun i i1 i2 i3 => by
      have d : uc i = 36 + 4 * i.toNat := rfl
      exact ⟨yr _ (by omega) (by omega) (by omega) (by omega) (by omega) (by omega) (by omega) (by omega) (by omega) (by omega) (by omega), yr _ (by omega) (by omega) (by omega) (by omega) (by omega) (by omega) (by omega) (by omega) (by omega) (by omega) (by omega), yr _ (by omega) (by omega) (by omega) (by omega) (by omega) (by omega) (by omega) (by omega) (by omega) (by omega) (by omega), yr _ (by omega) (by omega) (by omega) (by omega) (by omega) (by omega) (by omega) (by omega) (by omega) (by omega) (by omega)⟩
    have yl : ∀ k, (16 ≤ k ∧ k ≤ 35 ∧ k ≠ 32) ∨ (58 ≤ k ∧ k ≤ 63) ∨ (54 ≤ k ∧ k ≤ 56) → y k = v k := fun k k1 => yr k (by omega) (by omega) (by omega) (by omega) (by omega) (by omega) (by omega) (by omega) (by omega) (by omega) (by omega)
    obtain ⟨f1, f2, f3, f4, f5, f6⟩ := y49
    obtain ⟨g1, g2, g3, g4, g5⟩ := hz n (by omega) (by omega) q
    rw [← ea] at g4 g5
    obtain ⟨p1, p2⟩ := hr.2.2.2.2.1 n (by omega) q
    rw [← ea] at p1 p2
    have ya1 : y (a + 1) = v (a + 1) := yr _ (by omega) (by omega) (by omega) (by omega) (by omega) (by omega) (by omega) (by omega) (by omega) (by omega) (by omega)
    have ya2 : y (a + 2) = v (a + 2) := yr _ (by omega) (by omega) (by omega) (by omega) (by omega) (by omega) (by omega) (by omega) (by omega) (by omega) (by omega)
    have ya3 : ∀ s c, 0 ≤ s → s < 15 → 0 ≤ c → c < 5 → y (a + 3) (s * 5 + c) = znx l hh u d r s c := fun s c s1 s2 c1 c2 => by
      rw [y1 (a + 3) (by omega) (by omega) (by omega) (by omega) (by omega) (by omega) (by omega), rw3 _ (by omega) (by omega), show (s * 5 + c) / 5 = s by omega, show (s * 5 + c) % 5 = c by omega]
      simp [dX, zu]
    obtain ⟨k1, k2, k3, k4, k5, k6⟩ := id ok
    rw [← ey] at hA3
    have fin : INV sh y (zu w' 48 19 (bnd y)) R := by
      refine INV_B h hA3 ⟨?_, fun k k1 k2 => ?_, fun j j1 j2 => ?_, fun i i1 i2 => ?_, fun i i1 i2 => ?_, fun i i1 i2 => ?_⟩ (fun i i1 i2 => ?_) ?_ ?_ (fun i i1 i2 i3 => ?_) (fun k k1 k2 => ?_) ?_ ?_ y18
      · rw [y1 32 (by decide) (by decide) (by decide) (by decide) (by decide) (by decide) (by decide), y2, y48 1 (by decide) (by decide) (by decide)]
        exact ⟨r32.2.trans z1, r32.1⟩
      · rw [yl 34 (by omega), yl 35 (by omega), yl 58 (by omega), yl 59 (by omega), yl 16 (by omega), yl 63 (by omega)]
        exact hr.2.1 k k1 k2
      · rw [yl 25 (by omega), yl 60 (by omega), y2]
        exact ⟨(hr.2.2.1 j j1 j2).1, fun z => (hr.2.2.1 j j1 j2).2 (by omega)⟩
      · rw [y2] at i2
        by_cases z : i = n
        · subst z
          unfold RU
          rw [← ea, ya1, ya2, yl 54 (by omega), yl 55 (by omega), yl 56 (by omega), f1, f2, f3, f4, f5, f6, ya, ya, ya, ya, ya, ya, ya]
          refine ⟨?_, p2, fun c c1 c2 => ?_, fun s s1 s2 => ?_⟩
          · simp [p1, g1]
          · have t := g2 (c - 1) (by omega) (by omega)
            rw [g4 c (by omega) c2, ← t]
            congr 1
            omega
          · rw [g5 s s1 s2, g3 s s1 s2]
        · obtain ⟨b0, b1, b2, b3⟩ := un i i1 (by omega) z
          unfold RU
          rw [b0, b1, b2, yl 54 (by omega), yl 55 (by omega), yl 56 (by omega), f1, f2, f3, f4, f5, f6, if_neg z, if_neg z, if_neg z, if_neg z, if_neg z, if_neg z]
          exact hr.2.2.2.1 i i1 (by omega)
      · rw [y2] at i1
        obtain ⟨b0, b1, b2, b3⟩ := un i (by omega) i2 (by omega)
        unfold RN
        rw [b0, b1]
        exact hr.2.2.2.2.1 i (by omega) i2
      · by_cases z : i = n
        · subst z
          intro s c s1 s2 c1 c2
          rw [← ea, ya3 s c s1 s2 c1 c2]
          unfold dX
          rw [ya, ya, ya, ya, ya]
          simp
        · obtain ⟨b0, b1, b2, b3⟩ := un i i1 i2 z
          unfold RX dX
          rw [b0, b3]
          exact hr.2.2.2.2.2 i i1 i2
      · by_cases z : i = n
        · subst z
          obtain ⟨o1, o2, o3, o4⟩ := hO i i1 i2
          rw [← ea] at o1 o2 o3 o4 ⊢
          refine ⟨fun s c s1 s2 c1 c2 => ?_, ?_, ?_, ?_⟩
          · rw [ya3 s c s1 s2 c1 c2]
            exact znx_rng k4 ⟨s1, s2⟩ ⟨c1, c2⟩
          · rw [ya1]
            exact o2
          · rw [ya2]
            exact o3
          · rw [ya]
            simpa using k1
        · obtain ⟨b0, b1, b2, b3⟩ := un i i1 i2 z
          unfold dO
          rw [b0, b1, b2, b3]
          exact hO i i1 i2
      · rw [yl 16 (by omega), yl 63 (by omega)]
        exact h.2.2.2.1.1.1
      · rw [yl 25 (by omega), yl 60 (by omega)]
        exact h.2.2.2.1.1.2
      · rw [y2] at i2
        obtain ⟨b0, b1, b2, b3⟩ := un i i1 i3 (by omega)
        rw [b1, b2, yl 54 (by omega), yl 55 (by omega), yl 56 (by omega)]
        exact hz i i1 (by omega) i3
      · obtain ⟨x1, x2, x3⟩ := hk k k1 k2
        rw [yl 31 (by omega), yl 62 (by omega), yl 61 (by omega), y2, yl (27 + k.toNat) (by omega)]
        exact ⟨x1, x2, fun j j1 j2 => ⟨(x3 j j1 j2).1, (x3 j j1 j2).2.1, fun t => (x3 j j1 j2).2.2 (by omega)⟩⟩
      · rw [y1 15 (by decide) (by decide) (by decide) (by decide) (by decide) (by decide) (by decide)]
        exact e5.1
      · rw [y1 15 (by decide) (by decide) (by decide) (by decide) (by decide) (by decide) (by decide)]
        exact e5.2
    rw [ey] at fin
    refine ⟨v2, w2, m3, ?_, by rw [m2 69 (by decide) (by decide), zu_a (by decide)]; exact e69, INV_A fin m1 m2⟩
    rw [m1 48 (by decide), zu_j (by decide)]
    simp [vUn, zu]
  · have m := (n_unit xs sh v w R h.1.2 hA hz0 l hh u d r r1 r2 r3 r4 r5).2.1 ok (by omega)
    exact ⟨_, zu v 48 0 2, w, m, zu_e rfl, INV_0 h 2⟩
  · have m := (n_unit xs sh v w R h.1.2 hA hz0 l hh u d r r1 r2 r3 r4 r5).1 ok
    exact ⟨_, zu v 48 0 1, w, m, zu_e rfl, INV_0 h 1⟩
end
