/-! keep, take, plan, redispatch. -/
/-- the rows that all but the kept tables stand on -/
def sG (v v' : Nat → Int → Int) : Prop := (∀ b, (15 ≤ b ∧ b ≤ 26) ∨ (32 ≤ b ∧ b ≤ 47) ∨ (49 ≤ b ∧ b ≤ 60) ∨ b = 63 → v' b = v b) ∧ ∀ j, j ≠ 0 → j ≠ 24 → v' 48 j = v 48 j
section
variable {sh : List q_Sh} {v w : Nat → Int → Int} {R : Nat → Nat → Option Nat}
theorem sG_RR {v' : Nat → Int → Int} (s : sG v v') (hn : v 48 2 ≤ 3) (h : RR v) : RR v' := by
  obtain ⟨a1, a2, a3, a4, a5, a6⟩ := h
  have un : ∀ u, u < 3 → v' (uc u) = v (uc u) ∧ v' (uc u + 1) = v (uc u + 1) ∧ v' (uc u + 2) = v (uc u + 2) ∧ v' (uc u + 3) = v (uc u + 3) := fun u u2 => by
    have r : 36 ≤ uc u ∧ uc u ≤ 44 := by unfold uc; omega
    exact ⟨s.1 _ (by omega), s.1 _ (by omega), s.1 _ (by omega), s.1 _ (by omega)⟩
  refine ⟨?_, fun h h1 h2 => ?_, fun j j1 j2 => ?_, fun u u1 u2 => ?_, fun u u1 u2 => ?_, fun u u1 u2 => ?_⟩
  · rw [s.1 32 (by decide), s.2 1 (by decide) (by decide), s.2 2 (by decide) (by decide)]
    exact a1
  · rw [s.1 34 (by decide), s.1 35 (by decide), s.1 58 (by decide), s.1 59 (by decide), s.1 16 (by decide), s.1 63 (by decide)]
    exact a2 h h1 h2
  · rw [s.1 25 (by decide), s.1 60 (by decide), s.2 2 (by decide) (by decide)]
    exact a3 j j1 j2
  · rw [s.2 2 (by decide) (by decide)] at u2
    obtain ⟨e0, e1, e2, e3⟩ := un u (by omega)
    unfold RU
    rw [e0, e1, e2, s.1 49 (by decide), s.1 50 (by decide), s.1 51 (by decide), s.1 52 (by decide), s.1 53 (by decide), s.1 54 (by decide), s.1 55 (by decide), s.1 56 (by decide), s.1 57 (by decide)]
    exact a4 u u1 u2
  · rw [s.2 2 (by decide) (by decide)] at u1
    obtain ⟨e0, e1, e2, e3⟩ := un u u2
    unfold RN
    rw [e0, e1]
    exact a5 u u1 u2
  · obtain ⟨e0, e1, e2, e3⟩ := un u u2
    unfold RX dX
    rw [e0, e3]
    exact a6 u u1 u2
theorem INV_K {v' : Nat → Int → Int} (h : INV sh v w R) (s : sG v v') (hK : KP v') : INV sh v' w R := by
  have hN := I_dN h
  have n2 := hN.2
  obtain ⟨q1, q2, ⟨hA, hr, hO⟩, ⟨⟨e1, e1'⟩, e2, e3⟩, ⟨e4, e5, e6⟩, e7, e8⟩ := h
  have sm : sameM v v' := ⟨fun a h1 h2 => s.1 a (by omega), s.1 63 (by decide), s.2 1 (by decide) (by decide), s.2 2 (by decide) (by decide)⟩
  refine ⟨q1, q2, ⟨sM_rA sm hA, sG_RR s (by have := hr.1.2; omega) hr, fun u h1 h2 => ?_⟩, ⟨⟨by rw [s.1 16 (by decide), s.1 63 (by decide)]; exact e1, by rw [s.1 25 (by decide), s.1 60 (by decide)]; exact e1'⟩, HZ_cg e2 (s.2 2 (by decide) (by decide)) (s.1 54 (by decide)) (s.1 55 (by decide)) (s.1 56 (by decide)) (fun b b1 b2 => s.1 b (by omega)), hK⟩, ?_, e7, ?_⟩
  · have r := uc_rng ⟨h1, h2⟩
    unfold dO
    rw [s.1 (uc u) (by omega), s.1 (uc u + 1) (by omega), s.1 (uc u + 2) (by omega), s.1 (uc u + 3) (by omega)]
    exact hO u h1 h2
  · rw [s.1 15 (by decide), s.2 18 (by decide) (by decide)]
    exact ⟨e4, e5, e6⟩
  · unfold ST
    rw [s.1 15 (by decide), s.2 18 (by decide) (by decide), sM_bnd sm]
    rcases e8 with q | q
    · exact Or.inl q
    · refine Or.inr ⟨q.1, fun u u1 u2 => ?_, q.2.2⟩
      rw [s.1 32 (by decide)] at u2 ⊢
      have r := uc_rng (u := u) ⟨u1, by omega⟩
      obtain ⟨cs, g1, g2⟩ := q.2.1 u u1 u2
      have e0 := s.1 (uc u) (by omega)
      have e1 := s.1 (uc u + 1) (by omega)
      have e2 := s.1 (uc u + 2) (by omega)
      have e3 := s.1 (uc u + 3) (by omega)
      have t1 : dpT v' (uc u) = dpT v (uc u) := by
        funext a b c
        simp only [dpT, lcs, cstp, e0, e1, e2, e3, s.1 16 (by decide)]
      refine ⟨cs, by rw [t1, dF_row e0]; exact g1, fun k k1 k2 => ?_⟩
      rw [s.1 18 (by decide), e0]
      exact g2 k k1 k2
theorem st_keep (xs : List Int32) (h : INV sh v w R) (p : Int) (r1 : -2147483648 ≤ p ∧ p < 2147483648) : stepI xs sh v w R kDesk_keep [.ref 0, .int (zi p)] kMod_keep [.ref 48, .int (zi p)] := by
  have hA := h.2.2.1.1
  have hr := h.2.2.1.2.1
  have et := h.2.2.2.1.1.2
  have hk := h.2.2.2.1.2.2
  have c := fun Q => d_keep xs sh v w R h.1.1 p r1 Q
  by_cases q : 0 ≤ p ∧ p ≤ 3
  · have m := fun Q => n_keep xs sh (zu (zcp v (27 + p.toNat) 0 25 0 24) 31 p 1) w R h.1.2 p r1 Q
    simp only [if_pos q] at c m
    refine ⟨zi 1, _, w, R, _, w, c, m, INV_K h ⟨fun b hb => ?_, fun j j1 j2 => ?_⟩ (fun k k1 k2 => ?_)⟩
    · rw [zcp_row (by omega), zu_row (by omega), zu_row (by omega), zu_row (by omega), zcp_row (by omega)]
    · rw [zcp_row (by decide), zu_a (by decide), zu_j j1, zu_a (by decide), zcp_row (by omega)]
    · obtain ⟨o1, o2, o3⟩ := hk k k1 k2
      have e31 : zcp (zu (zu (zu (zcp v (27 + p.toNat) 0 25 0 24) 31 p 1) 48 0 0) 62 p 1) 61 (24 * p) 60 0 24 31 k = (if k = p then 1 else v 31 k) := by
        rw [zcp_row (by decide), zu_a (by decide), zu_a (by decide)]
        by_cases z : k = p
        · rw [zu_e z, if_pos z]
        · rw [zu_j z, if_neg z, zcp_row (by omega)]
      have e62 : zcp (zu (zu (zu (zcp v (27 + p.toNat) 0 25 0 24) 31 p 1) 48 0 0) 62 p 1) 61 (24 * p) 60 0 24 62 k = (if k = p then 1 else v 62 k) := by
        rw [zcp_row (by decide)]
        by_cases z : k = p
        · rw [zu_e z, if_pos z]
        · rw [zu_j z, if_neg z, zu_a (by decide), zu_a (by decide), zcp_row (by omega)]
      have e48 : zcp (zu (zu (zu (zcp v (27 + p.toNat) 0 25 0 24) 31 p 1) 48 0 0) 62 p 1) 61 (24 * p) 60 0 24 48 2 = v 48 2 := by
        rw [zcp_row (by decide), zu_a (by decide), zu_j (by decide), zu_a (by decide), zcp_row (by omega)]
      have e61 : ∀ j, 0 ≤ j → j < 24 → zcp (zu (zu (zu (zcp v (27 + p.toNat) 0 25 0 24) 31 p 1) 48 0 0) 62 p 1) 61 (24 * p) 60 0 24 61 (24 * k + j) = (if k = p then v 60 j else v 61 (24 * k + j)) := fun j j1 j2 => by
        by_cases z : k = p
        · subst z
          rw [if_pos rfl]
          show (if (61 : Nat) = 61 ∧ 24 * k ≤ 24 * k + j ∧ 24 * k + j < 24 * k + 24 then _ else _) = _
          rw [if_pos ⟨rfl, by omega, by omega⟩, zu_a (by decide), zu_a (by decide), zu_a (by decide), zcp_row (by omega), show 0 + (24 * k + j - 24 * k) = j by omega]
        · rw [if_neg z]
          show (if (61 : Nat) = 61 ∧ 24 * p ≤ 24 * k + j ∧ 24 * k + j < 24 * p + 24 then _ else _) = _
          rw [if_neg (by omega), zu_a (by decide), zu_a (by decide), zu_a (by decide), zcp_row (by omega)]
      have e27 : ∀ j, 0 ≤ j → j < 24 → zcp (zu (zu (zu (zcp v (27 + p.toNat) 0 25 0 24) 31 p 1) 48 0 0) 62 p 1) 61 (24 * p) 60 0 24 (27 + k.toNat) j = (if k = p then v 25 j else v (27 + k.toNat) j) := fun j j1 j2 => by
        rw [zcp_row (by omega), zu_a (by omega), zu_a (by omega), zu_a (by omega)]
        by_cases z : k = p
        · subst z
          rw [if_pos rfl]
          show (if 27 + k.toNat = 27 + k.toNat ∧ 0 ≤ j ∧ j < 0 + 24 then _ else _) = _
          rw [if_pos ⟨rfl, j1, by omega⟩, show 0 + (j - 0) = j by omega]
        · rw [if_neg z]
          rw [zcp_row (by omega)]
      rw [e31, e62, e48]
      by_cases z : k = p
      · rw [if_pos z, if_pos z]
        refine ⟨rfl, by omega, fun j j1 j2 => ?_⟩
        rw [e27 j j1 j2, e61 j j1 j2, if_pos z, if_pos z]
        exact ⟨by rw [et], hA.2.2.2.2.2 j j1 j2, (hr.2.2.1 j j1 j2).2⟩
      · rw [if_neg z, if_neg z]
        refine ⟨o1, o2, fun j j1 j2 => ?_⟩
        rw [e27 j j1 j2, e61 j j1 j2, if_neg z, if_neg z]
        exact o3 j j1 j2
  · have m := fun Q => n_keep xs sh v w R h.1.2 p r1 Q
    simp only [if_neg q] at c m
    exact ⟨zi 0, v, w, R, zu v 48 0 0, w, c, m, INV_0 h 0⟩
theorem st_take (xs : List Int32) (h : INV sh v w R) (p : Int) (r1 : -2147483648 ≤ p ∧ p < 2147483648) : stepI xs sh v w R kDesk_take [.ref 0, .int (zi p)] kMod_take [.ref 48, .int (zi p)] := by
  have hA := h.2.2.1.1
  have hr := h.2.2.1.2.1
  have et := h.2.2.2.1.1.2
  have hk := h.2.2.2.1.2.2
  have c := fun Q => d_take xs sh v w R h.1.1 (fun k k1 k2 => by rw [(hk k k1 k2).1]; exact (hk k k1 k2).2.1) p r1 Q
  by_cases q : (0 ≤ p ∧ p ≤ 3) ∧ v 62 p ≠ 0
  · obtain ⟨o1, o2, o3⟩ := hk p q.1.1 (by omega)
    have q' : (0 ≤ p ∧ p ≤ 3) ∧ v 31 p ≠ 0 := ⟨q.1, by rw [o1]; exact q.2⟩
    have hv1 : ∀ b, b ≠ 25 → zcp v 25 0 (27 + p.toNat) 0 24 b = v b := fun b hb => zcp_row hb
    have m := fun Q => n_take xs sh (zcp v 25 0 (27 + p.toNat) 0 24) w R h.1.2 (fun k k1 k2 => by rw [hv1 62 (by decide)]; exact (hk k k1 k2).2.1) p r1 Q
    rw [hv1 62 (by decide)] at m
    simp only [if_pos q] at m
    simp only [if_pos q'] at c
    have e60 : ∀ j, zcp (zu (zcp v 25 0 (27 + p.toNat) 0 24) 48 0 0) 60 0 61 (24 * p) 24 60 j = (if 0 ≤ j ∧ j < 24 then v 61 (24 * p + j) else v 60 j) := fun j => by
      by_cases z : 0 ≤ j ∧ j < 24
      · rw [if_pos z]
        show (if (60 : Nat) = 60 ∧ 0 ≤ j ∧ j < 0 + 24 then _ else _) = _
        rw [if_pos ⟨rfl, z.1, by omega⟩, zu_a (by decide), hv1 61 (by decide), show 24 * p + (j - 0) = 24 * p + j by omega]
      · rw [if_neg z]
        show (if (60 : Nat) = 60 ∧ 0 ≤ j ∧ j < 0 + 24 then _ else _) = _
        rw [if_neg (by omega), zu_a (by decide), hv1 60 (by decide)]
    have e25 : ∀ j, zcp (zu (zcp v 25 0 (27 + p.toNat) 0 24) 48 0 0) 60 0 61 (24 * p) 24 25 j = (if 0 ≤ j ∧ j < 24 then v (27 + p.toNat) j else v 25 j) := fun j => by
      rw [zcp_row (by decide), zu_a (by decide)]
      by_cases z : 0 ≤ j ∧ j < 24
      · rw [if_pos z]
        show (if (25 : Nat) = 25 ∧ 0 ≤ j ∧ j < 0 + 24 then _ else _) = _
        rw [if_pos ⟨rfl, z.1, by omega⟩, show 0 + (j - 0) = j by omega]
      · rw [if_neg z]
        show (if (25 : Nat) = 25 ∧ 0 ≤ j ∧ j < 0 + 24 then _ else _) = _
        rw [if_neg (by omega)]
    refine ⟨zi 1, _, w, R, _, w, c, m, INV_tab h (fun b b1 b2 b3 b4 b5 b6 b7 => ?_) (fun j j1 j2 => ?_) ?_ (fun j j1 j2 => ?_) (fun b _ _ _ => rfl) h.1.1 h.1.2 h.2.1.1 h.2.1.2⟩
    · rw [zcp_row b4, zu_row b3, hv1 b b2]
    · rw [zcp_row (by decide), zu_j j1, hv1 48 (by decide)]
    · funext j
      rw [e60, e25]
      by_cases z : 0 ≤ j ∧ j < 24
      · rw [if_pos z, if_pos z, (o3 j z.1 z.2).1]
      · rw [if_neg z, if_neg z, et]
    · rw [e60, if_pos ⟨j1, j2⟩]
      exact (o3 j j1 j2).2
  · have q' : ¬ ((0 ≤ p ∧ p ≤ 3) ∧ v 31 p ≠ 0) := fun z => q ⟨z.1, by rw [← (hk p z.1.1 (by omega)).1]; exact z.2⟩
    have m := fun Q => n_take xs sh v w R h.1.2 (fun k k1 k2 => (hk k k1 k2).2.1) p r1 Q
    simp only [if_neg q] at m
    simp only [if_neg q'] at c
    exact ⟨zi 0, v, w, R, zu v 48 0 0, w, c, m, INV_0 h 0⟩
end
