/-! The calls one by one: those that leave the market alone. -/
theorem rR_A {v v' : Nat → Int → Int} (s : rR v v') (h : rA v) : rA v' := sM_rA (rR_M s) h
section
variable {sh : List q_Sh} {v w : Nat → Int → Int} {R : Nat → Nat → Option Nat}
theorem st_verify (xs : List Int32) (h : INV sh v w R) : stepI xs sh v w R kDesk_verify [.ref 0] kMod_verify [.ref 48] := by
  have hA := h.2.2.1.1
  refine ⟨zi (pVer v), v, w, R, zu v 48 0 0, w, fun Q => ?_, fun Q => n_verify xs sh v w R h.1.2 hA.1 hA.2.2.2.2.2 hA.2.2.2.1 hA.2.2.2.2.1 Q, INV_0 h 0⟩
  rw [d_verify xs sh v w R h.1.1 (I_dN h) (I_dT h) (I_dUs h) (I_dD h) Q, eqVer h]
theorem st_count (xs : List Int32) (h : INV sh v w R) (what : Int) (r1 : -2147483648 ≤ what ∧ what < 2147483648) : stepI xs sh v w R kDesk_count [.ref 0, .int (zi what)] kMod_count [.ref 48, .int (zi what)] := by
  have hA := h.2.2.1.1
  have hk := h.2.2.2.1.2.2
  refine ⟨zi (pCn v what), v, w, R, zu v 48 0 0, w, fun Q => ?_, fun Q => n_count xs sh v w R h.1.2 (fun k k1 k2 => (hk k k1 k2).2.1) hA what r1 Q, INV_0 h 0⟩
  rw [d_count xs sh v w R h.1.1 (I_dN h) (fun k k1 k2 => by rw [(hk k k1 k2).1]; exact (hk k k1 k2).2.1) what r1 Q, eqCn h]
theorem st_set (xs : List Int32) (h : INV sh v w R) (u k x : Int) (r1 : -2147483648 ≤ u ∧ u < 2147483648) (r2 : -2147483648 ≤ k ∧ k < 2147483648) (r3 : -2147483648 ≤ x ∧ x < 2147483648) : stepI xs sh v w R kDesk_set [.ref 0, .int (zi u), .int (zi k), .int (zi x)] kMod_set [.ref 48, .int (zi u), .int (zi k), .int (zi x)] := by
  have hA := h.2.2.1.1
  have hr := h.2.2.1.2.1
  have n1 := (I_dN h).1
  have n2 := (I_dN h).2
  have et := h.2.2.2.1.1.2
  have z1 := hr.1.1
  have z2 := hr.1.2
  have hv1 : rR v (zu v 25 (8 * u + k) x) := fun b hb => zu_row (by omega)
  have c := fun Q => d_set xs sh v w R h.1.1 (I_dN h) u k x r1 r2 r3 Q
  rw [z1, z2] at c
  by_cases q : (0 ≤ u ∧ u < v 48 2) ∧ (0 ≤ k ∧ k < v 48 1) ∧ (0 ≤ x ∧ x ≤ 63)
  · have m := fun Q => n_set xs sh (zu v 25 (8 * u + k) x) w R h.1.2 (rR_A hv1 hA) u k x r1 r2 r3 Q
    rw [hv1 48 (by decide)] at m
    simp only [if_pos q] at c m
    refine ⟨zi 1, _, w, R, _, w, c, m, INV_tab h (fun b b1 b2 b3 b4 b5 b6 b7 => ?_) (fun j j1 j2 => ?_) ?_ (fun j j1 j2 => ?_) (fun b _ _ _ => rfl) h.1.1 h.1.2 h.2.1.1 h.2.1.2⟩
    · rw [zu_row b4, zu_row b3, zu_row b2]
    · rw [zu_a (by decide), zu_j j1, zu_a (by decide)]
    · funext j
      rw [zu_a (by decide), zu_a (by decide)]
      by_cases z : j = 8 * u + k
      · rw [zu_e z, zu_e z]
      · rw [zu_j z, zu_j z, zu_a (by decide), zu_a (by decide), et]
    · have o := hr.2.2.1 j j1 j2
      have o2 := hA.2.2.2.2.2 j j1 j2
      by_cases z : j = 8 * u + k
      · rw [zu_e z]
        exact ⟨q.2.2, fun y => by omega⟩
      · rw [zu_j z, zu_a (by decide), zu_a (by decide)]
        exact ⟨o2, o.2⟩
  · have m := fun Q => n_set xs sh v w R h.1.2 hA u k x r1 r2 r3 Q
    simp only [if_neg q] at c m
    exact ⟨zi 0, v, w, R, zu v 48 0 0, w, c, m, INV_0 h 0⟩
theorem st_output (xs : List Int32) (h : INV sh v w R) (u k : Int) (r1 : -2147483648 ≤ u ∧ u < 2147483648) (r2 : -2147483648 ≤ k ∧ k < 2147483648) : if (0 ≤ u ∧ u < v 48 2) ∧ (0 ≤ k ∧ k < v 48 1) then stepO xs sh v w R kDesk_output [.ref 0, .int (zi u), .int (zi k)] kMod_output [.ref 48, .int (zi u), .int (zi k)] else stepT xs sh v w R kMod_output [.ref 48, .int (zi u), .int (zi k)] 1 := by
  have hA := h.2.2.1.1
  have hr := h.2.2.1.2.1
  have z1 := hr.1.1
  have z2 := hr.1.2
  have et := h.2.2.2.1.1.2
  have m := fun Q => n_output xs sh v w R h.1.2 hA u k r1 r2 Q
  have my := fun t Q => n_output xs sh v (zu w 69 0 t) R h.1.2 hA u k r1 r2 Q
  by_cases q : (0 ≤ u ∧ u < v 48 2) ∧ (0 ≤ k ∧ k < v 48 1)
  · rw [if_pos q]
    simp only [if_pos q] at my
    refine ⟨zi (v 60 (8 * u + k)), v, w, R, fun Q => ?_, fun t => ⟨zu v 48 0 0, zu w 69 0 t, my t, zu_e rfl, zu_e rfl, INV_y (INV_0 h 0) t⟩⟩
    rw [d_output xs sh v w R h.1.1 (I_dN h) u k (by omega) (by omega) Q, et]
  · rw [if_neg q]
    simp only [if_neg q] at m
    exact ⟨_, zu v 48 0 1, w, m, zu_e rfl, INV_0 h 1⟩
theorem st_priceOf (xs : List Int32) (h : INV sh v w R) (k : Int) (r1 : -2147483648 ≤ k ∧ k < 2147483648) : if 0 ≤ k ∧ k < v 48 1 then stepO xs sh v w R kDesk_priceOf [.ref 0, .int (zi k)] kMod_priceOf [.ref 48, .int (zi k)] else stepT xs sh v w R kMod_priceOf [.ref 48, .int (zi k)] 1 := by
  have hA := h.2.2.1.1
  have hr := h.2.2.1.2.1
  have z1 := hr.1.1
  have et := h.2.2.2.1.1.1
  have m := fun Q => n_priceOf xs sh v w R h.1.2 hA k r1 Q
  have my := fun t Q => n_priceOf xs sh v (zu w 69 0 t) R h.1.2 hA k r1 Q
  by_cases q : 0 ≤ k ∧ k < v 48 1
  · rw [if_pos q]
    simp only [if_pos q] at my
    refine ⟨zi (v 63 k), v, w, R, fun Q => ?_, fun t => ⟨zu v 48 0 0, zu w 69 0 t, my t, zu_e rfl, zu_e rfl, INV_y (INV_0 h 0) t⟩⟩
    rw [d_priceOf xs sh v w R h.1.1 (I_dN h) k (by omega) Q, et]
  · rw [if_neg q]
    simp only [if_neg q] at m
    exact ⟨_, zu v 48 0 1, w, m, zu_e rfl, INV_0 h 1⟩
theorem st_cost (xs : List Int32) (h : INV sh v w R) (what : Int) (r1 : -2147483648 ≤ what ∧ what < 2147483648) : if 0 ≤ what ∧ what ≤ 2 then (if dVer v = 0 then stepO xs sh v w R kDesk_cost [.ref 0, .int (zi what)] kMod_cost [.ref 48, .int (zi what)] else stepT xs sh v w R kMod_cost [.ref 48, .int (zi what)] 2) else stepT xs sh v w R kMod_cost [.ref 48, .int (zi what)] 1 := by
  have hA := h.2.2.1.1
  have m := fun Q => n_cost xs sh v w R h.1.2 what r1 hA.1 hA.2.2.2.2.2 hA.2.2.2.1 hA.2.2.2.2.1 hA.2.2.1 Q
  have my := fun t Q => n_cost xs sh v (zu w 69 0 t) R h.1.2 what r1 hA.1 hA.2.2.2.2.2 hA.2.2.2.1 hA.2.2.2.2.1 hA.2.2.1 Q
  by_cases q : 0 ≤ what ∧ what ≤ 2
  · rw [if_pos q]
    by_cases q2 : dVer v = 0
    · rw [if_pos q2]
      have ec : pCT v what = 0 := by
        unfold pCT
        rw [if_pos q, if_pos ((eqVer h).symm.trans q2)]
      simp only [ec, if_true] at my
      refine ⟨zi (pCo v what), v, w, R, fun Q => ?_, fun t => ⟨zu v 48 0 0, zu w 69 0 t, my t, zu_e rfl, zu_e rfl, INV_y (INV_0 h 0) t⟩⟩
      rw [d_costD xs sh v w R h.1.1 (I_dN h) (I_dT h) (I_dUs h) (I_dD h) what q q2 Q, eqCo h q2 what q]
    · rw [if_neg q2]
      have ec : pCT v what = 2 := by
        unfold pCT
        rw [if_pos q, if_neg (fun z => q2 ((eqVer h).trans z))]
      rw [ec] at m
      exact ⟨_, zu v 48 0 2, w, m, zu_e rfl, INV_0 h 2⟩
  · rw [if_neg q]
    have ec : pCT v what = 1 := by
      unfold pCT
      rw [if_neg q]
    rw [ec] at m
    exact ⟨_, zu v 48 0 1, w, m, zu_e rfl, INV_0 h 1⟩
end
