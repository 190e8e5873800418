/-! What holds between two calls: the class stands as the reference. -/
def KP (v : Nat → Int → Int) : Prop := ∀ k, 0 ≤ k → k < 4 → v 31 k = v 62 k ∧ (0 ≤ v 62 k ∧ v 62 k ≤ 1) ∧ ∀ j, 0 ≤ j → j < 24 → v (27 + k.toNat) j = v 61 (24 * k + j) ∧ (0 ≤ v 61 (24 * k + j) ∧ v 61 (24 * k + j) ≤ 63) ∧ (v 48 2 ≤ j / 8 → v 61 (24 * k + j) = 0)
def HZ (v : Nat → Int → Int) : Prop := ∀ u, 0 ≤ u → v 48 2 ≤ u → u < 3 → v 56 u = 0 ∧ (∀ j, 0 ≤ j → j < 4 → v 54 (4 * u + j) = 0) ∧ (∀ s, 0 ≤ s → s < 3 → v 55 (3 * u + s) = 0) ∧ (∀ c, 0 ≤ c → c < 5 → v (uc u + 1) c = 0) ∧ (∀ s, 0 ≤ s → s < 3 → v (uc u + 2) s = 0)
theorem HZ_cg {v v' : Nat → Int → Int} (h : HZ v) (e48 : v' 48 2 = v 48 2) (e54 : v' 54 = v 54) (e55 : v' 55 = v 55) (e56 : v' 56 = v 56) (eu : ∀ b, 36 ≤ b → b ≤ 47 → v' b = v b) : HZ v' := fun u u0 u1 u2 => by
  have r := uc_rng (u := u) ⟨u0, u2⟩
  rw [e48] at u1
  rw [e54, e55, e56, eu (uc u + 1) (by omega) (by omega), eu (uc u + 2) (by omega) (by omega)]
  exact h u u0 u1 u2
def ST (v w : Nat → Int → Int) : Prop := (v 15 7 = 0 ∧ v 48 18 = 64 ∧ w 48 19 = bnd v) ∨ (v 15 7 = 1 ∧ LGs v w ∧ w 15 6 = w 48 19)
def INV (sh : List q_Sh) (v w : Nat → Int → Int) (R : Nat → Nat → Option Nat) : Prop := (LD sh R ∧ LM sh R) ∧ (PR sh w R ∧ MR sh w R) ∧ (rA v ∧ RR v ∧ dOs v) ∧ ((v 16 = v 63 ∧ v 25 = v 60) ∧ HZ v ∧ KP v) ∧ (v 15 5 = v 48 18 ∧ 1 ≤ v 48 18 ∧ v 48 18 ≤ 64) ∧ (-1000000000 ≤ w 48 19 ∧ w 48 19 ≤ 1000000000) ∧ ST v w
section
variable {sh : List q_Sh} {v w : Nat → Int → Int} {R : Nat → Nat → Option Nat}
theorem I_dN (h : INV sh v w R) : dN v := by
  obtain ⟨-, -, ⟨hA, hr, -⟩, -⟩ := h
  have := hA.2.2.2.2.1
  unfold dN
  rw [hr.1.1, hr.1.2]
  exact this
theorem I_dT (h : INV sh v w R) : dT v := fun j h1 h2 => by
  obtain ⟨-, -, ⟨hA, hr, -⟩, -⟩ := h
  rw [(hr.2.2.1 j h1 h2).1]
  exact hA.2.2.2.2.2 j h1 h2
theorem I_dD (h : INV sh v w R) : dD v := fun k h1 h2 => by
  obtain ⟨-, -, ⟨hA, hr, -⟩, -⟩ := h
  obtain ⟨q1, q2, -⟩ := hr.2.1 k h1 h2
  rw [q1, q2]
  have := hA.2.2.2.1 k h1 h2
  exact ⟨this.1, this.2.1⟩
theorem I_dPr (h : INV sh v w R) : dPr v := fun k h1 h2 => by
  obtain ⟨-, -, ⟨hA, hr, -⟩, ⟨⟨e, -⟩, -⟩, -⟩ := h
  rw [e]
  exact (hA.2.2.2.1 k h1 h2).2.2
theorem I_dUs (h : INV sh v w R) : dUs v := fun u h1 h2 => by
  obtain ⟨-, -, ⟨hA, hr, -⟩, -⟩ := h
  unfold dU
  by_cases q : u < v 48 2
  · obtain ⟨⟨l1, l2, l3, l4, l5, l6, l7⟩, -⟩ := hr.2.2.2.1 u h1 q
    obtain ⟨s1, s2, s3, s4, s5, s6, s7, s8⟩ := hA.2.2.1 u h1 q
    obtain ⟨r1, r2, r3, r4, r5, r6, r7⟩ := hA.1 u h1 h2
    rw [l1, l2, l3, l4, l5, l6, l7]
    omega
  · obtain ⟨⟨l1, l2, l3, l4, l5, l6, l7⟩, -⟩ := hr.2.2.2.2.1 u (by omega) h2
    rw [l1, l2, l3, l4, l5, l6, l7]
    omega
theorem I_pz (h : INV sh v w R) : pz v = v := by
  obtain ⟨-, -, -, ⟨⟨e, -⟩, -⟩, ⟨e2, -⟩, -⟩ := h
  funext b j
  unfold pz
  by_cases q : b = 63
  · rw [if_pos q, e, q]
  · rw [if_neg q]
    by_cases q2 : b = 48 ∧ j = 18
    · rw [if_pos q2, q2.1, q2.2, e2]
    · rw [if_neg q2]
theorem I_CM (h : INV sh v w R) : CM sh v w R := by
  refine ⟨h.1.1, I_dN h, I_dUs h, h.2.2.1.2.2, I_dD h, I_dPr h, h.2.1.2, ?_, ?_, ?_⟩
  · rw [I_pz h]
    exact h.2.2.1.1
  · rw [I_pz h]
    exact h.2.2.1.2.1
  · have := h.2.2.2.2.1
    omega
/-- the scratch cells of both may change -/
def sScr (v v' : Nat → Int → Int) : Prop := (∀ b, 15 ≤ b → b ≠ 48 → b ≠ 64 → b ≠ 66 → b ≠ 68 → v' b = v b) ∧ ∀ j, j ≠ 0 → j ≠ 24 → v' 48 j = v 48 j
def sScw (w w' : Nat → Int → Int) : Prop := ∀ b, 12 ≤ b → b ≠ 65 → b ≠ 67 → w' b = w b
theorem sScr_RR {v v' : Nat → Int → Int} (s : sScr v v') (hn : v 48 2 ≤ 3) (h : RR v) : RR v' := by
  obtain ⟨a1, a2, a3, a4, a5, a6⟩ := h
  have un : ∀ u, 0 ≤ u → u < 3 → v' (uc u) = v (uc u) ∧ v' (uc u + 1) = v (uc u + 1) ∧ v' (uc u + 2) = v (uc u + 2) ∧ v' (uc u + 3) = v (uc u + 3) := fun u u1 u2 => by
    have r := uc_rng ⟨u1, u2⟩
    exact ⟨s.1 _ (by omega) (by omega) (by omega) (by omega) (by omega), s.1 _ (by omega) (by omega) (by omega) (by omega) (by omega), s.1 _ (by omega) (by omega) (by omega) (by omega) (by omega), s.1 _ (by omega) (by omega) (by omega) (by omega) (by omega)⟩
  have row := fun b (h : (15 ≤ b ∧ b ≠ 48) ∧ b ≠ 64 ∧ b ≠ 66 ∧ b ≠ 68) => s.1 b h.1.1 h.1.2 h.2.1 h.2.2.1 h.2.2.2
  refine ⟨?_, fun h h1 h2 => ?_, fun j j1 j2 => ?_, fun u u1 u2 => ?_, fun u u1 u2 => ?_, fun u u1 u2 => ?_⟩
  · rw [row 32 (by decide), s.2 1 (by decide) (by decide), s.2 2 (by decide) (by decide)]
    exact a1
  · rw [row 34 (by decide), row 35 (by decide), row 58 (by decide), row 59 (by decide), row 16 (by decide), row 63 (by decide)]
    exact a2 h h1 h2
  · rw [row 25 (by decide), row 60 (by decide), s.2 2 (by decide) (by decide)]
    exact a3 j j1 j2
  · rw [s.2 2 (by decide) (by decide)] at u2
    obtain ⟨e0, e1, e2, e3⟩ := un u u1 (by omega)
    unfold RU
    rw [e0, e1, e2, row 49 (by decide), row 50 (by decide), row 51 (by decide), row 52 (by decide), row 53 (by decide), row 54 (by decide), row 55 (by decide), row 56 (by decide), row 57 (by decide)]
    exact a4 u u1 u2
  · rw [s.2 2 (by decide) (by decide)] at u1
    have := a5 u u1 u2
    by_cases q : 0 ≤ u
    · obtain ⟨e0, e1, e2, e3⟩ := un u q u2
      unfold RN
      rw [e0, e1]
      exact this
    · have e : uc u = 36 := by unfold uc; omega
      unfold RN at this ⊢
      rw [e] at this ⊢
      rw [row 36 (by decide), row 37 (by decide)]
      exact this
  · obtain ⟨e0, e1, e2, e3⟩ := un u u1 u2
    unfold RX dX
    rw [e0, e3]
    exact a6 u u1 u2
theorem sScr_M {v v' : Nat → Int → Int} (s : sScr v v') : sameM v v' := ⟨fun a h1 h2 => s.1 a (by omega) (by omega) (by omega) (by omega) (by omega), s.1 63 (by decide) (by decide) (by decide) (by decide) (by decide), s.2 1 (by decide) (by decide), s.2 2 (by decide) (by decide)⟩
theorem sScr_Os {v v' : Nat → Int → Int} (s : sScr v v') (x : dOs v) : dOs v' := fun u h1 h2 => by
  have r := uc_rng ⟨h1, h2⟩
  unfold dO
  rw [s.1 (uc u) (by omega) (by omega) (by omega) (by omega) (by omega), s.1 (uc u + 1) (by omega) (by omega) (by omega) (by omega) (by omega), s.1 (uc u + 2) (by omega) (by omega) (by omega) (by omega) (by omega), s.1 (uc u + 3) (by omega) (by omega) (by omega) (by omega) (by omega)]
  exact x u h1 h2
theorem sScr_LGs {v v' w w' : Nat → Int → Int} (s : sScr v v') (sw : sScw w w') (hn : v 32 1 ≤ 3) (g : LGs v w) : LGs v' w' := fun u h1 h2 => by
  rw [s.1 32 (by decide) (by decide) (by decide) (by decide) (by decide)] at h2 ⊢
  have r := uc_rng (u := u) ⟨h1, by omega⟩
  obtain ⟨cs, g1, g2⟩ := g u h1 h2
  have e0 := s.1 (uc u) (by omega) (by omega) (by omega) (by omega) (by omega)
  have e1 := s.1 (uc u + 1) (by omega) (by omega) (by omega) (by omega) (by omega)
  have e2 := s.1 (uc u + 2) (by omega) (by omega) (by omega) (by omega) (by omega)
  have e3 := s.1 (uc u + 3) (by omega) (by omega) (by omega) (by omega) (by omega)
  have t1 : dpT v' (uc u) = dpT v (uc u) := by
    funext a b c
    simp only [dpT, lcs, cstp, e0, e1, e2, e3, s.1 16 (by decide) (by decide) (by decide) (by decide) (by decide)]
  refine ⟨cs, by rw [t1, dF_row e0, sw 17 (by decide) (by decide) (by decide)]; exact g1, fun k k1 k2 => ?_⟩
  rw [s.1 18 (by decide) (by decide) (by decide) (by decide) (by decide), e0]
  exact g2 k k1 k2
theorem INV_scr {v' w' : Nat → Int → Int} {R' : Nat → Nat → Option Nat} (h : INV sh v w R) (s : sScr v v') (sw : sScw w w') (hD : LD sh R') (hM : LM sh R') (hP : PR sh w' R') (hR : MR sh w' R') : INV sh v' w' R' := by
  have hN := I_dN h
  have n2 := hN.2
  obtain ⟨-, -, ⟨hA, hr, hO⟩, ⟨e1, e2, e3⟩, ⟨e4, e5, e6⟩, e7, e8⟩ := h
  have row := fun b (h : (15 ≤ b ∧ b ≠ 48) ∧ b ≠ 64 ∧ b ≠ 66 ∧ b ≠ 68) => s.1 b h.1.1 h.1.2 h.2.1 h.2.2.1 h.2.2.2
  refine ⟨⟨hD, hM⟩, ⟨hP, hR⟩, ⟨sM_rA (sScr_M s) hA, sScr_RR s (by have := hr.1.2; omega) hr, sScr_Os s hO⟩, ⟨⟨by rw [row 16 (by decide), row 63 (by decide)]; exact e1.1, by rw [row 25 (by decide), row 60 (by decide)]; exact e1.2⟩, HZ_cg e2 (s.2 2 (by decide) (by decide)) (row 54 (by decide)) (row 55 (by decide)) (row 56 (by decide)) (fun b b1 b2 => s.1 b (by omega) (by omega) (by omega) (by omega) (by omega)), fun k k1 k2 => ?_⟩, ?_, by rw [sw 48 (by decide) (by decide) (by decide)]; exact e7, ?_⟩
  · rw [row 31 (by decide), row 62 (by decide), row 61 (by decide), s.2 2 (by decide) (by decide), s.1 (27 + k.toNat) (by omega) (by omega) (by omega) (by omega) (by omega)]
    exact e3 k k1 k2
  · rw [row 15 (by decide), s.2 18 (by decide) (by decide)]
    exact ⟨e4, e5, e6⟩
  · unfold ST
    rw [row 15 (by decide), s.2 18 (by decide) (by decide), sw 48 (by decide) (by decide) (by decide), sw 15 (by decide) (by decide) (by decide), sM_bnd (sScr_M s)]
    rcases e8 with q | q
    · exact Or.inl q
    · exact Or.inr ⟨q.1, sScr_LGs s sw (by omega) q.2.1, q.2.2⟩
end
