/-! Calls that leave the market alone: both answer alike, and what holds between calls holds again. -/
def stepI (xs : List Int32) (sh : List q_Sh) (v w : Nat → Int → Int) (R : Nat → Nat → Option Nat) (kC : Nat) (aC : List Value) (kM : Nat) (aM : List Value) : Prop := ∃ (r : Int32) (v1 w1 : Nat → Int → Int) (R1 : Nat → Nat → Option Nat) (v2 w2 : Nat → Int → Int), (∀ Q : Int32 → q_H → Prop, q_CallI (GG xs) PP kC aC (sh, zs v, zt w, R) Q = Q r (sh, zs v1, zt w1, R1)) ∧ (∀ Q : Int32 → q_H → Prop, q_CallI (GG xs) PP kM aM (sh, zs v1, zt w1, R1) Q = Q r (sh, zs v2, zt w2, R1)) ∧ INV sh v2 w2 R1
def stepN (xs : List Int32) (sh : List q_Sh) (v w : Nat → Int → Int) (R : Nat → Nat → Option Nat) (kC : Nat) (aC : List Value) (kM : Nat) (aM : List Value) : Prop := ∃ (r : Int32) (v1 w1 : Nat → Int → Int) (R1 : Nat → Nat → Option Nat) (v2 w2 : Nat → Int → Int), (∀ Q : Int32 → q_H → Prop, q_CallI (GG xs) PP kC aC (sh, zs v, zt w, R) Q = Q r (sh, zs v1, zt w1, R1)) ∧ (∀ Q : Int32 → q_H → Prop, q_CallI (GG xs) PP kM aM (sh, zs v1, zt w1, R1) Q = Q r (sh, zs v2, zt w2, R1)) ∧ v2 48 0 = 0 ∧ INV sh v2 w2 R1
def stepO (xs : List Int32) (sh : List q_Sh) (v w : Nat → Int → Int) (R : Nat → Nat → Option Nat) (kC : Nat) (aC : List Value) (kM : Nat) (aM : List Value) : Prop := ∃ (r : Int32) (v1 w1 : Nat → Int → Int) (R1 : Nat → Nat → Option Nat), (∀ Q : Int32 → q_H → Prop, q_CallI (GG xs) PP kC aC (sh, zs v, zt w, R) Q = Q r (sh, zs v1, zt w1, R1)) ∧ ∀ t : Int, ∃ (v2 w2 : Nat → Int → Int), (∀ Q : Int32 → q_H → Prop, q_CallI (GG xs) PP kM aM (sh, zs v1, zt (zu w1 69 0 t), R1) Q = Q r (sh, zs v2, zt w2, R1)) ∧ v2 48 0 = 0 ∧ w2 69 0 = t ∧ INV sh v2 w2 R1
def stepT (xs : List Int32) (sh : List q_Sh) (v w : Nat → Int → Int) (R : Nat → Nat → Option Nat) (kM : Nat) (aM : List Value) (k : Int) : Prop := ∃ (r : Int32) (v2 w2 : Nat → Int → Int), (∀ Q : Int32 → q_H → Prop, q_CallI (GG xs) PP kM aM (sh, zs v, zt w, R) Q = Q r (sh, zs v2, zt w2, R)) ∧ v2 48 0 = k ∧ INV sh v2 w2 R
section
variable {sh : List q_Sh} {v w : Nat → Int → Int} {R : Nat → Nat → Option Nat}
theorem LM_R {R' : Nat → Nat → Option Nat} (h : LM sh R) (e : R' 48 = R 48) : LM sh R' := by
  unfold LM at h ⊢
  rw [e]
  exact h
theorem INV_0 (h : INV sh v w R) (x : Int) : INV sh (zu v 48 0 x) w R := INV_scr h ⟨fun b b1 b2 b3 b4 b5 => zu_row b2, fun j j1 j2 => zu_j j1⟩ (fun b _ _ _ => rfl) h.1.1 h.1.2 h.2.1.1 h.2.1.2
/-- the cell that the law keeps for itself -/
theorem INV_y (h : INV sh v w R) (t : Int) : INV sh v (zu w 69 0 t) R := by
  obtain ⟨p1, p2, p3, p4, p5, p6, p7⟩ := h
  obtain ⟨f, g, p, q1, q2⟩ := p2.1
  have r := p.2.2
  refine ⟨p1, ⟨⟨f, g, p, RL_fr q1 (zu_row (by omega)) (zu_row (by omega)), RL_fr q2 (zu_row (by omega)) (zu_row (by omega))⟩, MR_fr p2.2 (fun b b1 b2 => zu_row (by omega))⟩, p3, p4, p5, ?_, ?_⟩
  · rw [zu_a (by decide)]
    exact p6
  · unfold ST
    rw [zu_a (by decide), zu_a (by decide)]
    rcases p7 with q | q
    · exact Or.inl q
    · refine Or.inr ⟨q.1, fun u u1 u2 => ?_, q.2.2⟩
      obtain ⟨cs, g1, g2⟩ := q.2.1 u u1 u2
      exact ⟨cs, by rw [zu_a (by decide)]; exact g1, g2⟩
/-- the table changed in both -/
theorem INV_tab {v' w' : Nat → Int → Int} {R' : Nat → Nat → Option Nat} (h : INV sh v w R) (s : ∀ b, 15 ≤ b → b ≠ 25 → b ≠ 48 → b ≠ 60 → b ≠ 64 → b ≠ 66 → b ≠ 68 → v' b = v b) (s48 : ∀ j, j ≠ 0 → j ≠ 24 → v' 48 j = v 48 j) (ht : v' 25 = v' 60) (hz : ∀ j, 0 ≤ j → j < 24 → (0 ≤ v' 60 j ∧ v' 60 j ≤ 63) ∧ (v 48 2 ≤ j / 8 → v' 60 j = 0)) (sw : sScw w w') (hD : LD sh R') (hM : LM sh R') (hP : PR sh w' R') (hR : MR sh w' R') : INV sh v' w' R' := by
  -- first the table alone, then the scratch
  have h1 : INV sh (fun b => if b = 25 ∨ b = 60 then v' 60 else v b) w R := by
    have row : ∀ b, b ≠ 25 → b ≠ 60 → (fun b => if b = 25 ∨ b = 60 then v' 60 else v b) b = v b := fun b b1 b2 => by
      show (if b = 25 ∨ b = 60 then v' 60 else v b) = v b
      rw [if_neg (by omega)]
    have r60 : (fun b => if b = 25 ∨ b = 60 then v' 60 else v b) 60 = v' 60 := by
      show (if (60 : Nat) = 25 ∨ (60 : Nat) = 60 then v' 60 else v 60) = v' 60
      rw [if_pos (by decide)]
    have r25 : (fun b => if b = 25 ∨ b = 60 then v' 60 else v b) 25 = v' 60 := by
      show (if (25 : Nat) = 25 ∨ (25 : Nat) = 60 then v' 60 else v 25) = v' 60
      rw [if_pos (by decide)]
    generalize (fun b => if b = 25 ∨ b = 60 then v' 60 else v b) = v1 at *
    obtain ⟨q1, q2, ⟨⟨a1, a2, a3, a4, a5, a6⟩, ⟨b1, b2, b3, b4, b5, b6⟩, hO⟩, ⟨⟨c1, c2⟩, c3, c4⟩, c5, c6, c7⟩ := h
    have un : ∀ u, v1 (uc u) = v (uc u) ∧ v1 (uc u + 1) = v (uc u + 1) ∧ v1 (uc u + 2) = v (uc u + 2) ∧ v1 (uc u + 3) = v (uc u + 3) ∨ 60 ≤ uc u + 3 := fun u => by
      by_cases z : 60 ≤ uc u + 3
      · exact Or.inr z
      · have : 36 ≤ uc u := by unfold uc; omega
        exact Or.inl ⟨row _ (by omega) (by omega), row _ (by omega) (by omega), row _ (by omega) (by omega), row _ (by omega) (by omega)⟩
    have n2 : v 48 2 ≤ 3 := a5.2.2
    have un3 : ∀ u, u < 3 → v1 (uc u) = v (uc u) ∧ v1 (uc u + 1) = v (uc u + 1) ∧ v1 (uc u + 2) = v (uc u + 2) ∧ v1 (uc u + 3) = v (uc u + 3) := fun u u2 => (un u).resolve_right (by unfold uc; omega)
    refine ⟨q1, q2, ⟨⟨?_, ?_, ?_, ?_, ?_, ?_⟩, ⟨?_, ?_, ?_, ?_, ?_, ?_⟩, ?_⟩, ⟨⟨?_, ?_⟩, ?_, ?_⟩, ?_, c6, ?_⟩
    · intro u u1 u2
      rw [row 49 (by decide) (by decide), row 50 (by decide) (by decide), row 51 (by decide) (by decide), row 52 (by decide) (by decide), row 53 (by decide) (by decide), row 56 (by decide) (by decide), row 57 (by decide) (by decide)]
      exact a1 u u1 u2
    · unfold rC
      rw [row 54 (by decide) (by decide), row 55 (by decide) (by decide)]
      exact a2
    · intro u u1 u2
      rw [row 48 (by decide) (by decide)] at u2
      rw [row 49 (by decide) (by decide), row 50 (by decide) (by decide), row 51 (by decide) (by decide), row 52 (by decide) (by decide), row 53 (by decide) (by decide), row 56 (by decide) (by decide), row 57 (by decide) (by decide)]
      exact a3 u u1 u2
    · intro k k1 k2
      rw [row 58 (by decide) (by decide), row 59 (by decide) (by decide), row 63 (by decide) (by decide)]
      exact a4 k k1 k2
    · unfold rN
      rw [row 48 (by decide) (by decide)]
      exact a5
    · intro j j1 j2
      rw [r60]
      exact (hz j j1 j2).1
    · rw [row 32 (by decide) (by decide), row 48 (by decide) (by decide)]
      exact b1
    · intro k k1 k2
      rw [row 34 (by decide) (by decide), row 35 (by decide) (by decide), row 58 (by decide) (by decide), row 59 (by decide) (by decide), row 16 (by decide) (by decide), row 63 (by decide) (by decide)]
      exact b2 k k1 k2
    · intro j j1 j2
      rw [r60, r25, row 48 (by decide) (by decide)]
      exact ⟨rfl, (hz j j1 j2).2⟩
    · intro u u1 u2
      rw [row 48 (by decide) (by decide)] at u2
      obtain ⟨e0, e1, e2, e3⟩ := un3 u (by omega)
      unfold RU
      rw [e0, e1, e2, row 49 (by decide) (by decide), row 50 (by decide) (by decide), row 51 (by decide) (by decide), row 52 (by decide) (by decide), row 53 (by decide) (by decide), row 54 (by decide) (by decide), row 55 (by decide) (by decide), row 56 (by decide) (by decide), row 57 (by decide) (by decide)]
      exact b4 u u1 u2
    · intro u u1 u2
      rw [row 48 (by decide) (by decide)] at u1
      obtain ⟨e0, e1, e2, e3⟩ := un3 u u2
      unfold RN
      rw [e0, e1]
      exact b5 u u1 u2
    · intro u u1 u2
      obtain ⟨e0, e1, e2, e3⟩ := un3 u u2
      unfold RX dX
      rw [e0, e3]
      exact b6 u u1 u2
    · intro u u1 u2
      obtain ⟨e0, e1, e2, e3⟩ := un3 u u2
      unfold dO
      rw [e0, e1, e2, e3]
      exact hO u u1 u2
    · rw [row 16 (by decide) (by decide), row 63 (by decide) (by decide)]
      exact c1
    · rw [r25, r60]
    · exact HZ_cg c3 (by rw [row 48 (by decide) (by decide)]) (row 54 (by decide) (by decide)) (row 55 (by decide) (by decide)) (row 56 (by decide) (by decide)) (fun b b1 b2 => row b (by omega) (by omega))
    · intro k k1 k2
      rw [row 31 (by decide) (by decide), row 62 (by decide) (by decide), row 61 (by decide) (by decide), row 48 (by decide) (by decide), row (27 + k.toNat) (by omega) (by omega)]
      exact c4 k k1 k2
    · rw [row 15 (by decide) (by decide), row 48 (by decide) (by decide)]
      exact c5
    · unfold ST
      rw [row 15 (by decide) (by decide), row 48 (by decide) (by decide)]
      have eb : bnd v1 = bnd v := by
        have ex : xC v1 = xC v := by
          have sr : sR (zs v) (zs v1) := fun a ha => by
            funext j
            show zi (v1 a j) = zi (v a j)
            rw [row a (by omega) (by omega)]
          funext u
          unfold xC
          rw [sR_W sr, sR_F sr, row 48 (by decide) (by decide)]
        unfold bnd
        rw [ex, row 48 (by decide) (by decide), row 58 (by decide) (by decide), row 63 (by decide) (by decide)]
      rw [eb]
      rcases c7 with q | q
      · exact Or.inl q
      · refine Or.inr ⟨q.1, fun u u1 u2 => ?_, q.2.2⟩
        rw [row 32 (by decide) (by decide)] at u2 ⊢
        obtain ⟨e0, e1, e2, e3⟩ := un3 u (by have := b1.2; omega)
        obtain ⟨cs, g1, g2⟩ := q.2.1 u u1 u2
        have t1 : dpT v1 (uc u) = dpT v (uc u) := by
          funext a b c
          simp only [dpT, lcs, cstp, e0, e1, e2, e3, row 16 (by decide) (by decide)]
        refine ⟨cs, by rw [t1, dF_row e0]; exact g1, fun k k1 k2 => ?_⟩
        rw [row 18 (by decide) (by decide), e0]
        exact g2 k k1 k2
  refine INV_scr h1 ⟨fun b b1 b2 b3 b4 b5 => ?_, fun j j1 j2 => ?_⟩ sw hD hM hP hR
  · show v' b = (if b = 25 ∨ b = 60 then v' 60 else v b)
    by_cases z : b = 25 ∨ b = 60
    · rw [if_pos z]
      rcases z with rfl | rfl
      · exact ht
      · rfl
    · rw [if_neg z]
      exact s b b1 (by omega) b2 (by omega) b3 b4 b5
  · show v' 48 j = (if (48 : Nat) = 25 ∨ (48 : Nat) = 60 then v' 60 else v 48) j
    rw [if_neg (by decide)]
    exact s48 j j1 j2
end
