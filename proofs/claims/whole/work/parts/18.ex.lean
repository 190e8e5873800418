/-! Runs without fuel. -/
theorem q_x_step {G : q_G} {P : Nat → q_M} {n k pc : Nat} {ls : List (Option Value)} {st : List Value} {H : q_H} {ins : Instr} {len : Nat} {ks : List Nat} {z : q_R4} (ht : q_tb (P k) pc = some (ins, len, ks)) (hs : q_stop ins = false) (hc : q_cal P (P k) ins st H = none) (h1 : q_s1 G (P k) ins pc (q_kill ks ls) st H = some z) : q_x G P (n + 1) k pc ls st H = q_x G P n k z.1 z.2.1 z.2.2.1 z.2.2.2 := by
  rw [q_x, ht]
  simp only [hs, hc, h1]
  rfl
theorem q_x_stop {G : q_G} {P : Nat → q_M} {n k pc : Nat} {ls : List (Option Value)} {st : List Value} {H : q_H} {ins : Instr} {len : Nat} {ks : List Nat} (ht : q_tb (P k) pc = some (ins, len, ks)) (hs : q_stop ins = true) : q_x G P (n + 1) k pc ls st H = some (pc, st, H) := by
  rw [q_x, ht]
  simp only [hs, if_true]
theorem q_x_call {G : q_G} {P : Nat → q_M} {n k pc : Nat} {ls : List (Option Value)} {st : List Value} {H : q_H} {ins : Instr} {len : Nat} {ks : List Nat} {k' : Nat} {as r : List Value} {z : Nat × List Value × q_H} {v : Option Value} (ht : q_tb (P k) pc = some (ins, len, ks)) (hs : q_stop ins = false) (hc : q_cal P (P k) ins st H = some (k', as, r)) (hle : (q_en as).length ≤ q_nL (P k')) (h1 : q_x G P n k' 0 (q_en as ++ List.replicate (q_nL (P k') - (q_en as).length) none) [] H = some z) (hv : q_rv (P k') z = some v) :
    q_x G P (n + 1) k pc ls st H = q_x G P n k (pc + 3) (q_kill ks ls) (v.toList ++ r) z.2.2 := by
  rw [q_x, ht]
  simp only [hs, hc, hle, if_true, h1, hv]
  rfl
/-- the forms of a run's first step -/
theorem q_x_inv {G : q_G} {P : Nat → q_M} {n k pc : Nat} {ls : List (Option Value)} {st : List Value} {H : q_H} {z : Nat × List Value × q_H} (h : q_x G P (n + 1) k pc ls st H = some z) : ∃ (ins : Instr) (len : Nat) (ks : List Nat), q_tb (P k) pc = some (ins, len, ks) ∧
    ((q_stop ins = true ∧ z = (pc, st, H)) ∨ (q_stop ins = false ∧ q_cal P (P k) ins st H = none ∧ ∃ z1, q_s1 G (P k) ins pc (q_kill ks ls) st H = some z1 ∧ q_x G P n k z1.1 z1.2.1 z1.2.2.1 z1.2.2.2 = some z) ∨
    (q_stop ins = false ∧ ∃ (k' : Nat) (as r : List Value) (z1 : Nat × List Value × q_H) (v : Option Value), q_cal P (P k) ins st H = some (k', as, r) ∧ (q_en as).length ≤ q_nL (P k') ∧ q_x G P n k' 0 (q_en as ++ List.replicate (q_nL (P k') - (q_en as).length) none) [] H = some z1 ∧ q_rv (P k') z1 = some v ∧ q_x G P n k (pc + 3) (q_kill ks ls) (v.toList ++ r) z1.2.2 = some z)) := by
  unfold q_x at h
  split at h
  · cases h
  · rename_i ins len ks ht
    refine ⟨ins, len, ks, ht, ?_⟩
    split at h
    · rename_i hs
      cases h
      exact Or.inl ⟨hs, rfl⟩
    · rename_i hs
      have hs' : q_stop ins = false := by simpa using hs
      split at h
      · rename_i k' as r hc
        split at h
        · rename_i hle
          split at h
          · rename_i z1 h1
            split at h
            · rename_i v hv
              exact Or.inr (Or.inr ⟨hs', k', as, r, z1, v, hc, hle, h1, hv, h⟩)
            · cases h
          · cases h
        · cases h
      · rename_i hc
        split at h
        · rename_i z1 h1
          exact Or.inr (Or.inl ⟨hs', hc, z1, h1, h⟩)
        · cases h
theorem q_x_mono {G : q_G} {P : Nat → q_M} : ∀ (n k pc : Nat) (ls : List (Option Value)) (st : List Value) (H : q_H) (z : Nat × List Value × q_H), q_x G P n k pc ls st H = some z → q_x G P (n + 1) k pc ls st H = some z
  | 0, _, _, _, _, _, _, h => by simp [q_x] at h
  | n + 1, k, pc, ls, st, H, z, h => by
    have ih := q_x_mono (G := G) (P := P) n
    obtain ⟨ins, len, ks, ht, h2 | ⟨hs, hc, z1, h1, h2⟩ | ⟨hs, k', as, r, z1, v, hc, hle, h1, hv, h2⟩⟩ := q_x_inv h
    · rw [q_x_stop ht h2.1, h2.2]
    · rw [q_x_step ht hs hc h1]
      exact ih _ _ _ _ _ _ h2
    · rw [q_x_call ht hs hc hle (ih _ _ _ _ _ _ h1) hv]
      exact ih _ _ _ _ _ _ h2
theorem q_x_le {G : q_G} {P : Nat → q_M} {n n' k pc : Nat} {ls : List (Option Value)} {st : List Value} {H : q_H} {z : Nat × List Value × q_H} (hn : n ≤ n') (h : q_x G P n k pc ls st H = some z) : q_x G P n' k pc ls st H = some z := by
  induction hn with
  | refl => exact h
  | step _ ih => exact q_x_mono _ _ _ _ _ _ _ ih
/-- from this state the method comes to its end, and Q holds there -/
def q_Ex (G : q_G) (P : Nat → q_M) (k pc : Nat) (ls : List (Option Value)) (st : List Value) (H : q_H) (Q : Nat → List Value → q_H → Prop) : Prop := ∃ n z, q_x G P n k pc ls st H = some z ∧ Q z.1 z.2.1 z.2.2
/-- the method returns, and F holds of the answer and the heap -/
def q_Fr (P : Nat → q_M) (k : Nat) (F : Option Value → q_H → Prop) : Nat → List Value → q_H → Prop := fun pc st H' => ∃ v, q_rv (P k) (pc, st, H') = some v ∧ F v H'
/-- a call returns, and Q holds of the answer and the heap -/
def q_Call (G : q_G) (P : Nat → q_M) (k : Nat) (as : List Value) (H : q_H) (Q : Option Value → q_H → Prop) : Prop := (q_en as).length ≤ q_nL (P k) ∧ q_Ex G P k 0 (q_en as ++ List.replicate (q_nL (P k) - (q_en as).length) none) [] H (q_Fr P k Q)
theorem q_Ex.imp {G : q_G} {P : Nat → q_M} {k pc : Nat} {ls : List (Option Value)} {st : List Value} {H : q_H} {Q Q' : Nat → List Value → q_H → Prop} (h : q_Ex G P k pc ls st H Q) (hQ : ∀ a b c, Q a b c → Q' a b c) : q_Ex G P k pc ls st H Q' := by
  obtain ⟨n, z, h1, h2⟩ := h
  exact ⟨n, z, h1, hQ _ _ _ h2⟩
theorem q_Call.imp {G : q_G} {P : Nat → q_M} {k : Nat} {as : List Value} {H : q_H} {Q Q' : Option Value → q_H → Prop} (h : q_Call G P k as H Q) (hQ : ∀ v H', Q v H' → Q' v H') : q_Call G P k as H Q' := ⟨h.1, h.2.imp (fun _ _ _ ⟨v, h1, h2⟩ => ⟨v, h1, hQ _ _ h2⟩)⟩
theorem q_Ex.stop {G : q_G} {P : Nat → q_M} {k pc : Nat} {ls : List (Option Value)} {st : List Value} {H : q_H} {Q : Nat → List Value → q_H → Prop} {ins : Instr} {len : Nat} {ks : List Nat} (ht : q_tb (P k) pc = some (ins, len, ks)) (hs : q_stop ins = true) (h : Q pc st H) : q_Ex G P k pc ls st H Q := ⟨1, (pc, st, H), q_x_stop ht hs, h⟩
theorem q_Ex.step {G : q_G} {P : Nat → q_M} {k pc : Nat} {ls : List (Option Value)} {st : List Value} {H : q_H} {Q : Nat → List Value → q_H → Prop} {ins : Instr} {len : Nat} {ks : List Nat} {z : q_R4} (ht : q_tb (P k) pc = some (ins, len, ks)) (hs : q_stop ins = false) (hc : q_cal P (P k) ins st H = none) (h1 : q_s1 G (P k) ins pc (q_kill ks ls) st H = some z) (h : q_Ex G P k z.1 z.2.1 z.2.2.1 z.2.2.2 Q) : q_Ex G P k pc ls st H Q := by
  obtain ⟨n, w, h2, h3⟩ := h
  exact ⟨n + 1, w, by rw [q_x_step ht hs hc h1]; exact h2, h3⟩
theorem q_Ex.call {G : q_G} {P : Nat → q_M} {k pc : Nat} {ls : List (Option Value)} {st : List Value} {H : q_H} {Q : Nat → List Value → q_H → Prop} {ins : Instr} {len : Nat} {ks : List Nat} {k' : Nat} {as r : List Value} (ht : q_tb (P k) pc = some (ins, len, ks)) (hs : q_stop ins = false) (hc : q_cal P (P k) ins st H = some (k', as, r)) (h : q_Call G P k' as H (fun v H' => q_Ex G P k (pc + 3) (q_kill ks ls) (v.toList ++ r) H' Q)) : q_Ex G P k pc ls st H Q := by
  obtain ⟨hle, n1, z, h1, v, hv, n2, w, h2, h3⟩ := h
  refine ⟨max n1 n2 + 1, w, ?_, h3⟩
  rw [q_x_call ht hs hc hle (q_x_le (Nat.le_max_left _ _) h1) hv]
  exact q_x_le (Nat.le_max_right _ _) h2
