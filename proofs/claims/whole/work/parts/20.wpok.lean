theorem q_wc_ok {G : q_G} {P : Nat → q_M} {k k' pc : Nat} {ls : List (Option Value)} {st as r : List Value} {H : q_H} {Q : Nat → List Value → q_H → Prop} {ins : Instr} {len : Nat} {ks : List Nat} {K : List Value → q_H → Prop} (ht : q_tb (P k) pc = some (ins, len, ks)) (hs : q_stop ins = false) (hc : q_cat r ≤ 8 → q_cal P (P k) ins st H = some (k', as, r)) (h : q_wc G P k' as r H K) (hK : ∀ st' H', K st' H' → q_Ex G P k (pc + 3) (q_kill ks ls) st' H' Q) : q_Ex G P k pc ls st H Q := by
  unfold q_wc at h
  split at h
  · cases h
  · skip
    · rename_i hcat
      have hc' := hc (Nat.le_of_ble_eq_true hcat)
      split at h
      · exact q_Ex.call ht hs hc' (q_Call.imp h (fun v H' hv => by
          match v, hv with
          | none, hv => exact hK _ _ hv))
      · exact q_Ex.call ht hs hc' (q_Call.imp h (fun v H' hv => by
          match v, hv with
          | some (.long x), hv => exact hK _ _ hv))
      · exact q_Ex.call ht hs hc' (q_Call.imp h (fun v H' hv => by
          match v, hv with
          | some (.int x), hv => exact hK _ _ hv))
theorem q_wg_ok {G : q_G} {H : q_H} {a ci sl : Nat} {K : Value → Prop} (h : q_wg G H a ci sl K) : K (q_fa G H a ci sl) := by
  unfold q_wg at h
  unfold q_fa
  split at h
  · rename_i e
    rw [if_pos e]
    exact h
  · rename_i e
    rw [if_neg (by omega), if_pos e]
    exact h
  · rename_i e0 e1
    obtain ⟨b, hb, hk⟩ := h
    rw [if_neg (fun e => e0 e), if_neg (fun e => e1 e), hb]
    exact hk
theorem q_wpf_ok {G : q_G} {H : q_H} {a ci sl : Nat} {v : Value} {K : q_H → Prop} (h : q_wpf G H a ci sl v K) : ∃ H', q_pf G H a ci sl v = some H' ∧ K H' := by
  unfold q_wpf at h
  split at h
  · split at h
    · rename_i e
      exact ⟨_, by simp [q_pf, e, q_kd, fits, narrow], h⟩
    · rename_i e
      refine ⟨_, ?_, h.2⟩
      rcases h.1 with rfl | rfl <;> simp [q_pf, e, q_kd, fits, narrow]
    · cases h
  · split at h
    · rename_i e
      exact ⟨_, by simp [q_pf, e], h⟩
    · cases h
  · split at h
    · rename_i e
      exact ⟨_, by simp [q_pf, e], h⟩
    · cases h
  · cases h
theorem q_w1_ok {G : q_G} {P : Nat → q_M} {k pc : Nat} {ls : List (Option Value)} {st : List Value} {H : q_H} {Q : Nat → List Value → q_H → Prop} {ins : Instr} {len : Nat} {ks : List Nat} {K : Nat → List (Option Value) → List Value → q_H → Prop} (ht : q_tb (P k) pc = some (ins, len, ks)) (hs : q_stop ins = false) (h : q_w1 G P (P k) ins pc (q_kill ks ls) st H K) (hK : ∀ pc ls st H, K pc ls st H → q_Ex G P k pc ls st H Q) : q_Ex G P k pc ls st H Q := by
  have go : ∀ z : q_R4, q_cal P (P k) ins st H = none → q_s1 G (P k) ins pc (q_kill ks ls) st H = some z → K z.1 z.2.1 z.2.2.1 z.2.2.2 → q_Ex G P k pc ls st H Q := fun z hc h1 h2 => q_Ex.step ht hs hc h1 (hK _ _ _ _ h2)
  have df : (match q_s1 G (P k) ins pc (q_kill ks ls) st H with
      | some z => K z.1 z.2.1 z.2.2.1 z.2.2.2
      | none => False) → q_cal P (P k) ins st H = none → q_Ex G P k pc ls st H Q := by
    intro h hc
    split at h
    · rename_i z h1
      exact go z hc h1 h
    · cases h
  cases ins <;> first | exact df h rfl | skip
  case goto off =>
    simp only [q_w1] at h
    split at h
    · rename_i t e
      exact go (t, q_kill ks ls, _, H) rfl (by simp [q_s1, q_pu, q_lo, q_so, q_b2, q_l2, q_s2, e]) h
    · cases h
  case ifCond c off =>
    simp only [q_w1] at h
    split at h
    · rename_i x r
      split at h
      · rename_i t e
        by_cases hc : q_cp c x 0
        · exact go (t, q_kill ks ls, _, H) rfl (by simp [q_s1, q_pu, q_lo, q_so, q_b2, q_l2, q_s2, e, (q_cp_cc c x 0).mpr hc]) (h.1 hc)
        · have hc' : q_cc c x 0 = false := by
            cases hq : q_cc c x 0
            · rfl
            · exact absurd ((q_cp_cc c x 0).mp hq) hc
          exact go (pc + 3, q_kill ks ls, _, H) rfl (by simp [q_s1, q_pu, q_lo, q_so, q_b2, q_l2, q_s2, e, hc']) (h.2 hc)
      · cases h
    · cases h
  case if_icmp c off =>
    simp only [q_w1] at h
    split at h
    · rename_i y x r
      split at h
      · rename_i t e
        by_cases hc : q_cp c x y
        · exact go (t, q_kill ks ls, _, H) rfl (by simp [q_s1, q_pu, q_lo, q_so, q_b2, q_l2, q_s2, e, (q_cp_cc c x y).mpr hc]) (h.1 hc)
        · have hc' : q_cc c x y = false := by
            cases hq : q_cc c x y
            · rfl
            · exact absurd ((q_cp_cc c x y).mp hq) hc
          exact go (pc + 3, q_kill ks ls, _, H) rfl (by simp [q_s1, q_pu, q_lo, q_so, q_b2, q_l2, q_s2, e, hc']) (h.2 hc)
      · cases h
    · cases h
  case idiv =>
    simp only [q_w1] at h
    split at h
    · exact go (pc + 1, q_kill ks ls, _, H) rfl (by simp [q_s1, q_pu, q_lo, q_so, q_b2, h.1]) h.2
    · cases h
  case irem =>
    simp only [q_w1] at h
    split at h
    · exact go (pc + 1, q_kill ks ls, _, H) rfl (by simp [q_s1, q_pu, q_lo, q_so, q_b2, h.1]) h.2
    · cases h
  case ldiv =>
    simp only [q_w1] at h
    split at h
    · exact go (pc + 1, q_kill ks ls, _, H) rfl (by simp [q_s1, q_pu, q_lo, q_so, q_b2, q_l2, h.1]) h.2
    · cases h
  case lrem =>
    simp only [q_w1] at h
    split at h
    · exact go (pc + 1, q_kill ks ls, _, H) rfl (by simp [q_s1, q_pu, q_lo, q_so, q_b2, q_l2, h.1]) h.2
    · cases h
  case getfield i =>
    simp only [q_w1] at h
    split at h
    · split at h
      · rename_i tag ci sl hr
        split at h
        · rename_i htag
          exact go (pc + 3, q_kill ks ls, _, H) rfl (by simp only [q_s1, q_pu, q_lo, q_so, q_b2, q_l2, q_s2, hr]; rw [if_pos ⟨Nat.le_of_ble_eq_true htag, h.1⟩]) (q_wg_ok (K := fun v => K (pc + 3) (q_kill ks ls) (v :: _) H) h.2)
        · cases h
      · cases h
    · cases h
  case putfield i =>
    simp only [q_w1] at h
    split at h
    · split at h
      · rename_i ci sl hr
        obtain ⟨H', e1, e2⟩ := q_wpf_ok h.2
        exact go (pc + 3, q_kill ks ls, _, H') rfl (by simp only [q_s1, q_pu, q_lo, q_so, q_b2, q_l2, q_s2, hr]; rw [if_pos ⟨Or.inl trivial, h.1⟩, e1]; rfl) e2
      · rename_i ci sl hr
        obtain ⟨H', e1, e2⟩ := q_wpf_ok h.2
        exact go (pc + 3, q_kill ks ls, _, H') rfl (by simp only [q_s1, q_pu, q_lo, q_so, q_b2, q_l2, q_s2, hr]; rw [if_pos ⟨Or.inr trivial, h.1⟩, e1]; rfl) e2
      · cases h
    · cases h
  case iaload =>
    simp only [q_w1] at h
    split at h
    · obtain ⟨n, j, h1, h2, h3⟩ := h
      exact go (pc + 1, q_kill ks ls, _, _) rfl (by simp only [q_s1, q_pu, q_lo, q_so, q_b2, q_l2, q_s2, h1, h2]; rfl) h3
    · obtain ⟨q, j, h1, h2, h3⟩ := h
      exact go (pc + 1, q_kill ks ls, _, _) rfl (by simp only [q_s1, q_pu, q_lo, q_so, q_b2, q_l2, q_s2, h1, h2]; rfl) h3
    · cases h
  case laload =>
    simp only [q_w1] at h
    split at h
    · obtain ⟨n, j, h1, h2, h3⟩ := h
      exact go (pc + 1, q_kill ks ls, _, _) rfl (by simp only [q_s1, q_pu, q_lo, q_so, q_b2, q_l2, q_s2, h1, h2]; rfl) h3
    · cases h
  case baload =>
    simp only [q_w1] at h
    split at h
    · obtain ⟨n, j, h1, h2, h3⟩ := h
      exact go (pc + 1, q_kill ks ls, _, _) rfl (by simp only [q_s1, q_pu, q_lo, q_so, q_b2, q_l2, q_s2, h1, h2]; rfl) h3
    · cases h
  case aaload =>
    simp only [q_w1] at h
    split at h
    · obtain ⟨t, n, j, b, h1, h2, h3, h4, h5⟩ := h
      exact go (pc + 1, q_kill ks ls, _, _) rfl (by simp only [q_s1, q_pu, q_lo, q_so, q_b2, q_l2, q_s2, h1]; rw [if_pos h2, h3]; simp only [Option.map_some, h4]; rfl) h5
    · cases h
  case iastore =>
    simp only [q_w1] at h
    split at h
    · obtain ⟨n, j, h1, h2, h3⟩ := h
      exact go (pc + 1, q_kill ks ls, _, _) rfl (by simp only [q_s1, q_pu, q_lo, q_so, q_b2, q_l2, q_s2, h1, h2]; rfl) h3
    · cases h
  case lastore =>
    simp only [q_w1] at h
    split at h
    · obtain ⟨n, j, h1, h2, h3⟩ := h
      exact go (pc + 1, q_kill ks ls, _, _) rfl (by simp only [q_s1, q_pu, q_lo, q_so, q_b2, q_l2, q_s2, h1, h2]; rfl) h3
    · cases h
  case bastore =>
    simp only [q_w1] at h
    split at h
    · obtain ⟨n, j, h1, h2, h3⟩ := h
      exact go (pc + 1, q_kill ks ls, _, _) rfl (by simp only [q_s1, q_pu, q_lo, q_so, q_b2, q_l2, q_s2, h1, h2]; rfl) h3
    · cases h
  case arraylength =>
    simp only [q_w1] at h
    split at h
    · obtain ⟨t, n, h1, h2, h3⟩ := h
      exact go (pc + 1, q_kill ks ls, _, _) rfl (by simp only [q_s1, q_pu, q_lo, q_so, q_b2, q_l2, q_s2, h1]; rw [if_pos h2]) h3
    · obtain ⟨q, h1, h2⟩ := h
      exact go (pc + 1, q_kill ks ls, _, _) rfl (by simp only [q_s1, q_pu, q_lo, q_so, q_b2, q_l2, q_s2, h1]) h2
    · cases h
  case invokevirtual i =>
    simp only [q_w1] at h
    split at h
    · rename_i k' n hr
      split at h
      · rename_i b r hd hlen
        refine q_wc_ok ht hs (fun hcat => ?_) h.2 (fun st' H' hk => hK _ _ _ _ hk)
        simp only [q_cal, hr, hd]
        rw [if_pos ⟨h.1, hcat, Nat.eq_of_beq_eq_true hlen⟩]
      · cases h
    · cases h
  case invokespecial i =>
    simp only [q_w1] at h
    split at h
    · rename_i k' n hr
      split at h
      · rename_i b r hd hlen
        refine q_wc_ok ht hs (fun hcat => ?_) h (fun st' H' hk => hK _ _ _ _ hk)
        simp only [q_cal, hr, hd]
        rw [if_pos ⟨hcat, Nat.eq_of_beq_eq_true hlen⟩]
      · cases h
    · rename_i x1 x2 hr
      split at h
      · split at h
        · rename_i hcat
          exact go (pc + 3, q_kill ks ls, _, H) (by simp only [q_cal, hr]) (by simp only [q_s1, q_pu, q_lo, q_so, q_b2, q_l2, q_s2, hr]; rw [if_pos (Nat.le_of_ble_eq_true hcat)]) h
        · cases h
      · cases h
    · cases h
  case invokestatic i =>
    simp only [q_w1] at h
    split at h
    · rename_i k' n hr
      split at h
      · rename_i hlen
        refine q_wc_ok ht hs (fun hcat => ?_) h (fun st' H' hk => hK _ _ _ _ hk)
        simp only [q_cal, hr]
        rw [if_pos ⟨hcat, Nat.eq_of_beq_eq_true hlen⟩]
      · cases h
    · rename_i x1 x2 hr
      split at h
      · split at h
        · rename_i hcat
          exact go (pc + 3, q_kill ks ls, _, H) (by simp only [q_cal, hr]) (by simp only [q_s1, q_pu, q_lo, q_so, q_b2, q_l2, q_s2, hr]; rw [if_pos (Nat.le_of_ble_eq_true hcat)]) h
        · cases h
      · cases h
    · rename_i x1 x2 hr
      split at h
      · split at h
        · rename_i hcat
          exact go (pc + 3, q_kill ks ls, _, H) (by simp only [q_cal, hr]) (by simp only [q_s1, q_pu, q_lo, q_so, q_b2, q_l2, q_s2, hr]; rw [if_pos (Nat.le_of_ble_eq_true hcat)]) h
        · cases h
      · cases h
    · rename_i x1 x2 hr
      split at h
      · split at h
        · rename_i hcat
          exact go (pc + 3, q_kill ks ls, _, H) (by simp only [q_cal, hr]) (by simp only [q_s1, q_pu, q_lo, q_so, q_b2, q_l2, q_s2, hr]; rw [if_pos (Nat.le_of_ble_eq_true hcat)]) h
        · cases h
      · cases h
    · obtain ⟨z, h1, h2, h3⟩ := h
      exact go z h1 h2 h3
theorem q_we_ok {P : Nat → q_M} {k pc : Nat} {st : List Value} {H : q_H} {F : Option Value → q_H → Prop} {ins : Instr} {len : Nat} {ks : List Nat} (ht : q_tb (P k) pc = some (ins, len, ks)) (h : q_we (P k) ins st H F) : q_Fr P k F pc st H := by
  unfold q_we at h
  split at h
  · split at h
    · split at h
      · rename_i hr
        exact ⟨_, by simp only [q_rv, ht, hr], h⟩
      · rename_i hr
        exact ⟨_, by simp only [q_rv, ht, hr]; rw [if_pos h.1], h.2⟩
      · cases h
    · cases h
  · split at h
    · split at h
      · rename_i hr
        exact ⟨_, by simp only [q_rv, ht, hr], h⟩
      · cases h
    · cases h
  · split at h
    · split at h
      · rename_i hr
        exact ⟨_, by simp only [q_rv, ht, hr], h⟩
      · cases h
    · cases h
  · cases h
/-- from here the method returns, and F holds of the answer and the heap -/
def q_Rt (G : q_G) (P : Nat → q_M) (k : Nat) (F : Option Value → q_H → Prop) (pc : Nat) (ls : List (Option Value)) (st : List Value) (H : q_H) : Prop := q_Ex G P k pc ls st H (q_Fr P k F)
/-- a stretch: at most n instructions, up to the next place of 'cut' -/
def q_wr (G : q_G) (P : Nat → q_M) (k : Nat) (cut : List Nat) (F : Option Value → q_H → Prop) : Nat → Bool → Nat → List (Option Value) → List Value → q_H → Prop
  | 0, _, pc, ls, st, H => q_Rt G P k F pc ls st H
  | n + 1, b, pc, ls, st, H => match b && cut.elem pc with
    | true => q_Rt G P k F pc ls st H
    | false => match q_tb (P k) pc with
      | none => False
      | some (ins, _, ks) => match q_stop ins with
        | true => q_we (P k) ins st H F
        | false => q_w1 G P (P k) ins pc (q_kill ks ls) st H (q_wr G P k cut F n true)
theorem q_wr_ok {G : q_G} {P : Nat → q_M} {k : Nat} (cut : List Nat) {F : Option Value → q_H → Prop} : ∀ (n : Nat) {b : Bool} {pc : Nat} {ls : List (Option Value)} {st : List Value} {H : q_H}, q_wr G P k cut F n b pc ls st H → q_Rt G P k F pc ls st H
  | 0, _, _, _, _, _, h => h
  | n + 1, b, pc, ls, st, H, h => by
    unfold q_wr at h
    split at h
    · exact h
    · split at h
      · cases h
      · rename_i ins len ks ht
        split at h
        · rename_i hs
          exact q_Ex.stop ht hs (q_we_ok ht h)
        · rename_i hs
          exact q_w1_ok ht hs h (fun pc ls st H hk => q_wr_ok cut n hk)
/-- a whole call -/
theorem q_call_of {G : q_G} {P : Nat → q_M} {k : Nat} {as : List Value} {H : q_H} {F : Option Value → q_H → Prop} (hle : Nat.ble (q_en as).length (q_nL (P k)) = true) (h : q_Rt G P k F 0 (q_en as ++ List.replicate (q_nL (P k) - (q_en as).length) none) [] H) : q_Call G P k as H F := ⟨Nat.le_of_ble_eq_true hle, h⟩
