/-! An abstract machine: a heap of shapes, ints, longs and references by numbers; the machine of the Statement follows it. -/
abbrev q_Sh : Type := Nat ⊕ (Nat × Nat)
abbrev q_H : Type := List q_Sh × (Nat → Nat → Int32) × (Nat → Nat → Int64) × (Nat → Nat → Option Nat)
def q_up {α : Type} (f : Nat → Nat → α) (a i : Nat) (x : α) : Nat → Nat → α := fun b j => if b = a ∧ j = i then x else f b j
theorem q_up_row {α : Type} (f : Nat → Nat → α) {a i b : Nat} (x : α) (h : b ≠ a) : q_up f a i x b = f b := by
  funext j
  simp [q_up, h]
theorem q_up_self {α : Type} (f : Nat → Nat → α) (a i : Nat) (x : α) : q_up f a i x a = fun j => if j = i then x else f a j := by
  funext j
  simp [q_up]
/-- the kind of a type: 0 an int, 1 a long, 2 a reference -/
def q_kd : FieldType → Nat
  | .int => 0
  | .boolean => 0
  | .long => 1
  | .object _ => 2
  | .array _ => 2
  | _ => 3
/-- the classes; the fields' types; the arrays' types by their numbers; how many; the static tables; words that are carried -/
abbrev q_G : Type := List vw_C × (Nat → Nat → FieldType) × (Nat → FieldType) × Nat × List (String × String × String × List Int32) × List Jvm.Cond
abbrev g_cl (G : q_G) : List vw_C := G.1
abbrev g_ft (G : q_G) : Nat → Nat → FieldType := G.2.1
abbrev g_at (G : q_G) : Nat → FieldType := G.2.2.1
abbrev g_na (G : q_G) : Nat := G.2.2.2.1
abbrev g_sz (G : q_G) : List (String × String × String × List Int32) := G.2.2.2.2.1
abbrev g_nw (G : q_G) : List Jvm.Cond := G.2.2.2.2.2
def q_nf (G : q_G) (ci : Nat) : Nat := match (g_cl G)[ci]? with
  | some r => r.2.2
  | none => 0
/-- a value as the Statement's machine has it: cell i lies at ad i, static table t at az t -/
def q_v (az ad : Nat → Nat) : Value → Value
  | .ref i => .ref (ad i)
  | .retAddr t => .ref (az t)
  | v => v
theorem q_v_cat (az ad : Nat → Nat) (v : Value) : (q_v az ad v).category = v.category := by
  cases v <;> rfl
def q_fv (G : q_G) (ad : Nat → Nat) (H : q_H) (i ci j : Nat) : Value :=
  if q_kd (g_ft G ci j) = 0 then .int (H.2.1 i j) else if q_kd (g_ft G ci j) = 1 then .long (H.2.2.1 i j) else va_rf ((H.2.2.2 i j).map ad)
def q_av (G : q_G) (ad : Nat → Nat) (H : q_H) (i t : Nat) : (Nat → Int32) ⊕ (Nat → Int64) ⊕ (Nat → UInt32) ⊕ (Nat → UInt64) ⊕ (Nat → Option Nat) :=
  if q_kd (g_at G t) = 0 then .inl (H.2.1 i) else if q_kd (g_at G t) = 1 then .inr (.inl (H.2.2.1 i)) else .inr (.inr (.inr (.inr fun j => (H.2.2.2 i j).map ad)))
def q_e (G : q_G) (dA : Nat → ClassId) (ad : Nat → Nat) (H : q_H) (i : Nat) (sh : q_Sh) : va_E := match sh with
  | .inl ci => .inr (ci, (List.range (q_nf G ci)).map (q_fv G ad H i ci))
  | .inr q => .inl (dA q.1, q.2, q_av G ad H i q.1)
def q_w (G : q_G) (dA : Nat → ClassId) (ad : Nat → Nat) (H : q_H) : va_W := H.1.mapIdx fun i sh => (ad i, q_e G dA ad H i sh)
theorem q_w_get (G : q_G) (dA : Nat → ClassId) (ad : Nat → Nat) (H : q_H) (i : Nat) : (q_w G dA ad H)[i]? = (H.1[i]?).map fun sh => (ad i, q_e G dA ad H i sh) := by
  simp [q_w]
theorem q_w_at {G : q_G} {dA : Nat → ClassId} {ad : Nat → Nat} {H : q_H} {i : Nat} {sh : q_Sh} (h : H.1[i]? = some sh) : (q_w G dA ad H)[i]? = some (ad i, q_e G dA ad H i sh) := by
  rw [q_w_get, h]; rfl
theorem q_e_row {G : q_G} {dA : Nat → ClassId} {ad : Nat → Nat} {H H' : q_H} {i : Nat} (sh : q_Sh) (h1 : H'.2.1 i = H.2.1 i) (h2 : H'.2.2.1 i = H.2.2.1 i) (h3 : H'.2.2.2 i = H.2.2.2 i) : q_e G dA ad H' i sh = q_e G dA ad H i sh := by
  have hf : ∀ ci, q_fv G ad H' i ci = q_fv G ad H i ci := fun ci => by
    funext j
    simp only [q_fv, h1, h2, h3]
  cases sh with
  | inl ci => simp only [q_e, hf]
  | inr q => simp only [q_e, q_av, h1, h2, h3]
theorem q_w_set {G : q_G} {dA : Nat → ClassId} {ad : Nat → Nat} {H H' : q_H} {a : Nat} {sh : q_Sh} {e' : va_E} (hs : H'.1 = H.1) (ha : H.1[a]? = some sh) (he : q_e G dA ad H' a sh = e')
    (h1 : ∀ i, i ≠ a → H'.2.1 i = H.2.1 i) (h2 : ∀ i, i ≠ a → H'.2.2.1 i = H.2.2.1 i) (h3 : ∀ i, i ≠ a → H'.2.2.2 i = H.2.2.2 i) : (q_w G dA ad H).set a (ad a, e') = q_w G dA ad H' := by
  apply List.ext_getElem?
  intro i
  rw [List.getElem?_set, q_w_get, q_w_get, hs]
  by_cases hi : a = i
  · subst hi
    have hl : a < (q_w G dA ad H).length := by
      have := (List.getElem?_eq_some_iff.mp ha).1
      simpa [q_w] using this
    simp [ha, he, hl]
  · rw [if_neg hi]
    cases hsh : H.1[i]? with
    | none => rfl
    | some sh' =>
      simp only [Option.map_some]
      rw [q_e_row sh' (h1 i (Ne.symm hi)) (h2 i (Ne.symm hi)) (h3 i (Ne.symm hi))]
/-! the locals -/
def q_L (az ad : Nat → Nat) (lsA : Array Slot) (nL : Nat) (ls : List (Option Value)) : Prop := lsA.size = nL ∧ lv_wf lsA ∧ ∀ (i : Nat) (v : Value), ls[i]? = some (some v) → lsA[i]? = some (.val (q_v az ad v))
def q_lv (az ad : Nat → Nat) (ls : List (Option Value)) : List (Nat × Value) := (List.range ls.length).filterMap fun i => match ls[i]? with
  | some (some v) => some (i, q_v az ad v)
  | _ => none
theorem q_lv_mem {az ad : Nat → Nat} {ls : List (Option Value)} {q : Nat × Value} : q ∈ q_lv az ad ls ↔ ∃ v, ls[q.1]? = some (some v) ∧ q.2 = q_v az ad v := by
  simp only [q_lv, List.mem_filterMap, List.mem_range]
  constructor
  · rintro ⟨i, hi, h⟩
    cases hl : ls[i]? with
    | none => rw [hl] at h; cases h
    | some o =>
      cases o with
      | none => rw [hl] at h; cases h
      | some v =>
        rw [hl] at h
        cases h
        exact ⟨v, hl, rfl⟩
  · rintro ⟨v, h1, h2⟩
    refine ⟨q.1, (List.getElem?_eq_some_iff.mp h1).1, ?_⟩
    rw [h1]
    show some (q.1, q_v az ad v) = some q
    rw [← h2]
theorem q_L_has {az ad : Nat → Nat} {lsA : Array Slot} {nL : Nat} {ls : List (Option Value)} (h : q_L az ad lsA nL ls) : lv_has lsA nL (q_lv az ad ls) :=
  ⟨h.1, h.2.1, fun q hq => by
    obtain ⟨v, h1, h2⟩ := q_lv_mem.mp hq
    rw [h2]
    exact h.2.2 _ _ h1⟩
theorem q_L_sub {az ad : Nat → Nat} {lsA : Array Slot} {nL : Nat} {ls ls' : List (Option Value)} (h : q_L az ad lsA nL ls) (hs : ∀ (i : Nat) (v : Value), ls'[i]? = some (some v) → ls[i]? = some (some v)) : q_L az ad lsA nL ls' := ⟨h.1, h.2.1, fun i v hv => h.2.2 i v (hs i v hv)⟩
def q_clr (ls : List (Option Value)) (i : Nat) : List (Option Value) := match i with
  | 0 => ls
  | j + 1 => match ls[j]? with
    | some (some w) => if w.category = 2 then ls.set j none else ls
    | _ => ls
theorem q_clr_sub {ls : List (Option Value)} {i j : Nat} {v : Value} (h : (q_clr ls i)[j]? = some (some v)) : ls[j]? = some (some v) ∧ (j + 1 = i → ¬ v.category = 2) := by
  unfold q_clr at h
  cases i with
  | zero => exact ⟨h, fun q => by omega⟩
  | succ k =>
    simp only at h
    cases hk : ls[k]? with
    | none =>
      rw [hk] at h
      refine ⟨h, fun q => ?_⟩
      have e : j = k := by omega
      rw [e] at h
      simp only at h
      rw [hk] at h
      cases h
    | some o =>
      cases o with
      | none =>
        rw [hk] at h
        refine ⟨h, fun q => ?_⟩
        have e : j = k := by omega
        rw [e] at h
        simp only at h
        rw [hk] at h
        cases h
      | some w =>
        rw [hk] at h
        simp only at h
        by_cases hc : w.category = 2
        · rw [if_pos hc, List.getElem?_set] at h
          by_cases e : k = j
          · rw [if_pos e] at h
            split at h <;> cases h
          · rw [if_neg e] at h
            exact ⟨h, fun q => absurd (by omega) e⟩
        · rw [if_neg hc] at h
          refine ⟨h, fun q => ?_⟩
          have e : j = k := by omega
          rw [e, hk] at h
          cases h
          exact hc
def q_set (ls : List (Option Value)) (i : Nat) (v : Value) : List (Option Value) := if v.category = 2 then ((q_clr ls i).set (i + 1) none).set i (some v) else (q_clr ls i).set i (some v)
theorem q_set_sub {ls : List (Option Value)} {i j : Nat} {v w : Value} (h : (q_set ls i v)[j]? = some (some w)) : (j = i ∧ w = v) ∨ (j ≠ i ∧ ls[j]? = some (some w) ∧ (j + 1 = i → ¬ w.category = 2) ∧ (v.category = 2 → j ≠ i + 1)) := by
  unfold q_set at h
  by_cases hc : v.category = 2
  · rw [if_pos hc, List.getElem?_set] at h
    by_cases e : i = j
    · rw [if_pos e] at h
      split at h
      · cases h
        exact Or.inl ⟨e.symm, rfl⟩
      · cases h
    · rw [if_neg e, List.getElem?_set] at h
      by_cases e2 : i + 1 = j
      · rw [if_pos e2] at h
        split at h <;> cases h
      · rw [if_neg e2] at h
        exact Or.inr ⟨Ne.symm e, (q_clr_sub h).1, (q_clr_sub h).2, fun _ => Ne.symm e2⟩
  · rw [if_neg hc, List.getElem?_set] at h
    by_cases e : i = j
    · rw [if_pos e] at h
      split at h
      · cases h
        exact Or.inl ⟨e.symm, rfl⟩
      · cases h
    · rw [if_neg e] at h
      exact Or.inr ⟨Ne.symm e, (q_clr_sub h).1, (q_clr_sub h).2, fun q => absurd q hc⟩
theorem q_L_set1 {az ad : Nat → Nat} {lsA : Array Slot} {nL i : Nat} {ls : List (Option Value)} {v : Value} (hc : v.category = 1) (h : lv_has lsA nL ((i, q_v az ad v) :: (q_lv az ad ls).filter (fun q => !(q.1 == i) && !(q.1 + 1 == i && q.2.category == 2)))) : q_L az ad lsA nL (q_set ls i v) := by
  refine ⟨h.1, h.2.1, fun j w hw => ?_⟩
  rcases q_set_sub hw with ⟨rfl, rfl⟩ | ⟨h1, h2, h3, -⟩
  · exact h.2.2 (j, q_v az ad w) List.mem_cons_self
  · refine h.2.2 (j, q_v az ad w) (List.mem_cons_of_mem _ (List.mem_filter.mpr ⟨q_lv_mem.mpr ⟨w, h2, rfl⟩, ?_⟩))
    simp only [q_v_cat, Bool.and_eq_true, Bool.not_eq_true', beq_eq_false_iff_ne, Bool.and_eq_false_imp, beq_iff_eq]
    exact ⟨h1, h3⟩
theorem q_L_set2 {az ad : Nat → Nat} {lsA : Array Slot} {nL i : Nat} {ls : List (Option Value)} {v : Value} (hc : v.category = 2) (h : lv_has lsA nL ((i, q_v az ad v) :: (q_lv az ad ls).filter (fun q => !(q.1 == i) && (!(q.1 == i + 1) && !(q.1 + 1 == i && q.2.category == 2))))) : q_L az ad lsA nL (q_set ls i v) := by
  refine ⟨h.1, h.2.1, fun j w hw => ?_⟩
  rcases q_set_sub hw with ⟨rfl, rfl⟩ | ⟨h1, h2, h3, h4⟩
  · exact h.2.2 (j, q_v az ad w) List.mem_cons_self
  · refine h.2.2 (j, q_v az ad w) (List.mem_cons_of_mem _ (List.mem_filter.mpr ⟨q_lv_mem.mpr ⟨w, h2, rfl⟩, ?_⟩))
    simp only [q_v_cat, Bool.and_eq_true, Bool.not_eq_true', beq_eq_false_iff_ne, Bool.and_eq_false_imp, beq_iff_eq]
    exact ⟨h1, h4 hc, h3⟩
def q_kill (ks : List Nat) (ls : List (Option Value)) : List (Option Value) := ks.foldl (fun l i => l.set i none) ls
theorem q_kill_sub : ∀ (ks : List Nat) {ls : List (Option Value)} {i : Nat} {v : Value}, (q_kill ks ls)[i]? = some (some v) → ls[i]? = some (some v)
  | [], _, _, _, h => h
  | k :: ks, ls, i, v, h => by
    have h1 := q_kill_sub ks (ls := ls.set k none) h
    rw [List.getElem?_set] at h1
    by_cases e : k = i
    · rw [if_pos e] at h1
      split at h1 <;> cases h1
    · rw [if_neg e] at h1
      exact h1
/-- a call's arguments as locals -/
def q_en : List Value → List (Option Value)
  | [] => []
  | v :: vs => if v.category = 2 then some v :: none :: q_en vs else some v :: q_en vs
theorem q_en_args (az ad : Nat → Nat) : ∀ (vs : List Value) (b i : Nat) (v : Value), (q_en vs)[i]? = some (some v) → (b + i, q_v az ad v) ∈ lv_args b (vs.map (q_v az ad))
  | [], b, i, v, h => by simp [q_en] at h
  | w :: vs, b, i, v, h => by
    simp only [q_en] at h
    simp only [List.map_cons, lv_args, q_v_cat]
    by_cases hc : w.category = 2
    · rw [if_pos hc] at h ⊢
      match i, h with
      | 0, h =>
        simp only [List.getElem?_cons_zero, Option.some.injEq] at h
        subst h
        exact List.mem_cons_self
      | 1, h => simp at h
      | j + 2, h =>
        simp only [List.getElem?_cons_succ] at h
        have := q_en_args az ad vs (b + 2) j v h
        rw [show b + (j + 2) = b + 2 + j by omega]
        exact List.mem_cons_of_mem _ this
    · rw [if_neg hc] at h ⊢
      match i, h with
      | 0, h =>
        simp only [List.getElem?_cons_zero, Option.some.injEq] at h
        subst h
        exact List.mem_cons_self
      | j + 1, h =>
        simp only [List.getElem?_cons_succ] at h
        have := q_en_args az ad vs (b + 1) j v h
        rw [show b + (j + 1) = b + 1 + j by omega]
        exact List.mem_cons_of_mem _ this
theorem q_en_len (az ad : Nat → Nat) : ∀ vs : List Value, (lg_sl (vs.map (q_v az ad))).length = (q_en vs).length
  | [] => rfl
  | w :: vs => by
    have ih := q_en_len az ad vs
    simp only [lg_sl, List.map_cons, List.flatMap_cons, List.length_append, q_v_cat, q_en] at ih ⊢
    by_cases hc : w.category = 2
    · simp [hc, ih]; omega
    · simp [hc, ih]; omega
theorem q_L_entry (az ad : Nat → Nat) {vs : List Value} {n k : Nat} (h : (q_en vs).length ≤ n) : q_L az ad ((lg_sl (vs.map (q_v az ad)) ++ List.replicate (n - (lg_sl (vs.map (q_v az ad))).length) Slot.unset).toArray) n (q_en vs ++ List.replicate k none) := by
  have hl := lv_entry (vs.map (q_v az ad)) (n := n) (by rw [q_en_len]; exact h)
  refine ⟨hl.1, hl.2.1, fun i v hv => ?_⟩
  by_cases hi : i < (q_en vs).length
  · rw [List.getElem?_append_left hi] at hv
    have := q_en_args az ad vs 0 i v hv
    rw [Nat.zero_add] at this
    exact hl.2.2 _ this
  · rw [List.getElem?_append_right (by omega), List.getElem?_replicate] at hv
    split at hv <;> cases hv
