/-! DRAFT, never compiled yet (2026-11-15): the pure side of plan, redispatch and alone. Two searches over the same ways: backward (a value for each hour and state, then the first choice that reaches it), and forward (for each state the least pair of cost and way-as-number). Both find THE way that is best: least cost, of such the first. -/
-- a system of steps: hour, state, choice ↦ none, or the next state and what the step costs
abbrev dp_T := Nat → Nat → Nat → Option (Nat × Int)
def dp_run (T : dp_T) : Nat → Nat → List Nat → Option (Nat × Int)
  | _, s, [] => some (s, 0)
  | h, s, c :: cs => match T h s c with
    | none => none
    | some (s1, k) => match dp_run T (h + 1) s1 cs with
      | none => none
      | some (s2, k2) => some (s2, k + k2)
-- a way as a number, the earliest choice ahead
def dp_num (C : Nat) (cs : List Nat) : Nat := cs.foldl (fun a c => a * C + c) 0
def dp_dig (C : Nat) (cs : List Nat) : Prop := ∀ c, c ∈ cs → c < C
def dp_best (T : dp_T) (C H h s0 : Nat) (k : Int) (cs : List Nat) : Prop :=
  cs.length = H ∧ dp_dig C cs ∧ (∃ s, dp_run T h s0 cs = some (s, k)) ∧
  ∀ ds s k2, ds.length = H → dp_dig C ds → dp_run T h s0 ds = some (s, k2) →
    k < k2 ∨ (k = k2 ∧ dp_num C cs ≤ dp_num C ds)

theorem dp_fold (C : Nat) (cs : List Nat) (a : Nat) : cs.foldl (fun a c => a * C + c) a = a * C ^ cs.length + dp_num C cs := by
  induction cs generalizing a with
  | nil => simp [dp_num]
  | cons c cs ih =>
    have h1 := ih (a * C + c)
    have h2 := ih (0 * C + c)
    simp only [List.foldl_cons, List.length_cons, dp_num] at *
    rw [h1, h2, Nat.pow_succ, Nat.add_mul]
    simp only [Nat.zero_mul, Nat.zero_add]
    rw [show a * (C ^ cs.length * C) = a * C * C ^ cs.length by rw [Nat.mul_comm (C ^ cs.length) C, Nat.mul_assoc]]
    omega
theorem dp_num_cons (C c : Nat) (cs : List Nat) : dp_num C (c :: cs) = c * C ^ cs.length + dp_num C cs := by
  have h := dp_fold C cs (0 * C + c)
  simp only [Nat.zero_mul, Nat.zero_add] at h
  simpa [dp_num] using h
theorem dp_num_snoc (C c : Nat) (cs : List Nat) : dp_num C (cs ++ [c]) = dp_num C cs * C + c := by
  simp [dp_num, List.foldl_append]
theorem dp_num_lt (C : Nat) (cs : List Nat) (h : dp_dig C cs) : dp_num C cs < C ^ cs.length := by
  induction cs with
  | nil => simp [dp_num]
  | cons c cs ih =>
    rw [dp_num_cons, List.length_cons, Nat.pow_succ]
    have h1 := ih (fun d hd => h d (List.mem_cons_of_mem _ hd))
    have h2 : c + 1 ≤ C := h c (List.mem_cons_self ..)
    have h3 : (c + 1) * C ^ cs.length ≤ C * C ^ cs.length := Nat.mul_le_mul_right _ h2
    rw [Nat.add_mul, Nat.one_mul] at h3
    rw [Nat.mul_comm (C ^ cs.length) C]
    omega
theorem dp_num_inj (C : Nat) : ∀ (cs ds : List Nat), cs.length = ds.length → dp_dig C cs → dp_dig C ds → dp_num C cs = dp_num C ds → cs = ds
  | [], [], _, _, _, _ => rfl
  | [], _ :: _, h, _, _, _ => by simp at h
  | _ :: _, [], h, _, _, _ => by simp at h
  | c :: cs, d :: ds, hl, hc, hd, h => by
    have hl' : cs.length = ds.length := by simpa using hl
    have a1 := dp_num_lt C cs (fun x hx => hc x (List.mem_cons_of_mem _ hx))
    have a2 := dp_num_lt C ds (fun x hx => hd x (List.mem_cons_of_mem _ hx))
    rw [dp_num_cons, dp_num_cons] at h
    rw [← hl'] at h a2
    have e : c = d := by
      rcases Nat.lt_trichotomy c d with q | q | q
      · have : (c + 1) * C ^ cs.length ≤ d * C ^ cs.length := Nat.mul_le_mul_right _ q
        rw [Nat.add_mul, Nat.one_mul] at this; omega
      · exact q
      · have : (d + 1) * C ^ cs.length ≤ c * C ^ cs.length := Nat.mul_le_mul_right _ q
        rw [Nat.add_mul, Nat.one_mul] at this; omega
    subst e
    have := dp_num_inj C cs ds hl' (fun x hx => hc x (List.mem_cons_of_mem _ hx)) (fun x hx => hd x (List.mem_cons_of_mem _ hx)) (by omega)
    rw [this]
theorem dp_best_one {T C H h s0 k k' cs cs'} (a : dp_best T C H h s0 k cs) (b : dp_best T C H h s0 k' cs') : k = k' ∧ cs = cs' := by
  obtain ⟨a1, a2, ⟨sa, a3⟩, a4⟩ := a
  obtain ⟨b1, b2, ⟨sb, b3⟩, b4⟩ := b
  have x := a4 cs' sb k' b1 b2 b3
  have y := b4 cs sa k a1 a2 a3
  have e : k = k' := by omega
  refine ⟨e, dp_num_inj C cs cs' (by omega) a2 b2 (by omega)⟩

-- backward: V h s is the least cost of the ways from hour h, state s, to the end
def dp_back (T : dp_T) (C : Nat) (V : Nat → Nat → Option Int) (h s : Nat) : Prop :=
  (∀ c s1 k v, c < C → T h s c = some (s1, k) → V (h + 1) s1 = some v → ∃ m, V h s = some m ∧ m ≤ k + v) ∧
  (∀ m, V h s = some m → ∃ c s1 k v, c < C ∧ T h s c = some (s1, k) ∧ V (h + 1) s1 = some v ∧ m = k + v)
-- the first choice that reaches the value
def dp_first (T : dp_T) (C : Nat) (V : Nat → Nat → Option Int) (h s c : Nat) : Prop :=
  (c < C ∧ ∃ s1 k v, T h s c = some (s1, k) ∧ V (h + 1) s1 = some v ∧ V h s = some (k + v)) ∧
  ∀ d, d < c → ¬ ∃ s1 k v, T h s d = some (s1, k) ∧ V (h + 1) s1 = some v ∧ V h s = some (k + v)
-- the way that goes by first choices
def dp_goes (T : dp_T) (C : Nat) (V : Nat → Nat → Option Int) : Nat → Nat → List Nat → Prop
  | _, _, [] => True
  | h, s, c :: cs => dp_first T C V h s c ∧ ∃ s1 k, T h s c = some (s1, k) ∧ dp_goes T C V (h + 1) s1 cs
-- every way costs the value or more (and there is a value)
theorem dp_least {T C V} (H : Nat) : ∀ (n h s : Nat), h + n = H → (∀ h' s', h ≤ h' → h' < H → dp_back T C V h' s') → (∀ s', V H s' = some 0) →
    ∀ ds s2 k2, ds.length = n → dp_dig C ds → dp_run T h s ds = some (s2, k2) → ∃ m, V h s = some m ∧ m ≤ k2
  | 0, h, s, hn, _, hE, ds, s2, k2, hl, _, hr => by
    obtain rfl : ds = [] := List.eq_nil_of_length_eq_zero hl
    simp only [dp_run, Option.some.injEq, Prod.mk.injEq] at hr
    obtain rfl : h = H := by omega
    exact ⟨0, hE s, by omega⟩
  | n + 1, h, s, hn, hB, hE, [], s2, k2, hl, _, hr => by simp at hl
  | n + 1, h, s, hn, hB, hE, c :: ds, s2, k2, hl, hd, hr => by
    simp only [dp_run] at hr
    split at hr
    · cases hr
    · rename_i s1 k e1
      split at hr
      · cases hr
      · rename_i s3 k3 e2
        simp only [Option.some.injEq, Prod.mk.injEq] at hr
        obtain ⟨v, hv, hv2⟩ := dp_least H n (h + 1) s1 (by omega) (fun h' s' q1 q2 => hB h' s' (by omega) q2) hE ds s3 k3 (by simpa using hl) (fun x hx => hd x (List.mem_cons_of_mem _ hx)) e2
        obtain ⟨m, hm, hm2⟩ := (hB h s (Nat.le_refl _) (by omega)).1 c s1 k v (hd c (List.mem_cons_self ..)) e1 hv
        exact ⟨m, hm, by omega⟩
-- the way by first choices is the best one
theorem dp_back_best {T C V} (H : Nat) : ∀ (n h s : Nat), h + n = H → (∀ h' s', h ≤ h' → h' < H → dp_back T C V h' s') → (∀ s', V H s' = some 0) →
    ∀ m cs, V h s = some m → cs.length = n → dp_goes T C V h s cs → dp_best T C n h s m cs
  | 0, h, s, hn, _, hE, m, cs, hm, hl, _ => by
    obtain rfl : cs = [] := List.eq_nil_of_length_eq_zero hl
    obtain rfl : h = H := by omega
    have : m = 0 := by have := hE s; rw [hm] at this; simpa using this
    subst this
    refine ⟨rfl, fun _ h => by simp at h, ⟨s, rfl⟩, fun ds s k2 hl _ hr => ?_⟩
    obtain rfl : ds = [] := List.eq_nil_of_length_eq_zero hl
    simp only [dp_run, Option.some.injEq, Prod.mk.injEq] at hr
    exact Or.inr ⟨hr.2, Nat.le_refl _⟩
  | n + 1, h, s, hn, hB, hE, m, [], hm, hl, _ => by simp at hl
  | n + 1, h, s, hn, hB, hE, m, c :: cs, hm, hl, hg => by
    obtain ⟨⟨⟨hc, s1, k, v, e1, ev, em⟩, hf⟩, s1', k', e1', hg⟩ := hg
    rw [e1] at e1'
    simp only [Option.some.injEq, Prod.mk.injEq] at e1'
    obtain ⟨rfl, rfl⟩ := e1'
    have emk : m = k + v := by rw [hm] at em; simpa using em
    have hlc : cs.length = n := by simpa using hl
    obtain ⟨b1, b2, ⟨s2, b3⟩, b4⟩ := dp_back_best H n (h + 1) s1 (by omega) (fun h' s' q1 q2 => hB h' s' (by omega) q2) hE v cs ev hlc hg
    refine ⟨hl, fun x hx => ?_, ⟨s2, ?_⟩, fun ds s3 k3 hdl hdd hdr => ?_⟩
    · rcases List.mem_cons.1 hx with rfl | hx
      · exact hc
      · exact b2 x hx
    · simp only [dp_run, e1, b3, emk]
    · cases ds with
      | nil => simp at hdl
      | cons d ds =>
        have hdl' : ds.length = n := by simpa using hdl
        have hdd' : dp_dig C ds := fun x hx => hdd x (List.mem_cons_of_mem _ hx)
        have hdc : d < C := hdd d (List.mem_cons_self ..)
        simp only [dp_run] at hdr
        split at hdr
        · cases hdr
        · rename_i t1 j e2
          split at hdr
          · cases hdr
          · rename_i t2 j2 e3
            simp only [Option.some.injEq, Prod.mk.injEq] at hdr
            obtain ⟨w, hw, hw2⟩ := dp_least H n (h + 1) t1 (by omega) (fun h' s' q1 q2 => hB h' s' (by omega) q2) hE ds t2 j2 hdl' hdd' e3
            obtain ⟨m', hm', hm2⟩ := (hB h s (Nat.le_refl _) (by omega)).1 d t1 j w hdc e2 hw
            have : m' = m := by rw [hm] at hm'; simpa using hm'.symm
            subst this
            rcases Int.lt_or_le m' k3 with q | q
            · exact Or.inl q
            · have ek : m' = k3 := by omega
              refine Or.inr ⟨ek, ?_⟩
              have ew : m' = j + w := by omega
              rcases Nat.lt_trichotomy d c with q1 | q1 | q1
              · exact absurd ⟨t1, j, w, e2, hw, by rw [hm, ew]⟩ (hf d q1)
              · subst q1
                rw [e1] at e2
                simp only [Option.some.injEq, Prod.mk.injEq] at e2
                obtain ⟨rfl, rfl⟩ := e2
                rw [dp_num_cons, dp_num_cons, hlc, hdl']
                rcases b4 ds t2 j2 hdl' hdd' e3 with z | z
                · omega
                · omega
              · rw [dp_num_cons, dp_num_cons, hlc, hdl']
                have z1 := dp_num_lt C cs b2
                have z2 : (c + 1) * C ^ n ≤ d * C ^ n := Nat.mul_le_mul_right _ q1
                rw [Nat.add_mul, Nat.one_mul] at z2
                rw [hlc] at z1
                omega

-- forward: for each state that a way of n choices reaches, the least pair (cost, number)
def dp_le (k : Int) (w : Nat) (k2 : Int) (w2 : Nat) : Prop := k < k2 ∨ (k = k2 ∧ w ≤ w2)
def dp_layer (T : dp_T) (C h0 s0 n : Nat) (L : Nat → Option (Int × Nat)) : Prop :=
  (∀ s k w, L s = some (k, w) → ∃ cs, cs.length = n ∧ dp_dig C cs ∧ dp_run T h0 s0 cs = some (s, k) ∧ dp_num C cs = w) ∧
  (∀ cs s k, cs.length = n → dp_dig C cs → dp_run T h0 s0 cs = some (s, k) → ∃ k1 w1, L s = some (k1, w1) ∧ dp_le k1 w1 k (dp_num C cs))
theorem dp_run_snoc (T : dp_T) : ∀ (cs : List Nat) (h s c : Nat), dp_run T h s (cs ++ [c]) = match dp_run T h s cs with
    | none => none
    | some (s1, k) => match T (h + cs.length) s1 c with
      | none => none
      | some (s2, k2) => some (s2, k + k2)
  | [], h, s, c => by
    simp only [List.nil_append, dp_run, List.length_nil, Nat.add_zero]
    cases T h s c with
    | none => rfl
    | some p => simp
  | d :: cs, h, s, c => by
    simp only [List.cons_append, dp_run, List.length_cons]
    cases T h s d with
    | none => rfl
    | some p =>
      simp only
      rw [dp_run_snoc T cs (h + 1) p.1 c]
      cases dp_run T (h + 1) p.1 cs with
      | none => rfl
      | some q =>
        simp only
        rw [show h + 1 + cs.length = h + (cs.length + 1) by omega]
        cases T (h + (cs.length + 1)) q.1 c with
        | none => rfl
        | some r => simp only [Int.add_assoc]
-- the next layer: what it holds is offered, and it holds nothing worse than what is offered
theorem dp_layer_next {T C h0 s0 n L M} (hL : dp_layer T C h0 s0 n L)
    (h1 : ∀ s k w, M s = some (k, w) → ∃ s1 k1 w1 c j, L s1 = some (k1, w1) ∧ c < C ∧ T (h0 + n) s1 c = some (s, j) ∧ k = k1 + j ∧ w = w1 * C + c)
    (h2 : ∀ s1 k1 w1 c s j, L s1 = some (k1, w1) → c < C → T (h0 + n) s1 c = some (s, j) → ∃ k w, M s = some (k, w) ∧ dp_le k w (k1 + j) (w1 * C + c)) :
    dp_layer T C h0 s0 (n + 1) M := by
  constructor
  · intro s k w hM
    obtain ⟨s1, k1, w1, c, j, a1, a2, a3, a4, a5⟩ := h1 s k w hM
    obtain ⟨cs, b1, b2, b3, b4⟩ := hL.1 s1 k1 w1 a1
    refine ⟨cs ++ [c], by simp [b1], fun x hx => ?_, ?_, by rw [dp_num_snoc, b4, a5]⟩
    · rcases List.mem_append.1 hx with hx | hx
      · exact b2 x hx
      · have : x = c := by simpa using hx
        omega
    · rw [dp_run_snoc, b3]
      simp only [b1, a3, a4]
  · intro cs s k hl hd hr
    have hne : cs ≠ [] := by intro e; subst e; simp at hl
    obtain ⟨ds, c, rfl⟩ : ∃ ds c, cs = ds ++ [c] := ⟨cs.dropLast, cs.getLast hne, (List.dropLast_concat_getLast hne).symm⟩
    have hdl : ds.length = n := by simpa using hl
    have hdd : dp_dig C ds := fun x hx => hd x (List.mem_append_left _ hx)
    have hdc : c < C := hd c (List.mem_append_right _ (by simp))
    rw [dp_run_snoc] at hr
    split at hr
    · cases hr
    · rename_i s1 k1 e1
      split at hr
      · cases hr
      · rename_i s2 k2 e2
        simp only [Option.some.injEq, Prod.mk.injEq] at hr
        obtain ⟨rfl, rfl⟩ := hr
        obtain ⟨k3, w3, f1, f2⟩ := hL.2 ds s1 k1 hdl hdd e1
        rw [hdl] at e2
        obtain ⟨k4, w4, g1, g2⟩ := h2 s1 k3 w3 c s2 k2 f1 hdc e2
        refine ⟨k4, w4, g1, ?_⟩
        rw [dp_num_snoc]
        have mono : w3 ≤ dp_num C ds → w3 * C ≤ dp_num C ds * C := fun q => Nat.mul_le_mul_right _ q
        unfold dp_le at *
        rcases f2 with f2 | ⟨f2, f3⟩
        · rcases g2 with g2 | g2 <;> exact Or.inl (by omega)
        · have := mono f3
          rcases g2 with g2 | ⟨g2, g3⟩
          · exact Or.inl (by omega)
          · exact Or.inr ⟨by omega, by omega⟩
theorem dp_layer_zero (T : dp_T) (C h0 s0 : Nat) (L : Nat → Option (Int × Nat)) (h1 : L s0 = some (0, 0)) (h2 : ∀ s, s ≠ s0 → L s = none) : dp_layer T C h0 s0 0 L := by
  constructor
  · intro s k w hs
    by_cases e : s = s0
    · subst e
      rw [h1] at hs
      simp only [Option.some.injEq, Prod.mk.injEq] at hs
      exact ⟨[], rfl, fun _ h => by simp at h, by simp [dp_run, hs.1], by simp [dp_num, hs.2]⟩
    · rw [h2 s e] at hs
      cases hs
  · intro cs s k hl _ hr
    obtain rfl : cs = [] := List.eq_nil_of_length_eq_zero hl
    simp only [dp_run, Option.some.injEq, Prod.mk.injEq] at hr
    obtain ⟨rfl, rfl⟩ := hr
    exact ⟨0, 0, h1, Or.inr ⟨rfl, by simp [dp_num]⟩⟩
-- the least of a layer is the best way
theorem dp_layer_best {T C h0 s0 n L} (hL : dp_layer T C h0 s0 n L) (s k w) (hs : L s = some (k, w)) (hm : ∀ s' k' w', L s' = some (k', w') → dp_le k w k' w') : ∃ cs, dp_best T C n h0 s0 k cs ∧ dp_num C cs = w := by
  obtain ⟨cs, a1, a2, a3, a4⟩ := hL.1 s k w hs
  refine ⟨cs, ⟨a1, a2, ⟨s, a3⟩, fun ds s2 k2 hl hd hr => ?_⟩, a4⟩
  obtain ⟨k3, w3, b1, b2⟩ := hL.2 ds s2 k2 hl hd hr
  have := hm s2 k3 w3 b1
  unfold dp_le at *
  rw [a4]
  omega
theorem dp_layer_none {T C h0 s0 n L} (hL : dp_layer T C h0 s0 n L) (hn : ∀ s, L s = none) (ds s k) (hl : ds.length = n) (hd : dp_dig C ds) : dp_run T h0 s0 ds ≠ some (s, k) := by
  intro hr
  obtain ⟨k3, w3, b1, _⟩ := hL.2 ds s k hl hd hr
  rw [hn s] at b1
  cases b1

-- two systems that answer alike through a map of states have the same best ways
theorem dp_run_map {T U : dp_T} (f : Nat → Nat) (I : Nat → Prop)
    (hI : ∀ h s c s1 k, I s → T h s c = some (s1, k) → I s1)
    (hT : ∀ h s c, I s → U h (f s) c = match T h s c with | none => none | some (s1, k) => some (f s1, k)) :
    ∀ (cs : List Nat) (h s : Nat), I s → dp_run U h (f s) cs = match dp_run T h s cs with | none => none | some (s1, k) => some (f s1, k)
  | [], h, s, _ => rfl
  | c :: cs, h, s, hs => by
    simp only [dp_run]
    rw [hT h s c hs]
    cases e : T h s c with
    | none => rfl
    | some p =>
      simp only
      rw [dp_run_map f I hI hT cs (h + 1) p.1 (hI h s c p.1 p.2 hs e)]
      cases dp_run T (h + 1) p.1 cs with
      | none => rfl
      | some q => rfl
