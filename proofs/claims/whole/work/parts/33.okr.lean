/-! The methods' tables are in order (laid by prog/gen.py). -/
theorem q_lk_mem {α : Type} : ∀ {l : List (Nat × α)} {i : Nat} {v : α}, q_lk l i = some v → (i, v) ∈ l
  | q :: l, i, v, h => by
    unfold q_lk at h
    split at h
    · rename_i e
      cases h
      rw [← Nat.eq_of_beq_eq_true e]
      exact List.mem_cons_self
    · exact List.mem_cons_of_mem _ (q_lk_mem h)
theorem q_lk2_mem {α : Type} : ∀ {l : List (Nat × List (Nat × α))} {i : Nat} {v : α}, q_lk2 l i = some v → (i, v) ∈ l.flatMap (fun q => q.2)
  | q :: l, i, v, h => by
    unfold q_lk2 at h
    rw [List.flatMap_cons]
    split at h
    · exact List.mem_append_left _ (q_lk_mem h)
    · exact List.mem_append_right _ (q_lk2_mem h)
def q_dk (code : ByteArray) (l : List (Nat × List (Nat × Instr × Nat × List Nat))) : Bool := (l.flatMap (fun q => q.2)).all fun q => (decide (q.2.1 = .athrow) || decide (decode code q.1 = .ok (q.2.1, q.2.2.1))) && (match q_ln q.2.1 with
  | some n => Nat.beq n q.2.2.1
  | none => true) && (match q.2.1 with
  | .newarray a => (match a with
    | .int => true
    | .long => true
    | .boolean => true
    | _ => false)
  | _ => true)
theorem LW_good {M : q_M} (hW : ∀ w ∈ LW, w ∈ q_ws M) {w : Jvm.Cond} (h : w ∈ q_ws M) (hg : goodWord w = true := by rfl) : GoodIn (q_ws M) (w :: LW) := fun u hu => by
  rcases List.mem_cons.mp hu with rfl | hu
  · exact ⟨h, good_of_word hg⟩
  · exact ⟨hW u hu, good_of_word (List.mem_filter.mp hu).2⟩
section
variable {G : q_G} {P : Nat → q_M} {M : q_M} {i a b t : Nat}
theorem q_okR_f (ht : t < 3) (h : q_okF G M i t a b) : q_okR G P M i (t, a, b) := by
  refine ⟨fun _ => h, ?_, ?_, ?_, ?_, ?_, ?_, ?_, ?_, ?_, ?_, ?_⟩ <;> (intro e; exfalso; dsimp only at e; omega)
theorem q_okR_n (h : q_okN G M i a) : q_okR G P M i (3, a, b) := by
  refine ⟨fun e => absurd e (by simp), fun _ => h, ?_, ?_, ?_, ?_, ?_, ?_, ?_, ?_, ?_, ?_⟩ <;> (intro e; exfalso; dsimp only at e; omega)
theorem q_okR_a (h : q_okA G M (i - 100000) a) : q_okR G P M i (4, a, b) := by
  refine ⟨fun e => absurd e (by simp), ?_, fun _ => h, ?_, ?_, ?_, ?_, ?_, ?_, ?_, ?_, ?_⟩ <;> (intro e; exfalso; dsimp only at e; omega)
theorem q_okR_s (h : q_okS G M i a) : q_okR G P M i (5, a, b) := by
  refine ⟨fun e => absurd e (by simp), ?_, ?_, fun _ => h, ?_, ?_, ?_, ?_, ?_, ?_, ?_, ?_⟩ <;> (intro e; exfalso; dsimp only at e; omega)
theorem q_okR_none (xs : List Int32) {q : Nat × Nat × Nat} (i : Nat) (h : 30 ≤ q.1) : q_okR (GG xs) P M i q := by
  refine ⟨?_, ?_, ?_, ?_, ?_, ?_, ?_, ?_, ?_, ?_, ?_, ?_⟩ <;> (intro e; exfalso; omega)
theorem q_okR_v (h : q_okL G M (P a) i b ∧ Jvm.Cond.instanceMethod (q_y (P a)) ∈ q_ws M ∧ Jvm.Cond.selects (q_y (P a)).cls (q_y (P a)) (q_y (P a)) ∈ q_ws M ∧ ∃ (T : u_T) (N : Nat), (g_cl G)[q_ci (P a)]? = some ((q_y (P a)).cls, T, N)) : q_okR G P M i (10, a, b) := by
  refine ⟨fun e => absurd e (by simp), ?_, ?_, ?_, fun _ => h, ?_, ?_, ?_, ?_, ?_, ?_, ?_⟩ <;> (intro e; exfalso; dsimp only at e; omega)
theorem q_okR_i (h : q_okL G M (P a) i b ∧ Jvm.Cond.instanceMethod (q_y (P a)) ∈ q_ws M ∧ (q_y (P a)).name = "<init>" ∧ q_rt (P a) = none) : q_okR G P M i (11, a, b) := by
  refine ⟨fun e => absurd e (by simp), ?_, ?_, ?_, ?_, fun _ => h, ?_, ?_, ?_, ?_, ?_, ?_⟩ <;> (intro e; exfalso; dsimp only at e; omega)
theorem q_okR_t (h : q_okL G M (P a) i b ∧ Jvm.Cond.static (q_y (P a)) ∈ q_ws M) : q_okR G P M i (12, a, b) := by
  refine ⟨fun e => absurd e (by simp), ?_, ?_, ?_, ?_, ?_, fun _ => h, ?_, ?_, ?_, ?_, ?_⟩ <;> (intro e; exfalso; dsimp only at e; omega)
theorem q_okR_20 (h : (1 ≤ q_nf_ M ∧ 21 ≤ q_nl_ M) ∧ Jvm.Cond.methodLink (q_y M).cls i Lib.objectInit ∈ q_ws M ∧ Jvm.Cond.instanceMethod Lib.objectInit ∈ q_ws M ∧ Jvm.Cond.code Lib.objectInit ⟨#[0xb1]⟩ 1 none ∈ q_ws M) : q_okR G P M i (20, a, b) := by
  refine ⟨fun e => absurd e (by simp), ?_, ?_, ?_, ?_, ?_, ?_, fun _ => h, ?_, ?_, ?_, ?_⟩ <;> (intro e; exfalso; dsimp only at e; omega)
theorem q_okR_21 (h : (1 ≤ q_nf_ M ∧ 21 ≤ q_nl_ M) ∧ Jvm.Cond.methodLink (q_y M).cls i Lib.Math.min.name ∈ q_ws M ∧ Jvm.Cond.static Lib.Math.min.name ∈ q_ws M ∧ Jvm.Cond.initialized "java/lang/Math" ∈ q_ws M ∧ Jvm.Cond.code Lib.Math.min.name Lib.Math.min.code 2 (some .int) ∈ q_ws M) : q_okR G P M i (21, a, b) := by
  refine ⟨fun e => absurd e (by simp), ?_, ?_, ?_, ?_, ?_, ?_, ?_, fun _ => h, ?_, ?_, ?_⟩ <;> (intro e; exfalso; dsimp only at e; omega)
theorem q_okR_22 (h : (1 ≤ q_nf_ M ∧ 21 ≤ q_nl_ M) ∧ Jvm.Cond.methodLink (q_y M).cls i Lib.Math.max.name ∈ q_ws M ∧ Jvm.Cond.static Lib.Math.max.name ∈ q_ws M ∧ Jvm.Cond.initialized "java/lang/Math" ∈ q_ws M ∧ Jvm.Cond.code Lib.Math.max.name Lib.Math.max.code 2 (some .int) ∈ q_ws M) : q_okR G P M i (22, a, b) := by
  refine ⟨fun e => absurd e (by simp), ?_, ?_, ?_, ?_, ?_, ?_, ?_, ?_, fun _ => h, ?_, ?_⟩ <;> (intro e; exfalso; dsimp only at e; omega)
theorem q_okR_23 (h : (1 ≤ q_nf_ M ∧ 21 ≤ q_nl_ M) ∧ Jvm.Cond.methodLink (q_y M).cls i Lib.Math.abs.name ∈ q_ws M ∧ Jvm.Cond.static Lib.Math.abs.name ∈ q_ws M ∧ Jvm.Cond.initialized "java/lang/Math" ∈ q_ws M ∧ Jvm.Cond.code Lib.Math.abs.name Lib.Math.abs.code 1 (some .int) ∈ q_ws M) : q_okR G P M i (23, a, b) := by
  refine ⟨fun e => absurd e (by simp), ?_, ?_, ?_, ?_, ?_, ?_, ?_, ?_, ?_, fun _ => h, ?_⟩ <;> (intro e; exfalso; dsimp only at e; omega)
theorem q_okR_24 (h : (1 ≤ q_nf_ M ∧ 60 ≤ q_nl_ M) ∧ Jvm.Cond.methodLink (q_y M).cls i arraycopyName ∈ q_ws M ∧ Jvm.Cond.native arraycopyName ∈ q_ws M ∧ Jvm.Cond.static arraycopyName ∈ q_ws M ∧ Jvm.Cond.initialized "java/lang/System" ∈ q_ws M) : q_okR G P M i (24, a, b) := by
  refine ⟨fun e => absurd e (by simp), ?_, ?_, ?_, ?_, ?_, ?_, ?_, ?_, ?_, ?_, fun _ => h⟩ <;> (intro e; exfalso; dsimp only at e; omega)
end
theorem q_okM_of {xs : List Int32} {y : MethodName} {code : ByteArray} {nL : Nat} {rt : Option FieldType} {ci : Nat × Nat × Nat} {tb : List (Nat × List (Nat × Instr × Nat × List Nat))} {rs : List (Nat × Nat × Nat × Nat)} {cn : List (Nat × Value)} {M : q_M} (hp : plainName y.cls = true) (hM : M = (y, code, nL, rt, Jvm.Cond.code y code nL rt :: LW, ci, q_lk2 tb, q_lk rs, q_lk cn)) (hd : q_dk code tb = true) (hr : ∀ q ∈ rs, q_okR (GG xs) PP M q.1 q.2) (hk : ∀ q ∈ cn, q_okK M q.1 q.2) (hW : ∀ w ∈ LW, w ∈ q_ws M) : q_okM (GG xs) PP M := by
  subst hM
  have key : ∀ (pc : Nat) (ins : Instr) (len : Nat) (ks : List Nat), q_lk2 tb pc = some (ins, len, ks) → (ins ≠ .athrow → decode code pc = .ok (ins, len)) ∧ (∀ l, q_ln ins = some l → l = len) ∧ ∀ a, ins = .newarray a → a = .int ∨ a = .long ∨ a = .boolean := by
    intro pc ins len ks h
    have h1 := List.all_eq_true.mp hd _ (q_lk2_mem h)
    simp only [Bool.and_eq_true, Bool.or_eq_true, decide_eq_true_eq] at h1
    refine ⟨fun q => h1.1.1.resolve_left q, fun l hl => ?_, fun a ha => ?_⟩
    · have h2 := h1.1.2
      rw [hl] at h2
      exact Nat.eq_of_beq_eq_true h2
    · subst ha
      have h3 := h1.2
      cases a <;> first | (exact Or.inl rfl) | (exact Or.inr (Or.inl rfl)) | (exact Or.inr (Or.inr rfl)) | (cases h3)
  refine ⟨⟨hp, _, rfl⟩, fun pc ins len ks h => ⟨(key pc ins len ks h).1, (key pc ins len ks h).2.1⟩, fun i q h => hr _ (q_lk_mem h), fun i v h => hk _ (q_lk_mem h), fun pc a len ks h => ?_⟩
  rcases (key pc _ len ks h).2.2 a rfl with rfl | rfl | rfl
  · exact hW _ mw_74
  · exact hW _ mw_56
  · exact hW _ mw_200
