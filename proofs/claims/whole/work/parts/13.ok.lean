/-! What the tables must say of a method, and that one step of the abstract machine is one of the Statement's. -/
def q_ln : Instr → Option Nat
  | .iconst _ => some 1
  | .bipush _ => some 2
  | .sipush _ => some 3
  | .lconst _ => some 1
  | .ldc _ => some 2
  | .ldc2_w _ => some 3
  | .iload_n _ => some 1
  | .iload _ => some 2
  | .lload_n _ => some 1
  | .lload _ => some 2
  | .aload_n _ => some 1
  | .aload _ => some 2
  | .istore_n _ => some 1
  | .istore _ => some 2
  | .lstore_n _ => some 1
  | .lstore _ => some 2
  | .astore_n _ => some 1
  | .astore _ => some 2
  | .iinc _ _ => some 3
  | .iadd => some 1
  | .isub => some 1
  | .imul => some 1
  | .iand => some 1
  | .ior => some 1
  | .ishl => some 1
  | .idiv => some 1
  | .irem => some 1
  | .ladd => some 1
  | .lsub => some 1
  | .lmul => some 1
  | .ldiv => some 1
  | .lrem => some 1
  | .ineg => some 1
  | .i2l => some 1
  | .l2i => some 1
  | .lcmp => some 1
  | .dup => some 1
  | .pop => some 1
  | .dup_x1 => some 1
  | .dup2 => some 1
  | .goto _ => some 3
  | .ifCond _ _ => some 3
  | .if_icmp _ _ => some 3
  | .getfield _ => some 3
  | .putfield _ => some 3
  | .getstatic _ => some 3
  | .iaload => some 1
  | .laload => some 1
  | .baload => some 1
  | .aaload => some 1
  | .iastore => some 1
  | .lastore => some 1
  | .bastore => some 1
  | .aastore => some 1
  | .arraylength => some 1
  | .new _ => some 3
  | .newarray _ => some 2
  | .anewarray _ => some 3
  | .invokespecial _ => some 3
  | .invokestatic _ => some 3
  | .invokevirtual _ => some 3
  | .ireturn => some 1
  | .lreturn => some 1
  | .areturn => some 1
  | .return_ => some 1
  | _ => none
def q_okF (G : q_G) (M : q_M) (i tag ci sl : Nat) : Prop := ∃ (C : String) (T : u_T) (N : Nat), (g_cl G)[ci]? = some (C, T, N) ∧ sl < N ∧ (∀ w ∈ u_ws C T N, w ∈ q_ws M) ∧ (∀ k, k < N → parseFieldDescriptor (T k).2.2.1 = some (g_ft G ci k)) ∧ (∀ a, a < N → ∀ b, b < N → a ≠ b → (T a).2.1 ≠ (T b).2.1) ∧
  (Jvm.Cond.fieldLink (q_y M).cls i (T sl).1 (T sl).2.1 (T sl).2.2.1 ∈ q_ws M ∨ ∃ host, Jvm.Cond.fieldLinkNest (q_y M).cls i (T sl).1 (T sl).2.1 (T sl).2.2.1 host ∈ g_nw G) ∧
  (tag = 0 → (T sl).2.2.2 = false) ∧ (tag = 2 → (T sl).2.2.2 = true ∧ (q_y M).name = "<init>" ∧ (T sl).1 = (q_y M).cls ∧ Jvm.Cond.fieldLink (q_y M).cls i (T sl).1 (T sl).2.1 (T sl).2.2.1 ∈ q_ws M)
def q_okN (G : q_G) (M : q_M) (i ci : Nat) : Prop := ∃ (C : String) (T : u_T) (N : Nat), (g_cl G)[ci]? = some (C, T, N) ∧ (∀ w ∈ u_ws C T N, w ∈ q_ws M) ∧ (∀ k, k < N → parseFieldDescriptor (T k).2.2.1 = some (g_ft G ci k)) ∧ (∀ k, k < N → q_kd (g_ft G ci k) < 3) ∧
  Jvm.Cond.classLink (q_y M).cls i C ∈ q_ws M ∧ Jvm.Cond.instantiable C N ∈ q_ws M ∧ Jvm.Cond.initialized C ∈ q_ws M
def q_okA (G : q_G) (M : q_M) (i t : Nat) : Prop := ∃ C : String, g_at G t = .object C ∧ t < g_na G ∧ Jvm.Cond.classLink (q_y M).cls i C ∈ q_ws M ∧ Jvm.Cond.arrayOver (.object C) ∈ g_nw G
def q_okS (G : q_G) (M : q_M) (i t : Nat) : Prop := ∃ q, (g_sz G)[t]? = some q ∧ q.1 ≠ "" ∧ (Jvm.Cond.fieldLink (q_y M).cls i q.1 q.2.1 q.2.2.1 ∈ q_ws M ∨ ∃ host, Jvm.Cond.fieldLinkNest (q_y M).cls i q.1 q.2.1 q.2.2.1 host ∈ g_nw G)
def q_okL (G : q_G) (M M' : q_M) (i n : Nat) : Prop := GoodIn (q_ws M) (q_ws M') ∧ Jvm.Cond.initialized (q_y M').cls ∈ q_ws M ∧ (Jvm.Cond.methodLink (q_y M).cls i (q_y M') ∈ q_ws M ∨ ∃ host, Jvm.Cond.methodLinkNest (q_y M).cls i (q_y M') host ∈ g_nw G) ∧
  (q_y M').cls ≠ "java/lang/invoke/MethodHandle" ∧ (q_y M').cls ≠ "java/lang/invoke/VarHandle" ∧ (parseMethodDescriptor (q_y M').desc).map (fun d => d.parameters.length) = some n ∧ q_nf_ M' + 1 ≤ q_nf_ M ∧ 8 + (q_nL M' + 11) + q_nl_ M' ≤ q_nl_ M
def q_okR (G : q_G) (P : Nat → q_M) (M : q_M) (i : Nat) (q : Nat × Nat × Nat) : Prop :=
  (q.1 < 3 → q_okF G M i q.1 q.2.1 q.2.2) ∧ (q.1 = 3 → q_okN G M i q.2.1) ∧ (q.1 = 4 → q_okA G M (i - 100000) q.2.1) ∧ (q.1 = 5 → q_okS G M i q.2.1) ∧
  (q.1 = 10 → q_okL G M (P q.2.1) i q.2.2 ∧ Jvm.Cond.instanceMethod (q_y (P q.2.1)) ∈ q_ws M ∧ Jvm.Cond.selects (q_y (P q.2.1)).cls (q_y (P q.2.1)) (q_y (P q.2.1)) ∈ q_ws M ∧ ∃ (T : u_T) (N : Nat), (g_cl G)[q_ci (P q.2.1)]? = some ((q_y (P q.2.1)).cls, T, N)) ∧
  (q.1 = 11 → q_okL G M (P q.2.1) i q.2.2 ∧ Jvm.Cond.instanceMethod (q_y (P q.2.1)) ∈ q_ws M ∧ (q_y (P q.2.1)).name = "<init>" ∧ q_rt (P q.2.1) = none) ∧
  (q.1 = 12 → q_okL G M (P q.2.1) i q.2.2 ∧ Jvm.Cond.static (q_y (P q.2.1)) ∈ q_ws M) ∧
  (q.1 = 20 → (1 ≤ q_nf_ M ∧ 21 ≤ q_nl_ M) ∧ Jvm.Cond.methodLink (q_y M).cls i Lib.objectInit ∈ q_ws M ∧ Jvm.Cond.instanceMethod Lib.objectInit ∈ q_ws M ∧ Jvm.Cond.code Lib.objectInit ⟨#[0xb1]⟩ 1 none ∈ q_ws M) ∧
  (q.1 = 21 → (1 ≤ q_nf_ M ∧ 21 ≤ q_nl_ M) ∧ Jvm.Cond.methodLink (q_y M).cls i Lib.Math.min.name ∈ q_ws M ∧ Jvm.Cond.static Lib.Math.min.name ∈ q_ws M ∧ Jvm.Cond.initialized "java/lang/Math" ∈ q_ws M ∧ Jvm.Cond.code Lib.Math.min.name Lib.Math.min.code 2 (some .int) ∈ q_ws M) ∧
  (q.1 = 22 → (1 ≤ q_nf_ M ∧ 21 ≤ q_nl_ M) ∧ Jvm.Cond.methodLink (q_y M).cls i Lib.Math.max.name ∈ q_ws M ∧ Jvm.Cond.static Lib.Math.max.name ∈ q_ws M ∧ Jvm.Cond.initialized "java/lang/Math" ∈ q_ws M ∧ Jvm.Cond.code Lib.Math.max.name Lib.Math.max.code 2 (some .int) ∈ q_ws M) ∧
  (q.1 = 23 → (1 ≤ q_nf_ M ∧ 21 ≤ q_nl_ M) ∧ Jvm.Cond.methodLink (q_y M).cls i Lib.Math.abs.name ∈ q_ws M ∧ Jvm.Cond.static Lib.Math.abs.name ∈ q_ws M ∧ Jvm.Cond.initialized "java/lang/Math" ∈ q_ws M ∧ Jvm.Cond.code Lib.Math.abs.name Lib.Math.abs.code 1 (some .int) ∈ q_ws M) ∧
  (q.1 = 24 → (1 ≤ q_nf_ M ∧ 60 ≤ q_nl_ M) ∧ Jvm.Cond.methodLink (q_y M).cls i arraycopyName ∈ q_ws M ∧ Jvm.Cond.native arraycopyName ∈ q_ws M ∧ Jvm.Cond.static arraycopyName ∈ q_ws M ∧ Jvm.Cond.initialized "java/lang/System" ∈ q_ws M)
def q_okK (M : q_M) (i : Nat) (v : Value) : Prop := (∀ x, v = .int x → Jvm.Cond.constant (q_y M).cls i x ∈ q_ws M) ∧ (∀ x, v = .long x → Jvm.Cond.constantLong (q_y M).cls i x ∈ q_ws M)
def q_okM (G : q_G) (P : Nat → q_M) (M : q_M) : Prop :=
  (plainName (q_y M).cls = true ∧ ∃ ws', q_ws M = Jvm.Cond.code (q_y M) (q_code M) (q_nL M) (q_rt M) :: ws') ∧
  (∀ (pc : Nat) (ins : Instr) (len : Nat) (ks : List Nat), q_tb M pc = some (ins, len, ks) → (ins ≠ .athrow → decode (q_code M) pc = .ok (ins, len)) ∧ ∀ l, q_ln ins = some l → l = len) ∧
  (∀ (i : Nat) (q : Nat × Nat × Nat), q_rs M i = some q → q_okR G P M i q) ∧ (∀ (i : Nat) (v : Value), q_cn M i = some v → q_okK M i v) ∧
  (∀ (pc : Nat) (a : ArrayType) (len : Nat) (ks : List Nat), q_tb M pc = some (.newarray a, len, ks) → Jvm.Cond.arrayClass (newarray.typeOf a) ∈ q_ws M)
def q_okG (G : q_G) : Prop := g_at G 0 = .int ∧ g_at G 1 = .long ∧ g_at G 2 = .boolean ∧ 3 ≤ g_na G ∧
  ∀ w ∈ g_nw G, (∃ a i b n d h, w = Jvm.Cond.fieldLinkNest a i b n d h) ∨ (∃ a i x h, w = Jvm.Cond.methodLinkNest a i x h) ∨ ∃ C, w = Jvm.Cond.arrayOver (.object C)
theorem q_dec {G : q_G} {P : Nat → q_M} {M : q_M} (hM : q_okM G P M) {pc : Nat} {ins : Instr} {len : Nat} {ks : List Nat} (ht : q_tb M pc = some (ins, len, ks)) {l : Nat} (hl : q_ln ins = some l) : decode (q_code M) pc = .ok (ins, l) := by
  obtain ⟨h1, h2⟩ := hM.2.1 pc ins len ks ht
  rw [h2 l hl]
  exact h1 (fun q => by subst q; cases hl)
def q_tys (G : q_G) (dA : Nat → ClassId) : List (ClassId × FieldType) := (List.range (g_na G)).map fun t => (dA t, g_at G t)
theorem q_tys_at {G : q_G} {dA : Nat → ClassId} {t : Nat} (h : t < g_na G) : (q_tys G dA)[t]? = some (dA t, g_at G t) := by
  simp [q_tys, h]
/-- the static tables -/
def q_Z (SZ : List (String × String × String × List Int32)) (az : Nat → Nat) (A : Nat → Prop) (U : State) (H : Heap) : Prop := ∀ (t : Nat) (q : String × String × String × List Int32), SZ[t]? = some q → (q.1 ≠ "" → va_Z q.1 q.2.1 q.2.2.1 (.ref (az t)) A U H) ∧ va_T .int (az t) q.2.2.2.length (fun j => .int (q.2.2.2.getD j 0)) A U H
theorem q_Z.moved {SZ : List (String × String × String × List Int32)} {az : Nat → Nat} {A : Nat → Prop} {u U : State} {H : Heap} (hvm : u.vm.Alike U.vm) (h : q_Z SZ az A u H) : q_Z SZ az A U H := fun t q hq => ⟨fun hn => ((h t q hq).1 hn).moved hvm, (h t q hq).2.moved hvm⟩
theorem q_Z.kept {SZ : List (String × String × String × List Int32)} {az : Nat → Nat} {A : Nat → Prop} {U : State} {H H1 : Heap} (h : q_Z SZ az A U H) (hq : ∀ a : Nat, a < H.size → ¬ A a → H1[a]? = H[a]?) : q_Z SZ az A U H1 := fun t q ht => ⟨fun hn => ((h t q ht).1 hn).kept hq, (h t q ht).2.kept hq⟩
theorem q_Z.narrow {SZ : List (String × String × String × List Int32)} {az : Nat → Nat} {A B : Nat → Prop} {U : State} {H : Heap} (h : q_Z SZ az A U H) (hAB : ∀ q, B q → A q) : q_Z SZ az B U H := fun t q ht => ⟨fun hn => ((h t q ht).1 hn).narrow hAB, (h t q ht).2.narrow hAB⟩
def q_ss (G : q_G) : q_Sh → Nat
  | .inl ci => q_nf G ci
  | .inr q => q.2
def q_sl (G : q_G) (l : List q_Sh) : Nat := (l.map (q_ss G)).sum
theorem q_sl_app (G : q_G) (l x : List q_Sh) : q_sl G (l ++ x) = q_sl G l + q_sl G x := by
  simp [q_sl]
/-- a method's frame -/
def q_fr (G : q_G) (D : va_G) (dA : Nat → ClassId) (az : Nat → Nat) (M : q_M) (p : Program) (R : Room) (s : State) (m : MethodId) (args : Array Value) (meth : Method) (c : Code) (A : Nat → Prop) : Prop :=
  p.tables.exec = Jvm.exec ∧ c.code = q_code M ∧ c.maxLocals = q_nL M ∧ s.vm.findClass (q_y M).cls = some m.cls ∧ (∀ w ∈ q_ws M, w.before args s = true) ∧ meth.name = (q_y M).name ∧ va_K D (g_cl G) (q_tys G dA) s ∧ (∀ q, s.heap.size ≤ q → A q) ∧ q_Z (g_sz G) az A s s.heap ∧ (∀ w ∈ g_nw G, va_Nw w s) ∧ q_nf_ M ≤ R.frames ∧ q_nl_ M ≤ R.locals
def q_wd (G : q_G) (D : va_G) (dA : Nat → ClassId) (s : State) (A : Nat → Prop) (ad : Nat → Nat) (H : q_H) (Hp : Heap) (locs : List Loc) : Prop := va_P D (g_cl G) (q_w G dA ad H) Hp ∧ va_D A (q_w G dA ad H) ∧ va_S A s.heap Hp locs
theorem q_v_rf (az ad : Nat → Nat) (o : Option Nat) : q_v az ad (va_rf o) = va_rf (o.map ad) := by
  cases o <;> rfl
theorem q_fa_v (G : q_G) (az ad : Nat → Nat) (H : q_H) (a ci sl : Nat) : q_v az ad (q_fa G H a ci sl) = q_fv G ad H a ci sl := by
  unfold q_fa q_fv
  split
  · rfl
  · split
    · rfl
    · exact q_v_rf az ad _
theorem q_map_ad {az ad ad' : Nat → Nat} {n : Nat} (h : ∀ i, i < n → ad' i = ad i) {st : List Value} (w : q_wfs n st) : st.map (q_v az ad') = st.map (q_v az ad) := by
  apply List.map_congr_left
  intro v hv
  cases v with
  | ref i => simp only [q_v]; rw [h i (w i hv)]
  | _ => rfl
theorem q_L_ad {az ad ad' : Nat → Nat} {n nL : Nat} {lsA : Array Slot} {ls : List (Option Value)} (h : ∀ i, i < n → ad' i = ad i) (w : q_wfl n ls) (hl : q_L az ad lsA nL ls) : q_L az ad' lsA nL ls := ⟨hl.1, hl.2.1, fun i v hv => by
  rw [hl.2.2 i v hv]
  cases v with
  | ref j => simp only [q_v]; rw [h j (w j (List.mem_of_getElem? hv))]
  | _ => rfl⟩
theorem q_e_ad {G : q_G} {dA : Nat → ClassId} {ad ad' : Nat → Nat} {H : q_H} {n : Nat} (h : ∀ i, i < n → ad' i = ad i) (w : ∀ i j r, H.2.2.2 i j = some r → r < n) (i : Nat) (sh : q_Sh) : q_e G dA ad' H i sh = q_e G dA ad H i sh := by
  have hr : ∀ i j, (H.2.2.2 i j).map ad' = (H.2.2.2 i j).map ad := fun i j => by
    cases ho : H.2.2.2 i j with
    | none => rfl
    | some r => simp only [Option.map_some]; rw [h r (w i j r ho)]
  cases sh with
  | inl ci =>
    simp only [q_e]
    congr 2
    apply List.map_congr_left
    intro j _
    simp only [q_fv, hr]
  | inr q => simp only [q_e, q_av, hr]
/-- a new cell -/
theorem q_w_new {G : q_G} {dA : Nat → ClassId} {ad : Nat → Nat} {H : q_H} (w : q_wfh H) (sh : q_Sh) (q : Nat) : q_w G dA (fun i => if i = H.1.length then q else ad i) (q_new H sh) = q_w G dA ad H ++ [(q, q_e G dA ad ([], (fun _ _ => 0), (fun _ _ => 0), fun _ _ => none) 0 sh)] := by
  apply List.ext_getElem?
  intro i
  have hlen : (q_w G dA ad H).length = H.1.length := by simp [q_w]
  rw [q_w_get]
  by_cases hi : i < H.1.length
  · rw [List.getElem?_append_left (by rw [hlen]; exact hi), q_w_get]
    have hne : i ≠ H.1.length := by omega
    simp only [q_new]
    rw [List.getElem?_append_left hi]
    cases hs : H.1[i]? with
    | none => rfl
    | some sh' =>
      simp only [Option.map_some, if_neg hne]
      congr 2
      rw [q_e_ad (ad := ad) (n := H.1.length) (fun j hj => if_neg (by omega)) (fun a b r hr => by
        simp only at hr
        split at hr
        · cases hr
        · exact w a b r hr)]
      apply q_e_row
      · funext j; simp [hne]
      · funext j; simp [hne]
      · funext j; simp [hne]
  · by_cases he : i = H.1.length
    · subst he
      rw [List.getElem?_append_right (by rw [hlen]; omega), hlen, Nat.sub_self]
      simp only [q_new, List.getElem?_concat_length, Option.map_some, if_true, List.getElem?_cons_zero]
      congr 2
      cases sh with
      | inl ci =>
        simp only [q_e]
        congr 2
        apply List.map_congr_left
        intro j _
        simp [q_fv]
      | inr t => simp [q_e, q_av]
    · rw [List.getElem?_append_right (by rw [hlen]; omega), hlen]
      rw [List.getElem?_eq_none (by simp [q_new]; omega), List.getElem?_eq_none (by simp; omega)]
      rfl
