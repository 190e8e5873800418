/-! The abstract machine's steps. A method: name, bytes, locals, what it returns, its words, the number of its class with the frames and the words of locals that it needs, its instructions (with the locals that are dead ahead of each), what its pool's numbers mean, its constants. -/
abbrev q_M : Type := MethodName × ByteArray × Nat × Option FieldType × List Jvm.Cond × (Nat × Nat × Nat) × (Nat → Option (Instr × Nat × List Nat)) × (Nat → Option (Nat × Nat × Nat)) × (Nat → Option Value)
abbrev q_y (M : q_M) : MethodName := M.1
abbrev q_code (M : q_M) : ByteArray := M.2.1
abbrev q_nL (M : q_M) : Nat := M.2.2.1
abbrev q_rt (M : q_M) : Option FieldType := M.2.2.2.1
abbrev q_ws (M : q_M) : List Jvm.Cond := M.2.2.2.2.1
abbrev q_ci (M : q_M) : Nat := M.2.2.2.2.2.1.1
abbrev q_nf_ (M : q_M) : Nat := M.2.2.2.2.2.1.2.1
abbrev q_nl_ (M : q_M) : Nat := M.2.2.2.2.2.1.2.2
abbrev q_tb (M : q_M) : Nat → Option (Instr × Nat × List Nat) := M.2.2.2.2.2.2.1
abbrev q_rs (M : q_M) : Nat → Option (Nat × Nat × Nat) := M.2.2.2.2.2.2.2.1
abbrev q_cn (M : q_M) : Nat → Option Value := M.2.2.2.2.2.2.2.2
abbrev q_R4 : Type := Nat × List (Option Value) × List Value × q_H
def q_ix (i : Int32) (n : Nat) : Option Nat := if i < 0 ∨ n ≤ i.toNatClampNeg then none else some i.toNatClampNeg
theorem q_ix_in {i : Int32} {n j : Nat} (h : q_ix i n = some j) : vp_in i n ∧ i.toNatClampNeg = j := by
  unfold q_ix at h
  split at h
  · cases h
  · rename_i hn
    cases h
    exact ⟨hn, rfl⟩
def q_tg (pc : Nat) (off : Int) : Option Nat := match (pc : Int) + off with
  | .ofNat t => some t
  | .negSucc _ => none
theorem q_tg_eq {pc t : Nat} {off : Int} (h : q_tg pc off = some t) : (pc : Int) + off = (t : Int) := by
  unfold q_tg at h
  split at h
  · rename_i t' e
    cases h
    exact e
  · cases h
def q_cc : ClassFile.Cond → Int32 → Int32 → Bool
  | .eq, x, y => decide (x = y)
  | .ne, x, y => decide (¬ x = y)
  | .lt, x, y => decide (x < y)
  | .ge, x, y => decide (y ≤ x)
  | .gt, x, y => decide (y < x)
  | .le, x, y => decide (x ≤ y)
def q_cat (st : List Value) : Nat := (st.map fun v => v.category).sum
def q_b2 : Instr → Option (Int32 → Int32 → Option Int32)
  | .iadd => some fun x y => some (x + y)
  | .isub => some fun x y => some (x - y)
  | .imul => some fun x y => some (x * y)
  | .iand => some fun x y => some (x &&& y)
  | .ior => some fun x y => some (x ||| y)
  | .ishl => some fun x y => some (x <<< (y &&& 31))
  | .idiv => some fun x y => if y = 0 then none else some (x / y)
  | .irem => some fun x y => if y = 0 then none else some (x - x / y * y)
  | _ => none
def q_l2 : Instr → Option (Int64 → Int64 → Option Int64)
  | .ladd => some fun x y => some (x + y)
  | .lsub => some fun x y => some (x - y)
  | .lmul => some fun x y => some (x * y)
  | .ldiv => some fun x y => if y = 0 then none else some (x / y)
  | .lrem => some fun x y => if y = 0 then none else some (x - x / y * y)
  | _ => none
/-- pushes of a number, with the instruction's length -/
def q_pu (M : q_M) : Instr → Option (Nat × Value)
  | .iconst n => some (1, .int (Int32.ofInt n))
  | .bipush n => some (2, .int (Int8.ofInt n).toInt32)
  | .sipush n => some (3, .int (Int16.ofInt n).toInt32)
  | .lconst n => some (1, .long (Int64.ofNat (n : Nat)))
  | .ldc i => match q_cn M i with
    | some (.int x) => some (2, .int x)
    | _ => none
  | .ldc2_w i => match q_cn M i with
    | some (.long x) => some (3, .long x)
    | _ => none
  | _ => none
/-- loads: the instruction's length, the place, the kind (0 int, 1 long, 2 reference) -/
def q_lo : Instr → Option (Nat × Nat × Nat)
  | .iload_n k => some (1, k.val, 0)
  | .iload i => some (2, i, 0)
  | .lload_n k => some (1, k.val, 1)
  | .lload i => some (2, i, 1)
  | .aload_n k => some (1, k.val, 2)
  | .aload i => some (2, i, 2)
  | _ => none
def q_so : Instr → Option (Nat × Nat × Nat)
  | .istore_n k => some (1, k.val, 0)
  | .istore i => some (2, i, 0)
  | .lstore_n k => some (1, k.val, 1)
  | .lstore i => some (2, i, 1)
  | .astore_n k => some (1, k.val, 2)
  | .astore i => some (2, i, 2)
  | _ => none
def q_vk : Value → Nat
  | .int _ => 0
  | .long _ => 1
  | .ref _ => 2
  | .retAddr _ => 2
  | _ => 3
def q_fa (G : q_G) (H : q_H) (a ci sl : Nat) : Value :=
  if q_kd (g_ft G ci sl) = 0 then .int (H.2.1 a sl) else if q_kd (g_ft G ci sl) = 1 then .long (H.2.2.1 a sl) else va_rf (H.2.2.2 a sl)
def q_new (H : q_H) (sh : q_Sh) : q_H := (H.1 ++ [sh], (fun i j => if i = H.1.length then 0 else H.2.1 i j), (fun i j => if i = H.1.length then 0 else H.2.2.1 i j), (fun i j => if i = H.1.length then none else H.2.2.2 i j))
def q_at : ArrayType → Option Nat
  | .int => some 0
  | .long => some 1
  | .boolean => some 2
  | _ => none
/-- the heap behind a write of a field -/
def q_pf (G : q_G) (H : q_H) (a ci sl : Nat) : Value → Option q_H
  | .int x => if q_kd (g_ft G ci sl) = 0 ∧ fits (g_ft G ci sl) (.int x) = true ∧ narrow (g_ft G ci sl) (.int x) = .int x then some (H.1, q_up H.2.1 a sl x, H.2.2) else none
  | .long x => if g_ft G ci sl = .long then some (H.1, H.2.1, q_up H.2.2.1 a sl x, H.2.2.2) else none
  | .ref b => if q_kd (g_ft G ci sl) = 2 then some (H.1, H.2.1, H.2.2.1, q_up H.2.2.2 a sl (some b)) else none
  | _ => none
def q_s2 (G : q_G) (M : q_M) (ins : Instr) (pc : Nat) (ls : List (Option Value)) (st : List Value) (H : q_H) : Option q_R4 := match ins with
  | .iinc i n => match ls[i]? with
    | some (some (.int x)) => if i < q_nL M then some (pc + 3, q_set ls i (.int (x + Int32.ofInt n)), st, H) else none
    | _ => none
  | .ineg => match st with
    | .int x :: r => some (pc + 1, ls, .int (-x) :: r, H)
    | _ => none
  | .i2l => match st with
    | .int x :: r => some (pc + 1, ls, .long x.toInt64 :: r, H)
    | _ => none
  | .l2i => match st with
    | .long x :: r => some (pc + 1, ls, .int x.toInt32 :: r, H)
    | _ => none
  | .lcmp => match st with
    | .long y :: .long x :: r => some (pc + 1, ls, .int (lg_cmp x y) :: r, H)
    | _ => none
  | .dup => match st with
    | v :: r => if v.category = 1 then some (pc + 1, ls, v :: v :: r, H) else none
    | _ => none
  | .pop => match st with
    | v :: r => if v.category = 1 then some (pc + 1, ls, r, H) else none
    | _ => none
  | .dup_x1 => match st with
    | v :: w :: r => if v.category = 1 ∧ w.category = 1 then some (pc + 1, ls, v :: w :: v :: r, H) else none
    | _ => none
  | .dup2 => match st with
    | v :: w :: r => if v.category = 1 ∧ w.category = 1 then some (pc + 1, ls, v :: w :: v :: w :: r, H) else none
    | _ => none
  | .goto off => (q_tg pc off).map fun t => (t, ls, st, H)
  | .ifCond c off => match st with
    | .int x :: r => (q_tg pc off).map fun t => (if q_cc c x 0 then t else pc + 3, ls, r, H)
    | _ => none
  | .if_icmp c off => match st with
    | .int y :: .int x :: r => (q_tg pc off).map fun t => (if q_cc c x y then t else pc + 3, ls, r, H)
    | _ => none
  | .tableswitch dflt lo hi offs => match st with
    | .int x :: r => (if x.toInt < lo ∨ hi < x.toInt then q_tg pc dflt else match offs[(x.toInt - lo).toNat]? with
      | some off => q_tg pc off
      | none => none).map fun t => (t, ls, r, H)
    | _ => none
  | .getfield i => match st with
    | .ref a :: r => match q_rs M i with
      | some (tag, ci, sl) => if tag < 3 ∧ H.1[a]? = some (.inl ci) then some (pc + 3, ls, q_fa G H a ci sl :: r, H) else none
      | none => none
    | _ => none
  | .putfield i => match st with
    | v :: .ref a :: r => match q_rs M i with
      | some (tag, ci, sl) => if (tag = 0 ∨ tag = 2) ∧ H.1[a]? = some (.inl ci) then (q_pf G H a ci sl v).map fun H' => (pc + 3, ls, r, H') else none
      | none => none
    | _ => none
  | .getstatic i => match q_rs M i with
    | some (5, t, _) => some (pc + 3, ls, .retAddr t :: st, H)
    | _ => none
  | .iaload => match st with
    | .int i :: .ref a :: r => match H.1[a]? with
      | some (.inr (0, n)) => (q_ix i n).map fun j => (pc + 1, ls, .int (H.2.1 a j) :: r, H)
      | _ => none
    | .int i :: .retAddr t :: r => match (g_sz G)[t]? with
      | some q => (q_ix i q.2.2.2.length).map fun j => (pc + 1, ls, .int (q.2.2.2.getD j 0) :: r, H)
      | none => none
    | _ => none
  | .laload => match st with
    | .int i :: .ref a :: r => match H.1[a]? with
      | some (.inr (1, n)) => (q_ix i n).map fun j => (pc + 1, ls, .long (H.2.2.1 a j) :: r, H)
      | _ => none
    | _ => none
  | .baload => match st with
    | .int i :: .ref a :: r => match H.1[a]? with
      | some (.inr (2, n)) => (q_ix i n).map fun j => (pc + 1, ls, .int (H.2.1 a j) :: r, H)
      | _ => none
    | _ => none
  | .aaload => match st with
    | .int i :: .ref a :: r => match H.1[a]? with
      | some (.inr (t, n)) => if q_kd (g_at G t) = 2 ∧ t < g_na G then (q_ix i n).map fun j => (pc + 1, ls, va_rf (H.2.2.2 a j) :: r, H) else none
      | _ => none
    | _ => none
  | .iastore => match st with
    | .int x :: .int i :: .ref a :: r => match H.1[a]? with
      | some (.inr (0, n)) => (q_ix i n).map fun j => (pc + 1, ls, r, (H.1, q_up H.2.1 a j x, H.2.2))
      | _ => none
    | _ => none
  | .lastore => match st with
    | .long x :: .int i :: .ref a :: r => match H.1[a]? with
      | some (.inr (1, n)) => (q_ix i n).map fun j => (pc + 1, ls, r, (H.1, H.2.1, q_up H.2.2.1 a j x, H.2.2.2))
      | _ => none
    | _ => none
  | .bastore => match st with
    | .int x :: .int i :: .ref a :: r => match H.1[a]? with
      | some (.inr (2, n)) => (q_ix i n).map fun j => (pc + 1, ls, r, (H.1, q_up H.2.1 a j (x &&& 1), H.2.2))
      | _ => none
    | _ => none
  | .aastore => match st with
    | .ref b :: .int i :: .ref a :: r => match H.1[a]?, H.1[b]? with
      | some (.inr (t, n)), some (.inl ci) => match (g_cl G)[ci]? with
        | some c => if g_at G t = .object c.1 ∧ t < g_na G then (q_ix i n).map fun j => (pc + 1, ls, r, (H.1, H.2.1, H.2.2.1, q_up H.2.2.2 a j (some b))) else none
        | none => none
      | _, _ => none
    | _ => none
  | .arraylength => match st with
    | .ref a :: r => match H.1[a]? with
      | some (.inr (t, n)) => if t < g_na G then some (pc + 1, ls, .int (Int32.ofNat n) :: r, H) else none
      | _ => none
    | .retAddr t :: r => match (g_sz G)[t]? with
      | some q => some (pc + 1, ls, .int (Int32.ofNat q.2.2.2.length) :: r, H)
      | none => none
    | _ => none
  | .new i => match q_rs M i with
    | some (3, ci, _) => some (pc + 3, ls, .ref H.1.length :: st, q_new H (.inl ci))
    | _ => none
  | .newarray at_ => match st with
    | .int n :: r => match q_at at_ with
      | some t => if n < 0 ∨ 1000000 < n.toNatClampNeg then none else some (pc + 2, ls, .ref H.1.length :: r, q_new H (.inr (t, n.toNatClampNeg)))
      | none => none
    | _ => none
  | .anewarray i => match st with
    | .int n :: r => match q_rs M (i + 100000) with
      | some (4, t, _) => if n < 0 ∨ 1000000 < n.toNatClampNeg then none else some (pc + 3, ls, .ref H.1.length :: r, q_new H (.inr (t, n.toNatClampNeg)))
      | _ => none
    | _ => none
  | .invokespecial i => match st with
    | .ref _ :: r => match q_rs M i with
      | some (20, _, _) => if q_cat r ≤ 8 then some (pc + 3, ls, r, H) else none
      | _ => none
    | _ => none
  | .invokestatic i => match q_rs M i with
    | some (21, _, _) => match st with
      | .int y :: .int x :: r => if q_cat r ≤ 8 then some (pc + 3, ls, .int (if y < x then y else x) :: r, H) else none
      | _ => none
    | some (22, _, _) => match st with
      | .int y :: .int x :: r => if q_cat r ≤ 8 then some (pc + 3, ls, .int (if x < y then y else x) :: r, H) else none
      | _ => none
    | some (23, _, _) => match st with
      | .int x :: r => if q_cat r ≤ 8 then some (pc + 3, ls, .int (if 0 ≤ x then x else 0 - x) :: r, H) else none
      | _ => none
    | some (24, _, _) => match st with
      | .int n :: .int dp :: .ref b :: .int sp :: .ref a :: r => match H.1[a]?, H.1[b]? with
        | some (.inr (0, n0)), some (.inr (0, n1)) => if q_cat r ≤ 8 ∧ ¬ sp < 0 ∧ ¬ dp < 0 ∧ ¬ n < 0 ∧ sp.toNatClampNeg + n.toNatClampNeg ≤ n0 ∧ dp.toNatClampNeg + n.toNatClampNeg ≤ n1 then
            some (pc + 3, ls, r, (H.1, (fun i j => if i = b then va_cpy (H.2.1 a) (H.2.1 b) sp.toNatClampNeg dp.toNatClampNeg n.toNatClampNeg j else H.2.1 i j), H.2.2)) else none
        | _, _ => none
      | _ => none
    | _ => none
  | _ => none
/-- one instruction that is no call of a method of ours and no end -/
def q_s1 (G : q_G) (M : q_M) (ins : Instr) (pc : Nat) (ls : List (Option Value)) (st : List Value) (H : q_H) : Option q_R4 := match q_pu M ins with
  | some q => some (pc + q.1, ls, q.2 :: st, H)
  | none => match q_lo ins with
    | some q => match ls[q.2.1]? with
      | some (some v) => if q_vk v = q.2.2 ∧ q.2.2 < 3 then some (pc + q.1, ls, v :: st, H) else none
      | _ => none
    | none => match q_so ins with
      | some q => match st with
        | v :: r => if q_vk v = q.2.2 ∧ q.2.2 < 3 ∧ q.2.1 + v.category ≤ q_nL M then some (pc + q.1, q_set ls q.2.1 v, r, H) else none
        | _ => none
      | none => match q_b2 ins with
        | some f => match st with
          | .int y :: .int x :: r => (f x y).map fun z => (pc + 1, ls, .int z :: r, H)
          | _ => none
        | none => match q_l2 ins with
          | some f => match st with
            | .long y :: .long x :: r => (f x y).map fun z => (pc + 1, ls, .long z :: r, H)
            | _ => none
          | none => q_s2 G M ins pc ls st H
/-- a call of a method of ours: its number, the arguments, the rest of the stack -/
def q_cal (P : Nat → q_M) (M : q_M) (ins : Instr) (st : List Value) (H : q_H) : Option (Nat × List Value × List Value) := match ins with
  | .invokevirtual i => match q_rs M i with
    | some (10, k, n) => match st.drop n with
      | .ref b :: r => if H.1[b]? = some (.inl (q_ci (P k))) ∧ q_cat r ≤ 8 ∧ (st.take n).length = n then some (k, .ref b :: (st.take n).reverse, r) else none
      | _ => none
    | _ => none
  | .invokespecial i => match q_rs M i with
    | some (11, k, n) => match st.drop n with
      | .ref b :: r => if q_cat r ≤ 8 ∧ (st.take n).length = n then some (k, .ref b :: (st.take n).reverse, r) else none
      | _ => none
    | _ => none
  | .invokestatic i => match q_rs M i with
    | some (12, k, n) => if q_cat (st.drop n) ≤ 8 ∧ (st.take n).length = n then some (k, (st.take n).reverse, st.drop n) else none
    | _ => none
  | _ => none
def q_stop : Instr → Bool
  | .ireturn => true
  | .lreturn => true
  | .areturn => true
  | .return_ => true
  | .athrow => true
  | _ => false
/-- what a method that stands at its end hands over -/
def q_rv (M : q_M) (r : Nat × List Value × q_H) : Option (Option Value) := match q_tb M r.1 with
  | some (.ireturn, _, _) => match r.2.1, q_rt M with
    | [.int x], some .int => some (some (.int x))
    | [.int x], some .boolean => if x &&& 1 = x then some (some (.int x)) else none
    | _, _ => none
  | some (.lreturn, _, _) => match r.2.1, q_rt M with
    | [.long x], some .long => some (some (.long x))
    | _, _ => none
  | some (.return_, _, _) => match r.2.1, q_rt M with
    | [], none => some none
    | _, _ => none
  | _ => none
def q_x (G : q_G) (P : Nat → q_M) : Nat → Nat → Nat → List (Option Value) → List Value → q_H → Option (Nat × List Value × q_H)
  | 0, _, _, _, _, _ => none
  | n + 1, k, pc, ls, st, H => match q_tb (P k) pc with
    | none => none
    | some (ins, _, ks) => if q_stop ins = true then some (pc, st, H) else match q_cal P (P k) ins st H with
      | some (k', as, r) => if (q_en as).length ≤ q_nL (P k') then
            match q_x G P n k' 0 (q_en as ++ List.replicate (q_nL (P k') - (q_en as).length) none) [] H with
            | some z => match q_rv (P k') z with
              | some v => q_x G P n k (pc + 3) (q_kill ks ls) (v.toList ++ r) z.2.2
              | none => none
            | none => none
          else none
      | none => match q_s1 G (P k) ins pc (q_kill ks ls) st H with
        | some z => q_x G P n k z.1 z.2.1 z.2.2.1 z.2.2.2
        | none => none
/-! what stays in order: references name cells that are there -/
def q_wfh (H : q_H) : Prop := ∀ i j r, H.2.2.2 i j = some r → r < H.1.length
def q_wfs (n : Nat) (st : List Value) : Prop := ∀ i, Value.ref i ∈ st → i < n
def q_wfl (n : Nat) (ls : List (Option Value)) : Prop := ∀ i, some (Value.ref i) ∈ ls → i < n
def q_ok4 (ls : List (Option Value)) (st : List Value) (H : q_H) : Prop := q_wfh H ∧ q_wfs H.1.length st ∧ q_wfl H.1.length ls
def q_ext (H H' : q_H) : Prop := ∃ x, H'.1 = H.1 ++ x
theorem q_ext.rf (H : q_H) : q_ext H H := ⟨[], (List.append_nil _).symm⟩
theorem q_ext.tr {H H' H'' : q_H} (h : q_ext H H') (h' : q_ext H' H'') : q_ext H H'' := by
  obtain ⟨x, hx⟩ := h
  obtain ⟨y, hy⟩ := h'
  exact ⟨x ++ y, by rw [hy, hx, List.append_assoc]⟩
theorem q_ext.of {H H' : q_H} (h : H'.1 = H.1) : q_ext H H' := ⟨[], by rw [h, List.append_nil]⟩
theorem q_ext.le {H H' : q_H} (h : q_ext H H') : H.1.length ≤ H'.1.length := by
  obtain ⟨x, hx⟩ := h
  rw [hx, List.length_append]
  omega
theorem q_ext.at {H H' : q_H} (h : q_ext H H') {i : Nat} {sh : q_Sh} (hi : H.1[i]? = some sh) : H'.1[i]? = some sh := by
  obtain ⟨x, hx⟩ := h
  rw [hx, List.getElem?_append_left (List.getElem?_eq_some_iff.mp hi).1]
  exact hi
theorem q_wfs.mono {n m : Nat} {st : List Value} (h : q_wfs n st) (hm : n ≤ m) : q_wfs m st := fun i hi => Nat.lt_of_lt_of_le (h i hi) hm
theorem q_wfl.mono {n m : Nat} {ls : List (Option Value)} (h : q_wfl n ls) (hm : n ≤ m) : q_wfl m ls := fun i hi => Nat.lt_of_lt_of_le (h i hi) hm
theorem q_wfs.cons {n : Nat} {v : Value} {st : List Value} (h : q_wfs n st) (hv : ∀ i, v = .ref i → i < n) : q_wfs n (v :: st) := fun i hi => by
  rcases List.mem_cons.mp hi with e | e
  · exact hv i e.symm
  · exact h i e
theorem q_wfs.tl {n : Nat} {v : Value} {st : List Value} (h : q_wfs n (v :: st)) : q_wfs n st := fun i hi => h i (List.mem_cons_of_mem _ hi)
theorem q_wfs.hd {n : Nat} {v : Value} {st : List Value} (h : q_wfs n (v :: st)) : ∀ i, v = .ref i → i < n := fun i hi => h i (by rw [hi]; exact List.mem_cons_self)
theorem q_wfl.sub {n : Nat} {ls ls' : List (Option Value)} (h : q_wfl n ls) (hs : ∀ (i : Nat) (v : Value), ls'[i]? = some (some v) → ∃ j : Nat, ls[j]? = some (some v)) : q_wfl n ls' := fun i hi => by
  obtain ⟨k, hk⟩ := List.getElem?_of_mem hi
  obtain ⟨j, hj⟩ := hs k _ hk
  exact h i (List.mem_of_getElem? hj)
theorem q_wfl.set {n i : Nat} {ls : List (Option Value)} {v : Value} (h : q_wfl n ls) (hv : ∀ j, v = .ref j → j < n) : q_wfl n (q_set ls i v) := fun j hj => by
  obtain ⟨k, hk⟩ := List.getElem?_of_mem hj
  rcases q_set_sub hk with ⟨-, e⟩ | ⟨-, e, -⟩
  · exact hv j e.symm
  · exact h j (List.mem_of_getElem? e)
theorem q_wfh.up {H : q_H} {a i : Nat} {o : Option Nat} (h : q_wfh H) (ho : ∀ r, o = some r → r < H.1.length) : q_wfh (H.1, H.2.1, H.2.2.1, q_up H.2.2.2 a i o) := fun b j r hr => by
  simp only [q_up] at hr
  split at hr
  · exact ho r hr
  · exact h b j r hr
theorem q_wfh.new {H : q_H} (h : q_wfh H) (sh : q_Sh) : q_wfh (q_new H sh) := fun b j r hr => by
  simp only [q_new] at hr ⊢
  split at hr
  · cases hr
  · have := h b j r hr
    rw [List.length_append]
    omega
theorem q_rf_wf {H : q_H} (h : q_wfh H) (a j i : Nat) (e : va_rf (H.2.2.2 a j) = .ref i) : i < H.1.length := by
  cases ho : H.2.2.2 a j with
  | none => rw [ho] at e; cases e
  | some r =>
    rw [ho] at e
    cases e
    exact h a j _ ho
