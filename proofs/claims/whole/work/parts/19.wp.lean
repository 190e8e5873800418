/-! What must hold ahead of a stretch of instructions, laid out as a proposition. -/
def q_FI (Q : Int32 → q_H → Prop) : Option Value → q_H → Prop := fun v H => match v with
  | some (.int x) => Q x H
  | _ => False
def q_FL (Q : Int64 → q_H → Prop) : Option Value → q_H → Prop := fun v H => match v with
  | some (.long x) => Q x H
  | _ => False
def q_FV (Q : q_H → Prop) : Option Value → q_H → Prop := fun v H => match v with
  | none => Q H
  | _ => False
def q_CallI (G : q_G) (P : Nat → q_M) (k : Nat) (as : List Value) (H : q_H) (Q : Int32 → q_H → Prop) : Prop := q_Call G P k as H (q_FI Q)
def q_CallL (G : q_G) (P : Nat → q_M) (k : Nat) (as : List Value) (H : q_H) (Q : Int64 → q_H → Prop) : Prop := q_Call G P k as H (q_FL Q)
def q_CallV (G : q_G) (P : Nat → q_M) (k : Nat) (as : List Value) (H : q_H) (Q : q_H → Prop) : Prop := q_Call G P k as H (q_FV Q)
theorem q_CallI.imp {G : q_G} {P : Nat → q_M} {k : Nat} {as : List Value} {H : q_H} {Q Q' : Int32 → q_H → Prop} (h : q_CallI G P k as H Q) (hQ : ∀ x H', Q x H' → Q' x H') : q_CallI G P k as H Q' := q_Call.imp h (fun v H' hv => by
  match v, hv with
  | some (.int x), hv => exact hQ x H' hv)
theorem q_CallL.imp {G : q_G} {P : Nat → q_M} {k : Nat} {as : List Value} {H : q_H} {Q Q' : Int64 → q_H → Prop} (h : q_CallL G P k as H Q) (hQ : ∀ x H', Q x H' → Q' x H') : q_CallL G P k as H Q' := q_Call.imp h (fun v H' hv => by
  match v, hv with
  | some (.long x), hv => exact hQ x H' hv)
theorem q_CallV.imp {G : q_G} {P : Nat → q_M} {k : Nat} {as : List Value} {H : q_H} {Q Q' : q_H → Prop} (h : q_CallV G P k as H Q) (hQ : ∀ H', Q H' → Q' H') : q_CallV G P k as H Q' := q_Call.imp h (fun v H' hv => by
  match v, hv with
  | none, hv => exact hQ H' hv)
def q_cp : ClassFile.Cond → Int32 → Int32 → Prop
  | .eq, x, y => x = y
  | .ne, x, y => ¬ x = y
  | .lt, x, y => x < y
  | .ge, x, y => y ≤ x
  | .gt, x, y => y < x
  | .le, x, y => x ≤ y
theorem q_cp_cc (c : ClassFile.Cond) (x y : Int32) : q_cc c x y = true ↔ q_cp c x y := by
  cases c <;> simp [q_cc, q_cp]
/-- a field's value by its kind -/
def q_wg (G : q_G) (H : q_H) (a ci sl : Nat) (K : Value → Prop) : Prop := match q_kd (g_ft G ci sl) with
  | 0 => K (.int (H.2.1 a sl))
  | 1 => K (.long (H.2.2.1 a sl))
  | _ => ∃ b, H.2.2.2 a sl = some b ∧ K (.ref b)
def q_wpf (G : q_G) (H : q_H) (a ci sl : Nat) (v : Value) (K : q_H → Prop) : Prop := match v with
  | .int x => match g_ft G ci sl with
    | .int => K (H.1, q_up H.2.1 a sl x, H.2.2)
    | .boolean => (x = 0 ∨ x = 1) ∧ K (H.1, q_up H.2.1 a sl x, H.2.2)
    | _ => False
  | .long x => match g_ft G ci sl with
    | .long => K (H.1, H.2.1, q_up H.2.2.1 a sl x, H.2.2.2)
    | _ => False
  | .ref b => match q_kd (g_ft G ci sl) with
    | 2 => K (H.1, H.2.1, H.2.2.1, q_up H.2.2.2 a sl (some b))
    | _ => False
  | _ => False
/-- the call's kind by what the method returns -/
def q_wc (G : q_G) (P : Nat → q_M) (k : Nat) (as r : List Value) (H : q_H) (K : List Value → q_H → Prop) : Prop := match Nat.ble (q_cat r) 8 with
    | false => False
    | true => match q_rt (P k) with
      | none => q_CallV G P k as H (fun H' => K r H')
      | some .long => q_CallL G P k as H (fun x H' => K (.long x :: r) H')
      | some _ => q_CallI G P k as H (fun x H' => K (.int x :: r) H')
def q_w1 (G : q_G) (P : Nat → q_M) (M : q_M) (ins : Instr) (pc : Nat) (ls : List (Option Value)) (st : List Value) (H : q_H) (K : Nat → List (Option Value) → List Value → q_H → Prop) : Prop := match ins with
  | .goto off => match q_tg pc off with
    | some t => K t ls st H
    | none => False
  | .ifCond c off => match st with
    | .int x :: r => match q_tg pc off with
      | some t => (q_cp c x 0 → K t ls r H) ∧ (¬ q_cp c x 0 → K (pc + 3) ls r H)
      | none => False
    | _ => False
  | .if_icmp c off => match st with
    | .int y :: .int x :: r => match q_tg pc off with
      | some t => (q_cp c x y → K t ls r H) ∧ (¬ q_cp c x y → K (pc + 3) ls r H)
      | none => False
    | _ => False
  | .idiv => match st with
    | .int y :: .int x :: r => ¬ y = 0 ∧ K (pc + 1) ls (.int (x / y) :: r) H
    | _ => False
  | .irem => match st with
    | .int y :: .int x :: r => ¬ y = 0 ∧ K (pc + 1) ls (.int (x - x / y * y) :: r) H
    | _ => False
  | .ldiv => match st with
    | .long y :: .long x :: r => ¬ y = 0 ∧ K (pc + 1) ls (.long (x / y) :: r) H
    | _ => False
  | .lrem => match st with
    | .long y :: .long x :: r => ¬ y = 0 ∧ K (pc + 1) ls (.long (x - x / y * y) :: r) H
    | _ => False
  | .getfield i => match st with
    | .ref a :: r => match q_rs M i with
      | some (tag, ci, sl) => match Nat.blt tag 3 with
        | true => H.1[a]? = some (.inl ci) ∧ q_wg G H a ci sl (fun v => K (pc + 3) ls (v :: r) H)
        | false => False
      | none => False
    | _ => False
  | .putfield i => match st with
    | v :: .ref a :: r => match q_rs M i with
      | some (0, ci, sl) => H.1[a]? = some (.inl ci) ∧ q_wpf G H a ci sl v (fun H' => K (pc + 3) ls r H')
      | some (2, ci, sl) => H.1[a]? = some (.inl ci) ∧ q_wpf G H a ci sl v (fun H' => K (pc + 3) ls r H')
      | _ => False
    | _ => False
  | .iaload => match st with
    | .int i :: .ref a :: r => ∃ n j, H.1[a]? = some (.inr (0, n)) ∧ q_ix i n = some j ∧ K (pc + 1) ls (.int (H.2.1 a j) :: r) H
    | .int i :: .retAddr t :: r => ∃ q j, (g_sz G)[t]? = some q ∧ q_ix i q.2.2.2.length = some j ∧ K (pc + 1) ls (.int (q.2.2.2.getD j 0) :: r) H
    | _ => False
  | .laload => match st with
    | .int i :: .ref a :: r => ∃ n j, H.1[a]? = some (.inr (1, n)) ∧ q_ix i n = some j ∧ K (pc + 1) ls (.long (H.2.2.1 a j) :: r) H
    | _ => False
  | .baload => match st with
    | .int i :: .ref a :: r => ∃ n j, H.1[a]? = some (.inr (2, n)) ∧ q_ix i n = some j ∧ K (pc + 1) ls (.int (H.2.1 a j) :: r) H
    | _ => False
  | .aaload => match st with
    | .int i :: .ref a :: r => ∃ t n j b, H.1[a]? = some (.inr (t, n)) ∧ (q_kd (g_at G t) = 2 ∧ t < g_na G) ∧ q_ix i n = some j ∧ H.2.2.2 a j = some b ∧ K (pc + 1) ls (.ref b :: r) H
    | _ => False
  | .iastore => match st with
    | .int x :: .int i :: .ref a :: r => ∃ n j, H.1[a]? = some (.inr (0, n)) ∧ q_ix i n = some j ∧ K (pc + 1) ls r (H.1, q_up H.2.1 a j x, H.2.2)
    | _ => False
  | .lastore => match st with
    | .long x :: .int i :: .ref a :: r => ∃ n j, H.1[a]? = some (.inr (1, n)) ∧ q_ix i n = some j ∧ K (pc + 1) ls r (H.1, H.2.1, q_up H.2.2.1 a j x, H.2.2.2)
    | _ => False
  | .bastore => match st with
    | .int x :: .int i :: .ref a :: r => ∃ n j, H.1[a]? = some (.inr (2, n)) ∧ q_ix i n = some j ∧ K (pc + 1) ls r (H.1, q_up H.2.1 a j (x &&& 1), H.2.2)
    | _ => False
  | .arraylength => match st with
    | .ref a :: r => ∃ t n, H.1[a]? = some (.inr (t, n)) ∧ t < g_na G ∧ K (pc + 1) ls (.int (Int32.ofNat n) :: r) H
    | .retAddr t :: r => ∃ q, (g_sz G)[t]? = some q ∧ K (pc + 1) ls (.int (Int32.ofNat q.2.2.2.length) :: r) H
    | _ => False
  | .invokevirtual i => match q_rs M i with
    | some (10, k, n) => match st.drop n, Nat.beq (st.take n).length n with
      | .ref b :: r, true => H.1[b]? = some (.inl (q_ci (P k))) ∧ q_wc G P k (.ref b :: (st.take n).reverse) r H (fun st' H' => K (pc + 3) ls st' H')
      | _, _ => False
    | _ => False
  | .invokespecial i => match q_rs M i with
    | some (11, k, n) => match st.drop n, Nat.beq (st.take n).length n with
      | .ref b :: r, true => q_wc G P k (.ref b :: (st.take n).reverse) r H (fun st' H' => K (pc + 3) ls st' H')
      | _, _ => False
    | some (20, _, _) => match st with
      | .ref _ :: r => match Nat.ble (q_cat r) 8 with
        | true => K (pc + 3) ls r H
        | false => False
      | _ => False
    | _ => False
  | .invokestatic i => match q_rs M i with
    | some (12, k, n) => match Nat.beq (st.take n).length n with
      | true => q_wc G P k (st.take n).reverse (st.drop n) H (fun st' H' => K (pc + 3) ls st' H')
      | false => False
    | some (21, _, _) => match st with
      | .int y :: .int x :: r => match Nat.ble (q_cat r) 8 with
        | true => K (pc + 3) ls (.int (if y < x then y else x) :: r) H
        | false => False
      | _ => False
    | some (22, _, _) => match st with
      | .int y :: .int x :: r => match Nat.ble (q_cat r) 8 with
        | true => K (pc + 3) ls (.int (if x < y then y else x) :: r) H
        | false => False
      | _ => False
    | some (23, _, _) => match st with
      | .int x :: r => match Nat.ble (q_cat r) 8 with
        | true => K (pc + 3) ls (.int (if 0 ≤ x then x else 0 - x) :: r) H
        | false => False
      | _ => False
    | _ => ∃ z, q_cal P M (.invokestatic i) st H = none ∧ q_s1 G M (.invokestatic i) pc ls st H = some z ∧ K z.1 z.2.1 z.2.2.1 z.2.2.2
  | ins => match q_s1 G M ins pc ls st H with
    | some z => K z.1 z.2.1 z.2.2.1 z.2.2.2
    | none => False
/-- an end -/
def q_we (M : q_M) (ins : Instr) (st : List Value) (H : q_H) (F : Option Value → q_H → Prop) : Prop := match ins with
  | .ireturn => match st with
    | [.int x] => match q_rt M with
      | some .int => F (some (.int x)) H
      | some .boolean => x &&& 1 = x ∧ F (some (.int x)) H
      | _ => False
    | _ => False
  | .lreturn => match st with
    | [.long x] => match q_rt M with
      | some .long => F (some (.long x)) H
      | _ => False
    | _ => False
  | .return_ => match st with
    | [] => match q_rt M with
      | none => F none H
      | _ => False
    | _ => False
  | _ => False
