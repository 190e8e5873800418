/-! Instructions once more, for any proposition that goes back along a step and along a call. -/
def y_C (G : q_G) (P : Nat → q_M) (M : q_M) (J : Nat → List (Option Value) → List Value → q_H → Prop) : Prop :=
  (∀ (pc : Nat) (ls : List (Option Value)) (st : List Value) (H : q_H) (ins : Instr) (len : Nat) (ks : List Nat) (z : q_R4), q_tb M pc = some (ins, len, ks) → q_stop ins = false → q_cal P M ins st H = none → q_s1 G M ins pc (q_kill ks ls) st H = some z → J z.1 z.2.1 z.2.2.1 z.2.2.2 → J pc ls st H) ∧
  (∀ (pc : Nat) (ls : List (Option Value)) (st : List Value) (H : q_H) (ins : Instr) (len : Nat) (ks : List Nat) (k' : Nat) (as r : List Value) (F : Option Value → q_H → Prop), q_tb M pc = some (ins, len, ks) → q_stop ins = false → q_cal P M ins st H = some (k', as, r) → q_Call G P k' as H F → (∀ v H', F v H' → J (pc + 3) (q_kill ks ls) (v.toList ++ r) H') → J pc ls st H) ∧
  ∀ (pc : Nat) (ls : List (Option Value)) (st : List Value) (H : q_H) (ins : Instr) (len : Nat) (ks : List Nat), q_tb M pc = some (ins, len, ks) → J pc (q_kill ks ls) st H → J pc ls st H
section
variable {G : q_G} {P : Nat → q_M} {M : q_M} {J : Nat → List (Option Value) → List Value → q_H → Prop} {pc : Nat} {ls ls' : List (Option Value)} {st : List Value} {H : q_H} {len : Nat} {ks : List Nat}
theorem y_kill (hC : y_C G P M J) {ins : Instr} (ht : q_tb M pc = some (ins, len, ks)) (hk : q_kill ks ls = ls') (h : J pc ls' st H) : J pc ls st H := hC.2.2 pc ls st H ins len ks ht (by rw [hk]; exact h)
theorem y_eq (he : ls = ls') (h : J pc ls' st H) : J pc ls st H := by
  subst he
  exact h
theorem y_s (hC : y_C G P M J) {ins : Instr} {z : q_R4} (ht : q_tb M pc = some (ins, len, ks)) (hk : q_kill ks ls = ls) (hs : q_stop ins = false) (hc : q_cal P M ins st H = none) (h1 : q_s1 G M ins pc ls st H = some z) (h : J z.1 z.2.1 z.2.2.1 z.2.2.2) : J pc ls st H := hC.1 pc ls st H ins len ks z ht hs hc (by rw [hk]; exact h1) h
theorem y_iconst (hC : y_C G P M J) {n : Int} {v : Int32} (ht : q_tb M pc = some (.iconst n, len, ks)) (hk : q_kill ks ls = ls) (hv : Int32.ofInt n = v) (h : J (pc + 1) ls (.int v :: st) H) : J pc ls st H := by
  subst hv
  exact y_s hC (z := (pc + 1, ls, _ :: st, H)) ht hk rfl rfl rfl h
theorem y_bipush (hC : y_C G P M J) {n : Int} {v : Int32} (ht : q_tb M pc = some (.bipush n, len, ks)) (hk : q_kill ks ls = ls) (hv : (Int8.ofInt n).toInt32 = v) (h : J (pc + 2) ls (.int v :: st) H) : J pc ls st H := by
  subst hv
  exact y_s hC (z := (pc + 2, ls, _ :: st, H)) ht hk rfl rfl rfl h
theorem y_sipush (hC : y_C G P M J) {n : Int} {v : Int32} (ht : q_tb M pc = some (.sipush n, len, ks)) (hk : q_kill ks ls = ls) (hv : (Int16.ofInt n).toInt32 = v) (h : J (pc + 3) ls (.int v :: st) H) : J pc ls st H := by
  subst hv
  exact y_s hC (z := (pc + 3, ls, _ :: st, H)) ht hk rfl rfl rfl h
theorem y_load (hC : y_C G P M J) {ins : Instr} {n i kd : Nat} {v : Value} (hp : q_pu M ins = none) (ho : q_lo ins = some (n, i, kd)) (hc : q_cal P M ins st H = none) (hs : q_stop ins = false) (ht : q_tb M pc = some (ins, len, ks)) (hk : q_kill ks ls = ls) (hv : ls[i]? = some (some v)) (hq : q_vk v = kd) (h3 : kd < 3) (h : J (pc + n) ls (v :: st) H) : J pc ls st H :=
  y_s hC (z := (pc + n, ls, v :: st, H)) ht hk hs hc (by simp only [q_s1, hp, ho, hv]; rw [if_pos ⟨hq, h3⟩]) h
theorem y_iload (hC : y_C G P M J) {i : Nat} {v : Int32} (ht : q_tb M pc = some (.iload i, len, ks)) (hk : q_kill ks ls = ls) (hv : ls[i]? = some (some (.int v))) (h : J (pc + 2) ls (.int v :: st) H) : J pc ls st H := y_load hC rfl rfl rfl rfl ht hk hv rfl (Nat.le_of_ble_eq_true rfl) h
theorem y_iload_n (hC : y_C G P M J) {i : Fin 4} {v : Int32} (ht : q_tb M pc = some (.iload_n i, len, ks)) (hk : q_kill ks ls = ls) (hv : ls[i.val]? = some (some (.int v))) (h : J (pc + 1) ls (.int v :: st) H) : J pc ls st H := y_load hC rfl rfl rfl rfl ht hk hv rfl (Nat.le_of_ble_eq_true rfl) h
theorem y_aload (hC : y_C G P M J) {i v : Nat} (ht : q_tb M pc = some (.aload i, len, ks)) (hk : q_kill ks ls = ls) (hv : ls[i]? = some (some (.ref v))) (h : J (pc + 2) ls (.ref v :: st) H) : J pc ls st H := y_load hC rfl rfl rfl rfl ht hk hv rfl (Nat.le_of_ble_eq_true rfl) h
theorem y_aload_n (hC : y_C G P M J) {i : Fin 4} {v : Nat} (ht : q_tb M pc = some (.aload_n i, len, ks)) (hk : q_kill ks ls = ls) (hv : ls[i.val]? = some (some (.ref v))) (h : J (pc + 1) ls (.ref v :: st) H) : J pc ls st H := y_load hC rfl rfl rfl rfl ht hk hv rfl (Nat.le_of_ble_eq_true rfl) h
theorem y_store (hC : y_C G P M J) {ins : Instr} {n i kd : Nat} {v : Value} (hp : q_pu M ins = none) (ho : q_lo ins = none) (hso : q_so ins = some (n, i, kd)) (hc : q_cal P M ins (v :: st) H = none) (hs : q_stop ins = false) (hq : q_vk v = kd) (h3 : kd < 3) (ht : q_tb M pc = some (ins, len, ks)) (hk : q_kill ks ls = ls) (hi : Nat.ble (i + v.category) (q_nL M) = true) (hl : q_set ls i v = ls') (h : J (pc + n) ls' st H) : J pc ls (v :: st) H :=
  y_s hC (z := (pc + n, ls', st, H)) ht hk hs hc (by simp only [q_s1, hp, ho, hso]; rw [if_pos ⟨hq, h3, Nat.le_of_ble_eq_true hi⟩, hl]) h
theorem y_istore (hC : y_C G P M J) {i : Nat} {v : Int32} (ht : q_tb M pc = some (.istore i, len, ks)) (hk : q_kill ks ls = ls) (hi : Nat.ble (i + 1) (q_nL M) = true) (hl : q_set ls i (.int v) = ls') (h : J (pc + 2) ls' st H) : J pc ls (.int v :: st) H := y_store hC rfl rfl rfl rfl rfl rfl (Nat.le_of_ble_eq_true rfl) ht hk hi hl h
theorem y_istore_n (hC : y_C G P M J) {i : Fin 4} {v : Int32} (ht : q_tb M pc = some (.istore_n i, len, ks)) (hk : q_kill ks ls = ls) (hi : Nat.ble (i.val + 1) (q_nL M) = true) (hl : q_set ls i.val (.int v) = ls') (h : J (pc + 1) ls' st H) : J pc ls (.int v :: st) H := y_store hC rfl rfl rfl rfl rfl rfl (Nat.le_of_ble_eq_true rfl) ht hk hi hl h
theorem y_astore (hC : y_C G P M J) {i v : Nat} (ht : q_tb M pc = some (.astore i, len, ks)) (hk : q_kill ks ls = ls) (hi : Nat.ble (i + 1) (q_nL M) = true) (hl : q_set ls i (.ref v) = ls') (h : J (pc + 2) ls' st H) : J pc ls (.ref v :: st) H := y_store hC rfl rfl rfl rfl rfl rfl (Nat.le_of_ble_eq_true rfl) ht hk hi hl h
theorem y_astore_n (hC : y_C G P M J) {i : Fin 4} {v : Nat} (ht : q_tb M pc = some (.astore_n i, len, ks)) (hk : q_kill ks ls = ls) (hi : Nat.ble (i.val + 1) (q_nL M) = true) (hl : q_set ls i.val (.ref v) = ls') (h : J (pc + 1) ls' st H) : J pc ls (.ref v :: st) H := y_store hC rfl rfl rfl rfl rfl rfl (Nat.le_of_ble_eq_true rfl) ht hk hi hl h
theorem y_iinc (hC : y_C G P M J) {i : Nat} {n : Int} {x v : Int32} (ht : q_tb M pc = some (.iinc i n, len, ks)) (hk : q_kill ks ls = ls) (hv : ls[i]? = some (some (.int x))) (hi : Nat.blt i (q_nL M) = true) (hn : Int32.ofInt n = v) (hl : q_set ls i (.int (x + v)) = ls') (h : J (pc + 3) ls' st H) : J pc ls st H := by
  subst hn
  exact y_s hC (z := (pc + 3, ls', st, H)) ht hk rfl rfl (by simp only [q_s1, q_pu, q_lo, q_so, q_b2, q_l2, q_s2, hv]; rw [if_pos (show i < q_nL M from Nat.le_of_ble_eq_true hi), hl]) h
theorem y_iadd (hC : y_C G P M J) {x y : Int32} (ht : q_tb M pc = some (.iadd, len, ks)) (hk : q_kill ks ls = ls) (h : J (pc + 1) ls (.int (x + y) :: st) H) : J pc ls (.int y :: .int x :: st) H := y_s hC (z := (pc + 1, ls, _ :: st, H)) ht hk rfl rfl rfl h
theorem y_isub (hC : y_C G P M J) {x y : Int32} (ht : q_tb M pc = some (.isub, len, ks)) (hk : q_kill ks ls = ls) (h : J (pc + 1) ls (.int (x - y) :: st) H) : J pc ls (.int y :: .int x :: st) H := y_s hC (z := (pc + 1, ls, _ :: st, H)) ht hk rfl rfl rfl h
theorem y_iand (hC : y_C G P M J) {x y : Int32} (ht : q_tb M pc = some (.iand, len, ks)) (hk : q_kill ks ls = ls) (h : J (pc + 1) ls (.int (x &&& y) :: st) H) : J pc ls (.int y :: .int x :: st) H := y_s hC (z := (pc + 1, ls, _ :: st, H)) ht hk rfl rfl rfl h
theorem y_i2l (hC : y_C G P M J) {x : Int32} (ht : q_tb M pc = some (.i2l, len, ks)) (hk : q_kill ks ls = ls) (h : J (pc + 1) ls (.long x.toInt64 :: st) H) : J pc ls (.int x :: st) H := y_s hC (z := (pc + 1, ls, _ :: st, H)) ht hk rfl rfl rfl h
theorem y_lcmp (hC : y_C G P M J) {x y : Int64} (ht : q_tb M pc = some (.lcmp, len, ks)) (hk : q_kill ks ls = ls) (h : J (pc + 1) ls (.int (lg_cmp x y) :: st) H) : J pc ls (.long y :: .long x :: st) H := y_s hC (z := (pc + 1, ls, _ :: st, H)) ht hk rfl rfl rfl h
theorem y_dup (hC : y_C G P M J) {v : Value} (ht : q_tb M pc = some (.dup, len, ks)) (hk : q_kill ks ls = ls) (hc : v.category = 1) (h : J (pc + 1) ls (v :: v :: st) H) : J pc ls (v :: st) H := y_s hC (z := (pc + 1, ls, v :: v :: st, H)) ht hk rfl rfl (by simp [q_s1, q_pu, q_lo, q_so, q_b2, q_l2, q_s2, hc]) h
theorem y_gets (hC : y_C G P M J) {i t b : Nat} (ht : q_tb M pc = some (.getstatic i, len, ks)) (hk : q_kill ks ls = ls) (hr : q_rs M i = some (5, t, b)) (h : J (pc + 3) ls (.retAddr t :: st) H) : J pc ls st H := y_s hC (z := (pc + 3, ls, .retAddr t :: st, H)) ht hk rfl rfl (by simp only [q_s1, q_pu, q_lo, q_so, q_b2, q_l2, q_s2, hr]) h
theorem y_new (hC : y_C G P M J) {i ci b : Nat} (ht : q_tb M pc = some (.new i, len, ks)) (hk : q_kill ks ls = ls) (hr : q_rs M i = some (3, ci, b)) (h : ∀ (a : Nat) (H' : q_H), a = H.1.length → H' = q_new H (.inl ci) → J (pc + 3) ls (.ref a :: st) H') : J pc ls st H := y_s hC (z := (pc + 3, ls, .ref H.1.length :: st, q_new H (.inl ci))) ht hk rfl rfl (by simp only [q_s1, q_pu, q_lo, q_so, q_b2, q_l2, q_s2, hr]) (h _ _ rfl rfl)
theorem y_newa (hC : y_C G P M J) {at_ : ArrayType} {t N : Nat} {n : Int32} (ht : q_tb M pc = some (.newarray at_, len, ks)) (hk : q_kill ks ls = ls) (ha : q_at at_ = some t) (hn : ¬ n < 0) (hN : n.toNatClampNeg = N) (hb : N ≤ 1000000) (h : ∀ (a : Nat) (H' : q_H), a = H.1.length → H' = q_new H (.inr (t, N)) → J (pc + 2) ls (.ref a :: st) H') : J pc ls (.int n :: st) H := by
  subst hN
  exact y_s hC (z := (pc + 2, ls, .ref H.1.length :: st, q_new H (.inr (t, n.toNatClampNeg)))) ht hk rfl rfl (by simp only [q_s1, q_pu, q_lo, q_so, q_b2, q_l2, q_s2, ha]; rw [if_neg (fun q => q.elim hn (fun q => by omega))]) (h _ _ rfl rfl)
theorem y_tsw (hC : y_C G P M J) {d lo hi : Int} {offs : Array Int} {x : Int32} {t : Nat} (ht : q_tb M pc = some (.tableswitch d lo hi offs, len, ks)) (hk : q_kill ks ls = ls) (hg : q_tsw pc d lo hi offs x = some t) (h : J t ls st H) : J pc ls (.int x :: st) H := y_s hC (z := (t, ls, st, H)) ht hk rfl rfl (by
  simp only [q_s1, q_pu, q_lo, q_so, q_b2, q_l2, q_s2]
  exact congrArg (Option.map fun t => (t, ls, st, H)) hg) h
theorem y_goto (hC : y_C G P M J) {off : Int} {t : Nat} (ht : q_tb M pc = some (.goto off, len, ks)) (hk : q_kill ks ls = ls) (hg : q_tg pc off = some t) (h : J t ls st H) : J pc ls st H := y_s hC (z := (t, ls, st, H)) ht hk rfl rfl (by simp [q_s1, q_pu, q_lo, q_so, q_b2, q_l2, q_s2, hg]) h
theorem y_if (hC : y_C G P M J) {c : ClassFile.Cond} {off : Int} {t : Nat} {x : Int32} (ht : q_tb M pc = some (.ifCond c off, len, ks)) (hk : q_kill ks ls = ls) (hg : q_tg pc off = some t) (h1 : q_cp c x 0 → J t ls st H) (h2 : ¬ q_cp c x 0 → J (pc + 3) ls st H) : J pc ls (.int x :: st) H := by
  by_cases q : q_cp c x 0
  · exact y_s hC (z := (t, ls, st, H)) ht hk rfl rfl (by simp [q_s1, q_pu, q_lo, q_so, q_b2, q_l2, q_s2, hg, (q_cp_cc c x 0).mpr q]) (h1 q)
  · exact y_s hC (z := (pc + 3, ls, st, H)) ht hk rfl rfl (by simp [q_s1, q_pu, q_lo, q_so, q_b2, q_l2, q_s2, hg, Bool.eq_false_iff.mpr (fun z => q ((q_cp_cc c x 0).mp z))]) (h2 q)
theorem y_icmp (hC : y_C G P M J) {c : ClassFile.Cond} {off : Int} {t : Nat} {x y : Int32} (ht : q_tb M pc = some (.if_icmp c off, len, ks)) (hk : q_kill ks ls = ls) (hg : q_tg pc off = some t) (h1 : q_cp c x y → J t ls st H) (h2 : ¬ q_cp c x y → J (pc + 3) ls st H) : J pc ls (.int y :: .int x :: st) H := by
  by_cases q : q_cp c x y
  · exact y_s hC (z := (t, ls, st, H)) ht hk rfl rfl (by simp [q_s1, q_pu, q_lo, q_so, q_b2, q_l2, q_s2, hg, (q_cp_cc c x y).mpr q]) (h1 q)
  · exact y_s hC (z := (pc + 3, ls, st, H)) ht hk rfl rfl (by simp [q_s1, q_pu, q_lo, q_so, q_b2, q_l2, q_s2, hg, Bool.eq_false_iff.mpr (fun z => q ((q_cp_cc c x y).mp z))]) (h2 q)
theorem y_get (hC : y_C G P M J) {i tag ci sl a : Nat} (ht : q_tb M pc = some (.getfield i, len, ks)) (hk : q_kill ks ls = ls) (hr : q_rs M i = some (tag, ci, sl)) (h3 : Nat.blt tag 3 = true) (ha : H.1[a]? = some (.inl ci)) (h : J (pc + 3) ls (q_fa G H a ci sl :: st) H) : J pc ls (.ref a :: st) H := y_s hC (z := (pc + 3, ls, q_fa G H a ci sl :: st, H)) ht hk rfl rfl (by
  have h4 : tag < 3 := Nat.le_of_ble_eq_true h3
  simp [q_s1, q_pu, q_lo, q_so, q_b2, q_l2, q_s2, hr, ha, h4]) h
theorem y_getI (hC : y_C G P M J) {i tag ci sl a : Nat} (ht : q_tb M pc = some (.getfield i, len, ks)) (hk : q_kill ks ls = ls) (hr : q_rs M i = some (tag, ci, sl)) (h3 : Nat.blt tag 3 = true) (hd : q_kd (g_ft G ci sl) = 0) (ha : H.1[a]? = some (.inl ci)) (h : J (pc + 3) ls (.int (H.2.1 a sl) :: st) H) : J pc ls (.ref a :: st) H := y_get hC ht hk hr h3 ha (by
  simp only [q_fa, hd, if_true]
  exact h)
theorem y_getL (hC : y_C G P M J) {i tag ci sl a : Nat} (ht : q_tb M pc = some (.getfield i, len, ks)) (hk : q_kill ks ls = ls) (hr : q_rs M i = some (tag, ci, sl)) (h3 : Nat.blt tag 3 = true) (hd : q_kd (g_ft G ci sl) = 1) (ha : H.1[a]? = some (.inl ci)) (h : J (pc + 3) ls (.long (H.2.2.1 a sl) :: st) H) : J pc ls (.ref a :: st) H := y_get hC ht hk hr h3 ha (by
  simp only [q_fa, hd, if_true]
  exact h)
theorem y_getA (hC : y_C G P M J) {i tag ci sl a b : Nat} (ht : q_tb M pc = some (.getfield i, len, ks)) (hk : q_kill ks ls = ls) (hr : q_rs M i = some (tag, ci, sl)) (h3 : Nat.blt tag 3 = true) (hd : q_kd (g_ft G ci sl) = 2) (ha : H.1[a]? = some (.inl ci)) (hb : H.2.2.2 a sl = some b) (h : J (pc + 3) ls (.ref b :: st) H) : J pc ls (.ref a :: st) H := y_get hC ht hk hr h3 ha (by
  simp only [q_fa, hd, hb]
  exact h)
theorem y_put (hC : y_C G P M J) {i tag ci sl a : Nat} {v : Value} {H' : q_H} (ht : q_tb M pc = some (.putfield i, len, ks)) (hk : q_kill ks ls = ls) (hr : q_rs M i = some (tag, ci, sl)) (h3 : tag = 0 ∨ tag = 2) (ha : H.1[a]? = some (.inl ci)) (hp : q_pf G H a ci sl v = some H') (h : J (pc + 3) ls st H') : J pc ls (v :: .ref a :: st) H := y_s hC (z := (pc + 3, ls, st, H')) ht hk rfl rfl (by
  simp [q_s1, q_pu, q_lo, q_so, q_b2, q_l2, q_s2, hr, ha, h3, hp]) h
theorem y_putA (hC : y_C G P M J) {i tag ci sl a b : Nat} (ht : q_tb M pc = some (.putfield i, len, ks)) (hk : q_kill ks ls = ls) (hr : q_rs M i = some (tag, ci, sl)) (h3 : tag = 0 ∨ tag = 2) (hd : q_kd (g_ft G ci sl) = 2) (ha : H.1[a]? = some (.inl ci)) (h : J (pc + 3) ls st (H.1, H.2.1, H.2.2.1, q_up H.2.2.2 a sl (some b))) : J pc ls (.ref b :: .ref a :: st) H := y_put hC ht hk hr h3 ha (by simp only [q_pf, hd, if_true]) h
theorem y_aload_t (hC : y_C G P M J) {i : Fin 4} {v : Nat} (ht : q_tb M pc = some (.aload_n i, len, ks)) (hk : q_kill ks ls = ls) (hv : ls[i.val]? = some (some (.retAddr v))) (h : J (pc + 1) ls (.retAddr v :: st) H) : J pc ls st H := y_load hC rfl rfl rfl rfl ht hk hv rfl (Nat.le_of_ble_eq_true rfl) h
theorem y_sald (hC : y_C G P M J) {i : Int32} {t j : Nat} {q : String × String × String × List Int32} (ht : q_tb M pc = some (.iaload, len, ks)) (hk : q_kill ks ls = ls) (h1 : (g_sz G)[t]? = some q) (h2 : q_ix i q.2.2.2.length = some j) (h : J (pc + 1) ls (.int (q.2.2.2.getD j 0) :: st) H) : J pc ls (.int i :: .retAddr t :: st) H := y_s hC (z := (pc + 1, ls, .int (q.2.2.2.getD j 0) :: st, H)) ht hk rfl rfl (by simp [q_s1, q_pu, q_lo, q_so, q_b2, q_l2, q_s2, h1, h2]) h
theorem y_slen (hC : y_C G P M J) {t : Nat} {q : String × String × String × List Int32} (ht : q_tb M pc = some (.arraylength, len, ks)) (hk : q_kill ks ls = ls) (h1 : (g_sz G)[t]? = some q) (h : J (pc + 1) ls (.int (Int32.ofNat q.2.2.2.length) :: st) H) : J pc ls (.retAddr t :: st) H := y_s hC (z := (pc + 1, ls, .int (Int32.ofNat q.2.2.2.length) :: st, H)) ht hk rfl rfl (by simp [q_s1, q_pu, q_lo, q_so, q_b2, q_l2, q_s2, h1]) h
theorem y_lald (hC : y_C G P M J) {i : Int32} {a n j : Nat} (ht : q_tb M pc = some (.laload, len, ks)) (hk : q_kill ks ls = ls) (h1 : H.1[a]? = some (.inr (1, n))) (h2 : q_ix i n = some j) (h : J (pc + 1) ls (.long (H.2.2.1 a j) :: st) H) : J pc ls (.int i :: .ref a :: st) H := y_s hC (z := (pc + 1, ls, .long (H.2.2.1 a j) :: st, H)) ht hk rfl rfl (by simp [q_s1, q_pu, q_lo, q_so, q_b2, q_l2, q_s2, h1, h2]) h
theorem y_obj (hC : y_C G P M J) {i a x1 x2 : Nat} (ht : q_tb M pc = some (.invokespecial i, len, ks)) (hk : q_kill ks ls = ls) (hr : q_rs M i = some (20, x1, x2)) (hc : Nat.ble (q_cat st) 8 = true) (h : J (pc + 3) ls st H) : J pc ls (.ref a :: st) H := y_s hC (z := (pc + 3, ls, st, H)) ht hk rfl (by simp [q_cal, hr]) (by
  have h4 : q_cat st ≤ 8 := Nat.le_of_ble_eq_true hc
  simp [q_s1, q_pu, q_lo, q_so, q_b2, q_l2, q_s2, hr, h4]) h
theorem y_call (hC : y_C G P M J) {ins : Instr} {k' : Nat} {as r : List Value} (ht : q_tb M pc = some (ins, len, ks)) (hk : q_kill ks ls = ls) (hs : q_stop ins = false) (hc : q_cal P M ins st H = some (k', as, r)) {F' : Option Value → q_H → Prop} (hc2 : q_Call G P k' as H F') (h : ∀ v H', F' v H' → J (pc + 3) ls (v.toList ++ r) H') : J pc ls st H := hC.2.1 pc ls st H ins len ks k' as r F' ht hs hc hc2 (by rw [hk]; exact h)
theorem y_cI (hC : y_C G P M J) {ins : Instr} {k' : Nat} {as r : List Value} {Q : Int32 → q_H → Prop} (ht : q_tb M pc = some (ins, len, ks)) (hk : q_kill ks ls = ls) (hs : q_stop ins = false) (hc : q_cal P M ins st H = some (k', as, r)) (hc2 : q_CallI G P k' as H Q) (h : ∀ x H', Q x H' → J (pc + 3) ls (.int x :: r) H') : J pc ls st H := y_call hC ht hk hs hc hc2 (fun v H' hv => by
  match v, hv with
  | some (.int x), hv => exact h x H' hv)
theorem y_cL (hC : y_C G P M J) {ins : Instr} {k' : Nat} {as r : List Value} {Q : Int64 → q_H → Prop} (ht : q_tb M pc = some (ins, len, ks)) (hk : q_kill ks ls = ls) (hs : q_stop ins = false) (hc : q_cal P M ins st H = some (k', as, r)) (hc2 : q_CallL G P k' as H Q) (h : ∀ x H', Q x H' → J (pc + 3) ls (.long x :: r) H') : J pc ls st H := y_call hC ht hk hs hc hc2 (fun v H' hv => by
  match v, hv with
  | some (.long x), hv => exact h x H' hv)
theorem y_cV (hC : y_C G P M J) {ins : Instr} {k' : Nat} {as r : List Value} {Q : q_H → Prop} (ht : q_tb M pc = some (ins, len, ks)) (hk : q_kill ks ls = ls) (hs : q_stop ins = false) (hc : q_cal P M ins st H = some (k', as, r)) (hc2 : q_CallV G P k' as H Q) (h : ∀ H', Q H' → J (pc + 3) ls r H') : J pc ls st H := y_call hC ht hk hs hc hc2 (fun v H' hv => by
  match v, hv with
  | none, hv => exact h H' hv)
theorem z_cal_v {i k' n b : Nat} {r : List Value} {as : List Value} (hr : q_rs M i = some (10, k', n)) (hd : st.drop n = .ref b :: r) (ha : (st.take n).reverse = as) (hl : Nat.beq (st.take n).length n = true) (hc : Nat.ble (q_cat r) 8 = true) (hb : H.1[b]? = some (.inl (q_ci (P k')))) : q_cal P M (.invokevirtual i) st H = some (k', .ref b :: as, r) := by
  subst ha
  simp only [q_cal, hr, hd]
  rw [if_pos ⟨hb, Nat.le_of_ble_eq_true hc, Nat.eq_of_beq_eq_true hl⟩]
theorem z_cal_i {i k' n b : Nat} {r : List Value} {as : List Value} (hr : q_rs M i = some (11, k', n)) (hd : st.drop n = .ref b :: r) (ha : (st.take n).reverse = as) (hl : Nat.beq (st.take n).length n = true) (hc : Nat.ble (q_cat r) 8 = true) : q_cal P M (.invokespecial i) st H = some (k', .ref b :: as, r) := by
  subst ha
  simp only [q_cal, hr, hd]
  rw [if_pos ⟨Nat.le_of_ble_eq_true hc, Nat.eq_of_beq_eq_true hl⟩]
theorem z_cal_s {i k' n : Nat} {r : List Value} {as : List Value} (hr : q_rs M i = some (12, k', n)) (hd : st.drop n = r) (ha : (st.take n).reverse = as) (hl : Nat.beq (st.take n).length n = true) (hc : Nat.ble (q_cat r) 8 = true) : q_cal P M (.invokestatic i) st H = some (k', as, r) := by
  subst ha
  subst hd
  simp only [q_cal, hr]
  rw [if_pos ⟨Nat.le_of_ble_eq_true hc, Nat.eq_of_beq_eq_true hl⟩]
/-- a run of ours, till it stops where Q holds -/
theorem y_C_ex (k : Nat) (Q : Nat → List Value → q_H → Prop) : y_C G P (P k) (fun pc ls st H => q_Ex G P k pc ls st H Q) := by
  refine ⟨fun pc ls st H ins len ks z ht hs hc h1 h => q_Ex.step ht hs hc h1 h, fun pc ls st H ins len ks k' as r F ht hs hc h1 h => q_Ex.call ht hs hc (q_Call.imp h1 (fun v H' hv => h v H' hv)), fun pc ls st H ins len ks ht h => ?_⟩
  obtain ⟨n, z, h1, h2⟩ := h
  refine ⟨n, z, ?_, h2⟩
  cases n with
  | zero => simp [q_x] at h1
  | succ n =>
    rw [q_x, ht] at h1 ⊢
    simp only [q_kill_idem] at h1
    exact h1
end
