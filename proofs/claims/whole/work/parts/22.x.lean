/-! One instruction of a stretch, a row each. -/
section
variable {G : q_G} {P : Nat → q_M} {k pc : Nat} {F : Option Value → q_H → Prop} {ls ls' : List (Option Value)} {st : List Value} {H : q_H} {len : Nat} {ks : List Nat}
theorem q_kill_at : ∀ (ks : List Nat) (ls : List (Option Value)) (i : Nat), (q_kill ks ls)[i]? = if i ∈ ks ∧ i < ls.length then some none else ls[i]?
  | [], ls, i => by simp [q_kill]
  | k :: ks, ls, i => by
    have ih := q_kill_at ks (ls.set k none) i
    have e : q_kill (k :: ks) ls = q_kill ks (ls.set k none) := rfl
    rw [e, ih, List.length_set, List.getElem?_set]
    by_cases hi : i < ls.length
    · by_cases h1 : i ∈ ks
      · simp [h1, hi]
      · by_cases h2 : k = i
        · simp [h1, h2, hi]
        · have h3 : ¬ i = k := fun q => h2 q.symm
          simp [h1, h2, h3]
    · by_cases h2 : k = i
      · simp [h2, hi]
      · simp [h2, hi]
theorem q_kill_len : ∀ (ks : List Nat) (ls : List (Option Value)), (q_kill ks ls).length = ls.length
  | [], ls => rfl
  | k :: ks, ls => by
    have e : q_kill (k :: ks) ls = q_kill ks (ls.set k none) := rfl
    rw [e, q_kill_len ks, List.length_set]
theorem q_kill_idem (ks : List Nat) (ls : List (Option Value)) : q_kill ks (q_kill ks ls) = q_kill ks ls := by
  apply List.ext_getElem?
  intro i
  rw [q_kill_at, q_kill_len, q_kill_at]
  split <;> rfl
/-- the dead locals go -/
theorem x_kill {ins : Instr} (ht : q_tb (P k) pc = some (ins, len, ks)) (hk : q_kill ks ls = ls') (h : q_Rt G P k F pc ls' st H) : q_Rt G P k F pc ls st H := by
  subst hk
  obtain ⟨n, z, h1, h2⟩ := h
  refine ⟨n, z, ?_, h2⟩
  cases n with
  | zero => simp [q_x] at h1
  | succ n =>
    rw [q_x, ht] at h1 ⊢
    simp only [q_kill_idem] at h1
    exact h1
theorem x_eq (he : ls = ls') (h : q_Rt G P k F pc ls' st H) : q_Rt G P k F pc ls st H := by
  subst he
  exact h
theorem x_s {ins : Instr} {z : q_R4} (ht : q_tb (P k) pc = some (ins, len, ks)) (hk : q_kill ks ls = ls) (hs : q_stop ins = false) (hc : q_cal P (P k) ins st H = none) (h1 : q_s1 G (P k) ins pc ls st H = some z) (h : q_Rt G P k F z.1 z.2.1 z.2.2.1 z.2.2.2) : q_Rt G P k F pc ls st H := q_Ex.step ht hs hc (by rw [hk]; exact h1) h
theorem x_iconst {n : Int} {v : Int32} (ht : q_tb (P k) pc = some (.iconst n, len, ks)) (hk : q_kill ks ls = ls) (hv : Int32.ofInt n = v) (h : q_Rt G P k F (pc + 1) ls (.int v :: st) H) : q_Rt G P k F pc ls st H := by
  subst hv
  exact x_s (z := (pc + 1, ls, _ :: st, H)) ht hk rfl rfl rfl h
theorem x_bipush {n : Int} {v : Int32} (ht : q_tb (P k) pc = some (.bipush n, len, ks)) (hk : q_kill ks ls = ls) (hv : (Int8.ofInt n).toInt32 = v) (h : q_Rt G P k F (pc + 2) ls (.int v :: st) H) : q_Rt G P k F pc ls st H := by
  subst hv
  exact x_s (z := (pc + 2, ls, _ :: st, H)) ht hk rfl rfl rfl h
theorem x_sipush {n : Int} {v : Int32} (ht : q_tb (P k) pc = some (.sipush n, len, ks)) (hk : q_kill ks ls = ls) (hv : (Int16.ofInt n).toInt32 = v) (h : q_Rt G P k F (pc + 3) ls (.int v :: st) H) : q_Rt G P k F pc ls st H := by
  subst hv
  exact x_s (z := (pc + 3, ls, _ :: st, H)) ht hk rfl rfl rfl h
theorem x_lconst {n : Fin 2} {v : Int64} (ht : q_tb (P k) pc = some (.lconst n, len, ks)) (hk : q_kill ks ls = ls) (hv : Int64.ofNat n.val = v) (h : q_Rt G P k F (pc + 1) ls (.long v :: st) H) : q_Rt G P k F pc ls st H := by
  subst hv
  exact x_s (z := (pc + 1, ls, _ :: st, H)) ht hk rfl rfl rfl h
theorem x_ldc {i : Nat} {v : Int32} (ht : q_tb (P k) pc = some (.ldc i, len, ks)) (hk : q_kill ks ls = ls) (hv : q_cn (P k) i = some (.int v)) (h : q_Rt G P k F (pc + 2) ls (.int v :: st) H) : q_Rt G P k F pc ls st H :=
  x_s (z := (pc + 2, ls, _ :: st, H)) ht hk rfl rfl (by simp only [q_s1, q_pu, hv]) h
theorem x_ldc2 {i : Nat} {v : Int64} (ht : q_tb (P k) pc = some (.ldc2_w i, len, ks)) (hk : q_kill ks ls = ls) (hv : q_cn (P k) i = some (.long v)) (h : q_Rt G P k F (pc + 3) ls (.long v :: st) H) : q_Rt G P k F pc ls st H :=
  x_s (z := (pc + 3, ls, _ :: st, H)) ht hk rfl rfl (by simp only [q_s1, q_pu, hv]) h
theorem x_load {ins : Instr} {n i kd : Nat} {v : Value} (hp : q_pu (P k) ins = none) (ho : q_lo ins = some (n, i, kd)) (hc : q_cal P (P k) ins st H = none) (hs : q_stop ins = false) (ht : q_tb (P k) pc = some (ins, len, ks)) (hk : q_kill ks ls = ls) (hv : ls[i]? = some (some v)) (hq : q_vk v = kd) (h3 : kd < 3) (h : q_Rt G P k F (pc + n) ls (v :: st) H) : q_Rt G P k F pc ls st H :=
  x_s (z := (pc + n, ls, v :: st, H)) ht hk hs hc (by simp only [q_s1, hp, ho, hv]; rw [if_pos ⟨hq, h3⟩]) h
theorem x_iload {i : Nat} {v : Int32} (ht : q_tb (P k) pc = some (.iload i, len, ks)) (hk : q_kill ks ls = ls) (hv : ls[i]? = some (some (.int v))) (h : q_Rt G P k F (pc + 2) ls (.int v :: st) H) : q_Rt G P k F pc ls st H := x_load rfl rfl rfl rfl ht hk hv rfl (Nat.le_of_ble_eq_true rfl) h
theorem x_iload_n {i : Fin 4} {v : Int32} (ht : q_tb (P k) pc = some (.iload_n i, len, ks)) (hk : q_kill ks ls = ls) (hv : ls[i.val]? = some (some (.int v))) (h : q_Rt G P k F (pc + 1) ls (.int v :: st) H) : q_Rt G P k F pc ls st H := x_load rfl rfl rfl rfl ht hk hv rfl (Nat.le_of_ble_eq_true rfl) h
theorem x_lload {i : Nat} {v : Int64} (ht : q_tb (P k) pc = some (.lload i, len, ks)) (hk : q_kill ks ls = ls) (hv : ls[i]? = some (some (.long v))) (h : q_Rt G P k F (pc + 2) ls (.long v :: st) H) : q_Rt G P k F pc ls st H := x_load rfl rfl rfl rfl ht hk hv rfl (Nat.le_of_ble_eq_true rfl) h
theorem x_lload_n {i : Fin 4} {v : Int64} (ht : q_tb (P k) pc = some (.lload_n i, len, ks)) (hk : q_kill ks ls = ls) (hv : ls[i.val]? = some (some (.long v))) (h : q_Rt G P k F (pc + 1) ls (.long v :: st) H) : q_Rt G P k F pc ls st H := x_load rfl rfl rfl rfl ht hk hv rfl (Nat.le_of_ble_eq_true rfl) h
theorem x_aload {i v : Nat} (ht : q_tb (P k) pc = some (.aload i, len, ks)) (hk : q_kill ks ls = ls) (hv : ls[i]? = some (some (.ref v))) (h : q_Rt G P k F (pc + 2) ls (.ref v :: st) H) : q_Rt G P k F pc ls st H := x_load rfl rfl rfl rfl ht hk hv rfl (Nat.le_of_ble_eq_true rfl) h
theorem x_aload_n {i : Fin 4} {v : Nat} (ht : q_tb (P k) pc = some (.aload_n i, len, ks)) (hk : q_kill ks ls = ls) (hv : ls[i.val]? = some (some (.ref v))) (h : q_Rt G P k F (pc + 1) ls (.ref v :: st) H) : q_Rt G P k F pc ls st H := x_load rfl rfl rfl rfl ht hk hv rfl (Nat.le_of_ble_eq_true rfl) h
theorem x_store {ins : Instr} {n i kd : Nat} {v : Value} (hp : q_pu (P k) ins = none) (ho : q_lo ins = none) (hso : q_so ins = some (n, i, kd)) (hc : q_cal P (P k) ins (v :: st) H = none) (hs : q_stop ins = false) (hq : q_vk v = kd) (h3 : kd < 3) (ht : q_tb (P k) pc = some (ins, len, ks)) (hk : q_kill ks ls = ls) (hi : Nat.ble (i + v.category) (q_nL (P k)) = true) (hl : q_set ls i v = ls') (h : q_Rt G P k F (pc + n) ls' st H) : q_Rt G P k F pc ls (v :: st) H :=
  x_s (z := (pc + n, ls', st, H)) ht hk hs hc (by simp only [q_s1, hp, ho, hso]; rw [if_pos ⟨hq, h3, Nat.le_of_ble_eq_true hi⟩, hl]) h
theorem x_istore {i : Nat} {v : Int32} (ht : q_tb (P k) pc = some (.istore i, len, ks)) (hk : q_kill ks ls = ls) (hi : Nat.ble (i + 1) (q_nL (P k)) = true) (hl : q_set ls i (.int v) = ls') (h : q_Rt G P k F (pc + 2) ls' st H) : q_Rt G P k F pc ls (.int v :: st) H := x_store rfl rfl rfl rfl rfl rfl (Nat.le_of_ble_eq_true rfl) ht hk hi hl h
theorem x_istore_n {i : Fin 4} {v : Int32} (ht : q_tb (P k) pc = some (.istore_n i, len, ks)) (hk : q_kill ks ls = ls) (hi : Nat.ble (i.val + 1) (q_nL (P k)) = true) (hl : q_set ls i.val (.int v) = ls') (h : q_Rt G P k F (pc + 1) ls' st H) : q_Rt G P k F pc ls (.int v :: st) H := x_store rfl rfl rfl rfl rfl rfl (Nat.le_of_ble_eq_true rfl) ht hk hi hl h
theorem x_lstore {i : Nat} {v : Int64} (ht : q_tb (P k) pc = some (.lstore i, len, ks)) (hk : q_kill ks ls = ls) (hi : Nat.ble (i + 2) (q_nL (P k)) = true) (hl : q_set ls i (.long v) = ls') (h : q_Rt G P k F (pc + 2) ls' st H) : q_Rt G P k F pc ls (.long v :: st) H := x_store rfl rfl rfl rfl rfl rfl (Nat.le_of_ble_eq_true rfl) ht hk hi hl h
theorem x_lstore_n {i : Fin 4} {v : Int64} (ht : q_tb (P k) pc = some (.lstore_n i, len, ks)) (hk : q_kill ks ls = ls) (hi : Nat.ble (i.val + 2) (q_nL (P k)) = true) (hl : q_set ls i.val (.long v) = ls') (h : q_Rt G P k F (pc + 1) ls' st H) : q_Rt G P k F pc ls (.long v :: st) H := x_store rfl rfl rfl rfl rfl rfl (Nat.le_of_ble_eq_true rfl) ht hk hi hl h
theorem x_astore {i v : Nat} (ht : q_tb (P k) pc = some (.astore i, len, ks)) (hk : q_kill ks ls = ls) (hi : Nat.ble (i + 1) (q_nL (P k)) = true) (hl : q_set ls i (.ref v) = ls') (h : q_Rt G P k F (pc + 2) ls' st H) : q_Rt G P k F pc ls (.ref v :: st) H := x_store rfl rfl rfl rfl rfl rfl (Nat.le_of_ble_eq_true rfl) ht hk hi hl h
theorem x_astore_n {i : Fin 4} {v : Nat} (ht : q_tb (P k) pc = some (.astore_n i, len, ks)) (hk : q_kill ks ls = ls) (hi : Nat.ble (i.val + 1) (q_nL (P k)) = true) (hl : q_set ls i.val (.ref v) = ls') (h : q_Rt G P k F (pc + 1) ls' st H) : q_Rt G P k F pc ls (.ref v :: st) H := x_store rfl rfl rfl rfl rfl rfl (Nat.le_of_ble_eq_true rfl) ht hk hi hl h
theorem x_iinc {i : Nat} {n : Int} {x v : Int32} (ht : q_tb (P k) pc = some (.iinc i n, len, ks)) (hk : q_kill ks ls = ls) (hv : ls[i]? = some (some (.int x))) (hi : Nat.blt i (q_nL (P k)) = true) (hn : Int32.ofInt n = v) (hl : q_set ls i (.int (x + v)) = ls') (h : q_Rt G P k F (pc + 3) ls' st H) : q_Rt G P k F pc ls st H := by
  subst hn
  exact x_s (z := (pc + 3, ls', st, H)) ht hk rfl rfl (by simp only [q_s1, q_pu, q_lo, q_so, q_b2, q_l2, q_s2, hv]; rw [if_pos (show i < q_nL (P k) from Nat.le_of_ble_eq_true hi), hl]) h
theorem x_iadd {x y : Int32} (ht : q_tb (P k) pc = some (.iadd, len, ks)) (hk : q_kill ks ls = ls) (h : q_Rt G P k F (pc + 1) ls (.int (x + y) :: st) H) : q_Rt G P k F pc ls (.int y :: .int x :: st) H := x_s (z := (pc + 1, ls, _ :: st, H)) ht hk rfl rfl rfl h
theorem x_isub {x y : Int32} (ht : q_tb (P k) pc = some (.isub, len, ks)) (hk : q_kill ks ls = ls) (h : q_Rt G P k F (pc + 1) ls (.int (x - y) :: st) H) : q_Rt G P k F pc ls (.int y :: .int x :: st) H := x_s (z := (pc + 1, ls, _ :: st, H)) ht hk rfl rfl rfl h
theorem x_imul {x y : Int32} (ht : q_tb (P k) pc = some (.imul, len, ks)) (hk : q_kill ks ls = ls) (h : q_Rt G P k F (pc + 1) ls (.int (x * y) :: st) H) : q_Rt G P k F pc ls (.int y :: .int x :: st) H := x_s (z := (pc + 1, ls, _ :: st, H)) ht hk rfl rfl rfl h
theorem x_iand {x y : Int32} (ht : q_tb (P k) pc = some (.iand, len, ks)) (hk : q_kill ks ls = ls) (h : q_Rt G P k F (pc + 1) ls (.int (x &&& y) :: st) H) : q_Rt G P k F pc ls (.int y :: .int x :: st) H := x_s (z := (pc + 1, ls, _ :: st, H)) ht hk rfl rfl rfl h
theorem x_ior {x y : Int32} (ht : q_tb (P k) pc = some (.ior, len, ks)) (hk : q_kill ks ls = ls) (h : q_Rt G P k F (pc + 1) ls (.int (x ||| y) :: st) H) : q_Rt G P k F pc ls (.int y :: .int x :: st) H := x_s (z := (pc + 1, ls, _ :: st, H)) ht hk rfl rfl rfl h
theorem x_ishl {x y : Int32} (ht : q_tb (P k) pc = some (.ishl, len, ks)) (hk : q_kill ks ls = ls) (h : q_Rt G P k F (pc + 1) ls (.int (x <<< (y &&& 31)) :: st) H) : q_Rt G P k F pc ls (.int y :: .int x :: st) H := x_s (z := (pc + 1, ls, _ :: st, H)) ht hk rfl rfl rfl h
theorem x_ladd {x y : Int64} (ht : q_tb (P k) pc = some (.ladd, len, ks)) (hk : q_kill ks ls = ls) (h : q_Rt G P k F (pc + 1) ls (.long (x + y) :: st) H) : q_Rt G P k F pc ls (.long y :: .long x :: st) H := x_s (z := (pc + 1, ls, _ :: st, H)) ht hk rfl rfl rfl h
theorem x_lsub {x y : Int64} (ht : q_tb (P k) pc = some (.lsub, len, ks)) (hk : q_kill ks ls = ls) (h : q_Rt G P k F (pc + 1) ls (.long (x - y) :: st) H) : q_Rt G P k F pc ls (.long y :: .long x :: st) H := x_s (z := (pc + 1, ls, _ :: st, H)) ht hk rfl rfl rfl h
theorem x_lmul {x y : Int64} (ht : q_tb (P k) pc = some (.lmul, len, ks)) (hk : q_kill ks ls = ls) (h : q_Rt G P k F (pc + 1) ls (.long (x * y) :: st) H) : q_Rt G P k F pc ls (.long y :: .long x :: st) H := x_s (z := (pc + 1, ls, _ :: st, H)) ht hk rfl rfl rfl h
theorem x_idiv {x y : Int32} (ht : q_tb (P k) pc = some (.idiv, len, ks)) (hk : q_kill ks ls = ls) (hy : ¬ y = 0) (h : q_Rt G P k F (pc + 1) ls (.int (x / y) :: st) H) : q_Rt G P k F pc ls (.int y :: .int x :: st) H := x_s (z := (pc + 1, ls, .int (x / y) :: st, H)) ht hk rfl rfl (by simp [q_s1, q_pu, q_lo, q_so, q_b2, hy]) h
theorem x_irem {x y : Int32} (ht : q_tb (P k) pc = some (.irem, len, ks)) (hk : q_kill ks ls = ls) (hy : ¬ y = 0) (h : q_Rt G P k F (pc + 1) ls (.int (x - x / y * y) :: st) H) : q_Rt G P k F pc ls (.int y :: .int x :: st) H := x_s (z := (pc + 1, ls, .int (x - x / y * y) :: st, H)) ht hk rfl rfl (by simp [q_s1, q_pu, q_lo, q_so, q_b2, hy]) h
theorem x_ldiv {x y : Int64} (ht : q_tb (P k) pc = some (.ldiv, len, ks)) (hk : q_kill ks ls = ls) (hy : ¬ y = 0) (h : q_Rt G P k F (pc + 1) ls (.long (x / y) :: st) H) : q_Rt G P k F pc ls (.long y :: .long x :: st) H := x_s (z := (pc + 1, ls, .long (x / y) :: st, H)) ht hk rfl rfl (by simp [q_s1, q_pu, q_lo, q_so, q_b2, q_l2, hy]) h
theorem x_lrem {x y : Int64} (ht : q_tb (P k) pc = some (.lrem, len, ks)) (hk : q_kill ks ls = ls) (hy : ¬ y = 0) (h : q_Rt G P k F (pc + 1) ls (.long (x - x / y * y) :: st) H) : q_Rt G P k F pc ls (.long y :: .long x :: st) H := x_s (z := (pc + 1, ls, .long (x - x / y * y) :: st, H)) ht hk rfl rfl (by simp [q_s1, q_pu, q_lo, q_so, q_b2, q_l2, hy]) h
theorem x_ineg {x : Int32} (ht : q_tb (P k) pc = some (.ineg, len, ks)) (hk : q_kill ks ls = ls) (h : q_Rt G P k F (pc + 1) ls (.int (-x) :: st) H) : q_Rt G P k F pc ls (.int x :: st) H := x_s (z := (pc + 1, ls, _ :: st, H)) ht hk rfl rfl rfl h
theorem x_i2l {x : Int32} (ht : q_tb (P k) pc = some (.i2l, len, ks)) (hk : q_kill ks ls = ls) (h : q_Rt G P k F (pc + 1) ls (.long x.toInt64 :: st) H) : q_Rt G P k F pc ls (.int x :: st) H := x_s (z := (pc + 1, ls, _ :: st, H)) ht hk rfl rfl rfl h
theorem x_l2i {x : Int64} (ht : q_tb (P k) pc = some (.l2i, len, ks)) (hk : q_kill ks ls = ls) (h : q_Rt G P k F (pc + 1) ls (.int x.toInt32 :: st) H) : q_Rt G P k F pc ls (.long x :: st) H := x_s (z := (pc + 1, ls, _ :: st, H)) ht hk rfl rfl rfl h
theorem x_lcmp {x y : Int64} (ht : q_tb (P k) pc = some (.lcmp, len, ks)) (hk : q_kill ks ls = ls) (h : q_Rt G P k F (pc + 1) ls (.int (lg_cmp x y) :: st) H) : q_Rt G P k F pc ls (.long y :: .long x :: st) H := x_s (z := (pc + 1, ls, _ :: st, H)) ht hk rfl rfl rfl h
theorem x_dup {v : Value} (ht : q_tb (P k) pc = some (.dup, len, ks)) (hk : q_kill ks ls = ls) (hc : v.category = 1) (h : q_Rt G P k F (pc + 1) ls (v :: v :: st) H) : q_Rt G P k F pc ls (v :: st) H := x_s (z := (pc + 1, ls, v :: v :: st, H)) ht hk rfl rfl (by simp [q_s1, q_pu, q_lo, q_so, q_b2, q_l2, q_s2, hc]) h
theorem x_pop {v : Value} (ht : q_tb (P k) pc = some (.pop, len, ks)) (hk : q_kill ks ls = ls) (hc : v.category = 1) (h : q_Rt G P k F (pc + 1) ls st H) : q_Rt G P k F pc ls (v :: st) H := x_s (z := (pc + 1, ls, st, H)) ht hk rfl rfl (by simp [q_s1, q_pu, q_lo, q_so, q_b2, q_l2, q_s2, hc]) h
theorem x_dup_x1 {v w : Value} (ht : q_tb (P k) pc = some (.dup_x1, len, ks)) (hk : q_kill ks ls = ls) (hc : v.category = 1) (hd : w.category = 1) (h : q_Rt G P k F (pc + 1) ls (v :: w :: v :: st) H) : q_Rt G P k F pc ls (v :: w :: st) H := x_s (z := (pc + 1, ls, v :: w :: v :: st, H)) ht hk rfl rfl (by simp [q_s1, q_pu, q_lo, q_so, q_b2, q_l2, q_s2, hc, hd]) h
theorem x_dup2 {v w : Value} (ht : q_tb (P k) pc = some (.dup2, len, ks)) (hk : q_kill ks ls = ls) (hc : v.category = 1) (hd : w.category = 1) (h : q_Rt G P k F (pc + 1) ls (v :: w :: v :: w :: st) H) : q_Rt G P k F pc ls (v :: w :: st) H := x_s (z := (pc + 1, ls, v :: w :: v :: w :: st, H)) ht hk rfl rfl (by simp [q_s1, q_pu, q_lo, q_so, q_b2, q_l2, q_s2, hc, hd]) h
/-- what the propositions of stretches say of one instruction -/
theorem x_w {ins : Instr} (ht : q_tb (P k) pc = some (ins, len, ks)) (hk : q_kill ks ls = ls) (hs : q_stop ins = false) (h : q_w1 G P (P k) ins pc ls st H (q_Rt G P k F)) : q_Rt G P k F pc ls st H := q_w1_ok ht hs (by rw [hk]; exact h) (fun _ _ _ _ h => h)
theorem x_goto {off : Int} {t : Nat} (ht : q_tb (P k) pc = some (.goto off, len, ks)) (hk : q_kill ks ls = ls) (hg : q_tg pc off = some t) (h : q_Rt G P k F t ls st H) : q_Rt G P k F pc ls st H := x_w ht hk rfl (by simp only [q_w1, hg]; exact h)
theorem x_if {c : ClassFile.Cond} {off : Int} {t : Nat} {x : Int32} (ht : q_tb (P k) pc = some (.ifCond c off, len, ks)) (hk : q_kill ks ls = ls) (hg : q_tg pc off = some t) (h1 : q_cp c x 0 → q_Rt G P k F t ls st H) (h2 : ¬ q_cp c x 0 → q_Rt G P k F (pc + 3) ls st H) : q_Rt G P k F pc ls (.int x :: st) H := x_w ht hk rfl (by simp only [q_w1, hg]; exact ⟨h1, h2⟩)
theorem x_icmp {c : ClassFile.Cond} {off : Int} {t : Nat} {x y : Int32} (ht : q_tb (P k) pc = some (.if_icmp c off, len, ks)) (hk : q_kill ks ls = ls) (hg : q_tg pc off = some t) (h1 : q_cp c x y → q_Rt G P k F t ls st H) (h2 : ¬ q_cp c x y → q_Rt G P k F (pc + 3) ls st H) : q_Rt G P k F pc ls (.int y :: .int x :: st) H := x_w ht hk rfl (by simp only [q_w1, hg]; exact ⟨h1, h2⟩)
theorem x_getI {i tag ci sl a : Nat} (ht : q_tb (P k) pc = some (.getfield i, len, ks)) (hk : q_kill ks ls = ls) (hr : q_rs (P k) i = some (tag, ci, sl)) (h3 : Nat.blt tag 3 = true) (hd : q_kd (g_ft G ci sl) = 0) (ha : H.1[a]? = some (.inl ci)) (h : q_Rt G P k F (pc + 3) ls (.int (H.2.1 a sl) :: st) H) : q_Rt G P k F pc ls (.ref a :: st) H := x_w ht hk rfl (by simp only [q_w1, hr, h3]; exact ⟨ha, by simp only [q_wg, hd]; exact h⟩)
theorem x_getL {i tag ci sl a : Nat} (ht : q_tb (P k) pc = some (.getfield i, len, ks)) (hk : q_kill ks ls = ls) (hr : q_rs (P k) i = some (tag, ci, sl)) (h3 : Nat.blt tag 3 = true) (hd : q_kd (g_ft G ci sl) = 1) (ha : H.1[a]? = some (.inl ci)) (h : q_Rt G P k F (pc + 3) ls (.long (H.2.2.1 a sl) :: st) H) : q_Rt G P k F pc ls (.ref a :: st) H := x_w ht hk rfl (by simp only [q_w1, hr, h3]; exact ⟨ha, by simp only [q_wg, hd]; exact h⟩)
theorem x_getA {i tag ci sl a b : Nat} (ht : q_tb (P k) pc = some (.getfield i, len, ks)) (hk : q_kill ks ls = ls) (hr : q_rs (P k) i = some (tag, ci, sl)) (h3 : Nat.blt tag 3 = true) (hd : q_kd (g_ft G ci sl) = 2) (ha : H.1[a]? = some (.inl ci)) (hb : H.2.2.2 a sl = some b) (h : q_Rt G P k F (pc + 3) ls (.ref b :: st) H) : q_Rt G P k F pc ls (.ref a :: st) H := x_w ht hk rfl (by simp only [q_w1, hr, h3]; exact ⟨ha, by simp only [q_wg, hd]; exact ⟨b, hb, h⟩⟩)
theorem x_put {i tag ci sl a : Nat} {v : Value} (ht : q_tb (P k) pc = some (.putfield i, len, ks)) (hk : q_kill ks ls = ls) (hr : q_rs (P k) i = some (tag, ci, sl)) (h3 : tag = 0 ∨ tag = 2) (ha : H.1[a]? = some (.inl ci)) (h : q_wpf G H a ci sl v (fun H' => q_Rt G P k F (pc + 3) ls st H')) : q_Rt G P k F pc ls (v :: .ref a :: st) H := x_w ht hk rfl (by
  rcases h3 with rfl | rfl
  · simp only [q_w1, hr]; exact ⟨ha, h⟩
  · simp only [q_w1, hr]; exact ⟨ha, h⟩)
theorem x_putI {i tag ci sl a : Nat} {x : Int32} (ht : q_tb (P k) pc = some (.putfield i, len, ks)) (hk : q_kill ks ls = ls) (hr : q_rs (P k) i = some (tag, ci, sl)) (h3 : tag = 0 ∨ tag = 2) (hd : g_ft G ci sl = .int) (ha : H.1[a]? = some (.inl ci)) (h : q_Rt G P k F (pc + 3) ls st (H.1, q_up H.2.1 a sl x, H.2.2.1, H.2.2.2)) : q_Rt G P k F pc ls (.int x :: .ref a :: st) H := x_put ht hk hr h3 ha (by simp only [q_wpf, hd]; exact h)
theorem x_putZ {i tag ci sl a : Nat} {x : Int32} (ht : q_tb (P k) pc = some (.putfield i, len, ks)) (hk : q_kill ks ls = ls) (hr : q_rs (P k) i = some (tag, ci, sl)) (h3 : tag = 0 ∨ tag = 2) (hd : g_ft G ci sl = .boolean) (ha : H.1[a]? = some (.inl ci)) (hx : x = 0 ∨ x = 1) (h : q_Rt G P k F (pc + 3) ls st (H.1, q_up H.2.1 a sl x, H.2.2.1, H.2.2.2)) : q_Rt G P k F pc ls (.int x :: .ref a :: st) H := x_put ht hk hr h3 ha (by simp only [q_wpf, hd]; exact ⟨hx, h⟩)
theorem x_putL {i tag ci sl a : Nat} {x : Int64} (ht : q_tb (P k) pc = some (.putfield i, len, ks)) (hk : q_kill ks ls = ls) (hr : q_rs (P k) i = some (tag, ci, sl)) (h3 : tag = 0 ∨ tag = 2) (hd : g_ft G ci sl = .long) (ha : H.1[a]? = some (.inl ci)) (h : q_Rt G P k F (pc + 3) ls st (H.1, H.2.1, q_up H.2.2.1 a sl x, H.2.2.2)) : q_Rt G P k F pc ls (.long x :: .ref a :: st) H := x_put ht hk hr h3 ha (by simp only [q_wpf, hd]; exact h)
theorem x_putA {i tag ci sl a b : Nat} (ht : q_tb (P k) pc = some (.putfield i, len, ks)) (hk : q_kill ks ls = ls) (hr : q_rs (P k) i = some (tag, ci, sl)) (h3 : tag = 0 ∨ tag = 2) (hd : q_kd (g_ft G ci sl) = 2) (ha : H.1[a]? = some (.inl ci)) (h : q_Rt G P k F (pc + 3) ls st (H.1, H.2.1, H.2.2.1, q_up H.2.2.2 a sl (some b))) : q_Rt G P k F pc ls (.ref b :: .ref a :: st) H := x_put ht hk hr h3 ha (by simp only [q_wpf, hd]; exact h)
theorem x_gets {i t b : Nat} (ht : q_tb (P k) pc = some (.getstatic i, len, ks)) (hk : q_kill ks ls = ls) (hr : q_rs (P k) i = some (5, t, b)) (h : q_Rt G P k F (pc + 3) ls (.retAddr t :: st) H) : q_Rt G P k F pc ls st H := x_s (z := (pc + 3, ls, .retAddr t :: st, H)) ht hk rfl rfl (by simp only [q_s1, q_pu, q_lo, q_so, q_b2, q_l2, q_s2, hr]) h
theorem x_iald {i : Int32} {a n j : Nat} (ht : q_tb (P k) pc = some (.iaload, len, ks)) (hk : q_kill ks ls = ls) (h1 : H.1[a]? = some (.inr (0, n))) (h2 : q_ix i n = some j) (h : q_Rt G P k F (pc + 1) ls (.int (H.2.1 a j) :: st) H) : q_Rt G P k F pc ls (.int i :: .ref a :: st) H := x_w ht hk rfl (by simp only [q_w1]; exact ⟨n, j, h1, h2, h⟩)
theorem x_sald {i : Int32} {t j : Nat} {q : String × String × String × List Int32} (ht : q_tb (P k) pc = some (.iaload, len, ks)) (hk : q_kill ks ls = ls) (h1 : (g_sz G)[t]? = some q) (h2 : q_ix i q.2.2.2.length = some j) (h : q_Rt G P k F (pc + 1) ls (.int (q.2.2.2.getD j 0) :: st) H) : q_Rt G P k F pc ls (.int i :: .retAddr t :: st) H := x_w ht hk rfl (by simp only [q_w1]; exact ⟨q, j, h1, h2, h⟩)
theorem x_lald {i : Int32} {a n j : Nat} (ht : q_tb (P k) pc = some (.laload, len, ks)) (hk : q_kill ks ls = ls) (h1 : H.1[a]? = some (.inr (1, n))) (h2 : q_ix i n = some j) (h : q_Rt G P k F (pc + 1) ls (.long (H.2.2.1 a j) :: st) H) : q_Rt G P k F pc ls (.int i :: .ref a :: st) H := x_w ht hk rfl (by simp only [q_w1]; exact ⟨n, j, h1, h2, h⟩)
theorem x_bald {i : Int32} {a n j : Nat} (ht : q_tb (P k) pc = some (.baload, len, ks)) (hk : q_kill ks ls = ls) (h1 : H.1[a]? = some (.inr (2, n))) (h2 : q_ix i n = some j) (h : q_Rt G P k F (pc + 1) ls (.int (H.2.1 a j) :: st) H) : q_Rt G P k F pc ls (.int i :: .ref a :: st) H := x_w ht hk rfl (by simp only [q_w1]; exact ⟨n, j, h1, h2, h⟩)
theorem x_aald {i : Int32} {a t n j b : Nat} (ht : q_tb (P k) pc = some (.aaload, len, ks)) (hk : q_kill ks ls = ls) (h1 : H.1[a]? = some (.inr (t, n))) (h2 : q_kd (g_at G t) = 2 ∧ t < g_na G) (h3 : q_ix i n = some j) (h4 : H.2.2.2 a j = some b) (h : q_Rt G P k F (pc + 1) ls (.ref b :: st) H) : q_Rt G P k F pc ls (.int i :: .ref a :: st) H := x_w ht hk rfl (by simp only [q_w1]; exact ⟨t, n, j, b, h1, h2, h3, h4, h⟩)
theorem x_iast {i x : Int32} {a n j : Nat} (ht : q_tb (P k) pc = some (.iastore, len, ks)) (hk : q_kill ks ls = ls) (h1 : H.1[a]? = some (.inr (0, n))) (h2 : q_ix i n = some j) (h : q_Rt G P k F (pc + 1) ls st (H.1, q_up H.2.1 a j x, H.2.2.1, H.2.2.2)) : q_Rt G P k F pc ls (.int x :: .int i :: .ref a :: st) H := x_w ht hk rfl (by simp only [q_w1]; exact ⟨n, j, h1, h2, h⟩)
theorem x_last {i : Int32} {x : Int64} {a n j : Nat} (ht : q_tb (P k) pc = some (.lastore, len, ks)) (hk : q_kill ks ls = ls) (h1 : H.1[a]? = some (.inr (1, n))) (h2 : q_ix i n = some j) (h : q_Rt G P k F (pc + 1) ls st (H.1, H.2.1, q_up H.2.2.1 a j x, H.2.2.2)) : q_Rt G P k F pc ls (.long x :: .int i :: .ref a :: st) H := x_w ht hk rfl (by simp only [q_w1]; exact ⟨n, j, h1, h2, h⟩)
theorem x_bast {i x : Int32} {a n j : Nat} (ht : q_tb (P k) pc = some (.bastore, len, ks)) (hk : q_kill ks ls = ls) (h1 : H.1[a]? = some (.inr (2, n))) (h2 : q_ix i n = some j) (h : q_Rt G P k F (pc + 1) ls st (H.1, q_up H.2.1 a j (x &&& 1), H.2.2.1, H.2.2.2)) : q_Rt G P k F pc ls (.int x :: .int i :: .ref a :: st) H := x_w ht hk rfl (by simp only [q_w1]; exact ⟨n, j, h1, h2, h⟩)
theorem x_alen {a t n : Nat} (ht : q_tb (P k) pc = some (.arraylength, len, ks)) (hk : q_kill ks ls = ls) (h1 : H.1[a]? = some (.inr (t, n))) (h2 : t < g_na G) (h : q_Rt G P k F (pc + 1) ls (.int (Int32.ofNat n) :: st) H) : q_Rt G P k F pc ls (.ref a :: st) H := x_w ht hk rfl (by simp only [q_w1]; exact ⟨t, n, h1, h2, h⟩)
theorem x_obj {i a x1 x2 : Nat} (ht : q_tb (P k) pc = some (.invokespecial i, len, ks)) (hk : q_kill ks ls = ls) (hr : q_rs (P k) i = some (20, x1, x2)) (hc : Nat.ble (q_cat st) 8 = true) (h : q_Rt G P k F (pc + 3) ls st H) : q_Rt G P k F pc ls (.ref a :: st) H := x_w ht hk rfl (by simp only [q_w1, hr, hc]; exact h)
theorem x_min {i x1 x2 : Nat} {x y : Int32} (ht : q_tb (P k) pc = some (.invokestatic i, len, ks)) (hk : q_kill ks ls = ls) (hr : q_rs (P k) i = some (21, x1, x2)) (hc : Nat.ble (q_cat st) 8 = true) (h : q_Rt G P k F (pc + 3) ls (.int (if y < x then y else x) :: st) H) : q_Rt G P k F pc ls (.int y :: .int x :: st) H := x_w ht hk rfl (by simp only [q_w1, hr, hc]; exact h)
theorem x_max {i x1 x2 : Nat} {x y : Int32} (ht : q_tb (P k) pc = some (.invokestatic i, len, ks)) (hk : q_kill ks ls = ls) (hr : q_rs (P k) i = some (22, x1, x2)) (hc : Nat.ble (q_cat st) 8 = true) (h : q_Rt G P k F (pc + 3) ls (.int (if x < y then y else x) :: st) H) : q_Rt G P k F pc ls (.int y :: .int x :: st) H := x_w ht hk rfl (by simp only [q_w1, hr, hc]; exact h)
theorem x_abs {i x1 x2 : Nat} {x : Int32} (ht : q_tb (P k) pc = some (.invokestatic i, len, ks)) (hk : q_kill ks ls = ls) (hr : q_rs (P k) i = some (23, x1, x2)) (hc : Nat.ble (q_cat st) 8 = true) (h : q_Rt G P k F (pc + 3) ls (.int (if 0 ≤ x then x else 0 - x) :: st) H) : q_Rt G P k F pc ls (.int x :: st) H := x_w ht hk rfl (by simp only [q_w1, hr, hc]; exact h)
/-- a call, whatever it returns: the arguments and the rest by the stack -/
theorem x_call {ins : Instr} {k' : Nat} {as r : List Value} (ht : q_tb (P k) pc = some (ins, len, ks)) (hk : q_kill ks ls = ls) (hs : q_stop ins = false) (hc : q_cal P (P k) ins st H = some (k', as, r)) {F' : Option Value → q_H → Prop} (hc2 : q_Call G P k' as H F') (h : ∀ v H', F' v H' → q_Rt G P k F (pc + 3) ls (v.toList ++ r) H') : q_Rt G P k F pc ls st H := q_Ex.call ht hs hc (q_Call.imp hc2 (fun v H' hv => by rw [hk]; exact h v H' hv))
theorem x_cI {ins : Instr} {k' : Nat} {as r : List Value} {Q : Int32 → q_H → Prop} (ht : q_tb (P k) pc = some (ins, len, ks)) (hk : q_kill ks ls = ls) (hs : q_stop ins = false) (hc : q_cal P (P k) ins st H = some (k', as, r)) (hc2 : q_CallI G P k' as H Q) (h : ∀ x H', Q x H' → q_Rt G P k F (pc + 3) ls (.int x :: r) H') : q_Rt G P k F pc ls st H := x_call ht hk hs hc hc2 (fun v H' hv => by
  match v, hv with
  | some (.int x), hv => exact h x H' hv)
theorem x_cL {ins : Instr} {k' : Nat} {as r : List Value} {Q : Int64 → q_H → Prop} (ht : q_tb (P k) pc = some (ins, len, ks)) (hk : q_kill ks ls = ls) (hs : q_stop ins = false) (hc : q_cal P (P k) ins st H = some (k', as, r)) (hc2 : q_CallL G P k' as H Q) (h : ∀ x H', Q x H' → q_Rt G P k F (pc + 3) ls (.long x :: r) H') : q_Rt G P k F pc ls st H := x_call ht hk hs hc hc2 (fun v H' hv => by
  match v, hv with
  | some (.long x), hv => exact h x H' hv)
theorem x_cV {ins : Instr} {k' : Nat} {as r : List Value} {Q : q_H → Prop} (ht : q_tb (P k) pc = some (ins, len, ks)) (hk : q_kill ks ls = ls) (hs : q_stop ins = false) (hc : q_cal P (P k) ins st H = some (k', as, r)) (hc2 : q_CallV G P k' as H Q) (h : ∀ H', Q H' → q_Rt G P k F (pc + 3) ls r H') : q_Rt G P k F pc ls st H := x_call ht hk hs hc hc2 (fun v H' hv => by
  match v, hv with
  | none, hv => exact h H' hv)
theorem q_cal_v {i k' n b : Nat} {r : List Value} {as : List Value} (hr : q_rs (P k) i = some (10, k', n)) (hd : st.drop n = .ref b :: r) (ha : (st.take n).reverse = as) (hl : Nat.beq (st.take n).length n = true) (hc : Nat.ble (q_cat r) 8 = true) (hb : H.1[b]? = some (.inl (q_ci (P k')))) : q_cal P (P k) (.invokevirtual i) st H = some (k', .ref b :: as, r) := by
  subst ha
  simp only [q_cal, hr, hd]
  rw [if_pos ⟨hb, Nat.le_of_ble_eq_true hc, Nat.eq_of_beq_eq_true hl⟩]
theorem q_cal_i {i k' n b : Nat} {r : List Value} {as : List Value} (hr : q_rs (P k) i = some (11, k', n)) (hd : st.drop n = .ref b :: r) (ha : (st.take n).reverse = as) (hl : Nat.beq (st.take n).length n = true) (hc : Nat.ble (q_cat r) 8 = true) : q_cal P (P k) (.invokespecial i) st H = some (k', .ref b :: as, r) := by
  subst ha
  simp only [q_cal, hr, hd]
  rw [if_pos ⟨Nat.le_of_ble_eq_true hc, Nat.eq_of_beq_eq_true hl⟩]
theorem q_cal_s {i k' n : Nat} {r : List Value} {as : List Value} (hr : q_rs (P k) i = some (12, k', n)) (hd : st.drop n = r) (ha : (st.take n).reverse = as) (hl : Nat.beq (st.take n).length n = true) (hc : Nat.ble (q_cat r) 8 = true) : q_cal P (P k) (.invokestatic i) st H = some (k', as, r) := by
  subst ha
  subst hd
  simp only [q_cal, hr]
  rw [if_pos ⟨Nat.le_of_ble_eq_true hc, Nat.eq_of_beq_eq_true hl⟩]
theorem x_iret {x : Int32} (ht : q_tb (P k) pc = some (.ireturn, len, ks)) (hr : q_rt (P k) = some .int) (h : F (some (.int x)) H) : q_Rt G P k F pc ls [.int x] H := q_Ex.stop ht rfl (q_we_ok ht (by simp only [q_we, hr]; exact h))
theorem x_zret {x : Int32} (ht : q_tb (P k) pc = some (.ireturn, len, ks)) (hr : q_rt (P k) = some .boolean) (hx : x &&& 1 = x) (h : F (some (.int x)) H) : q_Rt G P k F pc ls [.int x] H := q_Ex.stop ht rfl (q_we_ok ht (by simp only [q_we, hr]; exact ⟨hx, h⟩))
theorem x_lret {x : Int64} (ht : q_tb (P k) pc = some (.lreturn, len, ks)) (hr : q_rt (P k) = some .long) (h : F (some (.long x)) H) : q_Rt G P k F pc ls [.long x] H := q_Ex.stop ht rfl (q_we_ok ht (by simp only [q_we, hr]; exact h))
theorem x_vret (ht : q_tb (P k) pc = some (.return_, len, ks)) (hr : q_rt (P k) = none) (h : F none H) : q_Rt G P k F pc ls [] H := q_Ex.stop ht rfl (q_we_ok ht (by simp only [q_we, hr]; exact h))
end
