/-! The law's cases (laid by prog/gen6.py). -/
def ixs (xs : List Int32) (i4 : Int32) (j : Nat) : Prop := q_ix (i4 + 1) xs.length = some (j + 1) ∧ q_ix (i4 + 2) xs.length = some (j + 2) ∧ q_ix (i4 + 3) xs.length = some (j + 3) ∧ q_ix (i4 + 4) xs.length = some (j + 4) ∧ q_ix (i4 + 5) xs.length = some (j + 5)
theorem lcmp0 (a : Int64) : lg_cmp a a = 0 := by
  unfold lg_cmp
  rw [if_neg (fun z => Int64.lt_irrefl z), if_pos rfl]
theorem up69 (w : Nat → Int → Int) (x : Int64) : q_up (zt w) 69 0 x = zt (zu w 69 0 x.toInt) := by
  have := zt_un w 69 0 x.toInt
  rw [← zl_of] at this
  exact this
theorem at69 {w : Nat → Int → Int} {x : Int64} (h : w 69 0 = x.toInt) : zt w 69 0 = x := by
  show zl (w 69 0) = x
  rw [h]
  exact (zl_of x).symm
section
variable {sh : List q_Sh} {v w : Nat → Int → Int} {R : Nat → Nat → Option Nat} {i4 : Int32} {j : Nat} {J : Nat → List (Option Value) → List Value → q_H → Prop}
theorem L_costs (xs : List Int32) (hC : y_C (GG xs) PP ML J) (h : INV sh v w R) (hj : ixs xs i4 j) (k : ∀ v2 w2 R2, INV sh v2 w2 R2 → J 1052 [some (.retAddr 1), some (.ref 0), some (.ref 48), some (.ref 69), some (.int i4), none, none, none] [] (sh, zs v2, zt w2, R2)) : J 248 [some (.retAddr 1), some (.ref 0), some (.ref 48), some (.ref 69), some (.int i4), none, none, none] [] (sh, zs v, zt w, R) := by
  have st := st_costs xs h (xs.getD (j + 1) 0).toInt (xs.getD (j + 2) 0).toInt (xs.getD (j + 3) 0).toInt (xs.getD (j + 4) 0).toInt (xs.getD (j + 5) 0).toInt (zi_rng _) (zi_rng _) (zi_rng _) (zi_rng _) (zi_rng _)
  rw [← zi_of (xs.getD (j + 1) 0), ← zi_of (xs.getD (j + 2) 0), ← zi_of (xs.getD (j + 3) 0), ← zi_of (xs.getD (j + 4) 0), ← zi_of (xs.getD (j + 5) 0)] at st
  obtain ⟨r, v1, w1, R1, v2, w2, c1, c2, c3⟩ := st
  exact y_law_248 xs hC 0 48 69 i4 _ ⟨j + 1, hj.1, j + 2, hj.2.1, j + 3, hj.2.2.1, j + 4, hj.2.2.2.1, j + 5, hj.2.2.2.2, h.1.1.1, Eq.mpr (c1 _) ⟨j + 1, hj.1, j + 2, hj.2.1, j + 3, hj.2.2.1, j + 4, hj.2.2.2.1, j + 5, hj.2.2.2.2, h.1.2.1, Eq.mpr (c2 _) ⟨fun _ => k v2 w2 R1 c3, fun z => absurd rfl z⟩⟩⟩
theorem L_starts (xs : List Int32) (hC : y_C (GG xs) PP ML J) (h : INV sh v w R) (hj : ixs xs i4 j) (k : ∀ v2 w2 R2, INV sh v2 w2 R2 → J 1052 [some (.retAddr 1), some (.ref 0), some (.ref 48), some (.ref 69), some (.int i4), none, none, none] [] (sh, zs v2, zt w2, R2)) : J 321 [some (.retAddr 1), some (.ref 0), some (.ref 48), some (.ref 69), some (.int i4), none, none, none] [] (sh, zs v, zt w, R) := by
  have st := st_starts xs h (xs.getD (j + 1) 0).toInt (xs.getD (j + 2) 0).toInt (xs.getD (j + 3) 0).toInt (xs.getD (j + 4) 0).toInt (zi_rng _) (zi_rng _) (zi_rng _) (zi_rng _)
  rw [← zi_of (xs.getD (j + 1) 0), ← zi_of (xs.getD (j + 2) 0), ← zi_of (xs.getD (j + 3) 0), ← zi_of (xs.getD (j + 4) 0)] at st
  obtain ⟨r, v1, w1, R1, v2, w2, c1, c2, c3⟩ := st
  exact y_law_321 xs hC 0 48 69 i4 _ ⟨j + 1, hj.1, j + 2, hj.2.1, j + 3, hj.2.2.1, j + 4, hj.2.2.2.1, h.1.1.1, Eq.mpr (c1 _) ⟨j + 1, hj.1, j + 2, hj.2.1, j + 3, hj.2.2.1, j + 4, hj.2.2.2.1, h.1.2.1, Eq.mpr (c2 _) ⟨fun _ => k v2 w2 R1 c3, fun z => absurd rfl z⟩⟩⟩
theorem L_before (xs : List Int32) (hC : y_C (GG xs) PP ML J) (h : INV sh v w R) (hj : ixs xs i4 j) (k : ∀ v2 w2 R2, INV sh v2 w2 R2 → J 1052 [some (.retAddr 1), some (.ref 0), some (.ref 48), some (.ref 69), some (.int i4), none, none, none] [] (sh, zs v2, zt w2, R2)) : J 382 [some (.retAddr 1), some (.ref 0), some (.ref 48), some (.ref 69), some (.int i4), none, none, none] [] (sh, zs v, zt w, R) := by
  have st := st_before xs h (xs.getD (j + 1) 0).toInt (xs.getD (j + 2) 0).toInt (xs.getD (j + 3) 0).toInt (zi_rng _) (zi_rng _) (zi_rng _)
  rw [← zi_of (xs.getD (j + 1) 0), ← zi_of (xs.getD (j + 2) 0), ← zi_of (xs.getD (j + 3) 0)] at st
  obtain ⟨r, v1, w1, R1, v2, w2, c1, c2, c3⟩ := st
  exact y_law_382 xs hC 0 48 69 i4 _ ⟨j + 1, hj.1, j + 2, hj.2.1, j + 3, hj.2.2.1, h.1.1.1, Eq.mpr (c1 _) ⟨j + 1, hj.1, j + 2, hj.2.1, j + 3, hj.2.2.1, h.1.2.1, Eq.mpr (c2 _) ⟨fun _ => k v2 w2 R1 c3, fun z => absurd rfl z⟩⟩⟩
theorem L_demand (xs : List Int32) (hC : y_C (GG xs) PP ML J) (h : INV sh v w R) (hj : ixs xs i4 j) (k : ∀ v2 w2 R2, INV sh v2 w2 R2 → J 1052 [some (.retAddr 1), some (.ref 0), some (.ref 48), some (.ref 69), some (.int i4), none, none, none] [] (sh, zs v2, zt w2, R2)) : J 431 [some (.retAddr 1), some (.ref 0), some (.ref 48), some (.ref 69), some (.int i4), none, none, none] [] (sh, zs v, zt w, R) := by
  have st := st_demand xs h (xs.getD (j + 1) 0).toInt (xs.getD (j + 2) 0).toInt (xs.getD (j + 3) 0).toInt (zi_rng _) (zi_rng _) (zi_rng _)
  rw [← zi_of (xs.getD (j + 1) 0), ← zi_of (xs.getD (j + 2) 0), ← zi_of (xs.getD (j + 3) 0)] at st
  obtain ⟨r, v1, w1, R1, v2, w2, c1, c2, c3⟩ := st
  exact y_law_431 xs hC 0 48 69 i4 _ ⟨j + 1, hj.1, j + 2, hj.2.1, j + 3, hj.2.2.1, h.1.1.1, Eq.mpr (c1 _) ⟨j + 1, hj.1, j + 2, hj.2.1, j + 3, hj.2.2.1, h.1.2.1, Eq.mpr (c2 _) ⟨fun _ => k v2 w2 R1 c3, fun z => absurd rfl z⟩⟩⟩
theorem L_plan (xs : List Int32) (hC : y_C (GG xs) PP ML J) (h : INV sh v w R) (hj : ixs xs i4 j) (k : ∀ v2 w2 R2, INV sh v2 w2 R2 → J 1052 [some (.retAddr 1), some (.ref 0), some (.ref 48), some (.ref 69), some (.int i4), none, none, none] [] (sh, zs v2, zt w2, R2)) : J 480 [some (.retAddr 1), some (.ref 0), some (.ref 48), some (.ref 69), some (.int i4), none, none, none] [] (sh, zs v, zt w, R) := by
  have st := st_plan xs h
  obtain ⟨r, v1, w1, R1, v2, w2, c1, c2, c3⟩ := st
  exact y_law_480 xs hC 0 48 69 i4 _ ⟨h.1.1.1, Eq.mpr (c1 _) ⟨h.1.2.1, Eq.mpr (c2 _) ⟨fun _ => k v2 w2 R1 c3, fun z => absurd rfl z⟩⟩⟩
theorem L_redispatch (xs : List Int32) (hC : y_C (GG xs) PP ML J) (h : INV sh v w R) (hj : ixs xs i4 j) (k : ∀ v2 w2 R2, INV sh v2 w2 R2 → J 1052 [some (.retAddr 1), some (.ref 0), some (.ref 48), some (.ref 69), some (.int i4), none, none, none] [] (sh, zs v2, zt w2, R2)) : J 493 [some (.retAddr 1), some (.ref 0), some (.ref 48), some (.ref 69), some (.int i4), none, none, none] [] (sh, zs v, zt w, R) := by
  have st := st_redispatch xs h
  obtain ⟨r, v1, w1, R1, v2, w2, c1, c2, c3⟩ := st
  exact y_law_493 xs hC 0 48 69 i4 _ ⟨h.1.1.1, Eq.mpr (c1 _) ⟨h.1.2.1, Eq.mpr (c2 _) ⟨fun _ => k v2 w2 R1 c3, fun z => absurd rfl z⟩⟩⟩
theorem L_set (xs : List Int32) (hC : y_C (GG xs) PP ML J) (h : INV sh v w R) (hj : ixs xs i4 j) (k : ∀ v2 w2 R2, INV sh v2 w2 R2 → J 1052 [some (.retAddr 1), some (.ref 0), some (.ref 48), some (.ref 69), some (.int i4), none, none, none] [] (sh, zs v2, zt w2, R2)) : J 574 [some (.retAddr 1), some (.ref 0), some (.ref 48), some (.ref 69), some (.int i4), none, none, none] [] (sh, zs v, zt w, R) := by
  have st := st_set xs h (xs.getD (j + 1) 0).toInt (xs.getD (j + 2) 0).toInt (xs.getD (j + 3) 0).toInt (zi_rng _) (zi_rng _) (zi_rng _)
  rw [← zi_of (xs.getD (j + 1) 0), ← zi_of (xs.getD (j + 2) 0), ← zi_of (xs.getD (j + 3) 0)] at st
  obtain ⟨r, v1, w1, R1, v2, w2, c1, c2, c3⟩ := st
  exact y_law_574 xs hC 0 48 69 i4 _ ⟨j + 1, hj.1, j + 2, hj.2.1, j + 3, hj.2.2.1, h.1.1.1, Eq.mpr (c1 _) ⟨j + 1, hj.1, j + 2, hj.2.1, j + 3, hj.2.2.1, h.1.2.1, Eq.mpr (c2 _) ⟨fun _ => k v2 w2 R1 c3, fun z => absurd rfl z⟩⟩⟩
theorem L_verify (xs : List Int32) (hC : y_C (GG xs) PP ML J) (h : INV sh v w R) (hj : ixs xs i4 j) (k : ∀ v2 w2 R2, INV sh v2 w2 R2 → J 1052 [some (.retAddr 1), some (.ref 0), some (.ref 48), some (.ref 69), some (.int i4), none, none, none] [] (sh, zs v2, zt w2, R2)) : J 623 [some (.retAddr 1), some (.ref 0), some (.ref 48), some (.ref 69), some (.int i4), none, none, none] [] (sh, zs v, zt w, R) := by
  have st := st_verify xs h
  obtain ⟨r, v1, w1, R1, v2, w2, c1, c2, c3⟩ := st
  exact y_law_623 xs hC 0 48 69 i4 _ ⟨h.1.1.1, Eq.mpr (c1 _) ⟨h.1.2.1, Eq.mpr (c2 _) ⟨fun _ => k v2 w2 R1 c3, fun z => absurd rfl z⟩⟩⟩
theorem L_price (xs : List Int32) (hC : y_C (GG xs) PP ML J) (h : INV sh v w R) (hj : ixs xs i4 j) (k : ∀ v2 w2 R2, INV sh v2 w2 R2 → J 1052 [some (.retAddr 1), some (.ref 0), some (.ref 48), some (.ref 69), some (.int i4), none, none, none] [] (sh, zs v2, zt w2, R2)) : J 692 [some (.retAddr 1), some (.ref 0), some (.ref 48), some (.ref 69), some (.int i4), none, none, none] [] (sh, zs v, zt w, R) := by
  have st := st_price xs h (xs.getD (j + 1) 0).toInt (xs.getD (j + 2) 0).toInt (zi_rng _) (zi_rng _)
  rw [← zi_of (xs.getD (j + 1) 0), ← zi_of (xs.getD (j + 2) 0)] at st
  obtain ⟨r, v1, w1, R1, v2, w2, c1, c2, c3⟩ := st
  exact y_law_692 xs hC 0 48 69 i4 _ ⟨j + 1, hj.1, j + 2, hj.2.1, h.1.1.1, Eq.mpr (c1 _) ⟨j + 1, hj.1, j + 2, hj.2.1, h.1.2.1, Eq.mpr (c2 _) ⟨fun _ => k v2 w2 R1 c3, fun z => absurd rfl z⟩⟩⟩
theorem L_bound (xs : List Int32) (hC : y_C (GG xs) PP ML J) (h : INV sh v w R) (hj : ixs xs i4 j) (k : ∀ v2 w2 R2, INV sh v2 w2 R2 → J 1052 [some (.retAddr 1), some (.ref 0), some (.ref 48), some (.ref 69), some (.int i4), none, none, none] [] (sh, zs v2, zt w2, R2)) : J 908 [some (.retAddr 1), some (.ref 0), some (.ref 48), some (.ref 69), some (.int i4), none, none, none] [] (sh, zs v, zt w, R) := by
  have st := st_bound xs h
  obtain ⟨r, v1, w1, R1, v2, w2, c1, c2, -, c3⟩ := st
  exact y_law_908 xs hC 0 48 69 i4 _ ⟨h.1.1.1, Eq.mpr (c1 _) ⟨h.1.2.1, Eq.mpr (c2 _) ⟨fun _ => k v2 w2 R1 c3, fun z => absurd (lcmp0 _) z⟩⟩⟩
theorem L_keep (xs : List Int32) (hC : y_C (GG xs) PP ML J) (h : INV sh v w R) (hj : ixs xs i4 j) (k : ∀ v2 w2 R2, INV sh v2 w2 R2 → J 1052 [some (.retAddr 1), some (.ref 0), some (.ref 48), some (.ref 69), some (.int i4), none, none, none] [] (sh, zs v2, zt w2, R2)) : J 977 [some (.retAddr 1), some (.ref 0), some (.ref 48), some (.ref 69), some (.int i4), none, none, none] [] (sh, zs v, zt w, R) := by
  have st := st_keep xs h (xs.getD (j + 1) 0).toInt (zi_rng _)
  rw [← zi_of (xs.getD (j + 1) 0)] at st
  obtain ⟨r, v1, w1, R1, v2, w2, c1, c2, c3⟩ := st
  exact y_law_977 xs hC 0 48 69 i4 _ ⟨j + 1, hj.1, h.1.1.1, Eq.mpr (c1 _) ⟨j + 1, hj.1, h.1.2.1, Eq.mpr (c2 _) ⟨fun _ => k v2 w2 R1 c3, fun z => absurd rfl z⟩⟩⟩
theorem L_take (xs : List Int32) (hC : y_C (GG xs) PP ML J) (h : INV sh v w R) (hj : ixs xs i4 j) (k : ∀ v2 w2 R2, INV sh v2 w2 R2 → J 1052 [some (.retAddr 1), some (.ref 0), some (.ref 48), some (.ref 69), some (.int i4), none, none, none] [] (sh, zs v2, zt w2, R2)) : J 1002 [some (.retAddr 1), some (.ref 0), some (.ref 48), some (.ref 69), some (.int i4), none, none, none] [] (sh, zs v, zt w, R) := by
  have st := st_take xs h (xs.getD (j + 1) 0).toInt (zi_rng _)
  rw [← zi_of (xs.getD (j + 1) 0)] at st
  obtain ⟨r, v1, w1, R1, v2, w2, c1, c2, c3⟩ := st
  exact y_law_1002 xs hC 0 48 69 i4 _ ⟨j + 1, hj.1, h.1.1.1, Eq.mpr (c1 _) ⟨j + 1, hj.1, h.1.2.1, Eq.mpr (c2 _) ⟨fun _ => k v2 w2 R1 c3, fun z => absurd rfl z⟩⟩⟩
theorem L_count (xs : List Int32) (hC : y_C (GG xs) PP ML J) (h : INV sh v w R) (hj : ixs xs i4 j) (k : ∀ v2 w2 R2, INV sh v2 w2 R2 → J 1052 [some (.retAddr 1), some (.ref 0), some (.ref 48), some (.ref 69), some (.int i4), none, none, none] [] (sh, zs v2, zt w2, R2)) : J 1027 [some (.retAddr 1), some (.ref 0), some (.ref 48), some (.ref 69), some (.int i4), none, none, none] [] (sh, zs v, zt w, R) := by
  have st := st_count xs h (xs.getD (j + 1) 0).toInt (zi_rng _)
  rw [← zi_of (xs.getD (j + 1) 0)] at st
  obtain ⟨r, v1, w1, R1, v2, w2, c1, c2, c3⟩ := st
  exact y_law_1027 xs hC 0 48 69 i4 _ ⟨j + 1, hj.1, h.1.1.1, Eq.mpr (c1 _) ⟨j + 1, hj.1, h.1.2.1, Eq.mpr (c2 _) ⟨fun _ => k v2 w2 R1 c3, fun z => absurd rfl z⟩⟩⟩
end
section
variable {l : Launch} {D : va_G} {dA : Nat → ClassId} {az : Nat → Nat} {p : Program} {e : Env} {Rm : Room} {s : State} {m : MethodId} {args : Array Value} {below : List Frame} {meth : Method} {c : Code} {A : Nat → Prop} {Q : State → Prop} {N0 : Nat} {ad0 : Nat → Nat} {n0 s0 : Int}
variable {sh : List q_Sh} {v w : Nat → Int → Int} {R : Nat → Nat → Option Nat} {i4 : Int32} {j : Nat}
theorem L_unit (xs : List Int32) (hf : q_fr (GG xs) D dA az ML p Rm s m args meth c A) (hTS : n_TS A s s.heap) (htr : l.stackTraces = false) (h : INV sh v w R) (h69 : sh[69]? = some (.inr (1, 1))) (hj : ixs xs i4 j) (k : ∀ n1 s1 v2 w2 R2, n0 - 1 ≤ n1 → s0 - 6 ≤ s1 → INV sh v2 w2 R2 → q_J l (GG xs) D dA az ML p e Rm s m args below meth c A Q N0 ad0 n1 s1 1052 [some (.retAddr 1), some (.ref 0), some (.ref 48), some (.ref 69), some (.int i4), none, none, none] [] (sh, zs v2, zt w2, R2)) : q_J l (GG xs) D dA az ML p e Rm s m args below meth c A Q N0 ad0 n0 s0 144 [some (.retAddr 1), some (.ref 0), some (.ref 48), some (.ref 69), some (.int i4), none, none, none] [] (sh, zs v, zt w, R) := by
  have hC := fun n s_ => y_C_W (l := l) (e := e) (below := below) (Q := Q) (GG_ok xs) (PP_ok xs) (omML xs) hf N0 ad0 n s_
  have e1 := h.2.2.1.2.1.1.1
  have e2 := h.2.2.1.2.1.1.2
  refine y_law_144 xs (hC n0 s0) 0 48 69 i4 _ ⟨j + 1, hj.1, j + 2, hj.2.1, j + 3, hj.2.2.1, j + 4, hj.2.2.2.1, j + 5, hj.2.2.2.2, ?_⟩
  obtain ⟨st1, st2, st3⟩ := st_unit xs h (xs.getD (j + 1) 0).toInt (xs.getD (j + 2) 0).toInt (xs.getD (j + 3) 0).toInt (xs.getD (j + 4) 0).toInt (xs.getD (j + 5) 0).toInt (zi_rng _) (zi_rng _) (zi_rng _) (zi_rng _) (zi_rng _)
  by_cases q : okU (xs.getD (j + 1) 0).toInt (xs.getD (j + 2) 0).toInt (xs.getD (j + 3) 0).toInt (xs.getD (j + 4) 0).toInt (xs.getD (j + 5) 0).toInt
  · by_cases q2 : v 48 2 < 3
    · have st := st1 q q2
      rw [← zi_of (xs.getD (j + 1) 0), ← zi_of (xs.getD (j + 2) 0), ← zi_of (xs.getD (j + 3) 0), ← zi_of (xs.getD (j + 4) 0), ← zi_of (xs.getD (j + 5) 0)] at st
      obtain ⟨r, v1, w1, R1, c1, c2⟩ := st
      obtain ⟨v2, w2, m1, m2, m3, m4⟩ := c2 (r.toInt64).toInt
      refine JN_unit xs hf hTS (xs.getD (j + 1) 0) (xs.getD (j + 2) 0) (xs.getD (j + 3) 0) (xs.getD (j + 4) 0) (xs.getD (j + 5) 0) (x := r) (H1 := (sh, zs v1, zt w1, R1)) (Eq.mpr (c1 _) ⟨rfl, rfl⟩) h.1.1.1 h69 rfl ?_
      show q_J l (GG xs) D dA az ML p e Rm s m args below meth c A Q N0 ad0 n0 s0 179 [some (.retAddr 1), some (.ref 0), some (.ref 48), some (.ref 69), some (.int i4), none, none, none] [.int 0] (sh, zs v1, q_up (zt w1) 69 0 r.toInt64, R1)
      rw [up69]
      refine y_law_179 xs (hC n0 s0) 0 48 69 i4 0 _ ⟨j + 1, hj.1, j + 2, hj.2.1, j + 3, hj.2.2.1, j + 4, hj.2.2.2.1, j + 5, hj.2.2.2.2, h.1.2.1, Eq.mpr (m1 _) ⟨h.1.2.1, Eq.mpr (n_thrown xs sh v2 w2 R1 m4.1.2 _) ?_⟩⟩
      rw [m2]
      refine ⟨fun _ => ⟨fun z => absurd rfl z, fun _ => ⟨1, 0, h69, rfl, fun _ => k n0 s0 v2 w2 R1 (by omega) (by omega) m4, fun z => ?_⟩⟩, fun z => absurd rfl z⟩
      exfalso
      refine z ?_
      show lg_cmp (zt w2 69 0) _ = 0
      rw [at69 m3]
      exact lcmp0 _
    · have st := st2 q q2
      have tr := t_unit2 xs sh v w R h.1.1 (I_dN h) (xs.getD (j + 1) 0).toInt (xs.getD (j + 2) 0).toInt (xs.getD (j + 3) 0).toInt (xs.getD (j + 4) 0).toInt (xs.getD (j + 5) 0).toInt q (by rw [e2]; exact q2)
      rw [← zi_of (xs.getD (j + 1) 0), ← zi_of (xs.getD (j + 2) 0), ← zi_of (xs.getD (j + 3) 0), ← zi_of (xs.getD (j + 4) 0), ← zi_of (xs.getD (j + 5) 0)] at tr st
      obtain ⟨r, v2, w2, m1, m2, m4⟩ := st
      refine JT_unit_2 xs hf hTS (xs.getD (j + 1) 0) (xs.getD (j + 2) 0) (xs.getD (j + 3) 0) (xs.getD (j + 4) 0) (xs.getD (j + 5) 0) htr tr h.1.1.1 h69 ?_
      refine y_law_179 xs (hC (n0 - 1) (s0 - 6)) 0 48 69 i4 2 _ ⟨j + 1, hj.1, j + 2, hj.2.1, j + 3, hj.2.2.1, j + 4, hj.2.2.2.1, j + 5, hj.2.2.2.2, h.1.2.1, Eq.mpr (m1 _) ⟨h.1.2.1, Eq.mpr (n_thrown xs sh v2 w2 R m4.1.2 _) ?_⟩⟩
      rw [m2]
      exact ⟨fun _ => ⟨fun _ => k (n0 - 1) (s0 - 6) v2 w2 R (by omega) (by omega) m4, fun z => absurd (fun z2 => absurd z2 (by decide)) z⟩, fun z => absurd rfl z⟩
  · have st := st3 q
    have tr := t_unit1 xs sh v w R h.1.1 (xs.getD (j + 1) 0).toInt (xs.getD (j + 2) 0).toInt (xs.getD (j + 3) 0).toInt (xs.getD (j + 4) 0).toInt (xs.getD (j + 5) 0).toInt (zi_rng _) (zi_rng _) (zi_rng _) (zi_rng _) (zi_rng _) q
    rw [← zi_of (xs.getD (j + 1) 0), ← zi_of (xs.getD (j + 2) 0), ← zi_of (xs.getD (j + 3) 0), ← zi_of (xs.getD (j + 4) 0), ← zi_of (xs.getD (j + 5) 0)] at tr st
    obtain ⟨r, v2, w2, m1, m2, m4⟩ := st
    refine JT_unit_1 xs hf hTS (xs.getD (j + 1) 0) (xs.getD (j + 2) 0) (xs.getD (j + 3) 0) (xs.getD (j + 4) 0) (xs.getD (j + 5) 0) htr tr h.1.1.1 h69 ?_
    refine y_law_179 xs (hC (n0 - 1) (s0 - 6)) 0 48 69 i4 1 _ ⟨j + 1, hj.1, j + 2, hj.2.1, j + 3, hj.2.2.1, j + 4, hj.2.2.2.1, j + 5, hj.2.2.2.2, h.1.2.1, Eq.mpr (m1 _) ⟨h.1.2.1, Eq.mpr (n_thrown xs sh v2 w2 R m4.1.2 _) ?_⟩⟩
    rw [m2]
    exact ⟨fun _ => ⟨fun _ => k (n0 - 1) (s0 - 6) v2 w2 R (by omega) (by omega) m4, fun z => absurd (fun z2 => absurd z2 (by decide)) z⟩, fun z => absurd rfl z⟩
theorem L_output (xs : List Int32) (hf : q_fr (GG xs) D dA az ML p Rm s m args meth c A) (hTS : n_TS A s s.heap) (htr : l.stackTraces = false) (h : INV sh v w R) (h69 : sh[69]? = some (.inr (1, 1))) (hj : ixs xs i4 j) (k : ∀ n1 s1 v2 w2 R2, n0 - 1 ≤ n1 → s0 - 6 ≤ s1 → INV sh v2 w2 R2 → q_J l (GG xs) D dA az ML p e Rm s m args below meth c A Q N0 ad0 n1 s1 1052 [some (.retAddr 1), some (.ref 0), some (.ref 48), some (.ref 69), some (.int i4), none, none, none] [] (sh, zs v2, zt w2, R2)) : q_J l (GG xs) D dA az ML p e Rm s m args below meth c A Q N0 ad0 n0 s0 506 [some (.retAddr 1), some (.ref 0), some (.ref 48), some (.ref 69), some (.int i4), none, none, none] [] (sh, zs v, zt w, R) := by
  have hC := fun n s_ => y_C_W (l := l) (e := e) (below := below) (Q := Q) (GG_ok xs) (PP_ok xs) (omML xs) hf N0 ad0 n s_
  have e1 := h.2.2.1.2.1.1.1
  have e2 := h.2.2.1.2.1.1.2
  refine y_law_506 xs (hC n0 s0) 0 48 69 i4 _ ⟨j + 1, hj.1, j + 2, hj.2.1, ?_⟩
  have st := st_output xs h (xs.getD (j + 1) 0).toInt (xs.getD (j + 2) 0).toInt (zi_rng _) (zi_rng _)
  by_cases q : (0 ≤ (xs.getD (j + 1) 0).toInt ∧ (xs.getD (j + 1) 0).toInt < v 48 2) ∧ (0 ≤ (xs.getD (j + 2) 0).toInt ∧ (xs.getD (j + 2) 0).toInt < v 48 1)
  · rw [if_pos q] at st
    rw [← zi_of (xs.getD (j + 1) 0), ← zi_of (xs.getD (j + 2) 0)] at st
    obtain ⟨r, v1, w1, R1, c1, c2⟩ := st
    obtain ⟨v2, w2, m1, m2, m3, m4⟩ := c2 (r.toInt64).toInt
    refine JN_output xs hf hTS (xs.getD (j + 1) 0) (xs.getD (j + 2) 0) (x := r) (H1 := (sh, zs v1, zt w1, R1)) (Eq.mpr (c1 _) ⟨rfl, rfl⟩) h.1.1.1 h69 rfl ?_
    show q_J l (GG xs) D dA az ML p e Rm s m args below meth c A Q N0 ad0 n0 s0 523 [some (.retAddr 1), some (.ref 0), some (.ref 48), some (.ref 69), some (.int i4), none, none, none] [.int 0] (sh, zs v1, q_up (zt w1) 69 0 r.toInt64, R1)
    rw [up69]
    refine y_law_523 xs (hC n0 s0) 0 48 69 i4 0 _ ⟨j + 1, hj.1, j + 2, hj.2.1, h.1.2.1, Eq.mpr (m1 _) ⟨h.1.2.1, Eq.mpr (n_thrown xs sh v2 w2 R1 m4.1.2 _) ?_⟩⟩
    rw [m2]
    refine ⟨fun _ => ⟨fun z => absurd rfl z, fun _ => ⟨1, 0, h69, rfl, fun _ => k n0 s0 v2 w2 R1 (by omega) (by omega) m4, fun z => ?_⟩⟩, fun z => absurd rfl z⟩
    exfalso
    refine z ?_
    show lg_cmp (zt w2 69 0) _ = 0
    rw [at69 m3]
    exact lcmp0 _
  · rw [if_neg q] at st
    have tr := t_output xs sh v w R h.1.1 (I_dN h) (xs.getD (j + 1) 0).toInt (xs.getD (j + 2) 0).toInt (zi_rng _) (zi_rng _) (by rw [e1, e2]; exact q)
    rw [← zi_of (xs.getD (j + 1) 0), ← zi_of (xs.getD (j + 2) 0)] at tr st
    obtain ⟨r, v2, w2, m1, m2, m4⟩ := st
    refine JT_output_1 xs hf hTS (xs.getD (j + 1) 0) (xs.getD (j + 2) 0) htr tr h.1.1.1 h69 ?_
    refine y_law_523 xs (hC (n0 - 1) (s0 - 6)) 0 48 69 i4 1 _ ⟨j + 1, hj.1, j + 2, hj.2.1, h.1.2.1, Eq.mpr (m1 _) ⟨h.1.2.1, Eq.mpr (n_thrown xs sh v2 w2 R m4.1.2 _) ?_⟩⟩
    rw [m2]
    exact ⟨fun _ => ⟨fun _ => k (n0 - 1) (s0 - 6) v2 w2 R (by omega) (by omega) m4, fun z => absurd (fun z2 => absurd z2 (by decide)) z⟩, fun z => absurd rfl z⟩
theorem L_cost (xs : List Int32) (hf : q_fr (GG xs) D dA az ML p Rm s m args meth c A) (hTS : n_TS A s s.heap) (htr : l.stackTraces = false) (h : INV sh v w R) (h69 : sh[69]? = some (.inr (1, 1))) (hj : ixs xs i4 j) (k : ∀ n1 s1 v2 w2 R2, n0 - 1 ≤ n1 → s0 - 6 ≤ s1 → INV sh v2 w2 R2 → q_J l (GG xs) D dA az ML p e Rm s m args below meth c A Q N0 ad0 n1 s1 1052 [some (.retAddr 1), some (.ref 0), some (.ref 48), some (.ref 69), some (.int i4), none, none, none] [] (sh, zs v2, zt w2, R2)) : q_J l (GG xs) D dA az ML p e Rm s m args below meth c A Q N0 ad0 n0 s0 636 [some (.retAddr 1), some (.ref 0), some (.ref 48), some (.ref 69), some (.int i4), none, none, none] [] (sh, zs v, zt w, R) := by
  have hC := fun n s_ => y_C_W (l := l) (e := e) (below := below) (Q := Q) (GG_ok xs) (PP_ok xs) (omML xs) hf N0 ad0 n s_
  have e1 := h.2.2.1.2.1.1.1
  have e2 := h.2.2.1.2.1.1.2
  refine y_law_636 xs (hC n0 s0) 0 48 69 i4 _ ⟨j + 1, hj.1, ?_⟩
  have st := st_cost xs h (xs.getD (j + 1) 0).toInt (zi_rng _)
  by_cases q : 0 ≤ (xs.getD (j + 1) 0).toInt ∧ (xs.getD (j + 1) 0).toInt ≤ 2
  · rw [if_pos q] at st
    by_cases q2 : dVer v = 0
    · rw [if_pos q2] at st
      rw [← zi_of (xs.getD (j + 1) 0)] at st
      obtain ⟨r, v1, w1, R1, c1, c2⟩ := st
      obtain ⟨v2, w2, m1, m2, m3, m4⟩ := c2 (r.toInt64).toInt
      refine JN_cost xs hf hTS (xs.getD (j + 1) 0) (x := r) (H1 := (sh, zs v1, zt w1, R1)) (Eq.mpr (c1 _) ⟨rfl, rfl⟩) h.1.1.1 h69 rfl ?_
      show q_J l (GG xs) D dA az ML p e Rm s m args below meth c A Q N0 ad0 n0 s0 647 [some (.retAddr 1), some (.ref 0), some (.ref 48), some (.ref 69), some (.int i4), none, none, none] [.int 0] (sh, zs v1, q_up (zt w1) 69 0 r.toInt64, R1)
      rw [up69]
      refine y_law_647 xs (hC n0 s0) 0 48 69 i4 0 _ ⟨j + 1, hj.1, h.1.2.1, Eq.mpr (m1 _) ⟨h.1.2.1, Eq.mpr (n_thrown xs sh v2 w2 R1 m4.1.2 _) ?_⟩⟩
      rw [m2]
      refine ⟨fun _ => ⟨fun z => absurd rfl z, fun _ => ⟨1, 0, h69, rfl, fun _ => k n0 s0 v2 w2 R1 (by omega) (by omega) m4, fun z => ?_⟩⟩, fun z => absurd rfl z⟩
      exfalso
      refine z ?_
      show lg_cmp (zt w2 69 0) _ = 0
      rw [at69 m3]
      exact lcmp0 _
    · rw [if_neg q2] at st
      have tr := t_cost2 xs sh v w R h.1.1 (I_dN h) (I_dT h) (I_dUs h) (I_dD h) (xs.getD (j + 1) 0).toInt q (by rw [eqVer h]; exact pVer_rng h.2.2.1.1.2.2.2.2.1) q2
      rw [← zi_of (xs.getD (j + 1) 0)] at tr st
      obtain ⟨r, v2, w2, m1, m2, m4⟩ := st
      refine JT_cost_2 xs hf hTS (xs.getD (j + 1) 0) htr tr h.1.1.1 h69 ?_
      refine y_law_647 xs (hC (n0 - 1) (s0 - 6)) 0 48 69 i4 2 _ ⟨j + 1, hj.1, h.1.2.1, Eq.mpr (m1 _) ⟨h.1.2.1, Eq.mpr (n_thrown xs sh v2 w2 R m4.1.2 _) ?_⟩⟩
      rw [m2]
      exact ⟨fun _ => ⟨fun _ => k (n0 - 1) (s0 - 6) v2 w2 R (by omega) (by omega) m4, fun z => absurd (fun z2 => absurd z2 (by decide)) z⟩, fun z => absurd rfl z⟩
  · rw [if_neg q] at st
    have tr := t_cost1 xs sh v w R h.1.1 (xs.getD (j + 1) 0).toInt (zi_rng _) q
    rw [← zi_of (xs.getD (j + 1) 0)] at tr st
    obtain ⟨r, v2, w2, m1, m2, m4⟩ := st
    refine JT_cost_1 xs hf hTS (xs.getD (j + 1) 0) htr tr h.1.1.1 h69 ?_
    refine y_law_647 xs (hC (n0 - 1) (s0 - 6)) 0 48 69 i4 1 _ ⟨j + 1, hj.1, h.1.2.1, Eq.mpr (m1 _) ⟨h.1.2.1, Eq.mpr (n_thrown xs sh v2 w2 R m4.1.2 _) ?_⟩⟩
    rw [m2]
    exact ⟨fun _ => ⟨fun _ => k (n0 - 1) (s0 - 6) v2 w2 R (by omega) (by omega) m4, fun z => absurd (fun z2 => absurd z2 (by decide)) z⟩, fun z => absurd rfl z⟩
theorem L_priceOf (xs : List Int32) (hf : q_fr (GG xs) D dA az ML p Rm s m args meth c A) (hTS : n_TS A s s.heap) (htr : l.stackTraces = false) (h : INV sh v w R) (h69 : sh[69]? = some (.inr (1, 1))) (hj : ixs xs i4 j) (k : ∀ n1 s1 v2 w2 R2, n0 - 1 ≤ n1 → s0 - 6 ≤ s1 → INV sh v2 w2 R2 → q_J l (GG xs) D dA az ML p e Rm s m args below meth c A Q N0 ad0 n1 s1 1052 [some (.retAddr 1), some (.ref 0), some (.ref 48), some (.ref 69), some (.int i4), none, none, none] [] (sh, zs v2, zt w2, R2)) : q_J l (GG xs) D dA az ML p e Rm s m args below meth c A Q N0 ad0 n0 s0 729 [some (.retAddr 1), some (.ref 0), some (.ref 48), some (.ref 69), some (.int i4), none, none, none] [] (sh, zs v, zt w, R) := by
  have hC := fun n s_ => y_C_W (l := l) (e := e) (below := below) (Q := Q) (GG_ok xs) (PP_ok xs) (omML xs) hf N0 ad0 n s_
  have e1 := h.2.2.1.2.1.1.1
  have e2 := h.2.2.1.2.1.1.2
  refine y_law_729 xs (hC n0 s0) 0 48 69 i4 _ ⟨j + 1, hj.1, ?_⟩
  have st := st_priceOf xs h (xs.getD (j + 1) 0).toInt (zi_rng _)
  by_cases q : 0 ≤ (xs.getD (j + 1) 0).toInt ∧ (xs.getD (j + 1) 0).toInt < v 48 1
  · rw [if_pos q] at st
    rw [← zi_of (xs.getD (j + 1) 0)] at st
    obtain ⟨r, v1, w1, R1, c1, c2⟩ := st
    obtain ⟨v2, w2, m1, m2, m3, m4⟩ := c2 (r.toInt64).toInt
    refine JN_priceOf xs hf hTS (xs.getD (j + 1) 0) (x := r) (H1 := (sh, zs v1, zt w1, R1)) (Eq.mpr (c1 _) ⟨rfl, rfl⟩) h.1.1.1 h69 rfl ?_
    show q_J l (GG xs) D dA az ML p e Rm s m args below meth c A Q N0 ad0 n0 s0 740 [some (.retAddr 1), some (.ref 0), some (.ref 48), some (.ref 69), some (.int i4), none, none, none] [.int 0] (sh, zs v1, q_up (zt w1) 69 0 r.toInt64, R1)
    rw [up69]
    refine y_law_740 xs (hC n0 s0) 0 48 69 i4 0 _ ⟨j + 1, hj.1, h.1.2.1, Eq.mpr (m1 _) ⟨h.1.2.1, Eq.mpr (n_thrown xs sh v2 w2 R1 m4.1.2 _) ?_⟩⟩
    rw [m2]
    refine ⟨fun _ => ⟨fun z => absurd rfl z, fun _ => ⟨1, 0, h69, rfl, fun _ => k n0 s0 v2 w2 R1 (by omega) (by omega) m4, fun z => ?_⟩⟩, fun z => absurd rfl z⟩
    exfalso
    refine z ?_
    show lg_cmp (zt w2 69 0) _ = 0
    rw [at69 m3]
    exact lcmp0 _
  · rw [if_neg q] at st
    have tr := t_priceOf xs sh v w R h.1.1 (I_dN h) (xs.getD (j + 1) 0).toInt (zi_rng _) (by rw [e1]; exact q)
    rw [← zi_of (xs.getD (j + 1) 0)] at tr st
    obtain ⟨r, v2, w2, m1, m2, m4⟩ := st
    refine JT_priceOf_1 xs hf hTS (xs.getD (j + 1) 0) htr tr h.1.1.1 h69 ?_
    refine y_law_740 xs (hC (n0 - 1) (s0 - 6)) 0 48 69 i4 1 _ ⟨j + 1, hj.1, h.1.2.1, Eq.mpr (m1 _) ⟨h.1.2.1, Eq.mpr (n_thrown xs sh v2 w2 R m4.1.2 _) ?_⟩⟩
    rw [m2]
    exact ⟨fun _ => ⟨fun _ => k (n0 - 1) (s0 - 6) v2 w2 R (by omega) (by omega) m4, fun z => absurd (fun z2 => absurd z2 (by decide)) z⟩, fun z => absurd rfl z⟩
theorem L_alone (xs : List Int32) (hf : q_fr (GG xs) D dA az ML p Rm s m args meth c A) (hTS : n_TS A s s.heap) (htr : l.stackTraces = false) (h : INV sh v w R) (h69 : sh[69]? = some (.inr (1, 1))) (hj : ixs xs i4 j) (k : ∀ n1 s1 v2 w2 R2, n0 - 1 ≤ n1 → s0 - 6 ≤ s1 → INV sh v2 w2 R2 → q_J l (GG xs) D dA az ML p e Rm s m args below meth c A Q N0 ad0 n1 s1 1052 [some (.retAddr 1), some (.ref 0), some (.ref 48), some (.ref 69), some (.int i4), none, none, none] [] (sh, zs v2, zt w2, R2)) : q_J l (GG xs) D dA az ML p e Rm s m args below meth c A Q N0 ad0 n0 s0 785 [some (.retAddr 1), some (.ref 0), some (.ref 48), some (.ref 69), some (.int i4), none, none, none] [] (sh, zs v, zt w, R) := by
  have hC := fun n s_ => y_C_W (l := l) (e := e) (below := below) (Q := Q) (GG_ok xs) (PP_ok xs) (omML xs) hf N0 ad0 n s_
  have e1 := h.2.2.1.2.1.1.1
  have e2 := h.2.2.1.2.1.1.2
  refine y_law_785 xs (hC n0 s0) 0 48 69 i4 _ ⟨j + 1, hj.1, ?_⟩
  have st := st_alone xs h (xs.getD (j + 1) 0).toInt (zi_rng _)
  by_cases q : 0 ≤ (xs.getD (j + 1) 0).toInt ∧ (xs.getD (j + 1) 0).toInt < v 48 2
  · rw [if_pos q] at st
    rw [← zi_of (xs.getD (j + 1) 0)] at st
    obtain ⟨r, v1, w1, R1, c1, c2⟩ := st
    obtain ⟨v2, w2, m1, m2, m3, m4⟩ := c2 (r).toInt
    refine JN_alone xs hf hTS (xs.getD (j + 1) 0) (x := r) (H1 := (sh, zs v1, zt w1, R1)) (Eq.mpr (c1 _) ⟨rfl, rfl⟩) h.1.1.1 h69 rfl ?_
    show q_J l (GG xs) D dA az ML p e Rm s m args below meth c A Q N0 ad0 n0 s0 796 [some (.retAddr 1), some (.ref 0), some (.ref 48), some (.ref 69), some (.int i4), none, none, none] [.int 0] (sh, zs v1, q_up (zt w1) 69 0 r, R1)
    rw [up69]
    refine y_law_796 xs (hC n0 s0) 0 48 69 i4 0 _ ⟨j + 1, hj.1, h.1.2.1, Eq.mpr (m1 _) ⟨h.1.2.1, Eq.mpr (n_thrown xs sh v2 w2 R1 m4.1.2 _) ?_⟩⟩
    rw [m2]
    refine ⟨fun _ => ⟨fun z => absurd rfl z, fun _ => ⟨1, 0, h69, rfl, fun _ => k n0 s0 v2 w2 R1 (by omega) (by omega) m4, fun z => ?_⟩⟩, fun z => absurd rfl z⟩
    exfalso
    refine z ?_
    show lg_cmp (zt w2 69 0) _ = 0
    rw [at69 m3]
    exact lcmp0 _
  · rw [if_neg q] at st
    have tr := t_alone xs sh v w R h.1.1 (I_dN h) (xs.getD (j + 1) 0).toInt (zi_rng _) (by rw [e2]; exact q)
    rw [← zi_of (xs.getD (j + 1) 0)] at tr st
    obtain ⟨r, v2, w2, m1, m2, m4⟩ := st
    refine JT_alone_1 xs hf hTS (xs.getD (j + 1) 0) htr tr h.1.1.1 h69 ?_
    refine y_law_796 xs (hC (n0 - 1) (s0 - 6)) 0 48 69 i4 1 _ ⟨j + 1, hj.1, h.1.2.1, Eq.mpr (m1 _) ⟨h.1.2.1, Eq.mpr (n_thrown xs sh v2 w2 R m4.1.2 _) ?_⟩⟩
    rw [m2]
    exact ⟨fun _ => ⟨fun _ => k (n0 - 1) (s0 - 6) v2 w2 R (by omega) (by omega) m4, fun z => absurd (fun z2 => absurd z2 (by decide)) z⟩, fun z => absurd rfl z⟩
theorem L_lone (xs : List Int32) (hf : q_fr (GG xs) D dA az ML p Rm s m args meth c A) (hTS : n_TS A s s.heap) (htr : l.stackTraces = false) (h : INV sh v w R) (h69 : sh[69]? = some (.inr (1, 1))) (hj : ixs xs i4 j) (k : ∀ n1 s1 v2 w2 R2, n0 - 1 ≤ n1 → s0 - 6 ≤ s1 → INV sh v2 w2 R2 → q_J l (GG xs) D dA az ML p e Rm s m args below meth c A Q N0 ad0 n1 s1 1052 [some (.retAddr 1), some (.ref 0), some (.ref 48), some (.ref 69), some (.int i4), none, none, none] [] (sh, zs v2, zt w2, R2)) : q_J l (GG xs) D dA az ML p e Rm s m args below meth c A Q N0 ad0 n0 s0 840 [some (.retAddr 1), some (.ref 0), some (.ref 48), some (.ref 69), some (.int i4), none, none, none] [] (sh, zs v, zt w, R) := by
  have hC := fun n s_ => y_C_W (l := l) (e := e) (below := below) (Q := Q) (GG_ok xs) (PP_ok xs) (omML xs) hf N0 ad0 n s_
  have e1 := h.2.2.1.2.1.1.1
  have e2 := h.2.2.1.2.1.1.2
  refine y_law_840 xs (hC n0 s0) 0 48 69 i4 _ ⟨j + 1, hj.1, j + 2, hj.2.1, ?_⟩
  have st := st_lone xs h (xs.getD (j + 1) 0).toInt (xs.getD (j + 2) 0).toInt (zi_rng _) (zi_rng _)
  by_cases q : (0 ≤ (xs.getD (j + 1) 0).toInt ∧ (xs.getD (j + 1) 0).toInt < v 48 2) ∧ (0 ≤ (xs.getD (j + 2) 0).toInt ∧ (xs.getD (j + 2) 0).toInt < v 48 1)
  · rw [if_pos q] at st
    rw [← zi_of (xs.getD (j + 1) 0), ← zi_of (xs.getD (j + 2) 0)] at st
    obtain ⟨r, v1, w1, R1, c1, c2⟩ := st
    obtain ⟨v2, w2, m1, m2, m3, m4⟩ := c2 (r.toInt64).toInt
    refine JN_lone xs hf hTS (xs.getD (j + 1) 0) (xs.getD (j + 2) 0) (x := r) (H1 := (sh, zs v1, zt w1, R1)) (Eq.mpr (c1 _) ⟨rfl, rfl⟩) h.1.1.1 h69 rfl ?_
    show q_J l (GG xs) D dA az ML p e Rm s m args below meth c A Q N0 ad0 n0 s0 857 [some (.retAddr 1), some (.ref 0), some (.ref 48), some (.ref 69), some (.int i4), none, none, none] [.int 0] (sh, zs v1, q_up (zt w1) 69 0 r.toInt64, R1)
    rw [up69]
    refine y_law_857 xs (hC n0 s0) 0 48 69 i4 0 _ ⟨j + 1, hj.1, j + 2, hj.2.1, h.1.2.1, Eq.mpr (m1 _) ⟨h.1.2.1, Eq.mpr (n_thrown xs sh v2 w2 R1 m4.1.2 _) ?_⟩⟩
    rw [m2]
    refine ⟨fun _ => ⟨fun z => absurd rfl z, fun _ => ⟨1, 0, h69, rfl, fun _ => k n0 s0 v2 w2 R1 (by omega) (by omega) m4, fun z => ?_⟩⟩, fun z => absurd rfl z⟩
    exfalso
    refine z ?_
    show lg_cmp (zt w2 69 0) _ = 0
    rw [at69 m3]
    exact lcmp0 _
  · rw [if_neg q] at st
    have tr := t_lone xs sh v w R h.1.1 (I_dN h) (xs.getD (j + 1) 0).toInt (xs.getD (j + 2) 0).toInt (zi_rng _) (zi_rng _) (by rw [e1, e2]; exact q)
    rw [← zi_of (xs.getD (j + 1) 0), ← zi_of (xs.getD (j + 2) 0)] at tr st
    obtain ⟨r, v2, w2, m1, m2, m4⟩ := st
    refine JT_lone_1 xs hf hTS (xs.getD (j + 1) 0) (xs.getD (j + 2) 0) htr tr h.1.1.1 h69 ?_
    refine y_law_857 xs (hC (n0 - 1) (s0 - 6)) 0 48 69 i4 1 _ ⟨j + 1, hj.1, j + 2, hj.2.1, h.1.2.1, Eq.mpr (m1 _) ⟨h.1.2.1, Eq.mpr (n_thrown xs sh v2 w2 R m4.1.2 _) ?_⟩⟩
    rw [m2]
    exact ⟨fun _ => ⟨fun _ => k (n0 - 1) (s0 - 6) v2 w2 R (by omega) (by omega) m4, fun z => absurd (fun z2 => absurd z2 (by decide)) z⟩, fun z => absurd rfl z⟩
theorem L_improve (xs : List Int32) (hf : q_fr (GG xs) D dA az ML p Rm s m args meth c A) (hTS : n_TS A s s.heap) (htr : l.stackTraces = false) (h : INV sh v w R) (h69 : sh[69]? = some (.inr (1, 1))) (hj : ixs xs i4 j) (k : ∀ n1 s1 v2 w2 R2, n0 - 1 ≤ n1 → s0 - 6 ≤ s1 → INV sh v2 w2 R2 → q_J l (GG xs) D dA az ML p e Rm s m args below meth c A Q N0 ad0 n1 s1 1052 [some (.retAddr 1), some (.ref 0), some (.ref 48), some (.ref 69), some (.int i4), none, none, none] [] (sh, zs v2, zt w2, R2)) : q_J l (GG xs) D dA az ML p e Rm s m args below meth c A Q N0 ad0 n0 s0 922 [some (.retAddr 1), some (.ref 0), some (.ref 48), some (.ref 69), some (.int i4), none, none, none] [] (sh, zs v, zt w, R) := by
  have hC := fun n s_ => y_C_W (l := l) (e := e) (below := below) (Q := Q) (GG_ok xs) (PP_ok xs) (omML xs) hf N0 ad0 n s_
  have e1 := h.2.2.1.2.1.1.1
  have e2 := h.2.2.1.2.1.1.2
  refine y_law_922 xs (hC n0 s0) 0 48 69 i4 _ ⟨j + 1, hj.1, ?_⟩
  have st := st_improve xs h (xs.getD (j + 1) 0).toInt (zi_rng _)
  by_cases q : 1 ≤ (xs.getD (j + 1) 0).toInt ∧ (xs.getD (j + 1) 0).toInt ≤ 40
  · rw [if_pos q] at st
    rw [← zi_of (xs.getD (j + 1) 0)] at st
    obtain ⟨r, v1, w1, R1, c1, c2⟩ := st
    obtain ⟨v2, w2, m1, m2, m3, m4⟩ := c2 (r).toInt
    refine JN_improve xs hf hTS (xs.getD (j + 1) 0) (x := r) (H1 := (sh, zs v1, zt w1, R1)) (Eq.mpr (c1 _) ⟨rfl, rfl⟩) h.1.1.1 h69 rfl ?_
    show q_J l (GG xs) D dA az ML p e Rm s m args below meth c A Q N0 ad0 n0 s0 933 [some (.retAddr 1), some (.ref 0), some (.ref 48), some (.ref 69), some (.int i4), none, none, none] [.int 0] (sh, zs v1, q_up (zt w1) 69 0 r, R1)
    rw [up69]
    refine y_law_933 xs (hC n0 s0) 0 48 69 i4 0 _ ⟨j + 1, hj.1, h.1.2.1, Eq.mpr (m1 _) ⟨h.1.2.1, Eq.mpr (n_thrown xs sh v2 w2 R1 m4.1.2 _) ?_⟩⟩
    rw [m2]
    refine ⟨fun _ => ⟨fun z => absurd rfl z, fun _ => ⟨1, 0, h69, rfl, fun _ => k n0 s0 v2 w2 R1 (by omega) (by omega) m4, fun z => ?_⟩⟩, fun z => absurd rfl z⟩
    exfalso
    refine z ?_
    show lg_cmp (zt w2 69 0) _ = 0
    rw [at69 m3]
    exact lcmp0 _
  · rw [if_neg q] at st
    have tr := t_improve xs sh v w R h.1.1 (xs.getD (j + 1) 0).toInt (zi_rng _) (q)
    rw [← zi_of (xs.getD (j + 1) 0)] at tr st
    obtain ⟨r, v2, w2, m1, m2, m4⟩ := st
    refine JT_improve_1 xs hf hTS (xs.getD (j + 1) 0) htr tr h.1.1.1 h69 ?_
    refine y_law_933 xs (hC (n0 - 1) (s0 - 6)) 0 48 69 i4 1 _ ⟨j + 1, hj.1, h.1.2.1, Eq.mpr (m1 _) ⟨h.1.2.1, Eq.mpr (n_thrown xs sh v2 w2 R m4.1.2 _) ?_⟩⟩
    rw [m2]
    exact ⟨fun _ => ⟨fun _ => k (n0 - 1) (s0 - 6) v2 w2 R (by omega) (by omega) m4, fun z => absurd (fun z2 => absurd z2 (by decide)) z⟩, fun z => absurd rfl z⟩
end
