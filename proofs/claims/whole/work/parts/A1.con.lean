/-! The constructors, cell by cell (laid by prog/gen5.py). -/
def SH : List q_Sh := [.inl 0, .inl 4, .inl 1, .inl 2, .inr (1, 675), .inr (1, 675), .inr (0, 25), .inr (0, 75), .inl 1, .inl 2, .inr (1, 675), .inr (1, 675), .inr (0, 25), .inr (0, 75), .inr (0, 3), .inl 3, .inr (0, 8), .inr (1, 3), .inr (0, 24), .inl 2, .inr (1, 15), .inr (1, 15), .inl 2, .inr (1, 15), .inr (1, 15), .inr (0, 24), .inr (4, 4), .inr (0, 24), .inr (0, 24), .inr (0, 24), .inr (0, 24), .inr (2, 4), .inl 5, .inr (3, 3), .inr (0, 8), .inr (0, 8), .inl 6, .inr (0, 5), .inr (0, 3), .inr (0, 75), .inl 6, .inr (0, 5), .inr (0, 3), .inr (0, 75), .inl 6, .inr (0, 5), .inr (0, 3), .inr (0, 75), .inl 7, .inr (0, 3), .inr (0, 3), .inr (0, 3), .inr (0, 3), .inr (0, 3), .inr (0, 12), .inr (0, 9), .inr (0, 3), .inr (0, 3), .inr (0, 8), .inr (0, 8), .inr (0, 24), .inr (0, 96), .inr (2, 4), .inr (0, 8), .inr (0, 30375), .inr (1, 135), .inr (0, 24), .inr (1, 3), .inr (0, 375), .inr (1, 1)]
def FZ (k : Nat) (v w : Nat → Int → Int) (R : Nat → Nat → Option Nat) : Prop := ∀ i, k ≤ i → (∀ j, v i j = 0) ∧ (∀ j, w i j = 0) ∧ ∀ j, R i j = none
def hhr (X : Int) : Int := if 1 ≤ X ∧ X ≤ 8 then X else 6
theorem FZ_m {k n : Nat} {v w : Nat → Int → Int} {R : Nat → Nat → Option Nat} (h : FZ k v w R) (hk : k ≤ n) : FZ n v w R := fun i hi => h i (Nat.le_trans hk hi)
theorem FZ_v {k a : Nat} {v w : Nat → Int → Int} {R : Nat → Nat → Option Nat} {e x : Int} (h : FZ k v w R) (ha : a < k) : FZ k (zu v a e x) w R := fun i hi => ⟨fun j => by
  rw [zu_a (by omega)]
  exact (h i hi).1 j, (h i hi).2⟩
theorem FZ_w {k a : Nat} {v w : Nat → Int → Int} {R : Nat → Nat → Option Nat} {e x : Int} (h : FZ k v w R) (ha : a < k) : FZ k v (zu w a e x) R := fun i hi => ⟨(h i hi).1, fun j => by
  rw [zu_a (by omega)]
  exact (h i hi).2.1 j, (h i hi).2.2⟩
theorem FZ_r {k a b : Nat} {v w : Nat → Int → Int} {R : Nat → Nat → Option Nat} {x : Option Nat} (h : FZ k v w R) (ha : a < k) : FZ k v w (q_up R a b x) := fun i hi => ⟨(h i hi).1, (h i hi).2.1, fun j => by
  have e : q_up R a b x i = R i := q_up_row _ _ (by omega)
  rw [e]
  exact (h i hi).2.2 j⟩
theorem FZ_f {k a : Nat} {v w : Nat → Int → Int} {R : Nat → Nat → Option Nat} {n : Int} (h : FZ k v w R) (ha : a + 3 < k) : FZ k (fnx v a n) w R := fun i hi => ⟨fun j => by
  rw [fnx_row (by omega)]
  exact (h i hi).1 j, (h i hi).2⟩
theorem q_nz {k : Nat} {v w : Nat → Int → Int} {R : Nat → Nat → Option Nat} {x : q_Sh} (h : FZ k v w R) (hk : SH[k]? = some x) : q_new (SH.take k, zs v, zt w, R) x = (SH.take (k + 1), zs v, zt w, R) := by
  have hl : k < SH.length := (List.getElem?_eq_some_iff.mp hk).1
  have e1 : (SH.take k).length = k := by
    rw [List.length_take]
    omega
  unfold q_new
  refine Prod.ext ?_ (Prod.ext (funext fun i => funext fun j => ?_) (Prod.ext (funext fun i => funext fun j => ?_) (funext fun i => funext fun j => ?_)))
  · show SH.take k ++ [x] = SH.take (k + 1)
    rw [List.take_add_one, hk]
    rfl
  · show (if i = (SH.take k).length then (0 : Int32) else zs v i j) = zs v i j
    rw [e1]
    by_cases q : i = k
    · subst q
      rw [if_pos rfl]
      show (0 : Int32) = zi (v i j)
      rw [(h i (Nat.le_refl _)).1]
      rfl
    · rw [if_neg q]
  · show (if i = (SH.take k).length then (0 : Int64) else zt w i j) = zt w i j
    rw [e1]
    by_cases q : i = k
    · subst q
      rw [if_pos rfl]
      show (0 : Int64) = zl (w i j)
      rw [(h i (Nat.le_refl _)).2.1]
      rfl
    · rw [if_neg q]
  · show (if i = (SH.take k).length then none else R i j) = R i j
    rw [e1]
    by_cases q : i = k
    · subst q
      rw [if_pos rfl]
      exact ((h i (Nat.le_refl _)).2.2 j).symm
    · rw [if_neg q]
def i_v0 : Nat → Int → Int := fun _ _ => 0
def i_w0 : Nat → Int → Int := fun _ _ => 0
def i_r0 : Nat → Nat → Option Nat := fun _ _ => none
theorem fz_0 : FZ 0 i_v0 i_w0 i_r0 := fun _ _ => ⟨fun _ => rfl, fun _ => rfl, fun _ => rfl⟩
def i_r1 : Nat → Nat → Option Nat := q_up i_r0 3 0 (some 4)
theorem fz_1 : FZ 5 i_v0 i_w0 i_r1 := FZ_r (FZ_m (fz_0) (by decide)) (by decide)
def i_r2 : Nat → Nat → Option Nat := q_up i_r1 3 1 (some 5)
theorem fz_2 : FZ 6 i_v0 i_w0 i_r2 := FZ_r (FZ_m (fz_1) (by decide)) (by decide)
def i_r3 : Nat → Nat → Option Nat := q_up i_r2 2 0 (some 3)
theorem fz_3 : FZ 6 i_v0 i_w0 i_r3 := FZ_r (FZ_m (fz_2) (by decide)) (by decide)
def i_r4 : Nat → Nat → Option Nat := q_up i_r3 2 1 (some 6)
theorem fz_4 : FZ 7 i_v0 i_w0 i_r4 := FZ_r (FZ_m (fz_3) (by decide)) (by decide)
def i_r5 : Nat → Nat → Option Nat := q_up i_r4 2 2 (some 7)
theorem fz_5 : FZ 8 i_v0 i_w0 i_r5 := FZ_r (FZ_m (fz_4) (by decide)) (by decide)
def i_v1 : Nat → Int → Int := zu i_v0 2 3 0
theorem iz_1 : q_up (zs i_v0) 2 3 (0 : Int32) = zs i_v1 := zs_un _ 2 3 0
theorem fz_6 : FZ 8 i_v1 i_w0 i_r5 := FZ_v (FZ_m (fz_5) (by decide)) (by decide)
def i_r6 : Nat → Nat → Option Nat := q_up i_r5 1 0 (some 2)
theorem fz_7 : FZ 8 i_v1 i_w0 i_r6 := FZ_r (FZ_m (fz_6) (by decide)) (by decide)
def i_r7 : Nat → Nat → Option Nat := q_up i_r6 9 0 (some 10)
theorem fz_8 : FZ 11 i_v1 i_w0 i_r7 := FZ_r (FZ_m (fz_7) (by decide)) (by decide)
def i_r8 : Nat → Nat → Option Nat := q_up i_r7 9 1 (some 11)
theorem fz_9 : FZ 12 i_v1 i_w0 i_r8 := FZ_r (FZ_m (fz_8) (by decide)) (by decide)
def i_r9 : Nat → Nat → Option Nat := q_up i_r8 8 0 (some 9)
theorem fz_10 : FZ 12 i_v1 i_w0 i_r9 := FZ_r (FZ_m (fz_9) (by decide)) (by decide)
def i_r10 : Nat → Nat → Option Nat := q_up i_r9 8 1 (some 12)
theorem fz_11 : FZ 13 i_v1 i_w0 i_r10 := FZ_r (FZ_m (fz_10) (by decide)) (by decide)
def i_r11 : Nat → Nat → Option Nat := q_up i_r10 8 2 (some 13)
theorem fz_12 : FZ 14 i_v1 i_w0 i_r11 := FZ_r (FZ_m (fz_11) (by decide)) (by decide)
def i_v2 : Nat → Int → Int := zu i_v1 8 3 0
theorem iz_2 : q_up (zs i_v1) 8 3 (0 : Int32) = zs i_v2 := zs_un _ 8 3 0
theorem fz_13 : FZ 14 i_v2 i_w0 i_r11 := FZ_v (FZ_m (fz_12) (by decide)) (by decide)
def i_r12 : Nat → Nat → Option Nat := q_up i_r11 1 1 (some 8)
theorem fz_14 : FZ 14 i_v2 i_w0 i_r12 := FZ_r (FZ_m (fz_13) (by decide)) (by decide)
def i_r13 : Nat → Nat → Option Nat := q_up i_r12 1 2 (some 14)
theorem fz_15 : FZ 15 i_v2 i_w0 i_r13 := FZ_r (FZ_m (fz_14) (by decide)) (by decide)
def i_r14 : Nat → Nat → Option Nat := q_up i_r13 0 1 (some 1)
theorem fz_16 : FZ 15 i_v2 i_w0 i_r14 := FZ_r (FZ_m (fz_15) (by decide)) (by decide)
def i_r15 : Nat → Nat → Option Nat := q_up i_r14 15 0 (some 16)
theorem fz_17 : FZ 17 i_v2 i_w0 i_r15 := FZ_r (FZ_m (fz_16) (by decide)) (by decide)
def i_r16 : Nat → Nat → Option Nat := q_up i_r15 15 1 (some 17)
theorem fz_18 : FZ 18 i_v2 i_w0 i_r16 := FZ_r (FZ_m (fz_17) (by decide)) (by decide)
def i_r17 : Nat → Nat → Option Nat := q_up i_r16 15 2 (some 18)
theorem fz_19 : FZ 19 i_v2 i_w0 i_r17 := FZ_r (FZ_m (fz_18) (by decide)) (by decide)
def i_r18 : Nat → Nat → Option Nat := q_up i_r17 19 0 (some 20)
theorem fz_20 : FZ 21 i_v2 i_w0 i_r18 := FZ_r (FZ_m (fz_19) (by decide)) (by decide)
def i_r19 : Nat → Nat → Option Nat := q_up i_r18 19 1 (some 21)
theorem fz_21 : FZ 22 i_v2 i_w0 i_r19 := FZ_r (FZ_m (fz_20) (by decide)) (by decide)
def i_r20 : Nat → Nat → Option Nat := q_up i_r19 15 3 (some 19)
theorem fz_22 : FZ 22 i_v2 i_w0 i_r20 := FZ_r (FZ_m (fz_21) (by decide)) (by decide)
def i_r21 : Nat → Nat → Option Nat := q_up i_r20 22 0 (some 23)
theorem fz_23 : FZ 24 i_v2 i_w0 i_r21 := FZ_r (FZ_m (fz_22) (by decide)) (by decide)
def i_r22 : Nat → Nat → Option Nat := q_up i_r21 22 1 (some 24)
theorem fz_24 : FZ 25 i_v2 i_w0 i_r22 := FZ_r (FZ_m (fz_23) (by decide)) (by decide)
def i_r23 : Nat → Nat → Option Nat := q_up i_r22 15 4 (some 22)
theorem fz_25 : FZ 25 i_v2 i_w0 i_r23 := FZ_r (FZ_m (fz_24) (by decide)) (by decide)
def i_v3 : Nat → Int → Int := zu i_v2 15 5 64
theorem iz_3 : q_up (zs i_v2) 15 5 (64 : Int32) = zs i_v3 := zs_un _ 15 5 64
theorem fz_26 : FZ 25 i_v3 i_w0 i_r23 := FZ_v (FZ_m (fz_25) (by decide)) (by decide)
def i_w1 : Nat → Int → Int := zu i_w0 15 6 0
theorem iy_1 : q_up (zt i_w0) 15 6 (0 : Int64) = zt i_w1 := zt_un _ 15 6 0
theorem fz_27 : FZ 25 i_v3 i_w1 i_r23 := FZ_w (FZ_m (fz_26) (by decide)) (by decide)
def i_v4 : Nat → Int → Int := zu i_v3 15 7 0
theorem iz_4 : q_up (zs i_v3) 15 7 (0 : Int32) = zs i_v4 := zs_un _ 15 7 0
theorem fz_28 : FZ 25 i_v4 i_w1 i_r23 := FZ_v (FZ_m (fz_27) (by decide)) (by decide)
def i_r24 : Nat → Nat → Option Nat := q_up i_r23 0 2 (some 15)
theorem fz_29 : FZ 25 i_v4 i_w1 i_r24 := FZ_r (FZ_m (fz_28) (by decide)) (by decide)
def i_r25 : Nat → Nat → Option Nat := q_up i_r24 0 3 (some 25)
theorem fz_30 : FZ 26 i_v4 i_w1 i_r25 := FZ_r (FZ_m (fz_29) (by decide)) (by decide)
def i_r26 : Nat → Nat → Option Nat := q_up i_r25 26 0 (some 27)
def i_r27 : Nat → Nat → Option Nat := q_up i_r26 26 1 (some 28)
def i_r28 : Nat → Nat → Option Nat := q_up i_r27 26 2 (some 29)
def i_r29 : Nat → Nat → Option Nat := q_up i_r28 26 3 (some 30)
theorem fz_31 : FZ 31 i_v4 i_w1 i_r29 := FZ_r (FZ_r (FZ_r (FZ_r (FZ_m (fz_30) (by decide)) (by decide)) (by decide)) (by decide)) (by decide)
theorem i_mna : mnaH (SH.take 26, zs i_v4, zt i_w1, i_r25) = (SH.take 31, zs i_v4, zt i_w1, i_r29) := by
  have hz := FZ_m (fz_30) (Nat.le_refl 26)
  refine Prod.ext rfl (Prod.ext (funext fun i => funext fun j => ?_) (Prod.ext (funext fun i => funext fun j => ?_) (funext fun i => funext fun j => ?_)))
  · show (if 26 ≤ i then (0 : Int32) else zs i_v4 i j) = zs i_v4 i j
    by_cases q : 26 ≤ i
    · rw [if_pos q]
      show (0 : Int32) = zi (i_v4 i j)
      rw [(hz i q).1]
      rfl
    · rw [if_neg q]
  · show (if 26 ≤ i then (0 : Int64) else zt i_w1 i j) = zt i_w1 i j
    by_cases q : 26 ≤ i
    · rw [if_pos q]
      show (0 : Int64) = zl (i_w1 i j)
      rw [(hz i q).2.1]
      rfl
    · rw [if_neg q]
  · show (if 26 ≤ i then (if i = 26 ∧ j < 4 then some (26 + 1 + j) else none) else i_r25 i j) = i_r29 i j
    by_cases q : i = 26
    · subst q
      rw [if_pos (Nat.le_refl _)]
      by_cases q2 : j < 4
      · rw [if_pos ⟨rfl, q2⟩]
        match j, q2 with
        | 0, _ => rfl
        | 1, _ => rfl
        | 2, _ => rfl
        | 3, _ => rfl
        | j + 4, h => omega
      · rw [if_neg (fun z => q2 z.2)]
        have h0 := (hz 26 (Nat.le_refl _)).2.2 j
        simp only [i_r29, i_r28, i_r27, i_r26, q_up]
        rw [if_neg (by omega), if_neg (by omega), if_neg (by omega), if_neg (by omega)]
        exact h0.symm
    · by_cases q2 : 26 ≤ i
      · rw [if_pos q2, if_neg (fun z => q z.1)]
        have h0 := (hz i q2).2.2 j
        simp only [i_r29, i_r28, i_r27, i_r26, q_up]
        rw [if_neg (fun z => q z.1), if_neg (fun z => q z.1), if_neg (fun z => q z.1), if_neg (fun z => q z.1)]
        exact h0.symm
      · rw [if_neg q2]
        simp only [i_r29, i_r28, i_r27, i_r26, q_up]
        rw [if_neg (fun z => q z.1), if_neg (fun z => q z.1), if_neg (fun z => q z.1), if_neg (fun z => q z.1)]
def i_r30 : Nat → Nat → Option Nat := q_up i_r29 0 4 (some 26)
theorem fz_32 : FZ 31 i_v4 i_w1 i_r30 := FZ_r (FZ_m (fz_31) (by decide)) (by decide)
def i_r31 : Nat → Nat → Option Nat := q_up i_r30 0 5 (some 31)
theorem fz_33 : FZ 32 i_v4 i_w1 i_r31 := FZ_r (FZ_m (fz_32) (by decide)) (by decide)
def i_v5 : Nat → Int → Int := zu i_v4 32 1 0
theorem iz_5 : q_up (zs i_v4) 32 1 (0 : Int32) = zs i_v5 := zs_un _ 32 1 0
theorem fz_34 : FZ 33 i_v5 i_w1 i_r31 := FZ_v (FZ_m (fz_33) (by decide)) (by decide)
def i_r32 : Nat → Nat → Option Nat := q_up i_r31 32 2 (some 33)
theorem fz_35 : FZ 34 i_v5 i_w1 i_r32 := FZ_r (FZ_m (fz_34) (by decide)) (by decide)
def i_r33 : Nat → Nat → Option Nat := q_up i_r32 32 3 (some 34)
theorem fz_36 : FZ 35 i_v5 i_w1 i_r33 := FZ_r (FZ_m (fz_35) (by decide)) (by decide)
def i_r34 : Nat → Nat → Option Nat := q_up i_r33 32 4 (some 35)
theorem fz_37 : FZ 36 i_v5 i_w1 i_r34 := FZ_r (FZ_m (fz_36) (by decide)) (by decide)
def i_v6 (h : Int) : Nat → Int → Int := zu i_v5 32 0 h
theorem iz_6 (h : Int) : q_up (zs i_v5) 32 0 (zi h) = zs (i_v6 h) := zs_un _ 32 0 h
theorem fz_38 (h : Int) : FZ 36 (i_v6 h) i_w1 i_r34 := FZ_v (FZ_m (fz_37) (by decide)) (by decide)
def i_v7 (h : Int) : Nat → Int → Int := zu (i_v6 h) 36 0 1
theorem iz_7 (h : Int) : q_up (zs (i_v6 h)) 36 0 (1 : Int32) = zs (i_v7 h) := zs_un _ 36 0 1
theorem fz_39 (h : Int) : FZ 37 (i_v7 h) i_w1 i_r34 := FZ_v (FZ_m (fz_38 h) (by decide)) (by decide)
def i_v8 (h : Int) : Nat → Int → Int := zu (i_v7 h) 36 1 0
theorem iz_8 (h : Int) : q_up (zs (i_v7 h)) 36 1 (0 : Int32) = zs (i_v8 h) := zs_un _ 36 1 0
theorem fz_40 (h : Int) : FZ 37 (i_v8 h) i_w1 i_r34 := FZ_v (FZ_m (fz_39 h) (by decide)) (by decide)
def i_v9 (h : Int) : Nat → Int → Int := zu (i_v8 h) 36 2 1
theorem iz_9 (h : Int) : q_up (zs (i_v8 h)) 36 2 (1 : Int32) = zs (i_v9 h) := zs_un _ 36 2 1
theorem fz_41 (h : Int) : FZ 37 (i_v9 h) i_w1 i_r34 := FZ_v (FZ_m (fz_40 h) (by decide)) (by decide)
def i_v10 (h : Int) : Nat → Int → Int := zu (i_v9 h) 36 3 1
theorem iz_10 (h : Int) : q_up (zs (i_v9 h)) 36 3 (1 : Int32) = zs (i_v10 h) := zs_un _ 36 3 1
theorem fz_42 (h : Int) : FZ 37 (i_v10 h) i_w1 i_r34 := FZ_v (FZ_m (fz_41 h) (by decide)) (by decide)
def i_v11 (h : Int) : Nat → Int → Int := zu (i_v10 h) 36 4 1
theorem iz_11 (h : Int) : q_up (zs (i_v10 h)) 36 4 (1 : Int32) = zs (i_v11 h) := zs_un _ 36 4 1
theorem fz_43 (h : Int) : FZ 37 (i_v11 h) i_w1 i_r34 := FZ_v (FZ_m (fz_42 h) (by decide)) (by decide)
def i_v12 (h : Int) : Nat → Int → Int := zu (i_v11 h) 36 5 0
theorem iz_12 (h : Int) : q_up (zs (i_v11 h)) 36 5 (0 : Int32) = zs (i_v12 h) := zs_un _ 36 5 0
theorem fz_44 (h : Int) : FZ 37 (i_v12 h) i_w1 i_r34 := FZ_v (FZ_m (fz_43 h) (by decide)) (by decide)
def i_v13 (h : Int) : Nat → Int → Int := zu (i_v12 h) 36 6 3
theorem iz_13 (h : Int) : q_up (zs (i_v12 h)) 36 6 (3 : Int32) = zs (i_v13 h) := zs_un _ 36 6 3
theorem fz_45 (h : Int) : FZ 37 (i_v13 h) i_w1 i_r34 := FZ_v (FZ_m (fz_44 h) (by decide)) (by decide)
def i_r35 : Nat → Nat → Option Nat := q_up i_r34 36 7 (some 37)
theorem fz_46 (h : Int) : FZ 38 (i_v13 h) i_w1 i_r35 := FZ_r (FZ_m (fz_45 h) (by decide)) (by decide)
def i_r36 : Nat → Nat → Option Nat := q_up i_r35 36 8 (some 38)
theorem fz_47 (h : Int) : FZ 39 (i_v13 h) i_w1 i_r36 := FZ_r (FZ_m (fz_46 h) (by decide)) (by decide)
def i_r37 : Nat → Nat → Option Nat := q_up i_r36 36 9 (some 39)
theorem fz_48 (h : Int) : FZ 40 (i_v13 h) i_w1 i_r37 := FZ_r (FZ_m (fz_47 h) (by decide)) (by decide)
def i_v14 (h : Int) : Nat → Int → Int := fnx (i_v13 h) 36 75
theorem fz_49 (h : Int) : FZ 40 (i_v14 h) i_w1 i_r37 := FZ_f (FZ_m (fz_48 h) (by decide)) (by decide)
def i_r38 : Nat → Nat → Option Nat := q_up i_r37 33 0 (some 36)
theorem fz_50 (h : Int) : FZ 40 (i_v14 h) i_w1 i_r38 := FZ_r (FZ_m (fz_49 h) (by decide)) (by decide)
def i_v15 (h : Int) : Nat → Int → Int := zu (i_v14 h) 40 0 1
theorem iz_15 (h : Int) : q_up (zs (i_v14 h)) 40 0 (1 : Int32) = zs (i_v15 h) := zs_un _ 40 0 1
theorem fz_51 (h : Int) : FZ 41 (i_v15 h) i_w1 i_r38 := FZ_v (FZ_m (fz_50 h) (by decide)) (by decide)
def i_v16 (h : Int) : Nat → Int → Int := zu (i_v15 h) 40 1 0
theorem iz_16 (h : Int) : q_up (zs (i_v15 h)) 40 1 (0 : Int32) = zs (i_v16 h) := zs_un _ 40 1 0
theorem fz_52 (h : Int) : FZ 41 (i_v16 h) i_w1 i_r38 := FZ_v (FZ_m (fz_51 h) (by decide)) (by decide)
def i_v17 (h : Int) : Nat → Int → Int := zu (i_v16 h) 40 2 1
theorem iz_17 (h : Int) : q_up (zs (i_v16 h)) 40 2 (1 : Int32) = zs (i_v17 h) := zs_un _ 40 2 1
theorem fz_53 (h : Int) : FZ 41 (i_v17 h) i_w1 i_r38 := FZ_v (FZ_m (fz_52 h) (by decide)) (by decide)
def i_v18 (h : Int) : Nat → Int → Int := zu (i_v17 h) 40 3 1
theorem iz_18 (h : Int) : q_up (zs (i_v17 h)) 40 3 (1 : Int32) = zs (i_v18 h) := zs_un _ 40 3 1
theorem fz_54 (h : Int) : FZ 41 (i_v18 h) i_w1 i_r38 := FZ_v (FZ_m (fz_53 h) (by decide)) (by decide)
def i_v19 (h : Int) : Nat → Int → Int := zu (i_v18 h) 40 4 1
theorem iz_19 (h : Int) : q_up (zs (i_v18 h)) 40 4 (1 : Int32) = zs (i_v19 h) := zs_un _ 40 4 1
theorem fz_55 (h : Int) : FZ 41 (i_v19 h) i_w1 i_r38 := FZ_v (FZ_m (fz_54 h) (by decide)) (by decide)
def i_v20 (h : Int) : Nat → Int → Int := zu (i_v19 h) 40 5 0
theorem iz_20 (h : Int) : q_up (zs (i_v19 h)) 40 5 (0 : Int32) = zs (i_v20 h) := zs_un _ 40 5 0
theorem fz_56 (h : Int) : FZ 41 (i_v20 h) i_w1 i_r38 := FZ_v (FZ_m (fz_55 h) (by decide)) (by decide)
def i_v21 (h : Int) : Nat → Int → Int := zu (i_v20 h) 40 6 3
theorem iz_21 (h : Int) : q_up (zs (i_v20 h)) 40 6 (3 : Int32) = zs (i_v21 h) := zs_un _ 40 6 3
theorem fz_57 (h : Int) : FZ 41 (i_v21 h) i_w1 i_r38 := FZ_v (FZ_m (fz_56 h) (by decide)) (by decide)
def i_r39 : Nat → Nat → Option Nat := q_up i_r38 40 7 (some 41)
theorem fz_58 (h : Int) : FZ 42 (i_v21 h) i_w1 i_r39 := FZ_r (FZ_m (fz_57 h) (by decide)) (by decide)
def i_r40 : Nat → Nat → Option Nat := q_up i_r39 40 8 (some 42)
theorem fz_59 (h : Int) : FZ 43 (i_v21 h) i_w1 i_r40 := FZ_r (FZ_m (fz_58 h) (by decide)) (by decide)
def i_r41 : Nat → Nat → Option Nat := q_up i_r40 40 9 (some 43)
theorem fz_60 (h : Int) : FZ 44 (i_v21 h) i_w1 i_r41 := FZ_r (FZ_m (fz_59 h) (by decide)) (by decide)
def i_v22 (h : Int) : Nat → Int → Int := fnx (i_v21 h) 40 75
theorem fz_61 (h : Int) : FZ 44 (i_v22 h) i_w1 i_r41 := FZ_f (FZ_m (fz_60 h) (by decide)) (by decide)
def i_r42 : Nat → Nat → Option Nat := q_up i_r41 33 1 (some 40)
theorem fz_62 (h : Int) : FZ 44 (i_v22 h) i_w1 i_r42 := FZ_r (FZ_m (fz_61 h) (by decide)) (by decide)
def i_v23 (h : Int) : Nat → Int → Int := zu (i_v22 h) 44 0 1
theorem iz_23 (h : Int) : q_up (zs (i_v22 h)) 44 0 (1 : Int32) = zs (i_v23 h) := zs_un _ 44 0 1
theorem fz_63 (h : Int) : FZ 45 (i_v23 h) i_w1 i_r42 := FZ_v (FZ_m (fz_62 h) (by decide)) (by decide)
def i_v24 (h : Int) : Nat → Int → Int := zu (i_v23 h) 44 1 0
theorem iz_24 (h : Int) : q_up (zs (i_v23 h)) 44 1 (0 : Int32) = zs (i_v24 h) := zs_un _ 44 1 0
theorem fz_64 (h : Int) : FZ 45 (i_v24 h) i_w1 i_r42 := FZ_v (FZ_m (fz_63 h) (by decide)) (by decide)
def i_v25 (h : Int) : Nat → Int → Int := zu (i_v24 h) 44 2 1
theorem iz_25 (h : Int) : q_up (zs (i_v24 h)) 44 2 (1 : Int32) = zs (i_v25 h) := zs_un _ 44 2 1
theorem fz_65 (h : Int) : FZ 45 (i_v25 h) i_w1 i_r42 := FZ_v (FZ_m (fz_64 h) (by decide)) (by decide)
def i_v26 (h : Int) : Nat → Int → Int := zu (i_v25 h) 44 3 1
theorem iz_26 (h : Int) : q_up (zs (i_v25 h)) 44 3 (1 : Int32) = zs (i_v26 h) := zs_un _ 44 3 1
theorem fz_66 (h : Int) : FZ 45 (i_v26 h) i_w1 i_r42 := FZ_v (FZ_m (fz_65 h) (by decide)) (by decide)
def i_v27 (h : Int) : Nat → Int → Int := zu (i_v26 h) 44 4 1
theorem iz_27 (h : Int) : q_up (zs (i_v26 h)) 44 4 (1 : Int32) = zs (i_v27 h) := zs_un _ 44 4 1
theorem fz_67 (h : Int) : FZ 45 (i_v27 h) i_w1 i_r42 := FZ_v (FZ_m (fz_66 h) (by decide)) (by decide)
def i_v28 (h : Int) : Nat → Int → Int := zu (i_v27 h) 44 5 0
theorem iz_28 (h : Int) : q_up (zs (i_v27 h)) 44 5 (0 : Int32) = zs (i_v28 h) := zs_un _ 44 5 0
theorem fz_68 (h : Int) : FZ 45 (i_v28 h) i_w1 i_r42 := FZ_v (FZ_m (fz_67 h) (by decide)) (by decide)
def i_v29 (h : Int) : Nat → Int → Int := zu (i_v28 h) 44 6 3
theorem iz_29 (h : Int) : q_up (zs (i_v28 h)) 44 6 (3 : Int32) = zs (i_v29 h) := zs_un _ 44 6 3
theorem fz_69 (h : Int) : FZ 45 (i_v29 h) i_w1 i_r42 := FZ_v (FZ_m (fz_68 h) (by decide)) (by decide)
def i_r43 : Nat → Nat → Option Nat := q_up i_r42 44 7 (some 45)
theorem fz_70 (h : Int) : FZ 46 (i_v29 h) i_w1 i_r43 := FZ_r (FZ_m (fz_69 h) (by decide)) (by decide)
def i_r44 : Nat → Nat → Option Nat := q_up i_r43 44 8 (some 46)
theorem fz_71 (h : Int) : FZ 47 (i_v29 h) i_w1 i_r44 := FZ_r (FZ_m (fz_70 h) (by decide)) (by decide)
def i_r45 : Nat → Nat → Option Nat := q_up i_r44 44 9 (some 47)
theorem fz_72 (h : Int) : FZ 48 (i_v29 h) i_w1 i_r45 := FZ_r (FZ_m (fz_71 h) (by decide)) (by decide)
def i_v30 (h : Int) : Nat → Int → Int := fnx (i_v29 h) 44 75
theorem fz_73 (h : Int) : FZ 48 (i_v30 h) i_w1 i_r45 := FZ_f (FZ_m (fz_72 h) (by decide)) (by decide)
def i_r46 : Nat → Nat → Option Nat := q_up i_r45 33 2 (some 44)
theorem fz_74 (h : Int) : FZ 48 (i_v30 h) i_w1 i_r46 := FZ_r (FZ_m (fz_73 h) (by decide)) (by decide)
def i_r47 : Nat → Nat → Option Nat := q_up i_r46 0 0 (some 32)
theorem fz_75 (h : Int) : FZ 48 (i_v30 h) i_w1 i_r47 := FZ_r (FZ_m (fz_74 h) (by decide)) (by decide)
/-- the class stands made -/
abbrev i_H48 (h : Int) : q_H := (SH.take 48, zs (i_v30 h), zt i_w1, i_r47)
def i_r48 : Nat → Nat → Option Nat := q_up i_r47 48 3 (some 49)
theorem fz_76 (h : Int) : FZ 50 (i_v30 h) i_w1 i_r48 := FZ_r (FZ_m (fz_75 h) (by decide)) (by decide)
def i_r49 : Nat → Nat → Option Nat := q_up i_r48 48 4 (some 50)
theorem fz_77 (h : Int) : FZ 51 (i_v30 h) i_w1 i_r49 := FZ_r (FZ_m (fz_76 h) (by decide)) (by decide)
def i_r50 : Nat → Nat → Option Nat := q_up i_r49 48 5 (some 51)
theorem fz_78 (h : Int) : FZ 52 (i_v30 h) i_w1 i_r50 := FZ_r (FZ_m (fz_77 h) (by decide)) (by decide)
def i_r51 : Nat → Nat → Option Nat := q_up i_r50 48 6 (some 52)
theorem fz_79 (h : Int) : FZ 53 (i_v30 h) i_w1 i_r51 := FZ_r (FZ_m (fz_78 h) (by decide)) (by decide)
def i_r52 : Nat → Nat → Option Nat := q_up i_r51 48 7 (some 53)
theorem fz_80 (h : Int) : FZ 54 (i_v30 h) i_w1 i_r52 := FZ_r (FZ_m (fz_79 h) (by decide)) (by decide)
def i_r53 : Nat → Nat → Option Nat := q_up i_r52 48 8 (some 54)
theorem fz_81 (h : Int) : FZ 55 (i_v30 h) i_w1 i_r53 := FZ_r (FZ_m (fz_80 h) (by decide)) (by decide)
def i_r54 : Nat → Nat → Option Nat := q_up i_r53 48 9 (some 55)
theorem fz_82 (h : Int) : FZ 56 (i_v30 h) i_w1 i_r54 := FZ_r (FZ_m (fz_81 h) (by decide)) (by decide)
def i_r55 : Nat → Nat → Option Nat := q_up i_r54 48 10 (some 56)
theorem fz_83 (h : Int) : FZ 57 (i_v30 h) i_w1 i_r55 := FZ_r (FZ_m (fz_82 h) (by decide)) (by decide)
def i_r56 : Nat → Nat → Option Nat := q_up i_r55 48 11 (some 57)
theorem fz_84 (h : Int) : FZ 58 (i_v30 h) i_w1 i_r56 := FZ_r (FZ_m (fz_83 h) (by decide)) (by decide)
def i_r57 : Nat → Nat → Option Nat := q_up i_r56 48 12 (some 58)
theorem fz_85 (h : Int) : FZ 59 (i_v30 h) i_w1 i_r57 := FZ_r (FZ_m (fz_84 h) (by decide)) (by decide)
def i_r58 : Nat → Nat → Option Nat := q_up i_r57 48 13 (some 59)
theorem fz_86 (h : Int) : FZ 60 (i_v30 h) i_w1 i_r58 := FZ_r (FZ_m (fz_85 h) (by decide)) (by decide)
def i_r59 : Nat → Nat → Option Nat := q_up i_r58 48 14 (some 60)
theorem fz_87 (h : Int) : FZ 61 (i_v30 h) i_w1 i_r59 := FZ_r (FZ_m (fz_86 h) (by decide)) (by decide)
def i_r60 : Nat → Nat → Option Nat := q_up i_r59 48 15 (some 61)
theorem fz_88 (h : Int) : FZ 62 (i_v30 h) i_w1 i_r60 := FZ_r (FZ_m (fz_87 h) (by decide)) (by decide)
def i_r61 : Nat → Nat → Option Nat := q_up i_r60 48 16 (some 62)
theorem fz_89 (h : Int) : FZ 63 (i_v30 h) i_w1 i_r61 := FZ_r (FZ_m (fz_88 h) (by decide)) (by decide)
def i_r62 : Nat → Nat → Option Nat := q_up i_r61 48 17 (some 63)
theorem fz_90 (h : Int) : FZ 64 (i_v30 h) i_w1 i_r62 := FZ_r (FZ_m (fz_89 h) (by decide)) (by decide)
def i_v31 (h : Int) : Nat → Int → Int := zu (i_v30 h) 48 18 64
theorem iz_31 (h : Int) : q_up (zs (i_v30 h)) 48 18 (64 : Int32) = zs (i_v31 h) := zs_un _ 48 18 64
theorem fz_91 (h : Int) : FZ 64 (i_v31 h) i_w1 i_r62 := FZ_v (FZ_m (fz_90 h) (by decide)) (by decide)
def i_r63 : Nat → Nat → Option Nat := q_up i_r62 48 20 (some 64)
theorem fz_92 (h : Int) : FZ 65 (i_v31 h) i_w1 i_r63 := FZ_r (FZ_m (fz_91 h) (by decide)) (by decide)
def i_r64 : Nat → Nat → Option Nat := q_up i_r63 48 21 (some 65)
theorem fz_93 (h : Int) : FZ 66 (i_v31 h) i_w1 i_r64 := FZ_r (FZ_m (fz_92 h) (by decide)) (by decide)
def i_r65 : Nat → Nat → Option Nat := q_up i_r64 48 22 (some 66)
theorem fz_94 (h : Int) : FZ 67 (i_v31 h) i_w1 i_r65 := FZ_r (FZ_m (fz_93 h) (by decide)) (by decide)
def i_r66 : Nat → Nat → Option Nat := q_up i_r65 48 23 (some 67)
theorem fz_95 (h : Int) : FZ 68 (i_v31 h) i_w1 i_r66 := FZ_r (FZ_m (fz_94 h) (by decide)) (by decide)
def i_r67 : Nat → Nat → Option Nat := q_up i_r66 48 25 (some 68)
theorem fz_96 (h : Int) : FZ 69 (i_v31 h) i_w1 i_r67 := FZ_r (FZ_m (fz_95 h) (by decide)) (by decide)
def i_v32 (h X : Int) : Nat → Int → Int := zu (i_v31 h) 48 1 (hhr X)
theorem fz_97 (h X : Int) : FZ 69 (i_v32 h X) i_w1 i_r67 := FZ_v (FZ_m (fz_96 h) (by decide)) (by decide)
theorem c_Layer_3 (xs : List Int32) (Q : q_H → Prop) (hQ : Q (SH.take 6, zs i_v0, zt i_w0, i_r2)) : q_CallV (GG xs) PP 81 [.ref 3, .int 675] (SH.take 4, zs i_v0, zt i_w0, i_r0) Q := by
  refine e_Layer_init xs _ 3 675 _ ⟨675, by decide, by decide, by decide, fun a H ea eH => ?_⟩
  obtain rfl : a = 4 := ea
  obtain rfl : H = (SH.take 5, zs i_v0, zt i_w0, i_r0) := eH.trans (q_nz (k := 4) (v := i_v0) (w := i_w0) (R := i_r0) (FZ_m (fz_0) (by decide)) rfl)
  refine ⟨rfl, 675, by decide, by decide, by decide, fun a H ea eH => ?_⟩
  obtain rfl : a = 5 := ea
  obtain rfl : H = (SH.take 6, zs i_v0, zt i_w0, i_r1) := eH.trans (q_nz (k := 5) (v := i_v0) (w := i_w0) (R := i_r1) (FZ_m (fz_1) (by decide)) rfl)
  exact ⟨rfl, hQ⟩
theorem c_Front_2 (xs : List Int32) (Q : q_H → Prop) (hQ : Q (SH.take 8, zs i_v1, zt i_w0, i_r5)) : q_CallV (GG xs) PP 75 [.ref 2] (SH.take 3, zs i_v0, zt i_w0, i_r0) Q := by
  refine e_Front_init xs _ 2 _ (fun a H ea eH => ?_)
  obtain rfl : a = 3 := ea
  obtain rfl : H = (SH.take 4, zs i_v0, zt i_w0, i_r0) := eH.trans (q_nz (k := 3) (v := i_v0) (w := i_w0) (R := i_r0) (FZ_m (fz_0) (by decide)) rfl)
  refine c_Layer_3 xs _ ?_
  refine ⟨rfl, 25, by decide, by decide, by decide, fun a H ea eH => ?_⟩
  obtain rfl : a = 6 := ea
  obtain rfl : H = (SH.take 7, zs i_v0, zt i_w0, i_r3) := eH.trans (q_nz (k := 6) (v := i_v0) (w := i_w0) (R := i_r3) (FZ_m (fz_3) (by decide)) rfl)
  refine ⟨rfl, 75, by decide, by decide, by decide, fun a H ea eH => ?_⟩
  obtain rfl : a = 7 := ea
  obtain rfl : H = (SH.take 8, zs i_v0, zt i_w0, i_r4) := eH.trans (q_nz (k := 7) (v := i_v0) (w := i_w0) (R := i_r4) (FZ_m (fz_4) (by decide)) rfl)
  refine ⟨rfl, rfl, ?_⟩
  show Q (SH.take 8, q_up (zs i_v0) 2 3 (0 : Int32), zt i_w0, i_r5)
  rw [iz_1]
  exact hQ
theorem c_Layer_9 (xs : List Int32) (Q : q_H → Prop) (hQ : Q (SH.take 12, zs i_v1, zt i_w0, i_r8)) : q_CallV (GG xs) PP 81 [.ref 9, .int 675] (SH.take 10, zs i_v1, zt i_w0, i_r6) Q := by
  refine e_Layer_init xs _ 9 675 _ ⟨675, by decide, by decide, by decide, fun a H ea eH => ?_⟩
  obtain rfl : a = 10 := ea
  obtain rfl : H = (SH.take 11, zs i_v1, zt i_w0, i_r6) := eH.trans (q_nz (k := 10) (v := i_v1) (w := i_w0) (R := i_r6) (FZ_m (fz_7) (by decide)) rfl)
  refine ⟨rfl, 675, by decide, by decide, by decide, fun a H ea eH => ?_⟩
  obtain rfl : a = 11 := ea
  obtain rfl : H = (SH.take 12, zs i_v1, zt i_w0, i_r7) := eH.trans (q_nz (k := 11) (v := i_v1) (w := i_w0) (R := i_r7) (FZ_m (fz_8) (by decide)) rfl)
  exact ⟨rfl, hQ⟩
theorem c_Front_8 (xs : List Int32) (Q : q_H → Prop) (hQ : Q (SH.take 14, zs i_v2, zt i_w0, i_r11)) : q_CallV (GG xs) PP 75 [.ref 8] (SH.take 9, zs i_v1, zt i_w0, i_r6) Q := by
  refine e_Front_init xs _ 8 _ (fun a H ea eH => ?_)
  obtain rfl : a = 9 := ea
  obtain rfl : H = (SH.take 10, zs i_v1, zt i_w0, i_r6) := eH.trans (q_nz (k := 9) (v := i_v1) (w := i_w0) (R := i_r6) (FZ_m (fz_7) (by decide)) rfl)
  refine c_Layer_9 xs _ ?_
  refine ⟨rfl, 25, by decide, by decide, by decide, fun a H ea eH => ?_⟩
  obtain rfl : a = 12 := ea
  obtain rfl : H = (SH.take 13, zs i_v1, zt i_w0, i_r9) := eH.trans (q_nz (k := 12) (v := i_v1) (w := i_w0) (R := i_r9) (FZ_m (fz_10) (by decide)) rfl)
  refine ⟨rfl, 75, by decide, by decide, by decide, fun a H ea eH => ?_⟩
  obtain rfl : a = 13 := ea
  obtain rfl : H = (SH.take 14, zs i_v1, zt i_w0, i_r10) := eH.trans (q_nz (k := 13) (v := i_v1) (w := i_w0) (R := i_r10) (FZ_m (fz_11) (by decide)) rfl)
  refine ⟨rfl, rfl, ?_⟩
  show Q (SH.take 14, q_up (zs i_v1) 8 3 (0 : Int32), zt i_w0, i_r11)
  rw [iz_2]
  exact hQ
theorem c_Planner (xs : List Int32) (Q : q_H → Prop) (hQ : Q (SH.take 15, zs i_v2, zt i_w0, i_r13)) : q_CallV (GG xs) PP 97 [.ref 1] (SH.take 2, zs i_v0, zt i_w0, i_r0) Q := by
  refine e_Planner_init xs _ 1 _ (fun a H ea eH => ?_)
  obtain rfl : a = 2 := ea
  obtain rfl : H = (SH.take 3, zs i_v0, zt i_w0, i_r0) := eH.trans (q_nz (k := 2) (v := i_v0) (w := i_w0) (R := i_r0) (FZ_m (fz_0) (by decide)) rfl)
  refine c_Front_2 xs _ ?_
  refine ⟨rfl, fun a H ea eH => ?_⟩
  obtain rfl : a = 8 := ea
  obtain rfl : H = (SH.take 9, zs i_v1, zt i_w0, i_r6) := eH.trans (q_nz (k := 8) (v := i_v1) (w := i_w0) (R := i_r6) (FZ_m (fz_7) (by decide)) rfl)
  refine c_Front_8 xs _ ?_
  refine ⟨rfl, 3, by decide, by decide, by decide, fun a H ea eH => ?_⟩
  obtain rfl : a = 14 := ea
  obtain rfl : H = (SH.take 15, zs i_v2, zt i_w0, i_r12) := eH.trans (q_nz (k := 14) (v := i_v2) (w := i_w0) (R := i_r12) (FZ_m (fz_14) (by decide)) rfl)
  exact ⟨rfl, hQ⟩
theorem c_Layer_19 (xs : List Int32) (Q : q_H → Prop) (hQ : Q (SH.take 22, zs i_v2, zt i_w0, i_r19)) : q_CallV (GG xs) PP 81 [.ref 19, .int 15] (SH.take 20, zs i_v2, zt i_w0, i_r17) Q := by
  refine e_Layer_init xs _ 19 15 _ ⟨15, by decide, by decide, by decide, fun a H ea eH => ?_⟩
  obtain rfl : a = 20 := ea
  obtain rfl : H = (SH.take 21, zs i_v2, zt i_w0, i_r17) := eH.trans (q_nz (k := 20) (v := i_v2) (w := i_w0) (R := i_r17) (FZ_m (fz_19) (by decide)) rfl)
  refine ⟨rfl, 15, by decide, by decide, by decide, fun a H ea eH => ?_⟩
  obtain rfl : a = 21 := ea
  obtain rfl : H = (SH.take 22, zs i_v2, zt i_w0, i_r18) := eH.trans (q_nz (k := 21) (v := i_v2) (w := i_w0) (R := i_r18) (FZ_m (fz_20) (by decide)) rfl)
  exact ⟨rfl, hQ⟩
theorem c_Layer_22 (xs : List Int32) (Q : q_H → Prop) (hQ : Q (SH.take 25, zs i_v2, zt i_w0, i_r22)) : q_CallV (GG xs) PP 81 [.ref 22, .int 15] (SH.take 23, zs i_v2, zt i_w0, i_r20) Q := by
  refine e_Layer_init xs _ 22 15 _ ⟨15, by decide, by decide, by decide, fun a H ea eH => ?_⟩
  obtain rfl : a = 23 := ea
  obtain rfl : H = (SH.take 24, zs i_v2, zt i_w0, i_r20) := eH.trans (q_nz (k := 23) (v := i_v2) (w := i_w0) (R := i_r20) (FZ_m (fz_22) (by decide)) rfl)
  refine ⟨rfl, 15, by decide, by decide, by decide, fun a H ea eH => ?_⟩
  obtain rfl : a = 24 := ea
  obtain rfl : H = (SH.take 25, zs i_v2, zt i_w0, i_r21) := eH.trans (q_nz (k := 24) (v := i_v2) (w := i_w0) (R := i_r21) (FZ_m (fz_23) (by decide)) rfl)
  exact ⟨rfl, hQ⟩
theorem c_Market (xs : List Int32) (Q : q_H → Prop) (hQ : Q (SH.take 25, zs i_v4, zt i_w1, i_r23)) : q_CallV (GG xs) PP 86 [.ref 15] (SH.take 16, zs i_v2, zt i_w0, i_r14) Q := by
  refine e_Market_init xs _ 15 _ ⟨8, by decide, by decide, by decide, fun a H ea eH => ?_⟩
  obtain rfl : a = 16 := ea
  obtain rfl : H = (SH.take 17, zs i_v2, zt i_w0, i_r14) := eH.trans (q_nz (k := 16) (v := i_v2) (w := i_w0) (R := i_r14) (FZ_m (fz_16) (by decide)) rfl)
  refine ⟨rfl, 3, by decide, by decide, by decide, fun a H ea eH => ?_⟩
  obtain rfl : a = 17 := ea
  obtain rfl : H = (SH.take 18, zs i_v2, zt i_w0, i_r15) := eH.trans (q_nz (k := 17) (v := i_v2) (w := i_w0) (R := i_r15) (FZ_m (fz_17) (by decide)) rfl)
  refine ⟨rfl, 24, by decide, by decide, by decide, fun a H ea eH => ?_⟩
  obtain rfl : a = 18 := ea
  obtain rfl : H = (SH.take 19, zs i_v2, zt i_w0, i_r16) := eH.trans (q_nz (k := 18) (v := i_v2) (w := i_w0) (R := i_r16) (FZ_m (fz_18) (by decide)) rfl)
  refine ⟨rfl, fun a H ea eH => ?_⟩
  obtain rfl : a = 19 := ea
  obtain rfl : H = (SH.take 20, zs i_v2, zt i_w0, i_r17) := eH.trans (q_nz (k := 19) (v := i_v2) (w := i_w0) (R := i_r17) (FZ_m (fz_19) (by decide)) rfl)
  refine c_Layer_19 xs _ ?_
  refine ⟨rfl, fun a H ea eH => ?_⟩
  obtain rfl : a = 22 := ea
  obtain rfl : H = (SH.take 23, zs i_v2, zt i_w0, i_r20) := eH.trans (q_nz (k := 22) (v := i_v2) (w := i_w0) (R := i_r20) (FZ_m (fz_22) (by decide)) rfl)
  refine c_Layer_22 xs _ ?_
  refine ⟨rfl, rfl, rfl, rfl, Or.inl rfl, ?_⟩
  show Q (SH.take 25, q_up (q_up (zs i_v2) 15 5 (64 : Int32)) 15 7 (0 : Int32), q_up (zt i_w0) 15 6 (0 : Int64), i_r23)
  rw [iz_3, iz_4, iy_1]
  exact hQ
theorem c_Unit_36 (xs : List Int32) (h : Int) (Q : q_H → Prop) (hQ : Q (SH.take 40, zs (i_v14 h), zt i_w1, i_r37)) : q_CallV (GG xs) PP 118 [.ref 36] (SH.take 37, zs (i_v6 h), zt i_w1, i_r34) Q := by
  refine e_Unit_init xs _ 36 _ ⟨rfl, rfl, rfl, rfl, rfl, rfl, rfl, 5, by decide, by decide, by decide, fun a H ea eH => ?_⟩
  obtain rfl : a = 37 := ea
  obtain rfl : H = (SH.take 38, zs (i_v13 h), zt i_w1, i_r34) := eH.trans (by
    show q_new (SH.take 37, q_up (q_up (q_up (q_up (q_up (q_up (q_up (zs (i_v6 h)) 36 0 (1 : Int32)) 36 1 (0 : Int32)) 36 2 (1 : Int32)) 36 3 (1 : Int32)) 36 4 (1 : Int32)) 36 5 (0 : Int32)) 36 6 (3 : Int32), zt i_w1, i_r34) (.inr (0, 5)) = _
    rw [iz_7 h, iz_8 h, iz_9 h, iz_10 h, iz_11 h, iz_12 h, iz_13 h]
    exact q_nz (FZ_m (fz_45 h) (by decide)) rfl)
  refine ⟨rfl, 3, by decide, by decide, by decide, fun a H ea eH => ?_⟩
  obtain rfl : a = 38 := ea
  obtain rfl : H = (SH.take 39, zs (i_v13 h), zt i_w1, i_r35) := eH.trans (q_nz (k := 38) (v := (i_v13 h)) (w := i_w1) (R := i_r35) (FZ_m (fz_46 h) (by decide)) rfl)
  refine ⟨rfl, 75, by decide, by decide, by decide, fun a H ea eH => ?_⟩
  obtain rfl : a = 39 := ea
  obtain rfl : H = (SH.take 40, zs (i_v13 h), zt i_w1, i_r36) := eH.trans (q_nz (k := 39) (v := (i_v13 h)) (w := i_w1) (R := i_r36) (FZ_m (fz_47 h) (by decide)) rfl)
  refine ⟨rfl, rfl, ?_⟩
  have hU : dU (i_v13 h) 36 := by
    unfold dU
    simp [i_v7, i_v8, i_v9, i_v10, i_v11, i_v12, i_v13, zu]
  exact Eq.mpr (d_fillNext xs (SH.take 40) (i_v13 h) i_w1 i_r37 36 ⟨rfl, rfl, rfl, rfl, rfl, rfl, rfl⟩ hU _) hQ
theorem c_Unit_40 (xs : List Int32) (h : Int) (Q : q_H → Prop) (hQ : Q (SH.take 44, zs (i_v22 h), zt i_w1, i_r41)) : q_CallV (GG xs) PP 118 [.ref 40] (SH.take 41, zs (i_v14 h), zt i_w1, i_r38) Q := by
  refine e_Unit_init xs _ 40 _ ⟨rfl, rfl, rfl, rfl, rfl, rfl, rfl, 5, by decide, by decide, by decide, fun a H ea eH => ?_⟩
  obtain rfl : a = 41 := ea
  obtain rfl : H = (SH.take 42, zs (i_v21 h), zt i_w1, i_r38) := eH.trans (by
    show q_new (SH.take 41, q_up (q_up (q_up (q_up (q_up (q_up (q_up (zs (i_v14 h)) 40 0 (1 : Int32)) 40 1 (0 : Int32)) 40 2 (1 : Int32)) 40 3 (1 : Int32)) 40 4 (1 : Int32)) 40 5 (0 : Int32)) 40 6 (3 : Int32), zt i_w1, i_r38) (.inr (0, 5)) = _
    rw [iz_15 h, iz_16 h, iz_17 h, iz_18 h, iz_19 h, iz_20 h, iz_21 h]
    exact q_nz (FZ_m (fz_57 h) (by decide)) rfl)
  refine ⟨rfl, 3, by decide, by decide, by decide, fun a H ea eH => ?_⟩
  obtain rfl : a = 42 := ea
  obtain rfl : H = (SH.take 43, zs (i_v21 h), zt i_w1, i_r39) := eH.trans (q_nz (k := 42) (v := (i_v21 h)) (w := i_w1) (R := i_r39) (FZ_m (fz_58 h) (by decide)) rfl)
  refine ⟨rfl, 75, by decide, by decide, by decide, fun a H ea eH => ?_⟩
  obtain rfl : a = 43 := ea
  obtain rfl : H = (SH.take 44, zs (i_v21 h), zt i_w1, i_r40) := eH.trans (q_nz (k := 43) (v := (i_v21 h)) (w := i_w1) (R := i_r40) (FZ_m (fz_59 h) (by decide)) rfl)
  refine ⟨rfl, rfl, ?_⟩
  have hU : dU (i_v21 h) 40 := by
    unfold dU
    simp [i_v15, i_v16, i_v17, i_v18, i_v19, i_v20, i_v21, zu]
  exact Eq.mpr (d_fillNext xs (SH.take 44) (i_v21 h) i_w1 i_r41 40 ⟨rfl, rfl, rfl, rfl, rfl, rfl, rfl⟩ hU _) hQ
theorem c_Unit_44 (xs : List Int32) (h : Int) (Q : q_H → Prop) (hQ : Q (SH.take 48, zs (i_v30 h), zt i_w1, i_r45)) : q_CallV (GG xs) PP 118 [.ref 44] (SH.take 45, zs (i_v22 h), zt i_w1, i_r42) Q := by
  refine e_Unit_init xs _ 44 _ ⟨rfl, rfl, rfl, rfl, rfl, rfl, rfl, 5, by decide, by decide, by decide, fun a H ea eH => ?_⟩
  obtain rfl : a = 45 := ea
  obtain rfl : H = (SH.take 46, zs (i_v29 h), zt i_w1, i_r42) := eH.trans (by
    show q_new (SH.take 45, q_up (q_up (q_up (q_up (q_up (q_up (q_up (zs (i_v22 h)) 44 0 (1 : Int32)) 44 1 (0 : Int32)) 44 2 (1 : Int32)) 44 3 (1 : Int32)) 44 4 (1 : Int32)) 44 5 (0 : Int32)) 44 6 (3 : Int32), zt i_w1, i_r42) (.inr (0, 5)) = _
    rw [iz_23 h, iz_24 h, iz_25 h, iz_26 h, iz_27 h, iz_28 h, iz_29 h]
    exact q_nz (FZ_m (fz_69 h) (by decide)) rfl)
  refine ⟨rfl, 3, by decide, by decide, by decide, fun a H ea eH => ?_⟩
  obtain rfl : a = 46 := ea
  obtain rfl : H = (SH.take 47, zs (i_v29 h), zt i_w1, i_r43) := eH.trans (q_nz (k := 46) (v := (i_v29 h)) (w := i_w1) (R := i_r43) (FZ_m (fz_70 h) (by decide)) rfl)
  refine ⟨rfl, 75, by decide, by decide, by decide, fun a H ea eH => ?_⟩
  obtain rfl : a = 47 := ea
  obtain rfl : H = (SH.take 48, zs (i_v29 h), zt i_w1, i_r44) := eH.trans (q_nz (k := 47) (v := (i_v29 h)) (w := i_w1) (R := i_r44) (FZ_m (fz_71 h) (by decide)) rfl)
  refine ⟨rfl, rfl, ?_⟩
  have hU : dU (i_v29 h) 44 := by
    unfold dU
    simp [i_v23, i_v24, i_v25, i_v26, i_v27, i_v28, i_v29, zu]
  exact Eq.mpr (d_fillNext xs (SH.take 48) (i_v29 h) i_w1 i_r45 44 ⟨rfl, rfl, rfl, rfl, rfl, rfl, rfl⟩ hU _) hQ
theorem c_Station (xs : List Int32) (h : Int) (Q : q_H → Prop) (hQ : Q (SH.take 48, zs (i_v30 h), zt i_w1, i_r46)) : q_CallV (GG xs) PP 105 [.ref 32, .int (zi h)] (SH.take 33, zs i_v4, zt i_w1, i_r31) Q := by
  refine e_Station_init xs _ 32 (zi h) _ ⟨rfl, 3, by decide, by decide, by decide, fun a H ea eH => ?_⟩
  obtain rfl : a = 33 := ea
  obtain rfl : H = (SH.take 34, zs i_v5, zt i_w1, i_r31) := eH.trans (by
    show q_new (SH.take 33, q_up (zs i_v4) 32 1 (0 : Int32), zt i_w1, i_r31) (.inr (3, 3)) = _
    rw [iz_5]
    exact q_nz (FZ_m (fz_34) (by decide)) rfl)
  refine ⟨rfl, 8, by decide, by decide, by decide, fun a H ea eH => ?_⟩
  obtain rfl : a = 34 := ea
  obtain rfl : H = (SH.take 35, zs i_v5, zt i_w1, i_r32) := eH.trans (q_nz (k := 34) (v := i_v5) (w := i_w1) (R := i_r32) (FZ_m (fz_35) (by decide)) rfl)
  refine ⟨rfl, 8, by decide, by decide, by decide, fun a H ea eH => ?_⟩
  obtain rfl : a = 35 := ea
  obtain rfl : H = (SH.take 36, zs i_v5, zt i_w1, i_r33) := eH.trans (q_nz (k := 35) (v := i_v5) (w := i_w1) (R := i_r33) (FZ_m (fz_36) (by decide)) rfl)
  refine ⟨rfl, rfl, ?_⟩
  show q_Rt (GG xs) PP 105 _ 40 [some (.ref 32), none, some (.int 0)] [] (SH.take 36, q_up (zs i_v5) 32 0 (zi h), zt i_w1, i_r34)
  rw [iz_6]
  refine b_Station_init_40 xs _ 32 0 _ ⟨fun z => absurd z (by decide), fun _ => ⟨rfl, 33, rfl, fun a H ea eH => ?_⟩⟩
  obtain rfl : a = 36 := ea
  obtain rfl : H = (SH.take 37, zs (i_v6 h), zt i_w1, i_r34) := eH.trans (q_nz (k := 36) (v := (i_v6 h)) (w := i_w1) (R := i_r34) (FZ_m (fz_38 h) (by decide)) rfl)
  refine c_Unit_36 xs h _ ?_
  refine ⟨3, 3, 6, _, 0, rfl, rfl, rfl, ⟨rfl, Nat.le_of_ble_eq_true rfl⟩, rfl, ?_⟩
  show q_Rt (GG xs) PP 105 _ 40 [some (.ref 32), none, some (.int 1)] [] (SH.take 40, zs (i_v14 h), zt i_w1, i_r38)
  refine b_Station_init_40 xs _ 32 1 _ ⟨fun z => absurd z (by decide), fun _ => ⟨rfl, 33, rfl, fun a H ea eH => ?_⟩⟩
  obtain rfl : a = 40 := ea
  obtain rfl : H = (SH.take 41, zs (i_v14 h), zt i_w1, i_r38) := eH.trans (q_nz (k := 40) (v := (i_v14 h)) (w := i_w1) (R := i_r38) (FZ_m (fz_50 h) (by decide)) rfl)
  refine c_Unit_40 xs h _ ?_
  refine ⟨3, 3, 6, _, 1, rfl, rfl, rfl, ⟨rfl, Nat.le_of_ble_eq_true rfl⟩, rfl, ?_⟩
  show q_Rt (GG xs) PP 105 _ 40 [some (.ref 32), none, some (.int 2)] [] (SH.take 44, zs (i_v22 h), zt i_w1, i_r42)
  refine b_Station_init_40 xs _ 32 2 _ ⟨fun z => absurd z (by decide), fun _ => ⟨rfl, 33, rfl, fun a H ea eH => ?_⟩⟩
  obtain rfl : a = 44 := ea
  obtain rfl : H = (SH.take 45, zs (i_v22 h), zt i_w1, i_r42) := eH.trans (q_nz (k := 44) (v := (i_v22 h)) (w := i_w1) (R := i_r42) (FZ_m (fz_62 h) (by decide)) rfl)
  refine c_Unit_44 xs h _ ?_
  refine ⟨3, 3, 6, _, 2, rfl, rfl, rfl, ⟨rfl, Nat.le_of_ble_eq_true rfl⟩, rfl, ?_⟩
  show q_Rt (GG xs) PP 105 _ 40 [some (.ref 32), none, some (.int 3)] [] (SH.take 48, zs (i_v30 h), zt i_w1, i_r46)
  exact b_Station_init_40 xs _ 32 3 _ ⟨fun _ => hQ, fun z => absurd (by decide) z⟩
theorem c_Desk (xs : List Int32) (X : Int) (hX : -2147483648 ≤ X ∧ X < 2147483648) {J : Nat → List (Option Value) → List Value → q_H → Prop} (hC : y_C (GG xs) PP (PP 0) J) (hm : ∀ ls st H, J 42 ls (.ref H.1.length :: st) (mnaH H) → J 38 ls (.int 24 :: .int 4 :: st) H) (hQ : J 79 [none, none] [] (SH.take 48, zs (i_v30 (hhr X)), zt i_w1, i_r47)) : J 0 [some (.ref 0), some (.int (zi X))] [] (SH.take 1, zs i_v0, zt i_w0, i_r0) := by
  refine y_Desk_init xs hC 0 (zi X) _ (fun a H ea eH => ?_)
  obtain rfl : a = 1 := ea
  obtain rfl : H = (SH.take 2, zs i_v0, zt i_w0, i_r0) := eH.trans (q_nz (k := 1) (v := i_v0) (w := i_w0) (R := i_r0) (FZ_m (fz_0) (by decide)) rfl)
  refine c_Planner xs _ ?_
  refine ⟨rfl, fun a H ea eH => ?_⟩
  obtain rfl : a = 15 := ea
  obtain rfl : H = (SH.take 16, zs i_v2, zt i_w0, i_r14) := eH.trans (q_nz (k := 15) (v := i_v2) (w := i_w0) (R := i_r14) (FZ_m (fz_16) (by decide)) rfl)
  refine c_Market xs _ ?_
  refine ⟨rfl, 24, by decide, by decide, by decide, fun a H ea eH => ?_⟩
  obtain rfl : a = 25 := ea
  obtain rfl : H = (SH.take 26, zs i_v4, zt i_w1, i_r24) := eH.trans (q_nz (k := 25) (v := i_v4) (w := i_w1) (R := i_r24) (FZ_m (fz_29) (by decide)) rfl)
  refine ⟨rfl, ?_⟩
  show J 38 _ _ (SH.take 26, zs i_v4, zt i_w1, i_r25)
  refine hm _ _ _ ?_
  rw [i_mna]
  refine y_Desk_init_42 xs hC 0 (zi X) 0 26 _ ?_
  refine ⟨rfl, 4, by decide, by decide, by decide, fun a H ea eH => ?_⟩
  obtain rfl : a = 31 := ea
  obtain rfl : H = (SH.take 32, zs i_v4, zt i_w1, i_r30) := eH.trans (q_nz (k := 31) (v := i_v4) (w := i_w1) (R := i_r30) (FZ_m (fz_32) (by decide)) rfl)
  refine ⟨rfl, fun a H ea eH => ?_⟩
  obtain rfl : a = 32 := ea
  obtain rfl : H = (SH.take 33, zs i_v4, zt i_w1, i_r31) := eH.trans (q_nz (k := 32) (v := i_v4) (w := i_w1) (R := i_r31) (FZ_m (fz_33) (by decide)) rfl)
  refine Eq.mpr (d_within xs X 1 8 _ hX (by decide) (by decide) _) ?_
  refine ⟨fun z => ?_, fun z => ?_⟩
  · have q : ¬ (1 ≤ X ∧ X ≤ 8) := fun q => by
      rw [zb, if_pos q] at z
      exact absurd z (by decide)
    have e : hhr X = 6 := if_neg q
    rw [e] at hQ
    exact c_Station xs 6 _ ⟨rfl, hQ⟩
  · have q : 1 ≤ X ∧ X ≤ 8 := by
      by_cases q : 1 ≤ X ∧ X ≤ 8
      · exact q
      · rw [zb, if_neg q] at z
        exact absurd rfl z
    have e : hhr X = X := if_pos q
    rw [e] at hQ
    exact c_Station xs X _ ⟨rfl, hQ⟩
theorem c_Mod (xs : List Int32) (h X : Int) (hX : -2147483648 ≤ X ∧ X < 2147483648) (Q : q_H → Prop) (hQ : Q (SH.take 69, zs (i_v32 h X), zt i_w1, i_r67)) : q_CallV (GG xs) PP 27 [.ref 48, .int (zi X)] (SH.take 49, zs (i_v30 h), zt i_w1, i_r47) Q := by
  refine e_Mod_init xs _ 48 (zi X) _ ⟨3, by decide, by decide, by decide, fun a H ea eH => ?_⟩
  obtain rfl : a = 49 := ea
  obtain rfl : H = (SH.take 50, zs (i_v30 h), zt i_w1, i_r47) := eH.trans (q_nz (k := 49) (v := (i_v30 h)) (w := i_w1) (R := i_r47) (FZ_m (fz_75 h) (by decide)) rfl)
  refine ⟨rfl, 3, by decide, by decide, by decide, fun a H ea eH => ?_⟩
  obtain rfl : a = 50 := ea
  obtain rfl : H = (SH.take 51, zs (i_v30 h), zt i_w1, i_r48) := eH.trans (q_nz (k := 50) (v := (i_v30 h)) (w := i_w1) (R := i_r48) (FZ_m (fz_76 h) (by decide)) rfl)
  refine ⟨rfl, 3, by decide, by decide, by decide, fun a H ea eH => ?_⟩
  obtain rfl : a = 51 := ea
  obtain rfl : H = (SH.take 52, zs (i_v30 h), zt i_w1, i_r49) := eH.trans (q_nz (k := 51) (v := (i_v30 h)) (w := i_w1) (R := i_r49) (FZ_m (fz_77 h) (by decide)) rfl)
  refine ⟨rfl, 3, by decide, by decide, by decide, fun a H ea eH => ?_⟩
  obtain rfl : a = 52 := ea
  obtain rfl : H = (SH.take 53, zs (i_v30 h), zt i_w1, i_r50) := eH.trans (q_nz (k := 52) (v := (i_v30 h)) (w := i_w1) (R := i_r50) (FZ_m (fz_78 h) (by decide)) rfl)
  refine ⟨rfl, 3, by decide, by decide, by decide, fun a H ea eH => ?_⟩
  obtain rfl : a = 53 := ea
  obtain rfl : H = (SH.take 54, zs (i_v30 h), zt i_w1, i_r51) := eH.trans (q_nz (k := 53) (v := (i_v30 h)) (w := i_w1) (R := i_r51) (FZ_m (fz_79 h) (by decide)) rfl)
  refine ⟨rfl, 12, by decide, by decide, by decide, fun a H ea eH => ?_⟩
  obtain rfl : a = 54 := ea
  obtain rfl : H = (SH.take 55, zs (i_v30 h), zt i_w1, i_r52) := eH.trans (q_nz (k := 54) (v := (i_v30 h)) (w := i_w1) (R := i_r52) (FZ_m (fz_80 h) (by decide)) rfl)
  refine ⟨rfl, 9, by decide, by decide, by decide, fun a H ea eH => ?_⟩
  obtain rfl : a = 55 := ea
  obtain rfl : H = (SH.take 56, zs (i_v30 h), zt i_w1, i_r53) := eH.trans (q_nz (k := 55) (v := (i_v30 h)) (w := i_w1) (R := i_r53) (FZ_m (fz_81 h) (by decide)) rfl)
  refine ⟨rfl, 3, by decide, by decide, by decide, fun a H ea eH => ?_⟩
  obtain rfl : a = 56 := ea
  obtain rfl : H = (SH.take 57, zs (i_v30 h), zt i_w1, i_r54) := eH.trans (q_nz (k := 56) (v := (i_v30 h)) (w := i_w1) (R := i_r54) (FZ_m (fz_82 h) (by decide)) rfl)
  refine ⟨rfl, 3, by decide, by decide, by decide, fun a H ea eH => ?_⟩
  obtain rfl : a = 57 := ea
  obtain rfl : H = (SH.take 58, zs (i_v30 h), zt i_w1, i_r55) := eH.trans (q_nz (k := 57) (v := (i_v30 h)) (w := i_w1) (R := i_r55) (FZ_m (fz_83 h) (by decide)) rfl)
  refine ⟨rfl, 8, by decide, by decide, by decide, fun a H ea eH => ?_⟩
  obtain rfl : a = 58 := ea
  obtain rfl : H = (SH.take 59, zs (i_v30 h), zt i_w1, i_r56) := eH.trans (q_nz (k := 58) (v := (i_v30 h)) (w := i_w1) (R := i_r56) (FZ_m (fz_84 h) (by decide)) rfl)
  refine ⟨rfl, 8, by decide, by decide, by decide, fun a H ea eH => ?_⟩
  obtain rfl : a = 59 := ea
  obtain rfl : H = (SH.take 60, zs (i_v30 h), zt i_w1, i_r57) := eH.trans (q_nz (k := 59) (v := (i_v30 h)) (w := i_w1) (R := i_r57) (FZ_m (fz_85 h) (by decide)) rfl)
  refine ⟨rfl, 24, by decide, by decide, by decide, fun a H ea eH => ?_⟩
  obtain rfl : a = 60 := ea
  obtain rfl : H = (SH.take 61, zs (i_v30 h), zt i_w1, i_r58) := eH.trans (q_nz (k := 60) (v := (i_v30 h)) (w := i_w1) (R := i_r58) (FZ_m (fz_86 h) (by decide)) rfl)
  refine ⟨rfl, 96, by decide, by decide, by decide, fun a H ea eH => ?_⟩
  obtain rfl : a = 61 := ea
  obtain rfl : H = (SH.take 62, zs (i_v30 h), zt i_w1, i_r59) := eH.trans (q_nz (k := 61) (v := (i_v30 h)) (w := i_w1) (R := i_r59) (FZ_m (fz_87 h) (by decide)) rfl)
  refine ⟨rfl, 4, by decide, by decide, by decide, fun a H ea eH => ?_⟩
  obtain rfl : a = 62 := ea
  obtain rfl : H = (SH.take 63, zs (i_v30 h), zt i_w1, i_r60) := eH.trans (q_nz (k := 62) (v := (i_v30 h)) (w := i_w1) (R := i_r60) (FZ_m (fz_88 h) (by decide)) rfl)
  refine ⟨rfl, 8, by decide, by decide, by decide, fun a H ea eH => ?_⟩
  obtain rfl : a = 63 := ea
  obtain rfl : H = (SH.take 64, zs (i_v30 h), zt i_w1, i_r61) := eH.trans (q_nz (k := 63) (v := (i_v30 h)) (w := i_w1) (R := i_r61) (FZ_m (fz_89 h) (by decide)) rfl)
  refine ⟨rfl, rfl, 30375, by decide, by decide, by decide, fun a H ea eH => ?_⟩
  obtain rfl : a = 64 := ea
  obtain rfl : H = (SH.take 65, zs (i_v31 h), zt i_w1, i_r62) := eH.trans (by
    show q_new (SH.take 64, q_up (zs (i_v30 h)) 48 18 (64 : Int32), zt i_w1, i_r62) (.inr (0, 30375)) = _
    rw [iz_31 h]
    exact q_nz (FZ_m (fz_91 h) (by decide)) rfl)
  refine ⟨rfl, 135, by decide, by decide, by decide, fun a H ea eH => ?_⟩
  obtain rfl : a = 65 := ea
  obtain rfl : H = (SH.take 66, zs (i_v31 h), zt i_w1, i_r63) := eH.trans (q_nz (k := 65) (v := (i_v31 h)) (w := i_w1) (R := i_r63) (FZ_m (fz_92 h) (by decide)) rfl)
  refine ⟨rfl, 24, by decide, by decide, by decide, fun a H ea eH => ?_⟩
  obtain rfl : a = 66 := ea
  obtain rfl : H = (SH.take 67, zs (i_v31 h), zt i_w1, i_r64) := eH.trans (q_nz (k := 66) (v := (i_v31 h)) (w := i_w1) (R := i_r64) (FZ_m (fz_93 h) (by decide)) rfl)
  refine ⟨rfl, 3, by decide, by decide, by decide, fun a H ea eH => ?_⟩
  obtain rfl : a = 67 := ea
  obtain rfl : H = (SH.take 68, zs (i_v31 h), zt i_w1, i_r65) := eH.trans (q_nz (k := 67) (v := (i_v31 h)) (w := i_w1) (R := i_r65) (FZ_m (fz_94 h) (by decide)) rfl)
  refine ⟨rfl, 375, by decide, by decide, by decide, fun a H ea eH => ?_⟩
  obtain rfl : a = 68 := ea
  obtain rfl : H = (SH.take 69, zs (i_v31 h), zt i_w1, i_r66) := eH.trans (q_nz (k := 68) (v := (i_v31 h)) (w := i_w1) (R := i_r66) (FZ_m (fz_95 h) (by decide)) rfl)
  have e6 : ¬ (1 ≤ X ∧ X ≤ 8) → q_up (zs (i_v31 h)) 48 1 (6 : Int32) = zs (i_v32 h X) := fun q => by
    have e : hhr X = 6 := if_neg q
    unfold i_v32
    rw [e]
    exact zs_un _ 48 1 6
  have e1 : (1 ≤ X ∧ X ≤ 8) → q_up (zs (i_v31 h)) 48 1 (zi X) = zs (i_v32 h X) := fun q => by
    have e : hhr X = X := if_pos q
    unfold i_v32
    rw [e]
    exact zs_un _ 48 1 X
  have l1 : ∀ z : zi X < (1 : Int32), X < 1 := fun z => by
    rw [show (1 : Int32) = zi 1 from rfl, zi_lt hX.1 hX.2 (by decide) (by decide)] at z
    exact z
  have l2 : ∀ z : (8 : Int32) < zi X, 8 < X := fun z => by
    rw [show (8 : Int32) = zi 8 from rfl, zi_lt (by decide) (by decide) hX.1 hX.2] at z
    exact z
  have l3 : ¬ zi X < (1 : Int32) → 1 ≤ X := fun z => by
    rw [show (1 : Int32) = zi 1 from rfl, zi_lt hX.1 hX.2 (by decide) (by decide)] at z
    omega
  have l4 : ¬ (8 : Int32) < zi X → X ≤ 8 := fun z => by
    rw [show (8 : Int32) = zi 8 from rfl, zi_lt (by decide) (by decide) hX.1 hX.2] at z
    omega
  refine ⟨rfl, fun z => ⟨rfl, ?_⟩, fun z => ⟨fun z2 => ⟨rfl, ?_⟩, fun z2 => ⟨rfl, ?_⟩⟩⟩
  · show Q (SH.take 69, q_up (zs (i_v31 h)) 48 1 (6 : Int32), zt i_w1, i_r67)
    rw [e6 (fun q => by have := l1 z; omega)]
    exact hQ
  · show Q (SH.take 69, q_up (zs (i_v31 h)) 48 1 (6 : Int32), zt i_w1, i_r67)
    rw [e6 (fun q => by have := l2 z2; omega)]
    exact hQ
  · show Q (SH.take 69, q_up (zs (i_v31 h)) 48 1 (zi X), zt i_w1, i_r67)
    rw [e1 ⟨l3 z, l4 z2⟩]
    exact hQ
theorem wr_up {n a c b : Nat} {R : Nat → Nat → Option Nat} (h : ∀ i j r, R i j = some r → r < n) (hb : b < n) : ∀ i j r, q_up R a c (some b) i j = some r → r < n := fun i j r hr => by
  unfold q_up at hr
  split at hr
  · cases hr
    exact hb
  · exact h i j r hr
theorem wr_0 : ∀ i j r, i_r0 i j = some r → r < 48 := fun i j r hr => by cases hr
theorem wr_1 : ∀ i j r, i_r1 i j = some r → r < 48 := wr_up wr_0 (by decide)
theorem wr_2 : ∀ i j r, i_r2 i j = some r → r < 48 := wr_up wr_1 (by decide)
theorem wr_3 : ∀ i j r, i_r3 i j = some r → r < 48 := wr_up wr_2 (by decide)
theorem wr_4 : ∀ i j r, i_r4 i j = some r → r < 48 := wr_up wr_3 (by decide)
theorem wr_5 : ∀ i j r, i_r5 i j = some r → r < 48 := wr_up wr_4 (by decide)
theorem wr_6 : ∀ i j r, i_r6 i j = some r → r < 48 := wr_up wr_5 (by decide)
theorem wr_7 : ∀ i j r, i_r7 i j = some r → r < 48 := wr_up wr_6 (by decide)
theorem wr_8 : ∀ i j r, i_r8 i j = some r → r < 48 := wr_up wr_7 (by decide)
theorem wr_9 : ∀ i j r, i_r9 i j = some r → r < 48 := wr_up wr_8 (by decide)
theorem wr_10 : ∀ i j r, i_r10 i j = some r → r < 48 := wr_up wr_9 (by decide)
theorem wr_11 : ∀ i j r, i_r11 i j = some r → r < 48 := wr_up wr_10 (by decide)
theorem wr_12 : ∀ i j r, i_r12 i j = some r → r < 48 := wr_up wr_11 (by decide)
theorem wr_13 : ∀ i j r, i_r13 i j = some r → r < 48 := wr_up wr_12 (by decide)
theorem wr_14 : ∀ i j r, i_r14 i j = some r → r < 48 := wr_up wr_13 (by decide)
theorem wr_15 : ∀ i j r, i_r15 i j = some r → r < 48 := wr_up wr_14 (by decide)
theorem wr_16 : ∀ i j r, i_r16 i j = some r → r < 48 := wr_up wr_15 (by decide)
theorem wr_17 : ∀ i j r, i_r17 i j = some r → r < 48 := wr_up wr_16 (by decide)
theorem wr_18 : ∀ i j r, i_r18 i j = some r → r < 48 := wr_up wr_17 (by decide)
theorem wr_19 : ∀ i j r, i_r19 i j = some r → r < 48 := wr_up wr_18 (by decide)
theorem wr_20 : ∀ i j r, i_r20 i j = some r → r < 48 := wr_up wr_19 (by decide)
theorem wr_21 : ∀ i j r, i_r21 i j = some r → r < 48 := wr_up wr_20 (by decide)
theorem wr_22 : ∀ i j r, i_r22 i j = some r → r < 48 := wr_up wr_21 (by decide)
theorem wr_23 : ∀ i j r, i_r23 i j = some r → r < 48 := wr_up wr_22 (by decide)
theorem wr_24 : ∀ i j r, i_r24 i j = some r → r < 48 := wr_up wr_23 (by decide)
theorem wr_25 : ∀ i j r, i_r25 i j = some r → r < 48 := wr_up wr_24 (by decide)
theorem wr_26 : ∀ i j r, i_r26 i j = some r → r < 48 := wr_up wr_25 (by decide)
theorem wr_27 : ∀ i j r, i_r27 i j = some r → r < 48 := wr_up wr_26 (by decide)
theorem wr_28 : ∀ i j r, i_r28 i j = some r → r < 48 := wr_up wr_27 (by decide)
theorem wr_29 : ∀ i j r, i_r29 i j = some r → r < 48 := wr_up wr_28 (by decide)
theorem wr_30 : ∀ i j r, i_r30 i j = some r → r < 48 := wr_up wr_29 (by decide)
theorem wr_31 : ∀ i j r, i_r31 i j = some r → r < 48 := wr_up wr_30 (by decide)
theorem wr_32 : ∀ i j r, i_r32 i j = some r → r < 48 := wr_up wr_31 (by decide)
theorem wr_33 : ∀ i j r, i_r33 i j = some r → r < 48 := wr_up wr_32 (by decide)
theorem wr_34 : ∀ i j r, i_r34 i j = some r → r < 48 := wr_up wr_33 (by decide)
theorem wr_35 : ∀ i j r, i_r35 i j = some r → r < 48 := wr_up wr_34 (by decide)
theorem wr_36 : ∀ i j r, i_r36 i j = some r → r < 48 := wr_up wr_35 (by decide)
theorem wr_37 : ∀ i j r, i_r37 i j = some r → r < 48 := wr_up wr_36 (by decide)
theorem wr_38 : ∀ i j r, i_r38 i j = some r → r < 48 := wr_up wr_37 (by decide)
theorem wr_39 : ∀ i j r, i_r39 i j = some r → r < 48 := wr_up wr_38 (by decide)
theorem wr_40 : ∀ i j r, i_r40 i j = some r → r < 48 := wr_up wr_39 (by decide)
theorem wr_41 : ∀ i j r, i_r41 i j = some r → r < 48 := wr_up wr_40 (by decide)
theorem wr_42 : ∀ i j r, i_r42 i j = some r → r < 48 := wr_up wr_41 (by decide)
theorem wr_43 : ∀ i j r, i_r43 i j = some r → r < 48 := wr_up wr_42 (by decide)
theorem wr_44 : ∀ i j r, i_r44 i j = some r → r < 48 := wr_up wr_43 (by decide)
theorem wr_45 : ∀ i j r, i_r45 i j = some r → r < 48 := wr_up wr_44 (by decide)
theorem wr_46 : ∀ i j r, i_r46 i j = some r → r < 48 := wr_up wr_45 (by decide)
theorem wr_47 : ∀ i j r, i_r47 i j = some r → r < 48 := wr_up wr_46 (by decide)
theorem wr_H48 (h : Int) : q_wfh (i_H48 h) := fun i j r hr => wr_47 i j r hr
abbrev i_v (h X : Int) : Nat → Int → Int := i_v32 h X
abbrev i_w : Nat → Int → Int := i_w1
abbrev i_r : Nat → Nat → Option Nat := i_r67
theorem fzH48 (h : Int) : FZ 48 (i_v30 h) i_w1 i_r47 := FZ_m (fz_75 h) (by decide)
theorem fzH69 (h X : Int) : FZ 69 (i_v h X) i_w i_r := FZ_m (fz_97 h X) (by decide)
