/-! A call has one outcome: contracts as equations. -/
theorem q_x_det {G : q_G} {P : Nat → q_M} {n m k pc : Nat} {ls : List (Option Value)} {st : List Value} {H : q_H} {z z' : Nat × List Value × q_H} (h : q_x G P n k pc ls st H = some z) (h' : q_x G P m k pc ls st H = some z') : z = z' := by
  have a := q_x_le (Nat.le_max_left n m) h
  have b := q_x_le (Nat.le_max_right n m) h'
  rw [a] at b
  exact Option.some.inj b
theorem q_Ex.det {G : q_G} {P : Nat → q_M} {k pc : Nat} {ls : List (Option Value)} {st : List Value} {H : q_H} {F F' : Option Value → q_H → Prop} (h : q_Ex G P k pc ls st H (q_Fr P k F)) (h' : q_Ex G P k pc ls st H (q_Fr P k F')) : ∃ v H', F v H' ∧ F' v H' := by
  obtain ⟨n, z, h1, v, h2, h3⟩ := h
  obtain ⟨m, z', g1, v', g2, g3⟩ := h'
  have e := q_x_det h1 g1
  subst e
  have e2 : v = v' := by
    rw [h2] at g2
    exact Option.some.inj g2
  subst e2
  exact ⟨v, _, h3, g3⟩
theorem q_Call.det {G : q_G} {P : Nat → q_M} {k : Nat} {as : List Value} {H : q_H} {F F' : Option Value → q_H → Prop} (h : q_Call G P k as H F) (h' : q_Call G P k as H F') : ∃ v H', F v H' ∧ F' v H' := q_Ex.det h.2 h'.2
theorem cI {G : q_G} {P : Nat → q_M} {k : Nat} {as : List Value} {H : q_H} {r : Int32} {H0 : q_H} (h : ∀ Q : Int32 → q_H → Prop, Q r H0 → q_CallI G P k as H Q) (Q : Int32 → q_H → Prop) : q_CallI G P k as H Q = Q r H0 := by
  refine propext ⟨fun a => ?_, h Q⟩
  obtain ⟨v, H', h1, h2⟩ := q_Call.det a (h (fun x y => x = r ∧ y = H0) ⟨rfl, rfl⟩)
  match v, h1, h2 with
  | some (.int x), h1, ⟨e1, e2⟩ => subst e1; subst e2; exact h1
theorem cL {G : q_G} {P : Nat → q_M} {k : Nat} {as : List Value} {H : q_H} {r : Int64} {H0 : q_H} (h : ∀ Q : Int64 → q_H → Prop, Q r H0 → q_CallL G P k as H Q) (Q : Int64 → q_H → Prop) : q_CallL G P k as H Q = Q r H0 := by
  refine propext ⟨fun a => ?_, h Q⟩
  obtain ⟨v, H', h1, h2⟩ := q_Call.det a (h (fun x y => x = r ∧ y = H0) ⟨rfl, rfl⟩)
  match v, h1, h2 with
  | some (.long x), h1, ⟨e1, e2⟩ => subst e1; subst e2; exact h1
theorem cV {G : q_G} {P : Nat → q_M} {k : Nat} {as : List Value} {H : q_H} {H0 : q_H} (h : ∀ Q : q_H → Prop, Q H0 → q_CallV G P k as H Q) (Q : q_H → Prop) : q_CallV G P k as H Q = Q H0 := by
  refine propext ⟨fun a => ?_, h Q⟩
  obtain ⟨v, H', h1, h2⟩ := q_Call.det a (h (fun y => y = H0) rfl)
  match v, h1, h2 with
  | none, h1, e2 => subst e2; exact h1
theorem cR {G : q_G} {P : Nat → q_M} {k pc : Nat} {ls : List (Option Value)} {st : List Value} {H : q_H} {v : Option Value} {H0 : q_H} (h : ∀ F : Option Value → q_H → Prop, F v H0 → q_Rt G P k F pc ls st H) (F : Option Value → q_H → Prop) : q_Rt G P k F pc ls st H = F v H0 := by
  refine propext ⟨fun a => ?_, h F⟩
  obtain ⟨v', H', h1, e1, e2⟩ := q_Ex.det a (h (fun x y => x = v ∧ y = H0) ⟨rfl, rfl⟩)
  subst e1
  subst e2
  exact h1
/-- out of a contract with many outcomes: the one that there is -/
theorem q_Call.one {G : q_G} {P : Nat → q_M} {k : Nat} {as : List Value} {H : q_H} {F : Option Value → q_H → Prop} (h : q_Call G P k as H F) : ∃ v H0, F v H0 ∧ ∀ F', q_Call G P k as H F' = F' v H0 := by
  obtain ⟨hle, n, z, hx, v, hv, hF⟩ := h
  refine ⟨v, z.2.2, hF, fun F' => propext ⟨fun a => ?_, fun a => ⟨hle, n, z, hx, v, hv, a⟩⟩⟩
  obtain ⟨-, m, z', gx, v', gv, gF⟩ := a
  have e := q_x_det hx gx
  subst e
  have e2 : v = v' := by
    rw [hv] at gv
    exact Option.some.inj gv
  subst e2
  exact gF
theorem cVx {G : q_G} {P : Nat → q_M} {k : Nat} {as : List Value} {H : q_H} {A : q_H → Prop} (h : q_CallV G P k as H A) : ∃ H0, A H0 ∧ ∀ Q, q_CallV G P k as H Q = Q H0 := by
  obtain ⟨v, H0, a, b⟩ := q_Call.one h
  match v, a, b with
  | none, a, b => exact ⟨H0, a, fun Q => b (q_FV Q)⟩
theorem fI {Q : Int32 → q_H → Prop} {x : Int32} {H : q_H} : q_FI Q (some (.int x)) H = Q x H := rfl
theorem fL {Q : Int64 → q_H → Prop} {x : Int64} {H : q_H} : q_FL Q (some (.long x)) H = Q x H := rfl
theorem fV {Q : q_H → Prop} {H : q_H} : q_FV Q none H = Q H := rfl
/-! The heap's ints and longs as whole numbers. -/
def zs (v : Nat → Int → Int) : Nat → Nat → Int32 := fun a j => zi (v a j)
def zt (w : Nat → Int → Int) : Nat → Nat → Int64 := fun a j => zl (w a j)
def zu {α : Type} (v : Nat → Int → α) (a : Nat) (e : Int) (x : α) : Nat → Int → α := fun b j => if b = a ∧ j = e then x else v b j
theorem zs_at (v : Nat → Int → Int) (a n : Nat) : zs v a (OfNat.ofNat n) = zi (v a (OfNat.ofNat n)) := rfl
theorem zs_aT {v : Nat → Int → Int} {a : Nat} {e : Int} (h : 0 ≤ e) : zs v a e.toNat = zi (v a e) := by
  show zi (v a (e.toNat : Int)) = _
  rw [Int.toNat_of_nonneg h]
theorem zt_at (v : Nat → Int → Int) (a n : Nat) : zt v a (OfNat.ofNat n) = zl (v a (OfNat.ofNat n)) := rfl
theorem zt_aT {v : Nat → Int → Int} {a : Nat} {e : Int} (h : 0 ≤ e) : zt v a e.toNat = zl (v a e) := by
  show zl (v a (e.toNat : Int)) = _
  rw [Int.toNat_of_nonneg h]
theorem zs_un (v : Nat → Int → Int) (a n : Nat) (x : Int) : q_up (zs v) a n (zi x) = zs (zu v a (n : Int) x) := by
  funext b j
  simp only [q_up, zs, zu, Int.ofNat_inj]
  split <;> rfl
theorem zt_un (v : Nat → Int → Int) (a n : Nat) (x : Int) : q_up (zt v) a n (zl x) = zt (zu v a (n : Int) x) := by
  funext b j
  simp only [q_up, zt, zu, Int.ofNat_inj]
  split <;> rfl
theorem zs_up (v : Nat → Int → Int) (a n : Nat) (x : Int) : q_up (zs v) a (OfNat.ofNat n) (zi x) = zs (zu v a (OfNat.ofNat n) x) := zs_un v a n x
theorem zt_up (v : Nat → Int → Int) (a n : Nat) (x : Int) : q_up (zt v) a (OfNat.ofNat n) (zl x) = zt (zu v a (OfNat.ofNat n) x) := zt_un v a n x
theorem zs_uT {v : Nat → Int → Int} {a : Nat} {e x : Int} (h : 0 ≤ e) : q_up (zs v) a e.toNat (zi x) = zs (zu v a e x) := by
  rw [zs_un, Int.toNat_of_nonneg h]
theorem zt_uT {v : Nat → Int → Int} {a : Nat} {e x : Int} (h : 0 ≤ e) : q_up (zt v) a e.toNat (zl x) = zt (zu v a e x) := by
  rw [zt_un, Int.toNat_of_nonneg h]
theorem zu_a {α : Type} {v : Nat → Int → α} {a b : Nat} {e j : Int} {x : α} (h : b ≠ a) : zu v a e x b j = v b j := by
  simp only [zu, h, false_and, if_false]
theorem zu_j {α : Type} {v : Nat → Int → α} {a b : Nat} {e j : Int} {x : α} (h : j ≠ e) : zu v a e x b j = v b j := by
  simp only [zu, h, and_false, if_false]
theorem zu_e {α : Type} {v : Nat → Int → α} {a : Nat} {e j : Int} {x : α} (h : j = e) : zu v a e x a j = x := by
  simp only [zu, h, and_self, if_true]
theorem zu_row {α : Type} {v : Nat → Int → α} {a b : Nat} {e : Int} {x : α} (h : b ≠ a) : zu v a e x b = v b := by
  funext j
  exact zu_a h
def zn (a : Int) : Nat := a.toNat
theorem zn_c {a : Int} (h : 0 ≤ a) : ((zn a : Nat) : Int) = a := Int.toNat_of_nonneg h
theorem zix {a : Int} {n : Nat} (h1 : 0 ≤ a) (h2 : a < n) (h3 : a < 2147483648) : q_ix (zi a) n = some (zn a) := zi_ix h1 h2 h3
theorem zl_lit (n : Nat) : (OfNat.ofNat n : Int64) = zl n := by
  unfold zl
  exact (Int64.ofInt_eq_ofNat).symm
theorem zl_neg (a : Int) : -zl a = zl (-a) := (Int64.ofInt_neg a).symm
def zb (p : Prop) [Decidable p] : Int32 := zi (if p then 1 else 0)
theorem zb0 {p : Prop} [Decidable p] : (zb p = zi 0) = ¬ p := by
  unfold zb
  by_cases h : p <;> simp [h, zi_eq]
theorem zb1 {p : Prop} [Decidable p] : (zb p = zi 1) = p := by
  unfold zb
  by_cases h : p <;> simp [h, zi_eq]
theorem zbT {p : Prop} [Decidable p] (h : p) : zi 1 = zb p := by
  unfold zb
  rw [if_pos h]
theorem zbF {p : Prop} [Decidable p] (h : ¬ p) : zi 0 = zb p := by
  unfold zb
  rw [if_neg h]
theorem zb_iff {p q : Prop} [Decidable p] [Decidable q] (h : p ↔ q) : zb p = zb q := by
  unfold zb
  by_cases hp : p
  · rw [if_pos hp, if_pos (h.mp hp)]
  · rw [if_neg hp, if_neg (fun hq => hp (h.mpr hq))]
theorem i_leT {a b : Int} (h : a ≤ b) : (a ≤ b) = True := eq_true h
theorem i_leF {a b : Int} (h : b < a) : (a ≤ b) = False := eq_false (by omega)
theorem i_ltT {a b : Int} (h : a < b) : (a < b) = True := eq_true h
theorem i_ltF {a b : Int} (h : b ≤ a) : (a < b) = False := eq_false (by omega)
theorem i_eqF {a b : Int} (h : a < b ∨ b < a) : (a = b) = False := eq_false (by omega)
theorem i_eqT {a b : Int} (h : a = b) : (a = b) = True := eq_true h
theorem lg_geI {a b : Int} (h1 : -9223372036854775808 ≤ a) (h2 : a < 9223372036854775808) (h3 : -9223372036854775808 ≤ b) (h4 : b < 9223372036854775808) : (zi 0 ≤ lg_cmp (zl a) (zl b)) = (b ≤ a) := by
  have := lg_ge (zl a) (zl b)
  rw [show (0 : Int32) = zi 0 from rfl, zl_lt h1 h2 h3 h4] at this
  rw [this]
  exact propext Int.not_lt
theorem lg_eqI {a b : Int} (h1 : -9223372036854775808 ≤ a) (h2 : a < 9223372036854775808) (h3 : -9223372036854775808 ≤ b) (h4 : b < 9223372036854775808) : (lg_cmp (zl a) (zl b) = zi 0) = (a = b) := by
  have := lg_eq (zl a) (zl b)
  rw [show (0 : Int32) = zi 0 from rfl, zl_eq h1 h2 h3 h4] at this
  exact propext this
/-- downward: what holds at n and goes down a step at a time -/
theorem zdown {n : Int} (T : Int → Prop) (h0 : T n) (hs : ∀ k, 0 ≤ k → k < n → T (k + 1) → T k) : ∀ k, 0 ≤ k → k ≤ n → T k := by
  have : ∀ (m : Nat) (k : Int), 0 ≤ k → k + m = n → T k := by
    intro m
    induction m with
    | zero => intro k _ e; rw [show k = n by omega]; exact h0
    | succ m ih => intro k h e; exact hs k h (by omega) (ih (k + 1) (by omega) (by omega))
  exact fun k h1 h2 => this (n - k).toNat k h1 (by omega)
theorem zup {n : Int} (T : Int → Prop) (h0 : T 0) (hs : ∀ k, 0 ≤ k → k < n → T k → T (k + 1)) : ∀ k, 0 ≤ k → k ≤ n → T k := by
  have : ∀ (m : Nat), (m : Int) ≤ n → T m := by
    intro m
    induction m with
    | zero => intro _; exact h0
    | succ m ih => intro e; exact hs m (by omega) (by omega) (ih (by omega))
  exact fun k h1 h2 => by
    have := this k.toNat (by omega)
    rwa [Int.toNat_of_nonneg h1] at this
abbrev LM (sh : List q_Sh) (R : Nat → Nat → Option Nat) : Prop := sh[(48 : Nat)]? = some (.inl 7) ∧ sh[(49 : Nat)]? = some (.inr (0, 3)) ∧ sh[(50 : Nat)]? = some (.inr (0, 3)) ∧ sh[(51 : Nat)]? = some (.inr (0, 3)) ∧ sh[(52 : Nat)]? = some (.inr (0, 3)) ∧ sh[(53 : Nat)]? = some (.inr (0, 3)) ∧ sh[(54 : Nat)]? = some (.inr (0, 12)) ∧ sh[(55 : Nat)]? = some (.inr (0, 9)) ∧ sh[(56 : Nat)]? = some (.inr (0, 3)) ∧ sh[(57 : Nat)]? = some (.inr (0, 3)) ∧ sh[(58 : Nat)]? = some (.inr (0, 8)) ∧ sh[(59 : Nat)]? = some (.inr (0, 8)) ∧ sh[(60 : Nat)]? = some (.inr (0, 24)) ∧ sh[(61 : Nat)]? = some (.inr (0, 96)) ∧ sh[(62 : Nat)]? = some (.inr (2, 4)) ∧ sh[(63 : Nat)]? = some (.inr (0, 8)) ∧ sh[(64 : Nat)]? = some (.inr (0, 30375)) ∧ sh[(65 : Nat)]? = some (.inr (1, 135)) ∧ sh[(66 : Nat)]? = some (.inr (0, 24)) ∧ sh[(67 : Nat)]? = some (.inr (1, 3)) ∧ sh[(68 : Nat)]? = some (.inr (0, 375)) ∧ R 48 3 = some 49 ∧ R 48 4 = some 50 ∧ R 48 5 = some 51 ∧ R 48 6 = some 52 ∧ R 48 7 = some 53 ∧ R 48 8 = some 54 ∧ R 48 9 = some 55 ∧ R 48 10 = some 56 ∧ R 48 11 = some 57 ∧ R 48 12 = some 58 ∧ R 48 13 = some 59 ∧ R 48 14 = some 60 ∧ R 48 15 = some 61 ∧ R 48 16 = some 62 ∧ R 48 17 = some 63 ∧ R 48 20 = some 64 ∧ R 48 21 = some 65 ∧ R 48 22 = some 66 ∧ R 48 23 = some 67 ∧ R 48 25 = some 68
abbrev LD (sh : List q_Sh) (R : Nat → Nat → Option Nat) : Prop := sh[(0 : Nat)]? = some (.inl 0) ∧ sh[(1 : Nat)]? = some (.inl 4) ∧ sh[(2 : Nat)]? = some (.inl 1) ∧ sh[(3 : Nat)]? = some (.inl 2) ∧ sh[(4 : Nat)]? = some (.inr (1, 675)) ∧ sh[(5 : Nat)]? = some (.inr (1, 675)) ∧ sh[(6 : Nat)]? = some (.inr (0, 25)) ∧ sh[(7 : Nat)]? = some (.inr (0, 75)) ∧ sh[(8 : Nat)]? = some (.inl 1) ∧ sh[(9 : Nat)]? = some (.inl 2) ∧ sh[(10 : Nat)]? = some (.inr (1, 675)) ∧ sh[(11 : Nat)]? = some (.inr (1, 675)) ∧ sh[(12 : Nat)]? = some (.inr (0, 25)) ∧ sh[(13 : Nat)]? = some (.inr (0, 75)) ∧ sh[(14 : Nat)]? = some (.inr (0, 3)) ∧ sh[(15 : Nat)]? = some (.inl 3) ∧ sh[(16 : Nat)]? = some (.inr (0, 8)) ∧ sh[(17 : Nat)]? = some (.inr (1, 3)) ∧ sh[(18 : Nat)]? = some (.inr (0, 24)) ∧ sh[(19 : Nat)]? = some (.inl 2) ∧ sh[(20 : Nat)]? = some (.inr (1, 15)) ∧ sh[(21 : Nat)]? = some (.inr (1, 15)) ∧ sh[(22 : Nat)]? = some (.inl 2) ∧ sh[(23 : Nat)]? = some (.inr (1, 15)) ∧ sh[(24 : Nat)]? = some (.inr (1, 15)) ∧ sh[(25 : Nat)]? = some (.inr (0, 24)) ∧ sh[(26 : Nat)]? = some (.inr (4, 4)) ∧ sh[(27 : Nat)]? = some (.inr (0, 24)) ∧ sh[(28 : Nat)]? = some (.inr (0, 24)) ∧ sh[(29 : Nat)]? = some (.inr (0, 24)) ∧ sh[(30 : Nat)]? = some (.inr (0, 24)) ∧ sh[(31 : Nat)]? = some (.inr (2, 4)) ∧ sh[(32 : Nat)]? = some (.inl 5) ∧ sh[(33 : Nat)]? = some (.inr (3, 3)) ∧ sh[(34 : Nat)]? = some (.inr (0, 8)) ∧ sh[(35 : Nat)]? = some (.inr (0, 8)) ∧ sh[(36 : Nat)]? = some (.inl 6) ∧ sh[(37 : Nat)]? = some (.inr (0, 5)) ∧ sh[(38 : Nat)]? = some (.inr (0, 3)) ∧ sh[(39 : Nat)]? = some (.inr (0, 75)) ∧ sh[(40 : Nat)]? = some (.inl 6) ∧ sh[(41 : Nat)]? = some (.inr (0, 5)) ∧ sh[(42 : Nat)]? = some (.inr (0, 3)) ∧ sh[(43 : Nat)]? = some (.inr (0, 75)) ∧ sh[(44 : Nat)]? = some (.inl 6) ∧ sh[(45 : Nat)]? = some (.inr (0, 5)) ∧ sh[(46 : Nat)]? = some (.inr (0, 3)) ∧ sh[(47 : Nat)]? = some (.inr (0, 75)) ∧ R 0 1 = some 1 ∧ R 3 0 = some 4 ∧ R 3 1 = some 5 ∧ R 2 0 = some 3 ∧ R 2 1 = some 6 ∧ R 2 2 = some 7 ∧ R 9 0 = some 10 ∧ R 9 1 = some 11 ∧ R 8 0 = some 9 ∧ R 8 1 = some 12 ∧ R 8 2 = some 13 ∧ R 1 2 = some 14 ∧ R 0 2 = some 15 ∧ R 15 0 = some 16 ∧ R 15 1 = some 17 ∧ R 15 2 = some 18 ∧ R 19 0 = some 20 ∧ R 19 1 = some 21 ∧ R 22 0 = some 23 ∧ R 22 1 = some 24 ∧ R 0 3 = some 25 ∧ R 0 4 = some 26 ∧ R 26 0 = some 27 ∧ R 26 1 = some 28 ∧ R 26 2 = some 29 ∧ R 26 3 = some 30 ∧ R 0 5 = some 31 ∧ R 0 0 = some 32 ∧ R 32 2 = some 33 ∧ R 32 3 = some 34 ∧ R 32 4 = some 35 ∧ R 33 0 = some 36 ∧ R 36 7 = some 37 ∧ R 36 8 = some 38 ∧ R 36 9 = some 39 ∧ R 33 1 = some 40 ∧ R 40 7 = some 41 ∧ R 40 8 = some 42 ∧ R 40 9 = some 43 ∧ R 33 2 = some 44 ∧ R 44 7 = some 45 ∧ R 44 8 = some 46 ∧ R 44 9 = some 47
theorem zs_ar (v : Nat → Int → Int) (a n : Nat) : zs v a n = zi (v a (n : Int)) := rfl
theorem zt_ar (v : Nat → Int → Int) (a n : Nat) : zt v a n = zl (v a (n : Int)) := rfl
theorem zi_c0 : zi 0 &&& zi 1 = zi 0 := by decide
theorem zi_c1 : zi 1 &&& zi 1 = zi 1 := by decide
theorem zb_c (p : Prop) [Decidable p] : zb p &&& zi 1 = zb p := by
  unfold zb
  by_cases h : p <;> simp only [h, if_true, if_false, zi_c0, zi_c1]
theorem zb0' {p : Prop} [Decidable p] : (zi 0 = zb p) = ¬ p := (propext eq_comm).trans zb0
theorem zb1' {p : Prop} [Decidable p] : (zi 1 = zb p) = p := (propext eq_comm).trans zb1
theorem zb_if (p : Prop) [Decidable p] : zi (if p then 1 else 0) = zb p := rfl
theorem zbTr {p : Prop} [Decidable p] (h : p) : zb p = zi 1 := (zbT h).symm
theorem zbFa {p : Prop} [Decidable p] (h : ¬ p) : zb p = zi 0 := (zbF h).symm
