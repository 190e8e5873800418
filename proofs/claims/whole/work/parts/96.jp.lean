/-! The reference's joint plan: values, the first way, the table. -/
def rWv (v : Nat → Int → Int) (as : Prop) [Decidable as] (hrs : Int) : Nat → Int → Int
  | 0 => fun _ => 0
  | r + 1 => fun all => lbv v (rWv v as hrs r) all (RFLn v as (hrs - (r + 1 : Nat)) 125)
/-- the first of the ways from i on, of n, that comes to m -/
abbrev jok (v : Nat → Int → Int) (V : Int → Int) (m all c : Int) : Prop := 0 ≤ jxC v all c ∧ V (jxC v all c) < MANY ∧ V (jxC v all c) + jcC v all c = m
def fsI (v : Nat → Int → Int) (V : Int → Int) (m all : Int) (cl : List Nat) : Nat → Nat → Nat
  | 0, i => i
  | n + 1, i => if jok v V m all (cl.getD i 0 : Nat) then i else fsI v V m all cl n (i + 1)
def jf (v : Nat → Int → Int) (u : Int) : Int := if u < v 48 2 then pF v u else 0
def ja0 (v : Nat → Int → Int) : Int := 225 * jf v 0 + 15 * jf v 1 + jf v 2
/-- the code chosen in an hour from a state -/
def jcd (v : Nat → Int → Int) (as : Prop) [Decidable as] (hrs : Int) (h : Nat) (all : Int) : Nat := (RFLn v as h 125).getD (fsI v (rWv v as hrs (hrs.toNat - (h + 1))) (rWv v as hrs (hrs.toNat - h) all) all (RFLn v as h 125) 125 0) 0
def jS (v : Nat → Int → Int) (as : Prop) [Decidable as] (hrs : Int) : Nat → Int
  | 0 => ja0 v
  | h + 1 => jxC v (jS v as hrs h) (jcd v as hrs h (jS v as hrs h))
theorem fsI_at {v : Nat → Int → Int} {V : Int → Int} {m all : Int} {cl : List Nat} : ∀ (n i : Nat), (∃ d, i ≤ d ∧ d < i + n ∧ jok v V m all (cl.getD d 0 : Nat)) → i ≤ fsI v V m all cl n i ∧ fsI v V m all cl n i < i + n ∧ jok v V m all (cl.getD (fsI v V m all cl n i) 0 : Nat) ∧ ∀ d, i ≤ d → d < fsI v V m all cl n i → ¬ jok v V m all (cl.getD d 0 : Nat)
  | 0, i, ⟨d, h1, h2, _⟩ => by omega
  | n + 1, i, ⟨d, h1, h2, h3⟩ => by
    unfold fsI
    split
    · rename_i e
      exact ⟨by omega, by omega, e, fun d q1 q2 => by omega⟩
    · rename_i e
      have hd : d ≠ i := fun q => e (by rw [← q]; exact h3)
      obtain ⟨a1, a2, a3, a4⟩ := fsI_at n (i + 1) ⟨d, by omega, by omega, h3⟩
      refine ⟨by omega, by omega, a3, fun d q1 q2 => ?_⟩
      by_cases q : d = i
      · rw [q]; exact e
      · exact a4 d (by omega) q2
theorem lbi_at (v : Nat → Int → Int) (V : Int → Int) (all : Int) (cl : List Nat) : ∀ n, lbi v V all cl n = MANY ∨ ∃ i, i < n ∧ jvl v V all (cl.getD i 0 : Nat) = lbi v V all cl n
  | 0 => Or.inl rfl
  | n + 1 => by
    unfold lbi
    split
    · exact Or.inr ⟨n, by omega, rfl⟩
    · rcases lbi_at v V all cl n with h | ⟨c, h1, h2⟩
      · exact Or.inl h
      · exact Or.inr ⟨c, by omega, h2⟩
theorem lbi_lb (v : Nat → Int → Int) (V : Int → Int) (all : Int) (cl : List Nat) : ∀ n i, i < n → lbi v V all cl n ≤ jvl v V all (cl.getD i 0 : Nat)
  | 0, i, h => by omega
  | n + 1, i, h => by
    unfold lbi
    by_cases e : i = n
    · subst e
      split <;> omega
    · have := lbi_lb v V all cl n i (by omega)
      split <;> omega
theorem rWv_rng {v : Nat → Int → Int} (hA : rA v) (as : Prop) [Decidable as] (hrs : Int) : ∀ (r : Nat) (all : Int), 0 ≤ all → all < 3375 → 0 ≤ rWv v as hrs r all ∧ rWv v as hrs r all ≤ MANY
  | 0, all, _, _ => by unfold rWv MANY; omega
  | r + 1, all, h1, h2 => by
    have ih := rWv_rng hA as hrs r
    unfold rWv lbv
    split
    · exact lbi_rng hA.2.1 hA.2.2.2.2.1 hA.1 (fun t a b => ih t a b) ⟨h1, h2⟩ _ _
    · unfold MANY; omega
/-- a value that is not MANY is small, and some way comes to it -/
theorem rWv_fin {v : Nat → Int → Int} (hA : rA v) (as : Prop) [Decidable as] (hrs : Int) : ∀ (r : Nat) (all : Int), 0 ≤ all → all < 3375 → rWv v as hrs r all < MANY → rWv v as hrs r all ≤ 150000 * r
  | 0, all, _, _, _ => by unfold rWv; omega
  | r + 1, all, h1, h2, h3 => by
    have ih := rWv_fin hA as hrs r
    have mn : MANY = 1000000000 := rfl
    unfold rWv at h3 ⊢
    unfold lbv at h3 ⊢
    split at h3
    · rename_i q
      rw [if_pos q]
      rcases lbi_at v (rWv v as hrs r) all (RFLn v as (hrs - (r + 1 : Nat)) 125) (RFLn v as (hrs - (r + 1 : Nat)) 125).length with z | ⟨i, z1, z2⟩
      · omega
      · rw [← z2] at h3 ⊢
        have jx := jxC_rng hA.1 (c := ((RFLn v as (hrs - (r + 1 : Nat)) 125).getD i 0 : Nat)) ⟨h1, h2⟩
        have jc := jcC_rng hA.2.1 hA.2.2.2.2.1 (c := ((RFLn v as (hrs - (r + 1 : Nat)) 125).getD i 0 : Nat)) ⟨h1, h2⟩
        have ii := ih (jxC v all ((RFLn v as (hrs - (r + 1 : Nat)) 125).getD i 0 : Nat))
        have rr := rWv_rng hA as hrs r (jxC v all ((RFLn v as (hrs - (r + 1 : Nat)) 125).getD i 0 : Nat))
        revert h3
        unfold jvl
        (repeat' split) <;> omega
    · omega
theorem jok_of {v : Nat → Int → Int} (hA : rA v) (as : Prop) [Decidable as] (hrs : Int) (r : Nat) {all : Int} (ha : 0 ≤ all ∧ all < 3375) (hf : rWv v as hrs (r + 1) all < MANY) : isv v all ∧ ∃ d, d < (RFLn v as (hrs - (r + 1 : Nat)) 125).length ∧ jok v (rWv v as hrs r) (rWv v as hrs (r + 1) all) all ((RFLn v as (hrs - (r + 1 : Nat)) 125).getD d 0 : Nat) := by
  have mn : MANY = 1000000000 := rfl
  have e : rWv v as hrs (r + 1) all = lbv v (rWv v as hrs r) all (RFLn v as (hrs - (r + 1 : Nat)) 125) := rfl
  rw [e] at hf ⊢
  unfold lbv at hf ⊢
  split at hf
  · rename_i q
    rw [if_pos q]
    refine ⟨q, ?_⟩
    rcases lbi_at v (rWv v as hrs r) all (RFLn v as (hrs - (r + 1 : Nat)) 125) (RFLn v as (hrs - (r + 1 : Nat)) 125).length with z | ⟨i, z1, z2⟩
    · omega
    · refine ⟨i, z1, ?_⟩
      rw [← z2] at hf ⊢
      have jx := jxC_rng hA.1 (c := ((RFLn v as (hrs - (r + 1 : Nat)) 125).getD i 0 : Nat)) ha
      have rr := rWv_rng hA as hrs r (jxC v all ((RFLn v as (hrs - (r + 1 : Nat)) 125).getD i 0 : Nat))
      revert hf
      unfold jok jvl
      (repeat' split) <;> (intro hf; omega)
  · omega
theorem pF_rng {v : Nat → Int → Int} (hA : rA v) {u : Int} (hu : 0 ≤ u ∧ u < v 48 2) : 0 ≤ pF v u ∧ pF v u < 15 := by
  obtain ⟨hR, hC, hS, hD, hN, -⟩ := hA
  have n2 := hN.2
  obtain ⟨r1, r2, r3, r4, r5, r6, r7⟩ := hR u (by omega) (by omega)
  obtain ⟨s1, s2, s3, s4, s5, s6, s7, s8⟩ := hS u (by omega) hu.2
  unfold pF
  (repeat' split) <;> omega
theorem jf_rng {v : Nat → Int → Int} (hA : rA v) {u : Int} (hu : 0 ≤ u) : 0 ≤ jf v u ∧ jf v u < 15 := by
  unfold jf
  split
  · rename_i q
    exact pF_rng hA ⟨hu, q⟩
  · omega
theorem ja0_rng {v : Nat → Int → Int} (hA : rA v) : 0 ≤ ja0 v ∧ ja0 v < 3375 := by
  have h0 := jf_rng hA (u := 0) (by omega)
  have h1 := jf_rng hA (u := 1) (by omega)
  have h2 := jf_rng hA (u := 2) (by omega)
  unfold ja0
  omega
theorem lbv_V {v : Nat → Int → Int} (hR : rU v) {V V' : Int → Int} (h : ∀ t, 0 ≤ t → t < 3375 → V t = V' t) {all : Int} (ha : 0 ≤ all ∧ all < 3375) (cl : List Nat) : lbv v V all cl = lbv v V' all cl := by
  have ej : ∀ c, jvl v V all c = jvl v V' all c := fun c => by
    have jx := jxC_rng hR (c := c) ha
    unfold jvl
    by_cases q : jxC v all c < 0
    · rw [if_pos q, if_pos q]
    · rw [if_neg q, if_neg q, h _ (by omega) (by omega)]
  have el : ∀ i, lbi v V all cl i = lbi v V' all cl i := fun i => by
    induction i with
    | zero => rfl
    | succ i ih =>
      unfold lbi
      rw [ih, ej]
  unfold lbv
  rw [el]
/-- but the ways, the values and the hours before h of the table the same -/
def sP (v v' : Nat → Int → Int) : Prop := (∀ b, b ≠ 48 → b ≠ 60 → b ≠ 64 → b ≠ 68 → v' b = v b) ∧ ∀ j, j ≠ 24 → v' 48 j = v 48 j
theorem sP_J {v v' : Nat → Int → Int} (s : sP v v') : sJ v v' := ⟨fun b h1 h2 => s.1 b (by omega) (by omega) (by omega) (by omega), s.2 2 (by decide)⟩
theorem sP_A {v v' : Nat → Int → Int} (s : sP v v') (hT : rT v') (hA : rA v) : rA v' := by
  obtain ⟨a1, a2, a3, a4, a5, a6⟩ := hA
  refine ⟨fun u h1 h2 => ?_, ?_, fun u h1 h2 => ?_, fun k h1 h2 => ?_, ?_, hT⟩
  · rw [s.1 49 (by decide) (by decide) (by decide) (by decide), s.1 50 (by decide) (by decide) (by decide) (by decide), s.1 51 (by decide) (by decide) (by decide) (by decide), s.1 52 (by decide) (by decide) (by decide) (by decide), s.1 53 (by decide) (by decide) (by decide) (by decide), s.1 56 (by decide) (by decide) (by decide) (by decide), s.1 57 (by decide) (by decide) (by decide) (by decide)]
    exact a1 u h1 h2
  · unfold rC
    rw [s.1 54 (by decide) (by decide) (by decide) (by decide), s.1 55 (by decide) (by decide) (by decide) (by decide)]
    exact a2
  · rw [s.2 2 (by decide)] at h2
    rw [s.1 49 (by decide) (by decide) (by decide) (by decide), s.1 50 (by decide) (by decide) (by decide) (by decide), s.1 51 (by decide) (by decide) (by decide) (by decide), s.1 52 (by decide) (by decide) (by decide) (by decide), s.1 53 (by decide) (by decide) (by decide) (by decide), s.1 56 (by decide) (by decide) (by decide) (by decide), s.1 57 (by decide) (by decide) (by decide) (by decide)]
    exact a3 u h1 h2
  · rw [s.1 58 (by decide) (by decide) (by decide) (by decide), s.1 59 (by decide) (by decide) (by decide) (by decide), s.1 63 (by decide) (by decide) (by decide) (by decide)]
    exact a4 k h1 h2
  · unfold rN
    rw [s.2 1 (by decide), s.2 2 (by decide)]
    exact a5
theorem sP_RFIT {v v' : Nat → Int → Int} (s : sP v v') {as : Prop} [Decidable as] {h t : Int} (h60 : ∀ u, 0 ≤ u → u < 3 → v' 60 (8 * u + h) = v 60 (8 * u + h)) : RFIT v' as h t ↔ RFIT v as h t := by
  unfold RFIT rok ron rto rmo
  rw [s.1 49 (by decide) (by decide) (by decide) (by decide), s.1 50 (by decide) (by decide) (by decide) (by decide), s.1 58 (by decide) (by decide) (by decide) (by decide), s.1 59 (by decide) (by decide) (by decide) (by decide), s.2 2 (by decide), h60 0 (by omega) (by omega), h60 1 (by omega) (by omega), h60 2 (by omega) (by omega)]
theorem sP_RFL {v v' : Nat → Int → Int} (s : sP v v') {as : Prop} [Decidable as] {h : Int} (h60 : ∀ u, 0 ≤ u → u < 3 → v' 60 (8 * u + h) = v 60 (8 * u + h)) : ∀ n, RFLn v' as h n = RFLn v as h n
  | 0 => rfl
  | n + 1 => by
    show (if RFIT v' as h n then RFLn v' as h n ++ [n] else RFLn v' as h n) = (if RFIT v as h n then RFLn v as h n ++ [n] else RFLn v as h n)
    rw [sP_RFL s h60 n]
    by_cases q : RFIT v as h n
    · rw [if_pos q, if_pos ((sP_RFIT s h60).mpr q)]
    · rw [if_neg q, if_neg (fun z => q ((sP_RFIT s h60).mp z))]
/-- the values of the hours from k on are there -/
def aV (v v' : Nat → Int → Int) (as : Prop) [Decidable as] (k : Int) : Prop := ∀ h t : Int, k ≤ h → 0 ≤ h → h ≤ v 48 1 → 0 ≤ t → t < 3375 → v' 64 (3375 * h + t) = rWv v as (v 48 1) (v 48 1 - h).toNat t
theorem lb_step {v v' : Nat → Int → Int} (hA : rA v) {as : Prop} [Decidable as] {k : Int} (hk : 0 ≤ k ∧ k < v 48 1) (s : sP v v') (h60 : v' 60 = v 60) (ha : aV v v' as (k + 1)) :
    sP v (lbw (fwn v' as k 125) k (fun t => v' 64 (3375 * (k + 1) + t)) (RFLn v' as k 125) 3375) ∧ lbw (fwn v' as k 125) k (fun t => v' 64 (3375 * (k + 1) + t)) (RFLn v' as k 125) 3375 60 = v 60 ∧ aV v (lbw (fwn v' as k 125) k (fun t => v' 64 (3375 * (k + 1) + t)) (RFLn v' as k 125) 3375) as k := by
  have s1 := fwn_sWy v' as k 125
  have s2 := lbw_s64 (fwn v' as k 125) k (fun t => v' 64 (3375 * (k + 1) + t)) (RFLn v' as k 125) 3375
  refine ⟨⟨fun b b1 b2 b3 b4 => ?_, fun j hj => ?_⟩, ?_, fun h t h1 h2 h3 t1 t2 => ?_⟩
  · rw [s2 b b3, s1.1 b b1 b4, s.1 b b1 b2 b3 b4]
  · rw [s2 48 (by decide), s1.2 j hj, s.2 j hj]
  · rw [s2 60 (by decide), s1.1 60 (by decide) (by decide), h60]
  · by_cases e : h = k
    · subst e
      unfold lbw
      rw [if_pos ⟨rfl, by omega, by omega⟩, show 3375 * h + t - 3375 * h = t by omega, sJ_lbv (sWy_J s1), sJ_lbv (sP_J s), sP_RFL s (fun u _ _ => by rw [h60])]
      have er : (v 48 1 - h).toNat = (v 48 1 - (h + 1)).toNat + 1 := by omega
      rw [er]
      show _ = lbv v (rWv v as (v 48 1) (v 48 1 - (h + 1)).toNat) t (RFLn v as (v 48 1 - (((v 48 1 - (h + 1)).toNat + 1 : Nat) : Int)) 125)
      rw [show v 48 1 - (((v 48 1 - (h + 1)).toNat + 1 : Nat) : Int) = h by omega]
      exact lbv_V hA.1 (fun x x1 x2 => ha (h + 1) x (by omega) (by omega) (by omega) x1 x2) ⟨t1, t2⟩ _
    · unfold lbw
      rw [if_neg (by omega), s1.1 64 (by decide) (by decide)]
      exact ha h t (by omega) h2 h3 t1 t2
/-- the last hour's values: nothing -/
def zla (v : Nat → Int → Int) (k : Int) : Nat → Int → Int := fun b j => if b = 64 ∧ 3375 * v 48 1 ≤ j ∧ j < 3375 * v 48 1 + k then 0 else v b j
theorem zla_s {v : Nat → Int → Int} {k : Int} (hk : 0 ≤ k) : zu (zla v k) 64 (3375 * v 48 1 + k) 0 = zla v (k + 1) := by
  funext b j
  unfold zu zla
  by_cases q : b = 64 ∧ j = 3375 * v 48 1 + k
  · rw [if_pos q, if_pos (by omega)]
  · rw [if_neg q]
    by_cases q2 : b = 64 ∧ 3375 * v 48 1 ≤ j ∧ j < 3375 * v 48 1 + k
    · rw [if_pos q2, if_pos (by omega)]
    · rw [if_neg q2, if_neg (by omega)]
theorem zla_0 {v : Nat → Int → Int} : zla v 0 = v := by
  funext b j
  unfold zla
  rw [if_neg (by omega)]
theorem zla_row {v : Nat → Int → Int} {k : Int} {b : Nat} (h : b ≠ 64) : zla v k b = v b := by
  funext j
  unfold zla
  rw [if_neg (fun q => h q.1)]
theorem l_pl38 (xs : List Int32) (sh : List q_Sh) (v w : Nat → Int → Int) (R : Nat → Nat → Option Nat) (hM : LM sh R) (hA : rA v) (as : Prop) [Decidable as] (F : Option Value → q_H → Prop)
    (hE : ∀ v', sP v v' → v' 60 = v 60 → aV v v' as 0 → q_Rt (GG xs) PP 51 F 58 [some (.ref 48), some (.int (zb as)), some (.int (zi 0)), some (.int (zi 0)), none, none, none, none, none] [] (sh, zs v', zt w, R)) :
    ∀ k : Int, 0 ≤ k → k ≤ v 48 1 → ∀ v', sP v v' → v' 60 = v 60 → aV v v' as k → q_Rt (GG xs) PP 51 F 38 [some (.ref 48), some (.int (zb as)), some (.int (zi (k - 1))), none, none, none, none, none, none] [] (sh, zs v', zt w, R) := by
  have n1 := hA.2.2.2.2.1.1
  refine zup _ ?_ (fun k h1 h2 ih => ?_)
  · intro v' s h60 ha
    have K := hE v' s h60 ha
    refine b_Mod_planned_38 xs F _ _ _ _ ?_
    simp (discharger := first | assumption | omega) [fI, fL, fV, zs_ar, zt_ar, zs_un, zt_un, zn_c, zu_a, zu_e, zu_j, zix, zi_lit, zl_lit, zi_add, zi_sub, zi_mul, zi_neg, zi_le, zi_lt, zi_eq, zl_add, zl_sub, zl_mul, zi_i2l, zl_l2i, zb0, zb1, zb0', zb1', zi_c0, zi_c1, zb_c, i_leT, i_leF, i_ltT, i_ltF, i_eqT, i_eqF]
    exact K
  · intro v' s h60 ha
    have hA' : rA v' := sP_A s (by unfold rT; rw [h60]; exact hA.2.2.2.2.2) hA
    have s1 := n_lookBack xs sh v' w R hM hA' k as (by omega) (fun t t1 t2 => by
      rw [ha (k + 1) t (by omega) (by omega) (by omega) t1 t2]
      exact rWv_rng hA as (v 48 1) _ t t1 t2)
    obtain ⟨q1, q2, q3⟩ := lb_step hA ⟨h1, h2⟩ s h60 ha
    have K := ih _ q1 q2 q3
    rw [show k + 1 - 1 = k by omega]
    refine b_Mod_planned_38 xs F _ _ _ _ ?_
    simp (discharger := first | assumption | omega) [hM, fI, fL, fV, zs_ar, zt_ar, zs_un, zt_un, zn_c, zu_a, zu_e, zu_j, zix, zi_lit, zl_lit, zi_add, zi_sub, zi_mul, zi_neg, zi_le, zi_lt, zi_eq, zl_add, zl_sub, zl_mul, zi_i2l, zl_l2i, zb0, zb1, zb0', zb1', zi_c0, zi_c1, zb_c, s1, Int.sub_eq_add_neg, i_leT, i_leF, i_ltT, i_ltF, i_eqT, i_eqF]
    rw [Int.sub_eq_add_neg] at K
    exact K
