theorem zlst_rng {t : Int → Int} {wo wh h : Int} (hw : 0 ≤ wh ∧ wh ≤ 100) (hh : 0 ≤ h ∧ h < 8) : 0 ≤ zlst t wo wh h ∧ zlst t wo wh h ≤ 108 := by
  have := zhold_rng (t := t) (wo := wo) (on := zprev t wo h ≠ 0) hw h.toNat
  unfold zlst
  omega
/-- the least rule that a set breaks in an hour, 9 if none -/
def zbrk (lo hi up dn rp : Int) (t : Int → Int) (wo wh h : Int) : Int :=
  if t h = 0 then (if zprev t wo h = 0 then 9 else if up ≤ zlst t wo wh h then 9 else 4)
  else if lo ≤ t h ∧ t h ≤ hi then
    (if zprev t wo h = 0 then (if dn ≤ zlst t wo wh h then (if t h ≤ lo + rp then 9 else 7) else 5)
     else if rp < t h - zprev t wo h then 6 else if zprev t wo h - t h ≤ rp then 9 else 6)
  else 1
def pK (v : Nat → Int → Int) (u h : Int) : Int := zbrk (v 49 u) (v 50 u) (v 51 u) (v 52 u) (v 53 u) (trow v u) (v 56 u) (v 57 u) h
theorem zprev_t {v : Nat → Int → Int} {u h : Int} : (if h = 0 then v 56 u else v 60 (8 * u + h - 1)) = zprev (trow v u) (v 56 u) h := by
  unfold zprev trow
  rw [show 8 * u + (h - 1) = 8 * u + h - 1 by omega]
theorem zf_cg {a b : Int} {H : q_H} {F : Option Value → q_H → Prop} (h : F (some (.int (zi a))) H) (e : b = a) : F (some (.int (zi b))) H := e ▸ h
theorem l_broken45 (xs : List Int32) (sh : List q_Sh) (v w : Nat → Int → Int) (R : Nat → Nat → Option Nat) (hM : LM sh R) (u h : Int) (hR : rU v) (hT : rT v) (hu : 0 ≤ u ∧ u < 3) (hh : 0 ≤ h ∧ h < 8) (hg : v 60 (8 * u + h) = 0 ∨ v 49 u ≤ v 60 (8 * u + h) ∧ v 60 (8 * u + h) ≤ v 50 u) (F : Option Value → q_H → Prop) : q_Rt (GG xs) PP 58 F 45 [some (.ref 48), some (.int (zi u)), some (.int (zi h)), some (.int (zi (v 60 (8 * u + h)))), some (.int (zi (zprev (trow v u) (v 56 u) h)))] [] (sh, zs v, zt w, R) = F (some (.int (zi (pK v u h)))) (sh, zs v, zt w, R) := cR (fun F hF => by
  obtain ⟨r1, r2, r3, r4, r5, r6, r7⟩ := hR u hu.1 hu.2
  have r8 : h ≠ 0 → 0 ≤ v 60 (8 * u + h - 1) ∧ v 60 (8 * u + h - 1) ≤ 63 := fun _ => hT _ (by omega) (by omega)
  have r9 : 0 ≤ zprev (trow v u) (v 56 u) h ∧ zprev (trow v u) (v 56 u) h ≤ 63 := by rw [← zprev_t]; split <;> omega
  have r10 := hT (8 * u + h) (by omega) (by omega)
  have r11 := zlst_rng (t := trow v u) (wo := v 56 u) r7 hh
  refine b_Mod_broken_45 xs F _ _ _ _ _ (sh, zs v, zt w, R) ?_
  simp (discharger := first | assumption | omega) [hM, fI, fL, fV, zs_ar, zt_ar, zs_un, zt_un, zn_c, zu_a, zu_e, zu_j, zix, zi_lit, zl_lit, zi_add, zi_sub, zi_mul, zi_neg, zi_le, zi_lt, zi_eq, zl_add, zl_sub, zl_mul, zi_i2l, zl_l2i, zb0, zb1, zb0', zb1', zi_c0, zi_c1, zb_c, n_lasted]
  unfold pK zbrk at hF
  rw [show trow v u h = v 60 (8 * u + h) from rfl] at hF
  repeat' (first | (refine And.intro (fun _ => ?_) (fun _ => ?_)) | (intro _) | fail)
  all_goals exact zf_cg hF (by (repeat' split) <;> omega)) F
theorem n_broken (xs : List Int32) (sh : List q_Sh) (v w : Nat → Int → Int) (R : Nat → Nat → Option Nat) (hM : LM sh R) (u h : Int) (hR : rU v) (hT : rT v) (hu : 0 ≤ u ∧ u < 3) (hh : 0 ≤ h ∧ h < 8) (Q : Int32 → q_H → Prop) : q_CallI (GG xs) PP kMod_broken [.ref 48, .int (zi u), .int (zi h)] (sh, zs v, zt w, R) Q = Q (zi (pK v u h)) (sh, zs v, zt w, R) := cI (fun Q hQ => by
  obtain ⟨r1, r2, r3, r4, r5, r6, r7⟩ := hR u hu.1 hu.2
  have r10 := hT (8 * u + h) (by omega) (by omega)
  have L := l_broken45 xs sh v w R hM u h hR hT hu hh
  refine e_Mod_broken xs _ _ _ _ (sh, zs v, zt w, R) ?_
  by_cases g1 : v 60 (8 * u + h) = 0
  · simp (discharger := first | assumption | omega) [hM, fI, fL, fV, zs_ar, zt_ar, zs_un, zt_un, zn_c, zu_a, zu_e, zu_j, zix, zi_lit, zl_lit, zi_add, zi_sub, zi_mul, zi_neg, zi_le, zi_lt, zi_eq, zl_add, zl_sub, zl_mul, zi_i2l, zl_l2i, zb0, zb1, zb0', zb1', zi_c0, zi_c1, zb_c, n_last, zprev_t, L (Or.inl g1), i_leT, i_leF, i_ltT, i_ltF, i_eqT, i_eqF]
    exact hQ
  · by_cases g2 : v 49 u ≤ v 60 (8 * u + h) ∧ v 60 (8 * u + h) ≤ v 50 u
    · simp (discharger := first | assumption | omega) [hM, fI, fL, fV, zs_ar, zt_ar, zs_un, zt_un, zn_c, zu_a, zu_e, zu_j, zix, zi_lit, zl_lit, zi_add, zi_sub, zi_mul, zi_neg, zi_le, zi_lt, zi_eq, zl_add, zl_sub, zl_mul, zi_i2l, zl_l2i, zb0, zb1, zb0', zb1', zi_c0, zi_c1, zb_c, n_last, n_in, zprev_t, L (Or.inr g2), g2, i_leT, i_leF, i_ltT, i_ltF, i_eqT, i_eqF]
      exact hQ
    · simp (discharger := first | assumption | omega) [hM, fI, fL, fV, zs_ar, zt_ar, zs_un, zt_un, zn_c, zu_a, zu_e, zu_j, zix, zi_lit, zl_lit, zi_add, zi_sub, zi_mul, zi_neg, zi_le, zi_lt, zi_eq, zl_add, zl_sub, zl_mul, zi_i2l, zl_l2i, zb0, zb1, zb0', zb1', zi_c0, zi_c1, zb_c, n_last, n_in, zprev_t, g2, i_leT, i_leF, i_ltT, i_ltF, i_eqT, i_eqF]
      unfold pK zbrk at hQ
      rw [show trow v u h = v 60 (8 * u + h) from rfl, if_neg g1, if_neg g2] at hQ
      exact hQ) Q
/-- the least of f 0 .. f (n - 1), and b -/
def zmin (b : Int) (f : Int → Int) : Nat → Int
  | 0 => b
  | n + 1 => if f n < zmin b f n then f n else zmin b f n
def zsum (f : Int → Int) : Nat → Int
  | 0 => 0
  | n + 1 => zsum f n + f n
theorem zmin_rng {b a c : Int} {f : Int → Int} (hb : a ≤ b ∧ b ≤ c) : ∀ n : Nat, (∀ i : Int, 0 ≤ i → i < n → a ≤ f i ∧ f i ≤ c) → a ≤ zmin b f n ∧ zmin b f n ≤ c
  | 0, _ => hb
  | n + 1, h => by
    have h1 := zmin_rng (f := f) hb n (fun i a b => h i a (by omega))
    have h2 := h n (by omega) (by omega)
    unfold zmin
    split <;> omega
theorem zsum_rng {c : Int} {f : Int → Int} : ∀ n : Nat, (∀ i : Int, 0 ≤ i → i < n → 0 ≤ f i ∧ f i ≤ c) → 0 ≤ zsum f n ∧ zsum f n ≤ c * n
  | 0, _ => by unfold zsum; omega
  | n + 1, h => by
    have h1 := zsum_rng (f := f) n (fun i a b => h i a (by omega))
    have h2 := h n (by omega) (by omega)
    unfold zsum
    rw [show c * ((n + 1 : Nat) : Int) = c * n + c by rw [Int.natCast_add, Int.mul_add]; simp]
    omega
theorem zbrk_rng (lo hi up dn rp : Int) (t : Int → Int) (wo wh h : Int) : 1 ≤ zbrk lo hi up dn rp t wo wh h ∧ zbrk lo hi up dn rp t wo wh h ≤ 9 := by
  unfold zbrk
  (repeat' split) <;> omega
/-- the rule that an hour breaks, 9 if none -/
def zrul (r s m d e : Int) : Int := if 2 < (if 3 < r ∧ m - d < e then 3 else r) ∧ s ≠ d then 2 else (if 3 < r ∧ m - d < e then 3 else r)
def pR (v : Nat → Int → Int) (n : Nat) (h : Int) : Int := zmin 9 (fun u => pK v u h) n
def pS (v : Nat → Int → Int) (n : Nat) (h : Int) : Int := zsum (fun u => v 60 (8 * u + h)) n
def pM (v : Nat → Int → Int) (n : Nat) (h : Int) : Int := zsum (fun u => if v 60 (8 * u + h) = 0 then 0 else v 50 u) n
def pV (v : Nat → Int → Int) (h : Int) : Int := zrul (pR v (v 48 2).toNat h) (pS v (v 48 2).toNat h) (pM v (v 48 2).toNat h) (v 58 h) (v 59 h)
/-- the first hour's rule as it is told -/
def zver (f : Int → Int) : Nat → Int → Int
  | 0, _ => 0
  | n + 1, h => if f h < 9 then 10 * h + 10 + f h else zver f n (h + 1)
