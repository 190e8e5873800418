theorem zver_0 {f : Int → Int} (hf : ∀ h, 1 ≤ f h) : ∀ (n : Nat) (h : Int), 0 ≤ h → zver f n h = 0 → ∀ k, h ≤ k → k < h + n → 9 ≤ f k
  | 0, h, _, _, k, h1, h2 => by omega
  | n + 1, h, h0, e, k, h1, h2 => by
    have := hf h
    unfold zver at e
    by_cases c : f h < 9
    · rw [if_pos c] at e
      omega
    · rw [if_neg c] at e
      by_cases q : k = h
      · rw [q]; omega
      · exact zver_0 hf n (h + 1) (by omega) e k (by omega) (by omega)
theorem zmin_9 {b : Int} {f : Int → Int} : ∀ (n : Nat), b ≤ zmin b f n → ∀ i : Int, 0 ≤ i → i < n → b ≤ f i
  | 0, _, i, h1, h2 => by omega
  | n + 1, h, i, h1, h2 => by
    have r : zmin b f n ≤ b := by
      have : ∀ m : Nat, zmin b f m ≤ b := by
        intro m
        induction m with
        | zero => exact Int.le_refl _
        | succ m ih => unfold zmin; split <;> omega
      exact this n
    rw [zmin_s] at h
    by_cases c : f n < zmin b f n
    · rw [if_pos c] at h
      omega
    · rw [if_neg c] at h
      by_cases q : i = n
      · rw [q]; omega
      · exact zmin_9 n h i h1 (by omega)
theorem rG_of {v : Nat → Int → Int} (hN : rN v) (h : pVer v = 0) : rG v := fun u h1 h2 k h3 h4 => by
  have n1 := hN.1
  have n2 := hN.2
  have a := zver_0 (fun h => (pV_rng hN (h := h)).1) _ 0 (by omega) h k (by omega) (by omega)
  have a2 := pV_rng hN (h := k)
  have b : 9 ≤ pR v (v 48 2).toNat k := by
    have : 1 ≤ pR v (v 48 2).toNat k ∧ pR v (v 48 2).toNat k ≤ 9 := zmin_rng (by omega) _ (fun i _ _ => zbrk_rng _ _ _ _ _ _ _ _ _)
    unfold pV zrul at a
    revert a
    (repeat' split) <;> omega
  have c := zmin_9 _ b u h1 (by omega)
  have c : 9 ≤ pK v u k := c
  unfold pK zbrk at c
  rw [show trow v u k = v 60 (8 * u + k) from rfl] at c
  by_cases d : v 60 (8 * u + k) = 0
  · exact Or.inl d
  · rw [if_neg d] at c
    by_cases e : v 49 u ≤ v 60 (8 * u + k) ∧ v 60 (8 * u + k) ≤ v 50 u
    · exact Or.inr e
    · rw [if_neg e] at c
      omega
def pSt (v : Nat → Int → Int) : Int := zsum (fun u => zsum (pst v u) (v 48 1).toNat) (v 48 2).toNat
def pRn (v : Nat → Int → Int) : Int := zsum (fun u => zsum (prn v u) (v 48 1).toNat) (v 48 2).toNat
def pCo (v : Nat → Int → Int) (what : Int) : Int := if what = 0 then pSt v + pRn v else if what = 1 then pSt v else pRn v
theorem l_cost35 (xs : List Int32) (sh : List q_Sh) (v w : Nat → Int → Int) (R : Nat → Nat → Option Nat) (hM : LM sh R) (what : Int) (hw : 0 ≤ what ∧ what ≤ 2) (hR : rU v) (hT : rT v) (hN : rN v) (hS : rS v) (hG : rG v) (F : Option Value → q_H → Prop) (hF : F (some (.int (zi (pCo v what)))) (sh, zs v, zt w, R)) : ∀ u, 0 ≤ u → u ≤ v 48 2 → q_Rt (GG xs) PP 60 F 35 [some (.ref 48), some (.int (zi what)), some (.int (zi (zsum (fun u => zsum (pst v u) (v 48 1).toNat) u.toNat))), some (.int (zi (zsum (fun u => zsum (prn v u) (v 48 1).toNat) u.toNat))), some (.int (zi u)), none, none, none] [] (sh, zs v, zt w, R) := by
  have n1 := hN.1
  have n2 := hN.2
  refine zdown _ ?_ (fun u h1 h2 ih => ?_)
  · refine b_Mod_cost_35 xs F _ _ _ _ _ (sh, zs v, zt w, R) ?_
    simp (discharger := first | assumption | omega) [hM, fI, fL, fV, zs_ar, zt_ar, zs_un, zt_un, zn_c, zu_a, zu_e, zu_j, zix, zi_lit, zl_lit, zi_add, zi_sub, zi_mul, zi_neg, zi_le, zi_lt, zi_eq, zl_add, zl_sub, zl_mul, zi_i2l, zl_l2i, zb0, zb1, zb0', zb1', zi_c0, zi_c1, zb_c, i_leT, i_leF, i_ltT, i_ltF, i_eqT, i_eqF]
    unfold pCo at hF
    refine ⟨fun c => ⟨fun c2 => ?_, fun c2 => ?_⟩, fun c => ?_⟩
    · rw [if_neg c, if_neg c2] at hF
      exact hF
    · rw [if_neg c, if_pos c2] at hF
      exact hF
    · rw [if_pos c] at hF
      exact hF
  · have e : (u + 1).toNat = u.toNat + 1 := by omega
    have e2 : ((u.toNat : Nat) : Int) = u := by omega
    rw [e] at ih
    simp only [zsum_s, e2] at ih
    refine b_Mod_cost_35 xs F _ _ _ _ _ (sh, zs v, zt w, R) ?_
    simp (discharger := first | assumption | omega) [hM, fI, fL, fV, zs_ar, zt_ar, zs_un, zt_un, zn_c, zu_a, zu_e, zu_j, zix, zi_lit, zl_lit, zi_add, zi_sub, zi_mul, zi_neg, zi_le, zi_lt, zi_eq, zl_add, zl_sub, zl_mul, zi_i2l, zl_l2i, zb0, zb1, zb0', zb1', zi_c0, zi_c1, zb_c, i_leT, i_leF, i_ltT, i_ltF, i_eqT, i_eqF]
    have := l_cost47 xs sh v w R hM u _ _ what hR hT hN hS hG ⟨h1, h2⟩ F ih 0 (by omega) (by omega)
    simpa [zsum] using this
theorem sM_rS {v v' : Nat → Int → Int} (h : sameM v v') (r : rS v) : rS v' := fun u h1 h2 => by
  rw [h.2.2.2] at h2
  simp only [h.1 49 (by decide) (by decide), h.1 50 (by decide) (by decide), h.1 51 (by decide) (by decide), h.1 52 (by decide) (by decide), h.1 53 (by decide) (by decide), h.1 56 (by decide) (by decide), h.1 57 (by decide) (by decide)]
  exact r u h1 h2
theorem sM_pst {v v' : Nat → Int → Int} (h : sameM v v') : pst v' = pst v := by
  funext u k
  rw [show pst v' u k = zst (fun n => v' 55 (3 * u + n - 1)) (fun j => v' 60 (8 * u + j)) (v' 56 u) (v' 57 u) k from rfl, show pst v u k = zst (fun n => v 55 (3 * u + n - 1)) (fun j => v 60 (8 * u + j)) (v 56 u) (v 57 u) k from rfl]
  simp only [h.1 55 (by decide) (by decide), h.1 56 (by decide) (by decide), h.1 57 (by decide) (by decide), h.1 60 (by decide) (by decide)]
theorem sM_prn {v v' : Nat → Int → Int} (h : sameM v v') : prn v' = prn v := by
  funext u k
  rw [show prn v' u k = zrn (fun x => v' 54 (4 * u + x - v' 49 u)) (fun j => v' 60 (8 * u + j)) k from rfl, show prn v u k = zrn (fun x => v 54 (4 * u + x - v 49 u)) (fun j => v 60 (8 * u + j)) k from rfl]
  simp only [h.1 49 (by decide) (by decide), h.1 54 (by decide) (by decide), h.1 60 (by decide) (by decide)]
theorem sM_pCo {v v' : Nat → Int → Int} (h : sameM v v') : pCo v' = pCo v := by
  funext what
  simp only [pCo, pSt, pRn, sM_pst h, sM_prn h, h.2.2.1, h.2.2.2]
def pCT (v : Nat → Int → Int) (what : Int) : Int := if 0 ≤ what ∧ what ≤ 2 then (if pVer v = 0 then 0 else 2) else 1
theorem zver_rng {f : Int → Int} (hf : ∀ h, 1 ≤ f h ∧ f h ≤ 9) : ∀ (n : Nat) (h : Int), 0 ≤ h → h + n ≤ 8 → 0 ≤ zver f n h ∧ zver f n h ≤ 100
  | 0, _, _, _ => by unfold zver; omega
  | n + 1, h, h0, h1 => by
    have := zver_rng hf n (h + 1) (by omega) (by omega)
    have := hf h
    unfold zver
    split <;> omega
theorem pVer_rng {v : Nat → Int → Int} (hN : rN v) : 0 ≤ pVer v ∧ pVer v ≤ 100 := zver_rng (fun h => pV_rng hN) _ _ (by omega) (by have := hN.1; omega)
theorem n_cost (xs : List Int32) (sh : List q_Sh) (v w : Nat → Int → Int) (R : Nat → Nat → Option Nat) (hM : LM sh R) (what : Int) (hw : -2147483648 ≤ what ∧ what < 2147483648) (hR : rU v) (hT : rT v) (hD : rD v) (hN : rN v) (hS : rS v) (Q : Int32 → q_H → Prop) : q_CallI (GG xs) PP kMod_cost [.ref 48, .int (zi what)] (sh, zs v, zt w, R) Q = Q (zi (if pCT v what = 0 then pCo v what else 0)) (sh, zs (zu v 48 0 (pCT v what)), zt w, R) := cI (fun Q hQ => by
  have r := pVer_rng hN
  unfold pCT at hQ
  refine e_Mod_cost xs _ _ _ (sh, zs v, zt w, R) ?_
  by_cases c1 : 0 ≤ what ∧ what ≤ 2
  · by_cases c2 : pVer v = 0
    · simp only [c1, c2, and_self, if_true] at hQ
      have s : sameM v (zu v 48 0 0) := sM_zu (sM_rf v) (by omega)
      have hN' := sM_rN s hN
      have L := l_cost35 xs sh (zu v 48 0 0) w R hM what c1 (sM_rU s hR) (sM_rT s hT) hN' (sM_rS s hS) (rG_of hN' (by rw [sM_pVer s]; exact c2)) (q_FI Q) (by rw [sM_pCo s]; exact hQ) 0 (by omega) (by have := hN'.2; omega)
      simp only [Int.toNat_zero, zsum] at L
      simp (discharger := first | assumption | omega) [hM, fI, fL, fV, zs_ar, zt_ar, zs_un, zt_un, zn_c, zu_a, zu_e, zu_j, zix, zi_lit, zl_lit, zi_add, zi_sub, zi_mul, zi_neg, zi_le, zi_lt, zi_eq, zl_add, zl_sub, zl_mul, zi_i2l, zl_l2i, zb0, zb1, zb0', zb1', zi_c0, zi_c1, zb_c, n_in, n_verify, c1, c2]
      exact L
    · simp only [c1, c2, and_self, if_true, if_false] at hQ
      simp (discharger := first | assumption | omega) [hM, fI, fL, fV, zs_ar, zt_ar, zs_un, zt_un, zn_c, zu_a, zu_e, zu_j, zix, zi_lit, zl_lit, zi_add, zi_sub, zi_mul, zi_neg, zi_le, zi_lt, zi_eq, zl_add, zl_sub, zl_mul, zi_i2l, zl_l2i, zb0, zb1, zb0', zb1', zi_c0, zi_c1, zb_c, n_in, n_verify, n_fails, c1, c2]
      rw [show zu (zu v 48 0 0) 48 0 2 = zu v 48 0 2 by funext a j; unfold zu; split <;> rfl]
      simpa using hQ
  · simp only [c1, if_false] at hQ
    simp (discharger := first | assumption | omega) [hM, fI, fL, fV, zs_ar, zt_ar, zs_un, zt_un, zn_c, zu_a, zu_e, zu_j, zix, zi_lit, zl_lit, zi_add, zi_sub, zi_mul, zi_neg, zi_le, zi_lt, zi_eq, zl_add, zl_sub, zl_mul, zi_i2l, zl_l2i, zb0, zb1, zb0', zb1', zi_c0, zi_c1, zb_c, n_in, n_verify, n_fails, c1]
    simpa using hQ) Q
