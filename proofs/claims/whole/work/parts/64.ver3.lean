def rD (v : Nat → Int → Int) : Prop := ∀ h, 0 ≤ h → h < 8 → (0 ≤ v 58 h ∧ v 58 h ≤ 200) ∧ (0 ≤ v 59 h ∧ v 59 h ≤ 200) ∧ (-100000 ≤ v 63 h ∧ v 63 h ≤ 100000)
def rN (v : Nat → Int → Int) : Prop := (1 ≤ v 48 1 ∧ v 48 1 ≤ 8) ∧ (0 ≤ v 48 2 ∧ v 48 2 ≤ 3)
theorem zmin_s (b : Int) (f : Int → Int) (n : Nat) : zmin b f (n + 1) = if f n < zmin b f n then f n else zmin b f n := rfl
theorem zsum_s (f : Int → Int) (n : Nat) : zsum f (n + 1) = zsum f n + f n := rfl
theorem l_ver26 (xs : List Int32) (sh : List q_Sh) (v w : Nat → Int → Int) (R : Nat → Nat → Option Nat) (hM : LM sh R) (h : Int) (hR : rU v) (hT : rT v) (hD : rD v) (hN : rN v) (hh : 0 ≤ h ∧ h < 8) (F : Option Value → q_H → Prop) (hk : q_Rt (GG xs) PP 59 F 153 [some (.ref 48), some (.int (zi h)), none, none, none, none, none] [.int (zi (pV v h))] (sh, zs v, zt w, R)) : ∀ u, 0 ≤ u → u ≤ v 48 2 → q_Rt (GG xs) PP 59 F 26 [some (.ref 48), some (.int (zi h)), some (.int (zi (pR v u.toNat h))), some (.int (zi (pS v u.toNat h))), some (.int (zi (pM v u.toNat h))), some (.int (zi u)), none] [] (sh, zs v, zt w, R) := by
  have hN' := hN
  obtain ⟨n1, n2⟩ := hN'
  have rR : ∀ k : Int, 0 ≤ k → k ≤ 3 → 1 ≤ pR v k.toNat h ∧ pR v k.toNat h ≤ 9 := fun k h1 h2 => zmin_rng (by omega) _ (fun i _ _ => zbrk_rng _ _ _ _ _ _ _ _ _)
  have rS : ∀ k : Int, 0 ≤ k → k ≤ 3 → 0 ≤ pS v k.toNat h ∧ pS v k.toNat h ≤ 200 := fun k h1 h2 => by
    have := zsum_rng (c := 63) (f := fun u => v 60 (8 * u + h)) k.toNat (fun i a b => hT _ (by omega) (by omega))
    unfold pS
    omega
  have rM : ∀ k : Int, 0 ≤ k → k ≤ 3 → 0 ≤ pM v k.toNat h ∧ pM v k.toNat h ≤ 200 := fun k h1 h2 => by
    have := zsum_rng (c := 60) (f := fun u => if v 60 (8 * u + h) = 0 then 0 else v 50 u) k.toNat (fun i a b => by
      obtain ⟨r1, r2, -⟩ := hR i a (by omega)
      show 0 ≤ (if v 60 (8 * i + h) = 0 then 0 else v 50 i) ∧ (if v 60 (8 * i + h) = 0 then 0 else v 50 i) ≤ 60
      split <;> omega)
    unfold pM
    omega
  obtain ⟨d1, d2, d3⟩ := hD h hh.1 hh.2
  have x1 := rR (v 48 2) (by omega) (by omega)
  have x2 := rS (v 48 2) (by omega) (by omega)
  have x3 := rM (v 48 2) (by omega) (by omega)
  refine zdown _ ?_ (fun u h1 h2 ih => ?_)
  · have l132 : ∀ r : Int, 1 ≤ r ∧ r ≤ 9 → (if 2 < r ∧ pS v (v 48 2).toNat h ≠ v 58 h then 2 else r) = pV v h → q_Rt (GG xs) PP 59 F 132 [some (.ref 48), some (.int (zi h)), none, some (.int (zi (pS v (v 48 2).toNat h))), none, none, none] [.int (zi r)] (sh, zs v, zt w, R) := by
      intro r hr e
      refine b_Mod_verify_132 xs F _ _ _ _ (sh, zs v, zt w, R) ?_
      simp (discharger := first | assumption | omega) [hM, fI, fL, fV, zs_ar, zt_ar, zs_un, zt_un, zn_c, zu_a, zu_e, zu_j, zix, zi_lit, zl_lit, zi_add, zi_sub, zi_mul, zi_neg, zi_le, zi_lt, zi_eq, zl_add, zl_sub, zl_mul, zi_i2l, zl_l2i, zb0, zb1, zb0', zb1', zi_c0, zi_c1, zb_c]
      rw [← e] at hk
      refine ⟨fun c => ?_, fun c => ⟨fun c2 => ?_, fun c2 => ?_⟩⟩
      · rwa [if_neg (by omega)] at hk
      · rwa [if_neg (by omega)] at hk
      · rwa [if_pos (by omega)] at hk
    refine b_Mod_verify_26 xs F _ _ _ _ _ _ (sh, zs v, zt w, R) ?_
    simp (discharger := first | assumption | omega) [hM, fI, fL, fV, zs_ar, zt_ar, zs_un, zt_un, zn_c, zu_a, zu_e, zu_j, zix, zi_lit, zl_lit, zi_add, zi_sub, zi_mul, zi_neg, zi_le, zi_lt, zi_eq, zl_add, zl_sub, zl_mul, zi_i2l, zl_l2i, zb0, zb1, zb0', zb1', zi_c0, zi_c1, zb_c, i_leT, i_leF, i_ltT, i_ltF, i_eqT, i_eqF]
    refine ⟨fun c => ?_, fun c => ⟨fun c2 => ?_, fun c2 => ?_⟩⟩
    · exact l132 _ x1 (by unfold pV zrul; rw [if_neg (c := 3 < _ ∧ _) (by omega)])
    · exact l132 _ x1 (by unfold pV zrul; rw [if_neg (c := 3 < _ ∧ _) (by omega)])
    · exact l132 3 (by omega) (by unfold pV zrul; rw [if_pos (c := 3 < _ ∧ _) (by omega)])
  · have y1 := rR u (by omega) (by omega)
    have y2 := rS u (by omega) (by omega)
    have y3 := rM u (by omega) (by omega)
    have y4 := zbrk_rng (v 49 u) (v 50 u) (v 51 u) (v 52 u) (v 53 u) (trow v u) (v 56 u) (v 57 u) h
    have y5 := hT (8 * u + h) (by omega) (by omega)
    have e : (u + 1).toNat = u.toNat + 1 := by omega
    have e2 : ((u.toNat : Nat) : Int) = u := by omega
    rw [e] at ih
    simp only [pR, pS, pM, zmin_s, zsum_s, e2] at ih
    have l56 : ∀ r : Int, (if pK v u h < pR v u.toNat h then pK v u h else pR v u.toNat h) = r → q_Rt (GG xs) PP 59 F 56 [some (.ref 48), some (.int (zi h)), none, some (.int (zi (pS v u.toNat h))), some (.int (zi (pM v u.toNat h))), some (.int (zi u)), none] [.int (zi r)] (sh, zs v, zt w, R) := by
      intro r e
      refine b_Mod_verify_56 xs F _ _ _ _ _ _ (sh, zs v, zt w, R) ?_
      simp (discharger := first | assumption | omega) [hM, fI, fL, fV, zs_ar, zt_ar, zs_un, zt_un, zn_c, zu_a, zu_e, zu_j, zix, zi_lit, zl_lit, zi_add, zi_sub, zi_mul, zi_neg, zi_le, zi_lt, zi_eq, zl_add, zl_sub, zl_mul, zi_i2l, zl_l2i, zb0, zb1, zb0', zb1', zi_c0, zi_c1, zb_c, n_isOn]
      rw [← e]
      refine ⟨fun c => ?_, fun c => ?_⟩
      · rw [if_pos c, Int.add_zero] at ih
        exact ih
      · rw [if_neg c] at ih
        exact ih
    refine b_Mod_verify_26 xs F _ _ _ _ _ _ (sh, zs v, zt w, R) ?_
    unfold pK at l56
    simp (discharger := first | assumption | omega) [hM, fI, fL, fV, zs_ar, zt_ar, zs_un, zt_un, zn_c, zu_a, zu_e, zu_j, zix, zi_lit, zl_lit, zi_add, zi_sub, zi_mul, zi_neg, zi_le, zi_lt, zi_eq, zl_add, zl_sub, zl_mul, zi_i2l, zl_l2i, zb0, zb1, zb0', zb1', zi_c0, zi_c1, zb_c, n_broken, pK, i_leT, i_leF, i_ltT, i_ltF, i_eqT, i_eqF]
    exact ⟨fun c => l56 _ (by rw [if_neg (by omega)]), fun c => l56 _ (by rw [if_pos (by omega)])⟩
theorem pV_rng {v : Nat → Int → Int} (hN : rN v) {h : Int} : 1 ≤ pV v h ∧ pV v h ≤ 9 := by
  have : 1 ≤ pR v (v 48 2).toNat h ∧ pR v (v 48 2).toNat h ≤ 9 := zmin_rng (by omega) _ (fun i _ _ => zbrk_rng _ _ _ _ _ _ _ _ _)
  unfold pV zrul
  (repeat' split) <;> omega
theorem l_ver7 (xs : List Int32) (sh : List q_Sh) (v w : Nat → Int → Int) (R : Nat → Nat → Option Nat) (hM : LM sh R) (hR : rU v) (hT : rT v) (hD : rD v) (hN : rN v) : ∀ h, 0 ≤ h → h ≤ v 48 1 → ∀ F : Option Value → q_H → Prop, q_Rt (GG xs) PP 59 F 7 [some (.ref 48), some (.int (zi h)), none, none, none, none, none] [] (sh, zs v, zt w, R) = F (some (.int (zi (zver (pV v) (v 48 1 - h).toNat h)))) (sh, zs v, zt w, R) := by
  have hN' := hN
  obtain ⟨n1, n2⟩ := hN'
  refine zdown _ (fun F => cR (fun F hF => ?_) F) (fun h h1 h2 ih F => cR (fun F hF => ?_) F)
  · refine b_Mod_verify_7 xs F _ _ (sh, zs v, zt w, R) ?_
    simp (discharger := first | assumption | omega) [hM, fI, fL, fV, zs_ar, zt_ar, zs_un, zt_un, zn_c, zu_a, zu_e, zu_j, zix, zi_lit, zl_lit, zi_add, zi_sub, zi_mul, zi_neg, zi_le, zi_lt, zi_eq, zl_add, zl_sub, zl_mul, zi_i2l, zl_l2i, zb0, zb1, zb0', zb1', zi_c0, zi_c1, zb_c, i_leT, i_leF, i_ltT, i_ltF, i_eqT, i_eqF]
    simpa [zver] using hF
  · have y1 := pV_rng hN (h := h)
    rw [show (v 48 1 - h).toNat = (v 48 1 - (h + 1)).toNat + 1 by omega] at hF
    unfold zver at hF
    refine b_Mod_verify_7 xs F _ _ (sh, zs v, zt w, R) ?_
    simp (discharger := first | assumption | omega) [hM, fI, fL, fV, zs_ar, zt_ar, zs_un, zt_un, zn_c, zu_a, zu_e, zu_j, zix, zi_lit, zl_lit, zi_add, zi_sub, zi_mul, zi_neg, zi_le, zi_lt, zi_eq, zl_add, zl_sub, zl_mul, zi_i2l, zl_l2i, zb0, zb1, zb0', zb1', zi_c0, zi_c1, zb_c, i_leT, i_leF, i_ltT, i_ltF, i_eqT, i_eqF]
    refine l_ver26 xs sh v w R hM h hR hT hD hN (by omega) F ?_ 0 (by omega) (by omega)
    refine b_Mod_verify_153 xs F _ _ _ (sh, zs v, zt w, R) ?_
    by_cases c : pV v h < 9
    · rw [if_pos c] at hF
      simp (discharger := first | assumption | omega) [hM, fI, fL, fV, zs_ar, zt_ar, zs_un, zt_un, zn_c, zu_a, zu_e, zu_j, zix, zi_lit, zl_lit, zi_add, zi_sub, zi_mul, zi_neg, zi_le, zi_lt, zi_eq, zl_add, zl_sub, zl_mul, zi_i2l, zl_l2i, zb0, zb1, zb0', zb1', zi_c0, zi_c1, zb_c, i_leT, i_leF, i_ltT, i_ltF, i_eqT, i_eqF]
      exact hF
    · rw [if_neg c] at hF
      simp (discharger := first | assumption | omega) [hM, fI, fL, fV, zs_ar, zt_ar, zs_un, zt_un, zn_c, zu_a, zu_e, zu_j, zix, zi_lit, zl_lit, zi_add, zi_sub, zi_mul, zi_neg, zi_le, zi_lt, zi_eq, zl_add, zl_sub, zl_mul, zi_i2l, zl_l2i, zb0, zb1, zb0', zb1', zi_c0, zi_c1, zb_c, ih, i_leT, i_leF, i_ltT, i_ltF, i_eqT, i_eqF]
      exact hF
def pVer (v : Nat → Int → Int) : Int := zver (pV v) (v 48 1).toNat 0
/-- the same but for what is only worked with -/
def sameM (v v' : Nat → Int → Int) : Prop := (∀ a, 49 ≤ a → a ≤ 60 → v' a = v a) ∧ v' 63 = v 63 ∧ v' 48 1 = v 48 1 ∧ v' 48 2 = v 48 2
theorem sM_rU {v v' : Nat → Int → Int} (h : sameM v v') (r : rU v) : rU v' := fun u h1 h2 => by
  simp only [h.1 49 (by decide) (by decide), h.1 50 (by decide) (by decide), h.1 51 (by decide) (by decide), h.1 52 (by decide) (by decide), h.1 53 (by decide) (by decide), h.1 56 (by decide) (by decide), h.1 57 (by decide) (by decide)]
  exact r u h1 h2
theorem sM_rT {v v' : Nat → Int → Int} (h : sameM v v') (r : rT v) : rT v' := fun u h1 h2 => by
  simp only [h.1 60 (by decide) (by decide)]
  exact r u h1 h2
theorem sM_rD {v v' : Nat → Int → Int} (h : sameM v v') (r : rD v) : rD v' := fun u h1 h2 => by
  simp only [h.1 58 (by decide) (by decide), h.1 59 (by decide) (by decide), h.2.1]
  exact r u h1 h2
theorem sM_rN {v v' : Nat → Int → Int} (h : sameM v v') (r : rN v) : rN v' := by
  unfold rN
  rw [h.2.2.1, h.2.2.2]
  exact r
theorem sM_zu {v v' : Nat → Int → Int} (h : sameM v v') {a : Nat} {e x : Int} (c : a = 48 ∧ (e < 1 ∨ 2 < e) ∨ (60 < a ∧ a ≠ 63) ∨ a < 48) : sameM v (zu v' a e x) := by
  refine ⟨fun b h1 h2 => ?_, ?_, ?_, ?_⟩
  · rw [zu_row (by omega)]; exact h.1 b h1 h2
  · rw [zu_row (by omega)]; exact h.2.1
  · rw [show zu v' a e x 48 1 = v' 48 1 from ?_]
    · exact h.2.2.1
    · by_cases q : a = 48
      · exact zu_j (by omega)
      · exact zu_a (by omega)
  · rw [show zu v' a e x 48 2 = v' 48 2 from ?_]
    · exact h.2.2.2
    · by_cases q : a = 48
      · exact zu_j (by omega)
      · exact zu_a (by omega)
theorem sM_rf (v : Nat → Int → Int) : sameM v v := ⟨fun _ _ _ => rfl, rfl, rfl, rfl⟩
theorem sM_pK {v v' : Nat → Int → Int} (h : sameM v v') : pK v' = pK v := by
  funext u k
  rw [show pK v' u k = zbrk (v' 49 u) (v' 50 u) (v' 51 u) (v' 52 u) (v' 53 u) (fun j => v' 60 (8 * u + j)) (v' 56 u) (v' 57 u) k from rfl, show pK v u k = zbrk (v 49 u) (v 50 u) (v 51 u) (v 52 u) (v 53 u) (fun j => v 60 (8 * u + j)) (v 56 u) (v 57 u) k from rfl]
  simp only [h.1 49 (by decide) (by decide), h.1 50 (by decide) (by decide), h.1 51 (by decide) (by decide), h.1 52 (by decide) (by decide), h.1 53 (by decide) (by decide), h.1 56 (by decide) (by decide), h.1 57 (by decide) (by decide), h.1 60 (by decide) (by decide)]
theorem sM_pV {v v' : Nat → Int → Int} (h : sameM v v') : pV v' = pV v := by
  funext k
  simp only [pV, pR, pS, pM, sM_pK h, h.1 50 (by decide) (by decide), h.1 58 (by decide) (by decide), h.1 59 (by decide) (by decide), h.1 60 (by decide) (by decide), h.2.2.2]
theorem sM_pVer {v v' : Nat → Int → Int} (h : sameM v v') : pVer v' = pVer v := by
  simp only [pVer, sM_pV h, h.2.2.1]
theorem n_verify (xs : List Int32) (sh : List q_Sh) (v w : Nat → Int → Int) (R : Nat → Nat → Option Nat) (hM : LM sh R) (hR : rU v) (hT : rT v) (hD : rD v) (hN : rN v) (Q : Int32 → q_H → Prop) : q_CallI (GG xs) PP kMod_verify [.ref 48] (sh, zs v, zt w, R) Q = Q (zi (pVer v)) (sh, zs (zu v 48 0 0), zt w, R) := cI (fun Q hQ => by
  have s : sameM v (zu v 48 0 0) := sM_zu (sM_rf v) (by omega)
  have L := l_ver7 xs sh (zu v 48 0 0) w R hM (sM_rU s hR) (sM_rT s hT) (sM_rD s hD) (sM_rN s hN) 0 (by omega) (by have := (sM_rN s hN).1; omega)
  refine e_Mod_verify xs _ _ (sh, zs v, zt w, R) ?_
  simp (discharger := first | assumption | omega) [hM, fI, fL, fV, zs_ar, zt_ar, zs_un, zt_un, zn_c, zu_a, zu_e, zu_j, zix, zi_lit, zl_lit, zi_add, zi_sub, zi_mul, zi_neg, zi_le, zi_lt, zi_eq, zl_add, zl_sub, zl_mul, zi_i2l, zl_l2i, zb0, zb1, zb0', zb1', zi_c0, zi_c1, zb_c, L]
  rw [← sM_pVer s] at hQ
  unfold pVer at hQ
  rw [s.2.2.1] at hQ
  simpa using hQ) Q
