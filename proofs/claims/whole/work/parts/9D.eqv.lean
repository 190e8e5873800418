/-! The class's sums against the reference's. -/
section
variable {sh : List q_Sh} {v w : Nat → Int → Int} {R : Nat → Nat → Option Nat}
theorem eqK (h : INV sh v w R) {u k : Int} (u1 : 0 ≤ u) (u2 : u < v 48 2) : dK v u k = pK v u k := by
  obtain ⟨-, -, ⟨hA, hr, -⟩, ⟨⟨-, et⟩, -⟩, -⟩ := h
  obtain ⟨⟨l1, l2, l3, l4, l5, l6, l7⟩, -⟩ := hr.2.2.2.1 u u1 u2
  unfold dK pK
  rw [l1, l2, l3, l4, l5, l6, l7]
  have e : brow v u = trow v u := by
    unfold brow trow
    rw [et]
  rw [e]
theorem zmin_cg {b : Int} {f g : Int → Int} : ∀ n : Nat, (∀ i : Int, 0 ≤ i → i < n → f i = g i) → zmin b f n = zmin b g n
  | 0, _ => rfl
  | n + 1, h => by
    rw [zmin_s, zmin_s, zmin_cg n (fun i a b => h i a (by omega)), h n (by omega) (by omega)]
theorem eqV (h : INV sh v w R) {k : Int} (k1 : 0 ≤ k) (k2 : k < 8) : dV v k = pV v k := by
  have n2 := (I_dN h).2
  have ek := fun u a b => eqK h (u := u) (k := k) a b
  obtain ⟨-, -, ⟨hA, hr, -⟩, ⟨⟨-, et⟩, -⟩, -⟩ := h
  obtain ⟨q1, q2, -⟩ := hr.2.1 k k1 k2
  have en := hr.1.2
  unfold dV pV dR pR dS pS dM pM
  rw [q1, q2, en]
  rw [zmin_cg (g := fun u => pK v u k) (v 48 2).toNat (fun i a b => ek i a (by omega)), zsum_cg (g := fun u => v 60 (8 * u + k)) (v 48 2).toNat (fun i a b => by rw [et]), zsum_cg (f := fun u => if v 25 (8 * u + k) = 0 then 0 else v (uc u) 1) (g := fun u => if v 60 (8 * u + k) = 0 then 0 else v 50 u) (v 48 2).toNat (fun i a b => by
    obtain ⟨⟨-, l2, -⟩, -⟩ := hr.2.2.2.1 i a (by omega)
    show (if v 25 (8 * i + k) = 0 then 0 else v (uc i) 1) = (if v 60 (8 * i + k) = 0 then 0 else v 50 i)
    rw [et, l2])]
theorem zver_cg {f g : Int → Int} : ∀ (n : Nat) (k : Int), (∀ i : Int, k ≤ i → i < k + n → f i = g i) → zver f n k = zver g n k
  | 0, _, _ => rfl
  | n + 1, k, h => by
    unfold zver
    rw [h k (by omega) (by omega), zver_cg n (k + 1) (fun i a b => h i (by omega) (by omega))]
theorem eqVer (h : INV sh v w R) : dVer v = pVer v := by
  have n1 := (I_dN h).1
  have e := h.2.2.1.2.1.1.1
  unfold dVer pVer
  rw [e]
  exact zver_cg _ _ (fun i a b => eqV h a (by omega))
theorem eqSt (h : INV sh v w R) {u k : Int} (u1 : 0 ≤ u) (u2 : u < v 48 2) (k1 : 0 ≤ k) (k2 : k < 8) : dSt v u k = pst v u k := by
  have n2 := (I_dN h).2
  obtain ⟨-, -, ⟨hA, hr, -⟩, ⟨⟨-, et⟩, -⟩, -⟩ := h
  obtain ⟨⟨l1, l2, l3, l4, l5, l6, l7⟩, -, -, l10⟩ := hr.2.2.2.1 u u1 u2
  obtain ⟨s1, s2, s3, s4, s5, s6, s7, s8⟩ := hA.2.2.1 u u1 u2
  obtain ⟨r1, r2, r3, r4, r5, r6, r7⟩ := hA.1 u u1 (by have := hA.2.2.2.2.1.2; omega)
  have e : brow v u = trow v u := by
    unfold brow trow
    rw [et]
  have z := zlst_pos (t := trow v u) (wo := v 56 u) (wh := v 57 u) (h := k) (by omega) k1
  unfold dSt pst zst
  rw [l6, l7, e]
  by_cases c1 : trow v u k = 0
  · rw [if_pos c1, if_pos c1]
  · rw [if_neg c1, if_neg c1]
    by_cases c2 : zprev (trow v u) (v 56 u) k = 0
    · rw [if_pos c2, if_pos c2]
      have q := l10 ((if zlst (trow v u) (v 56 u) (v 57 u) k ≤ 3 then zlst (trow v u) (v 56 u) (v 57 u) k else 3) - 1) (by split <;> omega) (by split <;> omega)
      show v (uc u + 2) _ = v 55 _
      rw [q]
      congr 1
      omega
    · rw [if_neg c2, if_neg c2]
theorem eqHr (h : INV sh v w R) {u k : Int} (u1 : 0 ≤ u) (u2 : u < v 48 2) (g : v 60 (8 * u + k) = 0 ∨ v 49 u ≤ v 60 (8 * u + k) ∧ v 60 (8 * u + k) ≤ v 50 u) : dHr v u k = prn v u k := by
  obtain ⟨-, -, ⟨hA, hr, -⟩, ⟨⟨-, et⟩, -⟩, -⟩ := h
  obtain ⟨⟨l1, l2, -⟩, l8, l9, -⟩ := hr.2.2.2.1 u u1 u2
  obtain ⟨s1, s2, s3, -⟩ := hA.2.2.1 u u1 u2
  unfold dHr prn zrn zcho
  rw [l1, l2, et]
  show v (uc u + 1) (if v 49 u ≤ v 60 (8 * u + k) ∧ v 60 (8 * u + k) ≤ v 50 u then v 60 (8 * u + k) - v 49 u + 1 else 0) = (if v 60 (8 * u + k) = 0 then 0 else v 54 (4 * u + v 60 (8 * u + k) - v 49 u))
  by_cases c : v 60 (8 * u + k) = 0
  · rw [if_neg (by omega), if_pos c]
    exact l8
  · rw [if_pos (by omega), if_neg c, l9 _ (by omega) (by omega)]
    congr 1
    omega
theorem eqCo (h : INV sh v w R) (hv : dVer v = 0) (what : Int) (hw : 0 ≤ what ∧ what ≤ 2) : dCo v what = pCo v what := by
  have n1 := (I_dN h).1
  have n2 := (I_dN h).2
  have pv := (eqVer h).symm.trans hv
  have hA := h.2.2.1.1
  have hr := h.2.2.1.2.1
  have hG := rG_of hA.2.2.2.2.1 pv
  have z1 := hr.1.1
  have z2 := hr.1.2
  have e1 : dCS v (v 32 1).toNat = pSt v := by
    unfold dCS pSt
    rw [hr.1.1, hr.1.2]
    exact zsum_cg _ (fun u a b => zsum_cg _ (fun k c d => eqSt h a (by omega) c (by omega)))
  have e2 : dCH v (v 32 1).toNat = pRn v := by
    unfold dCH pRn
    rw [hr.1.1, hr.1.2]
    exact zsum_cg _ (fun u a b => zsum_cg _ (fun k c d => eqHr h a (by omega) (hG u a (by omega) k c (by omega))))
  unfold dCo pCo
  rw [e1, e2]
  by_cases c0 : what = 0
  · rw [if_neg (by omega), if_neg (by omega), if_pos c0]
  · rw [if_neg c0]
    by_cases c1 : what = 1
    · rw [if_neg (by omega), if_pos c1, if_pos c1]
      omega
    · rw [if_pos (by omega), if_neg c1, if_neg c1]
      omega
theorem eqCn (h : INV sh v w R) (what : Int) : dCn v what = pCn v what := by
  have n1 := (I_dN h).1
  have hr := h.2.2.1.2.1
  have hk := h.2.2.2.1.2.2
  have es := h.2.2.2.2.1.1
  have e4 : dKn v 4 = pKn v 4 := by
    unfold dKn pKn
    exact zsum_cg 4 (fun i a b => by
      show (if v 31 i = 0 then 0 else 1) = (if v 62 i = 0 then 0 else 1)
      rw [(hk i a (by omega)).1])
  have d1 := fun k a b => (hr.2.1 k a b).1
  have d2 := fun k a b => (hr.2.1 k a b).2.1
  unfold dCn pCn dOh
  rw [hr.1.1, hr.1.2, es, e4]
  rw [hr.1.1] at n1
  by_cases c : 10 ≤ what ∧ what < 30
  · rw [if_pos c, if_neg (by omega), if_neg (by omega), if_neg (by omega), if_neg (by omega)]
    by_cases c2 : what < 20
    · rw [if_neg (by omega), if_pos c.1, show what % 10 = what - 10 by omega, if_pos c2]
      by_cases c3 : what - 10 < v 48 1
      · rw [if_pos c3, if_pos c3, d1 _ (by omega) (by omega)]
      · rw [if_neg c3, if_neg c3]
    · rw [if_pos (by omega), show what % 10 = what - 20 by omega, if_neg c2]
      by_cases c3 : what - 20 < v 48 1
      · rw [if_pos c3, if_pos c3, d2 _ (by omega) (by omega)]
      · rw [if_neg c3, if_neg c3]
  · rw [if_neg c]
    by_cases c0 : what = 0
    · rw [if_pos c0, if_pos c0]
    · rw [if_neg c0, if_neg c0]
      by_cases c1 : what = 1
      · rw [if_pos c1, if_pos c1]
      · rw [if_neg c1, if_neg c1]
        by_cases c2 : what = 2
        · rw [if_pos c2, if_pos c2]
        · rw [if_neg c2, if_neg c2]
          by_cases c3 : what = 3
          · rw [if_pos c3, if_pos c3]
          · rw [if_neg c3, if_neg c3]
            by_cases c4 : 20 ≤ what
            · rw [if_pos c4, if_neg (by omega)]
            · rw [if_neg c4, if_neg (by omega)]
end
