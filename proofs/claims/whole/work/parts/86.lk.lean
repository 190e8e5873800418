/-! The class's sets against the reference's: the states answer alike. -/
/-- a state of the reference as the class tells it -/
def fst3 (up s : Int) : Int := if s < 3 then s else s / 3 * 3 + (if up - 1 < s % 3 then up - 1 else s % 3)
theorem fst3_rng {up s : Int} (hu : 1 ≤ up ∧ up ≤ 3) (hs : 0 ≤ s ∧ s < 15) : 0 ≤ fst3 up s ∧ fst3 up s < 15 ∧ (fst3 up s < 3 ↔ s < 3) ∧ (s < 3 → fst3 up s = s) := by
  unfold fst3
  split
  · omega
  · split <;> omega
theorem znx_beh {lo hi up dn rp s c : Int} (h1 : 1 ≤ lo) (h2 : lo ≤ hi) (hu : 1 ≤ up ∧ up ≤ 3) (hs : 0 ≤ s ∧ s < 15) (hc : 0 ≤ c ∧ c < 5) : znx lo hi up dn rp (fst3 up s) c = if 0 ≤ z_beh lo hi up dn rp s c then fst3 up (z_beh lo hi up dn rp s c) else -1 := by
  obtain ⟨w, n, hw, hn, rfl⟩ : ∃ w n, (0 ≤ w ∧ w < 5) ∧ (0 ≤ n ∧ n < 3) ∧ s = 3 * w + n := ⟨s / 3, s % 3, by omega, by omega, by omega⟩
  have d1 : (3 * w + n) / 3 = w := by omega
  have d2 : (3 * w + n) % 3 = n := by omega
  by_cases c0 : c ≤ hi - lo + 1
  · by_cases w0 : w = 0
    · subst w0
      have e : fst3 up (3 * 0 + n) = n := by unfold fst3; rw [if_pos (by omega)]; omega
      have e1 : n / 3 = 0 := by omega
      have e2 : n % 3 = n := by omega
      have e3 : (3 * 0 + n) % 3 = n := by omega
      rw [e]
      unfold znx z_beh z_more
      rw [e1, e2, e3, if_pos (show c = 0 ∨ lo + c - 1 ≤ hi by omega), if_pos c0, if_neg (show ¬ (3 : Int) ≤ 3 * 0 + n by omega), if_pos rfl, if_pos rfl]
      unfold fst3
      (repeat' split) <;> omega
    · have e : fst3 up (3 * w + n) = w * 3 + (if up - 1 < n then up - 1 else n) := by unfold fst3; rw [if_neg (by omega), d1, d2]
      rw [e]
      unfold znx z_beh z_more
      rw [d1, d2, if_pos (show c = 0 ∨ lo + c - 1 ≤ hi by omega), if_pos c0, if_pos (show (3 : Int) ≤ 3 * w + n by omega)]
      have e1 : (w * 3 + (if up - 1 < n then up - 1 else n)) / 3 = w := by split <;> omega
      have e2 : (w * 3 + (if up - 1 < n then up - 1 else n)) % 3 = (if up - 1 < n then up - 1 else n) := by split <;> omega
      rw [e1, e2, if_neg w0, if_neg w0]
      unfold fst3
      (repeat' split) <;> omega
  · unfold znx z_beh
    rw [if_neg (by omega), if_neg c0, if_neg (by omega)]
/-- a set of the class stands as the reference's -/
def RU (v : Nat → Int → Int) (u : Int) : Prop := (v (uc u) 0 = v 49 u ∧ v (uc u) 1 = v 50 u ∧ v (uc u) 2 = v 51 u ∧ v (uc u) 3 = v 52 u ∧ v (uc u) 4 = v 53 u ∧ v (uc u) 5 = v 56 u ∧ v (uc u) 6 = v 57 u) ∧ v (uc u + 1) 0 = 0 ∧ (∀ c, 1 ≤ c → c < 5 → v (uc u + 1) c = v 54 (4 * u + c - 1)) ∧ (∀ s, 0 ≤ s → s < 3 → v (uc u + 2) s = v 55 (3 * u + s))
def RX (v : Nat → Int → Int) (u : Int) : Prop := ∀ s c, 0 ≤ s → s < 15 → 0 ≤ c → c < 5 → v (uc u + 3) (s * 5 + c) = dX v (uc u) s c
theorem vi49 {v : Nat → Int → Int} (hR : rU v) {n : Nat} (hn : n < 3) : vi (zs v) 49 n = v 49 n ∧ vi (zs v) 50 n = v 50 n ∧ vi (zs v) 51 n = v 51 n ∧ vi (zs v) 52 n = v 52 n ∧ vi (zs v) 53 n = v 53 n ∧ vi (zs v) 56 n = v 56 n ∧ vi (zs v) 57 n = v 57 n := by
  obtain ⟨r1, r2, r3, r4, r5, r6, r7⟩ := hR n (by omega) (by omega)
  exact ⟨vi_zs (by omega), vi_zs (by omega), vi_zs (by omega), vi_zs (by omega), vi_zs (by omega), vi_zs (by omega), vi_zs (by omega)⟩
theorem dF_mF {v : Nat → Int → Int} (hR : rU v) (hS : rS v) {n : Nat} (hn : n < 3) (hu : (n : Int) < v 48 2) (hL : RU v n) : dF v (uc n) = fst3 (v 51 n) (mF (zs v) n) := by
  obtain ⟨e1, e2, e3, e4, e5, e6, e7⟩ := vi49 hR hn
  obtain ⟨s1, s2, s3, s4, s5, s6, s7, s8⟩ := hS n (by omega) hu
  obtain ⟨r1, r2, r3, r4, r5, r6, r7⟩ := hR n (by omega) (by omega)
  obtain ⟨⟨l1, l2, l3, l4, l5, l6, l7⟩, -⟩ := hL
  unfold dF zsb zcho mF fst3
  rw [l1, l2, l3, l6, l7, e1, e6, e7]
  (repeat' split) <;> omega
theorem dpT_rfT {v : Nat → Int → Int} (hR : rU v) (hC : rC v) (hS : rS v) (hD : rD v) {n : Nat} (hn : n < 3) (hu : (n : Int) < v 48 2) (hL : RU v n) (hX : RX v n) (hP : ∀ h, 0 ≤ h → h < 8 → v 16 h = v 63 h) (h s c : Nat) (hh : h < 8) (hg : mG (zs v) n s) : dpT v (uc n) h (fst3 (v 51 n) s).toNat c = match rfT (zs v) n h s c with | none => none | some (s1, k) => some ((fst3 (v 51 n) s1).toNat, k) := by
  obtain ⟨e1, e2, e3, e4, e5, e6, e7⟩ := vi49 hR hn
  obtain ⟨s1, s2, s3, s4, s5, s6, s7, s8⟩ := hS n (by omega) hu
  obtain ⟨r1, r2, r3, r4, r5, r6, r7⟩ := hR n (by omega) (by omega)
  obtain ⟨⟨l1, l2, l3, l4, l5, l6, l7⟩, l8, l9, l10⟩ := hL
  obtain ⟨g1, g2, g3⟩ := hg
  have up : 1 ≤ v 51 n ∧ v 51 n ≤ 3 := by omega
  obtain ⟨f1, f2, f3, f4⟩ := fst3_rng up (s := s) (by omega)
  by_cases c5 : c < 5
  · have z := znx_beh (dn := v 52 n) (rp := v 53 n) (c := c) s1 s2 up (s := s) (by omega) (by omega)
    have x := hX (fst3 (v 51 n) s) c f1 f2 (by omega) (by omega)
    unfold dX at x
    rw [l1, l2, l3, l4, l5, z] at x
    have ef : (((fst3 (v 51 n) s).toNat : Nat) : Int) = fst3 (v 51 n) s := by omega
    have eb : mB (zs v) n s c = z_beh (v 49 n) (v 50 n) (v 51 n) (v 52 n) (v 53 n) s c := by
      unfold mB
      rw [e1, e2, e3, e4, e5]
    have b1 : z_beh (v 49 n) (v 50 n) (v 51 n) (v 52 n) (v 53 n) s c < 15 := by
      unfold z_beh z_more
      (repeat' split) <;> omega
    have cost : lcs v (uc n) (v 16 h) (fst3 (v 51 n) s) c = mA (zs v) n h s c := by
      unfold lcs cstp mA mC mT zout
      have p1 := (hD h (by omega) (by omega)).2.2
      rw [vi_zs (v := v) (a := 63) (j := h) (by omega), hP h (by omega) (by omega), l1, e1]
      by_cases c0 : c = 0
      · subst c0
        rw [if_neg (by simp), if_pos (by rfl), if_pos rfl, if_pos rfl]
        show v (uc n + 1) 0 + 0 - _ = _
        rw [l8]
        omega
      · have w1 := hC.1 (4 * n + c - 1) (by omega) (by omega)
        rw [if_neg (show ¬ ((c : Int) = 0) by omega), if_neg c0, if_neg c0]
        rw [vi_zs (v := v) (a := 54) (j := 4 * n + c - 1) (by rw [show ((4 * n + c - 1 : Nat) : Int) = 4 * n + c - 1 by omega]; omega), show ((4 * n + c - 1 : Nat) : Int) = 4 * (n : Int) + c - 1 by omega, l9 c (by omega) (by omega)]
        by_cases sl : s < 3
        · have w2 := hC.2 (3 * n + s) (by omega) (by omega)
          rw [if_pos (show fst3 (v 51 n) s < 3 ∧ (c : Int) ≠ 0 by omega), if_pos sl, f4 (by omega), l10 s (by omega) (by omega), vi_zs (v := v) (a := 55) (j := 3 * n + s) (by rw [show ((3 * n + s : Nat) : Int) = 3 * n + s by omega]; omega), show ((3 * n + s : Nat) : Int) = 3 * (n : Int) + s by omega]
        · rw [if_neg (show ¬ (fst3 (v 51 n) s < 3 ∧ (c : Int) ≠ 0) by omega), if_neg sl]
    unfold dpT rfT
    rw [ef, x, cost, eb]
    by_cases b0 : 0 ≤ z_beh (v 49 n) (v 50 n) (v 51 n) (v 52 n) (v 53 n) s c
    · have f5 := fst3_rng up (s := z_beh (v 49 n) (v 50 n) (v 51 n) (v 52 n) (v 53 n) s c) ⟨b0, b1⟩
      rw [if_pos b0, if_pos (show (fst3 (v 51 n) s).toNat < 15 ∧ c < 5 ∧ _ ≠ (-1 : Int) from ⟨by omega, c5, by omega⟩), if_pos ⟨⟨g1, g2, g3⟩, c5, b0⟩]
      simp only
      rw [show (((z_beh (v 49 n) (v 50 n) (v 51 n) (v 52 n) (v 53 n) s c).toNat : Nat) : Int) = z_beh (v 49 n) (v 50 n) (v 51 n) (v 52 n) (v 53 n) s c by omega]
    · rw [if_neg b0, if_neg (fun q => q.2.2 rfl), if_neg (fun q => b0 q.2.2)]
  · unfold dpT rfT
    rw [if_neg (fun q => c5 q.2.1), if_neg (fun q => c5 q.2.1)]
/-- the class's best way alone is the reference's -/
theorem link_best {v : Nat → Int → Int} (hA : rA v) {n : Nat} (hu : (n : Int) < v 48 2) (hL : RU v n) (hX : RX v n) (hP : ∀ h, 0 ≤ h → h < 8 → v 16 h = v 63 h) : dp_best (dpT v (uc n)) 5 (v 48 1).toNat 0 (dF v (uc n)).toNat (xC v n) (rcs (zs v) n (v 48 1).toNat (v 48 1).toNat 0) := by
  obtain ⟨hR, hC, hS, hD, hN, -⟩ := hA
  have n1 := hN.1
  have n2 := hN.2
  have hn : n < 3 := by omega
  obtain ⟨g1, g2⟩ := mU_zs hR hC hS (u := n) hn hu
  have hp : ∀ h : Nat, h < 8 → -100000 ≤ vi (zs v) 63 h ∧ vi (zs v) 63 h ≤ 100000 := fun h hh => by
    have := (hD h (by omega) (by omega)).2.2
    rw [vi_zs (by omega)]
    exact this
  have b := rf_best (hrs := (v 48 1).toNat) g1 (by omega) hp g2
  have g2' : (((mF (zs v) n).toNat : Nat) : Int) = mF (zs v) n := by have := g2.1; omega
  have m := dp_best_map (U := dpT v (uc n)) 8 (fun s => (fst3 (v 51 n) s).toNat) (fun s => mG (zs v) n s) (fun h s c s1 k _ e => rfT_good g1 e) (fun h s c hh hg => dpT_rfT hR hC hS hD hn hu hL hX hP h s c hh hg) (by omega) (by rw [g2']; exact g2) b
  rw [g2'] at m
  rw [dF_mF hR hS hn hu hL]
  unfold xC
  rw [Int.toNat_natCast]
  exact m
theorem link_way {v : Nat → Int → Int} (hA : rA v) {n : Nat} (hu : (n : Int) < v 48 2) (hL : RU v n) (hX : RX v n) (hP : ∀ h, 0 ≤ h → h < 8 → v 16 h = v 63 h) : hasWay (dpT v (uc n)) (v 48 1).toNat (dF v (uc n)).toNat := by
  obtain ⟨b1, b2, ⟨s, b3⟩, -⟩ := link_best hA hu hL hX hP
  exact ⟨_, s, _, b1, b2, b3⟩
theorem link_LG {v w : Nat → Int → Int} (hA : rA v) {n : Nat} (hu : (n : Int) < v 48 2) (hL : RU v n) (hX : RX v n) (hP : ∀ h, 0 ≤ h → h < 8 → v 16 h = v 63 h) (g : LG v w (v 48 1) n) : w 17 n = xC v n ∧ ∀ h, 0 ≤ h → h < v 48 1 → v 18 (8 * n + h) = xL v n h := by
  obtain ⟨cs, c1, c2⟩ := g
  obtain ⟨e1, e2⟩ := dp_best_one c1 (link_best hA hu hL hX hP)
  refine ⟨e1, fun h h1 h2 => ?_⟩
  have n1 := hA.2.2.2.2.1.1
  have n2 := hA.2.2.2.2.1.2
  rw [c2 h h1 h2, e2, rcs_at _ _ _ (by omega), Nat.zero_add]
  obtain ⟨v1, -⟩ := vi49 hA.1 (n := n) (by omega)
  unfold xL mT zout
  rw [Int.toNat_natCast, v1, hL.1.1]
  by_cases q : mX (zs v) n (v 48 1).toNat h.toNat (mS (zs v) n (v 48 1).toNat h.toNat).toNat = 0
  · rw [if_pos (by omega), if_pos q]
  · rw [if_neg (by omega), if_neg q]
