theorem zi_lit (n : Nat) : (OfNat.ofNat n : Int32) = zi n := by
  unfold zi
  exact (Int32.ofInt_eq_ofNat).symm
theorem zi_cg {a b : Int} {H : q_H} {Q : Int32 → q_H → Prop} (h : Q (zi a) H) (e : b = a) : Q (zi b) H := e ▸ h
/-- the reference's 'behind': the state behind an hour of a choice, -1 if none -/
def z_beh (lo hi up dn rp s c : Int) : Int :=
  if c ≤ hi - lo + 1 then
    (if 3 ≤ s then
      (if c = 0 then (if up ≤ s % 3 + 1 then 0 else -1)
       else if (if c - 1 ≤ s / 3 - 1 then (s / 3 - 1) - (c - 1) else (c - 1) - (s / 3 - 1)) ≤ rp then 3 + 3 * (c - 1) + z_more (s % 3) else -1)
     else if c = 0 then z_more (s % 3) else if s % 3 + 1 < dn then -1 else if c - 1 ≤ rp then 3 + 3 * (c - 1) else -1)
  else -1
theorem sp_Mod_behind (xs : List Int32) (u : Nat) (lo hi up dn rp s c : Int) (hu : u < 3) (H : q_H) (hH : lay_m H) (h49 : H.2.1 49 u = zi lo) (h50 : H.2.1 50 u = zi hi) (h51 : H.2.1 51 u = zi up) (h52 : H.2.1 52 u = zi dn) (h53 : H.2.1 53 u = zi rp) (r1 : 0 ≤ lo ∧ lo ≤ 60) (r2 : 0 ≤ hi ∧ hi ≤ 60) (r3 : 0 ≤ up ∧ up ≤ 3) (r4 : 0 ≤ dn ∧ dn ≤ 3) (r5 : 0 ≤ rp ∧ rp ≤ 3) (hs : 0 ≤ s ∧ s < 15) (hc : 0 ≤ c ∧ c < 5) (Q : Int32 → q_H → Prop) (h : Q (zi (z_beh lo hi up dn rp s c)) H) : q_CallI (GG xs) PP kMod_behind [.ref 48, .int (zi u), .int (zi s), .int (zi c)] H Q := by
  have far : ∀ f : Int, 0 ≤ f → f < 100 → (∀ x, x = (if f ≤ rp then 3 + 3 * (c - 1) + z_more (s % 3) else -1) → Q (zi x) H) → q_Rt (GG xs) PP 42 (q_FI Q) 133 [some (.ref 48), some (.int (zi u)), none, none, some (.int (zi (s % 3))), none, some (.int (zi (c - 1))), none] [.int (zi f)] H := by
    intro f f1 f2 hq
    refine b_Mod_behind_133 xs _ 48 (zi u) (zi (s % 3)) (zi (c - 1)) (zi f) H ?_
    simp (discharger := omega) [hH, zi_ixn hu, h53, zi_lit, zi_le, zi_lt, zi_neg, zi_mul, zi_add]
    refine ⟨fun e => ?_, fun e => ?_⟩
    · refine sp_Mod_more xs (s % 3) (by omega) (by omega) H _ ?_
      show Q (zi _ + zi _) H
      rw [zi_add]
      exact hq _ (by rw [if_pos e])
    · exact hq _ (by rw [if_neg (by omega)])
  refine e_Mod_behind xs _ 48 (zi u) (zi s) (zi c) H ?_
  simp (discharger := omega) [hH, zi_ixn hu, h49, h50, h51, h52, h53, zi_lit, zi_sub, zi_add, zi_mul, zi_div, zi_le, zi_lt, zi_eq, zi_neg]
  rw [show s - s / 3 * 3 = s % 3 by omega]
  unfold z_beh at h
  refine ⟨fun c1 => ⟨fun c2 => ⟨fun c3 => ⟨fun c4 => ?_, fun c4 => ?_⟩, fun c3 => ⟨fun c4 => ?_, fun c4 => ?_⟩⟩, fun c2 => ⟨fun c3 => ⟨fun c4 => ?_, fun c4 => ⟨fun c5 => ?_, fun c5 => ?_⟩⟩, fun c3 => ?_⟩⟩, fun c1 => ?_⟩
  · exact far _ (by omega) (by omega) (fun x hx => zi_cg h (by rw [hx]; (repeat' split) <;> omega))
  · exact far _ (by omega) (by omega) (fun x hx => zi_cg h (by rw [hx]; (repeat' split) <;> omega))
  · exact zi_cg (Q := Q) h (by (repeat' split) <;> omega)
  · exact zi_cg (Q := Q) h (by (repeat' split) <;> omega)
  · exact zi_cg (Q := Q) h (by (repeat' split) <;> omega)
  · exact zi_cg (Q := Q) h (by (repeat' split) <;> omega)
  · exact zi_cg (Q := Q) h (by (repeat' split) <;> omega)
  · exact sp_Mod_more xs (s % 3) (by omega) (by omega) H _ (zi_cg (Q := Q) h (by (repeat' split) <;> omega))
  · exact zi_cg (Q := Q) h (by (repeat' split) <;> omega)
