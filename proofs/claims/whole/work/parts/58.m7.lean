theorem pa_0 (xs : List Int32) (u hrs : Nat) (hh : hrs ≤ 8) (sh : List q_Sh) (S : Nat → Nat → Int32) (R : Nat → Nat → Option Nat) (L0 : Nat → Nat → Int64) (hH : lay_m (sh, S, L0, R)) (hS : S 48 1 = zi hrs) (F : Option Value → q_H → Prop)
    (hk : ∀ L : Nat → Nat → Int64, (∀ t : Nat, t < 15 → L 65 (15 * hrs + t) = zl 0) → (∀ a j, a ≠ 65 → L a j = L0 a j) → q_Rt (GG xs) PP 65 F 36 [some (.ref 48), some (.int (zi u)), some (.int (zi ((hrs : Int) - 1))), none, none, none, none] [] (sh, S, L, R)) :
    ∀ n s : Nat, s + n = 15 → ∀ L : Nat → Nat → Int64, (∀ t : Nat, t < s → L 65 (15 * hrs + t) = zl 0) → (∀ a j, a ≠ 65 → L a j = L0 a j) → q_Rt (GG xs) PP 65 F 2 [some (.ref 48), some (.int (zi u)), some (.int (zi s)), none, none, none, none] [] (sh, S, L, R)
  | 0, s, hs, L, h1, h2 => by
    have s15 : s = 15 := by omega
    subst s15
    refine b_Mod_planAlone_2 xs F 48 (zi u) (zi (15 : Nat)) (sh, S, L, R) ⟨fun _ => ⟨hH.1, ?_⟩, fun e => absurd (by decide) e⟩
    show q_Rt _ _ _ _ _ [_, _, some (.int (S 48 1 - 1)), _, _, _, _] _ _
    rw [hS, show (1 : Int32) = zi 1 from rfl, zi_sub]
    exact hk L h1 h2
  | n + 1, s, hs, L, h1, h2 => by
    have ih := pa_0 xs u hrs hh sh S R L0 hH hS F hk n (s + 1) (by omega)
    have hs15 : ¬ (15 : Int32) ≤ zi s := by
      rw [show (15 : Int32) = zi 15 from rfl, zi_le (by omega) (by omega) (by omega) (by omega)]
      omega
    refine b_Mod_planAlone_2 xs F 48 (zi u) (zi s) (sh, S, L, R) ⟨fun e => absurd e hs15, fun _ => ?_⟩
    have ix : q_ix (zi (15 * (hrs : Int) + s)) 135 = some (15 * hrs + s) := by
      rw [zi_ix (by omega) (by omega) (by omega)]
      congr 1
    refine ⟨hH.1, 65, lm_r48_21 hH, hH.1, 135, 15 * hrs + s, lm_s65 hH, ?_, ?_⟩
    · show q_ix (15 * S 48 1 + zi s) 135 = _
      rw [hS, show (15 : Int32) = zi 15 from rfl, zi_mul, zi_add]
      exact ix
    · rw [zi_suc]
      refine ih _ (fun t ht => ?_) (fun a j ha => ?_)
      · show q_up L 65 (15 * hrs + s) 0 65 (15 * hrs + t) = _
        by_cases e : t = s
        · subst e
          simp [q_up]
          rfl
        · rw [show q_up L 65 (15 * hrs + s) 0 65 (15 * hrs + t) = L 65 (15 * hrs + t) by simp [q_up]; omega]
          exact h1 t (by omega)
      · show q_up L 65 (15 * hrs + s) 0 a j = _
        rw [← h2 a j ha]
        simp [q_up, ha]
/-- the first choice from c on, of n, that comes to m -/
def fs5 (f : Nat → Int) (m : Int) : Nat → Nat → Nat
  | 0, c => c
  | n + 1, c => if f c = m then c else fs5 f m n (c + 1)
def mX (S : Nat → Nat → Int32) (u hrs h s : Nat) : Nat := fs5 (mY S (mW S u hrs (hrs - (h + 1))) u h s) (mW S u hrs (hrs - h) s) 5 0
/-- the states hour by hour -/
def mS (S : Nat → Nat → Int32) (u hrs : Nat) : Nat → Int
  | 0 => mF S u
  | h + 1 => mB S u (mS S u hrs h).toNat (mX S u hrs h (mS S u hrs h).toNat)
def mG (S : Nat → Nat → Int32) (u : Nat) (s : Int) : Prop := 0 ≤ s ∧ s < 15 ∧ (s < 3 ∨ s / 3 - 1 ≤ vi S 50 u - vi S 49 u)
theorem mB_good {S : Nat → Nat → Int32} {u : Nat} (hU : mU S u) {s c : Int} (hs : 0 ≤ s ∧ s < 15) (hc : 0 ≤ c ∧ c < 5) (h : 0 ≤ mB S u s c) : mG S u (mB S u s c) := by
  have h1 := mB_rng hU hs hc
  refine ⟨h, h1.2, ?_⟩
  revert h h1
  unfold mB z_beh z_more
  (repeat' split) <;> omega
/-- from a good state there is a choice that goes on -/
theorem mB_stay {S : Nat → Nat → Int32} {u : Nat} (hU : mU S u) {s : Int} (hg : mG S u s) : ∃ c : Nat, c < 5 ∧ 0 ≤ mB S u s c := by
  obtain ⟨g1, g2, g3⟩ := hg
  obtain ⟨u1, u2, u3, u4, u5, -, -, -, -, u6⟩ := hU
  by_cases h : s < 3
  · refine ⟨0, by omega, ?_⟩
    unfold mB z_beh z_more
    (repeat' split) <;> omega
  · refine ⟨(s / 3).toNat, by omega, ?_⟩
    unfold mB z_beh z_more
    (repeat' split) <;> omega
theorem mn5_at (f : Nat → Int) : ∀ n, mn5 f n = NV ∨ ∃ c, c < n ∧ f c = mn5 f n
  | 0 => Or.inl rfl
  | n + 1 => by
    unfold mn5
    split
    · exact Or.inr ⟨n, by omega, rfl⟩
    · rcases mn5_at f n with h | ⟨c, h1, h2⟩
      · exact Or.inl h
      · exact Or.inr ⟨c, by omega, h2⟩
theorem mn5_lb (f : Nat → Int) : ∀ n c, c < n → mn5 f n ≤ f c
  | 0, c, h => by omega
  | n + 1, c, h => by
    unfold mn5
    by_cases e : c = n
    · subst e
      split <;> omega
    · have := mn5_lb f n c (by omega)
      split <;> omega
theorem mW_good {S : Nat → Nat → Int32} {u hrs : Nat} (hU : mU S u) (hh : hrs ≤ 8) (hp : ∀ h, h < 8 → -100000 ≤ vi S 63 h ∧ vi S 63 h ≤ 100000) : ∀ r, r ≤ hrs → ∀ s, mG S u s → mW S u hrs r s ≤ 6350000 * (r : Int)
  | 0, _, s, _ => by
    unfold mW
    omega
  | r + 1, hr, s, hg => by
    have ih := mW_good hU hh hp r (by omega)
    obtain ⟨c, hc, hb⟩ := mB_stay hU hg
    have hs : ((s.toNat : Nat) : Int) = s := by have := hg.1; omega
    have h1 := mA_rng (s := s.toNat) hU hc (hp (hrs - (r + 1)) (by omega))
    have h2 := mn5_lb (mY S (mW S u hrs r) u (hrs - (r + 1)) s.toNat) 5 c hc
    have h3 : mY S (mW S u hrs r) u (hrs - (r + 1)) s.toNat c = mA S u (hrs - (r + 1)) s.toNat c + mW S u hrs r (mB S u s c) := by
      unfold mY
      rw [hs, if_pos hb]
    have h4 := ih _ (mB_good hU ⟨hg.1, hg.2.1⟩ (by omega) hb)
    unfold mW
    omega
theorem fs5_at {f : Nat → Int} {m : Int} : ∀ (n c : Nat), (∃ d, c ≤ d ∧ d < c + n ∧ f d = m) → c ≤ fs5 f m n c ∧ fs5 f m n c < c + n ∧ f (fs5 f m n c) = m ∧ ∀ d, c ≤ d → d < fs5 f m n c → f d ≠ m
  | 0, c, ⟨d, h1, h2, _⟩ => by omega
  | n + 1, c, ⟨d, h1, h2, h3⟩ => by
    unfold fs5
    split
    · rename_i e
      exact ⟨by omega, by omega, e, fun d q1 q2 => by omega⟩
    · rename_i e
      have hd : d ≠ c := fun q => e (by rw [← q]; exact h3)
      obtain ⟨a1, a2, a3, a4⟩ := fs5_at n (c + 1) ⟨d, by omega, by omega, h3⟩
      refine ⟨by omega, by omega, a3, fun d q1 q2 => ?_⟩
      by_cases q : d = c
      · rw [q]; exact e
      · exact a4 d (by omega) q2
/-- what the chosen choice is: in range, and it goes on to a good state -/
theorem mX_ok {S : Nat → Nat → Int32} {u hrs : Nat} (hU : mU S u) (hh : hrs ≤ 8) (hp : ∀ h, h < 8 → -100000 ≤ vi S 63 h ∧ vi S 63 h ≤ 100000) {h s : Nat} (hlt : h < hrs) (hg : mG S u s) : mX S u hrs h s < 5 ∧ mY S (mW S u hrs (hrs - (h + 1))) u h s (mX S u hrs h s) = mW S u hrs (hrs - h) s ∧ (∀ d, d < mX S u hrs h s → mY S (mW S u hrs (hrs - (h + 1))) u h s d ≠ mW S u hrs (hrs - h) s) ∧ 0 ≤ mB S u s (mX S u hrs h s) := by
  have nv : NV = 1152921504606846976 := rfl
  have hW := mW_good hU hh hp (hrs - h) (by omega) s hg
  have e1 : mW S u hrs (hrs - h) s = mn5 (mY S (mW S u hrs (hrs - (h + 1))) u h s) 5 := by
    rw [show hrs - h = (hrs - (h + 1)) + 1 by omega]
    show mn5 (mY S (mW S u hrs (hrs - (h + 1))) u (hrs - (hrs - (h + 1) + 1)) ((s : Int).toNat)) 5 = _
    rw [show hrs - (hrs - (h + 1) + 1) = h by omega, Int.toNat_natCast]
  have ex : ∃ d, 0 ≤ d ∧ d < 0 + 5 ∧ mY S (mW S u hrs (hrs - (h + 1))) u h s d = mW S u hrs (hrs - h) s := by
    rcases mn5_at (mY S (mW S u hrs (hrs - (h + 1))) u h s) 5 with q | ⟨c, h1, h2⟩
    · rw [← e1] at q
      omega
    · exact ⟨c, by omega, by omega, by rw [e1]; exact h2⟩
  obtain ⟨a1, a2, a3, a4⟩ := fs5_at 5 0 ex
  refine ⟨by unfold mX; omega, a3, fun d hd => a4 d (by omega) hd, ?_⟩
  have a3' : mY S (mW S u hrs (hrs - (h + 1))) u h s (mX S u hrs h s) = mW S u hrs (hrs - h) s := a3
  unfold mY at a3'
  split at a3'
  · rename_i q
    exact q
  · omega
theorem mS_good {S : Nat → Nat → Int32} {u hrs : Nat} (hU : mU S u) (hh : hrs ≤ 8) (hp : ∀ h, h < 8 → -100000 ≤ vi S 63 h ∧ vi S 63 h ≤ 100000) (hF : mG S u (mF S u)) : ∀ h, h ≤ hrs → mG S u (mS S u hrs h)
  | 0, _ => hF
  | h + 1, hl => by
    have ih := mS_good hU hh hp hF h (by omega)
    have hs : (((mS S u hrs h).toNat : Nat) : Int) = mS S u hrs h := by have := ih.1; omega
    have hx := mX_ok hU hh hp (h := h) (s := (mS S u hrs h).toNat) (by omega) (by rw [hs]; exact ih)
    unfold mS
    have i1 := ih.1
    have i2 := ih.2.1
    exact mB_good hU (by omega) (by omega) hx.2.2.2
