/-! The reference's plan of a set alone is the best one. -/
section
variable {S : Nat → Nat → Int32} {u hrs : Nat}
def rfT (S : Nat → Nat → Int32) (u : Nat) : dp_T := fun h s c => if (0 ≤ (s : Int) ∧ (s : Int) < 15 ∧ ((s : Int) < 3 ∨ (s : Int) / 3 - 1 ≤ vi S 50 u - vi S 49 u)) ∧ c < 5 ∧ 0 ≤ mB S u s c then some ((mB S u s c).toNat, mA S u h s c) else none
def rfV (S : Nat → Nat → Int32) (u hrs h s : Nat) : Option Int := if h = hrs then some 0 else if (0 ≤ (s : Int) ∧ (s : Int) < 15 ∧ ((s : Int) < 3 ∨ (s : Int) / 3 - 1 ≤ vi S 50 u - vi S 49 u)) then some (mW S u hrs (hrs - h) s) else none
theorem rfT_some {h s c s1 : Nat} {k : Int} : rfT S u h s c = some (s1, k) ↔ (mG S u s ∧ c < 5 ∧ 0 ≤ mB S u s c) ∧ mB S u s c = s1 ∧ mA S u h s c = k := by
  unfold rfT
  constructor
  · intro e
    split at e
    · rename_i q
      simp only [Option.some.injEq, Prod.mk.injEq] at e
      have := q.2.2
      exact ⟨q, by omega, e.2⟩
    · cases e
  · intro e
    obtain ⟨e1, e2, e3⟩ := e
    unfold mG at e1
    rw [if_pos e1, e2, e3, Int.toNat_natCast]
theorem rfV_at {h s : Nat} (hg : mG S u s) : rfV S u hrs h s = some (mW S u hrs (hrs - h) s) := by
  unfold rfV
  by_cases q : h = hrs
  · rw [if_pos q, q, Nat.sub_self]
    rfl
  · unfold mG at hg
    rw [if_neg q, if_pos hg]
theorem rfT_good (hU : mU S u) {h s c s1 : Nat} {k : Int} (e : rfT S u h s c = some (s1, k)) : mG S u s1 := by
  obtain ⟨⟨g, hc, hb⟩, e1, -⟩ := rfT_some.mp e
  rw [← e1]
  exact mB_good hU ⟨g.1, g.2.1⟩ (by omega) hb
theorem rf_val (hU : mU S u) {h s c s1 : Nat} {k v : Int} (hh : h < hrs) (e : rfT S u h s c = some (s1, k)) (ev : rfV S u hrs (h + 1) s1 = some v) : mY S (mW S u hrs (hrs - (h + 1))) u h s c = k + v := by
  obtain ⟨⟨g, hc, hb⟩, e1, e2⟩ := rfT_some.mp e
  rw [rfV_at (rfT_good hU e)] at ev
  simp only [Option.some.injEq] at ev
  unfold mY
  rw [if_pos hb, e1, e2, ev]
theorem mW_s {h s : Nat} (hlt : h < hrs) : mW S u hrs (hrs - h) s = mn5 (mY S (mW S u hrs (hrs - (h + 1))) u h s) 5 := by
  rw [show hrs - h = (hrs - (h + 1)) + 1 by omega]
  show mn5 (mY S (mW S u hrs (hrs - (h + 1))) u (hrs - (hrs - (h + 1) + 1)) ((s : Int).toNat)) 5 = _
  rw [show hrs - (hrs - (h + 1) + 1) = h by omega, Int.toNat_natCast]
theorem rf_go (hU : mU S u) (hh : hrs ≤ 8) (hp : ∀ h, h < 8 → -100000 ≤ vi S 63 h ∧ vi S 63 h ≤ 100000) {h s : Nat} (hlt : h < hrs) (hg : mG S u s) : mX S u hrs h s < 5 ∧ ∃ s1 k v, rfT S u h s (mX S u hrs h s) = some (s1, k) ∧ rfV S u hrs (h + 1) s1 = some v ∧ rfV S u hrs h s = some (k + v) ∧ (s1 : Int) = mB S u s (mX S u hrs h s) := by
  obtain ⟨x1, x2, x3, x4⟩ := mX_ok hU hh hp hlt hg
  have e : rfT S u h s (mX S u hrs h s) = some ((mB S u s (mX S u hrs h s)).toNat, mA S u h s (mX S u hrs h s)) := rfT_some.mpr ⟨⟨hg, x1, x4⟩, by omega, rfl⟩
  have g1 := rfT_good hU e
  have ev := rfV_at (hrs := hrs) (h := h + 1) g1
  refine ⟨x1, _, _, _, e, ev, ?_, by omega⟩
  rw [rfV_at hg, ← x2, rf_val hU hlt e ev]
theorem rf_back (hU : mU S u) (hh : hrs ≤ 8) (hp : ∀ h, h < 8 → -100000 ≤ vi S 63 h ∧ vi S 63 h ≤ 100000) (h s : Nat) (hlt : h < hrs) : dp_back (rfT S u) 5 (rfV S u hrs) h s := by
  refine ⟨fun c s1 k v hc e ev => ?_, fun m hm => ?_⟩
  · have g := (rfT_some.mp e).1.1
    refine ⟨_, rfV_at g, ?_⟩
    rw [mW_s hlt, ← rf_val hU hlt e ev]
    exact mn5_lb _ 5 c hc
  · by_cases hg : mG S u s
    · obtain ⟨x1, s1, k, v, e1, e2, e3, -⟩ := rf_go hU hh hp hlt hg
      rw [hm] at e3
      simp only [Option.some.injEq] at e3
      exact ⟨_, s1, k, v, x1, e1, e2, e3⟩
    · unfold rfV at hm
      unfold mG at hg
      rw [if_neg (by omega), if_neg hg] at hm
      cases hm
theorem rf_first (hU : mU S u) (hh : hrs ≤ 8) (hp : ∀ h, h < 8 → -100000 ≤ vi S 63 h ∧ vi S 63 h ≤ 100000) {h s : Nat} (hlt : h < hrs) (hg : mG S u s) : dp_first (rfT S u) 5 (rfV S u hrs) h s (mX S u hrs h s) := by
  obtain ⟨x1, s1, k, v, e1, e2, e3, -⟩ := rf_go hU hh hp hlt hg
  refine ⟨⟨x1, s1, k, v, e1, e2, e3⟩, fun d hd => ?_⟩
  rintro ⟨s2, k2, v2, f1, f2, f3⟩
  obtain ⟨-, -, x3, -⟩ := mX_ok hU hh hp hlt hg
  refine x3 d hd ?_
  rw [rf_val hU hlt f1 f2]
  rw [rfV_at hg] at f3
  exact (Option.some.inj f3).symm
/-- the reference's choices from an hour on -/
def rcs (S : Nat → Nat → Int32) (u hrs : Nat) : Nat → Nat → List Nat
  | 0, _ => []
  | r + 1, h => mX S u hrs h (mS S u hrs h).toNat :: rcs S u hrs r (h + 1)
theorem rcs_len : ∀ r h, (rcs S u hrs r h).length = r
  | 0, _ => rfl
  | r + 1, h => by
    unfold rcs
    rw [List.length_cons, rcs_len r]
theorem rcs_at : ∀ r h i, i < r → (rcs S u hrs r h).getD i 0 = mX S u hrs (h + i) (mS S u hrs (h + i)).toNat
  | 0, _, i, hi => by omega
  | r + 1, h, 0, hi => rfl
  | r + 1, h, i + 1, hi => by
    unfold rcs
    rw [List.getD_cons_succ, rcs_at r (h + 1) i (by omega), show h + 1 + i = h + (i + 1) by omega]
theorem rcs_goes (hU : mU S u) (hh : hrs ≤ 8) (hp : ∀ h, h < 8 → -100000 ≤ vi S 63 h ∧ vi S 63 h ≤ 100000) (hF : mG S u (mF S u)) : ∀ r h, h + r = hrs → dp_goes (rfT S u) 5 (rfV S u hrs) h (mS S u hrs h).toNat (rcs S u hrs r h)
  | 0, _, _ => trivial
  | r + 1, h, e => by
    have g := mS_good hU hh hp hF h (by omega)
    have hs : (((mS S u hrs h).toNat : Nat) : Int) = mS S u hrs h := by have := g.1; omega
    have g' : mG S u ((mS S u hrs h).toNat : Nat) := by rw [hs]; exact g
    obtain ⟨x1, s1, k, v, e1, e2, e3, e4⟩ := rf_go hU hh hp (h := h) (by omega) g'
    refine ⟨rf_first hU hh hp (by omega) g', s1, k, e1, ?_⟩
    have ih := rcs_goes hU hh hp hF r (h + 1) (by omega)
    have es : (mS S u hrs (h + 1)).toNat = s1 := by
      show (mB S u (mS S u hrs h).toNat (mX S u hrs h (mS S u hrs h).toNat)).toNat = s1
      omega
    rw [es] at ih
    exact ih
theorem rf_best (hU : mU S u) (hh : hrs ≤ 8) (hp : ∀ h, h < 8 → -100000 ≤ vi S 63 h ∧ vi S 63 h ≤ 100000) (hF : mG S u (mF S u)) : dp_best (rfT S u) 5 hrs 0 (mF S u).toNat (mW S u hrs hrs (mF S u)) (rcs S u hrs hrs 0) := by
  have hs : (((mF S u).toNat : Nat) : Int) = mF S u := by have := hF.1; omega
  have g' : mG S u ((mF S u).toNat : Nat) := by rw [hs]; exact hF
  have ev := rfV_at (hrs := hrs) (h := 0) g'
  rw [hs, Nat.sub_zero] at ev
  exact dp_back_best hrs hrs 0 _ (by omega) (fun h' s' _ q => rf_back hU hh hp h' s' q) (fun s' => by unfold rfV; rw [if_pos rfl]) _ _ ev (rcs_len _ _) (rcs_goes hU hh hp hF hrs 0 (by omega))
end
/-- best ways go over from one system to another that answers alike -/
theorem dp_run_mapN {T U : dp_T} (N : Nat) (f : Nat → Nat) (I : Nat → Prop) (hI : ∀ h s c s1 k, I s → T h s c = some (s1, k) → I s1) (hT : ∀ h s c, h < N → I s → U h (f s) c = match T h s c with | none => none | some (s1, k) => some (f s1, k)) :
    ∀ (cs : List Nat) (h s : Nat), h + cs.length ≤ N → I s → dp_run U h (f s) cs = match dp_run T h s cs with | none => none | some (s1, k) => some (f s1, k)
  | [], h, s, _, _ => rfl
  | c :: cs, h, s, hn, hs => by
    rw [List.length_cons] at hn
    simp only [dp_run]
    rw [hT h s c (by omega) hs]
    cases e : T h s c with
    | none => rfl
    | some p =>
      simp only
      rw [dp_run_mapN N f I hI hT cs (h + 1) p.1 (by omega) (hI h s c p.1 p.2 hs e)]
      cases dp_run T (h + 1) p.1 cs with
      | none => rfl
      | some q => rfl
theorem dp_best_map {T U : dp_T} (N : Nat) (f : Nat → Nat) (I : Nat → Prop) (hI : ∀ h s c s1 k, I s → T h s c = some (s1, k) → I s1) (hT : ∀ h s c, h < N → I s → U h (f s) c = match T h s c with | none => none | some (s1, k) => some (f s1, k)) {C H h s0 : Nat} {k : Int} {cs : List Nat} (hN : h + H ≤ N) (h0 : I s0) (hb : dp_best T C H h s0 k cs) : dp_best U C H h (f s0) k cs := by
  obtain ⟨b1, b2, ⟨s, b3⟩, b4⟩ := hb
  have R := fun ds (q : h + List.length ds ≤ N) => dp_run_mapN N f I hI hT ds h s0 q h0
  refine ⟨b1, b2, ⟨f s, ?_⟩, fun ds s2 k2 hl hd hr => ?_⟩
  · rw [R cs (by omega), b3]
  · rw [R ds (by omega)] at hr
    cases e : dp_run T h s0 ds with
    | none =>
      rw [e] at hr
      cases hr
    | some p =>
      rw [e] at hr
      simp only [Option.some.injEq, Prod.mk.injEq] at hr
      obtain ⟨-, rfl⟩ := hr
      exact b4 ds p.1 p.2 hl hd e
