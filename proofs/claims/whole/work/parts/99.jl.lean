/-! The class's joint plan against the reference's. -/
theorem dp_run_mapH {T U : dp_T} (N : Nat) (f : Nat → Nat → Nat) (I : Nat → Nat → Prop) (hI : ∀ h s c s1 k, h < N → I h s → T h s c = some (s1, k) → I (h + 1) s1) (hT : ∀ h s c, h < N → I h s → U h (f h s) c = match T h s c with | none => none | some (s1, k) => some (f (h + 1) s1, k)) :
    ∀ (cs : List Nat) (h s : Nat), h + cs.length ≤ N → I h s → dp_run U h (f h s) cs = match dp_run T h s cs with | none => none | some (s1, k) => some (f (h + cs.length) s1, k)
  | [], h, s, _, _ => rfl
  | c :: cs, h, s, hn, hs => by
    rw [List.length_cons] at hn
    simp only [dp_run]
    rw [hT h s c (by omega) hs]
    cases e : T h s c with
    | none => rfl
    | some p =>
      simp only
      rw [dp_run_mapH N f I hI hT cs (h + 1) p.1 (by omega) (hI h s c p.1 p.2 (by omega) hs e)]
      cases dp_run T (h + 1) p.1 cs with
      | none => rfl
      | some q =>
        simp only [List.length_cons]
        rw [show h + 1 + cs.length = h + (cs.length + 1) by omega]
theorem dp_best_mapH {T U : dp_T} (N : Nat) (f : Nat → Nat → Nat) (I : Nat → Nat → Prop) (hI : ∀ h s c s1 k, h < N → I h s → T h s c = some (s1, k) → I (h + 1) s1) (hT : ∀ h s c, h < N → I h s → U h (f h s) c = match T h s c with | none => none | some (s1, k) => some (f (h + 1) s1, k)) {C H s0 : Nat} {k : Int} {cs : List Nat} (hN : H ≤ N) (h0 : I 0 s0) (hb : dp_best T C H 0 s0 k cs) : dp_best U C H 0 (f 0 s0) k cs := by
  obtain ⟨b1, b2, ⟨s, b3⟩, b4⟩ := hb
  have R := fun ds (q : 0 + List.length ds ≤ N) => dp_run_mapH N f I hI hT ds 0 s0 q h0
  refine ⟨b1, b2, ⟨f (0 + cs.length) s, ?_⟩, fun ds s2 k2 hl hd hr => ?_⟩
  · rw [R cs (by omega), b3]
  · rw [R ds (by omega)] at hr
    cases e : dp_run T 0 s0 ds with
    | none =>
      rw [e] at hr
      cases hr
    | some p =>
      rw [e] at hr
      simp only [Option.some.injEq, Prod.mk.injEq] at hr
      obtain ⟨-, rfl⟩ := hr
      exact b4 ds p.1 p.2 hl hd e
/-- a set that isn't there, in the class -/
def RN (v : Nat → Int → Int) (u : Int) : Prop := (v (uc u) 0 = 1 ∧ v (uc u) 1 = 0 ∧ v (uc u) 2 = 1 ∧ v (uc u) 3 = 1 ∧ v (uc u) 4 = 1 ∧ v (uc u) 5 = 0 ∧ v (uc u) 6 = 3) ∧ v (uc u + 1) 0 = 0
/-- the class stands as the reference -/
def RR (v : Nat → Int → Int) : Prop := (v 32 0 = v 48 1 ∧ v 32 1 = v 48 2) ∧ (∀ h, 0 ≤ h → h < 8 → v 34 h = v 58 h ∧ v 35 h = v 59 h ∧ v 16 h = v 63 h) ∧ (∀ j, 0 ≤ j → j < 24 → v 25 j = v 60 j ∧ (v 48 2 ≤ j / 8 → v 60 j = 0)) ∧ (∀ u, 0 ≤ u → u < v 48 2 → RU v u) ∧ (∀ u, v 48 2 ≤ u → u < 3 → RN v u) ∧ ∀ u, 0 ≤ u → u < 3 → RX v u
section
variable {v : Nat → Int → Int}
theorem zbit3 (a b c a' b' c' : Int) : zbit a 1 + zbit b 2 + zbit c 4 = zbit a' 1 + zbit b' 2 + zbit c' 4 ↔ (a ≠ 0 ↔ a' ≠ 0) ∧ (b ≠ 0 ↔ b' ≠ 0) ∧ (c ≠ 0 ↔ c' ≠ 0) := by
  unfold zbit
  by_cases h1 : a = 0 <;> by_cases h2 : b = 0 <;> by_cases h3 : c = 0 <;> by_cases h4 : a' = 0 <;> by_cases h5 : b' = 0 <;> by_cases h6 : c' = 0 <;> simp [h1, h2, h3, h4, h5, h6]
theorem can_rok (hA : rA v) (hr : RR v) {u c : Int} (hu : 0 ≤ u ∧ u < 3) (hc : 0 ≤ c) : (c = 0 ∨ v (uc u) 0 + c - 1 ≤ v (uc u) 1) ↔ rok v u c := by
  unfold rok
  by_cases q : u < v 48 2
  · obtain ⟨⟨l1, l2, -⟩, -⟩ := hr.2.2.2.1 u hu.1 q
    rw [l1, l2]
    omega
  · obtain ⟨⟨l1, l2, -⟩, -⟩ := hr.2.2.2.2.1 u (by omega) hu.2
    rw [l1, l2]
    omega
theorem rok_0 {u c : Int} (h : rok v u c) (q : v 48 2 ≤ u) : c = 0 := by
  rcases h with h | h
  · omega
  · exact h.2
theorem zout_rto (hr : RR v) {u c : Int} (hu : 0 ≤ u ∧ u < 3) (h : rok v u c) : zout (v (uc u) 0) c = rto v u c ∧ dmo v u c = rmo v u c := by
  unfold zout rto dmo rmo
  by_cases q : u < v 48 2
  · obtain ⟨⟨l1, l2, -⟩, -⟩ := hr.2.2.2.1 u hu.1 q
    rw [l1, l2]
    by_cases c0 : c = 0
    · rw [if_pos c0, if_pos (Or.inl c0), if_pos c0, if_pos (Or.inl c0)]
      exact ⟨rfl, rfl⟩
    · rw [if_neg c0, if_neg (by omega), if_neg c0, if_neg (by omega)]
      exact ⟨rfl, rfl⟩
  · have c0 := rok_0 h (by omega)
    rw [if_pos c0, if_pos (Or.inl c0), if_pos c0, if_pos (Or.inl c0)]
    exact ⟨rfl, rfl⟩
theorem fit_iff (hA : rA v) (hr : RR v) (as : Prop) [Decidable as] {h c : Int} (hh : 0 ≤ h ∧ h < 8) : FIT v h (if as then dWho v h else -1) c ↔ RFIT v as h c := by
  have z := fun u => zdg_rng c u
  have k0 := can_rok hA hr (u := 0) (c := zdg c 0) (by omega) (z 0).1
  have k1 := can_rok hA hr (u := 1) (c := zdg c 1) (by omega) (z 1).1
  have k2 := can_rok hA hr (u := 2) (c := zdg c 2) (by omega) (z 2).1
  obtain ⟨d1, d2, -⟩ := hr.2.1 h hh.1 hh.2
  have tb := fun u (u1 : 0 ≤ u) (u2 : u < 3) => hr.2.2.1 (8 * u + h) (by omega) (by omega)
  have on : ∀ u, 0 ≤ u → u < 3 → rok v u (zdg c u) → (((v 25 (8 * u + h) ≠ 0 ↔ zdg c u ≠ 0) ∨ ¬ as) ↔ ron v as h u (zdg c u)) := fun u u1 u2 ro => by
    have zu := z u
    have t := tb u u1 u2
    unfold ron
    by_cases qa : as
    · by_cases q : u < v 48 2
      · rw [t.1]
        constructor
        · rintro (x | x)
          · exact Or.inr (Or.inr ⟨fun y => by have := x.mp y; omega, fun y => x.mpr (by omega)⟩)
          · exact absurd qa x
        · rintro (x | x | x)
          · exact absurd qa x
          · omega
          · exact Or.inl ⟨fun y => by have := x.mp y; omega, fun y => x.mpr (by omega)⟩
      · have c0 := rok_0 ro (by omega)
        have t0 := t.2 (by omega)
        refine ⟨fun _ => Or.inr (Or.inl (by omega)), fun _ => Or.inl ?_⟩
        rw [t.1, t0, c0]
    · exact ⟨fun _ => Or.inl qa, fun _ => Or.inr qa⟩
  have who : ((if as then dWho v h else -1) = -1 ∨ (if as then dWho v h else -1) = donn c) ↔ (((v 25 (8 * 0 + h) ≠ 0 ↔ zdg c 0 ≠ 0) ∨ ¬ as) ∧ ((v 25 (8 * 1 + h) ≠ 0 ↔ zdg c 1 ≠ 0) ∨ ¬ as) ∧ ((v 25 (8 * 2 + h) ≠ 0 ↔ zdg c 2 ≠ 0) ∨ ¬ as)) := by
    by_cases qa : as
    · rw [if_pos qa]
      have w := dWho_rng v h
      have b := zbit3 (v 25 h) (v 25 (8 + h)) (v 25 (16 + h)) (zdg c 0) (zdg c 1) (zdg c 2)
      rw [show (8 : Int) * 0 + h = h by omega, show (8 : Int) * 1 + h = 8 + h by omega, show (8 : Int) * 2 + h = 16 + h by omega]
      constructor
      · rintro (x | x)
        · omega
        · obtain ⟨y0, y1, y2⟩ := b.mp x
          exact ⟨Or.inl y0, Or.inl y1, Or.inl y2⟩
      · rintro ⟨x0, x1, x2⟩
        exact Or.inr (b.mpr ⟨x0.resolve_right (fun y => y qa), x1.resolve_right (fun y => y qa), x2.resolve_right (fun y => y qa)⟩)
    · rw [if_neg qa]
      exact ⟨fun _ => ⟨Or.inr qa, Or.inr qa, Or.inr qa⟩, fun _ => Or.inl rfl⟩
  constructor
  · rintro ⟨a0, a1, a2, a3, a4, a5⟩
    have r0 := k0.mp a0
    have r1 := k1.mp a1
    have r2 := k2.mp a2
    obtain ⟨w0, w1, w2⟩ := who.mp a3
    obtain ⟨t0, m0⟩ := zout_rto hr (u := 0) (by omega) r0
    obtain ⟨t1, m1⟩ := zout_rto hr (u := 1) (by omega) r1
    obtain ⟨t2, m2⟩ := zout_rto hr (u := 2) (by omega) r2
    unfold dtg at a4 a5
    unfold dms at a5
    rw [t0, t1, t2] at a4 a5
    rw [m0, m1, m2] at a5
    exact ⟨⟨⟨r0, (on 0 (by omega) (by omega) r0).mp w0⟩, ⟨r1, (on 1 (by omega) (by omega) r1).mp w1⟩, ⟨r2, (on 2 (by omega) (by omega) r2).mp w2⟩⟩, by rw [← d1]; exact a4, by rw [← d2]; exact a5⟩
  · rintro ⟨⟨⟨r0, o0⟩, ⟨r1, o1⟩, ⟨r2, o2⟩⟩, a4, a5⟩
    obtain ⟨t0, m0⟩ := zout_rto hr (u := 0) (by omega) r0
    obtain ⟨t1, m1⟩ := zout_rto hr (u := 1) (by omega) r1
    obtain ⟨t2, m2⟩ := zout_rto hr (u := 2) (by omega) r2
    refine ⟨k0.mpr r0, k1.mpr r1, k2.mpr r2, who.mpr ⟨(on 0 (by omega) (by omega) r0).mpr o0, (on 1 (by omega) (by omega) r1).mpr o1, (on 2 (by omega) (by omega) r2).mpr o2⟩, ?_, ?_⟩
    · unfold dtg
      rw [t0, t1, t2, d1]
      exact a4
    · unfold dtg dms
      rw [t0, t1, t2, m0, m1, m2, d2]
      exact a5
theorem fl_iff (hA : rA v) (hr : RR v) (as : Prop) [Decidable as] {h : Int} (hh : 0 ≤ h ∧ h < 8) : ∀ n, FLn v h (if as then dWho v h else -1) n = RFLn v as h n
  | 0 => rfl
  | n + 1 => by
    have ih := fl_iff hA hr as hh n
    have f := fit_iff hA hr as (c := n) hh
    show (if FIT v h (if as then dWho v h else -1) n then FLn v h (if as then dWho v h else -1) n ++ [n] else FLn v h (if as then dWho v h else -1) n) = (if RFIT v as h n then RFLn v as h n ++ [n] else RFLn v as h n)
    rw [ih]
    by_cases q : RFIT v as h n
    · rw [if_pos q, if_pos (f.mpr q)]
    · rw [if_neg q, if_neg (fun z => q (f.mp z))]
/-- a set's state, as the class tells it -/
def Fu (v : Nat → Int → Int) (u s : Int) : Int := if u < v 48 2 then fst3 (v 51 u) s else 2
theorem Fu_3 (hA : rA v) {u s : Int} (hu : 0 ≤ u ∧ u < 3) (hs : 0 ≤ s ∧ s < 15) (h0 : v 48 2 ≤ u → s = 0) : Fu v u s / 3 = s / 3 ∧ 0 ≤ Fu v u s ∧ Fu v u s < 15 := by
  unfold Fu
  by_cases q : u < v 48 2
  · rw [if_pos q]
    obtain ⟨s1, s2, s3, s4, -⟩ := hA.2.2.1 u hu.1 q
    obtain ⟨r1, r2, r3, -⟩ := hA.1 u hu.1 hu.2
    have := fst3_rng (up := v 51 u) (s := s) (by omega) hs
    refine ⟨?_, this.1, this.2.1⟩
    unfold fst3
    (repeat' split) <;> omega
  · rw [if_neg q, h0 (by omega)]
    omega
/-- a joint state's place -/
def fpl (v : Nat → Int → Int) (fl : Nat → List Nat) (h s : Nat) : Nat := if h = 0 then (sbh v).toNat else ixl (fl (h - 1)) (25 * (zof s 0 / 3) + 5 * (zof s 1 / 3) + zof s 2 / 3).toNat * 27 + ((Fu v 0 (zof s 0) % 3 * 3 + Fu v 1 (zof s 1) % 3) * 3 + Fu v 2 (zof s 2) % 3).toNat
def Ij (v : Nat → Int → Int) (as : Prop) [Decidable as] (h s : Nat) : Prop := (s < 3375 ∧ isv v s) ∧ (h = 0 → (s : Int) = ja0 v) ∧ (h ≠ 0 → (25 * (zof s 0 / 3) + 5 * (zof s 1 / 3) + zof s 2 / 3).toNat ∈ RFLn v as ((h - 1 : Nat) : Int) 125)
theorem isv_0 (hA : rA v) {s u : Int} (hs : 0 ≤ s ∧ s < 3375) (h : isv v s) (hu : 0 ≤ u ∧ u < 3) (q : v 48 2 ≤ u) : zof s u = 0 := by
  obtain ⟨h0, h1, h2⟩ := h
  unfold zof
  obtain rfl | rfl | rfl : u = 0 ∨ u = 1 ∨ u = 2 := by omega
  · rw [if_pos rfl]; omega
  · rw [if_neg (by omega), if_pos rfl]; omega
  · rw [if_neg (by omega), if_neg (by omega)]; omega
theorem zof_ja0 (hA : rA v) {u : Int} (hu : 0 ≤ u ∧ u < 3) : zof (ja0 v) u = jf v u := by
  have h0 := jf_rng hA (u := 0) (by omega)
  have h1 := jf_rng hA (u := 1) (by omega)
  have h2 := jf_rng hA (u := 2) (by omega)
  unfold zof ja0
  obtain rfl | rfl | rfl : u = 0 ∨ u = 1 ∨ u = 2 := by omega
  · rw [if_pos rfl]; omega
  · rw [if_neg (by omega), if_pos rfl]; omega
  · rw [if_neg (by omega), if_neg (by omega)]; omega
theorem dF_jf (hA : rA v) (hr : RR v) {u : Int} (hu : 0 ≤ u ∧ u < 3) : dF v (uc u) = Fu v u (jf v u) := by
  unfold Fu jf
  by_cases q : u < v 48 2
  · rw [if_pos q, if_pos q]
    obtain ⟨n, rfl⟩ : ∃ n : Nat, u = n := ⟨u.toNat, by omega⟩
    have e := dF_mF hA.1 hA.2.2.1 (n := n) (by omega) q (hr.2.2.2.1 n (by omega) q)
    have em : mF (zs v) n = pF v n := by
      obtain ⟨e1, -, -, -, -, e6, e7⟩ := vi49 hA.1 (n := n) (by omega)
      unfold mF pF
      rw [e1, e6, e7]
    rw [e, em]
  · rw [if_neg q]
    obtain ⟨⟨l1, l2, l3, l4, l5, l6, l7⟩, -⟩ := hr.2.2.2.2.1 u (by omega) hu.2
    unfold dF zsb zcho
    rw [l1, l2, l3, l6, l7]
    decide
theorem hdg3 {a b c : Int} (ha : 0 ≤ a ∧ a < 3) (hb : 0 ≤ b ∧ b < 3) (hc : 0 ≤ c ∧ c < 3) : hdg ((a * 3 + b) * 3 + c) 0 = a ∧ hdg ((a * 3 + b) * 3 + c) 1 = b ∧ hdg ((a * 3 + b) * 3 + c) 2 = c := by
  unfold hdg
  refine ⟨?_, ?_, ?_⟩
  · rw [if_pos rfl]; omega
  · rw [if_neg (by omega), if_pos rfl]; omega
  · rw [if_neg (by omega), if_neg (by omega)]; omega
theorem zdg_code {a b c : Int} (ha : 0 ≤ a ∧ a < 5) (hb : 0 ≤ b ∧ b < 5) (hc : 0 ≤ c ∧ c < 5) : zdg (25 * a + 5 * b + c) 0 = a ∧ zdg (25 * a + 5 * b + c) 1 = b ∧ zdg (25 * a + 5 * b + c) 2 = c := by
  unfold zdg
  refine ⟨?_, ?_, ?_⟩
  · rw [if_pos rfl]; omega
  · rw [if_neg (by omega), if_pos rfl]; omega
  · rw [if_neg (by omega), if_neg (by omega)]; omega
theorem fls_at (hA : rA v) (hr : RR v) (as : Prop) [Decidable as] {h : Nat} (hh : h < 8) : fls v as h = RFLn v as h 125 := by
  unfold fls
  exact fl_iff hA hr as (by omega) 125
theorem st_fpl (hA : rA v) (hr : RR v) (as : Prop) [Decidable as] {h s : Nat} (hh : h < 8) (hI : Ij v as h s) {u : Int} (hu : 0 ≤ u ∧ u < 3) : fpl v (fls v as) h s < 27 * szF (fls v as) h ∧ stF v (fls v as) h (fpl v (fls v as) h s) u = Fu v u (zof s u) := by
  obtain ⟨⟨g1, g2⟩, g3, g4⟩ := hI
  have zr := fun u => zof_rng (all := s) (u := u) (by omega)
  have i0 := fun u (hu : 0 ≤ u ∧ u < 3) q => isv_0 hA (s := s) (by omega) g2 hu q
  have F3 := fun u (hu : 0 ≤ u ∧ u < 3) => Fu_3 hA hu (zr u) (i0 u hu)
  have a0 := F3 0 (by omega)
  have a1 := F3 1 (by omega)
  have a2 := F3 2 (by omega)
  have hd := hdg3 (a := Fu v 0 (zof s 0) % 3) (b := Fu v 1 (zof s 1) % 3) (c := Fu v 2 (zof s 2) % 3) (by omega) (by omega) (by omega)
  by_cases h0 : h = 0
  · subst h0
    have es := g3 rfl
    have dz : ∀ u, 0 ≤ u ∧ u < 3 → dF v (uc u) = Fu v u (zof s u) := fun u hu => by rw [dF_jf hA hr hu, es, zof_ja0 hA hu]
    have eb : sbh v = (Fu v 0 (zof s 0) % 3 * 3 + Fu v 1 (zof s 1) % 3) * 3 + Fu v 2 (zof s 2) % 3 := by
      unfold sbh
      rw [dz 0 (by omega), dz 1 (by omega), dz 2 (by omega)]
    have ef : fpl v (fls v as) 0 s = (sbh v).toNat := rfl
    rw [ef]
    have rb : 0 ≤ sbh v ∧ sbh v < 27 := by rw [eb]; omega
    refine ⟨by show (sbh v).toNat < 27 * 1; omega, ?_⟩
    unfold stF chF
    rw [if_pos rfl, dz u hu, show (((sbh v).toNat : Nat) : Int) % 27 = sbh v by omega, eb]
    obtain rfl | rfl | rfl : u = 0 ∨ u = 1 ∨ u = 2 := by omega
    · rw [hd.1]; omega
    · rw [hd.2.1]; omega
    · rw [hd.2.2]; omega
  · have gm := g4 h0
    have em : fls v as (h - 1) = RFLn v as ((h - 1 : Nat) : Int) 125 := fls_at hA hr as (by omega)
    rw [← em] at gm
    obtain ⟨x1, x2⟩ := ixl_mem _ _ gm
    have ef : fpl v (fls v as) h s = ixl (fls v as (h - 1)) (25 * (zof s 0 / 3) + 5 * (zof s 1 / 3) + zof s 2 / 3).toNat * 27 + ((Fu v 0 (zof s 0) % 3 * 3 + Fu v 1 (zof s 1) % 3) * 3 + Fu v 2 (zof s 2) % 3).toNat := by
      unfold fpl
      rw [if_neg h0]
    have ez : szF (fls v as) h = (fls v as (h - 1)).length := by
      unfold szF
      rw [if_neg h0]
    rw [ef, ez]
    have z0 := zr 0
    have z1 := zr 1
    have z2 := zr 2
    have cd := zdg_code (a := zof s 0 / 3) (b := zof s 1 / 3) (c := zof s 2 / 3) (by omega) (by omega) (by omega)
    have ec : (((25 * (zof s 0 / 3) + 5 * (zof s 1 / 3) + zof s 2 / 3).toNat : Nat) : Int) = 25 * (zof s 0 / 3) + 5 * (zof s 1 / 3) + zof s 2 / 3 := by omega
    refine ⟨by omega, ?_⟩
    unfold stF chF
    rw [if_neg h0]
    generalize ixl (fls v as (h - 1)) (25 * (zof s 0 / 3) + 5 * (zof s 1 / 3) + zof s 2 / 3).toNat = X at *
    have q1 : ((X * 27 + ((Fu v 0 (zof s 0) % 3 * 3 + Fu v 1 (zof s 1) % 3) * 3 + Fu v 2 (zof s 2) % 3).toNat : Nat) : Int) / 27 = X := by omega
    have q2 : ((X * 27 + ((Fu v 0 (zof s 0) % 3 * 3 + Fu v 1 (zof s 1) % 3) * 3 + Fu v 2 (zof s 2) % 3).toNat : Nat) : Int) % 27 = (Fu v 0 (zof s 0) % 3 * 3 + Fu v 1 (zof s 1) % 3) * 3 + Fu v 2 (zof s 2) % 3 := by omega
    rw [q1, q2, Int.toNat_natCast, x2, ec]
    obtain rfl | rfl | rfl : u = 0 ∨ u = 1 ∨ u = 2 := by omega
    · rw [hd.1, cd.1]; omega
    · rw [hd.2.1, cd.2.1]; omega
    · rw [hd.2.2, cd.2.2]; omega
theorem beh_3 {lo hi up dn rp s c : Int} (hs : 0 ≤ s ∧ s < 15) (hc : 0 ≤ c ∧ c < 5) (h : 0 ≤ z_beh lo hi up dn rp s c) : z_beh lo hi up dn rp s c / 3 = c := by
  revert h
  unfold z_beh z_more
  (repeat' split) <;> (intro h; omega)
theorem nx_fpl (hA : rA v) (hr : RR v) (as : Prop) [Decidable as] {h s c : Nat} (hh : h < 8) (hI : Ij v as h s) (hc : RFIT v as h c) {u : Int} (hu : 0 ≤ u ∧ u < 3) : nxF v (fls v as) h (fpl v (fls v as) h s) c u = (if 0 ≤ jnC v s c u then Fu v u (jnC v s c u) else -1) ∧ (0 ≤ jnC v s c u → jnC v s c u / 3 = zdg c u) ∧ (v 48 2 ≤ u → zdg c u = 0) := by
  have st := (st_fpl hA hr as hh hI hu).2
  obtain ⟨⟨g1, g2⟩, -, -⟩ := hI
  have zr := zof_rng (all := s) (u := u) (by omega)
  have zc := zdg_rng c u
  have ro : rok v u (zdg c u) := by
    obtain ⟨⟨⟨r0, -⟩, ⟨r1, -⟩, ⟨r2, -⟩⟩, -⟩ := hc
    obtain rfl | rfl | rfl : u = 0 ∨ u = 1 ∨ u = 2 := by omega
    · exact r0
    · exact r1
    · exact r2
  have F3 := Fu_3 hA hu zr (isv_0 hA (s := s) (by omega) g2 hu)
  have x := hr.2.2.2.2.2 u hu.1 hu.2 (Fu v u (zof s u)) (zdg c u) F3.2.1 F3.2.2 zc.1 zc.2
  unfold nxF
  rw [st, x]
  unfold dX
  by_cases q : u < v 48 2
  · obtain ⟨⟨l1, l2, l3, l4, l5, -⟩, -⟩ := hr.2.2.2.1 u hu.1 q
    obtain ⟨s1, s2, s3, s4, -⟩ := hA.2.2.1 u hu.1 q
    obtain ⟨r1, r2, r3, -⟩ := hA.1 u hu.1 hu.2
    have ej : jnC v s c u = z_beh (v 49 u) (v 50 u) (v 51 u) (v 52 u) (v 53 u) (zof s u) (zdg c u) := by
      unfold jnC
      rw [if_pos q]
      rfl
    have ef : ∀ y, Fu v u y = fst3 (v 51 u) y := fun y => by unfold Fu; rw [if_pos q]
    rw [l1, l2, l3, l4, l5, ef, ej, ef]
    exact ⟨znx_beh s1 s2 (by omega) zr zc, fun z => beh_3 zr zc z, fun z => by omega⟩
  · obtain ⟨⟨l1, l2, l3, l4, l5, -⟩, -⟩ := hr.2.2.2.2.1 u (by omega) hu.2
    have c0 := rok_0 ro (by omega)
    have ej : jnC v s c u = 0 := by
      unfold jnC
      rw [if_neg q]
    have ef : ∀ y, Fu v u y = 2 := fun y => by unfold Fu; rw [if_neg q]
    rw [l1, l2, l3, l4, l5, ef, ej, ef, c0]
    exact ⟨by decide, fun _ => by decide, fun _ => rfl⟩
theorem cst_pC (hA : rA v) (hr : RR v) {u s c : Int} (hu : 0 ≤ u ∧ u < v 48 2) (hs : 0 ≤ s ∧ s < 15) (hc : 0 ≤ c ∧ c < 5) : cstp v (uc u) (Fu v u s) c = pC v u s c := by
  have n2 := hA.2.2.2.2.1.2
  obtain ⟨s1, s2, s3, s4, -⟩ := hA.2.2.1 u hu.1 hu.2
  obtain ⟨r1, r2, r3, -⟩ := hA.1 u hu.1 (by omega)
  obtain ⟨-, l8, l9, l10⟩ := hr.2.2.2.1 u hu.1 hu.2
  have f := fst3_rng (up := v 51 u) (s := s) (by omega) hs
  unfold cstp pC Fu
  rw [if_pos hu.2]
  by_cases c0 : c = 0
  · rw [if_neg (fun q => q.2 c0), if_pos c0, c0, l8]
    rfl
  · rw [if_neg c0, l9 c (by omega) hc.2]
    by_cases q : s < 3
    · rw [if_pos ⟨f.2.2.1.mpr q, c0⟩, if_pos q, f.2.2.2 q, l10 s hs.1 q]
    · rw [if_neg (fun z => q (f.2.2.1.mp z.1)), if_neg q]
theorem cst_0 (hr : RR v) {u s : Int} (hu : v 48 2 ≤ u ∧ u < 3) : cstp v (uc u) s 0 = 0 := by
  obtain ⟨-, l⟩ := hr.2.2.2.2.1 u hu.1 hu.2
  unfold cstp
  rw [if_neg (fun q => q.2 rfl), l]
  rfl
theorem cs_fpl (hA : rA v) (hr : RR v) (as : Prop) [Decidable as] {h s c : Nat} (hh : h < 8) (hI : Ij v as h s) (hc : RFIT v as h c) : csF v (fls v as) h (fpl v (fls v as) h s) c = jcC v s c := by
  have n2 := hA.2.2.2.2.1.2
  have e : ∀ u, 0 ≤ u → u < 3 → cstp v (uc u) (stF v (fls v as) h (fpl v (fls v as) h s) u) (zdg c u) = (if u < v 48 2 then pC v u (zof s u) (zdg c u) else 0) := fun u u1 u2 => by
    have zr := zof_rng (all := s) (u := u) (by have := hI.1.1; omega)
    rw [(st_fpl hA hr as hh hI ⟨u1, u2⟩).2]
    by_cases q : u < v 48 2
    · rw [if_pos q]
      exact cst_pC hA hr ⟨u1, q⟩ zr (zdg_rng _ _)
    · rw [if_neg q, (nx_fpl hA hr as hh hI hc ⟨u1, u2⟩).2.2 (by omega)]
      exact cst_0 hr ⟨by omega, u2⟩
  unfold csF jcC
  rw [e 0 (by omega) (by omega), e 1 (by omega) (by omega), e 2 (by omega) (by omega)]
  obtain q | q | q | q : v 48 2 = 0 ∨ v 48 2 = 1 ∨ v 48 2 = 2 ∨ v 48 2 = 3 := by omega
  · rw [q]
    simp [zsum]
  · rw [q]
    simp [zsum]
  · rw [q]
    simp [zsum]
  · rw [q]
    simp [zsum]
theorem pl_step (hA : rA v) (hr : RR v) (as : Prop) [Decidable as] {h s c : Nat} (hh : h < 8) (hI : Ij v as h s) : plT v (fls v as) h (fpl v (fls v as) h s) c = match rjT v as h s c with | none => none | some (s1, k) => some (fpl v (fls v as) (h + 1) s1, k) := by
  have efl := fls_at hA hr as hh
  have hp := (st_fpl hA hr as hh hI (u := 0) (by omega)).1
  by_cases hm : c ∈ RFLn v as h 125
  · have hc := ((RFLn_mem 125).mp hm).2
    have c125 := ((RFLn_mem 125).mp hm).1
    have a0 := nx_fpl hA hr as hh hI hc (u := 0) (by omega)
    have a1 := nx_fpl hA hr as hh hI hc (u := 1) (by omega)
    have a2 := nx_fpl hA hr as hh hI hc (u := 2) (by omega)
    have sr : 0 ≤ (s : Int) ∧ (s : Int) < 3375 := by have := hI.1.1; omega
    have j0 := jnC_rng hA.1 (c := c) sr (u := 0) (by omega)
    have j1 := jnC_rng hA.1 (c := c) sr (u := 1) (by omega)
    have j2 := jnC_rng hA.1 (c := c) sr (u := 2) (by omega)
    have cs := cs_fpl hA hr as hh hI hc
    by_cases q : jnC v s c 0 < 0 ∨ jnC v s c 1 < 0 ∨ jnC v s c 2 < 0
    · have ex : jxC v s c = -1 := by unfold jxC; rw [if_pos q]
      have eh : hbF v (fls v as) h (fpl v (fls v as) h s) c = -1 := by
        unfold hbF
        rw [if_pos]
        rcases q with q | q | q
        · left
          rw [a0.1, if_neg (by omega)]
        · right; left
          rw [a1.1, if_neg (by omega)]
        · right; right
          rw [a2.1, if_neg (by omega)]
      unfold plT rjT
      rw [if_neg (fun z => z.2.2 eh), if_neg (fun z => by omega)]
    · have z0 : ∀ u, v 48 2 ≤ u → jnC v s c u = 0 := fun u q => by unfold jnC; rw [if_neg (by omega)]
      have b0 := Fu_3 hA (u := 0) (by omega) (s := jnC v s c 0) (by omega) (z0 0)
      have b1 := Fu_3 hA (u := 1) (by omega) (s := jnC v s c 1) (by omega) (z0 1)
      have b2 := Fu_3 hA (u := 2) (by omega) (s := jnC v s c 2) (by omega) (z0 2)
      have d0 := a0.2.1 (by omega)
      have d1 := a1.2.1 (by omega)
      have d2 := a2.2.1 (by omega)
      have ex : jxC v s c = 225 * jnC v s c 0 + 15 * jnC v s c 1 + jnC v s c 2 := by unfold jxC; rw [if_neg q]
      have eh : hbF v (fls v as) h (fpl v (fls v as) h s) c = (Fu v 0 (jnC v s c 0) % 3 * 3 + Fu v 1 (jnC v s c 1) % 3) * 3 + Fu v 2 (jnC v s c 2) % 3 := by
        have e0 := a0.1
        have e1 := a1.1
        have e2 := a2.1
        rw [if_pos (by omega)] at e0 e1 e2
        unfold hbF
        rw [e0, e1, e2, if_neg (by omega)]
      have hT : rjT v as h s c = some ((jxC v s c).toNat, jcC v s c) := rjT_some.mpr ⟨⟨hI.1, hm, by omega⟩, by omega, rfl⟩
      rw [hT]
      simp only
      have t0 : zof ((jxC v s c).toNat : Nat) 0 = jnC v s c 0 := by unfold zof; rw [if_pos rfl]; omega
      have t1 : zof ((jxC v s c).toNat : Nat) 1 = jnC v s c 1 := by unfold zof; rw [if_neg (by omega), if_pos rfl]; omega
      have t2 : zof ((jxC v s c).toNat : Nat) 2 = jnC v s c 2 := by unfold zof; rw [if_neg (by omega), if_neg (by omega)]; omega
      have ec : (25 * (jnC v s c 0 / 3) + 5 * (jnC v s c 1 / 3) + jnC v s c 2 / 3).toNat = c := by
        rw [d0, d1, d2]
        unfold zdg
        rw [if_pos rfl, if_neg (by omega), if_pos rfl, if_neg (by omega), if_neg (by omega)]
        omega
      have ef : fpl v (fls v as) (h + 1) (jxC v s c).toNat = ixl (fls v as h) c * 27 + ((Fu v 0 (jnC v s c 0) % 3 * 3 + Fu v 1 (jnC v s c 1) % 3) * 3 + Fu v 2 (jnC v s c 2) % 3).toNat := by
        unfold fpl
        rw [if_neg (by omega), t0, t1, t2, ec, Nat.add_sub_cancel]
      rw [ef]
      unfold plT
      rw [if_pos ⟨hp, by rw [efl]; exact hm, by rw [eh]; omega⟩, eh, cs]
  · unfold plT rjT
    rw [if_neg (fun z => hm (by rw [← efl]; exact z.2.1)), if_neg (fun z => hm z.2.1)]
theorem Ij_next (hA : rA v) (hr : RR v) (as : Prop) [Decidable as] {h s c s1 : Nat} {k : Int} (hh : h < 8) (hI : Ij v as h s) (e : rjT v as h s c = some (s1, k)) : Ij v as (h + 1) s1 := by
  have nx := rjT_next hA e
  obtain ⟨⟨-, hm, hb⟩, e1, -⟩ := rjT_some.mp e
  have hc := ((RFLn_mem 125).mp hm).2
  have c125 := ((RFLn_mem 125).mp hm).1
  have a0 := nx_fpl hA hr as hh hI hc (u := 0) (by omega)
  have a1 := nx_fpl hA hr as hh hI hc (u := 1) (by omega)
  have a2 := nx_fpl hA hr as hh hI hc (u := 2) (by omega)
  have sr : 0 ≤ (s : Int) ∧ (s : Int) < 3375 := by have := hI.1.1; omega
  have j0 := jnC_rng hA.1 (c := c) sr (u := 0) (by omega)
  have j1 := jnC_rng hA.1 (c := c) sr (u := 1) (by omega)
  have j2 := jnC_rng hA.1 (c := c) sr (u := 2) (by omega)
  have q : ¬ (jnC v s c 0 < 0 ∨ jnC v s c 1 < 0 ∨ jnC v s c 2 < 0) := fun q => by
    have : jxC v s c = -1 := by unfold jxC; rw [if_pos q]
    omega
  have ex : jxC v s c = 225 * jnC v s c 0 + 15 * jnC v s c 1 + jnC v s c 2 := by unfold jxC; rw [if_neg q]
  have d0 := a0.2.1 (by omega)
  have d1 := a1.2.1 (by omega)
  have d2 := a2.2.1 (by omega)
  have t0 : zof s1 0 = jnC v s c 0 := by unfold zof; rw [if_pos rfl]; omega
  have t1 : zof s1 1 = jnC v s c 1 := by unfold zof; rw [if_neg (by omega), if_pos rfl]; omega
  have t2 : zof s1 2 = jnC v s c 2 := by unfold zof; rw [if_neg (by omega), if_neg (by omega)]; omega
  refine ⟨nx, fun z => by omega, fun _ => ?_⟩
  have ec : (25 * (jnC v s c 0 / 3) + 5 * (jnC v s c 1 / 3) + jnC v s c 2 / 3).toNat = c := by
    rw [d0, d1, d2]
    unfold zdg
    rw [if_pos rfl, if_neg (by omega), if_pos rfl, if_neg (by omega), if_neg (by omega)]
    omega
  rw [t0, t1, t2, ec, Nat.add_sub_cancel]
  exact hm
theorem Ij_0 (hA : rA v) (as : Prop) [Decidable as] : Ij v as 0 (ja0 v).toNat := by
  have r := ja0_rng hA
  have ej : (((ja0 v).toNat : Nat) : Int) = ja0 v := by omega
  exact ⟨⟨by omega, by rw [ej]; exact ja0_isv hA⟩, fun _ => ej, fun z => absurd rfl z⟩
/-- both searches over all sets have the same best way, or none -/
theorem joint_best (hA : rA v) (hr : RR v) (as : Prop) [Decidable as] (h0 : rWv v as (v 48 1) (v 48 1).toNat (ja0 v) < MANY) : dp_best (plT v (fls v as)) 125 (v 48 1).toNat 0 (sbh v).toNat (rWv v as (v 48 1) (v 48 1).toNat (ja0 v)) (jcs v as (v 48 1).toNat 0) := by
  have n1 := hA.2.2.2.2.1.1
  have := dp_best_mapH (U := plT v (fls v as)) 8 (fpl v (fls v as)) (Ij v as) (fun h s c s1 k hh hI e => Ij_next hA hr as hh hI e) (fun h s c hh hI => pl_step hA hr as hh hI) (by omega) (Ij_0 hA as) (rj_best hA h0)
  exact this
theorem joint_none (hA : rA v) (hr : RR v) (as : Prop) [Decidable as] (h0 : ¬ rWv v as (v 48 1) (v 48 1).toNat (ja0 v) < MANY) (ds : List Nat) (s : Nat) (k : Int) (hl : ds.length = (v 48 1).toNat) (hd : dp_dig 125 ds) : dp_run (plT v (fls v as)) 0 (sbh v).toNat ds ≠ some (s, k) := by
  have n1 := hA.2.2.2.2.1.1
  intro e
  have R := dp_run_mapH (U := plT v (fls v as)) 8 (fpl v (fls v as)) (Ij v as) (fun h s c s1 k hh hI e => Ij_next hA hr as hh hI e) (fun h s c hh hI => pl_step hA hr as hh hI) ds 0 (ja0 v).toNat (by omega) (Ij_0 hA as)
  rw [show fpl v (fls v as) 0 (ja0 v).toNat = (sbh v).toNat from rfl, e] at R
  cases e2 : dp_run (rjT v as) 0 (ja0 v).toNat ds with
  | none =>
    rw [e2] at R
    cases R
  | some p => exact rj_none hA h0 ds p.1 p.2 hl hd e2
end
