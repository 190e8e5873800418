/-! plan and redispatch: both answer alike. -/
/-- the reference's own cells, but what it throws -/
def sF (v v' : Nat → Int → Int) : Prop := (∀ b, 49 ≤ b → v' b = v b) ∧ ∀ j, j ≠ 0 → v' 48 j = v 48 j
section
variable {v v' : Nat → Int → Int}
theorem sF_J (s : sF v v') : sJ v v' := ⟨fun b h1 h2 => s.1 b h1, s.2 2 (by decide)⟩
theorem sF_RFIT (s : sF v v') {as : Prop} [Decidable as] {h t : Int} : RFIT v' as h t ↔ RFIT v as h t := by
  unfold RFIT rok ron rto rmo
  rw [s.1 49 (by decide), s.1 50 (by decide), s.1 58 (by decide), s.1 59 (by decide), s.1 60 (by decide), s.2 2 (by decide)]
theorem sF_RFL (s : sF v v') {as : Prop} [Decidable as] {h : Int} : ∀ n, RFLn v' as h n = RFLn v as h n
  | 0 => rfl
  | n + 1 => by
    show (if RFIT v' as h n then RFLn v' as h n ++ [n] else RFLn v' as h n) = (if RFIT v as h n then RFLn v as h n ++ [n] else RFLn v as h n)
    rw [sF_RFL s n]
    by_cases q : RFIT v as h n
    · rw [if_pos q, if_pos ((sF_RFIT s).mpr q)]
    · rw [if_neg q, if_neg (fun z => q ((sF_RFIT s).mp z))]
theorem sF_W (s : sF v v') {as : Prop} [Decidable as] (hrs : Int) : ∀ r, rWv v' as hrs r = rWv v as hrs r
  | 0 => rfl
  | r + 1 => by
    funext all
    unfold rWv
    rw [sF_W s hrs r, sJ_lbv (sF_J s), sF_RFL s]
theorem sF_fsI (s : sF v v') (V : Int → Int) (m all : Int) (cl : List Nat) : ∀ n i, fsI v' V m all cl n i = fsI v V m all cl n i
  | 0, i => rfl
  | n + 1, i => by
    unfold fsI
    rw [sF_fsI s V m all cl n (i + 1)]
    unfold jok
    rw [sJ_jx (sF_J s), sJ_jc (sF_J s)]
theorem sF_jcd (s : sF v v') {as : Prop} [Decidable as] (hrs : Int) (h : Nat) (all : Int) : jcd v' as hrs h all = jcd v as hrs h all := by
  unfold jcd
  rw [sF_RFL s, sF_W s, sF_W s, sF_fsI s]
theorem sF_ja0 (s : sF v v') : ja0 v' = ja0 v := by
  unfold ja0 jf pF
  rw [s.1 49 (by decide), s.1 56 (by decide), s.1 57 (by decide), s.2 2 (by decide)]
theorem sF_jS (s : sF v v') {as : Prop} [Decidable as] (hrs : Int) : ∀ h, jS v' as hrs h = jS v as hrs h
  | 0 => sF_ja0 s
  | h + 1 => by
    unfold jS
    rw [sF_jS s hrs h, sJ_jx (sF_J s), sF_jcd s]
theorem sF_jtw (s : sF v v') {as : Prop} [Decidable as] (h u : Int) : jtw v' as h u = jtw v as h u := by
  funext j
  unfold jtw jco pT
  rw [s.2 1 (by decide), s.2 2 (by decide), s.1 49 (by decide), s.1 60 (by decide), sF_jS s, sF_jcd s]
theorem MR_cg {sh : List q_Sh} {w w' : Nat → Int → Int} {R R' : Nat → Nat → Option Nat} (h : MR sh w R) (hw : ∀ b, 20 ≤ b → b ≤ 24 → w' b = w b) (hR : ∀ b j, 15 ≤ b → R' b j = R b j) (hf : ∀ f cc wc t cd wd, MK sh R f cc wc t cd wd → 15 ≤ f ∧ 15 ≤ t) : MR sh w' R' := by
  obtain ⟨f, cc, wc, t, cd, wd, hK, h1, h2⟩ := h
  have ft := hf _ _ _ _ _ _ hK
  obtain ⟨m1, m2, m3, m4, d, b1, b2, b3, b4⟩ := hK
  refine ⟨f, cc, wc, t, cd, wd, ⟨by rw [hR 15 3 (by omega)]; exact m1, by rw [hR 15 4 (by omega)]; exact m2, ?_, ?_, d, b1, b2, b3, b4⟩, RL_fr h1 (hw _ b1.1 b1.2) (hw _ b2.1 b2.2), RL_fr h2 (hw _ b3.1 b3.2) (hw _ b4.1 b4.2)⟩
  · unfold LY at m3 ⊢
    rw [hR f 0 ft.1, hR f 1 ft.1]
    exact m3
  · unfold LY at m4 ⊢
    rw [hR t 0 ft.2, hR t 1 ft.2]
    exact m4
theorem MK_15 {sh : List q_Sh} {R : Nat → Nat → Option Nat} (hD : LD sh R) {f cc wc t cd wd : Nat} (h : MK sh R f cc wc t cd wd) : 15 ≤ f ∧ 15 ≤ t := by
  obtain ⟨m1, m2, m3, m4, d, b1, b2, b3, b4⟩ := h
  have key : ∀ a x, sh[a]? = some (.inl 2) → R a 0 = some x → 20 ≤ x → 15 ≤ a := fun a x h1 h2 h3 => by
    rcases Nat.lt_or_ge a 15 with z | z
    · exfalso
      obtain rfl | rfl | rfl | rfl | rfl | rfl | rfl | rfl | rfl | rfl | rfl | rfl | rfl | rfl | rfl : a = 0 ∨ a = 1 ∨ a = 2 ∨ a = 3 ∨ a = 4 ∨ a = 5 ∨ a = 6 ∨ a = 7 ∨ a = 8 ∨ a = 9 ∨ a = 10 ∨ a = 11 ∨ a = 12 ∨ a = 13 ∨ a = 14 := by omega
      all_goals simp [hD] at h1
      all_goals simp [hD] at h2
      all_goals omega
    · exact z
  exact ⟨key f cc m3.1 m3.2.1 b1.1, key t cd m4.1 m4.2.1 b3.1⟩
end
section
variable {sh : List q_Sh} {v w : Nat → Int → Int} {R : Nat → Nat → Option Nat}
theorem tab_eq (h : INV sh v w R) (as : Prop) [Decidable as] (h0 : rWv v as (v 48 1) (v 48 1).toNat (ja0 v) < MANY) (j : Int) : wtb v (v 32 0) (jcs v as (v 48 1).toNat 0) (-1) 0 25 j = jtw v as (v 48 1) 0 j := by
  have hA := h.2.2.1.1
  have hr := h.2.2.1.2.1
  have et := h.2.2.2.1.1.2
  have n1 := hA.2.2.2.2.1.1
  unfold wtb jtw
  rw [hr.1.1]
  by_cases q : (0 ≤ j ∧ j < 24) ∧ j % 8 < v 48 1
  · rw [if_pos ⟨rfl, q.1, q.2, Or.inl (by omega)⟩]
    have ec : (((jcs v as (v 48 1).toNat 0).getD (j % 8).toNat 0 : Nat) : Int) = jco v as (j % 8) := by
      unfold jco
      rw [jcs_at _ _ _ (by omega), Nat.zero_add]
    rw [ec]
    by_cases qu : j / 8 < v 48 2
    · rw [if_pos ⟨q.1, qu, Or.inl q.2⟩]
      obtain ⟨⟨l1, -⟩, -⟩ := hr.2.2.2.1 (j / 8) (by omega) qu
      unfold zout pT
      rw [l1]
    · rw [if_neg (fun z => qu z.2.1)]
      obtain ⟨i1, i2⟩ := jS_ok hA h0 (j % 8).toNat (by omega)
      obtain ⟨-, c1, -, -⟩ := jcd_ok hA (h := (j % 8).toNat) (by omega) i1 i2
      obtain ⟨⟨⟨r0, -⟩, ⟨r1, -⟩, ⟨r2, -⟩⟩, -⟩ := ((RFLn_mem 125).mp c1).2
      have c0 : zdg (jco v as (j % 8)) (j / 8) = 0 := by
        unfold jco
        obtain z | z | z : j / 8 = 0 ∨ j / 8 = 1 ∨ j / 8 = 2 := by omega
        · rw [z]; exact rok_0 r0 (by omega)
        · rw [z]; exact rok_0 r1 (by omega)
        · rw [z]; exact rok_0 r2 (by omega)
      unfold zout
      rw [if_pos c0, (hr.2.2.1 j q.1.1 q.1.2).2 (by omega)]
  · rw [if_neg (fun z => q ⟨z.2.1, z.2.2.1⟩), if_neg (fun z => q ⟨z.1, by omega⟩), et]
theorem st_search (xs : List Int32) (h : INV sh v w R) (as : Prop) [Decidable as] : ∃ (r : Int) (v1 w1 : Nat → Int → Int) (R1 : Nat → Nat → Option Nat) (v2 : Nat → Int → Int), (∀ Q : Int32 → q_H → Prop, q_CallI (GG xs) PP kPlanner_search [.ref 1, .ref 32, .ref 25, .int (zb as)] (sh, zs v, zt w, R) Q = Q (zi r) (sh, zs v1, zt w1, R1)) ∧ LD sh R1 ∧ (∀ Q : Int32 → q_H → Prop, q_CallI (GG xs) PP kMod_planned [.ref 48, .int (zb as)] (sh, zs (zu v1 48 0 0), zt w1, R1) Q = Q (zi r) (sh, zs v2, zt w1, R1)) ∧ INV sh v2 w1 R1 := by
  have hA := h.2.2.1.1
  have hr := h.2.2.1.2.1
  have et := h.2.2.2.1.1.2
  have z1 := hr.1.1
  obtain ⟨v1, w1, R1, r, ⟨a1, a2, a3, a4, a5⟩, a6⟩ := d_search xs sh v w R h.1.1 (I_dN h) (I_dT h) (I_dUs h) h.2.2.1.2.2 (I_dD h) as h.2.1.1
  have hM1 : LM sh R1 := LM_R h.1.2 (by funext j; exact a3 48 j (by omega))
  have hMR : MR sh w1 R1 := MR_cg h.2.1.2 (fun b b1 b2 => a2 b (by omega)) (fun b j hb => a3 b j (by omega)) (fun f cc wc t cd wd hK => MK_15 h.1.1 hK)
  -- the class's cells behind the search
  have rows : ∀ b, 15 ≤ b → b ≠ 25 → v1 b = v b := fun b b1 b2 => by
    rcases a5 with ⟨-, s, -⟩ | ⟨cs, -, s⟩
    · exact s b b1
    · rw [s b b1, wtb_row b2]
  have sf : sF v (zu v1 48 0 0) := ⟨fun b hb => by rw [zu_row (by omega)]; exact rows b (by omega) (by omega), fun j hj => by rw [zu_j hj, rows 48 (by omega) (by omega)]⟩
  have hA2 : rA (zu v1 48 0 0) := sM_rA ⟨fun a p1 p2 => sf.1 a p1, sf.1 63 (by decide), sf.2 1 (by decide), sf.2 2 (by decide)⟩ hA
  obtain ⟨v2, r2, ⟨b1, b2⟩, b3⟩ := n_planned xs sh (zu v1 48 0 0) w1 R1 hM1 hA2 as
  have e481 : zu v1 48 0 0 48 1 = v 48 1 := sf.2 1 (by decide)
  rw [e481, sF_W sf, sF_ja0 sf, sF_jtw sf] at b2
  have fr : ∀ b, 15 ≤ b → b ≠ 25 → b ≠ 48 → b ≠ 60 → b ≠ 64 → b ≠ 66 → b ≠ 68 → v2 b = v b := fun b c1 c2 c3 c4 c5 c6 c7 => by
    rw [b1.1 b c3 c4 c5 c7, zu_row c3]
    exact rows b c1 c2
  have f48 : ∀ j, j ≠ 0 → j ≠ 24 → v2 48 j = v 48 j := fun j j1 j2 => by rw [b1.2 j j2]; exact sf.2 j j1
  have f25 : v2 25 = v1 25 := by rw [b1.1 25 (by decide) (by decide) (by decide) (by decide), zu_row (by decide)]
  have sw : sScw w w1 := fun b c1 _ _ => a2 b c1
  by_cases h0 : rWv v as (v 48 1) (v 48 1).toNat (ja0 v) < MANY
  · have jb := joint_best hA hr as h0
    rcases a5 with ⟨-, -, no⟩ | ⟨cs, best, s⟩
    · obtain ⟨q1, q2, ⟨s', q3⟩, -⟩ := jb
      rw [z1] at no
      exact absurd q3 (no _ _ _ q1 q2)
    · rw [z1] at best
      obtain ⟨er, ecs⟩ := dp_best_one best jb
      rcases b2 with ⟨q, -, -⟩ | ⟨-, q2, q3⟩
      · exact absurd h0 q
      · have e25 : v2 25 = v2 60 := by
          funext j
          rw [f25, s 25 (by omega), ecs, tab_eq h as h0 j, q2 j]
        refine ⟨r, v1, w1, R1, v2, a6, a4, fun Q => ?_, INV_tab h fr f48 e25 (fun j j1 j2 => ?_) sw a4 hM1 a1 hMR⟩
        · rw [b3 Q, q3, er]
        · rw [q2 j]
          refine ⟨jtw_rng hA as (v 48 1) 0 j j1 j2, fun z => ?_⟩
          unfold jtw
          rw [if_neg (by omega)]
          exact (hr.2.2.1 j j1 j2).2 z
  · rcases a5 with ⟨er, s, -⟩ | ⟨cs, best, -⟩
    · rcases b2 with ⟨-, q2, q3⟩ | ⟨q, -⟩
      · have e60 : v2 60 = v 60 := by rw [q2]; exact sf.1 60 (by decide)
        refine ⟨r, v1, w1, R1, v2, a6, a4, fun Q => ?_, INV_tab h fr f48 (by rw [f25, s 25 (by omega), e60]; exact et) (fun j j1 j2 => ?_) sw a4 hM1 a1 hMR⟩
        · rw [b3 Q, q3, er]
        · rw [e60]
          exact ⟨hA.2.2.2.2.2 j j1 j2, (hr.2.2.1 j j1 j2).2⟩
      · exact absurd q h0
    · obtain ⟨q1, q2, ⟨s', q3⟩, -⟩ := best
      rw [z1] at q1
      exact absurd q3 (joint_none hA hr as h0 _ _ _ q1 q2)
theorem st_plan (xs : List Int32) (h : INV sh v w R) : stepI xs sh v w R kDesk_plan [.ref 0] kMod_plan [.ref 48] := by
  obtain ⟨r, v1, w1, R1, v2, a1, a2, a3, a4⟩ := st_search xs h False
  rw [zbFa (fun q => q)] at a1 a3
  have hD := h.1.1
  have hM := a4.1.2
  refine ⟨zi r, v1, w1, R1, v2, w1, fun Q => cI (fun Q hQ => ?_) Q, fun Q => cI (fun Q hQ => ?_) Q, a4⟩
  · refine e_Desk_plan xs _ _ (sh, zs v, zt w, R) ?_
    simp (discharger := first | assumption | omega) [hD, fI, fL, fV, zs_ar, zt_ar, zs_un, zt_un, zn_c, zu_a, zu_e, zu_j, zix, zi_lit, zl_lit, zi_add, zi_sub, zi_mul, zi_neg, zi_le, zi_lt, zi_eq, zl_add, zl_sub, zl_mul, zi_i2l, zl_l2i, zb0, zb1, zb0', zb1', zi_c0, zi_c1, zb_c, a1]
    exact hQ
  · refine e_Mod_plan xs _ _ (sh, zs v1, zt w1, R1) ?_
    simp (discharger := first | assumption | omega) [hM, fI, fL, fV, zs_ar, zt_ar, zs_un, zt_un, zn_c, zu_a, zu_e, zu_j, zix, zi_lit, zl_lit, zi_add, zi_sub, zi_mul, zi_neg, zi_le, zi_lt, zi_eq, zl_add, zl_sub, zl_mul, zi_i2l, zl_l2i, zb0, zb1, zb0', zb1', zi_c0, zi_c1, zb_c, a3]
    exact hQ
theorem st_redispatch (xs : List Int32) (h : INV sh v w R) : stepI xs sh v w R kDesk_redispatch [.ref 0] kMod_redispatch [.ref 48] := by
  obtain ⟨r, v1, w1, R1, v2, a1, a2, a3, a4⟩ := st_search xs h True
  rw [zbTr trivial] at a1 a3
  have hD := h.1.1
  have hM := a4.1.2
  refine ⟨zi r, v1, w1, R1, v2, w1, fun Q => cI (fun Q hQ => ?_) Q, fun Q => cI (fun Q hQ => ?_) Q, a4⟩
  · refine e_Desk_redispatch xs _ _ (sh, zs v, zt w, R) ?_
    simp (discharger := first | assumption | omega) [hD, fI, fL, fV, zs_ar, zt_ar, zs_un, zt_un, zn_c, zu_a, zu_e, zu_j, zix, zi_lit, zl_lit, zi_add, zi_sub, zi_mul, zi_neg, zi_le, zi_lt, zi_eq, zl_add, zl_sub, zl_mul, zi_i2l, zl_l2i, zb0, zb1, zb0', zb1', zi_c0, zi_c1, zb_c, a1]
    exact hQ
  · refine e_Mod_redispatch xs _ _ (sh, zs v1, zt w1, R1) ?_
    simp (discharger := first | assumption | omega) [hM, fI, fL, fV, zs_ar, zt_ar, zs_un, zt_un, zn_c, zu_a, zu_e, zu_j, zix, zi_lit, zl_lit, zi_add, zi_sub, zi_mul, zi_neg, zi_le, zi_lt, zi_eq, zl_add, zl_sub, zl_mul, zi_i2l, zl_l2i, zb0, zb1, zb0', zb1', zi_c0, zi_c1, zb_c, a3]
    exact hQ
end
