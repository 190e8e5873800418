/-! The law's helpers: a call of ours inside a table of handlers. -/
abbrev h_as (ints : List Value) (out : Nat) : List Value := Value.ref 0 :: ints ++ [Value.ref out]
abbrev h_st (ints : List Value) (out : Nat) : List Value := ints.reverse ++ [Value.ref 0, Value.int 0, Value.ref out]
/-- a walk of instructions that touch nothing but the frame -/
def h_w (l : Launch) (cc : ByteArray) (pc pc' : Nat) (ok : Array Slot → Prop) (st st' : List Value) : Prop := ∀ {p : Program} {e : Env} {R : Room} {s : State} {m : MethodId} {args : Array Value} {below : List Frame} {meth : Method} {c : Code} {H : Heap} {locs : List Loc} {cells slots : Nat} {Q : State → Prop} (ls : Array Slot), p.tables.exec = Jvm.exec → c.code = cc → lv_wf ls → ok ls → (∀ ls' : Array Slot, ls'.size = ls.size → lv_wf ls' → W p l e R s m args below meth c H locs cells slots Q (F0 m pc' ls' st')) → W p l e R s m args below meth c H locs cells slots Q (F0 m pc ls st)
section
variable {l : Launch} {D : va_G} {dA : Nat → ClassId} {az : Nat → Nat}
/-- the frame of a helper -/
theorem h_fr (xs : List Int32) {y : MethodName} {cc : ByteArray} {nL : Nat} {hh : List (Nat × Nat × Nat × Nat)} {rm : Room} {M : q_M} {rs : Nat → Option (Nat × Nat × Nat)} (hMe : M = (y, cc, nL, some .int, LW, (0, 8, 300), (fun _ => none), rs, fun _ => none)) (hf1 : 8 ≤ rm.frames) (hf2 : 300 ≤ rm.locals) {ad : Nat → Nat} {H : q_H} {sz : Nat} {as : List Value} {p : Program} {e : Env} {s : State} {m : MethodId} {args : Array Value} {below : List Frame} {meth : Method} {c : Code} {s₁ : State}
    (B : BodyLoose p l y (headSpec (Jvm.Cond.codeWith y cc nL (some .int) hh :: LW) rm) cc nL (some .int) e s m args below meth c s₁) (hml : c.maxLocals = nL) (hv : q_PcT (GG xs) D dA az ad H sz as args s) :
    q_fr (GG xs) D dA az M p rm s m args meth c (va_A (q_w (GG xs) dA ad H) s.heap.size) ∧ n_TS (va_A (q_w (GG xs) dA ad H) s.heap.size) s s.heap ∧ q_wd (GG xs) D dA s (va_A (q_w (GG xs) dA ad H) s.heap.size) ad H s.heap [] ∧ sz = s.heap.size ∧ args = (as.map (q_v az ad)).toArray ∧ c.exceptionTable.toList.map (fun h => (h.startPc, h.endPc, h.handlerPc, h.catchType)) = hh := by
  obtain ⟨⟨rfl, hsz, hP, hK, hD0, hZ, hN⟩, hTS⟩ := hv
  have hts := atoms_spec (ws := Jvm.Cond.codeWith y cc nL (some .int) hh :: LW) B.pre
  subst hsz
  subst hMe
  refine ⟨⟨B.exec, B.bytes, hml, findClass_of_methodNamed B.named, fun w hw => hts w (List.mem_cons_of_mem _ hw), (name_of_methodNamed B.named B.method).1, hK, fun q h => Or.inr h, hZ, hN, hf1, hf2⟩, hTS, ⟨hP, hD0.self (sz := s.heap.size), va_S.rf⟩, rfl, rfl, ?_⟩
  obtain ⟨m9, meth9, c9, g1, g2, g3, g4, g5, g6, -⟩ := Cond.codeWith_spec (hts _ List.mem_cons_self)
  cases B.named.symm.trans g1
  cases B.method.symm.trans g2
  cases (Stand.of_body B).code.symm.trans g3
  exact g6
/-- a write into an array of longs -/
theorem h_last {G : q_G} {M : q_M} {p : Program} {e : Env} {R : Room} {s : State} {m : MethodId} {args : Array Value} {below : List Frame} {meth : Method} {c : Code} {A : Nat → Prop} {Q : State → Prop} (hG : q_okG G) (hf : q_fr G D dA az M p R s m args meth c A) {cells slots pc a n : Nat} {i : Int32} {j : Nat} {st : List Value} {H : q_H} {ad : Nat → Nat} {Hp : Heap} {locs : List Loc} {lsA : Array Slot} (hj : q_ix i n = some j) (hw : q_wd G D dA s A ad H Hp locs) (x : Int64) (hd : decode (q_code M) pc = .ok (.lastore, 1)) (ha : H.1[a]? = some (.inr (1, n)))
    (k : ∀ Hp' locs', q_wd G D dA s A ad (H.1, H.2.1, q_up H.2.2.1 a j x, H.2.2.2) Hp' locs' → W p l e R s m args below meth c Hp' locs' cells slots Q (F0 m (pc + 1) lsA (st.map (q_v az ad)))) : W p l e R s m args below meth c Hp locs cells slots Q (F0 m pc lsA ((.long x :: .int i :: .ref a :: st).map (q_v az ad))) := by
  obtain ⟨hx, hb, hml, hown, hts, hnm, hK, hA, hZ, hN, hR1, hR2⟩ := hf
  obtain ⟨g0, g1, g2, g3, -⟩ := hG
  obtain ⟨hin, rfl⟩ := q_ix_in hj
  have he := q_arr_at (G := G) (dA := dA) (ad := ad) ha
  rw [q_av1 (by rw [g1]; rfl)] at he
  have hq := q_w_arr (G := G) (dA := dA) (ad := ad) (H' := (H.1, H.2.1, q_up H.2.2.1 a i.toNatClampNeg x, H.2.2.2)) ha rfl (fun _ _ => rfl) (fun i hi => q_up_row _ _ hi) (fun _ _ => rfl)
  rw [q_av1 (by rw [g1]; rfl)] at hq
  simp only [q_up_self] at hq
  exact va_last hx hb hK hw.1 hw.2.1 hw.2.2 a 1 he (by rw [q_tys_at (by omega), g1]) hin hd fun H1 locs1 h1 h2 h3 => k H1 locs1 ⟨hq ▸ h1, hq ▸ h2, h3⟩
theorem h_norm (xs : List Int32) {y : MethodName} {cc : ByteArray} {nL : Nat} {hh : List (Nat × Nat × Nat × Nat)} (hy : plainName y.cls = true) {M : q_M} {k iv nq pv pl pr : Nat} (hMe : M = (y, cc, nL, some .int, LW, (0, 8, 300), (fun _ => none), (fun i => if i = iv then some (10, k, nq) else none), fun _ => none)) (hR : q_okR (GG xs) PP M iv (10, k, nq)) {ints : List Value} {out : Nat} (hni : ints.length = nq) (hnr : ∀ i, Value.ref i ∉ ints) (hlen : (q_en (h_as ints out)).length ≤ nL)
    (d1 : decode cc pv = .ok (.invokevirtual iv, 3)) (w1 : ∀ ad : Nat → Nat, h_w l cc 0 pv (fun ls => ls.size = nL ∧ ∀ (i : Nat) (v : Value), (q_en (h_as ints out))[i]? = some (some v) → ls[i]? = some (.val (q_v az ad v))) [] ((h_st ints out).map (q_v az ad)))
    {H H1 : q_H} {r : Value} {xv : Int64} (hrr : ∀ i, r ≠ .ref i) (hcall : q_Call (GG xs) PP k (.ref 0 :: ints) H (fun v H' => v = some r ∧ H' = H1)) (hci : q_ci (PP k) = 0) (h0 : H.1[0]? = some (.inl 0)) (hout : H.1[out]? = some (.inr (1, 1))) (hsh : H1.1 = H.1)
    (w2 : ∀ a : Nat, h_w l cc (pv + 3) pl (fun _ => True) [r, .int 0, .ref a] [.long xv, .int 0, .ref a]) (hrv : ∀ ad : Nat → Nat, q_v az ad r = r) (d2 : decode cc pl = .ok (.lastore, 1)) (w3 : h_w l cc (pl + 1) pr (fun _ => True) [] [.int 0]) (d3 : decode cc pr = .ok (.ireturn, 1)) (wf : q_wfh H) (ad : Nat → Nat) (sz : Nat) :
    Met l y (Jvm.Cond.codeWith y cc nL (some .int) hh :: LW) ({ frames := 8, cells := 0, slots := 0, locals := 300 }) (q_PcT (GG xs) D dA az ad H sz (h_as ints out)) (q_Qc (GG xs) D dA az ad H sz (H1.1, H1.2.1, q_up H1.2.2.1 out 0 xv, H1.2.2.2) (some (.int 0))) 0 0 (va_A (q_w (GG xs) dA ad H) sz) := by
  refine va_MetW hy rfl ?_
  intro p e s m args below meth c s₁ B hml hv
  obtain ⟨hf, hTS, hw, rfl, rfl, -⟩ := h_fr xs hMe (rm := { frames := 8, cells := 0, slots := 0, locals := 300 }) (Nat.le_refl _) (Nat.le_refl _) B hml hv
  have hlk := B.notSynchronized
  have hrt := B.returns
  have hl0 := List.getElem?_eq_some_iff.mp h0
  have hlo := List.getElem?_eq_some_iff.mp hout
  rw [lg_entry_eq]
  have hL := q_L_entry az ad (vs := h_as ints out) (n := nL) (k := 0) hlen
  refine w1 ad _ B.exec B.bytes hL.2.1 ⟨hL.1, fun i v hv => hL.2.2 i v (by simpa using hv)⟩ (fun ls1 hs1 lw1 => ?_)
  have hs1' : ls1.size = nL := hs1.trans hL.1
  have e0 : ((((H.1.length : Nat) : Int) - ((H.1.length : Nat) : Int)).toNat) = 0 := by simp
  have e1 : ((((q_sl (GG xs) H.1 : Nat) : Int) - ((q_sl (GG xs) H.1 : Nat) : Int)).toNat) = 0 := by simp
  have hdrop : (h_st ints out).drop nq = Value.ref 0 :: [.int 0, .ref out] := by
    rw [List.drop_append_of_le_length (by rw [List.length_reverse, hni]; exact Nat.le_refl _), List.drop_eq_nil_of_le (by rw [List.length_reverse, hni]; exact Nat.le_refl _)]
    rfl
  have htake : (h_st ints out).take nq = ints.reverse := by
    rw [List.take_append_of_le_length (by rw [List.length_reverse, hni]; exact Nat.le_refl _), List.take_of_length_le (by rw [List.length_reverse, hni]; exact Nat.le_refl _)]
  have hcal : q_cal PP M (.invokevirtual iv) (h_st ints out) H = some (k, .ref 0 :: ints, [.int 0, .ref out]) := by
    subst hMe
    simp only [q_cal, q_rs, if_true, hdrop, htake]
    rw [if_pos ⟨by rw [hci]; exact h0, by simp [q_cat, Value.category], by rw [List.length_reverse]; exact hni⟩, List.reverse_reverse]
  have hMR : ∀ i q, q_rs M i = some q → q_okR (GG xs) PP M i q := fun i q hq => by
    subst hMe
    simp only [q_rs] at hq
    split at hq
    · rename_i hi
      cases hq
      rw [hi]
      exact hR
    · cases hq
  have hMc : q_code M = cc := by subst hMe; rfl
  have hMn : q_nL M = nL := by subst hMe; rfl
  have wst : q_wfs H.1.length (h_st ints out) := fun i hi => by
    rcases List.mem_append.mp hi with h | h
    · exact absurd (List.mem_reverse.mp h) (hnr i)
    · simp only [List.mem_cons, List.not_mem_nil, or_false, Value.ref.injEq, reduceCtorEq, false_or] at h
      rcases h with rfl | rfl
      · exact hl0.1
      · exact hlo.1
  have key := q_call_F (l := l) (n0 := ((H.1.length : Nat) : Int)) (s0 := ((q_sl (GG xs) H.1 : Nat) : Int)) (Q := MQ below (q_Qc (GG xs) D dA az ad H s.heap.size (H1.1, H1.2.1, q_up H1.2.2.1 out 0 xv, H1.2.2.2) (some (.int 0))) ((h_as ints out).map (q_v az ad)).toArray s 0 0 (va_A (q_w (GG xs) dA ad H) s.heap.size)) (e := e) (below := below) (lsA := ls1) (GG_ok xs) (PP_ok xs) hMR hf (ins := .invokevirtual iv) (pc := pv) (fun n hn => by cases hn; rw [hMc]; exact d1) hcal hcall wf wst hw (by rw [hMn]; exact hs1') (Int.le_refl _) (Int.le_refl _) (fun v H' hF => by
      obtain ⟨rfl, rfl⟩ := hF
      rw [hsh]
      exact ⟨by simp, by simp⟩) ?_
  · rw [e0, e1] at key
    exact key
  · rintro v H' ⟨rfl, rfl⟩ hext wf' hvr ad' Hp' locs' had hw'
    have ea : (Option.toList (some r) ++ [Value.int 0, .ref out]).map (q_v az ad') = [r, .int 0, .ref (ad' out)] := by
      show [q_v az ad' r, .int 0, .ref (ad' out)] = _
      rw [hrv]
    rw [ea, hsh, e0, e1]
    refine w2 (ad' out) ls1 B.exec B.bytes lw1 trivial (fun ls2 hs2 lw2 => ?_)
    refine h_last (GG_ok xs) hf (a := out) (n := 1) (i := 0) (j := 0) (st := []) (ad := ad') rfl hw' xv (by rw [hMc]; exact d2) (by rw [hsh]; exact hout) (fun Hp2 locs2 hw2 => ?_)
    rw [hsh] at hw2
    refine w3 ls2 B.exec B.bytes lw2 trivial (fun ls3 hs3 lw3 => ?_)
    exact W.zret B.exec B.bytes hrt rfl (fun t ht _ => ⟨ad', had, rfl, by rw [ht]; exact hw2.1, hw2.2.1, hw2.2.2.F ht⟩) hw2.2.2.2.2 d3
theorem h_thr (xs : List Int32) (htr : l.stackTraces = false) {y : MethodName} {cc : ByteArray} {nL : Nat} {hh : List (Nat × Nat × Nat × Nat)} (hy : plainName y.cls = true) {M : q_M} {k iv nq pv pr : Nat} (hMe : M = (y, cc, nL, some .int, LW, (0, 8, 300), (fun _ => none), (fun i => if i = iv then some (10, k, nq) else none), fun _ => none)) (hR : q_okR (GG xs) PP M iv (10, k, nq)) (hlk0 : Jvm.Cond.methodLink y.cls iv (q_y (PP k)) ∈ LW) {ints : List Value} {out : Nat} (hni : ints.length = nq) (hnr : ∀ i, Value.ref i ∉ ints) (hlen : (q_en (h_as ints out)).length ≤ nL)
    (d1 : decode cc pv = .ok (.invokevirtual iv, 3)) (w1 : ∀ ad : Nat → Nat, h_w l cc 0 pv (fun ls => ls.size = nL ∧ ∀ (i : Nat) (v : Value), (q_en (h_as ints out))[i]? = some (some v) → ls[i]? = some (.val (q_v az ad v))) [] ((h_st ints out).map (q_v az ad)))
    {H : q_H} {n : Nat} {z : Nat × List Value × q_H} (hle : (q_en (.ref 0 :: ints)).length ≤ q_nL (PP k)) (hrun : q_x (GG xs) PP n k 0 (q_en (.ref 0 :: ints) ++ List.replicate (q_nL (PP k) - (q_en (.ref 0 :: ints)).length) none) [] H = some z) (hz1 : z.2.1 = []) (hz2 : z.2.2 = H) (hci : q_ci (PP k) = 0) (h0 : H.1[0]? = some (.inl 0)) (hout : H.1[out]? = some (.inr (1, 1)))
    (hnf : q_nf_ (PP k) ≤ 6) (hnl : q_nl_ (PP k) ≤ 160) (hnL : q_nL (PP k) ≤ 10) {E : String} {ik ic : Nat} (hE : Bundle.fit E = true) (hcl0 : Jvm.Cond.classLink (q_y (PP k)).cls ik E ∈ q_ws (PP k)) (hini0 : Jvm.Cond.initialized E ∈ q_ws (PP k))
    (hat : ∀ a ∈ Bundle.ownAtoms0 (q_y (PP k)).cls ic E n_up, (a ∈ q_ws (PP k) ∧ goodWord a = true) ∨ a ∈ n_fw ∨ a ∈ n_sw)
    (t0 : decode (q_code (PP k)) z.1 = .ok (.new ik, 3)) (t3 : decode (q_code (PP k)) (z.1 + 3) = .ok (.dup, 1)) (t4 : decode (q_code (PP k)) (z.1 + 4) = .ok (.invokespecial ic, 3)) (t7 : decode (q_code (PP k)) (z.1 + 7) = .ok (.athrow, 1)) (hcast : Jvm.Cond.castable E E ∈ n_fw)
    {pre rest : List (Nat × Nat × Nat × Nat)} {q : Nat × Nat × Nat × Nat} (hes : hh = pre ++ q :: rest) (g0 : q.2.2.2 ≠ 0) (g1 : q.1 ≤ pv) (g2 : pv < q.2.1) (hlkE : Jvm.Cond.classLink y.cls q.2.2.2 E ∈ LW) (hpass : ∀ r ∈ pre, r.2.2.2 ≠ 0 ∧ E = n_IS ∧ Jvm.Cond.classLink y.cls r.2.2.2 n_IA ∈ LW)
    {kx : Int32} (w4 : ∀ a : Nat, h_w l cc q.2.2.1 pr (fun ls => ls.size = nL) [.ref a] [.int kx]) (d4 : decode cc pr = .ok (.ireturn, 1)) (wf : q_wfh H) (ad : Nat → Nat) (sz : Nat) :
    Met l y (Jvm.Cond.codeWith y cc nL (some .int) hh :: LW) ({ frames := 8, cells := 1, slots := 6, locals := 300 }) (q_PcT (GG xs) D dA az ad H sz (h_as ints out)) (q_Qc (GG xs) D dA az ad H sz H (some (.int kx))) 1 6 (va_A (q_w (GG xs) dA ad H) sz) := by
  refine va_MetW hy rfl ?_
  intro p e s m args below meth c s₁ B hml hv
  obtain ⟨hf, hTS, hw, rfl, rfl, htab⟩ := h_fr xs hMe (rm := { frames := 8, cells := 1, slots := 6, locals := 300 }) (Nat.le_refl _) (Nat.le_refl _) B hml hv
  have hlk := B.notSynchronized
  have hrt := B.returns
  have hl0 := List.getElem?_eq_some_iff.mp h0
  have hlo := List.getElem?_eq_some_iff.mp hout
  rw [lg_entry_eq]
  have hL := q_L_entry az ad (vs := h_as ints out) (n := nL) (k := 0) hlen
  refine w1 ad _ B.exec B.bytes hL.2.1 ⟨hL.1, fun i v hv => hL.2.2 i v (by simpa using hv)⟩ (fun ls1 hs1 lw1 => ?_)
  have hs1' : ls1.size = nL := hs1.trans hL.1
  have hdrop : (h_st ints out).drop nq = Value.ref 0 :: [.int 0, .ref out] := by
    rw [List.drop_append_of_le_length (by rw [List.length_reverse, hni]; exact Nat.le_refl _), List.drop_eq_nil_of_le (by rw [List.length_reverse, hni]; exact Nat.le_refl _)]
    rfl
  have htake : ((h_st ints out).take nq).reverse = ints := by
    rw [List.take_append_of_le_length (by rw [List.length_reverse, hni]; exact Nat.le_refl _), List.take_of_length_le (by rw [List.length_reverse, hni]; exact Nat.le_refl _), List.reverse_reverse]
  have hMR : ∀ i q, q_rs M i = some q → q_okR (GG xs) PP M i q := fun i q hq => by
    subst hMe
    simp only [q_rs] at hq
    split at hq
    · rename_i hi
      cases hq
      rw [hi]
      exact hR
    · cases hq
  have hMc : q_code M = cc := by subst hMe; rfl
  have hMn : q_nL M = nL := by subst hMe; rfl
  have hMy : q_y M = y := by subst hMe; rfl
  have hMw : q_ws M = LW := by subst hMe; rfl
  have hMr : q_rs M iv = some (10, k, nq) := by subst hMe; simp [q_rs]
  have wst : q_wfs H.1.length (h_st ints out) := fun i hi => by
    rcases List.mem_append.mp hi with h | h
    · exact absurd (List.mem_reverse.mp h) (hnr i)
    · simp only [List.mem_cons, List.not_mem_nil, or_false, Value.ref.injEq, reduceCtorEq, false_or] at h
      rcases h with rfl | rfl
      · exact hl0.1
      · exact hlo.1
  refine q_throw_M htr (GG_ok xs) (PP_ok xs) (q_sound l (GG_ok xs) (PP_ok xs) n) hMR hf hTS hMr (by rw [hMy, hMw]; exact hlk0) (by rw [hMc]; exact d1) hdrop (by rw [hci]; exact h0) (by simp [q_cat, Value.category]) (by rw [List.length_take]; simp [hni]) (by rw [htake]; exact hle) (by rw [htake]; exact hrun) hz1 hz2 wf wst hnf hnl hE hcl0 hini0 hat t0 t3 t4 t7 hcast hw (by rw [hMn]; exact hs1') (by show 7 ≤ 8; decide) (by show _ ≤ 300; omega) (by decide) (by decide) (htab.trans hes) g0 g1 g2 (by rw [hMy, hMw]; exact hlkE) (fun r hr => by
    obtain ⟨a1, a2, a3⟩ := hpass r hr
    exact ⟨a1, a2, by rw [hMy, hMw]; exact a3⟩) (fun ad' Hp' locs' x had hw' => ?_)
  refine w4 x ls1 B.exec B.bytes lw1 hs1' (fun ls2 hs2 lw2 => ?_)
  exact W.zret B.exec B.bytes hrt rfl (fun t ht _ => ⟨ad', had, rfl, by rw [ht]; exact hw'.1, hw'.2.1, hw'.2.2.F ht⟩) hw'.2.2.2.2 d4
end
