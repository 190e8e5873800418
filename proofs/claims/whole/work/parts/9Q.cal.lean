/-! Calls out of any frame: of methods of ours that return, of those that throw. -/
section
variable {l : Launch} {G : q_G} {P : Nat → q_M} {D : va_G} {dA : Nat → ClassId} {az : Nat → Nat} {p : Program} {e : Env} {R : Room} {s : State} {m : MethodId} {args : Array Value} {below : List Frame} {meth : Method} {c : Code} {A : Nat → Prop} {Q : State → Prop} {M : q_M}
theorem q_call_M (hG : q_okG G) (hV : ∀ k, q_okM G P (P k)) {n : Nat} (hS : q_Snd l G P D dA az n) (hMR : ∀ i q, q_rs M i = some q → q_okR G P M i q) {k' pc : Nat} (hf : q_fr G D dA az M p R s m args meth c A) {ins : Instr} (hdec : ∀ n, q_ln ins = some n → decode (q_code M) pc = .ok (ins, n)) {st as r : List Value} {H : q_H} (hc : q_cal P M ins st H = some (k', as, r)) (hle : (q_en as).length ≤ q_nL (P k')) {z : Nat × List Value × q_H}
    (hrun : q_x G P n k' 0 (q_en as ++ List.replicate (q_nL (P k') - (q_en as).length) none) [] H = some z) {v : Option Value} (hrv : q_rv (P k') z = some v) (wh : q_wfh H) (wst : q_wfs H.1.length st) {ad : Nat → Nat} {Hp : Heap} {locs : List Loc} {lsA : Array Slot} {n0 s0 : Int} (hw : q_wd G D dA s A ad H Hp locs) (hls : lsA.size = q_nL M) (hn : n0 ≤ H.1.length) (hs : s0 ≤ q_sl G H.1) (hc1 : (((z.2.2.1.length : Nat) : Int) - n0).toNat ≤ R.cells) (hc2 : (((q_sl G z.2.2.1 : Nat) : Int) - s0).toNat ≤ R.slots)
    (kk : ∀ (ad' : Nat → Nat) (Hp' : Heap) (locs' : List Loc), (∀ i, i < H.1.length → ad' i = ad i) → q_wd G D dA s A ad' z.2.2 Hp' locs' → W p l e R s m args below meth c Hp' locs' ((((z.2.2.1.length : Nat) : Int) - n0).toNat) ((((q_sl G z.2.2.1 : Nat) : Int) - s0).toNat) Q (F0 m (pc + 3) lsA ((v.toList ++ r).map (q_v az ad')))) :
    W p l e R s m args below meth c Hp locs ((((H.1.length : Nat) : Int) - n0).toNat) ((((q_sl G H.1 : Nat) : Int) - s0).toNat) Q (F0 m pc lsA (st.map (q_v az ad))) := by
  obtain ⟨hx, hb, hml, hown, hts, hnm, hK, hA, hZ, hN, hR1, hR2⟩ := id hf
  have wc := q_cal_wf hc wst
  have hM := q_met hG hV hS hrun hrv hle wh wc.1 ad Hp.size
  have hext := (q_x_wf n k' 0 _ [] H z hrun ⟨wh, (fun i hi => by cases hi), q_wfl.en _ wc.1⟩).1
  have hll := hext.le
  have hsl : q_sl G H.1 ≤ q_sl G z.2.2.1 := by
    obtain ⟨x, hx'⟩ := hext
    rw [hx', q_sl_app]
    omega
  obtain ⟨⟨-, ws', hws⟩, -⟩ := hV k'
  have hfit : (((H.1.length : Nat) : Int) - n0).toNat + (z.2.2.1.length - H.1.length) ≤ R.cells ∧ (((q_sl G H.1 : Nat) : Int) - s0).toNat + (q_sl G z.2.2.1 - q_sl G H.1) ≤ R.slots := by omega
  have hpc := q_Pc_of hG hf hw as
  unfold q_cal at hc
  split at hc
  · rename_i i
    split at hc
    · rename_i kq nq hr
      split at hc
      · rename_i b rq hdrop
        split at hc
        · rename_i hq
          cases hc
          obtain ⟨⟨hgood, hini, hlk, ne1, ne2, hdesc, hr1, hr2⟩, hinst, hsel, T, N, hcl⟩ := ((hMR i _ hr).2.2.2.2.1) rfl
          dsimp only at hr1 hr2
          have hrecv := va_recv (s := s) (D := D) (cl := g_cl G) (tys := q_tys G dA) hK hw.1 hcl (q_w_at (G := G) (dA := dA) (ad := ad) hq.1)
          have hlenA : ((st.take nq).reverse.map (q_v az ad)).length = nq := by rw [List.length_map, List.length_reverse]; exact hq.2.2
          refine q_back (a := (Value.ref (ad b) :: (st.take nq).reverse.map (q_v az ad)).toArray) hA hw wc.2 hn hs hll hsl ?_ kk
          rcases hlk with hlk | ⟨host, hlk⟩
          · exact va_runV ⟨hx, hb, hml, hown, hts⟩ hM ⟨callB_of nq hts hgood hws rfl rfl (hts _ hini) (hts _ hlk) ⟨ne1, ne2, hdesc⟩ (⟨by dsimp only; omega, by dsimp only; omega⟩), hts _ hinst, hts _ hsel⟩ ⟨q_Pc_blind hG, hrecv, hpc⟩ rfl hlenA hls (q_split hdrop az ad) (lv_room (by rw [q_cat_map]; exact hq.2.1)) (hdec _ rfl) hfit
          · exact va_runVN ⟨hx, hb, hml, hown, hts⟩ hM ⟨va_cnB nq hts hgood hws rfl rfl (hN _ hlk) (hts _ hini) ⟨ne1, ne2, hdesc⟩ (⟨by dsimp only; omega, by dsimp only; omega⟩), hts _ hinst, hts _ hsel⟩ ⟨q_Pc_blind hG, hrecv, hpc⟩ rfl hlenA hls (q_split hdrop az ad) (lv_room (by rw [q_cat_map]; exact hq.2.1)) (hdec _ rfl) hfit
        · cases hc
      · cases hc
    · cases hc
  · rename_i i
    split at hc
    · rename_i kq nq hr
      split at hc
      · rename_i b rq hdrop
        split at hc
        · rename_i hq
          cases hc
          obtain ⟨⟨hgood, hini, hlk, ne1, ne2, hdesc, hr1, hr2⟩, hinst, hname, hrt⟩ := ((hMR i _ hr).2.2.2.2.2.1) rfl
          dsimp only at hr1 hr2
          have hlenA : ((st.take nq).reverse.map (q_v az ad)).length = nq := by rw [List.length_map, List.length_reverse]; exact hq.2
          have hws' : q_ws (P k') = Jvm.Cond.code (q_y (P k')) (q_code (P k')) (q_nL (P k')) none :: ws' := by rw [hws, hrt]
          refine q_back (a := (Value.ref (ad b) :: (st.take nq).reverse.map (q_v az ad)).toArray) hA hw wc.2 hn hs hll hsl ?_ kk
          rcases hlk with hlk | ⟨host, hlk⟩
          · exact va_runI ⟨hx, hb, hml, hown, hts⟩ hM ⟨callB_of nq hts hgood hws' rfl rfl (hts _ hini) (hts _ hlk) ⟨ne1, ne2, hdesc⟩ (⟨by dsimp only; omega, by dsimp only; omega⟩), hname, hts _ hinst⟩ ⟨q_Pc_blind hG, hpc⟩ rfl hlenA hls (q_split hdrop az ad) (lv_room (by rw [q_cat_map]; exact hq.1)) (hdec _ rfl) hfit
          · exact va_runIN ⟨hx, hb, hml, hown, hts⟩ hM ⟨va_cnB nq hts hgood hws' rfl rfl (hN _ hlk) (hts _ hini) ⟨ne1, ne2, hdesc⟩ (⟨by dsimp only; omega, by dsimp only; omega⟩), hname, hts _ hinst⟩ ⟨q_Pc_blind hG, hpc⟩ rfl hlenA hls (q_split hdrop az ad) (lv_room (by rw [q_cat_map]; exact hq.1)) (hdec _ rfl) hfit
        · cases hc
      · cases hc
    · cases hc
  · rename_i i
    split at hc
    · rename_i kq nq hr
      split at hc
      · rename_i hq
        cases hc
        obtain ⟨⟨hgood, hini, hlk, ne1, ne2, hdesc, hr1, hr2⟩, hstat⟩ := ((hMR i _ hr).2.2.2.2.2.2.1) rfl
        dsimp only at hr1 hr2
        have hlenA : ((st.take nq).reverse.map (q_v az ad)).length = nq := by rw [List.length_map, List.length_reverse]; exact hq.2
        have hstk : st.map (q_v az ad) = ((st.take nq).reverse.map (q_v az ad)).reverse ++ (st.drop nq).map (q_v az ad) := by
          conv => lhs; rw [← List.take_append_drop nq st]
          simp [List.map_reverse]
        refine q_back (a := ((st.take nq).reverse.map (q_v az ad)).toArray) hA hw wc.2 hn hs hll hsl ?_ kk
        rcases hlk with hlk | ⟨host, hlk⟩
        · exact va_runS ⟨hx, hb, hml, hown, hts⟩ hM ⟨callB_of nq hts hgood hws rfl rfl (hts _ hini) (hts _ hlk) ⟨ne1, ne2, hdesc⟩ (⟨by dsimp only; omega, by dsimp only; omega⟩), hts _ hstat⟩ ⟨q_Pc_blind hG, hpc⟩ rfl hlenA hls hstk (lv_room (by rw [q_cat_map]; exact hq.1)) (hdec _ rfl) hfit
        · exact va_runSN ⟨hx, hb, hml, hown, hts⟩ hM ⟨va_cnB nq hts hgood hws rfl rfl (hN _ hlk) (hts _ hini) ⟨ne1, ne2, hdesc⟩ (⟨by dsimp only; omega, by dsimp only; omega⟩), hts _ hstat, trivial⟩ ⟨q_Pc_blind hG, hpc⟩ rfl hlenA hls hstk (lv_room (by rw [q_cat_map]; exact hq.1)) (hdec _ rfl) hfit
      · cases hc
    · cases hc
  · cases hc
/-- the same by q_Call -/
theorem q_call_F (hG : q_okG G) (hV : ∀ k, q_okM G P (P k)) (hMR : ∀ i q, q_rs M i = some q → q_okR G P M i q) {k' pc : Nat} (hf : q_fr G D dA az M p R s m args meth c A) {ins : Instr} (hdec : ∀ n, q_ln ins = some n → decode (q_code M) pc = .ok (ins, n)) {st as r : List Value} {H : q_H} (hc : q_cal P M ins st H = some (k', as, r)) {F : Option Value → q_H → Prop} (hC : q_Call G P k' as H F) (wh : q_wfh H) (wst : q_wfs H.1.length st) {ad : Nat → Nat} {Hp : Heap} {locs : List Loc} {lsA : Array Slot} {n0 s0 : Int} (hw : q_wd G D dA s A ad H Hp locs) (hls : lsA.size = q_nL M) (hn : n0 ≤ H.1.length) (hs : s0 ≤ q_sl G H.1)
    (hb : ∀ v H', F v H' → (((H'.1.length : Nat) : Int) - n0).toNat ≤ R.cells ∧ (((q_sl G H'.1 : Nat) : Int) - s0).toNat ≤ R.slots)
    (kk : ∀ (v : Option Value) (H' : q_H), F v H' → q_ext H H' → q_wfh H' → (∀ i, v ≠ some (.ref i)) → ∀ (ad' : Nat → Nat) (Hp' : Heap) (locs' : List Loc), (∀ i, i < H.1.length → ad' i = ad i) → q_wd G D dA s A ad' H' Hp' locs' → W p l e R s m args below meth c Hp' locs' ((((H'.1.length : Nat) : Int) - n0).toNat) ((((q_sl G H'.1 : Nat) : Int) - s0).toNat) Q (F0 m (pc + 3) lsA ((v.toList ++ r).map (q_v az ad')))) :
    W p l e R s m args below meth c Hp locs ((((H.1.length : Nat) : Int) - n0).toNat) ((((q_sl G H.1 : Nat) : Int) - s0).toNat) Q (F0 m pc lsA (st.map (q_v az ad))) := by
  obtain ⟨hle, n, z, hrun, v, hrv, hF⟩ := hC
  have wc := q_cal_wf hc wst
  obtain ⟨x1, y1, -⟩ := q_x_wf n k' 0 _ [] H z hrun ⟨wh, (fun i hi => by cases hi), q_wfl.en _ wc.1⟩
  obtain ⟨b1, b2⟩ := hb v z.2.2 hF
  exact q_call_M hG hV (q_sound l hG hV n) hMR hf hdec hc hle hrun hrv wh wst hw hls hn hs b1 b2 (kk v z.2.2 hF x1 y1 (q_rv_wf hrv))
/-- the method throws, and this frame's table catches it -/
theorem q_throw_M (htr : l.stackTraces = false) (hG : q_okG G) (hV : ∀ k, q_okM G P (P k)) {n : Nat} (hS : q_Snd l G P D dA az n) (hMR : ∀ i q, q_rs M i = some q → q_okR G P M i q) (hf : q_fr G D dA az M p R s m args meth c A) (hTS : n_TS A s s.heap) {i k' nq pc : Nat} (hr : q_rs M i = some (10, k', nq)) (hlk : Jvm.Cond.methodLink (q_y M).cls i (q_y (P k')) ∈ q_ws M) (hdec : decode (q_code M) pc = .ok (.invokevirtual i, 3)) {st r : List Value} {b : Nat} {H : q_H} (hdrop : st.drop nq = .ref b :: r) (hb : H.1[b]? = some (.inl (q_ci (P k')))) (hcat : q_cat r ≤ 8) (hlen : (st.take nq).length = nq)
    (hle : (q_en (.ref b :: (st.take nq).reverse)).length ≤ q_nL (P k')) {z : Nat × List Value × q_H} (hrun : q_x G P n k' 0 (q_en (.ref b :: (st.take nq).reverse) ++ List.replicate (q_nL (P k') - (q_en (.ref b :: (st.take nq).reverse)).length) none) [] H = some z) (hz1 : z.2.1 = []) (hz2 : z.2.2 = H) (wh : q_wfh H) (wst : q_wfs H.1.length st)
    (hnf : q_nf_ (P k') ≤ 6) (hnl : q_nl_ (P k') ≤ 160) {E : String} {ik ic : Nat} (hE : Bundle.fit E = true) (hcl0 : Jvm.Cond.classLink (q_y (P k')).cls ik E ∈ q_ws (P k')) (hini0 : Jvm.Cond.initialized E ∈ q_ws (P k'))
    (hat : ∀ a ∈ Bundle.ownAtoms0 (q_y (P k')).cls ic E n_up, (a ∈ q_ws (P k') ∧ goodWord a = true) ∨ a ∈ n_fw ∨ a ∈ n_sw)
    (d0 : decode (q_code (P k')) z.1 = .ok (.new ik, 3)) (d3 : decode (q_code (P k')) (z.1 + 3) = .ok (.dup, 1)) (d4 : decode (q_code (P k')) (z.1 + 4) = .ok (.invokespecial ic, 3)) (d7 : decode (q_code (P k')) (z.1 + 7) = .ok (.athrow, 1))
    (hcast : Jvm.Cond.castable E E ∈ n_fw) {ad : Nat → Nat} {Hp : Heap} {locs : List Loc} {lsA : Array Slot} {cells slots : Nat} (hw : q_wd G D dA s A ad H Hp locs) (hls : lsA.size = q_nL M) (hR1 : 7 ≤ R.frames) (hR2 : 8 + (q_nL (P k') + 11) + 160 ≤ R.locals) (hc1 : cells + 1 ≤ R.cells) (hc2 : slots + 6 ≤ R.slots)
    {pre rest : List (Nat × Nat × Nat × Nat)} {q : Nat × Nat × Nat × Nat} (hes : c.exceptionTable.toList.map (fun h => (h.startPc, h.endPc, h.handlerPc, h.catchType)) = pre ++ q :: rest) (h0 : q.2.2.2 ≠ 0) (h1 : q.1 ≤ pc) (h2 : pc < q.2.1) (hlkE : Jvm.Cond.classLink (q_y M).cls q.2.2.2 E ∈ q_ws M)
    (hpass : ∀ r ∈ pre, r.2.2.2 ≠ 0 ∧ E = n_IS ∧ Jvm.Cond.classLink (q_y M).cls r.2.2.2 n_IA ∈ q_ws M)
    (kk : ∀ (ad' : Nat → Nat) (Hp' : Heap) (locs' : List Loc) (x : Addr), (∀ i, i < H.1.length → ad' i = ad i) → q_wd G D dA s A ad' H Hp' locs' → W p l e R s m args below meth c Hp' locs' (cells + 1) (slots + 6) Q (F0 m q.2.2.1 lsA [.ref x])) :
    W p l e R s m args below meth c Hp locs cells slots Q (F0 m pc lsA (st.map (q_v az ad))) := by
  obtain ⟨hx, hbb, hml, hown, hts, hnm, hK, hA, hZ, hN, hRf, hRl⟩ := id hf
  obtain ⟨⟨hgood, hini, -, ne1, ne2, hdesc, -, -⟩, hinst, hsel, T0, N0, hcl⟩ := ((hMR i _ hr).2.2.2.2.1) rfl
  obtain ⟨⟨hpl, ws', hws⟩, -⟩ := hV k'
  have hcode : Jvm.Cond.code (q_y (P k')) (q_code (P k')) (q_nL (P k')) (q_rt (P k')) ∈ q_ws (P k') := by rw [hws]; exact List.mem_cons_self
  have was : q_wfs H.1.length (.ref b :: (st.take nq).reverse) := by
    have hbm : Value.ref b ∈ st := List.mem_of_mem_drop (i := nq) (by rw [hdrop]; exact List.mem_cons_self)
    intro j hj
    rcases List.mem_cons.mp hj with e1 | e1
    · cases e1
      exact wst _ hbm
    · exact wst j (List.mem_of_mem_take (List.mem_reverse.mp e1))
  have hM := q_metT htr hG hV hS hrun hz1 hz2 hle wh was hnf hnl hE hcl0 hini0 hat d0 d3 d4 d7 ad Hp.size
  have hin := q_A_in hA hw
  have hB : BackT l R p e below s args (q_y (P k')) 3 8 (fun B a => B.cells + 1 ≤ R.cells ∧ B.slots + 6 ≤ R.slots ∧ q_PcT G D dA az ad H Hp.size (.ref b :: (st.take nq).reverse) a B.U)
      (fun B a v C => ∃ (g : JFrame) (mk : MethodId) (t : State) (L : List Loc), C.U.heap = t.heap ∧ q_QcT G D dA ad H Hp.size E a (B.U.calling g mk a) (.threw v) t ∧ C.locs = B.locs ++ L ∧ (∀ q ∈ L, va_A (q_w G dA ad H) Hp.size q.base) ∧ C.cells = B.cells + 1 ∧ C.slots = B.slots + 6) := by
    refine BackT.of_free (S := headSpec (q_ws (P k')) q_rmT) (bytes := q_code (P k')) (maxL := q_nL (P k')) (ret := q_rt (P k')) (E := fun a st o t L k n => k = 1 ∧ n = 6 ∧ ∀ q ∈ L, va_A (q_w G dA ad H) Hp.size q.base) hM hR1 hR2 ?_ ?_ (fun _ _ _ _ _ _ _ _ _ => trivial) ?_ ?_
    · intro m' meth' c' B a Y hp
      exact ⟨atoms_intro fun w hw' => word_at Y.warmed (hgood w hw').2 (hts w (hgood w hw').1), word_at Y.warmed (hgood _ hcode).2 (hts _ (hgood _ hcode).1), word_at Y.warmed (Or.inl rfl) (hts _ hini), hp.1, hp.2.1⟩
    · intro m' meth' c' B a g mk Y hp
      exact ⟨q_Pc_blind hG _ _ _ _ hp.2.2.1, n_TS.moved (u := B.U) (U := B.U.calling g mk a) (State.WarmedH.refl B.U) hp.2.2.2⟩
    · intro a st o t hq
      obtain ⟨ad', x, ce, -, -, -, -, -, -, -, -, L, hF, hL⟩ := id hq
      exact ⟨L, 1, 6, hF, rfl, rfl, hL⟩
    · intro m' meth' c' B a g mk v t L k n Y hp hq hF ⟨e1, e2, hL⟩
      subst e1; subst e2
      exact ⟨g, mk, t, L, rfl, hq, rfl, hL, rfl, rfl⟩
  obtain ⟨cellB, hcB, hoB, hclB⟩ := va_recv (s := s) (D := D) (cl := g_cl G) (tys := q_tys G dA) hK hw.1 hcl (q_w_at (G := G) (dA := dA) (ad := ad) hb)
  have hlenA : ((st.take nq).reverse.map (q_v az ad)).length = nq := by rw [List.length_map, List.length_reverse]; exact hlen
  have hpc := q_Pc_of hG hf hw (.ref b :: (st.take nq).reverse)
  intro T hT X
  obtain ⟨v, vm₁, ⟨U', l2, c2, s2⟩, hW₁, X', ⟨g', mk, t, L, e1, ⟨ad', x, ce, z1, z2, z3, z4, z5, z6, z7, z8, -⟩, e2, hL, e3, e4⟩, stp⟩ := n_virtT X hx (C := (q_y (P k')).cls) (bytes := q_code (P k')) (maxL := q_nL (P k')) (ret := q_rt (P k')) hown (hts _ hlk) (hts _ hinst) (hts _ hsel) (hts _ (hgood _ hcode).1) ⟨ne1, ne2⟩ hB (by rw [hT]; exact hcB) hoB hclB (g := F0 m pc lsA (st.map (q_v az ad))) rfl (hls.trans hml.symm) (argsL := (st.take nq).reverse.map (q_v az ad)) (rest := r.map (q_v az ad)) (fun sig h => by
      rw [h] at hdesc
      rw [hlenA]
      exact (Option.some.inj hdesc).symm) (q_split hdrop az ad) (lv_room (by rw [q_cat_map]; exact hcat)) (by rw [hbb]; exact hdec)
    (fun vm₁ hW₁ => ⟨hc1, hc2, hpc (T.setVm vm₁) hT hW₁, by
      have h1 : n_TS A s Hp := hTS.kept hw.2.2.2.1
      have h2 : n_TS (va_A (q_w G dA ad H) Hp.size) s Hp := h1.narrow hin
      have h3 : n_TS (va_A (q_w G dA ad H) Hp.size) (T.setVm vm₁) Hp := n_TS.moved (u := s) (U := T.setVm vm₁) hW₁ h2
      have h4 : (T.setVm vm₁).heap = Hp := hT
      rw [h4]
      exact h3⟩)
  cases z2
  dsimp only [Pt.U, Pt.locs, Pt.cells, Pt.slots] at X' e1 e2 e3 e4 stp
  subst e2; subst e3; subst e4
  have hvm : s.vm.findClass E = some ce.cls := by
    rw [← hW₁.alike.findClass]
    exact z4
  have hnc := hTS.2.2.2
  obtain ⟨vm', XV, st2⟩ := n_catch X' (own := (q_y M).cls) (E := E) hown (g := F0 m pc lsA (r.map (q_v az ad))) rfl (by rw [e1]; exact z3) z5 hvm (va_any rfl (hTS.2.2.1 _ hcast)) hes h0 h1 h2 (hts _ hlkE) (fun r hr => by
    obtain ⟨w1, w2, w3⟩ := hpass r hr
    obtain ⟨k1, k2, k3, k4, k5⟩ := hnc
    subst w2
    cases hvm.symm.trans k3
    exact ⟨w1, n_IA, k2, hts _ w3, k4, k5⟩)
  have hF := z8
  have hsz : Hp.size ≤ t.heap.size := by
    have := hF.1
    have h0 : ((T.setVm vm₁).calling g' mk (Value.ref (ad b) :: (st.take nq).reverse.map (q_v az ad)).toArray).heap = Hp := hT
    rw [h0] at this
    exact this
  have hkeep : ∀ q : Nat, q < Hp.size → ¬ va_A (q_w G dA ad H) Hp.size q → t.heap[q]? = Hp[q]? := fun q q1 q2 => by
    have h0 : ((T.setVm vm₁).calling g' mk (Value.ref (ad b) :: (st.take nq).reverse.map (q_v az ad)).toArray).heap = Hp := hT
    have := hF.2 q (by rw [h0]; exact q1) q2
    rw [h0] at this
    exact this
  have hS' : va_S A s.heap U'.heap (locs ++ L) := ⟨Nat.le_trans hw.2.2.1 (by rw [e1]; exact hsz), fun q h1 h2 => by
      rw [e1, hkeep q (Nat.lt_of_lt_of_le h1 hw.2.2.1) (fun z => h2 (hin q z))]
      exact hw.2.2.2.1 q h1 h2, fun q hq => by
      rcases List.mem_append.mp hq with h | h
      · exact hw.2.2.2.2 q h
      · exact hin _ (hL q h)⟩
  obtain ⟨t2, a1, b1⟩ := kk ad' U'.heap (locs ++ L) v z1 ⟨by rw [e1]; exact z6, z7.weaken (fun _ q _ h => hin q.1 h), hS'⟩ (U'.setVm vm') rfl XV
  exact ⟨t2, stp t2 (st2 t2 a1), b1⟩
end
