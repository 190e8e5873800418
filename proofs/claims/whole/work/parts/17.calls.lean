section
variable {l : Launch} {G : q_G} {P : Nat → q_M} {D : va_G} {dA : Nat → ClassId} {az : Nat → Nat} {p : Program} {e : Env} {R : Room} {s : State} {m : MethodId} {args : Array Value} {below : List Frame} {meth : Method} {c : Code} {A : Nat → Prop} {Q : State → Prop}
def q_Pc (G : q_G) (D : va_G) (dA : Nat → ClassId) (az ad : Nat → Nat) (H : q_H) (sz : Nat) (as : List Value) : Array Value → State → Prop := va_Pc (as.map (q_v az ad)) (fun U => U.heap.size = sz ∧ va_P D (g_cl G) (q_w G dA ad H) U.heap ∧ va_K D (g_cl G) (q_tys G dA) U ∧ va_D (fun _ => True) (q_w G dA ad H) ∧ q_Z (g_sz G) az (va_A (q_w G dA ad H) sz) U U.heap ∧ ∀ w ∈ g_nw G, va_Nw w U)
def q_Qc (G : q_G) (D : va_G) (dA : Nat → ClassId) (az ad : Nat → Nat) (H : q_H) (sz : Nat) (H' : q_H) (v : Option Value) : Array Value → State → Outcome → State → Prop := fun _ st oc t => ∃ ad' : Nat → Nat, (∀ i, i < H.1.length → ad' i = ad i) ∧ oc = .returned (v.map (q_v az ad')) ∧ va_P D (g_cl G) (q_w G dA ad' H') t.heap ∧ va_D (va_A (q_w G dA ad H) sz) (q_w G dA ad' H') ∧ va_F (va_A (q_w G dA ad H) sz) st t
theorem q_nw_moved (hG : q_okG G) {u U : State} (hW : u.WarmedH U.vm) (h : ∀ w ∈ g_nw G, va_Nw w u) : ∀ w ∈ g_nw G, va_Nw w U := by
  intro w hw
  rcases hG.2.2.2.2 w hw with ⟨a, i, b, n, d, h', rfl⟩ | ⟨a, i, x, h', rfl⟩ | ⟨C, rfl⟩
  · exact va_Nw.warmF hW (h _ hw)
  · exact va_Nw.warmM hW (h _ hw)
  · exact va_AO.moved hW.alike (h _ hw)
theorem q_Pc_blind (hG : q_okG G) {ad : Nat → Nat} {H : q_H} {sz : Nat} {as : List Value} : FrameBlind (q_Pc G D dA az ad H sz as) := by
  intro a U g mk q
  obtain ⟨q0, q1, qP, qK, qD, qZ, qN⟩ := q
  exact ⟨q0, q1, qP, va_K.moved (u := U) (U := U.calling g mk a) (Vm.Alike.refl U.vm) qK, qD, q_Z.moved (u := U) (U := U.calling g mk a) (Vm.Alike.refl U.vm) qZ, q_nw_moved (u := U) (U := U.calling g mk a) hG (State.WarmedH.refl U) qN⟩
theorem q_A_in {ad : Nat → Nat} {H : q_H} {Hp : Heap} {locs : List Loc} (hA : ∀ q, s.heap.size ≤ q → A q) (hw : q_wd G D dA s A ad H Hp locs) : ∀ q, va_A (q_w G dA ad H) Hp.size q → A q := by
  intro q h
  rcases h with ⟨k, e', h⟩ | h
  · exact hw.2.1.2 k _ h
  · exact hA q (Nat.le_trans hw.2.2.1 h)
theorem q_Pc_of (hG : q_okG G) {M : q_M} (hf : q_fr G D dA az M p R s m args meth c A) {ad : Nat → Nat} {H : q_H} {Hp : Heap} {locs : List Loc} (hw : q_wd G D dA s A ad H Hp locs) (as : List Value) : ∀ U : State, U.heap = Hp → s.WarmedH U.vm → q_Pc G D dA az ad H Hp.size as (as.map (q_v az ad)).toArray U := by
  obtain ⟨hx, hb, hml, hown, hts, hnm, hK, hA, hZ, hN, hR1, hR2⟩ := hf
  intro U hU hW
  refine ⟨rfl, by rw [hU], by rw [hU]; exact hw.1, va_K.moved hW.alike hK, ⟨hw.2.1.1, fun _ _ _ => trivial⟩, ?_, q_nw_moved hG hW hN⟩
  rw [hU]
  exact ((hZ.kept hw.2.2.2.1).narrow (q_A_in hA hw)).moved hW.alike
/-- what the walk of a method gives: from the abstract run -/
def q_Snd (l : Launch) (G : q_G) (P : Nat → q_M) (D : va_G) (dA : Nat → ClassId) (az : Nat → Nat) (n : Nat) : Prop := ∀ (k pc : Nat) (ls : List (Option Value)) (st : List Value) (H : q_H) (z : Nat × List Value × q_H), q_x G P n k pc ls st H = some z → q_ok4 ls st H →
  ∀ (p : Program) (e : Env) (R : Room) (s : State) (m : MethodId) (args : Array Value) (below : List Frame) (meth : Method) (c : Code) (A : Nat → Prop) (Q : State → Prop), q_fr G D dA az (P k) p R s m args meth c A →
  ∀ (n0 s0 : Int) (ad : Nat → Nat) (Hp : Heap) (locs : List Loc) (lsA : Array Slot), n0 ≤ H.1.length → s0 ≤ q_sl G H.1 → (((z.2.2.1.length : Nat) : Int) - n0).toNat ≤ R.cells → (((q_sl G z.2.2.1 : Nat) : Int) - s0).toNat ≤ R.slots → q_wd G D dA s A ad H Hp locs → q_L az ad lsA (q_nL (P k)) ls →
  (∀ (ad' : Nat → Nat) (Hp' : Heap) (locs' : List Loc) (lsA' : Array Slot), (∀ i, i < H.1.length → ad' i = ad i) → q_wd G D dA s A ad' z.2.2 Hp' locs' → lsA'.size = q_nL (P k) → W p l e R s m args below meth c Hp' locs' ((((z.2.2.1.length : Nat) : Int) - n0).toNat) ((((q_sl G z.2.2.1 : Nat) : Int) - s0).toNat) Q (F0 m z.1 lsA' (z.2.1.map (q_v az ad')))) →
  W p l e R s m args below meth c Hp locs ((((H.1.length : Nat) : Int) - n0).toNat) ((((q_sl G H.1 : Nat) : Int) - s0).toNat) Q (F0 m pc lsA (st.map (q_v az ad)))
theorem q_met (hG : q_okG G) (hV : ∀ k, q_okM G P (P k)) {n : Nat} (hS : q_Snd l G P D dA az n) {k : Nat} {as : List Value} {H : q_H} {z : Nat × List Value × q_H} {v : Option Value} (hrun : q_x G P n k 0 (q_en as ++ List.replicate (q_nL (P k) - (q_en as).length) none) [] H = some z) (hrv : q_rv (P k) z = some v) (hlen : (q_en as).length ≤ q_nL (P k)) (wf : q_wfh H) (was : q_wfs H.1.length as) (ad : Nat → Nat) (sz : Nat) :
    Met l (q_y (P k)) (q_ws (P k)) ({ frames := q_nf_ (P k), cells := z.2.2.1.length - H.1.length, slots := q_sl G z.2.2.1 - q_sl G H.1, locals := q_nl_ (P k) }) (q_Pc G D dA az ad H sz as) (q_Qc G D dA az ad H sz z.2.2 v) (z.2.2.1.length - H.1.length) (q_sl G z.2.2.1 - q_sl G H.1) (va_A (q_w G dA ad H) sz) := by
  obtain ⟨⟨hpl, ws', hws⟩, -⟩ := hV k
  refine Met.ofW (cc := q_code (P k)) (maxL := q_nL (P k)) (ret := q_rt (P k)) hpl hws ?_
  intro p e s m args below meth c s₁ B hml hv
  obtain ⟨rfl, hsz, hP, hK, hD0, hZ, hN⟩ := hv
  have hx := B.exec
  have hb := B.bytes
  have hr := B.returns
  have hts := atoms_spec (ws := q_ws (P k)) B.pre
  have hown : s.vm.findClass (q_y (P k)).cls = some m.cls := findClass_of_methodNamed B.named
  have hlocks := B.notSynchronized
  have hin : meth.name = (q_y (P k)).name := (name_of_methodNamed B.named B.method).1
  subst hsz
  have hD := hD0.self (sz := s.heap.size)
  rw [lg_entry_eq]
  have hfr : q_fr G D dA az (P k) p ({ frames := q_nf_ (P k), cells := z.2.2.1.length - H.1.length, slots := q_sl G z.2.2.1 - q_sl G H.1, locals := q_nl_ (P k) } : Room) s m (as.map (q_v az ad)).toArray meth c (va_A (q_w G dA ad H) s.heap.size) := ⟨hx, hb, hml, hown, hts, hin, hK, fun q h => Or.inr h, hZ, hN, Nat.le_refl _, Nat.le_refl _⟩
  have key := hS k 0 _ [] H z hrun ⟨wf, (fun i hi => by cases hi), q_wfl.en _ was⟩ p e _ s m _ below meth c _ (MQ below (q_Qc G D dA az ad H s.heap.size z.2.2 v) (as.map (q_v az ad)).toArray s (z.2.2.1.length - H.1.length) (q_sl G z.2.2.1 - q_sl G H.1) (va_A (q_w G dA ad H) s.heap.size)) hfr (H.1.length : Nat) (q_sl G H.1 : Nat) ad s.heap [] _ (Int.le_refl _) (Int.le_refl _) (by dsimp only; omega) (by dsimp only; omega) ⟨hP, hD, va_S.rf⟩ (q_L_entry az ad hlen) ?_
  · simp only [Int.sub_self, Int.toNat_zero] at key
    exact key
  · intro ad' Hp' locs' lsA' had hw' hsz'
    have c1 : (((z.2.2.1.length : Nat) : Int) - ((H.1.length : Nat) : Int)).toNat = z.2.2.1.length - H.1.length := by omega
    have c2 : (((q_sl G z.2.2.1 : Nat) : Int) - ((q_sl G H.1 : Nat) : Int)).toNat = q_sl G z.2.2.1 - q_sl G H.1 := by omega
    rw [c1, c2]
    obtain ⟨pcE, stE, HE⟩ := z
    have hq : ∀ t : State, t.heap = Hp' → s.WarmedH t.vm → q_Qc G D dA az ad H s.heap.size HE v (as.map (q_v az ad)).toArray s (.returned (v.map (q_v az ad'))) t := fun t ht _ => ⟨ad', had, rfl, by rw [ht]; exact hw'.1, hw'.2.1, hw'.2.2.F ht⟩
    unfold q_rv at hrv
    dsimp only at hrv hq ⊢
    split at hrv
    · rename_i ht
      split at hrv
      · rename_i x hrt
        cases hrv
        exact W.zret hx hb (hr.trans hrt) rfl hq hw'.2.2.2.2 (q_dec (hV k) ht rfl)
      · rename_i x hrt
        split at hrv
        · rename_i hnar
          cases hrv
          exact W.zret hx hb (hr.trans hrt) (congrArg Value.int hnar) hq hw'.2.2.2.2 (q_dec (hV k) ht rfl)
        · cases hrv
      · cases hrv
    · rename_i ht
      split at hrv
      · rename_i x hrt
        cases hrv
        exact W.lret hx hb (hr.trans hrt) hq hw'.2.2.2.2 (q_dec (hV k) ht rfl)
      · cases hrv
    · rename_i ht
      split at hrv
      · rename_i hrt
        cases hrv
        exact W.vret hx hb (hr.trans hrt) hq hw'.2.2.2.2 (q_dec (hV k) ht rfl)
      · cases hrv
    · cases hrv
/-- behind a call -/
theorem q_back {ad : Nat → Nat} {H H' : q_H} {Hp : Heap} {locs : List Loc} {lsA : Array Slot} {n0 s0 : Int} {pc : Nat} {st r : List Value} {v : Option Value} {a : Array Value} (hA : ∀ q, s.heap.size ≤ q → A q) (hw : q_wd G D dA s A ad H Hp locs) (wr : q_wfs H.1.length r) (hn : n0 ≤ H.1.length) (hs : s0 ≤ q_sl G H.1) (hle : H.1.length ≤ H'.1.length) (hsl : q_sl G H.1 ≤ q_sl G H'.1)
    (hr : va_Run p l e R s m args below meth c Hp locs ((((H.1.length : Nat) : Int) - n0).toNat) ((((q_sl G H.1 : Nat) : Int) - s0).toNat) (H'.1.length - H.1.length) (q_sl G H'.1 - q_sl G H.1) (F0 m pc lsA (st.map (q_v az ad))) (r.map (q_v az ad)) (q_Qc G D dA az ad H Hp.size H' v a) (va_A (q_w G dA ad H) Hp.size))
    (kk : ∀ (ad' : Nat → Nat) (Hp' : Heap) (locs' : List Loc), (∀ i, i < H.1.length → ad' i = ad i) → q_wd G D dA s A ad' H' Hp' locs' → W p l e R s m args below meth c Hp' locs' ((((H'.1.length : Nat) : Int) - n0).toNat) ((((q_sl G H'.1 : Nat) : Int) - s0).toNat) Q (F0 m (pc + 3) lsA ((v.toList ++ r).map (q_v az ad')))) :
    W p l e R s m args below meth c Hp locs ((((H.1.length : Nat) : Int) - n0).toNat) ((((q_sl G H.1 : Nat) : Int) - s0).toNat) Q (F0 m pc lsA (st.map (q_v az ad))) := by
  intro T hT X
  obtain ⟨v', st₀, t, T', L, h0, X', hL, e1, e2, ⟨ad', had, hv', hP', hD', hz, hk⟩, stp⟩ := hr T hT X
  cases hv'
  rw [h0] at hz hk
  have hin := q_A_in hA hw
  have c1 : (((H.1.length : Nat) : Int) - n0).toNat + (H'.1.length - H.1.length) = (((H'.1.length : Nat) : Int) - n0).toNat := by omega
  have c2 : (((q_sl G H.1 : Nat) : Int) - s0).toNat + (q_sl G H'.1 - q_sl G H.1) = (((q_sl G H'.1 : Nat) : Int) - s0).toNat := by omega
  rw [c1, c2] at X'
  have hS : va_S A s.heap T'.heap (locs ++ L) := ⟨Nat.le_trans hw.2.2.1 (by rw [e1]; exact hz), fun q h1 h2 => by
      rw [e1, hk q (Nat.lt_of_lt_of_le h1 hw.2.2.1) (fun z => h2 (hin q z))]
      exact hw.2.2.2.1 q h1 h2, fun q hq => by
      rcases List.mem_append.mp hq with h | h
      · exact hw.2.2.2.2 q h
      · exact hin _ (hL q h)⟩
  obtain ⟨t2, a1, b1⟩ := kk ad' T'.heap (locs ++ L) had ⟨by rw [e1]; exact hP', hD'.weaken (fun _ q _ h => hin q.1 h), hS⟩ T' rfl X'
  refine ⟨t2, stp t2 ?_, b1⟩
  have he : (v.toList ++ r).map (q_v az ad') = (v.map (q_v az ad')).toList ++ r.map (q_v az ad) := by
    rw [List.map_append, q_map_ad had wr]
    cases v <;> rfl
  rw [he] at a1
  exact a1
theorem q_split {st : List Value} {n b : Nat} {r : List Value} (h : st.drop n = .ref b :: r) (az ad : Nat → Nat) : st.map (q_v az ad) = ((st.take n).reverse.map (q_v az ad)).reverse ++ .ref (ad b) :: r.map (q_v az ad) := by
  have h1 : st = st.take n ++ st.drop n := (List.take_append_drop n st).symm
  rw [h] at h1
  conv => lhs; rw [h1]
  simp [q_v, List.map_reverse]
theorem q_call_ok (hG : q_okG G) (hV : ∀ k, q_okM G P (P k)) {n : Nat} (hS : q_Snd l G P D dA az n) {k k' pc : Nat} (hf : q_fr G D dA az (P k) p R s m args meth c A) {ins : Instr} {len : Nat} {ks : List Nat} (ht : q_tb (P k) pc = some (ins, len, ks)) {st as r : List Value} {H : q_H} (hc : q_cal P (P k) ins st H = some (k', as, r)) (hle : (q_en as).length ≤ q_nL (P k')) {z : Nat × List Value × q_H}
    (hrun : q_x G P n k' 0 (q_en as ++ List.replicate (q_nL (P k') - (q_en as).length) none) [] H = some z) {v : Option Value} (hrv : q_rv (P k') z = some v) (wh : q_wfh H) (wst : q_wfs H.1.length st) {ad : Nat → Nat} {Hp : Heap} {locs : List Loc} {lsA : Array Slot} {n0 s0 : Int} (hw : q_wd G D dA s A ad H Hp locs) (hls : lsA.size = q_nL (P k)) (hn : n0 ≤ H.1.length) (hs : s0 ≤ q_sl G H.1) (hc1 : (((z.2.2.1.length : Nat) : Int) - n0).toNat ≤ R.cells) (hc2 : (((q_sl G z.2.2.1 : Nat) : Int) - s0).toNat ≤ R.slots)
    (kk : ∀ (ad' : Nat → Nat) (Hp' : Heap) (locs' : List Loc), (∀ i, i < H.1.length → ad' i = ad i) → q_wd G D dA s A ad' z.2.2 Hp' locs' → W p l e R s m args below meth c Hp' locs' ((((z.2.2.1.length : Nat) : Int) - n0).toNat) ((((q_sl G z.2.2.1 : Nat) : Int) - s0).toNat) Q (F0 m (pc + 3) lsA ((v.toList ++ r).map (q_v az ad')))) :
    W p l e R s m args below meth c Hp locs ((((H.1.length : Nat) : Int) - n0).toNat) ((((q_sl G H.1 : Nat) : Int) - s0).toNat) Q (F0 m pc lsA (st.map (q_v az ad))) := by
  obtain ⟨hx, hb, hml, hown, hts, hnm, hK, hA, hZ, hN, hR1, hR2⟩ := id hf
  have wc := q_cal_wf hc wst
  have hM := q_met hG hV hS hrun hrv hle wh wc.1 ad Hp.size
  have hext := (q_x_wf n k' 0 _ [] H z hrun ⟨wh, (fun i hi => by cases hi), q_wfl.en _ wc.1⟩).1
  have hll := hext.le
  have hsl : q_sl G H.1 ≤ q_sl G z.2.2.1 := by
    obtain ⟨x, hx'⟩ := hext
    rw [hx', q_sl_app]
    omega
  obtain ⟨⟨-, ws', hws⟩, -⟩ := hV k'
  have hfit : (((H.1.length : Nat) : Int) - n0).toNat + (z.2.2.1.length - H.1.length) ≤ R.cells ∧ (((q_sl G H.1 : Nat) : Int) - s0).toNat + (q_sl G z.2.2.1 - q_sl G H.1) ≤ R.slots := by omega
  have hpc := q_Pc_of hG hf hw as
  unfold q_cal at hc
  split at hc
  · rename_i i
    split at hc
    · rename_i kq nq hr
      split at hc
      · rename_i b rq hdrop
        split at hc
        · rename_i hq
          cases hc
          obtain ⟨⟨hgood, hini, hlk, ne1, ne2, hdesc, hr1, hr2⟩, hinst, hsel, T, N, hcl⟩ := (((hV k).2.2.1 i _ hr).2.2.2.2.1) rfl
          dsimp only at hr1 hr2
          have hrecv := va_recv (s := s) (D := D) (cl := g_cl G) (tys := q_tys G dA) hK hw.1 hcl (q_w_at (G := G) (dA := dA) (ad := ad) hq.1)
          have hlenA : ((st.take nq).reverse.map (q_v az ad)).length = nq := by rw [List.length_map, List.length_reverse]; exact hq.2.2
          refine q_back (a := (Value.ref (ad b) :: (st.take nq).reverse.map (q_v az ad)).toArray) hA hw wc.2 hn hs hll hsl ?_ kk
          rcases hlk with hlk | ⟨host, hlk⟩
          · exact va_runV ⟨hx, hb, hml, hown, hts⟩ hM ⟨callB_of nq hts hgood hws rfl rfl (hts _ hini) (hts _ hlk) ⟨ne1, ne2, hdesc⟩ (⟨by dsimp only; omega, by dsimp only; omega⟩), hts _ hinst, hts _ hsel⟩ ⟨q_Pc_blind hG, hrecv, hpc⟩ rfl hlenA hls (q_split hdrop az ad) (lv_room (by rw [q_cat_map]; exact hq.2.1)) (q_dec (hV k) ht rfl) hfit
          · exact va_runVN ⟨hx, hb, hml, hown, hts⟩ hM ⟨va_cnB nq hts hgood hws rfl rfl (hN _ hlk) (hts _ hini) ⟨ne1, ne2, hdesc⟩ (⟨by dsimp only; omega, by dsimp only; omega⟩), hts _ hinst, hts _ hsel⟩ ⟨q_Pc_blind hG, hrecv, hpc⟩ rfl hlenA hls (q_split hdrop az ad) (lv_room (by rw [q_cat_map]; exact hq.2.1)) (q_dec (hV k) ht rfl) hfit
        · cases hc
      · cases hc
    · cases hc
  · rename_i i
    split at hc
    · rename_i kq nq hr
      split at hc
      · rename_i b rq hdrop
        split at hc
        · rename_i hq
          cases hc
          obtain ⟨⟨hgood, hini, hlk, ne1, ne2, hdesc, hr1, hr2⟩, hinst, hname, hrt⟩ := (((hV k).2.2.1 i _ hr).2.2.2.2.2.1) rfl
          dsimp only at hr1 hr2
          have hlenA : ((st.take nq).reverse.map (q_v az ad)).length = nq := by rw [List.length_map, List.length_reverse]; exact hq.2
          have hws' : q_ws (P k') = Jvm.Cond.code (q_y (P k')) (q_code (P k')) (q_nL (P k')) none :: ws' := by rw [hws, hrt]
          refine q_back (a := (Value.ref (ad b) :: (st.take nq).reverse.map (q_v az ad)).toArray) hA hw wc.2 hn hs hll hsl ?_ kk
          rcases hlk with hlk | ⟨host, hlk⟩
          · exact va_runI ⟨hx, hb, hml, hown, hts⟩ hM ⟨callB_of nq hts hgood hws' rfl rfl (hts _ hini) (hts _ hlk) ⟨ne1, ne2, hdesc⟩ (⟨by dsimp only; omega, by dsimp only; omega⟩), hname, hts _ hinst⟩ ⟨q_Pc_blind hG, hpc⟩ rfl hlenA hls (q_split hdrop az ad) (lv_room (by rw [q_cat_map]; exact hq.1)) (q_dec (hV k) ht rfl) hfit
          · exact va_runIN ⟨hx, hb, hml, hown, hts⟩ hM ⟨va_cnB nq hts hgood hws' rfl rfl (hN _ hlk) (hts _ hini) ⟨ne1, ne2, hdesc⟩ (⟨by dsimp only; omega, by dsimp only; omega⟩), hname, hts _ hinst⟩ ⟨q_Pc_blind hG, hpc⟩ rfl hlenA hls (q_split hdrop az ad) (lv_room (by rw [q_cat_map]; exact hq.1)) (q_dec (hV k) ht rfl) hfit
        · cases hc
      · cases hc
    · cases hc
  · rename_i i
    split at hc
    · rename_i kq nq hr
      split at hc
      · rename_i hq
        cases hc
        obtain ⟨⟨hgood, hini, hlk, ne1, ne2, hdesc, hr1, hr2⟩, hstat⟩ := (((hV k).2.2.1 i _ hr).2.2.2.2.2.2.1) rfl
        dsimp only at hr1 hr2
        have hlenA : ((st.take nq).reverse.map (q_v az ad)).length = nq := by rw [List.length_map, List.length_reverse]; exact hq.2
        have hstk : st.map (q_v az ad) = ((st.take nq).reverse.map (q_v az ad)).reverse ++ (st.drop nq).map (q_v az ad) := by
          conv => lhs; rw [← List.take_append_drop nq st]
          simp [List.map_reverse]
        refine q_back (a := ((st.take nq).reverse.map (q_v az ad)).toArray) hA hw wc.2 hn hs hll hsl ?_ kk
        rcases hlk with hlk | ⟨host, hlk⟩
        · exact va_runS ⟨hx, hb, hml, hown, hts⟩ hM ⟨callB_of nq hts hgood hws rfl rfl (hts _ hini) (hts _ hlk) ⟨ne1, ne2, hdesc⟩ (⟨by dsimp only; omega, by dsimp only; omega⟩), hts _ hstat⟩ ⟨q_Pc_blind hG, hpc⟩ rfl hlenA hls hstk (lv_room (by rw [q_cat_map]; exact hq.1)) (q_dec (hV k) ht rfl) hfit
        · exact va_runSN ⟨hx, hb, hml, hown, hts⟩ hM ⟨va_cnB nq hts hgood hws rfl rfl (hN _ hlk) (hts _ hini) ⟨ne1, ne2, hdesc⟩ (⟨by dsimp only; omega, by dsimp only; omega⟩), hts _ hstat, trivial⟩ ⟨q_Pc_blind hG, hpc⟩ rfl hlenA hls hstk (lv_room (by rw [q_cat_map]; exact hq.1)) (q_dec (hV k) ht rfl) hfit
      · cases hc
    · cases hc
  · cases hc
/-- THE WALK: what the abstract machine runs, the Statement's machine runs -/
theorem q_sound (l : Launch) (hG : q_okG G) (hV : ∀ k, q_okM G P (P k)) : ∀ n, q_Snd l G P D dA az n
  | 0 => by
    intro k pc ls st H z h
    simp [q_x] at h
  | n + 1 => by
    have ih := q_sound l hG hV n
    intro k pc ls st H z h wf p e R s m args below meth c A Q hf n0 s0 ad Hp locs lsA hn hs hc1 hc2 hw hl hfin
    have hsub : ∀ ks, q_L az ad lsA (q_nL (P k)) (q_kill ks ls) := fun ks => q_L_sub hl (fun i v hv => q_kill_sub _ hv)
    unfold q_x at h
    split at h
    · cases h
    · rename_i ins len ks ht
      split at h
      · cases h
        exact hfin ad Hp locs lsA (fun _ _ => rfl) hw hl.1
      · split at h
        · rename_i k' as r hc
          · skip
            split at h
            · rename_i hle
              split at h
              · rename_i z1 h1
                split at h
                · rename_i v hv
                  have wc := q_cal_wf hc wf.2.1
                  obtain ⟨x1, y1, -⟩ := q_x_wf _ _ _ _ _ _ _ h1 ⟨wf.1, (fun i hi => by cases hi), q_wfl.en _ wc.1⟩
                  have w2 : q_ok4 (q_kill ks ls) (v.toList ++ r) z1.2.2 := by
                    refine ⟨y1, fun i hi => ?_, (wf.2.2.sub (fun i v hv => ⟨i, q_kill_sub _ hv⟩)).mono x1.le⟩
                    rcases List.mem_append.mp hi with e | e
                    · have := q_rv_wf hv i
                      cases v with
                      | none => cases e
                      | some u =>
                        rw [Option.toList_some, List.mem_singleton] at e
                        rw [← e] at this
                        exact absurd rfl this
                    · exact Nat.lt_of_lt_of_le (wc.2 i e) x1.le
                  have x2 := (q_x_wf _ _ _ _ _ _ _ h w2).1
                  have s1 : q_sl G H.1 ≤ q_sl G z1.2.2.1 := by
                    obtain ⟨x, hx'⟩ := x1
                    rw [hx', q_sl_app]; omega
                  have s2 : q_sl G z1.2.2.1 ≤ q_sl G z.2.2.1 := by
                    obtain ⟨x, hx'⟩ := x2
                    rw [hx', q_sl_app]; omega
                  have l1 := x1.le
                  have l2 := x2.le
                  refine q_call_ok hG hV ih hf ht hc hle h1 hv wf.1 wf.2.1 hw hl.1 hn hs (by omega) (by omega) fun ad' Hp' locs' had hw' => ?_
                  refine ih _ _ _ _ _ _ h w2 p e R s m args below meth c A Q hf n0 s0 ad' Hp' locs' lsA (by omega) (by omega) hc1 hc2 hw' (q_L_ad had (wf.2.2.sub (fun i v hv => ⟨i, q_kill_sub _ hv⟩)) (hsub ks)) fun ad'' Hp'' locs'' lsA'' had2 hw'' hsz => ?_
                  exact hfin ad'' Hp'' locs'' lsA'' (fun i hi => (had2 i (Nat.lt_of_lt_of_le hi l1)).trans (had i hi)) hw'' hsz
                · cases h
              · cases h
            · cases h
        · split at h
          · rename_i z1 h1
            have wk : q_ok4 (q_kill ks ls) st H := ⟨wf.1, wf.2.1, wf.2.2.sub (fun i v hv => ⟨i, q_kill_sub _ hv⟩)⟩
            obtain ⟨x1, y1⟩ := q_s1_wf h1 wk
            have x2 := (q_x_wf _ _ _ _ _ _ _ h y1).1
            have s1 : q_sl G H.1 ≤ q_sl G z1.2.2.2.1 := by
              obtain ⟨x, hx'⟩ := x1
              rw [hx', q_sl_app]; omega
            have s2 : q_sl G z1.2.2.2.1 ≤ q_sl G z.2.2.1 := by
              obtain ⟨x, hx'⟩ := x2
              rw [hx', q_sl_app]; omega
            have l1 := x1.le
            have l2 := x2.le
            refine q_s1_ok hG (hV k) hf ht h1 wk hw (hsub ks) hn hs (by omega) (by omega) fun ad' Hp' locs' lsA' had hw' hl' => ?_
            refine ih _ _ _ _ _ _ h y1 p e R s m args below meth c A Q hf n0 s0 ad' Hp' locs' lsA' (by omega) (by omega) hc1 hc2 hw' hl' fun ad'' Hp'' locs'' lsA'' had2 hw'' hsz => ?_
            exact hfin ad'' Hp'' locs'' lsA'' (fun i hi => (had2 i (Nat.lt_of_lt_of_le hi l1)).trans (had i hi)) hw'' hsz
          · cases h
end
