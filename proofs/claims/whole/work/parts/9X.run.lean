/-! The law's own calls: helpers with handlers, cell, the constructor with an array of arrays. -/
/-- a run that ends where something is thrown -/
def t_run (xs : List Int32) (k : Nat) (as : List Value) (H : q_H) (pc : Nat) : Prop := ∃ (n : Nat) (z : Nat × List Value × q_H), q_x (GG xs) PP n k 0 (q_en as ++ List.replicate (q_nL (PP k) - (q_en as).length) none) [] H = some z ∧ z.1 = pc ∧ z.2.1 = [] ∧ z.2.2 = H
theorem t_run_of {xs : List Int32} {k : Nat} {as : List Value} {H : q_H} {pc : Nat} {ls : List (Option Value)} {len : Nat} {ks : List Nat} (ht : q_tb (PP k) pc = some (.athrow, len, ks)) (h : ∀ J : Nat → List (Option Value) → List Value → q_H → Prop, y_C (GG xs) PP (PP k) J → J pc ls [] H → J 0 (q_en as ++ List.replicate (q_nL (PP k) - (q_en as).length) none) [] H) : t_run xs k as H pc := by
  obtain ⟨n, z, h1, h2⟩ := h (fun p l s h => q_Ex (GG xs) PP k p l s h (fun p' s' h' => p' = pc ∧ s' = [] ∧ h' = H)) (y_C_ex k _) (q_Ex.stop ht rfl ⟨rfl, rfl, rfl⟩)
  exact ⟨n, z, h1, h2⟩
section
variable {l : Launch} {G : q_G} {P : Nat → q_M} {D : va_G} {dA : Nat → ClassId} {az : Nat → Nat} {M : q_M} {p : Program} {e : Env} {R : Room} {s : State} {m : MethodId} {args : Array Value} {below : List Frame} {meth : Method} {c : Code} {A : Nat → Prop} {Q : State → Prop}
theorem q_PcT_blind (hG : q_okG G) {ad : Nat → Nat} {H : q_H} {sz : Nat} {as : List Value} : FrameBlind (q_PcT G D dA az ad H sz as) := by
  intro a U g mk q
  exact ⟨q_Pc_blind hG a U g mk q.1, n_TS.moved (u := U) (U := U.calling g mk a) (State.WarmedH.refl U) q.2⟩
theorem q_PcT_of (hG : q_okG G) (hf : q_fr G D dA az M p R s m args meth c A) (hTS : n_TS A s s.heap) {ad : Nat → Nat} {H : q_H} {Hp : Heap} {locs : List Loc} (hw : q_wd G D dA s A ad H Hp locs) (as : List Value) : ∀ U : State, U.heap = Hp → s.WarmedH U.vm → q_PcT G D dA az ad H Hp.size as (as.map (q_v az ad)).toArray U := fun U hU hW => ⟨q_Pc_of hG hf hw as U hU hW, by
  rw [hU]
  exact ((hTS.kept hw.2.2.2.1).narrow (q_A_in hf.2.2.2.2.2.2.2.1 hw)).moved hW⟩
/-- behind a call: cells and slots told apart -/
theorem n_back {ad : Nat → Nat} {H H' : q_H} {Hp : Heap} {locs : List Loc} {lsA : Array Slot} {n0 s0 n1 s1 : Int} {pc mc ms : Nat} {st r : List Value} {v : Option Value} {a : Array Value} (hA : ∀ q, s.heap.size ≤ q → A q) (hw : q_wd G D dA s A ad H Hp locs) (wr : q_wfs H.1.length r) (c1 : (((H.1.length : Nat) : Int) - n0).toNat + mc = (((H'.1.length : Nat) : Int) - n1).toNat) (c2 : (((q_sl G H.1 : Nat) : Int) - s0).toNat + ms = (((q_sl G H'.1 : Nat) : Int) - s1).toNat)
    (hr : va_Run p l e R s m args below meth c Hp locs ((((H.1.length : Nat) : Int) - n0).toNat) ((((q_sl G H.1 : Nat) : Int) - s0).toNat) mc ms (F0 m pc lsA (st.map (q_v az ad))) (r.map (q_v az ad)) (q_Qc G D dA az ad H Hp.size H' v a) (va_A (q_w G dA ad H) Hp.size))
    (kk : ∀ (ad' : Nat → Nat) (Hp' : Heap) (locs' : List Loc), (∀ i, i < H.1.length → ad' i = ad i) → q_wd G D dA s A ad' H' Hp' locs' → W p l e R s m args below meth c Hp' locs' ((((H'.1.length : Nat) : Int) - n1).toNat) ((((q_sl G H'.1 : Nat) : Int) - s1).toNat) Q (F0 m (pc + 3) lsA ((v.toList ++ r).map (q_v az ad')))) :
    W p l e R s m args below meth c Hp locs ((((H.1.length : Nat) : Int) - n0).toNat) ((((q_sl G H.1 : Nat) : Int) - s0).toNat) Q (F0 m pc lsA (st.map (q_v az ad))) := by
  intro T hT X
  obtain ⟨v', st₀, t, T', L, h0, X', hL, e1, e2, ⟨ad', had, hv', hP', hD', hz, hk⟩, stp⟩ := hr T hT X
  cases hv'
  rw [h0] at hz hk
  have hin := q_A_in hA hw
  rw [c1, c2] at X'
  have hS : va_S A s.heap T'.heap (locs ++ L) := ⟨Nat.le_trans hw.2.2.1 (by rw [e1]; exact hz), fun q h1 h2 => by
      rw [e1, hk q (Nat.lt_of_lt_of_le h1 hw.2.2.1) (fun z => h2 (hin q z))]
      exact hw.2.2.2.1 q h1 h2, fun q hq => by
      rcases List.mem_append.mp hq with h | h
      · exact hw.2.2.2.2 q h
      · exact hin _ (hL q h)⟩
  obtain ⟨t2, a1, b1⟩ := kk ad' T'.heap (locs ++ L) had ⟨by rw [e1]; exact hP', hD'.weaken (fun _ q _ h => hin q.1 h), hS⟩ T' rfl X'
  refine ⟨t2, stp t2 ?_, b1⟩
  have he : (v.toList ++ r).map (q_v az ad') = (v.map (q_v az ad')).toList ++ r.map (q_v az ad) := by
    rw [List.map_append, q_map_ad had wr]
    cases v <;> rfl
  rw [he] at a1
  exact a1
/-- a static call of a method with handlers -/
theorem n_runSW {H : Heap} {locs : List Loc} {cells slots : Nat} {y : MethodName} {bytes cc : ByteArray} {maxL nL mc ms n index : Nat} {ret : Option FieldType} {hh : List (Nat × Nat × Nat × Nat)} {ws : List Jvm.Cond} {rm : Room} {Pc : Array Value → State → Prop} {Qc : Array Value → State → Outcome → State → Prop} {free : Addr → Prop} {Ts : List Jvm.Cond} {own : String} {As rest : List Value} {g : JFrame}
    (S : CallFix p m c cc nL s args Ts own) (hM : Met l y ws rm Pc Qc mc ms free) (hG : GoodIn Ts ws) (hcw : Jvm.Cond.codeWith y bytes maxL ret hh ∈ ws) (hrc : rm.cells = mc) (hrs : rm.slots = ms) (hini : (Jvm.Cond.initialized y.cls).before args s = true) (hl : (Jvm.Cond.methodLink own index y).before args s = true) (hst : (Jvm.Cond.static y).before args s = true)
    (hd : y.cls ≠ "java/lang/invoke/MethodHandle" ∧ y.cls ≠ "java/lang/invoke/VarHandle" ∧ (parseMethodDescriptor y.desc).map (fun d => d.parameters.length) = some n) (hR : rm.frames + 1 ≤ R.frames ∧ 8 + (maxL + 11) + rm.locals ≤ R.locals) (hp : PreS s H Pc As)
    (hg : g.method = m) (hn : As.length = n) (hsize : g.locals.size = nL) (hstack : g.stack = As.reverse ++ rest) (hW : 2 * g.monitorRoom + (rest.map fun v => v.category).sum ≤ 8) (hdg : decode cc g.pc = .ok (.invokestatic index, 3)) (hf : cells + mc ≤ R.cells ∧ slots + ms ≤ R.slots) :
    va_Run p l e R s m args below meth c H locs cells slots mc ms g rest (Qc As.toArray) (free) := by
  obtain ⟨hx, hb, hml, ho, ht⟩ := S
  have hcode := ht _ (hG _ hcw).1
  have hK : Back l R p e below s args y 3 8 (PreOf R mc ms Pc) (PostOf Qc mc ms free) := va_backW (bytes := bytes) (maxL := maxL) (ret := ret) (hh := hh) hM hp.1 hrc hrs hR.1 hR.2 (pay_in ht hG) hcw (fun a' U hW => word_at hW (Or.inl (by first | rfl | simp [Cond.onTables, Cond.keeps, Cond.steady])) hini)
  intro T hT X
  obtain ⟨mk, methM, cM, hnamed, hmethM, -, -, -, -, -, -, hsigM⟩ := Cond.codeWith_spec hcode
  have hstatic : methM.isStatic = true := Cond.static_spec hnamed hmethM hst
  obtain ⟨kP, hkP, -⟩ := className_of_methodNamed hnamed
  have hinitP : kP.init = .initialized := Cond.initialized_spec (findClass_of_methodNamed hnamed) hkP hini
  have hlen : As.length = methM.sig.parameters.length := by
    have h2 := hd.2.2
    rw [hsigM] at h2
    exact hn.trans (Option.some.inj h2).symm
  obtain ⟨vm₁, X₁, hstep₁⟩ := X.invokestatic hx ho hl hnamed hmethM hstatic hkP hinitP ⟨hd.1, hd.2.1⟩ (g := g) hg (argsL := As) (rest := rest) hlen hstack (by rw [hb]; exact hdg)
  obtain ⟨v, B, X', hpost, hsteps⟩ := hK m meth c ⟨T.setVm vm₁, locs, cells, slots⟩ { g with stack := rest } (.invokestatic index) mk As.toArray X₁ hg (hsize.trans hml.symm) (by rw [hb]; exact hdg) hW (X₁.named hnamed) ⟨hf.1, hf.2, hp.2 (T.setVm vm₁) hT X₁.warmed⟩
  obtain ⟨U', l2, c2, s2⟩ := B
  obtain ⟨g', mk', t, L, e1, e2, hq, h1, hL, h2, h3⟩ := hpost
  dsimp only [Pt.U, Pt.locs, Pt.cells, Pt.slots] at X' e1 e2 h1 h2 h3 hsteps
  subst h1; subst h2; subst h3
  exact ⟨v, (T.setVm vm₁).calling g' mk' As.toArray, t, U', L, hT, X', hL, e1, e2, hq, fun target h => hstep₁ _ fun acts => by rw [doInvoke_state]; exact hsteps.trans h⟩
/-- a call, for what goes along with the walk -/
theorem J_run {N0 : Nat} {ad0 : Nat → Nat} {n0 s0 n1 s1 : Int} {pc mc ms : Nat} {st r : List Value} {H H' : q_H} {v : Option Value} {ls : List (Option Value)} {a : (Nat → Nat) → Array Value} (hA : ∀ q, s.heap.size ≤ q → A q) (hle : H.1.length ≤ H'.1.length)
    (c1 : n0 ≤ ((H.1.length : Nat) : Int) → n1 ≤ ((H'.1.length : Nat) : Int) ∧ (((H.1.length : Nat) : Int) - n0).toNat + mc = (((H'.1.length : Nat) : Int) - n1).toNat) (c2 : s0 ≤ ((q_sl G H.1 : Nat) : Int) → s1 ≤ ((q_sl G H'.1 : Nat) : Int) ∧ (((q_sl G H.1 : Nat) : Int) - s0).toNat + ms = (((q_sl G H'.1 : Nat) : Int) - s1).toNat)
    (wr : q_wfs H.1.length st → q_wfs H.1.length r) (wf' : q_ok4 ls st H → q_ok4 ls (v.toList ++ r) H')
    (hr : q_ok4 ls st H → (((H.1.length : Nat) : Int) - n0).toNat + mc ≤ R.cells ∧ (((q_sl G H.1 : Nat) : Int) - s0).toNat + ms ≤ R.slots → ∀ (ad : Nat → Nat) (Hp : Heap) (locs : List Loc) (lsA : Array Slot), q_wd G D dA s A ad H Hp locs → lsA.size = q_nL M → va_Run p l e R s m args below meth c Hp locs ((((H.1.length : Nat) : Int) - n0).toNat) ((((q_sl G H.1 : Nat) : Int) - s0).toNat) mc ms (F0 m pc lsA (st.map (q_v az ad))) (r.map (q_v az ad)) (q_Qc G D dA az ad H Hp.size H' v (a ad)) (va_A (q_w G dA ad H) Hp.size))
    (h : q_J l G D dA az M p e R s m args below meth c A Q N0 ad0 n1 s1 (pc + 3) ls (v.toList ++ r) H') : q_J l G D dA az M p e R s m args below meth c A Q N0 ad0 n0 s0 pc ls st H := by
  intro hn hsl hN wf
  obtain ⟨d1, d2⟩ := c1 hn
  obtain ⟨d3, d4⟩ := c2 hsl
  obtain ⟨b, k⟩ := h d1 d3 (by omega) (wf' wf)
  refine ⟨by omega, fun ad Hp locs lsA had hw hl => ?_⟩
  refine n_back hA hw (wr wf.2.1) d2 d4 (hr wf (by omega) ad Hp locs lsA hw hl.1) fun ad' Hp' locs' had' hw' => ?_
  exact k ad' Hp' locs' lsA (fun i hi => (had' i (by omega)).trans (had i hi)) hw' (q_L_ad had' wf.2.2 hl)
theorem q_Call_wf {k : Nat} {as : List Value} {H : q_H} {F : Option Value → q_H → Prop} (h : q_Call G P k as H F) (wf : q_wfh H) (was : q_wfs H.1.length as) : ∃ v H', F v H' ∧ q_ext H H' ∧ q_wfh H' := by
  obtain ⟨hle, n, z, hrun, v, hrv, hF⟩ := h
  obtain ⟨x1, y1, -⟩ := q_x_wf n k 0 _ [] H z hrun ⟨wf, (fun i hi => by cases hi), q_wfl.en _ was⟩
  exact ⟨v, z.2.2, hF, x1, y1⟩
/-- a helper with handlers is called -/
theorem n_help (hG : q_okG G) (hf : q_fr G D dA az M p R s m args meth c A) (hTS : n_TS A s s.heap) {N0 : Nat} {ad0 : Nat → Nat} {n0 s0 : Int} {pc i mc ms maxL nq : Nat} {y : MethodName} {bytes : ByteArray} {ret : Option FieldType} {hh : List (Nat × Nat × Nat × Nat)} {ws : List Jvm.Cond} {rm : Room} {as : List Value} {H H' : q_H} {x : Int32} {ls : List (Option Value)}
    (hM : q_wfh H → ∀ (ad : Nat → Nat) (sz : Nat), Met l y (Jvm.Cond.codeWith y bytes maxL ret hh :: ws) rm (q_PcT G D dA az ad H sz as) (q_Qc G D dA az ad H sz H' (some (.int x))) mc ms (va_A (q_w G dA ad H) sz)) (hgood : GoodIn (q_ws M) (Jvm.Cond.codeWith y bytes maxL ret hh :: ws)) (hrc : rm.cells = mc) (hrs : rm.slots = ms) (hini : Jvm.Cond.initialized y.cls ∈ q_ws M) (hlk : Jvm.Cond.methodLink (q_y M).cls i y ∈ q_ws M) (hst : Jvm.Cond.static y ∈ q_ws M)
    (hd : y.cls ≠ "java/lang/invoke/MethodHandle" ∧ y.cls ≠ "java/lang/invoke/VarHandle" ∧ (parseMethodDescriptor y.desc).map (fun d => d.parameters.length) = some nq) (hlen : as.length = nq) (hR : rm.frames + 1 ≤ R.frames ∧ 8 + (maxL + 11) + rm.locals ≤ R.locals) (hdec : decode (q_code M) pc = .ok (.invokestatic i, 3)) (hsh : H'.1 = H.1) (wf' : q_wfh H → q_wfh H')
    (h : q_J l G D dA az M p e R s m args below meth c A Q N0 ad0 (n0 - mc) (s0 - ms) (pc + 3) ls [.int x] H') : q_J l G D dA az M p e R s m args below meth c A Q N0 ad0 n0 s0 pc ls as.reverse H := by
  obtain ⟨hx, hb, hml, hown, hts, hnm, hK, hA, hZ, hN, hR1, hR2⟩ := id hf
  refine J_run (n1 := n0 - mc) (s1 := s0 - ms) (mc := mc) (ms := ms) (r := []) (v := some (.int x)) (a := fun ad => (as.map (q_v az ad)).toArray) hA (by rw [hsh]; exact Nat.le_refl _) (fun hn => by rw [hsh]; omega) (fun hn => by rw [hsh]; omega) (fun _ i hi => by cases hi) (fun wf => ⟨wf' wf.1, fun i hi => by simp at hi, by rw [hsh]; exact wf.2.2⟩) (fun wf hfit ad Hp locs lsA hw hls => ?_) h
  exact n_runSW (g := F0 m pc lsA (as.reverse.map (q_v az ad))) ⟨hx, hb, hml, hown, hts⟩ (hM wf.1 ad Hp.size) hgood List.mem_cons_self hrc hrs (hts _ hini) (hts _ hlk) (hts _ hst) hd hR ⟨q_PcT_blind hG, q_PcT_of hG hf hTS hw as⟩ rfl (by rw [List.length_map]; exact hlen) hls (by show as.reverse.map (q_v az ad) = _; rw [List.map_reverse]; simp) (lv_room (by simp)) hdec hfit
end
