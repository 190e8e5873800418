/-! A method of ours that throws. -/
/-- a static of the JDK's that holds a reference or null -/
def n_Z (C n d : String) (A : Nat → Prop) (U : State) (H : Heap) : Prop := ∃ (c : ClassId) (k : Class) (i : Nat) (f : Field) (a : Nat) (cell : Cell), U.vm.findClass C = some c ∧ U.fieldFound? C n d = some (c, k, i, f) ∧ f.isStatic = true ∧ k.statics = some a ∧ H[a]? = some cell ∧ cell.vm.isStatics = true ∧ cell.cls = c ∧ f.slot < cell.slots.size ∧ k.staticTypes[f.slot]? = some f.type ∧ (∃ u : RefV, cell.slots[f.slot]? = some u.v) ∧ ¬ A a
theorem n_Z.of {args : Array Value} {s : State} {C n d : String} {A : Nat → Prop} (hl : (Cond.laysStatic C n d).before args s = true) (h : (Cond.isRef (.static C n d)).before args s = true) (hA : ∀ a : Nat, a < s.heap.size → ¬ A a) : n_Z C n d A s s.heap := by
  obtain ⟨c, k, i, f, a, cell, hc, hf, hst, hsta, hcell, hiss, hcls, hlt, hty⟩ := Cond.laysStatic_spec hl
  exact ⟨c, k, i, f, a, cell, hc, hf, hst, hsta, hcell, hiss, hcls, hlt, hty, Cond.staticRefV hf hst hsta hcell hiss h, hA a (Array.getElem?_eq_some_iff.mp hcell).1⟩
theorem n_Z.moved {C n d : String} {A : Nat → Prop} {u U : State} {H : Heap} (hvm : u.vm.Alike U.vm) (h : n_Z C n d A u H) : n_Z C n d A U H := by
  obtain ⟨c, k, i, f, a, cell, hc, hf, hst, hsta, h5, h6, h7, h8, hty, h10⟩ := h
  obtain ⟨k', hi', he⟩ := State.fieldFound?_setVm hvm hf
  exact ⟨c, k', i, f, a, cell, by rw [hvm.findClass]; exact hc, hi', hst, by rw [he]; exact hsta, h5, h6, h7, h8, by rw [he]; exact hty, h10⟩
theorem n_Z.kept {C n d : String} {A : Nat → Prop} {U : State} {H H1 : Heap} (h : n_Z C n d A U H) (hq : ∀ a : Nat, a < H.size → ¬ A a → H1[a]? = H[a]?) : n_Z C n d A U H1 := by
  obtain ⟨c, k, i, f, a, cell, hc, hf, hst, hsta, h5, h6, h7, h8, hty, h9, h10⟩ := h
  exact ⟨c, k, i, f, a, cell, hc, hf, hst, hsta, by rw [hq a (Array.getElem?_eq_some_iff.mp h5).1 h10]; exact h5, h6, h7, h8, hty, h9, h10⟩
theorem n_Z.narrow {C n d : String} {A B : Nat → Prop} {U : State} {H : Heap} (h : n_Z C n d A U H) (hAB : ∀ q, B q → A q) : n_Z C n d B U H := by
  obtain ⟨c, k, i, f, a, cell, hc, hf, hst, hsta, h5, h6, h7, h8, hty, h9, h10⟩ := h
  exact ⟨c, k, i, f, a, cell, hc, hf, hst, hsta, h5, h6, h7, h8, hty, h9, fun z => h10 (hAB _ z)⟩
theorem n_Z.lays {C n d : String} {A : Nat → Prop} {U : State} (h : n_Z C n d A U U.heap) (args : Array Value) : (Cond.laysStatic C n d).before args U = true := by
  obtain ⟨c, k, i, f, a, cell, hc, hf, hst, hsta, h5, h6, h7, h8, hty, h9, h10⟩ := h
  exact Cond.laysStatic_of hc hf hst hsta h5 h6 h7 h8 hty
theorem n_Z.ref {C n d : String} {A : Nat → Prop} {U : State} (h : n_Z C n d A U U.heap) (args : Array Value) : (Cond.isRef (.static C n d)).before args U = true := by
  obtain ⟨c, k, i, f, a, cell, hc, hf, hst, hsta, h5, h6, h7, h8, hty, ⟨u, hu⟩, h10⟩ := h
  simp [Cond.before, Cond.holds, Cond.value, Term.eval, State.fieldNamed?, hf, hst, hsta, h5, h6, hu]
  obtain ⟨w, hw⟩ := u
  cases w <;> first | rfl | (cases hw)
def n_up : List String := ["java/lang/RuntimeException", "java/lang/Exception"]
def n_IA : String := "java/lang/IllegalArgumentException"
def n_IS : String := "java/lang/IllegalStateException"
def n_IO : String := "java/lang/IndexOutOfBoundsException"
/-- the words on exceptions that are no plain table words -/
def n_fw : List Jvm.Cond := [.declares (Bundle.init0 "java/lang/RuntimeException"), .declares (Bundle.init0 "java/lang/Exception"), .declares (Bundle.init0 Bundle.tN), .castable n_IA n_IA, .castable n_IS n_IS, .castable n_IO n_IO]
def n_sw : List Jvm.Cond := [.laysStatic Bundle.tN "UNASSIGNED_STACK" Bundle.steD, .laysStatic Bundle.tN "SUPPRESSED_SENTINEL" Bundle.listD, .isRef (.static Bundle.tN "UNASSIGNED_STACK" Bundle.steD), .isRef (.static Bundle.tN "SUPPRESSED_SENTINEL" Bundle.listD)]
theorem n_fw_ok : ∀ w ∈ n_fw, (w.onTables && w.keepsFace) = true := by decide
def n_TS (A : Nat → Prop) (U : State) (H : Heap) : Prop := n_Z Bundle.tN "UNASSIGNED_STACK" Bundle.steD A U H ∧ n_Z Bundle.tN "SUPPRESSED_SENTINEL" Bundle.listD A U H ∧ (∀ w ∈ n_fw, w.before #[] U = true) ∧ ∃ c1 c2, U.vm.findClass n_IS = some c1 ∧ U.vm.findClass n_IA = some c2 ∧ U.vm.assignable c1 c2 = false
theorem n_TS.moved {A : Nat → Prop} {u U : State} {H : Heap} (hW : u.WarmedH U.vm) (h : n_TS A u H) : n_TS A U H := by
  obtain ⟨h1, h2, h3, c1, c2, h4, h5, h6⟩ := h
  exact ⟨h1.moved hW.alike, h2.moved hW.alike, fun w hw => Cond.onTables_atFace hW (n_fw_ok w hw) (h3 w hw), c1, c2, by rw [hW.alike.findClass]; exact h4, by rw [hW.alike.findClass]; exact h5, by rw [hW.alike.assignable]; exact h6⟩
theorem n_TS.kept {A : Nat → Prop} {U : State} {H H1 : Heap} (h : n_TS A U H) (hq : ∀ a : Nat, a < H.size → ¬ A a → H1[a]? = H[a]?) : n_TS A U H1 := ⟨h.1.kept hq, h.2.1.kept hq, h.2.2⟩
theorem n_TS.narrow {A B : Nat → Prop} {U : State} {H : Heap} (h : n_TS A U H) (hAB : ∀ q, B q → A q) : n_TS B U H := ⟨h.1.narrow hAB, h.2.1.narrow hAB, h.2.2⟩
theorem n_TS.sw {A : Nat → Prop} {U : State} (h : n_TS A U U.heap) (args : Array Value) : ∀ w ∈ n_sw, w.before args U = true := by
  intro w hw
  simp only [n_sw, List.mem_cons, List.not_mem_nil, or_false] at hw
  rcases hw with rfl | rfl | rfl | rfl
  · exact h.1.lays args
  · exact h.2.1.lays args
  · exact h.1.ref args
  · exact h.2.1.ref args
section
variable {l : Launch} {G : q_G} {P : Nat → q_M} {D : va_G} {dA : Nat → ClassId} {az : Nat → Nat}
def q_PcT (G : q_G) (D : va_G) (dA : Nat → ClassId) (az ad : Nat → Nat) (H : q_H) (sz : Nat) (as : List Value) : Array Value → State → Prop := fun a U => q_Pc G D dA az ad H sz as a U ∧ n_TS (va_A (q_w G dA ad H) sz) U U.heap
def q_QcT (G : q_G) (D : va_G) (dA : Nat → ClassId) (ad : Nat → Nat) (H : q_H) (sz : Nat) (X : String) : Array Value → State → Outcome → State → Prop := fun _ st o t => ∃ (ad' : Nat → Nat) (x : Addr) (ce : Cell), (∀ i, i < H.1.length → ad' i = ad i) ∧ o = .threw x ∧ t.heap[x]? = some ce ∧ st.vm.findClass X = some ce.cls ∧ ce.vm = .none ∧ va_P D (g_cl G) (q_w G dA ad' H) t.heap ∧ va_D (va_A (q_w G dA ad H) sz) (q_w G dA ad' H) ∧ va_F (va_A (q_w G dA ad H) sz) st t ∧ ∃ L, FrameEndT st o t L 1 6 ∧ ∀ q ∈ L, va_A (q_w G dA ad H) sz q.base
def q_rmT : Room := { frames := 6, cells := 1, slots := 6, locals := 160 }
theorem va_P.grown {D : va_G} {cl : List vw_C} {ws : va_W} {H H1 : Heap} (h : va_P D cl ws H) (hq : ∀ q, q < H.size → H1[q]? = H[q]?) : va_P D cl ws H1 := fun k q hk => (h k q hk).kept (hq q.1 (h k q hk).lt)
theorem q_metT (htr : l.stackTraces = false) (hG : q_okG G) (hV : ∀ k, q_okM G P (P k)) {n : Nat} (hS : q_Snd l G P D dA az n) {k : Nat} {as : List Value} {H : q_H} {z : Nat × List Value × q_H} (hrun : q_x G P n k 0 (q_en as ++ List.replicate (q_nL (P k) - (q_en as).length) none) [] H = some z) (hz1 : z.2.1 = []) (hz2 : z.2.2 = H) (hlen : (q_en as).length ≤ q_nL (P k)) (wf : q_wfh H) (was : q_wfs H.1.length as)
    (hnf : q_nf_ (P k) ≤ 6) (hnl : q_nl_ (P k) ≤ 160) {X : String} {ik ic : Nat} (hX : Bundle.fit X = true) (hcl : Jvm.Cond.classLink (q_y (P k)).cls ik X ∈ q_ws (P k)) (hini : Jvm.Cond.initialized X ∈ q_ws (P k))
    (hat : ∀ a ∈ Bundle.ownAtoms0 (q_y (P k)).cls ic X n_up, (a ∈ q_ws (P k) ∧ goodWord a = true) ∨ a ∈ n_fw ∨ a ∈ n_sw)
    (d0 : decode (q_code (P k)) z.1 = .ok (.new ik, 3)) (d3 : decode (q_code (P k)) (z.1 + 3) = .ok (.dup, 1)) (d4 : decode (q_code (P k)) (z.1 + 4) = .ok (.invokespecial ic, 3)) (d7 : decode (q_code (P k)) (z.1 + 7) = .ok (.athrow, 1)) (ad : Nat → Nat) (sz : Nat) :
    MetFree l (q_y (P k)) (headSpec (q_ws (P k)) q_rmT) (q_PcT G D dA az ad H sz as) (fun _ _ _ _ _ => True) (q_QcT G D dA ad H sz X) := by
  obtain ⟨⟨hpl, ws', hws⟩, -⟩ := hV k
  have hcode : Jvm.Cond.code (q_y (P k)) (q_code (P k)) (q_nL (P k)) (q_rt (P k)) ∈ q_ws (P k) := by rw [hws]; exact List.mem_cons_self
  refine MetFree.of_bodyS (code := q_code (P k)) (maxLocals := q_nL (P k)) (ret := q_rt (P k)) hpl ?_ ?_
  · intro args s m h hn
    obtain ⟨meth, c, h1, h2, h3, h4, h5, h6, -, -⟩ := Cond.code_spec hn (atoms_spec (ws := q_ws (P k)) h _ hcode)
    exact ⟨meth, c, h1, h2, h3, h4, h5, h6⟩
  · intro p e s m args below meth c s₁ B hml hv _
    obtain ⟨⟨rfl, hsz, hP, hK, hD0, hZ, hN⟩, hTS⟩ := hv
    have hx := B.exec
    have hb := B.bytes
    have hts := atoms_spec (ws := q_ws (P k)) B.pre
    have hown : s.vm.findClass (q_y (P k)).cls = some m.cls := findClass_of_methodNamed B.named
    have hlocks := B.notSynchronized
    have hin : meth.name = (q_y (P k)).name := (name_of_methodNamed B.named B.method).1
    subst hsz
    have hD := hD0.self (sz := s.heap.size)
    have hh0 : s₁.heap = s.heap := by rw [B.state]; rfl
    have hfr : q_fr G D dA az (P k) p q_rmT s m (as.map (q_v az ad)).toArray meth c (va_A (q_w G dA ad H) s.heap.size) := ⟨hx, hb, hml, hown, hts, hin, hK, fun q h => Or.inr h, hZ, hN, hnf, hnl⟩
    have key := hS k 0 _ [] H z hrun ⟨wf, (fun i hi => by cases hi), q_wfl.en _ was⟩ p e _ s m _ below meth c _ (fun t => ∃ o, t.status = .running ∧ Ended t below o ∧ q_QcT G D dA ad H s.heap.size X (as.map (q_v az ad)).toArray s o t) hfr (H.1.length : Nat) (q_sl G H.1 : Nat) ad s.heap [] _ (Int.le_refl _) (Int.le_refl _) (by rw [hz2]; show _ ≤ 1; omega) (by rw [hz2]; show _ ≤ 6; omega) ⟨hP, hD, va_S.rf⟩ (q_L_entry az ad hlen) ?_
    · simp only [Int.sub_self, Int.toNat_zero] at key
      have X₀ : Stand p l e q_rmT s m (as.map (q_v az ad)).toArray below meth c s₁ [] 0 0 := Stand.of_body B
      rw [lg_entry_eq]
      obtain ⟨t, a1, o, b1, b2, b3⟩ := key s₁ hh0 X₀
      exact ⟨t, o, a1, b1, b2, b3⟩
    · intro ad' Hp' locs' lsA' had hw' hsz'
      rw [hz2] at hw' ⊢
      rw [hz1]
      simp only [Int.sub_self, Int.toNat_zero, List.map_nil]
      intro T hT Y
      have htr' : e.platform.stackTraces = false := by rw [Y.admits.platform]; exact htr
      have hWr : s.WarmedH (n_reb s T).vm := Y.warmed
      have hTS' : n_TS (va_A (q_w G dA ad H) s.heap.size) (n_reb s T) (n_reb s T).heap := by
        have h1 : n_TS (va_A (q_w G dA ad H) s.heap.size) s T.heap := hTS.kept (by rw [hT]; exact hw'.2.2.2.1)
        exact h1.moved hWr
      have good : ∀ a ∈ q_ws (P k), goodWord a = true → a.before (as.map (q_v az ad)).toArray (n_reb s T) = true := fun a ha hg => word_at hWr (good_of_word hg) (hts a ha)
      obtain ⟨U, u1, u2, u3, u4, u5, ⟨u6, u7⟩, ce, u8, u9, u10⟩ := n_throw Y hx htr' hlocks (own := (q_y (P k)).cls) (cls := X) (names := n_up) (ik := ik) (ic := ic) hown hX (by decide +kernel) (good _ hcl rfl) (good _ hini rfl)
        (fun a ha => by
          rcases hat a ha with h | h | h
          · exact good a h.1 h.2
          · exact va_any (by have := n_fw_ok a h; simp only [Bool.and_eq_true] at this; exact this.1) (hTS'.2.2.1 a h)
          · exact hTS'.sw _ a h)
        (pc := z.1) (ls := lsA') (hsz'.trans hml.symm) (by rw [hb]; exact d0) (by rw [hb]; exact d3) (by rw [hb]; exact d4) (by rw [hb]; exact d7) (covers_of_empty (B.noHandlers (hts _ hcode)) _) (by decide) (by decide) (by decide) (by decide)
      refine ⟨U, u1, _, u2, u3, ad', T.heap.size, ce, had, rfl, u8, u9, u10, hw'.1.grown (by rw [← hT]; exact u7), hw'.2.1, ?_, locs', ⟨⟨_, rfl⟩, u4, by simpa using u5⟩, hw'.2.2.2.2⟩
      have hF := hw'.2.2
      refine ⟨Nat.le_trans hF.1 (by rw [← hT]; exact u6), fun q q1 q2 => ?_⟩
      rw [u7 q (by rw [hT]; exact Nat.lt_of_lt_of_le q1 hF.1), hT]
      exact hF.2.1 q q1 q2
end
