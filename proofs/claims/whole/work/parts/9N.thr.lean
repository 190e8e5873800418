/-! A plain exception is made and thrown. -/
section
variable {p : Program} {l : Launch} {e : Env} {R : Room} {s : State} {m : MethodId} {args : Array Value} {below : List Frame} {meth : Method} {c : Code} {T : State} {locs : List Loc} {cells slots : Nat}
theorem n_reb_same (X : Stand p l e R s m args below meth c T locs cells slots) : s.sameButNew ((n_reb s T).setVm s.vm) locs cells slots := by
  obtain ⟨x, hx, -⟩ := State.frames_cons X.frames
  have h := X.same.setFrames s.frames X.cur
  have e1 : (T.setVm s.vm).setFrames s.frames = (n_reb s T).setVm s.vm := by
    rw [X.same.1]
    show ({ (s.setFrames T.frames).setFrames s.frames with heap := T.heap, slotsUsed := T.slotsUsed } : State) = ({ s with heap := T.heap, slotsUsed := T.slotsUsed } : State)
    rw [State.setFrames_setFrames, State.setFrames_self hx]
  rw [e1] at h
  exact h
theorem n_throw (X : Stand p l e R s m args below meth c T locs cells slots) (hexec : p.tables.exec = Jvm.exec) (htr : e.platform.stackTraces = false) (hlocks : meth.locks = false) {own cls : String} {names : List String} {ik ic : Nat}
    (hown : s.vm.findClass own = some m.cls) (hcls : Bundle.fit cls = true) (hnames : ∀ n ∈ names, Bundle.fit n = true)
    (hcl : (Cond.classLink own ik cls).before args (n_reb s T) = true) (hini : (Cond.initialized cls).before args (n_reb s T) = true)
    (h : ∀ a ∈ Bundle.ownAtoms0 own ic cls names, a.before args (n_reb s T) = true) {pc : Nat} {ls : Array Slot} (hsize : ls.size = c.maxLocals)
    (d0 : decode c.code pc = .ok (.new ik, 3)) (d3 : decode c.code (pc + 3) = .ok (.dup, 1)) (d4 : decode c.code (pc + 4) = .ok (.invokespecial ic, 3)) (d7 : decode c.code (pc + 7) = .ok (.athrow, 1))
    (hout : ∀ x ∈ c.exceptionTable.toList, covers x (pc + 7) = false) (hc : cells + 1 ≤ R.cells) (hs : slots + 6 ≤ R.slots) (hRf : names.length + 3 < R.frames) (hRl : 1 + (13 * (names.length + 1) + 41) ≤ R.locals) :
    ∃ U : State, Steps p.tables e below (T.setTop (F0 m pc ls [])) U ∧ U.status = .running ∧ Ended U below (.threw T.heap.size) ∧ s.WarmedH U.vm ∧ s.sameButNew ({ U with vm := s.vm } : State) locs (cells + 1) (slots + 6) ∧
      (T.heap.size ≤ U.heap.size ∧ ∀ q, q < T.heap.size → U.heap[q]? = T.heap[q]?) ∧ ∃ ce, U.heap[T.heap.size]? = some ce ∧ s.vm.findClass cls = some ce.cls ∧ ce.vm = .none := by
  have Y := n_rebase X (by omega) (by omega)
  have hal := X.warmed.alike
  have hown' : (n_reb s T).vm.findClass own = some m.cls := by
    show T.vm.findClass own = _
    rw [hal.findClass]
    exact hown
  have hins : (Cond.instantiable cls 6).before args (n_reb s T) = true := h _ (by simp [Bundle.ownAtoms0])
  obtain ⟨vm₁, cX, kX, hfX, hkX, -, -, Y₁, st1⟩ := Y.newCold hexec (own := own) (C := cls) (index := ik) (n := 6) hown' hcl hins hini (g := F0 m pc ls []) rfl d0 (by show 0 + 1 ≤ R.cells - cells; omega) (by show 0 + 6 ≤ R.slots - slots; omega)
  generalize hT : (T.setVm vm₁).pushCell { cls := cX, slots := kX.instanceTypes.map defaultValue, vm := .none } = T1 at Y₁ st1
  have hcellA : T1.heap[T.heap.size]? = some (freshCell cX kX) := by rw [← hT]; exact State.heap_pushCell_size _ _
  obtain ⟨U, hsteps, hrun, hend, hW, hsame, ce, hce, K⟩ := Y₁.ctorThrow0 hexec htr (own := own) (cls := cls) (names := names) (ic := ic) hown' hcls hnames h (fun y hy => by cases hy) hfX hkX hcellA (Nat.le_refl _)
    (g := F0 m (pc + 4) ls [.ref T.heap.size, .ref T.heap.size]) rfl hsize rfl rfl (rest := []) rfl d4 d7 hout hRf (by simpa [F0, Value.category, n_rm, JFrame.monitorRoom] using hRl)
  refine ⟨U, ?_, hrun, hend, X.warmed.trans hW, ?_, ⟨hsame.2.1, fun q hq => ?_⟩, ce, hce, ?_, K.vm⟩
  · refine st1 _ ?_
    show Steps p.tables e below (T1.setTop (F0 m (pc + 3) ls [.ref T.heap.size])) _
    jvm_step Y₁.here [Y₁.here.top, hexec, d3, Value.category]
    exact hsteps
  · have h2 := (n_reb_same X).trans (hsame.setVm s.vm)
    simp only [List.append_nil, Nat.zero_add] at h2
    exact h2
  · obtain ⟨x, hx⟩ : ∃ x, T.heap[q]? = some x := ⟨_, Array.getElem?_eq_getElem hq⟩
    obtain ⟨c', x1, x2, x3, x4⟩ := hsame.2.2.2.2.2 q x hx
    rw [hx, show U.heap[q]? = some c' from x1]
    congr 1
    have e1 : c'.slots = x.slots := Array.ext x3 (fun i h1 h2 => by
      have := x4 i (fun z => by cases z)
      rw [Array.getElem?_eq_getElem h1, Array.getElem?_eq_getElem h2] at this
      exact Option.some.inj this)
    rw [x2, e1]
  · have := K.cls
    rw [← this]
    exact (hal.findClass cls _).symm
end
