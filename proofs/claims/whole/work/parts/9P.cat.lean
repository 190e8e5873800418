/-! A call that throws, and who catches it. -/
section
variable {p : Program} {l : Launch} {e : Env} {R : Room} {s : State} {m : MethodId} {args : Array Value} {below : List Frame} {meth : Method} {c : Code} {T : State} {locs : List Loc} {cells slots : Nat}
theorem n_virtT (X : Stand p l e R s m args below meth c T locs cells slots) (hexec : p.tables.exec = Jvm.exec) {own C : String} {index : Nat} {y : MethodName} {bytes : ByteArray} {maxL : Nat} {ret : Option FieldType}
    (hown : s.vm.findClass own = some m.cls) (hlink : (Cond.methodLink own index y).before args s = true) (hinst : (Cond.instanceMethod y).before args s = true) (hsel : (Cond.selects C y y).before args s = true)
    (hcode : (Cond.code y bytes maxL ret).before args s = true) (hy : y.cls ≠ "java/lang/invoke/MethodHandle" ∧ y.cls ≠ "java/lang/invoke/VarHandle")
    {W : Nat} {Pre : Pt → Array Value → Prop} {Post : Pt → Array Value → Addr → Pt → Prop} (hK : BackT l R p e below s args y 3 W Pre Post)
    {b : Addr} {cellB : Cell} (hcell : T.heap[b]? = some cellB) (hobj : cellB.vm.isStatics = false) (hcls : s.vm.findClass C = some cellB.cls)
    {g : JFrame} (hg : g.method = m) (hsize : g.locals.size = c.maxLocals) {argsL rest : List Value} (hlen : ∀ sig, parseMethodDescriptor y.desc = some sig → argsL.length = sig.parameters.length)
    (hstack : g.stack = argsL.reverse ++ .ref b :: rest) (hW : 2 * g.monitorRoom + (rest.map fun v => v.category).sum ≤ W) (hdg : decode c.code g.pc = .ok (.invokevirtual index, 3))
    (hpre : ∀ vm₁, s.WarmedH vm₁ → Pre ⟨T.setVm vm₁, locs, cells, slots⟩ (Value.ref b :: argsL).toArray) :
    ∃ (v : Addr) (vm₁ : Vm) (B : Pt), s.WarmedH vm₁ ∧ Stand p l e R s m args below meth c B.U B.locs B.cells B.slots ∧ Post ⟨T.setVm vm₁, locs, cells, slots⟩ (Value.ref b :: argsL).toArray v B ∧
      ∀ target, Steps p.tables e below ((B.U.setTop { g with stack := rest }).pushFrame (.throwing v)) target → Steps p.tables e below (T.setTop g) target := by
  obtain ⟨mk, mM, n1, n2, n3, n4⟩ := Cond.instanceMethod_spec hinst
  obtain ⟨mM', cM, n5, -, -, -, -, -, -, n6⟩ := Cond.code_spec n1 hcode
  cases n2.symm.trans n5
  obtain ⟨c2, r2, m2, q1, q2, q3, q4, kP, k1, k2⟩ := Cond.selects_spec hsel
  cases hcls.symm.trans q1
  cases (State.methodFound?_of_named n1 hy).symm.trans q2
  cases n1.symm.trans q3
  have hs : selectMethod e.platform s.vm cellB.cls mk = .method mk := by rw [Launch.admits_selectMethod X.admits]; exact q4
  obtain ⟨vm₁, X₁, st⟩ := X.invokevirtual hexec hown hlink n1 n2 n3 k1 k2 hy (a := b) (cell := cellB) hcell (fun z h => by rw [h] at hobj; cases hobj) hs n2 n4 k1 k2 (g := g) hg (argsL := argsL) (rest := rest) (hlen _ n6) hstack hdg
  obtain ⟨v, B, X', hp, hst⟩ := hK m meth c ⟨T.setVm vm₁, locs, cells, slots⟩ { g with stack := rest } (.invokevirtual index) mk (Value.ref b :: argsL).toArray X₁ hg hsize hdg hW (X₁.named n1) (hpre vm₁ X₁.warmed)
  exact ⟨v, vm₁, B, X₁.warmed, X', hp, fun target h => st _ fun acts => by rw [doInvoke_state]; exact hst.trans h⟩
/-- the row of the table that catches -/
theorem n_catch (X : Stand p l e R s m args below meth c T locs cells slots) {own E : String} (hown : s.vm.findClass own = some m.cls) {g : JFrame} (hg : g.method = m) {x : Addr} {ce : Cell} (hce : T.heap[x]? = some ce) (hvm : ce.vm = .none) (hE : s.vm.findClass E = some ce.cls) (hcast : (Cond.castable E E).before args s = true)
    {pre rest : List (Nat × Nat × Nat × Nat)} {q : Nat × Nat × Nat × Nat} (hes : c.exceptionTable.toList.map (fun h => (h.startPc, h.endPc, h.handlerPc, h.catchType)) = pre ++ q :: rest) (h0 : q.2.2.2 ≠ 0) (h1 : q.1 ≤ g.pc) (h2 : g.pc < q.2.1) (hlk : (Cond.classLink own q.2.2.2 E).before args s = true)
    (hpass : ∀ r ∈ pre, r.2.2.2 ≠ 0 ∧ ∃ nm cn, (Cond.classLink own r.2.2.2 nm).before args s = true ∧ s.vm.findClass nm = some cn ∧ s.vm.assignable ce.cls cn = false) :
    ∃ vm', Stand p l e R s m args below meth c (T.setVm vm') locs cells slots ∧ ∀ target, Steps p.tables e below ((T.setVm vm').setTop { g with pc := q.2.2.1, stack := [.ref x] }) target → Steps p.tables e below ((T.setTop g).pushFrame (.throwing x)) target := by
  obtain ⟨l1, l2, e1, e2, e3⟩ := List.map_eq_append_iff.mp hes
  obtain ⟨r, l3, e4, e5, e6⟩ := List.map_eq_cons_iff.mp e3
  subst e4
  have hpl : e.platform.magicAccessors = ({} : Platform).magicAccessors := by rw [X.admits.platform]
  obtain ⟨c3, cT, g1, g2, g3⟩ := Cond.castable_spec hcast
  cases hE.symm.trans g1
  subst e5
  obtain ⟨hend, hk0⟩ := X.catches_of_link hown h0 hlk g2 g3
  obtain ⟨vm', XV, st⟩ := X.caughtThrough x hg hce (by rw [hvm]; rfl) hk0 l1 r l3 e1 (fun y hy => by
    have hm : (y.startPc, y.endPc, y.handlerPc, y.catchType) ∈ pre := by rw [← e2]; exact List.mem_map_of_mem hy
    obtain ⟨z0, nm, cn, z1, z2, z3⟩ := hpass _ hm
    obtain ⟨c', hc', hcl⟩ := Cond.classLink_spec hown z1 e.platform hpl
    cases z2.symm.trans hc'
    exact Or.inr ⟨z0, _, hcl, z3⟩) (by simp only [covers]; simp; exact ⟨h1, h2⟩) hend
  refine ⟨vm', XV, fun target h => ?_⟩
  rw [X.pushThrowing_eq]
  exact st target h
end
