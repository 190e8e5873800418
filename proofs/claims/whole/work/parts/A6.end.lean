/-! The claim out of one walk of the law's body. -/
theorem k_arr {s : State} {c : ClassId} {k : Class} {comp : ClassId} {ty : FieldType} (h1 : s.vm.classes[c]? = some k) (h2 : k.kind = .array comp ty) : ArrOfT s c ty := fun n z => ⟨fun q h => (by cases h), k, h1, comp, h2⟩
/-- what the tables say of the classes and of the arrays -/
theorem k_all {args : Array Value} {s : State} (hts : ∀ w ∈ lw_tbl, w.before args s = true) : ∃ (D : va_G) (dA : Nat → ClassId), ∀ xs, va_K D (g_cl (GG xs)) (q_tys (GG xs) dA) s := by
  have hL : ∀ w ∈ LW, w.before args s = true := fun w h => hts w (List.mem_filter.mp h).1
  obtain ⟨c0, i0, k0⟩ := u_known hL guw0 (hL _ nw_20)
  obtain ⟨c1, i1, k1⟩ := u_known hL guw1 (hL _ mw_34)
  obtain ⟨c2, i2, k2⟩ := u_known hL guw2 (hL _ mw_40)
  obtain ⟨c3, i3, k3⟩ := u_known hL guw3 (hL _ mw_86)
  obtain ⟨c4, i4, k4⟩ := u_known hL guw4 (hL _ mw_28)
  obtain ⟨c5, i5, k5⟩ := u_known hL guw5 (hL _ mw_126)
  obtain ⟨c6, i6, k6⟩ := u_known hL guw6 (hL _ mw_136)
  obtain ⟨c7, i7, k7⟩ := u_known hL guw7 (hL _ nw_712)
  obtain ⟨a0, x0, y0, f0, g0, h0⟩ := Cond.arrayClass_spec (hL _ mw_74)
  obtain ⟨a1, x1, y1, f1, g1, h1⟩ := Cond.arrayClass_spec (hL _ mw_56)
  obtain ⟨a2, x2, y2, f2, g2, h2⟩ := Cond.arrayClass_spec (hL _ mw_200)
  obtain ⟨y3, a3, x3, e3, -, g3, h3, f3⟩ := Cond.arrayOver_spec (hts (Jvm.Cond.arrayOver (.object "CommitDesk$Unit")) (List.mem_append_right _ (by decide +kernel)))
  obtain ⟨y4, a4, x4, e4, g4, h4, f4⟩ := Cond.arrayOver_specA (hts (Jvm.Cond.arrayOver (.array .int)) (List.mem_append_right _ (by decide +kernel)))
  refine ⟨(fun c => match c with | 0 => c0 | 1 => c1 | 2 => c2 | 3 => c3 | 4 => c4 | 5 => c5 | 6 => c6 | _ => c7, fun c => match c with | 0 => i0 | 1 => i1 | 2 => i2 | 3 => i3 | 4 => i4 | 5 => i5 | 6 => i6 | _ => i7), fun t => match t with | 0 => a0 | 1 => a1 | 2 => a2 | 3 => a3 | _ => a4, fun xs => ⟨fun c q hq => ?_, fun k q hk => ?_⟩⟩
  · match c, hq with
    | 0, hq => cases hq; exact k0
    | 1, hq => cases hq; exact k1
    | 2, hq => cases hq; exact k2
    | 3, hq => cases hq; exact k3
    | 4, hq => cases hq; exact k4
    | 5, hq => cases hq; exact k5
    | 6, hq => cases hq; exact k6
    | 7, hq => cases hq; exact k7
    | c + 8, hq => cases hq
  · match k, hk with
    | 0, hk => cases hk; exact ⟨k_arr g0 h0, f0⟩
    | 1, hk => cases hk; exact ⟨k_arr g1 h1, f1⟩
    | 2, hk => cases hk; exact ⟨k_arr g2 h2, f2⟩
    | 3, hk => cases hk; exact ⟨k_arr g3 h3, x3, y3, g3, h3, e3, f3⟩
    | 4, hk => cases hk; exact ⟨k_arr g4 h4, f4⟩
    | k + 5, hk => cases hk
theorem gnw_in : ∀ w ∈ gnw, w ∈ tables_1 := by decide +kernel
def R_law : String := "CommitDeskLaw"
def lw_P (b : Addr) (xs : List Int32) (args : Array Value) (s : State) : Prop := args = #[.ref b] ∧ s.IntsAt b xs ∧ xs.length ≤ 3073 ∧ (Jvm.Cond.and given_1 narrow_1).before args s = true
def lw_Q (_ : Array Value) (s : State) (o : Outcome) (t : State) : Prop := o = .returned (some (.int 1)) ∧ Framed s o t [] 601024 7292999
def lw_Z (below : List Frame) (a : Array Value) (s : State) : State → Prop := fun t => ∃ o, t.status = .running ∧ Ended t below o ∧ lw_Q a s o t
/-- the law's own end -/
theorem lw_ret {p : Program} {l : Launch} {e : Env} {s : State} {m : MethodId} {below : List Frame} {meth : Method} {c : Code} {b : Nat} (hx : p.tables.exec = Jvm.exec) (hb : c.code = code) (hr : meth.sig.returnType = ret) (hlocks : meth.locks = false) {pc : Nat} {H : Heap} {ls : Array Slot} (hdg : decode code pc = .ok (.ireturn, 1)) : W p l e room_1 s m #[Value.ref b] below meth c H [] 601024 7292999 (lw_Z below #[Value.ref b] s) (F0 m pc ls [.int 1]) := by
  intro T hT X
  obtain ⟨fs, hret, hrun, hended, hW, hframe⟩ := X.leave (v := some (.int 1)) (hlocks := hlocks) (fun h => by rw [hr] at h; cases h)
  have hmeth' : T.vm.method? m = some meth := X.method'
  refine ⟨T.setFrames fs, ?_, .returned (some (.int 1)), hrun, hended, rfl, ⟨_, rfl⟩, hW, hframe⟩
  jvm_step X.here [X.here.top, hx, hb, hdg, hmeth', hr, ret, narrow_b1]
  (try refine ⟨rfl, ?_⟩); (try refine ⟨rfl, ?_⟩)
  first | (intro acts; rw [hret _ acts rfl rfl rfl]) | rw [hret _ _ rfl rfl rfl]
  exact Steps.refl _
/-- what holds at the law's entry -/
def lw_At (p : Program) (l : Launch) (s : State) (m : MethodId) (meth : Method) (c : Code) (b : Nat) (xs : List Int32) : Prop :=
  p.tables.exec = Jvm.exec ∧ c.code = code ∧ meth.sig.returnType = ret ∧ c.maxLocals = 8 ∧ s.vm.findClass R_law = some m.cls ∧ (∀ w ∈ lw_tbl, w.before #[Value.ref b] s = true) ∧ va_X b xs.length (fun j => xs.getD j 0) s s.heap ∧ b < s.heap.size ∧ meth.locks = false ∧ (Jvm.Cond.and given_1 narrow_1).before #[Value.ref b] s = true ∧ meth.name = x.name ∧ (Jvm.Cond.code x code maxLocals ret).before #[Value.ref b] s = true ∧ l.stackTraces = false
theorem k_TS {s : State} {b : Nat} (hts : ∀ w ∈ lw_tbl, w.before #[Value.ref b] s = true) (hgv : (Jvm.Cond.and given_1 narrow_1).before #[Value.ref b] s = true) : n_TS (fun q => s.heap.size ≤ q) s s.heap := by
  have hs := flat_of_before _ hgv
  have hA : ∀ a : Nat, a < s.heap.size → ¬ (s.heap.size ≤ a) := fun a ha => by omega
  have hin : ∀ w ∈ tables_1, w.before #[Value.ref b] s = true := fun w h => hts w (List.mem_append_right _ h)
  refine ⟨n_Z.of (hin _ (by decide +kernel)) (hs _ (by decide +kernel)) hA, n_Z.of (hin _ (by decide +kernel)) (hs _ (by decide +kernel)) hA, fun w hw => ?_, ?_⟩
  · have hm : ∀ w ∈ n_fw, w ∈ tables_1 := by decide +kernel
    have ht : w.onTables = true := by
      have := n_fw_ok w hw
      simp only [Bool.and_eq_true] at this
      exact this.1
    exact va_Nw.of ht (hin w (hm w hw))
  · have h := hs (Jvm.Cond.not (Jvm.Cond.castable n_IS n_IA)) (by decide +kernel)
    obtain ⟨c1, -, e1, -⟩ := Cond.castable_spec (hin (Jvm.Cond.castable n_IS n_IS) (by decide +kernel))
    obtain ⟨c2, -, e2, -⟩ := Cond.castable_spec (hin (Jvm.Cond.castable n_IA n_IA) (by decide +kernel))
    refine ⟨c1, c2, e1, e2, ?_⟩
    simp only [Cond.before, Cond.holds, Cond.value, e1, e2] at h
    simpa using h
theorem q_sl_cl {G G' : q_G} (h : g_cl G = g_cl G') (l : List q_Sh) : q_sl G l = q_sl G' l := by
  unfold q_sl
  have e : q_ss G = q_ss G' := by
    funext q
    cases q with
    | inl ci =>
      show q_nf G ci = q_nf G' ci
      unfold q_nf
      rw [h]
    | inr q => rfl
  rw [e]
theorem sl70 (xs : List Int32) : q_sl (GG xs) (SH.take 70) ≤ 100000 := by
  rw [q_sl_cl (G := GG xs) (G' := GG []) rfl]
  decide +kernel
theorem k_Z {s : State} {b : Nat} {xs : List Int32} (hts : ∀ w ∈ lw_tbl, w.before #[Value.ref b] s = true) (hgv : (Jvm.Cond.and given_1 narrow_1).before #[Value.ref b] s = true) (hX : va_X b xs.length (fun j => xs.getD j 0) s s.heap) (hbl : b < s.heap.size) : ∃ t0, q_Z (g_sz (GG xs)) (fun t => if t = 0 then t0 else b) (fun q => s.heap.size ≤ q) s s.heap := by
  have hs := flat_of_before _ hgv
  have hA : ∀ a : Nat, a < s.heap.size → ¬ (s.heap.size ≤ a) := fun a ha => by omega
  have h0 : (Jvm.Cond.arrayOf (.static "CommitDesk" "CHOICE_WEIGHTS" "[I") .int).before #[Value.ref b] s = true := hs _ (by decide +kernel)
  have h1 : (Jvm.Cond.eq (.length (.static "CommitDesk" "CHOICE_WEIGHTS" "[I")) (.int 3)).before #[Value.ref b] s = true := hs _ (by decide +kernel)
  have h2 : (Jvm.Cond.eq (.elem (.static "CommitDesk" "CHOICE_WEIGHTS" "[I") (.int 0)) (.int 25)).before #[Value.ref b] s = true := hs _ (by decide +kernel)
  have h3 : (Jvm.Cond.eq (.elem (.static "CommitDesk" "CHOICE_WEIGHTS" "[I") (.int 1)) (.int 5)).before #[Value.ref b] s = true := hs _ (by decide +kernel)
  have h4 : (Jvm.Cond.eq (.elem (.static "CommitDesk" "CHOICE_WEIGHTS" "[I") (.int 2)) (.int 1)).before #[Value.ref b] s = true := hs _ (by decide +kernel)
  have h5 : (Jvm.Cond.laysStatic "CommitDesk" "CHOICE_WEIGHTS" "[I").before #[Value.ref b] s = true := hts _ (List.mem_append_right _ (by decide +kernel))
  obtain ⟨t0, ht0, hT0⟩ := va_Tof (tm := .static "CommitDesk" "CHOICE_WEIGHTS" "[I") (ty := .int) (N := 3) (f := fun j => .int (([25, 5, 1] : List Int32).getD j 0)) (A := fun q => s.heap.size ≤ q) (by decide) h0 (va_eqt h1) (fun j hj => by
    match j, hj with
    | 0, _ => exact va_eqt h2
    | 1, _ => exact va_eqt h3
    | 2, _ => exact va_eqt h4
    | j + 3, h => exact absurd h (by omega)) hA
  have hZ0 : va_Z "CommitDesk" "CHOICE_WEIGHTS" "[I" (.ref t0) (fun q => s.heap.size ≤ q) s s.heap := va_Zof h5 (hts _ (List.mem_filter.mp mw_1).1) ht0 hA
  have hTb : va_T .int b xs.length (fun j => .int (xs.getD j 0)) (fun q => s.heap.size ≤ q) s s.heap := by
    obtain ⟨scr, g1, g2, g3, g4, g5⟩ := hX
    exact ⟨scr, g1, g2, g3, by omega, by rw [g4], g5, hA b hbl⟩
  refine ⟨t0, fun t q hq => ?_⟩
  match t, hq with
  | 0, hq =>
    cases hq
    exact ⟨fun _ => hZ0, hT0⟩
  | 1, hq =>
    cases hq
    exact ⟨fun z => absurd rfl z, hTb⟩
  | t + 2, hq => cases hq
theorem k_Nw {s : State} {b : Nat} (xs : List Int32) (hts : ∀ w ∈ lw_tbl, w.before #[Value.ref b] s = true) : ∀ w ∈ g_nw (GG xs), va_Nw w s := fun w hw => by
  have hw' : w ∈ gnw := hw
  have hb0 : w.before #[Value.ref b] s = true := hts w (List.mem_append_right _ (gnw_in w hw'))
  rcases gnw_kind w hw' with ⟨a, i, b', n, d, h', rfl⟩ | ⟨a, i, x', h', rfl⟩ | ⟨C, rfl⟩
  · exact va_Nw.of rfl hb0
  · exact va_Nw.of rfl hb0
  · exact va_AO.of hb0
theorem lw_fin {p : Program} {e : Env} {s : State} {m : MethodId} {below : List Frame} {meth : Method} {c : Code} (l : Launch) {b : Nat} {xs : List Int32} {D : va_G} {dA : Nat → ClassId} {az : Nat → Nat} {ad0 : Nat → Nat} (hx : p.tables.exec = Jvm.exec) (hb : c.code = code) (hr : meth.sig.returnType = ret) (hlocks : meth.locks = false) {n1 s1 : Int} {ls : List (Option Value)} {H : q_H} (b1 : -512 ≤ n1) (b2 : -3072 ≤ s1) (eH : H.1 = SH.take 70) :
    q_J l (GG xs) D dA az ML p e room_1 s m #[Value.ref b] below meth c (fun q => s.heap.size ≤ q) (lw_Z below #[Value.ref b] s) 0 ad0 n1 s1 1059 ls [.int 1] H := by
  intro hn hs1 hN wf
  have e70 : H.1.length = 70 := by
    rw [eH]
    rfl
  have hsl : q_sl (GG xs) H.1 ≤ 100000 := by
    rw [eH]
    exact sl70 xs
  have q1 : (((H.1.length : Nat) : Int) - n1).toNat ≤ 601024 := by
    rw [e70]
    omega
  have q2 : (((q_sl (GG xs) H.1 : Nat) : Int) - s1).toNat ≤ 7292999 := by omega
  have hd : decode code 1059 = .ok (.ireturn, 1) := q_dec (omML xs) tML_1059 rfl
  refine ⟨⟨q1, q2⟩, fun ad Hp locs lsA had hw hl => ?_⟩
  exact W.widen q1 q2 (va_forget hw.2.2.2.2 (lw_ret hx hb hr hlocks hd))
theorem whole_start {p : Program} {e : Env} {s : State} {m : MethodId} {below : List Frame} {meth : Method} {c : Code} (l : Launch) {b : Nat} {xs : List Int32} (hL : xs.length ≤ 3073) (C0 : lw_At p l s m meth c b xs) : W p l e room_1 s m #[Value.ref b] below meth c s.heap [] 0 0 (lw_Z below #[Value.ref b] s) (entryFrame m ([Value.ref b] : List Value).toArray 8) := by
  obtain ⟨hx, hb, hr, hml, hown, hts, hX, hbl, hlocks, hgv, hnm, hcw, htr⟩ := C0
  have hLW : ∀ w ∈ LW, w.before #[Value.ref b] s = true := fun w h => hts w (List.mem_filter.mp h).1
  obtain ⟨D, dA, hK⟩ := k_all hts
  obtain ⟨t0, hZ⟩ := k_Z hts hgv hX hbl
  have hf : q_fr (GG xs) D dA (fun t => if t = 0 then t0 else b) ML p room_1 s m #[Value.ref b] meth c (fun q => s.heap.size ≤ q) := ⟨hx, hb, hml, hown, fun w hw => (List.mem_cons.mp hw).elim (fun q => q ▸ hcw) (fun q => hLW w q), hnm, hK xs, fun q h => h, hZ, k_Nw xs hts, by decide, by decide⟩
  have hTS := k_TS hts hgv
  have hAO : (Jvm.Cond.arrayOver (.array .int)).before #[] s = true := hts (Jvm.Cond.arrayOver (.array .int)) (List.mem_append_right _ (by decide +kernel))
  have key := L_start (l := l) (e := e) (below := below) (Q := lw_Z below #[Value.ref b] s) (N0 := 0) (ad0 := fun _ => 0) xs hL hf hTS htr hAO (fun n1 s1 i4 v2 w2 R2 b1 b2 _ => lw_fin l hx hb hr hlocks b1 b2 rfl)
  obtain ⟨-, kk⟩ := key (Int.natCast_nonneg _) (Int.natCast_nonneg _) (Nat.zero_le _) ⟨fun i j r h => (by cases h), fun i h => (by cases h), fun i h => (by simp at h)⟩
  have K := kk (fun _ => 0) s.heap [] _ (fun _ _ => rfl) ⟨fun k q h => (by cases h), ⟨fun i j x y h => (by cases h), fun k q h => (by cases h)⟩, va_S.rf⟩ (q_L_entry (fun t => if t = 0 then t0 else b) (fun _ => 0) (vs := [.retAddr 1]) (n := 8) (k := 7) (by decide))
  rw [lg_entry_eq]
  exact K
set_option maxHeartbeats 4000000 in
theorem lw_walk (l : Launch) (htr : l.stackTraces = false) (b : Addr) (xs : List Int32) : MetFree l x (headSpec (Jvm.Cond.code x code maxLocals ret :: tables_1) room_1) (lw_P b xs) (fun _ _ _ _ _ => True) lw_Q := by
  refine MetFree.of_bodyS (code := code) (maxLocals := maxLocals) (ret := ret) (by decide) ?_ ?_
  · intro args s m h hn
    obtain ⟨meth, c, h1, h2, h3, h4, h5, h6, -, -⟩ := Cond.code_spec hn (atoms_spec (ws := Jvm.Cond.code x code maxLocals ret :: tables_1) h _ List.mem_cons_self)
    exact ⟨meth, c, h1, h2, h3, h4, h5, h6⟩
  · intro p e s m args below meth c s₁ B hml0 hP _
    obtain ⟨rfl, hx, hbd, hgv⟩ := hP
    obtain ⟨scr, harrAt, hlist, hof, hsmall⟩ := hx
    obtain ⟨hcb, hkn, -, -⟩ := State.arrayAt?_spec harrAt
    have hown : s.vm.findClass R_law = some m.cls := findClass_of_methodNamed B.named
    have hts0 : ∀ c ∈ (Jvm.Cond.code x code maxLocals ret :: tables_1), c.before #[Value.ref b] s = true := atoms_spec (ws := Jvm.Cond.code x code maxLocals ret :: tables_1) B.pre
    have hts : ∀ w ∈ lw_tbl, w.before #[Value.ref b] s = true := k2_hts_sels lw_privs (fun w hw => hts0 w (List.mem_cons_of_mem _ hw)) lw_privs_ok
    have hml : c.maxLocals = 8 := B.maxLocals_eq (hts0 _ List.mem_cons_self)
    have X₀ : Stand p l e room_1 s m #[Value.ref b] below meth c s₁ [] 0 0 := Stand.of_body B
    have hh0 : s₁.heap = s.heap := by rw [B.state]; rfl
    have hsz : scr.slots.size = xs.length := by rw [← Array.length_toList, hlist, List.length_map]
    have hval : ∀ j : Nat, j < xs.length → scr.slots[j]? = some (.int (xs.getD j 0)) := fun j hj => by
      rw [← Array.getElem?_toList, hlist]
      simp [hj]
    have hbl : b < s.heap.size := (Array.getElem?_eq_some_iff.mp hcb).1
    have hX : va_X b xs.length (fun j => xs.getD j 0) s s.heap := ⟨scr, hcb, hof, hkn, hsz, hval⟩
    have K : W p l e room_1 s m #[Value.ref b] below meth c s₁.heap [] 0 0 (lw_Z below #[Value.ref b] s) (entryFrame m ([Value.ref b] : List Value).toArray 8) := by
      rw [hh0]
      exact whole_start l hbd ⟨B.exec, B.bytes, B.returns, hml, hown, hts, hX, hbl, B.notSynchronized, hgv, (name_of_methodNamed B.named B.method).1, hts0 _ List.mem_cons_self, htr⟩
    obtain ⟨t, a1, o, b1, b2, b3⟩ := K s₁ rfl X₀
    exact ⟨t, o, a1, b1, b2, b3⟩
theorem lw_pre_spec {args : Array Value} {s : State} (h : (Jvm.Cond.and given_1 narrow_1).before args s = true) (hr : rest_1_c.before args s = true) : ∃ (b : Addr) (xs : List Int32), lw_P b xs args s := by
  have hs := flat_of_before _ h
  have hq := flat_of_before _ hr
  have hc : (Cond.count 1).before args s = true := hs _ (by decide +kernel)
  have harr : (Cond.arrayOf (.arg 0) .int).before args s = true := hs _ (by decide +kernel)
  have hle : (Cond.le (.length (.arg 0)) (.int 3073)).before args s = true := hs _ (by decide +kernel)
  have hlen : (Cond.isInt (.length (.arg 0))).before args s = true := hq _ (by decide +kernel)
  have hall : (Cond.all (.arg 0) (.isInt (.elem (.arg 0) (.index 0)))).before args s = true := hq _ (by decide +kernel)
  obtain ⟨b, xs, hb, hx⟩ := State.ints_of_pre rfl harr hlen hall
  have hsm : xs.length < 2 ^ 31 := hx.choose_spec.2.2.2
  have hev : (Term.length (.arg 0)).eval args s none [] s = some (.int xs.length.toInt32) := hx.length_eval hb
  have hv := Cond.le_ints hev (show (Term.int 3073).eval args s none [] s = some (.int 3073) from rfl)
  have hd : xs.length.toInt32 ≤ 3073 := by
    simpa [Cond.before, Cond.holds, hv] using hle
  have hN : xs.length ≤ 3073 := (Int32.ofNat_le_ofNat hsm (by decide)).mp (show Int32.ofNat xs.length ≤ Int32.ofNat 3073 from hd)
  exact ⟨b, xs, Cond.one_arg hc (show args[0]? = some (.ref b) from hb), hx, hN, h⟩
theorem lw_comes (l : Launch) (htr : l.stackTraces = false) : Comes l x (Jvm.Cond.code x code maxLocals ret :: tables_1) room_1 (fun tb e args s => Calls_1 tb e args s ∧ rest_1 tb e args s ∧ Pre_1 tb e args s)
    (fun _ _ args s o t => lw_Q args s o t) := by
  intro p e ha hc hk s m args below hf hfit hheap happ hpre
  obtain ⟨b, xs, hP⟩ := lw_pre_spec hpre.2.2 hpre.2.1
  obtain ⟨k, o, h1, h2, h3, hQ⟩ := lw_walk l htr b xs p e ha hc hk s m args below hf ((Spec.applies_iff_loose hf).mp happ).1 hP trivial
  exact ⟨k, o, h1, h2, h3, hQ⟩
theorem lw_frame {s t : State} {o : Outcome} {args : Array Value} (h : Framed s o t [] 601024 7292999) :
    Framed s o t (fieldLocs frame_1_writes args s ++ arrayLocs frame_1_arrays args s ++ staticLocs frame_1_statics s) 601024 7292999 := h
theorem lw_limb (L : Cond) (hL : ∀ (args : Array Value) (s t : State), L.after args s (.returned (some (.int 1))) t = true) :
    ArmFor flags0 classFile x code maxLocals ret World_1 tables_1 room_1 Calls_1 rest_1 Pre_1
      (fun tb e a s o t => postC L tb e a s o t ∧ Framed s o t (fieldLocs frame_1_writes a s ++ arrayLocs frame_1_arrays a s ++ staticLocs frame_1_statics s) 601024 7292999) := by
  intro l hfl _ _ p e ha hc hk s m args below hf hfit hheap happ hpre
  obtain ⟨k, o, h1, h2, h3, rfl, hF⟩ := lw_comes l (by show (!l.flags.contains Jvm.noTraceFlag) = false; rw [hfl]; decide +kernel) p e ha hc hk s m args below hf hfit hheap happ hpre
  exact ⟨k, _, h1, h2, h3, hL args s _, lw_frame hF⟩
theorem i_vc : Claimed_1_1 ∧ Claimed_1_2 := ⟨lw_limb limb_1_1 (fun args s t => by simp [limb_1_1, Cond.after, Cond.holds, Cond.value]), lw_limb limb_1_2 (fun args s t => Cond.after_iff.mpr (by
  first | (rw [show limb_1_2 = Cond.eq .result (.int 1) from rfl, Cond.eq_ints (x := 1) (y := 1) rfl rfl]; simp; done) | (simp [limb_1_2, Cond.value, Term.eval]; done)))⟩
