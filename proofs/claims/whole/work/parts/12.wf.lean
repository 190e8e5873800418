/-! Each step keeps the order, and the heap only grows. -/
theorem q_s2_wf {G : q_G} {M : q_M} {ins : Instr} {pc : Nat} {ls : List (Option Value)} {st : List Value} {H : q_H} {z : q_R4} (h : q_s2 G M ins pc ls st H = some z) (w : q_ok4 ls st H) : q_ext H z.2.2.2 ∧ q_ok4 z.2.1 z.2.2.1 z.2.2.2 := by
  obtain ⟨wh, ws, wl⟩ := w
  cases ins <;> first | (exfalso; simp only [q_s2, reduceCtorEq] at h; done) | skip
  case iinc i n =>
    simp only [q_s2] at h
    split at h
    · split at h
      · cases h
        exact ⟨q_ext.rf _, wh, ws, q_wfl.set (v := .int _) wl (fun j e => by cases e)⟩
      · cases h
    · cases h
  case ineg =>
    simp only [q_s2] at h
    split at h
    · cases h
      exact ⟨q_ext.rf _, wh, ws.tl.cons (fun i e => by cases e), wl⟩
    · cases h
  case i2l =>
    simp only [q_s2] at h
    split at h
    · cases h
      exact ⟨q_ext.rf _, wh, ws.tl.cons (fun i e => by cases e), wl⟩
    · cases h
  case l2i =>
    simp only [q_s2] at h
    split at h
    · cases h
      exact ⟨q_ext.rf _, wh, ws.tl.cons (fun i e => by cases e), wl⟩
    · cases h
  case lcmp =>
    simp only [q_s2] at h
    split at h
    · cases h
      exact ⟨q_ext.rf _, wh, ws.tl.tl.cons (fun i e => by cases e), wl⟩
    · cases h
  case dup =>
    simp only [q_s2] at h
    split at h
    · split at h
      · cases h
        exact ⟨q_ext.rf _, wh, ws.cons ws.hd, wl⟩
      · cases h
    · cases h
  case pop =>
    simp only [q_s2] at h
    split at h
    · split at h
      · cases h
        exact ⟨q_ext.rf _, wh, ws.tl, wl⟩
      · cases h
    · cases h
  case dup_x1 =>
    simp only [q_s2] at h
    split at h
    · split at h
      · cases h
        exact ⟨q_ext.rf _, wh, ((ws.tl.tl.cons ws.hd).cons ws.tl.hd).cons ws.hd, wl⟩
      · cases h
    · cases h
  case dup2 =>
    simp only [q_s2] at h
    split at h
    · split at h
      · cases h
        exact ⟨q_ext.rf _, wh, (ws.cons ws.tl.hd).cons ws.hd, wl⟩
      · cases h
    · cases h
  case goto off =>
    simp only [q_s2, Option.map_eq_some_iff] at h
    obtain ⟨t, -, rfl⟩ := h
    exact ⟨q_ext.rf _, wh, ws, wl⟩
  case ifCond c off =>
    simp only [q_s2] at h
    split at h
    · rw [Option.map_eq_some_iff] at h
      obtain ⟨t, -, rfl⟩ := h
      exact ⟨q_ext.rf _, wh, ws.tl, wl⟩
    · cases h
  case if_icmp c off =>
    simp only [q_s2] at h
    split at h
    · rw [Option.map_eq_some_iff] at h
      obtain ⟨t, -, rfl⟩ := h
      exact ⟨q_ext.rf _, wh, ws.tl.tl, wl⟩
    · cases h
  case tableswitch dflt lo hi offs =>
    simp only [q_s2] at h
    split at h
    · rw [Option.map_eq_some_iff] at h
      obtain ⟨t, -, rfl⟩ := h
      exact ⟨q_ext.rf _, wh, ws.tl, wl⟩
    · cases h
  case getfield i =>
    simp only [q_s2] at h
    split at h
    · split at h
      · split at h
        · cases h
          refine ⟨q_ext.rf _, wh, ws.tl.cons (fun i e => ?_), wl⟩
          simp only [q_fa] at e
          split at e
          · cases e
          · split at e
            · cases e
            · exact q_rf_wf wh _ _ _ e
        · cases h
      · cases h
    · cases h
  case putfield i =>
    simp only [q_s2] at h
    split at h
    · split at h
      · split at h
        · rw [Option.map_eq_some_iff] at h
          obtain ⟨H', e, rfl⟩ := h
          rename_i v a r _ _ _ _ _ _
          have wv := ws.hd
          have wr := ws.tl.tl
          cases v <;> simp only [q_pf, reduceCtorEq] at e
          · split at e
            · cases e
              exact ⟨q_ext.of rfl, wh, wr, wl⟩
            · cases e
          · split at e
            · cases e
              exact ⟨q_ext.of rfl, wh, wr, wl⟩
            · cases e
          · split at e
            · cases e
              exact ⟨q_ext.of rfl, wh.up (fun r hr => by cases hr; exact wv _ rfl), wr, wl⟩
            · cases e
        · cases h
      · cases h
    · cases h
  case getstatic i =>
    simp only [q_s2] at h
    split at h
    · cases h
      exact ⟨q_ext.rf _, wh, ws.cons (fun i e => by cases e), wl⟩
    · cases h
  case iaload =>
    simp only [q_s2] at h
    split at h
    · split at h
      · rw [Option.map_eq_some_iff] at h
        obtain ⟨j, -, rfl⟩ := h
        exact ⟨q_ext.rf _, wh, ws.tl.tl.cons (fun i e => by cases e), wl⟩
      · cases h
    · split at h
      · rw [Option.map_eq_some_iff] at h
        obtain ⟨j, -, rfl⟩ := h
        exact ⟨q_ext.rf _, wh, ws.tl.tl.cons (fun i e => by cases e), wl⟩
      · cases h
    · cases h
  case laload =>
    simp only [q_s2] at h
    split at h
    · split at h
      · rw [Option.map_eq_some_iff] at h
        obtain ⟨j, -, rfl⟩ := h
        exact ⟨q_ext.rf _, wh, ws.tl.tl.cons (fun i e => by cases e), wl⟩
      · cases h
    · cases h
  case baload =>
    simp only [q_s2] at h
    split at h
    · split at h
      · rw [Option.map_eq_some_iff] at h
        obtain ⟨j, -, rfl⟩ := h
        exact ⟨q_ext.rf _, wh, ws.tl.tl.cons (fun i e => by cases e), wl⟩
      · cases h
    · cases h
  case aaload =>
    simp only [q_s2] at h
    split at h
    · split at h
      · split at h
        · rw [Option.map_eq_some_iff] at h
          obtain ⟨j, -, rfl⟩ := h
          exact ⟨q_ext.rf _, wh, ws.tl.tl.cons (fun i e => q_rf_wf wh _ _ _ e), wl⟩
        · cases h
      · cases h
    · cases h
  case iastore =>
    simp only [q_s2] at h
    split at h
    · split at h
      · rw [Option.map_eq_some_iff] at h
        obtain ⟨j, -, rfl⟩ := h
        exact ⟨q_ext.of rfl, wh, ws.tl.tl.tl, wl⟩
      · cases h
    · cases h
  case lastore =>
    simp only [q_s2] at h
    split at h
    · split at h
      · rw [Option.map_eq_some_iff] at h
        obtain ⟨j, -, rfl⟩ := h
        exact ⟨q_ext.of rfl, wh, ws.tl.tl.tl, wl⟩
      · cases h
    · cases h
  case bastore =>
    simp only [q_s2] at h
    split at h
    · split at h
      · rw [Option.map_eq_some_iff] at h
        obtain ⟨j, -, rfl⟩ := h
        exact ⟨q_ext.of rfl, wh, ws.tl.tl.tl, wl⟩
      · cases h
    · cases h
  case aastore =>
    simp only [q_s2] at h
    split at h
    · split at h
      · split at h
        · split at h
          · rw [Option.map_eq_some_iff] at h
            obtain ⟨j, -, rfl⟩ := h
            exact ⟨q_ext.of rfl, wh.up (fun r hr => by cases hr; exact ws.hd _ rfl), ws.tl.tl.tl, wl⟩
          · cases h
        · cases h
      · cases h
    · cases h
  case arraylength =>
    simp only [q_s2] at h
    split at h
    · split at h
      · split at h
        · cases h
          exact ⟨q_ext.rf _, wh, ws.tl.cons (fun i e => by cases e), wl⟩
        · cases h
      · cases h
    · split at h
      · cases h
        exact ⟨q_ext.rf _, wh, ws.tl.cons (fun i e => by cases e), wl⟩
      · cases h
    · cases h
  case new i =>
    simp only [q_s2] at h
    split at h
    · cases h
      have hl : ∀ sh, (q_new H sh).1.length = H.1.length + 1 := fun sh => by simp [q_new]
      refine ⟨⟨_, rfl⟩, wh.new _, ?_, wl.mono (by rw [hl]; omega)⟩
      exact q_wfs.cons (v := .ref H.1.length) (ws.mono (by rw [hl]; omega)) (fun i e => by cases e; rw [hl]; exact Nat.lt_succ_self _)
    · cases h
  case newarray t =>
    simp only [q_s2] at h
    split at h
    · split at h
      · split at h
        · cases h
        · cases h
          have hl : ∀ sh, (q_new H sh).1.length = H.1.length + 1 := fun sh => by simp [q_new]
          refine ⟨⟨_, rfl⟩, wh.new _, ?_, wl.mono (by rw [hl]; omega)⟩
          exact q_wfs.cons (v := .ref H.1.length) (ws.tl.mono (by rw [hl]; omega)) (fun i e => by cases e; rw [hl]; exact Nat.lt_succ_self _)
      · cases h
    · cases h
  case anewarray i =>
    simp only [q_s2] at h
    split at h
    · split at h
      · split at h
        · cases h
        · cases h
          have hl : ∀ sh, (q_new H sh).1.length = H.1.length + 1 := fun sh => by simp [q_new]
          refine ⟨⟨_, rfl⟩, wh.new _, ?_, wl.mono (by rw [hl]; omega)⟩
          exact q_wfs.cons (v := .ref H.1.length) (ws.tl.mono (by rw [hl]; omega)) (fun i e => by cases e; rw [hl]; exact Nat.lt_succ_self _)
      · cases h
    · cases h
  case invokespecial i =>
    simp only [q_s2] at h
    split at h
    · split at h
      · split at h
        · cases h
          exact ⟨q_ext.rf _, wh, ws.tl, wl⟩
        · cases h
      · cases h
    · cases h
  case invokestatic i =>
    simp only [q_s2] at h
    split at h
    · split at h
      · split at h
        · cases h
          exact ⟨q_ext.rf _, wh, ws.tl.tl.cons (fun i e => by cases e), wl⟩
        · cases h
      · cases h
    · split at h
      · split at h
        · cases h
          exact ⟨q_ext.rf _, wh, ws.tl.tl.cons (fun i e => by cases e), wl⟩
        · cases h
      · cases h
    · split at h
      · split at h
        · cases h
          exact ⟨q_ext.rf _, wh, ws.tl.cons (fun i e => by cases e), wl⟩
        · cases h
      · cases h
    · split at h
      · split at h
        · split at h
          · cases h
            exact ⟨q_ext.of rfl, wh, ws.tl.tl.tl.tl.tl, wl⟩
          · cases h
        · cases h
      · cases h
    · cases h
theorem q_s1_wf {G : q_G} {M : q_M} {ins : Instr} {pc : Nat} {ls : List (Option Value)} {st : List Value} {H : q_H} {z : q_R4} (h : q_s1 G M ins pc ls st H = some z) (w : q_ok4 ls st H) : q_ext H z.2.2.2 ∧ q_ok4 z.2.1 z.2.2.1 z.2.2.2 := by
  unfold q_s1 at h
  have w0 := w
  obtain ⟨wh, ws, wl⟩ := w
  split at h
  · rename_i q hq
    cases h
    refine ⟨q_ext.rf _, wh, ws.cons (fun i e => ?_), wl⟩
    exfalso
    cases ins <;> simp only [q_pu, reduceCtorEq, Option.some.injEq] at hq
    · rw [← hq] at e; cases e
    · rw [← hq] at e; cases e
    · rw [← hq] at e; cases e
    · split at hq
      · cases hq; cases e
      · cases hq
    · split at hq
      · cases hq; cases e
      · cases hq
    · rw [← hq] at e; cases e
  · split at h
    · split at h
      · rename_i v hv
        split at h
        · cases h
          exact ⟨q_ext.rf _, wh, ws.cons (fun i e => wl i (by rw [← e]; exact List.mem_of_getElem? hv)), wl⟩
        · cases h
      · cases h
    · split at h
      · split at h
        · split at h
          · cases h
            exact ⟨q_ext.rf _, wh, ws.tl, wl.set ws.hd⟩
          · cases h
        · cases h
      · split at h
        · split at h
          · rw [Option.map_eq_some_iff] at h
            obtain ⟨j, -, rfl⟩ := h
            exact ⟨q_ext.rf _, wh, ws.tl.tl.cons (fun i e => by cases e), wl⟩
          · cases h
        · split at h
          · split at h
            · rw [Option.map_eq_some_iff] at h
              obtain ⟨j, -, rfl⟩ := h
              exact ⟨q_ext.rf _, wh, ws.tl.tl.cons (fun i e => by cases e), wl⟩
            · cases h
          · exact q_s2_wf h w0
theorem q_wfs.drop {n : Nat} {st : List Value} (h : q_wfs n st) (k : Nat) : q_wfs n (st.drop k) := fun i hi => h i (List.mem_of_mem_drop hi)
theorem q_wfs.take {n : Nat} {st : List Value} (h : q_wfs n st) (k : Nat) : q_wfs n (st.take k).reverse := fun i hi => h i (List.mem_of_mem_take (List.mem_reverse.mp hi))
theorem q_cal_wf {P : Nat → q_M} {M : q_M} {ins : Instr} {st : List Value} {H : q_H} {k : Nat} {as r : List Value} (h : q_cal P M ins st H = some (k, as, r)) {n : Nat} (w : q_wfs n st) : q_wfs n as ∧ q_wfs n r := by
  unfold q_cal at h
  split at h
  · split at h
    · split at h
      · rename_i e
        split at h
        · cases h
          rename_i n' _ _ _ _
          have wd := w.drop n'
          rw [e] at wd
          exact ⟨(w.take n').cons wd.hd, wd.tl⟩
        · cases h
      · cases h
    · cases h
  · split at h
    · split at h
      · rename_i e
        split at h
        · cases h
          rename_i n' _ _ _ _
          have wd := w.drop n'
          rw [e] at wd
          exact ⟨(w.take n').cons wd.hd, wd.tl⟩
        · cases h
      · cases h
    · cases h
  · split at h
    · split at h
      · cases h
        exact ⟨w.take _, w.drop _⟩
      · cases h
    · cases h
  · cases h
theorem q_wfl.en {n : Nat} : ∀ {as : List Value} (k : Nat), q_wfs n as → q_wfl n (q_en as ++ List.replicate k none)
  | [], k, _, i, hi => by
    simp only [q_en, List.nil_append] at hi
    have := List.eq_of_mem_replicate hi
    cases this
  | v :: vs, k, w, i, hi => by
    have ih := q_wfl.en (as := vs) k w.tl
    simp only [q_en] at hi
    split at hi
    · simp only [List.cons_append, List.mem_cons, Option.some.injEq, reduceCtorEq, false_or] at hi
      rcases hi with e | e
      · exact w.hd i e.symm
      · exact ih i e
    · simp only [List.cons_append, List.mem_cons, Option.some.injEq] at hi
      rcases hi with e | e
      · exact w.hd i e.symm
      · exact ih i e
theorem q_rv_wf {M : q_M} {z : Nat × List Value × q_H} {v : Option Value} (h : q_rv M z = some v) : ∀ i, v ≠ some (.ref i) := by
  intro i e
  subst e
  unfold q_rv at h
  split at h
  · split at h
    · cases h
    · split at h
      · cases h
      · cases h
    · cases h
  · split at h
    · cases h
    · cases h
  · split at h
    · cases h
    · cases h
  · cases h
theorem q_x_wf {G : q_G} {P : Nat → q_M} : ∀ (n k pc : Nat) (ls : List (Option Value)) (st : List Value) (H : q_H) (z : Nat × List Value × q_H), q_x G P n k pc ls st H = some z → q_ok4 ls st H → q_ext H z.2.2 ∧ q_wfh z.2.2 ∧ q_wfs z.2.2.1.length z.2.1
  | 0, _, _, _, _, _, _, h, _ => by simp [q_x] at h
  | n + 1, k, pc, ls, st, H, z, h, w => by
    have ih := q_x_wf (G := G) (P := P) n
    unfold q_x at h
    split at h
    · cases h
    · rename_i ins len ks ht
      split at h
      · cases h
        exact ⟨q_ext.rf _, w.1, w.2.1⟩
      · split at h
        · rename_i k' as r hc
          split at h
          · split at h
            · rename_i z1 h1
              split at h
              · rename_i v hv
                have wc := q_cal_wf hc w.2.1
                obtain ⟨x1, y1, -⟩ := ih _ _ _ _ _ _ h1 ⟨w.1, (fun i hi => by cases hi), q_wfl.en _ wc.1⟩
                have w2 : q_ok4 (q_kill ks ls) (v.toList ++ r) z1.2.2 := by
                  refine ⟨y1, fun i hi => ?_, (w.2.2.sub (fun i v hv => ⟨i, q_kill_sub _ hv⟩)).mono x1.le⟩
                  rcases List.mem_append.mp hi with e | e
                  · have := q_rv_wf hv i
                    cases v with
                    | none => cases e
                    | some u =>
                      rw [Option.toList_some, List.mem_singleton] at e
                      rw [← e] at this
                      exact absurd rfl this
                  · exact Nat.lt_of_lt_of_le (wc.2 i e) x1.le
                obtain ⟨x2, y2⟩ := ih _ _ _ _ _ _ h w2
                exact ⟨x1.tr x2, y2⟩
              · cases h
            · cases h
          · cases h
        · split at h
          · rename_i z1 h1
            obtain ⟨x1, y1⟩ := q_s1_wf h1 ⟨w.1, w.2.1, w.2.2.sub (fun i v hv => ⟨i, q_kill_sub _ hv⟩)⟩
            obtain ⟨x2, y2⟩ := ih _ _ _ _ _ _ h y1
            exact ⟨x1.tr x2, y2⟩
          · cases h
