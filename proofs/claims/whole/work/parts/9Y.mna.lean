/-! An array of arrays is made. -/
def mnaH (H : q_H) : q_H := (H.1 ++ [.inr (4, 4), .inr (0, 24), .inr (0, 24), .inr (0, 24), .inr (0, 24)], (fun i j => if H.1.length ≤ i then 0 else H.2.1 i j), (fun i j => if H.1.length ≤ i then 0 else H.2.2.1 i j), fun i j => if H.1.length ≤ i then (if i = H.1.length ∧ j < 4 then some (H.1.length + 1 + j) else none) else H.2.2.2 i j)
theorem n_outer (c : ClassId) (N h0 : Nat) : ∀ i : Nat, Jvm.Free.Multi.outerC c N h0 i = arrV c N (fun j => va_rf (if j < i then some (h0 + 1 + j) else none))
  | 0 => by
    show ({ cls := c, slots := Array.replicate N .null, vm := .none } : Cell) = _
    rw [arrV_new]
    refine congrArg (arrV c N) (funext fun j => ?_)
    simp [va_rf]
  | i + 1 => by
    show (Jvm.Free.Multi.outerC c N h0 i).setSlot i (.ref (h0 + 1 + i)) = _
    rw [n_outer c N h0 i, arrV_store]
    refine congrArg (arrV c N) (funext fun j => ?_)
    by_cases e : j = i
    · subst e
      simp [updV, va_rf]
    · by_cases h : j < i
      · simp [updV, e, h, Nat.lt_succ_of_lt h]
      · simp [updV, e, h, show ¬ j < i + 1 by omega]
theorem at_in {D : va_G} {cl : List vw_C} {F : Heap} {n : Nat} {c : ClassId} {f : Nat → Int32} (hf : ∀ j, f j = 0) (h : F[n]? = some (Jvm.Free.Multi.innerC c 24 (.int 0))) : va_at D cl (n, .inl (c, 24, .inl f)) F := by
  have e : f = fun _ => 0 := funext hf
  subst e
  show F[n]? = some (arrV c 24 (fun _ => .int 0))
  rw [h, ← arrV_new]
  rfl
theorem at_out {D : va_G} {cl : List vw_C} {F : Heap} {n : Nat} {c : ClassId} {f : Nat → Option Nat} (hf : ∀ j, f j = if j < 4 then some (n + 1 + j) else none) (h : F[n]? = some (Jvm.Free.Multi.outerC c 4 n 4)) : va_at D cl (n, .inl (c, 4, .inr (.inr (.inr (.inr f))))) F := by
  have e : f = fun j => if j < 4 then some (n + 1 + j) else none := funext hf
  subst e
  show F[n]? = some (arrV c 4 (fun j => va_rf (if j < 4 then some (n + 1 + j) else none)))
  rw [h, n_outer]
section
variable {l : Launch} {G : q_G} {P : Nat → q_M} {D : va_G} {dA : Nat → ClassId} {az : Nat → Nat} {M : q_M} {p : Program} {e : Env} {R : Room} {s : State} {m : MethodId} {args : Array Value} {below : List Frame} {meth : Method} {c : Code} {A : Nat → Prop} {Q : State → Prop}
theorem mna_wf {H : q_H} (w : q_wfh H) : q_wfh (mnaH H) := by
  intro a j r hr
  have e1 : (mnaH H).1.length = H.1.length + 5 := by simp [mnaH]
  rw [e1]
  simp only [mnaH] at hr
  split at hr
  · split at hr
    · cases hr
      omega
    · cases hr
  · have := w a j r hr
    omega
/-- the cells behind it -/
theorem mna_wd (hG : q_okG G) (g4 : g_at G 4 = .array .int) (hna : 4 < g_na G) {H : q_H} {ad : Nat → Nat} {Hp F : Heap} {locs : List Loc} (wf : q_wfh H) (hw : q_wd G D dA s A ad H Hp locs) (hA : ∀ q, s.heap.size ≤ q → A q) (f1 : F.size = Hp.size + 1 + 4) (f2 : F[Hp.size]? = some (Jvm.Free.Multi.outerC (dA 4) 4 Hp.size 4)) (f3 : ∀ j, j < 4 → F[Hp.size + 1 + j]? = some (Jvm.Free.Multi.innerC (dA 0) 24 (.int 0))) (f4 : ∀ x : Nat, x < Hp.size → F[x]? = Hp[x]?) :
    q_wd G D dA s A (fun i => if i < H.1.length then ad i else Hp.size + (i - H.1.length)) (mnaH H) F locs := by
  obtain ⟨g0, g1, g2, g3, -⟩ := hG
  have hlt : ∀ i, i < H.1.length → ad i < Hp.size := fun i hi => (hw.1 i _ (q_w_at (List.getElem?_eq_getElem hi))).lt
  have e1 : (mnaH H).1.length = H.1.length + 5 := by simp [mnaH]
  have ent : ∀ (k : Nat) (q : Nat × va_E), (q_w G dA (fun i => if i < H.1.length then ad i else Hp.size + (i - H.1.length)) (mnaH H))[k]? = some q → k < H.1.length + 5 ∧ q.1 = if k < H.1.length then ad k else Hp.size + (k - H.1.length) := fun k q hq => by
    rw [q_w_get] at hq
    cases hs : (mnaH H).1[k]? with
    | none => rw [hs] at hq; cases hq
    | some sh =>
      rw [hs] at hq
      cases hq
      have := (List.getElem?_eq_some_iff.mp hs).1
      exact ⟨by omega, rfl⟩
  refine ⟨fun k q hq => ?_, ⟨fun i j x y hi hj hxy => ?_, fun k q hq => ?_⟩, ⟨?_, fun q h1 h2 => ?_, hw.2.2.2.2⟩⟩
  · by_cases hk : k < H.1.length
    · have hs : (mnaH H).1[k]? = some H.1[k] := by
        show (H.1 ++ _)[k]? = _
        rw [List.getElem?_append_left hk]
        exact List.getElem?_eq_getElem hk
      rw [q_w_at hs] at hq
      have hne : ¬ H.1.length ≤ k := by omega
      have hee : q_e G dA (fun i => if i < H.1.length then ad i else Hp.size + (i - H.1.length)) (mnaH H) k H.1[k] = q_e G dA ad H k H.1[k] := by
        rw [q_e_row (H := H) H.1[k] (by funext j; simp [mnaH, hne]) (by funext j; simp [mnaH, hne]) (by funext j; simp [mnaH, hne])]
        exact q_e_ad (n := H.1.length) (fun i hi => if_pos hi) wf k H.1[k]
      rw [hee] at hq
      simp only [if_pos hk] at hq
      cases hq
      exact (hw.1 k _ (q_w_at (List.getElem?_eq_getElem hk))).kept (f4 _ (hlt k hk))
    · obtain ⟨t, rfl⟩ : ∃ t, k = H.1.length + t := ⟨k - H.1.length, by omega⟩
      have ht := (ent _ q hq).1
      have hg : ∀ sh, ([.inr (4, 4), .inr (0, 24), .inr (0, 24), .inr (0, 24), .inr (0, 24)] : List q_Sh)[t]? = some sh → (mnaH H).1[H.1.length + t]? = some sh := fun sh h => by
        show (H.1 ++ _)[_]? = _
        rw [List.getElem?_append_right (by omega)]
        simpa using h
      have inner : ∀ t', t = t' + 1 → t' < 4 → va_at D (g_cl G) q F := fun t' et h4 => by
        have hs : (mnaH H).1[H.1.length + t]? = some (.inr (0, 24)) := by
          apply hg
          rw [et]
          match t', h4 with
          | 0, _ => rfl
          | 1, _ => rfl
          | 2, _ => rfl
          | 3, _ => rfl
          | t' + 4, h => exact absurd h (by omega)
        have he := q_arr_at (G := G) (dA := dA) (ad := fun i => if i < H.1.length then ad i else Hp.size + (i - H.1.length)) hs
        rw [q_av0 (by rw [g0]; rfl)] at he
        have hq2 := Option.some.inj (hq.symm.trans he)
        have ea : (if H.1.length + t < H.1.length then ad (H.1.length + t) else Hp.size + (H.1.length + t - H.1.length)) = Hp.size + 1 + t' := by
          rw [if_neg (by omega)]
          omega
        rw [hq2, ea]
        exact at_in (fun j => if_pos (by omega)) (f3 t' h4)
      match t, ht with
      | 0, _ =>
        have hs := hg (.inr (4, 4)) rfl
        have he := q_arr_at (G := G) (dA := dA) (ad := fun i => if i < H.1.length then ad i else Hp.size + (i - H.1.length)) hs
        rw [q_av2 (by rw [g4]; rfl)] at he
        have hq2 := Option.some.inj (hq.symm.trans he)
        have ea : (if H.1.length + 0 < H.1.length then ad (H.1.length + 0) else Hp.size + (H.1.length + 0 - H.1.length)) = Hp.size := by
          rw [if_neg (by omega)]
          omega
        rw [hq2, ea]
        refine at_out (fun j => ?_) f2
        show ((if H.1.length ≤ H.1.length + 0 then (if H.1.length + 0 = H.1.length ∧ j < 4 then some (H.1.length + 1 + j) else none) else H.2.2.2 (H.1.length + 0) j)).map _ = _
        rw [if_pos (by omega)]
        by_cases hj : j < 4
        · rw [if_pos ⟨by omega, hj⟩, if_pos hj]
          show some (if H.1.length + 1 + j < H.1.length then _ else _) = _
          rw [if_neg (by omega)]
          congr 1
          omega
        · rw [if_neg (fun z => hj z.2), if_neg hj]
          rfl
      | 1, _ => exact inner 0 rfl (by omega)
      | 2, _ => exact inner 1 rfl (by omega)
      | 3, _ => exact inner 2 rfl (by omega)
      | 4, _ => exact inner 3 rfl (by omega)
      | t + 5, h => exact absurd h (by omega)
  · obtain ⟨a1, a2⟩ := ent i x hi
    obtain ⟨b1, b2⟩ := ent j y hj
    rw [a2, b2] at hxy
    by_cases h1 : i < H.1.length <;> by_cases h2 : j < H.1.length
    · rw [if_pos h1, if_pos h2] at hxy
      exact hw.2.1.1 i j _ _ (q_w_at (List.getElem?_eq_getElem h1)) (q_w_at (List.getElem?_eq_getElem h2)) hxy
    · rw [if_pos h1, if_neg h2] at hxy
      have := hlt i h1
      omega
    · rw [if_neg h1, if_pos h2] at hxy
      have := hlt j h2
      omega
    · rw [if_neg h1, if_neg h2] at hxy
      omega
  · obtain ⟨a1, a2⟩ := ent k q hq
    rw [a2]
    by_cases h1 : k < H.1.length
    · rw [if_pos h1]
      exact hw.2.1.2 k _ (q_w_at (List.getElem?_eq_getElem h1))
    · rw [if_neg h1]
      have := hw.2.2.1
      exact hA _ (by omega)
  · have := hw.2.2.1
    omega
  · rw [f4 q (Nat.lt_of_lt_of_le h1 hw.2.2.1)]
    exact hw.2.2.2.1 q h1 h2
theorem n_mna (hG : q_okG G) (g4 : g_at G 4 = .array .int) (hna : 4 < g_na G) (hf : q_fr G D dA az M p R s m args meth c A) (hAO : (Jvm.Cond.arrayOver (.array .int)).before #[] s = true) {idx : Nat} (hcl : Jvm.Cond.classLink (q_y M).cls idx "[[I" ∈ q_ws M) (hac : Jvm.Cond.arrayClass .int ∈ q_ws M) {N0 : Nat} {ad0 : Nat → Nat} {n0 s0 : Int} {pc : Nat} {ls : List (Option Value)} {st : List Value} {H : q_H} (hdec : decode (q_code M) pc = .ok (.multianewarray idx 2, 4))
    (h : q_J l G D dA az M p e R s m args below meth c A Q N0 ad0 n0 s0 (pc + 4) ls (.ref H.1.length :: st) (mnaH H)) : q_J l G D dA az M p e R s m args below meth c A Q N0 ad0 n0 s0 pc ls (.int 24 :: .int 4 :: st) H := by
  intro hn hsl hN wf
  obtain ⟨hx, hb, hml, hown, hts, hnm, hK, hA, hZ, hNw, hR1, hR2⟩ := id hf
  have e1 : (mnaH H).1.length = H.1.length + 5 := by simp [mnaH]
  have e2 : q_sl G (mnaH H).1 = q_sl G H.1 + 100 := by
    show q_sl G (H.1 ++ _) = _
    rw [q_sl_app]
    rfl
  have w2 : q_wfs H.1.length st := fun i hi => wf.2.1 i (List.mem_cons_of_mem _ (List.mem_cons_of_mem _ hi))
  have wf' : q_ok4 ls (.ref H.1.length :: st) (mnaH H) := ⟨mna_wf wf.1, fun i hi => by
    rw [e1]
    rcases List.mem_cons.mp hi with q | q
    · cases q
      exact Nat.lt_add_of_pos_right (by decide)
    · exact Nat.lt_of_lt_of_le (w2 i q) (Nat.le_add_right _ _), wf.2.2.mono (by omega)⟩
  obtain ⟨b, k⟩ := h (by omega) (by omega) (by omega) wf'
  rw [e1, e2] at b
  refine ⟨by omega, fun ad Hp locs lsA had hw hl => ?_⟩
  intro T hT X
  have t4 : (4 : Int32).toNatClampNeg = 4 := by decide
  have t24 : (24 : Int32).toNatClampNeg = 24 := by decide
  obtain ⟨vm₁, cA, comp, hWm, fA, fC, hO, hI, X', step⟩ := X.multianewarray2F hx (own := (q_y M).cls) (index := idx) (ty := .int) hown (hts _ hcl) hAO (hts _ hac) (g := F0 m pc lsA ((.int 24 :: .int 4 :: st).map (q_v az ad))) rfl (by rw [hb]; exact hdec) (n := 4) (k := 24) rfl (by decide) (by decide) (by decide) (by decide) (by decide) rfl rfl (by rw [t4]; omega) (by rw [t4, t24]; omega)
  rw [t4, t24] at X' step
  have h4 := (hK.2 4 _ (q_tys_at hna)).2
  rw [g4] at h4
  have h0 := (hK.2 0 _ (q_tys_at (by omega))).2
  rw [show g_at G 0 = .int from hG.1] at h0
  have ea : cA = dA 4 := Option.some.inj (fA.symm.trans h4)
  have ec : comp = dA 0 := Option.some.inj (fC.symm.trans h0)
  subst ea
  subst ec
  have hTh : (T.setVm vm₁).heap = Hp := hT
  generalize hF : Jvm.Free.Multi.fill (T.setVm vm₁) (dA 4) (dA 0) 4 24 (defaultValue .int) 4 = F at X' step
  obtain ⟨f1, f2, -, -⟩ := Jvm.Free.Multi.fill_facts (T.setVm vm₁) (dA 4) (dA 0) 4 24 (defaultValue .int) 4
  rw [hF, hTh] at f1 f2
  have f3 : ∀ j, j < 4 → F.heap[Hp.size + 1 + j]? = some (Jvm.Free.Multi.innerC (dA 0) 24 (.int 0)) := fun j hj => by
    have := Jvm.Free.Multi.fill_inner (T.setVm vm₁) (dA 4) (dA 0) 4 24 (defaultValue .int) 4 j hj
    rw [hF, hTh] at this
    exact this
  have f4 : ∀ x : Nat, x < Hp.size → F.heap[x]? = Hp[x]? := fun x hx => by
    have := Jvm.Free.Multi.fill_old (T.setVm vm₁) (dA 4) (dA 0) 4 24 (defaultValue .int) (a := x) (by rw [hTh]; exact hx) 4
    rw [hF, hTh] at this
    exact this
  have hw' := mna_wd hG g4 hna wf.1 hw hA f1 f2 f3 f4
  have adL : ∀ i, i < H.1.length → (fun i => if i < H.1.length then ad i else Hp.size + (i - H.1.length)) i = ad i := fun i hi => if_pos hi
  have kk := k (fun i => if i < H.1.length then ad i else Hp.size + (i - H.1.length)) F.heap locs lsA (fun i hi => (adL i (by omega)).trans (had i hi)) hw' (q_L_ad adL wf.2.2 hl)
  have c1 : (((H.1.length : Nat) : Int) - n0).toNat + 1 + 4 = ((((mnaH H).1.length : Nat) : Int) - n0).toNat := by
    rw [e1]
    omega
  have c2 : (((q_sl G H.1 : Nat) : Int) - s0).toNat + 4 + 4 * 24 = (((q_sl G (mnaH H).1 : Nat) : Int) - s0).toNat := by
    rw [e2]
    omega
  rw [c1, c2] at X'
  obtain ⟨t2, a1, b1⟩ := kk F rfl X'
  refine ⟨t2, step t2 ?_, b1⟩
  have es : (Value.ref H.1.length :: st).map (q_v az (fun i => if i < H.1.length then ad i else Hp.size + (i - H.1.length))) = .ref T.heap.size :: st.map (q_v az ad) := by
    rw [List.map_cons, q_map_ad adL w2]
    show Value.ref (if H.1.length < H.1.length then _ else _) :: _ = _
    rw [if_neg (by omega), Nat.sub_self, Nat.add_zero, hT]
  rw [es] at a1
  exact a1
end
