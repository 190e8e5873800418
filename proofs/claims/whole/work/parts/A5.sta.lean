/-! The law from its start. -/
theorem nw_mna : Jvm.Cond.classLink "CommitDesk" 27 "[[I" ∈ LW := q_mw (by decide +kernel) rfl
theorem y_law_12 (xs : List Int32) {J : Nat → List (Option Value) → List Value → q_H → Prop} (hC : y_C (GG xs) PP ML J) (s0 : Nat) (H : q_H) (h : ∀ (a_3 : Nat) (H4 : q_H), a_3 = H.1.length → H4 = q_new H (.inl 7) → J 19 [some (.retAddr 1), some (.ref (s0)), none, none, none, none, none, none] [.int (0), .retAddr 1, .ref (a_3), .ref (a_3)] H4) : J 12 [some (.retAddr 1), none, none, none, none, none, none, none] [.ref (s0)] H := y_astore_n hC tML_12 rfl rfl (ls' := [some (.retAddr 1), some (.ref (s0)), none, none, none, none, none, none]) rfl (y_new hC tML_13 rfl rfl (fun a_3 H4 h5 h6 => y_dup hC tML_16 rfl rfl (y_aload_t hC tML_17 rfl rfl (y_iconst hC tML_18 rfl (v := (0)) rfl (h a_3 H4 h5 h6)))))
section
variable {l : Launch} {D : va_G} {dA : Nat → ClassId} {az : Nat → Nat} {p : Program} {e : Env} {R : Room} {s : State} {m : MethodId} {args : Array Value} {below : List Frame} {meth : Method} {c : Code} {A : Nat → Prop} {Q : State → Prop}
theorem ctor_e1 (H' : q_H) : q_rv (PP 0) (79, [], H') = some none := by
  unfold q_rv
  dsimp only
  rw [t0_79]
  rfl
theorem ctor_e6 (xs : List Int32) : q_sl (GG xs) (SH.take 1) ≤ q_sl (GG xs) (SH.take 48) := by
  have e : SH.take 48 = SH.take 1 ++ (SH.take 48).drop 1 := rfl
  rw [e, q_sl_app]
  exact Nat.le_add_right _ _
theorem ctor_met (xs : List Int32) (X : Int) (hX : -2147483648 ≤ X ∧ X < 2147483648) {H H' : q_H} (eH : H = (SH.take 1, zs i_v0, zt i_w0, i_r0)) (eH' : H' = i_H48 (hhr X)) (ad : Nat → Nat) (sz : Nat) :
    Met l (q_y (PP 0)) (q_ws (PP 0)) ({ frames := q_nf_ (PP 0), cells := H'.1.length - H.1.length, slots := q_sl (GG xs) H'.1 - q_sl (GG xs) H.1, locals := q_nl_ (PP 0) }) (fun a U => q_Pc (GG xs) D dA az ad H sz [.ref 0, .int (zi X)] a U ∧ (Jvm.Cond.arrayOver (.array .int)).before #[] U = true) (q_Qc (GG xs) D dA az ad H sz H' none) (H'.1.length - H.1.length) (q_sl (GG xs) H'.1 - q_sl (GG xs) H.1) (va_A (q_w (GG xs) dA ad H) sz) := by
  have e2 : (q_en [.ref 0, .int (zi X)]).length ≤ q_nL (PP 0) := Nat.le_of_ble_eq_true rfl
  have e3 : q_wfh H := fun i j r hr => by
    rw [eH] at hr
    cases hr
  have e4 : q_wfs H.1.length [.ref 0, .int (zi X)] := fun i hi => by
    simp at hi
    subst hi
    rw [eH]
    exact Nat.le_of_ble_eq_true rfl
  have e5 : H.1.length ≤ H'.1.length := by
    rw [eH, eH']
    exact Nat.le_of_ble_eq_true rfl
  have e6 : q_sl (GG xs) H.1 ≤ q_sl (GG xs) H'.1 := by
    rw [eH, eH']
    exact ctor_e6 xs
  have e7 : decode (q_code (PP 0)) 38 = .ok (.multianewarray 27 2, 4) := ((PP_ok xs 0).2.1 38 _ _ _ t0_38).1 (fun z => by cases z)
  have e8 : Jvm.Cond.classLink (q_y (PP 0)).cls 27 "[[I" ∈ q_ws (PP 0) := List.mem_cons_of_mem _ nw_mna
  have e9 : Jvm.Cond.arrayClass .int ∈ q_ws (PP 0) := List.mem_cons_of_mem _ mw_74
  refine met_J (H := H) (H' := H') (X := fun U => (Jvm.Cond.arrayOver (.array .int)).before #[] U = true) (GG_ok xs) (PP_ok xs 0) (pcR := 79) (stR := []) (lsR := [none, none]) (ctor_e1 _) e2 e3 e4 e5 e6 ?_ ad sz
  intro p e R s m args below meth c A Q N0 ad0 hf hAO h
  generalize ((H.1.length : Nat) : Int) = n0 at h ⊢
  generalize ((q_sl (GG xs) H.1 : Nat) : Int) = s0 at h ⊢
  rw [eH'] at h
  rw [eH]
  exact c_Desk xs X hX (y_C_W (GG_ok xs) (PP_ok xs) (PP_ok xs 0) hf N0 ad0 n0 s0) (fun ls st H q => n_mna (GG_ok xs) rfl (Nat.le_of_ble_eq_true rfl) hf hAO e8 e9 e7 q) h
/-- the law makes the class -/
theorem n_ctor (xs : List Int32) (hf : q_fr (GG xs) D dA az ML p R s m args meth c A) (hAO : (Jvm.Cond.arrayOver (.array .int)).before #[] s = true) (X : Int) (hX : -2147483648 ≤ X ∧ X < 2147483648) {N0 : Nat} {ad0 : Nat → Nat} {n0 s0 : Int} {ls : List (Option Value)} {H H' : q_H} (eH : H = (SH.take 1, zs i_v0, zt i_w0, i_r0)) (eH' : H' = i_H48 (hhr X))
    (h : q_J l (GG xs) D dA az ML p e R s m args below meth c A Q N0 ad0 n0 s0 12 ls [.ref 0] H') : q_J l (GG xs) D dA az ML p e R s m args below meth c A Q N0 ad0 n0 s0 9 ls [.int (zi X), .ref 0, .ref 0] H := by
  obtain ⟨hx, hb, hml, hown, hts, hnm, hK, hA, hZ, hN, hR1, hR2⟩ := id hf
  have hW : ∀ w ∈ LW, w ∈ q_ws ML := fun w h => List.mem_cons_of_mem _ h
  have hR1' : 10 ≤ R.frames := hR1
  have hR2' : 388 ≤ R.locals := hR2
  have hle : H.1.length ≤ H'.1.length := by
    rw [eH, eH']
    exact Nat.le_of_ble_eq_true rfl
  have hsl : q_sl (GG xs) H.1 ≤ q_sl (GG xs) H'.1 := by
    rw [eH, eH']
    exact ctor_e6 xs
  have w48 : q_wfh H' := by
    rw [eH']
    exact wr_H48 _
  have l0 : 0 < H'.1.length := by
    rw [eH']
    exact Nat.le_of_ble_eq_true rfl
  obtain ⟨⟨hgood, hini, -, ne1, ne2, hdesc, hr1, hr2⟩, hinst, hname, hrt⟩ := (((omML xs).2.2.1 46 _ (rfl : q_rs ML 46 = some (11, 0, 1))).2.2.2.2.2.1) rfl
  dsimp only at hr1 hr2
  have hM := ctor_met (l := l) (D := D) (dA := dA) (az := az) xs X hX eH eH'
  have hwsP : q_ws (PP 0) = Jvm.Cond.code (q_y (PP 0)) (q_code (PP 0)) (q_nL (PP 0)) none :: LW := rfl
  have hdec : decode (q_code ML) 9 = .ok (.invokespecial 46, 3) := q_dec (omML xs) tML_9 rfl
  clear eH eH'
  refine J_run (n1 := n0) (s1 := s0) (H := H) (H' := H') (r := [.ref 0]) (v := none) (mc := H'.1.length - H.1.length) (ms := q_sl (GG xs) H'.1 - q_sl (GG xs) H.1) (a := fun ad => (([.ref 0, .int (zi X)] : List Value).map (q_v az ad)).toArray) hA hle (fun hn => by omega) (fun hn => by omega) (fun w i hi => w i (List.mem_cons_of_mem _ (List.mem_cons_of_mem _ (by simpa using hi)))) (fun wf => ⟨w48, fun i hi => ?_, wf.2.2.mono hle⟩) (fun wf hfit ad Hp locs lsA hw hls => ?_) h
  · simp at hi
    subst hi
    exact l0
  · exact va_runI ⟨hx, hb, hml, hown, hts⟩ (hM ad Hp.size) ⟨callB_of 1 hts hgood hwsP rfl rfl (hts _ hini) (hts _ (hW _ nw_21)) ⟨ne1, ne2, hdesc⟩ ⟨by dsimp only; omega, by dsimp only; omega⟩, hname, hts _ hinst⟩ ⟨fun a U g mk q => ⟨q_Pc_blind (GG_ok xs) a U g mk q.1, q.2⟩, fun U hU hV => ⟨q_Pc_of (GG_ok xs) hf hw [.ref 0, .int (zi X)] U hU hV, arrayOver_alikeB hV.alike hAO⟩⟩ (b := ad 0) (As := [.int (zi X)]) rfl rfl hls rfl (lv_room (by rw [q_cat_map]; decide)) hdec hfit
end
section
variable {l : Launch} {D : va_G} {dA : Nat → ClassId} {az : Nat → Nat} {p : Program} {e : Env} {Rm : Room} {s : State} {m : MethodId} {args : Array Value} {below : List Frame} {meth : Method} {c : Code} {A : Nat → Prop} {Q : State → Prop} {N0 : Nat} {ad0 : Nat → Nat}
theorem L_start (xs : List Int32) (hL : xs.length ≤ 3073) (hf : q_fr (GG xs) D dA az ML p Rm s m args meth c A) (hTS : n_TS A s s.heap) (htr : l.stackTraces = false) (hAO : (Jvm.Cond.arrayOver (.array .int)).before #[] s = true) (fin : ∀ (n1 s1 : Int) (i4 : Int32) (v2 w2 : Nat → Int → Int) (R2 : Nat → Nat → Option Nat), -512 ≤ n1 → -3072 ≤ s1 → INV (SH.take 70) v2 w2 R2 → q_J l (GG xs) D dA az ML p e Rm s m args below meth c A Q N0 ad0 n1 s1 1059 [some (.retAddr 1), some (.ref 0), some (.ref 48), some (.ref 69), some (.int i4), none, none, none] [.int 1] (SH.take 70, zs v2, zt w2, R2)) :
    q_J l (GG xs) D dA az ML p e Rm s m args below meth c A Q N0 ad0 0 0 0 [some (.retAddr 1), none, none, none, none, none, none, none] [] (SH.take 0, zs i_v0, zt i_w0, i_r0) := by
  have hC := fun n s_ => y_C_W (l := l) (e := e) (below := below) (Q := Q) (GG_ok xs) (PP_ok xs) (omML xs) hf N0 ad0 n s_
  refine y_law xs (hC 0 0) _ (fun a H ea eH => ?_)
  obtain rfl : a = 0 := ea
  obtain rfl : H = (SH.take 1, zs i_v0, zt i_w0, i_r0) := eH.trans (q_nz fz_0 rfl)
  obtain ⟨X, eX, hX⟩ : ∃ X, cel xs = zi X ∧ (-2147483648 ≤ X ∧ X < 2147483648) := ⟨(cel xs).toInt, zi_of _, zi_rng _⟩
  refine n_cell xs (by omega) hf (pc := 6) (q_dec (omML xs) tML_6 rfl) (by decide) ?_
  rw [eX]
  refine n_ctor xs hf hAO X hX rfl rfl ?_
  refine y_law_12 xs (hC 0 0) 0 _ (fun a H ea eH => ?_)
  obtain rfl : a = 48 := ea
  obtain rfl : H = (SH.take 49, zs (i_v30 (hhr X)), zt i_w1, i_r47) := eH.trans (q_nz (fzH48 _) rfl)
  refine n_cell xs (by omega) hf (pc := 19) (q_dec (omML xs) tML_19 rfl) (by decide) ?_
  rw [eX]
  refine y_law_22 xs (hC 0 0) 0 48 48 (zi X) _ (c_Mod xs (hhr X) X hX _ ⟨1, by decide, by decide, by decide, fun a H ea eH => ?_⟩)
  obtain rfl : a = 69 := ea
  obtain rfl : H = (SH.take 70, zs (i_v (hhr X) X), zt i_w, i_r) := eH.trans (q_nz (fzH69 _ _) rfl)
  exact L_loop xs (by omega) hf hTS htr rfl fin 512 1 0 0 _ _ _ (by decide) (by omega) (by omega) (by decide) (by decide) (i_INV X)
end
