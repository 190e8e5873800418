/-! The law's helpers (laid by prog/gen4.py). -/
theorem h_atIA : ∀ a ∈ Bundle.ownAtoms0 "CommitDesk" 55 n_IA n_up, (a ∈ LW ∧ goodWord a = true) ∨ a ∈ n_fw ∨ a ∈ n_sw := by
  have key : (Bundle.ownAtoms0 "CommitDesk" 55 n_IA n_up).all (fun a => (tables_1.contains a && goodWord a) || n_fw.contains a || n_sw.contains a) = true := by decide +kernel
  intro a ha
  have h := List.all_eq_true.mp key a ha
  simp only [Bool.or_eq_true, Bool.and_eq_true, List.contains_iff_mem] at h
  rcases h with (h | h) | h
  · exact Or.inl ⟨q_mw h.1 h.2, h.2⟩
  · exact Or.inr (Or.inl h)
  · exact Or.inr (Or.inr h)
theorem h_atIS : ∀ a ∈ Bundle.ownAtoms0 "CommitDesk" 62 n_IS n_up, (a ∈ LW ∧ goodWord a = true) ∨ a ∈ n_fw ∨ a ∈ n_sw := by
  have key : (Bundle.ownAtoms0 "CommitDesk" 62 n_IS n_up).all (fun a => (tables_1.contains a && goodWord a) || n_fw.contains a || n_sw.contains a) = true := by decide +kernel
  intro a ha
  have h := List.all_eq_true.mp key a ha
  simp only [Bool.or_eq_true, Bool.and_eq_true, List.contains_iff_mem] at h
  rcases h with (h | h) | h
  · exact Or.inl ⟨q_mw h.1 h.2, h.2⟩
  · exact Or.inr (Or.inl h)
  · exact Or.inr (Or.inr h)
theorem h_atIO : ∀ a ∈ Bundle.ownAtoms0 "CommitDesk" 118 n_IO n_up, (a ∈ LW ∧ goodWord a = true) ∨ a ∈ n_fw ∨ a ∈ n_sw := by
  have key : (Bundle.ownAtoms0 "CommitDesk" 118 n_IO n_up).all (fun a => (tables_1.contains a && goodWord a) || n_fw.contains a || n_sw.contains a) = true := by decide +kernel
  intro a ha
  have h := List.all_eq_true.mp key a ha
  simp only [Bool.or_eq_true, Bool.and_eq_true, List.contains_iff_mem] at h
  rcases h with (h | h) | h
  · exact Or.inl ⟨q_mw h.1 h.2, h.2⟩
  · exact Or.inr (Or.inl h)
  · exact Or.inr (Or.inr h)
section
variable {l : Launch} {D : va_G} {dA : Nat → ClassId} {az : Nat → Nat} {p : Program} {e : Env} {R : Room} {s : State} {m : MethodId} {args : Array Value} {below : List Frame} {meth : Method} {c : Code} {A : Nat → Prop} {Q : State → Prop}
theorem hd_unit_0 : decode method_3_code 0 = .ok (.aload 6, 2) := by decide +kernel
theorem hd_unit_2 : decode method_3_code 2 = .ok (.iconst 0, 1) := by decide +kernel
theorem hd_unit_3 : decode method_3_code 3 = .ok (.aload_n 0, 1) := by decide +kernel
theorem hd_unit_4 : decode method_3_code 4 = .ok (.iload_n 1, 1) := by decide +kernel
theorem hd_unit_5 : decode method_3_code 5 = .ok (.iload_n 2, 1) := by decide +kernel
theorem hd_unit_6 : decode method_3_code 6 = .ok (.iload_n 3, 1) := by decide +kernel
theorem hd_unit_7 : decode method_3_code 7 = .ok (.iload 4, 2) := by decide +kernel
theorem hd_unit_9 : decode method_3_code 9 = .ok (.iload 5, 2) := by decide +kernel
theorem hd_unit_11 : decode method_3_code 11 = .ok (.invokevirtual 7, 3) := by decide +kernel
theorem hd_unit_14 : decode method_3_code 14 = .ok (.i2l, 1) := by decide +kernel
theorem hd_unit_15 : decode method_3_code 15 = .ok (.lastore, 1) := by decide +kernel
theorem hd_unit_16 : decode method_3_code 16 = .ok (.goto 11, 3) := by decide +kernel
theorem hd_unit_19 : decode method_3_code 19 = .ok (.astore 7, 2) := by decide +kernel
theorem hd_unit_21 : decode method_3_code 21 = .ok (.iconst 1, 1) := by decide +kernel
theorem hd_unit_22 : decode method_3_code 22 = .ok (.ireturn, 1) := by decide +kernel
theorem hd_unit_23 : decode method_3_code 23 = .ok (.astore 7, 2) := by decide +kernel
theorem hd_unit_25 : decode method_3_code 25 = .ok (.iconst 2, 1) := by decide +kernel
theorem hd_unit_26 : decode method_3_code 26 = .ok (.ireturn, 1) := by decide +kernel
theorem hd_unit_27 : decode method_3_code 27 = .ok (.iconst 0, 1) := by decide +kernel
theorem hd_unit_28 : decode method_3_code 28 = .ok (.ireturn, 1) := by decide +kernel
theorem hw1_unit (p1 p2 p3 p4 p5 : Int32) (ad : Nat → Nat) : h_w l method_3_code 0 11 (fun ls => ls.size = 8 ∧ ∀ (i : Nat) (v : Value), (q_en (h_as [.int p1, .int p2, .int p3, .int p4, .int p5] 69))[i]? = some (some v) → ls[i]? = some (.val (q_v az ad v))) [] ((h_st [.int p1, .int p2, .int p3, .int p4, .int p5] 69).map (q_v az ad)) := by
  intro p e R s m args below meth c H locs cells slots Q ls hx hb hwf hok k
  exact lv_aload hx hb hd_unit_0 (hok.2 6 (.ref 69) rfl) (lv_iconst hx hb hd_unit_2 rfl (lv_aload_n hx hb hd_unit_3 rfl (hok.2 0 (.ref 0) rfl) (lv_iload_n hx hb hd_unit_4 rfl (hok.2 1 (.int p1) rfl) (lv_iload_n hx hb hd_unit_5 rfl (hok.2 2 (.int p2) rfl) (lv_iload_n hx hb hd_unit_6 rfl (hok.2 3 (.int p3) rfl) (lv_iload hx hb hd_unit_7 (hok.2 4 (.int p4) rfl) (lv_iload hx hb hd_unit_9 (hok.2 5 (.int p5) rfl) (k ls rfl hwf))))))))
theorem hw2_unit (x : Int32) (a : Nat) : h_w l method_3_code (11 + 3) 15 (fun _ => True) [.int x, .int 0, .ref a] [.long x.toInt64, .int 0, .ref a] := by
  intro p e R s m args below meth c H locs cells slots Q ls hx hb hwf hok k
  exact lv_i2l hx hb hd_unit_14 rfl (k ls rfl hwf)
theorem hw3_unit : h_w l method_3_code (15 + 1) 28 (fun _ => True) [] [.int 0] := by
  intro p e R s m args below meth c H locs cells slots Q ls hx hb hwf hok k
  exact lv_goto hx hb hd_unit_16 (tgt := 27) rfl (lv_iconst hx hb hd_unit_27 rfl (k ls rfl hwf))
theorem hw4_unit_1 (a : Nat) : h_w l method_3_code 19 22 (fun ls => ls.size = 8) [.ref a] [.int 1] := by
  intro p e R s m args below meth c H locs cells slots Q ls hx hb hwf hok k
  exact lv_astore hx hb hd_unit_19 (lv := []) ⟨hok, hwf, fun q hq => by cases hq⟩ (by decide) rfl (fun ls2 h2 => lv_iconst hx hb hd_unit_21 rfl (k ls2 (h2.1.trans hok.symm) h2.2.1))
theorem hw4_unit_2 (a : Nat) : h_w l method_3_code 23 26 (fun ls => ls.size = 8) [.ref a] [.int 2] := by
  intro p e R s m args below meth c H locs cells slots Q ls hx hb hwf hok k
  exact lv_astore hx hb hd_unit_23 (lv := []) ⟨hok, hwf, fun q hq => by cases hq⟩ (by decide) rfl (fun ls2 h2 => lv_iconst hx hb hd_unit_25 rfl (k ls2 (h2.1.trans hok.symm) h2.2.1))
theorem JN_unit (xs : List Int32) (hf : q_fr (GG xs) D dA az ML p R s m args meth c A) (hTS : n_TS A s s.heap) {N0 : Nat} {ad0 : Nat → Nat} {n0 s0 : Int} {ls : List (Option Value)} (p1 p2 p3 p4 p5 : Int32) {H H1 : q_H} {x : Int32} (hcall : q_CallI (GG xs) PP 1 [.ref 0, .int p1, .int p2, .int p3, .int p4, .int p5] H (fun y H2 => y = x ∧ H2 = H1)) (h0 : H.1[0]? = some (.inl 0)) (hout : H.1[69]? = some (.inr (1, 1))) (hsh : H1.1 = H.1) (h : q_J l (GG xs) D dA az ML p e R s m args below meth c A Q N0 ad0 n0 s0 179 ls [.int 0] (H1.1, H1.2.1, q_up H1.2.2.1 69 0 x.toInt64, H1.2.2.2)) : q_J l (GG xs) D dA az ML p e R s m args below meth c A Q N0 ad0 n0 s0 176 ls [.ref 69, .int p5, .int p4, .int p3, .int p2, .int p1, .ref 0] H := by
  have hW : ∀ w ∈ LW, w ∈ q_ws ML := fun w h => List.mem_cons_of_mem _ h
  have hR1 : 10 ≤ R.frames := hf.2.2.2.2.2.2.2.2.2.2.1
  have hR2 : 388 ≤ R.locals := hf.2.2.2.2.2.2.2.2.2.2.2
  have hc2 : q_Call (GG xs) PP 1 [.ref 0, .int p1, .int p2, .int p3, .int p4, .int p5] H (fun v H2 => v = some (.int x) ∧ H2 = H1) := q_Call.imp hcall (fun v H2 hv => by
    match v, hv with
    | some (.int y), hv => exact ⟨by rw [hv.1], hv.2⟩)
  have hwf : q_wfh H → q_wfh (H1.1, H1.2.1, q_up H1.2.2.1 69 0 x.toInt64, H1.2.2.2) := fun wf => by
    obtain ⟨v, H2, ⟨-, e2⟩, -, w2⟩ := q_Call_wf hc2 wf (fun i hi => by
      simp at hi
      subst hi
      exact (List.getElem?_eq_some_iff.mp h0).1)
    subst e2
    exact w2
  refine n_help (as := h_as [.int p1, .int p2, .int p3, .int p4, .int p5] 69) (x := 0) (mc := 0) (ms := 0) (nq := 7) (GG_ok xs) hf hTS (fun wf ad sz => h_norm xs rfl (M := MH_unit) rfl (oh_unit xs) (ints := [.int p1, .int p2, .int p3, .int p4, .int p5]) (out := 69) rfl (fun i hi => by simp at hi) (Nat.le_of_ble_eq_true rfl) hd_unit_11 (hw1_unit p1 p2 p3 p4 p5) (r := .int x) (xv := x.toInt64) (fun i hi => by cases hi) hc2 rfl h0 hout hsh (hw2_unit x) (fun ad => rfl) hd_unit_15 hw3_unit hd_unit_28 wf ad sz) (LW_good hW (hW _ nw_526)) rfl rfl (hW _ nw_0) (hW _ nw_524) (hW _ nw_525) ⟨by decide, by decide, by decide +kernel⟩ rfl ⟨by show 8 + 1 ≤ _; omega, by show 8 + (8 + 11) + 300 ≤ _; omega⟩ (q_dec (omML xs) tML_176 rfl) hsh hwf ?_
  rw [show n0 - ((0 : Nat) : Int) = n0 by simp, show s0 - ((0 : Nat) : Int) = s0 by simp]
  exact h
theorem hx_1_37 : decode (q_code (PP 1)) 37 = .ok (.new 53, 3) := by decide +kernel
theorem hx_1_40 : decode (q_code (PP 1)) 40 = .ok (.dup, 1) := by decide +kernel
theorem hx_1_41 : decode (q_code (PP 1)) 41 = .ok (.invokespecial 55, 3) := by decide +kernel
theorem hx_1_44 : decode (q_code (PP 1)) 44 = .ok (.athrow, 1) := by decide +kernel
theorem JT_unit_1 (xs : List Int32) (hf : q_fr (GG xs) D dA az ML p R s m args meth c A) (hTS : n_TS A s s.heap) {N0 : Nat} {ad0 : Nat → Nat} {n0 s0 : Int} {ls : List (Option Value)} (p1 p2 p3 p4 p5 : Int32) (htr : l.stackTraces = false) {H : q_H} (hrun : t_run xs 1 [.ref 0, .int p1, .int p2, .int p3, .int p4, .int p5] H 37) (h0 : H.1[0]? = some (.inl 0)) (hout : H.1[69]? = some (.inr (1, 1))) (h : q_J l (GG xs) D dA az ML p e R s m args below meth c A Q N0 ad0 (n0 - 1) (s0 - 6) 179 ls [.int 1] H) : q_J l (GG xs) D dA az ML p e R s m args below meth c A Q N0 ad0 n0 s0 176 ls [.ref 69, .int p5, .int p4, .int p3, .int p2, .int p1, .ref 0] H := by
  have hW : ∀ w ∈ LW, w ∈ q_ws ML := fun w h => List.mem_cons_of_mem _ h
  have hR1 : 10 ≤ R.frames := hf.2.2.2.2.2.2.2.2.2.2.1
  have hR2 : 388 ≤ R.locals := hf.2.2.2.2.2.2.2.2.2.2.2
  obtain ⟨n, z, hr, z0, z1, z2⟩ := hrun
  refine n_help (as := h_as [.int p1, .int p2, .int p3, .int p4, .int p5] 69) (x := 1) (mc := 1) (ms := 6) (nq := 7) (GG_ok xs) hf hTS (fun wf ad sz => h_thr xs htr rfl (M := MH_unit) rfl (oh_unit xs) nw_529 (ints := [.int p1, .int p2, .int p3, .int p4, .int p5]) (out := 69) rfl (fun i hi => by simp at hi) (Nat.le_of_ble_eq_true rfl) hd_unit_11 (hw1_unit p1 p2 p3 p4 p5) (Nat.le_of_ble_eq_true rfl) hr z1 z2 rfl h0 hout (Nat.le_of_ble_eq_true rfl) (Nat.le_of_ble_eq_true rfl) (Nat.le_of_ble_eq_true rfl) (E := n_IA) (ik := 53) (ic := 55) (by decide) (List.mem_cons_of_mem _ nw_536) (List.mem_cons_of_mem _ nw_13) (fun a ha => (h_atIA a ha).imp (fun q => ⟨List.mem_cons_of_mem _ q.1, q.2⟩) id) (by rw [z0]; exact hx_1_37) (by rw [z0]; exact hx_1_40) (by rw [z0]; exact hx_1_41) (by rw [z0]; exact hx_1_44) (by decide) (pre := []) (rest := [(0, 16, 23, 15)]) (q := (0, 16, 19, 13)) rfl (by decide) (by decide) (by decide) nw_527 (fun r hr => by cases hr) (hw4_unit_1) hd_unit_22 wf ad sz) (LW_good hW (hW _ nw_526)) rfl rfl (hW _ nw_0) (hW _ nw_524) (hW _ nw_525) ⟨by decide, by decide, by decide +kernel⟩ rfl ⟨by show 8 + 1 ≤ _; omega, by show 8 + (8 + 11) + 300 ≤ _; omega⟩ (q_dec (omML xs) tML_176 rfl) rfl id h
theorem hx_1_56 : decode (q_code (PP 1)) 56 = .ok (.new 60, 3) := by decide +kernel
theorem hx_1_59 : decode (q_code (PP 1)) 59 = .ok (.dup, 1) := by decide +kernel
theorem hx_1_60 : decode (q_code (PP 1)) 60 = .ok (.invokespecial 62, 3) := by decide +kernel
theorem hx_1_63 : decode (q_code (PP 1)) 63 = .ok (.athrow, 1) := by decide +kernel
theorem JT_unit_2 (xs : List Int32) (hf : q_fr (GG xs) D dA az ML p R s m args meth c A) (hTS : n_TS A s s.heap) {N0 : Nat} {ad0 : Nat → Nat} {n0 s0 : Int} {ls : List (Option Value)} (p1 p2 p3 p4 p5 : Int32) (htr : l.stackTraces = false) {H : q_H} (hrun : t_run xs 1 [.ref 0, .int p1, .int p2, .int p3, .int p4, .int p5] H 56) (h0 : H.1[0]? = some (.inl 0)) (hout : H.1[69]? = some (.inr (1, 1))) (h : q_J l (GG xs) D dA az ML p e R s m args below meth c A Q N0 ad0 (n0 - 1) (s0 - 6) 179 ls [.int 2] H) : q_J l (GG xs) D dA az ML p e R s m args below meth c A Q N0 ad0 n0 s0 176 ls [.ref 69, .int p5, .int p4, .int p3, .int p2, .int p1, .ref 0] H := by
  have hW : ∀ w ∈ LW, w ∈ q_ws ML := fun w h => List.mem_cons_of_mem _ h
  have hR1 : 10 ≤ R.frames := hf.2.2.2.2.2.2.2.2.2.2.1
  have hR2 : 388 ≤ R.locals := hf.2.2.2.2.2.2.2.2.2.2.2
  obtain ⟨n, z, hr, z0, z1, z2⟩ := hrun
  refine n_help (as := h_as [.int p1, .int p2, .int p3, .int p4, .int p5] 69) (x := 2) (mc := 1) (ms := 6) (nq := 7) (GG_ok xs) hf hTS (fun wf ad sz => h_thr xs htr rfl (M := MH_unit) rfl (oh_unit xs) nw_529 (ints := [.int p1, .int p2, .int p3, .int p4, .int p5]) (out := 69) rfl (fun i hi => by simp at hi) (Nat.le_of_ble_eq_true rfl) hd_unit_11 (hw1_unit p1 p2 p3 p4 p5) (Nat.le_of_ble_eq_true rfl) hr z1 z2 rfl h0 hout (Nat.le_of_ble_eq_true rfl) (Nat.le_of_ble_eq_true rfl) (Nat.le_of_ble_eq_true rfl) (E := n_IS) (ik := 60) (ic := 62) (by decide) (List.mem_cons_of_mem _ nw_599) (List.mem_cons_of_mem _ nw_14) (fun a ha => (h_atIS a ha).imp (fun q => ⟨List.mem_cons_of_mem _ q.1, q.2⟩) id) (by rw [z0]; exact hx_1_56) (by rw [z0]; exact hx_1_59) (by rw [z0]; exact hx_1_60) (by rw [z0]; exact hx_1_63) (by decide) (pre := [(0, 16, 19, 13)]) (rest := []) (q := (0, 16, 23, 15)) rfl (by decide) (by decide) (by decide) nw_528 (fun r hr => by
    rw [List.mem_singleton] at hr
    subst hr
    exact ⟨by decide, rfl, nw_527⟩) (hw4_unit_2) hd_unit_26 wf ad sz) (LW_good hW (hW _ nw_526)) rfl rfl (hW _ nw_0) (hW _ nw_524) (hW _ nw_525) ⟨by decide, by decide, by decide +kernel⟩ rfl ⟨by show 8 + 1 ≤ _; omega, by show 8 + (8 + 11) + 300 ≤ _; omega⟩ (q_dec (omML xs) tML_176 rfl) rfl id h
theorem hd_output_0 : decode method_4_code 0 = .ok (.aload_n 3, 1) := by decide +kernel
theorem hd_output_1 : decode method_4_code 1 = .ok (.iconst 0, 1) := by decide +kernel
theorem hd_output_2 : decode method_4_code 2 = .ok (.aload_n 0, 1) := by decide +kernel
theorem hd_output_3 : decode method_4_code 3 = .ok (.iload_n 1, 1) := by decide +kernel
theorem hd_output_4 : decode method_4_code 4 = .ok (.iload_n 2, 1) := by decide +kernel
theorem hd_output_5 : decode method_4_code 5 = .ok (.invokevirtual 17, 3) := by decide +kernel
theorem hd_output_8 : decode method_4_code 8 = .ok (.i2l, 1) := by decide +kernel
theorem hd_output_9 : decode method_4_code 9 = .ok (.lastore, 1) := by decide +kernel
theorem hd_output_10 : decode method_4_code 10 = .ok (.goto 7, 3) := by decide +kernel
theorem hd_output_13 : decode method_4_code 13 = .ok (.astore 4, 2) := by decide +kernel
theorem hd_output_15 : decode method_4_code 15 = .ok (.iconst 1, 1) := by decide +kernel
theorem hd_output_16 : decode method_4_code 16 = .ok (.ireturn, 1) := by decide +kernel
theorem hd_output_17 : decode method_4_code 17 = .ok (.iconst 0, 1) := by decide +kernel
theorem hd_output_18 : decode method_4_code 18 = .ok (.ireturn, 1) := by decide +kernel
theorem hw1_output (p1 p2 : Int32) (ad : Nat → Nat) : h_w l method_4_code 0 5 (fun ls => ls.size = 5 ∧ ∀ (i : Nat) (v : Value), (q_en (h_as [.int p1, .int p2] 69))[i]? = some (some v) → ls[i]? = some (.val (q_v az ad v))) [] ((h_st [.int p1, .int p2] 69).map (q_v az ad)) := by
  intro p e R s m args below meth c H locs cells slots Q ls hx hb hwf hok k
  exact lv_aload_n hx hb hd_output_0 rfl (hok.2 3 (.ref 69) rfl) (lv_iconst hx hb hd_output_1 rfl (lv_aload_n hx hb hd_output_2 rfl (hok.2 0 (.ref 0) rfl) (lv_iload_n hx hb hd_output_3 rfl (hok.2 1 (.int p1) rfl) (lv_iload_n hx hb hd_output_4 rfl (hok.2 2 (.int p2) rfl) (k ls rfl hwf)))))
theorem hw2_output (x : Int32) (a : Nat) : h_w l method_4_code (5 + 3) 9 (fun _ => True) [.int x, .int 0, .ref a] [.long x.toInt64, .int 0, .ref a] := by
  intro p e R s m args below meth c H locs cells slots Q ls hx hb hwf hok k
  exact lv_i2l hx hb hd_output_8 rfl (k ls rfl hwf)
theorem hw3_output : h_w l method_4_code (9 + 1) 18 (fun _ => True) [] [.int 0] := by
  intro p e R s m args below meth c H locs cells slots Q ls hx hb hwf hok k
  exact lv_goto hx hb hd_output_10 (tgt := 17) rfl (lv_iconst hx hb hd_output_17 rfl (k ls rfl hwf))
theorem hw4_output_1 (a : Nat) : h_w l method_4_code 13 16 (fun ls => ls.size = 5) [.ref a] [.int 1] := by
  intro p e R s m args below meth c H locs cells slots Q ls hx hb hwf hok k
  exact lv_astore hx hb hd_output_13 (lv := []) ⟨hok, hwf, fun q hq => by cases hq⟩ (by decide) rfl (fun ls2 h2 => lv_iconst hx hb hd_output_15 rfl (k ls2 (h2.1.trans hok.symm) h2.2.1))
theorem JN_output (xs : List Int32) (hf : q_fr (GG xs) D dA az ML p R s m args meth c A) (hTS : n_TS A s s.heap) {N0 : Nat} {ad0 : Nat → Nat} {n0 s0 : Int} {ls : List (Option Value)} (p1 p2 : Int32) {H H1 : q_H} {x : Int32} (hcall : q_CallI (GG xs) PP 8 [.ref 0, .int p1, .int p2] H (fun y H2 => y = x ∧ H2 = H1)) (h0 : H.1[0]? = some (.inl 0)) (hout : H.1[69]? = some (.inr (1, 1))) (hsh : H1.1 = H.1) (h : q_J l (GG xs) D dA az ML p e R s m args below meth c A Q N0 ad0 n0 s0 523 ls [.int 0] (H1.1, H1.2.1, q_up H1.2.2.1 69 0 x.toInt64, H1.2.2.2)) : q_J l (GG xs) D dA az ML p e R s m args below meth c A Q N0 ad0 n0 s0 520 ls [.ref 69, .int p2, .int p1, .ref 0] H := by
  have hW : ∀ w ∈ LW, w ∈ q_ws ML := fun w h => List.mem_cons_of_mem _ h
  have hR1 : 10 ≤ R.frames := hf.2.2.2.2.2.2.2.2.2.2.1
  have hR2 : 388 ≤ R.locals := hf.2.2.2.2.2.2.2.2.2.2.2
  have hc2 : q_Call (GG xs) PP 8 [.ref 0, .int p1, .int p2] H (fun v H2 => v = some (.int x) ∧ H2 = H1) := q_Call.imp hcall (fun v H2 hv => by
    match v, hv with
    | some (.int y), hv => exact ⟨by rw [hv.1], hv.2⟩)
  have hwf : q_wfh H → q_wfh (H1.1, H1.2.1, q_up H1.2.2.1 69 0 x.toInt64, H1.2.2.2) := fun wf => by
    obtain ⟨v, H2, ⟨-, e2⟩, -, w2⟩ := q_Call_wf hc2 wf (fun i hi => by
      simp at hi
      subst hi
      exact (List.getElem?_eq_some_iff.mp h0).1)
    subst e2
    exact w2
  refine n_help (as := h_as [.int p1, .int p2] 69) (x := 0) (mc := 0) (ms := 0) (nq := 4) (GG_ok xs) hf hTS (fun wf ad sz => h_norm xs rfl (M := MH_output) rfl (oh_output xs) (ints := [.int p1, .int p2]) (out := 69) rfl (fun i hi => by simp at hi) (Nat.le_of_ble_eq_true rfl) hd_output_5 (hw1_output p1 p2) (r := .int x) (xv := x.toInt64) (fun i hi => by cases hi) hc2 rfl h0 hout hsh (hw2_output x) (fun ad => rfl) hd_output_9 hw3_output hd_output_18 wf ad sz) (LW_good hW (hW _ nw_620)) rfl rfl (hW _ nw_0) (hW _ nw_618) (hW _ nw_619) ⟨by decide, by decide, by decide +kernel⟩ rfl ⟨by show 8 + 1 ≤ _; omega, by show 8 + (5 + 11) + 300 ≤ _; omega⟩ (q_dec (omML xs) tML_520 rfl) hsh hwf ?_
  rw [show n0 - ((0 : Nat) : Int) = n0 by simp, show s0 - ((0 : Nat) : Int) = s0 by simp]
  exact h
theorem hx_8_12 : decode (q_code (PP 8)) 12 = .ok (.new 116, 3) := by decide +kernel
theorem hx_8_15 : decode (q_code (PP 8)) 15 = .ok (.dup, 1) := by decide +kernel
theorem hx_8_16 : decode (q_code (PP 8)) 16 = .ok (.invokespecial 118, 3) := by decide +kernel
theorem hx_8_19 : decode (q_code (PP 8)) 19 = .ok (.athrow, 1) := by decide +kernel
theorem JT_output_1 (xs : List Int32) (hf : q_fr (GG xs) D dA az ML p R s m args meth c A) (hTS : n_TS A s s.heap) {N0 : Nat} {ad0 : Nat → Nat} {n0 s0 : Int} {ls : List (Option Value)} (p1 p2 : Int32) (htr : l.stackTraces = false) {H : q_H} (hrun : t_run xs 8 [.ref 0, .int p1, .int p2] H 12) (h0 : H.1[0]? = some (.inl 0)) (hout : H.1[69]? = some (.inr (1, 1))) (h : q_J l (GG xs) D dA az ML p e R s m args below meth c A Q N0 ad0 (n0 - 1) (s0 - 6) 523 ls [.int 1] H) : q_J l (GG xs) D dA az ML p e R s m args below meth c A Q N0 ad0 n0 s0 520 ls [.ref 69, .int p2, .int p1, .ref 0] H := by
  have hW : ∀ w ∈ LW, w ∈ q_ws ML := fun w h => List.mem_cons_of_mem _ h
  have hR1 : 10 ≤ R.frames := hf.2.2.2.2.2.2.2.2.2.2.1
  have hR2 : 388 ≤ R.locals := hf.2.2.2.2.2.2.2.2.2.2.2
  obtain ⟨n, z, hr, z0, z1, z2⟩ := hrun
  refine n_help (as := h_as [.int p1, .int p2] 69) (x := 1) (mc := 1) (ms := 6) (nq := 4) (GG_ok xs) hf hTS (fun wf ad sz => h_thr xs htr rfl (M := MH_output) rfl (oh_output xs) nw_622 (ints := [.int p1, .int p2]) (out := 69) rfl (fun i hi => by simp at hi) (Nat.le_of_ble_eq_true rfl) hd_output_5 (hw1_output p1 p2) (Nat.le_of_ble_eq_true rfl) hr z1 z2 rfl h0 hout (Nat.le_of_ble_eq_true rfl) (Nat.le_of_ble_eq_true rfl) (Nat.le_of_ble_eq_true rfl) (E := n_IO) (ik := 116) (ic := 118) (by decide) (List.mem_cons_of_mem _ nw_626) (List.mem_cons_of_mem _ nw_16) (fun a ha => (h_atIO a ha).imp (fun q => ⟨List.mem_cons_of_mem _ q.1, q.2⟩) id) (by rw [z0]; exact hx_8_12) (by rw [z0]; exact hx_8_15) (by rw [z0]; exact hx_8_16) (by rw [z0]; exact hx_8_19) (by decide) (pre := []) (rest := []) (q := (0, 10, 13, 21)) rfl (by decide) (by decide) (by decide) nw_621 (fun r hr => by cases hr) (hw4_output_1) hd_output_16 wf ad sz) (LW_good hW (hW _ nw_620)) rfl rfl (hW _ nw_0) (hW _ nw_618) (hW _ nw_619) ⟨by decide, by decide, by decide +kernel⟩ rfl ⟨by show 8 + 1 ≤ _; omega, by show 8 + (5 + 11) + 300 ≤ _; omega⟩ (q_dec (omML xs) tML_520 rfl) rfl id h
theorem hd_cost_0 : decode method_5_code 0 = .ok (.aload_n 2, 1) := by decide +kernel
theorem hd_cost_1 : decode method_5_code 1 = .ok (.iconst 0, 1) := by decide +kernel
theorem hd_cost_2 : decode method_5_code 2 = .ok (.aload_n 0, 1) := by decide +kernel
theorem hd_cost_3 : decode method_5_code 3 = .ok (.iload_n 1, 1) := by decide +kernel
theorem hd_cost_4 : decode method_5_code 4 = .ok (.invokevirtual 23, 3) := by decide +kernel
theorem hd_cost_7 : decode method_5_code 7 = .ok (.i2l, 1) := by decide +kernel
theorem hd_cost_8 : decode method_5_code 8 = .ok (.lastore, 1) := by decide +kernel
theorem hd_cost_9 : decode method_5_code 9 = .ok (.goto 9, 3) := by decide +kernel
theorem hd_cost_12 : decode method_5_code 12 = .ok (.astore_n 3, 1) := by decide +kernel
theorem hd_cost_13 : decode method_5_code 13 = .ok (.iconst 1, 1) := by decide +kernel
theorem hd_cost_14 : decode method_5_code 14 = .ok (.ireturn, 1) := by decide +kernel
theorem hd_cost_15 : decode method_5_code 15 = .ok (.astore_n 3, 1) := by decide +kernel
theorem hd_cost_16 : decode method_5_code 16 = .ok (.iconst 2, 1) := by decide +kernel
theorem hd_cost_17 : decode method_5_code 17 = .ok (.ireturn, 1) := by decide +kernel
theorem hd_cost_18 : decode method_5_code 18 = .ok (.iconst 0, 1) := by decide +kernel
theorem hd_cost_19 : decode method_5_code 19 = .ok (.ireturn, 1) := by decide +kernel
theorem hw1_cost (p1 : Int32) (ad : Nat → Nat) : h_w l method_5_code 0 4 (fun ls => ls.size = 4 ∧ ∀ (i : Nat) (v : Value), (q_en (h_as [.int p1] 69))[i]? = some (some v) → ls[i]? = some (.val (q_v az ad v))) [] ((h_st [.int p1] 69).map (q_v az ad)) := by
  intro p e R s m args below meth c H locs cells slots Q ls hx hb hwf hok k
  exact lv_aload_n hx hb hd_cost_0 rfl (hok.2 2 (.ref 69) rfl) (lv_iconst hx hb hd_cost_1 rfl (lv_aload_n hx hb hd_cost_2 rfl (hok.2 0 (.ref 0) rfl) (lv_iload_n hx hb hd_cost_3 rfl (hok.2 1 (.int p1) rfl) (k ls rfl hwf))))
theorem hw2_cost (x : Int32) (a : Nat) : h_w l method_5_code (4 + 3) 8 (fun _ => True) [.int x, .int 0, .ref a] [.long x.toInt64, .int 0, .ref a] := by
  intro p e R s m args below meth c H locs cells slots Q ls hx hb hwf hok k
  exact lv_i2l hx hb hd_cost_7 rfl (k ls rfl hwf)
theorem hw3_cost : h_w l method_5_code (8 + 1) 19 (fun _ => True) [] [.int 0] := by
  intro p e R s m args below meth c H locs cells slots Q ls hx hb hwf hok k
  exact lv_goto hx hb hd_cost_9 (tgt := 18) rfl (lv_iconst hx hb hd_cost_18 rfl (k ls rfl hwf))
theorem hw4_cost_1 (a : Nat) : h_w l method_5_code 12 14 (fun ls => ls.size = 4) [.ref a] [.int 1] := by
  intro p e R s m args below meth c H locs cells slots Q ls hx hb hwf hok k
  exact lv_astore_n hx hb hd_cost_12 rfl (lv := []) ⟨hok, hwf, fun q hq => by cases hq⟩ (by decide) rfl (fun ls2 h2 => lv_iconst hx hb hd_cost_13 rfl (k ls2 (h2.1.trans hok.symm) h2.2.1))
theorem hw4_cost_2 (a : Nat) : h_w l method_5_code 15 17 (fun ls => ls.size = 4) [.ref a] [.int 2] := by
  intro p e R s m args below meth c H locs cells slots Q ls hx hb hwf hok k
  exact lv_astore_n hx hb hd_cost_15 rfl (lv := []) ⟨hok, hwf, fun q hq => by cases hq⟩ (by decide) rfl (fun ls2 h2 => lv_iconst hx hb hd_cost_16 rfl (k ls2 (h2.1.trans hok.symm) h2.2.1))
theorem JN_cost (xs : List Int32) (hf : q_fr (GG xs) D dA az ML p R s m args meth c A) (hTS : n_TS A s s.heap) {N0 : Nat} {ad0 : Nat → Nat} {n0 s0 : Int} {ls : List (Option Value)} (p1 : Int32) {H H1 : q_H} {x : Int32} (hcall : q_CallI (GG xs) PP 11 [.ref 0, .int p1] H (fun y H2 => y = x ∧ H2 = H1)) (h0 : H.1[0]? = some (.inl 0)) (hout : H.1[69]? = some (.inr (1, 1))) (hsh : H1.1 = H.1) (h : q_J l (GG xs) D dA az ML p e R s m args below meth c A Q N0 ad0 n0 s0 647 ls [.int 0] (H1.1, H1.2.1, q_up H1.2.2.1 69 0 x.toInt64, H1.2.2.2)) : q_J l (GG xs) D dA az ML p e R s m args below meth c A Q N0 ad0 n0 s0 644 ls [.ref 69, .int p1, .ref 0] H := by
  have hW : ∀ w ∈ LW, w ∈ q_ws ML := fun w h => List.mem_cons_of_mem _ h
  have hR1 : 10 ≤ R.frames := hf.2.2.2.2.2.2.2.2.2.2.1
  have hR2 : 388 ≤ R.locals := hf.2.2.2.2.2.2.2.2.2.2.2
  have hc2 : q_Call (GG xs) PP 11 [.ref 0, .int p1] H (fun v H2 => v = some (.int x) ∧ H2 = H1) := q_Call.imp hcall (fun v H2 hv => by
    match v, hv with
    | some (.int y), hv => exact ⟨by rw [hv.1], hv.2⟩)
  have hwf : q_wfh H → q_wfh (H1.1, H1.2.1, q_up H1.2.2.1 69 0 x.toInt64, H1.2.2.2) := fun wf => by
    obtain ⟨v, H2, ⟨-, e2⟩, -, w2⟩ := q_Call_wf hc2 wf (fun i hi => by
      simp at hi
      subst hi
      exact (List.getElem?_eq_some_iff.mp h0).1)
    subst e2
    exact w2
  refine n_help (as := h_as [.int p1] 69) (x := 0) (mc := 0) (ms := 0) (nq := 3) (GG_ok xs) hf hTS (fun wf ad sz => h_norm xs rfl (M := MH_cost) rfl (oh_cost xs) (ints := [.int p1]) (out := 69) rfl (fun i hi => by simp at hi) (Nat.le_of_ble_eq_true rfl) hd_cost_4 (hw1_cost p1) (r := .int x) (xv := x.toInt64) (fun i hi => by cases hi) hc2 rfl h0 hout hsh (hw2_cost x) (fun ad => rfl) hd_cost_8 hw3_cost hd_cost_19 wf ad sz) (LW_good hW (hW _ nw_643)) rfl rfl (hW _ nw_0) (hW _ nw_641) (hW _ nw_642) ⟨by decide, by decide, by decide +kernel⟩ rfl ⟨by show 8 + 1 ≤ _; omega, by show 8 + (4 + 11) + 300 ≤ _; omega⟩ (q_dec (omML xs) tML_644 rfl) hsh hwf ?_
  rw [show n0 - ((0 : Nat) : Int) = n0 by simp, show s0 - ((0 : Nat) : Int) = s0 by simp]
  exact h
theorem hx_11_9 : decode (q_code (PP 11)) 9 = .ok (.new 53, 3) := by decide +kernel
theorem hx_11_12 : decode (q_code (PP 11)) 12 = .ok (.dup, 1) := by decide +kernel
theorem hx_11_13 : decode (q_code (PP 11)) 13 = .ok (.invokespecial 55, 3) := by decide +kernel
theorem hx_11_16 : decode (q_code (PP 11)) 16 = .ok (.athrow, 1) := by decide +kernel
theorem JT_cost_1 (xs : List Int32) (hf : q_fr (GG xs) D dA az ML p R s m args meth c A) (hTS : n_TS A s s.heap) {N0 : Nat} {ad0 : Nat → Nat} {n0 s0 : Int} {ls : List (Option Value)} (p1 : Int32) (htr : l.stackTraces = false) {H : q_H} (hrun : t_run xs 11 [.ref 0, .int p1] H 9) (h0 : H.1[0]? = some (.inl 0)) (hout : H.1[69]? = some (.inr (1, 1))) (h : q_J l (GG xs) D dA az ML p e R s m args below meth c A Q N0 ad0 (n0 - 1) (s0 - 6) 647 ls [.int 1] H) : q_J l (GG xs) D dA az ML p e R s m args below meth c A Q N0 ad0 n0 s0 644 ls [.ref 69, .int p1, .ref 0] H := by
  have hW : ∀ w ∈ LW, w ∈ q_ws ML := fun w h => List.mem_cons_of_mem _ h
  have hR1 : 10 ≤ R.frames := hf.2.2.2.2.2.2.2.2.2.2.1
  have hR2 : 388 ≤ R.locals := hf.2.2.2.2.2.2.2.2.2.2.2
  obtain ⟨n, z, hr, z0, z1, z2⟩ := hrun
  refine n_help (as := h_as [.int p1] 69) (x := 1) (mc := 1) (ms := 6) (nq := 3) (GG_ok xs) hf hTS (fun wf ad sz => h_thr xs htr rfl (M := MH_cost) rfl (oh_cost xs) nw_644 (ints := [.int p1]) (out := 69) rfl (fun i hi => by simp at hi) (Nat.le_of_ble_eq_true rfl) hd_cost_4 (hw1_cost p1) (Nat.le_of_ble_eq_true rfl) hr z1 z2 rfl h0 hout (Nat.le_of_ble_eq_true rfl) (Nat.le_of_ble_eq_true rfl) (Nat.le_of_ble_eq_true rfl) (E := n_IA) (ik := 53) (ic := 55) (by decide) (List.mem_cons_of_mem _ nw_536) (List.mem_cons_of_mem _ nw_13) (fun a ha => (h_atIA a ha).imp (fun q => ⟨List.mem_cons_of_mem _ q.1, q.2⟩) id) (by rw [z0]; exact hx_11_9) (by rw [z0]; exact hx_11_12) (by rw [z0]; exact hx_11_13) (by rw [z0]; exact hx_11_16) (by decide) (pre := []) (rest := [(0, 9, 15, 15)]) (q := (0, 9, 12, 13)) rfl (by decide) (by decide) (by decide) nw_527 (fun r hr => by cases hr) (hw4_cost_1) hd_cost_14 wf ad sz) (LW_good hW (hW _ nw_643)) rfl rfl (hW _ nw_0) (hW _ nw_641) (hW _ nw_642) ⟨by decide, by decide, by decide +kernel⟩ rfl ⟨by show 8 + 1 ≤ _; omega, by show 8 + (4 + 11) + 300 ≤ _; omega⟩ (q_dec (omML xs) tML_644 rfl) rfl id h
theorem hx_11_31 : decode (q_code (PP 11)) 31 = .ok (.new 60, 3) := by decide +kernel
theorem hx_11_34 : decode (q_code (PP 11)) 34 = .ok (.dup, 1) := by decide +kernel
theorem hx_11_35 : decode (q_code (PP 11)) 35 = .ok (.invokespecial 62, 3) := by decide +kernel
theorem hx_11_38 : decode (q_code (PP 11)) 38 = .ok (.athrow, 1) := by decide +kernel
theorem JT_cost_2 (xs : List Int32) (hf : q_fr (GG xs) D dA az ML p R s m args meth c A) (hTS : n_TS A s s.heap) {N0 : Nat} {ad0 : Nat → Nat} {n0 s0 : Int} {ls : List (Option Value)} (p1 : Int32) (htr : l.stackTraces = false) {H : q_H} (hrun : t_run xs 11 [.ref 0, .int p1] H 31) (h0 : H.1[0]? = some (.inl 0)) (hout : H.1[69]? = some (.inr (1, 1))) (h : q_J l (GG xs) D dA az ML p e R s m args below meth c A Q N0 ad0 (n0 - 1) (s0 - 6) 647 ls [.int 2] H) : q_J l (GG xs) D dA az ML p e R s m args below meth c A Q N0 ad0 n0 s0 644 ls [.ref 69, .int p1, .ref 0] H := by
  have hW : ∀ w ∈ LW, w ∈ q_ws ML := fun w h => List.mem_cons_of_mem _ h
  have hR1 : 10 ≤ R.frames := hf.2.2.2.2.2.2.2.2.2.2.1
  have hR2 : 388 ≤ R.locals := hf.2.2.2.2.2.2.2.2.2.2.2
  obtain ⟨n, z, hr, z0, z1, z2⟩ := hrun
  refine n_help (as := h_as [.int p1] 69) (x := 2) (mc := 1) (ms := 6) (nq := 3) (GG_ok xs) hf hTS (fun wf ad sz => h_thr xs htr rfl (M := MH_cost) rfl (oh_cost xs) nw_644 (ints := [.int p1]) (out := 69) rfl (fun i hi => by simp at hi) (Nat.le_of_ble_eq_true rfl) hd_cost_4 (hw1_cost p1) (Nat.le_of_ble_eq_true rfl) hr z1 z2 rfl h0 hout (Nat.le_of_ble_eq_true rfl) (Nat.le_of_ble_eq_true rfl) (Nat.le_of_ble_eq_true rfl) (E := n_IS) (ik := 60) (ic := 62) (by decide) (List.mem_cons_of_mem _ nw_599) (List.mem_cons_of_mem _ nw_14) (fun a ha => (h_atIS a ha).imp (fun q => ⟨List.mem_cons_of_mem _ q.1, q.2⟩) id) (by rw [z0]; exact hx_11_31) (by rw [z0]; exact hx_11_34) (by rw [z0]; exact hx_11_35) (by rw [z0]; exact hx_11_38) (by decide) (pre := [(0, 9, 12, 13)]) (rest := []) (q := (0, 9, 15, 15)) rfl (by decide) (by decide) (by decide) nw_528 (fun r hr => by
    rw [List.mem_singleton] at hr
    subst hr
    exact ⟨by decide, rfl, nw_527⟩) (hw4_cost_2) hd_cost_17 wf ad sz) (LW_good hW (hW _ nw_643)) rfl rfl (hW _ nw_0) (hW _ nw_641) (hW _ nw_642) ⟨by decide, by decide, by decide +kernel⟩ rfl ⟨by show 8 + 1 ≤ _; omega, by show 8 + (4 + 11) + 300 ≤ _; omega⟩ (q_dec (omML xs) tML_644 rfl) rfl id h
theorem hd_priceOf_0 : decode method_6_code 0 = .ok (.aload_n 2, 1) := by decide +kernel
theorem hd_priceOf_1 : decode method_6_code 1 = .ok (.iconst 0, 1) := by decide +kernel
theorem hd_priceOf_2 : decode method_6_code 2 = .ok (.aload_n 0, 1) := by decide +kernel
theorem hd_priceOf_3 : decode method_6_code 3 = .ok (.iload_n 1, 1) := by decide +kernel
theorem hd_priceOf_4 : decode method_6_code 4 = .ok (.invokevirtual 27, 3) := by decide +kernel
theorem hd_priceOf_7 : decode method_6_code 7 = .ok (.i2l, 1) := by decide +kernel
theorem hd_priceOf_8 : decode method_6_code 8 = .ok (.lastore, 1) := by decide +kernel
theorem hd_priceOf_9 : decode method_6_code 9 = .ok (.goto 6, 3) := by decide +kernel
theorem hd_priceOf_12 : decode method_6_code 12 = .ok (.astore_n 3, 1) := by decide +kernel
theorem hd_priceOf_13 : decode method_6_code 13 = .ok (.iconst 1, 1) := by decide +kernel
theorem hd_priceOf_14 : decode method_6_code 14 = .ok (.ireturn, 1) := by decide +kernel
theorem hd_priceOf_15 : decode method_6_code 15 = .ok (.iconst 0, 1) := by decide +kernel
theorem hd_priceOf_16 : decode method_6_code 16 = .ok (.ireturn, 1) := by decide +kernel
theorem hw1_priceOf (p1 : Int32) (ad : Nat → Nat) : h_w l method_6_code 0 4 (fun ls => ls.size = 4 ∧ ∀ (i : Nat) (v : Value), (q_en (h_as [.int p1] 69))[i]? = some (some v) → ls[i]? = some (.val (q_v az ad v))) [] ((h_st [.int p1] 69).map (q_v az ad)) := by
  intro p e R s m args below meth c H locs cells slots Q ls hx hb hwf hok k
  exact lv_aload_n hx hb hd_priceOf_0 rfl (hok.2 2 (.ref 69) rfl) (lv_iconst hx hb hd_priceOf_1 rfl (lv_aload_n hx hb hd_priceOf_2 rfl (hok.2 0 (.ref 0) rfl) (lv_iload_n hx hb hd_priceOf_3 rfl (hok.2 1 (.int p1) rfl) (k ls rfl hwf))))
theorem hw2_priceOf (x : Int32) (a : Nat) : h_w l method_6_code (4 + 3) 8 (fun _ => True) [.int x, .int 0, .ref a] [.long x.toInt64, .int 0, .ref a] := by
  intro p e R s m args below meth c H locs cells slots Q ls hx hb hwf hok k
  exact lv_i2l hx hb hd_priceOf_7 rfl (k ls rfl hwf)
theorem hw3_priceOf : h_w l method_6_code (8 + 1) 16 (fun _ => True) [] [.int 0] := by
  intro p e R s m args below meth c H locs cells slots Q ls hx hb hwf hok k
  exact lv_goto hx hb hd_priceOf_9 (tgt := 15) rfl (lv_iconst hx hb hd_priceOf_15 rfl (k ls rfl hwf))
theorem hw4_priceOf_1 (a : Nat) : h_w l method_6_code 12 14 (fun ls => ls.size = 4) [.ref a] [.int 1] := by
  intro p e R s m args below meth c H locs cells slots Q ls hx hb hwf hok k
  exact lv_astore_n hx hb hd_priceOf_12 rfl (lv := []) ⟨hok, hwf, fun q hq => by cases hq⟩ (by decide) rfl (fun ls2 h2 => lv_iconst hx hb hd_priceOf_13 rfl (k ls2 (h2.1.trans hok.symm) h2.2.1))
theorem JN_priceOf (xs : List Int32) (hf : q_fr (GG xs) D dA az ML p R s m args meth c A) (hTS : n_TS A s s.heap) {N0 : Nat} {ad0 : Nat → Nat} {n0 s0 : Int} {ls : List (Option Value)} (p1 : Int32) {H H1 : q_H} {x : Int32} (hcall : q_CallI (GG xs) PP 13 [.ref 0, .int p1] H (fun y H2 => y = x ∧ H2 = H1)) (h0 : H.1[0]? = some (.inl 0)) (hout : H.1[69]? = some (.inr (1, 1))) (hsh : H1.1 = H.1) (h : q_J l (GG xs) D dA az ML p e R s m args below meth c A Q N0 ad0 n0 s0 740 ls [.int 0] (H1.1, H1.2.1, q_up H1.2.2.1 69 0 x.toInt64, H1.2.2.2)) : q_J l (GG xs) D dA az ML p e R s m args below meth c A Q N0 ad0 n0 s0 737 ls [.ref 69, .int p1, .ref 0] H := by
  have hW : ∀ w ∈ LW, w ∈ q_ws ML := fun w h => List.mem_cons_of_mem _ h
  have hR1 : 10 ≤ R.frames := hf.2.2.2.2.2.2.2.2.2.2.1
  have hR2 : 388 ≤ R.locals := hf.2.2.2.2.2.2.2.2.2.2.2
  have hc2 : q_Call (GG xs) PP 13 [.ref 0, .int p1] H (fun v H2 => v = some (.int x) ∧ H2 = H1) := q_Call.imp hcall (fun v H2 hv => by
    match v, hv with
    | some (.int y), hv => exact ⟨by rw [hv.1], hv.2⟩)
  have hwf : q_wfh H → q_wfh (H1.1, H1.2.1, q_up H1.2.2.1 69 0 x.toInt64, H1.2.2.2) := fun wf => by
    obtain ⟨v, H2, ⟨-, e2⟩, -, w2⟩ := q_Call_wf hc2 wf (fun i hi => by
      simp at hi
      subst hi
      exact (List.getElem?_eq_some_iff.mp h0).1)
    subst e2
    exact w2
  refine n_help (as := h_as [.int p1] 69) (x := 0) (mc := 0) (ms := 0) (nq := 3) (GG_ok xs) hf hTS (fun wf ad sz => h_norm xs rfl (M := MH_priceOf) rfl (oh_priceOf xs) (ints := [.int p1]) (out := 69) rfl (fun i hi => by simp at hi) (Nat.le_of_ble_eq_true rfl) hd_priceOf_4 (hw1_priceOf p1) (r := .int x) (xv := x.toInt64) (fun i hi => by cases hi) hc2 rfl h0 hout hsh (hw2_priceOf x) (fun ad => rfl) hd_priceOf_8 hw3_priceOf hd_priceOf_16 wf ad sz) (LW_good hW (hW _ nw_670)) rfl rfl (hW _ nw_0) (hW _ nw_668) (hW _ nw_669) ⟨by decide, by decide, by decide +kernel⟩ rfl ⟨by show 8 + 1 ≤ _; omega, by show 8 + (4 + 11) + 300 ≤ _; omega⟩ (q_dec (omML xs) tML_737 rfl) hsh hwf ?_
  rw [show n0 - ((0 : Nat) : Int) = n0 by simp, show s0 - ((0 : Nat) : Int) = s0 by simp]
  exact h
theorem hx_13_11 : decode (q_code (PP 13)) 11 = .ok (.new 116, 3) := by decide +kernel
theorem hx_13_14 : decode (q_code (PP 13)) 14 = .ok (.dup, 1) := by decide +kernel
theorem hx_13_15 : decode (q_code (PP 13)) 15 = .ok (.invokespecial 118, 3) := by decide +kernel
theorem hx_13_18 : decode (q_code (PP 13)) 18 = .ok (.athrow, 1) := by decide +kernel
theorem JT_priceOf_1 (xs : List Int32) (hf : q_fr (GG xs) D dA az ML p R s m args meth c A) (hTS : n_TS A s s.heap) {N0 : Nat} {ad0 : Nat → Nat} {n0 s0 : Int} {ls : List (Option Value)} (p1 : Int32) (htr : l.stackTraces = false) {H : q_H} (hrun : t_run xs 13 [.ref 0, .int p1] H 11) (h0 : H.1[0]? = some (.inl 0)) (hout : H.1[69]? = some (.inr (1, 1))) (h : q_J l (GG xs) D dA az ML p e R s m args below meth c A Q N0 ad0 (n0 - 1) (s0 - 6) 740 ls [.int 1] H) : q_J l (GG xs) D dA az ML p e R s m args below meth c A Q N0 ad0 n0 s0 737 ls [.ref 69, .int p1, .ref 0] H := by
  have hW : ∀ w ∈ LW, w ∈ q_ws ML := fun w h => List.mem_cons_of_mem _ h
  have hR1 : 10 ≤ R.frames := hf.2.2.2.2.2.2.2.2.2.2.1
  have hR2 : 388 ≤ R.locals := hf.2.2.2.2.2.2.2.2.2.2.2
  obtain ⟨n, z, hr, z0, z1, z2⟩ := hrun
  refine n_help (as := h_as [.int p1] 69) (x := 1) (mc := 1) (ms := 6) (nq := 3) (GG_ok xs) hf hTS (fun wf ad sz => h_thr xs htr rfl (M := MH_priceOf) rfl (oh_priceOf xs) nw_671 (ints := [.int p1]) (out := 69) rfl (fun i hi => by simp at hi) (Nat.le_of_ble_eq_true rfl) hd_priceOf_4 (hw1_priceOf p1) (Nat.le_of_ble_eq_true rfl) hr z1 z2 rfl h0 hout (Nat.le_of_ble_eq_true rfl) (Nat.le_of_ble_eq_true rfl) (Nat.le_of_ble_eq_true rfl) (E := n_IO) (ik := 116) (ic := 118) (by decide) (List.mem_cons_of_mem _ nw_626) (List.mem_cons_of_mem _ nw_16) (fun a ha => (h_atIO a ha).imp (fun q => ⟨List.mem_cons_of_mem _ q.1, q.2⟩) id) (by rw [z0]; exact hx_13_11) (by rw [z0]; exact hx_13_14) (by rw [z0]; exact hx_13_15) (by rw [z0]; exact hx_13_18) (by decide) (pre := []) (rest := []) (q := (0, 9, 12, 21)) rfl (by decide) (by decide) (by decide) nw_621 (fun r hr => by cases hr) (hw4_priceOf_1) hd_priceOf_14 wf ad sz) (LW_good hW (hW _ nw_670)) rfl rfl (hW _ nw_0) (hW _ nw_668) (hW _ nw_669) ⟨by decide, by decide, by decide +kernel⟩ rfl ⟨by show 8 + 1 ≤ _; omega, by show 8 + (4 + 11) + 300 ≤ _; omega⟩ (q_dec (omML xs) tML_737 rfl) rfl id h
theorem hd_alone_0 : decode method_7_code 0 = .ok (.aload_n 2, 1) := by decide +kernel
theorem hd_alone_1 : decode method_7_code 1 = .ok (.iconst 0, 1) := by decide +kernel
theorem hd_alone_2 : decode method_7_code 2 = .ok (.aload_n 0, 1) := by decide +kernel
theorem hd_alone_3 : decode method_7_code 3 = .ok (.iload_n 1, 1) := by decide +kernel
theorem hd_alone_4 : decode method_7_code 4 = .ok (.invokevirtual 30, 3) := by decide +kernel
theorem hd_alone_7 : decode method_7_code 7 = .ok (.lastore, 1) := by decide +kernel
theorem hd_alone_8 : decode method_7_code 8 = .ok (.goto 6, 3) := by decide +kernel
theorem hd_alone_11 : decode method_7_code 11 = .ok (.astore_n 3, 1) := by decide +kernel
theorem hd_alone_12 : decode method_7_code 12 = .ok (.iconst 1, 1) := by decide +kernel
theorem hd_alone_13 : decode method_7_code 13 = .ok (.ireturn, 1) := by decide +kernel
theorem hd_alone_14 : decode method_7_code 14 = .ok (.iconst 0, 1) := by decide +kernel
theorem hd_alone_15 : decode method_7_code 15 = .ok (.ireturn, 1) := by decide +kernel
theorem hw1_alone (p1 : Int32) (ad : Nat → Nat) : h_w l method_7_code 0 4 (fun ls => ls.size = 4 ∧ ∀ (i : Nat) (v : Value), (q_en (h_as [.int p1] 69))[i]? = some (some v) → ls[i]? = some (.val (q_v az ad v))) [] ((h_st [.int p1] 69).map (q_v az ad)) := by
  intro p e R s m args below meth c H locs cells slots Q ls hx hb hwf hok k
  exact lv_aload_n hx hb hd_alone_0 rfl (hok.2 2 (.ref 69) rfl) (lv_iconst hx hb hd_alone_1 rfl (lv_aload_n hx hb hd_alone_2 rfl (hok.2 0 (.ref 0) rfl) (lv_iload_n hx hb hd_alone_3 rfl (hok.2 1 (.int p1) rfl) (k ls rfl hwf))))
theorem hw2_alone (x : Int64) (a : Nat) : h_w l method_7_code (4 + 3) 7 (fun _ => True) [.long x, .int 0, .ref a] [.long x, .int 0, .ref a] := by
  intro p e R s m args below meth c H locs cells slots Q ls hx hb hwf hok k
  exact k ls rfl hwf
theorem hw3_alone : h_w l method_7_code (7 + 1) 15 (fun _ => True) [] [.int 0] := by
  intro p e R s m args below meth c H locs cells slots Q ls hx hb hwf hok k
  exact lv_goto hx hb hd_alone_8 (tgt := 14) rfl (lv_iconst hx hb hd_alone_14 rfl (k ls rfl hwf))
theorem hw4_alone_1 (a : Nat) : h_w l method_7_code 11 13 (fun ls => ls.size = 4) [.ref a] [.int 1] := by
  intro p e R s m args below meth c H locs cells slots Q ls hx hb hwf hok k
  exact lv_astore_n hx hb hd_alone_11 rfl (lv := []) ⟨hok, hwf, fun q hq => by cases hq⟩ (by decide) rfl (fun ls2 h2 => lv_iconst hx hb hd_alone_12 rfl (k ls2 (h2.1.trans hok.symm) h2.2.1))
theorem JN_alone (xs : List Int32) (hf : q_fr (GG xs) D dA az ML p R s m args meth c A) (hTS : n_TS A s s.heap) {N0 : Nat} {ad0 : Nat → Nat} {n0 s0 : Int} {ls : List (Option Value)} (p1 : Int32) {H H1 : q_H} {x : Int64} (hcall : q_CallL (GG xs) PP 14 [.ref 0, .int p1] H (fun y H2 => y = x ∧ H2 = H1)) (h0 : H.1[0]? = some (.inl 0)) (hout : H.1[69]? = some (.inr (1, 1))) (hsh : H1.1 = H.1) (h : q_J l (GG xs) D dA az ML p e R s m args below meth c A Q N0 ad0 n0 s0 796 ls [.int 0] (H1.1, H1.2.1, q_up H1.2.2.1 69 0 x, H1.2.2.2)) : q_J l (GG xs) D dA az ML p e R s m args below meth c A Q N0 ad0 n0 s0 793 ls [.ref 69, .int p1, .ref 0] H := by
  have hW : ∀ w ∈ LW, w ∈ q_ws ML := fun w h => List.mem_cons_of_mem _ h
  have hR1 : 10 ≤ R.frames := hf.2.2.2.2.2.2.2.2.2.2.1
  have hR2 : 388 ≤ R.locals := hf.2.2.2.2.2.2.2.2.2.2.2
  have hc2 : q_Call (GG xs) PP 14 [.ref 0, .int p1] H (fun v H2 => v = some (.long x) ∧ H2 = H1) := q_Call.imp hcall (fun v H2 hv => by
    match v, hv with
    | some (.long y), hv => exact ⟨by rw [hv.1], hv.2⟩)
  have hwf : q_wfh H → q_wfh (H1.1, H1.2.1, q_up H1.2.2.1 69 0 x, H1.2.2.2) := fun wf => by
    obtain ⟨v, H2, ⟨-, e2⟩, -, w2⟩ := q_Call_wf hc2 wf (fun i hi => by
      simp at hi
      subst hi
      exact (List.getElem?_eq_some_iff.mp h0).1)
    subst e2
    exact w2
  refine n_help (as := h_as [.int p1] 69) (x := 0) (mc := 0) (ms := 0) (nq := 3) (GG_ok xs) hf hTS (fun wf ad sz => h_norm xs rfl (M := MH_alone) rfl (oh_alone xs) (ints := [.int p1]) (out := 69) rfl (fun i hi => by simp at hi) (Nat.le_of_ble_eq_true rfl) hd_alone_4 (hw1_alone p1) (r := .long x) (xv := x) (fun i hi => by cases hi) hc2 rfl h0 hout hsh (hw2_alone x) (fun ad => rfl) hd_alone_7 hw3_alone hd_alone_15 wf ad sz) (LW_good hW (hW _ nw_677)) rfl rfl (hW _ nw_0) (hW _ nw_675) (hW _ nw_676) ⟨by decide, by decide, by decide +kernel⟩ rfl ⟨by show 8 + 1 ≤ _; omega, by show 8 + (4 + 11) + 300 ≤ _; omega⟩ (q_dec (omML xs) tML_793 rfl) hsh hwf ?_
  rw [show n0 - ((0 : Nat) : Int) = n0 by simp, show s0 - ((0 : Nat) : Int) = s0 by simp]
  exact h
theorem hx_14_11 : decode (q_code (PP 14)) 11 = .ok (.new 116, 3) := by decide +kernel
theorem hx_14_14 : decode (q_code (PP 14)) 14 = .ok (.dup, 1) := by decide +kernel
theorem hx_14_15 : decode (q_code (PP 14)) 15 = .ok (.invokespecial 118, 3) := by decide +kernel
theorem hx_14_18 : decode (q_code (PP 14)) 18 = .ok (.athrow, 1) := by decide +kernel
theorem JT_alone_1 (xs : List Int32) (hf : q_fr (GG xs) D dA az ML p R s m args meth c A) (hTS : n_TS A s s.heap) {N0 : Nat} {ad0 : Nat → Nat} {n0 s0 : Int} {ls : List (Option Value)} (p1 : Int32) (htr : l.stackTraces = false) {H : q_H} (hrun : t_run xs 14 [.ref 0, .int p1] H 11) (h0 : H.1[0]? = some (.inl 0)) (hout : H.1[69]? = some (.inr (1, 1))) (h : q_J l (GG xs) D dA az ML p e R s m args below meth c A Q N0 ad0 (n0 - 1) (s0 - 6) 796 ls [.int 1] H) : q_J l (GG xs) D dA az ML p e R s m args below meth c A Q N0 ad0 n0 s0 793 ls [.ref 69, .int p1, .ref 0] H := by
  have hW : ∀ w ∈ LW, w ∈ q_ws ML := fun w h => List.mem_cons_of_mem _ h
  have hR1 : 10 ≤ R.frames := hf.2.2.2.2.2.2.2.2.2.2.1
  have hR2 : 388 ≤ R.locals := hf.2.2.2.2.2.2.2.2.2.2.2
  obtain ⟨n, z, hr, z0, z1, z2⟩ := hrun
  refine n_help (as := h_as [.int p1] 69) (x := 1) (mc := 1) (ms := 6) (nq := 3) (GG_ok xs) hf hTS (fun wf ad sz => h_thr xs htr rfl (M := MH_alone) rfl (oh_alone xs) nw_678 (ints := [.int p1]) (out := 69) rfl (fun i hi => by simp at hi) (Nat.le_of_ble_eq_true rfl) hd_alone_4 (hw1_alone p1) (Nat.le_of_ble_eq_true rfl) hr z1 z2 rfl h0 hout (Nat.le_of_ble_eq_true rfl) (Nat.le_of_ble_eq_true rfl) (Nat.le_of_ble_eq_true rfl) (E := n_IO) (ik := 116) (ic := 118) (by decide) (List.mem_cons_of_mem _ nw_626) (List.mem_cons_of_mem _ nw_16) (fun a ha => (h_atIO a ha).imp (fun q => ⟨List.mem_cons_of_mem _ q.1, q.2⟩) id) (by rw [z0]; exact hx_14_11) (by rw [z0]; exact hx_14_14) (by rw [z0]; exact hx_14_15) (by rw [z0]; exact hx_14_18) (by decide) (pre := []) (rest := []) (q := (0, 8, 11, 21)) rfl (by decide) (by decide) (by decide) nw_621 (fun r hr => by cases hr) (hw4_alone_1) hd_alone_13 wf ad sz) (LW_good hW (hW _ nw_677)) rfl rfl (hW _ nw_0) (hW _ nw_675) (hW _ nw_676) ⟨by decide, by decide, by decide +kernel⟩ rfl ⟨by show 8 + 1 ≤ _; omega, by show 8 + (4 + 11) + 300 ≤ _; omega⟩ (q_dec (omML xs) tML_793 rfl) rfl id h
theorem hd_lone_0 : decode method_8_code 0 = .ok (.aload_n 3, 1) := by decide +kernel
theorem hd_lone_1 : decode method_8_code 1 = .ok (.iconst 0, 1) := by decide +kernel
theorem hd_lone_2 : decode method_8_code 2 = .ok (.aload_n 0, 1) := by decide +kernel
theorem hd_lone_3 : decode method_8_code 3 = .ok (.iload_n 1, 1) := by decide +kernel
theorem hd_lone_4 : decode method_8_code 4 = .ok (.iload_n 2, 1) := by decide +kernel
theorem hd_lone_5 : decode method_8_code 5 = .ok (.invokevirtual 34, 3) := by decide +kernel
theorem hd_lone_8 : decode method_8_code 8 = .ok (.i2l, 1) := by decide +kernel
theorem hd_lone_9 : decode method_8_code 9 = .ok (.lastore, 1) := by decide +kernel
theorem hd_lone_10 : decode method_8_code 10 = .ok (.goto 7, 3) := by decide +kernel
theorem hd_lone_13 : decode method_8_code 13 = .ok (.astore 4, 2) := by decide +kernel
theorem hd_lone_15 : decode method_8_code 15 = .ok (.iconst 1, 1) := by decide +kernel
theorem hd_lone_16 : decode method_8_code 16 = .ok (.ireturn, 1) := by decide +kernel
theorem hd_lone_17 : decode method_8_code 17 = .ok (.iconst 0, 1) := by decide +kernel
theorem hd_lone_18 : decode method_8_code 18 = .ok (.ireturn, 1) := by decide +kernel
theorem hw1_lone (p1 p2 : Int32) (ad : Nat → Nat) : h_w l method_8_code 0 5 (fun ls => ls.size = 5 ∧ ∀ (i : Nat) (v : Value), (q_en (h_as [.int p1, .int p2] 69))[i]? = some (some v) → ls[i]? = some (.val (q_v az ad v))) [] ((h_st [.int p1, .int p2] 69).map (q_v az ad)) := by
  intro p e R s m args below meth c H locs cells slots Q ls hx hb hwf hok k
  exact lv_aload_n hx hb hd_lone_0 rfl (hok.2 3 (.ref 69) rfl) (lv_iconst hx hb hd_lone_1 rfl (lv_aload_n hx hb hd_lone_2 rfl (hok.2 0 (.ref 0) rfl) (lv_iload_n hx hb hd_lone_3 rfl (hok.2 1 (.int p1) rfl) (lv_iload_n hx hb hd_lone_4 rfl (hok.2 2 (.int p2) rfl) (k ls rfl hwf)))))
theorem hw2_lone (x : Int32) (a : Nat) : h_w l method_8_code (5 + 3) 9 (fun _ => True) [.int x, .int 0, .ref a] [.long x.toInt64, .int 0, .ref a] := by
  intro p e R s m args below meth c H locs cells slots Q ls hx hb hwf hok k
  exact lv_i2l hx hb hd_lone_8 rfl (k ls rfl hwf)
theorem hw3_lone : h_w l method_8_code (9 + 1) 18 (fun _ => True) [] [.int 0] := by
  intro p e R s m args below meth c H locs cells slots Q ls hx hb hwf hok k
  exact lv_goto hx hb hd_lone_10 (tgt := 17) rfl (lv_iconst hx hb hd_lone_17 rfl (k ls rfl hwf))
theorem hw4_lone_1 (a : Nat) : h_w l method_8_code 13 16 (fun ls => ls.size = 5) [.ref a] [.int 1] := by
  intro p e R s m args below meth c H locs cells slots Q ls hx hb hwf hok k
  exact lv_astore hx hb hd_lone_13 (lv := []) ⟨hok, hwf, fun q hq => by cases hq⟩ (by decide) rfl (fun ls2 h2 => lv_iconst hx hb hd_lone_15 rfl (k ls2 (h2.1.trans hok.symm) h2.2.1))
theorem JN_lone (xs : List Int32) (hf : q_fr (GG xs) D dA az ML p R s m args meth c A) (hTS : n_TS A s s.heap) {N0 : Nat} {ad0 : Nat → Nat} {n0 s0 : Int} {ls : List (Option Value)} (p1 p2 : Int32) {H H1 : q_H} {x : Int32} (hcall : q_CallI (GG xs) PP 15 [.ref 0, .int p1, .int p2] H (fun y H2 => y = x ∧ H2 = H1)) (h0 : H.1[0]? = some (.inl 0)) (hout : H.1[69]? = some (.inr (1, 1))) (hsh : H1.1 = H.1) (h : q_J l (GG xs) D dA az ML p e R s m args below meth c A Q N0 ad0 n0 s0 857 ls [.int 0] (H1.1, H1.2.1, q_up H1.2.2.1 69 0 x.toInt64, H1.2.2.2)) : q_J l (GG xs) D dA az ML p e R s m args below meth c A Q N0 ad0 n0 s0 854 ls [.ref 69, .int p2, .int p1, .ref 0] H := by
  have hW : ∀ w ∈ LW, w ∈ q_ws ML := fun w h => List.mem_cons_of_mem _ h
  have hR1 : 10 ≤ R.frames := hf.2.2.2.2.2.2.2.2.2.2.1
  have hR2 : 388 ≤ R.locals := hf.2.2.2.2.2.2.2.2.2.2.2
  have hc2 : q_Call (GG xs) PP 15 [.ref 0, .int p1, .int p2] H (fun v H2 => v = some (.int x) ∧ H2 = H1) := q_Call.imp hcall (fun v H2 hv => by
    match v, hv with
    | some (.int y), hv => exact ⟨by rw [hv.1], hv.2⟩)
  have hwf : q_wfh H → q_wfh (H1.1, H1.2.1, q_up H1.2.2.1 69 0 x.toInt64, H1.2.2.2) := fun wf => by
    obtain ⟨v, H2, ⟨-, e2⟩, -, w2⟩ := q_Call_wf hc2 wf (fun i hi => by
      simp at hi
      subst hi
      exact (List.getElem?_eq_some_iff.mp h0).1)
    subst e2
    exact w2
  refine n_help (as := h_as [.int p1, .int p2] 69) (x := 0) (mc := 0) (ms := 0) (nq := 4) (GG_ok xs) hf hTS (fun wf ad sz => h_norm xs rfl (M := MH_lone) rfl (oh_lone xs) (ints := [.int p1, .int p2]) (out := 69) rfl (fun i hi => by simp at hi) (Nat.le_of_ble_eq_true rfl) hd_lone_5 (hw1_lone p1 p2) (r := .int x) (xv := x.toInt64) (fun i hi => by cases hi) hc2 rfl h0 hout hsh (hw2_lone x) (fun ad => rfl) hd_lone_9 hw3_lone hd_lone_18 wf ad sz) (LW_good hW (hW _ nw_684)) rfl rfl (hW _ nw_0) (hW _ nw_682) (hW _ nw_683) ⟨by decide, by decide, by decide +kernel⟩ rfl ⟨by show 8 + 1 ≤ _; omega, by show 8 + (5 + 11) + 300 ≤ _; omega⟩ (q_dec (omML xs) tML_854 rfl) hsh hwf ?_
  rw [show n0 - ((0 : Nat) : Int) = n0 by simp, show s0 - ((0 : Nat) : Int) = s0 by simp]
  exact h
theorem hx_15_12 : decode (q_code (PP 15)) 12 = .ok (.new 116, 3) := by decide +kernel
theorem hx_15_15 : decode (q_code (PP 15)) 15 = .ok (.dup, 1) := by decide +kernel
theorem hx_15_16 : decode (q_code (PP 15)) 16 = .ok (.invokespecial 118, 3) := by decide +kernel
theorem hx_15_19 : decode (q_code (PP 15)) 19 = .ok (.athrow, 1) := by decide +kernel
theorem JT_lone_1 (xs : List Int32) (hf : q_fr (GG xs) D dA az ML p R s m args meth c A) (hTS : n_TS A s s.heap) {N0 : Nat} {ad0 : Nat → Nat} {n0 s0 : Int} {ls : List (Option Value)} (p1 p2 : Int32) (htr : l.stackTraces = false) {H : q_H} (hrun : t_run xs 15 [.ref 0, .int p1, .int p2] H 12) (h0 : H.1[0]? = some (.inl 0)) (hout : H.1[69]? = some (.inr (1, 1))) (h : q_J l (GG xs) D dA az ML p e R s m args below meth c A Q N0 ad0 (n0 - 1) (s0 - 6) 857 ls [.int 1] H) : q_J l (GG xs) D dA az ML p e R s m args below meth c A Q N0 ad0 n0 s0 854 ls [.ref 69, .int p2, .int p1, .ref 0] H := by
  have hW : ∀ w ∈ LW, w ∈ q_ws ML := fun w h => List.mem_cons_of_mem _ h
  have hR1 : 10 ≤ R.frames := hf.2.2.2.2.2.2.2.2.2.2.1
  have hR2 : 388 ≤ R.locals := hf.2.2.2.2.2.2.2.2.2.2.2
  obtain ⟨n, z, hr, z0, z1, z2⟩ := hrun
  refine n_help (as := h_as [.int p1, .int p2] 69) (x := 1) (mc := 1) (ms := 6) (nq := 4) (GG_ok xs) hf hTS (fun wf ad sz => h_thr xs htr rfl (M := MH_lone) rfl (oh_lone xs) nw_685 (ints := [.int p1, .int p2]) (out := 69) rfl (fun i hi => by simp at hi) (Nat.le_of_ble_eq_true rfl) hd_lone_5 (hw1_lone p1 p2) (Nat.le_of_ble_eq_true rfl) hr z1 z2 rfl h0 hout (Nat.le_of_ble_eq_true rfl) (Nat.le_of_ble_eq_true rfl) (Nat.le_of_ble_eq_true rfl) (E := n_IO) (ik := 116) (ic := 118) (by decide) (List.mem_cons_of_mem _ nw_626) (List.mem_cons_of_mem _ nw_16) (fun a ha => (h_atIO a ha).imp (fun q => ⟨List.mem_cons_of_mem _ q.1, q.2⟩) id) (by rw [z0]; exact hx_15_12) (by rw [z0]; exact hx_15_15) (by rw [z0]; exact hx_15_16) (by rw [z0]; exact hx_15_19) (by decide) (pre := []) (rest := []) (q := (0, 10, 13, 21)) rfl (by decide) (by decide) (by decide) nw_621 (fun r hr => by cases hr) (hw4_lone_1) hd_lone_16 wf ad sz) (LW_good hW (hW _ nw_684)) rfl rfl (hW _ nw_0) (hW _ nw_682) (hW _ nw_683) ⟨by decide, by decide, by decide +kernel⟩ rfl ⟨by show 8 + 1 ≤ _; omega, by show 8 + (5 + 11) + 300 ≤ _; omega⟩ (q_dec (omML xs) tML_854 rfl) rfl id h
theorem hd_improve_0 : decode method_9_code 0 = .ok (.aload_n 2, 1) := by decide +kernel
theorem hd_improve_1 : decode method_9_code 1 = .ok (.iconst 0, 1) := by decide +kernel
theorem hd_improve_2 : decode method_9_code 2 = .ok (.aload_n 0, 1) := by decide +kernel
theorem hd_improve_3 : decode method_9_code 3 = .ok (.iload_n 1, 1) := by decide +kernel
theorem hd_improve_4 : decode method_9_code 4 = .ok (.invokevirtual 37, 3) := by decide +kernel
theorem hd_improve_7 : decode method_9_code 7 = .ok (.lastore, 1) := by decide +kernel
theorem hd_improve_8 : decode method_9_code 8 = .ok (.goto 6, 3) := by decide +kernel
theorem hd_improve_11 : decode method_9_code 11 = .ok (.astore_n 3, 1) := by decide +kernel
theorem hd_improve_12 : decode method_9_code 12 = .ok (.iconst 1, 1) := by decide +kernel
theorem hd_improve_13 : decode method_9_code 13 = .ok (.ireturn, 1) := by decide +kernel
theorem hd_improve_14 : decode method_9_code 14 = .ok (.iconst 0, 1) := by decide +kernel
theorem hd_improve_15 : decode method_9_code 15 = .ok (.ireturn, 1) := by decide +kernel
theorem hw1_improve (p1 : Int32) (ad : Nat → Nat) : h_w l method_9_code 0 4 (fun ls => ls.size = 4 ∧ ∀ (i : Nat) (v : Value), (q_en (h_as [.int p1] 69))[i]? = some (some v) → ls[i]? = some (.val (q_v az ad v))) [] ((h_st [.int p1] 69).map (q_v az ad)) := by
  intro p e R s m args below meth c H locs cells slots Q ls hx hb hwf hok k
  exact lv_aload_n hx hb hd_improve_0 rfl (hok.2 2 (.ref 69) rfl) (lv_iconst hx hb hd_improve_1 rfl (lv_aload_n hx hb hd_improve_2 rfl (hok.2 0 (.ref 0) rfl) (lv_iload_n hx hb hd_improve_3 rfl (hok.2 1 (.int p1) rfl) (k ls rfl hwf))))
theorem hw2_improve (x : Int64) (a : Nat) : h_w l method_9_code (4 + 3) 7 (fun _ => True) [.long x, .int 0, .ref a] [.long x, .int 0, .ref a] := by
  intro p e R s m args below meth c H locs cells slots Q ls hx hb hwf hok k
  exact k ls rfl hwf
theorem hw3_improve : h_w l method_9_code (7 + 1) 15 (fun _ => True) [] [.int 0] := by
  intro p e R s m args below meth c H locs cells slots Q ls hx hb hwf hok k
  exact lv_goto hx hb hd_improve_8 (tgt := 14) rfl (lv_iconst hx hb hd_improve_14 rfl (k ls rfl hwf))
theorem hw4_improve_1 (a : Nat) : h_w l method_9_code 11 13 (fun ls => ls.size = 4) [.ref a] [.int 1] := by
  intro p e R s m args below meth c H locs cells slots Q ls hx hb hwf hok k
  exact lv_astore_n hx hb hd_improve_11 rfl (lv := []) ⟨hok, hwf, fun q hq => by cases hq⟩ (by decide) rfl (fun ls2 h2 => lv_iconst hx hb hd_improve_12 rfl (k ls2 (h2.1.trans hok.symm) h2.2.1))
theorem JN_improve (xs : List Int32) (hf : q_fr (GG xs) D dA az ML p R s m args meth c A) (hTS : n_TS A s s.heap) {N0 : Nat} {ad0 : Nat → Nat} {n0 s0 : Int} {ls : List (Option Value)} (p1 : Int32) {H H1 : q_H} {x : Int64} (hcall : q_CallL (GG xs) PP 17 [.ref 0, .int p1] H (fun y H2 => y = x ∧ H2 = H1)) (h0 : H.1[0]? = some (.inl 0)) (hout : H.1[69]? = some (.inr (1, 1))) (hsh : H1.1 = H.1) (h : q_J l (GG xs) D dA az ML p e R s m args below meth c A Q N0 ad0 n0 s0 933 ls [.int 0] (H1.1, H1.2.1, q_up H1.2.2.1 69 0 x, H1.2.2.2)) : q_J l (GG xs) D dA az ML p e R s m args below meth c A Q N0 ad0 n0 s0 930 ls [.ref 69, .int p1, .ref 0] H := by
  have hW : ∀ w ∈ LW, w ∈ q_ws ML := fun w h => List.mem_cons_of_mem _ h
  have hR1 : 10 ≤ R.frames := hf.2.2.2.2.2.2.2.2.2.2.1
  have hR2 : 388 ≤ R.locals := hf.2.2.2.2.2.2.2.2.2.2.2
  have hc2 : q_Call (GG xs) PP 17 [.ref 0, .int p1] H (fun v H2 => v = some (.long x) ∧ H2 = H1) := q_Call.imp hcall (fun v H2 hv => by
    match v, hv with
    | some (.long y), hv => exact ⟨by rw [hv.1], hv.2⟩)
  have hwf : q_wfh H → q_wfh (H1.1, H1.2.1, q_up H1.2.2.1 69 0 x, H1.2.2.2) := fun wf => by
    obtain ⟨v, H2, ⟨-, e2⟩, -, w2⟩ := q_Call_wf hc2 wf (fun i hi => by
      simp at hi
      subst hi
      exact (List.getElem?_eq_some_iff.mp h0).1)
    subst e2
    exact w2
  refine n_help (as := h_as [.int p1] 69) (x := 0) (mc := 0) (ms := 0) (nq := 3) (GG_ok xs) hf hTS (fun wf ad sz => h_norm xs rfl (M := MH_improve) rfl (oh_improve xs) (ints := [.int p1]) (out := 69) rfl (fun i hi => by simp at hi) (Nat.le_of_ble_eq_true rfl) hd_improve_4 (hw1_improve p1) (r := .long x) (xv := x) (fun i hi => by cases hi) hc2 rfl h0 hout hsh (hw2_improve x) (fun ad => rfl) hd_improve_7 hw3_improve hd_improve_15 wf ad sz) (LW_good hW (hW _ nw_691)) rfl rfl (hW _ nw_0) (hW _ nw_689) (hW _ nw_690) ⟨by decide, by decide, by decide +kernel⟩ rfl ⟨by show 8 + 1 ≤ _; omega, by show 8 + (4 + 11) + 300 ≤ _; omega⟩ (q_dec (omML xs) tML_930 rfl) hsh hwf ?_
  rw [show n0 - ((0 : Nat) : Int) = n0 by simp, show s0 - ((0 : Nat) : Int) = s0 by simp]
  exact h
theorem hx_17_10 : decode (q_code (PP 17)) 10 = .ok (.new 53, 3) := by decide +kernel
theorem hx_17_13 : decode (q_code (PP 17)) 13 = .ok (.dup, 1) := by decide +kernel
theorem hx_17_14 : decode (q_code (PP 17)) 14 = .ok (.invokespecial 55, 3) := by decide +kernel
theorem hx_17_17 : decode (q_code (PP 17)) 17 = .ok (.athrow, 1) := by decide +kernel
theorem JT_improve_1 (xs : List Int32) (hf : q_fr (GG xs) D dA az ML p R s m args meth c A) (hTS : n_TS A s s.heap) {N0 : Nat} {ad0 : Nat → Nat} {n0 s0 : Int} {ls : List (Option Value)} (p1 : Int32) (htr : l.stackTraces = false) {H : q_H} (hrun : t_run xs 17 [.ref 0, .int p1] H 10) (h0 : H.1[0]? = some (.inl 0)) (hout : H.1[69]? = some (.inr (1, 1))) (h : q_J l (GG xs) D dA az ML p e R s m args below meth c A Q N0 ad0 (n0 - 1) (s0 - 6) 933 ls [.int 1] H) : q_J l (GG xs) D dA az ML p e R s m args below meth c A Q N0 ad0 n0 s0 930 ls [.ref 69, .int p1, .ref 0] H := by
  have hW : ∀ w ∈ LW, w ∈ q_ws ML := fun w h => List.mem_cons_of_mem _ h
  have hR1 : 10 ≤ R.frames := hf.2.2.2.2.2.2.2.2.2.2.1
  have hR2 : 388 ≤ R.locals := hf.2.2.2.2.2.2.2.2.2.2.2
  obtain ⟨n, z, hr, z0, z1, z2⟩ := hrun
  refine n_help (as := h_as [.int p1] 69) (x := 1) (mc := 1) (ms := 6) (nq := 3) (GG_ok xs) hf hTS (fun wf ad sz => h_thr xs htr rfl (M := MH_improve) rfl (oh_improve xs) nw_692 (ints := [.int p1]) (out := 69) rfl (fun i hi => by simp at hi) (Nat.le_of_ble_eq_true rfl) hd_improve_4 (hw1_improve p1) (Nat.le_of_ble_eq_true rfl) hr z1 z2 rfl h0 hout (Nat.le_of_ble_eq_true rfl) (Nat.le_of_ble_eq_true rfl) (Nat.le_of_ble_eq_true rfl) (E := n_IA) (ik := 53) (ic := 55) (by decide) (List.mem_cons_of_mem _ nw_536) (List.mem_cons_of_mem _ nw_13) (fun a ha => (h_atIA a ha).imp (fun q => ⟨List.mem_cons_of_mem _ q.1, q.2⟩) id) (by rw [z0]; exact hx_17_10) (by rw [z0]; exact hx_17_13) (by rw [z0]; exact hx_17_14) (by rw [z0]; exact hx_17_17) (by decide) (pre := []) (rest := []) (q := (0, 8, 11, 13)) rfl (by decide) (by decide) (by decide) nw_527 (fun r hr => by cases hr) (hw4_improve_1) hd_improve_13 wf ad sz) (LW_good hW (hW _ nw_691)) rfl rfl (hW _ nw_0) (hW _ nw_689) (hW _ nw_690) ⟨by decide, by decide, by decide +kernel⟩ rfl ⟨by show 8 + 1 ≤ _; omega, by show 8 + (4 + 11) + 300 ≤ _; omega⟩ (q_dec (omML xs) tML_930 rfl) rfl id h
end
