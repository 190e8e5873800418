/-! Methods told by a walk: cell, the constructor. -/
section
variable {l : Launch} {G : q_G} {P : Nat → q_M} {D : va_G} {dA : Nat → ClassId} {az : Nat → Nat} {M : q_M}
theorem met_J (hG : q_okG G) (hM : q_okM G P M) {as : List Value} {H H' : q_H} {v : Option Value} {pcR : Nat} {stR : List Value} {lsR : List (Option Value)} (hrv : q_rv M (pcR, stR, H') = some v) (hlen : (q_en as).length ≤ q_nL M) (wf : q_wfh H) (was : q_wfs H.1.length as) (hle : H.1.length ≤ H'.1.length) (hsl : q_sl G H.1 ≤ q_sl G H'.1) {X : State → Prop}
    (body : ∀ (p : Program) (e : Env) (R : Room) (s : State) (m : MethodId) (args : Array Value) (below : List Frame) (meth : Method) (c : Code) (A : Nat → Prop) (Q : State → Prop) (N0 : Nat) (ad0 : Nat → Nat), q_fr G D dA az M p R s m args meth c A → X s → q_J l G D dA az M p e R s m args below meth c A Q N0 ad0 (H.1.length : Nat) (q_sl G H.1 : Nat) pcR lsR stR H' → q_J l G D dA az M p e R s m args below meth c A Q N0 ad0 (H.1.length : Nat) (q_sl G H.1 : Nat) 0 (q_en as ++ List.replicate (q_nL M - (q_en as).length) none) [] H) (ad : Nat → Nat) (sz : Nat) :
    Met l (q_y M) (q_ws M) ({ frames := q_nf_ M, cells := H'.1.length - H.1.length, slots := q_sl G H'.1 - q_sl G H.1, locals := q_nl_ M }) (fun a U => q_Pc G D dA az ad H sz as a U ∧ X U) (q_Qc G D dA az ad H sz H' v) (H'.1.length - H.1.length) (q_sl G H'.1 - q_sl G H.1) (va_A (q_w G dA ad H) sz) := by
  obtain ⟨⟨hpl, ws', hws⟩, -⟩ := id hM
  refine Met.ofW (cc := q_code M) (maxL := q_nL M) (ret := q_rt M) hpl hws ?_
  intro p e s m args below meth c s₁ B hml hv
  obtain ⟨⟨rfl, hsz, hP, hK, hD0, hZ, hN⟩, hX⟩ := hv
  have hx := B.exec
  have hb := B.bytes
  have hr := B.returns
  have hts := atoms_spec (ws := q_ws M) B.pre
  have hown : s.vm.findClass (q_y M).cls = some m.cls := findClass_of_methodNamed B.named
  have hlocks := B.notSynchronized
  have hin : meth.name = (q_y M).name := (name_of_methodNamed B.named B.method).1
  subst hsz
  have hD := hD0.self (sz := s.heap.size)
  rw [lg_entry_eq]
  have hfr : q_fr G D dA az M p ({ frames := q_nf_ M, cells := H'.1.length - H.1.length, slots := q_sl G H'.1 - q_sl G H.1, locals := q_nl_ M } : Room) s m (as.map (q_v az ad)).toArray meth c (va_A (q_w G dA ad H) s.heap.size) := ⟨hx, hb, hml, hown, hts, hin, hK, fun q h => Or.inr h, hZ, hN, Nat.le_refl _, Nat.le_refl _⟩
  have kJ := body p e _ s m _ below meth c _ (MQ below (q_Qc G D dA az ad H s.heap.size H' v) (as.map (q_v az ad)).toArray s (H'.1.length - H.1.length) (q_sl G H'.1 - q_sl G H.1) (va_A (q_w G dA ad H) s.heap.size)) H.1.length ad hfr hX ?_
  · obtain ⟨-, kk⟩ := kJ (Int.le_refl _) (Int.le_refl _) (Nat.le_refl _) ⟨wf, (fun i hi => by cases hi), q_wfl.en _ was⟩
    have key := kk ad s.heap [] _ (fun _ _ => rfl) ⟨hP, hD, va_S.rf⟩ (q_L_entry az ad hlen)
    simp only [Int.sub_self, Int.toNat_zero] at key
    exact key
  · intro w1 w2 w3 w4
    clear w1 w2 w3 w4
    have c1 : (((H'.1.length : Nat) : Int) - ((H.1.length : Nat) : Int)).toNat = H'.1.length - H.1.length := by omega
    have c2 : (((q_sl G H'.1 : Nat) : Int) - ((q_sl G H.1 : Nat) : Int)).toNat = q_sl G H'.1 - q_sl G H.1 := by omega
    rw [c1, c2]
    refine ⟨⟨Nat.le_refl _, Nat.le_refl _⟩, fun ad' Hp' locs' lsA' had hw' hl' => ?_⟩
    have hq : ∀ t : State, t.heap = Hp' → s.WarmedH t.vm → q_Qc G D dA az ad H s.heap.size H' v (as.map (q_v az ad)).toArray s (.returned (v.map (q_v az ad'))) t := fun t ht _ => ⟨ad', had, rfl, by rw [ht]; exact hw'.1, hw'.2.1, hw'.2.2.F ht⟩
    unfold q_rv at hrv
    dsimp only at hrv hq ⊢
    split at hrv
    · rename_i ht
      split at hrv
      · rename_i x hrt
        cases hrv
        exact W.zret hx hb (hr.trans hrt) rfl hq hw'.2.2.2.2 (q_dec hM ht rfl)
      · rename_i x hrt
        split at hrv
        · rename_i hnar
          cases hrv
          exact W.zret hx hb (hr.trans hrt) (congrArg Value.int hnar) hq hw'.2.2.2.2 (q_dec hM ht rfl)
        · cases hrv
      · cases hrv
    · rename_i ht
      split at hrv
      · rename_i x hrt
        cases hrv
        exact W.lret hx hb (hr.trans hrt) hq hw'.2.2.2.2 (q_dec hM ht rfl)
      · cases hrv
    · rename_i ht
      split at hrv
      · rename_i hrt
        cases hrv
        exact W.vret hx hb (hr.trans hrt) hq hw'.2.2.2.2 (q_dec hM ht rfl)
      · cases hrv
    · cases hrv
end
/-- what cell answers for the first place -/
def cel (xs : List Int32) : Int32 := xs.getD 0 0
section
variable {l : Launch} {D : va_G} {dA : Nat → ClassId} {az : Nat → Nat} {p : Program} {e : Env} {R : Room} {s : State} {m : MethodId} {args : Array Value} {below : List Frame} {meth : Method} {c : Code} {A : Nat → Prop} {Q : State → Prop}
theorem cell_met (xs : List Int32) (hL : xs.length < 2147483648) {H : q_H} (wf : q_wfh H) (ad : Nat → Nat) (sz : Nat) :
    Met l (q_y MC) (q_ws MC) ({ frames := q_nf_ MC, cells := H.1.length - H.1.length, slots := q_sl (GG xs) H.1 - q_sl (GG xs) H.1, locals := q_nl_ MC }) (fun a U => q_Pc (GG xs) D dA az ad H sz [.retAddr 1, .int 0] a U ∧ True) (q_Qc (GG xs) D dA az ad H sz H (some (.int (cel xs)))) (H.1.length - H.1.length) (q_sl (GG xs) H.1 - q_sl (GG xs) H.1) (va_A (q_w (GG xs) dA ad H) sz) :=
  met_J (GG_ok xs) (omMC xs) (pcR := 13) (stR := [.int (cel xs)]) (lsR := [none, none]) rfl (Nat.le_of_ble_eq_true rfl) wf (fun i hi => by simp at hi) (Nat.le_refl _) (Nat.le_refl _) (fun p e R s m args below meth c A Q N0 ad0 hf _ h => by
    refine y_cell xs (y_C_W (GG_ok xs) (PP_ok xs) (omMC xs) hf N0 ad0 _ _) 0 H ⟨fun q => ?_, fun q => ?_⟩
    · have : cel xs = 0 := by
        unfold cel
        cases xs with
        | nil => rfl
        | cons a t =>
          exfalso
          have h1 : ((a :: t).length : Int) ≤ 0 := by
            have e0 : (Int32.ofNat (a :: t).length) = zi (((a :: t).length : Nat) : Int) := (Int32.ofInt_eq_ofNat).symm
            rw [e0, show (0 : Int32) = zi 0 from rfl, zi_le (by omega) (by omega) (by omega) (by omega)] at q
            exact q
          simp at h1
          omega
      rw [this] at h
      exact h
    · cases xs with
      | nil => exact absurd (by decide) q
      | cons a t => exact ⟨0, by simp [q_ix], h⟩) ad sz
/-- the law calls cell -/
theorem n_cell (xs : List Int32) (hL : xs.length < 2147483648) (hf : q_fr (GG xs) D dA az ML p R s m args meth c A) {N0 : Nat} {ad0 : Nat → Nat} {n0 s0 : Int} {pc : Nat} {ls : List (Option Value)} {st : List Value} {H : q_H} (hdec : decode (q_code ML) pc = .ok (.invokestatic 40, 3)) (hcat : q_cat st ≤ 8)
    (h : q_J l (GG xs) D dA az ML p e R s m args below meth c A Q N0 ad0 n0 s0 (pc + 3) ls (.int (cel xs) :: st) H) : q_J l (GG xs) D dA az ML p e R s m args below meth c A Q N0 ad0 n0 s0 pc ls (.int 0 :: .retAddr 1 :: st) H := by
  obtain ⟨hx, hb, hml, hown, hts, hnm, hK, hA, hZ, hN, hR1, hR2⟩ := id hf
  have hW : ∀ w ∈ LW, w ∈ q_ws ML := fun w h => List.mem_cons_of_mem _ h
  have hR1' : 10 ≤ R.frames := hR1
  have hR2' : 388 ≤ R.locals := hR2
  refine J_run (r := st) (v := some (.int (cel xs))) (mc := H.1.length - H.1.length) (ms := q_sl (GG xs) H.1 - q_sl (GG xs) H.1) (a := fun ad => (([.retAddr 1, .int 0] : List Value).map (q_v az ad)).toArray) hA (Nat.le_refl _) (fun hn => ⟨hn, by omega⟩) (fun hn => ⟨hn, by omega⟩) (fun w i hi => w i (List.mem_cons_of_mem _ (List.mem_cons_of_mem _ hi))) (fun wf => ⟨wf.1, fun i hi => ?_, wf.2.2⟩) (fun wf hfit ad Hp locs lsA hw hls => ?_) h
  · rcases List.mem_cons.mp hi with q | q
    · cases q
    · exact wf.2.1 i (List.mem_cons_of_mem _ (List.mem_cons_of_mem _ q))
  · exact va_runS ⟨hx, hb, hml, hown, hts⟩ (cell_met xs hL wf.1 ad Hp.size) ⟨callB_of 2 hts (LW_good hW (hW _ nw_523)) rfl rfl rfl (hts _ (hW _ nw_0)) (hts _ (hW _ nw_521)) ⟨by decide, by decide, by decide +kernel⟩ ⟨by show 0 + 1 ≤ _; omega, by show 8 + (2 + 11) + 0 ≤ _; omega⟩, hts _ (hW _ nw_522)⟩ ⟨fun a U g mk q => ⟨q_Pc_blind (GG_ok xs) a U g mk q.1, trivial⟩, fun U hU hV => ⟨q_Pc_of (GG_ok xs) hf hw [.retAddr 1, .int 0] U hU hV, trivial⟩⟩ rfl rfl hls rfl (lv_room (by rw [q_cat_map]; exact hcat)) hdec hfit
end
