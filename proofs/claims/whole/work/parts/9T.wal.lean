/-! The Statement's machine goes along: what goes back along a step and along a call. -/
section
variable {l : Launch} {G : q_G} {P : Nat → q_M} {D : va_G} {dA : Nat → ClassId} {az : Nat → Nat} {M : q_M} {p : Program} {e : Env} {R : Room} {s : State} {m : MethodId} {args : Array Value} {below : List Frame} {meth : Method} {c : Code} {A : Nat → Prop} {Q : State → Prop}
def q_J (l : Launch) (G : q_G) (D : va_G) (dA : Nat → ClassId) (az : Nat → Nat) (M : q_M) (p : Program) (e : Env) (R : Room) (s : State) (m : MethodId) (args : Array Value) (below : List Frame) (meth : Method) (c : Code) (A : Nat → Prop) (Q : State → Prop) (N0 : Nat) (ad0 : Nat → Nat) (n0 s0 : Int) (pc : Nat) (ls : List (Option Value)) (st : List Value) (H : q_H) : Prop :=
  n0 ≤ ((H.1.length : Nat) : Int) → s0 ≤ ((q_sl G H.1 : Nat) : Int) → N0 ≤ H.1.length → q_ok4 ls st H → (((((H.1.length : Nat) : Int) - n0).toNat ≤ R.cells ∧ (((q_sl G H.1 : Nat) : Int) - s0).toNat ≤ R.slots) ∧ ∀ (ad : Nat → Nat) (Hp : Heap) (locs : List Loc) (lsA : Array Slot), (∀ i, i < N0 → ad i = ad0 i) → q_wd G D dA s A ad H Hp locs → q_L az ad lsA (q_nL M) ls → W p l e R s m args below meth c Hp locs ((((H.1.length : Nat) : Int) - n0).toNat) ((((q_sl G H.1 : Nat) : Int) - s0).toNat) Q (F0 m pc lsA (st.map (q_v az ad))))
theorem q_sl_le {H H' : q_H} (h : q_ext H H') : q_sl G H.1 ≤ q_sl G H'.1 := by
  obtain ⟨x, hx⟩ := h
  rw [hx, q_sl_app]
  omega
theorem y_C_W (hG : q_okG G) (hV : ∀ k, q_okM G P (P k)) (hM : q_okM G P M) (hf : q_fr G D dA az M p R s m args meth c A) (N0 : Nat) (ad0 : Nat → Nat) (n0 s0 : Int) : y_C G P M (q_J l G D dA az M p e R s m args below meth c A Q N0 ad0 n0 s0) := by
  refine ⟨fun pc ls st H ins len ks z ht hs hc h1 h hn hsl hN wf => ?_, fun pc ls st H ins len ks k' as r F ht hs hc h1 h hn hsl hN wf => ?_, fun pc ls st H ins len ks ht h hn hsl hN wf => ?_⟩
  · have wk : q_ok4 (q_kill ks ls) st H := ⟨wf.1, wf.2.1, wf.2.2.sub (fun i v hv => ⟨i, q_kill_sub _ hv⟩)⟩
    obtain ⟨x1, y1⟩ := q_s1_wf h1 wk
    have l1 := x1.le
    have s1 := q_sl_le (G := G) x1
    obtain ⟨b, k⟩ := h (by omega) (by omega) (by omega) y1
    refine ⟨by omega, fun ad Hp locs lsA had hw hl => ?_⟩
    exact q_s1_ok hG hM hf ht h1 wk hw (q_L_sub hl (fun i v hv => q_kill_sub _ hv)) hn hsl b.1 b.2 fun ad' Hp' locs' lsA' had' hw' hl' => k ad' Hp' locs' lsA' (fun i hi => (had' i (by omega)).trans (had i hi)) hw' hl'
  · obtain ⟨hle, n, z, hrun, v, hrv, hF⟩ := h1
    have wc := q_cal_wf hc wf.2.1
    obtain ⟨x1, y1, -⟩ := q_x_wf n k' 0 _ [] H z hrun ⟨wf.1, (fun i hi => by cases hi), q_wfl.en _ wc.1⟩
    have l1 := x1.le
    have s1 := q_sl_le (G := G) x1
    have w2 : q_ok4 (q_kill ks ls) (v.toList ++ r) z.2.2 := by
      refine ⟨y1, fun i hi => ?_, (wf.2.2.sub (fun i v hv => ⟨i, q_kill_sub _ hv⟩)).mono x1.le⟩
      rcases List.mem_append.mp hi with q | q
      · have := q_rv_wf hrv i
        cases v with
        | none => cases q
        | some u =>
          rw [Option.toList_some, List.mem_singleton] at q
          rw [← q] at this
          exact absurd rfl this
      · exact Nat.lt_of_lt_of_le (wc.2 i q) x1.le
    obtain ⟨b, k⟩ := h v z.2.2 hF (by omega) (by omega) (by omega) w2
    refine ⟨by omega, fun ad Hp locs lsA had hw hl => ?_⟩
    refine q_call_M hG hV (q_sound l hG hV n) hM.2.2.1 hf (fun n hn => q_dec hM ht hn) hc hle hrun hrv wf.1 wf.2.1 hw hl.1 hn hsl b.1 b.2 fun ad' Hp' locs' had' hw' => ?_
    exact k ad' Hp' locs' lsA (fun i hi => (had' i (by omega)).trans (had i hi)) hw' (q_L_ad had' (wf.2.2.sub (fun i v hv => ⟨i, q_kill_sub _ hv⟩)) (q_L_sub hl (fun i v hv => q_kill_sub _ hv)))
  · obtain ⟨b, k⟩ := h hn hsl hN ⟨wf.1, wf.2.1, wf.2.2.sub (fun i v hv => ⟨i, q_kill_sub _ hv⟩)⟩
    exact ⟨b, fun ad Hp locs lsA had hw hl => k ad Hp locs lsA had hw (q_L_sub hl (fun i v hv => q_kill_sub _ hv))⟩
end
