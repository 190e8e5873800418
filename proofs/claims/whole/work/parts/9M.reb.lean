/-! A walk's base moved up to where it stands. -/
def n_reb (s T : State) : State := ({ s with heap := T.heap, slotsUsed := T.slotsUsed } : State).setVm T.vm
def n_rm (R : Room) (cells slots : Nat) : Room := { R with cells := R.cells - cells, slots := R.slots - slots }
section
variable {p : Program} {l : Launch} {e : Env} {R : Room} {s : State} {m : MethodId} {args : Array Value} {below : List Frame} {meth : Method} {c : Code} {T : State} {locs : List Loc} {cells slots : Nat}
theorem n_rebase (X : Stand p l e R s m args below meth c T locs cells slots) (hc : cells ≤ R.cells) (hs : slots ≤ R.slots) : Stand p l e (n_rm R cells slots) (n_reb s T) m args below meth c T [] 0 0 := by
  have hal := X.warmed.alike
  have hm : ∀ k, (n_reb s T).vm.method? k = s.vm.method? k := fun k => hal.method? k
  have hrm := X.room
  have hfr : (n_reb s T).frames = .invoking m args :: below := X.frames
  refine ⟨X.admits, X.cas, X.clock, hfr, ?_, ?_, X.method', X.code, X.here, X.tail, State.WarmedH.refl (n_reb s T), X.limits, X.bytes, ?_⟩
  · have h1 := X.heapSize
    have h2 := X.used
    have h3 := X.book
    have e1 : (n_reb s T).localsInUse = s.localsInUse := by
      rw [State.localsInUse_invoking hfr X.method' X.code, State.localsInUse_invoking X.frames X.method X.code]
    simp only [State.hasRoom, Bool.and_eq_true, decide_eq_true_eq] at hrm ⊢
    obtain ⟨⟨⟨⟨a1, a2⟩, a3⟩, a4⟩, a5⟩ := hrm
    refine ⟨⟨⟨⟨?_, ?_⟩, ?_⟩, ?_⟩, h3⟩
    · rw [e1]; exact a1
    · rw [e1]; exact a2
    · show T.heap.size + (R.cells - cells) ≤ _
      omega
    · show T.slotsUsed + (R.slots - slots) ≤ _
      omega
  · have hh := X.hears
    unfold State.hears at hh ⊢
    split at hh
    · rename_i g rest
      rw [State.code?_eq] at hh ⊢
      rw [hm]
      exact hh
    · exact hh
    · exact hh
    · rw [hm]
      exact hh
  · have h0 := X.same.1
    refine ⟨?_, Nat.le_refl _, Nat.le_refl _, ?_, ?_, fun a c h => ⟨c, h, rfl, rfl, fun _ _ => rfl⟩⟩
    · have : T = ({ T.setVm s.vm with vm := T.vm } : State) := rfl
      show T.setVm T.vm = _
      rw [show T.setVm T.vm = (T.setVm s.vm).setVm T.vm from rfl, h0]
      rfl
    · show T.slotsUsed = T.slotsUsed + ((T.heap.toList.drop T.heap.size).map (·.slots.size)).sum
      rw [List.drop_eq_nil_of_le (by simp)]
      rfl
    · show ((T.heap.toList.drop T.heap.size).map (·.slots.size)).sum ≤ 0
      rw [List.drop_eq_nil_of_le (by simp)]
      exact Nat.le_refl _
end
