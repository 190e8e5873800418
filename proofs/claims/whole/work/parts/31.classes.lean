/-! The classes (laid by prog/gen.py). -/
def gT0 : u_T := fun k => match k with
  | 0 => ("CommitDesk", "station", "LCommitDesk$Station;", true)
  | 1 => ("CommitDesk", "planner", "LCommitDesk$Planner;", true)
  | 2 => ("CommitDesk", "market", "LCommitDesk$Market;", true)
  | 3 => ("CommitDesk", "table", "[I", true)
  | 4 => ("CommitDesk", "kept", "[[I", true)
  | _ => ("CommitDesk", "filled", "[Z", true)
def gty0 : Nat → FieldType := fun k => match k with
  | 0 => (.object "CommitDesk$Station")
  | 1 => (.object "CommitDesk$Planner")
  | 2 => (.object "CommitDesk$Market")
  | 3 => (.array .int)
  | 4 => (.array (.array .int))
  | _ => (.array .boolean)
theorem gnm0 : ∀ a, a < 6 → ∀ b, b < 6 → a ≠ b → (gT0 a).2.1 ≠ (gT0 b).2.1 := by decide +kernel
theorem gtyok0 : ∀ k, k < 6 → parseFieldDescriptor (gT0 k).2.2.1 = some (gty0 k) := by decide +kernel
theorem gkd0 : ∀ k, k < 6 → q_kd (gty0 k) < 3 := by decide +kernel
theorem guw0 : ∀ w ∈ u_ws "CommitDesk" gT0 6, w ∈ LW := by
  intro w hw
  simp only [u_ws, List.mem_map, List.mem_range] at hw
  obtain ⟨k, hk, rfl⟩ := hw
  match k, hk with
  | 0, _ => exact mw_237
  | 1, _ => exact mw_239
  | 2, _ => exact mw_241
  | 3, _ => exact mw_243
  | 4, _ => exact mw_245
  | 5, _ => exact mw_247
  | k + 6, h => exact absurd h (by omega)
def gT1 : u_T := fun k => match k with
  | 0 => ("CommitDesk$Front", "layer", "LCommitDesk$Layer;", true)
  | 1 => ("CommitDesk$Front", "codes", "[I", true)
  | 2 => ("CommitDesk$Front", "choices", "[I", true)
  | _ => ("CommitDesk$Front", "size", "I", false)
def gty1 : Nat → FieldType := fun k => match k with
  | 0 => (.object "CommitDesk$Layer")
  | 1 => (.array .int)
  | 2 => (.array .int)
  | _ => .int
theorem gnm1 : ∀ a, a < 4 → ∀ b, b < 4 → a ≠ b → (gT1 a).2.1 ≠ (gT1 b).2.1 := by decide +kernel
theorem gtyok1 : ∀ k, k < 4 → parseFieldDescriptor (gT1 k).2.2.1 = some (gty1 k) := by decide +kernel
theorem gkd1 : ∀ k, k < 4 → q_kd (gty1 k) < 3 := by decide +kernel
theorem guw1 : ∀ w ∈ u_ws "CommitDesk$Front" gT1 4, w ∈ LW := by
  intro w hw
  simp only [u_ws, List.mem_map, List.mem_range] at hw
  obtain ⟨k, hk, rfl⟩ := hw
  match k, hk with
  | 0, _ => exact mw_65
  | 1, _ => exact mw_67
  | 2, _ => exact mw_69
  | 3, _ => exact mw_71
  | k + 4, h => exact absurd h (by omega)
def gT2 : u_T := fun k => match k with
  | 0 => ("CommitDesk$Layer", "costs", "[J", true)
  | _ => ("CommitDesk$Layer", "ways", "[J", true)
def gty2 : Nat → FieldType := fun k => match k with
  | 0 => (.array .long)
  | _ => (.array .long)
theorem gnm2 : ∀ a, a < 2 → ∀ b, b < 2 → a ≠ b → (gT2 a).2.1 ≠ (gT2 b).2.1 := by decide +kernel
theorem gtyok2 : ∀ k, k < 2 → parseFieldDescriptor (gT2 k).2.2.1 = some (gty2 k) := by decide +kernel
theorem gkd2 : ∀ k, k < 2 → q_kd (gty2 k) < 3 := by decide +kernel
theorem guw2 : ∀ w ∈ u_ws "CommitDesk$Layer" gT2 2, w ∈ LW := by
  intro w hw
  simp only [u_ws, List.mem_map, List.mem_range] at hw
  obtain ⟨k, hk, rfl⟩ := hw
  match k, hk with
  | 0, _ => exact mw_51
  | 1, _ => exact mw_53
  | k + 2, h => exact absurd h (by omega)
def gT3 : u_T := fun k => match k with
  | 0 => ("CommitDesk$Market", "prices", "[I", true)
  | 1 => ("CommitDesk$Market", "loneCosts", "[J", true)
  | 2 => ("CommitDesk$Market", "loneOutputs", "[I", true)
  | 3 => ("CommitDesk$Market", "from", "LCommitDesk$Layer;", false)
  | 4 => ("CommitDesk$Market", "to", "LCommitDesk$Layer;", false)
  | 5 => ("CommitDesk$Market", "step", "I", false)
  | 6 => ("CommitDesk$Market", "best", "J", false)
  | _ => ("CommitDesk$Market", "settled", "Z", false)
def gty3 : Nat → FieldType := fun k => match k with
  | 0 => (.array .int)
  | 1 => (.array .long)
  | 2 => (.array .int)
  | 3 => (.object "CommitDesk$Layer")
  | 4 => (.object "CommitDesk$Layer")
  | 5 => .int
  | 6 => .long
  | _ => .boolean
theorem gnm3 : ∀ a, a < 8 → ∀ b, b < 8 → a ≠ b → (gT3 a).2.1 ≠ (gT3 b).2.1 := by decide +kernel
theorem gtyok3 : ∀ k, k < 8 → parseFieldDescriptor (gT3 k).2.2.1 = some (gty3 k) := by decide +kernel
theorem gkd3 : ∀ k, k < 8 → q_kd (gty3 k) < 3 := by decide +kernel
theorem guw3 : ∀ w ∈ u_ws "CommitDesk$Market" gT3 8, w ∈ LW := by
  intro w hw
  simp only [u_ws, List.mem_map, List.mem_range] at hw
  obtain ⟨k, hk, rfl⟩ := hw
  match k, hk with
  | 0, _ => exact mw_106
  | 1, _ => exact mw_108
  | 2, _ => exact mw_110
  | 3, _ => exact mw_112
  | 4, _ => exact mw_114
  | 5, _ => exact mw_116
  | 6, _ => exact mw_118
  | 7, _ => exact mw_120
  | k + 8, h => exact absurd h (by omega)
def gT4 : u_T := fun k => match k with
  | 0 => ("CommitDesk$Planner", "from", "LCommitDesk$Front;", false)
  | 1 => ("CommitDesk$Planner", "to", "LCommitDesk$Front;", false)
  | _ => ("CommitDesk$Planner", "states", "[I", true)
def gty4 : Nat → FieldType := fun k => match k with
  | 0 => (.object "CommitDesk$Front")
  | 1 => (.object "CommitDesk$Front")
  | _ => (.array .int)
theorem gnm4 : ∀ a, a < 3 → ∀ b, b < 3 → a ≠ b → (gT4 a).2.1 ≠ (gT4 b).2.1 := by decide +kernel
theorem gtyok4 : ∀ k, k < 3 → parseFieldDescriptor (gT4 k).2.2.1 = some (gty4 k) := by decide +kernel
theorem gkd4 : ∀ k, k < 3 → q_kd (gty4 k) < 3 := by decide +kernel
theorem guw4 : ∀ w ∈ u_ws "CommitDesk$Planner" gT4 3, w ∈ LW := by
  intro w hw
  simp only [u_ws, List.mem_map, List.mem_range] at hw
  obtain ⟨k, hk, rfl⟩ := hw
  match k, hk with
  | 0, _ => exact mw_78
  | 1, _ => exact mw_80
  | 2, _ => exact mw_82
  | k + 3, h => exact absurd h (by omega)
def gT5 : u_T := fun k => match k with
  | 0 => ("CommitDesk$Station", "hours", "I", true)
  | 1 => ("CommitDesk$Station", "sets", "I", false)
  | 2 => ("CommitDesk$Station", "units", "[LCommitDesk$Unit;", true)
  | 3 => ("CommitDesk$Station", "demands", "[I", true)
  | _ => ("CommitDesk$Station", "reserves", "[I", true)
def gty5 : Nat → FieldType := fun k => match k with
  | 0 => .int
  | 1 => .int
  | 2 => (.array (.object "CommitDesk$Unit"))
  | 3 => (.array .int)
  | _ => (.array .int)
theorem gnm5 : ∀ a, a < 5 → ∀ b, b < 5 → a ≠ b → (gT5 a).2.1 ≠ (gT5 b).2.1 := by decide +kernel
theorem gtyok5 : ∀ k, k < 5 → parseFieldDescriptor (gT5 k).2.2.1 = some (gty5 k) := by decide +kernel
theorem gkd5 : ∀ k, k < 5 → q_kd (gty5 k) < 3 := by decide +kernel
theorem guw5 : ∀ w ∈ u_ws "CommitDesk$Station" gT5 5, w ∈ LW := by
  intro w hw
  simp only [u_ws, List.mem_map, List.mem_range] at hw
  obtain ⟨k, hk, rfl⟩ := hw
  match k, hk with
  | 0, _ => exact mw_220
  | 1, _ => exact mw_222
  | 2, _ => exact mw_224
  | 3, _ => exact mw_226
  | 4, _ => exact mw_228
  | k + 5, h => exact absurd h (by omega)
def gT6 : u_T := fun k => match k with
  | 0 => ("CommitDesk$Unit", "low", "I", false)
  | 1 => ("CommitDesk$Unit", "high", "I", false)
  | 2 => ("CommitDesk$Unit", "up", "I", false)
  | 3 => ("CommitDesk$Unit", "down", "I", false)
  | 4 => ("CommitDesk$Unit", "ramp", "I", false)
  | 5 => ("CommitDesk$Unit", "outputBefore", "I", false)
  | 6 => ("CommitDesk$Unit", "hoursBefore", "I", false)
  | 7 => ("CommitDesk$Unit", "hourCosts", "[I", true)
  | 8 => ("CommitDesk$Unit", "startCosts", "[I", true)
  | _ => ("CommitDesk$Unit", "nextStates", "[I", true)
def gty6 : Nat → FieldType := fun k => match k with
  | 0 => .int
  | 1 => .int
  | 2 => .int
  | 3 => .int
  | 4 => .int
  | 5 => .int
  | 6 => .int
  | 7 => (.array .int)
  | 8 => (.array .int)
  | _ => (.array .int)
theorem gnm6 : ∀ a, a < 10 → ∀ b, b < 10 → a ≠ b → (gT6 a).2.1 ≠ (gT6 b).2.1 := by decide +kernel
theorem gtyok6 : ∀ k, k < 10 → parseFieldDescriptor (gT6 k).2.2.1 = some (gty6 k) := by decide +kernel
theorem gkd6 : ∀ k, k < 10 → q_kd (gty6 k) < 3 := by decide +kernel
theorem guw6 : ∀ w ∈ u_ws "CommitDesk$Unit" gT6 10, w ∈ LW := by
  intro w hw
  simp only [u_ws, List.mem_map, List.mem_range] at hw
  obtain ⟨k, hk, rfl⟩ := hw
  match k, hk with
  | 0, _ => exact mw_179
  | 1, _ => exact mw_181
  | 2, _ => exact mw_183
  | 3, _ => exact mw_185
  | 4, _ => exact mw_187
  | 5, _ => exact mw_189
  | 6, _ => exact mw_191
  | 7, _ => exact mw_193
  | 8, _ => exact mw_195
  | 9, _ => exact mw_197
  | k + 10, h => exact absurd h (by omega)
def gT7 : u_T := fun k => match k with
  | 0 => ("CommitDeskModel", "thrown", "I", false)
  | 1 => ("CommitDeskModel", "hours", "I", true)
  | 2 => ("CommitDeskModel", "sets", "I", false)
  | 3 => ("CommitDeskModel", "low", "[I", true)
  | 4 => ("CommitDeskModel", "high", "[I", true)
  | 5 => ("CommitDeskModel", "up", "[I", true)
  | 6 => ("CommitDeskModel", "down", "[I", true)
  | 7 => ("CommitDeskModel", "ramp", "[I", true)
  | 8 => ("CommitDeskModel", "hourCost", "[I", true)
  | 9 => ("CommitDeskModel", "startCost", "[I", true)
  | 10 => ("CommitDeskModel", "wasOutput", "[I", true)
  | 11 => ("CommitDeskModel", "wasHours", "[I", true)
  | 12 => ("CommitDeskModel", "demands", "[I", true)
  | 13 => ("CommitDeskModel", "reserves", "[I", true)
  | 14 => ("CommitDeskModel", "table", "[I", true)
  | 15 => ("CommitDeskModel", "kept", "[I", true)
  | 16 => ("CommitDeskModel", "isKept", "[Z", true)
  | 17 => ("CommitDeskModel", "prices", "[I", true)
  | 18 => ("CommitDeskModel", "step", "I", false)
  | 19 => ("CommitDeskModel", "best", "J", false)
  | 20 => ("CommitDeskModel", "ahead", "[I", true)
  | 21 => ("CommitDeskModel", "aheadAlone", "[J", true)
  | 22 => ("CommitDeskModel", "lone", "[I", true)
  | 23 => ("CommitDeskModel", "loneCost", "[J", true)
  | 24 => ("CommitDeskModel", "ways", "I", false)
  | _ => ("CommitDeskModel", "way", "[I", true)
def gty7 : Nat → FieldType := fun k => match k with
  | 0 => .int
  | 1 => .int
  | 2 => .int
  | 3 => (.array .int)
  | 4 => (.array .int)
  | 5 => (.array .int)
  | 6 => (.array .int)
  | 7 => (.array .int)
  | 8 => (.array .int)
  | 9 => (.array .int)
  | 10 => (.array .int)
  | 11 => (.array .int)
  | 12 => (.array .int)
  | 13 => (.array .int)
  | 14 => (.array .int)
  | 15 => (.array .int)
  | 16 => (.array .boolean)
  | 17 => (.array .int)
  | 18 => .int
  | 19 => .long
  | 20 => (.array .int)
  | 21 => (.array .long)
  | 22 => (.array .int)
  | 23 => (.array .long)
  | 24 => .int
  | _ => (.array .int)
theorem gnm7 : ∀ a, a < 26 → ∀ b, b < 26 → a ≠ b → (gT7 a).2.1 ≠ (gT7 b).2.1 := by decide +kernel
theorem gtyok7 : ∀ k, k < 26 → parseFieldDescriptor (gT7 k).2.2.1 = some (gty7 k) := by decide +kernel
theorem gkd7 : ∀ k, k < 26 → q_kd (gty7 k) < 3 := by decide +kernel
theorem guw7 : ∀ w ∈ u_ws "CommitDeskModel" gT7 26, w ∈ LW := by
  intro w hw
  simp only [u_ws, List.mem_map, List.mem_range] at hw
  obtain ⟨k, hk, rfl⟩ := hw
  match k, hk with
  | 0, _ => exact mw_743
  | 1, _ => exact mw_745
  | 2, _ => exact mw_747
  | 3, _ => exact mw_749
  | 4, _ => exact mw_751
  | 5, _ => exact mw_753
  | 6, _ => exact mw_755
  | 7, _ => exact mw_757
  | 8, _ => exact mw_759
  | 9, _ => exact mw_761
  | 10, _ => exact mw_763
  | 11, _ => exact mw_765
  | 12, _ => exact mw_767
  | 13, _ => exact mw_769
  | 14, _ => exact mw_771
  | 15, _ => exact mw_773
  | 16, _ => exact mw_775
  | 17, _ => exact mw_777
  | 18, _ => exact mw_779
  | 19, _ => exact mw_781
  | 20, _ => exact mw_783
  | 21, _ => exact mw_785
  | 22, _ => exact mw_787
  | 23, _ => exact mw_789
  | 24, _ => exact mw_791
  | 25, _ => exact mw_793
  | k + 26, h => exact absurd h (by omega)
abbrev gcl : List vw_C := [("CommitDesk", gT0, 6), ("CommitDesk$Front", gT1, 4), ("CommitDesk$Layer", gT2, 2), ("CommitDesk$Market", gT3, 8), ("CommitDesk$Planner", gT4, 3), ("CommitDesk$Station", gT5, 5), ("CommitDesk$Unit", gT6, 10), ("CommitDeskModel", gT7, 26)]
def gft : Nat → Nat → FieldType := fun ci => match ci with
  | 0 => gty0
  | 1 => gty1
  | 2 => gty2
  | 3 => gty3
  | 4 => gty4
  | 5 => gty5
  | 6 => gty6
  | _ => gty7
def gat : Nat → FieldType := fun t => match t with
  | 0 => .int
  | 1 => .long
  | 2 => .boolean
  | 3 => .object "CommitDesk$Unit"
  | _ => .array .int
def gnw : List Jvm.Cond := [(Jvm.Cond.methodLinkNest "CommitDesk" (11 : Nat) ({ cls := "CommitDesk$Planner", name := "<init>", desc := "()V" } : Jvm.MethodName) "CommitDesk"), (Jvm.Cond.methodLinkNest "CommitDesk$Planner" (11 : Nat) ({ cls := "CommitDesk$Front", name := "<init>", desc := "()V" } : Jvm.MethodName) "CommitDesk"), (Jvm.Cond.fieldLinkNest "CommitDesk$Planner" (68 : Nat) "CommitDesk$Layer" "costs" "[J" "CommitDesk"), (Jvm.Cond.fieldLinkNest "CommitDesk$Market" (117 : Nat) "CommitDesk$Layer" "costs" "[J" "CommitDesk"), (Jvm.Cond.fieldLinkNest "CommitDesk$Planner" (60 : Nat) "CommitDesk$Layer" "ways" "[J" "CommitDesk"), (Jvm.Cond.fieldLinkNest "CommitDesk$Market" (120 : Nat) "CommitDesk$Layer" "ways" "[J" "CommitDesk"), (Jvm.Cond.fieldLinkNest "CommitDesk$Planner" (46 : Nat) "CommitDesk$Front" "layer" "LCommitDesk$Layer;" "CommitDesk"), (Jvm.Cond.fieldLinkNest "CommitDesk$Planner" (94 : Nat) "CommitDesk$Front" "codes" "[I" "CommitDesk"), (Jvm.Cond.fieldLinkNest "CommitDesk$Planner" (82 : Nat) "CommitDesk$Front" "choices" "[I" "CommitDesk"), (Jvm.Cond.fieldLinkNest "CommitDesk$Planner" (71 : Nat) "CommitDesk$Front" "size" "I" "CommitDesk"), (Jvm.Cond.methodLinkNest "CommitDesk" (18 : Nat) ({ cls := "CommitDesk$Market", name := "<init>", desc := "()V" } : Jvm.MethodName) "CommitDesk"), (Jvm.Cond.fieldLinkNest "CommitDesk" (135 : Nat) "CommitDesk$Market" "prices" "[I" "CommitDesk"), (Jvm.Cond.fieldLinkNest "CommitDesk" (142 : Nat) "CommitDesk$Market" "loneCosts" "[J" "CommitDesk"), (Jvm.Cond.fieldLinkNest "CommitDesk" (146 : Nat) "CommitDesk$Market" "loneOutputs" "[I" "CommitDesk"), (Jvm.Cond.fieldLinkNest "CommitDesk" (169 : Nat) "CommitDesk$Market" "step" "I" "CommitDesk"), (Jvm.Cond.fieldLinkNest "CommitDesk" (156 : Nat) "CommitDesk$Market" "best" "J" "CommitDesk"), (Jvm.Cond.fieldLinkNest "CommitDesk$Station" (97 : Nat) "CommitDesk$Unit" "low" "I" "CommitDesk"), (Jvm.Cond.fieldLinkNest "CommitDesk$Front" (69 : Nat) "CommitDesk$Unit" "high" "I" "CommitDesk"), (Jvm.Cond.fieldLinkNest "CommitDesk$Station" (79 : Nat) "CommitDesk$Unit" "high" "I" "CommitDesk"), (Jvm.Cond.fieldLinkNest "CommitDesk$Station" (85 : Nat) "CommitDesk$Unit" "up" "I" "CommitDesk"), (Jvm.Cond.fieldLinkNest "CommitDesk$Station" (94 : Nat) "CommitDesk$Unit" "down" "I" "CommitDesk"), (Jvm.Cond.fieldLinkNest "CommitDesk$Station" (91 : Nat) "CommitDesk$Unit" "ramp" "I" "CommitDesk"), (Jvm.Cond.fieldLinkNest "CommitDesk" (94 : Nat) "CommitDesk$Unit" "outputBefore" "I" "CommitDesk"), (Jvm.Cond.fieldLinkNest "CommitDesk$Station" (100 : Nat) "CommitDesk$Unit" "outputBefore" "I" "CommitDesk"), (Jvm.Cond.fieldLinkNest "CommitDesk" (97 : Nat) "CommitDesk$Unit" "hoursBefore" "I" "CommitDesk"), (Jvm.Cond.fieldLinkNest "CommitDesk$Station" (103 : Nat) "CommitDesk$Unit" "hoursBefore" "I" "CommitDesk"), (Jvm.Cond.fieldLinkNest "CommitDesk$Planner" (29 : Nat) "CommitDesk$Station" "hours" "I" "CommitDesk"), (Jvm.Cond.fieldLinkNest "CommitDesk$Market" (54 : Nat) "CommitDesk$Station" "hours" "I" "CommitDesk"), (Jvm.Cond.fieldLinkNest "CommitDesk" (166 : Nat) "CommitDesk$Station" "hours" "I" "CommitDesk"), (Jvm.Cond.fieldLinkNest "CommitDesk" (56 : Nat) "CommitDesk$Station" "sets" "I" "CommitDesk"), (Jvm.Cond.fieldLinkNest "CommitDesk$Market" (62 : Nat) "CommitDesk$Station" "sets" "I" "CommitDesk"), (Jvm.Cond.fieldLinkNest "CommitDesk$Front" (34 : Nat) "CommitDesk$Station" "units" "[LCommitDesk$Unit;" "CommitDesk"), (Jvm.Cond.fieldLinkNest "CommitDesk" (63 : Nat) "CommitDesk$Station" "units" "[LCommitDesk$Unit;" "CommitDesk"), (Jvm.Cond.fieldLinkNest "CommitDesk$Planner" (101 : Nat) "CommitDesk$Station" "units" "[LCommitDesk$Unit;" "CommitDesk"), (Jvm.Cond.fieldLinkNest "CommitDesk$Market" (88 : Nat) "CommitDesk$Station" "units" "[LCommitDesk$Unit;" "CommitDesk"), (Jvm.Cond.fieldLinkNest "CommitDesk$Market" (59 : Nat) "CommitDesk$Station" "demands" "[I" "CommitDesk"), (Jvm.Cond.fieldLinkNest "CommitDesk$Front" (72 : Nat) "CommitDesk$Station" "demands" "[I" "CommitDesk"), (Jvm.Cond.fieldLinkNest "CommitDesk" (103 : Nat) "CommitDesk$Station" "demands" "[I" "CommitDesk"), (Jvm.Cond.fieldLinkNest "CommitDesk$Front" (75 : Nat) "CommitDesk$Station" "reserves" "[I" "CommitDesk"), (Jvm.Cond.fieldLinkNest "CommitDesk" (106 : Nat) "CommitDesk$Station" "reserves" "[I" "CommitDesk"), (Jvm.Cond.methodLinkNest "CommitDesk$Station" (32 : Nat) ({ cls := "CommitDesk", name := "within", desc := "(III)Z" } : Jvm.MethodName) "CommitDesk"), (Jvm.Cond.methodLinkNest "CommitDesk$Station" (47 : Nat) ({ cls := "CommitDesk", name := "cell", desc := "(II)I" } : Jvm.MethodName) "CommitDesk"), (Jvm.Cond.fieldLinkNest "CommitDesk$Front" (78 : Nat) "CommitDesk" "CHOICE_WEIGHTS" "[I" "CommitDesk"), (Jvm.Cond.methodLinkNest "CommitDesk$Planner" (114 : Nat) ({ cls := "CommitDesk", name := "cell", desc := "(II)I" } : Jvm.MethodName) "CommitDesk"), (Jvm.Cond.methodLinkNest "CommitDesk$Planner" (117 : Nat) ({ cls := "CommitDesk$Front", name := "choiceIn", desc := "(II)I" } : Jvm.MethodName) "CommitDesk"), (Jvm.Cond.methodLinkNest "CommitDesk$Market" (85 : Nat) ({ cls := "CommitDesk", name := "cell", desc := "(II)I" } : Jvm.MethodName) "CommitDesk"), (Jvm.Cond.arrayOver (Jvm.ClassFile.FieldType.object "CommitDesk$Unit"))]
def GG (xs : List Int32) : q_G := (gcl, gft, gat, 5, [("CommitDesk", "CHOICE_WEIGHTS", "[I", [25, 5, 1]), ("", "", "", xs)], gnw)
theorem gnw_kind : ∀ w ∈ gnw, (∃ a i b n d h, w = Jvm.Cond.fieldLinkNest a i b n d h) ∨ (∃ a i x h, w = Jvm.Cond.methodLinkNest a i x h) ∨ ∃ C, w = Jvm.Cond.arrayOver (.object C) := by
  intro w hw
  simp only [gnw, List.mem_cons, List.not_mem_nil, or_false] at hw
  rcases hw with rfl | rfl | rfl | rfl | rfl | rfl | rfl | rfl | rfl | rfl | rfl | rfl | rfl | rfl | rfl | rfl | rfl | rfl | rfl | rfl | rfl | rfl | rfl | rfl | rfl | rfl | rfl | rfl | rfl | rfl | rfl | rfl | rfl | rfl | rfl | rfl | rfl | rfl | rfl | rfl | rfl | rfl | rfl | rfl | rfl | rfl | rfl
  · exact Or.inr (Or.inl ⟨_, _, _, _, rfl⟩)
  · exact Or.inr (Or.inl ⟨_, _, _, _, rfl⟩)
  · exact Or.inl ⟨_, _, _, _, _, _, rfl⟩
  · exact Or.inl ⟨_, _, _, _, _, _, rfl⟩
  · exact Or.inl ⟨_, _, _, _, _, _, rfl⟩
  · exact Or.inl ⟨_, _, _, _, _, _, rfl⟩
  · exact Or.inl ⟨_, _, _, _, _, _, rfl⟩
  · exact Or.inl ⟨_, _, _, _, _, _, rfl⟩
  · exact Or.inl ⟨_, _, _, _, _, _, rfl⟩
  · exact Or.inl ⟨_, _, _, _, _, _, rfl⟩
  · exact Or.inr (Or.inl ⟨_, _, _, _, rfl⟩)
  · exact Or.inl ⟨_, _, _, _, _, _, rfl⟩
  · exact Or.inl ⟨_, _, _, _, _, _, rfl⟩
  · exact Or.inl ⟨_, _, _, _, _, _, rfl⟩
  · exact Or.inl ⟨_, _, _, _, _, _, rfl⟩
  · exact Or.inl ⟨_, _, _, _, _, _, rfl⟩
  · exact Or.inl ⟨_, _, _, _, _, _, rfl⟩
  · exact Or.inl ⟨_, _, _, _, _, _, rfl⟩
  · exact Or.inl ⟨_, _, _, _, _, _, rfl⟩
  · exact Or.inl ⟨_, _, _, _, _, _, rfl⟩
  · exact Or.inl ⟨_, _, _, _, _, _, rfl⟩
  · exact Or.inl ⟨_, _, _, _, _, _, rfl⟩
  · exact Or.inl ⟨_, _, _, _, _, _, rfl⟩
  · exact Or.inl ⟨_, _, _, _, _, _, rfl⟩
  · exact Or.inl ⟨_, _, _, _, _, _, rfl⟩
  · exact Or.inl ⟨_, _, _, _, _, _, rfl⟩
  · exact Or.inl ⟨_, _, _, _, _, _, rfl⟩
  · exact Or.inl ⟨_, _, _, _, _, _, rfl⟩
  · exact Or.inl ⟨_, _, _, _, _, _, rfl⟩
  · exact Or.inl ⟨_, _, _, _, _, _, rfl⟩
  · exact Or.inl ⟨_, _, _, _, _, _, rfl⟩
  · exact Or.inl ⟨_, _, _, _, _, _, rfl⟩
  · exact Or.inl ⟨_, _, _, _, _, _, rfl⟩
  · exact Or.inl ⟨_, _, _, _, _, _, rfl⟩
  · exact Or.inl ⟨_, _, _, _, _, _, rfl⟩
  · exact Or.inl ⟨_, _, _, _, _, _, rfl⟩
  · exact Or.inl ⟨_, _, _, _, _, _, rfl⟩
  · exact Or.inl ⟨_, _, _, _, _, _, rfl⟩
  · exact Or.inl ⟨_, _, _, _, _, _, rfl⟩
  · exact Or.inl ⟨_, _, _, _, _, _, rfl⟩
  · exact Or.inr (Or.inl ⟨_, _, _, _, rfl⟩)
  · exact Or.inr (Or.inl ⟨_, _, _, _, rfl⟩)
  · exact Or.inl ⟨_, _, _, _, _, _, rfl⟩
  · exact Or.inr (Or.inl ⟨_, _, _, _, rfl⟩)
  · exact Or.inr (Or.inl ⟨_, _, _, _, rfl⟩)
  · exact Or.inr (Or.inl ⟨_, _, _, _, rfl⟩)
  · exact Or.inr (Or.inr ⟨_, rfl⟩)
theorem GG_ok (xs : List Int32) : q_okG (GG xs) := ⟨rfl, rfl, rfl, Nat.le_of_ble_eq_true rfl, gnw_kind⟩
