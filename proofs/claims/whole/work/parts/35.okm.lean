/-! (laid by prog/gen.py) -/
theorem dk0 : q_dk prog_1_method_1_code tb0 = true := by decide +kernel
theorem om0 (xs : List Int32) : q_okM (GG xs) PP M0 := by
  have hW : ∀ w ∈ LW, w ∈ q_ws M0 := fun w h => List.mem_cons_of_mem _ h
  exact q_okM_of (by decide) rfl dk0 (List.forall_mem_cons.mpr ⟨ri13 xs rfl hW ⟨Nat.le_of_ble_eq_true rfl, Nat.le_of_ble_eq_true rfl⟩, List.forall_mem_cons.mpr ⟨rn12 xs rfl hW, List.forall_mem_cons.mpr ⟨rc11 xs rfl hW ⟨Nat.le_of_ble_eq_true rfl, Nat.le_of_ble_eq_true rfl⟩, List.forall_mem_cons.mpr ⟨rf10 xs rfl rfl hW, List.forall_mem_cons.mpr ⟨rn9 xs rfl hW, List.forall_mem_cons.mpr ⟨rc8 xs rfl hW ⟨Nat.le_of_ble_eq_true rfl, Nat.le_of_ble_eq_true rfl⟩, List.forall_mem_cons.mpr ⟨rf7 xs rfl rfl hW, List.forall_mem_cons.mpr ⟨rf6 xs rfl rfl hW, List.forall_mem_cons.mpr ⟨q_okR_none xs 27 (by decide), List.forall_mem_cons.mpr ⟨rf5 xs rfl rfl hW, List.forall_mem_cons.mpr ⟨rf4 xs rfl rfl hW, List.forall_mem_cons.mpr ⟨rn3 xs rfl hW, List.forall_mem_cons.mpr ⟨rc2 xs rfl hW ⟨Nat.le_of_ble_eq_true rfl, Nat.le_of_ble_eq_true rfl⟩, List.forall_mem_cons.mpr ⟨rc1 xs rfl hW ⟨Nat.le_of_ble_eq_true rfl, Nat.le_of_ble_eq_true rfl⟩, List.forall_mem_cons.mpr ⟨rf0 xs rfl rfl hW, fun q hq => absurd hq List.not_mem_nil⟩⟩⟩⟩⟩⟩⟩⟩⟩⟩⟩⟩⟩⟩⟩) (fun q hq => absurd hq List.not_mem_nil) hW
theorem dk1 : q_dk prog_1_method_2_code tb1 = true := by decide +kernel
theorem om1 (xs : List Int32) : q_okM (GG xs) PP M1 := by
  have hW : ∀ w ∈ LW, w ∈ q_ws M1 := fun w h => List.mem_cons_of_mem _ h
  exact q_okM_of (by decide) rfl dk1 (List.forall_mem_cons.mpr ⟨rf20 xs rfl hW, List.forall_mem_cons.mpr ⟨rc2 xs rfl hW ⟨Nat.le_of_ble_eq_true rfl, Nat.le_of_ble_eq_true rfl⟩, List.forall_mem_cons.mpr ⟨rf19 xs rfl hW, List.forall_mem_cons.mpr ⟨rc18 xs rfl hW ⟨Nat.le_of_ble_eq_true rfl, Nat.le_of_ble_eq_true rfl⟩, List.forall_mem_cons.mpr ⟨q_okR_none xs 53 (by decide), List.forall_mem_cons.mpr ⟨q_okR_none xs 55 (by decide), List.forall_mem_cons.mpr ⟨rf17 xs rfl hW, List.forall_mem_cons.mpr ⟨q_okR_none xs 60 (by decide), List.forall_mem_cons.mpr ⟨q_okR_none xs 62 (by decide), List.forall_mem_cons.mpr ⟨rf16 xs rfl hW, List.forall_mem_cons.mpr ⟨rc15 xs rfl hW ⟨Nat.le_of_ble_eq_true rfl, Nat.le_of_ble_eq_true rfl⟩, List.forall_mem_cons.mpr ⟨rc14 xs rfl hW ⟨Nat.le_of_ble_eq_true rfl, Nat.le_of_ble_eq_true rfl⟩, fun q hq => absurd hq List.not_mem_nil⟩⟩⟩⟩⟩⟩⟩⟩⟩⟩⟩⟩) (fun q hq => absurd hq List.not_mem_nil) hW
theorem dk2 : q_dk prog_1_method_3_code tb2 = true := by decide +kernel
theorem om2 (xs : List Int32) : q_okM (GG xs) PP M2 := by
  have hW : ∀ w ∈ LW, w ∈ q_ws M2 := fun w h => List.mem_cons_of_mem _ h
  exact q_okM_of (by decide) rfl dk2 (List.forall_mem_cons.mpr ⟨rf20 xs rfl hW, List.forall_mem_cons.mpr ⟨rf19 xs rfl hW, List.forall_mem_cons.mpr ⟨rf16 xs rfl hW, List.forall_mem_cons.mpr ⟨rc14 xs rfl hW ⟨Nat.le_of_ble_eq_true rfl, Nat.le_of_ble_eq_true rfl⟩, List.forall_mem_cons.mpr ⟨rc23 xs rfl hW ⟨Nat.le_of_ble_eq_true rfl, Nat.le_of_ble_eq_true rfl⟩, List.forall_mem_cons.mpr ⟨rc22 xs rfl hW ⟨Nat.le_of_ble_eq_true rfl, Nat.le_of_ble_eq_true rfl⟩, List.forall_mem_cons.mpr ⟨rc21 xs rfl hW ⟨Nat.le_of_ble_eq_true rfl, Nat.le_of_ble_eq_true rfl⟩, fun q hq => absurd hq List.not_mem_nil⟩⟩⟩⟩⟩⟩⟩) (fun q hq => absurd hq List.not_mem_nil) hW
theorem dk3 : q_dk prog_1_method_4_code tb3 = true := by decide +kernel
theorem om3 (xs : List Int32) : q_okM (GG xs) PP M3 := by
  have hW : ∀ w ∈ LW, w ∈ q_ws M3 := fun w h => List.mem_cons_of_mem _ h
  exact q_okM_of (by decide) rfl dk3 (List.forall_mem_cons.mpr ⟨rf20 xs rfl hW, List.forall_mem_cons.mpr ⟨rf19 xs rfl hW, List.forall_mem_cons.mpr ⟨rf16 xs rfl hW, List.forall_mem_cons.mpr ⟨rc14 xs rfl hW ⟨Nat.le_of_ble_eq_true rfl, Nat.le_of_ble_eq_true rfl⟩, List.forall_mem_cons.mpr ⟨rc23 xs rfl hW ⟨Nat.le_of_ble_eq_true rfl, Nat.le_of_ble_eq_true rfl⟩, List.forall_mem_cons.mpr ⟨rc22 xs rfl hW ⟨Nat.le_of_ble_eq_true rfl, Nat.le_of_ble_eq_true rfl⟩, List.forall_mem_cons.mpr ⟨rc24 xs rfl hW ⟨Nat.le_of_ble_eq_true rfl, Nat.le_of_ble_eq_true rfl⟩, fun q hq => absurd hq List.not_mem_nil⟩⟩⟩⟩⟩⟩⟩) (fun q hq => absurd hq List.not_mem_nil) hW
theorem dk4 : q_dk prog_1_method_5_code tb4 = true := by decide +kernel
theorem om4 (xs : List Int32) : q_okM (GG xs) PP M4 := by
  have hW : ∀ w ∈ LW, w ∈ q_ws M4 := fun w h => List.mem_cons_of_mem _ h
  exact q_okM_of (by decide) rfl dk4 (List.forall_mem_cons.mpr ⟨rf20 xs rfl hW, List.forall_mem_cons.mpr ⟨rc2 xs rfl hW ⟨Nat.le_of_ble_eq_true rfl, Nat.le_of_ble_eq_true rfl⟩, List.forall_mem_cons.mpr ⟨rf19 xs rfl hW, List.forall_mem_cons.mpr ⟨rf16 xs rfl hW, List.forall_mem_cons.mpr ⟨rc14 xs rfl hW ⟨Nat.le_of_ble_eq_true rfl, Nat.le_of_ble_eq_true rfl⟩, List.forall_mem_cons.mpr ⟨rc23 xs rfl hW ⟨Nat.le_of_ble_eq_true rfl, Nat.le_of_ble_eq_true rfl⟩, List.forall_mem_cons.mpr ⟨rc27 xs rfl hW ⟨Nat.le_of_ble_eq_true rfl, Nat.le_of_ble_eq_true rfl⟩, List.forall_mem_cons.mpr ⟨rf26 xs rfl hW, List.forall_mem_cons.mpr ⟨rf25 xs rfl hW, fun q hq => absurd hq List.not_mem_nil⟩⟩⟩⟩⟩⟩⟩⟩⟩) (fun q hq => absurd hq List.not_mem_nil) hW
theorem dk5 : q_dk prog_1_method_6_code tb5 = true := by decide +kernel
theorem om5 (xs : List Int32) : q_okM (GG xs) PP M5 := by
  have hW : ∀ w ∈ LW, w ∈ q_ws M5 := fun w h => List.mem_cons_of_mem _ h
  exact q_okM_of (by decide) rfl dk5 (List.forall_mem_cons.mpr ⟨rf20 xs rfl hW, List.forall_mem_cons.mpr ⟨rc2 xs rfl hW ⟨Nat.le_of_ble_eq_true rfl, Nat.le_of_ble_eq_true rfl⟩, List.forall_mem_cons.mpr ⟨rf19 xs rfl hW, List.forall_mem_cons.mpr ⟨rc14 xs rfl hW ⟨Nat.le_of_ble_eq_true rfl, Nat.le_of_ble_eq_true rfl⟩, List.forall_mem_cons.mpr ⟨rc30 xs rfl hW ⟨Nat.le_of_ble_eq_true rfl, Nat.le_of_ble_eq_true rfl⟩, List.forall_mem_cons.mpr ⟨rf29 xs rfl hW, List.forall_mem_cons.mpr ⟨rf28 xs rfl hW, fun q hq => absurd hq List.not_mem_nil⟩⟩⟩⟩⟩⟩⟩) (fun q hq => absurd hq List.not_mem_nil) hW
theorem dk6 : q_dk prog_1_method_7_code tb6 = true := by decide +kernel
theorem om6 (xs : List Int32) : q_okM (GG xs) PP M6 := by
  have hW : ∀ w ∈ LW, w ∈ q_ws M6 := fun w h => List.mem_cons_of_mem _ h
  exact q_okM_of (by decide) rfl dk6 (List.forall_mem_cons.mpr ⟨rf33 xs rfl hW, List.forall_mem_cons.mpr ⟨rf32 xs rfl hW, List.forall_mem_cons.mpr ⟨rf19 xs rfl hW, List.forall_mem_cons.mpr ⟨rc31 xs rfl hW ⟨Nat.le_of_ble_eq_true rfl, Nat.le_of_ble_eq_true rfl⟩, fun q hq => absurd hq List.not_mem_nil⟩⟩⟩⟩) (fun q hq => absurd hq List.not_mem_nil) hW
theorem dk7 : q_dk prog_1_method_8_code tb7 = true := by decide +kernel
theorem om7 (xs : List Int32) : q_okM (GG xs) PP M7 := by
  have hW : ∀ w ∈ LW, w ∈ q_ws M7 := fun w h => List.mem_cons_of_mem _ h
  exact q_okM_of (by decide) rfl dk7 (List.forall_mem_cons.mpr ⟨rf33 xs rfl hW, List.forall_mem_cons.mpr ⟨rf32 xs rfl hW, List.forall_mem_cons.mpr ⟨rf19 xs rfl hW, List.forall_mem_cons.mpr ⟨rc31 xs rfl hW ⟨Nat.le_of_ble_eq_true rfl, Nat.le_of_ble_eq_true rfl⟩, fun q hq => absurd hq List.not_mem_nil⟩⟩⟩⟩) (fun q hq => absurd hq List.not_mem_nil) hW
theorem dk8 : q_dk prog_1_method_9_code tb8 = true := by decide +kernel
theorem om8 (xs : List Int32) : q_okM (GG xs) PP M8 := by
  have hW : ∀ w ∈ LW, w ∈ q_ws M8 := fun w h => List.mem_cons_of_mem _ h
  exact q_okM_of (by decide) rfl dk8 (List.forall_mem_cons.mpr ⟨rf32 xs rfl hW, List.forall_mem_cons.mpr ⟨rf19 xs rfl hW, List.forall_mem_cons.mpr ⟨rc35 xs rfl hW ⟨Nat.le_of_ble_eq_true rfl, Nat.le_of_ble_eq_true rfl⟩, List.forall_mem_cons.mpr ⟨q_okR_none xs 116 (by decide), List.forall_mem_cons.mpr ⟨q_okR_none xs 118 (by decide), List.forall_mem_cons.mpr ⟨rc34 xs rfl hW ⟨Nat.le_of_ble_eq_true rfl, Nat.le_of_ble_eq_true rfl⟩, fun q hq => absurd hq List.not_mem_nil⟩⟩⟩⟩⟩⟩) (fun q hq => absurd hq List.not_mem_nil) hW
theorem dk9 : q_dk prog_1_method_10_code tb9 = true := by decide +kernel
theorem om9 (xs : List Int32) : q_okM (GG xs) PP M9 := by
  have hW : ∀ w ∈ LW, w ∈ q_ws M9 := fun w h => List.mem_cons_of_mem _ h
  exact q_okM_of (by decide) rfl dk9 (List.forall_mem_cons.mpr ⟨rf32 xs rfl hW, List.forall_mem_cons.mpr ⟨rc2 xs rfl hW ⟨Nat.le_of_ble_eq_true rfl, Nat.le_of_ble_eq_true rfl⟩, List.forall_mem_cons.mpr ⟨rf19 xs rfl hW, List.forall_mem_cons.mpr ⟨rc35 xs rfl hW ⟨Nat.le_of_ble_eq_true rfl, Nat.le_of_ble_eq_true rfl⟩, List.forall_mem_cons.mpr ⟨rc34 xs rfl hW ⟨Nat.le_of_ble_eq_true rfl, Nat.le_of_ble_eq_true rfl⟩, fun q hq => absurd hq List.not_mem_nil⟩⟩⟩⟩⟩) (fun q hq => absurd hq List.not_mem_nil) hW
theorem dk10 : q_dk prog_1_method_11_code tb10 = true := by decide +kernel
theorem om10 (xs : List Int32) : q_okM (GG xs) PP M10 := by
  have hW : ∀ w ∈ LW, w ∈ q_ws M10 := fun w h => List.mem_cons_of_mem _ h
  exact q_okM_of (by decide) rfl dk10 (List.forall_mem_cons.mpr ⟨rf32 xs rfl hW, List.forall_mem_cons.mpr ⟨rf19 xs rfl hW, List.forall_mem_cons.mpr ⟨rc36 xs rfl hW ⟨Nat.le_of_ble_eq_true rfl, Nat.le_of_ble_eq_true rfl⟩, fun q hq => absurd hq List.not_mem_nil⟩⟩⟩) (fun q hq => absurd hq List.not_mem_nil) hW
theorem dk11 : q_dk prog_1_method_12_code tb11 = true := by decide +kernel
theorem om11 (xs : List Int32) : q_okM (GG xs) PP M11 := by
  have hW : ∀ w ∈ LW, w ∈ q_ws M11 := fun w h => List.mem_cons_of_mem _ h
  exact q_okM_of (by decide) rfl dk11 (List.forall_mem_cons.mpr ⟨rf32 xs rfl hW, List.forall_mem_cons.mpr ⟨rc2 xs rfl hW ⟨Nat.le_of_ble_eq_true rfl, Nat.le_of_ble_eq_true rfl⟩, List.forall_mem_cons.mpr ⟨rf19 xs rfl hW, List.forall_mem_cons.mpr ⟨q_okR_none xs 53 (by decide), List.forall_mem_cons.mpr ⟨q_okR_none xs 55 (by decide), List.forall_mem_cons.mpr ⟨q_okR_none xs 60 (by decide), List.forall_mem_cons.mpr ⟨q_okR_none xs 62 (by decide), List.forall_mem_cons.mpr ⟨rc36 xs rfl hW ⟨Nat.le_of_ble_eq_true rfl, Nat.le_of_ble_eq_true rfl⟩, List.forall_mem_cons.mpr ⟨rc38 xs rfl hW ⟨Nat.le_of_ble_eq_true rfl, Nat.le_of_ble_eq_true rfl⟩, List.forall_mem_cons.mpr ⟨rc37 xs rfl hW ⟨Nat.le_of_ble_eq_true rfl, Nat.le_of_ble_eq_true rfl⟩, fun q hq => absurd hq List.not_mem_nil⟩⟩⟩⟩⟩⟩⟩⟩⟩⟩) (fun q hq => absurd hq List.not_mem_nil) hW
theorem dk12 : q_dk prog_1_method_13_code tb12 = true := by decide +kernel
theorem om12 (xs : List Int32) : q_okM (GG xs) PP M12 := by
  have hW : ∀ w ∈ LW, w ∈ q_ws M12 := fun w h => List.mem_cons_of_mem _ h
  exact q_okM_of (by decide) rfl dk12 (List.forall_mem_cons.mpr ⟨rf20 xs rfl hW, List.forall_mem_cons.mpr ⟨rc2 xs rfl hW ⟨Nat.le_of_ble_eq_true rfl, Nat.le_of_ble_eq_true rfl⟩, List.forall_mem_cons.mpr ⟨rf19 xs rfl hW, List.forall_mem_cons.mpr ⟨rc14 xs rfl hW ⟨Nat.le_of_ble_eq_true rfl, Nat.le_of_ble_eq_true rfl⟩, List.forall_mem_cons.mpr ⟨rc30 xs rfl hW ⟨Nat.le_of_ble_eq_true rfl, Nat.le_of_ble_eq_true rfl⟩, List.forall_mem_cons.mpr ⟨rf39 xs rfl hW, fun q hq => absurd hq List.not_mem_nil⟩⟩⟩⟩⟩⟩) (List.forall_mem_cons.mpr ⟨⟨fun x h => by cases h; exact hW _ mw_453, fun x h => by cases h⟩, List.forall_mem_cons.mpr ⟨⟨fun x h => by cases h; exact hW _ mw_454, fun x h => by cases h⟩, fun q hq => absurd hq List.not_mem_nil⟩⟩) hW
theorem dk13 : q_dk prog_1_method_14_code tb13 = true := by decide +kernel
theorem om13 (xs : List Int32) : q_okM (GG xs) PP M13 := by
  have hW : ∀ w ∈ LW, w ∈ q_ws M13 := fun w h => List.mem_cons_of_mem _ h
  exact q_okM_of (by decide) rfl dk13 (List.forall_mem_cons.mpr ⟨rf20 xs rfl hW, List.forall_mem_cons.mpr ⟨rf19 xs rfl hW, List.forall_mem_cons.mpr ⟨rc30 xs rfl hW ⟨Nat.le_of_ble_eq_true rfl, Nat.le_of_ble_eq_true rfl⟩, List.forall_mem_cons.mpr ⟨q_okR_none xs 116 (by decide), List.forall_mem_cons.mpr ⟨q_okR_none xs 118 (by decide), List.forall_mem_cons.mpr ⟨rf39 xs rfl hW, fun q hq => absurd hq List.not_mem_nil⟩⟩⟩⟩⟩⟩) (fun q hq => absurd hq List.not_mem_nil) hW
theorem dk14 : q_dk prog_1_method_15_code tb14 = true := by decide +kernel
theorem om14 (xs : List Int32) : q_okM (GG xs) PP M14 := by
  have hW : ∀ w ∈ LW, w ∈ q_ws M14 := fun w h => List.mem_cons_of_mem _ h
  exact q_okM_of (by decide) rfl dk14 (List.forall_mem_cons.mpr ⟨rf20 xs rfl hW, List.forall_mem_cons.mpr ⟨rf19 xs rfl hW, List.forall_mem_cons.mpr ⟨rc23 xs rfl hW ⟨Nat.le_of_ble_eq_true rfl, Nat.le_of_ble_eq_true rfl⟩, List.forall_mem_cons.mpr ⟨q_okR_none xs 116 (by decide), List.forall_mem_cons.mpr ⟨q_okR_none xs 118 (by decide), List.forall_mem_cons.mpr ⟨rc41 xs rfl hW ⟨Nat.le_of_ble_eq_true rfl, Nat.le_of_ble_eq_true rfl⟩, List.forall_mem_cons.mpr ⟨rf40 xs rfl hW, fun q hq => absurd hq List.not_mem_nil⟩⟩⟩⟩⟩⟩⟩) (fun q hq => absurd hq List.not_mem_nil) hW
theorem dk15 : q_dk prog_1_method_16_code tb15 = true := by decide +kernel
theorem om15 (xs : List Int32) : q_okM (GG xs) PP M15 := by
  have hW : ∀ w ∈ LW, w ∈ q_ws M15 := fun w h => List.mem_cons_of_mem _ h
  exact q_okM_of (by decide) rfl dk15 (List.forall_mem_cons.mpr ⟨rf20 xs rfl hW, List.forall_mem_cons.mpr ⟨rf19 xs rfl hW, List.forall_mem_cons.mpr ⟨rc35 xs rfl hW ⟨Nat.le_of_ble_eq_true rfl, Nat.le_of_ble_eq_true rfl⟩, List.forall_mem_cons.mpr ⟨q_okR_none xs 116 (by decide), List.forall_mem_cons.mpr ⟨q_okR_none xs 118 (by decide), List.forall_mem_cons.mpr ⟨rc34 xs rfl hW ⟨Nat.le_of_ble_eq_true rfl, Nat.le_of_ble_eq_true rfl⟩, List.forall_mem_cons.mpr ⟨rc41 xs rfl hW ⟨Nat.le_of_ble_eq_true rfl, Nat.le_of_ble_eq_true rfl⟩, List.forall_mem_cons.mpr ⟨rf42 xs rfl hW, fun q hq => absurd hq List.not_mem_nil⟩⟩⟩⟩⟩⟩⟩⟩) (fun q hq => absurd hq List.not_mem_nil) hW
theorem dk16 : q_dk prog_1_method_17_code tb16 = true := by decide +kernel
theorem om16 (xs : List Int32) : q_okM (GG xs) PP M16 := by
  have hW : ∀ w ∈ LW, w ∈ q_ws M16 := fun w h => List.mem_cons_of_mem _ h
  exact q_okM_of (by decide) rfl dk16 (List.forall_mem_cons.mpr ⟨rf20 xs rfl hW, List.forall_mem_cons.mpr ⟨rf19 xs rfl hW, List.forall_mem_cons.mpr ⟨rc41 xs rfl hW ⟨Nat.le_of_ble_eq_true rfl, Nat.le_of_ble_eq_true rfl⟩, List.forall_mem_cons.mpr ⟨rc43 xs rfl hW ⟨Nat.le_of_ble_eq_true rfl, Nat.le_of_ble_eq_true rfl⟩, fun q hq => absurd hq List.not_mem_nil⟩⟩⟩⟩) (fun q hq => absurd hq List.not_mem_nil) hW
theorem dk17 : q_dk prog_1_method_18_code tb17 = true := by decide +kernel
theorem om17 (xs : List Int32) : q_okM (GG xs) PP M17 := by
  have hW : ∀ w ∈ LW, w ∈ q_ws M17 := fun w h => List.mem_cons_of_mem _ h
  exact q_okM_of (by decide) rfl dk17 (List.forall_mem_cons.mpr ⟨rf20 xs rfl hW, List.forall_mem_cons.mpr ⟨rc2 xs rfl hW ⟨Nat.le_of_ble_eq_true rfl, Nat.le_of_ble_eq_true rfl⟩, List.forall_mem_cons.mpr ⟨rf19 xs rfl hW, List.forall_mem_cons.mpr ⟨q_okR_none xs 53 (by decide), List.forall_mem_cons.mpr ⟨q_okR_none xs 55 (by decide), List.forall_mem_cons.mpr ⟨rc41 xs rfl hW ⟨Nat.le_of_ble_eq_true rfl, Nat.le_of_ble_eq_true rfl⟩, List.forall_mem_cons.mpr ⟨rc45 xs rfl hW ⟨Nat.le_of_ble_eq_true rfl, Nat.le_of_ble_eq_true rfl⟩, List.forall_mem_cons.mpr ⟨rf44 xs rfl hW, fun q hq => absurd hq List.not_mem_nil⟩⟩⟩⟩⟩⟩⟩⟩) (fun q hq => absurd hq List.not_mem_nil) hW
theorem dk18 : q_dk prog_1_method_19_code tb18 = true := by decide +kernel
theorem om18 (xs : List Int32) : q_okM (GG xs) PP M18 := by
  have hW : ∀ w ∈ LW, w ∈ q_ws M18 := fun w h => List.mem_cons_of_mem _ h
  exact q_okM_of (by decide) rfl dk18 (List.forall_mem_cons.mpr ⟨rf32 xs rfl hW, List.forall_mem_cons.mpr ⟨rf48 xs rfl hW, List.forall_mem_cons.mpr ⟨rf47 xs rfl hW, List.forall_mem_cons.mpr ⟨rc2 xs rfl hW ⟨Nat.le_of_ble_eq_true rfl, Nat.le_of_ble_eq_true rfl⟩, List.forall_mem_cons.mpr ⟨ri46 xs rfl hW ⟨Nat.le_of_ble_eq_true rfl, Nat.le_of_ble_eq_true rfl⟩, fun q hq => absurd hq List.not_mem_nil⟩⟩⟩⟩⟩) (fun q hq => absurd hq List.not_mem_nil) hW
theorem dk19 : q_dk prog_1_method_20_code tb19 = true := by decide +kernel
theorem om19 (xs : List Int32) : q_okM (GG xs) PP M19 := by
  have hW : ∀ w ∈ LW, w ∈ q_ws M19 := fun w h => List.mem_cons_of_mem _ h
  exact q_okM_of (by decide) rfl dk19 (List.forall_mem_cons.mpr ⟨rf32 xs rfl hW, List.forall_mem_cons.mpr ⟨rf48 xs rfl hW, List.forall_mem_cons.mpr ⟨rf47 xs rfl hW, List.forall_mem_cons.mpr ⟨rc2 xs rfl hW ⟨Nat.le_of_ble_eq_true rfl, Nat.le_of_ble_eq_true rfl⟩, List.forall_mem_cons.mpr ⟨ri46 xs rfl hW ⟨Nat.le_of_ble_eq_true rfl, Nat.le_of_ble_eq_true rfl⟩, fun q hq => absurd hq List.not_mem_nil⟩⟩⟩⟩⟩) (fun q hq => absurd hq List.not_mem_nil) hW
theorem dk20 : q_dk prog_1_method_21_code tb20 = true := by decide +kernel
theorem om20 (xs : List Int32) : q_okM (GG xs) PP M20 := by
  have hW : ∀ w ∈ LW, w ∈ q_ws M20 := fun w h => List.mem_cons_of_mem _ h
  exact q_okM_of (by decide) rfl dk20 (List.forall_mem_cons.mpr ⟨rf20 xs rfl hW, List.forall_mem_cons.mpr ⟨rf19 xs rfl hW, List.forall_mem_cons.mpr ⟨rf17 xs rfl hW, List.forall_mem_cons.mpr ⟨rf52 xs rfl hW, List.forall_mem_cons.mpr ⟨rf51 xs rfl hW, List.forall_mem_cons.mpr ⟨rc50 xs rfl hW ⟨Nat.le_of_ble_eq_true rfl, Nat.le_of_ble_eq_true rfl⟩, List.forall_mem_cons.mpr ⟨rc49 xs rfl hW ⟨Nat.le_of_ble_eq_true rfl, Nat.le_of_ble_eq_true rfl⟩, fun q hq => absurd hq List.not_mem_nil⟩⟩⟩⟩⟩⟩⟩) (fun q hq => absurd hq List.not_mem_nil) hW
theorem dk21 : q_dk prog_1_method_22_code tb21 = true := by decide +kernel
theorem om21 (xs : List Int32) : q_okM (GG xs) PP M21 := by
  have hW : ∀ w ∈ LW, w ∈ q_ws M21 := fun w h => List.mem_cons_of_mem _ h
  exact q_okM_of (by decide) rfl dk21 (List.forall_mem_cons.mpr ⟨rf19 xs rfl hW, List.forall_mem_cons.mpr ⟨rc30 xs rfl hW ⟨Nat.le_of_ble_eq_true rfl, Nat.le_of_ble_eq_true rfl⟩, List.forall_mem_cons.mpr ⟨rf29 xs rfl hW, List.forall_mem_cons.mpr ⟨rf28 xs rfl hW, fun q hq => absurd hq List.not_mem_nil⟩⟩⟩⟩) (fun q hq => absurd hq List.not_mem_nil) hW
theorem dk22 : q_dk prog_1_method_23_code tb22 = true := by decide +kernel
theorem om22 (xs : List Int32) : q_okM (GG xs) PP M22 := by
  have hW : ∀ w ∈ LW, w ∈ q_ws M22 := fun w h => List.mem_cons_of_mem _ h
  exact q_okM_of (by decide) rfl dk22 (List.forall_mem_cons.mpr ⟨rf47 xs rfl hW, fun q hq => absurd hq List.not_mem_nil⟩) (fun q hq => absurd hq List.not_mem_nil) hW
theorem dk23 : q_dk prog_1_method_24_code tb23 = true := by decide +kernel
theorem om23 (xs : List Int32) : q_okM (GG xs) PP M23 := by
  have hW : ∀ w ∈ LW, w ∈ q_ws M23 := fun w h => List.mem_cons_of_mem _ h
  exact q_okM_of (by decide) rfl dk23 (fun q hq => absurd hq List.not_mem_nil) (fun q hq => absurd hq List.not_mem_nil) hW
theorem dk24 : q_dk prog_1_method_25_code tb24 = true := by decide +kernel
theorem om24 (xs : List Int32) : q_okM (GG xs) PP M24 := by
  have hW : ∀ w ∈ LW, w ∈ q_ws M24 := fun w h => List.mem_cons_of_mem _ h
  exact q_okM_of (by decide) rfl dk24 (List.forall_mem_cons.mpr ⟨rc2 xs rfl hW ⟨Nat.le_of_ble_eq_true rfl, Nat.le_of_ble_eq_true rfl⟩, fun q hq => absurd hq List.not_mem_nil⟩) (fun q hq => absurd hq List.not_mem_nil) hW
theorem dk25 : q_dk prog_1_method_26_code tb25 = true := by decide +kernel
theorem om25 (xs : List Int32) : q_okM (GG xs) PP M25 := by
  have hW : ∀ w ∈ LW, w ∈ q_ws M25 := fun w h => List.mem_cons_of_mem _ h
  exact q_okM_of (by decide) rfl dk25 (List.forall_mem_cons.mpr ⟨rc2 xs rfl hW ⟨Nat.le_of_ble_eq_true rfl, Nat.le_of_ble_eq_true rfl⟩, fun q hq => absurd hq List.not_mem_nil⟩) (fun q hq => absurd hq List.not_mem_nil) hW
theorem dk26 : q_dk prog_1_method_27_code tb26 = true := by decide +kernel
theorem om26 (xs : List Int32) : q_okM (GG xs) PP M26 := by
  have hW : ∀ w ∈ LW, w ∈ q_ws M26 := fun w h => List.mem_cons_of_mem _ h
  exact q_okM_of (by decide) rfl dk26 (fun q hq => absurd hq List.not_mem_nil) (fun q hq => absurd hq List.not_mem_nil) hW
theorem dk27 : q_dk prog_9_method_1_code tb27 = true := by decide +kernel
theorem om27 (xs : List Int32) : q_okM (GG xs) PP M27 := by
  have hW : ∀ w ∈ LW, w ∈ q_ws M27 := fun w h => List.mem_cons_of_mem _ h
  exact q_okM_of (by decide) rfl dk27 (List.forall_mem_cons.mpr ⟨ri75 xs rfl hW ⟨Nat.le_of_ble_eq_true rfl, Nat.le_of_ble_eq_true rfl⟩, List.forall_mem_cons.mpr ⟨rf74 xs rfl rfl hW, List.forall_mem_cons.mpr ⟨rf73 xs rfl rfl hW, List.forall_mem_cons.mpr ⟨rf72 xs rfl rfl hW, List.forall_mem_cons.mpr ⟨rf71 xs rfl rfl hW, List.forall_mem_cons.mpr ⟨rf70 xs rfl rfl hW, List.forall_mem_cons.mpr ⟨rf69 xs rfl rfl hW, List.forall_mem_cons.mpr ⟨rf68 xs rfl rfl hW, List.forall_mem_cons.mpr ⟨rf67 xs rfl rfl hW, List.forall_mem_cons.mpr ⟨rf66 xs rfl rfl hW, List.forall_mem_cons.mpr ⟨rf65 xs rfl rfl hW, List.forall_mem_cons.mpr ⟨rf64 xs rfl rfl hW, List.forall_mem_cons.mpr ⟨rf63 xs rfl rfl hW, List.forall_mem_cons.mpr ⟨rf62 xs rfl rfl hW, List.forall_mem_cons.mpr ⟨rf61 xs rfl rfl hW, List.forall_mem_cons.mpr ⟨rf60 xs rfl rfl hW, List.forall_mem_cons.mpr ⟨rf59 xs rfl hW, List.forall_mem_cons.mpr ⟨rf58 xs rfl rfl hW, List.forall_mem_cons.mpr ⟨rf57 xs rfl rfl hW, List.forall_mem_cons.mpr ⟨rf56 xs rfl rfl hW, List.forall_mem_cons.mpr ⟨rf55 xs rfl rfl hW, List.forall_mem_cons.mpr ⟨rf54 xs rfl rfl hW, List.forall_mem_cons.mpr ⟨rf53 xs rfl rfl hW, fun q hq => absurd hq List.not_mem_nil⟩⟩⟩⟩⟩⟩⟩⟩⟩⟩⟩⟩⟩⟩⟩⟩⟩⟩⟩⟩⟩⟩⟩) (fun q hq => absurd hq List.not_mem_nil) hW
theorem dk28 : q_dk prog_9_method_2_code tb28 = true := by decide +kernel
theorem om28 (xs : List Int32) : q_okM (GG xs) PP M28 := by
  have hW : ∀ w ∈ LW, w ∈ q_ws M28 := fun w h => List.mem_cons_of_mem _ h
  exact q_okM_of (by decide) rfl dk28 (List.forall_mem_cons.mpr ⟨rf76 xs rfl hW, fun q hq => absurd hq List.not_mem_nil⟩) (fun q hq => absurd hq List.not_mem_nil) hW
theorem dk29 : q_dk prog_9_method_3_code tb29 = true := by decide +kernel
theorem om29 (xs : List Int32) : q_okM (GG xs) PP M29 := by
  have hW : ∀ w ∈ LW, w ∈ q_ws M29 := fun w h => List.mem_cons_of_mem _ h
  exact q_okM_of (by decide) rfl dk29 (List.forall_mem_cons.mpr ⟨rf76 xs rfl hW, fun q hq => absurd hq List.not_mem_nil⟩) (fun q hq => absurd hq List.not_mem_nil) hW
theorem dk30 : q_dk prog_9_method_4_code tb30 = true := by decide +kernel
theorem om30 (xs : List Int32) : q_okM (GG xs) PP M30 := by
  have hW : ∀ w ∈ LW, w ∈ q_ws M30 := fun w h => List.mem_cons_of_mem _ h
  exact q_okM_of (by decide) rfl dk30 (fun q hq => absurd hq List.not_mem_nil) (fun q hq => absurd hq List.not_mem_nil) hW
theorem dk31 : q_dk prog_9_method_5_code tb31 = true := by decide +kernel
theorem om31 (xs : List Int32) : q_okM (GG xs) PP M31 := by
  have hW : ∀ w ∈ LW, w ∈ q_ws M31 := fun w h => List.mem_cons_of_mem _ h
  exact q_okM_of (by decide) rfl dk31 (List.forall_mem_cons.mpr ⟨rf77 xs rfl hW, fun q hq => absurd hq List.not_mem_nil⟩) (fun q hq => absurd hq List.not_mem_nil) hW
theorem dk32 : q_dk prog_9_method_6_code tb32 = true := by decide +kernel
theorem om32 (xs : List Int32) : q_okM (GG xs) PP M32 := by
  have hW : ∀ w ∈ LW, w ∈ q_ws M32 := fun w h => List.mem_cons_of_mem _ h
  exact q_okM_of (by decide) rfl dk32 (List.forall_mem_cons.mpr ⟨rf78 xs rfl hW, fun q hq => absurd hq List.not_mem_nil⟩) (fun q hq => absurd hq List.not_mem_nil) hW
theorem dk33 : q_dk prog_9_method_7_code tb33 = true := by decide +kernel
theorem om33 (xs : List Int32) : q_okM (GG xs) PP M33 := by
  have hW : ∀ w ∈ LW, w ∈ q_ws M33 := fun w h => List.mem_cons_of_mem _ h
  exact q_okM_of (by decide) rfl dk33 (List.forall_mem_cons.mpr ⟨rf59 xs rfl hW, List.forall_mem_cons.mpr ⟨rc80 xs rfl hW ⟨Nat.le_of_ble_eq_true rfl, Nat.le_of_ble_eq_true rfl⟩, List.forall_mem_cons.mpr ⟨rf79 xs rfl hW, fun q hq => absurd hq List.not_mem_nil⟩⟩⟩) (fun q hq => absurd hq List.not_mem_nil) hW
theorem dk34 : q_dk prog_9_method_8_code tb34 = true := by decide +kernel
theorem om34 (xs : List Int32) : q_okM (GG xs) PP M34 := by
  have hW : ∀ w ∈ LW, w ∈ q_ws M34 := fun w h => List.mem_cons_of_mem _ h
  exact q_okM_of (by decide) rfl dk34 (List.forall_mem_cons.mpr ⟨rf89 xs rfl hW, List.forall_mem_cons.mpr ⟨rf88 xs rfl hW, List.forall_mem_cons.mpr ⟨rf87 xs rfl hW, List.forall_mem_cons.mpr ⟨rf86 xs rfl hW, List.forall_mem_cons.mpr ⟨rf85 xs rfl hW, List.forall_mem_cons.mpr ⟨rf84 xs rfl hW, List.forall_mem_cons.mpr ⟨rf76 xs rfl hW, List.forall_mem_cons.mpr ⟨rf77 xs rfl hW, List.forall_mem_cons.mpr ⟨rc83 xs rfl hW ⟨Nat.le_of_ble_eq_true rfl, Nat.le_of_ble_eq_true rfl⟩, List.forall_mem_cons.mpr ⟨rc82 xs rfl hW ⟨Nat.le_of_ble_eq_true rfl, Nat.le_of_ble_eq_true rfl⟩, List.forall_mem_cons.mpr ⟨rc81 xs rfl hW ⟨Nat.le_of_ble_eq_true rfl, Nat.le_of_ble_eq_true rfl⟩, fun q hq => absurd hq List.not_mem_nil⟩⟩⟩⟩⟩⟩⟩⟩⟩⟩⟩) (fun q hq => absurd hq List.not_mem_nil) hW
theorem dk35 : q_dk prog_9_method_9_code tb35 = true := by decide +kernel
theorem om35 (xs : List Int32) : q_okM (GG xs) PP M35 := by
  have hW : ∀ w ∈ LW, w ∈ q_ws M35 := fun w h => List.mem_cons_of_mem _ h
  exact q_okM_of (by decide) rfl dk35 (List.forall_mem_cons.mpr ⟨rc83 xs rfl hW ⟨Nat.le_of_ble_eq_true rfl, Nat.le_of_ble_eq_true rfl⟩, fun q hq => absurd hq List.not_mem_nil⟩) (fun q hq => absurd hq List.not_mem_nil) hW
theorem dk36 : q_dk prog_9_method_10_code tb36 = true := by decide +kernel
theorem om36 (xs : List Int32) : q_okM (GG xs) PP M36 := by
  have hW : ∀ w ∈ LW, w ∈ q_ws M36 := fun w h => List.mem_cons_of_mem _ h
  exact q_okM_of (by decide) rfl dk36 (List.forall_mem_cons.mpr ⟨rf92 xs rfl hW, List.forall_mem_cons.mpr ⟨rf76 xs rfl hW, List.forall_mem_cons.mpr ⟨rc81 xs rfl hW ⟨Nat.le_of_ble_eq_true rfl, Nat.le_of_ble_eq_true rfl⟩, List.forall_mem_cons.mpr ⟨rc91 xs rfl hW ⟨Nat.le_of_ble_eq_true rfl, Nat.le_of_ble_eq_true rfl⟩, List.forall_mem_cons.mpr ⟨rc90 xs rfl hW ⟨Nat.le_of_ble_eq_true rfl, Nat.le_of_ble_eq_true rfl⟩, fun q hq => absurd hq List.not_mem_nil⟩⟩⟩⟩⟩) (fun q hq => absurd hq List.not_mem_nil) hW
theorem dk37 : q_dk prog_9_method_11_code tb37 = true := by decide +kernel
theorem om37 (xs : List Int32) : q_okM (GG xs) PP M37 := by
  have hW : ∀ w ∈ LW, w ∈ q_ws M37 := fun w h => List.mem_cons_of_mem _ h
  exact q_okM_of (by decide) rfl dk37 (List.forall_mem_cons.mpr ⟨rf93 xs rfl hW, List.forall_mem_cons.mpr ⟨rf76 xs rfl hW, List.forall_mem_cons.mpr ⟨rc81 xs rfl hW ⟨Nat.le_of_ble_eq_true rfl, Nat.le_of_ble_eq_true rfl⟩, List.forall_mem_cons.mpr ⟨rc91 xs rfl hW ⟨Nat.le_of_ble_eq_true rfl, Nat.le_of_ble_eq_true rfl⟩, List.forall_mem_cons.mpr ⟨rc90 xs rfl hW ⟨Nat.le_of_ble_eq_true rfl, Nat.le_of_ble_eq_true rfl⟩, fun q hq => absurd hq List.not_mem_nil⟩⟩⟩⟩⟩) (fun q hq => absurd hq List.not_mem_nil) hW
theorem dk38 : q_dk prog_9_method_12_code tb38 = true := by decide +kernel
theorem om38 (xs : List Int32) : q_okM (GG xs) PP M38 := by
  have hW : ∀ w ∈ LW, w ∈ q_ws M38 := fun w h => List.mem_cons_of_mem _ h
  exact q_okM_of (by decide) rfl dk38 (List.forall_mem_cons.mpr ⟨rf89 xs rfl hW, List.forall_mem_cons.mpr ⟨rf88 xs rfl hW, List.forall_mem_cons.mpr ⟨rf94 xs rfl hW, List.forall_mem_cons.mpr ⟨rf84 xs rfl hW, List.forall_mem_cons.mpr ⟨rf76 xs rfl hW, List.forall_mem_cons.mpr ⟨rc83 xs rfl hW ⟨Nat.le_of_ble_eq_true rfl, Nat.le_of_ble_eq_true rfl⟩, List.forall_mem_cons.mpr ⟨rc81 xs rfl hW ⟨Nat.le_of_ble_eq_true rfl, Nat.le_of_ble_eq_true rfl⟩, List.forall_mem_cons.mpr ⟨rc91 xs rfl hW ⟨Nat.le_of_ble_eq_true rfl, Nat.le_of_ble_eq_true rfl⟩, fun q hq => absurd hq List.not_mem_nil⟩⟩⟩⟩⟩⟩⟩⟩) (fun q hq => absurd hq List.not_mem_nil) hW
theorem dk39 : q_dk prog_9_method_13_code tb39 = true := by decide +kernel
theorem om39 (xs : List Int32) : q_okM (GG xs) PP M39 := by
  have hW : ∀ w ∈ LW, w ∈ q_ws M39 := fun w h => List.mem_cons_of_mem _ h
  exact q_okM_of (by decide) rfl dk39 (List.forall_mem_cons.mpr ⟨rf97 xs rfl hW, List.forall_mem_cons.mpr ⟨rf96 xs rfl hW, List.forall_mem_cons.mpr ⟨rf76 xs rfl hW, List.forall_mem_cons.mpr ⟨rc83 xs rfl hW ⟨Nat.le_of_ble_eq_true rfl, Nat.le_of_ble_eq_true rfl⟩, List.forall_mem_cons.mpr ⟨rc81 xs rfl hW ⟨Nat.le_of_ble_eq_true rfl, Nat.le_of_ble_eq_true rfl⟩, List.forall_mem_cons.mpr ⟨rc95 xs rfl hW ⟨Nat.le_of_ble_eq_true rfl, Nat.le_of_ble_eq_true rfl⟩, fun q hq => absurd hq List.not_mem_nil⟩⟩⟩⟩⟩⟩) (fun q hq => absurd hq List.not_mem_nil) hW
theorem dk40 : q_dk prog_9_method_14_code tb40 = true := by decide +kernel
theorem om40 (xs : List Int32) : q_okM (GG xs) PP M40 := by
  have hW : ∀ w ∈ LW, w ∈ q_ws M40 := fun w h => List.mem_cons_of_mem _ h
  exact q_okM_of (by decide) rfl dk40 (List.forall_mem_cons.mpr ⟨rf89 xs rfl hW, List.forall_mem_cons.mpr ⟨rf94 xs rfl hW, List.forall_mem_cons.mpr ⟨rf84 xs rfl hW, fun q hq => absurd hq List.not_mem_nil⟩⟩⟩) (fun q hq => absurd hq List.not_mem_nil) hW
theorem dk41 : q_dk prog_9_method_15_code tb41 = true := by decide +kernel
theorem om41 (xs : List Int32) : q_okM (GG xs) PP M41 := by
  have hW : ∀ w ∈ LW, w ∈ q_ws M41 := fun w h => List.mem_cons_of_mem _ h
  exact q_okM_of (by decide) rfl dk41 (fun q hq => absurd hq List.not_mem_nil) (fun q hq => absurd hq List.not_mem_nil) hW
theorem dk42 : q_dk prog_9_method_16_code tb42 = true := by decide +kernel
theorem om42 (xs : List Int32) : q_okM (GG xs) PP M42 := by
  have hW : ∀ w ∈ LW, w ∈ q_ws M42 := fun w h => List.mem_cons_of_mem _ h
  exact q_okM_of (by decide) rfl dk42 (List.forall_mem_cons.mpr ⟨rf89 xs rfl hW, List.forall_mem_cons.mpr ⟨rf88 xs rfl hW, List.forall_mem_cons.mpr ⟨rf87 xs rfl hW, List.forall_mem_cons.mpr ⟨rf86 xs rfl hW, List.forall_mem_cons.mpr ⟨rf85 xs rfl hW, List.forall_mem_cons.mpr ⟨rc98 xs rfl hW ⟨Nat.le_of_ble_eq_true rfl, Nat.le_of_ble_eq_true rfl⟩, fun q hq => absurd hq List.not_mem_nil⟩⟩⟩⟩⟩⟩) (fun q hq => absurd hq List.not_mem_nil) hW
theorem dk43 : q_dk prog_9_method_17_code tb43 = true := by decide +kernel
theorem om43 (xs : List Int32) : q_okM (GG xs) PP M43 := by
  have hW : ∀ w ∈ LW, w ∈ q_ws M43 := fun w h => List.mem_cons_of_mem _ h
  exact q_okM_of (by decide) rfl dk43 (List.forall_mem_cons.mpr ⟨rf92 xs rfl hW, List.forall_mem_cons.mpr ⟨rf93 xs rfl hW, fun q hq => absurd hq List.not_mem_nil⟩⟩) (fun q hq => absurd hq List.not_mem_nil) hW
theorem dk44 : q_dk prog_9_method_18_code tb44 = true := by decide +kernel
theorem om44 (xs : List Int32) : q_okM (GG xs) PP M44 := by
  have hW : ∀ w ∈ LW, w ∈ q_ws M44 := fun w h => List.mem_cons_of_mem _ h
  exact q_okM_of (by decide) rfl dk44 (List.forall_mem_cons.mpr ⟨rf89 xs rfl hW, fun q hq => absurd hq List.not_mem_nil⟩) (fun q hq => absurd hq List.not_mem_nil) hW
theorem dk45 : q_dk prog_9_method_19_code tb45 = true := by decide +kernel
theorem om45 (xs : List Int32) : q_okM (GG xs) PP M45 := by
  have hW : ∀ w ∈ LW, w ∈ q_ws M45 := fun w h => List.mem_cons_of_mem _ h
  exact q_okM_of (by decide) rfl dk45 (fun q hq => absurd hq List.not_mem_nil) (fun q hq => absurd hq List.not_mem_nil) hW
theorem dk46 : q_dk prog_9_method_20_code tb46 = true := by decide +kernel
theorem om46 (xs : List Int32) : q_okM (GG xs) PP M46 := by
  have hW : ∀ w ∈ LW, w ∈ q_ws M46 := fun w h => List.mem_cons_of_mem _ h
  exact q_okM_of (by decide) rfl dk46 (List.forall_mem_cons.mpr ⟨rf99 xs rfl hW, fun q hq => absurd hq List.not_mem_nil⟩) (fun q hq => absurd hq List.not_mem_nil) hW
theorem dk47 : q_dk prog_9_method_21_code tb47 = true := by decide +kernel
theorem om47 (xs : List Int32) : q_okM (GG xs) PP M47 := by
  have hW : ∀ w ∈ LW, w ∈ q_ws M47 := fun w h => List.mem_cons_of_mem _ h
  exact q_okM_of (by decide) rfl dk47 (List.forall_mem_cons.mpr ⟨rf89 xs rfl hW, List.forall_mem_cons.mpr ⟨rf88 xs rfl hW, List.forall_mem_cons.mpr ⟨rf97 xs rfl hW, List.forall_mem_cons.mpr ⟨rf96 xs rfl hW, List.forall_mem_cons.mpr ⟨rf102 xs rfl hW, List.forall_mem_cons.mpr ⟨rf77 xs rfl hW, List.forall_mem_cons.mpr ⟨rf101 xs rfl hW, List.forall_mem_cons.mpr ⟨rc100 xs rfl hW ⟨Nat.le_of_ble_eq_true rfl, Nat.le_of_ble_eq_true rfl⟩, fun q hq => absurd hq List.not_mem_nil⟩⟩⟩⟩⟩⟩⟩⟩) (fun q hq => absurd hq List.not_mem_nil) hW
theorem dk48 : q_dk prog_9_method_22_code tb48 = true := by decide +kernel
theorem om48 (xs : List Int32) : q_okM (GG xs) PP M48 := by
  have hW : ∀ w ∈ LW, w ∈ q_ws M48 := fun w h => List.mem_cons_of_mem _ h
  exact q_okM_of (by decide) rfl dk48 (List.forall_mem_cons.mpr ⟨rf102 xs rfl hW, List.forall_mem_cons.mpr ⟨rf77 xs rfl hW, List.forall_mem_cons.mpr ⟨rc104 xs rfl hW ⟨Nat.le_of_ble_eq_true rfl, Nat.le_of_ble_eq_true rfl⟩, List.forall_mem_cons.mpr ⟨rc103 xs rfl hW ⟨Nat.le_of_ble_eq_true rfl, Nat.le_of_ble_eq_true rfl⟩, fun q hq => absurd hq List.not_mem_nil⟩⟩⟩⟩) (fun q hq => absurd hq List.not_mem_nil) hW
theorem dk49 : q_dk prog_9_method_23_code tb49 = true := by decide +kernel
theorem om49 (xs : List Int32) : q_okM (GG xs) PP M49 := by
  have hW : ∀ w ∈ LW, w ∈ q_ws M49 := fun w h => List.mem_cons_of_mem _ h
  exact q_okM_of (by decide) rfl dk49 (List.forall_mem_cons.mpr ⟨rf102 xs rfl hW, List.forall_mem_cons.mpr ⟨rf77 xs rfl hW, List.forall_mem_cons.mpr ⟨rc104 xs rfl hW ⟨Nat.le_of_ble_eq_true rfl, Nat.le_of_ble_eq_true rfl⟩, List.forall_mem_cons.mpr ⟨rc105 xs rfl hW ⟨Nat.le_of_ble_eq_true rfl, Nat.le_of_ble_eq_true rfl⟩, fun q hq => absurd hq List.not_mem_nil⟩⟩⟩⟩) (fun q hq => absurd hq List.not_mem_nil) hW
theorem dk50 : q_dk prog_9_method_24_code tb50 = true := by decide +kernel
theorem om50 (xs : List Int32) : q_okM (GG xs) PP M50 := by
  have hW : ∀ w ∈ LW, w ∈ q_ws M50 := fun w h => List.mem_cons_of_mem _ h
  exact q_okM_of (by decide) rfl dk50 (List.forall_mem_cons.mpr ⟨rf109 xs rfl hW, List.forall_mem_cons.mpr ⟨rf77 xs rfl hW, List.forall_mem_cons.mpr ⟨rf101 xs rfl hW, List.forall_mem_cons.mpr ⟨rc108 xs rfl hW ⟨Nat.le_of_ble_eq_true rfl, Nat.le_of_ble_eq_true rfl⟩, List.forall_mem_cons.mpr ⟨rc107 xs rfl hW ⟨Nat.le_of_ble_eq_true rfl, Nat.le_of_ble_eq_true rfl⟩, List.forall_mem_cons.mpr ⟨rc106 xs rfl hW ⟨Nat.le_of_ble_eq_true rfl, Nat.le_of_ble_eq_true rfl⟩, fun q hq => absurd hq List.not_mem_nil⟩⟩⟩⟩⟩⟩) (List.forall_mem_cons.mpr ⟨⟨fun x h => by cases h; exact hW _ mw_898, fun x h => by cases h⟩, fun q hq => absurd hq List.not_mem_nil⟩) hW
theorem dk51 : q_dk prog_9_method_25_code tb51 = true := by decide +kernel
theorem om51 (xs : List Int32) : q_okM (GG xs) PP M51 := by
  have hW : ∀ w ∈ LW, w ∈ q_ws M51 := fun w h => List.mem_cons_of_mem _ h
  exact q_okM_of (by decide) rfl dk51 (List.forall_mem_cons.mpr ⟨rf99 xs rfl hW, List.forall_mem_cons.mpr ⟨rf109 xs rfl hW, List.forall_mem_cons.mpr ⟨rf102 xs rfl hW, List.forall_mem_cons.mpr ⟨rf78 xs rfl hW, List.forall_mem_cons.mpr ⟨rf77 xs rfl hW, List.forall_mem_cons.mpr ⟨rc108 xs rfl hW ⟨Nat.le_of_ble_eq_true rfl, Nat.le_of_ble_eq_true rfl⟩, List.forall_mem_cons.mpr ⟨rc107 xs rfl hW ⟨Nat.le_of_ble_eq_true rfl, Nat.le_of_ble_eq_true rfl⟩, List.forall_mem_cons.mpr ⟨rc106 xs rfl hW ⟨Nat.le_of_ble_eq_true rfl, Nat.le_of_ble_eq_true rfl⟩, List.forall_mem_cons.mpr ⟨rc112 xs rfl hW ⟨Nat.le_of_ble_eq_true rfl, Nat.le_of_ble_eq_true rfl⟩, List.forall_mem_cons.mpr ⟨rc111 xs rfl hW ⟨Nat.le_of_ble_eq_true rfl, Nat.le_of_ble_eq_true rfl⟩, List.forall_mem_cons.mpr ⟨rc110 xs rfl hW ⟨Nat.le_of_ble_eq_true rfl, Nat.le_of_ble_eq_true rfl⟩, fun q hq => absurd hq List.not_mem_nil⟩⟩⟩⟩⟩⟩⟩⟩⟩⟩⟩) (List.forall_mem_cons.mpr ⟨⟨fun x h => by cases h; exact hW _ mw_898, fun x h => by cases h⟩, fun q hq => absurd hq List.not_mem_nil⟩) hW
theorem dk52 : q_dk prog_9_method_26_code tb52 = true := by decide +kernel
theorem om52 (xs : List Int32) : q_okM (GG xs) PP M52 := by
  have hW : ∀ w ∈ LW, w ∈ q_ws M52 := fun w h => List.mem_cons_of_mem _ h
  exact q_okM_of (by decide) rfl dk52 (List.forall_mem_cons.mpr ⟨rf76 xs rfl hW, List.forall_mem_cons.mpr ⟨rc113 xs rfl hW ⟨Nat.le_of_ble_eq_true rfl, Nat.le_of_ble_eq_true rfl⟩, fun q hq => absurd hq List.not_mem_nil⟩⟩) (fun q hq => absurd hq List.not_mem_nil) hW
theorem dk53 : q_dk prog_9_method_27_code tb53 = true := by decide +kernel
theorem om53 (xs : List Int32) : q_okM (GG xs) PP M53 := by
  have hW : ∀ w ∈ LW, w ∈ q_ws M53 := fun w h => List.mem_cons_of_mem _ h
  exact q_okM_of (by decide) rfl dk53 (List.forall_mem_cons.mpr ⟨rf76 xs rfl hW, List.forall_mem_cons.mpr ⟨rc113 xs rfl hW ⟨Nat.le_of_ble_eq_true rfl, Nat.le_of_ble_eq_true rfl⟩, fun q hq => absurd hq List.not_mem_nil⟩⟩) (fun q hq => absurd hq List.not_mem_nil) hW
theorem dk54 : q_dk prog_9_method_28_code tb54 = true := by decide +kernel
theorem om54 (xs : List Int32) : q_okM (GG xs) PP M54 := by
  have hW : ∀ w ∈ LW, w ∈ q_ws M54 := fun w h => List.mem_cons_of_mem _ h
  exact q_okM_of (by decide) rfl dk54 (List.forall_mem_cons.mpr ⟨rf99 xs rfl hW, List.forall_mem_cons.mpr ⟨rf76 xs rfl hW, List.forall_mem_cons.mpr ⟨rc82 xs rfl hW ⟨Nat.le_of_ble_eq_true rfl, Nat.le_of_ble_eq_true rfl⟩, List.forall_mem_cons.mpr ⟨rc91 xs rfl hW ⟨Nat.le_of_ble_eq_true rfl, Nat.le_of_ble_eq_true rfl⟩, List.forall_mem_cons.mpr ⟨rc95 xs rfl hW ⟨Nat.le_of_ble_eq_true rfl, Nat.le_of_ble_eq_true rfl⟩, fun q hq => absurd hq List.not_mem_nil⟩⟩⟩⟩⟩) (fun q hq => absurd hq List.not_mem_nil) hW
theorem dk55 : q_dk prog_9_method_29_code tb55 = true := by decide +kernel
theorem om55 (xs : List Int32) : q_okM (GG xs) PP M55 := by
  have hW : ∀ w ∈ LW, w ∈ q_ws M55 := fun w h => List.mem_cons_of_mem _ h
  exact q_okM_of (by decide) rfl dk55 (List.forall_mem_cons.mpr ⟨rf99 xs rfl hW, List.forall_mem_cons.mpr ⟨rf76 xs rfl hW, List.forall_mem_cons.mpr ⟨rc83 xs rfl hW ⟨Nat.le_of_ble_eq_true rfl, Nat.le_of_ble_eq_true rfl⟩, List.forall_mem_cons.mpr ⟨rc91 xs rfl hW ⟨Nat.le_of_ble_eq_true rfl, Nat.le_of_ble_eq_true rfl⟩, List.forall_mem_cons.mpr ⟨rc95 xs rfl hW ⟨Nat.le_of_ble_eq_true rfl, Nat.le_of_ble_eq_true rfl⟩, fun q hq => absurd hq List.not_mem_nil⟩⟩⟩⟩⟩) (fun q hq => absurd hq List.not_mem_nil) hW
theorem dk56 : q_dk prog_9_method_30_code tb56 = true := by decide +kernel
theorem om56 (xs : List Int32) : q_okM (GG xs) PP M56 := by
  have hW : ∀ w ∈ LW, w ∈ q_ws M56 := fun w h => List.mem_cons_of_mem _ h
  exact q_okM_of (by decide) rfl dk56 (List.forall_mem_cons.mpr ⟨rf94 xs rfl hW, List.forall_mem_cons.mpr ⟨rf99 xs rfl hW, fun q hq => absurd hq List.not_mem_nil⟩⟩) (fun q hq => absurd hq List.not_mem_nil) hW
theorem dk57 : q_dk prog_9_method_31_code tb57 = true := by decide +kernel
theorem om57 (xs : List Int32) : q_okM (GG xs) PP M57 := by
  have hW : ∀ w ∈ LW, w ∈ q_ws M57 := fun w h => List.mem_cons_of_mem _ h
  exact q_okM_of (by decide) rfl dk57 (List.forall_mem_cons.mpr ⟨rf94 xs rfl hW, List.forall_mem_cons.mpr ⟨rf84 xs rfl hW, List.forall_mem_cons.mpr ⟨rf99 xs rfl hW, List.forall_mem_cons.mpr ⟨rc114 xs rfl hW ⟨Nat.le_of_ble_eq_true rfl, Nat.le_of_ble_eq_true rfl⟩, fun q hq => absurd hq List.not_mem_nil⟩⟩⟩⟩) (fun q hq => absurd hq List.not_mem_nil) hW
theorem dk58 : q_dk prog_9_method_32_code tb58 = true := by decide +kernel
theorem om58 (xs : List Int32) : q_okM (GG xs) PP M58 := by
  have hW : ∀ w ∈ LW, w ∈ q_ws M58 := fun w h => List.mem_cons_of_mem _ h
  exact q_okM_of (by decide) rfl dk58 (List.forall_mem_cons.mpr ⟨rf89 xs rfl hW, List.forall_mem_cons.mpr ⟨rf88 xs rfl hW, List.forall_mem_cons.mpr ⟨rf87 xs rfl hW, List.forall_mem_cons.mpr ⟨rf86 xs rfl hW, List.forall_mem_cons.mpr ⟨rf85 xs rfl hW, List.forall_mem_cons.mpr ⟨rf99 xs rfl hW, List.forall_mem_cons.mpr ⟨rc83 xs rfl hW ⟨Nat.le_of_ble_eq_true rfl, Nat.le_of_ble_eq_true rfl⟩, List.forall_mem_cons.mpr ⟨rc114 xs rfl hW ⟨Nat.le_of_ble_eq_true rfl, Nat.le_of_ble_eq_true rfl⟩, List.forall_mem_cons.mpr ⟨rc115 xs rfl hW ⟨Nat.le_of_ble_eq_true rfl, Nat.le_of_ble_eq_true rfl⟩, fun q hq => absurd hq List.not_mem_nil⟩⟩⟩⟩⟩⟩⟩⟩⟩) (fun q hq => absurd hq List.not_mem_nil) hW
theorem dk59 : q_dk prog_9_method_33_code tb59 = true := by decide +kernel
theorem om59 (xs : List Int32) : q_okM (GG xs) PP M59 := by
  have hW : ∀ w ∈ LW, w ∈ q_ws M59 := fun w h => List.mem_cons_of_mem _ h
  exact q_okM_of (by decide) rfl dk59 (List.forall_mem_cons.mpr ⟨rf88 xs rfl hW, List.forall_mem_cons.mpr ⟨rf97 xs rfl hW, List.forall_mem_cons.mpr ⟨rf96 xs rfl hW, List.forall_mem_cons.mpr ⟨rf99 xs rfl hW, List.forall_mem_cons.mpr ⟨rf78 xs rfl hW, List.forall_mem_cons.mpr ⟨rf76 xs rfl hW, List.forall_mem_cons.mpr ⟨rf77 xs rfl hW, List.forall_mem_cons.mpr ⟨rc100 xs rfl hW ⟨Nat.le_of_ble_eq_true rfl, Nat.le_of_ble_eq_true rfl⟩, List.forall_mem_cons.mpr ⟨rc116 xs rfl hW ⟨Nat.le_of_ble_eq_true rfl, Nat.le_of_ble_eq_true rfl⟩, fun q hq => absurd hq List.not_mem_nil⟩⟩⟩⟩⟩⟩⟩⟩⟩) (fun q hq => absurd hq List.not_mem_nil) hW
theorem dk60 : q_dk prog_9_method_34_code tb60 = true := by decide +kernel
theorem om60 (xs : List Int32) : q_okM (GG xs) PP M60 := by
  have hW : ∀ w ∈ LW, w ∈ q_ws M60 := fun w h => List.mem_cons_of_mem _ h
  exact q_okM_of (by decide) rfl dk60 (List.forall_mem_cons.mpr ⟨rf89 xs rfl hW, List.forall_mem_cons.mpr ⟨rf92 xs rfl hW, List.forall_mem_cons.mpr ⟨rf93 xs rfl hW, List.forall_mem_cons.mpr ⟨rf99 xs rfl hW, List.forall_mem_cons.mpr ⟨rf78 xs rfl hW, List.forall_mem_cons.mpr ⟨rf77 xs rfl hW, List.forall_mem_cons.mpr ⟨rc83 xs rfl hW ⟨Nat.le_of_ble_eq_true rfl, Nat.le_of_ble_eq_true rfl⟩, List.forall_mem_cons.mpr ⟨rc82 xs rfl hW ⟨Nat.le_of_ble_eq_true rfl, Nat.le_of_ble_eq_true rfl⟩, List.forall_mem_cons.mpr ⟨rc100 xs rfl hW ⟨Nat.le_of_ble_eq_true rfl, Nat.le_of_ble_eq_true rfl⟩, List.forall_mem_cons.mpr ⟨rc114 xs rfl hW ⟨Nat.le_of_ble_eq_true rfl, Nat.le_of_ble_eq_true rfl⟩, List.forall_mem_cons.mpr ⟨rc115 xs rfl hW ⟨Nat.le_of_ble_eq_true rfl, Nat.le_of_ble_eq_true rfl⟩, List.forall_mem_cons.mpr ⟨rc117 xs rfl hW ⟨Nat.le_of_ble_eq_true rfl, Nat.le_of_ble_eq_true rfl⟩, fun q hq => absurd hq List.not_mem_nil⟩⟩⟩⟩⟩⟩⟩⟩⟩⟩⟩⟩) (fun q hq => absurd hq List.not_mem_nil) hW
theorem dk61 : q_dk prog_9_method_35_code tb61 = true := by decide +kernel
theorem om61 (xs : List Int32) : q_okM (GG xs) PP M61 := by
  have hW : ∀ w ∈ LW, w ∈ q_ws M61 := fun w h => List.mem_cons_of_mem _ h
  exact q_okM_of (by decide) rfl dk61 (List.forall_mem_cons.mpr ⟨rf118 xs rfl hW, List.forall_mem_cons.mpr ⟨rf76 xs rfl hW, List.forall_mem_cons.mpr ⟨rc83 xs rfl hW ⟨Nat.le_of_ble_eq_true rfl, Nat.le_of_ble_eq_true rfl⟩, List.forall_mem_cons.mpr ⟨rc81 xs rfl hW ⟨Nat.le_of_ble_eq_true rfl, Nat.le_of_ble_eq_true rfl⟩, List.forall_mem_cons.mpr ⟨rc95 xs rfl hW ⟨Nat.le_of_ble_eq_true rfl, Nat.le_of_ble_eq_true rfl⟩, fun q hq => absurd hq List.not_mem_nil⟩⟩⟩⟩⟩) (List.forall_mem_cons.mpr ⟨⟨fun x h => by cases h; exact hW _ mw_947, fun x h => by cases h⟩, List.forall_mem_cons.mpr ⟨⟨fun x h => by cases h; exact hW _ mw_948, fun x h => by cases h⟩, fun q hq => absurd hq List.not_mem_nil⟩⟩) hW
theorem dk62 : q_dk prog_9_method_36_code tb62 = true := by decide +kernel
theorem om62 (xs : List Int32) : q_okM (GG xs) PP M62 := by
  have hW : ∀ w ∈ LW, w ∈ q_ws M62 := fun w h => List.mem_cons_of_mem _ h
  exact q_okM_of (by decide) rfl dk62 (List.forall_mem_cons.mpr ⟨rf118 xs rfl hW, List.forall_mem_cons.mpr ⟨rf76 xs rfl hW, List.forall_mem_cons.mpr ⟨rc82 xs rfl hW ⟨Nat.le_of_ble_eq_true rfl, Nat.le_of_ble_eq_true rfl⟩, List.forall_mem_cons.mpr ⟨rc95 xs rfl hW ⟨Nat.le_of_ble_eq_true rfl, Nat.le_of_ble_eq_true rfl⟩, fun q hq => absurd hq List.not_mem_nil⟩⟩⟩⟩) (fun q hq => absurd hq List.not_mem_nil) hW
theorem dk63 : q_dk prog_9_method_37_code tb63 = true := by decide +kernel
theorem om63 (xs : List Int32) : q_okM (GG xs) PP M63 := by
  have hW : ∀ w ∈ LW, w ∈ q_ws M63 := fun w h => List.mem_cons_of_mem _ h
  exact q_okM_of (by decide) rfl dk63 (List.forall_mem_cons.mpr ⟨rf118 xs rfl hW, List.forall_mem_cons.mpr ⟨rc105 xs rfl hW ⟨Nat.le_of_ble_eq_true rfl, Nat.le_of_ble_eq_true rfl⟩, List.forall_mem_cons.mpr ⟨rc110 xs rfl hW ⟨Nat.le_of_ble_eq_true rfl, Nat.le_of_ble_eq_true rfl⟩, fun q hq => absurd hq List.not_mem_nil⟩⟩⟩) (fun q hq => absurd hq List.not_mem_nil) hW
theorem dk64 : q_dk prog_9_method_38_code tb64 = true := by decide +kernel
theorem om64 (xs : List Int32) : q_okM (GG xs) PP M64 := by
  have hW : ∀ w ∈ LW, w ∈ q_ws M64 := fun w h => List.mem_cons_of_mem _ h
  exact q_okM_of (by decide) rfl dk64 (List.forall_mem_cons.mpr ⟨rf120 xs rfl hW, List.forall_mem_cons.mpr ⟨rc103 xs rfl hW ⟨Nat.le_of_ble_eq_true rfl, Nat.le_of_ble_eq_true rfl⟩, List.forall_mem_cons.mpr ⟨rc119 xs rfl hW ⟨Nat.le_of_ble_eq_true rfl, Nat.le_of_ble_eq_true rfl⟩, fun q hq => absurd hq List.not_mem_nil⟩⟩⟩) (List.forall_mem_cons.mpr ⟨⟨fun x h => (by cases h), fun x h => by cases h; exact hW _ mw_823⟩, fun q hq => absurd hq List.not_mem_nil⟩) hW
theorem dk65 : q_dk prog_9_method_39_code tb65 = true := by decide +kernel
theorem om65 (xs : List Int32) : q_okM (GG xs) PP M65 := by
  have hW : ∀ w ∈ LW, w ∈ q_ws M65 := fun w h => List.mem_cons_of_mem _ h
  exact q_okM_of (by decide) rfl dk65 (List.forall_mem_cons.mpr ⟨rf120 xs rfl hW, List.forall_mem_cons.mpr ⟨rf123 xs rfl hW, List.forall_mem_cons.mpr ⟨rf122 xs rfl hW, List.forall_mem_cons.mpr ⟨rf78 xs rfl hW, List.forall_mem_cons.mpr ⟨rc103 xs rfl hW ⟨Nat.le_of_ble_eq_true rfl, Nat.le_of_ble_eq_true rfl⟩, List.forall_mem_cons.mpr ⟨rc111 xs rfl hW ⟨Nat.le_of_ble_eq_true rfl, Nat.le_of_ble_eq_true rfl⟩, List.forall_mem_cons.mpr ⟨rc110 xs rfl hW ⟨Nat.le_of_ble_eq_true rfl, Nat.le_of_ble_eq_true rfl⟩, List.forall_mem_cons.mpr ⟨rc121 xs rfl hW ⟨Nat.le_of_ble_eq_true rfl, Nat.le_of_ble_eq_true rfl⟩, fun q hq => absurd hq List.not_mem_nil⟩⟩⟩⟩⟩⟩⟩⟩) (List.forall_mem_cons.mpr ⟨⟨fun x h => (by cases h), fun x h => by cases h; exact hW _ mw_823⟩, fun q hq => absurd hq List.not_mem_nil⟩) hW
theorem dk66 : q_dk prog_9_method_40_code tb66 = true := by decide +kernel
theorem om66 (xs : List Int32) : q_okM (GG xs) PP M66 := by
  have hW : ∀ w ∈ LW, w ∈ q_ws M66 := fun w h => List.mem_cons_of_mem _ h
  exact q_okM_of (by decide) rfl dk66 (List.forall_mem_cons.mpr ⟨rf97 xs rfl hW, List.forall_mem_cons.mpr ⟨rf118 xs rfl hW, List.forall_mem_cons.mpr ⟨rf122 xs rfl hW, List.forall_mem_cons.mpr ⟨rf78 xs rfl hW, List.forall_mem_cons.mpr ⟨rf77 xs rfl hW, List.forall_mem_cons.mpr ⟨rc124 xs rfl hW ⟨Nat.le_of_ble_eq_true rfl, Nat.le_of_ble_eq_true rfl⟩, fun q hq => absurd hq List.not_mem_nil⟩⟩⟩⟩⟩⟩) (fun q hq => absurd hq List.not_mem_nil) hW
theorem dk67 : q_dk prog_9_method_41_code tb67 = true := by decide +kernel
theorem om67 (xs : List Int32) : q_okM (GG xs) PP M67 := by
  have hW : ∀ w ∈ LW, w ∈ q_ws M67 := fun w h => List.mem_cons_of_mem _ h
  exact q_okM_of (by decide) rfl dk67 (List.forall_mem_cons.mpr ⟨rf122 xs rfl hW, List.forall_mem_cons.mpr ⟨rf76 xs rfl hW, List.forall_mem_cons.mpr ⟨rc82 xs rfl hW ⟨Nat.le_of_ble_eq_true rfl, Nat.le_of_ble_eq_true rfl⟩, List.forall_mem_cons.mpr ⟨rc91 xs rfl hW ⟨Nat.le_of_ble_eq_true rfl, Nat.le_of_ble_eq_true rfl⟩, List.forall_mem_cons.mpr ⟨rc124 xs rfl hW ⟨Nat.le_of_ble_eq_true rfl, Nat.le_of_ble_eq_true rfl⟩, fun q hq => absurd hq List.not_mem_nil⟩⟩⟩⟩⟩) (fun q hq => absurd hq List.not_mem_nil) hW
theorem dk68 : q_dk prog_9_method_42_code tb68 = true := by decide +kernel
theorem om68 (xs : List Int32) : q_okM (GG xs) PP M68 := by
  have hW : ∀ w ∈ LW, w ∈ q_ws M68 := fun w h => List.mem_cons_of_mem _ h
  exact q_okM_of (by decide) rfl dk68 (List.forall_mem_cons.mpr ⟨rf123 xs rfl hW, List.forall_mem_cons.mpr ⟨rf76 xs rfl hW, List.forall_mem_cons.mpr ⟨rc82 xs rfl hW ⟨Nat.le_of_ble_eq_true rfl, Nat.le_of_ble_eq_true rfl⟩, List.forall_mem_cons.mpr ⟨rc91 xs rfl hW ⟨Nat.le_of_ble_eq_true rfl, Nat.le_of_ble_eq_true rfl⟩, List.forall_mem_cons.mpr ⟨rc95 xs rfl hW ⟨Nat.le_of_ble_eq_true rfl, Nat.le_of_ble_eq_true rfl⟩, List.forall_mem_cons.mpr ⟨rc124 xs rfl hW ⟨Nat.le_of_ble_eq_true rfl, Nat.le_of_ble_eq_true rfl⟩, fun q hq => absurd hq List.not_mem_nil⟩⟩⟩⟩⟩⟩) (fun q hq => absurd hq List.not_mem_nil) hW
theorem dk69 : q_dk prog_9_method_43_code tb69 = true := by decide +kernel
theorem om69 (xs : List Int32) : q_okM (GG xs) PP M69 := by
  have hW : ∀ w ∈ LW, w ∈ q_ws M69 := fun w h => List.mem_cons_of_mem _ h
  exact q_okM_of (by decide) rfl dk69 (List.forall_mem_cons.mpr ⟨rf76 xs rfl hW, List.forall_mem_cons.mpr ⟨rc80 xs rfl hW ⟨Nat.le_of_ble_eq_true rfl, Nat.le_of_ble_eq_true rfl⟩, fun q hq => absurd hq List.not_mem_nil⟩⟩) (fun q hq => absurd hq List.not_mem_nil) hW
theorem dk70 : q_dk prog_9_method_44_code tb70 = true := by decide +kernel
theorem om70 (xs : List Int32) : q_okM (GG xs) PP M70 := by
  have hW : ∀ w ∈ LW, w ∈ q_ws M70 := fun w h => List.mem_cons_of_mem _ h
  exact q_okM_of (by decide) rfl dk70 (List.forall_mem_cons.mpr ⟨rf97 xs rfl hW, List.forall_mem_cons.mpr ⟨rf118 xs rfl hW, List.forall_mem_cons.mpr ⟨rf59 xs rfl hW, List.forall_mem_cons.mpr ⟨rf123 xs rfl hW, List.forall_mem_cons.mpr ⟨rf78 xs rfl hW, List.forall_mem_cons.mpr ⟨rf77 xs rfl hW, List.forall_mem_cons.mpr ⟨rc80 xs rfl hW ⟨Nat.le_of_ble_eq_true rfl, Nat.le_of_ble_eq_true rfl⟩, List.forall_mem_cons.mpr ⟨rf79 xs rfl hW, fun q hq => absurd hq List.not_mem_nil⟩⟩⟩⟩⟩⟩⟩⟩) (List.forall_mem_cons.mpr ⟨⟨fun x h => by cases h; exact hW _ mw_947, fun x h => by cases h⟩, List.forall_mem_cons.mpr ⟨⟨fun x h => by cases h; exact hW _ mw_948, fun x h => by cases h⟩, fun q hq => absurd hq List.not_mem_nil⟩⟩) hW
theorem dk71 : q_dk prog_9_method_45_code tb71 = true := by decide +kernel
theorem om71 (xs : List Int32) : q_okM (GG xs) PP M71 := by
  have hW : ∀ w ∈ LW, w ∈ q_ws M71 := fun w h => List.mem_cons_of_mem _ h
  exact q_okM_of (by decide) rfl dk71 (List.forall_mem_cons.mpr ⟨rf76 xs rfl hW, List.forall_mem_cons.mpr ⟨rf79 xs rfl hW, List.forall_mem_cons.mpr ⟨rc83 xs rfl hW ⟨Nat.le_of_ble_eq_true rfl, Nat.le_of_ble_eq_true rfl⟩, List.forall_mem_cons.mpr ⟨rc82 xs rfl hW ⟨Nat.le_of_ble_eq_true rfl, Nat.le_of_ble_eq_true rfl⟩, List.forall_mem_cons.mpr ⟨rc125 xs rfl hW ⟨Nat.le_of_ble_eq_true rfl, Nat.le_of_ble_eq_true rfl⟩, fun q hq => absurd hq List.not_mem_nil⟩⟩⟩⟩⟩) (fun q hq => absurd hq List.not_mem_nil) hW
theorem dk72 : q_dk prog_9_method_46_code tb72 = true := by decide +kernel
theorem om72 (xs : List Int32) : q_okM (GG xs) PP M72 := by
  have hW : ∀ w ∈ LW, w ∈ q_ws M72 := fun w h => List.mem_cons_of_mem _ h
  exact q_okM_of (by decide) rfl dk72 (List.forall_mem_cons.mpr ⟨rf99 xs rfl hW, List.forall_mem_cons.mpr ⟨rf127 xs rfl hW, List.forall_mem_cons.mpr ⟨rf126 xs rfl hW, List.forall_mem_cons.mpr ⟨rf76 xs rfl hW, List.forall_mem_cons.mpr ⟨rc83 xs rfl hW ⟨Nat.le_of_ble_eq_true rfl, Nat.le_of_ble_eq_true rfl⟩, fun q hq => absurd hq List.not_mem_nil⟩⟩⟩⟩⟩) (fun q hq => absurd hq List.not_mem_nil) hW
theorem dk73 : q_dk prog_9_method_47_code tb73 = true := by decide +kernel
theorem om73 (xs : List Int32) : q_okM (GG xs) PP M73 := by
  have hW : ∀ w ∈ LW, w ∈ q_ws M73 := fun w h => List.mem_cons_of_mem _ h
  exact q_okM_of (by decide) rfl dk73 (List.forall_mem_cons.mpr ⟨rf99 xs rfl hW, List.forall_mem_cons.mpr ⟨rf127 xs rfl hW, List.forall_mem_cons.mpr ⟨rf126 xs rfl hW, List.forall_mem_cons.mpr ⟨rf76 xs rfl hW, List.forall_mem_cons.mpr ⟨rc83 xs rfl hW ⟨Nat.le_of_ble_eq_true rfl, Nat.le_of_ble_eq_true rfl⟩, fun q hq => absurd hq List.not_mem_nil⟩⟩⟩⟩⟩) (fun q hq => absurd hq List.not_mem_nil) hW
theorem dk74 : q_dk prog_9_method_48_code tb74 = true := by decide +kernel
theorem om74 (xs : List Int32) : q_okM (GG xs) PP M74 := by
  have hW : ∀ w ∈ LW, w ∈ q_ws M74 := fun w h => List.mem_cons_of_mem _ h
  exact q_okM_of (by decide) rfl dk74 (List.forall_mem_cons.mpr ⟨rf97 xs rfl hW, List.forall_mem_cons.mpr ⟨rf96 xs rfl hW, List.forall_mem_cons.mpr ⟨rf126 xs rfl hW, List.forall_mem_cons.mpr ⟨rf59 xs rfl hW, List.forall_mem_cons.mpr ⟨rf78 xs rfl hW, List.forall_mem_cons.mpr ⟨rf76 xs rfl hW, List.forall_mem_cons.mpr ⟨rf77 xs rfl hW, List.forall_mem_cons.mpr ⟨rc95 xs rfl hW ⟨Nat.le_of_ble_eq_true rfl, Nat.le_of_ble_eq_true rfl⟩, fun q hq => absurd hq List.not_mem_nil⟩⟩⟩⟩⟩⟩⟩⟩) (fun q hq => absurd hq List.not_mem_nil) hW
theorem dk75 : q_dk prog_2_method_1_code tb75 = true := by decide +kernel
theorem om75 (xs : List Int32) : q_okM (GG xs) PP M75 := by
  have hW : ∀ w ∈ LW, w ∈ q_ws M75 := fun w h => List.mem_cons_of_mem _ h
  exact q_okM_of (by decide) rfl dk75 (List.forall_mem_cons.mpr ⟨ri134 xs rfl hW ⟨Nat.le_of_ble_eq_true rfl, Nat.le_of_ble_eq_true rfl⟩, List.forall_mem_cons.mpr ⟨rn133 xs rfl hW, List.forall_mem_cons.mpr ⟨rc132 xs rfl hW ⟨Nat.le_of_ble_eq_true rfl, Nat.le_of_ble_eq_true rfl⟩, List.forall_mem_cons.mpr ⟨rf131 xs rfl rfl hW, List.forall_mem_cons.mpr ⟨rf130 xs rfl rfl hW, List.forall_mem_cons.mpr ⟨rf129 xs rfl rfl hW, List.forall_mem_cons.mpr ⟨rf128 xs rfl hW, fun q hq => absurd hq List.not_mem_nil⟩⟩⟩⟩⟩⟩⟩) (fun q hq => absurd hq List.not_mem_nil) hW
theorem dk76 : q_dk prog_2_method_2_code tb76 = true := by decide +kernel
theorem om76 (xs : List Int32) : q_okM (GG xs) PP M76 := by
  have hW : ∀ w ∈ LW, w ∈ q_ws M76 := fun w h => List.mem_cons_of_mem _ h
  exact q_okM_of (by decide) rfl dk76 (List.forall_mem_cons.mpr ⟨rf140 xs rfl hW, List.forall_mem_cons.mpr ⟨rf139 xs rfl hW, List.forall_mem_cons.mpr ⟨rf128 xs rfl hW, List.forall_mem_cons.mpr ⟨rc138 xs rfl hW ⟨Nat.le_of_ble_eq_true rfl, Nat.le_of_ble_eq_true rfl⟩, List.forall_mem_cons.mpr ⟨rf137 xs rfl hW, List.forall_mem_cons.mpr ⟨rc136 xs rfl hW ⟨Nat.le_of_ble_eq_true rfl, Nat.le_of_ble_eq_true rfl⟩, List.forall_mem_cons.mpr ⟨rc135 xs rfl hW ⟨Nat.le_of_ble_eq_true rfl, Nat.le_of_ble_eq_true rfl⟩, fun q hq => absurd hq List.not_mem_nil⟩⟩⟩⟩⟩⟩⟩) (fun q hq => absurd hq List.not_mem_nil) hW
theorem dk77 : q_dk prog_2_method_3_code tb77 = true := by decide +kernel
theorem om77 (xs : List Int32) : q_okM (GG xs) PP M77 := by
  have hW : ∀ w ∈ LW, w ∈ q_ws M77 := fun w h => List.mem_cons_of_mem _ h
  exact q_okM_of (by decide) rfl dk77 (List.forall_mem_cons.mpr ⟨rf140 xs rfl hW, List.forall_mem_cons.mpr ⟨rf128 xs rfl hW, List.forall_mem_cons.mpr ⟨rc138 xs rfl hW ⟨Nat.le_of_ble_eq_true rfl, Nat.le_of_ble_eq_true rfl⟩, List.forall_mem_cons.mpr ⟨rc142 xs rfl hW ⟨Nat.le_of_ble_eq_true rfl, Nat.le_of_ble_eq_true rfl⟩, List.forall_mem_cons.mpr ⟨rc141 xs rfl hW ⟨Nat.le_of_ble_eq_true rfl, Nat.le_of_ble_eq_true rfl⟩, fun q hq => absurd hq List.not_mem_nil⟩⟩⟩⟩⟩) (fun q hq => absurd hq List.not_mem_nil) hW
theorem dk78 : q_dk prog_2_method_4_code tb78 = true := by decide +kernel
theorem om78 (xs : List Int32) : q_okM (GG xs) PP M78 := by
  have hW : ∀ w ∈ LW, w ∈ q_ws M78 := fun w h => List.mem_cons_of_mem _ h
  exact q_okM_of (by decide) rfl dk78 (List.forall_mem_cons.mpr ⟨rf144 xs rfl hW, List.forall_mem_cons.mpr ⟨rf139 xs rfl hW, List.forall_mem_cons.mpr ⟨rf128 xs rfl hW, List.forall_mem_cons.mpr ⟨rc143 xs rfl hW ⟨Nat.le_of_ble_eq_true rfl, Nat.le_of_ble_eq_true rfl⟩, fun q hq => absurd hq List.not_mem_nil⟩⟩⟩⟩) (fun q hq => absurd hq List.not_mem_nil) hW
theorem dk79 : q_dk prog_2_method_5_code tb79 = true := by decide +kernel
theorem om79 (xs : List Int32) : q_okM (GG xs) PP M79 := by
  have hW : ∀ w ∈ LW, w ∈ q_ws M79 := fun w h => List.mem_cons_of_mem _ h
  exact q_okM_of (by decide) rfl dk79 (List.forall_mem_cons.mpr ⟨rf137 xs rfl hW, List.forall_mem_cons.mpr ⟨rc143 xs rfl hW ⟨Nat.le_of_ble_eq_true rfl, Nat.le_of_ble_eq_true rfl⟩, List.forall_mem_cons.mpr ⟨rc149 xs rfl hW ⟨Nat.le_of_ble_eq_true rfl, Nat.le_of_ble_eq_true rfl⟩, List.forall_mem_cons.mpr ⟨rc148 xs rfl hW ⟨Nat.le_of_ble_eq_true rfl, Nat.le_of_ble_eq_true rfl⟩, List.forall_mem_cons.mpr ⟨rf147 xs rfl hW, List.forall_mem_cons.mpr ⟨rf146 xs rfl hW, List.forall_mem_cons.mpr ⟨rf145 xs rfl hW, fun q hq => absurd hq List.not_mem_nil⟩⟩⟩⟩⟩⟩⟩) (fun q hq => absurd hq List.not_mem_nil) hW
theorem dk80 : q_dk prog_2_method_6_code tb80 = true := by decide +kernel
theorem om80 (xs : List Int32) : q_okM (GG xs) PP M80 := by
  have hW : ∀ w ∈ LW, w ∈ q_ws M80 := fun w h => List.mem_cons_of_mem _ h
  exact q_okM_of (by decide) rfl dk80 (List.forall_mem_cons.mpr ⟨rt150 xs rfl hW, fun q hq => absurd hq List.not_mem_nil⟩) (fun q hq => absurd hq List.not_mem_nil) hW
theorem dk81 : q_dk prog_3_method_1_code tb81 = true := by decide +kernel
theorem om81 (xs : List Int32) : q_okM (GG xs) PP M81 := by
  have hW : ∀ w ∈ LW, w ∈ q_ws M81 := fun w h => List.mem_cons_of_mem _ h
  exact q_okM_of (by decide) rfl dk81 (List.forall_mem_cons.mpr ⟨ri153 xs rfl hW ⟨Nat.le_of_ble_eq_true rfl, Nat.le_of_ble_eq_true rfl⟩, List.forall_mem_cons.mpr ⟨rf152 xs rfl rfl hW, List.forall_mem_cons.mpr ⟨rf151 xs rfl rfl hW, fun q hq => absurd hq List.not_mem_nil⟩⟩⟩) (fun q hq => absurd hq List.not_mem_nil) hW
theorem dk82 : q_dk prog_3_method_2_code tb82 = true := by decide +kernel
theorem om82 (xs : List Int32) : q_okM (GG xs) PP M82 := by
  have hW : ∀ w ∈ LW, w ∈ q_ws M82 := fun w h => List.mem_cons_of_mem _ h
  exact q_okM_of (by decide) rfl dk82 (List.forall_mem_cons.mpr ⟨rf155 xs rfl hW, List.forall_mem_cons.mpr ⟨rc154 xs rfl hW ⟨Nat.le_of_ble_eq_true rfl, Nat.le_of_ble_eq_true rfl⟩, fun q hq => absurd hq List.not_mem_nil⟩⟩) (List.forall_mem_cons.mpr ⟨⟨fun x h => (by cases h), fun x h => by cases h; exact hW _ mw_310⟩, fun q hq => absurd hq List.not_mem_nil⟩) hW
theorem dk83 : q_dk prog_3_method_3_code tb83 = true := by decide +kernel
theorem om83 (xs : List Int32) : q_okM (GG xs) PP M83 := by
  have hW : ∀ w ∈ LW, w ∈ q_ws M83 := fun w h => List.mem_cons_of_mem _ h
  exact q_okM_of (by decide) rfl dk83 (List.forall_mem_cons.mpr ⟨rf155 xs rfl hW, fun q hq => absurd hq List.not_mem_nil⟩) (List.forall_mem_cons.mpr ⟨⟨fun x h => (by cases h), fun x h => by cases h; exact hW _ mw_310⟩, fun q hq => absurd hq List.not_mem_nil⟩) hW
theorem dk84 : q_dk prog_3_method_4_code tb84 = true := by decide +kernel
theorem om84 (xs : List Int32) : q_okM (GG xs) PP M84 := by
  have hW : ∀ w ∈ LW, w ∈ q_ws M84 := fun w h => List.mem_cons_of_mem _ h
  exact q_okM_of (by decide) rfl dk84 (List.forall_mem_cons.mpr ⟨rf156 xs rfl hW, List.forall_mem_cons.mpr ⟨rf155 xs rfl hW, fun q hq => absurd hq List.not_mem_nil⟩⟩) (List.forall_mem_cons.mpr ⟨⟨fun x h => (by cases h), fun x h => by cases h; exact hW _ mw_310⟩, fun q hq => absurd hq List.not_mem_nil⟩) hW
theorem dk85 : q_dk prog_3_method_5_code tb85 = true := by decide +kernel
theorem om85 (xs : List Int32) : q_okM (GG xs) PP M85 := by
  have hW : ∀ w ∈ LW, w ∈ q_ws M85 := fun w h => List.mem_cons_of_mem _ h
  exact q_okM_of (by decide) rfl dk85 (List.forall_mem_cons.mpr ⟨rf156 xs rfl hW, List.forall_mem_cons.mpr ⟨rf155 xs rfl hW, List.forall_mem_cons.mpr ⟨rc159 xs rfl hW ⟨Nat.le_of_ble_eq_true rfl, Nat.le_of_ble_eq_true rfl⟩, List.forall_mem_cons.mpr ⟨rc158 xs rfl hW ⟨Nat.le_of_ble_eq_true rfl, Nat.le_of_ble_eq_true rfl⟩, List.forall_mem_cons.mpr ⟨rc157 xs rfl hW ⟨Nat.le_of_ble_eq_true rfl, Nat.le_of_ble_eq_true rfl⟩, fun q hq => absurd hq List.not_mem_nil⟩⟩⟩⟩⟩) (fun q hq => absurd hq List.not_mem_nil) hW
theorem dk86 : q_dk prog_4_method_1_code tb86 = true := by decide +kernel
theorem om86 (xs : List Int32) : q_okM (GG xs) PP M86 := by
  have hW : ∀ w ∈ LW, w ∈ q_ws M86 := fun w h => List.mem_cons_of_mem _ h
  exact q_okM_of (by decide) rfl dk86 (List.forall_mem_cons.mpr ⟨ri170 xs rfl hW ⟨Nat.le_of_ble_eq_true rfl, Nat.le_of_ble_eq_true rfl⟩, List.forall_mem_cons.mpr ⟨rf169 xs rfl rfl hW, List.forall_mem_cons.mpr ⟨rf168 xs rfl rfl hW, List.forall_mem_cons.mpr ⟨rf167 xs rfl rfl hW, List.forall_mem_cons.mpr ⟨rn166 xs rfl hW, List.forall_mem_cons.mpr ⟨rc165 xs rfl hW ⟨Nat.le_of_ble_eq_true rfl, Nat.le_of_ble_eq_true rfl⟩, List.forall_mem_cons.mpr ⟨rf164 xs rfl hW, List.forall_mem_cons.mpr ⟨rf163 xs rfl hW, List.forall_mem_cons.mpr ⟨rf162 xs rfl hW, List.forall_mem_cons.mpr ⟨rf161 xs rfl hW, List.forall_mem_cons.mpr ⟨rf160 xs rfl hW, fun q hq => absurd hq List.not_mem_nil⟩⟩⟩⟩⟩⟩⟩⟩⟩⟩⟩) (fun q hq => absurd hq List.not_mem_nil) hW
theorem dk87 : q_dk prog_4_method_2_code tb87 = true := by decide +kernel
theorem om87 (xs : List Int32) : q_okM (GG xs) PP M87 := by
  have hW : ∀ w ∈ LW, w ∈ q_ws M87 := fun w h => List.mem_cons_of_mem _ h
  exact q_okM_of (by decide) rfl dk87 (List.forall_mem_cons.mpr ⟨rf162 xs rfl hW, List.forall_mem_cons.mpr ⟨rf160 xs rfl hW, fun q hq => absurd hq List.not_mem_nil⟩⟩) (fun q hq => absurd hq List.not_mem_nil) hW
theorem dk88 : q_dk prog_4_method_3_code tb88 = true := by decide +kernel
theorem om88 (xs : List Int32) : q_okM (GG xs) PP M88 := by
  have hW : ∀ w ∈ LW, w ∈ q_ws M88 := fun w h => List.mem_cons_of_mem _ h
  exact q_okM_of (by decide) rfl dk88 (List.forall_mem_cons.mpr ⟨rf161 xs rfl hW, List.forall_mem_cons.mpr ⟨rf160 xs rfl hW, List.forall_mem_cons.mpr ⟨rc172 xs rfl hW ⟨Nat.le_of_ble_eq_true rfl, Nat.le_of_ble_eq_true rfl⟩, List.forall_mem_cons.mpr ⟨rc171 xs rfl hW ⟨Nat.le_of_ble_eq_true rfl, Nat.le_of_ble_eq_true rfl⟩, fun q hq => absurd hq List.not_mem_nil⟩⟩⟩⟩) (fun q hq => absurd hq List.not_mem_nil) hW
theorem dk89 : q_dk prog_4_method_4_code tb89 = true := by decide +kernel
theorem om89 (xs : List Int32) : q_okM (GG xs) PP M89 := by
  have hW : ∀ w ∈ LW, w ∈ q_ws M89 := fun w h => List.mem_cons_of_mem _ h
  exact q_okM_of (by decide) rfl dk89 (List.forall_mem_cons.mpr ⟨rf177 xs rfl hW, List.forall_mem_cons.mpr ⟨rf176 xs rfl hW, List.forall_mem_cons.mpr ⟨rf175 xs rfl hW, List.forall_mem_cons.mpr ⟨rf174 xs rfl hW, List.forall_mem_cons.mpr ⟨rf173 xs rfl hW, fun q hq => absurd hq List.not_mem_nil⟩⟩⟩⟩⟩) (fun q hq => absurd hq List.not_mem_nil) hW
theorem dk90 : q_dk prog_4_method_5_code tb90 = true := by decide +kernel
theorem om90 (xs : List Int32) : q_okM (GG xs) PP M90 := by
  have hW : ∀ w ∈ LW, w ∈ q_ws M90 := fun w h => List.mem_cons_of_mem _ h
  exact q_okM_of (by decide) rfl dk90 (List.forall_mem_cons.mpr ⟨rf177 xs rfl hW, List.forall_mem_cons.mpr ⟨rf162 xs rfl hW, List.forall_mem_cons.mpr ⟨rf161 xs rfl hW, List.forall_mem_cons.mpr ⟨rc172 xs rfl hW ⟨Nat.le_of_ble_eq_true rfl, Nat.le_of_ble_eq_true rfl⟩, List.forall_mem_cons.mpr ⟨rc171 xs rfl hW ⟨Nat.le_of_ble_eq_true rfl, Nat.le_of_ble_eq_true rfl⟩, List.forall_mem_cons.mpr ⟨rf175 xs rfl hW, List.forall_mem_cons.mpr ⟨rf174 xs rfl hW, List.forall_mem_cons.mpr ⟨rc181 xs rfl hW ⟨Nat.le_of_ble_eq_true rfl, Nat.le_of_ble_eq_true rfl⟩, List.forall_mem_cons.mpr ⟨rc180 xs rfl hW ⟨Nat.le_of_ble_eq_true rfl, Nat.le_of_ble_eq_true rfl⟩, List.forall_mem_cons.mpr ⟨ri179 xs rfl hW ⟨Nat.le_of_ble_eq_true rfl, Nat.le_of_ble_eq_true rfl⟩, List.forall_mem_cons.mpr ⟨ri178 xs rfl hW ⟨Nat.le_of_ble_eq_true rfl, Nat.le_of_ble_eq_true rfl⟩, fun q hq => absurd hq List.not_mem_nil⟩⟩⟩⟩⟩⟩⟩⟩⟩⟩⟩) (List.forall_mem_cons.mpr ⟨⟨fun x h => by cases h; exact hW _ mw_707, fun x h => by cases h⟩, List.forall_mem_cons.mpr ⟨⟨fun x h => by cases h; exact hW _ mw_708, fun x h => by cases h⟩, fun q hq => absurd hq List.not_mem_nil⟩⟩) hW
theorem dk91 : q_dk prog_4_method_6_code tb91 = true := by decide +kernel
theorem om91 (xs : List Int32) : q_okM (GG xs) PP M91 := by
  have hW : ∀ w ∈ LW, w ∈ q_ws M91 := fun w h => List.mem_cons_of_mem _ h
  exact q_okM_of (by decide) rfl dk91 (List.forall_mem_cons.mpr ⟨rf183 xs rfl hW, List.forall_mem_cons.mpr ⟨rf173 xs rfl hW, List.forall_mem_cons.mpr ⟨rc182 xs rfl hW ⟨Nat.le_of_ble_eq_true rfl, Nat.le_of_ble_eq_true rfl⟩, fun q hq => absurd hq List.not_mem_nil⟩⟩⟩) (fun q hq => absurd hq List.not_mem_nil) hW
theorem dk92 : q_dk prog_4_method_7_code tb92 = true := by decide +kernel
theorem om92 (xs : List Int32) : q_okM (GG xs) PP M92 := by
  have hW : ∀ w ∈ LW, w ∈ q_ws M92 := fun w h => List.mem_cons_of_mem _ h
  exact q_okM_of (by decide) rfl dk92 (List.forall_mem_cons.mpr ⟨rf175 xs rfl hW, List.forall_mem_cons.mpr ⟨rf173 xs rfl hW, List.forall_mem_cons.mpr ⟨rf185 xs rfl hW, List.forall_mem_cons.mpr ⟨rc184 xs rfl hW ⟨Nat.le_of_ble_eq_true rfl, Nat.le_of_ble_eq_true rfl⟩, fun q hq => absurd hq List.not_mem_nil⟩⟩⟩⟩) (fun q hq => absurd hq List.not_mem_nil) hW
theorem dk93 : q_dk prog_4_method_8_code tb93 = true := by decide +kernel
theorem om93 (xs : List Int32) : q_okM (GG xs) PP M93 := by
  have hW : ∀ w ∈ LW, w ∈ q_ws M93 := fun w h => List.mem_cons_of_mem _ h
  exact q_okM_of (by decide) rfl dk93 (List.forall_mem_cons.mpr ⟨rf177 xs rfl hW, List.forall_mem_cons.mpr ⟨rf176 xs rfl hW, List.forall_mem_cons.mpr ⟨rf164 xs rfl hW, List.forall_mem_cons.mpr ⟨rf163 xs rfl hW, List.forall_mem_cons.mpr ⟨rc193 xs rfl hW ⟨Nat.le_of_ble_eq_true rfl, Nat.le_of_ble_eq_true rfl⟩, List.forall_mem_cons.mpr ⟨rc192 xs rfl hW ⟨Nat.le_of_ble_eq_true rfl, Nat.le_of_ble_eq_true rfl⟩, List.forall_mem_cons.mpr ⟨rc191 xs rfl hW ⟨Nat.le_of_ble_eq_true rfl, Nat.le_of_ble_eq_true rfl⟩, List.forall_mem_cons.mpr ⟨rc190 xs rfl hW ⟨Nat.le_of_ble_eq_true rfl, Nat.le_of_ble_eq_true rfl⟩, List.forall_mem_cons.mpr ⟨rc189 xs rfl hW ⟨Nat.le_of_ble_eq_true rfl, Nat.le_of_ble_eq_true rfl⟩, List.forall_mem_cons.mpr ⟨rf188 xs rfl hW, List.forall_mem_cons.mpr ⟨rf187 xs rfl hW, List.forall_mem_cons.mpr ⟨rc186 xs rfl hW ⟨Nat.le_of_ble_eq_true rfl, Nat.le_of_ble_eq_true rfl⟩, fun q hq => absurd hq List.not_mem_nil⟩⟩⟩⟩⟩⟩⟩⟩⟩⟩⟩⟩) (fun q hq => absurd hq List.not_mem_nil) hW
theorem dk94 : q_dk prog_4_method_9_code tb94 = true := by decide +kernel
theorem om94 (xs : List Int32) : q_okM (GG xs) PP M94 := by
  have hW : ∀ w ∈ LW, w ∈ q_ws M94 := fun w h => List.mem_cons_of_mem _ h
  exact q_okM_of (by decide) rfl dk94 (List.forall_mem_cons.mpr ⟨rf164 xs rfl hW, List.forall_mem_cons.mpr ⟨rc195 xs rfl hW ⟨Nat.le_of_ble_eq_true rfl, Nat.le_of_ble_eq_true rfl⟩, List.forall_mem_cons.mpr ⟨rc194 xs rfl hW ⟨Nat.le_of_ble_eq_true rfl, Nat.le_of_ble_eq_true rfl⟩, fun q hq => absurd hq List.not_mem_nil⟩⟩⟩) (fun q hq => absurd hq List.not_mem_nil) hW
theorem dk95 : q_dk prog_4_method_10_code tb95 = true := by decide +kernel
theorem om95 (xs : List Int32) : q_okM (GG xs) PP M95 := by
  have hW : ∀ w ∈ LW, w ∈ q_ws M95 := fun w h => List.mem_cons_of_mem _ h
  exact q_okM_of (by decide) rfl dk95 (List.forall_mem_cons.mpr ⟨rf164 xs rfl hW, List.forall_mem_cons.mpr ⟨rf163 xs rfl hW, List.forall_mem_cons.mpr ⟨rc191 xs rfl hW ⟨Nat.le_of_ble_eq_true rfl, Nat.le_of_ble_eq_true rfl⟩, List.forall_mem_cons.mpr ⟨rf188 xs rfl hW, List.forall_mem_cons.mpr ⟨rf187 xs rfl hW, List.forall_mem_cons.mpr ⟨rc198 xs rfl hW ⟨Nat.le_of_ble_eq_true rfl, Nat.le_of_ble_eq_true rfl⟩, List.forall_mem_cons.mpr ⟨rc197 xs rfl hW ⟨Nat.le_of_ble_eq_true rfl, Nat.le_of_ble_eq_true rfl⟩, List.forall_mem_cons.mpr ⟨rc196 xs rfl hW ⟨Nat.le_of_ble_eq_true rfl, Nat.le_of_ble_eq_true rfl⟩, fun q hq => absurd hq List.not_mem_nil⟩⟩⟩⟩⟩⟩⟩⟩) (List.forall_mem_cons.mpr ⟨⟨fun x h => (by cases h), fun x h => by cases h; exact hW _ mw_486⟩, fun q hq => absurd hq List.not_mem_nil⟩) hW
theorem dk96 : q_dk prog_4_method_11_code tb96 = true := by decide +kernel
theorem om96 (xs : List Int32) : q_okM (GG xs) PP M96 := by
  have hW : ∀ w ∈ LW, w ∈ q_ws M96 := fun w h => List.mem_cons_of_mem _ h
  exact q_okM_of (by decide) rfl dk96 (List.forall_mem_cons.mpr ⟨rf183 xs rfl hW, List.forall_mem_cons.mpr ⟨rc182 xs rfl hW ⟨Nat.le_of_ble_eq_true rfl, Nat.le_of_ble_eq_true rfl⟩, List.forall_mem_cons.mpr ⟨rc197 xs rfl hW ⟨Nat.le_of_ble_eq_true rfl, Nat.le_of_ble_eq_true rfl⟩, fun q hq => absurd hq List.not_mem_nil⟩⟩⟩) (List.forall_mem_cons.mpr ⟨⟨fun x h => (by cases h), fun x h => by cases h; exact hW _ mw_486⟩, fun q hq => absurd hq List.not_mem_nil⟩) hW
theorem dk97 : q_dk prog_5_method_1_code tb97 = true := by decide +kernel
theorem om97 (xs : List Int32) : q_okM (GG xs) PP M97 := by
  have hW : ∀ w ∈ LW, w ∈ q_ws M97 := fun w h => List.mem_cons_of_mem _ h
  exact q_okM_of (by decide) rfl dk97 (List.forall_mem_cons.mpr ⟨ri204 xs rfl hW ⟨Nat.le_of_ble_eq_true rfl, Nat.le_of_ble_eq_true rfl⟩, List.forall_mem_cons.mpr ⟨rn203 xs rfl hW, List.forall_mem_cons.mpr ⟨rc202 xs rfl hW ⟨Nat.le_of_ble_eq_true rfl, Nat.le_of_ble_eq_true rfl⟩, List.forall_mem_cons.mpr ⟨rf201 xs rfl hW, List.forall_mem_cons.mpr ⟨rf200 xs rfl hW, List.forall_mem_cons.mpr ⟨rf199 xs rfl rfl hW, fun q hq => absurd hq List.not_mem_nil⟩⟩⟩⟩⟩⟩) (fun q hq => absurd hq List.not_mem_nil) hW
theorem dk98 : q_dk prog_5_method_2_code tb98 = true := by decide +kernel
theorem om98 (xs : List Int32) : q_okM (GG xs) PP M98 := by
  have hW : ∀ w ∈ LW, w ∈ q_ws M98 := fun w h => List.mem_cons_of_mem _ h
  exact q_okM_of (by decide) rfl dk98 (List.forall_mem_cons.mpr ⟨rf201 xs rfl hW, List.forall_mem_cons.mpr ⟨rf200 xs rfl hW, List.forall_mem_cons.mpr ⟨rc215 xs rfl hW ⟨Nat.le_of_ble_eq_true rfl, Nat.le_of_ble_eq_true rfl⟩, List.forall_mem_cons.mpr ⟨rf214 xs rfl hW, List.forall_mem_cons.mpr ⟨rc213 xs rfl hW ⟨Nat.le_of_ble_eq_true rfl, Nat.le_of_ble_eq_true rfl⟩, List.forall_mem_cons.mpr ⟨rc212 xs rfl hW ⟨Nat.le_of_ble_eq_true rfl, Nat.le_of_ble_eq_true rfl⟩, List.forall_mem_cons.mpr ⟨rc211 xs rfl hW ⟨Nat.le_of_ble_eq_true rfl, Nat.le_of_ble_eq_true rfl⟩, List.forall_mem_cons.mpr ⟨rf210 xs rfl hW, List.forall_mem_cons.mpr ⟨rc209 xs rfl hW ⟨Nat.le_of_ble_eq_true rfl, Nat.le_of_ble_eq_true rfl⟩, List.forall_mem_cons.mpr ⟨rc208 xs rfl hW ⟨Nat.le_of_ble_eq_true rfl, Nat.le_of_ble_eq_true rfl⟩, List.forall_mem_cons.mpr ⟨rf207 xs rfl hW, List.forall_mem_cons.mpr ⟨rc206 xs rfl hW ⟨Nat.le_of_ble_eq_true rfl, Nat.le_of_ble_eq_true rfl⟩, List.forall_mem_cons.mpr ⟨rf205 xs rfl hW, fun q hq => absurd hq List.not_mem_nil⟩⟩⟩⟩⟩⟩⟩⟩⟩⟩⟩⟩⟩) (fun q hq => absurd hq List.not_mem_nil) hW
theorem dk99 : q_dk prog_5_method_3_code tb99 = true := by decide +kernel
theorem om99 (xs : List Int32) : q_okM (GG xs) PP M99 := by
  have hW : ∀ w ∈ LW, w ∈ q_ws M99 := fun w h => List.mem_cons_of_mem _ h
  exact q_okM_of (by decide) rfl dk99 (List.forall_mem_cons.mpr ⟨rf201 xs rfl hW, List.forall_mem_cons.mpr ⟨rf210 xs rfl hW, List.forall_mem_cons.mpr ⟨rc208 xs rfl hW ⟨Nat.le_of_ble_eq_true rfl, Nat.le_of_ble_eq_true rfl⟩, List.forall_mem_cons.mpr ⟨rf218 xs rfl hW, List.forall_mem_cons.mpr ⟨rc217 xs rfl hW ⟨Nat.le_of_ble_eq_true rfl, Nat.le_of_ble_eq_true rfl⟩, List.forall_mem_cons.mpr ⟨rc216 xs rfl hW ⟨Nat.le_of_ble_eq_true rfl, Nat.le_of_ble_eq_true rfl⟩, fun q hq => absurd hq List.not_mem_nil⟩⟩⟩⟩⟩⟩) (fun q hq => absurd hq List.not_mem_nil) hW
theorem dk100 : q_dk prog_5_method_4_code tb100 = true := by decide +kernel
theorem om100 (xs : List Int32) : q_okM (GG xs) PP M100 := by
  have hW : ∀ w ∈ LW, w ∈ q_ws M100 := fun w h => List.mem_cons_of_mem _ h
  exact q_okM_of (by decide) rfl dk100 (List.forall_mem_cons.mpr ⟨rf201 xs rfl hW, List.forall_mem_cons.mpr ⟨rf220 xs rfl hW, List.forall_mem_cons.mpr ⟨rf219 xs rfl hW, fun q hq => absurd hq List.not_mem_nil⟩⟩⟩) (fun q hq => absurd hq List.not_mem_nil) hW
theorem dk101 : q_dk prog_5_method_5_code tb101 = true := by decide +kernel
theorem om101 (xs : List Int32) : q_okM (GG xs) PP M101 := by
  have hW : ∀ w ∈ LW, w ∈ q_ws M101 := fun w h => List.mem_cons_of_mem _ h
  exact q_okM_of (by decide) rfl dk101 (List.forall_mem_cons.mpr ⟨rf201 xs rfl hW, List.forall_mem_cons.mpr ⟨rf200 xs rfl hW, List.forall_mem_cons.mpr ⟨rf210 xs rfl hW, List.forall_mem_cons.mpr ⟨rf207 xs rfl hW, List.forall_mem_cons.mpr ⟨rf205 xs rfl hW, List.forall_mem_cons.mpr ⟨rf218 xs rfl hW, List.forall_mem_cons.mpr ⟨rc224 xs rfl hW ⟨Nat.le_of_ble_eq_true rfl, Nat.le_of_ble_eq_true rfl⟩, List.forall_mem_cons.mpr ⟨rc223 xs rfl hW ⟨Nat.le_of_ble_eq_true rfl, Nat.le_of_ble_eq_true rfl⟩, List.forall_mem_cons.mpr ⟨rf222 xs rfl hW, List.forall_mem_cons.mpr ⟨rc221 xs rfl hW ⟨Nat.le_of_ble_eq_true rfl, Nat.le_of_ble_eq_true rfl⟩, fun q hq => absurd hq List.not_mem_nil⟩⟩⟩⟩⟩⟩⟩⟩⟩⟩) (List.forall_mem_cons.mpr ⟨⟨fun x h => (by cases h), fun x h => by cases h; exact hW _ mw_371⟩, fun q hq => absurd hq List.not_mem_nil⟩) hW
theorem dk102 : q_dk prog_5_method_6_code tb102 = true := by decide +kernel
theorem om102 (xs : List Int32) : q_okM (GG xs) PP M102 := by
  have hW : ∀ w ∈ LW, w ∈ q_ws M102 := fun w h => List.mem_cons_of_mem _ h
  exact q_okM_of (by decide) rfl dk102 (List.forall_mem_cons.mpr ⟨rf200 xs rfl hW, List.forall_mem_cons.mpr ⟨rf220 xs rfl hW, List.forall_mem_cons.mpr ⟨rf219 xs rfl hW, List.forall_mem_cons.mpr ⟨rf226 xs rfl hW, List.forall_mem_cons.mpr ⟨rc225 xs rfl hW ⟨Nat.le_of_ble_eq_true rfl, Nat.le_of_ble_eq_true rfl⟩, fun q hq => absurd hq List.not_mem_nil⟩⟩⟩⟩⟩) (fun q hq => absurd hq List.not_mem_nil) hW
theorem dk103 : q_dk prog_5_method_7_code tb103 = true := by decide +kernel
theorem om103 (xs : List Int32) : q_okM (GG xs) PP M103 := by
  have hW : ∀ w ∈ LW, w ∈ q_ws M103 := fun w h => List.mem_cons_of_mem _ h
  exact q_okM_of (by decide) rfl dk103 (List.forall_mem_cons.mpr ⟨rf200 xs rfl hW, List.forall_mem_cons.mpr ⟨rf220 xs rfl hW, List.forall_mem_cons.mpr ⟨rf219 xs rfl hW, List.forall_mem_cons.mpr ⟨rf226 xs rfl hW, List.forall_mem_cons.mpr ⟨rc227 xs rfl hW ⟨Nat.le_of_ble_eq_true rfl, Nat.le_of_ble_eq_true rfl⟩, fun q hq => absurd hq List.not_mem_nil⟩⟩⟩⟩⟩) (fun q hq => absurd hq List.not_mem_nil) hW
theorem dk104 : q_dk prog_5_method_8_code tb104 = true := by decide +kernel
theorem om104 (xs : List Int32) : q_okM (GG xs) PP M104 := by
  have hW : ∀ w ∈ LW, w ∈ q_ws M104 := fun w h => List.mem_cons_of_mem _ h
  exact q_okM_of (by decide) rfl dk104 (List.forall_mem_cons.mpr ⟨rf214 xs rfl hW, List.forall_mem_cons.mpr ⟨rf226 xs rfl hW, List.forall_mem_cons.mpr ⟨rc230 xs rfl hW ⟨Nat.le_of_ble_eq_true rfl, Nat.le_of_ble_eq_true rfl⟩, List.forall_mem_cons.mpr ⟨rc229 xs rfl hW ⟨Nat.le_of_ble_eq_true rfl, Nat.le_of_ble_eq_true rfl⟩, List.forall_mem_cons.mpr ⟨rc228 xs rfl hW ⟨Nat.le_of_ble_eq_true rfl, Nat.le_of_ble_eq_true rfl⟩, fun q hq => absurd hq List.not_mem_nil⟩⟩⟩⟩⟩) (List.forall_mem_cons.mpr ⟨⟨fun x h => (by cases h), fun x h => by cases h; exact hW _ mw_371⟩, fun q hq => absurd hq List.not_mem_nil⟩) hW
theorem dk105 : q_dk prog_6_method_1_code tb105 = true := by decide +kernel
theorem om105 (xs : List Int32) : q_okM (GG xs) PP M105 := by
  have hW : ∀ w ∈ LW, w ∈ q_ws M105 := fun w h => List.mem_cons_of_mem _ h
  exact q_okM_of (by decide) rfl dk105 (List.forall_mem_cons.mpr ⟨ri239 xs rfl hW ⟨Nat.le_of_ble_eq_true rfl, Nat.le_of_ble_eq_true rfl⟩, List.forall_mem_cons.mpr ⟨rf238 xs rfl hW, List.forall_mem_cons.mpr ⟨rn237 xs rfl hW, List.forall_mem_cons.mpr ⟨rf236 xs rfl rfl hW, List.forall_mem_cons.mpr ⟨rf235 xs rfl rfl hW, List.forall_mem_cons.mpr ⟨rf234 xs rfl rfl hW, List.forall_mem_cons.mpr ⟨rf233 xs rfl rfl hW, List.forall_mem_cons.mpr ⟨rc232 xs rfl hW ⟨Nat.le_of_ble_eq_true rfl, Nat.le_of_ble_eq_true rfl⟩, List.forall_mem_cons.mpr ⟨ra231 xs rfl hW, fun q hq => absurd hq List.not_mem_nil⟩⟩⟩⟩⟩⟩⟩⟩⟩) (fun q hq => absurd hq List.not_mem_nil) hW
theorem dk106 : q_dk prog_6_method_2_code tb106 = true := by decide +kernel
theorem om106 (xs : List Int32) : q_okM (GG xs) PP M106 := by
  have hW : ∀ w ∈ LW, w ∈ q_ws M106 := fun w h => List.mem_cons_of_mem _ h
  exact q_okM_of (by decide) rfl dk106 (List.forall_mem_cons.mpr ⟨rf238 xs rfl hW, List.forall_mem_cons.mpr ⟨rc240 xs rfl hW ⟨Nat.le_of_ble_eq_true rfl, Nat.le_of_ble_eq_true rfl⟩, fun q hq => absurd hq List.not_mem_nil⟩⟩) (fun q hq => absurd hq List.not_mem_nil) hW
theorem dk107 : q_dk prog_6_method_3_code tb107 = true := by decide +kernel
theorem om107 (xs : List Int32) : q_okM (GG xs) PP M107 := by
  have hW : ∀ w ∈ LW, w ∈ q_ws M107 := fun w h => List.mem_cons_of_mem _ h
  exact q_okM_of (by decide) rfl dk107 (List.forall_mem_cons.mpr ⟨rf241 xs rfl hW, List.forall_mem_cons.mpr ⟨rc240 xs rfl hW ⟨Nat.le_of_ble_eq_true rfl, Nat.le_of_ble_eq_true rfl⟩, fun q hq => absurd hq List.not_mem_nil⟩⟩) (fun q hq => absurd hq List.not_mem_nil) hW
theorem dk108 : q_dk prog_6_method_4_code tb108 = true := by decide +kernel
theorem om108 (xs : List Int32) : q_okM (GG xs) PP M108 := by
  have hW : ∀ w ∈ LW, w ∈ q_ws M108 := fun w h => List.mem_cons_of_mem _ h
  exact q_okM_of (by decide) rfl dk108 (List.forall_mem_cons.mpr ⟨rc243 xs rfl hW ⟨Nat.le_of_ble_eq_true rfl, Nat.le_of_ble_eq_true rfl⟩, List.forall_mem_cons.mpr ⟨rc242 xs rfl hW ⟨Nat.le_of_ble_eq_true rfl, Nat.le_of_ble_eq_true rfl⟩, fun q hq => absurd hq List.not_mem_nil⟩⟩) (fun q hq => absurd hq List.not_mem_nil) hW
theorem dk109 : q_dk prog_6_method_5_code tb109 = true := by decide +kernel
theorem om109 (xs : List Int32) : q_okM (GG xs) PP M109 := by
  have hW : ∀ w ∈ LW, w ∈ q_ws M109 := fun w h => List.mem_cons_of_mem _ h
  exact q_okM_of (by decide) rfl dk109 (List.forall_mem_cons.mpr ⟨rf241 xs rfl hW, List.forall_mem_cons.mpr ⟨rc244 xs rfl hW ⟨Nat.le_of_ble_eq_true rfl, Nat.le_of_ble_eq_true rfl⟩, fun q hq => absurd hq List.not_mem_nil⟩⟩) (fun q hq => absurd hq List.not_mem_nil) hW
theorem dk110 : q_dk prog_6_method_6_code tb110 = true := by decide +kernel
theorem om110 (xs : List Int32) : q_okM (GG xs) PP M110 := by
  have hW : ∀ w ∈ LW, w ∈ q_ws M110 := fun w h => List.mem_cons_of_mem _ h
  exact q_okM_of (by decide) rfl dk110 (List.forall_mem_cons.mpr ⟨rf238 xs rfl hW, List.forall_mem_cons.mpr ⟨rf249 xs rfl hW, List.forall_mem_cons.mpr ⟨rf241 xs rfl hW, List.forall_mem_cons.mpr ⟨rc248 xs rfl hW ⟨Nat.le_of_ble_eq_true rfl, Nat.le_of_ble_eq_true rfl⟩, List.forall_mem_cons.mpr ⟨rc247 xs rfl hW ⟨Nat.le_of_ble_eq_true rfl, Nat.le_of_ble_eq_true rfl⟩, List.forall_mem_cons.mpr ⟨rc246 xs rfl hW ⟨Nat.le_of_ble_eq_true rfl, Nat.le_of_ble_eq_true rfl⟩, List.forall_mem_cons.mpr ⟨rc245 xs rfl hW ⟨Nat.le_of_ble_eq_true rfl, Nat.le_of_ble_eq_true rfl⟩, fun q hq => absurd hq List.not_mem_nil⟩⟩⟩⟩⟩⟩⟩) (fun q hq => absurd hq List.not_mem_nil) hW
theorem dk111 : q_dk prog_6_method_7_code tb111 = true := by decide +kernel
theorem om111 (xs : List Int32) : q_okM (GG xs) PP M111 := by
  have hW : ∀ w ∈ LW, w ∈ q_ws M111 := fun w h => List.mem_cons_of_mem _ h
  exact q_okM_of (by decide) rfl dk111 (List.forall_mem_cons.mpr ⟨rf238 xs rfl hW, List.forall_mem_cons.mpr ⟨rf249 xs rfl hW, List.forall_mem_cons.mpr ⟨rf241 xs rfl hW, List.forall_mem_cons.mpr ⟨rc248 xs rfl hW ⟨Nat.le_of_ble_eq_true rfl, Nat.le_of_ble_eq_true rfl⟩, List.forall_mem_cons.mpr ⟨rc251 xs rfl hW ⟨Nat.le_of_ble_eq_true rfl, Nat.le_of_ble_eq_true rfl⟩, List.forall_mem_cons.mpr ⟨rc250 xs rfl hW ⟨Nat.le_of_ble_eq_true rfl, Nat.le_of_ble_eq_true rfl⟩, fun q hq => absurd hq List.not_mem_nil⟩⟩⟩⟩⟩⟩) (fun q hq => absurd hq List.not_mem_nil) hW
theorem dk112 : q_dk prog_6_method_8_code tb112 = true := by decide +kernel
theorem om112 (xs : List Int32) : q_okM (GG xs) PP M112 := by
  have hW : ∀ w ∈ LW, w ∈ q_ws M112 := fun w h => List.mem_cons_of_mem _ h
  exact q_okM_of (by decide) rfl dk112 (List.forall_mem_cons.mpr ⟨rc248 xs rfl hW ⟨Nat.le_of_ble_eq_true rfl, Nat.le_of_ble_eq_true rfl⟩, fun q hq => absurd hq List.not_mem_nil⟩) (fun q hq => absurd hq List.not_mem_nil) hW
theorem dk113 : q_dk prog_6_method_9_code tb113 = true := by decide +kernel
theorem om113 (xs : List Int32) : q_okM (GG xs) PP M113 := by
  have hW : ∀ w ∈ LW, w ∈ q_ws M113 := fun w h => List.mem_cons_of_mem _ h
  exact q_okM_of (by decide) rfl dk113 (List.forall_mem_cons.mpr ⟨rf238 xs rfl hW, List.forall_mem_cons.mpr ⟨rc254 xs rfl hW ⟨Nat.le_of_ble_eq_true rfl, Nat.le_of_ble_eq_true rfl⟩, List.forall_mem_cons.mpr ⟨rc253 xs rfl hW ⟨Nat.le_of_ble_eq_true rfl, Nat.le_of_ble_eq_true rfl⟩, List.forall_mem_cons.mpr ⟨ri252 xs rfl hW ⟨Nat.le_of_ble_eq_true rfl, Nat.le_of_ble_eq_true rfl⟩, fun q hq => absurd hq List.not_mem_nil⟩⟩⟩⟩) (fun q hq => absurd hq List.not_mem_nil) hW
theorem dk114 : q_dk prog_6_method_10_code tb114 = true := by decide +kernel
theorem om114 (xs : List Int32) : q_okM (GG xs) PP M114 := by
  have hW : ∀ w ∈ LW, w ∈ q_ws M114 := fun w h => List.mem_cons_of_mem _ h
  exact q_okM_of (by decide) rfl dk114 (List.forall_mem_cons.mpr ⟨rf238 xs rfl hW, List.forall_mem_cons.mpr ⟨rf249 xs rfl hW, List.forall_mem_cons.mpr ⟨rf257 xs rfl hW, List.forall_mem_cons.mpr ⟨rf256 xs rfl hW, List.forall_mem_cons.mpr ⟨rc248 xs rfl hW ⟨Nat.le_of_ble_eq_true rfl, Nat.le_of_ble_eq_true rfl⟩, List.forall_mem_cons.mpr ⟨rf255 xs rfl hW, fun q hq => absurd hq List.not_mem_nil⟩⟩⟩⟩⟩⟩) (fun q hq => absurd hq List.not_mem_nil) hW
theorem dk115 : q_dk prog_6_method_11_code tb115 = true := by decide +kernel
theorem om115 (xs : List Int32) : q_okM (GG xs) PP M115 := by
  have hW : ∀ w ∈ LW, w ∈ q_ws M115 := fun w h => List.mem_cons_of_mem _ h
  exact q_okM_of (by decide) rfl dk115 (List.forall_mem_cons.mpr ⟨rf249 xs rfl hW, List.forall_mem_cons.mpr ⟨rc248 xs rfl hW ⟨Nat.le_of_ble_eq_true rfl, Nat.le_of_ble_eq_true rfl⟩, List.forall_mem_cons.mpr ⟨rc247 xs rfl hW ⟨Nat.le_of_ble_eq_true rfl, Nat.le_of_ble_eq_true rfl⟩, List.forall_mem_cons.mpr ⟨rc246 xs rfl hW ⟨Nat.le_of_ble_eq_true rfl, Nat.le_of_ble_eq_true rfl⟩, List.forall_mem_cons.mpr ⟨rc263 xs rfl hW ⟨Nat.le_of_ble_eq_true rfl, Nat.le_of_ble_eq_true rfl⟩, List.forall_mem_cons.mpr ⟨rf262 xs rfl hW, List.forall_mem_cons.mpr ⟨ri261 xs rfl hW ⟨Nat.le_of_ble_eq_true rfl, Nat.le_of_ble_eq_true rfl⟩, List.forall_mem_cons.mpr ⟨rf260 xs rfl hW, List.forall_mem_cons.mpr ⟨rf259 xs rfl hW, List.forall_mem_cons.mpr ⟨rf258 xs rfl hW, fun q hq => absurd hq List.not_mem_nil⟩⟩⟩⟩⟩⟩⟩⟩⟩⟩) (fun q hq => absurd hq List.not_mem_nil) hW
theorem dk116 : q_dk prog_6_method_12_code tb116 = true := by decide +kernel
theorem om116 (xs : List Int32) : q_okM (GG xs) PP M116 := by
  have hW : ∀ w ∈ LW, w ∈ q_ws M116 := fun w h => List.mem_cons_of_mem _ h
  exact q_okM_of (by decide) rfl dk116 (List.forall_mem_cons.mpr ⟨rf249 xs rfl hW, List.forall_mem_cons.mpr ⟨rc248 xs rfl hW ⟨Nat.le_of_ble_eq_true rfl, Nat.le_of_ble_eq_true rfl⟩, List.forall_mem_cons.mpr ⟨rf264 xs rfl hW, fun q hq => absurd hq List.not_mem_nil⟩⟩⟩) (fun q hq => absurd hq List.not_mem_nil) hW
theorem dk117 : q_dk prog_6_method_13_code tb117 = true := by decide +kernel
theorem om117 (xs : List Int32) : q_okM (GG xs) PP M117 := by
  have hW : ∀ w ∈ LW, w ∈ q_ws M117 := fun w h => List.mem_cons_of_mem _ h
  exact q_okM_of (by decide) rfl dk117 (List.forall_mem_cons.mpr ⟨rf249 xs rfl hW, List.forall_mem_cons.mpr ⟨rc248 xs rfl hW ⟨Nat.le_of_ble_eq_true rfl, Nat.le_of_ble_eq_true rfl⟩, List.forall_mem_cons.mpr ⟨rc247 xs rfl hW ⟨Nat.le_of_ble_eq_true rfl, Nat.le_of_ble_eq_true rfl⟩, List.forall_mem_cons.mpr ⟨rf264 xs rfl hW, List.forall_mem_cons.mpr ⟨rf265 xs rfl hW, fun q hq => absurd hq List.not_mem_nil⟩⟩⟩⟩⟩) (fun q hq => absurd hq List.not_mem_nil) hW
theorem dk118 : q_dk prog_7_method_1_code tb118 = true := by decide +kernel
theorem om118 (xs : List Int32) : q_okM (GG xs) PP M118 := by
  have hW : ∀ w ∈ LW, w ∈ q_ws M118 := fun w h => List.mem_cons_of_mem _ h
  exact q_okM_of (by decide) rfl dk118 (List.forall_mem_cons.mpr ⟨ri277 xs rfl hW ⟨Nat.le_of_ble_eq_true rfl, Nat.le_of_ble_eq_true rfl⟩, List.forall_mem_cons.mpr ⟨rf276 xs rfl hW, List.forall_mem_cons.mpr ⟨rf275 xs rfl hW, List.forall_mem_cons.mpr ⟨rf274 xs rfl hW, List.forall_mem_cons.mpr ⟨rf273 xs rfl hW, List.forall_mem_cons.mpr ⟨rf272 xs rfl hW, List.forall_mem_cons.mpr ⟨rf271 xs rfl hW, List.forall_mem_cons.mpr ⟨rf270 xs rfl hW, List.forall_mem_cons.mpr ⟨rf269 xs rfl rfl hW, List.forall_mem_cons.mpr ⟨rf268 xs rfl rfl hW, List.forall_mem_cons.mpr ⟨rf267 xs rfl rfl hW, List.forall_mem_cons.mpr ⟨rc266 xs rfl hW ⟨Nat.le_of_ble_eq_true rfl, Nat.le_of_ble_eq_true rfl⟩, fun q hq => absurd hq List.not_mem_nil⟩⟩⟩⟩⟩⟩⟩⟩⟩⟩⟩⟩) (fun q hq => absurd hq List.not_mem_nil) hW
theorem dk119 : q_dk prog_7_method_2_code tb119 = true := by decide +kernel
theorem om119 (xs : List Int32) : q_okM (GG xs) PP M119 := by
  have hW : ∀ w ∈ LW, w ∈ q_ws M119 := fun w h => List.mem_cons_of_mem _ h
  exact q_okM_of (by decide) rfl dk119 (List.forall_mem_cons.mpr ⟨rf276 xs rfl hW, List.forall_mem_cons.mpr ⟨rf275 xs rfl hW, List.forall_mem_cons.mpr ⟨rf274 xs rfl hW, List.forall_mem_cons.mpr ⟨rf273 xs rfl hW, List.forall_mem_cons.mpr ⟨rf272 xs rfl hW, List.forall_mem_cons.mpr ⟨rc266 xs rfl hW ⟨Nat.le_of_ble_eq_true rfl, Nat.le_of_ble_eq_true rfl⟩, fun q hq => absurd hq List.not_mem_nil⟩⟩⟩⟩⟩⟩) (fun q hq => absurd hq List.not_mem_nil) hW
theorem dk120 : q_dk prog_7_method_3_code tb120 = true := by decide +kernel
theorem om120 (xs : List Int32) : q_okM (GG xs) PP M120 := by
  have hW : ∀ w ∈ LW, w ∈ q_ws M120 := fun w h => List.mem_cons_of_mem _ h
  exact q_okM_of (by decide) rfl dk120 (List.forall_mem_cons.mpr ⟨rf278 xs rfl hW, fun q hq => absurd hq List.not_mem_nil⟩) (fun q hq => absurd hq List.not_mem_nil) hW
theorem dk121 : q_dk prog_7_method_4_code tb121 = true := by decide +kernel
theorem om121 (xs : List Int32) : q_okM (GG xs) PP M121 := by
  have hW : ∀ w ∈ LW, w ∈ q_ws M121 := fun w h => List.mem_cons_of_mem _ h
  exact q_okM_of (by decide) rfl dk121 (List.forall_mem_cons.mpr ⟨rf279 xs rfl hW, fun q hq => absurd hq List.not_mem_nil⟩) (fun q hq => absurd hq List.not_mem_nil) hW
theorem dk122 : q_dk prog_7_method_5_code tb122 = true := by decide +kernel
theorem om122 (xs : List Int32) : q_okM (GG xs) PP M122 := by
  have hW : ∀ w ∈ LW, w ∈ q_ws M122 := fun w h => List.mem_cons_of_mem _ h
  exact q_okM_of (by decide) rfl dk122 (List.forall_mem_cons.mpr ⟨rf276 xs rfl hW, List.forall_mem_cons.mpr ⟨rf275 xs rfl hW, fun q hq => absurd hq List.not_mem_nil⟩⟩) (fun q hq => absurd hq List.not_mem_nil) hW
theorem dk123 : q_dk prog_7_method_6_code tb123 = true := by decide +kernel
theorem om123 (xs : List Int32) : q_okM (GG xs) PP M123 := by
  have hW : ∀ w ∈ LW, w ∈ q_ws M123 := fun w h => List.mem_cons_of_mem _ h
  exact q_okM_of (by decide) rfl dk123 (List.forall_mem_cons.mpr ⟨rf276 xs rfl hW, List.forall_mem_cons.mpr ⟨rf275 xs rfl hW, fun q hq => absurd hq List.not_mem_nil⟩⟩) (fun q hq => absurd hq List.not_mem_nil) hW
theorem dk124 : q_dk prog_7_method_7_code tb124 = true := by decide +kernel
theorem om124 (xs : List Int32) : q_okM (GG xs) PP M124 := by
  have hW : ∀ w ∈ LW, w ∈ q_ws M124 := fun w h => List.mem_cons_of_mem _ h
  exact q_okM_of (by decide) rfl dk124 (List.forall_mem_cons.mpr ⟨rf276 xs rfl hW, fun q hq => absurd hq List.not_mem_nil⟩) (fun q hq => absurd hq List.not_mem_nil) hW
theorem dk125 : q_dk prog_7_method_8_code tb125 = true := by decide +kernel
theorem om125 (xs : List Int32) : q_okM (GG xs) PP M125 := by
  have hW : ∀ w ∈ LW, w ∈ q_ws M125 := fun w h => List.mem_cons_of_mem _ h
  exact q_okM_of (by decide) rfl dk125 (List.forall_mem_cons.mpr ⟨rf276 xs rfl hW, List.forall_mem_cons.mpr ⟨rc280 xs rfl hW ⟨Nat.le_of_ble_eq_true rfl, Nat.le_of_ble_eq_true rfl⟩, fun q hq => absurd hq List.not_mem_nil⟩⟩) (fun q hq => absurd hq List.not_mem_nil) hW
theorem dk126 : q_dk prog_7_method_9_code tb126 = true := by decide +kernel
theorem om126 (xs : List Int32) : q_okM (GG xs) PP M126 := by
  have hW : ∀ w ∈ LW, w ∈ q_ws M126 := fun w h => List.mem_cons_of_mem _ h
  exact q_okM_of (by decide) rfl dk126 (List.forall_mem_cons.mpr ⟨rf274 xs rfl hW, List.forall_mem_cons.mpr ⟨rf271 xs rfl hW, List.forall_mem_cons.mpr ⟨rf270 xs rfl hW, List.forall_mem_cons.mpr ⟨rc282 xs rfl hW ⟨Nat.le_of_ble_eq_true rfl, Nat.le_of_ble_eq_true rfl⟩, List.forall_mem_cons.mpr ⟨ri281 xs rfl hW ⟨Nat.le_of_ble_eq_true rfl, Nat.le_of_ble_eq_true rfl⟩, fun q hq => absurd hq List.not_mem_nil⟩⟩⟩⟩⟩) (fun q hq => absurd hq List.not_mem_nil) hW
theorem dk127 : q_dk prog_7_method_10_code tb127 = true := by decide +kernel
theorem om127 (xs : List Int32) : q_okM (GG xs) PP M127 := by
  have hW : ∀ w ∈ LW, w ∈ q_ws M127 := fun w h => List.mem_cons_of_mem _ h
  exact q_okM_of (by decide) rfl dk127 (List.forall_mem_cons.mpr ⟨rf283 xs rfl hW, fun q hq => absurd hq List.not_mem_nil⟩) (fun q hq => absurd hq List.not_mem_nil) hW
theorem dk128 : q_dk prog_7_method_11_code tb128 = true := by decide +kernel
theorem om128 (xs : List Int32) : q_okM (GG xs) PP M128 := by
  have hW : ∀ w ∈ LW, w ∈ q_ws M128 := fun w h => List.mem_cons_of_mem _ h
  exact q_okM_of (by decide) rfl dk128 (List.forall_mem_cons.mpr ⟨rf278 xs rfl hW, fun q hq => absurd hq List.not_mem_nil⟩) (fun q hq => absurd hq List.not_mem_nil) hW
theorem dk129 : q_dk prog_7_method_12_code tb129 = true := by decide +kernel
theorem om129 (xs : List Int32) : q_okM (GG xs) PP M129 := by
  have hW : ∀ w ∈ LW, w ∈ q_ws M129 := fun w h => List.mem_cons_of_mem _ h
  exact q_okM_of (by decide) rfl dk129 (List.forall_mem_cons.mpr ⟨rf279 xs rfl hW, List.forall_mem_cons.mpr ⟨ri281 xs rfl hW ⟨Nat.le_of_ble_eq_true rfl, Nat.le_of_ble_eq_true rfl⟩, List.forall_mem_cons.mpr ⟨ri284 xs rfl hW ⟨Nat.le_of_ble_eq_true rfl, Nat.le_of_ble_eq_true rfl⟩, fun q hq => absurd hq List.not_mem_nil⟩⟩⟩) (fun q hq => absurd hq List.not_mem_nil) hW
theorem dk130 : q_dk prog_7_method_13_code tb130 = true := by decide +kernel
theorem om130 (xs : List Int32) : q_okM (GG xs) PP M130 := by
  have hW : ∀ w ∈ LW, w ∈ q_ws M130 := fun w h => List.mem_cons_of_mem _ h
  exact q_okM_of (by decide) rfl dk130 (List.forall_mem_cons.mpr ⟨rf278 xs rfl hW, List.forall_mem_cons.mpr ⟨rf279 xs rfl hW, fun q hq => absurd hq List.not_mem_nil⟩⟩) (fun q hq => absurd hq List.not_mem_nil) hW
theorem dk131 : q_dk prog_7_method_14_code tb131 = true := by decide +kernel
theorem om131 (xs : List Int32) : q_okM (GG xs) PP M131 := by
  have hW : ∀ w ∈ LW, w ∈ q_ws M131 := fun w h => List.mem_cons_of_mem _ h
  exact q_okM_of (by decide) rfl dk131 (List.forall_mem_cons.mpr ⟨rf283 xs rfl hW, List.forall_mem_cons.mpr ⟨rc285 xs rfl hW ⟨Nat.le_of_ble_eq_true rfl, Nat.le_of_ble_eq_true rfl⟩, fun q hq => absurd hq List.not_mem_nil⟩⟩) (fun q hq => absurd hq List.not_mem_nil) hW
theorem dk132 : q_dk prog_7_method_15_code tb132 = true := by decide +kernel
theorem om132 (xs : List Int32) : q_okM (GG xs) PP M132 := by
  have hW : ∀ w ∈ LW, w ∈ q_ws M132 := fun w h => List.mem_cons_of_mem _ h
  exact q_okM_of (by decide) rfl dk132 (List.forall_mem_cons.mpr ⟨rf274 xs rfl hW, List.forall_mem_cons.mpr ⟨rf273 xs rfl hW, List.forall_mem_cons.mpr ⟨rf272 xs rfl hW, List.forall_mem_cons.mpr ⟨ri281 xs rfl hW ⟨Nat.le_of_ble_eq_true rfl, Nat.le_of_ble_eq_true rfl⟩, List.forall_mem_cons.mpr ⟨rc287 xs rfl hW ⟨Nat.le_of_ble_eq_true rfl, Nat.le_of_ble_eq_true rfl⟩, List.forall_mem_cons.mpr ⟨ri286 xs rfl hW ⟨Nat.le_of_ble_eq_true rfl, Nat.le_of_ble_eq_true rfl⟩, fun q hq => absurd hq List.not_mem_nil⟩⟩⟩⟩⟩⟩) (fun q hq => absurd hq List.not_mem_nil) hW
theorem dk133 : q_dk prog_14_method_40_code tb133 = true := by decide +kernel
theorem om133 (xs : List Int32) : q_okM (GG xs) PP M133 := by
  have hW : ∀ w ∈ LW, w ∈ q_ws M133 := fun w h => List.mem_cons_of_mem _ h
  exact q_okM_of (by decide) rfl dk133 (fun q hq => absurd hq List.not_mem_nil) (fun q hq => absurd hq List.not_mem_nil) hW
theorem dk134 : q_dk prog_19_method_101_code tb134 = true := by decide +kernel
theorem om134 (xs : List Int32) : q_okM (GG xs) PP M134 := by
  have hW : ∀ w ∈ LW, w ∈ q_ws M134 := fun w h => List.mem_cons_of_mem _ h
  exact q_okM_of (by decide) rfl dk134 (fun q hq => absurd hq List.not_mem_nil) (fun q hq => absurd hq List.not_mem_nil) hW
theorem prog_ok (xs : List Int32) : ∀ q ∈ prog.flatMap (fun q => q.2), q_okM (GG xs) PP q.2 := List.forall_mem_cons.mpr ⟨om0 xs, List.forall_mem_cons.mpr ⟨om1 xs, List.forall_mem_cons.mpr ⟨om2 xs, List.forall_mem_cons.mpr ⟨om3 xs, List.forall_mem_cons.mpr ⟨om4 xs, List.forall_mem_cons.mpr ⟨om5 xs, List.forall_mem_cons.mpr ⟨om6 xs, List.forall_mem_cons.mpr ⟨om7 xs, List.forall_mem_cons.mpr ⟨om8 xs, List.forall_mem_cons.mpr ⟨om9 xs, List.forall_mem_cons.mpr ⟨om10 xs, List.forall_mem_cons.mpr ⟨om11 xs, List.forall_mem_cons.mpr ⟨om12 xs, List.forall_mem_cons.mpr ⟨om13 xs, List.forall_mem_cons.mpr ⟨om14 xs, List.forall_mem_cons.mpr ⟨om15 xs, List.forall_mem_cons.mpr ⟨om16 xs, List.forall_mem_cons.mpr ⟨om17 xs, List.forall_mem_cons.mpr ⟨om18 xs, List.forall_mem_cons.mpr ⟨om19 xs, List.forall_mem_cons.mpr ⟨om20 xs, List.forall_mem_cons.mpr ⟨om21 xs, List.forall_mem_cons.mpr ⟨om22 xs, List.forall_mem_cons.mpr ⟨om23 xs, List.forall_mem_cons.mpr ⟨om24 xs, List.forall_mem_cons.mpr ⟨om25 xs, List.forall_mem_cons.mpr ⟨om26 xs, List.forall_mem_cons.mpr ⟨om27 xs, List.forall_mem_cons.mpr ⟨om28 xs, List.forall_mem_cons.mpr ⟨om29 xs, List.forall_mem_cons.mpr ⟨om30 xs, List.forall_mem_cons.mpr ⟨om31 xs, List.forall_mem_cons.mpr ⟨om32 xs, List.forall_mem_cons.mpr ⟨om33 xs, List.forall_mem_cons.mpr ⟨om34 xs, List.forall_mem_cons.mpr ⟨om35 xs, List.forall_mem_cons.mpr ⟨om36 xs, List.forall_mem_cons.mpr ⟨om37 xs, List.forall_mem_cons.mpr ⟨om38 xs, List.forall_mem_cons.mpr ⟨om39 xs, List.forall_mem_cons.mpr ⟨om40 xs, List.forall_mem_cons.mpr ⟨om41 xs, List.forall_mem_cons.mpr ⟨om42 xs, List.forall_mem_cons.mpr ⟨om43 xs, List.forall_mem_cons.mpr ⟨om44 xs, List.forall_mem_cons.mpr ⟨om45 xs, List.forall_mem_cons.mpr ⟨om46 xs, List.forall_mem_cons.mpr ⟨om47 xs, List.forall_mem_cons.mpr ⟨om48 xs, List.forall_mem_cons.mpr ⟨om49 xs, List.forall_mem_cons.mpr ⟨om50 xs, List.forall_mem_cons.mpr ⟨om51 xs, List.forall_mem_cons.mpr ⟨om52 xs, List.forall_mem_cons.mpr ⟨om53 xs, List.forall_mem_cons.mpr ⟨om54 xs, List.forall_mem_cons.mpr ⟨om55 xs, List.forall_mem_cons.mpr ⟨om56 xs, List.forall_mem_cons.mpr ⟨om57 xs, List.forall_mem_cons.mpr ⟨om58 xs, List.forall_mem_cons.mpr ⟨om59 xs, List.forall_mem_cons.mpr ⟨om60 xs, List.forall_mem_cons.mpr ⟨om61 xs, List.forall_mem_cons.mpr ⟨om62 xs, List.forall_mem_cons.mpr ⟨om63 xs, List.forall_mem_cons.mpr ⟨om64 xs, List.forall_mem_cons.mpr ⟨om65 xs, List.forall_mem_cons.mpr ⟨om66 xs, List.forall_mem_cons.mpr ⟨om67 xs, List.forall_mem_cons.mpr ⟨om68 xs, List.forall_mem_cons.mpr ⟨om69 xs, List.forall_mem_cons.mpr ⟨om70 xs, List.forall_mem_cons.mpr ⟨om71 xs, List.forall_mem_cons.mpr ⟨om72 xs, List.forall_mem_cons.mpr ⟨om73 xs, List.forall_mem_cons.mpr ⟨om74 xs, List.forall_mem_cons.mpr ⟨om75 xs, List.forall_mem_cons.mpr ⟨om76 xs, List.forall_mem_cons.mpr ⟨om77 xs, List.forall_mem_cons.mpr ⟨om78 xs, List.forall_mem_cons.mpr ⟨om79 xs, List.forall_mem_cons.mpr ⟨om80 xs, List.forall_mem_cons.mpr ⟨om81 xs, List.forall_mem_cons.mpr ⟨om82 xs, List.forall_mem_cons.mpr ⟨om83 xs, List.forall_mem_cons.mpr ⟨om84 xs, List.forall_mem_cons.mpr ⟨om85 xs, List.forall_mem_cons.mpr ⟨om86 xs, List.forall_mem_cons.mpr ⟨om87 xs, List.forall_mem_cons.mpr ⟨om88 xs, List.forall_mem_cons.mpr ⟨om89 xs, List.forall_mem_cons.mpr ⟨om90 xs, List.forall_mem_cons.mpr ⟨om91 xs, List.forall_mem_cons.mpr ⟨om92 xs, List.forall_mem_cons.mpr ⟨om93 xs, List.forall_mem_cons.mpr ⟨om94 xs, List.forall_mem_cons.mpr ⟨om95 xs, List.forall_mem_cons.mpr ⟨om96 xs, List.forall_mem_cons.mpr ⟨om97 xs, List.forall_mem_cons.mpr ⟨om98 xs, List.forall_mem_cons.mpr ⟨om99 xs, List.forall_mem_cons.mpr ⟨om100 xs, List.forall_mem_cons.mpr ⟨om101 xs, List.forall_mem_cons.mpr ⟨om102 xs, List.forall_mem_cons.mpr ⟨om103 xs, List.forall_mem_cons.mpr ⟨om104 xs, List.forall_mem_cons.mpr ⟨om105 xs, List.forall_mem_cons.mpr ⟨om106 xs, List.forall_mem_cons.mpr ⟨om107 xs, List.forall_mem_cons.mpr ⟨om108 xs, List.forall_mem_cons.mpr ⟨om109 xs, List.forall_mem_cons.mpr ⟨om110 xs, List.forall_mem_cons.mpr ⟨om111 xs, List.forall_mem_cons.mpr ⟨om112 xs, List.forall_mem_cons.mpr ⟨om113 xs, List.forall_mem_cons.mpr ⟨om114 xs, List.forall_mem_cons.mpr ⟨om115 xs, List.forall_mem_cons.mpr ⟨om116 xs, List.forall_mem_cons.mpr ⟨om117 xs, List.forall_mem_cons.mpr ⟨om118 xs, List.forall_mem_cons.mpr ⟨om119 xs, List.forall_mem_cons.mpr ⟨om120 xs, List.forall_mem_cons.mpr ⟨om121 xs, List.forall_mem_cons.mpr ⟨om122 xs, List.forall_mem_cons.mpr ⟨om123 xs, List.forall_mem_cons.mpr ⟨om124 xs, List.forall_mem_cons.mpr ⟨om125 xs, List.forall_mem_cons.mpr ⟨om126 xs, List.forall_mem_cons.mpr ⟨om127 xs, List.forall_mem_cons.mpr ⟨om128 xs, List.forall_mem_cons.mpr ⟨om129 xs, List.forall_mem_cons.mpr ⟨om130 xs, List.forall_mem_cons.mpr ⟨om131 xs, List.forall_mem_cons.mpr ⟨om132 xs, List.forall_mem_cons.mpr ⟨om133 xs, List.forall_mem_cons.mpr ⟨om134 xs, fun q hq => absurd hq List.not_mem_nil⟩⟩⟩⟩⟩⟩⟩⟩⟩⟩⟩⟩⟩⟩⟩⟩⟩⟩⟩⟩⟩⟩⟩⟩⟩⟩⟩⟩⟩⟩⟩⟩⟩⟩⟩⟩⟩⟩⟩⟩⟩⟩⟩⟩⟩⟩⟩⟩⟩⟩⟩⟩⟩⟩⟩⟩⟩⟩⟩⟩⟩⟩⟩⟩⟩⟩⟩⟩⟩⟩⟩⟩⟩⟩⟩⟩⟩⟩⟩⟩⟩⟩⟩⟩⟩⟩⟩⟩⟩⟩⟩⟩⟩⟩⟩⟩⟩⟩⟩⟩⟩⟩⟩⟩⟩⟩⟩⟩⟩⟩⟩⟩⟩⟩⟩⟩⟩⟩⟩⟩⟩⟩⟩⟩⟩⟩⟩⟩⟩⟩⟩⟩⟩⟩⟩
theorem PP_ok (xs : List Int32) : ∀ k, q_okM (GG xs) PP (PP k) := by
  intro k
  cases h : q_lk2 prog k with
  | none =>
    have e : PP k = M0 := by simp only [PP, h]
    rw [e]
    exact om0 xs
  | some M =>
    have e : PP k = M := by simp only [PP, h]
    rw [e]
    exact prog_ok xs _ (q_lk2_mem h)
