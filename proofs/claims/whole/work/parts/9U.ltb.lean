/-! The law and cell as tables; the helpers (laid by prog/gen3.py). -/
theorem nw_0 : (Jvm.Cond.initialized "CommitDeskLaw") ∈ LW := q_mw (List.mem_of_getElem? (i := 0) (by decide +kernel)) rfl
theorem nw_13 : (Jvm.Cond.initialized "java/lang/IllegalArgumentException") ∈ LW := q_mw (List.mem_of_getElem? (i := 13) (by decide +kernel)) rfl
theorem nw_14 : (Jvm.Cond.initialized "java/lang/IllegalStateException") ∈ LW := q_mw (List.mem_of_getElem? (i := 14) (by decide +kernel)) rfl
theorem nw_16 : (Jvm.Cond.initialized "java/lang/IndexOutOfBoundsException") ∈ LW := q_mw (List.mem_of_getElem? (i := 16) (by decide +kernel)) rfl
theorem nw_19 : (Jvm.Cond.classLink "CommitDeskLaw" (8 : Nat) "CommitDesk") ∈ LW := q_mw (List.mem_of_getElem? (i := 19) (by decide +kernel)) rfl
theorem nw_20 : (Jvm.Cond.instantiable "CommitDesk" (6 : Nat)) ∈ LW := q_mw (List.mem_of_getElem? (i := 20) (by decide +kernel)) rfl
theorem nw_21 : (Jvm.Cond.methodLink "CommitDeskLaw" (46 : Nat) ({ cls := "CommitDesk", name := "<init>", desc := "(I)V" } : Jvm.MethodName)) ∈ LW := q_mw (List.mem_of_getElem? (i := 21) (by decide +kernel)) rfl
theorem nw_22 : (Jvm.Cond.instanceMethod ({ cls := "CommitDesk", name := "<init>", desc := "(I)V" } : Jvm.MethodName)) ∈ LW := q_mw (List.mem_of_getElem? (i := 22) (by decide +kernel)) rfl
theorem nw_23 : (Jvm.Cond.code ({ cls := "CommitDesk", name := "<init>", desc := "(I)V" } : Jvm.MethodName) prog_1_method_1_code (2 : Nat) (Option.none : Option Jvm.ClassFile.FieldType)) ∈ LW := q_mw (List.mem_of_getElem? (i := 23) (by decide +kernel)) rfl
theorem nw_250 : (Jvm.Cond.methodLink "CommitDeskLaw" (60 : Nat) ({ cls := "CommitDesk", name := "costs", desc := "(IIIII)Z" } : Jvm.MethodName)) ∈ LW := q_mw (List.mem_of_getElem? (i := 250) (by decide +kernel)) rfl
theorem nw_251 : (Jvm.Cond.instanceMethod ({ cls := "CommitDesk", name := "costs", desc := "(IIIII)Z" } : Jvm.MethodName)) ∈ LW := q_mw (List.mem_of_getElem? (i := 251) (by decide +kernel)) rfl
theorem nw_252 : (Jvm.Cond.selects "CommitDesk" ({ cls := "CommitDesk", name := "costs", desc := "(IIIII)Z" } : Jvm.MethodName) ({ cls := "CommitDesk", name := "costs", desc := "(IIIII)Z" } : Jvm.MethodName)) ∈ LW := q_mw (List.mem_of_getElem? (i := 252) (by decide +kernel)) rfl
theorem nw_253 : (Jvm.Cond.code ({ cls := "CommitDesk", name := "costs", desc := "(IIIII)Z" } : Jvm.MethodName) prog_1_method_3_code (6 : Nat) (Option.some Jvm.ClassFile.FieldType.boolean)) ∈ LW := q_mw (List.mem_of_getElem? (i := 253) (by decide +kernel)) rfl
theorem nw_270 : (Jvm.Cond.methodLink "CommitDeskLaw" (65 : Nat) ({ cls := "CommitDesk", name := "starts", desc := "(IIII)Z" } : Jvm.MethodName)) ∈ LW := q_mw (List.mem_of_getElem? (i := 270) (by decide +kernel)) rfl
theorem nw_271 : (Jvm.Cond.instanceMethod ({ cls := "CommitDesk", name := "starts", desc := "(IIII)Z" } : Jvm.MethodName)) ∈ LW := q_mw (List.mem_of_getElem? (i := 271) (by decide +kernel)) rfl
theorem nw_272 : (Jvm.Cond.selects "CommitDesk" ({ cls := "CommitDesk", name := "starts", desc := "(IIII)Z" } : Jvm.MethodName) ({ cls := "CommitDesk", name := "starts", desc := "(IIII)Z" } : Jvm.MethodName)) ∈ LW := q_mw (List.mem_of_getElem? (i := 272) (by decide +kernel)) rfl
theorem nw_273 : (Jvm.Cond.code ({ cls := "CommitDesk", name := "starts", desc := "(IIII)Z" } : Jvm.MethodName) prog_1_method_4_code (5 : Nat) (Option.some Jvm.ClassFile.FieldType.boolean)) ∈ LW := q_mw (List.mem_of_getElem? (i := 273) (by decide +kernel)) rfl
theorem nw_278 : (Jvm.Cond.methodLink "CommitDeskLaw" (70 : Nat) ({ cls := "CommitDesk", name := "before", desc := "(III)Z" } : Jvm.MethodName)) ∈ LW := q_mw (List.mem_of_getElem? (i := 278) (by decide +kernel)) rfl
theorem nw_279 : (Jvm.Cond.instanceMethod ({ cls := "CommitDesk", name := "before", desc := "(III)Z" } : Jvm.MethodName)) ∈ LW := q_mw (List.mem_of_getElem? (i := 279) (by decide +kernel)) rfl
theorem nw_280 : (Jvm.Cond.selects "CommitDesk" ({ cls := "CommitDesk", name := "before", desc := "(III)Z" } : Jvm.MethodName) ({ cls := "CommitDesk", name := "before", desc := "(III)Z" } : Jvm.MethodName)) ∈ LW := q_mw (List.mem_of_getElem? (i := 280) (by decide +kernel)) rfl
theorem nw_281 : (Jvm.Cond.code ({ cls := "CommitDesk", name := "before", desc := "(III)Z" } : Jvm.MethodName) prog_1_method_5_code (5 : Nat) (Option.some Jvm.ClassFile.FieldType.boolean)) ∈ LW := q_mw (List.mem_of_getElem? (i := 281) (by decide +kernel)) rfl
theorem nw_286 : (Jvm.Cond.methodLink "CommitDeskLaw" (75 : Nat) ({ cls := "CommitDesk", name := "demand", desc := "(III)Z" } : Jvm.MethodName)) ∈ LW := q_mw (List.mem_of_getElem? (i := 286) (by decide +kernel)) rfl
theorem nw_287 : (Jvm.Cond.instanceMethod ({ cls := "CommitDesk", name := "demand", desc := "(III)Z" } : Jvm.MethodName)) ∈ LW := q_mw (List.mem_of_getElem? (i := 287) (by decide +kernel)) rfl
theorem nw_288 : (Jvm.Cond.selects "CommitDesk" ({ cls := "CommitDesk", name := "demand", desc := "(III)Z" } : Jvm.MethodName) ({ cls := "CommitDesk", name := "demand", desc := "(III)Z" } : Jvm.MethodName)) ∈ LW := q_mw (List.mem_of_getElem? (i := 288) (by decide +kernel)) rfl
theorem nw_289 : (Jvm.Cond.code ({ cls := "CommitDesk", name := "demand", desc := "(III)Z" } : Jvm.MethodName) prog_1_method_6_code (4 : Nat) (Option.some Jvm.ClassFile.FieldType.boolean)) ∈ LW := q_mw (List.mem_of_getElem? (i := 289) (by decide +kernel)) rfl
theorem nw_294 : (Jvm.Cond.methodLink "CommitDeskLaw" (79 : Nat) ({ cls := "CommitDesk", name := "plan", desc := "()I" } : Jvm.MethodName)) ∈ LW := q_mw (List.mem_of_getElem? (i := 294) (by decide +kernel)) rfl
theorem nw_295 : (Jvm.Cond.instanceMethod ({ cls := "CommitDesk", name := "plan", desc := "()I" } : Jvm.MethodName)) ∈ LW := q_mw (List.mem_of_getElem? (i := 295) (by decide +kernel)) rfl
theorem nw_296 : (Jvm.Cond.selects "CommitDesk" ({ cls := "CommitDesk", name := "plan", desc := "()I" } : Jvm.MethodName) ({ cls := "CommitDesk", name := "plan", desc := "()I" } : Jvm.MethodName)) ∈ LW := q_mw (List.mem_of_getElem? (i := 296) (by decide +kernel)) rfl
theorem nw_297 : (Jvm.Cond.code ({ cls := "CommitDesk", name := "plan", desc := "()I" } : Jvm.MethodName) prog_1_method_7_code (1 : Nat) (Option.some Jvm.ClassFile.FieldType.int)) ∈ LW := q_mw (List.mem_of_getElem? (i := 297) (by decide +kernel)) rfl
theorem nw_403 : (Jvm.Cond.methodLink "CommitDeskLaw" (83 : Nat) ({ cls := "CommitDesk", name := "redispatch", desc := "()I" } : Jvm.MethodName)) ∈ LW := q_mw (List.mem_of_getElem? (i := 403) (by decide +kernel)) rfl
theorem nw_404 : (Jvm.Cond.instanceMethod ({ cls := "CommitDesk", name := "redispatch", desc := "()I" } : Jvm.MethodName)) ∈ LW := q_mw (List.mem_of_getElem? (i := 404) (by decide +kernel)) rfl
theorem nw_405 : (Jvm.Cond.selects "CommitDesk" ({ cls := "CommitDesk", name := "redispatch", desc := "()I" } : Jvm.MethodName) ({ cls := "CommitDesk", name := "redispatch", desc := "()I" } : Jvm.MethodName)) ∈ LW := q_mw (List.mem_of_getElem? (i := 405) (by decide +kernel)) rfl
theorem nw_406 : (Jvm.Cond.code ({ cls := "CommitDesk", name := "redispatch", desc := "()I" } : Jvm.MethodName) prog_1_method_8_code (1 : Nat) (Option.some Jvm.ClassFile.FieldType.int)) ∈ LW := q_mw (List.mem_of_getElem? (i := 406) (by decide +kernel)) rfl
theorem nw_407 : (Jvm.Cond.methodLink "CommitDeskLaw" (91 : Nat) ({ cls := "CommitDesk", name := "set", desc := "(III)Z" } : Jvm.MethodName)) ∈ LW := q_mw (List.mem_of_getElem? (i := 407) (by decide +kernel)) rfl
theorem nw_408 : (Jvm.Cond.instanceMethod ({ cls := "CommitDesk", name := "set", desc := "(III)Z" } : Jvm.MethodName)) ∈ LW := q_mw (List.mem_of_getElem? (i := 408) (by decide +kernel)) rfl
theorem nw_409 : (Jvm.Cond.selects "CommitDesk" ({ cls := "CommitDesk", name := "set", desc := "(III)Z" } : Jvm.MethodName) ({ cls := "CommitDesk", name := "set", desc := "(III)Z" } : Jvm.MethodName)) ∈ LW := q_mw (List.mem_of_getElem? (i := 409) (by decide +kernel)) rfl
theorem nw_410 : (Jvm.Cond.code ({ cls := "CommitDesk", name := "set", desc := "(III)Z" } : Jvm.MethodName) prog_1_method_10_code (4 : Nat) (Option.some Jvm.ClassFile.FieldType.boolean)) ∈ LW := q_mw (List.mem_of_getElem? (i := 410) (by decide +kernel)) rfl
theorem nw_418 : (Jvm.Cond.methodLink "CommitDeskLaw" (95 : Nat) ({ cls := "CommitDesk", name := "verify", desc := "()I" } : Jvm.MethodName)) ∈ LW := q_mw (List.mem_of_getElem? (i := 418) (by decide +kernel)) rfl
theorem nw_419 : (Jvm.Cond.instanceMethod ({ cls := "CommitDesk", name := "verify", desc := "()I" } : Jvm.MethodName)) ∈ LW := q_mw (List.mem_of_getElem? (i := 419) (by decide +kernel)) rfl
theorem nw_420 : (Jvm.Cond.selects "CommitDesk" ({ cls := "CommitDesk", name := "verify", desc := "()I" } : Jvm.MethodName) ({ cls := "CommitDesk", name := "verify", desc := "()I" } : Jvm.MethodName)) ∈ LW := q_mw (List.mem_of_getElem? (i := 420) (by decide +kernel)) rfl
theorem nw_421 : (Jvm.Cond.code ({ cls := "CommitDesk", name := "verify", desc := "()I" } : Jvm.MethodName) prog_1_method_11_code (1 : Nat) (Option.some Jvm.ClassFile.FieldType.int)) ∈ LW := q_mw (List.mem_of_getElem? (i := 421) (by decide +kernel)) rfl
theorem nw_449 : (Jvm.Cond.methodLink "CommitDeskLaw" (103 : Nat) ({ cls := "CommitDesk", name := "price", desc := "(II)Z" } : Jvm.MethodName)) ∈ LW := q_mw (List.mem_of_getElem? (i := 449) (by decide +kernel)) rfl
theorem nw_450 : (Jvm.Cond.instanceMethod ({ cls := "CommitDesk", name := "price", desc := "(II)Z" } : Jvm.MethodName)) ∈ LW := q_mw (List.mem_of_getElem? (i := 450) (by decide +kernel)) rfl
theorem nw_451 : (Jvm.Cond.selects "CommitDesk" ({ cls := "CommitDesk", name := "price", desc := "(II)Z" } : Jvm.MethodName) ({ cls := "CommitDesk", name := "price", desc := "(II)Z" } : Jvm.MethodName)) ∈ LW := q_mw (List.mem_of_getElem? (i := 451) (by decide +kernel)) rfl
theorem nw_452 : (Jvm.Cond.code ({ cls := "CommitDesk", name := "price", desc := "(II)Z" } : Jvm.MethodName) prog_1_method_13_code (3 : Nat) (Option.some Jvm.ClassFile.FieldType.boolean)) ∈ LW := q_mw (List.mem_of_getElem? (i := 452) (by decide +kernel)) rfl
theorem nw_455 : (Jvm.Cond.methodLink "CommitDeskLaw" (117 : Nat) ({ cls := "CommitDesk", name := "bound", desc := "()J" } : Jvm.MethodName)) ∈ LW := q_mw (List.mem_of_getElem? (i := 455) (by decide +kernel)) rfl
theorem nw_456 : (Jvm.Cond.instanceMethod ({ cls := "CommitDesk", name := "bound", desc := "()J" } : Jvm.MethodName)) ∈ LW := q_mw (List.mem_of_getElem? (i := 456) (by decide +kernel)) rfl
theorem nw_457 : (Jvm.Cond.selects "CommitDesk" ({ cls := "CommitDesk", name := "bound", desc := "()J" } : Jvm.MethodName) ({ cls := "CommitDesk", name := "bound", desc := "()J" } : Jvm.MethodName)) ∈ LW := q_mw (List.mem_of_getElem? (i := 457) (by decide +kernel)) rfl
theorem nw_458 : (Jvm.Cond.code ({ cls := "CommitDesk", name := "bound", desc := "()J" } : Jvm.MethodName) prog_1_method_17_code (1 : Nat) (Option.some Jvm.ClassFile.FieldType.long)) ∈ LW := q_mw (List.mem_of_getElem? (i := 458) (by decide +kernel)) rfl
theorem nw_498 : (Jvm.Cond.methodLink "CommitDeskLaw" (125 : Nat) ({ cls := "CommitDesk", name := "keep", desc := "(I)Z" } : Jvm.MethodName)) ∈ LW := q_mw (List.mem_of_getElem? (i := 498) (by decide +kernel)) rfl
theorem nw_499 : (Jvm.Cond.instanceMethod ({ cls := "CommitDesk", name := "keep", desc := "(I)Z" } : Jvm.MethodName)) ∈ LW := q_mw (List.mem_of_getElem? (i := 499) (by decide +kernel)) rfl
theorem nw_500 : (Jvm.Cond.selects "CommitDesk" ({ cls := "CommitDesk", name := "keep", desc := "(I)Z" } : Jvm.MethodName) ({ cls := "CommitDesk", name := "keep", desc := "(I)Z" } : Jvm.MethodName)) ∈ LW := q_mw (List.mem_of_getElem? (i := 500) (by decide +kernel)) rfl
theorem nw_501 : (Jvm.Cond.code ({ cls := "CommitDesk", name := "keep", desc := "(I)Z" } : Jvm.MethodName) prog_1_method_19_code (2 : Nat) (Option.some Jvm.ClassFile.FieldType.boolean)) ∈ LW := q_mw (List.mem_of_getElem? (i := 501) (by decide +kernel)) rfl
theorem nw_505 : (Jvm.Cond.methodLink "CommitDeskLaw" (130 : Nat) ({ cls := "CommitDesk", name := "take", desc := "(I)Z" } : Jvm.MethodName)) ∈ LW := q_mw (List.mem_of_getElem? (i := 505) (by decide +kernel)) rfl
theorem nw_506 : (Jvm.Cond.instanceMethod ({ cls := "CommitDesk", name := "take", desc := "(I)Z" } : Jvm.MethodName)) ∈ LW := q_mw (List.mem_of_getElem? (i := 506) (by decide +kernel)) rfl
theorem nw_507 : (Jvm.Cond.selects "CommitDesk" ({ cls := "CommitDesk", name := "take", desc := "(I)Z" } : Jvm.MethodName) ({ cls := "CommitDesk", name := "take", desc := "(I)Z" } : Jvm.MethodName)) ∈ LW := q_mw (List.mem_of_getElem? (i := 507) (by decide +kernel)) rfl
theorem nw_508 : (Jvm.Cond.code ({ cls := "CommitDesk", name := "take", desc := "(I)Z" } : Jvm.MethodName) prog_1_method_20_code (2 : Nat) (Option.some Jvm.ClassFile.FieldType.boolean)) ∈ LW := q_mw (List.mem_of_getElem? (i := 508) (by decide +kernel)) rfl
theorem nw_509 : (Jvm.Cond.methodLink "CommitDeskLaw" (134 : Nat) ({ cls := "CommitDesk", name := "count", desc := "(I)I" } : Jvm.MethodName)) ∈ LW := q_mw (List.mem_of_getElem? (i := 509) (by decide +kernel)) rfl
theorem nw_510 : (Jvm.Cond.instanceMethod ({ cls := "CommitDesk", name := "count", desc := "(I)I" } : Jvm.MethodName)) ∈ LW := q_mw (List.mem_of_getElem? (i := 510) (by decide +kernel)) rfl
theorem nw_511 : (Jvm.Cond.selects "CommitDesk" ({ cls := "CommitDesk", name := "count", desc := "(I)I" } : Jvm.MethodName) ({ cls := "CommitDesk", name := "count", desc := "(I)I" } : Jvm.MethodName)) ∈ LW := q_mw (List.mem_of_getElem? (i := 511) (by decide +kernel)) rfl
theorem nw_512 : (Jvm.Cond.code ({ cls := "CommitDesk", name := "count", desc := "(I)I" } : Jvm.MethodName) prog_1_method_21_code (2 : Nat) (Option.some Jvm.ClassFile.FieldType.int)) ∈ LW := q_mw (List.mem_of_getElem? (i := 512) (by decide +kernel)) rfl
theorem nw_521 : (Jvm.Cond.methodLink "CommitDeskLaw" (40 : Nat) ({ cls := "CommitDeskLaw", name := "cell", desc := "([II)I" } : Jvm.MethodName)) ∈ LW := q_mw (List.mem_of_getElem? (i := 521) (by decide +kernel)) rfl
theorem nw_522 : (Jvm.Cond.static ({ cls := "CommitDeskLaw", name := "cell", desc := "([II)I" } : Jvm.MethodName)) ∈ LW := q_mw (List.mem_of_getElem? (i := 522) (by decide +kernel)) rfl
theorem nw_523 : (Jvm.Cond.code ({ cls := "CommitDeskLaw", name := "cell", desc := "([II)I" } : Jvm.MethodName) method_2_code (2 : Nat) (Option.some Jvm.ClassFile.FieldType.int)) ∈ LW := q_mw (List.mem_of_getElem? (i := 523) (by decide +kernel)) rfl
theorem nw_524 : (Jvm.Cond.methodLink "CommitDeskLaw" (52 : Nat) ({ cls := "CommitDeskLaw", name := "unit", desc := "(LCommitDesk;IIIII[J)I" } : Jvm.MethodName)) ∈ LW := q_mw (List.mem_of_getElem? (i := 524) (by decide +kernel)) rfl
theorem nw_525 : (Jvm.Cond.static ({ cls := "CommitDeskLaw", name := "unit", desc := "(LCommitDesk;IIIII[J)I" } : Jvm.MethodName)) ∈ LW := q_mw (List.mem_of_getElem? (i := 525) (by decide +kernel)) rfl
theorem nw_526 : (Jvm.Cond.codeWith ({ cls := "CommitDeskLaw", name := "unit", desc := "(LCommitDesk;IIIII[J)I" } : Jvm.MethodName) method_3_code (8 : Nat) (Option.some Jvm.ClassFile.FieldType.int) [((0 : Nat), (16 : Nat), (19 : Nat), (13 : Nat)), ((0 : Nat), (16 : Nat), (23 : Nat), (15 : Nat))]) ∈ LW := q_mw (List.mem_of_getElem? (i := 526) (by decide +kernel)) rfl
theorem nw_527 : (Jvm.Cond.classLink "CommitDeskLaw" (13 : Nat) "java/lang/IllegalArgumentException") ∈ LW := q_mw (List.mem_of_getElem? (i := 527) (by decide +kernel)) rfl
theorem nw_528 : (Jvm.Cond.classLink "CommitDeskLaw" (15 : Nat) "java/lang/IllegalStateException") ∈ LW := q_mw (List.mem_of_getElem? (i := 528) (by decide +kernel)) rfl
theorem nw_529 : (Jvm.Cond.methodLink "CommitDeskLaw" (7 : Nat) ({ cls := "CommitDesk", name := "unit", desc := "(IIIII)I" } : Jvm.MethodName)) ∈ LW := q_mw (List.mem_of_getElem? (i := 529) (by decide +kernel)) rfl
theorem nw_530 : (Jvm.Cond.instanceMethod ({ cls := "CommitDesk", name := "unit", desc := "(IIIII)I" } : Jvm.MethodName)) ∈ LW := q_mw (List.mem_of_getElem? (i := 530) (by decide +kernel)) rfl
theorem nw_531 : (Jvm.Cond.selects "CommitDesk" ({ cls := "CommitDesk", name := "unit", desc := "(IIIII)I" } : Jvm.MethodName) ({ cls := "CommitDesk", name := "unit", desc := "(IIIII)I" } : Jvm.MethodName)) ∈ LW := q_mw (List.mem_of_getElem? (i := 531) (by decide +kernel)) rfl
theorem nw_532 : (Jvm.Cond.code ({ cls := "CommitDesk", name := "unit", desc := "(IIIII)I" } : Jvm.MethodName) prog_1_method_2_code (7 : Nat) (Option.some Jvm.ClassFile.FieldType.int)) ∈ LW := q_mw (List.mem_of_getElem? (i := 532) (by decide +kernel)) rfl
theorem nw_536 : (Jvm.Cond.classLink "CommitDesk" (53 : Nat) "java/lang/IllegalArgumentException") ∈ LW := q_mw (List.mem_of_getElem? (i := 536) (by decide +kernel)) rfl
theorem nw_599 : (Jvm.Cond.classLink "CommitDesk" (60 : Nat) "java/lang/IllegalStateException") ∈ LW := q_mw (List.mem_of_getElem? (i := 599) (by decide +kernel)) rfl
theorem nw_618 : (Jvm.Cond.methodLink "CommitDeskLaw" (87 : Nat) ({ cls := "CommitDeskLaw", name := "output", desc := "(LCommitDesk;II[J)I" } : Jvm.MethodName)) ∈ LW := q_mw (List.mem_of_getElem? (i := 618) (by decide +kernel)) rfl
theorem nw_619 : (Jvm.Cond.static ({ cls := "CommitDeskLaw", name := "output", desc := "(LCommitDesk;II[J)I" } : Jvm.MethodName)) ∈ LW := q_mw (List.mem_of_getElem? (i := 619) (by decide +kernel)) rfl
theorem nw_620 : (Jvm.Cond.codeWith ({ cls := "CommitDeskLaw", name := "output", desc := "(LCommitDesk;II[J)I" } : Jvm.MethodName) method_4_code (5 : Nat) (Option.some Jvm.ClassFile.FieldType.int) [((0 : Nat), (10 : Nat), (13 : Nat), (21 : Nat))]) ∈ LW := q_mw (List.mem_of_getElem? (i := 620) (by decide +kernel)) rfl
theorem nw_621 : (Jvm.Cond.classLink "CommitDeskLaw" (21 : Nat) "java/lang/IndexOutOfBoundsException") ∈ LW := q_mw (List.mem_of_getElem? (i := 621) (by decide +kernel)) rfl
theorem nw_622 : (Jvm.Cond.methodLink "CommitDeskLaw" (17 : Nat) ({ cls := "CommitDesk", name := "output", desc := "(II)I" } : Jvm.MethodName)) ∈ LW := q_mw (List.mem_of_getElem? (i := 622) (by decide +kernel)) rfl
theorem nw_623 : (Jvm.Cond.instanceMethod ({ cls := "CommitDesk", name := "output", desc := "(II)I" } : Jvm.MethodName)) ∈ LW := q_mw (List.mem_of_getElem? (i := 623) (by decide +kernel)) rfl
theorem nw_624 : (Jvm.Cond.selects "CommitDesk" ({ cls := "CommitDesk", name := "output", desc := "(II)I" } : Jvm.MethodName) ({ cls := "CommitDesk", name := "output", desc := "(II)I" } : Jvm.MethodName)) ∈ LW := q_mw (List.mem_of_getElem? (i := 624) (by decide +kernel)) rfl
theorem nw_625 : (Jvm.Cond.code ({ cls := "CommitDesk", name := "output", desc := "(II)I" } : Jvm.MethodName) prog_1_method_9_code (3 : Nat) (Option.some Jvm.ClassFile.FieldType.int)) ∈ LW := q_mw (List.mem_of_getElem? (i := 625) (by decide +kernel)) rfl
theorem nw_626 : (Jvm.Cond.classLink "CommitDesk" (116 : Nat) "java/lang/IndexOutOfBoundsException") ∈ LW := q_mw (List.mem_of_getElem? (i := 626) (by decide +kernel)) rfl
theorem nw_641 : (Jvm.Cond.methodLink "CommitDeskLaw" (99 : Nat) ({ cls := "CommitDeskLaw", name := "cost", desc := "(LCommitDesk;I[J)I" } : Jvm.MethodName)) ∈ LW := q_mw (List.mem_of_getElem? (i := 641) (by decide +kernel)) rfl
theorem nw_642 : (Jvm.Cond.static ({ cls := "CommitDeskLaw", name := "cost", desc := "(LCommitDesk;I[J)I" } : Jvm.MethodName)) ∈ LW := q_mw (List.mem_of_getElem? (i := 642) (by decide +kernel)) rfl
theorem nw_643 : (Jvm.Cond.codeWith ({ cls := "CommitDeskLaw", name := "cost", desc := "(LCommitDesk;I[J)I" } : Jvm.MethodName) method_5_code (4 : Nat) (Option.some Jvm.ClassFile.FieldType.int) [((0 : Nat), (9 : Nat), (12 : Nat), (13 : Nat)), ((0 : Nat), (9 : Nat), (15 : Nat), (15 : Nat))]) ∈ LW := q_mw (List.mem_of_getElem? (i := 643) (by decide +kernel)) rfl
theorem nw_644 : (Jvm.Cond.methodLink "CommitDeskLaw" (23 : Nat) ({ cls := "CommitDesk", name := "cost", desc := "(I)I" } : Jvm.MethodName)) ∈ LW := q_mw (List.mem_of_getElem? (i := 644) (by decide +kernel)) rfl
theorem nw_645 : (Jvm.Cond.instanceMethod ({ cls := "CommitDesk", name := "cost", desc := "(I)I" } : Jvm.MethodName)) ∈ LW := q_mw (List.mem_of_getElem? (i := 645) (by decide +kernel)) rfl
theorem nw_646 : (Jvm.Cond.selects "CommitDesk" ({ cls := "CommitDesk", name := "cost", desc := "(I)I" } : Jvm.MethodName) ({ cls := "CommitDesk", name := "cost", desc := "(I)I" } : Jvm.MethodName)) ∈ LW := q_mw (List.mem_of_getElem? (i := 646) (by decide +kernel)) rfl
theorem nw_647 : (Jvm.Cond.code ({ cls := "CommitDesk", name := "cost", desc := "(I)I" } : Jvm.MethodName) prog_1_method_12_code (4 : Nat) (Option.some Jvm.ClassFile.FieldType.int)) ∈ LW := q_mw (List.mem_of_getElem? (i := 647) (by decide +kernel)) rfl
theorem nw_668 : (Jvm.Cond.methodLink "CommitDeskLaw" (108 : Nat) ({ cls := "CommitDeskLaw", name := "priceOf", desc := "(LCommitDesk;I[J)I" } : Jvm.MethodName)) ∈ LW := q_mw (List.mem_of_getElem? (i := 668) (by decide +kernel)) rfl
theorem nw_669 : (Jvm.Cond.static ({ cls := "CommitDeskLaw", name := "priceOf", desc := "(LCommitDesk;I[J)I" } : Jvm.MethodName)) ∈ LW := q_mw (List.mem_of_getElem? (i := 669) (by decide +kernel)) rfl
theorem nw_670 : (Jvm.Cond.codeWith ({ cls := "CommitDeskLaw", name := "priceOf", desc := "(LCommitDesk;I[J)I" } : Jvm.MethodName) method_6_code (4 : Nat) (Option.some Jvm.ClassFile.FieldType.int) [((0 : Nat), (9 : Nat), (12 : Nat), (21 : Nat))]) ∈ LW := q_mw (List.mem_of_getElem? (i := 670) (by decide +kernel)) rfl
theorem nw_671 : (Jvm.Cond.methodLink "CommitDeskLaw" (27 : Nat) ({ cls := "CommitDesk", name := "priceOf", desc := "(I)I" } : Jvm.MethodName)) ∈ LW := q_mw (List.mem_of_getElem? (i := 671) (by decide +kernel)) rfl
theorem nw_672 : (Jvm.Cond.instanceMethod ({ cls := "CommitDesk", name := "priceOf", desc := "(I)I" } : Jvm.MethodName)) ∈ LW := q_mw (List.mem_of_getElem? (i := 672) (by decide +kernel)) rfl
theorem nw_673 : (Jvm.Cond.selects "CommitDesk" ({ cls := "CommitDesk", name := "priceOf", desc := "(I)I" } : Jvm.MethodName) ({ cls := "CommitDesk", name := "priceOf", desc := "(I)I" } : Jvm.MethodName)) ∈ LW := q_mw (List.mem_of_getElem? (i := 673) (by decide +kernel)) rfl
theorem nw_674 : (Jvm.Cond.code ({ cls := "CommitDesk", name := "priceOf", desc := "(I)I" } : Jvm.MethodName) prog_1_method_14_code (2 : Nat) (Option.some Jvm.ClassFile.FieldType.int)) ∈ LW := q_mw (List.mem_of_getElem? (i := 674) (by decide +kernel)) rfl
theorem nw_675 : (Jvm.Cond.methodLink "CommitDeskLaw" (111 : Nat) ({ cls := "CommitDeskLaw", name := "alone", desc := "(LCommitDesk;I[J)I" } : Jvm.MethodName)) ∈ LW := q_mw (List.mem_of_getElem? (i := 675) (by decide +kernel)) rfl
theorem nw_676 : (Jvm.Cond.static ({ cls := "CommitDeskLaw", name := "alone", desc := "(LCommitDesk;I[J)I" } : Jvm.MethodName)) ∈ LW := q_mw (List.mem_of_getElem? (i := 676) (by decide +kernel)) rfl
theorem nw_677 : (Jvm.Cond.codeWith ({ cls := "CommitDeskLaw", name := "alone", desc := "(LCommitDesk;I[J)I" } : Jvm.MethodName) method_7_code (4 : Nat) (Option.some Jvm.ClassFile.FieldType.int) [((0 : Nat), (8 : Nat), (11 : Nat), (21 : Nat))]) ∈ LW := q_mw (List.mem_of_getElem? (i := 677) (by decide +kernel)) rfl
theorem nw_678 : (Jvm.Cond.methodLink "CommitDeskLaw" (30 : Nat) ({ cls := "CommitDesk", name := "alone", desc := "(I)J" } : Jvm.MethodName)) ∈ LW := q_mw (List.mem_of_getElem? (i := 678) (by decide +kernel)) rfl
theorem nw_679 : (Jvm.Cond.instanceMethod ({ cls := "CommitDesk", name := "alone", desc := "(I)J" } : Jvm.MethodName)) ∈ LW := q_mw (List.mem_of_getElem? (i := 679) (by decide +kernel)) rfl
theorem nw_680 : (Jvm.Cond.selects "CommitDesk" ({ cls := "CommitDesk", name := "alone", desc := "(I)J" } : Jvm.MethodName) ({ cls := "CommitDesk", name := "alone", desc := "(I)J" } : Jvm.MethodName)) ∈ LW := q_mw (List.mem_of_getElem? (i := 680) (by decide +kernel)) rfl
theorem nw_681 : (Jvm.Cond.code ({ cls := "CommitDesk", name := "alone", desc := "(I)J" } : Jvm.MethodName) prog_1_method_15_code (2 : Nat) (Option.some Jvm.ClassFile.FieldType.long)) ∈ LW := q_mw (List.mem_of_getElem? (i := 681) (by decide +kernel)) rfl
theorem nw_682 : (Jvm.Cond.methodLink "CommitDeskLaw" (114 : Nat) ({ cls := "CommitDeskLaw", name := "lone", desc := "(LCommitDesk;II[J)I" } : Jvm.MethodName)) ∈ LW := q_mw (List.mem_of_getElem? (i := 682) (by decide +kernel)) rfl
theorem nw_683 : (Jvm.Cond.static ({ cls := "CommitDeskLaw", name := "lone", desc := "(LCommitDesk;II[J)I" } : Jvm.MethodName)) ∈ LW := q_mw (List.mem_of_getElem? (i := 683) (by decide +kernel)) rfl
theorem nw_684 : (Jvm.Cond.codeWith ({ cls := "CommitDeskLaw", name := "lone", desc := "(LCommitDesk;II[J)I" } : Jvm.MethodName) method_8_code (5 : Nat) (Option.some Jvm.ClassFile.FieldType.int) [((0 : Nat), (10 : Nat), (13 : Nat), (21 : Nat))]) ∈ LW := q_mw (List.mem_of_getElem? (i := 684) (by decide +kernel)) rfl
theorem nw_685 : (Jvm.Cond.methodLink "CommitDeskLaw" (34 : Nat) ({ cls := "CommitDesk", name := "lone", desc := "(II)I" } : Jvm.MethodName)) ∈ LW := q_mw (List.mem_of_getElem? (i := 685) (by decide +kernel)) rfl
theorem nw_686 : (Jvm.Cond.instanceMethod ({ cls := "CommitDesk", name := "lone", desc := "(II)I" } : Jvm.MethodName)) ∈ LW := q_mw (List.mem_of_getElem? (i := 686) (by decide +kernel)) rfl
theorem nw_687 : (Jvm.Cond.selects "CommitDesk" ({ cls := "CommitDesk", name := "lone", desc := "(II)I" } : Jvm.MethodName) ({ cls := "CommitDesk", name := "lone", desc := "(II)I" } : Jvm.MethodName)) ∈ LW := q_mw (List.mem_of_getElem? (i := 687) (by decide +kernel)) rfl
theorem nw_688 : (Jvm.Cond.code ({ cls := "CommitDesk", name := "lone", desc := "(II)I" } : Jvm.MethodName) prog_1_method_16_code (3 : Nat) (Option.some Jvm.ClassFile.FieldType.int)) ∈ LW := q_mw (List.mem_of_getElem? (i := 688) (by decide +kernel)) rfl
theorem nw_689 : (Jvm.Cond.methodLink "CommitDeskLaw" (122 : Nat) ({ cls := "CommitDeskLaw", name := "improve", desc := "(LCommitDesk;I[J)I" } : Jvm.MethodName)) ∈ LW := q_mw (List.mem_of_getElem? (i := 689) (by decide +kernel)) rfl
theorem nw_690 : (Jvm.Cond.static ({ cls := "CommitDeskLaw", name := "improve", desc := "(LCommitDesk;I[J)I" } : Jvm.MethodName)) ∈ LW := q_mw (List.mem_of_getElem? (i := 690) (by decide +kernel)) rfl
theorem nw_691 : (Jvm.Cond.codeWith ({ cls := "CommitDeskLaw", name := "improve", desc := "(LCommitDesk;I[J)I" } : Jvm.MethodName) method_9_code (4 : Nat) (Option.some Jvm.ClassFile.FieldType.int) [((0 : Nat), (8 : Nat), (11 : Nat), (13 : Nat))]) ∈ LW := q_mw (List.mem_of_getElem? (i := 691) (by decide +kernel)) rfl
theorem nw_692 : (Jvm.Cond.methodLink "CommitDeskLaw" (37 : Nat) ({ cls := "CommitDesk", name := "improve", desc := "(I)J" } : Jvm.MethodName)) ∈ LW := q_mw (List.mem_of_getElem? (i := 692) (by decide +kernel)) rfl
theorem nw_693 : (Jvm.Cond.instanceMethod ({ cls := "CommitDesk", name := "improve", desc := "(I)J" } : Jvm.MethodName)) ∈ LW := q_mw (List.mem_of_getElem? (i := 693) (by decide +kernel)) rfl
theorem nw_694 : (Jvm.Cond.selects "CommitDesk" ({ cls := "CommitDesk", name := "improve", desc := "(I)J" } : Jvm.MethodName) ({ cls := "CommitDesk", name := "improve", desc := "(I)J" } : Jvm.MethodName)) ∈ LW := q_mw (List.mem_of_getElem? (i := 694) (by decide +kernel)) rfl
theorem nw_695 : (Jvm.Cond.code ({ cls := "CommitDesk", name := "improve", desc := "(I)J" } : Jvm.MethodName) prog_1_method_18_code (3 : Nat) (Option.some Jvm.ClassFile.FieldType.long)) ∈ LW := q_mw (List.mem_of_getElem? (i := 695) (by decide +kernel)) rfl
theorem nw_711 : (Jvm.Cond.classLink "CommitDeskLaw" (49 : Nat) "CommitDeskModel") ∈ LW := q_mw (List.mem_of_getElem? (i := 711) (by decide +kernel)) rfl
theorem nw_712 : (Jvm.Cond.instantiable "CommitDeskModel" (26 : Nat)) ∈ LW := q_mw (List.mem_of_getElem? (i := 712) (by decide +kernel)) rfl
theorem nw_713 : (Jvm.Cond.methodLink "CommitDeskLaw" (51 : Nat) ({ cls := "CommitDeskModel", name := "<init>", desc := "(I)V" } : Jvm.MethodName)) ∈ LW := q_mw (List.mem_of_getElem? (i := 713) (by decide +kernel)) rfl
theorem nw_714 : (Jvm.Cond.instanceMethod ({ cls := "CommitDeskModel", name := "<init>", desc := "(I)V" } : Jvm.MethodName)) ∈ LW := q_mw (List.mem_of_getElem? (i := 714) (by decide +kernel)) rfl
theorem nw_715 : (Jvm.Cond.code ({ cls := "CommitDeskModel", name := "<init>", desc := "(I)V" } : Jvm.MethodName) prog_9_method_1_code (2 : Nat) (Option.none : Option Jvm.ClassFile.FieldType)) ∈ LW := q_mw (List.mem_of_getElem? (i := 715) (by decide +kernel)) rfl
theorem nw_796 : (Jvm.Cond.methodLink "CommitDeskLaw" (56 : Nat) ({ cls := "CommitDeskModel", name := "thrown", desc := "()I" } : Jvm.MethodName)) ∈ LW := q_mw (List.mem_of_getElem? (i := 796) (by decide +kernel)) rfl
theorem nw_797 : (Jvm.Cond.instanceMethod ({ cls := "CommitDeskModel", name := "thrown", desc := "()I" } : Jvm.MethodName)) ∈ LW := q_mw (List.mem_of_getElem? (i := 797) (by decide +kernel)) rfl
theorem nw_798 : (Jvm.Cond.selects "CommitDeskModel" ({ cls := "CommitDeskModel", name := "thrown", desc := "()I" } : Jvm.MethodName) ({ cls := "CommitDeskModel", name := "thrown", desc := "()I" } : Jvm.MethodName)) ∈ LW := q_mw (List.mem_of_getElem? (i := 798) (by decide +kernel)) rfl
theorem nw_799 : (Jvm.Cond.code ({ cls := "CommitDeskModel", name := "thrown", desc := "()I" } : Jvm.MethodName) prog_9_method_2_code (1 : Nat) (Option.some Jvm.ClassFile.FieldType.int)) ∈ LW := q_mw (List.mem_of_getElem? (i := 799) (by decide +kernel)) rfl
theorem nw_800 : (Jvm.Cond.methodLink "CommitDeskLaw" (55 : Nat) ({ cls := "CommitDeskModel", name := "unit", desc := "(IIIII)I" } : Jvm.MethodName)) ∈ LW := q_mw (List.mem_of_getElem? (i := 800) (by decide +kernel)) rfl
theorem nw_801 : (Jvm.Cond.instanceMethod ({ cls := "CommitDeskModel", name := "unit", desc := "(IIIII)I" } : Jvm.MethodName)) ∈ LW := q_mw (List.mem_of_getElem? (i := 801) (by decide +kernel)) rfl
theorem nw_802 : (Jvm.Cond.selects "CommitDeskModel" ({ cls := "CommitDeskModel", name := "unit", desc := "(IIIII)I" } : Jvm.MethodName) ({ cls := "CommitDeskModel", name := "unit", desc := "(IIIII)I" } : Jvm.MethodName)) ∈ LW := q_mw (List.mem_of_getElem? (i := 802) (by decide +kernel)) rfl
theorem nw_803 : (Jvm.Cond.code ({ cls := "CommitDeskModel", name := "unit", desc := "(IIIII)I" } : Jvm.MethodName) prog_9_method_8_code (6 : Nat) (Option.some Jvm.ClassFile.FieldType.int)) ∈ LW := q_mw (List.mem_of_getElem? (i := 803) (by decide +kernel)) rfl
theorem nw_851 : (Jvm.Cond.methodLink "CommitDeskLaw" (64 : Nat) ({ cls := "CommitDeskModel", name := "costs", desc := "(IIIII)Z" } : Jvm.MethodName)) ∈ LW := q_mw (List.mem_of_getElem? (i := 851) (by decide +kernel)) rfl
theorem nw_852 : (Jvm.Cond.instanceMethod ({ cls := "CommitDeskModel", name := "costs", desc := "(IIIII)Z" } : Jvm.MethodName)) ∈ LW := q_mw (List.mem_of_getElem? (i := 852) (by decide +kernel)) rfl
theorem nw_853 : (Jvm.Cond.selects "CommitDeskModel" ({ cls := "CommitDeskModel", name := "costs", desc := "(IIIII)Z" } : Jvm.MethodName) ({ cls := "CommitDeskModel", name := "costs", desc := "(IIIII)Z" } : Jvm.MethodName)) ∈ LW := q_mw (List.mem_of_getElem? (i := 853) (by decide +kernel)) rfl
theorem nw_854 : (Jvm.Cond.code ({ cls := "CommitDeskModel", name := "costs", desc := "(IIIII)Z" } : Jvm.MethodName) prog_9_method_10_code (6 : Nat) (Option.some Jvm.ClassFile.FieldType.boolean)) ∈ LW := q_mw (List.mem_of_getElem? (i := 854) (by decide +kernel)) rfl
theorem nw_862 : (Jvm.Cond.methodLink "CommitDeskLaw" (69 : Nat) ({ cls := "CommitDeskModel", name := "starts", desc := "(IIII)Z" } : Jvm.MethodName)) ∈ LW := q_mw (List.mem_of_getElem? (i := 862) (by decide +kernel)) rfl
theorem nw_863 : (Jvm.Cond.instanceMethod ({ cls := "CommitDeskModel", name := "starts", desc := "(IIII)Z" } : Jvm.MethodName)) ∈ LW := q_mw (List.mem_of_getElem? (i := 863) (by decide +kernel)) rfl
theorem nw_864 : (Jvm.Cond.selects "CommitDeskModel" ({ cls := "CommitDeskModel", name := "starts", desc := "(IIII)Z" } : Jvm.MethodName) ({ cls := "CommitDeskModel", name := "starts", desc := "(IIII)Z" } : Jvm.MethodName)) ∈ LW := q_mw (List.mem_of_getElem? (i := 864) (by decide +kernel)) rfl
theorem nw_865 : (Jvm.Cond.code ({ cls := "CommitDeskModel", name := "starts", desc := "(IIII)Z" } : Jvm.MethodName) prog_9_method_11_code (5 : Nat) (Option.some Jvm.ClassFile.FieldType.boolean)) ∈ LW := q_mw (List.mem_of_getElem? (i := 865) (by decide +kernel)) rfl
theorem nw_866 : (Jvm.Cond.methodLink "CommitDeskLaw" (74 : Nat) ({ cls := "CommitDeskModel", name := "before", desc := "(III)Z" } : Jvm.MethodName)) ∈ LW := q_mw (List.mem_of_getElem? (i := 866) (by decide +kernel)) rfl
theorem nw_867 : (Jvm.Cond.instanceMethod ({ cls := "CommitDeskModel", name := "before", desc := "(III)Z" } : Jvm.MethodName)) ∈ LW := q_mw (List.mem_of_getElem? (i := 867) (by decide +kernel)) rfl
theorem nw_868 : (Jvm.Cond.selects "CommitDeskModel" ({ cls := "CommitDeskModel", name := "before", desc := "(III)Z" } : Jvm.MethodName) ({ cls := "CommitDeskModel", name := "before", desc := "(III)Z" } : Jvm.MethodName)) ∈ LW := q_mw (List.mem_of_getElem? (i := 868) (by decide +kernel)) rfl
theorem nw_869 : (Jvm.Cond.code ({ cls := "CommitDeskModel", name := "before", desc := "(III)Z" } : Jvm.MethodName) prog_9_method_12_code (4 : Nat) (Option.some Jvm.ClassFile.FieldType.boolean)) ∈ LW := q_mw (List.mem_of_getElem? (i := 869) (by decide +kernel)) rfl
theorem nw_870 : (Jvm.Cond.methodLink "CommitDeskLaw" (78 : Nat) ({ cls := "CommitDeskModel", name := "demand", desc := "(III)Z" } : Jvm.MethodName)) ∈ LW := q_mw (List.mem_of_getElem? (i := 870) (by decide +kernel)) rfl
theorem nw_871 : (Jvm.Cond.instanceMethod ({ cls := "CommitDeskModel", name := "demand", desc := "(III)Z" } : Jvm.MethodName)) ∈ LW := q_mw (List.mem_of_getElem? (i := 871) (by decide +kernel)) rfl
theorem nw_872 : (Jvm.Cond.selects "CommitDeskModel" ({ cls := "CommitDeskModel", name := "demand", desc := "(III)Z" } : Jvm.MethodName) ({ cls := "CommitDeskModel", name := "demand", desc := "(III)Z" } : Jvm.MethodName)) ∈ LW := q_mw (List.mem_of_getElem? (i := 872) (by decide +kernel)) rfl
theorem nw_873 : (Jvm.Cond.code ({ cls := "CommitDeskModel", name := "demand", desc := "(III)Z" } : Jvm.MethodName) prog_9_method_13_code (4 : Nat) (Option.some Jvm.ClassFile.FieldType.boolean)) ∈ LW := q_mw (List.mem_of_getElem? (i := 873) (by decide +kernel)) rfl
theorem nw_878 : (Jvm.Cond.methodLink "CommitDeskLaw" (82 : Nat) ({ cls := "CommitDeskModel", name := "plan", desc := "()I" } : Jvm.MethodName)) ∈ LW := q_mw (List.mem_of_getElem? (i := 878) (by decide +kernel)) rfl
theorem nw_879 : (Jvm.Cond.instanceMethod ({ cls := "CommitDeskModel", name := "plan", desc := "()I" } : Jvm.MethodName)) ∈ LW := q_mw (List.mem_of_getElem? (i := 879) (by decide +kernel)) rfl
theorem nw_880 : (Jvm.Cond.selects "CommitDeskModel" ({ cls := "CommitDeskModel", name := "plan", desc := "()I" } : Jvm.MethodName) ({ cls := "CommitDeskModel", name := "plan", desc := "()I" } : Jvm.MethodName)) ∈ LW := q_mw (List.mem_of_getElem? (i := 880) (by decide +kernel)) rfl
theorem nw_881 : (Jvm.Cond.code ({ cls := "CommitDeskModel", name := "plan", desc := "()I" } : Jvm.MethodName) prog_9_method_26_code (1 : Nat) (Option.some Jvm.ClassFile.FieldType.int)) ∈ LW := q_mw (List.mem_of_getElem? (i := 881) (by decide +kernel)) rfl
theorem nw_910 : (Jvm.Cond.methodLink "CommitDeskLaw" (86 : Nat) ({ cls := "CommitDeskModel", name := "redispatch", desc := "()I" } : Jvm.MethodName)) ∈ LW := q_mw (List.mem_of_getElem? (i := 910) (by decide +kernel)) rfl
theorem nw_911 : (Jvm.Cond.instanceMethod ({ cls := "CommitDeskModel", name := "redispatch", desc := "()I" } : Jvm.MethodName)) ∈ LW := q_mw (List.mem_of_getElem? (i := 911) (by decide +kernel)) rfl
theorem nw_912 : (Jvm.Cond.selects "CommitDeskModel" ({ cls := "CommitDeskModel", name := "redispatch", desc := "()I" } : Jvm.MethodName) ({ cls := "CommitDeskModel", name := "redispatch", desc := "()I" } : Jvm.MethodName)) ∈ LW := q_mw (List.mem_of_getElem? (i := 912) (by decide +kernel)) rfl
theorem nw_913 : (Jvm.Cond.code ({ cls := "CommitDeskModel", name := "redispatch", desc := "()I" } : Jvm.MethodName) prog_9_method_27_code (1 : Nat) (Option.some Jvm.ClassFile.FieldType.int)) ∈ LW := q_mw (List.mem_of_getElem? (i := 913) (by decide +kernel)) rfl
theorem nw_914 : (Jvm.Cond.methodLink "CommitDeskLaw" (90 : Nat) ({ cls := "CommitDeskModel", name := "output", desc := "(II)I" } : Jvm.MethodName)) ∈ LW := q_mw (List.mem_of_getElem? (i := 914) (by decide +kernel)) rfl
theorem nw_915 : (Jvm.Cond.instanceMethod ({ cls := "CommitDeskModel", name := "output", desc := "(II)I" } : Jvm.MethodName)) ∈ LW := q_mw (List.mem_of_getElem? (i := 915) (by decide +kernel)) rfl
theorem nw_916 : (Jvm.Cond.selects "CommitDeskModel" ({ cls := "CommitDeskModel", name := "output", desc := "(II)I" } : Jvm.MethodName) ({ cls := "CommitDeskModel", name := "output", desc := "(II)I" } : Jvm.MethodName)) ∈ LW := q_mw (List.mem_of_getElem? (i := 916) (by decide +kernel)) rfl
theorem nw_917 : (Jvm.Cond.code ({ cls := "CommitDeskModel", name := "output", desc := "(II)I" } : Jvm.MethodName) prog_9_method_28_code (3 : Nat) (Option.some Jvm.ClassFile.FieldType.int)) ∈ LW := q_mw (List.mem_of_getElem? (i := 917) (by decide +kernel)) rfl
theorem nw_918 : (Jvm.Cond.methodLink "CommitDeskLaw" (94 : Nat) ({ cls := "CommitDeskModel", name := "set", desc := "(III)Z" } : Jvm.MethodName)) ∈ LW := q_mw (List.mem_of_getElem? (i := 918) (by decide +kernel)) rfl
theorem nw_919 : (Jvm.Cond.instanceMethod ({ cls := "CommitDeskModel", name := "set", desc := "(III)Z" } : Jvm.MethodName)) ∈ LW := q_mw (List.mem_of_getElem? (i := 919) (by decide +kernel)) rfl
theorem nw_920 : (Jvm.Cond.selects "CommitDeskModel" ({ cls := "CommitDeskModel", name := "set", desc := "(III)Z" } : Jvm.MethodName) ({ cls := "CommitDeskModel", name := "set", desc := "(III)Z" } : Jvm.MethodName)) ∈ LW := q_mw (List.mem_of_getElem? (i := 920) (by decide +kernel)) rfl
theorem nw_921 : (Jvm.Cond.code ({ cls := "CommitDeskModel", name := "set", desc := "(III)Z" } : Jvm.MethodName) prog_9_method_29_code (4 : Nat) (Option.some Jvm.ClassFile.FieldType.boolean)) ∈ LW := q_mw (List.mem_of_getElem? (i := 921) (by decide +kernel)) rfl
theorem nw_922 : (Jvm.Cond.methodLink "CommitDeskLaw" (98 : Nat) ({ cls := "CommitDeskModel", name := "verify", desc := "()I" } : Jvm.MethodName)) ∈ LW := q_mw (List.mem_of_getElem? (i := 922) (by decide +kernel)) rfl
theorem nw_938 : (Jvm.Cond.methodLink "CommitDeskLaw" (102 : Nat) ({ cls := "CommitDeskModel", name := "cost", desc := "(I)I" } : Jvm.MethodName)) ∈ LW := q_mw (List.mem_of_getElem? (i := 938) (by decide +kernel)) rfl
theorem nw_939 : (Jvm.Cond.instanceMethod ({ cls := "CommitDeskModel", name := "cost", desc := "(I)I" } : Jvm.MethodName)) ∈ LW := q_mw (List.mem_of_getElem? (i := 939) (by decide +kernel)) rfl
theorem nw_940 : (Jvm.Cond.selects "CommitDeskModel" ({ cls := "CommitDeskModel", name := "cost", desc := "(I)I" } : Jvm.MethodName) ({ cls := "CommitDeskModel", name := "cost", desc := "(I)I" } : Jvm.MethodName)) ∈ LW := q_mw (List.mem_of_getElem? (i := 940) (by decide +kernel)) rfl
theorem nw_941 : (Jvm.Cond.code ({ cls := "CommitDeskModel", name := "cost", desc := "(I)I" } : Jvm.MethodName) prog_9_method_34_code (8 : Nat) (Option.some Jvm.ClassFile.FieldType.int)) ∈ LW := q_mw (List.mem_of_getElem? (i := 941) (by decide +kernel)) rfl
theorem nw_943 : (Jvm.Cond.methodLink "CommitDeskLaw" (107 : Nat) ({ cls := "CommitDeskModel", name := "price", desc := "(II)Z" } : Jvm.MethodName)) ∈ LW := q_mw (List.mem_of_getElem? (i := 943) (by decide +kernel)) rfl
theorem nw_944 : (Jvm.Cond.instanceMethod ({ cls := "CommitDeskModel", name := "price", desc := "(II)Z" } : Jvm.MethodName)) ∈ LW := q_mw (List.mem_of_getElem? (i := 944) (by decide +kernel)) rfl
theorem nw_945 : (Jvm.Cond.selects "CommitDeskModel" ({ cls := "CommitDeskModel", name := "price", desc := "(II)Z" } : Jvm.MethodName) ({ cls := "CommitDeskModel", name := "price", desc := "(II)Z" } : Jvm.MethodName)) ∈ LW := q_mw (List.mem_of_getElem? (i := 945) (by decide +kernel)) rfl
theorem nw_946 : (Jvm.Cond.code ({ cls := "CommitDeskModel", name := "price", desc := "(II)Z" } : Jvm.MethodName) prog_9_method_35_code (3 : Nat) (Option.some Jvm.ClassFile.FieldType.boolean)) ∈ LW := q_mw (List.mem_of_getElem? (i := 946) (by decide +kernel)) rfl
theorem nw_949 : (Jvm.Cond.methodLink "CommitDeskLaw" (110 : Nat) ({ cls := "CommitDeskModel", name := "priceOf", desc := "(I)I" } : Jvm.MethodName)) ∈ LW := q_mw (List.mem_of_getElem? (i := 949) (by decide +kernel)) rfl
theorem nw_950 : (Jvm.Cond.instanceMethod ({ cls := "CommitDeskModel", name := "priceOf", desc := "(I)I" } : Jvm.MethodName)) ∈ LW := q_mw (List.mem_of_getElem? (i := 950) (by decide +kernel)) rfl
theorem nw_951 : (Jvm.Cond.selects "CommitDeskModel" ({ cls := "CommitDeskModel", name := "priceOf", desc := "(I)I" } : Jvm.MethodName) ({ cls := "CommitDeskModel", name := "priceOf", desc := "(I)I" } : Jvm.MethodName)) ∈ LW := q_mw (List.mem_of_getElem? (i := 951) (by decide +kernel)) rfl
theorem nw_952 : (Jvm.Cond.code ({ cls := "CommitDeskModel", name := "priceOf", desc := "(I)I" } : Jvm.MethodName) prog_9_method_36_code (2 : Nat) (Option.some Jvm.ClassFile.FieldType.int)) ∈ LW := q_mw (List.mem_of_getElem? (i := 952) (by decide +kernel)) rfl
theorem nw_953 : (Jvm.Cond.methodLink "CommitDeskLaw" (113 : Nat) ({ cls := "CommitDeskModel", name := "alone", desc := "(I)J" } : Jvm.MethodName)) ∈ LW := q_mw (List.mem_of_getElem? (i := 953) (by decide +kernel)) rfl
theorem nw_954 : (Jvm.Cond.instanceMethod ({ cls := "CommitDeskModel", name := "alone", desc := "(I)J" } : Jvm.MethodName)) ∈ LW := q_mw (List.mem_of_getElem? (i := 954) (by decide +kernel)) rfl
theorem nw_955 : (Jvm.Cond.selects "CommitDeskModel" ({ cls := "CommitDeskModel", name := "alone", desc := "(I)J" } : Jvm.MethodName) ({ cls := "CommitDeskModel", name := "alone", desc := "(I)J" } : Jvm.MethodName)) ∈ LW := q_mw (List.mem_of_getElem? (i := 955) (by decide +kernel)) rfl
theorem nw_956 : (Jvm.Cond.code ({ cls := "CommitDeskModel", name := "alone", desc := "(I)J" } : Jvm.MethodName) prog_9_method_41_code (2 : Nat) (Option.some Jvm.ClassFile.FieldType.long)) ∈ LW := q_mw (List.mem_of_getElem? (i := 956) (by decide +kernel)) rfl
theorem nw_957 : (Jvm.Cond.methodLink "CommitDeskLaw" (116 : Nat) ({ cls := "CommitDeskModel", name := "lone", desc := "(II)I" } : Jvm.MethodName)) ∈ LW := q_mw (List.mem_of_getElem? (i := 957) (by decide +kernel)) rfl
theorem nw_958 : (Jvm.Cond.instanceMethod ({ cls := "CommitDeskModel", name := "lone", desc := "(II)I" } : Jvm.MethodName)) ∈ LW := q_mw (List.mem_of_getElem? (i := 958) (by decide +kernel)) rfl
theorem nw_959 : (Jvm.Cond.selects "CommitDeskModel" ({ cls := "CommitDeskModel", name := "lone", desc := "(II)I" } : Jvm.MethodName) ({ cls := "CommitDeskModel", name := "lone", desc := "(II)I" } : Jvm.MethodName)) ∈ LW := q_mw (List.mem_of_getElem? (i := 959) (by decide +kernel)) rfl
theorem nw_960 : (Jvm.Cond.code ({ cls := "CommitDeskModel", name := "lone", desc := "(II)I" } : Jvm.MethodName) prog_9_method_42_code (3 : Nat) (Option.some Jvm.ClassFile.FieldType.int)) ∈ LW := q_mw (List.mem_of_getElem? (i := 960) (by decide +kernel)) rfl
theorem nw_961 : (Jvm.Cond.methodLink "CommitDeskLaw" (121 : Nat) ({ cls := "CommitDeskModel", name := "bound", desc := "()J" } : Jvm.MethodName)) ∈ LW := q_mw (List.mem_of_getElem? (i := 961) (by decide +kernel)) rfl
theorem nw_962 : (Jvm.Cond.instanceMethod ({ cls := "CommitDeskModel", name := "bound", desc := "()J" } : Jvm.MethodName)) ∈ LW := q_mw (List.mem_of_getElem? (i := 962) (by decide +kernel)) rfl
theorem nw_963 : (Jvm.Cond.selects "CommitDeskModel" ({ cls := "CommitDeskModel", name := "bound", desc := "()J" } : Jvm.MethodName) ({ cls := "CommitDeskModel", name := "bound", desc := "()J" } : Jvm.MethodName)) ∈ LW := q_mw (List.mem_of_getElem? (i := 963) (by decide +kernel)) rfl
theorem nw_964 : (Jvm.Cond.code ({ cls := "CommitDeskModel", name := "bound", desc := "()J" } : Jvm.MethodName) prog_9_method_43_code (1 : Nat) (Option.some Jvm.ClassFile.FieldType.long)) ∈ LW := q_mw (List.mem_of_getElem? (i := 964) (by decide +kernel)) rfl
theorem nw_965 : (Jvm.Cond.methodLink "CommitDeskLaw" (124 : Nat) ({ cls := "CommitDeskModel", name := "improve", desc := "(I)J" } : Jvm.MethodName)) ∈ LW := q_mw (List.mem_of_getElem? (i := 965) (by decide +kernel)) rfl
theorem nw_966 : (Jvm.Cond.instanceMethod ({ cls := "CommitDeskModel", name := "improve", desc := "(I)J" } : Jvm.MethodName)) ∈ LW := q_mw (List.mem_of_getElem? (i := 966) (by decide +kernel)) rfl
theorem nw_967 : (Jvm.Cond.selects "CommitDeskModel" ({ cls := "CommitDeskModel", name := "improve", desc := "(I)J" } : Jvm.MethodName) ({ cls := "CommitDeskModel", name := "improve", desc := "(I)J" } : Jvm.MethodName)) ∈ LW := q_mw (List.mem_of_getElem? (i := 967) (by decide +kernel)) rfl
theorem nw_968 : (Jvm.Cond.code ({ cls := "CommitDeskModel", name := "improve", desc := "(I)J" } : Jvm.MethodName) prog_9_method_45_code (3 : Nat) (Option.some Jvm.ClassFile.FieldType.long)) ∈ LW := q_mw (List.mem_of_getElem? (i := 968) (by decide +kernel)) rfl
theorem nw_973 : (Jvm.Cond.methodLink "CommitDeskLaw" (129 : Nat) ({ cls := "CommitDeskModel", name := "keep", desc := "(I)Z" } : Jvm.MethodName)) ∈ LW := q_mw (List.mem_of_getElem? (i := 973) (by decide +kernel)) rfl
theorem nw_974 : (Jvm.Cond.instanceMethod ({ cls := "CommitDeskModel", name := "keep", desc := "(I)Z" } : Jvm.MethodName)) ∈ LW := q_mw (List.mem_of_getElem? (i := 974) (by decide +kernel)) rfl
theorem nw_975 : (Jvm.Cond.selects "CommitDeskModel" ({ cls := "CommitDeskModel", name := "keep", desc := "(I)Z" } : Jvm.MethodName) ({ cls := "CommitDeskModel", name := "keep", desc := "(I)Z" } : Jvm.MethodName)) ∈ LW := q_mw (List.mem_of_getElem? (i := 975) (by decide +kernel)) rfl
theorem nw_976 : (Jvm.Cond.code ({ cls := "CommitDeskModel", name := "keep", desc := "(I)Z" } : Jvm.MethodName) prog_9_method_46_code (3 : Nat) (Option.some Jvm.ClassFile.FieldType.boolean)) ∈ LW := q_mw (List.mem_of_getElem? (i := 976) (by decide +kernel)) rfl
theorem nw_977 : (Jvm.Cond.methodLink "CommitDeskLaw" (133 : Nat) ({ cls := "CommitDeskModel", name := "take", desc := "(I)Z" } : Jvm.MethodName)) ∈ LW := q_mw (List.mem_of_getElem? (i := 977) (by decide +kernel)) rfl
theorem nw_978 : (Jvm.Cond.instanceMethod ({ cls := "CommitDeskModel", name := "take", desc := "(I)Z" } : Jvm.MethodName)) ∈ LW := q_mw (List.mem_of_getElem? (i := 978) (by decide +kernel)) rfl
theorem nw_979 : (Jvm.Cond.selects "CommitDeskModel" ({ cls := "CommitDeskModel", name := "take", desc := "(I)Z" } : Jvm.MethodName) ({ cls := "CommitDeskModel", name := "take", desc := "(I)Z" } : Jvm.MethodName)) ∈ LW := q_mw (List.mem_of_getElem? (i := 979) (by decide +kernel)) rfl
theorem nw_980 : (Jvm.Cond.code ({ cls := "CommitDeskModel", name := "take", desc := "(I)Z" } : Jvm.MethodName) prog_9_method_47_code (3 : Nat) (Option.some Jvm.ClassFile.FieldType.boolean)) ∈ LW := q_mw (List.mem_of_getElem? (i := 980) (by decide +kernel)) rfl
theorem nw_981 : (Jvm.Cond.methodLink "CommitDeskLaw" (137 : Nat) ({ cls := "CommitDeskModel", name := "count", desc := "(I)I" } : Jvm.MethodName)) ∈ LW := q_mw (List.mem_of_getElem? (i := 981) (by decide +kernel)) rfl
theorem nw_982 : (Jvm.Cond.instanceMethod ({ cls := "CommitDeskModel", name := "count", desc := "(I)I" } : Jvm.MethodName)) ∈ LW := q_mw (List.mem_of_getElem? (i := 982) (by decide +kernel)) rfl
theorem nw_983 : (Jvm.Cond.selects "CommitDeskModel" ({ cls := "CommitDeskModel", name := "count", desc := "(I)I" } : Jvm.MethodName) ({ cls := "CommitDeskModel", name := "count", desc := "(I)I" } : Jvm.MethodName)) ∈ LW := q_mw (List.mem_of_getElem? (i := 983) (by decide +kernel)) rfl
theorem nw_984 : (Jvm.Cond.code ({ cls := "CommitDeskModel", name := "count", desc := "(I)I" } : Jvm.MethodName) prog_9_method_48_code (4 : Nat) (Option.some Jvm.ClassFile.FieldType.int)) ∈ LW := q_mw (List.mem_of_getElem? (i := 984) (by decide +kernel)) rfl
theorem q_dk_c {code : ByteArray} {q : Nat × List (Nat × Instr × Nat × List Nat)} {l : List (Nat × List (Nat × Instr × Nat × List Nat))} (h1 : q_dk code [q] = true) (h2 : q_dk code l = true) : q_dk code (q :: l) = true := by
  unfold q_dk at h1 h2 ⊢
  rw [List.flatMap_cons, List.all_append, h2]
  rw [List.flatMap_cons, List.all_append] at h1
  simpa using h1
def tbML : List (Nat × List (Nat × Instr × Nat × List Nat)) := [(18, [(0, (.new 8, 3, [])), (3, (.dup, 1, [])), (4, (.aload_n 0, 1, [])), (5, (.iconst 0, 1, [])), (6, (.invokestatic 40, 3, [])), (9, (.invokespecial 46, 3, [])), (12, (.astore_n 1, 1, [])), (13, (.new 49, 3, [])), (16, (.dup, 1, [])), (17, (.aload_n 0, 1, []))]), (35, [(18, (.iconst 0, 1, [])), (19, (.invokestatic 40, 3, [])), (22, (.invokespecial 51, 3, [])), (25, (.astore_n 2, 1, [])), (26, (.iconst 1, 1, [])), (27, (.newarray .long, 2, [])), (29, (.astore_n 3, 1, [])), (30, (.iconst 1, 1, [])), (31, (.istore 4, 2, [])), (33, (.iload 4, 2, [5, 6, 7]))]), (50, [(35, (.aload_n 0, 1, [])), (36, (.arraylength, 1, [])), (37, (.bipush 6, 2, [])), (39, (.isub, 1, [])), (40, (.if_icmp .gt 1018, 3, [])), (43, (.aload_n 0, 1, [])), (44, (.iload 4, 2, [])), (46, (.iaload, 1, [])), (47, (.bipush 31, 2, [])), (49, (.iand, 1, []))]), (155, [(50, (.tableswitch 1002 0 19 #[94, 198, 271, 332, 381, 430, 443, 456, 524, 573, 586, 642, 679, 735, 790, 858, 872, 927, 952, 977], 94, [])), (144, (.aload_n 1, 1, [])), (145, (.aload_n 0, 1, [])), (146, (.iload 4, 2, [])), (148, (.iconst 1, 1, [])), (149, (.iadd, 1, [])), (150, (.iaload, 1, [])), (151, (.aload_n 0, 1, [])), (152, (.iload 4, 2, [])), (154, (.iconst 2, 1, []))]), (167, [(155, (.iadd, 1, [])), (156, (.iaload, 1, [])), (157, (.aload_n 0, 1, [])), (158, (.iload 4, 2, [])), (160, (.iconst 3, 1, [])), (161, (.iadd, 1, [])), (162, (.iaload, 1, [])), (163, (.aload_n 0, 1, [])), (164, (.iload 4, 2, [])), (166, (.iconst 4, 1, []))]), (181, [(167, (.iadd, 1, [])), (168, (.iaload, 1, [])), (169, (.aload_n 0, 1, [])), (170, (.iload 4, 2, [])), (172, (.iconst 5, 1, [])), (173, (.iadd, 1, [])), (174, (.iaload, 1, [])), (175, (.aload_n 3, 1, [])), (176, (.invokestatic 52, 3, [])), (179, (.istore 5, 2, []))]), (193, [(181, (.aload_n 2, 1, [])), (182, (.aload_n 0, 1, [])), (183, (.iload 4, 2, [])), (185, (.iconst 1, 1, [])), (186, (.iadd, 1, [])), (187, (.iaload, 1, [])), (188, (.aload_n 0, 1, [])), (189, (.iload 4, 2, [])), (191, (.iconst 2, 1, [])), (192, (.iadd, 1, []))]), (205, [(193, (.iaload, 1, [])), (194, (.aload_n 0, 1, [])), (195, (.iload 4, 2, [])), (197, (.iconst 3, 1, [])), (198, (.iadd, 1, [])), (199, (.iaload, 1, [])), (200, (.aload_n 0, 1, [])), (201, (.iload 4, 2, [])), (203, (.iconst 4, 1, [])), (204, (.iadd, 1, []))]), (221, [(205, (.iaload, 1, [])), (206, (.aload_n 0, 1, [])), (207, (.iload 4, 2, [])), (209, (.iconst 5, 1, [])), (210, (.iadd, 1, [])), (211, (.iaload, 1, [])), (212, (.invokevirtual 55, 3, [])), (215, (.istore 6, 2, [])), (217, (.aload_n 2, 1, [])), (218, (.invokevirtual 56, 3, []))]), (238, [(221, (.iload 5, 2, [])), (223, (.if_icmp .eq 5, 3, [])), (226, (.iconst 0, 1, [])), (227, (.ireturn, 1, [])), (228, (.iload 5, 2, [])), (230, (.ifCond .ne 15, 3, [])), (233, (.aload_n 3, 1, [])), (234, (.iconst 0, 1, [])), (235, (.laload, 1, [])), (236, (.iload 6, 2, []))]), (253, [(238, (.i2l, 1, [])), (239, (.lcmp, 1, [])), (240, (.ifCond .eq 5, 3, [])), (243, (.iconst 0, 1, [])), (244, (.ireturn, 1, [])), (245, (.goto 807, 3, [5, 6, 7])), (248, (.aload_n 1, 1, [])), (249, (.aload_n 0, 1, [])), (250, (.iload 4, 2, [])), (252, (.iconst 1, 1, []))]), (265, [(253, (.iadd, 1, [])), (254, (.iaload, 1, [])), (255, (.aload_n 0, 1, [])), (256, (.iload 4, 2, [])), (258, (.iconst 2, 1, [])), (259, (.iadd, 1, [])), (260, (.iaload, 1, [])), (261, (.aload_n 0, 1, [])), (262, (.iload 4, 2, [])), (264, (.iconst 3, 1, []))]), (277, [(265, (.iadd, 1, [])), (266, (.iaload, 1, [])), (267, (.aload_n 0, 1, [])), (268, (.iload 4, 2, [])), (270, (.iconst 4, 1, [])), (271, (.iadd, 1, [])), (272, (.iaload, 1, [])), (273, (.aload_n 0, 1, [])), (274, (.iload 4, 2, [])), (276, (.iconst 5, 1, []))]), (290, [(277, (.iadd, 1, [])), (278, (.iaload, 1, [])), (279, (.invokevirtual 60, 3, [])), (282, (.aload_n 2, 1, [])), (283, (.aload_n 0, 1, [])), (284, (.iload 4, 2, [])), (286, (.iconst 1, 1, [])), (287, (.iadd, 1, [])), (288, (.iaload, 1, [])), (289, (.aload_n 0, 1, []))]), (302, [(290, (.iload 4, 2, [])), (292, (.iconst 2, 1, [])), (293, (.iadd, 1, [])), (294, (.iaload, 1, [])), (295, (.aload_n 0, 1, [])), (296, (.iload 4, 2, [])), (298, (.iconst 3, 1, [])), (299, (.iadd, 1, [])), (300, (.iaload, 1, [])), (301, (.aload_n 0, 1, []))]), (316, [(302, (.iload 4, 2, [])), (304, (.iconst 4, 1, [])), (305, (.iadd, 1, [])), (306, (.iaload, 1, [])), (307, (.aload_n 0, 1, [])), (308, (.iload 4, 2, [])), (310, (.iconst 5, 1, [])), (311, (.iadd, 1, [])), (312, (.iaload, 1, [])), (313, (.invokevirtual 64, 3, []))]), (329, [(316, (.if_icmp .eq 736, 3, [])), (319, (.iconst 0, 1, [])), (320, (.ireturn, 1, [])), (321, (.aload_n 1, 1, [])), (322, (.aload_n 0, 1, [])), (323, (.iload 4, 2, [])), (325, (.iconst 1, 1, [])), (326, (.iadd, 1, [])), (327, (.iaload, 1, [])), (328, (.aload_n 0, 1, []))]), (341, [(329, (.iload 4, 2, [])), (331, (.iconst 2, 1, [])), (332, (.iadd, 1, [])), (333, (.iaload, 1, [])), (334, (.aload_n 0, 1, [])), (335, (.iload 4, 2, [])), (337, (.iconst 3, 1, [])), (338, (.iadd, 1, [])), (339, (.iaload, 1, [])), (340, (.aload_n 0, 1, []))]), (355, [(341, (.iload 4, 2, [])), (343, (.iconst 4, 1, [])), (344, (.iadd, 1, [])), (345, (.iaload, 1, [])), (346, (.invokevirtual 65, 3, [])), (349, (.aload_n 2, 1, [])), (350, (.aload_n 0, 1, [])), (351, (.iload 4, 2, [])), (353, (.iconst 1, 1, [])), (354, (.iadd, 1, []))]), (367, [(355, (.iaload, 1, [])), (356, (.aload_n 0, 1, [])), (357, (.iload 4, 2, [])), (359, (.iconst 2, 1, [])), (360, (.iadd, 1, [])), (361, (.iaload, 1, [])), (362, (.aload_n 0, 1, [])), (363, (.iload 4, 2, [])), (365, (.iconst 3, 1, [])), (366, (.iadd, 1, []))]), (382, [(367, (.iaload, 1, [])), (368, (.aload_n 0, 1, [])), (369, (.iload 4, 2, [])), (371, (.iconst 4, 1, [])), (372, (.iadd, 1, [])), (373, (.iaload, 1, [])), (374, (.invokevirtual 69, 3, [])), (377, (.if_icmp .eq 675, 3, [])), (380, (.iconst 0, 1, [])), (381, (.ireturn, 1, []))]), (394, [(382, (.aload_n 1, 1, [])), (383, (.aload_n 0, 1, [])), (384, (.iload 4, 2, [])), (386, (.iconst 1, 1, [])), (387, (.iadd, 1, [])), (388, (.iaload, 1, [])), (389, (.aload_n 0, 1, [])), (390, (.iload 4, 2, [])), (392, (.iconst 2, 1, [])), (393, (.iadd, 1, []))]), (408, [(394, (.iaload, 1, [])), (395, (.aload_n 0, 1, [])), (396, (.iload 4, 2, [])), (398, (.iconst 3, 1, [])), (399, (.iadd, 1, [])), (400, (.iaload, 1, [])), (401, (.invokevirtual 70, 3, [])), (404, (.aload_n 2, 1, [])), (405, (.aload_n 0, 1, [])), (406, (.iload 4, 2, []))]), (420, [(408, (.iconst 1, 1, [])), (409, (.iadd, 1, [])), (410, (.iaload, 1, [])), (411, (.aload_n 0, 1, [])), (412, (.iload 4, 2, [])), (414, (.iconst 2, 1, [])), (415, (.iadd, 1, [])), (416, (.iaload, 1, [])), (417, (.aload_n 0, 1, [])), (418, (.iload 4, 2, []))]), (435, [(420, (.iconst 3, 1, [])), (421, (.iadd, 1, [])), (422, (.iaload, 1, [])), (423, (.invokevirtual 74, 3, [])), (426, (.if_icmp .eq 626, 3, [])), (429, (.iconst 0, 1, [])), (430, (.ireturn, 1, [])), (431, (.aload_n 1, 1, [])), (432, (.aload_n 0, 1, [])), (433, (.iload 4, 2, []))]), (447, [(435, (.iconst 1, 1, [])), (436, (.iadd, 1, [])), (437, (.iaload, 1, [])), (438, (.aload_n 0, 1, [])), (439, (.iload 4, 2, [])), (441, (.iconst 2, 1, [])), (442, (.iadd, 1, [])), (443, (.iaload, 1, [])), (444, (.aload_n 0, 1, [])), (445, (.iload 4, 2, []))]), (460, [(447, (.iconst 3, 1, [])), (448, (.iadd, 1, [])), (449, (.iaload, 1, [])), (450, (.invokevirtual 75, 3, [])), (453, (.aload_n 2, 1, [])), (454, (.aload_n 0, 1, [])), (455, (.iload 4, 2, [])), (457, (.iconst 1, 1, [])), (458, (.iadd, 1, [])), (459, (.iaload, 1, []))]), (472, [(460, (.aload_n 0, 1, [])), (461, (.iload 4, 2, [])), (463, (.iconst 2, 1, [])), (464, (.iadd, 1, [])), (465, (.iaload, 1, [])), (466, (.aload_n 0, 1, [])), (467, (.iload 4, 2, [])), (469, (.iconst 3, 1, [])), (470, (.iadd, 1, [])), (471, (.iaload, 1, []))]), (492, [(472, (.invokevirtual 78, 3, [])), (475, (.if_icmp .eq 577, 3, [])), (478, (.iconst 0, 1, [])), (479, (.ireturn, 1, [])), (480, (.aload_n 1, 1, [])), (481, (.invokevirtual 79, 3, [])), (484, (.aload_n 2, 1, [])), (485, (.invokevirtual 82, 3, [])), (488, (.if_icmp .eq 564, 3, [])), (491, (.iconst 0, 1, []))]), (508, [(492, (.ireturn, 1, [])), (493, (.aload_n 1, 1, [])), (494, (.invokevirtual 83, 3, [])), (497, (.aload_n 2, 1, [])), (498, (.invokevirtual 86, 3, [])), (501, (.if_icmp .eq 551, 3, [])), (504, (.iconst 0, 1, [])), (505, (.ireturn, 1, [])), (506, (.aload_n 1, 1, [])), (507, (.aload_n 0, 1, []))]), (520, [(508, (.iload 4, 2, [])), (510, (.iconst 1, 1, [])), (511, (.iadd, 1, [])), (512, (.iaload, 1, [])), (513, (.aload_n 0, 1, [])), (514, (.iload 4, 2, [])), (516, (.iconst 2, 1, [])), (517, (.iadd, 1, [])), (518, (.iaload, 1, [])), (519, (.aload_n 3, 1, []))]), (535, [(520, (.invokestatic 87, 3, [])), (523, (.istore 5, 2, [])), (525, (.aload_n 2, 1, [])), (526, (.aload_n 0, 1, [])), (527, (.iload 4, 2, [])), (529, (.iconst 1, 1, [])), (530, (.iadd, 1, [])), (531, (.iaload, 1, [])), (532, (.aload_n 0, 1, [])), (533, (.iload 4, 2, []))]), (553, [(535, (.iconst 2, 1, [])), (536, (.iadd, 1, [])), (537, (.iaload, 1, [])), (538, (.invokevirtual 90, 3, [])), (541, (.istore 6, 2, [])), (543, (.aload_n 2, 1, [])), (544, (.invokevirtual 56, 3, [])), (547, (.iload 5, 2, [])), (549, (.if_icmp .eq 5, 3, [])), (552, (.iconst 0, 1, []))]), (569, [(553, (.ireturn, 1, [])), (554, (.iload 5, 2, [])), (556, (.ifCond .ne 15, 3, [])), (559, (.aload_n 3, 1, [])), (560, (.iconst 0, 1, [])), (561, (.laload, 1, [])), (562, (.iload 6, 2, [])), (564, (.i2l, 1, [])), (565, (.lcmp, 1, [])), (566, (.ifCond .eq 5, 3, []))]), (582, [(569, (.iconst 0, 1, [])), (570, (.ireturn, 1, [])), (571, (.goto 481, 3, [5, 6, 7])), (574, (.aload_n 1, 1, [])), (575, (.aload_n 0, 1, [])), (576, (.iload 4, 2, [])), (578, (.iconst 1, 1, [])), (579, (.iadd, 1, [])), (580, (.iaload, 1, [])), (581, (.aload_n 0, 1, []))]), (596, [(582, (.iload 4, 2, [])), (584, (.iconst 2, 1, [])), (585, (.iadd, 1, [])), (586, (.iaload, 1, [])), (587, (.aload_n 0, 1, [])), (588, (.iload 4, 2, [])), (590, (.iconst 3, 1, [])), (591, (.iadd, 1, [])), (592, (.iaload, 1, [])), (593, (.invokevirtual 91, 3, []))]), (608, [(596, (.aload_n 2, 1, [])), (597, (.aload_n 0, 1, [])), (598, (.iload 4, 2, [])), (600, (.iconst 1, 1, [])), (601, (.iadd, 1, [])), (602, (.iaload, 1, [])), (603, (.aload_n 0, 1, [])), (604, (.iload 4, 2, [])), (606, (.iconst 2, 1, [])), (607, (.iadd, 1, []))]), (623, [(608, (.iaload, 1, [])), (609, (.aload_n 0, 1, [])), (610, (.iload 4, 2, [])), (612, (.iconst 3, 1, [])), (613, (.iadd, 1, [])), (614, (.iaload, 1, [])), (615, (.invokevirtual 94, 3, [])), (618, (.if_icmp .eq 434, 3, [])), (621, (.iconst 0, 1, [])), (622, (.ireturn, 1, []))]), (640, [(623, (.aload_n 1, 1, [])), (624, (.invokevirtual 95, 3, [])), (627, (.aload_n 2, 1, [])), (628, (.invokevirtual 98, 3, [])), (631, (.if_icmp .eq 421, 3, [])), (634, (.iconst 0, 1, [])), (635, (.ireturn, 1, [])), (636, (.aload_n 1, 1, [])), (637, (.aload_n 0, 1, [])), (638, (.iload 4, 2, []))]), (654, [(640, (.iconst 1, 1, [])), (641, (.iadd, 1, [])), (642, (.iaload, 1, [])), (643, (.aload_n 3, 1, [])), (644, (.invokestatic 99, 3, [])), (647, (.istore 5, 2, [])), (649, (.aload_n 2, 1, [])), (650, (.aload_n 0, 1, [])), (651, (.iload 4, 2, [])), (653, (.iconst 1, 1, []))]), (672, [(654, (.iadd, 1, [])), (655, (.iaload, 1, [])), (656, (.invokevirtual 102, 3, [])), (659, (.istore 6, 2, [])), (661, (.aload_n 2, 1, [])), (662, (.invokevirtual 56, 3, [])), (665, (.iload 5, 2, [])), (667, (.if_icmp .eq 5, 3, [])), (670, (.iconst 0, 1, [])), (671, (.ireturn, 1, []))]), (688, [(672, (.iload 5, 2, [])), (674, (.ifCond .ne 15, 3, [])), (677, (.aload_n 3, 1, [])), (678, (.iconst 0, 1, [])), (679, (.laload, 1, [])), (680, (.iload 6, 2, [])), (682, (.i2l, 1, [])), (683, (.lcmp, 1, [])), (684, (.ifCond .eq 5, 3, [])), (687, (.iconst 0, 1, []))]), (702, [(688, (.ireturn, 1, [])), (689, (.goto 363, 3, [5, 6, 7])), (692, (.aload_n 1, 1, [])), (693, (.aload_n 0, 1, [])), (694, (.iload 4, 2, [])), (696, (.iconst 1, 1, [])), (697, (.iadd, 1, [])), (698, (.iaload, 1, [])), (699, (.aload_n 0, 1, [])), (700, (.iload 4, 2, []))]), (715, [(702, (.iconst 2, 1, [])), (703, (.iadd, 1, [])), (704, (.iaload, 1, [])), (705, (.invokevirtual 103, 3, [])), (708, (.aload_n 2, 1, [])), (709, (.aload_n 0, 1, [])), (710, (.iload 4, 2, [])), (712, (.iconst 1, 1, [])), (713, (.iadd, 1, [])), (714, (.iaload, 1, []))]), (730, [(715, (.aload_n 0, 1, [])), (716, (.iload 4, 2, [])), (718, (.iconst 2, 1, [])), (719, (.iadd, 1, [])), (720, (.iaload, 1, [])), (721, (.invokevirtual 107, 3, [])), (724, (.if_icmp .eq 328, 3, [])), (727, (.iconst 0, 1, [])), (728, (.ireturn, 1, [])), (729, (.aload_n 1, 1, []))]), (744, [(730, (.aload_n 0, 1, [])), (731, (.iload 4, 2, [])), (733, (.iconst 1, 1, [])), (734, (.iadd, 1, [])), (735, (.iaload, 1, [])), (736, (.aload_n 3, 1, [])), (737, (.invokestatic 108, 3, [])), (740, (.istore 5, 2, [])), (742, (.aload_n 2, 1, [])), (743, (.aload_n 0, 1, []))]), (763, [(744, (.iload 4, 2, [])), (746, (.iconst 1, 1, [])), (747, (.iadd, 1, [])), (748, (.iaload, 1, [])), (749, (.invokevirtual 110, 3, [])), (752, (.istore 6, 2, [])), (754, (.aload_n 2, 1, [])), (755, (.invokevirtual 56, 3, [])), (758, (.iload 5, 2, [])), (760, (.if_icmp .eq 5, 3, []))]), (777, [(763, (.iconst 0, 1, [])), (764, (.ireturn, 1, [])), (765, (.iload 5, 2, [])), (767, (.ifCond .ne 15, 3, [])), (770, (.aload_n 3, 1, [])), (771, (.iconst 0, 1, [])), (772, (.laload, 1, [])), (773, (.iload 6, 2, [])), (775, (.i2l, 1, [])), (776, (.lcmp, 1, []))]), (792, [(777, (.ifCond .eq 5, 3, [])), (780, (.iconst 0, 1, [])), (781, (.ireturn, 1, [])), (782, (.goto 270, 3, [5, 6, 7])), (785, (.aload_n 1, 1, [])), (786, (.aload_n 0, 1, [])), (787, (.iload 4, 2, [])), (789, (.iconst 1, 1, [])), (790, (.iadd, 1, [])), (791, (.iaload, 1, []))]), (808, [(792, (.aload_n 3, 1, [])), (793, (.invokestatic 111, 3, [])), (796, (.istore 5, 2, [])), (798, (.aload_n 2, 1, [])), (799, (.aload_n 0, 1, [])), (800, (.iload 4, 2, [])), (802, (.iconst 1, 1, [])), (803, (.iadd, 1, [])), (804, (.iaload, 1, [])), (805, (.invokevirtual 113, 3, []))]), (827, [(808, (.lstore 6, 2, [])), (810, (.aload_n 2, 1, [])), (811, (.invokevirtual 56, 3, [])), (814, (.iload 5, 2, [])), (816, (.if_icmp .eq 5, 3, [])), (819, (.iconst 0, 1, [])), (820, (.ireturn, 1, [])), (821, (.iload 5, 2, [])), (823, (.ifCond .ne 14, 3, [])), (826, (.aload_n 3, 1, []))]), (842, [(827, (.iconst 0, 1, [])), (828, (.laload, 1, [])), (829, (.lload 6, 2, [])), (831, (.lcmp, 1, [])), (832, (.ifCond .eq 5, 3, [])), (835, (.iconst 0, 1, [])), (836, (.ireturn, 1, [])), (837, (.goto 215, 3, [5, 6, 7])), (840, (.aload_n 1, 1, [])), (841, (.aload_n 0, 1, []))]), (854, [(842, (.iload 4, 2, [])), (844, (.iconst 1, 1, [])), (845, (.iadd, 1, [])), (846, (.iaload, 1, [])), (847, (.aload_n 0, 1, [])), (848, (.iload 4, 2, [])), (850, (.iconst 2, 1, [])), (851, (.iadd, 1, [])), (852, (.iaload, 1, [])), (853, (.aload_n 3, 1, []))]), (869, [(854, (.invokestatic 114, 3, [])), (857, (.istore 5, 2, [])), (859, (.aload_n 2, 1, [])), (860, (.aload_n 0, 1, [])), (861, (.iload 4, 2, [])), (863, (.iconst 1, 1, [])), (864, (.iadd, 1, [])), (865, (.iaload, 1, [])), (866, (.aload_n 0, 1, [])), (867, (.iload 4, 2, []))]), (887, [(869, (.iconst 2, 1, [])), (870, (.iadd, 1, [])), (871, (.iaload, 1, [])), (872, (.invokevirtual 116, 3, [])), (875, (.istore 6, 2, [])), (877, (.aload_n 2, 1, [])), (878, (.invokevirtual 56, 3, [])), (881, (.iload 5, 2, [])), (883, (.if_icmp .eq 5, 3, [])), (886, (.iconst 0, 1, []))]), (903, [(887, (.ireturn, 1, [])), (888, (.iload 5, 2, [])), (890, (.ifCond .ne 15, 3, [])), (893, (.aload_n 3, 1, [])), (894, (.iconst 0, 1, [])), (895, (.laload, 1, [])), (896, (.iload 6, 2, [])), (898, (.i2l, 1, [])), (899, (.lcmp, 1, [])), (900, (.ifCond .eq 5, 3, []))]), (921, [(903, (.iconst 0, 1, [])), (904, (.ireturn, 1, [])), (905, (.goto 147, 3, [5, 6, 7])), (908, (.aload_n 1, 1, [])), (909, (.invokevirtual 117, 3, [])), (912, (.aload_n 2, 1, [])), (913, (.invokevirtual 121, 3, [])), (916, (.lcmp, 1, [])), (917, (.ifCond .eq 135, 3, [])), (920, (.iconst 0, 1, []))]), (935, [(921, (.ireturn, 1, [])), (922, (.aload_n 1, 1, [])), (923, (.aload_n 0, 1, [])), (924, (.iload 4, 2, [])), (926, (.iconst 1, 1, [])), (927, (.iadd, 1, [])), (928, (.iaload, 1, [])), (929, (.aload_n 3, 1, [])), (930, (.invokestatic 122, 3, [])), (933, (.istore 5, 2, []))]), (951, [(935, (.aload_n 2, 1, [])), (936, (.aload_n 0, 1, [])), (937, (.iload 4, 2, [])), (939, (.iconst 1, 1, [])), (940, (.iadd, 1, [])), (941, (.iaload, 1, [])), (942, (.invokevirtual 124, 3, [])), (945, (.lstore 6, 2, [])), (947, (.aload_n 2, 1, [])), (948, (.invokevirtual 56, 3, []))]), (968, [(951, (.iload 5, 2, [])), (953, (.if_icmp .eq 5, 3, [])), (956, (.iconst 0, 1, [])), (957, (.ireturn, 1, [])), (958, (.iload 5, 2, [])), (960, (.ifCond .ne 14, 3, [])), (963, (.aload_n 3, 1, [])), (964, (.iconst 0, 1, [])), (965, (.laload, 1, [])), (966, (.lload 6, 2, []))]), (983, [(968, (.lcmp, 1, [])), (969, (.ifCond .eq 5, 3, [])), (972, (.iconst 0, 1, [])), (973, (.ireturn, 1, [])), (974, (.goto 78, 3, [5, 6, 7])), (977, (.aload_n 1, 1, [])), (978, (.aload_n 0, 1, [])), (979, (.iload 4, 2, [])), (981, (.iconst 1, 1, [])), (982, (.iadd, 1, []))]), (1000, [(983, (.iaload, 1, [])), (984, (.invokevirtual 125, 3, [])), (987, (.aload_n 2, 1, [])), (988, (.aload_n 0, 1, [])), (989, (.iload 4, 2, [])), (991, (.iconst 1, 1, [])), (992, (.iadd, 1, [])), (993, (.iaload, 1, [])), (994, (.invokevirtual 129, 3, [])), (997, (.if_icmp .eq 55, 3, []))]), (1013, [(1000, (.iconst 0, 1, [])), (1001, (.ireturn, 1, [])), (1002, (.aload_n 1, 1, [])), (1003, (.aload_n 0, 1, [])), (1004, (.iload 4, 2, [])), (1006, (.iconst 1, 1, [])), (1007, (.iadd, 1, [])), (1008, (.iaload, 1, [])), (1009, (.invokevirtual 130, 3, [])), (1012, (.aload_n 2, 1, []))]), (1028, [(1013, (.aload_n 0, 1, [])), (1014, (.iload 4, 2, [])), (1016, (.iconst 1, 1, [])), (1017, (.iadd, 1, [])), (1018, (.iaload, 1, [])), (1019, (.invokevirtual 133, 3, [])), (1022, (.if_icmp .eq 30, 3, [])), (1025, (.iconst 0, 1, [])), (1026, (.ireturn, 1, [])), (1027, (.aload_n 1, 1, []))]), (1042, [(1028, (.aload_n 0, 1, [])), (1029, (.iload 4, 2, [])), (1031, (.iconst 1, 1, [])), (1032, (.iadd, 1, [])), (1033, (.iaload, 1, [])), (1034, (.invokevirtual 134, 3, [])), (1037, (.aload_n 2, 1, [])), (1038, (.aload_n 0, 1, [])), (1039, (.iload 4, 2, [])), (1041, (.iconst 1, 1, []))]), (1060, [(1042, (.iadd, 1, [])), (1043, (.iaload, 1, [])), (1044, (.invokevirtual 137, 3, [])), (1047, (.if_icmp .eq 5, 3, [])), (1050, (.iconst 0, 1, [])), (1051, (.ireturn, 1, [])), (1052, (.iinc 4 6, 3, [5, 6, 7])), (1055, (.goto (-1022), 3, [])), (1058, (.iconst 1, 1, [])), (1059, (.ireturn, 1, []))])]
def rsML : List (Nat × Nat × Nat × Nat) := [(8, 3, 0, 0), (46, 11, 0, 1), (49, 3, 7, 0), (51, 11, 27, 1), (55, 10, 34, 5), (56, 10, 28, 0), (60, 10, 2, 5), (64, 10, 36, 5), (65, 10, 3, 4), (69, 10, 37, 4), (70, 10, 4, 3), (74, 10, 38, 3), (75, 10, 5, 3), (78, 10, 39, 3), (79, 10, 6, 0), (82, 10, 52, 0), (83, 10, 7, 0), (86, 10, 53, 0), (90, 10, 54, 2), (91, 10, 9, 3), (94, 10, 55, 3), (95, 10, 10, 0), (98, 10, 59, 0), (102, 10, 60, 1), (103, 10, 12, 2), (107, 10, 61, 2), (110, 10, 62, 1), (113, 10, 67, 1), (116, 10, 68, 2), (117, 10, 16, 0), (121, 10, 69, 0), (124, 10, 71, 1), (125, 10, 18, 1), (129, 10, 72, 1), (130, 10, 19, 1), (133, 10, 73, 1), (134, 10, 20, 1), (137, 10, 74, 1)]
def ML : q_M := (x, code, maxLocals, ret, Jvm.Cond.code x code maxLocals ret :: LW, (0, 10, 388), q_lk2 tbML, q_lk rsML, q_lk [])
theorem dkML_0 : q_dk code [(18, [(0, (.new 8, 3, [])), (3, (.dup, 1, [])), (4, (.aload_n 0, 1, [])), (5, (.iconst 0, 1, [])), (6, (.invokestatic 40, 3, [])), (9, (.invokespecial 46, 3, [])), (12, (.astore_n 1, 1, [])), (13, (.new 49, 3, [])), (16, (.dup, 1, [])), (17, (.aload_n 0, 1, []))])] = true := by decide +kernel
theorem dkML_1 : q_dk code [(35, [(18, (.iconst 0, 1, [])), (19, (.invokestatic 40, 3, [])), (22, (.invokespecial 51, 3, [])), (25, (.astore_n 2, 1, [])), (26, (.iconst 1, 1, [])), (27, (.newarray .long, 2, [])), (29, (.astore_n 3, 1, [])), (30, (.iconst 1, 1, [])), (31, (.istore 4, 2, [])), (33, (.iload 4, 2, [5, 6, 7]))])] = true := by decide +kernel
theorem dkML_2 : q_dk code [(50, [(35, (.aload_n 0, 1, [])), (36, (.arraylength, 1, [])), (37, (.bipush 6, 2, [])), (39, (.isub, 1, [])), (40, (.if_icmp .gt 1018, 3, [])), (43, (.aload_n 0, 1, [])), (44, (.iload 4, 2, [])), (46, (.iaload, 1, [])), (47, (.bipush 31, 2, [])), (49, (.iand, 1, []))])] = true := by decide +kernel
theorem dkML_3 : q_dk code [(155, [(50, (.tableswitch 1002 0 19 #[94, 198, 271, 332, 381, 430, 443, 456, 524, 573, 586, 642, 679, 735, 790, 858, 872, 927, 952, 977], 94, [])), (144, (.aload_n 1, 1, [])), (145, (.aload_n 0, 1, [])), (146, (.iload 4, 2, [])), (148, (.iconst 1, 1, [])), (149, (.iadd, 1, [])), (150, (.iaload, 1, [])), (151, (.aload_n 0, 1, [])), (152, (.iload 4, 2, [])), (154, (.iconst 2, 1, []))])] = true := by decide +kernel
theorem dkML_4 : q_dk code [(167, [(155, (.iadd, 1, [])), (156, (.iaload, 1, [])), (157, (.aload_n 0, 1, [])), (158, (.iload 4, 2, [])), (160, (.iconst 3, 1, [])), (161, (.iadd, 1, [])), (162, (.iaload, 1, [])), (163, (.aload_n 0, 1, [])), (164, (.iload 4, 2, [])), (166, (.iconst 4, 1, []))])] = true := by decide +kernel
theorem dkML_5 : q_dk code [(181, [(167, (.iadd, 1, [])), (168, (.iaload, 1, [])), (169, (.aload_n 0, 1, [])), (170, (.iload 4, 2, [])), (172, (.iconst 5, 1, [])), (173, (.iadd, 1, [])), (174, (.iaload, 1, [])), (175, (.aload_n 3, 1, [])), (176, (.invokestatic 52, 3, [])), (179, (.istore 5, 2, []))])] = true := by decide +kernel
theorem dkML_6 : q_dk code [(193, [(181, (.aload_n 2, 1, [])), (182, (.aload_n 0, 1, [])), (183, (.iload 4, 2, [])), (185, (.iconst 1, 1, [])), (186, (.iadd, 1, [])), (187, (.iaload, 1, [])), (188, (.aload_n 0, 1, [])), (189, (.iload 4, 2, [])), (191, (.iconst 2, 1, [])), (192, (.iadd, 1, []))])] = true := by decide +kernel
theorem dkML_7 : q_dk code [(205, [(193, (.iaload, 1, [])), (194, (.aload_n 0, 1, [])), (195, (.iload 4, 2, [])), (197, (.iconst 3, 1, [])), (198, (.iadd, 1, [])), (199, (.iaload, 1, [])), (200, (.aload_n 0, 1, [])), (201, (.iload 4, 2, [])), (203, (.iconst 4, 1, [])), (204, (.iadd, 1, []))])] = true := by decide +kernel
theorem dkML_8 : q_dk code [(221, [(205, (.iaload, 1, [])), (206, (.aload_n 0, 1, [])), (207, (.iload 4, 2, [])), (209, (.iconst 5, 1, [])), (210, (.iadd, 1, [])), (211, (.iaload, 1, [])), (212, (.invokevirtual 55, 3, [])), (215, (.istore 6, 2, [])), (217, (.aload_n 2, 1, [])), (218, (.invokevirtual 56, 3, []))])] = true := by decide +kernel
theorem dkML_9 : q_dk code [(238, [(221, (.iload 5, 2, [])), (223, (.if_icmp .eq 5, 3, [])), (226, (.iconst 0, 1, [])), (227, (.ireturn, 1, [])), (228, (.iload 5, 2, [])), (230, (.ifCond .ne 15, 3, [])), (233, (.aload_n 3, 1, [])), (234, (.iconst 0, 1, [])), (235, (.laload, 1, [])), (236, (.iload 6, 2, []))])] = true := by decide +kernel
theorem dkML_10 : q_dk code [(253, [(238, (.i2l, 1, [])), (239, (.lcmp, 1, [])), (240, (.ifCond .eq 5, 3, [])), (243, (.iconst 0, 1, [])), (244, (.ireturn, 1, [])), (245, (.goto 807, 3, [5, 6, 7])), (248, (.aload_n 1, 1, [])), (249, (.aload_n 0, 1, [])), (250, (.iload 4, 2, [])), (252, (.iconst 1, 1, []))])] = true := by decide +kernel
theorem dkML_11 : q_dk code [(265, [(253, (.iadd, 1, [])), (254, (.iaload, 1, [])), (255, (.aload_n 0, 1, [])), (256, (.iload 4, 2, [])), (258, (.iconst 2, 1, [])), (259, (.iadd, 1, [])), (260, (.iaload, 1, [])), (261, (.aload_n 0, 1, [])), (262, (.iload 4, 2, [])), (264, (.iconst 3, 1, []))])] = true := by decide +kernel
theorem dkML_12 : q_dk code [(277, [(265, (.iadd, 1, [])), (266, (.iaload, 1, [])), (267, (.aload_n 0, 1, [])), (268, (.iload 4, 2, [])), (270, (.iconst 4, 1, [])), (271, (.iadd, 1, [])), (272, (.iaload, 1, [])), (273, (.aload_n 0, 1, [])), (274, (.iload 4, 2, [])), (276, (.iconst 5, 1, []))])] = true := by decide +kernel
theorem dkML_13 : q_dk code [(290, [(277, (.iadd, 1, [])), (278, (.iaload, 1, [])), (279, (.invokevirtual 60, 3, [])), (282, (.aload_n 2, 1, [])), (283, (.aload_n 0, 1, [])), (284, (.iload 4, 2, [])), (286, (.iconst 1, 1, [])), (287, (.iadd, 1, [])), (288, (.iaload, 1, [])), (289, (.aload_n 0, 1, []))])] = true := by decide +kernel
theorem dkML_14 : q_dk code [(302, [(290, (.iload 4, 2, [])), (292, (.iconst 2, 1, [])), (293, (.iadd, 1, [])), (294, (.iaload, 1, [])), (295, (.aload_n 0, 1, [])), (296, (.iload 4, 2, [])), (298, (.iconst 3, 1, [])), (299, (.iadd, 1, [])), (300, (.iaload, 1, [])), (301, (.aload_n 0, 1, []))])] = true := by decide +kernel
theorem dkML_15 : q_dk code [(316, [(302, (.iload 4, 2, [])), (304, (.iconst 4, 1, [])), (305, (.iadd, 1, [])), (306, (.iaload, 1, [])), (307, (.aload_n 0, 1, [])), (308, (.iload 4, 2, [])), (310, (.iconst 5, 1, [])), (311, (.iadd, 1, [])), (312, (.iaload, 1, [])), (313, (.invokevirtual 64, 3, []))])] = true := by decide +kernel
theorem dkML_16 : q_dk code [(329, [(316, (.if_icmp .eq 736, 3, [])), (319, (.iconst 0, 1, [])), (320, (.ireturn, 1, [])), (321, (.aload_n 1, 1, [])), (322, (.aload_n 0, 1, [])), (323, (.iload 4, 2, [])), (325, (.iconst 1, 1, [])), (326, (.iadd, 1, [])), (327, (.iaload, 1, [])), (328, (.aload_n 0, 1, []))])] = true := by decide +kernel
theorem dkML_17 : q_dk code [(341, [(329, (.iload 4, 2, [])), (331, (.iconst 2, 1, [])), (332, (.iadd, 1, [])), (333, (.iaload, 1, [])), (334, (.aload_n 0, 1, [])), (335, (.iload 4, 2, [])), (337, (.iconst 3, 1, [])), (338, (.iadd, 1, [])), (339, (.iaload, 1, [])), (340, (.aload_n 0, 1, []))])] = true := by decide +kernel
theorem dkML_18 : q_dk code [(355, [(341, (.iload 4, 2, [])), (343, (.iconst 4, 1, [])), (344, (.iadd, 1, [])), (345, (.iaload, 1, [])), (346, (.invokevirtual 65, 3, [])), (349, (.aload_n 2, 1, [])), (350, (.aload_n 0, 1, [])), (351, (.iload 4, 2, [])), (353, (.iconst 1, 1, [])), (354, (.iadd, 1, []))])] = true := by decide +kernel
theorem dkML_19 : q_dk code [(367, [(355, (.iaload, 1, [])), (356, (.aload_n 0, 1, [])), (357, (.iload 4, 2, [])), (359, (.iconst 2, 1, [])), (360, (.iadd, 1, [])), (361, (.iaload, 1, [])), (362, (.aload_n 0, 1, [])), (363, (.iload 4, 2, [])), (365, (.iconst 3, 1, [])), (366, (.iadd, 1, []))])] = true := by decide +kernel
theorem dkML_20 : q_dk code [(382, [(367, (.iaload, 1, [])), (368, (.aload_n 0, 1, [])), (369, (.iload 4, 2, [])), (371, (.iconst 4, 1, [])), (372, (.iadd, 1, [])), (373, (.iaload, 1, [])), (374, (.invokevirtual 69, 3, [])), (377, (.if_icmp .eq 675, 3, [])), (380, (.iconst 0, 1, [])), (381, (.ireturn, 1, []))])] = true := by decide +kernel
theorem dkML_21 : q_dk code [(394, [(382, (.aload_n 1, 1, [])), (383, (.aload_n 0, 1, [])), (384, (.iload 4, 2, [])), (386, (.iconst 1, 1, [])), (387, (.iadd, 1, [])), (388, (.iaload, 1, [])), (389, (.aload_n 0, 1, [])), (390, (.iload 4, 2, [])), (392, (.iconst 2, 1, [])), (393, (.iadd, 1, []))])] = true := by decide +kernel
theorem dkML_22 : q_dk code [(408, [(394, (.iaload, 1, [])), (395, (.aload_n 0, 1, [])), (396, (.iload 4, 2, [])), (398, (.iconst 3, 1, [])), (399, (.iadd, 1, [])), (400, (.iaload, 1, [])), (401, (.invokevirtual 70, 3, [])), (404, (.aload_n 2, 1, [])), (405, (.aload_n 0, 1, [])), (406, (.iload 4, 2, []))])] = true := by decide +kernel
theorem dkML_23 : q_dk code [(420, [(408, (.iconst 1, 1, [])), (409, (.iadd, 1, [])), (410, (.iaload, 1, [])), (411, (.aload_n 0, 1, [])), (412, (.iload 4, 2, [])), (414, (.iconst 2, 1, [])), (415, (.iadd, 1, [])), (416, (.iaload, 1, [])), (417, (.aload_n 0, 1, [])), (418, (.iload 4, 2, []))])] = true := by decide +kernel
theorem dkML_24 : q_dk code [(435, [(420, (.iconst 3, 1, [])), (421, (.iadd, 1, [])), (422, (.iaload, 1, [])), (423, (.invokevirtual 74, 3, [])), (426, (.if_icmp .eq 626, 3, [])), (429, (.iconst 0, 1, [])), (430, (.ireturn, 1, [])), (431, (.aload_n 1, 1, [])), (432, (.aload_n 0, 1, [])), (433, (.iload 4, 2, []))])] = true := by decide +kernel
theorem dkML_25 : q_dk code [(447, [(435, (.iconst 1, 1, [])), (436, (.iadd, 1, [])), (437, (.iaload, 1, [])), (438, (.aload_n 0, 1, [])), (439, (.iload 4, 2, [])), (441, (.iconst 2, 1, [])), (442, (.iadd, 1, [])), (443, (.iaload, 1, [])), (444, (.aload_n 0, 1, [])), (445, (.iload 4, 2, []))])] = true := by decide +kernel
theorem dkML_26 : q_dk code [(460, [(447, (.iconst 3, 1, [])), (448, (.iadd, 1, [])), (449, (.iaload, 1, [])), (450, (.invokevirtual 75, 3, [])), (453, (.aload_n 2, 1, [])), (454, (.aload_n 0, 1, [])), (455, (.iload 4, 2, [])), (457, (.iconst 1, 1, [])), (458, (.iadd, 1, [])), (459, (.iaload, 1, []))])] = true := by decide +kernel
theorem dkML_27 : q_dk code [(472, [(460, (.aload_n 0, 1, [])), (461, (.iload 4, 2, [])), (463, (.iconst 2, 1, [])), (464, (.iadd, 1, [])), (465, (.iaload, 1, [])), (466, (.aload_n 0, 1, [])), (467, (.iload 4, 2, [])), (469, (.iconst 3, 1, [])), (470, (.iadd, 1, [])), (471, (.iaload, 1, []))])] = true := by decide +kernel
theorem dkML_28 : q_dk code [(492, [(472, (.invokevirtual 78, 3, [])), (475, (.if_icmp .eq 577, 3, [])), (478, (.iconst 0, 1, [])), (479, (.ireturn, 1, [])), (480, (.aload_n 1, 1, [])), (481, (.invokevirtual 79, 3, [])), (484, (.aload_n 2, 1, [])), (485, (.invokevirtual 82, 3, [])), (488, (.if_icmp .eq 564, 3, [])), (491, (.iconst 0, 1, []))])] = true := by decide +kernel
theorem dkML_29 : q_dk code [(508, [(492, (.ireturn, 1, [])), (493, (.aload_n 1, 1, [])), (494, (.invokevirtual 83, 3, [])), (497, (.aload_n 2, 1, [])), (498, (.invokevirtual 86, 3, [])), (501, (.if_icmp .eq 551, 3, [])), (504, (.iconst 0, 1, [])), (505, (.ireturn, 1, [])), (506, (.aload_n 1, 1, [])), (507, (.aload_n 0, 1, []))])] = true := by decide +kernel
theorem dkML_30 : q_dk code [(520, [(508, (.iload 4, 2, [])), (510, (.iconst 1, 1, [])), (511, (.iadd, 1, [])), (512, (.iaload, 1, [])), (513, (.aload_n 0, 1, [])), (514, (.iload 4, 2, [])), (516, (.iconst 2, 1, [])), (517, (.iadd, 1, [])), (518, (.iaload, 1, [])), (519, (.aload_n 3, 1, []))])] = true := by decide +kernel
theorem dkML_31 : q_dk code [(535, [(520, (.invokestatic 87, 3, [])), (523, (.istore 5, 2, [])), (525, (.aload_n 2, 1, [])), (526, (.aload_n 0, 1, [])), (527, (.iload 4, 2, [])), (529, (.iconst 1, 1, [])), (530, (.iadd, 1, [])), (531, (.iaload, 1, [])), (532, (.aload_n 0, 1, [])), (533, (.iload 4, 2, []))])] = true := by decide +kernel
theorem dkML_32 : q_dk code [(553, [(535, (.iconst 2, 1, [])), (536, (.iadd, 1, [])), (537, (.iaload, 1, [])), (538, (.invokevirtual 90, 3, [])), (541, (.istore 6, 2, [])), (543, (.aload_n 2, 1, [])), (544, (.invokevirtual 56, 3, [])), (547, (.iload 5, 2, [])), (549, (.if_icmp .eq 5, 3, [])), (552, (.iconst 0, 1, []))])] = true := by decide +kernel
theorem dkML_33 : q_dk code [(569, [(553, (.ireturn, 1, [])), (554, (.iload 5, 2, [])), (556, (.ifCond .ne 15, 3, [])), (559, (.aload_n 3, 1, [])), (560, (.iconst 0, 1, [])), (561, (.laload, 1, [])), (562, (.iload 6, 2, [])), (564, (.i2l, 1, [])), (565, (.lcmp, 1, [])), (566, (.ifCond .eq 5, 3, []))])] = true := by decide +kernel
theorem dkML_34 : q_dk code [(582, [(569, (.iconst 0, 1, [])), (570, (.ireturn, 1, [])), (571, (.goto 481, 3, [5, 6, 7])), (574, (.aload_n 1, 1, [])), (575, (.aload_n 0, 1, [])), (576, (.iload 4, 2, [])), (578, (.iconst 1, 1, [])), (579, (.iadd, 1, [])), (580, (.iaload, 1, [])), (581, (.aload_n 0, 1, []))])] = true := by decide +kernel
theorem dkML_35 : q_dk code [(596, [(582, (.iload 4, 2, [])), (584, (.iconst 2, 1, [])), (585, (.iadd, 1, [])), (586, (.iaload, 1, [])), (587, (.aload_n 0, 1, [])), (588, (.iload 4, 2, [])), (590, (.iconst 3, 1, [])), (591, (.iadd, 1, [])), (592, (.iaload, 1, [])), (593, (.invokevirtual 91, 3, []))])] = true := by decide +kernel
theorem dkML_36 : q_dk code [(608, [(596, (.aload_n 2, 1, [])), (597, (.aload_n 0, 1, [])), (598, (.iload 4, 2, [])), (600, (.iconst 1, 1, [])), (601, (.iadd, 1, [])), (602, (.iaload, 1, [])), (603, (.aload_n 0, 1, [])), (604, (.iload 4, 2, [])), (606, (.iconst 2, 1, [])), (607, (.iadd, 1, []))])] = true := by decide +kernel
theorem dkML_37 : q_dk code [(623, [(608, (.iaload, 1, [])), (609, (.aload_n 0, 1, [])), (610, (.iload 4, 2, [])), (612, (.iconst 3, 1, [])), (613, (.iadd, 1, [])), (614, (.iaload, 1, [])), (615, (.invokevirtual 94, 3, [])), (618, (.if_icmp .eq 434, 3, [])), (621, (.iconst 0, 1, [])), (622, (.ireturn, 1, []))])] = true := by decide +kernel
theorem dkML_38 : q_dk code [(640, [(623, (.aload_n 1, 1, [])), (624, (.invokevirtual 95, 3, [])), (627, (.aload_n 2, 1, [])), (628, (.invokevirtual 98, 3, [])), (631, (.if_icmp .eq 421, 3, [])), (634, (.iconst 0, 1, [])), (635, (.ireturn, 1, [])), (636, (.aload_n 1, 1, [])), (637, (.aload_n 0, 1, [])), (638, (.iload 4, 2, []))])] = true := by decide +kernel
theorem dkML_39 : q_dk code [(654, [(640, (.iconst 1, 1, [])), (641, (.iadd, 1, [])), (642, (.iaload, 1, [])), (643, (.aload_n 3, 1, [])), (644, (.invokestatic 99, 3, [])), (647, (.istore 5, 2, [])), (649, (.aload_n 2, 1, [])), (650, (.aload_n 0, 1, [])), (651, (.iload 4, 2, [])), (653, (.iconst 1, 1, []))])] = true := by decide +kernel
theorem dkML_40 : q_dk code [(672, [(654, (.iadd, 1, [])), (655, (.iaload, 1, [])), (656, (.invokevirtual 102, 3, [])), (659, (.istore 6, 2, [])), (661, (.aload_n 2, 1, [])), (662, (.invokevirtual 56, 3, [])), (665, (.iload 5, 2, [])), (667, (.if_icmp .eq 5, 3, [])), (670, (.iconst 0, 1, [])), (671, (.ireturn, 1, []))])] = true := by decide +kernel
theorem dkML_41 : q_dk code [(688, [(672, (.iload 5, 2, [])), (674, (.ifCond .ne 15, 3, [])), (677, (.aload_n 3, 1, [])), (678, (.iconst 0, 1, [])), (679, (.laload, 1, [])), (680, (.iload 6, 2, [])), (682, (.i2l, 1, [])), (683, (.lcmp, 1, [])), (684, (.ifCond .eq 5, 3, [])), (687, (.iconst 0, 1, []))])] = true := by decide +kernel
theorem dkML_42 : q_dk code [(702, [(688, (.ireturn, 1, [])), (689, (.goto 363, 3, [5, 6, 7])), (692, (.aload_n 1, 1, [])), (693, (.aload_n 0, 1, [])), (694, (.iload 4, 2, [])), (696, (.iconst 1, 1, [])), (697, (.iadd, 1, [])), (698, (.iaload, 1, [])), (699, (.aload_n 0, 1, [])), (700, (.iload 4, 2, []))])] = true := by decide +kernel
theorem dkML_43 : q_dk code [(715, [(702, (.iconst 2, 1, [])), (703, (.iadd, 1, [])), (704, (.iaload, 1, [])), (705, (.invokevirtual 103, 3, [])), (708, (.aload_n 2, 1, [])), (709, (.aload_n 0, 1, [])), (710, (.iload 4, 2, [])), (712, (.iconst 1, 1, [])), (713, (.iadd, 1, [])), (714, (.iaload, 1, []))])] = true := by decide +kernel
theorem dkML_44 : q_dk code [(730, [(715, (.aload_n 0, 1, [])), (716, (.iload 4, 2, [])), (718, (.iconst 2, 1, [])), (719, (.iadd, 1, [])), (720, (.iaload, 1, [])), (721, (.invokevirtual 107, 3, [])), (724, (.if_icmp .eq 328, 3, [])), (727, (.iconst 0, 1, [])), (728, (.ireturn, 1, [])), (729, (.aload_n 1, 1, []))])] = true := by decide +kernel
theorem dkML_45 : q_dk code [(744, [(730, (.aload_n 0, 1, [])), (731, (.iload 4, 2, [])), (733, (.iconst 1, 1, [])), (734, (.iadd, 1, [])), (735, (.iaload, 1, [])), (736, (.aload_n 3, 1, [])), (737, (.invokestatic 108, 3, [])), (740, (.istore 5, 2, [])), (742, (.aload_n 2, 1, [])), (743, (.aload_n 0, 1, []))])] = true := by decide +kernel
theorem dkML_46 : q_dk code [(763, [(744, (.iload 4, 2, [])), (746, (.iconst 1, 1, [])), (747, (.iadd, 1, [])), (748, (.iaload, 1, [])), (749, (.invokevirtual 110, 3, [])), (752, (.istore 6, 2, [])), (754, (.aload_n 2, 1, [])), (755, (.invokevirtual 56, 3, [])), (758, (.iload 5, 2, [])), (760, (.if_icmp .eq 5, 3, []))])] = true := by decide +kernel
theorem dkML_47 : q_dk code [(777, [(763, (.iconst 0, 1, [])), (764, (.ireturn, 1, [])), (765, (.iload 5, 2, [])), (767, (.ifCond .ne 15, 3, [])), (770, (.aload_n 3, 1, [])), (771, (.iconst 0, 1, [])), (772, (.laload, 1, [])), (773, (.iload 6, 2, [])), (775, (.i2l, 1, [])), (776, (.lcmp, 1, []))])] = true := by decide +kernel
theorem dkML_48 : q_dk code [(792, [(777, (.ifCond .eq 5, 3, [])), (780, (.iconst 0, 1, [])), (781, (.ireturn, 1, [])), (782, (.goto 270, 3, [5, 6, 7])), (785, (.aload_n 1, 1, [])), (786, (.aload_n 0, 1, [])), (787, (.iload 4, 2, [])), (789, (.iconst 1, 1, [])), (790, (.iadd, 1, [])), (791, (.iaload, 1, []))])] = true := by decide +kernel
theorem dkML_49 : q_dk code [(808, [(792, (.aload_n 3, 1, [])), (793, (.invokestatic 111, 3, [])), (796, (.istore 5, 2, [])), (798, (.aload_n 2, 1, [])), (799, (.aload_n 0, 1, [])), (800, (.iload 4, 2, [])), (802, (.iconst 1, 1, [])), (803, (.iadd, 1, [])), (804, (.iaload, 1, [])), (805, (.invokevirtual 113, 3, []))])] = true := by decide +kernel
theorem dkML_50 : q_dk code [(827, [(808, (.lstore 6, 2, [])), (810, (.aload_n 2, 1, [])), (811, (.invokevirtual 56, 3, [])), (814, (.iload 5, 2, [])), (816, (.if_icmp .eq 5, 3, [])), (819, (.iconst 0, 1, [])), (820, (.ireturn, 1, [])), (821, (.iload 5, 2, [])), (823, (.ifCond .ne 14, 3, [])), (826, (.aload_n 3, 1, []))])] = true := by decide +kernel
theorem dkML_51 : q_dk code [(842, [(827, (.iconst 0, 1, [])), (828, (.laload, 1, [])), (829, (.lload 6, 2, [])), (831, (.lcmp, 1, [])), (832, (.ifCond .eq 5, 3, [])), (835, (.iconst 0, 1, [])), (836, (.ireturn, 1, [])), (837, (.goto 215, 3, [5, 6, 7])), (840, (.aload_n 1, 1, [])), (841, (.aload_n 0, 1, []))])] = true := by decide +kernel
theorem dkML_52 : q_dk code [(854, [(842, (.iload 4, 2, [])), (844, (.iconst 1, 1, [])), (845, (.iadd, 1, [])), (846, (.iaload, 1, [])), (847, (.aload_n 0, 1, [])), (848, (.iload 4, 2, [])), (850, (.iconst 2, 1, [])), (851, (.iadd, 1, [])), (852, (.iaload, 1, [])), (853, (.aload_n 3, 1, []))])] = true := by decide +kernel
theorem dkML_53 : q_dk code [(869, [(854, (.invokestatic 114, 3, [])), (857, (.istore 5, 2, [])), (859, (.aload_n 2, 1, [])), (860, (.aload_n 0, 1, [])), (861, (.iload 4, 2, [])), (863, (.iconst 1, 1, [])), (864, (.iadd, 1, [])), (865, (.iaload, 1, [])), (866, (.aload_n 0, 1, [])), (867, (.iload 4, 2, []))])] = true := by decide +kernel
theorem dkML_54 : q_dk code [(887, [(869, (.iconst 2, 1, [])), (870, (.iadd, 1, [])), (871, (.iaload, 1, [])), (872, (.invokevirtual 116, 3, [])), (875, (.istore 6, 2, [])), (877, (.aload_n 2, 1, [])), (878, (.invokevirtual 56, 3, [])), (881, (.iload 5, 2, [])), (883, (.if_icmp .eq 5, 3, [])), (886, (.iconst 0, 1, []))])] = true := by decide +kernel
theorem dkML_55 : q_dk code [(903, [(887, (.ireturn, 1, [])), (888, (.iload 5, 2, [])), (890, (.ifCond .ne 15, 3, [])), (893, (.aload_n 3, 1, [])), (894, (.iconst 0, 1, [])), (895, (.laload, 1, [])), (896, (.iload 6, 2, [])), (898, (.i2l, 1, [])), (899, (.lcmp, 1, [])), (900, (.ifCond .eq 5, 3, []))])] = true := by decide +kernel
theorem dkML_56 : q_dk code [(921, [(903, (.iconst 0, 1, [])), (904, (.ireturn, 1, [])), (905, (.goto 147, 3, [5, 6, 7])), (908, (.aload_n 1, 1, [])), (909, (.invokevirtual 117, 3, [])), (912, (.aload_n 2, 1, [])), (913, (.invokevirtual 121, 3, [])), (916, (.lcmp, 1, [])), (917, (.ifCond .eq 135, 3, [])), (920, (.iconst 0, 1, []))])] = true := by decide +kernel
theorem dkML_57 : q_dk code [(935, [(921, (.ireturn, 1, [])), (922, (.aload_n 1, 1, [])), (923, (.aload_n 0, 1, [])), (924, (.iload 4, 2, [])), (926, (.iconst 1, 1, [])), (927, (.iadd, 1, [])), (928, (.iaload, 1, [])), (929, (.aload_n 3, 1, [])), (930, (.invokestatic 122, 3, [])), (933, (.istore 5, 2, []))])] = true := by decide +kernel
theorem dkML_58 : q_dk code [(951, [(935, (.aload_n 2, 1, [])), (936, (.aload_n 0, 1, [])), (937, (.iload 4, 2, [])), (939, (.iconst 1, 1, [])), (940, (.iadd, 1, [])), (941, (.iaload, 1, [])), (942, (.invokevirtual 124, 3, [])), (945, (.lstore 6, 2, [])), (947, (.aload_n 2, 1, [])), (948, (.invokevirtual 56, 3, []))])] = true := by decide +kernel
theorem dkML_59 : q_dk code [(968, [(951, (.iload 5, 2, [])), (953, (.if_icmp .eq 5, 3, [])), (956, (.iconst 0, 1, [])), (957, (.ireturn, 1, [])), (958, (.iload 5, 2, [])), (960, (.ifCond .ne 14, 3, [])), (963, (.aload_n 3, 1, [])), (964, (.iconst 0, 1, [])), (965, (.laload, 1, [])), (966, (.lload 6, 2, []))])] = true := by decide +kernel
theorem dkML_60 : q_dk code [(983, [(968, (.lcmp, 1, [])), (969, (.ifCond .eq 5, 3, [])), (972, (.iconst 0, 1, [])), (973, (.ireturn, 1, [])), (974, (.goto 78, 3, [5, 6, 7])), (977, (.aload_n 1, 1, [])), (978, (.aload_n 0, 1, [])), (979, (.iload 4, 2, [])), (981, (.iconst 1, 1, [])), (982, (.iadd, 1, []))])] = true := by decide +kernel
theorem dkML_61 : q_dk code [(1000, [(983, (.iaload, 1, [])), (984, (.invokevirtual 125, 3, [])), (987, (.aload_n 2, 1, [])), (988, (.aload_n 0, 1, [])), (989, (.iload 4, 2, [])), (991, (.iconst 1, 1, [])), (992, (.iadd, 1, [])), (993, (.iaload, 1, [])), (994, (.invokevirtual 129, 3, [])), (997, (.if_icmp .eq 55, 3, []))])] = true := by decide +kernel
theorem dkML_62 : q_dk code [(1013, [(1000, (.iconst 0, 1, [])), (1001, (.ireturn, 1, [])), (1002, (.aload_n 1, 1, [])), (1003, (.aload_n 0, 1, [])), (1004, (.iload 4, 2, [])), (1006, (.iconst 1, 1, [])), (1007, (.iadd, 1, [])), (1008, (.iaload, 1, [])), (1009, (.invokevirtual 130, 3, [])), (1012, (.aload_n 2, 1, []))])] = true := by decide +kernel
theorem dkML_63 : q_dk code [(1028, [(1013, (.aload_n 0, 1, [])), (1014, (.iload 4, 2, [])), (1016, (.iconst 1, 1, [])), (1017, (.iadd, 1, [])), (1018, (.iaload, 1, [])), (1019, (.invokevirtual 133, 3, [])), (1022, (.if_icmp .eq 30, 3, [])), (1025, (.iconst 0, 1, [])), (1026, (.ireturn, 1, [])), (1027, (.aload_n 1, 1, []))])] = true := by decide +kernel
theorem dkML_64 : q_dk code [(1042, [(1028, (.aload_n 0, 1, [])), (1029, (.iload 4, 2, [])), (1031, (.iconst 1, 1, [])), (1032, (.iadd, 1, [])), (1033, (.iaload, 1, [])), (1034, (.invokevirtual 134, 3, [])), (1037, (.aload_n 2, 1, [])), (1038, (.aload_n 0, 1, [])), (1039, (.iload 4, 2, [])), (1041, (.iconst 1, 1, []))])] = true := by decide +kernel
theorem dkML_65 : q_dk code [(1060, [(1042, (.iadd, 1, [])), (1043, (.iaload, 1, [])), (1044, (.invokevirtual 137, 3, [])), (1047, (.if_icmp .eq 5, 3, [])), (1050, (.iconst 0, 1, [])), (1051, (.ireturn, 1, [])), (1052, (.iinc 4 6, 3, [5, 6, 7])), (1055, (.goto (-1022), 3, [])), (1058, (.iconst 1, 1, [])), (1059, (.ireturn, 1, []))])] = true := by decide +kernel
theorem dkML : q_dk code tbML = true := q_dk_c dkML_0 (q_dk_c dkML_1 (q_dk_c dkML_2 (q_dk_c dkML_3 (q_dk_c dkML_4 (q_dk_c dkML_5 (q_dk_c dkML_6 (q_dk_c dkML_7 (q_dk_c dkML_8 (q_dk_c dkML_9 (q_dk_c dkML_10 (q_dk_c dkML_11 (q_dk_c dkML_12 (q_dk_c dkML_13 (q_dk_c dkML_14 (q_dk_c dkML_15 (q_dk_c dkML_16 (q_dk_c dkML_17 (q_dk_c dkML_18 (q_dk_c dkML_19 (q_dk_c dkML_20 (q_dk_c dkML_21 (q_dk_c dkML_22 (q_dk_c dkML_23 (q_dk_c dkML_24 (q_dk_c dkML_25 (q_dk_c dkML_26 (q_dk_c dkML_27 (q_dk_c dkML_28 (q_dk_c dkML_29 (q_dk_c dkML_30 (q_dk_c dkML_31 (q_dk_c dkML_32 (q_dk_c dkML_33 (q_dk_c dkML_34 (q_dk_c dkML_35 (q_dk_c dkML_36 (q_dk_c dkML_37 (q_dk_c dkML_38 (q_dk_c dkML_39 (q_dk_c dkML_40 (q_dk_c dkML_41 (q_dk_c dkML_42 (q_dk_c dkML_43 (q_dk_c dkML_44 (q_dk_c dkML_45 (q_dk_c dkML_46 (q_dk_c dkML_47 (q_dk_c dkML_48 (q_dk_c dkML_49 (q_dk_c dkML_50 (q_dk_c dkML_51 (q_dk_c dkML_52 (q_dk_c dkML_53 (q_dk_c dkML_54 (q_dk_c dkML_55 (q_dk_c dkML_56 (q_dk_c dkML_57 (q_dk_c dkML_58 (q_dk_c dkML_59 (q_dk_c dkML_60 (q_dk_c dkML_61 (q_dk_c dkML_62 (q_dk_c dkML_63 (q_dk_c dkML_64 (q_dk_c dkML_65 (rfl))))))))))))))))))))))))))))))))))))))))))))))))))))))))))))))))))
theorem omML (xs : List Int32) : q_okM (GG xs) PP ML := by
  have hW : ∀ w ∈ LW, w ∈ q_ws ML := fun w h => List.mem_cons_of_mem _ h
  exact q_okM_of (by decide) rfl dkML (List.forall_mem_cons.mpr ⟨q_okR_n ⟨"CommitDesk", gT0, 6, rfl, fun w h => hW w (guw0 w h), gtyok0, gkd0, hW _ nw_19, hW _ nw_20, hW _ mw_1⟩, List.forall_mem_cons.mpr ⟨q_okR_i ⟨⟨LW_good hW (hW _ nw_23), hW _ mw_1, Or.inl (hW _ nw_21), by decide, by decide, by decide +kernel, Nat.le_of_ble_eq_true rfl, Nat.le_of_ble_eq_true rfl⟩, hW _ nw_22, rfl, rfl⟩, List.forall_mem_cons.mpr ⟨q_okR_n ⟨"CommitDeskModel", gT7, 26, rfl, fun w h => hW w (guw7 w h), gtyok7, gkd7, hW _ nw_711, hW _ nw_712, hW _ mw_9⟩, List.forall_mem_cons.mpr ⟨q_okR_i ⟨⟨LW_good hW (hW _ nw_715), hW _ mw_9, Or.inl (hW _ nw_713), by decide, by decide, by decide +kernel, Nat.le_of_ble_eq_true rfl, Nat.le_of_ble_eq_true rfl⟩, hW _ nw_714, rfl, rfl⟩, List.forall_mem_cons.mpr ⟨q_okR_v ⟨⟨LW_good hW (hW _ nw_803), hW _ mw_9, Or.inl (hW _ nw_800), by decide, by decide, by decide +kernel, Nat.le_of_ble_eq_true rfl, Nat.le_of_ble_eq_true rfl⟩, hW _ nw_801, hW _ nw_802, gT7, 26, rfl⟩, List.forall_mem_cons.mpr ⟨q_okR_v ⟨⟨LW_good hW (hW _ nw_799), hW _ mw_9, Or.inl (hW _ nw_796), by decide, by decide, by decide +kernel, Nat.le_of_ble_eq_true rfl, Nat.le_of_ble_eq_true rfl⟩, hW _ nw_797, hW _ nw_798, gT7, 26, rfl⟩, List.forall_mem_cons.mpr ⟨q_okR_v ⟨⟨LW_good hW (hW _ nw_253), hW _ mw_1, Or.inl (hW _ nw_250), by decide, by decide, by decide +kernel, Nat.le_of_ble_eq_true rfl, Nat.le_of_ble_eq_true rfl⟩, hW _ nw_251, hW _ nw_252, gT0, 6, rfl⟩, List.forall_mem_cons.mpr ⟨q_okR_v ⟨⟨LW_good hW (hW _ nw_854), hW _ mw_9, Or.inl (hW _ nw_851), by decide, by decide, by decide +kernel, Nat.le_of_ble_eq_true rfl, Nat.le_of_ble_eq_true rfl⟩, hW _ nw_852, hW _ nw_853, gT7, 26, rfl⟩, List.forall_mem_cons.mpr ⟨q_okR_v ⟨⟨LW_good hW (hW _ nw_273), hW _ mw_1, Or.inl (hW _ nw_270), by decide, by decide, by decide +kernel, Nat.le_of_ble_eq_true rfl, Nat.le_of_ble_eq_true rfl⟩, hW _ nw_271, hW _ nw_272, gT0, 6, rfl⟩, List.forall_mem_cons.mpr ⟨q_okR_v ⟨⟨LW_good hW (hW _ nw_865), hW _ mw_9, Or.inl (hW _ nw_862), by decide, by decide, by decide +kernel, Nat.le_of_ble_eq_true rfl, Nat.le_of_ble_eq_true rfl⟩, hW _ nw_863, hW _ nw_864, gT7, 26, rfl⟩, List.forall_mem_cons.mpr ⟨q_okR_v ⟨⟨LW_good hW (hW _ nw_281), hW _ mw_1, Or.inl (hW _ nw_278), by decide, by decide, by decide +kernel, Nat.le_of_ble_eq_true rfl, Nat.le_of_ble_eq_true rfl⟩, hW _ nw_279, hW _ nw_280, gT0, 6, rfl⟩, List.forall_mem_cons.mpr ⟨q_okR_v ⟨⟨LW_good hW (hW _ nw_869), hW _ mw_9, Or.inl (hW _ nw_866), by decide, by decide, by decide +kernel, Nat.le_of_ble_eq_true rfl, Nat.le_of_ble_eq_true rfl⟩, hW _ nw_867, hW _ nw_868, gT7, 26, rfl⟩, List.forall_mem_cons.mpr ⟨q_okR_v ⟨⟨LW_good hW (hW _ nw_289), hW _ mw_1, Or.inl (hW _ nw_286), by decide, by decide, by decide +kernel, Nat.le_of_ble_eq_true rfl, Nat.le_of_ble_eq_true rfl⟩, hW _ nw_287, hW _ nw_288, gT0, 6, rfl⟩, List.forall_mem_cons.mpr ⟨q_okR_v ⟨⟨LW_good hW (hW _ nw_873), hW _ mw_9, Or.inl (hW _ nw_870), by decide, by decide, by decide +kernel, Nat.le_of_ble_eq_true rfl, Nat.le_of_ble_eq_true rfl⟩, hW _ nw_871, hW _ nw_872, gT7, 26, rfl⟩, List.forall_mem_cons.mpr ⟨q_okR_v ⟨⟨LW_good hW (hW _ nw_297), hW _ mw_1, Or.inl (hW _ nw_294), by decide, by decide, by decide +kernel, Nat.le_of_ble_eq_true rfl, Nat.le_of_ble_eq_true rfl⟩, hW _ nw_295, hW _ nw_296, gT0, 6, rfl⟩, List.forall_mem_cons.mpr ⟨q_okR_v ⟨⟨LW_good hW (hW _ nw_881), hW _ mw_9, Or.inl (hW _ nw_878), by decide, by decide, by decide +kernel, Nat.le_of_ble_eq_true rfl, Nat.le_of_ble_eq_true rfl⟩, hW _ nw_879, hW _ nw_880, gT7, 26, rfl⟩, List.forall_mem_cons.mpr ⟨q_okR_v ⟨⟨LW_good hW (hW _ nw_406), hW _ mw_1, Or.inl (hW _ nw_403), by decide, by decide, by decide +kernel, Nat.le_of_ble_eq_true rfl, Nat.le_of_ble_eq_true rfl⟩, hW _ nw_404, hW _ nw_405, gT0, 6, rfl⟩, List.forall_mem_cons.mpr ⟨q_okR_v ⟨⟨LW_good hW (hW _ nw_913), hW _ mw_9, Or.inl (hW _ nw_910), by decide, by decide, by decide +kernel, Nat.le_of_ble_eq_true rfl, Nat.le_of_ble_eq_true rfl⟩, hW _ nw_911, hW _ nw_912, gT7, 26, rfl⟩, List.forall_mem_cons.mpr ⟨q_okR_v ⟨⟨LW_good hW (hW _ nw_917), hW _ mw_9, Or.inl (hW _ nw_914), by decide, by decide, by decide +kernel, Nat.le_of_ble_eq_true rfl, Nat.le_of_ble_eq_true rfl⟩, hW _ nw_915, hW _ nw_916, gT7, 26, rfl⟩, List.forall_mem_cons.mpr ⟨q_okR_v ⟨⟨LW_good hW (hW _ nw_410), hW _ mw_1, Or.inl (hW _ nw_407), by decide, by decide, by decide +kernel, Nat.le_of_ble_eq_true rfl, Nat.le_of_ble_eq_true rfl⟩, hW _ nw_408, hW _ nw_409, gT0, 6, rfl⟩, List.forall_mem_cons.mpr ⟨q_okR_v ⟨⟨LW_good hW (hW _ nw_921), hW _ mw_9, Or.inl (hW _ nw_918), by decide, by decide, by decide +kernel, Nat.le_of_ble_eq_true rfl, Nat.le_of_ble_eq_true rfl⟩, hW _ nw_919, hW _ nw_920, gT7, 26, rfl⟩, List.forall_mem_cons.mpr ⟨q_okR_v ⟨⟨LW_good hW (hW _ nw_421), hW _ mw_1, Or.inl (hW _ nw_418), by decide, by decide, by decide +kernel, Nat.le_of_ble_eq_true rfl, Nat.le_of_ble_eq_true rfl⟩, hW _ nw_419, hW _ nw_420, gT0, 6, rfl⟩, List.forall_mem_cons.mpr ⟨q_okR_v ⟨⟨LW_good hW (hW _ mw_925), hW _ mw_9, Or.inl (hW _ nw_922), by decide, by decide, by decide +kernel, Nat.le_of_ble_eq_true rfl, Nat.le_of_ble_eq_true rfl⟩, hW _ mw_923, hW _ mw_924, gT7, 26, rfl⟩, List.forall_mem_cons.mpr ⟨q_okR_v ⟨⟨LW_good hW (hW _ nw_941), hW _ mw_9, Or.inl (hW _ nw_938), by decide, by decide, by decide +kernel, Nat.le_of_ble_eq_true rfl, Nat.le_of_ble_eq_true rfl⟩, hW _ nw_939, hW _ nw_940, gT7, 26, rfl⟩, List.forall_mem_cons.mpr ⟨q_okR_v ⟨⟨LW_good hW (hW _ nw_452), hW _ mw_1, Or.inl (hW _ nw_449), by decide, by decide, by decide +kernel, Nat.le_of_ble_eq_true rfl, Nat.le_of_ble_eq_true rfl⟩, hW _ nw_450, hW _ nw_451, gT0, 6, rfl⟩, List.forall_mem_cons.mpr ⟨q_okR_v ⟨⟨LW_good hW (hW _ nw_946), hW _ mw_9, Or.inl (hW _ nw_943), by decide, by decide, by decide +kernel, Nat.le_of_ble_eq_true rfl, Nat.le_of_ble_eq_true rfl⟩, hW _ nw_944, hW _ nw_945, gT7, 26, rfl⟩, List.forall_mem_cons.mpr ⟨q_okR_v ⟨⟨LW_good hW (hW _ nw_952), hW _ mw_9, Or.inl (hW _ nw_949), by decide, by decide, by decide +kernel, Nat.le_of_ble_eq_true rfl, Nat.le_of_ble_eq_true rfl⟩, hW _ nw_950, hW _ nw_951, gT7, 26, rfl⟩, List.forall_mem_cons.mpr ⟨q_okR_v ⟨⟨LW_good hW (hW _ nw_956), hW _ mw_9, Or.inl (hW _ nw_953), by decide, by decide, by decide +kernel, Nat.le_of_ble_eq_true rfl, Nat.le_of_ble_eq_true rfl⟩, hW _ nw_954, hW _ nw_955, gT7, 26, rfl⟩, List.forall_mem_cons.mpr ⟨q_okR_v ⟨⟨LW_good hW (hW _ nw_960), hW _ mw_9, Or.inl (hW _ nw_957), by decide, by decide, by decide +kernel, Nat.le_of_ble_eq_true rfl, Nat.le_of_ble_eq_true rfl⟩, hW _ nw_958, hW _ nw_959, gT7, 26, rfl⟩, List.forall_mem_cons.mpr ⟨q_okR_v ⟨⟨LW_good hW (hW _ nw_458), hW _ mw_1, Or.inl (hW _ nw_455), by decide, by decide, by decide +kernel, Nat.le_of_ble_eq_true rfl, Nat.le_of_ble_eq_true rfl⟩, hW _ nw_456, hW _ nw_457, gT0, 6, rfl⟩, List.forall_mem_cons.mpr ⟨q_okR_v ⟨⟨LW_good hW (hW _ nw_964), hW _ mw_9, Or.inl (hW _ nw_961), by decide, by decide, by decide +kernel, Nat.le_of_ble_eq_true rfl, Nat.le_of_ble_eq_true rfl⟩, hW _ nw_962, hW _ nw_963, gT7, 26, rfl⟩, List.forall_mem_cons.mpr ⟨q_okR_v ⟨⟨LW_good hW (hW _ nw_968), hW _ mw_9, Or.inl (hW _ nw_965), by decide, by decide, by decide +kernel, Nat.le_of_ble_eq_true rfl, Nat.le_of_ble_eq_true rfl⟩, hW _ nw_966, hW _ nw_967, gT7, 26, rfl⟩, List.forall_mem_cons.mpr ⟨q_okR_v ⟨⟨LW_good hW (hW _ nw_501), hW _ mw_1, Or.inl (hW _ nw_498), by decide, by decide, by decide +kernel, Nat.le_of_ble_eq_true rfl, Nat.le_of_ble_eq_true rfl⟩, hW _ nw_499, hW _ nw_500, gT0, 6, rfl⟩, List.forall_mem_cons.mpr ⟨q_okR_v ⟨⟨LW_good hW (hW _ nw_976), hW _ mw_9, Or.inl (hW _ nw_973), by decide, by decide, by decide +kernel, Nat.le_of_ble_eq_true rfl, Nat.le_of_ble_eq_true rfl⟩, hW _ nw_974, hW _ nw_975, gT7, 26, rfl⟩, List.forall_mem_cons.mpr ⟨q_okR_v ⟨⟨LW_good hW (hW _ nw_508), hW _ mw_1, Or.inl (hW _ nw_505), by decide, by decide, by decide +kernel, Nat.le_of_ble_eq_true rfl, Nat.le_of_ble_eq_true rfl⟩, hW _ nw_506, hW _ nw_507, gT0, 6, rfl⟩, List.forall_mem_cons.mpr ⟨q_okR_v ⟨⟨LW_good hW (hW _ nw_980), hW _ mw_9, Or.inl (hW _ nw_977), by decide, by decide, by decide +kernel, Nat.le_of_ble_eq_true rfl, Nat.le_of_ble_eq_true rfl⟩, hW _ nw_978, hW _ nw_979, gT7, 26, rfl⟩, List.forall_mem_cons.mpr ⟨q_okR_v ⟨⟨LW_good hW (hW _ nw_512), hW _ mw_1, Or.inl (hW _ nw_509), by decide, by decide, by decide +kernel, Nat.le_of_ble_eq_true rfl, Nat.le_of_ble_eq_true rfl⟩, hW _ nw_510, hW _ nw_511, gT0, 6, rfl⟩, List.forall_mem_cons.mpr ⟨q_okR_v ⟨⟨LW_good hW (hW _ nw_984), hW _ mw_9, Or.inl (hW _ nw_981), by decide, by decide, by decide +kernel, Nat.le_of_ble_eq_true rfl, Nat.le_of_ble_eq_true rfl⟩, hW _ nw_982, hW _ nw_983, gT7, 26, rfl⟩, fun q hq => absurd hq List.not_mem_nil⟩⟩⟩⟩⟩⟩⟩⟩⟩⟩⟩⟩⟩⟩⟩⟩⟩⟩⟩⟩⟩⟩⟩⟩⟩⟩⟩⟩⟩⟩⟩⟩⟩⟩⟩⟩⟩⟩) (fun q hq => absurd hq List.not_mem_nil) hW
theorem tML_0 : q_tb ML 0 = some (.new 8, 3, []) := rfl
theorem tML_3 : q_tb ML 3 = some (.dup, 1, []) := rfl
theorem tML_4 : q_tb ML 4 = some (.aload_n 0, 1, []) := rfl
theorem tML_5 : q_tb ML 5 = some (.iconst 0, 1, []) := rfl
theorem tML_6 : q_tb ML 6 = some (.invokestatic 40, 3, []) := rfl
theorem tML_9 : q_tb ML 9 = some (.invokespecial 46, 3, []) := rfl
theorem tML_12 : q_tb ML 12 = some (.astore_n 1, 1, []) := rfl
theorem tML_13 : q_tb ML 13 = some (.new 49, 3, []) := rfl
theorem tML_16 : q_tb ML 16 = some (.dup, 1, []) := rfl
theorem tML_17 : q_tb ML 17 = some (.aload_n 0, 1, []) := rfl
theorem tML_18 : q_tb ML 18 = some (.iconst 0, 1, []) := rfl
theorem tML_19 : q_tb ML 19 = some (.invokestatic 40, 3, []) := rfl
theorem tML_22 : q_tb ML 22 = some (.invokespecial 51, 3, []) := rfl
theorem tML_25 : q_tb ML 25 = some (.astore_n 2, 1, []) := rfl
theorem tML_26 : q_tb ML 26 = some (.iconst 1, 1, []) := rfl
theorem tML_27 : q_tb ML 27 = some (.newarray .long, 2, []) := rfl
theorem tML_29 : q_tb ML 29 = some (.astore_n 3, 1, []) := rfl
theorem tML_30 : q_tb ML 30 = some (.iconst 1, 1, []) := rfl
theorem tML_31 : q_tb ML 31 = some (.istore 4, 2, []) := rfl
theorem tML_33 : q_tb ML 33 = some (.iload 4, 2, [5, 6, 7]) := rfl
theorem tML_35 : q_tb ML 35 = some (.aload_n 0, 1, []) := rfl
theorem tML_36 : q_tb ML 36 = some (.arraylength, 1, []) := rfl
theorem tML_37 : q_tb ML 37 = some (.bipush 6, 2, []) := rfl
theorem tML_39 : q_tb ML 39 = some (.isub, 1, []) := rfl
theorem tML_40 : q_tb ML 40 = some (.if_icmp .gt 1018, 3, []) := rfl
theorem tML_43 : q_tb ML 43 = some (.aload_n 0, 1, []) := rfl
theorem tML_44 : q_tb ML 44 = some (.iload 4, 2, []) := rfl
theorem tML_46 : q_tb ML 46 = some (.iaload, 1, []) := rfl
theorem tML_47 : q_tb ML 47 = some (.bipush 31, 2, []) := rfl
theorem tML_49 : q_tb ML 49 = some (.iand, 1, []) := rfl
theorem tML_50 : q_tb ML 50 = some (.tableswitch 1002 0 19 #[94, 198, 271, 332, 381, 430, 443, 456, 524, 573, 586, 642, 679, 735, 790, 858, 872, 927, 952, 977], 94, []) := rfl
theorem tML_144 : q_tb ML 144 = some (.aload_n 1, 1, []) := rfl
theorem tML_145 : q_tb ML 145 = some (.aload_n 0, 1, []) := rfl
theorem tML_146 : q_tb ML 146 = some (.iload 4, 2, []) := rfl
theorem tML_148 : q_tb ML 148 = some (.iconst 1, 1, []) := rfl
theorem tML_149 : q_tb ML 149 = some (.iadd, 1, []) := rfl
theorem tML_150 : q_tb ML 150 = some (.iaload, 1, []) := rfl
theorem tML_151 : q_tb ML 151 = some (.aload_n 0, 1, []) := rfl
theorem tML_152 : q_tb ML 152 = some (.iload 4, 2, []) := rfl
theorem tML_154 : q_tb ML 154 = some (.iconst 2, 1, []) := rfl
theorem tML_155 : q_tb ML 155 = some (.iadd, 1, []) := rfl
theorem tML_156 : q_tb ML 156 = some (.iaload, 1, []) := rfl
theorem tML_157 : q_tb ML 157 = some (.aload_n 0, 1, []) := rfl
theorem tML_158 : q_tb ML 158 = some (.iload 4, 2, []) := rfl
theorem tML_160 : q_tb ML 160 = some (.iconst 3, 1, []) := rfl
theorem tML_161 : q_tb ML 161 = some (.iadd, 1, []) := rfl
theorem tML_162 : q_tb ML 162 = some (.iaload, 1, []) := rfl
theorem tML_163 : q_tb ML 163 = some (.aload_n 0, 1, []) := rfl
theorem tML_164 : q_tb ML 164 = some (.iload 4, 2, []) := rfl
theorem tML_166 : q_tb ML 166 = some (.iconst 4, 1, []) := rfl
theorem tML_167 : q_tb ML 167 = some (.iadd, 1, []) := rfl
theorem tML_168 : q_tb ML 168 = some (.iaload, 1, []) := rfl
theorem tML_169 : q_tb ML 169 = some (.aload_n 0, 1, []) := rfl
theorem tML_170 : q_tb ML 170 = some (.iload 4, 2, []) := rfl
theorem tML_172 : q_tb ML 172 = some (.iconst 5, 1, []) := rfl
theorem tML_173 : q_tb ML 173 = some (.iadd, 1, []) := rfl
theorem tML_174 : q_tb ML 174 = some (.iaload, 1, []) := rfl
theorem tML_175 : q_tb ML 175 = some (.aload_n 3, 1, []) := rfl
theorem tML_176 : q_tb ML 176 = some (.invokestatic 52, 3, []) := rfl
theorem tML_179 : q_tb ML 179 = some (.istore 5, 2, []) := rfl
theorem tML_181 : q_tb ML 181 = some (.aload_n 2, 1, []) := rfl
theorem tML_182 : q_tb ML 182 = some (.aload_n 0, 1, []) := rfl
theorem tML_183 : q_tb ML 183 = some (.iload 4, 2, []) := rfl
theorem tML_185 : q_tb ML 185 = some (.iconst 1, 1, []) := rfl
theorem tML_186 : q_tb ML 186 = some (.iadd, 1, []) := rfl
theorem tML_187 : q_tb ML 187 = some (.iaload, 1, []) := rfl
theorem tML_188 : q_tb ML 188 = some (.aload_n 0, 1, []) := rfl
theorem tML_189 : q_tb ML 189 = some (.iload 4, 2, []) := rfl
theorem tML_191 : q_tb ML 191 = some (.iconst 2, 1, []) := rfl
theorem tML_192 : q_tb ML 192 = some (.iadd, 1, []) := rfl
theorem tML_193 : q_tb ML 193 = some (.iaload, 1, []) := rfl
theorem tML_194 : q_tb ML 194 = some (.aload_n 0, 1, []) := rfl
theorem tML_195 : q_tb ML 195 = some (.iload 4, 2, []) := rfl
theorem tML_197 : q_tb ML 197 = some (.iconst 3, 1, []) := rfl
theorem tML_198 : q_tb ML 198 = some (.iadd, 1, []) := rfl
theorem tML_199 : q_tb ML 199 = some (.iaload, 1, []) := rfl
theorem tML_200 : q_tb ML 200 = some (.aload_n 0, 1, []) := rfl
theorem tML_201 : q_tb ML 201 = some (.iload 4, 2, []) := rfl
theorem tML_203 : q_tb ML 203 = some (.iconst 4, 1, []) := rfl
theorem tML_204 : q_tb ML 204 = some (.iadd, 1, []) := rfl
theorem tML_205 : q_tb ML 205 = some (.iaload, 1, []) := rfl
theorem tML_206 : q_tb ML 206 = some (.aload_n 0, 1, []) := rfl
theorem tML_207 : q_tb ML 207 = some (.iload 4, 2, []) := rfl
theorem tML_209 : q_tb ML 209 = some (.iconst 5, 1, []) := rfl
theorem tML_210 : q_tb ML 210 = some (.iadd, 1, []) := rfl
theorem tML_211 : q_tb ML 211 = some (.iaload, 1, []) := rfl
theorem tML_212 : q_tb ML 212 = some (.invokevirtual 55, 3, []) := rfl
theorem tML_215 : q_tb ML 215 = some (.istore 6, 2, []) := rfl
theorem tML_217 : q_tb ML 217 = some (.aload_n 2, 1, []) := rfl
theorem tML_218 : q_tb ML 218 = some (.invokevirtual 56, 3, []) := rfl
theorem tML_221 : q_tb ML 221 = some (.iload 5, 2, []) := rfl
theorem tML_223 : q_tb ML 223 = some (.if_icmp .eq 5, 3, []) := rfl
theorem tML_226 : q_tb ML 226 = some (.iconst 0, 1, []) := rfl
theorem tML_227 : q_tb ML 227 = some (.ireturn, 1, []) := rfl
theorem tML_228 : q_tb ML 228 = some (.iload 5, 2, []) := rfl
theorem tML_230 : q_tb ML 230 = some (.ifCond .ne 15, 3, []) := rfl
theorem tML_233 : q_tb ML 233 = some (.aload_n 3, 1, []) := rfl
theorem tML_234 : q_tb ML 234 = some (.iconst 0, 1, []) := rfl
theorem tML_235 : q_tb ML 235 = some (.laload, 1, []) := rfl
theorem tML_236 : q_tb ML 236 = some (.iload 6, 2, []) := rfl
theorem tML_238 : q_tb ML 238 = some (.i2l, 1, []) := rfl
theorem tML_239 : q_tb ML 239 = some (.lcmp, 1, []) := rfl
theorem tML_240 : q_tb ML 240 = some (.ifCond .eq 5, 3, []) := rfl
theorem tML_243 : q_tb ML 243 = some (.iconst 0, 1, []) := rfl
theorem tML_244 : q_tb ML 244 = some (.ireturn, 1, []) := rfl
theorem tML_245 : q_tb ML 245 = some (.goto 807, 3, [5, 6, 7]) := rfl
theorem tML_248 : q_tb ML 248 = some (.aload_n 1, 1, []) := rfl
theorem tML_249 : q_tb ML 249 = some (.aload_n 0, 1, []) := rfl
theorem tML_250 : q_tb ML 250 = some (.iload 4, 2, []) := rfl
theorem tML_252 : q_tb ML 252 = some (.iconst 1, 1, []) := rfl
theorem tML_253 : q_tb ML 253 = some (.iadd, 1, []) := rfl
theorem tML_254 : q_tb ML 254 = some (.iaload, 1, []) := rfl
theorem tML_255 : q_tb ML 255 = some (.aload_n 0, 1, []) := rfl
theorem tML_256 : q_tb ML 256 = some (.iload 4, 2, []) := rfl
theorem tML_258 : q_tb ML 258 = some (.iconst 2, 1, []) := rfl
theorem tML_259 : q_tb ML 259 = some (.iadd, 1, []) := rfl
theorem tML_260 : q_tb ML 260 = some (.iaload, 1, []) := rfl
theorem tML_261 : q_tb ML 261 = some (.aload_n 0, 1, []) := rfl
theorem tML_262 : q_tb ML 262 = some (.iload 4, 2, []) := rfl
theorem tML_264 : q_tb ML 264 = some (.iconst 3, 1, []) := rfl
theorem tML_265 : q_tb ML 265 = some (.iadd, 1, []) := rfl
theorem tML_266 : q_tb ML 266 = some (.iaload, 1, []) := rfl
theorem tML_267 : q_tb ML 267 = some (.aload_n 0, 1, []) := rfl
theorem tML_268 : q_tb ML 268 = some (.iload 4, 2, []) := rfl
theorem tML_270 : q_tb ML 270 = some (.iconst 4, 1, []) := rfl
theorem tML_271 : q_tb ML 271 = some (.iadd, 1, []) := rfl
theorem tML_272 : q_tb ML 272 = some (.iaload, 1, []) := rfl
theorem tML_273 : q_tb ML 273 = some (.aload_n 0, 1, []) := rfl
theorem tML_274 : q_tb ML 274 = some (.iload 4, 2, []) := rfl
theorem tML_276 : q_tb ML 276 = some (.iconst 5, 1, []) := rfl
theorem tML_277 : q_tb ML 277 = some (.iadd, 1, []) := rfl
theorem tML_278 : q_tb ML 278 = some (.iaload, 1, []) := rfl
theorem tML_279 : q_tb ML 279 = some (.invokevirtual 60, 3, []) := rfl
theorem tML_282 : q_tb ML 282 = some (.aload_n 2, 1, []) := rfl
theorem tML_283 : q_tb ML 283 = some (.aload_n 0, 1, []) := rfl
theorem tML_284 : q_tb ML 284 = some (.iload 4, 2, []) := rfl
theorem tML_286 : q_tb ML 286 = some (.iconst 1, 1, []) := rfl
theorem tML_287 : q_tb ML 287 = some (.iadd, 1, []) := rfl
theorem tML_288 : q_tb ML 288 = some (.iaload, 1, []) := rfl
theorem tML_289 : q_tb ML 289 = some (.aload_n 0, 1, []) := rfl
theorem tML_290 : q_tb ML 290 = some (.iload 4, 2, []) := rfl
theorem tML_292 : q_tb ML 292 = some (.iconst 2, 1, []) := rfl
theorem tML_293 : q_tb ML 293 = some (.iadd, 1, []) := rfl
theorem tML_294 : q_tb ML 294 = some (.iaload, 1, []) := rfl
theorem tML_295 : q_tb ML 295 = some (.aload_n 0, 1, []) := rfl
theorem tML_296 : q_tb ML 296 = some (.iload 4, 2, []) := rfl
theorem tML_298 : q_tb ML 298 = some (.iconst 3, 1, []) := rfl
theorem tML_299 : q_tb ML 299 = some (.iadd, 1, []) := rfl
theorem tML_300 : q_tb ML 300 = some (.iaload, 1, []) := rfl
theorem tML_301 : q_tb ML 301 = some (.aload_n 0, 1, []) := rfl
theorem tML_302 : q_tb ML 302 = some (.iload 4, 2, []) := rfl
theorem tML_304 : q_tb ML 304 = some (.iconst 4, 1, []) := rfl
theorem tML_305 : q_tb ML 305 = some (.iadd, 1, []) := rfl
theorem tML_306 : q_tb ML 306 = some (.iaload, 1, []) := rfl
theorem tML_307 : q_tb ML 307 = some (.aload_n 0, 1, []) := rfl
theorem tML_308 : q_tb ML 308 = some (.iload 4, 2, []) := rfl
theorem tML_310 : q_tb ML 310 = some (.iconst 5, 1, []) := rfl
theorem tML_311 : q_tb ML 311 = some (.iadd, 1, []) := rfl
theorem tML_312 : q_tb ML 312 = some (.iaload, 1, []) := rfl
theorem tML_313 : q_tb ML 313 = some (.invokevirtual 64, 3, []) := rfl
theorem tML_316 : q_tb ML 316 = some (.if_icmp .eq 736, 3, []) := rfl
theorem tML_319 : q_tb ML 319 = some (.iconst 0, 1, []) := rfl
theorem tML_320 : q_tb ML 320 = some (.ireturn, 1, []) := rfl
theorem tML_321 : q_tb ML 321 = some (.aload_n 1, 1, []) := rfl
theorem tML_322 : q_tb ML 322 = some (.aload_n 0, 1, []) := rfl
theorem tML_323 : q_tb ML 323 = some (.iload 4, 2, []) := rfl
theorem tML_325 : q_tb ML 325 = some (.iconst 1, 1, []) := rfl
theorem tML_326 : q_tb ML 326 = some (.iadd, 1, []) := rfl
theorem tML_327 : q_tb ML 327 = some (.iaload, 1, []) := rfl
theorem tML_328 : q_tb ML 328 = some (.aload_n 0, 1, []) := rfl
theorem tML_329 : q_tb ML 329 = some (.iload 4, 2, []) := rfl
theorem tML_331 : q_tb ML 331 = some (.iconst 2, 1, []) := rfl
theorem tML_332 : q_tb ML 332 = some (.iadd, 1, []) := rfl
theorem tML_333 : q_tb ML 333 = some (.iaload, 1, []) := rfl
theorem tML_334 : q_tb ML 334 = some (.aload_n 0, 1, []) := rfl
theorem tML_335 : q_tb ML 335 = some (.iload 4, 2, []) := rfl
theorem tML_337 : q_tb ML 337 = some (.iconst 3, 1, []) := rfl
theorem tML_338 : q_tb ML 338 = some (.iadd, 1, []) := rfl
theorem tML_339 : q_tb ML 339 = some (.iaload, 1, []) := rfl
theorem tML_340 : q_tb ML 340 = some (.aload_n 0, 1, []) := rfl
theorem tML_341 : q_tb ML 341 = some (.iload 4, 2, []) := rfl
theorem tML_343 : q_tb ML 343 = some (.iconst 4, 1, []) := rfl
theorem tML_344 : q_tb ML 344 = some (.iadd, 1, []) := rfl
theorem tML_345 : q_tb ML 345 = some (.iaload, 1, []) := rfl
theorem tML_346 : q_tb ML 346 = some (.invokevirtual 65, 3, []) := rfl
theorem tML_349 : q_tb ML 349 = some (.aload_n 2, 1, []) := rfl
theorem tML_350 : q_tb ML 350 = some (.aload_n 0, 1, []) := rfl
theorem tML_351 : q_tb ML 351 = some (.iload 4, 2, []) := rfl
theorem tML_353 : q_tb ML 353 = some (.iconst 1, 1, []) := rfl
theorem tML_354 : q_tb ML 354 = some (.iadd, 1, []) := rfl
theorem tML_355 : q_tb ML 355 = some (.iaload, 1, []) := rfl
theorem tML_356 : q_tb ML 356 = some (.aload_n 0, 1, []) := rfl
theorem tML_357 : q_tb ML 357 = some (.iload 4, 2, []) := rfl
theorem tML_359 : q_tb ML 359 = some (.iconst 2, 1, []) := rfl
theorem tML_360 : q_tb ML 360 = some (.iadd, 1, []) := rfl
theorem tML_361 : q_tb ML 361 = some (.iaload, 1, []) := rfl
theorem tML_362 : q_tb ML 362 = some (.aload_n 0, 1, []) := rfl
theorem tML_363 : q_tb ML 363 = some (.iload 4, 2, []) := rfl
theorem tML_365 : q_tb ML 365 = some (.iconst 3, 1, []) := rfl
theorem tML_366 : q_tb ML 366 = some (.iadd, 1, []) := rfl
theorem tML_367 : q_tb ML 367 = some (.iaload, 1, []) := rfl
theorem tML_368 : q_tb ML 368 = some (.aload_n 0, 1, []) := rfl
theorem tML_369 : q_tb ML 369 = some (.iload 4, 2, []) := rfl
theorem tML_371 : q_tb ML 371 = some (.iconst 4, 1, []) := rfl
theorem tML_372 : q_tb ML 372 = some (.iadd, 1, []) := rfl
theorem tML_373 : q_tb ML 373 = some (.iaload, 1, []) := rfl
theorem tML_374 : q_tb ML 374 = some (.invokevirtual 69, 3, []) := rfl
theorem tML_377 : q_tb ML 377 = some (.if_icmp .eq 675, 3, []) := rfl
theorem tML_380 : q_tb ML 380 = some (.iconst 0, 1, []) := rfl
theorem tML_381 : q_tb ML 381 = some (.ireturn, 1, []) := rfl
theorem tML_382 : q_tb ML 382 = some (.aload_n 1, 1, []) := rfl
theorem tML_383 : q_tb ML 383 = some (.aload_n 0, 1, []) := rfl
theorem tML_384 : q_tb ML 384 = some (.iload 4, 2, []) := rfl
theorem tML_386 : q_tb ML 386 = some (.iconst 1, 1, []) := rfl
theorem tML_387 : q_tb ML 387 = some (.iadd, 1, []) := rfl
theorem tML_388 : q_tb ML 388 = some (.iaload, 1, []) := rfl
theorem tML_389 : q_tb ML 389 = some (.aload_n 0, 1, []) := rfl
theorem tML_390 : q_tb ML 390 = some (.iload 4, 2, []) := rfl
theorem tML_392 : q_tb ML 392 = some (.iconst 2, 1, []) := rfl
theorem tML_393 : q_tb ML 393 = some (.iadd, 1, []) := rfl
theorem tML_394 : q_tb ML 394 = some (.iaload, 1, []) := rfl
theorem tML_395 : q_tb ML 395 = some (.aload_n 0, 1, []) := rfl
theorem tML_396 : q_tb ML 396 = some (.iload 4, 2, []) := rfl
theorem tML_398 : q_tb ML 398 = some (.iconst 3, 1, []) := rfl
theorem tML_399 : q_tb ML 399 = some (.iadd, 1, []) := rfl
theorem tML_400 : q_tb ML 400 = some (.iaload, 1, []) := rfl
theorem tML_401 : q_tb ML 401 = some (.invokevirtual 70, 3, []) := rfl
theorem tML_404 : q_tb ML 404 = some (.aload_n 2, 1, []) := rfl
theorem tML_405 : q_tb ML 405 = some (.aload_n 0, 1, []) := rfl
theorem tML_406 : q_tb ML 406 = some (.iload 4, 2, []) := rfl
theorem tML_408 : q_tb ML 408 = some (.iconst 1, 1, []) := rfl
theorem tML_409 : q_tb ML 409 = some (.iadd, 1, []) := rfl
theorem tML_410 : q_tb ML 410 = some (.iaload, 1, []) := rfl
theorem tML_411 : q_tb ML 411 = some (.aload_n 0, 1, []) := rfl
theorem tML_412 : q_tb ML 412 = some (.iload 4, 2, []) := rfl
theorem tML_414 : q_tb ML 414 = some (.iconst 2, 1, []) := rfl
theorem tML_415 : q_tb ML 415 = some (.iadd, 1, []) := rfl
theorem tML_416 : q_tb ML 416 = some (.iaload, 1, []) := rfl
theorem tML_417 : q_tb ML 417 = some (.aload_n 0, 1, []) := rfl
theorem tML_418 : q_tb ML 418 = some (.iload 4, 2, []) := rfl
theorem tML_420 : q_tb ML 420 = some (.iconst 3, 1, []) := rfl
theorem tML_421 : q_tb ML 421 = some (.iadd, 1, []) := rfl
theorem tML_422 : q_tb ML 422 = some (.iaload, 1, []) := rfl
theorem tML_423 : q_tb ML 423 = some (.invokevirtual 74, 3, []) := rfl
theorem tML_426 : q_tb ML 426 = some (.if_icmp .eq 626, 3, []) := rfl
theorem tML_429 : q_tb ML 429 = some (.iconst 0, 1, []) := rfl
theorem tML_430 : q_tb ML 430 = some (.ireturn, 1, []) := rfl
theorem tML_431 : q_tb ML 431 = some (.aload_n 1, 1, []) := rfl
theorem tML_432 : q_tb ML 432 = some (.aload_n 0, 1, []) := rfl
theorem tML_433 : q_tb ML 433 = some (.iload 4, 2, []) := rfl
theorem tML_435 : q_tb ML 435 = some (.iconst 1, 1, []) := rfl
theorem tML_436 : q_tb ML 436 = some (.iadd, 1, []) := rfl
theorem tML_437 : q_tb ML 437 = some (.iaload, 1, []) := rfl
theorem tML_438 : q_tb ML 438 = some (.aload_n 0, 1, []) := rfl
theorem tML_439 : q_tb ML 439 = some (.iload 4, 2, []) := rfl
theorem tML_441 : q_tb ML 441 = some (.iconst 2, 1, []) := rfl
theorem tML_442 : q_tb ML 442 = some (.iadd, 1, []) := rfl
theorem tML_443 : q_tb ML 443 = some (.iaload, 1, []) := rfl
theorem tML_444 : q_tb ML 444 = some (.aload_n 0, 1, []) := rfl
theorem tML_445 : q_tb ML 445 = some (.iload 4, 2, []) := rfl
theorem tML_447 : q_tb ML 447 = some (.iconst 3, 1, []) := rfl
theorem tML_448 : q_tb ML 448 = some (.iadd, 1, []) := rfl
theorem tML_449 : q_tb ML 449 = some (.iaload, 1, []) := rfl
theorem tML_450 : q_tb ML 450 = some (.invokevirtual 75, 3, []) := rfl
theorem tML_453 : q_tb ML 453 = some (.aload_n 2, 1, []) := rfl
theorem tML_454 : q_tb ML 454 = some (.aload_n 0, 1, []) := rfl
theorem tML_455 : q_tb ML 455 = some (.iload 4, 2, []) := rfl
theorem tML_457 : q_tb ML 457 = some (.iconst 1, 1, []) := rfl
theorem tML_458 : q_tb ML 458 = some (.iadd, 1, []) := rfl
theorem tML_459 : q_tb ML 459 = some (.iaload, 1, []) := rfl
theorem tML_460 : q_tb ML 460 = some (.aload_n 0, 1, []) := rfl
theorem tML_461 : q_tb ML 461 = some (.iload 4, 2, []) := rfl
theorem tML_463 : q_tb ML 463 = some (.iconst 2, 1, []) := rfl
theorem tML_464 : q_tb ML 464 = some (.iadd, 1, []) := rfl
theorem tML_465 : q_tb ML 465 = some (.iaload, 1, []) := rfl
theorem tML_466 : q_tb ML 466 = some (.aload_n 0, 1, []) := rfl
theorem tML_467 : q_tb ML 467 = some (.iload 4, 2, []) := rfl
theorem tML_469 : q_tb ML 469 = some (.iconst 3, 1, []) := rfl
theorem tML_470 : q_tb ML 470 = some (.iadd, 1, []) := rfl
theorem tML_471 : q_tb ML 471 = some (.iaload, 1, []) := rfl
theorem tML_472 : q_tb ML 472 = some (.invokevirtual 78, 3, []) := rfl
theorem tML_475 : q_tb ML 475 = some (.if_icmp .eq 577, 3, []) := rfl
theorem tML_478 : q_tb ML 478 = some (.iconst 0, 1, []) := rfl
theorem tML_479 : q_tb ML 479 = some (.ireturn, 1, []) := rfl
theorem tML_480 : q_tb ML 480 = some (.aload_n 1, 1, []) := rfl
theorem tML_481 : q_tb ML 481 = some (.invokevirtual 79, 3, []) := rfl
theorem tML_484 : q_tb ML 484 = some (.aload_n 2, 1, []) := rfl
theorem tML_485 : q_tb ML 485 = some (.invokevirtual 82, 3, []) := rfl
theorem tML_488 : q_tb ML 488 = some (.if_icmp .eq 564, 3, []) := rfl
theorem tML_491 : q_tb ML 491 = some (.iconst 0, 1, []) := rfl
theorem tML_492 : q_tb ML 492 = some (.ireturn, 1, []) := rfl
theorem tML_493 : q_tb ML 493 = some (.aload_n 1, 1, []) := rfl
theorem tML_494 : q_tb ML 494 = some (.invokevirtual 83, 3, []) := rfl
theorem tML_497 : q_tb ML 497 = some (.aload_n 2, 1, []) := rfl
theorem tML_498 : q_tb ML 498 = some (.invokevirtual 86, 3, []) := rfl
theorem tML_501 : q_tb ML 501 = some (.if_icmp .eq 551, 3, []) := rfl
theorem tML_504 : q_tb ML 504 = some (.iconst 0, 1, []) := rfl
theorem tML_505 : q_tb ML 505 = some (.ireturn, 1, []) := rfl
theorem tML_506 : q_tb ML 506 = some (.aload_n 1, 1, []) := rfl
theorem tML_507 : q_tb ML 507 = some (.aload_n 0, 1, []) := rfl
theorem tML_508 : q_tb ML 508 = some (.iload 4, 2, []) := rfl
theorem tML_510 : q_tb ML 510 = some (.iconst 1, 1, []) := rfl
theorem tML_511 : q_tb ML 511 = some (.iadd, 1, []) := rfl
theorem tML_512 : q_tb ML 512 = some (.iaload, 1, []) := rfl
theorem tML_513 : q_tb ML 513 = some (.aload_n 0, 1, []) := rfl
theorem tML_514 : q_tb ML 514 = some (.iload 4, 2, []) := rfl
theorem tML_516 : q_tb ML 516 = some (.iconst 2, 1, []) := rfl
theorem tML_517 : q_tb ML 517 = some (.iadd, 1, []) := rfl
theorem tML_518 : q_tb ML 518 = some (.iaload, 1, []) := rfl
theorem tML_519 : q_tb ML 519 = some (.aload_n 3, 1, []) := rfl
theorem tML_520 : q_tb ML 520 = some (.invokestatic 87, 3, []) := rfl
theorem tML_523 : q_tb ML 523 = some (.istore 5, 2, []) := rfl
theorem tML_525 : q_tb ML 525 = some (.aload_n 2, 1, []) := rfl
theorem tML_526 : q_tb ML 526 = some (.aload_n 0, 1, []) := rfl
theorem tML_527 : q_tb ML 527 = some (.iload 4, 2, []) := rfl
theorem tML_529 : q_tb ML 529 = some (.iconst 1, 1, []) := rfl
theorem tML_530 : q_tb ML 530 = some (.iadd, 1, []) := rfl
theorem tML_531 : q_tb ML 531 = some (.iaload, 1, []) := rfl
theorem tML_532 : q_tb ML 532 = some (.aload_n 0, 1, []) := rfl
theorem tML_533 : q_tb ML 533 = some (.iload 4, 2, []) := rfl
theorem tML_535 : q_tb ML 535 = some (.iconst 2, 1, []) := rfl
theorem tML_536 : q_tb ML 536 = some (.iadd, 1, []) := rfl
theorem tML_537 : q_tb ML 537 = some (.iaload, 1, []) := rfl
theorem tML_538 : q_tb ML 538 = some (.invokevirtual 90, 3, []) := rfl
theorem tML_541 : q_tb ML 541 = some (.istore 6, 2, []) := rfl
theorem tML_543 : q_tb ML 543 = some (.aload_n 2, 1, []) := rfl
theorem tML_544 : q_tb ML 544 = some (.invokevirtual 56, 3, []) := rfl
theorem tML_547 : q_tb ML 547 = some (.iload 5, 2, []) := rfl
theorem tML_549 : q_tb ML 549 = some (.if_icmp .eq 5, 3, []) := rfl
theorem tML_552 : q_tb ML 552 = some (.iconst 0, 1, []) := rfl
theorem tML_553 : q_tb ML 553 = some (.ireturn, 1, []) := rfl
theorem tML_554 : q_tb ML 554 = some (.iload 5, 2, []) := rfl
theorem tML_556 : q_tb ML 556 = some (.ifCond .ne 15, 3, []) := rfl
theorem tML_559 : q_tb ML 559 = some (.aload_n 3, 1, []) := rfl
theorem tML_560 : q_tb ML 560 = some (.iconst 0, 1, []) := rfl
theorem tML_561 : q_tb ML 561 = some (.laload, 1, []) := rfl
theorem tML_562 : q_tb ML 562 = some (.iload 6, 2, []) := rfl
theorem tML_564 : q_tb ML 564 = some (.i2l, 1, []) := rfl
theorem tML_565 : q_tb ML 565 = some (.lcmp, 1, []) := rfl
theorem tML_566 : q_tb ML 566 = some (.ifCond .eq 5, 3, []) := rfl
theorem tML_569 : q_tb ML 569 = some (.iconst 0, 1, []) := rfl
theorem tML_570 : q_tb ML 570 = some (.ireturn, 1, []) := rfl
theorem tML_571 : q_tb ML 571 = some (.goto 481, 3, [5, 6, 7]) := rfl
theorem tML_574 : q_tb ML 574 = some (.aload_n 1, 1, []) := rfl
theorem tML_575 : q_tb ML 575 = some (.aload_n 0, 1, []) := rfl
theorem tML_576 : q_tb ML 576 = some (.iload 4, 2, []) := rfl
theorem tML_578 : q_tb ML 578 = some (.iconst 1, 1, []) := rfl
theorem tML_579 : q_tb ML 579 = some (.iadd, 1, []) := rfl
theorem tML_580 : q_tb ML 580 = some (.iaload, 1, []) := rfl
theorem tML_581 : q_tb ML 581 = some (.aload_n 0, 1, []) := rfl
theorem tML_582 : q_tb ML 582 = some (.iload 4, 2, []) := rfl
theorem tML_584 : q_tb ML 584 = some (.iconst 2, 1, []) := rfl
theorem tML_585 : q_tb ML 585 = some (.iadd, 1, []) := rfl
theorem tML_586 : q_tb ML 586 = some (.iaload, 1, []) := rfl
theorem tML_587 : q_tb ML 587 = some (.aload_n 0, 1, []) := rfl
theorem tML_588 : q_tb ML 588 = some (.iload 4, 2, []) := rfl
theorem tML_590 : q_tb ML 590 = some (.iconst 3, 1, []) := rfl
theorem tML_591 : q_tb ML 591 = some (.iadd, 1, []) := rfl
theorem tML_592 : q_tb ML 592 = some (.iaload, 1, []) := rfl
theorem tML_593 : q_tb ML 593 = some (.invokevirtual 91, 3, []) := rfl
theorem tML_596 : q_tb ML 596 = some (.aload_n 2, 1, []) := rfl
theorem tML_597 : q_tb ML 597 = some (.aload_n 0, 1, []) := rfl
theorem tML_598 : q_tb ML 598 = some (.iload 4, 2, []) := rfl
theorem tML_600 : q_tb ML 600 = some (.iconst 1, 1, []) := rfl
theorem tML_601 : q_tb ML 601 = some (.iadd, 1, []) := rfl
theorem tML_602 : q_tb ML 602 = some (.iaload, 1, []) := rfl
theorem tML_603 : q_tb ML 603 = some (.aload_n 0, 1, []) := rfl
theorem tML_604 : q_tb ML 604 = some (.iload 4, 2, []) := rfl
theorem tML_606 : q_tb ML 606 = some (.iconst 2, 1, []) := rfl
theorem tML_607 : q_tb ML 607 = some (.iadd, 1, []) := rfl
theorem tML_608 : q_tb ML 608 = some (.iaload, 1, []) := rfl
theorem tML_609 : q_tb ML 609 = some (.aload_n 0, 1, []) := rfl
theorem tML_610 : q_tb ML 610 = some (.iload 4, 2, []) := rfl
theorem tML_612 : q_tb ML 612 = some (.iconst 3, 1, []) := rfl
theorem tML_613 : q_tb ML 613 = some (.iadd, 1, []) := rfl
theorem tML_614 : q_tb ML 614 = some (.iaload, 1, []) := rfl
theorem tML_615 : q_tb ML 615 = some (.invokevirtual 94, 3, []) := rfl
theorem tML_618 : q_tb ML 618 = some (.if_icmp .eq 434, 3, []) := rfl
theorem tML_621 : q_tb ML 621 = some (.iconst 0, 1, []) := rfl
theorem tML_622 : q_tb ML 622 = some (.ireturn, 1, []) := rfl
theorem tML_623 : q_tb ML 623 = some (.aload_n 1, 1, []) := rfl
theorem tML_624 : q_tb ML 624 = some (.invokevirtual 95, 3, []) := rfl
theorem tML_627 : q_tb ML 627 = some (.aload_n 2, 1, []) := rfl
theorem tML_628 : q_tb ML 628 = some (.invokevirtual 98, 3, []) := rfl
theorem tML_631 : q_tb ML 631 = some (.if_icmp .eq 421, 3, []) := rfl
theorem tML_634 : q_tb ML 634 = some (.iconst 0, 1, []) := rfl
theorem tML_635 : q_tb ML 635 = some (.ireturn, 1, []) := rfl
theorem tML_636 : q_tb ML 636 = some (.aload_n 1, 1, []) := rfl
theorem tML_637 : q_tb ML 637 = some (.aload_n 0, 1, []) := rfl
theorem tML_638 : q_tb ML 638 = some (.iload 4, 2, []) := rfl
theorem tML_640 : q_tb ML 640 = some (.iconst 1, 1, []) := rfl
theorem tML_641 : q_tb ML 641 = some (.iadd, 1, []) := rfl
theorem tML_642 : q_tb ML 642 = some (.iaload, 1, []) := rfl
theorem tML_643 : q_tb ML 643 = some (.aload_n 3, 1, []) := rfl
theorem tML_644 : q_tb ML 644 = some (.invokestatic 99, 3, []) := rfl
theorem tML_647 : q_tb ML 647 = some (.istore 5, 2, []) := rfl
theorem tML_649 : q_tb ML 649 = some (.aload_n 2, 1, []) := rfl
theorem tML_650 : q_tb ML 650 = some (.aload_n 0, 1, []) := rfl
theorem tML_651 : q_tb ML 651 = some (.iload 4, 2, []) := rfl
theorem tML_653 : q_tb ML 653 = some (.iconst 1, 1, []) := rfl
theorem tML_654 : q_tb ML 654 = some (.iadd, 1, []) := rfl
theorem tML_655 : q_tb ML 655 = some (.iaload, 1, []) := rfl
theorem tML_656 : q_tb ML 656 = some (.invokevirtual 102, 3, []) := rfl
theorem tML_659 : q_tb ML 659 = some (.istore 6, 2, []) := rfl
theorem tML_661 : q_tb ML 661 = some (.aload_n 2, 1, []) := rfl
theorem tML_662 : q_tb ML 662 = some (.invokevirtual 56, 3, []) := rfl
theorem tML_665 : q_tb ML 665 = some (.iload 5, 2, []) := rfl
theorem tML_667 : q_tb ML 667 = some (.if_icmp .eq 5, 3, []) := rfl
theorem tML_670 : q_tb ML 670 = some (.iconst 0, 1, []) := rfl
theorem tML_671 : q_tb ML 671 = some (.ireturn, 1, []) := rfl
theorem tML_672 : q_tb ML 672 = some (.iload 5, 2, []) := rfl
theorem tML_674 : q_tb ML 674 = some (.ifCond .ne 15, 3, []) := rfl
theorem tML_677 : q_tb ML 677 = some (.aload_n 3, 1, []) := rfl
theorem tML_678 : q_tb ML 678 = some (.iconst 0, 1, []) := rfl
theorem tML_679 : q_tb ML 679 = some (.laload, 1, []) := rfl
theorem tML_680 : q_tb ML 680 = some (.iload 6, 2, []) := rfl
theorem tML_682 : q_tb ML 682 = some (.i2l, 1, []) := rfl
theorem tML_683 : q_tb ML 683 = some (.lcmp, 1, []) := rfl
theorem tML_684 : q_tb ML 684 = some (.ifCond .eq 5, 3, []) := rfl
theorem tML_687 : q_tb ML 687 = some (.iconst 0, 1, []) := rfl
theorem tML_688 : q_tb ML 688 = some (.ireturn, 1, []) := rfl
theorem tML_689 : q_tb ML 689 = some (.goto 363, 3, [5, 6, 7]) := rfl
theorem tML_692 : q_tb ML 692 = some (.aload_n 1, 1, []) := rfl
theorem tML_693 : q_tb ML 693 = some (.aload_n 0, 1, []) := rfl
theorem tML_694 : q_tb ML 694 = some (.iload 4, 2, []) := rfl
theorem tML_696 : q_tb ML 696 = some (.iconst 1, 1, []) := rfl
theorem tML_697 : q_tb ML 697 = some (.iadd, 1, []) := rfl
theorem tML_698 : q_tb ML 698 = some (.iaload, 1, []) := rfl
theorem tML_699 : q_tb ML 699 = some (.aload_n 0, 1, []) := rfl
theorem tML_700 : q_tb ML 700 = some (.iload 4, 2, []) := rfl
theorem tML_702 : q_tb ML 702 = some (.iconst 2, 1, []) := rfl
theorem tML_703 : q_tb ML 703 = some (.iadd, 1, []) := rfl
theorem tML_704 : q_tb ML 704 = some (.iaload, 1, []) := rfl
theorem tML_705 : q_tb ML 705 = some (.invokevirtual 103, 3, []) := rfl
theorem tML_708 : q_tb ML 708 = some (.aload_n 2, 1, []) := rfl
theorem tML_709 : q_tb ML 709 = some (.aload_n 0, 1, []) := rfl
theorem tML_710 : q_tb ML 710 = some (.iload 4, 2, []) := rfl
theorem tML_712 : q_tb ML 712 = some (.iconst 1, 1, []) := rfl
theorem tML_713 : q_tb ML 713 = some (.iadd, 1, []) := rfl
theorem tML_714 : q_tb ML 714 = some (.iaload, 1, []) := rfl
theorem tML_715 : q_tb ML 715 = some (.aload_n 0, 1, []) := rfl
theorem tML_716 : q_tb ML 716 = some (.iload 4, 2, []) := rfl
theorem tML_718 : q_tb ML 718 = some (.iconst 2, 1, []) := rfl
theorem tML_719 : q_tb ML 719 = some (.iadd, 1, []) := rfl
theorem tML_720 : q_tb ML 720 = some (.iaload, 1, []) := rfl
theorem tML_721 : q_tb ML 721 = some (.invokevirtual 107, 3, []) := rfl
theorem tML_724 : q_tb ML 724 = some (.if_icmp .eq 328, 3, []) := rfl
theorem tML_727 : q_tb ML 727 = some (.iconst 0, 1, []) := rfl
theorem tML_728 : q_tb ML 728 = some (.ireturn, 1, []) := rfl
theorem tML_729 : q_tb ML 729 = some (.aload_n 1, 1, []) := rfl
theorem tML_730 : q_tb ML 730 = some (.aload_n 0, 1, []) := rfl
theorem tML_731 : q_tb ML 731 = some (.iload 4, 2, []) := rfl
theorem tML_733 : q_tb ML 733 = some (.iconst 1, 1, []) := rfl
theorem tML_734 : q_tb ML 734 = some (.iadd, 1, []) := rfl
theorem tML_735 : q_tb ML 735 = some (.iaload, 1, []) := rfl
theorem tML_736 : q_tb ML 736 = some (.aload_n 3, 1, []) := rfl
theorem tML_737 : q_tb ML 737 = some (.invokestatic 108, 3, []) := rfl
theorem tML_740 : q_tb ML 740 = some (.istore 5, 2, []) := rfl
theorem tML_742 : q_tb ML 742 = some (.aload_n 2, 1, []) := rfl
theorem tML_743 : q_tb ML 743 = some (.aload_n 0, 1, []) := rfl
theorem tML_744 : q_tb ML 744 = some (.iload 4, 2, []) := rfl
theorem tML_746 : q_tb ML 746 = some (.iconst 1, 1, []) := rfl
theorem tML_747 : q_tb ML 747 = some (.iadd, 1, []) := rfl
theorem tML_748 : q_tb ML 748 = some (.iaload, 1, []) := rfl
theorem tML_749 : q_tb ML 749 = some (.invokevirtual 110, 3, []) := rfl
theorem tML_752 : q_tb ML 752 = some (.istore 6, 2, []) := rfl
theorem tML_754 : q_tb ML 754 = some (.aload_n 2, 1, []) := rfl
theorem tML_755 : q_tb ML 755 = some (.invokevirtual 56, 3, []) := rfl
theorem tML_758 : q_tb ML 758 = some (.iload 5, 2, []) := rfl
theorem tML_760 : q_tb ML 760 = some (.if_icmp .eq 5, 3, []) := rfl
theorem tML_763 : q_tb ML 763 = some (.iconst 0, 1, []) := rfl
theorem tML_764 : q_tb ML 764 = some (.ireturn, 1, []) := rfl
theorem tML_765 : q_tb ML 765 = some (.iload 5, 2, []) := rfl
theorem tML_767 : q_tb ML 767 = some (.ifCond .ne 15, 3, []) := rfl
theorem tML_770 : q_tb ML 770 = some (.aload_n 3, 1, []) := rfl
theorem tML_771 : q_tb ML 771 = some (.iconst 0, 1, []) := rfl
theorem tML_772 : q_tb ML 772 = some (.laload, 1, []) := rfl
theorem tML_773 : q_tb ML 773 = some (.iload 6, 2, []) := rfl
theorem tML_775 : q_tb ML 775 = some (.i2l, 1, []) := rfl
theorem tML_776 : q_tb ML 776 = some (.lcmp, 1, []) := rfl
theorem tML_777 : q_tb ML 777 = some (.ifCond .eq 5, 3, []) := rfl
theorem tML_780 : q_tb ML 780 = some (.iconst 0, 1, []) := rfl
theorem tML_781 : q_tb ML 781 = some (.ireturn, 1, []) := rfl
theorem tML_782 : q_tb ML 782 = some (.goto 270, 3, [5, 6, 7]) := rfl
theorem tML_785 : q_tb ML 785 = some (.aload_n 1, 1, []) := rfl
theorem tML_786 : q_tb ML 786 = some (.aload_n 0, 1, []) := rfl
theorem tML_787 : q_tb ML 787 = some (.iload 4, 2, []) := rfl
theorem tML_789 : q_tb ML 789 = some (.iconst 1, 1, []) := rfl
theorem tML_790 : q_tb ML 790 = some (.iadd, 1, []) := rfl
theorem tML_791 : q_tb ML 791 = some (.iaload, 1, []) := rfl
theorem tML_792 : q_tb ML 792 = some (.aload_n 3, 1, []) := rfl
theorem tML_793 : q_tb ML 793 = some (.invokestatic 111, 3, []) := rfl
theorem tML_796 : q_tb ML 796 = some (.istore 5, 2, []) := rfl
theorem tML_798 : q_tb ML 798 = some (.aload_n 2, 1, []) := rfl
theorem tML_799 : q_tb ML 799 = some (.aload_n 0, 1, []) := rfl
theorem tML_800 : q_tb ML 800 = some (.iload 4, 2, []) := rfl
theorem tML_802 : q_tb ML 802 = some (.iconst 1, 1, []) := rfl
theorem tML_803 : q_tb ML 803 = some (.iadd, 1, []) := rfl
theorem tML_804 : q_tb ML 804 = some (.iaload, 1, []) := rfl
theorem tML_805 : q_tb ML 805 = some (.invokevirtual 113, 3, []) := rfl
theorem tML_808 : q_tb ML 808 = some (.lstore 6, 2, []) := rfl
theorem tML_810 : q_tb ML 810 = some (.aload_n 2, 1, []) := rfl
theorem tML_811 : q_tb ML 811 = some (.invokevirtual 56, 3, []) := rfl
theorem tML_814 : q_tb ML 814 = some (.iload 5, 2, []) := rfl
theorem tML_816 : q_tb ML 816 = some (.if_icmp .eq 5, 3, []) := rfl
theorem tML_819 : q_tb ML 819 = some (.iconst 0, 1, []) := rfl
theorem tML_820 : q_tb ML 820 = some (.ireturn, 1, []) := rfl
theorem tML_821 : q_tb ML 821 = some (.iload 5, 2, []) := rfl
theorem tML_823 : q_tb ML 823 = some (.ifCond .ne 14, 3, []) := rfl
theorem tML_826 : q_tb ML 826 = some (.aload_n 3, 1, []) := rfl
theorem tML_827 : q_tb ML 827 = some (.iconst 0, 1, []) := rfl
theorem tML_828 : q_tb ML 828 = some (.laload, 1, []) := rfl
theorem tML_829 : q_tb ML 829 = some (.lload 6, 2, []) := rfl
theorem tML_831 : q_tb ML 831 = some (.lcmp, 1, []) := rfl
theorem tML_832 : q_tb ML 832 = some (.ifCond .eq 5, 3, []) := rfl
theorem tML_835 : q_tb ML 835 = some (.iconst 0, 1, []) := rfl
theorem tML_836 : q_tb ML 836 = some (.ireturn, 1, []) := rfl
theorem tML_837 : q_tb ML 837 = some (.goto 215, 3, [5, 6, 7]) := rfl
theorem tML_840 : q_tb ML 840 = some (.aload_n 1, 1, []) := rfl
theorem tML_841 : q_tb ML 841 = some (.aload_n 0, 1, []) := rfl
theorem tML_842 : q_tb ML 842 = some (.iload 4, 2, []) := rfl
theorem tML_844 : q_tb ML 844 = some (.iconst 1, 1, []) := rfl
theorem tML_845 : q_tb ML 845 = some (.iadd, 1, []) := rfl
theorem tML_846 : q_tb ML 846 = some (.iaload, 1, []) := rfl
theorem tML_847 : q_tb ML 847 = some (.aload_n 0, 1, []) := rfl
theorem tML_848 : q_tb ML 848 = some (.iload 4, 2, []) := rfl
theorem tML_850 : q_tb ML 850 = some (.iconst 2, 1, []) := rfl
theorem tML_851 : q_tb ML 851 = some (.iadd, 1, []) := rfl
theorem tML_852 : q_tb ML 852 = some (.iaload, 1, []) := rfl
theorem tML_853 : q_tb ML 853 = some (.aload_n 3, 1, []) := rfl
theorem tML_854 : q_tb ML 854 = some (.invokestatic 114, 3, []) := rfl
theorem tML_857 : q_tb ML 857 = some (.istore 5, 2, []) := rfl
theorem tML_859 : q_tb ML 859 = some (.aload_n 2, 1, []) := rfl
theorem tML_860 : q_tb ML 860 = some (.aload_n 0, 1, []) := rfl
theorem tML_861 : q_tb ML 861 = some (.iload 4, 2, []) := rfl
theorem tML_863 : q_tb ML 863 = some (.iconst 1, 1, []) := rfl
theorem tML_864 : q_tb ML 864 = some (.iadd, 1, []) := rfl
theorem tML_865 : q_tb ML 865 = some (.iaload, 1, []) := rfl
theorem tML_866 : q_tb ML 866 = some (.aload_n 0, 1, []) := rfl
theorem tML_867 : q_tb ML 867 = some (.iload 4, 2, []) := rfl
theorem tML_869 : q_tb ML 869 = some (.iconst 2, 1, []) := rfl
theorem tML_870 : q_tb ML 870 = some (.iadd, 1, []) := rfl
theorem tML_871 : q_tb ML 871 = some (.iaload, 1, []) := rfl
theorem tML_872 : q_tb ML 872 = some (.invokevirtual 116, 3, []) := rfl
theorem tML_875 : q_tb ML 875 = some (.istore 6, 2, []) := rfl
theorem tML_877 : q_tb ML 877 = some (.aload_n 2, 1, []) := rfl
theorem tML_878 : q_tb ML 878 = some (.invokevirtual 56, 3, []) := rfl
theorem tML_881 : q_tb ML 881 = some (.iload 5, 2, []) := rfl
theorem tML_883 : q_tb ML 883 = some (.if_icmp .eq 5, 3, []) := rfl
theorem tML_886 : q_tb ML 886 = some (.iconst 0, 1, []) := rfl
theorem tML_887 : q_tb ML 887 = some (.ireturn, 1, []) := rfl
theorem tML_888 : q_tb ML 888 = some (.iload 5, 2, []) := rfl
theorem tML_890 : q_tb ML 890 = some (.ifCond .ne 15, 3, []) := rfl
theorem tML_893 : q_tb ML 893 = some (.aload_n 3, 1, []) := rfl
theorem tML_894 : q_tb ML 894 = some (.iconst 0, 1, []) := rfl
theorem tML_895 : q_tb ML 895 = some (.laload, 1, []) := rfl
theorem tML_896 : q_tb ML 896 = some (.iload 6, 2, []) := rfl
theorem tML_898 : q_tb ML 898 = some (.i2l, 1, []) := rfl
theorem tML_899 : q_tb ML 899 = some (.lcmp, 1, []) := rfl
theorem tML_900 : q_tb ML 900 = some (.ifCond .eq 5, 3, []) := rfl
theorem tML_903 : q_tb ML 903 = some (.iconst 0, 1, []) := rfl
theorem tML_904 : q_tb ML 904 = some (.ireturn, 1, []) := rfl
theorem tML_905 : q_tb ML 905 = some (.goto 147, 3, [5, 6, 7]) := rfl
theorem tML_908 : q_tb ML 908 = some (.aload_n 1, 1, []) := rfl
theorem tML_909 : q_tb ML 909 = some (.invokevirtual 117, 3, []) := rfl
theorem tML_912 : q_tb ML 912 = some (.aload_n 2, 1, []) := rfl
theorem tML_913 : q_tb ML 913 = some (.invokevirtual 121, 3, []) := rfl
theorem tML_916 : q_tb ML 916 = some (.lcmp, 1, []) := rfl
theorem tML_917 : q_tb ML 917 = some (.ifCond .eq 135, 3, []) := rfl
theorem tML_920 : q_tb ML 920 = some (.iconst 0, 1, []) := rfl
theorem tML_921 : q_tb ML 921 = some (.ireturn, 1, []) := rfl
theorem tML_922 : q_tb ML 922 = some (.aload_n 1, 1, []) := rfl
theorem tML_923 : q_tb ML 923 = some (.aload_n 0, 1, []) := rfl
theorem tML_924 : q_tb ML 924 = some (.iload 4, 2, []) := rfl
theorem tML_926 : q_tb ML 926 = some (.iconst 1, 1, []) := rfl
theorem tML_927 : q_tb ML 927 = some (.iadd, 1, []) := rfl
theorem tML_928 : q_tb ML 928 = some (.iaload, 1, []) := rfl
theorem tML_929 : q_tb ML 929 = some (.aload_n 3, 1, []) := rfl
theorem tML_930 : q_tb ML 930 = some (.invokestatic 122, 3, []) := rfl
theorem tML_933 : q_tb ML 933 = some (.istore 5, 2, []) := rfl
theorem tML_935 : q_tb ML 935 = some (.aload_n 2, 1, []) := rfl
theorem tML_936 : q_tb ML 936 = some (.aload_n 0, 1, []) := rfl
theorem tML_937 : q_tb ML 937 = some (.iload 4, 2, []) := rfl
theorem tML_939 : q_tb ML 939 = some (.iconst 1, 1, []) := rfl
theorem tML_940 : q_tb ML 940 = some (.iadd, 1, []) := rfl
theorem tML_941 : q_tb ML 941 = some (.iaload, 1, []) := rfl
theorem tML_942 : q_tb ML 942 = some (.invokevirtual 124, 3, []) := rfl
theorem tML_945 : q_tb ML 945 = some (.lstore 6, 2, []) := rfl
theorem tML_947 : q_tb ML 947 = some (.aload_n 2, 1, []) := rfl
theorem tML_948 : q_tb ML 948 = some (.invokevirtual 56, 3, []) := rfl
theorem tML_951 : q_tb ML 951 = some (.iload 5, 2, []) := rfl
theorem tML_953 : q_tb ML 953 = some (.if_icmp .eq 5, 3, []) := rfl
theorem tML_956 : q_tb ML 956 = some (.iconst 0, 1, []) := rfl
theorem tML_957 : q_tb ML 957 = some (.ireturn, 1, []) := rfl
theorem tML_958 : q_tb ML 958 = some (.iload 5, 2, []) := rfl
theorem tML_960 : q_tb ML 960 = some (.ifCond .ne 14, 3, []) := rfl
theorem tML_963 : q_tb ML 963 = some (.aload_n 3, 1, []) := rfl
theorem tML_964 : q_tb ML 964 = some (.iconst 0, 1, []) := rfl
theorem tML_965 : q_tb ML 965 = some (.laload, 1, []) := rfl
theorem tML_966 : q_tb ML 966 = some (.lload 6, 2, []) := rfl
theorem tML_968 : q_tb ML 968 = some (.lcmp, 1, []) := rfl
theorem tML_969 : q_tb ML 969 = some (.ifCond .eq 5, 3, []) := rfl
theorem tML_972 : q_tb ML 972 = some (.iconst 0, 1, []) := rfl
theorem tML_973 : q_tb ML 973 = some (.ireturn, 1, []) := rfl
theorem tML_974 : q_tb ML 974 = some (.goto 78, 3, [5, 6, 7]) := rfl
theorem tML_977 : q_tb ML 977 = some (.aload_n 1, 1, []) := rfl
theorem tML_978 : q_tb ML 978 = some (.aload_n 0, 1, []) := rfl
theorem tML_979 : q_tb ML 979 = some (.iload 4, 2, []) := rfl
theorem tML_981 : q_tb ML 981 = some (.iconst 1, 1, []) := rfl
theorem tML_982 : q_tb ML 982 = some (.iadd, 1, []) := rfl
theorem tML_983 : q_tb ML 983 = some (.iaload, 1, []) := rfl
theorem tML_984 : q_tb ML 984 = some (.invokevirtual 125, 3, []) := rfl
theorem tML_987 : q_tb ML 987 = some (.aload_n 2, 1, []) := rfl
theorem tML_988 : q_tb ML 988 = some (.aload_n 0, 1, []) := rfl
theorem tML_989 : q_tb ML 989 = some (.iload 4, 2, []) := rfl
theorem tML_991 : q_tb ML 991 = some (.iconst 1, 1, []) := rfl
theorem tML_992 : q_tb ML 992 = some (.iadd, 1, []) := rfl
theorem tML_993 : q_tb ML 993 = some (.iaload, 1, []) := rfl
theorem tML_994 : q_tb ML 994 = some (.invokevirtual 129, 3, []) := rfl
theorem tML_997 : q_tb ML 997 = some (.if_icmp .eq 55, 3, []) := rfl
theorem tML_1000 : q_tb ML 1000 = some (.iconst 0, 1, []) := rfl
theorem tML_1001 : q_tb ML 1001 = some (.ireturn, 1, []) := rfl
theorem tML_1002 : q_tb ML 1002 = some (.aload_n 1, 1, []) := rfl
theorem tML_1003 : q_tb ML 1003 = some (.aload_n 0, 1, []) := rfl
theorem tML_1004 : q_tb ML 1004 = some (.iload 4, 2, []) := rfl
theorem tML_1006 : q_tb ML 1006 = some (.iconst 1, 1, []) := rfl
theorem tML_1007 : q_tb ML 1007 = some (.iadd, 1, []) := rfl
theorem tML_1008 : q_tb ML 1008 = some (.iaload, 1, []) := rfl
theorem tML_1009 : q_tb ML 1009 = some (.invokevirtual 130, 3, []) := rfl
theorem tML_1012 : q_tb ML 1012 = some (.aload_n 2, 1, []) := rfl
theorem tML_1013 : q_tb ML 1013 = some (.aload_n 0, 1, []) := rfl
theorem tML_1014 : q_tb ML 1014 = some (.iload 4, 2, []) := rfl
theorem tML_1016 : q_tb ML 1016 = some (.iconst 1, 1, []) := rfl
theorem tML_1017 : q_tb ML 1017 = some (.iadd, 1, []) := rfl
theorem tML_1018 : q_tb ML 1018 = some (.iaload, 1, []) := rfl
theorem tML_1019 : q_tb ML 1019 = some (.invokevirtual 133, 3, []) := rfl
theorem tML_1022 : q_tb ML 1022 = some (.if_icmp .eq 30, 3, []) := rfl
theorem tML_1025 : q_tb ML 1025 = some (.iconst 0, 1, []) := rfl
theorem tML_1026 : q_tb ML 1026 = some (.ireturn, 1, []) := rfl
theorem tML_1027 : q_tb ML 1027 = some (.aload_n 1, 1, []) := rfl
theorem tML_1028 : q_tb ML 1028 = some (.aload_n 0, 1, []) := rfl
theorem tML_1029 : q_tb ML 1029 = some (.iload 4, 2, []) := rfl
theorem tML_1031 : q_tb ML 1031 = some (.iconst 1, 1, []) := rfl
theorem tML_1032 : q_tb ML 1032 = some (.iadd, 1, []) := rfl
theorem tML_1033 : q_tb ML 1033 = some (.iaload, 1, []) := rfl
theorem tML_1034 : q_tb ML 1034 = some (.invokevirtual 134, 3, []) := rfl
theorem tML_1037 : q_tb ML 1037 = some (.aload_n 2, 1, []) := rfl
theorem tML_1038 : q_tb ML 1038 = some (.aload_n 0, 1, []) := rfl
theorem tML_1039 : q_tb ML 1039 = some (.iload 4, 2, []) := rfl
theorem tML_1041 : q_tb ML 1041 = some (.iconst 1, 1, []) := rfl
theorem tML_1042 : q_tb ML 1042 = some (.iadd, 1, []) := rfl
theorem tML_1043 : q_tb ML 1043 = some (.iaload, 1, []) := rfl
theorem tML_1044 : q_tb ML 1044 = some (.invokevirtual 137, 3, []) := rfl
theorem tML_1047 : q_tb ML 1047 = some (.if_icmp .eq 5, 3, []) := rfl
theorem tML_1050 : q_tb ML 1050 = some (.iconst 0, 1, []) := rfl
theorem tML_1051 : q_tb ML 1051 = some (.ireturn, 1, []) := rfl
theorem tML_1052 : q_tb ML 1052 = some (.iinc 4 6, 3, [5, 6, 7]) := rfl
theorem tML_1055 : q_tb ML 1055 = some (.goto (-1022), 3, []) := rfl
theorem tML_1058 : q_tb ML 1058 = some (.iconst 1, 1, []) := rfl
theorem tML_1059 : q_tb ML 1059 = some (.ireturn, 1, []) := rfl
def tbMC : List (Nat × List (Nat × Instr × Nat × List Nat)) := [(14, [(0, (.iload_n 1, 1, [])), (1, (.aload_n 0, 1, [])), (2, (.arraylength, 1, [])), (3, (.if_icmp .ge 9, 3, [])), (6, (.aload_n 0, 1, [])), (7, (.iload_n 1, 1, [])), (8, (.iaload, 1, [])), (9, (.goto 4, 3, [])), (12, (.iconst 0, 1, [])), (13, (.ireturn, 1, [0, 1]))])]
def rsMC : List (Nat × Nat × Nat × Nat) := []
def MC : q_M := (⟨"CommitDeskLaw", "cell", "([II)I"⟩, method_2_code, 2, (some .int), Jvm.Cond.code ⟨"CommitDeskLaw", "cell", "([II)I"⟩ method_2_code 2 (some .int) :: LW, (0, 0, 0), q_lk2 tbMC, q_lk rsMC, q_lk [])
theorem dkMC : q_dk method_2_code tbMC = true := by decide +kernel
theorem omMC (xs : List Int32) : q_okM (GG xs) PP MC := by
  have hW : ∀ w ∈ LW, w ∈ q_ws MC := fun w h => List.mem_cons_of_mem _ h
  exact q_okM_of (by decide) rfl dkMC (fun q hq => absurd hq List.not_mem_nil) (fun q hq => absurd hq List.not_mem_nil) hW
theorem tMC_0 : q_tb MC 0 = some (.iload_n 1, 1, []) := rfl
theorem tMC_1 : q_tb MC 1 = some (.aload_n 0, 1, []) := rfl
theorem tMC_2 : q_tb MC 2 = some (.arraylength, 1, []) := rfl
theorem tMC_3 : q_tb MC 3 = some (.if_icmp .ge 9, 3, []) := rfl
theorem tMC_6 : q_tb MC 6 = some (.aload_n 0, 1, []) := rfl
theorem tMC_7 : q_tb MC 7 = some (.iload_n 1, 1, []) := rfl
theorem tMC_8 : q_tb MC 8 = some (.iaload, 1, []) := rfl
theorem tMC_9 : q_tb MC 9 = some (.goto 4, 3, []) := rfl
theorem tMC_12 : q_tb MC 12 = some (.iconst 0, 1, []) := rfl
theorem tMC_13 : q_tb MC 13 = some (.ireturn, 1, [0, 1]) := rfl
def MH_unit : q_M := (⟨"CommitDeskLaw", "unit", "(LCommitDesk;IIIII[J)I"⟩, method_3_code, 8, some .int, LW, (0, 8, 300), (fun _ => none), (fun i => if i = 7 then some (10, 1, 5) else none), fun _ => none)
theorem oh_unit (xs : List Int32) : q_okR (GG xs) PP MH_unit 7 (10, 1, 5) := by
  have hW : ∀ w ∈ LW, w ∈ q_ws MH_unit := fun w h => h
  exact q_okR_v ⟨⟨LW_good hW (hW _ nw_532), hW _ mw_1, Or.inl (hW _ nw_529), by decide, by decide, by decide +kernel, Nat.le_of_ble_eq_true rfl, Nat.le_of_ble_eq_true rfl⟩, hW _ nw_530, hW _ nw_531, gT0, 6, rfl⟩
def MH_output : q_M := (⟨"CommitDeskLaw", "output", "(LCommitDesk;II[J)I"⟩, method_4_code, 5, some .int, LW, (0, 8, 300), (fun _ => none), (fun i => if i = 17 then some (10, 8, 2) else none), fun _ => none)
theorem oh_output (xs : List Int32) : q_okR (GG xs) PP MH_output 17 (10, 8, 2) := by
  have hW : ∀ w ∈ LW, w ∈ q_ws MH_output := fun w h => h
  exact q_okR_v ⟨⟨LW_good hW (hW _ nw_625), hW _ mw_1, Or.inl (hW _ nw_622), by decide, by decide, by decide +kernel, Nat.le_of_ble_eq_true rfl, Nat.le_of_ble_eq_true rfl⟩, hW _ nw_623, hW _ nw_624, gT0, 6, rfl⟩
def MH_cost : q_M := (⟨"CommitDeskLaw", "cost", "(LCommitDesk;I[J)I"⟩, method_5_code, 4, some .int, LW, (0, 8, 300), (fun _ => none), (fun i => if i = 23 then some (10, 11, 1) else none), fun _ => none)
theorem oh_cost (xs : List Int32) : q_okR (GG xs) PP MH_cost 23 (10, 11, 1) := by
  have hW : ∀ w ∈ LW, w ∈ q_ws MH_cost := fun w h => h
  exact q_okR_v ⟨⟨LW_good hW (hW _ nw_647), hW _ mw_1, Or.inl (hW _ nw_644), by decide, by decide, by decide +kernel, Nat.le_of_ble_eq_true rfl, Nat.le_of_ble_eq_true rfl⟩, hW _ nw_645, hW _ nw_646, gT0, 6, rfl⟩
def MH_priceOf : q_M := (⟨"CommitDeskLaw", "priceOf", "(LCommitDesk;I[J)I"⟩, method_6_code, 4, some .int, LW, (0, 8, 300), (fun _ => none), (fun i => if i = 27 then some (10, 13, 1) else none), fun _ => none)
theorem oh_priceOf (xs : List Int32) : q_okR (GG xs) PP MH_priceOf 27 (10, 13, 1) := by
  have hW : ∀ w ∈ LW, w ∈ q_ws MH_priceOf := fun w h => h
  exact q_okR_v ⟨⟨LW_good hW (hW _ nw_674), hW _ mw_1, Or.inl (hW _ nw_671), by decide, by decide, by decide +kernel, Nat.le_of_ble_eq_true rfl, Nat.le_of_ble_eq_true rfl⟩, hW _ nw_672, hW _ nw_673, gT0, 6, rfl⟩
def MH_alone : q_M := (⟨"CommitDeskLaw", "alone", "(LCommitDesk;I[J)I"⟩, method_7_code, 4, some .int, LW, (0, 8, 300), (fun _ => none), (fun i => if i = 30 then some (10, 14, 1) else none), fun _ => none)
theorem oh_alone (xs : List Int32) : q_okR (GG xs) PP MH_alone 30 (10, 14, 1) := by
  have hW : ∀ w ∈ LW, w ∈ q_ws MH_alone := fun w h => h
  exact q_okR_v ⟨⟨LW_good hW (hW _ nw_681), hW _ mw_1, Or.inl (hW _ nw_678), by decide, by decide, by decide +kernel, Nat.le_of_ble_eq_true rfl, Nat.le_of_ble_eq_true rfl⟩, hW _ nw_679, hW _ nw_680, gT0, 6, rfl⟩
def MH_lone : q_M := (⟨"CommitDeskLaw", "lone", "(LCommitDesk;II[J)I"⟩, method_8_code, 5, some .int, LW, (0, 8, 300), (fun _ => none), (fun i => if i = 34 then some (10, 15, 2) else none), fun _ => none)
theorem oh_lone (xs : List Int32) : q_okR (GG xs) PP MH_lone 34 (10, 15, 2) := by
  have hW : ∀ w ∈ LW, w ∈ q_ws MH_lone := fun w h => h
  exact q_okR_v ⟨⟨LW_good hW (hW _ nw_688), hW _ mw_1, Or.inl (hW _ nw_685), by decide, by decide, by decide +kernel, Nat.le_of_ble_eq_true rfl, Nat.le_of_ble_eq_true rfl⟩, hW _ nw_686, hW _ nw_687, gT0, 6, rfl⟩
def MH_improve : q_M := (⟨"CommitDeskLaw", "improve", "(LCommitDesk;I[J)I"⟩, method_9_code, 4, some .int, LW, (0, 8, 300), (fun _ => none), (fun i => if i = 37 then some (10, 17, 1) else none), fun _ => none)
theorem oh_improve (xs : List Int32) : q_okR (GG xs) PP MH_improve 37 (10, 17, 1) := by
  have hW : ∀ w ∈ LW, w ∈ q_ws MH_improve := fun w h => h
  exact q_okR_v ⟨⟨LW_good hW (hW _ nw_695), hW _ mw_1, Or.inl (hW _ nw_692), by decide, by decide, by decide +kernel, Nat.le_of_ble_eq_true rfl, Nat.le_of_ble_eq_true rfl⟩, hW _ nw_693, hW _ nw_694, gT0, 6, rfl⟩
