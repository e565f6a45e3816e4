set_option maxRecDepth 100000 in
theorem wd_75 : (Jvm.Cond.classLink "CutBureauLaw" (7 : Nat) "CutBureau") ∈ lw_tbl := inT1 (List.mem_of_getElem? (i := 14) rfl)
set_option maxRecDepth 100000 in
theorem wd_76 : (Jvm.Cond.instantiable "CutBureau" (17 : Nat)) ∈ lw_tbl := inT1 (List.mem_of_getElem? (i := 15) rfl)
set_option maxRecDepth 100000 in
theorem wd_77 : (Jvm.Cond.methodLink "CutBureauLaw" (9 : Nat) ({ cls := "CutBureau", name := "<init>", desc := "()V" } : Jvm.MethodName)) ∈ lw_tbl := inT1 (List.mem_of_getElem? (i := 16) rfl)
set_option maxRecDepth 100000 in
theorem wd_78 : (Jvm.Cond.instanceMethod ({ cls := "CutBureau", name := "<init>", desc := "()V" } : Jvm.MethodName)) ∈ lw_tbl := inT1 (List.mem_of_getElem? (i := 17) rfl)
set_option maxRecDepth 100000 in
theorem wd_79 : (Jvm.Cond.code ({ cls := "CutBureau", name := "<init>", desc := "()V" } : Jvm.MethodName) prog_1_method_1_code (2 : Nat) (Option.none : Option Jvm.ClassFile.FieldType)) ∈ lw_tbl := inT1 (List.mem_of_getElem? (i := 18) rfl)
set_option maxRecDepth 100000 in
theorem wd_261 : (Jvm.Cond.methodLink "CutBureauLaw" (13 : Nat) ({ cls := "CutBureau", name := "page", desc := "(II)I" } : Jvm.MethodName)) ∈ lw_tbl := inT1 (List.mem_of_getElem? (i := 200) rfl)
set_option maxRecDepth 100000 in
theorem wd_262 : (Jvm.Cond.instanceMethod ({ cls := "CutBureau", name := "page", desc := "(II)I" } : Jvm.MethodName)) ∈ lw_tbl := inT1 (List.mem_of_getElem? (i := 201) rfl)
set_option maxRecDepth 100000 in
theorem wd_263 : (Jvm.Cond.selects "CutBureau" ({ cls := "CutBureau", name := "page", desc := "(II)I" } : Jvm.MethodName) ({ cls := "CutBureau", name := "page", desc := "(II)I" } : Jvm.MethodName)) ∈ lw_tbl := inT1 (List.mem_of_getElem? (i := 202) rfl)
set_option maxRecDepth 100000 in
theorem wd_264 : (Jvm.Cond.code ({ cls := "CutBureau", name := "page", desc := "(II)I" } : Jvm.MethodName) prog_1_method_2_code (3 : Nat) (Option.some Jvm.ClassFile.FieldType.int)) ∈ lw_tbl := inT1 (List.mem_of_getElem? (i := 203) rfl)
set_option maxRecDepth 100000 in
theorem wd_301 : (Jvm.Cond.methodLink "CutBureauLaw" (18 : Nat) ({ cls := "CutBureau", name := "write", desc := "(III)I" } : Jvm.MethodName)) ∈ lw_tbl := inT2 (List.mem_of_getElem? (i := 0) rfl)
set_option maxRecDepth 100000 in
theorem wd_302 : (Jvm.Cond.instanceMethod ({ cls := "CutBureau", name := "write", desc := "(III)I" } : Jvm.MethodName)) ∈ lw_tbl := inT2 (List.mem_of_getElem? (i := 1) rfl)
set_option maxRecDepth 100000 in
theorem wd_303 : (Jvm.Cond.selects "CutBureau" ({ cls := "CutBureau", name := "write", desc := "(III)I" } : Jvm.MethodName) ({ cls := "CutBureau", name := "write", desc := "(III)I" } : Jvm.MethodName)) ∈ lw_tbl := inT2 (List.mem_of_getElem? (i := 2) rfl)
set_option maxRecDepth 100000 in
theorem wd_304 : (Jvm.Cond.code ({ cls := "CutBureau", name := "write", desc := "(III)I" } : Jvm.MethodName) prog_1_method_3_code (6 : Nat) (Option.some Jvm.ClassFile.FieldType.int)) ∈ lw_tbl := inT2 (List.mem_of_getElem? (i := 3) rfl)
set_option maxRecDepth 100000 in
theorem wd_324 : (Jvm.Cond.methodLink "CutBureauLaw" (23 : Nat) ({ cls := "CutBureau", name := "sides", desc := "(II)I" } : Jvm.MethodName)) ∈ lw_tbl := inT2 (List.mem_of_getElem? (i := 23) rfl)
set_option maxRecDepth 100000 in
theorem wd_325 : (Jvm.Cond.instanceMethod ({ cls := "CutBureau", name := "sides", desc := "(II)I" } : Jvm.MethodName)) ∈ lw_tbl := inT2 (List.mem_of_getElem? (i := 24) rfl)
set_option maxRecDepth 100000 in
theorem wd_326 : (Jvm.Cond.selects "CutBureau" ({ cls := "CutBureau", name := "sides", desc := "(II)I" } : Jvm.MethodName) ({ cls := "CutBureau", name := "sides", desc := "(II)I" } : Jvm.MethodName)) ∈ lw_tbl := inT2 (List.mem_of_getElem? (i := 25) rfl)
set_option maxRecDepth 100000 in
theorem wd_327 : (Jvm.Cond.code ({ cls := "CutBureau", name := "sides", desc := "(II)I" } : Jvm.MethodName) prog_1_method_4_code (5 : Nat) (Option.some Jvm.ClassFile.FieldType.int)) ∈ lw_tbl := inT2 (List.mem_of_getElem? (i := 26) rfl)
set_option maxRecDepth 100000 in
theorem wd_328 : (Jvm.Cond.methodLink "CutBureauLaw" (27 : Nat) ({ cls := "CutBureau", name := "ofPage", desc := "(II)I" } : Jvm.MethodName)) ∈ lw_tbl := inT2 (List.mem_of_getElem? (i := 27) rfl)
set_option maxRecDepth 100000 in
theorem wd_329 : (Jvm.Cond.instanceMethod ({ cls := "CutBureau", name := "ofPage", desc := "(II)I" } : Jvm.MethodName)) ∈ lw_tbl := inT2 (List.mem_of_getElem? (i := 28) rfl)
set_option maxRecDepth 100000 in
theorem wd_330 : (Jvm.Cond.selects "CutBureau" ({ cls := "CutBureau", name := "ofPage", desc := "(II)I" } : Jvm.MethodName) ({ cls := "CutBureau", name := "ofPage", desc := "(II)I" } : Jvm.MethodName)) ∈ lw_tbl := inT2 (List.mem_of_getElem? (i := 29) rfl)
set_option maxRecDepth 100000 in
theorem wd_331 : (Jvm.Cond.code ({ cls := "CutBureau", name := "ofPage", desc := "(II)I" } : Jvm.MethodName) prog_1_method_5_code (4 : Nat) (Option.some Jvm.ClassFile.FieldType.int)) ∈ lw_tbl := inT2 (List.mem_of_getElem? (i := 30) rfl)
set_option maxRecDepth 100000 in
theorem wd_336 : (Jvm.Cond.methodLink "CutBureauLaw" (31 : Nat) ({ cls := "CutBureau", name := "piece", desc := "(IIIII)I" } : Jvm.MethodName)) ∈ lw_tbl := inT2 (List.mem_of_getElem? (i := 35) rfl)
set_option maxRecDepth 100000 in
theorem wd_337 : (Jvm.Cond.instanceMethod ({ cls := "CutBureau", name := "piece", desc := "(IIIII)I" } : Jvm.MethodName)) ∈ lw_tbl := inT2 (List.mem_of_getElem? (i := 36) rfl)
set_option maxRecDepth 100000 in
theorem wd_338 : (Jvm.Cond.selects "CutBureau" ({ cls := "CutBureau", name := "piece", desc := "(IIIII)I" } : Jvm.MethodName) ({ cls := "CutBureau", name := "piece", desc := "(IIIII)I" } : Jvm.MethodName)) ∈ lw_tbl := inT2 (List.mem_of_getElem? (i := 37) rfl)
set_option maxRecDepth 100000 in
theorem wd_339 : (Jvm.Cond.code ({ cls := "CutBureau", name := "piece", desc := "(IIIII)I" } : Jvm.MethodName) prog_1_method_6_code (8 : Nat) (Option.some Jvm.ClassFile.FieldType.int)) ∈ lw_tbl := inT2 (List.mem_of_getElem? (i := 38) rfl)
set_option maxRecDepth 100000 in
theorem wd_409 : (Jvm.Cond.methodLink "CutBureauLaw" (36 : Nat) ({ cls := "CutBureau", name := "about", desc := "(II)I" } : Jvm.MethodName)) ∈ lw_tbl := inT2 (List.mem_of_getElem? (i := 108) rfl)
set_option maxRecDepth 100000 in
theorem wd_410 : (Jvm.Cond.instanceMethod ({ cls := "CutBureau", name := "about", desc := "(II)I" } : Jvm.MethodName)) ∈ lw_tbl := inT2 (List.mem_of_getElem? (i := 109) rfl)
set_option maxRecDepth 100000 in
theorem wd_411 : (Jvm.Cond.selects "CutBureau" ({ cls := "CutBureau", name := "about", desc := "(II)I" } : Jvm.MethodName) ({ cls := "CutBureau", name := "about", desc := "(II)I" } : Jvm.MethodName)) ∈ lw_tbl := inT2 (List.mem_of_getElem? (i := 110) rfl)
set_option maxRecDepth 100000 in
theorem wd_412 : (Jvm.Cond.code ({ cls := "CutBureau", name := "about", desc := "(II)I" } : Jvm.MethodName) prog_1_method_7_code (4 : Nat) (Option.some Jvm.ClassFile.FieldType.int)) ∈ lw_tbl := inT2 (List.mem_of_getElem? (i := 111) rfl)
set_option maxRecDepth 100000 in
theorem wd_439 : (Jvm.Cond.methodLink "CutBureauLaw" (40 : Nat) ({ cls := "CutBureau", name := "word", desc := "(II)I" } : Jvm.MethodName)) ∈ lw_tbl := inT2 (List.mem_of_getElem? (i := 138) rfl)
set_option maxRecDepth 100000 in
theorem wd_440 : (Jvm.Cond.instanceMethod ({ cls := "CutBureau", name := "word", desc := "(II)I" } : Jvm.MethodName)) ∈ lw_tbl := inT2 (List.mem_of_getElem? (i := 139) rfl)
set_option maxRecDepth 100000 in
theorem wd_441 : (Jvm.Cond.selects "CutBureau" ({ cls := "CutBureau", name := "word", desc := "(II)I" } : Jvm.MethodName) ({ cls := "CutBureau", name := "word", desc := "(II)I" } : Jvm.MethodName)) ∈ lw_tbl := inT2 (List.mem_of_getElem? (i := 140) rfl)
set_option maxRecDepth 100000 in
theorem wd_442 : (Jvm.Cond.code ({ cls := "CutBureau", name := "word", desc := "(II)I" } : Jvm.MethodName) prog_1_method_8_code (4 : Nat) (Option.some Jvm.ClassFile.FieldType.int)) ∈ lw_tbl := inT2 (List.mem_of_getElem? (i := 141) rfl)
set_option maxRecDepth 100000 in
theorem wd_443 : (Jvm.Cond.methodLink "CutBureauLaw" (44 : Nat) ({ cls := "CutBureau", name := "clash", desc := "(II)I" } : Jvm.MethodName)) ∈ lw_tbl := inT2 (List.mem_of_getElem? (i := 142) rfl)
set_option maxRecDepth 100000 in
theorem wd_444 : (Jvm.Cond.instanceMethod ({ cls := "CutBureau", name := "clash", desc := "(II)I" } : Jvm.MethodName)) ∈ lw_tbl := inT2 (List.mem_of_getElem? (i := 143) rfl)
set_option maxRecDepth 100000 in
theorem wd_445 : (Jvm.Cond.selects "CutBureau" ({ cls := "CutBureau", name := "clash", desc := "(II)I" } : Jvm.MethodName) ({ cls := "CutBureau", name := "clash", desc := "(II)I" } : Jvm.MethodName)) ∈ lw_tbl := inT2 (List.mem_of_getElem? (i := 144) rfl)
set_option maxRecDepth 100000 in
theorem wd_446 : (Jvm.Cond.code ({ cls := "CutBureau", name := "clash", desc := "(II)I" } : Jvm.MethodName) prog_1_method_9_code (5 : Nat) (Option.some Jvm.ClassFile.FieldType.int)) ∈ lw_tbl := inT2 (List.mem_of_getElem? (i := 145) rfl)
set_option maxRecDepth 100000 in
theorem wd_452 : (Jvm.Cond.methodLink "CutBureauLaw" (48 : Nat) ({ cls := "CutBureau", name := "say", desc := "(I)I" } : Jvm.MethodName)) ∈ lw_tbl := inT2 (List.mem_of_getElem? (i := 151) rfl)
set_option maxRecDepth 100000 in
theorem wd_453 : (Jvm.Cond.instanceMethod ({ cls := "CutBureau", name := "say", desc := "(I)I" } : Jvm.MethodName)) ∈ lw_tbl := inT2 (List.mem_of_getElem? (i := 152) rfl)
set_option maxRecDepth 100000 in
theorem wd_454 : (Jvm.Cond.selects "CutBureau" ({ cls := "CutBureau", name := "say", desc := "(I)I" } : Jvm.MethodName) ({ cls := "CutBureau", name := "say", desc := "(I)I" } : Jvm.MethodName)) ∈ lw_tbl := inT2 (List.mem_of_getElem? (i := 153) rfl)
set_option maxRecDepth 100000 in
theorem wd_455 : (Jvm.Cond.code ({ cls := "CutBureau", name := "say", desc := "(I)I" } : Jvm.MethodName) prog_1_method_10_code (2 : Nat) (Option.some Jvm.ClassFile.FieldType.int)) ∈ lw_tbl := inT2 (List.mem_of_getElem? (i := 154) rfl)
set_option maxRecDepth 100000 in
theorem wd_456 : (Jvm.Cond.methodLink "CutBureauLaw" (53 : Nat) ({ cls := "CutBureau", name := "wipe", desc := "()I" } : Jvm.MethodName)) ∈ lw_tbl := inT2 (List.mem_of_getElem? (i := 155) rfl)
set_option maxRecDepth 100000 in
theorem wd_457 : (Jvm.Cond.instanceMethod ({ cls := "CutBureau", name := "wipe", desc := "()I" } : Jvm.MethodName)) ∈ lw_tbl := inT2 (List.mem_of_getElem? (i := 156) rfl)
set_option maxRecDepth 100000 in
theorem wd_458 : (Jvm.Cond.selects "CutBureau" ({ cls := "CutBureau", name := "wipe", desc := "()I" } : Jvm.MethodName) ({ cls := "CutBureau", name := "wipe", desc := "()I" } : Jvm.MethodName)) ∈ lw_tbl := inT2 (List.mem_of_getElem? (i := 157) rfl)
set_option maxRecDepth 100000 in
theorem wd_459 : (Jvm.Cond.code ({ cls := "CutBureau", name := "wipe", desc := "()I" } : Jvm.MethodName) prog_1_method_11_code (2 : Nat) (Option.some Jvm.ClassFile.FieldType.int)) ∈ lw_tbl := inT2 (List.mem_of_getElem? (i := 158) rfl)
set_option maxRecDepth 100000 in
theorem wd_460 : (Jvm.Cond.methodLink "CutBureauLaw" (58 : Nat) ({ cls := "CutBureau", name := "fault", desc := "()I" } : Jvm.MethodName)) ∈ lw_tbl := inT2 (List.mem_of_getElem? (i := 159) rfl)
set_option maxRecDepth 100000 in
theorem wd_461 : (Jvm.Cond.instanceMethod ({ cls := "CutBureau", name := "fault", desc := "()I" } : Jvm.MethodName)) ∈ lw_tbl := inT2 (List.mem_of_getElem? (i := 160) rfl)
set_option maxRecDepth 100000 in
theorem wd_462 : (Jvm.Cond.selects "CutBureau" ({ cls := "CutBureau", name := "fault", desc := "()I" } : Jvm.MethodName) ({ cls := "CutBureau", name := "fault", desc := "()I" } : Jvm.MethodName)) ∈ lw_tbl := inT2 (List.mem_of_getElem? (i := 161) rfl)
set_option maxRecDepth 100000 in
theorem wd_463 : (Jvm.Cond.code ({ cls := "CutBureau", name := "fault", desc := "()I" } : Jvm.MethodName) prog_1_method_12_code (1 : Nat) (Option.some Jvm.ClassFile.FieldType.int)) ∈ lw_tbl := inT2 (List.mem_of_getElem? (i := 162) rfl)
set_option maxRecDepth 100000 in
theorem wd_477 : (Jvm.Cond.methodLink "CutBureauLaw" (62 : Nat) ({ cls := "CutBureau", name := "order", desc := "(IIIIIZ)I" } : Jvm.MethodName)) ∈ lw_tbl := inT2 (List.mem_of_getElem? (i := 176) rfl)
set_option maxRecDepth 100000 in
theorem wd_478 : (Jvm.Cond.instanceMethod ({ cls := "CutBureau", name := "order", desc := "(IIIIIZ)I" } : Jvm.MethodName)) ∈ lw_tbl := inT2 (List.mem_of_getElem? (i := 177) rfl)
set_option maxRecDepth 100000 in
theorem wd_479 : (Jvm.Cond.selects "CutBureau" ({ cls := "CutBureau", name := "order", desc := "(IIIIIZ)I" } : Jvm.MethodName) ({ cls := "CutBureau", name := "order", desc := "(IIIIIZ)I" } : Jvm.MethodName)) ∈ lw_tbl := inT2 (List.mem_of_getElem? (i := 178) rfl)
set_option maxRecDepth 100000 in
theorem wd_480 : (Jvm.Cond.code ({ cls := "CutBureau", name := "order", desc := "(IIIIIZ)I" } : Jvm.MethodName) prog_1_method_13_code (7 : Nat) (Option.some Jvm.ClassFile.FieldType.int)) ∈ lw_tbl := inT2 (List.mem_of_getElem? (i := 179) rfl)
set_option maxRecDepth 100000 in
theorem wd_515 : (Jvm.Cond.methodLink "CutBureauLaw" (67 : Nat) ({ cls := "CutBureau", name := "wants", desc := "(III)I" } : Jvm.MethodName)) ∈ lw_tbl := inT2 (List.mem_of_getElem? (i := 214) rfl)
set_option maxRecDepth 100000 in
theorem wd_516 : (Jvm.Cond.instanceMethod ({ cls := "CutBureau", name := "wants", desc := "(III)I" } : Jvm.MethodName)) ∈ lw_tbl := inT2 (List.mem_of_getElem? (i := 215) rfl)
set_option maxRecDepth 100000 in
theorem wd_517 : (Jvm.Cond.selects "CutBureau" ({ cls := "CutBureau", name := "wants", desc := "(III)I" } : Jvm.MethodName) ({ cls := "CutBureau", name := "wants", desc := "(III)I" } : Jvm.MethodName)) ∈ lw_tbl := inT2 (List.mem_of_getElem? (i := 216) rfl)
set_option maxRecDepth 100000 in
theorem wd_518 : (Jvm.Cond.code ({ cls := "CutBureau", name := "wants", desc := "(III)I" } : Jvm.MethodName) prog_1_method_14_code (6 : Nat) (Option.some Jvm.ClassFile.FieldType.int)) ∈ lw_tbl := inT2 (List.mem_of_getElem? (i := 217) rfl)
set_option maxRecDepth 100000 in
theorem wd_564 : (Jvm.Cond.methodLink "CutBureauLaw" (71 : Nat) ({ cls := "CutBureau", name := "changes", desc := "(II)I" } : Jvm.MethodName)) ∈ lw_tbl := inT3 (List.mem_of_getElem? (i := 23) rfl)
set_option maxRecDepth 100000 in
theorem wd_565 : (Jvm.Cond.instanceMethod ({ cls := "CutBureau", name := "changes", desc := "(II)I" } : Jvm.MethodName)) ∈ lw_tbl := inT3 (List.mem_of_getElem? (i := 24) rfl)
set_option maxRecDepth 100000 in
theorem wd_566 : (Jvm.Cond.selects "CutBureau" ({ cls := "CutBureau", name := "changes", desc := "(II)I" } : Jvm.MethodName) ({ cls := "CutBureau", name := "changes", desc := "(II)I" } : Jvm.MethodName)) ∈ lw_tbl := inT3 (List.mem_of_getElem? (i := 25) rfl)
set_option maxRecDepth 100000 in
theorem wd_567 : (Jvm.Cond.code ({ cls := "CutBureau", name := "changes", desc := "(II)I" } : Jvm.MethodName) prog_1_method_15_code (5 : Nat) (Option.some Jvm.ClassFile.FieldType.int)) ∈ lw_tbl := inT3 (List.mem_of_getElem? (i := 26) rfl)
set_option maxRecDepth 100000 in
theorem wd_569 : (Jvm.Cond.methodLink "CutBureauLaw" (75 : Nat) ({ cls := "CutBureau", name := "set", desc := "(II)I" } : Jvm.MethodName)) ∈ lw_tbl := inT3 (List.mem_of_getElem? (i := 28) rfl)
set_option maxRecDepth 100000 in
theorem wd_570 : (Jvm.Cond.instanceMethod ({ cls := "CutBureau", name := "set", desc := "(II)I" } : Jvm.MethodName)) ∈ lw_tbl := inT3 (List.mem_of_getElem? (i := 29) rfl)
set_option maxRecDepth 100000 in
theorem wd_571 : (Jvm.Cond.selects "CutBureau" ({ cls := "CutBureau", name := "set", desc := "(II)I" } : Jvm.MethodName) ({ cls := "CutBureau", name := "set", desc := "(II)I" } : Jvm.MethodName)) ∈ lw_tbl := inT3 (List.mem_of_getElem? (i := 30) rfl)
set_option maxRecDepth 100000 in
theorem wd_572 : (Jvm.Cond.code ({ cls := "CutBureau", name := "set", desc := "(II)I" } : Jvm.MethodName) prog_1_method_16_code (4 : Nat) (Option.some Jvm.ClassFile.FieldType.int)) ∈ lw_tbl := inT3 (List.mem_of_getElem? (i := 31) rfl)
set_option maxRecDepth 100000 in
theorem wd_577 : (Jvm.Cond.methodLink "CutBureauLaw" (79 : Nat) ({ cls := "CutBureau", name := "list", desc := "(III)I" } : Jvm.MethodName)) ∈ lw_tbl := inT3 (List.mem_of_getElem? (i := 36) rfl)
set_option maxRecDepth 100000 in
theorem wd_578 : (Jvm.Cond.instanceMethod ({ cls := "CutBureau", name := "list", desc := "(III)I" } : Jvm.MethodName)) ∈ lw_tbl := inT3 (List.mem_of_getElem? (i := 37) rfl)
set_option maxRecDepth 100000 in
theorem wd_579 : (Jvm.Cond.selects "CutBureau" ({ cls := "CutBureau", name := "list", desc := "(III)I" } : Jvm.MethodName) ({ cls := "CutBureau", name := "list", desc := "(III)I" } : Jvm.MethodName)) ∈ lw_tbl := inT3 (List.mem_of_getElem? (i := 38) rfl)
set_option maxRecDepth 100000 in
theorem wd_580 : (Jvm.Cond.code ({ cls := "CutBureau", name := "list", desc := "(III)I" } : Jvm.MethodName) prog_1_method_17_code (5 : Nat) (Option.some Jvm.ClassFile.FieldType.int)) ∈ lw_tbl := inT3 (List.mem_of_getElem? (i := 39) rfl)
set_option maxRecDepth 100000 in
theorem wd_586 : (Jvm.Cond.methodLink "CutBureauLaw" (83 : Nat) ({ cls := "CutBureau", name := "name", desc := "(II)I" } : Jvm.MethodName)) ∈ lw_tbl := inT3 (List.mem_of_getElem? (i := 45) rfl)
set_option maxRecDepth 100000 in
theorem wd_587 : (Jvm.Cond.instanceMethod ({ cls := "CutBureau", name := "name", desc := "(II)I" } : Jvm.MethodName)) ∈ lw_tbl := inT3 (List.mem_of_getElem? (i := 46) rfl)
set_option maxRecDepth 100000 in
theorem wd_588 : (Jvm.Cond.selects "CutBureau" ({ cls := "CutBureau", name := "name", desc := "(II)I" } : Jvm.MethodName) ({ cls := "CutBureau", name := "name", desc := "(II)I" } : Jvm.MethodName)) ∈ lw_tbl := inT3 (List.mem_of_getElem? (i := 47) rfl)
set_option maxRecDepth 100000 in
theorem wd_589 : (Jvm.Cond.code ({ cls := "CutBureau", name := "name", desc := "(II)I" } : Jvm.MethodName) prog_1_method_18_code (4 : Nat) (Option.some Jvm.ClassFile.FieldType.int)) ∈ lw_tbl := inT3 (List.mem_of_getElem? (i := 48) rfl)
set_option maxRecDepth 100000 in
theorem wd_593 : (Jvm.Cond.methodLink "CutBureauLaw" (87 : Nat) ({ cls := "CutBureau", name := "counts", desc := "(III)I" } : Jvm.MethodName)) ∈ lw_tbl := inT3 (List.mem_of_getElem? (i := 52) rfl)
set_option maxRecDepth 100000 in
theorem wd_594 : (Jvm.Cond.instanceMethod ({ cls := "CutBureau", name := "counts", desc := "(III)I" } : Jvm.MethodName)) ∈ lw_tbl := inT3 (List.mem_of_getElem? (i := 53) rfl)
set_option maxRecDepth 100000 in
theorem wd_595 : (Jvm.Cond.selects "CutBureau" ({ cls := "CutBureau", name := "counts", desc := "(III)I" } : Jvm.MethodName) ({ cls := "CutBureau", name := "counts", desc := "(III)I" } : Jvm.MethodName)) ∈ lw_tbl := inT3 (List.mem_of_getElem? (i := 54) rfl)
set_option maxRecDepth 100000 in
theorem wd_596 : (Jvm.Cond.code ({ cls := "CutBureau", name := "counts", desc := "(III)I" } : Jvm.MethodName) prog_1_method_19_code (5 : Nat) (Option.some Jvm.ClassFile.FieldType.int)) ∈ lw_tbl := inT3 (List.mem_of_getElem? (i := 55) rfl)
set_option maxRecDepth 100000 in
theorem wd_597 : (Jvm.Cond.methodLink "CutBureauLaw" (91 : Nat) ({ cls := "CutBureau", name := "likely", desc := "(III)I" } : Jvm.MethodName)) ∈ lw_tbl := inT3 (List.mem_of_getElem? (i := 56) rfl)
set_option maxRecDepth 100000 in
theorem wd_598 : (Jvm.Cond.instanceMethod ({ cls := "CutBureau", name := "likely", desc := "(III)I" } : Jvm.MethodName)) ∈ lw_tbl := inT3 (List.mem_of_getElem? (i := 57) rfl)
set_option maxRecDepth 100000 in
theorem wd_599 : (Jvm.Cond.selects "CutBureau" ({ cls := "CutBureau", name := "likely", desc := "(III)I" } : Jvm.MethodName) ({ cls := "CutBureau", name := "likely", desc := "(III)I" } : Jvm.MethodName)) ∈ lw_tbl := inT3 (List.mem_of_getElem? (i := 58) rfl)
set_option maxRecDepth 100000 in
theorem wd_600 : (Jvm.Cond.code ({ cls := "CutBureau", name := "likely", desc := "(III)I" } : Jvm.MethodName) prog_1_method_20_code (7 : Nat) (Option.some Jvm.ClassFile.FieldType.int)) ∈ lw_tbl := inT3 (List.mem_of_getElem? (i := 59) rfl)
set_option maxRecDepth 100000 in
theorem wd_617 : (Jvm.Cond.methodLink "CutBureauLaw" (95 : Nat) ({ cls := "CutBureau", name := "asked", desc := "(II)I" } : Jvm.MethodName)) ∈ lw_tbl := inT3 (List.mem_of_getElem? (i := 76) rfl)
set_option maxRecDepth 100000 in
theorem wd_618 : (Jvm.Cond.instanceMethod ({ cls := "CutBureau", name := "asked", desc := "(II)I" } : Jvm.MethodName)) ∈ lw_tbl := inT3 (List.mem_of_getElem? (i := 77) rfl)
set_option maxRecDepth 100000 in
theorem wd_619 : (Jvm.Cond.selects "CutBureau" ({ cls := "CutBureau", name := "asked", desc := "(II)I" } : Jvm.MethodName) ({ cls := "CutBureau", name := "asked", desc := "(II)I" } : Jvm.MethodName)) ∈ lw_tbl := inT3 (List.mem_of_getElem? (i := 78) rfl)
set_option maxRecDepth 100000 in
theorem wd_620 : (Jvm.Cond.code ({ cls := "CutBureau", name := "asked", desc := "(II)I" } : Jvm.MethodName) prog_1_method_21_code (4 : Nat) (Option.some Jvm.ClassFile.FieldType.int)) ∈ lw_tbl := inT3 (List.mem_of_getElem? (i := 79) rfl)
set_option maxRecDepth 100000 in
theorem wd_629 : (Jvm.Cond.methodLink "CutBureauLaw" (99 : Nat) ({ cls := "CutBureau", name := "served", desc := "(III)I" } : Jvm.MethodName)) ∈ lw_tbl := inT3 (List.mem_of_getElem? (i := 88) rfl)
set_option maxRecDepth 100000 in
theorem wd_630 : (Jvm.Cond.instanceMethod ({ cls := "CutBureau", name := "served", desc := "(III)I" } : Jvm.MethodName)) ∈ lw_tbl := inT3 (List.mem_of_getElem? (i := 89) rfl)
set_option maxRecDepth 100000 in
theorem wd_631 : (Jvm.Cond.selects "CutBureau" ({ cls := "CutBureau", name := "served", desc := "(III)I" } : Jvm.MethodName) ({ cls := "CutBureau", name := "served", desc := "(III)I" } : Jvm.MethodName)) ∈ lw_tbl := inT3 (List.mem_of_getElem? (i := 90) rfl)
set_option maxRecDepth 100000 in
theorem wd_632 : (Jvm.Cond.code ({ cls := "CutBureau", name := "served", desc := "(III)I" } : Jvm.MethodName) prog_1_method_22_code (6 : Nat) (Option.some Jvm.ClassFile.FieldType.int)) ∈ lw_tbl := inT3 (List.mem_of_getElem? (i := 91) rfl)
set_option maxRecDepth 100000 in
theorem wd_662 : (Jvm.Cond.methodLink "CutBureauLaw" (103 : Nat) ({ cls := "CutBureau", name := "find", desc := "(IIZ)I" } : Jvm.MethodName)) ∈ lw_tbl := inT3 (List.mem_of_getElem? (i := 121) rfl)
set_option maxRecDepth 100000 in
theorem wd_663 : (Jvm.Cond.instanceMethod ({ cls := "CutBureau", name := "find", desc := "(IIZ)I" } : Jvm.MethodName)) ∈ lw_tbl := inT3 (List.mem_of_getElem? (i := 122) rfl)
set_option maxRecDepth 100000 in
theorem wd_664 : (Jvm.Cond.selects "CutBureau" ({ cls := "CutBureau", name := "find", desc := "(IIZ)I" } : Jvm.MethodName) ({ cls := "CutBureau", name := "find", desc := "(IIZ)I" } : Jvm.MethodName)) ∈ lw_tbl := inT3 (List.mem_of_getElem? (i := 123) rfl)
set_option maxRecDepth 100000 in
theorem wd_665 : (Jvm.Cond.code ({ cls := "CutBureau", name := "find", desc := "(IIZ)I" } : Jvm.MethodName) prog_1_method_23_code (6 : Nat) (Option.some Jvm.ClassFile.FieldType.int)) ∈ lw_tbl := inT3 (List.mem_of_getElem? (i := 124) rfl)
set_option maxRecDepth 100000 in
theorem wd_669 : (Jvm.Cond.methodLink "CutBureauLaw" (108 : Nat) ({ cls := "CutBureau", name := "misses", desc := "(IIII)I" } : Jvm.MethodName)) ∈ lw_tbl := inT3 (List.mem_of_getElem? (i := 128) rfl)
set_option maxRecDepth 100000 in
theorem wd_670 : (Jvm.Cond.instanceMethod ({ cls := "CutBureau", name := "misses", desc := "(IIII)I" } : Jvm.MethodName)) ∈ lw_tbl := inT3 (List.mem_of_getElem? (i := 129) rfl)
set_option maxRecDepth 100000 in
theorem wd_671 : (Jvm.Cond.selects "CutBureau" ({ cls := "CutBureau", name := "misses", desc := "(IIII)I" } : Jvm.MethodName) ({ cls := "CutBureau", name := "misses", desc := "(IIII)I" } : Jvm.MethodName)) ∈ lw_tbl := inT3 (List.mem_of_getElem? (i := 130) rfl)
set_option maxRecDepth 100000 in
theorem wd_672 : (Jvm.Cond.code ({ cls := "CutBureau", name := "misses", desc := "(IIII)I" } : Jvm.MethodName) prog_1_method_24_code (9 : Nat) (Option.some Jvm.ClassFile.FieldType.int)) ∈ lw_tbl := inT3 (List.mem_of_getElem? (i := 131) rfl)
set_option maxRecDepth 100000 in
theorem wd_676 : (Jvm.Cond.methodLink "CutBureauLaw" (113 : Nat) ({ cls := "CutBureau", name := "reader", desc := "(III)I" } : Jvm.MethodName)) ∈ lw_tbl := inT3 (List.mem_of_getElem? (i := 135) rfl)
set_option maxRecDepth 100000 in
theorem wd_677 : (Jvm.Cond.instanceMethod ({ cls := "CutBureau", name := "reader", desc := "(III)I" } : Jvm.MethodName)) ∈ lw_tbl := inT3 (List.mem_of_getElem? (i := 136) rfl)
set_option maxRecDepth 100000 in
theorem wd_678 : (Jvm.Cond.selects "CutBureau" ({ cls := "CutBureau", name := "reader", desc := "(III)I" } : Jvm.MethodName) ({ cls := "CutBureau", name := "reader", desc := "(III)I" } : Jvm.MethodName)) ∈ lw_tbl := inT3 (List.mem_of_getElem? (i := 137) rfl)
set_option maxRecDepth 100000 in
theorem wd_679 : (Jvm.Cond.code ({ cls := "CutBureau", name := "reader", desc := "(III)I" } : Jvm.MethodName) prog_1_method_25_code (6 : Nat) (Option.some Jvm.ClassFile.FieldType.int)) ∈ lw_tbl := inT3 (List.mem_of_getElem? (i := 138) rfl)
set_option maxRecDepth 100000 in
theorem wd_680 : (Jvm.Cond.methodLink "CutBureauLaw" (117 : Nat) ({ cls := "CutBureau", name := "slips", desc := "(III)I" } : Jvm.MethodName)) ∈ lw_tbl := inT3 (List.mem_of_getElem? (i := 139) rfl)
set_option maxRecDepth 100000 in
theorem wd_681 : (Jvm.Cond.instanceMethod ({ cls := "CutBureau", name := "slips", desc := "(III)I" } : Jvm.MethodName)) ∈ lw_tbl := inT3 (List.mem_of_getElem? (i := 140) rfl)
set_option maxRecDepth 100000 in
theorem wd_682 : (Jvm.Cond.selects "CutBureau" ({ cls := "CutBureau", name := "slips", desc := "(III)I" } : Jvm.MethodName) ({ cls := "CutBureau", name := "slips", desc := "(III)I" } : Jvm.MethodName)) ∈ lw_tbl := inT3 (List.mem_of_getElem? (i := 141) rfl)
set_option maxRecDepth 100000 in
theorem wd_683 : (Jvm.Cond.code ({ cls := "CutBureau", name := "slips", desc := "(III)I" } : Jvm.MethodName) prog_1_method_26_code (5 : Nat) (Option.some Jvm.ClassFile.FieldType.int)) ∈ lw_tbl := inT3 (List.mem_of_getElem? (i := 142) rfl)
set_option maxRecDepth 100000 in
theorem wd_684 : (Jvm.Cond.methodLink "CutBureauLaw" (121 : Nat) ({ cls := "CutBureau", name := "parted", desc := "(II)I" } : Jvm.MethodName)) ∈ lw_tbl := inT3 (List.mem_of_getElem? (i := 143) rfl)
set_option maxRecDepth 100000 in
theorem wd_685 : (Jvm.Cond.instanceMethod ({ cls := "CutBureau", name := "parted", desc := "(II)I" } : Jvm.MethodName)) ∈ lw_tbl := inT3 (List.mem_of_getElem? (i := 144) rfl)
set_option maxRecDepth 100000 in
theorem wd_686 : (Jvm.Cond.selects "CutBureau" ({ cls := "CutBureau", name := "parted", desc := "(II)I" } : Jvm.MethodName) ({ cls := "CutBureau", name := "parted", desc := "(II)I" } : Jvm.MethodName)) ∈ lw_tbl := inT3 (List.mem_of_getElem? (i := 145) rfl)
set_option maxRecDepth 100000 in
theorem wd_687 : (Jvm.Cond.code ({ cls := "CutBureau", name := "parted", desc := "(II)I" } : Jvm.MethodName) prog_1_method_27_code (5 : Nat) (Option.some Jvm.ClassFile.FieldType.int)) ∈ lw_tbl := inT3 (List.mem_of_getElem? (i := 146) rfl)
set_option maxRecDepth 100000 in
theorem wd_718 : (Jvm.Cond.methodLink "CutBureauLaw" (125 : Nat) ({ cls := "CutBureau", name := "send", desc := "(II)I" } : Jvm.MethodName)) ∈ lw_tbl := inT3 (List.mem_of_getElem? (i := 177) rfl)
set_option maxRecDepth 100000 in
theorem wd_719 : (Jvm.Cond.instanceMethod ({ cls := "CutBureau", name := "send", desc := "(II)I" } : Jvm.MethodName)) ∈ lw_tbl := inT3 (List.mem_of_getElem? (i := 178) rfl)
set_option maxRecDepth 100000 in
theorem wd_720 : (Jvm.Cond.selects "CutBureau" ({ cls := "CutBureau", name := "send", desc := "(II)I" } : Jvm.MethodName) ({ cls := "CutBureau", name := "send", desc := "(II)I" } : Jvm.MethodName)) ∈ lw_tbl := inT3 (List.mem_of_getElem? (i := 179) rfl)
set_option maxRecDepth 100000 in
theorem wd_721 : (Jvm.Cond.code ({ cls := "CutBureau", name := "send", desc := "(II)I" } : Jvm.MethodName) prog_1_method_28_code (5 : Nat) (Option.some Jvm.ClassFile.FieldType.int)) ∈ lw_tbl := inT3 (List.mem_of_getElem? (i := 180) rfl)
set_option maxRecDepth 100000 in
theorem wd_726 : (Jvm.Cond.methodLink "CutBureauLaw" (129 : Nat) ({ cls := "CutBureau", name := "miss", desc := "(I)I" } : Jvm.MethodName)) ∈ lw_tbl := inT3 (List.mem_of_getElem? (i := 185) rfl)
set_option maxRecDepth 100000 in
theorem wd_727 : (Jvm.Cond.instanceMethod ({ cls := "CutBureau", name := "miss", desc := "(I)I" } : Jvm.MethodName)) ∈ lw_tbl := inT3 (List.mem_of_getElem? (i := 186) rfl)
set_option maxRecDepth 100000 in
theorem wd_728 : (Jvm.Cond.selects "CutBureau" ({ cls := "CutBureau", name := "miss", desc := "(I)I" } : Jvm.MethodName) ({ cls := "CutBureau", name := "miss", desc := "(I)I" } : Jvm.MethodName)) ∈ lw_tbl := inT3 (List.mem_of_getElem? (i := 187) rfl)
set_option maxRecDepth 100000 in
theorem wd_729 : (Jvm.Cond.code ({ cls := "CutBureau", name := "miss", desc := "(I)I" } : Jvm.MethodName) prog_1_method_29_code (2 : Nat) (Option.some Jvm.ClassFile.FieldType.int)) ∈ lw_tbl := inT3 (List.mem_of_getElem? (i := 188) rfl)
set_option maxRecDepth 100000 in
theorem wd_730 : (Jvm.Cond.methodLink "CutBureauLaw" (133 : Nat) ({ cls := "CutBureau", name := "bill", desc := "(II)I" } : Jvm.MethodName)) ∈ lw_tbl := inT3 (List.mem_of_getElem? (i := 189) rfl)
set_option maxRecDepth 100000 in
theorem wd_731 : (Jvm.Cond.instanceMethod ({ cls := "CutBureau", name := "bill", desc := "(II)I" } : Jvm.MethodName)) ∈ lw_tbl := inT3 (List.mem_of_getElem? (i := 190) rfl)
set_option maxRecDepth 100000 in
theorem wd_732 : (Jvm.Cond.selects "CutBureau" ({ cls := "CutBureau", name := "bill", desc := "(II)I" } : Jvm.MethodName) ({ cls := "CutBureau", name := "bill", desc := "(II)I" } : Jvm.MethodName)) ∈ lw_tbl := inT3 (List.mem_of_getElem? (i := 191) rfl)
set_option maxRecDepth 100000 in
theorem wd_733 : (Jvm.Cond.code ({ cls := "CutBureau", name := "bill", desc := "(II)I" } : Jvm.MethodName) prog_1_method_30_code (3 : Nat) (Option.some Jvm.ClassFile.FieldType.int)) ∈ lw_tbl := inT3 (List.mem_of_getElem? (i := 192) rfl)
set_option maxRecDepth 100000 in
theorem wd_744 : (Jvm.Cond.methodLink "CutBureauLaw" (137 : Nat) ({ cls := "CutBureau", name := "file", desc := "(II)I" } : Jvm.MethodName)) ∈ lw_tbl := inT3 (List.mem_of_getElem? (i := 203) rfl)
set_option maxRecDepth 100000 in
theorem wd_745 : (Jvm.Cond.instanceMethod ({ cls := "CutBureau", name := "file", desc := "(II)I" } : Jvm.MethodName)) ∈ lw_tbl := inT3 (List.mem_of_getElem? (i := 204) rfl)
set_option maxRecDepth 100000 in
theorem wd_746 : (Jvm.Cond.selects "CutBureau" ({ cls := "CutBureau", name := "file", desc := "(II)I" } : Jvm.MethodName) ({ cls := "CutBureau", name := "file", desc := "(II)I" } : Jvm.MethodName)) ∈ lw_tbl := inT3 (List.mem_of_getElem? (i := 205) rfl)
set_option maxRecDepth 100000 in
theorem wd_747 : (Jvm.Cond.code ({ cls := "CutBureau", name := "file", desc := "(II)I" } : Jvm.MethodName) prog_1_method_31_code (5 : Nat) (Option.some Jvm.ClassFile.FieldType.int)) ∈ lw_tbl := inT3 (List.mem_of_getElem? (i := 206) rfl)
set_option maxRecDepth 100000 in
theorem wd_748 : (Jvm.Cond.methodLink "CutBureauLaw" (141 : Nat) ({ cls := "CutBureau", name := "old", desc := "(IIII)I" } : Jvm.MethodName)) ∈ lw_tbl := inT3 (List.mem_of_getElem? (i := 207) rfl)
set_option maxRecDepth 100000 in
theorem wd_749 : (Jvm.Cond.instanceMethod ({ cls := "CutBureau", name := "old", desc := "(IIII)I" } : Jvm.MethodName)) ∈ lw_tbl := inT3 (List.mem_of_getElem? (i := 208) rfl)
set_option maxRecDepth 100000 in
theorem wd_750 : (Jvm.Cond.selects "CutBureau" ({ cls := "CutBureau", name := "old", desc := "(IIII)I" } : Jvm.MethodName) ({ cls := "CutBureau", name := "old", desc := "(IIII)I" } : Jvm.MethodName)) ∈ lw_tbl := inT3 (List.mem_of_getElem? (i := 209) rfl)
set_option maxRecDepth 100000 in
theorem wd_751 : (Jvm.Cond.code ({ cls := "CutBureau", name := "old", desc := "(IIII)I" } : Jvm.MethodName) prog_1_method_32_code (8 : Nat) (Option.some Jvm.ClassFile.FieldType.int)) ∈ lw_tbl := inT3 (List.mem_of_getElem? (i := 210) rfl)
set_option maxRecDepth 100000 in
theorem wd_752 : (Jvm.Cond.methodLink "CutBureauLaw" (145 : Nat) ({ cls := "CutBureau", name := "told", desc := "(I)I" } : Jvm.MethodName)) ∈ lw_tbl := inT3 (List.mem_of_getElem? (i := 211) rfl)
set_option maxRecDepth 100000 in
theorem wd_753 : (Jvm.Cond.instanceMethod ({ cls := "CutBureau", name := "told", desc := "(I)I" } : Jvm.MethodName)) ∈ lw_tbl := inT3 (List.mem_of_getElem? (i := 212) rfl)
set_option maxRecDepth 100000 in
theorem wd_754 : (Jvm.Cond.selects "CutBureau" ({ cls := "CutBureau", name := "told", desc := "(I)I" } : Jvm.MethodName) ({ cls := "CutBureau", name := "told", desc := "(I)I" } : Jvm.MethodName)) ∈ lw_tbl := inT3 (List.mem_of_getElem? (i := 213) rfl)
set_option maxRecDepth 100000 in
theorem wd_755 : (Jvm.Cond.code ({ cls := "CutBureau", name := "told", desc := "(I)I" } : Jvm.MethodName) prog_1_method_33_code (2 : Nat) (Option.some Jvm.ClassFile.FieldType.int)) ∈ lw_tbl := inT3 (List.mem_of_getElem? (i := 214) rfl)
set_option maxRecDepth 100000 in
theorem wd_764 : (Jvm.Cond.classLink "CutBureauLaw" (10 : Nat) "CutBureauModel") ∈ lw_tbl := inT3 (List.mem_of_getElem? (i := 223) rfl)
set_option maxRecDepth 100000 in
theorem wd_765 : (Jvm.Cond.instantiable "CutBureauModel" (51 : Nat)) ∈ lw_tbl := inT3 (List.mem_of_getElem? (i := 224) rfl)
set_option maxRecDepth 100000 in
theorem wd_766 : (Jvm.Cond.methodLink "CutBureauLaw" (12 : Nat) ({ cls := "CutBureauModel", name := "<init>", desc := "()V" } : Jvm.MethodName)) ∈ lw_tbl := inT3 (List.mem_of_getElem? (i := 225) rfl)
set_option maxRecDepth 100000 in
theorem wd_767 : (Jvm.Cond.instanceMethod ({ cls := "CutBureauModel", name := "<init>", desc := "()V" } : Jvm.MethodName)) ∈ lw_tbl := inT3 (List.mem_of_getElem? (i := 226) rfl)
set_option maxRecDepth 100000 in
theorem wd_768 : (Jvm.Cond.code ({ cls := "CutBureauModel", name := "<init>", desc := "()V" } : Jvm.MethodName) prog_12_method_1_code (2 : Nat) (Option.none : Option Jvm.ClassFile.FieldType)) ∈ lw_tbl := inT3 (List.mem_of_getElem? (i := 227) rfl)
set_option maxRecDepth 100000 in
theorem wd_925 : (Jvm.Cond.methodLink "CutBureauLaw" (17 : Nat) ({ cls := "CutBureauModel", name := "page", desc := "(II)I" } : Jvm.MethodName)) ∈ lw_tbl := inT4 (List.mem_of_getElem? (i := 144) rfl)
set_option maxRecDepth 100000 in
theorem wd_926 : (Jvm.Cond.instanceMethod ({ cls := "CutBureauModel", name := "page", desc := "(II)I" } : Jvm.MethodName)) ∈ lw_tbl := inT4 (List.mem_of_getElem? (i := 145) rfl)
set_option maxRecDepth 100000 in
theorem wd_927 : (Jvm.Cond.selects "CutBureauModel" ({ cls := "CutBureauModel", name := "page", desc := "(II)I" } : Jvm.MethodName) ({ cls := "CutBureauModel", name := "page", desc := "(II)I" } : Jvm.MethodName)) ∈ lw_tbl := inT4 (List.mem_of_getElem? (i := 146) rfl)
set_option maxRecDepth 100000 in
theorem wd_928 : (Jvm.Cond.code ({ cls := "CutBureauModel", name := "page", desc := "(II)I" } : Jvm.MethodName) prog_12_method_7_code (3 : Nat) (Option.some Jvm.ClassFile.FieldType.int)) ∈ lw_tbl := inT4 (List.mem_of_getElem? (i := 147) rfl)
set_option maxRecDepth 100000 in
theorem wd_937 : (Jvm.Cond.methodLink "CutBureauLaw" (22 : Nat) ({ cls := "CutBureauModel", name := "write", desc := "(III)I" } : Jvm.MethodName)) ∈ lw_tbl := inT4 (List.mem_of_getElem? (i := 156) rfl)
set_option maxRecDepth 100000 in
theorem wd_938 : (Jvm.Cond.instanceMethod ({ cls := "CutBureauModel", name := "write", desc := "(III)I" } : Jvm.MethodName)) ∈ lw_tbl := inT4 (List.mem_of_getElem? (i := 157) rfl)
set_option maxRecDepth 100000 in
theorem wd_939 : (Jvm.Cond.selects "CutBureauModel" ({ cls := "CutBureauModel", name := "write", desc := "(III)I" } : Jvm.MethodName) ({ cls := "CutBureauModel", name := "write", desc := "(III)I" } : Jvm.MethodName)) ∈ lw_tbl := inT4 (List.mem_of_getElem? (i := 158) rfl)
set_option maxRecDepth 100000 in
theorem wd_940 : (Jvm.Cond.code ({ cls := "CutBureauModel", name := "write", desc := "(III)I" } : Jvm.MethodName) prog_12_method_9_code (5 : Nat) (Option.some Jvm.ClassFile.FieldType.int)) ∈ lw_tbl := inT4 (List.mem_of_getElem? (i := 159) rfl)
set_option maxRecDepth 100000 in
theorem wd_951 : (Jvm.Cond.methodLink "CutBureauLaw" (26 : Nat) ({ cls := "CutBureauModel", name := "sides", desc := "(II)I" } : Jvm.MethodName)) ∈ lw_tbl := inT4 (List.mem_of_getElem? (i := 170) rfl)
set_option maxRecDepth 100000 in
theorem wd_952 : (Jvm.Cond.instanceMethod ({ cls := "CutBureauModel", name := "sides", desc := "(II)I" } : Jvm.MethodName)) ∈ lw_tbl := inT4 (List.mem_of_getElem? (i := 171) rfl)
set_option maxRecDepth 100000 in
theorem wd_953 : (Jvm.Cond.selects "CutBureauModel" ({ cls := "CutBureauModel", name := "sides", desc := "(II)I" } : Jvm.MethodName) ({ cls := "CutBureauModel", name := "sides", desc := "(II)I" } : Jvm.MethodName)) ∈ lw_tbl := inT4 (List.mem_of_getElem? (i := 172) rfl)
set_option maxRecDepth 100000 in
theorem wd_954 : (Jvm.Cond.code ({ cls := "CutBureauModel", name := "sides", desc := "(II)I" } : Jvm.MethodName) prog_12_method_10_code (3 : Nat) (Option.some Jvm.ClassFile.FieldType.int)) ∈ lw_tbl := inT4 (List.mem_of_getElem? (i := 173) rfl)
set_option maxRecDepth 100000 in
theorem wd_955 : (Jvm.Cond.methodLink "CutBureauLaw" (30 : Nat) ({ cls := "CutBureauModel", name := "ofPage", desc := "(II)I" } : Jvm.MethodName)) ∈ lw_tbl := inT4 (List.mem_of_getElem? (i := 174) rfl)
set_option maxRecDepth 100000 in
theorem wd_956 : (Jvm.Cond.instanceMethod ({ cls := "CutBureauModel", name := "ofPage", desc := "(II)I" } : Jvm.MethodName)) ∈ lw_tbl := inT4 (List.mem_of_getElem? (i := 175) rfl)
set_option maxRecDepth 100000 in
theorem wd_957 : (Jvm.Cond.selects "CutBureauModel" ({ cls := "CutBureauModel", name := "ofPage", desc := "(II)I" } : Jvm.MethodName) ({ cls := "CutBureauModel", name := "ofPage", desc := "(II)I" } : Jvm.MethodName)) ∈ lw_tbl := inT4 (List.mem_of_getElem? (i := 176) rfl)
set_option maxRecDepth 100000 in
theorem wd_958 : (Jvm.Cond.code ({ cls := "CutBureauModel", name := "ofPage", desc := "(II)I" } : Jvm.MethodName) prog_12_method_11_code (5 : Nat) (Option.some Jvm.ClassFile.FieldType.int)) ∈ lw_tbl := inT4 (List.mem_of_getElem? (i := 177) rfl)
set_option maxRecDepth 100000 in
theorem wd_961 : (Jvm.Cond.methodLink "CutBureauLaw" (35 : Nat) ({ cls := "CutBureauModel", name := "piece", desc := "(IIIII)I" } : Jvm.MethodName)) ∈ lw_tbl := inT4 (List.mem_of_getElem? (i := 180) rfl)
set_option maxRecDepth 100000 in
theorem wd_962 : (Jvm.Cond.instanceMethod ({ cls := "CutBureauModel", name := "piece", desc := "(IIIII)I" } : Jvm.MethodName)) ∈ lw_tbl := inT4 (List.mem_of_getElem? (i := 181) rfl)
set_option maxRecDepth 100000 in
theorem wd_963 : (Jvm.Cond.selects "CutBureauModel" ({ cls := "CutBureauModel", name := "piece", desc := "(IIIII)I" } : Jvm.MethodName) ({ cls := "CutBureauModel", name := "piece", desc := "(IIIII)I" } : Jvm.MethodName)) ∈ lw_tbl := inT4 (List.mem_of_getElem? (i := 182) rfl)
set_option maxRecDepth 100000 in
theorem wd_964 : (Jvm.Cond.code ({ cls := "CutBureauModel", name := "piece", desc := "(IIIII)I" } : Jvm.MethodName) prog_12_method_12_code (6 : Nat) (Option.some Jvm.ClassFile.FieldType.int)) ∈ lw_tbl := inT4 (List.mem_of_getElem? (i := 183) rfl)
set_option maxRecDepth 100000 in
theorem wd_966 : (Jvm.Cond.methodLink "CutBureauLaw" (39 : Nat) ({ cls := "CutBureauModel", name := "about", desc := "(II)I" } : Jvm.MethodName)) ∈ lw_tbl := inT4 (List.mem_of_getElem? (i := 185) rfl)
set_option maxRecDepth 100000 in
theorem wd_967 : (Jvm.Cond.instanceMethod ({ cls := "CutBureauModel", name := "about", desc := "(II)I" } : Jvm.MethodName)) ∈ lw_tbl := inT4 (List.mem_of_getElem? (i := 186) rfl)
set_option maxRecDepth 100000 in
theorem wd_968 : (Jvm.Cond.selects "CutBureauModel" ({ cls := "CutBureauModel", name := "about", desc := "(II)I" } : Jvm.MethodName) ({ cls := "CutBureauModel", name := "about", desc := "(II)I" } : Jvm.MethodName)) ∈ lw_tbl := inT4 (List.mem_of_getElem? (i := 187) rfl)
set_option maxRecDepth 100000 in
theorem wd_969 : (Jvm.Cond.code ({ cls := "CutBureauModel", name := "about", desc := "(II)I" } : Jvm.MethodName) prog_12_method_15_code (3 : Nat) (Option.some Jvm.ClassFile.FieldType.int)) ∈ lw_tbl := inT4 (List.mem_of_getElem? (i := 188) rfl)
set_option maxRecDepth 100000 in
theorem wd_1006 : (Jvm.Cond.methodLink "CutBureauLaw" (43 : Nat) ({ cls := "CutBureauModel", name := "word", desc := "(II)I" } : Jvm.MethodName)) ∈ lw_tbl := inT4 (List.mem_of_getElem? (i := 225) rfl)
set_option maxRecDepth 100000 in
theorem wd_1007 : (Jvm.Cond.instanceMethod ({ cls := "CutBureauModel", name := "word", desc := "(II)I" } : Jvm.MethodName)) ∈ lw_tbl := inT4 (List.mem_of_getElem? (i := 226) rfl)
set_option maxRecDepth 100000 in
theorem wd_1008 : (Jvm.Cond.selects "CutBureauModel" ({ cls := "CutBureauModel", name := "word", desc := "(II)I" } : Jvm.MethodName) ({ cls := "CutBureauModel", name := "word", desc := "(II)I" } : Jvm.MethodName)) ∈ lw_tbl := inT4 (List.mem_of_getElem? (i := 227) rfl)
set_option maxRecDepth 100000 in
theorem wd_1009 : (Jvm.Cond.code ({ cls := "CutBureauModel", name := "word", desc := "(II)I" } : Jvm.MethodName) prog_12_method_16_code (3 : Nat) (Option.some Jvm.ClassFile.FieldType.int)) ∈ lw_tbl := inT4 (List.mem_of_getElem? (i := 228) rfl)
set_option maxRecDepth 100000 in
theorem wd_1010 : (Jvm.Cond.methodLink "CutBureauLaw" (47 : Nat) ({ cls := "CutBureauModel", name := "clash", desc := "(II)I" } : Jvm.MethodName)) ∈ lw_tbl := inT4 (List.mem_of_getElem? (i := 229) rfl)
set_option maxRecDepth 100000 in
theorem wd_1011 : (Jvm.Cond.instanceMethod ({ cls := "CutBureauModel", name := "clash", desc := "(II)I" } : Jvm.MethodName)) ∈ lw_tbl := inT4 (List.mem_of_getElem? (i := 230) rfl)
set_option maxRecDepth 100000 in
theorem wd_1012 : (Jvm.Cond.selects "CutBureauModel" ({ cls := "CutBureauModel", name := "clash", desc := "(II)I" } : Jvm.MethodName) ({ cls := "CutBureauModel", name := "clash", desc := "(II)I" } : Jvm.MethodName)) ∈ lw_tbl := inT4 (List.mem_of_getElem? (i := 231) rfl)
set_option maxRecDepth 100000 in
theorem wd_1013 : (Jvm.Cond.code ({ cls := "CutBureauModel", name := "clash", desc := "(II)I" } : Jvm.MethodName) prog_12_method_18_code (3 : Nat) (Option.some Jvm.ClassFile.FieldType.int)) ∈ lw_tbl := inT4 (List.mem_of_getElem? (i := 232) rfl)
set_option maxRecDepth 100000 in
theorem wd_1018 : (Jvm.Cond.methodLink "CutBureauLaw" (52 : Nat) ({ cls := "CutBureauModel", name := "say", desc := "(I)I" } : Jvm.MethodName)) ∈ lw_tbl := inT4 (List.mem_of_getElem? (i := 237) rfl)
set_option maxRecDepth 100000 in
theorem wd_1019 : (Jvm.Cond.instanceMethod ({ cls := "CutBureauModel", name := "say", desc := "(I)I" } : Jvm.MethodName)) ∈ lw_tbl := inT4 (List.mem_of_getElem? (i := 238) rfl)
set_option maxRecDepth 100000 in
theorem wd_1020 : (Jvm.Cond.selects "CutBureauModel" ({ cls := "CutBureauModel", name := "say", desc := "(I)I" } : Jvm.MethodName) ({ cls := "CutBureauModel", name := "say", desc := "(I)I" } : Jvm.MethodName)) ∈ lw_tbl := inT4 (List.mem_of_getElem? (i := 239) rfl)
set_option maxRecDepth 100000 in
theorem wd_1021 : (Jvm.Cond.code ({ cls := "CutBureauModel", name := "say", desc := "(I)I" } : Jvm.MethodName) prog_12_method_19_code (2 : Nat) (Option.some Jvm.ClassFile.FieldType.int)) ∈ lw_tbl := inT5 (List.mem_of_getElem? (i := 0) rfl)
set_option maxRecDepth 100000 in
theorem wd_1024 : (Jvm.Cond.methodLink "CutBureauLaw" (57 : Nat) ({ cls := "CutBureauModel", name := "wipe", desc := "()I" } : Jvm.MethodName)) ∈ lw_tbl := inT5 (List.mem_of_getElem? (i := 3) rfl)
set_option maxRecDepth 100000 in
theorem wd_1025 : (Jvm.Cond.instanceMethod ({ cls := "CutBureauModel", name := "wipe", desc := "()I" } : Jvm.MethodName)) ∈ lw_tbl := inT5 (List.mem_of_getElem? (i := 4) rfl)
set_option maxRecDepth 100000 in
theorem wd_1026 : (Jvm.Cond.selects "CutBureauModel" ({ cls := "CutBureauModel", name := "wipe", desc := "()I" } : Jvm.MethodName) ({ cls := "CutBureauModel", name := "wipe", desc := "()I" } : Jvm.MethodName)) ∈ lw_tbl := inT5 (List.mem_of_getElem? (i := 5) rfl)
set_option maxRecDepth 100000 in
theorem wd_1027 : (Jvm.Cond.code ({ cls := "CutBureauModel", name := "wipe", desc := "()I" } : Jvm.MethodName) prog_12_method_20_code (2 : Nat) (Option.some Jvm.ClassFile.FieldType.int)) ∈ lw_tbl := inT5 (List.mem_of_getElem? (i := 6) rfl)
set_option maxRecDepth 100000 in
theorem wd_1028 : (Jvm.Cond.methodLink "CutBureauLaw" (61 : Nat) ({ cls := "CutBureauModel", name := "fault", desc := "()I" } : Jvm.MethodName)) ∈ lw_tbl := inT5 (List.mem_of_getElem? (i := 7) rfl)
set_option maxRecDepth 100000 in
theorem wd_1040 : (Jvm.Cond.methodLink "CutBureauLaw" (66 : Nat) ({ cls := "CutBureauModel", name := "order", desc := "(IIIIIZ)I" } : Jvm.MethodName)) ∈ lw_tbl := inT5 (List.mem_of_getElem? (i := 19) rfl)
set_option maxRecDepth 100000 in
theorem wd_1041 : (Jvm.Cond.instanceMethod ({ cls := "CutBureauModel", name := "order", desc := "(IIIIIZ)I" } : Jvm.MethodName)) ∈ lw_tbl := inT5 (List.mem_of_getElem? (i := 20) rfl)
set_option maxRecDepth 100000 in
theorem wd_1042 : (Jvm.Cond.selects "CutBureauModel" ({ cls := "CutBureauModel", name := "order", desc := "(IIIIIZ)I" } : Jvm.MethodName) ({ cls := "CutBureauModel", name := "order", desc := "(IIIIIZ)I" } : Jvm.MethodName)) ∈ lw_tbl := inT5 (List.mem_of_getElem? (i := 21) rfl)
set_option maxRecDepth 100000 in
theorem wd_1043 : (Jvm.Cond.code ({ cls := "CutBureauModel", name := "order", desc := "(IIIIIZ)I" } : Jvm.MethodName) prog_12_method_24_code (8 : Nat) (Option.some Jvm.ClassFile.FieldType.int)) ∈ lw_tbl := inT5 (List.mem_of_getElem? (i := 22) rfl)
set_option maxRecDepth 100000 in
theorem wd_1047 : (Jvm.Cond.methodLink "CutBureauLaw" (70 : Nat) ({ cls := "CutBureauModel", name := "wants", desc := "(III)I" } : Jvm.MethodName)) ∈ lw_tbl := inT5 (List.mem_of_getElem? (i := 26) rfl)
set_option maxRecDepth 100000 in
theorem wd_1048 : (Jvm.Cond.instanceMethod ({ cls := "CutBureauModel", name := "wants", desc := "(III)I" } : Jvm.MethodName)) ∈ lw_tbl := inT5 (List.mem_of_getElem? (i := 27) rfl)
set_option maxRecDepth 100000 in
theorem wd_1049 : (Jvm.Cond.selects "CutBureauModel" ({ cls := "CutBureauModel", name := "wants", desc := "(III)I" } : Jvm.MethodName) ({ cls := "CutBureauModel", name := "wants", desc := "(III)I" } : Jvm.MethodName)) ∈ lw_tbl := inT5 (List.mem_of_getElem? (i := 28) rfl)
set_option maxRecDepth 100000 in
theorem wd_1050 : (Jvm.Cond.code ({ cls := "CutBureauModel", name := "wants", desc := "(III)I" } : Jvm.MethodName) prog_12_method_34_code (5 : Nat) (Option.some Jvm.ClassFile.FieldType.int)) ∈ lw_tbl := inT5 (List.mem_of_getElem? (i := 29) rfl)
set_option maxRecDepth 100000 in
theorem wd_1087 : (Jvm.Cond.methodLink "CutBureauLaw" (74 : Nat) ({ cls := "CutBureauModel", name := "changes", desc := "(II)I" } : Jvm.MethodName)) ∈ lw_tbl := inT5 (List.mem_of_getElem? (i := 66) rfl)
set_option maxRecDepth 100000 in
theorem wd_1088 : (Jvm.Cond.instanceMethod ({ cls := "CutBureauModel", name := "changes", desc := "(II)I" } : Jvm.MethodName)) ∈ lw_tbl := inT5 (List.mem_of_getElem? (i := 67) rfl)
set_option maxRecDepth 100000 in
theorem wd_1089 : (Jvm.Cond.selects "CutBureauModel" ({ cls := "CutBureauModel", name := "changes", desc := "(II)I" } : Jvm.MethodName) ({ cls := "CutBureauModel", name := "changes", desc := "(II)I" } : Jvm.MethodName)) ∈ lw_tbl := inT5 (List.mem_of_getElem? (i := 68) rfl)
set_option maxRecDepth 100000 in
theorem wd_1090 : (Jvm.Cond.code ({ cls := "CutBureauModel", name := "changes", desc := "(II)I" } : Jvm.MethodName) prog_12_method_36_code (3 : Nat) (Option.some Jvm.ClassFile.FieldType.int)) ∈ lw_tbl := inT5 (List.mem_of_getElem? (i := 69) rfl)
set_option maxRecDepth 100000 in
theorem wd_1091 : (Jvm.Cond.methodLink "CutBureauLaw" (78 : Nat) ({ cls := "CutBureauModel", name := "set", desc := "(II)I" } : Jvm.MethodName)) ∈ lw_tbl := inT5 (List.mem_of_getElem? (i := 70) rfl)
set_option maxRecDepth 100000 in
theorem wd_1092 : (Jvm.Cond.instanceMethod ({ cls := "CutBureauModel", name := "set", desc := "(II)I" } : Jvm.MethodName)) ∈ lw_tbl := inT5 (List.mem_of_getElem? (i := 71) rfl)
set_option maxRecDepth 100000 in
theorem wd_1093 : (Jvm.Cond.selects "CutBureauModel" ({ cls := "CutBureauModel", name := "set", desc := "(II)I" } : Jvm.MethodName) ({ cls := "CutBureauModel", name := "set", desc := "(II)I" } : Jvm.MethodName)) ∈ lw_tbl := inT5 (List.mem_of_getElem? (i := 72) rfl)
set_option maxRecDepth 100000 in
theorem wd_1094 : (Jvm.Cond.code ({ cls := "CutBureauModel", name := "set", desc := "(II)I" } : Jvm.MethodName) prog_12_method_44_code (4 : Nat) (Option.some Jvm.ClassFile.FieldType.int)) ∈ lw_tbl := inT5 (List.mem_of_getElem? (i := 73) rfl)
set_option maxRecDepth 100000 in
theorem wd_1102 : (Jvm.Cond.methodLink "CutBureauLaw" (82 : Nat) ({ cls := "CutBureauModel", name := "list", desc := "(III)I" } : Jvm.MethodName)) ∈ lw_tbl := inT5 (List.mem_of_getElem? (i := 81) rfl)
set_option maxRecDepth 100000 in
theorem wd_1103 : (Jvm.Cond.instanceMethod ({ cls := "CutBureauModel", name := "list", desc := "(III)I" } : Jvm.MethodName)) ∈ lw_tbl := inT5 (List.mem_of_getElem? (i := 82) rfl)
set_option maxRecDepth 100000 in
theorem wd_1104 : (Jvm.Cond.selects "CutBureauModel" ({ cls := "CutBureauModel", name := "list", desc := "(III)I" } : Jvm.MethodName) ({ cls := "CutBureauModel", name := "list", desc := "(III)I" } : Jvm.MethodName)) ∈ lw_tbl := inT5 (List.mem_of_getElem? (i := 83) rfl)
set_option maxRecDepth 100000 in
theorem wd_1105 : (Jvm.Cond.code ({ cls := "CutBureauModel", name := "list", desc := "(III)I" } : Jvm.MethodName) prog_12_method_47_code (4 : Nat) (Option.some Jvm.ClassFile.FieldType.int)) ∈ lw_tbl := inT5 (List.mem_of_getElem? (i := 84) rfl)
set_option maxRecDepth 100000 in
theorem wd_1114 : (Jvm.Cond.methodLink "CutBureauLaw" (86 : Nat) ({ cls := "CutBureauModel", name := "name", desc := "(II)I" } : Jvm.MethodName)) ∈ lw_tbl := inT5 (List.mem_of_getElem? (i := 93) rfl)
set_option maxRecDepth 100000 in
theorem wd_1115 : (Jvm.Cond.instanceMethod ({ cls := "CutBureauModel", name := "name", desc := "(II)I" } : Jvm.MethodName)) ∈ lw_tbl := inT5 (List.mem_of_getElem? (i := 94) rfl)
set_option maxRecDepth 100000 in
theorem wd_1116 : (Jvm.Cond.selects "CutBureauModel" ({ cls := "CutBureauModel", name := "name", desc := "(II)I" } : Jvm.MethodName) ({ cls := "CutBureauModel", name := "name", desc := "(II)I" } : Jvm.MethodName)) ∈ lw_tbl := inT5 (List.mem_of_getElem? (i := 95) rfl)
set_option maxRecDepth 100000 in
theorem wd_1117 : (Jvm.Cond.code ({ cls := "CutBureauModel", name := "name", desc := "(II)I" } : Jvm.MethodName) prog_12_method_49_code (4 : Nat) (Option.some Jvm.ClassFile.FieldType.int)) ∈ lw_tbl := inT5 (List.mem_of_getElem? (i := 96) rfl)
set_option maxRecDepth 100000 in
theorem wd_1122 : (Jvm.Cond.methodLink "CutBureauLaw" (90 : Nat) ({ cls := "CutBureauModel", name := "counts", desc := "(III)I" } : Jvm.MethodName)) ∈ lw_tbl := inT5 (List.mem_of_getElem? (i := 101) rfl)
set_option maxRecDepth 100000 in
theorem wd_1123 : (Jvm.Cond.instanceMethod ({ cls := "CutBureauModel", name := "counts", desc := "(III)I" } : Jvm.MethodName)) ∈ lw_tbl := inT5 (List.mem_of_getElem? (i := 102) rfl)
set_option maxRecDepth 100000 in
theorem wd_1124 : (Jvm.Cond.selects "CutBureauModel" ({ cls := "CutBureauModel", name := "counts", desc := "(III)I" } : Jvm.MethodName) ({ cls := "CutBureauModel", name := "counts", desc := "(III)I" } : Jvm.MethodName)) ∈ lw_tbl := inT5 (List.mem_of_getElem? (i := 103) rfl)
set_option maxRecDepth 100000 in
theorem wd_1125 : (Jvm.Cond.code ({ cls := "CutBureauModel", name := "counts", desc := "(III)I" } : Jvm.MethodName) prog_12_method_50_code (5 : Nat) (Option.some Jvm.ClassFile.FieldType.int)) ∈ lw_tbl := inT5 (List.mem_of_getElem? (i := 104) rfl)
set_option maxRecDepth 100000 in
theorem wd_1127 : (Jvm.Cond.methodLink "CutBureauLaw" (94 : Nat) ({ cls := "CutBureauModel", name := "likely", desc := "(III)I" } : Jvm.MethodName)) ∈ lw_tbl := inT5 (List.mem_of_getElem? (i := 106) rfl)
set_option maxRecDepth 100000 in
theorem wd_1128 : (Jvm.Cond.instanceMethod ({ cls := "CutBureauModel", name := "likely", desc := "(III)I" } : Jvm.MethodName)) ∈ lw_tbl := inT5 (List.mem_of_getElem? (i := 107) rfl)
set_option maxRecDepth 100000 in
theorem wd_1129 : (Jvm.Cond.selects "CutBureauModel" ({ cls := "CutBureauModel", name := "likely", desc := "(III)I" } : Jvm.MethodName) ({ cls := "CutBureauModel", name := "likely", desc := "(III)I" } : Jvm.MethodName)) ∈ lw_tbl := inT5 (List.mem_of_getElem? (i := 108) rfl)
set_option maxRecDepth 100000 in
theorem wd_1130 : (Jvm.Cond.code ({ cls := "CutBureauModel", name := "likely", desc := "(III)I" } : Jvm.MethodName) prog_12_method_52_code (7 : Nat) (Option.some Jvm.ClassFile.FieldType.int)) ∈ lw_tbl := inT5 (List.mem_of_getElem? (i := 109) rfl)
set_option maxRecDepth 100000 in
theorem wd_1136 : (Jvm.Cond.methodLink "CutBureauLaw" (98 : Nat) ({ cls := "CutBureauModel", name := "asked", desc := "(II)I" } : Jvm.MethodName)) ∈ lw_tbl := inT5 (List.mem_of_getElem? (i := 115) rfl)
set_option maxRecDepth 100000 in
theorem wd_1137 : (Jvm.Cond.instanceMethod ({ cls := "CutBureauModel", name := "asked", desc := "(II)I" } : Jvm.MethodName)) ∈ lw_tbl := inT5 (List.mem_of_getElem? (i := 116) rfl)
set_option maxRecDepth 100000 in
theorem wd_1138 : (Jvm.Cond.selects "CutBureauModel" ({ cls := "CutBureauModel", name := "asked", desc := "(II)I" } : Jvm.MethodName) ({ cls := "CutBureauModel", name := "asked", desc := "(II)I" } : Jvm.MethodName)) ∈ lw_tbl := inT5 (List.mem_of_getElem? (i := 117) rfl)
set_option maxRecDepth 100000 in
theorem wd_1139 : (Jvm.Cond.code ({ cls := "CutBureauModel", name := "asked", desc := "(II)I" } : Jvm.MethodName) prog_12_method_54_code (3 : Nat) (Option.some Jvm.ClassFile.FieldType.int)) ∈ lw_tbl := inT5 (List.mem_of_getElem? (i := 118) rfl)
set_option maxRecDepth 100000 in
theorem wd_1144 : (Jvm.Cond.methodLink "CutBureauLaw" (102 : Nat) ({ cls := "CutBureauModel", name := "served", desc := "(III)I" } : Jvm.MethodName)) ∈ lw_tbl := inT5 (List.mem_of_getElem? (i := 123) rfl)
set_option maxRecDepth 100000 in
theorem wd_1145 : (Jvm.Cond.instanceMethod ({ cls := "CutBureauModel", name := "served", desc := "(III)I" } : Jvm.MethodName)) ∈ lw_tbl := inT5 (List.mem_of_getElem? (i := 124) rfl)
set_option maxRecDepth 100000 in
theorem wd_1146 : (Jvm.Cond.selects "CutBureauModel" ({ cls := "CutBureauModel", name := "served", desc := "(III)I" } : Jvm.MethodName) ({ cls := "CutBureauModel", name := "served", desc := "(III)I" } : Jvm.MethodName)) ∈ lw_tbl := inT5 (List.mem_of_getElem? (i := 125) rfl)
set_option maxRecDepth 100000 in
theorem wd_1147 : (Jvm.Cond.code ({ cls := "CutBureauModel", name := "served", desc := "(III)I" } : Jvm.MethodName) prog_12_method_58_code (9 : Nat) (Option.some Jvm.ClassFile.FieldType.int)) ∈ lw_tbl := inT5 (List.mem_of_getElem? (i := 126) rfl)
set_option maxRecDepth 100000 in
theorem wd_1160 : (Jvm.Cond.methodLink "CutBureauLaw" (107 : Nat) ({ cls := "CutBureauModel", name := "find", desc := "(IIZ)I" } : Jvm.MethodName)) ∈ lw_tbl := inT5 (List.mem_of_getElem? (i := 139) rfl)
set_option maxRecDepth 100000 in
theorem wd_1161 : (Jvm.Cond.instanceMethod ({ cls := "CutBureauModel", name := "find", desc := "(IIZ)I" } : Jvm.MethodName)) ∈ lw_tbl := inT5 (List.mem_of_getElem? (i := 140) rfl)
set_option maxRecDepth 100000 in
theorem wd_1162 : (Jvm.Cond.selects "CutBureauModel" ({ cls := "CutBureauModel", name := "find", desc := "(IIZ)I" } : Jvm.MethodName) ({ cls := "CutBureauModel", name := "find", desc := "(IIZ)I" } : Jvm.MethodName)) ∈ lw_tbl := inT5 (List.mem_of_getElem? (i := 141) rfl)
set_option maxRecDepth 100000 in
theorem wd_1163 : (Jvm.Cond.code ({ cls := "CutBureauModel", name := "find", desc := "(IIZ)I" } : Jvm.MethodName) prog_12_method_60_code (5 : Nat) (Option.some Jvm.ClassFile.FieldType.int)) ∈ lw_tbl := inT5 (List.mem_of_getElem? (i := 142) rfl)
set_option maxRecDepth 100000 in
theorem wd_1167 : (Jvm.Cond.methodLink "CutBureauLaw" (112 : Nat) ({ cls := "CutBureauModel", name := "misses", desc := "(IIII)I" } : Jvm.MethodName)) ∈ lw_tbl := inT5 (List.mem_of_getElem? (i := 146) rfl)
set_option maxRecDepth 100000 in
theorem wd_1168 : (Jvm.Cond.instanceMethod ({ cls := "CutBureauModel", name := "misses", desc := "(IIII)I" } : Jvm.MethodName)) ∈ lw_tbl := inT5 (List.mem_of_getElem? (i := 147) rfl)
set_option maxRecDepth 100000 in
theorem wd_1169 : (Jvm.Cond.selects "CutBureauModel" ({ cls := "CutBureauModel", name := "misses", desc := "(IIII)I" } : Jvm.MethodName) ({ cls := "CutBureauModel", name := "misses", desc := "(IIII)I" } : Jvm.MethodName)) ∈ lw_tbl := inT5 (List.mem_of_getElem? (i := 148) rfl)
set_option maxRecDepth 100000 in
theorem wd_1170 : (Jvm.Cond.code ({ cls := "CutBureauModel", name := "misses", desc := "(IIII)I" } : Jvm.MethodName) prog_12_method_63_code (8 : Nat) (Option.some Jvm.ClassFile.FieldType.int)) ∈ lw_tbl := inT5 (List.mem_of_getElem? (i := 149) rfl)
set_option maxRecDepth 100000 in
theorem wd_1178 : (Jvm.Cond.methodLink "CutBureauLaw" (116 : Nat) ({ cls := "CutBureauModel", name := "reader", desc := "(III)I" } : Jvm.MethodName)) ∈ lw_tbl := inT5 (List.mem_of_getElem? (i := 157) rfl)
set_option maxRecDepth 100000 in
theorem wd_1179 : (Jvm.Cond.instanceMethod ({ cls := "CutBureauModel", name := "reader", desc := "(III)I" } : Jvm.MethodName)) ∈ lw_tbl := inT5 (List.mem_of_getElem? (i := 158) rfl)
set_option maxRecDepth 100000 in
theorem wd_1180 : (Jvm.Cond.selects "CutBureauModel" ({ cls := "CutBureauModel", name := "reader", desc := "(III)I" } : Jvm.MethodName) ({ cls := "CutBureauModel", name := "reader", desc := "(III)I" } : Jvm.MethodName)) ∈ lw_tbl := inT5 (List.mem_of_getElem? (i := 159) rfl)
set_option maxRecDepth 100000 in
theorem wd_1181 : (Jvm.Cond.code ({ cls := "CutBureauModel", name := "reader", desc := "(III)I" } : Jvm.MethodName) prog_12_method_64_code (5 : Nat) (Option.some Jvm.ClassFile.FieldType.int)) ∈ lw_tbl := inT5 (List.mem_of_getElem? (i := 160) rfl)
set_option maxRecDepth 100000 in
theorem wd_1183 : (Jvm.Cond.methodLink "CutBureauLaw" (120 : Nat) ({ cls := "CutBureauModel", name := "slips", desc := "(III)I" } : Jvm.MethodName)) ∈ lw_tbl := inT5 (List.mem_of_getElem? (i := 162) rfl)
set_option maxRecDepth 100000 in
theorem wd_1184 : (Jvm.Cond.instanceMethod ({ cls := "CutBureauModel", name := "slips", desc := "(III)I" } : Jvm.MethodName)) ∈ lw_tbl := inT5 (List.mem_of_getElem? (i := 163) rfl)
set_option maxRecDepth 100000 in
theorem wd_1185 : (Jvm.Cond.selects "CutBureauModel" ({ cls := "CutBureauModel", name := "slips", desc := "(III)I" } : Jvm.MethodName) ({ cls := "CutBureauModel", name := "slips", desc := "(III)I" } : Jvm.MethodName)) ∈ lw_tbl := inT5 (List.mem_of_getElem? (i := 164) rfl)
set_option maxRecDepth 100000 in
theorem wd_1186 : (Jvm.Cond.code ({ cls := "CutBureauModel", name := "slips", desc := "(III)I" } : Jvm.MethodName) prog_12_method_65_code (5 : Nat) (Option.some Jvm.ClassFile.FieldType.int)) ∈ lw_tbl := inT5 (List.mem_of_getElem? (i := 165) rfl)
set_option maxRecDepth 100000 in
theorem wd_1187 : (Jvm.Cond.methodLink "CutBureauLaw" (124 : Nat) ({ cls := "CutBureauModel", name := "parted", desc := "(II)I" } : Jvm.MethodName)) ∈ lw_tbl := inT5 (List.mem_of_getElem? (i := 166) rfl)
set_option maxRecDepth 100000 in
theorem wd_1188 : (Jvm.Cond.instanceMethod ({ cls := "CutBureauModel", name := "parted", desc := "(II)I" } : Jvm.MethodName)) ∈ lw_tbl := inT5 (List.mem_of_getElem? (i := 167) rfl)
set_option maxRecDepth 100000 in
theorem wd_1189 : (Jvm.Cond.selects "CutBureauModel" ({ cls := "CutBureauModel", name := "parted", desc := "(II)I" } : Jvm.MethodName) ({ cls := "CutBureauModel", name := "parted", desc := "(II)I" } : Jvm.MethodName)) ∈ lw_tbl := inT5 (List.mem_of_getElem? (i := 168) rfl)
set_option maxRecDepth 100000 in
theorem wd_1190 : (Jvm.Cond.code ({ cls := "CutBureauModel", name := "parted", desc := "(II)I" } : Jvm.MethodName) prog_12_method_68_code (7 : Nat) (Option.some Jvm.ClassFile.FieldType.int)) ∈ lw_tbl := inT5 (List.mem_of_getElem? (i := 169) rfl)
set_option maxRecDepth 100000 in
theorem wd_1200 : (Jvm.Cond.methodLink "CutBureauLaw" (128 : Nat) ({ cls := "CutBureauModel", name := "send", desc := "(II)I" } : Jvm.MethodName)) ∈ lw_tbl := inT5 (List.mem_of_getElem? (i := 179) rfl)
set_option maxRecDepth 100000 in
theorem wd_1201 : (Jvm.Cond.instanceMethod ({ cls := "CutBureauModel", name := "send", desc := "(II)I" } : Jvm.MethodName)) ∈ lw_tbl := inT5 (List.mem_of_getElem? (i := 180) rfl)
set_option maxRecDepth 100000 in
theorem wd_1202 : (Jvm.Cond.selects "CutBureauModel" ({ cls := "CutBureauModel", name := "send", desc := "(II)I" } : Jvm.MethodName) ({ cls := "CutBureauModel", name := "send", desc := "(II)I" } : Jvm.MethodName)) ∈ lw_tbl := inT5 (List.mem_of_getElem? (i := 181) rfl)
set_option maxRecDepth 100000 in
theorem wd_1203 : (Jvm.Cond.code ({ cls := "CutBureauModel", name := "send", desc := "(II)I" } : Jvm.MethodName) prog_12_method_70_code (3 : Nat) (Option.some Jvm.ClassFile.FieldType.int)) ∈ lw_tbl := inT5 (List.mem_of_getElem? (i := 182) rfl)
set_option maxRecDepth 100000 in
theorem wd_1208 : (Jvm.Cond.methodLink "CutBureauLaw" (132 : Nat) ({ cls := "CutBureauModel", name := "miss", desc := "(I)I" } : Jvm.MethodName)) ∈ lw_tbl := inT5 (List.mem_of_getElem? (i := 187) rfl)
set_option maxRecDepth 100000 in
theorem wd_1209 : (Jvm.Cond.instanceMethod ({ cls := "CutBureauModel", name := "miss", desc := "(I)I" } : Jvm.MethodName)) ∈ lw_tbl := inT5 (List.mem_of_getElem? (i := 188) rfl)
set_option maxRecDepth 100000 in
theorem wd_1210 : (Jvm.Cond.selects "CutBureauModel" ({ cls := "CutBureauModel", name := "miss", desc := "(I)I" } : Jvm.MethodName) ({ cls := "CutBureauModel", name := "miss", desc := "(I)I" } : Jvm.MethodName)) ∈ lw_tbl := inT5 (List.mem_of_getElem? (i := 189) rfl)
set_option maxRecDepth 100000 in
theorem wd_1211 : (Jvm.Cond.code ({ cls := "CutBureauModel", name := "miss", desc := "(I)I" } : Jvm.MethodName) prog_12_method_71_code (2 : Nat) (Option.some Jvm.ClassFile.FieldType.int)) ∈ lw_tbl := inT5 (List.mem_of_getElem? (i := 190) rfl)
set_option maxRecDepth 100000 in
theorem wd_1212 : (Jvm.Cond.methodLink "CutBureauLaw" (136 : Nat) ({ cls := "CutBureauModel", name := "bill", desc := "(II)I" } : Jvm.MethodName)) ∈ lw_tbl := inT5 (List.mem_of_getElem? (i := 191) rfl)
set_option maxRecDepth 100000 in
theorem wd_1213 : (Jvm.Cond.instanceMethod ({ cls := "CutBureauModel", name := "bill", desc := "(II)I" } : Jvm.MethodName)) ∈ lw_tbl := inT5 (List.mem_of_getElem? (i := 192) rfl)
set_option maxRecDepth 100000 in
theorem wd_1214 : (Jvm.Cond.selects "CutBureauModel" ({ cls := "CutBureauModel", name := "bill", desc := "(II)I" } : Jvm.MethodName) ({ cls := "CutBureauModel", name := "bill", desc := "(II)I" } : Jvm.MethodName)) ∈ lw_tbl := inT5 (List.mem_of_getElem? (i := 193) rfl)
set_option maxRecDepth 100000 in
theorem wd_1215 : (Jvm.Cond.code ({ cls := "CutBureauModel", name := "bill", desc := "(II)I" } : Jvm.MethodName) prog_12_method_73_code (8 : Nat) (Option.some Jvm.ClassFile.FieldType.int)) ∈ lw_tbl := inT5 (List.mem_of_getElem? (i := 194) rfl)
set_option maxRecDepth 100000 in
theorem wd_1220 : (Jvm.Cond.methodLink "CutBureauLaw" (140 : Nat) ({ cls := "CutBureauModel", name := "file", desc := "(II)I" } : Jvm.MethodName)) ∈ lw_tbl := inT5 (List.mem_of_getElem? (i := 199) rfl)
set_option maxRecDepth 100000 in
theorem wd_1221 : (Jvm.Cond.instanceMethod ({ cls := "CutBureauModel", name := "file", desc := "(II)I" } : Jvm.MethodName)) ∈ lw_tbl := inT5 (List.mem_of_getElem? (i := 200) rfl)
set_option maxRecDepth 100000 in
theorem wd_1222 : (Jvm.Cond.selects "CutBureauModel" ({ cls := "CutBureauModel", name := "file", desc := "(II)I" } : Jvm.MethodName) ({ cls := "CutBureauModel", name := "file", desc := "(II)I" } : Jvm.MethodName)) ∈ lw_tbl := inT5 (List.mem_of_getElem? (i := 201) rfl)
set_option maxRecDepth 100000 in
theorem wd_1223 : (Jvm.Cond.code ({ cls := "CutBureauModel", name := "file", desc := "(II)I" } : Jvm.MethodName) prog_12_method_74_code (4 : Nat) (Option.some Jvm.ClassFile.FieldType.int)) ∈ lw_tbl := inT5 (List.mem_of_getElem? (i := 202) rfl)
set_option maxRecDepth 100000 in
theorem wd_1225 : (Jvm.Cond.methodLink "CutBureauLaw" (144 : Nat) ({ cls := "CutBureauModel", name := "old", desc := "(IIII)I" } : Jvm.MethodName)) ∈ lw_tbl := inT5 (List.mem_of_getElem? (i := 204) rfl)
set_option maxRecDepth 100000 in
theorem wd_1226 : (Jvm.Cond.instanceMethod ({ cls := "CutBureauModel", name := "old", desc := "(IIII)I" } : Jvm.MethodName)) ∈ lw_tbl := inT5 (List.mem_of_getElem? (i := 205) rfl)
set_option maxRecDepth 100000 in
theorem wd_1227 : (Jvm.Cond.selects "CutBureauModel" ({ cls := "CutBureauModel", name := "old", desc := "(IIII)I" } : Jvm.MethodName) ({ cls := "CutBureauModel", name := "old", desc := "(IIII)I" } : Jvm.MethodName)) ∈ lw_tbl := inT5 (List.mem_of_getElem? (i := 206) rfl)
set_option maxRecDepth 100000 in
theorem wd_1228 : (Jvm.Cond.code ({ cls := "CutBureauModel", name := "old", desc := "(IIII)I" } : Jvm.MethodName) prog_12_method_76_code (9 : Nat) (Option.some Jvm.ClassFile.FieldType.int)) ∈ lw_tbl := inT5 (List.mem_of_getElem? (i := 207) rfl)
set_option maxRecDepth 100000 in
theorem wd_1233 : (Jvm.Cond.methodLink "CutBureauLaw" (148 : Nat) ({ cls := "CutBureauModel", name := "told", desc := "(I)I" } : Jvm.MethodName)) ∈ lw_tbl := inT5 (List.mem_of_getElem? (i := 212) rfl)
set_option maxRecDepth 100000 in
theorem wd_1234 : (Jvm.Cond.instanceMethod ({ cls := "CutBureauModel", name := "told", desc := "(I)I" } : Jvm.MethodName)) ∈ lw_tbl := inT5 (List.mem_of_getElem? (i := 213) rfl)
set_option maxRecDepth 100000 in
theorem wd_1235 : (Jvm.Cond.selects "CutBureauModel" ({ cls := "CutBureauModel", name := "told", desc := "(I)I" } : Jvm.MethodName) ({ cls := "CutBureauModel", name := "told", desc := "(I)I" } : Jvm.MethodName)) ∈ lw_tbl := inT5 (List.mem_of_getElem? (i := 214) rfl)
set_option maxRecDepth 100000 in
theorem wd_1236 : (Jvm.Cond.code ({ cls := "CutBureauModel", name := "told", desc := "(I)I" } : Jvm.MethodName) prog_12_method_77_code (4 : Nat) (Option.some Jvm.ClassFile.FieldType.int)) ∈ lw_tbl := inT5 (List.mem_of_getElem? (i := 215) rfl)
theorem lk_L_13 : LkV RL 13 yX9_page cX9_page 3 (some .int) 2 := ⟨mG (wd_261) rfl, mG (wd_262) rfl, mG (wd_263) rfl, mG (wd_62) rfl, mG (wd_264) rfl, ⟨by decide, by decide, by decide +kernel⟩⟩
theorem lk_L_17 : LkV RL 17 yX10_page cX10_page 3 (some .int) 2 := ⟨mG (wd_925) rfl, mG (wd_926) rfl, mG (wd_927) rfl, mG (wd_69) rfl, mG (wd_928) rfl, ⟨by decide, by decide, by decide +kernel⟩⟩
theorem lk_L_18 : LkV RL 18 yX9_write cX9_write 6 (some .int) 3 := ⟨mG (wd_301) rfl, mG (wd_302) rfl, mG (wd_303) rfl, mG (wd_62) rfl, mG (wd_304) rfl, ⟨by decide, by decide, by decide +kernel⟩⟩
theorem lk_L_22 : LkV RL 22 yX10_write cX10_write 5 (some .int) 3 := ⟨mG (wd_937) rfl, mG (wd_938) rfl, mG (wd_939) rfl, mG (wd_69) rfl, mG (wd_940) rfl, ⟨by decide, by decide, by decide +kernel⟩⟩
theorem lk_L_23 : LkV RL 23 yX9_sides cX9_sides 5 (some .int) 2 := ⟨mG (wd_324) rfl, mG (wd_325) rfl, mG (wd_326) rfl, mG (wd_62) rfl, mG (wd_327) rfl, ⟨by decide, by decide, by decide +kernel⟩⟩
theorem lk_L_26 : LkV RL 26 yX10_sides cX10_sides 3 (some .int) 2 := ⟨mG (wd_951) rfl, mG (wd_952) rfl, mG (wd_953) rfl, mG (wd_69) rfl, mG (wd_954) rfl, ⟨by decide, by decide, by decide +kernel⟩⟩
theorem lk_L_27 : LkV RL 27 yX9_ofPage cX9_ofPage 4 (some .int) 2 := ⟨mG (wd_328) rfl, mG (wd_329) rfl, mG (wd_330) rfl, mG (wd_62) rfl, mG (wd_331) rfl, ⟨by decide, by decide, by decide +kernel⟩⟩
theorem lk_L_30 : LkV RL 30 yX10_ofPage cX10_ofPage 5 (some .int) 2 := ⟨mG (wd_955) rfl, mG (wd_956) rfl, mG (wd_957) rfl, mG (wd_69) rfl, mG (wd_958) rfl, ⟨by decide, by decide, by decide +kernel⟩⟩
theorem lk_L_31 : LkV RL 31 yX9_piece cX9_piece 8 (some .int) 5 := ⟨mG (wd_336) rfl, mG (wd_337) rfl, mG (wd_338) rfl, mG (wd_62) rfl, mG (wd_339) rfl, ⟨by decide, by decide, by decide +kernel⟩⟩
theorem lk_L_35 : LkV RL 35 yX10_piece cX10_piece 6 (some .int) 5 := ⟨mG (wd_961) rfl, mG (wd_962) rfl, mG (wd_963) rfl, mG (wd_69) rfl, mG (wd_964) rfl, ⟨by decide, by decide, by decide +kernel⟩⟩
theorem lk_L_36 : LkV RL 36 yX9_about cX9_about 4 (some .int) 2 := ⟨mG (wd_409) rfl, mG (wd_410) rfl, mG (wd_411) rfl, mG (wd_62) rfl, mG (wd_412) rfl, ⟨by decide, by decide, by decide +kernel⟩⟩
theorem lk_L_39 : LkV RL 39 yX10_about cX10_about 3 (some .int) 2 := ⟨mG (wd_966) rfl, mG (wd_967) rfl, mG (wd_968) rfl, mG (wd_69) rfl, mG (wd_969) rfl, ⟨by decide, by decide, by decide +kernel⟩⟩
theorem lk_L_40 : LkV RL 40 yX9_word cX9_word 4 (some .int) 2 := ⟨mG (wd_439) rfl, mG (wd_440) rfl, mG (wd_441) rfl, mG (wd_62) rfl, mG (wd_442) rfl, ⟨by decide, by decide, by decide +kernel⟩⟩
theorem lk_L_43 : LkV RL 43 yX10_word cX10_word 3 (some .int) 2 := ⟨mG (wd_1006) rfl, mG (wd_1007) rfl, mG (wd_1008) rfl, mG (wd_69) rfl, mG (wd_1009) rfl, ⟨by decide, by decide, by decide +kernel⟩⟩
theorem lk_L_44 : LkV RL 44 yX9_clash cX9_clash 5 (some .int) 2 := ⟨mG (wd_443) rfl, mG (wd_444) rfl, mG (wd_445) rfl, mG (wd_62) rfl, mG (wd_446) rfl, ⟨by decide, by decide, by decide +kernel⟩⟩
theorem lk_L_47 : LkV RL 47 yX10_clash cX10_clash 3 (some .int) 2 := ⟨mG (wd_1010) rfl, mG (wd_1011) rfl, mG (wd_1012) rfl, mG (wd_69) rfl, mG (wd_1013) rfl, ⟨by decide, by decide, by decide +kernel⟩⟩
theorem lk_L_48 : LkV RL 48 yX9_say cX9_say 2 (some .int) 1 := ⟨mG (wd_452) rfl, mG (wd_453) rfl, mG (wd_454) rfl, mG (wd_62) rfl, mG (wd_455) rfl, ⟨by decide, by decide, by decide +kernel⟩⟩
theorem lk_L_52 : LkV RL 52 yX10_say cX10_say 2 (some .int) 1 := ⟨mG (wd_1018) rfl, mG (wd_1019) rfl, mG (wd_1020) rfl, mG (wd_69) rfl, mG (wd_1021) rfl, ⟨by decide, by decide, by decide +kernel⟩⟩
theorem lk_L_53 : LkV RL 53 yX9_wipe cX9_wipe 2 (some .int) 0 := ⟨mG (wd_456) rfl, mG (wd_457) rfl, mG (wd_458) rfl, mG (wd_62) rfl, mG (wd_459) rfl, ⟨by decide, by decide, by decide +kernel⟩⟩
theorem lk_L_57 : LkV RL 57 yX10_wipe cX10_wipe 2 (some .int) 0 := ⟨mG (wd_1024) rfl, mG (wd_1025) rfl, mG (wd_1026) rfl, mG (wd_69) rfl, mG (wd_1027) rfl, ⟨by decide, by decide, by decide +kernel⟩⟩
theorem lk_L_58 : LkV RL 58 yX9_fault cX9_fault 1 (some .int) 0 := ⟨mG (wd_460) rfl, mG (wd_461) rfl, mG (wd_462) rfl, mG (wd_62) rfl, mG (wd_463) rfl, ⟨by decide, by decide, by decide +kernel⟩⟩
theorem lk_L_61 : LkV RL 61 yX10_fault cX10_fault 5 (some .int) 0 := ⟨mG (wd_1028) rfl, mG (wd_1029) rfl, mG (wd_1030) rfl, mG (wd_69) rfl, mG (wd_1031) rfl, ⟨by decide, by decide, by decide +kernel⟩⟩
theorem lk_L_62 : LkV RL 62 yX9_order cX9_order 7 (some .int) 6 := ⟨mG (wd_477) rfl, mG (wd_478) rfl, mG (wd_479) rfl, mG (wd_62) rfl, mG (wd_480) rfl, ⟨by decide, by decide, by decide +kernel⟩⟩
theorem lk_L_66 : LkV RL 66 yX10_order cX10_order 8 (some .int) 6 := ⟨mG (wd_1040) rfl, mG (wd_1041) rfl, mG (wd_1042) rfl, mG (wd_69) rfl, mG (wd_1043) rfl, ⟨by decide, by decide, by decide +kernel⟩⟩
theorem lk_L_67 : LkV RL 67 yX9_wants cX9_wants 6 (some .int) 3 := ⟨mG (wd_515) rfl, mG (wd_516) rfl, mG (wd_517) rfl, mG (wd_62) rfl, mG (wd_518) rfl, ⟨by decide, by decide, by decide +kernel⟩⟩
theorem lk_L_70 : LkV RL 70 yX10_wants cX10_wants 5 (some .int) 3 := ⟨mG (wd_1047) rfl, mG (wd_1048) rfl, mG (wd_1049) rfl, mG (wd_69) rfl, mG (wd_1050) rfl, ⟨by decide, by decide, by decide +kernel⟩⟩
theorem lk_L_71 : LkV RL 71 yX9_changes cX9_changes 5 (some .int) 2 := ⟨mG (wd_564) rfl, mG (wd_565) rfl, mG (wd_566) rfl, mG (wd_62) rfl, mG (wd_567) rfl, ⟨by decide, by decide, by decide +kernel⟩⟩
theorem lk_L_74 : LkV RL 74 yX10_changes cX10_changes 3 (some .int) 2 := ⟨mG (wd_1087) rfl, mG (wd_1088) rfl, mG (wd_1089) rfl, mG (wd_69) rfl, mG (wd_1090) rfl, ⟨by decide, by decide, by decide +kernel⟩⟩
theorem lk_L_75 : LkV RL 75 yX9_set cX9_set 4 (some .int) 2 := ⟨mG (wd_569) rfl, mG (wd_570) rfl, mG (wd_571) rfl, mG (wd_62) rfl, mG (wd_572) rfl, ⟨by decide, by decide, by decide +kernel⟩⟩
theorem lk_L_78 : LkV RL 78 yX10_set cX10_set 4 (some .int) 2 := ⟨mG (wd_1091) rfl, mG (wd_1092) rfl, mG (wd_1093) rfl, mG (wd_69) rfl, mG (wd_1094) rfl, ⟨by decide, by decide, by decide +kernel⟩⟩
theorem lk_L_79 : LkV RL 79 yX9_list cX9_list 5 (some .int) 3 := ⟨mG (wd_577) rfl, mG (wd_578) rfl, mG (wd_579) rfl, mG (wd_62) rfl, mG (wd_580) rfl, ⟨by decide, by decide, by decide +kernel⟩⟩
theorem lk_L_82 : LkV RL 82 yX10_list cX10_list 4 (some .int) 3 := ⟨mG (wd_1102) rfl, mG (wd_1103) rfl, mG (wd_1104) rfl, mG (wd_69) rfl, mG (wd_1105) rfl, ⟨by decide, by decide, by decide +kernel⟩⟩
theorem lk_L_83 : LkV RL 83 yX9_name cX9_name 4 (some .int) 2 := ⟨mG (wd_586) rfl, mG (wd_587) rfl, mG (wd_588) rfl, mG (wd_62) rfl, mG (wd_589) rfl, ⟨by decide, by decide, by decide +kernel⟩⟩
theorem lk_L_86 : LkV RL 86 yX10_name cX10_name 4 (some .int) 2 := ⟨mG (wd_1114) rfl, mG (wd_1115) rfl, mG (wd_1116) rfl, mG (wd_69) rfl, mG (wd_1117) rfl, ⟨by decide, by decide, by decide +kernel⟩⟩
theorem lk_L_87 : LkV RL 87 yX9_counts cX9_counts 5 (some .int) 3 := ⟨mG (wd_593) rfl, mG (wd_594) rfl, mG (wd_595) rfl, mG (wd_62) rfl, mG (wd_596) rfl, ⟨by decide, by decide, by decide +kernel⟩⟩
theorem lk_L_90 : LkV RL 90 yX10_counts cX10_counts 5 (some .int) 3 := ⟨mG (wd_1122) rfl, mG (wd_1123) rfl, mG (wd_1124) rfl, mG (wd_69) rfl, mG (wd_1125) rfl, ⟨by decide, by decide, by decide +kernel⟩⟩
theorem lk_L_91 : LkV RL 91 yX9_likely cX9_likely 7 (some .int) 3 := ⟨mG (wd_597) rfl, mG (wd_598) rfl, mG (wd_599) rfl, mG (wd_62) rfl, mG (wd_600) rfl, ⟨by decide, by decide, by decide +kernel⟩⟩
theorem lk_L_94 : LkV RL 94 yX10_likely cX10_likely 7 (some .int) 3 := ⟨mG (wd_1127) rfl, mG (wd_1128) rfl, mG (wd_1129) rfl, mG (wd_69) rfl, mG (wd_1130) rfl, ⟨by decide, by decide, by decide +kernel⟩⟩
theorem lk_L_95 : LkV RL 95 yX9_asked cX9_asked 4 (some .int) 2 := ⟨mG (wd_617) rfl, mG (wd_618) rfl, mG (wd_619) rfl, mG (wd_62) rfl, mG (wd_620) rfl, ⟨by decide, by decide, by decide +kernel⟩⟩
theorem lk_L_98 : LkV RL 98 yX10_asked cX10_asked 3 (some .int) 2 := ⟨mG (wd_1136) rfl, mG (wd_1137) rfl, mG (wd_1138) rfl, mG (wd_69) rfl, mG (wd_1139) rfl, ⟨by decide, by decide, by decide +kernel⟩⟩
theorem lk_L_99 : LkV RL 99 yX9_served cX9_served 6 (some .int) 3 := ⟨mG (wd_629) rfl, mG (wd_630) rfl, mG (wd_631) rfl, mG (wd_62) rfl, mG (wd_632) rfl, ⟨by decide, by decide, by decide +kernel⟩⟩
theorem lk_L_102 : LkV RL 102 yX10_served cX10_served 9 (some .int) 3 := ⟨mG (wd_1144) rfl, mG (wd_1145) rfl, mG (wd_1146) rfl, mG (wd_69) rfl, mG (wd_1147) rfl, ⟨by decide, by decide, by decide +kernel⟩⟩
theorem lk_L_103 : LkV RL 103 yX9_find cX9_find 6 (some .int) 3 := ⟨mG (wd_662) rfl, mG (wd_663) rfl, mG (wd_664) rfl, mG (wd_62) rfl, mG (wd_665) rfl, ⟨by decide, by decide, by decide +kernel⟩⟩
theorem lk_L_107 : LkV RL 107 yX10_find cX10_find 5 (some .int) 3 := ⟨mG (wd_1160) rfl, mG (wd_1161) rfl, mG (wd_1162) rfl, mG (wd_69) rfl, mG (wd_1163) rfl, ⟨by decide, by decide, by decide +kernel⟩⟩
theorem lk_L_108 : LkV RL 108 yX9_misses cX9_misses 9 (some .int) 4 := ⟨mG (wd_669) rfl, mG (wd_670) rfl, mG (wd_671) rfl, mG (wd_62) rfl, mG (wd_672) rfl, ⟨by decide, by decide, by decide +kernel⟩⟩
theorem lk_L_112 : LkV RL 112 yX10_misses cX10_misses 8 (some .int) 4 := ⟨mG (wd_1167) rfl, mG (wd_1168) rfl, mG (wd_1169) rfl, mG (wd_69) rfl, mG (wd_1170) rfl, ⟨by decide, by decide, by decide +kernel⟩⟩
theorem lk_L_113 : LkV RL 113 yX9_reader cX9_reader 6 (some .int) 3 := ⟨mG (wd_676) rfl, mG (wd_677) rfl, mG (wd_678) rfl, mG (wd_62) rfl, mG (wd_679) rfl, ⟨by decide, by decide, by decide +kernel⟩⟩
theorem lk_L_116 : LkV RL 116 yX10_reader cX10_reader 5 (some .int) 3 := ⟨mG (wd_1178) rfl, mG (wd_1179) rfl, mG (wd_1180) rfl, mG (wd_69) rfl, mG (wd_1181) rfl, ⟨by decide, by decide, by decide +kernel⟩⟩
theorem lk_L_117 : LkV RL 117 yX9_slips cX9_slips 5 (some .int) 3 := ⟨mG (wd_680) rfl, mG (wd_681) rfl, mG (wd_682) rfl, mG (wd_62) rfl, mG (wd_683) rfl, ⟨by decide, by decide, by decide +kernel⟩⟩
theorem lk_L_120 : LkV RL 120 yX10_slips cX10_slips 5 (some .int) 3 := ⟨mG (wd_1183) rfl, mG (wd_1184) rfl, mG (wd_1185) rfl, mG (wd_69) rfl, mG (wd_1186) rfl, ⟨by decide, by decide, by decide +kernel⟩⟩
theorem lk_L_121 : LkV RL 121 yX9_parted cX9_parted 5 (some .int) 2 := ⟨mG (wd_684) rfl, mG (wd_685) rfl, mG (wd_686) rfl, mG (wd_62) rfl, mG (wd_687) rfl, ⟨by decide, by decide, by decide +kernel⟩⟩
theorem lk_L_124 : LkV RL 124 yX10_parted cX10_parted 7 (some .int) 2 := ⟨mG (wd_1187) rfl, mG (wd_1188) rfl, mG (wd_1189) rfl, mG (wd_69) rfl, mG (wd_1190) rfl, ⟨by decide, by decide, by decide +kernel⟩⟩
theorem lk_L_125 : LkV RL 125 yX9_send cX9_send 5 (some .int) 2 := ⟨mG (wd_718) rfl, mG (wd_719) rfl, mG (wd_720) rfl, mG (wd_62) rfl, mG (wd_721) rfl, ⟨by decide, by decide, by decide +kernel⟩⟩
theorem lk_L_128 : LkV RL 128 yX10_send cX10_send 3 (some .int) 2 := ⟨mG (wd_1200) rfl, mG (wd_1201) rfl, mG (wd_1202) rfl, mG (wd_69) rfl, mG (wd_1203) rfl, ⟨by decide, by decide, by decide +kernel⟩⟩
theorem lk_L_129 : LkV RL 129 yX9_miss cX9_miss 2 (some .int) 1 := ⟨mG (wd_726) rfl, mG (wd_727) rfl, mG (wd_728) rfl, mG (wd_62) rfl, mG (wd_729) rfl, ⟨by decide, by decide, by decide +kernel⟩⟩
theorem lk_L_132 : LkV RL 132 yX10_miss cX10_miss 2 (some .int) 1 := ⟨mG (wd_1208) rfl, mG (wd_1209) rfl, mG (wd_1210) rfl, mG (wd_69) rfl, mG (wd_1211) rfl, ⟨by decide, by decide, by decide +kernel⟩⟩
theorem lk_L_133 : LkV RL 133 yX9_bill cX9_bill 3 (some .int) 2 := ⟨mG (wd_730) rfl, mG (wd_731) rfl, mG (wd_732) rfl, mG (wd_62) rfl, mG (wd_733) rfl, ⟨by decide, by decide, by decide +kernel⟩⟩
theorem lk_L_136 : LkV RL 136 yX10_bill cX10_bill 8 (some .int) 2 := ⟨mG (wd_1212) rfl, mG (wd_1213) rfl, mG (wd_1214) rfl, mG (wd_69) rfl, mG (wd_1215) rfl, ⟨by decide, by decide, by decide +kernel⟩⟩
theorem lk_L_137 : LkV RL 137 yX9_file cX9_file 5 (some .int) 2 := ⟨mG (wd_744) rfl, mG (wd_745) rfl, mG (wd_746) rfl, mG (wd_62) rfl, mG (wd_747) rfl, ⟨by decide, by decide, by decide +kernel⟩⟩
theorem lk_L_140 : LkV RL 140 yX10_file cX10_file 4 (some .int) 2 := ⟨mG (wd_1220) rfl, mG (wd_1221) rfl, mG (wd_1222) rfl, mG (wd_69) rfl, mG (wd_1223) rfl, ⟨by decide, by decide, by decide +kernel⟩⟩
theorem lk_L_141 : LkV RL 141 yX9_old cX9_old 8 (some .int) 4 := ⟨mG (wd_748) rfl, mG (wd_749) rfl, mG (wd_750) rfl, mG (wd_62) rfl, mG (wd_751) rfl, ⟨by decide, by decide, by decide +kernel⟩⟩
theorem lk_L_144 : LkV RL 144 yX10_old cX10_old 9 (some .int) 4 := ⟨mG (wd_1225) rfl, mG (wd_1226) rfl, mG (wd_1227) rfl, mG (wd_69) rfl, mG (wd_1228) rfl, ⟨by decide, by decide, by decide +kernel⟩⟩
theorem lk_L_145 : LkV RL 145 yX9_told cX9_told 2 (some .int) 1 := ⟨mG (wd_752) rfl, mG (wd_753) rfl, mG (wd_754) rfl, mG (wd_62) rfl, mG (wd_755) rfl, ⟨by decide, by decide, by decide +kernel⟩⟩
theorem lk_L_148 : LkV RL 148 yX10_told cX10_told 4 (some .int) 1 := ⟨mG (wd_1233) rfl, mG (wd_1234) rfl, mG (wd_1235) rfl, mG (wd_69) rfl, mG (wd_1236) rfl, ⟨by decide, by decide, by decide +kernel⟩⟩
theorem nw_L_7 {fx : Bool} {G : GP} {X : BX} {Q : State → Prop} {cc : ByteArray} {nm : String} {rt : Option FieldType} {rf rl nL pc rc rs : Nat} {ls st : List LV} {w : NS} {M : MM} (C : CX G X cc RL nm nL rt rf rl) (d : decode cc pc = .ok (.new 7, 3)) (k : WA false G X Q nL (pc + 3) ls ((2, (w.1 : Int)) :: st) rc rs (w.1 + 1, us w.2 w.1 10 17) M) : WA fx G X Q nL pc ls st (rc + 1) (rs + 17) w M := s_new (ci := 9) C (by decide) rfl inX9 tyX9_ok (fun j hj => by rcases (show j = 0 ∨ j = 1 ∨ j = 2 ∨ j = 3 ∨ j = 4 ∨ j = 5 ∨ j = 6 ∨ j = 7 ∨ j = 8 ∨ j = 9 ∨ j = 10 ∨ j = 11 ∨ j = 12 ∨ j = 13 ∨ j = 14 ∨ j = 15 ∨ j = 16 by omega) with rfl | rfl | rfl | rfl | rfl | rfl | rfl | rfl | rfl | rfl | rfl | rfl | rfl | rfl | rfl | rfl | rfl <;> rfl) (mG (wd_75) rfl) (mG (wd_76) rfl) (mG (wd_62) rfl) d k
theorem nw_L_10 {fx : Bool} {G : GP} {X : BX} {Q : State → Prop} {cc : ByteArray} {nm : String} {rt : Option FieldType} {rf rl nL pc rc rs : Nat} {ls st : List LV} {w : NS} {M : MM} (C : CX G X cc RL nm nL rt rf rl) (d : decode cc pc = .ok (.new 10, 3)) (k : WA false G X Q nL (pc + 3) ls ((2, (w.1 : Int)) :: st) rc rs (w.1 + 1, us w.2 w.1 11 51) M) : WA fx G X Q nL pc ls st (rc + 1) (rs + 51) w M := s_new (ci := 10) C (by decide) rfl inX10 tyX10_ok (fun j hj => by rcases (show j = 0 ∨ j = 1 ∨ j = 2 ∨ j = 3 ∨ j = 4 ∨ j = 5 ∨ j = 6 ∨ j = 7 ∨ j = 8 ∨ j = 9 ∨ j = 10 ∨ j = 11 ∨ j = 12 ∨ j = 13 ∨ j = 14 ∨ j = 15 ∨ j = 16 ∨ j = 17 ∨ j = 18 ∨ j = 19 ∨ j = 20 ∨ j = 21 ∨ j = 22 ∨ j = 23 ∨ j = 24 ∨ j = 25 ∨ j = 26 ∨ j = 27 ∨ j = 28 ∨ j = 29 ∨ j = 30 ∨ j = 31 ∨ j = 32 ∨ j = 33 ∨ j = 34 ∨ j = 35 ∨ j = 36 ∨ j = 37 ∨ j = 38 ∨ j = 39 ∨ j = 40 ∨ j = 41 ∨ j = 42 ∨ j = 43 ∨ j = 44 ∨ j = 45 ∨ j = 46 ∨ j = 47 ∨ j = 48 ∨ j = 49 ∨ j = 50 by omega) with rfl | rfl | rfl | rfl | rfl | rfl | rfl | rfl | rfl | rfl | rfl | rfl | rfl | rfl | rfl | rfl | rfl | rfl | rfl | rfl | rfl | rfl | rfl | rfl | rfl | rfl | rfl | rfl | rfl | rfl | rfl | rfl | rfl | rfl | rfl | rfl | rfl | rfl | rfl | rfl | rfl | rfl | rfl | rfl | rfl | rfl | rfl | rfl | rfl | rfl | rfl <;> rfl) (mG (wd_764) rfl) (mG (wd_765) rfl) (mG (wd_69) rfl) d k
theorem lk_L_9 : LkI RL 9 yX9_init cX9_init 2 0 := ⟨mG (wd_77) rfl, mG (wd_78) rfl, mG (wd_62) rfl, mG (wd_79) rfl, rfl, ⟨by decide, by decide, by decide +kernel⟩⟩
theorem lk_L_12 : LkI RL 12 yX10_init cX10_init 2 0 := ⟨mG (wd_766) rfl, mG (wd_767) rfl, mG (wd_69) rfl, mG (wd_768) rfl, rfl, ⟨by decide, by decide, by decide +kernel⟩⟩
