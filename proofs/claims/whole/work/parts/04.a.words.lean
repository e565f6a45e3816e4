theorem inT0 {c : Cond} (h : c ∈ k2_sels lw_privs) : c ∈ lw_tbl := List.mem_append_left _ h
theorem inT1 {c : Cond} (h : c ∈ tables_1_1) : c ∈ lw_tbl := List.mem_append_right _ (List.mem_append_left _ h)
theorem inT2 {c : Cond} (h : c ∈ tables_1_2) : c ∈ lw_tbl := List.mem_append_right _ (List.mem_append_right _ (List.mem_append_left _ h))
theorem inT3 {c : Cond} (h : c ∈ tables_1_3) : c ∈ lw_tbl := List.mem_append_right _ (List.mem_append_right _ (List.mem_append_right _ (List.mem_append_left _ h)))
theorem inT4 {c : Cond} (h : c ∈ tables_1_4) : c ∈ lw_tbl := List.mem_append_right _ (List.mem_append_right _ (List.mem_append_right _ (List.mem_append_right _ (List.mem_append_left _ h))))
theorem inT5 {c : Cond} (h : c ∈ tables_1_5) : c ∈ lw_tbl := List.mem_append_right _ (List.mem_append_right _ (List.mem_append_right _ (List.mem_append_right _ (List.mem_append_right _ h))))
set_option maxRecDepth 100000 in
theorem wd_0 : Cond.selects "CutBureau" (⟨"CutBureau", "pageOf", "(I)LCutBureau$Page;"⟩ : MethodName) (⟨"CutBureau", "pageOf", "(I)LCutBureau$Page;"⟩ : MethodName) ∈ lw_tbl := inT0 (List.mem_of_getElem? (i := 0) rfl)
set_option maxRecDepth 100000 in
theorem wd_1 : Cond.selects "CutBureau" (⟨"CutBureau", "isKept", "(LCutBureau$Page;)Z"⟩ : MethodName) (⟨"CutBureau", "isKept", "(LCutBureau$Page;)Z"⟩ : MethodName) ∈ lw_tbl := inT0 (List.mem_of_getElem? (i := 1) rfl)
set_option maxRecDepth 100000 in
theorem wd_2 : Cond.selects "CutBureau" (⟨"CutBureau", "readAgain", "(LCutBureau$Page;)V"⟩ : MethodName) (⟨"CutBureau", "readAgain", "(LCutBureau$Page;)V"⟩ : MethodName) ∈ lw_tbl := inT0 (List.mem_of_getElem? (i := 2) rfl)
set_option maxRecDepth 100000 in
theorem wd_3 : Cond.selects "CutBureau" (⟨"CutBureau", "countPieces", "(LCutBureau$Page;)I"⟩ : MethodName) (⟨"CutBureau", "countPieces", "(LCutBureau$Page;)I"⟩ : MethodName) ∈ lw_tbl := inT0 (List.mem_of_getElem? (i := 3) rfl)
set_option maxRecDepth 100000 in
theorem wd_4 : Cond.selects "CutBureau" (⟨"CutBureau", "putInOrder", "(LCutBureau$Piece;)V"⟩ : MethodName) (⟨"CutBureau", "putInOrder", "(LCutBureau$Piece;)V"⟩ : MethodName) ∈ lw_tbl := inT0 (List.mem_of_getElem? (i := 4) rfl)
set_option maxRecDepth 100000 in
theorem wd_5 : Cond.selects "CutBureau" (⟨"CutBureau", "pieceOf", "(I)LCutBureau$Piece;"⟩ : MethodName) (⟨"CutBureau", "pieceOf", "(I)LCutBureau$Piece;"⟩ : MethodName) ∈ lw_tbl := inT0 (List.mem_of_getElem? (i := 5) rfl)
set_option maxRecDepth 100000 in
theorem wd_6 : Cond.selects "CutBureau$Families" (⟨"CutBureau$Families", "gatherOne", "([LCutBureau$Piece;III)V"⟩ : MethodName) (⟨"CutBureau$Families", "gatherOne", "([LCutBureau$Piece;III)V"⟩ : MethodName) ∈ lw_tbl := inT0 (List.mem_of_getElem? (i := 6) rfl)
set_option maxRecDepth 100000 in
theorem wd_7 : Cond.selects "CutBureau$Families" (⟨"CutBureau$Families", "areDoubles", "(LCutBureau$Piece;LCutBureau$Piece;I)Z"⟩ : MethodName) (⟨"CutBureau$Families", "areDoubles", "(LCutBureau$Piece;LCutBureau$Piece;I)Z"⟩ : MethodName) ∈ lw_tbl := inT0 (List.mem_of_getElem? (i := 7) rfl)
set_option maxRecDepth 100000 in
theorem wd_8 : Cond.selects "CutBureau" (⟨"CutBureau", "orderOf", "(I)LCutBureau$Order;"⟩ : MethodName) (⟨"CutBureau", "orderOf", "(I)LCutBureau$Order;"⟩ : MethodName) ∈ lw_tbl := inT0 (List.mem_of_getElem? (i := 8) rfl)
set_option maxRecDepth 100000 in
theorem wd_9 : Cond.selects "CutBureau$Rule" (⟨"CutBureau$Rule", "startsItem", "(I)Z"⟩ : MethodName) (⟨"CutBureau$Rule", "startsItem", "(I)Z"⟩ : MethodName) ∈ lw_tbl := inT0 (List.mem_of_getElem? (i := 9) rfl)
set_option maxRecDepth 100000 in
theorem wd_10 : Cond.selects "CutBureau$Rule" (⟨"CutBureau$Rule", "signAt", "(I)I"⟩ : MethodName) (⟨"CutBureau$Rule", "signAt", "(I)I"⟩ : MethodName) ∈ lw_tbl := inT0 (List.mem_of_getElem? (i := 10) rfl)
set_option maxRecDepth 100000 in
theorem wd_11 : Cond.selects "CutBureau$Rule" (⟨"CutBureau$Rule", "digitAt", "(I)I"⟩ : MethodName) (⟨"CutBureau$Rule", "digitAt", "(I)I"⟩ : MethodName) ∈ lw_tbl := inT0 (List.mem_of_getElem? (i := 11) rfl)
set_option maxRecDepth 100000 in
theorem wd_12 : Cond.selects "CutBureau$Rule" (⟨"CutBureau$Rule", "itemIsSo", "(LCutBureau$Piece;I)Z"⟩ : MethodName) (⟨"CutBureau$Rule", "itemIsSo", "(LCutBureau$Piece;I)Z"⟩ : MethodName) ∈ lw_tbl := inT0 (List.mem_of_getElem? (i := 12) rfl)
set_option maxRecDepth 100000 in
theorem wd_13 : Cond.selects "CutBureau$Rule" (⟨"CutBureau$Rule", "wordAt", "(I)I"⟩ : MethodName) (⟨"CutBureau$Rule", "wordAt", "(I)I"⟩ : MethodName) ∈ lw_tbl := inT0 (List.mem_of_getElem? (i := 13) rfl)
set_option maxRecDepth 100000 in
theorem wd_14 : Cond.selects "CutBureau" (⟨"CutBureau", "gatherList", "(LCutBureau$Order;I)V"⟩ : MethodName) (⟨"CutBureau", "gatherList", "(LCutBureau$Order;I)V"⟩ : MethodName) ∈ lw_tbl := inT0 (List.mem_of_getElem? (i := 14) rfl)
set_option maxRecDepth 100000 in
theorem wd_15 : Cond.selects "CutBureau" (⟨"CutBureau", "verdictOf", "(I)I"⟩ : MethodName) (⟨"CutBureau", "verdictOf", "(I)I"⟩ : MethodName) ∈ lw_tbl := inT0 (List.mem_of_getElem? (i := 15) rfl)
set_option maxRecDepth 100000 in
theorem wd_16 : Cond.selects "CutBureau" (⟨"CutBureau", "gatherAsked", "(LCutBureau$Page;)V"⟩ : MethodName) (⟨"CutBureau", "gatherAsked", "(LCutBureau$Page;)V"⟩ : MethodName) ∈ lw_tbl := inT0 (List.mem_of_getElem? (i := 16) rfl)
set_option maxRecDepth 100000 in
theorem wd_17 : Cond.selects "CutBureau$Asked" (⟨"CutBureau$Asked", "findClashes", "([LCutBureau$Piece;)V"⟩ : MethodName) (⟨"CutBureau$Asked", "findClashes", "([LCutBureau$Piece;)V"⟩ : MethodName) ∈ lw_tbl := inT0 (List.mem_of_getElem? (i := 17) rfl)
set_option maxRecDepth 100000 in
theorem wd_18 : Cond.selects "CutBureau$Asked" (⟨"CutBureau$Asked", "countSheets", "()V"⟩ : MethodName) (⟨"CutBureau$Asked", "countSheets", "()V"⟩ : MethodName) ∈ lw_tbl := inT0 (List.mem_of_getElem? (i := 18) rfl)
set_option maxRecDepth 100000 in
theorem wd_19 : Cond.selects "CutBureau$Asked" (⟨"CutBureau$Asked", "fitsOneSheet", "(I)Z"⟩ : MethodName) (⟨"CutBureau$Asked", "fitsOneSheet", "(I)Z"⟩ : MethodName) ∈ lw_tbl := inT0 (List.mem_of_getElem? (i := 19) rfl)
set_option maxRecDepth 100000 in
theorem wd_20 : Cond.selects "CutBureau$Asked" (⟨"CutBureau$Asked", "leastSheets", "(I)I"⟩ : MethodName) (⟨"CutBureau$Asked", "leastSheets", "(I)I"⟩ : MethodName) ∈ lw_tbl := inT0 (List.mem_of_getElem? (i := 20) rfl)
set_option maxRecDepth 100000 in
theorem wd_21 : Cond.selects "CutBureau" (⟨"CutBureau", "leastParting", "(I)J"⟩ : MethodName) (⟨"CutBureau", "leastParting", "(I)J"⟩ : MethodName) ∈ lw_tbl := inT0 (List.mem_of_getElem? (i := 21) rfl)
set_option maxRecDepth 100000 in
theorem wd_22 : Cond.selects "CutBureau$Parting" (⟨"CutBureau$Parting", "giveAll", "(II)V"⟩ : MethodName) (⟨"CutBureau$Parting", "giveAll", "(II)V"⟩ : MethodName) ∈ lw_tbl := inT0 (List.mem_of_getElem? (i := 22) rfl)
set_option maxRecDepth 100000 in
theorem wd_23 : Cond.selects "CutBureau" (⟨"CutBureau", "isListed", "(LCutBureau$Piece;LCutBureau$Order;)Z"⟩ : MethodName) (⟨"CutBureau", "isListed", "(LCutBureau$Piece;LCutBureau$Order;)Z"⟩ : MethodName) ∈ lw_tbl := inT0 (List.mem_of_getElem? (i := 23) rfl)
set_option maxRecDepth 100000 in
theorem wd_24 : Cond.selects "CutBureau" (⟨"CutBureau", "countSentTo", "(I)I"⟩ : MethodName) (⟨"CutBureau", "countSentTo", "(I)I"⟩ : MethodName) ∈ lw_tbl := inT0 (List.mem_of_getElem? (i := 24) rfl)
set_option maxRecDepth 100000 in
theorem wd_25 : Cond.selects "CutBureau" (⟨"CutBureau", "priceOf", "(I)I"⟩ : MethodName) (⟨"CutBureau", "priceOf", "(I)I"⟩ : MethodName) ∈ lw_tbl := inT0 (List.mem_of_getElem? (i := 25) rfl)
set_option maxRecDepth 100000 in
theorem wd_26 : Cond.selects "CutBureau" (⟨"CutBureau", "countSent", "()I"⟩ : MethodName) (⟨"CutBureau", "countSent", "()I"⟩ : MethodName) ∈ lw_tbl := inT0 (List.mem_of_getElem? (i := 26) rfl)
set_option maxRecDepth 100000 in
theorem wd_27 : Cond.selects "CutBureau" (⟨"CutBureau", "countMissed", "()I"⟩ : MethodName) (⟨"CutBureau", "countMissed", "()I"⟩ : MethodName) ∈ lw_tbl := inT0 (List.mem_of_getElem? (i := 27) rfl)
set_option maxRecDepth 100000 in
theorem wd_28 : Cond.selects "CutBureauModel" (⟨"CutBureauModel", "isPage", "(I)Z"⟩ : MethodName) (⟨"CutBureauModel", "isPage", "(I)Z"⟩ : MethodName) ∈ lw_tbl := inT0 (List.mem_of_getElem? (i := 28) rfl)
set_option maxRecDepth 100000 in
theorem wd_29 : Cond.selects "CutBureauModel" (⟨"CutBureauModel", "isKept", "(I)Z"⟩ : MethodName) (⟨"CutBureauModel", "isKept", "(I)Z"⟩ : MethodName) ∈ lw_tbl := inT0 (List.mem_of_getElem? (i := 29) rfl)
set_option maxRecDepth 100000 in
theorem wd_30 : Cond.selects "CutBureauModel" (⟨"CutBureauModel", "isPiece", "(I)Z"⟩ : MethodName) (⟨"CutBureauModel", "isPiece", "(I)Z"⟩ : MethodName) ∈ lw_tbl := inT0 (List.mem_of_getElem? (i := 30) rfl)
set_option maxRecDepth 100000 in
theorem wd_31 : Cond.selects "CutBureauModel" (⟨"CutBureauModel", "layOne", "(I)V"⟩ : MethodName) (⟨"CutBureauModel", "layOne", "(I)V"⟩ : MethodName) ∈ lw_tbl := inT0 (List.mem_of_getElem? (i := 31) rfl)
set_option maxRecDepth 100000 in
theorem wd_32 : Cond.selects "CutBureauModel" (⟨"CutBureauModel", "findFamily", "(I)I"⟩ : MethodName) (⟨"CutBureauModel", "findFamily", "(I)I"⟩ : MethodName) ∈ lw_tbl := inT0 (List.mem_of_getElem? (i := 32) rfl)
set_option maxRecDepth 100000 in
theorem wd_33 : Cond.selects "CutBureauModel" (⟨"CutBureauModel", "layDoubles", "()V"⟩ : MethodName) (⟨"CutBureauModel", "layDoubles", "()V"⟩ : MethodName) ∈ lw_tbl := inT0 (List.mem_of_getElem? (i := 33) rfl)
set_option maxRecDepth 100000 in
theorem wd_34 : Cond.selects "CutBureauModel" (⟨"CutBureauModel", "areDoubles", "(II)Z"⟩ : MethodName) (⟨"CutBureauModel", "areDoubles", "(II)Z"⟩ : MethodName) ∈ lw_tbl := inT0 (List.mem_of_getElem? (i := 34) rfl)
set_option maxRecDepth 100000 in
theorem wd_35 : Cond.selects "CutBureauModel" (⟨"CutBureauModel", "changesOf", "(II)I"⟩ : MethodName) (⟨"CutBureauModel", "changesOf", "(II)I"⟩ : MethodName) ∈ lw_tbl := inT0 (List.mem_of_getElem? (i := 35) rfl)
set_option maxRecDepth 100000 in
theorem wd_36 : Cond.selects "CutBureauModel" (⟨"CutBureauModel", "layBoth", "(II)V"⟩ : MethodName) (⟨"CutBureauModel", "layBoth", "(II)V"⟩ : MethodName) ∈ lw_tbl := inT0 (List.mem_of_getElem? (i := 36) rfl)
set_option maxRecDepth 100000 in
theorem wd_37 : Cond.selects "CutBureauModel" (⟨"CutBureauModel", "firstOf", "()I"⟩ : MethodName) (⟨"CutBureauModel", "firstOf", "()I"⟩ : MethodName) ∈ lw_tbl := inT0 (List.mem_of_getElem? (i := 37) rfl)
set_option maxRecDepth 100000 in
theorem wd_38 : Cond.selects "CutBureauModel" (⟨"CutBureauModel", "isAhead", "(II)Z"⟩ : MethodName) (⟨"CutBureauModel", "isAhead", "(II)Z"⟩ : MethodName) ∈ lw_tbl := inT0 (List.mem_of_getElem? (i := 38) rfl)
set_option maxRecDepth 100000 in
theorem wd_39 : Cond.selects "CutBureauModel" (⟨"CutBureauModel", "doClash", "(II)Z"⟩ : MethodName) (⟨"CutBureauModel", "doClash", "(II)Z"⟩ : MethodName) ∈ lw_tbl := inT0 (List.mem_of_getElem? (i := 39) rfl)
set_option maxRecDepth 100000 in
theorem wd_40 : Cond.selects "CutBureauModel" (⟨"CutBureauModel", "isOrder", "(I)Z"⟩ : MethodName) (⟨"CutBureauModel", "isOrder", "(I)Z"⟩ : MethodName) ∈ lw_tbl := inT0 (List.mem_of_getElem? (i := 40) rfl)
set_option maxRecDepth 100000 in
theorem wd_41 : Cond.selects "CutBureauModel" (⟨"CutBureauModel", "doesWant", "(II)Z"⟩ : MethodName) (⟨"CutBureauModel", "doesWant", "(II)Z"⟩ : MethodName) ∈ lw_tbl := inT0 (List.mem_of_getElem? (i := 41) rfl)
set_option maxRecDepth 100000 in
theorem wd_42 : Cond.selects "CutBureauModel" (⟨"CutBureauModel", "isRule", "(II)Z"⟩ : MethodName) (⟨"CutBureauModel", "isRule", "(II)Z"⟩ : MethodName) ∈ lw_tbl := inT0 (List.mem_of_getElem? (i := 42) rfl)
set_option maxRecDepth 100000 in
theorem wd_43 : Cond.selects "CutBureauModel" (⟨"CutBureauModel", "begin", "(I)V"⟩ : MethodName) (⟨"CutBureauModel", "begin", "(I)V"⟩ : MethodName) ∈ lw_tbl := inT0 (List.mem_of_getElem? (i := 43) rfl)
set_option maxRecDepth 100000 in
theorem wd_44 : Cond.selects "CutBureauModel" (⟨"CutBureauModel", "isItem", "(I)Z"⟩ : MethodName) (⟨"CutBureauModel", "isItem", "(I)Z"⟩ : MethodName) ∈ lw_tbl := inT0 (List.mem_of_getElem? (i := 44) rfl)
set_option maxRecDepth 100000 in
theorem wd_45 : Cond.selects "CutBureauModel" (⟨"CutBureauModel", "number", "(I)I"⟩ : MethodName) (⟨"CutBureauModel", "number", "(I)I"⟩ : MethodName) ∈ lw_tbl := inT0 (List.mem_of_getElem? (i := 45) rfl)
set_option maxRecDepth 100000 in
theorem wd_46 : Cond.selects "CutBureauModel" (⟨"CutBureauModel", "timesOf", "(I)I"⟩ : MethodName) (⟨"CutBureauModel", "timesOf", "(I)I"⟩ : MethodName) ∈ lw_tbl := inT0 (List.mem_of_getElem? (i := 46) rfl)
set_option maxRecDepth 100000 in
theorem wd_47 : Cond.selects "CutBureauModel" (⟨"CutBureauModel", "areNear", "(III)Z"⟩ : MethodName) (⟨"CutBureauModel", "areNear", "(III)Z"⟩ : MethodName) ∈ lw_tbl := inT0 (List.mem_of_getElem? (i := 47) rfl)
set_option maxRecDepth 100000 in
theorem wd_48 : Cond.selects "CutBureauModel" (⟨"CutBureauModel", "join", "(IZ)V"⟩ : MethodName) (⟨"CutBureauModel", "join", "(IZ)V"⟩ : MethodName) ∈ lw_tbl := inT0 (List.mem_of_getElem? (i := 48) rfl)
set_option maxRecDepth 100000 in
theorem wd_49 : Cond.selects "CutBureauModel" (⟨"CutBureauModel", "findList", "(II)V"⟩ : MethodName) (⟨"CutBureauModel", "findList", "(II)V"⟩ : MethodName) ∈ lw_tbl := inT0 (List.mem_of_getElem? (i := 49) rfl)
set_option maxRecDepth 100000 in
theorem wd_50 : Cond.selects "CutBureauModel" (⟨"CutBureauModel", "isDoubled", "(I)Z"⟩ : MethodName) (⟨"CutBureauModel", "isDoubled", "(I)Z"⟩ : MethodName) ∈ lw_tbl := inT0 (List.mem_of_getElem? (i := 50) rfl)
set_option maxRecDepth 100000 in
theorem wd_51 : Cond.selects "CutBureauModel" (⟨"CutBureauModel", "sumAt", "(II)I"⟩ : MethodName) (⟨"CutBureauModel", "sumAt", "(II)I"⟩ : MethodName) ∈ lw_tbl := inT0 (List.mem_of_getElem? (i := 51) rfl)
set_option maxRecDepth 100000 in
theorem wd_52 : Cond.selects "CutBureauModel" (⟨"CutBureauModel", "findAsked", "(I)V"⟩ : MethodName) (⟨"CutBureauModel", "findAsked", "(I)V"⟩ : MethodName) ∈ lw_tbl := inT0 (List.mem_of_getElem? (i := 52) rfl)
set_option maxRecDepth 100000 in
theorem wd_53 : Cond.selects "CutBureauModel" (⟨"CutBureauModel", "findSheets", "(I)V"⟩ : MethodName) (⟨"CutBureauModel", "findSheets", "(I)V"⟩ : MethodName) ∈ lw_tbl := inT0 (List.mem_of_getElem? (i := 53) rfl)
set_option maxRecDepth 100000 in
theorem wd_54 : Cond.selects "CutBureauModel" (⟨"CutBureauModel", "isOneSheet", "(I)Z"⟩ : MethodName) (⟨"CutBureauModel", "isOneSheet", "(I)Z"⟩ : MethodName) ∈ lw_tbl := inT0 (List.mem_of_getElem? (i := 54) rfl)
set_option maxRecDepth 100000 in
theorem wd_55 : Cond.selects "CutBureauModel" (⟨"CutBureauModel", "foundBy", "(I)I"⟩ : MethodName) (⟨"CutBureauModel", "foundBy", "(I)I"⟩ : MethodName) ∈ lw_tbl := inT0 (List.mem_of_getElem? (i := 55) rfl)
set_option maxRecDepth 100000 in
theorem wd_56 : Cond.selects "CutBureauModel" (⟨"CutBureauModel", "tried", "(I)I"⟩ : MethodName) (⟨"CutBureauModel", "tried", "(I)I"⟩ : MethodName) ∈ lw_tbl := inT0 (List.mem_of_getElem? (i := 56) rfl)
set_option maxRecDepth 100000 in
theorem wd_57 : Cond.selects "CutBureauModel" (⟨"CutBureauModel", "nextReads", "(I)Z"⟩ : MethodName) (⟨"CutBureauModel", "nextReads", "(I)Z"⟩ : MethodName) ∈ lw_tbl := inT0 (List.mem_of_getElem? (i := 57) rfl)
set_option maxRecDepth 100000 in
theorem wd_58 : Cond.selects "CutBureauModel" (⟨"CutBureauModel", "isListed", "(II)Z"⟩ : MethodName) (⟨"CutBureauModel", "isListed", "(II)Z"⟩ : MethodName) ∈ lw_tbl := inT0 (List.mem_of_getElem? (i := 58) rfl)
set_option maxRecDepth 100000 in
theorem wd_59 : Cond.selects "CutBureauModel" (⟨"CutBureauModel", "sentTo", "(I)I"⟩ : MethodName) (⟨"CutBureauModel", "sentTo", "(I)I"⟩ : MethodName) ∈ lw_tbl := inT0 (List.mem_of_getElem? (i := 59) rfl)
set_option maxRecDepth 100000 in
theorem wd_60 : Cond.selects "CutBureauModel" (⟨"CutBureauModel", "isOld", "(IIII)Z"⟩ : MethodName) (⟨"CutBureauModel", "isOld", "(IIII)Z"⟩ : MethodName) ∈ lw_tbl := inT0 (List.mem_of_getElem? (i := 60) rfl)
set_option maxRecDepth 100000 in
theorem wd_62 : (Jvm.Cond.initialized "CutBureau") ∈ lw_tbl := inT1 (List.mem_of_getElem? (i := 1) rfl)
set_option maxRecDepth 100000 in
theorem wd_63 : (Jvm.Cond.initialized "CutBureau$Rule") ∈ lw_tbl := inT1 (List.mem_of_getElem? (i := 2) rfl)
set_option maxRecDepth 100000 in
theorem wd_64 : (Jvm.Cond.initialized "CutBureau$Families") ∈ lw_tbl := inT1 (List.mem_of_getElem? (i := 3) rfl)
set_option maxRecDepth 100000 in
theorem wd_65 : (Jvm.Cond.initialized "CutBureau$Asked") ∈ lw_tbl := inT1 (List.mem_of_getElem? (i := 4) rfl)
set_option maxRecDepth 100000 in
theorem wd_66 : (Jvm.Cond.initialized "CutBureau$Parting") ∈ lw_tbl := inT1 (List.mem_of_getElem? (i := 5) rfl)
set_option maxRecDepth 100000 in
theorem wd_67 : (Jvm.Cond.initialized "CutBureau$Name") ∈ lw_tbl := inT1 (List.mem_of_getElem? (i := 6) rfl)
set_option maxRecDepth 100000 in
theorem wd_68 : (Jvm.Cond.initialized "CutBureau$Reader") ∈ lw_tbl := inT1 (List.mem_of_getElem? (i := 7) rfl)
set_option maxRecDepth 100000 in
theorem wd_69 : (Jvm.Cond.initialized "CutBureauModel") ∈ lw_tbl := inT1 (List.mem_of_getElem? (i := 8) rfl)
set_option maxRecDepth 100000 in
theorem wd_70 : (Jvm.Cond.initialized "CutBureau$Page") ∈ lw_tbl := inT1 (List.mem_of_getElem? (i := 9) rfl)
set_option maxRecDepth 100000 in
theorem wd_71 : (Jvm.Cond.initialized "CutBureau$Piece") ∈ lw_tbl := inT1 (List.mem_of_getElem? (i := 10) rfl)
set_option maxRecDepth 100000 in
theorem wd_73 : (Jvm.Cond.initialized "CutBureau$Order") ∈ lw_tbl := inT1 (List.mem_of_getElem? (i := 12) rfl)
set_option maxRecDepth 100000 in
theorem wd_74 : (Jvm.Cond.initialized "java/lang/Integer") ∈ lw_tbl := inT1 (List.mem_of_getElem? (i := 13) rfl)
set_option maxRecDepth 100000 in
theorem wd_80 : (Jvm.Cond.methodLink "CutBureau" (1 : Nat) ({ cls := "java/lang/Object", name := "<init>", desc := "()V" } : Jvm.MethodName)) ∈ lw_tbl := inT1 (List.mem_of_getElem? (i := 19) rfl)
set_option maxRecDepth 100000 in
theorem wd_81 : (Jvm.Cond.instanceMethod ({ cls := "java/lang/Object", name := "<init>", desc := "()V" } : Jvm.MethodName)) ∈ lw_tbl := inT1 (List.mem_of_getElem? (i := 20) rfl)
set_option maxRecDepth 100000 in
theorem wd_82 : (Jvm.Cond.code ({ cls := "java/lang/Object", name := "<init>", desc := "()V" } : Jvm.MethodName) object_method_1_code (1 : Nat) (Option.none : Option Jvm.ClassFile.FieldType)) ∈ lw_tbl := inT1 (List.mem_of_getElem? (i := 21) rfl)
set_option maxRecDepth 100000 in
theorem wd_83 : (Jvm.Cond.classLink "CutBureau" (13 : Nat) "CutBureau$Page") ∈ lw_tbl := inT1 (List.mem_of_getElem? (i := 22) rfl)
set_option maxRecDepth 100000 in
theorem wd_84 : (Jvm.Cond.arrayOver (Jvm.ClassFile.FieldType.object "CutBureau$Page")) ∈ lw_tbl := inT1 (List.mem_of_getElem? (i := 23) rfl)
set_option maxRecDepth 100000 in
theorem wd_85 : (Jvm.Cond.classLink "CutBureau" (23 : Nat) "CutBureau$Piece") ∈ lw_tbl := inT1 (List.mem_of_getElem? (i := 24) rfl)
set_option maxRecDepth 100000 in
theorem wd_86 : (Jvm.Cond.arrayOver (Jvm.ClassFile.FieldType.object "CutBureau$Piece")) ∈ lw_tbl := inT1 (List.mem_of_getElem? (i := 25) rfl)
set_option maxRecDepth 100000 in
theorem wd_87 : (Jvm.Cond.classLink "CutBureau" (35 : Nat) "CutBureau$Order") ∈ lw_tbl := inT1 (List.mem_of_getElem? (i := 26) rfl)
set_option maxRecDepth 100000 in
theorem wd_88 : (Jvm.Cond.arrayOver (Jvm.ClassFile.FieldType.object "CutBureau$Order")) ∈ lw_tbl := inT1 (List.mem_of_getElem? (i := 27) rfl)
set_option maxRecDepth 100000 in
theorem wd_89 : (Jvm.Cond.classLink "CutBureau" (44 : Nat) "CutBureau$Rule") ∈ lw_tbl := inT1 (List.mem_of_getElem? (i := 28) rfl)
set_option maxRecDepth 100000 in
theorem wd_90 : (Jvm.Cond.instantiable "CutBureau$Rule" (2 : Nat)) ∈ lw_tbl := inT1 (List.mem_of_getElem? (i := 29) rfl)
set_option maxRecDepth 100000 in
theorem wd_91 : (Jvm.Cond.methodLinkNest "CutBureau" (46 : Nat) ({ cls := "CutBureau$Rule", name := "<init>", desc := "()V" } : Jvm.MethodName) "CutBureau") ∈ lw_tbl := inT1 (List.mem_of_getElem? (i := 30) rfl)
set_option maxRecDepth 100000 in
theorem wd_92 : (Jvm.Cond.instanceMethod ({ cls := "CutBureau$Rule", name := "<init>", desc := "()V" } : Jvm.MethodName)) ∈ lw_tbl := inT1 (List.mem_of_getElem? (i := 31) rfl)
set_option maxRecDepth 100000 in
theorem wd_93 : (Jvm.Cond.code ({ cls := "CutBureau$Rule", name := "<init>", desc := "()V" } : Jvm.MethodName) prog_10_method_1_code (1 : Nat) (Option.none : Option Jvm.ClassFile.FieldType)) ∈ lw_tbl := inT1 (List.mem_of_getElem? (i := 32) rfl)
set_option maxRecDepth 100000 in
theorem wd_94 : (Jvm.Cond.methodLink "CutBureau$Rule" (3 : Nat) ({ cls := "java/lang/Object", name := "<init>", desc := "()V" } : Jvm.MethodName)) ∈ lw_tbl := inT1 (List.mem_of_getElem? (i := 33) rfl)
set_option maxRecDepth 100000 in
theorem wd_95 : (Jvm.Cond.fieldLink "CutBureau$Rule" (11 : Nat) "CutBureau$Rule" "signs" "[I") ∈ lw_tbl := inT1 (List.mem_of_getElem? (i := 34) rfl)
set_option maxRecDepth 100000 in
theorem wd_96 : (Jvm.Cond.fieldLink "CutBureau" (195 : Nat) "CutBureau$Rule" "signs" "[I") ∈ lw_tbl := inT1 (List.mem_of_getElem? (i := 35) rfl)
set_option maxRecDepth 100000 in
theorem wd_97 : (Jvm.Cond.fieldLink "CutBureau$Rule" (15 : Nat) "CutBureau$Rule" "length" "I") ∈ lw_tbl := inT1 (List.mem_of_getElem? (i := 36) rfl)
set_option maxRecDepth 100000 in
theorem wd_98 : (Jvm.Cond.fieldLink "CutBureau" (192 : Nat) "CutBureau$Rule" "length" "I") ∈ lw_tbl := inT1 (List.mem_of_getElem? (i := 37) rfl)
set_option maxRecDepth 100000 in
theorem wd_104 : (Jvm.Cond.arrayClass Jvm.ClassFile.FieldType.int) ∈ lw_tbl := inT1 (List.mem_of_getElem? (i := 43) rfl)
set_option maxRecDepth 100000 in
theorem wd_105 : (Jvm.Cond.classLink "CutBureau" (51 : Nat) "CutBureau$Families") ∈ lw_tbl := inT1 (List.mem_of_getElem? (i := 44) rfl)
set_option maxRecDepth 100000 in
theorem wd_106 : (Jvm.Cond.instantiable "CutBureau$Families" (3 : Nat)) ∈ lw_tbl := inT1 (List.mem_of_getElem? (i := 45) rfl)
set_option maxRecDepth 100000 in
theorem wd_107 : (Jvm.Cond.methodLinkNest "CutBureau" (53 : Nat) ({ cls := "CutBureau$Families", name := "<init>", desc := "()V" } : Jvm.MethodName) "CutBureau") ∈ lw_tbl := inT1 (List.mem_of_getElem? (i := 46) rfl)
set_option maxRecDepth 100000 in
theorem wd_108 : (Jvm.Cond.instanceMethod ({ cls := "CutBureau$Families", name := "<init>", desc := "()V" } : Jvm.MethodName)) ∈ lw_tbl := inT1 (List.mem_of_getElem? (i := 47) rfl)
set_option maxRecDepth 100000 in
theorem wd_109 : (Jvm.Cond.code ({ cls := "CutBureau$Families", name := "<init>", desc := "()V" } : Jvm.MethodName) prog_3_method_1_code (1 : Nat) (Option.none : Option Jvm.ClassFile.FieldType)) ∈ lw_tbl := inT1 (List.mem_of_getElem? (i := 48) rfl)
set_option maxRecDepth 100000 in
theorem wd_110 : (Jvm.Cond.methodLink "CutBureau$Families" (3 : Nat) ({ cls := "java/lang/Object", name := "<init>", desc := "()V" } : Jvm.MethodName)) ∈ lw_tbl := inT1 (List.mem_of_getElem? (i := 49) rfl)
set_option maxRecDepth 100000 in
theorem wd_111 : (Jvm.Cond.classLink "CutBureau$Families" (15 : Nat) "CutBureau$Piece") ∈ lw_tbl := inT1 (List.mem_of_getElem? (i := 50) rfl)
set_option maxRecDepth 100000 in
theorem wd_112 : (Jvm.Cond.fieldLink "CutBureau$Families" (9 : Nat) "CutBureau$Families" "known" "Z") ∈ lw_tbl := inT1 (List.mem_of_getElem? (i := 51) rfl)
set_option maxRecDepth 100000 in
theorem wd_113 : (Jvm.Cond.fieldLink "CutBureau" (124 : Nat) "CutBureau$Families" "known" "Z") ∈ lw_tbl := inT1 (List.mem_of_getElem? (i := 52) rfl)
set_option maxRecDepth 100000 in
theorem wd_114 : (Jvm.Cond.fieldLink "CutBureau$Families" (17 : Nat) "CutBureau$Families" "members" "[LCutBureau$Piece;") ∈ lw_tbl := inT1 (List.mem_of_getElem? (i := 53) rfl)
set_option maxRecDepth 100000 in
theorem wd_115 : (Jvm.Cond.fieldLink "CutBureau$Families" (21 : Nat) "CutBureau$Families" "row" "[I") ∈ lw_tbl := inT1 (List.mem_of_getElem? (i := 54) rfl)
set_option maxRecDepth 100000 in
theorem wd_123 : (Jvm.Cond.classLink "CutBureau" (64 : Nat) "CutBureau$Name") ∈ lw_tbl := inT1 (List.mem_of_getElem? (i := 62) rfl)
set_option maxRecDepth 100000 in
theorem wd_124 : (Jvm.Cond.arrayOver (Jvm.ClassFile.FieldType.object "CutBureau$Name")) ∈ lw_tbl := inT1 (List.mem_of_getElem? (i := 63) rfl)
set_option maxRecDepth 100000 in
theorem wd_125 : (Jvm.Cond.classLink "CutBureau" (70 : Nat) "CutBureau$Asked") ∈ lw_tbl := inT1 (List.mem_of_getElem? (i := 64) rfl)
set_option maxRecDepth 100000 in
theorem wd_126 : (Jvm.Cond.instantiable "CutBureau$Asked" (5 : Nat)) ∈ lw_tbl := inT1 (List.mem_of_getElem? (i := 65) rfl)
set_option maxRecDepth 100000 in
theorem wd_127 : (Jvm.Cond.methodLinkNest "CutBureau" (72 : Nat) ({ cls := "CutBureau$Asked", name := "<init>", desc := "()V" } : Jvm.MethodName) "CutBureau") ∈ lw_tbl := inT1 (List.mem_of_getElem? (i := 66) rfl)
set_option maxRecDepth 100000 in
theorem wd_128 : (Jvm.Cond.instanceMethod ({ cls := "CutBureau$Asked", name := "<init>", desc := "()V" } : Jvm.MethodName)) ∈ lw_tbl := inT1 (List.mem_of_getElem? (i := 67) rfl)
set_option maxRecDepth 100000 in
theorem wd_129 : (Jvm.Cond.code ({ cls := "CutBureau$Asked", name := "<init>", desc := "()V" } : Jvm.MethodName) prog_2_method_1_code (1 : Nat) (Option.none : Option Jvm.ClassFile.FieldType)) ∈ lw_tbl := inT1 (List.mem_of_getElem? (i := 68) rfl)
set_option maxRecDepth 100000 in
theorem wd_130 : (Jvm.Cond.methodLink "CutBureau$Asked" (1 : Nat) ({ cls := "java/lang/Object", name := "<init>", desc := "()V" } : Jvm.MethodName)) ∈ lw_tbl := inT1 (List.mem_of_getElem? (i := 69) rfl)
set_option maxRecDepth 100000 in
theorem wd_131 : (Jvm.Cond.fieldLink "CutBureau$Asked" (9 : Nat) "CutBureau$Asked" "orders" "[I") ∈ lw_tbl := inT1 (List.mem_of_getElem? (i := 70) rfl)
set_option maxRecDepth 100000 in
theorem wd_132 : (Jvm.Cond.fieldLink "CutBureau" (260 : Nat) "CutBureau$Asked" "orders" "[I") ∈ lw_tbl := inT1 (List.mem_of_getElem? (i := 71) rfl)
set_option maxRecDepth 100000 in
theorem wd_133 : (Jvm.Cond.fieldLink "CutBureau$Asked" (13 : Nat) "CutBureau$Asked" "pieces" "[I") ∈ lw_tbl := inT1 (List.mem_of_getElem? (i := 72) rfl)
set_option maxRecDepth 100000 in
theorem wd_134 : (Jvm.Cond.fieldLink "CutBureau" (262 : Nat) "CutBureau$Asked" "pieces" "[I") ∈ lw_tbl := inT1 (List.mem_of_getElem? (i := 73) rfl)
set_option maxRecDepth 100000 in
theorem wd_135 : (Jvm.Cond.fieldLink "CutBureau$Asked" (16 : Nat) "CutBureau$Asked" "count" "I") ∈ lw_tbl := inT1 (List.mem_of_getElem? (i := 74) rfl)
set_option maxRecDepth 100000 in
theorem wd_136 : (Jvm.Cond.fieldLink "CutBureau" (259 : Nat) "CutBureau$Asked" "count" "I") ∈ lw_tbl := inT1 (List.mem_of_getElem? (i := 75) rfl)
set_option maxRecDepth 100000 in
theorem wd_137 : (Jvm.Cond.fieldLink "CutBureau$Asked" (20 : Nat) "CutBureau$Asked" "clashing" "[I") ∈ lw_tbl := inT1 (List.mem_of_getElem? (i := 76) rfl)
set_option maxRecDepth 100000 in
theorem wd_138 : (Jvm.Cond.fieldLink "CutBureau$Asked" (23 : Nat) "CutBureau$Asked" "sheets" "[I") ∈ lw_tbl := inT1 (List.mem_of_getElem? (i := 77) rfl)
set_option maxRecDepth 100000 in
theorem wd_150 : (Jvm.Cond.classLink "CutBureau" (77 : Nat) "CutBureau$Reader") ∈ lw_tbl := inT1 (List.mem_of_getElem? (i := 89) rfl)
set_option maxRecDepth 100000 in
theorem wd_151 : (Jvm.Cond.arrayOver (Jvm.ClassFile.FieldType.object "CutBureau$Reader")) ∈ lw_tbl := inT1 (List.mem_of_getElem? (i := 90) rfl)
set_option maxRecDepth 100000 in
theorem wd_152 : (Jvm.Cond.classLink "CutBureau" (83 : Nat) "CutBureau$Parting") ∈ lw_tbl := inT1 (List.mem_of_getElem? (i := 91) rfl)
set_option maxRecDepth 100000 in
theorem wd_153 : (Jvm.Cond.instantiable "CutBureau$Parting" (3 : Nat)) ∈ lw_tbl := inT1 (List.mem_of_getElem? (i := 92) rfl)
set_option maxRecDepth 100000 in
theorem wd_154 : (Jvm.Cond.methodLinkNest "CutBureau" (85 : Nat) ({ cls := "CutBureau$Parting", name := "<init>", desc := "()V" } : Jvm.MethodName) "CutBureau") ∈ lw_tbl := inT1 (List.mem_of_getElem? (i := 93) rfl)
set_option maxRecDepth 100000 in
theorem wd_155 : (Jvm.Cond.instanceMethod ({ cls := "CutBureau$Parting", name := "<init>", desc := "()V" } : Jvm.MethodName)) ∈ lw_tbl := inT1 (List.mem_of_getElem? (i := 94) rfl)
set_option maxRecDepth 100000 in
theorem wd_156 : (Jvm.Cond.code ({ cls := "CutBureau$Parting", name := "<init>", desc := "()V" } : Jvm.MethodName) prog_7_method_1_code (1 : Nat) (Option.none : Option Jvm.ClassFile.FieldType)) ∈ lw_tbl := inT1 (List.mem_of_getElem? (i := 95) rfl)
set_option maxRecDepth 100000 in
theorem wd_157 : (Jvm.Cond.methodLink "CutBureau$Parting" (3 : Nat) ({ cls := "java/lang/Object", name := "<init>", desc := "()V" } : Jvm.MethodName)) ∈ lw_tbl := inT1 (List.mem_of_getElem? (i := 96) rfl)
set_option maxRecDepth 100000 in
theorem wd_158 : (Jvm.Cond.fieldLink "CutBureau$Parting" (9 : Nat) "CutBureau$Parting" "missedOn" "[I") ∈ lw_tbl := inT1 (List.mem_of_getElem? (i := 97) rfl)
set_option maxRecDepth 100000 in
theorem wd_159 : (Jvm.Cond.fieldLink "CutBureau" (344 : Nat) "CutBureau$Parting" "missedOn" "[I") ∈ lw_tbl := inT1 (List.mem_of_getElem? (i := 98) rfl)
set_option maxRecDepth 100000 in
theorem wd_160 : (Jvm.Cond.fieldLink "CutBureau$Parting" (15 : Nat) "CutBureau$Parting" "least" "[J") ∈ lw_tbl := inT1 (List.mem_of_getElem? (i := 99) rfl)
set_option maxRecDepth 100000 in
theorem wd_161 : (Jvm.Cond.fieldLink "CutBureau" (355 : Nat) "CutBureau$Parting" "least" "[J") ∈ lw_tbl := inT1 (List.mem_of_getElem? (i := 100) rfl)
set_option maxRecDepth 100000 in
theorem wd_162 : (Jvm.Cond.fieldLink "CutBureau$Parting" (19 : Nat) "CutBureau$Parting" "ofOne" "[J") ∈ lw_tbl := inT1 (List.mem_of_getElem? (i := 101) rfl)
set_option maxRecDepth 100000 in
theorem wd_170 : (Jvm.Cond.arrayClass Jvm.ClassFile.FieldType.long) ∈ lw_tbl := inT1 (List.mem_of_getElem? (i := 109) rfl)
set_option maxRecDepth 100000 in
theorem wd_171 : (Jvm.Cond.instantiable "CutBureau$Name" (2 : Nat)) ∈ lw_tbl := inT1 (List.mem_of_getElem? (i := 110) rfl)
set_option maxRecDepth 100000 in
theorem wd_172 : (Jvm.Cond.methodLinkNest "CutBureau" (93 : Nat) ({ cls := "CutBureau$Name", name := "<init>", desc := "()V" } : Jvm.MethodName) "CutBureau") ∈ lw_tbl := inT1 (List.mem_of_getElem? (i := 111) rfl)
set_option maxRecDepth 100000 in
theorem wd_173 : (Jvm.Cond.instanceMethod ({ cls := "CutBureau$Name", name := "<init>", desc := "()V" } : Jvm.MethodName)) ∈ lw_tbl := inT1 (List.mem_of_getElem? (i := 112) rfl)
set_option maxRecDepth 100000 in
theorem wd_174 : (Jvm.Cond.code ({ cls := "CutBureau$Name", name := "<init>", desc := "()V" } : Jvm.MethodName) prog_4_method_1_code (1 : Nat) (Option.none : Option Jvm.ClassFile.FieldType)) ∈ lw_tbl := inT1 (List.mem_of_getElem? (i := 113) rfl)
set_option maxRecDepth 100000 in
theorem wd_175 : (Jvm.Cond.methodLink "CutBureau$Name" (3 : Nat) ({ cls := "java/lang/Object", name := "<init>", desc := "()V" } : Jvm.MethodName)) ∈ lw_tbl := inT1 (List.mem_of_getElem? (i := 114) rfl)
set_option maxRecDepth 100000 in
theorem wd_176 : (Jvm.Cond.fieldLink "CutBureau$Name" (9 : Nat) "CutBureau$Name" "word" "I") ∈ lw_tbl := inT1 (List.mem_of_getElem? (i := 115) rfl)
set_option maxRecDepth 100000 in
theorem wd_177 : (Jvm.Cond.fieldLink "CutBureau" (238 : Nat) "CutBureau$Name" "word" "I") ∈ lw_tbl := inT1 (List.mem_of_getElem? (i := 116) rfl)
set_option maxRecDepth 100000 in
theorem wd_178 : (Jvm.Cond.fieldLink "CutBureau$Name" (15 : Nat) "CutBureau$Name" "counts" "[I") ∈ lw_tbl := inT1 (List.mem_of_getElem? (i := 117) rfl)
set_option maxRecDepth 100000 in
theorem wd_179 : (Jvm.Cond.fieldLink "CutBureau" (241 : Nat) "CutBureau$Name" "counts" "[I") ∈ lw_tbl := inT1 (List.mem_of_getElem? (i := 118) rfl)
set_option maxRecDepth 100000 in
theorem wd_185 : (Jvm.Cond.instantiable "CutBureau$Reader" (4 : Nat)) ∈ lw_tbl := inT1 (List.mem_of_getElem? (i := 124) rfl)
set_option maxRecDepth 100000 in
theorem wd_186 : (Jvm.Cond.methodLinkNest "CutBureau" (94 : Nat) ({ cls := "CutBureau$Reader", name := "<init>", desc := "()V" } : Jvm.MethodName) "CutBureau") ∈ lw_tbl := inT1 (List.mem_of_getElem? (i := 125) rfl)
set_option maxRecDepth 100000 in
theorem wd_187 : (Jvm.Cond.instanceMethod ({ cls := "CutBureau$Reader", name := "<init>", desc := "()V" } : Jvm.MethodName)) ∈ lw_tbl := inT1 (List.mem_of_getElem? (i := 126) rfl)
set_option maxRecDepth 100000 in
theorem wd_188 : (Jvm.Cond.code ({ cls := "CutBureau$Reader", name := "<init>", desc := "()V" } : Jvm.MethodName) prog_9_method_1_code (1 : Nat) (Option.none : Option Jvm.ClassFile.FieldType)) ∈ lw_tbl := inT1 (List.mem_of_getElem? (i := 127) rfl)
set_option maxRecDepth 100000 in
theorem wd_189 : (Jvm.Cond.methodLink "CutBureau$Reader" (3 : Nat) ({ cls := "java/lang/Object", name := "<init>", desc := "()V" } : Jvm.MethodName)) ∈ lw_tbl := inT1 (List.mem_of_getElem? (i := 128) rfl)
set_option maxRecDepth 100000 in
theorem wd_190 : (Jvm.Cond.fieldLink "CutBureau$Reader" (9 : Nat) "CutBureau$Reader" "minutesAPage" "I") ∈ lw_tbl := inT1 (List.mem_of_getElem? (i := 129) rfl)
set_option maxRecDepth 100000 in
theorem wd_191 : (Jvm.Cond.fieldLink "CutBureau$Parting" (32 : Nat) "CutBureau$Reader" "minutesAPage" "I") ∈ lw_tbl := inT1 (List.mem_of_getElem? (i := 130) rfl)
set_option maxRecDepth 100000 in
theorem wd_192 : (Jvm.Cond.fieldLink "CutBureau" (283 : Nat) "CutBureau$Reader" "minutesAPage" "I") ∈ lw_tbl := inT1 (List.mem_of_getElem? (i := 131) rfl)
set_option maxRecDepth 100000 in
theorem wd_193 : (Jvm.Cond.fieldLink "CutBureau$Reader" (15 : Nat) "CutBureau$Reader" "minutesInAll" "I") ∈ lw_tbl := inT1 (List.mem_of_getElem? (i := 132) rfl)
set_option maxRecDepth 100000 in
theorem wd_194 : (Jvm.Cond.fieldLink "CutBureau$Parting" (38 : Nat) "CutBureau$Reader" "minutesInAll" "I") ∈ lw_tbl := inT1 (List.mem_of_getElem? (i := 133) rfl)
set_option maxRecDepth 100000 in
theorem wd_195 : (Jvm.Cond.fieldLink "CutBureau" (286 : Nat) "CutBureau$Reader" "minutesInAll" "I") ∈ lw_tbl := inT1 (List.mem_of_getElem? (i := 134) rfl)
set_option maxRecDepth 100000 in
theorem wd_196 : (Jvm.Cond.fieldLink "CutBureau$Reader" (18 : Nat) "CutBureau$Reader" "slips" "[I") ∈ lw_tbl := inT1 (List.mem_of_getElem? (i := 135) rfl)
set_option maxRecDepth 100000 in
theorem wd_197 : (Jvm.Cond.fieldLink "CutBureau" (289 : Nat) "CutBureau$Reader" "slips" "[I") ∈ lw_tbl := inT1 (List.mem_of_getElem? (i := 136) rfl)
set_option maxRecDepth 100000 in
theorem wd_198 : (Jvm.Cond.fieldLink "CutBureau$Reader" (22 : Nat) "CutBureau$Reader" "found" "I") ∈ lw_tbl := inT1 (List.mem_of_getElem? (i := 137) rfl)
set_option maxRecDepth 100000 in
theorem wd_199 : (Jvm.Cond.fieldLink "CutBureau" (276 : Nat) "CutBureau$Reader" "found" "I") ∈ lw_tbl := inT1 (List.mem_of_getElem? (i := 138) rfl)
set_option maxRecDepth 100000 in
theorem wd_209 : (Jvm.Cond.fieldLink "CutBureau" (7 : Nat) "CutBureau" "settings" "[I") ∈ lw_tbl := inT1 (List.mem_of_getElem? (i := 148) rfl)
set_option maxRecDepth 100000 in
theorem wd_210 : (Jvm.Cond.fieldLink "CutBureau" (15 : Nat) "CutBureau" "pages" "[LCutBureau$Page;") ∈ lw_tbl := inT1 (List.mem_of_getElem? (i := 149) rfl)
set_option maxRecDepth 100000 in
theorem wd_211 : (Jvm.Cond.fieldLink "CutBureau" (19 : Nat) "CutBureau" "pageCount" "I") ∈ lw_tbl := inT1 (List.mem_of_getElem? (i := 150) rfl)
set_option maxRecDepth 100000 in
theorem wd_212 : (Jvm.Cond.fieldLink "CutBureau" (25 : Nat) "CutBureau" "pieces" "[LCutBureau$Piece;") ∈ lw_tbl := inT1 (List.mem_of_getElem? (i := 151) rfl)
set_option maxRecDepth 100000 in
theorem wd_213 : (Jvm.Cond.fieldLink "CutBureau" (29 : Nat) "CutBureau" "pieceCount" "I") ∈ lw_tbl := inT1 (List.mem_of_getElem? (i := 152) rfl)
set_option maxRecDepth 100000 in
theorem wd_214 : (Jvm.Cond.fieldLink "CutBureau" (32 : Nat) "CutBureau" "inOrder" "[LCutBureau$Piece;") ∈ lw_tbl := inT1 (List.mem_of_getElem? (i := 153) rfl)
set_option maxRecDepth 100000 in
theorem wd_215 : (Jvm.Cond.fieldLink "CutBureau" (37 : Nat) "CutBureau" "orders" "[LCutBureau$Order;") ∈ lw_tbl := inT1 (List.mem_of_getElem? (i := 154) rfl)
set_option maxRecDepth 100000 in
theorem wd_216 : (Jvm.Cond.fieldLink "CutBureau" (41 : Nat) "CutBureau" "orderCount" "I") ∈ lw_tbl := inT1 (List.mem_of_getElem? (i := 155) rfl)
set_option maxRecDepth 100000 in
theorem wd_217 : (Jvm.Cond.fieldLink "CutBureau" (47 : Nat) "CutBureau" "spoken" "LCutBureau$Rule;") ∈ lw_tbl := inT1 (List.mem_of_getElem? (i := 156) rfl)
set_option maxRecDepth 100000 in
theorem wd_218 : (Jvm.Cond.fieldLink "CutBureau" (54 : Nat) "CutBureau" "families" "LCutBureau$Families;") ∈ lw_tbl := inT1 (List.mem_of_getElem? (i := 157) rfl)
set_option maxRecDepth 100000 in
theorem wd_219 : (Jvm.Cond.fieldLink "CutBureau" (58 : Nat) "CutBureau" "listed" "[I") ∈ lw_tbl := inT1 (List.mem_of_getElem? (i := 158) rfl)
set_option maxRecDepth 100000 in
theorem wd_220 : (Jvm.Cond.fieldLink "CutBureau" (61 : Nat) "CutBureau" "listedCount" "I") ∈ lw_tbl := inT1 (List.mem_of_getElem? (i := 159) rfl)
set_option maxRecDepth 100000 in
theorem wd_221 : (Jvm.Cond.fieldLink "CutBureau" (66 : Nat) "CutBureau" "names" "[LCutBureau$Name;") ∈ lw_tbl := inT1 (List.mem_of_getElem? (i := 160) rfl)
set_option maxRecDepth 100000 in
theorem wd_222 : (Jvm.Cond.fieldLink "CutBureau" (73 : Nat) "CutBureau" "pairs" "LCutBureau$Asked;") ∈ lw_tbl := inT1 (List.mem_of_getElem? (i := 161) rfl)
set_option maxRecDepth 100000 in
theorem wd_223 : (Jvm.Cond.fieldLink "CutBureau" (79 : Nat) "CutBureau" "readers" "[LCutBureau$Reader;") ∈ lw_tbl := inT1 (List.mem_of_getElem? (i := 162) rfl)
set_option maxRecDepth 100000 in
theorem wd_224 : (Jvm.Cond.fieldLink "CutBureau" (86 : Nat) "CutBureau" "parting" "LCutBureau$Parting;") ∈ lw_tbl := inT1 (List.mem_of_getElem? (i := 163) rfl)
set_option maxRecDepth 100000 in
theorem wd_225 : (Jvm.Cond.fieldLink "CutBureau" (90 : Nat) "CutBureau" "missed" "[I") ∈ lw_tbl := inT1 (List.mem_of_getElem? (i := 164) rfl)
set_option maxRecDepth 100000 in
theorem wd_265 : (Jvm.Cond.methodLink "CutBureau" (95 : Nat) ({ cls := "CutBureau", name := "within", desc := "(III)Z" } : Jvm.MethodName)) ∈ lw_tbl := inT1 (List.mem_of_getElem? (i := 204) rfl)
set_option maxRecDepth 100000 in
theorem wd_266 : (Jvm.Cond.static ({ cls := "CutBureau", name := "within", desc := "(III)Z" } : Jvm.MethodName)) ∈ lw_tbl := inT1 (List.mem_of_getElem? (i := 205) rfl)
set_option maxRecDepth 100000 in
theorem wd_267 : (Jvm.Cond.code ({ cls := "CutBureau", name := "within", desc := "(III)Z" } : Jvm.MethodName) prog_1_method_34_code (3 : Nat) (Option.some Jvm.ClassFile.FieldType.boolean)) ∈ lw_tbl := inT1 (List.mem_of_getElem? (i := 206) rfl)
set_option maxRecDepth 100000 in
theorem wd_268 : (Jvm.Cond.methodLink "CutBureau" (99 : Nat) ({ cls := "CutBureau", name := "isDay", desc := "(I)Z" } : Jvm.MethodName)) ∈ lw_tbl := inT1 (List.mem_of_getElem? (i := 207) rfl)
set_option maxRecDepth 100000 in
theorem wd_269 : (Jvm.Cond.static ({ cls := "CutBureau", name := "isDay", desc := "(I)Z" } : Jvm.MethodName)) ∈ lw_tbl := inT1 (List.mem_of_getElem? (i := 208) rfl)
set_option maxRecDepth 100000 in
theorem wd_270 : (Jvm.Cond.code ({ cls := "CutBureau", name := "isDay", desc := "(I)Z" } : Jvm.MethodName) prog_1_method_36_code (1 : Nat) (Option.some Jvm.ClassFile.FieldType.boolean)) ∈ lw_tbl := inT1 (List.mem_of_getElem? (i := 209) rfl)
set_option maxRecDepth 100000 in
theorem wd_271 : (Jvm.Cond.instantiable "CutBureau$Page" (5 : Nat)) ∈ lw_tbl := inT1 (List.mem_of_getElem? (i := 210) rfl)
set_option maxRecDepth 100000 in
theorem wd_272 : (Jvm.Cond.methodLink "CutBureau" (103 : Nat) ({ cls := "CutBureau$Page", name := "<init>", desc := "(III)V" } : Jvm.MethodName)) ∈ lw_tbl := inT1 (List.mem_of_getElem? (i := 211) rfl)
set_option maxRecDepth 100000 in
theorem wd_273 : (Jvm.Cond.instanceMethod ({ cls := "CutBureau$Page", name := "<init>", desc := "(III)V" } : Jvm.MethodName)) ∈ lw_tbl := inT1 (List.mem_of_getElem? (i := 212) rfl)
set_option maxRecDepth 100000 in
theorem wd_274 : (Jvm.Cond.code ({ cls := "CutBureau$Page", name := "<init>", desc := "(III)V" } : Jvm.MethodName) prog_6_method_1_code (5 : Nat) (Option.none : Option Jvm.ClassFile.FieldType)) ∈ lw_tbl := inT1 (List.mem_of_getElem? (i := 213) rfl)
set_option maxRecDepth 100000 in
theorem wd_275 : (Jvm.Cond.methodLink "CutBureau$Page" (3 : Nat) ({ cls := "java/lang/Object", name := "<init>", desc := "()V" } : Jvm.MethodName)) ∈ lw_tbl := inT1 (List.mem_of_getElem? (i := 214) rfl)
set_option maxRecDepth 100000 in
theorem wd_276 : (Jvm.Cond.fieldLink "CutBureau$Page" (19 : Nat) "CutBureau$Page" "number" "I") ∈ lw_tbl := inT1 (List.mem_of_getElem? (i := 215) rfl)
set_option maxRecDepth 100000 in
theorem wd_277 : (Jvm.Cond.fieldLink "CutBureau" (138 : Nat) "CutBureau$Page" "number" "I") ∈ lw_tbl := inT1 (List.mem_of_getElem? (i := 216) rfl)
set_option maxRecDepth 100000 in
theorem wd_278 : (Jvm.Cond.fieldLink "CutBureau$Page" (23 : Nat) "CutBureau$Page" "paper" "I") ∈ lw_tbl := inT1 (List.mem_of_getElem? (i := 217) rfl)
set_option maxRecDepth 100000 in
theorem wd_279 : (Jvm.Cond.fieldLink "CutBureau$Order" (44 : Nat) "CutBureau$Page" "paper" "I") ∈ lw_tbl := inT1 (List.mem_of_getElem? (i := 218) rfl)
set_option maxRecDepth 100000 in
theorem wd_280 : (Jvm.Cond.fieldLink "CutBureau" (128 : Nat) "CutBureau$Page" "paper" "I") ∈ lw_tbl := inT1 (List.mem_of_getElem? (i := 219) rfl)
set_option maxRecDepth 100000 in
theorem wd_281 : (Jvm.Cond.fieldLink "CutBureau$Page" (26 : Nat) "CutBureau$Page" "day" "I") ∈ lw_tbl := inT1 (List.mem_of_getElem? (i := 220) rfl)
set_option maxRecDepth 100000 in
theorem wd_282 : (Jvm.Cond.fieldLink "CutBureau$Order" (39 : Nat) "CutBureau$Page" "day" "I") ∈ lw_tbl := inT1 (List.mem_of_getElem? (i := 221) rfl)
set_option maxRecDepth 100000 in
theorem wd_283 : (Jvm.Cond.fieldLink "CutBureau" (131 : Nat) "CutBureau$Page" "day" "I") ∈ lw_tbl := inT1 (List.mem_of_getElem? (i := 222) rfl)
set_option maxRecDepth 100000 in
theorem wd_284 : (Jvm.Cond.fieldLink "CutBureau$Page" (9 : Nat) "CutBureau$Page" "words" "[I") ∈ lw_tbl := inT1 (List.mem_of_getElem? (i := 223) rfl)
set_option maxRecDepth 100000 in
theorem wd_285 : (Jvm.Cond.fieldLink "CutBureau$Piece" (50 : Nat) "CutBureau$Page" "words" "[I") ∈ lw_tbl := inT1 (List.mem_of_getElem? (i := 224) rfl)
set_option maxRecDepth 100000 in
theorem wd_286 : (Jvm.Cond.fieldLink "CutBureau" (117 : Nat) "CutBureau$Page" "words" "[I") ∈ lw_tbl := inT1 (List.mem_of_getElem? (i := 225) rfl)
set_option maxRecDepth 100000 in
theorem wd_287 : (Jvm.Cond.fieldLink "CutBureau$Page" (15 : Nat) "CutBureau$Page" "otherSide" "LCutBureau$Page;") ∈ lw_tbl := inT1 (List.mem_of_getElem? (i := 226) rfl)
set_option maxRecDepth 100000 in
theorem wd_288 : (Jvm.Cond.fieldLink "CutBureau$Piece" (53 : Nat) "CutBureau$Page" "otherSide" "LCutBureau$Page;") ∈ lw_tbl := inT1 (List.mem_of_getElem? (i := 227) rfl)
set_option maxRecDepth 100000 in
theorem wd_289 : (Jvm.Cond.fieldLink "CutBureau" (134 : Nat) "CutBureau$Page" "otherSide" "LCutBureau$Page;") ∈ lw_tbl := inT1 (List.mem_of_getElem? (i := 228) rfl)
set_option maxRecDepth 100000 in
theorem wd_305 : (Jvm.Cond.methodLink "CutBureau" (106 : Nat) ({ cls := "CutBureau", name := "pageOf", desc := "(I)LCutBureau$Page;" } : Jvm.MethodName)) ∈ lw_tbl := inT2 (List.mem_of_getElem? (i := 4) rfl)
set_option maxRecDepth 100000 in
theorem wd_307 : (Jvm.Cond.instanceMethod ({ cls := "CutBureau", name := "pageOf", desc := "(I)LCutBureau$Page;" } : Jvm.MethodName)) ∈ lw_tbl := inT2 (List.mem_of_getElem? (i := 6) rfl)
set_option maxRecDepth 100000 in
theorem wd_308 : (Jvm.Cond.code ({ cls := "CutBureau", name := "pageOf", desc := "(I)LCutBureau$Page;" } : Jvm.MethodName) prog_1_method_43_code (2 : Nat) (Option.some (Jvm.ClassFile.FieldType.object "CutBureau$Page"))) ∈ lw_tbl := inT2 (List.mem_of_getElem? (i := 7) rfl)
set_option maxRecDepth 100000 in
theorem wd_309 : (Jvm.Cond.methodLink "CutBureau" (110 : Nat) ({ cls := "CutBureau", name := "isWordOrNone", desc := "(I)Z" } : Jvm.MethodName)) ∈ lw_tbl := inT2 (List.mem_of_getElem? (i := 8) rfl)
set_option maxRecDepth 100000 in
theorem wd_310 : (Jvm.Cond.static ({ cls := "CutBureau", name := "isWordOrNone", desc := "(I)Z" } : Jvm.MethodName)) ∈ lw_tbl := inT2 (List.mem_of_getElem? (i := 9) rfl)
set_option maxRecDepth 100000 in
theorem wd_311 : (Jvm.Cond.code ({ cls := "CutBureau", name := "isWordOrNone", desc := "(I)Z" } : Jvm.MethodName) prog_1_method_37_code (1 : Nat) (Option.some Jvm.ClassFile.FieldType.boolean)) ∈ lw_tbl := inT2 (List.mem_of_getElem? (i := 10) rfl)
set_option maxRecDepth 100000 in
theorem wd_312 : (Jvm.Cond.methodLink "CutBureau" (113 : Nat) ({ cls := "CutBureau", name := "isKept", desc := "(LCutBureau$Page;)Z" } : Jvm.MethodName)) ∈ lw_tbl := inT2 (List.mem_of_getElem? (i := 11) rfl)
set_option maxRecDepth 100000 in
theorem wd_314 : (Jvm.Cond.instanceMethod ({ cls := "CutBureau", name := "isKept", desc := "(LCutBureau$Page;)Z" } : Jvm.MethodName)) ∈ lw_tbl := inT2 (List.mem_of_getElem? (i := 13) rfl)
set_option maxRecDepth 100000 in
theorem wd_315 : (Jvm.Cond.code ({ cls := "CutBureau", name := "isKept", desc := "(LCutBureau$Page;)Z" } : Jvm.MethodName) prog_1_method_46_code (3 : Nat) (Option.some Jvm.ClassFile.FieldType.boolean)) ∈ lw_tbl := inT2 (List.mem_of_getElem? (i := 14) rfl)
set_option maxRecDepth 100000 in
theorem wd_316 : (Jvm.Cond.methodLink "CutBureau" (120 : Nat) ({ cls := "CutBureau", name := "readAgain", desc := "(LCutBureau$Page;)V" } : Jvm.MethodName)) ∈ lw_tbl := inT2 (List.mem_of_getElem? (i := 15) rfl)
set_option maxRecDepth 100000 in
theorem wd_318 : (Jvm.Cond.instanceMethod ({ cls := "CutBureau", name := "readAgain", desc := "(LCutBureau$Page;)V" } : Jvm.MethodName)) ∈ lw_tbl := inT2 (List.mem_of_getElem? (i := 17) rfl)
set_option maxRecDepth 100000 in
theorem wd_319 : (Jvm.Cond.code ({ cls := "CutBureau", name := "readAgain", desc := "(LCutBureau$Page;)V" } : Jvm.MethodName) prog_1_method_47_code (3 : Nat) (Option.none : Option Jvm.ClassFile.FieldType)) ∈ lw_tbl := inT2 (List.mem_of_getElem? (i := 18) rfl)
set_option maxRecDepth 100000 in
theorem wd_320 : (Jvm.Cond.methodLink "CutBureau" (151 : Nat) ({ cls := "CutBureau$Piece", name := "readWords", desc := "()V" } : Jvm.MethodName)) ∈ lw_tbl := inT2 (List.mem_of_getElem? (i := 19) rfl)
set_option maxRecDepth 100000 in
theorem wd_321 : (Jvm.Cond.instanceMethod ({ cls := "CutBureau$Piece", name := "readWords", desc := "()V" } : Jvm.MethodName)) ∈ lw_tbl := inT2 (List.mem_of_getElem? (i := 20) rfl)
set_option maxRecDepth 100000 in
theorem wd_322 : (Jvm.Cond.selects "CutBureau$Piece" ({ cls := "CutBureau$Piece", name := "readWords", desc := "()V" } : Jvm.MethodName) ({ cls := "CutBureau$Piece", name := "readWords", desc := "()V" } : Jvm.MethodName)) ∈ lw_tbl := inT2 (List.mem_of_getElem? (i := 21) rfl)
set_option maxRecDepth 100000 in
theorem wd_323 : (Jvm.Cond.code ({ cls := "CutBureau$Piece", name := "readWords", desc := "()V" } : Jvm.MethodName) prog_8_method_2_code (4 : Nat) (Option.none : Option Jvm.ClassFile.FieldType)) ∈ lw_tbl := inT2 (List.mem_of_getElem? (i := 22) rfl)
set_option maxRecDepth 100000 in
theorem wd_332 : (Jvm.Cond.methodLink "CutBureau" (141 : Nat) ({ cls := "CutBureau", name := "countPieces", desc := "(LCutBureau$Page;)I" } : Jvm.MethodName)) ∈ lw_tbl := inT2 (List.mem_of_getElem? (i := 31) rfl)
set_option maxRecDepth 100000 in
theorem wd_334 : (Jvm.Cond.instanceMethod ({ cls := "CutBureau", name := "countPieces", desc := "(LCutBureau$Page;)I" } : Jvm.MethodName)) ∈ lw_tbl := inT2 (List.mem_of_getElem? (i := 33) rfl)
set_option maxRecDepth 100000 in
theorem wd_335 : (Jvm.Cond.code ({ cls := "CutBureau", name := "countPieces", desc := "(LCutBureau$Page;)I" } : Jvm.MethodName) prog_1_method_48_code (4 : Nat) (Option.some Jvm.ClassFile.FieldType.int)) ∈ lw_tbl := inT2 (List.mem_of_getElem? (i := 34) rfl)
set_option maxRecDepth 100000 in
theorem wd_340 : (Jvm.Cond.methodLink "CutBureau" (145 : Nat) ({ cls := "CutBureau", name := "isRange", desc := "(III)Z" } : Jvm.MethodName)) ∈ lw_tbl := inT2 (List.mem_of_getElem? (i := 39) rfl)
set_option maxRecDepth 100000 in
theorem wd_341 : (Jvm.Cond.static ({ cls := "CutBureau", name := "isRange", desc := "(III)Z" } : Jvm.MethodName)) ∈ lw_tbl := inT2 (List.mem_of_getElem? (i := 40) rfl)
set_option maxRecDepth 100000 in
theorem wd_342 : (Jvm.Cond.code ({ cls := "CutBureau", name := "isRange", desc := "(III)Z" } : Jvm.MethodName) prog_1_method_35_code (3 : Nat) (Option.some Jvm.ClassFile.FieldType.boolean)) ∈ lw_tbl := inT2 (List.mem_of_getElem? (i := 41) rfl)
set_option maxRecDepth 100000 in
theorem wd_343 : (Jvm.Cond.instantiable "CutBureau$Piece" (12 : Nat)) ∈ lw_tbl := inT2 (List.mem_of_getElem? (i := 42) rfl)
set_option maxRecDepth 100000 in
theorem wd_344 : (Jvm.Cond.methodLink "CutBureau" (148 : Nat) ({ cls := "CutBureau$Piece", name := "<init>", desc := "(ILCutBureau$Page;IIII)V" } : Jvm.MethodName)) ∈ lw_tbl := inT2 (List.mem_of_getElem? (i := 43) rfl)
set_option maxRecDepth 100000 in
theorem wd_345 : (Jvm.Cond.instanceMethod ({ cls := "CutBureau$Piece", name := "<init>", desc := "(ILCutBureau$Page;IIII)V" } : Jvm.MethodName)) ∈ lw_tbl := inT2 (List.mem_of_getElem? (i := 44) rfl)
set_option maxRecDepth 100000 in
theorem wd_346 : (Jvm.Cond.code ({ cls := "CutBureau$Piece", name := "<init>", desc := "(ILCutBureau$Page;IIII)V" } : Jvm.MethodName) prog_8_method_1_code (7 : Nat) (Option.none : Option Jvm.ClassFile.FieldType)) ∈ lw_tbl := inT2 (List.mem_of_getElem? (i := 45) rfl)
set_option maxRecDepth 100000 in
theorem wd_347 : (Jvm.Cond.methodLink "CutBureau$Piece" (3 : Nat) ({ cls := "java/lang/Object", name := "<init>", desc := "()V" } : Jvm.MethodName)) ∈ lw_tbl := inT2 (List.mem_of_getElem? (i := 46) rfl)
set_option maxRecDepth 100000 in
theorem wd_348 : (Jvm.Cond.fieldLink "CutBureau$Piece" (31 : Nat) "CutBureau$Piece" "number" "I") ∈ lw_tbl := inT2 (List.mem_of_getElem? (i := 47) rfl)
set_option maxRecDepth 100000 in
theorem wd_349 : (Jvm.Cond.fieldLink "CutBureau$Families" (33 : Nat) "CutBureau$Piece" "number" "I") ∈ lw_tbl := inT2 (List.mem_of_getElem? (i := 48) rfl)
set_option maxRecDepth 100000 in
theorem wd_350 : (Jvm.Cond.fieldLink "CutBureau" (324 : Nat) "CutBureau$Piece" "number" "I") ∈ lw_tbl := inT2 (List.mem_of_getElem? (i := 49) rfl)
set_option maxRecDepth 100000 in
theorem wd_351 : (Jvm.Cond.fieldLink "CutBureau$Piece" (34 : Nat) "CutBureau$Piece" "page" "LCutBureau$Page;") ∈ lw_tbl := inT2 (List.mem_of_getElem? (i := 50) rfl)
set_option maxRecDepth 100000 in
theorem wd_352 : (Jvm.Cond.fieldLink "CutBureau$Order" (33 : Nat) "CutBureau$Piece" "page" "LCutBureau$Page;") ∈ lw_tbl := inT2 (List.mem_of_getElem? (i := 51) rfl)
set_option maxRecDepth 100000 in
theorem wd_353 : (Jvm.Cond.fieldLink "CutBureau" (166 : Nat) "CutBureau$Piece" "page" "LCutBureau$Page;") ∈ lw_tbl := inT2 (List.mem_of_getElem? (i := 52) rfl)
set_option maxRecDepth 100000 in
theorem wd_354 : (Jvm.Cond.fieldLink "CutBureau$Piece" (38 : Nat) "CutBureau$Piece" "top" "I") ∈ lw_tbl := inT2 (List.mem_of_getElem? (i := 53) rfl)
set_option maxRecDepth 100000 in
theorem wd_355 : (Jvm.Cond.fieldLink "CutBureau$Piece" (41 : Nat) "CutBureau$Piece" "bottom" "I") ∈ lw_tbl := inT2 (List.mem_of_getElem? (i := 54) rfl)
set_option maxRecDepth 100000 in
theorem wd_356 : (Jvm.Cond.fieldLink "CutBureau$Piece" (44 : Nat) "CutBureau$Piece" "left" "I") ∈ lw_tbl := inT2 (List.mem_of_getElem? (i := 55) rfl)
set_option maxRecDepth 100000 in
theorem wd_357 : (Jvm.Cond.fieldLink "CutBureau$Piece" (47 : Nat) "CutBureau$Piece" "right" "I") ∈ lw_tbl := inT2 (List.mem_of_getElem? (i := 56) rfl)
set_option maxRecDepth 100000 in
theorem wd_358 : (Jvm.Cond.fieldLink "CutBureau$Piece" (9 : Nat) "CutBureau$Piece" "words" "[I") ∈ lw_tbl := inT2 (List.mem_of_getElem? (i := 57) rfl)
set_option maxRecDepth 100000 in
theorem wd_359 : (Jvm.Cond.fieldLink "CutBureau$Name" (24 : Nat) "CutBureau$Piece" "words" "[I") ∈ lw_tbl := inT2 (List.mem_of_getElem? (i := 58) rfl)
set_option maxRecDepth 100000 in
theorem wd_360 : (Jvm.Cond.fieldLink "CutBureau$Families" (50 : Nat) "CutBureau$Piece" "words" "[I") ∈ lw_tbl := inT2 (List.mem_of_getElem? (i := 59) rfl)
set_option maxRecDepth 100000 in
theorem wd_361 : (Jvm.Cond.fieldLink "CutBureau" (183 : Nat) "CutBureau$Piece" "words" "[I") ∈ lw_tbl := inT2 (List.mem_of_getElem? (i := 60) rfl)
set_option maxRecDepth 100000 in
theorem wd_362 : (Jvm.Cond.fieldLink "CutBureau$Piece" (15 : Nat) "CutBureau$Piece" "count" "I") ∈ lw_tbl := inT2 (List.mem_of_getElem? (i := 61) rfl)
set_option maxRecDepth 100000 in
theorem wd_363 : (Jvm.Cond.fieldLink "CutBureau$Name" (19 : Nat) "CutBureau$Piece" "count" "I") ∈ lw_tbl := inT2 (List.mem_of_getElem? (i := 62) rfl)
set_option maxRecDepth 100000 in
theorem wd_364 : (Jvm.Cond.fieldLink "CutBureau$Families" (43 : Nat) "CutBureau$Piece" "count" "I") ∈ lw_tbl := inT2 (List.mem_of_getElem? (i := 63) rfl)
set_option maxRecDepth 100000 in
theorem wd_365 : (Jvm.Cond.fieldLink "CutBureau" (169 : Nat) "CutBureau$Piece" "count" "I") ∈ lw_tbl := inT2 (List.mem_of_getElem? (i := 64) rfl)
set_option maxRecDepth 100000 in
theorem wd_366 : (Jvm.Cond.fieldLink "CutBureau$Piece" (19 : Nat) "CutBureau$Piece" "first" "I") ∈ lw_tbl := inT2 (List.mem_of_getElem? (i := 65) rfl)
set_option maxRecDepth 100000 in
theorem wd_367 : (Jvm.Cond.fieldLink "CutBureau$Families" (25 : Nat) "CutBureau$Piece" "first" "I") ∈ lw_tbl := inT2 (List.mem_of_getElem? (i := 66) rfl)
set_option maxRecDepth 100000 in
theorem wd_368 : (Jvm.Cond.fieldLink "CutBureau" (177 : Nat) "CutBureau$Piece" "first" "I") ∈ lw_tbl := inT2 (List.mem_of_getElem? (i := 67) rfl)
set_option maxRecDepth 100000 in
theorem wd_369 : (Jvm.Cond.fieldLink "CutBureau$Piece" (22 : Nat) "CutBureau$Piece" "familySize" "I") ∈ lw_tbl := inT2 (List.mem_of_getElem? (i := 68) rfl)
set_option maxRecDepth 100000 in
theorem wd_370 : (Jvm.Cond.fieldLink "CutBureau$Families" (40 : Nat) "CutBureau$Piece" "familySize" "I") ∈ lw_tbl := inT2 (List.mem_of_getElem? (i := 69) rfl)
set_option maxRecDepth 100000 in
theorem wd_371 : (Jvm.Cond.fieldLink "CutBureau" (180 : Nat) "CutBureau$Piece" "familySize" "I") ∈ lw_tbl := inT2 (List.mem_of_getElem? (i := 70) rfl)
set_option maxRecDepth 100000 in
theorem wd_372 : (Jvm.Cond.fieldLink "CutBureau$Piece" (25 : Nat) "CutBureau$Piece" "names" "I") ∈ lw_tbl := inT2 (List.mem_of_getElem? (i := 71) rfl)
set_option maxRecDepth 100000 in
theorem wd_373 : (Jvm.Cond.fieldLink "CutBureau" (172 : Nat) "CutBureau$Piece" "names" "I") ∈ lw_tbl := inT2 (List.mem_of_getElem? (i := 72) rfl)
set_option maxRecDepth 100000 in
theorem wd_374 : (Jvm.Cond.fieldLink "CutBureau$Piece" (28 : Nat) "CutBureau$Piece" "sent" "I") ∈ lw_tbl := inT2 (List.mem_of_getElem? (i := 73) rfl)
set_option maxRecDepth 100000 in
theorem wd_375 : (Jvm.Cond.fieldLink "CutBureau" (174 : Nat) "CutBureau$Piece" "sent" "I") ∈ lw_tbl := inT2 (List.mem_of_getElem? (i := 74) rfl)
set_option maxRecDepth 100000 in
theorem wd_401 : (Jvm.Cond.methodLink "CutBureau" (154 : Nat) ({ cls := "CutBureau", name := "putInOrder", desc := "(LCutBureau$Piece;)V" } : Jvm.MethodName)) ∈ lw_tbl := inT2 (List.mem_of_getElem? (i := 100) rfl)
set_option maxRecDepth 100000 in
theorem wd_403 : (Jvm.Cond.instanceMethod ({ cls := "CutBureau", name := "putInOrder", desc := "(LCutBureau$Piece;)V" } : Jvm.MethodName)) ∈ lw_tbl := inT2 (List.mem_of_getElem? (i := 102) rfl)
set_option maxRecDepth 100000 in
theorem wd_404 : (Jvm.Cond.code ({ cls := "CutBureau", name := "putInOrder", desc := "(LCutBureau$Piece;)V" } : Jvm.MethodName) prog_1_method_49_code (3 : Nat) (Option.none : Option Jvm.ClassFile.FieldType)) ∈ lw_tbl := inT2 (List.mem_of_getElem? (i := 103) rfl)
set_option maxRecDepth 100000 in
theorem wd_405 : (Jvm.Cond.methodLink "CutBureau" (331 : Nat) ({ cls := "CutBureau$Page", name := "isLaterThan", desc := "(LCutBureau$Page;)Z" } : Jvm.MethodName)) ∈ lw_tbl := inT2 (List.mem_of_getElem? (i := 104) rfl)
set_option maxRecDepth 100000 in
theorem wd_406 : (Jvm.Cond.instanceMethod ({ cls := "CutBureau$Page", name := "isLaterThan", desc := "(LCutBureau$Page;)Z" } : Jvm.MethodName)) ∈ lw_tbl := inT2 (List.mem_of_getElem? (i := 105) rfl)
set_option maxRecDepth 100000 in
theorem wd_407 : (Jvm.Cond.selects "CutBureau$Page" ({ cls := "CutBureau$Page", name := "isLaterThan", desc := "(LCutBureau$Page;)Z" } : Jvm.MethodName) ({ cls := "CutBureau$Page", name := "isLaterThan", desc := "(LCutBureau$Page;)Z" } : Jvm.MethodName)) ∈ lw_tbl := inT2 (List.mem_of_getElem? (i := 106) rfl)
set_option maxRecDepth 100000 in
theorem wd_408 : (Jvm.Cond.code ({ cls := "CutBureau$Page", name := "isLaterThan", desc := "(LCutBureau$Page;)Z" } : Jvm.MethodName) prog_6_method_2_code (2 : Nat) (Option.some Jvm.ClassFile.FieldType.boolean)) ∈ lw_tbl := inT2 (List.mem_of_getElem? (i := 107) rfl)
set_option maxRecDepth 100000 in
theorem wd_413 : (Jvm.Cond.methodLink "CutBureau" (158 : Nat) ({ cls := "CutBureau", name := "pieceOf", desc := "(I)LCutBureau$Piece;" } : Jvm.MethodName)) ∈ lw_tbl := inT2 (List.mem_of_getElem? (i := 112) rfl)
set_option maxRecDepth 100000 in
theorem wd_415 : (Jvm.Cond.instanceMethod ({ cls := "CutBureau", name := "pieceOf", desc := "(I)LCutBureau$Piece;" } : Jvm.MethodName)) ∈ lw_tbl := inT2 (List.mem_of_getElem? (i := 114) rfl)
set_option maxRecDepth 100000 in
theorem wd_416 : (Jvm.Cond.code ({ cls := "CutBureau", name := "pieceOf", desc := "(I)LCutBureau$Piece;" } : Jvm.MethodName) prog_1_method_44_code (2 : Nat) (Option.some (Jvm.ClassFile.FieldType.object "CutBureau$Piece"))) ∈ lw_tbl := inT2 (List.mem_of_getElem? (i := 115) rfl)
set_option maxRecDepth 100000 in
theorem wd_417 : (Jvm.Cond.methodLink "CutBureau" (162 : Nat) ({ cls := "CutBureau$Families", name := "gather", desc := "([LCutBureau$Piece;II)V" } : Jvm.MethodName)) ∈ lw_tbl := inT2 (List.mem_of_getElem? (i := 116) rfl)
set_option maxRecDepth 100000 in
theorem wd_418 : (Jvm.Cond.instanceMethod ({ cls := "CutBureau$Families", name := "gather", desc := "([LCutBureau$Piece;II)V" } : Jvm.MethodName)) ∈ lw_tbl := inT2 (List.mem_of_getElem? (i := 117) rfl)
set_option maxRecDepth 100000 in
theorem wd_419 : (Jvm.Cond.selects "CutBureau$Families" ({ cls := "CutBureau$Families", name := "gather", desc := "([LCutBureau$Piece;II)V" } : Jvm.MethodName) ({ cls := "CutBureau$Families", name := "gather", desc := "([LCutBureau$Piece;II)V" } : Jvm.MethodName)) ∈ lw_tbl := inT2 (List.mem_of_getElem? (i := 118) rfl)
set_option maxRecDepth 100000 in
theorem wd_420 : (Jvm.Cond.code ({ cls := "CutBureau$Families", name := "gather", desc := "([LCutBureau$Piece;II)V" } : Jvm.MethodName) prog_3_method_2_code (5 : Nat) (Option.none : Option Jvm.ClassFile.FieldType)) ∈ lw_tbl := inT2 (List.mem_of_getElem? (i := 119) rfl)
set_option maxRecDepth 100000 in
theorem wd_421 : (Jvm.Cond.methodLink "CutBureau$Families" (29 : Nat) ({ cls := "CutBureau$Families", name := "gatherOne", desc := "([LCutBureau$Piece;III)V" } : Jvm.MethodName)) ∈ lw_tbl := inT2 (List.mem_of_getElem? (i := 120) rfl)
set_option maxRecDepth 100000 in
theorem wd_423 : (Jvm.Cond.instanceMethod ({ cls := "CutBureau$Families", name := "gatherOne", desc := "([LCutBureau$Piece;III)V" } : Jvm.MethodName)) ∈ lw_tbl := inT2 (List.mem_of_getElem? (i := 122) rfl)
set_option maxRecDepth 100000 in
theorem wd_424 : (Jvm.Cond.code ({ cls := "CutBureau$Families", name := "gatherOne", desc := "([LCutBureau$Piece;III)V" } : Jvm.MethodName) prog_3_method_3_code (10 : Nat) (Option.none : Option Jvm.ClassFile.FieldType)) ∈ lw_tbl := inT2 (List.mem_of_getElem? (i := 123) rfl)
set_option maxRecDepth 100000 in
theorem wd_425 : (Jvm.Cond.methodLink "CutBureau$Families" (36 : Nat) ({ cls := "CutBureau$Families", name := "areDoubles", desc := "(LCutBureau$Piece;LCutBureau$Piece;I)Z" } : Jvm.MethodName)) ∈ lw_tbl := inT2 (List.mem_of_getElem? (i := 124) rfl)
set_option maxRecDepth 100000 in
theorem wd_427 : (Jvm.Cond.instanceMethod ({ cls := "CutBureau$Families", name := "areDoubles", desc := "(LCutBureau$Piece;LCutBureau$Piece;I)Z" } : Jvm.MethodName)) ∈ lw_tbl := inT2 (List.mem_of_getElem? (i := 126) rfl)
set_option maxRecDepth 100000 in
theorem wd_428 : (Jvm.Cond.code ({ cls := "CutBureau$Families", name := "areDoubles", desc := "(LCutBureau$Piece;LCutBureau$Piece;I)Z" } : Jvm.MethodName) prog_3_method_4_code (7 : Nat) (Option.some Jvm.ClassFile.FieldType.boolean)) ∈ lw_tbl := inT2 (List.mem_of_getElem? (i := 127) rfl)
set_option maxRecDepth 100000 in
theorem wd_429 : (Jvm.Cond.methodLink "CutBureau$Families" (46 : Nat) ({ cls := "CutBureau$Families", name := "leastChanges", desc := "(LCutBureau$Piece;LCutBureau$Piece;)I" } : Jvm.MethodName)) ∈ lw_tbl := inT2 (List.mem_of_getElem? (i := 128) rfl)
set_option maxRecDepth 100000 in
theorem wd_430 : (Jvm.Cond.instanceMethod ({ cls := "CutBureau$Families", name := "leastChanges", desc := "(LCutBureau$Piece;LCutBureau$Piece;)I" } : Jvm.MethodName)) ∈ lw_tbl := inT2 (List.mem_of_getElem? (i := 129) rfl)
set_option maxRecDepth 100000 in
theorem wd_431 : (Jvm.Cond.selects "CutBureau$Families" ({ cls := "CutBureau$Families", name := "leastChanges", desc := "(LCutBureau$Piece;LCutBureau$Piece;)I" } : Jvm.MethodName) ({ cls := "CutBureau$Families", name := "leastChanges", desc := "(LCutBureau$Piece;LCutBureau$Piece;)I" } : Jvm.MethodName)) ∈ lw_tbl := inT2 (List.mem_of_getElem? (i := 130) rfl)
set_option maxRecDepth 100000 in
theorem wd_432 : (Jvm.Cond.code ({ cls := "CutBureau$Families", name := "leastChanges", desc := "(LCutBureau$Piece;LCutBureau$Piece;)I" } : Jvm.MethodName) prog_3_method_5_code (7 : Nat) (Option.some Jvm.ClassFile.FieldType.int)) ∈ lw_tbl := inT2 (List.mem_of_getElem? (i := 131) rfl)
set_option maxRecDepth 100000 in
theorem wd_433 : (Jvm.Cond.methodLinkNest "CutBureau$Families" (53 : Nat) ({ cls := "CutBureau", name := "oneIf", desc := "(Z)I" } : Jvm.MethodName) "CutBureau") ∈ lw_tbl := inT2 (List.mem_of_getElem? (i := 132) rfl)
set_option maxRecDepth 100000 in
theorem wd_434 : (Jvm.Cond.static ({ cls := "CutBureau", name := "oneIf", desc := "(Z)I" } : Jvm.MethodName)) ∈ lw_tbl := inT2 (List.mem_of_getElem? (i := 133) rfl)
set_option maxRecDepth 100000 in
theorem wd_435 : (Jvm.Cond.code ({ cls := "CutBureau", name := "oneIf", desc := "(Z)I" } : Jvm.MethodName) prog_1_method_42_code (1 : Nat) (Option.some Jvm.ClassFile.FieldType.int)) ∈ lw_tbl := inT2 (List.mem_of_getElem? (i := 134) rfl)
set_option maxRecDepth 100000 in
theorem wd_436 : (Jvm.Cond.methodLink "CutBureau$Families" (57 : Nat) ({ cls := "java/lang/Math", name := "min", desc := "(II)I" } : Jvm.MethodName)) ∈ lw_tbl := inT2 (List.mem_of_getElem? (i := 135) rfl)
set_option maxRecDepth 100000 in
theorem wd_447 : (Jvm.Cond.methodLink "CutBureau" (184 : Nat) ({ cls := "CutBureau$Piece", name := "clashesWith", desc := "(LCutBureau$Piece;)Z" } : Jvm.MethodName)) ∈ lw_tbl := inT2 (List.mem_of_getElem? (i := 146) rfl)
set_option maxRecDepth 100000 in
theorem wd_448 : (Jvm.Cond.instanceMethod ({ cls := "CutBureau$Piece", name := "clashesWith", desc := "(LCutBureau$Piece;)Z" } : Jvm.MethodName)) ∈ lw_tbl := inT2 (List.mem_of_getElem? (i := 147) rfl)
set_option maxRecDepth 100000 in
theorem wd_449 : (Jvm.Cond.selects "CutBureau$Piece" ({ cls := "CutBureau$Piece", name := "clashesWith", desc := "(LCutBureau$Piece;)Z" } : Jvm.MethodName) ({ cls := "CutBureau$Piece", name := "clashesWith", desc := "(LCutBureau$Piece;)Z" } : Jvm.MethodName)) ∈ lw_tbl := inT2 (List.mem_of_getElem? (i := 148) rfl)
set_option maxRecDepth 100000 in
theorem wd_450 : (Jvm.Cond.code ({ cls := "CutBureau$Piece", name := "clashesWith", desc := "(LCutBureau$Piece;)Z" } : Jvm.MethodName) prog_8_method_3_code (3 : Nat) (Option.some Jvm.ClassFile.FieldType.boolean)) ∈ lw_tbl := inT2 (List.mem_of_getElem? (i := 149) rfl)
set_option maxRecDepth 100000 in
theorem wd_451 : (Jvm.Cond.methodLink "CutBureau" (188 : Nat) ({ cls := "CutBureau", name := "oneIf", desc := "(Z)I" } : Jvm.MethodName)) ∈ lw_tbl := inT2 (List.mem_of_getElem? (i := 150) rfl)
set_option maxRecDepth 100000 in
theorem wd_464 : (Jvm.Cond.methodLink "CutBureau" (198 : Nat) ({ cls := "CutBureau$Rule", name := "faultPlace", desc := "()I" } : Jvm.MethodName)) ∈ lw_tbl := inT2 (List.mem_of_getElem? (i := 163) rfl)
set_option maxRecDepth 100000 in
theorem wd_465 : (Jvm.Cond.instanceMethod ({ cls := "CutBureau$Rule", name := "faultPlace", desc := "()I" } : Jvm.MethodName)) ∈ lw_tbl := inT2 (List.mem_of_getElem? (i := 164) rfl)
set_option maxRecDepth 100000 in
theorem wd_466 : (Jvm.Cond.selects "CutBureau$Rule" ({ cls := "CutBureau$Rule", name := "faultPlace", desc := "()I" } : Jvm.MethodName) ({ cls := "CutBureau$Rule", name := "faultPlace", desc := "()I" } : Jvm.MethodName)) ∈ lw_tbl := inT2 (List.mem_of_getElem? (i := 165) rfl)
set_option maxRecDepth 100000 in
theorem wd_467 : (Jvm.Cond.code ({ cls := "CutBureau$Rule", name := "faultPlace", desc := "()I" } : Jvm.MethodName) prog_10_method_2_code (4 : Nat) (Option.some Jvm.ClassFile.FieldType.int)) ∈ lw_tbl := inT2 (List.mem_of_getElem? (i := 166) rfl)
set_option maxRecDepth 100000 in
theorem wd_468 : (Jvm.Cond.methodLink "CutBureau$Rule" (19 : Nat) ({ cls := "CutBureau$Rule", name := "stateAfter", desc := "(III)I" } : Jvm.MethodName)) ∈ lw_tbl := inT2 (List.mem_of_getElem? (i := 167) rfl)
set_option maxRecDepth 100000 in
theorem wd_469 : (Jvm.Cond.static ({ cls := "CutBureau$Rule", name := "stateAfter", desc := "(III)I" } : Jvm.MethodName)) ∈ lw_tbl := inT2 (List.mem_of_getElem? (i := 168) rfl)
set_option maxRecDepth 100000 in
theorem wd_470 : (Jvm.Cond.code ({ cls := "CutBureau$Rule", name := "stateAfter", desc := "(III)I" } : Jvm.MethodName) prog_10_method_3_code (4 : Nat) (Option.some Jvm.ClassFile.FieldType.int)) ∈ lw_tbl := inT2 (List.mem_of_getElem? (i := 169) rfl)
set_option maxRecDepth 100000 in
theorem wd_471 : (Jvm.Cond.methodLink "CutBureau$Rule" (23 : Nat) ({ cls := "CutBureau$Rule", name := "stateAfterWord", desc := "(II)I" } : Jvm.MethodName)) ∈ lw_tbl := inT2 (List.mem_of_getElem? (i := 170) rfl)
set_option maxRecDepth 100000 in
theorem wd_472 : (Jvm.Cond.static ({ cls := "CutBureau$Rule", name := "stateAfterWord", desc := "(II)I" } : Jvm.MethodName)) ∈ lw_tbl := inT2 (List.mem_of_getElem? (i := 171) rfl)
set_option maxRecDepth 100000 in
theorem wd_473 : (Jvm.Cond.code ({ cls := "CutBureau$Rule", name := "stateAfterWord", desc := "(II)I" } : Jvm.MethodName) prog_10_method_4_code (2 : Nat) (Option.some Jvm.ClassFile.FieldType.int)) ∈ lw_tbl := inT2 (List.mem_of_getElem? (i := 172) rfl)
set_option maxRecDepth 100000 in
theorem wd_474 : (Jvm.Cond.methodLink "CutBureau$Rule" (27 : Nat) ({ cls := "CutBureau$Rule", name := "stateAfterItem", desc := "(II)I" } : Jvm.MethodName)) ∈ lw_tbl := inT2 (List.mem_of_getElem? (i := 173) rfl)
set_option maxRecDepth 100000 in
theorem wd_475 : (Jvm.Cond.static ({ cls := "CutBureau$Rule", name := "stateAfterItem", desc := "(II)I" } : Jvm.MethodName)) ∈ lw_tbl := inT2 (List.mem_of_getElem? (i := 174) rfl)
set_option maxRecDepth 100000 in
theorem wd_476 : (Jvm.Cond.code ({ cls := "CutBureau$Rule", name := "stateAfterItem", desc := "(II)I" } : Jvm.MethodName) prog_10_method_5_code (2 : Nat) (Option.some Jvm.ClassFile.FieldType.int)) ∈ lw_tbl := inT2 (List.mem_of_getElem? (i := 175) rfl)
set_option maxRecDepth 100000 in
theorem wd_481 : (Jvm.Cond.methodLink "CutBureau" (202 : Nat) ({ cls := "CutBureau", name := "isClient", desc := "(I)Z" } : Jvm.MethodName)) ∈ lw_tbl := inT2 (List.mem_of_getElem? (i := 180) rfl)
set_option maxRecDepth 100000 in
theorem wd_482 : (Jvm.Cond.static ({ cls := "CutBureau", name := "isClient", desc := "(I)Z" } : Jvm.MethodName)) ∈ lw_tbl := inT2 (List.mem_of_getElem? (i := 181) rfl)
set_option maxRecDepth 100000 in
theorem wd_483 : (Jvm.Cond.code ({ cls := "CutBureau", name := "isClient", desc := "(I)Z" } : Jvm.MethodName) prog_1_method_38_code (1 : Nat) (Option.some Jvm.ClassFile.FieldType.boolean)) ∈ lw_tbl := inT2 (List.mem_of_getElem? (i := 182) rfl)
set_option maxRecDepth 100000 in
theorem wd_484 : (Jvm.Cond.instantiable "CutBureau$Order" (7 : Nat)) ∈ lw_tbl := inT2 (List.mem_of_getElem? (i := 183) rfl)
set_option maxRecDepth 100000 in
theorem wd_485 : (Jvm.Cond.methodLink "CutBureau" (205 : Nat) ({ cls := "CutBureau$Order", name := "<init>", desc := "(ILCutBureau$Rule;IIIIZ)V" } : Jvm.MethodName)) ∈ lw_tbl := inT2 (List.mem_of_getElem? (i := 184) rfl)
set_option maxRecDepth 100000 in
theorem wd_486 : (Jvm.Cond.instanceMethod ({ cls := "CutBureau$Order", name := "<init>", desc := "(ILCutBureau$Rule;IIIIZ)V" } : Jvm.MethodName)) ∈ lw_tbl := inT2 (List.mem_of_getElem? (i := 185) rfl)
set_option maxRecDepth 100000 in
theorem wd_487 : (Jvm.Cond.code ({ cls := "CutBureau$Order", name := "<init>", desc := "(ILCutBureau$Rule;IIIIZ)V" } : Jvm.MethodName) prog_5_method_1_code (8 : Nat) (Option.none : Option Jvm.ClassFile.FieldType)) ∈ lw_tbl := inT2 (List.mem_of_getElem? (i := 186) rfl)
set_option maxRecDepth 100000 in
theorem wd_488 : (Jvm.Cond.methodLink "CutBureau$Order" (1 : Nat) ({ cls := "java/lang/Object", name := "<init>", desc := "()V" } : Jvm.MethodName)) ∈ lw_tbl := inT2 (List.mem_of_getElem? (i := 187) rfl)
set_option maxRecDepth 100000 in
theorem wd_489 : (Jvm.Cond.fieldLink "CutBureau$Order" (7 : Nat) "CutBureau$Order" "client" "I") ∈ lw_tbl := inT2 (List.mem_of_getElem? (i := 188) rfl)
set_option maxRecDepth 100000 in
theorem wd_490 : (Jvm.Cond.fieldLink "CutBureau" (359 : Nat) "CutBureau$Order" "client" "I") ∈ lw_tbl := inT2 (List.mem_of_getElem? (i := 189) rfl)
set_option maxRecDepth 100000 in
theorem wd_491 : (Jvm.Cond.fieldLink "CutBureau$Order" (13 : Nat) "CutBureau$Order" "rule" "LCutBureau$Rule;") ∈ lw_tbl := inT2 (List.mem_of_getElem? (i := 190) rfl)
set_option maxRecDepth 100000 in
theorem wd_492 : (Jvm.Cond.fieldLink "CutBureau" (215 : Nat) "CutBureau$Order" "rule" "LCutBureau$Rule;") ∈ lw_tbl := inT2 (List.mem_of_getElem? (i := 191) rfl)
set_option maxRecDepth 100000 in
theorem wd_493 : (Jvm.Cond.fieldLink "CutBureau$Order" (17 : Nat) "CutBureau$Order" "papers" "I") ∈ lw_tbl := inT2 (List.mem_of_getElem? (i := 192) rfl)
set_option maxRecDepth 100000 in
theorem wd_494 : (Jvm.Cond.fieldLink "CutBureau$Order" (20 : Nat) "CutBureau$Order" "from" "I") ∈ lw_tbl := inT2 (List.mem_of_getElem? (i := 193) rfl)
set_option maxRecDepth 100000 in
theorem wd_495 : (Jvm.Cond.fieldLink "CutBureau$Order" (23 : Nat) "CutBureau$Order" "till" "I") ∈ lw_tbl := inT2 (List.mem_of_getElem? (i := 194) rfl)
set_option maxRecDepth 100000 in
theorem wd_496 : (Jvm.Cond.fieldLink "CutBureau$Order" (26 : Nat) "CutBureau$Order" "most" "I") ∈ lw_tbl := inT2 (List.mem_of_getElem? (i := 195) rfl)
set_option maxRecDepth 100000 in
theorem wd_497 : (Jvm.Cond.fieldLink "CutBureau" (337 : Nat) "CutBureau$Order" "most" "I") ∈ lw_tbl := inT2 (List.mem_of_getElem? (i := 196) rfl)
set_option maxRecDepth 100000 in
theorem wd_498 : (Jvm.Cond.fieldLink "CutBureau$Order" (29 : Nat) "CutBureau$Order" "once" "Z") ∈ lw_tbl := inT2 (List.mem_of_getElem? (i := 197) rfl)
set_option maxRecDepth 100000 in
theorem wd_499 : (Jvm.Cond.fieldLink "CutBureau" (334 : Nat) "CutBureau$Order" "once" "Z") ∈ lw_tbl := inT2 (List.mem_of_getElem? (i := 198) rfl)
set_option maxRecDepth 100000 in
theorem wd_519 : (Jvm.Cond.methodLink "CutBureau" (208 : Nat) ({ cls := "CutBureau", name := "orderOf", desc := "(I)LCutBureau$Order;" } : Jvm.MethodName)) ∈ lw_tbl := inT2 (List.mem_of_getElem? (i := 218) rfl)
set_option maxRecDepth 100000 in
theorem wd_521 : (Jvm.Cond.instanceMethod ({ cls := "CutBureau", name := "orderOf", desc := "(I)LCutBureau$Order;" } : Jvm.MethodName)) ∈ lw_tbl := inT2 (List.mem_of_getElem? (i := 220) rfl)
set_option maxRecDepth 100000 in
theorem wd_522 : (Jvm.Cond.code ({ cls := "CutBureau", name := "orderOf", desc := "(I)LCutBureau$Order;" } : Jvm.MethodName) prog_1_method_45_code (2 : Nat) (Option.some (Jvm.ClassFile.FieldType.object "CutBureau$Order"))) ∈ lw_tbl := inT2 (List.mem_of_getElem? (i := 221) rfl)
set_option maxRecDepth 100000 in
theorem wd_523 : (Jvm.Cond.methodLink "CutBureau" (212 : Nat) ({ cls := "CutBureau$Order", name := "asksFor", desc := "(LCutBureau$Piece;)Z" } : Jvm.MethodName)) ∈ lw_tbl := inT2 (List.mem_of_getElem? (i := 222) rfl)
set_option maxRecDepth 100000 in
theorem wd_524 : (Jvm.Cond.instanceMethod ({ cls := "CutBureau$Order", name := "asksFor", desc := "(LCutBureau$Piece;)Z" } : Jvm.MethodName)) ∈ lw_tbl := inT2 (List.mem_of_getElem? (i := 223) rfl)
set_option maxRecDepth 100000 in
theorem wd_525 : (Jvm.Cond.selects "CutBureau$Order" ({ cls := "CutBureau$Order", name := "asksFor", desc := "(LCutBureau$Piece;)Z" } : Jvm.MethodName) ({ cls := "CutBureau$Order", name := "asksFor", desc := "(LCutBureau$Piece;)Z" } : Jvm.MethodName)) ∈ lw_tbl := inT2 (List.mem_of_getElem? (i := 224) rfl)
set_option maxRecDepth 100000 in
theorem wd_526 : (Jvm.Cond.code ({ cls := "CutBureau$Order", name := "asksFor", desc := "(LCutBureau$Piece;)Z" } : Jvm.MethodName) prog_5_method_2_code (3 : Nat) (Option.some Jvm.ClassFile.FieldType.boolean)) ∈ lw_tbl := inT2 (List.mem_of_getElem? (i := 225) rfl)
set_option maxRecDepth 100000 in
theorem wd_527 : (Jvm.Cond.methodLinkNest "CutBureau$Order" (47 : Nat) ({ cls := "CutBureau", name := "hasBit", desc := "(II)Z" } : Jvm.MethodName) "CutBureau") ∈ lw_tbl := inT2 (List.mem_of_getElem? (i := 226) rfl)
set_option maxRecDepth 100000 in
theorem wd_528 : (Jvm.Cond.static ({ cls := "CutBureau", name := "hasBit", desc := "(II)Z" } : Jvm.MethodName)) ∈ lw_tbl := inT2 (List.mem_of_getElem? (i := 227) rfl)
set_option maxRecDepth 100000 in
theorem wd_529 : (Jvm.Cond.code ({ cls := "CutBureau", name := "hasBit", desc := "(II)Z" } : Jvm.MethodName) prog_1_method_41_code (2 : Nat) (Option.some Jvm.ClassFile.FieldType.boolean)) ∈ lw_tbl := inT2 (List.mem_of_getElem? (i := 228) rfl)
set_option maxRecDepth 100000 in
theorem wd_530 : (Jvm.Cond.methodLink "CutBureau$Order" (53 : Nat) ({ cls := "CutBureau$Rule", name := "isSo", desc := "(LCutBureau$Piece;)Z" } : Jvm.MethodName)) ∈ lw_tbl := inT2 (List.mem_of_getElem? (i := 229) rfl)
set_option maxRecDepth 100000 in
theorem wd_531 : (Jvm.Cond.instanceMethod ({ cls := "CutBureau$Rule", name := "isSo", desc := "(LCutBureau$Piece;)Z" } : Jvm.MethodName)) ∈ lw_tbl := inT2 (List.mem_of_getElem? (i := 230) rfl)
set_option maxRecDepth 100000 in
theorem wd_532 : (Jvm.Cond.selects "CutBureau$Rule" ({ cls := "CutBureau$Rule", name := "isSo", desc := "(LCutBureau$Piece;)Z" } : Jvm.MethodName) ({ cls := "CutBureau$Rule", name := "isSo", desc := "(LCutBureau$Piece;)Z" } : Jvm.MethodName)) ∈ lw_tbl := inT2 (List.mem_of_getElem? (i := 231) rfl)
set_option maxRecDepth 100000 in
theorem wd_533 : (Jvm.Cond.code ({ cls := "CutBureau$Rule", name := "isSo", desc := "(LCutBureau$Piece;)Z" } : Jvm.MethodName) prog_10_method_6_code (9 : Nat) (Option.some Jvm.ClassFile.FieldType.boolean)) ∈ lw_tbl := inT2 (List.mem_of_getElem? (i := 232) rfl)
set_option maxRecDepth 100000 in
theorem wd_534 : (Jvm.Cond.methodLink "CutBureau$Rule" (30 : Nat) ({ cls := "CutBureau$Rule", name := "startsItem", desc := "(I)Z" } : Jvm.MethodName)) ∈ lw_tbl := inT2 (List.mem_of_getElem? (i := 233) rfl)
set_option maxRecDepth 100000 in
theorem wd_536 : (Jvm.Cond.instanceMethod ({ cls := "CutBureau$Rule", name := "startsItem", desc := "(I)Z" } : Jvm.MethodName)) ∈ lw_tbl := inT2 (List.mem_of_getElem? (i := 235) rfl)
set_option maxRecDepth 100000 in
theorem wd_537 : (Jvm.Cond.code ({ cls := "CutBureau$Rule", name := "startsItem", desc := "(I)Z" } : Jvm.MethodName) prog_10_method_7_code (4 : Nat) (Option.some Jvm.ClassFile.FieldType.boolean)) ∈ lw_tbl := inT2 (List.mem_of_getElem? (i := 236) rfl)
set_option maxRecDepth 100000 in
theorem wd_538 : (Jvm.Cond.methodLink "CutBureau$Rule" (42 : Nat) ({ cls := "CutBureau$Rule", name := "signAt", desc := "(I)I" } : Jvm.MethodName)) ∈ lw_tbl := inT2 (List.mem_of_getElem? (i := 237) rfl)
set_option maxRecDepth 100000 in
theorem wd_540 : (Jvm.Cond.instanceMethod ({ cls := "CutBureau$Rule", name := "signAt", desc := "(I)I" } : Jvm.MethodName)) ∈ lw_tbl := inT2 (List.mem_of_getElem? (i := 239) rfl)
set_option maxRecDepth 100000 in
theorem wd_541 : (Jvm.Cond.code ({ cls := "CutBureau$Rule", name := "signAt", desc := "(I)I" } : Jvm.MethodName) prog_10_method_11_code (2 : Nat) (Option.some Jvm.ClassFile.FieldType.int)) ∈ lw_tbl := inT3 (List.mem_of_getElem? (i := 0) rfl)
set_option maxRecDepth 100000 in
theorem wd_542 : (Jvm.Cond.methodLink "CutBureau$Rule" (46 : Nat) ({ cls := "CutBureau$Rule", name := "digitAt", desc := "(I)I" } : Jvm.MethodName)) ∈ lw_tbl := inT3 (List.mem_of_getElem? (i := 1) rfl)
set_option maxRecDepth 100000 in
theorem wd_544 : (Jvm.Cond.instanceMethod ({ cls := "CutBureau$Rule", name := "digitAt", desc := "(I)I" } : Jvm.MethodName)) ∈ lw_tbl := inT3 (List.mem_of_getElem? (i := 3) rfl)
set_option maxRecDepth 100000 in
theorem wd_545 : (Jvm.Cond.code ({ cls := "CutBureau$Rule", name := "digitAt", desc := "(I)I" } : Jvm.MethodName) prog_10_method_10_code (3 : Nat) (Option.some Jvm.ClassFile.FieldType.int)) ∈ lw_tbl := inT3 (List.mem_of_getElem? (i := 4) rfl)
set_option maxRecDepth 100000 in
theorem wd_546 : (Jvm.Cond.methodLinkNest "CutBureau$Rule" (34 : Nat) ({ cls := "CutBureau", name := "hasBit", desc := "(II)Z" } : Jvm.MethodName) "CutBureau") ∈ lw_tbl := inT3 (List.mem_of_getElem? (i := 5) rfl)
set_option maxRecDepth 100000 in
theorem wd_547 : (Jvm.Cond.methodLink "CutBureau$Rule" (38 : Nat) ({ cls := "CutBureau$Rule", name := "itemIsSo", desc := "(LCutBureau$Piece;I)Z" } : Jvm.MethodName)) ∈ lw_tbl := inT3 (List.mem_of_getElem? (i := 6) rfl)
set_option maxRecDepth 100000 in
theorem wd_549 : (Jvm.Cond.instanceMethod ({ cls := "CutBureau$Rule", name := "itemIsSo", desc := "(LCutBureau$Piece;I)Z" } : Jvm.MethodName)) ∈ lw_tbl := inT3 (List.mem_of_getElem? (i := 8) rfl)
set_option maxRecDepth 100000 in
theorem wd_550 : (Jvm.Cond.code ({ cls := "CutBureau$Rule", name := "itemIsSo", desc := "(LCutBureau$Piece;I)Z" } : Jvm.MethodName) prog_10_method_8_code (5 : Nat) (Option.some Jvm.ClassFile.FieldType.boolean)) ∈ lw_tbl := inT3 (List.mem_of_getElem? (i := 9) rfl)
set_option maxRecDepth 100000 in
theorem wd_551 : (Jvm.Cond.methodLink "CutBureau$Rule" (49 : Nat) ({ cls := "CutBureau$Rule", name := "wordAt", desc := "(I)I" } : Jvm.MethodName)) ∈ lw_tbl := inT3 (List.mem_of_getElem? (i := 10) rfl)
set_option maxRecDepth 100000 in
theorem wd_553 : (Jvm.Cond.instanceMethod ({ cls := "CutBureau$Rule", name := "wordAt", desc := "(I)I" } : Jvm.MethodName)) ∈ lw_tbl := inT3 (List.mem_of_getElem? (i := 12) rfl)
set_option maxRecDepth 100000 in
theorem wd_554 : (Jvm.Cond.code ({ cls := "CutBureau$Rule", name := "wordAt", desc := "(I)I" } : Jvm.MethodName) prog_10_method_9_code (4 : Nat) (Option.some Jvm.ClassFile.FieldType.int)) ∈ lw_tbl := inT3 (List.mem_of_getElem? (i := 13) rfl)
set_option maxRecDepth 100000 in
theorem wd_555 : (Jvm.Cond.methodLink "CutBureau$Rule" (52 : Nat) ({ cls := "CutBureau$Piece", name := "hasNear", desc := "(III)Z" } : Jvm.MethodName)) ∈ lw_tbl := inT3 (List.mem_of_getElem? (i := 14) rfl)
set_option maxRecDepth 100000 in
theorem wd_556 : (Jvm.Cond.instanceMethod ({ cls := "CutBureau$Piece", name := "hasNear", desc := "(III)Z" } : Jvm.MethodName)) ∈ lw_tbl := inT3 (List.mem_of_getElem? (i := 15) rfl)
set_option maxRecDepth 100000 in
theorem wd_557 : (Jvm.Cond.selects "CutBureau$Piece" ({ cls := "CutBureau$Piece", name := "hasNear", desc := "(III)Z" } : Jvm.MethodName) ({ cls := "CutBureau$Piece", name := "hasNear", desc := "(III)Z" } : Jvm.MethodName)) ∈ lw_tbl := inT3 (List.mem_of_getElem? (i := 16) rfl)
set_option maxRecDepth 100000 in
theorem wd_558 : (Jvm.Cond.code ({ cls := "CutBureau$Piece", name := "hasNear", desc := "(III)Z" } : Jvm.MethodName) prog_8_method_5_code (6 : Nat) (Option.some Jvm.ClassFile.FieldType.boolean)) ∈ lw_tbl := inT3 (List.mem_of_getElem? (i := 17) rfl)
set_option maxRecDepth 100000 in
theorem wd_559 : (Jvm.Cond.methodLink "CutBureau$Rule" (58 : Nat) ({ cls := "CutBureau$Piece", name := "howOften", desc := "(I)I" } : Jvm.MethodName)) ∈ lw_tbl := inT3 (List.mem_of_getElem? (i := 18) rfl)
set_option maxRecDepth 100000 in
theorem wd_560 : (Jvm.Cond.instanceMethod ({ cls := "CutBureau$Piece", name := "howOften", desc := "(I)I" } : Jvm.MethodName)) ∈ lw_tbl := inT3 (List.mem_of_getElem? (i := 19) rfl)
set_option maxRecDepth 100000 in
theorem wd_561 : (Jvm.Cond.selects "CutBureau$Piece" ({ cls := "CutBureau$Piece", name := "howOften", desc := "(I)I" } : Jvm.MethodName) ({ cls := "CutBureau$Piece", name := "howOften", desc := "(I)I" } : Jvm.MethodName)) ∈ lw_tbl := inT3 (List.mem_of_getElem? (i := 20) rfl)
set_option maxRecDepth 100000 in
theorem wd_562 : (Jvm.Cond.code ({ cls := "CutBureau$Piece", name := "howOften", desc := "(I)I" } : Jvm.MethodName) prog_8_method_4_code (4 : Nat) (Option.some Jvm.ClassFile.FieldType.int)) ∈ lw_tbl := inT3 (List.mem_of_getElem? (i := 21) rfl)
set_option maxRecDepth 100000 in
theorem wd_563 : (Jvm.Cond.methodLink "CutBureau" (218 : Nat) ({ cls := "CutBureau$Rule", name := "isSo", desc := "(LCutBureau$Piece;)Z" } : Jvm.MethodName)) ∈ lw_tbl := inT3 (List.mem_of_getElem? (i := 22) rfl)
set_option maxRecDepth 100000 in
theorem wd_568 : (Jvm.Cond.methodLink "CutBureau" (221 : Nat) ({ cls := "CutBureau$Families", name := "leastChanges", desc := "(LCutBureau$Piece;LCutBureau$Piece;)I" } : Jvm.MethodName)) ∈ lw_tbl := inT3 (List.mem_of_getElem? (i := 27) rfl)
set_option maxRecDepth 100000 in
theorem wd_573 : (Jvm.Cond.fieldLink "CutBureau" (225 : Nat) "CutBureau" "LEAST_SETTING" "[I") ∈ lw_tbl := inT3 (List.mem_of_getElem? (i := 32) rfl)
set_option maxRecDepth 100000 in
theorem wd_575 : (Jvm.Cond.fieldLink "CutBureau" (228 : Nat) "CutBureau" "GREATEST_SETTING" "[I") ∈ lw_tbl := inT3 (List.mem_of_getElem? (i := 34) rfl)
set_option maxRecDepth 100000 in
theorem wd_581 : (Jvm.Cond.methodLink "CutBureau" (231 : Nat) ({ cls := "CutBureau", name := "gatherList", desc := "(LCutBureau$Order;I)V" } : Jvm.MethodName)) ∈ lw_tbl := inT3 (List.mem_of_getElem? (i := 40) rfl)
set_option maxRecDepth 100000 in
theorem wd_583 : (Jvm.Cond.instanceMethod ({ cls := "CutBureau", name := "gatherList", desc := "(LCutBureau$Order;I)V" } : Jvm.MethodName)) ∈ lw_tbl := inT3 (List.mem_of_getElem? (i := 42) rfl)
set_option maxRecDepth 100000 in
theorem wd_584 : (Jvm.Cond.code ({ cls := "CutBureau", name := "gatherList", desc := "(LCutBureau$Order;I)V" } : Jvm.MethodName) prog_1_method_50_code (6 : Nat) (Option.none : Option Jvm.ClassFile.FieldType)) ∈ lw_tbl := inT3 (List.mem_of_getElem? (i := 43) rfl)
set_option maxRecDepth 100000 in
theorem wd_585 : (Jvm.Cond.methodLink "CutBureau" (292 : Nat) ({ cls := "CutBureau", name := "hasBit", desc := "(II)Z" } : Jvm.MethodName)) ∈ lw_tbl := inT3 (List.mem_of_getElem? (i := 44) rfl)
set_option maxRecDepth 100000 in
theorem wd_590 : (Jvm.Cond.methodLink "CutBureau" (235 : Nat) ({ cls := "CutBureau", name := "isName", desc := "(I)Z" } : Jvm.MethodName)) ∈ lw_tbl := inT3 (List.mem_of_getElem? (i := 49) rfl)
set_option maxRecDepth 100000 in
theorem wd_591 : (Jvm.Cond.static ({ cls := "CutBureau", name := "isName", desc := "(I)Z" } : Jvm.MethodName)) ∈ lw_tbl := inT3 (List.mem_of_getElem? (i := 50) rfl)
set_option maxRecDepth 100000 in
theorem wd_592 : (Jvm.Cond.code ({ cls := "CutBureau", name := "isName", desc := "(I)Z" } : Jvm.MethodName) prog_1_method_39_code (1 : Nat) (Option.some Jvm.ClassFile.FieldType.boolean)) ∈ lw_tbl := inT3 (List.mem_of_getElem? (i := 51) rfl)
set_option maxRecDepth 100000 in
theorem wd_601 : (Jvm.Cond.methodLink "CutBureau" (244 : Nat) ({ cls := "CutBureau$Name", name := "likeliestPlace", desc := "(LCutBureau$Piece;I)I" } : Jvm.MethodName)) ∈ lw_tbl := inT3 (List.mem_of_getElem? (i := 60) rfl)
set_option maxRecDepth 100000 in
theorem wd_602 : (Jvm.Cond.instanceMethod ({ cls := "CutBureau$Name", name := "likeliestPlace", desc := "(LCutBureau$Piece;I)I" } : Jvm.MethodName)) ∈ lw_tbl := inT3 (List.mem_of_getElem? (i := 61) rfl)
set_option maxRecDepth 100000 in
theorem wd_603 : (Jvm.Cond.selects "CutBureau$Name" ({ cls := "CutBureau$Name", name := "likeliestPlace", desc := "(LCutBureau$Piece;I)I" } : Jvm.MethodName) ({ cls := "CutBureau$Name", name := "likeliestPlace", desc := "(LCutBureau$Piece;I)I" } : Jvm.MethodName)) ∈ lw_tbl := inT3 (List.mem_of_getElem? (i := 62) rfl)
set_option maxRecDepth 100000 in
theorem wd_604 : (Jvm.Cond.code ({ cls := "CutBureau$Name", name := "likeliestPlace", desc := "(LCutBureau$Piece;I)I" } : Jvm.MethodName) prog_4_method_2_code (7 : Nat) (Option.some Jvm.ClassFile.FieldType.int)) ∈ lw_tbl := inT3 (List.mem_of_getElem? (i := 63) rfl)
set_option maxRecDepth 100000 in
theorem wd_605 : (Jvm.Cond.methodLink "CutBureau$Name" (27 : Nat) ({ cls := "CutBureau$Name", name := "sumAround", desc := "(LCutBureau$Piece;II)I" } : Jvm.MethodName)) ∈ lw_tbl := inT3 (List.mem_of_getElem? (i := 64) rfl)
set_option maxRecDepth 100000 in
theorem wd_606 : (Jvm.Cond.instanceMethod ({ cls := "CutBureau$Name", name := "sumAround", desc := "(LCutBureau$Piece;II)I" } : Jvm.MethodName)) ∈ lw_tbl := inT3 (List.mem_of_getElem? (i := 65) rfl)
set_option maxRecDepth 100000 in
theorem wd_607 : (Jvm.Cond.selects "CutBureau$Name" ({ cls := "CutBureau$Name", name := "sumAround", desc := "(LCutBureau$Piece;II)I" } : Jvm.MethodName) ({ cls := "CutBureau$Name", name := "sumAround", desc := "(LCutBureau$Piece;II)I" } : Jvm.MethodName)) ∈ lw_tbl := inT3 (List.mem_of_getElem? (i := 66) rfl)
set_option maxRecDepth 100000 in
theorem wd_608 : (Jvm.Cond.code ({ cls := "CutBureau$Name", name := "sumAround", desc := "(LCutBureau$Piece;II)I" } : Jvm.MethodName) prog_4_method_3_code (6 : Nat) (Option.some Jvm.ClassFile.FieldType.int)) ∈ lw_tbl := inT3 (List.mem_of_getElem? (i := 67) rfl)
set_option maxRecDepth 100000 in
theorem wd_609 : (Jvm.Cond.methodLink "CutBureau$Name" (31 : Nat) ({ cls := "java/lang/Math", name := "max", desc := "(II)I" } : Jvm.MethodName)) ∈ lw_tbl := inT3 (List.mem_of_getElem? (i := 68) rfl)
set_option maxRecDepth 100000 in
theorem wd_612 : (Jvm.Cond.methodLink "CutBureau" (248 : Nat) ({ cls := "CutBureau$Name", name := "sumAround", desc := "(LCutBureau$Piece;II)I" } : Jvm.MethodName)) ∈ lw_tbl := inT3 (List.mem_of_getElem? (i := 71) rfl)
set_option maxRecDepth 100000 in
theorem wd_613 : (Jvm.Cond.methodLink "CutBureau" (252 : Nat) ({ cls := "CutBureau", name := "verdictOf", desc := "(I)I" } : Jvm.MethodName)) ∈ lw_tbl := inT3 (List.mem_of_getElem? (i := 72) rfl)
set_option maxRecDepth 100000 in
theorem wd_615 : (Jvm.Cond.instanceMethod ({ cls := "CutBureau", name := "verdictOf", desc := "(I)I" } : Jvm.MethodName)) ∈ lw_tbl := inT3 (List.mem_of_getElem? (i := 74) rfl)
set_option maxRecDepth 100000 in
theorem wd_616 : (Jvm.Cond.code ({ cls := "CutBureau", name := "verdictOf", desc := "(I)I" } : Jvm.MethodName) prog_1_method_52_code (2 : Nat) (Option.some Jvm.ClassFile.FieldType.int)) ∈ lw_tbl := inT3 (List.mem_of_getElem? (i := 75) rfl)
set_option maxRecDepth 100000 in
theorem wd_621 : (Jvm.Cond.methodLink "CutBureau" (256 : Nat) ({ cls := "CutBureau", name := "gatherAsked", desc := "(LCutBureau$Page;)V" } : Jvm.MethodName)) ∈ lw_tbl := inT3 (List.mem_of_getElem? (i := 80) rfl)
set_option maxRecDepth 100000 in
theorem wd_623 : (Jvm.Cond.instanceMethod ({ cls := "CutBureau", name := "gatherAsked", desc := "(LCutBureau$Page;)V" } : Jvm.MethodName)) ∈ lw_tbl := inT3 (List.mem_of_getElem? (i := 82) rfl)
set_option maxRecDepth 100000 in
theorem wd_624 : (Jvm.Cond.code ({ cls := "CutBureau", name := "gatherAsked", desc := "(LCutBureau$Page;)V" } : Jvm.MethodName) prog_1_method_53_code (5 : Nat) (Option.none : Option Jvm.ClassFile.FieldType)) ∈ lw_tbl := inT3 (List.mem_of_getElem? (i := 83) rfl)
set_option maxRecDepth 100000 in
theorem wd_625 : (Jvm.Cond.methodLink "CutBureau" (340 : Nat) ({ cls := "CutBureau$Asked", name := "add", desc := "(II)V" } : Jvm.MethodName)) ∈ lw_tbl := inT3 (List.mem_of_getElem? (i := 84) rfl)
set_option maxRecDepth 100000 in
theorem wd_626 : (Jvm.Cond.instanceMethod ({ cls := "CutBureau$Asked", name := "add", desc := "(II)V" } : Jvm.MethodName)) ∈ lw_tbl := inT3 (List.mem_of_getElem? (i := 85) rfl)
set_option maxRecDepth 100000 in
theorem wd_627 : (Jvm.Cond.selects "CutBureau$Asked" ({ cls := "CutBureau$Asked", name := "add", desc := "(II)V" } : Jvm.MethodName) ({ cls := "CutBureau$Asked", name := "add", desc := "(II)V" } : Jvm.MethodName)) ∈ lw_tbl := inT3 (List.mem_of_getElem? (i := 86) rfl)
set_option maxRecDepth 100000 in
theorem wd_628 : (Jvm.Cond.code ({ cls := "CutBureau$Asked", name := "add", desc := "(II)V" } : Jvm.MethodName) prog_2_method_2_code (3 : Nat) (Option.none : Option Jvm.ClassFile.FieldType)) ∈ lw_tbl := inT3 (List.mem_of_getElem? (i := 87) rfl)
set_option maxRecDepth 100000 in
theorem wd_633 : (Jvm.Cond.methodLink "CutBureau" (264 : Nat) ({ cls := "CutBureau$Asked", name := "bestSet", desc := "([LCutBureau$Piece;I)I" } : Jvm.MethodName)) ∈ lw_tbl := inT3 (List.mem_of_getElem? (i := 92) rfl)
set_option maxRecDepth 100000 in
theorem wd_634 : (Jvm.Cond.instanceMethod ({ cls := "CutBureau$Asked", name := "bestSet", desc := "([LCutBureau$Piece;I)I" } : Jvm.MethodName)) ∈ lw_tbl := inT3 (List.mem_of_getElem? (i := 93) rfl)
set_option maxRecDepth 100000 in
theorem wd_635 : (Jvm.Cond.selects "CutBureau$Asked" ({ cls := "CutBureau$Asked", name := "bestSet", desc := "([LCutBureau$Piece;I)I" } : Jvm.MethodName) ({ cls := "CutBureau$Asked", name := "bestSet", desc := "([LCutBureau$Piece;I)I" } : Jvm.MethodName)) ∈ lw_tbl := inT3 (List.mem_of_getElem? (i := 94) rfl)
set_option maxRecDepth 100000 in
theorem wd_636 : (Jvm.Cond.code ({ cls := "CutBureau$Asked", name := "bestSet", desc := "([LCutBureau$Piece;I)I" } : Jvm.MethodName) prog_2_method_3_code (6 : Nat) (Option.some Jvm.ClassFile.FieldType.int)) ∈ lw_tbl := inT3 (List.mem_of_getElem? (i := 95) rfl)
set_option maxRecDepth 100000 in
theorem wd_637 : (Jvm.Cond.methodLink "CutBureau$Asked" (26 : Nat) ({ cls := "CutBureau$Asked", name := "findClashes", desc := "([LCutBureau$Piece;)V" } : Jvm.MethodName)) ∈ lw_tbl := inT3 (List.mem_of_getElem? (i := 96) rfl)
set_option maxRecDepth 100000 in
theorem wd_639 : (Jvm.Cond.instanceMethod ({ cls := "CutBureau$Asked", name := "findClashes", desc := "([LCutBureau$Piece;)V" } : Jvm.MethodName)) ∈ lw_tbl := inT3 (List.mem_of_getElem? (i := 98) rfl)
set_option maxRecDepth 100000 in
theorem wd_640 : (Jvm.Cond.code ({ cls := "CutBureau$Asked", name := "findClashes", desc := "([LCutBureau$Piece;)V" } : Jvm.MethodName) prog_2_method_4_code (5 : Nat) (Option.none : Option Jvm.ClassFile.FieldType)) ∈ lw_tbl := inT3 (List.mem_of_getElem? (i := 99) rfl)
set_option maxRecDepth 100000 in
theorem wd_641 : (Jvm.Cond.methodLink "CutBureau$Asked" (39 : Nat) ({ cls := "CutBureau$Piece", name := "clashesWith", desc := "(LCutBureau$Piece;)Z" } : Jvm.MethodName)) ∈ lw_tbl := inT3 (List.mem_of_getElem? (i := 100) rfl)
set_option maxRecDepth 100000 in
theorem wd_642 : (Jvm.Cond.methodLink "CutBureau$Asked" (30 : Nat) ({ cls := "CutBureau$Asked", name := "countSheets", desc := "()V" } : Jvm.MethodName)) ∈ lw_tbl := inT3 (List.mem_of_getElem? (i := 101) rfl)
set_option maxRecDepth 100000 in
theorem wd_644 : (Jvm.Cond.instanceMethod ({ cls := "CutBureau$Asked", name := "countSheets", desc := "()V" } : Jvm.MethodName)) ∈ lw_tbl := inT3 (List.mem_of_getElem? (i := 103) rfl)
set_option maxRecDepth 100000 in
theorem wd_645 : (Jvm.Cond.code ({ cls := "CutBureau$Asked", name := "countSheets", desc := "()V" } : Jvm.MethodName) prog_2_method_5_code (2 : Nat) (Option.none : Option Jvm.ClassFile.FieldType)) ∈ lw_tbl := inT3 (List.mem_of_getElem? (i := 104) rfl)
set_option maxRecDepth 100000 in
theorem wd_646 : (Jvm.Cond.methodLink "CutBureau$Asked" (45 : Nat) ({ cls := "CutBureau$Asked", name := "fitsOneSheet", desc := "(I)Z" } : Jvm.MethodName)) ∈ lw_tbl := inT3 (List.mem_of_getElem? (i := 105) rfl)
set_option maxRecDepth 100000 in
theorem wd_648 : (Jvm.Cond.instanceMethod ({ cls := "CutBureau$Asked", name := "fitsOneSheet", desc := "(I)Z" } : Jvm.MethodName)) ∈ lw_tbl := inT3 (List.mem_of_getElem? (i := 107) rfl)
set_option maxRecDepth 100000 in
theorem wd_649 : (Jvm.Cond.code ({ cls := "CutBureau$Asked", name := "fitsOneSheet", desc := "(I)Z" } : Jvm.MethodName) prog_2_method_6_code (3 : Nat) (Option.some Jvm.ClassFile.FieldType.boolean)) ∈ lw_tbl := inT3 (List.mem_of_getElem? (i := 108) rfl)
set_option maxRecDepth 100000 in
theorem wd_650 : (Jvm.Cond.methodLinkNest "CutBureau$Asked" (52 : Nat) ({ cls := "CutBureau", name := "hasBit", desc := "(II)Z" } : Jvm.MethodName) "CutBureau") ∈ lw_tbl := inT3 (List.mem_of_getElem? (i := 109) rfl)
set_option maxRecDepth 100000 in
theorem wd_651 : (Jvm.Cond.methodLink "CutBureau$Asked" (49 : Nat) ({ cls := "CutBureau$Asked", name := "leastSheets", desc := "(I)I" } : Jvm.MethodName)) ∈ lw_tbl := inT3 (List.mem_of_getElem? (i := 110) rfl)
set_option maxRecDepth 100000 in
theorem wd_653 : (Jvm.Cond.instanceMethod ({ cls := "CutBureau$Asked", name := "leastSheets", desc := "(I)I" } : Jvm.MethodName)) ∈ lw_tbl := inT3 (List.mem_of_getElem? (i := 112) rfl)
set_option maxRecDepth 100000 in
theorem wd_654 : (Jvm.Cond.code ({ cls := "CutBureau$Asked", name := "leastSheets", desc := "(I)I" } : Jvm.MethodName) prog_2_method_7_code (4 : Nat) (Option.some Jvm.ClassFile.FieldType.int)) ∈ lw_tbl := inT3 (List.mem_of_getElem? (i := 113) rfl)
set_option maxRecDepth 100000 in
theorem wd_655 : (Jvm.Cond.methodLink "CutBureau$Asked" (33 : Nat) ({ cls := "java/lang/Integer", name := "bitCount", desc := "(I)I" } : Jvm.MethodName)) ∈ lw_tbl := inT3 (List.mem_of_getElem? (i := 114) rfl)
set_option maxRecDepth 100000 in
theorem wd_656 : (Jvm.Cond.static ({ cls := "java/lang/Integer", name := "bitCount", desc := "(I)I" } : Jvm.MethodName)) ∈ lw_tbl := inT3 (List.mem_of_getElem? (i := 115) rfl)
set_option maxRecDepth 100000 in
theorem wd_657 : (Jvm.Cond.code ({ cls := "java/lang/Integer", name := "bitCount", desc := "(I)I" } : Jvm.MethodName) prog_13_method_49_code (1 : Nat) (Option.some Jvm.ClassFile.FieldType.int)) ∈ lw_tbl := inT3 (List.mem_of_getElem? (i := 116) rfl)
set_option maxRecDepth 100000 in
theorem wd_658 : (Jvm.Cond.constant "java/lang/Integer" (265 : Nat) (1431655765 : Int32)) ∈ lw_tbl := inT3 (List.mem_of_getElem? (i := 117) rfl)
set_option maxRecDepth 100000 in
theorem wd_659 : (Jvm.Cond.constant "java/lang/Integer" (266 : Nat) (858993459 : Int32)) ∈ lw_tbl := inT3 (List.mem_of_getElem? (i := 118) rfl)
set_option maxRecDepth 100000 in
theorem wd_660 : (Jvm.Cond.constant "java/lang/Integer" (267 : Nat) (252645135 : Int32)) ∈ lw_tbl := inT3 (List.mem_of_getElem? (i := 119) rfl)
set_option maxRecDepth 100000 in
theorem wd_661 : (Jvm.Cond.methodLink "CutBureau" (268 : Nat) ({ cls := "java/lang/Integer", name := "bitCount", desc := "(I)I" } : Jvm.MethodName)) ∈ lw_tbl := inT3 (List.mem_of_getElem? (i := 120) rfl)
set_option maxRecDepth 100000 in
theorem wd_666 : (Jvm.Cond.methodLink "CutBureau" (273 : Nat) ({ cls := "CutBureau", name := "isReader", desc := "(I)Z" } : Jvm.MethodName)) ∈ lw_tbl := inT3 (List.mem_of_getElem? (i := 125) rfl)
set_option maxRecDepth 100000 in
theorem wd_667 : (Jvm.Cond.static ({ cls := "CutBureau", name := "isReader", desc := "(I)Z" } : Jvm.MethodName)) ∈ lw_tbl := inT3 (List.mem_of_getElem? (i := 126) rfl)
set_option maxRecDepth 100000 in
theorem wd_668 : (Jvm.Cond.code ({ cls := "CutBureau", name := "isReader", desc := "(I)Z" } : Jvm.MethodName) prog_1_method_40_code (1 : Nat) (Option.some Jvm.ClassFile.FieldType.boolean)) ∈ lw_tbl := inT3 (List.mem_of_getElem? (i := 127) rfl)
set_option maxRecDepth 100000 in
theorem wd_673 : (Jvm.Cond.methodLink "CutBureau" (279 : Nat) ({ cls := "CutBureau", name := "inLowestTerms", desc := "(III)I" } : Jvm.MethodName)) ∈ lw_tbl := inT3 (List.mem_of_getElem? (i := 132) rfl)
set_option maxRecDepth 100000 in
theorem wd_674 : (Jvm.Cond.static ({ cls := "CutBureau", name := "inLowestTerms", desc := "(III)I" } : Jvm.MethodName)) ∈ lw_tbl := inT3 (List.mem_of_getElem? (i := 133) rfl)
set_option maxRecDepth 100000 in
theorem wd_675 : (Jvm.Cond.code ({ cls := "CutBureau", name := "inLowestTerms", desc := "(III)I" } : Jvm.MethodName) prog_1_method_54_code (4 : Nat) (Option.some Jvm.ClassFile.FieldType.int)) ∈ lw_tbl := inT3 (List.mem_of_getElem? (i := 134) rfl)
set_option maxRecDepth 100000 in
theorem wd_688 : (Jvm.Cond.methodLink "CutBureau" (296 : Nat) ({ cls := "CutBureau", name := "leastParting", desc := "(I)J" } : Jvm.MethodName)) ∈ lw_tbl := inT3 (List.mem_of_getElem? (i := 147) rfl)
set_option maxRecDepth 100000 in
theorem wd_690 : (Jvm.Cond.instanceMethod ({ cls := "CutBureau", name := "leastParting", desc := "(I)J" } : Jvm.MethodName)) ∈ lw_tbl := inT3 (List.mem_of_getElem? (i := 149) rfl)
set_option maxRecDepth 100000 in
theorem wd_691 : (Jvm.Cond.code ({ cls := "CutBureau", name := "leastParting", desc := "(I)J" } : Jvm.MethodName) prog_1_method_55_code (4 : Nat) (Option.some Jvm.ClassFile.FieldType.long)) ∈ lw_tbl := inT3 (List.mem_of_getElem? (i := 150) rfl)
set_option maxRecDepth 100000 in
theorem wd_692 : (Jvm.Cond.methodLink "CutBureau" (347 : Nat) ({ cls := "CutBureau$Parting", name := "leaveUnread", desc := "(I)V" } : Jvm.MethodName)) ∈ lw_tbl := inT3 (List.mem_of_getElem? (i := 151) rfl)
set_option maxRecDepth 100000 in
theorem wd_693 : (Jvm.Cond.instanceMethod ({ cls := "CutBureau$Parting", name := "leaveUnread", desc := "(I)V" } : Jvm.MethodName)) ∈ lw_tbl := inT3 (List.mem_of_getElem? (i := 152) rfl)
set_option maxRecDepth 100000 in
theorem wd_694 : (Jvm.Cond.selects "CutBureau$Parting" ({ cls := "CutBureau$Parting", name := "leaveUnread", desc := "(I)V" } : Jvm.MethodName) ({ cls := "CutBureau$Parting", name := "leaveUnread", desc := "(I)V" } : Jvm.MethodName)) ∈ lw_tbl := inT3 (List.mem_of_getElem? (i := 153) rfl)
set_option maxRecDepth 100000 in
theorem wd_695 : (Jvm.Cond.code ({ cls := "CutBureau$Parting", name := "leaveUnread", desc := "(I)V" } : Jvm.MethodName) prog_7_method_2_code (3 : Nat) (Option.none : Option Jvm.ClassFile.FieldType)) ∈ lw_tbl := inT3 (List.mem_of_getElem? (i := 154) rfl)
set_option maxRecDepth 100000 in
theorem wd_696 : (Jvm.Cond.methodLink "CutBureau$Parting" (22 : Nat) ({ cls := "CutBureau$Parting", name := "giveAll", desc := "(II)V" } : Jvm.MethodName)) ∈ lw_tbl := inT3 (List.mem_of_getElem? (i := 155) rfl)
set_option maxRecDepth 100000 in
theorem wd_698 : (Jvm.Cond.instanceMethod ({ cls := "CutBureau$Parting", name := "giveAll", desc := "(II)V" } : Jvm.MethodName)) ∈ lw_tbl := inT3 (List.mem_of_getElem? (i := 157) rfl)
set_option maxRecDepth 100000 in
theorem wd_699 : (Jvm.Cond.code ({ cls := "CutBureau$Parting", name := "giveAll", desc := "(II)V" } : Jvm.MethodName) prog_7_method_4_code (7 : Nat) (Option.none : Option Jvm.ClassFile.FieldType)) ∈ lw_tbl := inT3 (List.mem_of_getElem? (i := 158) rfl)
set_option maxRecDepth 100000 in
theorem wd_700 : (Jvm.Cond.constantLong "CutBureau$Parting" (47 : Nat) (390625 : Int64)) ∈ lw_tbl := inT3 (List.mem_of_getElem? (i := 159) rfl)
set_option maxRecDepth 100000 in
theorem wd_701 : (Jvm.Cond.fieldLink "CutBureau$Parting" (49 : Nat) "CutBureau$Parting" "PAGE_UNITS" "[I") ∈ lw_tbl := inT3 (List.mem_of_getElem? (i := 160) rfl)
set_option maxRecDepth 100000 in
theorem wd_703 : (Jvm.Cond.methodLink "CutBureau" (351 : Nat) ({ cls := "CutBureau$Parting", name := "offerTo", desc := "(LCutBureau$Reader;II)V" } : Jvm.MethodName)) ∈ lw_tbl := inT3 (List.mem_of_getElem? (i := 162) rfl)
set_option maxRecDepth 100000 in
theorem wd_704 : (Jvm.Cond.instanceMethod ({ cls := "CutBureau$Parting", name := "offerTo", desc := "(LCutBureau$Reader;II)V" } : Jvm.MethodName)) ∈ lw_tbl := inT3 (List.mem_of_getElem? (i := 163) rfl)
set_option maxRecDepth 100000 in
theorem wd_705 : (Jvm.Cond.selects "CutBureau$Parting" ({ cls := "CutBureau$Parting", name := "offerTo", desc := "(LCutBureau$Reader;II)V" } : Jvm.MethodName) ({ cls := "CutBureau$Parting", name := "offerTo", desc := "(LCutBureau$Reader;II)V" } : Jvm.MethodName)) ∈ lw_tbl := inT3 (List.mem_of_getElem? (i := 164) rfl)
set_option maxRecDepth 100000 in
theorem wd_706 : (Jvm.Cond.code ({ cls := "CutBureau$Parting", name := "offerTo", desc := "(LCutBureau$Reader;II)V" } : Jvm.MethodName) prog_7_method_3_code (6 : Nat) (Option.none : Option Jvm.ClassFile.FieldType)) ∈ lw_tbl := inT3 (List.mem_of_getElem? (i := 165) rfl)
set_option maxRecDepth 100000 in
theorem wd_707 : (Jvm.Cond.methodLink "CutBureau$Parting" (26 : Nat) ({ cls := "java/lang/Integer", name := "bitCount", desc := "(I)I" } : Jvm.MethodName)) ∈ lw_tbl := inT3 (List.mem_of_getElem? (i := 166) rfl)
set_option maxRecDepth 100000 in
theorem wd_708 : (Jvm.Cond.methodLink "CutBureau$Parting" (41 : Nat) ({ cls := "java/lang/Math", name := "min", desc := "(JJ)J" } : Jvm.MethodName)) ∈ lw_tbl := inT3 (List.mem_of_getElem? (i := 167) rfl)
set_option maxRecDepth 100000 in
theorem wd_711 : (Jvm.Cond.methodLink "CutBureau" (300 : Nat) ({ cls := "CutBureau$Parting", name := "sumOf", desc := "(J)I" } : Jvm.MethodName)) ∈ lw_tbl := inT3 (List.mem_of_getElem? (i := 170) rfl)
set_option maxRecDepth 100000 in
theorem wd_712 : (Jvm.Cond.static ({ cls := "CutBureau$Parting", name := "sumOf", desc := "(J)I" } : Jvm.MethodName)) ∈ lw_tbl := inT3 (List.mem_of_getElem? (i := 171) rfl)
set_option maxRecDepth 100000 in
theorem wd_713 : (Jvm.Cond.code ({ cls := "CutBureau$Parting", name := "sumOf", desc := "(J)I" } : Jvm.MethodName) prog_7_method_5_code (2 : Nat) (Option.some Jvm.ClassFile.FieldType.int)) ∈ lw_tbl := inT3 (List.mem_of_getElem? (i := 172) rfl)
set_option maxRecDepth 100000 in
theorem wd_714 : (Jvm.Cond.methodLink "CutBureau" (304 : Nat) ({ cls := "CutBureau$Parting", name := "readerOf", desc := "(JI)I" } : Jvm.MethodName)) ∈ lw_tbl := inT3 (List.mem_of_getElem? (i := 173) rfl)
set_option maxRecDepth 100000 in
theorem wd_715 : (Jvm.Cond.static ({ cls := "CutBureau$Parting", name := "readerOf", desc := "(JI)I" } : Jvm.MethodName)) ∈ lw_tbl := inT3 (List.mem_of_getElem? (i := 174) rfl)
set_option maxRecDepth 100000 in
theorem wd_716 : (Jvm.Cond.code ({ cls := "CutBureau$Parting", name := "readerOf", desc := "(JI)I" } : Jvm.MethodName) prog_7_method_6_code (6 : Nat) (Option.some Jvm.ClassFile.FieldType.int)) ∈ lw_tbl := inT3 (List.mem_of_getElem? (i := 175) rfl)
set_option maxRecDepth 100000 in
theorem wd_717 : (Jvm.Cond.constantLong "CutBureau$Parting" (52 : Nat) (5 : Int64)) ∈ lw_tbl := inT3 (List.mem_of_getElem? (i := 176) rfl)
set_option maxRecDepth 100000 in
theorem wd_722 : (Jvm.Cond.methodLink "CutBureau" (308 : Nat) ({ cls := "CutBureau", name := "isListed", desc := "(LCutBureau$Piece;LCutBureau$Order;)Z" } : Jvm.MethodName)) ∈ lw_tbl := inT3 (List.mem_of_getElem? (i := 181) rfl)
set_option maxRecDepth 100000 in
theorem wd_724 : (Jvm.Cond.instanceMethod ({ cls := "CutBureau", name := "isListed", desc := "(LCutBureau$Piece;LCutBureau$Order;)Z" } : Jvm.MethodName)) ∈ lw_tbl := inT3 (List.mem_of_getElem? (i := 183) rfl)
set_option maxRecDepth 100000 in
theorem wd_725 : (Jvm.Cond.code ({ cls := "CutBureau", name := "isListed", desc := "(LCutBureau$Piece;LCutBureau$Order;)Z" } : Jvm.MethodName) prog_1_method_51_code (4 : Nat) (Option.some Jvm.ClassFile.FieldType.boolean)) ∈ lw_tbl := inT3 (List.mem_of_getElem? (i := 184) rfl)
set_option maxRecDepth 100000 in
theorem wd_734 : (Jvm.Cond.methodLink "CutBureau" (312 : Nat) ({ cls := "CutBureau", name := "countSentTo", desc := "(I)I" } : Jvm.MethodName)) ∈ lw_tbl := inT3 (List.mem_of_getElem? (i := 193) rfl)
set_option maxRecDepth 100000 in
theorem wd_736 : (Jvm.Cond.instanceMethod ({ cls := "CutBureau", name := "countSentTo", desc := "(I)I" } : Jvm.MethodName)) ∈ lw_tbl := inT3 (List.mem_of_getElem? (i := 195) rfl)
set_option maxRecDepth 100000 in
theorem wd_737 : (Jvm.Cond.code ({ cls := "CutBureau", name := "countSentTo", desc := "(I)I" } : Jvm.MethodName) prog_1_method_56_code (5 : Nat) (Option.some Jvm.ClassFile.FieldType.int)) ∈ lw_tbl := inT3 (List.mem_of_getElem? (i := 196) rfl)
set_option maxRecDepth 100000 in
theorem wd_738 : (Jvm.Cond.methodLink "CutBureau" (315 : Nat) ({ cls := "CutBureau", name := "priceOf", desc := "(I)I" } : Jvm.MethodName)) ∈ lw_tbl := inT3 (List.mem_of_getElem? (i := 197) rfl)
set_option maxRecDepth 100000 in
theorem wd_740 : (Jvm.Cond.instanceMethod ({ cls := "CutBureau", name := "priceOf", desc := "(I)I" } : Jvm.MethodName)) ∈ lw_tbl := inT3 (List.mem_of_getElem? (i := 199) rfl)
set_option maxRecDepth 100000 in
theorem wd_741 : (Jvm.Cond.code ({ cls := "CutBureau", name := "priceOf", desc := "(I)I" } : Jvm.MethodName) prog_1_method_57_code (5 : Nat) (Option.some Jvm.ClassFile.FieldType.int)) ∈ lw_tbl := inT3 (List.mem_of_getElem? (i := 200) rfl)
set_option maxRecDepth 100000 in
theorem wd_742 : (Jvm.Cond.methodLink "CutBureau" (362 : Nat) ({ cls := "java/lang/Math", name := "min", desc := "(II)I" } : Jvm.MethodName)) ∈ lw_tbl := inT3 (List.mem_of_getElem? (i := 201) rfl)
set_option maxRecDepth 100000 in
theorem wd_743 : (Jvm.Cond.methodLink "CutBureau" (318 : Nat) ({ cls := "java/lang/Math", name := "max", desc := "(II)I" } : Jvm.MethodName)) ∈ lw_tbl := inT3 (List.mem_of_getElem? (i := 202) rfl)
set_option maxRecDepth 100000 in
theorem wd_756 : (Jvm.Cond.methodLink "CutBureau" (325 : Nat) ({ cls := "CutBureau", name := "countSent", desc := "()I" } : Jvm.MethodName)) ∈ lw_tbl := inT3 (List.mem_of_getElem? (i := 215) rfl)
set_option maxRecDepth 100000 in
theorem wd_758 : (Jvm.Cond.instanceMethod ({ cls := "CutBureau", name := "countSent", desc := "()I" } : Jvm.MethodName)) ∈ lw_tbl := inT3 (List.mem_of_getElem? (i := 217) rfl)
set_option maxRecDepth 100000 in
theorem wd_759 : (Jvm.Cond.code ({ cls := "CutBureau", name := "countSent", desc := "()I" } : Jvm.MethodName) prog_1_method_58_code (3 : Nat) (Option.some Jvm.ClassFile.FieldType.int)) ∈ lw_tbl := inT3 (List.mem_of_getElem? (i := 218) rfl)
set_option maxRecDepth 100000 in
theorem wd_760 : (Jvm.Cond.methodLink "CutBureau" (328 : Nat) ({ cls := "CutBureau", name := "countMissed", desc := "()I" } : Jvm.MethodName)) ∈ lw_tbl := inT3 (List.mem_of_getElem? (i := 219) rfl)
set_option maxRecDepth 100000 in
theorem wd_762 : (Jvm.Cond.instanceMethod ({ cls := "CutBureau", name := "countMissed", desc := "()I" } : Jvm.MethodName)) ∈ lw_tbl := inT3 (List.mem_of_getElem? (i := 221) rfl)
set_option maxRecDepth 100000 in
theorem wd_763 : (Jvm.Cond.code ({ cls := "CutBureau", name := "countMissed", desc := "()I" } : Jvm.MethodName) prog_1_method_59_code (3 : Nat) (Option.some Jvm.ClassFile.FieldType.int)) ∈ lw_tbl := inT3 (List.mem_of_getElem? (i := 222) rfl)
set_option maxRecDepth 100000 in
theorem wd_769 : (Jvm.Cond.methodLink "CutBureauModel" (1 : Nat) ({ cls := "java/lang/Object", name := "<init>", desc := "()V" } : Jvm.MethodName)) ∈ lw_tbl := inT3 (List.mem_of_getElem? (i := 228) rfl)
set_option maxRecDepth 100000 in
theorem wd_770 : (Jvm.Cond.fieldLink "CutBureauModel" (7 : Nat) "CutBureauModel" "words" "[I") ∈ lw_tbl := inT3 (List.mem_of_getElem? (i := 229) rfl)
set_option maxRecDepth 100000 in
theorem wd_771 : (Jvm.Cond.fieldLink "CutBureauModel" (13 : Nat) "CutBureauModel" "paperOf" "[I") ∈ lw_tbl := inT3 (List.mem_of_getElem? (i := 230) rfl)
set_option maxRecDepth 100000 in
theorem wd_772 : (Jvm.Cond.fieldLink "CutBureauModel" (16 : Nat) "CutBureauModel" "dayOf" "[I") ∈ lw_tbl := inT3 (List.mem_of_getElem? (i := 231) rfl)
set_option maxRecDepth 100000 in
theorem wd_773 : (Jvm.Cond.fieldLink "CutBureauModel" (19 : Nat) "CutBureauModel" "sideOf" "[I") ∈ lw_tbl := inT3 (List.mem_of_getElem? (i := 232) rfl)
set_option maxRecDepth 100000 in
theorem wd_774 : (Jvm.Cond.fieldLink "CutBureauModel" (143 : Nat) "CutBureauModel" "pages" "I") ∈ lw_tbl := inT3 (List.mem_of_getElem? (i := 233) rfl)
set_option maxRecDepth 100000 in
theorem wd_775 : (Jvm.Cond.fieldLink "CutBureauModel" (22 : Nat) "CutBureauModel" "pageOf" "[I") ∈ lw_tbl := inT3 (List.mem_of_getElem? (i := 234) rfl)
set_option maxRecDepth 100000 in
theorem wd_776 : (Jvm.Cond.fieldLink "CutBureauModel" (25 : Nat) "CutBureauModel" "top" "[I") ∈ lw_tbl := inT3 (List.mem_of_getElem? (i := 235) rfl)
set_option maxRecDepth 100000 in
theorem wd_777 : (Jvm.Cond.fieldLink "CutBureauModel" (28 : Nat) "CutBureauModel" "bottom" "[I") ∈ lw_tbl := inT3 (List.mem_of_getElem? (i := 236) rfl)
set_option maxRecDepth 100000 in
theorem wd_778 : (Jvm.Cond.fieldLink "CutBureauModel" (31 : Nat) "CutBureauModel" "left" "[I") ∈ lw_tbl := inT3 (List.mem_of_getElem? (i := 237) rfl)
set_option maxRecDepth 100000 in
theorem wd_779 : (Jvm.Cond.fieldLink "CutBureauModel" (34 : Nat) "CutBureauModel" "right" "[I") ∈ lw_tbl := inT3 (List.mem_of_getElem? (i := 238) rfl)
set_option maxRecDepth 100000 in
theorem wd_780 : (Jvm.Cond.fieldLink "CutBureauModel" (37 : Nat) "CutBureauModel" "filed" "[I") ∈ lw_tbl := inT3 (List.mem_of_getElem? (i := 239) rfl)
set_option maxRecDepth 100000 in
theorem wd_781 : (Jvm.Cond.fieldLink "CutBureauModel" (40 : Nat) "CutBureauModel" "sent" "[I") ∈ lw_tbl := inT4 (List.mem_of_getElem? (i := 0) rfl)
set_option maxRecDepth 100000 in
theorem wd_782 : (Jvm.Cond.fieldLink "CutBureauModel" (147 : Nat) "CutBureauModel" "pieces" "I") ∈ lw_tbl := inT4 (List.mem_of_getElem? (i := 1) rfl)
set_option maxRecDepth 100000 in
theorem wd_783 : (Jvm.Cond.fieldLink "CutBureauModel" (43 : Nat) "CutBureauModel" "numbers" "[I") ∈ lw_tbl := inT4 (List.mem_of_getElem? (i := 2) rfl)
set_option maxRecDepth 100000 in
theorem wd_784 : (Jvm.Cond.fieldLink "CutBureauModel" (46 : Nat) "CutBureauModel" "one" "[I") ∈ lw_tbl := inT4 (List.mem_of_getElem? (i := 3) rfl)
set_option maxRecDepth 100000 in
theorem wd_785 : (Jvm.Cond.fieldLink "CutBureauModel" (49 : Nat) "CutBureauModel" "other" "[I") ∈ lw_tbl := inT4 (List.mem_of_getElem? (i := 4) rfl)
set_option maxRecDepth 100000 in
theorem wd_786 : (Jvm.Cond.fieldLink "CutBureauModel" (176 : Nat) "CutBureauModel" "oneMany" "I") ∈ lw_tbl := inT4 (List.mem_of_getElem? (i := 5) rfl)
set_option maxRecDepth 100000 in
theorem wd_787 : (Jvm.Cond.fieldLink "CutBureauModel" (183 : Nat) "CutBureauModel" "otherMany" "I") ∈ lw_tbl := inT4 (List.mem_of_getElem? (i := 6) rfl)
set_option maxRecDepth 100000 in
theorem wd_788 : (Jvm.Cond.fieldLink "CutBureauModel" (52 : Nat) "CutBureauModel" "signs" "[I") ∈ lw_tbl := inT4 (List.mem_of_getElem? (i := 7) rfl)
set_option maxRecDepth 100000 in
theorem wd_789 : (Jvm.Cond.fieldLink "CutBureauModel" (55 : Nat) "CutBureauModel" "signMany" "[I") ∈ lw_tbl := inT4 (List.mem_of_getElem? (i := 8) rfl)
set_option maxRecDepth 100000 in
theorem wd_790 : (Jvm.Cond.fieldLink "CutBureauModel" (58 : Nat) "CutBureauModel" "clientOf" "[I") ∈ lw_tbl := inT4 (List.mem_of_getElem? (i := 9) rfl)
set_option maxRecDepth 100000 in
theorem wd_791 : (Jvm.Cond.fieldLink "CutBureauModel" (61 : Nat) "CutBureauModel" "papersOf" "[I") ∈ lw_tbl := inT4 (List.mem_of_getElem? (i := 10) rfl)
set_option maxRecDepth 100000 in
theorem wd_792 : (Jvm.Cond.fieldLink "CutBureauModel" (64 : Nat) "CutBureauModel" "fromOf" "[I") ∈ lw_tbl := inT4 (List.mem_of_getElem? (i := 11) rfl)
set_option maxRecDepth 100000 in
theorem wd_793 : (Jvm.Cond.fieldLink "CutBureauModel" (67 : Nat) "CutBureauModel" "tillOf" "[I") ∈ lw_tbl := inT4 (List.mem_of_getElem? (i := 12) rfl)
set_option maxRecDepth 100000 in
theorem wd_794 : (Jvm.Cond.fieldLink "CutBureauModel" (70 : Nat) "CutBureauModel" "mostOf" "[I") ∈ lw_tbl := inT4 (List.mem_of_getElem? (i := 13) rfl)
set_option maxRecDepth 100000 in
theorem wd_795 : (Jvm.Cond.fieldLink "CutBureauModel" (73 : Nat) "CutBureauModel" "isOnce" "[Z") ∈ lw_tbl := inT4 (List.mem_of_getElem? (i := 14) rfl)
set_option maxRecDepth 100000 in
theorem wd_796 : (Jvm.Cond.fieldLink "CutBureauModel" (220 : Nat) "CutBureauModel" "orders" "I") ∈ lw_tbl := inT4 (List.mem_of_getElem? (i := 15) rfl)
set_option maxRecDepth 100000 in
theorem wd_797 : (Jvm.Cond.fieldLink "CutBureauModel" (77 : Nat) "CutBureauModel" "wasSo" "[Z") ∈ lw_tbl := inT4 (List.mem_of_getElem? (i := 16) rfl)
set_option maxRecDepth 100000 in
theorem wd_798 : (Jvm.Cond.fieldLink "CutBureauModel" (80 : Nat) "CutBureauModel" "isSo" "[Z") ∈ lw_tbl := inT4 (List.mem_of_getElem? (i := 17) rfl)
set_option maxRecDepth 100000 in
theorem wd_799 : (Jvm.Cond.fieldLink "CutBureauModel" (83 : Nat) "CutBureauModel" "isTurned" "[Z") ∈ lw_tbl := inT4 (List.mem_of_getElem? (i := 18) rfl)
set_option maxRecDepth 100000 in
theorem wd_800 : (Jvm.Cond.fieldLink "CutBureauModel" (226 : Nat) "CutBureauModel" "at" "I") ∈ lw_tbl := inT4 (List.mem_of_getElem? (i := 19) rfl)
set_option maxRecDepth 100000 in
theorem wd_801 : (Jvm.Cond.fieldLink "CutBureauModel" (86 : Nat) "CutBureauModel" "changeRow" "[I") ∈ lw_tbl := inT4 (List.mem_of_getElem? (i := 20) rfl)
set_option maxRecDepth 100000 in
theorem wd_802 : (Jvm.Cond.fieldLink "CutBureauModel" (89 : Nat) "CutBureauModel" "isFamily" "[Z") ∈ lw_tbl := inT4 (List.mem_of_getElem? (i := 21) rfl)
set_option maxRecDepth 100000 in
theorem wd_803 : (Jvm.Cond.fieldLink "CutBureauModel" (92 : Nat) "CutBureauModel" "isDouble" "[Z") ∈ lw_tbl := inT4 (List.mem_of_getElem? (i := 22) rfl)
set_option maxRecDepth 100000 in
theorem wd_804 : (Jvm.Cond.fieldLink "CutBureauModel" (166 : Nat) "CutBureauModel" "hasDoubles" "Z") ∈ lw_tbl := inT4 (List.mem_of_getElem? (i := 23) rfl)
set_option maxRecDepth 100000 in
theorem wd_805 : (Jvm.Cond.fieldLink "CutBureauModel" (95 : Nat) "CutBureauModel" "listed" "[I") ∈ lw_tbl := inT4 (List.mem_of_getElem? (i := 24) rfl)
set_option maxRecDepth 100000 in
theorem wd_806 : (Jvm.Cond.fieldLink "CutBureauModel" (283 : Nat) "CutBureauModel" "listedMany" "I") ∈ lw_tbl := inT4 (List.mem_of_getElem? (i := 25) rfl)
set_option maxRecDepth 100000 in
theorem wd_807 : (Jvm.Cond.fieldLink "CutBureauModel" (98 : Nat) "CutBureauModel" "isWanted" "[Z") ∈ lw_tbl := inT4 (List.mem_of_getElem? (i := 26) rfl)
set_option maxRecDepth 100000 in
theorem wd_808 : (Jvm.Cond.fieldLink "CutBureauModel" (101 : Nat) "CutBureauModel" "nameWord" "[I") ∈ lw_tbl := inT4 (List.mem_of_getElem? (i := 27) rfl)
set_option maxRecDepth 100000 in
theorem wd_809 : (Jvm.Cond.fieldLink "CutBureauModel" (104 : Nat) "CutBureauModel" "counting" "[I") ∈ lw_tbl := inT4 (List.mem_of_getElem? (i := 28) rfl)
set_option maxRecDepth 100000 in
theorem wd_810 : (Jvm.Cond.fieldLink "CutBureauModel" (107 : Nat) "CutBureauModel" "pairOrder" "[I") ∈ lw_tbl := inT4 (List.mem_of_getElem? (i := 29) rfl)
set_option maxRecDepth 100000 in
theorem wd_811 : (Jvm.Cond.fieldLink "CutBureauModel" (110 : Nat) "CutBureauModel" "pairPiece" "[I") ∈ lw_tbl := inT4 (List.mem_of_getElem? (i := 30) rfl)
set_option maxRecDepth 100000 in
theorem wd_812 : (Jvm.Cond.fieldLink "CutBureauModel" (304 : Nat) "CutBureauModel" "pairs" "I") ∈ lw_tbl := inT4 (List.mem_of_getElem? (i := 31) rfl)
set_option maxRecDepth 100000 in
theorem wd_813 : (Jvm.Cond.fieldLink "CutBureauModel" (113 : Nat) "CutBureauModel" "isFrom" "[Z") ∈ lw_tbl := inT4 (List.mem_of_getElem? (i := 32) rfl)
set_option maxRecDepth 100000 in
theorem wd_814 : (Jvm.Cond.fieldLink "CutBureauModel" (116 : Nat) "CutBureauModel" "found" "[I") ∈ lw_tbl := inT4 (List.mem_of_getElem? (i := 33) rfl)
set_option maxRecDepth 100000 in
theorem wd_815 : (Jvm.Cond.fieldLink "CutBureauModel" (119 : Nat) "CutBureauModel" "minutes" "[I") ∈ lw_tbl := inT4 (List.mem_of_getElem? (i := 34) rfl)
set_option maxRecDepth 100000 in
theorem wd_816 : (Jvm.Cond.fieldLink "CutBureauModel" (122 : Nat) "CutBureauModel" "slipping" "[I") ∈ lw_tbl := inT4 (List.mem_of_getElem? (i := 35) rfl)
set_option maxRecDepth 100000 in
theorem wd_817 : (Jvm.Cond.fieldLink "CutBureauModel" (125 : Nat) "CutBureauModel" "reads" "[I") ∈ lw_tbl := inT4 (List.mem_of_getElem? (i := 36) rfl)
set_option maxRecDepth 100000 in
theorem wd_818 : (Jvm.Cond.fieldLink "CutBureauModel" (128 : Nat) "CutBureauModel" "readBest" "[I") ∈ lw_tbl := inT4 (List.mem_of_getElem? (i := 37) rfl)
set_option maxRecDepth 100000 in
theorem wd_819 : (Jvm.Cond.fieldLink "CutBureauModel" (131 : Nat) "CutBureauModel" "rest" "[I") ∈ lw_tbl := inT4 (List.mem_of_getElem? (i := 38) rfl)
set_option maxRecDepth 100000 in
theorem wd_820 : (Jvm.Cond.fieldLink "CutBureauModel" (134 : Nat) "CutBureauModel" "missed" "[I") ∈ lw_tbl := inT4 (List.mem_of_getElem? (i := 39) rfl)
set_option maxRecDepth 100000 in
theorem wd_924 : (Jvm.Cond.arrayClass Jvm.ClassFile.FieldType.boolean) ∈ lw_tbl := inT4 (List.mem_of_getElem? (i := 143) rfl)
set_option maxRecDepth 100000 in
theorem wd_929 : (Jvm.Cond.constantLong "CutBureauModel" (150 : Nat) (9 : Int64)) ∈ lw_tbl := inT4 (List.mem_of_getElem? (i := 148) rfl)
set_option maxRecDepth 100000 in
theorem wd_930 : (Jvm.Cond.methodLink "CutBureauModel" (139 : Nat) ({ cls := "CutBureauModel", name := "in", desc := "(JJJ)Z" } : Jvm.MethodName)) ∈ lw_tbl := inT4 (List.mem_of_getElem? (i := 149) rfl)
set_option maxRecDepth 100000 in
theorem wd_931 : (Jvm.Cond.static ({ cls := "CutBureauModel", name := "in", desc := "(JJJ)Z" } : Jvm.MethodName)) ∈ lw_tbl := inT4 (List.mem_of_getElem? (i := 150) rfl)
set_option maxRecDepth 100000 in
theorem wd_932 : (Jvm.Cond.code ({ cls := "CutBureauModel", name := "in", desc := "(JJJ)Z" } : Jvm.MethodName) prog_12_method_3_code (6 : Nat) (Option.some Jvm.ClassFile.FieldType.boolean)) ∈ lw_tbl := inT4 (List.mem_of_getElem? (i := 151) rfl)
set_option maxRecDepth 100000 in
theorem wd_933 : (Jvm.Cond.methodLink "CutBureauModel" (152 : Nat) ({ cls := "CutBureauModel", name := "isDay", desc := "(I)Z" } : Jvm.MethodName)) ∈ lw_tbl := inT4 (List.mem_of_getElem? (i := 152) rfl)
set_option maxRecDepth 100000 in
theorem wd_934 : (Jvm.Cond.static ({ cls := "CutBureauModel", name := "isDay", desc := "(I)Z" } : Jvm.MethodName)) ∈ lw_tbl := inT4 (List.mem_of_getElem? (i := 153) rfl)
set_option maxRecDepth 100000 in
theorem wd_935 : (Jvm.Cond.code ({ cls := "CutBureauModel", name := "isDay", desc := "(I)Z" } : Jvm.MethodName) prog_12_method_4_code (1 : Nat) (Option.some Jvm.ClassFile.FieldType.boolean)) ∈ lw_tbl := inT4 (List.mem_of_getElem? (i := 154) rfl)
set_option maxRecDepth 100000 in
theorem wd_936 : (Jvm.Cond.constantLong "CutBureauModel" (137 : Nat) (99 : Int64)) ∈ lw_tbl := inT4 (List.mem_of_getElem? (i := 155) rfl)
set_option maxRecDepth 100000 in
theorem wd_941 : (Jvm.Cond.methodLink "CutBureauModel" (156 : Nat) ({ cls := "CutBureauModel", name := "isPage", desc := "(I)Z" } : Jvm.MethodName)) ∈ lw_tbl := inT4 (List.mem_of_getElem? (i := 160) rfl)
set_option maxRecDepth 100000 in
theorem wd_943 : (Jvm.Cond.instanceMethod ({ cls := "CutBureauModel", name := "isPage", desc := "(I)Z" } : Jvm.MethodName)) ∈ lw_tbl := inT4 (List.mem_of_getElem? (i := 162) rfl)
set_option maxRecDepth 100000 in
theorem wd_944 : (Jvm.Cond.code ({ cls := "CutBureauModel", name := "isPage", desc := "(I)Z" } : Jvm.MethodName) prog_12_method_5_code (2 : Nat) (Option.some Jvm.ClassFile.FieldType.boolean)) ∈ lw_tbl := inT4 (List.mem_of_getElem? (i := 163) rfl)
set_option maxRecDepth 100000 in
theorem wd_945 : (Jvm.Cond.constantLong "CutBureauModel" (159 : Nat) (59 : Int64)) ∈ lw_tbl := inT4 (List.mem_of_getElem? (i := 164) rfl)
set_option maxRecDepth 100000 in
theorem wd_946 : (Jvm.Cond.constantLong "CutBureauModel" (161 : Nat) (-1 : Int64)) ∈ lw_tbl := inT4 (List.mem_of_getElem? (i := 165) rfl)
set_option maxRecDepth 100000 in
theorem wd_947 : (Jvm.Cond.methodLink "CutBureauModel" (163 : Nat) ({ cls := "CutBureauModel", name := "isKept", desc := "(I)Z" } : Jvm.MethodName)) ∈ lw_tbl := inT4 (List.mem_of_getElem? (i := 166) rfl)
set_option maxRecDepth 100000 in
theorem wd_949 : (Jvm.Cond.instanceMethod ({ cls := "CutBureauModel", name := "isKept", desc := "(I)Z" } : Jvm.MethodName)) ∈ lw_tbl := inT4 (List.mem_of_getElem? (i := 168) rfl)
set_option maxRecDepth 100000 in
theorem wd_950 : (Jvm.Cond.code ({ cls := "CutBureauModel", name := "isKept", desc := "(I)Z" } : Jvm.MethodName) prog_12_method_8_code (4 : Nat) (Option.some Jvm.ClassFile.FieldType.boolean)) ∈ lw_tbl := inT4 (List.mem_of_getElem? (i := 169) rfl)
set_option maxRecDepth 100000 in
theorem wd_959 : (Jvm.Cond.constantLong "CutBureauModel" (170 : Nat) (100 : Int64)) ∈ lw_tbl := inT4 (List.mem_of_getElem? (i := 178) rfl)
set_option maxRecDepth 100000 in
theorem wd_960 : (Jvm.Cond.constantLong "CutBureauModel" (172 : Nat) (159 : Int64)) ∈ lw_tbl := inT4 (List.mem_of_getElem? (i := 179) rfl)
set_option maxRecDepth 100000 in
theorem wd_965 : (Jvm.Cond.constantLong "CutBureauModel" (174 : Nat) (5 : Int64)) ∈ lw_tbl := inT4 (List.mem_of_getElem? (i := 184) rfl)
set_option maxRecDepth 100000 in
theorem wd_970 : (Jvm.Cond.methodLink "CutBureauModel" (186 : Nat) ({ cls := "CutBureauModel", name := "isPiece", desc := "(I)Z" } : Jvm.MethodName)) ∈ lw_tbl := inT4 (List.mem_of_getElem? (i := 189) rfl)
set_option maxRecDepth 100000 in
theorem wd_972 : (Jvm.Cond.instanceMethod ({ cls := "CutBureauModel", name := "isPiece", desc := "(I)Z" } : Jvm.MethodName)) ∈ lw_tbl := inT4 (List.mem_of_getElem? (i := 191) rfl)
set_option maxRecDepth 100000 in
theorem wd_973 : (Jvm.Cond.code ({ cls := "CutBureauModel", name := "isPiece", desc := "(I)Z" } : Jvm.MethodName) prog_12_method_6_code (2 : Nat) (Option.some Jvm.ClassFile.FieldType.boolean)) ∈ lw_tbl := inT4 (List.mem_of_getElem? (i := 192) rfl)
set_option maxRecDepth 100000 in
theorem wd_974 : (Jvm.Cond.methodLink "CutBureauModel" (179 : Nat) ({ cls := "CutBureauModel", name := "layOne", desc := "(I)V" } : Jvm.MethodName)) ∈ lw_tbl := inT4 (List.mem_of_getElem? (i := 193) rfl)
set_option maxRecDepth 100000 in
theorem wd_976 : (Jvm.Cond.instanceMethod ({ cls := "CutBureauModel", name := "layOne", desc := "(I)V" } : Jvm.MethodName)) ∈ lw_tbl := inT4 (List.mem_of_getElem? (i := 195) rfl)
set_option maxRecDepth 100000 in
theorem wd_977 : (Jvm.Cond.code ({ cls := "CutBureauModel", name := "layOne", desc := "(I)V" } : Jvm.MethodName) prog_12_method_13_code (5 : Nat) (Option.none : Option Jvm.ClassFile.FieldType)) ∈ lw_tbl := inT4 (List.mem_of_getElem? (i := 196) rfl)
set_option maxRecDepth 100000 in
theorem wd_978 : (Jvm.Cond.methodLink "CutBureauModel" (189 : Nat) ({ cls := "CutBureauModel", name := "findFamily", desc := "(I)I" } : Jvm.MethodName)) ∈ lw_tbl := inT4 (List.mem_of_getElem? (i := 197) rfl)
set_option maxRecDepth 100000 in
theorem wd_980 : (Jvm.Cond.instanceMethod ({ cls := "CutBureauModel", name := "findFamily", desc := "(I)I" } : Jvm.MethodName)) ∈ lw_tbl := inT4 (List.mem_of_getElem? (i := 199) rfl)
set_option maxRecDepth 100000 in
theorem wd_981 : (Jvm.Cond.code ({ cls := "CutBureauModel", name := "findFamily", desc := "(I)I" } : Jvm.MethodName) prog_12_method_39_code (6 : Nat) (Option.some Jvm.ClassFile.FieldType.int)) ∈ lw_tbl := inT4 (List.mem_of_getElem? (i := 200) rfl)
set_option maxRecDepth 100000 in
theorem wd_982 : (Jvm.Cond.methodLink "CutBureauModel" (269 : Nat) ({ cls := "CutBureauModel", name := "layDoubles", desc := "()V" } : Jvm.MethodName)) ∈ lw_tbl := inT4 (List.mem_of_getElem? (i := 201) rfl)
set_option maxRecDepth 100000 in
theorem wd_984 : (Jvm.Cond.instanceMethod ({ cls := "CutBureauModel", name := "layDoubles", desc := "()V" } : Jvm.MethodName)) ∈ lw_tbl := inT4 (List.mem_of_getElem? (i := 203) rfl)
set_option maxRecDepth 100000 in
theorem wd_985 : (Jvm.Cond.code ({ cls := "CutBureauModel", name := "layDoubles", desc := "()V" } : Jvm.MethodName) prog_12_method_38_code (4 : Nat) (Option.none : Option Jvm.ClassFile.FieldType)) ∈ lw_tbl := inT4 (List.mem_of_getElem? (i := 204) rfl)
set_option maxRecDepth 100000 in
theorem wd_986 : (Jvm.Cond.methodLink "CutBureauModel" (266 : Nat) ({ cls := "CutBureauModel", name := "areDoubles", desc := "(II)Z" } : Jvm.MethodName)) ∈ lw_tbl := inT4 (List.mem_of_getElem? (i := 205) rfl)
set_option maxRecDepth 100000 in
theorem wd_988 : (Jvm.Cond.instanceMethod ({ cls := "CutBureauModel", name := "areDoubles", desc := "(II)Z" } : Jvm.MethodName)) ∈ lw_tbl := inT4 (List.mem_of_getElem? (i := 207) rfl)
set_option maxRecDepth 100000 in
theorem wd_989 : (Jvm.Cond.code ({ cls := "CutBureauModel", name := "areDoubles", desc := "(II)Z" } : Jvm.MethodName) prog_12_method_37_code (5 : Nat) (Option.some Jvm.ClassFile.FieldType.boolean)) ∈ lw_tbl := inT4 (List.mem_of_getElem? (i := 208) rfl)
set_option maxRecDepth 100000 in
theorem wd_990 : (Jvm.Cond.methodLink "CutBureauModel" (262 : Nat) ({ cls := "CutBureauModel", name := "changesOf", desc := "(II)I" } : Jvm.MethodName)) ∈ lw_tbl := inT4 (List.mem_of_getElem? (i := 209) rfl)
set_option maxRecDepth 100000 in
theorem wd_992 : (Jvm.Cond.instanceMethod ({ cls := "CutBureauModel", name := "changesOf", desc := "(II)I" } : Jvm.MethodName)) ∈ lw_tbl := inT4 (List.mem_of_getElem? (i := 211) rfl)
set_option maxRecDepth 100000 in
theorem wd_993 : (Jvm.Cond.code ({ cls := "CutBureauModel", name := "changesOf", desc := "(II)I" } : Jvm.MethodName) prog_12_method_35_code (8 : Nat) (Option.some Jvm.ClassFile.FieldType.int)) ∈ lw_tbl := inT4 (List.mem_of_getElem? (i := 212) rfl)
set_option maxRecDepth 100000 in
theorem wd_994 : (Jvm.Cond.methodLink "CutBureauModel" (258 : Nat) ({ cls := "CutBureauModel", name := "layBoth", desc := "(II)V" } : Jvm.MethodName)) ∈ lw_tbl := inT4 (List.mem_of_getElem? (i := 213) rfl)
set_option maxRecDepth 100000 in
theorem wd_996 : (Jvm.Cond.instanceMethod ({ cls := "CutBureauModel", name := "layBoth", desc := "(II)V" } : Jvm.MethodName)) ∈ lw_tbl := inT4 (List.mem_of_getElem? (i := 215) rfl)
set_option maxRecDepth 100000 in
theorem wd_997 : (Jvm.Cond.code ({ cls := "CutBureauModel", name := "layBoth", desc := "(II)V" } : Jvm.MethodName) prog_12_method_14_code (4 : Nat) (Option.none : Option Jvm.ClassFile.FieldType)) ∈ lw_tbl := inT4 (List.mem_of_getElem? (i := 216) rfl)
set_option maxRecDepth 100000 in
theorem wd_998 : (Jvm.Cond.methodLink "CutBureauModel" (193 : Nat) ({ cls := "CutBureauModel", name := "firstOf", desc := "()I" } : Jvm.MethodName)) ∈ lw_tbl := inT4 (List.mem_of_getElem? (i := 217) rfl)
set_option maxRecDepth 100000 in
theorem wd_1000 : (Jvm.Cond.instanceMethod ({ cls := "CutBureauModel", name := "firstOf", desc := "()I" } : Jvm.MethodName)) ∈ lw_tbl := inT4 (List.mem_of_getElem? (i := 219) rfl)
set_option maxRecDepth 100000 in
theorem wd_1001 : (Jvm.Cond.code ({ cls := "CutBureauModel", name := "firstOf", desc := "()I" } : Jvm.MethodName) prog_12_method_41_code (3 : Nat) (Option.some Jvm.ClassFile.FieldType.int)) ∈ lw_tbl := inT4 (List.mem_of_getElem? (i := 220) rfl)
set_option maxRecDepth 100000 in
theorem wd_1002 : (Jvm.Cond.methodLink "CutBureauModel" (272 : Nat) ({ cls := "CutBureauModel", name := "isAhead", desc := "(II)Z" } : Jvm.MethodName)) ∈ lw_tbl := inT4 (List.mem_of_getElem? (i := 221) rfl)
set_option maxRecDepth 100000 in
theorem wd_1004 : (Jvm.Cond.instanceMethod ({ cls := "CutBureauModel", name := "isAhead", desc := "(II)Z" } : Jvm.MethodName)) ∈ lw_tbl := inT4 (List.mem_of_getElem? (i := 223) rfl)
set_option maxRecDepth 100000 in
theorem wd_1005 : (Jvm.Cond.code ({ cls := "CutBureauModel", name := "isAhead", desc := "(II)Z" } : Jvm.MethodName) prog_12_method_40_code (5 : Nat) (Option.some Jvm.ClassFile.FieldType.boolean)) ∈ lw_tbl := inT4 (List.mem_of_getElem? (i := 224) rfl)
set_option maxRecDepth 100000 in
theorem wd_1014 : (Jvm.Cond.methodLink "CutBureauModel" (197 : Nat) ({ cls := "CutBureauModel", name := "doClash", desc := "(II)Z" } : Jvm.MethodName)) ∈ lw_tbl := inT4 (List.mem_of_getElem? (i := 233) rfl)
set_option maxRecDepth 100000 in
theorem wd_1016 : (Jvm.Cond.instanceMethod ({ cls := "CutBureauModel", name := "doClash", desc := "(II)Z" } : Jvm.MethodName)) ∈ lw_tbl := inT4 (List.mem_of_getElem? (i := 235) rfl)
set_option maxRecDepth 100000 in
theorem wd_1017 : (Jvm.Cond.code ({ cls := "CutBureauModel", name := "doClash", desc := "(II)Z" } : Jvm.MethodName) prog_12_method_17_code (6 : Nat) (Option.some Jvm.ClassFile.FieldType.boolean)) ∈ lw_tbl := inT4 (List.mem_of_getElem? (i := 236) rfl)
set_option maxRecDepth 100000 in
theorem wd_1022 : (Jvm.Cond.constantLong "CutBureauModel" (201 : Nat) (33 : Int64)) ∈ lw_tbl := inT5 (List.mem_of_getElem? (i := 1) rfl)
set_option maxRecDepth 100000 in
theorem wd_1023 : (Jvm.Cond.constantLong "CutBureauModel" (203 : Nat) (126 : Int64)) ∈ lw_tbl := inT5 (List.mem_of_getElem? (i := 2) rfl)
set_option maxRecDepth 100000 in
theorem wd_1029 : (Jvm.Cond.instanceMethod ({ cls := "CutBureauModel", name := "fault", desc := "()I" } : Jvm.MethodName)) ∈ lw_tbl := inT5 (List.mem_of_getElem? (i := 8) rfl)
set_option maxRecDepth 100000 in
theorem wd_1030 : (Jvm.Cond.selects "CutBureauModel" ({ cls := "CutBureauModel", name := "fault", desc := "()I" } : Jvm.MethodName) ({ cls := "CutBureauModel", name := "fault", desc := "()I" } : Jvm.MethodName)) ∈ lw_tbl := inT5 (List.mem_of_getElem? (i := 9) rfl)
set_option maxRecDepth 100000 in
theorem wd_1031 : (Jvm.Cond.code ({ cls := "CutBureauModel", name := "fault", desc := "()I" } : Jvm.MethodName) prog_12_method_23_code (5 : Nat) (Option.some Jvm.ClassFile.FieldType.int)) ∈ lw_tbl := inT5 (List.mem_of_getElem? (i := 10) rfl)
set_option maxRecDepth 100000 in
theorem wd_1032 : (Jvm.Cond.methodLink "CutBureauModel" (212 : Nat) ({ cls := "CutBureauModel", name := "stepOf", desc := "(III)I" } : Jvm.MethodName)) ∈ lw_tbl := inT5 (List.mem_of_getElem? (i := 11) rfl)
set_option maxRecDepth 100000 in
theorem wd_1033 : (Jvm.Cond.static ({ cls := "CutBureauModel", name := "stepOf", desc := "(III)I" } : Jvm.MethodName)) ∈ lw_tbl := inT5 (List.mem_of_getElem? (i := 12) rfl)
set_option maxRecDepth 100000 in
theorem wd_1034 : (Jvm.Cond.code ({ cls := "CutBureauModel", name := "stepOf", desc := "(III)I" } : Jvm.MethodName) prog_12_method_22_code (4 : Nat) (Option.some Jvm.ClassFile.FieldType.int)) ∈ lw_tbl := inT5 (List.mem_of_getElem? (i := 13) rfl)
set_option maxRecDepth 100000 in
theorem wd_1035 : (Jvm.Cond.methodLink "CutBureauModel" (209 : Nat) ({ cls := "CutBureauModel", name := "isDigit", desc := "(I)Z" } : Jvm.MethodName)) ∈ lw_tbl := inT5 (List.mem_of_getElem? (i := 14) rfl)
set_option maxRecDepth 100000 in
theorem wd_1036 : (Jvm.Cond.static ({ cls := "CutBureauModel", name := "isDigit", desc := "(I)Z" } : Jvm.MethodName)) ∈ lw_tbl := inT5 (List.mem_of_getElem? (i := 15) rfl)
set_option maxRecDepth 100000 in
theorem wd_1037 : (Jvm.Cond.code ({ cls := "CutBureauModel", name := "isDigit", desc := "(I)Z" } : Jvm.MethodName) prog_12_method_21_code (1 : Nat) (Option.some Jvm.ClassFile.FieldType.boolean)) ∈ lw_tbl := inT5 (List.mem_of_getElem? (i := 16) rfl)
set_option maxRecDepth 100000 in
theorem wd_1038 : (Jvm.Cond.constantLong "CutBureauModel" (205 : Nat) (48 : Int64)) ∈ lw_tbl := inT5 (List.mem_of_getElem? (i := 17) rfl)
set_option maxRecDepth 100000 in
theorem wd_1039 : (Jvm.Cond.constantLong "CutBureauModel" (207 : Nat) (57 : Int64)) ∈ lw_tbl := inT5 (List.mem_of_getElem? (i := 18) rfl)
set_option maxRecDepth 100000 in
theorem wd_1044 : (Jvm.Cond.constantLong "CutBureauModel" (216 : Nat) (1023 : Int64)) ∈ lw_tbl := inT5 (List.mem_of_getElem? (i := 23) rfl)
set_option maxRecDepth 100000 in
theorem wd_1045 : (Jvm.Cond.constantLong "CutBureauModel" (218 : Nat) (20 : Int64)) ∈ lw_tbl := inT5 (List.mem_of_getElem? (i := 24) rfl)
set_option maxRecDepth 100000 in
theorem wd_1046 : (Jvm.Cond.methodLink "CutBureauModel" (223 : Nat) ({ cls := "CutBureauModel", name := "fault", desc := "()I" } : Jvm.MethodName)) ∈ lw_tbl := inT5 (List.mem_of_getElem? (i := 25) rfl)
set_option maxRecDepth 100000 in
theorem wd_1051 : (Jvm.Cond.methodLink "CutBureauModel" (252 : Nat) ({ cls := "CutBureauModel", name := "isOrder", desc := "(I)Z" } : Jvm.MethodName)) ∈ lw_tbl := inT5 (List.mem_of_getElem? (i := 30) rfl)
set_option maxRecDepth 100000 in
theorem wd_1053 : (Jvm.Cond.instanceMethod ({ cls := "CutBureauModel", name := "isOrder", desc := "(I)Z" } : Jvm.MethodName)) ∈ lw_tbl := inT5 (List.mem_of_getElem? (i := 32) rfl)
set_option maxRecDepth 100000 in
theorem wd_1054 : (Jvm.Cond.code ({ cls := "CutBureauModel", name := "isOrder", desc := "(I)Z" } : Jvm.MethodName) prog_12_method_33_code (2 : Nat) (Option.some Jvm.ClassFile.FieldType.boolean)) ∈ lw_tbl := inT5 (List.mem_of_getElem? (i := 33) rfl)
set_option maxRecDepth 100000 in
theorem wd_1055 : (Jvm.Cond.methodLink "CutBureauModel" (255 : Nat) ({ cls := "CutBureauModel", name := "doesWant", desc := "(II)Z" } : Jvm.MethodName)) ∈ lw_tbl := inT5 (List.mem_of_getElem? (i := 34) rfl)
set_option maxRecDepth 100000 in
theorem wd_1057 : (Jvm.Cond.instanceMethod ({ cls := "CutBureauModel", name := "doesWant", desc := "(II)Z" } : Jvm.MethodName)) ∈ lw_tbl := inT5 (List.mem_of_getElem? (i := 36) rfl)
set_option maxRecDepth 100000 in
theorem wd_1058 : (Jvm.Cond.code ({ cls := "CutBureauModel", name := "doesWant", desc := "(II)Z" } : Jvm.MethodName) prog_12_method_32_code (4 : Nat) (Option.some Jvm.ClassFile.FieldType.boolean)) ∈ lw_tbl := inT5 (List.mem_of_getElem? (i := 37) rfl)
set_option maxRecDepth 100000 in
theorem wd_1059 : (Jvm.Cond.methodLink "CutBureauModel" (249 : Nat) ({ cls := "CutBureauModel", name := "isRule", desc := "(II)Z" } : Jvm.MethodName)) ∈ lw_tbl := inT5 (List.mem_of_getElem? (i := 38) rfl)
set_option maxRecDepth 100000 in
theorem wd_1061 : (Jvm.Cond.instanceMethod ({ cls := "CutBureauModel", name := "isRule", desc := "(II)Z" } : Jvm.MethodName)) ∈ lw_tbl := inT5 (List.mem_of_getElem? (i := 40) rfl)
set_option maxRecDepth 100000 in
theorem wd_1062 : (Jvm.Cond.code ({ cls := "CutBureauModel", name := "isRule", desc := "(II)Z" } : Jvm.MethodName) prog_12_method_31_code (6 : Nat) (Option.some Jvm.ClassFile.FieldType.boolean)) ∈ lw_tbl := inT5 (List.mem_of_getElem? (i := 41) rfl)
set_option maxRecDepth 100000 in
theorem wd_1063 : (Jvm.Cond.methodLink "CutBureauModel" (239 : Nat) ({ cls := "CutBureauModel", name := "begin", desc := "(I)V" } : Jvm.MethodName)) ∈ lw_tbl := inT5 (List.mem_of_getElem? (i := 42) rfl)
set_option maxRecDepth 100000 in
theorem wd_1065 : (Jvm.Cond.instanceMethod ({ cls := "CutBureauModel", name := "begin", desc := "(I)V" } : Jvm.MethodName)) ∈ lw_tbl := inT5 (List.mem_of_getElem? (i := 44) rfl)
set_option maxRecDepth 100000 in
theorem wd_1066 : (Jvm.Cond.code ({ cls := "CutBureauModel", name := "begin", desc := "(I)V" } : Jvm.MethodName) prog_12_method_27_code (2 : Nat) (Option.none : Option Jvm.ClassFile.FieldType)) ∈ lw_tbl := inT5 (List.mem_of_getElem? (i := 45) rfl)
set_option maxRecDepth 100000 in
theorem wd_1067 : (Jvm.Cond.methodLink "CutBureauModel" (242 : Nat) ({ cls := "CutBureauModel", name := "isItem", desc := "(I)Z" } : Jvm.MethodName)) ∈ lw_tbl := inT5 (List.mem_of_getElem? (i := 46) rfl)
set_option maxRecDepth 100000 in
theorem wd_1069 : (Jvm.Cond.instanceMethod ({ cls := "CutBureauModel", name := "isItem", desc := "(I)Z" } : Jvm.MethodName)) ∈ lw_tbl := inT5 (List.mem_of_getElem? (i := 48) rfl)
set_option maxRecDepth 100000 in
theorem wd_1070 : (Jvm.Cond.code ({ cls := "CutBureauModel", name := "isItem", desc := "(I)Z" } : Jvm.MethodName) prog_12_method_30_code (4 : Nat) (Option.some Jvm.ClassFile.FieldType.boolean)) ∈ lw_tbl := inT5 (List.mem_of_getElem? (i := 49) rfl)
set_option maxRecDepth 100000 in
theorem wd_1071 : (Jvm.Cond.methodLink "CutBureauModel" (229 : Nat) ({ cls := "CutBureauModel", name := "number", desc := "(I)I" } : Jvm.MethodName)) ∈ lw_tbl := inT5 (List.mem_of_getElem? (i := 50) rfl)
set_option maxRecDepth 100000 in
theorem wd_1073 : (Jvm.Cond.instanceMethod ({ cls := "CutBureauModel", name := "number", desc := "(I)I" } : Jvm.MethodName)) ∈ lw_tbl := inT5 (List.mem_of_getElem? (i := 52) rfl)
set_option maxRecDepth 100000 in
theorem wd_1074 : (Jvm.Cond.code ({ cls := "CutBureauModel", name := "number", desc := "(I)I" } : Jvm.MethodName) prog_12_method_29_code (3 : Nat) (Option.some Jvm.ClassFile.FieldType.int)) ∈ lw_tbl := inT5 (List.mem_of_getElem? (i := 53) rfl)
set_option maxRecDepth 100000 in
theorem wd_1075 : (Jvm.Cond.methodLink "CutBureauModel" (232 : Nat) ({ cls := "CutBureauModel", name := "timesOf", desc := "(I)I" } : Jvm.MethodName)) ∈ lw_tbl := inT5 (List.mem_of_getElem? (i := 54) rfl)
set_option maxRecDepth 100000 in
theorem wd_1077 : (Jvm.Cond.instanceMethod ({ cls := "CutBureauModel", name := "timesOf", desc := "(I)I" } : Jvm.MethodName)) ∈ lw_tbl := inT5 (List.mem_of_getElem? (i := 56) rfl)
set_option maxRecDepth 100000 in
theorem wd_1078 : (Jvm.Cond.code ({ cls := "CutBureauModel", name := "timesOf", desc := "(I)I" } : Jvm.MethodName) prog_12_method_25_code (4 : Nat) (Option.some Jvm.ClassFile.FieldType.int)) ∈ lw_tbl := inT5 (List.mem_of_getElem? (i := 57) rfl)
set_option maxRecDepth 100000 in
theorem wd_1079 : (Jvm.Cond.methodLink "CutBureauModel" (235 : Nat) ({ cls := "CutBureauModel", name := "areNear", desc := "(III)Z" } : Jvm.MethodName)) ∈ lw_tbl := inT5 (List.mem_of_getElem? (i := 58) rfl)
set_option maxRecDepth 100000 in
theorem wd_1081 : (Jvm.Cond.instanceMethod ({ cls := "CutBureauModel", name := "areNear", desc := "(III)Z" } : Jvm.MethodName)) ∈ lw_tbl := inT5 (List.mem_of_getElem? (i := 60) rfl)
set_option maxRecDepth 100000 in
theorem wd_1082 : (Jvm.Cond.code ({ cls := "CutBureauModel", name := "areNear", desc := "(III)Z" } : Jvm.MethodName) prog_12_method_26_code (8 : Nat) (Option.some Jvm.ClassFile.FieldType.boolean)) ∈ lw_tbl := inT5 (List.mem_of_getElem? (i := 61) rfl)
set_option maxRecDepth 100000 in
theorem wd_1083 : (Jvm.Cond.methodLink "CutBureauModel" (245 : Nat) ({ cls := "CutBureauModel", name := "join", desc := "(IZ)V" } : Jvm.MethodName)) ∈ lw_tbl := inT5 (List.mem_of_getElem? (i := 62) rfl)
set_option maxRecDepth 100000 in
theorem wd_1085 : (Jvm.Cond.instanceMethod ({ cls := "CutBureauModel", name := "join", desc := "(IZ)V" } : Jvm.MethodName)) ∈ lw_tbl := inT5 (List.mem_of_getElem? (i := 64) rfl)
set_option maxRecDepth 100000 in
theorem wd_1086 : (Jvm.Cond.code ({ cls := "CutBureauModel", name := "join", desc := "(IZ)V" } : Jvm.MethodName) prog_12_method_28_code (3 : Nat) (Option.none : Option Jvm.ClassFile.FieldType)) ∈ lw_tbl := inT5 (List.mem_of_getElem? (i := 65) rfl)
set_option maxRecDepth 100000 in
theorem wd_1095 : (Jvm.Cond.constantLong "CutBureauModel" (275 : Nat) (8 : Int64)) ∈ lw_tbl := inT5 (List.mem_of_getElem? (i := 74) rfl)
set_option maxRecDepth 100000 in
theorem wd_1096 : (Jvm.Cond.methodLink "CutBureauModel" (277 : Nat) ({ cls := "CutBureauModel", name := "leastOf", desc := "(I)I" } : Jvm.MethodName)) ∈ lw_tbl := inT5 (List.mem_of_getElem? (i := 75) rfl)
set_option maxRecDepth 100000 in
theorem wd_1097 : (Jvm.Cond.static ({ cls := "CutBureauModel", name := "leastOf", desc := "(I)I" } : Jvm.MethodName)) ∈ lw_tbl := inT5 (List.mem_of_getElem? (i := 76) rfl)
set_option maxRecDepth 100000 in
theorem wd_1098 : (Jvm.Cond.code ({ cls := "CutBureauModel", name := "leastOf", desc := "(I)I" } : Jvm.MethodName) prog_12_method_42_code (1 : Nat) (Option.some Jvm.ClassFile.FieldType.int)) ∈ lw_tbl := inT5 (List.mem_of_getElem? (i := 77) rfl)
set_option maxRecDepth 100000 in
theorem wd_1099 : (Jvm.Cond.methodLink "CutBureauModel" (280 : Nat) ({ cls := "CutBureauModel", name := "greatestOf", desc := "(I)I" } : Jvm.MethodName)) ∈ lw_tbl := inT5 (List.mem_of_getElem? (i := 78) rfl)
set_option maxRecDepth 100000 in
theorem wd_1100 : (Jvm.Cond.static ({ cls := "CutBureauModel", name := "greatestOf", desc := "(I)I" } : Jvm.MethodName)) ∈ lw_tbl := inT5 (List.mem_of_getElem? (i := 79) rfl)
set_option maxRecDepth 100000 in
theorem wd_1101 : (Jvm.Cond.code ({ cls := "CutBureauModel", name := "greatestOf", desc := "(I)I" } : Jvm.MethodName) prog_12_method_43_code (1 : Nat) (Option.some Jvm.ClassFile.FieldType.int)) ∈ lw_tbl := inT5 (List.mem_of_getElem? (i := 80) rfl)
set_option maxRecDepth 100000 in
theorem wd_1106 : (Jvm.Cond.methodLink "CutBureauModel" (289 : Nat) ({ cls := "CutBureauModel", name := "findList", desc := "(II)V" } : Jvm.MethodName)) ∈ lw_tbl := inT5 (List.mem_of_getElem? (i := 85) rfl)
set_option maxRecDepth 100000 in
theorem wd_1108 : (Jvm.Cond.instanceMethod ({ cls := "CutBureauModel", name := "findList", desc := "(II)V" } : Jvm.MethodName)) ∈ lw_tbl := inT5 (List.mem_of_getElem? (i := 87) rfl)
set_option maxRecDepth 100000 in
theorem wd_1109 : (Jvm.Cond.code ({ cls := "CutBureauModel", name := "findList", desc := "(II)V" } : Jvm.MethodName) prog_12_method_46_code (6 : Nat) (Option.none : Option Jvm.ClassFile.FieldType)) ∈ lw_tbl := inT5 (List.mem_of_getElem? (i := 88) rfl)
set_option maxRecDepth 100000 in
theorem wd_1110 : (Jvm.Cond.methodLink "CutBureauModel" (286 : Nat) ({ cls := "CutBureauModel", name := "isDoubled", desc := "(I)Z" } : Jvm.MethodName)) ∈ lw_tbl := inT5 (List.mem_of_getElem? (i := 89) rfl)
set_option maxRecDepth 100000 in
theorem wd_1112 : (Jvm.Cond.instanceMethod ({ cls := "CutBureauModel", name := "isDoubled", desc := "(I)Z" } : Jvm.MethodName)) ∈ lw_tbl := inT5 (List.mem_of_getElem? (i := 91) rfl)
set_option maxRecDepth 100000 in
theorem wd_1113 : (Jvm.Cond.code ({ cls := "CutBureauModel", name := "isDoubled", desc := "(I)Z" } : Jvm.MethodName) prog_12_method_45_code (4 : Nat) (Option.some Jvm.ClassFile.FieldType.boolean)) ∈ lw_tbl := inT5 (List.mem_of_getElem? (i := 92) rfl)
set_option maxRecDepth 100000 in
theorem wd_1118 : (Jvm.Cond.methodLink "CutBureauModel" (294 : Nat) ({ cls := "CutBureauModel", name := "isName", desc := "(I)Z" } : Jvm.MethodName)) ∈ lw_tbl := inT5 (List.mem_of_getElem? (i := 97) rfl)
set_option maxRecDepth 100000 in
theorem wd_1119 : (Jvm.Cond.static ({ cls := "CutBureauModel", name := "isName", desc := "(I)Z" } : Jvm.MethodName)) ∈ lw_tbl := inT5 (List.mem_of_getElem? (i := 98) rfl)
set_option maxRecDepth 100000 in
theorem wd_1120 : (Jvm.Cond.code ({ cls := "CutBureauModel", name := "isName", desc := "(I)Z" } : Jvm.MethodName) prog_12_method_48_code (1 : Nat) (Option.some Jvm.ClassFile.FieldType.boolean)) ∈ lw_tbl := inT5 (List.mem_of_getElem? (i := 99) rfl)
set_option maxRecDepth 100000 in
theorem wd_1121 : (Jvm.Cond.constantLong "CutBureauModel" (292 : Nat) (3 : Int64)) ∈ lw_tbl := inT5 (List.mem_of_getElem? (i := 100) rfl)
set_option maxRecDepth 100000 in
theorem wd_1126 : (Jvm.Cond.constantLong "CutBureauModel" (297 : Nat) (-100 : Int64)) ∈ lw_tbl := inT5 (List.mem_of_getElem? (i := 105) rfl)
set_option maxRecDepth 100000 in
theorem wd_1131 : (Jvm.Cond.constantLong "CutBureauModel" (299 : Nat) (2 : Int64)) ∈ lw_tbl := inT5 (List.mem_of_getElem? (i := 110) rfl)
set_option maxRecDepth 100000 in
theorem wd_1132 : (Jvm.Cond.methodLink "CutBureauModel" (301 : Nat) ({ cls := "CutBureauModel", name := "sumAt", desc := "(II)I" } : Jvm.MethodName)) ∈ lw_tbl := inT5 (List.mem_of_getElem? (i := 111) rfl)
set_option maxRecDepth 100000 in
theorem wd_1134 : (Jvm.Cond.instanceMethod ({ cls := "CutBureauModel", name := "sumAt", desc := "(II)I" } : Jvm.MethodName)) ∈ lw_tbl := inT5 (List.mem_of_getElem? (i := 113) rfl)
set_option maxRecDepth 100000 in
theorem wd_1135 : (Jvm.Cond.code ({ cls := "CutBureauModel", name := "sumAt", desc := "(II)I" } : Jvm.MethodName) prog_12_method_51_code (6 : Nat) (Option.some Jvm.ClassFile.FieldType.int)) ∈ lw_tbl := inT5 (List.mem_of_getElem? (i := 114) rfl)
set_option maxRecDepth 100000 in
theorem wd_1140 : (Jvm.Cond.methodLink "CutBureauModel" (307 : Nat) ({ cls := "CutBureauModel", name := "findAsked", desc := "(I)V" } : Jvm.MethodName)) ∈ lw_tbl := inT5 (List.mem_of_getElem? (i := 119) rfl)
set_option maxRecDepth 100000 in
theorem wd_1142 : (Jvm.Cond.instanceMethod ({ cls := "CutBureauModel", name := "findAsked", desc := "(I)V" } : Jvm.MethodName)) ∈ lw_tbl := inT5 (List.mem_of_getElem? (i := 121) rfl)
set_option maxRecDepth 100000 in
theorem wd_1143 : (Jvm.Cond.code ({ cls := "CutBureauModel", name := "findAsked", desc := "(I)V" } : Jvm.MethodName) prog_12_method_53_code (5 : Nat) (Option.none : Option Jvm.ClassFile.FieldType)) ∈ lw_tbl := inT5 (List.mem_of_getElem? (i := 122) rfl)
set_option maxRecDepth 100000 in
theorem wd_1148 : (Jvm.Cond.constantLong "CutBureauModel" (313 : Nat) (4 : Int64)) ∈ lw_tbl := inT5 (List.mem_of_getElem? (i := 127) rfl)
set_option maxRecDepth 100000 in
theorem wd_1149 : (Jvm.Cond.methodLink "CutBureauModel" (315 : Nat) ({ cls := "CutBureauModel", name := "findSheets", desc := "(I)V" } : Jvm.MethodName)) ∈ lw_tbl := inT5 (List.mem_of_getElem? (i := 128) rfl)
set_option maxRecDepth 100000 in
theorem wd_1151 : (Jvm.Cond.instanceMethod ({ cls := "CutBureauModel", name := "findSheets", desc := "(I)V" } : Jvm.MethodName)) ∈ lw_tbl := inT5 (List.mem_of_getElem? (i := 130) rfl)
set_option maxRecDepth 100000 in
theorem wd_1152 : (Jvm.Cond.code ({ cls := "CutBureauModel", name := "findSheets", desc := "(I)V" } : Jvm.MethodName) prog_12_method_56_code (7 : Nat) (Option.none : Option Jvm.ClassFile.FieldType)) ∈ lw_tbl := inT5 (List.mem_of_getElem? (i := 131) rfl)
set_option maxRecDepth 100000 in
theorem wd_1153 : (Jvm.Cond.methodLink "CutBureauModel" (310 : Nat) ({ cls := "CutBureauModel", name := "isOneSheet", desc := "(I)Z" } : Jvm.MethodName)) ∈ lw_tbl := inT5 (List.mem_of_getElem? (i := 132) rfl)
set_option maxRecDepth 100000 in
theorem wd_1155 : (Jvm.Cond.instanceMethod ({ cls := "CutBureauModel", name := "isOneSheet", desc := "(I)Z" } : Jvm.MethodName)) ∈ lw_tbl := inT5 (List.mem_of_getElem? (i := 134) rfl)
set_option maxRecDepth 100000 in
theorem wd_1156 : (Jvm.Cond.code ({ cls := "CutBureauModel", name := "isOneSheet", desc := "(I)Z" } : Jvm.MethodName) prog_12_method_55_code (6 : Nat) (Option.some Jvm.ClassFile.FieldType.boolean)) ∈ lw_tbl := inT5 (List.mem_of_getElem? (i := 135) rfl)
set_option maxRecDepth 100000 in
theorem wd_1157 : (Jvm.Cond.methodLink "CutBureauModel" (318 : Nat) ({ cls := "CutBureauModel", name := "ones", desc := "(I)I" } : Jvm.MethodName)) ∈ lw_tbl := inT5 (List.mem_of_getElem? (i := 136) rfl)
set_option maxRecDepth 100000 in
theorem wd_1158 : (Jvm.Cond.static ({ cls := "CutBureauModel", name := "ones", desc := "(I)I" } : Jvm.MethodName)) ∈ lw_tbl := inT5 (List.mem_of_getElem? (i := 137) rfl)
set_option maxRecDepth 100000 in
theorem wd_1159 : (Jvm.Cond.code ({ cls := "CutBureauModel", name := "ones", desc := "(I)I" } : Jvm.MethodName) prog_12_method_57_code (3 : Nat) (Option.some Jvm.ClassFile.FieldType.int)) ∈ lw_tbl := inT5 (List.mem_of_getElem? (i := 138) rfl)
set_option maxRecDepth 100000 in
theorem wd_1164 : (Jvm.Cond.methodLink "CutBureauModel" (321 : Nat) ({ cls := "CutBureauModel", name := "isReader", desc := "(I)Z" } : Jvm.MethodName)) ∈ lw_tbl := inT5 (List.mem_of_getElem? (i := 143) rfl)
set_option maxRecDepth 100000 in
theorem wd_1165 : (Jvm.Cond.static ({ cls := "CutBureauModel", name := "isReader", desc := "(I)Z" } : Jvm.MethodName)) ∈ lw_tbl := inT5 (List.mem_of_getElem? (i := 144) rfl)
set_option maxRecDepth 100000 in
theorem wd_1166 : (Jvm.Cond.code ({ cls := "CutBureauModel", name := "isReader", desc := "(I)Z" } : Jvm.MethodName) prog_12_method_59_code (1 : Nat) (Option.some Jvm.ClassFile.FieldType.boolean)) ∈ lw_tbl := inT5 (List.mem_of_getElem? (i := 145) rfl)
set_option maxRecDepth 100000 in
theorem wd_1171 : (Jvm.Cond.methodLink "CutBureauModel" (324 : Nat) ({ cls := "CutBureauModel", name := "foundBy", desc := "(I)I" } : Jvm.MethodName)) ∈ lw_tbl := inT5 (List.mem_of_getElem? (i := 150) rfl)
set_option maxRecDepth 100000 in
theorem wd_1173 : (Jvm.Cond.instanceMethod ({ cls := "CutBureauModel", name := "foundBy", desc := "(I)I" } : Jvm.MethodName)) ∈ lw_tbl := inT5 (List.mem_of_getElem? (i := 152) rfl)
set_option maxRecDepth 100000 in
theorem wd_1174 : (Jvm.Cond.code ({ cls := "CutBureauModel", name := "foundBy", desc := "(I)I" } : Jvm.MethodName) prog_12_method_61_code (4 : Nat) (Option.some Jvm.ClassFile.FieldType.int)) ∈ lw_tbl := inT5 (List.mem_of_getElem? (i := 153) rfl)
set_option maxRecDepth 100000 in
theorem wd_1175 : (Jvm.Cond.methodLink "CutBureauModel" (327 : Nat) ({ cls := "CutBureauModel", name := "lowest", desc := "(III)I" } : Jvm.MethodName)) ∈ lw_tbl := inT5 (List.mem_of_getElem? (i := 154) rfl)
set_option maxRecDepth 100000 in
theorem wd_1176 : (Jvm.Cond.static ({ cls := "CutBureauModel", name := "lowest", desc := "(III)I" } : Jvm.MethodName)) ∈ lw_tbl := inT5 (List.mem_of_getElem? (i := 155) rfl)
set_option maxRecDepth 100000 in
theorem wd_1177 : (Jvm.Cond.code ({ cls := "CutBureauModel", name := "lowest", desc := "(III)I" } : Jvm.MethodName) prog_12_method_62_code (6 : Nat) (Option.some Jvm.ClassFile.FieldType.int)) ∈ lw_tbl := inT5 (List.mem_of_getElem? (i := 156) rfl)
set_option maxRecDepth 100000 in
theorem wd_1182 : (Jvm.Cond.constantLong "CutBureauModel" (330 : Nat) (1000 : Int64)) ∈ lw_tbl := inT5 (List.mem_of_getElem? (i := 161) rfl)
set_option maxRecDepth 100000 in
theorem wd_1191 : (Jvm.Cond.constant "CutBureauModel" (332 : Nat) (1000000 : Int32)) ∈ lw_tbl := inT5 (List.mem_of_getElem? (i := 170) rfl)
set_option maxRecDepth 100000 in
theorem wd_1192 : (Jvm.Cond.methodLink "CutBureauModel" (333 : Nat) ({ cls := "CutBureauModel", name := "tried", desc := "(I)I" } : Jvm.MethodName)) ∈ lw_tbl := inT5 (List.mem_of_getElem? (i := 171) rfl)
set_option maxRecDepth 100000 in
theorem wd_1194 : (Jvm.Cond.instanceMethod ({ cls := "CutBureauModel", name := "tried", desc := "(I)I" } : Jvm.MethodName)) ∈ lw_tbl := inT5 (List.mem_of_getElem? (i := 173) rfl)
set_option maxRecDepth 100000 in
theorem wd_1195 : (Jvm.Cond.code ({ cls := "CutBureauModel", name := "tried", desc := "(I)I" } : Jvm.MethodName) prog_12_method_66_code (5 : Nat) (Option.some Jvm.ClassFile.FieldType.int)) ∈ lw_tbl := inT5 (List.mem_of_getElem? (i := 174) rfl)
set_option maxRecDepth 100000 in
theorem wd_1196 : (Jvm.Cond.methodLink "CutBureauModel" (336 : Nat) ({ cls := "CutBureauModel", name := "nextReads", desc := "(I)Z" } : Jvm.MethodName)) ∈ lw_tbl := inT5 (List.mem_of_getElem? (i := 175) rfl)
set_option maxRecDepth 100000 in
theorem wd_1198 : (Jvm.Cond.instanceMethod ({ cls := "CutBureauModel", name := "nextReads", desc := "(I)Z" } : Jvm.MethodName)) ∈ lw_tbl := inT5 (List.mem_of_getElem? (i := 177) rfl)
set_option maxRecDepth 100000 in
theorem wd_1199 : (Jvm.Cond.code ({ cls := "CutBureauModel", name := "nextReads", desc := "(I)Z" } : Jvm.MethodName) prog_12_method_67_code (3 : Nat) (Option.some Jvm.ClassFile.FieldType.boolean)) ∈ lw_tbl := inT5 (List.mem_of_getElem? (i := 178) rfl)
set_option maxRecDepth 100000 in
theorem wd_1204 : (Jvm.Cond.methodLink "CutBureauModel" (339 : Nat) ({ cls := "CutBureauModel", name := "isListed", desc := "(II)Z" } : Jvm.MethodName)) ∈ lw_tbl := inT5 (List.mem_of_getElem? (i := 183) rfl)
set_option maxRecDepth 100000 in
theorem wd_1206 : (Jvm.Cond.instanceMethod ({ cls := "CutBureauModel", name := "isListed", desc := "(II)Z" } : Jvm.MethodName)) ∈ lw_tbl := inT5 (List.mem_of_getElem? (i := 185) rfl)
set_option maxRecDepth 100000 in
theorem wd_1207 : (Jvm.Cond.code ({ cls := "CutBureauModel", name := "isListed", desc := "(II)Z" } : Jvm.MethodName) prog_12_method_69_code (5 : Nat) (Option.some Jvm.ClassFile.FieldType.boolean)) ∈ lw_tbl := inT5 (List.mem_of_getElem? (i := 186) rfl)
set_option maxRecDepth 100000 in
theorem wd_1216 : (Jvm.Cond.methodLink "CutBureauModel" (342 : Nat) ({ cls := "CutBureauModel", name := "sentTo", desc := "(I)I" } : Jvm.MethodName)) ∈ lw_tbl := inT5 (List.mem_of_getElem? (i := 195) rfl)
set_option maxRecDepth 100000 in
theorem wd_1218 : (Jvm.Cond.instanceMethod ({ cls := "CutBureauModel", name := "sentTo", desc := "(I)I" } : Jvm.MethodName)) ∈ lw_tbl := inT5 (List.mem_of_getElem? (i := 197) rfl)
set_option maxRecDepth 100000 in
theorem wd_1219 : (Jvm.Cond.code ({ cls := "CutBureauModel", name := "sentTo", desc := "(I)I" } : Jvm.MethodName) prog_12_method_72_code (5 : Nat) (Option.some Jvm.ClassFile.FieldType.int)) ∈ lw_tbl := inT5 (List.mem_of_getElem? (i := 198) rfl)
set_option maxRecDepth 100000 in
theorem wd_1224 : (Jvm.Cond.constantLong "CutBureauModel" (345 : Nat) (15 : Int64)) ∈ lw_tbl := inT5 (List.mem_of_getElem? (i := 203) rfl)
set_option maxRecDepth 100000 in
theorem wd_1229 : (Jvm.Cond.methodLink "CutBureauModel" (347 : Nat) ({ cls := "CutBureauModel", name := "isOld", desc := "(IIII)Z" } : Jvm.MethodName)) ∈ lw_tbl := inT5 (List.mem_of_getElem? (i := 208) rfl)
set_option maxRecDepth 100000 in
theorem wd_1231 : (Jvm.Cond.instanceMethod ({ cls := "CutBureauModel", name := "isOld", desc := "(IIII)Z" } : Jvm.MethodName)) ∈ lw_tbl := inT5 (List.mem_of_getElem? (i := 210) rfl)
set_option maxRecDepth 100000 in
theorem wd_1232 : (Jvm.Cond.code ({ cls := "CutBureauModel", name := "isOld", desc := "(IIII)Z" } : Jvm.MethodName) prog_12_method_75_code (5 : Nat) (Option.some Jvm.ClassFile.FieldType.boolean)) ∈ lw_tbl := inT5 (List.mem_of_getElem? (i := 211) rfl)
set_option maxRecDepth 100000 in
theorem wd_1237 : (Jvm.Cond.constantLong "CutBureauModel" (351 : Nat) (10 : Int64)) ∈ lw_tbl := inT5 (List.mem_of_getElem? (i := 216) rfl)
set_option maxRecDepth 100000 in
theorem wd_1238 : (Jvm.Cond.constantLong "CutBureauModel" (353 : Nat) (18 : Int64)) ∈ lw_tbl := inT5 (List.mem_of_getElem? (i := 217) rfl)
