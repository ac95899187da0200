/-! ===== which words stand in the tables ===== -/
def zz_tbl : List Cond := lw_tbl.filter goodWord
theorem zz_mem {w : Cond} (i : Nat) (h : lw_tbl[i]? = some w) (hg : goodWord w = true) : w ∈ zz_tbl := List.mem_filter.mpr ⟨List.mem_of_getElem? h, hg⟩
theorem tm_0 : Cond.selects "PillarDesk$Calendar" ({ cls := "PillarDesk$Calendar", name := "isOpenByRule", desc := "(I)Z" } : Jvm.MethodName) ({ cls := "PillarDesk$Calendar", name := "isOpenByRule", desc := "(I)Z" } : Jvm.MethodName) ∈ zz_tbl := zz_mem 0 (by decide +kernel) rfl
theorem tm_1 : Cond.selects "PillarDesk$Schedule" ({ cls := "PillarDesk$Schedule", name := "layPeriods", desc := "(I)V" } : Jvm.MethodName) ({ cls := "PillarDesk$Schedule", name := "layPeriods", desc := "(I)V" } : Jvm.MethodName) ∈ zz_tbl := zz_mem 1 (by decide +kernel) rfl
theorem tm_2 : Cond.selects "PillarDesk$Schedule" ({ cls := "PillarDesk$Schedule", name := "sortByEnds", desc := "()V" } : Jvm.MethodName) ({ cls := "PillarDesk$Schedule", name := "sortByEnds", desc := "()V" } : Jvm.MethodName) ∈ zz_tbl := zz_mem 2 (by decide +kernel) rfl
theorem tm_3 : Cond.selects "PillarDesk$Schedule" ({ cls := "PillarDesk$Schedule", name := "layPillars", desc := "()V" } : Jvm.MethodName) ({ cls := "PillarDesk$Schedule", name := "layPillars", desc := "()V" } : Jvm.MethodName) ∈ zz_tbl := zz_mem 3 (by decide +kernel) rfl
theorem tm_4 : Cond.selects "PillarDesk" ({ cls := "PillarDesk", name := "feedWord", desc := "(I)V" } : Jvm.MethodName) ({ cls := "PillarDesk", name := "feedWord", desc := "(I)V" } : Jvm.MethodName) ∈ zz_tbl := zz_mem 4 (by decide +kernel) rfl
theorem tm_5 : Cond.selects "PillarDesk$Reader" ({ cls := "PillarDesk$Reader", name := "next", desc := "()V" } : Jvm.MethodName) ({ cls := "PillarDesk$Reader", name := "next", desc := "()V" } : Jvm.MethodName) ∈ zz_tbl := zz_mem 5 (by decide +kernel) rfl
theorem tm_6 : Cond.selects "PillarDesk$Reader" ({ cls := "PillarDesk$Reader", name := "byteAt", desc := "(I)I" } : Jvm.MethodName) ({ cls := "PillarDesk$Reader", name := "byteAt", desc := "(I)I" } : Jvm.MethodName) ∈ zz_tbl := zz_mem 6 (by decide +kernel) rfl
theorem tm_7 : Cond.selects "PillarDesk$Reader" ({ cls := "PillarDesk$Reader", name := "nextWord", desc := "()V" } : Jvm.MethodName) ({ cls := "PillarDesk$Reader", name := "nextWord", desc := "()V" } : Jvm.MethodName) ∈ zz_tbl := zz_mem 7 (by decide +kernel) rfl
theorem tm_8 : Cond.selects "PillarDesk$Reader" ({ cls := "PillarDesk$Reader", name := "nextNumber", desc := "()V" } : Jvm.MethodName) ({ cls := "PillarDesk$Reader", name := "nextNumber", desc := "()V" } : Jvm.MethodName) ∈ zz_tbl := zz_mem 8 (by decide +kernel) rfl
theorem tm_9 : Cond.selects "PillarDesk$Reader" ({ cls := "PillarDesk$Reader", name := "fail", desc := "(I)V" } : Jvm.MethodName) ({ cls := "PillarDesk$Reader", name := "fail", desc := "(I)V" } : Jvm.MethodName) ∈ zz_tbl := zz_mem 9 (by decide +kernel) rfl
theorem tm_10 : Cond.selects "PillarDesk$Reader" ({ cls := "PillarDesk$Reader", name := "readHead", desc := "()V" } : Jvm.MethodName) ({ cls := "PillarDesk$Reader", name := "readHead", desc := "()V" } : Jvm.MethodName) ∈ zz_tbl := zz_mem 10 (by decide +kernel) rfl
theorem tm_11 : Cond.selects "PillarDesk$Reader" ({ cls := "PillarDesk$Reader", name := "takeWord", desc := "(Ljava/lang/String;)V" } : Jvm.MethodName) ({ cls := "PillarDesk$Reader", name := "takeWord", desc := "(Ljava/lang/String;)V" } : Jvm.MethodName) ∈ zz_tbl := zz_mem 11 (by decide +kernel) rfl
theorem tm_12 : Cond.selects "PillarDesk$Reader" ({ cls := "PillarDesk$Reader", name := "isWord", desc := "(Ljava/lang/String;)Z" } : Jvm.MethodName) ({ cls := "PillarDesk$Reader", name := "isWord", desc := "(Ljava/lang/String;)Z" } : Jvm.MethodName) ∈ zz_tbl := zz_mem 12 (by decide +kernel) rfl
theorem tm_13 : Cond.selects "PillarDesk$Reader" ({ cls := "PillarDesk$Reader", name := "takeNumber", desc := "(II)I" } : Jvm.MethodName) ({ cls := "PillarDesk$Reader", name := "takeNumber", desc := "(II)I" } : Jvm.MethodName) ∈ zz_tbl := zz_mem 13 (by decide +kernel) rfl
theorem tm_14 : Cond.selects "PillarDesk$Reader" ({ cls := "PillarDesk$Reader", name := "takeSign", desc := "(C)V" } : Jvm.MethodName) ({ cls := "PillarDesk$Reader", name := "takeSign", desc := "(C)V" } : Jvm.MethodName) ∈ zz_tbl := zz_mem 14 (by decide +kernel) rfl
theorem tm_15 : Cond.selects "PillarDesk$Reader" ({ cls := "PillarDesk$Reader", name := "readLine", desc := "()V" } : Jvm.MethodName) ({ cls := "PillarDesk$Reader", name := "readLine", desc := "()V" } : Jvm.MethodName) ∈ zz_tbl := zz_mem 15 (by decide +kernel) rfl
theorem tm_16 : Cond.selects "PillarDesk$Reader" ({ cls := "PillarDesk$Reader", name := "readHoliday", desc := "()V" } : Jvm.MethodName) ({ cls := "PillarDesk$Reader", name := "readHoliday", desc := "()V" } : Jvm.MethodName) ∈ zz_tbl := zz_mem 16 (by decide +kernel) rfl
theorem tm_17 : Cond.selects "PillarDesk$Reader" ({ cls := "PillarDesk$Reader", name := "readInput", desc := "(I)V" } : Jvm.MethodName) ({ cls := "PillarDesk$Reader", name := "readInput", desc := "(I)V" } : Jvm.MethodName) ∈ zz_tbl := zz_mem 17 (by decide +kernel) rfl
theorem tm_18 : Cond.selects "PillarDesk$Reader" ({ cls := "PillarDesk$Reader", name := "readFlow", desc := "()V" } : Jvm.MethodName) ({ cls := "PillarDesk$Reader", name := "readFlow", desc := "()V" } : Jvm.MethodName) ∈ zz_tbl := zz_mem 18 (by decide +kernel) rfl
theorem tm_19 : Cond.selects "PillarDesk$Reader" ({ cls := "PillarDesk$Reader", name := "readRates", desc := "()V" } : Jvm.MethodName) ({ cls := "PillarDesk$Reader", name := "readRates", desc := "()V" } : Jvm.MethodName) ∈ zz_tbl := zz_mem 19 (by decide +kernel) rfl
theorem tm_20 : Cond.selects "PillarDesk$Reader" ({ cls := "PillarDesk$Reader", name := "readSum", desc := "(I)V" } : Jvm.MethodName) ({ cls := "PillarDesk$Reader", name := "readSum", desc := "(I)V" } : Jvm.MethodName) ∈ zz_tbl := zz_mem 20 (by decide +kernel) rfl
theorem tm_21 : Cond.selects "PillarDesk$Reader" ({ cls := "PillarDesk$Reader", name := "readTerm", desc := "(I)V" } : Jvm.MethodName) ({ cls := "PillarDesk$Reader", name := "readTerm", desc := "(I)V" } : Jvm.MethodName) ∈ zz_tbl := zz_mem 21 (by decide +kernel) rfl
theorem tm_22 : Cond.selects "PillarDesk$Reader" ({ cls := "PillarDesk$Reader", name := "readAtom", desc := "(I)V" } : Jvm.MethodName) ({ cls := "PillarDesk$Reader", name := "readAtom", desc := "(I)V" } : Jvm.MethodName) ∈ zz_tbl := zz_mem 22 (by decide +kernel) rfl
theorem tm_23 : Cond.selects "PillarDesk$Reader" ({ cls := "PillarDesk$Reader", name := "goDeeper", desc := "(I)V" } : Jvm.MethodName) ({ cls := "PillarDesk$Reader", name := "goDeeper", desc := "(I)V" } : Jvm.MethodName) ∈ zz_tbl := zz_mem 23 (by decide +kernel) rfl
theorem tm_24 : Cond.selects "PillarDesk$Reader" ({ cls := "PillarDesk$Reader", name := "readChoice", desc := "(I)V" } : Jvm.MethodName) ({ cls := "PillarDesk$Reader", name := "readChoice", desc := "(I)V" } : Jvm.MethodName) ∈ zz_tbl := zz_mem 24 (by decide +kernel) rfl
theorem tm_25 : Cond.selects "PillarDesk$Reader" ({ cls := "PillarDesk$Reader", name := "readTruth", desc := "(I)V" } : Jvm.MethodName) ({ cls := "PillarDesk$Reader", name := "readTruth", desc := "(I)V" } : Jvm.MethodName) ∈ zz_tbl := zz_mem 25 (by decide +kernel) rfl
theorem tm_26 : Cond.selects "PillarDesk$Reader" ({ cls := "PillarDesk$Reader", name := "readBoth", desc := "(I)V" } : Jvm.MethodName) ({ cls := "PillarDesk$Reader", name := "readBoth", desc := "(I)V" } : Jvm.MethodName) ∈ zz_tbl := zz_mem 26 (by decide +kernel) rfl
theorem tm_27 : Cond.selects "PillarDesk$Reader" ({ cls := "PillarDesk$Reader", name := "readUnit", desc := "(I)V" } : Jvm.MethodName) ({ cls := "PillarDesk$Reader", name := "readUnit", desc := "(I)V" } : Jvm.MethodName) ∈ zz_tbl := zz_mem 27 (by decide +kernel) rfl
theorem tm_28 : Cond.selects "PillarDesk$Reader" ({ cls := "PillarDesk$Reader", name := "readComparison", desc := "(I)V" } : Jvm.MethodName) ({ cls := "PillarDesk$Reader", name := "readComparison", desc := "(I)V" } : Jvm.MethodName) ∈ zz_tbl := zz_mem 28 (by decide +kernel) rfl
theorem tm_29 : Cond.selects "PillarDesk$Reader" ({ cls := "PillarDesk$Reader", name := "readVariable", desc := "()V" } : Jvm.MethodName) ({ cls := "PillarDesk$Reader", name := "readVariable", desc := "()V" } : Jvm.MethodName) ∈ zz_tbl := zz_mem 29 (by decide +kernel) rfl
theorem tm_30 : Cond.selects "PillarDesk$Reader" ({ cls := "PillarDesk$Reader", name := "ratesVariable", desc := "()I" } : Jvm.MethodName) ({ cls := "PillarDesk$Reader", name := "ratesVariable", desc := "()I" } : Jvm.MethodName) ∈ zz_tbl := zz_mem 30 (by decide +kernel) rfl
theorem tm_31 : Cond.selects "PillarDesk$Reader" ({ cls := "PillarDesk$Reader", name := "opensVariable", desc := "()I" } : Jvm.MethodName) ({ cls := "PillarDesk$Reader", name := "opensVariable", desc := "()I" } : Jvm.MethodName) ∈ zz_tbl := zz_mem 31 (by decide +kernel) rfl
theorem tm_32 : Cond.selects "PillarDesk$Reader" ({ cls := "PillarDesk$Reader", name := "readOpens", desc := "()V" } : Jvm.MethodName) ({ cls := "PillarDesk$Reader", name := "readOpens", desc := "()V" } : Jvm.MethodName) ∈ zz_tbl := zz_mem 32 (by decide +kernel) rfl
theorem tm_33 : Cond.selects "PillarDesk" ({ cls := "PillarDesk", name := "solvedNow", desc := "()LPillarDesk$Curve;" } : Jvm.MethodName) ({ cls := "PillarDesk", name := "solvedNow", desc := "()LPillarDesk$Curve;" } : Jvm.MethodName) ∈ zz_tbl := zz_mem 33 (by decide +kernel) rfl
theorem tm_34 : Cond.selects "PillarDesk$Curve" ({ cls := "PillarDesk$Curve", name := "rateByRule", desc := "(III)I" } : Jvm.MethodName) ({ cls := "PillarDesk$Curve", name := "rateByRule", desc := "(III)I" } : Jvm.MethodName) ∈ zz_tbl := zz_mem 34 (by decide +kernel) rfl
theorem tm_35 : Cond.selects "PillarDesk$Curve" ({ cls := "PillarDesk$Curve", name := "askSwap", desc := "(II)V" } : Jvm.MethodName) ({ cls := "PillarDesk$Curve", name := "askSwap", desc := "(II)V" } : Jvm.MethodName) ∈ zz_tbl := zz_mem 35 (by decide +kernel) rfl
theorem tm_36 : Cond.selects "PillarDesk$Curve" ({ cls := "PillarDesk$Curve", name := "takeIn", desc := "(JII)V" } : Jvm.MethodName) ({ cls := "PillarDesk$Curve", name := "takeIn", desc := "(JII)V" } : Jvm.MethodName) ∈ zz_tbl := zz_mem 36 (by decide +kernel) rfl
theorem tm_37 : Cond.selects "PillarDesk$Curve" ({ cls := "PillarDesk$Curve", name := "askLoan", desc := "(II)V" } : Jvm.MethodName) ({ cls := "PillarDesk$Curve", name := "askLoan", desc := "(II)V" } : Jvm.MethodName) ∈ zz_tbl := zz_mem 37 (by decide +kernel) rfl
theorem tm_38 : Cond.selects "PillarDesk$Curve" ({ cls := "PillarDesk$Curve", name := "greatestAtOnce", desc := "()J" } : Jvm.MethodName) ({ cls := "PillarDesk$Curve", name := "greatestAtOnce", desc := "()J" } : Jvm.MethodName) ∈ zz_tbl := zz_mem 38 (by decide +kernel) rfl
theorem tm_39 : Cond.selects "PillarDesk$Curve" ({ cls := "PillarDesk$Curve", name := "guess", desc := "()J" } : Jvm.MethodName) ({ cls := "PillarDesk$Curve", name := "guess", desc := "()J" } : Jvm.MethodName) ∈ zz_tbl := zz_mem 39 (by decide +kernel) rfl
theorem tm_40 : Cond.selects "PillarDesk$Curve" ({ cls := "PillarDesk$Curve", name := "greatestFrom", desc := "(J)J" } : Jvm.MethodName) ({ cls := "PillarDesk$Curve", name := "greatestFrom", desc := "(J)J" } : Jvm.MethodName) ∈ zz_tbl := zz_mem 40 (by decide +kernel) rfl
theorem tm_41 : Cond.selects "PillarDesk$Curve" ({ cls := "PillarDesk$Curve", name := "holds", desc := "(J)Z" } : Jvm.MethodName) ({ cls := "PillarDesk$Curve", name := "holds", desc := "(J)Z" } : Jvm.MethodName) ∈ zz_tbl := zz_mem 41 (by decide +kernel) rfl
theorem tm_42 : Cond.selects "PillarDesk" ({ cls := "PillarDesk", name := "remember", desc := "(I)V" } : Jvm.MethodName) ({ cls := "PillarDesk", name := "remember", desc := "(I)V" } : Jvm.MethodName) ∈ zz_tbl := zz_mem 42 (by decide +kernel) rfl
theorem tm_43 : Cond.selects "PillarDesk" ({ cls := "PillarDesk", name := "noTray", desc := "(I)Z" } : Jvm.MethodName) ({ cls := "PillarDesk", name := "noTray", desc := "(I)Z" } : Jvm.MethodName) ∈ zz_tbl := zz_mem 43 (by decide +kernel) rfl
theorem tm_44 : Cond.selects "PillarDesk" ({ cls := "PillarDesk", name := "doAll", desc := "(LPillarDesk$Tray;LPillarDesk$Stand;)I" } : Jvm.MethodName) ({ cls := "PillarDesk", name := "doAll", desc := "(LPillarDesk$Tray;LPillarDesk$Stand;)I" } : Jvm.MethodName) ∈ zz_tbl := zz_mem 44 (by decide +kernel) rfl
theorem tm_45 : Cond.selects "PillarDesk" ({ cls := "PillarDesk", name := "lastFactorTried", desc := "()I" } : Jvm.MethodName) ({ cls := "PillarDesk", name := "lastFactorTried", desc := "()I" } : Jvm.MethodName) ∈ zz_tbl := zz_mem 45 (by decide +kernel) rfl
theorem tm_46 : Cond.selects "PillarDesk" ({ cls := "PillarDesk", name := "drawnDeed", desc := "()I" } : Jvm.MethodName) ({ cls := "PillarDesk", name := "drawnDeed", desc := "()I" } : Jvm.MethodName) ∈ zz_tbl := zz_mem 46 (by decide +kernel) rfl
theorem tm_47 : Cond.selects "PillarDesk" ({ cls := "PillarDesk", name := "drawn", desc := "()I" } : Jvm.MethodName) ({ cls := "PillarDesk", name := "drawn", desc := "()I" } : Jvm.MethodName) ∈ zz_tbl := zz_mem 47 (by decide +kernel) rfl
theorem tm_48 : Cond.selects "PillarDesk" ({ cls := "PillarDesk", name := "bumpedTrial", desc := "(II)LPillarDesk$Curve;" } : Jvm.MethodName) ({ cls := "PillarDesk", name := "bumpedTrial", desc := "(II)LPillarDesk$Curve;" } : Jvm.MethodName) ∈ zz_tbl := zz_mem 48 (by decide +kernel) rfl
theorem tm_49 : Cond.selects "PillarDesk$Hedge" ({ cls := "PillarDesk$Hedge", name := "takePieces", desc := "(I)V" } : Jvm.MethodName) ({ cls := "PillarDesk$Hedge", name := "takePieces", desc := "(I)V" } : Jvm.MethodName) ∈ zz_tbl := zz_mem 49 (by decide +kernel) rfl
theorem tm_50 : Cond.selects "PillarDesk$Hedge" ({ cls := "PillarDesk$Hedge", name := "pieceHang", desc := "(II)J" } : Jvm.MethodName) ({ cls := "PillarDesk$Hedge", name := "pieceHang", desc := "(II)J" } : Jvm.MethodName) ∈ zz_tbl := zz_mem 50 (by decide +kernel) rfl
theorem tm_51 : Cond.selects "PillarDesk$Hedge" ({ cls := "PillarDesk$Hedge", name := "dueHang", desc := "(II)J" } : Jvm.MethodName) ({ cls := "PillarDesk$Hedge", name := "dueHang", desc := "(II)J" } : Jvm.MethodName) ∈ zz_tbl := zz_mem 51 (by decide +kernel) rfl
theorem tm_52 : Cond.selects "PillarDesk" ({ cls := "PillarDesk", name := "toldRefusal", desc := "(I)I" } : Jvm.MethodName) ({ cls := "PillarDesk", name := "toldRefusal", desc := "(I)I" } : Jvm.MethodName) ∈ zz_tbl := zz_mem 52 (by decide +kernel) rfl
theorem tm_53 : Cond.selects "PillarDesk" ({ cls := "PillarDesk", name := "shiftsTold", desc := "(LPillarDesk$Tray;)I" } : Jvm.MethodName) ({ cls := "PillarDesk", name := "shiftsTold", desc := "(LPillarDesk$Tray;)I" } : Jvm.MethodName) ∈ zz_tbl := zz_mem 53 (by decide +kernel) rfl
theorem tm_54 : Cond.selects "PillarDesk" ({ cls := "PillarDesk", name := "trialIsTold", desc := "(LPillarDesk$Tray;)Z" } : Jvm.MethodName) ({ cls := "PillarDesk", name := "trialIsTold", desc := "(LPillarDesk$Tray;)Z" } : Jvm.MethodName) ∈ zz_tbl := zz_mem 54 (by decide +kernel) rfl
theorem tm_55 : Cond.selects "PillarDesk" ({ cls := "PillarDesk", name := "mostAlike", desc := "(II)I" } : Jvm.MethodName) ({ cls := "PillarDesk", name := "mostAlike", desc := "(II)I" } : Jvm.MethodName) ∈ zz_tbl := zz_mem 55 (by decide +kernel) rfl
theorem tm_56 : Cond.selects "PillarDesk$Odds" ({ cls := "PillarDesk$Odds", name := "drawInOrder", desc := "(III)Z" } : Jvm.MethodName) ({ cls := "PillarDesk$Odds", name := "drawInOrder", desc := "(III)Z" } : Jvm.MethodName) ∈ zz_tbl := zz_mem 56 (by decide +kernel) rfl
theorem tm_57 : Cond.selects "PillarDesk$Odds" ({ cls := "PillarDesk$Odds", name := "addDraw", desc := "(IIJ)V" } : Jvm.MethodName) ({ cls := "PillarDesk$Odds", name := "addDraw", desc := "(IIJ)V" } : Jvm.MethodName) ∈ zz_tbl := zz_mem 57 (by decide +kernel) rfl
theorem tm_58 : Cond.selects "PillarDesk$Odds" ({ cls := "PillarDesk$Odds", name := "orders", desc := "(I)J" } : Jvm.MethodName) ({ cls := "PillarDesk$Odds", name := "orders", desc := "(I)J" } : Jvm.MethodName) ∈ zz_tbl := zz_mem 58 (by decide +kernel) rfl
theorem tm_59 : Cond.selects "PillarDeskModel" ({ cls := "PillarDeskModel", name := "laysDays", desc := "()V" } : Jvm.MethodName) ({ cls := "PillarDeskModel", name := "laysDays", desc := "()V" } : Jvm.MethodName) ∈ zz_tbl := zz_mem 59 (by decide +kernel) rfl
theorem tm_60 : Cond.selects "PillarDeskModel" ({ cls := "PillarDeskModel", name := "offOf", desc := "(I)I" } : Jvm.MethodName) ({ cls := "PillarDeskModel", name := "offOf", desc := "(I)I" } : Jvm.MethodName) ∈ zz_tbl := zz_mem 60 (by decide +kernel) rfl
theorem tm_61 : Cond.selects "PillarDeskModel" ({ cls := "PillarDeskModel", name := "isOpen", desc := "(I)Z" } : Jvm.MethodName) ({ cls := "PillarDeskModel", name := "isOpen", desc := "(I)Z" } : Jvm.MethodName) ∈ zz_tbl := zz_mem 61 (by decide +kernel) rfl
theorem tm_62 : Cond.selects "PillarDeskModel" ({ cls := "PillarDeskModel", name := "reckons", desc := "(I)I" } : Jvm.MethodName) ({ cls := "PillarDeskModel", name := "reckons", desc := "(I)I" } : Jvm.MethodName) ∈ zz_tbl := zz_mem 62 (by decide +kernel) rfl
theorem tm_63 : Cond.selects "PillarDeskModel" ({ cls := "PillarDeskModel", name := "laysPeriods", desc := "(I)V" } : Jvm.MethodName) ({ cls := "PillarDeskModel", name := "laysPeriods", desc := "(I)V" } : Jvm.MethodName) ∈ zz_tbl := zz_mem 63 (by decide +kernel) rfl
theorem tm_64 : Cond.selects "PillarDeskModel" ({ cls := "PillarDeskModel", name := "next", desc := "()V" } : Jvm.MethodName) ({ cls := "PillarDeskModel", name := "next", desc := "()V" } : Jvm.MethodName) ∈ zz_tbl := zz_mem 64 (by decide +kernel) rfl
theorem tm_65 : Cond.selects "PillarDeskModel" ({ cls := "PillarDeskModel", name := "see", desc := "(I)I" } : Jvm.MethodName) ({ cls := "PillarDeskModel", name := "see", desc := "(I)I" } : Jvm.MethodName) ∈ zz_tbl := zz_mem 65 (by decide +kernel) rfl
theorem tm_66 : Cond.selects "PillarDeskModel" ({ cls := "PillarDeskModel", name := "keyAt", desc := "()I" } : Jvm.MethodName) ({ cls := "PillarDeskModel", name := "keyAt", desc := "()I" } : Jvm.MethodName) ∈ zz_tbl := zz_mem 66 (by decide +kernel) rfl
theorem tm_67 : Cond.selects "PillarDeskModel" ({ cls := "PillarDeskModel", name := "eats", desc := "(I)Z" } : Jvm.MethodName) ({ cls := "PillarDeskModel", name := "eats", desc := "(I)Z" } : Jvm.MethodName) ∈ zz_tbl := zz_mem 67 (by decide +kernel) rfl
theorem tm_68 : Cond.selects "PillarDeskModel" ({ cls := "PillarDeskModel", name := "is", desc := "(I)Z" } : Jvm.MethodName) ({ cls := "PillarDeskModel", name := "is", desc := "(I)Z" } : Jvm.MethodName) ∈ zz_tbl := zz_mem 68 (by decide +kernel) rfl
theorem tm_69 : Cond.selects "PillarDeskModel" ({ cls := "PillarDeskModel", name := "fails", desc := "(I)V" } : Jvm.MethodName) ({ cls := "PillarDeskModel", name := "fails", desc := "(I)V" } : Jvm.MethodName) ∈ zz_tbl := zz_mem 69 (by decide +kernel) rfl
theorem tm_70 : Cond.selects "PillarDeskModel" ({ cls := "PillarDeskModel", name := "named", desc := "(III)I" } : Jvm.MethodName) ({ cls := "PillarDeskModel", name := "named", desc := "(III)I" } : Jvm.MethodName) ∈ zz_tbl := zz_mem 70 (by decide +kernel) rfl
theorem tm_71 : Cond.selects "PillarDeskModel" ({ cls := "PillarDeskModel", name := "takes", desc := "(II)I" } : Jvm.MethodName) ({ cls := "PillarDeskModel", name := "takes", desc := "(II)I" } : Jvm.MethodName) ∈ zz_tbl := zz_mem 71 (by decide +kernel) rfl
theorem tm_72 : Cond.selects "PillarDeskModel" ({ cls := "PillarDeskModel", name := "closes", desc := "()V" } : Jvm.MethodName) ({ cls := "PillarDeskModel", name := "closes", desc := "()V" } : Jvm.MethodName) ∈ zz_tbl := zz_mem 72 (by decide +kernel) rfl
theorem tm_73 : Cond.selects "PillarDeskModel" ({ cls := "PillarDeskModel", name := "readLine", desc := "()V" } : Jvm.MethodName) ({ cls := "PillarDeskModel", name := "readLine", desc := "()V" } : Jvm.MethodName) ∈ zz_tbl := zz_mem 73 (by decide +kernel) rfl
theorem tm_74 : Cond.selects "PillarDeskModel" ({ cls := "PillarDeskModel", name := "readHoliday", desc := "()V" } : Jvm.MethodName) ({ cls := "PillarDeskModel", name := "readHoliday", desc := "()V" } : Jvm.MethodName) ∈ zz_tbl := zz_mem 74 (by decide +kernel) rfl
theorem tm_75 : Cond.selects "PillarDeskModel" ({ cls := "PillarDeskModel", name := "readInput", desc := "()V" } : Jvm.MethodName) ({ cls := "PillarDeskModel", name := "readInput", desc := "()V" } : Jvm.MethodName) ∈ zz_tbl := zz_mem 75 (by decide +kernel) rfl
theorem tm_76 : Cond.selects "PillarDeskModel" ({ cls := "PillarDeskModel", name := "readFlow", desc := "()V" } : Jvm.MethodName) ({ cls := "PillarDeskModel", name := "readFlow", desc := "()V" } : Jvm.MethodName) ∈ zz_tbl := zz_mem 76 (by decide +kernel) rfl
theorem tm_77 : Cond.selects "PillarDeskModel" ({ cls := "PillarDeskModel", name := "readLaw", desc := "(I)V" } : Jvm.MethodName) ({ cls := "PillarDeskModel", name := "readLaw", desc := "(I)V" } : Jvm.MethodName) ∈ zz_tbl := zz_mem 77 (by decide +kernel) rfl
theorem tm_78 : Cond.selects "PillarDeskModel" ({ cls := "PillarDeskModel", name := "readSum", desc := "(I)V" } : Jvm.MethodName) ({ cls := "PillarDeskModel", name := "readSum", desc := "(I)V" } : Jvm.MethodName) ∈ zz_tbl := zz_mem 78 (by decide +kernel) rfl
theorem tm_79 : Cond.selects "PillarDeskModel" ({ cls := "PillarDeskModel", name := "readTerm", desc := "(I)V" } : Jvm.MethodName) ({ cls := "PillarDeskModel", name := "readTerm", desc := "(I)V" } : Jvm.MethodName) ∈ zz_tbl := zz_mem 79 (by decide +kernel) rfl
theorem tm_80 : Cond.selects "PillarDeskModel" ({ cls := "PillarDeskModel", name := "readAtom", desc := "(I)V" } : Jvm.MethodName) ({ cls := "PillarDeskModel", name := "readAtom", desc := "(I)V" } : Jvm.MethodName) ∈ zz_tbl := zz_mem 80 (by decide +kernel) rfl
theorem tm_81 : Cond.selects "PillarDeskModel" ({ cls := "PillarDeskModel", name := "codes", desc := "(I)V" } : Jvm.MethodName) ({ cls := "PillarDeskModel", name := "codes", desc := "(I)V" } : Jvm.MethodName) ∈ zz_tbl := zz_mem 81 (by decide +kernel) rfl
theorem tm_82 : Cond.selects "PillarDeskModel" ({ cls := "PillarDeskModel", name := "wordOf", desc := "(I)I" } : Jvm.MethodName) ({ cls := "PillarDeskModel", name := "wordOf", desc := "(I)I" } : Jvm.MethodName) ∈ zz_tbl := zz_mem 82 (by decide +kernel) rfl
theorem tm_83 : Cond.selects "PillarDeskModel" ({ cls := "PillarDeskModel", name := "goesIn", desc := "(I)Z" } : Jvm.MethodName) ({ cls := "PillarDeskModel", name := "goesIn", desc := "(I)Z" } : Jvm.MethodName) ∈ zz_tbl := zz_mem 83 (by decide +kernel) rfl
theorem tm_84 : Cond.selects "PillarDeskModel" ({ cls := "PillarDeskModel", name := "readIf", desc := "(I)V" } : Jvm.MethodName) ({ cls := "PillarDeskModel", name := "readIf", desc := "(I)V" } : Jvm.MethodName) ∈ zz_tbl := zz_mem 84 (by decide +kernel) rfl
theorem tm_85 : Cond.selects "PillarDeskModel" ({ cls := "PillarDeskModel", name := "readTruth", desc := "(I)V" } : Jvm.MethodName) ({ cls := "PillarDeskModel", name := "readTruth", desc := "(I)V" } : Jvm.MethodName) ∈ zz_tbl := zz_mem 85 (by decide +kernel) rfl
theorem tm_86 : Cond.selects "PillarDeskModel" ({ cls := "PillarDeskModel", name := "readBoth", desc := "(I)V" } : Jvm.MethodName) ({ cls := "PillarDeskModel", name := "readBoth", desc := "(I)V" } : Jvm.MethodName) ∈ zz_tbl := zz_mem 86 (by decide +kernel) rfl
theorem tm_87 : Cond.selects "PillarDeskModel" ({ cls := "PillarDeskModel", name := "readUnit", desc := "(I)V" } : Jvm.MethodName) ({ cls := "PillarDeskModel", name := "readUnit", desc := "(I)V" } : Jvm.MethodName) ∈ zz_tbl := zz_mem 87 (by decide +kernel) rfl
theorem tm_88 : Cond.selects "PillarDeskModel" ({ cls := "PillarDeskModel", name := "isInput", desc := "(J)Z" } : Jvm.MethodName) ({ cls := "PillarDeskModel", name := "isInput", desc := "(J)Z" } : Jvm.MethodName) ∈ zz_tbl := zz_mem 88 (by decide +kernel) rfl
theorem tm_89 : Cond.selects "PillarDeskModel" ({ cls := "PillarDeskModel", name := "endOf", desc := "(II)I" } : Jvm.MethodName) ({ cls := "PillarDeskModel", name := "endOf", desc := "(II)I" } : Jvm.MethodName) ∈ zz_tbl := zz_mem 89 (by decide +kernel) rfl
theorem tm_90 : Cond.selects "PillarDeskModel" ({ cls := "PillarDeskModel", name := "countOf", desc := "(II)I" } : Jvm.MethodName) ({ cls := "PillarDeskModel", name := "countOf", desc := "(II)I" } : Jvm.MethodName) ∈ zz_tbl := zz_mem 90 (by decide +kernel) rfl
theorem tm_91 : Cond.selects "PillarDeskModel" ({ cls := "PillarDeskModel", name := "laysCurve", desc := "()V" } : Jvm.MethodName) ({ cls := "PillarDeskModel", name := "laysCurve", desc := "()V" } : Jvm.MethodName) ∈ zz_tbl := zz_mem 91 (by decide +kernel) rfl
theorem tm_92 : Cond.selects "PillarDeskModel" ({ cls := "PillarDeskModel", name := "laysCounts", desc := "(I)V" } : Jvm.MethodName) ({ cls := "PillarDeskModel", name := "laysCounts", desc := "(I)V" } : Jvm.MethodName) ∈ zz_tbl := zz_mem 92 (by decide +kernel) rfl
theorem tm_93 : Cond.selects "PillarDeskModel" ({ cls := "PillarDeskModel", name := "laysPillars", desc := "()V" } : Jvm.MethodName) ({ cls := "PillarDeskModel", name := "laysPillars", desc := "()V" } : Jvm.MethodName) ∈ zz_tbl := zz_mem 93 (by decide +kernel) rfl
theorem tm_94 : Cond.selects "PillarDeskModel" ({ cls := "PillarDeskModel", name := "solves", desc := "(I)V" } : Jvm.MethodName) ({ cls := "PillarDeskModel", name := "solves", desc := "(I)V" } : Jvm.MethodName) ∈ zz_tbl := zz_mem 94 (by decide +kernel) rfl
theorem tm_95 : Cond.selects "PillarDeskModel" ({ cls := "PillarDeskModel", name := "fits", desc := "(IJ)Z" } : Jvm.MethodName) ({ cls := "PillarDeskModel", name := "fits", desc := "(IJ)Z" } : Jvm.MethodName) ∈ zz_tbl := zz_mem 95 (by decide +kernel) rfl
theorem tm_96 : Cond.selects "PillarDeskModel" ({ cls := "PillarDeskModel", name := "dueOf", desc := "(II)J" } : Jvm.MethodName) ({ cls := "PillarDeskModel", name := "dueOf", desc := "(II)J" } : Jvm.MethodName) ∈ zz_tbl := zz_mem 96 (by decide +kernel) rfl
theorem tm_97 : Cond.selects "PillarDeskModel" ({ cls := "PillarDeskModel", name := "factorAt", desc := "(I)I" } : Jvm.MethodName) ({ cls := "PillarDeskModel", name := "factorAt", desc := "(I)I" } : Jvm.MethodName) ∈ zz_tbl := zz_mem 97 (by decide +kernel) rfl
theorem tm_98 : Cond.selects "PillarDeskModel" ({ cls := "PillarDeskModel", name := "pillarAt", desc := "(I)I" } : Jvm.MethodName) ({ cls := "PillarDeskModel", name := "pillarAt", desc := "(I)I" } : Jvm.MethodName) ∈ zz_tbl := zz_mem 98 (by decide +kernel) rfl
theorem tm_99 : Cond.selects "PillarDeskModel" ({ cls := "PillarDeskModel", name := "lengthOf", desc := "(II)I" } : Jvm.MethodName) ({ cls := "PillarDeskModel", name := "lengthOf", desc := "(II)I" } : Jvm.MethodName) ∈ zz_tbl := zz_mem 99 (by decide +kernel) rfl
theorem tm_100 : Cond.selects "PillarDeskModel" ({ cls := "PillarDeskModel", name := "isFlow", desc := "(J)Z" } : Jvm.MethodName) ({ cls := "PillarDeskModel", name := "isFlow", desc := "(J)Z" } : Jvm.MethodName) ∈ zz_tbl := zz_mem 100 (by decide +kernel) rfl
theorem tm_101 : Cond.selects "PillarDeskModel" ({ cls := "PillarDeskModel", name := "whyBump", desc := "(JJ)I" } : Jvm.MethodName) ({ cls := "PillarDeskModel", name := "whyBump", desc := "(JJ)I" } : Jvm.MethodName) ∈ zz_tbl := zz_mem 101 (by decide +kernel) rfl
theorem tm_102 : Cond.selects "PillarDeskModel" ({ cls := "PillarDeskModel", name := "stores", desc := "()V" } : Jvm.MethodName) ({ cls := "PillarDeskModel", name := "stores", desc := "()V" } : Jvm.MethodName) ∈ zz_tbl := zz_mem 102 (by decide +kernel) rfl
theorem tm_103 : Cond.selects "PillarDeskModel" ({ cls := "PillarDeskModel", name := "notes", desc := "()V" } : Jvm.MethodName) ({ cls := "PillarDeskModel", name := "notes", desc := "()V" } : Jvm.MethodName) ∈ zz_tbl := zz_mem 103 (by decide +kernel) rfl
theorem tm_104 : Cond.selects "PillarDeskModel" ({ cls := "PillarDeskModel", name := "whyAmount", desc := "(JJ)I" } : Jvm.MethodName) ({ cls := "PillarDeskModel", name := "whyAmount", desc := "(JJ)I" } : Jvm.MethodName) ∈ zz_tbl := zz_mem 104 (by decide +kernel) rfl
theorem tm_105 : Cond.selects "PillarDeskModel" ({ cls := "PillarDeskModel", name := "noTray", desc := "(I)I" } : Jvm.MethodName) ({ cls := "PillarDeskModel", name := "noTray", desc := "(I)I" } : Jvm.MethodName) ∈ zz_tbl := zz_mem 105 (by decide +kernel) rfl
theorem tm_106 : Cond.selects "PillarDeskModel" ({ cls := "PillarDeskModel", name := "tells", desc := "(I)I" } : Jvm.MethodName) ({ cls := "PillarDeskModel", name := "tells", desc := "(I)I" } : Jvm.MethodName) ∈ zz_tbl := zz_mem 106 (by decide +kernel) rfl
theorem tm_107 : Cond.selects "PillarDeskModel" ({ cls := "PillarDeskModel", name := "whyNot", desc := "(J)I" } : Jvm.MethodName) ({ cls := "PillarDeskModel", name := "whyNot", desc := "(J)I" } : Jvm.MethodName) ∈ zz_tbl := zz_mem 107 (by decide +kernel) rfl
theorem tm_108 : Cond.selects "PillarDeskModel" ({ cls := "PillarDeskModel", name := "does", desc := "(I)V" } : Jvm.MethodName) ({ cls := "PillarDeskModel", name := "does", desc := "(I)V" } : Jvm.MethodName) ∈ zz_tbl := zz_mem 108 (by decide +kernel) rfl
theorem tm_109 : Cond.selects "PillarDeskModel" ({ cls := "PillarDeskModel", name := "ratesSum", desc := "()I" } : Jvm.MethodName) ({ cls := "PillarDeskModel", name := "ratesSum", desc := "()I" } : Jvm.MethodName) ∈ zz_tbl := zz_mem 109 (by decide +kernel) rfl
theorem tm_110 : Cond.selects "PillarDeskModel" ({ cls := "PillarDeskModel", name := "isAgain", desc := "()V" } : Jvm.MethodName) ({ cls := "PillarDeskModel", name := "isAgain", desc := "()V" } : Jvm.MethodName) ∈ zz_tbl := zz_mem 110 (by decide +kernel) rfl
theorem tm_111 : Cond.selects "PillarDeskModel" ({ cls := "PillarDeskModel", name := "drawn", desc := "()I" } : Jvm.MethodName) ({ cls := "PillarDeskModel", name := "drawn", desc := "()I" } : Jvm.MethodName) ∈ zz_tbl := zz_mem 111 (by decide +kernel) rfl
theorem tm_112 : Cond.selects "PillarDeskModel" ({ cls := "PillarDeskModel", name := "draw", desc := "(I)I" } : Jvm.MethodName) ({ cls := "PillarDeskModel", name := "draw", desc := "(I)I" } : Jvm.MethodName) ∈ zz_tbl := zz_mem 112 (by decide +kernel) rfl
theorem tm_113 : Cond.selects "PillarDeskModel" ({ cls := "PillarDeskModel", name := "isPillar", desc := "(I)Z" } : Jvm.MethodName) ({ cls := "PillarDeskModel", name := "isPillar", desc := "(I)Z" } : Jvm.MethodName) ∈ zz_tbl := zz_mem 113 (by decide +kernel) rfl
theorem tm_114 : Cond.selects "PillarDeskModel" ({ cls := "PillarDeskModel", name := "rateOf", desc := "(II)I" } : Jvm.MethodName) ({ cls := "PillarDeskModel", name := "rateOf", desc := "(II)I" } : Jvm.MethodName) ∈ zz_tbl := zz_mem 114 (by decide +kernel) rfl
theorem tm_115 : Cond.selects "PillarDeskModel" ({ cls := "PillarDeskModel", name := "laysWith", desc := "(II)V" } : Jvm.MethodName) ({ cls := "PillarDeskModel", name := "laysWith", desc := "(II)V" } : Jvm.MethodName) ∈ zz_tbl := zz_mem 115 (by decide +kernel) rfl
theorem tm_116 : Cond.selects "PillarDeskModel" ({ cls := "PillarDeskModel", name := "worthNow", desc := "()J" } : Jvm.MethodName) ({ cls := "PillarDeskModel", name := "worthNow", desc := "()J" } : Jvm.MethodName) ∈ zz_tbl := zz_mem 116 (by decide +kernel) rfl
theorem tm_117 : Cond.selects "PillarDeskModel" ({ cls := "PillarDeskModel", name := "worthBy", desc := "()J" } : Jvm.MethodName) ({ cls := "PillarDeskModel", name := "worthBy", desc := "()J" } : Jvm.MethodName) ∈ zz_tbl := zz_mem 117 (by decide +kernel) rfl
theorem tm_118 : Cond.selects "PillarDeskModel" ({ cls := "PillarDeskModel", name := "worthWith", desc := "(II)J" } : Jvm.MethodName) ({ cls := "PillarDeskModel", name := "worthWith", desc := "(II)J" } : Jvm.MethodName) ∈ zz_tbl := zz_mem 118 (by decide +kernel) rfl
theorem tm_119 : Cond.selects "PillarDeskModel" ({ cls := "PillarDeskModel", name := "hangOf", desc := "(I)J" } : Jvm.MethodName) ({ cls := "PillarDeskModel", name := "hangOf", desc := "(I)J" } : Jvm.MethodName) ∈ zz_tbl := zz_mem 119 (by decide +kernel) rfl
theorem tm_120 : Cond.selects "PillarDeskModel" ({ cls := "PillarDeskModel", name := "weightAt", desc := "(II)I" } : Jvm.MethodName) ({ cls := "PillarDeskModel", name := "weightAt", desc := "(II)I" } : Jvm.MethodName) ∈ zz_tbl := zz_mem 120 (by decide +kernel) rfl
theorem tm_121 : Cond.selects "PillarDeskModel" ({ cls := "PillarDeskModel", name := "laysFlat", desc := "()V" } : Jvm.MethodName) ({ cls := "PillarDeskModel", name := "laysFlat", desc := "()V" } : Jvm.MethodName) ∈ zz_tbl := zz_mem 121 (by decide +kernel) rfl
theorem tm_122 : Cond.selects "PillarDeskModel" ({ cls := "PillarDeskModel", name := "pieceOn", desc := "(II)J" } : Jvm.MethodName) ({ cls := "PillarDeskModel", name := "pieceOn", desc := "(II)J" } : Jvm.MethodName) ∈ zz_tbl := zz_mem 122 (by decide +kernel) rfl
theorem tm_123 : Cond.selects "PillarDeskModel" ({ cls := "PillarDeskModel", name := "noTold", desc := "(I)I" } : Jvm.MethodName) ({ cls := "PillarDeskModel", name := "noTold", desc := "(I)I" } : Jvm.MethodName) ∈ zz_tbl := zz_mem 123 (by decide +kernel) rfl
theorem tm_124 : Cond.selects "PillarDeskModel" ({ cls := "PillarDeskModel", name := "shiftsOf", desc := "(I)I" } : Jvm.MethodName) ({ cls := "PillarDeskModel", name := "shiftsOf", desc := "(I)I" } : Jvm.MethodName) ∈ zz_tbl := zz_mem 124 (by decide +kernel) rfl
theorem tm_125 : Cond.selects "PillarDeskModel" ({ cls := "PillarDeskModel", name := "mostAlike", desc := "(II)I" } : Jvm.MethodName) ({ cls := "PillarDeskModel", name := "mostAlike", desc := "(II)I" } : Jvm.MethodName) ∈ zz_tbl := zz_mem 125 (by decide +kernel) rfl
theorem tm_126 : Cond.selects "PillarDeskModel" ({ cls := "PillarDeskModel", name := "laysLots", desc := "(IJI)V" } : Jvm.MethodName) ({ cls := "PillarDeskModel", name := "laysLots", desc := "(IJI)V" } : Jvm.MethodName) ∈ zz_tbl := zz_mem 126 (by decide +kernel) rfl
theorem tm_127 : Cond.selects "PillarDeskModel" ({ cls := "PillarDeskModel", name := "goesLots", desc := "(IIJIJ)V" } : Jvm.MethodName) ({ cls := "PillarDeskModel", name := "goesLots", desc := "(IIJIJ)V" } : Jvm.MethodName) ∈ zz_tbl := zz_mem 127 (by decide +kernel) rfl
theorem tm_129 : (Jvm.Cond.initialized "PillarDesk") ∈ zz_tbl := zz_mem 129 (by decide +kernel) rfl
theorem tm_130 : (Jvm.Cond.initialized "PillarDesk$Plan") ∈ zz_tbl := zz_mem 130 (by decide +kernel) rfl
theorem tm_131 : (Jvm.Cond.initialized "PillarDesk$Laws") ∈ zz_tbl := zz_mem 131 (by decide +kernel) rfl
theorem tm_132 : (Jvm.Cond.initialized "PillarDesk$Stand") ∈ zz_tbl := zz_mem 132 (by decide +kernel) rfl
theorem tm_133 : (Jvm.Cond.initialized "PillarDesk$Reader") ∈ zz_tbl := zz_mem 133 (by decide +kernel) rfl
theorem tm_134 : (Jvm.Cond.initialized "PillarDesk$Past") ∈ zz_tbl := zz_mem 134 (by decide +kernel) rfl
theorem tm_135 : (Jvm.Cond.initialized "PillarDesk$Schedule") ∈ zz_tbl := zz_mem 135 (by decide +kernel) rfl
theorem tm_136 : (Jvm.Cond.initialized "PillarDesk$Calendar") ∈ zz_tbl := zz_mem 136 (by decide +kernel) rfl
theorem tm_137 : (Jvm.Cond.initialized "PillarDesk$Curve") ∈ zz_tbl := zz_mem 137 (by decide +kernel) rfl
theorem tm_138 : (Jvm.Cond.initialized "PillarDesk$Hedge") ∈ zz_tbl := zz_mem 138 (by decide +kernel) rfl
theorem tm_139 : (Jvm.Cond.initialized "PillarDesk$Odds") ∈ zz_tbl := zz_mem 139 (by decide +kernel) rfl
theorem tm_140 : (Jvm.Cond.initialized "PillarDesk$Tray") ∈ zz_tbl := zz_mem 140 (by decide +kernel) rfl
theorem tm_141 : (Jvm.Cond.initialized "java/util/Arrays") ∈ zz_tbl := zz_mem 141 (by decide +kernel) rfl
theorem tm_142 : (Jvm.Cond.initialized "java/lang/Math") ∈ zz_tbl := zz_mem 142 (by decide +kernel) rfl
theorem tm_143 : (Jvm.Cond.initialized "PillarDeskModel") ∈ zz_tbl := zz_mem 143 (by decide +kernel) rfl
theorem tm_144 : (Jvm.Cond.initialized "java/lang/String") ∈ zz_tbl := zz_mem 144 (by decide +kernel) rfl
theorem tm_145 : (Jvm.Cond.initialized "java/lang/StringLatin1") ∈ zz_tbl := zz_mem 145 (by decide +kernel) rfl
theorem tm_147 : (Jvm.Cond.initialized "jdk/internal/util/Preconditions") ∈ zz_tbl := zz_mem 147 (by decide +kernel) rfl
theorem tm_149 : (Jvm.Cond.initialized "java/lang/System") ∈ zz_tbl := zz_mem 149 (by decide +kernel) rfl
theorem tm_170 : (Jvm.Cond.fieldLink "PillarDesk$Laws" (9 : Nat) "PillarDesk$Laws" "steps" "[I") ∈ zz_tbl := zz_mem 170 (by decide +kernel) rfl
theorem tm_171 : (Jvm.Cond.fieldLink "PillarDesk$Laws" (15 : Nat) "PillarDesk$Laws" "variables" "[I") ∈ zz_tbl := zz_mem 171 (by decide +kernel) rfl
theorem tm_172 : (Jvm.Cond.fieldLink "PillarDesk$Curve" (68 : Nat) "PillarDesk$Laws" "variables" "[I") ∈ zz_tbl := zz_mem 172 (by decide +kernel) rfl
theorem tm_173 : (Jvm.Cond.fieldLink "PillarDesk$Calendar" (52 : Nat) "PillarDesk$Laws" "variables" "[I") ∈ zz_tbl := zz_mem 173 (by decide +kernel) rfl
theorem tm_174 : (Jvm.Cond.fieldLink "PillarDesk$Laws" (18 : Nat) "PillarDesk$Laws" "stack" "[I") ∈ zz_tbl := zz_mem 174 (by decide +kernel) rfl
theorem tm_175 : (Jvm.Cond.fieldLink "PillarDesk$Laws" (21 : Nat) "PillarDesk$Laws" "length" "I") ∈ zz_tbl := zz_mem 175 (by decide +kernel) rfl
theorem tm_176 : (Jvm.Cond.fieldLink "PillarDesk$Reader" (216 : Nat) "PillarDesk$Laws" "length" "I") ∈ zz_tbl := zz_mem 176 (by decide +kernel) rfl
theorem tm_177 : (Jvm.Cond.fieldLink "PillarDesk$Laws" (25 : Nat) "PillarDesk$Laws" "ratesFrom" "I") ∈ zz_tbl := zz_mem 177 (by decide +kernel) rfl
theorem tm_178 : (Jvm.Cond.fieldLink "PillarDesk$Curve" (79 : Nat) "PillarDesk$Laws" "ratesFrom" "I") ∈ zz_tbl := zz_mem 178 (by decide +kernel) rfl
theorem tm_179 : (Jvm.Cond.fieldLink "PillarDesk$Reader" (219 : Nat) "PillarDesk$Laws" "ratesFrom" "I") ∈ zz_tbl := zz_mem 179 (by decide +kernel) rfl
theorem tm_180 : (Jvm.Cond.fieldLink "PillarDesk$Laws" (28 : Nat) "PillarDesk$Laws" "ratesTo" "I") ∈ zz_tbl := zz_mem 180 (by decide +kernel) rfl
theorem tm_181 : (Jvm.Cond.fieldLink "PillarDesk$Curve" (82 : Nat) "PillarDesk$Laws" "ratesTo" "I") ∈ zz_tbl := zz_mem 181 (by decide +kernel) rfl
theorem tm_182 : (Jvm.Cond.fieldLink "PillarDesk$Reader" (225 : Nat) "PillarDesk$Laws" "ratesTo" "I") ∈ zz_tbl := zz_mem 182 (by decide +kernel) rfl
theorem tm_183 : (Jvm.Cond.fieldLink "PillarDesk$Laws" (31 : Nat) "PillarDesk$Laws" "opensFrom" "I") ∈ zz_tbl := zz_mem 183 (by decide +kernel) rfl
theorem tm_184 : (Jvm.Cond.fieldLink "PillarDesk$Calendar" (56 : Nat) "PillarDesk$Laws" "opensFrom" "I") ∈ zz_tbl := zz_mem 184 (by decide +kernel) rfl
theorem tm_185 : (Jvm.Cond.fieldLink "PillarDesk$Reader" (228 : Nat) "PillarDesk$Laws" "opensFrom" "I") ∈ zz_tbl := zz_mem 185 (by decide +kernel) rfl
theorem tm_186 : (Jvm.Cond.fieldLink "PillarDesk$Laws" (34 : Nat) "PillarDesk$Laws" "opensTo" "I") ∈ zz_tbl := zz_mem 186 (by decide +kernel) rfl
theorem tm_187 : (Jvm.Cond.fieldLink "PillarDesk$Calendar" (59 : Nat) "PillarDesk$Laws" "opensTo" "I") ∈ zz_tbl := zz_mem 187 (by decide +kernel) rfl
theorem tm_188 : (Jvm.Cond.fieldLink "PillarDesk$Reader" (234 : Nat) "PillarDesk$Laws" "opensTo" "I") ∈ zz_tbl := zz_mem 188 (by decide +kernel) rfl
theorem tm_189 : (Jvm.Cond.laysFinal "PillarDesk$Laws" "PillarDesk$Laws" "steps" "[I") ∈ zz_tbl := zz_mem 189 (by decide +kernel) rfl
theorem tm_191 : (Jvm.Cond.laysFinal "PillarDesk$Laws" "PillarDesk$Laws" "variables" "[I") ∈ zz_tbl := zz_mem 191 (by decide +kernel) rfl
theorem tm_193 : (Jvm.Cond.laysFinal "PillarDesk$Laws" "PillarDesk$Laws" "stack" "[I") ∈ zz_tbl := zz_mem 193 (by decide +kernel) rfl
theorem tm_195 : (Jvm.Cond.lays "PillarDesk$Laws" "PillarDesk$Laws" "length" "I") ∈ zz_tbl := zz_mem 195 (by decide +kernel) rfl
theorem tm_197 : (Jvm.Cond.lays "PillarDesk$Laws" "PillarDesk$Laws" "ratesFrom" "I") ∈ zz_tbl := zz_mem 197 (by decide +kernel) rfl
theorem tm_199 : (Jvm.Cond.lays "PillarDesk$Laws" "PillarDesk$Laws" "ratesTo" "I") ∈ zz_tbl := zz_mem 199 (by decide +kernel) rfl
theorem tm_201 : (Jvm.Cond.lays "PillarDesk$Laws" "PillarDesk$Laws" "opensFrom" "I") ∈ zz_tbl := zz_mem 201 (by decide +kernel) rfl
theorem tm_203 : (Jvm.Cond.lays "PillarDesk$Laws" "PillarDesk$Laws" "opensTo" "I") ∈ zz_tbl := zz_mem 203 (by decide +kernel) rfl
theorem tm_214 : (Jvm.Cond.fieldLink "PillarDesk$Stand" (9 : Nat) "PillarDesk$Stand" "rates" "[I") ∈ zz_tbl := zz_mem 214 (by decide +kernel) rfl
theorem tm_215 : (Jvm.Cond.fieldLink "PillarDesk$Curve" (45 : Nat) "PillarDesk$Stand" "rates" "[I") ∈ zz_tbl := zz_mem 215 (by decide +kernel) rfl
theorem tm_216 : (Jvm.Cond.fieldLink "PillarDesk" (163 : Nat) "PillarDesk$Stand" "rates" "[I") ∈ zz_tbl := zz_mem 216 (by decide +kernel) rfl
theorem tm_217 : (Jvm.Cond.fieldLink "PillarDesk$Plan" (79 : Nat) "PillarDesk$Stand" "rates" "[I") ∈ zz_tbl := zz_mem 217 (by decide +kernel) rfl
theorem tm_218 : (Jvm.Cond.fieldLink "PillarDesk$Reader" (193 : Nat) "PillarDesk$Stand" "rates" "[I") ∈ zz_tbl := zz_mem 218 (by decide +kernel) rfl
theorem tm_219 : (Jvm.Cond.fieldLink "PillarDesk$Stand" (15 : Nat) "PillarDesk$Stand" "amounts" "[I") ∈ zz_tbl := zz_mem 219 (by decide +kernel) rfl
theorem tm_220 : (Jvm.Cond.fieldLink "PillarDesk$Hedge" (40 : Nat) "PillarDesk$Stand" "amounts" "[I") ∈ zz_tbl := zz_mem 220 (by decide +kernel) rfl
theorem tm_221 : (Jvm.Cond.fieldLink "PillarDesk" (187 : Nat) "PillarDesk$Stand" "amounts" "[I") ∈ zz_tbl := zz_mem 221 (by decide +kernel) rfl
theorem tm_222 : (Jvm.Cond.fieldLink "PillarDesk$Plan" (92 : Nat) "PillarDesk$Stand" "amounts" "[I") ∈ zz_tbl := zz_mem 222 (by decide +kernel) rfl
theorem tm_223 : (Jvm.Cond.fieldLink "PillarDesk$Curve" (203 : Nat) "PillarDesk$Stand" "amounts" "[I") ∈ zz_tbl := zz_mem 223 (by decide +kernel) rfl
theorem tm_224 : (Jvm.Cond.fieldLink "PillarDesk$Reader" (205 : Nat) "PillarDesk$Stand" "amounts" "[I") ∈ zz_tbl := zz_mem 224 (by decide +kernel) rfl
theorem tm_225 : (Jvm.Cond.fieldLink "PillarDesk$Stand" (24 : Nat) "PillarDesk$Stand" "shiftNow" "I") ∈ zz_tbl := zz_mem 225 (by decide +kernel) rfl
theorem tm_226 : (Jvm.Cond.fieldLink "PillarDesk$Plan" (86 : Nat) "PillarDesk$Stand" "shiftNow" "I") ∈ zz_tbl := zz_mem 226 (by decide +kernel) rfl
theorem tm_227 : (Jvm.Cond.fieldLink "PillarDesk" (224 : Nat) "PillarDesk$Stand" "shiftNow" "I") ∈ zz_tbl := zz_mem 227 (by decide +kernel) rfl
theorem tm_228 : (Jvm.Cond.fieldLink "PillarDesk$Reader" (126 : Nat) "PillarDesk$Stand" "shiftNow" "I") ∈ zz_tbl := zz_mem 228 (by decide +kernel) rfl
theorem tm_229 : (Jvm.Cond.laysFinal "PillarDesk$Stand" "PillarDesk$Stand" "rates" "[I") ∈ zz_tbl := zz_mem 229 (by decide +kernel) rfl
theorem tm_231 : (Jvm.Cond.laysFinal "PillarDesk$Stand" "PillarDesk$Stand" "amounts" "[I") ∈ zz_tbl := zz_mem 231 (by decide +kernel) rfl
theorem tm_233 : (Jvm.Cond.lays "PillarDesk$Stand" "PillarDesk$Stand" "shiftNow" "I") ∈ zz_tbl := zz_mem 233 (by decide +kernel) rfl
theorem tm_236 : (Jvm.Cond.fieldLink "PillarDesk$Plan" (44 : Nat) "PillarDesk$Plan" "first" "I") ∈ zz_tbl := zz_mem 236 (by decide +kernel) rfl
theorem tm_237 : (Jvm.Cond.fieldLink "PillarDesk$Calendar" (27 : Nat) "PillarDesk$Plan" "first" "I") ∈ zz_tbl := zz_mem 237 (by decide +kernel) rfl
theorem tm_238 : (Jvm.Cond.fieldLink "PillarDesk$Reader" (114 : Nat) "PillarDesk$Plan" "first" "I") ∈ zz_tbl := zz_mem 238 (by decide +kernel) rfl
theorem tm_239 : (Jvm.Cond.fieldLink "PillarDesk" (420 : Nat) "PillarDesk$Plan" "first" "I") ∈ zz_tbl := zz_mem 239 (by decide +kernel) rfl
theorem tm_240 : (Jvm.Cond.fieldLink "PillarDesk$Plan" (48 : Nat) "PillarDesk$Plan" "curve" "I") ∈ zz_tbl := zz_mem 240 (by decide +kernel) rfl
theorem tm_241 : (Jvm.Cond.fieldLink "PillarDesk$Curve" (163 : Nat) "PillarDesk$Plan" "curve" "I") ∈ zz_tbl := zz_mem 241 (by decide +kernel) rfl
theorem tm_242 : (Jvm.Cond.fieldLink "PillarDesk$Schedule" (99 : Nat) "PillarDesk$Plan" "curve" "I") ∈ zz_tbl := zz_mem 242 (by decide +kernel) rfl
theorem tm_243 : (Jvm.Cond.fieldLink "PillarDesk$Reader" (118 : Nat) "PillarDesk$Plan" "curve" "I") ∈ zz_tbl := zz_mem 243 (by decide +kernel) rfl
theorem tm_244 : (Jvm.Cond.fieldLink "PillarDesk" (423 : Nat) "PillarDesk$Plan" "curve" "I") ∈ zz_tbl := zz_mem 244 (by decide +kernel) rfl
theorem tm_245 : (Jvm.Cond.fieldLink "PillarDesk$Plan" (51 : Nat) "PillarDesk$Plan" "lines" "I") ∈ zz_tbl := zz_mem 245 (by decide +kernel) rfl
theorem tm_246 : (Jvm.Cond.fieldLink "PillarDesk" (138 : Nat) "PillarDesk$Plan" "lines" "I") ∈ zz_tbl := zz_mem 246 (by decide +kernel) rfl
theorem tm_247 : (Jvm.Cond.fieldLink "PillarDesk$Reader" (135 : Nat) "PillarDesk$Plan" "lines" "I") ∈ zz_tbl := zz_mem 247 (by decide +kernel) rfl
theorem tm_248 : (Jvm.Cond.fieldLink "PillarDesk$Plan" (54 : Nat) "PillarDesk$Plan" "holidayCount" "I") ∈ zz_tbl := zz_mem 248 (by decide +kernel) rfl
theorem tm_249 : (Jvm.Cond.fieldLink "PillarDesk$Reader" (167 : Nat) "PillarDesk$Plan" "holidayCount" "I") ∈ zz_tbl := zz_mem 249 (by decide +kernel) rfl
theorem tm_250 : (Jvm.Cond.fieldLink "PillarDesk" (417 : Nat) "PillarDesk$Plan" "holidayCount" "I") ∈ zz_tbl := zz_mem 250 (by decide +kernel) rfl
theorem tm_251 : (Jvm.Cond.fieldLink "PillarDesk$Plan" (9 : Nat) "PillarDesk$Plan" "holidays" "[I") ∈ zz_tbl := zz_mem 251 (by decide +kernel) rfl
theorem tm_252 : (Jvm.Cond.fieldLink "PillarDesk$Reader" (170 : Nat) "PillarDesk$Plan" "holidays" "[I") ∈ zz_tbl := zz_mem 252 (by decide +kernel) rfl
theorem tm_253 : (Jvm.Cond.fieldLink "PillarDesk$Schedule" (52 : Nat) "PillarDesk$Plan" "inputCount" "I") ∈ zz_tbl := zz_mem 253 (by decide +kernel) rfl
theorem tm_254 : (Jvm.Cond.fieldLink "PillarDesk$Odds" (36 : Nat) "PillarDesk$Plan" "inputCount" "I") ∈ zz_tbl := zz_mem 254 (by decide +kernel) rfl
theorem tm_255 : (Jvm.Cond.fieldLink "PillarDesk$Plan" (57 : Nat) "PillarDesk$Plan" "inputCount" "I") ∈ zz_tbl := zz_mem 255 (by decide +kernel) rfl
theorem tm_256 : (Jvm.Cond.fieldLink "PillarDesk$Curve" (39 : Nat) "PillarDesk$Plan" "inputCount" "I") ∈ zz_tbl := zz_mem 256 (by decide +kernel) rfl
theorem tm_257 : (Jvm.Cond.fieldLink "PillarDesk$Reader" (174 : Nat) "PillarDesk$Plan" "inputCount" "I") ∈ zz_tbl := zz_mem 257 (by decide +kernel) rfl
theorem tm_258 : (Jvm.Cond.fieldLink "PillarDesk" (338 : Nat) "PillarDesk$Plan" "inputCount" "I") ∈ zz_tbl := zz_mem 258 (by decide +kernel) rfl
theorem tm_259 : (Jvm.Cond.fieldLink "PillarDesk$Plan" (15 : Nat) "PillarDesk$Plan" "kinds" "[I") ∈ zz_tbl := zz_mem 259 (by decide +kernel) rfl
theorem tm_260 : (Jvm.Cond.fieldLink "PillarDesk$Schedule" (58 : Nat) "PillarDesk$Plan" "kinds" "[I") ∈ zz_tbl := zz_mem 260 (by decide +kernel) rfl
theorem tm_261 : (Jvm.Cond.fieldLink "PillarDesk$Hedge" (60 : Nat) "PillarDesk$Plan" "kinds" "[I") ∈ zz_tbl := zz_mem 261 (by decide +kernel) rfl
theorem tm_262 : (Jvm.Cond.fieldLink "PillarDesk$Curve" (76 : Nat) "PillarDesk$Plan" "kinds" "[I") ∈ zz_tbl := zz_mem 262 (by decide +kernel) rfl
theorem tm_263 : (Jvm.Cond.fieldLink "PillarDesk" (145 : Nat) "PillarDesk$Plan" "kinds" "[I") ∈ zz_tbl := zz_mem 263 (by decide +kernel) rfl
theorem tm_264 : (Jvm.Cond.fieldLink "PillarDesk$Reader" (177 : Nat) "PillarDesk$Plan" "kinds" "[I") ∈ zz_tbl := zz_mem 264 (by decide +kernel) rfl
theorem tm_265 : (Jvm.Cond.fieldLink "PillarDesk$Plan" (18 : Nat) "PillarDesk$Plan" "starts" "[I") ∈ zz_tbl := zz_mem 265 (by decide +kernel) rfl
theorem tm_266 : (Jvm.Cond.fieldLink "PillarDesk$Schedule" (61 : Nat) "PillarDesk$Plan" "starts" "[I") ∈ zz_tbl := zz_mem 266 (by decide +kernel) rfl
theorem tm_267 : (Jvm.Cond.fieldLink "PillarDesk" (148 : Nat) "PillarDesk$Plan" "starts" "[I") ∈ zz_tbl := zz_mem 267 (by decide +kernel) rfl
theorem tm_268 : (Jvm.Cond.fieldLink "PillarDesk$Reader" (180 : Nat) "PillarDesk$Plan" "starts" "[I") ∈ zz_tbl := zz_mem 268 (by decide +kernel) rfl
theorem tm_269 : (Jvm.Cond.fieldLink "PillarDesk$Plan" (21 : Nat) "PillarDesk$Plan" "ends" "[I") ∈ zz_tbl := zz_mem 269 (by decide +kernel) rfl
theorem tm_270 : (Jvm.Cond.fieldLink "PillarDesk$Schedule" (68 : Nat) "PillarDesk$Plan" "ends" "[I") ∈ zz_tbl := zz_mem 270 (by decide +kernel) rfl
theorem tm_271 : (Jvm.Cond.fieldLink "PillarDesk" (151 : Nat) "PillarDesk$Plan" "ends" "[I") ∈ zz_tbl := zz_mem 271 (by decide +kernel) rfl
theorem tm_272 : (Jvm.Cond.fieldLink "PillarDesk$Reader" (183 : Nat) "PillarDesk$Plan" "ends" "[I") ∈ zz_tbl := zz_mem 272 (by decide +kernel) rfl
theorem tm_273 : (Jvm.Cond.fieldLink "PillarDesk$Plan" (24 : Nat) "PillarDesk$Plan" "everys" "[I") ∈ zz_tbl := zz_mem 273 (by decide +kernel) rfl
theorem tm_274 : (Jvm.Cond.fieldLink "PillarDesk$Schedule" (81 : Nat) "PillarDesk$Plan" "everys" "[I") ∈ zz_tbl := zz_mem 274 (by decide +kernel) rfl
theorem tm_275 : (Jvm.Cond.fieldLink "PillarDesk" (173 : Nat) "PillarDesk$Plan" "everys" "[I") ∈ zz_tbl := zz_mem 275 (by decide +kernel) rfl
theorem tm_276 : (Jvm.Cond.fieldLink "PillarDesk$Reader" (186 : Nat) "PillarDesk$Plan" "everys" "[I") ∈ zz_tbl := zz_mem 276 (by decide +kernel) rfl
theorem tm_277 : (Jvm.Cond.fieldLink "PillarDesk$Hedge" (30 : Nat) "PillarDesk$Plan" "flowCount" "I") ∈ zz_tbl := zz_mem 277 (by decide +kernel) rfl
theorem tm_278 : (Jvm.Cond.fieldLink "PillarDesk$Plan" (60 : Nat) "PillarDesk$Plan" "flowCount" "I") ∈ zz_tbl := zz_mem 278 (by decide +kernel) rfl
theorem tm_279 : (Jvm.Cond.fieldLink "PillarDesk$Reader" (195 : Nat) "PillarDesk$Plan" "flowCount" "I") ∈ zz_tbl := zz_mem 279 (by decide +kernel) rfl
theorem tm_280 : (Jvm.Cond.fieldLink "PillarDesk$Curve" (196 : Nat) "PillarDesk$Plan" "flowCount" "I") ∈ zz_tbl := zz_mem 280 (by decide +kernel) rfl
theorem tm_281 : (Jvm.Cond.fieldLink "PillarDesk" (414 : Nat) "PillarDesk$Plan" "flowCount" "I") ∈ zz_tbl := zz_mem 281 (by decide +kernel) rfl
theorem tm_282 : (Jvm.Cond.fieldLink "PillarDesk$Plan" (27 : Nat) "PillarDesk$Plan" "flowDays" "[I") ∈ zz_tbl := zz_mem 282 (by decide +kernel) rfl
theorem tm_283 : (Jvm.Cond.fieldLink "PillarDesk$Hedge" (46 : Nat) "PillarDesk$Plan" "flowDays" "[I") ∈ zz_tbl := zz_mem 283 (by decide +kernel) rfl
theorem tm_284 : (Jvm.Cond.fieldLink "PillarDesk" (184 : Nat) "PillarDesk$Plan" "flowDays" "[I") ∈ zz_tbl := zz_mem 284 (by decide +kernel) rfl
theorem tm_285 : (Jvm.Cond.fieldLink "PillarDesk$Reader" (198 : Nat) "PillarDesk$Plan" "flowDays" "[I") ∈ zz_tbl := zz_mem 285 (by decide +kernel) rfl
theorem tm_286 : (Jvm.Cond.fieldLink "PillarDesk$Curve" (206 : Nat) "PillarDesk$Plan" "flowDays" "[I") ∈ zz_tbl := zz_mem 286 (by decide +kernel) rfl
theorem tm_287 : (Jvm.Cond.fieldLink "PillarDesk$Plan" (33 : Nat) "PillarDesk$Plan" "laws" "LPillarDesk$Laws;") ∈ zz_tbl := zz_mem 287 (by decide +kernel) rfl
theorem tm_288 : (Jvm.Cond.fieldLink "PillarDesk$Curve" (58 : Nat) "PillarDesk$Plan" "laws" "LPillarDesk$Laws;") ∈ zz_tbl := zz_mem 288 (by decide +kernel) rfl
theorem tm_289 : (Jvm.Cond.fieldLink "PillarDesk$Calendar" (42 : Nat) "PillarDesk$Plan" "laws" "LPillarDesk$Laws;") ∈ zz_tbl := zz_mem 289 (by decide +kernel) rfl
theorem tm_290 : (Jvm.Cond.fieldLink "PillarDesk$Reader" (212 : Nat) "PillarDesk$Plan" "laws" "LPillarDesk$Laws;") ∈ zz_tbl := zz_mem 290 (by decide +kernel) rfl
theorem tm_291 : (Jvm.Cond.fieldLink "PillarDesk$Plan" (40 : Nat) "PillarDesk$Plan" "stand" "LPillarDesk$Stand;") ∈ zz_tbl := zz_mem 291 (by decide +kernel) rfl
theorem tm_292 : (Jvm.Cond.fieldLink "PillarDesk$Hedge" (36 : Nat) "PillarDesk$Plan" "stand" "LPillarDesk$Stand;") ∈ zz_tbl := zz_mem 292 (by decide +kernel) rfl
theorem tm_293 : (Jvm.Cond.fieldLink "PillarDesk" (160 : Nat) "PillarDesk$Plan" "stand" "LPillarDesk$Stand;") ∈ zz_tbl := zz_mem 293 (by decide +kernel) rfl
theorem tm_294 : (Jvm.Cond.fieldLink "PillarDesk$Reader" (122 : Nat) "PillarDesk$Plan" "stand" "LPillarDesk$Stand;") ∈ zz_tbl := zz_mem 294 (by decide +kernel) rfl
theorem tm_295 : (Jvm.Cond.fieldLink "PillarDesk$Curve" (199 : Nat) "PillarDesk$Plan" "stand" "LPillarDesk$Stand;") ∈ zz_tbl := zz_mem 295 (by decide +kernel) rfl
theorem tm_296 : (Jvm.Cond.lays "PillarDesk$Plan" "PillarDesk$Plan" "first" "I") ∈ zz_tbl := zz_mem 296 (by decide +kernel) rfl
theorem tm_298 : (Jvm.Cond.lays "PillarDesk$Plan" "PillarDesk$Plan" "curve" "I") ∈ zz_tbl := zz_mem 298 (by decide +kernel) rfl
theorem tm_300 : (Jvm.Cond.lays "PillarDesk$Plan" "PillarDesk$Plan" "lines" "I") ∈ zz_tbl := zz_mem 300 (by decide +kernel) rfl
theorem tm_302 : (Jvm.Cond.lays "PillarDesk$Plan" "PillarDesk$Plan" "holidayCount" "I") ∈ zz_tbl := zz_mem 302 (by decide +kernel) rfl
theorem tm_304 : (Jvm.Cond.laysFinal "PillarDesk$Plan" "PillarDesk$Plan" "holidays" "[I") ∈ zz_tbl := zz_mem 304 (by decide +kernel) rfl
theorem tm_306 : (Jvm.Cond.lays "PillarDesk$Plan" "PillarDesk$Plan" "inputCount" "I") ∈ zz_tbl := zz_mem 306 (by decide +kernel) rfl
theorem tm_308 : (Jvm.Cond.laysFinal "PillarDesk$Plan" "PillarDesk$Plan" "kinds" "[I") ∈ zz_tbl := zz_mem 308 (by decide +kernel) rfl
theorem tm_310 : (Jvm.Cond.laysFinal "PillarDesk$Plan" "PillarDesk$Plan" "starts" "[I") ∈ zz_tbl := zz_mem 310 (by decide +kernel) rfl
theorem tm_312 : (Jvm.Cond.laysFinal "PillarDesk$Plan" "PillarDesk$Plan" "ends" "[I") ∈ zz_tbl := zz_mem 312 (by decide +kernel) rfl
theorem tm_314 : (Jvm.Cond.laysFinal "PillarDesk$Plan" "PillarDesk$Plan" "everys" "[I") ∈ zz_tbl := zz_mem 314 (by decide +kernel) rfl
theorem tm_316 : (Jvm.Cond.lays "PillarDesk$Plan" "PillarDesk$Plan" "flowCount" "I") ∈ zz_tbl := zz_mem 316 (by decide +kernel) rfl
theorem tm_318 : (Jvm.Cond.laysFinal "PillarDesk$Plan" "PillarDesk$Plan" "flowDays" "[I") ∈ zz_tbl := zz_mem 318 (by decide +kernel) rfl
theorem tm_320 : (Jvm.Cond.laysFinal "PillarDesk$Plan" "PillarDesk$Plan" "laws" "LPillarDesk$Laws;") ∈ zz_tbl := zz_mem 320 (by decide +kernel) rfl
theorem tm_322 : (Jvm.Cond.laysFinal "PillarDesk$Plan" "PillarDesk$Plan" "stand" "LPillarDesk$Stand;") ∈ zz_tbl := zz_mem 322 (by decide +kernel) rfl
theorem tm_331 : (Jvm.Cond.fieldLink "PillarDesk$Reader" (19 : Nat) "PillarDesk$Reader" "target" "LPillarDesk$Plan;") ∈ zz_tbl := zz_mem 331 (by decide +kernel) rfl
theorem tm_332 : (Jvm.Cond.fieldLink "PillarDesk$Reader" (9 : Nat) "PillarDesk$Reader" "text" "[B") ∈ zz_tbl := zz_mem 332 (by decide +kernel) rfl
theorem tm_333 : (Jvm.Cond.fieldLink "PillarDesk$Reader" (32 : Nat) "PillarDesk$Reader" "length" "I") ∈ zz_tbl := zz_mem 333 (by decide +kernel) rfl
theorem tm_334 : (Jvm.Cond.fieldLink "PillarDesk$Reader" (35 : Nat) "PillarDesk$Reader" "place" "I") ∈ zz_tbl := zz_mem 334 (by decide +kernel) rfl
theorem tm_335 : (Jvm.Cond.fieldLink "PillarDesk$Reader" (52 : Nat) "PillarDesk$Reader" "token" "I") ∈ zz_tbl := zz_mem 335 (by decide +kernel) rfl
theorem tm_336 : (Jvm.Cond.fieldLink "PillarDesk$Reader" (58 : Nat) "PillarDesk$Reader" "tokenPlace" "I") ∈ zz_tbl := zz_mem 336 (by decide +kernel) rfl
theorem tm_337 : (Jvm.Cond.fieldLink "PillarDesk$Reader" (89 : Nat) "PillarDesk$Reader" "tokenValue" "I") ∈ zz_tbl := zz_mem 337 (by decide +kernel) rfl
theorem tm_338 : (Jvm.Cond.fieldLink "PillarDesk$Reader" (38 : Nat) "PillarDesk$Reader" "mistake" "I") ∈ zz_tbl := zz_mem 338 (by decide +kernel) rfl
theorem tm_339 : (Jvm.Cond.fieldLink "PillarDesk" (123 : Nat) "PillarDesk$Reader" "mistake" "I") ∈ zz_tbl := zz_mem 339 (by decide +kernel) rfl
theorem tm_340 : (Jvm.Cond.fieldLink "PillarDesk$Reader" (15 : Nat) "PillarDesk$Reader" "mistakePlace" "I") ∈ zz_tbl := zz_mem 340 (by decide +kernel) rfl
theorem tm_341 : (Jvm.Cond.fieldLink "PillarDesk" (129 : Nat) "PillarDesk$Reader" "mistakePlace" "I") ∈ zz_tbl := zz_mem 341 (by decide +kernel) rfl
theorem tm_342 : (Jvm.Cond.fieldLink "PillarDesk$Reader" (208 : Nat) "PillarDesk$Reader" "ratesLaw" "Z") ∈ zz_tbl := zz_mem 342 (by decide +kernel) rfl
theorem tm_343 : (Jvm.Cond.laysFinal "PillarDesk$Reader" "PillarDesk$Reader" "target" "LPillarDesk$Plan;") ∈ zz_tbl := zz_mem 343 (by decide +kernel) rfl
theorem tm_345 : (Jvm.Cond.lays "PillarDesk$Reader" "PillarDesk$Reader" "text" "[B") ∈ zz_tbl := zz_mem 345 (by decide +kernel) rfl
theorem tm_347 : (Jvm.Cond.lays "PillarDesk$Reader" "PillarDesk$Reader" "length" "I") ∈ zz_tbl := zz_mem 347 (by decide +kernel) rfl
theorem tm_349 : (Jvm.Cond.lays "PillarDesk$Reader" "PillarDesk$Reader" "place" "I") ∈ zz_tbl := zz_mem 349 (by decide +kernel) rfl
theorem tm_351 : (Jvm.Cond.lays "PillarDesk$Reader" "PillarDesk$Reader" "token" "I") ∈ zz_tbl := zz_mem 351 (by decide +kernel) rfl
theorem tm_353 : (Jvm.Cond.lays "PillarDesk$Reader" "PillarDesk$Reader" "tokenPlace" "I") ∈ zz_tbl := zz_mem 353 (by decide +kernel) rfl
theorem tm_355 : (Jvm.Cond.lays "PillarDesk$Reader" "PillarDesk$Reader" "tokenValue" "I") ∈ zz_tbl := zz_mem 355 (by decide +kernel) rfl
theorem tm_357 : (Jvm.Cond.lays "PillarDesk$Reader" "PillarDesk$Reader" "mistake" "I") ∈ zz_tbl := zz_mem 357 (by decide +kernel) rfl
theorem tm_359 : (Jvm.Cond.lays "PillarDesk$Reader" "PillarDesk$Reader" "mistakePlace" "I") ∈ zz_tbl := zz_mem 359 (by decide +kernel) rfl
theorem tm_361 : (Jvm.Cond.lays "PillarDesk$Reader" "PillarDesk$Reader" "ratesLaw" "Z") ∈ zz_tbl := zz_mem 361 (by decide +kernel) rfl
theorem tm_376 : (Jvm.Cond.fieldLink "PillarDesk$Past" (11 : Nat) "PillarDesk$Past" "stands" "[LPillarDesk$Stand;") ∈ zz_tbl := zz_mem 376 (by decide +kernel) rfl
theorem tm_377 : (Jvm.Cond.fieldLink "PillarDesk$Past" (22 : Nat) "PillarDesk$Past" "next" "I") ∈ zz_tbl := zz_mem 377 (by decide +kernel) rfl
theorem tm_378 : (Jvm.Cond.fieldLink "PillarDesk$Past" (18 : Nat) "PillarDesk$Past" "size" "I") ∈ zz_tbl := zz_mem 378 (by decide +kernel) rfl
theorem tm_379 : (Jvm.Cond.fieldLink "PillarDesk" (233 : Nat) "PillarDesk$Past" "size" "I") ∈ zz_tbl := zz_mem 379 (by decide +kernel) rfl
theorem tm_380 : (Jvm.Cond.laysFinal "PillarDesk$Past" "PillarDesk$Past" "stands" "[LPillarDesk$Stand;") ∈ zz_tbl := zz_mem 380 (by decide +kernel) rfl
theorem tm_382 : (Jvm.Cond.lays "PillarDesk$Past" "PillarDesk$Past" "next" "I") ∈ zz_tbl := zz_mem 382 (by decide +kernel) rfl
theorem tm_384 : (Jvm.Cond.lays "PillarDesk$Past" "PillarDesk$Past" "size" "I") ∈ zz_tbl := zz_mem 384 (by decide +kernel) rfl
theorem tm_401 : (Jvm.Cond.fieldLink "PillarDesk$Calendar" (13 : Nat) "PillarDesk$Calendar" "plan" "LPillarDesk$Plan;") ∈ zz_tbl := zz_mem 401 (by decide +kernel) rfl
theorem tm_402 : (Jvm.Cond.fieldLink "PillarDesk$Calendar" (7 : Nat) "PillarDesk$Calendar" "known" "[B") ∈ zz_tbl := zz_mem 402 (by decide +kernel) rfl
theorem tm_403 : (Jvm.Cond.laysFinal "PillarDesk$Calendar" "PillarDesk$Calendar" "plan" "LPillarDesk$Plan;") ∈ zz_tbl := zz_mem 403 (by decide +kernel) rfl
theorem tm_405 : (Jvm.Cond.laysFinal "PillarDesk$Calendar" "PillarDesk$Calendar" "known" "[B") ∈ zz_tbl := zz_mem 405 (by decide +kernel) rfl
theorem tm_408 : (Jvm.Cond.fieldLink "PillarDesk$Schedule" (36 : Nat) "PillarDesk$Schedule" "plan" "LPillarDesk$Plan;") ∈ zz_tbl := zz_mem 408 (by decide +kernel) rfl
theorem tm_409 : (Jvm.Cond.fieldLink "PillarDesk$Schedule" (45 : Nat) "PillarDesk$Schedule" "calendar" "LPillarDesk$Calendar;") ∈ zz_tbl := zz_mem 409 (by decide +kernel) rfl
theorem tm_410 : (Jvm.Cond.fieldLink "PillarDesk" (190 : Nat) "PillarDesk$Schedule" "calendar" "LPillarDesk$Calendar;") ∈ zz_tbl := zz_mem 410 (by decide +kernel) rfl
theorem tm_411 : (Jvm.Cond.fieldLink "PillarDesk$Schedule" (9 : Nat) "PillarDesk$Schedule" "startsOff" "[I") ∈ zz_tbl := zz_mem 411 (by decide +kernel) rfl
theorem tm_412 : (Jvm.Cond.fieldLink "PillarDesk$Hedge" (76 : Nat) "PillarDesk$Schedule" "startsOff" "[I") ∈ zz_tbl := zz_mem 412 (by decide +kernel) rfl
theorem tm_413 : (Jvm.Cond.fieldLink "PillarDesk$Curve" (132 : Nat) "PillarDesk$Schedule" "startsOff" "[I") ∈ zz_tbl := zz_mem 413 (by decide +kernel) rfl
theorem tm_414 : (Jvm.Cond.fieldLink "PillarDesk" (154 : Nat) "PillarDesk$Schedule" "startsOff" "[I") ∈ zz_tbl := zz_mem 414 (by decide +kernel) rfl
theorem tm_415 : (Jvm.Cond.fieldLink "PillarDesk$Schedule" (15 : Nat) "PillarDesk$Schedule" "endsOff" "[I") ∈ zz_tbl := zz_mem 415 (by decide +kernel) rfl
theorem tm_416 : (Jvm.Cond.fieldLink "PillarDesk$Hedge" (57 : Nat) "PillarDesk$Schedule" "endsOff" "[I") ∈ zz_tbl := zz_mem 416 (by decide +kernel) rfl
theorem tm_417 : (Jvm.Cond.fieldLink "PillarDesk" (157 : Nat) "PillarDesk$Schedule" "endsOff" "[I") ∈ zz_tbl := zz_mem 417 (by decide +kernel) rfl
theorem tm_418 : (Jvm.Cond.fieldLink "PillarDesk$Curve" (193 : Nat) "PillarDesk$Schedule" "endsOff" "[I") ∈ zz_tbl := zz_mem 418 (by decide +kernel) rfl
theorem tm_419 : (Jvm.Cond.fieldLink "PillarDesk$Schedule" (18 : Nat) "PillarDesk$Schedule" "periodCounts" "[I") ∈ zz_tbl := zz_mem 419 (by decide +kernel) rfl
theorem tm_420 : (Jvm.Cond.fieldLink "PillarDesk$Hedge" (79 : Nat) "PillarDesk$Schedule" "periodCounts" "[I") ∈ zz_tbl := zz_mem 420 (by decide +kernel) rfl
theorem tm_421 : (Jvm.Cond.fieldLink "PillarDesk$Curve" (151 : Nat) "PillarDesk$Schedule" "periodCounts" "[I") ∈ zz_tbl := zz_mem 421 (by decide +kernel) rfl
theorem tm_422 : (Jvm.Cond.fieldLink "PillarDesk" (203 : Nat) "PillarDesk$Schedule" "periodCounts" "[I") ∈ zz_tbl := zz_mem 422 (by decide +kernel) rfl
theorem tm_423 : (Jvm.Cond.fieldLink "PillarDesk$Schedule" (21 : Nat) "PillarDesk$Schedule" "periodEnds" "[I") ∈ zz_tbl := zz_mem 423 (by decide +kernel) rfl
theorem tm_424 : (Jvm.Cond.fieldLink "PillarDesk$Schedule" (24 : Nat) "PillarDesk$Schedule" "madeBy" "[I") ∈ zz_tbl := zz_mem 424 (by decide +kernel) rfl
theorem tm_425 : (Jvm.Cond.fieldLink "PillarDesk" (176 : Nat) "PillarDesk$Schedule" "madeBy" "[I") ∈ zz_tbl := zz_mem 425 (by decide +kernel) rfl
theorem tm_426 : (Jvm.Cond.fieldLink "PillarDesk$Schedule" (27 : Nat) "PillarDesk$Schedule" "order" "[I") ∈ zz_tbl := zz_mem 426 (by decide +kernel) rfl
theorem tm_427 : (Jvm.Cond.fieldLink "PillarDesk$Hedge" (88 : Nat) "PillarDesk$Schedule" "pillarCount" "I") ∈ zz_tbl := zz_mem 427 (by decide +kernel) rfl
theorem tm_428 : (Jvm.Cond.fieldLink "PillarDesk$Schedule" (90 : Nat) "PillarDesk$Schedule" "pillarCount" "I") ∈ zz_tbl := zz_mem 428 (by decide +kernel) rfl
theorem tm_429 : (Jvm.Cond.fieldLink "PillarDesk$Curve" (95 : Nat) "PillarDesk$Schedule" "pillarCount" "I") ∈ zz_tbl := zz_mem 429 (by decide +kernel) rfl
theorem tm_430 : (Jvm.Cond.fieldLink "PillarDesk" (302 : Nat) "PillarDesk$Schedule" "pillarCount" "I") ∈ zz_tbl := zz_mem 430 (by decide +kernel) rfl
theorem tm_431 : (Jvm.Cond.fieldLink "PillarDesk$Schedule" (30 : Nat) "PillarDesk$Schedule" "pillarDays" "[I") ∈ zz_tbl := zz_mem 431 (by decide +kernel) rfl
theorem tm_432 : (Jvm.Cond.fieldLink "PillarDesk$Curve" (102 : Nat) "PillarDesk$Schedule" "pillarDays" "[I") ∈ zz_tbl := zz_mem 432 (by decide +kernel) rfl
theorem tm_433 : (Jvm.Cond.fieldLink "PillarDesk" (308 : Nat) "PillarDesk$Schedule" "pillarDays" "[I") ∈ zz_tbl := zz_mem 433 (by decide +kernel) rfl
theorem tm_434 : (Jvm.Cond.fieldLink "PillarDesk$Schedule" (33 : Nat) "PillarDesk$Schedule" "pillarInputs" "[I") ∈ zz_tbl := zz_mem 434 (by decide +kernel) rfl
theorem tm_435 : (Jvm.Cond.fieldLink "PillarDesk$Curve" (111 : Nat) "PillarDesk$Schedule" "pillarInputs" "[I") ∈ zz_tbl := zz_mem 435 (by decide +kernel) rfl
theorem tm_436 : (Jvm.Cond.fieldLink "PillarDesk$Hedge" (101 : Nat) "PillarDesk$Schedule" "pillarInputs" "[I") ∈ zz_tbl := zz_mem 436 (by decide +kernel) rfl
theorem tm_437 : (Jvm.Cond.fieldLink "PillarDesk" (314 : Nat) "PillarDesk$Schedule" "pillarInputs" "[I") ∈ zz_tbl := zz_mem 437 (by decide +kernel) rfl
theorem tm_438 : (Jvm.Cond.laysFinal "PillarDesk$Schedule" "PillarDesk$Schedule" "plan" "LPillarDesk$Plan;") ∈ zz_tbl := zz_mem 438 (by decide +kernel) rfl
theorem tm_440 : (Jvm.Cond.laysFinal "PillarDesk$Schedule" "PillarDesk$Schedule" "calendar" "LPillarDesk$Calendar;") ∈ zz_tbl := zz_mem 440 (by decide +kernel) rfl
theorem tm_442 : (Jvm.Cond.laysFinal "PillarDesk$Schedule" "PillarDesk$Schedule" "startsOff" "[I") ∈ zz_tbl := zz_mem 442 (by decide +kernel) rfl
theorem tm_444 : (Jvm.Cond.laysFinal "PillarDesk$Schedule" "PillarDesk$Schedule" "endsOff" "[I") ∈ zz_tbl := zz_mem 444 (by decide +kernel) rfl
theorem tm_446 : (Jvm.Cond.laysFinal "PillarDesk$Schedule" "PillarDesk$Schedule" "periodCounts" "[I") ∈ zz_tbl := zz_mem 446 (by decide +kernel) rfl
theorem tm_448 : (Jvm.Cond.laysFinal "PillarDesk$Schedule" "PillarDesk$Schedule" "periodEnds" "[I") ∈ zz_tbl := zz_mem 448 (by decide +kernel) rfl
theorem tm_450 : (Jvm.Cond.laysFinal "PillarDesk$Schedule" "PillarDesk$Schedule" "madeBy" "[I") ∈ zz_tbl := zz_mem 450 (by decide +kernel) rfl
theorem tm_452 : (Jvm.Cond.laysFinal "PillarDesk$Schedule" "PillarDesk$Schedule" "order" "[I") ∈ zz_tbl := zz_mem 452 (by decide +kernel) rfl
theorem tm_454 : (Jvm.Cond.lays "PillarDesk$Schedule" "PillarDesk$Schedule" "pillarCount" "I") ∈ zz_tbl := zz_mem 454 (by decide +kernel) rfl
theorem tm_456 : (Jvm.Cond.laysFinal "PillarDesk$Schedule" "PillarDesk$Schedule" "pillarDays" "[I") ∈ zz_tbl := zz_mem 456 (by decide +kernel) rfl
theorem tm_458 : (Jvm.Cond.laysFinal "PillarDesk$Schedule" "PillarDesk$Schedule" "pillarInputs" "[I") ∈ zz_tbl := zz_mem 458 (by decide +kernel) rfl
theorem tm_467 : (Jvm.Cond.fieldLink "PillarDesk$Curve" (25 : Nat) "PillarDesk$Curve" "plan" "LPillarDesk$Plan;") ∈ zz_tbl := zz_mem 467 (by decide +kernel) rfl
theorem tm_468 : (Jvm.Cond.fieldLink "PillarDesk$Curve" (29 : Nat) "PillarDesk$Curve" "dates" "LPillarDesk$Schedule;") ∈ zz_tbl := zz_mem 468 (by decide +kernel) rfl
theorem tm_469 : (Jvm.Cond.fieldLink "PillarDesk$Curve" (9 : Nat) "PillarDesk$Curve" "counted" "[I") ∈ zz_tbl := zz_mem 469 (by decide +kernel) rfl
theorem tm_470 : (Jvm.Cond.fieldLink "PillarDesk$Hedge" (67 : Nat) "PillarDesk$Curve" "counted" "[I") ∈ zz_tbl := zz_mem 470 (by decide +kernel) rfl
theorem tm_471 : (Jvm.Cond.fieldLink "PillarDesk$Odds" (60 : Nat) "PillarDesk$Curve" "counted" "[I") ∈ zz_tbl := zz_mem 471 (by decide +kernel) rfl
theorem tm_472 : (Jvm.Cond.fieldLink "PillarDesk" (170 : Nat) "PillarDesk$Curve" "counted" "[I") ∈ zz_tbl := zz_mem 472 (by decide +kernel) rfl
theorem tm_473 : (Jvm.Cond.fieldLink "PillarDesk$Curve" (15 : Nat) "PillarDesk$Curve" "factors" "[I") ∈ zz_tbl := zz_mem 473 (by decide +kernel) rfl
theorem tm_474 : (Jvm.Cond.fieldLink "PillarDesk" (311 : Nat) "PillarDesk$Curve" "factors" "[I") ∈ zz_tbl := zz_mem 474 (by decide +kernel) rfl
theorem tm_475 : (Jvm.Cond.fieldLink "PillarDesk$Curve" (18 : Nat) "PillarDesk$Curve" "movingDues" "[J") ∈ zz_tbl := zz_mem 475 (by decide +kernel) rfl
theorem tm_476 : (Jvm.Cond.fieldLink "PillarDesk$Curve" (22 : Nat) "PillarDesk$Curve" "movingDays" "[I") ∈ zz_tbl := zz_mem 476 (by decide +kernel) rfl
theorem tm_477 : (Jvm.Cond.fieldLink "PillarDesk$Curve" (108 : Nat) "PillarDesk$Curve" "movingCount" "I") ∈ zz_tbl := zz_mem 477 (by decide +kernel) rfl
theorem tm_478 : (Jvm.Cond.fieldLink "PillarDesk$Curve" (137 : Nat) "PillarDesk$Curve" "own" "J") ∈ zz_tbl := zz_mem 478 (by decide +kernel) rfl
theorem tm_479 : (Jvm.Cond.fieldLink "PillarDesk$Curve" (140 : Nat) "PillarDesk$Curve" "limit" "J") ∈ zz_tbl := zz_mem 479 (by decide +kernel) rfl
theorem tm_480 : (Jvm.Cond.fieldLink "PillarDesk$Curve" (98 : Nat) "PillarDesk$Curve" "anchor" "J") ∈ zz_tbl := zz_mem 480 (by decide +kernel) rfl
theorem tm_481 : (Jvm.Cond.fieldLink "PillarDesk$Curve" (105 : Nat) "PillarDesk$Curve" "span" "I") ∈ zz_tbl := zz_mem 481 (by decide +kernel) rfl
theorem tm_482 : (Jvm.Cond.laysFinal "PillarDesk$Curve" "PillarDesk$Curve" "plan" "LPillarDesk$Plan;") ∈ zz_tbl := zz_mem 482 (by decide +kernel) rfl
theorem tm_484 : (Jvm.Cond.laysFinal "PillarDesk$Curve" "PillarDesk$Curve" "dates" "LPillarDesk$Schedule;") ∈ zz_tbl := zz_mem 484 (by decide +kernel) rfl
theorem tm_486 : (Jvm.Cond.laysFinal "PillarDesk$Curve" "PillarDesk$Curve" "counted" "[I") ∈ zz_tbl := zz_mem 486 (by decide +kernel) rfl
theorem tm_488 : (Jvm.Cond.laysFinal "PillarDesk$Curve" "PillarDesk$Curve" "factors" "[I") ∈ zz_tbl := zz_mem 488 (by decide +kernel) rfl
theorem tm_490 : (Jvm.Cond.laysFinal "PillarDesk$Curve" "PillarDesk$Curve" "movingDues" "[J") ∈ zz_tbl := zz_mem 490 (by decide +kernel) rfl
theorem tm_492 : (Jvm.Cond.laysFinal "PillarDesk$Curve" "PillarDesk$Curve" "movingDays" "[I") ∈ zz_tbl := zz_mem 492 (by decide +kernel) rfl
theorem tm_494 : (Jvm.Cond.lays "PillarDesk$Curve" "PillarDesk$Curve" "movingCount" "I") ∈ zz_tbl := zz_mem 494 (by decide +kernel) rfl
theorem tm_496 : (Jvm.Cond.lays "PillarDesk$Curve" "PillarDesk$Curve" "own" "J") ∈ zz_tbl := zz_mem 496 (by decide +kernel) rfl
theorem tm_498 : (Jvm.Cond.lays "PillarDesk$Curve" "PillarDesk$Curve" "limit" "J") ∈ zz_tbl := zz_mem 498 (by decide +kernel) rfl
theorem tm_500 : (Jvm.Cond.lays "PillarDesk$Curve" "PillarDesk$Curve" "anchor" "J") ∈ zz_tbl := zz_mem 500 (by decide +kernel) rfl
theorem tm_502 : (Jvm.Cond.lays "PillarDesk$Curve" "PillarDesk$Curve" "span" "I") ∈ zz_tbl := zz_mem 502 (by decide +kernel) rfl
theorem tm_512 : (Jvm.Cond.fieldLink "PillarDesk$Hedge" (18 : Nat) "PillarDesk$Hedge" "plan" "LPillarDesk$Plan;") ∈ zz_tbl := zz_mem 512 (by decide +kernel) rfl
theorem tm_513 : (Jvm.Cond.fieldLink "PillarDesk$Hedge" (22 : Nat) "PillarDesk$Hedge" "dates" "LPillarDesk$Schedule;") ∈ zz_tbl := zz_mem 513 (by decide +kernel) rfl
theorem tm_514 : (Jvm.Cond.fieldLink "PillarDesk$Hedge" (26 : Nat) "PillarDesk$Hedge" "curve" "LPillarDesk$Curve;") ∈ zz_tbl := zz_mem 514 (by decide +kernel) rfl
theorem tm_515 : (Jvm.Cond.fieldLink "PillarDesk$Hedge" (9 : Nat) "PillarDesk$Hedge" "taken" "[J") ∈ zz_tbl := zz_mem 515 (by decide +kernel) rfl
theorem tm_516 : (Jvm.Cond.fieldLink "PillarDesk" (352 : Nat) "PillarDesk$Hedge" "taken" "[J") ∈ zz_tbl := zz_mem 516 (by decide +kernel) rfl
theorem tm_517 : (Jvm.Cond.fieldLink "PillarDesk$Hedge" (15 : Nat) "PillarDesk$Hedge" "hanging" "[J") ∈ zz_tbl := zz_mem 517 (by decide +kernel) rfl
theorem tm_518 : (Jvm.Cond.fieldLink "PillarDesk" (355 : Nat) "PillarDesk$Hedge" "hanging" "[J") ∈ zz_tbl := zz_mem 518 (by decide +kernel) rfl
theorem tm_519 : (Jvm.Cond.laysFinal "PillarDesk$Hedge" "PillarDesk$Hedge" "plan" "LPillarDesk$Plan;") ∈ zz_tbl := zz_mem 519 (by decide +kernel) rfl
theorem tm_521 : (Jvm.Cond.laysFinal "PillarDesk$Hedge" "PillarDesk$Hedge" "dates" "LPillarDesk$Schedule;") ∈ zz_tbl := zz_mem 521 (by decide +kernel) rfl
theorem tm_523 : (Jvm.Cond.laysFinal "PillarDesk$Hedge" "PillarDesk$Hedge" "curve" "LPillarDesk$Curve;") ∈ zz_tbl := zz_mem 523 (by decide +kernel) rfl
theorem tm_525 : (Jvm.Cond.laysFinal "PillarDesk$Hedge" "PillarDesk$Hedge" "taken" "[J") ∈ zz_tbl := zz_mem 525 (by decide +kernel) rfl
theorem tm_527 : (Jvm.Cond.laysFinal "PillarDesk$Hedge" "PillarDesk$Hedge" "hanging" "[J") ∈ zz_tbl := zz_mem 527 (by decide +kernel) rfl
theorem tm_536 : (Jvm.Cond.fieldLink "PillarDesk$Odds" (15 : Nat) "PillarDesk$Odds" "plan" "LPillarDesk$Plan;") ∈ zz_tbl := zz_mem 536 (by decide +kernel) rfl
theorem tm_537 : (Jvm.Cond.fieldLink "PillarDesk$Odds" (19 : Nat) "PillarDesk$Odds" "now" "LPillarDesk$Curve;") ∈ zz_tbl := zz_mem 537 (by decide +kernel) rfl
theorem tm_538 : (Jvm.Cond.fieldLink "PillarDesk$Odds" (23 : Nat) "PillarDesk$Odds" "trial" "LPillarDesk$Curve;") ∈ zz_tbl := zz_mem 538 (by decide +kernel) rfl
theorem tm_539 : (Jvm.Cond.fieldLink "PillarDesk$Odds" (9 : Nat) "PillarDesk$Odds" "draws" "[I") ∈ zz_tbl := zz_mem 539 (by decide +kernel) rfl
theorem tm_540 : (Jvm.Cond.fieldLink "PillarDesk$Odds" (26 : Nat) "PillarDesk$Odds" "waysBelow" "J") ∈ zz_tbl := zz_mem 540 (by decide +kernel) rfl
theorem tm_541 : (Jvm.Cond.fieldLink "PillarDesk" (386 : Nat) "PillarDesk$Odds" "waysBelow" "J") ∈ zz_tbl := zz_mem 541 (by decide +kernel) rfl
theorem tm_542 : (Jvm.Cond.fieldLink "PillarDesk$Odds" (30 : Nat) "PillarDesk$Odds" "waysInAll" "J") ∈ zz_tbl := zz_mem 542 (by decide +kernel) rfl
theorem tm_543 : (Jvm.Cond.fieldLink "PillarDesk" (390 : Nat) "PillarDesk$Odds" "waysInAll" "J") ∈ zz_tbl := zz_mem 543 (by decide +kernel) rfl
theorem tm_544 : (Jvm.Cond.fieldLink "PillarDesk$Odds" (33 : Nat) "PillarDesk$Odds" "worthSum" "J") ∈ zz_tbl := zz_mem 544 (by decide +kernel) rfl
theorem tm_545 : (Jvm.Cond.fieldLink "PillarDesk" (397 : Nat) "PillarDesk$Odds" "worthSum" "J") ∈ zz_tbl := zz_mem 545 (by decide +kernel) rfl
theorem tm_546 : (Jvm.Cond.laysFinal "PillarDesk$Odds" "PillarDesk$Odds" "plan" "LPillarDesk$Plan;") ∈ zz_tbl := zz_mem 546 (by decide +kernel) rfl
theorem tm_548 : (Jvm.Cond.laysFinal "PillarDesk$Odds" "PillarDesk$Odds" "now" "LPillarDesk$Curve;") ∈ zz_tbl := zz_mem 548 (by decide +kernel) rfl
theorem tm_550 : (Jvm.Cond.laysFinal "PillarDesk$Odds" "PillarDesk$Odds" "trial" "LPillarDesk$Curve;") ∈ zz_tbl := zz_mem 550 (by decide +kernel) rfl
theorem tm_552 : (Jvm.Cond.laysFinal "PillarDesk$Odds" "PillarDesk$Odds" "draws" "[I") ∈ zz_tbl := zz_mem 552 (by decide +kernel) rfl
theorem tm_554 : (Jvm.Cond.lays "PillarDesk$Odds" "PillarDesk$Odds" "waysBelow" "J") ∈ zz_tbl := zz_mem 554 (by decide +kernel) rfl
theorem tm_556 : (Jvm.Cond.lays "PillarDesk$Odds" "PillarDesk$Odds" "waysInAll" "J") ∈ zz_tbl := zz_mem 556 (by decide +kernel) rfl
theorem tm_558 : (Jvm.Cond.lays "PillarDesk$Odds" "PillarDesk$Odds" "worthSum" "J") ∈ zz_tbl := zz_mem 558 (by decide +kernel) rfl
theorem tm_566 : (Jvm.Cond.fieldLink "PillarDesk$Tray" (9 : Nat) "PillarDesk$Tray" "values" "[J") ∈ zz_tbl := zz_mem 566 (by decide +kernel) rfl
theorem tm_567 : (Jvm.Cond.fieldLink "PillarDesk" (252 : Nat) "PillarDesk$Tray" "values" "[J") ∈ zz_tbl := zz_mem 567 (by decide +kernel) rfl
theorem tm_568 : (Jvm.Cond.fieldLink "PillarDesk$Tray" (19 : Nat) "PillarDesk$Tray" "sort" "I") ∈ zz_tbl := zz_mem 568 (by decide +kernel) rfl
theorem tm_569 : (Jvm.Cond.fieldLink "PillarDesk$Tray" (15 : Nat) "PillarDesk$Tray" "size" "I") ∈ zz_tbl := zz_mem 569 (by decide +kernel) rfl
theorem tm_570 : (Jvm.Cond.fieldLink "PillarDesk" (251 : Nat) "PillarDesk$Tray" "size" "I") ∈ zz_tbl := zz_mem 570 (by decide +kernel) rfl
theorem tm_571 : (Jvm.Cond.laysFinal "PillarDesk$Tray" "PillarDesk$Tray" "values" "[J") ∈ zz_tbl := zz_mem 571 (by decide +kernel) rfl
theorem tm_573 : (Jvm.Cond.lays "PillarDesk$Tray" "PillarDesk$Tray" "sort" "I") ∈ zz_tbl := zz_mem 573 (by decide +kernel) rfl
theorem tm_575 : (Jvm.Cond.lays "PillarDesk$Tray" "PillarDesk$Tray" "size" "I") ∈ zz_tbl := zz_mem 575 (by decide +kernel) rfl
theorem tm_578 : (Jvm.Cond.methodLink "PillarDesk" (109 : Nat) ({ cls := "PillarDesk$Schedule", name := "lay", desc := "()V" } : Jvm.MethodName)) ∈ zz_tbl := zz_mem 578 (by decide +kernel) rfl
theorem tm_579 : (Jvm.Cond.instanceMethod ({ cls := "PillarDesk$Schedule", name := "lay", desc := "()V" } : Jvm.MethodName)) ∈ zz_tbl := zz_mem 579 (by decide +kernel) rfl
theorem tm_580 : (Jvm.Cond.selects "PillarDesk$Schedule" ({ cls := "PillarDesk$Schedule", name := "lay", desc := "()V" } : Jvm.MethodName) ({ cls := "PillarDesk$Schedule", name := "lay", desc := "()V" } : Jvm.MethodName)) ∈ zz_tbl := zz_mem 580 (by decide +kernel) rfl
theorem tm_581 : (Jvm.Cond.code ({ cls := "PillarDesk$Schedule", name := "lay", desc := "()V" } : Jvm.MethodName) prog_10_method_2_code (2 : Nat) (Option.none : Option Jvm.ClassFile.FieldType)) ∈ zz_tbl := zz_mem 581 (by decide +kernel) rfl
theorem tm_582 : (Jvm.Cond.methodLink "PillarDesk$Schedule" (49 : Nat) ({ cls := "PillarDesk$Calendar", name := "forget", desc := "()V" } : Jvm.MethodName)) ∈ zz_tbl := zz_mem 582 (by decide +kernel) rfl
theorem tm_583 : (Jvm.Cond.instanceMethod ({ cls := "PillarDesk$Calendar", name := "forget", desc := "()V" } : Jvm.MethodName)) ∈ zz_tbl := zz_mem 583 (by decide +kernel) rfl
theorem tm_584 : (Jvm.Cond.selects "PillarDesk$Calendar" ({ cls := "PillarDesk$Calendar", name := "forget", desc := "()V" } : Jvm.MethodName) ({ cls := "PillarDesk$Calendar", name := "forget", desc := "()V" } : Jvm.MethodName)) ∈ zz_tbl := zz_mem 584 (by decide +kernel) rfl
theorem tm_585 : (Jvm.Cond.code ({ cls := "PillarDesk$Calendar", name := "forget", desc := "()V" } : Jvm.MethodName) prog_2_method_2_code (1 : Nat) (Option.none : Option Jvm.ClassFile.FieldType)) ∈ zz_tbl := zz_mem 585 (by decide +kernel) rfl
theorem tm_586 : (Jvm.Cond.methodLink "PillarDesk$Calendar" (17 : Nat) ({ cls := "java/util/Arrays", name := "fill", desc := "([BB)V" } : Jvm.MethodName)) ∈ zz_tbl := zz_mem 586 (by decide +kernel) rfl
theorem tm_587 : (Jvm.Cond.static ({ cls := "java/util/Arrays", name := "fill", desc := "([BB)V" } : Jvm.MethodName)) ∈ zz_tbl := zz_mem 587 (by decide +kernel) rfl
theorem tm_588 : (Jvm.Cond.code ({ cls := "java/util/Arrays", name := "fill", desc := "([BB)V" } : Jvm.MethodName) prog_21_method_109_code (4 : Nat) (Option.none : Option Jvm.ClassFile.FieldType)) ∈ zz_tbl := zz_mem 588 (by decide +kernel) rfl
theorem tm_589 : (Jvm.Cond.methodLink "PillarDesk$Schedule" (64 : Nat) ({ cls := "PillarDesk$Calendar", name := "putOff", desc := "(I)I" } : Jvm.MethodName)) ∈ zz_tbl := zz_mem 589 (by decide +kernel) rfl
theorem tm_590 : (Jvm.Cond.instanceMethod ({ cls := "PillarDesk$Calendar", name := "putOff", desc := "(I)I" } : Jvm.MethodName)) ∈ zz_tbl := zz_mem 590 (by decide +kernel) rfl
theorem tm_591 : (Jvm.Cond.selects "PillarDesk$Calendar" ({ cls := "PillarDesk$Calendar", name := "putOff", desc := "(I)I" } : Jvm.MethodName) ({ cls := "PillarDesk$Calendar", name := "putOff", desc := "(I)I" } : Jvm.MethodName)) ∈ zz_tbl := zz_mem 591 (by decide +kernel) rfl
theorem tm_592 : (Jvm.Cond.code ({ cls := "PillarDesk$Calendar", name := "putOff", desc := "(I)I" } : Jvm.MethodName) prog_2_method_5_code (3 : Nat) (Option.some Jvm.ClassFile.FieldType.int)) ∈ zz_tbl := zz_mem 592 (by decide +kernel) rfl
theorem tm_593 : (Jvm.Cond.methodLink "PillarDesk$Calendar" (65 : Nat) ({ cls := "PillarDesk$Calendar", name := "isOpen", desc := "(I)Z" } : Jvm.MethodName)) ∈ zz_tbl := zz_mem 593 (by decide +kernel) rfl
theorem tm_594 : (Jvm.Cond.instanceMethod ({ cls := "PillarDesk$Calendar", name := "isOpen", desc := "(I)Z" } : Jvm.MethodName)) ∈ zz_tbl := zz_mem 594 (by decide +kernel) rfl
theorem tm_595 : (Jvm.Cond.selects "PillarDesk$Calendar" ({ cls := "PillarDesk$Calendar", name := "isOpen", desc := "(I)Z" } : Jvm.MethodName) ({ cls := "PillarDesk$Calendar", name := "isOpen", desc := "(I)Z" } : Jvm.MethodName)) ∈ zz_tbl := zz_mem 595 (by decide +kernel) rfl
theorem tm_596 : (Jvm.Cond.code ({ cls := "PillarDesk$Calendar", name := "isOpen", desc := "(I)Z" } : Jvm.MethodName) prog_2_method_3_code (4 : Nat) (Option.some Jvm.ClassFile.FieldType.boolean)) ∈ zz_tbl := zz_mem 596 (by decide +kernel) rfl
theorem tm_597 : (Jvm.Cond.methodLink "PillarDesk$Calendar" (23 : Nat) ({ cls := "PillarDesk$Calendar", name := "isOpenByRule", desc := "(I)Z" } : Jvm.MethodName)) ∈ zz_tbl := zz_mem 597 (by decide +kernel) rfl
theorem tm_599 : (Jvm.Cond.instanceMethod ({ cls := "PillarDesk$Calendar", name := "isOpenByRule", desc := "(I)Z" } : Jvm.MethodName)) ∈ zz_tbl := zz_mem 599 (by decide +kernel) rfl
theorem tm_600 : (Jvm.Cond.code ({ cls := "PillarDesk$Calendar", name := "isOpenByRule", desc := "(I)Z" } : Jvm.MethodName) prog_2_method_4_code (5 : Nat) (Option.some Jvm.ClassFile.FieldType.boolean)) ∈ zz_tbl := zz_mem 600 (by decide +kernel) rfl
theorem tm_601 : (Jvm.Cond.methodLink "PillarDesk$Calendar" (33 : Nat) ({ cls := "java/lang/Math", name := "floorMod", desc := "(II)I" } : Jvm.MethodName)) ∈ zz_tbl := zz_mem 601 (by decide +kernel) rfl
theorem tm_602 : (Jvm.Cond.static ({ cls := "java/lang/Math", name := "floorMod", desc := "(II)I" } : Jvm.MethodName)) ∈ zz_tbl := zz_mem 602 (by decide +kernel) rfl
theorem tm_603 : (Jvm.Cond.code ({ cls := "java/lang/Math", name := "floorMod", desc := "(II)I" } : Jvm.MethodName) prog_16_method_50_code (3 : Nat) (Option.some Jvm.ClassFile.FieldType.int)) ∈ zz_tbl := zz_mem 603 (by decide +kernel) rfl
theorem tm_604 : (Jvm.Cond.methodLink "PillarDesk$Calendar" (39 : Nat) ({ cls := "PillarDesk$Plan", name := "isHoliday", desc := "(I)Z" } : Jvm.MethodName)) ∈ zz_tbl := zz_mem 604 (by decide +kernel) rfl
theorem tm_605 : (Jvm.Cond.instanceMethod ({ cls := "PillarDesk$Plan", name := "isHoliday", desc := "(I)Z" } : Jvm.MethodName)) ∈ zz_tbl := zz_mem 605 (by decide +kernel) rfl
theorem tm_606 : (Jvm.Cond.selects "PillarDesk$Plan" ({ cls := "PillarDesk$Plan", name := "isHoliday", desc := "(I)Z" } : Jvm.MethodName) ({ cls := "PillarDesk$Plan", name := "isHoliday", desc := "(I)Z" } : Jvm.MethodName)) ∈ zz_tbl := zz_mem 606 (by decide +kernel) rfl
theorem tm_607 : (Jvm.Cond.code ({ cls := "PillarDesk$Plan", name := "isHoliday", desc := "(I)Z" } : Jvm.MethodName) prog_8_method_6_code (3 : Nat) (Option.some Jvm.ClassFile.FieldType.boolean)) ∈ zz_tbl := zz_mem 607 (by decide +kernel) rfl
theorem tm_608 : (Jvm.Cond.methodLink "PillarDesk$Calendar" (46 : Nat) ({ cls := "PillarDesk$Laws", name := "hasOpens", desc := "()Z" } : Jvm.MethodName)) ∈ zz_tbl := zz_mem 608 (by decide +kernel) rfl
theorem tm_609 : (Jvm.Cond.instanceMethod ({ cls := "PillarDesk$Laws", name := "hasOpens", desc := "()Z" } : Jvm.MethodName)) ∈ zz_tbl := zz_mem 609 (by decide +kernel) rfl
theorem tm_610 : (Jvm.Cond.selects "PillarDesk$Laws" ({ cls := "PillarDesk$Laws", name := "hasOpens", desc := "()Z" } : Jvm.MethodName) ({ cls := "PillarDesk$Laws", name := "hasOpens", desc := "()Z" } : Jvm.MethodName)) ∈ zz_tbl := zz_mem 610 (by decide +kernel) rfl
theorem tm_611 : (Jvm.Cond.code ({ cls := "PillarDesk$Laws", name := "hasOpens", desc := "()Z" } : Jvm.MethodName) prog_5_method_6_code (1 : Nat) (Option.some Jvm.ClassFile.FieldType.boolean)) ∈ zz_tbl := zz_mem 611 (by decide +kernel) rfl
theorem tm_612 : (Jvm.Cond.methodLink "PillarDesk$Calendar" (62 : Nat) ({ cls := "PillarDesk$Laws", name := "value", desc := "(II)I" } : Jvm.MethodName)) ∈ zz_tbl := zz_mem 612 (by decide +kernel) rfl
theorem tm_613 : (Jvm.Cond.instanceMethod ({ cls := "PillarDesk$Laws", name := "value", desc := "(II)I" } : Jvm.MethodName)) ∈ zz_tbl := zz_mem 613 (by decide +kernel) rfl
theorem tm_614 : (Jvm.Cond.selects "PillarDesk$Laws" ({ cls := "PillarDesk$Laws", name := "value", desc := "(II)I" } : Jvm.MethodName) ({ cls := "PillarDesk$Laws", name := "value", desc := "(II)I" } : Jvm.MethodName)) ∈ zz_tbl := zz_mem 614 (by decide +kernel) rfl
theorem tm_615 : (Jvm.Cond.code ({ cls := "PillarDesk$Laws", name := "value", desc := "(II)I" } : Jvm.MethodName) prog_5_method_7_code (6 : Nat) (Option.some Jvm.ClassFile.FieldType.int)) ∈ zz_tbl := zz_mem 615 (by decide +kernel) rfl
theorem tm_616 : (Jvm.Cond.methodLink "PillarDesk$Laws" (43 : Nat) ({ cls := "java/lang/Math", name := "min", desc := "(II)I" } : Jvm.MethodName)) ∈ zz_tbl := zz_mem 616 (by decide +kernel) rfl
theorem tm_617 : (Jvm.Cond.static ({ cls := "java/lang/Math", name := "min", desc := "(II)I" } : Jvm.MethodName)) ∈ zz_tbl := zz_mem 617 (by decide +kernel) rfl
theorem tm_618 : (Jvm.Cond.code ({ cls := "java/lang/Math", name := "min", desc := "(II)I" } : Jvm.MethodName) prog_16_method_69_code (2 : Nat) (Option.some Jvm.ClassFile.FieldType.int)) ∈ zz_tbl := zz_mem 618 (by decide +kernel) rfl
theorem tm_619 : (Jvm.Cond.methodLink "PillarDesk$Laws" (49 : Nat) ({ cls := "PillarDesk$Laws", name := "joined", desc := "(IJJ)I" } : Jvm.MethodName)) ∈ zz_tbl := zz_mem 619 (by decide +kernel) rfl
theorem tm_620 : (Jvm.Cond.static ({ cls := "PillarDesk$Laws", name := "joined", desc := "(IJJ)I" } : Jvm.MethodName)) ∈ zz_tbl := zz_mem 620 (by decide +kernel) rfl
theorem tm_621 : (Jvm.Cond.code ({ cls := "PillarDesk$Laws", name := "joined", desc := "(IJJ)I" } : Jvm.MethodName) prog_5_method_8_code (7 : Nat) (Option.some Jvm.ClassFile.FieldType.int)) ∈ zz_tbl := zz_mem 621 (by decide +kernel) rfl
theorem tm_622 : (Jvm.Cond.constantLong "PillarDesk$Laws" (53 : Nat) (1000000 : Int64)) ∈ zz_tbl := zz_mem 622 (by decide +kernel) rfl
theorem tm_623 : (Jvm.Cond.constantLong "PillarDesk$Laws" (55 : Nat) (-1000000 : Int64)) ∈ zz_tbl := zz_mem 623 (by decide +kernel) rfl
theorem tm_624 : (Jvm.Cond.methodLink "PillarDesk$Schedule" (71 : Nat) ({ cls := "PillarDesk$Schedule", name := "layPeriods", desc := "(I)V" } : Jvm.MethodName)) ∈ zz_tbl := zz_mem 624 (by decide +kernel) rfl
theorem tm_626 : (Jvm.Cond.instanceMethod ({ cls := "PillarDesk$Schedule", name := "layPeriods", desc := "(I)V" } : Jvm.MethodName)) ∈ zz_tbl := zz_mem 626 (by decide +kernel) rfl
theorem tm_627 : (Jvm.Cond.code ({ cls := "PillarDesk$Schedule", name := "layPeriods", desc := "(I)V" } : Jvm.MethodName) prog_10_method_3_code (5 : Nat) (Option.none : Option Jvm.ClassFile.FieldType)) ∈ zz_tbl := zz_mem 627 (by decide +kernel) rfl
theorem tm_628 : (Jvm.Cond.methodLink "PillarDesk$Schedule" (84 : Nat) ({ cls := "java/lang/Math", name := "min", desc := "(II)I" } : Jvm.MethodName)) ∈ zz_tbl := zz_mem 628 (by decide +kernel) rfl
theorem tm_629 : (Jvm.Cond.methodLink "PillarDesk$Schedule" (75 : Nat) ({ cls := "PillarDesk$Schedule", name := "sortByEnds", desc := "()V" } : Jvm.MethodName)) ∈ zz_tbl := zz_mem 629 (by decide +kernel) rfl
theorem tm_631 : (Jvm.Cond.instanceMethod ({ cls := "PillarDesk$Schedule", name := "sortByEnds", desc := "()V" } : Jvm.MethodName)) ∈ zz_tbl := zz_mem 631 (by decide +kernel) rfl
theorem tm_632 : (Jvm.Cond.code ({ cls := "PillarDesk$Schedule", name := "sortByEnds", desc := "()V" } : Jvm.MethodName) prog_10_method_4_code (3 : Nat) (Option.none : Option Jvm.ClassFile.FieldType)) ∈ zz_tbl := zz_mem 632 (by decide +kernel) rfl
theorem tm_633 : (Jvm.Cond.methodLink "PillarDesk$Schedule" (78 : Nat) ({ cls := "PillarDesk$Schedule", name := "layPillars", desc := "()V" } : Jvm.MethodName)) ∈ zz_tbl := zz_mem 633 (by decide +kernel) rfl
theorem tm_635 : (Jvm.Cond.instanceMethod ({ cls := "PillarDesk$Schedule", name := "layPillars", desc := "()V" } : Jvm.MethodName)) ∈ zz_tbl := zz_mem 635 (by decide +kernel) rfl
theorem tm_636 : (Jvm.Cond.code ({ cls := "PillarDesk$Schedule", name := "layPillars", desc := "()V" } : Jvm.MethodName) prog_10_method_5_code (4 : Nat) (Option.none : Option Jvm.ClassFile.FieldType)) ∈ zz_tbl := zz_mem 636 (by decide +kernel) rfl
theorem tm_637 : (Jvm.Cond.fieldLink "PillarDesk" (9 : Nat) "PillarDesk" "tape" "[B") ∈ zz_tbl := zz_mem 637 (by decide +kernel) rfl
theorem tm_638 : (Jvm.Cond.fieldLink "PillarDesk" (112 : Nat) "PillarDesk" "tapeLength" "I") ∈ zz_tbl := zz_mem 638 (by decide +kernel) rfl
theorem tm_639 : (Jvm.Cond.fieldLink "PillarDesk" (126 : Nat) "PillarDesk" "lastFault" "I") ∈ zz_tbl := zz_mem 639 (by decide +kernel) rfl
theorem tm_640 : (Jvm.Cond.fieldLink "PillarDesk" (13 : Nat) "PillarDesk" "lastPlace" "I") ∈ zz_tbl := zz_mem 640 (by decide +kernel) rfl
theorem tm_641 : (Jvm.Cond.fieldLink "PillarDesk" (20 : Nat) "PillarDesk" "plan" "LPillarDesk$Plan;") ∈ zz_tbl := zz_mem 641 (by decide +kernel) rfl
theorem tm_642 : (Jvm.Cond.fieldLink "PillarDesk" (24 : Nat) "PillarDesk" "draft" "LPillarDesk$Plan;") ∈ zz_tbl := zz_mem 642 (by decide +kernel) rfl
theorem tm_643 : (Jvm.Cond.fieldLink "PillarDesk" (32 : Nat) "PillarDesk" "reader" "LPillarDesk$Reader;") ∈ zz_tbl := zz_mem 643 (by decide +kernel) rfl
theorem tm_645 : (Jvm.Cond.fieldLink "PillarDesk" (42 : Nat) "PillarDesk" "trays" "[LPillarDesk$Tray;") ∈ zz_tbl := zz_mem 645 (by decide +kernel) rfl
theorem tm_646 : (Jvm.Cond.fieldLink "PillarDesk" (49 : Nat) "PillarDesk" "past" "LPillarDesk$Past;") ∈ zz_tbl := zz_mem 646 (by decide +kernel) rfl
theorem tm_647 : (Jvm.Cond.fieldLink "PillarDesk" (56 : Nat) "PillarDesk" "before" "LPillarDesk$Stand;") ∈ zz_tbl := zz_mem 647 (by decide +kernel) rfl
theorem tm_648 : (Jvm.Cond.fieldLink "PillarDesk" (60 : Nat) "PillarDesk" "tried" "LPillarDesk$Stand;") ∈ zz_tbl := zz_mem 648 (by decide +kernel) rfl
theorem tm_649 : (Jvm.Cond.fieldLink "PillarDesk" (66 : Nat) "PillarDesk" "dates" "LPillarDesk$Schedule;") ∈ zz_tbl := zz_mem 649 (by decide +kernel) rfl
theorem tm_650 : (Jvm.Cond.fieldLink "PillarDesk" (75 : Nat) "PillarDesk" "now" "LPillarDesk$Curve;") ∈ zz_tbl := zz_mem 650 (by decide +kernel) rfl
theorem tm_651 : (Jvm.Cond.fieldLink "PillarDesk" (79 : Nat) "PillarDesk" "trial" "LPillarDesk$Curve;") ∈ zz_tbl := zz_mem 651 (by decide +kernel) rfl
theorem tm_652 : (Jvm.Cond.fieldLink "PillarDesk" (87 : Nat) "PillarDesk" "hedge" "LPillarDesk$Hedge;") ∈ zz_tbl := zz_mem 652 (by decide +kernel) rfl
theorem tm_653 : (Jvm.Cond.fieldLink "PillarDesk" (96 : Nat) "PillarDesk" "odds" "LPillarDesk$Odds;") ∈ zz_tbl := zz_mem 653 (by decide +kernel) rfl
theorem tm_654 : (Jvm.Cond.fieldLink "PillarDesk" (100 : Nat) "PillarDesk" "told" "[I") ∈ zz_tbl := zz_mem 654 (by decide +kernel) rfl
theorem tm_655 : (Jvm.Cond.fieldLink "PillarDesk" (104 : Nat) "PillarDesk" "stale" "Z") ∈ zz_tbl := zz_mem 655 (by decide +kernel) rfl
theorem tm_656 : (Jvm.Cond.fieldLink "PillarDesk" (278 : Nat) "PillarDesk" "seedNow" "I") ∈ zz_tbl := zz_mem 656 (by decide +kernel) rfl
theorem tm_657 : (Jvm.Cond.laysFinal "PillarDesk" "PillarDesk" "tape" "[B") ∈ zz_tbl := zz_mem 657 (by decide +kernel) rfl
theorem tm_659 : (Jvm.Cond.lays "PillarDesk" "PillarDesk" "tapeLength" "I") ∈ zz_tbl := zz_mem 659 (by decide +kernel) rfl
theorem tm_661 : (Jvm.Cond.lays "PillarDesk" "PillarDesk" "lastFault" "I") ∈ zz_tbl := zz_mem 661 (by decide +kernel) rfl
theorem tm_663 : (Jvm.Cond.lays "PillarDesk" "PillarDesk" "lastPlace" "I") ∈ zz_tbl := zz_mem 663 (by decide +kernel) rfl
theorem tm_665 : (Jvm.Cond.laysFinal "PillarDesk" "PillarDesk" "plan" "LPillarDesk$Plan;") ∈ zz_tbl := zz_mem 665 (by decide +kernel) rfl
theorem tm_667 : (Jvm.Cond.laysFinal "PillarDesk" "PillarDesk" "draft" "LPillarDesk$Plan;") ∈ zz_tbl := zz_mem 667 (by decide +kernel) rfl
theorem tm_669 : (Jvm.Cond.laysFinal "PillarDesk" "PillarDesk" "reader" "LPillarDesk$Reader;") ∈ zz_tbl := zz_mem 669 (by decide +kernel) rfl
theorem tm_671 : (Jvm.Cond.laysFinal "PillarDesk" "PillarDesk" "images" "[LPillarDesk$Plan;") ∈ zz_tbl := zz_mem 671 (by decide +kernel) rfl
theorem tm_673 : (Jvm.Cond.laysFinal "PillarDesk" "PillarDesk" "trays" "[LPillarDesk$Tray;") ∈ zz_tbl := zz_mem 673 (by decide +kernel) rfl
theorem tm_675 : (Jvm.Cond.laysFinal "PillarDesk" "PillarDesk" "past" "LPillarDesk$Past;") ∈ zz_tbl := zz_mem 675 (by decide +kernel) rfl
theorem tm_677 : (Jvm.Cond.laysFinal "PillarDesk" "PillarDesk" "before" "LPillarDesk$Stand;") ∈ zz_tbl := zz_mem 677 (by decide +kernel) rfl
theorem tm_679 : (Jvm.Cond.laysFinal "PillarDesk" "PillarDesk" "tried" "LPillarDesk$Stand;") ∈ zz_tbl := zz_mem 679 (by decide +kernel) rfl
theorem tm_681 : (Jvm.Cond.laysFinal "PillarDesk" "PillarDesk" "dates" "LPillarDesk$Schedule;") ∈ zz_tbl := zz_mem 681 (by decide +kernel) rfl
theorem tm_683 : (Jvm.Cond.laysFinal "PillarDesk" "PillarDesk" "now" "LPillarDesk$Curve;") ∈ zz_tbl := zz_mem 683 (by decide +kernel) rfl
theorem tm_685 : (Jvm.Cond.laysFinal "PillarDesk" "PillarDesk" "trial" "LPillarDesk$Curve;") ∈ zz_tbl := zz_mem 685 (by decide +kernel) rfl
theorem tm_687 : (Jvm.Cond.laysFinal "PillarDesk" "PillarDesk" "hedge" "LPillarDesk$Hedge;") ∈ zz_tbl := zz_mem 687 (by decide +kernel) rfl
theorem tm_689 : (Jvm.Cond.laysFinal "PillarDesk" "PillarDesk" "odds" "LPillarDesk$Odds;") ∈ zz_tbl := zz_mem 689 (by decide +kernel) rfl
theorem tm_691 : (Jvm.Cond.laysFinal "PillarDesk" "PillarDesk" "told" "[I") ∈ zz_tbl := zz_mem 691 (by decide +kernel) rfl
theorem tm_693 : (Jvm.Cond.lays "PillarDesk" "PillarDesk" "stale" "Z") ∈ zz_tbl := zz_mem 693 (by decide +kernel) rfl
theorem tm_695 : (Jvm.Cond.lays "PillarDesk" "PillarDesk" "seedNow" "I") ∈ zz_tbl := zz_mem 695 (by decide +kernel) rfl
theorem tm_702 : (Jvm.Cond.methodLink "PillarDesk" (115 : Nat) ({ cls := "PillarDesk", name := "feedWord", desc := "(I)V" } : Jvm.MethodName)) ∈ zz_tbl := zz_mem 702 (by decide +kernel) rfl
theorem tm_704 : (Jvm.Cond.instanceMethod ({ cls := "PillarDesk", name := "feedWord", desc := "(I)V" } : Jvm.MethodName)) ∈ zz_tbl := zz_mem 704 (by decide +kernel) rfl
theorem tm_705 : (Jvm.Cond.code ({ cls := "PillarDesk", name := "feedWord", desc := "(I)V" } : Jvm.MethodName) prog_1_method_3_code (3 : Nat) (Option.none : Option Jvm.ClassFile.FieldType)) ∈ zz_tbl := zz_mem 705 (by decide +kernel) rfl
theorem tm_710 : (Jvm.Cond.methodLink "PillarDesk" (119 : Nat) ({ cls := "PillarDesk$Reader", name := "read", desc := "([BI)V" } : Jvm.MethodName)) ∈ zz_tbl := zz_mem 710 (by decide +kernel) rfl
theorem tm_711 : (Jvm.Cond.instanceMethod ({ cls := "PillarDesk$Reader", name := "read", desc := "([BI)V" } : Jvm.MethodName)) ∈ zz_tbl := zz_mem 711 (by decide +kernel) rfl
theorem tm_712 : (Jvm.Cond.selects "PillarDesk$Reader" ({ cls := "PillarDesk$Reader", name := "read", desc := "([BI)V" } : Jvm.MethodName) ({ cls := "PillarDesk$Reader", name := "read", desc := "([BI)V" } : Jvm.MethodName)) ∈ zz_tbl := zz_mem 712 (by decide +kernel) rfl
theorem tm_713 : (Jvm.Cond.code ({ cls := "PillarDesk$Reader", name := "read", desc := "([BI)V" } : Jvm.MethodName) prog_9_method_2_code (4 : Nat) (Option.none : Option Jvm.ClassFile.FieldType)) ∈ zz_tbl := zz_mem 713 (by decide +kernel) rfl
theorem tm_714 : (Jvm.Cond.methodLink "PillarDesk$Reader" (23 : Nat) ({ cls := "java/lang/Math", name := "min", desc := "(II)I" } : Jvm.MethodName)) ∈ zz_tbl := zz_mem 714 (by decide +kernel) rfl
theorem tm_715 : (Jvm.Cond.methodLink "PillarDesk$Reader" (29 : Nat) ({ cls := "java/lang/Math", name := "max", desc := "(II)I" } : Jvm.MethodName)) ∈ zz_tbl := zz_mem 715 (by decide +kernel) rfl
theorem tm_716 : (Jvm.Cond.static ({ cls := "java/lang/Math", name := "max", desc := "(II)I" } : Jvm.MethodName)) ∈ zz_tbl := zz_mem 716 (by decide +kernel) rfl
theorem tm_717 : (Jvm.Cond.code ({ cls := "java/lang/Math", name := "max", desc := "(II)I" } : Jvm.MethodName) prog_16_method_65_code (2 : Nat) (Option.some Jvm.ClassFile.FieldType.int)) ∈ zz_tbl := zz_mem 717 (by decide +kernel) rfl
theorem tm_718 : (Jvm.Cond.methodLink "PillarDesk$Reader" (41 : Nat) ({ cls := "PillarDesk$Plan", name := "clear", desc := "()V" } : Jvm.MethodName)) ∈ zz_tbl := zz_mem 718 (by decide +kernel) rfl
theorem tm_719 : (Jvm.Cond.instanceMethod ({ cls := "PillarDesk$Plan", name := "clear", desc := "()V" } : Jvm.MethodName)) ∈ zz_tbl := zz_mem 719 (by decide +kernel) rfl
theorem tm_720 : (Jvm.Cond.selects "PillarDesk$Plan" ({ cls := "PillarDesk$Plan", name := "clear", desc := "()V" } : Jvm.MethodName) ({ cls := "PillarDesk$Plan", name := "clear", desc := "()V" } : Jvm.MethodName)) ∈ zz_tbl := zz_mem 720 (by decide +kernel) rfl
theorem tm_721 : (Jvm.Cond.code ({ cls := "PillarDesk$Plan", name := "clear", desc := "()V" } : Jvm.MethodName) prog_8_method_2_code (1 : Nat) (Option.none : Option Jvm.ClassFile.FieldType)) ∈ zz_tbl := zz_mem 721 (by decide +kernel) rfl
theorem tm_722 : (Jvm.Cond.methodLink "PillarDesk$Plan" (63 : Nat) ({ cls := "PillarDesk$Laws", name := "clear", desc := "()V" } : Jvm.MethodName)) ∈ zz_tbl := zz_mem 722 (by decide +kernel) rfl
theorem tm_723 : (Jvm.Cond.instanceMethod ({ cls := "PillarDesk$Laws", name := "clear", desc := "()V" } : Jvm.MethodName)) ∈ zz_tbl := zz_mem 723 (by decide +kernel) rfl
theorem tm_724 : (Jvm.Cond.selects "PillarDesk$Laws" ({ cls := "PillarDesk$Laws", name := "clear", desc := "()V" } : Jvm.MethodName) ({ cls := "PillarDesk$Laws", name := "clear", desc := "()V" } : Jvm.MethodName)) ∈ zz_tbl := zz_mem 724 (by decide +kernel) rfl
theorem tm_725 : (Jvm.Cond.code ({ cls := "PillarDesk$Laws", name := "clear", desc := "()V" } : Jvm.MethodName) prog_5_method_2_code (1 : Nat) (Option.none : Option Jvm.ClassFile.FieldType)) ∈ zz_tbl := zz_mem 725 (by decide +kernel) rfl
theorem tm_726 : (Jvm.Cond.methodLink "PillarDesk$Reader" (46 : Nat) ({ cls := "PillarDesk$Reader", name := "next", desc := "()V" } : Jvm.MethodName)) ∈ zz_tbl := zz_mem 726 (by decide +kernel) rfl
theorem tm_728 : (Jvm.Cond.instanceMethod ({ cls := "PillarDesk$Reader", name := "next", desc := "()V" } : Jvm.MethodName)) ∈ zz_tbl := zz_mem 728 (by decide +kernel) rfl
theorem tm_729 : (Jvm.Cond.code ({ cls := "PillarDesk$Reader", name := "next", desc := "()V" } : Jvm.MethodName) prog_9_method_5_code (2 : Nat) (Option.none : Option Jvm.ClassFile.FieldType)) ∈ zz_tbl := zz_mem 729 (by decide +kernel) rfl
theorem tm_730 : (Jvm.Cond.methodLink "PillarDesk$Reader" (61 : Nat) ({ cls := "PillarDesk$Reader", name := "byteAt", desc := "(I)I" } : Jvm.MethodName)) ∈ zz_tbl := zz_mem 730 (by decide +kernel) rfl
theorem tm_732 : (Jvm.Cond.instanceMethod ({ cls := "PillarDesk$Reader", name := "byteAt", desc := "(I)I" } : Jvm.MethodName)) ∈ zz_tbl := zz_mem 732 (by decide +kernel) rfl
theorem tm_733 : (Jvm.Cond.code ({ cls := "PillarDesk$Reader", name := "byteAt", desc := "(I)I" } : Jvm.MethodName) prog_9_method_4_code (2 : Nat) (Option.some Jvm.ClassFile.FieldType.int)) ∈ zz_tbl := zz_mem 733 (by decide +kernel) rfl
theorem tm_734 : (Jvm.Cond.methodLink "PillarDesk$Reader" (65 : Nat) ({ cls := "PillarDesk$Reader", name := "isLetter", desc := "(I)Z" } : Jvm.MethodName)) ∈ zz_tbl := zz_mem 734 (by decide +kernel) rfl
theorem tm_735 : (Jvm.Cond.static ({ cls := "PillarDesk$Reader", name := "isLetter", desc := "(I)Z" } : Jvm.MethodName)) ∈ zz_tbl := zz_mem 735 (by decide +kernel) rfl
theorem tm_736 : (Jvm.Cond.code ({ cls := "PillarDesk$Reader", name := "isLetter", desc := "(I)Z" } : Jvm.MethodName) prog_9_method_6_code (1 : Nat) (Option.some Jvm.ClassFile.FieldType.boolean)) ∈ zz_tbl := zz_mem 736 (by decide +kernel) rfl
theorem tm_737 : (Jvm.Cond.methodLink "PillarDesk$Reader" (69 : Nat) ({ cls := "PillarDesk$Reader", name := "nextWord", desc := "()V" } : Jvm.MethodName)) ∈ zz_tbl := zz_mem 737 (by decide +kernel) rfl
theorem tm_739 : (Jvm.Cond.instanceMethod ({ cls := "PillarDesk$Reader", name := "nextWord", desc := "()V" } : Jvm.MethodName)) ∈ zz_tbl := zz_mem 739 (by decide +kernel) rfl
theorem tm_740 : (Jvm.Cond.code ({ cls := "PillarDesk$Reader", name := "nextWord", desc := "()V" } : Jvm.MethodName) prog_9_method_8_code (1 : Nat) (Option.none : Option Jvm.ClassFile.FieldType)) ∈ zz_tbl := zz_mem 740 (by decide +kernel) rfl
theorem tm_741 : (Jvm.Cond.methodLink "PillarDesk$Reader" (72 : Nat) ({ cls := "PillarDesk$Reader", name := "isDigit", desc := "(I)Z" } : Jvm.MethodName)) ∈ zz_tbl := zz_mem 741 (by decide +kernel) rfl
theorem tm_742 : (Jvm.Cond.static ({ cls := "PillarDesk$Reader", name := "isDigit", desc := "(I)Z" } : Jvm.MethodName)) ∈ zz_tbl := zz_mem 742 (by decide +kernel) rfl
theorem tm_743 : (Jvm.Cond.code ({ cls := "PillarDesk$Reader", name := "isDigit", desc := "(I)Z" } : Jvm.MethodName) prog_9_method_7_code (1 : Nat) (Option.some Jvm.ClassFile.FieldType.boolean)) ∈ zz_tbl := zz_mem 743 (by decide +kernel) rfl
theorem tm_744 : (Jvm.Cond.methodLink "PillarDesk$Reader" (75 : Nat) ({ cls := "PillarDesk$Reader", name := "nextNumber", desc := "()V" } : Jvm.MethodName)) ∈ zz_tbl := zz_mem 744 (by decide +kernel) rfl
theorem tm_746 : (Jvm.Cond.instanceMethod ({ cls := "PillarDesk$Reader", name := "nextNumber", desc := "()V" } : Jvm.MethodName)) ∈ zz_tbl := zz_mem 746 (by decide +kernel) rfl
theorem tm_747 : (Jvm.Cond.code ({ cls := "PillarDesk$Reader", name := "nextNumber", desc := "()V" } : Jvm.MethodName) prog_9_method_9_code (1 : Nat) (Option.none : Option Jvm.ClassFile.FieldType)) ∈ zz_tbl := zz_mem 747 (by decide +kernel) rfl
theorem tm_748 : (Jvm.Cond.methodLink "PillarDesk$Reader" (85 : Nat) ({ cls := "PillarDesk$Reader", name := "fail", desc := "(I)V" } : Jvm.MethodName)) ∈ zz_tbl := zz_mem 748 (by decide +kernel) rfl
theorem tm_750 : (Jvm.Cond.instanceMethod ({ cls := "PillarDesk$Reader", name := "fail", desc := "(I)V" } : Jvm.MethodName)) ∈ zz_tbl := zz_mem 750 (by decide +kernel) rfl
theorem tm_751 : (Jvm.Cond.code ({ cls := "PillarDesk$Reader", name := "fail", desc := "(I)V" } : Jvm.MethodName) prog_9_method_3_code (2 : Nat) (Option.none : Option Jvm.ClassFile.FieldType)) ∈ zz_tbl := zz_mem 751 (by decide +kernel) rfl
theorem tm_753 : (Jvm.Cond.methodLink "PillarDesk$Reader" (80 : Nat) ({ cls := "java/lang/String", name := "indexOf", desc := "(I)I" } : Jvm.MethodName)) ∈ zz_tbl := zz_mem 753 (by decide +kernel) rfl
theorem tm_754 : (Jvm.Cond.instanceMethod ({ cls := "java/lang/String", name := "indexOf", desc := "(I)I" } : Jvm.MethodName)) ∈ zz_tbl := zz_mem 754 (by decide +kernel) rfl
theorem tm_755 : (Jvm.Cond.selects "java/lang/String" ({ cls := "java/lang/String", name := "indexOf", desc := "(I)I" } : Jvm.MethodName) ({ cls := "java/lang/String", name := "indexOf", desc := "(I)I" } : Jvm.MethodName)) ∈ zz_tbl := zz_mem 755 (by decide +kernel) rfl
theorem tm_756 : (Jvm.Cond.code ({ cls := "java/lang/String", name := "indexOf", desc := "(I)I" } : Jvm.MethodName) prog_17_method_79_code (2 : Nat) (Option.some Jvm.ClassFile.FieldType.int)) ∈ zz_tbl := zz_mem 756 (by decide +kernel) rfl
theorem tm_757 : (Jvm.Cond.methodLink "java/lang/String" (633 : Nat) ({ cls := "java/lang/String", name := "indexOf", desc := "(II)I" } : Jvm.MethodName)) ∈ zz_tbl := zz_mem 757 (by decide +kernel) rfl
theorem tm_758 : (Jvm.Cond.instanceMethod ({ cls := "java/lang/String", name := "indexOf", desc := "(II)I" } : Jvm.MethodName)) ∈ zz_tbl := zz_mem 758 (by decide +kernel) rfl
theorem tm_759 : (Jvm.Cond.selects "java/lang/String" ({ cls := "java/lang/String", name := "indexOf", desc := "(II)I" } : Jvm.MethodName) ({ cls := "java/lang/String", name := "indexOf", desc := "(II)I" } : Jvm.MethodName)) ∈ zz_tbl := zz_mem 759 (by decide +kernel) rfl
theorem tm_760 : (Jvm.Cond.code ({ cls := "java/lang/String", name := "indexOf", desc := "(II)I" } : Jvm.MethodName) prog_17_method_80_code (3 : Nat) (Option.some Jvm.ClassFile.FieldType.int)) ∈ zz_tbl := zz_mem 760 (by decide +kernel) rfl
theorem tm_761 : (Jvm.Cond.methodLink "java/lang/String" (492 : Nat) ({ cls := "java/lang/String", name := "isLatin1", desc := "()Z" } : Jvm.MethodName)) ∈ zz_tbl := zz_mem 761 (by decide +kernel) rfl
theorem tm_762 : (Jvm.Cond.instanceMethod ({ cls := "java/lang/String", name := "isLatin1", desc := "()Z" } : Jvm.MethodName)) ∈ zz_tbl := zz_mem 762 (by decide +kernel) rfl
theorem tm_763 : (Jvm.Cond.selects "java/lang/String" ({ cls := "java/lang/String", name := "isLatin1", desc := "()Z" } : Jvm.MethodName) ({ cls := "java/lang/String", name := "isLatin1", desc := "()Z" } : Jvm.MethodName)) ∈ zz_tbl := zz_mem 763 (by decide +kernel) rfl
theorem tm_764 : (Jvm.Cond.code ({ cls := "java/lang/String", name := "isLatin1", desc := "()Z" } : Jvm.MethodName) prog_17_method_154_code (1 : Nat) (Option.some Jvm.ClassFile.FieldType.boolean)) ∈ zz_tbl := zz_mem 764 (by decide +kernel) rfl
theorem tm_765 : (Jvm.Cond.fieldLink "java/lang/String" (38 : Nat) "java/lang/String" "COMPACT_STRINGS" "Z") ∈ zz_tbl := zz_mem 765 (by decide +kernel) rfl
theorem tm_767 : (Jvm.Cond.methodLink "java/lang/String" (505 : Nat) ({ cls := "java/lang/String", name := "length", desc := "()I" } : Jvm.MethodName)) ∈ zz_tbl := zz_mem 767 (by decide +kernel) rfl
theorem tm_768 : (Jvm.Cond.instanceMethod ({ cls := "java/lang/String", name := "length", desc := "()I" } : Jvm.MethodName)) ∈ zz_tbl := zz_mem 768 (by decide +kernel) rfl
theorem tm_769 : (Jvm.Cond.selects "java/lang/String" ({ cls := "java/lang/String", name := "length", desc := "()I" } : Jvm.MethodName) ({ cls := "java/lang/String", name := "length", desc := "()I" } : Jvm.MethodName)) ∈ zz_tbl := zz_mem 769 (by decide +kernel) rfl
theorem tm_770 : (Jvm.Cond.code ({ cls := "java/lang/String", name := "length", desc := "()I" } : Jvm.MethodName) prog_17_method_54_code (1 : Nat) (Option.some Jvm.ClassFile.FieldType.int)) ∈ zz_tbl := zz_mem 770 (by decide +kernel) rfl
theorem tm_771 : (Jvm.Cond.methodLink "java/lang/String" (335 : Nat) ({ cls := "java/lang/String", name := "coder", desc := "()B" } : Jvm.MethodName)) ∈ zz_tbl := zz_mem 771 (by decide +kernel) rfl
theorem tm_772 : (Jvm.Cond.instanceMethod ({ cls := "java/lang/String", name := "coder", desc := "()B" } : Jvm.MethodName)) ∈ zz_tbl := zz_mem 772 (by decide +kernel) rfl
theorem tm_773 : (Jvm.Cond.selects "java/lang/String" ({ cls := "java/lang/String", name := "coder", desc := "()B" } : Jvm.MethodName) ({ cls := "java/lang/String", name := "coder", desc := "()B" } : Jvm.MethodName)) ∈ zz_tbl := zz_mem 773 (by decide +kernel) rfl
theorem tm_774 : (Jvm.Cond.code ({ cls := "java/lang/String", name := "coder", desc := "()B" } : Jvm.MethodName) prog_17_method_152_code (1 : Nat) (Option.some Jvm.ClassFile.FieldType.byte)) ∈ zz_tbl := zz_mem 774 (by decide +kernel) rfl
theorem tm_775 : (Jvm.Cond.methodLink "java/lang/String" (637 : Nat) ({ cls := "java/lang/StringLatin1", name := "indexOf", desc := "([BIII)I" } : Jvm.MethodName)) ∈ zz_tbl := zz_mem 775 (by decide +kernel) rfl
theorem tm_776 : (Jvm.Cond.static ({ cls := "java/lang/StringLatin1", name := "indexOf", desc := "([BIII)I" } : Jvm.MethodName)) ∈ zz_tbl := zz_mem 776 (by decide +kernel) rfl
theorem tm_777 : (Jvm.Cond.code ({ cls := "java/lang/StringLatin1", name := "indexOf", desc := "([BIII)I" } : Jvm.MethodName) prog_18_method_22_code (4 : Nat) (Option.some Jvm.ClassFile.FieldType.int)) ∈ zz_tbl := zz_mem 777 (by decide +kernel) rfl
theorem tm_778 : (Jvm.Cond.methodLink "java/lang/StringLatin1" (88 : Nat) ({ cls := "java/lang/StringLatin1", name := "canEncode", desc := "(I)Z" } : Jvm.MethodName)) ∈ zz_tbl := zz_mem 778 (by decide +kernel) rfl
theorem tm_779 : (Jvm.Cond.static ({ cls := "java/lang/StringLatin1", name := "canEncode", desc := "(I)Z" } : Jvm.MethodName)) ∈ zz_tbl := zz_mem 779 (by decide +kernel) rfl
theorem tm_780 : (Jvm.Cond.code ({ cls := "java/lang/StringLatin1", name := "canEncode", desc := "(I)Z" } : Jvm.MethodName) prog_18_method_4_code (1 : Nat) (Option.some Jvm.ClassFile.FieldType.boolean)) ∈ zz_tbl := zz_mem 780 (by decide +kernel) rfl
theorem tm_781 : (Jvm.Cond.methodLink "java/lang/StringLatin1" (92 : Nat) ({ cls := "java/lang/Math", name := "max", desc := "(II)I" } : Jvm.MethodName)) ∈ zz_tbl := zz_mem 781 (by decide +kernel) rfl
theorem tm_782 : (Jvm.Cond.methodLink "java/lang/StringLatin1" (38 : Nat) ({ cls := "java/lang/Math", name := "min", desc := "(II)I" } : Jvm.MethodName)) ∈ zz_tbl := zz_mem 782 (by decide +kernel) rfl
theorem tm_783 : (Jvm.Cond.methodLink "java/lang/StringLatin1" (95 : Nat) ({ cls := "java/lang/StringLatin1", name := "indexOfChar", desc := "([BIII)I" } : Jvm.MethodName)) ∈ zz_tbl := zz_mem 783 (by decide +kernel) rfl
theorem tm_784 : (Jvm.Cond.static ({ cls := "java/lang/StringLatin1", name := "indexOfChar", desc := "([BIII)I" } : Jvm.MethodName)) ∈ zz_tbl := zz_mem 784 (by decide +kernel) rfl
theorem tm_785 : (Jvm.Cond.code ({ cls := "java/lang/StringLatin1", name := "indexOfChar", desc := "([BIII)I" } : Jvm.MethodName) prog_18_method_23_code (6 : Nat) (Option.some Jvm.ClassFile.FieldType.int)) ∈ zz_tbl := zz_mem 785 (by decide +kernel) rfl
theorem tm_804 : (Jvm.Cond.fieldLink "java/lang/String" (1053 : Nat) "jdk/internal/util/Preconditions" "SIOOBE_FORMATTER" "Ljava/util/function/BiFunction;") ∈ zz_tbl := zz_mem 804 (by decide +kernel) rfl
theorem tm_835 : (Jvm.Cond.methodLink "PillarDesk$Reader" (49 : Nat) ({ cls := "PillarDesk$Reader", name := "readHead", desc := "()V" } : Jvm.MethodName)) ∈ zz_tbl := zz_mem 835 (by decide +kernel) rfl
theorem tm_837 : (Jvm.Cond.instanceMethod ({ cls := "PillarDesk$Reader", name := "readHead", desc := "()V" } : Jvm.MethodName)) ∈ zz_tbl := zz_mem 837 (by decide +kernel) rfl
theorem tm_838 : (Jvm.Cond.code ({ cls := "PillarDesk$Reader", name := "readHead", desc := "()V" } : Jvm.MethodName) prog_9_method_14_code (1 : Nat) (Option.none : Option Jvm.ClassFile.FieldType)) ∈ zz_tbl := zz_mem 838 (by decide +kernel) rfl
theorem tm_840 : (Jvm.Cond.methodLink "PillarDesk$Reader" (105 : Nat) ({ cls := "PillarDesk$Reader", name := "takeWord", desc := "(Ljava/lang/String;)V" } : Jvm.MethodName)) ∈ zz_tbl := zz_mem 840 (by decide +kernel) rfl
theorem tm_842 : (Jvm.Cond.instanceMethod ({ cls := "PillarDesk$Reader", name := "takeWord", desc := "(Ljava/lang/String;)V" } : Jvm.MethodName)) ∈ zz_tbl := zz_mem 842 (by decide +kernel) rfl
theorem tm_843 : (Jvm.Cond.code ({ cls := "PillarDesk$Reader", name := "takeWord", desc := "(Ljava/lang/String;)V" } : Jvm.MethodName) prog_9_method_11_code (2 : Nat) (Option.none : Option Jvm.ClassFile.FieldType)) ∈ zz_tbl := zz_mem 843 (by decide +kernel) rfl
theorem tm_844 : (Jvm.Cond.methodLink "PillarDesk$Reader" (99 : Nat) ({ cls := "PillarDesk$Reader", name := "isWord", desc := "(Ljava/lang/String;)Z" } : Jvm.MethodName)) ∈ zz_tbl := zz_mem 844 (by decide +kernel) rfl
theorem tm_846 : (Jvm.Cond.instanceMethod ({ cls := "PillarDesk$Reader", name := "isWord", desc := "(Ljava/lang/String;)Z" } : Jvm.MethodName)) ∈ zz_tbl := zz_mem 846 (by decide +kernel) rfl
theorem tm_847 : (Jvm.Cond.code ({ cls := "PillarDesk$Reader", name := "isWord", desc := "(Ljava/lang/String;)Z" } : Jvm.MethodName) prog_9_method_10_code (3 : Nat) (Option.some Jvm.ClassFile.FieldType.boolean)) ∈ zz_tbl := zz_mem 847 (by decide +kernel) rfl
theorem tm_848 : (Jvm.Cond.methodLink "PillarDesk$Reader" (92 : Nat) ({ cls := "java/lang/String", name := "length", desc := "()I" } : Jvm.MethodName)) ∈ zz_tbl := zz_mem 848 (by decide +kernel) rfl
theorem tm_849 : (Jvm.Cond.methodLink "PillarDesk$Reader" (95 : Nat) ({ cls := "java/lang/String", name := "charAt", desc := "(I)C" } : Jvm.MethodName)) ∈ zz_tbl := zz_mem 849 (by decide +kernel) rfl
theorem tm_850 : (Jvm.Cond.instanceMethod ({ cls := "java/lang/String", name := "charAt", desc := "(I)C" } : Jvm.MethodName)) ∈ zz_tbl := zz_mem 850 (by decide +kernel) rfl
theorem tm_851 : (Jvm.Cond.selects "java/lang/String" ({ cls := "java/lang/String", name := "charAt", desc := "(I)C" } : Jvm.MethodName) ({ cls := "java/lang/String", name := "charAt", desc := "(I)C" } : Jvm.MethodName)) ∈ zz_tbl := zz_mem 851 (by decide +kernel) rfl
theorem tm_852 : (Jvm.Cond.code ({ cls := "java/lang/String", name := "charAt", desc := "(I)C" } : Jvm.MethodName) prog_17_method_56_code (2 : Nat) (Option.some Jvm.ClassFile.FieldType.char)) ∈ zz_tbl := zz_mem 852 (by decide +kernel) rfl
theorem tm_853 : (Jvm.Cond.methodLink "java/lang/String" (495 : Nat) ({ cls := "java/lang/StringLatin1", name := "charAt", desc := "([BI)C" } : Jvm.MethodName)) ∈ zz_tbl := zz_mem 853 (by decide +kernel) rfl
theorem tm_854 : (Jvm.Cond.static ({ cls := "java/lang/StringLatin1", name := "charAt", desc := "([BI)C" } : Jvm.MethodName)) ∈ zz_tbl := zz_mem 854 (by decide +kernel) rfl
theorem tm_855 : (Jvm.Cond.code ({ cls := "java/lang/StringLatin1", name := "charAt", desc := "([BI)C" } : Jvm.MethodName) prog_18_method_2_code (2 : Nat) (Option.some Jvm.ClassFile.FieldType.char)) ∈ zz_tbl := zz_mem 855 (by decide +kernel) rfl
theorem tm_856 : (Jvm.Cond.methodLink "java/lang/StringLatin1" (9 : Nat) ({ cls := "java/lang/String", name := "checkIndex", desc := "(II)V" } : Jvm.MethodName)) ∈ zz_tbl := zz_mem 856 (by decide +kernel) rfl
theorem tm_857 : (Jvm.Cond.static ({ cls := "java/lang/String", name := "checkIndex", desc := "(II)V" } : Jvm.MethodName)) ∈ zz_tbl := zz_mem 857 (by decide +kernel) rfl
theorem tm_858 : (Jvm.Cond.code ({ cls := "java/lang/String", name := "checkIndex", desc := "(II)V" } : Jvm.MethodName) prog_17_method_155_code (2 : Nat) (Option.none : Option Jvm.ClassFile.FieldType)) ∈ zz_tbl := zz_mem 858 (by decide +kernel) rfl
theorem tm_859 : (Jvm.Cond.methodLink "java/lang/String" (1059 : Nat) ({ cls := "jdk/internal/util/Preconditions", name := "checkIndex", desc := "(IILjava/util/function/BiFunction;)I" } : Jvm.MethodName)) ∈ zz_tbl := zz_mem 859 (by decide +kernel) rfl
theorem tm_860 : (Jvm.Cond.static ({ cls := "jdk/internal/util/Preconditions", name := "checkIndex", desc := "(IILjava/util/function/BiFunction;)I" } : Jvm.MethodName)) ∈ zz_tbl := zz_mem 860 (by decide +kernel) rfl
theorem tm_861 : (Jvm.Cond.code ({ cls := "jdk/internal/util/Preconditions", name := "checkIndex", desc := "(IILjava/util/function/BiFunction;)I" } : Jvm.MethodName) prog_22_method_11_code (3 : Nat) (Option.some Jvm.ClassFile.FieldType.int)) ∈ zz_tbl := zz_mem 861 (by decide +kernel) rfl
theorem tm_870 : (Jvm.Cond.methodLink "PillarDesk$Reader" (111 : Nat) ({ cls := "PillarDesk$Reader", name := "takeNumber", desc := "(II)I" } : Jvm.MethodName)) ∈ zz_tbl := zz_mem 870 (by decide +kernel) rfl
theorem tm_872 : (Jvm.Cond.instanceMethod ({ cls := "PillarDesk$Reader", name := "takeNumber", desc := "(II)I" } : Jvm.MethodName)) ∈ zz_tbl := zz_mem 872 (by decide +kernel) rfl
theorem tm_873 : (Jvm.Cond.code ({ cls := "PillarDesk$Reader", name := "takeNumber", desc := "(II)I" } : Jvm.MethodName) prog_9_method_13_code (4 : Nat) (Option.some Jvm.ClassFile.FieldType.int)) ∈ zz_tbl := zz_mem 873 (by decide +kernel) rfl
theorem tm_876 : (Jvm.Cond.methodLink "PillarDesk$Reader" (131 : Nat) ({ cls := "PillarDesk$Reader", name := "takeSign", desc := "(C)V" } : Jvm.MethodName)) ∈ zz_tbl := zz_mem 876 (by decide +kernel) rfl
theorem tm_878 : (Jvm.Cond.instanceMethod ({ cls := "PillarDesk$Reader", name := "takeSign", desc := "(C)V" } : Jvm.MethodName)) ∈ zz_tbl := zz_mem 878 (by decide +kernel) rfl
theorem tm_879 : (Jvm.Cond.code ({ cls := "PillarDesk$Reader", name := "takeSign", desc := "(C)V" } : Jvm.MethodName) prog_9_method_12_code (2 : Nat) (Option.none : Option Jvm.ClassFile.FieldType)) ∈ zz_tbl := zz_mem 879 (by decide +kernel) rfl
theorem tm_880 : (Jvm.Cond.methodLink "PillarDesk$Reader" (55 : Nat) ({ cls := "PillarDesk$Reader", name := "readLine", desc := "()V" } : Jvm.MethodName)) ∈ zz_tbl := zz_mem 880 (by decide +kernel) rfl
theorem tm_882 : (Jvm.Cond.instanceMethod ({ cls := "PillarDesk$Reader", name := "readLine", desc := "()V" } : Jvm.MethodName)) ∈ zz_tbl := zz_mem 882 (by decide +kernel) rfl
theorem tm_883 : (Jvm.Cond.code ({ cls := "PillarDesk$Reader", name := "readLine", desc := "()V" } : Jvm.MethodName) prog_9_method_15_code (1 : Nat) (Option.none : Option Jvm.ClassFile.FieldType)) ∈ zz_tbl := zz_mem 883 (by decide +kernel) rfl
theorem tm_885 : (Jvm.Cond.methodLink "PillarDesk$Reader" (140 : Nat) ({ cls := "PillarDesk$Reader", name := "readHoliday", desc := "()V" } : Jvm.MethodName)) ∈ zz_tbl := zz_mem 885 (by decide +kernel) rfl
theorem tm_887 : (Jvm.Cond.instanceMethod ({ cls := "PillarDesk$Reader", name := "readHoliday", desc := "()V" } : Jvm.MethodName)) ∈ zz_tbl := zz_mem 887 (by decide +kernel) rfl
theorem tm_888 : (Jvm.Cond.code ({ cls := "PillarDesk$Reader", name := "readHoliday", desc := "()V" } : Jvm.MethodName) prog_9_method_16_code (2 : Nat) (Option.none : Option Jvm.ClassFile.FieldType)) ∈ zz_tbl := zz_mem 888 (by decide +kernel) rfl
theorem tm_890 : (Jvm.Cond.methodLink "PillarDesk$Reader" (145 : Nat) ({ cls := "PillarDesk$Reader", name := "readInput", desc := "(I)V" } : Jvm.MethodName)) ∈ zz_tbl := zz_mem 890 (by decide +kernel) rfl
theorem tm_892 : (Jvm.Cond.instanceMethod ({ cls := "PillarDesk$Reader", name := "readInput", desc := "(I)V" } : Jvm.MethodName)) ∈ zz_tbl := zz_mem 892 (by decide +kernel) rfl
theorem tm_893 : (Jvm.Cond.code ({ cls := "PillarDesk$Reader", name := "readInput", desc := "(I)V" } : Jvm.MethodName) prog_9_method_17_code (3 : Nat) (Option.none : Option Jvm.ClassFile.FieldType)) ∈ zz_tbl := zz_mem 893 (by decide +kernel) rfl
theorem tm_899 : (Jvm.Cond.methodLink "PillarDesk$Reader" (154 : Nat) ({ cls := "PillarDesk$Reader", name := "readFlow", desc := "()V" } : Jvm.MethodName)) ∈ zz_tbl := zz_mem 899 (by decide +kernel) rfl
theorem tm_901 : (Jvm.Cond.instanceMethod ({ cls := "PillarDesk$Reader", name := "readFlow", desc := "()V" } : Jvm.MethodName)) ∈ zz_tbl := zz_mem 901 (by decide +kernel) rfl
theorem tm_902 : (Jvm.Cond.code ({ cls := "PillarDesk$Reader", name := "readFlow", desc := "()V" } : Jvm.MethodName) prog_9_method_18_code (4 : Nat) (Option.none : Option Jvm.ClassFile.FieldType)) ∈ zz_tbl := zz_mem 902 (by decide +kernel) rfl
theorem tm_906 : (Jvm.Cond.methodLink "PillarDesk$Reader" (159 : Nat) ({ cls := "PillarDesk$Reader", name := "readRates", desc := "()V" } : Jvm.MethodName)) ∈ zz_tbl := zz_mem 906 (by decide +kernel) rfl
theorem tm_908 : (Jvm.Cond.instanceMethod ({ cls := "PillarDesk$Reader", name := "readRates", desc := "()V" } : Jvm.MethodName)) ∈ zz_tbl := zz_mem 908 (by decide +kernel) rfl
theorem tm_909 : (Jvm.Cond.code ({ cls := "PillarDesk$Reader", name := "readRates", desc := "()V" } : Jvm.MethodName) prog_9_method_19_code (1 : Nat) (Option.none : Option Jvm.ClassFile.FieldType)) ∈ zz_tbl := zz_mem 909 (by decide +kernel) rfl
theorem tm_910 : (Jvm.Cond.methodLink "PillarDesk$Reader" (222 : Nat) ({ cls := "PillarDesk$Reader", name := "readSum", desc := "(I)V" } : Jvm.MethodName)) ∈ zz_tbl := zz_mem 910 (by decide +kernel) rfl
theorem tm_912 : (Jvm.Cond.instanceMethod ({ cls := "PillarDesk$Reader", name := "readSum", desc := "(I)V" } : Jvm.MethodName)) ∈ zz_tbl := zz_mem 912 (by decide +kernel) rfl
theorem tm_913 : (Jvm.Cond.code ({ cls := "PillarDesk$Reader", name := "readSum", desc := "(I)V" } : Jvm.MethodName) prog_9_method_21_code (4 : Nat) (Option.none : Option Jvm.ClassFile.FieldType)) ∈ zz_tbl := zz_mem 913 (by decide +kernel) rfl
theorem tm_914 : (Jvm.Cond.methodLink "PillarDesk$Reader" (237 : Nat) ({ cls := "PillarDesk$Reader", name := "readTerm", desc := "(I)V" } : Jvm.MethodName)) ∈ zz_tbl := zz_mem 914 (by decide +kernel) rfl
theorem tm_916 : (Jvm.Cond.instanceMethod ({ cls := "PillarDesk$Reader", name := "readTerm", desc := "(I)V" } : Jvm.MethodName)) ∈ zz_tbl := zz_mem 916 (by decide +kernel) rfl
theorem tm_917 : (Jvm.Cond.code ({ cls := "PillarDesk$Reader", name := "readTerm", desc := "(I)V" } : Jvm.MethodName) prog_9_method_22_code (3 : Nat) (Option.none : Option Jvm.ClassFile.FieldType)) ∈ zz_tbl := zz_mem 917 (by decide +kernel) rfl
theorem tm_918 : (Jvm.Cond.methodLink "PillarDesk$Reader" (243 : Nat) ({ cls := "PillarDesk$Reader", name := "readAtom", desc := "(I)V" } : Jvm.MethodName)) ∈ zz_tbl := zz_mem 918 (by decide +kernel) rfl
theorem tm_920 : (Jvm.Cond.instanceMethod ({ cls := "PillarDesk$Reader", name := "readAtom", desc := "(I)V" } : Jvm.MethodName)) ∈ zz_tbl := zz_mem 920 (by decide +kernel) rfl
theorem tm_921 : (Jvm.Cond.code ({ cls := "PillarDesk$Reader", name := "readAtom", desc := "(I)V" } : Jvm.MethodName) prog_9_method_23_code (2 : Nat) (Option.none : Option Jvm.ClassFile.FieldType)) ∈ zz_tbl := zz_mem 921 (by decide +kernel) rfl
theorem tm_922 : (Jvm.Cond.methodLink "PillarDesk$Reader" (240 : Nat) ({ cls := "PillarDesk$Laws", name := "add", desc := "(I)V" } : Jvm.MethodName)) ∈ zz_tbl := zz_mem 922 (by decide +kernel) rfl
theorem tm_923 : (Jvm.Cond.instanceMethod ({ cls := "PillarDesk$Laws", name := "add", desc := "(I)V" } : Jvm.MethodName)) ∈ zz_tbl := zz_mem 923 (by decide +kernel) rfl
theorem tm_924 : (Jvm.Cond.selects "PillarDesk$Laws" ({ cls := "PillarDesk$Laws", name := "add", desc := "(I)V" } : Jvm.MethodName) ({ cls := "PillarDesk$Laws", name := "add", desc := "(I)V" } : Jvm.MethodName)) ∈ zz_tbl := zz_mem 924 (by decide +kernel) rfl
theorem tm_925 : (Jvm.Cond.code ({ cls := "PillarDesk$Laws", name := "add", desc := "(I)V" } : Jvm.MethodName) prog_5_method_4_code (2 : Nat) (Option.none : Option Jvm.ClassFile.FieldType)) ∈ zz_tbl := zz_mem 925 (by decide +kernel) rfl
theorem tm_926 : (Jvm.Cond.methodLink "PillarDesk$Reader" (246 : Nat) ({ cls := "PillarDesk$Reader", name := "goDeeper", desc := "(I)V" } : Jvm.MethodName)) ∈ zz_tbl := zz_mem 926 (by decide +kernel) rfl
theorem tm_928 : (Jvm.Cond.instanceMethod ({ cls := "PillarDesk$Reader", name := "goDeeper", desc := "(I)V" } : Jvm.MethodName)) ∈ zz_tbl := zz_mem 928 (by decide +kernel) rfl
theorem tm_929 : (Jvm.Cond.code ({ cls := "PillarDesk$Reader", name := "goDeeper", desc := "(I)V" } : Jvm.MethodName) prog_9_method_24_code (2 : Nat) (Option.none : Option Jvm.ClassFile.FieldType)) ∈ zz_tbl := zz_mem 929 (by decide +kernel) rfl
theorem tm_931 : (Jvm.Cond.methodLink "PillarDesk$Reader" (251 : Nat) ({ cls := "PillarDesk$Reader", name := "readChoice", desc := "(I)V" } : Jvm.MethodName)) ∈ zz_tbl := zz_mem 931 (by decide +kernel) rfl
theorem tm_933 : (Jvm.Cond.instanceMethod ({ cls := "PillarDesk$Reader", name := "readChoice", desc := "(I)V" } : Jvm.MethodName)) ∈ zz_tbl := zz_mem 933 (by decide +kernel) rfl
theorem tm_934 : (Jvm.Cond.code ({ cls := "PillarDesk$Reader", name := "readChoice", desc := "(I)V" } : Jvm.MethodName) prog_9_method_25_code (2 : Nat) (Option.none : Option Jvm.ClassFile.FieldType)) ∈ zz_tbl := zz_mem 934 (by decide +kernel) rfl
theorem tm_935 : (Jvm.Cond.methodLink "PillarDesk$Reader" (231 : Nat) ({ cls := "PillarDesk$Reader", name := "readTruth", desc := "(I)V" } : Jvm.MethodName)) ∈ zz_tbl := zz_mem 935 (by decide +kernel) rfl
theorem tm_937 : (Jvm.Cond.instanceMethod ({ cls := "PillarDesk$Reader", name := "readTruth", desc := "(I)V" } : Jvm.MethodName)) ∈ zz_tbl := zz_mem 937 (by decide +kernel) rfl
theorem tm_938 : (Jvm.Cond.code ({ cls := "PillarDesk$Reader", name := "readTruth", desc := "(I)V" } : Jvm.MethodName) prog_9_method_29_code (3 : Nat) (Option.none : Option Jvm.ClassFile.FieldType)) ∈ zz_tbl := zz_mem 938 (by decide +kernel) rfl
theorem tm_939 : (Jvm.Cond.methodLink "PillarDesk$Reader" (281 : Nat) ({ cls := "PillarDesk$Reader", name := "readBoth", desc := "(I)V" } : Jvm.MethodName)) ∈ zz_tbl := zz_mem 939 (by decide +kernel) rfl
theorem tm_941 : (Jvm.Cond.instanceMethod ({ cls := "PillarDesk$Reader", name := "readBoth", desc := "(I)V" } : Jvm.MethodName)) ∈ zz_tbl := zz_mem 941 (by decide +kernel) rfl
theorem tm_942 : (Jvm.Cond.code ({ cls := "PillarDesk$Reader", name := "readBoth", desc := "(I)V" } : Jvm.MethodName) prog_9_method_30_code (3 : Nat) (Option.none : Option Jvm.ClassFile.FieldType)) ∈ zz_tbl := zz_mem 942 (by decide +kernel) rfl
theorem tm_943 : (Jvm.Cond.methodLink "PillarDesk$Reader" (286 : Nat) ({ cls := "PillarDesk$Reader", name := "readUnit", desc := "(I)V" } : Jvm.MethodName)) ∈ zz_tbl := zz_mem 943 (by decide +kernel) rfl
theorem tm_945 : (Jvm.Cond.instanceMethod ({ cls := "PillarDesk$Reader", name := "readUnit", desc := "(I)V" } : Jvm.MethodName)) ∈ zz_tbl := zz_mem 945 (by decide +kernel) rfl
theorem tm_946 : (Jvm.Cond.code ({ cls := "PillarDesk$Reader", name := "readUnit", desc := "(I)V" } : Jvm.MethodName) prog_9_method_31_code (2 : Nat) (Option.none : Option Jvm.ClassFile.FieldType)) ∈ zz_tbl := zz_mem 946 (by decide +kernel) rfl
theorem tm_948 : (Jvm.Cond.methodLink "PillarDesk$Reader" (293 : Nat) ({ cls := "PillarDesk$Reader", name := "readComparison", desc := "(I)V" } : Jvm.MethodName)) ∈ zz_tbl := zz_mem 948 (by decide +kernel) rfl
theorem tm_950 : (Jvm.Cond.instanceMethod ({ cls := "PillarDesk$Reader", name := "readComparison", desc := "(I)V" } : Jvm.MethodName)) ∈ zz_tbl := zz_mem 950 (by decide +kernel) rfl
theorem tm_951 : (Jvm.Cond.code ({ cls := "PillarDesk$Reader", name := "readComparison", desc := "(I)V" } : Jvm.MethodName) prog_9_method_32_code (3 : Nat) (Option.none : Option Jvm.ClassFile.FieldType)) ∈ zz_tbl := zz_mem 951 (by decide +kernel) rfl
theorem tm_957 : (Jvm.Cond.methodLink "PillarDesk$Reader" (254 : Nat) ({ cls := "PillarDesk$Reader", name := "readVariable", desc := "()V" } : Jvm.MethodName)) ∈ zz_tbl := zz_mem 957 (by decide +kernel) rfl
theorem tm_959 : (Jvm.Cond.instanceMethod ({ cls := "PillarDesk$Reader", name := "readVariable", desc := "()V" } : Jvm.MethodName)) ∈ zz_tbl := zz_mem 959 (by decide +kernel) rfl
theorem tm_960 : (Jvm.Cond.code ({ cls := "PillarDesk$Reader", name := "readVariable", desc := "()V" } : Jvm.MethodName) prog_9_method_26_code (2 : Nat) (Option.none : Option Jvm.ClassFile.FieldType)) ∈ zz_tbl := zz_mem 960 (by decide +kernel) rfl
theorem tm_961 : (Jvm.Cond.methodLink "PillarDesk$Reader" (263 : Nat) ({ cls := "PillarDesk$Reader", name := "ratesVariable", desc := "()I" } : Jvm.MethodName)) ∈ zz_tbl := zz_mem 961 (by decide +kernel) rfl
theorem tm_963 : (Jvm.Cond.instanceMethod ({ cls := "PillarDesk$Reader", name := "ratesVariable", desc := "()I" } : Jvm.MethodName)) ∈ zz_tbl := zz_mem 963 (by decide +kernel) rfl
theorem tm_964 : (Jvm.Cond.code ({ cls := "PillarDesk$Reader", name := "ratesVariable", desc := "()I" } : Jvm.MethodName) prog_9_method_27_code (1 : Nat) (Option.some Jvm.ClassFile.FieldType.int)) ∈ zz_tbl := zz_mem 964 (by decide +kernel) rfl
theorem tm_969 : (Jvm.Cond.methodLink "PillarDesk$Reader" (266 : Nat) ({ cls := "PillarDesk$Reader", name := "opensVariable", desc := "()I" } : Jvm.MethodName)) ∈ zz_tbl := zz_mem 969 (by decide +kernel) rfl
theorem tm_971 : (Jvm.Cond.instanceMethod ({ cls := "PillarDesk$Reader", name := "opensVariable", desc := "()I" } : Jvm.MethodName)) ∈ zz_tbl := zz_mem 971 (by decide +kernel) rfl
theorem tm_972 : (Jvm.Cond.code ({ cls := "PillarDesk$Reader", name := "opensVariable", desc := "()I" } : Jvm.MethodName) prog_9_method_28_code (1 : Nat) (Option.some Jvm.ClassFile.FieldType.int)) ∈ zz_tbl := zz_mem 972 (by decide +kernel) rfl
theorem tm_976 : (Jvm.Cond.methodLink "PillarDesk$Reader" (164 : Nat) ({ cls := "PillarDesk$Reader", name := "readOpens", desc := "()V" } : Jvm.MethodName)) ∈ zz_tbl := zz_mem 976 (by decide +kernel) rfl
theorem tm_978 : (Jvm.Cond.instanceMethod ({ cls := "PillarDesk$Reader", name := "readOpens", desc := "()V" } : Jvm.MethodName)) ∈ zz_tbl := zz_mem 978 (by decide +kernel) rfl
theorem tm_979 : (Jvm.Cond.code ({ cls := "PillarDesk$Reader", name := "readOpens", desc := "()V" } : Jvm.MethodName) prog_9_method_20_code (1 : Nat) (Option.none : Option Jvm.ClassFile.FieldType)) ∈ zz_tbl := zz_mem 979 (by decide +kernel) rfl
theorem tm_980 : (Jvm.Cond.methodLink "PillarDesk" (132 : Nat) ({ cls := "PillarDesk$Plan", name := "copyFrom", desc := "(LPillarDesk$Plan;)V" } : Jvm.MethodName)) ∈ zz_tbl := zz_mem 980 (by decide +kernel) rfl
theorem tm_981 : (Jvm.Cond.instanceMethod ({ cls := "PillarDesk$Plan", name := "copyFrom", desc := "(LPillarDesk$Plan;)V" } : Jvm.MethodName)) ∈ zz_tbl := zz_mem 981 (by decide +kernel) rfl
theorem tm_982 : (Jvm.Cond.selects "PillarDesk$Plan" ({ cls := "PillarDesk$Plan", name := "copyFrom", desc := "(LPillarDesk$Plan;)V" } : Jvm.MethodName) ({ cls := "PillarDesk$Plan", name := "copyFrom", desc := "(LPillarDesk$Plan;)V" } : Jvm.MethodName)) ∈ zz_tbl := zz_mem 982 (by decide +kernel) rfl
theorem tm_983 : (Jvm.Cond.code ({ cls := "PillarDesk$Plan", name := "copyFrom", desc := "(LPillarDesk$Plan;)V" } : Jvm.MethodName) prog_8_method_3_code (2 : Nat) (Option.none : Option Jvm.ClassFile.FieldType)) ∈ zz_tbl := zz_mem 983 (by decide +kernel) rfl
theorem tm_984 : (Jvm.Cond.methodLink "PillarDesk$Plan" (66 : Nat) ({ cls := "java/lang/System", name := "arraycopy", desc := "(Ljava/lang/Object;ILjava/lang/Object;II)V" } : Jvm.MethodName)) ∈ zz_tbl := zz_mem 984 (by decide +kernel) rfl
theorem tm_985 : (Jvm.Cond.static ({ cls := "java/lang/System", name := "arraycopy", desc := "(Ljava/lang/Object;ILjava/lang/Object;II)V" } : Jvm.MethodName)) ∈ zz_tbl := zz_mem 985 (by decide +kernel) rfl
theorem tm_986 : (Jvm.Cond.native ({ cls := "java/lang/System", name := "arraycopy", desc := "(Ljava/lang/Object;ILjava/lang/Object;II)V" } : Jvm.MethodName)) ∈ zz_tbl := zz_mem 986 (by decide +kernel) rfl
theorem tm_987 : (Jvm.Cond.methodLink "PillarDesk$Plan" (72 : Nat) ({ cls := "PillarDesk$Laws", name := "copyFrom", desc := "(LPillarDesk$Laws;)V" } : Jvm.MethodName)) ∈ zz_tbl := zz_mem 987 (by decide +kernel) rfl
theorem tm_988 : (Jvm.Cond.instanceMethod ({ cls := "PillarDesk$Laws", name := "copyFrom", desc := "(LPillarDesk$Laws;)V" } : Jvm.MethodName)) ∈ zz_tbl := zz_mem 988 (by decide +kernel) rfl
theorem tm_989 : (Jvm.Cond.selects "PillarDesk$Laws" ({ cls := "PillarDesk$Laws", name := "copyFrom", desc := "(LPillarDesk$Laws;)V" } : Jvm.MethodName) ({ cls := "PillarDesk$Laws", name := "copyFrom", desc := "(LPillarDesk$Laws;)V" } : Jvm.MethodName)) ∈ zz_tbl := zz_mem 989 (by decide +kernel) rfl
theorem tm_990 : (Jvm.Cond.code ({ cls := "PillarDesk$Laws", name := "copyFrom", desc := "(LPillarDesk$Laws;)V" } : Jvm.MethodName) prog_5_method_3_code (2 : Nat) (Option.none : Option Jvm.ClassFile.FieldType)) ∈ zz_tbl := zz_mem 990 (by decide +kernel) rfl
theorem tm_991 : (Jvm.Cond.methodLink "PillarDesk$Laws" (37 : Nat) ({ cls := "java/lang/System", name := "arraycopy", desc := "(Ljava/lang/Object;ILjava/lang/Object;II)V" } : Jvm.MethodName)) ∈ zz_tbl := zz_mem 991 (by decide +kernel) rfl
theorem tm_992 : (Jvm.Cond.methodLink "PillarDesk$Plan" (76 : Nat) ({ cls := "PillarDesk$Stand", name := "copyFrom", desc := "(LPillarDesk$Stand;)V" } : Jvm.MethodName)) ∈ zz_tbl := zz_mem 992 (by decide +kernel) rfl
theorem tm_993 : (Jvm.Cond.instanceMethod ({ cls := "PillarDesk$Stand", name := "copyFrom", desc := "(LPillarDesk$Stand;)V" } : Jvm.MethodName)) ∈ zz_tbl := zz_mem 993 (by decide +kernel) rfl
theorem tm_994 : (Jvm.Cond.selects "PillarDesk$Stand" ({ cls := "PillarDesk$Stand", name := "copyFrom", desc := "(LPillarDesk$Stand;)V" } : Jvm.MethodName) ({ cls := "PillarDesk$Stand", name := "copyFrom", desc := "(LPillarDesk$Stand;)V" } : Jvm.MethodName)) ∈ zz_tbl := zz_mem 994 (by decide +kernel) rfl
theorem tm_995 : (Jvm.Cond.code ({ cls := "PillarDesk$Stand", name := "copyFrom", desc := "(LPillarDesk$Stand;)V" } : Jvm.MethodName) prog_11_method_2_code (2 : Nat) (Option.none : Option Jvm.ClassFile.FieldType)) ∈ zz_tbl := zz_mem 995 (by decide +kernel) rfl
theorem tm_996 : (Jvm.Cond.methodLink "PillarDesk$Stand" (18 : Nat) ({ cls := "java/lang/System", name := "arraycopy", desc := "(Ljava/lang/Object;ILjava/lang/Object;II)V" } : Jvm.MethodName)) ∈ zz_tbl := zz_mem 996 (by decide +kernel) rfl
theorem tm_997 : (Jvm.Cond.methodLink "PillarDesk" (135 : Nat) ({ cls := "PillarDesk$Past", name := "clear", desc := "()V" } : Jvm.MethodName)) ∈ zz_tbl := zz_mem 997 (by decide +kernel) rfl
theorem tm_998 : (Jvm.Cond.instanceMethod ({ cls := "PillarDesk$Past", name := "clear", desc := "()V" } : Jvm.MethodName)) ∈ zz_tbl := zz_mem 998 (by decide +kernel) rfl
theorem tm_999 : (Jvm.Cond.selects "PillarDesk$Past" ({ cls := "PillarDesk$Past", name := "clear", desc := "()V" } : Jvm.MethodName) ({ cls := "PillarDesk$Past", name := "clear", desc := "()V" } : Jvm.MethodName)) ∈ zz_tbl := zz_mem 999 (by decide +kernel) rfl
theorem tm_1000 : (Jvm.Cond.code ({ cls := "PillarDesk$Past", name := "clear", desc := "()V" } : Jvm.MethodName) prog_7_method_2_code (1 : Nat) (Option.none : Option Jvm.ClassFile.FieldType)) ∈ zz_tbl := zz_mem 1000 (by decide +kernel) rfl
theorem tm_1009 : (Jvm.Cond.methodLink "PillarDesk" (141 : Nat) ({ cls := "PillarDesk$Plan", name := "hasInput", desc := "(I)Z" } : Jvm.MethodName)) ∈ zz_tbl := zz_mem 1009 (by decide +kernel) rfl
theorem tm_1010 : (Jvm.Cond.instanceMethod ({ cls := "PillarDesk$Plan", name := "hasInput", desc := "(I)Z" } : Jvm.MethodName)) ∈ zz_tbl := zz_mem 1010 (by decide +kernel) rfl
theorem tm_1011 : (Jvm.Cond.selects "PillarDesk$Plan" ({ cls := "PillarDesk$Plan", name := "hasInput", desc := "(I)Z" } : Jvm.MethodName) ({ cls := "PillarDesk$Plan", name := "hasInput", desc := "(I)Z" } : Jvm.MethodName)) ∈ zz_tbl := zz_mem 1011 (by decide +kernel) rfl
theorem tm_1012 : (Jvm.Cond.code ({ cls := "PillarDesk$Plan", name := "hasInput", desc := "(I)Z" } : Jvm.MethodName) prog_8_method_4_code (2 : Nat) (Option.some Jvm.ClassFile.FieldType.boolean)) ∈ zz_tbl := zz_mem 1012 (by decide +kernel) rfl
theorem tm_1013 : (Jvm.Cond.methodLink "PillarDesk" (166 : Nat) ({ cls := "PillarDesk", name := "solvedNow", desc := "()LPillarDesk$Curve;" } : Jvm.MethodName)) ∈ zz_tbl := zz_mem 1013 (by decide +kernel) rfl
theorem tm_1015 : (Jvm.Cond.instanceMethod ({ cls := "PillarDesk", name := "solvedNow", desc := "()LPillarDesk$Curve;" } : Jvm.MethodName)) ∈ zz_tbl := zz_mem 1015 (by decide +kernel) rfl
theorem tm_1016 : (Jvm.Cond.code ({ cls := "PillarDesk", name := "solvedNow", desc := "()LPillarDesk$Curve;" } : Jvm.MethodName) prog_1_method_25_code (1 : Nat) (Option.some (Jvm.ClassFile.FieldType.object "PillarDesk$Curve"))) ∈ zz_tbl := zz_mem 1016 (by decide +kernel) rfl
theorem tm_1017 : (Jvm.Cond.methodLink "PillarDesk" (268 : Nat) ({ cls := "PillarDesk$Curve", name := "countRates", desc := "(LPillarDesk$Stand;I)V" } : Jvm.MethodName)) ∈ zz_tbl := zz_mem 1017 (by decide +kernel) rfl
theorem tm_1018 : (Jvm.Cond.instanceMethod ({ cls := "PillarDesk$Curve", name := "countRates", desc := "(LPillarDesk$Stand;I)V" } : Jvm.MethodName)) ∈ zz_tbl := zz_mem 1018 (by decide +kernel) rfl
theorem tm_1019 : (Jvm.Cond.selects "PillarDesk$Curve" ({ cls := "PillarDesk$Curve", name := "countRates", desc := "(LPillarDesk$Stand;I)V" } : Jvm.MethodName) ({ cls := "PillarDesk$Curve", name := "countRates", desc := "(LPillarDesk$Stand;I)V" } : Jvm.MethodName)) ∈ zz_tbl := zz_mem 1019 (by decide +kernel) rfl
theorem tm_1020 : (Jvm.Cond.code ({ cls := "PillarDesk$Curve", name := "countRates", desc := "(LPillarDesk$Stand;I)V" } : Jvm.MethodName) prog_3_method_3_code (4 : Nat) (Option.none : Option Jvm.ClassFile.FieldType)) ∈ zz_tbl := zz_mem 1020 (by decide +kernel) rfl
theorem tm_1021 : (Jvm.Cond.methodLink "PillarDesk$Curve" (50 : Nat) ({ cls := "PillarDesk$Curve", name := "rateByRule", desc := "(III)I" } : Jvm.MethodName)) ∈ zz_tbl := zz_mem 1021 (by decide +kernel) rfl
theorem tm_1023 : (Jvm.Cond.instanceMethod ({ cls := "PillarDesk$Curve", name := "rateByRule", desc := "(III)I" } : Jvm.MethodName)) ∈ zz_tbl := zz_mem 1023 (by decide +kernel) rfl
theorem tm_1024 : (Jvm.Cond.code ({ cls := "PillarDesk$Curve", name := "rateByRule", desc := "(III)I" } : Jvm.MethodName) prog_3_method_4_code (5 : Nat) (Option.some Jvm.ClassFile.FieldType.int)) ∈ zz_tbl := zz_mem 1024 (by decide +kernel) rfl
theorem tm_1025 : (Jvm.Cond.methodLink "PillarDesk$Curve" (62 : Nat) ({ cls := "PillarDesk$Laws", name := "hasRates", desc := "()Z" } : Jvm.MethodName)) ∈ zz_tbl := zz_mem 1025 (by decide +kernel) rfl
theorem tm_1026 : (Jvm.Cond.instanceMethod ({ cls := "PillarDesk$Laws", name := "hasRates", desc := "()Z" } : Jvm.MethodName)) ∈ zz_tbl := zz_mem 1026 (by decide +kernel) rfl
theorem tm_1027 : (Jvm.Cond.selects "PillarDesk$Laws" ({ cls := "PillarDesk$Laws", name := "hasRates", desc := "()Z" } : Jvm.MethodName) ({ cls := "PillarDesk$Laws", name := "hasRates", desc := "()Z" } : Jvm.MethodName)) ∈ zz_tbl := zz_mem 1027 (by decide +kernel) rfl
theorem tm_1028 : (Jvm.Cond.code ({ cls := "PillarDesk$Laws", name := "hasRates", desc := "()Z" } : Jvm.MethodName) prog_5_method_5_code (1 : Nat) (Option.some Jvm.ClassFile.FieldType.boolean)) ∈ zz_tbl := zz_mem 1028 (by decide +kernel) rfl
theorem tm_1029 : (Jvm.Cond.methodLink "PillarDesk$Curve" (71 : Nat) ({ cls := "PillarDesk$Schedule", name := "daysOf", desc := "(I)I" } : Jvm.MethodName)) ∈ zz_tbl := zz_mem 1029 (by decide +kernel) rfl
theorem tm_1030 : (Jvm.Cond.instanceMethod ({ cls := "PillarDesk$Schedule", name := "daysOf", desc := "(I)I" } : Jvm.MethodName)) ∈ zz_tbl := zz_mem 1030 (by decide +kernel) rfl
theorem tm_1031 : (Jvm.Cond.selects "PillarDesk$Schedule" ({ cls := "PillarDesk$Schedule", name := "daysOf", desc := "(I)I" } : Jvm.MethodName) ({ cls := "PillarDesk$Schedule", name := "daysOf", desc := "(I)I" } : Jvm.MethodName)) ∈ zz_tbl := zz_mem 1031 (by decide +kernel) rfl
theorem tm_1032 : (Jvm.Cond.code ({ cls := "PillarDesk$Schedule", name := "daysOf", desc := "(I)I" } : Jvm.MethodName) prog_10_method_9_code (2 : Nat) (Option.some Jvm.ClassFile.FieldType.int)) ∈ zz_tbl := zz_mem 1032 (by decide +kernel) rfl
theorem tm_1033 : (Jvm.Cond.methodLink "PillarDesk$Curve" (85 : Nat) ({ cls := "PillarDesk$Laws", name := "value", desc := "(II)I" } : Jvm.MethodName)) ∈ zz_tbl := zz_mem 1033 (by decide +kernel) rfl
theorem tm_1035 : (Jvm.Cond.static ({ cls := "PillarDesk", name := "inRateBounds", desc := "(I)I" } : Jvm.MethodName)) ∈ zz_tbl := zz_mem 1035 (by decide +kernel) rfl
theorem tm_1036 : (Jvm.Cond.code ({ cls := "PillarDesk", name := "inRateBounds", desc := "(I)I" } : Jvm.MethodName) prog_1_method_27_code (1 : Nat) (Option.some Jvm.ClassFile.FieldType.int)) ∈ zz_tbl := zz_mem 1036 (by decide +kernel) rfl
theorem tm_1037 : (Jvm.Cond.methodLink "PillarDesk" (294 : Nat) ({ cls := "java/lang/Math", name := "min", desc := "(II)I" } : Jvm.MethodName)) ∈ zz_tbl := zz_mem 1037 (by decide +kernel) rfl
theorem tm_1038 : (Jvm.Cond.methodLink "PillarDesk" (299 : Nat) ({ cls := "java/lang/Math", name := "max", desc := "(II)I" } : Jvm.MethodName)) ∈ zz_tbl := zz_mem 1038 (by decide +kernel) rfl
theorem tm_1039 : (Jvm.Cond.methodLink "PillarDesk" (272 : Nat) ({ cls := "PillarDesk$Curve", name := "solve", desc := "(I)V" } : Jvm.MethodName)) ∈ zz_tbl := zz_mem 1039 (by decide +kernel) rfl
theorem tm_1040 : (Jvm.Cond.instanceMethod ({ cls := "PillarDesk$Curve", name := "solve", desc := "(I)V" } : Jvm.MethodName)) ∈ zz_tbl := zz_mem 1040 (by decide +kernel) rfl
theorem tm_1041 : (Jvm.Cond.selects "PillarDesk$Curve" ({ cls := "PillarDesk$Curve", name := "solve", desc := "(I)V" } : Jvm.MethodName) ({ cls := "PillarDesk$Curve", name := "solve", desc := "(I)V" } : Jvm.MethodName)) ∈ zz_tbl := zz_mem 1041 (by decide +kernel) rfl
theorem tm_1042 : (Jvm.Cond.code ({ cls := "PillarDesk$Curve", name := "solve", desc := "(I)V" } : Jvm.MethodName) prog_3_method_5_code (4 : Nat) (Option.none : Option Jvm.ClassFile.FieldType)) ∈ zz_tbl := zz_mem 1042 (by decide +kernel) rfl
theorem tm_1043 : (Jvm.Cond.constant "PillarDesk$Curve" (89 : Nat) (1000000000 : Int32)) ∈ zz_tbl := zz_mem 1043 (by decide +kernel) rfl
theorem tm_1044 : (Jvm.Cond.methodLink "PillarDesk$Curve" (90 : Nat) ({ cls := "java/lang/Math", name := "max", desc := "(II)I" } : Jvm.MethodName)) ∈ zz_tbl := zz_mem 1044 (by decide +kernel) rfl
theorem tm_1045 : (Jvm.Cond.methodLink "PillarDesk$Curve" (114 : Nat) ({ cls := "PillarDesk$Curve", name := "askSwap", desc := "(II)V" } : Jvm.MethodName)) ∈ zz_tbl := zz_mem 1045 (by decide +kernel) rfl
theorem tm_1047 : (Jvm.Cond.instanceMethod ({ cls := "PillarDesk$Curve", name := "askSwap", desc := "(II)V" } : Jvm.MethodName)) ∈ zz_tbl := zz_mem 1047 (by decide +kernel) rfl
theorem tm_1048 : (Jvm.Cond.code ({ cls := "PillarDesk$Curve", name := "askSwap", desc := "(II)V" } : Jvm.MethodName) prog_3_method_7_code (4 : Nat) (Option.none : Option Jvm.ClassFile.FieldType)) ∈ zz_tbl := zz_mem 1048 (by decide +kernel) rfl
theorem tm_1049 : (Jvm.Cond.constantLong "PillarDesk$Curve" (135 : Nat) (3600000 : Int64)) ∈ zz_tbl := zz_mem 1049 (by decide +kernel) rfl
theorem tm_1050 : (Jvm.Cond.constantLong "PillarDesk$Curve" (149 : Nat) (3600000003599999 : Int64)) ∈ zz_tbl := zz_mem 1050 (by decide +kernel) rfl
theorem tm_1051 : (Jvm.Cond.methodLink "PillarDesk$Curve" (154 : Nat) ({ cls := "PillarDesk$Schedule", name := "periodDays", desc := "(II)I" } : Jvm.MethodName)) ∈ zz_tbl := zz_mem 1051 (by decide +kernel) rfl
theorem tm_1052 : (Jvm.Cond.instanceMethod ({ cls := "PillarDesk$Schedule", name := "periodDays", desc := "(II)I" } : Jvm.MethodName)) ∈ zz_tbl := zz_mem 1052 (by decide +kernel) rfl
theorem tm_1053 : (Jvm.Cond.selects "PillarDesk$Schedule" ({ cls := "PillarDesk$Schedule", name := "periodDays", desc := "(II)I" } : Jvm.MethodName) ({ cls := "PillarDesk$Schedule", name := "periodDays", desc := "(II)I" } : Jvm.MethodName)) ∈ zz_tbl := zz_mem 1053 (by decide +kernel) rfl
theorem tm_1054 : (Jvm.Cond.code ({ cls := "PillarDesk$Schedule", name := "periodDays", desc := "(II)I" } : Jvm.MethodName) prog_10_method_8_code (3 : Nat) (Option.some Jvm.ClassFile.FieldType.int)) ∈ zz_tbl := zz_mem 1054 (by decide +kernel) rfl
theorem tm_1055 : (Jvm.Cond.methodLink "PillarDesk$Schedule" (93 : Nat) ({ cls := "PillarDesk$Schedule", name := "periodEnd", desc := "(II)I" } : Jvm.MethodName)) ∈ zz_tbl := zz_mem 1055 (by decide +kernel) rfl
theorem tm_1056 : (Jvm.Cond.instanceMethod ({ cls := "PillarDesk$Schedule", name := "periodEnd", desc := "(II)I" } : Jvm.MethodName)) ∈ zz_tbl := zz_mem 1056 (by decide +kernel) rfl
theorem tm_1057 : (Jvm.Cond.selects "PillarDesk$Schedule" ({ cls := "PillarDesk$Schedule", name := "periodEnd", desc := "(II)I" } : Jvm.MethodName) ({ cls := "PillarDesk$Schedule", name := "periodEnd", desc := "(II)I" } : Jvm.MethodName)) ∈ zz_tbl := zz_mem 1057 (by decide +kernel) rfl
theorem tm_1058 : (Jvm.Cond.code ({ cls := "PillarDesk$Schedule", name := "periodEnd", desc := "(II)I" } : Jvm.MethodName) prog_10_method_7_code (3 : Nat) (Option.some Jvm.ClassFile.FieldType.int)) ∈ zz_tbl := zz_mem 1058 (by decide +kernel) rfl
theorem tm_1059 : (Jvm.Cond.methodLink "PillarDesk$Curve" (157 : Nat) ({ cls := "PillarDesk$Schedule", name := "periodEnd", desc := "(II)I" } : Jvm.MethodName)) ∈ zz_tbl := zz_mem 1059 (by decide +kernel) rfl
theorem tm_1060 : (Jvm.Cond.methodLink "PillarDesk$Curve" (145 : Nat) ({ cls := "PillarDesk$Curve", name := "takeIn", desc := "(JII)V" } : Jvm.MethodName)) ∈ zz_tbl := zz_mem 1060 (by decide +kernel) rfl
theorem tm_1062 : (Jvm.Cond.instanceMethod ({ cls := "PillarDesk$Curve", name := "takeIn", desc := "(JII)V" } : Jvm.MethodName)) ∈ zz_tbl := zz_mem 1062 (by decide +kernel) rfl
theorem tm_1063 : (Jvm.Cond.code ({ cls := "PillarDesk$Curve", name := "takeIn", desc := "(JII)V" } : Jvm.MethodName) prog_3_method_8_code (6 : Nat) (Option.none : Option Jvm.ClassFile.FieldType)) ∈ zz_tbl := zz_mem 1063 (by decide +kernel) rfl
theorem tm_1064 : (Jvm.Cond.methodLink "PillarDesk$Curve" (160 : Nat) ({ cls := "PillarDesk$Curve", name := "factorAt", desc := "(I)I" } : Jvm.MethodName)) ∈ zz_tbl := zz_mem 1064 (by decide +kernel) rfl
theorem tm_1065 : (Jvm.Cond.instanceMethod ({ cls := "PillarDesk$Curve", name := "factorAt", desc := "(I)I" } : Jvm.MethodName)) ∈ zz_tbl := zz_mem 1065 (by decide +kernel) rfl
theorem tm_1066 : (Jvm.Cond.selects "PillarDesk$Curve" ({ cls := "PillarDesk$Curve", name := "factorAt", desc := "(I)I" } : Jvm.MethodName) ({ cls := "PillarDesk$Curve", name := "factorAt", desc := "(I)I" } : Jvm.MethodName)) ∈ zz_tbl := zz_mem 1066 (by decide +kernel) rfl
theorem tm_1067 : (Jvm.Cond.code ({ cls := "PillarDesk$Curve", name := "factorAt", desc := "(I)I" } : Jvm.MethodName) prog_3_method_15_code (7 : Nat) (Option.some Jvm.ClassFile.FieldType.int)) ∈ zz_tbl := zz_mem 1067 (by decide +kernel) rfl
theorem tm_1068 : (Jvm.Cond.methodLink "PillarDesk$Curve" (190 : Nat) ({ cls := "PillarDesk$Schedule", name := "pillarAt", desc := "(I)I" } : Jvm.MethodName)) ∈ zz_tbl := zz_mem 1068 (by decide +kernel) rfl
theorem tm_1069 : (Jvm.Cond.instanceMethod ({ cls := "PillarDesk$Schedule", name := "pillarAt", desc := "(I)I" } : Jvm.MethodName)) ∈ zz_tbl := zz_mem 1069 (by decide +kernel) rfl
theorem tm_1070 : (Jvm.Cond.selects "PillarDesk$Schedule" ({ cls := "PillarDesk$Schedule", name := "pillarAt", desc := "(I)I" } : Jvm.MethodName) ({ cls := "PillarDesk$Schedule", name := "pillarAt", desc := "(I)I" } : Jvm.MethodName)) ∈ zz_tbl := zz_mem 1070 (by decide +kernel) rfl
theorem tm_1071 : (Jvm.Cond.code ({ cls := "PillarDesk$Schedule", name := "pillarAt", desc := "(I)I" } : Jvm.MethodName) prog_10_method_10_code (3 : Nat) (Option.some Jvm.ClassFile.FieldType.int)) ∈ zz_tbl := zz_mem 1071 (by decide +kernel) rfl
theorem tm_1072 : (Jvm.Cond.methodLink "PillarDesk$Curve" (166 : Nat) ({ cls := "java/lang/Math", name := "floorDiv", desc := "(JJ)J" } : Jvm.MethodName)) ∈ zz_tbl := zz_mem 1072 (by decide +kernel) rfl
theorem tm_1073 : (Jvm.Cond.static ({ cls := "java/lang/Math", name := "floorDiv", desc := "(JJ)J" } : Jvm.MethodName)) ∈ zz_tbl := zz_mem 1073 (by decide +kernel) rfl
theorem tm_1074 : (Jvm.Cond.code ({ cls := "java/lang/Math", name := "floorDiv", desc := "(JJ)J" } : Jvm.MethodName) prog_16_method_49_code (6 : Nat) (Option.some Jvm.ClassFile.FieldType.long)) ∈ zz_tbl := zz_mem 1074 (by decide +kernel) rfl
theorem tm_1075 : (Jvm.Cond.methodLink "PillarDesk$Curve" (118 : Nat) ({ cls := "PillarDesk$Curve", name := "askLoan", desc := "(II)V" } : Jvm.MethodName)) ∈ zz_tbl := zz_mem 1075 (by decide +kernel) rfl
theorem tm_1077 : (Jvm.Cond.instanceMethod ({ cls := "PillarDesk$Curve", name := "askLoan", desc := "(II)V" } : Jvm.MethodName)) ∈ zz_tbl := zz_mem 1077 (by decide +kernel) rfl
theorem tm_1078 : (Jvm.Cond.code ({ cls := "PillarDesk$Curve", name := "askLoan", desc := "(II)V" } : Jvm.MethodName) prog_3_method_6_code (4 : Nat) (Option.none : Option Jvm.ClassFile.FieldType)) ∈ zz_tbl := zz_mem 1078 (by decide +kernel) rfl
theorem tm_1079 : (Jvm.Cond.constantLong "PillarDesk$Curve" (143 : Nat) (-3600000 : Int64)) ∈ zz_tbl := zz_mem 1079 (by decide +kernel) rfl
theorem tm_1080 : (Jvm.Cond.methodLink "PillarDesk$Curve" (121 : Nat) ({ cls := "PillarDesk$Curve", name := "greatestAtOnce", desc := "()J" } : Jvm.MethodName)) ∈ zz_tbl := zz_mem 1080 (by decide +kernel) rfl
theorem tm_1082 : (Jvm.Cond.instanceMethod ({ cls := "PillarDesk$Curve", name := "greatestAtOnce", desc := "()J" } : Jvm.MethodName)) ∈ zz_tbl := zz_mem 1082 (by decide +kernel) rfl
theorem tm_1083 : (Jvm.Cond.code ({ cls := "PillarDesk$Curve", name := "greatestAtOnce", desc := "()J" } : Jvm.MethodName) prog_3_method_9_code (1 : Nat) (Option.some Jvm.ClassFile.FieldType.long)) ∈ zz_tbl := zz_mem 1083 (by decide +kernel) rfl
theorem tm_1084 : (Jvm.Cond.methodLink "PillarDesk$Curve" (170 : Nat) ({ cls := "PillarDesk$Curve", name := "inFactorBounds", desc := "(J)J" } : Jvm.MethodName)) ∈ zz_tbl := zz_mem 1084 (by decide +kernel) rfl
theorem tm_1085 : (Jvm.Cond.static ({ cls := "PillarDesk$Curve", name := "inFactorBounds", desc := "(J)J" } : Jvm.MethodName)) ∈ zz_tbl := zz_mem 1085 (by decide +kernel) rfl
theorem tm_1086 : (Jvm.Cond.code ({ cls := "PillarDesk$Curve", name := "inFactorBounds", desc := "(J)J" } : Jvm.MethodName) prog_3_method_10_code (2 : Nat) (Option.some Jvm.ClassFile.FieldType.long)) ∈ zz_tbl := zz_mem 1086 (by decide +kernel) rfl
theorem tm_1087 : (Jvm.Cond.constantLong "PillarDesk$Curve" (173 : Nat) (1000000000 : Int64)) ∈ zz_tbl := zz_mem 1087 (by decide +kernel) rfl
theorem tm_1088 : (Jvm.Cond.methodLink "PillarDesk$Curve" (175 : Nat) ({ cls := "java/lang/Math", name := "min", desc := "(JJ)J" } : Jvm.MethodName)) ∈ zz_tbl := zz_mem 1088 (by decide +kernel) rfl
theorem tm_1089 : (Jvm.Cond.static ({ cls := "java/lang/Math", name := "min", desc := "(JJ)J" } : Jvm.MethodName)) ∈ zz_tbl := zz_mem 1089 (by decide +kernel) rfl
theorem tm_1090 : (Jvm.Cond.code ({ cls := "java/lang/Math", name := "min", desc := "(JJ)J" } : Jvm.MethodName) prog_16_method_70_code (4 : Nat) (Option.some Jvm.ClassFile.FieldType.long)) ∈ zz_tbl := zz_mem 1090 (by decide +kernel) rfl
theorem tm_1091 : (Jvm.Cond.methodLink "PillarDesk$Curve" (178 : Nat) ({ cls := "java/lang/Math", name := "max", desc := "(JJ)J" } : Jvm.MethodName)) ∈ zz_tbl := zz_mem 1091 (by decide +kernel) rfl
theorem tm_1092 : (Jvm.Cond.static ({ cls := "java/lang/Math", name := "max", desc := "(JJ)J" } : Jvm.MethodName)) ∈ zz_tbl := zz_mem 1092 (by decide +kernel) rfl
theorem tm_1093 : (Jvm.Cond.code ({ cls := "java/lang/Math", name := "max", desc := "(JJ)J" } : Jvm.MethodName) prog_16_method_66_code (4 : Nat) (Option.some Jvm.ClassFile.FieldType.long)) ∈ zz_tbl := zz_mem 1093 (by decide +kernel) rfl
theorem tm_1094 : (Jvm.Cond.methodLink "PillarDesk$Curve" (125 : Nat) ({ cls := "PillarDesk$Curve", name := "guess", desc := "()J" } : Jvm.MethodName)) ∈ zz_tbl := zz_mem 1094 (by decide +kernel) rfl
theorem tm_1096 : (Jvm.Cond.instanceMethod ({ cls := "PillarDesk$Curve", name := "guess", desc := "()J" } : Jvm.MethodName)) ∈ zz_tbl := zz_mem 1096 (by decide +kernel) rfl
theorem tm_1097 : (Jvm.Cond.code ({ cls := "PillarDesk$Curve", name := "guess", desc := "()J" } : Jvm.MethodName) prog_3_method_11_code (6 : Nat) (Option.some Jvm.ClassFile.FieldType.long)) ∈ zz_tbl := zz_mem 1097 (by decide +kernel) rfl
theorem tm_1098 : (Jvm.Cond.methodLink "PillarDesk$Curve" (128 : Nat) ({ cls := "PillarDesk$Curve", name := "greatestFrom", desc := "(J)J" } : Jvm.MethodName)) ∈ zz_tbl := zz_mem 1098 (by decide +kernel) rfl
theorem tm_1100 : (Jvm.Cond.instanceMethod ({ cls := "PillarDesk$Curve", name := "greatestFrom", desc := "(J)J" } : Jvm.MethodName)) ∈ zz_tbl := zz_mem 1100 (by decide +kernel) rfl
theorem tm_1101 : (Jvm.Cond.code ({ cls := "PillarDesk$Curve", name := "greatestFrom", desc := "(J)J" } : Jvm.MethodName) prog_3_method_13_code (10 : Nat) (Option.some Jvm.ClassFile.FieldType.long)) ∈ zz_tbl := zz_mem 1101 (by decide +kernel) rfl
theorem tm_1102 : (Jvm.Cond.constantLong "PillarDesk$Curve" (180 : Nat) (2000000000 : Int64)) ∈ zz_tbl := zz_mem 1102 (by decide +kernel) rfl
theorem tm_1103 : (Jvm.Cond.methodLink "PillarDesk$Curve" (182 : Nat) ({ cls := "PillarDesk$Curve", name := "holds", desc := "(J)Z" } : Jvm.MethodName)) ∈ zz_tbl := zz_mem 1103 (by decide +kernel) rfl
theorem tm_1105 : (Jvm.Cond.instanceMethod ({ cls := "PillarDesk$Curve", name := "holds", desc := "(J)Z" } : Jvm.MethodName)) ∈ zz_tbl := zz_mem 1105 (by decide +kernel) rfl
theorem tm_1106 : (Jvm.Cond.code ({ cls := "PillarDesk$Curve", name := "holds", desc := "(J)Z" } : Jvm.MethodName) prog_3_method_12_code (6 : Nat) (Option.some Jvm.ClassFile.FieldType.boolean)) ∈ zz_tbl := zz_mem 1106 (by decide +kernel) rfl
theorem tm_1107 : (Jvm.Cond.constantLong "PillarDesk$Curve" (186 : Nat) (1000000001 : Int64)) ∈ zz_tbl := zz_mem 1107 (by decide +kernel) rfl
theorem tm_1108 : (Jvm.Cond.constantLong "PillarDesk$Curve" (188 : Nat) (2 : Int64)) ∈ zz_tbl := zz_mem 1108 (by decide +kernel) rfl
theorem tm_1113 : (Jvm.Cond.methodLink "PillarDesk" (179 : Nat) ({ cls := "PillarDesk$Plan", name := "hasFlow", desc := "(I)Z" } : Jvm.MethodName)) ∈ zz_tbl := zz_mem 1113 (by decide +kernel) rfl
theorem tm_1114 : (Jvm.Cond.instanceMethod ({ cls := "PillarDesk$Plan", name := "hasFlow", desc := "(I)Z" } : Jvm.MethodName)) ∈ zz_tbl := zz_mem 1114 (by decide +kernel) rfl
theorem tm_1115 : (Jvm.Cond.selects "PillarDesk$Plan" ({ cls := "PillarDesk$Plan", name := "hasFlow", desc := "(I)Z" } : Jvm.MethodName) ({ cls := "PillarDesk$Plan", name := "hasFlow", desc := "(I)Z" } : Jvm.MethodName)) ∈ zz_tbl := zz_mem 1115 (by decide +kernel) rfl
theorem tm_1116 : (Jvm.Cond.code ({ cls := "PillarDesk$Plan", name := "hasFlow", desc := "(I)Z" } : Jvm.MethodName) prog_8_method_5_code (2 : Nat) (Option.some Jvm.ClassFile.FieldType.boolean)) ∈ zz_tbl := zz_mem 1116 (by decide +kernel) rfl
theorem tm_1117 : (Jvm.Cond.constantLong "PillarDesk" (182 : Nat) (-9000000000000000002 : Int64)) ∈ zz_tbl := zz_mem 1117 (by decide +kernel) rfl
theorem tm_1122 : (Jvm.Cond.methodLink "PillarDesk" (194 : Nat) ({ cls := "PillarDesk$Calendar", name := "isOpen", desc := "(I)Z" } : Jvm.MethodName)) ∈ zz_tbl := zz_mem 1122 (by decide +kernel) rfl
theorem tm_1127 : (Jvm.Cond.methodLink "PillarDesk" (199 : Nat) ({ cls := "PillarDesk$Calendar", name := "putOff", desc := "(I)I" } : Jvm.MethodName)) ∈ zz_tbl := zz_mem 1127 (by decide +kernel) rfl
theorem tm_1140 : (Jvm.Cond.methodLink "PillarDesk" (206 : Nat) ({ cls := "PillarDesk$Schedule", name := "periodEnd", desc := "(II)I" } : Jvm.MethodName)) ∈ zz_tbl := zz_mem 1140 (by decide +kernel) rfl
theorem tm_1145 : (Jvm.Cond.methodLink "PillarDesk" (210 : Nat) ({ cls := "PillarDesk$Stand", name := "copyFrom", desc := "(LPillarDesk$Stand;)V" } : Jvm.MethodName)) ∈ zz_tbl := zz_mem 1145 (by decide +kernel) rfl
theorem tm_1146 : (Jvm.Cond.methodLink "PillarDesk" (213 : Nat) ({ cls := "PillarDesk$Plan", name := "doBump", desc := "(LPillarDesk$Stand;II)I" } : Jvm.MethodName)) ∈ zz_tbl := zz_mem 1146 (by decide +kernel) rfl
theorem tm_1147 : (Jvm.Cond.instanceMethod ({ cls := "PillarDesk$Plan", name := "doBump", desc := "(LPillarDesk$Stand;II)I" } : Jvm.MethodName)) ∈ zz_tbl := zz_mem 1147 (by decide +kernel) rfl
theorem tm_1148 : (Jvm.Cond.selects "PillarDesk$Plan" ({ cls := "PillarDesk$Plan", name := "doBump", desc := "(LPillarDesk$Stand;II)I" } : Jvm.MethodName) ({ cls := "PillarDesk$Plan", name := "doBump", desc := "(LPillarDesk$Stand;II)I" } : Jvm.MethodName)) ∈ zz_tbl := zz_mem 1148 (by decide +kernel) rfl
theorem tm_1149 : (Jvm.Cond.code ({ cls := "PillarDesk$Plan", name := "doBump", desc := "(LPillarDesk$Stand;II)I" } : Jvm.MethodName) prog_8_method_8_code (5 : Nat) (Option.some Jvm.ClassFile.FieldType.int)) ∈ zz_tbl := zz_mem 1149 (by decide +kernel) rfl
theorem tm_1150 : (Jvm.Cond.methodLink "PillarDesk$Plan" (82 : Nat) ({ cls := "PillarDesk$Plan", name := "hasInput", desc := "(I)Z" } : Jvm.MethodName)) ∈ zz_tbl := zz_mem 1150 (by decide +kernel) rfl
theorem tm_1151 : (Jvm.Cond.methodLink "PillarDesk" (217 : Nat) ({ cls := "PillarDesk", name := "remember", desc := "(I)V" } : Jvm.MethodName)) ∈ zz_tbl := zz_mem 1151 (by decide +kernel) rfl
theorem tm_1153 : (Jvm.Cond.instanceMethod ({ cls := "PillarDesk", name := "remember", desc := "(I)V" } : Jvm.MethodName)) ∈ zz_tbl := zz_mem 1153 (by decide +kernel) rfl
theorem tm_1154 : (Jvm.Cond.code ({ cls := "PillarDesk", name := "remember", desc := "(I)V" } : Jvm.MethodName) prog_1_method_16_code (2 : Nat) (Option.none : Option Jvm.ClassFile.FieldType)) ∈ zz_tbl := zz_mem 1154 (by decide +kernel) rfl
theorem tm_1155 : (Jvm.Cond.methodLink "PillarDesk" (230 : Nat) ({ cls := "PillarDesk$Past", name := "push", desc := "(LPillarDesk$Stand;)V" } : Jvm.MethodName)) ∈ zz_tbl := zz_mem 1155 (by decide +kernel) rfl
theorem tm_1156 : (Jvm.Cond.instanceMethod ({ cls := "PillarDesk$Past", name := "push", desc := "(LPillarDesk$Stand;)V" } : Jvm.MethodName)) ∈ zz_tbl := zz_mem 1156 (by decide +kernel) rfl
theorem tm_1157 : (Jvm.Cond.selects "PillarDesk$Past" ({ cls := "PillarDesk$Past", name := "push", desc := "(LPillarDesk$Stand;)V" } : Jvm.MethodName) ({ cls := "PillarDesk$Past", name := "push", desc := "(LPillarDesk$Stand;)V" } : Jvm.MethodName)) ∈ zz_tbl := zz_mem 1157 (by decide +kernel) rfl
theorem tm_1158 : (Jvm.Cond.code ({ cls := "PillarDesk$Past", name := "push", desc := "(LPillarDesk$Stand;)V" } : Jvm.MethodName) prog_7_method_3_code (2 : Nat) (Option.none : Option Jvm.ClassFile.FieldType)) ∈ zz_tbl := zz_mem 1158 (by decide +kernel) rfl
theorem tm_1159 : (Jvm.Cond.methodLink "PillarDesk$Past" (25 : Nat) ({ cls := "PillarDesk$Stand", name := "copyFrom", desc := "(LPillarDesk$Stand;)V" } : Jvm.MethodName)) ∈ zz_tbl := zz_mem 1159 (by decide +kernel) rfl
theorem tm_1160 : (Jvm.Cond.methodLink "PillarDesk$Past" (29 : Nat) ({ cls := "java/lang/Math", name := "min", desc := "(II)I" } : Jvm.MethodName)) ∈ zz_tbl := zz_mem 1160 (by decide +kernel) rfl
theorem tm_1165 : (Jvm.Cond.methodLink "PillarDesk" (220 : Nat) ({ cls := "PillarDesk$Plan", name := "doShift", desc := "(LPillarDesk$Stand;I)I" } : Jvm.MethodName)) ∈ zz_tbl := zz_mem 1165 (by decide +kernel) rfl
theorem tm_1166 : (Jvm.Cond.instanceMethod ({ cls := "PillarDesk$Plan", name := "doShift", desc := "(LPillarDesk$Stand;I)I" } : Jvm.MethodName)) ∈ zz_tbl := zz_mem 1166 (by decide +kernel) rfl
theorem tm_1167 : (Jvm.Cond.selects "PillarDesk$Plan" ({ cls := "PillarDesk$Plan", name := "doShift", desc := "(LPillarDesk$Stand;I)I" } : Jvm.MethodName) ({ cls := "PillarDesk$Plan", name := "doShift", desc := "(LPillarDesk$Stand;I)I" } : Jvm.MethodName)) ∈ zz_tbl := zz_mem 1167 (by decide +kernel) rfl
theorem tm_1168 : (Jvm.Cond.code ({ cls := "PillarDesk$Plan", name := "doShift", desc := "(LPillarDesk$Stand;I)I" } : Jvm.MethodName) prog_8_method_9_code (3 : Nat) (Option.some Jvm.ClassFile.FieldType.int)) ∈ zz_tbl := zz_mem 1168 (by decide +kernel) rfl
theorem tm_1173 : (Jvm.Cond.methodLink "PillarDesk" (227 : Nat) ({ cls := "PillarDesk$Plan", name := "doAmount", desc := "(LPillarDesk$Stand;II)I" } : Jvm.MethodName)) ∈ zz_tbl := zz_mem 1173 (by decide +kernel) rfl
theorem tm_1174 : (Jvm.Cond.instanceMethod ({ cls := "PillarDesk$Plan", name := "doAmount", desc := "(LPillarDesk$Stand;II)I" } : Jvm.MethodName)) ∈ zz_tbl := zz_mem 1174 (by decide +kernel) rfl
theorem tm_1175 : (Jvm.Cond.selects "PillarDesk$Plan" ({ cls := "PillarDesk$Plan", name := "doAmount", desc := "(LPillarDesk$Stand;II)I" } : Jvm.MethodName) ({ cls := "PillarDesk$Plan", name := "doAmount", desc := "(LPillarDesk$Stand;II)I" } : Jvm.MethodName)) ∈ zz_tbl := zz_mem 1175 (by decide +kernel) rfl
theorem tm_1176 : (Jvm.Cond.code ({ cls := "PillarDesk$Plan", name := "doAmount", desc := "(LPillarDesk$Stand;II)I" } : Jvm.MethodName) prog_8_method_10_code (4 : Nat) (Option.some Jvm.ClassFile.FieldType.int)) ∈ zz_tbl := zz_mem 1176 (by decide +kernel) rfl
theorem tm_1177 : (Jvm.Cond.methodLink "PillarDesk$Plan" (89 : Nat) ({ cls := "PillarDesk$Plan", name := "hasFlow", desc := "(I)Z" } : Jvm.MethodName)) ∈ zz_tbl := zz_mem 1177 (by decide +kernel) rfl
theorem tm_1182 : (Jvm.Cond.methodLink "PillarDesk" (236 : Nat) ({ cls := "PillarDesk$Past", name := "back", desc := "(ILPillarDesk$Stand;)V" } : Jvm.MethodName)) ∈ zz_tbl := zz_mem 1182 (by decide +kernel) rfl
theorem tm_1183 : (Jvm.Cond.instanceMethod ({ cls := "PillarDesk$Past", name := "back", desc := "(ILPillarDesk$Stand;)V" } : Jvm.MethodName)) ∈ zz_tbl := zz_mem 1183 (by decide +kernel) rfl
theorem tm_1184 : (Jvm.Cond.selects "PillarDesk$Past" ({ cls := "PillarDesk$Past", name := "back", desc := "(ILPillarDesk$Stand;)V" } : Jvm.MethodName) ({ cls := "PillarDesk$Past", name := "back", desc := "(ILPillarDesk$Stand;)V" } : Jvm.MethodName)) ∈ zz_tbl := zz_mem 1184 (by decide +kernel) rfl
theorem tm_1185 : (Jvm.Cond.code ({ cls := "PillarDesk$Past", name := "back", desc := "(ILPillarDesk$Stand;)V" } : Jvm.MethodName) prog_7_method_4_code (3 : Nat) (Option.none : Option Jvm.ClassFile.FieldType)) ∈ zz_tbl := zz_mem 1185 (by decide +kernel) rfl
theorem tm_1186 : (Jvm.Cond.methodLink "PillarDesk$Past" (35 : Nat) ({ cls := "java/lang/Math", name := "floorMod", desc := "(II)I" } : Jvm.MethodName)) ∈ zz_tbl := zz_mem 1186 (by decide +kernel) rfl
theorem tm_1187 : (Jvm.Cond.methodLink "PillarDesk$Past" (38 : Nat) ({ cls := "java/lang/Math", name := "max", desc := "(II)I" } : Jvm.MethodName)) ∈ zz_tbl := zz_mem 1187 (by decide +kernel) rfl
theorem tm_1192 : (Jvm.Cond.methodLink "PillarDesk" (240 : Nat) ({ cls := "PillarDesk", name := "noTray", desc := "(I)Z" } : Jvm.MethodName)) ∈ zz_tbl := zz_mem 1192 (by decide +kernel) rfl
theorem tm_1194 : (Jvm.Cond.instanceMethod ({ cls := "PillarDesk", name := "noTray", desc := "(I)Z" } : Jvm.MethodName)) ∈ zz_tbl := zz_mem 1194 (by decide +kernel) rfl
theorem tm_1195 : (Jvm.Cond.code ({ cls := "PillarDesk", name := "noTray", desc := "(I)Z" } : Jvm.MethodName) prog_1_method_52_code (2 : Nat) (Option.some Jvm.ClassFile.FieldType.boolean)) ∈ zz_tbl := zz_mem 1195 (by decide +kernel) rfl
theorem tm_1196 : (Jvm.Cond.methodLink "PillarDesk" (243 : Nat) ({ cls := "PillarDesk$Tray", name := "isMissing", desc := "()Z" } : Jvm.MethodName)) ∈ zz_tbl := zz_mem 1196 (by decide +kernel) rfl
theorem tm_1197 : (Jvm.Cond.instanceMethod ({ cls := "PillarDesk$Tray", name := "isMissing", desc := "()Z" } : Jvm.MethodName)) ∈ zz_tbl := zz_mem 1197 (by decide +kernel) rfl
theorem tm_1198 : (Jvm.Cond.selects "PillarDesk$Tray" ({ cls := "PillarDesk$Tray", name := "isMissing", desc := "()Z" } : Jvm.MethodName) ({ cls := "PillarDesk$Tray", name := "isMissing", desc := "()Z" } : Jvm.MethodName)) ∈ zz_tbl := zz_mem 1198 (by decide +kernel) rfl
theorem tm_1199 : (Jvm.Cond.code ({ cls := "PillarDesk$Tray", name := "isMissing", desc := "()Z" } : Jvm.MethodName) prog_12_method_2_code (1 : Nat) (Option.some Jvm.ClassFile.FieldType.boolean)) ∈ zz_tbl := zz_mem 1199 (by decide +kernel) rfl
theorem tm_1200 : (Jvm.Cond.methodLink "PillarDesk" (247 : Nat) ({ cls := "PillarDesk", name := "doAll", desc := "(LPillarDesk$Tray;LPillarDesk$Stand;)I" } : Jvm.MethodName)) ∈ zz_tbl := zz_mem 1200 (by decide +kernel) rfl
theorem tm_1202 : (Jvm.Cond.instanceMethod ({ cls := "PillarDesk", name := "doAll", desc := "(LPillarDesk$Tray;LPillarDesk$Stand;)I" } : Jvm.MethodName)) ∈ zz_tbl := zz_mem 1202 (by decide +kernel) rfl
theorem tm_1203 : (Jvm.Cond.code ({ cls := "PillarDesk", name := "doAll", desc := "(LPillarDesk$Tray;LPillarDesk$Stand;)I" } : Jvm.MethodName) prog_1_method_19_code (5 : Nat) (Option.some Jvm.ClassFile.FieldType.int)) ∈ zz_tbl := zz_mem 1203 (by decide +kernel) rfl
theorem tm_1204 : (Jvm.Cond.methodLink "PillarDesk" (256 : Nat) ({ cls := "PillarDesk$Plan", name := "doDeed", desc := "(LPillarDesk$Stand;J)I" } : Jvm.MethodName)) ∈ zz_tbl := zz_mem 1204 (by decide +kernel) rfl
theorem tm_1205 : (Jvm.Cond.instanceMethod ({ cls := "PillarDesk$Plan", name := "doDeed", desc := "(LPillarDesk$Stand;J)I" } : Jvm.MethodName)) ∈ zz_tbl := zz_mem 1205 (by decide +kernel) rfl
theorem tm_1206 : (Jvm.Cond.selects "PillarDesk$Plan" ({ cls := "PillarDesk$Plan", name := "doDeed", desc := "(LPillarDesk$Stand;J)I" } : Jvm.MethodName) ({ cls := "PillarDesk$Plan", name := "doDeed", desc := "(LPillarDesk$Stand;J)I" } : Jvm.MethodName)) ∈ zz_tbl := zz_mem 1206 (by decide +kernel) rfl
theorem tm_1207 : (Jvm.Cond.code ({ cls := "PillarDesk$Plan", name := "doDeed", desc := "(LPillarDesk$Stand;J)I" } : Jvm.MethodName) prog_8_method_11_code (5 : Nat) (Option.some Jvm.ClassFile.FieldType.int)) ∈ zz_tbl := zz_mem 1207 (by decide +kernel) rfl
theorem tm_1208 : (Jvm.Cond.constantLong "PillarDesk$Plan" (95 : Nat) (10 : Int64)) ∈ zz_tbl := zz_mem 1208 (by decide +kernel) rfl
theorem tm_1209 : (Jvm.Cond.constantLong "PillarDesk$Plan" (97 : Nat) (19 : Int64)) ∈ zz_tbl := zz_mem 1209 (by decide +kernel) rfl
theorem tm_1210 : (Jvm.Cond.methodLink "PillarDesk$Plan" (99 : Nat) ({ cls := "PillarDesk$Plan", name := "doShift", desc := "(LPillarDesk$Stand;I)I" } : Jvm.MethodName)) ∈ zz_tbl := zz_mem 1210 (by decide +kernel) rfl
theorem tm_1211 : (Jvm.Cond.constantLong "PillarDesk$Plan" (103 : Nat) (1000 : Int64)) ∈ zz_tbl := zz_mem 1211 (by decide +kernel) rfl
theorem tm_1212 : (Jvm.Cond.constantLong "PillarDesk$Plan" (105 : Nat) (8999 : Int64)) ∈ zz_tbl := zz_mem 1212 (by decide +kernel) rfl
theorem tm_1213 : (Jvm.Cond.methodLink "PillarDesk$Plan" (107 : Nat) ({ cls := "PillarDesk$Plan", name := "doBump", desc := "(LPillarDesk$Stand;II)I" } : Jvm.MethodName)) ∈ zz_tbl := zz_mem 1213 (by decide +kernel) rfl
theorem tm_1214 : (Jvm.Cond.constantLong "PillarDesk$Plan" (111 : Nat) (10000 : Int64)) ∈ zz_tbl := zz_mem 1214 (by decide +kernel) rfl
theorem tm_1215 : (Jvm.Cond.constantLong "PillarDesk$Plan" (113 : Nat) (29999 : Int64)) ∈ zz_tbl := zz_mem 1215 (by decide +kernel) rfl
theorem tm_1216 : (Jvm.Cond.methodLink "PillarDesk$Plan" (115 : Nat) ({ cls := "PillarDesk$Plan", name := "doAmount", desc := "(LPillarDesk$Stand;II)I" } : Jvm.MethodName)) ∈ zz_tbl := zz_mem 1216 (by decide +kernel) rfl
theorem tm_1217 : (Jvm.Cond.methodLink "PillarDesk" (260 : Nat) ({ cls := "PillarDesk$Plan", name := "rateSum", desc := "(LPillarDesk$Stand;)I" } : Jvm.MethodName)) ∈ zz_tbl := zz_mem 1217 (by decide +kernel) rfl
theorem tm_1218 : (Jvm.Cond.instanceMethod ({ cls := "PillarDesk$Plan", name := "rateSum", desc := "(LPillarDesk$Stand;)I" } : Jvm.MethodName)) ∈ zz_tbl := zz_mem 1218 (by decide +kernel) rfl
theorem tm_1219 : (Jvm.Cond.selects "PillarDesk$Plan" ({ cls := "PillarDesk$Plan", name := "rateSum", desc := "(LPillarDesk$Stand;)I" } : Jvm.MethodName) ({ cls := "PillarDesk$Plan", name := "rateSum", desc := "(LPillarDesk$Stand;)I" } : Jvm.MethodName)) ∈ zz_tbl := zz_mem 1219 (by decide +kernel) rfl
theorem tm_1220 : (Jvm.Cond.code ({ cls := "PillarDesk$Plan", name := "rateSum", desc := "(LPillarDesk$Stand;)I" } : Jvm.MethodName) prog_8_method_7_code (4 : Nat) (Option.some Jvm.ClassFile.FieldType.int)) ∈ zz_tbl := zz_mem 1220 (by decide +kernel) rfl
theorem tm_1221 : (Jvm.Cond.methodLink "PillarDesk" (264 : Nat) ({ cls := "PillarDesk", name := "lastFactorTried", desc := "()I" } : Jvm.MethodName)) ∈ zz_tbl := zz_mem 1221 (by decide +kernel) rfl
theorem tm_1223 : (Jvm.Cond.instanceMethod ({ cls := "PillarDesk", name := "lastFactorTried", desc := "()I" } : Jvm.MethodName)) ∈ zz_tbl := zz_mem 1223 (by decide +kernel) rfl
theorem tm_1224 : (Jvm.Cond.code ({ cls := "PillarDesk", name := "lastFactorTried", desc := "()I" } : Jvm.MethodName) prog_1_method_20_code (1 : Nat) (Option.some Jvm.ClassFile.FieldType.int)) ∈ zz_tbl := zz_mem 1224 (by decide +kernel) rfl
theorem tm_1225 : (Jvm.Cond.methodLink "PillarDesk" (275 : Nat) ({ cls := "PillarDesk$Curve", name := "lastFactor", desc := "()I" } : Jvm.MethodName)) ∈ zz_tbl := zz_mem 1225 (by decide +kernel) rfl
theorem tm_1226 : (Jvm.Cond.instanceMethod ({ cls := "PillarDesk$Curve", name := "lastFactor", desc := "()I" } : Jvm.MethodName)) ∈ zz_tbl := zz_mem 1226 (by decide +kernel) rfl
theorem tm_1227 : (Jvm.Cond.selects "PillarDesk$Curve" ({ cls := "PillarDesk$Curve", name := "lastFactor", desc := "()I" } : Jvm.MethodName) ({ cls := "PillarDesk$Curve", name := "lastFactor", desc := "()I" } : Jvm.MethodName)) ∈ zz_tbl := zz_mem 1227 (by decide +kernel) rfl
theorem tm_1228 : (Jvm.Cond.code ({ cls := "PillarDesk$Curve", name := "lastFactor", desc := "()I" } : Jvm.MethodName) prog_3_method_14_code (1 : Nat) (Option.some Jvm.ClassFile.FieldType.int)) ∈ zz_tbl := zz_mem 1228 (by decide +kernel) rfl
theorem tm_1237 : (Jvm.Cond.methodLink "PillarDesk" (281 : Nat) ({ cls := "PillarDesk", name := "drawnDeed", desc := "()I" } : Jvm.MethodName)) ∈ zz_tbl := zz_mem 1237 (by decide +kernel) rfl
theorem tm_1239 : (Jvm.Cond.instanceMethod ({ cls := "PillarDesk", name := "drawnDeed", desc := "()I" } : Jvm.MethodName)) ∈ zz_tbl := zz_mem 1239 (by decide +kernel) rfl
theorem tm_1240 : (Jvm.Cond.code ({ cls := "PillarDesk", name := "drawnDeed", desc := "()I" } : Jvm.MethodName) prog_1_method_24_code (3 : Nat) (Option.some Jvm.ClassFile.FieldType.int)) ∈ zz_tbl := zz_mem 1240 (by decide +kernel) rfl
theorem tm_1241 : (Jvm.Cond.methodLink "PillarDesk" (285 : Nat) ({ cls := "PillarDesk", name := "drawn", desc := "()I" } : Jvm.MethodName)) ∈ zz_tbl := zz_mem 1241 (by decide +kernel) rfl
theorem tm_1243 : (Jvm.Cond.instanceMethod ({ cls := "PillarDesk", name := "drawn", desc := "()I" } : Jvm.MethodName)) ∈ zz_tbl := zz_mem 1243 (by decide +kernel) rfl
theorem tm_1244 : (Jvm.Cond.code ({ cls := "PillarDesk", name := "drawn", desc := "()I" } : Jvm.MethodName) prog_1_method_23_code (1 : Nat) (Option.some Jvm.ClassFile.FieldType.int)) ∈ zz_tbl := zz_mem 1244 (by decide +kernel) rfl
theorem tm_1245 : (Jvm.Cond.constant "PillarDesk" (284 : Nat) (1103515245 : Int32)) ∈ zz_tbl := zz_mem 1245 (by decide +kernel) rfl
theorem tm_1254 : (Jvm.Cond.methodLink "PillarDesk" (305 : Nat) ({ cls := "PillarDesk$Schedule", name := "hasPillar", desc := "(I)Z" } : Jvm.MethodName)) ∈ zz_tbl := zz_mem 1254 (by decide +kernel) rfl
theorem tm_1255 : (Jvm.Cond.instanceMethod ({ cls := "PillarDesk$Schedule", name := "hasPillar", desc := "(I)Z" } : Jvm.MethodName)) ∈ zz_tbl := zz_mem 1255 (by decide +kernel) rfl
theorem tm_1256 : (Jvm.Cond.selects "PillarDesk$Schedule" ({ cls := "PillarDesk$Schedule", name := "hasPillar", desc := "(I)Z" } : Jvm.MethodName) ({ cls := "PillarDesk$Schedule", name := "hasPillar", desc := "(I)Z" } : Jvm.MethodName)) ∈ zz_tbl := zz_mem 1256 (by decide +kernel) rfl
theorem tm_1257 : (Jvm.Cond.code ({ cls := "PillarDesk$Schedule", name := "hasPillar", desc := "(I)Z" } : Jvm.MethodName) prog_10_method_6_code (2 : Nat) (Option.some Jvm.ClassFile.FieldType.boolean)) ∈ zz_tbl := zz_mem 1257 (by decide +kernel) rfl
theorem tm_1262 : (Jvm.Cond.methodLink "PillarDesk" (317 : Nat) ({ cls := "PillarDesk$Curve", name := "factorAt", desc := "(I)I" } : Jvm.MethodName)) ∈ zz_tbl := zz_mem 1262 (by decide +kernel) rfl
theorem tm_1267 : (Jvm.Cond.methodLink "PillarDesk" (320 : Nat) ({ cls := "PillarDesk$Curve", name := "rateBetween", desc := "(II)I" } : Jvm.MethodName)) ∈ zz_tbl := zz_mem 1267 (by decide +kernel) rfl
theorem tm_1268 : (Jvm.Cond.instanceMethod ({ cls := "PillarDesk$Curve", name := "rateBetween", desc := "(II)I" } : Jvm.MethodName)) ∈ zz_tbl := zz_mem 1268 (by decide +kernel) rfl
theorem tm_1269 : (Jvm.Cond.selects "PillarDesk$Curve" ({ cls := "PillarDesk$Curve", name := "rateBetween", desc := "(II)I" } : Jvm.MethodName) ({ cls := "PillarDesk$Curve", name := "rateBetween", desc := "(II)I" } : Jvm.MethodName)) ∈ zz_tbl := zz_mem 1269 (by decide +kernel) rfl
theorem tm_1270 : (Jvm.Cond.code ({ cls := "PillarDesk$Curve", name := "rateBetween", desc := "(II)I" } : Jvm.MethodName) prog_3_method_16_code (7 : Nat) (Option.some Jvm.ClassFile.FieldType.int)) ∈ zz_tbl := zz_mem 1270 (by decide +kernel) rfl
theorem tm_1275 : (Jvm.Cond.methodLink "PillarDesk" (323 : Nat) ({ cls := "PillarDesk$Curve", name := "swapRate", desc := "(I)I" } : Jvm.MethodName)) ∈ zz_tbl := zz_mem 1275 (by decide +kernel) rfl
theorem tm_1276 : (Jvm.Cond.instanceMethod ({ cls := "PillarDesk$Curve", name := "swapRate", desc := "(I)I" } : Jvm.MethodName)) ∈ zz_tbl := zz_mem 1276 (by decide +kernel) rfl
theorem tm_1277 : (Jvm.Cond.selects "PillarDesk$Curve" ({ cls := "PillarDesk$Curve", name := "swapRate", desc := "(I)I" } : Jvm.MethodName) ({ cls := "PillarDesk$Curve", name := "swapRate", desc := "(I)I" } : Jvm.MethodName)) ∈ zz_tbl := zz_mem 1277 (by decide +kernel) rfl
theorem tm_1278 : (Jvm.Cond.code ({ cls := "PillarDesk$Curve", name := "swapRate", desc := "(I)I" } : Jvm.MethodName) prog_3_method_17_code (6 : Nat) (Option.some Jvm.ClassFile.FieldType.int)) ∈ zz_tbl := zz_mem 1278 (by decide +kernel) rfl
theorem tm_1287 : (Jvm.Cond.methodLink "PillarDesk" (326 : Nat) ({ cls := "PillarDesk", name := "bumpedTrial", desc := "(II)LPillarDesk$Curve;" } : Jvm.MethodName)) ∈ zz_tbl := zz_mem 1287 (by decide +kernel) rfl
theorem tm_1289 : (Jvm.Cond.instanceMethod ({ cls := "PillarDesk", name := "bumpedTrial", desc := "(II)LPillarDesk$Curve;" } : Jvm.MethodName)) ∈ zz_tbl := zz_mem 1289 (by decide +kernel) rfl
theorem tm_1290 : (Jvm.Cond.code ({ cls := "PillarDesk", name := "bumpedTrial", desc := "(II)LPillarDesk$Curve;" } : Jvm.MethodName) prog_1_method_26_code (3 : Nat) (Option.some (Jvm.ClassFile.FieldType.object "PillarDesk$Curve"))) ∈ zz_tbl := zz_mem 1290 (by decide +kernel) rfl
theorem tm_1291 : (Jvm.Cond.methodLink "PillarDesk" (288 : Nat) ({ cls := "PillarDesk$Curve", name := "copyFrom", desc := "(LPillarDesk$Curve;)V" } : Jvm.MethodName)) ∈ zz_tbl := zz_mem 1291 (by decide +kernel) rfl
theorem tm_1292 : (Jvm.Cond.instanceMethod ({ cls := "PillarDesk$Curve", name := "copyFrom", desc := "(LPillarDesk$Curve;)V" } : Jvm.MethodName)) ∈ zz_tbl := zz_mem 1292 (by decide +kernel) rfl
theorem tm_1293 : (Jvm.Cond.selects "PillarDesk$Curve" ({ cls := "PillarDesk$Curve", name := "copyFrom", desc := "(LPillarDesk$Curve;)V" } : Jvm.MethodName) ({ cls := "PillarDesk$Curve", name := "copyFrom", desc := "(LPillarDesk$Curve;)V" } : Jvm.MethodName)) ∈ zz_tbl := zz_mem 1293 (by decide +kernel) rfl
theorem tm_1294 : (Jvm.Cond.code ({ cls := "PillarDesk$Curve", name := "copyFrom", desc := "(LPillarDesk$Curve;)V" } : Jvm.MethodName) prog_3_method_2_code (2 : Nat) (Option.none : Option Jvm.ClassFile.FieldType)) ∈ zz_tbl := zz_mem 1294 (by decide +kernel) rfl
theorem tm_1295 : (Jvm.Cond.methodLink "PillarDesk$Curve" (33 : Nat) ({ cls := "java/lang/System", name := "arraycopy", desc := "(Ljava/lang/Object;ILjava/lang/Object;II)V" } : Jvm.MethodName)) ∈ zz_tbl := zz_mem 1295 (by decide +kernel) rfl
theorem tm_1296 : (Jvm.Cond.methodLink "PillarDesk" (291 : Nat) ({ cls := "PillarDesk", name := "inRateBounds", desc := "(I)I" } : Jvm.MethodName)) ∈ zz_tbl := zz_mem 1296 (by decide +kernel) rfl
theorem tm_1305 : (Jvm.Cond.methodLink "PillarDesk" (330 : Nat) ({ cls := "PillarDesk$Curve", name := "bookWorth", desc := "()J" } : Jvm.MethodName)) ∈ zz_tbl := zz_mem 1305 (by decide +kernel) rfl
theorem tm_1306 : (Jvm.Cond.instanceMethod ({ cls := "PillarDesk$Curve", name := "bookWorth", desc := "()J" } : Jvm.MethodName)) ∈ zz_tbl := zz_mem 1306 (by decide +kernel) rfl
theorem tm_1307 : (Jvm.Cond.selects "PillarDesk$Curve" ({ cls := "PillarDesk$Curve", name := "bookWorth", desc := "()J" } : Jvm.MethodName) ({ cls := "PillarDesk$Curve", name := "bookWorth", desc := "()J" } : Jvm.MethodName)) ∈ zz_tbl := zz_mem 1307 (by decide +kernel) rfl
theorem tm_1308 : (Jvm.Cond.code ({ cls := "PillarDesk$Curve", name := "bookWorth", desc := "()J" } : Jvm.MethodName) prog_3_method_18_code (4 : Nat) (Option.some Jvm.ClassFile.FieldType.long)) ∈ zz_tbl := zz_mem 1308 (by decide +kernel) rfl
theorem tm_1317 : (Jvm.Cond.constantLong "PillarDesk" (334 : Nat) (-9000000000000000003 : Int64)) ∈ zz_tbl := zz_mem 1317 (by decide +kernel) rfl
theorem tm_1322 : (Jvm.Cond.constantLong "PillarDesk" (336 : Nat) (-1 : Int64)) ∈ zz_tbl := zz_mem 1322 (by decide +kernel) rfl
theorem tm_1323 : (Jvm.Cond.methodLink "PillarDesk" (341 : Nat) ({ cls := "java/lang/Math", name := "abs", desc := "(J)J" } : Jvm.MethodName)) ∈ zz_tbl := zz_mem 1323 (by decide +kernel) rfl
theorem tm_1324 : (Jvm.Cond.static ({ cls := "java/lang/Math", name := "abs", desc := "(J)J" } : Jvm.MethodName)) ∈ zz_tbl := zz_mem 1324 (by decide +kernel) rfl
theorem tm_1325 : (Jvm.Cond.code ({ cls := "java/lang/Math", name := "abs", desc := "(J)J" } : Jvm.MethodName) prog_16_method_61_code (2 : Nat) (Option.some Jvm.ClassFile.FieldType.long)) ∈ zz_tbl := zz_mem 1325 (by decide +kernel) rfl
theorem tm_1334 : (Jvm.Cond.methodLink "PillarDesk" (345 : Nat) ({ cls := "PillarDesk$Hedge", name := "bookHang", desc := "(I)J" } : Jvm.MethodName)) ∈ zz_tbl := zz_mem 1334 (by decide +kernel) rfl
theorem tm_1335 : (Jvm.Cond.instanceMethod ({ cls := "PillarDesk$Hedge", name := "bookHang", desc := "(I)J" } : Jvm.MethodName)) ∈ zz_tbl := zz_mem 1335 (by decide +kernel) rfl
theorem tm_1336 : (Jvm.Cond.selects "PillarDesk$Hedge" ({ cls := "PillarDesk$Hedge", name := "bookHang", desc := "(I)J" } : Jvm.MethodName) ({ cls := "PillarDesk$Hedge", name := "bookHang", desc := "(I)J" } : Jvm.MethodName)) ∈ zz_tbl := zz_mem 1336 (by decide +kernel) rfl
theorem tm_1337 : (Jvm.Cond.code ({ cls := "PillarDesk$Hedge", name := "bookHang", desc := "(I)J" } : Jvm.MethodName) prog_4_method_2_code (5 : Nat) (Option.some Jvm.ClassFile.FieldType.long)) ∈ zz_tbl := zz_mem 1337 (by decide +kernel) rfl
theorem tm_1338 : (Jvm.Cond.methodLink "PillarDesk$Hedge" (49 : Nat) ({ cls := "PillarDesk$Schedule", name := "weight", desc := "(II)I" } : Jvm.MethodName)) ∈ zz_tbl := zz_mem 1338 (by decide +kernel) rfl
theorem tm_1339 : (Jvm.Cond.instanceMethod ({ cls := "PillarDesk$Schedule", name := "weight", desc := "(II)I" } : Jvm.MethodName)) ∈ zz_tbl := zz_mem 1339 (by decide +kernel) rfl
theorem tm_1340 : (Jvm.Cond.selects "PillarDesk$Schedule" ({ cls := "PillarDesk$Schedule", name := "weight", desc := "(II)I" } : Jvm.MethodName) ({ cls := "PillarDesk$Schedule", name := "weight", desc := "(II)I" } : Jvm.MethodName)) ∈ zz_tbl := zz_mem 1340 (by decide +kernel) rfl
theorem tm_1341 : (Jvm.Cond.code ({ cls := "PillarDesk$Schedule", name := "weight", desc := "(II)I" } : Jvm.MethodName) prog_10_method_11_code (6 : Nat) (Option.some Jvm.ClassFile.FieldType.int)) ∈ zz_tbl := zz_mem 1341 (by decide +kernel) rfl
theorem tm_1342 : (Jvm.Cond.methodLink "PillarDesk$Schedule" (96 : Nat) ({ cls := "PillarDesk$Schedule", name := "pillarAt", desc := "(I)I" } : Jvm.MethodName)) ∈ zz_tbl := zz_mem 1342 (by decide +kernel) rfl
theorem tm_1347 : (Jvm.Cond.methodLink "PillarDesk" (349 : Nat) ({ cls := "PillarDesk$Hedge", name := "flatten", desc := "()V" } : Jvm.MethodName)) ∈ zz_tbl := zz_mem 1347 (by decide +kernel) rfl
theorem tm_1348 : (Jvm.Cond.instanceMethod ({ cls := "PillarDesk$Hedge", name := "flatten", desc := "()V" } : Jvm.MethodName)) ∈ zz_tbl := zz_mem 1348 (by decide +kernel) rfl
theorem tm_1349 : (Jvm.Cond.selects "PillarDesk$Hedge" ({ cls := "PillarDesk$Hedge", name := "flatten", desc := "()V" } : Jvm.MethodName) ({ cls := "PillarDesk$Hedge", name := "flatten", desc := "()V" } : Jvm.MethodName)) ∈ zz_tbl := zz_mem 1349 (by decide +kernel) rfl
theorem tm_1350 : (Jvm.Cond.code ({ cls := "PillarDesk$Hedge", name := "flatten", desc := "()V" } : Jvm.MethodName) prog_4_method_5_code (2 : Nat) (Option.none : Option Jvm.ClassFile.FieldType)) ∈ zz_tbl := zz_mem 1350 (by decide +kernel) rfl
theorem tm_1351 : (Jvm.Cond.methodLink "PillarDesk$Hedge" (91 : Nat) ({ cls := "PillarDesk$Hedge", name := "bookHang", desc := "(I)J" } : Jvm.MethodName)) ∈ zz_tbl := zz_mem 1351 (by decide +kernel) rfl
theorem tm_1352 : (Jvm.Cond.constantLong "PillarDesk$Hedge" (55 : Nat) (3600000 : Int64)) ∈ zz_tbl := zz_mem 1352 (by decide +kernel) rfl
theorem tm_1353 : (Jvm.Cond.constantLong "PillarDesk$Hedge" (95 : Nat) (1000 : Int64)) ∈ zz_tbl := zz_mem 1353 (by decide +kernel) rfl
theorem tm_1354 : (Jvm.Cond.methodLink "PillarDesk$Hedge" (97 : Nat) ({ cls := "PillarDesk$Hedge", name := "takePieces", desc := "(I)V" } : Jvm.MethodName)) ∈ zz_tbl := zz_mem 1354 (by decide +kernel) rfl
theorem tm_1356 : (Jvm.Cond.instanceMethod ({ cls := "PillarDesk$Hedge", name := "takePieces", desc := "(I)V" } : Jvm.MethodName)) ∈ zz_tbl := zz_mem 1356 (by decide +kernel) rfl
theorem tm_1357 : (Jvm.Cond.code ({ cls := "PillarDesk$Hedge", name := "takePieces", desc := "(I)V" } : Jvm.MethodName) prog_4_method_6_code (6 : Nat) (Option.none : Option Jvm.ClassFile.FieldType)) ∈ zz_tbl := zz_mem 1357 (by decide +kernel) rfl
theorem tm_1358 : (Jvm.Cond.methodLink "PillarDesk$Hedge" (104 : Nat) ({ cls := "PillarDesk$Hedge", name := "pieceHang", desc := "(II)J" } : Jvm.MethodName)) ∈ zz_tbl := zz_mem 1358 (by decide +kernel) rfl
theorem tm_1360 : (Jvm.Cond.instanceMethod ({ cls := "PillarDesk$Hedge", name := "pieceHang", desc := "(II)J" } : Jvm.MethodName)) ∈ zz_tbl := zz_mem 1360 (by decide +kernel) rfl
theorem tm_1361 : (Jvm.Cond.code ({ cls := "PillarDesk$Hedge", name := "pieceHang", desc := "(II)J" } : Jvm.MethodName) prog_4_method_3_code (7 : Nat) (Option.some Jvm.ClassFile.FieldType.long)) ∈ zz_tbl := zz_mem 1361 (by decide +kernel) rfl
theorem tm_1362 : (Jvm.Cond.methodLink "PillarDesk$Hedge" (63 : Nat) ({ cls := "PillarDesk$Hedge", name := "dueHang", desc := "(II)J" } : Jvm.MethodName)) ∈ zz_tbl := zz_mem 1362 (by decide +kernel) rfl
theorem tm_1364 : (Jvm.Cond.instanceMethod ({ cls := "PillarDesk$Hedge", name := "dueHang", desc := "(II)J" } : Jvm.MethodName)) ∈ zz_tbl := zz_mem 1364 (by decide +kernel) rfl
theorem tm_1365 : (Jvm.Cond.code ({ cls := "PillarDesk$Hedge", name := "dueHang", desc := "(II)J" } : Jvm.MethodName) prog_4_method_4_code (8 : Nat) (Option.some Jvm.ClassFile.FieldType.long)) ∈ zz_tbl := zz_mem 1365 (by decide +kernel) rfl
theorem tm_1366 : (Jvm.Cond.methodLink "PillarDesk$Hedge" (82 : Nat) ({ cls := "PillarDesk$Schedule", name := "periodDays", desc := "(II)I" } : Jvm.MethodName)) ∈ zz_tbl := zz_mem 1366 (by decide +kernel) rfl
theorem tm_1367 : (Jvm.Cond.methodLink "PillarDesk$Hedge" (85 : Nat) ({ cls := "PillarDesk$Schedule", name := "periodEnd", desc := "(II)I" } : Jvm.MethodName)) ∈ zz_tbl := zz_mem 1367 (by decide +kernel) rfl
theorem tm_1368 : (Jvm.Cond.methodLink "PillarDesk$Hedge" (72 : Nat) ({ cls := "PillarDesk$Schedule", name := "daysOf", desc := "(I)I" } : Jvm.MethodName)) ∈ zz_tbl := zz_mem 1368 (by decide +kernel) rfl
theorem tm_1369 : (Jvm.Cond.constantLong "PillarDesk$Hedge" (107 : Nat) (2 : Int64)) ∈ zz_tbl := zz_mem 1369 (by decide +kernel) rfl
theorem tm_1370 : (Jvm.Cond.methodLink "PillarDesk$Hedge" (109 : Nat) ({ cls := "java/lang/Math", name := "floorDiv", desc := "(JJ)J" } : Jvm.MethodName)) ∈ zz_tbl := zz_mem 1370 (by decide +kernel) rfl
theorem tm_1379 : (Jvm.Cond.methodLink "PillarDesk" (358 : Nat) ({ cls := "PillarDesk", name := "toldRefusal", desc := "(I)I" } : Jvm.MethodName)) ∈ zz_tbl := zz_mem 1379 (by decide +kernel) rfl
theorem tm_1381 : (Jvm.Cond.instanceMethod ({ cls := "PillarDesk", name := "toldRefusal", desc := "(I)I" } : Jvm.MethodName)) ∈ zz_tbl := zz_mem 1381 (by decide +kernel) rfl
theorem tm_1382 : (Jvm.Cond.code ({ cls := "PillarDesk", name := "toldRefusal", desc := "(I)I" } : Jvm.MethodName) prog_1_method_45_code (3 : Nat) (Option.some Jvm.ClassFile.FieldType.int)) ∈ zz_tbl := zz_mem 1382 (by decide +kernel) rfl
theorem tm_1383 : (Jvm.Cond.constantLong "PillarDesk" (365 : Nat) (999999999999 : Int64)) ∈ zz_tbl := zz_mem 1383 (by decide +kernel) rfl
theorem tm_1384 : (Jvm.Cond.methodLink "PillarDesk" (361 : Nat) ({ cls := "PillarDesk", name := "shiftsTold", desc := "(LPillarDesk$Tray;)I" } : Jvm.MethodName)) ∈ zz_tbl := zz_mem 1384 (by decide +kernel) rfl
theorem tm_1386 : (Jvm.Cond.instanceMethod ({ cls := "PillarDesk", name := "shiftsTold", desc := "(LPillarDesk$Tray;)I" } : Jvm.MethodName)) ∈ zz_tbl := zz_mem 1386 (by decide +kernel) rfl
theorem tm_1387 : (Jvm.Cond.code ({ cls := "PillarDesk", name := "shiftsTold", desc := "(LPillarDesk$Tray;)I" } : Jvm.MethodName) prog_1_method_46_code (5 : Nat) (Option.some Jvm.ClassFile.FieldType.int)) ∈ zz_tbl := zz_mem 1387 (by decide +kernel) rfl
theorem tm_1388 : (Jvm.Cond.methodLink "PillarDesk" (367 : Nat) ({ cls := "PillarDesk", name := "trialIsTold", desc := "(LPillarDesk$Tray;)Z" } : Jvm.MethodName)) ∈ zz_tbl := zz_mem 1388 (by decide +kernel) rfl
theorem tm_1390 : (Jvm.Cond.instanceMethod ({ cls := "PillarDesk", name := "trialIsTold", desc := "(LPillarDesk$Tray;)Z" } : Jvm.MethodName)) ∈ zz_tbl := zz_mem 1390 (by decide +kernel) rfl
theorem tm_1391 : (Jvm.Cond.code ({ cls := "PillarDesk", name := "trialIsTold", desc := "(LPillarDesk$Tray;)Z" } : Jvm.MethodName) prog_1_method_47_code (4 : Nat) (Option.some Jvm.ClassFile.FieldType.boolean)) ∈ zz_tbl := zz_mem 1391 (by decide +kernel) rfl
theorem tm_1392 : (Jvm.Cond.constantLong "PillarDesk" (371 : Nat) (100000000 : Int64)) ∈ zz_tbl := zz_mem 1392 (by decide +kernel) rfl
theorem tm_1397 : (Jvm.Cond.methodLink "PillarDesk" (373 : Nat) ({ cls := "PillarDesk", name := "mostAlike", desc := "(II)I" } : Jvm.MethodName)) ∈ zz_tbl := zz_mem 1397 (by decide +kernel) rfl
theorem tm_1399 : (Jvm.Cond.instanceMethod ({ cls := "PillarDesk", name := "mostAlike", desc := "(II)I" } : Jvm.MethodName)) ∈ zz_tbl := zz_mem 1399 (by decide +kernel) rfl
theorem tm_1400 : (Jvm.Cond.code ({ cls := "PillarDesk", name := "mostAlike", desc := "(II)I" } : Jvm.MethodName) prog_1_method_49_code (8 : Nat) (Option.some Jvm.ClassFile.FieldType.int)) ∈ zz_tbl := zz_mem 1400 (by decide +kernel) rfl
theorem tm_1405 : (Jvm.Cond.constantLong "PillarDesk" (376 : Nat) (-1000000 : Int64)) ∈ zz_tbl := zz_mem 1405 (by decide +kernel) rfl
theorem tm_1406 : (Jvm.Cond.constantLong "PillarDesk" (378 : Nat) (1000000 : Int64)) ∈ zz_tbl := zz_mem 1406 (by decide +kernel) rfl
theorem tm_1407 : (Jvm.Cond.constantLong "PillarDesk" (380 : Nat) (1000000000 : Int64)) ∈ zz_tbl := zz_mem 1407 (by decide +kernel) rfl
theorem tm_1408 : (Jvm.Cond.methodLink "PillarDesk" (382 : Nat) ({ cls := "PillarDesk$Odds", name := "tally", desc := "(IIJ)V" } : Jvm.MethodName)) ∈ zz_tbl := zz_mem 1408 (by decide +kernel) rfl
theorem tm_1409 : (Jvm.Cond.instanceMethod ({ cls := "PillarDesk$Odds", name := "tally", desc := "(IIJ)V" } : Jvm.MethodName)) ∈ zz_tbl := zz_mem 1409 (by decide +kernel) rfl
theorem tm_1410 : (Jvm.Cond.selects "PillarDesk$Odds" ({ cls := "PillarDesk$Odds", name := "tally", desc := "(IIJ)V" } : Jvm.MethodName) ({ cls := "PillarDesk$Odds", name := "tally", desc := "(IIJ)V" } : Jvm.MethodName)) ∈ zz_tbl := zz_mem 1410 (by decide +kernel) rfl
theorem tm_1411 : (Jvm.Cond.code ({ cls := "PillarDesk$Odds", name := "tally", desc := "(IIJ)V" } : Jvm.MethodName) prog_6_method_2_code (8 : Nat) (Option.none : Option Jvm.ClassFile.FieldType)) ∈ zz_tbl := zz_mem 1411 (by decide +kernel) rfl
theorem tm_1412 : (Jvm.Cond.methodLink "PillarDesk$Odds" (42 : Nat) ({ cls := "PillarDesk$Odds", name := "drawInOrder", desc := "(III)Z" } : Jvm.MethodName)) ∈ zz_tbl := zz_mem 1412 (by decide +kernel) rfl
theorem tm_1414 : (Jvm.Cond.instanceMethod ({ cls := "PillarDesk$Odds", name := "drawInOrder", desc := "(III)Z" } : Jvm.MethodName)) ∈ zz_tbl := zz_mem 1414 (by decide +kernel) rfl
theorem tm_1415 : (Jvm.Cond.code ({ cls := "PillarDesk$Odds", name := "drawInOrder", desc := "(III)Z" } : Jvm.MethodName) prog_6_method_3_code (6 : Nat) (Option.some Jvm.ClassFile.FieldType.boolean)) ∈ zz_tbl := zz_mem 1415 (by decide +kernel) rfl
theorem tm_1416 : (Jvm.Cond.methodLink "PillarDesk$Odds" (46 : Nat) ({ cls := "PillarDesk$Odds", name := "addDraw", desc := "(IIJ)V" } : Jvm.MethodName)) ∈ zz_tbl := zz_mem 1416 (by decide +kernel) rfl
theorem tm_1418 : (Jvm.Cond.instanceMethod ({ cls := "PillarDesk$Odds", name := "addDraw", desc := "(IIJ)V" } : Jvm.MethodName)) ∈ zz_tbl := zz_mem 1418 (by decide +kernel) rfl
theorem tm_1419 : (Jvm.Cond.code ({ cls := "PillarDesk$Odds", name := "addDraw", desc := "(IIJ)V" } : Jvm.MethodName) prog_6_method_4_code (9 : Nat) (Option.none : Option Jvm.ClassFile.FieldType)) ∈ zz_tbl := zz_mem 1419 (by decide +kernel) rfl
theorem tm_1420 : (Jvm.Cond.methodLink "PillarDesk$Odds" (50 : Nat) ({ cls := "PillarDesk$Curve", name := "copyFrom", desc := "(LPillarDesk$Curve;)V" } : Jvm.MethodName)) ∈ zz_tbl := zz_mem 1420 (by decide +kernel) rfl
theorem tm_1421 : (Jvm.Cond.methodLink "PillarDesk$Odds" (56 : Nat) ({ cls := "PillarDesk$Odds", name := "orders", desc := "(I)J" } : Jvm.MethodName)) ∈ zz_tbl := zz_mem 1421 (by decide +kernel) rfl
theorem tm_1423 : (Jvm.Cond.instanceMethod ({ cls := "PillarDesk$Odds", name := "orders", desc := "(I)J" } : Jvm.MethodName)) ∈ zz_tbl := zz_mem 1423 (by decide +kernel) rfl
theorem tm_1424 : (Jvm.Cond.code ({ cls := "PillarDesk$Odds", name := "orders", desc := "(I)J" } : Jvm.MethodName) prog_6_method_5_code (4 : Nat) (Option.some Jvm.ClassFile.FieldType.long)) ∈ zz_tbl := zz_mem 1424 (by decide +kernel) rfl
theorem tm_1425 : (Jvm.Cond.constantLong "PillarDesk$Odds" (75 : Nat) (2 : Int64)) ∈ zz_tbl := zz_mem 1425 (by decide +kernel) rfl
theorem tm_1426 : (Jvm.Cond.constantLong "PillarDesk$Odds" (77 : Nat) (3 : Int64)) ∈ zz_tbl := zz_mem 1426 (by decide +kernel) rfl
theorem tm_1427 : (Jvm.Cond.constantLong "PillarDesk$Odds" (79 : Nat) (6 : Int64)) ∈ zz_tbl := zz_mem 1427 (by decide +kernel) rfl
theorem tm_1429 : (Jvm.Cond.methodLink "PillarDesk$Odds" (67 : Nat) ({ cls := "PillarDesk$Curve", name := "solve", desc := "(I)V" } : Jvm.MethodName)) ∈ zz_tbl := zz_mem 1429 (by decide +kernel) rfl
theorem tm_1430 : (Jvm.Cond.methodLink "PillarDesk$Odds" (71 : Nat) ({ cls := "PillarDesk$Curve", name := "bookWorth", desc := "()J" } : Jvm.MethodName)) ∈ zz_tbl := zz_mem 1430 (by decide +kernel) rfl
theorem tm_1431 : (Jvm.Cond.methodLink "PillarDesk" (393 : Nat) ({ cls := "PillarDesk$Odds", name := "inLowestTerms", desc := "(JJI)J" } : Jvm.MethodName)) ∈ zz_tbl := zz_mem 1431 (by decide +kernel) rfl
theorem tm_1432 : (Jvm.Cond.static ({ cls := "PillarDesk$Odds", name := "inLowestTerms", desc := "(JJI)J" } : Jvm.MethodName)) ∈ zz_tbl := zz_mem 1432 (by decide +kernel) rfl
theorem tm_1433 : (Jvm.Cond.code ({ cls := "PillarDesk$Odds", name := "inLowestTerms", desc := "(JJI)J" } : Jvm.MethodName) prog_6_method_6_code (12 : Nat) (Option.some Jvm.ClassFile.FieldType.long)) ∈ zz_tbl := zz_mem 1433 (by decide +kernel) rfl
theorem tm_1434 : (Jvm.Cond.methodLink "PillarDesk$Odds" (81 : Nat) ({ cls := "java/lang/Math", name := "abs", desc := "(J)J" } : Jvm.MethodName)) ∈ zz_tbl := zz_mem 1434 (by decide +kernel) rfl
theorem tm_1443 : (Jvm.Cond.methodLink "PillarDesk" (400 : Nat) ({ cls := "PillarDesk$Tray", name := "renew", desc := "(II)V" } : Jvm.MethodName)) ∈ zz_tbl := zz_mem 1443 (by decide +kernel) rfl
theorem tm_1444 : (Jvm.Cond.instanceMethod ({ cls := "PillarDesk$Tray", name := "renew", desc := "(II)V" } : Jvm.MethodName)) ∈ zz_tbl := zz_mem 1444 (by decide +kernel) rfl
theorem tm_1445 : (Jvm.Cond.selects "PillarDesk$Tray" ({ cls := "PillarDesk$Tray", name := "renew", desc := "(II)V" } : Jvm.MethodName) ({ cls := "PillarDesk$Tray", name := "renew", desc := "(II)V" } : Jvm.MethodName)) ∈ zz_tbl := zz_mem 1445 (by decide +kernel) rfl
theorem tm_1446 : (Jvm.Cond.code ({ cls := "PillarDesk$Tray", name := "renew", desc := "(II)V" } : Jvm.MethodName) prog_12_method_3_code (3 : Nat) (Option.none : Option Jvm.ClassFile.FieldType)) ∈ zz_tbl := zz_mem 1446 (by decide +kernel) rfl
theorem tm_1447 : (Jvm.Cond.methodLink "PillarDesk$Tray" (22 : Nat) ({ cls := "java/util/Arrays", name := "fill", desc := "([JJ)V" } : Jvm.MethodName)) ∈ zz_tbl := zz_mem 1447 (by decide +kernel) rfl
theorem tm_1448 : (Jvm.Cond.static ({ cls := "java/util/Arrays", name := "fill", desc := "([JJ)V" } : Jvm.MethodName)) ∈ zz_tbl := zz_mem 1448 (by decide +kernel) rfl
theorem tm_1449 : (Jvm.Cond.code ({ cls := "java/util/Arrays", name := "fill", desc := "([JJ)V" } : Jvm.MethodName) prog_21_method_101_code (5 : Nat) (Option.none : Option Jvm.ClassFile.FieldType)) ∈ zz_tbl := zz_mem 1449 (by decide +kernel) rfl
theorem tm_1454 : (Jvm.Cond.constantLong "PillarDesk" (404 : Nat) (-2 : Int64)) ∈ zz_tbl := zz_mem 1454 (by decide +kernel) rfl
theorem tm_1455 : (Jvm.Cond.constantLong "PillarDesk" (406 : Nat) (-6 : Int64)) ∈ zz_tbl := zz_mem 1455 (by decide +kernel) rfl
theorem tm_1456 : (Jvm.Cond.constantLong "PillarDesk" (408 : Nat) (-7 : Int64)) ∈ zz_tbl := zz_mem 1456 (by decide +kernel) rfl
theorem tm_1457 : (Jvm.Cond.methodLink "PillarDesk" (410 : Nat) ({ cls := "PillarDesk$Tray", name := "put", desc := "(IJ)V" } : Jvm.MethodName)) ∈ zz_tbl := zz_mem 1457 (by decide +kernel) rfl
theorem tm_1458 : (Jvm.Cond.instanceMethod ({ cls := "PillarDesk$Tray", name := "put", desc := "(IJ)V" } : Jvm.MethodName)) ∈ zz_tbl := zz_mem 1458 (by decide +kernel) rfl
theorem tm_1459 : (Jvm.Cond.selects "PillarDesk$Tray" ({ cls := "PillarDesk$Tray", name := "put", desc := "(IJ)V" } : Jvm.MethodName) ({ cls := "PillarDesk$Tray", name := "put", desc := "(IJ)V" } : Jvm.MethodName)) ∈ zz_tbl := zz_mem 1459 (by decide +kernel) rfl
theorem tm_1460 : (Jvm.Cond.code ({ cls := "PillarDesk$Tray", name := "put", desc := "(IJ)V" } : Jvm.MethodName) prog_12_method_4_code (4 : Nat) (Option.none : Option Jvm.ClassFile.FieldType)) ∈ zz_tbl := zz_mem 1460 (by decide +kernel) rfl
theorem tm_1483 : (Jvm.Cond.methodLink "PillarDeskModel" (94 : Nat) ({ cls := "PillarDeskModel", name := "plain", desc := "([I)V" } : Jvm.MethodName)) ∈ zz_tbl := zz_mem 1483 (by decide +kernel) rfl
theorem tm_1484 : (Jvm.Cond.static ({ cls := "PillarDeskModel", name := "plain", desc := "([I)V" } : Jvm.MethodName)) ∈ zz_tbl := zz_mem 1484 (by decide +kernel) rfl
theorem tm_1485 : (Jvm.Cond.code ({ cls := "PillarDeskModel", name := "plain", desc := "([I)V" } : Jvm.MethodName) prog_14_method_4_code (2 : Nat) (Option.none : Option Jvm.ClassFile.FieldType)) ∈ zz_tbl := zz_mem 1485 (by decide +kernel) rfl
theorem tm_1486 : (Jvm.Cond.methodLink "PillarDeskModel" (98 : Nat) ({ cls := "PillarDeskModel", name := "laysDays", desc := "()V" } : Jvm.MethodName)) ∈ zz_tbl := zz_mem 1486 (by decide +kernel) rfl
theorem tm_1488 : (Jvm.Cond.instanceMethod ({ cls := "PillarDeskModel", name := "laysDays", desc := "()V" } : Jvm.MethodName)) ∈ zz_tbl := zz_mem 1488 (by decide +kernel) rfl
theorem tm_1489 : (Jvm.Cond.code ({ cls := "PillarDeskModel", name := "laysDays", desc := "()V" } : Jvm.MethodName) prog_14_method_42_code (3 : Nat) (Option.none : Option Jvm.ClassFile.FieldType)) ∈ zz_tbl := zz_mem 1489 (by decide +kernel) rfl
theorem tm_1490 : (Jvm.Cond.methodLink "PillarDeskModel" (245 : Nat) ({ cls := "PillarDeskModel", name := "offOf", desc := "(I)I" } : Jvm.MethodName)) ∈ zz_tbl := zz_mem 1490 (by decide +kernel) rfl
theorem tm_1492 : (Jvm.Cond.instanceMethod ({ cls := "PillarDeskModel", name := "offOf", desc := "(I)I" } : Jvm.MethodName)) ∈ zz_tbl := zz_mem 1492 (by decide +kernel) rfl
theorem tm_1493 : (Jvm.Cond.code ({ cls := "PillarDeskModel", name := "offOf", desc := "(I)I" } : Jvm.MethodName) prog_14_method_41_code (3 : Nat) (Option.some Jvm.ClassFile.FieldType.int)) ∈ zz_tbl := zz_mem 1493 (by decide +kernel) rfl
theorem tm_1494 : (Jvm.Cond.methodLink "PillarDeskModel" (242 : Nat) ({ cls := "PillarDeskModel", name := "isOpen", desc := "(I)Z" } : Jvm.MethodName)) ∈ zz_tbl := zz_mem 1494 (by decide +kernel) rfl
theorem tm_1496 : (Jvm.Cond.instanceMethod ({ cls := "PillarDeskModel", name := "isOpen", desc := "(I)Z" } : Jvm.MethodName)) ∈ zz_tbl := zz_mem 1496 (by decide +kernel) rfl
theorem tm_1497 : (Jvm.Cond.code ({ cls := "PillarDeskModel", name := "isOpen", desc := "(I)Z" } : Jvm.MethodName) prog_14_method_40_code (4 : Nat) (Option.some Jvm.ClassFile.FieldType.boolean)) ∈ zz_tbl := zz_mem 1497 (by decide +kernel) rfl
theorem tm_1498 : (Jvm.Cond.methodLink "PillarDeskModel" (239 : Nat) ({ cls := "PillarDeskModel", name := "reckons", desc := "(I)I" } : Jvm.MethodName)) ∈ zz_tbl := zz_mem 1498 (by decide +kernel) rfl
theorem tm_1500 : (Jvm.Cond.instanceMethod ({ cls := "PillarDeskModel", name := "reckons", desc := "(I)I" } : Jvm.MethodName)) ∈ zz_tbl := zz_mem 1500 (by decide +kernel) rfl
theorem tm_1501 : (Jvm.Cond.code ({ cls := "PillarDeskModel", name := "reckons", desc := "(I)I" } : Jvm.MethodName) prog_14_method_39_code (5 : Nat) (Option.some Jvm.ClassFile.FieldType.int)) ∈ zz_tbl := zz_mem 1501 (by decide +kernel) rfl
theorem tm_1502 : (Jvm.Cond.methodLink "PillarDeskModel" (236 : Nat) ({ cls := "PillarDeskModel", name := "between", desc := "(III)I" } : Jvm.MethodName)) ∈ zz_tbl := zz_mem 1502 (by decide +kernel) rfl
theorem tm_1503 : (Jvm.Cond.static ({ cls := "PillarDeskModel", name := "between", desc := "(III)I" } : Jvm.MethodName)) ∈ zz_tbl := zz_mem 1503 (by decide +kernel) rfl
theorem tm_1504 : (Jvm.Cond.code ({ cls := "PillarDeskModel", name := "between", desc := "(III)I" } : Jvm.MethodName) prog_14_method_38_code (5 : Nat) (Option.some Jvm.ClassFile.FieldType.int)) ∈ zz_tbl := zz_mem 1504 (by decide +kernel) rfl
theorem tm_1505 : (Jvm.Cond.constantLong "PillarDeskModel" (232 : Nat) (1000000 : Int64)) ∈ zz_tbl := zz_mem 1505 (by decide +kernel) rfl
theorem tm_1506 : (Jvm.Cond.constantLong "PillarDeskModel" (234 : Nat) (-1000000 : Int64)) ∈ zz_tbl := zz_mem 1506 (by decide +kernel) rfl
theorem tm_1507 : (Jvm.Cond.methodLink "PillarDeskModel" (248 : Nat) ({ cls := "PillarDeskModel", name := "laysPeriods", desc := "(I)V" } : Jvm.MethodName)) ∈ zz_tbl := zz_mem 1507 (by decide +kernel) rfl
theorem tm_1509 : (Jvm.Cond.instanceMethod ({ cls := "PillarDeskModel", name := "laysPeriods", desc := "(I)V" } : Jvm.MethodName)) ∈ zz_tbl := zz_mem 1509 (by decide +kernel) rfl
theorem tm_1510 : (Jvm.Cond.code ({ cls := "PillarDeskModel", name := "laysPeriods", desc := "(I)V" } : Jvm.MethodName) prog_14_method_43_code (4 : Nat) (Option.none : Option Jvm.ClassFile.FieldType)) ∈ zz_tbl := zz_mem 1510 (by decide +kernel) rfl
theorem tm_1511 : (Jvm.Cond.fieldLink "PillarDeskModel" (1 : Nat) "PillarDeskModel" "thrown" "I") ∈ zz_tbl := zz_mem 1511 (by decide +kernel) rfl
theorem tm_1512 : (Jvm.Cond.fieldLink "PillarDeskModel" (13 : Nat) "PillarDeskModel" "all" "[I") ∈ zz_tbl := zz_mem 1512 (by decide +kernel) rfl
theorem tm_1513 : (Jvm.Cond.fieldLink "PillarDeskModel" (17 : Nat) "PillarDeskModel" "hasImage" "[Z") ∈ zz_tbl := zz_mem 1513 (by decide +kernel) rfl
theorem tm_1514 : (Jvm.Cond.fieldLink "PillarDeskModel" (21 : Nat) "PillarDeskModel" "tape" "[I") ∈ zz_tbl := zz_mem 1514 (by decide +kernel) rfl
theorem tm_1515 : (Jvm.Cond.fieldLink "PillarDeskModel" (24 : Nat) "PillarDeskModel" "fresh" "[I") ∈ zz_tbl := zz_mem 1515 (by decide +kernel) rfl
theorem tm_1516 : (Jvm.Cond.fieldLink "PillarDeskModel" (101 : Nat) "PillarDeskModel" "taped" "I") ∈ zz_tbl := zz_mem 1516 (by decide +kernel) rfl
theorem tm_1517 : (Jvm.Cond.fieldLink "PillarDeskModel" (119 : Nat) "PillarDeskModel" "at" "I") ∈ zz_tbl := zz_mem 1517 (by decide +kernel) rfl
theorem tm_1518 : (Jvm.Cond.fieldLink "PillarDeskModel" (122 : Nat) "PillarDeskModel" "behind" "I") ∈ zz_tbl := zz_mem 1518 (by decide +kernel) rfl
theorem tm_1519 : (Jvm.Cond.fieldLink "PillarDeskModel" (104 : Nat) "PillarDeskModel" "size" "I") ∈ zz_tbl := zz_mem 1519 (by decide +kernel) rfl
theorem tm_1520 : (Jvm.Cond.fieldLink "PillarDeskModel" (129 : Nat) "PillarDeskModel" "kind" "I") ∈ zz_tbl := zz_mem 1520 (by decide +kernel) rfl
theorem tm_1521 : (Jvm.Cond.fieldLink "PillarDeskModel" (142 : Nat) "PillarDeskModel" "number" "I") ∈ zz_tbl := zz_mem 1521 (by decide +kernel) rfl
theorem tm_1522 : (Jvm.Cond.fieldLink "PillarDeskModel" (147 : Nat) "PillarDeskModel" "wrong" "I") ∈ zz_tbl := zz_mem 1522 (by decide +kernel) rfl
theorem tm_1523 : (Jvm.Cond.fieldLink "PillarDeskModel" (150 : Nat) "PillarDeskModel" "wrongAt" "I") ∈ zz_tbl := zz_mem 1523 (by decide +kernel) rfl
theorem tm_1524 : (Jvm.Cond.fieldLink "PillarDeskModel" (229 : Nat) "PillarDeskModel" "faultKind" "I") ∈ zz_tbl := zz_mem 1524 (by decide +kernel) rfl
theorem tm_1525 : (Jvm.Cond.fieldLink "PillarDeskModel" (27 : Nat) "PillarDeskModel" "faultPlace" "I") ∈ zz_tbl := zz_mem 1525 (by decide +kernel) rfl
theorem tm_1526 : (Jvm.Cond.fieldLink "PillarDeskModel" (167 : Nat) "PillarDeskModel" "reading" "I") ∈ zz_tbl := zz_mem 1526 (by decide +kernel) rfl
theorem tm_1527 : (Jvm.Cond.fieldLink "PillarDeskModel" (30 : Nat) "PillarDeskModel" "reckoned" "[I") ∈ zz_tbl := zz_mem 1527 (by decide +kernel) rfl
theorem tm_1528 : (Jvm.Cond.fieldLink "PillarDeskModel" (33 : Nat) "PillarDeskModel" "words" "[I") ∈ zz_tbl := zz_mem 1528 (by decide +kernel) rfl
theorem tm_1529 : (Jvm.Cond.fieldLink "PillarDeskModel" (36 : Nat) "PillarDeskModel" "startOff" "[I") ∈ zz_tbl := zz_mem 1529 (by decide +kernel) rfl
theorem tm_1530 : (Jvm.Cond.fieldLink "PillarDeskModel" (39 : Nat) "PillarDeskModel" "endOff" "[I") ∈ zz_tbl := zz_mem 1530 (by decide +kernel) rfl
theorem tm_1531 : (Jvm.Cond.fieldLink "PillarDeskModel" (42 : Nat) "PillarDeskModel" "order" "[I") ∈ zz_tbl := zz_mem 1531 (by decide +kernel) rfl
theorem tm_1532 : (Jvm.Cond.fieldLink "PillarDeskModel" (45 : Nat) "PillarDeskModel" "periodMany" "[I") ∈ zz_tbl := zz_mem 1532 (by decide +kernel) rfl
theorem tm_1533 : (Jvm.Cond.fieldLink "PillarDeskModel" (48 : Nat) "PillarDeskModel" "periodEnd" "[I") ∈ zz_tbl := zz_mem 1533 (by decide +kernel) rfl
theorem tm_1534 : (Jvm.Cond.fieldLink "PillarDeskModel" (51 : Nat) "PillarDeskModel" "counts" "[I") ∈ zz_tbl := zz_mem 1534 (by decide +kernel) rfl
theorem tm_1535 : (Jvm.Cond.fieldLink "PillarDeskModel" (54 : Nat) "PillarDeskModel" "pillarDay" "[I") ∈ zz_tbl := zz_mem 1535 (by decide +kernel) rfl
theorem tm_1536 : (Jvm.Cond.fieldLink "PillarDeskModel" (57 : Nat) "PillarDeskModel" "pillarFactor" "[I") ∈ zz_tbl := zz_mem 1536 (by decide +kernel) rfl
theorem tm_1537 : (Jvm.Cond.fieldLink "PillarDeskModel" (60 : Nat) "PillarDeskModel" "pillarInput" "[I") ∈ zz_tbl := zz_mem 1537 (by decide +kernel) rfl
theorem tm_1538 : (Jvm.Cond.fieldLink "PillarDeskModel" (63 : Nat) "PillarDeskModel" "isUnmet" "[Z") ∈ zz_tbl := zz_mem 1538 (by decide +kernel) rfl
theorem tm_1539 : (Jvm.Cond.fieldLink "PillarDeskModel" (272 : Nat) "PillarDeskModel" "pillarMany" "I") ∈ zz_tbl := zz_mem 1539 (by decide +kernel) rfl
theorem tm_1540 : (Jvm.Cond.fieldLink "PillarDeskModel" (66 : Nat) "PillarDeskModel" "was" "[I") ∈ zz_tbl := zz_mem 1540 (by decide +kernel) rfl
theorem tm_1541 : (Jvm.Cond.fieldLink "PillarDeskModel" (353 : Nat) "PillarDeskModel" "toldWhy" "I") ∈ zz_tbl := zz_mem 1541 (by decide +kernel) rfl
theorem tm_1542 : (Jvm.Cond.fieldLink "PillarDeskModel" (378 : Nat) "PillarDeskModel" "x" "I") ∈ zz_tbl := zz_mem 1542 (by decide +kernel) rfl
theorem tm_1543 : (Jvm.Cond.fieldLink "PillarDeskModel" (69 : Nat) "PillarDeskModel" "wasFactor" "[I") ∈ zz_tbl := zz_mem 1543 (by decide +kernel) rfl
theorem tm_1544 : (Jvm.Cond.fieldLink "PillarDeskModel" (72 : Nat) "PillarDeskModel" "taken" "[J") ∈ zz_tbl := zz_mem 1544 (by decide +kernel) rfl
theorem tm_1545 : (Jvm.Cond.fieldLink "PillarDeskModel" (76 : Nat) "PillarDeskModel" "leftOn" "[J") ∈ zz_tbl := zz_mem 1545 (by decide +kernel) rfl
theorem tm_1546 : (Jvm.Cond.fieldLink "PillarDeskModel" (79 : Nat) "PillarDeskModel" "factorBy" "[I") ∈ zz_tbl := zz_mem 1546 (by decide +kernel) rfl
theorem tm_1547 : (Jvm.Cond.fieldLink "PillarDeskModel" (82 : Nat) "PillarDeskModel" "often" "[I") ∈ zz_tbl := zz_mem 1547 (by decide +kernel) rfl
theorem tm_1548 : (Jvm.Cond.fieldLink "PillarDeskModel" (450 : Nat) "PillarDeskModel" "belowSum" "J") ∈ zz_tbl := zz_mem 1548 (by decide +kernel) rfl
theorem tm_1549 : (Jvm.Cond.fieldLink "PillarDeskModel" (454 : Nat) "PillarDeskModel" "worthSum" "J") ∈ zz_tbl := zz_mem 1549 (by decide +kernel) rfl
theorem tm_1550 : (Jvm.Cond.fieldLink "PillarDeskModel" (85 : Nat) "PillarDeskModel" "rowSort" "[I") ∈ zz_tbl := zz_mem 1550 (by decide +kernel) rfl
theorem tm_1551 : (Jvm.Cond.fieldLink "PillarDeskModel" (88 : Nat) "PillarDeskModel" "rowMany" "[I") ∈ zz_tbl := zz_mem 1551 (by decide +kernel) rfl
theorem tm_1552 : (Jvm.Cond.fieldLink "PillarDeskModel" (91 : Nat) "PillarDeskModel" "numbers" "[J") ∈ zz_tbl := zz_mem 1552 (by decide +kernel) rfl
theorem tm_1553 : (Jvm.Cond.lays "PillarDeskModel" "PillarDeskModel" "thrown" "I") ∈ zz_tbl := zz_mem 1553 (by decide +kernel) rfl
theorem tm_1555 : (Jvm.Cond.laysFinal "PillarDeskModel" "PillarDeskModel" "all" "[I") ∈ zz_tbl := zz_mem 1555 (by decide +kernel) rfl
theorem tm_1557 : (Jvm.Cond.laysFinal "PillarDeskModel" "PillarDeskModel" "hasImage" "[Z") ∈ zz_tbl := zz_mem 1557 (by decide +kernel) rfl
theorem tm_1559 : (Jvm.Cond.laysFinal "PillarDeskModel" "PillarDeskModel" "tape" "[I") ∈ zz_tbl := zz_mem 1559 (by decide +kernel) rfl
theorem tm_1561 : (Jvm.Cond.laysFinal "PillarDeskModel" "PillarDeskModel" "fresh" "[I") ∈ zz_tbl := zz_mem 1561 (by decide +kernel) rfl
theorem tm_1563 : (Jvm.Cond.lays "PillarDeskModel" "PillarDeskModel" "taped" "I") ∈ zz_tbl := zz_mem 1563 (by decide +kernel) rfl
theorem tm_1565 : (Jvm.Cond.lays "PillarDeskModel" "PillarDeskModel" "at" "I") ∈ zz_tbl := zz_mem 1565 (by decide +kernel) rfl
theorem tm_1567 : (Jvm.Cond.lays "PillarDeskModel" "PillarDeskModel" "behind" "I") ∈ zz_tbl := zz_mem 1567 (by decide +kernel) rfl
theorem tm_1569 : (Jvm.Cond.lays "PillarDeskModel" "PillarDeskModel" "size" "I") ∈ zz_tbl := zz_mem 1569 (by decide +kernel) rfl
theorem tm_1571 : (Jvm.Cond.lays "PillarDeskModel" "PillarDeskModel" "kind" "I") ∈ zz_tbl := zz_mem 1571 (by decide +kernel) rfl
theorem tm_1573 : (Jvm.Cond.lays "PillarDeskModel" "PillarDeskModel" "number" "I") ∈ zz_tbl := zz_mem 1573 (by decide +kernel) rfl
theorem tm_1575 : (Jvm.Cond.lays "PillarDeskModel" "PillarDeskModel" "wrong" "I") ∈ zz_tbl := zz_mem 1575 (by decide +kernel) rfl
theorem tm_1577 : (Jvm.Cond.lays "PillarDeskModel" "PillarDeskModel" "wrongAt" "I") ∈ zz_tbl := zz_mem 1577 (by decide +kernel) rfl
theorem tm_1579 : (Jvm.Cond.lays "PillarDeskModel" "PillarDeskModel" "faultKind" "I") ∈ zz_tbl := zz_mem 1579 (by decide +kernel) rfl
theorem tm_1581 : (Jvm.Cond.lays "PillarDeskModel" "PillarDeskModel" "faultPlace" "I") ∈ zz_tbl := zz_mem 1581 (by decide +kernel) rfl
theorem tm_1583 : (Jvm.Cond.lays "PillarDeskModel" "PillarDeskModel" "reading" "I") ∈ zz_tbl := zz_mem 1583 (by decide +kernel) rfl
theorem tm_1585 : (Jvm.Cond.laysFinal "PillarDeskModel" "PillarDeskModel" "reckoned" "[I") ∈ zz_tbl := zz_mem 1585 (by decide +kernel) rfl
theorem tm_1587 : (Jvm.Cond.laysFinal "PillarDeskModel" "PillarDeskModel" "words" "[I") ∈ zz_tbl := zz_mem 1587 (by decide +kernel) rfl
theorem tm_1589 : (Jvm.Cond.laysFinal "PillarDeskModel" "PillarDeskModel" "startOff" "[I") ∈ zz_tbl := zz_mem 1589 (by decide +kernel) rfl
theorem tm_1591 : (Jvm.Cond.laysFinal "PillarDeskModel" "PillarDeskModel" "endOff" "[I") ∈ zz_tbl := zz_mem 1591 (by decide +kernel) rfl
theorem tm_1593 : (Jvm.Cond.laysFinal "PillarDeskModel" "PillarDeskModel" "order" "[I") ∈ zz_tbl := zz_mem 1593 (by decide +kernel) rfl
theorem tm_1595 : (Jvm.Cond.laysFinal "PillarDeskModel" "PillarDeskModel" "periodMany" "[I") ∈ zz_tbl := zz_mem 1595 (by decide +kernel) rfl
theorem tm_1597 : (Jvm.Cond.laysFinal "PillarDeskModel" "PillarDeskModel" "periodEnd" "[I") ∈ zz_tbl := zz_mem 1597 (by decide +kernel) rfl
theorem tm_1599 : (Jvm.Cond.laysFinal "PillarDeskModel" "PillarDeskModel" "counts" "[I") ∈ zz_tbl := zz_mem 1599 (by decide +kernel) rfl
theorem tm_1601 : (Jvm.Cond.laysFinal "PillarDeskModel" "PillarDeskModel" "pillarDay" "[I") ∈ zz_tbl := zz_mem 1601 (by decide +kernel) rfl
theorem tm_1603 : (Jvm.Cond.laysFinal "PillarDeskModel" "PillarDeskModel" "pillarFactor" "[I") ∈ zz_tbl := zz_mem 1603 (by decide +kernel) rfl
theorem tm_1605 : (Jvm.Cond.laysFinal "PillarDeskModel" "PillarDeskModel" "pillarInput" "[I") ∈ zz_tbl := zz_mem 1605 (by decide +kernel) rfl
theorem tm_1607 : (Jvm.Cond.laysFinal "PillarDeskModel" "PillarDeskModel" "isUnmet" "[Z") ∈ zz_tbl := zz_mem 1607 (by decide +kernel) rfl
theorem tm_1609 : (Jvm.Cond.lays "PillarDeskModel" "PillarDeskModel" "pillarMany" "I") ∈ zz_tbl := zz_mem 1609 (by decide +kernel) rfl
theorem tm_1611 : (Jvm.Cond.laysFinal "PillarDeskModel" "PillarDeskModel" "was" "[I") ∈ zz_tbl := zz_mem 1611 (by decide +kernel) rfl
theorem tm_1613 : (Jvm.Cond.lays "PillarDeskModel" "PillarDeskModel" "toldWhy" "I") ∈ zz_tbl := zz_mem 1613 (by decide +kernel) rfl
theorem tm_1615 : (Jvm.Cond.lays "PillarDeskModel" "PillarDeskModel" "x" "I") ∈ zz_tbl := zz_mem 1615 (by decide +kernel) rfl
theorem tm_1617 : (Jvm.Cond.laysFinal "PillarDeskModel" "PillarDeskModel" "wasFactor" "[I") ∈ zz_tbl := zz_mem 1617 (by decide +kernel) rfl
theorem tm_1619 : (Jvm.Cond.laysFinal "PillarDeskModel" "PillarDeskModel" "taken" "[J") ∈ zz_tbl := zz_mem 1619 (by decide +kernel) rfl
theorem tm_1621 : (Jvm.Cond.laysFinal "PillarDeskModel" "PillarDeskModel" "leftOn" "[J") ∈ zz_tbl := zz_mem 1621 (by decide +kernel) rfl
theorem tm_1623 : (Jvm.Cond.laysFinal "PillarDeskModel" "PillarDeskModel" "factorBy" "[I") ∈ zz_tbl := zz_mem 1623 (by decide +kernel) rfl
theorem tm_1625 : (Jvm.Cond.laysFinal "PillarDeskModel" "PillarDeskModel" "often" "[I") ∈ zz_tbl := zz_mem 1625 (by decide +kernel) rfl
theorem tm_1627 : (Jvm.Cond.lays "PillarDeskModel" "PillarDeskModel" "belowSum" "J") ∈ zz_tbl := zz_mem 1627 (by decide +kernel) rfl
theorem tm_1629 : (Jvm.Cond.lays "PillarDeskModel" "PillarDeskModel" "worthSum" "J") ∈ zz_tbl := zz_mem 1629 (by decide +kernel) rfl
theorem tm_1631 : (Jvm.Cond.laysFinal "PillarDeskModel" "PillarDeskModel" "rowSort" "[I") ∈ zz_tbl := zz_mem 1631 (by decide +kernel) rfl
theorem tm_1633 : (Jvm.Cond.laysFinal "PillarDeskModel" "PillarDeskModel" "rowMany" "[I") ∈ zz_tbl := zz_mem 1633 (by decide +kernel) rfl
theorem tm_1635 : (Jvm.Cond.laysFinal "PillarDeskModel" "PillarDeskModel" "numbers" "[J") ∈ zz_tbl := zz_mem 1635 (by decide +kernel) rfl
theorem tm_1647 : (Jvm.Cond.methodLink "PillarDeskModel" (163 : Nat) ({ cls := "PillarDeskModel", name := "within", desc := "(JJJ)Z" } : Jvm.MethodName)) ∈ zz_tbl := zz_mem 1647 (by decide +kernel) rfl
theorem tm_1648 : (Jvm.Cond.static ({ cls := "PillarDeskModel", name := "within", desc := "(JJJ)Z" } : Jvm.MethodName)) ∈ zz_tbl := zz_mem 1648 (by decide +kernel) rfl
theorem tm_1649 : (Jvm.Cond.code ({ cls := "PillarDeskModel", name := "within", desc := "(JJJ)Z" } : Jvm.MethodName) prog_14_method_2_code (6 : Nat) (Option.some Jvm.ClassFile.FieldType.boolean)) ∈ zz_tbl := zz_mem 1649 (by decide +kernel) rfl
theorem tm_1650 : (Jvm.Cond.methodLink "PillarDeskModel" (156 : Nat) ({ cls := "PillarDeskModel", name := "next", desc := "()V" } : Jvm.MethodName)) ∈ zz_tbl := zz_mem 1650 (by decide +kernel) rfl
theorem tm_1652 : (Jvm.Cond.instanceMethod ({ cls := "PillarDeskModel", name := "next", desc := "()V" } : Jvm.MethodName)) ∈ zz_tbl := zz_mem 1652 (by decide +kernel) rfl
theorem tm_1653 : (Jvm.Cond.code ({ cls := "PillarDeskModel", name := "next", desc := "()V" } : Jvm.MethodName) prog_14_method_10_code (2 : Nat) (Option.none : Option Jvm.ClassFile.FieldType)) ∈ zz_tbl := zz_mem 1653 (by decide +kernel) rfl
theorem tm_1654 : (Jvm.Cond.methodLink "PillarDeskModel" (125 : Nat) ({ cls := "PillarDeskModel", name := "see", desc := "(I)I" } : Jvm.MethodName)) ∈ zz_tbl := zz_mem 1654 (by decide +kernel) rfl
theorem tm_1656 : (Jvm.Cond.instanceMethod ({ cls := "PillarDeskModel", name := "see", desc := "(I)I" } : Jvm.MethodName)) ∈ zz_tbl := zz_mem 1656 (by decide +kernel) rfl
theorem tm_1657 : (Jvm.Cond.code ({ cls := "PillarDeskModel", name := "see", desc := "(I)I" } : Jvm.MethodName) prog_14_method_6_code (2 : Nat) (Option.some Jvm.ClassFile.FieldType.int)) ∈ zz_tbl := zz_mem 1657 (by decide +kernel) rfl
theorem tm_1658 : (Jvm.Cond.methodLink "PillarDeskModel" (132 : Nat) ({ cls := "PillarDeskModel", name := "isSmall", desc := "(I)Z" } : Jvm.MethodName)) ∈ zz_tbl := zz_mem 1658 (by decide +kernel) rfl
theorem tm_1659 : (Jvm.Cond.static ({ cls := "PillarDeskModel", name := "isSmall", desc := "(I)Z" } : Jvm.MethodName)) ∈ zz_tbl := zz_mem 1659 (by decide +kernel) rfl
theorem tm_1660 : (Jvm.Cond.code ({ cls := "PillarDeskModel", name := "isSmall", desc := "(I)Z" } : Jvm.MethodName) prog_14_method_7_code (1 : Nat) (Option.some Jvm.ClassFile.FieldType.boolean)) ∈ zz_tbl := zz_mem 1660 (by decide +kernel) rfl
theorem tm_1661 : (Jvm.Cond.methodLink "PillarDeskModel" (136 : Nat) ({ cls := "PillarDeskModel", name := "keyAt", desc := "()I" } : Jvm.MethodName)) ∈ zz_tbl := zz_mem 1661 (by decide +kernel) rfl
theorem tm_1663 : (Jvm.Cond.instanceMethod ({ cls := "PillarDeskModel", name := "keyAt", desc := "()I" } : Jvm.MethodName)) ∈ zz_tbl := zz_mem 1663 (by decide +kernel) rfl
theorem tm_1664 : (Jvm.Cond.code ({ cls := "PillarDeskModel", name := "keyAt", desc := "()I" } : Jvm.MethodName) prog_14_method_9_code (4 : Nat) (Option.some Jvm.ClassFile.FieldType.int)) ∈ zz_tbl := zz_mem 1664 (by decide +kernel) rfl
theorem tm_1666 : (Jvm.Cond.methodLink "PillarDeskModel" (109 : Nat) ({ cls := "java/lang/String", name := "length", desc := "()I" } : Jvm.MethodName)) ∈ zz_tbl := zz_mem 1666 (by decide +kernel) rfl
theorem tm_1667 : (Jvm.Cond.methodLink "PillarDeskModel" (115 : Nat) ({ cls := "java/lang/String", name := "charAt", desc := "(I)C" } : Jvm.MethodName)) ∈ zz_tbl := zz_mem 1667 (by decide +kernel) rfl
theorem tm_1668 : (Jvm.Cond.methodLink "PillarDeskModel" (139 : Nat) ({ cls := "PillarDeskModel", name := "isDigit", desc := "(I)Z" } : Jvm.MethodName)) ∈ zz_tbl := zz_mem 1668 (by decide +kernel) rfl
theorem tm_1669 : (Jvm.Cond.static ({ cls := "PillarDeskModel", name := "isDigit", desc := "(I)Z" } : Jvm.MethodName)) ∈ zz_tbl := zz_mem 1669 (by decide +kernel) rfl
theorem tm_1670 : (Jvm.Cond.code ({ cls := "PillarDeskModel", name := "isDigit", desc := "(I)Z" } : Jvm.MethodName) prog_14_method_8_code (1 : Nat) (Option.some Jvm.ClassFile.FieldType.boolean)) ∈ zz_tbl := zz_mem 1670 (by decide +kernel) rfl
theorem tm_1672 : (Jvm.Cond.methodLink "PillarDeskModel" (182 : Nat) ({ cls := "PillarDeskModel", name := "eats", desc := "(I)Z" } : Jvm.MethodName)) ∈ zz_tbl := zz_mem 1672 (by decide +kernel) rfl
theorem tm_1674 : (Jvm.Cond.instanceMethod ({ cls := "PillarDeskModel", name := "eats", desc := "(I)Z" } : Jvm.MethodName)) ∈ zz_tbl := zz_mem 1674 (by decide +kernel) rfl
theorem tm_1675 : (Jvm.Cond.code ({ cls := "PillarDeskModel", name := "eats", desc := "(I)Z" } : Jvm.MethodName) prog_14_method_13_code (2 : Nat) (Option.some Jvm.ClassFile.FieldType.boolean)) ∈ zz_tbl := zz_mem 1675 (by decide +kernel) rfl
theorem tm_1676 : (Jvm.Cond.methodLink "PillarDeskModel" (153 : Nat) ({ cls := "PillarDeskModel", name := "is", desc := "(I)Z" } : Jvm.MethodName)) ∈ zz_tbl := zz_mem 1676 (by decide +kernel) rfl
theorem tm_1678 : (Jvm.Cond.instanceMethod ({ cls := "PillarDeskModel", name := "is", desc := "(I)Z" } : Jvm.MethodName)) ∈ zz_tbl := zz_mem 1678 (by decide +kernel) rfl
theorem tm_1679 : (Jvm.Cond.code ({ cls := "PillarDeskModel", name := "is", desc := "(I)Z" } : Jvm.MethodName) prog_14_method_12_code (2 : Nat) (Option.some Jvm.ClassFile.FieldType.boolean)) ∈ zz_tbl := zz_mem 1679 (by decide +kernel) rfl
theorem tm_1680 : (Jvm.Cond.methodLink "PillarDeskModel" (159 : Nat) ({ cls := "PillarDeskModel", name := "fails", desc := "(I)V" } : Jvm.MethodName)) ∈ zz_tbl := zz_mem 1680 (by decide +kernel) rfl
theorem tm_1682 : (Jvm.Cond.instanceMethod ({ cls := "PillarDeskModel", name := "fails", desc := "(I)V" } : Jvm.MethodName)) ∈ zz_tbl := zz_mem 1682 (by decide +kernel) rfl
theorem tm_1683 : (Jvm.Cond.code ({ cls := "PillarDeskModel", name := "fails", desc := "(I)V" } : Jvm.MethodName) prog_14_method_11_code (2 : Nat) (Option.none : Option Jvm.ClassFile.FieldType)) ∈ zz_tbl := zz_mem 1683 (by decide +kernel) rfl
theorem tm_1684 : (Jvm.Cond.methodLink "PillarDeskModel" (207 : Nat) ({ cls := "PillarDeskModel", name := "named", desc := "(III)I" } : Jvm.MethodName)) ∈ zz_tbl := zz_mem 1684 (by decide +kernel) rfl
theorem tm_1686 : (Jvm.Cond.instanceMethod ({ cls := "PillarDeskModel", name := "named", desc := "(III)I" } : Jvm.MethodName)) ∈ zz_tbl := zz_mem 1686 (by decide +kernel) rfl
theorem tm_1687 : (Jvm.Cond.code ({ cls := "PillarDeskModel", name := "named", desc := "(III)I" } : Jvm.MethodName) prog_14_method_26_code (4 : Nat) (Option.some Jvm.ClassFile.FieldType.int)) ∈ zz_tbl := zz_mem 1687 (by decide +kernel) rfl
theorem tm_1688 : (Jvm.Cond.methodLink "PillarDeskModel" (203 : Nat) ({ cls := "PillarDeskModel", name := "takes", desc := "(II)I" } : Jvm.MethodName)) ∈ zz_tbl := zz_mem 1688 (by decide +kernel) rfl
theorem tm_1690 : (Jvm.Cond.instanceMethod ({ cls := "PillarDeskModel", name := "takes", desc := "(II)I" } : Jvm.MethodName)) ∈ zz_tbl := zz_mem 1690 (by decide +kernel) rfl
theorem tm_1691 : (Jvm.Cond.code ({ cls := "PillarDeskModel", name := "takes", desc := "(II)I" } : Jvm.MethodName) prog_14_method_14_code (4 : Nat) (Option.some Jvm.ClassFile.FieldType.int)) ∈ zz_tbl := zz_mem 1691 (by decide +kernel) rfl
theorem tm_1692 : (Jvm.Cond.methodLink "PillarDeskModel" (223 : Nat) ({ cls := "PillarDeskModel", name := "closes", desc := "()V" } : Jvm.MethodName)) ∈ zz_tbl := zz_mem 1692 (by decide +kernel) rfl
theorem tm_1694 : (Jvm.Cond.instanceMethod ({ cls := "PillarDeskModel", name := "closes", desc := "()V" } : Jvm.MethodName)) ∈ zz_tbl := zz_mem 1694 (by decide +kernel) rfl
theorem tm_1695 : (Jvm.Cond.code ({ cls := "PillarDeskModel", name := "closes", desc := "()V" } : Jvm.MethodName) prog_14_method_32_code (1 : Nat) (Option.none : Option Jvm.ClassFile.FieldType)) ∈ zz_tbl := zz_mem 1695 (by decide +kernel) rfl
theorem tm_1696 : (Jvm.Cond.methodLink "PillarDeskModel" (226 : Nat) ({ cls := "PillarDeskModel", name := "readLine", desc := "()V" } : Jvm.MethodName)) ∈ zz_tbl := zz_mem 1696 (by decide +kernel) rfl
theorem tm_1698 : (Jvm.Cond.instanceMethod ({ cls := "PillarDeskModel", name := "readLine", desc := "()V" } : Jvm.MethodName)) ∈ zz_tbl := zz_mem 1698 (by decide +kernel) rfl
theorem tm_1699 : (Jvm.Cond.code ({ cls := "PillarDeskModel", name := "readLine", desc := "()V" } : Jvm.MethodName) prog_14_method_31_code (1 : Nat) (Option.none : Option Jvm.ClassFile.FieldType)) ∈ zz_tbl := zz_mem 1699 (by decide +kernel) rfl
theorem tm_1700 : (Jvm.Cond.methodLink "PillarDeskModel" (211 : Nat) ({ cls := "PillarDeskModel", name := "readHoliday", desc := "()V" } : Jvm.MethodName)) ∈ zz_tbl := zz_mem 1700 (by decide +kernel) rfl
theorem tm_1702 : (Jvm.Cond.instanceMethod ({ cls := "PillarDeskModel", name := "readHoliday", desc := "()V" } : Jvm.MethodName)) ∈ zz_tbl := zz_mem 1702 (by decide +kernel) rfl
theorem tm_1703 : (Jvm.Cond.code ({ cls := "PillarDeskModel", name := "readHoliday", desc := "()V" } : Jvm.MethodName) prog_14_method_27_code (2 : Nat) (Option.none : Option Jvm.ClassFile.FieldType)) ∈ zz_tbl := zz_mem 1703 (by decide +kernel) rfl
theorem tm_1704 : (Jvm.Cond.methodLink "PillarDeskModel" (214 : Nat) ({ cls := "PillarDeskModel", name := "readInput", desc := "()V" } : Jvm.MethodName)) ∈ zz_tbl := zz_mem 1704 (by decide +kernel) rfl
theorem tm_1706 : (Jvm.Cond.instanceMethod ({ cls := "PillarDeskModel", name := "readInput", desc := "()V" } : Jvm.MethodName)) ∈ zz_tbl := zz_mem 1706 (by decide +kernel) rfl
theorem tm_1707 : (Jvm.Cond.code ({ cls := "PillarDeskModel", name := "readInput", desc := "()V" } : Jvm.MethodName) prog_14_method_28_code (7 : Nat) (Option.none : Option Jvm.ClassFile.FieldType)) ∈ zz_tbl := zz_mem 1707 (by decide +kernel) rfl
theorem tm_1708 : (Jvm.Cond.methodLink "PillarDeskModel" (217 : Nat) ({ cls := "PillarDeskModel", name := "readFlow", desc := "()V" } : Jvm.MethodName)) ∈ zz_tbl := zz_mem 1708 (by decide +kernel) rfl
theorem tm_1710 : (Jvm.Cond.instanceMethod ({ cls := "PillarDeskModel", name := "readFlow", desc := "()V" } : Jvm.MethodName)) ∈ zz_tbl := zz_mem 1710 (by decide +kernel) rfl
theorem tm_1711 : (Jvm.Cond.code ({ cls := "PillarDeskModel", name := "readFlow", desc := "()V" } : Jvm.MethodName) prog_14_method_29_code (4 : Nat) (Option.none : Option Jvm.ClassFile.FieldType)) ∈ zz_tbl := zz_mem 1711 (by decide +kernel) rfl
theorem tm_1712 : (Jvm.Cond.methodLink "PillarDeskModel" (220 : Nat) ({ cls := "PillarDeskModel", name := "readLaw", desc := "(I)V" } : Jvm.MethodName)) ∈ zz_tbl := zz_mem 1712 (by decide +kernel) rfl
theorem tm_1714 : (Jvm.Cond.instanceMethod ({ cls := "PillarDeskModel", name := "readLaw", desc := "(I)V" } : Jvm.MethodName)) ∈ zz_tbl := zz_mem 1714 (by decide +kernel) rfl
theorem tm_1715 : (Jvm.Cond.code ({ cls := "PillarDeskModel", name := "readLaw", desc := "(I)V" } : Jvm.MethodName) prog_14_method_30_code (3 : Nat) (Option.none : Option Jvm.ClassFile.FieldType)) ∈ zz_tbl := zz_mem 1715 (by decide +kernel) rfl
theorem tm_1716 : (Jvm.Cond.methodLink "PillarDeskModel" (179 : Nat) ({ cls := "PillarDeskModel", name := "readSum", desc := "(I)V" } : Jvm.MethodName)) ∈ zz_tbl := zz_mem 1716 (by decide +kernel) rfl
theorem tm_1718 : (Jvm.Cond.instanceMethod ({ cls := "PillarDeskModel", name := "readSum", desc := "(I)V" } : Jvm.MethodName)) ∈ zz_tbl := zz_mem 1718 (by decide +kernel) rfl
theorem tm_1719 : (Jvm.Cond.code ({ cls := "PillarDeskModel", name := "readSum", desc := "(I)V" } : Jvm.MethodName) prog_14_method_22_code (3 : Nat) (Option.none : Option Jvm.ClassFile.FieldType)) ∈ zz_tbl := zz_mem 1719 (by decide +kernel) rfl
theorem tm_1720 : (Jvm.Cond.methodLink "PillarDeskModel" (194 : Nat) ({ cls := "PillarDeskModel", name := "readTerm", desc := "(I)V" } : Jvm.MethodName)) ∈ zz_tbl := zz_mem 1720 (by decide +kernel) rfl
theorem tm_1722 : (Jvm.Cond.instanceMethod ({ cls := "PillarDeskModel", name := "readTerm", desc := "(I)V" } : Jvm.MethodName)) ∈ zz_tbl := zz_mem 1722 (by decide +kernel) rfl
theorem tm_1723 : (Jvm.Cond.code ({ cls := "PillarDeskModel", name := "readTerm", desc := "(I)V" } : Jvm.MethodName) prog_14_method_21_code (2 : Nat) (Option.none : Option Jvm.ClassFile.FieldType)) ∈ zz_tbl := zz_mem 1723 (by decide +kernel) rfl
theorem tm_1724 : (Jvm.Cond.methodLink "PillarDeskModel" (191 : Nat) ({ cls := "PillarDeskModel", name := "readAtom", desc := "(I)V" } : Jvm.MethodName)) ∈ zz_tbl := zz_mem 1724 (by decide +kernel) rfl
theorem tm_1726 : (Jvm.Cond.instanceMethod ({ cls := "PillarDeskModel", name := "readAtom", desc := "(I)V" } : Jvm.MethodName)) ∈ zz_tbl := zz_mem 1726 (by decide +kernel) rfl
theorem tm_1727 : (Jvm.Cond.code ({ cls := "PillarDeskModel", name := "readAtom", desc := "(I)V" } : Jvm.MethodName) prog_14_method_19_code (2 : Nat) (Option.none : Option Jvm.ClassFile.FieldType)) ∈ zz_tbl := zz_mem 1727 (by decide +kernel) rfl
theorem tm_1728 : (Jvm.Cond.methodLink "PillarDeskModel" (170 : Nat) ({ cls := "PillarDeskModel", name := "codes", desc := "(I)V" } : Jvm.MethodName)) ∈ zz_tbl := zz_mem 1728 (by decide +kernel) rfl
theorem tm_1730 : (Jvm.Cond.instanceMethod ({ cls := "PillarDeskModel", name := "codes", desc := "(I)V" } : Jvm.MethodName)) ∈ zz_tbl := zz_mem 1730 (by decide +kernel) rfl
theorem tm_1731 : (Jvm.Cond.code ({ cls := "PillarDeskModel", name := "codes", desc := "(I)V" } : Jvm.MethodName) prog_14_method_17_code (2 : Nat) (Option.none : Option Jvm.ClassFile.FieldType)) ∈ zz_tbl := zz_mem 1731 (by decide +kernel) rfl
theorem tm_1732 : (Jvm.Cond.methodLink "PillarDeskModel" (173 : Nat) ({ cls := "PillarDeskModel", name := "wordOf", desc := "(I)I" } : Jvm.MethodName)) ∈ zz_tbl := zz_mem 1732 (by decide +kernel) rfl
theorem tm_1734 : (Jvm.Cond.instanceMethod ({ cls := "PillarDeskModel", name := "wordOf", desc := "(I)I" } : Jvm.MethodName)) ∈ zz_tbl := zz_mem 1734 (by decide +kernel) rfl
theorem tm_1735 : (Jvm.Cond.code ({ cls := "PillarDeskModel", name := "wordOf", desc := "(I)I" } : Jvm.MethodName) prog_14_method_16_code (3 : Nat) (Option.some Jvm.ClassFile.FieldType.int)) ∈ zz_tbl := zz_mem 1735 (by decide +kernel) rfl
theorem tm_1736 : (Jvm.Cond.methodLink "PillarDeskModel" (176 : Nat) ({ cls := "PillarDeskModel", name := "goesIn", desc := "(I)Z" } : Jvm.MethodName)) ∈ zz_tbl := zz_mem 1736 (by decide +kernel) rfl
theorem tm_1738 : (Jvm.Cond.instanceMethod ({ cls := "PillarDeskModel", name := "goesIn", desc := "(I)Z" } : Jvm.MethodName)) ∈ zz_tbl := zz_mem 1738 (by decide +kernel) rfl
theorem tm_1739 : (Jvm.Cond.code ({ cls := "PillarDeskModel", name := "goesIn", desc := "(I)Z" } : Jvm.MethodName) prog_14_method_18_code (2 : Nat) (Option.some Jvm.ClassFile.FieldType.boolean)) ∈ zz_tbl := zz_mem 1739 (by decide +kernel) rfl
theorem tm_1740 : (Jvm.Cond.methodLink "PillarDeskModel" (185 : Nat) ({ cls := "PillarDeskModel", name := "readIf", desc := "(I)V" } : Jvm.MethodName)) ∈ zz_tbl := zz_mem 1740 (by decide +kernel) rfl
theorem tm_1742 : (Jvm.Cond.instanceMethod ({ cls := "PillarDeskModel", name := "readIf", desc := "(I)V" } : Jvm.MethodName)) ∈ zz_tbl := zz_mem 1742 (by decide +kernel) rfl
theorem tm_1743 : (Jvm.Cond.code ({ cls := "PillarDeskModel", name := "readIf", desc := "(I)V" } : Jvm.MethodName) prog_14_method_20_code (2 : Nat) (Option.none : Option Jvm.ClassFile.FieldType)) ∈ zz_tbl := zz_mem 1743 (by decide +kernel) rfl
theorem tm_1744 : (Jvm.Cond.methodLink "PillarDeskModel" (188 : Nat) ({ cls := "PillarDeskModel", name := "readTruth", desc := "(I)V" } : Jvm.MethodName)) ∈ zz_tbl := zz_mem 1744 (by decide +kernel) rfl
theorem tm_1746 : (Jvm.Cond.instanceMethod ({ cls := "PillarDeskModel", name := "readTruth", desc := "(I)V" } : Jvm.MethodName)) ∈ zz_tbl := zz_mem 1746 (by decide +kernel) rfl
theorem tm_1747 : (Jvm.Cond.code ({ cls := "PillarDeskModel", name := "readTruth", desc := "(I)V" } : Jvm.MethodName) prog_14_method_25_code (2 : Nat) (Option.none : Option Jvm.ClassFile.FieldType)) ∈ zz_tbl := zz_mem 1747 (by decide +kernel) rfl
theorem tm_1748 : (Jvm.Cond.methodLink "PillarDeskModel" (200 : Nat) ({ cls := "PillarDeskModel", name := "readBoth", desc := "(I)V" } : Jvm.MethodName)) ∈ zz_tbl := zz_mem 1748 (by decide +kernel) rfl
theorem tm_1750 : (Jvm.Cond.instanceMethod ({ cls := "PillarDeskModel", name := "readBoth", desc := "(I)V" } : Jvm.MethodName)) ∈ zz_tbl := zz_mem 1750 (by decide +kernel) rfl
theorem tm_1751 : (Jvm.Cond.code ({ cls := "PillarDeskModel", name := "readBoth", desc := "(I)V" } : Jvm.MethodName) prog_14_method_24_code (2 : Nat) (Option.none : Option Jvm.ClassFile.FieldType)) ∈ zz_tbl := zz_mem 1751 (by decide +kernel) rfl
theorem tm_1752 : (Jvm.Cond.methodLink "PillarDeskModel" (197 : Nat) ({ cls := "PillarDeskModel", name := "readUnit", desc := "(I)V" } : Jvm.MethodName)) ∈ zz_tbl := zz_mem 1752 (by decide +kernel) rfl
theorem tm_1754 : (Jvm.Cond.instanceMethod ({ cls := "PillarDeskModel", name := "readUnit", desc := "(I)V" } : Jvm.MethodName)) ∈ zz_tbl := zz_mem 1754 (by decide +kernel) rfl
theorem tm_1755 : (Jvm.Cond.code ({ cls := "PillarDeskModel", name := "readUnit", desc := "(I)V" } : Jvm.MethodName) prog_14_method_23_code (3 : Nat) (Option.none : Option Jvm.ClassFile.FieldType)) ∈ zz_tbl := zz_mem 1755 (by decide +kernel) rfl
theorem tm_1764 : (Jvm.Cond.methodLink "PillarDeskModel" (254 : Nat) ({ cls := "PillarDeskModel", name := "isDay", desc := "(II)Z" } : Jvm.MethodName)) ∈ zz_tbl := zz_mem 1764 (by decide +kernel) rfl
theorem tm_1765 : (Jvm.Cond.static ({ cls := "PillarDeskModel", name := "isDay", desc := "(II)Z" } : Jvm.MethodName)) ∈ zz_tbl := zz_mem 1765 (by decide +kernel) rfl
theorem tm_1766 : (Jvm.Cond.code ({ cls := "PillarDeskModel", name := "isDay", desc := "(II)Z" } : Jvm.MethodName) prog_14_method_46_code (2 : Nat) (Option.some Jvm.ClassFile.FieldType.boolean)) ∈ zz_tbl := zz_mem 1766 (by decide +kernel) rfl
theorem tm_1775 : (Jvm.Cond.constantLong "PillarDeskModel" (258 : Nat) (999 : Int64)) ∈ zz_tbl := zz_mem 1775 (by decide +kernel) rfl
theorem tm_1780 : (Jvm.Cond.constantLong "PillarDeskModel" (260 : Nat) (99 : Int64)) ∈ zz_tbl := zz_mem 1780 (by decide +kernel) rfl
theorem tm_1785 : (Jvm.Cond.methodLink "PillarDeskModel" (262 : Nat) ({ cls := "PillarDeskModel", name := "isInput", desc := "(J)Z" } : Jvm.MethodName)) ∈ zz_tbl := zz_mem 1785 (by decide +kernel) rfl
theorem tm_1787 : (Jvm.Cond.instanceMethod ({ cls := "PillarDeskModel", name := "isInput", desc := "(J)Z" } : Jvm.MethodName)) ∈ zz_tbl := zz_mem 1787 (by decide +kernel) rfl
theorem tm_1788 : (Jvm.Cond.code ({ cls := "PillarDeskModel", name := "isInput", desc := "(J)Z" } : Jvm.MethodName) prog_14_method_35_code (3 : Nat) (Option.some Jvm.ClassFile.FieldType.boolean)) ∈ zz_tbl := zz_mem 1788 (by decide +kernel) rfl
theorem tm_1789 : (Jvm.Cond.methodLink "PillarDeskModel" (251 : Nat) ({ cls := "PillarDeskModel", name := "endOf", desc := "(II)I" } : Jvm.MethodName)) ∈ zz_tbl := zz_mem 1789 (by decide +kernel) rfl
theorem tm_1791 : (Jvm.Cond.instanceMethod ({ cls := "PillarDeskModel", name := "endOf", desc := "(II)I" } : Jvm.MethodName)) ∈ zz_tbl := zz_mem 1791 (by decide +kernel) rfl
theorem tm_1792 : (Jvm.Cond.code ({ cls := "PillarDeskModel", name := "endOf", desc := "(II)I" } : Jvm.MethodName) prog_14_method_44_code (3 : Nat) (Option.some Jvm.ClassFile.FieldType.int)) ∈ zz_tbl := zz_mem 1792 (by decide +kernel) rfl
theorem tm_1797 : (Jvm.Cond.methodLink "PillarDeskModel" (269 : Nat) ({ cls := "PillarDeskModel", name := "countOf", desc := "(II)I" } : Jvm.MethodName)) ∈ zz_tbl := zz_mem 1797 (by decide +kernel) rfl
theorem tm_1799 : (Jvm.Cond.instanceMethod ({ cls := "PillarDeskModel", name := "countOf", desc := "(II)I" } : Jvm.MethodName)) ∈ zz_tbl := zz_mem 1799 (by decide +kernel) rfl
theorem tm_1800 : (Jvm.Cond.code ({ cls := "PillarDeskModel", name := "countOf", desc := "(II)I" } : Jvm.MethodName) prog_14_method_52_code (4 : Nat) (Option.some Jvm.ClassFile.FieldType.int)) ∈ zz_tbl := zz_mem 1800 (by decide +kernel) rfl
theorem tm_1801 : (Jvm.Cond.methodLink "PillarDeskModel" (266 : Nat) ({ cls := "PillarDeskModel", name := "kept", desc := "(III)I" } : Jvm.MethodName)) ∈ zz_tbl := zz_mem 1801 (by decide +kernel) rfl
theorem tm_1802 : (Jvm.Cond.static ({ cls := "PillarDeskModel", name := "kept", desc := "(III)I" } : Jvm.MethodName)) ∈ zz_tbl := zz_mem 1802 (by decide +kernel) rfl
theorem tm_1803 : (Jvm.Cond.code ({ cls := "PillarDeskModel", name := "kept", desc := "(III)I" } : Jvm.MethodName) prog_14_method_37_code (3 : Nat) (Option.some Jvm.ClassFile.FieldType.int)) ∈ zz_tbl := zz_mem 1803 (by decide +kernel) rfl
theorem tm_1804 : (Jvm.Cond.methodLink "PillarDeskModel" (312 : Nat) ({ cls := "PillarDeskModel", name := "laysCurve", desc := "()V" } : Jvm.MethodName)) ∈ zz_tbl := zz_mem 1804 (by decide +kernel) rfl
theorem tm_1806 : (Jvm.Cond.instanceMethod ({ cls := "PillarDeskModel", name := "laysCurve", desc := "()V" } : Jvm.MethodName)) ∈ zz_tbl := zz_mem 1806 (by decide +kernel) rfl
theorem tm_1807 : (Jvm.Cond.code ({ cls := "PillarDeskModel", name := "laysCurve", desc := "()V" } : Jvm.MethodName) prog_14_method_61_code (1 : Nat) (Option.none : Option Jvm.ClassFile.FieldType)) ∈ zz_tbl := zz_mem 1807 (by decide +kernel) rfl
theorem tm_1808 : (Jvm.Cond.methodLink "PillarDeskModel" (306 : Nat) ({ cls := "PillarDeskModel", name := "laysCounts", desc := "(I)V" } : Jvm.MethodName)) ∈ zz_tbl := zz_mem 1808 (by decide +kernel) rfl
theorem tm_1810 : (Jvm.Cond.instanceMethod ({ cls := "PillarDeskModel", name := "laysCounts", desc := "(I)V" } : Jvm.MethodName)) ∈ zz_tbl := zz_mem 1810 (by decide +kernel) rfl
theorem tm_1811 : (Jvm.Cond.code ({ cls := "PillarDeskModel", name := "laysCounts", desc := "(I)V" } : Jvm.MethodName) prog_14_method_53_code (3 : Nat) (Option.none : Option Jvm.ClassFile.FieldType)) ∈ zz_tbl := zz_mem 1811 (by decide +kernel) rfl
theorem tm_1812 : (Jvm.Cond.methodLink "PillarDeskModel" (309 : Nat) ({ cls := "PillarDeskModel", name := "laysPillars", desc := "()V" } : Jvm.MethodName)) ∈ zz_tbl := zz_mem 1812 (by decide +kernel) rfl
theorem tm_1814 : (Jvm.Cond.instanceMethod ({ cls := "PillarDeskModel", name := "laysPillars", desc := "()V" } : Jvm.MethodName)) ∈ zz_tbl := zz_mem 1814 (by decide +kernel) rfl
theorem tm_1815 : (Jvm.Cond.code ({ cls := "PillarDeskModel", name := "laysPillars", desc := "()V" } : Jvm.MethodName) prog_14_method_60_code (3 : Nat) (Option.none : Option Jvm.ClassFile.FieldType)) ∈ zz_tbl := zz_mem 1815 (by decide +kernel) rfl
theorem tm_1816 : (Jvm.Cond.constant "PillarDeskModel" (298 : Nat) (1000000000 : Int32)) ∈ zz_tbl := zz_mem 1816 (by decide +kernel) rfl
theorem tm_1817 : (Jvm.Cond.methodLink "PillarDeskModel" (303 : Nat) ({ cls := "PillarDeskModel", name := "solves", desc := "(I)V" } : Jvm.MethodName)) ∈ zz_tbl := zz_mem 1817 (by decide +kernel) rfl
theorem tm_1819 : (Jvm.Cond.instanceMethod ({ cls := "PillarDeskModel", name := "solves", desc := "(I)V" } : Jvm.MethodName)) ∈ zz_tbl := zz_mem 1819 (by decide +kernel) rfl
theorem tm_1820 : (Jvm.Cond.code ({ cls := "PillarDeskModel", name := "solves", desc := "(I)V" } : Jvm.MethodName) prog_14_method_59_code (6 : Nat) (Option.none : Option Jvm.ClassFile.FieldType)) ∈ zz_tbl := zz_mem 1820 (by decide +kernel) rfl
theorem tm_1821 : (Jvm.Cond.methodLink "PillarDeskModel" (299 : Nat) ({ cls := "PillarDeskModel", name := "fits", desc := "(IJ)Z" } : Jvm.MethodName)) ∈ zz_tbl := zz_mem 1821 (by decide +kernel) rfl
theorem tm_1823 : (Jvm.Cond.instanceMethod ({ cls := "PillarDeskModel", name := "fits", desc := "(IJ)Z" } : Jvm.MethodName)) ∈ zz_tbl := zz_mem 1823 (by decide +kernel) rfl
theorem tm_1824 : (Jvm.Cond.code ({ cls := "PillarDeskModel", name := "fits", desc := "(IJ)Z" } : Jvm.MethodName) prog_14_method_58_code (9 : Nat) (Option.some Jvm.ClassFile.FieldType.boolean)) ∈ zz_tbl := zz_mem 1824 (by decide +kernel) rfl
theorem tm_1825 : (Jvm.Cond.constantLong "PillarDeskModel" (282 : Nat) (3600000 : Int64)) ∈ zz_tbl := zz_mem 1825 (by decide +kernel) rfl
theorem tm_1826 : (Jvm.Cond.methodLink "PillarDeskModel" (284 : Nat) ({ cls := "PillarDeskModel", name := "dueOf", desc := "(II)J" } : Jvm.MethodName)) ∈ zz_tbl := zz_mem 1826 (by decide +kernel) rfl
theorem tm_1828 : (Jvm.Cond.instanceMethod ({ cls := "PillarDeskModel", name := "dueOf", desc := "(II)J" } : Jvm.MethodName)) ∈ zz_tbl := zz_mem 1828 (by decide +kernel) rfl
theorem tm_1829 : (Jvm.Cond.code ({ cls := "PillarDeskModel", name := "dueOf", desc := "(II)J" } : Jvm.MethodName) prog_14_method_57_code (3 : Nat) (Option.some Jvm.ClassFile.FieldType.long)) ∈ zz_tbl := zz_mem 1829 (by decide +kernel) rfl
theorem tm_1830 : (Jvm.Cond.constantLong "PillarDeskModel" (288 : Nat) (3600000000000000 : Int64)) ∈ zz_tbl := zz_mem 1830 (by decide +kernel) rfl
theorem tm_1831 : (Jvm.Cond.methodLink "PillarDeskModel" (290 : Nat) ({ cls := "PillarDeskModel", name := "factorAt", desc := "(I)I" } : Jvm.MethodName)) ∈ zz_tbl := zz_mem 1831 (by decide +kernel) rfl
theorem tm_1833 : (Jvm.Cond.instanceMethod ({ cls := "PillarDeskModel", name := "factorAt", desc := "(I)I" } : Jvm.MethodName)) ∈ zz_tbl := zz_mem 1833 (by decide +kernel) rfl
theorem tm_1834 : (Jvm.Cond.code ({ cls := "PillarDeskModel", name := "factorAt", desc := "(I)I" } : Jvm.MethodName) prog_14_method_56_code (5 : Nat) (Option.some Jvm.ClassFile.FieldType.int)) ∈ zz_tbl := zz_mem 1834 (by decide +kernel) rfl
theorem tm_1835 : (Jvm.Cond.methodLink "PillarDeskModel" (275 : Nat) ({ cls := "PillarDeskModel", name := "pillarAt", desc := "(I)I" } : Jvm.MethodName)) ∈ zz_tbl := zz_mem 1835 (by decide +kernel) rfl
theorem tm_1837 : (Jvm.Cond.instanceMethod ({ cls := "PillarDeskModel", name := "pillarAt", desc := "(I)I" } : Jvm.MethodName)) ∈ zz_tbl := zz_mem 1837 (by decide +kernel) rfl
theorem tm_1838 : (Jvm.Cond.code ({ cls := "PillarDeskModel", name := "pillarAt", desc := "(I)I" } : Jvm.MethodName) prog_14_method_55_code (3 : Nat) (Option.some Jvm.ClassFile.FieldType.int)) ∈ zz_tbl := zz_mem 1838 (by decide +kernel) rfl
theorem tm_1839 : (Jvm.Cond.methodLink "PillarDeskModel" (278 : Nat) ({ cls := "PillarDeskModel", name := "floorOf", desc := "(JJ)J" } : Jvm.MethodName)) ∈ zz_tbl := zz_mem 1839 (by decide +kernel) rfl
theorem tm_1840 : (Jvm.Cond.static ({ cls := "PillarDeskModel", name := "floorOf", desc := "(JJ)J" } : Jvm.MethodName)) ∈ zz_tbl := zz_mem 1840 (by decide +kernel) rfl
theorem tm_1841 : (Jvm.Cond.code ({ cls := "PillarDeskModel", name := "floorOf", desc := "(JJ)J" } : Jvm.MethodName) prog_14_method_54_code (6 : Nat) (Option.some Jvm.ClassFile.FieldType.long)) ∈ zz_tbl := zz_mem 1841 (by decide +kernel) rfl
theorem tm_1842 : (Jvm.Cond.methodLink "PillarDeskModel" (293 : Nat) ({ cls := "PillarDeskModel", name := "lengthOf", desc := "(II)I" } : Jvm.MethodName)) ∈ zz_tbl := zz_mem 1842 (by decide +kernel) rfl
theorem tm_1844 : (Jvm.Cond.instanceMethod ({ cls := "PillarDeskModel", name := "lengthOf", desc := "(II)I" } : Jvm.MethodName)) ∈ zz_tbl := zz_mem 1844 (by decide +kernel) rfl
theorem tm_1845 : (Jvm.Cond.code ({ cls := "PillarDeskModel", name := "lengthOf", desc := "(II)I" } : Jvm.MethodName) prog_14_method_45_code (3 : Nat) (Option.some Jvm.ClassFile.FieldType.int)) ∈ zz_tbl := zz_mem 1845 (by decide +kernel) rfl
theorem tm_1846 : (Jvm.Cond.constantLong "PillarDeskModel" (296 : Nat) (1000000000 : Int64)) ∈ zz_tbl := zz_mem 1846 (by decide +kernel) rfl
theorem tm_1851 : (Jvm.Cond.methodLink "PillarDeskModel" (315 : Nat) ({ cls := "PillarDeskModel", name := "isFlow", desc := "(J)Z" } : Jvm.MethodName)) ∈ zz_tbl := zz_mem 1851 (by decide +kernel) rfl
theorem tm_1853 : (Jvm.Cond.instanceMethod ({ cls := "PillarDeskModel", name := "isFlow", desc := "(J)Z" } : Jvm.MethodName)) ∈ zz_tbl := zz_mem 1853 (by decide +kernel) rfl
theorem tm_1854 : (Jvm.Cond.code ({ cls := "PillarDeskModel", name := "isFlow", desc := "(J)Z" } : Jvm.MethodName) prog_14_method_36_code (3 : Nat) (Option.some Jvm.ClassFile.FieldType.boolean)) ∈ zz_tbl := zz_mem 1854 (by decide +kernel) rfl
theorem tm_1855 : (Jvm.Cond.constantLong "PillarDeskModel" (318 : Nat) (-9000000000000000002 : Int64)) ∈ zz_tbl := zz_mem 1855 (by decide +kernel) rfl
theorem tm_1860 : (Jvm.Cond.methodLink "PillarDeskModel" (324 : Nat) ({ cls := "PillarDeskModel", name := "whyBump", desc := "(JJ)I" } : Jvm.MethodName)) ∈ zz_tbl := zz_mem 1860 (by decide +kernel) rfl
theorem tm_1862 : (Jvm.Cond.instanceMethod ({ cls := "PillarDeskModel", name := "whyBump", desc := "(JJ)I" } : Jvm.MethodName)) ∈ zz_tbl := zz_mem 1862 (by decide +kernel) rfl
theorem tm_1863 : (Jvm.Cond.code ({ cls := "PillarDeskModel", name := "whyBump", desc := "(JJ)I" } : Jvm.MethodName) prog_14_method_68_code (5 : Nat) (Option.some Jvm.ClassFile.FieldType.int)) ∈ zz_tbl := zz_mem 1863 (by decide +kernel) rfl
theorem tm_1864 : (Jvm.Cond.constantLong "PillarDeskModel" (320 : Nat) (-99 : Int64)) ∈ zz_tbl := zz_mem 1864 (by decide +kernel) rfl
theorem tm_1865 : (Jvm.Cond.methodLink "PillarDeskModel" (328 : Nat) ({ cls := "PillarDeskModel", name := "stores", desc := "()V" } : Jvm.MethodName)) ∈ zz_tbl := zz_mem 1865 (by decide +kernel) rfl
theorem tm_1867 : (Jvm.Cond.instanceMethod ({ cls := "PillarDeskModel", name := "stores", desc := "()V" } : Jvm.MethodName)) ∈ zz_tbl := zz_mem 1867 (by decide +kernel) rfl
theorem tm_1868 : (Jvm.Cond.code ({ cls := "PillarDeskModel", name := "stores", desc := "()V" } : Jvm.MethodName) prog_14_method_65_code (2 : Nat) (Option.none : Option Jvm.ClassFile.FieldType)) ∈ zz_tbl := zz_mem 1868 (by decide +kernel) rfl
theorem tm_1869 : (Jvm.Cond.methodLink "PillarDeskModel" (331 : Nat) ({ cls := "PillarDeskModel", name := "notes", desc := "()V" } : Jvm.MethodName)) ∈ zz_tbl := zz_mem 1869 (by decide +kernel) rfl
theorem tm_1871 : (Jvm.Cond.instanceMethod ({ cls := "PillarDeskModel", name := "notes", desc := "()V" } : Jvm.MethodName)) ∈ zz_tbl := zz_mem 1871 (by decide +kernel) rfl
theorem tm_1872 : (Jvm.Cond.code ({ cls := "PillarDeskModel", name := "notes", desc := "()V" } : Jvm.MethodName) prog_14_method_67_code (2 : Nat) (Option.none : Option Jvm.ClassFile.FieldType)) ∈ zz_tbl := zz_mem 1872 (by decide +kernel) rfl
theorem tm_1877 : (Jvm.Cond.constantLong "PillarDeskModel" (334 : Nat) (9 : Int64)) ∈ zz_tbl := zz_mem 1877 (by decide +kernel) rfl
theorem tm_1882 : (Jvm.Cond.methodLink "PillarDeskModel" (336 : Nat) ({ cls := "PillarDeskModel", name := "whyAmount", desc := "(JJ)I" } : Jvm.MethodName)) ∈ zz_tbl := zz_mem 1882 (by decide +kernel) rfl
theorem tm_1884 : (Jvm.Cond.instanceMethod ({ cls := "PillarDeskModel", name := "whyAmount", desc := "(JJ)I" } : Jvm.MethodName)) ∈ zz_tbl := zz_mem 1884 (by decide +kernel) rfl
theorem tm_1885 : (Jvm.Cond.code ({ cls := "PillarDeskModel", name := "whyAmount", desc := "(JJ)I" } : Jvm.MethodName) prog_14_method_69_code (5 : Nat) (Option.some Jvm.ClassFile.FieldType.int)) ∈ zz_tbl := zz_mem 1885 (by decide +kernel) rfl
theorem tm_1886 : (Jvm.Cond.constantLong "PillarDeskModel" (322 : Nat) (-999 : Int64)) ∈ zz_tbl := zz_mem 1886 (by decide +kernel) rfl
theorem tm_1891 : (Jvm.Cond.constantLong "PillarDeskModel" (339 : Nat) (10 : Int64)) ∈ zz_tbl := zz_mem 1891 (by decide +kernel) rfl
theorem tm_1896 : (Jvm.Cond.constantLong "PillarDeskModel" (363 : Nat) (3 : Int64)) ∈ zz_tbl := zz_mem 1896 (by decide +kernel) rfl
theorem tm_1897 : (Jvm.Cond.methodLink "PillarDeskModel" (365 : Nat) ({ cls := "PillarDeskModel", name := "noTray", desc := "(I)I" } : Jvm.MethodName)) ∈ zz_tbl := zz_mem 1897 (by decide +kernel) rfl
theorem tm_1899 : (Jvm.Cond.instanceMethod ({ cls := "PillarDeskModel", name := "noTray", desc := "(I)I" } : Jvm.MethodName)) ∈ zz_tbl := zz_mem 1899 (by decide +kernel) rfl
theorem tm_1900 : (Jvm.Cond.code ({ cls := "PillarDeskModel", name := "noTray", desc := "(I)I" } : Jvm.MethodName) prog_14_method_77_code (2 : Nat) (Option.some Jvm.ClassFile.FieldType.int)) ∈ zz_tbl := zz_mem 1900 (by decide +kernel) rfl
theorem tm_1901 : (Jvm.Cond.methodLink "PillarDeskModel" (368 : Nat) ({ cls := "PillarDeskModel", name := "tells", desc := "(I)I" } : Jvm.MethodName)) ∈ zz_tbl := zz_mem 1901 (by decide +kernel) rfl
theorem tm_1903 : (Jvm.Cond.instanceMethod ({ cls := "PillarDeskModel", name := "tells", desc := "(I)I" } : Jvm.MethodName)) ∈ zz_tbl := zz_mem 1903 (by decide +kernel) rfl
theorem tm_1904 : (Jvm.Cond.code ({ cls := "PillarDeskModel", name := "tells", desc := "(I)I" } : Jvm.MethodName) prog_14_method_76_code (3 : Nat) (Option.some Jvm.ClassFile.FieldType.int)) ∈ zz_tbl := zz_mem 1904 (by decide +kernel) rfl
theorem tm_1905 : (Jvm.Cond.methodLink "PillarDeskModel" (356 : Nat) ({ cls := "PillarDeskModel", name := "whyNot", desc := "(J)I" } : Jvm.MethodName)) ∈ zz_tbl := zz_mem 1905 (by decide +kernel) rfl
theorem tm_1907 : (Jvm.Cond.instanceMethod ({ cls := "PillarDeskModel", name := "whyNot", desc := "(J)I" } : Jvm.MethodName)) ∈ zz_tbl := zz_mem 1907 (by decide +kernel) rfl
theorem tm_1908 : (Jvm.Cond.code ({ cls := "PillarDeskModel", name := "whyNot", desc := "(J)I" } : Jvm.MethodName) prog_14_method_74_code (3 : Nat) (Option.some Jvm.ClassFile.FieldType.int)) ∈ zz_tbl := zz_mem 1908 (by decide +kernel) rfl
theorem tm_1909 : (Jvm.Cond.constantLong "PillarDeskModel" (341 : Nat) (19 : Int64)) ∈ zz_tbl := zz_mem 1909 (by decide +kernel) rfl
theorem tm_1910 : (Jvm.Cond.constantLong "PillarDeskModel" (343 : Nat) (1000 : Int64)) ∈ zz_tbl := zz_mem 1910 (by decide +kernel) rfl
theorem tm_1911 : (Jvm.Cond.constantLong "PillarDeskModel" (345 : Nat) (8999 : Int64)) ∈ zz_tbl := zz_mem 1911 (by decide +kernel) rfl
theorem tm_1912 : (Jvm.Cond.constantLong "PillarDeskModel" (347 : Nat) (10000 : Int64)) ∈ zz_tbl := zz_mem 1912 (by decide +kernel) rfl
theorem tm_1913 : (Jvm.Cond.constantLong "PillarDeskModel" (349 : Nat) (29999 : Int64)) ∈ zz_tbl := zz_mem 1913 (by decide +kernel) rfl
theorem tm_1914 : (Jvm.Cond.constantLong "PillarDeskModel" (351 : Nat) (2000 : Int64)) ∈ zz_tbl := zz_mem 1914 (by decide +kernel) rfl
theorem tm_1915 : (Jvm.Cond.methodLink "PillarDeskModel" (360 : Nat) ({ cls := "PillarDeskModel", name := "does", desc := "(I)V" } : Jvm.MethodName)) ∈ zz_tbl := zz_mem 1915 (by decide +kernel) rfl
theorem tm_1917 : (Jvm.Cond.instanceMethod ({ cls := "PillarDeskModel", name := "does", desc := "(I)V" } : Jvm.MethodName)) ∈ zz_tbl := zz_mem 1917 (by decide +kernel) rfl
theorem tm_1918 : (Jvm.Cond.code ({ cls := "PillarDeskModel", name := "does", desc := "(I)V" } : Jvm.MethodName) prog_14_method_75_code (2 : Nat) (Option.none : Option Jvm.ClassFile.FieldType)) ∈ zz_tbl := zz_mem 1918 (by decide +kernel) rfl
theorem tm_1919 : (Jvm.Cond.methodLink "PillarDeskModel" (371 : Nat) ({ cls := "PillarDeskModel", name := "ratesSum", desc := "()I" } : Jvm.MethodName)) ∈ zz_tbl := zz_mem 1919 (by decide +kernel) rfl
theorem tm_1921 : (Jvm.Cond.instanceMethod ({ cls := "PillarDeskModel", name := "ratesSum", desc := "()I" } : Jvm.MethodName)) ∈ zz_tbl := zz_mem 1921 (by decide +kernel) rfl
theorem tm_1922 : (Jvm.Cond.code ({ cls := "PillarDeskModel", name := "ratesSum", desc := "()I" } : Jvm.MethodName) prog_14_method_78_code (3 : Nat) (Option.some Jvm.ClassFile.FieldType.int)) ∈ zz_tbl := zz_mem 1922 (by decide +kernel) rfl
theorem tm_1923 : (Jvm.Cond.methodLink "PillarDeskModel" (374 : Nat) ({ cls := "PillarDeskModel", name := "isAgain", desc := "()V" } : Jvm.MethodName)) ∈ zz_tbl := zz_mem 1923 (by decide +kernel) rfl
theorem tm_1925 : (Jvm.Cond.instanceMethod ({ cls := "PillarDeskModel", name := "isAgain", desc := "()V" } : Jvm.MethodName)) ∈ zz_tbl := zz_mem 1925 (by decide +kernel) rfl
theorem tm_1926 : (Jvm.Cond.code ({ cls := "PillarDeskModel", name := "isAgain", desc := "()V" } : Jvm.MethodName) prog_14_method_66_code (2 : Nat) (Option.none : Option Jvm.ClassFile.FieldType)) ∈ zz_tbl := zz_mem 1926 (by decide +kernel) rfl
theorem tm_1935 : (Jvm.Cond.constantLong "PillarDeskModel" (384 : Nat) (40 : Int64)) ∈ zz_tbl := zz_mem 1935 (by decide +kernel) rfl
theorem tm_1936 : (Jvm.Cond.methodLink "PillarDeskModel" (386 : Nat) ({ cls := "PillarDeskModel", name := "drawn", desc := "()I" } : Jvm.MethodName)) ∈ zz_tbl := zz_mem 1936 (by decide +kernel) rfl
theorem tm_1938 : (Jvm.Cond.instanceMethod ({ cls := "PillarDeskModel", name := "drawn", desc := "()I" } : Jvm.MethodName)) ∈ zz_tbl := zz_mem 1938 (by decide +kernel) rfl
theorem tm_1939 : (Jvm.Cond.code ({ cls := "PillarDeskModel", name := "drawn", desc := "()I" } : Jvm.MethodName) prog_14_method_82_code (3 : Nat) (Option.some Jvm.ClassFile.FieldType.int)) ∈ zz_tbl := zz_mem 1939 (by decide +kernel) rfl
theorem tm_1940 : (Jvm.Cond.methodLink "PillarDeskModel" (381 : Nat) ({ cls := "PillarDeskModel", name := "draw", desc := "(I)I" } : Jvm.MethodName)) ∈ zz_tbl := zz_mem 1940 (by decide +kernel) rfl
theorem tm_1942 : (Jvm.Cond.instanceMethod ({ cls := "PillarDeskModel", name := "draw", desc := "(I)I" } : Jvm.MethodName)) ∈ zz_tbl := zz_mem 1942 (by decide +kernel) rfl
theorem tm_1943 : (Jvm.Cond.code ({ cls := "PillarDeskModel", name := "draw", desc := "(I)I" } : Jvm.MethodName) prog_14_method_81_code (2 : Nat) (Option.some Jvm.ClassFile.FieldType.int)) ∈ zz_tbl := zz_mem 1943 (by decide +kernel) rfl
theorem tm_1944 : (Jvm.Cond.constant "PillarDeskModel" (377 : Nat) (1103515245 : Int32)) ∈ zz_tbl := zz_mem 1944 (by decide +kernel) rfl
theorem tm_1953 : (Jvm.Cond.methodLink "PillarDeskModel" (389 : Nat) ({ cls := "PillarDeskModel", name := "isPillar", desc := "(I)Z" } : Jvm.MethodName)) ∈ zz_tbl := zz_mem 1953 (by decide +kernel) rfl
theorem tm_1955 : (Jvm.Cond.instanceMethod ({ cls := "PillarDeskModel", name := "isPillar", desc := "(I)Z" } : Jvm.MethodName)) ∈ zz_tbl := zz_mem 1955 (by decide +kernel) rfl
theorem tm_1956 : (Jvm.Cond.code ({ cls := "PillarDeskModel", name := "isPillar", desc := "(I)Z" } : Jvm.MethodName) prog_14_method_84_code (2 : Nat) (Option.some Jvm.ClassFile.FieldType.boolean)) ∈ zz_tbl := zz_mem 1956 (by decide +kernel) rfl
theorem tm_1965 : (Jvm.Cond.constantLong "PillarDeskModel" (392 : Nat) (9999 : Int64)) ∈ zz_tbl := zz_mem 1965 (by decide +kernel) rfl
theorem tm_1966 : (Jvm.Cond.methodLink "PillarDeskModel" (394 : Nat) ({ cls := "PillarDeskModel", name := "rateOf", desc := "(II)I" } : Jvm.MethodName)) ∈ zz_tbl := zz_mem 1966 (by decide +kernel) rfl
theorem tm_1968 : (Jvm.Cond.instanceMethod ({ cls := "PillarDeskModel", name := "rateOf", desc := "(II)I" } : Jvm.MethodName)) ∈ zz_tbl := zz_mem 1968 (by decide +kernel) rfl
theorem tm_1969 : (Jvm.Cond.code ({ cls := "PillarDeskModel", name := "rateOf", desc := "(II)I" } : Jvm.MethodName) prog_14_method_88_code (5 : Nat) (Option.some Jvm.ClassFile.FieldType.int)) ∈ zz_tbl := zz_mem 1969 (by decide +kernel) rfl
theorem tm_1982 : (Jvm.Cond.methodLink "PillarDeskModel" (397 : Nat) ({ cls := "PillarDeskModel", name := "laysWith", desc := "(II)V" } : Jvm.MethodName)) ∈ zz_tbl := zz_mem 1982 (by decide +kernel) rfl
theorem tm_1984 : (Jvm.Cond.instanceMethod ({ cls := "PillarDeskModel", name := "laysWith", desc := "(II)V" } : Jvm.MethodName)) ∈ zz_tbl := zz_mem 1984 (by decide +kernel) rfl
theorem tm_1985 : (Jvm.Cond.code ({ cls := "PillarDeskModel", name := "laysWith", desc := "(II)V" } : Jvm.MethodName) prog_14_method_62_code (3 : Nat) (Option.none : Option Jvm.ClassFile.FieldType)) ∈ zz_tbl := zz_mem 1985 (by decide +kernel) rfl
theorem tm_1994 : (Jvm.Cond.methodLink "PillarDeskModel" (405 : Nat) ({ cls := "PillarDeskModel", name := "worthNow", desc := "()J" } : Jvm.MethodName)) ∈ zz_tbl := zz_mem 1994 (by decide +kernel) rfl
theorem tm_1996 : (Jvm.Cond.instanceMethod ({ cls := "PillarDeskModel", name := "worthNow", desc := "()J" } : Jvm.MethodName)) ∈ zz_tbl := zz_mem 1996 (by decide +kernel) rfl
theorem tm_1997 : (Jvm.Cond.code ({ cls := "PillarDeskModel", name := "worthNow", desc := "()J" } : Jvm.MethodName) prog_14_method_95_code (1 : Nat) (Option.some Jvm.ClassFile.FieldType.long)) ∈ zz_tbl := zz_mem 1997 (by decide +kernel) rfl
theorem tm_1998 : (Jvm.Cond.methodLink "PillarDeskModel" (401 : Nat) ({ cls := "PillarDeskModel", name := "worthBy", desc := "()J" } : Jvm.MethodName)) ∈ zz_tbl := zz_mem 1998 (by decide +kernel) rfl
theorem tm_2000 : (Jvm.Cond.instanceMethod ({ cls := "PillarDeskModel", name := "worthBy", desc := "()J" } : Jvm.MethodName)) ∈ zz_tbl := zz_mem 2000 (by decide +kernel) rfl
theorem tm_2001 : (Jvm.Cond.code ({ cls := "PillarDeskModel", name := "worthBy", desc := "()J" } : Jvm.MethodName) prog_14_method_94_code (4 : Nat) (Option.some Jvm.ClassFile.FieldType.long)) ∈ zz_tbl := zz_mem 2001 (by decide +kernel) rfl
theorem tm_2006 : (Jvm.Cond.methodLink "PillarDeskModel" (408 : Nat) ({ cls := "PillarDeskModel", name := "worthWith", desc := "(II)J" } : Jvm.MethodName)) ∈ zz_tbl := zz_mem 2006 (by decide +kernel) rfl
theorem tm_2008 : (Jvm.Cond.instanceMethod ({ cls := "PillarDeskModel", name := "worthWith", desc := "(II)J" } : Jvm.MethodName)) ∈ zz_tbl := zz_mem 2008 (by decide +kernel) rfl
theorem tm_2009 : (Jvm.Cond.code ({ cls := "PillarDeskModel", name := "worthWith", desc := "(II)J" } : Jvm.MethodName) prog_14_method_96_code (3 : Nat) (Option.some Jvm.ClassFile.FieldType.long)) ∈ zz_tbl := zz_mem 2009 (by decide +kernel) rfl
theorem tm_2014 : (Jvm.Cond.constantLong "PillarDeskModel" (411 : Nat) (-9000000000000000003 : Int64)) ∈ zz_tbl := zz_mem 2014 (by decide +kernel) rfl
theorem tm_2019 : (Jvm.Cond.constantLong "PillarDeskModel" (413 : Nat) (-1 : Int64)) ∈ zz_tbl := zz_mem 2019 (by decide +kernel) rfl
theorem tm_2028 : (Jvm.Cond.methodLink "PillarDeskModel" (418 : Nat) ({ cls := "PillarDeskModel", name := "hangOf", desc := "(I)J" } : Jvm.MethodName)) ∈ zz_tbl := zz_mem 2028 (by decide +kernel) rfl
theorem tm_2030 : (Jvm.Cond.instanceMethod ({ cls := "PillarDeskModel", name := "hangOf", desc := "(I)J" } : Jvm.MethodName)) ∈ zz_tbl := zz_mem 2030 (by decide +kernel) rfl
theorem tm_2031 : (Jvm.Cond.code ({ cls := "PillarDeskModel", name := "hangOf", desc := "(I)J" } : Jvm.MethodName) prog_14_method_103_code (5 : Nat) (Option.some Jvm.ClassFile.FieldType.long)) ∈ zz_tbl := zz_mem 2031 (by decide +kernel) rfl
theorem tm_2032 : (Jvm.Cond.methodLink "PillarDeskModel" (415 : Nat) ({ cls := "PillarDeskModel", name := "weightAt", desc := "(II)I" } : Jvm.MethodName)) ∈ zz_tbl := zz_mem 2032 (by decide +kernel) rfl
theorem tm_2034 : (Jvm.Cond.instanceMethod ({ cls := "PillarDeskModel", name := "weightAt", desc := "(II)I" } : Jvm.MethodName)) ∈ zz_tbl := zz_mem 2034 (by decide +kernel) rfl
theorem tm_2035 : (Jvm.Cond.code ({ cls := "PillarDeskModel", name := "weightAt", desc := "(II)I" } : Jvm.MethodName) prog_14_method_102_code (5 : Nat) (Option.some Jvm.ClassFile.FieldType.int)) ∈ zz_tbl := zz_mem 2035 (by decide +kernel) rfl
theorem tm_2040 : (Jvm.Cond.methodLink "PillarDeskModel" (427 : Nat) ({ cls := "PillarDeskModel", name := "laysFlat", desc := "()V" } : Jvm.MethodName)) ∈ zz_tbl := zz_mem 2040 (by decide +kernel) rfl
theorem tm_2042 : (Jvm.Cond.instanceMethod ({ cls := "PillarDeskModel", name := "laysFlat", desc := "()V" } : Jvm.MethodName)) ∈ zz_tbl := zz_mem 2042 (by decide +kernel) rfl
theorem tm_2043 : (Jvm.Cond.code ({ cls := "PillarDeskModel", name := "laysFlat", desc := "()V" } : Jvm.MethodName) prog_14_method_105_code (5 : Nat) (Option.none : Option Jvm.ClassFile.FieldType)) ∈ zz_tbl := zz_mem 2043 (by decide +kernel) rfl
theorem tm_2044 : (Jvm.Cond.methodLink "PillarDeskModel" (422 : Nat) ({ cls := "PillarDeskModel", name := "pieceOn", desc := "(II)J" } : Jvm.MethodName)) ∈ zz_tbl := zz_mem 2044 (by decide +kernel) rfl
theorem tm_2046 : (Jvm.Cond.instanceMethod ({ cls := "PillarDeskModel", name := "pieceOn", desc := "(II)J" } : Jvm.MethodName)) ∈ zz_tbl := zz_mem 2046 (by decide +kernel) rfl
theorem tm_2047 : (Jvm.Cond.code ({ cls := "PillarDeskModel", name := "pieceOn", desc := "(II)J" } : Jvm.MethodName) prog_14_method_104_code (6 : Nat) (Option.some Jvm.ClassFile.FieldType.long)) ∈ zz_tbl := zz_mem 2047 (by decide +kernel) rfl
theorem tm_2048 : (Jvm.Cond.constantLong "PillarDeskModel" (425 : Nat) (2 : Int64)) ∈ zz_tbl := zz_mem 2048 (by decide +kernel) rfl
theorem tm_2057 : (Jvm.Cond.methodLink "PillarDeskModel" (436 : Nat) ({ cls := "PillarDeskModel", name := "noTold", desc := "(I)I" } : Jvm.MethodName)) ∈ zz_tbl := zz_mem 2057 (by decide +kernel) rfl
theorem tm_2059 : (Jvm.Cond.instanceMethod ({ cls := "PillarDeskModel", name := "noTold", desc := "(I)I" } : Jvm.MethodName)) ∈ zz_tbl := zz_mem 2059 (by decide +kernel) rfl
theorem tm_2060 : (Jvm.Cond.code ({ cls := "PillarDeskModel", name := "noTold", desc := "(I)I" } : Jvm.MethodName) prog_14_method_109_code (4 : Nat) (Option.some Jvm.ClassFile.FieldType.int)) ∈ zz_tbl := zz_mem 2060 (by decide +kernel) rfl
theorem tm_2061 : (Jvm.Cond.constantLong "PillarDeskModel" (430 : Nat) (8 : Int64)) ∈ zz_tbl := zz_mem 2061 (by decide +kernel) rfl
theorem tm_2062 : (Jvm.Cond.constantLong "PillarDeskModel" (432 : Nat) (999999999999 : Int64)) ∈ zz_tbl := zz_mem 2062 (by decide +kernel) rfl
theorem tm_2063 : (Jvm.Cond.methodLink "PillarDeskModel" (439 : Nat) ({ cls := "PillarDeskModel", name := "shiftsOf", desc := "(I)I" } : Jvm.MethodName)) ∈ zz_tbl := zz_mem 2063 (by decide +kernel) rfl
theorem tm_2065 : (Jvm.Cond.instanceMethod ({ cls := "PillarDeskModel", name := "shiftsOf", desc := "(I)I" } : Jvm.MethodName)) ∈ zz_tbl := zz_mem 2065 (by decide +kernel) rfl
theorem tm_2066 : (Jvm.Cond.code ({ cls := "PillarDeskModel", name := "shiftsOf", desc := "(I)I" } : Jvm.MethodName) prog_14_method_110_code (6 : Nat) (Option.some Jvm.ClassFile.FieldType.int)) ∈ zz_tbl := zz_mem 2066 (by decide +kernel) rfl
theorem tm_2067 : (Jvm.Cond.constantLong "PillarDeskModel" (434 : Nat) (100000000 : Int64)) ∈ zz_tbl := zz_mem 2067 (by decide +kernel) rfl
theorem tm_2072 : (Jvm.Cond.constant "PillarDeskModel" (446 : Nat) (268435456 : Int32)) ∈ zz_tbl := zz_mem 2072 (by decide +kernel) rfl
theorem tm_2073 : (Jvm.Cond.methodLink "PillarDeskModel" (447 : Nat) ({ cls := "PillarDeskModel", name := "mostAlike", desc := "(II)I" } : Jvm.MethodName)) ∈ zz_tbl := zz_mem 2073 (by decide +kernel) rfl
theorem tm_2075 : (Jvm.Cond.instanceMethod ({ cls := "PillarDeskModel", name := "mostAlike", desc := "(II)I" } : Jvm.MethodName)) ∈ zz_tbl := zz_mem 2075 (by decide +kernel) rfl
theorem tm_2076 : (Jvm.Cond.code ({ cls := "PillarDeskModel", name := "mostAlike", desc := "(II)I" } : Jvm.MethodName) prog_14_method_112_code (7 : Nat) (Option.some Jvm.ClassFile.FieldType.int)) ∈ zz_tbl := zz_mem 2076 (by decide +kernel) rfl
theorem tm_2077 : (Jvm.Cond.methodLink "PillarDeskModel" (442 : Nat) ({ cls := "PillarDeskModel", name := "isIn", desc := "(JI)Z" } : Jvm.MethodName)) ∈ zz_tbl := zz_mem 2077 (by decide +kernel) rfl
theorem tm_2078 : (Jvm.Cond.static ({ cls := "PillarDeskModel", name := "isIn", desc := "(JI)Z" } : Jvm.MethodName)) ∈ zz_tbl := zz_mem 2078 (by decide +kernel) rfl
theorem tm_2079 : (Jvm.Cond.code ({ cls := "PillarDeskModel", name := "isIn", desc := "(JI)Z" } : Jvm.MethodName) prog_14_method_15_code (3 : Nat) (Option.some Jvm.ClassFile.FieldType.boolean)) ∈ zz_tbl := zz_mem 2079 (by decide +kernel) rfl
theorem tm_2084 : (Jvm.Cond.methodLink "PillarDeskModel" (464 : Nat) ({ cls := "PillarDeskModel", name := "isLots", desc := "(II)Z" } : Jvm.MethodName)) ∈ zz_tbl := zz_mem 2084 (by decide +kernel) rfl
theorem tm_2085 : (Jvm.Cond.static ({ cls := "PillarDeskModel", name := "isLots", desc := "(II)Z" } : Jvm.MethodName)) ∈ zz_tbl := zz_mem 2085 (by decide +kernel) rfl
theorem tm_2086 : (Jvm.Cond.code ({ cls := "PillarDeskModel", name := "isLots", desc := "(II)Z" } : Jvm.MethodName) prog_14_method_118_code (2 : Nat) (Option.some Jvm.ClassFile.FieldType.boolean)) ∈ zz_tbl := zz_mem 2086 (by decide +kernel) rfl
theorem tm_2087 : (Jvm.Cond.methodLink "PillarDeskModel" (467 : Nat) ({ cls := "PillarDeskModel", name := "laysLots", desc := "(IJI)V" } : Jvm.MethodName)) ∈ zz_tbl := zz_mem 2087 (by decide +kernel) rfl
theorem tm_2089 : (Jvm.Cond.instanceMethod ({ cls := "PillarDeskModel", name := "laysLots", desc := "(IJI)V" } : Jvm.MethodName)) ∈ zz_tbl := zz_mem 2089 (by decide +kernel) rfl
theorem tm_2090 : (Jvm.Cond.code ({ cls := "PillarDeskModel", name := "laysLots", desc := "(IJI)V" } : Jvm.MethodName) prog_14_method_115_code (5 : Nat) (Option.none : Option Jvm.ClassFile.FieldType)) ∈ zz_tbl := zz_mem 2090 (by decide +kernel) rfl
theorem tm_2091 : (Jvm.Cond.methodLink "PillarDeskModel" (457 : Nat) ({ cls := "PillarDeskModel", name := "goesLots", desc := "(IIJIJ)V" } : Jvm.MethodName)) ∈ zz_tbl := zz_mem 2091 (by decide +kernel) rfl
theorem tm_2093 : (Jvm.Cond.instanceMethod ({ cls := "PillarDeskModel", name := "goesLots", desc := "(IIJIJ)V" } : Jvm.MethodName)) ∈ zz_tbl := zz_mem 2093 (by decide +kernel) rfl
theorem tm_2094 : (Jvm.Cond.code ({ cls := "PillarDeskModel", name := "goesLots", desc := "(IIJIJ)V" } : Jvm.MethodName) prog_14_method_114_code (12 : Nat) (Option.none : Option Jvm.ClassFile.FieldType)) ∈ zz_tbl := zz_mem 2094 (by decide +kernel) rfl
theorem tm_2095 : (Jvm.Cond.methodLink "PillarDeskModel" (471 : Nat) ({ cls := "PillarDeskModel", name := "wholeOf", desc := "(I)J" } : Jvm.MethodName)) ∈ zz_tbl := zz_mem 2095 (by decide +kernel) rfl
theorem tm_2096 : (Jvm.Cond.static ({ cls := "PillarDeskModel", name := "wholeOf", desc := "(I)J" } : Jvm.MethodName)) ∈ zz_tbl := zz_mem 2096 (by decide +kernel) rfl
theorem tm_2097 : (Jvm.Cond.code ({ cls := "PillarDeskModel", name := "wholeOf", desc := "(I)J" } : Jvm.MethodName) prog_14_method_116_code (4 : Nat) (Option.some Jvm.ClassFile.FieldType.long)) ∈ zz_tbl := zz_mem 2097 (by decide +kernel) rfl
theorem tm_2098 : (Jvm.Cond.methodLink "PillarDeskModel" (461 : Nat) ({ cls := "PillarDeskModel", name := "common", desc := "(JJ)J" } : Jvm.MethodName)) ∈ zz_tbl := zz_mem 2098 (by decide +kernel) rfl
theorem tm_2099 : (Jvm.Cond.static ({ cls := "PillarDeskModel", name := "common", desc := "(JJ)J" } : Jvm.MethodName)) ∈ zz_tbl := zz_mem 2099 (by decide +kernel) rfl
theorem tm_2100 : (Jvm.Cond.code ({ cls := "PillarDeskModel", name := "common", desc := "(JJ)J" } : Jvm.MethodName) prog_14_method_117_code (4 : Nat) (Option.some Jvm.ClassFile.FieldType.long)) ∈ zz_tbl := zz_mem 2100 (by decide +kernel) rfl
theorem tm_2113 : (Jvm.Cond.constantLong "PillarDeskModel" (474 : Nat) (-7 : Int64)) ∈ zz_tbl := zz_mem 2113 (by decide +kernel) rfl
theorem tm_2114 : (Jvm.Cond.methodLink "PillarDeskModel" (476 : Nat) ({ cls := "PillarDeskModel", name := "cut", desc := "(JI)J" } : Jvm.MethodName)) ∈ zz_tbl := zz_mem 2114 (by decide +kernel) rfl
theorem tm_2115 : (Jvm.Cond.static ({ cls := "PillarDeskModel", name := "cut", desc := "(JI)J" } : Jvm.MethodName)) ∈ zz_tbl := zz_mem 2115 (by decide +kernel) rfl
theorem tm_2116 : (Jvm.Cond.code ({ cls := "PillarDeskModel", name := "cut", desc := "(JI)J" } : Jvm.MethodName) prog_14_method_121_code (3 : Nat) (Option.some Jvm.ClassFile.FieldType.long)) ∈ zz_tbl := zz_mem 2116 (by decide +kernel) rfl
theorem tm_2134 : (Jvm.Cond.fieldLink "java/lang/String" (15 : Nat) "java/lang/String" "coder" "B") ∈ zz_tbl := zz_mem 2134 (by decide +kernel) rfl
theorem tm_2135 : (Jvm.Cond.fieldLink "java/lang/String" (9 : Nat) "java/lang/String" "value" "[B") ∈ zz_tbl := zz_mem 2135 (by decide +kernel) rfl
