theorem am_fall_nil {α : Type} (P : α → Prop) : ∀ q ∈ ([] : List α), P q := fun _ h => by cases h
theorem am_fall_cons {α : Type} {P : α → Prop} {a : α} {l : List α} (h : P a) (hl : ∀ q ∈ l, P q) : ∀ q ∈ a :: l, P q := fun q hq => by
  rcases List.mem_cons.mp hq with z | z
  · rw [z]; exact h
  · exact hl q z
theorem tw_0 : (Cond.selects "HadItFrom" ⟨"HadItFrom", "refuse", "(I)I"⟩ ⟨"HadItFrom", "refuse", "(I)I"⟩) ∈ am_T := am_in 0 (by decide +kernel) (by decide +kernel)
theorem tw_1 : (Cond.selects "HadItFrom" ⟨"HadItFrom", "refusalOfNumbers", "(I)I"⟩ ⟨"HadItFrom", "refusalOfNumbers", "(I)I"⟩) ∈ am_T := am_in 1 (by decide +kernel) (by decide +kernel)
theorem tw_2 : (Cond.selects "HadItFrom" ⟨"HadItFrom", "refusalOfCopy", "(II)I"⟩ ⟨"HadItFrom", "refusalOfCopy", "(II)I"⟩) ∈ am_T := am_in 2 (by decide +kernel) (by decide +kernel)
theorem tw_3 : (Cond.selects "HadItFrom" ⟨"HadItFrom", "holdsMen", "(I)Z"⟩ ⟨"HadItFrom", "holdsMen", "(I)Z"⟩) ∈ am_T := am_in 3 (by decide +kernel) (by decide +kernel)
theorem tw_4 : (Cond.selects "HadItFrom" ⟨"HadItFrom", "hasElements", "(III)Z"⟩ ⟨"HadItFrom", "hasElements", "(III)Z"⟩) ∈ am_T := am_in 4 (by decide +kernel) (by decide +kernel)
theorem tw_5 : (Cond.selects "HadItFrom" ⟨"HadItFrom", "menCome", "([JII)I"⟩ ⟨"HadItFrom", "menCome", "([JII)I"⟩) ∈ am_T := am_in 5 (by decide +kernel) (by decide +kernel)
theorem tw_6 : (Cond.selects "HadItFrom$Text" ⟨"HadItFrom$Text", "readWord", "(Ljava/lang/String;)I"⟩ ⟨"HadItFrom$Text", "readWord", "(Ljava/lang/String;)I"⟩) ∈ am_T := am_in 6 (by decide +kernel) (by decide +kernel)
theorem tw_7 : (Cond.selects "HadItFrom$Text" ⟨"HadItFrom$Text", "readNumber", "(I)I"⟩ ⟨"HadItFrom$Text", "readNumber", "(I)I"⟩) ∈ am_T := am_in 7 (by decide +kernel) (by decide +kernel)
theorem tw_8 : (Cond.selects "HadItFrom$Text" ⟨"HadItFrom$Text", "digitAt", "(I)I"⟩ ⟨"HadItFrom$Text", "digitAt", "(I)I"⟩) ∈ am_T := am_in 8 (by decide +kernel) (by decide +kernel)
theorem tw_9 : (Cond.selects "HadItFrom$Text" ⟨"HadItFrom$Text", "goesOnAfterPart", "()Z"⟩ ⟨"HadItFrom$Text", "goesOnAfterPart", "()Z"⟩) ∈ am_T := am_in 9 (by decide +kernel) (by decide +kernel)
theorem tw_10 : (Cond.selects "HadItFrom" ⟨"HadItFrom", "refuseBelowTen", "(I)I"⟩ ⟨"HadItFrom", "refuseBelowTen", "(I)I"⟩) ∈ am_T := am_in 10 (by decide +kernel) (by decide +kernel)
theorem tw_11 : (Cond.selects "HadItFrom$Text" ⟨"HadItFrom$Text", "readRow", "(II)LHadItFrom$Row;"⟩ ⟨"HadItFrom$Text", "readRow", "(II)LHadItFrom$Row;"⟩) ∈ am_T := am_in 11 (by decide +kernel) (by decide +kernel)
theorem tw_12 : (Cond.selects "HadItFrom$Text" ⟨"HadItFrom$Text", "readKind", "()I"⟩ ⟨"HadItFrom$Text", "readKind", "()I"⟩) ∈ am_T := am_in 12 (by decide +kernel) (by decide +kernel)
theorem tw_13 : (Cond.selects "HadItFrom$Text" ⟨"HadItFrom$Text", "readMan", "(II)I"⟩ ⟨"HadItFrom$Text", "readMan", "(II)I"⟩) ∈ am_T := am_in 13 (by decide +kernel) (by decide +kernel)
theorem tw_14 : (Cond.selects "HadItFrom$Text" ⟨"HadItFrom$Text", "readNext", "(I)I"⟩ ⟨"HadItFrom$Text", "readNext", "(I)I"⟩) ∈ am_T := am_in 14 (by decide +kernel) (by decide +kernel)
theorem tw_15 : (Cond.selects "HadItFrom$Text" ⟨"HadItFrom$Text", "readWording", "()I"⟩ ⟨"HadItFrom$Text", "readWording", "()I"⟩) ∈ am_T := am_in 15 (by decide +kernel) (by decide +kernel)
theorem tw_16 : (Cond.selects "HadItFrom$Text" ⟨"HadItFrom$Text", "newRow", "(IIII)LHadItFrom$Row;"⟩ ⟨"HadItFrom$Text", "newRow", "(IIII)LHadItFrom$Row;"⟩) ∈ am_T := am_in 16 (by decide +kernel) (by decide +kernel)
theorem tw_17 : (Cond.selects "HadItFrom" ⟨"HadItFrom", "refusalOfTwoMen", "(II)I"⟩ ⟨"HadItFrom", "refusalOfTwoMen", "(II)I"⟩) ∈ am_T := am_in 17 (by decide +kernel) (by decide +kernel)
theorem tw_18 : (Cond.selects "HadItFrom" ⟨"HadItFrom", "layNet", "(I)V"⟩ ⟨"HadItFrom", "layNet", "(I)V"⟩) ∈ am_T := am_in 18 (by decide +kernel) (by decide +kernel)
theorem tw_19 : (Cond.selects "HadItFrom$Net" ⟨"HadItFrom$Net", "layRow", "(LHadItFrom$Row;)V"⟩ ⟨"HadItFrom$Net", "layRow", "(LHadItFrom$Row;)V"⟩) ∈ am_T := am_in 19 (by decide +kernel) (by decide +kernel)
theorem tw_20 : (Cond.selects "HadItFrom$Net" ⟨"HadItFrom$Net", "openRoom", "()V"⟩ ⟨"HadItFrom$Net", "openRoom", "()V"⟩) ∈ am_T := am_in 20 (by decide +kernel) (by decide +kernel)
theorem tw_21 : (Cond.selects "HadItFrom$Net" ⟨"HadItFrom$Net", "findsWay", "()Z"⟩ ⟨"HadItFrom$Net", "findsWay", "()Z"⟩) ∈ am_T := am_in 21 (by decide +kernel) (by decide +kernel)
theorem tw_22 : (Cond.selects "HadItFrom$Net" ⟨"HadItFrom$Net", "takeWay", "()V"⟩ ⟨"HadItFrom$Net", "takeWay", "()V"⟩) ∈ am_T := am_in 22 (by decide +kernel) (by decide +kernel)
theorem tw_23 : (Cond.selects "HadItFrom$Net" ⟨"HadItFrom$Net", "passDoors", "(II)V"⟩ ⟨"HadItFrom$Net", "passDoors", "(II)V"⟩) ∈ am_T := am_in 23 (by decide +kernel) (by decide +kernel)
theorem tw_24 : (Cond.selects "HadItFrom$Net" ⟨"HadItFrom$Net", "isNeeded", "(I)Z"⟩ ⟨"HadItFrom$Net", "isNeeded", "(I)Z"⟩) ∈ am_T := am_in 24 (by decide +kernel) (by decide +kernel)
theorem tw_25 : (Cond.selects "HadItFrom$Net" ⟨"HadItFrom$Net", "leadsWithout", "(I)Z"⟩ ⟨"HadItFrom$Net", "leadsWithout", "(I)Z"⟩) ∈ am_T := am_in 25 (by decide +kernel) (by decide +kernel)
theorem tw_26 : (Cond.selects "HadItFrom" ⟨"HadItFrom", "weightOf", "(I)I"⟩ ⟨"HadItFrom", "weightOf", "(I)I"⟩) ∈ am_T := am_in 26 (by decide +kernel) (by decide +kernel)
theorem tw_27 : (Cond.selects "HadItFrom" ⟨"HadItFrom", "isMouth", "(III)Z"⟩ ⟨"HadItFrom", "isMouth", "(III)Z"⟩) ∈ am_T := am_in 27 (by decide +kernel) (by decide +kernel)
theorem tw_28 : (Cond.selects "HadItFrom" ⟨"HadItFrom", "weightOfSet", "(I)I"⟩ ⟨"HadItFrom", "weightOfSet", "(I)I"⟩) ∈ am_T := am_in 28 (by decide +kernel) (by decide +kernel)
theorem tw_29 : (Cond.selects "HadItFromModel" ⟨"HadItFromModel", "isShelf", "(I)Z"⟩ ⟨"HadItFromModel", "isShelf", "(I)Z"⟩) ∈ am_T := am_in 29 (by decide +kernel) (by decide +kernel)
theorem tw_30 : (Cond.selects "HadItFromModel" ⟨"HadItFromModel", "no", "(I)I"⟩ ⟨"HadItFromModel", "no", "(I)I"⟩) ∈ am_T := am_in 30 (by decide +kernel) (by decide +kernel)
theorem tw_31 : (Cond.selects "HadItFromModel" ⟨"HadItFromModel", "isRow", "(II)Z"⟩ ⟨"HadItFromModel", "isRow", "(II)Z"⟩) ∈ am_T := am_in 31 (by decide +kernel) (by decide +kernel)
theorem tw_32 : (Cond.selects "HadItFromModel" ⟨"HadItFromModel", "isSaying", "(I)Z"⟩ ⟨"HadItFromModel", "isSaying", "(I)Z"⟩) ∈ am_T := am_in 32 (by decide +kernel) (by decide +kernel)
theorem tw_33 : (Cond.selects "HadItFromModel" ⟨"HadItFromModel", "isLife", "(II)Z"⟩ ⟨"HadItFromModel", "isLife", "(II)Z"⟩) ∈ am_T := am_in 33 (by decide +kernel) (by decide +kernel)
theorem tw_34 : (Cond.selects "HadItFromModel" ⟨"HadItFromModel", "isYear", "(I)Z"⟩ ⟨"HadItFromModel", "isYear", "(I)Z"⟩) ∈ am_T := am_in 34 (by decide +kernel) (by decide +kernel)
theorem tw_35 : (Cond.selects "HadItFromModel" ⟨"HadItFromModel", "isPlace", "(I)Z"⟩ ⟨"HadItFromModel", "isPlace", "(I)Z"⟩) ∈ am_T := am_in 35 (by decide +kernel) (by decide +kernel)
theorem tw_36 : (Cond.selects "HadItFromModel" ⟨"HadItFromModel", "isMark", "(II)Z"⟩ ⟨"HadItFromModel", "isMark", "(II)Z"⟩) ∈ am_T := am_in 36 (by decide +kernel) (by decide +kernel)
theorem tw_37 : (Cond.selects "HadItFromModel" ⟨"HadItFromModel", "comes", "(IIIII)V"⟩ ⟨"HadItFromModel", "comes", "(IIIII)V"⟩) ∈ am_T := am_in 37 (by decide +kernel) (by decide +kernel)
theorem tw_38 : (Cond.selects "HadItFromModel" ⟨"HadItFromModel", "wants", "(I)I"⟩ ⟨"HadItFromModel", "wants", "(I)I"⟩) ∈ am_T := am_in 38 (by decide +kernel) (by decide +kernel)
theorem tw_39 : (Cond.selects "HadItFromModel" ⟨"HadItFromModel", "intAt", "(II)I"⟩ ⟨"HadItFromModel", "intAt", "(II)I"⟩) ∈ am_T := am_in 39 (by decide +kernel) (by decide +kernel)
theorem tw_40 : (Cond.selects "HadItFromModel" ⟨"HadItFromModel", "isMan", "(I)Z"⟩ ⟨"HadItFromModel", "isMan", "(I)Z"⟩) ∈ am_T := am_in 40 (by decide +kernel) (by decide +kernel)
theorem tw_41 : (Cond.selects "HadItFromModel" ⟨"HadItFromModel", "whereIs", "(II)I"⟩ ⟨"HadItFromModel", "whereIs", "(II)I"⟩) ∈ am_T := am_in 41 (by decide +kernel) (by decide +kernel)
theorem tw_42 : (Cond.selects "HadItFromModel" ⟨"HadItFromModel", "text", "(IZ)I"⟩ ⟨"HadItFromModel", "text", "(IZ)I"⟩) ∈ am_T := am_in 42 (by decide +kernel) (by decide +kernel)
theorem tw_43 : (Cond.selects "HadItFromModel" ⟨"HadItFromModel", "readsBook", "()Z"⟩ ⟨"HadItFromModel", "readsBook", "()Z"⟩) ∈ am_T := am_in 43 (by decide +kernel) (by decide +kernel)
theorem tw_44 : (Cond.selects "HadItFromModel" ⟨"HadItFromModel", "oneRow", "(I)Z"⟩ ⟨"HadItFromModel", "oneRow", "(I)Z"⟩) ∈ am_T := am_in 44 (by decide +kernel) (by decide +kernel)
theorem tw_45 : (Cond.selects "HadItFromModel" ⟨"HadItFromModel", "isDigit", "()Z"⟩ ⟨"HadItFromModel", "isDigit", "()Z"⟩) ∈ am_T := am_in 45 (by decide +kernel) (by decide +kernel)
theorem tw_46 : (Cond.selects "HadItFromModel" ⟨"HadItFromModel", "letter", "()I"⟩ ⟨"HadItFromModel", "letter", "()I"⟩) ∈ am_T := am_in 46 (by decide +kernel) (by decide +kernel)
theorem tw_47 : (Cond.selects "HadItFromModel" ⟨"HadItFromModel", "word", "(II)I"⟩ ⟨"HadItFromModel", "word", "(II)I"⟩) ∈ am_T := am_in 47 (by decide +kernel) (by decide +kernel)
theorem tw_48 : (Cond.selects "HadItFromModel" ⟨"HadItFromModel", "manHere", "(I)Z"⟩ ⟨"HadItFromModel", "manHere", "(I)Z"⟩) ∈ am_T := am_in 48 (by decide +kernel) (by decide +kernel)
theorem tw_49 : (Cond.selects "HadItFromModel" ⟨"HadItFromModel", "digits", "(I)Z"⟩ ⟨"HadItFromModel", "digits", "(I)Z"⟩) ∈ am_T := am_in 49 (by decide +kernel) (by decide +kernel)
theorem tw_50 : (Cond.selects "HadItFromModel" ⟨"HadItFromModel", "wrong", "(I)Z"⟩ ⟨"HadItFromModel", "wrong", "(I)Z"⟩) ∈ am_T := am_in 50 (by decide +kernel) (by decide +kernel)
theorem tw_51 : (Cond.selects "HadItFromModel" ⟨"HadItFromModel", "readsRules", "()Z"⟩ ⟨"HadItFromModel", "readsRules", "()Z"⟩) ∈ am_T := am_in 51 (by decide +kernel) (by decide +kernel)
theorem tw_52 : (Cond.selects "HadItFromModel" ⟨"HadItFromModel", "oneRule", "()Z"⟩ ⟨"HadItFromModel", "oneRule", "()Z"⟩) ∈ am_T := am_in 52 (by decide +kernel) (by decide +kernel)
theorem tw_53 : (Cond.selects "HadItFromModel" ⟨"HadItFromModel", "most", "(I)I"⟩ ⟨"HadItFromModel", "most", "(I)I"⟩) ∈ am_T := am_in 53 (by decide +kernel) (by decide +kernel)
theorem tw_54 : (Cond.selects "HadItFromModel" ⟨"HadItFromModel", "noTen", "(I)I"⟩ ⟨"HadItFromModel", "noTen", "(I)I"⟩) ∈ am_T := am_in 54 (by decide +kernel) (by decide +kernel)
theorem tw_55 : (Cond.selects "HadItFromModel" ⟨"HadItFromModel", "whenCould", "(II)I"⟩ ⟨"HadItFromModel", "whenCould", "(II)I"⟩) ∈ am_T := am_in 55 (by decide +kernel) (by decide +kernel)
theorem tw_56 : (Cond.selects "HadItFromModel" ⟨"HadItFromModel", "law", "(I)I"⟩ ⟨"HadItFromModel", "law", "(I)I"⟩) ∈ am_T := am_in 56 (by decide +kernel) (by decide +kernel)
theorem tw_57 : (Cond.selects "HadItFromModel" ⟨"HadItFromModel", "failsAt", "(I)I"⟩ ⟨"HadItFromModel", "failsAt", "(I)I"⟩) ∈ am_T := am_in 57 (by decide +kernel) (by decide +kernel)
theorem tw_58 : (Cond.selects "HadItFromModel" ⟨"HadItFromModel", "strengthAt", "(I)I"⟩ ⟨"HadItFromModel", "strengthAt", "(I)I"⟩) ∈ am_T := am_in 58 (by decide +kernel) (by decide +kernel)
theorem tw_59 : (Cond.selects "HadItFromModel" ⟨"HadItFromModel", "surenessAt", "(II)I"⟩ ⟨"HadItFromModel", "surenessAt", "(II)I"⟩) ∈ am_T := am_in 59 (by decide +kernel) (by decide +kernel)
theorem tw_60 : (Cond.selects "HadItFromModel" ⟨"HadItFromModel", "isStanding", "(I)Z"⟩ ⟨"HadItFromModel", "isStanding", "(I)Z"⟩) ∈ am_T := am_in 60 (by decide +kernel) (by decide +kernel)
theorem tw_61 : (Cond.selects "HadItFromModel" ⟨"HadItFromModel", "apartOf", "(I)I"⟩ ⟨"HadItFromModel", "apartOf", "(I)I"⟩) ∈ am_T := am_in 61 (by decide +kernel) (by decide +kernel)
theorem tw_62 : (Cond.selects "HadItFromModel" ⟨"HadItFromModel", "net", "(I)V"⟩ ⟨"HadItFromModel", "net", "(I)V"⟩) ∈ am_T := am_in 62 (by decide +kernel) (by decide +kernel)
theorem tw_63 : (Cond.selects "HadItFromModel" ⟨"HadItFromModel", "ones", "()V"⟩ ⟨"HadItFromModel", "ones", "()V"⟩) ∈ am_T := am_in 63 (by decide +kernel) (by decide +kernel)
theorem tw_64 : (Cond.selects "HadItFromModel" ⟨"HadItFromModel", "flow", "(I)I"⟩ ⟨"HadItFromModel", "flow", "(I)I"⟩) ∈ am_T := am_in 64 (by decide +kernel) (by decide +kernel)
theorem tw_65 : (Cond.selects "HadItFromModel" ⟨"HadItFromModel", "fills", "()Z"⟩ ⟨"HadItFromModel", "fills", "()Z"⟩) ∈ am_T := am_in 65 (by decide +kernel) (by decide +kernel)
theorem tw_66 : (Cond.selects "HadItFromModel" ⟨"HadItFromModel", "knotsOf", "(I)I"⟩ ⟨"HadItFromModel", "knotsOf", "(I)I"⟩) ∈ am_T := am_in 66 (by decide +kernel) (by decide +kernel)
theorem tw_67 : (Cond.selects "HadItFromModel" ⟨"HadItFromModel", "menOf", "(I)I"⟩ ⟨"HadItFromModel", "menOf", "(I)I"⟩) ∈ am_T := am_in 67 (by decide +kernel) (by decide +kernel)
theorem tw_68 : (Cond.selects "HadItFromModel" ⟨"HadItFromModel", "weightOf", "(I)I"⟩ ⟨"HadItFromModel", "weightOf", "(I)I"⟩) ∈ am_T := am_in 68 (by decide +kernel) (by decide +kernel)
theorem tw_69 : (Cond.selects "HadItFromModel" ⟨"HadItFromModel", "wordingsOf", "(I)I"⟩ ⟨"HadItFromModel", "wordingsOf", "(I)I"⟩) ∈ am_T := am_in 69 (by decide +kernel) (by decide +kernel)
theorem tw_70 : (Cond.selects "HadItFromModel" ⟨"HadItFromModel", "many", "(I)I"⟩ ⟨"HadItFromModel", "many", "(I)I"⟩) ∈ am_T := am_in 70 (by decide +kernel) (by decide +kernel)
theorem tw_71 : (Cond.selects "HadItFromModel" ⟨"HadItFromModel", "isMore", "(II)Z"⟩ ⟨"HadItFromModel", "isMore", "(II)Z"⟩) ∈ am_T := am_in 71 (by decide +kernel) (by decide +kernel)
theorem tw_72 : (Cond.selects "HadItFromModel" ⟨"HadItFromModel", "isBetter", "(II)Z"⟩ ⟨"HadItFromModel", "isBetter", "(II)Z"⟩) ∈ am_T := am_in 72 (by decide +kernel) (by decide +kernel)
theorem tw_73 : (Cond.selects "HadItFromModel" ⟨"HadItFromModel", "standing", "(I)I"⟩ ⟨"HadItFromModel", "standing", "(I)I"⟩) ∈ am_T := am_in 73 (by decide +kernel) (by decide +kernel)
theorem tw_74 : (Cond.selects "HadItFromModel" ⟨"HadItFromModel", "links", "(II)I"⟩ ⟨"HadItFromModel", "links", "(II)I"⟩) ∈ am_T := am_in 74 (by decide +kernel) (by decide +kernel)
theorem tw_75 : (Cond.selects "HadItFromModel" ⟨"HadItFromModel", "body", "(I)V"⟩ ⟨"HadItFromModel", "body", "(I)V"⟩) ∈ am_T := am_in 75 (by decide +kernel) (by decide +kernel)
theorem tw_76 : (Cond.selects "HadItFromModel" ⟨"HadItFromModel", "holding", "(II)I"⟩ ⟨"HadItFromModel", "holding", "(II)I"⟩) ∈ am_T := am_in 76 (by decide +kernel) (by decide +kernel)
theorem tw_77 : (Cond.selects "HadItFromModel" ⟨"HadItFromModel", "weighs", "(II)I"⟩ ⟨"HadItFromModel", "weighs", "(II)I"⟩) ∈ am_T := am_in 77 (by decide +kernel) (by decide +kernel)
theorem tw_78 : (Cond.selects "HadItFromModel" ⟨"HadItFromModel", "all", "(Z)V"⟩ ⟨"HadItFromModel", "all", "(Z)V"⟩) ∈ am_T := am_in 78 (by decide +kernel) (by decide +kernel)
theorem tw_79 : (Cond.selects "HadItFromModel" ⟨"HadItFromModel", "keeps", "([IIIZ)I"⟩ ⟨"HadItFromModel", "keeps", "([IIIZ)I"⟩) ∈ am_T := am_in 79 (by decide +kernel) (by decide +kernel)
theorem tw_81 : (Jvm.Cond.initialized "HadItFrom") ∈ am_T := am_in 81 (by decide +kernel) (by decide +kernel)
theorem tw_82 : (Jvm.Cond.initialized "HadItFrom$World") ∈ am_T := am_in 82 (by decide +kernel) (by decide +kernel)
theorem tw_83 : (Jvm.Cond.initialized "HadItFrom$Man") ∈ am_T := am_in 83 (by decide +kernel) (by decide +kernel)
theorem tw_84 : (Jvm.Cond.initialized "HadItFrom$Text") ∈ am_T := am_in 84 (by decide +kernel) (by decide +kernel)
theorem tw_85 : (Jvm.Cond.initialized "HadItFrom$Net") ∈ am_T := am_in 85 (by decide +kernel) (by decide +kernel)
theorem tw_86 : (Jvm.Cond.initialized "HadItFromModel") ∈ am_T := am_in 86 (by decide +kernel) (by decide +kernel)
theorem tw_87 : (Jvm.Cond.initialized "java/lang/System") ∈ am_T := am_in 87 (by decide +kernel) (by decide +kernel)
theorem tw_88 : (Jvm.Cond.initialized "java/lang/Math") ∈ am_T := am_in 88 (by decide +kernel) (by decide +kernel)
theorem tw_89 : (Jvm.Cond.initialized "java/lang/String") ∈ am_T := am_in 89 (by decide +kernel) (by decide +kernel)
theorem tw_90 : (Jvm.Cond.initialized "java/lang/StringLatin1") ∈ am_T := am_in 90 (by decide +kernel) (by decide +kernel)
theorem tw_91 : (Jvm.Cond.initialized "jdk/internal/util/Preconditions") ∈ am_T := am_in 91 (by decide +kernel) (by decide +kernel)
theorem tw_93 : (Jvm.Cond.initialized "java/util/Arrays") ∈ am_T := am_in 93 (by decide +kernel) (by decide +kernel)
theorem tw_94 : (Jvm.Cond.initialized "HadItFrom$Row") ∈ am_T := am_in 94 (by decide +kernel) (by decide +kernel)
theorem tw_95 : (Jvm.Cond.initialized "HadItFrom$Whole") ∈ am_T := am_in 95 (by decide +kernel) (by decide +kernel)
theorem tw_96 : (Jvm.Cond.initialized "HadItFrom$Gap") ∈ am_T := am_in 96 (by decide +kernel) (by decide +kernel)
theorem tw_97 : (Jvm.Cond.initialized "HadItFrom$Hidden") ∈ am_T := am_in 97 (by decide +kernel) (by decide +kernel)
theorem tw_98 : (Jvm.Cond.initialized "HadItFrom$Hung") ∈ am_T := am_in 98 (by decide +kernel) (by decide +kernel)
theorem tw_99 : (Jvm.Cond.initialized "HadItFrom$Raised") ∈ am_T := am_in 99 (by decide +kernel) (by decide +kernel)
theorem tw_100 : (Jvm.Cond.initialized "HadItFrom$Made") ∈ am_T := am_in 100 (by decide +kernel) (by decide +kernel)
theorem tw_101 : (Jvm.Cond.initialized "java/lang/Long") ∈ am_T := am_in 101 (by decide +kernel) (by decide +kernel)
theorem tw_102 : (Jvm.Cond.initialized "java/lang/Integer") ∈ am_T := am_in 102 (by decide +kernel) (by decide +kernel)
theorem tw_103 : (Jvm.Cond.classLink "HadItFromLaw" (7 : Nat) "HadItFrom") ∈ am_T := am_in 103 (by decide +kernel) (by decide +kernel)
theorem tw_104 : (Jvm.Cond.instantiable "HadItFrom" (14 : Nat)) ∈ am_T := am_in 104 (by decide +kernel) (by decide +kernel)
theorem tw_105 : (Jvm.Cond.methodLink "HadItFromLaw" (9 : Nat) ({ cls := "HadItFrom", name := "<init>", desc := "()V" } : Jvm.MethodName)) ∈ am_T := am_in 105 (by decide +kernel) (by decide +kernel)
theorem tw_106 : (Jvm.Cond.instanceMethod ({ cls := "HadItFrom", name := "<init>", desc := "()V" } : Jvm.MethodName)) ∈ am_T := am_in 106 (by decide +kernel) (by decide +kernel)
set_option maxRecDepth 100000 in
theorem tw_107 : (Jvm.Cond.code ({ cls := "HadItFrom", name := "<init>", desc := "()V" } : Jvm.MethodName) prog_1_method_1_code (2 : Nat) (Option.none : Option Jvm.ClassFile.FieldType)) ∈ am_T := am_in 107 rfl rfl
theorem tw_108 : (Jvm.Cond.methodLink "HadItFrom" (1 : Nat) ({ cls := "java/lang/Object", name := "<init>", desc := "()V" } : Jvm.MethodName)) ∈ am_T := am_in 108 (by decide +kernel) (by decide +kernel)
theorem tw_109 : (Jvm.Cond.instanceMethod ({ cls := "java/lang/Object", name := "<init>", desc := "()V" } : Jvm.MethodName)) ∈ am_T := am_in 109 (by decide +kernel) (by decide +kernel)
set_option maxRecDepth 100000 in
theorem tw_110 : (Jvm.Cond.code ({ cls := "java/lang/Object", name := "<init>", desc := "()V" } : Jvm.MethodName) object_method_1_code (1 : Nat) (Option.none : Option Jvm.ClassFile.FieldType)) ∈ am_T := am_in 110 rfl rfl
theorem tw_111 : (Jvm.Cond.classLink "HadItFrom" (9 : Nat) "[[J") ∈ am_T := am_in 111 (by decide +kernel) (by decide +kernel)
theorem tw_112 : (Jvm.Cond.arrayOver (Jvm.ClassFile.FieldType.array Jvm.ClassFile.FieldType.long)) ∈ am_T := am_in 112 (by decide +kernel) (by decide +kernel)
theorem tw_113 : (Jvm.Cond.classLink "HadItFrom" (21 : Nat) "HadItFrom$World") ∈ am_T := am_in 113 (by decide +kernel) (by decide +kernel)
theorem tw_114 : (Jvm.Cond.instantiable "HadItFrom$World" (11 : Nat)) ∈ am_T := am_in 114 (by decide +kernel) (by decide +kernel)
theorem tw_115 : (Jvm.Cond.methodLink "HadItFrom" (23 : Nat) ({ cls := "HadItFrom$World", name := "<init>", desc := "()V" } : Jvm.MethodName)) ∈ am_T := am_in 115 (by decide +kernel) (by decide +kernel)
theorem tw_116 : (Jvm.Cond.instanceMethod ({ cls := "HadItFrom$World", name := "<init>", desc := "()V" } : Jvm.MethodName)) ∈ am_T := am_in 116 (by decide +kernel) (by decide +kernel)
set_option maxRecDepth 100000 in
theorem tw_117 : (Jvm.Cond.code ({ cls := "HadItFrom$World", name := "<init>", desc := "()V" } : Jvm.MethodName) prog_12_method_1_code (2 : Nat) (Option.none : Option Jvm.ClassFile.FieldType)) ∈ am_T := am_in 117 rfl rfl
theorem tw_118 : (Jvm.Cond.methodLink "HadItFrom$World" (3 : Nat) ({ cls := "java/lang/Object", name := "<init>", desc := "()V" } : Jvm.MethodName)) ∈ am_T := am_in 118 (by decide +kernel) (by decide +kernel)
theorem tw_119 : (Jvm.Cond.classLink "HadItFrom$World" (9 : Nat) "HadItFrom$Man") ∈ am_T := am_in 119 (by decide +kernel) (by decide +kernel)
theorem tw_120 : (Jvm.Cond.arrayOver (Jvm.ClassFile.FieldType.object "HadItFrom$Man")) ∈ am_T := am_in 120 (by decide +kernel) (by decide +kernel)
theorem tw_121 : (Jvm.Cond.classLink "HadItFrom$World" (21 : Nat) "[[I") ∈ am_T := am_in 121 (by decide +kernel) (by decide +kernel)
theorem tw_122 : (Jvm.Cond.arrayOver (Jvm.ClassFile.FieldType.array Jvm.ClassFile.FieldType.int)) ∈ am_T := am_in 122 (by decide +kernel) (by decide +kernel)
theorem tw_123 : (Jvm.Cond.classLink "HadItFrom$World" (32 : Nat) "HadItFrom$Row") ∈ am_T := am_in 123 (by decide +kernel) (by decide +kernel)
theorem tw_124 : (Jvm.Cond.arrayOver (Jvm.ClassFile.FieldType.object "HadItFrom$Row")) ∈ am_T := am_in 124 (by decide +kernel) (by decide +kernel)
theorem tw_125 : (Jvm.Cond.instantiable "HadItFrom$Man" (9 : Nat)) ∈ am_T := am_in 125 (by decide +kernel) (by decide +kernel)
theorem tw_126 : (Jvm.Cond.methodLinkNest "HadItFrom$World" (54 : Nat) ({ cls := "HadItFrom$Man", name := "<init>", desc := "()V" } : Jvm.MethodName) "HadItFrom") ∈ am_T := am_in 126 (by decide +kernel) (by decide +kernel)
theorem tw_127 : (Jvm.Cond.instanceMethod ({ cls := "HadItFrom$Man", name := "<init>", desc := "()V" } : Jvm.MethodName)) ∈ am_T := am_in 127 (by decide +kernel) (by decide +kernel)
set_option maxRecDepth 100000 in
theorem tw_128 : (Jvm.Cond.code ({ cls := "HadItFrom$Man", name := "<init>", desc := "()V" } : Jvm.MethodName) prog_6_method_1_code (1 : Nat) (Option.none : Option Jvm.ClassFile.FieldType)) ∈ am_T := am_in 128 rfl rfl
theorem tw_129 : (Jvm.Cond.methodLink "HadItFrom$Man" (3 : Nat) ({ cls := "java/lang/Object", name := "<init>", desc := "()V" } : Jvm.MethodName)) ∈ am_T := am_in 129 (by decide +kernel) (by decide +kernel)
theorem tw_130 : (Jvm.Cond.fieldLink "HadItFrom$Man" (9 : Nat) "HadItFrom$Man" "born" "I") ∈ am_T := am_in 130 (by decide +kernel) (by decide +kernel)
theorem tw_131 : (Jvm.Cond.fieldLink "HadItFrom$World" (69 : Nat) "HadItFrom$Man" "born" "I") ∈ am_T := am_in 131 (by decide +kernel) (by decide +kernel)
theorem tw_132 : (Jvm.Cond.fieldLink "HadItFrom" (150 : Nat) "HadItFrom$Man" "born" "I") ∈ am_T := am_in 132 (by decide +kernel) (by decide +kernel)
theorem tw_133 : (Jvm.Cond.fieldLink "HadItFrom$Man" (15 : Nat) "HadItFrom$Man" "died" "I") ∈ am_T := am_in 133 (by decide +kernel) (by decide +kernel)
theorem tw_134 : (Jvm.Cond.fieldLink "HadItFrom$World" (72 : Nat) "HadItFrom$Man" "died" "I") ∈ am_T := am_in 134 (by decide +kernel) (by decide +kernel)
theorem tw_135 : (Jvm.Cond.fieldLink "HadItFrom" (153 : Nat) "HadItFrom$Man" "died" "I") ∈ am_T := am_in 135 (by decide +kernel) (by decide +kernel)
theorem tw_136 : (Jvm.Cond.fieldLink "HadItFrom$Man" (18 : Nat) "HadItFrom$Man" "place" "I") ∈ am_T := am_in 136 (by decide +kernel) (by decide +kernel)
theorem tw_137 : (Jvm.Cond.fieldLink "HadItFrom$World" (75 : Nat) "HadItFrom$Man" "place" "I") ∈ am_T := am_in 137 (by decide +kernel) (by decide +kernel)
theorem tw_138 : (Jvm.Cond.fieldLink "HadItFrom" (163 : Nat) "HadItFrom$Man" "place" "I") ∈ am_T := am_in 138 (by decide +kernel) (by decide +kernel)
theorem tw_139 : (Jvm.Cond.fieldLink "HadItFrom$Man" (21 : Nat) "HadItFrom$Man" "mark" "I") ∈ am_T := am_in 139 (by decide +kernel) (by decide +kernel)
theorem tw_140 : (Jvm.Cond.fieldLink "HadItFrom$World" (78 : Nat) "HadItFrom$Man" "mark" "I") ∈ am_T := am_in 140 (by decide +kernel) (by decide +kernel)
theorem tw_141 : (Jvm.Cond.fieldLink "HadItFrom" (156 : Nat) "HadItFrom$Man" "mark" "I") ∈ am_T := am_in 141 (by decide +kernel) (by decide +kernel)
theorem tw_142 : (Jvm.Cond.fieldLink "HadItFrom$Man" (24 : Nat) "HadItFrom$Man" "late" "I") ∈ am_T := am_in 142 (by decide +kernel) (by decide +kernel)
theorem tw_143 : (Jvm.Cond.fieldLink "HadItFrom$World" (81 : Nat) "HadItFrom$Man" "late" "I") ∈ am_T := am_in 143 (by decide +kernel) (by decide +kernel)
theorem tw_144 : (Jvm.Cond.fieldLink "HadItFrom$Man" (27 : Nat) "HadItFrom$Man" "journeys" "I") ∈ am_T := am_in 144 (by decide +kernel) (by decide +kernel)
theorem tw_145 : (Jvm.Cond.fieldLink "HadItFrom$World" (84 : Nat) "HadItFrom$Man" "journeys" "I") ∈ am_T := am_in 145 (by decide +kernel) (by decide +kernel)
theorem tw_146 : (Jvm.Cond.fieldLink "HadItFrom" (141 : Nat) "HadItFrom$Man" "journeys" "I") ∈ am_T := am_in 146 (by decide +kernel) (by decide +kernel)
theorem tw_147 : (Jvm.Cond.fieldLink "HadItFrom$Man" (30 : Nat) "HadItFrom$Man" "places" "[I") ∈ am_T := am_in 147 (by decide +kernel) (by decide +kernel)
theorem tw_148 : (Jvm.Cond.fieldLink "HadItFrom$Man" (34 : Nat) "HadItFrom$Man" "froms" "[I") ∈ am_T := am_in 148 (by decide +kernel) (by decide +kernel)
theorem tw_149 : (Jvm.Cond.fieldLink "HadItFrom$Man" (37 : Nat) "HadItFrom$Man" "tos" "[I") ∈ am_T := am_in 149 (by decide +kernel) (by decide +kernel)
theorem tw_169 : (Jvm.Cond.arrayClass Jvm.ClassFile.FieldType.long) ∈ am_T := am_in 169 (by decide +kernel) (by decide +kernel)
theorem tw_170 : (Jvm.Cond.arrayClass Jvm.ClassFile.FieldType.int) ∈ am_T := am_in 170 (by decide +kernel) (by decide +kernel)
theorem tw_171 : (Jvm.Cond.fieldLink "HadItFrom$World" (11 : Nat) "HadItFrom$World" "men" "[LHadItFrom$Man;") ∈ am_T := am_in 171 (by decide +kernel) (by decide +kernel)
theorem tw_172 : (Jvm.Cond.fieldLink "HadItFrom" (137 : Nat) "HadItFrom$World" "men" "[LHadItFrom$Man;") ∈ am_T := am_in 172 (by decide +kernel) (by decide +kernel)
theorem tw_173 : (Jvm.Cond.fieldLink "HadItFrom$World" (17 : Nat) "HadItFrom$World" "manCount" "I") ∈ am_T := am_in 173 (by decide +kernel) (by decide +kernel)
theorem tw_174 : (Jvm.Cond.fieldLink "HadItFrom" (123 : Nat) "HadItFrom$World" "manCount" "I") ∈ am_T := am_in 174 (by decide +kernel) (by decide +kernel)
theorem tw_175 : (Jvm.Cond.fieldLink "HadItFrom$World" (23 : Nat) "HadItFrom$World" "rules" "[[I") ∈ am_T := am_in 175 (by decide +kernel) (by decide +kernel)
theorem tw_176 : (Jvm.Cond.fieldLink "HadItFrom" (190 : Nat) "HadItFrom$World" "rules" "[[I") ∈ am_T := am_in 176 (by decide +kernel) (by decide +kernel)
theorem tw_177 : (Jvm.Cond.fieldLink "HadItFrom$World" (26 : Nat) "HadItFrom$World" "ruleCount" "I") ∈ am_T := am_in 177 (by decide +kernel) (by decide +kernel)
theorem tw_178 : (Jvm.Cond.fieldLink "HadItFrom" (180 : Nat) "HadItFrom$World" "ruleCount" "I") ∈ am_T := am_in 178 (by decide +kernel) (by decide +kernel)
theorem tw_179 : (Jvm.Cond.fieldLink "HadItFrom$World" (29 : Nat) "HadItFrom$World" "force" "I") ∈ am_T := am_in 179 (by decide +kernel) (by decide +kernel)
theorem tw_180 : (Jvm.Cond.fieldLink "HadItFrom" (197 : Nat) "HadItFrom$World" "force" "I") ∈ am_T := am_in 180 (by decide +kernel) (by decide +kernel)
theorem tw_181 : (Jvm.Cond.fieldLink "HadItFrom$World" (34 : Nat) "HadItFrom$World" "sayingRows" "[LHadItFrom$Row;") ∈ am_T := am_in 181 (by decide +kernel) (by decide +kernel)
theorem tw_182 : (Jvm.Cond.fieldLink "HadItFrom$World" (38 : Nat) "HadItFrom$World" "rowCounts" "[I") ∈ am_T := am_in 182 (by decide +kernel) (by decide +kernel)
theorem tw_183 : (Jvm.Cond.fieldLink "HadItFrom" (213 : Nat) "HadItFrom$World" "rowCounts" "[I") ∈ am_T := am_in 183 (by decide +kernel) (by decide +kernel)
theorem tw_184 : (Jvm.Cond.fieldLink "HadItFrom$World" (42 : Nat) "HadItFrom$World" "sayingCount" "I") ∈ am_T := am_in 184 (by decide +kernel) (by decide +kernel)
theorem tw_185 : (Jvm.Cond.fieldLink "HadItFrom" (204 : Nat) "HadItFrom$World" "sayingCount" "I") ∈ am_T := am_in 185 (by decide +kernel) (by decide +kernel)
theorem tw_186 : (Jvm.Cond.fieldLink "HadItFrom$World" (45 : Nat) "HadItFrom$World" "clashes" "[I") ∈ am_T := am_in 186 (by decide +kernel) (by decide +kernel)
theorem tw_187 : (Jvm.Cond.fieldLink "HadItFrom$World" (48 : Nat) "HadItFrom$World" "heard" "[I") ∈ am_T := am_in 187 (by decide +kernel) (by decide +kernel)
theorem tw_188 : (Jvm.Cond.fieldLink "HadItFrom$World" (51 : Nat) "HadItFrom$World" "grades" "[I") ∈ am_T := am_in 188 (by decide +kernel) (by decide +kernel)
theorem tw_189 : (Jvm.Cond.fieldLink "HadItFrom" (271 : Nat) "HadItFrom$World" "grades" "[I") ∈ am_T := am_in 189 (by decide +kernel) (by decide +kernel)
theorem tw_213 : (Jvm.Cond.classLink "HadItFrom" (35 : Nat) "HadItFrom$Text") ∈ am_T := am_in 213 (by decide +kernel) (by decide +kernel)
theorem tw_214 : (Jvm.Cond.instantiable "HadItFrom$Text" (6 : Nat)) ∈ am_T := am_in 214 (by decide +kernel) (by decide +kernel)
theorem tw_215 : (Jvm.Cond.methodLinkNest "HadItFrom" (37 : Nat) ({ cls := "HadItFrom$Text", name := "<init>", desc := "()V" } : Jvm.MethodName) "HadItFrom") ∈ am_T := am_in 215 (by decide +kernel) (by decide +kernel)
theorem tw_216 : (Jvm.Cond.instanceMethod ({ cls := "HadItFrom$Text", name := "<init>", desc := "()V" } : Jvm.MethodName)) ∈ am_T := am_in 216 (by decide +kernel) (by decide +kernel)
set_option maxRecDepth 100000 in
theorem tw_217 : (Jvm.Cond.code ({ cls := "HadItFrom$Text", name := "<init>", desc := "()V" } : Jvm.MethodName) prog_10_method_1_code (1 : Nat) (Option.none : Option Jvm.ClassFile.FieldType)) ∈ am_T := am_in 217 rfl rfl
theorem tw_218 : (Jvm.Cond.methodLink "HadItFrom$Text" (3 : Nat) ({ cls := "java/lang/Object", name := "<init>", desc := "()V" } : Jvm.MethodName)) ∈ am_T := am_in 218 (by decide +kernel) (by decide +kernel)
theorem tw_219 : (Jvm.Cond.fieldLink "HadItFrom$Text" (9 : Nat) "HadItFrom$Text" "bad" "I") ∈ am_T := am_in 219 (by decide +kernel) (by decide +kernel)
theorem tw_220 : (Jvm.Cond.fieldLink "HadItFrom" (177 : Nat) "HadItFrom$Text" "bad" "I") ∈ am_T := am_in 220 (by decide +kernel) (by decide +kernel)
theorem tw_221 : (Jvm.Cond.fieldLink "HadItFrom$Text" (15 : Nat) "HadItFrom$Text" "letters" "[J") ∈ am_T := am_in 221 (by decide +kernel) (by decide +kernel)
theorem tw_222 : (Jvm.Cond.fieldLink "HadItFrom$Text" (19 : Nat) "HadItFrom$Text" "size" "I") ∈ am_T := am_in 222 (by decide +kernel) (by decide +kernel)
theorem tw_223 : (Jvm.Cond.fieldLink "HadItFrom$Text" (22 : Nat) "HadItFrom$Text" "place" "I") ∈ am_T := am_in 223 (by decide +kernel) (by decide +kernel)
theorem tw_224 : (Jvm.Cond.fieldLink "HadItFrom$Text" (25 : Nat) "HadItFrom$Text" "who" "[I") ∈ am_T := am_in 224 (by decide +kernel) (by decide +kernel)
theorem tw_225 : (Jvm.Cond.fieldLink "HadItFrom$Text" (29 : Nat) "HadItFrom$Text" "links" "[I") ∈ am_T := am_in 225 (by decide +kernel) (by decide +kernel)
theorem tw_239 : (Jvm.Cond.classLink "HadItFrom" (49 : Nat) "HadItFrom$Row") ∈ am_T := am_in 239 (by decide +kernel) (by decide +kernel)
theorem tw_240 : (Jvm.Cond.classLink "HadItFrom" (55 : Nat) "HadItFrom$Net") ∈ am_T := am_in 240 (by decide +kernel) (by decide +kernel)
theorem tw_241 : (Jvm.Cond.instantiable "HadItFrom$Net" (5 : Nat)) ∈ am_T := am_in 241 (by decide +kernel) (by decide +kernel)
theorem tw_242 : (Jvm.Cond.methodLinkNest "HadItFrom" (57 : Nat) ({ cls := "HadItFrom$Net", name := "<init>", desc := "()V" } : Jvm.MethodName) "HadItFrom") ∈ am_T := am_in 242 (by decide +kernel) (by decide +kernel)
theorem tw_243 : (Jvm.Cond.instanceMethod ({ cls := "HadItFrom$Net", name := "<init>", desc := "()V" } : Jvm.MethodName)) ∈ am_T := am_in 243 (by decide +kernel) (by decide +kernel)
set_option maxRecDepth 100000 in
theorem tw_244 : (Jvm.Cond.code ({ cls := "HadItFrom$Net", name := "<init>", desc := "()V" } : Jvm.MethodName) prog_7_method_1_code (1 : Nat) (Option.none : Option Jvm.ClassFile.FieldType)) ∈ am_T := am_in 244 rfl rfl
theorem tw_245 : (Jvm.Cond.methodLink "HadItFrom$Net" (3 : Nat) ({ cls := "java/lang/Object", name := "<init>", desc := "()V" } : Jvm.MethodName)) ∈ am_T := am_in 245 (by decide +kernel) (by decide +kernel)
theorem tw_246 : (Jvm.Cond.fieldLink "HadItFrom$Net" (9 : Nat) "HadItFrom$Net" "first" "I") ∈ am_T := am_in 246 (by decide +kernel) (by decide +kernel)
theorem tw_247 : (Jvm.Cond.fieldLink "HadItFrom$Net" (15 : Nat) "HadItFrom$Net" "starts" "I") ∈ am_T := am_in 247 (by decide +kernel) (by decide +kernel)
theorem tw_248 : (Jvm.Cond.fieldLink "HadItFrom$Net" (18 : Nat) "HadItFrom$Net" "nexts" "[I") ∈ am_T := am_in 248 (by decide +kernel) (by decide +kernel)
theorem tw_249 : (Jvm.Cond.fieldLink "HadItFrom$Net" (22 : Nat) "HadItFrom$Net" "room" "[J") ∈ am_T := am_in 249 (by decide +kernel) (by decide +kernel)
theorem tw_250 : (Jvm.Cond.fieldLink "HadItFrom$Net" (26 : Nat) "HadItFrom$Net" "from" "[I") ∈ am_T := am_in 250 (by decide +kernel) (by decide +kernel)
theorem tw_262 : (Jvm.Cond.fieldLink "HadItFrom" (11 : Nat) "HadItFrom" "elements" "[[J") ∈ am_T := am_in 262 (by decide +kernel) (by decide +kernel)
theorem tw_263 : (Jvm.Cond.fieldLink "HadItFrom" (14 : Nat) "HadItFrom" "sizes" "[I") ∈ am_T := am_in 263 (by decide +kernel) (by decide +kernel)
theorem tw_264 : (Jvm.Cond.fieldLink "HadItFrom" (18 : Nat) "HadItFrom" "held" "[I") ∈ am_T := am_in 264 (by decide +kernel) (by decide +kernel)
theorem tw_265 : (Jvm.Cond.fieldLink "HadItFrom" (24 : Nat) "HadItFrom" "now" "LHadItFrom$World;") ∈ am_T := am_in 265 (by decide +kernel) (by decide +kernel)
theorem tw_266 : (Jvm.Cond.fieldLink "HadItFrom" (28 : Nat) "HadItFrom" "kept" "LHadItFrom$World;") ∈ am_T := am_in 266 (by decide +kernel) (by decide +kernel)
theorem tw_267 : (Jvm.Cond.fieldLink "HadItFrom" (31 : Nat) "HadItFrom" "isKept" "Z") ∈ am_T := am_in 267 (by decide +kernel) (by decide +kernel)
theorem tw_268 : (Jvm.Cond.fieldLink "HadItFrom" (38 : Nat) "HadItFrom" "text" "LHadItFrom$Text;") ∈ am_T := am_in 268 (by decide +kernel) (by decide +kernel)
theorem tw_269 : (Jvm.Cond.fieldLink "HadItFrom" (42 : Nat) "HadItFrom" "faultPlace" "I") ∈ am_T := am_in 269 (by decide +kernel) (by decide +kernel)
theorem tw_270 : (Jvm.Cond.fieldLink "HadItFrom" (46 : Nat) "HadItFrom" "readNumbers" "[I") ∈ am_T := am_in 270 (by decide +kernel) (by decide +kernel)
theorem tw_271 : (Jvm.Cond.fieldLink "HadItFrom" (51 : Nat) "HadItFrom" "readRows" "[LHadItFrom$Row;") ∈ am_T := am_in 271 (by decide +kernel) (by decide +kernel)
theorem tw_272 : (Jvm.Cond.fieldLink "HadItFrom" (58 : Nat) "HadItFrom" "net" "LHadItFrom$Net;") ∈ am_T := am_in 272 (by decide +kernel) (by decide +kernel)
theorem tw_273 : (Jvm.Cond.fieldLink "HadItFrom" (62 : Nat) "HadItFrom" "weights" "[I") ∈ am_T := am_in 273 (by decide +kernel) (by decide +kernel)
theorem tw_274 : (Jvm.Cond.fieldLink "HadItFrom" (65 : Nat) "HadItFrom" "ran" "[I") ∈ am_T := am_in 274 (by decide +kernel) (by decide +kernel)
theorem tw_275 : (Jvm.Cond.fieldLink "HadItFrom" (68 : Nat) "HadItFrom" "refusals" "[I") ∈ am_T := am_in 275 (by decide +kernel) (by decide +kernel)
theorem tw_305 : (Jvm.Cond.methodLink "HadItFromLaw" (13 : Nat) ({ cls := "HadItFrom", name := "row", desc := "(III)I" } : Jvm.MethodName)) ∈ am_T := am_in 305 (by decide +kernel) (by decide +kernel)
theorem tw_306 : (Jvm.Cond.instanceMethod ({ cls := "HadItFrom", name := "row", desc := "(III)I" } : Jvm.MethodName)) ∈ am_T := am_in 306 (by decide +kernel) (by decide +kernel)
theorem tw_307 : (Jvm.Cond.selects "HadItFrom" ({ cls := "HadItFrom", name := "row", desc := "(III)I" } : Jvm.MethodName) ({ cls := "HadItFrom", name := "row", desc := "(III)I" } : Jvm.MethodName)) ∈ am_T := am_in 307 (by decide +kernel) (by decide +kernel)
set_option maxRecDepth 100000 in
theorem tw_308 : (Jvm.Cond.code ({ cls := "HadItFrom", name := "row", desc := "(III)I" } : Jvm.MethodName) prog_1_method_2_code (5 : Nat) (Option.some Jvm.ClassFile.FieldType.int)) ∈ am_T := am_in 308 rfl rfl
theorem tw_309 : (Jvm.Cond.methodLink "HadItFrom" (71 : Nat) ({ cls := "HadItFrom", name := "isShelf", desc := "(I)Z" } : Jvm.MethodName)) ∈ am_T := am_in 309 (by decide +kernel) (by decide +kernel)
theorem tw_310 : (Jvm.Cond.static ({ cls := "HadItFrom", name := "isShelf", desc := "(I)Z" } : Jvm.MethodName)) ∈ am_T := am_in 310 (by decide +kernel) (by decide +kernel)
set_option maxRecDepth 100000 in
theorem tw_311 : (Jvm.Cond.code ({ cls := "HadItFrom", name := "isShelf", desc := "(I)Z" } : Jvm.MethodName) prog_1_method_54_code (1 : Nat) (Option.some Jvm.ClassFile.FieldType.boolean)) ∈ am_T := am_in 311 rfl rfl
theorem tw_312 : (Jvm.Cond.methodLink "HadItFrom" (75 : Nat) ({ cls := "HadItFrom", name := "refuse", desc := "(I)I" } : Jvm.MethodName)) ∈ am_T := am_in 312 (by decide +kernel) (by decide +kernel)
theorem tw_314 : (Jvm.Cond.instanceMethod ({ cls := "HadItFrom", name := "refuse", desc := "(I)I" } : Jvm.MethodName)) ∈ am_T := am_in 314 (by decide +kernel) (by decide +kernel)
set_option maxRecDepth 100000 in
theorem tw_315 : (Jvm.Cond.code ({ cls := "HadItFrom", name := "refuse", desc := "(I)I" } : Jvm.MethodName) prog_1_method_49_code (2 : Nat) (Option.some Jvm.ClassFile.FieldType.int)) ∈ am_T := am_in 315 rfl rfl
theorem tw_316 : (Jvm.Cond.methodLink "HadItFromLaw" (20 : Nat) ({ cls := "HadItFrom", name := "set", desc := "(IIJ)I" } : Jvm.MethodName)) ∈ am_T := am_in 316 (by decide +kernel) (by decide +kernel)
theorem tw_317 : (Jvm.Cond.instanceMethod ({ cls := "HadItFrom", name := "set", desc := "(IIJ)I" } : Jvm.MethodName)) ∈ am_T := am_in 317 (by decide +kernel) (by decide +kernel)
theorem tw_318 : (Jvm.Cond.selects "HadItFrom" ({ cls := "HadItFrom", name := "set", desc := "(IIJ)I" } : Jvm.MethodName) ({ cls := "HadItFrom", name := "set", desc := "(IIJ)I" } : Jvm.MethodName)) ∈ am_T := am_in 318 (by decide +kernel) (by decide +kernel)
set_option maxRecDepth 100000 in
theorem tw_319 : (Jvm.Cond.code ({ cls := "HadItFrom", name := "set", desc := "(IIJ)I" } : Jvm.MethodName) prog_1_method_3_code (6 : Nat) (Option.some Jvm.ClassFile.FieldType.int)) ∈ am_T := am_in 319 rfl rfl
theorem tw_320 : (Jvm.Cond.methodLink "HadItFrom" (79 : Nat) ({ cls := "HadItFrom", name := "refusalOfNumbers", desc := "(I)I" } : Jvm.MethodName)) ∈ am_T := am_in 320 (by decide +kernel) (by decide +kernel)
theorem tw_322 : (Jvm.Cond.instanceMethod ({ cls := "HadItFrom", name := "refusalOfNumbers", desc := "(I)I" } : Jvm.MethodName)) ∈ am_T := am_in 322 (by decide +kernel) (by decide +kernel)
set_option maxRecDepth 100000 in
theorem tw_323 : (Jvm.Cond.code ({ cls := "HadItFrom", name := "refusalOfNumbers", desc := "(I)I" } : Jvm.MethodName) prog_1_method_51_code (2 : Nat) (Option.some Jvm.ClassFile.FieldType.int)) ∈ am_T := am_in 323 rfl rfl
theorem tw_324 : (Jvm.Cond.methodLink "HadItFrom" (82 : Nat) ({ cls := "HadItFrom", name := "lowestBits", desc := "(IJ)J" } : Jvm.MethodName)) ∈ am_T := am_in 324 (by decide +kernel) (by decide +kernel)
theorem tw_325 : (Jvm.Cond.static ({ cls := "HadItFrom", name := "lowestBits", desc := "(IJ)J" } : Jvm.MethodName)) ∈ am_T := am_in 325 (by decide +kernel) (by decide +kernel)
set_option maxRecDepth 100000 in
theorem tw_326 : (Jvm.Cond.code ({ cls := "HadItFrom", name := "lowestBits", desc := "(IJ)J" } : Jvm.MethodName) prog_1_method_60_code (3 : Nat) (Option.some Jvm.ClassFile.FieldType.long)) ∈ am_T := am_in 326 rfl rfl
theorem tw_327 : (Jvm.Cond.methodLink "HadItFromLaw" (25 : Nat) ({ cls := "HadItFrom", name := "copy", desc := "(IIIII)I" } : Jvm.MethodName)) ∈ am_T := am_in 327 (by decide +kernel) (by decide +kernel)
theorem tw_328 : (Jvm.Cond.instanceMethod ({ cls := "HadItFrom", name := "copy", desc := "(IIIII)I" } : Jvm.MethodName)) ∈ am_T := am_in 328 (by decide +kernel) (by decide +kernel)
theorem tw_329 : (Jvm.Cond.selects "HadItFrom" ({ cls := "HadItFrom", name := "copy", desc := "(IIIII)I" } : Jvm.MethodName) ({ cls := "HadItFrom", name := "copy", desc := "(IIIII)I" } : Jvm.MethodName)) ∈ am_T := am_in 329 (by decide +kernel) (by decide +kernel)
set_option maxRecDepth 100000 in
theorem tw_330 : (Jvm.Cond.code ({ cls := "HadItFrom", name := "copy", desc := "(IIIII)I" } : Jvm.MethodName) prog_1_method_4_code (7 : Nat) (Option.some Jvm.ClassFile.FieldType.int)) ∈ am_T := am_in 330 rfl rfl
theorem tw_331 : (Jvm.Cond.methodLink "HadItFrom" (86 : Nat) ({ cls := "HadItFrom", name := "refusalOfCopy", desc := "(II)I" } : Jvm.MethodName)) ∈ am_T := am_in 331 (by decide +kernel) (by decide +kernel)
theorem tw_333 : (Jvm.Cond.instanceMethod ({ cls := "HadItFrom", name := "refusalOfCopy", desc := "(II)I" } : Jvm.MethodName)) ∈ am_T := am_in 333 (by decide +kernel) (by decide +kernel)
set_option maxRecDepth 100000 in
theorem tw_334 : (Jvm.Cond.code ({ cls := "HadItFrom", name := "refusalOfCopy", desc := "(II)I" } : Jvm.MethodName) prog_1_method_52_code (4 : Nat) (Option.some Jvm.ClassFile.FieldType.int)) ∈ am_T := am_in 334 rfl rfl
theorem tw_335 : (Jvm.Cond.methodLink "HadItFrom" (104 : Nat) ({ cls := "HadItFrom", name := "holdsMen", desc := "(I)Z" } : Jvm.MethodName)) ∈ am_T := am_in 335 (by decide +kernel) (by decide +kernel)
theorem tw_337 : (Jvm.Cond.instanceMethod ({ cls := "HadItFrom", name := "holdsMen", desc := "(I)Z" } : Jvm.MethodName)) ∈ am_T := am_in 337 (by decide +kernel) (by decide +kernel)
set_option maxRecDepth 100000 in
theorem tw_338 : (Jvm.Cond.code ({ cls := "HadItFrom", name := "holdsMen", desc := "(I)Z" } : Jvm.MethodName) prog_1_method_55_code (2 : Nat) (Option.some Jvm.ClassFile.FieldType.boolean)) ∈ am_T := am_in 338 rfl rfl
theorem tw_339 : (Jvm.Cond.methodLink "HadItFrom" (90 : Nat) ({ cls := "HadItFrom", name := "hasElements", desc := "(III)Z" } : Jvm.MethodName)) ∈ am_T := am_in 339 (by decide +kernel) (by decide +kernel)
theorem tw_341 : (Jvm.Cond.instanceMethod ({ cls := "HadItFrom", name := "hasElements", desc := "(III)Z" } : Jvm.MethodName)) ∈ am_T := am_in 341 (by decide +kernel) (by decide +kernel)
set_option maxRecDepth 100000 in
theorem tw_342 : (Jvm.Cond.code ({ cls := "HadItFrom", name := "hasElements", desc := "(III)Z" } : Jvm.MethodName) prog_1_method_56_code (4 : Nat) (Option.some Jvm.ClassFile.FieldType.boolean)) ∈ am_T := am_in 342 rfl rfl
theorem tw_343 : (Jvm.Cond.methodLink "HadItFrom" (94 : Nat) ({ cls := "java/lang/System", name := "arraycopy", desc := "(Ljava/lang/Object;ILjava/lang/Object;II)V" } : Jvm.MethodName)) ∈ am_T := am_in 343 (by decide +kernel) (by decide +kernel)
theorem tw_344 : (Jvm.Cond.static ({ cls := "java/lang/System", name := "arraycopy", desc := "(Ljava/lang/Object;ILjava/lang/Object;II)V" } : Jvm.MethodName)) ∈ am_T := am_in 344 (by decide +kernel) (by decide +kernel)
theorem tw_345 : (Jvm.Cond.native ({ cls := "java/lang/System", name := "arraycopy", desc := "(Ljava/lang/Object;ILjava/lang/Object;II)V" } : Jvm.MethodName)) ∈ am_T := am_in 345 (by decide +kernel) (by decide +kernel)
theorem tw_346 : (Jvm.Cond.methodLink "HadItFromLaw" (30 : Nat) ({ cls := "HadItFrom", name := "element", desc := "(II)J" } : Jvm.MethodName)) ∈ am_T := am_in 346 (by decide +kernel) (by decide +kernel)
theorem tw_347 : (Jvm.Cond.instanceMethod ({ cls := "HadItFrom", name := "element", desc := "(II)J" } : Jvm.MethodName)) ∈ am_T := am_in 347 (by decide +kernel) (by decide +kernel)
theorem tw_348 : (Jvm.Cond.selects "HadItFrom" ({ cls := "HadItFrom", name := "element", desc := "(II)J" } : Jvm.MethodName) ({ cls := "HadItFrom", name := "element", desc := "(II)J" } : Jvm.MethodName)) ∈ am_T := am_in 348 (by decide +kernel) (by decide +kernel)
set_option maxRecDepth 100000 in
theorem tw_349 : (Jvm.Cond.code ({ cls := "HadItFrom", name := "element", desc := "(II)J" } : Jvm.MethodName) prog_1_method_5_code (3 : Nat) (Option.some Jvm.ClassFile.FieldType.long)) ∈ am_T := am_in 349 rfl rfl
theorem tw_350 : (Jvm.Cond.methodLink "HadItFromLaw" (35 : Nat) ({ cls := "HadItFrom", name := "show", desc := "(III)I" } : Jvm.MethodName)) ∈ am_T := am_in 350 (by decide +kernel) (by decide +kernel)
theorem tw_351 : (Jvm.Cond.instanceMethod ({ cls := "HadItFrom", name := "show", desc := "(III)I" } : Jvm.MethodName)) ∈ am_T := am_in 351 (by decide +kernel) (by decide +kernel)
theorem tw_352 : (Jvm.Cond.selects "HadItFrom" ({ cls := "HadItFrom", name := "show", desc := "(III)I" } : Jvm.MethodName) ({ cls := "HadItFrom", name := "show", desc := "(III)I" } : Jvm.MethodName)) ∈ am_T := am_in 352 (by decide +kernel) (by decide +kernel)
set_option maxRecDepth 100000 in
theorem tw_353 : (Jvm.Cond.code ({ cls := "HadItFrom", name := "show", desc := "(III)I" } : Jvm.MethodName) prog_1_method_6_code (4 : Nat) (Option.some Jvm.ClassFile.FieldType.int)) ∈ am_T := am_in 353 rfl rfl
theorem tw_354 : (Jvm.Cond.methodLink "HadItFrom" (100 : Nat) ({ cls := "HadItFrom$World", name := "rowAt", desc := "(II)LHadItFrom$Row;" } : Jvm.MethodName)) ∈ am_T := am_in 354 (by decide +kernel) (by decide +kernel)
theorem tw_355 : (Jvm.Cond.instanceMethod ({ cls := "HadItFrom$World", name := "rowAt", desc := "(II)LHadItFrom$Row;" } : Jvm.MethodName)) ∈ am_T := am_in 355 (by decide +kernel) (by decide +kernel)
theorem tw_356 : (Jvm.Cond.selects "HadItFrom$World" ({ cls := "HadItFrom$World", name := "rowAt", desc := "(II)LHadItFrom$Row;" } : Jvm.MethodName) ({ cls := "HadItFrom$World", name := "rowAt", desc := "(II)LHadItFrom$Row;" } : Jvm.MethodName)) ∈ am_T := am_in 356 (by decide +kernel) (by decide +kernel)
set_option maxRecDepth 100000 in
theorem tw_357 : (Jvm.Cond.code ({ cls := "HadItFrom$World", name := "rowAt", desc := "(II)LHadItFrom$Row;" } : Jvm.MethodName) prog_12_method_6_code (3 : Nat) (Option.some (Jvm.ClassFile.FieldType.object "HadItFrom$Row"))) ∈ am_T := am_in 357 rfl rfl
theorem tw_358 : (Jvm.Cond.methodLink "HadItFrom$World" (65 : Nat) ({ cls := "HadItFrom$World", name := "hasSaying", desc := "(I)Z" } : Jvm.MethodName)) ∈ am_T := am_in 358 (by decide +kernel) (by decide +kernel)
theorem tw_359 : (Jvm.Cond.instanceMethod ({ cls := "HadItFrom$World", name := "hasSaying", desc := "(I)Z" } : Jvm.MethodName)) ∈ am_T := am_in 359 (by decide +kernel) (by decide +kernel)
theorem tw_360 : (Jvm.Cond.selects "HadItFrom$World" ({ cls := "HadItFrom$World", name := "hasSaying", desc := "(I)Z" } : Jvm.MethodName) ({ cls := "HadItFrom$World", name := "hasSaying", desc := "(I)Z" } : Jvm.MethodName)) ∈ am_T := am_in 360 (by decide +kernel) (by decide +kernel)
set_option maxRecDepth 100000 in
theorem tw_361 : (Jvm.Cond.code ({ cls := "HadItFrom$World", name := "hasSaying", desc := "(I)Z" } : Jvm.MethodName) prog_12_method_5_code (2 : Nat) (Option.some Jvm.ClassFile.FieldType.boolean)) ∈ am_T := am_in 361 rfl rfl
theorem tw_362 : (Jvm.Cond.methodLink "HadItFromLaw" (39 : Nat) ({ cls := "HadItFrom", name := "holds", desc := "(I)I" } : Jvm.MethodName)) ∈ am_T := am_in 362 (by decide +kernel) (by decide +kernel)
theorem tw_363 : (Jvm.Cond.instanceMethod ({ cls := "HadItFrom", name := "holds", desc := "(I)I" } : Jvm.MethodName)) ∈ am_T := am_in 363 (by decide +kernel) (by decide +kernel)
theorem tw_364 : (Jvm.Cond.selects "HadItFrom" ({ cls := "HadItFrom", name := "holds", desc := "(I)I" } : Jvm.MethodName) ({ cls := "HadItFrom", name := "holds", desc := "(I)I" } : Jvm.MethodName)) ∈ am_T := am_in 364 (by decide +kernel) (by decide +kernel)
set_option maxRecDepth 100000 in
theorem tw_365 : (Jvm.Cond.code ({ cls := "HadItFrom", name := "holds", desc := "(I)I" } : Jvm.MethodName) prog_1_method_7_code (2 : Nat) (Option.some Jvm.ClassFile.FieldType.int)) ∈ am_T := am_in 365 rfl rfl
theorem tw_366 : (Jvm.Cond.methodLink "HadItFromLaw" (44 : Nat) ({ cls := "HadItFrom", name := "says", desc := "(II)I" } : Jvm.MethodName)) ∈ am_T := am_in 366 (by decide +kernel) (by decide +kernel)
theorem tw_367 : (Jvm.Cond.instanceMethod ({ cls := "HadItFrom", name := "says", desc := "(II)I" } : Jvm.MethodName)) ∈ am_T := am_in 367 (by decide +kernel) (by decide +kernel)
theorem tw_368 : (Jvm.Cond.selects "HadItFrom" ({ cls := "HadItFrom", name := "says", desc := "(II)I" } : Jvm.MethodName) ({ cls := "HadItFrom", name := "says", desc := "(II)I" } : Jvm.MethodName)) ∈ am_T := am_in 368 (by decide +kernel) (by decide +kernel)
set_option maxRecDepth 100000 in
theorem tw_369 : (Jvm.Cond.code ({ cls := "HadItFrom", name := "says", desc := "(II)I" } : Jvm.MethodName) prog_1_method_8_code (4 : Nat) (Option.some Jvm.ClassFile.FieldType.int)) ∈ am_T := am_in 369 rfl rfl
theorem tw_370 : (Jvm.Cond.methodLink "HadItFrom" (107 : Nat) ({ cls := "HadItFrom$Row", name := "isOf", desc := "(I)Z" } : Jvm.MethodName)) ∈ am_T := am_in 370 (by decide +kernel) (by decide +kernel)
theorem tw_371 : (Jvm.Cond.instanceMethod ({ cls := "HadItFrom$Row", name := "isOf", desc := "(I)Z" } : Jvm.MethodName)) ∈ am_T := am_in 371 (by decide +kernel) (by decide +kernel)
theorem tw_372 : (Jvm.Cond.selects "HadItFrom$Row" ({ cls := "HadItFrom$Row", name := "isOf", desc := "(I)Z" } : Jvm.MethodName) ({ cls := "HadItFrom$Row", name := "isOf", desc := "(I)Z" } : Jvm.MethodName)) ∈ am_T := am_in 372 (by decide +kernel) (by decide +kernel)
theorem tw_373 : (Jvm.Cond.sameMethod "HadItFrom$Row" "HadItFrom$Row" "isOf" "(I)Z") ∈ am_T := am_in 373 (by decide +kernel) (by decide +kernel)
theorem tw_374 : (Jvm.Cond.selects "HadItFrom$Gap" ({ cls := "HadItFrom$Row", name := "isOf", desc := "(I)Z" } : Jvm.MethodName) ({ cls := "HadItFrom$Row", name := "isOf", desc := "(I)Z" } : Jvm.MethodName)) ∈ am_T := am_in 374 (by decide +kernel) (by decide +kernel)
theorem tw_375 : (Jvm.Cond.selects "HadItFrom$Hidden" ({ cls := "HadItFrom$Row", name := "isOf", desc := "(I)Z" } : Jvm.MethodName) ({ cls := "HadItFrom$Row", name := "isOf", desc := "(I)Z" } : Jvm.MethodName)) ∈ am_T := am_in 375 (by decide +kernel) (by decide +kernel)
theorem tw_376 : (Jvm.Cond.selects "HadItFrom$Hung" ({ cls := "HadItFrom$Row", name := "isOf", desc := "(I)Z" } : Jvm.MethodName) ({ cls := "HadItFrom$Row", name := "isOf", desc := "(I)Z" } : Jvm.MethodName)) ∈ am_T := am_in 376 (by decide +kernel) (by decide +kernel)
theorem tw_377 : (Jvm.Cond.selects "HadItFrom$Made" ({ cls := "HadItFrom$Row", name := "isOf", desc := "(I)Z" } : Jvm.MethodName) ({ cls := "HadItFrom$Row", name := "isOf", desc := "(I)Z" } : Jvm.MethodName)) ∈ am_T := am_in 377 (by decide +kernel) (by decide +kernel)
theorem tw_378 : (Jvm.Cond.selects "HadItFrom$Raised" ({ cls := "HadItFrom$Row", name := "isOf", desc := "(I)Z" } : Jvm.MethodName) ({ cls := "HadItFrom$Row", name := "isOf", desc := "(I)Z" } : Jvm.MethodName)) ∈ am_T := am_in 378 (by decide +kernel) (by decide +kernel)
theorem tw_379 : (Jvm.Cond.selects "HadItFrom$Whole" ({ cls := "HadItFrom$Row", name := "isOf", desc := "(I)Z" } : Jvm.MethodName) ({ cls := "HadItFrom$Row", name := "isOf", desc := "(I)Z" } : Jvm.MethodName)) ∈ am_T := am_in 379 (by decide +kernel) (by decide +kernel)
set_option maxRecDepth 100000 in
theorem tw_380 : (Jvm.Cond.code ({ cls := "HadItFrom$Row", name := "isOf", desc := "(I)Z" } : Jvm.MethodName) prog_9_method_3_code (2 : Nat) (Option.some Jvm.ClassFile.FieldType.boolean)) ∈ am_T := am_in 380 rfl rfl
theorem tw_381 : (Jvm.Cond.classLink "HadItFrom$Row" (28 : Nat) "HadItFrom$Whole") ∈ am_T := am_in 381 (by decide +kernel) (by decide +kernel)
theorem tw_382 : (Jvm.Cond.classLink "HadItFrom$Row" (30 : Nat) "HadItFrom$Gap") ∈ am_T := am_in 382 (by decide +kernel) (by decide +kernel)
theorem tw_383 : (Jvm.Cond.classLink "HadItFrom$Row" (32 : Nat) "HadItFrom$Hidden") ∈ am_T := am_in 383 (by decide +kernel) (by decide +kernel)
theorem tw_384 : (Jvm.Cond.classLink "HadItFrom$Row" (34 : Nat) "HadItFrom$Hung") ∈ am_T := am_in 384 (by decide +kernel) (by decide +kernel)
theorem tw_385 : (Jvm.Cond.classLink "HadItFrom$Row" (36 : Nat) "HadItFrom$Raised") ∈ am_T := am_in 385 (by decide +kernel) (by decide +kernel)
theorem tw_386 : (Jvm.Cond.classLink "HadItFrom$Row" (38 : Nat) "HadItFrom$Made") ∈ am_T := am_in 386 (by decide +kernel) (by decide +kernel)
theorem tw_387 : (Jvm.Cond.methodLink "HadItFrom" (110 : Nat) ({ cls := "HadItFrom$Row", name := "saysAs", desc := "(I)I" } : Jvm.MethodName)) ∈ am_T := am_in 387 (by decide +kernel) (by decide +kernel)
theorem tw_388 : (Jvm.Cond.instanceMethod ({ cls := "HadItFrom$Row", name := "saysAs", desc := "(I)I" } : Jvm.MethodName)) ∈ am_T := am_in 388 (by decide +kernel) (by decide +kernel)
theorem tw_389 : (Jvm.Cond.selects "HadItFrom$Row" ({ cls := "HadItFrom$Row", name := "saysAs", desc := "(I)I" } : Jvm.MethodName) ({ cls := "HadItFrom$Row", name := "saysAs", desc := "(I)I" } : Jvm.MethodName)) ∈ am_T := am_in 389 (by decide +kernel) (by decide +kernel)
theorem tw_390 : (Jvm.Cond.sameMethod "HadItFrom$Row" "HadItFrom$Row" "saysAs" "(I)I") ∈ am_T := am_in 390 (by decide +kernel) (by decide +kernel)
theorem tw_391 : (Jvm.Cond.selects "HadItFrom$Gap" ({ cls := "HadItFrom$Row", name := "saysAs", desc := "(I)I" } : Jvm.MethodName) ({ cls := "HadItFrom$Row", name := "saysAs", desc := "(I)I" } : Jvm.MethodName)) ∈ am_T := am_in 391 (by decide +kernel) (by decide +kernel)
theorem tw_392 : (Jvm.Cond.selects "HadItFrom$Hidden" ({ cls := "HadItFrom$Row", name := "saysAs", desc := "(I)I" } : Jvm.MethodName) ({ cls := "HadItFrom$Row", name := "saysAs", desc := "(I)I" } : Jvm.MethodName)) ∈ am_T := am_in 392 (by decide +kernel) (by decide +kernel)
theorem tw_393 : (Jvm.Cond.selects "HadItFrom$Hung" ({ cls := "HadItFrom$Row", name := "saysAs", desc := "(I)I" } : Jvm.MethodName) ({ cls := "HadItFrom$Row", name := "saysAs", desc := "(I)I" } : Jvm.MethodName)) ∈ am_T := am_in 393 (by decide +kernel) (by decide +kernel)
theorem tw_394 : (Jvm.Cond.selects "HadItFrom$Made" ({ cls := "HadItFrom$Row", name := "saysAs", desc := "(I)I" } : Jvm.MethodName) ({ cls := "HadItFrom$Row", name := "saysAs", desc := "(I)I" } : Jvm.MethodName)) ∈ am_T := am_in 394 (by decide +kernel) (by decide +kernel)
theorem tw_395 : (Jvm.Cond.selects "HadItFrom$Raised" ({ cls := "HadItFrom$Row", name := "saysAs", desc := "(I)I" } : Jvm.MethodName) ({ cls := "HadItFrom$Row", name := "saysAs", desc := "(I)I" } : Jvm.MethodName)) ∈ am_T := am_in 395 (by decide +kernel) (by decide +kernel)
theorem tw_396 : (Jvm.Cond.selects "HadItFrom$Whole" ({ cls := "HadItFrom$Row", name := "saysAs", desc := "(I)I" } : Jvm.MethodName) ({ cls := "HadItFrom$Row", name := "saysAs", desc := "(I)I" } : Jvm.MethodName)) ∈ am_T := am_in 396 (by decide +kernel) (by decide +kernel)
set_option maxRecDepth 100000 in
theorem tw_397 : (Jvm.Cond.code ({ cls := "HadItFrom$Row", name := "saysAs", desc := "(I)I" } : Jvm.MethodName) prog_9_method_4_code (2 : Nat) (Option.some Jvm.ClassFile.FieldType.int)) ∈ am_T := am_in 397 rfl rfl
theorem tw_398 : (Jvm.Cond.methodLink "HadItFrom$Row" (40 : Nat) ({ cls := "HadItFrom$Row", name := "firstHeard", desc := "()I" } : Jvm.MethodName)) ∈ am_T := am_in 398 (by decide +kernel) (by decide +kernel)
theorem tw_399 : (Jvm.Cond.instanceMethod ({ cls := "HadItFrom$Row", name := "firstHeard", desc := "()I" } : Jvm.MethodName)) ∈ am_T := am_in 399 (by decide +kernel) (by decide +kernel)
theorem tw_400 : (Jvm.Cond.selects "HadItFrom$Row" ({ cls := "HadItFrom$Row", name := "firstHeard", desc := "()I" } : Jvm.MethodName) ({ cls := "HadItFrom$Row", name := "firstHeard", desc := "()I" } : Jvm.MethodName)) ∈ am_T := am_in 400 (by decide +kernel) (by decide +kernel)
theorem tw_401 : (Jvm.Cond.sameMethod "HadItFrom$Row" "HadItFrom$Row" "firstHeard" "()I") ∈ am_T := am_in 401 (by decide +kernel) (by decide +kernel)
theorem tw_402 : (Jvm.Cond.selects "HadItFrom$Gap" ({ cls := "HadItFrom$Row", name := "firstHeard", desc := "()I" } : Jvm.MethodName) ({ cls := "HadItFrom$Row", name := "firstHeard", desc := "()I" } : Jvm.MethodName)) ∈ am_T := am_in 402 (by decide +kernel) (by decide +kernel)
theorem tw_403 : (Jvm.Cond.selects "HadItFrom$Hidden" ({ cls := "HadItFrom$Row", name := "firstHeard", desc := "()I" } : Jvm.MethodName) ({ cls := "HadItFrom$Row", name := "firstHeard", desc := "()I" } : Jvm.MethodName)) ∈ am_T := am_in 403 (by decide +kernel) (by decide +kernel)
theorem tw_404 : (Jvm.Cond.selects "HadItFrom$Hung" ({ cls := "HadItFrom$Row", name := "firstHeard", desc := "()I" } : Jvm.MethodName) ({ cls := "HadItFrom$Row", name := "firstHeard", desc := "()I" } : Jvm.MethodName)) ∈ am_T := am_in 404 (by decide +kernel) (by decide +kernel)
theorem tw_405 : (Jvm.Cond.selects "HadItFrom$Made" ({ cls := "HadItFrom$Row", name := "firstHeard", desc := "()I" } : Jvm.MethodName) ({ cls := "HadItFrom$Row", name := "firstHeard", desc := "()I" } : Jvm.MethodName)) ∈ am_T := am_in 405 (by decide +kernel) (by decide +kernel)
theorem tw_406 : (Jvm.Cond.selects "HadItFrom$Raised" ({ cls := "HadItFrom$Row", name := "firstHeard", desc := "()I" } : Jvm.MethodName) ({ cls := "HadItFrom$Row", name := "firstHeard", desc := "()I" } : Jvm.MethodName)) ∈ am_T := am_in 406 (by decide +kernel) (by decide +kernel)
theorem tw_407 : (Jvm.Cond.selects "HadItFrom$Whole" ({ cls := "HadItFrom$Row", name := "firstHeard", desc := "()I" } : Jvm.MethodName) ({ cls := "HadItFrom$Row", name := "firstHeard", desc := "()I" } : Jvm.MethodName)) ∈ am_T := am_in 407 (by decide +kernel) (by decide +kernel)
set_option maxRecDepth 100000 in
theorem tw_408 : (Jvm.Cond.code ({ cls := "HadItFrom$Row", name := "firstHeard", desc := "()I" } : Jvm.MethodName) prog_9_method_6_code (2 : Nat) (Option.some Jvm.ClassFile.FieldType.int)) ∈ am_T := am_in 408 rfl rfl
theorem tw_409 : (Jvm.Cond.methodLink "HadItFrom$Row" (44 : Nat) ({ cls := "HadItFrom$Row", name := "lastMan", desc := "()I" } : Jvm.MethodName)) ∈ am_T := am_in 409 (by decide +kernel) (by decide +kernel)
theorem tw_410 : (Jvm.Cond.instanceMethod ({ cls := "HadItFrom$Row", name := "lastMan", desc := "()I" } : Jvm.MethodName)) ∈ am_T := am_in 410 (by decide +kernel) (by decide +kernel)
theorem tw_411 : (Jvm.Cond.selects "HadItFrom$Row" ({ cls := "HadItFrom$Row", name := "lastMan", desc := "()I" } : Jvm.MethodName) ({ cls := "HadItFrom$Row", name := "lastMan", desc := "()I" } : Jvm.MethodName)) ∈ am_T := am_in 411 (by decide +kernel) (by decide +kernel)
theorem tw_412 : (Jvm.Cond.sameMethod "HadItFrom$Row" "HadItFrom$Row" "lastMan" "()I") ∈ am_T := am_in 412 (by decide +kernel) (by decide +kernel)
theorem tw_413 : (Jvm.Cond.selects "HadItFrom$Gap" ({ cls := "HadItFrom$Row", name := "lastMan", desc := "()I" } : Jvm.MethodName) ({ cls := "HadItFrom$Row", name := "lastMan", desc := "()I" } : Jvm.MethodName)) ∈ am_T := am_in 413 (by decide +kernel) (by decide +kernel)
theorem tw_414 : (Jvm.Cond.selects "HadItFrom$Hidden" ({ cls := "HadItFrom$Row", name := "lastMan", desc := "()I" } : Jvm.MethodName) ({ cls := "HadItFrom$Row", name := "lastMan", desc := "()I" } : Jvm.MethodName)) ∈ am_T := am_in 414 (by decide +kernel) (by decide +kernel)
theorem tw_415 : (Jvm.Cond.selects "HadItFrom$Hung" ({ cls := "HadItFrom$Row", name := "lastMan", desc := "()I" } : Jvm.MethodName) ({ cls := "HadItFrom$Row", name := "lastMan", desc := "()I" } : Jvm.MethodName)) ∈ am_T := am_in 415 (by decide +kernel) (by decide +kernel)
theorem tw_416 : (Jvm.Cond.selects "HadItFrom$Made" ({ cls := "HadItFrom$Row", name := "lastMan", desc := "()I" } : Jvm.MethodName) ({ cls := "HadItFrom$Row", name := "lastMan", desc := "()I" } : Jvm.MethodName)) ∈ am_T := am_in 416 (by decide +kernel) (by decide +kernel)
theorem tw_417 : (Jvm.Cond.selects "HadItFrom$Raised" ({ cls := "HadItFrom$Row", name := "lastMan", desc := "()I" } : Jvm.MethodName) ({ cls := "HadItFrom$Row", name := "lastMan", desc := "()I" } : Jvm.MethodName)) ∈ am_T := am_in 417 (by decide +kernel) (by decide +kernel)
theorem tw_418 : (Jvm.Cond.selects "HadItFrom$Whole" ({ cls := "HadItFrom$Row", name := "lastMan", desc := "()I" } : Jvm.MethodName) ({ cls := "HadItFrom$Row", name := "lastMan", desc := "()I" } : Jvm.MethodName)) ∈ am_T := am_in 418 (by decide +kernel) (by decide +kernel)
set_option maxRecDepth 100000 in
theorem tw_419 : (Jvm.Cond.code ({ cls := "HadItFrom$Row", name := "lastMan", desc := "()I" } : Jvm.MethodName) prog_9_method_5_code (1 : Nat) (Option.some Jvm.ClassFile.FieldType.int)) ∈ am_T := am_in 419 rfl rfl
theorem tw_420 : (Jvm.Cond.methodLink "HadItFromLaw" (49 : Nat) ({ cls := "HadItFrom", name := "man", desc := "(IIIII)I" } : Jvm.MethodName)) ∈ am_T := am_in 420 (by decide +kernel) (by decide +kernel)
theorem tw_421 : (Jvm.Cond.instanceMethod ({ cls := "HadItFrom", name := "man", desc := "(IIIII)I" } : Jvm.MethodName)) ∈ am_T := am_in 421 (by decide +kernel) (by decide +kernel)
theorem tw_422 : (Jvm.Cond.selects "HadItFrom" ({ cls := "HadItFrom", name := "man", desc := "(IIIII)I" } : Jvm.MethodName) ({ cls := "HadItFrom", name := "man", desc := "(IIIII)I" } : Jvm.MethodName)) ∈ am_T := am_in 422 (by decide +kernel) (by decide +kernel)
set_option maxRecDepth 100000 in
theorem tw_423 : (Jvm.Cond.code ({ cls := "HadItFrom", name := "man", desc := "(IIIII)I" } : Jvm.MethodName) prog_1_method_9_code (6 : Nat) (Option.some Jvm.ClassFile.FieldType.int)) ∈ am_T := am_in 423 rfl rfl
theorem tw_424 : (Jvm.Cond.methodLink "HadItFrom" (113 : Nat) ({ cls := "HadItFrom", name := "isLife", desc := "(II)Z" } : Jvm.MethodName)) ∈ am_T := am_in 424 (by decide +kernel) (by decide +kernel)
theorem tw_425 : (Jvm.Cond.static ({ cls := "HadItFrom", name := "isLife", desc := "(II)Z" } : Jvm.MethodName)) ∈ am_T := am_in 425 (by decide +kernel) (by decide +kernel)
set_option maxRecDepth 100000 in
theorem tw_426 : (Jvm.Cond.code ({ cls := "HadItFrom", name := "isLife", desc := "(II)Z" } : Jvm.MethodName) prog_1_method_57_code (2 : Nat) (Option.some Jvm.ClassFile.FieldType.boolean)) ∈ am_T := am_in 426 rfl rfl
theorem tw_427 : (Jvm.Cond.methodLink "HadItFrom" (117 : Nat) ({ cls := "HadItFrom", name := "isPlace", desc := "(I)Z" } : Jvm.MethodName)) ∈ am_T := am_in 427 (by decide +kernel) (by decide +kernel)
theorem tw_428 : (Jvm.Cond.static ({ cls := "HadItFrom", name := "isPlace", desc := "(I)Z" } : Jvm.MethodName)) ∈ am_T := am_in 428 (by decide +kernel) (by decide +kernel)
set_option maxRecDepth 100000 in
theorem tw_429 : (Jvm.Cond.code ({ cls := "HadItFrom", name := "isPlace", desc := "(I)Z" } : Jvm.MethodName) prog_1_method_58_code (1 : Nat) (Option.some Jvm.ClassFile.FieldType.boolean)) ∈ am_T := am_in 429 rfl rfl
theorem tw_430 : (Jvm.Cond.methodLink "HadItFrom" (120 : Nat) ({ cls := "HadItFrom", name := "isMark", desc := "(II)Z" } : Jvm.MethodName)) ∈ am_T := am_in 430 (by decide +kernel) (by decide +kernel)
theorem tw_431 : (Jvm.Cond.static ({ cls := "HadItFrom", name := "isMark", desc := "(II)Z" } : Jvm.MethodName)) ∈ am_T := am_in 431 (by decide +kernel) (by decide +kernel)
set_option maxRecDepth 100000 in
theorem tw_432 : (Jvm.Cond.code ({ cls := "HadItFrom", name := "isMark", desc := "(II)Z" } : Jvm.MethodName) prog_1_method_59_code (2 : Nat) (Option.some Jvm.ClassFile.FieldType.boolean)) ∈ am_T := am_in 432 rfl rfl
theorem tw_433 : (Jvm.Cond.methodLink "HadItFrom" (126 : Nat) ({ cls := "HadItFrom$World", name := "addMan", desc := "(IIIII)I" } : Jvm.MethodName)) ∈ am_T := am_in 433 (by decide +kernel) (by decide +kernel)
theorem tw_434 : (Jvm.Cond.instanceMethod ({ cls := "HadItFrom$World", name := "addMan", desc := "(IIIII)I" } : Jvm.MethodName)) ∈ am_T := am_in 434 (by decide +kernel) (by decide +kernel)
theorem tw_435 : (Jvm.Cond.selects "HadItFrom$World" ({ cls := "HadItFrom$World", name := "addMan", desc := "(IIIII)I" } : Jvm.MethodName) ({ cls := "HadItFrom$World", name := "addMan", desc := "(IIIII)I" } : Jvm.MethodName)) ∈ am_T := am_in 435 (by decide +kernel) (by decide +kernel)
set_option maxRecDepth 100000 in
theorem tw_436 : (Jvm.Cond.code ({ cls := "HadItFrom$World", name := "addMan", desc := "(IIIII)I" } : Jvm.MethodName) prog_12_method_7_code (7 : Nat) (Option.some Jvm.ClassFile.FieldType.int)) ∈ am_T := am_in 436 rfl rfl
theorem tw_437 : (Jvm.Cond.methodLink "HadItFromLaw" (53 : Nat) ({ cls := "HadItFrom", name := "men", desc := "(III)I" } : Jvm.MethodName)) ∈ am_T := am_in 437 (by decide +kernel) (by decide +kernel)
theorem tw_438 : (Jvm.Cond.instanceMethod ({ cls := "HadItFrom", name := "men", desc := "(III)I" } : Jvm.MethodName)) ∈ am_T := am_in 438 (by decide +kernel) (by decide +kernel)
theorem tw_439 : (Jvm.Cond.selects "HadItFrom" ({ cls := "HadItFrom", name := "men", desc := "(III)I" } : Jvm.MethodName) ({ cls := "HadItFrom", name := "men", desc := "(III)I" } : Jvm.MethodName)) ∈ am_T := am_in 439 (by decide +kernel) (by decide +kernel)
set_option maxRecDepth 100000 in
theorem tw_440 : (Jvm.Cond.code ({ cls := "HadItFrom", name := "men", desc := "(III)I" } : Jvm.MethodName) prog_1_method_10_code (5 : Nat) (Option.some Jvm.ClassFile.FieldType.int)) ∈ am_T := am_in 440 rfl rfl
theorem tw_441 : (Jvm.Cond.methodLink "HadItFrom" (130 : Nat) ({ cls := "HadItFrom", name := "menCome", desc := "([JII)I" } : Jvm.MethodName)) ∈ am_T := am_in 441 (by decide +kernel) (by decide +kernel)
theorem tw_443 : (Jvm.Cond.instanceMethod ({ cls := "HadItFrom", name := "menCome", desc := "([JII)I" } : Jvm.MethodName)) ∈ am_T := am_in 443 (by decide +kernel) (by decide +kernel)
set_option maxRecDepth 100000 in
theorem tw_444 : (Jvm.Cond.code ({ cls := "HadItFrom", name := "menCome", desc := "([JII)I" } : Jvm.MethodName) prog_1_method_61_code (11 : Nat) (Option.some Jvm.ClassFile.FieldType.int)) ∈ am_T := am_in 444 rfl rfl
theorem tw_445 : (Jvm.Cond.methodLink "HadItFromLaw" (57 : Nat) ({ cls := "HadItFrom", name := "journey", desc := "(IIII)I" } : Jvm.MethodName)) ∈ am_T := am_in 445 (by decide +kernel) (by decide +kernel)
theorem tw_446 : (Jvm.Cond.instanceMethod ({ cls := "HadItFrom", name := "journey", desc := "(IIII)I" } : Jvm.MethodName)) ∈ am_T := am_in 446 (by decide +kernel) (by decide +kernel)
theorem tw_447 : (Jvm.Cond.selects "HadItFrom" ({ cls := "HadItFrom", name := "journey", desc := "(IIII)I" } : Jvm.MethodName) ({ cls := "HadItFrom", name := "journey", desc := "(IIII)I" } : Jvm.MethodName)) ∈ am_T := am_in 447 (by decide +kernel) (by decide +kernel)
set_option maxRecDepth 100000 in
theorem tw_448 : (Jvm.Cond.code ({ cls := "HadItFrom", name := "journey", desc := "(IIII)I" } : Jvm.MethodName) prog_1_method_11_code (5 : Nat) (Option.some Jvm.ClassFile.FieldType.int)) ∈ am_T := am_in 448 rfl rfl
theorem tw_449 : (Jvm.Cond.methodLink "HadItFrom" (134 : Nat) ({ cls := "HadItFrom$World", name := "hasMan", desc := "(I)Z" } : Jvm.MethodName)) ∈ am_T := am_in 449 (by decide +kernel) (by decide +kernel)
theorem tw_450 : (Jvm.Cond.instanceMethod ({ cls := "HadItFrom$World", name := "hasMan", desc := "(I)Z" } : Jvm.MethodName)) ∈ am_T := am_in 450 (by decide +kernel) (by decide +kernel)
theorem tw_451 : (Jvm.Cond.selects "HadItFrom$World" ({ cls := "HadItFrom$World", name := "hasMan", desc := "(I)Z" } : Jvm.MethodName) ({ cls := "HadItFrom$World", name := "hasMan", desc := "(I)Z" } : Jvm.MethodName)) ∈ am_T := am_in 451 (by decide +kernel) (by decide +kernel)
set_option maxRecDepth 100000 in
theorem tw_452 : (Jvm.Cond.code ({ cls := "HadItFrom$World", name := "hasMan", desc := "(I)Z" } : Jvm.MethodName) prog_12_method_3_code (2 : Nat) (Option.some Jvm.ClassFile.FieldType.boolean)) ∈ am_T := am_in 452 rfl rfl
theorem tw_453 : (Jvm.Cond.methodLink "HadItFrom" (146 : Nat) ({ cls := "HadItFrom$Man", name := "addJourney", desc := "(III)I" } : Jvm.MethodName)) ∈ am_T := am_in 453 (by decide +kernel) (by decide +kernel)
theorem tw_454 : (Jvm.Cond.instanceMethod ({ cls := "HadItFrom$Man", name := "addJourney", desc := "(III)I" } : Jvm.MethodName)) ∈ am_T := am_in 454 (by decide +kernel) (by decide +kernel)
theorem tw_455 : (Jvm.Cond.selects "HadItFrom$Man" ({ cls := "HadItFrom$Man", name := "addJourney", desc := "(III)I" } : Jvm.MethodName) ({ cls := "HadItFrom$Man", name := "addJourney", desc := "(III)I" } : Jvm.MethodName)) ∈ am_T := am_in 455 (by decide +kernel) (by decide +kernel)
set_option maxRecDepth 100000 in
theorem tw_456 : (Jvm.Cond.code ({ cls := "HadItFrom$Man", name := "addJourney", desc := "(III)I" } : Jvm.MethodName) prog_6_method_4_code (4 : Nat) (Option.some Jvm.ClassFile.FieldType.int)) ∈ am_T := am_in 456 rfl rfl
theorem tw_457 : (Jvm.Cond.methodLink "HadItFromLaw" (62 : Nat) ({ cls := "HadItFrom", name := "found", desc := "(III)I" } : Jvm.MethodName)) ∈ am_T := am_in 457 (by decide +kernel) (by decide +kernel)
theorem tw_458 : (Jvm.Cond.instanceMethod ({ cls := "HadItFrom", name := "found", desc := "(III)I" } : Jvm.MethodName)) ∈ am_T := am_in 458 (by decide +kernel) (by decide +kernel)
theorem tw_459 : (Jvm.Cond.selects "HadItFrom" ({ cls := "HadItFrom", name := "found", desc := "(III)I" } : Jvm.MethodName) ({ cls := "HadItFrom", name := "found", desc := "(III)I" } : Jvm.MethodName)) ∈ am_T := am_in 459 (by decide +kernel) (by decide +kernel)
set_option maxRecDepth 100000 in
theorem tw_460 : (Jvm.Cond.code ({ cls := "HadItFrom", name := "found", desc := "(III)I" } : Jvm.MethodName) prog_1_method_12_code (4 : Nat) (Option.some Jvm.ClassFile.FieldType.int)) ∈ am_T := am_in 460 rfl rfl
theorem tw_461 : (Jvm.Cond.methodLink "HadItFromLaw" (66 : Nat) ({ cls := "HadItFrom", name := "mark", desc := "(III)I" } : Jvm.MethodName)) ∈ am_T := am_in 461 (by decide +kernel) (by decide +kernel)
theorem tw_462 : (Jvm.Cond.instanceMethod ({ cls := "HadItFrom", name := "mark", desc := "(III)I" } : Jvm.MethodName)) ∈ am_T := am_in 462 (by decide +kernel) (by decide +kernel)
theorem tw_463 : (Jvm.Cond.selects "HadItFrom" ({ cls := "HadItFrom", name := "mark", desc := "(III)I" } : Jvm.MethodName) ({ cls := "HadItFrom", name := "mark", desc := "(III)I" } : Jvm.MethodName)) ∈ am_T := am_in 463 (by decide +kernel) (by decide +kernel)
set_option maxRecDepth 100000 in
theorem tw_464 : (Jvm.Cond.code ({ cls := "HadItFrom", name := "mark", desc := "(III)I" } : Jvm.MethodName) prog_1_method_13_code (5 : Nat) (Option.some Jvm.ClassFile.FieldType.int)) ∈ am_T := am_in 464 rfl rfl
theorem tw_465 : (Jvm.Cond.methodLink "HadItFrom" (159 : Nat) ({ cls := "HadItFrom$Man", name := "becomesMarked", desc := "(II)V" } : Jvm.MethodName)) ∈ am_T := am_in 465 (by decide +kernel) (by decide +kernel)
theorem tw_466 : (Jvm.Cond.instanceMethod ({ cls := "HadItFrom$Man", name := "becomesMarked", desc := "(II)V" } : Jvm.MethodName)) ∈ am_T := am_in 466 (by decide +kernel) (by decide +kernel)
theorem tw_467 : (Jvm.Cond.selects "HadItFrom$Man" ({ cls := "HadItFrom$Man", name := "becomesMarked", desc := "(II)V" } : Jvm.MethodName) ({ cls := "HadItFrom$Man", name := "becomesMarked", desc := "(II)V" } : Jvm.MethodName)) ∈ am_T := am_in 467 (by decide +kernel) (by decide +kernel)
set_option maxRecDepth 100000 in
theorem tw_468 : (Jvm.Cond.code ({ cls := "HadItFrom$Man", name := "becomesMarked", desc := "(II)V" } : Jvm.MethodName) prog_6_method_3_code (3 : Nat) (Option.none : Option Jvm.ClassFile.FieldType)) ∈ am_T := am_in 468 rfl rfl
theorem tw_469 : (Jvm.Cond.methodLink "HadItFromLaw" (70 : Nat) ({ cls := "HadItFrom", name := "manOf", desc := "(II)I" } : Jvm.MethodName)) ∈ am_T := am_in 469 (by decide +kernel) (by decide +kernel)
theorem tw_470 : (Jvm.Cond.instanceMethod ({ cls := "HadItFrom", name := "manOf", desc := "(II)I" } : Jvm.MethodName)) ∈ am_T := am_in 470 (by decide +kernel) (by decide +kernel)
theorem tw_471 : (Jvm.Cond.selects "HadItFrom" ({ cls := "HadItFrom", name := "manOf", desc := "(II)I" } : Jvm.MethodName) ({ cls := "HadItFrom", name := "manOf", desc := "(II)I" } : Jvm.MethodName)) ∈ am_T := am_in 471 (by decide +kernel) (by decide +kernel)
set_option maxRecDepth 100000 in
theorem tw_472 : (Jvm.Cond.code ({ cls := "HadItFrom", name := "manOf", desc := "(II)I" } : Jvm.MethodName) prog_1_method_14_code (4 : Nat) (Option.some Jvm.ClassFile.FieldType.int)) ∈ am_T := am_in 472 rfl rfl
theorem tw_473 : (Jvm.Cond.methodLink "HadItFromLaw" (74 : Nat) ({ cls := "HadItFrom", name := "where", desc := "(II)I" } : Jvm.MethodName)) ∈ am_T := am_in 473 (by decide +kernel) (by decide +kernel)
theorem tw_474 : (Jvm.Cond.instanceMethod ({ cls := "HadItFrom", name := "where", desc := "(II)I" } : Jvm.MethodName)) ∈ am_T := am_in 474 (by decide +kernel) (by decide +kernel)
theorem tw_475 : (Jvm.Cond.selects "HadItFrom" ({ cls := "HadItFrom", name := "where", desc := "(II)I" } : Jvm.MethodName) ({ cls := "HadItFrom", name := "where", desc := "(II)I" } : Jvm.MethodName)) ∈ am_T := am_in 475 (by decide +kernel) (by decide +kernel)
set_option maxRecDepth 100000 in
theorem tw_476 : (Jvm.Cond.code ({ cls := "HadItFrom", name := "where", desc := "(II)I" } : Jvm.MethodName) prog_1_method_15_code (3 : Nat) (Option.some Jvm.ClassFile.FieldType.int)) ∈ am_T := am_in 476 rfl rfl
theorem tw_477 : (Jvm.Cond.methodLink "HadItFrom" (166 : Nat) ({ cls := "HadItFrom$Man", name := "placeIn", desc := "(I)I" } : Jvm.MethodName)) ∈ am_T := am_in 477 (by decide +kernel) (by decide +kernel)
theorem tw_478 : (Jvm.Cond.instanceMethod ({ cls := "HadItFrom$Man", name := "placeIn", desc := "(I)I" } : Jvm.MethodName)) ∈ am_T := am_in 478 (by decide +kernel) (by decide +kernel)
theorem tw_479 : (Jvm.Cond.selects "HadItFrom$Man" ({ cls := "HadItFrom$Man", name := "placeIn", desc := "(I)I" } : Jvm.MethodName) ({ cls := "HadItFrom$Man", name := "placeIn", desc := "(I)I" } : Jvm.MethodName)) ∈ am_T := am_in 479 (by decide +kernel) (by decide +kernel)
set_option maxRecDepth 100000 in
theorem tw_480 : (Jvm.Cond.code ({ cls := "HadItFrom$Man", name := "placeIn", desc := "(I)I" } : Jvm.MethodName) prog_6_method_5_code (4 : Nat) (Option.some Jvm.ClassFile.FieldType.int)) ∈ am_T := am_in 480 rfl rfl
theorem tw_481 : (Jvm.Cond.methodLink "HadItFromLaw" (78 : Nat) ({ cls := "HadItFrom", name := "rules", desc := "(I)I" } : Jvm.MethodName)) ∈ am_T := am_in 481 (by decide +kernel) (by decide +kernel)
theorem tw_482 : (Jvm.Cond.instanceMethod ({ cls := "HadItFrom", name := "rules", desc := "(I)I" } : Jvm.MethodName)) ∈ am_T := am_in 482 (by decide +kernel) (by decide +kernel)
theorem tw_483 : (Jvm.Cond.selects "HadItFrom" ({ cls := "HadItFrom", name := "rules", desc := "(I)I" } : Jvm.MethodName) ({ cls := "HadItFrom", name := "rules", desc := "(I)I" } : Jvm.MethodName)) ∈ am_T := am_in 483 (by decide +kernel) (by decide +kernel)
set_option maxRecDepth 100000 in
theorem tw_484 : (Jvm.Cond.code ({ cls := "HadItFrom", name := "rules", desc := "(I)I" } : Jvm.MethodName) prog_1_method_16_code (3 : Nat) (Option.some Jvm.ClassFile.FieldType.int)) ∈ am_T := am_in 484 rfl rfl
theorem tw_485 : (Jvm.Cond.methodLink "HadItFrom" (169 : Nat) ({ cls := "HadItFrom$Text", name := "open", desc := "([JI)V" } : Jvm.MethodName)) ∈ am_T := am_in 485 (by decide +kernel) (by decide +kernel)
theorem tw_486 : (Jvm.Cond.instanceMethod ({ cls := "HadItFrom$Text", name := "open", desc := "([JI)V" } : Jvm.MethodName)) ∈ am_T := am_in 486 (by decide +kernel) (by decide +kernel)
theorem tw_487 : (Jvm.Cond.selects "HadItFrom$Text" ({ cls := "HadItFrom$Text", name := "open", desc := "([JI)V" } : Jvm.MethodName) ({ cls := "HadItFrom$Text", name := "open", desc := "([JI)V" } : Jvm.MethodName)) ∈ am_T := am_in 487 (by decide +kernel) (by decide +kernel)
set_option maxRecDepth 100000 in
theorem tw_488 : (Jvm.Cond.code ({ cls := "HadItFrom$Text", name := "open", desc := "([JI)V" } : Jvm.MethodName) prog_10_method_2_code (3 : Nat) (Option.none : Option Jvm.ClassFile.FieldType)) ∈ am_T := am_in 488 rfl rfl
theorem tw_489 : (Jvm.Cond.methodLink "HadItFrom$Text" (32 : Nat) ({ cls := "java/lang/Math", name := "min", desc := "(II)I" } : Jvm.MethodName)) ∈ am_T := am_in 489 (by decide +kernel) (by decide +kernel)
theorem tw_490 : (Jvm.Cond.static ({ cls := "java/lang/Math", name := "min", desc := "(II)I" } : Jvm.MethodName)) ∈ am_T := am_in 490 (by decide +kernel) (by decide +kernel)
set_option maxRecDepth 100000 in
theorem tw_491 : (Jvm.Cond.code ({ cls := "java/lang/Math", name := "min", desc := "(II)I" } : Jvm.MethodName) prog_18_method_69_code (2 : Nat) (Option.some Jvm.ClassFile.FieldType.int)) ∈ am_T := am_in 491 rfl rfl
theorem tw_492 : (Jvm.Cond.methodLink "HadItFrom" (173 : Nat) ({ cls := "HadItFrom$Text", name := "readRules", desc := "([I)V" } : Jvm.MethodName)) ∈ am_T := am_in 492 (by decide +kernel) (by decide +kernel)
theorem tw_493 : (Jvm.Cond.instanceMethod ({ cls := "HadItFrom$Text", name := "readRules", desc := "([I)V" } : Jvm.MethodName)) ∈ am_T := am_in 493 (by decide +kernel) (by decide +kernel)
theorem tw_494 : (Jvm.Cond.selects "HadItFrom$Text" ({ cls := "HadItFrom$Text", name := "readRules", desc := "([I)V" } : Jvm.MethodName) ({ cls := "HadItFrom$Text", name := "readRules", desc := "([I)V" } : Jvm.MethodName)) ∈ am_T := am_in 494 (by decide +kernel) (by decide +kernel)
set_option maxRecDepth 100000 in
theorem tw_495 : (Jvm.Cond.code ({ cls := "HadItFrom$Text", name := "readRules", desc := "([I)V" } : Jvm.MethodName) prog_10_method_3_code (5 : Nat) (Option.none : Option Jvm.ClassFile.FieldType)) ∈ am_T := am_in 495 rfl rfl
theorem tw_496 : (Jvm.Cond.fieldLinkNest "HadItFrom$Text" (38 : Nat) "HadItFrom" "FIRST_RULES" "[I" "HadItFrom") ∈ am_T := am_in 496 (by decide +kernel) (by decide +kernel)
theorem tw_498 : (Jvm.Cond.methodLink "HadItFrom$Text" (41 : Nat) ({ cls := "java/lang/System", name := "arraycopy", desc := "(Ljava/lang/Object;ILjava/lang/Object;II)V" } : Jvm.MethodName)) ∈ am_T := am_in 498 (by decide +kernel) (by decide +kernel)
theorem tw_500 : (Jvm.Cond.methodLink "HadItFrom$Text" (49 : Nat) ({ cls := "HadItFrom$Text", name := "readWord", desc := "(Ljava/lang/String;)I" } : Jvm.MethodName)) ∈ am_T := am_in 500 (by decide +kernel) (by decide +kernel)
theorem tw_502 : (Jvm.Cond.instanceMethod ({ cls := "HadItFrom$Text", name := "readWord", desc := "(Ljava/lang/String;)I" } : Jvm.MethodName)) ∈ am_T := am_in 502 (by decide +kernel) (by decide +kernel)
set_option maxRecDepth 100000 in
theorem tw_503 : (Jvm.Cond.code ({ cls := "HadItFrom$Text", name := "readWord", desc := "(Ljava/lang/String;)I" } : Jvm.MethodName) prog_10_method_14_code (8 : Nat) (Option.some Jvm.ClassFile.FieldType.int)) ∈ am_T := am_in 503 rfl rfl
theorem tw_504 : (Jvm.Cond.methodLink "HadItFrom$Text" (125 : Nat) ({ cls := "java/lang/String", name := "length", desc := "()I" } : Jvm.MethodName)) ∈ am_T := am_in 504 (by decide +kernel) (by decide +kernel)
theorem tw_505 : (Jvm.Cond.instanceMethod ({ cls := "java/lang/String", name := "length", desc := "()I" } : Jvm.MethodName)) ∈ am_T := am_in 505 (by decide +kernel) (by decide +kernel)
theorem tw_506 : (Jvm.Cond.selects "java/lang/String" ({ cls := "java/lang/String", name := "length", desc := "()I" } : Jvm.MethodName) ({ cls := "java/lang/String", name := "length", desc := "()I" } : Jvm.MethodName)) ∈ am_T := am_in 506 (by decide +kernel) (by decide +kernel)
set_option maxRecDepth 100000 in
theorem tw_507 : (Jvm.Cond.code ({ cls := "java/lang/String", name := "length", desc := "()I" } : Jvm.MethodName) prog_19_method_54_code (1 : Nat) (Option.some Jvm.ClassFile.FieldType.int)) ∈ am_T := am_in 507 rfl rfl
theorem tw_508 : (Jvm.Cond.methodLink "java/lang/String" (335 : Nat) ({ cls := "java/lang/String", name := "coder", desc := "()B" } : Jvm.MethodName)) ∈ am_T := am_in 508 (by decide +kernel) (by decide +kernel)
theorem tw_509 : (Jvm.Cond.instanceMethod ({ cls := "java/lang/String", name := "coder", desc := "()B" } : Jvm.MethodName)) ∈ am_T := am_in 509 (by decide +kernel) (by decide +kernel)
theorem tw_510 : (Jvm.Cond.selects "java/lang/String" ({ cls := "java/lang/String", name := "coder", desc := "()B" } : Jvm.MethodName) ({ cls := "java/lang/String", name := "coder", desc := "()B" } : Jvm.MethodName)) ∈ am_T := am_in 510 (by decide +kernel) (by decide +kernel)
set_option maxRecDepth 100000 in
theorem tw_511 : (Jvm.Cond.code ({ cls := "java/lang/String", name := "coder", desc := "()B" } : Jvm.MethodName) prog_19_method_152_code (1 : Nat) (Option.some Jvm.ClassFile.FieldType.byte)) ∈ am_T := am_in 511 rfl rfl
theorem tw_512 : (Jvm.Cond.fieldLink "java/lang/String" (38 : Nat) "java/lang/String" "COMPACT_STRINGS" "Z") ∈ am_T := am_in 512 (by decide +kernel) (by decide +kernel)
theorem tw_514 : (Jvm.Cond.methodLink "HadItFrom$Text" (130 : Nat) ({ cls := "java/lang/String", name := "charAt", desc := "(I)C" } : Jvm.MethodName)) ∈ am_T := am_in 514 (by decide +kernel) (by decide +kernel)
theorem tw_515 : (Jvm.Cond.instanceMethod ({ cls := "java/lang/String", name := "charAt", desc := "(I)C" } : Jvm.MethodName)) ∈ am_T := am_in 515 (by decide +kernel) (by decide +kernel)
theorem tw_516 : (Jvm.Cond.selects "java/lang/String" ({ cls := "java/lang/String", name := "charAt", desc := "(I)C" } : Jvm.MethodName) ({ cls := "java/lang/String", name := "charAt", desc := "(I)C" } : Jvm.MethodName)) ∈ am_T := am_in 516 (by decide +kernel) (by decide +kernel)
set_option maxRecDepth 100000 in
theorem tw_517 : (Jvm.Cond.code ({ cls := "java/lang/String", name := "charAt", desc := "(I)C" } : Jvm.MethodName) prog_19_method_56_code (2 : Nat) (Option.some Jvm.ClassFile.FieldType.char)) ∈ am_T := am_in 517 rfl rfl
theorem tw_518 : (Jvm.Cond.methodLink "java/lang/String" (492 : Nat) ({ cls := "java/lang/String", name := "isLatin1", desc := "()Z" } : Jvm.MethodName)) ∈ am_T := am_in 518 (by decide +kernel) (by decide +kernel)
theorem tw_519 : (Jvm.Cond.instanceMethod ({ cls := "java/lang/String", name := "isLatin1", desc := "()Z" } : Jvm.MethodName)) ∈ am_T := am_in 519 (by decide +kernel) (by decide +kernel)
theorem tw_520 : (Jvm.Cond.selects "java/lang/String" ({ cls := "java/lang/String", name := "isLatin1", desc := "()Z" } : Jvm.MethodName) ({ cls := "java/lang/String", name := "isLatin1", desc := "()Z" } : Jvm.MethodName)) ∈ am_T := am_in 520 (by decide +kernel) (by decide +kernel)
set_option maxRecDepth 100000 in
theorem tw_521 : (Jvm.Cond.code ({ cls := "java/lang/String", name := "isLatin1", desc := "()Z" } : Jvm.MethodName) prog_19_method_154_code (1 : Nat) (Option.some Jvm.ClassFile.FieldType.boolean)) ∈ am_T := am_in 521 rfl rfl
theorem tw_522 : (Jvm.Cond.methodLink "java/lang/String" (495 : Nat) ({ cls := "java/lang/StringLatin1", name := "charAt", desc := "([BI)C" } : Jvm.MethodName)) ∈ am_T := am_in 522 (by decide +kernel) (by decide +kernel)
theorem tw_523 : (Jvm.Cond.static ({ cls := "java/lang/StringLatin1", name := "charAt", desc := "([BI)C" } : Jvm.MethodName)) ∈ am_T := am_in 523 (by decide +kernel) (by decide +kernel)
set_option maxRecDepth 100000 in
theorem tw_524 : (Jvm.Cond.code ({ cls := "java/lang/StringLatin1", name := "charAt", desc := "([BI)C" } : Jvm.MethodName) prog_20_method_2_code (2 : Nat) (Option.some Jvm.ClassFile.FieldType.char)) ∈ am_T := am_in 524 rfl rfl
theorem tw_525 : (Jvm.Cond.methodLink "java/lang/StringLatin1" (9 : Nat) ({ cls := "java/lang/String", name := "checkIndex", desc := "(II)V" } : Jvm.MethodName)) ∈ am_T := am_in 525 (by decide +kernel) (by decide +kernel)
theorem tw_526 : (Jvm.Cond.static ({ cls := "java/lang/String", name := "checkIndex", desc := "(II)V" } : Jvm.MethodName)) ∈ am_T := am_in 526 (by decide +kernel) (by decide +kernel)
set_option maxRecDepth 100000 in
theorem tw_527 : (Jvm.Cond.code ({ cls := "java/lang/String", name := "checkIndex", desc := "(II)V" } : Jvm.MethodName) prog_19_method_155_code (2 : Nat) (Option.none : Option Jvm.ClassFile.FieldType)) ∈ am_T := am_in 527 rfl rfl
theorem tw_528 : (Jvm.Cond.fieldLink "java/lang/String" (1053 : Nat) "jdk/internal/util/Preconditions" "SIOOBE_FORMATTER" "Ljava/util/function/BiFunction;") ∈ am_T := am_in 528 (by decide +kernel) (by decide +kernel)
theorem tw_530 : (Jvm.Cond.methodLink "java/lang/String" (1059 : Nat) ({ cls := "jdk/internal/util/Preconditions", name := "checkIndex", desc := "(IILjava/util/function/BiFunction;)I" } : Jvm.MethodName)) ∈ am_T := am_in 530 (by decide +kernel) (by decide +kernel)
theorem tw_531 : (Jvm.Cond.static ({ cls := "jdk/internal/util/Preconditions", name := "checkIndex", desc := "(IILjava/util/function/BiFunction;)I" } : Jvm.MethodName)) ∈ am_T := am_in 531 (by decide +kernel) (by decide +kernel)
set_option maxRecDepth 100000 in
theorem tw_532 : (Jvm.Cond.code ({ cls := "jdk/internal/util/Preconditions", name := "checkIndex", desc := "(IILjava/util/function/BiFunction;)I" } : Jvm.MethodName) prog_24_method_11_code (3 : Nat) (Option.some Jvm.ClassFile.FieldType.int)) ∈ am_T := am_in 532 rfl rfl
theorem tw_552 : (Jvm.Cond.methodLink "HadItFrom$Text" (134 : Nat) ({ cls := "java/lang/Math", name := "max", desc := "(II)I" } : Jvm.MethodName)) ∈ am_T := am_in 552 (by decide +kernel) (by decide +kernel)
theorem tw_553 : (Jvm.Cond.static ({ cls := "java/lang/Math", name := "max", desc := "(II)I" } : Jvm.MethodName)) ∈ am_T := am_in 553 (by decide +kernel) (by decide +kernel)
set_option maxRecDepth 100000 in
theorem tw_554 : (Jvm.Cond.code ({ cls := "java/lang/Math", name := "max", desc := "(II)I" } : Jvm.MethodName) prog_18_method_65_code (2 : Nat) (Option.some Jvm.ClassFile.FieldType.int)) ∈ am_T := am_in 554 rfl rfl
theorem tw_555 : (Jvm.Cond.fieldLinkNest "HadItFrom$Text" (53 : Nat) "HadItFrom" "MOST_OF_RULES" "[I" "HadItFrom") ∈ am_T := am_in 555 (by decide +kernel) (by decide +kernel)
theorem tw_557 : (Jvm.Cond.methodLink "HadItFrom$Text" (56 : Nat) ({ cls := "HadItFrom$Text", name := "readNumber", desc := "(I)I" } : Jvm.MethodName)) ∈ am_T := am_in 557 (by decide +kernel) (by decide +kernel)
theorem tw_559 : (Jvm.Cond.instanceMethod ({ cls := "HadItFrom$Text", name := "readNumber", desc := "(I)I" } : Jvm.MethodName)) ∈ am_T := am_in 559 (by decide +kernel) (by decide +kernel)
set_option maxRecDepth 100000 in
theorem tw_560 : (Jvm.Cond.code ({ cls := "HadItFrom$Text", name := "readNumber", desc := "(I)I" } : Jvm.MethodName) prog_10_method_12_code (5 : Nat) (Option.some Jvm.ClassFile.FieldType.int)) ∈ am_T := am_in 560 rfl rfl
theorem tw_561 : (Jvm.Cond.methodLink "HadItFrom$Text" (68 : Nat) ({ cls := "HadItFrom$Text", name := "digitAt", desc := "(I)I" } : Jvm.MethodName)) ∈ am_T := am_in 561 (by decide +kernel) (by decide +kernel)
theorem tw_563 : (Jvm.Cond.instanceMethod ({ cls := "HadItFrom$Text", name := "digitAt", desc := "(I)I" } : Jvm.MethodName)) ∈ am_T := am_in 563 (by decide +kernel) (by decide +kernel)
set_option maxRecDepth 100000 in
theorem tw_564 : (Jvm.Cond.code ({ cls := "HadItFrom$Text", name := "digitAt", desc := "(I)I" } : Jvm.MethodName) prog_10_method_13_code (3 : Nat) (Option.some Jvm.ClassFile.FieldType.int)) ∈ am_T := am_in 564 rfl rfl
theorem tw_565 : (Jvm.Cond.methodLink "HadItFrom$Text" (60 : Nat) ({ cls := "HadItFrom$Text", name := "goesOnAfterPart", desc := "()Z" } : Jvm.MethodName)) ∈ am_T := am_in 565 (by decide +kernel) (by decide +kernel)
theorem tw_567 : (Jvm.Cond.instanceMethod ({ cls := "HadItFrom$Text", name := "goesOnAfterPart", desc := "()Z" } : Jvm.MethodName)) ∈ am_T := am_in 567 (by decide +kernel) (by decide +kernel)
set_option maxRecDepth 100000 in
theorem tw_568 : (Jvm.Cond.code ({ cls := "HadItFrom$Text", name := "goesOnAfterPart", desc := "()Z" } : Jvm.MethodName) prog_10_method_11_code (1 : Nat) (Option.some Jvm.ClassFile.FieldType.boolean)) ∈ am_T := am_in 568 rfl rfl
theorem tw_569 : (Jvm.Cond.methodLink "HadItFrom" (183 : Nat) ({ cls := "HadItFrom$World", name := "addRules", desc := "([I)I" } : Jvm.MethodName)) ∈ am_T := am_in 569 (by decide +kernel) (by decide +kernel)
theorem tw_570 : (Jvm.Cond.instanceMethod ({ cls := "HadItFrom$World", name := "addRules", desc := "([I)I" } : Jvm.MethodName)) ∈ am_T := am_in 570 (by decide +kernel) (by decide +kernel)
theorem tw_571 : (Jvm.Cond.selects "HadItFrom$World" ({ cls := "HadItFrom$World", name := "addRules", desc := "([I)I" } : Jvm.MethodName) ({ cls := "HadItFrom$World", name := "addRules", desc := "([I)I" } : Jvm.MethodName)) ∈ am_T := am_in 571 (by decide +kernel) (by decide +kernel)
set_option maxRecDepth 100000 in
theorem tw_572 : (Jvm.Cond.code ({ cls := "HadItFrom$World", name := "addRules", desc := "([I)I" } : Jvm.MethodName) prog_12_method_8_code (2 : Nat) (Option.some Jvm.ClassFile.FieldType.int)) ∈ am_T := am_in 572 rfl rfl
theorem tw_573 : (Jvm.Cond.methodLink "HadItFrom$World" (59 : Nat) ({ cls := "java/lang/System", name := "arraycopy", desc := "(Ljava/lang/Object;ILjava/lang/Object;II)V" } : Jvm.MethodName)) ∈ am_T := am_in 573 (by decide +kernel) (by decide +kernel)
theorem tw_575 : (Jvm.Cond.methodLink "HadItFromLaw" (82 : Nat) ({ cls := "HadItFrom", name := "fault", desc := "()I" } : Jvm.MethodName)) ∈ am_T := am_in 575 (by decide +kernel) (by decide +kernel)
theorem tw_576 : (Jvm.Cond.instanceMethod ({ cls := "HadItFrom", name := "fault", desc := "()I" } : Jvm.MethodName)) ∈ am_T := am_in 576 (by decide +kernel) (by decide +kernel)
theorem tw_577 : (Jvm.Cond.selects "HadItFrom" ({ cls := "HadItFrom", name := "fault", desc := "()I" } : Jvm.MethodName) ({ cls := "HadItFrom", name := "fault", desc := "()I" } : Jvm.MethodName)) ∈ am_T := am_in 577 (by decide +kernel) (by decide +kernel)
set_option maxRecDepth 100000 in
theorem tw_578 : (Jvm.Cond.code ({ cls := "HadItFrom", name := "fault", desc := "()I" } : Jvm.MethodName) prog_1_method_17_code (1 : Nat) (Option.some Jvm.ClassFile.FieldType.int)) ∈ am_T := am_in 578 rfl rfl
theorem tw_579 : (Jvm.Cond.methodLink "HadItFromLaw" (87 : Nat) ({ cls := "HadItFrom", name := "rule", desc := "(II)I" } : Jvm.MethodName)) ∈ am_T := am_in 579 (by decide +kernel) (by decide +kernel)
theorem tw_580 : (Jvm.Cond.instanceMethod ({ cls := "HadItFrom", name := "rule", desc := "(II)I" } : Jvm.MethodName)) ∈ am_T := am_in 580 (by decide +kernel) (by decide +kernel)
theorem tw_581 : (Jvm.Cond.selects "HadItFrom" ({ cls := "HadItFrom", name := "rule", desc := "(II)I" } : Jvm.MethodName) ({ cls := "HadItFrom", name := "rule", desc := "(II)I" } : Jvm.MethodName)) ∈ am_T := am_in 581 (by decide +kernel) (by decide +kernel)
set_option maxRecDepth 100000 in
theorem tw_582 : (Jvm.Cond.code ({ cls := "HadItFrom", name := "rule", desc := "(II)I" } : Jvm.MethodName) prog_1_method_18_code (3 : Nat) (Option.some Jvm.ClassFile.FieldType.int)) ∈ am_T := am_in 582 rfl rfl
theorem tw_583 : (Jvm.Cond.methodLink "HadItFrom" (187 : Nat) ({ cls := "HadItFrom$World", name := "hasRules", desc := "(I)Z" } : Jvm.MethodName)) ∈ am_T := am_in 583 (by decide +kernel) (by decide +kernel)
theorem tw_584 : (Jvm.Cond.instanceMethod ({ cls := "HadItFrom$World", name := "hasRules", desc := "(I)Z" } : Jvm.MethodName)) ∈ am_T := am_in 584 (by decide +kernel) (by decide +kernel)
theorem tw_585 : (Jvm.Cond.selects "HadItFrom$World" ({ cls := "HadItFrom$World", name := "hasRules", desc := "(I)Z" } : Jvm.MethodName) ({ cls := "HadItFrom$World", name := "hasRules", desc := "(I)Z" } : Jvm.MethodName)) ∈ am_T := am_in 585 (by decide +kernel) (by decide +kernel)
set_option maxRecDepth 100000 in
theorem tw_586 : (Jvm.Cond.code ({ cls := "HadItFrom$World", name := "hasRules", desc := "(I)Z" } : Jvm.MethodName) prog_12_method_4_code (2 : Nat) (Option.some Jvm.ClassFile.FieldType.boolean)) ∈ am_T := am_in 586 rfl rfl
theorem tw_587 : (Jvm.Cond.methodLink "HadItFromLaw" (91 : Nat) ({ cls := "HadItFrom", name := "force", desc := "(I)I" } : Jvm.MethodName)) ∈ am_T := am_in 587 (by decide +kernel) (by decide +kernel)
theorem tw_588 : (Jvm.Cond.instanceMethod ({ cls := "HadItFrom", name := "force", desc := "(I)I" } : Jvm.MethodName)) ∈ am_T := am_in 588 (by decide +kernel) (by decide +kernel)
theorem tw_589 : (Jvm.Cond.selects "HadItFrom" ({ cls := "HadItFrom", name := "force", desc := "(I)I" } : Jvm.MethodName) ({ cls := "HadItFrom", name := "force", desc := "(I)I" } : Jvm.MethodName)) ∈ am_T := am_in 589 (by decide +kernel) (by decide +kernel)
set_option maxRecDepth 100000 in
theorem tw_590 : (Jvm.Cond.code ({ cls := "HadItFrom", name := "force", desc := "(I)I" } : Jvm.MethodName) prog_1_method_19_code (3 : Nat) (Option.some Jvm.ClassFile.FieldType.int)) ∈ am_T := am_in 590 rfl rfl
theorem tw_591 : (Jvm.Cond.methodLink "HadItFrom" (194 : Nat) ({ cls := "HadItFrom", name := "refuseBelowTen", desc := "(I)I" } : Jvm.MethodName)) ∈ am_T := am_in 591 (by decide +kernel) (by decide +kernel)
theorem tw_593 : (Jvm.Cond.instanceMethod ({ cls := "HadItFrom", name := "refuseBelowTen", desc := "(I)I" } : Jvm.MethodName)) ∈ am_T := am_in 593 (by decide +kernel) (by decide +kernel)
set_option maxRecDepth 100000 in
theorem tw_594 : (Jvm.Cond.code ({ cls := "HadItFrom", name := "refuseBelowTen", desc := "(I)I" } : Jvm.MethodName) prog_1_method_50_code (2 : Nat) (Option.some Jvm.ClassFile.FieldType.int)) ∈ am_T := am_in 594 rfl rfl
theorem tw_595 : (Jvm.Cond.methodLink "HadItFromLaw" (95 : Nat) ({ cls := "HadItFrom", name := "book", desc := "(I)I" } : Jvm.MethodName)) ∈ am_T := am_in 595 (by decide +kernel) (by decide +kernel)
theorem tw_596 : (Jvm.Cond.instanceMethod ({ cls := "HadItFrom", name := "book", desc := "(I)I" } : Jvm.MethodName)) ∈ am_T := am_in 596 (by decide +kernel) (by decide +kernel)
theorem tw_597 : (Jvm.Cond.selects "HadItFrom" ({ cls := "HadItFrom", name := "book", desc := "(I)I" } : Jvm.MethodName) ({ cls := "HadItFrom", name := "book", desc := "(I)I" } : Jvm.MethodName)) ∈ am_T := am_in 597 (by decide +kernel) (by decide +kernel)
set_option maxRecDepth 100000 in
theorem tw_598 : (Jvm.Cond.code ({ cls := "HadItFrom", name := "book", desc := "(I)I" } : Jvm.MethodName) prog_1_method_20_code (4 : Nat) (Option.some Jvm.ClassFile.FieldType.int)) ∈ am_T := am_in 598 rfl rfl
theorem tw_599 : (Jvm.Cond.methodLink "HadItFrom" (200 : Nat) ({ cls := "HadItFrom$Text", name := "readBook", desc := "([LHadItFrom$Row;I)I" } : Jvm.MethodName)) ∈ am_T := am_in 599 (by decide +kernel) (by decide +kernel)
theorem tw_600 : (Jvm.Cond.instanceMethod ({ cls := "HadItFrom$Text", name := "readBook", desc := "([LHadItFrom$Row;I)I" } : Jvm.MethodName)) ∈ am_T := am_in 600 (by decide +kernel) (by decide +kernel)
theorem tw_601 : (Jvm.Cond.selects "HadItFrom$Text" ({ cls := "HadItFrom$Text", name := "readBook", desc := "([LHadItFrom$Row;I)I" } : Jvm.MethodName) ({ cls := "HadItFrom$Text", name := "readBook", desc := "([LHadItFrom$Row;I)I" } : Jvm.MethodName)) ∈ am_T := am_in 601 (by decide +kernel) (by decide +kernel)
set_option maxRecDepth 100000 in
theorem tw_602 : (Jvm.Cond.code ({ cls := "HadItFrom$Text", name := "readBook", desc := "([LHadItFrom$Row;I)I" } : Jvm.MethodName) prog_10_method_4_code (5 : Nat) (Option.some Jvm.ClassFile.FieldType.int)) ∈ am_T := am_in 602 rfl rfl
theorem tw_603 : (Jvm.Cond.methodLink "HadItFrom$Text" (64 : Nat) ({ cls := "HadItFrom$Text", name := "readRow", desc := "(II)LHadItFrom$Row;" } : Jvm.MethodName)) ∈ am_T := am_in 603 (by decide +kernel) (by decide +kernel)
theorem tw_605 : (Jvm.Cond.instanceMethod ({ cls := "HadItFrom$Text", name := "readRow", desc := "(II)LHadItFrom$Row;" } : Jvm.MethodName)) ∈ am_T := am_in 605 (by decide +kernel) (by decide +kernel)
set_option maxRecDepth 100000 in
theorem tw_606 : (Jvm.Cond.code ({ cls := "HadItFrom$Text", name := "readRow", desc := "(II)LHadItFrom$Row;" } : Jvm.MethodName) prog_10_method_5_code (8 : Nat) (Option.some (Jvm.ClassFile.FieldType.object "HadItFrom$Row"))) ∈ am_T := am_in 606 rfl rfl
theorem tw_607 : (Jvm.Cond.methodLink "HadItFrom$Text" (71 : Nat) ({ cls := "HadItFrom$Text", name := "readKind", desc := "()I" } : Jvm.MethodName)) ∈ am_T := am_in 607 (by decide +kernel) (by decide +kernel)
theorem tw_609 : (Jvm.Cond.instanceMethod ({ cls := "HadItFrom$Text", name := "readKind", desc := "()I" } : Jvm.MethodName)) ∈ am_T := am_in 609 (by decide +kernel) (by decide +kernel)
set_option maxRecDepth 100000 in
theorem tw_610 : (Jvm.Cond.code ({ cls := "HadItFrom$Text", name := "readKind", desc := "()I" } : Jvm.MethodName) prog_10_method_6_code (2 : Nat) (Option.some Jvm.ClassFile.FieldType.int)) ∈ am_T := am_in 610 rfl rfl
theorem tw_612 : (Jvm.Cond.methodLink "HadItFrom$Text" (75 : Nat) ({ cls := "HadItFrom$Text", name := "readMan", desc := "(II)I" } : Jvm.MethodName)) ∈ am_T := am_in 612 (by decide +kernel) (by decide +kernel)
theorem tw_614 : (Jvm.Cond.instanceMethod ({ cls := "HadItFrom$Text", name := "readMan", desc := "(II)I" } : Jvm.MethodName)) ∈ am_T := am_in 614 (by decide +kernel) (by decide +kernel)
set_option maxRecDepth 100000 in
theorem tw_615 : (Jvm.Cond.code ({ cls := "HadItFrom$Text", name := "readMan", desc := "(II)I" } : Jvm.MethodName) prog_10_method_7_code (5 : Nat) (Option.some Jvm.ClassFile.FieldType.int)) ∈ am_T := am_in 615 rfl rfl
theorem tw_616 : (Jvm.Cond.methodLink "HadItFrom$Text" (78 : Nat) ({ cls := "HadItFrom$Text", name := "readNext", desc := "(I)I" } : Jvm.MethodName)) ∈ am_T := am_in 616 (by decide +kernel) (by decide +kernel)
theorem tw_618 : (Jvm.Cond.instanceMethod ({ cls := "HadItFrom$Text", name := "readNext", desc := "(I)I" } : Jvm.MethodName)) ∈ am_T := am_in 618 (by decide +kernel) (by decide +kernel)
set_option maxRecDepth 100000 in
theorem tw_619 : (Jvm.Cond.code ({ cls := "HadItFrom$Text", name := "readNext", desc := "(I)I" } : Jvm.MethodName) prog_10_method_8_code (2 : Nat) (Option.some Jvm.ClassFile.FieldType.int)) ∈ am_T := am_in 619 rfl rfl
theorem tw_623 : (Jvm.Cond.methodLink "HadItFrom$Text" (81 : Nat) ({ cls := "HadItFrom$Text", name := "readWording", desc := "()I" } : Jvm.MethodName)) ∈ am_T := am_in 623 (by decide +kernel) (by decide +kernel)
theorem tw_625 : (Jvm.Cond.instanceMethod ({ cls := "HadItFrom$Text", name := "readWording", desc := "()I" } : Jvm.MethodName)) ∈ am_T := am_in 625 (by decide +kernel) (by decide +kernel)
set_option maxRecDepth 100000 in
theorem tw_626 : (Jvm.Cond.code ({ cls := "HadItFrom$Text", name := "readWording", desc := "()I" } : Jvm.MethodName) prog_10_method_9_code (2 : Nat) (Option.some Jvm.ClassFile.FieldType.int)) ∈ am_T := am_in 626 rfl rfl
theorem tw_627 : (Jvm.Cond.methodLink "HadItFrom$Text" (84 : Nat) ({ cls := "HadItFrom$Text", name := "newRow", desc := "(IIII)LHadItFrom$Row;" } : Jvm.MethodName)) ∈ am_T := am_in 627 (by decide +kernel) (by decide +kernel)
theorem tw_629 : (Jvm.Cond.instanceMethod ({ cls := "HadItFrom$Text", name := "newRow", desc := "(IIII)LHadItFrom$Row;" } : Jvm.MethodName)) ∈ am_T := am_in 629 (by decide +kernel) (by decide +kernel)
set_option maxRecDepth 100000 in
theorem tw_630 : (Jvm.Cond.code ({ cls := "HadItFrom$Text", name := "newRow", desc := "(IIII)LHadItFrom$Row;" } : Jvm.MethodName) prog_10_method_10_code (7 : Nat) (Option.some (Jvm.ClassFile.FieldType.object "HadItFrom$Row"))) ∈ am_T := am_in 630 rfl rfl
theorem tw_631 : (Jvm.Cond.methodLink "HadItFrom$Text" (96 : Nat) ({ cls := "java/util/Arrays", name := "copyOf", desc := "([II)[I" } : Jvm.MethodName)) ∈ am_T := am_in 631 (by decide +kernel) (by decide +kernel)
theorem tw_632 : (Jvm.Cond.static ({ cls := "java/util/Arrays", name := "copyOf", desc := "([II)[I" } : Jvm.MethodName)) ∈ am_T := am_in 632 (by decide +kernel) (by decide +kernel)
set_option maxRecDepth 100000 in
theorem tw_633 : (Jvm.Cond.code ({ cls := "java/util/Arrays", name := "copyOf", desc := "([II)[I" } : Jvm.MethodName) prog_23_method_123_code (3 : Nat) (Option.some (Jvm.ClassFile.FieldType.array Jvm.ClassFile.FieldType.int))) ∈ am_T := am_in 633 rfl rfl
theorem tw_634 : (Jvm.Cond.methodLink "java/util/Arrays" (316 : Nat) ({ cls := "[I", name := "clone", desc := "()Ljava/lang/Object;" } : Jvm.MethodName)) ∈ am_T := am_in 634 (by decide +kernel) (by decide +kernel)
theorem tw_635 : (Jvm.Cond.sameMethod "[I" "java/lang/Object" "clone" "()Ljava/lang/Object;") ∈ am_T := am_in 635 (by decide +kernel) (by decide +kernel)
theorem tw_636 : (Jvm.Cond.native ({ cls := "java/lang/Object", name := "clone", desc := "()Ljava/lang/Object;" } : Jvm.MethodName)) ∈ am_T := am_in 636 (by decide +kernel) (by decide +kernel)
theorem tw_637 : (Jvm.Cond.instanceMethod ({ cls := "java/lang/Object", name := "clone", desc := "()Ljava/lang/Object;" } : Jvm.MethodName)) ∈ am_T := am_in 637 (by decide +kernel) (by decide +kernel)
theorem tw_638 : (Jvm.Cond.selects "[I" ({ cls := "[I", name := "clone", desc := "()Ljava/lang/Object;" } : Jvm.MethodName) ({ cls := "java/lang/Object", name := "clone", desc := "()Ljava/lang/Object;" } : Jvm.MethodName)) ∈ am_T := am_in 638 (by decide +kernel) (by decide +kernel)
theorem tw_639 : (Jvm.Cond.castable "[I" "java/lang/Cloneable") ∈ am_T := am_in 639 (by decide +kernel) (by decide +kernel)
theorem tw_640 : (Jvm.Cond.classLink "java/util/Arrays" (317 : Nat) "[I") ∈ am_T := am_in 640 (by decide +kernel) (by decide +kernel)
theorem tw_641 : (Jvm.Cond.methodLink "java/util/Arrays" (304 : Nat) ({ cls := "java/lang/Math", name := "min", desc := "(II)I" } : Jvm.MethodName)) ∈ am_T := am_in 641 (by decide +kernel) (by decide +kernel)
theorem tw_642 : (Jvm.Cond.methodLink "java/util/Arrays" (150 : Nat) ({ cls := "java/lang/System", name := "arraycopy", desc := "(Ljava/lang/Object;ILjava/lang/Object;II)V" } : Jvm.MethodName)) ∈ am_T := am_in 642 (by decide +kernel) (by decide +kernel)
theorem tw_643 : (Jvm.Cond.classLink "HadItFrom$Text" (102 : Nat) "HadItFrom$Whole") ∈ am_T := am_in 643 (by decide +kernel) (by decide +kernel)
theorem tw_644 : (Jvm.Cond.instantiable "HadItFrom$Whole" (5 : Nat)) ∈ am_T := am_in 644 (by decide +kernel) (by decide +kernel)
theorem tw_645 : (Jvm.Cond.methodLink "HadItFrom$Text" (104 : Nat) ({ cls := "HadItFrom$Whole", name := "<init>", desc := "(II[I[I)V" } : Jvm.MethodName)) ∈ am_T := am_in 645 (by decide +kernel) (by decide +kernel)
theorem tw_646 : (Jvm.Cond.instanceMethod ({ cls := "HadItFrom$Whole", name := "<init>", desc := "(II[I[I)V" } : Jvm.MethodName)) ∈ am_T := am_in 646 (by decide +kernel) (by decide +kernel)
set_option maxRecDepth 100000 in
theorem tw_647 : (Jvm.Cond.code ({ cls := "HadItFrom$Whole", name := "<init>", desc := "(II[I[I)V" } : Jvm.MethodName) prog_11_method_1_code (5 : Nat) (Option.none : Option Jvm.ClassFile.FieldType)) ∈ am_T := am_in 647 rfl rfl
theorem tw_648 : (Jvm.Cond.methodLink "HadItFrom$Whole" (3 : Nat) ({ cls := "HadItFrom$Row", name := "<init>", desc := "(II[I[I)V" } : Jvm.MethodName)) ∈ am_T := am_in 648 (by decide +kernel) (by decide +kernel)
theorem tw_649 : (Jvm.Cond.instanceMethod ({ cls := "HadItFrom$Row", name := "<init>", desc := "(II[I[I)V" } : Jvm.MethodName)) ∈ am_T := am_in 649 (by decide +kernel) (by decide +kernel)
set_option maxRecDepth 100000 in
theorem tw_650 : (Jvm.Cond.code ({ cls := "HadItFrom$Row", name := "<init>", desc := "(II[I[I)V" } : Jvm.MethodName) prog_9_method_1_code (5 : Nat) (Option.none : Option Jvm.ClassFile.FieldType)) ∈ am_T := am_in 650 rfl rfl
theorem tw_651 : (Jvm.Cond.methodLink "HadItFrom$Row" (3 : Nat) ({ cls := "java/lang/Object", name := "<init>", desc := "()V" } : Jvm.MethodName)) ∈ am_T := am_in 651 (by decide +kernel) (by decide +kernel)
theorem tw_652 : (Jvm.Cond.fieldLink "HadItFrom$Row" (9 : Nat) "HadItFrom$Row" "number" "I") ∈ am_T := am_in 652 (by decide +kernel) (by decide +kernel)
theorem tw_653 : (Jvm.Cond.fieldLink "HadItFrom$Hidden" (26 : Nat) "HadItFrom$Hidden" "number" "I") ∈ am_T := am_in 653 (by decide +kernel) (by decide +kernel)
theorem tw_654 : (Jvm.Cond.sameField "HadItFrom$Hidden" "HadItFrom$Row" "number" "I") ∈ am_T := am_in 654 (by decide +kernel) (by decide +kernel)
theorem tw_655 : (Jvm.Cond.fieldLink "HadItFrom$Row" (15 : Nat) "HadItFrom$Row" "count" "I") ∈ am_T := am_in 655 (by decide +kernel) (by decide +kernel)
theorem tw_656 : (Jvm.Cond.fieldLink "HadItFrom$Net" (54 : Nat) "HadItFrom$Row" "count" "I") ∈ am_T := am_in 656 (by decide +kernel) (by decide +kernel)
theorem tw_657 : (Jvm.Cond.fieldLink "HadItFrom$Whole" (23 : Nat) "HadItFrom$Whole" "count" "I") ∈ am_T := am_in 657 (by decide +kernel) (by decide +kernel)
theorem tw_658 : (Jvm.Cond.sameField "HadItFrom$Whole" "HadItFrom$Row" "count" "I") ∈ am_T := am_in 658 (by decide +kernel) (by decide +kernel)
theorem tw_659 : (Jvm.Cond.fieldLink "HadItFrom$Made" (25 : Nat) "HadItFrom$Made" "count" "I") ∈ am_T := am_in 659 (by decide +kernel) (by decide +kernel)
theorem tw_660 : (Jvm.Cond.sameField "HadItFrom$Made" "HadItFrom$Row" "count" "I") ∈ am_T := am_in 660 (by decide +kernel) (by decide +kernel)
theorem tw_661 : (Jvm.Cond.fieldLink "HadItFrom$World" (105 : Nat) "HadItFrom$Row" "count" "I") ∈ am_T := am_in 661 (by decide +kernel) (by decide +kernel)
theorem tw_662 : (Jvm.Cond.fieldLink "HadItFrom" (220 : Nat) "HadItFrom$Row" "count" "I") ∈ am_T := am_in 662 (by decide +kernel) (by decide +kernel)
theorem tw_663 : (Jvm.Cond.fieldLink "HadItFrom$Row" (18 : Nat) "HadItFrom$Row" "wording" "I") ∈ am_T := am_in 663 (by decide +kernel) (by decide +kernel)
theorem tw_664 : (Jvm.Cond.fieldLink "HadItFrom$World" (157 : Nat) "HadItFrom$Row" "wording" "I") ∈ am_T := am_in 664 (by decide +kernel) (by decide +kernel)
theorem tw_665 : (Jvm.Cond.fieldLink "HadItFrom" (223 : Nat) "HadItFrom$Row" "wording" "I") ∈ am_T := am_in 665 (by decide +kernel) (by decide +kernel)
theorem tw_666 : (Jvm.Cond.fieldLink "HadItFrom$Row" (21 : Nat) "HadItFrom$Row" "who" "[I") ∈ am_T := am_in 666 (by decide +kernel) (by decide +kernel)
theorem tw_667 : (Jvm.Cond.fieldLink "HadItFrom$Net" (51 : Nat) "HadItFrom$Row" "who" "[I") ∈ am_T := am_in 667 (by decide +kernel) (by decide +kernel)
theorem tw_668 : (Jvm.Cond.fieldLink "HadItFrom$World" (108 : Nat) "HadItFrom$Row" "who" "[I") ∈ am_T := am_in 668 (by decide +kernel) (by decide +kernel)
theorem tw_669 : (Jvm.Cond.fieldLink "HadItFrom" (226 : Nat) "HadItFrom$Row" "who" "[I") ∈ am_T := am_in 669 (by decide +kernel) (by decide +kernel)
theorem tw_670 : (Jvm.Cond.fieldLink "HadItFrom$Row" (25 : Nat) "HadItFrom$Row" "links" "[I") ∈ am_T := am_in 670 (by decide +kernel) (by decide +kernel)
theorem tw_671 : (Jvm.Cond.fieldLink "HadItFrom$World" (111 : Nat) "HadItFrom$Row" "links" "[I") ∈ am_T := am_in 671 (by decide +kernel) (by decide +kernel)
theorem tw_672 : (Jvm.Cond.fieldLink "HadItFrom" (229 : Nat) "HadItFrom$Row" "links" "[I") ∈ am_T := am_in 672 (by decide +kernel) (by decide +kernel)
theorem tw_683 : (Jvm.Cond.superclass "HadItFrom$Whole" "HadItFrom$Row") ∈ am_T := am_in 683 (by decide +kernel) (by decide +kernel)
theorem tw_684 : (Jvm.Cond.classLink "HadItFrom$Text" (107 : Nat) "HadItFrom$Gap") ∈ am_T := am_in 684 (by decide +kernel) (by decide +kernel)
theorem tw_685 : (Jvm.Cond.instantiable "HadItFrom$Gap" (5 : Nat)) ∈ am_T := am_in 685 (by decide +kernel) (by decide +kernel)
theorem tw_686 : (Jvm.Cond.methodLink "HadItFrom$Text" (109 : Nat) ({ cls := "HadItFrom$Gap", name := "<init>", desc := "(II[I[I)V" } : Jvm.MethodName)) ∈ am_T := am_in 686 (by decide +kernel) (by decide +kernel)
theorem tw_687 : (Jvm.Cond.instanceMethod ({ cls := "HadItFrom$Gap", name := "<init>", desc := "(II[I[I)V" } : Jvm.MethodName)) ∈ am_T := am_in 687 (by decide +kernel) (by decide +kernel)
set_option maxRecDepth 100000 in
theorem tw_688 : (Jvm.Cond.code ({ cls := "HadItFrom$Gap", name := "<init>", desc := "(II[I[I)V" } : Jvm.MethodName) prog_2_method_1_code (5 : Nat) (Option.none : Option Jvm.ClassFile.FieldType)) ∈ am_T := am_in 688 rfl rfl
theorem tw_689 : (Jvm.Cond.methodLink "HadItFrom$Gap" (3 : Nat) ({ cls := "HadItFrom$Row", name := "<init>", desc := "(II[I[I)V" } : Jvm.MethodName)) ∈ am_T := am_in 689 (by decide +kernel) (by decide +kernel)
theorem tw_695 : (Jvm.Cond.superclass "HadItFrom$Gap" "HadItFrom$Row") ∈ am_T := am_in 695 (by decide +kernel) (by decide +kernel)
theorem tw_696 : (Jvm.Cond.classLink "HadItFrom$Text" (110 : Nat) "HadItFrom$Hidden") ∈ am_T := am_in 696 (by decide +kernel) (by decide +kernel)
theorem tw_697 : (Jvm.Cond.instantiable "HadItFrom$Hidden" (5 : Nat)) ∈ am_T := am_in 697 (by decide +kernel) (by decide +kernel)
theorem tw_698 : (Jvm.Cond.methodLink "HadItFrom$Text" (112 : Nat) ({ cls := "HadItFrom$Hidden", name := "<init>", desc := "(II[I[I)V" } : Jvm.MethodName)) ∈ am_T := am_in 698 (by decide +kernel) (by decide +kernel)
theorem tw_699 : (Jvm.Cond.instanceMethod ({ cls := "HadItFrom$Hidden", name := "<init>", desc := "(II[I[I)V" } : Jvm.MethodName)) ∈ am_T := am_in 699 (by decide +kernel) (by decide +kernel)
set_option maxRecDepth 100000 in
theorem tw_700 : (Jvm.Cond.code ({ cls := "HadItFrom$Hidden", name := "<init>", desc := "(II[I[I)V" } : Jvm.MethodName) prog_3_method_1_code (5 : Nat) (Option.none : Option Jvm.ClassFile.FieldType)) ∈ am_T := am_in 700 rfl rfl
theorem tw_701 : (Jvm.Cond.methodLink "HadItFrom$Hidden" (3 : Nat) ({ cls := "HadItFrom$Gap", name := "<init>", desc := "(II[I[I)V" } : Jvm.MethodName)) ∈ am_T := am_in 701 (by decide +kernel) (by decide +kernel)
theorem tw_707 : (Jvm.Cond.superclass "HadItFrom$Hidden" "HadItFrom$Gap") ∈ am_T := am_in 707 (by decide +kernel) (by decide +kernel)
theorem tw_708 : (Jvm.Cond.classLink "HadItFrom$Text" (113 : Nat) "HadItFrom$Hung") ∈ am_T := am_in 708 (by decide +kernel) (by decide +kernel)
theorem tw_709 : (Jvm.Cond.instantiable "HadItFrom$Hung" (5 : Nat)) ∈ am_T := am_in 709 (by decide +kernel) (by decide +kernel)
theorem tw_710 : (Jvm.Cond.methodLink "HadItFrom$Text" (115 : Nat) ({ cls := "HadItFrom$Hung", name := "<init>", desc := "(II[I[I)V" } : Jvm.MethodName)) ∈ am_T := am_in 710 (by decide +kernel) (by decide +kernel)
theorem tw_711 : (Jvm.Cond.instanceMethod ({ cls := "HadItFrom$Hung", name := "<init>", desc := "(II[I[I)V" } : Jvm.MethodName)) ∈ am_T := am_in 711 (by decide +kernel) (by decide +kernel)
set_option maxRecDepth 100000 in
theorem tw_712 : (Jvm.Cond.code ({ cls := "HadItFrom$Hung", name := "<init>", desc := "(II[I[I)V" } : Jvm.MethodName) prog_4_method_1_code (5 : Nat) (Option.none : Option Jvm.ClassFile.FieldType)) ∈ am_T := am_in 712 rfl rfl
theorem tw_713 : (Jvm.Cond.methodLink "HadItFrom$Hung" (3 : Nat) ({ cls := "HadItFrom$Row", name := "<init>", desc := "(II[I[I)V" } : Jvm.MethodName)) ∈ am_T := am_in 713 (by decide +kernel) (by decide +kernel)
theorem tw_719 : (Jvm.Cond.superclass "HadItFrom$Hung" "HadItFrom$Row") ∈ am_T := am_in 719 (by decide +kernel) (by decide +kernel)
theorem tw_720 : (Jvm.Cond.classLink "HadItFrom$Text" (116 : Nat) "HadItFrom$Raised") ∈ am_T := am_in 720 (by decide +kernel) (by decide +kernel)
theorem tw_721 : (Jvm.Cond.instantiable "HadItFrom$Raised" (5 : Nat)) ∈ am_T := am_in 721 (by decide +kernel) (by decide +kernel)
theorem tw_722 : (Jvm.Cond.methodLink "HadItFrom$Text" (118 : Nat) ({ cls := "HadItFrom$Raised", name := "<init>", desc := "(II[I[I)V" } : Jvm.MethodName)) ∈ am_T := am_in 722 (by decide +kernel) (by decide +kernel)
theorem tw_723 : (Jvm.Cond.instanceMethod ({ cls := "HadItFrom$Raised", name := "<init>", desc := "(II[I[I)V" } : Jvm.MethodName)) ∈ am_T := am_in 723 (by decide +kernel) (by decide +kernel)
set_option maxRecDepth 100000 in
theorem tw_724 : (Jvm.Cond.code ({ cls := "HadItFrom$Raised", name := "<init>", desc := "(II[I[I)V" } : Jvm.MethodName) prog_8_method_1_code (5 : Nat) (Option.none : Option Jvm.ClassFile.FieldType)) ∈ am_T := am_in 724 rfl rfl
theorem tw_725 : (Jvm.Cond.methodLink "HadItFrom$Raised" (3 : Nat) ({ cls := "HadItFrom$Row", name := "<init>", desc := "(II[I[I)V" } : Jvm.MethodName)) ∈ am_T := am_in 725 (by decide +kernel) (by decide +kernel)
theorem tw_731 : (Jvm.Cond.superclass "HadItFrom$Raised" "HadItFrom$Row") ∈ am_T := am_in 731 (by decide +kernel) (by decide +kernel)
theorem tw_732 : (Jvm.Cond.classLink "HadItFrom$Text" (119 : Nat) "HadItFrom$Made") ∈ am_T := am_in 732 (by decide +kernel) (by decide +kernel)
theorem tw_733 : (Jvm.Cond.instantiable "HadItFrom$Made" (5 : Nat)) ∈ am_T := am_in 733 (by decide +kernel) (by decide +kernel)
theorem tw_734 : (Jvm.Cond.methodLink "HadItFrom$Text" (121 : Nat) ({ cls := "HadItFrom$Made", name := "<init>", desc := "(II[I[I)V" } : Jvm.MethodName)) ∈ am_T := am_in 734 (by decide +kernel) (by decide +kernel)
theorem tw_735 : (Jvm.Cond.instanceMethod ({ cls := "HadItFrom$Made", name := "<init>", desc := "(II[I[I)V" } : Jvm.MethodName)) ∈ am_T := am_in 735 (by decide +kernel) (by decide +kernel)
set_option maxRecDepth 100000 in
theorem tw_736 : (Jvm.Cond.code ({ cls := "HadItFrom$Made", name := "<init>", desc := "(II[I[I)V" } : Jvm.MethodName) prog_5_method_1_code (5 : Nat) (Option.none : Option Jvm.ClassFile.FieldType)) ∈ am_T := am_in 736 rfl rfl
theorem tw_737 : (Jvm.Cond.methodLink "HadItFrom$Made" (3 : Nat) ({ cls := "HadItFrom$Raised", name := "<init>", desc := "(II[I[I)V" } : Jvm.MethodName)) ∈ am_T := am_in 737 (by decide +kernel) (by decide +kernel)
theorem tw_743 : (Jvm.Cond.superclass "HadItFrom$Made" "HadItFrom$Raised") ∈ am_T := am_in 743 (by decide +kernel) (by decide +kernel)
theorem tw_744 : (Jvm.Cond.classLink "HadItFrom$Text" (122 : Nat) "HadItFrom$Row") ∈ am_T := am_in 744 (by decide +kernel) (by decide +kernel)
theorem tw_745 : (Jvm.Cond.instantiable "HadItFrom$Row" (5 : Nat)) ∈ am_T := am_in 745 (by decide +kernel) (by decide +kernel)
theorem tw_746 : (Jvm.Cond.methodLink "HadItFrom$Text" (124 : Nat) ({ cls := "HadItFrom$Row", name := "<init>", desc := "(II[I[I)V" } : Jvm.MethodName)) ∈ am_T := am_in 746 (by decide +kernel) (by decide +kernel)
theorem tw_753 : (Jvm.Cond.methodLink "HadItFrom" (207 : Nat) ({ cls := "HadItFrom$World", name := "addSaying", desc := "([LHadItFrom$Row;I)I" } : Jvm.MethodName)) ∈ am_T := am_in 753 (by decide +kernel) (by decide +kernel)
theorem tw_754 : (Jvm.Cond.instanceMethod ({ cls := "HadItFrom$World", name := "addSaying", desc := "([LHadItFrom$Row;I)I" } : Jvm.MethodName)) ∈ am_T := am_in 754 (by decide +kernel) (by decide +kernel)
theorem tw_755 : (Jvm.Cond.selects "HadItFrom$World" ({ cls := "HadItFrom$World", name := "addSaying", desc := "([LHadItFrom$Row;I)I" } : Jvm.MethodName) ({ cls := "HadItFrom$World", name := "addSaying", desc := "([LHadItFrom$Row;I)I" } : Jvm.MethodName)) ∈ am_T := am_in 755 (by decide +kernel) (by decide +kernel)
set_option maxRecDepth 100000 in
theorem tw_756 : (Jvm.Cond.code ({ cls := "HadItFrom$World", name := "addSaying", desc := "([LHadItFrom$Row;I)I" } : Jvm.MethodName) prog_12_method_9_code (4 : Nat) (Option.some Jvm.ClassFile.FieldType.int)) ∈ am_T := am_in 756 rfl rfl
theorem tw_757 : (Jvm.Cond.methodLink "HadItFromLaw" (99 : Nat) ({ cls := "HadItFrom", name := "rows", desc := "(I)I" } : Jvm.MethodName)) ∈ am_T := am_in 757 (by decide +kernel) (by decide +kernel)
theorem tw_758 : (Jvm.Cond.instanceMethod ({ cls := "HadItFrom", name := "rows", desc := "(I)I" } : Jvm.MethodName)) ∈ am_T := am_in 758 (by decide +kernel) (by decide +kernel)
theorem tw_759 : (Jvm.Cond.selects "HadItFrom" ({ cls := "HadItFrom", name := "rows", desc := "(I)I" } : Jvm.MethodName) ({ cls := "HadItFrom", name := "rows", desc := "(I)I" } : Jvm.MethodName)) ∈ am_T := am_in 759 (by decide +kernel) (by decide +kernel)
set_option maxRecDepth 100000 in
theorem tw_760 : (Jvm.Cond.code ({ cls := "HadItFrom", name := "rows", desc := "(I)I" } : Jvm.MethodName) prog_1_method_21_code (2 : Nat) (Option.some Jvm.ClassFile.FieldType.int)) ∈ am_T := am_in 760 rfl rfl
theorem tw_761 : (Jvm.Cond.methodLink "HadItFrom" (210 : Nat) ({ cls := "HadItFrom$World", name := "hasSaying", desc := "(I)Z" } : Jvm.MethodName)) ∈ am_T := am_in 761 (by decide +kernel) (by decide +kernel)
theorem tw_762 : (Jvm.Cond.methodLink "HadItFromLaw" (103 : Nat) ({ cls := "HadItFrom", name := "rowOf", desc := "(III)I" } : Jvm.MethodName)) ∈ am_T := am_in 762 (by decide +kernel) (by decide +kernel)
theorem tw_763 : (Jvm.Cond.instanceMethod ({ cls := "HadItFrom", name := "rowOf", desc := "(III)I" } : Jvm.MethodName)) ∈ am_T := am_in 763 (by decide +kernel) (by decide +kernel)
theorem tw_764 : (Jvm.Cond.selects "HadItFrom" ({ cls := "HadItFrom", name := "rowOf", desc := "(III)I" } : Jvm.MethodName) ({ cls := "HadItFrom", name := "rowOf", desc := "(III)I" } : Jvm.MethodName)) ∈ am_T := am_in 764 (by decide +kernel) (by decide +kernel)
set_option maxRecDepth 100000 in
theorem tw_765 : (Jvm.Cond.code ({ cls := "HadItFrom", name := "rowOf", desc := "(III)I" } : Jvm.MethodName) prog_1_method_22_code (5 : Nat) (Option.some Jvm.ClassFile.FieldType.int)) ∈ am_T := am_in 765 rfl rfl
theorem tw_766 : (Jvm.Cond.methodLink "HadItFrom" (216 : Nat) ({ cls := "HadItFrom$Row", name := "kindNumber", desc := "()I" } : Jvm.MethodName)) ∈ am_T := am_in 766 (by decide +kernel) (by decide +kernel)
theorem tw_767 : (Jvm.Cond.instanceMethod ({ cls := "HadItFrom$Row", name := "kindNumber", desc := "()I" } : Jvm.MethodName)) ∈ am_T := am_in 767 (by decide +kernel) (by decide +kernel)
theorem tw_768 : (Jvm.Cond.selects "HadItFrom$Row" ({ cls := "HadItFrom$Row", name := "kindNumber", desc := "()I" } : Jvm.MethodName) ({ cls := "HadItFrom$Row", name := "kindNumber", desc := "()I" } : Jvm.MethodName)) ∈ am_T := am_in 768 (by decide +kernel) (by decide +kernel)
theorem tw_769 : (Jvm.Cond.sameMethod "HadItFrom$Row" "HadItFrom$Row" "kindNumber" "()I") ∈ am_T := am_in 769 (by decide +kernel) (by decide +kernel)
theorem tw_770 : (Jvm.Cond.selects "HadItFrom$Gap" ({ cls := "HadItFrom$Row", name := "kindNumber", desc := "()I" } : Jvm.MethodName) ({ cls := "HadItFrom$Gap", name := "kindNumber", desc := "()I" } : Jvm.MethodName)) ∈ am_T := am_in 770 (by decide +kernel) (by decide +kernel)
theorem tw_771 : (Jvm.Cond.instanceMethod ({ cls := "HadItFrom$Gap", name := "kindNumber", desc := "()I" } : Jvm.MethodName)) ∈ am_T := am_in 771 (by decide +kernel) (by decide +kernel)
set_option maxRecDepth 100000 in
theorem tw_772 : (Jvm.Cond.code ({ cls := "HadItFrom$Gap", name := "kindNumber", desc := "()I" } : Jvm.MethodName) prog_2_method_2_code (1 : Nat) (Option.some Jvm.ClassFile.FieldType.int)) ∈ am_T := am_in 772 rfl rfl
theorem tw_773 : (Jvm.Cond.selects "HadItFrom$Hidden" ({ cls := "HadItFrom$Row", name := "kindNumber", desc := "()I" } : Jvm.MethodName) ({ cls := "HadItFrom$Hidden", name := "kindNumber", desc := "()I" } : Jvm.MethodName)) ∈ am_T := am_in 773 (by decide +kernel) (by decide +kernel)
theorem tw_774 : (Jvm.Cond.instanceMethod ({ cls := "HadItFrom$Hidden", name := "kindNumber", desc := "()I" } : Jvm.MethodName)) ∈ am_T := am_in 774 (by decide +kernel) (by decide +kernel)
set_option maxRecDepth 100000 in
theorem tw_775 : (Jvm.Cond.code ({ cls := "HadItFrom$Hidden", name := "kindNumber", desc := "()I" } : Jvm.MethodName) prog_3_method_2_code (1 : Nat) (Option.some Jvm.ClassFile.FieldType.int)) ∈ am_T := am_in 775 rfl rfl
theorem tw_776 : (Jvm.Cond.selects "HadItFrom$Hung" ({ cls := "HadItFrom$Row", name := "kindNumber", desc := "()I" } : Jvm.MethodName) ({ cls := "HadItFrom$Hung", name := "kindNumber", desc := "()I" } : Jvm.MethodName)) ∈ am_T := am_in 776 (by decide +kernel) (by decide +kernel)
theorem tw_777 : (Jvm.Cond.instanceMethod ({ cls := "HadItFrom$Hung", name := "kindNumber", desc := "()I" } : Jvm.MethodName)) ∈ am_T := am_in 777 (by decide +kernel) (by decide +kernel)
set_option maxRecDepth 100000 in
theorem tw_778 : (Jvm.Cond.code ({ cls := "HadItFrom$Hung", name := "kindNumber", desc := "()I" } : Jvm.MethodName) prog_4_method_2_code (1 : Nat) (Option.some Jvm.ClassFile.FieldType.int)) ∈ am_T := am_in 778 rfl rfl
theorem tw_779 : (Jvm.Cond.selects "HadItFrom$Made" ({ cls := "HadItFrom$Row", name := "kindNumber", desc := "()I" } : Jvm.MethodName) ({ cls := "HadItFrom$Made", name := "kindNumber", desc := "()I" } : Jvm.MethodName)) ∈ am_T := am_in 779 (by decide +kernel) (by decide +kernel)
theorem tw_780 : (Jvm.Cond.instanceMethod ({ cls := "HadItFrom$Made", name := "kindNumber", desc := "()I" } : Jvm.MethodName)) ∈ am_T := am_in 780 (by decide +kernel) (by decide +kernel)
set_option maxRecDepth 100000 in
theorem tw_781 : (Jvm.Cond.code ({ cls := "HadItFrom$Made", name := "kindNumber", desc := "()I" } : Jvm.MethodName) prog_5_method_2_code (1 : Nat) (Option.some Jvm.ClassFile.FieldType.int)) ∈ am_T := am_in 781 rfl rfl
theorem tw_782 : (Jvm.Cond.selects "HadItFrom$Raised" ({ cls := "HadItFrom$Row", name := "kindNumber", desc := "()I" } : Jvm.MethodName) ({ cls := "HadItFrom$Raised", name := "kindNumber", desc := "()I" } : Jvm.MethodName)) ∈ am_T := am_in 782 (by decide +kernel) (by decide +kernel)
theorem tw_783 : (Jvm.Cond.instanceMethod ({ cls := "HadItFrom$Raised", name := "kindNumber", desc := "()I" } : Jvm.MethodName)) ∈ am_T := am_in 783 (by decide +kernel) (by decide +kernel)
set_option maxRecDepth 100000 in
theorem tw_784 : (Jvm.Cond.code ({ cls := "HadItFrom$Raised", name := "kindNumber", desc := "()I" } : Jvm.MethodName) prog_8_method_2_code (1 : Nat) (Option.some Jvm.ClassFile.FieldType.int)) ∈ am_T := am_in 784 rfl rfl
theorem tw_785 : (Jvm.Cond.selects "HadItFrom$Whole" ({ cls := "HadItFrom$Row", name := "kindNumber", desc := "()I" } : Jvm.MethodName) ({ cls := "HadItFrom$Whole", name := "kindNumber", desc := "()I" } : Jvm.MethodName)) ∈ am_T := am_in 785 (by decide +kernel) (by decide +kernel)
theorem tw_786 : (Jvm.Cond.instanceMethod ({ cls := "HadItFrom$Whole", name := "kindNumber", desc := "()I" } : Jvm.MethodName)) ∈ am_T := am_in 786 (by decide +kernel) (by decide +kernel)
set_option maxRecDepth 100000 in
theorem tw_787 : (Jvm.Cond.code ({ cls := "HadItFrom$Whole", name := "kindNumber", desc := "()I" } : Jvm.MethodName) prog_11_method_2_code (1 : Nat) (Option.some Jvm.ClassFile.FieldType.int)) ∈ am_T := am_in 787 rfl rfl
set_option maxRecDepth 100000 in
theorem tw_788 : (Jvm.Cond.code ({ cls := "HadItFrom$Row", name := "kindNumber", desc := "()I" } : Jvm.MethodName) prog_9_method_2_code (1 : Nat) (Option.some Jvm.ClassFile.FieldType.int)) ∈ am_T := am_in 788 rfl rfl
theorem tw_789 : (Jvm.Cond.methodLink "HadItFromLaw" (107 : Nat) ({ cls := "HadItFrom", name := "could", desc := "(II)I" } : Jvm.MethodName)) ∈ am_T := am_in 789 (by decide +kernel) (by decide +kernel)
theorem tw_790 : (Jvm.Cond.instanceMethod ({ cls := "HadItFrom", name := "could", desc := "(II)I" } : Jvm.MethodName)) ∈ am_T := am_in 790 (by decide +kernel) (by decide +kernel)
theorem tw_791 : (Jvm.Cond.selects "HadItFrom" ({ cls := "HadItFrom", name := "could", desc := "(II)I" } : Jvm.MethodName) ({ cls := "HadItFrom", name := "could", desc := "(II)I" } : Jvm.MethodName)) ∈ am_T := am_in 791 (by decide +kernel) (by decide +kernel)
set_option maxRecDepth 100000 in
theorem tw_792 : (Jvm.Cond.code ({ cls := "HadItFrom", name := "could", desc := "(II)I" } : Jvm.MethodName) prog_1_method_23_code (4 : Nat) (Option.some Jvm.ClassFile.FieldType.int)) ∈ am_T := am_in 792 rfl rfl
theorem tw_793 : (Jvm.Cond.methodLink "HadItFrom" (232 : Nat) ({ cls := "HadItFrom", name := "refusalOfTwoMen", desc := "(II)I" } : Jvm.MethodName)) ∈ am_T := am_in 793 (by decide +kernel) (by decide +kernel)
theorem tw_795 : (Jvm.Cond.instanceMethod ({ cls := "HadItFrom", name := "refusalOfTwoMen", desc := "(II)I" } : Jvm.MethodName)) ∈ am_T := am_in 795 (by decide +kernel) (by decide +kernel)
set_option maxRecDepth 100000 in
theorem tw_796 : (Jvm.Cond.code ({ cls := "HadItFrom", name := "refusalOfTwoMen", desc := "(II)I" } : Jvm.MethodName) prog_1_method_53_code (3 : Nat) (Option.some Jvm.ClassFile.FieldType.int)) ∈ am_T := am_in 796 rfl rfl
theorem tw_797 : (Jvm.Cond.methodLink "HadItFrom" (235 : Nat) ({ cls := "HadItFrom$World", name := "hears", desc := "(II)Z" } : Jvm.MethodName)) ∈ am_T := am_in 797 (by decide +kernel) (by decide +kernel)
theorem tw_798 : (Jvm.Cond.instanceMethod ({ cls := "HadItFrom$World", name := "hears", desc := "(II)Z" } : Jvm.MethodName)) ∈ am_T := am_in 798 (by decide +kernel) (by decide +kernel)
theorem tw_799 : (Jvm.Cond.selects "HadItFrom$World" ({ cls := "HadItFrom$World", name := "hears", desc := "(II)Z" } : Jvm.MethodName) ({ cls := "HadItFrom$World", name := "hears", desc := "(II)Z" } : Jvm.MethodName)) ∈ am_T := am_in 799 (by decide +kernel) (by decide +kernel)
set_option maxRecDepth 100000 in
theorem tw_800 : (Jvm.Cond.code ({ cls := "HadItFrom$World", name := "hears", desc := "(II)Z" } : Jvm.MethodName) prog_12_method_12_code (3 : Nat) (Option.some Jvm.ClassFile.FieldType.boolean)) ∈ am_T := am_in 800 rfl rfl
theorem tw_801 : (Jvm.Cond.methodLink "HadItFrom$World" (97 : Nat) ({ cls := "HadItFrom$World", name := "numbersInForce", desc := "()[I" } : Jvm.MethodName)) ∈ am_T := am_in 801 (by decide +kernel) (by decide +kernel)
theorem tw_802 : (Jvm.Cond.instanceMethod ({ cls := "HadItFrom$World", name := "numbersInForce", desc := "()[I" } : Jvm.MethodName)) ∈ am_T := am_in 802 (by decide +kernel) (by decide +kernel)
theorem tw_803 : (Jvm.Cond.selects "HadItFrom$World" ({ cls := "HadItFrom$World", name := "numbersInForce", desc := "()[I" } : Jvm.MethodName) ({ cls := "HadItFrom$World", name := "numbersInForce", desc := "()[I" } : Jvm.MethodName)) ∈ am_T := am_in 803 (by decide +kernel) (by decide +kernel)
set_option maxRecDepth 100000 in
theorem tw_804 : (Jvm.Cond.code ({ cls := "HadItFrom$World", name := "numbersInForce", desc := "()[I" } : Jvm.MethodName) prog_12_method_11_code (1 : Nat) (Option.some (Jvm.ClassFile.FieldType.array Jvm.ClassFile.FieldType.int))) ∈ am_T := am_in 804 rfl rfl
theorem tw_805 : (Jvm.Cond.methodLink "HadItFrom$World" (93 : Nat) ({ cls := "HadItFrom$World", name := "numbersOf", desc := "(I)[I" } : Jvm.MethodName)) ∈ am_T := am_in 805 (by decide +kernel) (by decide +kernel)
theorem tw_806 : (Jvm.Cond.instanceMethod ({ cls := "HadItFrom$World", name := "numbersOf", desc := "(I)[I" } : Jvm.MethodName)) ∈ am_T := am_in 806 (by decide +kernel) (by decide +kernel)
theorem tw_807 : (Jvm.Cond.selects "HadItFrom$World" ({ cls := "HadItFrom$World", name := "numbersOf", desc := "(I)[I" } : Jvm.MethodName) ({ cls := "HadItFrom$World", name := "numbersOf", desc := "(I)[I" } : Jvm.MethodName)) ∈ am_T := am_in 807 (by decide +kernel) (by decide +kernel)
set_option maxRecDepth 100000 in
theorem tw_808 : (Jvm.Cond.code ({ cls := "HadItFrom$World", name := "numbersOf", desc := "(I)[I" } : Jvm.MethodName) prog_12_method_10_code (2 : Nat) (Option.some (Jvm.ClassFile.FieldType.array Jvm.ClassFile.FieldType.int))) ∈ am_T := am_in 808 rfl rfl
theorem tw_809 : (Jvm.Cond.methodLink "HadItFrom$World" (87 : Nat) ({ cls := "HadItFrom$World", name := "hasRules", desc := "(I)Z" } : Jvm.MethodName)) ∈ am_T := am_in 809 (by decide +kernel) (by decide +kernel)
theorem tw_810 : (Jvm.Cond.fieldLinkNest "HadItFrom$World" (90 : Nat) "HadItFrom" "FIRST_RULES" "[I" "HadItFrom") ∈ am_T := am_in 810 (by decide +kernel) (by decide +kernel)
theorem tw_811 : (Jvm.Cond.methodLink "HadItFrom$World" (101 : Nat) ({ cls := "HadItFrom$Man", name := "whenHears", desc := "(LHadItFrom$Man;[I)I" } : Jvm.MethodName)) ∈ am_T := am_in 811 (by decide +kernel) (by decide +kernel)
theorem tw_812 : (Jvm.Cond.instanceMethod ({ cls := "HadItFrom$Man", name := "whenHears", desc := "(LHadItFrom$Man;[I)I" } : Jvm.MethodName)) ∈ am_T := am_in 812 (by decide +kernel) (by decide +kernel)
theorem tw_813 : (Jvm.Cond.selects "HadItFrom$Man" ({ cls := "HadItFrom$Man", name := "whenHears", desc := "(LHadItFrom$Man;[I)I" } : Jvm.MethodName) ({ cls := "HadItFrom$Man", name := "whenHears", desc := "(LHadItFrom$Man;[I)I" } : Jvm.MethodName)) ∈ am_T := am_in 813 (by decide +kernel) (by decide +kernel)
set_option maxRecDepth 100000 in
theorem tw_814 : (Jvm.Cond.code ({ cls := "HadItFrom$Man", name := "whenHears", desc := "(LHadItFrom$Man;[I)I" } : Jvm.MethodName) prog_6_method_6_code (6 : Nat) (Option.some Jvm.ClassFile.FieldType.int)) ∈ am_T := am_in 814 rfl rfl
theorem tw_815 : (Jvm.Cond.methodLink "HadItFrom$Man" (46 : Nat) ({ cls := "java/lang/Math", name := "max", desc := "(II)I" } : Jvm.MethodName)) ∈ am_T := am_in 815 (by decide +kernel) (by decide +kernel)
theorem tw_816 : (Jvm.Cond.methodLink "HadItFrom$Man" (52 : Nat) ({ cls := "java/lang/Math", name := "min", desc := "(II)I" } : Jvm.MethodName)) ∈ am_T := am_in 816 (by decide +kernel) (by decide +kernel)
theorem tw_817 : (Jvm.Cond.methodLink "HadItFrom$Man" (55 : Nat) ({ cls := "HadItFrom$Man", name := "placeIn", desc := "(I)I" } : Jvm.MethodName)) ∈ am_T := am_in 817 (by decide +kernel) (by decide +kernel)
theorem tw_818 : (Jvm.Cond.methodLink "HadItFrom$Man" (59 : Nat) ({ cls := "HadItFrom$Man", name := "nextMove", desc := "(I)I" } : Jvm.MethodName)) ∈ am_T := am_in 818 (by decide +kernel) (by decide +kernel)
theorem tw_819 : (Jvm.Cond.instanceMethod ({ cls := "HadItFrom$Man", name := "nextMove", desc := "(I)I" } : Jvm.MethodName)) ∈ am_T := am_in 819 (by decide +kernel) (by decide +kernel)
theorem tw_820 : (Jvm.Cond.selects "HadItFrom$Man" ({ cls := "HadItFrom$Man", name := "nextMove", desc := "(I)I" } : Jvm.MethodName) ({ cls := "HadItFrom$Man", name := "nextMove", desc := "(I)I" } : Jvm.MethodName)) ∈ am_T := am_in 820 (by decide +kernel) (by decide +kernel)
set_option maxRecDepth 100000 in
theorem tw_821 : (Jvm.Cond.code ({ cls := "HadItFrom$Man", name := "nextMove", desc := "(I)I" } : Jvm.MethodName) prog_6_method_7_code (4 : Nat) (Option.some Jvm.ClassFile.FieldType.int)) ∈ am_T := am_in 821 rfl rfl
theorem tw_822 : (Jvm.Cond.methodLink "HadItFromLaw" (111 : Nat) ({ cls := "HadItFrom", name := "when", desc := "(II)I" } : Jvm.MethodName)) ∈ am_T := am_in 822 (by decide +kernel) (by decide +kernel)
theorem tw_823 : (Jvm.Cond.instanceMethod ({ cls := "HadItFrom", name := "when", desc := "(II)I" } : Jvm.MethodName)) ∈ am_T := am_in 823 (by decide +kernel) (by decide +kernel)
theorem tw_824 : (Jvm.Cond.selects "HadItFrom" ({ cls := "HadItFrom", name := "when", desc := "(II)I" } : Jvm.MethodName) ({ cls := "HadItFrom", name := "when", desc := "(II)I" } : Jvm.MethodName)) ∈ am_T := am_in 824 (by decide +kernel) (by decide +kernel)
set_option maxRecDepth 100000 in
theorem tw_825 : (Jvm.Cond.code ({ cls := "HadItFrom", name := "when", desc := "(II)I" } : Jvm.MethodName) prog_1_method_24_code (3 : Nat) (Option.some Jvm.ClassFile.FieldType.int)) ∈ am_T := am_in 825 rfl rfl
theorem tw_826 : (Jvm.Cond.methodLink "HadItFrom" (238 : Nat) ({ cls := "HadItFrom$World", name := "numbersInForce", desc := "()[I" } : Jvm.MethodName)) ∈ am_T := am_in 826 (by decide +kernel) (by decide +kernel)
theorem tw_827 : (Jvm.Cond.methodLink "HadItFrom" (242 : Nat) ({ cls := "HadItFrom$Man", name := "whenHears", desc := "(LHadItFrom$Man;[I)I" } : Jvm.MethodName)) ∈ am_T := am_in 827 (by decide +kernel) (by decide +kernel)
theorem tw_828 : (Jvm.Cond.methodLink "HadItFromLaw" (115 : Nat) ({ cls := "HadItFrom", name := "fails", desc := "(II)I" } : Jvm.MethodName)) ∈ am_T := am_in 828 (by decide +kernel) (by decide +kernel)
theorem tw_829 : (Jvm.Cond.instanceMethod ({ cls := "HadItFrom", name := "fails", desc := "(II)I" } : Jvm.MethodName)) ∈ am_T := am_in 829 (by decide +kernel) (by decide +kernel)
theorem tw_830 : (Jvm.Cond.selects "HadItFrom" ({ cls := "HadItFrom", name := "fails", desc := "(II)I" } : Jvm.MethodName) ({ cls := "HadItFrom", name := "fails", desc := "(II)I" } : Jvm.MethodName)) ∈ am_T := am_in 830 (by decide +kernel) (by decide +kernel)
set_option maxRecDepth 100000 in
theorem tw_831 : (Jvm.Cond.code ({ cls := "HadItFrom", name := "fails", desc := "(II)I" } : Jvm.MethodName) prog_1_method_25_code (4 : Nat) (Option.some Jvm.ClassFile.FieldType.int)) ∈ am_T := am_in 831 rfl rfl
theorem tw_832 : (Jvm.Cond.methodLink "HadItFrom" (246 : Nat) ({ cls := "HadItFrom$World", name := "hearLinks", desc := "(LHadItFrom$Row;[I)V" } : Jvm.MethodName)) ∈ am_T := am_in 832 (by decide +kernel) (by decide +kernel)
theorem tw_833 : (Jvm.Cond.instanceMethod ({ cls := "HadItFrom$World", name := "hearLinks", desc := "(LHadItFrom$Row;[I)V" } : Jvm.MethodName)) ∈ am_T := am_in 833 (by decide +kernel) (by decide +kernel)
theorem tw_834 : (Jvm.Cond.selects "HadItFrom$World" ({ cls := "HadItFrom$World", name := "hearLinks", desc := "(LHadItFrom$Row;[I)V" } : Jvm.MethodName) ({ cls := "HadItFrom$World", name := "hearLinks", desc := "(LHadItFrom$Row;[I)V" } : Jvm.MethodName)) ∈ am_T := am_in 834 (by decide +kernel) (by decide +kernel)
set_option maxRecDepth 100000 in
theorem tw_835 : (Jvm.Cond.code ({ cls := "HadItFrom$World", name := "hearLinks", desc := "(LHadItFrom$Row;[I)V" } : Jvm.MethodName) prog_12_method_13_code (4 : Nat) (Option.none : Option Jvm.ClassFile.FieldType)) ∈ am_T := am_in 835 rfl rfl
theorem tw_836 : (Jvm.Cond.methodLink "HadItFrom" (250 : Nat) ({ cls := "HadItFrom$World", name := "failingLink", desc := "(LHadItFrom$Row;)I" } : Jvm.MethodName)) ∈ am_T := am_in 836 (by decide +kernel) (by decide +kernel)
theorem tw_837 : (Jvm.Cond.instanceMethod ({ cls := "HadItFrom$World", name := "failingLink", desc := "(LHadItFrom$Row;)I" } : Jvm.MethodName)) ∈ am_T := am_in 837 (by decide +kernel) (by decide +kernel)
theorem tw_838 : (Jvm.Cond.selects "HadItFrom$World" ({ cls := "HadItFrom$World", name := "failingLink", desc := "(LHadItFrom$Row;)I" } : Jvm.MethodName) ({ cls := "HadItFrom$World", name := "failingLink", desc := "(LHadItFrom$Row;)I" } : Jvm.MethodName)) ∈ am_T := am_in 838 (by decide +kernel) (by decide +kernel)
set_option maxRecDepth 100000 in
theorem tw_839 : (Jvm.Cond.code ({ cls := "HadItFrom$World", name := "failingLink", desc := "(LHadItFrom$Row;)I" } : Jvm.MethodName) prog_12_method_14_code (4 : Nat) (Option.some Jvm.ClassFile.FieldType.int)) ∈ am_T := am_in 839 rfl rfl
theorem tw_840 : (Jvm.Cond.methodLink "HadItFrom$World" (114 : Nat) ({ cls := "HadItFrom$Row", name := "linkHolds", desc := "(ZIZ)Z" } : Jvm.MethodName)) ∈ am_T := am_in 840 (by decide +kernel) (by decide +kernel)
theorem tw_841 : (Jvm.Cond.instanceMethod ({ cls := "HadItFrom$Row", name := "linkHolds", desc := "(ZIZ)Z" } : Jvm.MethodName)) ∈ am_T := am_in 841 (by decide +kernel) (by decide +kernel)
theorem tw_842 : (Jvm.Cond.selects "HadItFrom$Row" ({ cls := "HadItFrom$Row", name := "linkHolds", desc := "(ZIZ)Z" } : Jvm.MethodName) ({ cls := "HadItFrom$Row", name := "linkHolds", desc := "(ZIZ)Z" } : Jvm.MethodName)) ∈ am_T := am_in 842 (by decide +kernel) (by decide +kernel)
theorem tw_843 : (Jvm.Cond.sameMethod "HadItFrom$Row" "HadItFrom$Row" "linkHolds" "(ZIZ)Z") ∈ am_T := am_in 843 (by decide +kernel) (by decide +kernel)
theorem tw_844 : (Jvm.Cond.selects "HadItFrom$Gap" ({ cls := "HadItFrom$Row", name := "linkHolds", desc := "(ZIZ)Z" } : Jvm.MethodName) ({ cls := "HadItFrom$Gap", name := "linkHolds", desc := "(ZIZ)Z" } : Jvm.MethodName)) ∈ am_T := am_in 844 (by decide +kernel) (by decide +kernel)
theorem tw_845 : (Jvm.Cond.instanceMethod ({ cls := "HadItFrom$Gap", name := "linkHolds", desc := "(ZIZ)Z" } : Jvm.MethodName)) ∈ am_T := am_in 845 (by decide +kernel) (by decide +kernel)
set_option maxRecDepth 100000 in
theorem tw_846 : (Jvm.Cond.code ({ cls := "HadItFrom$Gap", name := "linkHolds", desc := "(ZIZ)Z" } : Jvm.MethodName) prog_2_method_3_code (4 : Nat) (Option.some Jvm.ClassFile.FieldType.boolean)) ∈ am_T := am_in 846 rfl rfl
theorem tw_847 : (Jvm.Cond.methodLink "HadItFrom$Gap" (9 : Nat) ({ cls := "HadItFrom$Row", name := "linkHolds", desc := "(ZIZ)Z" } : Jvm.MethodName)) ∈ am_T := am_in 847 (by decide +kernel) (by decide +kernel)
theorem tw_848 : (Jvm.Cond.selects "HadItFrom$Hidden" ({ cls := "HadItFrom$Row", name := "linkHolds", desc := "(ZIZ)Z" } : Jvm.MethodName) ({ cls := "HadItFrom$Hidden", name := "linkHolds", desc := "(ZIZ)Z" } : Jvm.MethodName)) ∈ am_T := am_in 848 (by decide +kernel) (by decide +kernel)
theorem tw_849 : (Jvm.Cond.instanceMethod ({ cls := "HadItFrom$Hidden", name := "linkHolds", desc := "(ZIZ)Z" } : Jvm.MethodName)) ∈ am_T := am_in 849 (by decide +kernel) (by decide +kernel)
set_option maxRecDepth 100000 in
theorem tw_850 : (Jvm.Cond.code ({ cls := "HadItFrom$Hidden", name := "linkHolds", desc := "(ZIZ)Z" } : Jvm.MethodName) prog_3_method_3_code (4 : Nat) (Option.some Jvm.ClassFile.FieldType.boolean)) ∈ am_T := am_in 850 rfl rfl
theorem tw_851 : (Jvm.Cond.methodLink "HadItFrom$Hidden" (9 : Nat) ({ cls := "HadItFrom$Gap", name := "linkHolds", desc := "(ZIZ)Z" } : Jvm.MethodName)) ∈ am_T := am_in 851 (by decide +kernel) (by decide +kernel)
theorem tw_852 : (Jvm.Cond.selects "HadItFrom$Hung" ({ cls := "HadItFrom$Row", name := "linkHolds", desc := "(ZIZ)Z" } : Jvm.MethodName) ({ cls := "HadItFrom$Row", name := "linkHolds", desc := "(ZIZ)Z" } : Jvm.MethodName)) ∈ am_T := am_in 852 (by decide +kernel) (by decide +kernel)
theorem tw_853 : (Jvm.Cond.selects "HadItFrom$Made" ({ cls := "HadItFrom$Row", name := "linkHolds", desc := "(ZIZ)Z" } : Jvm.MethodName) ({ cls := "HadItFrom$Row", name := "linkHolds", desc := "(ZIZ)Z" } : Jvm.MethodName)) ∈ am_T := am_in 853 (by decide +kernel) (by decide +kernel)
theorem tw_854 : (Jvm.Cond.selects "HadItFrom$Raised" ({ cls := "HadItFrom$Row", name := "linkHolds", desc := "(ZIZ)Z" } : Jvm.MethodName) ({ cls := "HadItFrom$Row", name := "linkHolds", desc := "(ZIZ)Z" } : Jvm.MethodName)) ∈ am_T := am_in 854 (by decide +kernel) (by decide +kernel)
theorem tw_855 : (Jvm.Cond.selects "HadItFrom$Whole" ({ cls := "HadItFrom$Row", name := "linkHolds", desc := "(ZIZ)Z" } : Jvm.MethodName) ({ cls := "HadItFrom$Whole", name := "linkHolds", desc := "(ZIZ)Z" } : Jvm.MethodName)) ∈ am_T := am_in 855 (by decide +kernel) (by decide +kernel)
theorem tw_856 : (Jvm.Cond.instanceMethod ({ cls := "HadItFrom$Whole", name := "linkHolds", desc := "(ZIZ)Z" } : Jvm.MethodName)) ∈ am_T := am_in 856 (by decide +kernel) (by decide +kernel)
set_option maxRecDepth 100000 in
theorem tw_857 : (Jvm.Cond.code ({ cls := "HadItFrom$Whole", name := "linkHolds", desc := "(ZIZ)Z" } : Jvm.MethodName) prog_11_method_3_code (4 : Nat) (Option.some Jvm.ClassFile.FieldType.boolean)) ∈ am_T := am_in 857 rfl rfl
theorem tw_858 : (Jvm.Cond.methodLink "HadItFrom$Whole" (9 : Nat) ({ cls := "HadItFrom$Row", name := "linkHolds", desc := "(ZIZ)Z" } : Jvm.MethodName)) ∈ am_T := am_in 858 (by decide +kernel) (by decide +kernel)
set_option maxRecDepth 100000 in
theorem tw_859 : (Jvm.Cond.code ({ cls := "HadItFrom$Row", name := "linkHolds", desc := "(ZIZ)Z" } : Jvm.MethodName) prog_9_method_11_code (4 : Nat) (Option.some Jvm.ClassFile.FieldType.boolean)) ∈ am_T := am_in 859 rfl rfl
theorem tw_860 : (Jvm.Cond.methodLink "HadItFromLaw" (119 : Nat) ({ cls := "HadItFrom", name := "strength", desc := "(II)I" } : Jvm.MethodName)) ∈ am_T := am_in 860 (by decide +kernel) (by decide +kernel)
theorem tw_861 : (Jvm.Cond.instanceMethod ({ cls := "HadItFrom", name := "strength", desc := "(II)I" } : Jvm.MethodName)) ∈ am_T := am_in 861 (by decide +kernel) (by decide +kernel)
theorem tw_862 : (Jvm.Cond.selects "HadItFrom" ({ cls := "HadItFrom", name := "strength", desc := "(II)I" } : Jvm.MethodName) ({ cls := "HadItFrom", name := "strength", desc := "(II)I" } : Jvm.MethodName)) ∈ am_T := am_in 862 (by decide +kernel) (by decide +kernel)
set_option maxRecDepth 100000 in
theorem tw_863 : (Jvm.Cond.code ({ cls := "HadItFrom", name := "strength", desc := "(II)I" } : Jvm.MethodName) prog_1_method_26_code (4 : Nat) (Option.some Jvm.ClassFile.FieldType.int)) ∈ am_T := am_in 863 rfl rfl
theorem tw_864 : (Jvm.Cond.methodLink "HadItFrom" (254 : Nat) ({ cls := "HadItFrom$World", name := "gradeOf", desc := "(LHadItFrom$Row;[I)I" } : Jvm.MethodName)) ∈ am_T := am_in 864 (by decide +kernel) (by decide +kernel)
theorem tw_865 : (Jvm.Cond.instanceMethod ({ cls := "HadItFrom$World", name := "gradeOf", desc := "(LHadItFrom$Row;[I)I" } : Jvm.MethodName)) ∈ am_T := am_in 865 (by decide +kernel) (by decide +kernel)
theorem tw_866 : (Jvm.Cond.selects "HadItFrom$World" ({ cls := "HadItFrom$World", name := "gradeOf", desc := "(LHadItFrom$Row;[I)I" } : Jvm.MethodName) ({ cls := "HadItFrom$World", name := "gradeOf", desc := "(LHadItFrom$Row;[I)I" } : Jvm.MethodName)) ∈ am_T := am_in 866 (by decide +kernel) (by decide +kernel)
set_option maxRecDepth 100000 in
theorem tw_867 : (Jvm.Cond.code ({ cls := "HadItFrom$World", name := "gradeOf", desc := "(LHadItFrom$Row;[I)I" } : Jvm.MethodName) prog_12_method_16_code (5 : Nat) (Option.some Jvm.ClassFile.FieldType.int)) ∈ am_T := am_in 867 rfl rfl
theorem tw_868 : (Jvm.Cond.methodLink "HadItFrom$World" (118 : Nat) ({ cls := "HadItFrom$World", name := "hearLinks", desc := "(LHadItFrom$Row;[I)V" } : Jvm.MethodName)) ∈ am_T := am_in 868 (by decide +kernel) (by decide +kernel)
theorem tw_869 : (Jvm.Cond.methodLink "HadItFrom$World" (122 : Nat) ({ cls := "HadItFrom$World", name := "failingLink", desc := "(LHadItFrom$Row;)I" } : Jvm.MethodName)) ∈ am_T := am_in 869 (by decide +kernel) (by decide +kernel)
theorem tw_870 : (Jvm.Cond.methodLink "HadItFrom$World" (126 : Nat) ({ cls := "HadItFrom$World", name := "surenessOf", desc := "(LHadItFrom$Row;I[I)I" } : Jvm.MethodName)) ∈ am_T := am_in 870 (by decide +kernel) (by decide +kernel)
theorem tw_871 : (Jvm.Cond.instanceMethod ({ cls := "HadItFrom$World", name := "surenessOf", desc := "(LHadItFrom$Row;I[I)I" } : Jvm.MethodName)) ∈ am_T := am_in 871 (by decide +kernel) (by decide +kernel)
theorem tw_872 : (Jvm.Cond.selects "HadItFrom$World" ({ cls := "HadItFrom$World", name := "surenessOf", desc := "(LHadItFrom$Row;I[I)I" } : Jvm.MethodName) ({ cls := "HadItFrom$World", name := "surenessOf", desc := "(LHadItFrom$Row;I[I)I" } : Jvm.MethodName)) ∈ am_T := am_in 872 (by decide +kernel) (by decide +kernel)
set_option maxRecDepth 100000 in
theorem tw_873 : (Jvm.Cond.code ({ cls := "HadItFrom$World", name := "surenessOf", desc := "(LHadItFrom$Row;I[I)I" } : Jvm.MethodName) prog_12_method_15_code (6 : Nat) (Option.some Jvm.ClassFile.FieldType.int)) ∈ am_T := am_in 873 rfl rfl
theorem tw_874 : (Jvm.Cond.methodLink "HadItFrom$World" (130 : Nat) ({ cls := "java/lang/Math", name := "min", desc := "(II)I" } : Jvm.MethodName)) ∈ am_T := am_in 874 (by decide +kernel) (by decide +kernel)
theorem tw_875 : (Jvm.Cond.methodLink "HadItFrom$World" (136 : Nat) ({ cls := "HadItFrom$World", name := "lossOfLinks", desc := "(LHadItFrom$Row;[I)I" } : Jvm.MethodName)) ∈ am_T := am_in 875 (by decide +kernel) (by decide +kernel)
theorem tw_876 : (Jvm.Cond.instanceMethod ({ cls := "HadItFrom$World", name := "lossOfLinks", desc := "(LHadItFrom$Row;[I)I" } : Jvm.MethodName)) ∈ am_T := am_in 876 (by decide +kernel) (by decide +kernel)
theorem tw_877 : (Jvm.Cond.selects "HadItFrom$World" ({ cls := "HadItFrom$World", name := "lossOfLinks", desc := "(LHadItFrom$Row;[I)I" } : Jvm.MethodName) ({ cls := "HadItFrom$World", name := "lossOfLinks", desc := "(LHadItFrom$Row;[I)I" } : Jvm.MethodName)) ∈ am_T := am_in 877 (by decide +kernel) (by decide +kernel)
set_option maxRecDepth 100000 in
theorem tw_878 : (Jvm.Cond.code ({ cls := "HadItFrom$World", name := "lossOfLinks", desc := "(LHadItFrom$Row;[I)I" } : Jvm.MethodName) prog_12_method_17_code (5 : Nat) (Option.some Jvm.ClassFile.FieldType.int)) ∈ am_T := am_in 878 rfl rfl
theorem tw_879 : (Jvm.Cond.methodLink "HadItFrom$World" (140 : Nat) ({ cls := "java/lang/Math", name := "max", desc := "(II)I" } : Jvm.MethodName)) ∈ am_T := am_in 879 (by decide +kernel) (by decide +kernel)
theorem tw_880 : (Jvm.Cond.methodLink "HadItFrom$World" (143 : Nat) ({ cls := "HadItFrom$Row", name := "lessened", desc := "(I[I)I" } : Jvm.MethodName)) ∈ am_T := am_in 880 (by decide +kernel) (by decide +kernel)
theorem tw_881 : (Jvm.Cond.instanceMethod ({ cls := "HadItFrom$Row", name := "lessened", desc := "(I[I)I" } : Jvm.MethodName)) ∈ am_T := am_in 881 (by decide +kernel) (by decide +kernel)
theorem tw_882 : (Jvm.Cond.selects "HadItFrom$Row" ({ cls := "HadItFrom$Row", name := "lessened", desc := "(I[I)I" } : Jvm.MethodName) ({ cls := "HadItFrom$Row", name := "lessened", desc := "(I[I)I" } : Jvm.MethodName)) ∈ am_T := am_in 882 (by decide +kernel) (by decide +kernel)
theorem tw_883 : (Jvm.Cond.sameMethod "HadItFrom$Row" "HadItFrom$Row" "lessened" "(I[I)I") ∈ am_T := am_in 883 (by decide +kernel) (by decide +kernel)
theorem tw_884 : (Jvm.Cond.selects "HadItFrom$Gap" ({ cls := "HadItFrom$Row", name := "lessened", desc := "(I[I)I" } : Jvm.MethodName) ({ cls := "HadItFrom$Gap", name := "lessened", desc := "(I[I)I" } : Jvm.MethodName)) ∈ am_T := am_in 884 (by decide +kernel) (by decide +kernel)
theorem tw_885 : (Jvm.Cond.instanceMethod ({ cls := "HadItFrom$Gap", name := "lessened", desc := "(I[I)I" } : Jvm.MethodName)) ∈ am_T := am_in 885 (by decide +kernel) (by decide +kernel)
set_option maxRecDepth 100000 in
theorem tw_886 : (Jvm.Cond.code ({ cls := "HadItFrom$Gap", name := "lessened", desc := "(I[I)I" } : Jvm.MethodName) prog_2_method_4_code (3 : Nat) (Option.some Jvm.ClassFile.FieldType.int)) ∈ am_T := am_in 886 rfl rfl
theorem tw_887 : (Jvm.Cond.methodLink "HadItFrom$Gap" (13 : Nat) ({ cls := "HadItFrom$Row", name := "lessened", desc := "(I[I)I" } : Jvm.MethodName)) ∈ am_T := am_in 887 (by decide +kernel) (by decide +kernel)
theorem tw_888 : (Jvm.Cond.methodLink "HadItFrom$Gap" (17 : Nat) ({ cls := "java/lang/Math", name := "max", desc := "(II)I" } : Jvm.MethodName)) ∈ am_T := am_in 888 (by decide +kernel) (by decide +kernel)
theorem tw_889 : (Jvm.Cond.selects "HadItFrom$Hidden" ({ cls := "HadItFrom$Row", name := "lessened", desc := "(I[I)I" } : Jvm.MethodName) ({ cls := "HadItFrom$Gap", name := "lessened", desc := "(I[I)I" } : Jvm.MethodName)) ∈ am_T := am_in 889 (by decide +kernel) (by decide +kernel)
theorem tw_890 : (Jvm.Cond.selects "HadItFrom$Hung" ({ cls := "HadItFrom$Row", name := "lessened", desc := "(I[I)I" } : Jvm.MethodName) ({ cls := "HadItFrom$Row", name := "lessened", desc := "(I[I)I" } : Jvm.MethodName)) ∈ am_T := am_in 890 (by decide +kernel) (by decide +kernel)
theorem tw_891 : (Jvm.Cond.selects "HadItFrom$Made" ({ cls := "HadItFrom$Row", name := "lessened", desc := "(I[I)I" } : Jvm.MethodName) ({ cls := "HadItFrom$Made", name := "lessened", desc := "(I[I)I" } : Jvm.MethodName)) ∈ am_T := am_in 891 (by decide +kernel) (by decide +kernel)
theorem tw_892 : (Jvm.Cond.instanceMethod ({ cls := "HadItFrom$Made", name := "lessened", desc := "(I[I)I" } : Jvm.MethodName)) ∈ am_T := am_in 892 (by decide +kernel) (by decide +kernel)
set_option maxRecDepth 100000 in
theorem tw_893 : (Jvm.Cond.code ({ cls := "HadItFrom$Made", name := "lessened", desc := "(I[I)I" } : Jvm.MethodName) prog_5_method_3_code (3 : Nat) (Option.some Jvm.ClassFile.FieldType.int)) ∈ am_T := am_in 893 rfl rfl
theorem tw_894 : (Jvm.Cond.methodLink "HadItFrom$Made" (9 : Nat) ({ cls := "HadItFrom$Raised", name := "lessened", desc := "(I[I)I" } : Jvm.MethodName)) ∈ am_T := am_in 894 (by decide +kernel) (by decide +kernel)
theorem tw_895 : (Jvm.Cond.instanceMethod ({ cls := "HadItFrom$Raised", name := "lessened", desc := "(I[I)I" } : Jvm.MethodName)) ∈ am_T := am_in 895 (by decide +kernel) (by decide +kernel)
set_option maxRecDepth 100000 in
theorem tw_896 : (Jvm.Cond.code ({ cls := "HadItFrom$Raised", name := "lessened", desc := "(I[I)I" } : Jvm.MethodName) prog_8_method_3_code (3 : Nat) (Option.some Jvm.ClassFile.FieldType.int)) ∈ am_T := am_in 896 rfl rfl
theorem tw_897 : (Jvm.Cond.methodLink "HadItFrom$Raised" (9 : Nat) ({ cls := "HadItFrom$Row", name := "lessened", desc := "(I[I)I" } : Jvm.MethodName)) ∈ am_T := am_in 897 (by decide +kernel) (by decide +kernel)
theorem tw_898 : (Jvm.Cond.methodLink "HadItFrom$Raised" (13 : Nat) ({ cls := "java/lang/Math", name := "max", desc := "(II)I" } : Jvm.MethodName)) ∈ am_T := am_in 898 (by decide +kernel) (by decide +kernel)
theorem tw_899 : (Jvm.Cond.selects "HadItFrom$Raised" ({ cls := "HadItFrom$Row", name := "lessened", desc := "(I[I)I" } : Jvm.MethodName) ({ cls := "HadItFrom$Raised", name := "lessened", desc := "(I[I)I" } : Jvm.MethodName)) ∈ am_T := am_in 899 (by decide +kernel) (by decide +kernel)
theorem tw_900 : (Jvm.Cond.selects "HadItFrom$Whole" ({ cls := "HadItFrom$Row", name := "lessened", desc := "(I[I)I" } : Jvm.MethodName) ({ cls := "HadItFrom$Row", name := "lessened", desc := "(I[I)I" } : Jvm.MethodName)) ∈ am_T := am_in 900 (by decide +kernel) (by decide +kernel)
set_option maxRecDepth 100000 in
theorem tw_901 : (Jvm.Cond.code ({ cls := "HadItFrom$Row", name := "lessened", desc := "(I[I)I" } : Jvm.MethodName) prog_9_method_12_code (3 : Nat) (Option.some Jvm.ClassFile.FieldType.int)) ∈ am_T := am_in 901 rfl rfl
theorem tw_902 : (Jvm.Cond.methodLink "HadItFrom" (258 : Nat) ({ cls := "java/lang/Math", name := "max", desc := "(II)I" } : Jvm.MethodName)) ∈ am_T := am_in 902 (by decide +kernel) (by decide +kernel)
theorem tw_903 : (Jvm.Cond.methodLink "HadItFromLaw" (123 : Nat) ({ cls := "HadItFrom", name := "stands", desc := "(II)I" } : Jvm.MethodName)) ∈ am_T := am_in 903 (by decide +kernel) (by decide +kernel)
theorem tw_904 : (Jvm.Cond.instanceMethod ({ cls := "HadItFrom", name := "stands", desc := "(II)I" } : Jvm.MethodName)) ∈ am_T := am_in 904 (by decide +kernel) (by decide +kernel)
theorem tw_905 : (Jvm.Cond.selects "HadItFrom" ({ cls := "HadItFrom", name := "stands", desc := "(II)I" } : Jvm.MethodName) ({ cls := "HadItFrom", name := "stands", desc := "(II)I" } : Jvm.MethodName)) ∈ am_T := am_in 905 (by decide +kernel) (by decide +kernel)
set_option maxRecDepth 100000 in
theorem tw_906 : (Jvm.Cond.code ({ cls := "HadItFrom", name := "stands", desc := "(II)I" } : Jvm.MethodName) prog_1_method_27_code (5 : Nat) (Option.some Jvm.ClassFile.FieldType.int)) ∈ am_T := am_in 906 rfl rfl
theorem tw_907 : (Jvm.Cond.methodLink "HadItFromLaw" (127 : Nat) ({ cls := "HadItFrom", name := "sureness", desc := "(III)I" } : Jvm.MethodName)) ∈ am_T := am_in 907 (by decide +kernel) (by decide +kernel)
theorem tw_908 : (Jvm.Cond.instanceMethod ({ cls := "HadItFrom", name := "sureness", desc := "(III)I" } : Jvm.MethodName)) ∈ am_T := am_in 908 (by decide +kernel) (by decide +kernel)
theorem tw_909 : (Jvm.Cond.selects "HadItFrom" ({ cls := "HadItFrom", name := "sureness", desc := "(III)I" } : Jvm.MethodName) ({ cls := "HadItFrom", name := "sureness", desc := "(III)I" } : Jvm.MethodName)) ∈ am_T := am_in 909 (by decide +kernel) (by decide +kernel)
set_option maxRecDepth 100000 in
theorem tw_910 : (Jvm.Cond.code ({ cls := "HadItFrom", name := "sureness", desc := "(III)I" } : Jvm.MethodName) prog_1_method_28_code (6 : Nat) (Option.some Jvm.ClassFile.FieldType.int)) ∈ am_T := am_in 910 rfl rfl
theorem tw_911 : (Jvm.Cond.methodLink "HadItFrom" (263 : Nat) ({ cls := "HadItFrom$World", name := "surenessOf", desc := "(LHadItFrom$Row;I[I)I" } : Jvm.MethodName)) ∈ am_T := am_in 911 (by decide +kernel) (by decide +kernel)
theorem tw_912 : (Jvm.Cond.methodLink "HadItFromLaw" (131 : Nat) ({ cls := "HadItFrom", name := "judge", desc := "(II)I" } : Jvm.MethodName)) ∈ am_T := am_in 912 (by decide +kernel) (by decide +kernel)
theorem tw_913 : (Jvm.Cond.instanceMethod ({ cls := "HadItFrom", name := "judge", desc := "(II)I" } : Jvm.MethodName)) ∈ am_T := am_in 913 (by decide +kernel) (by decide +kernel)
theorem tw_914 : (Jvm.Cond.selects "HadItFrom" ({ cls := "HadItFrom", name := "judge", desc := "(II)I" } : Jvm.MethodName) ({ cls := "HadItFrom", name := "judge", desc := "(II)I" } : Jvm.MethodName)) ∈ am_T := am_in 914 (by decide +kernel) (by decide +kernel)
set_option maxRecDepth 100000 in
theorem tw_915 : (Jvm.Cond.code ({ cls := "HadItFrom", name := "judge", desc := "(II)I" } : Jvm.MethodName) prog_1_method_29_code (6 : Nat) (Option.some Jvm.ClassFile.FieldType.int)) ∈ am_T := am_in 915 rfl rfl
theorem tw_916 : (Jvm.Cond.methodLink "HadItFrom" (267 : Nat) ({ cls := "HadItFrom$World", name := "gradeRows", desc := "(I[I)I" } : Jvm.MethodName)) ∈ am_T := am_in 916 (by decide +kernel) (by decide +kernel)
theorem tw_917 : (Jvm.Cond.instanceMethod ({ cls := "HadItFrom$World", name := "gradeRows", desc := "(I[I)I" } : Jvm.MethodName)) ∈ am_T := am_in 917 (by decide +kernel) (by decide +kernel)
theorem tw_918 : (Jvm.Cond.selects "HadItFrom$World" ({ cls := "HadItFrom$World", name := "gradeRows", desc := "(I[I)I" } : Jvm.MethodName) ({ cls := "HadItFrom$World", name := "gradeRows", desc := "(I[I)I" } : Jvm.MethodName)) ∈ am_T := am_in 918 (by decide +kernel) (by decide +kernel)
set_option maxRecDepth 100000 in
theorem tw_919 : (Jvm.Cond.code ({ cls := "HadItFrom$World", name := "gradeRows", desc := "(I[I)I" } : Jvm.MethodName) prog_12_method_18_code (6 : Nat) (Option.some Jvm.ClassFile.FieldType.int)) ∈ am_T := am_in 919 rfl rfl
theorem tw_920 : (Jvm.Cond.methodLink "HadItFrom$World" (147 : Nat) ({ cls := "HadItFrom$World", name := "rowAt", desc := "(II)LHadItFrom$Row;" } : Jvm.MethodName)) ∈ am_T := am_in 920 (by decide +kernel) (by decide +kernel)
theorem tw_921 : (Jvm.Cond.methodLink "HadItFrom$World" (151 : Nat) ({ cls := "HadItFrom$World", name := "gradeOf", desc := "(LHadItFrom$Row;[I)I" } : Jvm.MethodName)) ∈ am_T := am_in 921 (by decide +kernel) (by decide +kernel)
theorem tw_922 : (Jvm.Cond.methodLink "HadItFromLaw" (135 : Nat) ({ cls := "HadItFrom", name := "apart", desc := "(I)I" } : Jvm.MethodName)) ∈ am_T := am_in 922 (by decide +kernel) (by decide +kernel)
theorem tw_923 : (Jvm.Cond.instanceMethod ({ cls := "HadItFrom", name := "apart", desc := "(I)I" } : Jvm.MethodName)) ∈ am_T := am_in 923 (by decide +kernel) (by decide +kernel)
theorem tw_924 : (Jvm.Cond.selects "HadItFrom" ({ cls := "HadItFrom", name := "apart", desc := "(I)I" } : Jvm.MethodName) ({ cls := "HadItFrom", name := "apart", desc := "(I)I" } : Jvm.MethodName)) ∈ am_T := am_in 924 (by decide +kernel) (by decide +kernel)
set_option maxRecDepth 100000 in
theorem tw_925 : (Jvm.Cond.code ({ cls := "HadItFrom", name := "apart", desc := "(I)I" } : Jvm.MethodName) prog_1_method_30_code (2 : Nat) (Option.some Jvm.ClassFile.FieldType.int)) ∈ am_T := am_in 925 rfl rfl
theorem tw_926 : (Jvm.Cond.methodLink "HadItFrom" (274 : Nat) ({ cls := "HadItFrom", name := "layNet", desc := "(I)V" } : Jvm.MethodName)) ∈ am_T := am_in 926 (by decide +kernel) (by decide +kernel)
theorem tw_928 : (Jvm.Cond.instanceMethod ({ cls := "HadItFrom", name := "layNet", desc := "(I)V" } : Jvm.MethodName)) ∈ am_T := am_in 928 (by decide +kernel) (by decide +kernel)
set_option maxRecDepth 100000 in
theorem tw_929 : (Jvm.Cond.code ({ cls := "HadItFrom", name := "layNet", desc := "(I)V" } : Jvm.MethodName) prog_1_method_62_code (2 : Nat) (Option.none : Option Jvm.ClassFile.FieldType)) ∈ am_T := am_in 929 rfl rfl
theorem tw_930 : (Jvm.Cond.methodLink "HadItFrom" (346 : Nat) ({ cls := "HadItFrom$Net", name := "lay", desc := "(LHadItFrom$World;II)V" } : Jvm.MethodName)) ∈ am_T := am_in 930 (by decide +kernel) (by decide +kernel)
theorem tw_931 : (Jvm.Cond.instanceMethod ({ cls := "HadItFrom$Net", name := "lay", desc := "(LHadItFrom$World;II)V" } : Jvm.MethodName)) ∈ am_T := am_in 931 (by decide +kernel) (by decide +kernel)
theorem tw_932 : (Jvm.Cond.selects "HadItFrom$Net" ({ cls := "HadItFrom$Net", name := "lay", desc := "(LHadItFrom$World;II)V" } : Jvm.MethodName) ({ cls := "HadItFrom$Net", name := "lay", desc := "(LHadItFrom$World;II)V" } : Jvm.MethodName)) ∈ am_T := am_in 932 (by decide +kernel) (by decide +kernel)
set_option maxRecDepth 100000 in
theorem tw_933 : (Jvm.Cond.code ({ cls := "HadItFrom$Net", name := "lay", desc := "(LHadItFrom$World;II)V" } : Jvm.MethodName) prog_7_method_2_code (5 : Nat) (Option.none : Option Jvm.ClassFile.FieldType)) ∈ am_T := am_in 933 rfl rfl
theorem tw_934 : (Jvm.Cond.methodLink "HadItFrom$Net" (29 : Nat) ({ cls := "HadItFrom$World", name := "firstOf", desc := "(I)I" } : Jvm.MethodName)) ∈ am_T := am_in 934 (by decide +kernel) (by decide +kernel)
theorem tw_935 : (Jvm.Cond.instanceMethod ({ cls := "HadItFrom$World", name := "firstOf", desc := "(I)I" } : Jvm.MethodName)) ∈ am_T := am_in 935 (by decide +kernel) (by decide +kernel)
theorem tw_936 : (Jvm.Cond.selects "HadItFrom$World" ({ cls := "HadItFrom$World", name := "firstOf", desc := "(I)I" } : Jvm.MethodName) ({ cls := "HadItFrom$World", name := "firstOf", desc := "(I)I" } : Jvm.MethodName)) ∈ am_T := am_in 936 (by decide +kernel) (by decide +kernel)
set_option maxRecDepth 100000 in
theorem tw_937 : (Jvm.Cond.code ({ cls := "HadItFrom$World", name := "firstOf", desc := "(I)I" } : Jvm.MethodName) prog_12_method_22_code (3 : Nat) (Option.some Jvm.ClassFile.FieldType.int)) ∈ am_T := am_in 937 rfl rfl
theorem tw_938 : (Jvm.Cond.methodLink "HadItFrom$World" (163 : Nat) ({ cls := "HadItFrom$Row", name := "lastMan", desc := "()I" } : Jvm.MethodName)) ∈ am_T := am_in 938 (by decide +kernel) (by decide +kernel)
theorem tw_939 : (Jvm.Cond.methodLink "HadItFrom$Net" (35 : Nat) ({ cls := "HadItFrom$World", name := "rowAt", desc := "(II)LHadItFrom$Row;" } : Jvm.MethodName)) ∈ am_T := am_in 939 (by decide +kernel) (by decide +kernel)
theorem tw_940 : (Jvm.Cond.methodLink "HadItFrom$Net" (39 : Nat) ({ cls := "HadItFrom$Net", name := "layRow", desc := "(LHadItFrom$Row;)V" } : Jvm.MethodName)) ∈ am_T := am_in 940 (by decide +kernel) (by decide +kernel)
theorem tw_942 : (Jvm.Cond.instanceMethod ({ cls := "HadItFrom$Net", name := "layRow", desc := "(LHadItFrom$Row;)V" } : Jvm.MethodName)) ∈ am_T := am_in 942 (by decide +kernel) (by decide +kernel)
set_option maxRecDepth 100000 in
theorem tw_943 : (Jvm.Cond.code ({ cls := "HadItFrom$Net", name := "layRow", desc := "(LHadItFrom$Row;)V" } : Jvm.MethodName) prog_7_method_3_code (3 : Nat) (Option.none : Option Jvm.ClassFile.FieldType)) ∈ am_T := am_in 943 rfl rfl
theorem tw_944 : (Jvm.Cond.classLink "HadItFrom$Net" (43 : Nat) "HadItFrom$Hung") ∈ am_T := am_in 944 (by decide +kernel) (by decide +kernel)
theorem tw_945 : (Jvm.Cond.methodLink "HadItFrom$Net" (45 : Nat) ({ cls := "HadItFrom$Row", name := "lastMan", desc := "()I" } : Jvm.MethodName)) ∈ am_T := am_in 945 (by decide +kernel) (by decide +kernel)
theorem tw_946 : (Jvm.Cond.methodLink "HadItFrom" (278 : Nat) ({ cls := "HadItFrom$Net", name := "mostWays", desc := "()I" } : Jvm.MethodName)) ∈ am_T := am_in 946 (by decide +kernel) (by decide +kernel)
theorem tw_947 : (Jvm.Cond.instanceMethod ({ cls := "HadItFrom$Net", name := "mostWays", desc := "()I" } : Jvm.MethodName)) ∈ am_T := am_in 947 (by decide +kernel) (by decide +kernel)
theorem tw_948 : (Jvm.Cond.selects "HadItFrom$Net" ({ cls := "HadItFrom$Net", name := "mostWays", desc := "()I" } : Jvm.MethodName) ({ cls := "HadItFrom$Net", name := "mostWays", desc := "()I" } : Jvm.MethodName)) ∈ am_T := am_in 948 (by decide +kernel) (by decide +kernel)
set_option maxRecDepth 100000 in
theorem tw_949 : (Jvm.Cond.code ({ cls := "HadItFrom$Net", name := "mostWays", desc := "()I" } : Jvm.MethodName) prog_7_method_6_code (2 : Nat) (Option.some Jvm.ClassFile.FieldType.int)) ∈ am_T := am_in 949 rfl rfl
theorem tw_950 : (Jvm.Cond.methodLink "HadItFrom$Net" (61 : Nat) ({ cls := "HadItFrom$Net", name := "openRoom", desc := "()V" } : Jvm.MethodName)) ∈ am_T := am_in 950 (by decide +kernel) (by decide +kernel)
theorem tw_952 : (Jvm.Cond.instanceMethod ({ cls := "HadItFrom$Net", name := "openRoom", desc := "()V" } : Jvm.MethodName)) ∈ am_T := am_in 952 (by decide +kernel) (by decide +kernel)
set_option maxRecDepth 100000 in
theorem tw_953 : (Jvm.Cond.code ({ cls := "HadItFrom$Net", name := "openRoom", desc := "()V" } : Jvm.MethodName) prog_7_method_9_code (2 : Nat) (Option.none : Option Jvm.ClassFile.FieldType)) ∈ am_T := am_in 953 rfl rfl
theorem tw_954 : (Jvm.Cond.methodLink "HadItFrom$Net" (64 : Nat) ({ cls := "HadItFrom$Net", name := "findsWay", desc := "()Z" } : Jvm.MethodName)) ∈ am_T := am_in 954 (by decide +kernel) (by decide +kernel)
theorem tw_956 : (Jvm.Cond.instanceMethod ({ cls := "HadItFrom$Net", name := "findsWay", desc := "()Z" } : Jvm.MethodName)) ∈ am_T := am_in 956 (by decide +kernel) (by decide +kernel)
set_option maxRecDepth 100000 in
theorem tw_957 : (Jvm.Cond.code ({ cls := "HadItFrom$Net", name := "findsWay", desc := "()Z" } : Jvm.MethodName) prog_7_method_10_code (10 : Nat) (Option.some Jvm.ClassFile.FieldType.boolean)) ∈ am_T := am_in 957 rfl rfl
theorem tw_958 : (Jvm.Cond.constantLong "HadItFrom$Net" (77 : Nat) (281474976710656 : Int64)) ∈ am_T := am_in 958 (by decide +kernel) (by decide +kernel)
theorem tw_959 : (Jvm.Cond.methodLink "HadItFrom$Net" (79 : Nat) ({ cls := "java/lang/Long", name := "bitCount", desc := "(J)I" } : Jvm.MethodName)) ∈ am_T := am_in 959 (by decide +kernel) (by decide +kernel)
theorem tw_960 : (Jvm.Cond.static ({ cls := "java/lang/Long", name := "bitCount", desc := "(J)I" } : Jvm.MethodName)) ∈ am_T := am_in 960 (by decide +kernel) (by decide +kernel)
set_option maxRecDepth 100000 in
theorem tw_961 : (Jvm.Cond.code ({ cls := "java/lang/Long", name := "bitCount", desc := "(J)I" } : Jvm.MethodName) prog_17_method_50_code (2 : Nat) (Option.some Jvm.ClassFile.FieldType.int)) ∈ am_T := am_in 961 rfl rfl
theorem tw_962 : (Jvm.Cond.constantLong "java/lang/Long" (314 : Nat) (6148914691236517205 : Int64)) ∈ am_T := am_in 962 (by decide +kernel) (by decide +kernel)
theorem tw_963 : (Jvm.Cond.constantLong "java/lang/Long" (316 : Nat) (3689348814741910323 : Int64)) ∈ am_T := am_in 963 (by decide +kernel) (by decide +kernel)
theorem tw_964 : (Jvm.Cond.constantLong "java/lang/Long" (318 : Nat) (1085102592571150095 : Int64)) ∈ am_T := am_in 964 (by decide +kernel) (by decide +kernel)
theorem tw_965 : (Jvm.Cond.constantLong "HadItFrom$Net" (85 : Nat) (-1 : Int64)) ∈ am_T := am_in 965 (by decide +kernel) (by decide +kernel)
theorem tw_966 : (Jvm.Cond.methodLink "HadItFrom$Net" (68 : Nat) ({ cls := "HadItFrom$Net", name := "takeWay", desc := "()V" } : Jvm.MethodName)) ∈ am_T := am_in 966 (by decide +kernel) (by decide +kernel)
theorem tw_968 : (Jvm.Cond.instanceMethod ({ cls := "HadItFrom$Net", name := "takeWay", desc := "()V" } : Jvm.MethodName)) ∈ am_T := am_in 968 (by decide +kernel) (by decide +kernel)
set_option maxRecDepth 100000 in
theorem tw_969 : (Jvm.Cond.code ({ cls := "HadItFrom$Net", name := "takeWay", desc := "()V" } : Jvm.MethodName) prog_7_method_11_code (3 : Nat) (Option.none : Option Jvm.ClassFile.FieldType)) ∈ am_T := am_in 969 rfl rfl
theorem tw_970 : (Jvm.Cond.methodLink "HadItFrom$Net" (87 : Nat) ({ cls := "HadItFrom$Net", name := "passDoors", desc := "(II)V" } : Jvm.MethodName)) ∈ am_T := am_in 970 (by decide +kernel) (by decide +kernel)
theorem tw_972 : (Jvm.Cond.instanceMethod ({ cls := "HadItFrom$Net", name := "passDoors", desc := "(II)V" } : Jvm.MethodName)) ∈ am_T := am_in 972 (by decide +kernel) (by decide +kernel)
set_option maxRecDepth 100000 in
theorem tw_973 : (Jvm.Cond.code ({ cls := "HadItFrom$Net", name := "passDoors", desc := "(II)V" } : Jvm.MethodName) prog_7_method_12_code (3 : Nat) (Option.none : Option Jvm.ClassFile.FieldType)) ∈ am_T := am_in 973 rfl rfl
theorem tw_974 : (Jvm.Cond.methodLink "HadItFromLaw" (139 : Nat) ({ cls := "HadItFrom", name := "cut", desc := "(I)I" } : Jvm.MethodName)) ∈ am_T := am_in 974 (by decide +kernel) (by decide +kernel)
theorem tw_975 : (Jvm.Cond.instanceMethod ({ cls := "HadItFrom", name := "cut", desc := "(I)I" } : Jvm.MethodName)) ∈ am_T := am_in 975 (by decide +kernel) (by decide +kernel)
theorem tw_976 : (Jvm.Cond.selects "HadItFrom" ({ cls := "HadItFrom", name := "cut", desc := "(I)I" } : Jvm.MethodName) ({ cls := "HadItFrom", name := "cut", desc := "(I)I" } : Jvm.MethodName)) ∈ am_T := am_in 976 (by decide +kernel) (by decide +kernel)
set_option maxRecDepth 100000 in
theorem tw_977 : (Jvm.Cond.code ({ cls := "HadItFrom", name := "cut", desc := "(I)I" } : Jvm.MethodName) prog_1_method_31_code (2 : Nat) (Option.some Jvm.ClassFile.FieldType.int)) ∈ am_T := am_in 977 rfl rfl
theorem tw_978 : (Jvm.Cond.methodLink "HadItFrom" (281 : Nat) ({ cls := "HadItFrom$Net", name := "leastCut", desc := "()I" } : Jvm.MethodName)) ∈ am_T := am_in 978 (by decide +kernel) (by decide +kernel)
theorem tw_979 : (Jvm.Cond.instanceMethod ({ cls := "HadItFrom$Net", name := "leastCut", desc := "()I" } : Jvm.MethodName)) ∈ am_T := am_in 979 (by decide +kernel) (by decide +kernel)
theorem tw_980 : (Jvm.Cond.selects "HadItFrom$Net" ({ cls := "HadItFrom$Net", name := "leastCut", desc := "()I" } : Jvm.MethodName) ({ cls := "HadItFrom$Net", name := "leastCut", desc := "()I" } : Jvm.MethodName)) ∈ am_T := am_in 980 (by decide +kernel) (by decide +kernel)
set_option maxRecDepth 100000 in
theorem tw_981 : (Jvm.Cond.code ({ cls := "HadItFrom$Net", name := "leastCut", desc := "()I" } : Jvm.MethodName) prog_7_method_7_code (3 : Nat) (Option.some Jvm.ClassFile.FieldType.int)) ∈ am_T := am_in 981 rfl rfl
theorem tw_982 : (Jvm.Cond.methodLink "HadItFrom$Net" (71 : Nat) ({ cls := "HadItFrom$Net", name := "mostWays", desc := "()I" } : Jvm.MethodName)) ∈ am_T := am_in 982 (by decide +kernel) (by decide +kernel)
theorem tw_983 : (Jvm.Cond.methodLink "HadItFrom$Net" (74 : Nat) ({ cls := "HadItFrom$Net", name := "isNeeded", desc := "(I)Z" } : Jvm.MethodName)) ∈ am_T := am_in 983 (by decide +kernel) (by decide +kernel)
theorem tw_985 : (Jvm.Cond.instanceMethod ({ cls := "HadItFrom$Net", name := "isNeeded", desc := "(I)Z" } : Jvm.MethodName)) ∈ am_T := am_in 985 (by decide +kernel) (by decide +kernel)
set_option maxRecDepth 100000 in
theorem tw_986 : (Jvm.Cond.code ({ cls := "HadItFrom$Net", name := "isNeeded", desc := "(I)Z" } : Jvm.MethodName) prog_7_method_8_code (4 : Nat) (Option.some Jvm.ClassFile.FieldType.boolean)) ∈ am_T := am_in 986 rfl rfl
theorem tw_987 : (Jvm.Cond.methodLink "HadItFromLaw" (143 : Nat) ({ cls := "HadItFrom", name := "knots", desc := "(I)I" } : Jvm.MethodName)) ∈ am_T := am_in 987 (by decide +kernel) (by decide +kernel)
theorem tw_988 : (Jvm.Cond.instanceMethod ({ cls := "HadItFrom", name := "knots", desc := "(I)I" } : Jvm.MethodName)) ∈ am_T := am_in 988 (by decide +kernel) (by decide +kernel)
theorem tw_989 : (Jvm.Cond.selects "HadItFrom" ({ cls := "HadItFrom", name := "knots", desc := "(I)I" } : Jvm.MethodName) ({ cls := "HadItFrom", name := "knots", desc := "(I)I" } : Jvm.MethodName)) ∈ am_T := am_in 989 (by decide +kernel) (by decide +kernel)
set_option maxRecDepth 100000 in
theorem tw_990 : (Jvm.Cond.code ({ cls := "HadItFrom", name := "knots", desc := "(I)I" } : Jvm.MethodName) prog_1_method_32_code (4 : Nat) (Option.some Jvm.ClassFile.FieldType.int)) ∈ am_T := am_in 990 rfl rfl
theorem tw_991 : (Jvm.Cond.methodLink "HadItFrom" (284 : Nat) ({ cls := "HadItFrom$Net", name := "isKnot", desc := "(I)Z" } : Jvm.MethodName)) ∈ am_T := am_in 991 (by decide +kernel) (by decide +kernel)
theorem tw_992 : (Jvm.Cond.instanceMethod ({ cls := "HadItFrom$Net", name := "isKnot", desc := "(I)Z" } : Jvm.MethodName)) ∈ am_T := am_in 992 (by decide +kernel) (by decide +kernel)
theorem tw_993 : (Jvm.Cond.selects "HadItFrom$Net" ({ cls := "HadItFrom$Net", name := "isKnot", desc := "(I)Z" } : Jvm.MethodName) ({ cls := "HadItFrom$Net", name := "isKnot", desc := "(I)Z" } : Jvm.MethodName)) ∈ am_T := am_in 993 (by decide +kernel) (by decide +kernel)
set_option maxRecDepth 100000 in
theorem tw_994 : (Jvm.Cond.code ({ cls := "HadItFrom$Net", name := "isKnot", desc := "(I)Z" } : Jvm.MethodName) prog_7_method_4_code (2 : Nat) (Option.some Jvm.ClassFile.FieldType.boolean)) ∈ am_T := am_in 994 rfl rfl
theorem tw_995 : (Jvm.Cond.methodLink "HadItFrom$Net" (57 : Nat) ({ cls := "HadItFrom$Net", name := "leadsWithout", desc := "(I)Z" } : Jvm.MethodName)) ∈ am_T := am_in 995 (by decide +kernel) (by decide +kernel)
theorem tw_997 : (Jvm.Cond.instanceMethod ({ cls := "HadItFrom$Net", name := "leadsWithout", desc := "(I)Z" } : Jvm.MethodName)) ∈ am_T := am_in 997 (by decide +kernel) (by decide +kernel)
set_option maxRecDepth 100000 in
theorem tw_998 : (Jvm.Cond.code ({ cls := "HadItFrom$Net", name := "leadsWithout", desc := "(I)Z" } : Jvm.MethodName) prog_7_method_5_code (7 : Nat) (Option.some Jvm.ClassFile.FieldType.boolean)) ∈ am_T := am_in 998 rfl rfl
theorem tw_999 : (Jvm.Cond.methodLink "HadItFromLaw" (147 : Nat) ({ cls := "HadItFrom", name := "alone", desc := "(I)I" } : Jvm.MethodName)) ∈ am_T := am_in 999 (by decide +kernel) (by decide +kernel)
theorem tw_1000 : (Jvm.Cond.instanceMethod ({ cls := "HadItFrom", name := "alone", desc := "(I)I" } : Jvm.MethodName)) ∈ am_T := am_in 1000 (by decide +kernel) (by decide +kernel)
theorem tw_1001 : (Jvm.Cond.selects "HadItFrom" ({ cls := "HadItFrom", name := "alone", desc := "(I)I" } : Jvm.MethodName) ({ cls := "HadItFrom", name := "alone", desc := "(I)I" } : Jvm.MethodName)) ∈ am_T := am_in 1001 (by decide +kernel) (by decide +kernel)
set_option maxRecDepth 100000 in
theorem tw_1002 : (Jvm.Cond.code ({ cls := "HadItFrom", name := "alone", desc := "(I)I" } : Jvm.MethodName) prog_1_method_33_code (4 : Nat) (Option.some Jvm.ClassFile.FieldType.int)) ∈ am_T := am_in 1002 rfl rfl
theorem tw_1003 : (Jvm.Cond.methodLink "HadItFromLaw" (151 : Nat) ({ cls := "HadItFrom", name := "agree", desc := "(I)I" } : Jvm.MethodName)) ∈ am_T := am_in 1003 (by decide +kernel) (by decide +kernel)
theorem tw_1004 : (Jvm.Cond.instanceMethod ({ cls := "HadItFrom", name := "agree", desc := "(I)I" } : Jvm.MethodName)) ∈ am_T := am_in 1004 (by decide +kernel) (by decide +kernel)
theorem tw_1005 : (Jvm.Cond.selects "HadItFrom" ({ cls := "HadItFrom", name := "agree", desc := "(I)I" } : Jvm.MethodName) ({ cls := "HadItFrom", name := "agree", desc := "(I)I" } : Jvm.MethodName)) ∈ am_T := am_in 1005 (by decide +kernel) (by decide +kernel)
set_option maxRecDepth 100000 in
theorem tw_1006 : (Jvm.Cond.code ({ cls := "HadItFrom", name := "agree", desc := "(I)I" } : Jvm.MethodName) prog_1_method_34_code (7 : Nat) (Option.some Jvm.ClassFile.FieldType.int)) ∈ am_T := am_in 1006 rfl rfl
theorem tw_1007 : (Jvm.Cond.methodLink "HadItFrom" (287 : Nat) ({ cls := "HadItFrom$World", name := "rowsWith", desc := "(II)I" } : Jvm.MethodName)) ∈ am_T := am_in 1007 (by decide +kernel) (by decide +kernel)
theorem tw_1008 : (Jvm.Cond.instanceMethod ({ cls := "HadItFrom$World", name := "rowsWith", desc := "(II)I" } : Jvm.MethodName)) ∈ am_T := am_in 1008 (by decide +kernel) (by decide +kernel)
theorem tw_1009 : (Jvm.Cond.selects "HadItFrom$World" ({ cls := "HadItFrom$World", name := "rowsWith", desc := "(II)I" } : Jvm.MethodName) ({ cls := "HadItFrom$World", name := "rowsWith", desc := "(II)I" } : Jvm.MethodName)) ∈ am_T := am_in 1009 (by decide +kernel) (by decide +kernel)
set_option maxRecDepth 100000 in
theorem tw_1010 : (Jvm.Cond.code ({ cls := "HadItFrom$World", name := "rowsWith", desc := "(II)I" } : Jvm.MethodName) prog_12_method_19_code (6 : Nat) (Option.some Jvm.ClassFile.FieldType.int)) ∈ am_T := am_in 1010 rfl rfl
theorem tw_1011 : (Jvm.Cond.methodLink "HadItFrom$World" (154 : Nat) ({ cls := "HadItFrom$Row", name := "hasMan", desc := "(I)Z" } : Jvm.MethodName)) ∈ am_T := am_in 1011 (by decide +kernel) (by decide +kernel)
theorem tw_1012 : (Jvm.Cond.instanceMethod ({ cls := "HadItFrom$Row", name := "hasMan", desc := "(I)Z" } : Jvm.MethodName)) ∈ am_T := am_in 1012 (by decide +kernel) (by decide +kernel)
theorem tw_1013 : (Jvm.Cond.selects "HadItFrom$Row" ({ cls := "HadItFrom$Row", name := "hasMan", desc := "(I)Z" } : Jvm.MethodName) ({ cls := "HadItFrom$Row", name := "hasMan", desc := "(I)Z" } : Jvm.MethodName)) ∈ am_T := am_in 1013 (by decide +kernel) (by decide +kernel)
theorem tw_1014 : (Jvm.Cond.sameMethod "HadItFrom$Row" "HadItFrom$Row" "hasMan" "(I)Z") ∈ am_T := am_in 1014 (by decide +kernel) (by decide +kernel)
theorem tw_1015 : (Jvm.Cond.selects "HadItFrom$Gap" ({ cls := "HadItFrom$Row", name := "hasMan", desc := "(I)Z" } : Jvm.MethodName) ({ cls := "HadItFrom$Row", name := "hasMan", desc := "(I)Z" } : Jvm.MethodName)) ∈ am_T := am_in 1015 (by decide +kernel) (by decide +kernel)
theorem tw_1016 : (Jvm.Cond.selects "HadItFrom$Hidden" ({ cls := "HadItFrom$Row", name := "hasMan", desc := "(I)Z" } : Jvm.MethodName) ({ cls := "HadItFrom$Row", name := "hasMan", desc := "(I)Z" } : Jvm.MethodName)) ∈ am_T := am_in 1016 (by decide +kernel) (by decide +kernel)
theorem tw_1017 : (Jvm.Cond.selects "HadItFrom$Hung" ({ cls := "HadItFrom$Row", name := "hasMan", desc := "(I)Z" } : Jvm.MethodName) ({ cls := "HadItFrom$Row", name := "hasMan", desc := "(I)Z" } : Jvm.MethodName)) ∈ am_T := am_in 1017 (by decide +kernel) (by decide +kernel)
theorem tw_1018 : (Jvm.Cond.selects "HadItFrom$Made" ({ cls := "HadItFrom$Row", name := "hasMan", desc := "(I)Z" } : Jvm.MethodName) ({ cls := "HadItFrom$Row", name := "hasMan", desc := "(I)Z" } : Jvm.MethodName)) ∈ am_T := am_in 1018 (by decide +kernel) (by decide +kernel)
theorem tw_1019 : (Jvm.Cond.selects "HadItFrom$Raised" ({ cls := "HadItFrom$Row", name := "hasMan", desc := "(I)Z" } : Jvm.MethodName) ({ cls := "HadItFrom$Row", name := "hasMan", desc := "(I)Z" } : Jvm.MethodName)) ∈ am_T := am_in 1019 (by decide +kernel) (by decide +kernel)
theorem tw_1020 : (Jvm.Cond.selects "HadItFrom$Whole" ({ cls := "HadItFrom$Row", name := "hasMan", desc := "(I)Z" } : Jvm.MethodName) ({ cls := "HadItFrom$Row", name := "hasMan", desc := "(I)Z" } : Jvm.MethodName)) ∈ am_T := am_in 1020 (by decide +kernel) (by decide +kernel)
set_option maxRecDepth 100000 in
theorem tw_1021 : (Jvm.Cond.code ({ cls := "HadItFrom$Row", name := "hasMan", desc := "(I)Z" } : Jvm.MethodName) prog_9_method_7_code (3 : Nat) (Option.some Jvm.ClassFile.FieldType.boolean)) ∈ am_T := am_in 1021 rfl rfl
theorem tw_1022 : (Jvm.Cond.methodLink "HadItFromLaw" (155 : Nat) ({ cls := "HadItFrom", name := "weight", desc := "(I)I" } : Jvm.MethodName)) ∈ am_T := am_in 1022 (by decide +kernel) (by decide +kernel)
theorem tw_1023 : (Jvm.Cond.instanceMethod ({ cls := "HadItFrom", name := "weight", desc := "(I)I" } : Jvm.MethodName)) ∈ am_T := am_in 1023 (by decide +kernel) (by decide +kernel)
theorem tw_1024 : (Jvm.Cond.selects "HadItFrom" ({ cls := "HadItFrom", name := "weight", desc := "(I)I" } : Jvm.MethodName) ({ cls := "HadItFrom", name := "weight", desc := "(I)I" } : Jvm.MethodName)) ∈ am_T := am_in 1024 (by decide +kernel) (by decide +kernel)
set_option maxRecDepth 100000 in
theorem tw_1025 : (Jvm.Cond.code ({ cls := "HadItFrom", name := "weight", desc := "(I)I" } : Jvm.MethodName) prog_1_method_35_code (2 : Nat) (Option.some Jvm.ClassFile.FieldType.int)) ∈ am_T := am_in 1025 rfl rfl
theorem tw_1026 : (Jvm.Cond.methodLink "HadItFrom" (290 : Nat) ({ cls := "HadItFrom", name := "weightOf", desc := "(I)I" } : Jvm.MethodName)) ∈ am_T := am_in 1026 (by decide +kernel) (by decide +kernel)
theorem tw_1028 : (Jvm.Cond.instanceMethod ({ cls := "HadItFrom", name := "weightOf", desc := "(I)I" } : Jvm.MethodName)) ∈ am_T := am_in 1028 (by decide +kernel) (by decide +kernel)
set_option maxRecDepth 100000 in
theorem tw_1029 : (Jvm.Cond.code ({ cls := "HadItFrom", name := "weightOf", desc := "(I)I" } : Jvm.MethodName) prog_1_method_63_code (6 : Nat) (Option.some Jvm.ClassFile.FieldType.int)) ∈ am_T := am_in 1029 rfl rfl
theorem tw_1030 : (Jvm.Cond.methodLink "HadItFrom" (350 : Nat) ({ cls := "java/lang/Math", name := "min", desc := "(II)I" } : Jvm.MethodName)) ∈ am_T := am_in 1030 (by decide +kernel) (by decide +kernel)
theorem tw_1031 : (Jvm.Cond.methodLink "HadItFromLaw" (159 : Nat) ({ cls := "HadItFrom", name := "wordings", desc := "(I)I" } : Jvm.MethodName)) ∈ am_T := am_in 1031 (by decide +kernel) (by decide +kernel)
theorem tw_1032 : (Jvm.Cond.instanceMethod ({ cls := "HadItFrom", name := "wordings", desc := "(I)I" } : Jvm.MethodName)) ∈ am_T := am_in 1032 (by decide +kernel) (by decide +kernel)
theorem tw_1033 : (Jvm.Cond.selects "HadItFrom" ({ cls := "HadItFrom", name := "wordings", desc := "(I)I" } : Jvm.MethodName) ({ cls := "HadItFrom", name := "wordings", desc := "(I)I" } : Jvm.MethodName)) ∈ am_T := am_in 1033 (by decide +kernel) (by decide +kernel)
set_option maxRecDepth 100000 in
theorem tw_1034 : (Jvm.Cond.code ({ cls := "HadItFrom", name := "wordings", desc := "(I)I" } : Jvm.MethodName) prog_1_method_36_code (2 : Nat) (Option.some Jvm.ClassFile.FieldType.int)) ∈ am_T := am_in 1034 rfl rfl
theorem tw_1035 : (Jvm.Cond.methodLink "HadItFrom" (293 : Nat) ({ cls := "HadItFrom$World", name := "wordingsOf", desc := "(II)I" } : Jvm.MethodName)) ∈ am_T := am_in 1035 (by decide +kernel) (by decide +kernel)
theorem tw_1036 : (Jvm.Cond.instanceMethod ({ cls := "HadItFrom$World", name := "wordingsOf", desc := "(II)I" } : Jvm.MethodName)) ∈ am_T := am_in 1036 (by decide +kernel) (by decide +kernel)
theorem tw_1037 : (Jvm.Cond.selects "HadItFrom$World" ({ cls := "HadItFrom$World", name := "wordingsOf", desc := "(II)I" } : Jvm.MethodName) ({ cls := "HadItFrom$World", name := "wordingsOf", desc := "(II)I" } : Jvm.MethodName)) ∈ am_T := am_in 1037 (by decide +kernel) (by decide +kernel)
set_option maxRecDepth 100000 in
theorem tw_1038 : (Jvm.Cond.code ({ cls := "HadItFrom$World", name := "wordingsOf", desc := "(II)I" } : Jvm.MethodName) prog_12_method_21_code (5 : Nat) (Option.some Jvm.ClassFile.FieldType.int)) ∈ am_T := am_in 1038 rfl rfl
theorem tw_1039 : (Jvm.Cond.methodLink "HadItFrom$World" (160 : Nat) ({ cls := "HadItFrom$World", name := "rowsWorded", desc := "(II)I" } : Jvm.MethodName)) ∈ am_T := am_in 1039 (by decide +kernel) (by decide +kernel)
theorem tw_1040 : (Jvm.Cond.instanceMethod ({ cls := "HadItFrom$World", name := "rowsWorded", desc := "(II)I" } : Jvm.MethodName)) ∈ am_T := am_in 1040 (by decide +kernel) (by decide +kernel)
theorem tw_1041 : (Jvm.Cond.selects "HadItFrom$World" ({ cls := "HadItFrom$World", name := "rowsWorded", desc := "(II)I" } : Jvm.MethodName) ({ cls := "HadItFrom$World", name := "rowsWorded", desc := "(II)I" } : Jvm.MethodName)) ∈ am_T := am_in 1041 (by decide +kernel) (by decide +kernel)
set_option maxRecDepth 100000 in
theorem tw_1042 : (Jvm.Cond.code ({ cls := "HadItFrom$World", name := "rowsWorded", desc := "(II)I" } : Jvm.MethodName) prog_12_method_20_code (6 : Nat) (Option.some Jvm.ClassFile.FieldType.int)) ∈ am_T := am_in 1042 rfl rfl
theorem tw_1043 : (Jvm.Cond.methodLink "HadItFromLaw" (163 : Nat) ({ cls := "HadItFrom", name := "mouths", desc := "(I)I" } : Jvm.MethodName)) ∈ am_T := am_in 1043 (by decide +kernel) (by decide +kernel)
theorem tw_1044 : (Jvm.Cond.instanceMethod ({ cls := "HadItFrom", name := "mouths", desc := "(I)I" } : Jvm.MethodName)) ∈ am_T := am_in 1044 (by decide +kernel) (by decide +kernel)
theorem tw_1045 : (Jvm.Cond.selects "HadItFrom" ({ cls := "HadItFrom", name := "mouths", desc := "(I)I" } : Jvm.MethodName) ({ cls := "HadItFrom", name := "mouths", desc := "(I)I" } : Jvm.MethodName)) ∈ am_T := am_in 1045 (by decide +kernel) (by decide +kernel)
set_option maxRecDepth 100000 in
theorem tw_1046 : (Jvm.Cond.code ({ cls := "HadItFrom", name := "mouths", desc := "(I)I" } : Jvm.MethodName) prog_1_method_37_code (5 : Nat) (Option.some Jvm.ClassFile.FieldType.int)) ∈ am_T := am_in 1046 rfl rfl
theorem tw_1047 : (Jvm.Cond.methodLink "HadItFrom" (296 : Nat) ({ cls := "java/lang/Integer", name := "bitCount", desc := "(I)I" } : Jvm.MethodName)) ∈ am_T := am_in 1047 (by decide +kernel) (by decide +kernel)
theorem tw_1048 : (Jvm.Cond.static ({ cls := "java/lang/Integer", name := "bitCount", desc := "(I)I" } : Jvm.MethodName)) ∈ am_T := am_in 1048 (by decide +kernel) (by decide +kernel)
set_option maxRecDepth 100000 in
theorem tw_1049 : (Jvm.Cond.code ({ cls := "java/lang/Integer", name := "bitCount", desc := "(I)I" } : Jvm.MethodName) prog_16_method_49_code (1 : Nat) (Option.some Jvm.ClassFile.FieldType.int)) ∈ am_T := am_in 1049 rfl rfl
theorem tw_1050 : (Jvm.Cond.constant "java/lang/Integer" (265 : Nat) (1431655765 : Int32)) ∈ am_T := am_in 1050 (by decide +kernel) (by decide +kernel)
theorem tw_1051 : (Jvm.Cond.constant "java/lang/Integer" (266 : Nat) (858993459 : Int32)) ∈ am_T := am_in 1051 (by decide +kernel) (by decide +kernel)
theorem tw_1052 : (Jvm.Cond.constant "java/lang/Integer" (267 : Nat) (252645135 : Int32)) ∈ am_T := am_in 1052 (by decide +kernel) (by decide +kernel)
theorem tw_1053 : (Jvm.Cond.methodLink "HadItFrom" (301 : Nat) ({ cls := "HadItFrom", name := "isMouth", desc := "(III)Z" } : Jvm.MethodName)) ∈ am_T := am_in 1053 (by decide +kernel) (by decide +kernel)
theorem tw_1055 : (Jvm.Cond.instanceMethod ({ cls := "HadItFrom", name := "isMouth", desc := "(III)Z" } : Jvm.MethodName)) ∈ am_T := am_in 1055 (by decide +kernel) (by decide +kernel)
set_option maxRecDepth 100000 in
theorem tw_1056 : (Jvm.Cond.code ({ cls := "HadItFrom", name := "isMouth", desc := "(III)Z" } : Jvm.MethodName) prog_1_method_65_code (6 : Nat) (Option.some Jvm.ClassFile.FieldType.boolean)) ∈ am_T := am_in 1056 rfl rfl
theorem tw_1057 : (Jvm.Cond.methodLink "HadItFrom" (353 : Nat) ({ cls := "HadItFrom$World", name := "rowsWorded", desc := "(II)I" } : Jvm.MethodName)) ∈ am_T := am_in 1057 (by decide +kernel) (by decide +kernel)
theorem tw_1058 : (Jvm.Cond.methodLink "HadItFromLaw" (167 : Nat) ({ cls := "HadItFrom", name := "clash", desc := "(IIZ)I" } : Jvm.MethodName)) ∈ am_T := am_in 1058 (by decide +kernel) (by decide +kernel)
theorem tw_1059 : (Jvm.Cond.instanceMethod ({ cls := "HadItFrom", name := "clash", desc := "(IIZ)I" } : Jvm.MethodName)) ∈ am_T := am_in 1059 (by decide +kernel) (by decide +kernel)
theorem tw_1060 : (Jvm.Cond.selects "HadItFrom" ({ cls := "HadItFrom", name := "clash", desc := "(IIZ)I" } : Jvm.MethodName) ({ cls := "HadItFrom", name := "clash", desc := "(IIZ)I" } : Jvm.MethodName)) ∈ am_T := am_in 1060 (by decide +kernel) (by decide +kernel)
set_option maxRecDepth 100000 in
theorem tw_1061 : (Jvm.Cond.code ({ cls := "HadItFrom", name := "clash", desc := "(IIZ)I" } : Jvm.MethodName) prog_1_method_38_code (4 : Nat) (Option.some Jvm.ClassFile.FieldType.int)) ∈ am_T := am_in 1061 rfl rfl
theorem tw_1062 : (Jvm.Cond.methodLink "HadItFrom" (304 : Nat) ({ cls := "HadItFrom$World", name := "isClash", desc := "(II)Z" } : Jvm.MethodName)) ∈ am_T := am_in 1062 (by decide +kernel) (by decide +kernel)
theorem tw_1063 : (Jvm.Cond.instanceMethod ({ cls := "HadItFrom$World", name := "isClash", desc := "(II)Z" } : Jvm.MethodName)) ∈ am_T := am_in 1063 (by decide +kernel) (by decide +kernel)
theorem tw_1064 : (Jvm.Cond.selects "HadItFrom$World" ({ cls := "HadItFrom$World", name := "isClash", desc := "(II)Z" } : Jvm.MethodName) ({ cls := "HadItFrom$World", name := "isClash", desc := "(II)Z" } : Jvm.MethodName)) ∈ am_T := am_in 1064 (by decide +kernel) (by decide +kernel)
set_option maxRecDepth 100000 in
theorem tw_1065 : (Jvm.Cond.code ({ cls := "HadItFrom$World", name := "isClash", desc := "(II)Z" } : Jvm.MethodName) prog_12_method_23_code (3 : Nat) (Option.some Jvm.ClassFile.FieldType.boolean)) ∈ am_T := am_in 1065 rfl rfl
theorem tw_1066 : (Jvm.Cond.methodLink "HadItFrom" (307 : Nat) ({ cls := "HadItFrom$World", name := "turnClash", desc := "(II)V" } : Jvm.MethodName)) ∈ am_T := am_in 1066 (by decide +kernel) (by decide +kernel)
theorem tw_1067 : (Jvm.Cond.instanceMethod ({ cls := "HadItFrom$World", name := "turnClash", desc := "(II)V" } : Jvm.MethodName)) ∈ am_T := am_in 1067 (by decide +kernel) (by decide +kernel)
theorem tw_1068 : (Jvm.Cond.selects "HadItFrom$World" ({ cls := "HadItFrom$World", name := "turnClash", desc := "(II)V" } : Jvm.MethodName) ({ cls := "HadItFrom$World", name := "turnClash", desc := "(II)V" } : Jvm.MethodName)) ∈ am_T := am_in 1068 (by decide +kernel) (by decide +kernel)
set_option maxRecDepth 100000 in
theorem tw_1069 : (Jvm.Cond.code ({ cls := "HadItFrom$World", name := "turnClash", desc := "(II)V" } : Jvm.MethodName) prog_12_method_24_code (3 : Nat) (Option.none : Option Jvm.ClassFile.FieldType)) ∈ am_T := am_in 1069 rfl rfl
theorem tw_1070 : (Jvm.Cond.methodLink "HadItFromLaw" (172 : Nat) ({ cls := "HadItFrom", name := "doubt", desc := "(I)I" } : Jvm.MethodName)) ∈ am_T := am_in 1070 (by decide +kernel) (by decide +kernel)
theorem tw_1071 : (Jvm.Cond.instanceMethod ({ cls := "HadItFrom", name := "doubt", desc := "(I)I" } : Jvm.MethodName)) ∈ am_T := am_in 1071 (by decide +kernel) (by decide +kernel)
theorem tw_1072 : (Jvm.Cond.selects "HadItFrom" ({ cls := "HadItFrom", name := "doubt", desc := "(I)I" } : Jvm.MethodName) ({ cls := "HadItFrom", name := "doubt", desc := "(I)I" } : Jvm.MethodName)) ∈ am_T := am_in 1072 (by decide +kernel) (by decide +kernel)
set_option maxRecDepth 100000 in
theorem tw_1073 : (Jvm.Cond.code ({ cls := "HadItFrom", name := "doubt", desc := "(I)I" } : Jvm.MethodName) prog_1_method_39_code (7 : Nat) (Option.some Jvm.ClassFile.FieldType.int)) ∈ am_T := am_in 1073 rfl rfl
theorem tw_1074 : (Jvm.Cond.methodLink "HadItFrom" (310 : Nat) ({ cls := "HadItFrom$World", name := "endsClashes", desc := "(I)Z" } : Jvm.MethodName)) ∈ am_T := am_in 1074 (by decide +kernel) (by decide +kernel)
theorem tw_1075 : (Jvm.Cond.instanceMethod ({ cls := "HadItFrom$World", name := "endsClashes", desc := "(I)Z" } : Jvm.MethodName)) ∈ am_T := am_in 1075 (by decide +kernel) (by decide +kernel)
theorem tw_1076 : (Jvm.Cond.selects "HadItFrom$World" ({ cls := "HadItFrom$World", name := "endsClashes", desc := "(I)Z" } : Jvm.MethodName) ({ cls := "HadItFrom$World", name := "endsClashes", desc := "(I)Z" } : Jvm.MethodName)) ∈ am_T := am_in 1076 (by decide +kernel) (by decide +kernel)
set_option maxRecDepth 100000 in
theorem tw_1077 : (Jvm.Cond.code ({ cls := "HadItFrom$World", name := "endsClashes", desc := "(I)Z" } : Jvm.MethodName) prog_12_method_25_code (3 : Nat) (Option.some Jvm.ClassFile.FieldType.boolean)) ∈ am_T := am_in 1077 rfl rfl
theorem tw_1078 : (Jvm.Cond.methodLink "HadItFrom" (313 : Nat) ({ cls := "HadItFrom", name := "weightOfSet", desc := "(I)I" } : Jvm.MethodName)) ∈ am_T := am_in 1078 (by decide +kernel) (by decide +kernel)
theorem tw_1080 : (Jvm.Cond.instanceMethod ({ cls := "HadItFrom", name := "weightOfSet", desc := "(I)I" } : Jvm.MethodName)) ∈ am_T := am_in 1080 (by decide +kernel) (by decide +kernel)
set_option maxRecDepth 100000 in
theorem tw_1081 : (Jvm.Cond.code ({ cls := "HadItFrom", name := "weightOfSet", desc := "(I)I" } : Jvm.MethodName) prog_1_method_64_code (4 : Nat) (Option.some Jvm.ClassFile.FieldType.int)) ∈ am_T := am_in 1081 rfl rfl
theorem tw_1082 : (Jvm.Cond.methodLink "HadItFromLaw" (176 : Nat) ({ cls := "HadItFrom", name := "like", desc := "(II)I" } : Jvm.MethodName)) ∈ am_T := am_in 1082 (by decide +kernel) (by decide +kernel)
theorem tw_1083 : (Jvm.Cond.instanceMethod ({ cls := "HadItFrom", name := "like", desc := "(II)I" } : Jvm.MethodName)) ∈ am_T := am_in 1083 (by decide +kernel) (by decide +kernel)
theorem tw_1084 : (Jvm.Cond.selects "HadItFrom" ({ cls := "HadItFrom", name := "like", desc := "(II)I" } : Jvm.MethodName) ({ cls := "HadItFrom", name := "like", desc := "(II)I" } : Jvm.MethodName)) ∈ am_T := am_in 1084 (by decide +kernel) (by decide +kernel)
set_option maxRecDepth 100000 in
theorem tw_1085 : (Jvm.Cond.code ({ cls := "HadItFrom", name := "like", desc := "(II)I" } : Jvm.MethodName) prog_1_method_40_code (7 : Nat) (Option.some Jvm.ClassFile.FieldType.int)) ∈ am_T := am_in 1085 rfl rfl
theorem tw_1086 : (Jvm.Cond.methodLink "HadItFrom" (316 : Nat) ({ cls := "HadItFrom$World", name := "likeness", desc := "(LHadItFrom$Row;LHadItFrom$Row;)I" } : Jvm.MethodName)) ∈ am_T := am_in 1086 (by decide +kernel) (by decide +kernel)
theorem tw_1087 : (Jvm.Cond.instanceMethod ({ cls := "HadItFrom$World", name := "likeness", desc := "(LHadItFrom$Row;LHadItFrom$Row;)I" } : Jvm.MethodName)) ∈ am_T := am_in 1087 (by decide +kernel) (by decide +kernel)
theorem tw_1088 : (Jvm.Cond.selects "HadItFrom$World" ({ cls := "HadItFrom$World", name := "likeness", desc := "(LHadItFrom$Row;LHadItFrom$Row;)I" } : Jvm.MethodName) ({ cls := "HadItFrom$World", name := "likeness", desc := "(LHadItFrom$Row;LHadItFrom$Row;)I" } : Jvm.MethodName)) ∈ am_T := am_in 1088 (by decide +kernel) (by decide +kernel)
set_option maxRecDepth 100000 in
theorem tw_1089 : (Jvm.Cond.code ({ cls := "HadItFrom$World", name := "likeness", desc := "(LHadItFrom$Row;LHadItFrom$Row;)I" } : Jvm.MethodName) prog_12_method_26_code (6 : Nat) (Option.some Jvm.ClassFile.FieldType.int)) ∈ am_T := am_in 1089 rfl rfl
theorem tw_1090 : (Jvm.Cond.methodLink "HadItFrom$World" (167 : Nat) ({ cls := "HadItFrom$Row", name := "sameMenAhead", desc := "(LHadItFrom$Row;)I" } : Jvm.MethodName)) ∈ am_T := am_in 1090 (by decide +kernel) (by decide +kernel)
theorem tw_1091 : (Jvm.Cond.instanceMethod ({ cls := "HadItFrom$Row", name := "sameMenAhead", desc := "(LHadItFrom$Row;)I" } : Jvm.MethodName)) ∈ am_T := am_in 1091 (by decide +kernel) (by decide +kernel)
theorem tw_1092 : (Jvm.Cond.selects "HadItFrom$Row" ({ cls := "HadItFrom$Row", name := "sameMenAhead", desc := "(LHadItFrom$Row;)I" } : Jvm.MethodName) ({ cls := "HadItFrom$Row", name := "sameMenAhead", desc := "(LHadItFrom$Row;)I" } : Jvm.MethodName)) ∈ am_T := am_in 1092 (by decide +kernel) (by decide +kernel)
theorem tw_1093 : (Jvm.Cond.sameMethod "HadItFrom$Row" "HadItFrom$Row" "sameMenAhead" "(LHadItFrom$Row;)I") ∈ am_T := am_in 1093 (by decide +kernel) (by decide +kernel)
theorem tw_1094 : (Jvm.Cond.selects "HadItFrom$Gap" ({ cls := "HadItFrom$Row", name := "sameMenAhead", desc := "(LHadItFrom$Row;)I" } : Jvm.MethodName) ({ cls := "HadItFrom$Row", name := "sameMenAhead", desc := "(LHadItFrom$Row;)I" } : Jvm.MethodName)) ∈ am_T := am_in 1094 (by decide +kernel) (by decide +kernel)
theorem tw_1095 : (Jvm.Cond.selects "HadItFrom$Hidden" ({ cls := "HadItFrom$Row", name := "sameMenAhead", desc := "(LHadItFrom$Row;)I" } : Jvm.MethodName) ({ cls := "HadItFrom$Row", name := "sameMenAhead", desc := "(LHadItFrom$Row;)I" } : Jvm.MethodName)) ∈ am_T := am_in 1095 (by decide +kernel) (by decide +kernel)
theorem tw_1096 : (Jvm.Cond.selects "HadItFrom$Hung" ({ cls := "HadItFrom$Row", name := "sameMenAhead", desc := "(LHadItFrom$Row;)I" } : Jvm.MethodName) ({ cls := "HadItFrom$Row", name := "sameMenAhead", desc := "(LHadItFrom$Row;)I" } : Jvm.MethodName)) ∈ am_T := am_in 1096 (by decide +kernel) (by decide +kernel)
theorem tw_1097 : (Jvm.Cond.selects "HadItFrom$Made" ({ cls := "HadItFrom$Row", name := "sameMenAhead", desc := "(LHadItFrom$Row;)I" } : Jvm.MethodName) ({ cls := "HadItFrom$Row", name := "sameMenAhead", desc := "(LHadItFrom$Row;)I" } : Jvm.MethodName)) ∈ am_T := am_in 1097 (by decide +kernel) (by decide +kernel)
theorem tw_1098 : (Jvm.Cond.selects "HadItFrom$Raised" ({ cls := "HadItFrom$Row", name := "sameMenAhead", desc := "(LHadItFrom$Row;)I" } : Jvm.MethodName) ({ cls := "HadItFrom$Row", name := "sameMenAhead", desc := "(LHadItFrom$Row;)I" } : Jvm.MethodName)) ∈ am_T := am_in 1098 (by decide +kernel) (by decide +kernel)
theorem tw_1099 : (Jvm.Cond.selects "HadItFrom$Whole" ({ cls := "HadItFrom$Row", name := "sameMenAhead", desc := "(LHadItFrom$Row;)I" } : Jvm.MethodName) ({ cls := "HadItFrom$Row", name := "sameMenAhead", desc := "(LHadItFrom$Row;)I" } : Jvm.MethodName)) ∈ am_T := am_in 1099 (by decide +kernel) (by decide +kernel)
set_option maxRecDepth 100000 in
theorem tw_1100 : (Jvm.Cond.code ({ cls := "HadItFrom$Row", name := "sameMenAhead", desc := "(LHadItFrom$Row;)I" } : Jvm.MethodName) prog_9_method_9_code (3 : Nat) (Option.some Jvm.ClassFile.FieldType.int)) ∈ am_T := am_in 1100 rfl rfl
theorem tw_1101 : (Jvm.Cond.methodLink "HadItFrom$World" (170 : Nat) ({ cls := "HadItFrom$Row", name := "goesOnAs", desc := "(ILHadItFrom$Row;I)Z" } : Jvm.MethodName)) ∈ am_T := am_in 1101 (by decide +kernel) (by decide +kernel)
theorem tw_1102 : (Jvm.Cond.instanceMethod ({ cls := "HadItFrom$Row", name := "goesOnAs", desc := "(ILHadItFrom$Row;I)Z" } : Jvm.MethodName)) ∈ am_T := am_in 1102 (by decide +kernel) (by decide +kernel)
theorem tw_1103 : (Jvm.Cond.selects "HadItFrom$Row" ({ cls := "HadItFrom$Row", name := "goesOnAs", desc := "(ILHadItFrom$Row;I)Z" } : Jvm.MethodName) ({ cls := "HadItFrom$Row", name := "goesOnAs", desc := "(ILHadItFrom$Row;I)Z" } : Jvm.MethodName)) ∈ am_T := am_in 1103 (by decide +kernel) (by decide +kernel)
theorem tw_1104 : (Jvm.Cond.sameMethod "HadItFrom$Row" "HadItFrom$Row" "goesOnAs" "(ILHadItFrom$Row;I)Z") ∈ am_T := am_in 1104 (by decide +kernel) (by decide +kernel)
theorem tw_1105 : (Jvm.Cond.selects "HadItFrom$Gap" ({ cls := "HadItFrom$Row", name := "goesOnAs", desc := "(ILHadItFrom$Row;I)Z" } : Jvm.MethodName) ({ cls := "HadItFrom$Row", name := "goesOnAs", desc := "(ILHadItFrom$Row;I)Z" } : Jvm.MethodName)) ∈ am_T := am_in 1105 (by decide +kernel) (by decide +kernel)
theorem tw_1106 : (Jvm.Cond.selects "HadItFrom$Hidden" ({ cls := "HadItFrom$Row", name := "goesOnAs", desc := "(ILHadItFrom$Row;I)Z" } : Jvm.MethodName) ({ cls := "HadItFrom$Row", name := "goesOnAs", desc := "(ILHadItFrom$Row;I)Z" } : Jvm.MethodName)) ∈ am_T := am_in 1106 (by decide +kernel) (by decide +kernel)
theorem tw_1107 : (Jvm.Cond.selects "HadItFrom$Hung" ({ cls := "HadItFrom$Row", name := "goesOnAs", desc := "(ILHadItFrom$Row;I)Z" } : Jvm.MethodName) ({ cls := "HadItFrom$Row", name := "goesOnAs", desc := "(ILHadItFrom$Row;I)Z" } : Jvm.MethodName)) ∈ am_T := am_in 1107 (by decide +kernel) (by decide +kernel)
theorem tw_1108 : (Jvm.Cond.selects "HadItFrom$Made" ({ cls := "HadItFrom$Row", name := "goesOnAs", desc := "(ILHadItFrom$Row;I)Z" } : Jvm.MethodName) ({ cls := "HadItFrom$Row", name := "goesOnAs", desc := "(ILHadItFrom$Row;I)Z" } : Jvm.MethodName)) ∈ am_T := am_in 1108 (by decide +kernel) (by decide +kernel)
theorem tw_1109 : (Jvm.Cond.selects "HadItFrom$Raised" ({ cls := "HadItFrom$Row", name := "goesOnAs", desc := "(ILHadItFrom$Row;I)Z" } : Jvm.MethodName) ({ cls := "HadItFrom$Row", name := "goesOnAs", desc := "(ILHadItFrom$Row;I)Z" } : Jvm.MethodName)) ∈ am_T := am_in 1109 (by decide +kernel) (by decide +kernel)
theorem tw_1110 : (Jvm.Cond.selects "HadItFrom$Whole" ({ cls := "HadItFrom$Row", name := "goesOnAs", desc := "(ILHadItFrom$Row;I)Z" } : Jvm.MethodName) ({ cls := "HadItFrom$Row", name := "goesOnAs", desc := "(ILHadItFrom$Row;I)Z" } : Jvm.MethodName)) ∈ am_T := am_in 1110 (by decide +kernel) (by decide +kernel)
set_option maxRecDepth 100000 in
theorem tw_1111 : (Jvm.Cond.code ({ cls := "HadItFrom$Row", name := "goesOnAs", desc := "(ILHadItFrom$Row;I)Z" } : Jvm.MethodName) prog_9_method_10_code (5 : Nat) (Option.some Jvm.ClassFile.FieldType.boolean)) ∈ am_T := am_in 1111 rfl rfl
theorem tw_1112 : (Jvm.Cond.methodLink "HadItFromLaw" (180 : Nat) ({ cls := "HadItFrom", name := "between", desc := "(II)I" } : Jvm.MethodName)) ∈ am_T := am_in 1112 (by decide +kernel) (by decide +kernel)
theorem tw_1113 : (Jvm.Cond.instanceMethod ({ cls := "HadItFrom", name := "between", desc := "(II)I" } : Jvm.MethodName)) ∈ am_T := am_in 1113 (by decide +kernel) (by decide +kernel)
theorem tw_1114 : (Jvm.Cond.selects "HadItFrom" ({ cls := "HadItFrom", name := "between", desc := "(II)I" } : Jvm.MethodName) ({ cls := "HadItFrom", name := "between", desc := "(II)I" } : Jvm.MethodName)) ∈ am_T := am_in 1114 (by decide +kernel) (by decide +kernel)
set_option maxRecDepth 100000 in
theorem tw_1115 : (Jvm.Cond.code ({ cls := "HadItFrom", name := "between", desc := "(II)I" } : Jvm.MethodName) prog_1_method_41_code (6 : Nat) (Option.some Jvm.ClassFile.FieldType.int)) ∈ am_T := am_in 1115 rfl rfl
theorem tw_1116 : (Jvm.Cond.methodLink "HadItFromLaw" (184 : Nat) ({ cls := "HadItFrom", name := "silent", desc := "(I)I" } : Jvm.MethodName)) ∈ am_T := am_in 1116 (by decide +kernel) (by decide +kernel)
theorem tw_1117 : (Jvm.Cond.instanceMethod ({ cls := "HadItFrom", name := "silent", desc := "(I)I" } : Jvm.MethodName)) ∈ am_T := am_in 1117 (by decide +kernel) (by decide +kernel)
theorem tw_1118 : (Jvm.Cond.selects "HadItFrom" ({ cls := "HadItFrom", name := "silent", desc := "(I)I" } : Jvm.MethodName) ({ cls := "HadItFrom", name := "silent", desc := "(I)I" } : Jvm.MethodName)) ∈ am_T := am_in 1118 (by decide +kernel) (by decide +kernel)
set_option maxRecDepth 100000 in
theorem tw_1119 : (Jvm.Cond.code ({ cls := "HadItFrom", name := "silent", desc := "(I)I" } : Jvm.MethodName) prog_1_method_42_code (4 : Nat) (Option.some Jvm.ClassFile.FieldType.int)) ∈ am_T := am_in 1119 rfl rfl
theorem tw_1120 : (Jvm.Cond.methodLink "HadItFrom" (320 : Nat) ({ cls := "HadItFrom$World", name := "toldOf", desc := "(I)I" } : Jvm.MethodName)) ∈ am_T := am_in 1120 (by decide +kernel) (by decide +kernel)
theorem tw_1121 : (Jvm.Cond.instanceMethod ({ cls := "HadItFrom$World", name := "toldOf", desc := "(I)I" } : Jvm.MethodName)) ∈ am_T := am_in 1121 (by decide +kernel) (by decide +kernel)
theorem tw_1122 : (Jvm.Cond.selects "HadItFrom$World" ({ cls := "HadItFrom$World", name := "toldOf", desc := "(I)I" } : Jvm.MethodName) ({ cls := "HadItFrom$World", name := "toldOf", desc := "(I)I" } : Jvm.MethodName)) ∈ am_T := am_in 1122 (by decide +kernel) (by decide +kernel)
set_option maxRecDepth 100000 in
theorem tw_1123 : (Jvm.Cond.code ({ cls := "HadItFrom$World", name := "toldOf", desc := "(I)I" } : Jvm.MethodName) prog_12_method_27_code (6 : Nat) (Option.some Jvm.ClassFile.FieldType.int)) ∈ am_T := am_in 1123 rfl rfl
theorem tw_1124 : (Jvm.Cond.methodLink "HadItFrom$World" (174 : Nat) ({ cls := "HadItFrom$Row", name := "tellersOf", desc := "(I)I" } : Jvm.MethodName)) ∈ am_T := am_in 1124 (by decide +kernel) (by decide +kernel)
theorem tw_1125 : (Jvm.Cond.instanceMethod ({ cls := "HadItFrom$Row", name := "tellersOf", desc := "(I)I" } : Jvm.MethodName)) ∈ am_T := am_in 1125 (by decide +kernel) (by decide +kernel)
theorem tw_1126 : (Jvm.Cond.selects "HadItFrom$Row" ({ cls := "HadItFrom$Row", name := "tellersOf", desc := "(I)I" } : Jvm.MethodName) ({ cls := "HadItFrom$Row", name := "tellersOf", desc := "(I)I" } : Jvm.MethodName)) ∈ am_T := am_in 1126 (by decide +kernel) (by decide +kernel)
theorem tw_1127 : (Jvm.Cond.sameMethod "HadItFrom$Row" "HadItFrom$Row" "tellersOf" "(I)I") ∈ am_T := am_in 1127 (by decide +kernel) (by decide +kernel)
theorem tw_1128 : (Jvm.Cond.selects "HadItFrom$Gap" ({ cls := "HadItFrom$Row", name := "tellersOf", desc := "(I)I" } : Jvm.MethodName) ({ cls := "HadItFrom$Row", name := "tellersOf", desc := "(I)I" } : Jvm.MethodName)) ∈ am_T := am_in 1128 (by decide +kernel) (by decide +kernel)
theorem tw_1129 : (Jvm.Cond.selects "HadItFrom$Hidden" ({ cls := "HadItFrom$Row", name := "tellersOf", desc := "(I)I" } : Jvm.MethodName) ({ cls := "HadItFrom$Row", name := "tellersOf", desc := "(I)I" } : Jvm.MethodName)) ∈ am_T := am_in 1129 (by decide +kernel) (by decide +kernel)
theorem tw_1130 : (Jvm.Cond.selects "HadItFrom$Hung" ({ cls := "HadItFrom$Row", name := "tellersOf", desc := "(I)I" } : Jvm.MethodName) ({ cls := "HadItFrom$Row", name := "tellersOf", desc := "(I)I" } : Jvm.MethodName)) ∈ am_T := am_in 1130 (by decide +kernel) (by decide +kernel)
theorem tw_1131 : (Jvm.Cond.selects "HadItFrom$Made" ({ cls := "HadItFrom$Row", name := "tellersOf", desc := "(I)I" } : Jvm.MethodName) ({ cls := "HadItFrom$Row", name := "tellersOf", desc := "(I)I" } : Jvm.MethodName)) ∈ am_T := am_in 1131 (by decide +kernel) (by decide +kernel)
theorem tw_1132 : (Jvm.Cond.selects "HadItFrom$Raised" ({ cls := "HadItFrom$Row", name := "tellersOf", desc := "(I)I" } : Jvm.MethodName) ({ cls := "HadItFrom$Row", name := "tellersOf", desc := "(I)I" } : Jvm.MethodName)) ∈ am_T := am_in 1132 (by decide +kernel) (by decide +kernel)
theorem tw_1133 : (Jvm.Cond.selects "HadItFrom$Whole" ({ cls := "HadItFrom$Row", name := "tellersOf", desc := "(I)I" } : Jvm.MethodName) ({ cls := "HadItFrom$Row", name := "tellersOf", desc := "(I)I" } : Jvm.MethodName)) ∈ am_T := am_in 1133 (by decide +kernel) (by decide +kernel)
set_option maxRecDepth 100000 in
theorem tw_1134 : (Jvm.Cond.code ({ cls := "HadItFrom$Row", name := "tellersOf", desc := "(I)I" } : Jvm.MethodName) prog_9_method_8_code (4 : Nat) (Option.some Jvm.ClassFile.FieldType.int)) ∈ am_T := am_in 1134 rfl rfl
theorem tw_1135 : (Jvm.Cond.methodLink "HadItFromLaw" (188 : Nat) ({ cls := "HadItFrom", name := "beside", desc := "(II)I" } : Jvm.MethodName)) ∈ am_T := am_in 1135 (by decide +kernel) (by decide +kernel)
theorem tw_1136 : (Jvm.Cond.instanceMethod ({ cls := "HadItFrom", name := "beside", desc := "(II)I" } : Jvm.MethodName)) ∈ am_T := am_in 1136 (by decide +kernel) (by decide +kernel)
theorem tw_1137 : (Jvm.Cond.selects "HadItFrom" ({ cls := "HadItFrom", name := "beside", desc := "(II)I" } : Jvm.MethodName) ({ cls := "HadItFrom", name := "beside", desc := "(II)I" } : Jvm.MethodName)) ∈ am_T := am_in 1137 (by decide +kernel) (by decide +kernel)
set_option maxRecDepth 100000 in
theorem tw_1138 : (Jvm.Cond.code ({ cls := "HadItFrom", name := "beside", desc := "(II)I" } : Jvm.MethodName) prog_1_method_43_code (9 : Nat) (Option.some Jvm.ClassFile.FieldType.int)) ∈ am_T := am_in 1138 rfl rfl
theorem tw_1139 : (Jvm.Cond.methodLink "HadItFrom" (323 : Nat) ({ cls := "HadItFrom$World", name := "numbersOf", desc := "(I)[I" } : Jvm.MethodName)) ∈ am_T := am_in 1139 (by decide +kernel) (by decide +kernel)
theorem tw_1140 : (Jvm.Cond.methodLink "HadItFromLaw" (192 : Nat) ({ cls := "HadItFrom", name := "act", desc := "(IIII)I" } : Jvm.MethodName)) ∈ am_T := am_in 1140 (by decide +kernel) (by decide +kernel)
theorem tw_1141 : (Jvm.Cond.instanceMethod ({ cls := "HadItFrom", name := "act", desc := "(IIII)I" } : Jvm.MethodName)) ∈ am_T := am_in 1141 (by decide +kernel) (by decide +kernel)
theorem tw_1142 : (Jvm.Cond.selects "HadItFrom" ({ cls := "HadItFrom", name := "act", desc := "(IIII)I" } : Jvm.MethodName) ({ cls := "HadItFrom", name := "act", desc := "(IIII)I" } : Jvm.MethodName)) ∈ am_T := am_in 1142 (by decide +kernel) (by decide +kernel)
set_option maxRecDepth 100000 in
theorem tw_1143 : (Jvm.Cond.code ({ cls := "HadItFrom", name := "act", desc := "(IIII)I" } : Jvm.MethodName) prog_1_method_44_code (6 : Nat) (Option.some Jvm.ClassFile.FieldType.int)) ∈ am_T := am_in 1143 rfl rfl
theorem tw_1144 : (Jvm.Cond.methodLink "HadItFrom" (327 : Nat) ({ cls := "HadItFrom$Row", name := "actLinks", desc := "(I[I)I" } : Jvm.MethodName)) ∈ am_T := am_in 1144 (by decide +kernel) (by decide +kernel)
theorem tw_1145 : (Jvm.Cond.instanceMethod ({ cls := "HadItFrom$Row", name := "actLinks", desc := "(I[I)I" } : Jvm.MethodName)) ∈ am_T := am_in 1145 (by decide +kernel) (by decide +kernel)
theorem tw_1146 : (Jvm.Cond.selects "HadItFrom$Row" ({ cls := "HadItFrom$Row", name := "actLinks", desc := "(I[I)I" } : Jvm.MethodName) ({ cls := "HadItFrom$Row", name := "actLinks", desc := "(I[I)I" } : Jvm.MethodName)) ∈ am_T := am_in 1146 (by decide +kernel) (by decide +kernel)
theorem tw_1147 : (Jvm.Cond.sameMethod "HadItFrom$Row" "HadItFrom$Row" "actLinks" "(I[I)I") ∈ am_T := am_in 1147 (by decide +kernel) (by decide +kernel)
theorem tw_1148 : (Jvm.Cond.selects "HadItFrom$Gap" ({ cls := "HadItFrom$Row", name := "actLinks", desc := "(I[I)I" } : Jvm.MethodName) ({ cls := "HadItFrom$Gap", name := "actLinks", desc := "(I[I)I" } : Jvm.MethodName)) ∈ am_T := am_in 1148 (by decide +kernel) (by decide +kernel)
theorem tw_1149 : (Jvm.Cond.instanceMethod ({ cls := "HadItFrom$Gap", name := "actLinks", desc := "(I[I)I" } : Jvm.MethodName)) ∈ am_T := am_in 1149 (by decide +kernel) (by decide +kernel)
set_option maxRecDepth 100000 in
theorem tw_1150 : (Jvm.Cond.code ({ cls := "HadItFrom$Gap", name := "actLinks", desc := "(I[I)I" } : Jvm.MethodName) prog_2_method_5_code (3 : Nat) (Option.some Jvm.ClassFile.FieldType.int)) ∈ am_T := am_in 1150 rfl rfl
theorem tw_1151 : (Jvm.Cond.methodLink "HadItFrom$Gap" (23 : Nat) ({ cls := "HadItFrom$Gap", name := "began", desc := "([II)V" } : Jvm.MethodName)) ∈ am_T := am_in 1151 (by decide +kernel) (by decide +kernel)
theorem tw_1152 : (Jvm.Cond.sameMethod "HadItFrom$Gap" "HadItFrom$Row" "began" "([II)V") ∈ am_T := am_in 1152 (by decide +kernel) (by decide +kernel)
theorem tw_1153 : (Jvm.Cond.static ({ cls := "HadItFrom$Row", name := "began", desc := "([II)V" } : Jvm.MethodName)) ∈ am_T := am_in 1153 (by decide +kernel) (by decide +kernel)
set_option maxRecDepth 100000 in
theorem tw_1154 : (Jvm.Cond.code ({ cls := "HadItFrom$Row", name := "began", desc := "([II)V" } : Jvm.MethodName) prog_9_method_16_code (2 : Nat) (Option.none : Option Jvm.ClassFile.FieldType)) ∈ am_T := am_in 1154 rfl rfl
theorem tw_1155 : (Jvm.Cond.methodLink "HadItFrom$Gap" (29 : Nat) ({ cls := "HadItFrom$Row", name := "actLinks", desc := "(I[I)I" } : Jvm.MethodName)) ∈ am_T := am_in 1155 (by decide +kernel) (by decide +kernel)
theorem tw_1156 : (Jvm.Cond.selects "HadItFrom$Hidden" ({ cls := "HadItFrom$Row", name := "actLinks", desc := "(I[I)I" } : Jvm.MethodName) ({ cls := "HadItFrom$Hidden", name := "actLinks", desc := "(I[I)I" } : Jvm.MethodName)) ∈ am_T := am_in 1156 (by decide +kernel) (by decide +kernel)
theorem tw_1157 : (Jvm.Cond.instanceMethod ({ cls := "HadItFrom$Hidden", name := "actLinks", desc := "(I[I)I" } : Jvm.MethodName)) ∈ am_T := am_in 1157 (by decide +kernel) (by decide +kernel)
set_option maxRecDepth 100000 in
theorem tw_1158 : (Jvm.Cond.code ({ cls := "HadItFrom$Hidden", name := "actLinks", desc := "(I[I)I" } : Jvm.MethodName) prog_3_method_4_code (3 : Nat) (Option.some Jvm.ClassFile.FieldType.int)) ∈ am_T := am_in 1158 rfl rfl
theorem tw_1159 : (Jvm.Cond.methodLink "HadItFrom$Hidden" (13 : Nat) ({ cls := "HadItFrom$Hidden", name := "began", desc := "([II)V" } : Jvm.MethodName)) ∈ am_T := am_in 1159 (by decide +kernel) (by decide +kernel)
theorem tw_1160 : (Jvm.Cond.sameMethod "HadItFrom$Hidden" "HadItFrom$Row" "began" "([II)V") ∈ am_T := am_in 1160 (by decide +kernel) (by decide +kernel)
theorem tw_1161 : (Jvm.Cond.methodLink "HadItFrom$Hidden" (19 : Nat) ({ cls := "HadItFrom$Gap", name := "actLinks", desc := "(I[I)I" } : Jvm.MethodName)) ∈ am_T := am_in 1161 (by decide +kernel) (by decide +kernel)
theorem tw_1162 : (Jvm.Cond.selects "HadItFrom$Hung" ({ cls := "HadItFrom$Row", name := "actLinks", desc := "(I[I)I" } : Jvm.MethodName) ({ cls := "HadItFrom$Row", name := "actLinks", desc := "(I[I)I" } : Jvm.MethodName)) ∈ am_T := am_in 1162 (by decide +kernel) (by decide +kernel)
theorem tw_1163 : (Jvm.Cond.selects "HadItFrom$Made" ({ cls := "HadItFrom$Row", name := "actLinks", desc := "(I[I)I" } : Jvm.MethodName) ({ cls := "HadItFrom$Made", name := "actLinks", desc := "(I[I)I" } : Jvm.MethodName)) ∈ am_T := am_in 1163 (by decide +kernel) (by decide +kernel)
theorem tw_1164 : (Jvm.Cond.instanceMethod ({ cls := "HadItFrom$Made", name := "actLinks", desc := "(I[I)I" } : Jvm.MethodName)) ∈ am_T := am_in 1164 (by decide +kernel) (by decide +kernel)
set_option maxRecDepth 100000 in
theorem tw_1165 : (Jvm.Cond.code ({ cls := "HadItFrom$Made", name := "actLinks", desc := "(I[I)I" } : Jvm.MethodName) prog_5_method_5_code (3 : Nat) (Option.some Jvm.ClassFile.FieldType.int)) ∈ am_T := am_in 1165 rfl rfl
theorem tw_1166 : (Jvm.Cond.methodLink "HadItFrom$Made" (13 : Nat) ({ cls := "HadItFrom$Made", name := "began", desc := "([II)V" } : Jvm.MethodName)) ∈ am_T := am_in 1166 (by decide +kernel) (by decide +kernel)
theorem tw_1167 : (Jvm.Cond.sameMethod "HadItFrom$Made" "HadItFrom$Row" "began" "([II)V") ∈ am_T := am_in 1167 (by decide +kernel) (by decide +kernel)
theorem tw_1168 : (Jvm.Cond.methodLink "HadItFrom$Made" (22 : Nat) ({ cls := "HadItFrom$Raised", name := "actLinks", desc := "(I[I)I" } : Jvm.MethodName)) ∈ am_T := am_in 1168 (by decide +kernel) (by decide +kernel)
theorem tw_1169 : (Jvm.Cond.sameMethod "HadItFrom$Raised" "HadItFrom$Row" "actLinks" "(I[I)I") ∈ am_T := am_in 1169 (by decide +kernel) (by decide +kernel)
theorem tw_1171 : (Jvm.Cond.selects "HadItFrom$Raised" ({ cls := "HadItFrom$Row", name := "actLinks", desc := "(I[I)I" } : Jvm.MethodName) ({ cls := "HadItFrom$Row", name := "actLinks", desc := "(I[I)I" } : Jvm.MethodName)) ∈ am_T := am_in 1171 (by decide +kernel) (by decide +kernel)
theorem tw_1172 : (Jvm.Cond.selects "HadItFrom$Whole" ({ cls := "HadItFrom$Row", name := "actLinks", desc := "(I[I)I" } : Jvm.MethodName) ({ cls := "HadItFrom$Row", name := "actLinks", desc := "(I[I)I" } : Jvm.MethodName)) ∈ am_T := am_in 1172 (by decide +kernel) (by decide +kernel)
set_option maxRecDepth 100000 in
theorem tw_1173 : (Jvm.Cond.code ({ cls := "HadItFrom$Row", name := "actLinks", desc := "(I[I)I" } : Jvm.MethodName) prog_9_method_13_code (3 : Nat) (Option.some Jvm.ClassFile.FieldType.int)) ∈ am_T := am_in 1173 rfl rfl
theorem tw_1174 : (Jvm.Cond.methodLink "HadItFrom$Row" (47 : Nat) ({ cls := "HadItFrom$Row", name := "began", desc := "([II)V" } : Jvm.MethodName)) ∈ am_T := am_in 1174 (by decide +kernel) (by decide +kernel)
theorem tw_1175 : (Jvm.Cond.methodLink "HadItFrom" (330 : Nat) ({ cls := "HadItFrom$Row", name := "actHolds", desc := "(I[I)I" } : Jvm.MethodName)) ∈ am_T := am_in 1175 (by decide +kernel) (by decide +kernel)
theorem tw_1176 : (Jvm.Cond.instanceMethod ({ cls := "HadItFrom$Row", name := "actHolds", desc := "(I[I)I" } : Jvm.MethodName)) ∈ am_T := am_in 1176 (by decide +kernel) (by decide +kernel)
theorem tw_1177 : (Jvm.Cond.selects "HadItFrom$Row" ({ cls := "HadItFrom$Row", name := "actHolds", desc := "(I[I)I" } : Jvm.MethodName) ({ cls := "HadItFrom$Row", name := "actHolds", desc := "(I[I)I" } : Jvm.MethodName)) ∈ am_T := am_in 1177 (by decide +kernel) (by decide +kernel)
theorem tw_1178 : (Jvm.Cond.sameMethod "HadItFrom$Row" "HadItFrom$Row" "actHolds" "(I[I)I") ∈ am_T := am_in 1178 (by decide +kernel) (by decide +kernel)
theorem tw_1179 : (Jvm.Cond.selects "HadItFrom$Gap" ({ cls := "HadItFrom$Row", name := "actHolds", desc := "(I[I)I" } : Jvm.MethodName) ({ cls := "HadItFrom$Row", name := "actHolds", desc := "(I[I)I" } : Jvm.MethodName)) ∈ am_T := am_in 1179 (by decide +kernel) (by decide +kernel)
theorem tw_1180 : (Jvm.Cond.selects "HadItFrom$Hidden" ({ cls := "HadItFrom$Row", name := "actHolds", desc := "(I[I)I" } : Jvm.MethodName) ({ cls := "HadItFrom$Row", name := "actHolds", desc := "(I[I)I" } : Jvm.MethodName)) ∈ am_T := am_in 1180 (by decide +kernel) (by decide +kernel)
theorem tw_1181 : (Jvm.Cond.selects "HadItFrom$Hung" ({ cls := "HadItFrom$Row", name := "actHolds", desc := "(I[I)I" } : Jvm.MethodName) ({ cls := "HadItFrom$Hung", name := "actHolds", desc := "(I[I)I" } : Jvm.MethodName)) ∈ am_T := am_in 1181 (by decide +kernel) (by decide +kernel)
theorem tw_1182 : (Jvm.Cond.instanceMethod ({ cls := "HadItFrom$Hung", name := "actHolds", desc := "(I[I)I" } : Jvm.MethodName)) ∈ am_T := am_in 1182 (by decide +kernel) (by decide +kernel)
set_option maxRecDepth 100000 in
theorem tw_1183 : (Jvm.Cond.code ({ cls := "HadItFrom$Hung", name := "actHolds", desc := "(I[I)I" } : Jvm.MethodName) prog_4_method_3_code (3 : Nat) (Option.some Jvm.ClassFile.FieldType.int)) ∈ am_T := am_in 1183 rfl rfl
theorem tw_1184 : (Jvm.Cond.methodLink "HadItFrom$Hung" (9 : Nat) ({ cls := "HadItFrom$Hung", name := "began", desc := "([II)V" } : Jvm.MethodName)) ∈ am_T := am_in 1184 (by decide +kernel) (by decide +kernel)
theorem tw_1185 : (Jvm.Cond.sameMethod "HadItFrom$Hung" "HadItFrom$Row" "began" "([II)V") ∈ am_T := am_in 1185 (by decide +kernel) (by decide +kernel)
theorem tw_1186 : (Jvm.Cond.methodLink "HadItFrom$Hung" (15 : Nat) ({ cls := "HadItFrom$Row", name := "actHolds", desc := "(I[I)I" } : Jvm.MethodName)) ∈ am_T := am_in 1186 (by decide +kernel) (by decide +kernel)
theorem tw_1187 : (Jvm.Cond.selects "HadItFrom$Made" ({ cls := "HadItFrom$Row", name := "actHolds", desc := "(I[I)I" } : Jvm.MethodName) ({ cls := "HadItFrom$Row", name := "actHolds", desc := "(I[I)I" } : Jvm.MethodName)) ∈ am_T := am_in 1187 (by decide +kernel) (by decide +kernel)
theorem tw_1188 : (Jvm.Cond.selects "HadItFrom$Raised" ({ cls := "HadItFrom$Row", name := "actHolds", desc := "(I[I)I" } : Jvm.MethodName) ({ cls := "HadItFrom$Row", name := "actHolds", desc := "(I[I)I" } : Jvm.MethodName)) ∈ am_T := am_in 1188 (by decide +kernel) (by decide +kernel)
theorem tw_1189 : (Jvm.Cond.selects "HadItFrom$Whole" ({ cls := "HadItFrom$Row", name := "actHolds", desc := "(I[I)I" } : Jvm.MethodName) ({ cls := "HadItFrom$Whole", name := "actHolds", desc := "(I[I)I" } : Jvm.MethodName)) ∈ am_T := am_in 1189 (by decide +kernel) (by decide +kernel)
theorem tw_1190 : (Jvm.Cond.instanceMethod ({ cls := "HadItFrom$Whole", name := "actHolds", desc := "(I[I)I" } : Jvm.MethodName)) ∈ am_T := am_in 1190 (by decide +kernel) (by decide +kernel)
set_option maxRecDepth 100000 in
theorem tw_1191 : (Jvm.Cond.code ({ cls := "HadItFrom$Whole", name := "actHolds", desc := "(I[I)I" } : Jvm.MethodName) prog_11_method_4_code (3 : Nat) (Option.some Jvm.ClassFile.FieldType.int)) ∈ am_T := am_in 1191 rfl rfl
theorem tw_1192 : (Jvm.Cond.methodLink "HadItFrom$Whole" (13 : Nat) ({ cls := "HadItFrom$Whole", name := "began", desc := "([II)V" } : Jvm.MethodName)) ∈ am_T := am_in 1192 (by decide +kernel) (by decide +kernel)
theorem tw_1193 : (Jvm.Cond.sameMethod "HadItFrom$Whole" "HadItFrom$Row" "began" "([II)V") ∈ am_T := am_in 1193 (by decide +kernel) (by decide +kernel)
theorem tw_1194 : (Jvm.Cond.methodLink "HadItFrom$Whole" (19 : Nat) ({ cls := "HadItFrom$Row", name := "actHolds", desc := "(I[I)I" } : Jvm.MethodName)) ∈ am_T := am_in 1194 (by decide +kernel) (by decide +kernel)
set_option maxRecDepth 100000 in
theorem tw_1195 : (Jvm.Cond.code ({ cls := "HadItFrom$Row", name := "actHolds", desc := "(I[I)I" } : Jvm.MethodName) prog_9_method_14_code (3 : Nat) (Option.some Jvm.ClassFile.FieldType.int)) ∈ am_T := am_in 1195 rfl rfl
theorem tw_1196 : (Jvm.Cond.methodLink "HadItFrom$Row" (51 : Nat) ({ cls := "HadItFrom$Row", name := "actLinks", desc := "(I[I)I" } : Jvm.MethodName)) ∈ am_T := am_in 1196 (by decide +kernel) (by decide +kernel)
theorem tw_1197 : (Jvm.Cond.methodLink "HadItFrom" (333 : Nat) ({ cls := "HadItFrom$Row", name := "actWeighs", desc := "(I[I)I" } : Jvm.MethodName)) ∈ am_T := am_in 1197 (by decide +kernel) (by decide +kernel)
theorem tw_1198 : (Jvm.Cond.instanceMethod ({ cls := "HadItFrom$Row", name := "actWeighs", desc := "(I[I)I" } : Jvm.MethodName)) ∈ am_T := am_in 1198 (by decide +kernel) (by decide +kernel)
theorem tw_1199 : (Jvm.Cond.selects "HadItFrom$Row" ({ cls := "HadItFrom$Row", name := "actWeighs", desc := "(I[I)I" } : Jvm.MethodName) ({ cls := "HadItFrom$Row", name := "actWeighs", desc := "(I[I)I" } : Jvm.MethodName)) ∈ am_T := am_in 1199 (by decide +kernel) (by decide +kernel)
theorem tw_1200 : (Jvm.Cond.sameMethod "HadItFrom$Row" "HadItFrom$Row" "actWeighs" "(I[I)I") ∈ am_T := am_in 1200 (by decide +kernel) (by decide +kernel)
theorem tw_1201 : (Jvm.Cond.selects "HadItFrom$Gap" ({ cls := "HadItFrom$Row", name := "actWeighs", desc := "(I[I)I" } : Jvm.MethodName) ({ cls := "HadItFrom$Row", name := "actWeighs", desc := "(I[I)I" } : Jvm.MethodName)) ∈ am_T := am_in 1201 (by decide +kernel) (by decide +kernel)
theorem tw_1202 : (Jvm.Cond.selects "HadItFrom$Hidden" ({ cls := "HadItFrom$Row", name := "actWeighs", desc := "(I[I)I" } : Jvm.MethodName) ({ cls := "HadItFrom$Hidden", name := "actWeighs", desc := "(I[I)I" } : Jvm.MethodName)) ∈ am_T := am_in 1202 (by decide +kernel) (by decide +kernel)
theorem tw_1203 : (Jvm.Cond.instanceMethod ({ cls := "HadItFrom$Hidden", name := "actWeighs", desc := "(I[I)I" } : Jvm.MethodName)) ∈ am_T := am_in 1203 (by decide +kernel) (by decide +kernel)
set_option maxRecDepth 100000 in
theorem tw_1204 : (Jvm.Cond.code ({ cls := "HadItFrom$Hidden", name := "actWeighs", desc := "(I[I)I" } : Jvm.MethodName) prog_3_method_5_code (3 : Nat) (Option.some Jvm.ClassFile.FieldType.int)) ∈ am_T := am_in 1204 rfl rfl
theorem tw_1205 : (Jvm.Cond.methodLink "HadItFrom$Hidden" (23 : Nat) ({ cls := "HadItFrom$Gap", name := "actWeighs", desc := "(I[I)I" } : Jvm.MethodName)) ∈ am_T := am_in 1205 (by decide +kernel) (by decide +kernel)
theorem tw_1206 : (Jvm.Cond.sameMethod "HadItFrom$Gap" "HadItFrom$Row" "actWeighs" "(I[I)I") ∈ am_T := am_in 1206 (by decide +kernel) (by decide +kernel)
theorem tw_1208 : (Jvm.Cond.selects "HadItFrom$Hung" ({ cls := "HadItFrom$Row", name := "actWeighs", desc := "(I[I)I" } : Jvm.MethodName) ({ cls := "HadItFrom$Row", name := "actWeighs", desc := "(I[I)I" } : Jvm.MethodName)) ∈ am_T := am_in 1208 (by decide +kernel) (by decide +kernel)
theorem tw_1209 : (Jvm.Cond.selects "HadItFrom$Made" ({ cls := "HadItFrom$Row", name := "actWeighs", desc := "(I[I)I" } : Jvm.MethodName) ({ cls := "HadItFrom$Made", name := "actWeighs", desc := "(I[I)I" } : Jvm.MethodName)) ∈ am_T := am_in 1209 (by decide +kernel) (by decide +kernel)
theorem tw_1210 : (Jvm.Cond.instanceMethod ({ cls := "HadItFrom$Made", name := "actWeighs", desc := "(I[I)I" } : Jvm.MethodName)) ∈ am_T := am_in 1210 (by decide +kernel) (by decide +kernel)
set_option maxRecDepth 100000 in
theorem tw_1211 : (Jvm.Cond.code ({ cls := "HadItFrom$Made", name := "actWeighs", desc := "(I[I)I" } : Jvm.MethodName) prog_5_method_4_code (3 : Nat) (Option.some Jvm.ClassFile.FieldType.int)) ∈ am_T := am_in 1211 rfl rfl
theorem tw_1212 : (Jvm.Cond.methodLink "HadItFrom$Made" (19 : Nat) ({ cls := "HadItFrom$Raised", name := "actWeighs", desc := "(I[I)I" } : Jvm.MethodName)) ∈ am_T := am_in 1212 (by decide +kernel) (by decide +kernel)
theorem tw_1213 : (Jvm.Cond.instanceMethod ({ cls := "HadItFrom$Raised", name := "actWeighs", desc := "(I[I)I" } : Jvm.MethodName)) ∈ am_T := am_in 1213 (by decide +kernel) (by decide +kernel)
set_option maxRecDepth 100000 in
theorem tw_1214 : (Jvm.Cond.code ({ cls := "HadItFrom$Raised", name := "actWeighs", desc := "(I[I)I" } : Jvm.MethodName) prog_8_method_4_code (3 : Nat) (Option.some Jvm.ClassFile.FieldType.int)) ∈ am_T := am_in 1214 rfl rfl
theorem tw_1215 : (Jvm.Cond.methodLink "HadItFrom$Raised" (19 : Nat) ({ cls := "HadItFrom$Raised", name := "began", desc := "([II)V" } : Jvm.MethodName)) ∈ am_T := am_in 1215 (by decide +kernel) (by decide +kernel)
theorem tw_1216 : (Jvm.Cond.sameMethod "HadItFrom$Raised" "HadItFrom$Row" "began" "([II)V") ∈ am_T := am_in 1216 (by decide +kernel) (by decide +kernel)
theorem tw_1217 : (Jvm.Cond.methodLink "HadItFrom$Raised" (25 : Nat) ({ cls := "HadItFrom$Row", name := "actWeighs", desc := "(I[I)I" } : Jvm.MethodName)) ∈ am_T := am_in 1217 (by decide +kernel) (by decide +kernel)
theorem tw_1218 : (Jvm.Cond.selects "HadItFrom$Raised" ({ cls := "HadItFrom$Row", name := "actWeighs", desc := "(I[I)I" } : Jvm.MethodName) ({ cls := "HadItFrom$Raised", name := "actWeighs", desc := "(I[I)I" } : Jvm.MethodName)) ∈ am_T := am_in 1218 (by decide +kernel) (by decide +kernel)
theorem tw_1219 : (Jvm.Cond.selects "HadItFrom$Whole" ({ cls := "HadItFrom$Row", name := "actWeighs", desc := "(I[I)I" } : Jvm.MethodName) ({ cls := "HadItFrom$Row", name := "actWeighs", desc := "(I[I)I" } : Jvm.MethodName)) ∈ am_T := am_in 1219 (by decide +kernel) (by decide +kernel)
set_option maxRecDepth 100000 in
theorem tw_1220 : (Jvm.Cond.code ({ cls := "HadItFrom$Row", name := "actWeighs", desc := "(I[I)I" } : Jvm.MethodName) prog_9_method_15_code (3 : Nat) (Option.some Jvm.ClassFile.FieldType.int)) ∈ am_T := am_in 1220 rfl rfl
theorem tw_1221 : (Jvm.Cond.methodLink "HadItFrom$Row" (55 : Nat) ({ cls := "HadItFrom$Row", name := "actHolds", desc := "(I[I)I" } : Jvm.MethodName)) ∈ am_T := am_in 1221 (by decide +kernel) (by decide +kernel)
theorem tw_1222 : (Jvm.Cond.methodLink "HadItFromLaw" (196 : Nat) ({ cls := "HadItFrom", name := "trace", desc := "(I)I" } : Jvm.MethodName)) ∈ am_T := am_in 1222 (by decide +kernel) (by decide +kernel)
theorem tw_1223 : (Jvm.Cond.instanceMethod ({ cls := "HadItFrom", name := "trace", desc := "(I)I" } : Jvm.MethodName)) ∈ am_T := am_in 1223 (by decide +kernel) (by decide +kernel)
theorem tw_1224 : (Jvm.Cond.selects "HadItFrom" ({ cls := "HadItFrom", name := "trace", desc := "(I)I" } : Jvm.MethodName) ({ cls := "HadItFrom", name := "trace", desc := "(I)I" } : Jvm.MethodName)) ∈ am_T := am_in 1224 (by decide +kernel) (by decide +kernel)
set_option maxRecDepth 100000 in
theorem tw_1225 : (Jvm.Cond.code ({ cls := "HadItFrom", name := "trace", desc := "(I)I" } : Jvm.MethodName) prog_1_method_45_code (2 : Nat) (Option.some Jvm.ClassFile.FieldType.int)) ∈ am_T := am_in 1225 rfl rfl
theorem tw_1226 : (Jvm.Cond.methodLink "HadItFromLaw" (200 : Nat) ({ cls := "HadItFrom", name := "image", desc := "()I" } : Jvm.MethodName)) ∈ am_T := am_in 1226 (by decide +kernel) (by decide +kernel)
theorem tw_1227 : (Jvm.Cond.instanceMethod ({ cls := "HadItFrom", name := "image", desc := "()I" } : Jvm.MethodName)) ∈ am_T := am_in 1227 (by decide +kernel) (by decide +kernel)
theorem tw_1228 : (Jvm.Cond.selects "HadItFrom" ({ cls := "HadItFrom", name := "image", desc := "()I" } : Jvm.MethodName) ({ cls := "HadItFrom", name := "image", desc := "()I" } : Jvm.MethodName)) ∈ am_T := am_in 1228 (by decide +kernel) (by decide +kernel)
set_option maxRecDepth 100000 in
theorem tw_1229 : (Jvm.Cond.code ({ cls := "HadItFrom", name := "image", desc := "()I" } : Jvm.MethodName) prog_1_method_46_code (1 : Nat) (Option.some Jvm.ClassFile.FieldType.int)) ∈ am_T := am_in 1229 rfl rfl
theorem tw_1230 : (Jvm.Cond.methodLink "HadItFrom" (336 : Nat) ({ cls := "HadItFrom$World", name := "becomes", desc := "(LHadItFrom$World;)V" } : Jvm.MethodName)) ∈ am_T := am_in 1230 (by decide +kernel) (by decide +kernel)
theorem tw_1231 : (Jvm.Cond.instanceMethod ({ cls := "HadItFrom$World", name := "becomes", desc := "(LHadItFrom$World;)V" } : Jvm.MethodName)) ∈ am_T := am_in 1231 (by decide +kernel) (by decide +kernel)
theorem tw_1232 : (Jvm.Cond.selects "HadItFrom$World" ({ cls := "HadItFrom$World", name := "becomes", desc := "(LHadItFrom$World;)V" } : Jvm.MethodName) ({ cls := "HadItFrom$World", name := "becomes", desc := "(LHadItFrom$World;)V" } : Jvm.MethodName)) ∈ am_T := am_in 1232 (by decide +kernel) (by decide +kernel)
set_option maxRecDepth 100000 in
theorem tw_1233 : (Jvm.Cond.code ({ cls := "HadItFrom$World", name := "becomes", desc := "(LHadItFrom$World;)V" } : Jvm.MethodName) prog_12_method_2_code (3 : Nat) (Option.none : Option Jvm.ClassFile.FieldType)) ∈ am_T := am_in 1233 rfl rfl
theorem tw_1234 : (Jvm.Cond.methodLink "HadItFrom$World" (55 : Nat) ({ cls := "HadItFrom$Man", name := "becomes", desc := "(LHadItFrom$Man;)V" } : Jvm.MethodName)) ∈ am_T := am_in 1234 (by decide +kernel) (by decide +kernel)
theorem tw_1235 : (Jvm.Cond.instanceMethod ({ cls := "HadItFrom$Man", name := "becomes", desc := "(LHadItFrom$Man;)V" } : Jvm.MethodName)) ∈ am_T := am_in 1235 (by decide +kernel) (by decide +kernel)
theorem tw_1236 : (Jvm.Cond.selects "HadItFrom$Man" ({ cls := "HadItFrom$Man", name := "becomes", desc := "(LHadItFrom$Man;)V" } : Jvm.MethodName) ({ cls := "HadItFrom$Man", name := "becomes", desc := "(LHadItFrom$Man;)V" } : Jvm.MethodName)) ∈ am_T := am_in 1236 (by decide +kernel) (by decide +kernel)
set_option maxRecDepth 100000 in
theorem tw_1237 : (Jvm.Cond.code ({ cls := "HadItFrom$Man", name := "becomes", desc := "(LHadItFrom$Man;)V" } : Jvm.MethodName) prog_6_method_2_code (2 : Nat) (Option.none : Option Jvm.ClassFile.FieldType)) ∈ am_T := am_in 1237 rfl rfl
theorem tw_1238 : (Jvm.Cond.methodLink "HadItFrom$Man" (40 : Nat) ({ cls := "java/lang/System", name := "arraycopy", desc := "(Ljava/lang/Object;ILjava/lang/Object;II)V" } : Jvm.MethodName)) ∈ am_T := am_in 1238 (by decide +kernel) (by decide +kernel)
theorem tw_1239 : (Jvm.Cond.methodLink "HadItFromLaw" (204 : Nat) ({ cls := "HadItFrom", name := "restore", desc := "()I" } : Jvm.MethodName)) ∈ am_T := am_in 1239 (by decide +kernel) (by decide +kernel)
theorem tw_1240 : (Jvm.Cond.instanceMethod ({ cls := "HadItFrom", name := "restore", desc := "()I" } : Jvm.MethodName)) ∈ am_T := am_in 1240 (by decide +kernel) (by decide +kernel)
theorem tw_1241 : (Jvm.Cond.selects "HadItFrom" ({ cls := "HadItFrom", name := "restore", desc := "()I" } : Jvm.MethodName) ({ cls := "HadItFrom", name := "restore", desc := "()I" } : Jvm.MethodName)) ∈ am_T := am_in 1241 (by decide +kernel) (by decide +kernel)
set_option maxRecDepth 100000 in
theorem tw_1242 : (Jvm.Cond.code ({ cls := "HadItFrom", name := "restore", desc := "()I" } : Jvm.MethodName) prog_1_method_47_code (2 : Nat) (Option.some Jvm.ClassFile.FieldType.int)) ∈ am_T := am_in 1242 rfl rfl
theorem tw_1243 : (Jvm.Cond.methodLink "HadItFromLaw" (208 : Nat) ({ cls := "HadItFrom", name := "status", desc := "(I)I" } : Jvm.MethodName)) ∈ am_T := am_in 1243 (by decide +kernel) (by decide +kernel)
theorem tw_1244 : (Jvm.Cond.instanceMethod ({ cls := "HadItFrom", name := "status", desc := "(I)I" } : Jvm.MethodName)) ∈ am_T := am_in 1244 (by decide +kernel) (by decide +kernel)
theorem tw_1245 : (Jvm.Cond.selects "HadItFrom" ({ cls := "HadItFrom", name := "status", desc := "(I)I" } : Jvm.MethodName) ({ cls := "HadItFrom", name := "status", desc := "(I)I" } : Jvm.MethodName)) ∈ am_T := am_in 1245 (by decide +kernel) (by decide +kernel)
set_option maxRecDepth 100000 in
theorem tw_1246 : (Jvm.Cond.code ({ cls := "HadItFrom", name := "status", desc := "(I)I" } : Jvm.MethodName) prog_1_method_48_code (2 : Nat) (Option.some Jvm.ClassFile.FieldType.int)) ∈ am_T := am_in 1246 rfl rfl
theorem tw_1247 : (Jvm.Cond.methodLink "HadItFrom" (340 : Nat) ({ cls := "HadItFrom$World", name := "rowsInAll", desc := "()I" } : Jvm.MethodName)) ∈ am_T := am_in 1247 (by decide +kernel) (by decide +kernel)
theorem tw_1248 : (Jvm.Cond.instanceMethod ({ cls := "HadItFrom$World", name := "rowsInAll", desc := "()I" } : Jvm.MethodName)) ∈ am_T := am_in 1248 (by decide +kernel) (by decide +kernel)
theorem tw_1249 : (Jvm.Cond.selects "HadItFrom$World" ({ cls := "HadItFrom$World", name := "rowsInAll", desc := "()I" } : Jvm.MethodName) ({ cls := "HadItFrom$World", name := "rowsInAll", desc := "()I" } : Jvm.MethodName)) ∈ am_T := am_in 1249 (by decide +kernel) (by decide +kernel)
set_option maxRecDepth 100000 in
theorem tw_1250 : (Jvm.Cond.code ({ cls := "HadItFrom$World", name := "rowsInAll", desc := "()I" } : Jvm.MethodName) prog_12_method_28_code (3 : Nat) (Option.some Jvm.ClassFile.FieldType.int)) ∈ am_T := am_in 1250 rfl rfl
theorem tw_1251 : (Jvm.Cond.methodLink "HadItFrom" (343 : Nat) ({ cls := "HadItFrom$World", name := "clashesInAll", desc := "()I" } : Jvm.MethodName)) ∈ am_T := am_in 1251 (by decide +kernel) (by decide +kernel)
theorem tw_1252 : (Jvm.Cond.instanceMethod ({ cls := "HadItFrom$World", name := "clashesInAll", desc := "()I" } : Jvm.MethodName)) ∈ am_T := am_in 1252 (by decide +kernel) (by decide +kernel)
theorem tw_1253 : (Jvm.Cond.selects "HadItFrom$World" ({ cls := "HadItFrom$World", name := "clashesInAll", desc := "()I" } : Jvm.MethodName) ({ cls := "HadItFrom$World", name := "clashesInAll", desc := "()I" } : Jvm.MethodName)) ∈ am_T := am_in 1253 (by decide +kernel) (by decide +kernel)
set_option maxRecDepth 100000 in
theorem tw_1254 : (Jvm.Cond.code ({ cls := "HadItFrom$World", name := "clashesInAll", desc := "()I" } : Jvm.MethodName) prog_12_method_29_code (3 : Nat) (Option.some Jvm.ClassFile.FieldType.int)) ∈ am_T := am_in 1254 rfl rfl
theorem tw_1255 : (Jvm.Cond.methodLink "HadItFrom$World" (178 : Nat) ({ cls := "java/lang/Integer", name := "bitCount", desc := "(I)I" } : Jvm.MethodName)) ∈ am_T := am_in 1255 (by decide +kernel) (by decide +kernel)
theorem tw_1256 : (Jvm.Cond.classLink "HadItFromLaw" (10 : Nat) "HadItFromModel") ∈ am_T := am_in 1256 (by decide +kernel) (by decide +kernel)
theorem tw_1257 : (Jvm.Cond.instantiable "HadItFromModel" (60 : Nat)) ∈ am_T := am_in 1257 (by decide +kernel) (by decide +kernel)
theorem tw_1258 : (Jvm.Cond.methodLink "HadItFromLaw" (12 : Nat) ({ cls := "HadItFromModel", name := "<init>", desc := "()V" } : Jvm.MethodName)) ∈ am_T := am_in 1258 (by decide +kernel) (by decide +kernel)
theorem tw_1259 : (Jvm.Cond.instanceMethod ({ cls := "HadItFromModel", name := "<init>", desc := "()V" } : Jvm.MethodName)) ∈ am_T := am_in 1259 (by decide +kernel) (by decide +kernel)
set_option maxRecDepth 100000 in
theorem tw_1260 : (Jvm.Cond.code ({ cls := "HadItFromModel", name := "<init>", desc := "()V" } : Jvm.MethodName) prog_14_method_1_code (1 : Nat) (Option.none : Option Jvm.ClassFile.FieldType)) ∈ am_T := am_in 1260 rfl rfl
theorem tw_1261 : (Jvm.Cond.methodLink "HadItFromModel" (1 : Nat) ({ cls := "java/lang/Object", name := "<init>", desc := "()V" } : Jvm.MethodName)) ∈ am_T := am_in 1261 (by decide +kernel) (by decide +kernel)
theorem tw_1262 : (Jvm.Cond.fieldLink "HadItFromModel" (147 : Nat) "HadItFromModel" "men" "I") ∈ am_T := am_in 1262 (by decide +kernel) (by decide +kernel)
theorem tw_1263 : (Jvm.Cond.fieldLink "HadItFromModel" (254 : Nat) "HadItFromModel" "rules" "I") ∈ am_T := am_in 1263 (by decide +kernel) (by decide +kernel)
theorem tw_1264 : (Jvm.Cond.fieldLink "HadItFromModel" (150 : Nat) "HadItFromModel" "sayings" "I") ∈ am_T := am_in 1264 (by decide +kernel) (by decide +kernel)
theorem tw_1265 : (Jvm.Cond.fieldLink "HadItFromModel" (9 : Nat) "HadItFromModel" "force" "I") ∈ am_T := am_in 1265 (by decide +kernel) (by decide +kernel)
theorem tw_1266 : (Jvm.Cond.fieldLink "HadItFromModel" (13 : Nat) "HadItFromModel" "fault" "I") ∈ am_T := am_in 1266 (by decide +kernel) (by decide +kernel)
theorem tw_1267 : (Jvm.Cond.fieldLink "HadItFromModel" (16 : Nat) "HadItFromModel" "refused" "[I") ∈ am_T := am_in 1267 (by decide +kernel) (by decide +kernel)
theorem tw_1268 : (Jvm.Cond.fieldLink "HadItFromModel" (20 : Nat) "HadItFromModel" "born" "[I") ∈ am_T := am_in 1268 (by decide +kernel) (by decide +kernel)
theorem tw_1269 : (Jvm.Cond.fieldLink "HadItFromModel" (23 : Nat) "HadItFromModel" "died" "[I") ∈ am_T := am_in 1269 (by decide +kernel) (by decide +kernel)
theorem tw_1270 : (Jvm.Cond.fieldLink "HadItFromModel" (26 : Nat) "HadItFromModel" "home" "[I") ∈ am_T := am_in 1270 (by decide +kernel) (by decide +kernel)
theorem tw_1271 : (Jvm.Cond.fieldLink "HadItFromModel" (29 : Nat) "HadItFromModel" "mark" "[I") ∈ am_T := am_in 1271 (by decide +kernel) (by decide +kernel)
theorem tw_1272 : (Jvm.Cond.fieldLink "HadItFromModel" (32 : Nat) "HadItFromModel" "late" "[I") ∈ am_T := am_in 1272 (by decide +kernel) (by decide +kernel)
theorem tw_1273 : (Jvm.Cond.fieldLink "HadItFromModel" (35 : Nat) "HadItFromModel" "trips" "[I") ∈ am_T := am_in 1273 (by decide +kernel) (by decide +kernel)
theorem tw_1274 : (Jvm.Cond.fieldLink "HadItFromModel" (38 : Nat) "HadItFromModel" "tripTo" "[I") ∈ am_T := am_in 1274 (by decide +kernel) (by decide +kernel)
theorem tw_1275 : (Jvm.Cond.fieldLink "HadItFromModel" (41 : Nat) "HadItFromModel" "tripFrom" "[I") ∈ am_T := am_in 1275 (by decide +kernel) (by decide +kernel)
theorem tw_1276 : (Jvm.Cond.fieldLink "HadItFromModel" (44 : Nat) "HadItFromModel" "tripTill" "[I") ∈ am_T := am_in 1276 (by decide +kernel) (by decide +kernel)
theorem tw_1277 : (Jvm.Cond.fieldLink "HadItFromModel" (47 : Nat) "HadItFromModel" "first" "[I") ∈ am_T := am_in 1277 (by decide +kernel) (by decide +kernel)
theorem tw_1278 : (Jvm.Cond.fieldLink "HadItFromModel" (50 : Nat) "HadItFromModel" "told" "[I") ∈ am_T := am_in 1278 (by decide +kernel) (by decide +kernel)
theorem tw_1279 : (Jvm.Cond.fieldLink "HadItFromModel" (53 : Nat) "HadItFromModel" "rowN" "[I") ∈ am_T := am_in 1279 (by decide +kernel) (by decide +kernel)
theorem tw_1280 : (Jvm.Cond.fieldLink "HadItFromModel" (56 : Nat) "HadItFromModel" "kind" "[I") ∈ am_T := am_in 1280 (by decide +kernel) (by decide +kernel)
theorem tw_1281 : (Jvm.Cond.fieldLink "HadItFromModel" (59 : Nat) "HadItFromModel" "size" "[I") ∈ am_T := am_in 1281 (by decide +kernel) (by decide +kernel)
theorem tw_1282 : (Jvm.Cond.fieldLink "HadItFromModel" (62 : Nat) "HadItFromModel" "wording" "[I") ∈ am_T := am_in 1282 (by decide +kernel) (by decide +kernel)
theorem tw_1283 : (Jvm.Cond.fieldLink "HadItFromModel" (65 : Nat) "HadItFromModel" "who" "[I") ∈ am_T := am_in 1283 (by decide +kernel) (by decide +kernel)
theorem tw_1284 : (Jvm.Cond.fieldLink "HadItFromModel" (68 : Nat) "HadItFromModel" "link" "[I") ∈ am_T := am_in 1284 (by decide +kernel) (by decide +kernel)
theorem tw_1285 : (Jvm.Cond.fieldLink "HadItFromModel" (71 : Nat) "HadItFromModel" "clash" "[I") ∈ am_T := am_in 1285 (by decide +kernel) (by decide +kernel)
theorem tw_1286 : (Jvm.Cond.fieldLink "HadItFromModel" (74 : Nat) "HadItFromModel" "held" "[I") ∈ am_T := am_in 1286 (by decide +kernel) (by decide +kernel)
theorem tw_1287 : (Jvm.Cond.fieldLink "HadItFromModel" (77 : Nat) "HadItFromModel" "sort" "[I") ∈ am_T := am_in 1287 (by decide +kernel) (by decide +kernel)
theorem tw_1288 : (Jvm.Cond.fieldLink "HadItFromModel" (80 : Nat) "HadItFromModel" "length" "[I") ∈ am_T := am_in 1288 (by decide +kernel) (by decide +kernel)
theorem tw_1289 : (Jvm.Cond.fieldLink "HadItFromModel" (83 : Nat) "HadItFromModel" "shown" "[I") ∈ am_T := am_in 1289 (by decide +kernel) (by decide +kernel)
theorem tw_1290 : (Jvm.Cond.fieldLink "HadItFromModel" (86 : Nat) "HadItFromModel" "cells" "[J") ∈ am_T := am_in 1290 (by decide +kernel) (by decide +kernel)
theorem tw_1291 : (Jvm.Cond.fieldLink "HadItFromModel" (90 : Nat) "HadItFromModel" "carried" "[J") ∈ am_T := am_in 1291 (by decide +kernel) (by decide +kernel)
theorem tw_1292 : (Jvm.Cond.fieldLink "HadItFromModel" (93 : Nat) "HadItFromModel" "words" "[I") ∈ am_T := am_in 1292 (by decide +kernel) (by decide +kernel)
theorem tw_1293 : (Jvm.Cond.fieldLink "HadItFromModel" (96 : Nat) "HadItFromModel" "tell" "[I") ∈ am_T := am_in 1293 (by decide +kernel) (by decide +kernel)
theorem tw_1294 : (Jvm.Cond.fieldLink "HadItFromModel" (99 : Nat) "HadItFromModel" "tKind" "[I") ∈ am_T := am_in 1294 (by decide +kernel) (by decide +kernel)
theorem tw_1295 : (Jvm.Cond.fieldLink "HadItFromModel" (102 : Nat) "HadItFromModel" "tSize" "[I") ∈ am_T := am_in 1295 (by decide +kernel) (by decide +kernel)
theorem tw_1296 : (Jvm.Cond.fieldLink "HadItFromModel" (105 : Nat) "HadItFromModel" "tWording" "[I") ∈ am_T := am_in 1296 (by decide +kernel) (by decide +kernel)
theorem tw_1297 : (Jvm.Cond.fieldLink "HadItFromModel" (108 : Nat) "HadItFromModel" "tWho" "[I") ∈ am_T := am_in 1297 (by decide +kernel) (by decide +kernel)
theorem tw_1298 : (Jvm.Cond.fieldLink "HadItFromModel" (111 : Nat) "HadItFromModel" "tLink" "[I") ∈ am_T := am_in 1298 (by decide +kernel) (by decide +kernel)
theorem tw_1299 : (Jvm.Cond.fieldLink "HadItFromModel" (203 : Nat) "HadItFromModel" "base" "I") ∈ am_T := am_in 1299 (by decide +kernel) (by decide +kernel)
theorem tw_1300 : (Jvm.Cond.fieldLink "HadItFromModel" (197 : Nat) "HadItFromModel" "at" "I") ∈ am_T := am_in 1300 (by decide +kernel) (by decide +kernel)
theorem tw_1301 : (Jvm.Cond.fieldLink "HadItFromModel" (200 : Nat) "HadItFromModel" "end" "I") ∈ am_T := am_in 1301 (by decide +kernel) (by decide +kernel)
theorem tw_1302 : (Jvm.Cond.fieldLink "HadItFromModel" (220 : Nat) "HadItFromModel" "number" "I") ∈ am_T := am_in 1302 (by decide +kernel) (by decide +kernel)
theorem tw_1303 : (Jvm.Cond.fieldLink "HadItFromModel" (206 : Nat) "HadItFromModel" "wrongAt" "I") ∈ am_T := am_in 1303 (by decide +kernel) (by decide +kernel)
theorem tw_1304 : (Jvm.Cond.fieldLink "HadItFromModel" (238 : Nat) "HadItFromModel" "tRows" "I") ∈ am_T := am_in 1304 (by decide +kernel) (by decide +kernel)
theorem tw_1305 : (Jvm.Cond.fieldLink "HadItFromModel" (114 : Nat) "HadItFromModel" "by" "I") ∈ am_T := am_in 1305 (by decide +kernel) (by decide +kernel)
theorem tw_1306 : (Jvm.Cond.fieldLink "HadItFromModel" (117 : Nat) "HadItFromModel" "room" "[I") ∈ am_T := am_in 1306 (by decide +kernel) (by decide +kernel)
theorem tw_1307 : (Jvm.Cond.fieldLink "HadItFromModel" (120 : Nat) "HadItFromModel" "capacity" "[I") ∈ am_T := am_in 1307 (by decide +kernel) (by decide +kernel)
theorem tw_1308 : (Jvm.Cond.fieldLink "HadItFromModel" (123 : Nat) "HadItFromModel" "begins" "[I") ∈ am_T := am_in 1308 (by decide +kernel) (by decide +kernel)
theorem tw_1309 : (Jvm.Cond.fieldLink "HadItFromModel" (126 : Nat) "HadItFromModel" "goesOn" "[I") ∈ am_T := am_in 1309 (by decide +kernel) (by decide +kernel)
theorem tw_1310 : (Jvm.Cond.fieldLink "HadItFromModel" (129 : Nat) "HadItFromModel" "seen" "[I") ∈ am_T := am_in 1310 (by decide +kernel) (by decide +kernel)
theorem tw_1311 : (Jvm.Cond.fieldLink "HadItFromModel" (132 : Nat) "HadItFromModel" "line" "[I") ∈ am_T := am_in 1311 (by decide +kernel) (by decide +kernel)
theorem tw_1312 : (Jvm.Cond.fieldLink "HadItFromModel" (278 : Nat) "HadItFromModel" "firstMan" "I") ∈ am_T := am_in 1312 (by decide +kernel) (by decide +kernel)
theorem tw_1313 : (Jvm.Cond.fieldLink "HadItFromModel" (281 : Nat) "HadItFromModel" "netMen" "I") ∈ am_T := am_in 1313 (by decide +kernel) (by decide +kernel)
theorem tw_1314 : (Jvm.Cond.fieldLink "HadItFromModel" (135 : Nat) "HadItFromModel" "weights" "[I") ∈ am_T := am_in 1314 (by decide +kernel) (by decide +kernel)
theorem tw_1315 : (Jvm.Cond.fieldLink "HadItFromModel" (138 : Nat) "HadItFromModel" "trace" "[I") ∈ am_T := am_in 1315 (by decide +kernel) (by decide +kernel)
theorem tw_1316 : (Jvm.Cond.fieldLink "HadItFromModel" (324 : Nat) "HadItFromModel" "ran" "I") ∈ am_T := am_in 1316 (by decide +kernel) (by decide +kernel)
theorem tw_1317 : (Jvm.Cond.fieldLink "HadItFromModel" (141 : Nat) "HadItFromModel" "iSayings" "I") ∈ am_T := am_in 1317 (by decide +kernel) (by decide +kernel)
theorem tw_1318 : (Jvm.Cond.fieldLink "HadItFromModel" (343 : Nat) "HadItFromModel" "iMen" "I") ∈ am_T := am_in 1318 (by decide +kernel) (by decide +kernel)
theorem tw_1319 : (Jvm.Cond.fieldLink "HadItFromModel" (346 : Nat) "HadItFromModel" "iRules" "I") ∈ am_T := am_in 1319 (by decide +kernel) (by decide +kernel)
theorem tw_1320 : (Jvm.Cond.fieldLink "HadItFromModel" (349 : Nat) "HadItFromModel" "iForce" "I") ∈ am_T := am_in 1320 (by decide +kernel) (by decide +kernel)
theorem tw_1321 : (Jvm.Cond.fieldLink "HadItFromModel" (144 : Nat) "HadItFromModel" "kept" "[I") ∈ am_T := am_in 1321 (by decide +kernel) (by decide +kernel)
theorem tw_1443 : (Jvm.Cond.methodLink "HadItFromLaw" (17 : Nat) ({ cls := "HadItFromModel", name := "row", desc := "(III)I" } : Jvm.MethodName)) ∈ am_T := am_in 1443 (by decide +kernel) (by decide +kernel)
theorem tw_1444 : (Jvm.Cond.instanceMethod ({ cls := "HadItFromModel", name := "row", desc := "(III)I" } : Jvm.MethodName)) ∈ am_T := am_in 1444 (by decide +kernel) (by decide +kernel)
theorem tw_1445 : (Jvm.Cond.selects "HadItFromModel" ({ cls := "HadItFromModel", name := "row", desc := "(III)I" } : Jvm.MethodName) ({ cls := "HadItFromModel", name := "row", desc := "(III)I" } : Jvm.MethodName)) ∈ am_T := am_in 1445 (by decide +kernel) (by decide +kernel)
set_option maxRecDepth 100000 in
theorem tw_1446 : (Jvm.Cond.code ({ cls := "HadItFromModel", name := "row", desc := "(III)I" } : Jvm.MethodName) prog_14_method_10_code (5 : Nat) (Option.some Jvm.ClassFile.FieldType.int)) ∈ am_T := am_in 1446 rfl rfl
theorem tw_1447 : (Jvm.Cond.methodLink "HadItFromModel" (157 : Nat) ({ cls := "HadItFromModel", name := "isShelf", desc := "(I)Z" } : Jvm.MethodName)) ∈ am_T := am_in 1447 (by decide +kernel) (by decide +kernel)
theorem tw_1449 : (Jvm.Cond.instanceMethod ({ cls := "HadItFromModel", name := "isShelf", desc := "(I)Z" } : Jvm.MethodName)) ∈ am_T := am_in 1449 (by decide +kernel) (by decide +kernel)
set_option maxRecDepth 100000 in
theorem tw_1450 : (Jvm.Cond.code ({ cls := "HadItFromModel", name := "isShelf", desc := "(I)Z" } : Jvm.MethodName) prog_14_method_4_code (2 : Nat) (Option.some Jvm.ClassFile.FieldType.boolean)) ∈ am_T := am_in 1450 rfl rfl
theorem tw_1451 : (Jvm.Cond.methodLink "HadItFromModel" (160 : Nat) ({ cls := "HadItFromModel", name := "no", desc := "(I)I" } : Jvm.MethodName)) ∈ am_T := am_in 1451 (by decide +kernel) (by decide +kernel)
theorem tw_1453 : (Jvm.Cond.instanceMethod ({ cls := "HadItFromModel", name := "no", desc := "(I)I" } : Jvm.MethodName)) ∈ am_T := am_in 1453 (by decide +kernel) (by decide +kernel)
set_option maxRecDepth 100000 in
theorem tw_1454 : (Jvm.Cond.code ({ cls := "HadItFromModel", name := "no", desc := "(I)I" } : Jvm.MethodName) prog_14_method_2_code (2 : Nat) (Option.some Jvm.ClassFile.FieldType.int)) ∈ am_T := am_in 1454 rfl rfl
theorem tw_1455 : (Jvm.Cond.methodLink "HadItFromLaw" (24 : Nat) ({ cls := "HadItFromModel", name := "set", desc := "(IIJ)I" } : Jvm.MethodName)) ∈ am_T := am_in 1455 (by decide +kernel) (by decide +kernel)
theorem tw_1456 : (Jvm.Cond.instanceMethod ({ cls := "HadItFromModel", name := "set", desc := "(IIJ)I" } : Jvm.MethodName)) ∈ am_T := am_in 1456 (by decide +kernel) (by decide +kernel)
theorem tw_1457 : (Jvm.Cond.selects "HadItFromModel" ({ cls := "HadItFromModel", name := "set", desc := "(IIJ)I" } : Jvm.MethodName) ({ cls := "HadItFromModel", name := "set", desc := "(IIJ)I" } : Jvm.MethodName)) ∈ am_T := am_in 1457 (by decide +kernel) (by decide +kernel)
set_option maxRecDepth 100000 in
theorem tw_1458 : (Jvm.Cond.code ({ cls := "HadItFromModel", name := "set", desc := "(IIJ)I" } : Jvm.MethodName) prog_14_method_11_code (5 : Nat) (Option.some Jvm.ClassFile.FieldType.int)) ∈ am_T := am_in 1458 rfl rfl
theorem tw_1459 : (Jvm.Cond.methodLink "HadItFromLaw" (29 : Nat) ({ cls := "HadItFromModel", name := "copy", desc := "(IIIII)I" } : Jvm.MethodName)) ∈ am_T := am_in 1459 (by decide +kernel) (by decide +kernel)
theorem tw_1460 : (Jvm.Cond.instanceMethod ({ cls := "HadItFromModel", name := "copy", desc := "(IIIII)I" } : Jvm.MethodName)) ∈ am_T := am_in 1460 (by decide +kernel) (by decide +kernel)
theorem tw_1461 : (Jvm.Cond.selects "HadItFromModel" ({ cls := "HadItFromModel", name := "copy", desc := "(IIIII)I" } : Jvm.MethodName) ({ cls := "HadItFromModel", name := "copy", desc := "(IIIII)I" } : Jvm.MethodName)) ∈ am_T := am_in 1461 (by decide +kernel) (by decide +kernel)
set_option maxRecDepth 100000 in
theorem tw_1462 : (Jvm.Cond.code ({ cls := "HadItFromModel", name := "copy", desc := "(IIIII)I" } : Jvm.MethodName) prog_14_method_12_code (7 : Nat) (Option.some Jvm.ClassFile.FieldType.int)) ∈ am_T := am_in 1462 rfl rfl
theorem tw_1463 : (Jvm.Cond.methodLink "HadItFromLaw" (34 : Nat) ({ cls := "HadItFromModel", name := "element", desc := "(II)J" } : Jvm.MethodName)) ∈ am_T := am_in 1463 (by decide +kernel) (by decide +kernel)
theorem tw_1464 : (Jvm.Cond.instanceMethod ({ cls := "HadItFromModel", name := "element", desc := "(II)J" } : Jvm.MethodName)) ∈ am_T := am_in 1464 (by decide +kernel) (by decide +kernel)
theorem tw_1465 : (Jvm.Cond.selects "HadItFromModel" ({ cls := "HadItFromModel", name := "element", desc := "(II)J" } : Jvm.MethodName) ({ cls := "HadItFromModel", name := "element", desc := "(II)J" } : Jvm.MethodName)) ∈ am_T := am_in 1465 (by decide +kernel) (by decide +kernel)
set_option maxRecDepth 100000 in
theorem tw_1466 : (Jvm.Cond.code ({ cls := "HadItFromModel", name := "element", desc := "(II)J" } : Jvm.MethodName) prog_14_method_13_code (3 : Nat) (Option.some Jvm.ClassFile.FieldType.long)) ∈ am_T := am_in 1466 rfl rfl
theorem tw_1467 : (Jvm.Cond.methodLink "HadItFromLaw" (38 : Nat) ({ cls := "HadItFromModel", name := "show", desc := "(III)I" } : Jvm.MethodName)) ∈ am_T := am_in 1467 (by decide +kernel) (by decide +kernel)
theorem tw_1468 : (Jvm.Cond.instanceMethod ({ cls := "HadItFromModel", name := "show", desc := "(III)I" } : Jvm.MethodName)) ∈ am_T := am_in 1468 (by decide +kernel) (by decide +kernel)
theorem tw_1469 : (Jvm.Cond.selects "HadItFromModel" ({ cls := "HadItFromModel", name := "show", desc := "(III)I" } : Jvm.MethodName) ({ cls := "HadItFromModel", name := "show", desc := "(III)I" } : Jvm.MethodName)) ∈ am_T := am_in 1469 (by decide +kernel) (by decide +kernel)
set_option maxRecDepth 100000 in
theorem tw_1470 : (Jvm.Cond.code ({ cls := "HadItFromModel", name := "show", desc := "(III)I" } : Jvm.MethodName) prog_14_method_14_code (4 : Nat) (Option.some Jvm.ClassFile.FieldType.int)) ∈ am_T := am_in 1470 rfl rfl
theorem tw_1471 : (Jvm.Cond.methodLink "HadItFromModel" (164 : Nat) ({ cls := "HadItFromModel", name := "isRow", desc := "(II)Z" } : Jvm.MethodName)) ∈ am_T := am_in 1471 (by decide +kernel) (by decide +kernel)
theorem tw_1473 : (Jvm.Cond.instanceMethod ({ cls := "HadItFromModel", name := "isRow", desc := "(II)Z" } : Jvm.MethodName)) ∈ am_T := am_in 1473 (by decide +kernel) (by decide +kernel)
set_option maxRecDepth 100000 in
theorem tw_1474 : (Jvm.Cond.code ({ cls := "HadItFromModel", name := "isRow", desc := "(II)Z" } : Jvm.MethodName) prog_14_method_8_code (3 : Nat) (Option.some Jvm.ClassFile.FieldType.boolean)) ∈ am_T := am_in 1474 rfl rfl
theorem tw_1475 : (Jvm.Cond.methodLink "HadItFromModel" (153 : Nat) ({ cls := "HadItFromModel", name := "isSaying", desc := "(I)Z" } : Jvm.MethodName)) ∈ am_T := am_in 1475 (by decide +kernel) (by decide +kernel)
theorem tw_1477 : (Jvm.Cond.instanceMethod ({ cls := "HadItFromModel", name := "isSaying", desc := "(I)Z" } : Jvm.MethodName)) ∈ am_T := am_in 1477 (by decide +kernel) (by decide +kernel)
set_option maxRecDepth 100000 in
theorem tw_1478 : (Jvm.Cond.code ({ cls := "HadItFromModel", name := "isSaying", desc := "(I)Z" } : Jvm.MethodName) prog_14_method_7_code (2 : Nat) (Option.some Jvm.ClassFile.FieldType.boolean)) ∈ am_T := am_in 1478 rfl rfl
theorem tw_1479 : (Jvm.Cond.methodLink "HadItFromLaw" (43 : Nat) ({ cls := "HadItFromModel", name := "holds", desc := "(I)I" } : Jvm.MethodName)) ∈ am_T := am_in 1479 (by decide +kernel) (by decide +kernel)
theorem tw_1480 : (Jvm.Cond.instanceMethod ({ cls := "HadItFromModel", name := "holds", desc := "(I)I" } : Jvm.MethodName)) ∈ am_T := am_in 1480 (by decide +kernel) (by decide +kernel)
theorem tw_1481 : (Jvm.Cond.selects "HadItFromModel" ({ cls := "HadItFromModel", name := "holds", desc := "(I)I" } : Jvm.MethodName) ({ cls := "HadItFromModel", name := "holds", desc := "(I)I" } : Jvm.MethodName)) ∈ am_T := am_in 1481 (by decide +kernel) (by decide +kernel)
set_option maxRecDepth 100000 in
theorem tw_1482 : (Jvm.Cond.code ({ cls := "HadItFromModel", name := "holds", desc := "(I)I" } : Jvm.MethodName) prog_14_method_15_code (2 : Nat) (Option.some Jvm.ClassFile.FieldType.int)) ∈ am_T := am_in 1482 rfl rfl
theorem tw_1483 : (Jvm.Cond.methodLink "HadItFromLaw" (48 : Nat) ({ cls := "HadItFromModel", name := "says", desc := "(II)I" } : Jvm.MethodName)) ∈ am_T := am_in 1483 (by decide +kernel) (by decide +kernel)
theorem tw_1484 : (Jvm.Cond.instanceMethod ({ cls := "HadItFromModel", name := "says", desc := "(II)I" } : Jvm.MethodName)) ∈ am_T := am_in 1484 (by decide +kernel) (by decide +kernel)
theorem tw_1485 : (Jvm.Cond.selects "HadItFromModel" ({ cls := "HadItFromModel", name := "says", desc := "(II)I" } : Jvm.MethodName) ({ cls := "HadItFromModel", name := "says", desc := "(II)I" } : Jvm.MethodName)) ∈ am_T := am_in 1485 (by decide +kernel) (by decide +kernel)
set_option maxRecDepth 100000 in
theorem tw_1486 : (Jvm.Cond.code ({ cls := "HadItFromModel", name := "says", desc := "(II)I" } : Jvm.MethodName) prog_14_method_16_code (6 : Nat) (Option.some Jvm.ClassFile.FieldType.int)) ∈ am_T := am_in 1486 rfl rfl
theorem tw_1487 : (Jvm.Cond.methodLink "HadItFromLaw" (52 : Nat) ({ cls := "HadItFromModel", name := "man", desc := "(IIIII)I" } : Jvm.MethodName)) ∈ am_T := am_in 1487 (by decide +kernel) (by decide +kernel)
theorem tw_1488 : (Jvm.Cond.instanceMethod ({ cls := "HadItFromModel", name := "man", desc := "(IIIII)I" } : Jvm.MethodName)) ∈ am_T := am_in 1488 (by decide +kernel) (by decide +kernel)
theorem tw_1489 : (Jvm.Cond.selects "HadItFromModel" ({ cls := "HadItFromModel", name := "man", desc := "(IIIII)I" } : Jvm.MethodName) ({ cls := "HadItFromModel", name := "man", desc := "(IIIII)I" } : Jvm.MethodName)) ∈ am_T := am_in 1489 (by decide +kernel) (by decide +kernel)
set_option maxRecDepth 100000 in
theorem tw_1490 : (Jvm.Cond.code ({ cls := "HadItFromModel", name := "man", desc := "(IIIII)I" } : Jvm.MethodName) prog_14_method_23_code (6 : Nat) (Option.some Jvm.ClassFile.FieldType.int)) ∈ am_T := am_in 1490 rfl rfl
theorem tw_1491 : (Jvm.Cond.methodLink "HadItFromModel" (171 : Nat) ({ cls := "HadItFromModel", name := "isLife", desc := "(II)Z" } : Jvm.MethodName)) ∈ am_T := am_in 1491 (by decide +kernel) (by decide +kernel)
theorem tw_1493 : (Jvm.Cond.instanceMethod ({ cls := "HadItFromModel", name := "isLife", desc := "(II)Z" } : Jvm.MethodName)) ∈ am_T := am_in 1493 (by decide +kernel) (by decide +kernel)
set_option maxRecDepth 100000 in
theorem tw_1494 : (Jvm.Cond.code ({ cls := "HadItFromModel", name := "isLife", desc := "(II)Z" } : Jvm.MethodName) prog_14_method_19_code (3 : Nat) (Option.some Jvm.ClassFile.FieldType.boolean)) ∈ am_T := am_in 1494 rfl rfl
theorem tw_1495 : (Jvm.Cond.methodLink "HadItFromModel" (168 : Nat) ({ cls := "HadItFromModel", name := "isYear", desc := "(I)Z" } : Jvm.MethodName)) ∈ am_T := am_in 1495 (by decide +kernel) (by decide +kernel)
theorem tw_1497 : (Jvm.Cond.instanceMethod ({ cls := "HadItFromModel", name := "isYear", desc := "(I)Z" } : Jvm.MethodName)) ∈ am_T := am_in 1497 (by decide +kernel) (by decide +kernel)
set_option maxRecDepth 100000 in
theorem tw_1498 : (Jvm.Cond.code ({ cls := "HadItFromModel", name := "isYear", desc := "(I)Z" } : Jvm.MethodName) prog_14_method_6_code (2 : Nat) (Option.some Jvm.ClassFile.FieldType.boolean)) ∈ am_T := am_in 1498 rfl rfl
theorem tw_1499 : (Jvm.Cond.methodLink "HadItFromModel" (174 : Nat) ({ cls := "HadItFromModel", name := "isPlace", desc := "(I)Z" } : Jvm.MethodName)) ∈ am_T := am_in 1499 (by decide +kernel) (by decide +kernel)
theorem tw_1501 : (Jvm.Cond.instanceMethod ({ cls := "HadItFromModel", name := "isPlace", desc := "(I)Z" } : Jvm.MethodName)) ∈ am_T := am_in 1501 (by decide +kernel) (by decide +kernel)
set_option maxRecDepth 100000 in
theorem tw_1502 : (Jvm.Cond.code ({ cls := "HadItFromModel", name := "isPlace", desc := "(I)Z" } : Jvm.MethodName) prog_14_method_21_code (2 : Nat) (Option.some Jvm.ClassFile.FieldType.boolean)) ∈ am_T := am_in 1502 rfl rfl
theorem tw_1503 : (Jvm.Cond.methodLink "HadItFromModel" (177 : Nat) ({ cls := "HadItFromModel", name := "isMark", desc := "(II)Z" } : Jvm.MethodName)) ∈ am_T := am_in 1503 (by decide +kernel) (by decide +kernel)
theorem tw_1505 : (Jvm.Cond.instanceMethod ({ cls := "HadItFromModel", name := "isMark", desc := "(II)Z" } : Jvm.MethodName)) ∈ am_T := am_in 1505 (by decide +kernel) (by decide +kernel)
set_option maxRecDepth 100000 in
theorem tw_1506 : (Jvm.Cond.code ({ cls := "HadItFromModel", name := "isMark", desc := "(II)Z" } : Jvm.MethodName) prog_14_method_20_code (3 : Nat) (Option.some Jvm.ClassFile.FieldType.boolean)) ∈ am_T := am_in 1506 rfl rfl
theorem tw_1507 : (Jvm.Cond.methodLink "HadItFromModel" (180 : Nat) ({ cls := "HadItFromModel", name := "comes", desc := "(IIIII)V" } : Jvm.MethodName)) ∈ am_T := am_in 1507 (by decide +kernel) (by decide +kernel)
theorem tw_1509 : (Jvm.Cond.instanceMethod ({ cls := "HadItFromModel", name := "comes", desc := "(IIIII)V" } : Jvm.MethodName)) ∈ am_T := am_in 1509 (by decide +kernel) (by decide +kernel)
set_option maxRecDepth 100000 in
theorem tw_1510 : (Jvm.Cond.code ({ cls := "HadItFromModel", name := "comes", desc := "(IIIII)V" } : Jvm.MethodName) prog_14_method_22_code (6 : Nat) (Option.none : Option Jvm.ClassFile.FieldType)) ∈ am_T := am_in 1510 rfl rfl
theorem tw_1511 : (Jvm.Cond.methodLink "HadItFromLaw" (56 : Nat) ({ cls := "HadItFromModel", name := "men", desc := "(III)I" } : Jvm.MethodName)) ∈ am_T := am_in 1511 (by decide +kernel) (by decide +kernel)
theorem tw_1512 : (Jvm.Cond.instanceMethod ({ cls := "HadItFromModel", name := "men", desc := "(III)I" } : Jvm.MethodName)) ∈ am_T := am_in 1512 (by decide +kernel) (by decide +kernel)
theorem tw_1513 : (Jvm.Cond.selects "HadItFromModel" ({ cls := "HadItFromModel", name := "men", desc := "(III)I" } : Jvm.MethodName) ({ cls := "HadItFromModel", name := "men", desc := "(III)I" } : Jvm.MethodName)) ∈ am_T := am_in 1513 (by decide +kernel) (by decide +kernel)
set_option maxRecDepth 100000 in
theorem tw_1514 : (Jvm.Cond.code ({ cls := "HadItFromModel", name := "men", desc := "(III)I" } : Jvm.MethodName) prog_14_method_24_code (12 : Nat) (Option.some Jvm.ClassFile.FieldType.int)) ∈ am_T := am_in 1514 rfl rfl
theorem tw_1515 : (Jvm.Cond.methodLink "HadItFromModel" (184 : Nat) ({ cls := "HadItFromModel", name := "wants", desc := "(I)I" } : Jvm.MethodName)) ∈ am_T := am_in 1515 (by decide +kernel) (by decide +kernel)
theorem tw_1517 : (Jvm.Cond.instanceMethod ({ cls := "HadItFromModel", name := "wants", desc := "(I)I" } : Jvm.MethodName)) ∈ am_T := am_in 1517 (by decide +kernel) (by decide +kernel)
set_option maxRecDepth 100000 in
theorem tw_1518 : (Jvm.Cond.code ({ cls := "HadItFromModel", name := "wants", desc := "(I)I" } : Jvm.MethodName) prog_14_method_17_code (2 : Nat) (Option.some Jvm.ClassFile.FieldType.int)) ∈ am_T := am_in 1518 rfl rfl
theorem tw_1519 : (Jvm.Cond.methodLink "HadItFromModel" (187 : Nat) ({ cls := "HadItFromModel", name := "intAt", desc := "(II)I" } : Jvm.MethodName)) ∈ am_T := am_in 1519 (by decide +kernel) (by decide +kernel)
theorem tw_1521 : (Jvm.Cond.instanceMethod ({ cls := "HadItFromModel", name := "intAt", desc := "(II)I" } : Jvm.MethodName)) ∈ am_T := am_in 1521 (by decide +kernel) (by decide +kernel)
set_option maxRecDepth 100000 in
theorem tw_1522 : (Jvm.Cond.code ({ cls := "HadItFromModel", name := "intAt", desc := "(II)I" } : Jvm.MethodName) prog_14_method_18_code (3 : Nat) (Option.some Jvm.ClassFile.FieldType.int)) ∈ am_T := am_in 1522 rfl rfl
theorem tw_1523 : (Jvm.Cond.methodLink "HadItFromLaw" (61 : Nat) ({ cls := "HadItFromModel", name := "journey", desc := "(IIII)I" } : Jvm.MethodName)) ∈ am_T := am_in 1523 (by decide +kernel) (by decide +kernel)
theorem tw_1524 : (Jvm.Cond.instanceMethod ({ cls := "HadItFromModel", name := "journey", desc := "(IIII)I" } : Jvm.MethodName)) ∈ am_T := am_in 1524 (by decide +kernel) (by decide +kernel)
theorem tw_1525 : (Jvm.Cond.selects "HadItFromModel" ({ cls := "HadItFromModel", name := "journey", desc := "(IIII)I" } : Jvm.MethodName) ({ cls := "HadItFromModel", name := "journey", desc := "(IIII)I" } : Jvm.MethodName)) ∈ am_T := am_in 1525 (by decide +kernel) (by decide +kernel)
set_option maxRecDepth 100000 in
theorem tw_1526 : (Jvm.Cond.code ({ cls := "HadItFromModel", name := "journey", desc := "(IIII)I" } : Jvm.MethodName) prog_14_method_25_code (6 : Nat) (Option.some Jvm.ClassFile.FieldType.int)) ∈ am_T := am_in 1526 rfl rfl
theorem tw_1527 : (Jvm.Cond.methodLink "HadItFromModel" (191 : Nat) ({ cls := "HadItFromModel", name := "isMan", desc := "(I)Z" } : Jvm.MethodName)) ∈ am_T := am_in 1527 (by decide +kernel) (by decide +kernel)
theorem tw_1529 : (Jvm.Cond.instanceMethod ({ cls := "HadItFromModel", name := "isMan", desc := "(I)Z" } : Jvm.MethodName)) ∈ am_T := am_in 1529 (by decide +kernel) (by decide +kernel)
set_option maxRecDepth 100000 in
theorem tw_1530 : (Jvm.Cond.code ({ cls := "HadItFromModel", name := "isMan", desc := "(I)Z" } : Jvm.MethodName) prog_14_method_5_code (2 : Nat) (Option.some Jvm.ClassFile.FieldType.boolean)) ∈ am_T := am_in 1530 rfl rfl
theorem tw_1531 : (Jvm.Cond.methodLink "HadItFromLaw" (65 : Nat) ({ cls := "HadItFromModel", name := "found", desc := "(III)I" } : Jvm.MethodName)) ∈ am_T := am_in 1531 (by decide +kernel) (by decide +kernel)
theorem tw_1532 : (Jvm.Cond.instanceMethod ({ cls := "HadItFromModel", name := "found", desc := "(III)I" } : Jvm.MethodName)) ∈ am_T := am_in 1532 (by decide +kernel) (by decide +kernel)
theorem tw_1533 : (Jvm.Cond.selects "HadItFromModel" ({ cls := "HadItFromModel", name := "found", desc := "(III)I" } : Jvm.MethodName) ({ cls := "HadItFromModel", name := "found", desc := "(III)I" } : Jvm.MethodName)) ∈ am_T := am_in 1533 (by decide +kernel) (by decide +kernel)
set_option maxRecDepth 100000 in
theorem tw_1534 : (Jvm.Cond.code ({ cls := "HadItFromModel", name := "found", desc := "(III)I" } : Jvm.MethodName) prog_14_method_26_code (4 : Nat) (Option.some Jvm.ClassFile.FieldType.int)) ∈ am_T := am_in 1534 rfl rfl
theorem tw_1535 : (Jvm.Cond.methodLink "HadItFromLaw" (69 : Nat) ({ cls := "HadItFromModel", name := "mark", desc := "(III)I" } : Jvm.MethodName)) ∈ am_T := am_in 1535 (by decide +kernel) (by decide +kernel)
theorem tw_1536 : (Jvm.Cond.instanceMethod ({ cls := "HadItFromModel", name := "mark", desc := "(III)I" } : Jvm.MethodName)) ∈ am_T := am_in 1536 (by decide +kernel) (by decide +kernel)
theorem tw_1537 : (Jvm.Cond.selects "HadItFromModel" ({ cls := "HadItFromModel", name := "mark", desc := "(III)I" } : Jvm.MethodName) ({ cls := "HadItFromModel", name := "mark", desc := "(III)I" } : Jvm.MethodName)) ∈ am_T := am_in 1537 (by decide +kernel) (by decide +kernel)
set_option maxRecDepth 100000 in
theorem tw_1538 : (Jvm.Cond.code ({ cls := "HadItFromModel", name := "mark", desc := "(III)I" } : Jvm.MethodName) prog_14_method_27_code (5 : Nat) (Option.some Jvm.ClassFile.FieldType.int)) ∈ am_T := am_in 1538 rfl rfl
theorem tw_1539 : (Jvm.Cond.methodLink "HadItFromLaw" (73 : Nat) ({ cls := "HadItFromModel", name := "manOf", desc := "(II)I" } : Jvm.MethodName)) ∈ am_T := am_in 1539 (by decide +kernel) (by decide +kernel)
theorem tw_1540 : (Jvm.Cond.instanceMethod ({ cls := "HadItFromModel", name := "manOf", desc := "(II)I" } : Jvm.MethodName)) ∈ am_T := am_in 1540 (by decide +kernel) (by decide +kernel)
theorem tw_1541 : (Jvm.Cond.selects "HadItFromModel" ({ cls := "HadItFromModel", name := "manOf", desc := "(II)I" } : Jvm.MethodName) ({ cls := "HadItFromModel", name := "manOf", desc := "(II)I" } : Jvm.MethodName)) ∈ am_T := am_in 1541 (by decide +kernel) (by decide +kernel)
set_option maxRecDepth 100000 in
theorem tw_1542 : (Jvm.Cond.code ({ cls := "HadItFromModel", name := "manOf", desc := "(II)I" } : Jvm.MethodName) prog_14_method_28_code (3 : Nat) (Option.some Jvm.ClassFile.FieldType.int)) ∈ am_T := am_in 1542 rfl rfl
theorem tw_1543 : (Jvm.Cond.methodLink "HadItFromLaw" (77 : Nat) ({ cls := "HadItFromModel", name := "where", desc := "(II)I" } : Jvm.MethodName)) ∈ am_T := am_in 1543 (by decide +kernel) (by decide +kernel)
theorem tw_1544 : (Jvm.Cond.instanceMethod ({ cls := "HadItFromModel", name := "where", desc := "(II)I" } : Jvm.MethodName)) ∈ am_T := am_in 1544 (by decide +kernel) (by decide +kernel)
theorem tw_1545 : (Jvm.Cond.selects "HadItFromModel" ({ cls := "HadItFromModel", name := "where", desc := "(II)I" } : Jvm.MethodName) ({ cls := "HadItFromModel", name := "where", desc := "(II)I" } : Jvm.MethodName)) ∈ am_T := am_in 1545 (by decide +kernel) (by decide +kernel)
set_option maxRecDepth 100000 in
theorem tw_1546 : (Jvm.Cond.code ({ cls := "HadItFromModel", name := "where", desc := "(II)I" } : Jvm.MethodName) prog_14_method_30_code (3 : Nat) (Option.some Jvm.ClassFile.FieldType.int)) ∈ am_T := am_in 1546 rfl rfl
theorem tw_1547 : (Jvm.Cond.methodLink "HadItFromModel" (194 : Nat) ({ cls := "HadItFromModel", name := "whereIs", desc := "(II)I" } : Jvm.MethodName)) ∈ am_T := am_in 1547 (by decide +kernel) (by decide +kernel)
theorem tw_1549 : (Jvm.Cond.instanceMethod ({ cls := "HadItFromModel", name := "whereIs", desc := "(II)I" } : Jvm.MethodName)) ∈ am_T := am_in 1549 (by decide +kernel) (by decide +kernel)
set_option maxRecDepth 100000 in
theorem tw_1550 : (Jvm.Cond.code ({ cls := "HadItFromModel", name := "whereIs", desc := "(II)I" } : Jvm.MethodName) prog_14_method_29_code (4 : Nat) (Option.some Jvm.ClassFile.FieldType.int)) ∈ am_T := am_in 1550 rfl rfl
theorem tw_1551 : (Jvm.Cond.methodLink "HadItFromLaw" (81 : Nat) ({ cls := "HadItFromModel", name := "rules", desc := "(I)I" } : Jvm.MethodName)) ∈ am_T := am_in 1551 (by decide +kernel) (by decide +kernel)
theorem tw_1552 : (Jvm.Cond.instanceMethod ({ cls := "HadItFromModel", name := "rules", desc := "(I)I" } : Jvm.MethodName)) ∈ am_T := am_in 1552 (by decide +kernel) (by decide +kernel)
theorem tw_1553 : (Jvm.Cond.selects "HadItFromModel" ({ cls := "HadItFromModel", name := "rules", desc := "(I)I" } : Jvm.MethodName) ({ cls := "HadItFromModel", name := "rules", desc := "(I)I" } : Jvm.MethodName)) ∈ am_T := am_in 1553 (by decide +kernel) (by decide +kernel)
set_option maxRecDepth 100000 in
theorem tw_1554 : (Jvm.Cond.code ({ cls := "HadItFromModel", name := "rules", desc := "(I)I" } : Jvm.MethodName) prog_14_method_43_code (4 : Nat) (Option.some Jvm.ClassFile.FieldType.int)) ∈ am_T := am_in 1554 rfl rfl
theorem tw_1555 : (Jvm.Cond.methodLink "HadItFromModel" (250 : Nat) ({ cls := "HadItFromModel", name := "text", desc := "(IZ)I" } : Jvm.MethodName)) ∈ am_T := am_in 1555 (by decide +kernel) (by decide +kernel)
theorem tw_1557 : (Jvm.Cond.instanceMethod ({ cls := "HadItFromModel", name := "text", desc := "(IZ)I" } : Jvm.MethodName)) ∈ am_T := am_in 1557 (by decide +kernel) (by decide +kernel)
set_option maxRecDepth 100000 in
theorem tw_1558 : (Jvm.Cond.code ({ cls := "HadItFromModel", name := "text", desc := "(IZ)I" } : Jvm.MethodName) prog_14_method_42_code (4 : Nat) (Option.some Jvm.ClassFile.FieldType.int)) ∈ am_T := am_in 1558 rfl rfl
theorem tw_1559 : (Jvm.Cond.methodLink "HadItFromModel" (244 : Nat) ({ cls := "HadItFromModel", name := "readsBook", desc := "()Z" } : Jvm.MethodName)) ∈ am_T := am_in 1559 (by decide +kernel) (by decide +kernel)
theorem tw_1561 : (Jvm.Cond.instanceMethod ({ cls := "HadItFromModel", name := "readsBook", desc := "()Z" } : Jvm.MethodName)) ∈ am_T := am_in 1561 (by decide +kernel) (by decide +kernel)
set_option maxRecDepth 100000 in
theorem tw_1562 : (Jvm.Cond.code ({ cls := "HadItFromModel", name := "readsBook", desc := "()Z" } : Jvm.MethodName) prog_14_method_41_code (1 : Nat) (Option.some Jvm.ClassFile.FieldType.boolean)) ∈ am_T := am_in 1562 rfl rfl
theorem tw_1563 : (Jvm.Cond.methodLink "HadItFromModel" (241 : Nat) ({ cls := "HadItFromModel", name := "oneRow", desc := "(I)Z" } : Jvm.MethodName)) ∈ am_T := am_in 1563 (by decide +kernel) (by decide +kernel)
theorem tw_1565 : (Jvm.Cond.instanceMethod ({ cls := "HadItFromModel", name := "oneRow", desc := "(I)Z" } : Jvm.MethodName)) ∈ am_T := am_in 1565 (by decide +kernel) (by decide +kernel)
set_option maxRecDepth 100000 in
theorem tw_1566 : (Jvm.Cond.code ({ cls := "HadItFromModel", name := "oneRow", desc := "(I)Z" } : Jvm.MethodName) prog_14_method_40_code (3 : Nat) (Option.some Jvm.ClassFile.FieldType.boolean)) ∈ am_T := am_in 1566 rfl rfl
theorem tw_1567 : (Jvm.Cond.methodLink "HadItFromModel" (213 : Nat) ({ cls := "HadItFromModel", name := "isDigit", desc := "()Z" } : Jvm.MethodName)) ∈ am_T := am_in 1567 (by decide +kernel) (by decide +kernel)
theorem tw_1569 : (Jvm.Cond.instanceMethod ({ cls := "HadItFromModel", name := "isDigit", desc := "()Z" } : Jvm.MethodName)) ∈ am_T := am_in 1569 (by decide +kernel) (by decide +kernel)
set_option maxRecDepth 100000 in
theorem tw_1570 : (Jvm.Cond.code ({ cls := "HadItFromModel", name := "isDigit", desc := "()Z" } : Jvm.MethodName) prog_14_method_34_code (1 : Nat) (Option.some Jvm.ClassFile.FieldType.boolean)) ∈ am_T := am_in 1570 rfl rfl
theorem tw_1571 : (Jvm.Cond.methodLink "HadItFromModel" (209 : Nat) ({ cls := "HadItFromModel", name := "letter", desc := "()I" } : Jvm.MethodName)) ∈ am_T := am_in 1571 (by decide +kernel) (by decide +kernel)
theorem tw_1573 : (Jvm.Cond.instanceMethod ({ cls := "HadItFromModel", name := "letter", desc := "()I" } : Jvm.MethodName)) ∈ am_T := am_in 1573 (by decide +kernel) (by decide +kernel)
set_option maxRecDepth 100000 in
theorem tw_1574 : (Jvm.Cond.code ({ cls := "HadItFromModel", name := "letter", desc := "()I" } : Jvm.MethodName) prog_14_method_31_code (1 : Nat) (Option.some Jvm.ClassFile.FieldType.int)) ∈ am_T := am_in 1574 rfl rfl
theorem tw_1575 : (Jvm.Cond.methodLink "HadItFromModel" (223 : Nat) ({ cls := "HadItFromModel", name := "word", desc := "(II)I" } : Jvm.MethodName)) ∈ am_T := am_in 1575 (by decide +kernel) (by decide +kernel)
theorem tw_1577 : (Jvm.Cond.instanceMethod ({ cls := "HadItFromModel", name := "word", desc := "(II)I" } : Jvm.MethodName)) ∈ am_T := am_in 1577 (by decide +kernel) (by decide +kernel)
set_option maxRecDepth 100000 in
theorem tw_1578 : (Jvm.Cond.code ({ cls := "HadItFromModel", name := "word", desc := "(II)I" } : Jvm.MethodName) prog_14_method_33_code (8 : Nat) (Option.some Jvm.ClassFile.FieldType.int)) ∈ am_T := am_in 1578 rfl rfl
theorem tw_1579 : (Jvm.Cond.methodLink "HadItFromModel" (235 : Nat) ({ cls := "HadItFromModel", name := "manHere", desc := "(I)Z" } : Jvm.MethodName)) ∈ am_T := am_in 1579 (by decide +kernel) (by decide +kernel)
theorem tw_1581 : (Jvm.Cond.instanceMethod ({ cls := "HadItFromModel", name := "manHere", desc := "(I)Z" } : Jvm.MethodName)) ∈ am_T := am_in 1581 (by decide +kernel) (by decide +kernel)
set_option maxRecDepth 100000 in
theorem tw_1582 : (Jvm.Cond.code ({ cls := "HadItFromModel", name := "manHere", desc := "(I)Z" } : Jvm.MethodName) prog_14_method_39_code (4 : Nat) (Option.some Jvm.ClassFile.FieldType.boolean)) ∈ am_T := am_in 1582 rfl rfl
theorem tw_1583 : (Jvm.Cond.methodLink "HadItFromModel" (229 : Nat) ({ cls := "HadItFromModel", name := "digits", desc := "(I)Z" } : Jvm.MethodName)) ∈ am_T := am_in 1583 (by decide +kernel) (by decide +kernel)
theorem tw_1585 : (Jvm.Cond.instanceMethod ({ cls := "HadItFromModel", name := "digits", desc := "(I)Z" } : Jvm.MethodName)) ∈ am_T := am_in 1585 (by decide +kernel) (by decide +kernel)
set_option maxRecDepth 100000 in
theorem tw_1586 : (Jvm.Cond.code ({ cls := "HadItFromModel", name := "digits", desc := "(I)Z" } : Jvm.MethodName) prog_14_method_35_code (3 : Nat) (Option.some Jvm.ClassFile.FieldType.boolean)) ∈ am_T := am_in 1586 rfl rfl
theorem tw_1587 : (Jvm.Cond.methodLink "HadItFromModel" (217 : Nat) ({ cls := "HadItFromModel", name := "wrong", desc := "(I)Z" } : Jvm.MethodName)) ∈ am_T := am_in 1587 (by decide +kernel) (by decide +kernel)
theorem tw_1589 : (Jvm.Cond.instanceMethod ({ cls := "HadItFromModel", name := "wrong", desc := "(I)Z" } : Jvm.MethodName)) ∈ am_T := am_in 1589 (by decide +kernel) (by decide +kernel)
set_option maxRecDepth 100000 in
theorem tw_1590 : (Jvm.Cond.code ({ cls := "HadItFromModel", name := "wrong", desc := "(I)Z" } : Jvm.MethodName) prog_14_method_32_code (2 : Nat) (Option.some Jvm.ClassFile.FieldType.boolean)) ∈ am_T := am_in 1590 rfl rfl
theorem tw_1591 : (Jvm.Cond.methodLink "HadItFromModel" (247 : Nat) ({ cls := "HadItFromModel", name := "readsRules", desc := "()Z" } : Jvm.MethodName)) ∈ am_T := am_in 1591 (by decide +kernel) (by decide +kernel)
theorem tw_1593 : (Jvm.Cond.instanceMethod ({ cls := "HadItFromModel", name := "readsRules", desc := "()Z" } : Jvm.MethodName)) ∈ am_T := am_in 1593 (by decide +kernel) (by decide +kernel)
set_option maxRecDepth 100000 in
theorem tw_1594 : (Jvm.Cond.code ({ cls := "HadItFromModel", name := "readsRules", desc := "()Z" } : Jvm.MethodName) prog_14_method_38_code (2 : Nat) (Option.some Jvm.ClassFile.FieldType.boolean)) ∈ am_T := am_in 1594 rfl rfl
theorem tw_1595 : (Jvm.Cond.methodLink "HadItFromModel" (232 : Nat) ({ cls := "HadItFromModel", name := "oneRule", desc := "()Z" } : Jvm.MethodName)) ∈ am_T := am_in 1595 (by decide +kernel) (by decide +kernel)
theorem tw_1597 : (Jvm.Cond.instanceMethod ({ cls := "HadItFromModel", name := "oneRule", desc := "()Z" } : Jvm.MethodName)) ∈ am_T := am_in 1597 (by decide +kernel) (by decide +kernel)
set_option maxRecDepth 100000 in
theorem tw_1598 : (Jvm.Cond.code ({ cls := "HadItFromModel", name := "oneRule", desc := "()Z" } : Jvm.MethodName) prog_14_method_37_code (2 : Nat) (Option.some Jvm.ClassFile.FieldType.boolean)) ∈ am_T := am_in 1598 rfl rfl
theorem tw_1599 : (Jvm.Cond.methodLink "HadItFromModel" (226 : Nat) ({ cls := "HadItFromModel", name := "most", desc := "(I)I" } : Jvm.MethodName)) ∈ am_T := am_in 1599 (by decide +kernel) (by decide +kernel)
theorem tw_1601 : (Jvm.Cond.instanceMethod ({ cls := "HadItFromModel", name := "most", desc := "(I)I" } : Jvm.MethodName)) ∈ am_T := am_in 1601 (by decide +kernel) (by decide +kernel)
set_option maxRecDepth 100000 in
theorem tw_1602 : (Jvm.Cond.code ({ cls := "HadItFromModel", name := "most", desc := "(I)I" } : Jvm.MethodName) prog_14_method_36_code (2 : Nat) (Option.some Jvm.ClassFile.FieldType.int)) ∈ am_T := am_in 1602 rfl rfl
theorem tw_1603 : (Jvm.Cond.methodLink "HadItFromLaw" (86 : Nat) ({ cls := "HadItFromModel", name := "fault", desc := "()I" } : Jvm.MethodName)) ∈ am_T := am_in 1603 (by decide +kernel) (by decide +kernel)
theorem tw_1604 : (Jvm.Cond.instanceMethod ({ cls := "HadItFromModel", name := "fault", desc := "()I" } : Jvm.MethodName)) ∈ am_T := am_in 1604 (by decide +kernel) (by decide +kernel)
theorem tw_1605 : (Jvm.Cond.selects "HadItFromModel" ({ cls := "HadItFromModel", name := "fault", desc := "()I" } : Jvm.MethodName) ({ cls := "HadItFromModel", name := "fault", desc := "()I" } : Jvm.MethodName)) ∈ am_T := am_in 1605 (by decide +kernel) (by decide +kernel)
set_option maxRecDepth 100000 in
theorem tw_1606 : (Jvm.Cond.code ({ cls := "HadItFromModel", name := "fault", desc := "()I" } : Jvm.MethodName) prog_14_method_44_code (1 : Nat) (Option.some Jvm.ClassFile.FieldType.int)) ∈ am_T := am_in 1606 rfl rfl
theorem tw_1607 : (Jvm.Cond.methodLink "HadItFromLaw" (90 : Nat) ({ cls := "HadItFromModel", name := "rule", desc := "(II)I" } : Jvm.MethodName)) ∈ am_T := am_in 1607 (by decide +kernel) (by decide +kernel)
theorem tw_1608 : (Jvm.Cond.instanceMethod ({ cls := "HadItFromModel", name := "rule", desc := "(II)I" } : Jvm.MethodName)) ∈ am_T := am_in 1608 (by decide +kernel) (by decide +kernel)
theorem tw_1609 : (Jvm.Cond.selects "HadItFromModel" ({ cls := "HadItFromModel", name := "rule", desc := "(II)I" } : Jvm.MethodName) ({ cls := "HadItFromModel", name := "rule", desc := "(II)I" } : Jvm.MethodName)) ∈ am_T := am_in 1609 (by decide +kernel) (by decide +kernel)
set_option maxRecDepth 100000 in
theorem tw_1610 : (Jvm.Cond.code ({ cls := "HadItFromModel", name := "rule", desc := "(II)I" } : Jvm.MethodName) prog_14_method_45_code (3 : Nat) (Option.some Jvm.ClassFile.FieldType.int)) ∈ am_T := am_in 1610 rfl rfl
theorem tw_1611 : (Jvm.Cond.methodLink "HadItFromLaw" (94 : Nat) ({ cls := "HadItFromModel", name := "force", desc := "(I)I" } : Jvm.MethodName)) ∈ am_T := am_in 1611 (by decide +kernel) (by decide +kernel)
theorem tw_1612 : (Jvm.Cond.instanceMethod ({ cls := "HadItFromModel", name := "force", desc := "(I)I" } : Jvm.MethodName)) ∈ am_T := am_in 1612 (by decide +kernel) (by decide +kernel)
theorem tw_1613 : (Jvm.Cond.selects "HadItFromModel" ({ cls := "HadItFromModel", name := "force", desc := "(I)I" } : Jvm.MethodName) ({ cls := "HadItFromModel", name := "force", desc := "(I)I" } : Jvm.MethodName)) ∈ am_T := am_in 1613 (by decide +kernel) (by decide +kernel)
set_option maxRecDepth 100000 in
theorem tw_1614 : (Jvm.Cond.code ({ cls := "HadItFromModel", name := "force", desc := "(I)I" } : Jvm.MethodName) prog_14_method_46_code (3 : Nat) (Option.some Jvm.ClassFile.FieldType.int)) ∈ am_T := am_in 1614 rfl rfl
theorem tw_1615 : (Jvm.Cond.methodLink "HadItFromModel" (257 : Nat) ({ cls := "HadItFromModel", name := "noTen", desc := "(I)I" } : Jvm.MethodName)) ∈ am_T := am_in 1615 (by decide +kernel) (by decide +kernel)
theorem tw_1617 : (Jvm.Cond.instanceMethod ({ cls := "HadItFromModel", name := "noTen", desc := "(I)I" } : Jvm.MethodName)) ∈ am_T := am_in 1617 (by decide +kernel) (by decide +kernel)
set_option maxRecDepth 100000 in
theorem tw_1618 : (Jvm.Cond.code ({ cls := "HadItFromModel", name := "noTen", desc := "(I)I" } : Jvm.MethodName) prog_14_method_3_code (2 : Nat) (Option.some Jvm.ClassFile.FieldType.int)) ∈ am_T := am_in 1618 rfl rfl
theorem tw_1619 : (Jvm.Cond.methodLink "HadItFromLaw" (98 : Nat) ({ cls := "HadItFromModel", name := "book", desc := "(I)I" } : Jvm.MethodName)) ∈ am_T := am_in 1619 (by decide +kernel) (by decide +kernel)
theorem tw_1620 : (Jvm.Cond.instanceMethod ({ cls := "HadItFromModel", name := "book", desc := "(I)I" } : Jvm.MethodName)) ∈ am_T := am_in 1620 (by decide +kernel) (by decide +kernel)
theorem tw_1621 : (Jvm.Cond.selects "HadItFromModel" ({ cls := "HadItFromModel", name := "book", desc := "(I)I" } : Jvm.MethodName) ({ cls := "HadItFromModel", name := "book", desc := "(I)I" } : Jvm.MethodName)) ∈ am_T := am_in 1621 (by decide +kernel) (by decide +kernel)
set_option maxRecDepth 100000 in
theorem tw_1622 : (Jvm.Cond.code ({ cls := "HadItFromModel", name := "book", desc := "(I)I" } : Jvm.MethodName) prog_14_method_47_code (6 : Nat) (Option.some Jvm.ClassFile.FieldType.int)) ∈ am_T := am_in 1622 rfl rfl
theorem tw_1623 : (Jvm.Cond.methodLink "HadItFromLaw" (102 : Nat) ({ cls := "HadItFromModel", name := "rows", desc := "(I)I" } : Jvm.MethodName)) ∈ am_T := am_in 1623 (by decide +kernel) (by decide +kernel)
theorem tw_1624 : (Jvm.Cond.instanceMethod ({ cls := "HadItFromModel", name := "rows", desc := "(I)I" } : Jvm.MethodName)) ∈ am_T := am_in 1624 (by decide +kernel) (by decide +kernel)
theorem tw_1625 : (Jvm.Cond.selects "HadItFromModel" ({ cls := "HadItFromModel", name := "rows", desc := "(I)I" } : Jvm.MethodName) ({ cls := "HadItFromModel", name := "rows", desc := "(I)I" } : Jvm.MethodName)) ∈ am_T := am_in 1625 (by decide +kernel) (by decide +kernel)
set_option maxRecDepth 100000 in
theorem tw_1626 : (Jvm.Cond.code ({ cls := "HadItFromModel", name := "rows", desc := "(I)I" } : Jvm.MethodName) prog_14_method_48_code (2 : Nat) (Option.some Jvm.ClassFile.FieldType.int)) ∈ am_T := am_in 1626 rfl rfl
theorem tw_1627 : (Jvm.Cond.methodLink "HadItFromLaw" (106 : Nat) ({ cls := "HadItFromModel", name := "rowOf", desc := "(III)I" } : Jvm.MethodName)) ∈ am_T := am_in 1627 (by decide +kernel) (by decide +kernel)
theorem tw_1628 : (Jvm.Cond.instanceMethod ({ cls := "HadItFromModel", name := "rowOf", desc := "(III)I" } : Jvm.MethodName)) ∈ am_T := am_in 1628 (by decide +kernel) (by decide +kernel)
theorem tw_1629 : (Jvm.Cond.selects "HadItFromModel" ({ cls := "HadItFromModel", name := "rowOf", desc := "(III)I" } : Jvm.MethodName) ({ cls := "HadItFromModel", name := "rowOf", desc := "(III)I" } : Jvm.MethodName)) ∈ am_T := am_in 1629 (by decide +kernel) (by decide +kernel)
set_option maxRecDepth 100000 in
theorem tw_1630 : (Jvm.Cond.code ({ cls := "HadItFromModel", name := "rowOf", desc := "(III)I" } : Jvm.MethodName) prog_14_method_49_code (5 : Nat) (Option.some Jvm.ClassFile.FieldType.int)) ∈ am_T := am_in 1630 rfl rfl
theorem tw_1631 : (Jvm.Cond.methodLink "HadItFromLaw" (110 : Nat) ({ cls := "HadItFromModel", name := "could", desc := "(II)I" } : Jvm.MethodName)) ∈ am_T := am_in 1631 (by decide +kernel) (by decide +kernel)
theorem tw_1632 : (Jvm.Cond.instanceMethod ({ cls := "HadItFromModel", name := "could", desc := "(II)I" } : Jvm.MethodName)) ∈ am_T := am_in 1632 (by decide +kernel) (by decide +kernel)
theorem tw_1633 : (Jvm.Cond.selects "HadItFromModel" ({ cls := "HadItFromModel", name := "could", desc := "(II)I" } : Jvm.MethodName) ({ cls := "HadItFromModel", name := "could", desc := "(II)I" } : Jvm.MethodName)) ∈ am_T := am_in 1633 (by decide +kernel) (by decide +kernel)
set_option maxRecDepth 100000 in
theorem tw_1634 : (Jvm.Cond.code ({ cls := "HadItFromModel", name := "could", desc := "(II)I" } : Jvm.MethodName) prog_14_method_52_code (3 : Nat) (Option.some Jvm.ClassFile.FieldType.int)) ∈ am_T := am_in 1634 rfl rfl
theorem tw_1635 : (Jvm.Cond.methodLink "HadItFromModel" (263 : Nat) ({ cls := "HadItFromModel", name := "whenCould", desc := "(II)I" } : Jvm.MethodName)) ∈ am_T := am_in 1635 (by decide +kernel) (by decide +kernel)
theorem tw_1637 : (Jvm.Cond.instanceMethod ({ cls := "HadItFromModel", name := "whenCould", desc := "(II)I" } : Jvm.MethodName)) ∈ am_T := am_in 1637 (by decide +kernel) (by decide +kernel)
set_option maxRecDepth 100000 in
theorem tw_1638 : (Jvm.Cond.code ({ cls := "HadItFromModel", name := "whenCould", desc := "(II)I" } : Jvm.MethodName) prog_14_method_51_code (6 : Nat) (Option.some Jvm.ClassFile.FieldType.int)) ∈ am_T := am_in 1638 rfl rfl
theorem tw_1639 : (Jvm.Cond.methodLink "HadItFromModel" (260 : Nat) ({ cls := "HadItFromModel", name := "law", desc := "(I)I" } : Jvm.MethodName)) ∈ am_T := am_in 1639 (by decide +kernel) (by decide +kernel)
theorem tw_1641 : (Jvm.Cond.instanceMethod ({ cls := "HadItFromModel", name := "law", desc := "(I)I" } : Jvm.MethodName)) ∈ am_T := am_in 1641 (by decide +kernel) (by decide +kernel)
set_option maxRecDepth 100000 in
theorem tw_1642 : (Jvm.Cond.code ({ cls := "HadItFromModel", name := "law", desc := "(I)I" } : Jvm.MethodName) prog_14_method_50_code (2 : Nat) (Option.some Jvm.ClassFile.FieldType.int)) ∈ am_T := am_in 1642 rfl rfl
theorem tw_1643 : (Jvm.Cond.methodLink "HadItFromLaw" (114 : Nat) ({ cls := "HadItFromModel", name := "when", desc := "(II)I" } : Jvm.MethodName)) ∈ am_T := am_in 1643 (by decide +kernel) (by decide +kernel)
theorem tw_1644 : (Jvm.Cond.instanceMethod ({ cls := "HadItFromModel", name := "when", desc := "(II)I" } : Jvm.MethodName)) ∈ am_T := am_in 1644 (by decide +kernel) (by decide +kernel)
theorem tw_1645 : (Jvm.Cond.selects "HadItFromModel" ({ cls := "HadItFromModel", name := "when", desc := "(II)I" } : Jvm.MethodName) ({ cls := "HadItFromModel", name := "when", desc := "(II)I" } : Jvm.MethodName)) ∈ am_T := am_in 1645 (by decide +kernel) (by decide +kernel)
set_option maxRecDepth 100000 in
theorem tw_1646 : (Jvm.Cond.code ({ cls := "HadItFromModel", name := "when", desc := "(II)I" } : Jvm.MethodName) prog_14_method_53_code (3 : Nat) (Option.some Jvm.ClassFile.FieldType.int)) ∈ am_T := am_in 1646 rfl rfl
theorem tw_1647 : (Jvm.Cond.methodLink "HadItFromLaw" (118 : Nat) ({ cls := "HadItFromModel", name := "fails", desc := "(II)I" } : Jvm.MethodName)) ∈ am_T := am_in 1647 (by decide +kernel) (by decide +kernel)
theorem tw_1648 : (Jvm.Cond.instanceMethod ({ cls := "HadItFromModel", name := "fails", desc := "(II)I" } : Jvm.MethodName)) ∈ am_T := am_in 1648 (by decide +kernel) (by decide +kernel)
theorem tw_1649 : (Jvm.Cond.selects "HadItFromModel" ({ cls := "HadItFromModel", name := "fails", desc := "(II)I" } : Jvm.MethodName) ({ cls := "HadItFromModel", name := "fails", desc := "(II)I" } : Jvm.MethodName)) ∈ am_T := am_in 1649 (by decide +kernel) (by decide +kernel)
set_option maxRecDepth 100000 in
theorem tw_1650 : (Jvm.Cond.code ({ cls := "HadItFromModel", name := "fails", desc := "(II)I" } : Jvm.MethodName) prog_14_method_58_code (3 : Nat) (Option.some Jvm.ClassFile.FieldType.int)) ∈ am_T := am_in 1650 rfl rfl
theorem tw_1651 : (Jvm.Cond.methodLink "HadItFromModel" (266 : Nat) ({ cls := "HadItFromModel", name := "failsAt", desc := "(I)I" } : Jvm.MethodName)) ∈ am_T := am_in 1651 (by decide +kernel) (by decide +kernel)
theorem tw_1653 : (Jvm.Cond.instanceMethod ({ cls := "HadItFromModel", name := "failsAt", desc := "(I)I" } : Jvm.MethodName)) ∈ am_T := am_in 1653 (by decide +kernel) (by decide +kernel)
set_option maxRecDepth 100000 in
theorem tw_1654 : (Jvm.Cond.code ({ cls := "HadItFromModel", name := "failsAt", desc := "(I)I" } : Jvm.MethodName) prog_14_method_54_code (6 : Nat) (Option.some Jvm.ClassFile.FieldType.int)) ∈ am_T := am_in 1654 rfl rfl
theorem tw_1655 : (Jvm.Cond.methodLink "HadItFromLaw" (122 : Nat) ({ cls := "HadItFromModel", name := "strength", desc := "(II)I" } : Jvm.MethodName)) ∈ am_T := am_in 1655 (by decide +kernel) (by decide +kernel)
theorem tw_1656 : (Jvm.Cond.instanceMethod ({ cls := "HadItFromModel", name := "strength", desc := "(II)I" } : Jvm.MethodName)) ∈ am_T := am_in 1656 (by decide +kernel) (by decide +kernel)
theorem tw_1657 : (Jvm.Cond.selects "HadItFromModel" ({ cls := "HadItFromModel", name := "strength", desc := "(II)I" } : Jvm.MethodName) ({ cls := "HadItFromModel", name := "strength", desc := "(II)I" } : Jvm.MethodName)) ∈ am_T := am_in 1657 (by decide +kernel) (by decide +kernel)
set_option maxRecDepth 100000 in
theorem tw_1658 : (Jvm.Cond.code ({ cls := "HadItFromModel", name := "strength", desc := "(II)I" } : Jvm.MethodName) prog_14_method_59_code (3 : Nat) (Option.some Jvm.ClassFile.FieldType.int)) ∈ am_T := am_in 1658 rfl rfl
theorem tw_1659 : (Jvm.Cond.methodLink "HadItFromModel" (272 : Nat) ({ cls := "HadItFromModel", name := "strengthAt", desc := "(I)I" } : Jvm.MethodName)) ∈ am_T := am_in 1659 (by decide +kernel) (by decide +kernel)
theorem tw_1661 : (Jvm.Cond.instanceMethod ({ cls := "HadItFromModel", name := "strengthAt", desc := "(I)I" } : Jvm.MethodName)) ∈ am_T := am_in 1661 (by decide +kernel) (by decide +kernel)
set_option maxRecDepth 100000 in
theorem tw_1662 : (Jvm.Cond.code ({ cls := "HadItFromModel", name := "strengthAt", desc := "(I)I" } : Jvm.MethodName) prog_14_method_56_code (5 : Nat) (Option.some Jvm.ClassFile.FieldType.int)) ∈ am_T := am_in 1662 rfl rfl
theorem tw_1663 : (Jvm.Cond.methodLink "HadItFromModel" (269 : Nat) ({ cls := "HadItFromModel", name := "surenessAt", desc := "(II)I" } : Jvm.MethodName)) ∈ am_T := am_in 1663 (by decide +kernel) (by decide +kernel)
theorem tw_1665 : (Jvm.Cond.instanceMethod ({ cls := "HadItFromModel", name := "surenessAt", desc := "(II)I" } : Jvm.MethodName)) ∈ am_T := am_in 1665 (by decide +kernel) (by decide +kernel)
set_option maxRecDepth 100000 in
theorem tw_1666 : (Jvm.Cond.code ({ cls := "HadItFromModel", name := "surenessAt", desc := "(II)I" } : Jvm.MethodName) prog_14_method_55_code (5 : Nat) (Option.some Jvm.ClassFile.FieldType.int)) ∈ am_T := am_in 1666 rfl rfl
theorem tw_1667 : (Jvm.Cond.methodLink "HadItFromLaw" (126 : Nat) ({ cls := "HadItFromModel", name := "stands", desc := "(II)I" } : Jvm.MethodName)) ∈ am_T := am_in 1667 (by decide +kernel) (by decide +kernel)
theorem tw_1668 : (Jvm.Cond.instanceMethod ({ cls := "HadItFromModel", name := "stands", desc := "(II)I" } : Jvm.MethodName)) ∈ am_T := am_in 1668 (by decide +kernel) (by decide +kernel)
theorem tw_1669 : (Jvm.Cond.selects "HadItFromModel" ({ cls := "HadItFromModel", name := "stands", desc := "(II)I" } : Jvm.MethodName) ({ cls := "HadItFromModel", name := "stands", desc := "(II)I" } : Jvm.MethodName)) ∈ am_T := am_in 1669 (by decide +kernel) (by decide +kernel)
set_option maxRecDepth 100000 in
theorem tw_1670 : (Jvm.Cond.code ({ cls := "HadItFromModel", name := "stands", desc := "(II)I" } : Jvm.MethodName) prog_14_method_60_code (3 : Nat) (Option.some Jvm.ClassFile.FieldType.int)) ∈ am_T := am_in 1670 rfl rfl
theorem tw_1671 : (Jvm.Cond.methodLink "HadItFromModel" (275 : Nat) ({ cls := "HadItFromModel", name := "isStanding", desc := "(I)Z" } : Jvm.MethodName)) ∈ am_T := am_in 1671 (by decide +kernel) (by decide +kernel)
theorem tw_1673 : (Jvm.Cond.instanceMethod ({ cls := "HadItFromModel", name := "isStanding", desc := "(I)Z" } : Jvm.MethodName)) ∈ am_T := am_in 1673 (by decide +kernel) (by decide +kernel)
set_option maxRecDepth 100000 in
theorem tw_1674 : (Jvm.Cond.code ({ cls := "HadItFromModel", name := "isStanding", desc := "(I)Z" } : Jvm.MethodName) prog_14_method_57_code (2 : Nat) (Option.some Jvm.ClassFile.FieldType.boolean)) ∈ am_T := am_in 1674 rfl rfl
theorem tw_1675 : (Jvm.Cond.methodLink "HadItFromLaw" (130 : Nat) ({ cls := "HadItFromModel", name := "sureness", desc := "(III)I" } : Jvm.MethodName)) ∈ am_T := am_in 1675 (by decide +kernel) (by decide +kernel)
theorem tw_1676 : (Jvm.Cond.instanceMethod ({ cls := "HadItFromModel", name := "sureness", desc := "(III)I" } : Jvm.MethodName)) ∈ am_T := am_in 1676 (by decide +kernel) (by decide +kernel)
theorem tw_1677 : (Jvm.Cond.selects "HadItFromModel" ({ cls := "HadItFromModel", name := "sureness", desc := "(III)I" } : Jvm.MethodName) ({ cls := "HadItFromModel", name := "sureness", desc := "(III)I" } : Jvm.MethodName)) ∈ am_T := am_in 1677 (by decide +kernel) (by decide +kernel)
set_option maxRecDepth 100000 in
theorem tw_1678 : (Jvm.Cond.code ({ cls := "HadItFromModel", name := "sureness", desc := "(III)I" } : Jvm.MethodName) prog_14_method_61_code (4 : Nat) (Option.some Jvm.ClassFile.FieldType.int)) ∈ am_T := am_in 1678 rfl rfl
theorem tw_1679 : (Jvm.Cond.methodLink "HadItFromLaw" (134 : Nat) ({ cls := "HadItFromModel", name := "judge", desc := "(II)I" } : Jvm.MethodName)) ∈ am_T := am_in 1679 (by decide +kernel) (by decide +kernel)
theorem tw_1680 : (Jvm.Cond.instanceMethod ({ cls := "HadItFromModel", name := "judge", desc := "(II)I" } : Jvm.MethodName)) ∈ am_T := am_in 1680 (by decide +kernel) (by decide +kernel)
theorem tw_1681 : (Jvm.Cond.selects "HadItFromModel" ({ cls := "HadItFromModel", name := "judge", desc := "(II)I" } : Jvm.MethodName) ({ cls := "HadItFromModel", name := "judge", desc := "(II)I" } : Jvm.MethodName)) ∈ am_T := am_in 1681 (by decide +kernel) (by decide +kernel)
set_option maxRecDepth 100000 in
theorem tw_1682 : (Jvm.Cond.code ({ cls := "HadItFromModel", name := "judge", desc := "(II)I" } : Jvm.MethodName) prog_14_method_62_code (6 : Nat) (Option.some Jvm.ClassFile.FieldType.int)) ∈ am_T := am_in 1682 rfl rfl
theorem tw_1683 : (Jvm.Cond.methodLink "HadItFromLaw" (138 : Nat) ({ cls := "HadItFromModel", name := "apart", desc := "(I)I" } : Jvm.MethodName)) ∈ am_T := am_in 1683 (by decide +kernel) (by decide +kernel)
theorem tw_1684 : (Jvm.Cond.instanceMethod ({ cls := "HadItFromModel", name := "apart", desc := "(I)I" } : Jvm.MethodName)) ∈ am_T := am_in 1684 (by decide +kernel) (by decide +kernel)
theorem tw_1685 : (Jvm.Cond.selects "HadItFromModel" ({ cls := "HadItFromModel", name := "apart", desc := "(I)I" } : Jvm.MethodName) ({ cls := "HadItFromModel", name := "apart", desc := "(I)I" } : Jvm.MethodName)) ∈ am_T := am_in 1685 (by decide +kernel) (by decide +kernel)
set_option maxRecDepth 100000 in
theorem tw_1686 : (Jvm.Cond.code ({ cls := "HadItFromModel", name := "apart", desc := "(I)I" } : Jvm.MethodName) prog_14_method_69_code (2 : Nat) (Option.some Jvm.ClassFile.FieldType.int)) ∈ am_T := am_in 1686 rfl rfl
theorem tw_1687 : (Jvm.Cond.methodLink "HadItFromModel" (297 : Nat) ({ cls := "HadItFromModel", name := "apartOf", desc := "(I)I" } : Jvm.MethodName)) ∈ am_T := am_in 1687 (by decide +kernel) (by decide +kernel)
theorem tw_1689 : (Jvm.Cond.instanceMethod ({ cls := "HadItFromModel", name := "apartOf", desc := "(I)I" } : Jvm.MethodName)) ∈ am_T := am_in 1689 (by decide +kernel) (by decide +kernel)
set_option maxRecDepth 100000 in
theorem tw_1690 : (Jvm.Cond.code ({ cls := "HadItFromModel", name := "apartOf", desc := "(I)I" } : Jvm.MethodName) prog_14_method_67_code (2 : Nat) (Option.some Jvm.ClassFile.FieldType.int)) ∈ am_T := am_in 1690 rfl rfl
theorem tw_1691 : (Jvm.Cond.methodLink "HadItFromModel" (287 : Nat) ({ cls := "HadItFromModel", name := "net", desc := "(I)V" } : Jvm.MethodName)) ∈ am_T := am_in 1691 (by decide +kernel) (by decide +kernel)
theorem tw_1693 : (Jvm.Cond.instanceMethod ({ cls := "HadItFromModel", name := "net", desc := "(I)V" } : Jvm.MethodName)) ∈ am_T := am_in 1693 (by decide +kernel) (by decide +kernel)
set_option maxRecDepth 100000 in
theorem tw_1694 : (Jvm.Cond.code ({ cls := "HadItFromModel", name := "net", desc := "(I)V" } : Jvm.MethodName) prog_14_method_63_code (5 : Nat) (Option.none : Option Jvm.ClassFile.FieldType)) ∈ am_T := am_in 1694 rfl rfl
theorem tw_1695 : (Jvm.Cond.methodLink "HadItFromModel" (291 : Nat) ({ cls := "HadItFromModel", name := "ones", desc := "()V" } : Jvm.MethodName)) ∈ am_T := am_in 1695 (by decide +kernel) (by decide +kernel)
theorem tw_1697 : (Jvm.Cond.instanceMethod ({ cls := "HadItFromModel", name := "ones", desc := "()V" } : Jvm.MethodName)) ∈ am_T := am_in 1697 (by decide +kernel) (by decide +kernel)
set_option maxRecDepth 100000 in
theorem tw_1698 : (Jvm.Cond.code ({ cls := "HadItFromModel", name := "ones", desc := "()V" } : Jvm.MethodName) prog_14_method_66_code (2 : Nat) (Option.none : Option Jvm.ClassFile.FieldType)) ∈ am_T := am_in 1698 rfl rfl
theorem tw_1699 : (Jvm.Cond.methodLink "HadItFromModel" (294 : Nat) ({ cls := "HadItFromModel", name := "flow", desc := "(I)I" } : Jvm.MethodName)) ∈ am_T := am_in 1699 (by decide +kernel) (by decide +kernel)
theorem tw_1701 : (Jvm.Cond.instanceMethod ({ cls := "HadItFromModel", name := "flow", desc := "(I)I" } : Jvm.MethodName)) ∈ am_T := am_in 1701 (by decide +kernel) (by decide +kernel)
set_option maxRecDepth 100000 in
theorem tw_1702 : (Jvm.Cond.code ({ cls := "HadItFromModel", name := "flow", desc := "(I)I" } : Jvm.MethodName) prog_14_method_64_code (4 : Nat) (Option.some Jvm.ClassFile.FieldType.int)) ∈ am_T := am_in 1702 rfl rfl
theorem tw_1703 : (Jvm.Cond.methodLink "HadItFromModel" (284 : Nat) ({ cls := "HadItFromModel", name := "fills", desc := "()Z" } : Jvm.MethodName)) ∈ am_T := am_in 1703 (by decide +kernel) (by decide +kernel)
theorem tw_1705 : (Jvm.Cond.instanceMethod ({ cls := "HadItFromModel", name := "fills", desc := "()Z" } : Jvm.MethodName)) ∈ am_T := am_in 1705 (by decide +kernel) (by decide +kernel)
set_option maxRecDepth 100000 in
theorem tw_1706 : (Jvm.Cond.code ({ cls := "HadItFromModel", name := "fills", desc := "()Z" } : Jvm.MethodName) prog_14_method_65_code (6 : Nat) (Option.some Jvm.ClassFile.FieldType.boolean)) ∈ am_T := am_in 1706 rfl rfl
theorem tw_1707 : (Jvm.Cond.methodLink "HadItFromLaw" (142 : Nat) ({ cls := "HadItFromModel", name := "cut", desc := "(I)I" } : Jvm.MethodName)) ∈ am_T := am_in 1707 (by decide +kernel) (by decide +kernel)
theorem tw_1708 : (Jvm.Cond.instanceMethod ({ cls := "HadItFromModel", name := "cut", desc := "(I)I" } : Jvm.MethodName)) ∈ am_T := am_in 1708 (by decide +kernel) (by decide +kernel)
theorem tw_1709 : (Jvm.Cond.selects "HadItFromModel" ({ cls := "HadItFromModel", name := "cut", desc := "(I)I" } : Jvm.MethodName) ({ cls := "HadItFromModel", name := "cut", desc := "(I)I" } : Jvm.MethodName)) ∈ am_T := am_in 1709 (by decide +kernel) (by decide +kernel)
set_option maxRecDepth 100000 in
theorem tw_1710 : (Jvm.Cond.code ({ cls := "HadItFromModel", name := "cut", desc := "(I)I" } : Jvm.MethodName) prog_14_method_70_code (5 : Nat) (Option.some Jvm.ClassFile.FieldType.int)) ∈ am_T := am_in 1710 rfl rfl
theorem tw_1711 : (Jvm.Cond.methodLink "HadItFromLaw" (146 : Nat) ({ cls := "HadItFromModel", name := "knots", desc := "(I)I" } : Jvm.MethodName)) ∈ am_T := am_in 1711 (by decide +kernel) (by decide +kernel)
theorem tw_1712 : (Jvm.Cond.instanceMethod ({ cls := "HadItFromModel", name := "knots", desc := "(I)I" } : Jvm.MethodName)) ∈ am_T := am_in 1712 (by decide +kernel) (by decide +kernel)
theorem tw_1713 : (Jvm.Cond.selects "HadItFromModel" ({ cls := "HadItFromModel", name := "knots", desc := "(I)I" } : Jvm.MethodName) ({ cls := "HadItFromModel", name := "knots", desc := "(I)I" } : Jvm.MethodName)) ∈ am_T := am_in 1713 (by decide +kernel) (by decide +kernel)
set_option maxRecDepth 100000 in
theorem tw_1714 : (Jvm.Cond.code ({ cls := "HadItFromModel", name := "knots", desc := "(I)I" } : Jvm.MethodName) prog_14_method_71_code (2 : Nat) (Option.some Jvm.ClassFile.FieldType.int)) ∈ am_T := am_in 1714 rfl rfl
theorem tw_1715 : (Jvm.Cond.methodLink "HadItFromModel" (300 : Nat) ({ cls := "HadItFromModel", name := "knotsOf", desc := "(I)I" } : Jvm.MethodName)) ∈ am_T := am_in 1715 (by decide +kernel) (by decide +kernel)
theorem tw_1717 : (Jvm.Cond.instanceMethod ({ cls := "HadItFromModel", name := "knotsOf", desc := "(I)I" } : Jvm.MethodName)) ∈ am_T := am_in 1717 (by decide +kernel) (by decide +kernel)
set_option maxRecDepth 100000 in
theorem tw_1718 : (Jvm.Cond.code ({ cls := "HadItFromModel", name := "knotsOf", desc := "(I)I" } : Jvm.MethodName) prog_14_method_68_code (4 : Nat) (Option.some Jvm.ClassFile.FieldType.int)) ∈ am_T := am_in 1718 rfl rfl
theorem tw_1719 : (Jvm.Cond.methodLink "HadItFromLaw" (150 : Nat) ({ cls := "HadItFromModel", name := "alone", desc := "(I)I" } : Jvm.MethodName)) ∈ am_T := am_in 1719 (by decide +kernel) (by decide +kernel)
theorem tw_1720 : (Jvm.Cond.instanceMethod ({ cls := "HadItFromModel", name := "alone", desc := "(I)I" } : Jvm.MethodName)) ∈ am_T := am_in 1720 (by decide +kernel) (by decide +kernel)
theorem tw_1721 : (Jvm.Cond.selects "HadItFromModel" ({ cls := "HadItFromModel", name := "alone", desc := "(I)I" } : Jvm.MethodName) ({ cls := "HadItFromModel", name := "alone", desc := "(I)I" } : Jvm.MethodName)) ∈ am_T := am_in 1721 (by decide +kernel) (by decide +kernel)
set_option maxRecDepth 100000 in
theorem tw_1722 : (Jvm.Cond.code ({ cls := "HadItFromModel", name := "alone", desc := "(I)I" } : Jvm.MethodName) prog_14_method_72_code (4 : Nat) (Option.some Jvm.ClassFile.FieldType.int)) ∈ am_T := am_in 1722 rfl rfl
theorem tw_1723 : (Jvm.Cond.methodLink "HadItFromLaw" (154 : Nat) ({ cls := "HadItFromModel", name := "agree", desc := "(I)I" } : Jvm.MethodName)) ∈ am_T := am_in 1723 (by decide +kernel) (by decide +kernel)
theorem tw_1724 : (Jvm.Cond.instanceMethod ({ cls := "HadItFromModel", name := "agree", desc := "(I)I" } : Jvm.MethodName)) ∈ am_T := am_in 1724 (by decide +kernel) (by decide +kernel)
theorem tw_1725 : (Jvm.Cond.selects "HadItFromModel" ({ cls := "HadItFromModel", name := "agree", desc := "(I)I" } : Jvm.MethodName) ({ cls := "HadItFromModel", name := "agree", desc := "(I)I" } : Jvm.MethodName)) ∈ am_T := am_in 1725 (by decide +kernel) (by decide +kernel)
set_option maxRecDepth 100000 in
theorem tw_1726 : (Jvm.Cond.code ({ cls := "HadItFromModel", name := "agree", desc := "(I)I" } : Jvm.MethodName) prog_14_method_74_code (7 : Nat) (Option.some Jvm.ClassFile.FieldType.int)) ∈ am_T := am_in 1726 rfl rfl
theorem tw_1727 : (Jvm.Cond.methodLink "HadItFromModel" (303 : Nat) ({ cls := "HadItFromModel", name := "menOf", desc := "(I)I" } : Jvm.MethodName)) ∈ am_T := am_in 1727 (by decide +kernel) (by decide +kernel)
theorem tw_1729 : (Jvm.Cond.instanceMethod ({ cls := "HadItFromModel", name := "menOf", desc := "(I)I" } : Jvm.MethodName)) ∈ am_T := am_in 1729 (by decide +kernel) (by decide +kernel)
set_option maxRecDepth 100000 in
theorem tw_1730 : (Jvm.Cond.code ({ cls := "HadItFromModel", name := "menOf", desc := "(I)I" } : Jvm.MethodName) prog_14_method_73_code (4 : Nat) (Option.some Jvm.ClassFile.FieldType.int)) ∈ am_T := am_in 1730 rfl rfl
theorem tw_1731 : (Jvm.Cond.methodLink "HadItFromLaw" (158 : Nat) ({ cls := "HadItFromModel", name := "weight", desc := "(I)I" } : Jvm.MethodName)) ∈ am_T := am_in 1731 (by decide +kernel) (by decide +kernel)
theorem tw_1732 : (Jvm.Cond.instanceMethod ({ cls := "HadItFromModel", name := "weight", desc := "(I)I" } : Jvm.MethodName)) ∈ am_T := am_in 1732 (by decide +kernel) (by decide +kernel)
theorem tw_1733 : (Jvm.Cond.selects "HadItFromModel" ({ cls := "HadItFromModel", name := "weight", desc := "(I)I" } : Jvm.MethodName) ({ cls := "HadItFromModel", name := "weight", desc := "(I)I" } : Jvm.MethodName)) ∈ am_T := am_in 1733 (by decide +kernel) (by decide +kernel)
set_option maxRecDepth 100000 in
theorem tw_1734 : (Jvm.Cond.code ({ cls := "HadItFromModel", name := "weight", desc := "(I)I" } : Jvm.MethodName) prog_14_method_76_code (2 : Nat) (Option.some Jvm.ClassFile.FieldType.int)) ∈ am_T := am_in 1734 rfl rfl
theorem tw_1735 : (Jvm.Cond.methodLink "HadItFromModel" (306 : Nat) ({ cls := "HadItFromModel", name := "weightOf", desc := "(I)I" } : Jvm.MethodName)) ∈ am_T := am_in 1735 (by decide +kernel) (by decide +kernel)
theorem tw_1737 : (Jvm.Cond.instanceMethod ({ cls := "HadItFromModel", name := "weightOf", desc := "(I)I" } : Jvm.MethodName)) ∈ am_T := am_in 1737 (by decide +kernel) (by decide +kernel)
set_option maxRecDepth 100000 in
theorem tw_1738 : (Jvm.Cond.code ({ cls := "HadItFromModel", name := "weightOf", desc := "(I)I" } : Jvm.MethodName) prog_14_method_75_code (5 : Nat) (Option.some Jvm.ClassFile.FieldType.int)) ∈ am_T := am_in 1738 rfl rfl
theorem tw_1739 : (Jvm.Cond.methodLink "HadItFromLaw" (162 : Nat) ({ cls := "HadItFromModel", name := "wordings", desc := "(I)I" } : Jvm.MethodName)) ∈ am_T := am_in 1739 (by decide +kernel) (by decide +kernel)
theorem tw_1740 : (Jvm.Cond.instanceMethod ({ cls := "HadItFromModel", name := "wordings", desc := "(I)I" } : Jvm.MethodName)) ∈ am_T := am_in 1740 (by decide +kernel) (by decide +kernel)
theorem tw_1741 : (Jvm.Cond.selects "HadItFromModel" ({ cls := "HadItFromModel", name := "wordings", desc := "(I)I" } : Jvm.MethodName) ({ cls := "HadItFromModel", name := "wordings", desc := "(I)I" } : Jvm.MethodName)) ∈ am_T := am_in 1741 (by decide +kernel) (by decide +kernel)
set_option maxRecDepth 100000 in
theorem tw_1742 : (Jvm.Cond.code ({ cls := "HadItFromModel", name := "wordings", desc := "(I)I" } : Jvm.MethodName) prog_14_method_78_code (2 : Nat) (Option.some Jvm.ClassFile.FieldType.int)) ∈ am_T := am_in 1742 rfl rfl
theorem tw_1743 : (Jvm.Cond.methodLink "HadItFromModel" (309 : Nat) ({ cls := "HadItFromModel", name := "wordingsOf", desc := "(I)I" } : Jvm.MethodName)) ∈ am_T := am_in 1743 (by decide +kernel) (by decide +kernel)
theorem tw_1745 : (Jvm.Cond.instanceMethod ({ cls := "HadItFromModel", name := "wordingsOf", desc := "(I)I" } : Jvm.MethodName)) ∈ am_T := am_in 1745 (by decide +kernel) (by decide +kernel)
set_option maxRecDepth 100000 in
theorem tw_1746 : (Jvm.Cond.code ({ cls := "HadItFromModel", name := "wordingsOf", desc := "(I)I" } : Jvm.MethodName) prog_14_method_77_code (4 : Nat) (Option.some Jvm.ClassFile.FieldType.int)) ∈ am_T := am_in 1746 rfl rfl
theorem tw_1747 : (Jvm.Cond.methodLink "HadItFromLaw" (166 : Nat) ({ cls := "HadItFromModel", name := "mouths", desc := "(I)I" } : Jvm.MethodName)) ∈ am_T := am_in 1747 (by decide +kernel) (by decide +kernel)
theorem tw_1748 : (Jvm.Cond.instanceMethod ({ cls := "HadItFromModel", name := "mouths", desc := "(I)I" } : Jvm.MethodName)) ∈ am_T := am_in 1748 (by decide +kernel) (by decide +kernel)
theorem tw_1749 : (Jvm.Cond.selects "HadItFromModel" ({ cls := "HadItFromModel", name := "mouths", desc := "(I)I" } : Jvm.MethodName) ({ cls := "HadItFromModel", name := "mouths", desc := "(I)I" } : Jvm.MethodName)) ∈ am_T := am_in 1749 (by decide +kernel) (by decide +kernel)
set_option maxRecDepth 100000 in
theorem tw_1750 : (Jvm.Cond.code ({ cls := "HadItFromModel", name := "mouths", desc := "(I)I" } : Jvm.MethodName) prog_14_method_79_code (7 : Nat) (Option.some Jvm.ClassFile.FieldType.int)) ∈ am_T := am_in 1750 rfl rfl
theorem tw_1751 : (Jvm.Cond.methodLink "HadItFromModel" (312 : Nat) ({ cls := "HadItFromModel", name := "many", desc := "(I)I" } : Jvm.MethodName)) ∈ am_T := am_in 1751 (by decide +kernel) (by decide +kernel)
theorem tw_1753 : (Jvm.Cond.instanceMethod ({ cls := "HadItFromModel", name := "many", desc := "(I)I" } : Jvm.MethodName)) ∈ am_T := am_in 1753 (by decide +kernel) (by decide +kernel)
set_option maxRecDepth 100000 in
theorem tw_1754 : (Jvm.Cond.code ({ cls := "HadItFromModel", name := "many", desc := "(I)I" } : Jvm.MethodName) prog_14_method_9_code (4 : Nat) (Option.some Jvm.ClassFile.FieldType.int)) ∈ am_T := am_in 1754 rfl rfl
theorem tw_1755 : (Jvm.Cond.methodLink "HadItFromLaw" (171 : Nat) ({ cls := "HadItFromModel", name := "clash", desc := "(IIZ)I" } : Jvm.MethodName)) ∈ am_T := am_in 1755 (by decide +kernel) (by decide +kernel)
theorem tw_1756 : (Jvm.Cond.instanceMethod ({ cls := "HadItFromModel", name := "clash", desc := "(IIZ)I" } : Jvm.MethodName)) ∈ am_T := am_in 1756 (by decide +kernel) (by decide +kernel)
theorem tw_1757 : (Jvm.Cond.selects "HadItFromModel" ({ cls := "HadItFromModel", name := "clash", desc := "(IIZ)I" } : Jvm.MethodName) ({ cls := "HadItFromModel", name := "clash", desc := "(IIZ)I" } : Jvm.MethodName)) ∈ am_T := am_in 1757 (by decide +kernel) (by decide +kernel)
set_option maxRecDepth 100000 in
theorem tw_1758 : (Jvm.Cond.code ({ cls := "HadItFromModel", name := "clash", desc := "(IIZ)I" } : Jvm.MethodName) prog_14_method_80_code (5 : Nat) (Option.some Jvm.ClassFile.FieldType.int)) ∈ am_T := am_in 1758 rfl rfl
theorem tw_1759 : (Jvm.Cond.methodLink "HadItFromLaw" (175 : Nat) ({ cls := "HadItFromModel", name := "doubt", desc := "(I)I" } : Jvm.MethodName)) ∈ am_T := am_in 1759 (by decide +kernel) (by decide +kernel)
theorem tw_1760 : (Jvm.Cond.instanceMethod ({ cls := "HadItFromModel", name := "doubt", desc := "(I)I" } : Jvm.MethodName)) ∈ am_T := am_in 1760 (by decide +kernel) (by decide +kernel)
theorem tw_1761 : (Jvm.Cond.selects "HadItFromModel" ({ cls := "HadItFromModel", name := "doubt", desc := "(I)I" } : Jvm.MethodName) ({ cls := "HadItFromModel", name := "doubt", desc := "(I)I" } : Jvm.MethodName)) ∈ am_T := am_in 1761 (by decide +kernel) (by decide +kernel)
set_option maxRecDepth 100000 in
theorem tw_1762 : (Jvm.Cond.code ({ cls := "HadItFromModel", name := "doubt", desc := "(I)I" } : Jvm.MethodName) prog_14_method_81_code (9 : Nat) (Option.some Jvm.ClassFile.FieldType.int)) ∈ am_T := am_in 1762 rfl rfl
theorem tw_1763 : (Jvm.Cond.methodLink "HadItFromLaw" (179 : Nat) ({ cls := "HadItFromModel", name := "like", desc := "(II)I" } : Jvm.MethodName)) ∈ am_T := am_in 1763 (by decide +kernel) (by decide +kernel)
theorem tw_1764 : (Jvm.Cond.instanceMethod ({ cls := "HadItFromModel", name := "like", desc := "(II)I" } : Jvm.MethodName)) ∈ am_T := am_in 1764 (by decide +kernel) (by decide +kernel)
theorem tw_1765 : (Jvm.Cond.selects "HadItFromModel" ({ cls := "HadItFromModel", name := "like", desc := "(II)I" } : Jvm.MethodName) ({ cls := "HadItFromModel", name := "like", desc := "(II)I" } : Jvm.MethodName)) ∈ am_T := am_in 1765 (by decide +kernel) (by decide +kernel)
set_option maxRecDepth 100000 in
theorem tw_1766 : (Jvm.Cond.code ({ cls := "HadItFromModel", name := "like", desc := "(II)I" } : Jvm.MethodName) prog_14_method_84_code (6 : Nat) (Option.some Jvm.ClassFile.FieldType.int)) ∈ am_T := am_in 1766 rfl rfl
theorem tw_1767 : (Jvm.Cond.methodLink "HadItFromModel" (315 : Nat) ({ cls := "HadItFromModel", name := "isMore", desc := "(II)Z" } : Jvm.MethodName)) ∈ am_T := am_in 1767 (by decide +kernel) (by decide +kernel)
theorem tw_1769 : (Jvm.Cond.instanceMethod ({ cls := "HadItFromModel", name := "isMore", desc := "(II)Z" } : Jvm.MethodName)) ∈ am_T := am_in 1769 (by decide +kernel) (by decide +kernel)
set_option maxRecDepth 100000 in
theorem tw_1770 : (Jvm.Cond.code ({ cls := "HadItFromModel", name := "isMore", desc := "(II)Z" } : Jvm.MethodName) prog_14_method_82_code (4 : Nat) (Option.some Jvm.ClassFile.FieldType.boolean)) ∈ am_T := am_in 1770 rfl rfl
theorem tw_1771 : (Jvm.Cond.methodLink "HadItFromModel" (318 : Nat) ({ cls := "HadItFromModel", name := "isBetter", desc := "(II)Z" } : Jvm.MethodName)) ∈ am_T := am_in 1771 (by decide +kernel) (by decide +kernel)
theorem tw_1773 : (Jvm.Cond.instanceMethod ({ cls := "HadItFromModel", name := "isBetter", desc := "(II)Z" } : Jvm.MethodName)) ∈ am_T := am_in 1773 (by decide +kernel) (by decide +kernel)
set_option maxRecDepth 100000 in
theorem tw_1774 : (Jvm.Cond.code ({ cls := "HadItFromModel", name := "isBetter", desc := "(II)Z" } : Jvm.MethodName) prog_14_method_83_code (6 : Nat) (Option.some Jvm.ClassFile.FieldType.boolean)) ∈ am_T := am_in 1774 rfl rfl
theorem tw_1775 : (Jvm.Cond.methodLink "HadItFromLaw" (183 : Nat) ({ cls := "HadItFromModel", name := "between", desc := "(II)I" } : Jvm.MethodName)) ∈ am_T := am_in 1775 (by decide +kernel) (by decide +kernel)
theorem tw_1776 : (Jvm.Cond.instanceMethod ({ cls := "HadItFromModel", name := "between", desc := "(II)I" } : Jvm.MethodName)) ∈ am_T := am_in 1776 (by decide +kernel) (by decide +kernel)
theorem tw_1777 : (Jvm.Cond.selects "HadItFromModel" ({ cls := "HadItFromModel", name := "between", desc := "(II)I" } : Jvm.MethodName) ({ cls := "HadItFromModel", name := "between", desc := "(II)I" } : Jvm.MethodName)) ∈ am_T := am_in 1777 (by decide +kernel) (by decide +kernel)
set_option maxRecDepth 100000 in
theorem tw_1778 : (Jvm.Cond.code ({ cls := "HadItFromModel", name := "between", desc := "(II)I" } : Jvm.MethodName) prog_14_method_85_code (5 : Nat) (Option.some Jvm.ClassFile.FieldType.int)) ∈ am_T := am_in 1778 rfl rfl
theorem tw_1779 : (Jvm.Cond.methodLink "HadItFromLaw" (187 : Nat) ({ cls := "HadItFromModel", name := "silent", desc := "(I)I" } : Jvm.MethodName)) ∈ am_T := am_in 1779 (by decide +kernel) (by decide +kernel)
theorem tw_1780 : (Jvm.Cond.instanceMethod ({ cls := "HadItFromModel", name := "silent", desc := "(I)I" } : Jvm.MethodName)) ∈ am_T := am_in 1780 (by decide +kernel) (by decide +kernel)
theorem tw_1781 : (Jvm.Cond.selects "HadItFromModel" ({ cls := "HadItFromModel", name := "silent", desc := "(I)I" } : Jvm.MethodName) ({ cls := "HadItFromModel", name := "silent", desc := "(I)I" } : Jvm.MethodName)) ∈ am_T := am_in 1781 (by decide +kernel) (by decide +kernel)
set_option maxRecDepth 100000 in
theorem tw_1782 : (Jvm.Cond.code ({ cls := "HadItFromModel", name := "silent", desc := "(I)I" } : Jvm.MethodName) prog_14_method_86_code (6 : Nat) (Option.some Jvm.ClassFile.FieldType.int)) ∈ am_T := am_in 1782 rfl rfl
theorem tw_1783 : (Jvm.Cond.methodLink "HadItFromLaw" (191 : Nat) ({ cls := "HadItFromModel", name := "beside", desc := "(II)I" } : Jvm.MethodName)) ∈ am_T := am_in 1783 (by decide +kernel) (by decide +kernel)
theorem tw_1784 : (Jvm.Cond.instanceMethod ({ cls := "HadItFromModel", name := "beside", desc := "(II)I" } : Jvm.MethodName)) ∈ am_T := am_in 1784 (by decide +kernel) (by decide +kernel)
theorem tw_1785 : (Jvm.Cond.selects "HadItFromModel" ({ cls := "HadItFromModel", name := "beside", desc := "(II)I" } : Jvm.MethodName) ({ cls := "HadItFromModel", name := "beside", desc := "(II)I" } : Jvm.MethodName)) ∈ am_T := am_in 1785 (by decide +kernel) (by decide +kernel)
set_option maxRecDepth 100000 in
theorem tw_1786 : (Jvm.Cond.code ({ cls := "HadItFromModel", name := "beside", desc := "(II)I" } : Jvm.MethodName) prog_14_method_88_code (3 : Nat) (Option.some Jvm.ClassFile.FieldType.int)) ∈ am_T := am_in 1786 rfl rfl
theorem tw_1787 : (Jvm.Cond.methodLink "HadItFromModel" (321 : Nat) ({ cls := "HadItFromModel", name := "standing", desc := "(I)I" } : Jvm.MethodName)) ∈ am_T := am_in 1787 (by decide +kernel) (by decide +kernel)
theorem tw_1789 : (Jvm.Cond.instanceMethod ({ cls := "HadItFromModel", name := "standing", desc := "(I)I" } : Jvm.MethodName)) ∈ am_T := am_in 1789 (by decide +kernel) (by decide +kernel)
set_option maxRecDepth 100000 in
theorem tw_1790 : (Jvm.Cond.code ({ cls := "HadItFromModel", name := "standing", desc := "(I)I" } : Jvm.MethodName) prog_14_method_87_code (5 : Nat) (Option.some Jvm.ClassFile.FieldType.int)) ∈ am_T := am_in 1790 rfl rfl
theorem tw_1791 : (Jvm.Cond.methodLink "HadItFromLaw" (195 : Nat) ({ cls := "HadItFromModel", name := "act", desc := "(IIII)I" } : Jvm.MethodName)) ∈ am_T := am_in 1791 (by decide +kernel) (by decide +kernel)
theorem tw_1792 : (Jvm.Cond.instanceMethod ({ cls := "HadItFromModel", name := "act", desc := "(IIII)I" } : Jvm.MethodName)) ∈ am_T := am_in 1792 (by decide +kernel) (by decide +kernel)
theorem tw_1793 : (Jvm.Cond.selects "HadItFromModel" ({ cls := "HadItFromModel", name := "act", desc := "(IIII)I" } : Jvm.MethodName) ({ cls := "HadItFromModel", name := "act", desc := "(IIII)I" } : Jvm.MethodName)) ∈ am_T := am_in 1793 (by decide +kernel) (by decide +kernel)
set_option maxRecDepth 100000 in
theorem tw_1794 : (Jvm.Cond.code ({ cls := "HadItFromModel", name := "act", desc := "(IIII)I" } : Jvm.MethodName) prog_14_method_93_code (6 : Nat) (Option.some Jvm.ClassFile.FieldType.int)) ∈ am_T := am_in 1794 rfl rfl
theorem tw_1795 : (Jvm.Cond.methodLink "HadItFromModel" (330 : Nat) ({ cls := "HadItFromModel", name := "links", desc := "(II)I" } : Jvm.MethodName)) ∈ am_T := am_in 1795 (by decide +kernel) (by decide +kernel)
theorem tw_1797 : (Jvm.Cond.instanceMethod ({ cls := "HadItFromModel", name := "links", desc := "(II)I" } : Jvm.MethodName)) ∈ am_T := am_in 1797 (by decide +kernel) (by decide +kernel)
set_option maxRecDepth 100000 in
theorem tw_1798 : (Jvm.Cond.code ({ cls := "HadItFromModel", name := "links", desc := "(II)I" } : Jvm.MethodName) prog_14_method_90_code (6 : Nat) (Option.some Jvm.ClassFile.FieldType.int)) ∈ am_T := am_in 1798 rfl rfl
theorem tw_1799 : (Jvm.Cond.methodLink "HadItFromModel" (327 : Nat) ({ cls := "HadItFromModel", name := "body", desc := "(I)V" } : Jvm.MethodName)) ∈ am_T := am_in 1799 (by decide +kernel) (by decide +kernel)
theorem tw_1801 : (Jvm.Cond.instanceMethod ({ cls := "HadItFromModel", name := "body", desc := "(I)V" } : Jvm.MethodName)) ∈ am_T := am_in 1801 (by decide +kernel) (by decide +kernel)
set_option maxRecDepth 100000 in
theorem tw_1802 : (Jvm.Cond.code ({ cls := "HadItFromModel", name := "body", desc := "(I)V" } : Jvm.MethodName) prog_14_method_89_code (2 : Nat) (Option.none : Option Jvm.ClassFile.FieldType)) ∈ am_T := am_in 1802 rfl rfl
theorem tw_1803 : (Jvm.Cond.methodLink "HadItFromModel" (333 : Nat) ({ cls := "HadItFromModel", name := "holding", desc := "(II)I" } : Jvm.MethodName)) ∈ am_T := am_in 1803 (by decide +kernel) (by decide +kernel)
theorem tw_1805 : (Jvm.Cond.instanceMethod ({ cls := "HadItFromModel", name := "holding", desc := "(II)I" } : Jvm.MethodName)) ∈ am_T := am_in 1805 (by decide +kernel) (by decide +kernel)
set_option maxRecDepth 100000 in
theorem tw_1806 : (Jvm.Cond.code ({ cls := "HadItFromModel", name := "holding", desc := "(II)I" } : Jvm.MethodName) prog_14_method_91_code (4 : Nat) (Option.some Jvm.ClassFile.FieldType.int)) ∈ am_T := am_in 1806 rfl rfl
theorem tw_1807 : (Jvm.Cond.methodLink "HadItFromModel" (336 : Nat) ({ cls := "HadItFromModel", name := "weighs", desc := "(II)I" } : Jvm.MethodName)) ∈ am_T := am_in 1807 (by decide +kernel) (by decide +kernel)
theorem tw_1809 : (Jvm.Cond.instanceMethod ({ cls := "HadItFromModel", name := "weighs", desc := "(II)I" } : Jvm.MethodName)) ∈ am_T := am_in 1809 (by decide +kernel) (by decide +kernel)
set_option maxRecDepth 100000 in
theorem tw_1810 : (Jvm.Cond.code ({ cls := "HadItFromModel", name := "weighs", desc := "(II)I" } : Jvm.MethodName) prog_14_method_92_code (5 : Nat) (Option.some Jvm.ClassFile.FieldType.int)) ∈ am_T := am_in 1810 rfl rfl
theorem tw_1811 : (Jvm.Cond.methodLink "HadItFromLaw" (199 : Nat) ({ cls := "HadItFromModel", name := "trace", desc := "(I)I" } : Jvm.MethodName)) ∈ am_T := am_in 1811 (by decide +kernel) (by decide +kernel)
theorem tw_1812 : (Jvm.Cond.instanceMethod ({ cls := "HadItFromModel", name := "trace", desc := "(I)I" } : Jvm.MethodName)) ∈ am_T := am_in 1812 (by decide +kernel) (by decide +kernel)
theorem tw_1813 : (Jvm.Cond.selects "HadItFromModel" ({ cls := "HadItFromModel", name := "trace", desc := "(I)I" } : Jvm.MethodName) ({ cls := "HadItFromModel", name := "trace", desc := "(I)I" } : Jvm.MethodName)) ∈ am_T := am_in 1813 (by decide +kernel) (by decide +kernel)
set_option maxRecDepth 100000 in
theorem tw_1814 : (Jvm.Cond.code ({ cls := "HadItFromModel", name := "trace", desc := "(I)I" } : Jvm.MethodName) prog_14_method_94_code (2 : Nat) (Option.some Jvm.ClassFile.FieldType.int)) ∈ am_T := am_in 1814 rfl rfl
theorem tw_1815 : (Jvm.Cond.methodLink "HadItFromLaw" (203 : Nat) ({ cls := "HadItFromModel", name := "image", desc := "()I" } : Jvm.MethodName)) ∈ am_T := am_in 1815 (by decide +kernel) (by decide +kernel)
theorem tw_1816 : (Jvm.Cond.instanceMethod ({ cls := "HadItFromModel", name := "image", desc := "()I" } : Jvm.MethodName)) ∈ am_T := am_in 1816 (by decide +kernel) (by decide +kernel)
theorem tw_1817 : (Jvm.Cond.selects "HadItFromModel" ({ cls := "HadItFromModel", name := "image", desc := "()I" } : Jvm.MethodName) ({ cls := "HadItFromModel", name := "image", desc := "()I" } : Jvm.MethodName)) ∈ am_T := am_in 1817 (by decide +kernel) (by decide +kernel)
set_option maxRecDepth 100000 in
theorem tw_1818 : (Jvm.Cond.code ({ cls := "HadItFromModel", name := "image", desc := "()I" } : Jvm.MethodName) prog_14_method_97_code (1 : Nat) (Option.some Jvm.ClassFile.FieldType.int)) ∈ am_T := am_in 1818 rfl rfl
theorem tw_1819 : (Jvm.Cond.methodLink "HadItFromModel" (352 : Nat) ({ cls := "HadItFromModel", name := "all", desc := "(Z)V" } : Jvm.MethodName)) ∈ am_T := am_in 1819 (by decide +kernel) (by decide +kernel)
theorem tw_1821 : (Jvm.Cond.instanceMethod ({ cls := "HadItFromModel", name := "all", desc := "(Z)V" } : Jvm.MethodName)) ∈ am_T := am_in 1821 (by decide +kernel) (by decide +kernel)
set_option maxRecDepth 100000 in
theorem tw_1822 : (Jvm.Cond.code ({ cls := "HadItFromModel", name := "all", desc := "(Z)V" } : Jvm.MethodName) prog_14_method_96_code (3 : Nat) (Option.none : Option Jvm.ClassFile.FieldType)) ∈ am_T := am_in 1822 rfl rfl
theorem tw_1823 : (Jvm.Cond.methodLink "HadItFromModel" (339 : Nat) ({ cls := "HadItFromModel", name := "keeps", desc := "([IIIZ)I" } : Jvm.MethodName)) ∈ am_T := am_in 1823 (by decide +kernel) (by decide +kernel)
theorem tw_1825 : (Jvm.Cond.instanceMethod ({ cls := "HadItFromModel", name := "keeps", desc := "([IIIZ)I" } : Jvm.MethodName)) ∈ am_T := am_in 1825 (by decide +kernel) (by decide +kernel)
set_option maxRecDepth 100000 in
theorem tw_1826 : (Jvm.Cond.code ({ cls := "HadItFromModel", name := "keeps", desc := "([IIIZ)I" } : Jvm.MethodName) prog_14_method_95_code (6 : Nat) (Option.some Jvm.ClassFile.FieldType.int)) ∈ am_T := am_in 1826 rfl rfl
theorem tw_1827 : (Jvm.Cond.methodLink "HadItFromLaw" (207 : Nat) ({ cls := "HadItFromModel", name := "restore", desc := "()I" } : Jvm.MethodName)) ∈ am_T := am_in 1827 (by decide +kernel) (by decide +kernel)
theorem tw_1828 : (Jvm.Cond.instanceMethod ({ cls := "HadItFromModel", name := "restore", desc := "()I" } : Jvm.MethodName)) ∈ am_T := am_in 1828 (by decide +kernel) (by decide +kernel)
theorem tw_1829 : (Jvm.Cond.selects "HadItFromModel" ({ cls := "HadItFromModel", name := "restore", desc := "()I" } : Jvm.MethodName) ({ cls := "HadItFromModel", name := "restore", desc := "()I" } : Jvm.MethodName)) ∈ am_T := am_in 1829 (by decide +kernel) (by decide +kernel)
set_option maxRecDepth 100000 in
theorem tw_1830 : (Jvm.Cond.code ({ cls := "HadItFromModel", name := "restore", desc := "()I" } : Jvm.MethodName) prog_14_method_98_code (2 : Nat) (Option.some Jvm.ClassFile.FieldType.int)) ∈ am_T := am_in 1830 rfl rfl
theorem tw_1831 : (Jvm.Cond.methodLink "HadItFromLaw" (211 : Nat) ({ cls := "HadItFromModel", name := "status", desc := "(I)I" } : Jvm.MethodName)) ∈ am_T := am_in 1831 (by decide +kernel) (by decide +kernel)
theorem tw_1832 : (Jvm.Cond.instanceMethod ({ cls := "HadItFromModel", name := "status", desc := "(I)I" } : Jvm.MethodName)) ∈ am_T := am_in 1832 (by decide +kernel) (by decide +kernel)
theorem tw_1833 : (Jvm.Cond.selects "HadItFromModel" ({ cls := "HadItFromModel", name := "status", desc := "(I)I" } : Jvm.MethodName) ({ cls := "HadItFromModel", name := "status", desc := "(I)I" } : Jvm.MethodName)) ∈ am_T := am_in 1833 (by decide +kernel) (by decide +kernel)
set_option maxRecDepth 100000 in
theorem tw_1834 : (Jvm.Cond.code ({ cls := "HadItFromModel", name := "status", desc := "(I)I" } : Jvm.MethodName) prog_14_method_99_code (4 : Nat) (Option.some Jvm.ClassFile.FieldType.int)) ∈ am_T := am_in 1834 rfl rfl
theorem tw_1835 : (Jvm.Cond.constantLong "HadItFromLaw" (18 : Nat) (4294967295 : Int64)) ∈ am_T := am_in 1835 (by decide +kernel) (by decide +kernel)
theorem tw_1836 : (Jvm.Cond.sameMethod "HadItFrom$Gap" "HadItFrom$Gap" "linkHolds" "(ZIZ)Z") ∈ am_T := am_in 1836 (by decide +kernel) (by decide +kernel)
theorem tw_1837 : (Jvm.Cond.sameMethod "HadItFrom$Raised" "HadItFrom$Raised" "lessened" "(I[I)I") ∈ am_T := am_in 1837 (by decide +kernel) (by decide +kernel)
theorem tw_1838 : (Jvm.Cond.sameMethod "HadItFrom$Gap" "HadItFrom$Gap" "actLinks" "(I[I)I") ∈ am_T := am_in 1838 (by decide +kernel) (by decide +kernel)
theorem tw_1839 : (Jvm.Cond.sameMethod "HadItFrom$Raised" "HadItFrom$Raised" "actWeighs" "(I[I)I") ∈ am_T := am_in 1839 (by decide +kernel) (by decide +kernel)
theorem tw_1848 : (Jvm.Cond.fieldLink "java/lang/String" (9 : Nat) "java/lang/String" "value" "[B") ∈ am_T := am_in 1848 (by decide +kernel) (by decide +kernel)
theorem tw_1849 : (Jvm.Cond.fieldLink "java/lang/String" (15 : Nat) "java/lang/String" "coder" "B") ∈ am_T := am_in 1849 (by decide +kernel) (by decide +kernel)
theorem fk_0 : am_fok [10] 0 "HadItFrom$World" "men" "[LHadItFrom$Man;" 2 := by unfold am_fok; decide +kernel
theorem fk_1 : am_fok [11] 2 "HadItFrom" "held" "[I" 2 := by unfold am_fok; decide +kernel
theorem fk_2 : am_fok [11] 13 "HadItFrom" "refusals" "[I" 2 := by unfold am_fok; decide +kernel
theorem fk_3 : am_fok [11] 1 "HadItFrom" "sizes" "[I" 2 := by unfold am_fok; decide +kernel
theorem fk_4 : am_fok [11] 0 "HadItFrom" "elements" "[[J" 2 := by unfold am_fok; decide +kernel
theorem fk_5 : am_fok [12] 5 "HadItFromModel" "refused" "[I" 2 := by unfold am_fok; decide +kernel
theorem fk_6 : am_fok [12] 24 "HadItFromModel" "held" "[I" 2 := by unfold am_fok; decide +kernel
theorem fk_7 : am_fok [12] 25 "HadItFromModel" "sort" "[I" 2 := by unfold am_fok; decide +kernel
theorem fk_8 : am_fok [12] 26 "HadItFromModel" "length" "[I" 2 := by unfold am_fok; decide +kernel
theorem fk_9 : am_fok [12] 28 "HadItFromModel" "cells" "[J" 2 := by unfold am_fok; decide +kernel
theorem fk_10 : am_fok [12] 29 "HadItFromModel" "carried" "[J" 2 := by unfold am_fok; decide +kernel
theorem fk_11 : am_fok [10] 7 "HadItFrom$World" "sayingCount" "I" 0 := by unfold am_fok; decide +kernel
theorem fk_12 : am_fok [10] 6 "HadItFrom$World" "rowCounts" "[I" 2 := by unfold am_fok; decide +kernel
theorem fk_13 : am_fok [10] 5 "HadItFrom$World" "sayingRows" "[LHadItFrom$Row;" 2 := by unfold am_fok; decide +kernel
theorem fk_14 : am_fok [11] 3 "HadItFrom" "now" "LHadItFrom$World;" 2 := by unfold am_fok; decide +kernel
theorem fk_15 : am_fok [12] 2 "HadItFromModel" "sayings" "I" 0 := by unfold am_fok; decide +kernel
theorem fk_16 : am_fok [12] 17 "HadItFromModel" "rowN" "[I" 2 := by unfold am_fok; decide +kernel
theorem fk_17 : am_fok [12] 27 "HadItFromModel" "shown" "[I" 2 := by unfold am_fok; decide +kernel
theorem fk_18 : am_fok [0, 1, 2, 3, 6, 7, 9] 1 "HadItFrom$Row" "count" "I" 0 := by unfold am_fok; decide +kernel
theorem fk_19 : am_fok [0, 1, 2, 3, 6, 7, 9] 4 "HadItFrom$Row" "links" "[I" 2 := by unfold am_fok; decide +kernel
theorem fk_20 : am_fok [0, 1, 2, 3, 6, 7, 9] 3 "HadItFrom$Row" "who" "[I" 2 := by unfold am_fok; decide +kernel
theorem fk_21 : am_fok [0, 1, 2, 3, 6, 7, 9] 2 "HadItFrom$Row" "wording" "I" 0 := by unfold am_fok; decide +kernel
theorem fk_22 : am_fok [12] 18 "HadItFromModel" "kind" "[I" 2 := by unfold am_fok; decide +kernel
theorem fk_23 : am_fok [12] 19 "HadItFromModel" "size" "[I" 2 := by unfold am_fok; decide +kernel
theorem fk_24 : am_fok [12] 20 "HadItFromModel" "wording" "[I" 2 := by unfold am_fok; decide +kernel
theorem fk_25 : am_fok [12] 21 "HadItFromModel" "who" "[I" 2 := by unfold am_fok; decide +kernel
theorem fk_26 : am_fok [12] 22 "HadItFromModel" "link" "[I" 2 := by unfold am_fok; decide +kernel
theorem fk_27 : am_fok [10] 1 "HadItFrom$World" "manCount" "I" 0 := by unfold am_fok; decide +kernel
theorem fk_28 : am_fok [12] 6 "HadItFromModel" "born" "[I" 2 := by unfold am_fok; decide +kernel
theorem fk_29 : am_fok [12] 0 "HadItFromModel" "men" "I" 0 := by unfold am_fok; decide +kernel
theorem fk_30 : am_fok [12] 7 "HadItFromModel" "died" "[I" 2 := by unfold am_fok; decide +kernel
theorem fk_31 : am_fok [12] 8 "HadItFromModel" "home" "[I" 2 := by unfold am_fok; decide +kernel
theorem fk_32 : am_fok [12] 9 "HadItFromModel" "mark" "[I" 2 := by unfold am_fok; decide +kernel
theorem fk_33 : am_fok [12] 10 "HadItFromModel" "late" "[I" 2 := by unfold am_fok; decide +kernel
theorem fk_34 : am_fok [12] 11 "HadItFromModel" "trips" "[I" 2 := by unfold am_fok; decide +kernel
theorem fk_35 : am_fok [4] 6 "HadItFrom$Man" "places" "[I" 2 := by unfold am_fok; decide +kernel
theorem fk_36 : am_fok [4] 5 "HadItFrom$Man" "journeys" "I" 0 := by unfold am_fok; decide +kernel
theorem fk_37 : am_fok [4] 7 "HadItFrom$Man" "froms" "[I" 2 := by unfold am_fok; decide +kernel
theorem fk_38 : am_fok [4] 8 "HadItFrom$Man" "tos" "[I" 2 := by unfold am_fok; decide +kernel
theorem fk_39 : am_fok [12] 12 "HadItFromModel" "tripTo" "[I" 2 := by unfold am_fok; decide +kernel
theorem fk_40 : am_fok [12] 13 "HadItFromModel" "tripFrom" "[I" 2 := by unfold am_fok; decide +kernel
theorem fk_41 : am_fok [12] 14 "HadItFromModel" "tripTill" "[I" 2 := by unfold am_fok; decide +kernel
theorem fk_42 : am_fok [4] 3 "HadItFrom$Man" "mark" "I" 0 := by unfold am_fok; decide +kernel
theorem fk_43 : am_fok [4] 0 "HadItFrom$Man" "born" "I" 0 := by unfold am_fok; decide +kernel
theorem fk_44 : am_fok [4] 1 "HadItFrom$Man" "died" "I" 0 := by unfold am_fok; decide +kernel
theorem fk_45 : am_fok [4] 2 "HadItFrom$Man" "place" "I" 0 := by unfold am_fok; decide +kernel
theorem fk_46 : am_fok [8] 3 "HadItFrom$Text" "place" "I" 0 := by unfold am_fok; decide +kernel
theorem fk_47 : am_fok [8] 2 "HadItFrom$Text" "size" "I" 0 := by unfold am_fok; decide +kernel
theorem fk_48 : am_fok [8] 1 "HadItFrom$Text" "letters" "[J" 2 := by unfold am_fok; decide +kernel
theorem fk_49 : am_fok [10] 2 "HadItFrom$World" "rules" "[[I" 2 := by unfold am_fok; decide +kernel
theorem fk_50 : am_fok [10] 3 "HadItFrom$World" "ruleCount" "I" 0 := by unfold am_fok; decide +kernel
theorem fk_51 : am_fok [11] 6 "HadItFrom" "text" "LHadItFrom$Text;" 2 := by unfold am_fok; decide +kernel
theorem fk_52 : am_fok [11] 8 "HadItFrom" "readNumbers" "[I" 2 := by unfold am_fok; decide +kernel
theorem fk_53 : am_fok [8] 0 "HadItFrom$Text" "bad" "I" 0 := by unfold am_fok; decide +kernel
theorem fk_54 : am_fok [11] 7 "HadItFrom" "faultPlace" "I" 0 := by unfold am_fok; decide +kernel
theorem fk_55 : am_fok [12] 38 "HadItFromModel" "at" "I" 0 := by unfold am_fok; decide +kernel
theorem fk_56 : am_fok [12] 39 "HadItFromModel" "end" "I" 0 := by unfold am_fok; decide +kernel
theorem fk_57 : am_fok [12] 37 "HadItFromModel" "base" "I" 0 := by unfold am_fok; decide +kernel
theorem fk_58 : am_fok [12] 30 "HadItFromModel" "words" "[I" 2 := by unfold am_fok; decide +kernel
theorem fk_59 : am_fok [12] 40 "HadItFromModel" "number" "I" 0 := by unfold am_fok; decide +kernel
theorem fk_60 : am_fok [12] 33 "HadItFromModel" "tSize" "[I" 2 := by unfold am_fok; decide +kernel
theorem fk_61 : am_fok [12] 35 "HadItFromModel" "tWho" "[I" 2 := by unfold am_fok; decide +kernel
theorem fk_62 : am_fok [12] 32 "HadItFromModel" "tKind" "[I" 2 := by unfold am_fok; decide +kernel
theorem fk_63 : am_fok [12] 34 "HadItFromModel" "tWording" "[I" 2 := by unfold am_fok; decide +kernel
theorem fk_64 : am_fok [12] 36 "HadItFromModel" "tLink" "[I" 2 := by unfold am_fok; decide +kernel
theorem fk_65 : am_fok [12] 42 "HadItFromModel" "tRows" "I" 0 := by unfold am_fok; decide +kernel
theorem fk_66 : am_fok [12] 31 "HadItFromModel" "tell" "[I" 2 := by unfold am_fok; decide +kernel
theorem fk_67 : am_fok [12] 15 "HadItFromModel" "first" "[I" 2 := by unfold am_fok; decide +kernel
theorem fk_68 : am_fok [12] 41 "HadItFromModel" "wrongAt" "I" 0 := by unfold am_fok; decide +kernel
theorem fk_69 : am_fok [12] 1 "HadItFromModel" "rules" "I" 0 := by unfold am_fok; decide +kernel
theorem fk_70 : am_fok [12] 16 "HadItFromModel" "told" "[I" 2 := by unfold am_fok; decide +kernel
theorem fk_71 : am_fok [12] 4 "HadItFromModel" "fault" "I" 0 := by unfold am_fok; decide +kernel
theorem fk_72 : am_fok [10] 4 "HadItFrom$World" "force" "I" 0 := by unfold am_fok; decide +kernel
theorem fk_73 : am_fok [12] 3 "HadItFromModel" "force" "I" 0 := by unfold am_fok; decide +kernel
theorem fk_74 : am_fok [8] 4 "HadItFrom$Text" "who" "[I" 2 := by unfold am_fok; decide +kernel
theorem fk_75 : am_fok [8] 5 "HadItFrom$Text" "links" "[I" 2 := by unfold am_fok; decide +kernel
theorem fk_76 : am_fok [10] 8 "HadItFrom$World" "clashes" "[I" 2 := by unfold am_fok; decide +kernel
theorem fk_77 : am_fok [11] 9 "HadItFrom" "readRows" "[LHadItFrom$Row;" 2 := by unfold am_fok; decide +kernel
theorem fk_78 : am_fok [12] 23 "HadItFromModel" "clash" "[I" 2 := by unfold am_fok; decide +kernel
theorem fk_79 : am_fok [12] 43 "HadItFromModel" "by" "I" 0 := by unfold am_fok; decide +kernel
theorem fk_80 : am_fok [10] 9 "HadItFrom$World" "heard" "[I" 2 := by unfold am_fok; decide +kernel
theorem fk_81 : am_fok [4] 4 "HadItFrom$Man" "late" "I" 0 := by unfold am_fok; decide +kernel
theorem fk_82 : am_fok [10] 10 "HadItFrom$World" "grades" "[I" 2 := by unfold am_fok; decide +kernel
theorem fk_83 : am_fok [5] 0 "HadItFrom$Net" "first" "I" 0 := by unfold am_fok; decide +kernel
theorem fk_84 : am_fok [5] 1 "HadItFrom$Net" "starts" "I" 0 := by unfold am_fok; decide +kernel
theorem fk_85 : am_fok [5] 2 "HadItFrom$Net" "nexts" "[I" 2 := by unfold am_fok; decide +kernel
theorem fk_86 : am_fok [11] 10 "HadItFrom" "net" "LHadItFrom$Net;" 2 := by unfold am_fok; decide +kernel
theorem fk_87 : am_fok [5] 3 "HadItFrom$Net" "room" "[J" 2 := by unfold am_fok; decide +kernel
theorem fk_88 : am_fok [5] 4 "HadItFrom$Net" "from" "[I" 2 := by unfold am_fok; decide +kernel
theorem fk_89 : am_fok [12] 46 "HadItFromModel" "begins" "[I" 2 := by unfold am_fok; decide +kernel
theorem fk_90 : am_fok [12] 47 "HadItFromModel" "goesOn" "[I" 2 := by unfold am_fok; decide +kernel
theorem fk_91 : am_fok [12] 50 "HadItFromModel" "firstMan" "I" 0 := by unfold am_fok; decide +kernel
theorem fk_92 : am_fok [12] 51 "HadItFromModel" "netMen" "I" 0 := by unfold am_fok; decide +kernel
theorem fk_93 : am_fok [12] 45 "HadItFromModel" "capacity" "[I" 2 := by unfold am_fok; decide +kernel
theorem fk_94 : am_fok [12] 48 "HadItFromModel" "seen" "[I" 2 := by unfold am_fok; decide +kernel
theorem fk_95 : am_fok [12] 49 "HadItFromModel" "line" "[I" 2 := by unfold am_fok; decide +kernel
theorem fk_96 : am_fok [12] 44 "HadItFromModel" "room" "[I" 2 := by unfold am_fok; decide +kernel
theorem fk_97 : am_fok [11] 11 "HadItFrom" "weights" "[I" 2 := by unfold am_fok; decide +kernel
theorem fk_98 : am_fok [12] 52 "HadItFromModel" "weights" "[I" 2 := by unfold am_fok; decide +kernel
theorem fk_99 : am_fok [0, 1, 2, 3, 6, 7, 9] 0 "HadItFrom$Row" "number" "I" 0 := by unfold am_fok; decide +kernel
theorem fk_100 : am_fok [3] 1 "HadItFrom$Row" "count" "I" 0 := by unfold am_fok; decide +kernel
theorem fk_101 : am_fok [9] 1 "HadItFrom$Row" "count" "I" 0 := by unfold am_fok; decide +kernel
theorem fk_102 : am_fok [1] 0 "HadItFrom$Row" "number" "I" 0 := by unfold am_fok; decide +kernel
theorem fk_103 : am_fok [11] 12 "HadItFrom" "ran" "[I" 2 := by unfold am_fok; decide +kernel
theorem fk_104 : am_fok [12] 54 "HadItFromModel" "ran" "I" 0 := by unfold am_fok; decide +kernel
theorem fk_105 : am_fok [12] 53 "HadItFromModel" "trace" "[I" 2 := by unfold am_fok; decide +kernel
theorem fk_106 : am_fok [11] 4 "HadItFrom" "kept" "LHadItFrom$World;" 2 := by unfold am_fok; decide +kernel
theorem fk_107 : am_fok [12] 59 "HadItFromModel" "kept" "[I" 2 := by unfold am_fok; decide +kernel
theorem fk_108 : am_fok [11] 5 "HadItFrom" "isKept" "Z" 0 := by unfold am_fok; decide +kernel
theorem fk_109 : am_fok [12] 55 "HadItFromModel" "iSayings" "I" 0 := by unfold am_fok; decide +kernel
theorem fk_110 : am_fok [12] 56 "HadItFromModel" "iMen" "I" 0 := by unfold am_fok; decide +kernel
theorem fk_111 : am_fok [12] 57 "HadItFromModel" "iRules" "I" 0 := by unfold am_fok; decide +kernel
theorem fk_112 : am_fok [12] 58 "HadItFromModel" "iForce" "I" 0 := by unfold am_fok; decide +kernel
theorem pk9_0 : ∀ t ∈ [4], t < 13 ∧ 0 < (am_q t).2.2 ∧ (am_q t).2.1 0 = ("HadItFrom$Man", "born", "I", false) ∧ am_ty t 0 = .int := by decide +kernel
theorem pk9_1 : ∀ t ∈ [4], t < 13 ∧ 1 < (am_q t).2.2 ∧ (am_q t).2.1 1 = ("HadItFrom$Man", "died", "I", false) ∧ am_ty t 1 = .int := by decide +kernel
theorem pk9_2 : ∀ t ∈ [4], t < 13 ∧ 2 < (am_q t).2.2 ∧ (am_q t).2.1 2 = ("HadItFrom$Man", "place", "I", false) ∧ am_ty t 2 = .int := by decide +kernel
theorem pk9_3 : ∀ t ∈ [4], t < 13 ∧ 3 < (am_q t).2.2 ∧ (am_q t).2.1 3 = ("HadItFrom$Man", "mark", "I", false) ∧ am_ty t 3 = .int := by decide +kernel
theorem pk9_4 : ∀ t ∈ [4], t < 13 ∧ 4 < (am_q t).2.2 ∧ (am_q t).2.1 4 = ("HadItFrom$Man", "late", "I", false) ∧ am_ty t 4 = .int := by decide +kernel
theorem pk9_5 : ∀ t ∈ [4], t < 13 ∧ 5 < (am_q t).2.2 ∧ (am_q t).2.1 5 = ("HadItFrom$Man", "journeys", "I", false) ∧ am_ty t 5 = .int := by decide +kernel
theorem pk9_6 : ∀ t ∈ [4], t < 13 ∧ 6 < (am_q t).2.2 ∧ (am_q t).2.1 6 = ("HadItFrom$Man", "places", "[I", true) ∧ am_ty t 6 = .array .int := by decide +kernel
theorem pk9_7 : ∀ t ∈ [4], t < 13 ∧ 7 < (am_q t).2.2 ∧ (am_q t).2.1 7 = ("HadItFrom$Man", "froms", "[I", true) ∧ am_ty t 7 = .array .int := by decide +kernel
theorem pk9_8 : ∀ t ∈ [4], t < 13 ∧ 8 < (am_q t).2.2 ∧ (am_q t).2.1 8 = ("HadItFrom$Man", "tos", "[I", true) ∧ am_ty t 8 = .array .int := by decide +kernel
theorem pk9_9 : ∀ t ∈ [10], t < 13 ∧ 0 < (am_q t).2.2 ∧ (am_q t).2.1 0 = ("HadItFrom$World", "men", "[LHadItFrom$Man;", true) ∧ am_ty t 0 = .array (.object "HadItFrom$Man") := by decide +kernel
theorem pk9_10 : ∀ t ∈ [10], t < 13 ∧ 1 < (am_q t).2.2 ∧ (am_q t).2.1 1 = ("HadItFrom$World", "manCount", "I", false) ∧ am_ty t 1 = .int := by decide +kernel
theorem pk9_11 : ∀ t ∈ [10], t < 13 ∧ 2 < (am_q t).2.2 ∧ (am_q t).2.1 2 = ("HadItFrom$World", "rules", "[[I", true) ∧ am_ty t 2 = .array (.array .int) := by decide +kernel
theorem pk9_12 : ∀ t ∈ [10], t < 13 ∧ 3 < (am_q t).2.2 ∧ (am_q t).2.1 3 = ("HadItFrom$World", "ruleCount", "I", false) ∧ am_ty t 3 = .int := by decide +kernel
theorem pk9_13 : ∀ t ∈ [10], t < 13 ∧ 4 < (am_q t).2.2 ∧ (am_q t).2.1 4 = ("HadItFrom$World", "force", "I", false) ∧ am_ty t 4 = .int := by decide +kernel
theorem pk9_14 : ∀ t ∈ [10], t < 13 ∧ 5 < (am_q t).2.2 ∧ (am_q t).2.1 5 = ("HadItFrom$World", "sayingRows", "[LHadItFrom$Row;", true) ∧ am_ty t 5 = .array (.object "HadItFrom$Row") := by decide +kernel
theorem pk9_15 : ∀ t ∈ [10], t < 13 ∧ 6 < (am_q t).2.2 ∧ (am_q t).2.1 6 = ("HadItFrom$World", "rowCounts", "[I", true) ∧ am_ty t 6 = .array .int := by decide +kernel
theorem pk9_16 : ∀ t ∈ [10], t < 13 ∧ 7 < (am_q t).2.2 ∧ (am_q t).2.1 7 = ("HadItFrom$World", "sayingCount", "I", false) ∧ am_ty t 7 = .int := by decide +kernel
theorem pk9_17 : ∀ t ∈ [10], t < 13 ∧ 8 < (am_q t).2.2 ∧ (am_q t).2.1 8 = ("HadItFrom$World", "clashes", "[I", true) ∧ am_ty t 8 = .array .int := by decide +kernel
theorem pk9_18 : ∀ t ∈ [10], t < 13 ∧ 9 < (am_q t).2.2 ∧ (am_q t).2.1 9 = ("HadItFrom$World", "heard", "[I", true) ∧ am_ty t 9 = .array .int := by decide +kernel
theorem pk9_19 : ∀ t ∈ [10], t < 13 ∧ 10 < (am_q t).2.2 ∧ (am_q t).2.1 10 = ("HadItFrom$World", "grades", "[I", true) ∧ am_ty t 10 = .array .int := by decide +kernel
theorem pk9_20 : ∀ t ∈ [8], t < 13 ∧ 0 < (am_q t).2.2 ∧ (am_q t).2.1 0 = ("HadItFrom$Text", "bad", "I", false) ∧ am_ty t 0 = .int := by decide +kernel
theorem pk9_21 : ∀ t ∈ [8], t < 13 ∧ 1 < (am_q t).2.2 ∧ (am_q t).2.1 1 = ("HadItFrom$Text", "letters", "[J", false) ∧ am_ty t 1 = .array .long := by decide +kernel
theorem pk9_22 : ∀ t ∈ [8], t < 13 ∧ 2 < (am_q t).2.2 ∧ (am_q t).2.1 2 = ("HadItFrom$Text", "size", "I", false) ∧ am_ty t 2 = .int := by decide +kernel
theorem pk9_23 : ∀ t ∈ [8], t < 13 ∧ 3 < (am_q t).2.2 ∧ (am_q t).2.1 3 = ("HadItFrom$Text", "place", "I", false) ∧ am_ty t 3 = .int := by decide +kernel
theorem pk9_24 : ∀ t ∈ [8], t < 13 ∧ 4 < (am_q t).2.2 ∧ (am_q t).2.1 4 = ("HadItFrom$Text", "who", "[I", true) ∧ am_ty t 4 = .array .int := by decide +kernel
theorem pk9_25 : ∀ t ∈ [8], t < 13 ∧ 5 < (am_q t).2.2 ∧ (am_q t).2.1 5 = ("HadItFrom$Text", "links", "[I", true) ∧ am_ty t 5 = .array .int := by decide +kernel
theorem pk9_26 : ∀ t ∈ [5], t < 13 ∧ 0 < (am_q t).2.2 ∧ (am_q t).2.1 0 = ("HadItFrom$Net", "first", "I", false) ∧ am_ty t 0 = .int := by decide +kernel
theorem pk9_27 : ∀ t ∈ [5], t < 13 ∧ 1 < (am_q t).2.2 ∧ (am_q t).2.1 1 = ("HadItFrom$Net", "starts", "I", false) ∧ am_ty t 1 = .int := by decide +kernel
theorem pk9_28 : ∀ t ∈ [5], t < 13 ∧ 2 < (am_q t).2.2 ∧ (am_q t).2.1 2 = ("HadItFrom$Net", "nexts", "[I", true) ∧ am_ty t 2 = .array .int := by decide +kernel
theorem pk9_29 : ∀ t ∈ [5], t < 13 ∧ 3 < (am_q t).2.2 ∧ (am_q t).2.1 3 = ("HadItFrom$Net", "room", "[J", true) ∧ am_ty t 3 = .array .long := by decide +kernel
theorem pk9_30 : ∀ t ∈ [5], t < 13 ∧ 4 < (am_q t).2.2 ∧ (am_q t).2.1 4 = ("HadItFrom$Net", "from", "[I", true) ∧ am_ty t 4 = .array .int := by decide +kernel
theorem pk9_31 : ∀ t ∈ [11], t < 13 ∧ 0 < (am_q t).2.2 ∧ (am_q t).2.1 0 = ("HadItFrom", "elements", "[[J", true) ∧ am_ty t 0 = .array (.array .long) := by decide +kernel
theorem pk9_32 : ∀ t ∈ [11], t < 13 ∧ 1 < (am_q t).2.2 ∧ (am_q t).2.1 1 = ("HadItFrom", "sizes", "[I", true) ∧ am_ty t 1 = .array .int := by decide +kernel
theorem pk9_33 : ∀ t ∈ [11], t < 13 ∧ 2 < (am_q t).2.2 ∧ (am_q t).2.1 2 = ("HadItFrom", "held", "[I", true) ∧ am_ty t 2 = .array .int := by decide +kernel
theorem pk9_34 : ∀ t ∈ [11], t < 13 ∧ 3 < (am_q t).2.2 ∧ (am_q t).2.1 3 = ("HadItFrom", "now", "LHadItFrom$World;", true) ∧ am_ty t 3 = .object "HadItFrom$World" := by decide +kernel
theorem pk9_35 : ∀ t ∈ [11], t < 13 ∧ 4 < (am_q t).2.2 ∧ (am_q t).2.1 4 = ("HadItFrom", "kept", "LHadItFrom$World;", true) ∧ am_ty t 4 = .object "HadItFrom$World" := by decide +kernel
theorem pk9_36 : ∀ t ∈ [11], t < 13 ∧ 5 < (am_q t).2.2 ∧ (am_q t).2.1 5 = ("HadItFrom", "isKept", "Z", false) ∧ am_ty t 5 = .boolean := by decide +kernel
theorem pk9_37 : ∀ t ∈ [11], t < 13 ∧ 6 < (am_q t).2.2 ∧ (am_q t).2.1 6 = ("HadItFrom", "text", "LHadItFrom$Text;", true) ∧ am_ty t 6 = .object "HadItFrom$Text" := by decide +kernel
theorem pk9_38 : ∀ t ∈ [11], t < 13 ∧ 7 < (am_q t).2.2 ∧ (am_q t).2.1 7 = ("HadItFrom", "faultPlace", "I", false) ∧ am_ty t 7 = .int := by decide +kernel
theorem pk9_39 : ∀ t ∈ [11], t < 13 ∧ 8 < (am_q t).2.2 ∧ (am_q t).2.1 8 = ("HadItFrom", "readNumbers", "[I", true) ∧ am_ty t 8 = .array .int := by decide +kernel
theorem pk9_40 : ∀ t ∈ [11], t < 13 ∧ 9 < (am_q t).2.2 ∧ (am_q t).2.1 9 = ("HadItFrom", "readRows", "[LHadItFrom$Row;", true) ∧ am_ty t 9 = .array (.object "HadItFrom$Row") := by decide +kernel
theorem pk9_41 : ∀ t ∈ [11], t < 13 ∧ 10 < (am_q t).2.2 ∧ (am_q t).2.1 10 = ("HadItFrom", "net", "LHadItFrom$Net;", true) ∧ am_ty t 10 = .object "HadItFrom$Net" := by decide +kernel
theorem pk9_42 : ∀ t ∈ [11], t < 13 ∧ 11 < (am_q t).2.2 ∧ (am_q t).2.1 11 = ("HadItFrom", "weights", "[I", true) ∧ am_ty t 11 = .array .int := by decide +kernel
theorem pk9_43 : ∀ t ∈ [11], t < 13 ∧ 12 < (am_q t).2.2 ∧ (am_q t).2.1 12 = ("HadItFrom", "ran", "[I", true) ∧ am_ty t 12 = .array .int := by decide +kernel
theorem pk9_44 : ∀ t ∈ [11], t < 13 ∧ 13 < (am_q t).2.2 ∧ (am_q t).2.1 13 = ("HadItFrom", "refusals", "[I", true) ∧ am_ty t 13 = .array .int := by decide +kernel
theorem pk9_45 : ∀ t ∈ [12], t < 13 ∧ 3 < (am_q t).2.2 ∧ (am_q t).2.1 3 = ("HadItFromModel", "force", "I", false) ∧ am_ty t 3 = .int := by decide +kernel
theorem pk9_46 : ∀ t ∈ [12], t < 13 ∧ 4 < (am_q t).2.2 ∧ (am_q t).2.1 4 = ("HadItFromModel", "fault", "I", false) ∧ am_ty t 4 = .int := by decide +kernel
theorem pk9_47 : ∀ t ∈ [12], t < 13 ∧ 5 < (am_q t).2.2 ∧ (am_q t).2.1 5 = ("HadItFromModel", "refused", "[I", true) ∧ am_ty t 5 = .array .int := by decide +kernel
theorem pk9_48 : ∀ t ∈ [12], t < 13 ∧ 6 < (am_q t).2.2 ∧ (am_q t).2.1 6 = ("HadItFromModel", "born", "[I", true) ∧ am_ty t 6 = .array .int := by decide +kernel
theorem pk9_49 : ∀ t ∈ [12], t < 13 ∧ 7 < (am_q t).2.2 ∧ (am_q t).2.1 7 = ("HadItFromModel", "died", "[I", true) ∧ am_ty t 7 = .array .int := by decide +kernel
theorem pk9_50 : ∀ t ∈ [12], t < 13 ∧ 8 < (am_q t).2.2 ∧ (am_q t).2.1 8 = ("HadItFromModel", "home", "[I", true) ∧ am_ty t 8 = .array .int := by decide +kernel
theorem pk9_51 : ∀ t ∈ [12], t < 13 ∧ 9 < (am_q t).2.2 ∧ (am_q t).2.1 9 = ("HadItFromModel", "mark", "[I", true) ∧ am_ty t 9 = .array .int := by decide +kernel
theorem pk9_52 : ∀ t ∈ [12], t < 13 ∧ 10 < (am_q t).2.2 ∧ (am_q t).2.1 10 = ("HadItFromModel", "late", "[I", true) ∧ am_ty t 10 = .array .int := by decide +kernel
theorem pk9_53 : ∀ t ∈ [12], t < 13 ∧ 11 < (am_q t).2.2 ∧ (am_q t).2.1 11 = ("HadItFromModel", "trips", "[I", true) ∧ am_ty t 11 = .array .int := by decide +kernel
theorem pk9_54 : ∀ t ∈ [12], t < 13 ∧ 12 < (am_q t).2.2 ∧ (am_q t).2.1 12 = ("HadItFromModel", "tripTo", "[I", true) ∧ am_ty t 12 = .array .int := by decide +kernel
theorem pk9_55 : ∀ t ∈ [12], t < 13 ∧ 13 < (am_q t).2.2 ∧ (am_q t).2.1 13 = ("HadItFromModel", "tripFrom", "[I", true) ∧ am_ty t 13 = .array .int := by decide +kernel
theorem pk9_56 : ∀ t ∈ [12], t < 13 ∧ 14 < (am_q t).2.2 ∧ (am_q t).2.1 14 = ("HadItFromModel", "tripTill", "[I", true) ∧ am_ty t 14 = .array .int := by decide +kernel
theorem pk9_57 : ∀ t ∈ [12], t < 13 ∧ 15 < (am_q t).2.2 ∧ (am_q t).2.1 15 = ("HadItFromModel", "first", "[I", true) ∧ am_ty t 15 = .array .int := by decide +kernel
theorem pk9_58 : ∀ t ∈ [12], t < 13 ∧ 16 < (am_q t).2.2 ∧ (am_q t).2.1 16 = ("HadItFromModel", "told", "[I", true) ∧ am_ty t 16 = .array .int := by decide +kernel
theorem pk9_59 : ∀ t ∈ [12], t < 13 ∧ 17 < (am_q t).2.2 ∧ (am_q t).2.1 17 = ("HadItFromModel", "rowN", "[I", true) ∧ am_ty t 17 = .array .int := by decide +kernel
theorem pk9_60 : ∀ t ∈ [12], t < 13 ∧ 18 < (am_q t).2.2 ∧ (am_q t).2.1 18 = ("HadItFromModel", "kind", "[I", true) ∧ am_ty t 18 = .array .int := by decide +kernel
theorem pk9_61 : ∀ t ∈ [12], t < 13 ∧ 19 < (am_q t).2.2 ∧ (am_q t).2.1 19 = ("HadItFromModel", "size", "[I", true) ∧ am_ty t 19 = .array .int := by decide +kernel
theorem pk9_62 : ∀ t ∈ [12], t < 13 ∧ 20 < (am_q t).2.2 ∧ (am_q t).2.1 20 = ("HadItFromModel", "wording", "[I", true) ∧ am_ty t 20 = .array .int := by decide +kernel
theorem pk9_63 : ∀ t ∈ [12], t < 13 ∧ 21 < (am_q t).2.2 ∧ (am_q t).2.1 21 = ("HadItFromModel", "who", "[I", true) ∧ am_ty t 21 = .array .int := by decide +kernel
theorem pk9_64 : ∀ t ∈ [12], t < 13 ∧ 22 < (am_q t).2.2 ∧ (am_q t).2.1 22 = ("HadItFromModel", "link", "[I", true) ∧ am_ty t 22 = .array .int := by decide +kernel
theorem pk9_65 : ∀ t ∈ [12], t < 13 ∧ 23 < (am_q t).2.2 ∧ (am_q t).2.1 23 = ("HadItFromModel", "clash", "[I", true) ∧ am_ty t 23 = .array .int := by decide +kernel
theorem pk9_66 : ∀ t ∈ [12], t < 13 ∧ 24 < (am_q t).2.2 ∧ (am_q t).2.1 24 = ("HadItFromModel", "held", "[I", true) ∧ am_ty t 24 = .array .int := by decide +kernel
theorem pk9_67 : ∀ t ∈ [12], t < 13 ∧ 25 < (am_q t).2.2 ∧ (am_q t).2.1 25 = ("HadItFromModel", "sort", "[I", true) ∧ am_ty t 25 = .array .int := by decide +kernel
theorem pk9_68 : ∀ t ∈ [12], t < 13 ∧ 26 < (am_q t).2.2 ∧ (am_q t).2.1 26 = ("HadItFromModel", "length", "[I", true) ∧ am_ty t 26 = .array .int := by decide +kernel
theorem pk9_69 : ∀ t ∈ [12], t < 13 ∧ 27 < (am_q t).2.2 ∧ (am_q t).2.1 27 = ("HadItFromModel", "shown", "[I", true) ∧ am_ty t 27 = .array .int := by decide +kernel
theorem pk9_70 : ∀ t ∈ [12], t < 13 ∧ 28 < (am_q t).2.2 ∧ (am_q t).2.1 28 = ("HadItFromModel", "cells", "[J", true) ∧ am_ty t 28 = .array .long := by decide +kernel
theorem pk9_71 : ∀ t ∈ [12], t < 13 ∧ 29 < (am_q t).2.2 ∧ (am_q t).2.1 29 = ("HadItFromModel", "carried", "[J", true) ∧ am_ty t 29 = .array .long := by decide +kernel
theorem pk9_72 : ∀ t ∈ [12], t < 13 ∧ 30 < (am_q t).2.2 ∧ (am_q t).2.1 30 = ("HadItFromModel", "words", "[I", true) ∧ am_ty t 30 = .array .int := by decide +kernel
theorem pk9_73 : ∀ t ∈ [12], t < 13 ∧ 31 < (am_q t).2.2 ∧ (am_q t).2.1 31 = ("HadItFromModel", "tell", "[I", true) ∧ am_ty t 31 = .array .int := by decide +kernel
theorem pk9_74 : ∀ t ∈ [12], t < 13 ∧ 32 < (am_q t).2.2 ∧ (am_q t).2.1 32 = ("HadItFromModel", "tKind", "[I", true) ∧ am_ty t 32 = .array .int := by decide +kernel
theorem pk9_75 : ∀ t ∈ [12], t < 13 ∧ 33 < (am_q t).2.2 ∧ (am_q t).2.1 33 = ("HadItFromModel", "tSize", "[I", true) ∧ am_ty t 33 = .array .int := by decide +kernel
theorem pk9_76 : ∀ t ∈ [12], t < 13 ∧ 34 < (am_q t).2.2 ∧ (am_q t).2.1 34 = ("HadItFromModel", "tWording", "[I", true) ∧ am_ty t 34 = .array .int := by decide +kernel
theorem pk9_77 : ∀ t ∈ [12], t < 13 ∧ 35 < (am_q t).2.2 ∧ (am_q t).2.1 35 = ("HadItFromModel", "tWho", "[I", true) ∧ am_ty t 35 = .array .int := by decide +kernel
theorem pk9_78 : ∀ t ∈ [12], t < 13 ∧ 36 < (am_q t).2.2 ∧ (am_q t).2.1 36 = ("HadItFromModel", "tLink", "[I", true) ∧ am_ty t 36 = .array .int := by decide +kernel
theorem pk9_79 : ∀ t ∈ [12], t < 13 ∧ 43 < (am_q t).2.2 ∧ (am_q t).2.1 43 = ("HadItFromModel", "by", "I", false) ∧ am_ty t 43 = .int := by decide +kernel
theorem pk9_80 : ∀ t ∈ [12], t < 13 ∧ 44 < (am_q t).2.2 ∧ (am_q t).2.1 44 = ("HadItFromModel", "room", "[I", true) ∧ am_ty t 44 = .array .int := by decide +kernel
theorem pk9_81 : ∀ t ∈ [12], t < 13 ∧ 45 < (am_q t).2.2 ∧ (am_q t).2.1 45 = ("HadItFromModel", "capacity", "[I", true) ∧ am_ty t 45 = .array .int := by decide +kernel
theorem pk9_82 : ∀ t ∈ [12], t < 13 ∧ 46 < (am_q t).2.2 ∧ (am_q t).2.1 46 = ("HadItFromModel", "begins", "[I", true) ∧ am_ty t 46 = .array .int := by decide +kernel
theorem pk9_83 : ∀ t ∈ [12], t < 13 ∧ 47 < (am_q t).2.2 ∧ (am_q t).2.1 47 = ("HadItFromModel", "goesOn", "[I", true) ∧ am_ty t 47 = .array .int := by decide +kernel
theorem pk9_84 : ∀ t ∈ [12], t < 13 ∧ 48 < (am_q t).2.2 ∧ (am_q t).2.1 48 = ("HadItFromModel", "seen", "[I", true) ∧ am_ty t 48 = .array .int := by decide +kernel
theorem pk9_85 : ∀ t ∈ [12], t < 13 ∧ 49 < (am_q t).2.2 ∧ (am_q t).2.1 49 = ("HadItFromModel", "line", "[I", true) ∧ am_ty t 49 = .array .int := by decide +kernel
theorem pk9_86 : ∀ t ∈ [12], t < 13 ∧ 52 < (am_q t).2.2 ∧ (am_q t).2.1 52 = ("HadItFromModel", "weights", "[I", true) ∧ am_ty t 52 = .array .int := by decide +kernel
theorem pk9_87 : ∀ t ∈ [12], t < 13 ∧ 53 < (am_q t).2.2 ∧ (am_q t).2.1 53 = ("HadItFromModel", "trace", "[I", true) ∧ am_ty t 53 = .array .int := by decide +kernel
theorem pk9_88 : ∀ t ∈ [12], t < 13 ∧ 55 < (am_q t).2.2 ∧ (am_q t).2.1 55 = ("HadItFromModel", "iSayings", "I", false) ∧ am_ty t 55 = .int := by decide +kernel
theorem pk9_89 : ∀ t ∈ [12], t < 13 ∧ 59 < (am_q t).2.2 ∧ (am_q t).2.1 59 = ("HadItFromModel", "kept", "[I", true) ∧ am_ty t 59 = .array .int := by decide +kernel
theorem pk9_90 : ∀ t ∈ [12], t < 13 ∧ 0 < (am_q t).2.2 ∧ (am_q t).2.1 0 = ("HadItFromModel", "men", "I", false) ∧ am_ty t 0 = .int := by decide +kernel
theorem pk9_91 : ∀ t ∈ [12], t < 13 ∧ 38 < (am_q t).2.2 ∧ (am_q t).2.1 38 = ("HadItFromModel", "at", "I", false) ∧ am_ty t 38 = .int := by decide +kernel
theorem pk9_92 : ∀ t ∈ [12], t < 13 ∧ 41 < (am_q t).2.2 ∧ (am_q t).2.1 41 = ("HadItFromModel", "wrongAt", "I", false) ∧ am_ty t 41 = .int := by decide +kernel
theorem pk9_93 : ∀ t ∈ [12], t < 13 ∧ 40 < (am_q t).2.2 ∧ (am_q t).2.1 40 = ("HadItFromModel", "number", "I", false) ∧ am_ty t 40 = .int := by decide +kernel
theorem pk9_94 : ∀ t ∈ [12], t < 13 ∧ 42 < (am_q t).2.2 ∧ (am_q t).2.1 42 = ("HadItFromModel", "tRows", "I", false) ∧ am_ty t 42 = .int := by decide +kernel
theorem pk9_95 : ∀ t ∈ [12], t < 13 ∧ 37 < (am_q t).2.2 ∧ (am_q t).2.1 37 = ("HadItFromModel", "base", "I", false) ∧ am_ty t 37 = .int := by decide +kernel
theorem pk9_96 : ∀ t ∈ [12], t < 13 ∧ 39 < (am_q t).2.2 ∧ (am_q t).2.1 39 = ("HadItFromModel", "end", "I", false) ∧ am_ty t 39 = .int := by decide +kernel
theorem pk9_97 : ∀ t ∈ [12], t < 13 ∧ 1 < (am_q t).2.2 ∧ (am_q t).2.1 1 = ("HadItFromModel", "rules", "I", false) ∧ am_ty t 1 = .int := by decide +kernel
theorem pk9_98 : ∀ t ∈ [0, 1, 2, 3, 6, 7, 9], t < 13 ∧ 0 < (am_q t).2.2 ∧ (am_q t).2.1 0 = ("HadItFrom$Row", "number", "I", true) ∧ am_ty t 0 = .int := by decide +kernel
theorem pk9_99 : ∀ t ∈ [0, 1, 2, 3, 6, 7, 9], t < 13 ∧ 1 < (am_q t).2.2 ∧ (am_q t).2.1 1 = ("HadItFrom$Row", "count", "I", true) ∧ am_ty t 1 = .int := by decide +kernel
theorem pk9_100 : ∀ t ∈ [0, 1, 2, 3, 6, 7, 9], t < 13 ∧ 2 < (am_q t).2.2 ∧ (am_q t).2.1 2 = ("HadItFrom$Row", "wording", "I", true) ∧ am_ty t 2 = .int := by decide +kernel
theorem pk9_101 : ∀ t ∈ [0, 1, 2, 3, 6, 7, 9], t < 13 ∧ 3 < (am_q t).2.2 ∧ (am_q t).2.1 3 = ("HadItFrom$Row", "who", "[I", true) ∧ am_ty t 3 = .array .int := by decide +kernel
theorem pk9_102 : ∀ t ∈ [0, 1, 2, 3, 6, 7, 9], t < 13 ∧ 4 < (am_q t).2.2 ∧ (am_q t).2.1 4 = ("HadItFrom$Row", "links", "[I", true) ∧ am_ty t 4 = .array .int := by decide +kernel
theorem pk9_103 : ∀ t ∈ [12], t < 13 ∧ 2 < (am_q t).2.2 ∧ (am_q t).2.1 2 = ("HadItFromModel", "sayings", "I", false) ∧ am_ty t 2 = .int := by decide +kernel
theorem pk9_104 : ∀ t ∈ [12], t < 13 ∧ 50 < (am_q t).2.2 ∧ (am_q t).2.1 50 = ("HadItFromModel", "firstMan", "I", false) ∧ am_ty t 50 = .int := by decide +kernel
theorem pk9_105 : ∀ t ∈ [12], t < 13 ∧ 51 < (am_q t).2.2 ∧ (am_q t).2.1 51 = ("HadItFromModel", "netMen", "I", false) ∧ am_ty t 51 = .int := by decide +kernel
theorem pk9_106 : ∀ t ∈ [12], t < 13 ∧ 54 < (am_q t).2.2 ∧ (am_q t).2.1 54 = ("HadItFromModel", "ran", "I", false) ∧ am_ty t 54 = .int := by decide +kernel
theorem pk9_107 : ∀ t ∈ [12], t < 13 ∧ 56 < (am_q t).2.2 ∧ (am_q t).2.1 56 = ("HadItFromModel", "iMen", "I", false) ∧ am_ty t 56 = .int := by decide +kernel
theorem pk9_108 : ∀ t ∈ [12], t < 13 ∧ 57 < (am_q t).2.2 ∧ (am_q t).2.1 57 = ("HadItFromModel", "iRules", "I", false) ∧ am_ty t 57 = .int := by decide +kernel
theorem pk9_109 : ∀ t ∈ [12], t < 13 ∧ 58 < (am_q t).2.2 ∧ (am_q t).2.1 58 = ("HadItFromModel", "iForce", "I", false) ∧ am_ty t 58 = .int := by decide +kernel
theorem dok_0 : am_dok 0 := by unfold am_dok; decide +kernel
theorem dok_1 : am_dok 1 := by unfold am_dok; decide +kernel
theorem dok_2 : am_dok 2 := by unfold am_dok; decide +kernel
theorem dok_3 : am_dok 3 := by unfold am_dok; decide +kernel
theorem dok_4 : am_dok 4 := by unfold am_dok; decide +kernel
theorem dok_5 : am_dok 5 := by unfold am_dok; decide +kernel
theorem dok_6 : am_dok 6 := by unfold am_dok; decide +kernel
theorem dok_7 : am_dok 7 := by unfold am_dok; decide +kernel
theorem dok_8 : am_dok 8 := by unfold am_dok; decide +kernel
theorem dok_9 : am_dok 9 := by unfold am_dok; decide +kernel
theorem dok_10 : am_dok 10 := by unfold am_dok; decide +kernel
theorem dok_11 : am_dok 11 := by unfold am_dok; decide +kernel
theorem dok_12 : am_dok 12 := by unfold am_dok; decide +kernel
theorem tw_1840 : (Jvm.Cond.castable "HadItFrom$Hidden" "HadItFrom$Gap") ∈ am_T := am_in 1840 (by decide +kernel) (by decide +kernel)
theorem tw_1841 : (Jvm.Cond.castable "HadItFrom$Made" "HadItFrom$Raised") ∈ am_T := am_in 1841 (by decide +kernel) (by decide +kernel)
theorem tw_1842 : (Jvm.Cond.castable "HadItFrom$Whole" "HadItFrom$Row") ∈ am_T := am_in 1842 (by decide +kernel) (by decide +kernel)
theorem tw_1843 : (Jvm.Cond.castable "HadItFrom$Gap" "HadItFrom$Row") ∈ am_T := am_in 1843 (by decide +kernel) (by decide +kernel)
theorem tw_1844 : (Jvm.Cond.castable "HadItFrom$Hidden" "HadItFrom$Row") ∈ am_T := am_in 1844 (by decide +kernel) (by decide +kernel)
theorem tw_1845 : (Jvm.Cond.castable "HadItFrom$Hung" "HadItFrom$Row") ∈ am_T := am_in 1845 (by decide +kernel) (by decide +kernel)
theorem tw_1846 : (Jvm.Cond.castable "HadItFrom$Raised" "HadItFrom$Row") ∈ am_T := am_in 1846 (by decide +kernel) (by decide +kernel)
theorem tw_1847 : (Jvm.Cond.castable "HadItFrom$Made" "HadItFrom$Row") ∈ am_T := am_in 1847 (by decide +kernel) (by decide +kernel)
theorem aas_102 : ∀ c ∈ [4], c < 13 ∧ ((am_q c).1 = "HadItFrom$Man" ∨ Cond.castable (am_q c).1 "HadItFrom$Man" ∈ am_T) := (am_fall_cons ⟨(by decide +kernel), Or.inl rfl⟩ (am_fall_nil _))
theorem aas_103 : ∀ c ∈ [0, 1, 2, 3, 6, 7, 9], c < 13 ∧ ((am_q c).1 = "HadItFrom$Row" ∨ Cond.castable (am_q c).1 "HadItFrom$Row" ∈ am_T) := (am_fall_cons ⟨(by decide +kernel), Or.inr tw_1843⟩ (am_fall_cons ⟨(by decide +kernel), Or.inr tw_1844⟩ (am_fall_cons ⟨(by decide +kernel), Or.inr tw_1845⟩ (am_fall_cons ⟨(by decide +kernel), Or.inr tw_1847⟩ (am_fall_cons ⟨(by decide +kernel), Or.inr tw_1846⟩ (am_fall_cons ⟨(by decide +kernel), Or.inl rfl⟩ (am_fall_cons ⟨(by decide +kernel), Or.inr tw_1842⟩ (am_fall_nil _))))))))
theorem ioy_9 : ∀ t ∈ [9], t < 13 ∧ ((am_q t).1 = "HadItFrom$Whole" ∨ Cond.castable (am_q t).1 "HadItFrom$Whole" ∈ am_T) := (am_fall_cons ⟨(by decide +kernel), Or.inl rfl⟩ (am_fall_nil _))
theorem ion_9 : ∀ t ∈ [0, 1, 2, 3, 6, 7], t < 13 ∧ ((am_q t).1, "HadItFrom$Whole") ∈ am_ncs := by decide +kernel
theorem ioy_0 : ∀ t ∈ [0, 1], t < 13 ∧ ((am_q t).1 = "HadItFrom$Gap" ∨ Cond.castable (am_q t).1 "HadItFrom$Gap" ∈ am_T) := (am_fall_cons ⟨(by decide +kernel), Or.inl rfl⟩ (am_fall_cons ⟨(by decide +kernel), Or.inr tw_1840⟩ (am_fall_nil _)))
theorem ion_0 : ∀ t ∈ [2, 3, 6, 7, 9], t < 13 ∧ ((am_q t).1, "HadItFrom$Gap") ∈ am_ncs := by decide +kernel
theorem ioy_1 : ∀ t ∈ [1], t < 13 ∧ ((am_q t).1 = "HadItFrom$Hidden" ∨ Cond.castable (am_q t).1 "HadItFrom$Hidden" ∈ am_T) := (am_fall_cons ⟨(by decide +kernel), Or.inl rfl⟩ (am_fall_nil _))
theorem ion_1 : ∀ t ∈ [0, 2, 3, 6, 7, 9], t < 13 ∧ ((am_q t).1, "HadItFrom$Hidden") ∈ am_ncs := by decide +kernel
theorem ioy_2 : ∀ t ∈ [2], t < 13 ∧ ((am_q t).1 = "HadItFrom$Hung" ∨ Cond.castable (am_q t).1 "HadItFrom$Hung" ∈ am_T) := (am_fall_cons ⟨(by decide +kernel), Or.inl rfl⟩ (am_fall_nil _))
theorem ion_2 : ∀ t ∈ [0, 1, 3, 6, 7, 9], t < 13 ∧ ((am_q t).1, "HadItFrom$Hung") ∈ am_ncs := by decide +kernel
theorem ioy_6 : ∀ t ∈ [3, 6], t < 13 ∧ ((am_q t).1 = "HadItFrom$Raised" ∨ Cond.castable (am_q t).1 "HadItFrom$Raised" ∈ am_T) := (am_fall_cons ⟨(by decide +kernel), Or.inr tw_1841⟩ (am_fall_cons ⟨(by decide +kernel), Or.inl rfl⟩ (am_fall_nil _)))
theorem ion_6 : ∀ t ∈ [0, 1, 2, 7, 9], t < 13 ∧ ((am_q t).1, "HadItFrom$Raised") ∈ am_ncs := by decide +kernel
theorem ioy_3 : ∀ t ∈ [3], t < 13 ∧ ((am_q t).1 = "HadItFrom$Made" ∨ Cond.castable (am_q t).1 "HadItFrom$Made" ∈ am_T) := (am_fall_cons ⟨(by decide +kernel), Or.inl rfl⟩ (am_fall_nil _))
theorem ion_3 : ∀ t ∈ [0, 1, 2, 6, 7, 9], t < 13 ∧ ((am_q t).1, "HadItFrom$Made") ∈ am_ncs := by decide +kernel
