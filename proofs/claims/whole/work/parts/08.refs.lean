/-! words, cells, fields, calls that the walks name -/
theorem w_0 : (Jvm.Cond.selects "LostPlaces$RoomReader" (Jvm.MethodName.mk "LostPlaces$RoomReader" "readClause" "(LLostPlaces$Room;)Z") (Jvm.MethodName.mk "LostPlaces$RoomReader" "readClause" "(LLostPlaces$Room;)Z")) ∈ TG := tg_in 0 (by decide +kernel) rfl
theorem w_1 : (Jvm.Cond.selects "LostPlaces$RoomReader" (Jvm.MethodName.mk "LostPlaces$RoomReader" "readItems" "(I)V") (Jvm.MethodName.mk "LostPlaces$RoomReader" "readItems" "(I)V")) ∈ TG := tg_in 1 (by decide +kernel) rfl
theorem w_2 : (Jvm.Cond.selects "LostPlaces$RoomReader" (Jvm.MethodName.mk "LostPlaces$RoomReader" "isClauseOver" "()Z") (Jvm.MethodName.mk "LostPlaces$RoomReader" "isClauseOver" "()Z")) ∈ TG := tg_in 2 (by decide +kernel) rfl
theorem w_3 : (Jvm.Cond.selects "LostPlaces$Tape" (Jvm.MethodName.mk "LostPlaces$Tape" "isAtDigit" "()Z") (Jvm.MethodName.mk "LostPlaces$Tape" "isAtDigit" "()Z")) ∈ TG := tg_in 3 (by decide +kernel) rfl
theorem w_4 : (Jvm.Cond.selects "LostPlaces$RoomReader" (Jvm.MethodName.mk "LostPlaces$RoomReader" "store" "(LLostPlaces$Room;I)V") (Jvm.MethodName.mk "LostPlaces$RoomReader" "store" "(LLostPlaces$Room;I)V")) ∈ TG := tg_in 4 (by decide +kernel) rfl
theorem w_5 : (Jvm.Cond.selects "LostPlaces" (Jvm.MethodName.mk "LostPlaces" "nextTaste" "()LLostPlaces$Taste;") (Jvm.MethodName.mk "LostPlaces" "nextTaste" "()LLostPlaces$Taste;")) ∈ TG := tg_in 5 (by decide +kernel) rfl
theorem w_6 : (Jvm.Cond.selects "LostPlaces$TasteReader" (Jvm.MethodName.mk "LostPlaces$TasteReader" "readClause" "(LLostPlaces$Taste;)Z") (Jvm.MethodName.mk "LostPlaces$TasteReader" "readClause" "(LLostPlaces$Taste;)Z")) ∈ TG := tg_in 6 (by decide +kernel) rfl
theorem w_7 : (Jvm.Cond.selects "LostPlaces$TasteReader" (Jvm.MethodName.mk "LostPlaces$TasteReader" "sum" "(I)V") (Jvm.MethodName.mk "LostPlaces$TasteReader" "sum" "(I)V")) ∈ TG := tg_in 7 (by decide +kernel) rfl
theorem w_8 : (Jvm.Cond.selects "LostPlaces$TasteReader" (Jvm.MethodName.mk "LostPlaces$TasteReader" "term" "(I)V") (Jvm.MethodName.mk "LostPlaces$TasteReader" "term" "(I)V")) ∈ TG := tg_in 8 (by decide +kernel) rfl
theorem w_9 : (Jvm.Cond.selects "LostPlaces$TasteReader" (Jvm.MethodName.mk "LostPlaces$TasteReader" "atom" "(I)V") (Jvm.MethodName.mk "LostPlaces$TasteReader" "atom" "(I)V")) ∈ TG := tg_in 9 (by decide +kernel) rfl
theorem w_10 : (Jvm.Cond.selects "LostPlaces$TasteReader" (Jvm.MethodName.mk "LostPlaces$TasteReader" "opens" "(CI)Z") (Jvm.MethodName.mk "LostPlaces$TasteReader" "opens" "(CI)Z")) ∈ TG := tg_in 10 (by decide +kernel) rfl
theorem w_11 : (Jvm.Cond.selects "LostPlaces$TasteReader" (Jvm.MethodName.mk "LostPlaces$TasteReader" "condition" "(ZI)V") (Jvm.MethodName.mk "LostPlaces$TasteReader" "condition" "(ZI)V")) ∈ TG := tg_in 11 (by decide +kernel) rfl
theorem w_12 : (Jvm.Cond.selects "LostPlaces$TasteReader" (Jvm.MethodName.mk "LostPlaces$TasteReader" "truth" "(ZI)V") (Jvm.MethodName.mk "LostPlaces$TasteReader" "truth" "(ZI)V")) ∈ TG := tg_in 12 (by decide +kernel) rfl
theorem w_13 : (Jvm.Cond.selects "LostPlaces$TasteReader" (Jvm.MethodName.mk "LostPlaces$TasteReader" "unit" "(ZI)V") (Jvm.MethodName.mk "LostPlaces$TasteReader" "unit" "(ZI)V")) ∈ TG := tg_in 13 (by decide +kernel) rfl
theorem w_14 : (Jvm.Cond.selects "LostPlaces" (Jvm.MethodName.mk "LostPlaces" "takeRoom" "()I") (Jvm.MethodName.mk "LostPlaces" "takeRoom" "()I")) ∈ TG := tg_in 14 (by decide +kernel) rfl
theorem w_15 : (Jvm.Cond.selects "LostPlaces" (Jvm.MethodName.mk "LostPlaces" "renewLikings" "()V") (Jvm.MethodName.mk "LostPlaces" "renewLikings" "()V")) ∈ TG := tg_in 15 (by decide +kernel) rfl
theorem w_16 : (Jvm.Cond.selects "LostPlaces$Likings" (Jvm.MethodName.mk "LostPlaces$Likings" "fill" "(ILLostPlaces$Taste;)V") (Jvm.MethodName.mk "LostPlaces$Likings" "fill" "(ILLostPlaces$Taste;)V")) ∈ TG := tg_in 16 (by decide +kernel) rfl
theorem w_17 : (Jvm.Cond.selects "LostPlaces$Likings" (Jvm.MethodName.mk "LostPlaces$Likings" "isAlike" "(II)Z") (Jvm.MethodName.mk "LostPlaces$Likings" "isAlike" "(II)Z")) ∈ TG := tg_in 17 (by decide +kernel) rfl
theorem w_18 : (Jvm.Cond.selects "LostPlaces" (Jvm.MethodName.mk "LostPlaces" "isSeat" "(I)Z") (Jvm.MethodName.mk "LostPlaces" "isSeat" "(I)Z")) ∈ TG := tg_in 18 (by decide +kernel) rfl
theorem w_19 : (Jvm.Cond.selects "LostPlaces" (Jvm.MethodName.mk "LostPlaces" "isSitter" "(I)Z") (Jvm.MethodName.mk "LostPlaces" "isSitter" "(I)Z")) ∈ TG := tg_in 19 (by decide +kernel) rfl
theorem w_20 : (Jvm.Cond.selects "LostPlaces" (Jvm.MethodName.mk "LostPlaces" "isHere" "(I)Z") (Jvm.MethodName.mk "LostPlaces" "isHere" "(I)Z")) ∈ TG := tg_in 20 (by decide +kernel) rfl
theorem w_21 : (Jvm.Cond.selects "LostPlaces" (Jvm.MethodName.mk "LostPlaces" "minutesLeft" "()I") (Jvm.MethodName.mk "LostPlaces" "minutesLeft" "()I")) ∈ TG := tg_in 21 (by decide +kernel) rfl
theorem w_22 : (Jvm.Cond.selects "LostPlaces" (Jvm.MethodName.mk "LostPlaces" "remember" "()V") (Jvm.MethodName.mk "LostPlaces" "remember" "()V")) ∈ TG := tg_in 22 (by decide +kernel) rfl
theorem w_23 : (Jvm.Cond.selects "LostPlaces$Evening" (Jvm.MethodName.mk "LostPlaces$Evening" "release" "(LLostPlaces$Hall;)V") (Jvm.MethodName.mk "LostPlaces$Evening" "release" "(LLostPlaces$Hall;)V")) ∈ TG := tg_in 23 (by decide +kernel) rfl
theorem w_24 : (Jvm.Cond.selects "LostPlaces$Evening" (Jvm.MethodName.mk "LostPlaces$Evening" "sendOut" "(LLostPlaces$Hall;)V") (Jvm.MethodName.mk "LostPlaces$Evening" "sendOut" "(LLostPlaces$Hall;)V")) ∈ TG := tg_in 24 (by decide +kernel) rfl
theorem w_25 : (Jvm.Cond.selects "LostPlaces$Evening" (Jvm.MethodName.mk "LostPlaces$Evening" "isHere" "(LLostPlaces$Hall;I)Z") (Jvm.MethodName.mk "LostPlaces$Evening" "isHere" "(LLostPlaces$Hall;I)Z")) ∈ TG := tg_in 25 (by decide +kernel) rfl
theorem w_26 : (Jvm.Cond.selects "LostPlaces$Evening" (Jvm.MethodName.mk "LostPlaces$Evening" "takeBack" "(LLostPlaces$Hall;I)V") (Jvm.MethodName.mk "LostPlaces$Evening" "takeBack" "(LLostPlaces$Hall;I)V")) ∈ TG := tg_in 26 (by decide +kernel) rfl
theorem w_27 : (Jvm.Cond.selects "LostPlaces$Evening" (Jvm.MethodName.mk "LostPlaces$Evening" "placeFor" "(LLostPlaces$Hall;II)I") (Jvm.MethodName.mk "LostPlaces$Evening" "placeFor" "(LLostPlaces$Hall;II)I")) ∈ TG := tg_in 27 (by decide +kernel) rfl
theorem w_28 : (Jvm.Cond.selects "LostPlaces$Evening" (Jvm.MethodName.mk "LostPlaces$Evening" "takerOf" "(LLostPlaces$Hall;II)I") (Jvm.MethodName.mk "LostPlaces$Evening" "takerOf" "(LLostPlaces$Hall;II)I")) ∈ TG := tg_in 28 (by decide +kernel) rfl
theorem w_29 : (Jvm.Cond.selects "LostPlaces$Evening" (Jvm.MethodName.mk "LostPlaces$Evening" "wayTo" "(II)I") (Jvm.MethodName.mk "LostPlaces$Evening" "wayTo" "(II)I")) ∈ TG := tg_in 29 (by decide +kernel) rfl
theorem w_30 : (Jvm.Cond.selects "LostPlaces$Evening" (Jvm.MethodName.mk "LostPlaces$Evening" "enjoy" "(LLostPlaces$Hall;I)V") (Jvm.MethodName.mk "LostPlaces$Evening" "enjoy" "(LLostPlaces$Hall;I)V")) ∈ TG := tg_in 30 (by decide +kernel) rfl
theorem w_31 : (Jvm.Cond.selects "LostPlaces$Evening" (Jvm.MethodName.mk "LostPlaces$Evening" "draw" "(I)I") (Jvm.MethodName.mk "LostPlaces$Evening" "draw" "(I)I")) ∈ TG := tg_in 31 (by decide +kernel) rfl
theorem w_32 : (Jvm.Cond.selects "LostPlaces$Evening" (Jvm.MethodName.mk "LostPlaces$Evening" "calmTill" "(LLostPlaces$Hall;I)I") (Jvm.MethodName.mk "LostPlaces$Evening" "calmTill" "(LLostPlaces$Hall;I)I")) ∈ TG := tg_in 32 (by decide +kernel) rfl
theorem w_33 : (Jvm.Cond.selects "LostPlaces$Guess" (Jvm.MethodName.mk "LostPlaces$Guess" "offer" "(IIZ)V") (Jvm.MethodName.mk "LostPlaces$Guess" "offer" "(IIZ)V")) ∈ TG := tg_in 33 (by decide +kernel) rfl
theorem w_34 : (Jvm.Cond.selects "LostPlaces" (Jvm.MethodName.mk "LostPlaces" "hasRoom" "()Z") (Jvm.MethodName.mk "LostPlaces" "hasRoom" "()Z")) ∈ TG := tg_in 34 (by decide +kernel) rfl
theorem w_35 : (Jvm.Cond.selects "LostPlaces" (Jvm.MethodName.mk "LostPlaces" "isGame" "(I)Z") (Jvm.MethodName.mk "LostPlaces" "isGame" "(I)Z")) ∈ TG := tg_in 35 (by decide +kernel) rfl
theorem w_36 : (Jvm.Cond.selects "LostPlaces$Game" (Jvm.MethodName.mk "LostPlaces$Game" "outcome" "()I") (Jvm.MethodName.mk "LostPlaces$Game" "outcome" "()I")) ∈ TG := tg_in 36 (by decide +kernel) rfl
theorem w_37 : (Jvm.Cond.selects "LostPlaces$Game" (Jvm.MethodName.mk "LostPlaces$Game" "least" "()I") (Jvm.MethodName.mk "LostPlaces$Game" "least" "()I")) ∈ TG := tg_in 37 (by decide +kernel) rfl
theorem w_38 : (Jvm.Cond.selects "LostPlaces$Game" (Jvm.MethodName.mk "LostPlaces$Game" "tryOut" "(I)V") (Jvm.MethodName.mk "LostPlaces$Game" "tryOut" "(I)V")) ∈ TG := tg_in 38 (by decide +kernel) rfl
theorem w_39 : (Jvm.Cond.selects "LostPlaces$Game" (Jvm.MethodName.mk "LostPlaces$Game" "gain" "(II)I") (Jvm.MethodName.mk "LostPlaces$Game" "gain" "(II)I")) ∈ TG := tg_in 39 (by decide +kernel) rfl
theorem w_40 : (Jvm.Cond.selects "LostPlaces$Game" (Jvm.MethodName.mk "LostPlaces$Game" "isRest" "(I)Z") (Jvm.MethodName.mk "LostPlaces$Game" "isRest" "(I)Z")) ∈ TG := tg_in 40 (by decide +kernel) rfl
theorem w_41 : (Jvm.Cond.selects "LostPlaces$Game" (Jvm.MethodName.mk "LostPlaces$Game" "row" "()I") (Jvm.MethodName.mk "LostPlaces$Game" "row" "()I")) ∈ TG := tg_in 41 (by decide +kernel) rfl
theorem w_42 : (Jvm.Cond.selects "LostPlaces$Game" (Jvm.MethodName.mk "LostPlaces$Game" "countUp" "()Z") (Jvm.MethodName.mk "LostPlaces$Game" "countUp" "()Z")) ∈ TG := tg_in 42 (by decide +kernel) rfl
theorem w_43 : (Jvm.Cond.selects "LostPlaces$Branches" (Jvm.MethodName.mk "LostPlaces$Branches" "order" "(III)V") (Jvm.MethodName.mk "LostPlaces$Branches" "order" "(III)V")) ∈ TG := tg_in 43 (by decide +kernel) rfl
theorem w_44 : (Jvm.Cond.selects "LostPlaces$Branches" (Jvm.MethodName.mk "LostPlaces$Branches" "lineUp" "()V") (Jvm.MethodName.mk "LostPlaces$Branches" "lineUp" "()V")) ∈ TG := tg_in 44 (by decide +kernel) rfl
theorem w_45 : (Jvm.Cond.selects "LostPlaces$Branches" (Jvm.MethodName.mk "LostPlaces$Branches" "choose" "(II)V") (Jvm.MethodName.mk "LostPlaces$Branches" "choose" "(II)V")) ∈ TG := tg_in 45 (by decide +kernel) rfl
theorem w_46 : (Jvm.Cond.selects "LostPlaces$Branches" (Jvm.MethodName.mk "LostPlaces$Branches" "isAsTold" "(LLostPlaces$Hall;)Z") (Jvm.MethodName.mk "LostPlaces$Branches" "isAsTold" "(LLostPlaces$Hall;)Z")) ∈ TG := tg_in 46 (by decide +kernel) rfl
theorem w_47 : (Jvm.Cond.selects "LostPlaces" (Jvm.MethodName.mk "LostPlaces" "rank" "(I)I") (Jvm.MethodName.mk "LostPlaces" "rank" "(I)I")) ∈ TG := tg_in 47 (by decide +kernel) rfl
theorem w_48 : (Jvm.Cond.selects "LostPlaces" (Jvm.MethodName.mk "LostPlaces" "envies" "(I)Z") (Jvm.MethodName.mk "LostPlaces" "envies" "(I)Z")) ∈ TG := tg_in 48 (by decide +kernel) rfl
theorem w_50 : (Jvm.Cond.selects "LostPlacesModel" (Jvm.MethodName.mk "LostPlacesModel" "put" "(I)V") (Jvm.MethodName.mk "LostPlacesModel" "put" "(I)V")) ∈ TG := tg_in 50 (by decide +kernel) rfl
theorem w_51 : (Jvm.Cond.selects "LostPlacesModel" (Jvm.MethodName.mk "LostPlacesModel" "readRoom" "()V") (Jvm.MethodName.mk "LostPlacesModel" "readRoom" "()V")) ∈ TG := tg_in 51 (by decide +kernel) rfl
theorem w_52 : (Jvm.Cond.selects "LostPlacesModel" (Jvm.MethodName.mk "LostPlacesModel" "starts" "([BII)V") (Jvm.MethodName.mk "LostPlacesModel" "starts" "([BII)V")) ∈ TG := tg_in 52 (by decide +kernel) rfl
theorem w_53 : (Jvm.Cond.selects "LostPlacesModel" (Jvm.MethodName.mk "LostPlacesModel" "readClause" "()V") (Jvm.MethodName.mk "LostPlacesModel" "readClause" "()V")) ∈ TG := tg_in 53 (by decide +kernel) rfl
theorem w_54 : (Jvm.Cond.selects "LostPlacesModel" (Jvm.MethodName.mk "LostPlacesModel" "look" "()I") (Jvm.MethodName.mk "LostPlacesModel" "look" "()I")) ∈ TG := tg_in 54 (by decide +kernel) rfl
theorem w_55 : (Jvm.Cond.selects "LostPlacesModel" (Jvm.MethodName.mk "LostPlacesModel" "fails" "()Z") (Jvm.MethodName.mk "LostPlacesModel" "fails" "()Z")) ∈ TG := tg_in 55 (by decide +kernel) rfl
theorem w_56 : (Jvm.Cond.selects "LostPlacesModel" (Jvm.MethodName.mk "LostPlacesModel" "readItems" "(I[IILjava/lang/String;)V") (Jvm.MethodName.mk "LostPlacesModel" "readItems" "(I[IILjava/lang/String;)V")) ∈ TG := tg_in 56 (by decide +kernel) rfl
theorem w_57 : (Jvm.Cond.selects "LostPlacesModel" (Jvm.MethodName.mk "LostPlacesModel" "readItem" "([IIII)V") (Jvm.MethodName.mk "LostPlacesModel" "readItem" "([IIII)V")) ∈ TG := tg_in 57 (by decide +kernel) rfl
theorem w_58 : (Jvm.Cond.selects "LostPlacesModel" (Jvm.MethodName.mk "LostPlacesModel" "isDigit" "()Z") (Jvm.MethodName.mk "LostPlacesModel" "isDigit" "()Z")) ∈ TG := tg_in 58 (by decide +kernel) rfl
theorem w_59 : (Jvm.Cond.selects "LostPlacesModel" (Jvm.MethodName.mk "LostPlacesModel" "here" "()I") (Jvm.MethodName.mk "LostPlacesModel" "here" "()I")) ∈ TG := tg_in 59 (by decide +kernel) rfl
theorem w_60 : (Jvm.Cond.selects "LostPlacesModel" (Jvm.MethodName.mk "LostPlacesModel" "isWhole" "()Z") (Jvm.MethodName.mk "LostPlacesModel" "isWhole" "()Z")) ∈ TG := tg_in 60 (by decide +kernel) rfl
theorem w_61 : (Jvm.Cond.selects "LostPlacesModel" (Jvm.MethodName.mk "LostPlacesModel" "goThrough" "([BII)V") (Jvm.MethodName.mk "LostPlacesModel" "goThrough" "([BII)V")) ∈ TG := tg_in 61 (by decide +kernel) rfl
theorem w_62 : (Jvm.Cond.selects "LostPlacesModel" (Jvm.MethodName.mk "LostPlacesModel" "clause" "()V") (Jvm.MethodName.mk "LostPlacesModel" "clause" "()V")) ∈ TG := tg_in 62 (by decide +kernel) rfl
theorem w_63 : (Jvm.Cond.selects "LostPlacesModel" (Jvm.MethodName.mk "LostPlacesModel" "takes" "(I)Z") (Jvm.MethodName.mk "LostPlacesModel" "takes" "(I)Z")) ∈ TG := tg_in 63 (by decide +kernel) rfl
theorem w_64 : (Jvm.Cond.selects "LostPlacesModel" (Jvm.MethodName.mk "LostPlacesModel" "condition" "(ZI)Z") (Jvm.MethodName.mk "LostPlacesModel" "condition" "(ZI)Z")) ∈ TG := tg_in 64 (by decide +kernel) rfl
theorem w_65 : (Jvm.Cond.selects "LostPlacesModel" (Jvm.MethodName.mk "LostPlacesModel" "part" "(ZI)Z") (Jvm.MethodName.mk "LostPlacesModel" "part" "(ZI)Z")) ∈ TG := tg_in 65 (by decide +kernel) rfl
theorem w_66 : (Jvm.Cond.selects "LostPlacesModel" (Jvm.MethodName.mk "LostPlacesModel" "compares" "(ZI)Z") (Jvm.MethodName.mk "LostPlacesModel" "compares" "(ZI)Z")) ∈ TG := tg_in 66 (by decide +kernel) rfl
theorem w_67 : (Jvm.Cond.selects "LostPlacesModel" (Jvm.MethodName.mk "LostPlacesModel" "sum" "()I") (Jvm.MethodName.mk "LostPlacesModel" "sum" "()I")) ∈ TG := tg_in 67 (by decide +kernel) rfl
theorem w_68 : (Jvm.Cond.selects "LostPlacesModel" (Jvm.MethodName.mk "LostPlacesModel" "term" "()I") (Jvm.MethodName.mk "LostPlacesModel" "term" "()I")) ∈ TG := tg_in 68 (by decide +kernel) rfl
theorem w_69 : (Jvm.Cond.selects "LostPlacesModel" (Jvm.MethodName.mk "LostPlacesModel" "atom" "()I") (Jvm.MethodName.mk "LostPlacesModel" "atom" "()I")) ∈ TG := tg_in 69 (by decide +kernel) rfl
theorem w_70 : (Jvm.Cond.selects "LostPlacesModel" (Jvm.MethodName.mk "LostPlacesModel" "goesIn" "()Z") (Jvm.MethodName.mk "LostPlacesModel" "goesIn" "()Z")) ∈ TG := tg_in 70 (by decide +kernel) rfl
theorem w_71 : (Jvm.Cond.selects "LostPlacesModel" (Jvm.MethodName.mk "LostPlacesModel" "unit" "()Z") (Jvm.MethodName.mk "LostPlacesModel" "unit" "()Z")) ∈ TG := tg_in 71 (by decide +kernel) rfl
theorem w_72 : (Jvm.Cond.selects "LostPlacesModel" (Jvm.MethodName.mk "LostPlacesModel" "isSeat" "(I)Z") (Jvm.MethodName.mk "LostPlacesModel" "isSeat" "(I)Z")) ∈ TG := tg_in 72 (by decide +kernel) rfl
theorem w_73 : (Jvm.Cond.selects "LostPlacesModel" (Jvm.MethodName.mk "LostPlacesModel" "sitsOn" "([II)I") (Jvm.MethodName.mk "LostPlacesModel" "sitsOn" "([II)I")) ∈ TG := tg_in 73 (by decide +kernel) rfl
theorem w_74 : (Jvm.Cond.selects "LostPlacesModel" (Jvm.MethodName.mk "LostPlacesModel" "isSitter" "(I)Z") (Jvm.MethodName.mk "LostPlacesModel" "isSitter" "(I)Z")) ∈ TG := tg_in 74 (by decide +kernel) rfl
theorem w_75 : (Jvm.Cond.selects "LostPlacesModel" (Jvm.MethodName.mk "LostPlacesModel" "likesIn" "([III)I") (Jvm.MethodName.mk "LostPlacesModel" "likesIn" "([III)I")) ∈ TG := tg_in 75 (by decide +kernel) rfl
theorem w_76 : (Jvm.Cond.selects "LostPlacesModel" (Jvm.MethodName.mk "LostPlacesModel" "likesBy" "(III)I") (Jvm.MethodName.mk "LostPlacesModel" "likesBy" "(III)I")) ∈ TG := tg_in 76 (by decide +kernel) rfl
theorem w_77 : (Jvm.Cond.selects "LostPlacesModel" (Jvm.MethodName.mk "LostPlacesModel" "isOpen" "()Z") (Jvm.MethodName.mk "LostPlacesModel" "isOpen" "()Z")) ∈ TG := tg_in 77 (by decide +kernel) rfl
theorem w_78 : (Jvm.Cond.selects "LostPlacesModel" (Jvm.MethodName.mk "LostPlacesModel" "left" "()I") (Jvm.MethodName.mk "LostPlacesModel" "left" "()I")) ∈ TG := tg_in 78 (by decide +kernel) rfl
theorem w_79 : (Jvm.Cond.selects "LostPlacesModel" (Jvm.MethodName.mk "LostPlacesModel" "remember" "()V") (Jvm.MethodName.mk "LostPlacesModel" "remember" "()V")) ∈ TG := tg_in 79 (by decide +kernel) rfl
theorem w_80 : (Jvm.Cond.selects "LostPlacesModel" (Jvm.MethodName.mk "LostPlacesModel" "goesUp" "([IIIZ)V") (Jvm.MethodName.mk "LostPlacesModel" "goesUp" "([IIIZ)V")) ∈ TG := tg_in 80 (by decide +kernel) rfl
theorem w_81 : (Jvm.Cond.selects "LostPlacesModel" (Jvm.MethodName.mk "LostPlacesModel" "goMinute" "([I)V") (Jvm.MethodName.mk "LostPlacesModel" "goMinute" "([I)V")) ∈ TG := tg_in 81 (by decide +kernel) rfl
theorem w_82 : (Jvm.Cond.selects "LostPlacesModel" (Jvm.MethodName.mk "LostPlacesModel" "halfMinute" "([I)V") (Jvm.MethodName.mk "LostPlacesModel" "halfMinute" "([I)V")) ∈ TG := tg_in 82 (by decide +kernel) rfl
theorem w_83 : (Jvm.Cond.selects "LostPlacesModel" (Jvm.MethodName.mk "LostPlacesModel" "frees" "([II)V") (Jvm.MethodName.mk "LostPlacesModel" "frees" "([II)V")) ∈ TG := tg_in 83 (by decide +kernel) rfl
theorem w_84 : (Jvm.Cond.selects "LostPlacesModel" (Jvm.MethodName.mk "LostPlacesModel" "backs" "([I)V") (Jvm.MethodName.mk "LostPlacesModel" "backs" "([I)V")) ∈ TG := tg_in 84 (by decide +kernel) rfl
theorem w_85 : (Jvm.Cond.selects "LostPlacesModel" (Jvm.MethodName.mk "LostPlacesModel" "comesBack" "([II)V") (Jvm.MethodName.mk "LostPlacesModel" "comesBack" "([II)V")) ∈ TG := tg_in 85 (by decide +kernel) rfl
theorem w_86 : (Jvm.Cond.selects "LostPlacesModel" (Jvm.MethodName.mk "LostPlacesModel" "keptFor" "([II)I") (Jvm.MethodName.mk "LostPlacesModel" "keptFor" "([II)I")) ∈ TG := tg_in 86 (by decide +kernel) rfl
theorem w_87 : (Jvm.Cond.selects "LostPlacesModel" (Jvm.MethodName.mk "LostPlacesModel" "isFree" "([II)Z") (Jvm.MethodName.mk "LostPlacesModel" "isFree" "([II)Z")) ∈ TG := tg_in 87 (by decide +kernel) rfl
theorem w_88 : (Jvm.Cond.selects "LostPlacesModel" (Jvm.MethodName.mk "LostPlacesModel" "movesUp" "([I)V") (Jvm.MethodName.mk "LostPlacesModel" "movesUp" "([I)V")) ∈ TG := tg_in 88 (by decide +kernel) rfl
theorem w_89 : (Jvm.Cond.selects "LostPlacesModel" (Jvm.MethodName.mk "LostPlacesModel" "moverTo" "([II)I") (Jvm.MethodName.mk "LostPlacesModel" "moverTo" "([II)I")) ∈ TG := tg_in 89 (by decide +kernel) rfl
theorem w_90 : (Jvm.Cond.selects "LostPlacesModel" (Jvm.MethodName.mk "LostPlacesModel" "wouldMove" "([III)Z") (Jvm.MethodName.mk "LostPlacesModel" "wouldMove" "([III)Z")) ∈ TG := tg_in 90 (by decide +kernel) rfl
theorem w_91 : (Jvm.Cond.selects "LostPlacesModel" (Jvm.MethodName.mk "LostPlacesModel" "farFrom" "([III)I") (Jvm.MethodName.mk "LostPlacesModel" "farFrom" "([III)I")) ∈ TG := tg_in 91 (by decide +kernel) rfl
theorem w_92 : (Jvm.Cond.selects "LostPlacesModel" (Jvm.MethodName.mk "LostPlacesModel" "moves" "([III)V") (Jvm.MethodName.mk "LostPlacesModel" "moves" "([III)V")) ∈ TG := tg_in 92 (by decide +kernel) rfl
theorem w_93 : (Jvm.Cond.selects "LostPlacesModel" (Jvm.MethodName.mk "LostPlacesModel" "draw" "(I)I") (Jvm.MethodName.mk "LostPlacesModel" "draw" "(I)I")) ∈ TG := tg_in 93 (by decide +kernel) rfl
theorem w_94 : (Jvm.Cond.selects "LostPlacesModel" (Jvm.MethodName.mk "LostPlacesModel" "extra" "(III)V") (Jvm.MethodName.mk "LostPlacesModel" "extra" "(III)V")) ∈ TG := tg_in 94 (by decide +kernel) rfl
theorem w_95 : (Jvm.Cond.selects "LostPlacesModel" (Jvm.MethodName.mk "LostPlacesModel" "toEnd" "([I)V") (Jvm.MethodName.mk "LostPlacesModel" "toEnd" "([I)V")) ∈ TG := tg_in 95 (by decide +kernel) rfl
theorem w_96 : (Jvm.Cond.selects "LostPlacesModel" (Jvm.MethodName.mk "LostPlacesModel" "joyKeeping" "(II)I") (Jvm.MethodName.mk "LostPlacesModel" "joyKeeping" "(II)I")) ∈ TG := tg_in 96 (by decide +kernel) rfl
theorem w_97 : (Jvm.Cond.selects "LostPlacesModel" (Jvm.MethodName.mk "LostPlacesModel" "joyOn" "(II)I") (Jvm.MethodName.mk "LostPlacesModel" "joyOn" "(II)I")) ∈ TG := tg_in 97 (by decide +kernel) rfl
theorem w_98 : (Jvm.Cond.selects "LostPlacesModel" (Jvm.MethodName.mk "LostPlacesModel" "layHere" "()Z") (Jvm.MethodName.mk "LostPlacesModel" "layHere" "()Z")) ∈ TG := tg_in 98 (by decide +kernel) rfl
theorem w_99 : (Jvm.Cond.selects "LostPlacesModel" (Jvm.MethodName.mk "LostPlacesModel" "hereOf" "(I)I") (Jvm.MethodName.mk "LostPlacesModel" "hereOf" "(I)I")) ∈ TG := tg_in 99 (by decide +kernel) rfl
theorem w_100 : (Jvm.Cond.selects "LostPlacesModel" (Jvm.MethodName.mk "LostPlacesModel" "rings" "()I") (Jvm.MethodName.mk "LostPlacesModel" "rings" "()I")) ∈ TG := tg_in 100 (by decide +kernel) rfl
theorem w_101 : (Jvm.Cond.selects "LostPlacesModel" (Jvm.MethodName.mk "LostPlacesModel" "layCalls" "(I)V") (Jvm.MethodName.mk "LostPlacesModel" "layCalls" "(I)V")) ∈ TG := tg_in 101 (by decide +kernel) rfl
theorem w_102 : (Jvm.Cond.selects "LostPlacesModel" (Jvm.MethodName.mk "LostPlacesModel" "digitOf" "(II)I") (Jvm.MethodName.mk "LostPlacesModel" "digitOf" "(II)I")) ∈ TG := tg_in 102 (by decide +kernel) rfl
theorem w_103 : (Jvm.Cond.selects "LostPlacesModel" (Jvm.MethodName.mk "LostPlacesModel" "isRest" "(I)Z") (Jvm.MethodName.mk "LostPlacesModel" "isRest" "(I)Z")) ∈ TG := tg_in 103 (by decide +kernel) rfl
theorem w_104 : (Jvm.Cond.selects "LostPlacesModel" (Jvm.MethodName.mk "LostPlacesModel" "goFair" "(III)V") (Jvm.MethodName.mk "LostPlacesModel" "goFair" "(III)V")) ∈ TG := tg_in 104 (by decide +kernel) rfl
theorem w_105 : (Jvm.Cond.selects "LostPlacesModel" (Jvm.MethodName.mk "LostPlacesModel" "evenIn" "([I)I") (Jvm.MethodName.mk "LostPlacesModel" "evenIn" "([I)I")) ∈ TG := tg_in 105 (by decide +kernel) rfl
theorem w_106 : (Jvm.Cond.selects "LostPlacesModel" (Jvm.MethodName.mk "LostPlacesModel" "isSo" "(I)Z") (Jvm.MethodName.mk "LostPlacesModel" "isSo" "(I)Z")) ∈ TG := tg_in 106 (by decide +kernel) rfl
theorem w_108 : (Jvm.Cond.initialized "LostPlaces") ∈ TG := tg_in 108 (by decide +kernel) rfl
theorem w_109 : (Jvm.Cond.initialized "LostPlaces$Tape") ∈ TG := tg_in 109 (by decide +kernel) rfl
theorem w_110 : (Jvm.Cond.initialized "LostPlaces$Room") ∈ TG := tg_in 110 (by decide +kernel) rfl
theorem w_111 : (Jvm.Cond.initialized "LostPlaces$RoomReader") ∈ TG := tg_in 111 (by decide +kernel) rfl
theorem w_112 : (Jvm.Cond.initialized "LostPlaces$TasteReader") ∈ TG := tg_in 112 (by decide +kernel) rfl
theorem w_113 : (Jvm.Cond.initialized "LostPlaces$Taste") ∈ TG := tg_in 113 (by decide +kernel) rfl
theorem w_114 : (Jvm.Cond.initialized "LostPlaces$Likings") ∈ TG := tg_in 114 (by decide +kernel) rfl
theorem w_116 : (Jvm.Cond.initialized "LostPlaces$Evening") ∈ TG := tg_in 116 (by decide +kernel) rfl
theorem w_117 : (Jvm.Cond.initialized "LostPlaces$Hall") ∈ TG := tg_in 117 (by decide +kernel) rfl
theorem w_118 : (Jvm.Cond.initialized "LostPlaces$Guess") ∈ TG := tg_in 118 (by decide +kernel) rfl
theorem w_119 : (Jvm.Cond.initialized "LostPlaces$Game") ∈ TG := tg_in 119 (by decide +kernel) rfl
theorem w_120 : (Jvm.Cond.initialized "LostPlaces$Branches") ∈ TG := tg_in 120 (by decide +kernel) rfl
theorem w_121 : (Jvm.Cond.initialized "LostPlacesModel") ∈ TG := tg_in 121 (by decide +kernel) rfl
theorem w_131 : (Jvm.Cond.initialized "java/lang/System") ∈ TG := tg_in 131 (by decide +kernel) rfl
theorem w_146 : (Jvm.Cond.fieldLink "LostPlaces$Tape" (9 : Nat) "LostPlaces$Tape" "bytes" "[I") ∈ TG := tg_in 146 (by decide +kernel) rfl
theorem w_147 : (Jvm.Cond.fieldLink "LostPlaces$Tape" (15 : Nat) "LostPlaces$Tape" "length" "I") ∈ TG := tg_in 147 (by decide +kernel) rfl
theorem w_148 : (Jvm.Cond.fieldLink "LostPlaces" (126 : Nat) "LostPlaces$Tape" "length" "I") ∈ TG := tg_in 148 (by decide +kernel) rfl
theorem w_149 : (Jvm.Cond.fieldLink "LostPlaces$RoomReader" (47 : Nat) "LostPlaces$Tape" "length" "I") ∈ TG := tg_in 149 (by decide +kernel) rfl
theorem w_150 : (Jvm.Cond.fieldLink "LostPlaces$Tape" (19 : Nat) "LostPlaces$Tape" "next" "I") ∈ TG := tg_in 150 (by decide +kernel) rfl
theorem w_151 : (Jvm.Cond.fieldLink "LostPlaces$RoomReader" (68 : Nat) "LostPlaces$Tape" "next" "I") ∈ TG := tg_in 151 (by decide +kernel) rfl
theorem w_152 : (Jvm.Cond.fieldLink "LostPlaces$TasteReader" (87 : Nat) "LostPlaces$Tape" "next" "I") ∈ TG := tg_in 152 (by decide +kernel) rfl
theorem w_153 : (Jvm.Cond.fieldLink "LostPlaces$Tape" (22 : Nat) "LostPlaces$Tape" "wrong" "I") ∈ TG := tg_in 153 (by decide +kernel) rfl
theorem w_154 : (Jvm.Cond.fieldLink "LostPlaces$TasteReader" (34 : Nat) "LostPlaces$Tape" "wrong" "I") ∈ TG := tg_in 154 (by decide +kernel) rfl
theorem w_155 : (Jvm.Cond.fieldLink "LostPlaces$RoomReader" (55 : Nat) "LostPlaces$Tape" "wrong" "I") ∈ TG := tg_in 155 (by decide +kernel) rfl
theorem w_172 : (Jvm.Cond.fieldLink "LostPlaces$Room" (9 : Nat) "LostPlaces$Room" "seats" "I") ∈ TG := tg_in 172 (by decide +kernel) rfl
theorem w_173 : (Jvm.Cond.fieldLink "LostPlaces$Hall" (55 : Nat) "LostPlaces$Room" "seats" "I") ∈ TG := tg_in 173 (by decide +kernel) rfl
theorem w_174 : (Jvm.Cond.fieldLink "LostPlaces$Likings" (65 : Nat) "LostPlaces$Room" "seats" "I") ∈ TG := tg_in 174 (by decide +kernel) rfl
theorem w_175 : (Jvm.Cond.fieldLink "LostPlaces$RoomReader" (82 : Nat) "LostPlaces$Room" "seats" "I") ∈ TG := tg_in 175 (by decide +kernel) rfl
theorem w_176 : (Jvm.Cond.fieldLink "LostPlaces$Guess" (95 : Nat) "LostPlaces$Room" "seats" "I") ∈ TG := tg_in 176 (by decide +kernel) rfl
theorem w_177 : (Jvm.Cond.fieldLink "LostPlaces$Evening" (113 : Nat) "LostPlaces$Room" "seats" "I") ∈ TG := tg_in 177 (by decide +kernel) rfl
theorem w_178 : (Jvm.Cond.fieldLink "LostPlaces" (238 : Nat) "LostPlaces$Room" "seats" "I") ∈ TG := tg_in 178 (by decide +kernel) rfl
theorem w_179 : (Jvm.Cond.fieldLink "LostPlaces$Room" (15 : Nat) "LostPlaces$Room" "sitters" "I") ∈ TG := tg_in 179 (by decide +kernel) rfl
theorem w_180 : (Jvm.Cond.fieldLink "LostPlaces$Game" (43 : Nat) "LostPlaces$Room" "sitters" "I") ∈ TG := tg_in 180 (by decide +kernel) rfl
theorem w_181 : (Jvm.Cond.fieldLink "LostPlaces$Hall" (49 : Nat) "LostPlaces$Room" "sitters" "I") ∈ TG := tg_in 181 (by decide +kernel) rfl
theorem w_182 : (Jvm.Cond.fieldLink "LostPlaces$Likings" (62 : Nat) "LostPlaces$Room" "sitters" "I") ∈ TG := tg_in 182 (by decide +kernel) rfl
theorem w_183 : (Jvm.Cond.fieldLink "LostPlaces$Branches" (81 : Nat) "LostPlaces$Room" "sitters" "I") ∈ TG := tg_in 183 (by decide +kernel) rfl
theorem w_184 : (Jvm.Cond.fieldLink "LostPlaces$RoomReader" (85 : Nat) "LostPlaces$Room" "sitters" "I") ∈ TG := tg_in 184 (by decide +kernel) rfl
theorem w_185 : (Jvm.Cond.fieldLink "LostPlaces$Evening" (40 : Nat) "LostPlaces$Room" "sitters" "I") ∈ TG := tg_in 185 (by decide +kernel) rfl
theorem w_186 : (Jvm.Cond.fieldLink "LostPlaces" (157 : Nat) "LostPlaces$Room" "sitters" "I") ∈ TG := tg_in 186 (by decide +kernel) rfl
theorem w_187 : (Jvm.Cond.fieldLink "LostPlaces$Guess" (112 : Nat) "LostPlaces$Room" "sitters" "I") ∈ TG := tg_in 187 (by decide +kernel) rfl
theorem w_188 : (Jvm.Cond.fieldLink "LostPlaces$Room" (18 : Nat) "LostPlaces$Room" "goings" "I") ∈ TG := tg_in 188 (by decide +kernel) rfl
theorem w_189 : (Jvm.Cond.fieldLink "LostPlaces$RoomReader" (88 : Nat) "LostPlaces$Room" "goings" "I") ∈ TG := tg_in 189 (by decide +kernel) rfl
theorem w_190 : (Jvm.Cond.fieldLink "LostPlaces$Branches" (133 : Nat) "LostPlaces$Room" "goings" "I") ∈ TG := tg_in 190 (by decide +kernel) rfl
theorem w_191 : (Jvm.Cond.fieldLink "LostPlaces$Evening" (121 : Nat) "LostPlaces$Room" "goings" "I") ∈ TG := tg_in 191 (by decide +kernel) rfl
theorem w_192 : (Jvm.Cond.fieldLink "LostPlaces" (214 : Nat) "LostPlaces$Room" "goings" "I") ∈ TG := tg_in 192 (by decide +kernel) rfl
theorem w_193 : (Jvm.Cond.fieldLink "LostPlaces$Room" (21 : Nat) "LostPlaces$Room" "evenings" "I") ∈ TG := tg_in 193 (by decide +kernel) rfl
theorem w_194 : (Jvm.Cond.fieldLink "LostPlaces$RoomReader" (91 : Nat) "LostPlaces$Room" "evenings" "I") ∈ TG := tg_in 194 (by decide +kernel) rfl
theorem w_195 : (Jvm.Cond.fieldLink "LostPlaces$Room" (24 : Nat) "LostPlaces$Room" "worth" "[I") ∈ TG := tg_in 195 (by decide +kernel) rfl
theorem w_196 : (Jvm.Cond.fieldLink "LostPlaces$Likings" (68 : Nat) "LostPlaces$Room" "worth" "[I") ∈ TG := tg_in 196 (by decide +kernel) rfl
theorem w_197 : (Jvm.Cond.fieldLink "LostPlaces" (167 : Nat) "LostPlaces$Room" "worth" "[I") ∈ TG := tg_in 197 (by decide +kernel) rfl
theorem w_198 : (Jvm.Cond.fieldLink "LostPlaces$Evening" (161 : Nat) "LostPlaces$Room" "worth" "[I") ∈ TG := tg_in 198 (by decide +kernel) rfl
theorem w_199 : (Jvm.Cond.fieldLink "LostPlaces$Room" (28 : Nat) "LostPlaces$Room" "more" "[I") ∈ TG := tg_in 199 (by decide +kernel) rfl
theorem w_200 : (Jvm.Cond.fieldLink "LostPlaces$Likings" (71 : Nat) "LostPlaces$Room" "more" "[I") ∈ TG := tg_in 200 (by decide +kernel) rfl
theorem w_201 : (Jvm.Cond.fieldLink "LostPlaces" (171 : Nat) "LostPlaces$Room" "more" "[I") ∈ TG := tg_in 201 (by decide +kernel) rfl
theorem w_202 : (Jvm.Cond.fieldLink "LostPlaces$Room" (31 : Nat) "LostPlaces$Room" "stands" "[I") ∈ TG := tg_in 202 (by decide +kernel) rfl
theorem w_203 : (Jvm.Cond.fieldLink "LostPlaces$Likings" (74 : Nat) "LostPlaces$Room" "stands" "[I") ∈ TG := tg_in 203 (by decide +kernel) rfl
theorem w_204 : (Jvm.Cond.fieldLink "LostPlaces" (174 : Nat) "LostPlaces$Room" "stands" "[I") ∈ TG := tg_in 204 (by decide +kernel) rfl
theorem w_205 : (Jvm.Cond.fieldLink "LostPlaces$Evening" (176 : Nat) "LostPlaces$Room" "stands" "[I") ∈ TG := tg_in 205 (by decide +kernel) rfl
theorem w_206 : (Jvm.Cond.fieldLink "LostPlaces$Room" (34 : Nat) "LostPlaces$Room" "begins" "[I") ∈ TG := tg_in 206 (by decide +kernel) rfl
theorem w_207 : (Jvm.Cond.fieldLink "LostPlaces$Hall" (52 : Nat) "LostPlaces$Room" "begins" "[I") ∈ TG := tg_in 207 (by decide +kernel) rfl
theorem w_208 : (Jvm.Cond.fieldLink "LostPlaces$Room" (37 : Nat) "LostPlaces$Room" "quick" "[I") ∈ TG := tg_in 208 (by decide +kernel) rfl
theorem w_209 : (Jvm.Cond.fieldLink "LostPlaces$Likings" (77 : Nat) "LostPlaces$Room" "quick" "[I") ∈ TG := tg_in 209 (by decide +kernel) rfl
theorem w_210 : (Jvm.Cond.fieldLink "LostPlaces$Game" (55 : Nat) "LostPlaces$Room" "quick" "[I") ∈ TG := tg_in 210 (by decide +kernel) rfl
theorem w_211 : (Jvm.Cond.fieldLink "LostPlaces" (202 : Nat) "LostPlaces$Room" "quick" "[I") ∈ TG := tg_in 211 (by decide +kernel) rfl
theorem w_212 : (Jvm.Cond.fieldLink "LostPlaces$Evening" (143 : Nat) "LostPlaces$Room" "quick" "[I") ∈ TG := tg_in 212 (by decide +kernel) rfl
theorem w_213 : (Jvm.Cond.fieldLink "LostPlaces$Room" (40 : Nat) "LostPlaces$Room" "step" "[I") ∈ TG := tg_in 213 (by decide +kernel) rfl
theorem w_214 : (Jvm.Cond.fieldLink "LostPlaces" (205 : Nat) "LostPlaces$Room" "step" "[I") ∈ TG := tg_in 214 (by decide +kernel) rfl
theorem w_215 : (Jvm.Cond.fieldLink "LostPlaces$Evening" (169 : Nat) "LostPlaces$Room" "step" "[I") ∈ TG := tg_in 215 (by decide +kernel) rfl
theorem w_216 : (Jvm.Cond.fieldLink "LostPlaces$Room" (43 : Nat) "LostPlaces$Room" "keep" "[I") ∈ TG := tg_in 216 (by decide +kernel) rfl
theorem w_217 : (Jvm.Cond.fieldLink "LostPlaces$Hall" (46 : Nat) "LostPlaces$Room" "keep" "[I") ∈ TG := tg_in 217 (by decide +kernel) rfl
theorem w_218 : (Jvm.Cond.fieldLink "LostPlaces$Room" (46 : Nat) "LostPlaces$Room" "goer" "[I") ∈ TG := tg_in 218 (by decide +kernel) rfl
theorem w_219 : (Jvm.Cond.fieldLink "LostPlaces" (217 : Nat) "LostPlaces$Room" "goer" "[I") ∈ TG := tg_in 219 (by decide +kernel) rfl
theorem w_220 : (Jvm.Cond.fieldLink "LostPlaces$Evening" (133 : Nat) "LostPlaces$Room" "goer" "[I") ∈ TG := tg_in 220 (by decide +kernel) rfl
theorem w_221 : (Jvm.Cond.fieldLink "LostPlaces$Room" (49 : Nat) "LostPlaces$Room" "leaves" "[I") ∈ TG := tg_in 221 (by decide +kernel) rfl
theorem w_222 : (Jvm.Cond.fieldLink "LostPlaces$Branches" (136 : Nat) "LostPlaces$Room" "leaves" "[I") ∈ TG := tg_in 222 (by decide +kernel) rfl
theorem w_223 : (Jvm.Cond.fieldLink "LostPlaces$Evening" (124 : Nat) "LostPlaces$Room" "leaves" "[I") ∈ TG := tg_in 223 (by decide +kernel) rfl
theorem w_224 : (Jvm.Cond.fieldLink "LostPlaces" (220 : Nat) "LostPlaces$Room" "leaves" "[I") ∈ TG := tg_in 224 (by decide +kernel) rfl
theorem w_225 : (Jvm.Cond.fieldLink "LostPlaces$Room" (52 : Nat) "LostPlaces$Room" "lasts" "[I") ∈ TG := tg_in 225 (by decide +kernel) rfl
theorem w_226 : (Jvm.Cond.fieldLink "LostPlaces" (223 : Nat) "LostPlaces$Room" "lasts" "[I") ∈ TG := tg_in 226 (by decide +kernel) rfl
theorem w_227 : (Jvm.Cond.fieldLink "LostPlaces$Evening" (140 : Nat) "LostPlaces$Room" "lasts" "[I") ∈ TG := tg_in 227 (by decide +kernel) rfl
theorem w_228 : (Jvm.Cond.fieldLink "LostPlaces$Room" (55 : Nat) "LostPlaces$Room" "film" "I") ∈ TG := tg_in 228 (by decide +kernel) rfl
theorem w_229 : (Jvm.Cond.fieldLink "LostPlaces$Likings" (51 : Nat) "LostPlaces$Room" "film" "I") ∈ TG := tg_in 229 (by decide +kernel) rfl
theorem w_230 : (Jvm.Cond.fieldLink "LostPlaces$Guess" (106 : Nat) "LostPlaces$Room" "film" "I") ∈ TG := tg_in 230 (by decide +kernel) rfl
theorem w_231 : (Jvm.Cond.fieldLink "LostPlaces" (370 : Nat) "LostPlaces$Room" "film" "I") ∈ TG := tg_in 231 (by decide +kernel) rfl
theorem w_232 : (Jvm.Cond.fieldLink "LostPlaces$Room" (58 : Nat) "LostPlaces$Room" "ends" "I") ∈ TG := tg_in 232 (by decide +kernel) rfl
theorem w_233 : (Jvm.Cond.fieldLink "LostPlaces$Likings" (46 : Nat) "LostPlaces$Room" "ends" "I") ∈ TG := tg_in 233 (by decide +kernel) rfl
theorem w_234 : (Jvm.Cond.fieldLink "LostPlaces$Branches" (86 : Nat) "LostPlaces$Room" "ends" "I") ∈ TG := tg_in 234 (by decide +kernel) rfl
theorem w_235 : (Jvm.Cond.fieldLink "LostPlaces$Guess" (74 : Nat) "LostPlaces$Room" "ends" "I") ∈ TG := tg_in 235 (by decide +kernel) rfl
theorem w_236 : (Jvm.Cond.fieldLink "LostPlaces$Evening" (59 : Nat) "LostPlaces$Room" "ends" "I") ∈ TG := tg_in 236 (by decide +kernel) rfl
theorem w_237 : (Jvm.Cond.fieldLink "LostPlaces$Game" (71 : Nat) "LostPlaces$Room" "ends" "I") ∈ TG := tg_in 237 (by decide +kernel) rfl
theorem w_238 : (Jvm.Cond.fieldLink "LostPlaces" (241 : Nat) "LostPlaces$Room" "ends" "I") ∈ TG := tg_in 238 (by decide +kernel) rfl
theorem w_278 : (Jvm.Cond.fieldLink "LostPlaces$RoomReader" (15 : Nat) "LostPlaces$RoomReader" "tape" "LLostPlaces$Tape;") ∈ TG := tg_in 278 (by decide +kernel) rfl
theorem w_279 : (Jvm.Cond.fieldLink "LostPlaces$RoomReader" (11 : Nat) "LostPlaces$RoomReader" "items" "[I") ∈ TG := tg_in 279 (by decide +kernel) rfl
theorem w_297 : (Jvm.Cond.fieldLink "LostPlaces$Taste" (11 : Nat) "LostPlaces$Taste" "codes" "[I") ∈ TG := tg_in 297 (by decide +kernel) rfl
theorem w_298 : (Jvm.Cond.fieldLink "LostPlaces$Taste" (15 : Nat) "LostPlaces$Taste" "length" "I") ∈ TG := tg_in 298 (by decide +kernel) rfl
theorem w_299 : (Jvm.Cond.fieldLink "LostPlaces$Taste" (19 : Nat) "LostPlaces$Taste" "stack" "[I") ∈ TG := tg_in 299 (by decide +kernel) rfl
theorem w_300 : (Jvm.Cond.fieldLink "LostPlaces$Taste" (22 : Nat) "LostPlaces$Taste" "tellsMinute" "Z") ∈ TG := tg_in 300 (by decide +kernel) rfl
theorem w_301 : (Jvm.Cond.fieldLink "LostPlaces$Likings" (42 : Nat) "LostPlaces$Taste" "tellsMinute" "Z") ∈ TG := tg_in 301 (by decide +kernel) rfl
theorem w_311 : (Jvm.Cond.fieldLink "LostPlaces$TasteReader" (18 : Nat) "LostPlaces$TasteReader" "tape" "LLostPlaces$Tape;") ∈ TG := tg_in 311 (by decide +kernel) rfl
theorem w_312 : (Jvm.Cond.fieldLink "LostPlaces$TasteReader" (12 : Nat) "LostPlaces$TasteReader" "into" "LLostPlaces$Taste;") ∈ TG := tg_in 312 (by decide +kernel) rfl
theorem w_337 : (Jvm.Cond.fieldLink "LostPlaces$Likings" (38 : Nat) "LostPlaces$Likings" "room" "LLostPlaces$Room;") ∈ TG := tg_in 337 (by decide +kernel) rfl
theorem w_338 : (Jvm.Cond.fieldLink "LostPlaces$Likings" (11 : Nat) "LostPlaces$Likings" "table" "[I") ∈ TG := tg_in 338 (by decide +kernel) rfl
theorem w_339 : (Jvm.Cond.fieldLink "LostPlaces$Likings" (15 : Nat) "LostPlaces$Likings" "rows" "[I") ∈ TG := tg_in 339 (by decide +kernel) rfl
theorem w_340 : (Jvm.Cond.fieldLink "LostPlaces$Likings" (18 : Nat) "LostPlaces$Likings" "tills" "[I") ∈ TG := tg_in 340 (by decide +kernel) rfl
theorem w_341 : (Jvm.Cond.fieldLink "LostPlaces$Likings" (31 : Nat) "LostPlaces$Likings" "letters" "[I") ∈ TG := tg_in 341 (by decide +kernel) rfl
theorem w_342 : (Jvm.Cond.fieldLink "LostPlaces$Likings" (34 : Nat) "LostPlaces$Likings" "renewals" "I") ∈ TG := tg_in 342 (by decide +kernel) rfl
theorem w_343 : (Jvm.Cond.fieldLink "LostPlaces$Branches" (114 : Nat) "LostPlaces$Likings" "renewals" "I") ∈ TG := tg_in 343 (by decide +kernel) rfl
theorem w_364 : (Jvm.Cond.fieldLink "LostPlaces$Evening" (28 : Nat) "LostPlaces$Evening" "room" "LLostPlaces$Room;") ∈ TG := tg_in 364 (by decide +kernel) rfl
theorem w_365 : (Jvm.Cond.fieldLink "LostPlaces$Evening" (32 : Nat) "LostPlaces$Evening" "likings" "LLostPlaces$Likings;") ∈ TG := tg_in 365 (by decide +kernel) rfl
theorem w_366 : (Jvm.Cond.fieldLink "LostPlaces$Evening" (11 : Nat) "LostPlaces$Evening" "happening" "I") ∈ TG := tg_in 366 (by decide +kernel) rfl
theorem w_367 : (Jvm.Cond.fieldLink "LostPlaces$Branches" (130 : Nat) "LostPlaces$Evening" "happening" "I") ∈ TG := tg_in 367 (by decide +kernel) rfl
theorem w_368 : (Jvm.Cond.fieldLink "LostPlaces$Evening" (15 : Nat) "LostPlaces$Evening" "moreWho" "I") ∈ TG := tg_in 368 (by decide +kernel) rfl
theorem w_369 : (Jvm.Cond.fieldLink "LostPlaces$Evening" (18 : Nat) "LostPlaces$Evening" "moreLeaves" "I") ∈ TG := tg_in 369 (by decide +kernel) rfl
theorem w_370 : (Jvm.Cond.fieldLink "LostPlaces$Evening" (21 : Nat) "LostPlaces$Evening" "moreLasts" "I") ∈ TG := tg_in 370 (by decide +kernel) rfl
theorem w_371 : (Jvm.Cond.fieldLink "LostPlaces$Evening" (24 : Nat) "LostPlaces$Evening" "drawn" "J") ∈ TG := tg_in 371 (by decide +kernel) rfl
theorem w_393 : (Jvm.Cond.fieldLink "LostPlaces$Hall" (9 : Nat) "LostPlaces$Hall" "where" "[I") ∈ TG := tg_in 393 (by decide +kernel) rfl
theorem w_394 : (Jvm.Cond.fieldLink "LostPlaces$Game" (48 : Nat) "LostPlaces$Hall" "where" "[I") ∈ TG := tg_in 394 (by decide +kernel) rfl
theorem w_395 : (Jvm.Cond.fieldLink "LostPlaces$Guess" (53 : Nat) "LostPlaces$Hall" "where" "[I") ∈ TG := tg_in 395 (by decide +kernel) rfl
theorem w_396 : (Jvm.Cond.fieldLink "LostPlaces$Branches" (111 : Nat) "LostPlaces$Hall" "where" "[I") ∈ TG := tg_in 396 (by decide +kernel) rfl
theorem w_397 : (Jvm.Cond.fieldLink "LostPlaces$Evening" (45 : Nat) "LostPlaces$Hall" "where" "[I") ∈ TG := tg_in 397 (by decide +kernel) rfl
theorem w_398 : (Jvm.Cond.fieldLink "LostPlaces" (196 : Nat) "LostPlaces$Hall" "where" "[I") ∈ TG := tg_in 398 (by decide +kernel) rfl
theorem w_399 : (Jvm.Cond.fieldLink "LostPlaces$Hall" (15 : Nat) "LostPlaces$Hall" "till" "[I") ∈ TG := tg_in 399 (by decide +kernel) rfl
theorem w_400 : (Jvm.Cond.fieldLink "LostPlaces" (199 : Nat) "LostPlaces$Hall" "till" "[I") ∈ TG := tg_in 400 (by decide +kernel) rfl
theorem w_401 : (Jvm.Cond.fieldLink "LostPlaces$Evening" (119 : Nat) "LostPlaces$Hall" "till" "[I") ∈ TG := tg_in 401 (by decide +kernel) rfl
theorem w_402 : (Jvm.Cond.fieldLink "LostPlaces$Hall" (18 : Nat) "LostPlaces$Hall" "keep" "[I") ∈ TG := tg_in 402 (by decide +kernel) rfl
theorem w_403 : (Jvm.Cond.fieldLink "LostPlaces$Guess" (92 : Nat) "LostPlaces$Hall" "keep" "[I") ∈ TG := tg_in 403 (by decide +kernel) rfl
theorem w_404 : (Jvm.Cond.fieldLink "LostPlaces" (208 : Nat) "LostPlaces$Hall" "keep" "[I") ∈ TG := tg_in 404 (by decide +kernel) rfl
theorem w_405 : (Jvm.Cond.fieldLink "LostPlaces$Hall" (21 : Nat) "LostPlaces$Hall" "joy" "[I") ∈ TG := tg_in 405 (by decide +kernel) rfl
theorem w_406 : (Jvm.Cond.fieldLink "LostPlaces$Guess" (86 : Nat) "LostPlaces$Hall" "joy" "[I") ∈ TG := tg_in 406 (by decide +kernel) rfl
theorem w_407 : (Jvm.Cond.fieldLink "LostPlaces$Game" (81 : Nat) "LostPlaces$Hall" "joy" "[I") ∈ TG := tg_in 407 (by decide +kernel) rfl
theorem w_408 : (Jvm.Cond.fieldLink "LostPlaces$Evening" (94 : Nat) "LostPlaces$Hall" "joy" "[I") ∈ TG := tg_in 408 (by decide +kernel) rfl
theorem w_409 : (Jvm.Cond.fieldLink "LostPlaces" (211 : Nat) "LostPlaces$Hall" "joy" "[I") ∈ TG := tg_in 409 (by decide +kernel) rfl
theorem w_410 : (Jvm.Cond.fieldLink "LostPlaces$Hall" (24 : Nat) "LostPlaces$Hall" "on" "[I") ∈ TG := tg_in 410 (by decide +kernel) rfl
theorem w_411 : (Jvm.Cond.fieldLink "LostPlaces" (177 : Nat) "LostPlaces$Hall" "on" "[I") ∈ TG := tg_in 411 (by decide +kernel) rfl
theorem w_412 : (Jvm.Cond.fieldLink "LostPlaces$Hall" (27 : Nat) "LostPlaces$Hall" "keptFor" "[I") ∈ TG := tg_in 412 (by decide +kernel) rfl
theorem w_413 : (Jvm.Cond.fieldLink "LostPlaces" (180 : Nat) "LostPlaces$Hall" "keptFor" "[I") ∈ TG := tg_in 413 (by decide +kernel) rfl
theorem w_414 : (Jvm.Cond.fieldLink "LostPlaces$Evening" (127 : Nat) "LostPlaces$Hall" "keptFor" "[I") ∈ TG := tg_in 414 (by decide +kernel) rfl
theorem w_415 : (Jvm.Cond.fieldLink "LostPlaces$Hall" (30 : Nat) "LostPlaces$Hall" "keptTill" "[I") ∈ TG := tg_in 415 (by decide +kernel) rfl
theorem w_416 : (Jvm.Cond.fieldLink "LostPlaces" (183 : Nat) "LostPlaces$Hall" "keptTill" "[I") ∈ TG := tg_in 416 (by decide +kernel) rfl
theorem w_417 : (Jvm.Cond.fieldLink "LostPlaces$Evening" (116 : Nat) "LostPlaces$Hall" "keptTill" "[I") ∈ TG := tg_in 417 (by decide +kernel) rfl
theorem w_418 : (Jvm.Cond.fieldLink "LostPlaces$Hall" (33 : Nat) "LostPlaces$Hall" "minute" "I") ∈ TG := tg_in 418 (by decide +kernel) rfl
theorem w_419 : (Jvm.Cond.fieldLink "LostPlaces$Guess" (44 : Nat) "LostPlaces$Hall" "minute" "I") ∈ TG := tg_in 419 (by decide +kernel) rfl
theorem w_420 : (Jvm.Cond.fieldLink "LostPlaces$Branches" (99 : Nat) "LostPlaces$Hall" "minute" "I") ∈ TG := tg_in 420 (by decide +kernel) rfl
theorem w_421 : (Jvm.Cond.fieldLink "LostPlaces$Evening" (62 : Nat) "LostPlaces$Hall" "minute" "I") ∈ TG := tg_in 421 (by decide +kernel) rfl
theorem w_422 : (Jvm.Cond.fieldLink "LostPlaces$Game" (62 : Nat) "LostPlaces$Hall" "minute" "I") ∈ TG := tg_in 422 (by decide +kernel) rfl
theorem w_423 : (Jvm.Cond.fieldLink "LostPlaces" (227 : Nat) "LostPlaces$Hall" "minute" "I") ∈ TG := tg_in 423 (by decide +kernel) rfl
theorem w_424 : (Jvm.Cond.fieldLink "LostPlaces$Hall" (37 : Nat) "LostPlaces$Hall" "moves" "I") ∈ TG := tg_in 424 (by decide +kernel) rfl
theorem w_425 : (Jvm.Cond.fieldLink "LostPlaces$Guess" (115 : Nat) "LostPlaces$Hall" "moves" "I") ∈ TG := tg_in 425 (by decide +kernel) rfl
theorem w_426 : (Jvm.Cond.fieldLink "LostPlaces$Evening" (158 : Nat) "LostPlaces$Hall" "moves" "I") ∈ TG := tg_in 426 (by decide +kernel) rfl
theorem w_427 : (Jvm.Cond.fieldLink "LostPlaces$Hall" (40 : Nat) "LostPlaces$Hall" "entries" "[I") ∈ TG := tg_in 427 (by decide +kernel) rfl
theorem w_428 : (Jvm.Cond.fieldLink "LostPlaces$Hall" (43 : Nat) "LostPlaces$Hall" "settled" "I") ∈ TG := tg_in 428 (by decide +kernel) rfl
theorem w_429 : (Jvm.Cond.fieldLink "LostPlaces$Evening" (101 : Nat) "LostPlaces$Hall" "settled" "I") ∈ TG := tg_in 429 (by decide +kernel) rfl
theorem w_462 : (Jvm.Cond.fieldLink "LostPlaces$Guess" (25 : Nat) "LostPlaces$Guess" "room" "LLostPlaces$Room;") ∈ TG := tg_in 462 (by decide +kernel) rfl
theorem w_463 : (Jvm.Cond.fieldLink "LostPlaces$Guess" (29 : Nat) "LostPlaces$Guess" "likings" "LLostPlaces$Likings;") ∈ TG := tg_in 463 (by decide +kernel) rfl
theorem w_464 : (Jvm.Cond.fieldLink "LostPlaces$Guess" (33 : Nat) "LostPlaces$Guess" "evening" "LLostPlaces$Evening;") ∈ TG := tg_in 464 (by decide +kernel) rfl
theorem w_465 : (Jvm.Cond.fieldLink "LostPlaces$Guess" (37 : Nat) "LostPlaces$Guess" "now" "LLostPlaces$Hall;") ∈ TG := tg_in 465 (by decide +kernel) rfl
theorem w_466 : (Jvm.Cond.fieldLink "LostPlaces$Guess" (12 : Nat) "LostPlaces$Guess" "hall" "LLostPlaces$Hall;") ∈ TG := tg_in 466 (by decide +kernel) rfl
theorem w_467 : (Jvm.Cond.fieldLink "LostPlaces" (289 : Nat) "LostPlaces$Guess" "hall" "LLostPlaces$Hall;") ∈ TG := tg_in 467 (by decide +kernel) rfl
theorem w_468 : (Jvm.Cond.fieldLink "LostPlaces$Guess" (18 : Nat) "LostPlaces$Guess" "found" "I") ∈ TG := tg_in 468 (by decide +kernel) rfl
theorem w_469 : (Jvm.Cond.fieldLink "LostPlaces" (295 : Nat) "LostPlaces$Guess" "found" "I") ∈ TG := tg_in 469 (by decide +kernel) rfl
theorem w_470 : (Jvm.Cond.fieldLink "LostPlaces$Guess" (22 : Nat) "LostPlaces$Guess" "value" "I") ∈ TG := tg_in 470 (by decide +kernel) rfl
theorem w_471 : (Jvm.Cond.fieldLink "LostPlaces" (298 : Nat) "LostPlaces$Guess" "value" "I") ∈ TG := tg_in 471 (by decide +kernel) rfl
theorem w_495 : (Jvm.Cond.fieldLink "LostPlaces$Game" (32 : Nat) "LostPlaces$Game" "room" "LLostPlaces$Room;") ∈ TG := tg_in 495 (by decide +kernel) rfl
theorem w_496 : (Jvm.Cond.fieldLink "LostPlaces$Game" (36 : Nat) "LostPlaces$Game" "evening" "LLostPlaces$Evening;") ∈ TG := tg_in 496 (by decide +kernel) rfl
theorem w_497 : (Jvm.Cond.fieldLink "LostPlaces$Game" (40 : Nat) "LostPlaces$Game" "now" "LLostPlaces$Hall;") ∈ TG := tg_in 497 (by decide +kernel) rfl
theorem w_498 : (Jvm.Cond.fieldLink "LostPlaces$Game" (14 : Nat) "LostPlaces$Game" "hall" "LLostPlaces$Hall;") ∈ TG := tg_in 498 (by decide +kernel) rfl
theorem w_499 : (Jvm.Cond.fieldLink "LostPlaces$Game" (18 : Nat) "LostPlaces$Game" "here" "[I") ∈ TG := tg_in 499 (by decide +kernel) rfl
theorem w_500 : (Jvm.Cond.fieldLink "LostPlaces$Game" (22 : Nat) "LostPlaces$Game" "size" "I") ∈ TG := tg_in 500 (by decide +kernel) rfl
theorem w_501 : (Jvm.Cond.fieldLink "LostPlaces$Game" (26 : Nat) "LostPlaces$Game" "numbers" "[I") ∈ TG := tg_in 501 (by decide +kernel) rfl
theorem w_502 : (Jvm.Cond.fieldLink "LostPlaces$Game" (29 : Nat) "LostPlaces$Game" "joys" "[I") ∈ TG := tg_in 502 (by decide +kernel) rfl
theorem w_528 : (Jvm.Cond.fieldLink "LostPlaces$Branches" (58 : Nat) "LostPlaces$Branches" "room" "LLostPlaces$Room;") ∈ TG := tg_in 528 (by decide +kernel) rfl
theorem w_529 : (Jvm.Cond.fieldLink "LostPlaces$Branches" (62 : Nat) "LostPlaces$Branches" "likings" "LLostPlaces$Likings;") ∈ TG := tg_in 529 (by decide +kernel) rfl
theorem w_530 : (Jvm.Cond.fieldLink "LostPlaces$Branches" (66 : Nat) "LostPlaces$Branches" "evening" "LLostPlaces$Evening;") ∈ TG := tg_in 530 (by decide +kernel) rfl
theorem w_531 : (Jvm.Cond.fieldLink "LostPlaces$Branches" (70 : Nat) "LostPlaces$Branches" "now" "LLostPlaces$Hall;") ∈ TG := tg_in 531 (by decide +kernel) rfl
theorem w_532 : (Jvm.Cond.fieldLink "LostPlaces$Branches" (11 : Nat) "LostPlaces$Branches" "halls" "[LLostPlaces$Hall;") ∈ TG := tg_in 532 (by decide +kernel) rfl
theorem w_533 : (Jvm.Cond.fieldLink "LostPlaces$Branches" (17 : Nat) "LostPlaces$Branches" "lasts" "I") ∈ TG := tg_in 533 (by decide +kernel) rfl
theorem w_534 : (Jvm.Cond.fieldLink "LostPlaces$Branches" (21 : Nat) "LostPlaces$Branches" "bestOrder" "I") ∈ TG := tg_in 534 (by decide +kernel) rfl
theorem w_535 : (Jvm.Cond.fieldLink "LostPlaces" (345 : Nat) "LostPlaces$Branches" "bestOrder" "I") ∈ TG := tg_in 535 (by decide +kernel) rfl
theorem w_536 : (Jvm.Cond.fieldLink "LostPlaces$Branches" (24 : Nat) "LostPlaces$Branches" "bestGap" "I") ∈ TG := tg_in 536 (by decide +kernel) rfl
theorem w_537 : (Jvm.Cond.fieldLink "LostPlaces" (348 : Nat) "LostPlaces$Branches" "bestGap" "I") ∈ TG := tg_in 537 (by decide +kernel) rfl
theorem w_538 : (Jvm.Cond.fieldLink "LostPlaces$Branches" (27 : Nat) "LostPlaces$Branches" "toldWho" "[I") ∈ TG := tg_in 538 (by decide +kernel) rfl
theorem w_539 : (Jvm.Cond.fieldLink "LostPlaces$Branches" (31 : Nat) "LostPlaces$Branches" "toldWhere" "[I") ∈ TG := tg_in 539 (by decide +kernel) rfl
theorem w_540 : (Jvm.Cond.fieldLink "LostPlaces$Branches" (34 : Nat) "LostPlaces$Branches" "toldCount" "I") ∈ TG := tg_in 540 (by decide +kernel) rfl
theorem w_541 : (Jvm.Cond.fieldLink "LostPlaces" (148 : Nat) "LostPlaces$Branches" "toldCount" "I") ∈ TG := tg_in 541 (by decide +kernel) rfl
theorem w_542 : (Jvm.Cond.fieldLink "LostPlaces$Branches" (37 : Nat) "LostPlaces$Branches" "coming" "[I") ∈ TG := tg_in 542 (by decide +kernel) rfl
theorem w_543 : (Jvm.Cond.fieldLink "LostPlaces$Branches" (40 : Nat) "LostPlaces$Branches" "comingCount" "I") ∈ TG := tg_in 543 (by decide +kernel) rfl
theorem w_544 : (Jvm.Cond.fieldLink "LostPlaces$Branches" (43 : Nat) "LostPlaces$Branches" "fits" "[Z") ∈ TG := tg_in 544 (by decide +kernel) rfl
theorem w_545 : (Jvm.Cond.fieldLink "LostPlaces$Branches" (48 : Nat) "LostPlaces$Branches" "asked" "LLostPlaces$Hall;") ∈ TG := tg_in 545 (by decide +kernel) rfl
theorem w_546 : (Jvm.Cond.fieldLink "LostPlaces$Branches" (52 : Nat) "LostPlaces$Branches" "askedLikings" "I") ∈ TG := tg_in 546 (by decide +kernel) rfl
theorem w_547 : (Jvm.Cond.fieldLink "LostPlaces$Branches" (55 : Nat) "LostPlaces$Branches" "askedTold" "I") ∈ TG := tg_in 547 (by decide +kernel) rfl
theorem w_585 : (Jvm.Cond.fieldLink "LostPlaces" (10 : Nat) "LostPlaces" "tape" "LLostPlaces$Tape;") ∈ TG := tg_in 585 (by decide +kernel) rfl
theorem w_586 : (Jvm.Cond.fieldLink "LostPlaces" (19 : Nat) "LostPlaces" "room" "LLostPlaces$Room;") ∈ TG := tg_in 586 (by decide +kernel) rfl
theorem w_587 : (Jvm.Cond.fieldLink "LostPlaces" (23 : Nat) "LostPlaces" "draft" "LLostPlaces$Room;") ∈ TG := tg_in 587 (by decide +kernel) rfl
theorem w_588 : (Jvm.Cond.fieldLink "LostPlaces" (31 : Nat) "LostPlaces" "roomReader" "LLostPlaces$RoomReader;") ∈ TG := tg_in 588 (by decide +kernel) rfl
theorem w_589 : (Jvm.Cond.fieldLink "LostPlaces" (38 : Nat) "LostPlaces" "tasteReader" "LLostPlaces$TasteReader;") ∈ TG := tg_in 589 (by decide +kernel) rfl
theorem w_590 : (Jvm.Cond.fieldLink "LostPlaces" (44 : Nat) "LostPlaces" "tastes" "[LLostPlaces$Taste;") ∈ TG := tg_in 590 (by decide +kernel) rfl
theorem w_591 : (Jvm.Cond.fieldLink "LostPlaces" (48 : Nat) "LostPlaces" "tasteCount" "I") ∈ TG := tg_in 591 (by decide +kernel) rfl
theorem w_592 : (Jvm.Cond.fieldLink "LostPlaces" (52 : Nat) "LostPlaces" "heldTaste" "I") ∈ TG := tg_in 592 (by decide +kernel) rfl
theorem w_593 : (Jvm.Cond.fieldLink "LostPlaces" (55 : Nat) "LostPlaces" "unrest" "I") ∈ TG := tg_in 593 (by decide +kernel) rfl
theorem w_594 : (Jvm.Cond.fieldLink "LostPlaces" (63 : Nat) "LostPlaces" "likings" "LLostPlaces$Likings;") ∈ TG := tg_in 594 (by decide +kernel) rfl
theorem w_595 : (Jvm.Cond.fieldLink "LostPlaces" (72 : Nat) "LostPlaces" "evening" "LLostPlaces$Evening;") ∈ TG := tg_in 595 (by decide +kernel) rfl
theorem w_596 : (Jvm.Cond.fieldLink "LostPlaces" (79 : Nat) "LostPlaces" "now" "LLostPlaces$Hall;") ∈ TG := tg_in 596 (by decide +kernel) rfl
theorem w_597 : (Jvm.Cond.fieldLink "LostPlaces" (83 : Nat) "LostPlaces" "past" "[LLostPlaces$Hall;") ∈ TG := tg_in 597 (by decide +kernel) rfl
theorem w_598 : (Jvm.Cond.fieldLink "LostPlaces" (87 : Nat) "LostPlaces" "acts" "I") ∈ TG := tg_in 598 (by decide +kernel) rfl
theorem w_599 : (Jvm.Cond.fieldLink "LostPlaces" (90 : Nat) "LostPlaces" "newest" "I") ∈ TG := tg_in 599 (by decide +kernel) rfl
theorem w_600 : (Jvm.Cond.fieldLink "LostPlaces" (93 : Nat) "LostPlaces" "pictured" "LLostPlaces$Hall;") ∈ TG := tg_in 600 (by decide +kernel) rfl
theorem w_601 : (Jvm.Cond.fieldLink "LostPlaces" (96 : Nat) "LostPlaces" "hasPicture" "Z") ∈ TG := tg_in 601 (by decide +kernel) rfl
theorem w_602 : (Jvm.Cond.fieldLink "LostPlaces" (105 : Nat) "LostPlaces" "guess" "LLostPlaces$Guess;") ∈ TG := tg_in 602 (by decide +kernel) rfl
theorem w_603 : (Jvm.Cond.fieldLink "LostPlaces" (114 : Nat) "LostPlaces" "game" "LLostPlaces$Game;") ∈ TG := tg_in 603 (by decide +kernel) rfl
theorem w_604 : (Jvm.Cond.fieldLink "LostPlaces" (121 : Nat) "LostPlaces" "branches" "LLostPlaces$Branches;") ∈ TG := tg_in 604 (by decide +kernel) rfl
theorem w_650 : (Jvm.Cond.methodLink "LostPlaces" (129 : Nat) ({ cls := "LostPlaces$Tape", name := "add", desc := "(I)Z" } : Jvm.MethodName)) ∈ TG := tg_in 650 (by decide +kernel) rfl
theorem w_651 : (Jvm.Cond.instanceMethod ({ cls := "LostPlaces$Tape", name := "add", desc := "(I)Z" } : Jvm.MethodName)) ∈ TG := tg_in 651 (by decide +kernel) rfl
theorem w_652 : (Jvm.Cond.selects "LostPlaces$Tape" ({ cls := "LostPlaces$Tape", name := "add", desc := "(I)Z" } : Jvm.MethodName) ({ cls := "LostPlaces$Tape", name := "add", desc := "(I)Z" } : Jvm.MethodName)) ∈ TG := tg_in 652 (by decide +kernel) rfl
theorem w_653 : (Jvm.Cond.code ({ cls := "LostPlaces$Tape", name := "add", desc := "(I)Z" } : Jvm.MethodName) prog_10_method_2_code (4 : Nat) (Option.some Jvm.ClassFile.FieldType.boolean)) ∈ TG := tg_in 653 (by decide +kernel) rfl
theorem w_662 : (Jvm.Cond.methodLink "LostPlaces" (133 : Nat) ({ cls := "LostPlaces$RoomReader", name := "read", desc := "(LLostPlaces$Room;)I" } : Jvm.MethodName)) ∈ TG := tg_in 662 (by decide +kernel) rfl
theorem w_663 : (Jvm.Cond.instanceMethod ({ cls := "LostPlaces$RoomReader", name := "read", desc := "(LLostPlaces$Room;)I" } : Jvm.MethodName)) ∈ TG := tg_in 663 (by decide +kernel) rfl
theorem w_664 : (Jvm.Cond.selects "LostPlaces$RoomReader" ({ cls := "LostPlaces$RoomReader", name := "read", desc := "(LLostPlaces$Room;)I" } : Jvm.MethodName) ({ cls := "LostPlaces$RoomReader", name := "read", desc := "(LLostPlaces$Room;)I" } : Jvm.MethodName)) ∈ TG := tg_in 664 (by decide +kernel) rfl
theorem w_665 : (Jvm.Cond.code ({ cls := "LostPlaces$RoomReader", name := "read", desc := "(LLostPlaces$Room;)I" } : Jvm.MethodName) prog_9_method_2_code (4 : Nat) (Option.some Jvm.ClassFile.FieldType.int)) ∈ TG := tg_in 665 (by decide +kernel) rfl
theorem w_666 : (Jvm.Cond.methodLink "LostPlaces$RoomReader" (19 : Nat) ({ cls := "LostPlaces$Tape", name := "rewind", desc := "()V" } : Jvm.MethodName)) ∈ TG := tg_in 666 (by decide +kernel) rfl
theorem w_667 : (Jvm.Cond.instanceMethod ({ cls := "LostPlaces$Tape", name := "rewind", desc := "()V" } : Jvm.MethodName)) ∈ TG := tg_in 667 (by decide +kernel) rfl
theorem w_668 : (Jvm.Cond.selects "LostPlaces$Tape" ({ cls := "LostPlaces$Tape", name := "rewind", desc := "()V" } : Jvm.MethodName) ({ cls := "LostPlaces$Tape", name := "rewind", desc := "()V" } : Jvm.MethodName)) ∈ TG := tg_in 668 (by decide +kernel) rfl
theorem w_669 : (Jvm.Cond.code ({ cls := "LostPlaces$Tape", name := "rewind", desc := "()V" } : Jvm.MethodName) prog_10_method_3_code (1 : Nat) (Option.none : Option Jvm.ClassFile.FieldType)) ∈ TG := tg_in 669 (by decide +kernel) rfl
theorem w_670 : (Jvm.Cond.methodLink "LostPlaces$RoomReader" (24 : Nat) ({ cls := "LostPlaces$Room", name := "clear", desc := "()V" } : Jvm.MethodName)) ∈ TG := tg_in 670 (by decide +kernel) rfl
theorem w_671 : (Jvm.Cond.instanceMethod ({ cls := "LostPlaces$Room", name := "clear", desc := "()V" } : Jvm.MethodName)) ∈ TG := tg_in 671 (by decide +kernel) rfl
theorem w_672 : (Jvm.Cond.selects "LostPlaces$Room" ({ cls := "LostPlaces$Room", name := "clear", desc := "()V" } : Jvm.MethodName) ({ cls := "LostPlaces$Room", name := "clear", desc := "()V" } : Jvm.MethodName)) ∈ TG := tg_in 672 (by decide +kernel) rfl
theorem w_673 : (Jvm.Cond.code ({ cls := "LostPlaces$Room", name := "clear", desc := "()V" } : Jvm.MethodName) prog_8_method_2_code (1 : Nat) (Option.none : Option Jvm.ClassFile.FieldType)) ∈ TG := tg_in 673 (by decide +kernel) rfl
theorem w_674 : (Jvm.Cond.fieldLink "LostPlaces$RoomReader" (29 : Nat) "LostPlaces$RoomReader" "UNTOLD" "[I") ∈ TG := tg_in 674 (by decide +kernel) rfl
theorem w_676 : (Jvm.Cond.methodLink "LostPlaces$RoomReader" (32 : Nat) ({ cls := "LostPlaces$Room", name := "setEvening", desc := "(II)V" } : Jvm.MethodName)) ∈ TG := tg_in 676 (by decide +kernel) rfl
theorem w_677 : (Jvm.Cond.instanceMethod ({ cls := "LostPlaces$Room", name := "setEvening", desc := "(II)V" } : Jvm.MethodName)) ∈ TG := tg_in 677 (by decide +kernel) rfl
theorem w_678 : (Jvm.Cond.selects "LostPlaces$Room" ({ cls := "LostPlaces$Room", name := "setEvening", desc := "(II)V" } : Jvm.MethodName) ({ cls := "LostPlaces$Room", name := "setEvening", desc := "(II)V" } : Jvm.MethodName)) ∈ TG := tg_in 678 (by decide +kernel) rfl
theorem w_679 : (Jvm.Cond.code ({ cls := "LostPlaces$Room", name := "setEvening", desc := "(II)V" } : Jvm.MethodName) prog_8_method_3_code (3 : Nat) (Option.none : Option Jvm.ClassFile.FieldType)) ∈ TG := tg_in 679 (by decide +kernel) rfl
theorem w_680 : (Jvm.Cond.methodLink "LostPlaces$RoomReader" (36 : Nat) ({ cls := "LostPlaces$RoomReader", name := "readClause", desc := "(LLostPlaces$Room;)Z" } : Jvm.MethodName)) ∈ TG := tg_in 680 (by decide +kernel) rfl
theorem w_682 : (Jvm.Cond.instanceMethod ({ cls := "LostPlaces$RoomReader", name := "readClause", desc := "(LLostPlaces$Room;)Z" } : Jvm.MethodName)) ∈ TG := tg_in 682 (by decide +kernel) rfl
theorem w_683 : (Jvm.Cond.code ({ cls := "LostPlaces$RoomReader", name := "readClause", desc := "(LLostPlaces$Room;)Z" } : Jvm.MethodName) prog_9_method_3_code (3 : Nat) (Option.some Jvm.ClassFile.FieldType.boolean)) ∈ TG := tg_in 683 (by decide +kernel) rfl
theorem w_685 : (Jvm.Cond.methodLink "LostPlaces$RoomReader" (60 : Nat) ({ cls := "LostPlaces$Tape", name := "letter", desc := "(Ljava/lang/String;)I" } : Jvm.MethodName)) ∈ TG := tg_in 685 (by decide +kernel) rfl
theorem w_686 : (Jvm.Cond.instanceMethod ({ cls := "LostPlaces$Tape", name := "letter", desc := "(Ljava/lang/String;)I" } : Jvm.MethodName)) ∈ TG := tg_in 686 (by decide +kernel) rfl
theorem w_687 : (Jvm.Cond.selects "LostPlaces$Tape" ({ cls := "LostPlaces$Tape", name := "letter", desc := "(Ljava/lang/String;)I" } : Jvm.MethodName) ({ cls := "LostPlaces$Tape", name := "letter", desc := "(Ljava/lang/String;)I" } : Jvm.MethodName)) ∈ TG := tg_in 687 (by decide +kernel) rfl
theorem w_688 : (Jvm.Cond.code ({ cls := "LostPlaces$Tape", name := "letter", desc := "(Ljava/lang/String;)I" } : Jvm.MethodName) prog_10_method_11_code (3 : Nat) (Option.some Jvm.ClassFile.FieldType.int)) ∈ TG := tg_in 688 (by decide +kernel) rfl
theorem w_689 : (Jvm.Cond.methodLink "LostPlaces$Tape" (25 : Nat) ({ cls := "LostPlaces$Tape", name := "sign", desc := "()I" } : Jvm.MethodName)) ∈ TG := tg_in 689 (by decide +kernel) rfl
theorem w_690 : (Jvm.Cond.instanceMethod ({ cls := "LostPlaces$Tape", name := "sign", desc := "()I" } : Jvm.MethodName)) ∈ TG := tg_in 690 (by decide +kernel) rfl
theorem w_691 : (Jvm.Cond.selects "LostPlaces$Tape" ({ cls := "LostPlaces$Tape", name := "sign", desc := "()I" } : Jvm.MethodName) ({ cls := "LostPlaces$Tape", name := "sign", desc := "()I" } : Jvm.MethodName)) ∈ TG := tg_in 691 (by decide +kernel) rfl
theorem w_692 : (Jvm.Cond.code ({ cls := "LostPlaces$Tape", name := "sign", desc := "()I" } : Jvm.MethodName) prog_10_method_4_code (1 : Nat) (Option.some Jvm.ClassFile.FieldType.int)) ∈ TG := tg_in 692 (by decide +kernel) rfl
theorem w_693 : (Jvm.Cond.methodLink "LostPlaces$Tape" (41 : Nat) ({ cls := "java/lang/String", name := "indexOf", desc := "(I)I" } : Jvm.MethodName)) ∈ TG := tg_in 693 (by decide +kernel) rfl
theorem w_770 : (Jvm.Cond.methodLink "LostPlaces$RoomReader" (64 : Nat) ({ cls := "LostPlaces$RoomReader", name := "isFull", desc := "(LLostPlaces$Room;I)Z" } : Jvm.MethodName)) ∈ TG := tg_in 770 (by decide +kernel) rfl
theorem w_771 : (Jvm.Cond.static ({ cls := "LostPlaces$RoomReader", name := "isFull", desc := "(LLostPlaces$Room;I)Z" } : Jvm.MethodName)) ∈ TG := tg_in 771 (by decide +kernel) rfl
theorem w_772 : (Jvm.Cond.code ({ cls := "LostPlaces$RoomReader", name := "isFull", desc := "(LLostPlaces$Room;I)Z" } : Jvm.MethodName) prog_9_method_4_code (2 : Nat) (Option.some Jvm.ClassFile.FieldType.boolean)) ∈ TG := tg_in 772 (by decide +kernel) rfl
theorem w_773 : (Jvm.Cond.methodLink "LostPlaces$RoomReader" (51 : Nat) ({ cls := "LostPlaces$Tape", name := "fail", desc := "(I)V" } : Jvm.MethodName)) ∈ TG := tg_in 773 (by decide +kernel) rfl
theorem w_774 : (Jvm.Cond.instanceMethod ({ cls := "LostPlaces$Tape", name := "fail", desc := "(I)V" } : Jvm.MethodName)) ∈ TG := tg_in 774 (by decide +kernel) rfl
theorem w_775 : (Jvm.Cond.selects "LostPlaces$Tape" ({ cls := "LostPlaces$Tape", name := "fail", desc := "(I)V" } : Jvm.MethodName) ({ cls := "LostPlaces$Tape", name := "fail", desc := "(I)V" } : Jvm.MethodName)) ∈ TG := tg_in 775 (by decide +kernel) rfl
theorem w_776 : (Jvm.Cond.code ({ cls := "LostPlaces$Tape", name := "fail", desc := "(I)V" } : Jvm.MethodName) prog_10_method_7_code (2 : Nat) (Option.none : Option Jvm.ClassFile.FieldType)) ∈ TG := tg_in 776 (by decide +kernel) rfl
theorem w_777 : (Jvm.Cond.methodLink "LostPlaces$RoomReader" (71 : Nat) ({ cls := "LostPlaces$RoomReader", name := "readItems", desc := "(I)V" } : Jvm.MethodName)) ∈ TG := tg_in 777 (by decide +kernel) rfl
theorem w_779 : (Jvm.Cond.instanceMethod ({ cls := "LostPlaces$RoomReader", name := "readItems", desc := "(I)V" } : Jvm.MethodName)) ∈ TG := tg_in 779 (by decide +kernel) rfl
theorem w_780 : (Jvm.Cond.code ({ cls := "LostPlaces$RoomReader", name := "readItems", desc := "(I)V" } : Jvm.MethodName) prog_9_method_6_code (7 : Nat) (Option.none : Option Jvm.ClassFile.FieldType)) ∈ TG := tg_in 780 (by decide +kernel) rfl
theorem w_781 : (Jvm.Cond.methodLink "LostPlaces$RoomReader" (102 : Nat) ({ cls := "LostPlaces$RoomReader", name := "isClauseOver", desc := "()Z" } : Jvm.MethodName)) ∈ TG := tg_in 781 (by decide +kernel) rfl
theorem w_783 : (Jvm.Cond.instanceMethod ({ cls := "LostPlaces$RoomReader", name := "isClauseOver", desc := "()Z" } : Jvm.MethodName)) ∈ TG := tg_in 783 (by decide +kernel) rfl
theorem w_784 : (Jvm.Cond.code ({ cls := "LostPlaces$RoomReader", name := "isClauseOver", desc := "()Z" } : Jvm.MethodName) prog_9_method_7_code (1 : Nat) (Option.some Jvm.ClassFile.FieldType.boolean)) ∈ TG := tg_in 784 (by decide +kernel) rfl
theorem w_785 : (Jvm.Cond.methodLink "LostPlaces$RoomReader" (40 : Nat) ({ cls := "LostPlaces$Tape", name := "isFine", desc := "()Z" } : Jvm.MethodName)) ∈ TG := tg_in 785 (by decide +kernel) rfl
theorem w_786 : (Jvm.Cond.instanceMethod ({ cls := "LostPlaces$Tape", name := "isFine", desc := "()Z" } : Jvm.MethodName)) ∈ TG := tg_in 786 (by decide +kernel) rfl
theorem w_787 : (Jvm.Cond.selects "LostPlaces$Tape" ({ cls := "LostPlaces$Tape", name := "isFine", desc := "()Z" } : Jvm.MethodName) ({ cls := "LostPlaces$Tape", name := "isFine", desc := "()Z" } : Jvm.MethodName)) ∈ TG := tg_in 787 (by decide +kernel) rfl
theorem w_788 : (Jvm.Cond.code ({ cls := "LostPlaces$Tape", name := "isFine", desc := "()Z" } : Jvm.MethodName) prog_10_method_6_code (1 : Nat) (Option.some Jvm.ClassFile.FieldType.boolean)) ∈ TG := tg_in 788 (by decide +kernel) rfl
theorem w_789 : (Jvm.Cond.methodLink "LostPlaces$RoomReader" (119 : Nat) ({ cls := "LostPlaces$Tape", name := "sign", desc := "()I" } : Jvm.MethodName)) ∈ TG := tg_in 789 (by decide +kernel) rfl
theorem w_790 : (Jvm.Cond.methodLink "LostPlaces$RoomReader" (105 : Nat) ({ cls := "LostPlaces$RoomReader", name := "lettersOf", desc := "(I)Ljava/lang/String;" } : Jvm.MethodName)) ∈ TG := tg_in 790 (by decide +kernel) rfl
theorem w_791 : (Jvm.Cond.static ({ cls := "LostPlaces$RoomReader", name := "lettersOf", desc := "(I)Ljava/lang/String;" } : Jvm.MethodName)) ∈ TG := tg_in 791 (by decide +kernel) rfl
theorem w_792 : (Jvm.Cond.code ({ cls := "LostPlaces$RoomReader", name := "lettersOf", desc := "(I)Ljava/lang/String;" } : Jvm.MethodName) prog_9_method_5_code (1 : Nat) (Option.some (Jvm.ClassFile.FieldType.object "java/lang/String"))) ∈ TG := tg_in 792 (by decide +kernel) rfl
theorem w_797 : (Jvm.Cond.methodLink "LostPlaces$RoomReader" (109 : Nat) ({ cls := "LostPlaces$Tape", name := "number", desc := "(I)I" } : Jvm.MethodName)) ∈ TG := tg_in 797 (by decide +kernel) rfl
theorem w_798 : (Jvm.Cond.instanceMethod ({ cls := "LostPlaces$Tape", name := "number", desc := "(I)I" } : Jvm.MethodName)) ∈ TG := tg_in 798 (by decide +kernel) rfl
theorem w_799 : (Jvm.Cond.selects "LostPlaces$Tape" ({ cls := "LostPlaces$Tape", name := "number", desc := "(I)I" } : Jvm.MethodName) ({ cls := "LostPlaces$Tape", name := "number", desc := "(I)I" } : Jvm.MethodName)) ∈ TG := tg_in 799 (by decide +kernel) rfl
theorem w_800 : (Jvm.Cond.code ({ cls := "LostPlaces$Tape", name := "number", desc := "(I)I" } : Jvm.MethodName) prog_10_method_10_code (4 : Nat) (Option.some Jvm.ClassFile.FieldType.int)) ∈ TG := tg_in 800 (by decide +kernel) rfl
theorem w_801 : (Jvm.Cond.methodLink "LostPlaces$Tape" (37 : Nat) ({ cls := "LostPlaces$Tape", name := "isAtDigit", desc := "()Z" } : Jvm.MethodName)) ∈ TG := tg_in 801 (by decide +kernel) rfl
theorem w_803 : (Jvm.Cond.instanceMethod ({ cls := "LostPlaces$Tape", name := "isAtDigit", desc := "()Z" } : Jvm.MethodName)) ∈ TG := tg_in 803 (by decide +kernel) rfl
theorem w_804 : (Jvm.Cond.code ({ cls := "LostPlaces$Tape", name := "isAtDigit", desc := "()Z" } : Jvm.MethodName) prog_10_method_5_code (1 : Nat) (Option.some Jvm.ClassFile.FieldType.boolean)) ∈ TG := tg_in 804 (by decide +kernel) rfl
theorem w_805 : (Jvm.Cond.methodLink "LostPlaces$Tape" (33 : Nat) ({ cls := "LostPlaces$Tape", name := "fail", desc := "(I)V" } : Jvm.MethodName)) ∈ TG := tg_in 805 (by decide +kernel) rfl
theorem w_806 : (Jvm.Cond.fieldLink "LostPlaces$RoomReader" (113 : Nat) "LostPlaces$RoomReader" "LEAST" "[I") ∈ TG := tg_in 806 (by decide +kernel) rfl
theorem w_808 : (Jvm.Cond.fieldLink "LostPlaces$RoomReader" (116 : Nat) "LostPlaces$RoomReader" "MOST" "[I") ∈ TG := tg_in 808 (by decide +kernel) rfl
theorem w_810 : (Jvm.Cond.methodLink "LostPlaces$RoomReader" (74 : Nat) ({ cls := "LostPlaces$RoomReader", name := "store", desc := "(LLostPlaces$Room;I)V" } : Jvm.MethodName)) ∈ TG := tg_in 810 (by decide +kernel) rfl
theorem w_812 : (Jvm.Cond.instanceMethod ({ cls := "LostPlaces$RoomReader", name := "store", desc := "(LLostPlaces$Room;I)V" } : Jvm.MethodName)) ∈ TG := tg_in 812 (by decide +kernel) rfl
theorem w_813 : (Jvm.Cond.code ({ cls := "LostPlaces$RoomReader", name := "store", desc := "(LLostPlaces$Room;I)V" } : Jvm.MethodName) prog_9_method_8_code (3 : Nat) (Option.none : Option Jvm.ClassFile.FieldType)) ∈ TG := tg_in 813 (by decide +kernel) rfl
theorem w_814 : (Jvm.Cond.methodLink "LostPlaces$RoomReader" (123 : Nat) ({ cls := "LostPlaces$Room", name := "addSeat", desc := "(III)V" } : Jvm.MethodName)) ∈ TG := tg_in 814 (by decide +kernel) rfl
theorem w_815 : (Jvm.Cond.instanceMethod ({ cls := "LostPlaces$Room", name := "addSeat", desc := "(III)V" } : Jvm.MethodName)) ∈ TG := tg_in 815 (by decide +kernel) rfl
theorem w_816 : (Jvm.Cond.selects "LostPlaces$Room" ({ cls := "LostPlaces$Room", name := "addSeat", desc := "(III)V" } : Jvm.MethodName) ({ cls := "LostPlaces$Room", name := "addSeat", desc := "(III)V" } : Jvm.MethodName)) ∈ TG := tg_in 816 (by decide +kernel) rfl
theorem w_817 : (Jvm.Cond.code ({ cls := "LostPlaces$Room", name := "addSeat", desc := "(III)V" } : Jvm.MethodName) prog_8_method_4_code (4 : Nat) (Option.none : Option Jvm.ClassFile.FieldType)) ∈ TG := tg_in 817 (by decide +kernel) rfl
theorem w_818 : (Jvm.Cond.methodLink "LostPlaces$RoomReader" (127 : Nat) ({ cls := "LostPlaces$Room", name := "addSitter", desc := "(IIII)V" } : Jvm.MethodName)) ∈ TG := tg_in 818 (by decide +kernel) rfl
theorem w_819 : (Jvm.Cond.instanceMethod ({ cls := "LostPlaces$Room", name := "addSitter", desc := "(IIII)V" } : Jvm.MethodName)) ∈ TG := tg_in 819 (by decide +kernel) rfl
theorem w_820 : (Jvm.Cond.selects "LostPlaces$Room" ({ cls := "LostPlaces$Room", name := "addSitter", desc := "(IIII)V" } : Jvm.MethodName) ({ cls := "LostPlaces$Room", name := "addSitter", desc := "(IIII)V" } : Jvm.MethodName)) ∈ TG := tg_in 820 (by decide +kernel) rfl
theorem w_821 : (Jvm.Cond.code ({ cls := "LostPlaces$Room", name := "addSitter", desc := "(IIII)V" } : Jvm.MethodName) prog_8_method_5_code (5 : Nat) (Option.none : Option Jvm.ClassFile.FieldType)) ∈ TG := tg_in 821 (by decide +kernel) rfl
theorem w_822 : (Jvm.Cond.methodLink "LostPlaces$RoomReader" (131 : Nat) ({ cls := "LostPlaces$Room", name := "addGoing", desc := "(III)V" } : Jvm.MethodName)) ∈ TG := tg_in 822 (by decide +kernel) rfl
theorem w_823 : (Jvm.Cond.instanceMethod ({ cls := "LostPlaces$Room", name := "addGoing", desc := "(III)V" } : Jvm.MethodName)) ∈ TG := tg_in 823 (by decide +kernel) rfl
theorem w_824 : (Jvm.Cond.selects "LostPlaces$Room" ({ cls := "LostPlaces$Room", name := "addGoing", desc := "(III)V" } : Jvm.MethodName) ({ cls := "LostPlaces$Room", name := "addGoing", desc := "(III)V" } : Jvm.MethodName)) ∈ TG := tg_in 824 (by decide +kernel) rfl
theorem w_825 : (Jvm.Cond.code ({ cls := "LostPlaces$Room", name := "addGoing", desc := "(III)V" } : Jvm.MethodName) prog_8_method_6_code (4 : Nat) (Option.none : Option Jvm.ClassFile.FieldType)) ∈ TG := tg_in 825 (by decide +kernel) rfl
theorem w_826 : (Jvm.Cond.methodLink "LostPlaces$RoomReader" (78 : Nat) ({ cls := "LostPlaces$Tape", name := "takes", desc := "(C)Z" } : Jvm.MethodName)) ∈ TG := tg_in 826 (by decide +kernel) rfl
theorem w_827 : (Jvm.Cond.instanceMethod ({ cls := "LostPlaces$Tape", name := "takes", desc := "(C)Z" } : Jvm.MethodName)) ∈ TG := tg_in 827 (by decide +kernel) rfl
theorem w_828 : (Jvm.Cond.selects "LostPlaces$Tape" ({ cls := "LostPlaces$Tape", name := "takes", desc := "(C)Z" } : Jvm.MethodName) ({ cls := "LostPlaces$Tape", name := "takes", desc := "(C)Z" } : Jvm.MethodName)) ∈ TG := tg_in 828 (by decide +kernel) rfl
theorem w_829 : (Jvm.Cond.code ({ cls := "LostPlaces$Tape", name := "takes", desc := "(C)Z" } : Jvm.MethodName) prog_10_method_8_code (2 : Nat) (Option.some Jvm.ClassFile.FieldType.boolean)) ∈ TG := tg_in 829 (by decide +kernel) rfl
theorem w_830 : (Jvm.Cond.methodLink "LostPlaces$RoomReader" (44 : Nat) ({ cls := "LostPlaces$Room", name := "isWhole", desc := "()Z" } : Jvm.MethodName)) ∈ TG := tg_in 830 (by decide +kernel) rfl
theorem w_831 : (Jvm.Cond.instanceMethod ({ cls := "LostPlaces$Room", name := "isWhole", desc := "()Z" } : Jvm.MethodName)) ∈ TG := tg_in 831 (by decide +kernel) rfl
theorem w_832 : (Jvm.Cond.selects "LostPlaces$Room" ({ cls := "LostPlaces$Room", name := "isWhole", desc := "()Z" } : Jvm.MethodName) ({ cls := "LostPlaces$Room", name := "isWhole", desc := "()Z" } : Jvm.MethodName)) ∈ TG := tg_in 832 (by decide +kernel) rfl
theorem w_833 : (Jvm.Cond.code ({ cls := "LostPlaces$Room", name := "isWhole", desc := "()Z" } : Jvm.MethodName) prog_8_method_7_code (3 : Nat) (Option.some Jvm.ClassFile.FieldType.boolean)) ∈ TG := tg_in 833 (by decide +kernel) rfl
theorem w_834 : (Jvm.Cond.methodLink "LostPlaces" (137 : Nat) ({ cls := "LostPlaces", name := "nextTaste", desc := "()LLostPlaces$Taste;" } : Jvm.MethodName)) ∈ TG := tg_in 834 (by decide +kernel) rfl
theorem w_836 : (Jvm.Cond.instanceMethod ({ cls := "LostPlaces", name := "nextTaste", desc := "()LLostPlaces$Taste;" } : Jvm.MethodName)) ∈ TG := tg_in 836 (by decide +kernel) rfl
theorem w_837 : (Jvm.Cond.code ({ cls := "LostPlaces", name := "nextTaste", desc := "()LLostPlaces$Taste;" } : Jvm.MethodName) prog_1_method_6_code (1 : Nat) (Option.some (Jvm.ClassFile.FieldType.object "LostPlaces$Taste"))) ∈ TG := tg_in 837 (by decide +kernel) rfl
theorem w_838 : (Jvm.Cond.methodLink "LostPlaces" (141 : Nat) ({ cls := "LostPlaces$TasteReader", name := "read", desc := "(LLostPlaces$Taste;)I" } : Jvm.MethodName)) ∈ TG := tg_in 838 (by decide +kernel) rfl
theorem w_839 : (Jvm.Cond.instanceMethod ({ cls := "LostPlaces$TasteReader", name := "read", desc := "(LLostPlaces$Taste;)I" } : Jvm.MethodName)) ∈ TG := tg_in 839 (by decide +kernel) rfl
theorem w_840 : (Jvm.Cond.selects "LostPlaces$TasteReader" ({ cls := "LostPlaces$TasteReader", name := "read", desc := "(LLostPlaces$Taste;)I" } : Jvm.MethodName) ({ cls := "LostPlaces$TasteReader", name := "read", desc := "(LLostPlaces$Taste;)I" } : Jvm.MethodName)) ∈ TG := tg_in 840 (by decide +kernel) rfl
theorem w_841 : (Jvm.Cond.code ({ cls := "LostPlaces$TasteReader", name := "read", desc := "(LLostPlaces$Taste;)I" } : Jvm.MethodName) prog_12_method_2_code (4 : Nat) (Option.some Jvm.ClassFile.FieldType.int)) ∈ TG := tg_in 841 (by decide +kernel) rfl
theorem w_842 : (Jvm.Cond.methodLink "LostPlaces$TasteReader" (22 : Nat) ({ cls := "LostPlaces$Tape", name := "rewind", desc := "()V" } : Jvm.MethodName)) ∈ TG := tg_in 842 (by decide +kernel) rfl
theorem w_843 : (Jvm.Cond.methodLink "LostPlaces$TasteReader" (27 : Nat) ({ cls := "LostPlaces$Taste", name := "clear", desc := "()V" } : Jvm.MethodName)) ∈ TG := tg_in 843 (by decide +kernel) rfl
theorem w_844 : (Jvm.Cond.instanceMethod ({ cls := "LostPlaces$Taste", name := "clear", desc := "()V" } : Jvm.MethodName)) ∈ TG := tg_in 844 (by decide +kernel) rfl
theorem w_845 : (Jvm.Cond.selects "LostPlaces$Taste" ({ cls := "LostPlaces$Taste", name := "clear", desc := "()V" } : Jvm.MethodName) ({ cls := "LostPlaces$Taste", name := "clear", desc := "()V" } : Jvm.MethodName)) ∈ TG := tg_in 845 (by decide +kernel) rfl
theorem w_846 : (Jvm.Cond.code ({ cls := "LostPlaces$Taste", name := "clear", desc := "()V" } : Jvm.MethodName) prog_11_method_2_code (1 : Nat) (Option.none : Option Jvm.ClassFile.FieldType)) ∈ TG := tg_in 846 (by decide +kernel) rfl
theorem w_847 : (Jvm.Cond.methodLink "LostPlaces$TasteReader" (30 : Nat) ({ cls := "LostPlaces$TasteReader", name := "readClause", desc := "(LLostPlaces$Taste;)Z" } : Jvm.MethodName)) ∈ TG := tg_in 847 (by decide +kernel) rfl
theorem w_849 : (Jvm.Cond.instanceMethod ({ cls := "LostPlaces$TasteReader", name := "readClause", desc := "(LLostPlaces$Taste;)Z" } : Jvm.MethodName)) ∈ TG := tg_in 849 (by decide +kernel) rfl
theorem w_850 : (Jvm.Cond.code ({ cls := "LostPlaces$TasteReader", name := "readClause", desc := "(LLostPlaces$Taste;)Z" } : Jvm.MethodName) prog_12_method_3_code (4 : Nat) (Option.some Jvm.ClassFile.FieldType.boolean)) ∈ TG := tg_in 850 (by decide +kernel) rfl
theorem w_851 : (Jvm.Cond.methodLink "LostPlaces$TasteReader" (38 : Nat) ({ cls := "LostPlaces$Tape", name := "needs", desc := "(C)V" } : Jvm.MethodName)) ∈ TG := tg_in 851 (by decide +kernel) rfl
theorem w_852 : (Jvm.Cond.instanceMethod ({ cls := "LostPlaces$Tape", name := "needs", desc := "(C)V" } : Jvm.MethodName)) ∈ TG := tg_in 852 (by decide +kernel) rfl
theorem w_853 : (Jvm.Cond.selects "LostPlaces$Tape" ({ cls := "LostPlaces$Tape", name := "needs", desc := "(C)V" } : Jvm.MethodName) ({ cls := "LostPlaces$Tape", name := "needs", desc := "(C)V" } : Jvm.MethodName)) ∈ TG := tg_in 853 (by decide +kernel) rfl
theorem w_854 : (Jvm.Cond.code ({ cls := "LostPlaces$Tape", name := "needs", desc := "(C)V" } : Jvm.MethodName) prog_10_method_9_code (2 : Nat) (Option.none : Option Jvm.ClassFile.FieldType)) ∈ TG := tg_in 854 (by decide +kernel) rfl
theorem w_855 : (Jvm.Cond.methodLink "LostPlaces$Tape" (29 : Nat) ({ cls := "LostPlaces$Tape", name := "takes", desc := "(C)Z" } : Jvm.MethodName)) ∈ TG := tg_in 855 (by decide +kernel) rfl
theorem w_857 : (Jvm.Cond.methodLink "LostPlaces$TasteReader" (44 : Nat) ({ cls := "LostPlaces$Tape", name := "letter", desc := "(Ljava/lang/String;)I" } : Jvm.MethodName)) ∈ TG := tg_in 857 (by decide +kernel) rfl
theorem w_858 : (Jvm.Cond.methodLink "LostPlaces$TasteReader" (48 : Nat) ({ cls := "LostPlaces$TasteReader", name := "sum", desc := "(I)V" } : Jvm.MethodName)) ∈ TG := tg_in 858 (by decide +kernel) rfl
theorem w_860 : (Jvm.Cond.instanceMethod ({ cls := "LostPlaces$TasteReader", name := "sum", desc := "(I)V" } : Jvm.MethodName)) ∈ TG := tg_in 860 (by decide +kernel) rfl
theorem w_861 : (Jvm.Cond.code ({ cls := "LostPlaces$TasteReader", name := "sum", desc := "(I)V" } : Jvm.MethodName) prog_12_method_8_code (4 : Nat) (Option.none : Option Jvm.ClassFile.FieldType)) ∈ TG := tg_in 861 (by decide +kernel) rfl
theorem w_862 : (Jvm.Cond.methodLink "LostPlaces$TasteReader" (93 : Nat) ({ cls := "LostPlaces$TasteReader", name := "term", desc := "(I)V" } : Jvm.MethodName)) ∈ TG := tg_in 862 (by decide +kernel) rfl
theorem w_864 : (Jvm.Cond.instanceMethod ({ cls := "LostPlaces$TasteReader", name := "term", desc := "(I)V" } : Jvm.MethodName)) ∈ TG := tg_in 864 (by decide +kernel) rfl
theorem w_865 : (Jvm.Cond.code ({ cls := "LostPlaces$TasteReader", name := "term", desc := "(I)V" } : Jvm.MethodName) prog_12_method_9_code (4 : Nat) (Option.none : Option Jvm.ClassFile.FieldType)) ∈ TG := tg_in 865 (by decide +kernel) rfl
theorem w_866 : (Jvm.Cond.methodLink "LostPlaces$TasteReader" (96 : Nat) ({ cls := "LostPlaces$TasteReader", name := "atom", desc := "(I)V" } : Jvm.MethodName)) ∈ TG := tg_in 866 (by decide +kernel) rfl
theorem w_868 : (Jvm.Cond.instanceMethod ({ cls := "LostPlaces$TasteReader", name := "atom", desc := "(I)V" } : Jvm.MethodName)) ∈ TG := tg_in 868 (by decide +kernel) rfl
theorem w_869 : (Jvm.Cond.code ({ cls := "LostPlaces$TasteReader", name := "atom", desc := "(I)V" } : Jvm.MethodName) prog_12_method_10_code (3 : Nat) (Option.none : Option Jvm.ClassFile.FieldType)) ∈ TG := tg_in 869 (by decide +kernel) rfl
theorem w_870 : (Jvm.Cond.methodLink "LostPlaces$TasteReader" (52 : Nat) ({ cls := "LostPlaces$Tape", name := "isFine", desc := "()Z" } : Jvm.MethodName)) ∈ TG := tg_in 870 (by decide +kernel) rfl
theorem w_872 : (Jvm.Cond.methodLink "LostPlaces$TasteReader" (101 : Nat) ({ cls := "LostPlaces$Taste", name := "putLetter", desc := "(I)V" } : Jvm.MethodName)) ∈ TG := tg_in 872 (by decide +kernel) rfl
theorem w_873 : (Jvm.Cond.instanceMethod ({ cls := "LostPlaces$Taste", name := "putLetter", desc := "(I)V" } : Jvm.MethodName)) ∈ TG := tg_in 873 (by decide +kernel) rfl
theorem w_874 : (Jvm.Cond.selects "LostPlaces$Taste" ({ cls := "LostPlaces$Taste", name := "putLetter", desc := "(I)V" } : Jvm.MethodName) ({ cls := "LostPlaces$Taste", name := "putLetter", desc := "(I)V" } : Jvm.MethodName)) ∈ TG := tg_in 874 (by decide +kernel) rfl
theorem w_875 : (Jvm.Cond.code ({ cls := "LostPlaces$Taste", name := "putLetter", desc := "(I)V" } : Jvm.MethodName) prog_11_method_4_code (2 : Nat) (Option.none : Option Jvm.ClassFile.FieldType)) ∈ TG := tg_in 875 (by decide +kernel) rfl
theorem w_876 : (Jvm.Cond.methodLink "LostPlaces$Taste" (26 : Nat) ({ cls := "LostPlaces$Taste", name := "put", desc := "(I)I" } : Jvm.MethodName)) ∈ TG := tg_in 876 (by decide +kernel) rfl
theorem w_877 : (Jvm.Cond.instanceMethod ({ cls := "LostPlaces$Taste", name := "put", desc := "(I)I" } : Jvm.MethodName)) ∈ TG := tg_in 877 (by decide +kernel) rfl
theorem w_878 : (Jvm.Cond.selects "LostPlaces$Taste" ({ cls := "LostPlaces$Taste", name := "put", desc := "(I)I" } : Jvm.MethodName) ({ cls := "LostPlaces$Taste", name := "put", desc := "(I)I" } : Jvm.MethodName)) ∈ TG := tg_in 878 (by decide +kernel) rfl
theorem w_879 : (Jvm.Cond.code ({ cls := "LostPlaces$Taste", name := "put", desc := "(I)I" } : Jvm.MethodName) prog_11_method_3_code (2 : Nat) (Option.some Jvm.ClassFile.FieldType.int)) ∈ TG := tg_in 879 (by decide +kernel) rfl
theorem w_880 : (Jvm.Cond.methodLink "LostPlaces$TasteReader" (83 : Nat) ({ cls := "LostPlaces$TasteReader", name := "opens", desc := "(CI)Z" } : Jvm.MethodName)) ∈ TG := tg_in 880 (by decide +kernel) rfl
theorem w_882 : (Jvm.Cond.instanceMethod ({ cls := "LostPlaces$TasteReader", name := "opens", desc := "(CI)Z" } : Jvm.MethodName)) ∈ TG := tg_in 882 (by decide +kernel) rfl
theorem w_883 : (Jvm.Cond.code ({ cls := "LostPlaces$TasteReader", name := "opens", desc := "(CI)Z" } : Jvm.MethodName) prog_12_method_7_code (3 : Nat) (Option.some Jvm.ClassFile.FieldType.boolean)) ∈ TG := tg_in 883 (by decide +kernel) rfl
theorem w_884 : (Jvm.Cond.methodLink "LostPlaces$TasteReader" (69 : Nat) ({ cls := "LostPlaces$Tape", name := "sign", desc := "()I" } : Jvm.MethodName)) ∈ TG := tg_in 884 (by decide +kernel) rfl
theorem w_885 : (Jvm.Cond.methodLink "LostPlaces$TasteReader" (90 : Nat) ({ cls := "LostPlaces$Tape", name := "fail", desc := "(I)V" } : Jvm.MethodName)) ∈ TG := tg_in 885 (by decide +kernel) rfl
theorem w_886 : (Jvm.Cond.methodLink "LostPlaces$TasteReader" (76 : Nat) ({ cls := "LostPlaces$Tape", name := "takes", desc := "(C)Z" } : Jvm.MethodName)) ∈ TG := tg_in 886 (by decide +kernel) rfl
theorem w_887 : (Jvm.Cond.methodLink "LostPlaces$TasteReader" (104 : Nat) ({ cls := "LostPlaces$Tape", name := "number", desc := "(I)I" } : Jvm.MethodName)) ∈ TG := tg_in 887 (by decide +kernel) rfl
theorem w_888 : (Jvm.Cond.methodLink "LostPlaces$TasteReader" (62 : Nat) ({ cls := "LostPlaces$Taste", name := "put", desc := "(I)I" } : Jvm.MethodName)) ∈ TG := tg_in 888 (by decide +kernel) rfl
theorem w_890 : (Jvm.Cond.methodLink "LostPlaces$TasteReader" (58 : Nat) ({ cls := "LostPlaces$TasteReader", name := "condition", desc := "(ZI)V" } : Jvm.MethodName)) ∈ TG := tg_in 890 (by decide +kernel) rfl
theorem w_892 : (Jvm.Cond.instanceMethod ({ cls := "LostPlaces$TasteReader", name := "condition", desc := "(ZI)V" } : Jvm.MethodName)) ∈ TG := tg_in 892 (by decide +kernel) rfl
theorem w_893 : (Jvm.Cond.code ({ cls := "LostPlaces$TasteReader", name := "condition", desc := "(ZI)V" } : Jvm.MethodName) prog_12_method_4_code (4 : Nat) (Option.none : Option Jvm.ClassFile.FieldType)) ∈ TG := tg_in 893 (by decide +kernel) rfl
theorem w_894 : (Jvm.Cond.methodLink "LostPlaces$TasteReader" (73 : Nat) ({ cls := "LostPlaces$TasteReader", name := "truth", desc := "(ZI)V" } : Jvm.MethodName)) ∈ TG := tg_in 894 (by decide +kernel) rfl
theorem w_896 : (Jvm.Cond.instanceMethod ({ cls := "LostPlaces$TasteReader", name := "truth", desc := "(ZI)V" } : Jvm.MethodName)) ∈ TG := tg_in 896 (by decide +kernel) rfl
theorem w_897 : (Jvm.Cond.code ({ cls := "LostPlaces$TasteReader", name := "truth", desc := "(ZI)V" } : Jvm.MethodName) prog_12_method_5_code (4 : Nat) (Option.none : Option Jvm.ClassFile.FieldType)) ∈ TG := tg_in 897 (by decide +kernel) rfl
theorem w_898 : (Jvm.Cond.methodLink "LostPlaces$TasteReader" (80 : Nat) ({ cls := "LostPlaces$TasteReader", name := "unit", desc := "(ZI)V" } : Jvm.MethodName)) ∈ TG := tg_in 898 (by decide +kernel) rfl
theorem w_900 : (Jvm.Cond.instanceMethod ({ cls := "LostPlaces$TasteReader", name := "unit", desc := "(ZI)V" } : Jvm.MethodName)) ∈ TG := tg_in 900 (by decide +kernel) rfl
theorem w_901 : (Jvm.Cond.code ({ cls := "LostPlaces$TasteReader", name := "unit", desc := "(ZI)V" } : Jvm.MethodName) prog_12_method_6_code (4 : Nat) (Option.none : Option Jvm.ClassFile.FieldType)) ∈ TG := tg_in 901 (by decide +kernel) rfl
theorem w_902 : (Jvm.Cond.methodLink "LostPlaces$TasteReader" (66 : Nat) ({ cls := "LostPlaces$Taste", name := "land", desc := "(I)V" } : Jvm.MethodName)) ∈ TG := tg_in 902 (by decide +kernel) rfl
theorem w_903 : (Jvm.Cond.instanceMethod ({ cls := "LostPlaces$Taste", name := "land", desc := "(I)V" } : Jvm.MethodName)) ∈ TG := tg_in 903 (by decide +kernel) rfl
theorem w_904 : (Jvm.Cond.selects "LostPlaces$Taste" ({ cls := "LostPlaces$Taste", name := "land", desc := "(I)V" } : Jvm.MethodName) ({ cls := "LostPlaces$Taste", name := "land", desc := "(I)V" } : Jvm.MethodName)) ∈ TG := tg_in 904 (by decide +kernel) rfl
theorem w_905 : (Jvm.Cond.code ({ cls := "LostPlaces$Taste", name := "land", desc := "(I)V" } : Jvm.MethodName) prog_11_method_5_code (2 : Nat) (Option.none : Option Jvm.ClassFile.FieldType)) ∈ TG := tg_in 905 (by decide +kernel) rfl
theorem w_910 : (Jvm.Cond.methodLink "LostPlaces" (144 : Nat) ({ cls := "LostPlaces", name := "takeRoom", desc := "()I" } : Jvm.MethodName)) ∈ TG := tg_in 910 (by decide +kernel) rfl
theorem w_912 : (Jvm.Cond.instanceMethod ({ cls := "LostPlaces", name := "takeRoom", desc := "()I" } : Jvm.MethodName)) ∈ TG := tg_in 912 (by decide +kernel) rfl
theorem w_913 : (Jvm.Cond.code ({ cls := "LostPlaces", name := "takeRoom", desc := "()I" } : Jvm.MethodName) prog_1_method_7_code (1 : Nat) (Option.some Jvm.ClassFile.FieldType.int)) ∈ TG := tg_in 913 (by decide +kernel) rfl
theorem w_914 : (Jvm.Cond.methodLink "LostPlaces" (151 : Nat) ({ cls := "LostPlaces$Hall", name := "open", desc := "(LLostPlaces$Room;)V" } : Jvm.MethodName)) ∈ TG := tg_in 914 (by decide +kernel) rfl
theorem w_915 : (Jvm.Cond.instanceMethod ({ cls := "LostPlaces$Hall", name := "open", desc := "(LLostPlaces$Room;)V" } : Jvm.MethodName)) ∈ TG := tg_in 915 (by decide +kernel) rfl
theorem w_916 : (Jvm.Cond.selects "LostPlaces$Hall" ({ cls := "LostPlaces$Hall", name := "open", desc := "(LLostPlaces$Room;)V" } : Jvm.MethodName) ({ cls := "LostPlaces$Hall", name := "open", desc := "(LLostPlaces$Room;)V" } : Jvm.MethodName)) ∈ TG := tg_in 916 (by decide +kernel) rfl
theorem w_917 : (Jvm.Cond.code ({ cls := "LostPlaces$Hall", name := "open", desc := "(LLostPlaces$Room;)V" } : Jvm.MethodName) prog_6_method_2_code (3 : Nat) (Option.none : Option Jvm.ClassFile.FieldType)) ∈ TG := tg_in 917 (by decide +kernel) rfl
theorem w_918 : (Jvm.Cond.methodLink "LostPlaces$Hall" (58 : Nat) ({ cls := "LostPlaces$Hall", name := "put", desc := "(II)V" } : Jvm.MethodName)) ∈ TG := tg_in 918 (by decide +kernel) rfl
theorem w_919 : (Jvm.Cond.instanceMethod ({ cls := "LostPlaces$Hall", name := "put", desc := "(II)V" } : Jvm.MethodName)) ∈ TG := tg_in 919 (by decide +kernel) rfl
theorem w_920 : (Jvm.Cond.selects "LostPlaces$Hall" ({ cls := "LostPlaces$Hall", name := "put", desc := "(II)V" } : Jvm.MethodName) ({ cls := "LostPlaces$Hall", name := "put", desc := "(II)V" } : Jvm.MethodName)) ∈ TG := tg_in 920 (by decide +kernel) rfl
theorem w_921 : (Jvm.Cond.code ({ cls := "LostPlaces$Hall", name := "put", desc := "(II)V" } : Jvm.MethodName) prog_6_method_9_code (4 : Nat) (Option.none : Option Jvm.ClassFile.FieldType)) ∈ TG := tg_in 921 (by decide +kernel) rfl
theorem w_922 : (Jvm.Cond.methodLink "LostPlaces" (154 : Nat) ({ cls := "LostPlaces", name := "renewLikings", desc := "()V" } : Jvm.MethodName)) ∈ TG := tg_in 922 (by decide +kernel) rfl
theorem w_924 : (Jvm.Cond.instanceMethod ({ cls := "LostPlaces", name := "renewLikings", desc := "()V" } : Jvm.MethodName)) ∈ TG := tg_in 924 (by decide +kernel) rfl
theorem w_925 : (Jvm.Cond.code ({ cls := "LostPlaces", name := "renewLikings", desc := "()V" } : Jvm.MethodName) prog_1_method_8_code (2 : Nat) (Option.none : Option Jvm.ClassFile.FieldType)) ∈ TG := tg_in 925 (by decide +kernel) rfl
theorem w_926 : (Jvm.Cond.methodLink "LostPlaces" (160 : Nat) ({ cls := "LostPlaces$Likings", name := "renew", desc := "(LLostPlaces$Taste;)V" } : Jvm.MethodName)) ∈ TG := tg_in 926 (by decide +kernel) rfl
theorem w_927 : (Jvm.Cond.instanceMethod ({ cls := "LostPlaces$Likings", name := "renew", desc := "(LLostPlaces$Taste;)V" } : Jvm.MethodName)) ∈ TG := tg_in 927 (by decide +kernel) rfl
theorem w_928 : (Jvm.Cond.selects "LostPlaces$Likings" ({ cls := "LostPlaces$Likings", name := "renew", desc := "(LLostPlaces$Taste;)V" } : Jvm.MethodName) ({ cls := "LostPlaces$Likings", name := "renew", desc := "(LLostPlaces$Taste;)V" } : Jvm.MethodName)) ∈ TG := tg_in 928 (by decide +kernel) rfl
theorem w_929 : (Jvm.Cond.code ({ cls := "LostPlaces$Likings", name := "renew", desc := "(LLostPlaces$Taste;)V" } : Jvm.MethodName) prog_7_method_2_code (6 : Nat) (Option.none : Option Jvm.ClassFile.FieldType)) ∈ TG := tg_in 929 (by decide +kernel) rfl
theorem w_930 : (Jvm.Cond.methodLink "LostPlaces$Likings" (54 : Nat) ({ cls := "LostPlaces$Likings", name := "fill", desc := "(ILLostPlaces$Taste;)V" } : Jvm.MethodName)) ∈ TG := tg_in 930 (by decide +kernel) rfl
theorem w_932 : (Jvm.Cond.instanceMethod ({ cls := "LostPlaces$Likings", name := "fill", desc := "(ILLostPlaces$Taste;)V" } : Jvm.MethodName)) ∈ TG := tg_in 932 (by decide +kernel) rfl
theorem w_933 : (Jvm.Cond.code ({ cls := "LostPlaces$Likings", name := "fill", desc := "(ILLostPlaces$Taste;)V" } : Jvm.MethodName) prog_7_method_3_code (7 : Nat) (Option.none : Option Jvm.ClassFile.FieldType)) ∈ TG := tg_in 933 (by decide +kernel) rfl
theorem w_934 : (Jvm.Cond.methodLink "LostPlaces$Likings" (80 : Nat) ({ cls := "LostPlaces$Taste", name := "worth", desc := "([I)I" } : Jvm.MethodName)) ∈ TG := tg_in 934 (by decide +kernel) rfl
theorem w_935 : (Jvm.Cond.instanceMethod ({ cls := "LostPlaces$Taste", name := "worth", desc := "([I)I" } : Jvm.MethodName)) ∈ TG := tg_in 935 (by decide +kernel) rfl
theorem w_936 : (Jvm.Cond.selects "LostPlaces$Taste" ({ cls := "LostPlaces$Taste", name := "worth", desc := "([I)I" } : Jvm.MethodName) ({ cls := "LostPlaces$Taste", name := "worth", desc := "([I)I" } : Jvm.MethodName)) ∈ TG := tg_in 936 (by decide +kernel) rfl
theorem w_937 : (Jvm.Cond.code ({ cls := "LostPlaces$Taste", name := "worth", desc := "([I)I" } : Jvm.MethodName) prog_11_method_6_code (6 : Nat) (Option.some Jvm.ClassFile.FieldType.int)) ∈ TG := tg_in 937 (by decide +kernel) rfl
theorem w_938 : (Jvm.Cond.methodLink "LostPlaces$Taste" (30 : Nat) ({ cls := "LostPlaces$Taste", name := "valueOf", desc := "(I[I)I" } : Jvm.MethodName)) ∈ TG := tg_in 938 (by decide +kernel) rfl
theorem w_939 : (Jvm.Cond.static ({ cls := "LostPlaces$Taste", name := "valueOf", desc := "(I[I)I" } : Jvm.MethodName)) ∈ TG := tg_in 939 (by decide +kernel) rfl
theorem w_940 : (Jvm.Cond.code ({ cls := "LostPlaces$Taste", name := "valueOf", desc := "(I[I)I" } : Jvm.MethodName) prog_11_method_7_code (3 : Nat) (Option.some Jvm.ClassFile.FieldType.int)) ∈ TG := tg_in 940 (by decide +kernel) rfl
theorem w_941 : (Jvm.Cond.methodLink "LostPlaces$Taste" (34 : Nat) ({ cls := "LostPlaces$Taste", name := "join", desc := "(III)I" } : Jvm.MethodName)) ∈ TG := tg_in 941 (by decide +kernel) rfl
theorem w_942 : (Jvm.Cond.static ({ cls := "LostPlaces$Taste", name := "join", desc := "(III)I" } : Jvm.MethodName)) ∈ TG := tg_in 942 (by decide +kernel) rfl
theorem w_943 : (Jvm.Cond.code ({ cls := "LostPlaces$Taste", name := "join", desc := "(III)I" } : Jvm.MethodName) prog_11_method_8_code (5 : Nat) (Option.some Jvm.ClassFile.FieldType.int)) ∈ TG := tg_in 943 (by decide +kernel) rfl
theorem w_944 : (Jvm.Cond.constantLong "LostPlaces$Taste" (38 : Nat) (1000000 : Int64)) ∈ TG := tg_in 944 (by decide +kernel) rfl
theorem w_945 : (Jvm.Cond.constantLong "LostPlaces$Taste" (40 : Nat) (-1000000 : Int64)) ∈ TG := tg_in 945 (by decide +kernel) rfl
theorem w_946 : (Jvm.Cond.methodLink "LostPlaces$Likings" (58 : Nat) ({ cls := "LostPlaces$Likings", name := "isAlike", desc := "(II)Z" } : Jvm.MethodName)) ∈ TG := tg_in 946 (by decide +kernel) rfl
theorem w_948 : (Jvm.Cond.instanceMethod ({ cls := "LostPlaces$Likings", name := "isAlike", desc := "(II)Z" } : Jvm.MethodName)) ∈ TG := tg_in 948 (by decide +kernel) rfl
theorem w_949 : (Jvm.Cond.code ({ cls := "LostPlaces$Likings", name := "isAlike", desc := "(II)Z" } : Jvm.MethodName) prog_7_method_4_code (5 : Nat) (Option.some Jvm.ClassFile.FieldType.boolean)) ∈ TG := tg_in 949 (by decide +kernel) rfl
theorem w_950 : (Jvm.Cond.methodLink "LostPlaces$Likings" (83 : Nat) ({ cls := "LostPlaces$Likings", name := "at", desc := "(III)I" } : Jvm.MethodName)) ∈ TG := tg_in 950 (by decide +kernel) rfl
theorem w_951 : (Jvm.Cond.instanceMethod ({ cls := "LostPlaces$Likings", name := "at", desc := "(III)I" } : Jvm.MethodName)) ∈ TG := tg_in 951 (by decide +kernel) rfl
theorem w_952 : (Jvm.Cond.selects "LostPlaces$Likings" ({ cls := "LostPlaces$Likings", name := "at", desc := "(III)I" } : Jvm.MethodName) ({ cls := "LostPlaces$Likings", name := "at", desc := "(III)I" } : Jvm.MethodName)) ∈ TG := tg_in 952 (by decide +kernel) rfl
theorem w_953 : (Jvm.Cond.code ({ cls := "LostPlaces$Likings", name := "at", desc := "(III)I" } : Jvm.MethodName) prog_7_method_8_code (5 : Nat) (Option.some Jvm.ClassFile.FieldType.int)) ∈ TG := tg_in 953 (by decide +kernel) rfl
theorem w_958 : (Jvm.Cond.methodLink "LostPlaces" (164 : Nat) ({ cls := "LostPlaces", name := "isSeat", desc := "(I)Z" } : Jvm.MethodName)) ∈ TG := tg_in 958 (by decide +kernel) rfl
theorem w_960 : (Jvm.Cond.instanceMethod ({ cls := "LostPlaces", name := "isSeat", desc := "(I)Z" } : Jvm.MethodName)) ∈ TG := tg_in 960 (by decide +kernel) rfl
theorem w_961 : (Jvm.Cond.code ({ cls := "LostPlaces", name := "isSeat", desc := "(I)Z" } : Jvm.MethodName) prog_1_method_15_code (2 : Nat) (Option.some Jvm.ClassFile.FieldType.boolean)) ∈ TG := tg_in 961 (by decide +kernel) rfl
theorem w_978 : (Jvm.Cond.methodLink "LostPlaces" (186 : Nat) ({ cls := "LostPlaces", name := "isSitter", desc := "(I)Z" } : Jvm.MethodName)) ∈ TG := tg_in 978 (by decide +kernel) rfl
theorem w_980 : (Jvm.Cond.instanceMethod ({ cls := "LostPlaces", name := "isSitter", desc := "(I)Z" } : Jvm.MethodName)) ∈ TG := tg_in 980 (by decide +kernel) rfl
theorem w_981 : (Jvm.Cond.code ({ cls := "LostPlaces", name := "isSitter", desc := "(I)Z" } : Jvm.MethodName) prog_1_method_16_code (2 : Nat) (Option.some Jvm.ClassFile.FieldType.boolean)) ∈ TG := tg_in 981 (by decide +kernel) rfl
theorem w_982 : (Jvm.Cond.constant "LostPlaces" (226 : Nat) (-1000000 : Int32)) ∈ TG := tg_in 982 (by decide +kernel) rfl
theorem w_983 : (Jvm.Cond.methodLink "LostPlaces" (230 : Nat) ({ cls := "LostPlaces$Likings", name := "row", desc := "(I)I" } : Jvm.MethodName)) ∈ TG := tg_in 983 (by decide +kernel) rfl
theorem w_984 : (Jvm.Cond.instanceMethod ({ cls := "LostPlaces$Likings", name := "row", desc := "(I)I" } : Jvm.MethodName)) ∈ TG := tg_in 984 (by decide +kernel) rfl
theorem w_985 : (Jvm.Cond.selects "LostPlaces$Likings" ({ cls := "LostPlaces$Likings", name := "row", desc := "(I)I" } : Jvm.MethodName) ({ cls := "LostPlaces$Likings", name := "row", desc := "(I)I" } : Jvm.MethodName)) ∈ TG := tg_in 985 (by decide +kernel) rfl
theorem w_986 : (Jvm.Cond.code ({ cls := "LostPlaces$Likings", name := "row", desc := "(I)I" } : Jvm.MethodName) prog_7_method_5_code (2 : Nat) (Option.some Jvm.ClassFile.FieldType.int)) ∈ TG := tg_in 986 (by decide +kernel) rfl
theorem w_987 : (Jvm.Cond.methodLink "LostPlaces" (234 : Nat) ({ cls := "LostPlaces$Likings", name := "at", desc := "(III)I" } : Jvm.MethodName)) ∈ TG := tg_in 987 (by decide +kernel) rfl
theorem w_992 : (Jvm.Cond.methodLink "LostPlaces" (244 : Nat) ({ cls := "LostPlaces", name := "isHere", desc := "(I)Z" } : Jvm.MethodName)) ∈ TG := tg_in 992 (by decide +kernel) rfl
theorem w_994 : (Jvm.Cond.instanceMethod ({ cls := "LostPlaces", name := "isHere", desc := "(I)Z" } : Jvm.MethodName)) ∈ TG := tg_in 994 (by decide +kernel) rfl
theorem w_995 : (Jvm.Cond.code ({ cls := "LostPlaces", name := "isHere", desc := "(I)Z" } : Jvm.MethodName) prog_1_method_17_code (2 : Nat) (Option.some Jvm.ClassFile.FieldType.boolean)) ∈ TG := tg_in 995 (by decide +kernel) rfl
theorem w_996 : (Jvm.Cond.methodLink "LostPlaces" (247 : Nat) ({ cls := "LostPlaces", name := "minutesLeft", desc := "()I" } : Jvm.MethodName)) ∈ TG := tg_in 996 (by decide +kernel) rfl
theorem w_998 : (Jvm.Cond.instanceMethod ({ cls := "LostPlaces", name := "minutesLeft", desc := "()I" } : Jvm.MethodName)) ∈ TG := tg_in 998 (by decide +kernel) rfl
theorem w_999 : (Jvm.Cond.code ({ cls := "LostPlaces", name := "minutesLeft", desc := "()I" } : Jvm.MethodName) prog_1_method_19_code (1 : Nat) (Option.some Jvm.ClassFile.FieldType.int)) ∈ TG := tg_in 999 (by decide +kernel) rfl
theorem w_1000 : (Jvm.Cond.methodLink "LostPlaces" (250 : Nat) ({ cls := "LostPlaces", name := "remember", desc := "()V" } : Jvm.MethodName)) ∈ TG := tg_in 1000 (by decide +kernel) rfl
theorem w_1002 : (Jvm.Cond.instanceMethod ({ cls := "LostPlaces", name := "remember", desc := "()V" } : Jvm.MethodName)) ∈ TG := tg_in 1002 (by decide +kernel) rfl
theorem w_1003 : (Jvm.Cond.code ({ cls := "LostPlaces", name := "remember", desc := "()V" } : Jvm.MethodName) prog_1_method_25_code (1 : Nat) (Option.none : Option Jvm.ClassFile.FieldType)) ∈ TG := tg_in 1003 (by decide +kernel) rfl
theorem w_1004 : (Jvm.Cond.methodLink "LostPlaces" (273 : Nat) ({ cls := "LostPlaces$Hall", name := "copyFrom", desc := "(LLostPlaces$Hall;)V" } : Jvm.MethodName)) ∈ TG := tg_in 1004 (by decide +kernel) rfl
theorem w_1005 : (Jvm.Cond.instanceMethod ({ cls := "LostPlaces$Hall", name := "copyFrom", desc := "(LLostPlaces$Hall;)V" } : Jvm.MethodName)) ∈ TG := tg_in 1005 (by decide +kernel) rfl
theorem w_1006 : (Jvm.Cond.selects "LostPlaces$Hall" ({ cls := "LostPlaces$Hall", name := "copyFrom", desc := "(LLostPlaces$Hall;)V" } : Jvm.MethodName) ({ cls := "LostPlaces$Hall", name := "copyFrom", desc := "(LLostPlaces$Hall;)V" } : Jvm.MethodName)) ∈ TG := tg_in 1006 (by decide +kernel) rfl
theorem w_1007 : (Jvm.Cond.code ({ cls := "LostPlaces$Hall", name := "copyFrom", desc := "(LLostPlaces$Hall;)V" } : Jvm.MethodName) prog_6_method_4_code (2 : Nat) (Option.none : Option Jvm.ClassFile.FieldType)) ∈ TG := tg_in 1007 (by decide +kernel) rfl
theorem w_1008 : (Jvm.Cond.methodLink "LostPlaces$Hall" (68 : Nat) ({ cls := "LostPlaces$Hall", name := "beginAs", desc := "(LLostPlaces$Hall;)V" } : Jvm.MethodName)) ∈ TG := tg_in 1008 (by decide +kernel) rfl
theorem w_1009 : (Jvm.Cond.instanceMethod ({ cls := "LostPlaces$Hall", name := "beginAs", desc := "(LLostPlaces$Hall;)V" } : Jvm.MethodName)) ∈ TG := tg_in 1009 (by decide +kernel) rfl
theorem w_1010 : (Jvm.Cond.selects "LostPlaces$Hall" ({ cls := "LostPlaces$Hall", name := "beginAs", desc := "(LLostPlaces$Hall;)V" } : Jvm.MethodName) ({ cls := "LostPlaces$Hall", name := "beginAs", desc := "(LLostPlaces$Hall;)V" } : Jvm.MethodName)) ∈ TG := tg_in 1010 (by decide +kernel) rfl
theorem w_1011 : (Jvm.Cond.code ({ cls := "LostPlaces$Hall", name := "beginAs", desc := "(LLostPlaces$Hall;)V" } : Jvm.MethodName) prog_6_method_3_code (2 : Nat) (Option.none : Option Jvm.ClassFile.FieldType)) ∈ TG := tg_in 1011 (by decide +kernel) rfl
theorem w_1012 : (Jvm.Cond.methodLink "LostPlaces$Hall" (62 : Nat) ({ cls := "java/lang/System", name := "arraycopy", desc := "(Ljava/lang/Object;ILjava/lang/Object;II)V" } : Jvm.MethodName)) ∈ TG := tg_in 1012 (by decide +kernel) rfl
theorem w_1013 : (Jvm.Cond.static ({ cls := "java/lang/System", name := "arraycopy", desc := "(Ljava/lang/Object;ILjava/lang/Object;II)V" } : Jvm.MethodName)) ∈ TG := tg_in 1013 (by decide +kernel) rfl
theorem w_1014 : (Jvm.Cond.native ({ cls := "java/lang/System", name := "arraycopy", desc := "(Ljava/lang/Object;ILjava/lang/Object;II)V" } : Jvm.MethodName)) ∈ TG := tg_in 1014 (by decide +kernel) rfl
theorem w_1015 : (Jvm.Cond.methodLink "LostPlaces" (253 : Nat) ({ cls := "LostPlaces$Hall", name := "getUp", desc := "(IIZ)V" } : Jvm.MethodName)) ∈ TG := tg_in 1015 (by decide +kernel) rfl
theorem w_1016 : (Jvm.Cond.instanceMethod ({ cls := "LostPlaces$Hall", name := "getUp", desc := "(IIZ)V" } : Jvm.MethodName)) ∈ TG := tg_in 1016 (by decide +kernel) rfl
theorem w_1017 : (Jvm.Cond.selects "LostPlaces$Hall" ({ cls := "LostPlaces$Hall", name := "getUp", desc := "(IIZ)V" } : Jvm.MethodName) ({ cls := "LostPlaces$Hall", name := "getUp", desc := "(IIZ)V" } : Jvm.MethodName)) ∈ TG := tg_in 1017 (by decide +kernel) rfl
theorem w_1018 : (Jvm.Cond.code ({ cls := "LostPlaces$Hall", name := "getUp", desc := "(IIZ)V" } : Jvm.MethodName) prog_6_method_10_code (5 : Nat) (Option.none : Option Jvm.ClassFile.FieldType)) ∈ TG := tg_in 1018 (by decide +kernel) rfl
theorem w_1019 : (Jvm.Cond.methodLink "LostPlaces$Hall" (76 : Nat) ({ cls := "LostPlaces$Hall", name := "isSitter", desc := "(I)Z" } : Jvm.MethodName)) ∈ TG := tg_in 1019 (by decide +kernel) rfl
theorem w_1020 : (Jvm.Cond.static ({ cls := "LostPlaces$Hall", name := "isSitter", desc := "(I)Z" } : Jvm.MethodName)) ∈ TG := tg_in 1020 (by decide +kernel) rfl
theorem w_1021 : (Jvm.Cond.code ({ cls := "LostPlaces$Hall", name := "isSitter", desc := "(I)Z" } : Jvm.MethodName) prog_6_method_6_code (1 : Nat) (Option.some Jvm.ClassFile.FieldType.boolean)) ∈ TG := tg_in 1021 (by decide +kernel) rfl
theorem w_1022 : (Jvm.Cond.methodLink "LostPlaces$Hall" (72 : Nat) ({ cls := "LostPlaces$Hall", name := "isSeat", desc := "(I)Z" } : Jvm.MethodName)) ∈ TG := tg_in 1022 (by decide +kernel) rfl
theorem w_1023 : (Jvm.Cond.static ({ cls := "LostPlaces$Hall", name := "isSeat", desc := "(I)Z" } : Jvm.MethodName)) ∈ TG := tg_in 1023 (by decide +kernel) rfl
theorem w_1024 : (Jvm.Cond.code ({ cls := "LostPlaces$Hall", name := "isSeat", desc := "(I)Z" } : Jvm.MethodName) prog_6_method_7_code (1 : Nat) (Option.some Jvm.ClassFile.FieldType.boolean)) ∈ TG := tg_in 1024 (by decide +kernel) rfl
theorem w_1033 : (Jvm.Cond.methodLink "LostPlaces" (257 : Nat) ({ cls := "LostPlaces$Hall", name := "change", desc := "(II)V" } : Jvm.MethodName)) ∈ TG := tg_in 1033 (by decide +kernel) rfl
theorem w_1034 : (Jvm.Cond.instanceMethod ({ cls := "LostPlaces$Hall", name := "change", desc := "(II)V" } : Jvm.MethodName)) ∈ TG := tg_in 1034 (by decide +kernel) rfl
theorem w_1035 : (Jvm.Cond.selects "LostPlaces$Hall" ({ cls := "LostPlaces$Hall", name := "change", desc := "(II)V" } : Jvm.MethodName) ({ cls := "LostPlaces$Hall", name := "change", desc := "(II)V" } : Jvm.MethodName)) ∈ TG := tg_in 1035 (by decide +kernel) rfl
theorem w_1036 : (Jvm.Cond.code ({ cls := "LostPlaces$Hall", name := "change", desc := "(II)V" } : Jvm.MethodName) prog_6_method_11_code (5 : Nat) (Option.none : Option Jvm.ClassFile.FieldType)) ∈ TG := tg_in 1036 (by decide +kernel) rfl
theorem w_1041 : (Jvm.Cond.methodLink "LostPlaces" (261 : Nat) ({ cls := "LostPlaces$Evening", name := "pass", desc := "(LLostPlaces$Hall;)V" } : Jvm.MethodName)) ∈ TG := tg_in 1041 (by decide +kernel) rfl
theorem w_1042 : (Jvm.Cond.instanceMethod ({ cls := "LostPlaces$Evening", name := "pass", desc := "(LLostPlaces$Hall;)V" } : Jvm.MethodName)) ∈ TG := tg_in 1042 (by decide +kernel) rfl
theorem w_1043 : (Jvm.Cond.selects "LostPlaces$Evening" ({ cls := "LostPlaces$Evening", name := "pass", desc := "(LLostPlaces$Hall;)V" } : Jvm.MethodName) ({ cls := "LostPlaces$Evening", name := "pass", desc := "(LLostPlaces$Hall;)V" } : Jvm.MethodName)) ∈ TG := tg_in 1043 (by decide +kernel) rfl
theorem w_1044 : (Jvm.Cond.code ({ cls := "LostPlaces$Evening", name := "pass", desc := "(LLostPlaces$Hall;)V" } : Jvm.MethodName) prog_3_method_8_code (3 : Nat) (Option.none : Option Jvm.ClassFile.FieldType)) ∈ TG := tg_in 1044 (by decide +kernel) rfl
theorem w_1045 : (Jvm.Cond.methodLink "LostPlaces$Evening" (77 : Nat) ({ cls := "LostPlaces$Likings", name := "row", desc := "(I)I" } : Jvm.MethodName)) ∈ TG := tg_in 1045 (by decide +kernel) rfl
theorem w_1046 : (Jvm.Cond.methodLink "LostPlaces$Evening" (82 : Nat) ({ cls := "LostPlaces$Evening", name := "release", desc := "(LLostPlaces$Hall;)V" } : Jvm.MethodName)) ∈ TG := tg_in 1046 (by decide +kernel) rfl
theorem w_1048 : (Jvm.Cond.instanceMethod ({ cls := "LostPlaces$Evening", name := "release", desc := "(LLostPlaces$Hall;)V" } : Jvm.MethodName)) ∈ TG := tg_in 1048 (by decide +kernel) rfl
theorem w_1049 : (Jvm.Cond.code ({ cls := "LostPlaces$Evening", name := "release", desc := "(LLostPlaces$Hall;)V" } : Jvm.MethodName) prog_3_method_12_code (3 : Nat) (Option.none : Option Jvm.ClassFile.FieldType)) ∈ TG := tg_in 1049 (by decide +kernel) rfl
theorem w_1050 : (Jvm.Cond.methodLink "LostPlaces$Evening" (130 : Nat) ({ cls := "LostPlaces$Hall", name := "release", desc := "(I)V" } : Jvm.MethodName)) ∈ TG := tg_in 1050 (by decide +kernel) rfl
theorem w_1051 : (Jvm.Cond.instanceMethod ({ cls := "LostPlaces$Hall", name := "release", desc := "(I)V" } : Jvm.MethodName)) ∈ TG := tg_in 1051 (by decide +kernel) rfl
theorem w_1052 : (Jvm.Cond.selects "LostPlaces$Hall" ({ cls := "LostPlaces$Hall", name := "release", desc := "(I)V" } : Jvm.MethodName) ({ cls := "LostPlaces$Hall", name := "release", desc := "(I)V" } : Jvm.MethodName)) ∈ TG := tg_in 1052 (by decide +kernel) rfl
theorem w_1053 : (Jvm.Cond.code ({ cls := "LostPlaces$Hall", name := "release", desc := "(I)V" } : Jvm.MethodName) prog_6_method_13_code (2 : Nat) (Option.none : Option Jvm.ClassFile.FieldType)) ∈ TG := tg_in 1053 (by decide +kernel) rfl
theorem w_1054 : (Jvm.Cond.methodLink "LostPlaces$Evening" (85 : Nat) ({ cls := "LostPlaces$Evening", name := "sendOut", desc := "(LLostPlaces$Hall;)V" } : Jvm.MethodName)) ∈ TG := tg_in 1054 (by decide +kernel) rfl
theorem w_1056 : (Jvm.Cond.instanceMethod ({ cls := "LostPlaces$Evening", name := "sendOut", desc := "(LLostPlaces$Hall;)V" } : Jvm.MethodName)) ∈ TG := tg_in 1056 (by decide +kernel) rfl
theorem w_1057 : (Jvm.Cond.code ({ cls := "LostPlaces$Evening", name := "sendOut", desc := "(LLostPlaces$Hall;)V" } : Jvm.MethodName) prog_3_method_13_code (4 : Nat) (Option.none : Option Jvm.ClassFile.FieldType)) ∈ TG := tg_in 1057 (by decide +kernel) rfl
theorem w_1058 : (Jvm.Cond.methodLink "LostPlaces$Evening" (136 : Nat) ({ cls := "LostPlaces$Evening", name := "isHere", desc := "(LLostPlaces$Hall;I)Z" } : Jvm.MethodName)) ∈ TG := tg_in 1058 (by decide +kernel) rfl
theorem w_1060 : (Jvm.Cond.instanceMethod ({ cls := "LostPlaces$Evening", name := "isHere", desc := "(LLostPlaces$Hall;I)Z" } : Jvm.MethodName)) ∈ TG := tg_in 1060 (by decide +kernel) rfl
theorem w_1061 : (Jvm.Cond.code ({ cls := "LostPlaces$Evening", name := "isHere", desc := "(LLostPlaces$Hall;I)Z" } : Jvm.MethodName) prog_3_method_14_code (3 : Nat) (Option.some Jvm.ClassFile.FieldType.boolean)) ∈ TG := tg_in 1061 (by decide +kernel) rfl
theorem w_1062 : (Jvm.Cond.methodLink "LostPlaces$Evening" (55 : Nat) ({ cls := "LostPlaces$Hall", name := "getUp", desc := "(IIZ)V" } : Jvm.MethodName)) ∈ TG := tg_in 1062 (by decide +kernel) rfl
theorem w_1063 : (Jvm.Cond.methodLink "LostPlaces$Evening" (88 : Nat) ({ cls := "LostPlaces$Evening", name := "takeBack", desc := "(LLostPlaces$Hall;I)V" } : Jvm.MethodName)) ∈ TG := tg_in 1063 (by decide +kernel) rfl
theorem w_1065 : (Jvm.Cond.instanceMethod ({ cls := "LostPlaces$Evening", name := "takeBack", desc := "(LLostPlaces$Hall;I)V" } : Jvm.MethodName)) ∈ TG := tg_in 1065 (by decide +kernel) rfl
theorem w_1066 : (Jvm.Cond.code ({ cls := "LostPlaces$Evening", name := "takeBack", desc := "(LLostPlaces$Hall;I)V" } : Jvm.MethodName) prog_3_method_15_code (7 : Nat) (Option.none : Option Jvm.ClassFile.FieldType)) ∈ TG := tg_in 1066 (by decide +kernel) rfl
theorem w_1067 : (Jvm.Cond.methodLink "LostPlaces$Evening" (146 : Nat) ({ cls := "LostPlaces$Evening", name := "placeFor", desc := "(LLostPlaces$Hall;II)I" } : Jvm.MethodName)) ∈ TG := tg_in 1067 (by decide +kernel) rfl
theorem w_1069 : (Jvm.Cond.instanceMethod ({ cls := "LostPlaces$Evening", name := "placeFor", desc := "(LLostPlaces$Hall;II)I" } : Jvm.MethodName)) ∈ TG := tg_in 1069 (by decide +kernel) rfl
theorem w_1070 : (Jvm.Cond.code ({ cls := "LostPlaces$Evening", name := "placeFor", desc := "(LLostPlaces$Hall;II)I" } : Jvm.MethodName) prog_3_method_16_code (8 : Nat) (Option.some Jvm.ClassFile.FieldType.int)) ∈ TG := tg_in 1070 (by decide +kernel) rfl
theorem w_1071 : (Jvm.Cond.methodLink "LostPlaces$Evening" (97 : Nat) ({ cls := "LostPlaces$Likings", name := "at", desc := "(III)I" } : Jvm.MethodName)) ∈ TG := tg_in 1071 (by decide +kernel) rfl
theorem w_1072 : (Jvm.Cond.methodLink "LostPlaces$Evening" (154 : Nat) ({ cls := "LostPlaces$Hall", name := "isFree", desc := "(I)Z" } : Jvm.MethodName)) ∈ TG := tg_in 1072 (by decide +kernel) rfl
theorem w_1073 : (Jvm.Cond.instanceMethod ({ cls := "LostPlaces$Hall", name := "isFree", desc := "(I)Z" } : Jvm.MethodName)) ∈ TG := tg_in 1073 (by decide +kernel) rfl
theorem w_1074 : (Jvm.Cond.selects "LostPlaces$Hall" ({ cls := "LostPlaces$Hall", name := "isFree", desc := "(I)Z" } : Jvm.MethodName) ({ cls := "LostPlaces$Hall", name := "isFree", desc := "(I)Z" } : Jvm.MethodName)) ∈ TG := tg_in 1074 (by decide +kernel) rfl
theorem w_1075 : (Jvm.Cond.code ({ cls := "LostPlaces$Hall", name := "isFree", desc := "(I)Z" } : Jvm.MethodName) prog_6_method_12_code (2 : Nat) (Option.some Jvm.ClassFile.FieldType.boolean)) ∈ TG := tg_in 1075 (by decide +kernel) rfl
theorem w_1076 : (Jvm.Cond.methodLink "LostPlaces$Evening" (150 : Nat) ({ cls := "LostPlaces$Hall", name := "put", desc := "(II)V" } : Jvm.MethodName)) ∈ TG := tg_in 1076 (by decide +kernel) rfl
theorem w_1077 : (Jvm.Cond.methodLink "LostPlaces$Evening" (91 : Nat) ({ cls := "LostPlaces$Evening", name := "moveUp", desc := "(LLostPlaces$Hall;I)I" } : Jvm.MethodName)) ∈ TG := tg_in 1077 (by decide +kernel) rfl
theorem w_1078 : (Jvm.Cond.instanceMethod ({ cls := "LostPlaces$Evening", name := "moveUp", desc := "(LLostPlaces$Hall;I)I" } : Jvm.MethodName)) ∈ TG := tg_in 1078 (by decide +kernel) rfl
theorem w_1079 : (Jvm.Cond.selects "LostPlaces$Evening" ({ cls := "LostPlaces$Evening", name := "moveUp", desc := "(LLostPlaces$Hall;I)I" } : Jvm.MethodName) ({ cls := "LostPlaces$Evening", name := "moveUp", desc := "(LLostPlaces$Hall;I)I" } : Jvm.MethodName)) ∈ TG := tg_in 1079 (by decide +kernel) rfl
theorem w_1080 : (Jvm.Cond.code ({ cls := "LostPlaces$Evening", name := "moveUp", desc := "(LLostPlaces$Hall;I)I" } : Jvm.MethodName) prog_3_method_17_code (10 : Nat) (Option.some Jvm.ClassFile.FieldType.int)) ∈ TG := tg_in 1080 (by decide +kernel) rfl
theorem w_1081 : (Jvm.Cond.methodLink "LostPlaces$Evening" (104 : Nat) ({ cls := "LostPlaces$Likings", name := "mark", desc := "(I)I" } : Jvm.MethodName)) ∈ TG := tg_in 1081 (by decide +kernel) rfl
theorem w_1082 : (Jvm.Cond.instanceMethod ({ cls := "LostPlaces$Likings", name := "mark", desc := "(I)I" } : Jvm.MethodName)) ∈ TG := tg_in 1082 (by decide +kernel) rfl
theorem w_1083 : (Jvm.Cond.selects "LostPlaces$Likings" ({ cls := "LostPlaces$Likings", name := "mark", desc := "(I)I" } : Jvm.MethodName) ({ cls := "LostPlaces$Likings", name := "mark", desc := "(I)I" } : Jvm.MethodName)) ∈ TG := tg_in 1083 (by decide +kernel) rfl
theorem w_1084 : (Jvm.Cond.code ({ cls := "LostPlaces$Likings", name := "mark", desc := "(I)I" } : Jvm.MethodName) prog_7_method_7_code (2 : Nat) (Option.some Jvm.ClassFile.FieldType.int)) ∈ TG := tg_in 1084 (by decide +kernel) rfl
theorem w_1085 : (Jvm.Cond.methodLink "LostPlaces$Evening" (164 : Nat) ({ cls := "LostPlaces$Evening", name := "takerOf", desc := "(LLostPlaces$Hall;II)I" } : Jvm.MethodName)) ∈ TG := tg_in 1085 (by decide +kernel) rfl
theorem w_1087 : (Jvm.Cond.instanceMethod ({ cls := "LostPlaces$Evening", name := "takerOf", desc := "(LLostPlaces$Hall;II)I" } : Jvm.MethodName)) ∈ TG := tg_in 1087 (by decide +kernel) rfl
theorem w_1088 : (Jvm.Cond.code ({ cls := "LostPlaces$Evening", name := "takerOf", desc := "(LLostPlaces$Hall;II)I" } : Jvm.MethodName) prog_3_method_18_code (10 : Nat) (Option.some Jvm.ClassFile.FieldType.int)) ∈ TG := tg_in 1088 (by decide +kernel) rfl
theorem w_1089 : (Jvm.Cond.methodLink "LostPlaces$Evening" (172 : Nat) ({ cls := "LostPlaces$Evening", name := "wayTo", desc := "(II)I" } : Jvm.MethodName)) ∈ TG := tg_in 1089 (by decide +kernel) rfl
theorem w_1091 : (Jvm.Cond.instanceMethod ({ cls := "LostPlaces$Evening", name := "wayTo", desc := "(II)I" } : Jvm.MethodName)) ∈ TG := tg_in 1091 (by decide +kernel) rfl
theorem w_1092 : (Jvm.Cond.code ({ cls := "LostPlaces$Evening", name := "wayTo", desc := "(II)I" } : Jvm.MethodName) prog_3_method_19_code (4 : Nat) (Option.some Jvm.ClassFile.FieldType.int)) ∈ TG := tg_in 1092 (by decide +kernel) rfl
theorem w_1093 : (Jvm.Cond.methodLink "LostPlaces$Evening" (167 : Nat) ({ cls := "LostPlaces$Hall", name := "moveUp", desc := "(II)V" } : Jvm.MethodName)) ∈ TG := tg_in 1093 (by decide +kernel) rfl
theorem w_1094 : (Jvm.Cond.instanceMethod ({ cls := "LostPlaces$Hall", name := "moveUp", desc := "(II)V" } : Jvm.MethodName)) ∈ TG := tg_in 1094 (by decide +kernel) rfl
theorem w_1095 : (Jvm.Cond.selects "LostPlaces$Hall" ({ cls := "LostPlaces$Hall", name := "moveUp", desc := "(II)V" } : Jvm.MethodName) ({ cls := "LostPlaces$Hall", name := "moveUp", desc := "(II)V" } : Jvm.MethodName)) ∈ TG := tg_in 1095 (by decide +kernel) rfl
theorem w_1096 : (Jvm.Cond.code ({ cls := "LostPlaces$Hall", name := "moveUp", desc := "(II)V" } : Jvm.MethodName) prog_6_method_14_code (4 : Nat) (Option.none : Option Jvm.ClassFile.FieldType)) ∈ TG := tg_in 1096 (by decide +kernel) rfl
theorem w_1097 : (Jvm.Cond.methodLink "LostPlaces$Evening" (73 : Nat) ({ cls := "LostPlaces$Evening", name := "enjoy", desc := "(LLostPlaces$Hall;I)V" } : Jvm.MethodName)) ∈ TG := tg_in 1097 (by decide +kernel) rfl
theorem w_1099 : (Jvm.Cond.instanceMethod ({ cls := "LostPlaces$Evening", name := "enjoy", desc := "(LLostPlaces$Hall;I)V" } : Jvm.MethodName)) ∈ TG := tg_in 1099 (by decide +kernel) rfl
theorem w_1100 : (Jvm.Cond.code ({ cls := "LostPlaces$Evening", name := "enjoy", desc := "(LLostPlaces$Hall;I)V" } : Jvm.MethodName) prog_3_method_9_code (6 : Nat) (Option.none : Option Jvm.ClassFile.FieldType)) ∈ TG := tg_in 1100 (by decide +kernel) rfl
theorem w_1105 : (Jvm.Cond.methodLink "LostPlaces" (265 : Nat) ({ cls := "LostPlaces$Evening", name := "seed", desc := "(J)V" } : Jvm.MethodName)) ∈ TG := tg_in 1105 (by decide +kernel) rfl
theorem w_1106 : (Jvm.Cond.instanceMethod ({ cls := "LostPlaces$Evening", name := "seed", desc := "(J)V" } : Jvm.MethodName)) ∈ TG := tg_in 1106 (by decide +kernel) rfl
theorem w_1107 : (Jvm.Cond.selects "LostPlaces$Evening" ({ cls := "LostPlaces$Evening", name := "seed", desc := "(J)V" } : Jvm.MethodName) ({ cls := "LostPlaces$Evening", name := "seed", desc := "(J)V" } : Jvm.MethodName)) ∈ TG := tg_in 1107 (by decide +kernel) rfl
theorem w_1108 : (Jvm.Cond.code ({ cls := "LostPlaces$Evening", name := "seed", desc := "(J)V" } : Jvm.MethodName) prog_3_method_4_code (3 : Nat) (Option.none : Option Jvm.ClassFile.FieldType)) ∈ TG := tg_in 1108 (by decide +kernel) rfl
theorem w_1109 : (Jvm.Cond.methodLink "LostPlaces" (269 : Nat) ({ cls := "LostPlaces$Evening", name := "stir", desc := "(LLostPlaces$Hall;I)V" } : Jvm.MethodName)) ∈ TG := tg_in 1109 (by decide +kernel) rfl
theorem w_1110 : (Jvm.Cond.instanceMethod ({ cls := "LostPlaces$Evening", name := "stir", desc := "(LLostPlaces$Hall;I)V" } : Jvm.MethodName)) ∈ TG := tg_in 1110 (by decide +kernel) rfl
theorem w_1111 : (Jvm.Cond.selects "LostPlaces$Evening" ({ cls := "LostPlaces$Evening", name := "stir", desc := "(LLostPlaces$Hall;I)V" } : Jvm.MethodName) ({ cls := "LostPlaces$Evening", name := "stir", desc := "(LLostPlaces$Hall;I)V" } : Jvm.MethodName)) ∈ TG := tg_in 1111 (by decide +kernel) rfl
theorem w_1112 : (Jvm.Cond.code ({ cls := "LostPlaces$Evening", name := "stir", desc := "(LLostPlaces$Hall;I)V" } : Jvm.MethodName) prog_3_method_6_code (4 : Nat) (Option.none : Option Jvm.ClassFile.FieldType)) ∈ TG := tg_in 1112 (by decide +kernel) rfl
theorem w_1113 : (Jvm.Cond.methodLink "LostPlaces$Evening" (51 : Nat) ({ cls := "LostPlaces$Evening", name := "draw", desc := "(I)I" } : Jvm.MethodName)) ∈ TG := tg_in 1113 (by decide +kernel) rfl
theorem w_1115 : (Jvm.Cond.instanceMethod ({ cls := "LostPlaces$Evening", name := "draw", desc := "(I)I" } : Jvm.MethodName)) ∈ TG := tg_in 1115 (by decide +kernel) rfl
theorem w_1116 : (Jvm.Cond.code ({ cls := "LostPlaces$Evening", name := "draw", desc := "(I)I" } : Jvm.MethodName) prog_3_method_5_code (2 : Nat) (Option.some Jvm.ClassFile.FieldType.int)) ∈ TG := tg_in 1116 (by decide +kernel) rfl
theorem w_1117 : (Jvm.Cond.constantLong "LostPlaces$Evening" (36 : Nat) (6364136223846793005 : Int64)) ∈ TG := tg_in 1117 (by decide +kernel) rfl
theorem w_1118 : (Jvm.Cond.constantLong "LostPlaces$Evening" (38 : Nat) (1442695040888963407 : Int64)) ∈ TG := tg_in 1118 (by decide +kernel) rfl
theorem w_1127 : (Jvm.Cond.methodLink "LostPlaces" (276 : Nat) ({ cls := "LostPlaces$Hall", name := "logged", desc := "()I" } : Jvm.MethodName)) ∈ TG := tg_in 1127 (by decide +kernel) rfl
theorem w_1128 : (Jvm.Cond.instanceMethod ({ cls := "LostPlaces$Hall", name := "logged", desc := "()I" } : Jvm.MethodName)) ∈ TG := tg_in 1128 (by decide +kernel) rfl
theorem w_1129 : (Jvm.Cond.selects "LostPlaces$Hall" ({ cls := "LostPlaces$Hall", name := "logged", desc := "()I" } : Jvm.MethodName) ({ cls := "LostPlaces$Hall", name := "logged", desc := "()I" } : Jvm.MethodName)) ∈ TG := tg_in 1129 (by decide +kernel) rfl
theorem w_1130 : (Jvm.Cond.code ({ cls := "LostPlaces$Hall", name := "logged", desc := "()I" } : Jvm.MethodName) prog_6_method_15_code (1 : Nat) (Option.some Jvm.ClassFile.FieldType.int)) ∈ TG := tg_in 1130 (by decide +kernel) rfl
theorem w_1131 : (Jvm.Cond.methodLink "LostPlaces" (279 : Nat) ({ cls := "LostPlaces$Hall", name := "entry", desc := "(II)I" } : Jvm.MethodName)) ∈ TG := tg_in 1131 (by decide +kernel) rfl
theorem w_1132 : (Jvm.Cond.instanceMethod ({ cls := "LostPlaces$Hall", name := "entry", desc := "(II)I" } : Jvm.MethodName)) ∈ TG := tg_in 1132 (by decide +kernel) rfl
theorem w_1133 : (Jvm.Cond.selects "LostPlaces$Hall" ({ cls := "LostPlaces$Hall", name := "entry", desc := "(II)I" } : Jvm.MethodName) ({ cls := "LostPlaces$Hall", name := "entry", desc := "(II)I" } : Jvm.MethodName)) ∈ TG := tg_in 1133 (by decide +kernel) rfl
theorem w_1134 : (Jvm.Cond.code ({ cls := "LostPlaces$Hall", name := "entry", desc := "(II)I" } : Jvm.MethodName) prog_6_method_16_code (4 : Nat) (Option.some Jvm.ClassFile.FieldType.int)) ∈ TG := tg_in 1134 (by decide +kernel) rfl
theorem w_1135 : (Jvm.Cond.constant "LostPlaces$Hall" (79 : Nat) (-1000000 : Int32)) ∈ TG := tg_in 1135 (by decide +kernel) rfl
theorem w_1148 : (Jvm.Cond.methodLink "LostPlaces" (283 : Nat) ({ cls := "LostPlaces", name := "isNoChoice", desc := "(I)Z" } : Jvm.MethodName)) ∈ TG := tg_in 1148 (by decide +kernel) rfl
theorem w_1149 : (Jvm.Cond.static ({ cls := "LostPlaces", name := "isNoChoice", desc := "(I)Z" } : Jvm.MethodName)) ∈ TG := tg_in 1149 (by decide +kernel) rfl
theorem w_1150 : (Jvm.Cond.code ({ cls := "LostPlaces", name := "isNoChoice", desc := "(I)Z" } : Jvm.MethodName) prog_1_method_38_code (1 : Nat) (Option.some Jvm.ClassFile.FieldType.boolean)) ∈ TG := tg_in 1150 (by decide +kernel) rfl
theorem w_1151 : (Jvm.Cond.methodLink "LostPlaces" (286 : Nat) ({ cls := "LostPlaces$Guess", name := "pass", desc := "(I)V" } : Jvm.MethodName)) ∈ TG := tg_in 1151 (by decide +kernel) rfl
theorem w_1152 : (Jvm.Cond.instanceMethod ({ cls := "LostPlaces$Guess", name := "pass", desc := "(I)V" } : Jvm.MethodName)) ∈ TG := tg_in 1152 (by decide +kernel) rfl
theorem w_1153 : (Jvm.Cond.selects "LostPlaces$Guess" ({ cls := "LostPlaces$Guess", name := "pass", desc := "(I)V" } : Jvm.MethodName) ({ cls := "LostPlaces$Guess", name := "pass", desc := "(I)V" } : Jvm.MethodName)) ∈ TG := tg_in 1153 (by decide +kernel) rfl
theorem w_1154 : (Jvm.Cond.code ({ cls := "LostPlaces$Guess", name := "pass", desc := "(I)V" } : Jvm.MethodName) prog_5_method_2_code (2 : Nat) (Option.none : Option Jvm.ClassFile.FieldType)) ∈ TG := tg_in 1154 (by decide +kernel) rfl
theorem w_1155 : (Jvm.Cond.methodLink "LostPlaces$Guess" (40 : Nat) ({ cls := "LostPlaces$Hall", name := "beginAs", desc := "(LLostPlaces$Hall;)V" } : Jvm.MethodName)) ∈ TG := tg_in 1155 (by decide +kernel) rfl
theorem w_1156 : (Jvm.Cond.methodLink "LostPlaces$Guess" (47 : Nat) ({ cls := "LostPlaces$Evening", name := "run", desc := "(LLostPlaces$Hall;I)V" } : Jvm.MethodName)) ∈ TG := tg_in 1156 (by decide +kernel) rfl
theorem w_1157 : (Jvm.Cond.instanceMethod ({ cls := "LostPlaces$Evening", name := "run", desc := "(LLostPlaces$Hall;I)V" } : Jvm.MethodName)) ∈ TG := tg_in 1157 (by decide +kernel) rfl
theorem w_1158 : (Jvm.Cond.selects "LostPlaces$Evening" ({ cls := "LostPlaces$Evening", name := "run", desc := "(LLostPlaces$Hall;I)V" } : Jvm.MethodName) ({ cls := "LostPlaces$Evening", name := "run", desc := "(LLostPlaces$Hall;I)V" } : Jvm.MethodName)) ∈ TG := tg_in 1158 (by decide +kernel) rfl
theorem w_1159 : (Jvm.Cond.code ({ cls := "LostPlaces$Evening", name := "run", desc := "(LLostPlaces$Hall;I)V" } : Jvm.MethodName) prog_3_method_7_code (6 : Nat) (Option.none : Option Jvm.ClassFile.FieldType)) ∈ TG := tg_in 1159 (by decide +kernel) rfl
theorem w_1160 : (Jvm.Cond.methodLink "LostPlaces$Evening" (65 : Nat) ({ cls := "LostPlaces$Evening", name := "pass", desc := "(LLostPlaces$Hall;)V" } : Jvm.MethodName)) ∈ TG := tg_in 1160 (by decide +kernel) rfl
theorem w_1161 : (Jvm.Cond.methodLink "LostPlaces$Evening" (69 : Nat) ({ cls := "LostPlaces$Evening", name := "calmTill", desc := "(LLostPlaces$Hall;I)I" } : Jvm.MethodName)) ∈ TG := tg_in 1161 (by decide +kernel) rfl
theorem w_1163 : (Jvm.Cond.instanceMethod ({ cls := "LostPlaces$Evening", name := "calmTill", desc := "(LLostPlaces$Hall;I)I" } : Jvm.MethodName)) ∈ TG := tg_in 1163 (by decide +kernel) rfl
theorem w_1164 : (Jvm.Cond.code ({ cls := "LostPlaces$Evening", name := "calmTill", desc := "(LLostPlaces$Hall;I)I" } : Jvm.MethodName) prog_3_method_10_code (6 : Nat) (Option.some Jvm.ClassFile.FieldType.int)) ∈ TG := tg_in 1164 (by decide +kernel) rfl
theorem w_1165 : (Jvm.Cond.methodLink "LostPlaces$Evening" (107 : Nat) ({ cls := "LostPlaces$Likings", name := "till", desc := "(I)I" } : Jvm.MethodName)) ∈ TG := tg_in 1165 (by decide +kernel) rfl
theorem w_1166 : (Jvm.Cond.instanceMethod ({ cls := "LostPlaces$Likings", name := "till", desc := "(I)I" } : Jvm.MethodName)) ∈ TG := tg_in 1166 (by decide +kernel) rfl
theorem w_1167 : (Jvm.Cond.selects "LostPlaces$Likings" ({ cls := "LostPlaces$Likings", name := "till", desc := "(I)I" } : Jvm.MethodName) ({ cls := "LostPlaces$Likings", name := "till", desc := "(I)I" } : Jvm.MethodName)) ∈ TG := tg_in 1167 (by decide +kernel) rfl
theorem w_1168 : (Jvm.Cond.code ({ cls := "LostPlaces$Likings", name := "till", desc := "(I)I" } : Jvm.MethodName) prog_7_method_6_code (2 : Nat) (Option.some Jvm.ClassFile.FieldType.int)) ∈ TG := tg_in 1168 (by decide +kernel) rfl
theorem w_1169 : (Jvm.Cond.methodLink "LostPlaces$Evening" (110 : Nat) ({ cls := "LostPlaces$Evening", name := "earlier", desc := "(III)I" } : Jvm.MethodName)) ∈ TG := tg_in 1169 (by decide +kernel) rfl
theorem w_1170 : (Jvm.Cond.static ({ cls := "LostPlaces$Evening", name := "earlier", desc := "(III)I" } : Jvm.MethodName)) ∈ TG := tg_in 1170 (by decide +kernel) rfl
theorem w_1171 : (Jvm.Cond.code ({ cls := "LostPlaces$Evening", name := "earlier", desc := "(III)I" } : Jvm.MethodName) prog_3_method_11_code (3 : Nat) (Option.some Jvm.ClassFile.FieldType.int)) ∈ TG := tg_in 1171 (by decide +kernel) rfl
theorem w_1176 : (Jvm.Cond.methodLink "LostPlaces" (292 : Nat) ({ cls := "LostPlaces$Guess", name := "leave", desc := "(I)V" } : Jvm.MethodName)) ∈ TG := tg_in 1176 (by decide +kernel) rfl
theorem w_1177 : (Jvm.Cond.instanceMethod ({ cls := "LostPlaces$Guess", name := "leave", desc := "(I)V" } : Jvm.MethodName)) ∈ TG := tg_in 1177 (by decide +kernel) rfl
theorem w_1178 : (Jvm.Cond.selects "LostPlaces$Guess" ({ cls := "LostPlaces$Guess", name := "leave", desc := "(I)V" } : Jvm.MethodName) ({ cls := "LostPlaces$Guess", name := "leave", desc := "(I)V" } : Jvm.MethodName)) ∈ TG := tg_in 1178 (by decide +kernel) rfl
theorem w_1179 : (Jvm.Cond.code ({ cls := "LostPlaces$Guess", name := "leave", desc := "(I)V" } : Jvm.MethodName) prog_5_method_3_code (3 : Nat) (Option.none : Option Jvm.ClassFile.FieldType)) ∈ TG := tg_in 1179 (by decide +kernel) rfl
theorem w_1180 : (Jvm.Cond.methodLink "LostPlaces$Guess" (57 : Nat) ({ cls := "LostPlaces$Hall", name := "getUp", desc := "(IIZ)V" } : Jvm.MethodName)) ∈ TG := tg_in 1180 (by decide +kernel) rfl
theorem w_1181 : (Jvm.Cond.methodLink "LostPlaces$Guess" (61 : Nat) ({ cls := "LostPlaces$Likings", name := "row", desc := "(I)I" } : Jvm.MethodName)) ∈ TG := tg_in 1181 (by decide +kernel) rfl
theorem w_1182 : (Jvm.Cond.methodLink "LostPlaces$Guess" (67 : Nat) ({ cls := "LostPlaces$Evening", name := "moveUp", desc := "(LLostPlaces$Hall;I)I" } : Jvm.MethodName)) ∈ TG := tg_in 1182 (by decide +kernel) rfl
theorem w_1183 : (Jvm.Cond.methodLink "LostPlaces$Guess" (71 : Nat) ({ cls := "LostPlaces$Hall", name := "sitterOn", desc := "(I)I" } : Jvm.MethodName)) ∈ TG := tg_in 1183 (by decide +kernel) rfl
theorem w_1184 : (Jvm.Cond.instanceMethod ({ cls := "LostPlaces$Hall", name := "sitterOn", desc := "(I)I" } : Jvm.MethodName)) ∈ TG := tg_in 1184 (by decide +kernel) rfl
theorem w_1185 : (Jvm.Cond.selects "LostPlaces$Hall" ({ cls := "LostPlaces$Hall", name := "sitterOn", desc := "(I)I" } : Jvm.MethodName) ({ cls := "LostPlaces$Hall", name := "sitterOn", desc := "(I)I" } : Jvm.MethodName)) ∈ TG := tg_in 1185 (by decide +kernel) rfl
theorem w_1186 : (Jvm.Cond.code ({ cls := "LostPlaces$Hall", name := "sitterOn", desc := "(I)I" } : Jvm.MethodName) prog_6_method_8_code (2 : Nat) (Option.some Jvm.ClassFile.FieldType.int)) ∈ TG := tg_in 1186 (by decide +kernel) rfl
theorem w_1191 : (Jvm.Cond.methodLink "LostPlaces" (301 : Nat) ({ cls := "LostPlaces$Guess", name := "findMinute", desc := "(III)V" } : Jvm.MethodName)) ∈ TG := tg_in 1191 (by decide +kernel) rfl
theorem w_1192 : (Jvm.Cond.instanceMethod ({ cls := "LostPlaces$Guess", name := "findMinute", desc := "(III)V" } : Jvm.MethodName)) ∈ TG := tg_in 1192 (by decide +kernel) rfl
theorem w_1193 : (Jvm.Cond.selects "LostPlaces$Guess" ({ cls := "LostPlaces$Guess", name := "findMinute", desc := "(III)V" } : Jvm.MethodName) ({ cls := "LostPlaces$Guess", name := "findMinute", desc := "(III)V" } : Jvm.MethodName)) ∈ TG := tg_in 1193 (by decide +kernel) rfl
theorem w_1194 : (Jvm.Cond.code ({ cls := "LostPlaces$Guess", name := "findMinute", desc := "(III)V" } : Jvm.MethodName) prog_5_method_4_code (5 : Nat) (Option.none : Option Jvm.ClassFile.FieldType)) ∈ TG := tg_in 1194 (by decide +kernel) rfl
theorem w_1195 : (Jvm.Cond.methodLink "LostPlaces$Guess" (79 : Nat) ({ cls := "LostPlaces$Evening", name := "addGoing", desc := "(III)V" } : Jvm.MethodName)) ∈ TG := tg_in 1195 (by decide +kernel) rfl
theorem w_1196 : (Jvm.Cond.instanceMethod ({ cls := "LostPlaces$Evening", name := "addGoing", desc := "(III)V" } : Jvm.MethodName)) ∈ TG := tg_in 1196 (by decide +kernel) rfl
theorem w_1197 : (Jvm.Cond.selects "LostPlaces$Evening" ({ cls := "LostPlaces$Evening", name := "addGoing", desc := "(III)V" } : Jvm.MethodName) ({ cls := "LostPlaces$Evening", name := "addGoing", desc := "(III)V" } : Jvm.MethodName)) ∈ TG := tg_in 1197 (by decide +kernel) rfl
theorem w_1198 : (Jvm.Cond.code ({ cls := "LostPlaces$Evening", name := "addGoing", desc := "(III)V" } : Jvm.MethodName) prog_3_method_2_code (4 : Nat) (Option.none : Option Jvm.ClassFile.FieldType)) ∈ TG := tg_in 1198 (by decide +kernel) rfl
theorem w_1199 : (Jvm.Cond.methodLink "LostPlaces$Guess" (83 : Nat) ({ cls := "LostPlaces$Evening", name := "dropGoing", desc := "()V" } : Jvm.MethodName)) ∈ TG := tg_in 1199 (by decide +kernel) rfl
theorem w_1200 : (Jvm.Cond.instanceMethod ({ cls := "LostPlaces$Evening", name := "dropGoing", desc := "()V" } : Jvm.MethodName)) ∈ TG := tg_in 1200 (by decide +kernel) rfl
theorem w_1201 : (Jvm.Cond.selects "LostPlaces$Evening" ({ cls := "LostPlaces$Evening", name := "dropGoing", desc := "()V" } : Jvm.MethodName) ({ cls := "LostPlaces$Evening", name := "dropGoing", desc := "()V" } : Jvm.MethodName)) ∈ TG := tg_in 1201 (by decide +kernel) rfl
theorem w_1202 : (Jvm.Cond.code ({ cls := "LostPlaces$Evening", name := "dropGoing", desc := "()V" } : Jvm.MethodName) prog_3_method_3_code (1 : Nat) (Option.none : Option Jvm.ClassFile.FieldType)) ∈ TG := tg_in 1202 (by decide +kernel) rfl
theorem w_1203 : (Jvm.Cond.methodLink "LostPlaces$Guess" (89 : Nat) ({ cls := "LostPlaces$Guess", name := "offer", desc := "(IIZ)V" } : Jvm.MethodName)) ∈ TG := tg_in 1203 (by decide +kernel) rfl
theorem w_1205 : (Jvm.Cond.instanceMethod ({ cls := "LostPlaces$Guess", name := "offer", desc := "(IIZ)V" } : Jvm.MethodName)) ∈ TG := tg_in 1205 (by decide +kernel) rfl
theorem w_1206 : (Jvm.Cond.code ({ cls := "LostPlaces$Guess", name := "offer", desc := "(IIZ)V" } : Jvm.MethodName) prog_5_method_5_code (4 : Nat) (Option.none : Option Jvm.ClassFile.FieldType)) ∈ TG := tg_in 1206 (by decide +kernel) rfl
theorem w_1211 : (Jvm.Cond.methodLink "LostPlaces" (305 : Nat) ({ cls := "LostPlaces$Guess", name := "joyKeeping", desc := "(II)I" } : Jvm.MethodName)) ∈ TG := tg_in 1211 (by decide +kernel) rfl
theorem w_1212 : (Jvm.Cond.instanceMethod ({ cls := "LostPlaces$Guess", name := "joyKeeping", desc := "(II)I" } : Jvm.MethodName)) ∈ TG := tg_in 1212 (by decide +kernel) rfl
theorem w_1213 : (Jvm.Cond.selects "LostPlaces$Guess" ({ cls := "LostPlaces$Guess", name := "joyKeeping", desc := "(II)I" } : Jvm.MethodName) ({ cls := "LostPlaces$Guess", name := "joyKeeping", desc := "(II)I" } : Jvm.MethodName)) ∈ TG := tg_in 1213 (by decide +kernel) rfl
theorem w_1214 : (Jvm.Cond.code ({ cls := "LostPlaces$Guess", name := "joyKeeping", desc := "(II)I" } : Jvm.MethodName) prog_5_method_6_code (3 : Nat) (Option.some Jvm.ClassFile.FieldType.int)) ∈ TG := tg_in 1214 (by decide +kernel) rfl
theorem w_1219 : (Jvm.Cond.methodLink "LostPlaces" (308 : Nat) ({ cls := "LostPlaces$Guess", name := "findPlace", desc := "(I)V" } : Jvm.MethodName)) ∈ TG := tg_in 1219 (by decide +kernel) rfl
theorem w_1220 : (Jvm.Cond.instanceMethod ({ cls := "LostPlaces$Guess", name := "findPlace", desc := "(I)V" } : Jvm.MethodName)) ∈ TG := tg_in 1220 (by decide +kernel) rfl
theorem w_1221 : (Jvm.Cond.selects "LostPlaces$Guess" ({ cls := "LostPlaces$Guess", name := "findPlace", desc := "(I)V" } : Jvm.MethodName) ({ cls := "LostPlaces$Guess", name := "findPlace", desc := "(I)V" } : Jvm.MethodName)) ∈ TG := tg_in 1221 (by decide +kernel) rfl
theorem w_1222 : (Jvm.Cond.code ({ cls := "LostPlaces$Guess", name := "findPlace", desc := "(I)V" } : Jvm.MethodName) prog_5_method_7_code (3 : Nat) (Option.none : Option Jvm.ClassFile.FieldType)) ∈ TG := tg_in 1222 (by decide +kernel) rfl
theorem w_1223 : (Jvm.Cond.methodLink "LostPlaces$Guess" (98 : Nat) ({ cls := "LostPlaces$Hall", name := "isFree", desc := "(I)Z" } : Jvm.MethodName)) ∈ TG := tg_in 1223 (by decide +kernel) rfl
theorem w_1224 : (Jvm.Cond.methodLink "LostPlaces$Guess" (102 : Nat) ({ cls := "LostPlaces$Hall", name := "put", desc := "(II)V" } : Jvm.MethodName)) ∈ TG := tg_in 1224 (by decide +kernel) rfl
theorem w_1229 : (Jvm.Cond.methodLink "LostPlaces" (311 : Nat) ({ cls := "LostPlaces$Guess", name := "sureSeats", desc := "(I)I" } : Jvm.MethodName)) ∈ TG := tg_in 1229 (by decide +kernel) rfl
theorem w_1230 : (Jvm.Cond.instanceMethod ({ cls := "LostPlaces$Guess", name := "sureSeats", desc := "(I)I" } : Jvm.MethodName)) ∈ TG := tg_in 1230 (by decide +kernel) rfl
theorem w_1231 : (Jvm.Cond.selects "LostPlaces$Guess" ({ cls := "LostPlaces$Guess", name := "sureSeats", desc := "(I)I" } : Jvm.MethodName) ({ cls := "LostPlaces$Guess", name := "sureSeats", desc := "(I)I" } : Jvm.MethodName)) ∈ TG := tg_in 1231 (by decide +kernel) rfl
theorem w_1232 : (Jvm.Cond.code ({ cls := "LostPlaces$Guess", name := "sureSeats", desc := "(I)I" } : Jvm.MethodName) prog_5_method_8_code (5 : Nat) (Option.some Jvm.ClassFile.FieldType.int)) ∈ TG := tg_in 1232 (by decide +kernel) rfl
theorem w_1233 : (Jvm.Cond.methodLink "LostPlaces$Guess" (109 : Nat) ({ cls := "LostPlaces$Evening", name := "pass", desc := "(LLostPlaces$Hall;)V" } : Jvm.MethodName)) ∈ TG := tg_in 1233 (by decide +kernel) rfl
theorem w_1238 : (Jvm.Cond.methodLink "LostPlaces" (314 : Nat) ({ cls := "LostPlaces$Guess", name := "breakUp", desc := "()V" } : Jvm.MethodName)) ∈ TG := tg_in 1238 (by decide +kernel) rfl
theorem w_1239 : (Jvm.Cond.instanceMethod ({ cls := "LostPlaces$Guess", name := "breakUp", desc := "()V" } : Jvm.MethodName)) ∈ TG := tg_in 1239 (by decide +kernel) rfl
theorem w_1240 : (Jvm.Cond.selects "LostPlaces$Guess" ({ cls := "LostPlaces$Guess", name := "breakUp", desc := "()V" } : Jvm.MethodName) ({ cls := "LostPlaces$Guess", name := "breakUp", desc := "()V" } : Jvm.MethodName)) ∈ TG := tg_in 1240 (by decide +kernel) rfl
theorem w_1241 : (Jvm.Cond.code ({ cls := "LostPlaces$Guess", name := "breakUp", desc := "()V" } : Jvm.MethodName) prog_5_method_9_code (2 : Nat) (Option.none : Option Jvm.ClassFile.FieldType)) ∈ TG := tg_in 1241 (by decide +kernel) rfl
theorem w_1246 : (Jvm.Cond.methodLink "LostPlaces" (317 : Nat) ({ cls := "LostPlaces", name := "hasRoom", desc := "()Z" } : Jvm.MethodName)) ∈ TG := tg_in 1246 (by decide +kernel) rfl
theorem w_1248 : (Jvm.Cond.instanceMethod ({ cls := "LostPlaces", name := "hasRoom", desc := "()Z" } : Jvm.MethodName)) ∈ TG := tg_in 1248 (by decide +kernel) rfl
theorem w_1249 : (Jvm.Cond.code ({ cls := "LostPlaces", name := "hasRoom", desc := "()Z" } : Jvm.MethodName) prog_1_method_18_code (1 : Nat) (Option.some Jvm.ClassFile.FieldType.boolean)) ∈ TG := tg_in 1249 (by decide +kernel) rfl
theorem w_1250 : (Jvm.Cond.methodLink "LostPlaces" (321 : Nat) ({ cls := "LostPlaces$Guess", name := "findRule", desc := "()V" } : Jvm.MethodName)) ∈ TG := tg_in 1250 (by decide +kernel) rfl
theorem w_1251 : (Jvm.Cond.instanceMethod ({ cls := "LostPlaces$Guess", name := "findRule", desc := "()V" } : Jvm.MethodName)) ∈ TG := tg_in 1251 (by decide +kernel) rfl
theorem w_1252 : (Jvm.Cond.selects "LostPlaces$Guess" ({ cls := "LostPlaces$Guess", name := "findRule", desc := "()V" } : Jvm.MethodName) ({ cls := "LostPlaces$Guess", name := "findRule", desc := "()V" } : Jvm.MethodName)) ∈ TG := tg_in 1252 (by decide +kernel) rfl
theorem w_1253 : (Jvm.Cond.code ({ cls := "LostPlaces$Guess", name := "findRule", desc := "()V" } : Jvm.MethodName) prog_5_method_10_code (3 : Nat) (Option.none : Option Jvm.ClassFile.FieldType)) ∈ TG := tg_in 1253 (by decide +kernel) rfl
theorem w_1258 : (Jvm.Cond.methodLink "LostPlaces" (324 : Nat) ({ cls := "LostPlaces", name := "isGame", desc := "(I)Z" } : Jvm.MethodName)) ∈ TG := tg_in 1258 (by decide +kernel) rfl
theorem w_1260 : (Jvm.Cond.instanceMethod ({ cls := "LostPlaces", name := "isGame", desc := "(I)Z" } : Jvm.MethodName)) ∈ TG := tg_in 1260 (by decide +kernel) rfl
theorem w_1261 : (Jvm.Cond.code ({ cls := "LostPlaces", name := "isGame", desc := "(I)Z" } : Jvm.MethodName) prog_1_method_41_code (2 : Nat) (Option.some Jvm.ClassFile.FieldType.boolean)) ∈ TG := tg_in 1261 (by decide +kernel) rfl
theorem w_1262 : (Jvm.Cond.methodLink "LostPlaces" (339 : Nat) ({ cls := "LostPlaces$Game", name := "gather", desc := "()Z" } : Jvm.MethodName)) ∈ TG := tg_in 1262 (by decide +kernel) rfl
theorem w_1263 : (Jvm.Cond.instanceMethod ({ cls := "LostPlaces$Game", name := "gather", desc := "()Z" } : Jvm.MethodName)) ∈ TG := tg_in 1263 (by decide +kernel) rfl
theorem w_1264 : (Jvm.Cond.selects "LostPlaces$Game" ({ cls := "LostPlaces$Game", name := "gather", desc := "()Z" } : Jvm.MethodName) ({ cls := "LostPlaces$Game", name := "gather", desc := "()Z" } : Jvm.MethodName)) ∈ TG := tg_in 1264 (by decide +kernel) rfl
theorem w_1265 : (Jvm.Cond.code ({ cls := "LostPlaces$Game", name := "gather", desc := "()Z" } : Jvm.MethodName) prog_4_method_2_code (2 : Nat) (Option.some Jvm.ClassFile.FieldType.boolean)) ∈ TG := tg_in 1265 (by decide +kernel) rfl
theorem w_1266 : (Jvm.Cond.methodLink "LostPlaces" (327 : Nat) ({ cls := "LostPlaces$Game", name := "takeRow", desc := "(I)Z" } : Jvm.MethodName)) ∈ TG := tg_in 1266 (by decide +kernel) rfl
theorem w_1267 : (Jvm.Cond.instanceMethod ({ cls := "LostPlaces$Game", name := "takeRow", desc := "(I)Z" } : Jvm.MethodName)) ∈ TG := tg_in 1267 (by decide +kernel) rfl
theorem w_1268 : (Jvm.Cond.selects "LostPlaces$Game" ({ cls := "LostPlaces$Game", name := "takeRow", desc := "(I)Z" } : Jvm.MethodName) ({ cls := "LostPlaces$Game", name := "takeRow", desc := "(I)Z" } : Jvm.MethodName)) ∈ TG := tg_in 1268 (by decide +kernel) rfl
theorem w_1269 : (Jvm.Cond.code ({ cls := "LostPlaces$Game", name := "takeRow", desc := "(I)Z" } : Jvm.MethodName) prog_4_method_4_code (4 : Nat) (Option.some Jvm.ClassFile.FieldType.boolean)) ∈ TG := tg_in 1269 (by decide +kernel) rfl
theorem w_1270 : (Jvm.Cond.methodLink "LostPlaces" (330 : Nat) ({ cls := "LostPlaces$Game", name := "placeOf", desc := "(I)I" } : Jvm.MethodName)) ∈ TG := tg_in 1270 (by decide +kernel) rfl
theorem w_1271 : (Jvm.Cond.instanceMethod ({ cls := "LostPlaces$Game", name := "placeOf", desc := "(I)I" } : Jvm.MethodName)) ∈ TG := tg_in 1271 (by decide +kernel) rfl
theorem w_1272 : (Jvm.Cond.selects "LostPlaces$Game" ({ cls := "LostPlaces$Game", name := "placeOf", desc := "(I)I" } : Jvm.MethodName) ({ cls := "LostPlaces$Game", name := "placeOf", desc := "(I)I" } : Jvm.MethodName)) ∈ TG := tg_in 1272 (by decide +kernel) rfl
theorem w_1273 : (Jvm.Cond.code ({ cls := "LostPlaces$Game", name := "placeOf", desc := "(I)I" } : Jvm.MethodName) prog_4_method_3_code (3 : Nat) (Option.some Jvm.ClassFile.FieldType.int)) ∈ TG := tg_in 1273 (by decide +kernel) rfl
theorem w_1274 : (Jvm.Cond.methodLink "LostPlaces" (333 : Nat) ({ cls := "LostPlaces$Game", name := "gainNow", desc := "(II)I" } : Jvm.MethodName)) ∈ TG := tg_in 1274 (by decide +kernel) rfl
theorem w_1275 : (Jvm.Cond.instanceMethod ({ cls := "LostPlaces$Game", name := "gainNow", desc := "(II)I" } : Jvm.MethodName)) ∈ TG := tg_in 1275 (by decide +kernel) rfl
theorem w_1276 : (Jvm.Cond.selects "LostPlaces$Game" ({ cls := "LostPlaces$Game", name := "gainNow", desc := "(II)I" } : Jvm.MethodName) ({ cls := "LostPlaces$Game", name := "gainNow", desc := "(II)I" } : Jvm.MethodName)) ∈ TG := tg_in 1276 (by decide +kernel) rfl
theorem w_1277 : (Jvm.Cond.code ({ cls := "LostPlaces$Game", name := "gainNow", desc := "(II)I" } : Jvm.MethodName) prog_4_method_9_code (3 : Nat) (Option.some Jvm.ClassFile.FieldType.int)) ∈ TG := tg_in 1277 (by decide +kernel) rfl
theorem w_1278 : (Jvm.Cond.methodLink "LostPlaces$Game" (84 : Nat) ({ cls := "LostPlaces$Game", name := "outcome", desc := "()I" } : Jvm.MethodName)) ∈ TG := tg_in 1278 (by decide +kernel) rfl
theorem w_1280 : (Jvm.Cond.instanceMethod ({ cls := "LostPlaces$Game", name := "outcome", desc := "()I" } : Jvm.MethodName)) ∈ TG := tg_in 1280 (by decide +kernel) rfl
theorem w_1281 : (Jvm.Cond.code ({ cls := "LostPlaces$Game", name := "outcome", desc := "()I" } : Jvm.MethodName) prog_4_method_7_code (4 : Nat) (Option.some Jvm.ClassFile.FieldType.int)) ∈ TG := tg_in 1281 (by decide +kernel) rfl
theorem w_1282 : (Jvm.Cond.methodLink "LostPlaces$Game" (51 : Nat) ({ cls := "LostPlaces$Game", name := "least", desc := "()I" } : Jvm.MethodName)) ∈ TG := tg_in 1282 (by decide +kernel) rfl
theorem w_1284 : (Jvm.Cond.instanceMethod ({ cls := "LostPlaces$Game", name := "least", desc := "()I" } : Jvm.MethodName)) ∈ TG := tg_in 1284 (by decide +kernel) rfl
theorem w_1285 : (Jvm.Cond.code ({ cls := "LostPlaces$Game", name := "least", desc := "()I" } : Jvm.MethodName) prog_4_method_6_code (3 : Nat) (Option.some Jvm.ClassFile.FieldType.int)) ∈ TG := tg_in 1285 (by decide +kernel) rfl
theorem w_1286 : (Jvm.Cond.methodLink "LostPlaces$Game" (87 : Nat) ({ cls := "LostPlaces$Game", name := "tryOut", desc := "(I)V" } : Jvm.MethodName)) ∈ TG := tg_in 1286 (by decide +kernel) rfl
theorem w_1288 : (Jvm.Cond.instanceMethod ({ cls := "LostPlaces$Game", name := "tryOut", desc := "(I)V" } : Jvm.MethodName)) ∈ TG := tg_in 1288 (by decide +kernel) rfl
theorem w_1289 : (Jvm.Cond.code ({ cls := "LostPlaces$Game", name := "tryOut", desc := "(I)V" } : Jvm.MethodName) prog_4_method_8_code (3 : Nat) (Option.none : Option Jvm.ClassFile.FieldType)) ∈ TG := tg_in 1289 (by decide +kernel) rfl
theorem w_1290 : (Jvm.Cond.methodLink "LostPlaces$Game" (58 : Nat) ({ cls := "LostPlaces$Hall", name := "beginAs", desc := "(LLostPlaces$Hall;)V" } : Jvm.MethodName)) ∈ TG := tg_in 1290 (by decide +kernel) rfl
theorem w_1291 : (Jvm.Cond.methodLink "LostPlaces$Game" (65 : Nat) ({ cls := "LostPlaces$Evening", name := "addGoing", desc := "(III)V" } : Jvm.MethodName)) ∈ TG := tg_in 1291 (by decide +kernel) rfl
theorem w_1292 : (Jvm.Cond.methodLink "LostPlaces$Game" (74 : Nat) ({ cls := "LostPlaces$Evening", name := "run", desc := "(LLostPlaces$Hall;I)V" } : Jvm.MethodName)) ∈ TG := tg_in 1292 (by decide +kernel) rfl
theorem w_1293 : (Jvm.Cond.methodLink "LostPlaces$Game" (78 : Nat) ({ cls := "LostPlaces$Evening", name := "dropGoing", desc := "()V" } : Jvm.MethodName)) ∈ TG := tg_in 1293 (by decide +kernel) rfl
theorem w_1294 : (Jvm.Cond.methodLink "LostPlaces$Game" (91 : Nat) ({ cls := "LostPlaces$Game", name := "gain", desc := "(II)I" } : Jvm.MethodName)) ∈ TG := tg_in 1294 (by decide +kernel) rfl
theorem w_1296 : (Jvm.Cond.instanceMethod ({ cls := "LostPlaces$Game", name := "gain", desc := "(II)I" } : Jvm.MethodName)) ∈ TG := tg_in 1296 (by decide +kernel) rfl
theorem w_1297 : (Jvm.Cond.code ({ cls := "LostPlaces$Game", name := "gain", desc := "(II)I" } : Jvm.MethodName) prog_4_method_10_code (3 : Nat) (Option.some Jvm.ClassFile.FieldType.int)) ∈ TG := tg_in 1297 (by decide +kernel) rfl
theorem w_1302 : (Jvm.Cond.methodLink "LostPlaces" (336 : Nat) ({ cls := "LostPlaces$Game", name := "findRests", desc := "(II)I" } : Jvm.MethodName)) ∈ TG := tg_in 1302 (by decide +kernel) rfl
theorem w_1303 : (Jvm.Cond.instanceMethod ({ cls := "LostPlaces$Game", name := "findRests", desc := "(II)I" } : Jvm.MethodName)) ∈ TG := tg_in 1303 (by decide +kernel) rfl
theorem w_1304 : (Jvm.Cond.selects "LostPlaces$Game" ({ cls := "LostPlaces$Game", name := "findRests", desc := "(II)I" } : Jvm.MethodName) ({ cls := "LostPlaces$Game", name := "findRests", desc := "(II)I" } : Jvm.MethodName)) ∈ TG := tg_in 1304 (by decide +kernel) rfl
theorem w_1305 : (Jvm.Cond.code ({ cls := "LostPlaces$Game", name := "findRests", desc := "(II)I" } : Jvm.MethodName) prog_4_method_11_code (6 : Nat) (Option.some Jvm.ClassFile.FieldType.int)) ∈ TG := tg_in 1305 (by decide +kernel) rfl
theorem w_1306 : (Jvm.Cond.methodLink "LostPlaces$Game" (95 : Nat) ({ cls := "LostPlaces$Game", name := "isRest", desc := "(I)Z" } : Jvm.MethodName)) ∈ TG := tg_in 1306 (by decide +kernel) rfl
theorem w_1308 : (Jvm.Cond.instanceMethod ({ cls := "LostPlaces$Game", name := "isRest", desc := "(I)Z" } : Jvm.MethodName)) ∈ TG := tg_in 1308 (by decide +kernel) rfl
theorem w_1309 : (Jvm.Cond.code ({ cls := "LostPlaces$Game", name := "isRest", desc := "(I)Z" } : Jvm.MethodName) prog_4_method_13_code (7 : Nat) (Option.some Jvm.ClassFile.FieldType.boolean)) ∈ TG := tg_in 1309 (by decide +kernel) rfl
theorem w_1310 : (Jvm.Cond.methodLink "LostPlaces$Game" (99 : Nat) ({ cls := "LostPlaces$Game", name := "row", desc := "()I" } : Jvm.MethodName)) ∈ TG := tg_in 1310 (by decide +kernel) rfl
theorem w_1312 : (Jvm.Cond.instanceMethod ({ cls := "LostPlaces$Game", name := "row", desc := "()I" } : Jvm.MethodName)) ∈ TG := tg_in 1312 (by decide +kernel) rfl
theorem w_1313 : (Jvm.Cond.code ({ cls := "LostPlaces$Game", name := "row", desc := "()I" } : Jvm.MethodName) prog_4_method_5_code (3 : Nat) (Option.some Jvm.ClassFile.FieldType.int)) ∈ TG := tg_in 1313 (by decide +kernel) rfl
theorem w_1314 : (Jvm.Cond.methodLink "LostPlaces$Game" (102 : Nat) ({ cls := "LostPlaces$Game", name := "countUp", desc := "()Z" } : Jvm.MethodName)) ∈ TG := tg_in 1314 (by decide +kernel) rfl
theorem w_1316 : (Jvm.Cond.instanceMethod ({ cls := "LostPlaces$Game", name := "countUp", desc := "()Z" } : Jvm.MethodName)) ∈ TG := tg_in 1316 (by decide +kernel) rfl
theorem w_1317 : (Jvm.Cond.code ({ cls := "LostPlaces$Game", name := "countUp", desc := "()Z" } : Jvm.MethodName) prog_4_method_12_code (2 : Nat) (Option.some Jvm.ClassFile.FieldType.boolean)) ∈ TG := tg_in 1317 (by decide +kernel) rfl
theorem w_1322 : (Jvm.Cond.methodLink "LostPlaces" (342 : Nat) ({ cls := "LostPlaces$Branches", name := "findOrder", desc := "(I)V" } : Jvm.MethodName)) ∈ TG := tg_in 1322 (by decide +kernel) rfl
theorem w_1323 : (Jvm.Cond.instanceMethod ({ cls := "LostPlaces$Branches", name := "findOrder", desc := "(I)V" } : Jvm.MethodName)) ∈ TG := tg_in 1323 (by decide +kernel) rfl
theorem w_1324 : (Jvm.Cond.selects "LostPlaces$Branches" ({ cls := "LostPlaces$Branches", name := "findOrder", desc := "(I)V" } : Jvm.MethodName) ({ cls := "LostPlaces$Branches", name := "findOrder", desc := "(I)V" } : Jvm.MethodName)) ∈ TG := tg_in 1324 (by decide +kernel) rfl
theorem w_1325 : (Jvm.Cond.code ({ cls := "LostPlaces$Branches", name := "findOrder", desc := "(I)V" } : Jvm.MethodName) prog_2_method_2_code (2 : Nat) (Option.none : Option Jvm.ClassFile.FieldType)) ∈ TG := tg_in 1325 (by decide +kernel) rfl
theorem w_1326 : (Jvm.Cond.methodLink "LostPlaces$Branches" (73 : Nat) ({ cls := "LostPlaces$Hall", name := "beginAs", desc := "(LLostPlaces$Hall;)V" } : Jvm.MethodName)) ∈ TG := tg_in 1326 (by decide +kernel) rfl
theorem w_1327 : (Jvm.Cond.methodLink "LostPlaces$Branches" (77 : Nat) ({ cls := "LostPlaces$Branches", name := "order", desc := "(III)V" } : Jvm.MethodName)) ∈ TG := tg_in 1327 (by decide +kernel) rfl
theorem w_1329 : (Jvm.Cond.instanceMethod ({ cls := "LostPlaces$Branches", name := "order", desc := "(III)V" } : Jvm.MethodName)) ∈ TG := tg_in 1329 (by decide +kernel) rfl
theorem w_1330 : (Jvm.Cond.code ({ cls := "LostPlaces$Branches", name := "order", desc := "(III)V" } : Jvm.MethodName) prog_2_method_3_code (7 : Nat) (Option.none : Option Jvm.ClassFile.FieldType)) ∈ TG := tg_in 1330 (by decide +kernel) rfl
theorem w_1331 : (Jvm.Cond.methodLink "LostPlaces$Branches" (89 : Nat) ({ cls := "LostPlaces$Evening", name := "run", desc := "(LLostPlaces$Hall;I)V" } : Jvm.MethodName)) ∈ TG := tg_in 1331 (by decide +kernel) rfl
theorem w_1332 : (Jvm.Cond.methodLink "LostPlaces$Branches" (95 : Nat) ({ cls := "LostPlaces$Hall", name := "gap", desc := "(I)I" } : Jvm.MethodName)) ∈ TG := tg_in 1332 (by decide +kernel) rfl
theorem w_1333 : (Jvm.Cond.instanceMethod ({ cls := "LostPlaces$Hall", name := "gap", desc := "(I)I" } : Jvm.MethodName)) ∈ TG := tg_in 1333 (by decide +kernel) rfl
theorem w_1334 : (Jvm.Cond.selects "LostPlaces$Hall" ({ cls := "LostPlaces$Hall", name := "gap", desc := "(I)I" } : Jvm.MethodName) ({ cls := "LostPlaces$Hall", name := "gap", desc := "(I)I" } : Jvm.MethodName)) ∈ TG := tg_in 1334 (by decide +kernel) rfl
theorem w_1335 : (Jvm.Cond.code ({ cls := "LostPlaces$Hall", name := "gap", desc := "(I)I" } : Jvm.MethodName) prog_6_method_17_code (5 : Nat) (Option.some Jvm.ClassFile.FieldType.int)) ∈ TG := tg_in 1335 (by decide +kernel) rfl
theorem w_1336 : (Jvm.Cond.methodLink "LostPlaces$Branches" (102 : Nat) ({ cls := "LostPlaces$Evening", name := "addGoing", desc := "(III)V" } : Jvm.MethodName)) ∈ TG := tg_in 1336 (by decide +kernel) rfl
theorem w_1337 : (Jvm.Cond.methodLink "LostPlaces$Branches" (105 : Nat) ({ cls := "LostPlaces$Evening", name := "pass", desc := "(LLostPlaces$Hall;)V" } : Jvm.MethodName)) ∈ TG := tg_in 1337 (by decide +kernel) rfl
theorem w_1338 : (Jvm.Cond.methodLink "LostPlaces$Branches" (108 : Nat) ({ cls := "LostPlaces$Evening", name := "dropGoing", desc := "()V" } : Jvm.MethodName)) ∈ TG := tg_in 1338 (by decide +kernel) rfl
theorem w_1343 : (Jvm.Cond.methodLink "LostPlaces" (351 : Nat) ({ cls := "LostPlaces$Branches", name := "tell", desc := "(II)Z" } : Jvm.MethodName)) ∈ TG := tg_in 1343 (by decide +kernel) rfl
theorem w_1344 : (Jvm.Cond.instanceMethod ({ cls := "LostPlaces$Branches", name := "tell", desc := "(II)Z" } : Jvm.MethodName)) ∈ TG := tg_in 1344 (by decide +kernel) rfl
theorem w_1345 : (Jvm.Cond.selects "LostPlaces$Branches" ({ cls := "LostPlaces$Branches", name := "tell", desc := "(II)Z" } : Jvm.MethodName) ({ cls := "LostPlaces$Branches", name := "tell", desc := "(II)Z" } : Jvm.MethodName)) ∈ TG := tg_in 1345 (by decide +kernel) rfl
theorem w_1346 : (Jvm.Cond.code ({ cls := "LostPlaces$Branches", name := "tell", desc := "(II)Z" } : Jvm.MethodName) prog_2_method_4_code (3 : Nat) (Option.some Jvm.ClassFile.FieldType.boolean)) ∈ TG := tg_in 1346 (by decide +kernel) rfl
theorem w_1351 : (Jvm.Cond.methodLink "LostPlaces" (355 : Nat) ({ cls := "LostPlaces$Branches", name := "findSets", desc := "()V" } : Jvm.MethodName)) ∈ TG := tg_in 1351 (by decide +kernel) rfl
theorem w_1352 : (Jvm.Cond.instanceMethod ({ cls := "LostPlaces$Branches", name := "findSets", desc := "()V" } : Jvm.MethodName)) ∈ TG := tg_in 1352 (by decide +kernel) rfl
theorem w_1353 : (Jvm.Cond.selects "LostPlaces$Branches" ({ cls := "LostPlaces$Branches", name := "findSets", desc := "()V" } : Jvm.MethodName) ({ cls := "LostPlaces$Branches", name := "findSets", desc := "()V" } : Jvm.MethodName)) ∈ TG := tg_in 1353 (by decide +kernel) rfl
theorem w_1354 : (Jvm.Cond.code ({ cls := "LostPlaces$Branches", name := "findSets", desc := "()V" } : Jvm.MethodName) prog_2_method_6_code (3 : Nat) (Option.none : Option Jvm.ClassFile.FieldType)) ∈ TG := tg_in 1354 (by decide +kernel) rfl
theorem w_1355 : (Jvm.Cond.methodLink "LostPlaces$Branches" (119 : Nat) ({ cls := "LostPlaces$Hall", name := "goesOnAs", desc := "(LLostPlaces$Hall;)Z" } : Jvm.MethodName)) ∈ TG := tg_in 1355 (by decide +kernel) rfl
theorem w_1356 : (Jvm.Cond.instanceMethod ({ cls := "LostPlaces$Hall", name := "goesOnAs", desc := "(LLostPlaces$Hall;)Z" } : Jvm.MethodName)) ∈ TG := tg_in 1356 (by decide +kernel) rfl
theorem w_1357 : (Jvm.Cond.selects "LostPlaces$Hall" ({ cls := "LostPlaces$Hall", name := "goesOnAs", desc := "(LLostPlaces$Hall;)Z" } : Jvm.MethodName) ({ cls := "LostPlaces$Hall", name := "goesOnAs", desc := "(LLostPlaces$Hall;)Z" } : Jvm.MethodName)) ∈ TG := tg_in 1357 (by decide +kernel) rfl
theorem w_1358 : (Jvm.Cond.code ({ cls := "LostPlaces$Hall", name := "goesOnAs", desc := "(LLostPlaces$Hall;)Z" } : Jvm.MethodName) prog_6_method_5_code (4 : Nat) (Option.some Jvm.ClassFile.FieldType.boolean)) ∈ TG := tg_in 1358 (by decide +kernel) rfl
theorem w_1359 : (Jvm.Cond.methodLink "LostPlaces$Branches" (123 : Nat) ({ cls := "LostPlaces$Branches", name := "lineUp", desc := "()V" } : Jvm.MethodName)) ∈ TG := tg_in 1359 (by decide +kernel) rfl
theorem w_1361 : (Jvm.Cond.instanceMethod ({ cls := "LostPlaces$Branches", name := "lineUp", desc := "()V" } : Jvm.MethodName)) ∈ TG := tg_in 1361 (by decide +kernel) rfl
theorem w_1362 : (Jvm.Cond.code ({ cls := "LostPlaces$Branches", name := "lineUp", desc := "()V" } : Jvm.MethodName) prog_2_method_8_code (3 : Nat) (Option.none : Option Jvm.ClassFile.FieldType)) ∈ TG := tg_in 1362 (by decide +kernel) rfl
theorem w_1363 : (Jvm.Cond.methodLink "LostPlaces$Branches" (126 : Nat) ({ cls := "LostPlaces$Branches", name := "choose", desc := "(II)V" } : Jvm.MethodName)) ∈ TG := tg_in 1363 (by decide +kernel) rfl
theorem w_1365 : (Jvm.Cond.instanceMethod ({ cls := "LostPlaces$Branches", name := "choose", desc := "(II)V" } : Jvm.MethodName)) ∈ TG := tg_in 1365 (by decide +kernel) rfl
theorem w_1366 : (Jvm.Cond.code ({ cls := "LostPlaces$Branches", name := "choose", desc := "(II)V" } : Jvm.MethodName) prog_2_method_9_code (5 : Nat) (Option.none : Option Jvm.ClassFile.FieldType)) ∈ TG := tg_in 1366 (by decide +kernel) rfl
theorem w_1367 : (Jvm.Cond.methodLink "LostPlaces$Branches" (139 : Nat) ({ cls := "LostPlaces$Branches", name := "isAsTold", desc := "(LLostPlaces$Hall;)Z" } : Jvm.MethodName)) ∈ TG := tg_in 1367 (by decide +kernel) rfl
theorem w_1369 : (Jvm.Cond.instanceMethod ({ cls := "LostPlaces$Branches", name := "isAsTold", desc := "(LLostPlaces$Hall;)Z" } : Jvm.MethodName)) ∈ TG := tg_in 1369 (by decide +kernel) rfl
theorem w_1370 : (Jvm.Cond.code ({ cls := "LostPlaces$Branches", name := "isAsTold", desc := "(LLostPlaces$Hall;)Z" } : Jvm.MethodName) prog_2_method_5_code (4 : Nat) (Option.some Jvm.ClassFile.FieldType.boolean)) ∈ TG := tg_in 1370 (by decide +kernel) rfl
theorem w_1371 : (Jvm.Cond.methodLink "LostPlaces" (358 : Nat) ({ cls := "LostPlaces$Branches", name := "fitting", desc := "(I)I" } : Jvm.MethodName)) ∈ TG := tg_in 1371 (by decide +kernel) rfl
theorem w_1372 : (Jvm.Cond.instanceMethod ({ cls := "LostPlaces$Branches", name := "fitting", desc := "(I)I" } : Jvm.MethodName)) ∈ TG := tg_in 1372 (by decide +kernel) rfl
theorem w_1373 : (Jvm.Cond.selects "LostPlaces$Branches" ({ cls := "LostPlaces$Branches", name := "fitting", desc := "(I)I" } : Jvm.MethodName) ({ cls := "LostPlaces$Branches", name := "fitting", desc := "(I)I" } : Jvm.MethodName)) ∈ TG := tg_in 1373 (by decide +kernel) rfl
theorem w_1374 : (Jvm.Cond.code ({ cls := "LostPlaces$Branches", name := "fitting", desc := "(I)I" } : Jvm.MethodName) prog_2_method_7_code (4 : Nat) (Option.some Jvm.ClassFile.FieldType.int)) ∈ TG := tg_in 1374 (by decide +kernel) rfl
theorem w_1379 : (Jvm.Cond.methodLink "LostPlaces" (361 : Nat) ({ cls := "LostPlaces", name := "rank", desc := "(I)I" } : Jvm.MethodName)) ∈ TG := tg_in 1379 (by decide +kernel) rfl
theorem w_1381 : (Jvm.Cond.instanceMethod ({ cls := "LostPlaces", name := "rank", desc := "(I)I" } : Jvm.MethodName)) ∈ TG := tg_in 1381 (by decide +kernel) rfl
theorem w_1382 : (Jvm.Cond.code ({ cls := "LostPlaces", name := "rank", desc := "(I)I" } : Jvm.MethodName) prog_1_method_46_code (4 : Nat) (Option.some Jvm.ClassFile.FieldType.int)) ∈ TG := tg_in 1382 (by decide +kernel) rfl
theorem w_1387 : (Jvm.Cond.methodLink "LostPlaces" (364 : Nat) ({ cls := "LostPlaces", name := "envies", desc := "(I)Z" } : Jvm.MethodName)) ∈ TG := tg_in 1387 (by decide +kernel) rfl
theorem w_1389 : (Jvm.Cond.instanceMethod ({ cls := "LostPlaces", name := "envies", desc := "(I)Z" } : Jvm.MethodName)) ∈ TG := tg_in 1389 (by decide +kernel) rfl
theorem w_1390 : (Jvm.Cond.code ({ cls := "LostPlaces", name := "envies", desc := "(I)Z" } : Jvm.MethodName) prog_1_method_48_code (6 : Nat) (Option.some Jvm.ClassFile.FieldType.boolean)) ∈ TG := tg_in 1390 (by decide +kernel) rfl
theorem w_1395 : (Jvm.Cond.methodLink "LostPlaces" (367 : Nat) ({ cls := "LostPlaces$Hall", name := "gap", desc := "(I)I" } : Jvm.MethodName)) ∈ TG := tg_in 1395 (by decide +kernel) rfl
theorem w_1489 : (Jvm.Cond.fieldLink "LostPlacesModel" (114 : Nat) "LostPlacesModel" "thrown" "I") ∈ TG := tg_in 1489 (by decide +kernel) rfl
theorem w_1490 : (Jvm.Cond.fieldLink "LostPlacesModel" (9 : Nat) "LostPlacesModel" "tape" "[B") ∈ TG := tg_in 1490 (by decide +kernel) rfl
theorem w_1491 : (Jvm.Cond.fieldLink "LostPlacesModel" (13 : Nat) "LostPlacesModel" "texts" "[B") ∈ TG := tg_in 1491 (by decide +kernel) rfl
theorem w_1492 : (Jvm.Cond.fieldLink "LostPlacesModel" (16 : Nat) "LostPlacesModel" "textLong" "[I") ∈ TG := tg_in 1492 (by decide +kernel) rfl
theorem w_1493 : (Jvm.Cond.fieldLink "LostPlacesModel" (20 : Nat) "LostPlacesModel" "letters" "[I") ∈ TG := tg_in 1493 (by decide +kernel) rfl
theorem w_1494 : (Jvm.Cond.fieldLink "LostPlacesModel" (23 : Nat) "LostPlacesModel" "text" "[B") ∈ TG := tg_in 1494 (by decide +kernel) rfl
theorem w_1495 : (Jvm.Cond.fieldLink "LostPlacesModel" (127 : Nat) "LostPlacesModel" "length" "I") ∈ TG := tg_in 1495 (by decide +kernel) rfl
theorem w_1496 : (Jvm.Cond.fieldLink "LostPlacesModel" (297 : Nat) "LostPlacesModel" "tasteMany" "I") ∈ TG := tg_in 1496 (by decide +kernel) rfl
theorem w_1497 : (Jvm.Cond.fieldLink "LostPlacesModel" (143 : Nat) "LostPlacesModel" "begins" "I") ∈ TG := tg_in 1497 (by decide +kernel) rfl
theorem w_1498 : (Jvm.Cond.fieldLink "LostPlacesModel" (140 : Nat) "LostPlacesModel" "ends" "I") ∈ TG := tg_in 1498 (by decide +kernel) rfl
theorem w_1499 : (Jvm.Cond.fieldLink "LostPlacesModel" (137 : Nat) "LostPlacesModel" "at" "I") ∈ TG := tg_in 1499 (by decide +kernel) rfl
theorem w_1500 : (Jvm.Cond.fieldLink "LostPlacesModel" (146 : Nat) "LostPlacesModel" "fault" "I") ∈ TG := tg_in 1500 (by decide +kernel) rfl
theorem w_1501 : (Jvm.Cond.fieldLink "LostPlacesModel" (149 : Nat) "LostPlacesModel" "deep" "I") ∈ TG := tg_in 1501 (by decide +kernel) rfl
theorem w_1502 : (Jvm.Cond.fieldLink "LostPlacesModel" (219 : Nat) "LostPlacesModel" "label" "I") ∈ TG := tg_in 1502 (by decide +kernel) rfl
theorem w_1503 : (Jvm.Cond.fieldLink "LostPlacesModel" (222 : Nat) "LostPlacesModel" "found" "I") ∈ TG := tg_in 1503 (by decide +kernel) rfl
theorem w_1506 : (Jvm.Cond.fieldLink "LostPlacesModel" (215 : Nat) "LostPlacesModel" "hasFound" "Z") ∈ TG := tg_in 1506 (by decide +kernel) rfl
theorem w_1507 : (Jvm.Cond.fieldLink "LostPlacesModel" (37 : Nat) "LostPlacesModel" "seat" "[I") ∈ TG := tg_in 1507 (by decide +kernel) rfl
theorem w_1508 : (Jvm.Cond.fieldLink "LostPlacesModel" (40 : Nat) "LostPlacesModel" "seatRead" "[I") ∈ TG := tg_in 1508 (by decide +kernel) rfl
theorem w_1509 : (Jvm.Cond.fieldLink "LostPlacesModel" (43 : Nat) "LostPlacesModel" "sitter" "[I") ∈ TG := tg_in 1509 (by decide +kernel) rfl
theorem w_1510 : (Jvm.Cond.fieldLink "LostPlacesModel" (46 : Nat) "LostPlacesModel" "sitterRead" "[I") ∈ TG := tg_in 1510 (by decide +kernel) rfl
theorem w_1511 : (Jvm.Cond.fieldLink "LostPlacesModel" (49 : Nat) "LostPlacesModel" "going" "[I") ∈ TG := tg_in 1511 (by decide +kernel) rfl
theorem w_1512 : (Jvm.Cond.fieldLink "LostPlacesModel" (52 : Nat) "LostPlacesModel" "goingRead" "[I") ∈ TG := tg_in 1512 (by decide +kernel) rfl
theorem w_1513 : (Jvm.Cond.fieldLink "LostPlacesModel" (55 : Nat) "LostPlacesModel" "evening" "[I") ∈ TG := tg_in 1513 (by decide +kernel) rfl
theorem w_1514 : (Jvm.Cond.fieldLink "LostPlacesModel" (58 : Nat) "LostPlacesModel" "eveningRead" "[I") ∈ TG := tg_in 1514 (by decide +kernel) rfl
theorem w_1515 : (Jvm.Cond.fieldLink "LostPlacesModel" (302 : Nat) "LostPlacesModel" "seats" "I") ∈ TG := tg_in 1515 (by decide +kernel) rfl
theorem w_1516 : (Jvm.Cond.fieldLink "LostPlacesModel" (305 : Nat) "LostPlacesModel" "sitters" "I") ∈ TG := tg_in 1516 (by decide +kernel) rfl
theorem w_1517 : (Jvm.Cond.fieldLink "LostPlacesModel" (308 : Nat) "LostPlacesModel" "goings" "I") ∈ TG := tg_in 1517 (by decide +kernel) rfl
theorem w_1518 : (Jvm.Cond.fieldLink "LostPlacesModel" (261 : Nat) "LostPlacesModel" "seatsRead" "I") ∈ TG := tg_in 1518 (by decide +kernel) rfl
theorem w_1519 : (Jvm.Cond.fieldLink "LostPlacesModel" (264 : Nat) "LostPlacesModel" "sittersRead" "I") ∈ TG := tg_in 1519 (by decide +kernel) rfl
theorem w_1520 : (Jvm.Cond.fieldLink "LostPlacesModel" (267 : Nat) "LostPlacesModel" "goingsRead" "I") ∈ TG := tg_in 1520 (by decide +kernel) rfl
theorem w_1521 : (Jvm.Cond.fieldLink "LostPlacesModel" (270 : Nat) "LostPlacesModel" "hasEvening" "Z") ∈ TG := tg_in 1521 (by decide +kernel) rfl
theorem w_1522 : (Jvm.Cond.fieldLink "LostPlacesModel" (61 : Nat) "LostPlacesModel" "now" "[I") ∈ TG := tg_in 1522 (by decide +kernel) rfl
theorem w_1523 : (Jvm.Cond.fieldLink "LostPlacesModel" (64 : Nat) "LostPlacesModel" "trial" "[I") ∈ TG := tg_in 1523 (by decide +kernel) rfl
theorem w_1524 : (Jvm.Cond.fieldLink "LostPlacesModel" (67 : Nat) "LostPlacesModel" "taste" "I") ∈ TG := tg_in 1524 (by decide +kernel) rfl
theorem w_1525 : (Jvm.Cond.fieldLink "LostPlacesModel" (419 : Nat) "LostPlacesModel" "restless" "I") ∈ TG := tg_in 1525 (by decide +kernel) rfl
theorem w_1526 : (Jvm.Cond.fieldLink "LostPlacesModel" (71 : Nat) "LostPlacesModel" "memoKey" "[J") ∈ TG := tg_in 1526 (by decide +kernel) rfl
theorem w_1527 : (Jvm.Cond.fieldLink "LostPlacesModel" (75 : Nat) "LostPlacesModel" "memoWorth" "[I") ∈ TG := tg_in 1527 (by decide +kernel) rfl
theorem w_1528 : (Jvm.Cond.fieldLink "LostPlacesModel" (78 : Nat) "LostPlacesModel" "happens" "I") ∈ TG := tg_in 1528 (by decide +kernel) rfl
theorem w_1529 : (Jvm.Cond.fieldLink "LostPlacesModel" (391 : Nat) "LostPlacesModel" "extras" "I") ∈ TG := tg_in 1529 (by decide +kernel) rfl
theorem w_1530 : (Jvm.Cond.fieldLink "LostPlacesModel" (374 : Nat) "LostPlacesModel" "movesNow" "I") ∈ TG := tg_in 1530 (by decide +kernel) rfl
theorem w_1531 : (Jvm.Cond.fieldLink "LostPlacesModel" (81 : Nat) "LostPlacesModel" "extraWho" "[I") ∈ TG := tg_in 1531 (by decide +kernel) rfl
theorem w_1532 : (Jvm.Cond.fieldLink "LostPlacesModel" (84 : Nat) "LostPlacesModel" "extraWhen" "[I") ∈ TG := tg_in 1532 (by decide +kernel) rfl
theorem w_1533 : (Jvm.Cond.fieldLink "LostPlacesModel" (87 : Nat) "LostPlacesModel" "extraLong" "[I") ∈ TG := tg_in 1533 (by decide +kernel) rfl
theorem w_1534 : (Jvm.Cond.fieldLink "LostPlacesModel" (90 : Nat) "LostPlacesModel" "undoRow" "[I") ∈ TG := tg_in 1534 (by decide +kernel) rfl
theorem w_1535 : (Jvm.Cond.fieldLink "LostPlacesModel" (314 : Nat) "LostPlacesModel" "acts" "I") ∈ TG := tg_in 1535 (by decide +kernel) rfl
theorem w_1536 : (Jvm.Cond.fieldLink "LostPlacesModel" (434 : Nat) "LostPlacesModel" "x" "J") ∈ TG := tg_in 1536 (by decide +kernel) rfl
theorem w_1537 : (Jvm.Cond.fieldLink "LostPlacesModel" (93 : Nat) "LostPlacesModel" "hereRow" "[I") ∈ TG := tg_in 1537 (by decide +kernel) rfl
theorem w_1538 : (Jvm.Cond.fieldLink "LostPlacesModel" (96 : Nat) "LostPlacesModel" "numbers" "[I") ∈ TG := tg_in 1538 (by decide +kernel) rfl
theorem w_1539 : (Jvm.Cond.fieldLink "LostPlacesModel" (99 : Nat) "LostPlacesModel" "callJoy" "[I") ∈ TG := tg_in 1539 (by decide +kernel) rfl
theorem w_1540 : (Jvm.Cond.fieldLink "LostPlacesModel" (466 : Nat) "LostPlacesModel" "hereMany" "I") ∈ TG := tg_in 1540 (by decide +kernel) rfl
theorem w_1541 : (Jvm.Cond.fieldLink "LostPlacesModel" (102 : Nat) "LostPlacesModel" "orderRow" "[I") ∈ TG := tg_in 1541 (by decide +kernel) rfl
theorem w_1542 : (Jvm.Cond.fieldLink "LostPlacesModel" (494 : Nat) "LostPlacesModel" "fairBest" "I") ∈ TG := tg_in 1542 (by decide +kernel) rfl
theorem w_1543 : (Jvm.Cond.fieldLink "LostPlacesModel" (500 : Nat) "LostPlacesModel" "fairDigits" "I") ∈ TG := tg_in 1543 (by decide +kernel) rfl
theorem w_1544 : (Jvm.Cond.fieldLink "LostPlacesModel" (105 : Nat) "LostPlacesModel" "toldWho" "[I") ∈ TG := tg_in 1544 (by decide +kernel) rfl
theorem w_1545 : (Jvm.Cond.fieldLink "LostPlacesModel" (108 : Nat) "LostPlacesModel" "toldSeat" "[I") ∈ TG := tg_in 1545 (by decide +kernel) rfl
theorem w_1546 : (Jvm.Cond.fieldLink "LostPlacesModel" (311 : Nat) "LostPlacesModel" "told" "I") ∈ TG := tg_in 1546 (by decide +kernel) rfl
theorem w_1547 : (Jvm.Cond.fieldLink "LostPlacesModel" (111 : Nat) "LostPlacesModel" "imageRow" "[I") ∈ TG := tg_in 1547 (by decide +kernel) rfl
theorem w_1548 : (Jvm.Cond.fieldLink "LostPlacesModel" (317 : Nat) "LostPlacesModel" "hasImage" "Z") ∈ TG := tg_in 1548 (by decide +kernel) rfl
theorem w_1679 : (Jvm.Cond.methodLink "LostPlacesModel" (129 : Nat) ({ cls := "LostPlacesModel", name := "bytesIn", desc := "(I)I" } : Jvm.MethodName)) ∈ TG := tg_in 1679 (by decide +kernel) rfl
theorem w_1680 : (Jvm.Cond.static ({ cls := "LostPlacesModel", name := "bytesIn", desc := "(I)I" } : Jvm.MethodName)) ∈ TG := tg_in 1680 (by decide +kernel) rfl
theorem w_1681 : (Jvm.Cond.code ({ cls := "LostPlacesModel", name := "bytesIn", desc := "(I)I" } : Jvm.MethodName) prog_14_method_6_code (3 : Nat) (Option.some Jvm.ClassFile.FieldType.int)) ∈ TG := tg_in 1681 (by decide +kernel) rfl
theorem w_1682 : (Jvm.Cond.methodLink "LostPlacesModel" (133 : Nat) ({ cls := "LostPlacesModel", name := "put", desc := "(I)V" } : Jvm.MethodName)) ∈ TG := tg_in 1682 (by decide +kernel) rfl
theorem w_1684 : (Jvm.Cond.instanceMethod ({ cls := "LostPlacesModel", name := "put", desc := "(I)V" } : Jvm.MethodName)) ∈ TG := tg_in 1684 (by decide +kernel) rfl
theorem w_1685 : (Jvm.Cond.code ({ cls := "LostPlacesModel", name := "put", desc := "(I)V" } : Jvm.MethodName) prog_14_method_7_code (3 : Nat) (Option.none : Option Jvm.ClassFile.FieldType)) ∈ TG := tg_in 1685 (by decide +kernel) rfl
theorem w_1691 : (Jvm.Cond.instanceMethod ({ cls := "LostPlacesModel", name := "fault", desc := "(I)I" } : Jvm.MethodName)) ∈ TG := tg_in 1691 (by decide +kernel) rfl
theorem w_1692 : (Jvm.Cond.selects "LostPlacesModel" ({ cls := "LostPlacesModel", name := "fault", desc := "(I)I" } : Jvm.MethodName) ({ cls := "LostPlacesModel", name := "fault", desc := "(I)I" } : Jvm.MethodName)) ∈ TG := tg_in 1692 (by decide +kernel) rfl
theorem w_1693 : (Jvm.Cond.code ({ cls := "LostPlacesModel", name := "fault", desc := "(I)I" } : Jvm.MethodName) prog_14_method_37_code (2 : Nat) (Option.some Jvm.ClassFile.FieldType.int)) ∈ TG := tg_in 1693 (by decide +kernel) rfl
theorem w_1694 : (Jvm.Cond.methodLink "LostPlacesModel" (235 : Nat) ({ cls := "LostPlacesModel", name := "isIn", desc := "(JJJ)Z" } : Jvm.MethodName)) ∈ TG := tg_in 1694 (by decide +kernel) rfl
theorem w_1695 : (Jvm.Cond.static ({ cls := "LostPlacesModel", name := "isIn", desc := "(JJJ)Z" } : Jvm.MethodName)) ∈ TG := tg_in 1695 (by decide +kernel) rfl
theorem w_1696 : (Jvm.Cond.code ({ cls := "LostPlacesModel", name := "isIn", desc := "(JJJ)Z" } : Jvm.MethodName) prog_14_method_3_code (6 : Nat) (Option.some Jvm.ClassFile.FieldType.boolean)) ∈ TG := tg_in 1696 (by decide +kernel) rfl
theorem w_1697 : (Jvm.Cond.methodLink "LostPlacesModel" (291 : Nat) ({ cls := "LostPlacesModel", name := "readRoom", desc := "()V" } : Jvm.MethodName)) ∈ TG := tg_in 1697 (by decide +kernel) rfl
theorem w_1699 : (Jvm.Cond.instanceMethod ({ cls := "LostPlacesModel", name := "readRoom", desc := "()V" } : Jvm.MethodName)) ∈ TG := tg_in 1699 (by decide +kernel) rfl
theorem w_1700 : (Jvm.Cond.code ({ cls := "LostPlacesModel", name := "readRoom", desc := "()V" } : Jvm.MethodName) prog_14_method_36_code (2 : Nat) (Option.none : Option Jvm.ClassFile.FieldType)) ∈ TG := tg_in 1700 (by decide +kernel) rfl
theorem w_1701 : (Jvm.Cond.methodLink "LostPlacesModel" (225 : Nat) ({ cls := "LostPlacesModel", name := "starts", desc := "([BII)V" } : Jvm.MethodName)) ∈ TG := tg_in 1701 (by decide +kernel) rfl
theorem w_1703 : (Jvm.Cond.instanceMethod ({ cls := "LostPlacesModel", name := "starts", desc := "([BII)V" } : Jvm.MethodName)) ∈ TG := tg_in 1703 (by decide +kernel) rfl
theorem w_1704 : (Jvm.Cond.code ({ cls := "LostPlacesModel", name := "starts", desc := "([BII)V" } : Jvm.MethodName) prog_14_method_25_code (4 : Nat) (Option.none : Option Jvm.ClassFile.FieldType)) ∈ TG := tg_in 1704 (by decide +kernel) rfl
theorem w_1705 : (Jvm.Cond.methodLink "LostPlacesModel" (239 : Nat) ({ cls := "LostPlacesModel", name := "usual", desc := "(II)I" } : Jvm.MethodName)) ∈ TG := tg_in 1705 (by decide +kernel) rfl
theorem w_1706 : (Jvm.Cond.static ({ cls := "LostPlacesModel", name := "usual", desc := "(II)I" } : Jvm.MethodName)) ∈ TG := tg_in 1706 (by decide +kernel) rfl
theorem w_1707 : (Jvm.Cond.code ({ cls := "LostPlacesModel", name := "usual", desc := "(II)I" } : Jvm.MethodName) prog_14_method_32_code (2 : Nat) (Option.some Jvm.ClassFile.FieldType.int)) ∈ TG := tg_in 1707 (by decide +kernel) rfl
theorem w_1708 : (Jvm.Cond.methodLink "LostPlacesModel" (285 : Nat) ({ cls := "LostPlacesModel", name := "readClause", desc := "()V" } : Jvm.MethodName)) ∈ TG := tg_in 1708 (by decide +kernel) rfl
theorem w_1710 : (Jvm.Cond.instanceMethod ({ cls := "LostPlacesModel", name := "readClause", desc := "()V" } : Jvm.MethodName)) ∈ TG := tg_in 1710 (by decide +kernel) rfl
theorem w_1711 : (Jvm.Cond.code ({ cls := "LostPlacesModel", name := "readClause", desc := "()V" } : Jvm.MethodName) prog_14_method_34_code (3 : Nat) (Option.none : Option Jvm.ClassFile.FieldType)) ∈ TG := tg_in 1711 (by decide +kernel) rfl
theorem w_1712 : (Jvm.Cond.methodLink "LostPlacesModel" (156 : Nat) ({ cls := "LostPlacesModel", name := "look", desc := "()I" } : Jvm.MethodName)) ∈ TG := tg_in 1712 (by decide +kernel) rfl
theorem w_1714 : (Jvm.Cond.instanceMethod ({ cls := "LostPlacesModel", name := "look", desc := "()I" } : Jvm.MethodName)) ∈ TG := tg_in 1714 (by decide +kernel) rfl
theorem w_1715 : (Jvm.Cond.code ({ cls := "LostPlacesModel", name := "look", desc := "()I" } : Jvm.MethodName) prog_14_method_10_code (1 : Nat) (Option.some Jvm.ClassFile.FieldType.int)) ∈ TG := tg_in 1715 (by decide +kernel) rfl
theorem w_1716 : (Jvm.Cond.methodLink "LostPlacesModel" (152 : Nat) ({ cls := "LostPlacesModel", name := "fails", desc := "()Z" } : Jvm.MethodName)) ∈ TG := tg_in 1716 (by decide +kernel) rfl
theorem w_1718 : (Jvm.Cond.instanceMethod ({ cls := "LostPlacesModel", name := "fails", desc := "()Z" } : Jvm.MethodName)) ∈ TG := tg_in 1718 (by decide +kernel) rfl
theorem w_1719 : (Jvm.Cond.code ({ cls := "LostPlacesModel", name := "fails", desc := "()Z" } : Jvm.MethodName) prog_14_method_11_code (1 : Nat) (Option.some Jvm.ClassFile.FieldType.boolean)) ∈ TG := tg_in 1719 (by decide +kernel) rfl
theorem w_1721 : (Jvm.Cond.methodLink "LostPlacesModel" (275 : Nat) ({ cls := "LostPlacesModel", name := "readItems", desc := "(I[IILjava/lang/String;)V" } : Jvm.MethodName)) ∈ TG := tg_in 1721 (by decide +kernel) rfl
theorem w_1723 : (Jvm.Cond.instanceMethod ({ cls := "LostPlacesModel", name := "readItems", desc := "(I[IILjava/lang/String;)V" } : Jvm.MethodName)) ∈ TG := tg_in 1723 (by decide +kernel) rfl
theorem w_1724 : (Jvm.Cond.code ({ cls := "LostPlacesModel", name := "readItems", desc := "(I[IILjava/lang/String;)V" } : Jvm.MethodName) prog_14_method_33_code (7 : Nat) (Option.none : Option Jvm.ClassFile.FieldType)) ∈ TG := tg_in 1724 (by decide +kernel) rfl
theorem w_1725 : (Jvm.Cond.methodLink "LostPlacesModel" (117 : Nat) ({ cls := "java/lang/String", name := "length", desc := "()I" } : Jvm.MethodName)) ∈ TG := tg_in 1725 (by decide +kernel) rfl
theorem w_1726 : (Jvm.Cond.methodLink "LostPlacesModel" (243 : Nat) ({ cls := "LostPlacesModel", name := "spotOf", desc := "(Ljava/lang/String;I)I" } : Jvm.MethodName)) ∈ TG := tg_in 1726 (by decide +kernel) rfl
theorem w_1727 : (Jvm.Cond.static ({ cls := "LostPlacesModel", name := "spotOf", desc := "(Ljava/lang/String;I)I" } : Jvm.MethodName)) ∈ TG := tg_in 1727 (by decide +kernel) rfl
theorem w_1728 : (Jvm.Cond.code ({ cls := "LostPlacesModel", name := "spotOf", desc := "(Ljava/lang/String;I)I" } : Jvm.MethodName) prog_14_method_28_code (3 : Nat) (Option.some Jvm.ClassFile.FieldType.int)) ∈ TG := tg_in 1728 (by decide +kernel) rfl
theorem w_1729 : (Jvm.Cond.methodLink "LostPlacesModel" (123 : Nat) ({ cls := "java/lang/String", name := "charAt", desc := "(I)C" } : Jvm.MethodName)) ∈ TG := tg_in 1729 (by decide +kernel) rfl
theorem w_1749 : (Jvm.Cond.methodLink "LostPlacesModel" (247 : Nat) ({ cls := "LostPlacesModel", name := "has", desc := "(II)Z" } : Jvm.MethodName)) ∈ TG := tg_in 1749 (by decide +kernel) rfl
theorem w_1750 : (Jvm.Cond.static ({ cls := "LostPlacesModel", name := "has", desc := "(II)Z" } : Jvm.MethodName)) ∈ TG := tg_in 1750 (by decide +kernel) rfl
theorem w_1751 : (Jvm.Cond.code ({ cls := "LostPlacesModel", name := "has", desc := "(II)Z" } : Jvm.MethodName) prog_14_method_4_code (2 : Nat) (Option.some Jvm.ClassFile.FieldType.boolean)) ∈ TG := tg_in 1751 (by decide +kernel) rfl
theorem w_1752 : (Jvm.Cond.methodLink "LostPlacesModel" (251 : Nat) ({ cls := "LostPlacesModel", name := "leastOf", desc := "(II)I" } : Jvm.MethodName)) ∈ TG := tg_in 1752 (by decide +kernel) rfl
theorem w_1753 : (Jvm.Cond.static ({ cls := "LostPlacesModel", name := "leastOf", desc := "(II)I" } : Jvm.MethodName)) ∈ TG := tg_in 1753 (by decide +kernel) rfl
theorem w_1754 : (Jvm.Cond.code ({ cls := "LostPlacesModel", name := "leastOf", desc := "(II)I" } : Jvm.MethodName) prog_14_method_31_code (2 : Nat) (Option.some Jvm.ClassFile.FieldType.int)) ∈ TG := tg_in 1754 (by decide +kernel) rfl
theorem w_1755 : (Jvm.Cond.methodLink "LostPlacesModel" (254 : Nat) ({ cls := "LostPlacesModel", name := "mostOf", desc := "(II)I" } : Jvm.MethodName)) ∈ TG := tg_in 1755 (by decide +kernel) rfl
theorem w_1756 : (Jvm.Cond.static ({ cls := "LostPlacesModel", name := "mostOf", desc := "(II)I" } : Jvm.MethodName)) ∈ TG := tg_in 1756 (by decide +kernel) rfl
theorem w_1757 : (Jvm.Cond.code ({ cls := "LostPlacesModel", name := "mostOf", desc := "(II)I" } : Jvm.MethodName) prog_14_method_30_code (2 : Nat) (Option.some Jvm.ClassFile.FieldType.int)) ∈ TG := tg_in 1757 (by decide +kernel) rfl
theorem w_1758 : (Jvm.Cond.methodLink "LostPlacesModel" (257 : Nat) ({ cls := "LostPlacesModel", name := "readItem", desc := "([IIII)V" } : Jvm.MethodName)) ∈ TG := tg_in 1758 (by decide +kernel) rfl
theorem w_1760 : (Jvm.Cond.instanceMethod ({ cls := "LostPlacesModel", name := "readItem", desc := "([IIII)V" } : Jvm.MethodName)) ∈ TG := tg_in 1760 (by decide +kernel) rfl
theorem w_1761 : (Jvm.Cond.code ({ cls := "LostPlacesModel", name := "readItem", desc := "([IIII)V" } : Jvm.MethodName) prog_14_method_29_code (7 : Nat) (Option.none : Option Jvm.ClassFile.FieldType)) ∈ TG := tg_in 1761 (by decide +kernel) rfl
theorem w_1762 : (Jvm.Cond.methodLink "LostPlacesModel" (186 : Nat) ({ cls := "LostPlacesModel", name := "isDigit", desc := "()Z" } : Jvm.MethodName)) ∈ TG := tg_in 1762 (by decide +kernel) rfl
theorem w_1764 : (Jvm.Cond.instanceMethod ({ cls := "LostPlacesModel", name := "isDigit", desc := "()Z" } : Jvm.MethodName)) ∈ TG := tg_in 1764 (by decide +kernel) rfl
theorem w_1765 : (Jvm.Cond.code ({ cls := "LostPlacesModel", name := "isDigit", desc := "()Z" } : Jvm.MethodName) prog_14_method_14_code (1 : Nat) (Option.some Jvm.ClassFile.FieldType.boolean)) ∈ TG := tg_in 1765 (by decide +kernel) rfl
theorem w_1766 : (Jvm.Cond.methodLink "LostPlacesModel" (232 : Nat) ({ cls := "LostPlacesModel", name := "here", desc := "()I" } : Jvm.MethodName)) ∈ TG := tg_in 1766 (by decide +kernel) rfl
theorem w_1768 : (Jvm.Cond.instanceMethod ({ cls := "LostPlacesModel", name := "here", desc := "()I" } : Jvm.MethodName)) ∈ TG := tg_in 1768 (by decide +kernel) rfl
theorem w_1769 : (Jvm.Cond.code ({ cls := "LostPlacesModel", name := "here", desc := "()I" } : Jvm.MethodName) prog_14_method_27_code (1 : Nat) (Option.some Jvm.ClassFile.FieldType.int)) ∈ TG := tg_in 1769 (by decide +kernel) rfl
theorem w_1773 : (Jvm.Cond.methodLink "LostPlacesModel" (288 : Nat) ({ cls := "LostPlacesModel", name := "isWhole", desc := "()Z" } : Jvm.MethodName)) ∈ TG := tg_in 1773 (by decide +kernel) rfl
theorem w_1775 : (Jvm.Cond.instanceMethod ({ cls := "LostPlacesModel", name := "isWhole", desc := "()Z" } : Jvm.MethodName)) ∈ TG := tg_in 1775 (by decide +kernel) rfl
theorem w_1776 : (Jvm.Cond.code ({ cls := "LostPlacesModel", name := "isWhole", desc := "()Z" } : Jvm.MethodName) prog_14_method_35_code (5 : Nat) (Option.some Jvm.ClassFile.FieldType.boolean)) ∈ TG := tg_in 1776 (by decide +kernel) rfl
theorem w_1777 : (Jvm.Cond.methodLink "LostPlacesModel" (294 : Nat) ({ cls := "LostPlacesModel", name := "goThrough", desc := "([BII)V" } : Jvm.MethodName)) ∈ TG := tg_in 1777 (by decide +kernel) rfl
theorem w_1779 : (Jvm.Cond.instanceMethod ({ cls := "LostPlacesModel", name := "goThrough", desc := "([BII)V" } : Jvm.MethodName)) ∈ TG := tg_in 1779 (by decide +kernel) rfl
theorem w_1780 : (Jvm.Cond.code ({ cls := "LostPlacesModel", name := "goThrough", desc := "([BII)V" } : Jvm.MethodName) prog_14_method_26_code (4 : Nat) (Option.none : Option Jvm.ClassFile.FieldType)) ∈ TG := tg_in 1780 (by decide +kernel) rfl
theorem w_1781 : (Jvm.Cond.methodLink "LostPlacesModel" (229 : Nat) ({ cls := "LostPlacesModel", name := "clause", desc := "()V" } : Jvm.MethodName)) ∈ TG := tg_in 1781 (by decide +kernel) rfl
theorem w_1783 : (Jvm.Cond.instanceMethod ({ cls := "LostPlacesModel", name := "clause", desc := "()V" } : Jvm.MethodName)) ∈ TG := tg_in 1783 (by decide +kernel) rfl
theorem w_1784 : (Jvm.Cond.code ({ cls := "LostPlacesModel", name := "clause", desc := "()V" } : Jvm.MethodName) prog_14_method_24_code (5 : Nat) (Option.none : Option Jvm.ClassFile.FieldType)) ∈ TG := tg_in 1784 (by decide +kernel) rfl
theorem w_1785 : (Jvm.Cond.methodLink "LostPlacesModel" (172 : Nat) ({ cls := "LostPlacesModel", name := "isAmong", desc := "(Ljava/lang/String;I)Z" } : Jvm.MethodName)) ∈ TG := tg_in 1785 (by decide +kernel) rfl
theorem w_1786 : (Jvm.Cond.static ({ cls := "LostPlacesModel", name := "isAmong", desc := "(Ljava/lang/String;I)Z" } : Jvm.MethodName)) ∈ TG := tg_in 1786 (by decide +kernel) rfl
theorem w_1787 : (Jvm.Cond.code ({ cls := "LostPlacesModel", name := "isAmong", desc := "(Ljava/lang/String;I)Z" } : Jvm.MethodName) prog_14_method_5_code (3 : Nat) (Option.some Jvm.ClassFile.FieldType.boolean)) ∈ TG := tg_in 1787 (by decide +kernel) rfl
theorem w_1788 : (Jvm.Cond.methodLink "LostPlacesModel" (182 : Nat) ({ cls := "LostPlacesModel", name := "takes", desc := "(I)Z" } : Jvm.MethodName)) ∈ TG := tg_in 1788 (by decide +kernel) rfl
theorem w_1790 : (Jvm.Cond.instanceMethod ({ cls := "LostPlacesModel", name := "takes", desc := "(I)Z" } : Jvm.MethodName)) ∈ TG := tg_in 1790 (by decide +kernel) rfl
theorem w_1791 : (Jvm.Cond.code ({ cls := "LostPlacesModel", name := "takes", desc := "(I)Z" } : Jvm.MethodName) prog_14_method_13_code (2 : Nat) (Option.some Jvm.ClassFile.FieldType.boolean)) ∈ TG := tg_in 1791 (by decide +kernel) rfl
theorem w_1792 : (Jvm.Cond.methodLink "LostPlacesModel" (205 : Nat) ({ cls := "LostPlacesModel", name := "condition", desc := "(ZI)Z" } : Jvm.MethodName)) ∈ TG := tg_in 1792 (by decide +kernel) rfl
theorem w_1794 : (Jvm.Cond.instanceMethod ({ cls := "LostPlacesModel", name := "condition", desc := "(ZI)Z" } : Jvm.MethodName)) ∈ TG := tg_in 1794 (by decide +kernel) rfl
theorem w_1795 : (Jvm.Cond.code ({ cls := "LostPlacesModel", name := "condition", desc := "(ZI)Z" } : Jvm.MethodName) prog_14_method_23_code (5 : Nat) (Option.some Jvm.ClassFile.FieldType.boolean)) ∈ TG := tg_in 1795 (by decide +kernel) rfl
theorem w_1796 : (Jvm.Cond.methodLink "LostPlacesModel" (212 : Nat) ({ cls := "LostPlacesModel", name := "part", desc := "(ZI)Z" } : Jvm.MethodName)) ∈ TG := tg_in 1796 (by decide +kernel) rfl
theorem w_1798 : (Jvm.Cond.instanceMethod ({ cls := "LostPlacesModel", name := "part", desc := "(ZI)Z" } : Jvm.MethodName)) ∈ TG := tg_in 1798 (by decide +kernel) rfl
theorem w_1799 : (Jvm.Cond.code ({ cls := "LostPlacesModel", name := "part", desc := "(ZI)Z" } : Jvm.MethodName) prog_14_method_22_code (5 : Nat) (Option.some Jvm.ClassFile.FieldType.boolean)) ∈ TG := tg_in 1799 (by decide +kernel) rfl
theorem w_1800 : (Jvm.Cond.methodLink "LostPlacesModel" (209 : Nat) ({ cls := "LostPlacesModel", name := "compares", desc := "(ZI)Z" } : Jvm.MethodName)) ∈ TG := tg_in 1800 (by decide +kernel) rfl
theorem w_1802 : (Jvm.Cond.instanceMethod ({ cls := "LostPlacesModel", name := "compares", desc := "(ZI)Z" } : Jvm.MethodName)) ∈ TG := tg_in 1802 (by decide +kernel) rfl
theorem w_1803 : (Jvm.Cond.code ({ cls := "LostPlacesModel", name := "compares", desc := "(ZI)Z" } : Jvm.MethodName) prog_14_method_20_code (6 : Nat) (Option.some Jvm.ClassFile.FieldType.boolean)) ∈ TG := tg_in 1803 (by decide +kernel) rfl
theorem w_1804 : (Jvm.Cond.methodLink "LostPlacesModel" (179 : Nat) ({ cls := "LostPlacesModel", name := "sum", desc := "()I" } : Jvm.MethodName)) ∈ TG := tg_in 1804 (by decide +kernel) rfl
theorem w_1806 : (Jvm.Cond.instanceMethod ({ cls := "LostPlacesModel", name := "sum", desc := "()I" } : Jvm.MethodName)) ∈ TG := tg_in 1806 (by decide +kernel) rfl
theorem w_1807 : (Jvm.Cond.code ({ cls := "LostPlacesModel", name := "sum", desc := "()I" } : Jvm.MethodName) prog_14_method_18_code (5 : Nat) (Option.some Jvm.ClassFile.FieldType.int)) ∈ TG := tg_in 1807 (by decide +kernel) rfl
theorem w_1808 : (Jvm.Cond.methodLink "LostPlacesModel" (196 : Nat) ({ cls := "LostPlacesModel", name := "term", desc := "()I" } : Jvm.MethodName)) ∈ TG := tg_in 1808 (by decide +kernel) rfl
theorem w_1810 : (Jvm.Cond.instanceMethod ({ cls := "LostPlacesModel", name := "term", desc := "()I" } : Jvm.MethodName)) ∈ TG := tg_in 1810 (by decide +kernel) rfl
theorem w_1811 : (Jvm.Cond.code ({ cls := "LostPlacesModel", name := "term", desc := "()I" } : Jvm.MethodName) prog_14_method_17_code (5 : Nat) (Option.some Jvm.ClassFile.FieldType.int)) ∈ TG := tg_in 1811 (by decide +kernel) rfl
theorem w_1812 : (Jvm.Cond.methodLink "LostPlacesModel" (189 : Nat) ({ cls := "LostPlacesModel", name := "atom", desc := "()I" } : Jvm.MethodName)) ∈ TG := tg_in 1812 (by decide +kernel) rfl
theorem w_1814 : (Jvm.Cond.instanceMethod ({ cls := "LostPlacesModel", name := "atom", desc := "()I" } : Jvm.MethodName)) ∈ TG := tg_in 1814 (by decide +kernel) rfl
theorem w_1815 : (Jvm.Cond.code ({ cls := "LostPlacesModel", name := "atom", desc := "()I" } : Jvm.MethodName) prog_14_method_16_code (4 : Nat) (Option.some Jvm.ClassFile.FieldType.int)) ∈ TG := tg_in 1815 (by decide +kernel) rfl
theorem w_1816 : (Jvm.Cond.methodLink "LostPlacesModel" (176 : Nat) ({ cls := "LostPlacesModel", name := "goesIn", desc := "()Z" } : Jvm.MethodName)) ∈ TG := tg_in 1816 (by decide +kernel) rfl
theorem w_1818 : (Jvm.Cond.instanceMethod ({ cls := "LostPlacesModel", name := "goesIn", desc := "()Z" } : Jvm.MethodName)) ∈ TG := tg_in 1818 (by decide +kernel) rfl
theorem w_1819 : (Jvm.Cond.code ({ cls := "LostPlacesModel", name := "goesIn", desc := "()Z" } : Jvm.MethodName) prog_14_method_12_code (1 : Nat) (Option.some Jvm.ClassFile.FieldType.boolean)) ∈ TG := tg_in 1819 (by decide +kernel) rfl
theorem w_1820 : (Jvm.Cond.methodLink "LostPlacesModel" (192 : Nat) ({ cls := "LostPlacesModel", name := "within", desc := "(J)I" } : Jvm.MethodName)) ∈ TG := tg_in 1820 (by decide +kernel) rfl
theorem w_1821 : (Jvm.Cond.static ({ cls := "LostPlacesModel", name := "within", desc := "(J)I" } : Jvm.MethodName)) ∈ TG := tg_in 1821 (by decide +kernel) rfl
theorem w_1822 : (Jvm.Cond.code ({ cls := "LostPlacesModel", name := "within", desc := "(J)I" } : Jvm.MethodName) prog_14_method_15_code (2 : Nat) (Option.some Jvm.ClassFile.FieldType.int)) ∈ TG := tg_in 1822 (by decide +kernel) rfl
theorem w_1823 : (Jvm.Cond.constantLong "LostPlacesModel" (159 : Nat) (-1000000 : Int64)) ∈ TG := tg_in 1823 (by decide +kernel) rfl
theorem w_1824 : (Jvm.Cond.constantLong "LostPlacesModel" (161 : Nat) (1000000 : Int64)) ∈ TG := tg_in 1824 (by decide +kernel) rfl
theorem w_1825 : (Jvm.Cond.methodLink "LostPlacesModel" (163 : Nat) ({ cls := "java/lang/Math", name := "min", desc := "(JJ)J" } : Jvm.MethodName)) ∈ TG := tg_in 1825 (by decide +kernel) rfl
theorem w_1826 : (Jvm.Cond.static ({ cls := "java/lang/Math", name := "min", desc := "(JJ)J" } : Jvm.MethodName)) ∈ TG := tg_in 1826 (by decide +kernel) rfl
theorem w_1827 : (Jvm.Cond.code ({ cls := "java/lang/Math", name := "min", desc := "(JJ)J" } : Jvm.MethodName) prog_20_method_70_code (4 : Nat) (Option.some Jvm.ClassFile.FieldType.long)) ∈ TG := tg_in 1827 (by decide +kernel) rfl
theorem w_1828 : (Jvm.Cond.methodLink "LostPlacesModel" (169 : Nat) ({ cls := "java/lang/Math", name := "max", desc := "(JJ)J" } : Jvm.MethodName)) ∈ TG := tg_in 1828 (by decide +kernel) rfl
theorem w_1829 : (Jvm.Cond.static ({ cls := "java/lang/Math", name := "max", desc := "(JJ)J" } : Jvm.MethodName)) ∈ TG := tg_in 1829 (by decide +kernel) rfl
theorem w_1830 : (Jvm.Cond.code ({ cls := "java/lang/Math", name := "max", desc := "(JJ)J" } : Jvm.MethodName) prog_20_method_66_code (4 : Nat) (Option.some Jvm.ClassFile.FieldType.long)) ∈ TG := tg_in 1830 (by decide +kernel) rfl
theorem w_1831 : (Jvm.Cond.methodLink "LostPlacesModel" (199 : Nat) ({ cls := "LostPlacesModel", name := "isSign", desc := "(I)Z" } : Jvm.MethodName)) ∈ TG := tg_in 1831 (by decide +kernel) rfl
theorem w_1832 : (Jvm.Cond.static ({ cls := "LostPlacesModel", name := "isSign", desc := "(I)Z" } : Jvm.MethodName)) ∈ TG := tg_in 1832 (by decide +kernel) rfl
theorem w_1833 : (Jvm.Cond.code ({ cls := "LostPlacesModel", name := "isSign", desc := "(I)Z" } : Jvm.MethodName) prog_14_method_19_code (1 : Nat) (Option.some Jvm.ClassFile.FieldType.boolean)) ∈ TG := tg_in 1833 (by decide +kernel) rfl
theorem w_1834 : (Jvm.Cond.methodLink "LostPlacesModel" (202 : Nat) ({ cls := "LostPlacesModel", name := "unit", desc := "()Z" } : Jvm.MethodName)) ∈ TG := tg_in 1834 (by decide +kernel) rfl
theorem w_1836 : (Jvm.Cond.instanceMethod ({ cls := "LostPlacesModel", name := "unit", desc := "()Z" } : Jvm.MethodName)) ∈ TG := tg_in 1836 (by decide +kernel) rfl
theorem w_1837 : (Jvm.Cond.code ({ cls := "LostPlacesModel", name := "unit", desc := "()Z" } : Jvm.MethodName) prog_14_method_21_code (3 : Nat) (Option.some Jvm.ClassFile.FieldType.boolean)) ∈ TG := tg_in 1837 (by decide +kernel) rfl
theorem w_1842 : (Jvm.Cond.methodLink "LostPlacesModel" (300 : Nat) ({ cls := "LostPlacesModel", name := "fault", desc := "(I)I" } : Jvm.MethodName)) ∈ TG := tg_in 1842 (by decide +kernel) rfl
theorem w_1847 : (Jvm.Cond.methodLink "LostPlacesModel" (407 : Nat) ({ cls := "LostPlacesModel", name := "isSeat", desc := "(I)Z" } : Jvm.MethodName)) ∈ TG := tg_in 1847 (by decide +kernel) rfl
theorem w_1849 : (Jvm.Cond.instanceMethod ({ cls := "LostPlacesModel", name := "isSeat", desc := "(I)Z" } : Jvm.MethodName)) ∈ TG := tg_in 1849 (by decide +kernel) rfl
theorem w_1850 : (Jvm.Cond.code ({ cls := "LostPlacesModel", name := "isSeat", desc := "(I)Z" } : Jvm.MethodName) prog_14_method_41_code (2 : Nat) (Option.some Jvm.ClassFile.FieldType.boolean)) ∈ TG := tg_in 1850 (by decide +kernel) rfl
theorem w_1851 : (Jvm.Cond.constantLong "LostPlacesModel" (410 : Nat) (5 : Int64)) ∈ TG := tg_in 1851 (by decide +kernel) rfl
theorem w_1852 : (Jvm.Cond.methodLink "LostPlacesModel" (320 : Nat) ({ cls := "LostPlacesModel", name := "sitsOn", desc := "([II)I" } : Jvm.MethodName)) ∈ TG := tg_in 1852 (by decide +kernel) rfl
theorem w_1854 : (Jvm.Cond.instanceMethod ({ cls := "LostPlacesModel", name := "sitsOn", desc := "([II)I" } : Jvm.MethodName)) ∈ TG := tg_in 1854 (by decide +kernel) rfl
theorem w_1855 : (Jvm.Cond.code ({ cls := "LostPlacesModel", name := "sitsOn", desc := "([II)I" } : Jvm.MethodName) prog_14_method_43_code (4 : Nat) (Option.some Jvm.ClassFile.FieldType.int)) ∈ TG := tg_in 1855 (by decide +kernel) rfl
theorem w_1860 : (Jvm.Cond.methodLink "LostPlacesModel" (412 : Nat) ({ cls := "LostPlacesModel", name := "isSitter", desc := "(I)Z" } : Jvm.MethodName)) ∈ TG := tg_in 1860 (by decide +kernel) rfl
theorem w_1862 : (Jvm.Cond.instanceMethod ({ cls := "LostPlacesModel", name := "isSitter", desc := "(I)Z" } : Jvm.MethodName)) ∈ TG := tg_in 1862 (by decide +kernel) rfl
theorem w_1863 : (Jvm.Cond.code ({ cls := "LostPlacesModel", name := "isSitter", desc := "(I)Z" } : Jvm.MethodName) prog_14_method_40_code (2 : Nat) (Option.some Jvm.ClassFile.FieldType.boolean)) ∈ TG := tg_in 1863 (by decide +kernel) rfl
theorem w_1868 : (Jvm.Cond.constantLong "LostPlacesModel" (415 : Nat) (2 : Int64)) ∈ TG := tg_in 1868 (by decide +kernel) rfl
theorem w_1877 : (Jvm.Cond.constantLong "LostPlacesModel" (417 : Nat) (99 : Int64)) ∈ TG := tg_in 1877 (by decide +kernel) rfl
theorem w_1882 : (Jvm.Cond.methodLink "LostPlacesModel" (357 : Nat) ({ cls := "LostPlacesModel", name := "likesIn", desc := "([III)I" } : Jvm.MethodName)) ∈ TG := tg_in 1882 (by decide +kernel) rfl
theorem w_1884 : (Jvm.Cond.instanceMethod ({ cls := "LostPlacesModel", name := "likesIn", desc := "([III)I" } : Jvm.MethodName)) ∈ TG := tg_in 1884 (by decide +kernel) rfl
theorem w_1885 : (Jvm.Cond.code ({ cls := "LostPlacesModel", name := "likesIn", desc := "([III)I" } : Jvm.MethodName) prog_14_method_46_code (4 : Nat) (Option.some Jvm.ClassFile.FieldType.int)) ∈ TG := tg_in 1885 (by decide +kernel) rfl
theorem w_1886 : (Jvm.Cond.methodLink "LostPlacesModel" (342 : Nat) ({ cls := "LostPlacesModel", name := "likesBy", desc := "(III)I" } : Jvm.MethodName)) ∈ TG := tg_in 1886 (by decide +kernel) rfl
theorem w_1888 : (Jvm.Cond.instanceMethod ({ cls := "LostPlacesModel", name := "likesBy", desc := "(III)I" } : Jvm.MethodName)) ∈ TG := tg_in 1888 (by decide +kernel) rfl
theorem w_1889 : (Jvm.Cond.code ({ cls := "LostPlacesModel", name := "likesBy", desc := "(III)I" } : Jvm.MethodName) prog_14_method_45_code (8 : Nat) (Option.some Jvm.ClassFile.FieldType.int)) ∈ TG := tg_in 1889 (by decide +kernel) rfl
theorem w_1890 : (Jvm.Cond.methodLink "LostPlacesModel" (324 : Nat) ({ cls := "java/lang/Math", name := "min", desc := "(II)I" } : Jvm.MethodName)) ∈ TG := tg_in 1890 (by decide +kernel) rfl
theorem w_1891 : (Jvm.Cond.methodLink "LostPlacesModel" (326 : Nat) ({ cls := "java/lang/Math", name := "max", desc := "(II)I" } : Jvm.MethodName)) ∈ TG := tg_in 1891 (by decide +kernel) rfl
theorem w_1892 : (Jvm.Cond.constantLong "LostPlacesModel" (328 : Nat) (100 : Int64)) ∈ TG := tg_in 1892 (by decide +kernel) rfl
theorem w_1893 : (Jvm.Cond.constantLong "LostPlacesModel" (330 : Nat) (20 : Int64)) ∈ TG := tg_in 1893 (by decide +kernel) rfl
theorem w_1894 : (Jvm.Cond.constantLong "LostPlacesModel" (332 : Nat) (10 : Int64)) ∈ TG := tg_in 1894 (by decide +kernel) rfl
theorem w_1895 : (Jvm.Cond.constantLong "LostPlacesModel" (334 : Nat) (200 : Int64)) ∈ TG := tg_in 1895 (by decide +kernel) rfl
theorem w_1896 : (Jvm.Cond.constantLong "LostPlacesModel" (336 : Nat) (8 : Int64)) ∈ TG := tg_in 1896 (by decide +kernel) rfl
theorem w_1897 : (Jvm.Cond.constantLong "LostPlacesModel" (338 : Nat) (4 : Int64)) ∈ TG := tg_in 1897 (by decide +kernel) rfl
theorem w_1898 : (Jvm.Cond.constantLong "LostPlacesModel" (340 : Nat) (4093 : Int64)) ∈ TG := tg_in 1898 (by decide +kernel) rfl
theorem w_1899 : (Jvm.Cond.constant "LostPlacesModel" (422 : Nat) (-1000000 : Int32)) ∈ TG := tg_in 1899 (by decide +kernel) rfl
theorem w_1904 : (Jvm.Cond.methodLink "LostPlacesModel" (361 : Nat) ({ cls := "LostPlacesModel", name := "isHere", desc := "([II)Z" } : Jvm.MethodName)) ∈ TG := tg_in 1904 (by decide +kernel) rfl
theorem w_1905 : (Jvm.Cond.static ({ cls := "LostPlacesModel", name := "isHere", desc := "([II)Z" } : Jvm.MethodName)) ∈ TG := tg_in 1905 (by decide +kernel) rfl
theorem w_1906 : (Jvm.Cond.code ({ cls := "LostPlacesModel", name := "isHere", desc := "([II)Z" } : Jvm.MethodName) prog_14_method_42_code (2 : Nat) (Option.some Jvm.ClassFile.FieldType.boolean)) ∈ TG := tg_in 1906 (by decide +kernel) rfl
theorem w_1907 : (Jvm.Cond.constantLong "LostPlacesModel" (426 : Nat) (9 : Int64)) ∈ TG := tg_in 1907 (by decide +kernel) rfl
theorem w_1908 : (Jvm.Cond.methodLink "LostPlacesModel" (428 : Nat) ({ cls := "LostPlacesModel", name := "isOpen", desc := "()Z" } : Jvm.MethodName)) ∈ TG := tg_in 1908 (by decide +kernel) rfl
theorem w_1910 : (Jvm.Cond.instanceMethod ({ cls := "LostPlacesModel", name := "isOpen", desc := "()Z" } : Jvm.MethodName)) ∈ TG := tg_in 1910 (by decide +kernel) rfl
theorem w_1911 : (Jvm.Cond.code ({ cls := "LostPlacesModel", name := "isOpen", desc := "()Z" } : Jvm.MethodName) prog_14_method_68_code (1 : Nat) (Option.some Jvm.ClassFile.FieldType.boolean)) ∈ TG := tg_in 1911 (by decide +kernel) rfl
theorem w_1912 : (Jvm.Cond.methodLink "LostPlacesModel" (423 : Nat) ({ cls := "LostPlacesModel", name := "left", desc := "()I" } : Jvm.MethodName)) ∈ TG := tg_in 1912 (by decide +kernel) rfl
theorem w_1914 : (Jvm.Cond.instanceMethod ({ cls := "LostPlacesModel", name := "left", desc := "()I" } : Jvm.MethodName)) ∈ TG := tg_in 1914 (by decide +kernel) rfl
theorem w_1915 : (Jvm.Cond.code ({ cls := "LostPlacesModel", name := "left", desc := "()I" } : Jvm.MethodName) prog_14_method_67_code (1 : Nat) (Option.some Jvm.ClassFile.FieldType.int)) ∈ TG := tg_in 1915 (by decide +kernel) rfl
theorem w_1916 : (Jvm.Cond.methodLink "LostPlacesModel" (431 : Nat) ({ cls := "LostPlacesModel", name := "remember", desc := "()V" } : Jvm.MethodName)) ∈ TG := tg_in 1916 (by decide +kernel) rfl
theorem w_1918 : (Jvm.Cond.instanceMethod ({ cls := "LostPlacesModel", name := "remember", desc := "()V" } : Jvm.MethodName)) ∈ TG := tg_in 1918 (by decide +kernel) rfl
theorem w_1919 : (Jvm.Cond.code ({ cls := "LostPlacesModel", name := "remember", desc := "()V" } : Jvm.MethodName) prog_14_method_66_code (2 : Nat) (Option.none : Option Jvm.ClassFile.FieldType)) ∈ TG := tg_in 1919 (by decide +kernel) rfl
theorem w_1920 : (Jvm.Cond.methodLink "LostPlacesModel" (387 : Nat) ({ cls := "LostPlacesModel", name := "goesUp", desc := "([IIIZ)V" } : Jvm.MethodName)) ∈ TG := tg_in 1920 (by decide +kernel) rfl
theorem w_1922 : (Jvm.Cond.instanceMethod ({ cls := "LostPlacesModel", name := "goesUp", desc := "([IIIZ)V" } : Jvm.MethodName)) ∈ TG := tg_in 1922 (by decide +kernel) rfl
theorem w_1923 : (Jvm.Cond.code ({ cls := "LostPlacesModel", name := "goesUp", desc := "([IIIZ)V" } : Jvm.MethodName) prog_14_method_47_code (7 : Nat) (Option.none : Option Jvm.ClassFile.FieldType)) ∈ TG := tg_in 1923 (by decide +kernel) rfl
theorem w_1936 : (Jvm.Cond.methodLink "LostPlacesModel" (404 : Nat) ({ cls := "LostPlacesModel", name := "goMinute", desc := "([I)V" } : Jvm.MethodName)) ∈ TG := tg_in 1936 (by decide +kernel) rfl
theorem w_1938 : (Jvm.Cond.instanceMethod ({ cls := "LostPlacesModel", name := "goMinute", desc := "([I)V" } : Jvm.MethodName)) ∈ TG := tg_in 1938 (by decide +kernel) rfl
theorem w_1939 : (Jvm.Cond.code ({ cls := "LostPlacesModel", name := "goMinute", desc := "([I)V" } : Jvm.MethodName) prog_14_method_58_code (3 : Nat) (Option.none : Option Jvm.ClassFile.FieldType)) ∈ TG := tg_in 1939 (by decide +kernel) rfl
theorem w_1940 : (Jvm.Cond.methodLink "LostPlacesModel" (401 : Nat) ({ cls := "LostPlacesModel", name := "halfMinute", desc := "([I)V" } : Jvm.MethodName)) ∈ TG := tg_in 1940 (by decide +kernel) rfl
theorem w_1942 : (Jvm.Cond.instanceMethod ({ cls := "LostPlacesModel", name := "halfMinute", desc := "([I)V" } : Jvm.MethodName)) ∈ TG := tg_in 1942 (by decide +kernel) rfl
theorem w_1943 : (Jvm.Cond.code ({ cls := "LostPlacesModel", name := "halfMinute", desc := "([I)V" } : Jvm.MethodName) prog_14_method_57_code (4 : Nat) (Option.none : Option Jvm.ClassFile.FieldType)) ∈ TG := tg_in 1943 (by decide +kernel) rfl
theorem w_1944 : (Jvm.Cond.methodLink "LostPlacesModel" (349 : Nat) ({ cls := "LostPlacesModel", name := "frees", desc := "([II)V" } : Jvm.MethodName)) ∈ TG := tg_in 1944 (by decide +kernel) rfl
theorem w_1946 : (Jvm.Cond.instanceMethod ({ cls := "LostPlacesModel", name := "frees", desc := "([II)V" } : Jvm.MethodName)) ∈ TG := tg_in 1946 (by decide +kernel) rfl
theorem w_1947 : (Jvm.Cond.code ({ cls := "LostPlacesModel", name := "frees", desc := "([II)V" } : Jvm.MethodName) prog_14_method_49_code (3 : Nat) (Option.none : Option Jvm.ClassFile.FieldType)) ∈ TG := tg_in 1947 (by decide +kernel) rfl
theorem w_1948 : (Jvm.Cond.methodLink "LostPlacesModel" (394 : Nat) ({ cls := "LostPlacesModel", name := "backs", desc := "([I)V" } : Jvm.MethodName)) ∈ TG := tg_in 1948 (by decide +kernel) rfl
theorem w_1950 : (Jvm.Cond.instanceMethod ({ cls := "LostPlacesModel", name := "backs", desc := "([I)V" } : Jvm.MethodName)) ∈ TG := tg_in 1950 (by decide +kernel) rfl
theorem w_1951 : (Jvm.Cond.code ({ cls := "LostPlacesModel", name := "backs", desc := "([I)V" } : Jvm.MethodName) prog_14_method_56_code (4 : Nat) (Option.none : Option Jvm.ClassFile.FieldType)) ∈ TG := tg_in 1951 (by decide +kernel) rfl
theorem w_1952 : (Jvm.Cond.methodLink "LostPlacesModel" (384 : Nat) ({ cls := "LostPlacesModel", name := "comesBack", desc := "([II)V" } : Jvm.MethodName)) ∈ TG := tg_in 1952 (by decide +kernel) rfl
theorem w_1954 : (Jvm.Cond.instanceMethod ({ cls := "LostPlacesModel", name := "comesBack", desc := "([II)V" } : Jvm.MethodName)) ∈ TG := tg_in 1954 (by decide +kernel) rfl
theorem w_1955 : (Jvm.Cond.code ({ cls := "LostPlacesModel", name := "comesBack", desc := "([II)V" } : Jvm.MethodName) prog_14_method_50_code (6 : Nat) (Option.none : Option Jvm.ClassFile.FieldType)) ∈ TG := tg_in 1955 (by decide +kernel) rfl
theorem w_1956 : (Jvm.Cond.methodLink "LostPlacesModel" (346 : Nat) ({ cls := "LostPlacesModel", name := "keptFor", desc := "([II)I" } : Jvm.MethodName)) ∈ TG := tg_in 1956 (by decide +kernel) rfl
theorem w_1958 : (Jvm.Cond.instanceMethod ({ cls := "LostPlacesModel", name := "keptFor", desc := "([II)I" } : Jvm.MethodName)) ∈ TG := tg_in 1958 (by decide +kernel) rfl
theorem w_1959 : (Jvm.Cond.code ({ cls := "LostPlacesModel", name := "keptFor", desc := "([II)I" } : Jvm.MethodName) prog_14_method_48_code (4 : Nat) (Option.some Jvm.ClassFile.FieldType.int)) ∈ TG := tg_in 1959 (by decide +kernel) rfl
theorem w_1960 : (Jvm.Cond.methodLink "LostPlacesModel" (353 : Nat) ({ cls := "LostPlacesModel", name := "isFree", desc := "([II)Z" } : Jvm.MethodName)) ∈ TG := tg_in 1960 (by decide +kernel) rfl
theorem w_1962 : (Jvm.Cond.instanceMethod ({ cls := "LostPlacesModel", name := "isFree", desc := "([II)Z" } : Jvm.MethodName)) ∈ TG := tg_in 1962 (by decide +kernel) rfl
theorem w_1963 : (Jvm.Cond.code ({ cls := "LostPlacesModel", name := "isFree", desc := "([II)Z" } : Jvm.MethodName) prog_14_method_44_code (3 : Nat) (Option.some Jvm.ClassFile.FieldType.boolean)) ∈ TG := tg_in 1963 (by decide +kernel) rfl
theorem w_1964 : (Jvm.Cond.methodLink "LostPlacesModel" (398 : Nat) ({ cls := "LostPlacesModel", name := "movesUp", desc := "([I)V" } : Jvm.MethodName)) ∈ TG := tg_in 1964 (by decide +kernel) rfl
theorem w_1966 : (Jvm.Cond.instanceMethod ({ cls := "LostPlacesModel", name := "movesUp", desc := "([I)V" } : Jvm.MethodName)) ∈ TG := tg_in 1966 (by decide +kernel) rfl
theorem w_1967 : (Jvm.Cond.code ({ cls := "LostPlacesModel", name := "movesUp", desc := "([I)V" } : Jvm.MethodName) prog_14_method_55_code (5 : Nat) (Option.none : Option Jvm.ClassFile.FieldType)) ∈ TG := tg_in 1967 (by decide +kernel) rfl
theorem w_1968 : (Jvm.Cond.methodLink "LostPlacesModel" (377 : Nat) ({ cls := "LostPlacesModel", name := "moverTo", desc := "([II)I" } : Jvm.MethodName)) ∈ TG := tg_in 1968 (by decide +kernel) rfl
theorem w_1970 : (Jvm.Cond.instanceMethod ({ cls := "LostPlacesModel", name := "moverTo", desc := "([II)I" } : Jvm.MethodName)) ∈ TG := tg_in 1970 (by decide +kernel) rfl
theorem w_1971 : (Jvm.Cond.code ({ cls := "LostPlacesModel", name := "moverTo", desc := "([II)I" } : Jvm.MethodName) prog_14_method_53_code (6 : Nat) (Option.some Jvm.ClassFile.FieldType.int)) ∈ TG := tg_in 1971 (by decide +kernel) rfl
theorem w_1972 : (Jvm.Cond.methodLink "LostPlacesModel" (367 : Nat) ({ cls := "LostPlacesModel", name := "wouldMove", desc := "([III)Z" } : Jvm.MethodName)) ∈ TG := tg_in 1972 (by decide +kernel) rfl
theorem w_1974 : (Jvm.Cond.instanceMethod ({ cls := "LostPlacesModel", name := "wouldMove", desc := "([III)Z" } : Jvm.MethodName)) ∈ TG := tg_in 1974 (by decide +kernel) rfl
theorem w_1975 : (Jvm.Cond.code ({ cls := "LostPlacesModel", name := "wouldMove", desc := "([III)Z" } : Jvm.MethodName) prog_14_method_51_code (4 : Nat) (Option.some Jvm.ClassFile.FieldType.boolean)) ∈ TG := tg_in 1975 (by decide +kernel) rfl
theorem w_1976 : (Jvm.Cond.methodLink "LostPlacesModel" (371 : Nat) ({ cls := "LostPlacesModel", name := "farFrom", desc := "([III)I" } : Jvm.MethodName)) ∈ TG := tg_in 1976 (by decide +kernel) rfl
theorem w_1978 : (Jvm.Cond.instanceMethod ({ cls := "LostPlacesModel", name := "farFrom", desc := "([III)I" } : Jvm.MethodName)) ∈ TG := tg_in 1978 (by decide +kernel) rfl
theorem w_1979 : (Jvm.Cond.code ({ cls := "LostPlacesModel", name := "farFrom", desc := "([III)I" } : Jvm.MethodName) prog_14_method_52_code (5 : Nat) (Option.some Jvm.ClassFile.FieldType.int)) ∈ TG := tg_in 1979 (by decide +kernel) rfl
theorem w_1980 : (Jvm.Cond.methodLink "LostPlacesModel" (364 : Nat) ({ cls := "java/lang/Math", name := "abs", desc := "(I)I" } : Jvm.MethodName)) ∈ TG := tg_in 1980 (by decide +kernel) rfl
theorem w_1981 : (Jvm.Cond.static ({ cls := "java/lang/Math", name := "abs", desc := "(I)I" } : Jvm.MethodName)) ∈ TG := tg_in 1981 (by decide +kernel) rfl
theorem w_1982 : (Jvm.Cond.code ({ cls := "java/lang/Math", name := "abs", desc := "(I)I" } : Jvm.MethodName) prog_20_method_59_code (1 : Nat) (Option.some Jvm.ClassFile.FieldType.int)) ∈ TG := tg_in 1982 (by decide +kernel) rfl
theorem w_1983 : (Jvm.Cond.methodLink "LostPlacesModel" (380 : Nat) ({ cls := "LostPlacesModel", name := "moves", desc := "([III)V" } : Jvm.MethodName)) ∈ TG := tg_in 1983 (by decide +kernel) rfl
theorem w_1985 : (Jvm.Cond.instanceMethod ({ cls := "LostPlacesModel", name := "moves", desc := "([III)V" } : Jvm.MethodName)) ∈ TG := tg_in 1985 (by decide +kernel) rfl
theorem w_1986 : (Jvm.Cond.code ({ cls := "LostPlacesModel", name := "moves", desc := "([III)V" } : Jvm.MethodName) prog_14_method_54_code (5 : Nat) (Option.none : Option Jvm.ClassFile.FieldType)) ∈ TG := tg_in 1986 (by decide +kernel) rfl
theorem w_1991 : (Jvm.Cond.methodLink "LostPlacesModel" (442 : Nat) ({ cls := "LostPlacesModel", name := "draw", desc := "(I)I" } : Jvm.MethodName)) ∈ TG := tg_in 1991 (by decide +kernel) rfl
theorem w_1993 : (Jvm.Cond.instanceMethod ({ cls := "LostPlacesModel", name := "draw", desc := "(I)I" } : Jvm.MethodName)) ∈ TG := tg_in 1993 (by decide +kernel) rfl
theorem w_1994 : (Jvm.Cond.code ({ cls := "LostPlacesModel", name := "draw", desc := "(I)I" } : Jvm.MethodName) prog_14_method_73_code (2 : Nat) (Option.some Jvm.ClassFile.FieldType.int)) ∈ TG := tg_in 1994 (by decide +kernel) rfl
theorem w_1995 : (Jvm.Cond.constantLong "LostPlacesModel" (438 : Nat) (6364136223846793005 : Int64)) ∈ TG := tg_in 1995 (by decide +kernel) rfl
theorem w_1996 : (Jvm.Cond.constantLong "LostPlacesModel" (440 : Nat) (1442695040888963407 : Int64)) ∈ TG := tg_in 1996 (by decide +kernel) rfl
theorem w_2005 : (Jvm.Cond.constantLong "LostPlacesModel" (445 : Nat) (3 : Int64)) ∈ TG := tg_in 2005 (by decide +kernel) rfl
theorem w_2010 : (Jvm.Cond.methodLink "LostPlacesModel" (447 : Nat) ({ cls := "LostPlacesModel", name := "copy", desc := "([I[I)V" } : Jvm.MethodName)) ∈ TG := tg_in 2010 (by decide +kernel) rfl
theorem w_2011 : (Jvm.Cond.static ({ cls := "LostPlacesModel", name := "copy", desc := "([I[I)V" } : Jvm.MethodName)) ∈ TG := tg_in 2011 (by decide +kernel) rfl
theorem w_2012 : (Jvm.Cond.code ({ cls := "LostPlacesModel", name := "copy", desc := "([I[I)V" } : Jvm.MethodName) prog_14_method_39_code (4 : Nat) (Option.none : Option Jvm.ClassFile.FieldType)) ∈ TG := tg_in 2012 (by decide +kernel) rfl
theorem w_2021 : (Jvm.Cond.constantLong "LostPlacesModel" (451 : Nat) (30 : Int64)) ∈ TG := tg_in 2021 (by decide +kernel) rfl
theorem w_2022 : (Jvm.Cond.methodLink "LostPlacesModel" (453 : Nat) ({ cls := "LostPlacesModel", name := "extra", desc := "(III)V" } : Jvm.MethodName)) ∈ TG := tg_in 2022 (by decide +kernel) rfl
theorem w_2024 : (Jvm.Cond.instanceMethod ({ cls := "LostPlacesModel", name := "extra", desc := "(III)V" } : Jvm.MethodName)) ∈ TG := tg_in 2024 (by decide +kernel) rfl
theorem w_2025 : (Jvm.Cond.code ({ cls := "LostPlacesModel", name := "extra", desc := "(III)V" } : Jvm.MethodName) prog_14_method_79_code (4 : Nat) (Option.none : Option Jvm.ClassFile.FieldType)) ∈ TG := tg_in 2025 (by decide +kernel) rfl
theorem w_2026 : (Jvm.Cond.methodLink "LostPlacesModel" (457 : Nat) ({ cls := "LostPlacesModel", name := "toEnd", desc := "([I)V" } : Jvm.MethodName)) ∈ TG := tg_in 2026 (by decide +kernel) rfl
theorem w_2028 : (Jvm.Cond.instanceMethod ({ cls := "LostPlacesModel", name := "toEnd", desc := "([I)V" } : Jvm.MethodName)) ∈ TG := tg_in 2028 (by decide +kernel) rfl
theorem w_2029 : (Jvm.Cond.code ({ cls := "LostPlacesModel", name := "toEnd", desc := "([I)V" } : Jvm.MethodName) prog_14_method_59_code (2 : Nat) (Option.none : Option Jvm.ClassFile.FieldType)) ∈ TG := tg_in 2029 (by decide +kernel) rfl
theorem w_2034 : (Jvm.Cond.methodLink "LostPlacesModel" (460 : Nat) ({ cls := "LostPlacesModel", name := "joyKeeping", desc := "(II)I" } : Jvm.MethodName)) ∈ TG := tg_in 2034 (by decide +kernel) rfl
theorem w_2036 : (Jvm.Cond.instanceMethod ({ cls := "LostPlacesModel", name := "joyKeeping", desc := "(II)I" } : Jvm.MethodName)) ∈ TG := tg_in 2036 (by decide +kernel) rfl
theorem w_2037 : (Jvm.Cond.code ({ cls := "LostPlacesModel", name := "joyKeeping", desc := "(II)I" } : Jvm.MethodName) prog_14_method_81_code (3 : Nat) (Option.some Jvm.ClassFile.FieldType.int)) ∈ TG := tg_in 2037 (by decide +kernel) rfl
theorem w_2042 : (Jvm.Cond.methodLink "LostPlacesModel" (463 : Nat) ({ cls := "LostPlacesModel", name := "joyOn", desc := "(II)I" } : Jvm.MethodName)) ∈ TG := tg_in 2042 (by decide +kernel) rfl
theorem w_2044 : (Jvm.Cond.instanceMethod ({ cls := "LostPlacesModel", name := "joyOn", desc := "(II)I" } : Jvm.MethodName)) ∈ TG := tg_in 2044 (by decide +kernel) rfl
theorem w_2045 : (Jvm.Cond.code ({ cls := "LostPlacesModel", name := "joyOn", desc := "(II)I" } : Jvm.MethodName) prog_14_method_83_code (3 : Nat) (Option.some Jvm.ClassFile.FieldType.int)) ∈ TG := tg_in 2045 (by decide +kernel) rfl
theorem w_2054 : (Jvm.Cond.methodLink "LostPlacesModel" (469 : Nat) ({ cls := "LostPlacesModel", name := "layHere", desc := "()Z" } : Jvm.MethodName)) ∈ TG := tg_in 2054 (by decide +kernel) rfl
theorem w_2056 : (Jvm.Cond.instanceMethod ({ cls := "LostPlacesModel", name := "layHere", desc := "()Z" } : Jvm.MethodName)) ∈ TG := tg_in 2056 (by decide +kernel) rfl
theorem w_2057 : (Jvm.Cond.code ({ cls := "LostPlacesModel", name := "layHere", desc := "()Z" } : Jvm.MethodName) prog_14_method_86_code (2 : Nat) (Option.some Jvm.ClassFile.FieldType.boolean)) ∈ TG := tg_in 2057 (by decide +kernel) rfl
theorem w_2058 : (Jvm.Cond.methodLink "LostPlacesModel" (472 : Nat) ({ cls := "LostPlacesModel", name := "hereOf", desc := "(I)I" } : Jvm.MethodName)) ∈ TG := tg_in 2058 (by decide +kernel) rfl
theorem w_2060 : (Jvm.Cond.instanceMethod ({ cls := "LostPlacesModel", name := "hereOf", desc := "(I)I" } : Jvm.MethodName)) ∈ TG := tg_in 2060 (by decide +kernel) rfl
theorem w_2061 : (Jvm.Cond.code ({ cls := "LostPlacesModel", name := "hereOf", desc := "(I)I" } : Jvm.MethodName) prog_14_method_88_code (3 : Nat) (Option.some Jvm.ClassFile.FieldType.int)) ∈ TG := tg_in 2061 (by decide +kernel) rfl
theorem w_2062 : (Jvm.Cond.methodLink "LostPlacesModel" (475 : Nat) ({ cls := "LostPlacesModel", name := "rings", desc := "()I" } : Jvm.MethodName)) ∈ TG := tg_in 2062 (by decide +kernel) rfl
theorem w_2064 : (Jvm.Cond.instanceMethod ({ cls := "LostPlacesModel", name := "rings", desc := "()I" } : Jvm.MethodName)) ∈ TG := tg_in 2064 (by decide +kernel) rfl
theorem w_2065 : (Jvm.Cond.code ({ cls := "LostPlacesModel", name := "rings", desc := "()I" } : Jvm.MethodName) prog_14_method_87_code (5 : Nat) (Option.some Jvm.ClassFile.FieldType.int)) ∈ TG := tg_in 2065 (by decide +kernel) rfl
theorem w_2070 : (Jvm.Cond.methodLink "LostPlacesModel" (484 : Nat) ({ cls := "LostPlacesModel", name := "layCalls", desc := "(I)V" } : Jvm.MethodName)) ∈ TG := tg_in 2070 (by decide +kernel) rfl
theorem w_2072 : (Jvm.Cond.instanceMethod ({ cls := "LostPlacesModel", name := "layCalls", desc := "(I)V" } : Jvm.MethodName)) ∈ TG := tg_in 2072 (by decide +kernel) rfl
theorem w_2073 : (Jvm.Cond.code ({ cls := "LostPlacesModel", name := "layCalls", desc := "(I)V" } : Jvm.MethodName) prog_14_method_92_code (5 : Nat) (Option.none : Option Jvm.ClassFile.FieldType)) ∈ TG := tg_in 2073 (by decide +kernel) rfl
theorem w_2074 : (Jvm.Cond.methodLink "LostPlacesModel" (478 : Nat) ({ cls := "LostPlacesModel", name := "power", desc := "(II)I" } : Jvm.MethodName)) ∈ TG := tg_in 2074 (by decide +kernel) rfl
theorem w_2075 : (Jvm.Cond.static ({ cls := "LostPlacesModel", name := "power", desc := "(II)I" } : Jvm.MethodName)) ∈ TG := tg_in 2075 (by decide +kernel) rfl
theorem w_2076 : (Jvm.Cond.code ({ cls := "LostPlacesModel", name := "power", desc := "(II)I" } : Jvm.MethodName) prog_14_method_90_code (4 : Nat) (Option.some Jvm.ClassFile.FieldType.int)) ∈ TG := tg_in 2076 (by decide +kernel) rfl
theorem w_2077 : (Jvm.Cond.methodLink "LostPlacesModel" (481 : Nat) ({ cls := "LostPlacesModel", name := "digitOf", desc := "(II)I" } : Jvm.MethodName)) ∈ TG := tg_in 2077 (by decide +kernel) rfl
theorem w_2079 : (Jvm.Cond.instanceMethod ({ cls := "LostPlacesModel", name := "digitOf", desc := "(II)I" } : Jvm.MethodName)) ∈ TG := tg_in 2079 (by decide +kernel) rfl
theorem w_2080 : (Jvm.Cond.code ({ cls := "LostPlacesModel", name := "digitOf", desc := "(II)I" } : Jvm.MethodName) prog_14_method_91_code (3 : Nat) (Option.some Jvm.ClassFile.FieldType.int)) ∈ TG := tg_in 2080 (by decide +kernel) rfl
theorem w_2081 : (Jvm.Cond.methodLink "LostPlacesModel" (487 : Nat) ({ cls := "LostPlacesModel", name := "isRest", desc := "(I)Z" } : Jvm.MethodName)) ∈ TG := tg_in 2081 (by decide +kernel) rfl
theorem w_2083 : (Jvm.Cond.instanceMethod ({ cls := "LostPlacesModel", name := "isRest", desc := "(I)Z" } : Jvm.MethodName)) ∈ TG := tg_in 2083 (by decide +kernel) rfl
theorem w_2084 : (Jvm.Cond.code ({ cls := "LostPlacesModel", name := "isRest", desc := "(I)Z" } : Jvm.MethodName) prog_14_method_93_code (6 : Nat) (Option.some Jvm.ClassFile.FieldType.boolean)) ∈ TG := tg_in 2084 (by decide +kernel) rfl
theorem w_2093 : (Jvm.Cond.methodLink "LostPlacesModel" (503 : Nat) ({ cls := "LostPlacesModel", name := "goFair", desc := "(III)V" } : Jvm.MethodName)) ∈ TG := tg_in 2093 (by decide +kernel) rfl
theorem w_2095 : (Jvm.Cond.instanceMethod ({ cls := "LostPlacesModel", name := "goFair", desc := "(III)V" } : Jvm.MethodName)) ∈ TG := tg_in 2095 (by decide +kernel) rfl
theorem w_2096 : (Jvm.Cond.code ({ cls := "LostPlacesModel", name := "goFair", desc := "(III)V" } : Jvm.MethodName) prog_14_method_98_code (5 : Nat) (Option.none : Option Jvm.ClassFile.FieldType)) ∈ TG := tg_in 2096 (by decide +kernel) rfl
theorem w_2097 : (Jvm.Cond.methodLink "LostPlacesModel" (490 : Nat) ({ cls := "LostPlacesModel", name := "evenIn", desc := "([I)I" } : Jvm.MethodName)) ∈ TG := tg_in 2097 (by decide +kernel) rfl
theorem w_2099 : (Jvm.Cond.instanceMethod ({ cls := "LostPlacesModel", name := "evenIn", desc := "([I)I" } : Jvm.MethodName)) ∈ TG := tg_in 2099 (by decide +kernel) rfl
theorem w_2100 : (Jvm.Cond.code ({ cls := "LostPlacesModel", name := "evenIn", desc := "([I)I" } : Jvm.MethodName) prog_14_method_97_code (5 : Nat) (Option.some Jvm.ClassFile.FieldType.int)) ∈ TG := tg_in 2100 (by decide +kernel) rfl
theorem w_2101 : (Jvm.Cond.methodLink "LostPlacesModel" (497 : Nat) ({ cls := "LostPlacesModel", name := "digitsIn", desc := "([II)I" } : Jvm.MethodName)) ∈ TG := tg_in 2101 (by decide +kernel) rfl
theorem w_2102 : (Jvm.Cond.static ({ cls := "LostPlacesModel", name := "digitsIn", desc := "([II)I" } : Jvm.MethodName)) ∈ TG := tg_in 2102 (by decide +kernel) rfl
theorem w_2103 : (Jvm.Cond.code ({ cls := "LostPlacesModel", name := "digitsIn", desc := "([II)I" } : Jvm.MethodName) prog_14_method_96_code (4 : Nat) (Option.some Jvm.ClassFile.FieldType.int)) ∈ TG := tg_in 2103 (by decide +kernel) rfl
theorem w_2116 : (Jvm.Cond.methodLink "LostPlacesModel" (506 : Nat) ({ cls := "LostPlacesModel", name := "isSo", desc := "(I)Z" } : Jvm.MethodName)) ∈ TG := tg_in 2116 (by decide +kernel) rfl
theorem w_2118 : (Jvm.Cond.instanceMethod ({ cls := "LostPlacesModel", name := "isSo", desc := "(I)Z" } : Jvm.MethodName)) ∈ TG := tg_in 2118 (by decide +kernel) rfl
theorem w_2119 : (Jvm.Cond.code ({ cls := "LostPlacesModel", name := "isSo", desc := "(I)Z" } : Jvm.MethodName) prog_14_method_102_code (3 : Nat) (Option.some Jvm.ClassFile.FieldType.boolean)) ∈ TG := tg_in 2119 (by decide +kernel) rfl
theorem k_1 : xin 1 570 1 (1, 0, 0) := ⟨by decide +kernel, by decide, by decide⟩
theorem k_2 : xin 1 570 2 (1, 9, 0) := ⟨by decide +kernel, by decide, by decide⟩
theorem k_3 : xin 1 570 3 (2, 240, 0) := ⟨by decide +kernel, by decide, by decide⟩
theorem k_4 : xin 1 570 4 (1, 7, 0) := ⟨by decide +kernel, by decide, by decide⟩
theorem k_5 : xin 1 570 5 (2, 8, 0) := ⟨by decide +kernel, by decide, by decide⟩
theorem k_6 : xin 1 570 6 (2, 8, 0) := ⟨by decide +kernel, by decide, by decide⟩
theorem k_7 : xin 1 570 7 (2, 8, 0) := ⟨by decide +kernel, by decide, by decide⟩
theorem k_9 : xin 1 570 9 (2, 8, 0) := ⟨by decide +kernel, by decide, by decide⟩
theorem k_10 : xin 1 570 10 (2, 8, 0) := ⟨by decide +kernel, by decide, by decide⟩
theorem k_12 : xin 1 570 12 (2, 10, 0) := ⟨by decide +kernel, by decide, by decide⟩
theorem k_13 : xin 1 570 13 (2, 10, 0) := ⟨by decide +kernel, by decide, by decide⟩
theorem k_14 : xin 1 570 14 (2, 10, 0) := ⟨by decide +kernel, by decide, by decide⟩
theorem k_26 : xin 1 570 26 (1, 8, 0) := ⟨by decide +kernel, by decide, by decide⟩
theorem k_27 : xin 1 570 27 (2, 4, 0) := ⟨by decide +kernel, by decide, by decide⟩
theorem k_28 : xin 1 570 28 (1, 11, 0) := ⟨by decide +kernel, by decide, by decide⟩
theorem k_32 : xin 1 570 32 (7, 5, 195) := ⟨by decide +kernel, by decide, by decide⟩
theorem k_33 : xin 1 570 33 (1, 6, 0) := ⟨by decide +kernel, by decide, by decide⟩
theorem k_34 : xin 1 570 34 (2, 6400, 0) := ⟨by decide +kernel, by decide, by decide⟩
theorem k_35 : xin 1 570 35 (2, 100, 0) := ⟨by decide +kernel, by decide, by decide⟩
theorem k_36 : xin 1 570 36 (2, 100, 0) := ⟨by decide +kernel, by decide, by decide⟩
theorem k_37 : xin 1 570 37 (2, 6, 0) := ⟨by decide +kernel, by decide, by decide⟩
theorem k_38 : xin 1 570 38 (1, 2, 0) := ⟨by decide +kernel, by decide, by decide⟩
theorem k_39 : xin 1 570 39 (1, 5, 0) := ⟨by decide +kernel, by decide, by decide⟩
theorem k_40 : xin 1 570 40 (2, 8, 0) := ⟨by decide +kernel, by decide, by decide⟩
theorem k_41 : xin 1 570 41 (2, 8, 0) := ⟨by decide +kernel, by decide, by decide⟩
theorem k_42 : xin 1 570 42 (2, 8, 0) := ⟨by decide +kernel, by decide, by decide⟩
theorem k_43 : xin 1 570 43 (2, 8, 0) := ⟨by decide +kernel, by decide, by decide⟩
theorem k_44 : xin 1 570 44 (2, 8, 0) := ⟨by decide +kernel, by decide, by decide⟩
theorem k_45 : xin 1 570 45 (2, 8, 0) := ⟨by decide +kernel, by decide, by decide⟩
theorem k_46 : xin 1 570 46 (2, 8, 0) := ⟨by decide +kernel, by decide, by decide⟩
theorem k_48 : xin 1 570 48 (6, 40, 210) := ⟨by decide +kernel, by decide, by decide⟩
theorem k_49 : xin 1 570 49 (1, 5, 0) := ⟨by decide +kernel, by decide, by decide⟩
theorem k_58 : xin 1 570 58 (1, 4, 0) := ⟨by decide +kernel, by decide, by decide⟩
theorem k_59 : xin 1 570 59 (1, 5, 0) := ⟨by decide +kernel, by decide, by decide⟩
theorem k_60 : xin 1 570 60 (2, 8, 0) := ⟨by decide +kernel, by decide, by decide⟩
theorem k_62 : xin 1 570 62 (2, 8, 0) := ⟨by decide +kernel, by decide, by decide⟩
theorem k_63 : xin 1 570 63 (2, 8, 0) := ⟨by decide +kernel, by decide, by decide⟩
theorem k_68 : xin 1 570 68 (1, 3, 0) := ⟨by decide +kernel, by decide, by decide⟩
theorem k_69 : xin 1 570 69 (1, 5, 0) := ⟨by decide +kernel, by decide, by decide⟩
theorem k_73 : xin 1 570 73 (2, 8, 0) := ⟨by decide +kernel, by decide, by decide⟩
theorem k_78 : xin 1 570 78 (2, 4, 0) := ⟨by decide +kernel, by decide, by decide⟩
theorem k_79 : xin 1 570 79 (2, 4, 0) := ⟨by decide +kernel, by decide, by decide⟩
theorem k_80 : xin 1 570 80 (2, 68, 0) := ⟨by decide +kernel, by decide, by decide⟩
theorem k_81 : xin 1 570 81 (1, 1, 0) := ⟨by decide +kernel, by decide, by decide⟩
theorem k_82 : xin 1 570 82 (6, 11, 96) := ⟨by decide +kernel, by decide, by decide⟩
theorem k_83 : xin 1 570 83 (2, 8, 0) := ⟨by decide +kernel, by decide, by decide⟩
theorem k_84 : xin 1 570 84 (2, 8, 0) := ⟨by decide +kernel, by decide, by decide⟩
theorem k_85 : xin 1 570 85 (2, 10, 0) := ⟨by decide +kernel, by decide, by decide⟩
theorem k_86 : xin 1 570 86 (4, 1024, 0) := ⟨by decide +kernel, by decide, by decide⟩
theorem k_87 : xin 1 570 87 (1, 5, 0) := ⟨by decide +kernel, by decide, by decide⟩
theorem k_570 : xin 570 598 570 (1, 12, 0) := ⟨by decide +kernel, by decide, by decide⟩
theorem k_571 : xin 570 598 571 (3, 240, 0) := ⟨by decide +kernel, by decide, by decide⟩
theorem k_572 : xin 570 598 572 (3, 960, 0) := ⟨by decide +kernel, by decide, by decide⟩
theorem k_573 : xin 570 598 573 (2, 4, 0) := ⟨by decide +kernel, by decide, by decide⟩
theorem k_574 : xin 570 598 574 (2, 128, 0) := ⟨by decide +kernel, by decide, by decide⟩
theorem k_575 : xin 570 598 575 (2, 24, 0) := ⟨by decide +kernel, by decide, by decide⟩
theorem k_576 : xin 570 598 576 (2, 24, 0) := ⟨by decide +kernel, by decide, by decide⟩
theorem k_577 : xin 570 598 577 (2, 32, 0) := ⟨by decide +kernel, by decide, by decide⟩
theorem k_578 : xin 570 598 578 (2, 32, 0) := ⟨by decide +kernel, by decide, by decide⟩
theorem k_579 : xin 570 598 579 (2, 30, 0) := ⟨by decide +kernel, by decide, by decide⟩
theorem k_580 : xin 570 598 580 (2, 30, 0) := ⟨by decide +kernel, by decide, by decide⟩
theorem k_581 : xin 570 598 581 (2, 2, 0) := ⟨by decide +kernel, by decide, by decide⟩
theorem k_582 : xin 570 598 582 (2, 2, 0) := ⟨by decide +kernel, by decide, by decide⟩
theorem k_583 : xin 570 598 583 (2, 290, 0) := ⟨by decide +kernel, by decide, by decide⟩
theorem k_584 : xin 570 598 584 (2, 290, 0) := ⟨by decide +kernel, by decide, by decide⟩
theorem k_585 : xin 570 598 585 (5, 4093, 0) := ⟨by decide +kernel, by decide, by decide⟩
theorem k_586 : xin 570 598 586 (2, 4093, 0) := ⟨by decide +kernel, by decide, by decide⟩
theorem k_587 : xin 570 598 587 (2, 8, 0) := ⟨by decide +kernel, by decide, by decide⟩
theorem k_588 : xin 570 598 588 (2, 8, 0) := ⟨by decide +kernel, by decide, by decide⟩
theorem k_589 : xin 570 598 589 (2, 8, 0) := ⟨by decide +kernel, by decide, by decide⟩
theorem k_590 : xin 570 598 590 (2, 11600, 0) := ⟨by decide +kernel, by decide, by decide⟩
theorem k_591 : xin 570 598 591 (2, 8, 0) := ⟨by decide +kernel, by decide, by decide⟩
theorem k_592 : xin 570 598 592 (2, 8, 0) := ⟨by decide +kernel, by decide, by decide⟩
theorem k_593 : xin 570 598 593 (2, 2500, 0) := ⟨by decide +kernel, by decide, by decide⟩
theorem k_594 : xin 570 598 594 (2, 8, 0) := ⟨by decide +kernel, by decide, by decide⟩
theorem k_595 : xin 570 598 595 (2, 8, 0) := ⟨by decide +kernel, by decide, by decide⟩
theorem k_596 : xin 570 598 596 (2, 8, 0) := ⟨by decide +kernel, by decide, by decide⟩
theorem k_597 : xin 570 598 597 (2, 290, 0) := ⟨by decide +kernel, by decide, by decide⟩
theorem fg_Tape_15 : xfg R_Tape 15 9 1 := ⟨R_Tape, F_Tape, 4, rfl, by decide, w_147, rfl, i_Tape⟩
theorem fg_Tape_9 : xfg R_Tape 9 9 0 := ⟨R_Tape, F_Tape, 4, rfl, by decide, w_146, rfl, i_Tape⟩
theorem fp_Tape_15 : xfp R_Tape 15 9 1 .int := ⟨R_Tape, F_Tape, 4, t_Tape, rfl, by decide, w_147, rfl, i_Tape, rfl, by decide +kernel, t_Tape_ok, n_Tape⟩
theorem fg_Main_10 : xfg R_Main 10 0 0 := ⟨R_Main, F_Main, 20, rfl, by decide, w_585, rfl, i_Main⟩
theorem fg_Main_126 : xfg R_Main 126 9 1 := ⟨R_Tape, F_Tape, 4, rfl, by decide, w_148, rfl, i_Tape⟩
theorem fp_Main_126 : xfp R_Main 126 9 1 .int := ⟨R_Tape, F_Tape, 4, t_Tape, rfl, by decide, w_148, rfl, i_Tape, rfl, by decide +kernel, t_Tape_ok, n_Tape⟩
theorem fp_Tape_19 : xfp R_Tape 19 9 2 .int := ⟨R_Tape, F_Tape, 4, t_Tape, rfl, by decide, w_150, rfl, i_Tape, rfl, by decide +kernel, t_Tape_ok, n_Tape⟩
theorem fp_Tape_22 : xfp R_Tape 22 9 3 .int := ⟨R_Tape, F_Tape, 4, t_Tape, rfl, by decide, w_153, rfl, i_Tape, rfl, by decide +kernel, t_Tape_ok, n_Tape⟩
theorem fp_Room_9 : xfp R_Room 9 7 0 .int := ⟨R_Room, F_Room, 16, t_Room, rfl, by decide, w_172, rfl, i_Room, rfl, by decide +kernel, t_Room_ok, n_Room⟩
theorem fp_Room_15 : xfp R_Room 15 7 1 .int := ⟨R_Room, F_Room, 16, t_Room, rfl, by decide, w_179, rfl, i_Room, rfl, by decide +kernel, t_Room_ok, n_Room⟩
theorem fp_Room_18 : xfp R_Room 18 7 2 .int := ⟨R_Room, F_Room, 16, t_Room, rfl, by decide, w_188, rfl, i_Room, rfl, by decide +kernel, t_Room_ok, n_Room⟩
theorem fp_Room_21 : xfp R_Room 21 7 3 .int := ⟨R_Room, F_Room, 16, t_Room, rfl, by decide, w_193, rfl, i_Room, rfl, by decide +kernel, t_Room_ok, n_Room⟩
theorem fp_Room_55 : xfp R_Room 55 7 14 .int := ⟨R_Room, F_Room, 16, t_Room, rfl, by decide, w_228, rfl, i_Room, rfl, by decide +kernel, t_Room_ok, n_Room⟩
theorem fp_Room_58 : xfp R_Room 58 7 15 .int := ⟨R_Room, F_Room, 16, t_Room, rfl, by decide, w_232, rfl, i_Room, rfl, by decide +kernel, t_Room_ok, n_Room⟩
theorem fg_Tape_19 : xfg R_Tape 19 9 2 := ⟨R_Tape, F_Tape, 4, rfl, by decide, w_150, rfl, i_Tape⟩
theorem fg_RoomReader_82 : xfg R_RoomReader 82 7 0 := ⟨R_Room, F_Room, 16, rfl, by decide, w_175, rfl, i_Room⟩
theorem fg_RoomReader_85 : xfg R_RoomReader 85 7 1 := ⟨R_Room, F_Room, 16, rfl, by decide, w_184, rfl, i_Room⟩
theorem fg_RoomReader_88 : xfg R_RoomReader 88 7 2 := ⟨R_Room, F_Room, 16, rfl, by decide, w_189, rfl, i_Room⟩
theorem fg_RoomReader_91 : xfg R_RoomReader 91 7 3 := ⟨R_Room, F_Room, 16, rfl, by decide, w_194, rfl, i_Room⟩
theorem fg_Tape_22 : xfg R_Tape 22 9 3 := ⟨R_Tape, F_Tape, 4, rfl, by decide, w_153, rfl, i_Tape⟩
theorem fg_RoomReader_15 : xfg R_RoomReader 15 8 0 := ⟨R_RoomReader, F_RoomReader, 2, rfl, by decide, w_278, rfl, i_RoomReader⟩
theorem fg_RoomReader_68 : xfg R_RoomReader 68 9 2 := ⟨R_Tape, F_Tape, 4, rfl, by decide, w_151, rfl, i_Tape⟩
theorem fp_RoomReader_68 : xfp R_RoomReader 68 9 2 .int := ⟨R_Tape, F_Tape, 4, t_Tape, rfl, by decide, w_151, rfl, i_Tape, rfl, by decide +kernel, t_Tape_ok, n_Tape⟩
theorem fg_RoomReader_11 : xfg R_RoomReader 11 8 1 := ⟨R_RoomReader, F_RoomReader, 2, rfl, by decide, w_279, rfl, i_RoomReader⟩
theorem fg_Room_9 : xfg R_Room 9 7 0 := ⟨R_Room, F_Room, 16, rfl, by decide, w_172, rfl, i_Room⟩
theorem fg_Room_24 : xfg R_Room 24 7 4 := ⟨R_Room, F_Room, 16, rfl, by decide, w_195, rfl, i_Room⟩
theorem fg_Room_28 : xfg R_Room 28 7 5 := ⟨R_Room, F_Room, 16, rfl, by decide, w_199, rfl, i_Room⟩
theorem fg_Room_31 : xfg R_Room 31 7 6 := ⟨R_Room, F_Room, 16, rfl, by decide, w_202, rfl, i_Room⟩
theorem fg_Room_15 : xfg R_Room 15 7 1 := ⟨R_Room, F_Room, 16, rfl, by decide, w_179, rfl, i_Room⟩
theorem fg_Room_34 : xfg R_Room 34 7 7 := ⟨R_Room, F_Room, 16, rfl, by decide, w_206, rfl, i_Room⟩
theorem fg_Room_37 : xfg R_Room 37 7 8 := ⟨R_Room, F_Room, 16, rfl, by decide, w_208, rfl, i_Room⟩
theorem fg_Room_40 : xfg R_Room 40 7 9 := ⟨R_Room, F_Room, 16, rfl, by decide, w_213, rfl, i_Room⟩
theorem fg_Room_43 : xfg R_Room 43 7 10 := ⟨R_Room, F_Room, 16, rfl, by decide, w_216, rfl, i_Room⟩
theorem fg_Room_18 : xfg R_Room 18 7 2 := ⟨R_Room, F_Room, 16, rfl, by decide, w_188, rfl, i_Room⟩
theorem fg_Room_46 : xfg R_Room 46 7 11 := ⟨R_Room, F_Room, 16, rfl, by decide, w_218, rfl, i_Room⟩
theorem fg_Room_49 : xfg R_Room 49 7 12 := ⟨R_Room, F_Room, 16, rfl, by decide, w_221, rfl, i_Room⟩
theorem fg_Room_52 : xfg R_Room 52 7 13 := ⟨R_Room, F_Room, 16, rfl, by decide, w_225, rfl, i_Room⟩
theorem fp_RoomReader_91 : xfp R_RoomReader 91 7 3 .int := ⟨R_Room, F_Room, 16, t_Room, rfl, by decide, w_194, rfl, i_Room, rfl, by decide +kernel, t_Room_ok, n_Room⟩
theorem fg_RoomReader_55 : xfg R_RoomReader 55 9 3 := ⟨R_Tape, F_Tape, 4, rfl, by decide, w_155, rfl, i_Tape⟩
theorem fg_RoomReader_47 : xfg R_RoomReader 47 9 1 := ⟨R_Tape, F_Tape, 4, rfl, by decide, w_149, rfl, i_Tape⟩
theorem fg_Main_44 : xfg R_Main 44 0 5 := ⟨R_Main, F_Main, 20, rfl, by decide, w_590, rfl, i_Main⟩
theorem fg_Main_48 : xfg R_Main 48 0 6 := ⟨R_Main, F_Main, 20, rfl, by decide, w_591, rfl, i_Main⟩
theorem fp_Taste_15 : xfp R_Taste 15 10 1 .int := ⟨R_Taste, F_Taste, 4, t_Taste, rfl, by decide, w_298, rfl, i_Taste, rfl, by decide +kernel, t_Taste_ok, n_Taste⟩
theorem fp_Taste_22 : xfp R_Taste 22 10 3 .boolean := ⟨R_Taste, F_Taste, 4, t_Taste, rfl, by decide, w_300, rfl, i_Taste, rfl, by decide +kernel, t_Taste_ok, n_Taste⟩
theorem fg_Taste_15 : xfg R_Taste 15 10 1 := ⟨R_Taste, F_Taste, 4, rfl, by decide, w_298, rfl, i_Taste⟩
theorem fg_Taste_11 : xfg R_Taste 11 10 0 := ⟨R_Taste, F_Taste, 4, rfl, by decide, w_297, rfl, i_Taste⟩
theorem fg_TasteReader_18 : xfg R_TasteReader 18 11 0 := ⟨R_TasteReader, F_TasteReader, 2, rfl, by decide, w_311, rfl, i_TasteReader⟩
theorem fg_TasteReader_87 : xfg R_TasteReader 87 9 2 := ⟨R_Tape, F_Tape, 4, rfl, by decide, w_152, rfl, i_Tape⟩
theorem fg_TasteReader_12 : xfg R_TasteReader 12 11 1 := ⟨R_TasteReader, F_TasteReader, 2, rfl, by decide, w_312, rfl, i_TasteReader⟩
theorem fp_TasteReader_87 : xfp R_TasteReader 87 9 2 .int := ⟨R_Tape, F_Tape, 4, t_Tape, rfl, by decide, w_152, rfl, i_Tape, rfl, by decide +kernel, t_Tape_ok, n_Tape⟩
theorem fp_TasteReader_12 : xfp R_TasteReader 12 11 1 (.object "LostPlaces$Taste") := ⟨R_TasteReader, F_TasteReader, 2, t_TasteReader, rfl, by decide, w_312, rfl, i_TasteReader, rfl, by decide +kernel, t_TasteReader_ok, n_TasteReader⟩
theorem fg_TasteReader_34 : xfg R_TasteReader 34 9 3 := ⟨R_Tape, F_Tape, 4, rfl, by decide, w_154, rfl, i_Tape⟩
theorem fg_Main_31 : xfg R_Main 31 0 3 := ⟨R_Main, F_Main, 20, rfl, by decide, w_588, rfl, i_Main⟩
theorem fg_Main_23 : xfg R_Main 23 0 2 := ⟨R_Main, F_Main, 20, rfl, by decide, w_587, rfl, i_Main⟩
theorem fg_Main_38 : xfg R_Main 38 0 4 := ⟨R_Main, F_Main, 20, rfl, by decide, w_589, rfl, i_Main⟩
theorem fg_Hall_9 : xfg R_Hall 9 5 0 := ⟨R_Hall, F_Hall, 11, rfl, by decide, w_393, rfl, i_Hall⟩
theorem fg_Hall_15 : xfg R_Hall 15 5 1 := ⟨R_Hall, F_Hall, 11, rfl, by decide, w_399, rfl, i_Hall⟩
theorem fp_Hall_43 : xfp R_Hall 43 5 10 .int := ⟨R_Hall, F_Hall, 11, t_Hall, rfl, by decide, w_428, rfl, i_Hall, rfl, by decide +kernel, t_Hall_ok, n_Hall⟩
theorem fg_Hall_24 : xfg R_Hall 24 5 4 := ⟨R_Hall, F_Hall, 11, rfl, by decide, w_410, rfl, i_Hall⟩
theorem fp_Hall_33 : xfp R_Hall 33 5 7 .int := ⟨R_Hall, F_Hall, 11, t_Hall, rfl, by decide, w_418, rfl, i_Hall, rfl, by decide +kernel, t_Hall_ok, n_Hall⟩
theorem fp_Hall_37 : xfp R_Hall 37 5 8 .int := ⟨R_Hall, F_Hall, 11, t_Hall, rfl, by decide, w_424, rfl, i_Hall, rfl, by decide +kernel, t_Hall_ok, n_Hall⟩
theorem fg_Hall_49 : xfg R_Hall 49 7 1 := ⟨R_Room, F_Room, 16, rfl, by decide, w_181, rfl, i_Room⟩
theorem fg_Hall_52 : xfg R_Hall 52 7 7 := ⟨R_Room, F_Room, 16, rfl, by decide, w_207, rfl, i_Room⟩
theorem fg_Hall_55 : xfg R_Hall 55 7 0 := ⟨R_Room, F_Room, 16, rfl, by decide, w_173, rfl, i_Room⟩
theorem fg_Hall_18 : xfg R_Hall 18 5 2 := ⟨R_Hall, F_Hall, 11, rfl, by decide, w_402, rfl, i_Hall⟩
theorem fg_Hall_46 : xfg R_Hall 46 7 10 := ⟨R_Room, F_Room, 16, rfl, by decide, w_217, rfl, i_Room⟩
theorem fg_Hall_21 : xfg R_Hall 21 5 3 := ⟨R_Hall, F_Hall, 11, rfl, by decide, w_405, rfl, i_Hall⟩
theorem fg_Hall_27 : xfg R_Hall 27 5 5 := ⟨R_Hall, F_Hall, 11, rfl, by decide, w_412, rfl, i_Hall⟩
theorem fg_Hall_30 : xfg R_Hall 30 5 6 := ⟨R_Hall, F_Hall, 11, rfl, by decide, w_415, rfl, i_Hall⟩
theorem fg_Taste_19 : xfg R_Taste 19 10 2 := ⟨R_Taste, F_Taste, 4, rfl, by decide, w_299, rfl, i_Taste⟩
theorem fg_Likings_38 : xfg R_Likings 38 6 0 := ⟨R_Likings, F_Likings, 6, rfl, by decide, w_337, rfl, i_Likings⟩
theorem fg_Likings_62 : xfg R_Likings 62 7 1 := ⟨R_Room, F_Room, 16, rfl, by decide, w_182, rfl, i_Room⟩
theorem fg_Likings_65 : xfg R_Likings 65 7 0 := ⟨R_Room, F_Room, 16, rfl, by decide, w_174, rfl, i_Room⟩
theorem fg_Likings_31 : xfg R_Likings 31 6 4 := ⟨R_Likings, F_Likings, 6, rfl, by decide, w_341, rfl, i_Likings⟩
theorem fg_Likings_68 : xfg R_Likings 68 7 4 := ⟨R_Room, F_Room, 16, rfl, by decide, w_196, rfl, i_Room⟩
theorem fg_Likings_51 : xfg R_Likings 51 7 14 := ⟨R_Room, F_Room, 16, rfl, by decide, w_229, rfl, i_Room⟩
theorem fg_Likings_71 : xfg R_Likings 71 7 5 := ⟨R_Room, F_Room, 16, rfl, by decide, w_200, rfl, i_Room⟩
theorem fg_Likings_74 : xfg R_Likings 74 7 6 := ⟨R_Room, F_Room, 16, rfl, by decide, w_203, rfl, i_Room⟩
theorem fg_Likings_77 : xfg R_Likings 77 7 8 := ⟨R_Room, F_Room, 16, rfl, by decide, w_209, rfl, i_Room⟩
theorem fg_Likings_11 : xfg R_Likings 11 6 1 := ⟨R_Likings, F_Likings, 6, rfl, by decide, w_338, rfl, i_Likings⟩
theorem fg_Likings_34 : xfg R_Likings 34 6 5 := ⟨R_Likings, F_Likings, 6, rfl, by decide, w_342, rfl, i_Likings⟩
theorem fp_Likings_34 : xfp R_Likings 34 6 5 .int := ⟨R_Likings, F_Likings, 6, t_Likings, rfl, by decide, w_342, rfl, i_Likings, rfl, by decide +kernel, t_Likings_ok, n_Likings⟩
theorem fg_Likings_46 : xfg R_Likings 46 7 15 := ⟨R_Room, F_Room, 16, rfl, by decide, w_233, rfl, i_Room⟩
theorem fg_Likings_18 : xfg R_Likings 18 6 3 := ⟨R_Likings, F_Likings, 6, rfl, by decide, w_340, rfl, i_Likings⟩
theorem fg_Likings_15 : xfg R_Likings 15 6 2 := ⟨R_Likings, F_Likings, 6, rfl, by decide, w_339, rfl, i_Likings⟩
theorem fg_Likings_42 : xfg R_Likings 42 10 3 := ⟨R_Taste, F_Taste, 4, rfl, by decide, w_301, rfl, i_Taste⟩
theorem fg_Main_52 : xfg R_Main 52 0 7 := ⟨R_Main, F_Main, 20, rfl, by decide, w_592, rfl, i_Main⟩
theorem fg_Main_63 : xfg R_Main 63 0 9 := ⟨R_Main, F_Main, 20, rfl, by decide, w_594, rfl, i_Main⟩
theorem fg_Main_19 : xfg R_Main 19 0 1 := ⟨R_Main, F_Main, 20, rfl, by decide, w_586, rfl, i_Main⟩
theorem fp_Main_87 : xfp R_Main 87 0 13 .int := ⟨R_Main, F_Main, 20, t_Main, rfl, by decide, w_598, rfl, i_Main, rfl, by decide +kernel, t_Main_ok, n_Main⟩
theorem fp_Main_96 : xfp R_Main 96 0 16 .boolean := ⟨R_Main, F_Main, 20, t_Main, rfl, by decide, w_601, rfl, i_Main, rfl, by decide +kernel, t_Main_ok, n_Main⟩
theorem fg_Main_121 : xfg R_Main 121 0 19 := ⟨R_Main, F_Main, 20, rfl, by decide, w_604, rfl, i_Main⟩
theorem fp_Main_148 : xfp R_Main 148 1 10 .int := ⟨R_Branches, F_Branches, 17, t_Branches, rfl, by decide, w_541, rfl, i_Branches, rfl, by decide +kernel, t_Branches_ok, n_Branches⟩
theorem fg_Main_79 : xfg R_Main 79 0 11 := ⟨R_Main, F_Main, 20, rfl, by decide, w_596, rfl, i_Main⟩
theorem fg_Main_157 : xfg R_Main 157 7 1 := ⟨R_Room, F_Room, 16, rfl, by decide, w_186, rfl, i_Room⟩
theorem fp_Main_48 : xfp R_Main 48 0 6 .int := ⟨R_Main, F_Main, 20, t_Main, rfl, by decide, w_591, rfl, i_Main, rfl, by decide +kernel, t_Main_ok, n_Main⟩
theorem fg_Main_238 : xfg R_Main 238 7 0 := ⟨R_Room, F_Room, 16, rfl, by decide, w_178, rfl, i_Room⟩
theorem fg_Main_167 : xfg R_Main 167 7 4 := ⟨R_Room, F_Room, 16, rfl, by decide, w_197, rfl, i_Room⟩
theorem fg_Main_171 : xfg R_Main 171 7 5 := ⟨R_Room, F_Room, 16, rfl, by decide, w_201, rfl, i_Room⟩
theorem fg_Main_174 : xfg R_Main 174 7 6 := ⟨R_Room, F_Room, 16, rfl, by decide, w_204, rfl, i_Room⟩
theorem fg_Main_177 : xfg R_Main 177 5 4 := ⟨R_Hall, F_Hall, 11, rfl, by decide, w_411, rfl, i_Hall⟩
theorem fg_Main_180 : xfg R_Main 180 5 5 := ⟨R_Hall, F_Hall, 11, rfl, by decide, w_413, rfl, i_Hall⟩
theorem fg_Main_183 : xfg R_Main 183 5 6 := ⟨R_Hall, F_Hall, 11, rfl, by decide, w_416, rfl, i_Hall⟩
theorem fg_Main_196 : xfg R_Main 196 5 0 := ⟨R_Hall, F_Hall, 11, rfl, by decide, w_398, rfl, i_Hall⟩
theorem fg_Main_199 : xfg R_Main 199 5 1 := ⟨R_Hall, F_Hall, 11, rfl, by decide, w_400, rfl, i_Hall⟩
theorem fg_Main_202 : xfg R_Main 202 7 8 := ⟨R_Room, F_Room, 16, rfl, by decide, w_211, rfl, i_Room⟩
theorem fg_Main_205 : xfg R_Main 205 7 9 := ⟨R_Room, F_Room, 16, rfl, by decide, w_214, rfl, i_Room⟩
theorem fg_Main_208 : xfg R_Main 208 5 2 := ⟨R_Hall, F_Hall, 11, rfl, by decide, w_404, rfl, i_Hall⟩
theorem fg_Main_211 : xfg R_Main 211 5 3 := ⟨R_Hall, F_Hall, 11, rfl, by decide, w_409, rfl, i_Hall⟩
theorem fg_Main_214 : xfg R_Main 214 7 2 := ⟨R_Room, F_Room, 16, rfl, by decide, w_192, rfl, i_Room⟩
theorem fg_Main_217 : xfg R_Main 217 7 11 := ⟨R_Room, F_Room, 16, rfl, by decide, w_219, rfl, i_Room⟩
theorem fg_Main_220 : xfg R_Main 220 7 12 := ⟨R_Room, F_Room, 16, rfl, by decide, w_224, rfl, i_Room⟩
theorem fg_Main_223 : xfg R_Main 223 7 13 := ⟨R_Room, F_Room, 16, rfl, by decide, w_226, rfl, i_Room⟩
theorem fp_Main_52 : xfp R_Main 52 0 7 .int := ⟨R_Main, F_Main, 20, t_Main, rfl, by decide, w_592, rfl, i_Main, rfl, by decide +kernel, t_Main_ok, n_Main⟩
theorem fg_Main_55 : xfg R_Main 55 0 8 := ⟨R_Main, F_Main, 20, rfl, by decide, w_593, rfl, i_Main⟩
theorem fp_Main_55 : xfp R_Main 55 0 8 .int := ⟨R_Main, F_Main, 20, t_Main, rfl, by decide, w_593, rfl, i_Main, rfl, by decide +kernel, t_Main_ok, n_Main⟩
theorem fg_Main_227 : xfg R_Main 227 5 7 := ⟨R_Hall, F_Hall, 11, rfl, by decide, w_423, rfl, i_Hall⟩
theorem fg_Main_241 : xfg R_Main 241 7 15 := ⟨R_Room, F_Room, 16, rfl, by decide, w_238, rfl, i_Room⟩
theorem fg_Hall_33 : xfg R_Hall 33 5 7 := ⟨R_Hall, F_Hall, 11, rfl, by decide, w_418, rfl, i_Hall⟩
theorem fg_Hall_37 : xfg R_Hall 37 5 8 := ⟨R_Hall, F_Hall, 11, rfl, by decide, w_424, rfl, i_Hall⟩
theorem fg_Hall_43 : xfg R_Hall 43 5 10 := ⟨R_Hall, F_Hall, 11, rfl, by decide, w_428, rfl, i_Hall⟩
theorem fg_Hall_40 : xfg R_Hall 40 5 9 := ⟨R_Hall, F_Hall, 11, rfl, by decide, w_427, rfl, i_Hall⟩
theorem fg_Main_90 : xfg R_Main 90 0 14 := ⟨R_Main, F_Main, 20, rfl, by decide, w_599, rfl, i_Main⟩
theorem fg_Main_83 : xfg R_Main 83 0 12 := ⟨R_Main, F_Main, 20, rfl, by decide, w_597, rfl, i_Main⟩
theorem fp_Main_90 : xfp R_Main 90 0 14 .int := ⟨R_Main, F_Main, 20, t_Main, rfl, by decide, w_599, rfl, i_Main, rfl, by decide +kernel, t_Main_ok, n_Main⟩
theorem fg_Main_87 : xfg R_Main 87 0 13 := ⟨R_Main, F_Main, 20, rfl, by decide, w_598, rfl, i_Main⟩
theorem fg_Evening_28 : xfg R_Evening 28 2 0 := ⟨R_Evening, F_Evening, 7, rfl, by decide, w_364, rfl, i_Evening⟩
theorem fg_Evening_113 : xfg R_Evening 113 7 0 := ⟨R_Room, F_Room, 16, rfl, by decide, w_177, rfl, i_Room⟩
theorem fg_Evening_127 : xfg R_Evening 127 5 5 := ⟨R_Hall, F_Hall, 11, rfl, by decide, w_414, rfl, i_Hall⟩
theorem fg_Evening_116 : xfg R_Evening 116 5 6 := ⟨R_Hall, F_Hall, 11, rfl, by decide, w_417, rfl, i_Hall⟩
theorem fg_Evening_62 : xfg R_Evening 62 5 7 := ⟨R_Hall, F_Hall, 11, rfl, by decide, w_421, rfl, i_Hall⟩
theorem fg_Evening_40 : xfg R_Evening 40 7 1 := ⟨R_Room, F_Room, 16, rfl, by decide, w_185, rfl, i_Room⟩
theorem fg_Evening_45 : xfg R_Evening 45 5 0 := ⟨R_Hall, F_Hall, 11, rfl, by decide, w_397, rfl, i_Hall⟩
theorem fg_Evening_121 : xfg R_Evening 121 7 2 := ⟨R_Room, F_Room, 16, rfl, by decide, w_191, rfl, i_Room⟩
theorem fg_Evening_15 : xfg R_Evening 15 2 3 := ⟨R_Evening, F_Evening, 7, rfl, by decide, w_368, rfl, i_Evening⟩
theorem fg_Evening_21 : xfg R_Evening 21 2 5 := ⟨R_Evening, F_Evening, 7, rfl, by decide, w_370, rfl, i_Evening⟩
theorem fg_Evening_18 : xfg R_Evening 18 2 4 := ⟨R_Evening, F_Evening, 7, rfl, by decide, w_369, rfl, i_Evening⟩
theorem fg_Evening_124 : xfg R_Evening 124 7 12 := ⟨R_Room, F_Room, 16, rfl, by decide, w_223, rfl, i_Room⟩
theorem fg_Evening_11 : xfg R_Evening 11 2 2 := ⟨R_Evening, F_Evening, 7, rfl, by decide, w_366, rfl, i_Evening⟩
theorem fg_Evening_133 : xfg R_Evening 133 7 11 := ⟨R_Room, F_Room, 16, rfl, by decide, w_220, rfl, i_Room⟩
theorem fg_Evening_140 : xfg R_Evening 140 7 13 := ⟨R_Room, F_Room, 16, rfl, by decide, w_227, rfl, i_Room⟩
theorem fg_Evening_32 : xfg R_Evening 32 2 1 := ⟨R_Evening, F_Evening, 7, rfl, by decide, w_365, rfl, i_Evening⟩
theorem fg_Evening_119 : xfg R_Evening 119 5 1 := ⟨R_Hall, F_Hall, 11, rfl, by decide, w_401, rfl, i_Hall⟩
theorem fg_Evening_143 : xfg R_Evening 143 7 8 := ⟨R_Room, F_Room, 16, rfl, by decide, w_212, rfl, i_Room⟩
theorem fg_Evening_176 : xfg R_Evening 176 7 6 := ⟨R_Room, F_Room, 16, rfl, by decide, w_205, rfl, i_Room⟩
theorem fg_Evening_169 : xfg R_Evening 169 7 9 := ⟨R_Room, F_Room, 16, rfl, by decide, w_215, rfl, i_Room⟩
theorem fg_Evening_101 : xfg R_Evening 101 5 10 := ⟨R_Hall, F_Hall, 11, rfl, by decide, w_429, rfl, i_Hall⟩
theorem fg_Evening_158 : xfg R_Evening 158 5 8 := ⟨R_Hall, F_Hall, 11, rfl, by decide, w_426, rfl, i_Hall⟩
theorem fp_Evening_101 : xfp R_Evening 101 5 10 .int := ⟨R_Hall, F_Hall, 11, t_Hall, rfl, by decide, w_429, rfl, i_Hall, rfl, by decide +kernel, t_Hall_ok, n_Hall⟩
theorem fg_Evening_161 : xfg R_Evening 161 7 4 := ⟨R_Room, F_Room, 16, rfl, by decide, w_198, rfl, i_Room⟩
theorem fp_Evening_62 : xfp R_Evening 62 5 7 .int := ⟨R_Hall, F_Hall, 11, t_Hall, rfl, by decide, w_421, rfl, i_Hall, rfl, by decide +kernel, t_Hall_ok, n_Hall⟩
theorem fg_Evening_94 : xfg R_Evening 94 5 3 := ⟨R_Hall, F_Hall, 11, rfl, by decide, w_408, rfl, i_Hall⟩
theorem fg_Main_72 : xfg R_Main 72 0 10 := ⟨R_Main, F_Main, 20, rfl, by decide, w_595, rfl, i_Main⟩
theorem fp_Evening_24 : xfp R_Evening 24 2 6 .long := ⟨R_Evening, F_Evening, 7, t_Evening, rfl, by decide, w_371, rfl, i_Evening, rfl, by decide +kernel, t_Evening_ok, n_Evening⟩
theorem fg_Evening_24 : xfg R_Evening 24 2 6 := ⟨R_Evening, F_Evening, 7, rfl, by decide, w_371, rfl, i_Evening⟩
theorem fg_Evening_59 : xfg R_Evening 59 7 15 := ⟨R_Room, F_Room, 16, rfl, by decide, w_236, rfl, i_Room⟩
theorem fg_Guess_12 : xfg R_Guess 12 4 4 := ⟨R_Guess, F_Guess, 7, rfl, by decide, w_466, rfl, i_Guess⟩
theorem fg_Guess_37 : xfg R_Guess 37 4 3 := ⟨R_Guess, F_Guess, 7, rfl, by decide, w_465, rfl, i_Guess⟩
theorem fg_Guess_33 : xfg R_Guess 33 4 2 := ⟨R_Guess, F_Guess, 7, rfl, by decide, w_464, rfl, i_Guess⟩
theorem fg_Guess_44 : xfg R_Guess 44 5 7 := ⟨R_Hall, F_Hall, 11, rfl, by decide, w_419, rfl, i_Hall⟩
theorem fg_Main_105 : xfg R_Main 105 0 17 := ⟨R_Main, F_Main, 20, rfl, by decide, w_602, rfl, i_Main⟩
theorem fg_Main_289 : xfg R_Main 289 4 4 := ⟨R_Guess, F_Guess, 7, rfl, by decide, w_467, rfl, i_Guess⟩
theorem fg_Guess_53 : xfg R_Guess 53 5 0 := ⟨R_Hall, F_Hall, 11, rfl, by decide, w_395, rfl, i_Hall⟩
theorem fg_Guess_29 : xfg R_Guess 29 4 1 := ⟨R_Guess, F_Guess, 7, rfl, by decide, w_463, rfl, i_Guess⟩
theorem fp_Guess_18 : xfp R_Guess 18 4 5 .int := ⟨R_Guess, F_Guess, 7, t_Guess, rfl, by decide, w_468, rfl, i_Guess, rfl, by decide +kernel, t_Guess_ok, n_Guess⟩
theorem fp_Guess_22 : xfp R_Guess 22 4 6 .int := ⟨R_Guess, F_Guess, 7, t_Guess, rfl, by decide, w_470, rfl, i_Guess, rfl, by decide +kernel, t_Guess_ok, n_Guess⟩
theorem fg_Main_295 : xfg R_Main 295 4 5 := ⟨R_Guess, F_Guess, 7, rfl, by decide, w_469, rfl, i_Guess⟩
theorem fg_Main_298 : xfg R_Main 298 4 6 := ⟨R_Guess, F_Guess, 7, rfl, by decide, w_471, rfl, i_Guess⟩
theorem fp_Evening_15 : xfp R_Evening 15 2 3 .int := ⟨R_Evening, F_Evening, 7, t_Evening, rfl, by decide, w_368, rfl, i_Evening, rfl, by decide +kernel, t_Evening_ok, n_Evening⟩
theorem fp_Evening_18 : xfp R_Evening 18 2 4 .int := ⟨R_Evening, F_Evening, 7, t_Evening, rfl, by decide, w_369, rfl, i_Evening, rfl, by decide +kernel, t_Evening_ok, n_Evening⟩
theorem fp_Evening_21 : xfp R_Evening 21 2 5 .int := ⟨R_Evening, F_Evening, 7, t_Evening, rfl, by decide, w_370, rfl, i_Evening, rfl, by decide +kernel, t_Evening_ok, n_Evening⟩
theorem fg_Guess_22 : xfg R_Guess 22 4 6 := ⟨R_Guess, F_Guess, 7, rfl, by decide, w_470, rfl, i_Guess⟩
theorem fg_Guess_25 : xfg R_Guess 25 4 0 := ⟨R_Guess, F_Guess, 7, rfl, by decide, w_462, rfl, i_Guess⟩
theorem fg_Guess_74 : xfg R_Guess 74 7 15 := ⟨R_Room, F_Room, 16, rfl, by decide, w_235, rfl, i_Room⟩
theorem fg_Guess_86 : xfg R_Guess 86 5 3 := ⟨R_Hall, F_Hall, 11, rfl, by decide, w_406, rfl, i_Hall⟩
theorem fg_Guess_92 : xfg R_Guess 92 5 2 := ⟨R_Hall, F_Hall, 11, rfl, by decide, w_403, rfl, i_Hall⟩
theorem fg_Guess_95 : xfg R_Guess 95 7 0 := ⟨R_Room, F_Room, 16, rfl, by decide, w_176, rfl, i_Room⟩
theorem fg_Guess_106 : xfg R_Guess 106 7 14 := ⟨R_Room, F_Room, 16, rfl, by decide, w_230, rfl, i_Room⟩
theorem fg_Guess_112 : xfg R_Guess 112 7 1 := ⟨R_Room, F_Room, 16, rfl, by decide, w_187, rfl, i_Room⟩
theorem fg_Guess_115 : xfg R_Guess 115 5 8 := ⟨R_Hall, F_Hall, 11, rfl, by decide, w_425, rfl, i_Hall⟩
theorem fp_Game_22 : xfp R_Game 22 3 5 .int := ⟨R_Game, F_Game, 8, t_Game, rfl, by decide, w_500, rfl, i_Game, rfl, by decide +kernel, t_Game_ok, n_Game⟩
theorem fg_Game_32 : xfg R_Game 32 3 0 := ⟨R_Game, F_Game, 8, rfl, by decide, w_495, rfl, i_Game⟩
theorem fg_Game_43 : xfg R_Game 43 7 1 := ⟨R_Room, F_Room, 16, rfl, by decide, w_180, rfl, i_Room⟩
theorem fg_Game_22 : xfg R_Game 22 3 5 := ⟨R_Game, F_Game, 8, rfl, by decide, w_500, rfl, i_Game⟩
theorem fg_Game_40 : xfg R_Game 40 3 2 := ⟨R_Game, F_Game, 8, rfl, by decide, w_497, rfl, i_Game⟩
theorem fg_Game_48 : xfg R_Game 48 5 0 := ⟨R_Hall, F_Hall, 11, rfl, by decide, w_394, rfl, i_Hall⟩
theorem fg_Game_18 : xfg R_Game 18 3 4 := ⟨R_Game, F_Game, 8, rfl, by decide, w_499, rfl, i_Game⟩
theorem fg_Main_114 : xfg R_Main 114 0 18 := ⟨R_Main, F_Main, 20, rfl, by decide, w_603, rfl, i_Main⟩
theorem fg_Game_26 : xfg R_Game 26 3 6 := ⟨R_Game, F_Game, 8, rfl, by decide, w_501, rfl, i_Game⟩
theorem fg_Game_55 : xfg R_Game 55 7 8 := ⟨R_Room, F_Room, 16, rfl, by decide, w_210, rfl, i_Room⟩
theorem fg_Game_14 : xfg R_Game 14 3 3 := ⟨R_Game, F_Game, 8, rfl, by decide, w_498, rfl, i_Game⟩
theorem fg_Game_36 : xfg R_Game 36 3 1 := ⟨R_Game, F_Game, 8, rfl, by decide, w_496, rfl, i_Game⟩
theorem fg_Game_71 : xfg R_Game 71 7 15 := ⟨R_Room, F_Room, 16, rfl, by decide, w_237, rfl, i_Room⟩
theorem fg_Game_29 : xfg R_Game 29 3 7 := ⟨R_Game, F_Game, 8, rfl, by decide, w_502, rfl, i_Game⟩
theorem fg_Game_81 : xfg R_Game 81 5 3 := ⟨R_Hall, F_Hall, 11, rfl, by decide, w_407, rfl, i_Hall⟩
theorem fg_Game_62 : xfg R_Game 62 5 7 := ⟨R_Hall, F_Hall, 11, rfl, by decide, w_422, rfl, i_Hall⟩
theorem fg_Branches_11 : xfg R_Branches 11 1 4 := ⟨R_Branches, F_Branches, 17, rfl, by decide, w_532, rfl, i_Branches⟩
theorem fg_Branches_58 : xfg R_Branches 58 1 0 := ⟨R_Branches, F_Branches, 17, rfl, by decide, w_528, rfl, i_Branches⟩
theorem fg_Branches_81 : xfg R_Branches 81 7 1 := ⟨R_Room, F_Room, 16, rfl, by decide, w_183, rfl, i_Room⟩
theorem fg_Branches_66 : xfg R_Branches 66 1 2 := ⟨R_Branches, F_Branches, 17, rfl, by decide, w_530, rfl, i_Branches⟩
theorem fg_Branches_99 : xfg R_Branches 99 5 7 := ⟨R_Hall, F_Hall, 11, rfl, by decide, w_420, rfl, i_Hall⟩
theorem fg_Branches_17 : xfg R_Branches 17 1 5 := ⟨R_Branches, F_Branches, 17, rfl, by decide, w_533, rfl, i_Branches⟩
theorem fg_Branches_86 : xfg R_Branches 86 7 15 := ⟨R_Room, F_Room, 16, rfl, by decide, w_234, rfl, i_Room⟩
theorem fg_Branches_24 : xfg R_Branches 24 1 7 := ⟨R_Branches, F_Branches, 17, rfl, by decide, w_536, rfl, i_Branches⟩
theorem fp_Branches_24 : xfp R_Branches 24 1 7 .int := ⟨R_Branches, F_Branches, 17, t_Branches, rfl, by decide, w_536, rfl, i_Branches, rfl, by decide +kernel, t_Branches_ok, n_Branches⟩
theorem fp_Branches_21 : xfp R_Branches 21 1 6 .int := ⟨R_Branches, F_Branches, 17, t_Branches, rfl, by decide, w_534, rfl, i_Branches, rfl, by decide +kernel, t_Branches_ok, n_Branches⟩
theorem fp_Branches_17 : xfp R_Branches 17 1 5 .int := ⟨R_Branches, F_Branches, 17, t_Branches, rfl, by decide, w_533, rfl, i_Branches, rfl, by decide +kernel, t_Branches_ok, n_Branches⟩
theorem fg_Branches_70 : xfg R_Branches 70 1 3 := ⟨R_Branches, F_Branches, 17, rfl, by decide, w_531, rfl, i_Branches⟩
theorem fg_Main_345 : xfg R_Main 345 1 6 := ⟨R_Branches, F_Branches, 17, rfl, by decide, w_535, rfl, i_Branches⟩
theorem fg_Main_348 : xfg R_Main 348 1 7 := ⟨R_Branches, F_Branches, 17, rfl, by decide, w_537, rfl, i_Branches⟩
theorem fg_Branches_34 : xfg R_Branches 34 1 10 := ⟨R_Branches, F_Branches, 17, rfl, by decide, w_540, rfl, i_Branches⟩
theorem fg_Branches_27 : xfg R_Branches 27 1 8 := ⟨R_Branches, F_Branches, 17, rfl, by decide, w_538, rfl, i_Branches⟩
theorem fg_Branches_31 : xfg R_Branches 31 1 9 := ⟨R_Branches, F_Branches, 17, rfl, by decide, w_539, rfl, i_Branches⟩
theorem fp_Branches_34 : xfp R_Branches 34 1 10 .int := ⟨R_Branches, F_Branches, 17, t_Branches, rfl, by decide, w_540, rfl, i_Branches, rfl, by decide +kernel, t_Branches_ok, n_Branches⟩
theorem fg_Main_148 : xfg R_Main 148 1 10 := ⟨R_Branches, F_Branches, 17, rfl, by decide, w_541, rfl, i_Branches⟩
theorem fp_Branches_40 : xfp R_Branches 40 1 12 .int := ⟨R_Branches, F_Branches, 17, t_Branches, rfl, by decide, w_543, rfl, i_Branches, rfl, by decide +kernel, t_Branches_ok, n_Branches⟩
theorem fg_Branches_133 : xfg R_Branches 133 7 2 := ⟨R_Room, F_Room, 16, rfl, by decide, w_190, rfl, i_Room⟩
theorem fg_Branches_136 : xfg R_Branches 136 7 12 := ⟨R_Room, F_Room, 16, rfl, by decide, w_222, rfl, i_Room⟩
theorem fg_Branches_40 : xfg R_Branches 40 1 12 := ⟨R_Branches, F_Branches, 17, rfl, by decide, w_543, rfl, i_Branches⟩
theorem fg_Branches_37 : xfg R_Branches 37 1 11 := ⟨R_Branches, F_Branches, 17, rfl, by decide, w_542, rfl, i_Branches⟩
theorem fg_Branches_111 : xfg R_Branches 111 5 0 := ⟨R_Hall, F_Hall, 11, rfl, by decide, w_396, rfl, i_Hall⟩
theorem fg_Branches_43 : xfg R_Branches 43 1 13 := ⟨R_Branches, F_Branches, 17, rfl, by decide, w_544, rfl, i_Branches⟩
theorem fp_Branches_130 : xfp R_Branches 130 2 2 .int := ⟨R_Evening, F_Evening, 7, t_Evening, rfl, by decide, w_367, rfl, i_Evening, rfl, by decide +kernel, t_Evening_ok, n_Evening⟩
theorem fg_Branches_52 : xfg R_Branches 52 1 15 := ⟨R_Branches, F_Branches, 17, rfl, by decide, w_546, rfl, i_Branches⟩
theorem fg_Branches_62 : xfg R_Branches 62 1 1 := ⟨R_Branches, F_Branches, 17, rfl, by decide, w_529, rfl, i_Branches⟩
theorem fg_Branches_114 : xfg R_Branches 114 6 5 := ⟨R_Likings, F_Likings, 6, rfl, by decide, w_343, rfl, i_Likings⟩
theorem fg_Branches_55 : xfg R_Branches 55 1 16 := ⟨R_Branches, F_Branches, 17, rfl, by decide, w_547, rfl, i_Branches⟩
theorem fg_Branches_48 : xfg R_Branches 48 1 14 := ⟨R_Branches, F_Branches, 17, rfl, by decide, w_545, rfl, i_Branches⟩
theorem fp_Branches_52 : xfp R_Branches 52 1 15 .int := ⟨R_Branches, F_Branches, 17, t_Branches, rfl, by decide, w_546, rfl, i_Branches, rfl, by decide +kernel, t_Branches_ok, n_Branches⟩
theorem fp_Branches_55 : xfp R_Branches 55 1 16 .int := ⟨R_Branches, F_Branches, 17, t_Branches, rfl, by decide, w_547, rfl, i_Branches, rfl, by decide +kernel, t_Branches_ok, n_Branches⟩
theorem fg_Main_93 : xfg R_Main 93 0 15 := ⟨R_Main, F_Main, 20, rfl, by decide, w_600, rfl, i_Main⟩
theorem fg_Main_96 : xfg R_Main 96 0 16 := ⟨R_Main, F_Main, 20, rfl, by decide, w_601, rfl, i_Main⟩
theorem fg_Main_370 : xfg R_Main 370 7 14 := ⟨R_Room, F_Room, 16, rfl, by decide, w_231, rfl, i_Room⟩
theorem fg_Model_114 : xfg R_Model 114 12 0 := ⟨R_Model, F_Model, 60, rfl, by decide, w_1489, rfl, i_Model⟩
theorem fg_Model_9 : xfg R_Model 9 12 1 := ⟨R_Model, F_Model, 60, rfl, by decide, w_1490, rfl, i_Model⟩
theorem fg_Model_127 : xfg R_Model 127 12 6 := ⟨R_Model, F_Model, 60, rfl, by decide, w_1495, rfl, i_Model⟩
theorem fp_Model_127 : xfp R_Model 127 12 6 .int := ⟨R_Model, F_Model, 60, t_Model, rfl, by decide, w_1495, rfl, i_Model, rfl, by decide +kernel, t_Model_ok, n_Model⟩
theorem fp_Model_114 : xfp R_Model 114 12 0 .int := ⟨R_Model, F_Model, 60, t_Model, rfl, by decide, w_1489, rfl, i_Model, rfl, by decide +kernel, t_Model_ok, n_Model⟩
theorem fg_Model_137 : xfg R_Model 137 12 10 := ⟨R_Model, F_Model, 60, rfl, by decide, w_1499, rfl, i_Model⟩
theorem fg_Model_140 : xfg R_Model 140 12 9 := ⟨R_Model, F_Model, 60, rfl, by decide, w_1498, rfl, i_Model⟩
theorem fg_Model_23 : xfg R_Model 23 12 5 := ⟨R_Model, F_Model, 60, rfl, by decide, w_1494, rfl, i_Model⟩
theorem fg_Model_143 : xfg R_Model 143 12 8 := ⟨R_Model, F_Model, 60, rfl, by decide, w_1497, rfl, i_Model⟩
theorem fp_Model_137 : xfp R_Model 137 12 10 .int := ⟨R_Model, F_Model, 60, t_Model, rfl, by decide, w_1499, rfl, i_Model, rfl, by decide +kernel, t_Model_ok, n_Model⟩
theorem fg_Model_146 : xfg R_Model 146 12 11 := ⟨R_Model, F_Model, 60, rfl, by decide, w_1500, rfl, i_Model⟩
theorem fp_Model_146 : xfp R_Model 146 12 11 .int := ⟨R_Model, F_Model, 60, t_Model, rfl, by decide, w_1500, rfl, i_Model, rfl, by decide +kernel, t_Model_ok, n_Model⟩
theorem fg_Model_149 : xfg R_Model 149 12 12 := ⟨R_Model, F_Model, 60, rfl, by decide, w_1501, rfl, i_Model⟩
theorem fp_Model_149 : xfp R_Model 149 12 12 .int := ⟨R_Model, F_Model, 60, t_Model, rfl, by decide, w_1501, rfl, i_Model, rfl, by decide +kernel, t_Model_ok, n_Model⟩
theorem fg_Model_20 : xfg R_Model 20 12 4 := ⟨R_Model, F_Model, 60, rfl, by decide, w_1493, rfl, i_Model⟩
theorem fg_Model_215 : xfg R_Model 215 12 17 := ⟨R_Model, F_Model, 60, rfl, by decide, w_1506, rfl, i_Model⟩
theorem fg_Model_219 : xfg R_Model 219 12 13 := ⟨R_Model, F_Model, 60, rfl, by decide, w_1502, rfl, i_Model⟩
theorem fp_Model_215 : xfp R_Model 215 12 17 .boolean := ⟨R_Model, F_Model, 60, t_Model, rfl, by decide, w_1506, rfl, i_Model, rfl, by decide +kernel, t_Model_ok, n_Model⟩
theorem fp_Model_222 : xfp R_Model 222 12 14 .int := ⟨R_Model, F_Model, 60, t_Model, rfl, by decide, w_1503, rfl, i_Model, rfl, by decide +kernel, t_Model_ok, n_Model⟩
theorem fp_Model_23 : xfp R_Model 23 12 5 (.array .byte) := ⟨R_Model, F_Model, 60, t_Model, rfl, by decide, w_1494, rfl, i_Model, rfl, by decide +kernel, t_Model_ok, n_Model⟩
theorem fp_Model_143 : xfp R_Model 143 12 8 .int := ⟨R_Model, F_Model, 60, t_Model, rfl, by decide, w_1497, rfl, i_Model, rfl, by decide +kernel, t_Model_ok, n_Model⟩
theorem fp_Model_140 : xfp R_Model 140 12 9 .int := ⟨R_Model, F_Model, 60, t_Model, rfl, by decide, w_1498, rfl, i_Model, rfl, by decide +kernel, t_Model_ok, n_Model⟩
theorem fp_Model_219 : xfp R_Model 219 12 13 .int := ⟨R_Model, F_Model, 60, t_Model, rfl, by decide, w_1502, rfl, i_Model, rfl, by decide +kernel, t_Model_ok, n_Model⟩
theorem fg_Model_261 : xfg R_Model 261 12 29 := ⟨R_Model, F_Model, 60, rfl, by decide, w_1518, rfl, i_Model⟩
theorem fp_Model_261 : xfp R_Model 261 12 29 .int := ⟨R_Model, F_Model, 60, t_Model, rfl, by decide, w_1518, rfl, i_Model, rfl, by decide +kernel, t_Model_ok, n_Model⟩
theorem fg_Model_40 : xfg R_Model 40 12 19 := ⟨R_Model, F_Model, 60, rfl, by decide, w_1508, rfl, i_Model⟩
theorem fg_Model_264 : xfg R_Model 264 12 30 := ⟨R_Model, F_Model, 60, rfl, by decide, w_1519, rfl, i_Model⟩
theorem fp_Model_264 : xfp R_Model 264 12 30 .int := ⟨R_Model, F_Model, 60, t_Model, rfl, by decide, w_1519, rfl, i_Model, rfl, by decide +kernel, t_Model_ok, n_Model⟩
theorem fg_Model_46 : xfg R_Model 46 12 21 := ⟨R_Model, F_Model, 60, rfl, by decide, w_1510, rfl, i_Model⟩
theorem fg_Model_267 : xfg R_Model 267 12 31 := ⟨R_Model, F_Model, 60, rfl, by decide, w_1520, rfl, i_Model⟩
theorem fp_Model_267 : xfp R_Model 267 12 31 .int := ⟨R_Model, F_Model, 60, t_Model, rfl, by decide, w_1520, rfl, i_Model, rfl, by decide +kernel, t_Model_ok, n_Model⟩
theorem fg_Model_52 : xfg R_Model 52 12 23 := ⟨R_Model, F_Model, 60, rfl, by decide, w_1512, rfl, i_Model⟩
theorem fp_Model_270 : xfp R_Model 270 12 32 .boolean := ⟨R_Model, F_Model, 60, t_Model, rfl, by decide, w_1521, rfl, i_Model, rfl, by decide +kernel, t_Model_ok, n_Model⟩
theorem fg_Model_58 : xfg R_Model 58 12 25 := ⟨R_Model, F_Model, 60, rfl, by decide, w_1514, rfl, i_Model⟩
theorem fg_Model_270 : xfg R_Model 270 12 32 := ⟨R_Model, F_Model, 60, rfl, by decide, w_1521, rfl, i_Model⟩
theorem fg_Model_297 : xfg R_Model 297 12 7 := ⟨R_Model, F_Model, 60, rfl, by decide, w_1496, rfl, i_Model⟩
theorem fg_Model_16 : xfg R_Model 16 12 3 := ⟨R_Model, F_Model, 60, rfl, by decide, w_1492, rfl, i_Model⟩
theorem fp_Model_297 : xfp R_Model 297 12 7 .int := ⟨R_Model, F_Model, 60, t_Model, rfl, by decide, w_1496, rfl, i_Model, rfl, by decide +kernel, t_Model_ok, n_Model⟩
theorem fg_Model_13 : xfg R_Model 13 12 2 := ⟨R_Model, F_Model, 60, rfl, by decide, w_1491, rfl, i_Model⟩
theorem fp_Model_302 : xfp R_Model 302 12 26 .int := ⟨R_Model, F_Model, 60, t_Model, rfl, by decide, w_1515, rfl, i_Model, rfl, by decide +kernel, t_Model_ok, n_Model⟩
theorem fp_Model_305 : xfp R_Model 305 12 27 .int := ⟨R_Model, F_Model, 60, t_Model, rfl, by decide, w_1516, rfl, i_Model, rfl, by decide +kernel, t_Model_ok, n_Model⟩
theorem fp_Model_308 : xfp R_Model 308 12 28 .int := ⟨R_Model, F_Model, 60, t_Model, rfl, by decide, w_1517, rfl, i_Model, rfl, by decide +kernel, t_Model_ok, n_Model⟩
theorem fg_Model_305 : xfg R_Model 305 12 27 := ⟨R_Model, F_Model, 60, rfl, by decide, w_1516, rfl, i_Model⟩
theorem fp_Model_311 : xfp R_Model 311 12 57 .int := ⟨R_Model, F_Model, 60, t_Model, rfl, by decide, w_1546, rfl, i_Model, rfl, by decide +kernel, t_Model_ok, n_Model⟩
theorem fp_Model_314 : xfp R_Model 314 12 46 .int := ⟨R_Model, F_Model, 60, t_Model, rfl, by decide, w_1535, rfl, i_Model, rfl, by decide +kernel, t_Model_ok, n_Model⟩
theorem fp_Model_317 : xfp R_Model 317 12 59 .boolean := ⟨R_Model, F_Model, 60, t_Model, rfl, by decide, w_1548, rfl, i_Model, rfl, by decide +kernel, t_Model_ok, n_Model⟩
theorem fg_Model_61 : xfg R_Model 61 12 33 := ⟨R_Model, F_Model, 60, rfl, by decide, w_1522, rfl, i_Model⟩
theorem fg_Model_43 : xfg R_Model 43 12 20 := ⟨R_Model, F_Model, 60, rfl, by decide, w_1509, rfl, i_Model⟩
theorem fg_Model_55 : xfg R_Model 55 12 24 := ⟨R_Model, F_Model, 60, rfl, by decide, w_1513, rfl, i_Model⟩
theorem fg_Model_49 : xfg R_Model 49 12 22 := ⟨R_Model, F_Model, 60, rfl, by decide, w_1511, rfl, i_Model⟩
theorem fg_Model_37 : xfg R_Model 37 12 18 := ⟨R_Model, F_Model, 60, rfl, by decide, w_1507, rfl, i_Model⟩
theorem fg_Model_302 : xfg R_Model 302 12 26 := ⟨R_Model, F_Model, 60, rfl, by decide, w_1515, rfl, i_Model⟩
theorem fg_Model_67 : xfg R_Model 67 12 35 := ⟨R_Model, F_Model, 60, rfl, by decide, w_1524, rfl, i_Model⟩
theorem fg_Model_71 : xfg R_Model 71 12 37 := ⟨R_Model, F_Model, 60, rfl, by decide, w_1526, rfl, i_Model⟩
theorem fg_Model_75 : xfg R_Model 75 12 38 := ⟨R_Model, F_Model, 60, rfl, by decide, w_1527, rfl, i_Model⟩
theorem fg_Model_222 : xfg R_Model 222 12 14 := ⟨R_Model, F_Model, 60, rfl, by decide, w_1503, rfl, i_Model⟩
theorem fg_Model_374 : xfg R_Model 374 12 41 := ⟨R_Model, F_Model, 60, rfl, by decide, w_1530, rfl, i_Model⟩
theorem fp_Model_374 : xfp R_Model 374 12 41 .int := ⟨R_Model, F_Model, 60, t_Model, rfl, by decide, w_1530, rfl, i_Model, rfl, by decide +kernel, t_Model_ok, n_Model⟩
theorem fg_Model_308 : xfg R_Model 308 12 28 := ⟨R_Model, F_Model, 60, rfl, by decide, w_1517, rfl, i_Model⟩
theorem fg_Model_391 : xfg R_Model 391 12 40 := ⟨R_Model, F_Model, 60, rfl, by decide, w_1529, rfl, i_Model⟩
theorem fg_Model_84 : xfg R_Model 84 12 43 := ⟨R_Model, F_Model, 60, rfl, by decide, w_1532, rfl, i_Model⟩
theorem fg_Model_81 : xfg R_Model 81 12 42 := ⟨R_Model, F_Model, 60, rfl, by decide, w_1531, rfl, i_Model⟩
theorem fg_Model_87 : xfg R_Model 87 12 44 := ⟨R_Model, F_Model, 60, rfl, by decide, w_1533, rfl, i_Model⟩
theorem fg_Model_78 : xfg R_Model 78 12 39 := ⟨R_Model, F_Model, 60, rfl, by decide, w_1528, rfl, i_Model⟩
theorem fp_Model_67 : xfp R_Model 67 12 35 .int := ⟨R_Model, F_Model, 60, t_Model, rfl, by decide, w_1524, rfl, i_Model, rfl, by decide +kernel, t_Model_ok, n_Model⟩
theorem fg_Model_419 : xfg R_Model 419 12 36 := ⟨R_Model, F_Model, 60, rfl, by decide, w_1525, rfl, i_Model⟩
theorem fp_Model_419 : xfp R_Model 419 12 36 .int := ⟨R_Model, F_Model, 60, t_Model, rfl, by decide, w_1525, rfl, i_Model, rfl, by decide +kernel, t_Model_ok, n_Model⟩
theorem fg_Model_314 : xfg R_Model 314 12 46 := ⟨R_Model, F_Model, 60, rfl, by decide, w_1535, rfl, i_Model⟩
theorem fg_Model_90 : xfg R_Model 90 12 45 := ⟨R_Model, F_Model, 60, rfl, by decide, w_1534, rfl, i_Model⟩
theorem fg_Model_434 : xfg R_Model 434 12 47 := ⟨R_Model, F_Model, 60, rfl, by decide, w_1536, rfl, i_Model⟩
theorem fp_Model_434 : xfp R_Model 434 12 47 .long := ⟨R_Model, F_Model, 60, t_Model, rfl, by decide, w_1536, rfl, i_Model, rfl, by decide +kernel, t_Model_ok, n_Model⟩
theorem fg_Model_64 : xfg R_Model 64 12 34 := ⟨R_Model, F_Model, 60, rfl, by decide, w_1523, rfl, i_Model⟩
theorem fp_Model_391 : xfp R_Model 391 12 40 .int := ⟨R_Model, F_Model, 60, t_Model, rfl, by decide, w_1529, rfl, i_Model, rfl, by decide +kernel, t_Model_ok, n_Model⟩
theorem fp_Model_466 : xfp R_Model 466 12 51 .int := ⟨R_Model, F_Model, 60, t_Model, rfl, by decide, w_1540, rfl, i_Model, rfl, by decide +kernel, t_Model_ok, n_Model⟩
theorem fg_Model_466 : xfg R_Model 466 12 51 := ⟨R_Model, F_Model, 60, rfl, by decide, w_1540, rfl, i_Model⟩
theorem fg_Model_93 : xfg R_Model 93 12 48 := ⟨R_Model, F_Model, 60, rfl, by decide, w_1537, rfl, i_Model⟩
theorem fg_Model_96 : xfg R_Model 96 12 49 := ⟨R_Model, F_Model, 60, rfl, by decide, w_1538, rfl, i_Model⟩
theorem fg_Model_99 : xfg R_Model 99 12 50 := ⟨R_Model, F_Model, 60, rfl, by decide, w_1539, rfl, i_Model⟩
theorem fg_Model_494 : xfg R_Model 494 12 53 := ⟨R_Model, F_Model, 60, rfl, by decide, w_1542, rfl, i_Model⟩
theorem fp_Model_494 : xfp R_Model 494 12 53 .int := ⟨R_Model, F_Model, 60, t_Model, rfl, by decide, w_1542, rfl, i_Model, rfl, by decide +kernel, t_Model_ok, n_Model⟩
theorem fg_Model_102 : xfg R_Model 102 12 52 := ⟨R_Model, F_Model, 60, rfl, by decide, w_1541, rfl, i_Model⟩
theorem fp_Model_500 : xfp R_Model 500 12 54 .int := ⟨R_Model, F_Model, 60, t_Model, rfl, by decide, w_1543, rfl, i_Model, rfl, by decide +kernel, t_Model_ok, n_Model⟩
theorem fg_Model_500 : xfg R_Model 500 12 54 := ⟨R_Model, F_Model, 60, rfl, by decide, w_1543, rfl, i_Model⟩
theorem fg_Model_311 : xfg R_Model 311 12 57 := ⟨R_Model, F_Model, 60, rfl, by decide, w_1546, rfl, i_Model⟩
theorem fg_Model_105 : xfg R_Model 105 12 55 := ⟨R_Model, F_Model, 60, rfl, by decide, w_1544, rfl, i_Model⟩
theorem fg_Model_108 : xfg R_Model 108 12 56 := ⟨R_Model, F_Model, 60, rfl, by decide, w_1545, rfl, i_Model⟩
theorem fp_Model_78 : xfp R_Model 78 12 39 .int := ⟨R_Model, F_Model, 60, t_Model, rfl, by decide, w_1528, rfl, i_Model, rfl, by decide +kernel, t_Model_ok, n_Model⟩
theorem fg_Model_111 : xfg R_Model 111 12 58 := ⟨R_Model, F_Model, 60, rfl, by decide, w_1547, rfl, i_Model⟩
theorem fg_Model_317 : xfg R_Model 317 12 59 := ⟨R_Model, F_Model, 60, rfl, by decide, w_1548, rfl, i_Model⟩
def y_Main_feed : MethodName := ⟨R_Main, "feed", "(IIIII)I"⟩
def y_Main_end : MethodName := ⟨R_Main, "end", "(I)Z"⟩
def y_Main_fault : MethodName := ⟨R_Main, "fault", "(I)I"⟩
def y_Main_text : MethodName := ⟨R_Main, "text", "(I)I"⟩
def y_Main_nextTaste : MethodName := ⟨R_Main, "nextTaste", "()LLostPlaces$Taste;"⟩
def y_Main_takeRoom : MethodName := ⟨R_Main, "takeRoom", "()I"⟩
def y_Main_renewLikings : MethodName := ⟨R_Main, "renewLikings", "()V"⟩
def y_Main_seat : MethodName := ⟨R_Main, "seat", "(II)I"⟩
def y_Main_sitter : MethodName := ⟨R_Main, "sitter", "(II)I"⟩
def y_Main_going : MethodName := ⟨R_Main, "going", "(II)I"⟩
def y_Main_taste : MethodName := ⟨R_Main, "taste", "(I)Z"⟩
def y_Main_restless : MethodName := ⟨R_Main, "restless", "(I)Z"⟩
def y_Main_likes : MethodName := ⟨R_Main, "likes", "(II)I"⟩
def y_Main_isSeat : MethodName := ⟨R_Main, "isSeat", "(I)Z"⟩
def y_Main_isSitter : MethodName := ⟨R_Main, "isSitter", "(I)Z"⟩
def y_Main_isHere : MethodName := ⟨R_Main, "isHere", "(I)Z"⟩
def y_Main_hasRoom : MethodName := ⟨R_Main, "hasRoom", "()Z"⟩
def y_Main_minutesLeft : MethodName := ⟨R_Main, "minutesLeft", "()I"⟩
def y_Main_up : MethodName := ⟨R_Main, "up", "(II)I"⟩
def y_Main_keeps : MethodName := ⟨R_Main, "keeps", "(II)I"⟩
def y_Main_swap : MethodName := ⟨R_Main, "swap", "(II)I"⟩
def y_Main_go : MethodName := ⟨R_Main, "go", "(I)I"⟩
def y_Main_winter : MethodName := ⟨R_Main, "winter", "(IJ)I"⟩
def y_Main_remember : MethodName := ⟨R_Main, "remember", "()V"⟩
def y_Main_undo : MethodName := ⟨R_Main, "undo", "()I"⟩
def y_Main_log : MethodName := ⟨R_Main, "log", "(II)I"⟩
def y_Main_warm : MethodName := ⟨R_Main, "warm", "()I"⟩
def y_Main_often : MethodName := ⟨R_Main, "often", "(I)I"⟩
def y_Main_ahead : MethodName := ⟨R_Main, "ahead", "(III)I"⟩
def y_Main_chain : MethodName := ⟨R_Main, "chain", "(II)I"⟩
def y_Main_when : MethodName := ⟨R_Main, "when", "(IIII)I"⟩
def y_Main_keeping : MethodName := ⟨R_Main, "keeping", "(II)I"⟩
def y_Main_best : MethodName := ⟨R_Main, "best", "(II)I"⟩
def y_Main_sure : MethodName := ⟨R_Main, "sure", "(I)I"⟩
def y_Main_broken : MethodName := ⟨R_Main, "broken", "(I)I"⟩
def y_Main_rule : MethodName := ⟨R_Main, "rule", "(I)I"⟩
def y_Main_isNoChoice : MethodName := ⟨R_Main, "isNoChoice", "(I)Z"⟩
def y_Main_call : MethodName := ⟨R_Main, "call", "(III)I"⟩
def y_Main_rests : MethodName := ⟨R_Main, "rests", "(II)I"⟩
def y_Main_isGame : MethodName := ⟨R_Main, "isGame", "(I)Z"⟩
def y_Main_fair : MethodName := ⟨R_Main, "fair", "(II)I"⟩
def y_Main_tells : MethodName := ⟨R_Main, "tells", "(II)I"⟩
def y_Main_been : MethodName := ⟨R_Main, "been", "(I)I"⟩
def y_Main_ladder : MethodName := ⟨R_Main, "ladder", "(I)I"⟩
def y_Main_rank : MethodName := ⟨R_Main, "rank", "(I)I"⟩
def y_Main_envy : MethodName := ⟨R_Main, "envy", "()I"⟩
def y_Main_envies : MethodName := ⟨R_Main, "envies", "(I)Z"⟩
def y_Main_even : MethodName := ⟨R_Main, "even", "()I"⟩
def y_Main_image : MethodName := ⟨R_Main, "image", "()I"⟩
def y_Main_back : MethodName := ⟨R_Main, "back", "()I"⟩
def y_Main_count : MethodName := ⟨R_Main, "count", "(I)I"⟩
def y_Model_thrown : MethodName := ⟨R_Model, "thrown", "()I"⟩
def y_Model_isIn : MethodName := ⟨R_Model, "isIn", "(JJJ)Z"⟩
def y_Model_has : MethodName := ⟨R_Model, "has", "(II)Z"⟩
def y_Model_isAmong : MethodName := ⟨R_Model, "isAmong", "(Ljava/lang/String;I)Z"⟩
def y_Model_bytesIn : MethodName := ⟨R_Model, "bytesIn", "(I)I"⟩
def y_Model_put : MethodName := ⟨R_Model, "put", "(I)V"⟩
def y_Model_feed : MethodName := ⟨R_Model, "feed", "(IIIII)I"⟩
def y_Model_end : MethodName := ⟨R_Model, "end", "(I)Z"⟩
def y_Model_look : MethodName := ⟨R_Model, "look", "()I"⟩
def y_Model_fails : MethodName := ⟨R_Model, "fails", "()Z"⟩
def y_Model_goesIn : MethodName := ⟨R_Model, "goesIn", "()Z"⟩
def y_Model_takes : MethodName := ⟨R_Model, "takes", "(I)Z"⟩
def y_Model_isDigit : MethodName := ⟨R_Model, "isDigit", "()Z"⟩
def y_Model_within : MethodName := ⟨R_Model, "within", "(J)I"⟩
def y_Model_atom : MethodName := ⟨R_Model, "atom", "()I"⟩
def y_Model_term : MethodName := ⟨R_Model, "term", "()I"⟩
def y_Model_sum : MethodName := ⟨R_Model, "sum", "()I"⟩
def y_Model_isSign : MethodName := ⟨R_Model, "isSign", "(I)Z"⟩
def y_Model_compares : MethodName := ⟨R_Model, "compares", "(ZI)Z"⟩
def y_Model_unit : MethodName := ⟨R_Model, "unit", "()Z"⟩
def y_Model_part : MethodName := ⟨R_Model, "part", "(ZI)Z"⟩
def y_Model_condition : MethodName := ⟨R_Model, "condition", "(ZI)Z"⟩
def y_Model_clause : MethodName := ⟨R_Model, "clause", "()V"⟩
def y_Model_starts : MethodName := ⟨R_Model, "starts", "([BII)V"⟩
def y_Model_goThrough : MethodName := ⟨R_Model, "goThrough", "([BII)V"⟩
def y_Model_here : MethodName := ⟨R_Model, "here", "()I"⟩
def y_Model_spotOf : MethodName := ⟨R_Model, "spotOf", "(Ljava/lang/String;I)I"⟩
def y_Model_readItem : MethodName := ⟨R_Model, "readItem", "([IIII)V"⟩
def y_Model_mostOf : MethodName := ⟨R_Model, "mostOf", "(II)I"⟩
def y_Model_leastOf : MethodName := ⟨R_Model, "leastOf", "(II)I"⟩
def y_Model_usual : MethodName := ⟨R_Model, "usual", "(II)I"⟩
def y_Model_readItems : MethodName := ⟨R_Model, "readItems", "(I[IILjava/lang/String;)V"⟩
def y_Model_readClause : MethodName := ⟨R_Model, "readClause", "()V"⟩
def y_Model_isWhole : MethodName := ⟨R_Model, "isWhole", "()Z"⟩
def y_Model_readRoom : MethodName := ⟨R_Model, "readRoom", "()V"⟩
def y_Model_fault : MethodName := ⟨R_Model, "fault", "(I)I"⟩
def y_Model_text : MethodName := ⟨R_Model, "text", "(I)I"⟩
def y_Model_copy : MethodName := ⟨R_Model, "copy", "([I[I)V"⟩
def y_Model_isSitter : MethodName := ⟨R_Model, "isSitter", "(I)Z"⟩
def y_Model_isSeat : MethodName := ⟨R_Model, "isSeat", "(I)Z"⟩
def y_Model_isHere : MethodName := ⟨R_Model, "isHere", "([II)Z"⟩
def y_Model_sitsOn : MethodName := ⟨R_Model, "sitsOn", "([II)I"⟩
def y_Model_isFree : MethodName := ⟨R_Model, "isFree", "([II)Z"⟩
def y_Model_likesBy : MethodName := ⟨R_Model, "likesBy", "(III)I"⟩
def y_Model_likesIn : MethodName := ⟨R_Model, "likesIn", "([III)I"⟩
def y_Model_goesUp : MethodName := ⟨R_Model, "goesUp", "([IIIZ)V"⟩
def y_Model_keptFor : MethodName := ⟨R_Model, "keptFor", "([II)I"⟩
def y_Model_frees : MethodName := ⟨R_Model, "frees", "([II)V"⟩
def y_Model_comesBack : MethodName := ⟨R_Model, "comesBack", "([II)V"⟩
def y_Model_wouldMove : MethodName := ⟨R_Model, "wouldMove", "([III)Z"⟩
def y_Model_farFrom : MethodName := ⟨R_Model, "farFrom", "([III)I"⟩
def y_Model_moverTo : MethodName := ⟨R_Model, "moverTo", "([II)I"⟩
def y_Model_moves : MethodName := ⟨R_Model, "moves", "([III)V"⟩
def y_Model_movesUp : MethodName := ⟨R_Model, "movesUp", "([I)V"⟩
def y_Model_backs : MethodName := ⟨R_Model, "backs", "([I)V"⟩
def y_Model_halfMinute : MethodName := ⟨R_Model, "halfMinute", "([I)V"⟩
def y_Model_goMinute : MethodName := ⟨R_Model, "goMinute", "([I)V"⟩
def y_Model_toEnd : MethodName := ⟨R_Model, "toEnd", "([I)V"⟩
def y_Model_seat : MethodName := ⟨R_Model, "seat", "(II)I"⟩
def y_Model_sitter : MethodName := ⟨R_Model, "sitter", "(II)I"⟩
def y_Model_going : MethodName := ⟨R_Model, "going", "(II)I"⟩
def y_Model_taste : MethodName := ⟨R_Model, "taste", "(I)Z"⟩
def y_Model_restless : MethodName := ⟨R_Model, "restless", "(I)Z"⟩
def y_Model_likes : MethodName := ⟨R_Model, "likes", "(II)I"⟩
def y_Model_remember : MethodName := ⟨R_Model, "remember", "()V"⟩
def y_Model_left : MethodName := ⟨R_Model, "left", "()I"⟩
def y_Model_isOpen : MethodName := ⟨R_Model, "isOpen", "()Z"⟩
def y_Model_up : MethodName := ⟨R_Model, "up", "(II)I"⟩
def y_Model_keeps : MethodName := ⟨R_Model, "keeps", "(II)I"⟩
def y_Model_swap : MethodName := ⟨R_Model, "swap", "(II)I"⟩
def y_Model_go : MethodName := ⟨R_Model, "go", "(I)I"⟩
def y_Model_draw : MethodName := ⟨R_Model, "draw", "(I)I"⟩
def y_Model_winter : MethodName := ⟨R_Model, "winter", "(IJ)I"⟩
def y_Model_undo : MethodName := ⟨R_Model, "undo", "()I"⟩
def y_Model_log : MethodName := ⟨R_Model, "log", "(II)I"⟩
def y_Model_ahead : MethodName := ⟨R_Model, "ahead", "(III)I"⟩
def y_Model_chain : MethodName := ⟨R_Model, "chain", "(II)I"⟩
def y_Model_extra : MethodName := ⟨R_Model, "extra", "(III)V"⟩
def y_Model_when : MethodName := ⟨R_Model, "when", "(IIII)I"⟩
def y_Model_joyKeeping : MethodName := ⟨R_Model, "joyKeeping", "(II)I"⟩
def y_Model_keeping : MethodName := ⟨R_Model, "keeping", "(II)I"⟩
def y_Model_joyOn : MethodName := ⟨R_Model, "joyOn", "(II)I"⟩
def y_Model_best : MethodName := ⟨R_Model, "best", "(II)I"⟩
def y_Model_sure : MethodName := ⟨R_Model, "sure", "(I)I"⟩
def y_Model_layHere : MethodName := ⟨R_Model, "layHere", "()Z"⟩
def y_Model_rings : MethodName := ⟨R_Model, "rings", "()I"⟩
def y_Model_hereOf : MethodName := ⟨R_Model, "hereOf", "(I)I"⟩
def y_Model_call : MethodName := ⟨R_Model, "call", "(III)I"⟩
def y_Model_power : MethodName := ⟨R_Model, "power", "(II)I"⟩
def y_Model_digitOf : MethodName := ⟨R_Model, "digitOf", "(II)I"⟩
def y_Model_layCalls : MethodName := ⟨R_Model, "layCalls", "(I)V"⟩
def y_Model_isRest : MethodName := ⟨R_Model, "isRest", "(I)Z"⟩
def y_Model_rests : MethodName := ⟨R_Model, "rests", "(II)I"⟩
def y_Model_broken : MethodName := ⟨R_Model, "broken", "(I)I"⟩
def y_Model_digitsIn : MethodName := ⟨R_Model, "digitsIn", "([II)I"⟩
def y_Model_evenIn : MethodName := ⟨R_Model, "evenIn", "([I)I"⟩
def y_Model_goFair : MethodName := ⟨R_Model, "goFair", "(III)V"⟩
def y_Model_fair : MethodName := ⟨R_Model, "fair", "(II)I"⟩
def y_Model_rule : MethodName := ⟨R_Model, "rule", "(I)I"⟩
def y_Model_tells : MethodName := ⟨R_Model, "tells", "(II)I"⟩
def y_Model_isSo : MethodName := ⟨R_Model, "isSo", "(I)Z"⟩
def y_Model_been : MethodName := ⟨R_Model, "been", "(I)I"⟩
def y_Model_ladder : MethodName := ⟨R_Model, "ladder", "(I)I"⟩
def y_Model_envy : MethodName := ⟨R_Model, "envy", "()I"⟩
def y_Model_warm : MethodName := ⟨R_Model, "warm", "()I"⟩
def y_Model_often : MethodName := ⟨R_Model, "often", "(I)I"⟩
def y_Model_even : MethodName := ⟨R_Model, "even", "()I"⟩
def y_Model_image : MethodName := ⟨R_Model, "image", "()I"⟩
def y_Model_back : MethodName := ⟨R_Model, "back", "()I"⟩
def y_Model_count : MethodName := ⟨R_Model, "count", "(I)I"⟩
def y_Branches_findOrder : MethodName := ⟨R_Branches, "findOrder", "(I)V"⟩
def y_Branches_order : MethodName := ⟨R_Branches, "order", "(III)V"⟩
def y_Branches_tell : MethodName := ⟨R_Branches, "tell", "(II)Z"⟩
def y_Branches_isAsTold : MethodName := ⟨R_Branches, "isAsTold", "(LLostPlaces$Hall;)Z"⟩
def y_Branches_findSets : MethodName := ⟨R_Branches, "findSets", "()V"⟩
def y_Branches_fitting : MethodName := ⟨R_Branches, "fitting", "(I)I"⟩
def y_Branches_lineUp : MethodName := ⟨R_Branches, "lineUp", "()V"⟩
def y_Branches_choose : MethodName := ⟨R_Branches, "choose", "(II)V"⟩
def y_Evening_addGoing : MethodName := ⟨R_Evening, "addGoing", "(III)V"⟩
def y_Evening_dropGoing : MethodName := ⟨R_Evening, "dropGoing", "()V"⟩
def y_Evening_seed : MethodName := ⟨R_Evening, "seed", "(J)V"⟩
def y_Evening_draw : MethodName := ⟨R_Evening, "draw", "(I)I"⟩
def y_Evening_stir : MethodName := ⟨R_Evening, "stir", "(LLostPlaces$Hall;I)V"⟩
def y_Evening_run : MethodName := ⟨R_Evening, "run", "(LLostPlaces$Hall;I)V"⟩
def y_Evening_pass : MethodName := ⟨R_Evening, "pass", "(LLostPlaces$Hall;)V"⟩
def y_Evening_enjoy : MethodName := ⟨R_Evening, "enjoy", "(LLostPlaces$Hall;I)V"⟩
def y_Evening_calmTill : MethodName := ⟨R_Evening, "calmTill", "(LLostPlaces$Hall;I)I"⟩
def y_Evening_earlier : MethodName := ⟨R_Evening, "earlier", "(III)I"⟩
def y_Evening_release : MethodName := ⟨R_Evening, "release", "(LLostPlaces$Hall;)V"⟩
def y_Evening_sendOut : MethodName := ⟨R_Evening, "sendOut", "(LLostPlaces$Hall;)V"⟩
def y_Evening_isHere : MethodName := ⟨R_Evening, "isHere", "(LLostPlaces$Hall;I)Z"⟩
def y_Evening_takeBack : MethodName := ⟨R_Evening, "takeBack", "(LLostPlaces$Hall;I)V"⟩
def y_Evening_placeFor : MethodName := ⟨R_Evening, "placeFor", "(LLostPlaces$Hall;II)I"⟩
def y_Evening_moveUp : MethodName := ⟨R_Evening, "moveUp", "(LLostPlaces$Hall;I)I"⟩
def y_Evening_takerOf : MethodName := ⟨R_Evening, "takerOf", "(LLostPlaces$Hall;II)I"⟩
def y_Evening_wayTo : MethodName := ⟨R_Evening, "wayTo", "(II)I"⟩
def y_Game_gather : MethodName := ⟨R_Game, "gather", "()Z"⟩
def y_Game_placeOf : MethodName := ⟨R_Game, "placeOf", "(I)I"⟩
def y_Game_takeRow : MethodName := ⟨R_Game, "takeRow", "(I)Z"⟩
def y_Game_row : MethodName := ⟨R_Game, "row", "()I"⟩
def y_Game_least : MethodName := ⟨R_Game, "least", "()I"⟩
def y_Game_outcome : MethodName := ⟨R_Game, "outcome", "()I"⟩
def y_Game_tryOut : MethodName := ⟨R_Game, "tryOut", "(I)V"⟩
def y_Game_gainNow : MethodName := ⟨R_Game, "gainNow", "(II)I"⟩
def y_Game_gain : MethodName := ⟨R_Game, "gain", "(II)I"⟩
def y_Game_findRests : MethodName := ⟨R_Game, "findRests", "(II)I"⟩
def y_Game_countUp : MethodName := ⟨R_Game, "countUp", "()Z"⟩
def y_Game_isRest : MethodName := ⟨R_Game, "isRest", "(I)Z"⟩
def y_Guess_pass : MethodName := ⟨R_Guess, "pass", "(I)V"⟩
def y_Guess_leave : MethodName := ⟨R_Guess, "leave", "(I)V"⟩
def y_Guess_findMinute : MethodName := ⟨R_Guess, "findMinute", "(III)V"⟩
def y_Guess_offer : MethodName := ⟨R_Guess, "offer", "(IIZ)V"⟩
def y_Guess_joyKeeping : MethodName := ⟨R_Guess, "joyKeeping", "(II)I"⟩
def y_Guess_findPlace : MethodName := ⟨R_Guess, "findPlace", "(I)V"⟩
def y_Guess_sureSeats : MethodName := ⟨R_Guess, "sureSeats", "(I)I"⟩
def y_Guess_breakUp : MethodName := ⟨R_Guess, "breakUp", "()V"⟩
def y_Guess_findRule : MethodName := ⟨R_Guess, "findRule", "()V"⟩
def y_Hall_open : MethodName := ⟨R_Hall, "open", "(LLostPlaces$Room;)V"⟩
def y_Hall_beginAs : MethodName := ⟨R_Hall, "beginAs", "(LLostPlaces$Hall;)V"⟩
def y_Hall_copyFrom : MethodName := ⟨R_Hall, "copyFrom", "(LLostPlaces$Hall;)V"⟩
def y_Hall_goesOnAs : MethodName := ⟨R_Hall, "goesOnAs", "(LLostPlaces$Hall;)Z"⟩
def y_Hall_isSitter : MethodName := ⟨R_Hall, "isSitter", "(I)Z"⟩
def y_Hall_isSeat : MethodName := ⟨R_Hall, "isSeat", "(I)Z"⟩
def y_Hall_sitterOn : MethodName := ⟨R_Hall, "sitterOn", "(I)I"⟩
def y_Hall_put : MethodName := ⟨R_Hall, "put", "(II)V"⟩
def y_Hall_getUp : MethodName := ⟨R_Hall, "getUp", "(IIZ)V"⟩
def y_Hall_change : MethodName := ⟨R_Hall, "change", "(II)V"⟩
def y_Hall_isFree : MethodName := ⟨R_Hall, "isFree", "(I)Z"⟩
def y_Hall_release : MethodName := ⟨R_Hall, "release", "(I)V"⟩
def y_Hall_moveUp : MethodName := ⟨R_Hall, "moveUp", "(II)V"⟩
def y_Hall_logged : MethodName := ⟨R_Hall, "logged", "()I"⟩
def y_Hall_entry : MethodName := ⟨R_Hall, "entry", "(II)I"⟩
def y_Hall_gap : MethodName := ⟨R_Hall, "gap", "(I)I"⟩
def y_Likings_renew : MethodName := ⟨R_Likings, "renew", "(LLostPlaces$Taste;)V"⟩
def y_Likings_fill : MethodName := ⟨R_Likings, "fill", "(ILLostPlaces$Taste;)V"⟩
def y_Likings_isAlike : MethodName := ⟨R_Likings, "isAlike", "(II)Z"⟩
def y_Likings_row : MethodName := ⟨R_Likings, "row", "(I)I"⟩
def y_Likings_till : MethodName := ⟨R_Likings, "till", "(I)I"⟩
def y_Likings_mark : MethodName := ⟨R_Likings, "mark", "(I)I"⟩
def y_Likings_at : MethodName := ⟨R_Likings, "at", "(III)I"⟩
def y_Room_clear : MethodName := ⟨R_Room, "clear", "()V"⟩
def y_Room_setEvening : MethodName := ⟨R_Room, "setEvening", "(II)V"⟩
def y_Room_addSeat : MethodName := ⟨R_Room, "addSeat", "(III)V"⟩
def y_Room_addSitter : MethodName := ⟨R_Room, "addSitter", "(IIII)V"⟩
def y_Room_addGoing : MethodName := ⟨R_Room, "addGoing", "(III)V"⟩
def y_Room_isWhole : MethodName := ⟨R_Room, "isWhole", "()Z"⟩
def y_RoomReader_read : MethodName := ⟨R_RoomReader, "read", "(LLostPlaces$Room;)I"⟩
def y_RoomReader_readClause : MethodName := ⟨R_RoomReader, "readClause", "(LLostPlaces$Room;)Z"⟩
def y_RoomReader_isFull : MethodName := ⟨R_RoomReader, "isFull", "(LLostPlaces$Room;I)Z"⟩
def y_RoomReader_lettersOf : MethodName := ⟨R_RoomReader, "lettersOf", "(I)Ljava/lang/String;"⟩
def y_RoomReader_readItems : MethodName := ⟨R_RoomReader, "readItems", "(I)V"⟩
def y_RoomReader_isClauseOver : MethodName := ⟨R_RoomReader, "isClauseOver", "()Z"⟩
def y_RoomReader_store : MethodName := ⟨R_RoomReader, "store", "(LLostPlaces$Room;I)V"⟩
def y_Tape_add : MethodName := ⟨R_Tape, "add", "(I)Z"⟩
def y_Tape_rewind : MethodName := ⟨R_Tape, "rewind", "()V"⟩
def y_Tape_sign : MethodName := ⟨R_Tape, "sign", "()I"⟩
def y_Tape_isAtDigit : MethodName := ⟨R_Tape, "isAtDigit", "()Z"⟩
def y_Tape_isFine : MethodName := ⟨R_Tape, "isFine", "()Z"⟩
def y_Tape_fail : MethodName := ⟨R_Tape, "fail", "(I)V"⟩
def y_Tape_takes : MethodName := ⟨R_Tape, "takes", "(C)Z"⟩
def y_Tape_needs : MethodName := ⟨R_Tape, "needs", "(C)V"⟩
def y_Tape_number : MethodName := ⟨R_Tape, "number", "(I)I"⟩
def y_Tape_letter : MethodName := ⟨R_Tape, "letter", "(Ljava/lang/String;)I"⟩
def y_Taste_clear : MethodName := ⟨R_Taste, "clear", "()V"⟩
def y_Taste_put : MethodName := ⟨R_Taste, "put", "(I)I"⟩
def y_Taste_putLetter : MethodName := ⟨R_Taste, "putLetter", "(I)V"⟩
def y_Taste_land : MethodName := ⟨R_Taste, "land", "(I)V"⟩
def y_Taste_worth : MethodName := ⟨R_Taste, "worth", "([I)I"⟩
def y_Taste_valueOf : MethodName := ⟨R_Taste, "valueOf", "(I[I)I"⟩
def y_Taste_join : MethodName := ⟨R_Taste, "join", "(III)I"⟩
def y_TasteReader_read : MethodName := ⟨R_TasteReader, "read", "(LLostPlaces$Taste;)I"⟩
def y_TasteReader_readClause : MethodName := ⟨R_TasteReader, "readClause", "(LLostPlaces$Taste;)Z"⟩
def y_TasteReader_condition : MethodName := ⟨R_TasteReader, "condition", "(ZI)V"⟩
def y_TasteReader_truth : MethodName := ⟨R_TasteReader, "truth", "(ZI)V"⟩
def y_TasteReader_unit : MethodName := ⟨R_TasteReader, "unit", "(ZI)V"⟩
def y_TasteReader_opens : MethodName := ⟨R_TasteReader, "opens", "(CI)Z"⟩
def y_TasteReader_sum : MethodName := ⟨R_TasteReader, "sum", "(I)V"⟩
def y_TasteReader_term : MethodName := ⟨R_TasteReader, "term", "(I)V"⟩
def y_TasteReader_atom : MethodName := ⟨R_TasteReader, "atom", "(I)V"⟩
theorem cw_Main_129 : xcv R_Main 129 1 y_Tape_add prog_10_method_2_code 4 (some .boolean) := ⟨⟨w_650, w_109, w_653, ⟨by decide +kernel, by decide +kernel, by decide +kernel⟩, by decide⟩, w_651, w_652⟩
theorem cw_Tape_25 : xcv R_Tape 25 0 y_Tape_sign prog_10_method_4_code 1 (some .int) := ⟨⟨w_689, w_109, w_692, ⟨by decide +kernel, by decide +kernel, by decide +kernel⟩, by decide⟩, w_690, w_691⟩
theorem cw_RoomReader_40 : xcv R_RoomReader 40 0 y_Tape_isFine prog_10_method_6_code 1 (some .boolean) := ⟨⟨w_785, w_109, w_788, ⟨by decide +kernel, by decide +kernel, by decide +kernel⟩, by decide⟩, w_786, w_787⟩
theorem cw_RoomReader_119 : xcv R_RoomReader 119 0 y_Tape_sign prog_10_method_4_code 1 (some .int) := ⟨⟨w_789, w_109, w_692, ⟨by decide +kernel, by decide +kernel, by decide +kernel⟩, by decide⟩, w_690, w_691⟩
theorem cw_Tape_37 : xcv R_Tape 37 0 y_Tape_isAtDigit prog_10_method_5_code 1 (some .boolean) := ⟨⟨w_801, w_109, w_804, ⟨by decide +kernel, by decide +kernel, by decide +kernel⟩, by decide⟩, w_803, w_3⟩
theorem cw_Tape_33 : xcv R_Tape 33 1 y_Tape_fail prog_10_method_7_code 2 none := ⟨⟨w_805, w_109, w_776, ⟨by decide +kernel, by decide +kernel, by decide +kernel⟩, by decide⟩, w_774, w_775⟩
theorem cw_RoomReader_102 : xcv R_RoomReader 102 0 y_RoomReader_isClauseOver prog_9_method_7_code 1 (some .boolean) := ⟨⟨w_781, w_111, w_784, ⟨by decide +kernel, by decide +kernel, by decide +kernel⟩, by decide⟩, w_783, w_2⟩
theorem cw_RoomReader_105 : xcw R_RoomReader 105 1 y_RoomReader_lettersOf prog_9_method_5_code 1 (some (.object "java/lang/String")) := ⟨w_790, w_111, w_792, ⟨by decide +kernel, by decide +kernel, by decide +kernel⟩, by decide⟩
theorem cw_RoomReader_60 : xcv R_RoomReader 60 1 y_Tape_letter prog_10_method_11_code 3 (some .int) := ⟨⟨w_685, w_109, w_688, ⟨by decide +kernel, by decide +kernel, by decide +kernel⟩, by decide⟩, w_686, w_687⟩
theorem cw_RoomReader_51 : xcv R_RoomReader 51 1 y_Tape_fail prog_10_method_7_code 2 none := ⟨⟨w_773, w_109, w_776, ⟨by decide +kernel, by decide +kernel, by decide +kernel⟩, by decide⟩, w_774, w_775⟩
theorem cw_RoomReader_109 : xcv R_RoomReader 109 1 y_Tape_number prog_10_method_10_code 4 (some .int) := ⟨⟨w_797, w_109, w_800, ⟨by decide +kernel, by decide +kernel, by decide +kernel⟩, by decide⟩, w_798, w_799⟩
theorem cw_RoomReader_123 : xcv R_RoomReader 123 3 y_Room_addSeat prog_8_method_4_code 4 none := ⟨⟨w_814, w_110, w_817, ⟨by decide +kernel, by decide +kernel, by decide +kernel⟩, by decide⟩, w_815, w_816⟩
theorem cw_RoomReader_127 : xcv R_RoomReader 127 4 y_Room_addSitter prog_8_method_5_code 5 none := ⟨⟨w_818, w_110, w_821, ⟨by decide +kernel, by decide +kernel, by decide +kernel⟩, by decide⟩, w_819, w_820⟩
theorem cw_RoomReader_131 : xcv R_RoomReader 131 3 y_Room_addGoing prog_8_method_6_code 4 none := ⟨⟨w_822, w_110, w_825, ⟨by decide +kernel, by decide +kernel, by decide +kernel⟩, by decide⟩, w_823, w_824⟩
theorem cw_RoomReader_32 : xcv R_RoomReader 32 2 y_Room_setEvening prog_8_method_3_code 3 none := ⟨⟨w_676, w_110, w_679, ⟨by decide +kernel, by decide +kernel, by decide +kernel⟩, by decide⟩, w_677, w_678⟩
theorem cw_RoomReader_64 : xcw R_RoomReader 64 2 y_RoomReader_isFull prog_9_method_4_code 2 (some .boolean) := ⟨w_770, w_111, w_772, ⟨by decide +kernel, by decide +kernel, by decide +kernel⟩, by decide⟩
theorem cw_RoomReader_71 : xcv R_RoomReader 71 1 y_RoomReader_readItems prog_9_method_6_code 7 none := ⟨⟨w_777, w_111, w_780, ⟨by decide +kernel, by decide +kernel, by decide +kernel⟩, by decide⟩, w_779, w_1⟩
theorem cw_RoomReader_74 : xcv R_RoomReader 74 2 y_RoomReader_store prog_9_method_8_code 3 none := ⟨⟨w_810, w_111, w_813, ⟨by decide +kernel, by decide +kernel, by decide +kernel⟩, by decide⟩, w_812, w_4⟩
theorem cw_RoomReader_78 : xcv R_RoomReader 78 1 y_Tape_takes prog_10_method_8_code 2 (some .boolean) := ⟨⟨w_826, w_109, w_829, ⟨by decide +kernel, by decide +kernel, by decide +kernel⟩, by decide⟩, w_827, w_828⟩
theorem cw_RoomReader_19 : xcv R_RoomReader 19 0 y_Tape_rewind prog_10_method_3_code 1 none := ⟨⟨w_666, w_109, w_669, ⟨by decide +kernel, by decide +kernel, by decide +kernel⟩, by decide⟩, w_667, w_668⟩
theorem cw_RoomReader_24 : xcv R_RoomReader 24 0 y_Room_clear prog_8_method_2_code 1 none := ⟨⟨w_670, w_110, w_673, ⟨by decide +kernel, by decide +kernel, by decide +kernel⟩, by decide⟩, w_671, w_672⟩
theorem cw_RoomReader_44 : xcv R_RoomReader 44 0 y_Room_isWhole prog_8_method_7_code 3 (some .boolean) := ⟨⟨w_830, w_110, w_833, ⟨by decide +kernel, by decide +kernel, by decide +kernel⟩, by decide⟩, w_831, w_832⟩
theorem cw_RoomReader_36 : xcv R_RoomReader 36 1 y_RoomReader_readClause prog_9_method_3_code 3 (some .boolean) := ⟨⟨w_680, w_111, w_683, ⟨by decide +kernel, by decide +kernel, by decide +kernel⟩, by decide⟩, w_682, w_0⟩
theorem cw_Tape_29 : xcv R_Tape 29 1 y_Tape_takes prog_10_method_8_code 2 (some .boolean) := ⟨⟨w_855, w_109, w_829, ⟨by decide +kernel, by decide +kernel, by decide +kernel⟩, by decide⟩, w_827, w_828⟩
theorem cw_Taste_26 : xcv R_Taste 26 1 y_Taste_put prog_11_method_3_code 2 (some .int) := ⟨⟨w_876, w_113, w_879, ⟨by decide +kernel, by decide +kernel, by decide +kernel⟩, by decide⟩, w_877, w_878⟩
theorem cw_TasteReader_52 : xcv R_TasteReader 52 0 y_Tape_isFine prog_10_method_6_code 1 (some .boolean) := ⟨⟨w_870, w_109, w_788, ⟨by decide +kernel, by decide +kernel, by decide +kernel⟩, by decide⟩, w_786, w_787⟩
theorem cw_TasteReader_69 : xcv R_TasteReader 69 0 y_Tape_sign prog_10_method_4_code 1 (some .int) := ⟨⟨w_884, w_109, w_692, ⟨by decide +kernel, by decide +kernel, by decide +kernel⟩, by decide⟩, w_690, w_691⟩
theorem cw_TasteReader_76 : xcv R_TasteReader 76 1 y_Tape_takes prog_10_method_8_code 2 (some .boolean) := ⟨⟨w_886, w_109, w_829, ⟨by decide +kernel, by decide +kernel, by decide +kernel⟩, by decide⟩, w_827, w_828⟩
theorem cw_TasteReader_90 : xcv R_TasteReader 90 1 y_Tape_fail prog_10_method_7_code 2 none := ⟨⟨w_885, w_109, w_776, ⟨by decide +kernel, by decide +kernel, by decide +kernel⟩, by decide⟩, w_774, w_775⟩
theorem cw_TasteReader_44 : xcv R_TasteReader 44 1 y_Tape_letter prog_10_method_11_code 3 (some .int) := ⟨⟨w_857, w_109, w_688, ⟨by decide +kernel, by decide +kernel, by decide +kernel⟩, by decide⟩, w_686, w_687⟩
theorem cw_TasteReader_83 : xcv R_TasteReader 83 2 y_TasteReader_opens prog_12_method_7_code 3 (some .boolean) := ⟨⟨w_880, w_112, w_883, ⟨by decide +kernel, by decide +kernel, by decide +kernel⟩, by decide⟩, w_882, w_10⟩
theorem cw_TasteReader_104 : xcv R_TasteReader 104 1 y_Tape_number prog_10_method_10_code 4 (some .int) := ⟨⟨w_887, w_109, w_800, ⟨by decide +kernel, by decide +kernel, by decide +kernel⟩, by decide⟩, w_798, w_799⟩
theorem cw_TasteReader_62 : xcv R_TasteReader 62 1 y_Taste_put prog_11_method_3_code 2 (some .int) := ⟨⟨w_888, w_113, w_879, ⟨by decide +kernel, by decide +kernel, by decide +kernel⟩, by decide⟩, w_877, w_878⟩
theorem cw_TasteReader_48 : xcv R_TasteReader 48 1 y_TasteReader_sum prog_12_method_8_code 4 none := ⟨⟨w_858, w_112, w_861, ⟨by decide +kernel, by decide +kernel, by decide +kernel⟩, by decide⟩, w_860, w_7⟩
theorem cw_TasteReader_38 : xcv R_TasteReader 38 1 y_Tape_needs prog_10_method_9_code 2 none := ⟨⟨w_851, w_109, w_854, ⟨by decide +kernel, by decide +kernel, by decide +kernel⟩, by decide⟩, w_852, w_853⟩
theorem cw_TasteReader_101 : xcv R_TasteReader 101 1 y_Taste_putLetter prog_11_method_4_code 2 none := ⟨⟨w_872, w_113, w_875, ⟨by decide +kernel, by decide +kernel, by decide +kernel⟩, by decide⟩, w_873, w_874⟩
theorem cw_TasteReader_96 : xcv R_TasteReader 96 1 y_TasteReader_atom prog_12_method_10_code 3 none := ⟨⟨w_866, w_112, w_869, ⟨by decide +kernel, by decide +kernel, by decide +kernel⟩, by decide⟩, w_868, w_9⟩
theorem cw_TasteReader_93 : xcv R_TasteReader 93 1 y_TasteReader_term prog_12_method_9_code 4 none := ⟨⟨w_862, w_112, w_865, ⟨by decide +kernel, by decide +kernel, by decide +kernel⟩, by decide⟩, w_864, w_8⟩
theorem cw_TasteReader_80 : xcv R_TasteReader 80 2 y_TasteReader_unit prog_12_method_6_code 4 none := ⟨⟨w_898, w_112, w_901, ⟨by decide +kernel, by decide +kernel, by decide +kernel⟩, by decide⟩, w_900, w_13⟩
theorem cw_TasteReader_73 : xcv R_TasteReader 73 2 y_TasteReader_truth prog_12_method_5_code 4 none := ⟨⟨w_894, w_112, w_897, ⟨by decide +kernel, by decide +kernel, by decide +kernel⟩, by decide⟩, w_896, w_12⟩
theorem cw_TasteReader_58 : xcv R_TasteReader 58 2 y_TasteReader_condition prog_12_method_4_code 4 none := ⟨⟨w_890, w_112, w_893, ⟨by decide +kernel, by decide +kernel, by decide +kernel⟩, by decide⟩, w_892, w_11⟩
theorem cw_TasteReader_66 : xcv R_TasteReader 66 1 y_Taste_land prog_11_method_5_code 2 none := ⟨⟨w_902, w_113, w_905, ⟨by decide +kernel, by decide +kernel, by decide +kernel⟩, by decide⟩, w_903, w_904⟩
theorem cw_TasteReader_22 : xcv R_TasteReader 22 0 y_Tape_rewind prog_10_method_3_code 1 none := ⟨⟨w_842, w_109, w_669, ⟨by decide +kernel, by decide +kernel, by decide +kernel⟩, by decide⟩, w_667, w_668⟩
theorem cw_TasteReader_27 : xcv R_TasteReader 27 0 y_Taste_clear prog_11_method_2_code 1 none := ⟨⟨w_843, w_113, w_846, ⟨by decide +kernel, by decide +kernel, by decide +kernel⟩, by decide⟩, w_844, w_845⟩
theorem cw_TasteReader_30 : xcv R_TasteReader 30 1 y_TasteReader_readClause prog_12_method_3_code 4 (some .boolean) := ⟨⟨w_847, w_112, w_850, ⟨by decide +kernel, by decide +kernel, by decide +kernel⟩, by decide⟩, w_849, w_6⟩
theorem cw_Main_133 : xcv R_Main 133 1 y_RoomReader_read prog_9_method_2_code 4 (some .int) := ⟨⟨w_662, w_111, w_665, ⟨by decide +kernel, by decide +kernel, by decide +kernel⟩, by decide⟩, w_663, w_664⟩
theorem cw_Main_137 : xcv R_Main 137 0 y_Main_nextTaste prog_1_method_6_code 1 (some (.object "LostPlaces$Taste")) := ⟨⟨w_834, w_108, w_837, ⟨by decide +kernel, by decide +kernel, by decide +kernel⟩, by decide⟩, w_836, w_5⟩
theorem cw_Main_141 : xcv R_Main 141 1 y_TasteReader_read prog_12_method_2_code 4 (some .int) := ⟨⟨w_838, w_112, w_841, ⟨by decide +kernel, by decide +kernel, by decide +kernel⟩, by decide⟩, w_839, w_840⟩
theorem cw_Hall_58 : xcv R_Hall 58 2 y_Hall_put prog_6_method_9_code 4 none := ⟨⟨w_918, w_117, w_921, ⟨by decide +kernel, by decide +kernel, by decide +kernel⟩, by decide⟩, w_919, w_920⟩
theorem cw_Taste_34 : xcw R_Taste 34 3 y_Taste_join prog_11_method_8_code 5 (some .int) := ⟨w_941, w_113, w_943, ⟨by decide +kernel, by decide +kernel, by decide +kernel⟩, by decide⟩
theorem cw_Taste_30 : xcw R_Taste 30 2 y_Taste_valueOf prog_11_method_7_code 3 (some .int) := ⟨w_938, w_113, w_940, ⟨by decide +kernel, by decide +kernel, by decide +kernel⟩, by decide⟩
theorem cw_Likings_80 : xcv R_Likings 80 1 y_Taste_worth prog_11_method_6_code 6 (some .int) := ⟨⟨w_934, w_113, w_937, ⟨by decide +kernel, by decide +kernel, by decide +kernel⟩, by decide⟩, w_935, w_936⟩
theorem cw_Likings_83 : xcv R_Likings 83 3 y_Likings_at prog_7_method_8_code 5 (some .int) := ⟨⟨w_950, w_114, w_953, ⟨by decide +kernel, by decide +kernel, by decide +kernel⟩, by decide⟩, w_951, w_952⟩
theorem cw_Likings_54 : xcv R_Likings 54 2 y_Likings_fill prog_7_method_3_code 7 none := ⟨⟨w_930, w_114, w_933, ⟨by decide +kernel, by decide +kernel, by decide +kernel⟩, by decide⟩, w_932, w_16⟩
theorem cw_Likings_58 : xcv R_Likings 58 2 y_Likings_isAlike prog_7_method_4_code 5 (some .boolean) := ⟨⟨w_946, w_114, w_949, ⟨by decide +kernel, by decide +kernel, by decide +kernel⟩, by decide⟩, w_948, w_17⟩
theorem cw_Main_160 : xcv R_Main 160 1 y_Likings_renew prog_7_method_2_code 6 none := ⟨⟨w_926, w_114, w_929, ⟨by decide +kernel, by decide +kernel, by decide +kernel⟩, by decide⟩, w_927, w_928⟩
theorem cw_Main_151 : xcv R_Main 151 1 y_Hall_open prog_6_method_2_code 3 none := ⟨⟨w_914, w_117, w_917, ⟨by decide +kernel, by decide +kernel, by decide +kernel⟩, by decide⟩, w_915, w_916⟩
theorem cw_Main_154 : xcv R_Main 154 0 y_Main_renewLikings prog_1_method_8_code 2 none := ⟨⟨w_922, w_108, w_925, ⟨by decide +kernel, by decide +kernel, by decide +kernel⟩, by decide⟩, w_924, w_15⟩
theorem cw_Main_144 : xcv R_Main 144 0 y_Main_takeRoom prog_1_method_7_code 1 (some .int) := ⟨⟨w_910, w_108, w_913, ⟨by decide +kernel, by decide +kernel, by decide +kernel⟩, by decide⟩, w_912, w_14⟩
theorem cw_Main_164 : xcv R_Main 164 1 y_Main_isSeat prog_1_method_15_code 2 (some .boolean) := ⟨⟨w_958, w_108, w_961, ⟨by decide +kernel, by decide +kernel, by decide +kernel⟩, by decide⟩, w_960, w_18⟩
theorem cw_Main_186 : xcv R_Main 186 1 y_Main_isSitter prog_1_method_16_code 2 (some .boolean) := ⟨⟨w_978, w_108, w_981, ⟨by decide +kernel, by decide +kernel, by decide +kernel⟩, by decide⟩, w_980, w_19⟩
theorem cw_Main_230 : xcv R_Main 230 1 y_Likings_row prog_7_method_5_code 2 (some .int) := ⟨⟨w_983, w_114, w_986, ⟨by decide +kernel, by decide +kernel, by decide +kernel⟩, by decide⟩, w_984, w_985⟩
theorem cw_Main_234 : xcv R_Main 234 3 y_Likings_at prog_7_method_8_code 5 (some .int) := ⟨⟨w_987, w_114, w_953, ⟨by decide +kernel, by decide +kernel, by decide +kernel⟩, by decide⟩, w_951, w_952⟩
theorem cw_Hall_68 : xcv R_Hall 68 1 y_Hall_beginAs prog_6_method_3_code 2 none := ⟨⟨w_1008, w_117, w_1011, ⟨by decide +kernel, by decide +kernel, by decide +kernel⟩, by decide⟩, w_1009, w_1010⟩
theorem cw_Main_273 : xcv R_Main 273 1 y_Hall_copyFrom prog_6_method_4_code 2 none := ⟨⟨w_1004, w_117, w_1007, ⟨by decide +kernel, by decide +kernel, by decide +kernel⟩, by decide⟩, w_1005, w_1006⟩
theorem cw_Hall_76 : xcw R_Hall 76 1 y_Hall_isSitter prog_6_method_6_code 1 (some .boolean) := ⟨w_1019, w_117, w_1021, ⟨by decide +kernel, by decide +kernel, by decide +kernel⟩, by decide⟩
theorem cw_Hall_72 : xcw R_Hall 72 1 y_Hall_isSeat prog_6_method_7_code 1 (some .boolean) := ⟨w_1022, w_117, w_1024, ⟨by decide +kernel, by decide +kernel, by decide +kernel⟩, by decide⟩
theorem cw_Main_244 : xcv R_Main 244 1 y_Main_isHere prog_1_method_17_code 2 (some .boolean) := ⟨⟨w_992, w_108, w_995, ⟨by decide +kernel, by decide +kernel, by decide +kernel⟩, by decide⟩, w_994, w_20⟩
theorem cw_Main_247 : xcv R_Main 247 0 y_Main_minutesLeft prog_1_method_19_code 1 (some .int) := ⟨⟨w_996, w_108, w_999, ⟨by decide +kernel, by decide +kernel, by decide +kernel⟩, by decide⟩, w_998, w_21⟩
theorem cw_Main_250 : xcv R_Main 250 0 y_Main_remember prog_1_method_25_code 1 none := ⟨⟨w_1000, w_108, w_1003, ⟨by decide +kernel, by decide +kernel, by decide +kernel⟩, by decide⟩, w_1002, w_22⟩
theorem cw_Main_253 : xcv R_Main 253 3 y_Hall_getUp prog_6_method_10_code 5 none := ⟨⟨w_1015, w_117, w_1018, ⟨by decide +kernel, by decide +kernel, by decide +kernel⟩, by decide⟩, w_1016, w_1017⟩
theorem cw_Main_257 : xcv R_Main 257 2 y_Hall_change prog_6_method_11_code 5 none := ⟨⟨w_1033, w_117, w_1036, ⟨by decide +kernel, by decide +kernel, by decide +kernel⟩, by decide⟩, w_1034, w_1035⟩
theorem cw_Evening_130 : xcv R_Evening 130 1 y_Hall_release prog_6_method_13_code 2 none := ⟨⟨w_1050, w_117, w_1053, ⟨by decide +kernel, by decide +kernel, by decide +kernel⟩, by decide⟩, w_1051, w_1052⟩
theorem cw_Evening_136 : xcv R_Evening 136 2 y_Evening_isHere prog_3_method_14_code 3 (some .boolean) := ⟨⟨w_1058, w_116, w_1061, ⟨by decide +kernel, by decide +kernel, by decide +kernel⟩, by decide⟩, w_1060, w_25⟩
theorem cw_Evening_55 : xcv R_Evening 55 3 y_Hall_getUp prog_6_method_10_code 5 none := ⟨⟨w_1062, w_117, w_1018, ⟨by decide +kernel, by decide +kernel, by decide +kernel⟩, by decide⟩, w_1016, w_1017⟩
theorem cw_Evening_97 : xcv R_Evening 97 3 y_Likings_at prog_7_method_8_code 5 (some .int) := ⟨⟨w_1071, w_114, w_953, ⟨by decide +kernel, by decide +kernel, by decide +kernel⟩, by decide⟩, w_951, w_952⟩
theorem cw_Evening_154 : xcv R_Evening 154 1 y_Hall_isFree prog_6_method_12_code 2 (some .boolean) := ⟨⟨w_1072, w_117, w_1075, ⟨by decide +kernel, by decide +kernel, by decide +kernel⟩, by decide⟩, w_1073, w_1074⟩
theorem cw_Evening_146 : xcv R_Evening 146 3 y_Evening_placeFor prog_3_method_16_code 8 (some .int) := ⟨⟨w_1067, w_116, w_1070, ⟨by decide +kernel, by decide +kernel, by decide +kernel⟩, by decide⟩, w_1069, w_27⟩
theorem cw_Evening_150 : xcv R_Evening 150 2 y_Hall_put prog_6_method_9_code 4 none := ⟨⟨w_1076, w_117, w_921, ⟨by decide +kernel, by decide +kernel, by decide +kernel⟩, by decide⟩, w_919, w_920⟩
theorem cw_Evening_172 : xcv R_Evening 172 2 y_Evening_wayTo prog_3_method_19_code 4 (some .int) := ⟨⟨w_1089, w_116, w_1092, ⟨by decide +kernel, by decide +kernel, by decide +kernel⟩, by decide⟩, w_1091, w_29⟩
theorem cw_Evening_104 : xcv R_Evening 104 1 y_Likings_mark prog_7_method_7_code 2 (some .int) := ⟨⟨w_1081, w_114, w_1084, ⟨by decide +kernel, by decide +kernel, by decide +kernel⟩, by decide⟩, w_1082, w_1083⟩
theorem cw_Evening_167 : xcv R_Evening 167 2 y_Hall_moveUp prog_6_method_14_code 4 none := ⟨⟨w_1093, w_117, w_1096, ⟨by decide +kernel, by decide +kernel, by decide +kernel⟩, by decide⟩, w_1094, w_1095⟩
theorem cw_Evening_164 : xcv R_Evening 164 3 y_Evening_takerOf prog_3_method_18_code 10 (some .int) := ⟨⟨w_1085, w_116, w_1088, ⟨by decide +kernel, by decide +kernel, by decide +kernel⟩, by decide⟩, w_1087, w_28⟩
theorem cw_Evening_77 : xcv R_Evening 77 1 y_Likings_row prog_7_method_5_code 2 (some .int) := ⟨⟨w_1045, w_114, w_986, ⟨by decide +kernel, by decide +kernel, by decide +kernel⟩, by decide⟩, w_984, w_985⟩
theorem cw_Evening_82 : xcv R_Evening 82 1 y_Evening_release prog_3_method_12_code 3 none := ⟨⟨w_1046, w_116, w_1049, ⟨by decide +kernel, by decide +kernel, by decide +kernel⟩, by decide⟩, w_1048, w_23⟩
theorem cw_Evening_85 : xcv R_Evening 85 1 y_Evening_sendOut prog_3_method_13_code 4 none := ⟨⟨w_1054, w_116, w_1057, ⟨by decide +kernel, by decide +kernel, by decide +kernel⟩, by decide⟩, w_1056, w_24⟩
theorem cw_Evening_88 : xcv R_Evening 88 2 y_Evening_takeBack prog_3_method_15_code 7 none := ⟨⟨w_1063, w_116, w_1066, ⟨by decide +kernel, by decide +kernel, by decide +kernel⟩, by decide⟩, w_1065, w_26⟩
theorem cw_Evening_91 : xcv R_Evening 91 2 y_Evening_moveUp prog_3_method_17_code 10 (some .int) := ⟨⟨w_1077, w_116, w_1080, ⟨by decide +kernel, by decide +kernel, by decide +kernel⟩, by decide⟩, w_1078, w_1079⟩
theorem cw_Evening_73 : xcv R_Evening 73 2 y_Evening_enjoy prog_3_method_9_code 6 none := ⟨⟨w_1097, w_116, w_1100, ⟨by decide +kernel, by decide +kernel, by decide +kernel⟩, by decide⟩, w_1099, w_30⟩
theorem cw_Main_261 : xcv R_Main 261 1 y_Evening_pass prog_3_method_8_code 3 none := ⟨⟨w_1041, w_116, w_1044, ⟨by decide +kernel, by decide +kernel, by decide +kernel⟩, by decide⟩, w_1042, w_1043⟩
theorem cw_Evening_51 : xcv R_Evening 51 1 y_Evening_draw prog_3_method_5_code 2 (some .int) := ⟨⟨w_1113, w_116, w_1116, ⟨by decide +kernel, by decide +kernel, by decide +kernel⟩, by decide⟩, w_1115, w_31⟩
theorem cw_Main_265 : xcv R_Main 265 1 y_Evening_seed prog_3_method_4_code 3 none := ⟨⟨w_1105, w_116, w_1108, ⟨by decide +kernel, by decide +kernel, by decide +kernel⟩, by decide⟩, w_1106, w_1107⟩
theorem cw_Main_269 : xcv R_Main 269 2 y_Evening_stir prog_3_method_6_code 4 none := ⟨⟨w_1109, w_116, w_1112, ⟨by decide +kernel, by decide +kernel, by decide +kernel⟩, by decide⟩, w_1110, w_1111⟩
theorem cw_Main_276 : xcv R_Main 276 0 y_Hall_logged prog_6_method_15_code 1 (some .int) := ⟨⟨w_1127, w_117, w_1130, ⟨by decide +kernel, by decide +kernel, by decide +kernel⟩, by decide⟩, w_1128, w_1129⟩
theorem cw_Main_279 : xcv R_Main 279 2 y_Hall_entry prog_6_method_16_code 4 (some .int) := ⟨⟨w_1131, w_117, w_1134, ⟨by decide +kernel, by decide +kernel, by decide +kernel⟩, by decide⟩, w_1132, w_1133⟩
theorem cw_Evening_107 : xcv R_Evening 107 1 y_Likings_till prog_7_method_6_code 2 (some .int) := ⟨⟨w_1165, w_114, w_1168, ⟨by decide +kernel, by decide +kernel, by decide +kernel⟩, by decide⟩, w_1166, w_1167⟩
theorem cw_Evening_110 : xcw R_Evening 110 3 y_Evening_earlier prog_3_method_11_code 3 (some .int) := ⟨w_1169, w_116, w_1171, ⟨by decide +kernel, by decide +kernel, by decide +kernel⟩, by decide⟩
theorem cw_Evening_65 : xcv R_Evening 65 1 y_Evening_pass prog_3_method_8_code 3 none := ⟨⟨w_1160, w_116, w_1044, ⟨by decide +kernel, by decide +kernel, by decide +kernel⟩, by decide⟩, w_1042, w_1043⟩
theorem cw_Evening_69 : xcv R_Evening 69 2 y_Evening_calmTill prog_3_method_10_code 6 (some .int) := ⟨⟨w_1161, w_116, w_1164, ⟨by decide +kernel, by decide +kernel, by decide +kernel⟩, by decide⟩, w_1163, w_32⟩
theorem cw_Guess_40 : xcv R_Guess 40 1 y_Hall_beginAs prog_6_method_3_code 2 none := ⟨⟨w_1155, w_117, w_1011, ⟨by decide +kernel, by decide +kernel, by decide +kernel⟩, by decide⟩, w_1009, w_1010⟩
theorem cw_Guess_47 : xcv R_Guess 47 2 y_Evening_run prog_3_method_7_code 6 none := ⟨⟨w_1156, w_116, w_1159, ⟨by decide +kernel, by decide +kernel, by decide +kernel⟩, by decide⟩, w_1157, w_1158⟩
theorem cw_Main_283 : xcw R_Main 283 1 y_Main_isNoChoice prog_1_method_38_code 1 (some .boolean) := ⟨w_1148, w_108, w_1150, ⟨by decide +kernel, by decide +kernel, by decide +kernel⟩, by decide⟩
theorem cw_Main_286 : xcv R_Main 286 1 y_Guess_pass prog_5_method_2_code 2 none := ⟨⟨w_1151, w_118, w_1154, ⟨by decide +kernel, by decide +kernel, by decide +kernel⟩, by decide⟩, w_1152, w_1153⟩
theorem cw_Guess_57 : xcv R_Guess 57 3 y_Hall_getUp prog_6_method_10_code 5 none := ⟨⟨w_1180, w_117, w_1018, ⟨by decide +kernel, by decide +kernel, by decide +kernel⟩, by decide⟩, w_1016, w_1017⟩
theorem cw_Guess_61 : xcv R_Guess 61 1 y_Likings_row prog_7_method_5_code 2 (some .int) := ⟨⟨w_1181, w_114, w_986, ⟨by decide +kernel, by decide +kernel, by decide +kernel⟩, by decide⟩, w_984, w_985⟩
theorem cw_Guess_67 : xcv R_Guess 67 2 y_Evening_moveUp prog_3_method_17_code 10 (some .int) := ⟨⟨w_1182, w_116, w_1080, ⟨by decide +kernel, by decide +kernel, by decide +kernel⟩, by decide⟩, w_1078, w_1079⟩
theorem cw_Guess_71 : xcv R_Guess 71 1 y_Hall_sitterOn prog_6_method_8_code 2 (some .int) := ⟨⟨w_1183, w_117, w_1186, ⟨by decide +kernel, by decide +kernel, by decide +kernel⟩, by decide⟩, w_1184, w_1185⟩
theorem cw_Main_292 : xcv R_Main 292 1 y_Guess_leave prog_5_method_3_code 3 none := ⟨⟨w_1176, w_118, w_1179, ⟨by decide +kernel, by decide +kernel, by decide +kernel⟩, by decide⟩, w_1177, w_1178⟩
theorem cw_Guess_79 : xcv R_Guess 79 3 y_Evening_addGoing prog_3_method_2_code 4 none := ⟨⟨w_1195, w_116, w_1198, ⟨by decide +kernel, by decide +kernel, by decide +kernel⟩, by decide⟩, w_1196, w_1197⟩
theorem cw_Guess_83 : xcv R_Guess 83 0 y_Evening_dropGoing prog_3_method_3_code 1 none := ⟨⟨w_1199, w_116, w_1202, ⟨by decide +kernel, by decide +kernel, by decide +kernel⟩, by decide⟩, w_1200, w_1201⟩
theorem cw_Guess_89 : xcv R_Guess 89 3 y_Guess_offer prog_5_method_5_code 4 none := ⟨⟨w_1203, w_118, w_1206, ⟨by decide +kernel, by decide +kernel, by decide +kernel⟩, by decide⟩, w_1205, w_33⟩
theorem cw_Main_301 : xcv R_Main 301 3 y_Guess_findMinute prog_5_method_4_code 5 none := ⟨⟨w_1191, w_118, w_1194, ⟨by decide +kernel, by decide +kernel, by decide +kernel⟩, by decide⟩, w_1192, w_1193⟩
theorem cw_Main_305 : xcv R_Main 305 2 y_Guess_joyKeeping prog_5_method_6_code 3 (some .int) := ⟨⟨w_1211, w_118, w_1214, ⟨by decide +kernel, by decide +kernel, by decide +kernel⟩, by decide⟩, w_1212, w_1213⟩
theorem cw_Guess_98 : xcv R_Guess 98 1 y_Hall_isFree prog_6_method_12_code 2 (some .boolean) := ⟨⟨w_1223, w_117, w_1075, ⟨by decide +kernel, by decide +kernel, by decide +kernel⟩, by decide⟩, w_1073, w_1074⟩
theorem cw_Guess_102 : xcv R_Guess 102 2 y_Hall_put prog_6_method_9_code 4 none := ⟨⟨w_1224, w_117, w_921, ⟨by decide +kernel, by decide +kernel, by decide +kernel⟩, by decide⟩, w_919, w_920⟩
theorem cw_Main_308 : xcv R_Main 308 1 y_Guess_findPlace prog_5_method_7_code 3 none := ⟨⟨w_1219, w_118, w_1222, ⟨by decide +kernel, by decide +kernel, by decide +kernel⟩, by decide⟩, w_1220, w_1221⟩
theorem cw_Guess_109 : xcv R_Guess 109 1 y_Evening_pass prog_3_method_8_code 3 none := ⟨⟨w_1233, w_116, w_1044, ⟨by decide +kernel, by decide +kernel, by decide +kernel⟩, by decide⟩, w_1042, w_1043⟩
theorem cw_Main_311 : xcv R_Main 311 1 y_Guess_sureSeats prog_5_method_8_code 5 (some .int) := ⟨⟨w_1229, w_118, w_1232, ⟨by decide +kernel, by decide +kernel, by decide +kernel⟩, by decide⟩, w_1230, w_1231⟩
theorem cw_Main_314 : xcv R_Main 314 0 y_Guess_breakUp prog_5_method_9_code 2 none := ⟨⟨w_1238, w_118, w_1241, ⟨by decide +kernel, by decide +kernel, by decide +kernel⟩, by decide⟩, w_1239, w_1240⟩
theorem cw_Main_317 : xcv R_Main 317 0 y_Main_hasRoom prog_1_method_18_code 1 (some .boolean) := ⟨⟨w_1246, w_108, w_1249, ⟨by decide +kernel, by decide +kernel, by decide +kernel⟩, by decide⟩, w_1248, w_34⟩
theorem cw_Main_321 : xcv R_Main 321 0 y_Guess_findRule prog_5_method_10_code 3 none := ⟨⟨w_1250, w_118, w_1253, ⟨by decide +kernel, by decide +kernel, by decide +kernel⟩, by decide⟩, w_1251, w_1252⟩
theorem cw_Main_339 : xcv R_Main 339 0 y_Game_gather prog_4_method_2_code 2 (some .boolean) := ⟨⟨w_1262, w_119, w_1265, ⟨by decide +kernel, by decide +kernel, by decide +kernel⟩, by decide⟩, w_1263, w_1264⟩
theorem cw_Game_51 : xcv R_Game 51 0 y_Game_least prog_4_method_6_code 3 (some .int) := ⟨⟨w_1282, w_119, w_1285, ⟨by decide +kernel, by decide +kernel, by decide +kernel⟩, by decide⟩, w_1284, w_37⟩
theorem cw_Game_58 : xcv R_Game 58 1 y_Hall_beginAs prog_6_method_3_code 2 none := ⟨⟨w_1290, w_117, w_1011, ⟨by decide +kernel, by decide +kernel, by decide +kernel⟩, by decide⟩, w_1009, w_1010⟩
theorem cw_Game_74 : xcv R_Game 74 2 y_Evening_run prog_3_method_7_code 6 none := ⟨⟨w_1292, w_116, w_1159, ⟨by decide +kernel, by decide +kernel, by decide +kernel⟩, by decide⟩, w_1157, w_1158⟩
theorem cw_Game_78 : xcv R_Game 78 0 y_Evening_dropGoing prog_3_method_3_code 1 none := ⟨⟨w_1293, w_116, w_1202, ⟨by decide +kernel, by decide +kernel, by decide +kernel⟩, by decide⟩, w_1200, w_1201⟩
theorem cw_Game_65 : xcv R_Game 65 3 y_Evening_addGoing prog_3_method_2_code 4 none := ⟨⟨w_1291, w_116, w_1198, ⟨by decide +kernel, by decide +kernel, by decide +kernel⟩, by decide⟩, w_1196, w_1197⟩
theorem cw_Game_84 : xcv R_Game 84 0 y_Game_outcome prog_4_method_7_code 4 (some .int) := ⟨⟨w_1278, w_119, w_1281, ⟨by decide +kernel, by decide +kernel, by decide +kernel⟩, by decide⟩, w_1280, w_36⟩
theorem cw_Game_87 : xcv R_Game 87 1 y_Game_tryOut prog_4_method_8_code 3 none := ⟨⟨w_1286, w_119, w_1289, ⟨by decide +kernel, by decide +kernel, by decide +kernel⟩, by decide⟩, w_1288, w_38⟩
theorem cw_Game_91 : xcv R_Game 91 2 y_Game_gain prog_4_method_10_code 3 (some .int) := ⟨⟨w_1294, w_119, w_1297, ⟨by decide +kernel, by decide +kernel, by decide +kernel⟩, by decide⟩, w_1296, w_39⟩
theorem cw_Main_324 : xcv R_Main 324 1 y_Main_isGame prog_1_method_41_code 2 (some .boolean) := ⟨⟨w_1258, w_108, w_1261, ⟨by decide +kernel, by decide +kernel, by decide +kernel⟩, by decide⟩, w_1260, w_35⟩
theorem cw_Main_327 : xcv R_Main 327 1 y_Game_takeRow prog_4_method_4_code 4 (some .boolean) := ⟨⟨w_1266, w_119, w_1269, ⟨by decide +kernel, by decide +kernel, by decide +kernel⟩, by decide⟩, w_1267, w_1268⟩
theorem cw_Main_330 : xcv R_Main 330 1 y_Game_placeOf prog_4_method_3_code 3 (some .int) := ⟨⟨w_1270, w_119, w_1273, ⟨by decide +kernel, by decide +kernel, by decide +kernel⟩, by decide⟩, w_1271, w_1272⟩
theorem cw_Main_333 : xcv R_Main 333 2 y_Game_gainNow prog_4_method_9_code 3 (some .int) := ⟨⟨w_1274, w_119, w_1277, ⟨by decide +kernel, by decide +kernel, by decide +kernel⟩, by decide⟩, w_1275, w_1276⟩
theorem cw_Game_95 : xcv R_Game 95 1 y_Game_isRest prog_4_method_13_code 7 (some .boolean) := ⟨⟨w_1306, w_119, w_1309, ⟨by decide +kernel, by decide +kernel, by decide +kernel⟩, by decide⟩, w_1308, w_40⟩
theorem cw_Game_102 : xcv R_Game 102 0 y_Game_countUp prog_4_method_12_code 2 (some .boolean) := ⟨⟨w_1314, w_119, w_1317, ⟨by decide +kernel, by decide +kernel, by decide +kernel⟩, by decide⟩, w_1316, w_42⟩
theorem cw_Game_99 : xcv R_Game 99 0 y_Game_row prog_4_method_5_code 3 (some .int) := ⟨⟨w_1310, w_119, w_1313, ⟨by decide +kernel, by decide +kernel, by decide +kernel⟩, by decide⟩, w_1312, w_41⟩
theorem cw_Main_336 : xcv R_Main 336 2 y_Game_findRests prog_4_method_11_code 6 (some .int) := ⟨⟨w_1302, w_119, w_1305, ⟨by decide +kernel, by decide +kernel, by decide +kernel⟩, by decide⟩, w_1303, w_1304⟩
theorem cw_Branches_73 : xcv R_Branches 73 1 y_Hall_beginAs prog_6_method_3_code 2 none := ⟨⟨w_1326, w_117, w_1011, ⟨by decide +kernel, by decide +kernel, by decide +kernel⟩, by decide⟩, w_1009, w_1010⟩
theorem cw_Branches_102 : xcv R_Branches 102 3 y_Evening_addGoing prog_3_method_2_code 4 none := ⟨⟨w_1336, w_116, w_1198, ⟨by decide +kernel, by decide +kernel, by decide +kernel⟩, by decide⟩, w_1196, w_1197⟩
theorem cw_Branches_105 : xcv R_Branches 105 1 y_Evening_pass prog_3_method_8_code 3 none := ⟨⟨w_1337, w_116, w_1044, ⟨by decide +kernel, by decide +kernel, by decide +kernel⟩, by decide⟩, w_1042, w_1043⟩
theorem cw_Branches_108 : xcv R_Branches 108 0 y_Evening_dropGoing prog_3_method_3_code 1 none := ⟨⟨w_1338, w_116, w_1202, ⟨by decide +kernel, by decide +kernel, by decide +kernel⟩, by decide⟩, w_1200, w_1201⟩
theorem cw_Branches_77 : xcv R_Branches 77 3 y_Branches_order prog_2_method_3_code 7 none := ⟨⟨w_1327, w_120, w_1330, ⟨by decide +kernel, by decide +kernel, by decide +kernel⟩, by decide⟩, w_1329, w_43⟩
theorem cw_Branches_89 : xcv R_Branches 89 2 y_Evening_run prog_3_method_7_code 6 none := ⟨⟨w_1331, w_116, w_1159, ⟨by decide +kernel, by decide +kernel, by decide +kernel⟩, by decide⟩, w_1157, w_1158⟩
theorem cw_Branches_95 : xcv R_Branches 95 1 y_Hall_gap prog_6_method_17_code 5 (some .int) := ⟨⟨w_1332, w_117, w_1335, ⟨by decide +kernel, by decide +kernel, by decide +kernel⟩, by decide⟩, w_1333, w_1334⟩
theorem cw_Main_342 : xcv R_Main 342 1 y_Branches_findOrder prog_2_method_2_code 2 none := ⟨⟨w_1322, w_120, w_1325, ⟨by decide +kernel, by decide +kernel, by decide +kernel⟩, by decide⟩, w_1323, w_1324⟩
theorem cw_Main_351 : xcv R_Main 351 2 y_Branches_tell prog_2_method_4_code 3 (some .boolean) := ⟨⟨w_1343, w_120, w_1346, ⟨by decide +kernel, by decide +kernel, by decide +kernel⟩, by decide⟩, w_1344, w_1345⟩
theorem cw_Branches_139 : xcv R_Branches 139 1 y_Branches_isAsTold prog_2_method_5_code 4 (some .boolean) := ⟨⟨w_1367, w_120, w_1370, ⟨by decide +kernel, by decide +kernel, by decide +kernel⟩, by decide⟩, w_1369, w_46⟩
theorem cw_Branches_126 : xcv R_Branches 126 2 y_Branches_choose prog_2_method_9_code 5 none := ⟨⟨w_1363, w_120, w_1366, ⟨by decide +kernel, by decide +kernel, by decide +kernel⟩, by decide⟩, w_1365, w_45⟩
theorem cw_Branches_119 : xcv R_Branches 119 1 y_Hall_goesOnAs prog_6_method_5_code 4 (some .boolean) := ⟨⟨w_1355, w_117, w_1358, ⟨by decide +kernel, by decide +kernel, by decide +kernel⟩, by decide⟩, w_1356, w_1357⟩
theorem cw_Branches_123 : xcv R_Branches 123 0 y_Branches_lineUp prog_2_method_8_code 3 none := ⟨⟨w_1359, w_120, w_1362, ⟨by decide +kernel, by decide +kernel, by decide +kernel⟩, by decide⟩, w_1361, w_44⟩
theorem cw_Main_355 : xcv R_Main 355 0 y_Branches_findSets prog_2_method_6_code 3 none := ⟨⟨w_1351, w_120, w_1354, ⟨by decide +kernel, by decide +kernel, by decide +kernel⟩, by decide⟩, w_1352, w_1353⟩
theorem cw_Main_358 : xcv R_Main 358 1 y_Branches_fitting prog_2_method_7_code 4 (some .int) := ⟨⟨w_1371, w_120, w_1374, ⟨by decide +kernel, by decide +kernel, by decide +kernel⟩, by decide⟩, w_1372, w_1373⟩
theorem cw_Main_361 : xcv R_Main 361 1 y_Main_rank prog_1_method_46_code 4 (some .int) := ⟨⟨w_1379, w_108, w_1382, ⟨by decide +kernel, by decide +kernel, by decide +kernel⟩, by decide⟩, w_1381, w_47⟩
theorem cw_Main_364 : xcv R_Main 364 1 y_Main_envies prog_1_method_48_code 6 (some .boolean) := ⟨⟨w_1387, w_108, w_1390, ⟨by decide +kernel, by decide +kernel, by decide +kernel⟩, by decide⟩, w_1389, w_48⟩
theorem cw_Main_367 : xcv R_Main 367 1 y_Hall_gap prog_6_method_17_code 5 (some .int) := ⟨⟨w_1395, w_117, w_1335, ⟨by decide +kernel, by decide +kernel, by decide +kernel⟩, by decide⟩, w_1333, w_1334⟩
theorem cw_Model_129 : xcw R_Model 129 1 y_Model_bytesIn prog_14_method_6_code 3 (some .int) := ⟨w_1679, w_121, w_1681, ⟨by decide +kernel, by decide +kernel, by decide +kernel⟩, by decide⟩
theorem cw_Model_133 : xcv R_Model 133 1 y_Model_put prog_14_method_7_code 3 none := ⟨⟨w_1682, w_121, w_1685, ⟨by decide +kernel, by decide +kernel, by decide +kernel⟩, by decide⟩, w_1684, w_50⟩
theorem cw_Model_152 : xcv R_Model 152 0 y_Model_fails prog_14_method_11_code 1 (some .boolean) := ⟨⟨w_1716, w_121, w_1719, ⟨by decide +kernel, by decide +kernel, by decide +kernel⟩, by decide⟩, w_1718, w_55⟩
theorem cw_Model_156 : xcv R_Model 156 0 y_Model_look prog_14_method_10_code 1 (some .int) := ⟨⟨w_1712, w_121, w_1715, ⟨by decide +kernel, by decide +kernel, by decide +kernel⟩, by decide⟩, w_1714, w_54⟩
theorem cw_Model_172 : xcw R_Model 172 2 y_Model_isAmong prog_14_method_5_code 3 (some .boolean) := ⟨w_1785, w_121, w_1787, ⟨by decide +kernel, by decide +kernel, by decide +kernel⟩, by decide⟩
theorem cw_Model_176 : xcv R_Model 176 0 y_Model_goesIn prog_14_method_12_code 1 (some .boolean) := ⟨⟨w_1816, w_121, w_1819, ⟨by decide +kernel, by decide +kernel, by decide +kernel⟩, by decide⟩, w_1818, w_70⟩
theorem cw_Model_179 : xcv R_Model 179 0 y_Model_sum prog_14_method_18_code 5 (some .int) := ⟨⟨w_1804, w_121, w_1807, ⟨by decide +kernel, by decide +kernel, by decide +kernel⟩, by decide⟩, w_1806, w_67⟩
theorem cw_Model_182 : xcv R_Model 182 1 y_Model_takes prog_14_method_13_code 2 (some .boolean) := ⟨⟨w_1788, w_121, w_1791, ⟨by decide +kernel, by decide +kernel, by decide +kernel⟩, by decide⟩, w_1790, w_63⟩
theorem cw_Model_186 : xcv R_Model 186 0 y_Model_isDigit prog_14_method_14_code 1 (some .boolean) := ⟨⟨w_1762, w_121, w_1765, ⟨by decide +kernel, by decide +kernel, by decide +kernel⟩, by decide⟩, w_1764, w_58⟩
theorem cw_Model_189 : xcv R_Model 189 0 y_Model_atom prog_14_method_16_code 4 (some .int) := ⟨⟨w_1812, w_121, w_1815, ⟨by decide +kernel, by decide +kernel, by decide +kernel⟩, by decide⟩, w_1814, w_69⟩
theorem cw_Model_192 : xcw R_Model 192 1 y_Model_within prog_14_method_15_code 2 (some .int) := ⟨w_1820, w_121, w_1822, ⟨by decide +kernel, by decide +kernel, by decide +kernel⟩, by decide⟩
theorem cw_Model_196 : xcv R_Model 196 0 y_Model_term prog_14_method_17_code 5 (some .int) := ⟨⟨w_1808, w_121, w_1811, ⟨by decide +kernel, by decide +kernel, by decide +kernel⟩, by decide⟩, w_1810, w_68⟩
theorem cw_Model_199 : xcw R_Model 199 1 y_Model_isSign prog_14_method_19_code 1 (some .boolean) := ⟨w_1831, w_121, w_1833, ⟨by decide +kernel, by decide +kernel, by decide +kernel⟩, by decide⟩
theorem cw_Model_202 : xcv R_Model 202 0 y_Model_unit prog_14_method_21_code 3 (some .boolean) := ⟨⟨w_1834, w_121, w_1837, ⟨by decide +kernel, by decide +kernel, by decide +kernel⟩, by decide⟩, w_1836, w_71⟩
theorem cw_Model_209 : xcv R_Model 209 2 y_Model_compares prog_14_method_20_code 6 (some .boolean) := ⟨⟨w_1800, w_121, w_1803, ⟨by decide +kernel, by decide +kernel, by decide +kernel⟩, by decide⟩, w_1802, w_66⟩
theorem cw_Model_212 : xcv R_Model 212 2 y_Model_part prog_14_method_22_code 5 (some .boolean) := ⟨⟨w_1796, w_121, w_1799, ⟨by decide +kernel, by decide +kernel, by decide +kernel⟩, by decide⟩, w_1798, w_65⟩
theorem cw_Model_205 : xcv R_Model 205 2 y_Model_condition prog_14_method_23_code 5 (some .boolean) := ⟨⟨w_1792, w_121, w_1795, ⟨by decide +kernel, by decide +kernel, by decide +kernel⟩, by decide⟩, w_1794, w_64⟩
theorem cw_Model_225 : xcv R_Model 225 3 y_Model_starts prog_14_method_25_code 4 none := ⟨⟨w_1701, w_121, w_1704, ⟨by decide +kernel, by decide +kernel, by decide +kernel⟩, by decide⟩, w_1703, w_52⟩
theorem cw_Model_229 : xcv R_Model 229 0 y_Model_clause prog_14_method_24_code 5 none := ⟨⟨w_1781, w_121, w_1784, ⟨by decide +kernel, by decide +kernel, by decide +kernel⟩, by decide⟩, w_1783, w_62⟩
theorem cw_Model_235 : xcw R_Model 235 3 y_Model_isIn prog_14_method_3_code 6 (some .boolean) := ⟨w_1694, w_121, w_1696, ⟨by decide +kernel, by decide +kernel, by decide +kernel⟩, by decide⟩
theorem cw_Model_232 : xcv R_Model 232 0 y_Model_here prog_14_method_27_code 1 (some .int) := ⟨⟨w_1766, w_121, w_1769, ⟨by decide +kernel, by decide +kernel, by decide +kernel⟩, by decide⟩, w_1768, w_59⟩
theorem cw_Model_243 : xcw R_Model 243 2 y_Model_spotOf prog_14_method_28_code 3 (some .int) := ⟨w_1726, w_121, w_1728, ⟨by decide +kernel, by decide +kernel, by decide +kernel⟩, by decide⟩
theorem cw_Model_247 : xcw R_Model 247 2 y_Model_has prog_14_method_4_code 2 (some .boolean) := ⟨w_1749, w_121, w_1751, ⟨by decide +kernel, by decide +kernel, by decide +kernel⟩, by decide⟩
theorem cw_Model_251 : xcw R_Model 251 2 y_Model_leastOf prog_14_method_31_code 2 (some .int) := ⟨w_1752, w_121, w_1754, ⟨by decide +kernel, by decide +kernel, by decide +kernel⟩, by decide⟩
theorem cw_Model_254 : xcw R_Model 254 2 y_Model_mostOf prog_14_method_30_code 2 (some .int) := ⟨w_1755, w_121, w_1757, ⟨by decide +kernel, by decide +kernel, by decide +kernel⟩, by decide⟩
theorem cw_Model_257 : xcv R_Model 257 4 y_Model_readItem prog_14_method_29_code 7 none := ⟨⟨w_1758, w_121, w_1761, ⟨by decide +kernel, by decide +kernel, by decide +kernel⟩, by decide⟩, w_1760, w_57⟩
theorem cw_Model_239 : xcw R_Model 239 2 y_Model_usual prog_14_method_32_code 2 (some .int) := ⟨w_1705, w_121, w_1707, ⟨by decide +kernel, by decide +kernel, by decide +kernel⟩, by decide⟩
theorem cw_Model_275 : xcv R_Model 275 4 y_Model_readItems prog_14_method_33_code 7 none := ⟨⟨w_1721, w_121, w_1724, ⟨by decide +kernel, by decide +kernel, by decide +kernel⟩, by decide⟩, w_1723, w_56⟩
theorem cw_Model_288 : xcv R_Model 288 0 y_Model_isWhole prog_14_method_35_code 5 (some .boolean) := ⟨⟨w_1773, w_121, w_1776, ⟨by decide +kernel, by decide +kernel, by decide +kernel⟩, by decide⟩, w_1775, w_60⟩
theorem cw_Model_285 : xcv R_Model 285 0 y_Model_readClause prog_14_method_34_code 3 none := ⟨⟨w_1708, w_121, w_1711, ⟨by decide +kernel, by decide +kernel, by decide +kernel⟩, by decide⟩, w_1710, w_53⟩
theorem cw_Model_291 : xcv R_Model 291 0 y_Model_readRoom prog_14_method_36_code 2 none := ⟨⟨w_1697, w_121, w_1700, ⟨by decide +kernel, by decide +kernel, by decide +kernel⟩, by decide⟩, w_1699, w_51⟩
theorem cw_Model_294 : xcv R_Model 294 3 y_Model_goThrough prog_14_method_26_code 4 none := ⟨⟨w_1777, w_121, w_1780, ⟨by decide +kernel, by decide +kernel, by decide +kernel⟩, by decide⟩, w_1779, w_61⟩
theorem cw_Model_300 : xcv R_Model 300 1 y_Model_fault prog_14_method_37_code 2 (some .int) := ⟨⟨w_1842, w_121, w_1693, ⟨by decide +kernel, by decide +kernel, by decide +kernel⟩, by decide⟩, w_1691, w_1692⟩
theorem cw_Model_320 : xcv R_Model 320 2 y_Model_sitsOn prog_14_method_43_code 4 (some .int) := ⟨⟨w_1852, w_121, w_1855, ⟨by decide +kernel, by decide +kernel, by decide +kernel⟩, by decide⟩, w_1854, w_73⟩
theorem cw_Model_342 : xcv R_Model 342 3 y_Model_likesBy prog_14_method_45_code 8 (some .int) := ⟨⟨w_1886, w_121, w_1889, ⟨by decide +kernel, by decide +kernel, by decide +kernel⟩, by decide⟩, w_1888, w_76⟩
theorem cw_Model_346 : xcv R_Model 346 2 y_Model_keptFor prog_14_method_48_code 4 (some .int) := ⟨⟨w_1956, w_121, w_1959, ⟨by decide +kernel, by decide +kernel, by decide +kernel⟩, by decide⟩, w_1958, w_86⟩
theorem cw_Model_353 : xcv R_Model 353 2 y_Model_isFree prog_14_method_44_code 3 (some .boolean) := ⟨⟨w_1960, w_121, w_1963, ⟨by decide +kernel, by decide +kernel, by decide +kernel⟩, by decide⟩, w_1962, w_87⟩
theorem cw_Model_357 : xcv R_Model 357 3 y_Model_likesIn prog_14_method_46_code 4 (some .int) := ⟨⟨w_1882, w_121, w_1885, ⟨by decide +kernel, by decide +kernel, by decide +kernel⟩, by decide⟩, w_1884, w_75⟩
theorem cw_Model_349 : xcv R_Model 349 2 y_Model_frees prog_14_method_49_code 3 none := ⟨⟨w_1944, w_121, w_1947, ⟨by decide +kernel, by decide +kernel, by decide +kernel⟩, by decide⟩, w_1946, w_83⟩
theorem cw_Model_361 : xcw R_Model 361 2 y_Model_isHere prog_14_method_42_code 2 (some .boolean) := ⟨w_1904, w_121, w_1906, ⟨by decide +kernel, by decide +kernel, by decide +kernel⟩, by decide⟩
theorem cw_Model_367 : xcv R_Model 367 3 y_Model_wouldMove prog_14_method_51_code 4 (some .boolean) := ⟨⟨w_1972, w_121, w_1975, ⟨by decide +kernel, by decide +kernel, by decide +kernel⟩, by decide⟩, w_1974, w_90⟩
theorem cw_Model_371 : xcv R_Model 371 3 y_Model_farFrom prog_14_method_52_code 5 (some .int) := ⟨⟨w_1976, w_121, w_1979, ⟨by decide +kernel, by decide +kernel, by decide +kernel⟩, by decide⟩, w_1978, w_91⟩
theorem cw_Model_377 : xcv R_Model 377 2 y_Model_moverTo prog_14_method_53_code 6 (some .int) := ⟨⟨w_1968, w_121, w_1971, ⟨by decide +kernel, by decide +kernel, by decide +kernel⟩, by decide⟩, w_1970, w_89⟩
theorem cw_Model_380 : xcv R_Model 380 3 y_Model_moves prog_14_method_54_code 5 none := ⟨⟨w_1983, w_121, w_1986, ⟨by decide +kernel, by decide +kernel, by decide +kernel⟩, by decide⟩, w_1985, w_92⟩
theorem cw_Model_384 : xcv R_Model 384 2 y_Model_comesBack prog_14_method_50_code 6 none := ⟨⟨w_1952, w_121, w_1955, ⟨by decide +kernel, by decide +kernel, by decide +kernel⟩, by decide⟩, w_1954, w_85⟩
theorem cw_Model_394 : xcv R_Model 394 1 y_Model_backs prog_14_method_56_code 4 none := ⟨⟨w_1948, w_121, w_1951, ⟨by decide +kernel, by decide +kernel, by decide +kernel⟩, by decide⟩, w_1950, w_84⟩
theorem cw_Model_398 : xcv R_Model 398 1 y_Model_movesUp prog_14_method_55_code 5 none := ⟨⟨w_1964, w_121, w_1967, ⟨by decide +kernel, by decide +kernel, by decide +kernel⟩, by decide⟩, w_1966, w_88⟩
theorem cw_Model_387 : xcv R_Model 387 4 y_Model_goesUp prog_14_method_47_code 7 none := ⟨⟨w_1920, w_121, w_1923, ⟨by decide +kernel, by decide +kernel, by decide +kernel⟩, by decide⟩, w_1922, w_80⟩
theorem cw_Model_401 : xcv R_Model 401 1 y_Model_halfMinute prog_14_method_57_code 4 none := ⟨⟨w_1940, w_121, w_1943, ⟨by decide +kernel, by decide +kernel, by decide +kernel⟩, by decide⟩, w_1942, w_82⟩
theorem cw_Model_404 : xcv R_Model 404 1 y_Model_goMinute prog_14_method_58_code 3 none := ⟨⟨w_1936, w_121, w_1939, ⟨by decide +kernel, by decide +kernel, by decide +kernel⟩, by decide⟩, w_1938, w_81⟩
theorem cw_Model_407 : xcv R_Model 407 1 y_Model_isSeat prog_14_method_41_code 2 (some .boolean) := ⟨⟨w_1847, w_121, w_1850, ⟨by decide +kernel, by decide +kernel, by decide +kernel⟩, by decide⟩, w_1849, w_72⟩
theorem cw_Model_412 : xcv R_Model 412 1 y_Model_isSitter prog_14_method_40_code 2 (some .boolean) := ⟨⟨w_1860, w_121, w_1863, ⟨by decide +kernel, by decide +kernel, by decide +kernel⟩, by decide⟩, w_1862, w_74⟩
theorem cw_Model_423 : xcv R_Model 423 0 y_Model_left prog_14_method_67_code 1 (some .int) := ⟨⟨w_1912, w_121, w_1915, ⟨by decide +kernel, by decide +kernel, by decide +kernel⟩, by decide⟩, w_1914, w_78⟩
theorem cw_Model_428 : xcv R_Model 428 0 y_Model_isOpen prog_14_method_68_code 1 (some .boolean) := ⟨⟨w_1908, w_121, w_1911, ⟨by decide +kernel, by decide +kernel, by decide +kernel⟩, by decide⟩, w_1910, w_77⟩
theorem cw_Model_431 : xcv R_Model 431 0 y_Model_remember prog_14_method_66_code 2 none := ⟨⟨w_1916, w_121, w_1919, ⟨by decide +kernel, by decide +kernel, by decide +kernel⟩, by decide⟩, w_1918, w_79⟩
theorem cw_Model_442 : xcv R_Model 442 1 y_Model_draw prog_14_method_73_code 2 (some .int) := ⟨⟨w_1991, w_121, w_1994, ⟨by decide +kernel, by decide +kernel, by decide +kernel⟩, by decide⟩, w_1993, w_93⟩
theorem cw_Model_447 : xcw R_Model 447 2 y_Model_copy prog_14_method_39_code 4 none := ⟨w_2010, w_121, w_2012, ⟨by decide +kernel, by decide +kernel, by decide +kernel⟩, by decide⟩
theorem cw_Model_453 : xcv R_Model 453 3 y_Model_extra prog_14_method_79_code 4 none := ⟨⟨w_2022, w_121, w_2025, ⟨by decide +kernel, by decide +kernel, by decide +kernel⟩, by decide⟩, w_2024, w_94⟩
theorem cw_Model_457 : xcv R_Model 457 1 y_Model_toEnd prog_14_method_59_code 2 none := ⟨⟨w_2026, w_121, w_2029, ⟨by decide +kernel, by decide +kernel, by decide +kernel⟩, by decide⟩, w_2028, w_95⟩
theorem cw_Model_460 : xcv R_Model 460 2 y_Model_joyKeeping prog_14_method_81_code 3 (some .int) := ⟨⟨w_2034, w_121, w_2037, ⟨by decide +kernel, by decide +kernel, by decide +kernel⟩, by decide⟩, w_2036, w_96⟩
theorem cw_Model_463 : xcv R_Model 463 2 y_Model_joyOn prog_14_method_83_code 3 (some .int) := ⟨⟨w_2042, w_121, w_2045, ⟨by decide +kernel, by decide +kernel, by decide +kernel⟩, by decide⟩, w_2044, w_97⟩
theorem cw_Model_469 : xcv R_Model 469 0 y_Model_layHere prog_14_method_86_code 2 (some .boolean) := ⟨⟨w_2054, w_121, w_2057, ⟨by decide +kernel, by decide +kernel, by decide +kernel⟩, by decide⟩, w_2056, w_98⟩
theorem cw_Model_472 : xcv R_Model 472 1 y_Model_hereOf prog_14_method_88_code 3 (some .int) := ⟨⟨w_2058, w_121, w_2061, ⟨by decide +kernel, by decide +kernel, by decide +kernel⟩, by decide⟩, w_2060, w_99⟩
theorem cw_Model_475 : xcv R_Model 475 0 y_Model_rings prog_14_method_87_code 5 (some .int) := ⟨⟨w_2062, w_121, w_2065, ⟨by decide +kernel, by decide +kernel, by decide +kernel⟩, by decide⟩, w_2064, w_100⟩
theorem cw_Model_478 : xcw R_Model 478 2 y_Model_power prog_14_method_90_code 4 (some .int) := ⟨w_2074, w_121, w_2076, ⟨by decide +kernel, by decide +kernel, by decide +kernel⟩, by decide⟩
theorem cw_Model_481 : xcv R_Model 481 2 y_Model_digitOf prog_14_method_91_code 3 (some .int) := ⟨⟨w_2077, w_121, w_2080, ⟨by decide +kernel, by decide +kernel, by decide +kernel⟩, by decide⟩, w_2079, w_102⟩
theorem cw_Model_484 : xcv R_Model 484 1 y_Model_layCalls prog_14_method_92_code 5 none := ⟨⟨w_2070, w_121, w_2073, ⟨by decide +kernel, by decide +kernel, by decide +kernel⟩, by decide⟩, w_2072, w_101⟩
theorem cw_Model_487 : xcv R_Model 487 1 y_Model_isRest prog_14_method_93_code 6 (some .boolean) := ⟨⟨w_2081, w_121, w_2084, ⟨by decide +kernel, by decide +kernel, by decide +kernel⟩, by decide⟩, w_2083, w_103⟩
theorem cw_Model_490 : xcv R_Model 490 1 y_Model_evenIn prog_14_method_97_code 5 (some .int) := ⟨⟨w_2097, w_121, w_2100, ⟨by decide +kernel, by decide +kernel, by decide +kernel⟩, by decide⟩, w_2099, w_105⟩
theorem cw_Model_497 : xcw R_Model 497 2 y_Model_digitsIn prog_14_method_96_code 4 (some .int) := ⟨w_2101, w_121, w_2103, ⟨by decide +kernel, by decide +kernel, by decide +kernel⟩, by decide⟩
theorem cw_Model_503 : xcv R_Model 503 3 y_Model_goFair prog_14_method_98_code 5 none := ⟨⟨w_2093, w_121, w_2096, ⟨by decide +kernel, by decide +kernel, by decide +kernel⟩, by decide⟩, w_2095, w_104⟩
theorem cw_Model_506 : xcv R_Model 506 1 y_Model_isSo prog_14_method_102_code 3 (some .boolean) := ⟨⟨w_2116, w_121, w_2119, ⟨by decide +kernel, by decide +kernel, by decide +kernel⟩, by decide⟩, w_2118, w_106⟩
