theorem wd_0 : (.selects "HouseHeirs$Street" ⟨"HouseHeirs$Street", "empty", "()V"⟩ ⟨"HouseHeirs$Street", "empty", "()V"⟩ : Cond) ∈ gw := gw_of (tb_0 _ (List.mem_of_getElem? (i := 0) rfl)) rfl
theorem wd_1 : (.selects "HouseHeirs$Past" ⟨"HouseHeirs$Past", "forget", "()V"⟩ ⟨"HouseHeirs$Past", "forget", "()V"⟩ : Cond) ∈ gw := gw_of (tb_0 _ (List.mem_of_getElem? (i := 1) rfl)) rfl
theorem wd_2 : (.selects "HouseHeirs$Street" ⟨"HouseHeirs$Street", "addHouse", "(III)I"⟩ ⟨"HouseHeirs$Street", "addHouse", "(III)I"⟩ : Cond) ∈ gw := gw_of (tb_0 _ (List.mem_of_getElem? (i := 2) rfl)) rfl
theorem wd_3 : (.selects "HouseHeirs" ⟨"HouseHeirs", "told", "(II)I"⟩ ⟨"HouseHeirs", "told", "(II)I"⟩ : Cond) ∈ gw := gw_of (tb_0 _ (List.mem_of_getElem? (i := 3) rfl)) rfl
theorem wd_4 : (.selects "HouseHeirs" ⟨"HouseHeirs", "refused", "(II)I"⟩ ⟨"HouseHeirs", "refused", "(II)I"⟩ : Cond) ∈ gw := gw_of (tb_0 _ (List.mem_of_getElem? (i := 4) rfl)) rfl
theorem wd_5 : (.selects "HouseHeirs$Street" ⟨"HouseHeirs$Street", "setFrom", "(II)I"⟩ ⟨"HouseHeirs$Street", "setFrom", "(II)I"⟩ : Cond) ∈ gw := gw_of (tb_0 _ (List.mem_of_getElem? (i := 5) rfl)) rfl
theorem wd_6 : (.selects "HouseHeirs$Street" ⟨"HouseHeirs$Street", "has", "(I)Z"⟩ ⟨"HouseHeirs$Street", "has", "(I)Z"⟩ : Cond) ∈ gw := gw_of (tb_0 _ (List.mem_of_getElem? (i := 6) rfl)) rfl
theorem wd_7 : (.selects "HouseHeirs$Street" ⟨"HouseHeirs$Street", "setWill", "(II)I"⟩ ⟨"HouseHeirs$Street", "setWill", "(II)I"⟩ : Cond) ∈ gw := gw_of (tb_0 _ (List.mem_of_getElem? (i := 7) rfl)) rfl
theorem wd_8 : (.selects "HouseHeirs$Street" ⟨"HouseHeirs$Street", "setWall", "(IIZ)I"⟩ ⟨"HouseHeirs$Street", "setWall", "(IIZ)I"⟩ : Cond) ∈ gw := gw_of (tb_0 _ (List.mem_of_getElem? (i := 8) rfl)) rfl
theorem wd_9 : (.selects "HouseHeirs$Street" ⟨"HouseHeirs$Street", "hasTwo", "(II)Z"⟩ ⟨"HouseHeirs$Street", "hasTwo", "(II)Z"⟩ : Cond) ∈ gw := gw_of (tb_0 _ (List.mem_of_getElem? (i := 9) rfl)) rfl
theorem wd_10 : (.selects "HouseHeirs$Street" ⟨"HouseHeirs$Street", "hasWall", "(II)Z"⟩ ⟨"HouseHeirs$Street", "hasWall", "(II)Z"⟩ : Cond) ∈ gw := gw_of (tb_0 _ (List.mem_of_getElem? (i := 10) rfl)) rfl
theorem wd_11 : (.selects "HouseHeirs$Street" ⟨"HouseHeirs$Street", "addOne", "(II)I"⟩ ⟨"HouseHeirs$Street", "addOne", "(II)I"⟩ : Cond) ∈ gw := gw_of (tb_0 _ (List.mem_of_getElem? (i := 11) rfl)) rfl
theorem wd_12 : (.selects "HouseHeirs$Street" ⟨"HouseHeirs$Street", "stands", "(I)Z"⟩ ⟨"HouseHeirs$Street", "stands", "(I)Z"⟩ : Cond) ∈ gw := gw_of (tb_0 _ (List.mem_of_getElem? (i := 12) rfl)) rfl
theorem wd_13 : (.selects "HouseHeirs$Street" ⟨"HouseHeirs$Street", "setFeud", "(IIZ)I"⟩ ⟨"HouseHeirs$Street", "setFeud", "(IIZ)I"⟩ : Cond) ∈ gw := gw_of (tb_0 _ (List.mem_of_getElem? (i := 13) rfl)) rfl
theorem wd_14 : (.selects "HouseHeirs$Street" ⟨"HouseHeirs$Street", "hasFeud", "(II)Z"⟩ ⟨"HouseHeirs$Street", "hasFeud", "(II)Z"⟩ : Cond) ∈ gw := gw_of (tb_0 _ (List.mem_of_getElem? (i := 14) rfl)) rfl
theorem wd_15 : (.selects "HouseHeirs$Street" ⟨"HouseHeirs$Street", "setMarks", "(II)I"⟩ ⟨"HouseHeirs$Street", "setMarks", "(II)I"⟩ : Cond) ∈ gw := gw_of (tb_0 _ (List.mem_of_getElem? (i := 15) rfl)) rfl
theorem wd_16 : (.selects "HouseHeirs$Text" ⟨"HouseHeirs$Text", "append", "(I)I"⟩ ⟨"HouseHeirs$Text", "append", "(I)I"⟩ : Cond) ∈ gw := gw_of (tb_0 _ (List.mem_of_getElem? (i := 16) rfl)) rfl
theorem wd_17 : (.selects "HouseHeirs$Text" ⟨"HouseHeirs$Text", "parse", "()I"⟩ ⟨"HouseHeirs$Text", "parse", "()I"⟩ : Cond) ∈ gw := gw_of (tb_0 _ (List.mem_of_getElem? (i := 17) rfl)) rfl
theorem wd_18 : (.selects "HouseHeirs$Text" ⟨"HouseHeirs$Text", "nextToken", "()V"⟩ ⟨"HouseHeirs$Text", "nextToken", "()V"⟩ : Cond) ∈ gw := gw_of (tb_0 _ (List.mem_of_getElem? (i := 18) rfl)) rfl
theorem wd_19 : (.selects "HouseHeirs$Text" ⟨"HouseHeirs$Text", "runEnd", "(Z)I"⟩ ⟨"HouseHeirs$Text", "runEnd", "(Z)I"⟩ : Cond) ∈ gw := gw_of (tb_0 _ (List.mem_of_getElem? (i := 19) rfl)) rfl
theorem wd_20 : (.selects "HouseHeirs$Text" ⟨"HouseHeirs$Text", "parseItem", "(I)Z"⟩ ⟨"HouseHeirs$Text", "parseItem", "(I)Z"⟩ : Cond) ∈ gw := gw_of (tb_0 _ (List.mem_of_getElem? (i := 20) rfl)) rfl
theorem wd_21 : (.selects "HouseHeirs$Text" ⟨"HouseHeirs$Text", "wordKind", "()I"⟩ ⟨"HouseHeirs$Text", "wordKind", "()I"⟩ : Cond) ∈ gw := gw_of (tb_0 _ (List.mem_of_getElem? (i := 21) rfl)) rfl
theorem wd_22 : (.selects "HouseHeirs$Text" ⟨"HouseHeirs$Text", "isWord", "(Ljava/lang/String;)Z"⟩ ⟨"HouseHeirs$Text", "isWord", "(Ljava/lang/String;)Z"⟩ : Cond) ∈ gw := gw_of (tb_0 _ (List.mem_of_getElem? (i := 22) rfl)) rfl
theorem wd_23 : (.selects "HouseHeirs$Text" ⟨"HouseHeirs$Text", "tokenNumber", "()I"⟩ ⟨"HouseHeirs$Text", "tokenNumber", "()I"⟩ : Cond) ∈ gw := gw_of (tb_0 _ (List.mem_of_getElem? (i := 23) rfl)) rfl
theorem wd_24 : (.selects "HouseHeirs$Text" ⟨"HouseHeirs$Text", "tellTo", "(LHouseHeirs$Street;)I"⟩ ⟨"HouseHeirs$Text", "tellTo", "(LHouseHeirs$Street;)I"⟩ : Cond) ∈ gw := gw_of (tb_0 _ (List.mem_of_getElem? (i := 24) rfl)) rfl
theorem wd_25 : (.selects "HouseHeirs$Street" ⟨"HouseHeirs$Street", "takeFrom", "(LHouseHeirs$Street;)V"⟩ ⟨"HouseHeirs$Street", "takeFrom", "(LHouseHeirs$Street;)V"⟩ : Cond) ∈ gw := gw_of (tb_0 _ (List.mem_of_getElem? (i := 25) rfl)) rfl
theorem wd_26 : (.selects "HouseHeirs$Past" ⟨"HouseHeirs$Past", "keep", "(LHouseHeirs$Street;)V"⟩ ⟨"HouseHeirs$Past", "keep", "(LHouseHeirs$Street;)V"⟩ : Cond) ∈ gw := gw_of (tb_0 _ (List.mem_of_getElem? (i := 26) rfl)) rfl
theorem wd_27 : (.selects "HouseHeirs$Street" ⟨"HouseHeirs$Street", "letFall", "(I)I"⟩ ⟨"HouseHeirs$Street", "letFall", "(I)I"⟩ : Cond) ∈ gw := gw_of (tb_0 _ (List.mem_of_getElem? (i := 27) rfl)) rfl
theorem wd_28 : (.selects "HouseHeirs$Street" ⟨"HouseHeirs$Street", "heirBy", "(III)I"⟩ ⟨"HouseHeirs$Street", "heirBy", "(III)I"⟩ : Cond) ∈ gw := gw_of (tb_0 _ (List.mem_of_getElem? (i := 28) rfl)) rfl
theorem wd_29 : (.selects "HouseHeirs$Street" ⟨"HouseHeirs$Street", "measureSteps", "(I)V"⟩ ⟨"HouseHeirs$Street", "measureSteps", "(I)V"⟩ : Cond) ∈ gw := gw_of (tb_0 _ (List.mem_of_getElem? (i := 29) rfl)) rfl
theorem wd_30 : (.selects "HouseHeirs$Street" ⟨"HouseHeirs$Street", "kinBits", "(I)I"⟩ ⟨"HouseHeirs$Street", "kinBits", "(I)I"⟩ : Cond) ∈ gw := gw_of (tb_0 _ (List.mem_of_getElem? (i := 30) rfl)) rfl
theorem wd_31 : (.selects "HouseHeirs$Street" ⟨"HouseHeirs$Street", "measureDwellers", "()V"⟩ ⟨"HouseHeirs$Street", "measureDwellers", "()V"⟩ : Cond) ∈ gw := gw_of (tb_0 _ (List.mem_of_getElem? (i := 31) rfl)) rfl
theorem wd_32 : (.selects "HouseHeirs$Street" ⟨"HouseHeirs$Street", "measuredRank", "(III)I"⟩ ⟨"HouseHeirs$Street", "measuredRank", "(III)I"⟩ : Cond) ∈ gw := gw_of (tb_0 _ (List.mem_of_getElem? (i := 32) rfl)) rfl
theorem wd_33 : (.selects "HouseHeirs$Street" ⟨"HouseHeirs$Street", "isQuiet", "(II)Z"⟩ ⟨"HouseHeirs$Street", "isQuiet", "(II)Z"⟩ : Cond) ∈ gw := gw_of (tb_0 _ (List.mem_of_getElem? (i := 33) rfl)) rfl
theorem wd_34 : (.selects "HouseHeirs$Street" ⟨"HouseHeirs$Street", "passYear", "()V"⟩ ⟨"HouseHeirs$Street", "passYear", "()V"⟩ : Cond) ∈ gw := gw_of (tb_0 _ (List.mem_of_getElem? (i := 34) rfl)) rfl
theorem wd_35 : (.selects "HouseHeirs$Street" ⟨"HouseHeirs$Street", "isOverfull", "(I)Z"⟩ ⟨"HouseHeirs$Street", "isOverfull", "(I)Z"⟩ : Cond) ∈ gw := gw_of (tb_0 _ (List.mem_of_getElem? (i := 35) rfl)) rfl
theorem wd_36 : (.selects "HouseHeirs$Street" ⟨"HouseHeirs$Street", "dwellers", "(I)I"⟩ ⟨"HouseHeirs$Street", "dwellers", "(I)I"⟩ : Cond) ∈ gw := gw_of (tb_0 _ (List.mem_of_getElem? (i := 36) rfl)) rfl
theorem wd_37 : (.selects "HouseHeirs$Street" ⟨"HouseHeirs$Street", "hasOne", "(I)Z"⟩ ⟨"HouseHeirs$Street", "hasOne", "(I)Z"⟩ : Cond) ∈ gw := gw_of (tb_0 _ (List.mem_of_getElem? (i := 37) rfl)) rfl
theorem wd_38 : (.selects "HouseHeirs$Past" ⟨"HouseHeirs$Past", "bringBack", "(LHouseHeirs$Street;)V"⟩ ⟨"HouseHeirs$Past", "bringBack", "(LHouseHeirs$Street;)V"⟩ : Cond) ∈ gw := gw_of (tb_0 _ (List.mem_of_getElem? (i := 38) rfl)) rfl
theorem wd_39 : (.selects "HouseHeirs$Street" ⟨"HouseHeirs$Street", "dwellerBits", "(I)I"⟩ ⟨"HouseHeirs$Street", "dwellerBits", "(I)I"⟩ : Cond) ∈ gw := gw_of (tb_0 _ (List.mem_of_getElem? (i := 39) rfl)) rfl
theorem wd_40 : (.selects "HouseHeirs$Street" ⟨"HouseHeirs$Street", "degreeOf", "(II)I"⟩ ⟨"HouseHeirs$Street", "degreeOf", "(II)I"⟩ : Cond) ∈ gw := gw_of (tb_0 _ (List.mem_of_getElem? (i := 40) rfl)) rfl
theorem wd_41 : (.selects "HouseHeirs$Street" ⟨"HouseHeirs$Street", "rankOf", "(II)I"⟩ ⟨"HouseHeirs$Street", "rankOf", "(II)I"⟩ : Cond) ∈ gw := gw_of (tb_0 _ (List.mem_of_getElem? (i := 41) rfl)) rfl
theorem wd_42 : (.selects "HouseHeirs$Street" ⟨"HouseHeirs$Street", "heirOf", "(I)I"⟩ ⟨"HouseHeirs$Street", "heirOf", "(I)I"⟩ : Cond) ∈ gw := gw_of (tb_0 _ (List.mem_of_getElem? (i := 42) rfl)) rfl
theorem wd_43 : (.selects "HouseHeirs$Street" ⟨"HouseHeirs$Street", "mayWall", "(II)Z"⟩ ⟨"HouseHeirs$Street", "mayWall", "(II)Z"⟩ : Cond) ∈ gw := gw_of (tb_0 _ (List.mem_of_getElem? (i := 43) rfl)) rfl
theorem wd_44 : (.selects "HouseHeirs" ⟨"HouseHeirs", "heirByWall", "(III)I"⟩ ⟨"HouseHeirs", "heirByWall", "(III)I"⟩ : Cond) ∈ gw := gw_of (tb_0 _ (List.mem_of_getElem? (i := 44) rfl)) rfl
theorem wd_45 : (.selects "HouseHeirs" ⟨"HouseHeirs", "lookAhead", "(I)V"⟩ ⟨"HouseHeirs", "lookAhead", "(I)V"⟩ : Cond) ∈ gw := gw_of (tb_0 _ (List.mem_of_getElem? (i := 45) rfl)) rfl
theorem wd_46 : (.selects "HouseHeirs$Street" ⟨"HouseHeirs$Street", "firstOverfull", "()I"⟩ ⟨"HouseHeirs$Street", "firstOverfull", "()I"⟩ : Cond) ∈ gw := gw_of (tb_0 _ (List.mem_of_getElem? (i := 46) rfl)) rfl
theorem wd_47 : (.selects "HouseHeirs$Orders" ⟨"HouseHeirs$Orders", "seek", "(LHouseHeirs$Street;III)V"⟩ ⟨"HouseHeirs$Orders", "seek", "(LHouseHeirs$Street;III)V"⟩ : Cond) ∈ gw := gw_of (tb_0 _ (List.mem_of_getElem? (i := 47) rfl)) rfl
theorem wd_48 : (.selects "HouseHeirs$Orders" ⟨"HouseHeirs$Orders", "atLast", "(II)V"⟩ ⟨"HouseHeirs$Orders", "atLast", "(II)V"⟩ : Cond) ∈ gw := gw_of (tb_0 _ (List.mem_of_getElem? (i := 48) rfl)) rfl
theorem wd_49 : (.selects "HouseHeirs$Orders" ⟨"HouseHeirs$Orders", "keep", "(I)V"⟩ ⟨"HouseHeirs$Orders", "keep", "(I)V"⟩ : Cond) ∈ gw := gw_of (tb_0 _ (List.mem_of_getElem? (i := 49) rfl)) rfl
theorem wd_50 : (.selects "HouseHeirs$Orders" ⟨"HouseHeirs$Orders", "bringBack", "(I)V"⟩ ⟨"HouseHeirs$Orders", "bringBack", "(I)V"⟩ : Cond) ∈ gw := gw_of (tb_0 _ (List.mem_of_getElem? (i := 50) rfl)) rfl
theorem wd_51 : (.selects "HouseHeirs$Orders" ⟨"HouseHeirs$Orders", "isSafe", "(LHouseHeirs$Street;II)Z"⟩ ⟨"HouseHeirs$Orders", "isSafe", "(LHouseHeirs$Street;II)Z"⟩ : Cond) ∈ gw := gw_of (tb_0 _ (List.mem_of_getElem? (i := 51) rfl)) rfl
theorem wd_52 : (.selects "HouseHeirs$Lodgings" ⟨"HouseHeirs$Lodgings", "seek", "(LHouseHeirs$Street;)I"⟩ ⟨"HouseHeirs$Lodgings", "seek", "(LHouseHeirs$Street;)I"⟩ : Cond) ∈ gw := gw_of (tb_0 _ (List.mem_of_getElem? (i := 52) rfl)) rfl
theorem wd_53 : (.selects "HouseHeirs$Lodgings" ⟨"HouseHeirs$Lodgings", "mayLive", "(LHouseHeirs$Street;II)Z"⟩ ⟨"HouseHeirs$Lodgings", "mayLive", "(LHouseHeirs$Street;II)Z"⟩ : Cond) ∈ gw := gw_of (tb_0 _ (List.mem_of_getElem? (i := 53) rfl)) rfl
theorem wd_54 : (.selects "HouseHeirs$Street" ⟨"HouseHeirs$Street", "nearestKin", "(I)I"⟩ ⟨"HouseHeirs$Street", "nearestKin", "(I)I"⟩ : Cond) ∈ gw := gw_of (tb_0 _ (List.mem_of_getElem? (i := 54) rfl)) rfl
theorem wd_55 : (.selects "HouseHeirs" ⟨"HouseHeirs", "lowerFraction", "()V"⟩ ⟨"HouseHeirs", "lowerFraction", "()V"⟩ : Cond) ∈ gw := gw_of (tb_0 _ (List.mem_of_getElem? (i := 55) rfl)) rfl
theorem wd_56 : (.selects "HouseHeirs$Street" ⟨"HouseHeirs$Street", "begetters", "(II)I"⟩ ⟨"HouseHeirs$Street", "begetters", "(II)I"⟩ : Cond) ∈ gw := gw_of (tb_0 _ (List.mem_of_getElem? (i := 56) rfl)) rfl
theorem wd_57 : (.selects "HouseHeirs" ⟨"HouseHeirs", "rests", "(IIIII)Z"⟩ ⟨"HouseHeirs", "rests", "(IIIII)Z"⟩ : Cond) ∈ gw := gw_of (tb_0 _ (List.mem_of_getElem? (i := 57) rfl)) rfl
theorem wd_58 : (.selects "HouseHeirs" ⟨"HouseHeirs", "gain", "(III)I"⟩ ⟨"HouseHeirs", "gain", "(III)I"⟩ : Cond) ∈ gw := gw_of (tb_0 _ (List.mem_of_getElem? (i := 58) rfl)) rfl
theorem wd_59 : (.selects "HouseHeirs$Street" ⟨"HouseHeirs$Street", "nthStanding", "(I)I"⟩ ⟨"HouseHeirs$Street", "nthStanding", "(I)I"⟩ : Cond) ∈ gw := gw_of (tb_0 _ (List.mem_of_getElem? (i := 59) rfl)) rfl
theorem wd_60 : (.selects "HouseHeirs" ⟨"HouseHeirs", "imageAt", "(I)LHouseHeirs$Image;"⟩ ⟨"HouseHeirs", "imageAt", "(I)LHouseHeirs$Image;"⟩ : Cond) ∈ gw := gw_of (tb_0 _ (List.mem_of_getElem? (i := 60) rfl)) rfl
theorem wd_61 : (.selects "HouseHeirs$Image" ⟨"HouseHeirs$Image", "keep", "(LHouseHeirs$Street;LHouseHeirs$Past;)V"⟩ ⟨"HouseHeirs$Image", "keep", "(LHouseHeirs$Street;LHouseHeirs$Past;)V"⟩ : Cond) ∈ gw := gw_of (tb_0 _ (List.mem_of_getElem? (i := 61) rfl)) rfl
theorem wd_62 : (.selects "HouseHeirs$Past" ⟨"HouseHeirs$Past", "takeFrom", "(LHouseHeirs$Past;)V"⟩ ⟨"HouseHeirs$Past", "takeFrom", "(LHouseHeirs$Past;)V"⟩ : Cond) ∈ gw := gw_of (tb_0 _ (List.mem_of_getElem? (i := 62) rfl)) rfl
theorem wd_63 : (.selects "HouseHeirs$Image" ⟨"HouseHeirs$Image", "giveBack", "(LHouseHeirs$Street;LHouseHeirs$Past;)V"⟩ ⟨"HouseHeirs$Image", "giveBack", "(LHouseHeirs$Street;LHouseHeirs$Past;)V"⟩ : Cond) ∈ gw := gw_of (tb_0 _ (List.mem_of_getElem? (i := 63) rfl)) rfl
theorem wd_64 : (.selects "HouseHeirs" ⟨"HouseHeirs", "amount", "(I)I"⟩ ⟨"HouseHeirs", "amount", "(I)I"⟩ : Cond) ∈ gw := gw_of (tb_0 _ (List.mem_of_getElem? (i := 64) rfl)) rfl
theorem wd_65 : (.selects "HouseHeirs$Street" ⟨"HouseHeirs$Street", "wallsInAll", "()I"⟩ ⟨"HouseHeirs$Street", "wallsInAll", "()I"⟩ : Cond) ∈ gw := gw_of (tb_0 _ (List.mem_of_getElem? (i := 65) rfl)) rfl
theorem wd_66 : (.selects "HouseHeirs$Street" ⟨"HouseHeirs$Street", "feudsInAll", "()I"⟩ ⟨"HouseHeirs$Street", "feudsInAll", "()I"⟩ : Cond) ∈ gw := gw_of (tb_0 _ (List.mem_of_getElem? (i := 66) rfl)) rfl
theorem wd_67 : (.selects "HouseHeirs$Street" ⟨"HouseHeirs$Street", "addTo", "(J)J"⟩ ⟨"HouseHeirs$Street", "addTo", "(J)J"⟩ : Cond) ∈ gw := gw_of (tb_0 _ (List.mem_of_getElem? (i := 67) rfl)) rfl
theorem wd_68 : (.selects "HouseHeirsModel" ⟨"HouseHeirsModel", "clean", "()V"⟩ ⟨"HouseHeirsModel", "clean", "()V"⟩ : Cond) ∈ gw := gw_of (tb_0 _ (List.mem_of_getElem? (i := 68) rfl)) rfl
theorem wd_69 : (.selects "HouseHeirsModel" ⟨"HouseHeirsModel", "doHouse", "(III)I"⟩ ⟨"HouseHeirsModel", "doHouse", "(III)I"⟩ : Cond) ∈ gw := gw_of (tb_0 _ (List.mem_of_getElem? (i := 69) rfl)) rfl
theorem wd_70 : (.selects "HouseHeirsModel" ⟨"HouseHeirsModel", "tell", "(I)I"⟩ ⟨"HouseHeirsModel", "tell", "(I)I"⟩ : Cond) ∈ gw := gw_of (tb_0 _ (List.mem_of_getElem? (i := 70) rfl)) rfl
theorem wd_71 : (.selects "HouseHeirsModel" ⟨"HouseHeirsModel", "doFrom", "(II)I"⟩ ⟨"HouseHeirsModel", "doFrom", "(II)I"⟩ : Cond) ∈ gw := gw_of (tb_0 _ (List.mem_of_getElem? (i := 71) rfl)) rfl
theorem wd_72 : (.selects "HouseHeirsModel" ⟨"HouseHeirsModel", "isHouse", "(I)Z"⟩ ⟨"HouseHeirsModel", "isHouse", "(I)Z"⟩ : Cond) ∈ gw := gw_of (tb_0 _ (List.mem_of_getElem? (i := 72) rfl)) rfl
theorem wd_73 : (.selects "HouseHeirsModel" ⟨"HouseHeirsModel", "doWill", "(II)I"⟩ ⟨"HouseHeirsModel", "doWill", "(II)I"⟩ : Cond) ∈ gw := gw_of (tb_0 _ (List.mem_of_getElem? (i := 73) rfl)) rfl
theorem wd_74 : (.selects "HouseHeirsModel" ⟨"HouseHeirsModel", "doWall", "(IIZ)I"⟩ ⟨"HouseHeirsModel", "doWall", "(IIZ)I"⟩ : Cond) ∈ gw := gw_of (tb_0 _ (List.mem_of_getElem? (i := 74) rfl)) rfl
theorem wd_75 : (.selects "HouseHeirsModel" ⟨"HouseHeirsModel", "doOne", "(II)I"⟩ ⟨"HouseHeirsModel", "doOne", "(II)I"⟩ : Cond) ∈ gw := gw_of (tb_0 _ (List.mem_of_getElem? (i := 75) rfl)) rfl
theorem wd_76 : (.selects "HouseHeirsModel" ⟨"HouseHeirsModel", "doFeud", "(IIZ)I"⟩ ⟨"HouseHeirsModel", "doFeud", "(IIZ)I"⟩ : Cond) ∈ gw := gw_of (tb_0 _ (List.mem_of_getElem? (i := 76) rfl)) rfl
theorem wd_77 : (.selects "HouseHeirsModel" ⟨"HouseHeirsModel", "bad", "(I)I"⟩ ⟨"HouseHeirsModel", "bad", "(I)I"⟩ : Cond) ∈ gw := gw_of (tb_0 _ (List.mem_of_getElem? (i := 77) rfl)) rfl
theorem wd_78 : (.selects "HouseHeirsModel" ⟨"HouseHeirsModel", "reads", "()I"⟩ ⟨"HouseHeirsModel", "reads", "()I"⟩ : Cond) ∈ gw := gw_of (tb_0 _ (List.mem_of_getElem? (i := 78) rfl)) rfl
theorem wd_79 : (.selects "HouseHeirsModel" ⟨"HouseHeirsModel", "next", "()V"⟩ ⟨"HouseHeirsModel", "next", "()V"⟩ : Cond) ∈ gw := gw_of (tb_0 _ (List.mem_of_getElem? (i := 79) rfl)) rfl
theorem wd_80 : (.selects "HouseHeirsModel" ⟨"HouseHeirsModel", "doItem", "(I)I"⟩ ⟨"HouseHeirsModel", "doItem", "(I)I"⟩ : Cond) ∈ gw := gw_of (tb_0 _ (List.mem_of_getElem? (i := 80) rfl)) rfl
theorem wd_81 : (.selects "HouseHeirsModel" ⟨"HouseHeirsModel", "no", "(I)I"⟩ ⟨"HouseHeirsModel", "no", "(I)I"⟩ : Cond) ∈ gw := gw_of (tb_0 _ (List.mem_of_getElem? (i := 81) rfl)) rfl
theorem wd_82 : (.selects "HouseHeirsModel" ⟨"HouseHeirsModel", "remember", "()V"⟩ ⟨"HouseHeirsModel", "remember", "()V"⟩ : Cond) ∈ gw := gw_of (tb_0 _ (List.mem_of_getElem? (i := 82) rfl)) rfl
theorem wd_83 : (.selects "HouseHeirsModel" ⟨"HouseHeirsModel", "falls", "([II)I"⟩ ⟨"HouseHeirsModel", "falls", "([II)I"⟩ : Cond) ∈ gw := gw_of (tb_0 _ (List.mem_of_getElem? (i := 83) rfl)) rfl
theorem wd_84 : (.selects "HouseHeirsModel" ⟨"HouseHeirsModel", "heirOn", "([III)I"⟩ ⟨"HouseHeirsModel", "heirOn", "([III)I"⟩ : Cond) ∈ gw := gw_of (tb_0 _ (List.mem_of_getElem? (i := 84) rfl)) rfl
theorem wd_85 : (.selects "HouseHeirsModel" ⟨"HouseHeirsModel", "rankOn", "([IIII)I"⟩ ⟨"HouseHeirsModel", "rankOn", "([IIII)I"⟩ : Cond) ∈ gw := gw_of (tb_0 _ (List.mem_of_getElem? (i := 85) rfl)) rfl
theorem wd_86 : (.selects "HouseHeirsModel" ⟨"HouseHeirsModel", "degreeOn", "([III)I"⟩ ⟨"HouseHeirsModel", "degreeOn", "([III)I"⟩ : Cond) ∈ gw := gw_of (tb_0 _ (List.mem_of_getElem? (i := 86) rfl)) rfl
theorem wd_87 : (.selects "HouseHeirsModel" ⟨"HouseHeirsModel", "yearGoes", "([I)V"⟩ ⟨"HouseHeirsModel", "yearGoes", "([I)V"⟩ : Cond) ∈ gw := gw_of (tb_0 _ (List.mem_of_getElem? (i := 87) rfl)) rfl
theorem wd_88 : (.selects "HouseHeirsModel" ⟨"HouseHeirsModel", "isOne", "(I)Z"⟩ ⟨"HouseHeirsModel", "isOne", "(I)Z"⟩ : Cond) ∈ gw := gw_of (tb_0 _ (List.mem_of_getElem? (i := 88) rfl)) rfl
theorem wd_89 : (.selects "HouseHeirsModel" ⟨"HouseHeirsModel", "mayHaveWall", "(II)Z"⟩ ⟨"HouseHeirsModel", "mayHaveWall", "(II)Z"⟩ : Cond) ∈ gw := gw_of (tb_0 _ (List.mem_of_getElem? (i := 89) rfl)) rfl
theorem wd_90 : (.selects "HouseHeirsModel" ⟨"HouseHeirsModel", "layWall", "(II)V"⟩ ⟨"HouseHeirsModel", "layWall", "(II)V"⟩ : Cond) ∈ gw := gw_of (tb_0 _ (List.mem_of_getElem? (i := 90) rfl)) rfl
theorem wd_91 : (.selects "HouseHeirsModel" ⟨"HouseHeirsModel", "layDay", "()V"⟩ ⟨"HouseHeirsModel", "layDay", "()V"⟩ : Cond) ∈ gw := gw_of (tb_0 _ (List.mem_of_getElem? (i := 91) rfl)) rfl
theorem wd_92 : (.selects "HouseHeirsModel" ⟨"HouseHeirsModel", "goYears", "(I)V"⟩ ⟨"HouseHeirsModel", "goYears", "(I)V"⟩ : Cond) ∈ gw := gw_of (tb_0 _ (List.mem_of_getElem? (i := 92) rfl)) rfl
theorem wd_93 : (.selects "HouseHeirsModel" ⟨"HouseHeirsModel", "layOrder", "(III)Z"⟩ ⟨"HouseHeirsModel", "layOrder", "(III)Z"⟩ : Cond) ∈ gw := gw_of (tb_0 _ (List.mem_of_getElem? (i := 93) rfl)) rfl
theorem wd_94 : (.selects "HouseHeirsModel" ⟨"HouseHeirsModel", "layFalls", "(II)V"⟩ ⟨"HouseHeirsModel", "layFalls", "(II)V"⟩ : Cond) ∈ gw := gw_of (tb_0 _ (List.mem_of_getElem? (i := 94) rfl)) rfl
theorem wd_95 : (.selects "HouseHeirsModel" ⟨"HouseHeirsModel", "isSafe", "(II)Z"⟩ ⟨"HouseHeirsModel", "isSafe", "(II)Z"⟩ : Cond) ∈ gw := gw_of (tb_0 _ (List.mem_of_getElem? (i := 95) rfl)) rfl
theorem wd_96 : (.selects "HouseHeirsModel" ⟨"HouseHeirsModel", "layHomes", "(I)V"⟩ ⟨"HouseHeirsModel", "layHomes", "(I)V"⟩ : Cond) ∈ gw := gw_of (tb_0 _ (List.mem_of_getElem? (i := 96) rfl)) rfl
theorem wd_97 : (.selects "HouseHeirsModel" ⟨"HouseHeirsModel", "moving", "()I"⟩ ⟨"HouseHeirsModel", "moving", "()I"⟩ : Cond) ∈ gw := gw_of (tb_0 _ (List.mem_of_getElem? (i := 97) rfl)) rfl
theorem wd_98 : (.selects "HouseHeirsModel" ⟨"HouseHeirsModel", "fraction", "(JJ)V"⟩ ⟨"HouseHeirsModel", "fraction", "(JJ)V"⟩ : Cond) ∈ gw := gw_of (tb_0 _ (List.mem_of_getElem? (i := 98) rfl)) rfl
theorem wd_99 : (.selects "HouseHeirsModel" ⟨"HouseHeirsModel", "parents", "(II)I"⟩ ⟨"HouseHeirsModel", "parents", "(II)I"⟩ : Cond) ∈ gw := gw_of (tb_0 _ (List.mem_of_getElem? (i := 99) rfl)) rfl
theorem wd_100 : (.selects "HouseHeirsModel" ⟨"HouseHeirsModel", "getsBy", "(IIIII)I"⟩ ⟨"HouseHeirsModel", "getsBy", "(IIIII)I"⟩ : Cond) ∈ gw := gw_of (tb_0 _ (List.mem_of_getElem? (i := 100) rfl)) rfl
theorem wd_101 : (.selects "HouseHeirsModel" ⟨"HouseHeirsModel", "counted", "(I)I"⟩ ⟨"HouseHeirsModel", "counted", "(I)I"⟩ : Cond) ∈ gw := gw_of (tb_0 _ (List.mem_of_getElem? (i := 101) rfl)) rfl
theorem wd_102 : (.selects "HouseHeirsModel" ⟨"HouseHeirsModel", "sumOf", "(II)I"⟩ ⟨"HouseHeirsModel", "sumOf", "(II)I"⟩ : Cond) ∈ gw := gw_of (tb_0 _ (List.mem_of_getElem? (i := 102) rfl)) rfl
theorem wd_103 : (.initialized "HouseHeirsLaw" : Cond) ∈ gw := gw_of (tb_1 _ (List.mem_of_getElem? (i := 0) rfl)) rfl
theorem wd_104 : (.initialized "HouseHeirs" : Cond) ∈ gw := gw_of (tb_1 _ (List.mem_of_getElem? (i := 1) rfl)) rfl
theorem wd_105 : (.initialized "HouseHeirs$Street" : Cond) ∈ gw := gw_of (tb_1 _ (List.mem_of_getElem? (i := 2) rfl)) rfl
theorem wd_106 : (.initialized "HouseHeirs$Past" : Cond) ∈ gw := gw_of (tb_1 _ (List.mem_of_getElem? (i := 3) rfl)) rfl
theorem wd_107 : (.initialized "HouseHeirs$Image" : Cond) ∈ gw := gw_of (tb_1 _ (List.mem_of_getElem? (i := 4) rfl)) rfl
theorem wd_108 : (.initialized "HouseHeirs$Text" : Cond) ∈ gw := gw_of (tb_1 _ (List.mem_of_getElem? (i := 5) rfl)) rfl
theorem wd_109 : (.initialized "HouseHeirs$Orders" : Cond) ∈ gw := gw_of (tb_1 _ (List.mem_of_getElem? (i := 6) rfl)) rfl
theorem wd_110 : (.initialized "HouseHeirs$Lodgings" : Cond) ∈ gw := gw_of (tb_1 _ (List.mem_of_getElem? (i := 7) rfl)) rfl
theorem wd_111 : (.initialized "HouseHeirsModel" : Cond) ∈ gw := gw_of (tb_1 _ (List.mem_of_getElem? (i := 8) rfl)) rfl
theorem wd_112 : (.initialized "java/lang/String" : Cond) ∈ gw := gw_of (tb_1 _ (List.mem_of_getElem? (i := 9) rfl)) rfl
theorem wd_113 : (.initialized "java/lang/StringLatin1" : Cond) ∈ gw := gw_of (tb_1 _ (List.mem_of_getElem? (i := 10) rfl)) rfl
theorem wd_114 : (.initialized "jdk/internal/util/Preconditions" : Cond) ∈ gw := gw_of (tb_1 _ (List.mem_of_getElem? (i := 11) rfl)) rfl
theorem wd_115 : (.initialized "java/lang/StringUTF16" : Cond) ∈ gw := gw_of (tb_1 _ (List.mem_of_getElem? (i := 12) rfl)) rfl
theorem wd_116 : (.initialized "java/lang/Math" : Cond) ∈ gw := gw_of (tb_1 _ (List.mem_of_getElem? (i := 13) rfl)) rfl
theorem wd_117 : (.initialized "java/lang/System" : Cond) ∈ gw := gw_of (tb_1 _ (List.mem_of_getElem? (i := 14) rfl)) rfl
theorem wd_118 : (.initialized "java/lang/Integer" : Cond) ∈ gw := gw_of (tb_1 _ (List.mem_of_getElem? (i := 15) rfl)) rfl
theorem wd_119 : (.classLink "HouseHeirsLaw" 7 "HouseHeirs" : Cond) ∈ gw := gw_of (tb_1 _ (List.mem_of_getElem? (i := 16) rfl)) rfl
theorem wd_120 : (.instantiable "HouseHeirs" 13 : Cond) ∈ gw := gw_of (tb_1 _ (List.mem_of_getElem? (i := 17) rfl)) rfl
theorem wd_121 : (.methodLink "HouseHeirsLaw" 9 ⟨"HouseHeirs", "<init>", "()V"⟩ : Cond) ∈ gw := gw_of (tb_1 _ (List.mem_of_getElem? (i := 18) rfl)) rfl
theorem wd_122 : (.instanceMethod ⟨"HouseHeirs", "<init>", "()V"⟩ : Cond) ∈ gw := gw_of (tb_1 _ (List.mem_of_getElem? (i := 19) rfl)) rfl
theorem wd_123 : (.code ⟨"HouseHeirs", "<init>", "()V"⟩ prog_1_method_1_code 1 (Option.none : Option Jvm.ClassFile.FieldType) : Cond) ∈ gw := gw_of (tb_1 _ (List.mem_of_getElem? (i := 20) rfl)) rfl
theorem wd_124 : (.methodLink "HouseHeirs" 1 ⟨"java/lang/Object", "<init>", "()V"⟩ : Cond) ∈ gw := gw_of (tb_1 _ (List.mem_of_getElem? (i := 21) rfl)) rfl
theorem wd_125 : (.instanceMethod ⟨"java/lang/Object", "<init>", "()V"⟩ : Cond) ∈ gw := gw_of (tb_1 _ (List.mem_of_getElem? (i := 22) rfl)) rfl
theorem wd_126 : (.code ⟨"java/lang/Object", "<init>", "()V"⟩ object_method_1_code 1 (Option.none : Option Jvm.ClassFile.FieldType) : Cond) ∈ gw := gw_of (tb_1 _ (List.mem_of_getElem? (i := 23) rfl)) rfl
theorem wd_127 : (.classLink "HouseHeirs" 7 "HouseHeirs$Street" : Cond) ∈ gw := gw_of (tb_1 _ (List.mem_of_getElem? (i := 24) rfl)) rfl
theorem wd_128 : (.instantiable "HouseHeirs$Street" 17 : Cond) ∈ gw := gw_of (tb_1 _ (List.mem_of_getElem? (i := 25) rfl)) rfl
theorem nw_129 : (.methodLinkNest "HouseHeirs" 9 ⟨"HouseHeirs$Street", "<init>", "()V"⟩ "HouseHeirs" : Cond) ∈ nestW := nest_of (tb_1 _ (List.mem_of_getElem? (i := 26) rfl)) rfl
theorem wd_130 : (.instanceMethod ⟨"HouseHeirs$Street", "<init>", "()V"⟩ : Cond) ∈ gw := gw_of (tb_1 _ (List.mem_of_getElem? (i := 27) rfl)) rfl
theorem wd_131 : (.code ⟨"HouseHeirs$Street", "<init>", "()V"⟩ prog_6_method_1_code 1 (Option.none : Option Jvm.ClassFile.FieldType) : Cond) ∈ gw := gw_of (tb_1 _ (List.mem_of_getElem? (i := 28) rfl)) rfl
theorem wd_132 : (.methodLink "HouseHeirs$Street" 3 ⟨"java/lang/Object", "<init>", "()V"⟩ : Cond) ∈ gw := gw_of (tb_1 _ (List.mem_of_getElem? (i := 29) rfl)) rfl
theorem wd_133 : (.fieldLink "HouseHeirs$Street" 9 "HouseHeirs$Street" "houses" "I" : Cond) ∈ gw := gw_of (tb_1 _ (List.mem_of_getElem? (i := 30) rfl)) rfl
theorem nw_134 : (.fieldLinkNest "HouseHeirs" 74 "HouseHeirs$Street" "houses" "I" "HouseHeirs" : Cond) ∈ nestW := nest_of (tb_1 _ (List.mem_of_getElem? (i := 31) rfl)) rfl
theorem nw_135 : (.fieldLinkNest "HouseHeirs$Lodgings" 31 "HouseHeirs$Street" "houses" "I" "HouseHeirs" : Cond) ∈ nestW := nest_of (tb_1 _ (List.mem_of_getElem? (i := 32) rfl)) rfl
theorem wd_136 : (.fieldLink "HouseHeirs$Street" 15 "HouseHeirs$Street" "standing" "I" : Cond) ∈ gw := gw_of (tb_1 _ (List.mem_of_getElem? (i := 33) rfl)) rfl
theorem nw_137 : (.fieldLinkNest "HouseHeirs$Past" 39 "HouseHeirs$Street" "standing" "I" "HouseHeirs" : Cond) ∈ nestW := nest_of (tb_1 _ (List.mem_of_getElem? (i := 34) rfl)) rfl
theorem nw_138 : (.fieldLinkNest "HouseHeirs$Orders" 74 "HouseHeirs$Street" "standing" "I" "HouseHeirs" : Cond) ∈ nestW := nest_of (tb_1 _ (List.mem_of_getElem? (i := 35) rfl)) rfl
theorem nw_139 : (.fieldLinkNest "HouseHeirs" 151 "HouseHeirs$Street" "standing" "I" "HouseHeirs" : Cond) ∈ nestW := nest_of (tb_1 _ (List.mem_of_getElem? (i := 36) rfl)) rfl
theorem wd_140 : (.fieldLink "HouseHeirs$Street" 18 "HouseHeirs$Street" "people" "I" : Cond) ∈ gw := gw_of (tb_1 _ (List.mem_of_getElem? (i := 37) rfl)) rfl
theorem nw_141 : (.fieldLinkNest "HouseHeirs$Lodgings" 21 "HouseHeirs$Street" "people" "I" "HouseHeirs" : Cond) ∈ nestW := nest_of (tb_1 _ (List.mem_of_getElem? (i := 38) rfl)) rfl
theorem nw_142 : (.fieldLinkNest "HouseHeirs" 241 "HouseHeirs$Street" "people" "I" "HouseHeirs" : Cond) ∈ nestW := nest_of (tb_1 _ (List.mem_of_getElem? (i := 39) rfl)) rfl
theorem wd_143 : (.fieldLink "HouseHeirs$Street" 21 "HouseHeirs$Street" "year" "I" : Cond) ∈ gw := gw_of (tb_1 _ (List.mem_of_getElem? (i := 40) rfl)) rfl
theorem nw_144 : (.fieldLinkNest "HouseHeirs$Past" 43 "HouseHeirs$Street" "year" "I" "HouseHeirs" : Cond) ∈ nestW := nest_of (tb_1 _ (List.mem_of_getElem? (i := 41) rfl)) rfl
theorem nw_145 : (.fieldLinkNest "HouseHeirs" 309 "HouseHeirs$Street" "year" "I" "HouseHeirs" : Cond) ∈ nestW := nest_of (tb_1 _ (List.mem_of_getElem? (i := 42) rfl)) rfl
theorem wd_146 : (.fieldLink "HouseHeirs$Street" 24 "HouseHeirs$Street" "rooms" "[I" : Cond) ∈ gw := gw_of (tb_1 _ (List.mem_of_getElem? (i := 43) rfl)) rfl
theorem nw_147 : (.fieldLinkNest "HouseHeirs$Lodgings" 48 "HouseHeirs$Street" "rooms" "[I" "HouseHeirs" : Cond) ∈ nestW := nest_of (tb_1 _ (List.mem_of_getElem? (i := 44) rfl)) rfl
theorem nw_148 : (.fieldLinkNest "HouseHeirs" 172 "HouseHeirs$Street" "rooms" "[I" "HouseHeirs" : Cond) ∈ nestW := nest_of (tb_1 _ (List.mem_of_getElem? (i := 45) rfl)) rfl
theorem wd_149 : (.fieldLink "HouseHeirs$Street" 28 "HouseHeirs$Street" "worth" "[I" : Cond) ∈ gw := gw_of (tb_1 _ (List.mem_of_getElem? (i := 46) rfl)) rfl
theorem nw_150 : (.fieldLinkNest "HouseHeirs" 175 "HouseHeirs$Street" "worth" "[I" "HouseHeirs" : Cond) ∈ nestW := nest_of (tb_1 _ (List.mem_of_getElem? (i := 47) rfl)) rfl
theorem wd_151 : (.fieldLink "HouseHeirs$Street" 31 "HouseHeirs$Street" "beams" "[I" : Cond) ∈ gw := gw_of (tb_1 _ (List.mem_of_getElem? (i := 48) rfl)) rfl
theorem nw_152 : (.fieldLinkNest "HouseHeirs$Past" 45 "HouseHeirs$Street" "beams" "[I" "HouseHeirs" : Cond) ∈ nestW := nest_of (tb_1 _ (List.mem_of_getElem? (i := 49) rfl)) rfl
theorem nw_153 : (.fieldLinkNest "HouseHeirs" 178 "HouseHeirs$Street" "beams" "[I" "HouseHeirs" : Cond) ∈ nestW := nest_of (tb_1 _ (List.mem_of_getElem? (i := 50) rfl)) rfl
theorem wd_154 : (.fieldLink "HouseHeirs$Street" 34 "HouseHeirs$Street" "from" "[I" : Cond) ∈ gw := gw_of (tb_1 _ (List.mem_of_getElem? (i := 51) rfl)) rfl
theorem nw_155 : (.fieldLinkNest "HouseHeirs" 181 "HouseHeirs$Street" "from" "[I" "HouseHeirs" : Cond) ∈ nestW := nest_of (tb_1 _ (List.mem_of_getElem? (i := 52) rfl)) rfl
theorem wd_156 : (.fieldLink "HouseHeirs$Street" 37 "HouseHeirs$Street" "will" "[I" : Cond) ∈ gw := gw_of (tb_1 _ (List.mem_of_getElem? (i := 53) rfl)) rfl
theorem nw_157 : (.fieldLinkNest "HouseHeirs$Orders" 71 "HouseHeirs$Street" "will" "[I" "HouseHeirs" : Cond) ∈ nestW := nest_of (tb_1 _ (List.mem_of_getElem? (i := 54) rfl)) rfl
theorem nw_158 : (.fieldLinkNest "HouseHeirs" 184 "HouseHeirs$Street" "will" "[I" "HouseHeirs" : Cond) ∈ nestW := nest_of (tb_1 _ (List.mem_of_getElem? (i := 55) rfl)) rfl
theorem wd_159 : (.fieldLink "HouseHeirs$Street" 40 "HouseHeirs$Street" "marks" "[I" : Cond) ∈ gw := gw_of (tb_1 _ (List.mem_of_getElem? (i := 56) rfl)) rfl
theorem nw_160 : (.fieldLinkNest "HouseHeirs" 190 "HouseHeirs$Street" "marks" "[I" "HouseHeirs" : Cond) ∈ nestW := nest_of (tb_1 _ (List.mem_of_getElem? (i := 57) rfl)) rfl
theorem wd_161 : (.fieldLink "HouseHeirs$Street" 43 "HouseHeirs$Street" "walls" "[I" : Cond) ∈ gw := gw_of (tb_1 _ (List.mem_of_getElem? (i := 58) rfl)) rfl
theorem wd_162 : (.fieldLink "HouseHeirs$Street" 46 "HouseHeirs$Street" "family" "[I" : Cond) ∈ gw := gw_of (tb_1 _ (List.mem_of_getElem? (i := 59) rfl)) rfl
theorem nw_163 : (.fieldLinkNest "HouseHeirs$Lodgings" 38 "HouseHeirs$Street" "family" "[I" "HouseHeirs" : Cond) ∈ nestW := nest_of (tb_1 _ (List.mem_of_getElem? (i := 60) rfl)) rfl
theorem nw_164 : (.fieldLinkNest "HouseHeirs" 193 "HouseHeirs$Street" "family" "[I" "HouseHeirs" : Cond) ∈ nestW := nest_of (tb_1 _ (List.mem_of_getElem? (i := 61) rfl)) rfl
theorem wd_165 : (.fieldLink "HouseHeirs$Street" 49 "HouseHeirs$Street" "where" "[I" : Cond) ∈ gw := gw_of (tb_1 _ (List.mem_of_getElem? (i := 62) rfl)) rfl
theorem nw_166 : (.fieldLinkNest "HouseHeirs$Past" 51 "HouseHeirs$Street" "where" "[I" "HouseHeirs" : Cond) ∈ nestW := nest_of (tb_1 _ (List.mem_of_getElem? (i := 63) rfl)) rfl
theorem nw_167 : (.fieldLinkNest "HouseHeirs$Lodgings" 41 "HouseHeirs$Street" "where" "[I" "HouseHeirs" : Cond) ∈ nestW := nest_of (tb_1 _ (List.mem_of_getElem? (i := 64) rfl)) rfl
theorem nw_168 : (.fieldLinkNest "HouseHeirs$Orders" 64 "HouseHeirs$Street" "where" "[I" "HouseHeirs" : Cond) ∈ nestW := nest_of (tb_1 _ (List.mem_of_getElem? (i := 65) rfl)) rfl
theorem nw_169 : (.fieldLinkNest "HouseHeirs" 162 "HouseHeirs$Street" "where" "[I" "HouseHeirs" : Cond) ∈ nestW := nest_of (tb_1 _ (List.mem_of_getElem? (i := 66) rfl)) rfl
theorem wd_170 : (.fieldLink "HouseHeirs$Street" 52 "HouseHeirs$Street" "feuds" "[I" : Cond) ∈ gw := gw_of (tb_1 _ (List.mem_of_getElem? (i := 67) rfl)) rfl
theorem wd_171 : (.fieldLink "HouseHeirs$Street" 55 "HouseHeirs$Street" "steps" "[I" : Cond) ∈ gw := gw_of (tb_1 _ (List.mem_of_getElem? (i := 68) rfl)) rfl
theorem wd_172 : (.fieldLink "HouseHeirs$Street" 58 "HouseHeirs$Street" "living" "[I" : Cond) ∈ gw := gw_of (tb_1 _ (List.mem_of_getElem? (i := 69) rfl)) rfl
theorem wd_173 : (.fieldLink "HouseHeirs$Street" 61 "HouseHeirs$Street" "families" "[I" : Cond) ∈ gw := gw_of (tb_1 _ (List.mem_of_getElem? (i := 70) rfl)) rfl
theorem wd_209 : (.arrayClass .int : Cond) ∈ gw := gw_of (tb_1 _ (List.mem_of_getElem? (i := 106) rfl)) rfl
theorem wd_210 : (.classLink "HouseHeirs" 19 "HouseHeirs$Past" : Cond) ∈ gw := gw_of (tb_1 _ (List.mem_of_getElem? (i := 107) rfl)) rfl
theorem wd_211 : (.instantiable "HouseHeirs$Past" 6 : Cond) ∈ gw := gw_of (tb_1 _ (List.mem_of_getElem? (i := 108) rfl)) rfl
theorem nw_212 : (.methodLinkNest "HouseHeirs" 21 ⟨"HouseHeirs$Past", "<init>", "()V"⟩ "HouseHeirs" : Cond) ∈ nestW := nest_of (tb_1 _ (List.mem_of_getElem? (i := 109) rfl)) rfl
theorem wd_213 : (.instanceMethod ⟨"HouseHeirs$Past", "<init>", "()V"⟩ : Cond) ∈ gw := gw_of (tb_1 _ (List.mem_of_getElem? (i := 110) rfl)) rfl
theorem wd_214 : (.code ⟨"HouseHeirs$Past", "<init>", "()V"⟩ prog_5_method_1_code 1 (Option.none : Option Jvm.ClassFile.FieldType) : Cond) ∈ gw := gw_of (tb_1 _ (List.mem_of_getElem? (i := 111) rfl)) rfl
theorem wd_215 : (.methodLink "HouseHeirs$Past" 3 ⟨"java/lang/Object", "<init>", "()V"⟩ : Cond) ∈ gw := gw_of (tb_1 _ (List.mem_of_getElem? (i := 112) rfl)) rfl
theorem wd_216 : (.classLink "HouseHeirs$Past" 25 "[[I" : Cond) ∈ gw := gw_of (tb_1 _ (List.mem_of_getElem? (i := 113) rfl)) rfl
theorem wd_218 : (.fieldLink "HouseHeirs$Past" 9 "HouseHeirs$Past" "size" "I" : Cond) ∈ gw := gw_of (tb_1 _ (List.mem_of_getElem? (i := 115) rfl)) rfl
theorem nw_219 : (.fieldLinkNest "HouseHeirs" 166 "HouseHeirs$Past" "size" "I" "HouseHeirs" : Cond) ∈ nestW := nest_of (tb_1 _ (List.mem_of_getElem? (i := 116) rfl)) rfl
theorem wd_220 : (.fieldLink "HouseHeirs$Past" 15 "HouseHeirs$Past" "next" "I" : Cond) ∈ gw := gw_of (tb_1 _ (List.mem_of_getElem? (i := 117) rfl)) rfl
theorem wd_221 : (.fieldLink "HouseHeirs$Past" 18 "HouseHeirs$Past" "standing" "[I" : Cond) ∈ gw := gw_of (tb_1 _ (List.mem_of_getElem? (i := 118) rfl)) rfl
theorem wd_222 : (.fieldLink "HouseHeirs$Past" 22 "HouseHeirs$Past" "year" "[I" : Cond) ∈ gw := gw_of (tb_1 _ (List.mem_of_getElem? (i := 119) rfl)) rfl
theorem wd_223 : (.fieldLink "HouseHeirs$Past" 27 "HouseHeirs$Past" "beams" "[[I" : Cond) ∈ gw := gw_of (tb_1 _ (List.mem_of_getElem? (i := 120) rfl)) rfl
theorem wd_224 : (.fieldLink "HouseHeirs$Past" 30 "HouseHeirs$Past" "where" "[[I" : Cond) ∈ gw := gw_of (tb_1 _ (List.mem_of_getElem? (i := 121) rfl)) rfl
theorem wd_238 : (.classLink "HouseHeirs" 26 "HouseHeirs$Image" : Cond) ∈ gw := gw_of (tb_1 _ (List.mem_of_getElem? (i := 135) rfl)) rfl
theorem wd_239 : (.instantiable "HouseHeirs$Image" 3 : Cond) ∈ gw := gw_of (tb_1 _ (List.mem_of_getElem? (i := 136) rfl)) rfl
theorem nw_240 : (.methodLinkNest "HouseHeirs" 28 ⟨"HouseHeirs$Image", "<init>", "()V"⟩ "HouseHeirs" : Cond) ∈ nestW := nest_of (tb_1 _ (List.mem_of_getElem? (i := 137) rfl)) rfl
theorem wd_241 : (.instanceMethod ⟨"HouseHeirs$Image", "<init>", "()V"⟩ : Cond) ∈ gw := gw_of (tb_1 _ (List.mem_of_getElem? (i := 138) rfl)) rfl
theorem wd_242 : (.code ⟨"HouseHeirs$Image", "<init>", "()V"⟩ prog_2_method_1_code 1 (Option.none : Option Jvm.ClassFile.FieldType) : Cond) ∈ gw := gw_of (tb_1 _ (List.mem_of_getElem? (i := 139) rfl)) rfl
theorem wd_243 : (.methodLink "HouseHeirs$Image" 1 ⟨"java/lang/Object", "<init>", "()V"⟩ : Cond) ∈ gw := gw_of (tb_1 _ (List.mem_of_getElem? (i := 140) rfl)) rfl
theorem wd_244 : (.classLink "HouseHeirs$Image" 13 "HouseHeirs$Street" : Cond) ∈ gw := gw_of (tb_1 _ (List.mem_of_getElem? (i := 141) rfl)) rfl
theorem nw_245 : (.methodLinkNest "HouseHeirs$Image" 15 ⟨"HouseHeirs$Street", "<init>", "()V"⟩ "HouseHeirs" : Cond) ∈ nestW := nest_of (tb_1 _ (List.mem_of_getElem? (i := 142) rfl)) rfl
theorem wd_246 : (.classLink "HouseHeirs$Image" 20 "HouseHeirs$Past" : Cond) ∈ gw := gw_of (tb_1 _ (List.mem_of_getElem? (i := 143) rfl)) rfl
theorem nw_247 : (.methodLinkNest "HouseHeirs$Image" 22 ⟨"HouseHeirs$Past", "<init>", "()V"⟩ "HouseHeirs" : Cond) ∈ nestW := nest_of (tb_1 _ (List.mem_of_getElem? (i := 144) rfl)) rfl
theorem wd_248 : (.fieldLink "HouseHeirs$Image" 7 "HouseHeirs$Image" "kept" "Z" : Cond) ∈ gw := gw_of (tb_1 _ (List.mem_of_getElem? (i := 145) rfl)) rfl
theorem nw_249 : (.fieldLinkNest "HouseHeirs" 285 "HouseHeirs$Image" "kept" "Z" "HouseHeirs" : Cond) ∈ nestW := nest_of (tb_1 _ (List.mem_of_getElem? (i := 146) rfl)) rfl
theorem wd_250 : (.fieldLink "HouseHeirs$Image" 16 "HouseHeirs$Image" "street" "LHouseHeirs$Street;" : Cond) ∈ gw := gw_of (tb_1 _ (List.mem_of_getElem? (i := 147) rfl)) rfl
theorem wd_251 : (.fieldLink "HouseHeirs$Image" 23 "HouseHeirs$Image" "past" "LHouseHeirs$Past;" : Cond) ∈ gw := gw_of (tb_1 _ (List.mem_of_getElem? (i := 148) rfl)) rfl
theorem wd_259 : (.classLink "HouseHeirs" 36 "HouseHeirs$Text" : Cond) ∈ gw := gw_of (tb_1 _ (List.mem_of_getElem? (i := 156) rfl)) rfl
theorem wd_260 : (.instantiable "HouseHeirs$Text" 8 : Cond) ∈ gw := gw_of (tb_1 _ (List.mem_of_getElem? (i := 157) rfl)) rfl
theorem nw_261 : (.methodLinkNest "HouseHeirs" 38 ⟨"HouseHeirs$Text", "<init>", "()V"⟩ "HouseHeirs" : Cond) ∈ nestW := nest_of (tb_1 _ (List.mem_of_getElem? (i := 158) rfl)) rfl
theorem wd_262 : (.instanceMethod ⟨"HouseHeirs$Text", "<init>", "()V"⟩ : Cond) ∈ gw := gw_of (tb_1 _ (List.mem_of_getElem? (i := 159) rfl)) rfl
theorem wd_263 : (.code ⟨"HouseHeirs$Text", "<init>", "()V"⟩ prog_7_method_1_code 1 (Option.none : Option Jvm.ClassFile.FieldType) : Cond) ∈ gw := gw_of (tb_1 _ (List.mem_of_getElem? (i := 160) rfl)) rfl
theorem wd_264 : (.methodLink "HouseHeirs$Text" 3 ⟨"java/lang/Object", "<init>", "()V"⟩ : Cond) ∈ gw := gw_of (tb_1 _ (List.mem_of_getElem? (i := 161) rfl)) rfl
theorem wd_265 : (.classLink "HouseHeirs$Text" 22 "[[I" : Cond) ∈ gw := gw_of (tb_1 _ (List.mem_of_getElem? (i := 162) rfl)) rfl
theorem wd_266 : (.fieldLink "HouseHeirs$Text" 9 "HouseHeirs$Text" "bytes" "[I" : Cond) ∈ gw := gw_of (tb_1 _ (List.mem_of_getElem? (i := 163) rfl)) rfl
theorem wd_267 : (.fieldLink "HouseHeirs$Text" 15 "HouseHeirs$Text" "length" "I" : Cond) ∈ gw := gw_of (tb_1 _ (List.mem_of_getElem? (i := 164) rfl)) rfl
theorem nw_268 : (.fieldLinkNest "HouseHeirs" 113 "HouseHeirs$Text" "length" "I" "HouseHeirs" : Cond) ∈ nestW := nest_of (tb_1 _ (List.mem_of_getElem? (i := 165) rfl)) rfl
theorem wd_269 : (.fieldLink "HouseHeirs$Text" 19 "HouseHeirs$Text" "itemKind" "[I" : Cond) ∈ gw := gw_of (tb_1 _ (List.mem_of_getElem? (i := 166) rfl)) rfl
theorem wd_270 : (.fieldLink "HouseHeirs$Text" 24 "HouseHeirs$Text" "itemNumbers" "[[I" : Cond) ∈ gw := gw_of (tb_1 _ (List.mem_of_getElem? (i := 167) rfl)) rfl
theorem wd_271 : (.fieldLink "HouseHeirs$Text" 27 "HouseHeirs$Text" "items" "I" : Cond) ∈ gw := gw_of (tb_1 _ (List.mem_of_getElem? (i := 168) rfl)) rfl
theorem nw_272 : (.fieldLinkNest "HouseHeirs" 132 "HouseHeirs$Text" "items" "I" "HouseHeirs" : Cond) ∈ nestW := nest_of (tb_1 _ (List.mem_of_getElem? (i := 169) rfl)) rfl
theorem wd_273 : (.fieldLink "HouseHeirs$Text" 30 "HouseHeirs$Text" "token" "I" : Cond) ∈ gw := gw_of (tb_1 _ (List.mem_of_getElem? (i := 170) rfl)) rfl
theorem wd_274 : (.fieldLink "HouseHeirs$Text" 33 "HouseHeirs$Text" "tokenStart" "I" : Cond) ∈ gw := gw_of (tb_1 _ (List.mem_of_getElem? (i := 171) rfl)) rfl
theorem wd_275 : (.fieldLink "HouseHeirs$Text" 36 "HouseHeirs$Text" "tokenEnd" "I" : Cond) ∈ gw := gw_of (tb_1 _ (List.mem_of_getElem? (i := 172) rfl)) rfl
theorem wd_293 : (.classLink "HouseHeirs" 43 "HouseHeirs$Orders" : Cond) ∈ gw := gw_of (tb_1 _ (List.mem_of_getElem? (i := 190) rfl)) rfl
theorem wd_294 : (.instantiable "HouseHeirs$Orders" 6 : Cond) ∈ gw := gw_of (tb_1 _ (List.mem_of_getElem? (i := 191) rfl)) rfl
theorem nw_295 : (.methodLinkNest "HouseHeirs" 45 ⟨"HouseHeirs$Orders", "<init>", "()V"⟩ "HouseHeirs" : Cond) ∈ nestW := nest_of (tb_1 _ (List.mem_of_getElem? (i := 192) rfl)) rfl
theorem wd_296 : (.instanceMethod ⟨"HouseHeirs$Orders", "<init>", "()V"⟩ : Cond) ∈ gw := gw_of (tb_1 _ (List.mem_of_getElem? (i := 193) rfl)) rfl
theorem wd_297 : (.code ⟨"HouseHeirs$Orders", "<init>", "()V"⟩ prog_4_method_1_code 1 (Option.none : Option Jvm.ClassFile.FieldType) : Cond) ∈ gw := gw_of (tb_1 _ (List.mem_of_getElem? (i := 194) rfl)) rfl
theorem wd_298 : (.methodLink "HouseHeirs$Orders" 3 ⟨"java/lang/Object", "<init>", "()V"⟩ : Cond) ∈ gw := gw_of (tb_1 _ (List.mem_of_getElem? (i := 195) rfl)) rfl
theorem wd_299 : (.classLink "HouseHeirs$Orders" 9 "HouseHeirs$Street" : Cond) ∈ gw := gw_of (tb_1 _ (List.mem_of_getElem? (i := 196) rfl)) rfl
theorem nw_300 : (.methodLinkNest "HouseHeirs$Orders" 11 ⟨"HouseHeirs$Street", "<init>", "()V"⟩ "HouseHeirs" : Cond) ∈ nestW := nest_of (tb_1 _ (List.mem_of_getElem? (i := 197) rfl)) rfl
theorem wd_301 : (.classLink "HouseHeirs$Orders" 22 "[[I" : Cond) ∈ gw := gw_of (tb_1 _ (List.mem_of_getElem? (i := 198) rfl)) rfl
theorem wd_302 : (.fieldLink "HouseHeirs$Orders" 12 "HouseHeirs$Orders" "street" "LHouseHeirs$Street;" : Cond) ∈ gw := gw_of (tb_1 _ (List.mem_of_getElem? (i := 199) rfl)) rfl
theorem wd_303 : (.fieldLink "HouseHeirs$Orders" 18 "HouseHeirs$Orders" "standingAt" "[I" : Cond) ∈ gw := gw_of (tb_1 _ (List.mem_of_getElem? (i := 200) rfl)) rfl
theorem wd_304 : (.fieldLink "HouseHeirs$Orders" 24 "HouseHeirs$Orders" "whereAt" "[[I" : Cond) ∈ gw := gw_of (tb_1 _ (List.mem_of_getElem? (i := 201) rfl)) rfl
theorem wd_305 : (.fieldLink "HouseHeirs$Orders" 27 "HouseHeirs$Orders" "order" "[I" : Cond) ∈ gw := gw_of (tb_1 _ (List.mem_of_getElem? (i := 202) rfl)) rfl
theorem wd_306 : (.fieldLink "HouseHeirs$Orders" 30 "HouseHeirs$Orders" "first" "[I" : Cond) ∈ gw := gw_of (tb_1 _ (List.mem_of_getElem? (i := 203) rfl)) rfl
theorem nw_307 : (.fieldLinkNest "HouseHeirs" 232 "HouseHeirs$Orders" "first" "[I" "HouseHeirs" : Cond) ∈ nestW := nest_of (tb_1 _ (List.mem_of_getElem? (i := 204) rfl)) rfl
theorem wd_308 : (.fieldLink "HouseHeirs$Orders" 33 "HouseHeirs$Orders" "found" "I" : Cond) ∈ gw := gw_of (tb_1 _ (List.mem_of_getElem? (i := 205) rfl)) rfl
theorem nw_309 : (.fieldLinkNest "HouseHeirs" 229 "HouseHeirs$Orders" "found" "I" "HouseHeirs" : Cond) ∈ nestW := nest_of (tb_1 _ (List.mem_of_getElem? (i := 206) rfl)) rfl
theorem wd_323 : (.classLink "HouseHeirs" 50 "HouseHeirs$Lodgings" : Cond) ∈ gw := gw_of (tb_1 _ (List.mem_of_getElem? (i := 220) rfl)) rfl
theorem wd_324 : (.instantiable "HouseHeirs$Lodgings" 3 : Cond) ∈ gw := gw_of (tb_1 _ (List.mem_of_getElem? (i := 221) rfl)) rfl
theorem nw_325 : (.methodLinkNest "HouseHeirs" 52 ⟨"HouseHeirs$Lodgings", "<init>", "()V"⟩ "HouseHeirs" : Cond) ∈ nestW := nest_of (tb_1 _ (List.mem_of_getElem? (i := 222) rfl)) rfl
theorem wd_326 : (.instanceMethod ⟨"HouseHeirs$Lodgings", "<init>", "()V"⟩ : Cond) ∈ gw := gw_of (tb_1 _ (List.mem_of_getElem? (i := 223) rfl)) rfl
theorem wd_327 : (.code ⟨"HouseHeirs$Lodgings", "<init>", "()V"⟩ prog_3_method_1_code 1 (Option.none : Option Jvm.ClassFile.FieldType) : Cond) ∈ gw := gw_of (tb_1 _ (List.mem_of_getElem? (i := 224) rfl)) rfl
theorem wd_328 : (.methodLink "HouseHeirs$Lodgings" 3 ⟨"java/lang/Object", "<init>", "()V"⟩ : Cond) ∈ gw := gw_of (tb_1 _ (List.mem_of_getElem? (i := 225) rfl)) rfl
theorem wd_329 : (.fieldLink "HouseHeirs$Lodgings" 9 "HouseHeirs$Lodgings" "living" "[I" : Cond) ∈ gw := gw_of (tb_1 _ (List.mem_of_getElem? (i := 226) rfl)) rfl
theorem wd_330 : (.fieldLink "HouseHeirs$Lodgings" 15 "HouseHeirs$Lodgings" "families" "[I" : Cond) ∈ gw := gw_of (tb_1 _ (List.mem_of_getElem? (i := 227) rfl)) rfl
theorem wd_331 : (.fieldLink "HouseHeirs$Lodgings" 18 "HouseHeirs$Lodgings" "best" "[I" : Cond) ∈ gw := gw_of (tb_1 _ (List.mem_of_getElem? (i := 228) rfl)) rfl
theorem nw_332 : (.fieldLinkNest "HouseHeirs" 244 "HouseHeirs$Lodgings" "best" "[I" "HouseHeirs" : Cond) ∈ nestW := nest_of (tb_1 _ (List.mem_of_getElem? (i := 229) rfl)) rfl
theorem wd_340 : (.fieldLink "HouseHeirs" 10 "HouseHeirs" "now" "LHouseHeirs$Street;" : Cond) ∈ gw := gw_of (tb_1 _ (List.mem_of_getElem? (i := 237) rfl)) rfl
theorem wd_341 : (.fieldLink "HouseHeirs" 16 "HouseHeirs" "trial" "LHouseHeirs$Street;" : Cond) ∈ gw := gw_of (tb_1 _ (List.mem_of_getElem? (i := 238) rfl)) rfl
theorem wd_342 : (.fieldLink "HouseHeirs" 22 "HouseHeirs" "past" "LHouseHeirs$Past;" : Cond) ∈ gw := gw_of (tb_1 _ (List.mem_of_getElem? (i := 239) rfl)) rfl
theorem wd_343 : (.fieldLink "HouseHeirs" 29 "HouseHeirs" "image0" "LHouseHeirs$Image;" : Cond) ∈ gw := gw_of (tb_2 _ (List.mem_of_getElem? (i := 0) rfl)) rfl
theorem wd_344 : (.fieldLink "HouseHeirs" 33 "HouseHeirs" "image1" "LHouseHeirs$Image;" : Cond) ∈ gw := gw_of (tb_2 _ (List.mem_of_getElem? (i := 1) rfl)) rfl
theorem wd_345 : (.fieldLink "HouseHeirs" 39 "HouseHeirs" "text" "LHouseHeirs$Text;" : Cond) ∈ gw := gw_of (tb_2 _ (List.mem_of_getElem? (i := 2) rfl)) rfl
theorem wd_346 : (.fieldLink "HouseHeirs" 46 "HouseHeirs" "orders" "LHouseHeirs$Orders;" : Cond) ∈ gw := gw_of (tb_2 _ (List.mem_of_getElem? (i := 3) rfl)) rfl
theorem wd_347 : (.fieldLink "HouseHeirs" 53 "HouseHeirs" "lodgings" "LHouseHeirs$Lodgings;" : Cond) ∈ gw := gw_of (tb_2 _ (List.mem_of_getElem? (i := 4) rfl)) rfl
theorem wd_348 : (.fieldLink "HouseHeirs" 57 "HouseHeirs" "above" "J" : Cond) ∈ gw := gw_of (tb_2 _ (List.mem_of_getElem? (i := 5) rfl)) rfl
theorem wd_349 : (.fieldLink "HouseHeirs" 61 "HouseHeirs" "below" "J" : Cond) ∈ gw := gw_of (tb_2 _ (List.mem_of_getElem? (i := 6) rfl)) rfl
theorem wd_350 : (.fieldLink "HouseHeirs" 64 "HouseHeirs" "bads" "I" : Cond) ∈ gw := gw_of (tb_2 _ (List.mem_of_getElem? (i := 7) rfl)) rfl
theorem wd_351 : (.fieldLink "HouseHeirs" 68 "HouseHeirs" "nos" "I" : Cond) ∈ gw := gw_of (tb_2 _ (List.mem_of_getElem? (i := 8) rfl)) rfl
theorem wd_352 : (.fieldLink "HouseHeirs" 71 "HouseHeirs" "fulls" "I" : Cond) ∈ gw := gw_of (tb_2 _ (List.mem_of_getElem? (i := 9) rfl)) rfl
theorem wd_380 : (.methodLink "HouseHeirsLaw" 13 ⟨"HouseHeirs", "street", "()I"⟩ : Cond) ∈ gw := gw_of (tb_2 _ (List.mem_of_getElem? (i := 37) rfl)) rfl
theorem wd_381 : (.instanceMethod ⟨"HouseHeirs", "street", "()I"⟩ : Cond) ∈ gw := gw_of (tb_2 _ (List.mem_of_getElem? (i := 38) rfl)) rfl
theorem wd_382 : (.selects "HouseHeirs" ⟨"HouseHeirs", "street", "()I"⟩ ⟨"HouseHeirs", "street", "()I"⟩ : Cond) ∈ gw := gw_of (tb_2 _ (List.mem_of_getElem? (i := 39) rfl)) rfl
theorem wd_383 : (.code ⟨"HouseHeirs", "street", "()I"⟩ prog_1_method_2_code 2 (Option.some .int) : Cond) ∈ gw := gw_of (tb_2 _ (List.mem_of_getElem? (i := 40) rfl)) rfl
theorem nw_384 : (.methodLinkNest "HouseHeirs" 77 ⟨"HouseHeirs$Street", "empty", "()V"⟩ "HouseHeirs" : Cond) ∈ nestW := nest_of (tb_2 _ (List.mem_of_getElem? (i := 41) rfl)) rfl
theorem wd_386 : (.instanceMethod ⟨"HouseHeirs$Street", "empty", "()V"⟩ : Cond) ∈ gw := gw_of (tb_2 _ (List.mem_of_getElem? (i := 43) rfl)) rfl
theorem wd_387 : (.code ⟨"HouseHeirs$Street", "empty", "()V"⟩ prog_6_method_2_code 2 (Option.none : Option Jvm.ClassFile.FieldType) : Cond) ∈ gw := gw_of (tb_2 _ (List.mem_of_getElem? (i := 44) rfl)) rfl
theorem nw_388 : (.methodLinkNest "HouseHeirs" 80 ⟨"HouseHeirs$Past", "forget", "()V"⟩ "HouseHeirs" : Cond) ∈ nestW := nest_of (tb_2 _ (List.mem_of_getElem? (i := 45) rfl)) rfl
theorem wd_390 : (.instanceMethod ⟨"HouseHeirs$Past", "forget", "()V"⟩ : Cond) ∈ gw := gw_of (tb_2 _ (List.mem_of_getElem? (i := 47) rfl)) rfl
theorem wd_391 : (.code ⟨"HouseHeirs$Past", "forget", "()V"⟩ prog_5_method_2_code 1 (Option.none : Option Jvm.ClassFile.FieldType) : Cond) ∈ gw := gw_of (tb_2 _ (List.mem_of_getElem? (i := 48) rfl)) rfl
theorem wd_392 : (.methodLink "HouseHeirsLaw" 18 ⟨"HouseHeirs", "house", "(III)I"⟩ : Cond) ∈ gw := gw_of (tb_2 _ (List.mem_of_getElem? (i := 49) rfl)) rfl
theorem wd_393 : (.instanceMethod ⟨"HouseHeirs", "house", "(III)I"⟩ : Cond) ∈ gw := gw_of (tb_2 _ (List.mem_of_getElem? (i := 50) rfl)) rfl
theorem wd_394 : (.selects "HouseHeirs" ⟨"HouseHeirs", "house", "(III)I"⟩ ⟨"HouseHeirs", "house", "(III)I"⟩ : Cond) ∈ gw := gw_of (tb_2 _ (List.mem_of_getElem? (i := 51) rfl)) rfl
theorem wd_395 : (.code ⟨"HouseHeirs", "house", "(III)I"⟩ prog_1_method_3_code 4 (Option.some .int) : Cond) ∈ gw := gw_of (tb_2 _ (List.mem_of_getElem? (i := 52) rfl)) rfl
theorem nw_396 : (.methodLinkNest "HouseHeirs" 83 ⟨"HouseHeirs$Street", "addHouse", "(III)I"⟩ "HouseHeirs" : Cond) ∈ nestW := nest_of (tb_2 _ (List.mem_of_getElem? (i := 53) rfl)) rfl
theorem wd_398 : (.instanceMethod ⟨"HouseHeirs$Street", "addHouse", "(III)I"⟩ : Cond) ∈ gw := gw_of (tb_2 _ (List.mem_of_getElem? (i := 55) rfl)) rfl
theorem wd_399 : (.code ⟨"HouseHeirs$Street", "addHouse", "(III)I"⟩ prog_6_method_4_code 5 (Option.some .int) : Cond) ∈ gw := gw_of (tb_2 _ (List.mem_of_getElem? (i := 56) rfl)) rfl
theorem wd_400 : (.methodLink "HouseHeirs" 87 ⟨"HouseHeirs", "told", "(II)I"⟩ : Cond) ∈ gw := gw_of (tb_2 _ (List.mem_of_getElem? (i := 57) rfl)) rfl
theorem wd_402 : (.instanceMethod ⟨"HouseHeirs", "told", "(II)I"⟩ : Cond) ∈ gw := gw_of (tb_2 _ (List.mem_of_getElem? (i := 59) rfl)) rfl
theorem wd_403 : (.code ⟨"HouseHeirs", "told", "(II)I"⟩ prog_1_method_42_code 3 (Option.some .int) : Cond) ∈ gw := gw_of (tb_2 _ (List.mem_of_getElem? (i := 60) rfl)) rfl
theorem wd_404 : (.methodLink "HouseHeirs" 110 ⟨"HouseHeirs", "refused", "(II)I"⟩ : Cond) ∈ gw := gw_of (tb_2 _ (List.mem_of_getElem? (i := 61) rfl)) rfl
theorem wd_406 : (.instanceMethod ⟨"HouseHeirs", "refused", "(II)I"⟩ : Cond) ∈ gw := gw_of (tb_2 _ (List.mem_of_getElem? (i := 63) rfl)) rfl
theorem wd_407 : (.code ⟨"HouseHeirs", "refused", "(II)I"⟩ prog_1_method_43_code 3 (Option.some .int) : Cond) ∈ gw := gw_of (tb_2 _ (List.mem_of_getElem? (i := 64) rfl)) rfl
theorem wd_408 : (.methodLink "HouseHeirsLaw" 23 ⟨"HouseHeirs", "builtFrom", "(II)I"⟩ : Cond) ∈ gw := gw_of (tb_2 _ (List.mem_of_getElem? (i := 65) rfl)) rfl
theorem wd_409 : (.instanceMethod ⟨"HouseHeirs", "builtFrom", "(II)I"⟩ : Cond) ∈ gw := gw_of (tb_2 _ (List.mem_of_getElem? (i := 66) rfl)) rfl
theorem wd_410 : (.selects "HouseHeirs" ⟨"HouseHeirs", "builtFrom", "(II)I"⟩ ⟨"HouseHeirs", "builtFrom", "(II)I"⟩ : Cond) ∈ gw := gw_of (tb_2 _ (List.mem_of_getElem? (i := 67) rfl)) rfl
theorem wd_411 : (.code ⟨"HouseHeirs", "builtFrom", "(II)I"⟩ prog_1_method_4_code 3 (Option.some .int) : Cond) ∈ gw := gw_of (tb_2 _ (List.mem_of_getElem? (i := 68) rfl)) rfl
theorem nw_412 : (.methodLinkNest "HouseHeirs" 91 ⟨"HouseHeirs$Street", "setFrom", "(II)I"⟩ "HouseHeirs" : Cond) ∈ nestW := nest_of (tb_2 _ (List.mem_of_getElem? (i := 69) rfl)) rfl
theorem wd_414 : (.instanceMethod ⟨"HouseHeirs$Street", "setFrom", "(II)I"⟩ : Cond) ∈ gw := gw_of (tb_2 _ (List.mem_of_getElem? (i := 71) rfl)) rfl
theorem wd_415 : (.code ⟨"HouseHeirs$Street", "setFrom", "(II)I"⟩ prog_6_method_5_code 4 (Option.some .int) : Cond) ∈ gw := gw_of (tb_2 _ (List.mem_of_getElem? (i := 72) rfl)) rfl
theorem wd_416 : (.methodLink "HouseHeirs$Street" 68 ⟨"HouseHeirs$Street", "has", "(I)Z"⟩ : Cond) ∈ gw := gw_of (tb_2 _ (List.mem_of_getElem? (i := 73) rfl)) rfl
theorem wd_418 : (.instanceMethod ⟨"HouseHeirs$Street", "has", "(I)Z"⟩ : Cond) ∈ gw := gw_of (tb_2 _ (List.mem_of_getElem? (i := 75) rfl)) rfl
theorem wd_419 : (.code ⟨"HouseHeirs$Street", "has", "(I)Z"⟩ prog_6_method_11_code 2 (Option.some .boolean) : Cond) ∈ gw := gw_of (tb_2 _ (List.mem_of_getElem? (i := 76) rfl)) rfl
theorem wd_420 : (.methodLink "HouseHeirsLaw" 28 ⟨"HouseHeirs", "will", "(II)I"⟩ : Cond) ∈ gw := gw_of (tb_2 _ (List.mem_of_getElem? (i := 77) rfl)) rfl
theorem wd_421 : (.instanceMethod ⟨"HouseHeirs", "will", "(II)I"⟩ : Cond) ∈ gw := gw_of (tb_2 _ (List.mem_of_getElem? (i := 78) rfl)) rfl
theorem wd_422 : (.selects "HouseHeirs" ⟨"HouseHeirs", "will", "(II)I"⟩ ⟨"HouseHeirs", "will", "(II)I"⟩ : Cond) ∈ gw := gw_of (tb_2 _ (List.mem_of_getElem? (i := 79) rfl)) rfl
theorem wd_423 : (.code ⟨"HouseHeirs", "will", "(II)I"⟩ prog_1_method_5_code 3 (Option.some .int) : Cond) ∈ gw := gw_of (tb_2 _ (List.mem_of_getElem? (i := 80) rfl)) rfl
theorem nw_424 : (.methodLinkNest "HouseHeirs" 94 ⟨"HouseHeirs$Street", "setWill", "(II)I"⟩ "HouseHeirs" : Cond) ∈ nestW := nest_of (tb_2 _ (List.mem_of_getElem? (i := 81) rfl)) rfl
theorem wd_426 : (.instanceMethod ⟨"HouseHeirs$Street", "setWill", "(II)I"⟩ : Cond) ∈ gw := gw_of (tb_2 _ (List.mem_of_getElem? (i := 83) rfl)) rfl
theorem wd_427 : (.code ⟨"HouseHeirs$Street", "setWill", "(II)I"⟩ prog_6_method_6_code 4 (Option.some .int) : Cond) ∈ gw := gw_of (tb_2 _ (List.mem_of_getElem? (i := 84) rfl)) rfl
theorem wd_428 : (.methodLink "HouseHeirsLaw" 32 ⟨"HouseHeirs", "wall", "(IIZ)I"⟩ : Cond) ∈ gw := gw_of (tb_2 _ (List.mem_of_getElem? (i := 85) rfl)) rfl
theorem wd_429 : (.instanceMethod ⟨"HouseHeirs", "wall", "(IIZ)I"⟩ : Cond) ∈ gw := gw_of (tb_2 _ (List.mem_of_getElem? (i := 86) rfl)) rfl
theorem wd_430 : (.selects "HouseHeirs" ⟨"HouseHeirs", "wall", "(IIZ)I"⟩ ⟨"HouseHeirs", "wall", "(IIZ)I"⟩ : Cond) ∈ gw := gw_of (tb_2 _ (List.mem_of_getElem? (i := 87) rfl)) rfl
theorem wd_431 : (.code ⟨"HouseHeirs", "wall", "(IIZ)I"⟩ prog_1_method_6_code 4 (Option.some .int) : Cond) ∈ gw := gw_of (tb_2 _ (List.mem_of_getElem? (i := 88) rfl)) rfl
theorem nw_432 : (.methodLinkNest "HouseHeirs" 97 ⟨"HouseHeirs$Street", "setWall", "(IIZ)I"⟩ "HouseHeirs" : Cond) ∈ nestW := nest_of (tb_2 _ (List.mem_of_getElem? (i := 89) rfl)) rfl
theorem wd_434 : (.instanceMethod ⟨"HouseHeirs$Street", "setWall", "(IIZ)I"⟩ : Cond) ∈ gw := gw_of (tb_2 _ (List.mem_of_getElem? (i := 91) rfl)) rfl
theorem wd_435 : (.code ⟨"HouseHeirs$Street", "setWall", "(IIZ)I"⟩ prog_6_method_7_code 4 (Option.some .int) : Cond) ∈ gw := gw_of (tb_2 _ (List.mem_of_getElem? (i := 92) rfl)) rfl
theorem wd_436 : (.methodLink "HouseHeirs$Street" 72 ⟨"HouseHeirs$Street", "hasTwo", "(II)Z"⟩ : Cond) ∈ gw := gw_of (tb_2 _ (List.mem_of_getElem? (i := 93) rfl)) rfl
theorem wd_438 : (.instanceMethod ⟨"HouseHeirs$Street", "hasTwo", "(II)Z"⟩ : Cond) ∈ gw := gw_of (tb_2 _ (List.mem_of_getElem? (i := 95) rfl)) rfl
theorem wd_439 : (.code ⟨"HouseHeirs$Street", "hasTwo", "(II)Z"⟩ prog_6_method_12_code 3 (Option.some .boolean) : Cond) ∈ gw := gw_of (tb_2 _ (List.mem_of_getElem? (i := 96) rfl)) rfl
theorem wd_440 : (.methodLink "HouseHeirs$Street" 76 ⟨"HouseHeirs$Street", "hasWall", "(II)Z"⟩ : Cond) ∈ gw := gw_of (tb_2 _ (List.mem_of_getElem? (i := 97) rfl)) rfl
theorem wd_442 : (.instanceMethod ⟨"HouseHeirs$Street", "hasWall", "(II)Z"⟩ : Cond) ∈ gw := gw_of (tb_2 _ (List.mem_of_getElem? (i := 99) rfl)) rfl
theorem wd_443 : (.code ⟨"HouseHeirs$Street", "hasWall", "(II)Z"⟩ prog_6_method_15_code 3 (Option.some .boolean) : Cond) ∈ gw := gw_of (tb_2 _ (List.mem_of_getElem? (i := 100) rfl)) rfl
theorem wd_444 : (.methodLink "HouseHeirsLaw" 37 ⟨"HouseHeirs", "one", "(II)I"⟩ : Cond) ∈ gw := gw_of (tb_2 _ (List.mem_of_getElem? (i := 101) rfl)) rfl
theorem wd_445 : (.instanceMethod ⟨"HouseHeirs", "one", "(II)I"⟩ : Cond) ∈ gw := gw_of (tb_2 _ (List.mem_of_getElem? (i := 102) rfl)) rfl
theorem wd_446 : (.selects "HouseHeirs" ⟨"HouseHeirs", "one", "(II)I"⟩ ⟨"HouseHeirs", "one", "(II)I"⟩ : Cond) ∈ gw := gw_of (tb_2 _ (List.mem_of_getElem? (i := 103) rfl)) rfl
theorem wd_447 : (.code ⟨"HouseHeirs", "one", "(II)I"⟩ prog_1_method_7_code 3 (Option.some .int) : Cond) ∈ gw := gw_of (tb_2 _ (List.mem_of_getElem? (i := 104) rfl)) rfl
theorem nw_448 : (.methodLinkNest "HouseHeirs" 101 ⟨"HouseHeirs$Street", "addOne", "(II)I"⟩ "HouseHeirs" : Cond) ∈ nestW := nest_of (tb_2 _ (List.mem_of_getElem? (i := 105) rfl)) rfl
theorem wd_450 : (.instanceMethod ⟨"HouseHeirs$Street", "addOne", "(II)I"⟩ : Cond) ∈ gw := gw_of (tb_2 _ (List.mem_of_getElem? (i := 107) rfl)) rfl
theorem wd_451 : (.code ⟨"HouseHeirs$Street", "addOne", "(II)I"⟩ prog_6_method_8_code 3 (Option.some .int) : Cond) ∈ gw := gw_of (tb_2 _ (List.mem_of_getElem? (i := 108) rfl)) rfl
theorem wd_452 : (.methodLink "HouseHeirs$Street" 79 ⟨"HouseHeirs$Street", "stands", "(I)Z"⟩ : Cond) ∈ gw := gw_of (tb_2 _ (List.mem_of_getElem? (i := 109) rfl)) rfl
theorem wd_454 : (.instanceMethod ⟨"HouseHeirs$Street", "stands", "(I)Z"⟩ : Cond) ∈ gw := gw_of (tb_2 _ (List.mem_of_getElem? (i := 111) rfl)) rfl
theorem wd_455 : (.code ⟨"HouseHeirs$Street", "stands", "(I)Z"⟩ prog_6_method_14_code 2 (Option.some .boolean) : Cond) ∈ gw := gw_of (tb_2 _ (List.mem_of_getElem? (i := 112) rfl)) rfl
theorem wd_456 : (.methodLink "HouseHeirsLaw" 41 ⟨"HouseHeirs", "feud", "(IIZ)I"⟩ : Cond) ∈ gw := gw_of (tb_2 _ (List.mem_of_getElem? (i := 113) rfl)) rfl
theorem wd_457 : (.instanceMethod ⟨"HouseHeirs", "feud", "(IIZ)I"⟩ : Cond) ∈ gw := gw_of (tb_2 _ (List.mem_of_getElem? (i := 114) rfl)) rfl
theorem wd_458 : (.selects "HouseHeirs" ⟨"HouseHeirs", "feud", "(IIZ)I"⟩ ⟨"HouseHeirs", "feud", "(IIZ)I"⟩ : Cond) ∈ gw := gw_of (tb_2 _ (List.mem_of_getElem? (i := 115) rfl)) rfl
theorem wd_459 : (.code ⟨"HouseHeirs", "feud", "(IIZ)I"⟩ prog_1_method_8_code 4 (Option.some .int) : Cond) ∈ gw := gw_of (tb_2 _ (List.mem_of_getElem? (i := 116) rfl)) rfl
theorem nw_460 : (.methodLinkNest "HouseHeirs" 104 ⟨"HouseHeirs$Street", "setFeud", "(IIZ)I"⟩ "HouseHeirs" : Cond) ∈ nestW := nest_of (tb_2 _ (List.mem_of_getElem? (i := 117) rfl)) rfl
theorem wd_462 : (.instanceMethod ⟨"HouseHeirs$Street", "setFeud", "(IIZ)I"⟩ : Cond) ∈ gw := gw_of (tb_2 _ (List.mem_of_getElem? (i := 119) rfl)) rfl
theorem wd_463 : (.code ⟨"HouseHeirs$Street", "setFeud", "(IIZ)I"⟩ prog_6_method_9_code 4 (Option.some .int) : Cond) ∈ gw := gw_of (tb_2 _ (List.mem_of_getElem? (i := 120) rfl)) rfl
theorem wd_464 : (.methodLink "HouseHeirs$Street" 82 ⟨"HouseHeirs$Street", "hasFeud", "(II)Z"⟩ : Cond) ∈ gw := gw_of (tb_2 _ (List.mem_of_getElem? (i := 121) rfl)) rfl
theorem wd_466 : (.instanceMethod ⟨"HouseHeirs$Street", "hasFeud", "(II)Z"⟩ : Cond) ∈ gw := gw_of (tb_2 _ (List.mem_of_getElem? (i := 123) rfl)) rfl
theorem wd_467 : (.code ⟨"HouseHeirs$Street", "hasFeud", "(II)Z"⟩ prog_6_method_17_code 3 (Option.some .boolean) : Cond) ∈ gw := gw_of (tb_2 _ (List.mem_of_getElem? (i := 124) rfl)) rfl
theorem wd_468 : (.methodLink "HouseHeirsLaw" 45 ⟨"HouseHeirs", "mark", "(II)I"⟩ : Cond) ∈ gw := gw_of (tb_2 _ (List.mem_of_getElem? (i := 125) rfl)) rfl
theorem wd_469 : (.instanceMethod ⟨"HouseHeirs", "mark", "(II)I"⟩ : Cond) ∈ gw := gw_of (tb_2 _ (List.mem_of_getElem? (i := 126) rfl)) rfl
theorem wd_470 : (.selects "HouseHeirs" ⟨"HouseHeirs", "mark", "(II)I"⟩ ⟨"HouseHeirs", "mark", "(II)I"⟩ : Cond) ∈ gw := gw_of (tb_2 _ (List.mem_of_getElem? (i := 127) rfl)) rfl
theorem wd_471 : (.code ⟨"HouseHeirs", "mark", "(II)I"⟩ prog_1_method_9_code 3 (Option.some .int) : Cond) ∈ gw := gw_of (tb_2 _ (List.mem_of_getElem? (i := 128) rfl)) rfl
theorem nw_472 : (.methodLinkNest "HouseHeirs" 107 ⟨"HouseHeirs$Street", "setMarks", "(II)I"⟩ "HouseHeirs" : Cond) ∈ nestW := nest_of (tb_2 _ (List.mem_of_getElem? (i := 129) rfl)) rfl
theorem wd_474 : (.instanceMethod ⟨"HouseHeirs$Street", "setMarks", "(II)I"⟩ : Cond) ∈ gw := gw_of (tb_2 _ (List.mem_of_getElem? (i := 131) rfl)) rfl
theorem wd_475 : (.code ⟨"HouseHeirs$Street", "setMarks", "(II)I"⟩ prog_6_method_10_code 4 (Option.some .int) : Cond) ∈ gw := gw_of (tb_2 _ (List.mem_of_getElem? (i := 132) rfl)) rfl
theorem wd_476 : (.methodLink "HouseHeirsLaw" 49 ⟨"HouseHeirs", "type", "(I)I"⟩ : Cond) ∈ gw := gw_of (tb_2 _ (List.mem_of_getElem? (i := 133) rfl)) rfl
theorem wd_477 : (.instanceMethod ⟨"HouseHeirs", "type", "(I)I"⟩ : Cond) ∈ gw := gw_of (tb_2 _ (List.mem_of_getElem? (i := 134) rfl)) rfl
theorem wd_478 : (.selects "HouseHeirs" ⟨"HouseHeirs", "type", "(I)I"⟩ ⟨"HouseHeirs", "type", "(I)I"⟩ : Cond) ∈ gw := gw_of (tb_2 _ (List.mem_of_getElem? (i := 135) rfl)) rfl
theorem wd_479 : (.code ⟨"HouseHeirs", "type", "(I)I"⟩ prog_1_method_10_code 2 (Option.some .int) : Cond) ∈ gw := gw_of (tb_2 _ (List.mem_of_getElem? (i := 136) rfl)) rfl
theorem nw_480 : (.methodLinkNest "HouseHeirs" 116 ⟨"HouseHeirs$Text", "append", "(I)I"⟩ "HouseHeirs" : Cond) ∈ nestW := nest_of (tb_2 _ (List.mem_of_getElem? (i := 137) rfl)) rfl
theorem wd_482 : (.instanceMethod ⟨"HouseHeirs$Text", "append", "(I)I"⟩ : Cond) ∈ gw := gw_of (tb_2 _ (List.mem_of_getElem? (i := 139) rfl)) rfl
theorem wd_483 : (.code ⟨"HouseHeirs$Text", "append", "(I)I"⟩ prog_7_method_2_code 2 (Option.some .int) : Cond) ∈ gw := gw_of (tb_2 _ (List.mem_of_getElem? (i := 140) rfl)) rfl
theorem wd_484 : (.methodLink "HouseHeirsLaw" 54 ⟨"HouseHeirs", "clear", "()I"⟩ : Cond) ∈ gw := gw_of (tb_2 _ (List.mem_of_getElem? (i := 141) rfl)) rfl
theorem wd_485 : (.instanceMethod ⟨"HouseHeirs", "clear", "()I"⟩ : Cond) ∈ gw := gw_of (tb_2 _ (List.mem_of_getElem? (i := 142) rfl)) rfl
theorem wd_486 : (.selects "HouseHeirs" ⟨"HouseHeirs", "clear", "()I"⟩ ⟨"HouseHeirs", "clear", "()I"⟩ : Cond) ∈ gw := gw_of (tb_2 _ (List.mem_of_getElem? (i := 143) rfl)) rfl
theorem wd_487 : (.code ⟨"HouseHeirs", "clear", "()I"⟩ prog_1_method_11_code 2 (Option.some .int) : Cond) ∈ gw := gw_of (tb_2 _ (List.mem_of_getElem? (i := 144) rfl)) rfl
theorem wd_488 : (.methodLink "HouseHeirsLaw" 58 ⟨"HouseHeirs", "read", "()I"⟩ : Cond) ∈ gw := gw_of (tb_2 _ (List.mem_of_getElem? (i := 145) rfl)) rfl
theorem wd_489 : (.instanceMethod ⟨"HouseHeirs", "read", "()I"⟩ : Cond) ∈ gw := gw_of (tb_2 _ (List.mem_of_getElem? (i := 146) rfl)) rfl
theorem wd_490 : (.selects "HouseHeirs" ⟨"HouseHeirs", "read", "()I"⟩ ⟨"HouseHeirs", "read", "()I"⟩ : Cond) ∈ gw := gw_of (tb_2 _ (List.mem_of_getElem? (i := 147) rfl)) rfl
theorem wd_491 : (.code ⟨"HouseHeirs", "read", "()I"⟩ prog_1_method_12_code 3 (Option.some .int) : Cond) ∈ gw := gw_of (tb_2 _ (List.mem_of_getElem? (i := 148) rfl)) rfl
theorem nw_492 : (.methodLinkNest "HouseHeirs" 120 ⟨"HouseHeirs$Text", "parse", "()I"⟩ "HouseHeirs" : Cond) ∈ nestW := nest_of (tb_2 _ (List.mem_of_getElem? (i := 149) rfl)) rfl
theorem wd_494 : (.instanceMethod ⟨"HouseHeirs$Text", "parse", "()I"⟩ : Cond) ∈ gw := gw_of (tb_2 _ (List.mem_of_getElem? (i := 151) rfl)) rfl
theorem wd_495 : (.code ⟨"HouseHeirs$Text", "parse", "()I"⟩ prog_7_method_3_code 2 (Option.some .int) : Cond) ∈ gw := gw_of (tb_2 _ (List.mem_of_getElem? (i := 152) rfl)) rfl
theorem wd_496 : (.methodLink "HouseHeirs$Text" 39 ⟨"HouseHeirs$Text", "nextToken", "()V"⟩ : Cond) ∈ gw := gw_of (tb_2 _ (List.mem_of_getElem? (i := 153) rfl)) rfl
theorem wd_498 : (.instanceMethod ⟨"HouseHeirs$Text", "nextToken", "()V"⟩ : Cond) ∈ gw := gw_of (tb_2 _ (List.mem_of_getElem? (i := 155) rfl)) rfl
theorem wd_499 : (.code ⟨"HouseHeirs$Text", "nextToken", "()V"⟩ prog_7_method_6_code 2 (Option.none : Option Jvm.ClassFile.FieldType) : Cond) ∈ gw := gw_of (tb_2 _ (List.mem_of_getElem? (i := 156) rfl)) rfl
theorem wd_500 : (.methodLink "HouseHeirs$Text" 57 ⟨"HouseHeirs$Text", "isLetter", "(I)Z"⟩ : Cond) ∈ gw := gw_of (tb_2 _ (List.mem_of_getElem? (i := 157) rfl)) rfl
theorem wd_501 : (.static ⟨"HouseHeirs$Text", "isLetter", "(I)Z"⟩ : Cond) ∈ gw := gw_of (tb_2 _ (List.mem_of_getElem? (i := 158) rfl)) rfl
theorem wd_502 : (.code ⟨"HouseHeirs$Text", "isLetter", "(I)Z"⟩ prog_7_method_8_code 1 (Option.some .boolean) : Cond) ∈ gw := gw_of (tb_2 _ (List.mem_of_getElem? (i := 159) rfl)) rfl
theorem wd_503 : (.methodLink "HouseHeirs$Text" 60 ⟨"HouseHeirs$Text", "runEnd", "(Z)I"⟩ : Cond) ∈ gw := gw_of (tb_2 _ (List.mem_of_getElem? (i := 160) rfl)) rfl
theorem wd_505 : (.instanceMethod ⟨"HouseHeirs$Text", "runEnd", "(Z)I"⟩ : Cond) ∈ gw := gw_of (tb_2 _ (List.mem_of_getElem? (i := 162) rfl)) rfl
theorem wd_506 : (.code ⟨"HouseHeirs$Text", "runEnd", "(Z)I"⟩ prog_7_method_7_code 3 (Option.some .int) : Cond) ∈ gw := gw_of (tb_2 _ (List.mem_of_getElem? (i := 163) rfl)) rfl
theorem wd_507 : (.methodLink "HouseHeirs$Text" 64 ⟨"HouseHeirs$Text", "isFigure", "(I)Z"⟩ : Cond) ∈ gw := gw_of (tb_2 _ (List.mem_of_getElem? (i := 164) rfl)) rfl
theorem wd_508 : (.static ⟨"HouseHeirs$Text", "isFigure", "(I)Z"⟩ : Cond) ∈ gw := gw_of (tb_2 _ (List.mem_of_getElem? (i := 165) rfl)) rfl
theorem wd_509 : (.code ⟨"HouseHeirs$Text", "isFigure", "(I)Z"⟩ prog_7_method_9_code 1 (Option.some .boolean) : Cond) ∈ gw := gw_of (tb_2 _ (List.mem_of_getElem? (i := 166) rfl)) rfl
theorem wd_510 : (.methodLink "HouseHeirs$Text" 42 ⟨"HouseHeirs$Text", "parseItem", "(I)Z"⟩ : Cond) ∈ gw := gw_of (tb_2 _ (List.mem_of_getElem? (i := 167) rfl)) rfl
theorem wd_512 : (.instanceMethod ⟨"HouseHeirs$Text", "parseItem", "(I)Z"⟩ : Cond) ∈ gw := gw_of (tb_2 _ (List.mem_of_getElem? (i := 169) rfl)) rfl
theorem wd_513 : (.code ⟨"HouseHeirs$Text", "parseItem", "(I)Z"⟩ prog_7_method_4_code 6 (Option.some .boolean) : Cond) ∈ gw := gw_of (tb_2 _ (List.mem_of_getElem? (i := 170) rfl)) rfl
theorem wd_514 : (.methodLink "HouseHeirs$Text" 46 ⟨"HouseHeirs$Text", "wordKind", "()I"⟩ : Cond) ∈ gw := gw_of (tb_2 _ (List.mem_of_getElem? (i := 171) rfl)) rfl
theorem wd_516 : (.instanceMethod ⟨"HouseHeirs$Text", "wordKind", "()I"⟩ : Cond) ∈ gw := gw_of (tb_2 _ (List.mem_of_getElem? (i := 173) rfl)) rfl
theorem wd_517 : (.code ⟨"HouseHeirs$Text", "wordKind", "()I"⟩ prog_7_method_11_code 1 (Option.some .int) : Cond) ∈ gw := gw_of (tb_2 _ (List.mem_of_getElem? (i := 174) rfl)) rfl
theorem wd_519 : (.methodLink "HouseHeirs$Text" 69 ⟨"HouseHeirs$Text", "isWord", "(Ljava/lang/String;)Z"⟩ : Cond) ∈ gw := gw_of (tb_2 _ (List.mem_of_getElem? (i := 176) rfl)) rfl
theorem wd_521 : (.instanceMethod ⟨"HouseHeirs$Text", "isWord", "(Ljava/lang/String;)Z"⟩ : Cond) ∈ gw := gw_of (tb_2 _ (List.mem_of_getElem? (i := 178) rfl)) rfl
theorem wd_522 : (.code ⟨"HouseHeirs$Text", "isWord", "(Ljava/lang/String;)Z"⟩ prog_7_method_12_code 4 (Option.some .boolean) : Cond) ∈ gw := gw_of (tb_2 _ (List.mem_of_getElem? (i := 179) rfl)) rfl
theorem wd_523 : (.methodLink "HouseHeirs$Text" 85 ⟨"java/lang/String", "length", "()I"⟩ : Cond) ∈ gw := gw_of (tb_2 _ (List.mem_of_getElem? (i := 180) rfl)) rfl
theorem wd_524 : (.instanceMethod ⟨"java/lang/String", "length", "()I"⟩ : Cond) ∈ gw := gw_of (tb_2 _ (List.mem_of_getElem? (i := 181) rfl)) rfl
theorem wd_525 : (.selects "java/lang/String" ⟨"java/lang/String", "length", "()I"⟩ ⟨"java/lang/String", "length", "()I"⟩ : Cond) ∈ gw := gw_of (tb_2 _ (List.mem_of_getElem? (i := 182) rfl)) rfl
theorem wd_526 : (.code ⟨"java/lang/String", "length", "()I"⟩ prog_12_method_54_code 1 (Option.some .int) : Cond) ∈ gw := gw_of (tb_2 _ (List.mem_of_getElem? (i := 183) rfl)) rfl
theorem wd_527 : (.methodLink "java/lang/String" 335 ⟨"java/lang/String", "coder", "()B"⟩ : Cond) ∈ gw := gw_of (tb_2 _ (List.mem_of_getElem? (i := 184) rfl)) rfl
theorem wd_528 : (.instanceMethod ⟨"java/lang/String", "coder", "()B"⟩ : Cond) ∈ gw := gw_of (tb_2 _ (List.mem_of_getElem? (i := 185) rfl)) rfl
theorem wd_529 : (.selects "java/lang/String" ⟨"java/lang/String", "coder", "()B"⟩ ⟨"java/lang/String", "coder", "()B"⟩ : Cond) ∈ gw := gw_of (tb_2 _ (List.mem_of_getElem? (i := 186) rfl)) rfl
theorem wd_530 : (.code ⟨"java/lang/String", "coder", "()B"⟩ prog_12_method_152_code 1 (Option.some .byte) : Cond) ∈ gw := gw_of (tb_2 _ (List.mem_of_getElem? (i := 187) rfl)) rfl
theorem wd_531 : (.fieldLink "java/lang/String" 38 "java/lang/String" "COMPACT_STRINGS" "Z" : Cond) ∈ gw := gw_of (tb_2 _ (List.mem_of_getElem? (i := 188) rfl)) rfl
theorem wd_533 : (.methodLink "HouseHeirs$Text" 89 ⟨"java/lang/String", "charAt", "(I)C"⟩ : Cond) ∈ gw := gw_of (tb_2 _ (List.mem_of_getElem? (i := 190) rfl)) rfl
theorem wd_534 : (.instanceMethod ⟨"java/lang/String", "charAt", "(I)C"⟩ : Cond) ∈ gw := gw_of (tb_2 _ (List.mem_of_getElem? (i := 191) rfl)) rfl
theorem wd_535 : (.selects "java/lang/String" ⟨"java/lang/String", "charAt", "(I)C"⟩ ⟨"java/lang/String", "charAt", "(I)C"⟩ : Cond) ∈ gw := gw_of (tb_2 _ (List.mem_of_getElem? (i := 192) rfl)) rfl
theorem wd_536 : (.code ⟨"java/lang/String", "charAt", "(I)C"⟩ prog_12_method_56_code 2 (Option.some .char) : Cond) ∈ gw := gw_of (tb_2 _ (List.mem_of_getElem? (i := 193) rfl)) rfl
theorem wd_537 : (.methodLink "java/lang/String" 492 ⟨"java/lang/String", "isLatin1", "()Z"⟩ : Cond) ∈ gw := gw_of (tb_2 _ (List.mem_of_getElem? (i := 194) rfl)) rfl
theorem wd_538 : (.instanceMethod ⟨"java/lang/String", "isLatin1", "()Z"⟩ : Cond) ∈ gw := gw_of (tb_2 _ (List.mem_of_getElem? (i := 195) rfl)) rfl
theorem wd_539 : (.selects "java/lang/String" ⟨"java/lang/String", "isLatin1", "()Z"⟩ ⟨"java/lang/String", "isLatin1", "()Z"⟩ : Cond) ∈ gw := gw_of (tb_2 _ (List.mem_of_getElem? (i := 196) rfl)) rfl
theorem wd_540 : (.code ⟨"java/lang/String", "isLatin1", "()Z"⟩ prog_12_method_154_code 1 (Option.some .boolean) : Cond) ∈ gw := gw_of (tb_2 _ (List.mem_of_getElem? (i := 197) rfl)) rfl
theorem wd_541 : (.methodLink "java/lang/String" 495 ⟨"java/lang/StringLatin1", "charAt", "([BI)C"⟩ : Cond) ∈ gw := gw_of (tb_2 _ (List.mem_of_getElem? (i := 198) rfl)) rfl
theorem wd_542 : (.static ⟨"java/lang/StringLatin1", "charAt", "([BI)C"⟩ : Cond) ∈ gw := gw_of (tb_2 _ (List.mem_of_getElem? (i := 199) rfl)) rfl
theorem wd_543 : (.code ⟨"java/lang/StringLatin1", "charAt", "([BI)C"⟩ prog_13_method_2_code 2 (Option.some .char) : Cond) ∈ gw := gw_of (tb_2 _ (List.mem_of_getElem? (i := 200) rfl)) rfl
theorem wd_544 : (.methodLink "java/lang/StringLatin1" 9 ⟨"java/lang/String", "checkIndex", "(II)V"⟩ : Cond) ∈ gw := gw_of (tb_2 _ (List.mem_of_getElem? (i := 201) rfl)) rfl
theorem wd_545 : (.static ⟨"java/lang/String", "checkIndex", "(II)V"⟩ : Cond) ∈ gw := gw_of (tb_2 _ (List.mem_of_getElem? (i := 202) rfl)) rfl
theorem wd_546 : (.code ⟨"java/lang/String", "checkIndex", "(II)V"⟩ prog_12_method_155_code 2 (Option.none : Option Jvm.ClassFile.FieldType) : Cond) ∈ gw := gw_of (tb_2 _ (List.mem_of_getElem? (i := 203) rfl)) rfl
theorem wd_547 : (.fieldLink "java/lang/String" 1053 "jdk/internal/util/Preconditions" "SIOOBE_FORMATTER" "Ljava/util/function/BiFunction;" : Cond) ∈ gw := gw_of (tb_2 _ (List.mem_of_getElem? (i := 204) rfl)) rfl
theorem wd_549 : (.methodLink "java/lang/String" 1059 ⟨"jdk/internal/util/Preconditions", "checkIndex", "(IILjava/util/function/BiFunction;)I"⟩ : Cond) ∈ gw := gw_of (tb_2 _ (List.mem_of_getElem? (i := 206) rfl)) rfl
theorem wd_550 : (.static ⟨"jdk/internal/util/Preconditions", "checkIndex", "(IILjava/util/function/BiFunction;)I"⟩ : Cond) ∈ gw := gw_of (tb_2 _ (List.mem_of_getElem? (i := 207) rfl)) rfl
theorem wd_551 : (.code ⟨"jdk/internal/util/Preconditions", "checkIndex", "(IILjava/util/function/BiFunction;)I"⟩ prog_16_method_11_code 3 (Option.some .int) : Cond) ∈ gw := gw_of (tb_2 _ (List.mem_of_getElem? (i := 208) rfl)) rfl
theorem wd_552 : (.methodLink "java/lang/String" 498 ⟨"java/lang/StringUTF16", "charAt", "([BI)C"⟩ : Cond) ∈ gw := gw_of (tb_2 _ (List.mem_of_getElem? (i := 209) rfl)) rfl
theorem wd_553 : (.static ⟨"java/lang/StringUTF16", "charAt", "([BI)C"⟩ : Cond) ∈ gw := gw_of (tb_2 _ (List.mem_of_getElem? (i := 210) rfl)) rfl
theorem wd_554 : (.code ⟨"java/lang/StringUTF16", "charAt", "([BI)C"⟩ prog_14_method_83_code 2 (Option.some .char) : Cond) ∈ gw := gw_of (tb_2 _ (List.mem_of_getElem? (i := 211) rfl)) rfl
theorem wd_555 : (.methodLink "java/lang/StringUTF16" 67 ⟨"java/lang/StringUTF16", "checkIndex", "(I[B)V"⟩ : Cond) ∈ gw := gw_of (tb_2 _ (List.mem_of_getElem? (i := 212) rfl)) rfl
theorem wd_556 : (.static ⟨"java/lang/StringUTF16", "checkIndex", "(I[B)V"⟩ : Cond) ∈ gw := gw_of (tb_2 _ (List.mem_of_getElem? (i := 213) rfl)) rfl
theorem wd_557 : (.code ⟨"java/lang/StringUTF16", "checkIndex", "(I[B)V"⟩ prog_14_method_91_code 2 (Option.none : Option Jvm.ClassFile.FieldType) : Cond) ∈ gw := gw_of (tb_2 _ (List.mem_of_getElem? (i := 214) rfl)) rfl
theorem wd_558 : (.methodLink "java/lang/StringUTF16" 48 ⟨"java/lang/StringUTF16", "length", "([B)I"⟩ : Cond) ∈ gw := gw_of (tb_2 _ (List.mem_of_getElem? (i := 215) rfl)) rfl
theorem wd_559 : (.static ⟨"java/lang/StringUTF16", "length", "([B)I"⟩ : Cond) ∈ gw := gw_of (tb_2 _ (List.mem_of_getElem? (i := 216) rfl)) rfl
theorem wd_560 : (.code ⟨"java/lang/StringUTF16", "length", "([B)I"⟩ prog_14_method_6_code 1 (Option.some .int) : Cond) ∈ gw := gw_of (tb_2 _ (List.mem_of_getElem? (i := 217) rfl)) rfl
theorem wd_561 : (.methodLink "java/lang/StringUTF16" 414 ⟨"java/lang/String", "checkIndex", "(II)V"⟩ : Cond) ∈ gw := gw_of (tb_2 _ (List.mem_of_getElem? (i := 218) rfl)) rfl
theorem wd_562 : (.methodLink "java/lang/StringUTF16" 71 ⟨"java/lang/StringUTF16", "getChar", "([BI)C"⟩ : Cond) ∈ gw := gw_of (tb_2 _ (List.mem_of_getElem? (i := 219) rfl)) rfl
theorem wd_563 : (.static ⟨"java/lang/StringUTF16", "getChar", "([BI)C"⟩ : Cond) ∈ gw := gw_of (tb_2 _ (List.mem_of_getElem? (i := 220) rfl)) rfl
theorem wd_564 : (.code ⟨"java/lang/StringUTF16", "getChar", "([BI)C"⟩ prog_14_method_5_code 2 (Option.some .char) : Cond) ∈ gw := gw_of (tb_2 _ (List.mem_of_getElem? (i := 221) rfl)) rfl
theorem wd_565 : (.fieldLink "java/lang/StringUTF16" 44 "java/lang/StringUTF16" "$assertionsDisabled" "Z" : Cond) ∈ gw := gw_of (tb_2 _ (List.mem_of_getElem? (i := 222) rfl)) rfl
theorem wd_567 : (.fieldLink "java/lang/StringUTF16" 59 "java/lang/StringUTF16" "HI_BYTE_SHIFT" "I" : Cond) ∈ gw := gw_of (tb_2 _ (List.mem_of_getElem? (i := 224) rfl)) rfl
theorem wd_569 : (.fieldLink "java/lang/StringUTF16" 63 "java/lang/StringUTF16" "LO_BYTE_SHIFT" "I" : Cond) ∈ gw := gw_of (tb_2 _ (List.mem_of_getElem? (i := 226) rfl)) rfl
theorem wd_577 : (.methodLink "HouseHeirs$Text" 50 ⟨"HouseHeirs$Text", "numbersOf", "(I)I"⟩ : Cond) ∈ gw := gw_of (tb_2 _ (List.mem_of_getElem? (i := 234) rfl)) rfl
theorem wd_578 : (.static ⟨"HouseHeirs$Text", "numbersOf", "(I)I"⟩ : Cond) ∈ gw := gw_of (tb_2 _ (List.mem_of_getElem? (i := 235) rfl)) rfl
theorem wd_579 : (.code ⟨"HouseHeirs$Text", "numbersOf", "(I)I"⟩ prog_7_method_5_code 1 (Option.some .int) : Cond) ∈ gw := gw_of (tb_2 _ (List.mem_of_getElem? (i := 236) rfl)) rfl
theorem wd_580 : (.methodLink "HouseHeirs$Text" 54 ⟨"HouseHeirs$Text", "tokenNumber", "()I"⟩ : Cond) ∈ gw := gw_of (tb_2 _ (List.mem_of_getElem? (i := 237) rfl)) rfl
theorem wd_582 : (.instanceMethod ⟨"HouseHeirs$Text", "tokenNumber", "()I"⟩ : Cond) ∈ gw := gw_of (tb_2 _ (List.mem_of_getElem? (i := 239) rfl)) rfl
theorem wd_583 : (.code ⟨"HouseHeirs$Text", "tokenNumber", "()I"⟩ prog_7_method_10_code 3 (Option.some .int) : Cond) ∈ gw := gw_of (tb_3 _ (List.mem_of_getElem? (i := 0) rfl)) rfl
theorem nw_584 : (.methodLinkNest "HouseHeirs" 124 ⟨"HouseHeirs$Text", "tellTo", "(LHouseHeirs$Street;)I"⟩ "HouseHeirs" : Cond) ∈ nestW := nest_of (tb_3 _ (List.mem_of_getElem? (i := 1) rfl)) rfl
theorem wd_586 : (.instanceMethod ⟨"HouseHeirs$Text", "tellTo", "(LHouseHeirs$Street;)I"⟩ : Cond) ∈ gw := gw_of (tb_3 _ (List.mem_of_getElem? (i := 3) rfl)) rfl
theorem wd_587 : (.code ⟨"HouseHeirs$Text", "tellTo", "(LHouseHeirs$Street;)I"⟩ prog_7_method_13_code 4 (Option.some .int) : Cond) ∈ gw := gw_of (tb_3 _ (List.mem_of_getElem? (i := 4) rfl)) rfl
theorem nw_588 : (.methodLinkNest "HouseHeirs$Text" 93 ⟨"HouseHeirs$Street", "empty", "()V"⟩ "HouseHeirs" : Cond) ∈ nestW := nest_of (tb_3 _ (List.mem_of_getElem? (i := 5) rfl)) rfl
theorem wd_589 : (.methodLink "HouseHeirs$Text" 98 ⟨"HouseHeirs$Text", "tellItem", "(LHouseHeirs$Street;IIII)I"⟩ : Cond) ∈ gw := gw_of (tb_3 _ (List.mem_of_getElem? (i := 6) rfl)) rfl
theorem wd_590 : (.static ⟨"HouseHeirs$Text", "tellItem", "(LHouseHeirs$Street;IIII)I"⟩ : Cond) ∈ gw := gw_of (tb_3 _ (List.mem_of_getElem? (i := 7) rfl)) rfl
theorem wd_591 : (.code ⟨"HouseHeirs$Text", "tellItem", "(LHouseHeirs$Street;IIII)I"⟩ prog_7_method_14_code 5 (Option.some .int) : Cond) ∈ gw := gw_of (tb_3 _ (List.mem_of_getElem? (i := 8) rfl)) rfl
theorem nw_592 : (.methodLinkNest "HouseHeirs$Text" 102 ⟨"HouseHeirs$Street", "addHouse", "(III)I"⟩ "HouseHeirs" : Cond) ∈ nestW := nest_of (tb_3 _ (List.mem_of_getElem? (i := 9) rfl)) rfl
theorem nw_593 : (.methodLinkNest "HouseHeirs$Text" 106 ⟨"HouseHeirs$Street", "setFrom", "(II)I"⟩ "HouseHeirs" : Cond) ∈ nestW := nest_of (tb_3 _ (List.mem_of_getElem? (i := 10) rfl)) rfl
theorem nw_594 : (.methodLinkNest "HouseHeirs$Text" 110 ⟨"HouseHeirs$Street", "setWill", "(II)I"⟩ "HouseHeirs" : Cond) ∈ nestW := nest_of (tb_3 _ (List.mem_of_getElem? (i := 11) rfl)) rfl
theorem nw_595 : (.methodLinkNest "HouseHeirs$Text" 113 ⟨"HouseHeirs$Street", "setWall", "(IIZ)I"⟩ "HouseHeirs" : Cond) ∈ nestW := nest_of (tb_3 _ (List.mem_of_getElem? (i := 12) rfl)) rfl
theorem nw_596 : (.methodLinkNest "HouseHeirs$Text" 117 ⟨"HouseHeirs$Street", "addOne", "(II)I"⟩ "HouseHeirs" : Cond) ∈ nestW := nest_of (tb_3 _ (List.mem_of_getElem? (i := 13) rfl)) rfl
theorem nw_597 : (.methodLinkNest "HouseHeirs$Text" 120 ⟨"HouseHeirs$Street", "setFeud", "(IIZ)I"⟩ "HouseHeirs" : Cond) ∈ nestW := nest_of (tb_3 _ (List.mem_of_getElem? (i := 14) rfl)) rfl
theorem nw_598 : (.methodLinkNest "HouseHeirs" 128 ⟨"HouseHeirs$Street", "takeFrom", "(LHouseHeirs$Street;)V"⟩ "HouseHeirs" : Cond) ∈ nestW := nest_of (tb_3 _ (List.mem_of_getElem? (i := 15) rfl)) rfl
theorem wd_600 : (.instanceMethod ⟨"HouseHeirs$Street", "takeFrom", "(LHouseHeirs$Street;)V"⟩ : Cond) ∈ gw := gw_of (tb_3 _ (List.mem_of_getElem? (i := 17) rfl)) rfl
theorem wd_601 : (.code ⟨"HouseHeirs$Street", "takeFrom", "(LHouseHeirs$Street;)V"⟩ prog_6_method_3_code 2 (Option.none : Option Jvm.ClassFile.FieldType) : Cond) ∈ gw := gw_of (tb_3 _ (List.mem_of_getElem? (i := 18) rfl)) rfl
theorem nw_602 : (.methodLinkNest "HouseHeirs$Street" 64 ⟨"HouseHeirs", "copyRow", "([I[I)V"⟩ "HouseHeirs" : Cond) ∈ nestW := nest_of (tb_3 _ (List.mem_of_getElem? (i := 19) rfl)) rfl
theorem wd_603 : (.static ⟨"HouseHeirs", "copyRow", "([I[I)V"⟩ : Cond) ∈ gw := gw_of (tb_3 _ (List.mem_of_getElem? (i := 20) rfl)) rfl
theorem wd_604 : (.code ⟨"HouseHeirs", "copyRow", "([I[I)V"⟩ prog_1_method_52_code 3 (Option.none : Option Jvm.ClassFile.FieldType) : Cond) ∈ gw := gw_of (tb_3 _ (List.mem_of_getElem? (i := 21) rfl)) rfl
theorem wd_605 : (.methodLink "HouseHeirs" 322 ⟨"java/lang/Math", "min", "(II)I"⟩ : Cond) ∈ gw := gw_of (tb_3 _ (List.mem_of_getElem? (i := 22) rfl)) rfl
theorem wd_606 : (.static ⟨"java/lang/Math", "min", "(II)I"⟩ : Cond) ∈ gw := gw_of (tb_3 _ (List.mem_of_getElem? (i := 23) rfl)) rfl
theorem wd_607 : (.code ⟨"java/lang/Math", "min", "(II)I"⟩ prog_11_method_69_code 2 (Option.some .int) : Cond) ∈ gw := gw_of (tb_3 _ (List.mem_of_getElem? (i := 24) rfl)) rfl
theorem wd_608 : (.methodLink "HouseHeirs" 325 ⟨"java/lang/System", "arraycopy", "(Ljava/lang/Object;ILjava/lang/Object;II)V"⟩ : Cond) ∈ gw := gw_of (tb_3 _ (List.mem_of_getElem? (i := 25) rfl)) rfl
theorem wd_609 : (.static ⟨"java/lang/System", "arraycopy", "(Ljava/lang/Object;ILjava/lang/Object;II)V"⟩ : Cond) ∈ gw := gw_of (tb_3 _ (List.mem_of_getElem? (i := 26) rfl)) rfl
theorem wd_610 : (.native ⟨"java/lang/System", "arraycopy", "(Ljava/lang/Object;ILjava/lang/Object;II)V"⟩ : Cond) ∈ gw := gw_of (tb_3 _ (List.mem_of_getElem? (i := 27) rfl)) rfl
theorem wd_611 : (.arrayClass .byte : Cond) ∈ gw := gw_of (tb_3 _ (List.mem_of_getElem? (i := 28) rfl)) rfl
theorem wd_612 : (.methodLink "HouseHeirsLaw" 62 ⟨"HouseHeirs", "fall", "(I)I"⟩ : Cond) ∈ gw := gw_of (tb_3 _ (List.mem_of_getElem? (i := 29) rfl)) rfl
theorem wd_613 : (.instanceMethod ⟨"HouseHeirs", "fall", "(I)I"⟩ : Cond) ∈ gw := gw_of (tb_3 _ (List.mem_of_getElem? (i := 30) rfl)) rfl
theorem wd_614 : (.selects "HouseHeirs" ⟨"HouseHeirs", "fall", "(I)I"⟩ ⟨"HouseHeirs", "fall", "(I)I"⟩ : Cond) ∈ gw := gw_of (tb_3 _ (List.mem_of_getElem? (i := 31) rfl)) rfl
theorem wd_615 : (.code ⟨"HouseHeirs", "fall", "(I)I"⟩ prog_1_method_13_code 2 (Option.some .int) : Cond) ∈ gw := gw_of (tb_3 _ (List.mem_of_getElem? (i := 32) rfl)) rfl
theorem nw_616 : (.methodLinkNest "HouseHeirs" 135 ⟨"HouseHeirs$Street", "has", "(I)Z"⟩ "HouseHeirs" : Cond) ∈ nestW := nest_of (tb_3 _ (List.mem_of_getElem? (i := 33) rfl)) rfl
theorem nw_617 : (.methodLinkNest "HouseHeirs" 139 ⟨"HouseHeirs$Street", "stands", "(I)Z"⟩ "HouseHeirs" : Cond) ∈ nestW := nest_of (tb_3 _ (List.mem_of_getElem? (i := 34) rfl)) rfl
theorem nw_618 : (.methodLinkNest "HouseHeirs" 142 ⟨"HouseHeirs$Past", "keep", "(LHouseHeirs$Street;)V"⟩ "HouseHeirs" : Cond) ∈ nestW := nest_of (tb_3 _ (List.mem_of_getElem? (i := 35) rfl)) rfl
theorem wd_620 : (.instanceMethod ⟨"HouseHeirs$Past", "keep", "(LHouseHeirs$Street;)V"⟩ : Cond) ∈ gw := gw_of (tb_3 _ (List.mem_of_getElem? (i := 37) rfl)) rfl
theorem wd_621 : (.code ⟨"HouseHeirs$Past", "keep", "(LHouseHeirs$Street;)V"⟩ prog_5_method_3_code 3 (Option.none : Option Jvm.ClassFile.FieldType) : Cond) ∈ gw := gw_of (tb_3 _ (List.mem_of_getElem? (i := 38) rfl)) rfl
theorem wd_622 : (.methodLink "HouseHeirs$Past" 33 ⟨"java/lang/Math", "floorMod", "(II)I"⟩ : Cond) ∈ gw := gw_of (tb_3 _ (List.mem_of_getElem? (i := 39) rfl)) rfl
theorem wd_623 : (.static ⟨"java/lang/Math", "floorMod", "(II)I"⟩ : Cond) ∈ gw := gw_of (tb_3 _ (List.mem_of_getElem? (i := 40) rfl)) rfl
theorem wd_624 : (.code ⟨"java/lang/Math", "floorMod", "(II)I"⟩ prog_11_method_50_code 3 (Option.some .int) : Cond) ∈ gw := gw_of (tb_3 _ (List.mem_of_getElem? (i := 41) rfl)) rfl
theorem nw_625 : (.methodLinkNest "HouseHeirs$Past" 47 ⟨"HouseHeirs", "copyRow", "([I[I)V"⟩ "HouseHeirs" : Cond) ∈ nestW := nest_of (tb_3 _ (List.mem_of_getElem? (i := 42) rfl)) rfl
theorem wd_626 : (.methodLink "HouseHeirs$Past" 53 ⟨"java/lang/Math", "min", "(II)I"⟩ : Cond) ∈ gw := gw_of (tb_3 _ (List.mem_of_getElem? (i := 43) rfl)) rfl
theorem nw_627 : (.methodLinkNest "HouseHeirs" 145 ⟨"HouseHeirs$Street", "letFall", "(I)I"⟩ "HouseHeirs" : Cond) ∈ nestW := nest_of (tb_3 _ (List.mem_of_getElem? (i := 44) rfl)) rfl
theorem wd_629 : (.instanceMethod ⟨"HouseHeirs$Street", "letFall", "(I)I"⟩ : Cond) ∈ gw := gw_of (tb_3 _ (List.mem_of_getElem? (i := 46) rfl)) rfl
theorem wd_630 : (.code ⟨"HouseHeirs$Street", "letFall", "(I)I"⟩ prog_6_method_36_code 4 (Option.some .int) : Cond) ∈ gw := gw_of (tb_3 _ (List.mem_of_getElem? (i := 47) rfl)) rfl
theorem wd_631 : (.methodLink "HouseHeirs$Street" 114 ⟨"HouseHeirs$Street", "heirBy", "(III)I"⟩ : Cond) ∈ gw := gw_of (tb_3 _ (List.mem_of_getElem? (i := 48) rfl)) rfl
theorem wd_633 : (.instanceMethod ⟨"HouseHeirs$Street", "heirBy", "(III)I"⟩ : Cond) ∈ gw := gw_of (tb_3 _ (List.mem_of_getElem? (i := 50) rfl)) rfl
theorem wd_634 : (.code ⟨"HouseHeirs$Street", "heirBy", "(III)I"⟩ prog_6_method_33_code 8 (Option.some .int) : Cond) ∈ gw := gw_of (tb_3 _ (List.mem_of_getElem? (i := 51) rfl)) rfl
theorem wd_635 : (.methodLink "HouseHeirs$Street" 100 ⟨"HouseHeirs$Street", "measureSteps", "(I)V"⟩ : Cond) ∈ gw := gw_of (tb_3 _ (List.mem_of_getElem? (i := 52) rfl)) rfl
theorem wd_637 : (.instanceMethod ⟨"HouseHeirs$Street", "measureSteps", "(I)V"⟩ : Cond) ∈ gw := gw_of (tb_3 _ (List.mem_of_getElem? (i := 54) rfl)) rfl
theorem wd_638 : (.code ⟨"HouseHeirs$Street", "measureSteps", "(I)V"⟩ prog_6_method_26_code 7 (Option.none : Option Jvm.ClassFile.FieldType) : Cond) ∈ gw := gw_of (tb_3 _ (List.mem_of_getElem? (i := 55) rfl)) rfl
theorem wd_639 : (.methodLink "HouseHeirs$Street" 97 ⟨"HouseHeirs$Street", "kinBits", "(I)I"⟩ : Cond) ∈ gw := gw_of (tb_3 _ (List.mem_of_getElem? (i := 56) rfl)) rfl
theorem wd_641 : (.instanceMethod ⟨"HouseHeirs$Street", "kinBits", "(I)I"⟩ : Cond) ∈ gw := gw_of (tb_3 _ (List.mem_of_getElem? (i := 58) rfl)) rfl
theorem wd_642 : (.code ⟨"HouseHeirs$Street", "kinBits", "(I)I"⟩ prog_6_method_25_code 4 (Option.some .int) : Cond) ∈ gw := gw_of (tb_3 _ (List.mem_of_getElem? (i := 59) rfl)) rfl
theorem wd_643 : (.methodLink "HouseHeirs$Street" 104 ⟨"HouseHeirs$Street", "measureDwellers", "()V"⟩ : Cond) ∈ gw := gw_of (tb_3 _ (List.mem_of_getElem? (i := 60) rfl)) rfl
theorem wd_645 : (.instanceMethod ⟨"HouseHeirs$Street", "measureDwellers", "()V"⟩ : Cond) ∈ gw := gw_of (tb_3 _ (List.mem_of_getElem? (i := 62) rfl)) rfl
theorem wd_646 : (.code ⟨"HouseHeirs$Street", "measureDwellers", "()V"⟩ prog_6_method_27_code 3 (Option.none : Option Jvm.ClassFile.FieldType) : Cond) ∈ gw := gw_of (tb_3 _ (List.mem_of_getElem? (i := 63) rfl)) rfl
theorem wd_647 : (.methodLink "HouseHeirs$Street" 107 ⟨"HouseHeirs$Street", "measuredRank", "(III)I"⟩ : Cond) ∈ gw := gw_of (tb_3 _ (List.mem_of_getElem? (i := 64) rfl)) rfl
theorem wd_649 : (.instanceMethod ⟨"HouseHeirs$Street", "measuredRank", "(III)I"⟩ : Cond) ∈ gw := gw_of (tb_3 _ (List.mem_of_getElem? (i := 66) rfl)) rfl
theorem wd_650 : (.code ⟨"HouseHeirs$Street", "measuredRank", "(III)I"⟩ prog_6_method_30_code 7 (Option.some .int) : Cond) ∈ gw := gw_of (tb_3 _ (List.mem_of_getElem? (i := 67) rfl)) rfl
theorem wd_651 : (.methodLink "HouseHeirs$Street" 111 ⟨"HouseHeirs$Street", "isQuiet", "(II)Z"⟩ : Cond) ∈ gw := gw_of (tb_3 _ (List.mem_of_getElem? (i := 68) rfl)) rfl
theorem wd_653 : (.instanceMethod ⟨"HouseHeirs$Street", "isQuiet", "(II)Z"⟩ : Cond) ∈ gw := gw_of (tb_3 _ (List.mem_of_getElem? (i := 70) rfl)) rfl
theorem wd_654 : (.code ⟨"HouseHeirs$Street", "isQuiet", "(II)Z"⟩ prog_6_method_31_code 4 (Option.some .boolean) : Cond) ∈ gw := gw_of (tb_3 _ (List.mem_of_getElem? (i := 71) rfl)) rfl
theorem wd_655 : (.methodLink "HouseHeirsLaw" 66 ⟨"HouseHeirs", "year", "(I)I"⟩ : Cond) ∈ gw := gw_of (tb_3 _ (List.mem_of_getElem? (i := 72) rfl)) rfl
theorem wd_656 : (.instanceMethod ⟨"HouseHeirs", "year", "(I)I"⟩ : Cond) ∈ gw := gw_of (tb_3 _ (List.mem_of_getElem? (i := 73) rfl)) rfl
theorem wd_657 : (.selects "HouseHeirs" ⟨"HouseHeirs", "year", "(I)I"⟩ ⟨"HouseHeirs", "year", "(I)I"⟩ : Cond) ∈ gw := gw_of (tb_3 _ (List.mem_of_getElem? (i := 74) rfl)) rfl
theorem wd_658 : (.code ⟨"HouseHeirs", "year", "(I)I"⟩ prog_1_method_14_code 3 (Option.some .int) : Cond) ∈ gw := gw_of (tb_3 _ (List.mem_of_getElem? (i := 75) rfl)) rfl
theorem nw_659 : (.methodLinkNest "HouseHeirs" 148 ⟨"HouseHeirs$Street", "passYear", "()V"⟩ "HouseHeirs" : Cond) ∈ nestW := nest_of (tb_3 _ (List.mem_of_getElem? (i := 76) rfl)) rfl
theorem wd_661 : (.instanceMethod ⟨"HouseHeirs$Street", "passYear", "()V"⟩ : Cond) ∈ gw := gw_of (tb_3 _ (List.mem_of_getElem? (i := 78) rfl)) rfl
theorem wd_662 : (.code ⟨"HouseHeirs$Street", "passYear", "()V"⟩ prog_6_method_37_code 2 (Option.none : Option Jvm.ClassFile.FieldType) : Cond) ∈ gw := gw_of (tb_3 _ (List.mem_of_getElem? (i := 79) rfl)) rfl
theorem wd_663 : (.methodLink "HouseHeirs$Street" 89 ⟨"HouseHeirs$Street", "isOverfull", "(I)Z"⟩ : Cond) ∈ gw := gw_of (tb_3 _ (List.mem_of_getElem? (i := 80) rfl)) rfl
theorem wd_665 : (.instanceMethod ⟨"HouseHeirs$Street", "isOverfull", "(I)Z"⟩ : Cond) ∈ gw := gw_of (tb_3 _ (List.mem_of_getElem? (i := 82) rfl)) rfl
theorem wd_666 : (.code ⟨"HouseHeirs$Street", "isOverfull", "(I)Z"⟩ prog_6_method_20_code 2 (Option.some .boolean) : Cond) ∈ gw := gw_of (tb_3 _ (List.mem_of_getElem? (i := 83) rfl)) rfl
theorem wd_667 : (.methodLink "HouseHeirs$Street" 85 ⟨"HouseHeirs$Street", "dwellers", "(I)I"⟩ : Cond) ∈ gw := gw_of (tb_3 _ (List.mem_of_getElem? (i := 84) rfl)) rfl
theorem wd_669 : (.instanceMethod ⟨"HouseHeirs$Street", "dwellers", "(I)I"⟩ : Cond) ∈ gw := gw_of (tb_3 _ (List.mem_of_getElem? (i := 86) rfl)) rfl
theorem wd_670 : (.code ⟨"HouseHeirs$Street", "dwellers", "(I)I"⟩ prog_6_method_18_code 4 (Option.some .int) : Cond) ∈ gw := gw_of (tb_3 _ (List.mem_of_getElem? (i := 87) rfl)) rfl
theorem wd_671 : (.methodLink "HouseHeirs$Street" 117 ⟨"HouseHeirs$Street", "letFall", "(I)I"⟩ : Cond) ∈ gw := gw_of (tb_3 _ (List.mem_of_getElem? (i := 88) rfl)) rfl
theorem wd_672 : (.methodLink "HouseHeirs" 154 ⟨"java/lang/Integer", "bitCount", "(I)I"⟩ : Cond) ∈ gw := gw_of (tb_3 _ (List.mem_of_getElem? (i := 89) rfl)) rfl
theorem wd_673 : (.static ⟨"java/lang/Integer", "bitCount", "(I)I"⟩ : Cond) ∈ gw := gw_of (tb_3 _ (List.mem_of_getElem? (i := 90) rfl)) rfl
theorem wd_674 : (.code ⟨"java/lang/Integer", "bitCount", "(I)I"⟩ prog_10_method_49_code 1 (Option.some .int) : Cond) ∈ gw := gw_of (tb_3 _ (List.mem_of_getElem? (i := 91) rfl)) rfl
theorem wd_675 : (.constant "java/lang/Integer" 265 (1431655765 : Int32) : Cond) ∈ gw := gw_of (tb_3 _ (List.mem_of_getElem? (i := 92) rfl)) rfl
theorem wd_676 : (.constant "java/lang/Integer" 266 (858993459 : Int32) : Cond) ∈ gw := gw_of (tb_3 _ (List.mem_of_getElem? (i := 93) rfl)) rfl
theorem wd_677 : (.constant "java/lang/Integer" 267 (252645135 : Int32) : Cond) ∈ gw := gw_of (tb_3 _ (List.mem_of_getElem? (i := 94) rfl)) rfl
theorem wd_678 : (.methodLink "HouseHeirsLaw" 70 ⟨"HouseHeirs", "move", "(II)I"⟩ : Cond) ∈ gw := gw_of (tb_3 _ (List.mem_of_getElem? (i := 95) rfl)) rfl
theorem wd_679 : (.instanceMethod ⟨"HouseHeirs", "move", "(II)I"⟩ : Cond) ∈ gw := gw_of (tb_3 _ (List.mem_of_getElem? (i := 96) rfl)) rfl
theorem wd_680 : (.selects "HouseHeirs" ⟨"HouseHeirs", "move", "(II)I"⟩ ⟨"HouseHeirs", "move", "(II)I"⟩ : Cond) ∈ gw := gw_of (tb_3 _ (List.mem_of_getElem? (i := 97) rfl)) rfl
theorem wd_681 : (.code ⟨"HouseHeirs", "move", "(II)I"⟩ prog_1_method_15_code 4 (Option.some .int) : Cond) ∈ gw := gw_of (tb_3 _ (List.mem_of_getElem? (i := 98) rfl)) rfl
theorem nw_682 : (.methodLinkNest "HouseHeirs" 159 ⟨"HouseHeirs$Street", "hasOne", "(I)Z"⟩ "HouseHeirs" : Cond) ∈ nestW := nest_of (tb_3 _ (List.mem_of_getElem? (i := 99) rfl)) rfl
theorem wd_684 : (.instanceMethod ⟨"HouseHeirs$Street", "hasOne", "(I)Z"⟩ : Cond) ∈ gw := gw_of (tb_3 _ (List.mem_of_getElem? (i := 101) rfl)) rfl
theorem wd_685 : (.code ⟨"HouseHeirs$Street", "hasOne", "(I)Z"⟩ prog_6_method_13_code 2 (Option.some .boolean) : Cond) ∈ gw := gw_of (tb_3 _ (List.mem_of_getElem? (i := 102) rfl)) rfl
theorem wd_686 : (.methodLink "HouseHeirsLaw" 74 ⟨"HouseHeirs", "undo", "()I"⟩ : Cond) ∈ gw := gw_of (tb_3 _ (List.mem_of_getElem? (i := 103) rfl)) rfl
theorem wd_687 : (.instanceMethod ⟨"HouseHeirs", "undo", "()I"⟩ : Cond) ∈ gw := gw_of (tb_3 _ (List.mem_of_getElem? (i := 104) rfl)) rfl
theorem wd_688 : (.selects "HouseHeirs" ⟨"HouseHeirs", "undo", "()I"⟩ ⟨"HouseHeirs", "undo", "()I"⟩ : Cond) ∈ gw := gw_of (tb_3 _ (List.mem_of_getElem? (i := 105) rfl)) rfl
theorem wd_689 : (.code ⟨"HouseHeirs", "undo", "()I"⟩ prog_1_method_16_code 1 (Option.some .int) : Cond) ∈ gw := gw_of (tb_3 _ (List.mem_of_getElem? (i := 106) rfl)) rfl
theorem nw_690 : (.methodLinkNest "HouseHeirs" 169 ⟨"HouseHeirs$Past", "bringBack", "(LHouseHeirs$Street;)V"⟩ "HouseHeirs" : Cond) ∈ nestW := nest_of (tb_3 _ (List.mem_of_getElem? (i := 107) rfl)) rfl
theorem wd_692 : (.instanceMethod ⟨"HouseHeirs$Past", "bringBack", "(LHouseHeirs$Street;)V"⟩ : Cond) ∈ gw := gw_of (tb_3 _ (List.mem_of_getElem? (i := 109) rfl)) rfl
theorem wd_693 : (.code ⟨"HouseHeirs$Past", "bringBack", "(LHouseHeirs$Street;)V"⟩ prog_5_method_4_code 3 (Option.none : Option Jvm.ClassFile.FieldType) : Cond) ∈ gw := gw_of (tb_3 _ (List.mem_of_getElem? (i := 110) rfl)) rfl
theorem wd_694 : (.methodLink "HouseHeirsLaw" 78 ⟨"HouseHeirs", "of", "(II)I"⟩ : Cond) ∈ gw := gw_of (tb_3 _ (List.mem_of_getElem? (i := 111) rfl)) rfl
theorem wd_695 : (.instanceMethod ⟨"HouseHeirs", "of", "(II)I"⟩ : Cond) ∈ gw := gw_of (tb_3 _ (List.mem_of_getElem? (i := 112) rfl)) rfl
theorem wd_696 : (.selects "HouseHeirs" ⟨"HouseHeirs", "of", "(II)I"⟩ ⟨"HouseHeirs", "of", "(II)I"⟩ : Cond) ∈ gw := gw_of (tb_3 _ (List.mem_of_getElem? (i := 113) rfl)) rfl
theorem wd_697 : (.code ⟨"HouseHeirs", "of", "(II)I"⟩ prog_1_method_17_code 3 (Option.some .int) : Cond) ∈ gw := gw_of (tb_3 _ (List.mem_of_getElem? (i := 114) rfl)) rfl
theorem nw_698 : (.methodLinkNest "HouseHeirs" 187 ⟨"HouseHeirs$Street", "dwellerBits", "(I)I"⟩ "HouseHeirs" : Cond) ∈ nestW := nest_of (tb_3 _ (List.mem_of_getElem? (i := 115) rfl)) rfl
theorem wd_700 : (.instanceMethod ⟨"HouseHeirs$Street", "dwellerBits", "(I)I"⟩ : Cond) ∈ gw := gw_of (tb_3 _ (List.mem_of_getElem? (i := 117) rfl)) rfl
theorem wd_701 : (.code ⟨"HouseHeirs$Street", "dwellerBits", "(I)I"⟩ prog_6_method_19_code 4 (Option.some .int) : Cond) ∈ gw := gw_of (tb_3 _ (List.mem_of_getElem? (i := 118) rfl)) rfl
theorem wd_702 : (.methodLink "HouseHeirsLaw" 82 ⟨"HouseHeirs", "who", "(II)I"⟩ : Cond) ∈ gw := gw_of (tb_3 _ (List.mem_of_getElem? (i := 119) rfl)) rfl
theorem wd_703 : (.instanceMethod ⟨"HouseHeirs", "who", "(II)I"⟩ : Cond) ∈ gw := gw_of (tb_3 _ (List.mem_of_getElem? (i := 120) rfl)) rfl
theorem wd_704 : (.selects "HouseHeirs" ⟨"HouseHeirs", "who", "(II)I"⟩ ⟨"HouseHeirs", "who", "(II)I"⟩ : Cond) ∈ gw := gw_of (tb_3 _ (List.mem_of_getElem? (i := 121) rfl)) rfl
theorem wd_705 : (.code ⟨"HouseHeirs", "who", "(II)I"⟩ prog_1_method_18_code 3 (Option.some .int) : Cond) ∈ gw := gw_of (tb_3 _ (List.mem_of_getElem? (i := 122) rfl)) rfl
theorem wd_706 : (.methodLink "HouseHeirsLaw" 86 ⟨"HouseHeirs", "degree", "(II)I"⟩ : Cond) ∈ gw := gw_of (tb_3 _ (List.mem_of_getElem? (i := 123) rfl)) rfl
theorem wd_707 : (.instanceMethod ⟨"HouseHeirs", "degree", "(II)I"⟩ : Cond) ∈ gw := gw_of (tb_3 _ (List.mem_of_getElem? (i := 124) rfl)) rfl
theorem wd_708 : (.selects "HouseHeirs" ⟨"HouseHeirs", "degree", "(II)I"⟩ ⟨"HouseHeirs", "degree", "(II)I"⟩ : Cond) ∈ gw := gw_of (tb_3 _ (List.mem_of_getElem? (i := 125) rfl)) rfl
theorem wd_709 : (.code ⟨"HouseHeirs", "degree", "(II)I"⟩ prog_1_method_19_code 3 (Option.some .int) : Cond) ∈ gw := gw_of (tb_3 _ (List.mem_of_getElem? (i := 126) rfl)) rfl
theorem nw_710 : (.methodLinkNest "HouseHeirs" 196 ⟨"HouseHeirs$Street", "degreeOf", "(II)I"⟩ "HouseHeirs" : Cond) ∈ nestW := nest_of (tb_3 _ (List.mem_of_getElem? (i := 127) rfl)) rfl
theorem wd_712 : (.instanceMethod ⟨"HouseHeirs$Street", "degreeOf", "(II)I"⟩ : Cond) ∈ gw := gw_of (tb_3 _ (List.mem_of_getElem? (i := 129) rfl)) rfl
theorem wd_713 : (.code ⟨"HouseHeirs$Street", "degreeOf", "(II)I"⟩ prog_6_method_28_code 3 (Option.some .int) : Cond) ∈ gw := gw_of (tb_3 _ (List.mem_of_getElem? (i := 130) rfl)) rfl
theorem wd_714 : (.methodLink "HouseHeirsLaw" 90 ⟨"HouseHeirs", "rank", "(II)I"⟩ : Cond) ∈ gw := gw_of (tb_3 _ (List.mem_of_getElem? (i := 131) rfl)) rfl
theorem wd_715 : (.instanceMethod ⟨"HouseHeirs", "rank", "(II)I"⟩ : Cond) ∈ gw := gw_of (tb_3 _ (List.mem_of_getElem? (i := 132) rfl)) rfl
theorem wd_716 : (.selects "HouseHeirs" ⟨"HouseHeirs", "rank", "(II)I"⟩ ⟨"HouseHeirs", "rank", "(II)I"⟩ : Cond) ∈ gw := gw_of (tb_3 _ (List.mem_of_getElem? (i := 133) rfl)) rfl
theorem wd_717 : (.code ⟨"HouseHeirs", "rank", "(II)I"⟩ prog_1_method_20_code 3 (Option.some .int) : Cond) ∈ gw := gw_of (tb_3 _ (List.mem_of_getElem? (i := 134) rfl)) rfl
theorem nw_718 : (.methodLinkNest "HouseHeirs" 199 ⟨"HouseHeirs$Street", "hasTwo", "(II)Z"⟩ "HouseHeirs" : Cond) ∈ nestW := nest_of (tb_3 _ (List.mem_of_getElem? (i := 135) rfl)) rfl
theorem nw_719 : (.methodLinkNest "HouseHeirs" 203 ⟨"HouseHeirs$Street", "rankOf", "(II)I"⟩ "HouseHeirs" : Cond) ∈ nestW := nest_of (tb_3 _ (List.mem_of_getElem? (i := 136) rfl)) rfl
theorem wd_721 : (.instanceMethod ⟨"HouseHeirs$Street", "rankOf", "(II)I"⟩ : Cond) ∈ gw := gw_of (tb_3 _ (List.mem_of_getElem? (i := 138) rfl)) rfl
theorem wd_722 : (.code ⟨"HouseHeirs$Street", "rankOf", "(II)I"⟩ prog_6_method_29_code 3 (Option.some .int) : Cond) ∈ gw := gw_of (tb_3 _ (List.mem_of_getElem? (i := 139) rfl)) rfl
theorem wd_723 : (.methodLink "HouseHeirsLaw" 94 ⟨"HouseHeirs", "heir", "(I)I"⟩ : Cond) ∈ gw := gw_of (tb_3 _ (List.mem_of_getElem? (i := 140) rfl)) rfl
theorem wd_724 : (.instanceMethod ⟨"HouseHeirs", "heir", "(I)I"⟩ : Cond) ∈ gw := gw_of (tb_3 _ (List.mem_of_getElem? (i := 141) rfl)) rfl
theorem wd_725 : (.selects "HouseHeirs" ⟨"HouseHeirs", "heir", "(I)I"⟩ ⟨"HouseHeirs", "heir", "(I)I"⟩ : Cond) ∈ gw := gw_of (tb_3 _ (List.mem_of_getElem? (i := 142) rfl)) rfl
theorem wd_726 : (.code ⟨"HouseHeirs", "heir", "(I)I"⟩ prog_1_method_21_code 2 (Option.some .int) : Cond) ∈ gw := gw_of (tb_3 _ (List.mem_of_getElem? (i := 143) rfl)) rfl
theorem nw_727 : (.methodLinkNest "HouseHeirs" 206 ⟨"HouseHeirs$Street", "heirOf", "(I)I"⟩ "HouseHeirs" : Cond) ∈ nestW := nest_of (tb_3 _ (List.mem_of_getElem? (i := 144) rfl)) rfl
theorem wd_729 : (.instanceMethod ⟨"HouseHeirs$Street", "heirOf", "(I)I"⟩ : Cond) ∈ gw := gw_of (tb_3 _ (List.mem_of_getElem? (i := 146) rfl)) rfl
theorem wd_730 : (.code ⟨"HouseHeirs$Street", "heirOf", "(I)I"⟩ prog_6_method_32_code 2 (Option.some .int) : Cond) ∈ gw := gw_of (tb_3 _ (List.mem_of_getElem? (i := 147) rfl)) rfl
theorem wd_731 : (.methodLink "HouseHeirsLaw" 98 ⟨"HouseHeirs", "wills", "(II)I"⟩ : Cond) ∈ gw := gw_of (tb_3 _ (List.mem_of_getElem? (i := 148) rfl)) rfl
theorem wd_732 : (.instanceMethod ⟨"HouseHeirs", "wills", "(II)I"⟩ : Cond) ∈ gw := gw_of (tb_3 _ (List.mem_of_getElem? (i := 149) rfl)) rfl
theorem wd_733 : (.selects "HouseHeirs" ⟨"HouseHeirs", "wills", "(II)I"⟩ ⟨"HouseHeirs", "wills", "(II)I"⟩ : Cond) ∈ gw := gw_of (tb_3 _ (List.mem_of_getElem? (i := 150) rfl)) rfl
theorem wd_734 : (.code ⟨"HouseHeirs", "wills", "(II)I"⟩ prog_1_method_22_code 5 (Option.some .int) : Cond) ∈ gw := gw_of (tb_3 _ (List.mem_of_getElem? (i := 151) rfl)) rfl
theorem nw_735 : (.methodLinkNest "HouseHeirs" 209 ⟨"HouseHeirs$Street", "heirBy", "(III)I"⟩ "HouseHeirs" : Cond) ∈ nestW := nest_of (tb_3 _ (List.mem_of_getElem? (i := 152) rfl)) rfl
theorem wd_736 : (.methodLink "HouseHeirsLaw" 102 ⟨"HouseHeirs", "buildFor", "(II)I"⟩ : Cond) ∈ gw := gw_of (tb_3 _ (List.mem_of_getElem? (i := 153) rfl)) rfl
theorem wd_737 : (.instanceMethod ⟨"HouseHeirs", "buildFor", "(II)I"⟩ : Cond) ∈ gw := gw_of (tb_3 _ (List.mem_of_getElem? (i := 154) rfl)) rfl
theorem wd_738 : (.selects "HouseHeirs" ⟨"HouseHeirs", "buildFor", "(II)I"⟩ ⟨"HouseHeirs", "buildFor", "(II)I"⟩ : Cond) ∈ gw := gw_of (tb_3 _ (List.mem_of_getElem? (i := 155) rfl)) rfl
theorem wd_739 : (.code ⟨"HouseHeirs", "buildFor", "(II)I"⟩ prog_1_method_23_code 5 (Option.some .int) : Cond) ∈ gw := gw_of (tb_3 _ (List.mem_of_getElem? (i := 156) rfl)) rfl
theorem nw_740 : (.methodLinkNest "HouseHeirs" 212 ⟨"HouseHeirs$Street", "mayWall", "(II)Z"⟩ "HouseHeirs" : Cond) ∈ nestW := nest_of (tb_3 _ (List.mem_of_getElem? (i := 157) rfl)) rfl
theorem wd_742 : (.instanceMethod ⟨"HouseHeirs$Street", "mayWall", "(II)Z"⟩ : Cond) ∈ gw := gw_of (tb_3 _ (List.mem_of_getElem? (i := 159) rfl)) rfl
theorem wd_743 : (.code ⟨"HouseHeirs$Street", "mayWall", "(II)Z"⟩ prog_6_method_16_code 3 (Option.some .boolean) : Cond) ∈ gw := gw_of (tb_3 _ (List.mem_of_getElem? (i := 160) rfl)) rfl
theorem wd_744 : (.methodLink "HouseHeirs" 215 ⟨"HouseHeirs", "heirByWall", "(III)I"⟩ : Cond) ∈ gw := gw_of (tb_3 _ (List.mem_of_getElem? (i := 161) rfl)) rfl
theorem wd_746 : (.instanceMethod ⟨"HouseHeirs", "heirByWall", "(III)I"⟩ : Cond) ∈ gw := gw_of (tb_3 _ (List.mem_of_getElem? (i := 163) rfl)) rfl
theorem wd_747 : (.code ⟨"HouseHeirs", "heirByWall", "(III)I"⟩ prog_1_method_47_code 5 (Option.some .int) : Cond) ∈ gw := gw_of (tb_3 _ (List.mem_of_getElem? (i := 164) rfl)) rfl
theorem wd_748 : (.methodLink "HouseHeirsLaw" 106 ⟨"HouseHeirs", "adopts", "(II)I"⟩ : Cond) ∈ gw := gw_of (tb_3 _ (List.mem_of_getElem? (i := 165) rfl)) rfl
theorem wd_749 : (.instanceMethod ⟨"HouseHeirs", "adopts", "(II)I"⟩ : Cond) ∈ gw := gw_of (tb_3 _ (List.mem_of_getElem? (i := 166) rfl)) rfl
theorem wd_750 : (.selects "HouseHeirs" ⟨"HouseHeirs", "adopts", "(II)I"⟩ ⟨"HouseHeirs", "adopts", "(II)I"⟩ : Cond) ∈ gw := gw_of (tb_3 _ (List.mem_of_getElem? (i := 167) rfl)) rfl
theorem wd_751 : (.code ⟨"HouseHeirs", "adopts", "(II)I"⟩ prog_1_method_24_code 5 (Option.some .int) : Cond) ∈ gw := gw_of (tb_3 _ (List.mem_of_getElem? (i := 168) rfl)) rfl
theorem wd_752 : (.methodLink "HouseHeirsLaw" 110 ⟨"HouseHeirs", "lives", "(II)I"⟩ : Cond) ∈ gw := gw_of (tb_3 _ (List.mem_of_getElem? (i := 169) rfl)) rfl
theorem wd_753 : (.instanceMethod ⟨"HouseHeirs", "lives", "(II)I"⟩ : Cond) ∈ gw := gw_of (tb_3 _ (List.mem_of_getElem? (i := 170) rfl)) rfl
theorem wd_754 : (.selects "HouseHeirs" ⟨"HouseHeirs", "lives", "(II)I"⟩ ⟨"HouseHeirs", "lives", "(II)I"⟩ : Cond) ∈ gw := gw_of (tb_3 _ (List.mem_of_getElem? (i := 171) rfl)) rfl
theorem wd_755 : (.code ⟨"HouseHeirs", "lives", "(II)I"⟩ prog_1_method_25_code 3 (Option.some .int) : Cond) ∈ gw := gw_of (tb_3 _ (List.mem_of_getElem? (i := 172) rfl)) rfl
theorem wd_756 : (.methodLink "HouseHeirs" 218 ⟨"HouseHeirs", "lookAhead", "(I)V"⟩ : Cond) ∈ gw := gw_of (tb_3 _ (List.mem_of_getElem? (i := 173) rfl)) rfl
theorem wd_758 : (.instanceMethod ⟨"HouseHeirs", "lookAhead", "(I)V"⟩ : Cond) ∈ gw := gw_of (tb_3 _ (List.mem_of_getElem? (i := 175) rfl)) rfl
theorem wd_759 : (.code ⟨"HouseHeirs", "lookAhead", "(I)V"⟩ prog_1_method_46_code 3 (Option.none : Option Jvm.ClassFile.FieldType) : Cond) ∈ gw := gw_of (tb_3 _ (List.mem_of_getElem? (i := 176) rfl)) rfl
theorem wd_760 : (.methodLink "HouseHeirsLaw" 114 ⟨"HouseHeirs", "stand", "(I)I"⟩ : Cond) ∈ gw := gw_of (tb_3 _ (List.mem_of_getElem? (i := 177) rfl)) rfl
theorem wd_761 : (.instanceMethod ⟨"HouseHeirs", "stand", "(I)I"⟩ : Cond) ∈ gw := gw_of (tb_3 _ (List.mem_of_getElem? (i := 178) rfl)) rfl
theorem wd_762 : (.selects "HouseHeirs" ⟨"HouseHeirs", "stand", "(I)I"⟩ ⟨"HouseHeirs", "stand", "(I)I"⟩ : Cond) ∈ gw := gw_of (tb_3 _ (List.mem_of_getElem? (i := 179) rfl)) rfl
theorem wd_763 : (.code ⟨"HouseHeirs", "stand", "(I)I"⟩ prog_1_method_26_code 2 (Option.some .int) : Cond) ∈ gw := gw_of (tb_3 _ (List.mem_of_getElem? (i := 180) rfl)) rfl
theorem wd_764 : (.methodLink "HouseHeirsLaw" 118 ⟨"HouseHeirs", "overfull", "(I)I"⟩ : Cond) ∈ gw := gw_of (tb_3 _ (List.mem_of_getElem? (i := 181) rfl)) rfl
theorem wd_765 : (.instanceMethod ⟨"HouseHeirs", "overfull", "(I)I"⟩ : Cond) ∈ gw := gw_of (tb_3 _ (List.mem_of_getElem? (i := 182) rfl)) rfl
theorem wd_766 : (.selects "HouseHeirs" ⟨"HouseHeirs", "overfull", "(I)I"⟩ ⟨"HouseHeirs", "overfull", "(I)I"⟩ : Cond) ∈ gw := gw_of (tb_3 _ (List.mem_of_getElem? (i := 183) rfl)) rfl
theorem wd_767 : (.code ⟨"HouseHeirs", "overfull", "(I)I"⟩ prog_1_method_27_code 4 (Option.some .int) : Cond) ∈ gw := gw_of (tb_3 _ (List.mem_of_getElem? (i := 184) rfl)) rfl
theorem nw_768 : (.methodLinkNest "HouseHeirs" 222 ⟨"HouseHeirs$Street", "firstOverfull", "()I"⟩ "HouseHeirs" : Cond) ∈ nestW := nest_of (tb_3 _ (List.mem_of_getElem? (i := 185) rfl)) rfl
theorem wd_770 : (.instanceMethod ⟨"HouseHeirs$Street", "firstOverfull", "()I"⟩ : Cond) ∈ gw := gw_of (tb_3 _ (List.mem_of_getElem? (i := 187) rfl)) rfl
theorem wd_771 : (.code ⟨"HouseHeirs$Street", "firstOverfull", "()I"⟩ prog_6_method_21_code 2 (Option.some .int) : Cond) ∈ gw := gw_of (tb_3 _ (List.mem_of_getElem? (i := 188) rfl)) rfl
theorem wd_772 : (.methodLink "HouseHeirsLaw" 122 ⟨"HouseHeirs", "orders", "(IIII)I"⟩ : Cond) ∈ gw := gw_of (tb_3 _ (List.mem_of_getElem? (i := 189) rfl)) rfl
theorem wd_773 : (.instanceMethod ⟨"HouseHeirs", "orders", "(IIII)I"⟩ : Cond) ∈ gw := gw_of (tb_3 _ (List.mem_of_getElem? (i := 190) rfl)) rfl
theorem wd_774 : (.selects "HouseHeirs" ⟨"HouseHeirs", "orders", "(IIII)I"⟩ ⟨"HouseHeirs", "orders", "(IIII)I"⟩ : Cond) ∈ gw := gw_of (tb_3 _ (List.mem_of_getElem? (i := 191) rfl)) rfl
theorem wd_775 : (.code ⟨"HouseHeirs", "orders", "(IIII)I"⟩ prog_1_method_28_code 6 (Option.some .int) : Cond) ∈ gw := gw_of (tb_3 _ (List.mem_of_getElem? (i := 192) rfl)) rfl
theorem nw_776 : (.methodLinkNest "HouseHeirs" 225 ⟨"HouseHeirs$Orders", "seek", "(LHouseHeirs$Street;III)V"⟩ "HouseHeirs" : Cond) ∈ nestW := nest_of (tb_3 _ (List.mem_of_getElem? (i := 193) rfl)) rfl
theorem wd_778 : (.instanceMethod ⟨"HouseHeirs$Orders", "seek", "(LHouseHeirs$Street;III)V"⟩ : Cond) ∈ gw := gw_of (tb_3 _ (List.mem_of_getElem? (i := 195) rfl)) rfl
theorem wd_779 : (.code ⟨"HouseHeirs$Orders", "seek", "(LHouseHeirs$Street;III)V"⟩ prog_4_method_2_code 5 (Option.none : Option Jvm.ClassFile.FieldType) : Cond) ∈ gw := gw_of (tb_3 _ (List.mem_of_getElem? (i := 196) rfl)) rfl
theorem nw_780 : (.methodLinkNest "HouseHeirs$Orders" 37 ⟨"HouseHeirs$Street", "takeFrom", "(LHouseHeirs$Street;)V"⟩ "HouseHeirs" : Cond) ∈ nestW := nest_of (tb_3 _ (List.mem_of_getElem? (i := 197) rfl)) rfl
theorem nw_781 : (.methodLinkNest "HouseHeirs$Orders" 41 ⟨"HouseHeirs$Street", "hasOne", "(I)Z"⟩ "HouseHeirs" : Cond) ∈ nestW := nest_of (tb_3 _ (List.mem_of_getElem? (i := 198) rfl)) rfl
theorem wd_782 : (.methodLink "HouseHeirs$Orders" 45 ⟨"HouseHeirs$Orders", "tryOrders", "(LHouseHeirs$Orders;IIII)V"⟩ : Cond) ∈ gw := gw_of (tb_3 _ (List.mem_of_getElem? (i := 199) rfl)) rfl
theorem wd_783 : (.static ⟨"HouseHeirs$Orders", "tryOrders", "(LHouseHeirs$Orders;IIII)V"⟩ : Cond) ∈ gw := gw_of (tb_3 _ (List.mem_of_getElem? (i := 200) rfl)) rfl
theorem wd_784 : (.code ⟨"HouseHeirs$Orders", "tryOrders", "(LHouseHeirs$Orders;IIII)V"⟩ prog_4_method_3_code 6 (Option.none : Option Jvm.ClassFile.FieldType) : Cond) ∈ gw := gw_of (tb_3 _ (List.mem_of_getElem? (i := 201) rfl)) rfl
theorem wd_785 : (.methodLink "HouseHeirs$Orders" 49 ⟨"HouseHeirs$Orders", "atLast", "(II)V"⟩ : Cond) ∈ gw := gw_of (tb_3 _ (List.mem_of_getElem? (i := 202) rfl)) rfl
theorem wd_787 : (.instanceMethod ⟨"HouseHeirs$Orders", "atLast", "(II)V"⟩ : Cond) ∈ gw := gw_of (tb_3 _ (List.mem_of_getElem? (i := 204) rfl)) rfl
theorem wd_788 : (.code ⟨"HouseHeirs$Orders", "atLast", "(II)V"⟩ prog_4_method_4_code 3 (Option.none : Option Jvm.ClassFile.FieldType) : Cond) ∈ gw := gw_of (tb_3 _ (List.mem_of_getElem? (i := 205) rfl)) rfl
theorem nw_789 : (.methodLinkNest "HouseHeirs$Orders" 67 ⟨"HouseHeirs", "copyRow", "([I[I)V"⟩ "HouseHeirs" : Cond) ∈ nestW := nest_of (tb_3 _ (List.mem_of_getElem? (i := 206) rfl)) rfl
theorem wd_790 : (.methodLink "HouseHeirs$Orders" 53 ⟨"HouseHeirs$Orders", "keep", "(I)V"⟩ : Cond) ∈ gw := gw_of (tb_3 _ (List.mem_of_getElem? (i := 207) rfl)) rfl
theorem wd_792 : (.instanceMethod ⟨"HouseHeirs$Orders", "keep", "(I)V"⟩ : Cond) ∈ gw := gw_of (tb_3 _ (List.mem_of_getElem? (i := 209) rfl)) rfl
theorem wd_793 : (.code ⟨"HouseHeirs$Orders", "keep", "(I)V"⟩ prog_4_method_7_code 2 (Option.none : Option Jvm.ClassFile.FieldType) : Cond) ∈ gw := gw_of (tb_3 _ (List.mem_of_getElem? (i := 210) rfl)) rfl
theorem nw_794 : (.methodLinkNest "HouseHeirs$Orders" 57 ⟨"HouseHeirs$Street", "letFall", "(I)I"⟩ "HouseHeirs" : Cond) ∈ nestW := nest_of (tb_3 _ (List.mem_of_getElem? (i := 211) rfl)) rfl
theorem wd_795 : (.methodLink "HouseHeirs$Orders" 61 ⟨"HouseHeirs$Orders", "bringBack", "(I)V"⟩ : Cond) ∈ gw := gw_of (tb_3 _ (List.mem_of_getElem? (i := 212) rfl)) rfl
theorem wd_797 : (.instanceMethod ⟨"HouseHeirs$Orders", "bringBack", "(I)V"⟩ : Cond) ∈ gw := gw_of (tb_3 _ (List.mem_of_getElem? (i := 214) rfl)) rfl
theorem wd_798 : (.code ⟨"HouseHeirs$Orders", "bringBack", "(I)V"⟩ prog_4_method_8_code 2 (Option.none : Option Jvm.ClassFile.FieldType) : Cond) ∈ gw := gw_of (tb_3 _ (List.mem_of_getElem? (i := 215) rfl)) rfl
theorem wd_799 : (.methodLink "HouseHeirsLaw" 127 ⟨"HouseHeirs", "safe", "(I)I"⟩ : Cond) ∈ gw := gw_of (tb_3 _ (List.mem_of_getElem? (i := 216) rfl)) rfl
theorem wd_800 : (.instanceMethod ⟨"HouseHeirs", "safe", "(I)I"⟩ : Cond) ∈ gw := gw_of (tb_3 _ (List.mem_of_getElem? (i := 217) rfl)) rfl
theorem wd_801 : (.selects "HouseHeirs" ⟨"HouseHeirs", "safe", "(I)I"⟩ ⟨"HouseHeirs", "safe", "(I)I"⟩ : Cond) ∈ gw := gw_of (tb_3 _ (List.mem_of_getElem? (i := 218) rfl)) rfl
theorem wd_802 : (.code ⟨"HouseHeirs", "safe", "(I)I"⟩ prog_1_method_29_code 4 (Option.some .int) : Cond) ∈ gw := gw_of (tb_3 _ (List.mem_of_getElem? (i := 219) rfl)) rfl
theorem nw_803 : (.methodLinkNest "HouseHeirs" 235 ⟨"HouseHeirs$Orders", "isSafe", "(LHouseHeirs$Street;II)Z"⟩ "HouseHeirs" : Cond) ∈ nestW := nest_of (tb_3 _ (List.mem_of_getElem? (i := 220) rfl)) rfl
theorem wd_805 : (.instanceMethod ⟨"HouseHeirs$Orders", "isSafe", "(LHouseHeirs$Street;II)Z"⟩ : Cond) ∈ gw := gw_of (tb_3 _ (List.mem_of_getElem? (i := 222) rfl)) rfl
theorem wd_806 : (.code ⟨"HouseHeirs$Orders", "isSafe", "(LHouseHeirs$Street;II)Z"⟩ prog_4_method_5_code 5 (Option.some .boolean) : Cond) ∈ gw := gw_of (tb_3 _ (List.mem_of_getElem? (i := 223) rfl)) rfl
theorem wd_807 : (.methodLink "HouseHeirs$Orders" 77 ⟨"HouseHeirs$Orders", "neverOut", "(LHouseHeirs$Orders;III)Z"⟩ : Cond) ∈ gw := gw_of (tb_3 _ (List.mem_of_getElem? (i := 224) rfl)) rfl
theorem wd_808 : (.static ⟨"HouseHeirs$Orders", "neverOut", "(LHouseHeirs$Orders;III)Z"⟩ : Cond) ∈ gw := gw_of (tb_3 _ (List.mem_of_getElem? (i := 225) rfl)) rfl
theorem wd_809 : (.code ⟨"HouseHeirs$Orders", "neverOut", "(LHouseHeirs$Orders;III)Z"⟩ prog_4_method_6_code 5 (Option.some .boolean) : Cond) ∈ gw := gw_of (tb_3 _ (List.mem_of_getElem? (i := 226) rfl)) rfl
theorem wd_810 : (.methodLink "HouseHeirs$Orders" 81 ⟨"java/lang/Integer", "bitCount", "(I)I"⟩ : Cond) ∈ gw := gw_of (tb_3 _ (List.mem_of_getElem? (i := 227) rfl)) rfl
theorem wd_811 : (.methodLink "HouseHeirsLaw" 131 ⟨"HouseHeirs", "moves", "(I)I"⟩ : Cond) ∈ gw := gw_of (tb_3 _ (List.mem_of_getElem? (i := 228) rfl)) rfl
theorem wd_812 : (.instanceMethod ⟨"HouseHeirs", "moves", "(I)I"⟩ : Cond) ∈ gw := gw_of (tb_3 _ (List.mem_of_getElem? (i := 229) rfl)) rfl
theorem wd_813 : (.selects "HouseHeirs" ⟨"HouseHeirs", "moves", "(I)I"⟩ ⟨"HouseHeirs", "moves", "(I)I"⟩ : Cond) ∈ gw := gw_of (tb_3 _ (List.mem_of_getElem? (i := 230) rfl)) rfl
theorem wd_814 : (.code ⟨"HouseHeirs", "moves", "(I)I"⟩ prog_1_method_30_code 3 (Option.some .int) : Cond) ∈ gw := gw_of (tb_3 _ (List.mem_of_getElem? (i := 231) rfl)) rfl
theorem nw_815 : (.methodLinkNest "HouseHeirs" 239 ⟨"HouseHeirs$Lodgings", "seek", "(LHouseHeirs$Street;)I"⟩ "HouseHeirs" : Cond) ∈ nestW := nest_of (tb_3 _ (List.mem_of_getElem? (i := 232) rfl)) rfl
theorem wd_817 : (.instanceMethod ⟨"HouseHeirs$Lodgings", "seek", "(LHouseHeirs$Street;)I"⟩ : Cond) ∈ gw := gw_of (tb_3 _ (List.mem_of_getElem? (i := 234) rfl)) rfl
theorem wd_818 : (.code ⟨"HouseHeirs$Lodgings", "seek", "(LHouseHeirs$Street;)I"⟩ prog_3_method_2_code 3 (Option.some .int) : Cond) ∈ gw := gw_of (tb_3 _ (List.mem_of_getElem? (i := 235) rfl)) rfl
theorem wd_819 : (.methodLink "HouseHeirs$Lodgings" 27 ⟨"HouseHeirs$Lodgings", "lodge", "(LHouseHeirs$Lodgings;LHouseHeirs$Street;II)Z"⟩ : Cond) ∈ gw := gw_of (tb_3 _ (List.mem_of_getElem? (i := 236) rfl)) rfl
theorem wd_820 : (.static ⟨"HouseHeirs$Lodgings", "lodge", "(LHouseHeirs$Lodgings;LHouseHeirs$Street;II)Z"⟩ : Cond) ∈ gw := gw_of (tb_3 _ (List.mem_of_getElem? (i := 237) rfl)) rfl
theorem wd_821 : (.code ⟨"HouseHeirs$Lodgings", "lodge", "(LHouseHeirs$Lodgings;LHouseHeirs$Street;II)Z"⟩ prog_3_method_3_code 6 (Option.some .boolean) : Cond) ∈ gw := gw_of (tb_3 _ (List.mem_of_getElem? (i := 238) rfl)) rfl
theorem wd_822 : (.methodLink "HouseHeirs$Lodgings" 34 ⟨"HouseHeirs$Lodgings", "mayLive", "(LHouseHeirs$Street;II)Z"⟩ : Cond) ∈ gw := gw_of (tb_3 _ (List.mem_of_getElem? (i := 239) rfl)) rfl
theorem wd_824 : (.instanceMethod ⟨"HouseHeirs$Lodgings", "mayLive", "(LHouseHeirs$Street;II)Z"⟩ : Cond) ∈ gw := gw_of (tb_4 _ (List.mem_of_getElem? (i := 1) rfl)) rfl
theorem wd_825 : (.code ⟨"HouseHeirs$Lodgings", "mayLive", "(LHouseHeirs$Street;II)Z"⟩ prog_3_method_4_code 4 (Option.some .boolean) : Cond) ∈ gw := gw_of (tb_4 _ (List.mem_of_getElem? (i := 2) rfl)) rfl
theorem nw_826 : (.methodLinkNest "HouseHeirs$Lodgings" 44 ⟨"HouseHeirs$Street", "stands", "(I)Z"⟩ "HouseHeirs" : Cond) ∈ nestW := nest_of (tb_4 _ (List.mem_of_getElem? (i := 3) rfl)) rfl
theorem nw_827 : (.methodLinkNest "HouseHeirs$Lodgings" 51 ⟨"HouseHeirs$Street", "isQuiet", "(II)Z"⟩ "HouseHeirs" : Cond) ∈ nestW := nest_of (tb_4 _ (List.mem_of_getElem? (i := 4) rfl)) rfl
theorem wd_828 : (.methodLink "HouseHeirsLaw" 135 ⟨"HouseHeirs", "share", "(I)I"⟩ : Cond) ∈ gw := gw_of (tb_4 _ (List.mem_of_getElem? (i := 5) rfl)) rfl
theorem wd_829 : (.instanceMethod ⟨"HouseHeirs", "share", "(I)I"⟩ : Cond) ∈ gw := gw_of (tb_4 _ (List.mem_of_getElem? (i := 6) rfl)) rfl
theorem wd_830 : (.selects "HouseHeirs" ⟨"HouseHeirs", "share", "(I)I"⟩ ⟨"HouseHeirs", "share", "(I)I"⟩ : Cond) ∈ gw := gw_of (tb_4 _ (List.mem_of_getElem? (i := 7) rfl)) rfl
theorem wd_831 : (.code ⟨"HouseHeirs", "share", "(I)I"⟩ prog_1_method_31_code 3 (Option.some .int) : Cond) ∈ gw := gw_of (tb_4 _ (List.mem_of_getElem? (i := 8) rfl)) rfl
theorem nw_832 : (.methodLinkNest "HouseHeirs" 247 ⟨"HouseHeirs$Street", "nearestKin", "(I)I"⟩ "HouseHeirs" : Cond) ∈ nestW := nest_of (tb_4 _ (List.mem_of_getElem? (i := 9) rfl)) rfl
theorem wd_834 : (.instanceMethod ⟨"HouseHeirs$Street", "nearestKin", "(I)I"⟩ : Cond) ∈ gw := gw_of (tb_4 _ (List.mem_of_getElem? (i := 11) rfl)) rfl
theorem wd_835 : (.code ⟨"HouseHeirs$Street", "nearestKin", "(I)I"⟩ prog_6_method_34_code 5 (Option.some .int) : Cond) ∈ gw := gw_of (tb_4 _ (List.mem_of_getElem? (i := 12) rfl)) rfl
theorem wd_836 : (.methodLink "HouseHeirs" 250 ⟨"HouseHeirs", "lowerFraction", "()V"⟩ : Cond) ∈ gw := gw_of (tb_4 _ (List.mem_of_getElem? (i := 13) rfl)) rfl
theorem wd_838 : (.instanceMethod ⟨"HouseHeirs", "lowerFraction", "()V"⟩ : Cond) ∈ gw := gw_of (tb_4 _ (List.mem_of_getElem? (i := 15) rfl)) rfl
theorem wd_839 : (.code ⟨"HouseHeirs", "lowerFraction", "()V"⟩ prog_1_method_50_code 3 (Option.none : Option Jvm.ClassFile.FieldType) : Cond) ∈ gw := gw_of (tb_4 _ (List.mem_of_getElem? (i := 16) rfl)) rfl
theorem wd_840 : (.constantLong "HouseHeirs" 320 (5 : Int64) : Cond) ∈ gw := gw_of (tb_4 _ (List.mem_of_getElem? (i := 17) rfl)) rfl
theorem wd_841 : (.methodLink "HouseHeirsLaw" 139 ⟨"HouseHeirs", "plaster", "(II)I"⟩ : Cond) ∈ gw := gw_of (tb_4 _ (List.mem_of_getElem? (i := 18) rfl)) rfl
theorem wd_842 : (.instanceMethod ⟨"HouseHeirs", "plaster", "(II)I"⟩ : Cond) ∈ gw := gw_of (tb_4 _ (List.mem_of_getElem? (i := 19) rfl)) rfl
theorem wd_843 : (.selects "HouseHeirs" ⟨"HouseHeirs", "plaster", "(II)I"⟩ ⟨"HouseHeirs", "plaster", "(II)I"⟩ : Cond) ∈ gw := gw_of (tb_4 _ (List.mem_of_getElem? (i := 20) rfl)) rfl
theorem wd_844 : (.code ⟨"HouseHeirs", "plaster", "(II)I"⟩ prog_1_method_32_code 5 (Option.some .int) : Cond) ∈ gw := gw_of (tb_4 _ (List.mem_of_getElem? (i := 21) rfl)) rfl
theorem nw_845 : (.methodLinkNest "HouseHeirs" 253 ⟨"HouseHeirs$Street", "begetters", "(II)I"⟩ "HouseHeirs" : Cond) ∈ nestW := nest_of (tb_4 _ (List.mem_of_getElem? (i := 22) rfl)) rfl
theorem wd_847 : (.instanceMethod ⟨"HouseHeirs$Street", "begetters", "(II)I"⟩ : Cond) ∈ gw := gw_of (tb_4 _ (List.mem_of_getElem? (i := 24) rfl)) rfl
theorem wd_848 : (.code ⟨"HouseHeirs$Street", "begetters", "(II)I"⟩ prog_6_method_35_code 5 (Option.some .int) : Cond) ∈ gw := gw_of (tb_4 _ (List.mem_of_getElem? (i := 25) rfl)) rfl
theorem wd_849 : (.methodLink "HouseHeirs$Street" 92 ⟨"java/lang/Integer", "bitCount", "(I)I"⟩ : Cond) ∈ gw := gw_of (tb_4 _ (List.mem_of_getElem? (i := 26) rfl)) rfl
theorem wd_850 : (.methodLink "HouseHeirs" 256 ⟨"HouseHeirs", "onlyBit", "(I)I"⟩ : Cond) ∈ gw := gw_of (tb_4 _ (List.mem_of_getElem? (i := 27) rfl)) rfl
theorem wd_851 : (.static ⟨"HouseHeirs", "onlyBit", "(I)I"⟩ : Cond) ∈ gw := gw_of (tb_4 _ (List.mem_of_getElem? (i := 28) rfl)) rfl
theorem wd_852 : (.code ⟨"HouseHeirs", "onlyBit", "(I)I"⟩ prog_1_method_51_code 2 (Option.some .int) : Cond) ∈ gw := gw_of (tb_4 _ (List.mem_of_getElem? (i := 29) rfl)) rfl
theorem wd_853 : (.methodLink "HouseHeirsLaw" 143 ⟨"HouseHeirs", "gables", "(I)I"⟩ : Cond) ∈ gw := gw_of (tb_4 _ (List.mem_of_getElem? (i := 30) rfl)) rfl
theorem wd_854 : (.instanceMethod ⟨"HouseHeirs", "gables", "(I)I"⟩ : Cond) ∈ gw := gw_of (tb_4 _ (List.mem_of_getElem? (i := 31) rfl)) rfl
theorem wd_855 : (.selects "HouseHeirs" ⟨"HouseHeirs", "gables", "(I)I"⟩ ⟨"HouseHeirs", "gables", "(I)I"⟩ : Cond) ∈ gw := gw_of (tb_4 _ (List.mem_of_getElem? (i := 32) rfl)) rfl
theorem wd_856 : (.code ⟨"HouseHeirs", "gables", "(I)I"⟩ prog_1_method_33_code 4 (Option.some .int) : Cond) ∈ gw := gw_of (tb_4 _ (List.mem_of_getElem? (i := 33) rfl)) rfl
theorem wd_857 : (.methodLink "HouseHeirsLaw" 147 ⟨"HouseHeirs", "doors", "(IIII)I"⟩ : Cond) ∈ gw := gw_of (tb_4 _ (List.mem_of_getElem? (i := 34) rfl)) rfl
theorem wd_858 : (.instanceMethod ⟨"HouseHeirs", "doors", "(IIII)I"⟩ : Cond) ∈ gw := gw_of (tb_4 _ (List.mem_of_getElem? (i := 35) rfl)) rfl
theorem wd_859 : (.selects "HouseHeirs" ⟨"HouseHeirs", "doors", "(IIII)I"⟩ ⟨"HouseHeirs", "doors", "(IIII)I"⟩ : Cond) ∈ gw := gw_of (tb_4 _ (List.mem_of_getElem? (i := 36) rfl)) rfl
theorem wd_860 : (.code ⟨"HouseHeirs", "doors", "(IIII)I"⟩ prog_1_method_34_code 11 (Option.some .int) : Cond) ∈ gw := gw_of (tb_4 _ (List.mem_of_getElem? (i := 37) rfl)) rfl
theorem wd_861 : (.methodLink "HouseHeirs" 259 ⟨"HouseHeirs", "rests", "(IIIII)Z"⟩ : Cond) ∈ gw := gw_of (tb_4 _ (List.mem_of_getElem? (i := 38) rfl)) rfl
theorem wd_863 : (.instanceMethod ⟨"HouseHeirs", "rests", "(IIIII)Z"⟩ : Cond) ∈ gw := gw_of (tb_4 _ (List.mem_of_getElem? (i := 40) rfl)) rfl
theorem wd_864 : (.code ⟨"HouseHeirs", "rests", "(IIIII)Z"⟩ prog_1_method_48_code 9 (Option.some .boolean) : Cond) ∈ gw := gw_of (tb_4 _ (List.mem_of_getElem? (i := 41) rfl)) rfl
theorem wd_865 : (.methodLink "HouseHeirs" 312 ⟨"HouseHeirs", "gain", "(III)I"⟩ : Cond) ∈ gw := gw_of (tb_4 _ (List.mem_of_getElem? (i := 42) rfl)) rfl
theorem wd_867 : (.instanceMethod ⟨"HouseHeirs", "gain", "(III)I"⟩ : Cond) ∈ gw := gw_of (tb_4 _ (List.mem_of_getElem? (i := 44) rfl)) rfl
theorem wd_868 : (.code ⟨"HouseHeirs", "gain", "(III)I"⟩ prog_1_method_49_code 7 (Option.some .int) : Cond) ∈ gw := gw_of (tb_4 _ (List.mem_of_getElem? (i := 45) rfl)) rfl
theorem nw_869 : (.methodLinkNest "HouseHeirs" 275 ⟨"HouseHeirs$Street", "dwellers", "(I)I"⟩ "HouseHeirs" : Cond) ∈ nestW := nest_of (tb_4 _ (List.mem_of_getElem? (i := 46) rfl)) rfl
theorem wd_870 : (.methodLink "HouseHeirs" 315 ⟨"java/lang/Math", "max", "(II)I"⟩ : Cond) ∈ gw := gw_of (tb_4 _ (List.mem_of_getElem? (i := 47) rfl)) rfl
theorem wd_871 : (.static ⟨"java/lang/Math", "max", "(II)I"⟩ : Cond) ∈ gw := gw_of (tb_4 _ (List.mem_of_getElem? (i := 48) rfl)) rfl
theorem wd_872 : (.code ⟨"java/lang/Math", "max", "(II)I"⟩ prog_11_method_65_code 2 (Option.some .int) : Cond) ∈ gw := gw_of (tb_4 _ (List.mem_of_getElem? (i := 49) rfl)) rfl
theorem wd_873 : (.methodLink "HouseHeirsLaw" 151 ⟨"HouseHeirs", "drawn", "(II)I"⟩ : Cond) ∈ gw := gw_of (tb_4 _ (List.mem_of_getElem? (i := 50) rfl)) rfl
theorem wd_874 : (.instanceMethod ⟨"HouseHeirs", "drawn", "(II)I"⟩ : Cond) ∈ gw := gw_of (tb_4 _ (List.mem_of_getElem? (i := 51) rfl)) rfl
theorem wd_875 : (.selects "HouseHeirs" ⟨"HouseHeirs", "drawn", "(II)I"⟩ ⟨"HouseHeirs", "drawn", "(II)I"⟩ : Cond) ∈ gw := gw_of (tb_4 _ (List.mem_of_getElem? (i := 52) rfl)) rfl
theorem wd_876 : (.code ⟨"HouseHeirs", "drawn", "(II)I"⟩ prog_1_method_35_code 7 (Option.some .int) : Cond) ∈ gw := gw_of (tb_4 _ (List.mem_of_getElem? (i := 53) rfl)) rfl
theorem wd_877 : (.constant "HouseHeirs" 263 (999999 : Int32) : Cond) ∈ gw := gw_of (tb_4 _ (List.mem_of_getElem? (i := 54) rfl)) rfl
theorem wd_878 : (.constantLong "HouseHeirs" 264 (1103515245 : Int64) : Cond) ∈ gw := gw_of (tb_4 _ (List.mem_of_getElem? (i := 55) rfl)) rfl
theorem wd_879 : (.constantLong "HouseHeirs" 266 (12345 : Int64) : Cond) ∈ gw := gw_of (tb_4 _ (List.mem_of_getElem? (i := 56) rfl)) rfl
theorem wd_880 : (.constantLong "HouseHeirs" 268 (2147483648 : Int64) : Cond) ∈ gw := gw_of (tb_4 _ (List.mem_of_getElem? (i := 57) rfl)) rfl
theorem wd_881 : (.constantLong "HouseHeirs" 270 (65536 : Int64) : Cond) ∈ gw := gw_of (tb_4 _ (List.mem_of_getElem? (i := 58) rfl)) rfl
theorem nw_882 : (.methodLinkNest "HouseHeirs" 272 ⟨"HouseHeirs$Street", "nthStanding", "(I)I"⟩ "HouseHeirs" : Cond) ∈ nestW := nest_of (tb_4 _ (List.mem_of_getElem? (i := 59) rfl)) rfl
theorem wd_884 : (.instanceMethod ⟨"HouseHeirs$Street", "nthStanding", "(I)I"⟩ : Cond) ∈ gw := gw_of (tb_4 _ (List.mem_of_getElem? (i := 61) rfl)) rfl
theorem wd_885 : (.code ⟨"HouseHeirs$Street", "nthStanding", "(I)I"⟩ prog_6_method_22_code 4 (Option.some .int) : Cond) ∈ gw := gw_of (tb_4 _ (List.mem_of_getElem? (i := 62) rfl)) rfl
theorem wd_886 : (.methodLink "HouseHeirsLaw" 155 ⟨"HouseHeirs", "part", "(I)J"⟩ : Cond) ∈ gw := gw_of (tb_4 _ (List.mem_of_getElem? (i := 63) rfl)) rfl
theorem wd_887 : (.instanceMethod ⟨"HouseHeirs", "part", "(I)J"⟩ : Cond) ∈ gw := gw_of (tb_4 _ (List.mem_of_getElem? (i := 64) rfl)) rfl
theorem wd_888 : (.selects "HouseHeirs" ⟨"HouseHeirs", "part", "(I)J"⟩ ⟨"HouseHeirs", "part", "(I)J"⟩ : Cond) ∈ gw := gw_of (tb_4 _ (List.mem_of_getElem? (i := 65) rfl)) rfl
theorem wd_889 : (.code ⟨"HouseHeirs", "part", "(I)J"⟩ prog_1_method_36_code 2 (Option.some .long) : Cond) ∈ gw := gw_of (tb_4 _ (List.mem_of_getElem? (i := 66) rfl)) rfl
theorem wd_890 : (.methodLink "HouseHeirsLaw" 160 ⟨"HouseHeirs", "image", "(I)I"⟩ : Cond) ∈ gw := gw_of (tb_4 _ (List.mem_of_getElem? (i := 67) rfl)) rfl
theorem wd_891 : (.instanceMethod ⟨"HouseHeirs", "image", "(I)I"⟩ : Cond) ∈ gw := gw_of (tb_4 _ (List.mem_of_getElem? (i := 68) rfl)) rfl
theorem wd_892 : (.selects "HouseHeirs" ⟨"HouseHeirs", "image", "(I)I"⟩ ⟨"HouseHeirs", "image", "(I)I"⟩ : Cond) ∈ gw := gw_of (tb_4 _ (List.mem_of_getElem? (i := 69) rfl)) rfl
theorem wd_893 : (.code ⟨"HouseHeirs", "image", "(I)I"⟩ prog_1_method_37_code 2 (Option.some .int) : Cond) ∈ gw := gw_of (tb_4 _ (List.mem_of_getElem? (i := 70) rfl)) rfl
theorem wd_894 : (.methodLink "HouseHeirs" 278 ⟨"HouseHeirs", "imageAt", "(I)LHouseHeirs$Image;"⟩ : Cond) ∈ gw := gw_of (tb_4 _ (List.mem_of_getElem? (i := 71) rfl)) rfl
theorem wd_896 : (.instanceMethod ⟨"HouseHeirs", "imageAt", "(I)LHouseHeirs$Image;"⟩ : Cond) ∈ gw := gw_of (tb_4 _ (List.mem_of_getElem? (i := 73) rfl)) rfl
theorem wd_897 : (.code ⟨"HouseHeirs", "imageAt", "(I)LHouseHeirs$Image;"⟩ prog_1_method_44_code 2 (Option.some (.object "HouseHeirs$Image")) : Cond) ∈ gw := gw_of (tb_4 _ (List.mem_of_getElem? (i := 74) rfl)) rfl
theorem nw_898 : (.methodLinkNest "HouseHeirs" 282 ⟨"HouseHeirs$Image", "keep", "(LHouseHeirs$Street;LHouseHeirs$Past;)V"⟩ "HouseHeirs" : Cond) ∈ nestW := nest_of (tb_4 _ (List.mem_of_getElem? (i := 75) rfl)) rfl
theorem wd_900 : (.instanceMethod ⟨"HouseHeirs$Image", "keep", "(LHouseHeirs$Street;LHouseHeirs$Past;)V"⟩ : Cond) ∈ gw := gw_of (tb_4 _ (List.mem_of_getElem? (i := 77) rfl)) rfl
theorem wd_901 : (.code ⟨"HouseHeirs$Image", "keep", "(LHouseHeirs$Street;LHouseHeirs$Past;)V"⟩ prog_2_method_2_code 3 (Option.none : Option Jvm.ClassFile.FieldType) : Cond) ∈ gw := gw_of (tb_4 _ (List.mem_of_getElem? (i := 78) rfl)) rfl
theorem nw_902 : (.methodLinkNest "HouseHeirs$Image" 27 ⟨"HouseHeirs$Street", "takeFrom", "(LHouseHeirs$Street;)V"⟩ "HouseHeirs" : Cond) ∈ nestW := nest_of (tb_4 _ (List.mem_of_getElem? (i := 79) rfl)) rfl
theorem nw_903 : (.methodLinkNest "HouseHeirs$Image" 31 ⟨"HouseHeirs$Past", "takeFrom", "(LHouseHeirs$Past;)V"⟩ "HouseHeirs" : Cond) ∈ nestW := nest_of (tb_4 _ (List.mem_of_getElem? (i := 80) rfl)) rfl
theorem wd_905 : (.instanceMethod ⟨"HouseHeirs$Past", "takeFrom", "(LHouseHeirs$Past;)V"⟩ : Cond) ∈ gw := gw_of (tb_4 _ (List.mem_of_getElem? (i := 82) rfl)) rfl
theorem wd_906 : (.code ⟨"HouseHeirs$Past", "takeFrom", "(LHouseHeirs$Past;)V"⟩ prog_5_method_5_code 3 (Option.none : Option Jvm.ClassFile.FieldType) : Cond) ∈ gw := gw_of (tb_4 _ (List.mem_of_getElem? (i := 83) rfl)) rfl
theorem wd_907 : (.methodLink "HouseHeirsLaw" 164 ⟨"HouseHeirs", "from", "(I)I"⟩ : Cond) ∈ gw := gw_of (tb_4 _ (List.mem_of_getElem? (i := 84) rfl)) rfl
theorem wd_908 : (.instanceMethod ⟨"HouseHeirs", "from", "(I)I"⟩ : Cond) ∈ gw := gw_of (tb_4 _ (List.mem_of_getElem? (i := 85) rfl)) rfl
theorem wd_909 : (.selects "HouseHeirs" ⟨"HouseHeirs", "from", "(I)I"⟩ ⟨"HouseHeirs", "from", "(I)I"⟩ : Cond) ∈ gw := gw_of (tb_4 _ (List.mem_of_getElem? (i := 86) rfl)) rfl
theorem wd_910 : (.code ⟨"HouseHeirs", "from", "(I)I"⟩ prog_1_method_38_code 2 (Option.some .int) : Cond) ∈ gw := gw_of (tb_4 _ (List.mem_of_getElem? (i := 87) rfl)) rfl
theorem nw_911 : (.methodLinkNest "HouseHeirs" 289 ⟨"HouseHeirs$Image", "giveBack", "(LHouseHeirs$Street;LHouseHeirs$Past;)V"⟩ "HouseHeirs" : Cond) ∈ nestW := nest_of (tb_4 _ (List.mem_of_getElem? (i := 88) rfl)) rfl
theorem wd_913 : (.instanceMethod ⟨"HouseHeirs$Image", "giveBack", "(LHouseHeirs$Street;LHouseHeirs$Past;)V"⟩ : Cond) ∈ gw := gw_of (tb_4 _ (List.mem_of_getElem? (i := 90) rfl)) rfl
theorem wd_914 : (.code ⟨"HouseHeirs$Image", "giveBack", "(LHouseHeirs$Street;LHouseHeirs$Past;)V"⟩ prog_2_method_3_code 3 (Option.none : Option Jvm.ClassFile.FieldType) : Cond) ∈ gw := gw_of (tb_4 _ (List.mem_of_getElem? (i := 91) rfl)) rfl
theorem wd_915 : (.methodLink "HouseHeirsLaw" 168 ⟨"HouseHeirs", "status", "(I)I"⟩ : Cond) ∈ gw := gw_of (tb_4 _ (List.mem_of_getElem? (i := 92) rfl)) rfl
theorem wd_916 : (.instanceMethod ⟨"HouseHeirs", "status", "(I)I"⟩ : Cond) ∈ gw := gw_of (tb_4 _ (List.mem_of_getElem? (i := 93) rfl)) rfl
theorem wd_917 : (.selects "HouseHeirs" ⟨"HouseHeirs", "status", "(I)I"⟩ ⟨"HouseHeirs", "status", "(I)I"⟩ : Cond) ∈ gw := gw_of (tb_4 _ (List.mem_of_getElem? (i := 94) rfl)) rfl
theorem wd_918 : (.code ⟨"HouseHeirs", "status", "(I)I"⟩ prog_1_method_39_code 2 (Option.some .int) : Cond) ∈ gw := gw_of (tb_4 _ (List.mem_of_getElem? (i := 95) rfl)) rfl
theorem wd_919 : (.methodLink "HouseHeirsLaw" 172 ⟨"HouseHeirs", "count", "(I)I"⟩ : Cond) ∈ gw := gw_of (tb_4 _ (List.mem_of_getElem? (i := 96) rfl)) rfl
theorem wd_920 : (.instanceMethod ⟨"HouseHeirs", "count", "(I)I"⟩ : Cond) ∈ gw := gw_of (tb_4 _ (List.mem_of_getElem? (i := 97) rfl)) rfl
theorem wd_921 : (.selects "HouseHeirs" ⟨"HouseHeirs", "count", "(I)I"⟩ ⟨"HouseHeirs", "count", "(I)I"⟩ : Cond) ∈ gw := gw_of (tb_4 _ (List.mem_of_getElem? (i := 98) rfl)) rfl
theorem wd_922 : (.code ⟨"HouseHeirs", "count", "(I)I"⟩ prog_1_method_40_code 2 (Option.some .int) : Cond) ∈ gw := gw_of (tb_4 _ (List.mem_of_getElem? (i := 99) rfl)) rfl
theorem wd_923 : (.methodLink "HouseHeirs" 292 ⟨"HouseHeirs", "amount", "(I)I"⟩ : Cond) ∈ gw := gw_of (tb_4 _ (List.mem_of_getElem? (i := 100) rfl)) rfl
theorem wd_925 : (.instanceMethod ⟨"HouseHeirs", "amount", "(I)I"⟩ : Cond) ∈ gw := gw_of (tb_4 _ (List.mem_of_getElem? (i := 102) rfl)) rfl
theorem wd_926 : (.code ⟨"HouseHeirs", "amount", "(I)I"⟩ prog_1_method_45_code 2 (Option.some .int) : Cond) ∈ gw := gw_of (tb_4 _ (List.mem_of_getElem? (i := 103) rfl)) rfl
theorem nw_927 : (.methodLinkNest "HouseHeirs" 303 ⟨"HouseHeirs$Street", "wallsInAll", "()I"⟩ "HouseHeirs" : Cond) ∈ nestW := nest_of (tb_4 _ (List.mem_of_getElem? (i := 104) rfl)) rfl
theorem wd_929 : (.instanceMethod ⟨"HouseHeirs$Street", "wallsInAll", "()I"⟩ : Cond) ∈ gw := gw_of (tb_4 _ (List.mem_of_getElem? (i := 106) rfl)) rfl
theorem wd_930 : (.code ⟨"HouseHeirs$Street", "wallsInAll", "()I"⟩ prog_6_method_23_code 3 (Option.some .int) : Cond) ∈ gw := gw_of (tb_4 _ (List.mem_of_getElem? (i := 107) rfl)) rfl
theorem nw_931 : (.methodLinkNest "HouseHeirs" 306 ⟨"HouseHeirs$Street", "feudsInAll", "()I"⟩ "HouseHeirs" : Cond) ∈ nestW := nest_of (tb_4 _ (List.mem_of_getElem? (i := 108) rfl)) rfl
theorem wd_933 : (.instanceMethod ⟨"HouseHeirs$Street", "feudsInAll", "()I"⟩ : Cond) ∈ gw := gw_of (tb_4 _ (List.mem_of_getElem? (i := 110) rfl)) rfl
theorem wd_934 : (.code ⟨"HouseHeirs$Street", "feudsInAll", "()I"⟩ prog_6_method_24_code 3 (Option.some .int) : Cond) ∈ gw := gw_of (tb_4 _ (List.mem_of_getElem? (i := 111) rfl)) rfl
theorem wd_935 : (.methodLink "HouseHeirsLaw" 176 ⟨"HouseHeirs", "digest", "()J"⟩ : Cond) ∈ gw := gw_of (tb_4 _ (List.mem_of_getElem? (i := 112) rfl)) rfl
theorem wd_936 : (.instanceMethod ⟨"HouseHeirs", "digest", "()J"⟩ : Cond) ∈ gw := gw_of (tb_4 _ (List.mem_of_getElem? (i := 113) rfl)) rfl
theorem wd_937 : (.selects "HouseHeirs" ⟨"HouseHeirs", "digest", "()J"⟩ ⟨"HouseHeirs", "digest", "()J"⟩ : Cond) ∈ gw := gw_of (tb_4 _ (List.mem_of_getElem? (i := 114) rfl)) rfl
theorem wd_938 : (.code ⟨"HouseHeirs", "digest", "()J"⟩ prog_1_method_41_code 4 (Option.some .long) : Cond) ∈ gw := gw_of (tb_4 _ (List.mem_of_getElem? (i := 115) rfl)) rfl
theorem wd_939 : (.constantLong "HouseHeirs" 295 (967 : Int64) : Cond) ∈ gw := gw_of (tb_4 _ (List.mem_of_getElem? (i := 116) rfl)) rfl
theorem wd_940 : (.constantLong "HouseHeirs" 297 (31 : Int64) : Cond) ∈ gw := gw_of (tb_4 _ (List.mem_of_getElem? (i := 117) rfl)) rfl
theorem nw_941 : (.methodLinkNest "HouseHeirs" 299 ⟨"HouseHeirs$Street", "addTo", "(J)J"⟩ "HouseHeirs" : Cond) ∈ nestW := nest_of (tb_4 _ (List.mem_of_getElem? (i := 118) rfl)) rfl
theorem wd_943 : (.instanceMethod ⟨"HouseHeirs$Street", "addTo", "(J)J"⟩ : Cond) ∈ gw := gw_of (tb_4 _ (List.mem_of_getElem? (i := 120) rfl)) rfl
theorem wd_944 : (.code ⟨"HouseHeirs$Street", "addTo", "(J)J"⟩ prog_6_method_38_code 7 (Option.some .long) : Cond) ∈ gw := gw_of (tb_4 _ (List.mem_of_getElem? (i := 121) rfl)) rfl
theorem wd_945 : (.constantLong "HouseHeirs$Street" 120 (31 : Int64) : Cond) ∈ gw := gw_of (tb_4 _ (List.mem_of_getElem? (i := 122) rfl)) rfl
theorem wd_946 : (.classLink "HouseHeirsLaw" 10 "HouseHeirsModel" : Cond) ∈ gw := gw_of (tb_4 _ (List.mem_of_getElem? (i := 123) rfl)) rfl
theorem wd_947 : (.instantiable "HouseHeirsModel" 20 : Cond) ∈ gw := gw_of (tb_4 _ (List.mem_of_getElem? (i := 124) rfl)) rfl
theorem wd_948 : (.methodLink "HouseHeirsLaw" 12 ⟨"HouseHeirsModel", "<init>", "()V"⟩ : Cond) ∈ gw := gw_of (tb_4 _ (List.mem_of_getElem? (i := 125) rfl)) rfl
theorem wd_949 : (.instanceMethod ⟨"HouseHeirsModel", "<init>", "()V"⟩ : Cond) ∈ gw := gw_of (tb_4 _ (List.mem_of_getElem? (i := 126) rfl)) rfl
theorem wd_950 : (.code ⟨"HouseHeirsModel", "<init>", "()V"⟩ prog_9_method_1_code 1 (Option.none : Option Jvm.ClassFile.FieldType) : Cond) ∈ gw := gw_of (tb_4 _ (List.mem_of_getElem? (i := 127) rfl)) rfl
theorem wd_951 : (.methodLink "HouseHeirsModel" 1 ⟨"java/lang/Object", "<init>", "()V"⟩ : Cond) ∈ gw := gw_of (tb_4 _ (List.mem_of_getElem? (i := 128) rfl)) rfl
theorem wd_952 : (.methodLink "HouseHeirsModel" 48 ⟨"HouseHeirsModel", "clean", "()V"⟩ : Cond) ∈ gw := gw_of (tb_4 _ (List.mem_of_getElem? (i := 129) rfl)) rfl
theorem wd_954 : (.instanceMethod ⟨"HouseHeirsModel", "clean", "()V"⟩ : Cond) ∈ gw := gw_of (tb_4 _ (List.mem_of_getElem? (i := 131) rfl)) rfl
theorem wd_955 : (.code ⟨"HouseHeirsModel", "clean", "()V"⟩ prog_9_method_11_code 2 (Option.none : Option Jvm.ClassFile.FieldType) : Cond) ∈ gw := gw_of (tb_4 _ (List.mem_of_getElem? (i := 132) rfl)) rfl
theorem wd_956 : (.fieldLink "HouseHeirsModel" 7 "HouseHeirsModel" "now" "[I" : Cond) ∈ gw := gw_of (tb_4 _ (List.mem_of_getElem? (i := 133) rfl)) rfl
theorem wd_957 : (.fieldLink "HouseHeirsModel" 13 "HouseHeirsModel" "images" "[I" : Cond) ∈ gw := gw_of (tb_4 _ (List.mem_of_getElem? (i := 134) rfl)) rfl
theorem wd_958 : (.fieldLink "HouseHeirsModel" 16 "HouseHeirsModel" "kept" "[Z" : Cond) ∈ gw := gw_of (tb_4 _ (List.mem_of_getElem? (i := 135) rfl)) rfl
theorem wd_959 : (.fieldLink "HouseHeirsModel" 20 "HouseHeirsModel" "text" "[I" : Cond) ∈ gw := gw_of (tb_4 _ (List.mem_of_getElem? (i := 136) rfl)) rfl
theorem wd_960 : (.fieldLink "HouseHeirsModel" 104 "HouseHeirsModel" "size" "I" : Cond) ∈ gw := gw_of (tb_4 _ (List.mem_of_getElem? (i := 137) rfl)) rfl
theorem wd_961 : (.fieldLink "HouseHeirsModel" 264 "HouseHeirsModel" "above" "J" : Cond) ∈ gw := gw_of (tb_4 _ (List.mem_of_getElem? (i := 138) rfl)) rfl
theorem wd_962 : (.fieldLink "HouseHeirsModel" 23 "HouseHeirsModel" "below" "J" : Cond) ∈ gw := gw_of (tb_4 _ (List.mem_of_getElem? (i := 139) rfl)) rfl
theorem wd_963 : (.fieldLink "HouseHeirsModel" 27 "HouseHeirsModel" "refusals" "[I" : Cond) ∈ gw := gw_of (tb_4 _ (List.mem_of_getElem? (i := 140) rfl)) rfl
theorem wd_964 : (.fieldLink "HouseHeirsModel" 108 "HouseHeirsModel" "at" "I" : Cond) ∈ gw := gw_of (tb_4 _ (List.mem_of_getElem? (i := 141) rfl)) rfl
theorem wd_965 : (.fieldLink "HouseHeirsModel" 111 "HouseHeirsModel" "begin" "I" : Cond) ∈ gw := gw_of (tb_4 _ (List.mem_of_getElem? (i := 142) rfl)) rfl
theorem wd_966 : (.fieldLink "HouseHeirsModel" 122 "HouseHeirsModel" "token" "I" : Cond) ∈ gw := gw_of (tb_4 _ (List.mem_of_getElem? (i := 143) rfl)) rfl
theorem wd_967 : (.fieldLink "HouseHeirsModel" 125 "HouseHeirsModel" "value" "I" : Cond) ∈ gw := gw_of (tb_4 _ (List.mem_of_getElem? (i := 144) rfl)) rfl
theorem wd_968 : (.fieldLink "HouseHeirsModel" 128 "HouseHeirsModel" "word" "J" : Cond) ∈ gw := gw_of (tb_4 _ (List.mem_of_getElem? (i := 145) rfl)) rfl
theorem wd_969 : (.fieldLink "HouseHeirsModel" 30 "HouseHeirsModel" "items" "[I" : Cond) ∈ gw := gw_of (tb_4 _ (List.mem_of_getElem? (i := 146) rfl)) rfl
theorem wd_970 : (.fieldLink "HouseHeirsModel" 147 "HouseHeirsModel" "itemMany" "I" : Cond) ∈ gw := gw_of (tb_4 _ (List.mem_of_getElem? (i := 147) rfl)) rfl
theorem wd_971 : (.fieldLink "HouseHeirsModel" 33 "HouseHeirsModel" "saved" "[I" : Cond) ∈ gw := gw_of (tb_4 _ (List.mem_of_getElem? (i := 148) rfl)) rfl
theorem wd_972 : (.fieldLink "HouseHeirsModel" 36 "HouseHeirsModel" "far" "[I" : Cond) ∈ gw := gw_of (tb_4 _ (List.mem_of_getElem? (i := 149) rfl)) rfl
theorem wd_973 : (.fieldLink "HouseHeirsModel" 39 "HouseHeirsModel" "day" "[I" : Cond) ∈ gw := gw_of (tb_4 _ (List.mem_of_getElem? (i := 150) rfl)) rfl
theorem wd_974 : (.fieldLink "HouseHeirsModel" 42 "HouseHeirsModel" "row" "[I" : Cond) ∈ gw := gw_of (tb_4 _ (List.mem_of_getElem? (i := 151) rfl)) rfl
theorem wd_975 : (.fieldLink "HouseHeirsModel" 45 "HouseHeirsModel" "home" "[I" : Cond) ∈ gw := gw_of (tb_4 _ (List.mem_of_getElem? (i := 152) rfl)) rfl
theorem wd_1017 : (.arrayClass .boolean : Cond) ∈ gw := gw_of (tb_4 _ (List.mem_of_getElem? (i := 194) rfl)) rfl
theorem wd_1018 : (.methodLink "HouseHeirsLaw" 17 ⟨"HouseHeirsModel", "street", "()I"⟩ : Cond) ∈ gw := gw_of (tb_4 _ (List.mem_of_getElem? (i := 195) rfl)) rfl
theorem wd_1019 : (.instanceMethod ⟨"HouseHeirsModel", "street", "()I"⟩ : Cond) ∈ gw := gw_of (tb_4 _ (List.mem_of_getElem? (i := 196) rfl)) rfl
theorem wd_1020 : (.selects "HouseHeirsModel" ⟨"HouseHeirsModel", "street", "()I"⟩ ⟨"HouseHeirsModel", "street", "()I"⟩ : Cond) ∈ gw := gw_of (tb_4 _ (List.mem_of_getElem? (i := 197) rfl)) rfl
theorem wd_1021 : (.code ⟨"HouseHeirsModel", "street", "()I"⟩ prog_9_method_21_code 2 (Option.some .int) : Cond) ∈ gw := gw_of (tb_4 _ (List.mem_of_getElem? (i := 198) rfl)) rfl
theorem wd_1022 : (.methodLink "HouseHeirsLaw" 22 ⟨"HouseHeirsModel", "house", "(III)I"⟩ : Cond) ∈ gw := gw_of (tb_4 _ (List.mem_of_getElem? (i := 199) rfl)) rfl
theorem wd_1023 : (.instanceMethod ⟨"HouseHeirsModel", "house", "(III)I"⟩ : Cond) ∈ gw := gw_of (tb_4 _ (List.mem_of_getElem? (i := 200) rfl)) rfl
theorem wd_1024 : (.selects "HouseHeirsModel" ⟨"HouseHeirsModel", "house", "(III)I"⟩ ⟨"HouseHeirsModel", "house", "(III)I"⟩ : Cond) ∈ gw := gw_of (tb_4 _ (List.mem_of_getElem? (i := 201) rfl)) rfl
theorem wd_1025 : (.code ⟨"HouseHeirsModel", "house", "(III)I"⟩ prog_9_method_22_code 4 (Option.some .int) : Cond) ∈ gw := gw_of (tb_4 _ (List.mem_of_getElem? (i := 202) rfl)) rfl
theorem wd_1026 : (.methodLink "HouseHeirsModel" 72 ⟨"HouseHeirsModel", "doHouse", "(III)I"⟩ : Cond) ∈ gw := gw_of (tb_4 _ (List.mem_of_getElem? (i := 203) rfl)) rfl
theorem wd_1028 : (.instanceMethod ⟨"HouseHeirsModel", "doHouse", "(III)I"⟩ : Cond) ∈ gw := gw_of (tb_4 _ (List.mem_of_getElem? (i := 205) rfl)) rfl
theorem wd_1029 : (.code ⟨"HouseHeirsModel", "doHouse", "(III)I"⟩ prog_9_method_15_code 5 (Option.some .int) : Cond) ∈ gw := gw_of (tb_4 _ (List.mem_of_getElem? (i := 206) rfl)) rfl
theorem wd_1030 : (.constantLong "HouseHeirsModel" 57 (9 : Int64) : Cond) ∈ gw := gw_of (tb_4 _ (List.mem_of_getElem? (i := 207) rfl)) rfl
theorem wd_1031 : (.methodLink "HouseHeirsModel" 51 ⟨"HouseHeirsModel", "in", "(JJJ)Z"⟩ : Cond) ∈ gw := gw_of (tb_4 _ (List.mem_of_getElem? (i := 208) rfl)) rfl
theorem wd_1032 : (.static ⟨"HouseHeirsModel", "in", "(JJJ)Z"⟩ : Cond) ∈ gw := gw_of (tb_4 _ (List.mem_of_getElem? (i := 209) rfl)) rfl
theorem wd_1033 : (.code ⟨"HouseHeirsModel", "in", "(JJJ)Z"⟩ prog_9_method_3_code 6 (Option.some .boolean) : Cond) ∈ gw := gw_of (tb_4 _ (List.mem_of_getElem? (i := 210) rfl)) rfl
theorem wd_1034 : (.constantLong "HouseHeirsModel" 59 (99 : Int64) : Cond) ∈ gw := gw_of (tb_4 _ (List.mem_of_getElem? (i := 211) rfl)) rfl
theorem wd_1035 : (.methodLink "HouseHeirsModel" 76 ⟨"HouseHeirsModel", "tell", "(I)I"⟩ : Cond) ∈ gw := gw_of (tb_4 _ (List.mem_of_getElem? (i := 212) rfl)) rfl
theorem wd_1037 : (.instanceMethod ⟨"HouseHeirsModel", "tell", "(I)I"⟩ : Cond) ∈ gw := gw_of (tb_4 _ (List.mem_of_getElem? (i := 214) rfl)) rfl
theorem wd_1038 : (.code ⟨"HouseHeirsModel", "tell", "(I)I"⟩ prog_9_method_5_code 2 (Option.some .int) : Cond) ∈ gw := gw_of (tb_4 _ (List.mem_of_getElem? (i := 215) rfl)) rfl
theorem wd_1039 : (.methodLink "HouseHeirsLaw" 27 ⟨"HouseHeirsModel", "builtFrom", "(II)I"⟩ : Cond) ∈ gw := gw_of (tb_4 _ (List.mem_of_getElem? (i := 216) rfl)) rfl
theorem wd_1040 : (.instanceMethod ⟨"HouseHeirsModel", "builtFrom", "(II)I"⟩ : Cond) ∈ gw := gw_of (tb_4 _ (List.mem_of_getElem? (i := 217) rfl)) rfl
theorem wd_1041 : (.selects "HouseHeirsModel" ⟨"HouseHeirsModel", "builtFrom", "(II)I"⟩ ⟨"HouseHeirsModel", "builtFrom", "(II)I"⟩ : Cond) ∈ gw := gw_of (tb_4 _ (List.mem_of_getElem? (i := 218) rfl)) rfl
theorem wd_1042 : (.code ⟨"HouseHeirsModel", "builtFrom", "(II)I"⟩ prog_9_method_23_code 3 (Option.some .int) : Cond) ∈ gw := gw_of (tb_4 _ (List.mem_of_getElem? (i := 219) rfl)) rfl
theorem wd_1043 : (.methodLink "HouseHeirsModel" 80 ⟨"HouseHeirsModel", "doFrom", "(II)I"⟩ : Cond) ∈ gw := gw_of (tb_4 _ (List.mem_of_getElem? (i := 220) rfl)) rfl
theorem wd_1045 : (.instanceMethod ⟨"HouseHeirsModel", "doFrom", "(II)I"⟩ : Cond) ∈ gw := gw_of (tb_4 _ (List.mem_of_getElem? (i := 222) rfl)) rfl
theorem wd_1046 : (.code ⟨"HouseHeirsModel", "doFrom", "(II)I"⟩ prog_9_method_16_code 4 (Option.some .int) : Cond) ∈ gw := gw_of (tb_4 _ (List.mem_of_getElem? (i := 223) rfl)) rfl
theorem wd_1047 : (.methodLink "HouseHeirsModel" 61 ⟨"HouseHeirsModel", "isHouse", "(I)Z"⟩ : Cond) ∈ gw := gw_of (tb_4 _ (List.mem_of_getElem? (i := 224) rfl)) rfl
theorem wd_1049 : (.instanceMethod ⟨"HouseHeirsModel", "isHouse", "(I)Z"⟩ : Cond) ∈ gw := gw_of (tb_4 _ (List.mem_of_getElem? (i := 226) rfl)) rfl
theorem wd_1050 : (.code ⟨"HouseHeirsModel", "isHouse", "(I)Z"⟩ prog_9_method_12_code 2 (Option.some .boolean) : Cond) ∈ gw := gw_of (tb_4 _ (List.mem_of_getElem? (i := 227) rfl)) rfl
theorem wd_1051 : (.constantLong "HouseHeirsModel" 65 (-1 : Int64) : Cond) ∈ gw := gw_of (tb_4 _ (List.mem_of_getElem? (i := 228) rfl)) rfl
theorem wd_1052 : (.methodLink "HouseHeirsLaw" 31 ⟨"HouseHeirsModel", "will", "(II)I"⟩ : Cond) ∈ gw := gw_of (tb_4 _ (List.mem_of_getElem? (i := 229) rfl)) rfl
theorem wd_1053 : (.instanceMethod ⟨"HouseHeirsModel", "will", "(II)I"⟩ : Cond) ∈ gw := gw_of (tb_4 _ (List.mem_of_getElem? (i := 230) rfl)) rfl
theorem wd_1054 : (.selects "HouseHeirsModel" ⟨"HouseHeirsModel", "will", "(II)I"⟩ ⟨"HouseHeirsModel", "will", "(II)I"⟩ : Cond) ∈ gw := gw_of (tb_4 _ (List.mem_of_getElem? (i := 231) rfl)) rfl
theorem wd_1055 : (.code ⟨"HouseHeirsModel", "will", "(II)I"⟩ prog_9_method_24_code 3 (Option.some .int) : Cond) ∈ gw := gw_of (tb_4 _ (List.mem_of_getElem? (i := 232) rfl)) rfl
theorem wd_1056 : (.methodLink "HouseHeirsModel" 84 ⟨"HouseHeirsModel", "doWill", "(II)I"⟩ : Cond) ∈ gw := gw_of (tb_4 _ (List.mem_of_getElem? (i := 233) rfl)) rfl
theorem wd_1058 : (.instanceMethod ⟨"HouseHeirsModel", "doWill", "(II)I"⟩ : Cond) ∈ gw := gw_of (tb_4 _ (List.mem_of_getElem? (i := 235) rfl)) rfl
theorem wd_1059 : (.code ⟨"HouseHeirsModel", "doWill", "(II)I"⟩ prog_9_method_17_code 4 (Option.some .int) : Cond) ∈ gw := gw_of (tb_4 _ (List.mem_of_getElem? (i := 236) rfl)) rfl
theorem wd_1060 : (.constantLong "HouseHeirsModel" 67 (5 : Int64) : Cond) ∈ gw := gw_of (tb_4 _ (List.mem_of_getElem? (i := 237) rfl)) rfl
theorem wd_1061 : (.methodLink "HouseHeirsLaw" 36 ⟨"HouseHeirsModel", "wall", "(IIZ)I"⟩ : Cond) ∈ gw := gw_of (tb_4 _ (List.mem_of_getElem? (i := 238) rfl)) rfl
theorem wd_1062 : (.instanceMethod ⟨"HouseHeirsModel", "wall", "(IIZ)I"⟩ : Cond) ∈ gw := gw_of (tb_4 _ (List.mem_of_getElem? (i := 239) rfl)) rfl
theorem wd_1063 : (.selects "HouseHeirsModel" ⟨"HouseHeirsModel", "wall", "(IIZ)I"⟩ ⟨"HouseHeirsModel", "wall", "(IIZ)I"⟩ : Cond) ∈ gw := gw_of (tb_5 _ (List.mem_of_getElem? (i := 0) rfl)) rfl
theorem wd_1064 : (.code ⟨"HouseHeirsModel", "wall", "(IIZ)I"⟩ prog_9_method_25_code 4 (Option.some .int) : Cond) ∈ gw := gw_of (tb_5 _ (List.mem_of_getElem? (i := 1) rfl)) rfl
theorem wd_1065 : (.methodLink "HouseHeirsModel" 87 ⟨"HouseHeirsModel", "doWall", "(IIZ)I"⟩ : Cond) ∈ gw := gw_of (tb_5 _ (List.mem_of_getElem? (i := 2) rfl)) rfl
theorem wd_1067 : (.instanceMethod ⟨"HouseHeirsModel", "doWall", "(IIZ)I"⟩ : Cond) ∈ gw := gw_of (tb_5 _ (List.mem_of_getElem? (i := 4) rfl)) rfl
theorem wd_1068 : (.code ⟨"HouseHeirsModel", "doWall", "(IIZ)I"⟩ prog_9_method_18_code 4 (Option.some .int) : Cond) ∈ gw := gw_of (tb_5 _ (List.mem_of_getElem? (i := 5) rfl)) rfl
theorem wd_1069 : (.methodLink "HouseHeirsLaw" 40 ⟨"HouseHeirsModel", "one", "(II)I"⟩ : Cond) ∈ gw := gw_of (tb_5 _ (List.mem_of_getElem? (i := 6) rfl)) rfl
theorem wd_1070 : (.instanceMethod ⟨"HouseHeirsModel", "one", "(II)I"⟩ : Cond) ∈ gw := gw_of (tb_5 _ (List.mem_of_getElem? (i := 7) rfl)) rfl
theorem wd_1071 : (.selects "HouseHeirsModel" ⟨"HouseHeirsModel", "one", "(II)I"⟩ ⟨"HouseHeirsModel", "one", "(II)I"⟩ : Cond) ∈ gw := gw_of (tb_5 _ (List.mem_of_getElem? (i := 8) rfl)) rfl
theorem wd_1072 : (.code ⟨"HouseHeirsModel", "one", "(II)I"⟩ prog_9_method_26_code 3 (Option.some .int) : Cond) ∈ gw := gw_of (tb_5 _ (List.mem_of_getElem? (i := 9) rfl)) rfl
theorem wd_1073 : (.methodLink "HouseHeirsModel" 91 ⟨"HouseHeirsModel", "doOne", "(II)I"⟩ : Cond) ∈ gw := gw_of (tb_5 _ (List.mem_of_getElem? (i := 10) rfl)) rfl
theorem wd_1075 : (.instanceMethod ⟨"HouseHeirsModel", "doOne", "(II)I"⟩ : Cond) ∈ gw := gw_of (tb_5 _ (List.mem_of_getElem? (i := 12) rfl)) rfl
theorem wd_1076 : (.code ⟨"HouseHeirsModel", "doOne", "(II)I"⟩ prog_9_method_19_code 4 (Option.some .int) : Cond) ∈ gw := gw_of (tb_5 _ (List.mem_of_getElem? (i := 13) rfl)) rfl
theorem wd_1077 : (.methodLink "HouseHeirsModel" 69 ⟨"HouseHeirsModel", "isFamily", "(I)Z"⟩ : Cond) ∈ gw := gw_of (tb_5 _ (List.mem_of_getElem? (i := 14) rfl)) rfl
theorem wd_1078 : (.static ⟨"HouseHeirsModel", "isFamily", "(I)Z"⟩ : Cond) ∈ gw := gw_of (tb_5 _ (List.mem_of_getElem? (i := 15) rfl)) rfl
theorem wd_1079 : (.code ⟨"HouseHeirsModel", "isFamily", "(I)Z"⟩ prog_9_method_14_code 1 (Option.some .boolean) : Cond) ∈ gw := gw_of (tb_5 _ (List.mem_of_getElem? (i := 16) rfl)) rfl
theorem wd_1080 : (.constantLong "HouseHeirsModel" 55 (3 : Int64) : Cond) ∈ gw := gw_of (tb_5 _ (List.mem_of_getElem? (i := 17) rfl)) rfl
theorem wd_1081 : (.methodLink "HouseHeirsLaw" 44 ⟨"HouseHeirsModel", "feud", "(IIZ)I"⟩ : Cond) ∈ gw := gw_of (tb_5 _ (List.mem_of_getElem? (i := 18) rfl)) rfl
theorem wd_1082 : (.instanceMethod ⟨"HouseHeirsModel", "feud", "(IIZ)I"⟩ : Cond) ∈ gw := gw_of (tb_5 _ (List.mem_of_getElem? (i := 19) rfl)) rfl
theorem wd_1083 : (.selects "HouseHeirsModel" ⟨"HouseHeirsModel", "feud", "(IIZ)I"⟩ ⟨"HouseHeirsModel", "feud", "(IIZ)I"⟩ : Cond) ∈ gw := gw_of (tb_5 _ (List.mem_of_getElem? (i := 20) rfl)) rfl
theorem wd_1084 : (.code ⟨"HouseHeirsModel", "feud", "(IIZ)I"⟩ prog_9_method_27_code 4 (Option.some .int) : Cond) ∈ gw := gw_of (tb_5 _ (List.mem_of_getElem? (i := 21) rfl)) rfl
theorem wd_1085 : (.methodLink "HouseHeirsModel" 94 ⟨"HouseHeirsModel", "doFeud", "(IIZ)I"⟩ : Cond) ∈ gw := gw_of (tb_5 _ (List.mem_of_getElem? (i := 22) rfl)) rfl
theorem wd_1087 : (.instanceMethod ⟨"HouseHeirsModel", "doFeud", "(IIZ)I"⟩ : Cond) ∈ gw := gw_of (tb_5 _ (List.mem_of_getElem? (i := 24) rfl)) rfl
theorem wd_1088 : (.code ⟨"HouseHeirsModel", "doFeud", "(IIZ)I"⟩ prog_9_method_20_code 4 (Option.some .int) : Cond) ∈ gw := gw_of (tb_5 _ (List.mem_of_getElem? (i := 25) rfl)) rfl
theorem wd_1089 : (.methodLink "HouseHeirsLaw" 48 ⟨"HouseHeirsModel", "mark", "(II)I"⟩ : Cond) ∈ gw := gw_of (tb_5 _ (List.mem_of_getElem? (i := 26) rfl)) rfl
theorem wd_1090 : (.instanceMethod ⟨"HouseHeirsModel", "mark", "(II)I"⟩ : Cond) ∈ gw := gw_of (tb_5 _ (List.mem_of_getElem? (i := 27) rfl)) rfl
theorem wd_1091 : (.selects "HouseHeirsModel" ⟨"HouseHeirsModel", "mark", "(II)I"⟩ ⟨"HouseHeirsModel", "mark", "(II)I"⟩ : Cond) ∈ gw := gw_of (tb_5 _ (List.mem_of_getElem? (i := 28) rfl)) rfl
theorem wd_1092 : (.code ⟨"HouseHeirsModel", "mark", "(II)I"⟩ prog_9_method_28_code 4 (Option.some .int) : Cond) ∈ gw := gw_of (tb_5 _ (List.mem_of_getElem? (i := 29) rfl)) rfl
theorem wd_1093 : (.constantLong "HouseHeirsModel" 97 (255 : Int64) : Cond) ∈ gw := gw_of (tb_5 _ (List.mem_of_getElem? (i := 30) rfl)) rfl
theorem wd_1094 : (.methodLink "HouseHeirsModel" 99 ⟨"HouseHeirsModel", "bad", "(I)I"⟩ : Cond) ∈ gw := gw_of (tb_5 _ (List.mem_of_getElem? (i := 31) rfl)) rfl
theorem wd_1096 : (.instanceMethod ⟨"HouseHeirsModel", "bad", "(I)I"⟩ : Cond) ∈ gw := gw_of (tb_5 _ (List.mem_of_getElem? (i := 33) rfl)) rfl
theorem wd_1097 : (.code ⟨"HouseHeirsModel", "bad", "(I)I"⟩ prog_9_method_6_code 2 (Option.some .int) : Cond) ∈ gw := gw_of (tb_5 _ (List.mem_of_getElem? (i := 34) rfl)) rfl
theorem wd_1098 : (.methodLink "HouseHeirsLaw" 53 ⟨"HouseHeirsModel", "type", "(I)I"⟩ : Cond) ∈ gw := gw_of (tb_5 _ (List.mem_of_getElem? (i := 35) rfl)) rfl
theorem wd_1099 : (.instanceMethod ⟨"HouseHeirsModel", "type", "(I)I"⟩ : Cond) ∈ gw := gw_of (tb_5 _ (List.mem_of_getElem? (i := 36) rfl)) rfl
theorem wd_1100 : (.selects "HouseHeirsModel" ⟨"HouseHeirsModel", "type", "(I)I"⟩ ⟨"HouseHeirsModel", "type", "(I)I"⟩ : Cond) ∈ gw := gw_of (tb_5 _ (List.mem_of_getElem? (i := 37) rfl)) rfl
theorem wd_1101 : (.code ⟨"HouseHeirsModel", "type", "(I)I"⟩ prog_9_method_29_code 2 (Option.some .int) : Cond) ∈ gw := gw_of (tb_5 _ (List.mem_of_getElem? (i := 38) rfl)) rfl
theorem wd_1102 : (.constantLong "HouseHeirsModel" 102 (127 : Int64) : Cond) ∈ gw := gw_of (tb_5 _ (List.mem_of_getElem? (i := 39) rfl)) rfl
theorem wd_1103 : (.methodLink "HouseHeirsLaw" 57 ⟨"HouseHeirsModel", "clear", "()I"⟩ : Cond) ∈ gw := gw_of (tb_5 _ (List.mem_of_getElem? (i := 40) rfl)) rfl
theorem wd_1104 : (.instanceMethod ⟨"HouseHeirsModel", "clear", "()I"⟩ : Cond) ∈ gw := gw_of (tb_5 _ (List.mem_of_getElem? (i := 41) rfl)) rfl
theorem wd_1105 : (.selects "HouseHeirsModel" ⟨"HouseHeirsModel", "clear", "()I"⟩ ⟨"HouseHeirsModel", "clear", "()I"⟩ : Cond) ∈ gw := gw_of (tb_5 _ (List.mem_of_getElem? (i := 42) rfl)) rfl
theorem wd_1106 : (.code ⟨"HouseHeirsModel", "clear", "()I"⟩ prog_9_method_30_code 2 (Option.some .int) : Cond) ∈ gw := gw_of (tb_5 _ (List.mem_of_getElem? (i := 43) rfl)) rfl
theorem wd_1107 : (.methodLink "HouseHeirsLaw" 61 ⟨"HouseHeirsModel", "read", "()I"⟩ : Cond) ∈ gw := gw_of (tb_5 _ (List.mem_of_getElem? (i := 44) rfl)) rfl
theorem wd_1108 : (.instanceMethod ⟨"HouseHeirsModel", "read", "()I"⟩ : Cond) ∈ gw := gw_of (tb_5 _ (List.mem_of_getElem? (i := 45) rfl)) rfl
theorem wd_1109 : (.selects "HouseHeirsModel" ⟨"HouseHeirsModel", "read", "()I"⟩ ⟨"HouseHeirsModel", "read", "()I"⟩ : Cond) ∈ gw := gw_of (tb_5 _ (List.mem_of_getElem? (i := 46) rfl)) rfl
theorem wd_1110 : (.code ⟨"HouseHeirsModel", "read", "()I"⟩ prog_9_method_35_code 3 (Option.some .int) : Cond) ∈ gw := gw_of (tb_5 _ (List.mem_of_getElem? (i := 47) rfl)) rfl
theorem wd_1111 : (.methodLink "HouseHeirsModel" 157 ⟨"HouseHeirsModel", "reads", "()I"⟩ : Cond) ∈ gw := gw_of (tb_5 _ (List.mem_of_getElem? (i := 48) rfl)) rfl
theorem wd_1113 : (.instanceMethod ⟨"HouseHeirsModel", "reads", "()I"⟩ : Cond) ∈ gw := gw_of (tb_5 _ (List.mem_of_getElem? (i := 50) rfl)) rfl
theorem wd_1114 : (.code ⟨"HouseHeirsModel", "reads", "()I"⟩ prog_9_method_33_code 3 (Option.some .int) : Cond) ∈ gw := gw_of (tb_5 _ (List.mem_of_getElem? (i := 51) rfl)) rfl
theorem wd_1115 : (.methodLink "HouseHeirsModel" 150 ⟨"HouseHeirsModel", "next", "()V"⟩ : Cond) ∈ gw := gw_of (tb_5 _ (List.mem_of_getElem? (i := 52) rfl)) rfl
theorem wd_1117 : (.instanceMethod ⟨"HouseHeirsModel", "next", "()V"⟩ : Cond) ∈ gw := gw_of (tb_5 _ (List.mem_of_getElem? (i := 54) rfl)) rfl
theorem wd_1118 : (.code ⟨"HouseHeirsModel", "next", "()V"⟩ prog_9_method_31_code 2 (Option.none : Option Jvm.ClassFile.FieldType) : Cond) ∈ gw := gw_of (tb_5 _ (List.mem_of_getElem? (i := 55) rfl)) rfl
theorem wd_1119 : (.constantLong "HouseHeirsModel" 114 (97 : Int64) : Cond) ∈ gw := gw_of (tb_5 _ (List.mem_of_getElem? (i := 56) rfl)) rfl
theorem wd_1120 : (.constantLong "HouseHeirsModel" 116 (122 : Int64) : Cond) ∈ gw := gw_of (tb_5 _ (List.mem_of_getElem? (i := 57) rfl)) rfl
theorem wd_1121 : (.constantLong "HouseHeirsModel" 118 (48 : Int64) : Cond) ∈ gw := gw_of (tb_5 _ (List.mem_of_getElem? (i := 58) rfl)) rfl
theorem wd_1122 : (.constantLong "HouseHeirsModel" 120 (57 : Int64) : Cond) ∈ gw := gw_of (tb_5 _ (List.mem_of_getElem? (i := 59) rfl)) rfl
theorem wd_1123 : (.constantLong "HouseHeirsModel" 131 (256 : Int64) : Cond) ∈ gw := gw_of (tb_5 _ (List.mem_of_getElem? (i := 60) rfl)) rfl
theorem wd_1124 : (.methodLink "HouseHeirsModel" 153 ⟨"HouseHeirsModel", "itemOf", "(J)I"⟩ : Cond) ∈ gw := gw_of (tb_5 _ (List.mem_of_getElem? (i := 61) rfl)) rfl
theorem wd_1125 : (.static ⟨"HouseHeirsModel", "itemOf", "(J)I"⟩ : Cond) ∈ gw := gw_of (tb_5 _ (List.mem_of_getElem? (i := 62) rfl)) rfl
theorem wd_1126 : (.code ⟨"HouseHeirsModel", "itemOf", "(J)I"⟩ prog_9_method_32_code 2 (Option.some .int) : Cond) ∈ gw := gw_of (tb_5 _ (List.mem_of_getElem? (i := 63) rfl)) rfl
theorem wd_1127 : (.constantLong "HouseHeirsModel" 133 (126943972648308 : Int64) : Cond) ∈ gw := gw_of (tb_5 _ (List.mem_of_getElem? (i := 64) rfl)) rfl
theorem wd_1128 : (.constantLong "HouseHeirsModel" 135 (448546567013 : Int64) : Cond) ∈ gw := gw_of (tb_5 _ (List.mem_of_getElem? (i := 65) rfl)) rfl
theorem wd_1129 : (.constantLong "HouseHeirsModel" 137 (1718775661 : Int64) : Cond) ∈ gw := gw_of (tb_5 _ (List.mem_of_getElem? (i := 66) rfl)) rfl
theorem wd_1130 : (.constantLong "HouseHeirsModel" 139 (2003397740 : Int64) : Cond) ∈ gw := gw_of (tb_5 _ (List.mem_of_getElem? (i := 67) rfl)) rfl
theorem wd_1131 : (.constantLong "HouseHeirsModel" 141 (2002873452 : Int64) : Cond) ∈ gw := gw_of (tb_5 _ (List.mem_of_getElem? (i := 68) rfl)) rfl
theorem wd_1132 : (.constantLong "HouseHeirsModel" 143 (7302757 : Int64) : Cond) ∈ gw := gw_of (tb_5 _ (List.mem_of_getElem? (i := 69) rfl)) rfl
theorem wd_1133 : (.constantLong "HouseHeirsModel" 145 (1717925220 : Int64) : Cond) ∈ gw := gw_of (tb_5 _ (List.mem_of_getElem? (i := 70) rfl)) rfl
theorem wd_1134 : (.methodLink "HouseHeirsModel" 161 ⟨"HouseHeirsModel", "copies", "([II[III)V"⟩ : Cond) ∈ gw := gw_of (tb_5 _ (List.mem_of_getElem? (i := 71) rfl)) rfl
theorem wd_1135 : (.static ⟨"HouseHeirsModel", "copies", "([II[III)V"⟩ : Cond) ∈ gw := gw_of (tb_5 _ (List.mem_of_getElem? (i := 72) rfl)) rfl
theorem wd_1136 : (.code ⟨"HouseHeirsModel", "copies", "([II[III)V"⟩ prog_9_method_10_code 6 (Option.none : Option Jvm.ClassFile.FieldType) : Cond) ∈ gw := gw_of (tb_5 _ (List.mem_of_getElem? (i := 73) rfl)) rfl
theorem wd_1137 : (.methodLink "HouseHeirsModel" 165 ⟨"HouseHeirsModel", "doItem", "(I)I"⟩ : Cond) ∈ gw := gw_of (tb_5 _ (List.mem_of_getElem? (i := 74) rfl)) rfl
theorem wd_1139 : (.instanceMethod ⟨"HouseHeirsModel", "doItem", "(I)I"⟩ : Cond) ∈ gw := gw_of (tb_5 _ (List.mem_of_getElem? (i := 76) rfl)) rfl
theorem wd_1140 : (.code ⟨"HouseHeirsModel", "doItem", "(I)I"⟩ prog_9_method_34_code 4 (Option.some .int) : Cond) ∈ gw := gw_of (tb_5 _ (List.mem_of_getElem? (i := 77) rfl)) rfl
theorem wd_1141 : (.methodLink "HouseHeirsLaw" 65 ⟨"HouseHeirsModel", "fall", "(I)I"⟩ : Cond) ∈ gw := gw_of (tb_5 _ (List.mem_of_getElem? (i := 78) rfl)) rfl
theorem wd_1142 : (.instanceMethod ⟨"HouseHeirsModel", "fall", "(I)I"⟩ : Cond) ∈ gw := gw_of (tb_5 _ (List.mem_of_getElem? (i := 79) rfl)) rfl
theorem wd_1143 : (.selects "HouseHeirsModel" ⟨"HouseHeirsModel", "fall", "(I)I"⟩ ⟨"HouseHeirsModel", "fall", "(I)I"⟩ : Cond) ∈ gw := gw_of (tb_5 _ (List.mem_of_getElem? (i := 80) rfl)) rfl
theorem wd_1144 : (.code ⟨"HouseHeirsModel", "fall", "(I)I"⟩ prog_9_method_47_code 2 (Option.some .int) : Cond) ∈ gw := gw_of (tb_5 _ (List.mem_of_getElem? (i := 81) rfl)) rfl
theorem wd_1145 : (.methodLink "HouseHeirsModel" 205 ⟨"HouseHeirsModel", "no", "(I)I"⟩ : Cond) ∈ gw := gw_of (tb_5 _ (List.mem_of_getElem? (i := 82) rfl)) rfl
theorem wd_1147 : (.instanceMethod ⟨"HouseHeirsModel", "no", "(I)I"⟩ : Cond) ∈ gw := gw_of (tb_5 _ (List.mem_of_getElem? (i := 84) rfl)) rfl
theorem wd_1148 : (.code ⟨"HouseHeirsModel", "no", "(I)I"⟩ prog_9_method_7_code 2 (Option.some .int) : Cond) ∈ gw := gw_of (tb_5 _ (List.mem_of_getElem? (i := 85) rfl)) rfl
theorem wd_1149 : (.methodLink "HouseHeirsModel" 208 ⟨"HouseHeirsModel", "remember", "()V"⟩ : Cond) ∈ gw := gw_of (tb_5 _ (List.mem_of_getElem? (i := 86) rfl)) rfl
theorem wd_1151 : (.instanceMethod ⟨"HouseHeirsModel", "remember", "()V"⟩ : Cond) ∈ gw := gw_of (tb_5 _ (List.mem_of_getElem? (i := 88) rfl)) rfl
theorem wd_1152 : (.code ⟨"HouseHeirsModel", "remember", "()V"⟩ prog_9_method_46_code 2 (Option.none : Option Jvm.ClassFile.FieldType) : Cond) ∈ gw := gw_of (tb_5 _ (List.mem_of_getElem? (i := 89) rfl)) rfl
theorem wd_1153 : (.methodLink "HouseHeirsModel" 202 ⟨"HouseHeirsModel", "falls", "([II)I"⟩ : Cond) ∈ gw := gw_of (tb_5 _ (List.mem_of_getElem? (i := 90) rfl)) rfl
theorem wd_1155 : (.instanceMethod ⟨"HouseHeirsModel", "falls", "([II)I"⟩ : Cond) ∈ gw := gw_of (tb_5 _ (List.mem_of_getElem? (i := 92) rfl)) rfl
theorem wd_1156 : (.code ⟨"HouseHeirsModel", "falls", "([II)I"⟩ prog_9_method_42_code 5 (Option.some .int) : Cond) ∈ gw := gw_of (tb_5 _ (List.mem_of_getElem? (i := 93) rfl)) rfl
theorem wd_1157 : (.methodLink "HouseHeirsModel" 195 ⟨"HouseHeirsModel", "heirOn", "([III)I"⟩ : Cond) ∈ gw := gw_of (tb_5 _ (List.mem_of_getElem? (i := 94) rfl)) rfl
theorem wd_1159 : (.instanceMethod ⟨"HouseHeirsModel", "heirOn", "([III)I"⟩ : Cond) ∈ gw := gw_of (tb_5 _ (List.mem_of_getElem? (i := 96) rfl)) rfl
theorem wd_1160 : (.code ⟨"HouseHeirsModel", "heirOn", "([III)I"⟩ prog_9_method_41_code 8 (Option.some .int) : Cond) ∈ gw := gw_of (tb_5 _ (List.mem_of_getElem? (i := 97) rfl)) rfl
theorem wd_1161 : (.methodLink "HouseHeirsModel" 191 ⟨"HouseHeirsModel", "rankOn", "([IIII)I"⟩ : Cond) ∈ gw := gw_of (tb_5 _ (List.mem_of_getElem? (i := 98) rfl)) rfl
theorem wd_1163 : (.instanceMethod ⟨"HouseHeirsModel", "rankOn", "([IIII)I"⟩ : Cond) ∈ gw := gw_of (tb_5 _ (List.mem_of_getElem? (i := 100) rfl)) rfl
theorem wd_1164 : (.code ⟨"HouseHeirsModel", "rankOn", "([IIII)I"⟩ prog_9_method_40_code 9 (Option.some .int) : Cond) ∈ gw := gw_of (tb_5 _ (List.mem_of_getElem? (i := 101) rfl)) rfl
theorem wd_1165 : (.methodLink "HouseHeirsModel" 177 ⟨"HouseHeirsModel", "degreeOn", "([III)I"⟩ : Cond) ∈ gw := gw_of (tb_5 _ (List.mem_of_getElem? (i := 102) rfl)) rfl
theorem wd_1167 : (.instanceMethod ⟨"HouseHeirsModel", "degreeOn", "([III)I"⟩ : Cond) ∈ gw := gw_of (tb_5 _ (List.mem_of_getElem? (i := 104) rfl)) rfl
theorem wd_1168 : (.code ⟨"HouseHeirsModel", "degreeOn", "([III)I"⟩ prog_9_method_37_code 7 (Option.some .int) : Cond) ∈ gw := gw_of (tb_5 _ (List.mem_of_getElem? (i := 105) rfl)) rfl
theorem wd_1169 : (.constant "HouseHeirsModel" 168 (1000000 : Int32) : Cond) ∈ gw := gw_of (tb_5 _ (List.mem_of_getElem? (i := 106) rfl)) rfl
theorem wd_1170 : (.methodLink "HouseHeirsModel" 169 ⟨"HouseHeirsModel", "isKin", "([III)Z"⟩ : Cond) ∈ gw := gw_of (tb_5 _ (List.mem_of_getElem? (i := 107) rfl)) rfl
theorem wd_1171 : (.static ⟨"HouseHeirsModel", "isKin", "([III)Z"⟩ : Cond) ∈ gw := gw_of (tb_5 _ (List.mem_of_getElem? (i := 108) rfl)) rfl
theorem wd_1172 : (.code ⟨"HouseHeirsModel", "isKin", "([III)Z"⟩ prog_9_method_36_code 4 (Option.some .boolean) : Cond) ∈ gw := gw_of (tb_5 _ (List.mem_of_getElem? (i := 109) rfl)) rfl
theorem wd_1173 : (.methodLink "HouseHeirsModel" 181 ⟨"HouseHeirsModel", "livingIn", "([II)I"⟩ : Cond) ∈ gw := gw_of (tb_5 _ (List.mem_of_getElem? (i := 110) rfl)) rfl
theorem wd_1174 : (.static ⟨"HouseHeirsModel", "livingIn", "([II)I"⟩ : Cond) ∈ gw := gw_of (tb_5 _ (List.mem_of_getElem? (i := 111) rfl)) rfl
theorem wd_1175 : (.code ⟨"HouseHeirsModel", "livingIn", "([II)I"⟩ prog_9_method_38_code 4 (Option.some .int) : Cond) ∈ gw := gw_of (tb_5 _ (List.mem_of_getElem? (i := 112) rfl)) rfl
theorem wd_1176 : (.methodLink "HouseHeirsModel" 185 ⟨"HouseHeirsModel", "bits", "(I)I"⟩ : Cond) ∈ gw := gw_of (tb_5 _ (List.mem_of_getElem? (i := 113) rfl)) rfl
theorem wd_1177 : (.static ⟨"HouseHeirsModel", "bits", "(I)I"⟩ : Cond) ∈ gw := gw_of (tb_5 _ (List.mem_of_getElem? (i := 114) rfl)) rfl
theorem wd_1178 : (.code ⟨"HouseHeirsModel", "bits", "(I)I"⟩ prog_9_method_8_code 3 (Option.some .int) : Cond) ∈ gw := gw_of (tb_5 _ (List.mem_of_getElem? (i := 115) rfl)) rfl
theorem wd_1179 : (.methodLink "HouseHeirsModel" 188 ⟨"HouseHeirsModel", "isFeud", "([III)Z"⟩ : Cond) ∈ gw := gw_of (tb_5 _ (List.mem_of_getElem? (i := 116) rfl)) rfl
theorem wd_1180 : (.static ⟨"HouseHeirsModel", "isFeud", "([III)Z"⟩ : Cond) ∈ gw := gw_of (tb_5 _ (List.mem_of_getElem? (i := 117) rfl)) rfl
theorem wd_1181 : (.code ⟨"HouseHeirsModel", "isFeud", "([III)Z"⟩ prog_9_method_39_code 6 (Option.some .boolean) : Cond) ∈ gw := gw_of (tb_5 _ (List.mem_of_getElem? (i := 118) rfl)) rfl
theorem wd_1182 : (.methodLink "HouseHeirsModel" 173 ⟨"HouseHeirsModel", "holds", "(II)Z"⟩ : Cond) ∈ gw := gw_of (tb_5 _ (List.mem_of_getElem? (i := 119) rfl)) rfl
theorem wd_1183 : (.static ⟨"HouseHeirsModel", "holds", "(II)Z"⟩ : Cond) ∈ gw := gw_of (tb_5 _ (List.mem_of_getElem? (i := 120) rfl)) rfl
theorem wd_1184 : (.code ⟨"HouseHeirsModel", "holds", "(II)Z"⟩ prog_9_method_9_code 2 (Option.some .boolean) : Cond) ∈ gw := gw_of (tb_5 _ (List.mem_of_getElem? (i := 121) rfl)) rfl
theorem wd_1185 : (.methodLink "HouseHeirsLaw" 69 ⟨"HouseHeirsModel", "year", "(I)I"⟩ : Cond) ∈ gw := gw_of (tb_5 _ (List.mem_of_getElem? (i := 122) rfl)) rfl
theorem wd_1186 : (.instanceMethod ⟨"HouseHeirsModel", "year", "(I)I"⟩ : Cond) ∈ gw := gw_of (tb_5 _ (List.mem_of_getElem? (i := 123) rfl)) rfl
theorem wd_1187 : (.selects "HouseHeirsModel" ⟨"HouseHeirsModel", "year", "(I)I"⟩ ⟨"HouseHeirsModel", "year", "(I)I"⟩ : Cond) ∈ gw := gw_of (tb_5 _ (List.mem_of_getElem? (i := 124) rfl)) rfl
theorem wd_1188 : (.code ⟨"HouseHeirsModel", "year", "(I)I"⟩ prog_9_method_48_code 3 (Option.some .int) : Cond) ∈ gw := gw_of (tb_5 _ (List.mem_of_getElem? (i := 125) rfl)) rfl
theorem wd_1189 : (.constantLong "HouseHeirsModel" 211 (20 : Int64) : Cond) ∈ gw := gw_of (tb_5 _ (List.mem_of_getElem? (i := 126) rfl)) rfl
theorem wd_1190 : (.methodLink "HouseHeirsModel" 213 ⟨"HouseHeirsModel", "yearGoes", "([I)V"⟩ : Cond) ∈ gw := gw_of (tb_5 _ (List.mem_of_getElem? (i := 127) rfl)) rfl
theorem wd_1192 : (.instanceMethod ⟨"HouseHeirsModel", "yearGoes", "([I)V"⟩ : Cond) ∈ gw := gw_of (tb_5 _ (List.mem_of_getElem? (i := 129) rfl)) rfl
theorem wd_1193 : (.code ⟨"HouseHeirsModel", "yearGoes", "([I)V"⟩ prog_9_method_44_code 3 (Option.none : Option Jvm.ClassFile.FieldType) : Cond) ∈ gw := gw_of (tb_5 _ (List.mem_of_getElem? (i := 130) rfl)) rfl
theorem wd_1194 : (.methodLink "HouseHeirsModel" 198 ⟨"HouseHeirsModel", "isOverfull", "([II)Z"⟩ : Cond) ∈ gw := gw_of (tb_5 _ (List.mem_of_getElem? (i := 131) rfl)) rfl
theorem wd_1195 : (.static ⟨"HouseHeirsModel", "isOverfull", "([II)Z"⟩ : Cond) ∈ gw := gw_of (tb_5 _ (List.mem_of_getElem? (i := 132) rfl)) rfl
theorem wd_1196 : (.code ⟨"HouseHeirsModel", "isOverfull", "([II)Z"⟩ prog_9_method_43_code 2 (Option.some .boolean) : Cond) ∈ gw := gw_of (tb_5 _ (List.mem_of_getElem? (i := 133) rfl)) rfl
theorem wd_1197 : (.methodLink "HouseHeirsModel" 217 ⟨"HouseHeirsModel", "standing", "([I)I"⟩ : Cond) ∈ gw := gw_of (tb_5 _ (List.mem_of_getElem? (i := 134) rfl)) rfl
theorem wd_1198 : (.static ⟨"HouseHeirsModel", "standing", "([I)I"⟩ : Cond) ∈ gw := gw_of (tb_5 _ (List.mem_of_getElem? (i := 135) rfl)) rfl
theorem wd_1199 : (.code ⟨"HouseHeirsModel", "standing", "([I)I"⟩ prog_9_method_45_code 3 (Option.some .int) : Cond) ∈ gw := gw_of (tb_5 _ (List.mem_of_getElem? (i := 136) rfl)) rfl
theorem wd_1200 : (.methodLink "HouseHeirsLaw" 73 ⟨"HouseHeirsModel", "move", "(II)I"⟩ : Cond) ∈ gw := gw_of (tb_5 _ (List.mem_of_getElem? (i := 137) rfl)) rfl
theorem wd_1201 : (.instanceMethod ⟨"HouseHeirsModel", "move", "(II)I"⟩ : Cond) ∈ gw := gw_of (tb_5 _ (List.mem_of_getElem? (i := 138) rfl)) rfl
theorem wd_1202 : (.selects "HouseHeirsModel" ⟨"HouseHeirsModel", "move", "(II)I"⟩ ⟨"HouseHeirsModel", "move", "(II)I"⟩ : Cond) ∈ gw := gw_of (tb_5 _ (List.mem_of_getElem? (i := 139) rfl)) rfl
theorem wd_1203 : (.code ⟨"HouseHeirsModel", "move", "(II)I"⟩ prog_9_method_49_code 4 (Option.some .int) : Cond) ∈ gw := gw_of (tb_5 _ (List.mem_of_getElem? (i := 140) rfl)) rfl
theorem wd_1204 : (.methodLink "HouseHeirsModel" 221 ⟨"HouseHeirsModel", "isOne", "(I)Z"⟩ : Cond) ∈ gw := gw_of (tb_5 _ (List.mem_of_getElem? (i := 141) rfl)) rfl
theorem wd_1206 : (.instanceMethod ⟨"HouseHeirsModel", "isOne", "(I)Z"⟩ : Cond) ∈ gw := gw_of (tb_5 _ (List.mem_of_getElem? (i := 143) rfl)) rfl
theorem wd_1207 : (.code ⟨"HouseHeirsModel", "isOne", "(I)Z"⟩ prog_9_method_13_code 2 (Option.some .boolean) : Cond) ∈ gw := gw_of (tb_5 _ (List.mem_of_getElem? (i := 144) rfl)) rfl
theorem wd_1208 : (.methodLink "HouseHeirsLaw" 77 ⟨"HouseHeirsModel", "undo", "()I"⟩ : Cond) ∈ gw := gw_of (tb_5 _ (List.mem_of_getElem? (i := 145) rfl)) rfl
theorem wd_1209 : (.instanceMethod ⟨"HouseHeirsModel", "undo", "()I"⟩ : Cond) ∈ gw := gw_of (tb_5 _ (List.mem_of_getElem? (i := 146) rfl)) rfl
theorem wd_1210 : (.selects "HouseHeirsModel" ⟨"HouseHeirsModel", "undo", "()I"⟩ ⟨"HouseHeirsModel", "undo", "()I"⟩ : Cond) ∈ gw := gw_of (tb_5 _ (List.mem_of_getElem? (i := 147) rfl)) rfl
theorem wd_1211 : (.code ⟨"HouseHeirsModel", "undo", "()I"⟩ prog_9_method_50_code 2 (Option.some .int) : Cond) ∈ gw := gw_of (tb_5 _ (List.mem_of_getElem? (i := 148) rfl)) rfl
theorem wd_1212 : (.methodLink "HouseHeirsLaw" 81 ⟨"HouseHeirsModel", "of", "(II)I"⟩ : Cond) ∈ gw := gw_of (tb_5 _ (List.mem_of_getElem? (i := 149) rfl)) rfl
theorem wd_1213 : (.instanceMethod ⟨"HouseHeirsModel", "of", "(II)I"⟩ : Cond) ∈ gw := gw_of (tb_5 _ (List.mem_of_getElem? (i := 150) rfl)) rfl
theorem wd_1214 : (.selects "HouseHeirsModel" ⟨"HouseHeirsModel", "of", "(II)I"⟩ ⟨"HouseHeirsModel", "of", "(II)I"⟩ : Cond) ∈ gw := gw_of (tb_5 _ (List.mem_of_getElem? (i := 151) rfl)) rfl
theorem wd_1215 : (.code ⟨"HouseHeirsModel", "of", "(II)I"⟩ prog_9_method_51_code 3 (Option.some .int) : Cond) ∈ gw := gw_of (tb_5 _ (List.mem_of_getElem? (i := 152) rfl)) rfl
theorem wd_1216 : (.constantLong "HouseHeirsModel" 224 (7 : Int64) : Cond) ∈ gw := gw_of (tb_5 _ (List.mem_of_getElem? (i := 153) rfl)) rfl
theorem wd_1217 : (.methodLink "HouseHeirsLaw" 85 ⟨"HouseHeirsModel", "who", "(II)I"⟩ : Cond) ∈ gw := gw_of (tb_5 _ (List.mem_of_getElem? (i := 154) rfl)) rfl
theorem wd_1218 : (.instanceMethod ⟨"HouseHeirsModel", "who", "(II)I"⟩ : Cond) ∈ gw := gw_of (tb_5 _ (List.mem_of_getElem? (i := 155) rfl)) rfl
theorem wd_1219 : (.selects "HouseHeirsModel" ⟨"HouseHeirsModel", "who", "(II)I"⟩ ⟨"HouseHeirsModel", "who", "(II)I"⟩ : Cond) ∈ gw := gw_of (tb_5 _ (List.mem_of_getElem? (i := 156) rfl)) rfl
theorem wd_1220 : (.code ⟨"HouseHeirsModel", "who", "(II)I"⟩ prog_9_method_52_code 3 (Option.some .int) : Cond) ∈ gw := gw_of (tb_5 _ (List.mem_of_getElem? (i := 157) rfl)) rfl
theorem wd_1221 : (.methodLink "HouseHeirsModel" 226 ⟨"HouseHeirsModel", "isTwo", "(I)Z"⟩ : Cond) ∈ gw := gw_of (tb_5 _ (List.mem_of_getElem? (i := 158) rfl)) rfl
theorem wd_1222 : (.static ⟨"HouseHeirsModel", "isTwo", "(I)Z"⟩ : Cond) ∈ gw := gw_of (tb_5 _ (List.mem_of_getElem? (i := 159) rfl)) rfl
theorem wd_1223 : (.code ⟨"HouseHeirsModel", "isTwo", "(I)Z"⟩ prog_9_method_4_code 1 (Option.some .boolean) : Cond) ∈ gw := gw_of (tb_5 _ (List.mem_of_getElem? (i := 160) rfl)) rfl
theorem wd_1224 : (.methodLink "HouseHeirsLaw" 89 ⟨"HouseHeirsModel", "degree", "(II)I"⟩ : Cond) ∈ gw := gw_of (tb_5 _ (List.mem_of_getElem? (i := 161) rfl)) rfl
theorem wd_1225 : (.instanceMethod ⟨"HouseHeirsModel", "degree", "(II)I"⟩ : Cond) ∈ gw := gw_of (tb_5 _ (List.mem_of_getElem? (i := 162) rfl)) rfl
theorem wd_1226 : (.selects "HouseHeirsModel" ⟨"HouseHeirsModel", "degree", "(II)I"⟩ ⟨"HouseHeirsModel", "degree", "(II)I"⟩ : Cond) ∈ gw := gw_of (tb_5 _ (List.mem_of_getElem? (i := 163) rfl)) rfl
theorem wd_1227 : (.code ⟨"HouseHeirsModel", "degree", "(II)I"⟩ prog_9_method_53_code 3 (Option.some .int) : Cond) ∈ gw := gw_of (tb_5 _ (List.mem_of_getElem? (i := 164) rfl)) rfl
theorem wd_1228 : (.methodLink "HouseHeirsLaw" 93 ⟨"HouseHeirsModel", "rank", "(II)I"⟩ : Cond) ∈ gw := gw_of (tb_5 _ (List.mem_of_getElem? (i := 165) rfl)) rfl
theorem wd_1229 : (.instanceMethod ⟨"HouseHeirsModel", "rank", "(II)I"⟩ : Cond) ∈ gw := gw_of (tb_5 _ (List.mem_of_getElem? (i := 166) rfl)) rfl
theorem wd_1230 : (.selects "HouseHeirsModel" ⟨"HouseHeirsModel", "rank", "(II)I"⟩ ⟨"HouseHeirsModel", "rank", "(II)I"⟩ : Cond) ∈ gw := gw_of (tb_5 _ (List.mem_of_getElem? (i := 167) rfl)) rfl
theorem wd_1231 : (.code ⟨"HouseHeirsModel", "rank", "(II)I"⟩ prog_9_method_54_code 3 (Option.some .int) : Cond) ∈ gw := gw_of (tb_5 _ (List.mem_of_getElem? (i := 168) rfl)) rfl
theorem wd_1232 : (.methodLink "HouseHeirsLaw" 97 ⟨"HouseHeirsModel", "heir", "(I)I"⟩ : Cond) ∈ gw := gw_of (tb_5 _ (List.mem_of_getElem? (i := 169) rfl)) rfl
theorem wd_1233 : (.instanceMethod ⟨"HouseHeirsModel", "heir", "(I)I"⟩ : Cond) ∈ gw := gw_of (tb_5 _ (List.mem_of_getElem? (i := 170) rfl)) rfl
theorem wd_1234 : (.selects "HouseHeirsModel" ⟨"HouseHeirsModel", "heir", "(I)I"⟩ ⟨"HouseHeirsModel", "heir", "(I)I"⟩ : Cond) ∈ gw := gw_of (tb_5 _ (List.mem_of_getElem? (i := 171) rfl)) rfl
theorem wd_1235 : (.code ⟨"HouseHeirsModel", "heir", "(I)I"⟩ prog_9_method_55_code 2 (Option.some .int) : Cond) ∈ gw := gw_of (tb_5 _ (List.mem_of_getElem? (i := 172) rfl)) rfl
theorem wd_1236 : (.methodLink "HouseHeirsLaw" 101 ⟨"HouseHeirsModel", "wills", "(II)I"⟩ : Cond) ∈ gw := gw_of (tb_5 _ (List.mem_of_getElem? (i := 173) rfl)) rfl
theorem wd_1237 : (.instanceMethod ⟨"HouseHeirsModel", "wills", "(II)I"⟩ : Cond) ∈ gw := gw_of (tb_5 _ (List.mem_of_getElem? (i := 174) rfl)) rfl
theorem wd_1238 : (.selects "HouseHeirsModel" ⟨"HouseHeirsModel", "wills", "(II)I"⟩ ⟨"HouseHeirsModel", "wills", "(II)I"⟩ : Cond) ∈ gw := gw_of (tb_5 _ (List.mem_of_getElem? (i := 175) rfl)) rfl
theorem wd_1239 : (.code ⟨"HouseHeirsModel", "wills", "(II)I"⟩ prog_9_method_56_code 5 (Option.some .int) : Cond) ∈ gw := gw_of (tb_5 _ (List.mem_of_getElem? (i := 176) rfl)) rfl
theorem wd_1240 : (.methodLink "HouseHeirsLaw" 105 ⟨"HouseHeirsModel", "buildFor", "(II)I"⟩ : Cond) ∈ gw := gw_of (tb_5 _ (List.mem_of_getElem? (i := 177) rfl)) rfl
theorem wd_1241 : (.instanceMethod ⟨"HouseHeirsModel", "buildFor", "(II)I"⟩ : Cond) ∈ gw := gw_of (tb_5 _ (List.mem_of_getElem? (i := 178) rfl)) rfl
theorem wd_1242 : (.selects "HouseHeirsModel" ⟨"HouseHeirsModel", "buildFor", "(II)I"⟩ ⟨"HouseHeirsModel", "buildFor", "(II)I"⟩ : Cond) ∈ gw := gw_of (tb_5 _ (List.mem_of_getElem? (i := 179) rfl)) rfl
theorem wd_1243 : (.code ⟨"HouseHeirsModel", "buildFor", "(II)I"⟩ prog_9_method_60_code 5 (Option.some .int) : Cond) ∈ gw := gw_of (tb_5 _ (List.mem_of_getElem? (i := 180) rfl)) rfl
theorem wd_1244 : (.methodLink "HouseHeirsModel" 232 ⟨"HouseHeirsModel", "mayHaveWall", "(II)Z"⟩ : Cond) ∈ gw := gw_of (tb_5 _ (List.mem_of_getElem? (i := 181) rfl)) rfl
theorem wd_1246 : (.instanceMethod ⟨"HouseHeirsModel", "mayHaveWall", "(II)Z"⟩ : Cond) ∈ gw := gw_of (tb_5 _ (List.mem_of_getElem? (i := 183) rfl)) rfl
theorem wd_1247 : (.code ⟨"HouseHeirsModel", "mayHaveWall", "(II)Z"⟩ prog_9_method_58_code 3 (Option.some .boolean) : Cond) ∈ gw := gw_of (tb_5 _ (List.mem_of_getElem? (i := 184) rfl)) rfl
theorem wd_1248 : (.methodLink "HouseHeirsModel" 235 ⟨"HouseHeirsModel", "layWall", "(II)V"⟩ : Cond) ∈ gw := gw_of (tb_5 _ (List.mem_of_getElem? (i := 185) rfl)) rfl
theorem wd_1250 : (.instanceMethod ⟨"HouseHeirsModel", "layWall", "(II)V"⟩ : Cond) ∈ gw := gw_of (tb_5 _ (List.mem_of_getElem? (i := 187) rfl)) rfl
theorem wd_1251 : (.code ⟨"HouseHeirsModel", "layWall", "(II)V"⟩ prog_9_method_59_code 3 (Option.none : Option Jvm.ClassFile.FieldType) : Cond) ∈ gw := gw_of (tb_5 _ (List.mem_of_getElem? (i := 188) rfl)) rfl
theorem wd_1252 : (.methodLink "HouseHeirsModel" 229 ⟨"HouseHeirsModel", "layDay", "()V"⟩ : Cond) ∈ gw := gw_of (tb_5 _ (List.mem_of_getElem? (i := 189) rfl)) rfl
theorem wd_1254 : (.instanceMethod ⟨"HouseHeirsModel", "layDay", "()V"⟩ : Cond) ∈ gw := gw_of (tb_5 _ (List.mem_of_getElem? (i := 191) rfl)) rfl
theorem wd_1255 : (.code ⟨"HouseHeirsModel", "layDay", "()V"⟩ prog_9_method_57_code 1 (Option.none : Option Jvm.ClassFile.FieldType) : Cond) ∈ gw := gw_of (tb_5 _ (List.mem_of_getElem? (i := 192) rfl)) rfl
theorem wd_1256 : (.methodLink "HouseHeirsLaw" 109 ⟨"HouseHeirsModel", "adopts", "(II)I"⟩ : Cond) ∈ gw := gw_of (tb_5 _ (List.mem_of_getElem? (i := 193) rfl)) rfl
theorem wd_1257 : (.instanceMethod ⟨"HouseHeirsModel", "adopts", "(II)I"⟩ : Cond) ∈ gw := gw_of (tb_5 _ (List.mem_of_getElem? (i := 194) rfl)) rfl
theorem wd_1258 : (.selects "HouseHeirsModel" ⟨"HouseHeirsModel", "adopts", "(II)I"⟩ ⟨"HouseHeirsModel", "adopts", "(II)I"⟩ : Cond) ∈ gw := gw_of (tb_5 _ (List.mem_of_getElem? (i := 195) rfl)) rfl
theorem wd_1259 : (.code ⟨"HouseHeirsModel", "adopts", "(II)I"⟩ prog_9_method_61_code 5 (Option.some .int) : Cond) ∈ gw := gw_of (tb_5 _ (List.mem_of_getElem? (i := 196) rfl)) rfl
theorem wd_1260 : (.methodLink "HouseHeirsLaw" 113 ⟨"HouseHeirsModel", "lives", "(II)I"⟩ : Cond) ∈ gw := gw_of (tb_5 _ (List.mem_of_getElem? (i := 197) rfl)) rfl
theorem wd_1261 : (.instanceMethod ⟨"HouseHeirsModel", "lives", "(II)I"⟩ : Cond) ∈ gw := gw_of (tb_5 _ (List.mem_of_getElem? (i := 198) rfl)) rfl
theorem wd_1262 : (.selects "HouseHeirsModel" ⟨"HouseHeirsModel", "lives", "(II)I"⟩ ⟨"HouseHeirsModel", "lives", "(II)I"⟩ : Cond) ∈ gw := gw_of (tb_5 _ (List.mem_of_getElem? (i := 199) rfl)) rfl
theorem wd_1263 : (.code ⟨"HouseHeirsModel", "lives", "(II)I"⟩ prog_9_method_62_code 3 (Option.some .int) : Cond) ∈ gw := gw_of (tb_5 _ (List.mem_of_getElem? (i := 200) rfl)) rfl
theorem wd_1264 : (.constantLong "HouseHeirsModel" 239 (60 : Int64) : Cond) ∈ gw := gw_of (tb_5 _ (List.mem_of_getElem? (i := 201) rfl)) rfl
theorem wd_1265 : (.methodLink "HouseHeirsModel" 241 ⟨"HouseHeirsModel", "goYears", "(I)V"⟩ : Cond) ∈ gw := gw_of (tb_5 _ (List.mem_of_getElem? (i := 202) rfl)) rfl
theorem wd_1267 : (.instanceMethod ⟨"HouseHeirsModel", "goYears", "(I)V"⟩ : Cond) ∈ gw := gw_of (tb_5 _ (List.mem_of_getElem? (i := 204) rfl)) rfl
theorem wd_1268 : (.code ⟨"HouseHeirsModel", "goYears", "(I)V"⟩ prog_9_method_63_code 3 (Option.none : Option Jvm.ClassFile.FieldType) : Cond) ∈ gw := gw_of (tb_5 _ (List.mem_of_getElem? (i := 205) rfl)) rfl
theorem wd_1269 : (.methodLink "HouseHeirsLaw" 117 ⟨"HouseHeirsModel", "stand", "(I)I"⟩ : Cond) ∈ gw := gw_of (tb_5 _ (List.mem_of_getElem? (i := 206) rfl)) rfl
theorem wd_1270 : (.instanceMethod ⟨"HouseHeirsModel", "stand", "(I)I"⟩ : Cond) ∈ gw := gw_of (tb_5 _ (List.mem_of_getElem? (i := 207) rfl)) rfl
theorem wd_1271 : (.selects "HouseHeirsModel" ⟨"HouseHeirsModel", "stand", "(I)I"⟩ ⟨"HouseHeirsModel", "stand", "(I)I"⟩ : Cond) ∈ gw := gw_of (tb_5 _ (List.mem_of_getElem? (i := 208) rfl)) rfl
theorem wd_1272 : (.code ⟨"HouseHeirsModel", "stand", "(I)I"⟩ prog_9_method_64_code 2 (Option.some .int) : Cond) ∈ gw := gw_of (tb_5 _ (List.mem_of_getElem? (i := 209) rfl)) rfl
theorem wd_1273 : (.methodLink "HouseHeirsLaw" 121 ⟨"HouseHeirsModel", "overfull", "(I)I"⟩ : Cond) ∈ gw := gw_of (tb_5 _ (List.mem_of_getElem? (i := 210) rfl)) rfl
theorem wd_1274 : (.instanceMethod ⟨"HouseHeirsModel", "overfull", "(I)I"⟩ : Cond) ∈ gw := gw_of (tb_5 _ (List.mem_of_getElem? (i := 211) rfl)) rfl
theorem wd_1275 : (.selects "HouseHeirsModel" ⟨"HouseHeirsModel", "overfull", "(I)I"⟩ ⟨"HouseHeirsModel", "overfull", "(I)I"⟩ : Cond) ∈ gw := gw_of (tb_5 _ (List.mem_of_getElem? (i := 212) rfl)) rfl
theorem wd_1276 : (.code ⟨"HouseHeirsModel", "overfull", "(I)I"⟩ prog_9_method_65_code 4 (Option.some .int) : Cond) ∈ gw := gw_of (tb_5 _ (List.mem_of_getElem? (i := 213) rfl)) rfl
theorem wd_1277 : (.methodLink "HouseHeirsLaw" 126 ⟨"HouseHeirsModel", "orders", "(IIII)I"⟩ : Cond) ∈ gw := gw_of (tb_5 _ (List.mem_of_getElem? (i := 214) rfl)) rfl
theorem wd_1278 : (.instanceMethod ⟨"HouseHeirsModel", "orders", "(IIII)I"⟩ : Cond) ∈ gw := gw_of (tb_5 _ (List.mem_of_getElem? (i := 215) rfl)) rfl
theorem wd_1279 : (.selects "HouseHeirsModel" ⟨"HouseHeirsModel", "orders", "(IIII)I"⟩ ⟨"HouseHeirsModel", "orders", "(IIII)I"⟩ : Cond) ∈ gw := gw_of (tb_5 _ (List.mem_of_getElem? (i := 216) rfl)) rfl
theorem wd_1280 : (.code ⟨"HouseHeirsModel", "orders", "(IIII)I"⟩ prog_9_method_69_code 11 (Option.some .int) : Cond) ∈ gw := gw_of (tb_5 _ (List.mem_of_getElem? (i := 217) rfl)) rfl
theorem wd_1281 : (.methodLink "HouseHeirsModel" 245 ⟨"HouseHeirsModel", "codes", "(I)I"⟩ : Cond) ∈ gw := gw_of (tb_5 _ (List.mem_of_getElem? (i := 218) rfl)) rfl
theorem wd_1282 : (.static ⟨"HouseHeirsModel", "codes", "(I)I"⟩ : Cond) ∈ gw := gw_of (tb_5 _ (List.mem_of_getElem? (i := 219) rfl)) rfl
theorem wd_1283 : (.code ⟨"HouseHeirsModel", "codes", "(I)I"⟩ prog_9_method_67_code 3 (Option.some .int) : Cond) ∈ gw := gw_of (tb_5 _ (List.mem_of_getElem? (i := 220) rfl)) rfl
theorem wd_1284 : (.methodLink "HouseHeirsModel" 248 ⟨"HouseHeirsModel", "layOrder", "(III)Z"⟩ : Cond) ∈ gw := gw_of (tb_5 _ (List.mem_of_getElem? (i := 221) rfl)) rfl
theorem wd_1286 : (.instanceMethod ⟨"HouseHeirsModel", "layOrder", "(III)Z"⟩ : Cond) ∈ gw := gw_of (tb_5 _ (List.mem_of_getElem? (i := 223) rfl)) rfl
theorem wd_1287 : (.code ⟨"HouseHeirsModel", "layOrder", "(III)Z"⟩ prog_9_method_66_code 7 (Option.some .boolean) : Cond) ∈ gw := gw_of (tb_5 _ (List.mem_of_getElem? (i := 224) rfl)) rfl
theorem wd_1288 : (.methodLink "HouseHeirsModel" 252 ⟨"HouseHeirsModel", "layFalls", "(II)V"⟩ : Cond) ∈ gw := gw_of (tb_5 _ (List.mem_of_getElem? (i := 225) rfl)) rfl
theorem wd_1290 : (.instanceMethod ⟨"HouseHeirsModel", "layFalls", "(II)V"⟩ : Cond) ∈ gw := gw_of (tb_5 _ (List.mem_of_getElem? (i := 227) rfl)) rfl
theorem wd_1291 : (.code ⟨"HouseHeirsModel", "layFalls", "(II)V"⟩ prog_9_method_68_code 4 (Option.none : Option Jvm.ClassFile.FieldType) : Cond) ∈ gw := gw_of (tb_5 _ (List.mem_of_getElem? (i := 228) rfl)) rfl
theorem wd_1292 : (.methodLink "HouseHeirsLaw" 130 ⟨"HouseHeirsModel", "safe", "(I)I"⟩ : Cond) ∈ gw := gw_of (tb_5 _ (List.mem_of_getElem? (i := 229) rfl)) rfl
theorem wd_1293 : (.instanceMethod ⟨"HouseHeirsModel", "safe", "(I)I"⟩ : Cond) ∈ gw := gw_of (tb_5 _ (List.mem_of_getElem? (i := 230) rfl)) rfl
theorem wd_1294 : (.selects "HouseHeirsModel" ⟨"HouseHeirsModel", "safe", "(I)I"⟩ ⟨"HouseHeirsModel", "safe", "(I)I"⟩ : Cond) ∈ gw := gw_of (tb_5 _ (List.mem_of_getElem? (i := 231) rfl)) rfl
theorem wd_1295 : (.code ⟨"HouseHeirsModel", "safe", "(I)I"⟩ prog_9_method_71_code 4 (Option.some .int) : Cond) ∈ gw := gw_of (tb_5 _ (List.mem_of_getElem? (i := 232) rfl)) rfl
theorem wd_1296 : (.methodLink "HouseHeirsModel" 255 ⟨"HouseHeirsModel", "isSafe", "(II)Z"⟩ : Cond) ∈ gw := gw_of (tb_5 _ (List.mem_of_getElem? (i := 233) rfl)) rfl
theorem wd_1298 : (.instanceMethod ⟨"HouseHeirsModel", "isSafe", "(II)Z"⟩ : Cond) ∈ gw := gw_of (tb_5 _ (List.mem_of_getElem? (i := 235) rfl)) rfl
theorem wd_1299 : (.code ⟨"HouseHeirsModel", "isSafe", "(II)Z"⟩ prog_9_method_70_code 7 (Option.some .boolean) : Cond) ∈ gw := gw_of (tb_5 _ (List.mem_of_getElem? (i := 236) rfl)) rfl
theorem wd_1300 : (.methodLink "HouseHeirsLaw" 134 ⟨"HouseHeirsModel", "moves", "(I)I"⟩ : Cond) ∈ gw := gw_of (tb_5 _ (List.mem_of_getElem? (i := 237) rfl)) rfl
theorem wd_1301 : (.instanceMethod ⟨"HouseHeirsModel", "moves", "(I)I"⟩ : Cond) ∈ gw := gw_of (tb_5 _ (List.mem_of_getElem? (i := 238) rfl)) rfl
theorem wd_1302 : (.selects "HouseHeirsModel" ⟨"HouseHeirsModel", "moves", "(I)I"⟩ ⟨"HouseHeirsModel", "moves", "(I)I"⟩ : Cond) ∈ gw := gw_of (tb_5 _ (List.mem_of_getElem? (i := 239) rfl)) rfl
theorem wd_1303 : (.code ⟨"HouseHeirsModel", "moves", "(I)I"⟩ prog_9_method_74_code 6 (Option.some .int) : Cond) ∈ gw := gw_of (tb_6 _ (List.mem_of_getElem? (i := 0) rfl)) rfl
theorem wd_1304 : (.methodLink "HouseHeirsModel" 258 ⟨"HouseHeirsModel", "layHomes", "(I)V"⟩ : Cond) ∈ gw := gw_of (tb_6 _ (List.mem_of_getElem? (i := 1) rfl)) rfl
theorem wd_1306 : (.instanceMethod ⟨"HouseHeirsModel", "layHomes", "(I)V"⟩ : Cond) ∈ gw := gw_of (tb_6 _ (List.mem_of_getElem? (i := 3) rfl)) rfl
theorem wd_1307 : (.code ⟨"HouseHeirsModel", "layHomes", "(I)V"⟩ prog_9_method_72_code 4 (Option.none : Option Jvm.ClassFile.FieldType) : Cond) ∈ gw := gw_of (tb_6 _ (List.mem_of_getElem? (i := 4) rfl)) rfl
theorem wd_1308 : (.methodLink "HouseHeirsModel" 261 ⟨"HouseHeirsModel", "moving", "()I"⟩ : Cond) ∈ gw := gw_of (tb_6 _ (List.mem_of_getElem? (i := 5) rfl)) rfl
theorem wd_1310 : (.instanceMethod ⟨"HouseHeirsModel", "moving", "()I"⟩ : Cond) ∈ gw := gw_of (tb_6 _ (List.mem_of_getElem? (i := 7) rfl)) rfl
theorem wd_1311 : (.code ⟨"HouseHeirsModel", "moving", "()I"⟩ prog_9_method_73_code 5 (Option.some .int) : Cond) ∈ gw := gw_of (tb_6 _ (List.mem_of_getElem? (i := 8) rfl)) rfl
theorem wd_1312 : (.methodLink "HouseHeirsLaw" 138 ⟨"HouseHeirsModel", "share", "(I)I"⟩ : Cond) ∈ gw := gw_of (tb_6 _ (List.mem_of_getElem? (i := 9) rfl)) rfl
theorem wd_1313 : (.instanceMethod ⟨"HouseHeirsModel", "share", "(I)I"⟩ : Cond) ∈ gw := gw_of (tb_6 _ (List.mem_of_getElem? (i := 10) rfl)) rfl
theorem wd_1314 : (.selects "HouseHeirsModel" ⟨"HouseHeirsModel", "share", "(I)I"⟩ ⟨"HouseHeirsModel", "share", "(I)I"⟩ : Cond) ∈ gw := gw_of (tb_6 _ (List.mem_of_getElem? (i := 11) rfl)) rfl
theorem wd_1315 : (.code ⟨"HouseHeirsModel", "share", "(I)I"⟩ prog_9_method_76_code 6 (Option.some .int) : Cond) ∈ gw := gw_of (tb_6 _ (List.mem_of_getElem? (i := 12) rfl)) rfl
theorem wd_1316 : (.methodLink "HouseHeirsModel" 267 ⟨"HouseHeirsModel", "fraction", "(JJ)V"⟩ : Cond) ∈ gw := gw_of (tb_6 _ (List.mem_of_getElem? (i := 13) rfl)) rfl
theorem wd_1318 : (.instanceMethod ⟨"HouseHeirsModel", "fraction", "(JJ)V"⟩ : Cond) ∈ gw := gw_of (tb_6 _ (List.mem_of_getElem? (i := 15) rfl)) rfl
theorem wd_1319 : (.code ⟨"HouseHeirsModel", "fraction", "(JJ)V"⟩ prog_9_method_75_code 11 (Option.none : Option Jvm.ClassFile.FieldType) : Cond) ∈ gw := gw_of (tb_6 _ (List.mem_of_getElem? (i := 16) rfl)) rfl
theorem wd_1320 : (.methodLink "HouseHeirsLaw" 142 ⟨"HouseHeirsModel", "plaster", "(II)I"⟩ : Cond) ∈ gw := gw_of (tb_6 _ (List.mem_of_getElem? (i := 17) rfl)) rfl
theorem wd_1321 : (.instanceMethod ⟨"HouseHeirsModel", "plaster", "(II)I"⟩ : Cond) ∈ gw := gw_of (tb_6 _ (List.mem_of_getElem? (i := 18) rfl)) rfl
theorem wd_1322 : (.selects "HouseHeirsModel" ⟨"HouseHeirsModel", "plaster", "(II)I"⟩ ⟨"HouseHeirsModel", "plaster", "(II)I"⟩ : Cond) ∈ gw := gw_of (tb_6 _ (List.mem_of_getElem? (i := 19) rfl)) rfl
theorem wd_1323 : (.code ⟨"HouseHeirsModel", "plaster", "(II)I"⟩ prog_9_method_78_code 6 (Option.some .int) : Cond) ∈ gw := gw_of (tb_6 _ (List.mem_of_getElem? (i := 20) rfl)) rfl
theorem wd_1324 : (.constantLong "HouseHeirsModel" 271 (8 : Int64) : Cond) ∈ gw := gw_of (tb_6 _ (List.mem_of_getElem? (i := 21) rfl)) rfl
theorem wd_1325 : (.methodLink "HouseHeirsModel" 273 ⟨"HouseHeirsModel", "parents", "(II)I"⟩ : Cond) ∈ gw := gw_of (tb_6 _ (List.mem_of_getElem? (i := 22) rfl)) rfl
theorem wd_1327 : (.instanceMethod ⟨"HouseHeirsModel", "parents", "(II)I"⟩ : Cond) ∈ gw := gw_of (tb_6 _ (List.mem_of_getElem? (i := 24) rfl)) rfl
theorem wd_1328 : (.code ⟨"HouseHeirsModel", "parents", "(II)I"⟩ prog_9_method_77_code 5 (Option.some .int) : Cond) ∈ gw := gw_of (tb_6 _ (List.mem_of_getElem? (i := 25) rfl)) rfl
theorem wd_1329 : (.methodLink "HouseHeirsLaw" 146 ⟨"HouseHeirsModel", "gables", "(I)I"⟩ : Cond) ∈ gw := gw_of (tb_6 _ (List.mem_of_getElem? (i := 26) rfl)) rfl
theorem wd_1330 : (.instanceMethod ⟨"HouseHeirsModel", "gables", "(I)I"⟩ : Cond) ∈ gw := gw_of (tb_6 _ (List.mem_of_getElem? (i := 27) rfl)) rfl
theorem wd_1331 : (.selects "HouseHeirsModel" ⟨"HouseHeirsModel", "gables", "(I)I"⟩ ⟨"HouseHeirsModel", "gables", "(I)I"⟩ : Cond) ∈ gw := gw_of (tb_6 _ (List.mem_of_getElem? (i := 28) rfl)) rfl
theorem wd_1332 : (.code ⟨"HouseHeirsModel", "gables", "(I)I"⟩ prog_9_method_79_code 4 (Option.some .int) : Cond) ∈ gw := gw_of (tb_6 _ (List.mem_of_getElem? (i := 29) rfl)) rfl
theorem wd_1333 : (.methodLink "HouseHeirsLaw" 150 ⟨"HouseHeirsModel", "doors", "(IIII)I"⟩ : Cond) ∈ gw := gw_of (tb_6 _ (List.mem_of_getElem? (i := 30) rfl)) rfl
theorem wd_1334 : (.instanceMethod ⟨"HouseHeirsModel", "doors", "(IIII)I"⟩ : Cond) ∈ gw := gw_of (tb_6 _ (List.mem_of_getElem? (i := 31) rfl)) rfl
theorem wd_1335 : (.selects "HouseHeirsModel" ⟨"HouseHeirsModel", "doors", "(IIII)I"⟩ ⟨"HouseHeirsModel", "doors", "(IIII)I"⟩ : Cond) ∈ gw := gw_of (tb_6 _ (List.mem_of_getElem? (i := 32) rfl)) rfl
theorem wd_1336 : (.code ⟨"HouseHeirsModel", "doors", "(IIII)I"⟩ prog_9_method_81_code 11 (Option.some .int) : Cond) ∈ gw := gw_of (tb_6 _ (List.mem_of_getElem? (i := 33) rfl)) rfl
theorem wd_1337 : (.methodLink "HouseHeirsModel" 276 ⟨"HouseHeirsModel", "getsBy", "(IIIII)I"⟩ : Cond) ∈ gw := gw_of (tb_6 _ (List.mem_of_getElem? (i := 34) rfl)) rfl
theorem wd_1339 : (.instanceMethod ⟨"HouseHeirsModel", "getsBy", "(IIIII)I"⟩ : Cond) ∈ gw := gw_of (tb_6 _ (List.mem_of_getElem? (i := 36) rfl)) rfl
theorem wd_1340 : (.code ⟨"HouseHeirsModel", "getsBy", "(IIIII)I"⟩ prog_9_method_80_code 11 (Option.some .int) : Cond) ∈ gw := gw_of (tb_6 _ (List.mem_of_getElem? (i := 37) rfl)) rfl
theorem wd_1341 : (.methodLink "HouseHeirsLaw" 154 ⟨"HouseHeirsModel", "drawn", "(II)I"⟩ : Cond) ∈ gw := gw_of (tb_6 _ (List.mem_of_getElem? (i := 38) rfl)) rfl
theorem wd_1342 : (.instanceMethod ⟨"HouseHeirsModel", "drawn", "(II)I"⟩ : Cond) ∈ gw := gw_of (tb_6 _ (List.mem_of_getElem? (i := 39) rfl)) rfl
theorem wd_1343 : (.selects "HouseHeirsModel" ⟨"HouseHeirsModel", "drawn", "(II)I"⟩ ⟨"HouseHeirsModel", "drawn", "(II)I"⟩ : Cond) ∈ gw := gw_of (tb_6 _ (List.mem_of_getElem? (i := 40) rfl)) rfl
theorem wd_1344 : (.code ⟨"HouseHeirsModel", "drawn", "(II)I"⟩ prog_9_method_82_code 8 (Option.some .int) : Cond) ∈ gw := gw_of (tb_6 _ (List.mem_of_getElem? (i := 41) rfl)) rfl
theorem wd_1345 : (.constantLong "HouseHeirsModel" 280 (999999 : Int64) : Cond) ∈ gw := gw_of (tb_6 _ (List.mem_of_getElem? (i := 42) rfl)) rfl
theorem wd_1346 : (.constantLong "HouseHeirsModel" 282 (1103515245 : Int64) : Cond) ∈ gw := gw_of (tb_6 _ (List.mem_of_getElem? (i := 43) rfl)) rfl
theorem wd_1347 : (.constantLong "HouseHeirsModel" 284 (12345 : Int64) : Cond) ∈ gw := gw_of (tb_6 _ (List.mem_of_getElem? (i := 44) rfl)) rfl
theorem wd_1348 : (.constantLong "HouseHeirsModel" 286 (2147483648 : Int64) : Cond) ∈ gw := gw_of (tb_6 _ (List.mem_of_getElem? (i := 45) rfl)) rfl
theorem wd_1349 : (.constantLong "HouseHeirsModel" 288 (65536 : Int64) : Cond) ∈ gw := gw_of (tb_6 _ (List.mem_of_getElem? (i := 46) rfl)) rfl
theorem wd_1350 : (.methodLink "HouseHeirsLaw" 159 ⟨"HouseHeirsModel", "part", "(I)J"⟩ : Cond) ∈ gw := gw_of (tb_6 _ (List.mem_of_getElem? (i := 47) rfl)) rfl
theorem wd_1351 : (.instanceMethod ⟨"HouseHeirsModel", "part", "(I)J"⟩ : Cond) ∈ gw := gw_of (tb_6 _ (List.mem_of_getElem? (i := 48) rfl)) rfl
theorem wd_1352 : (.selects "HouseHeirsModel" ⟨"HouseHeirsModel", "part", "(I)J"⟩ ⟨"HouseHeirsModel", "part", "(I)J"⟩ : Cond) ∈ gw := gw_of (tb_6 _ (List.mem_of_getElem? (i := 49) rfl)) rfl
theorem wd_1353 : (.code ⟨"HouseHeirsModel", "part", "(I)J"⟩ prog_9_method_83_code 2 (Option.some .long) : Cond) ∈ gw := gw_of (tb_6 _ (List.mem_of_getElem? (i := 50) rfl)) rfl
theorem wd_1354 : (.methodLink "HouseHeirsLaw" 163 ⟨"HouseHeirsModel", "image", "(I)I"⟩ : Cond) ∈ gw := gw_of (tb_6 _ (List.mem_of_getElem? (i := 51) rfl)) rfl
theorem wd_1355 : (.instanceMethod ⟨"HouseHeirsModel", "image", "(I)I"⟩ : Cond) ∈ gw := gw_of (tb_6 _ (List.mem_of_getElem? (i := 52) rfl)) rfl
theorem wd_1356 : (.selects "HouseHeirsModel" ⟨"HouseHeirsModel", "image", "(I)I"⟩ ⟨"HouseHeirsModel", "image", "(I)I"⟩ : Cond) ∈ gw := gw_of (tb_6 _ (List.mem_of_getElem? (i := 53) rfl)) rfl
theorem wd_1357 : (.code ⟨"HouseHeirsModel", "image", "(I)I"⟩ prog_9_method_84_code 2 (Option.some .int) : Cond) ∈ gw := gw_of (tb_6 _ (List.mem_of_getElem? (i := 54) rfl)) rfl
theorem wd_1358 : (.methodLink "HouseHeirsLaw" 167 ⟨"HouseHeirsModel", "from", "(I)I"⟩ : Cond) ∈ gw := gw_of (tb_6 _ (List.mem_of_getElem? (i := 55) rfl)) rfl
theorem wd_1359 : (.instanceMethod ⟨"HouseHeirsModel", "from", "(I)I"⟩ : Cond) ∈ gw := gw_of (tb_6 _ (List.mem_of_getElem? (i := 56) rfl)) rfl
theorem wd_1360 : (.selects "HouseHeirsModel" ⟨"HouseHeirsModel", "from", "(I)I"⟩ ⟨"HouseHeirsModel", "from", "(I)I"⟩ : Cond) ∈ gw := gw_of (tb_6 _ (List.mem_of_getElem? (i := 57) rfl)) rfl
theorem wd_1361 : (.code ⟨"HouseHeirsModel", "from", "(I)I"⟩ prog_9_method_85_code 2 (Option.some .int) : Cond) ∈ gw := gw_of (tb_6 _ (List.mem_of_getElem? (i := 58) rfl)) rfl
theorem wd_1362 : (.methodLink "HouseHeirsLaw" 171 ⟨"HouseHeirsModel", "status", "(I)I"⟩ : Cond) ∈ gw := gw_of (tb_6 _ (List.mem_of_getElem? (i := 59) rfl)) rfl
theorem wd_1363 : (.instanceMethod ⟨"HouseHeirsModel", "status", "(I)I"⟩ : Cond) ∈ gw := gw_of (tb_6 _ (List.mem_of_getElem? (i := 60) rfl)) rfl
theorem wd_1364 : (.selects "HouseHeirsModel" ⟨"HouseHeirsModel", "status", "(I)I"⟩ ⟨"HouseHeirsModel", "status", "(I)I"⟩ : Cond) ∈ gw := gw_of (tb_6 _ (List.mem_of_getElem? (i := 61) rfl)) rfl
theorem wd_1365 : (.code ⟨"HouseHeirsModel", "status", "(I)I"⟩ prog_9_method_86_code 2 (Option.some .int) : Cond) ∈ gw := gw_of (tb_6 _ (List.mem_of_getElem? (i := 62) rfl)) rfl
theorem wd_1366 : (.constantLong "HouseHeirsModel" 290 (2 : Int64) : Cond) ∈ gw := gw_of (tb_6 _ (List.mem_of_getElem? (i := 63) rfl)) rfl
theorem wd_1367 : (.methodLink "HouseHeirsLaw" 175 ⟨"HouseHeirsModel", "count", "(I)I"⟩ : Cond) ∈ gw := gw_of (tb_6 _ (List.mem_of_getElem? (i := 64) rfl)) rfl
theorem wd_1368 : (.instanceMethod ⟨"HouseHeirsModel", "count", "(I)I"⟩ : Cond) ∈ gw := gw_of (tb_6 _ (List.mem_of_getElem? (i := 65) rfl)) rfl
theorem wd_1369 : (.selects "HouseHeirsModel" ⟨"HouseHeirsModel", "count", "(I)I"⟩ ⟨"HouseHeirsModel", "count", "(I)I"⟩ : Cond) ∈ gw := gw_of (tb_6 _ (List.mem_of_getElem? (i := 66) rfl)) rfl
theorem wd_1370 : (.code ⟨"HouseHeirsModel", "count", "(I)I"⟩ prog_9_method_89_code 2 (Option.some .int) : Cond) ∈ gw := gw_of (tb_6 _ (List.mem_of_getElem? (i := 67) rfl)) rfl
theorem wd_1371 : (.methodLink "HouseHeirsModel" 295 ⟨"HouseHeirsModel", "counted", "(I)I"⟩ : Cond) ∈ gw := gw_of (tb_6 _ (List.mem_of_getElem? (i := 68) rfl)) rfl
theorem wd_1373 : (.instanceMethod ⟨"HouseHeirsModel", "counted", "(I)I"⟩ : Cond) ∈ gw := gw_of (tb_6 _ (List.mem_of_getElem? (i := 70) rfl)) rfl
theorem wd_1374 : (.code ⟨"HouseHeirsModel", "counted", "(I)I"⟩ prog_9_method_88_code 2 (Option.some .int) : Cond) ∈ gw := gw_of (tb_6 _ (List.mem_of_getElem? (i := 71) rfl)) rfl
theorem wd_1375 : (.methodLink "HouseHeirsModel" 292 ⟨"HouseHeirsModel", "sumOf", "(II)I"⟩ : Cond) ∈ gw := gw_of (tb_6 _ (List.mem_of_getElem? (i := 72) rfl)) rfl
theorem wd_1377 : (.instanceMethod ⟨"HouseHeirsModel", "sumOf", "(II)I"⟩ : Cond) ∈ gw := gw_of (tb_6 _ (List.mem_of_getElem? (i := 74) rfl)) rfl
theorem wd_1378 : (.code ⟨"HouseHeirsModel", "sumOf", "(II)I"⟩ prog_9_method_87_code 5 (Option.some .int) : Cond) ∈ gw := gw_of (tb_6 _ (List.mem_of_getElem? (i := 75) rfl)) rfl
theorem wd_1379 : (.methodLink "HouseHeirsLaw" 180 ⟨"HouseHeirsModel", "digest", "()J"⟩ : Cond) ∈ gw := gw_of (tb_6 _ (List.mem_of_getElem? (i := 76) rfl)) rfl
theorem wd_1380 : (.instanceMethod ⟨"HouseHeirsModel", "digest", "()J"⟩ : Cond) ∈ gw := gw_of (tb_6 _ (List.mem_of_getElem? (i := 77) rfl)) rfl
theorem wd_1381 : (.selects "HouseHeirsModel" ⟨"HouseHeirsModel", "digest", "()J"⟩ ⟨"HouseHeirsModel", "digest", "()J"⟩ : Cond) ∈ gw := gw_of (tb_6 _ (List.mem_of_getElem? (i := 78) rfl)) rfl
theorem wd_1382 : (.code ⟨"HouseHeirsModel", "digest", "()J"⟩ prog_9_method_90_code 5 (Option.some .long) : Cond) ∈ gw := gw_of (tb_6 _ (List.mem_of_getElem? (i := 79) rfl)) rfl
theorem wd_1383 : (.constantLong "HouseHeirsModel" 298 (967 : Int64) : Cond) ∈ gw := gw_of (tb_6 _ (List.mem_of_getElem? (i := 80) rfl)) rfl
theorem wd_1384 : (.constantLong "HouseHeirsModel" 300 (31 : Int64) : Cond) ∈ gw := gw_of (tb_6 _ (List.mem_of_getElem? (i := 81) rfl)) rfl
theorem wd_1385 : (.fieldLink "java/lang/String" 9 "java/lang/String" "value" "[B" : Cond) ∈ gw := gw_of (tb_6 _ (List.mem_of_getElem? (i := 82) rfl)) rfl
theorem wd_1386 : (.fieldLink "java/lang/String" 15 "java/lang/String" "coder" "B" : Cond) ∈ gw := gw_of (tb_6 _ (List.mem_of_getElem? (i := 83) rfl)) rfl
