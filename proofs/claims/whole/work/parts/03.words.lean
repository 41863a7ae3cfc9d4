/-- all good words of the tables -/
def wA : List Cond := lw_tbl.filter goodWord
theorem wA_of {w : Cond} (h : w ∈ tables_1) (g : goodWord w = true) : w ∈ wA := List.mem_filter.mpr ⟨List.mem_append_right _ h, g⟩
theorem wA_sel {q : MethodName × Nat} (h : q ∈ lw_privs) : Cond.selects q.1.cls q.1 q.1 ∈ wA := List.mem_filter.mpr ⟨List.mem_append_left _ (List.mem_map.mpr ⟨q, h, rfl⟩), rfl⟩
/-- the words of a method: its code, and all good words -/
def wY (y : MethodName) (cc : ByteArray) (nL : Nat) (ret : Option FieldType) : List Cond := .code y cc nL ret :: wA
theorem tw_1_0 : Cond.initialized RL ∈ wA := wA_of (w := Cond.initialized RL) (List.mem_append_left _ (List.mem_of_getElem? (i := 0) rfl)) rfl
theorem tw_1_1 : Cond.initialized RX5 ∈ wA := wA_of (w := Cond.initialized RX5) (List.mem_append_left _ (List.mem_of_getElem? (i := 1) rfl)) rfl
theorem tw_1_2 : Cond.initialized RX2 ∈ wA := wA_of (w := Cond.initialized RX2) (List.mem_append_left _ (List.mem_of_getElem? (i := 2) rfl)) rfl
theorem tw_1_3 : Cond.initialized RX3 ∈ wA := wA_of (w := Cond.initialized RX3) (List.mem_append_left _ (List.mem_of_getElem? (i := 3) rfl)) rfl
theorem tw_1_4 : Cond.initialized RX0 ∈ wA := wA_of (w := Cond.initialized RX0) (List.mem_append_left _ (List.mem_of_getElem? (i := 4) rfl)) rfl
theorem tw_1_5 : Cond.initialized RX4 ∈ wA := wA_of (w := Cond.initialized RX4) (List.mem_append_left _ (List.mem_of_getElem? (i := 5) rfl)) rfl
theorem tw_1_6 : Cond.initialized RX1 ∈ wA := wA_of (w := Cond.initialized RX1) (List.mem_append_left _ (List.mem_of_getElem? (i := 6) rfl)) rfl
theorem tw_1_7 : Cond.initialized RX6 ∈ wA := wA_of (w := Cond.initialized RX6) (List.mem_append_left _ (List.mem_of_getElem? (i := 7) rfl)) rfl
theorem tw_1_8 : Cond.initialized RJ0 ∈ wA := wA_of (w := Cond.initialized RJ0) (List.mem_append_left _ (List.mem_of_getElem? (i := 8) rfl)) rfl
theorem tw_1_9 : Cond.initialized RJ1 ∈ wA := wA_of (w := Cond.initialized RJ1) (List.mem_append_left _ (List.mem_of_getElem? (i := 9) rfl)) rfl
theorem tw_1_10 : Cond.initialized RJ3 ∈ wA := wA_of (w := Cond.initialized RJ3) (List.mem_append_left _ (List.mem_of_getElem? (i := 10) rfl)) rfl
theorem tw_1_11 : Cond.initialized RJ2 ∈ wA := wA_of (w := Cond.initialized RJ2) (List.mem_append_left _ (List.mem_of_getElem? (i := 11) rfl)) rfl
theorem tw_1_12 : Cond.initialized RJ6 ∈ wA := wA_of (w := Cond.initialized RJ6) (List.mem_append_left _ (List.mem_of_getElem? (i := 12) rfl)) rfl
theorem tw_1_13 : Cond.initialized RJ9 ∈ wA := wA_of (w := Cond.initialized RJ9) (List.mem_append_left _ (List.mem_of_getElem? (i := 13) rfl)) rfl
theorem tw_1_14 : Cond.classLink RL 7 "KindWords" ∈ wA := wA_of (w := Cond.classLink RL 7 "KindWords") (List.mem_append_left _ (List.mem_of_getElem? (i := 14) rfl)) rfl
theorem tw_1_15 : Cond.instantiable RX5 9 ∈ wA := wA_of (w := Cond.instantiable RX5 9) (List.mem_append_left _ (List.mem_of_getElem? (i := 15) rfl)) rfl
theorem tw_1_16 : Cond.methodLink RL 9 yX5_init ∈ wA := wA_of (w := Cond.methodLink RL 9 yX5_init) (List.mem_append_left _ (List.mem_of_getElem? (i := 16) rfl)) rfl
theorem tw_1_17 : Cond.instanceMethod yX5_init ∈ wA := wA_of (w := Cond.instanceMethod yX5_init) (List.mem_append_left _ (List.mem_of_getElem? (i := 17) rfl)) rfl
theorem tw_1_18 : Cond.code yX5_init cX5_init 1 none ∈ wA := wA_of (w := Cond.code yX5_init cX5_init 1 none) (List.mem_append_left _ (List.mem_of_getElem? (i := 18) rfl)) rfl
theorem tw_1_19 : Cond.methodLink RX5 1 objectInit ∈ wA := wA_of (w := Cond.methodLink RX5 1 objectInit) (List.mem_append_left _ (List.mem_of_getElem? (i := 19) rfl)) rfl
theorem tw_1_20 : Cond.instanceMethod objectInit ∈ wA := wA_of (w := Cond.instanceMethod objectInit) (List.mem_append_left _ (List.mem_of_getElem? (i := 20) rfl)) rfl
theorem tw_1_21 : Cond.code objectInit object_method_1_code 1 none ∈ wA := wA_of (w := Cond.code objectInit object_method_1_code 1 none) (List.mem_append_left _ (List.mem_of_getElem? (i := 21) rfl)) rfl
theorem tw_1_22 : Cond.classLink RX5 13 "KindWords$Town" ∈ wA := wA_of (w := Cond.classLink RX5 13 "KindWords$Town") (List.mem_append_left _ (List.mem_of_getElem? (i := 22) rfl)) rfl
theorem tw_1_23 : Cond.instantiable RX2 6 ∈ wA := wA_of (w := Cond.instantiable RX2 6) (List.mem_append_left _ (List.mem_of_getElem? (i := 23) rfl)) rfl
theorem tw_1_24 : Cond.methodLink RX5 15 yX2_init ∈ wA := wA_of (w := Cond.methodLink RX5 15 yX2_init) (List.mem_append_left _ (List.mem_of_getElem? (i := 24) rfl)) rfl
theorem tw_1_25 : Cond.instanceMethod yX2_init ∈ wA := wA_of (w := Cond.instanceMethod yX2_init) (List.mem_append_left _ (List.mem_of_getElem? (i := 25) rfl)) rfl
theorem tw_1_26 : Cond.code yX2_init cX2_init 2 none ∈ wA := wA_of (w := Cond.code yX2_init cX2_init 2 none) (List.mem_append_left _ (List.mem_of_getElem? (i := 26) rfl)) rfl
theorem tw_1_27 : Cond.methodLink RX2 3 objectInit ∈ wA := wA_of (w := Cond.methodLink RX2 3 objectInit) (List.mem_append_left _ (List.mem_of_getElem? (i := 27) rfl)) rfl
theorem tw_1_28 : Cond.classLink RX2 9 "KindWords$Victim" ∈ wA := wA_of (w := Cond.classLink RX2 9 "KindWords$Victim") (List.mem_append_left _ (List.mem_of_getElem? (i := 28) rfl)) rfl
theorem tq_1_29 : Cond.arrayOver (FieldType.object "KindWords$Victim") ∈ lw_tbl := List.mem_append_right _ (List.mem_append_left _ (List.mem_of_getElem? (i := 29) rfl))
theorem tw_1_30 : Cond.classLink RX2 17 "KindWords$Convict" ∈ wA := wA_of (w := Cond.classLink RX2 17 "KindWords$Convict") (List.mem_append_left _ (List.mem_of_getElem? (i := 30) rfl)) rfl
theorem tq_1_31 : Cond.arrayOver (FieldType.object "KindWords$Convict") ∈ lw_tbl := List.mem_append_right _ (List.mem_append_left _ (List.mem_of_getElem? (i := 31) rfl))
theorem tw_1_32 : Cond.instantiable RX3 4 ∈ wA := wA_of (w := Cond.instantiable RX3 4) (List.mem_append_left _ (List.mem_of_getElem? (i := 32) rfl)) rfl
theorem tq_1_33 : Cond.methodLinkNest RX2 23 yX3_init "KindWords" ∈ lw_tbl := List.mem_append_right _ (List.mem_append_left _ (List.mem_of_getElem? (i := 33) rfl))
theorem tw_1_34 : Cond.instanceMethod yX3_init ∈ wA := wA_of (w := Cond.instanceMethod yX3_init) (List.mem_append_left _ (List.mem_of_getElem? (i := 34) rfl)) rfl
theorem tw_1_35 : Cond.code yX3_init cX3_init 1 none ∈ wA := wA_of (w := Cond.code yX3_init cX3_init 1 none) (List.mem_append_left _ (List.mem_of_getElem? (i := 35) rfl)) rfl
theorem tw_1_36 : Cond.methodLink RX3 3 objectInit ∈ wA := wA_of (w := Cond.methodLink RX3 3 objectInit) (List.mem_append_left _ (List.mem_of_getElem? (i := 36) rfl)) rfl
theorem tw_1_37 : Cond.fieldLink RX3 9 "KindWords$Victim" "truth" "I" ∈ wA := wA_of (w := Cond.fieldLink RX3 9 "KindWords$Victim" "truth" "I") (List.mem_append_left _ (List.mem_of_getElem? (i := 37) rfl)) rfl
theorem tw_1_38 : Cond.fieldLink RX5 67 "KindWords$Victim" "truth" "I" ∈ wA := wA_of (w := Cond.fieldLink RX5 67 "KindWords$Victim" "truth" "I") (List.mem_append_left _ (List.mem_of_getElem? (i := 38) rfl)) rfl
theorem tw_1_39 : Cond.fieldLink RX2 64 "KindWords$Victim" "truth" "I" ∈ wA := wA_of (w := Cond.fieldLink RX2 64 "KindWords$Victim" "truth" "I") (List.mem_append_left _ (List.mem_of_getElem? (i := 39) rfl)) rfl
theorem tw_1_40 : Cond.fieldLink RX3 15 "KindWords$Victim" "used" "I" ∈ wA := wA_of (w := Cond.fieldLink RX3 15 "KindWords$Victim" "used" "I") (List.mem_append_left _ (List.mem_of_getElem? (i := 40) rfl)) rfl
theorem tw_1_41 : Cond.fieldLink RX2 61 "KindWords$Victim" "used" "I" ∈ wA := wA_of (w := Cond.fieldLink RX2 61 "KindWords$Victim" "used" "I") (List.mem_append_left _ (List.mem_of_getElem? (i := 41) rfl)) rfl
theorem tw_1_42 : Cond.fieldLink RX5 92 "KindWords$Victim" "used" "I" ∈ wA := wA_of (w := Cond.fieldLink RX5 92 "KindWords$Victim" "used" "I") (List.mem_append_left _ (List.mem_of_getElem? (i := 42) rfl)) rfl
theorem tw_1_43 : Cond.fieldLink RX3 21 "KindWords$Victim" "triedTrue" "I" ∈ wA := wA_of (w := Cond.fieldLink RX3 21 "KindWords$Victim" "triedTrue" "I") (List.mem_append_left _ (List.mem_of_getElem? (i := 43) rfl)) rfl
theorem tw_1_44 : Cond.fieldLink RX5 195 "KindWords$Victim" "triedTrue" "I" ∈ wA := wA_of (w := Cond.fieldLink RX5 195 "KindWords$Victim" "triedTrue" "I") (List.mem_append_left _ (List.mem_of_getElem? (i := 44) rfl)) rfl
theorem tw_1_45 : Cond.fieldLink RX3 24 "KindWords$Victim" "triedFalse" "I" ∈ wA := wA_of (w := Cond.fieldLink RX3 24 "KindWords$Victim" "triedFalse" "I") (List.mem_append_left _ (List.mem_of_getElem? (i := 45) rfl)) rfl
theorem tw_1_46 : Cond.lays RX3 "KindWords$Victim" "truth" "I" ∈ wA := wA_of (w := Cond.lays RX3 "KindWords$Victim" "truth" "I") (List.mem_append_left _ (List.mem_of_getElem? (i := 46) rfl)) rfl
theorem tw_1_48 : Cond.lays RX3 "KindWords$Victim" "used" "I" ∈ wA := wA_of (w := Cond.lays RX3 "KindWords$Victim" "used" "I") (List.mem_append_left _ (List.mem_of_getElem? (i := 48) rfl)) rfl
theorem tw_1_50 : Cond.lays RX3 "KindWords$Victim" "triedTrue" "I" ∈ wA := wA_of (w := Cond.lays RX3 "KindWords$Victim" "triedTrue" "I") (List.mem_append_left _ (List.mem_of_getElem? (i := 50) rfl)) rfl
theorem tw_1_52 : Cond.lays RX3 "KindWords$Victim" "triedFalse" "I" ∈ wA := wA_of (w := Cond.lays RX3 "KindWords$Victim" "triedFalse" "I") (List.mem_append_left _ (List.mem_of_getElem? (i := 52) rfl)) rfl
theorem tw_1_55 : Cond.arrayClass FieldType.char ∈ wA := wA_of (w := Cond.arrayClass FieldType.char) (List.mem_append_left _ (List.mem_of_getElem? (i := 55) rfl)) rfl
theorem tw_1_56 : Cond.instantiable RX0 6 ∈ wA := wA_of (w := Cond.instantiable RX0 6) (List.mem_append_left _ (List.mem_of_getElem? (i := 56) rfl)) rfl
theorem tq_1_57 : Cond.methodLinkNest RX2 24 yX0_init "KindWords" ∈ lw_tbl := List.mem_append_right _ (List.mem_append_left _ (List.mem_of_getElem? (i := 57) rfl))
theorem tw_1_58 : Cond.instanceMethod yX0_init ∈ wA := wA_of (w := Cond.instanceMethod yX0_init) (List.mem_append_left _ (List.mem_of_getElem? (i := 58) rfl)) rfl
theorem tw_1_59 : Cond.code yX0_init cX0_init 1 none ∈ wA := wA_of (w := Cond.code yX0_init cX0_init 1 none) (List.mem_append_left _ (List.mem_of_getElem? (i := 59) rfl)) rfl
theorem tw_1_60 : Cond.methodLink RX0 3 objectInit ∈ wA := wA_of (w := Cond.methodLink RX0 3 objectInit) (List.mem_append_left _ (List.mem_of_getElem? (i := 60) rfl)) rfl
theorem tw_1_61 : Cond.fieldLink RX0 9 "KindWords$Convict" "kind" "I" ∈ wA := wA_of (w := Cond.fieldLink RX0 9 "KindWords$Convict" "kind" "I") (List.mem_append_left _ (List.mem_of_getElem? (i := 61) rfl)) rfl
theorem tw_1_62 : Cond.fieldLink RX2 67 "KindWords$Convict" "kind" "I" ∈ wA := wA_of (w := Cond.fieldLink RX2 67 "KindWords$Convict" "kind" "I") (List.mem_append_left _ (List.mem_of_getElem? (i := 62) rfl)) rfl
theorem tw_1_63 : Cond.fieldLink RX5 120 "KindWords$Convict" "kind" "I" ∈ wA := wA_of (w := Cond.fieldLink RX5 120 "KindWords$Convict" "kind" "I") (List.mem_append_left _ (List.mem_of_getElem? (i := 63) rfl)) rfl
theorem tw_1_64 : Cond.fieldLink RX0 15 "KindWords$Convict" "victim" "I" ∈ wA := wA_of (w := Cond.fieldLink RX0 15 "KindWords$Convict" "victim" "I") (List.mem_append_left _ (List.mem_of_getElem? (i := 64) rfl)) rfl
theorem tw_1_65 : Cond.fieldLink RX1 46 "KindWords$Convict" "victim" "I" ∈ wA := wA_of (w := Cond.fieldLink RX1 46 "KindWords$Convict" "victim" "I") (List.mem_append_left _ (List.mem_of_getElem? (i := 65) rfl)) rfl
theorem tw_1_66 : Cond.fieldLink RX2 58 "KindWords$Convict" "victim" "I" ∈ wA := wA_of (w := Cond.fieldLink RX2 58 "KindWords$Convict" "victim" "I") (List.mem_append_left _ (List.mem_of_getElem? (i := 66) rfl)) rfl
theorem tw_1_67 : Cond.fieldLink RX5 123 "KindWords$Convict" "victim" "I" ∈ wA := wA_of (w := Cond.fieldLink RX5 123 "KindWords$Convict" "victim" "I") (List.mem_append_left _ (List.mem_of_getElem? (i := 67) rfl)) rfl
theorem tw_1_68 : Cond.fieldLink RX0 18 "KindWords$Convict" "fine" "I" ∈ wA := wA_of (w := Cond.fieldLink RX0 18 "KindWords$Convict" "fine" "I") (List.mem_append_left _ (List.mem_of_getElem? (i := 68) rfl)) rfl
theorem tw_1_69 : Cond.fieldLink RX5 126 "KindWords$Convict" "fine" "I" ∈ wA := wA_of (w := Cond.fieldLink RX5 126 "KindWords$Convict" "fine" "I") (List.mem_append_left _ (List.mem_of_getElem? (i := 69) rfl)) rfl
theorem tw_1_70 : Cond.fieldLink RX2 96 "KindWords$Convict" "fine" "I" ∈ wA := wA_of (w := Cond.fieldLink RX2 96 "KindWords$Convict" "fine" "I") (List.mem_append_left _ (List.mem_of_getElem? (i := 70) rfl)) rfl
theorem tw_1_71 : Cond.fieldLink RX0 21 "KindWords$Convict" "knows" "I" ∈ wA := wA_of (w := Cond.fieldLink RX0 21 "KindWords$Convict" "knows" "I") (List.mem_append_left _ (List.mem_of_getElem? (i := 71) rfl)) rfl
theorem tw_1_72 : Cond.fieldLink RX2 73 "KindWords$Convict" "knows" "I" ∈ wA := wA_of (w := Cond.fieldLink RX2 73 "KindWords$Convict" "knows" "I") (List.mem_append_left _ (List.mem_of_getElem? (i := 72) rfl)) rfl
theorem tw_1_73 : Cond.fieldLink RX5 129 "KindWords$Convict" "knows" "I" ∈ wA := wA_of (w := Cond.fieldLink RX5 129 "KindWords$Convict" "knows" "I") (List.mem_append_left _ (List.mem_of_getElem? (i := 73) rfl)) rfl
theorem tw_1_74 : Cond.fieldLink RX0 28 "KindWords$Convict" "mayToday" "I" ∈ wA := wA_of (w := Cond.fieldLink RX0 28 "KindWords$Convict" "mayToday" "I") (List.mem_append_left _ (List.mem_of_getElem? (i := 74) rfl)) rfl
theorem tw_1_75 : Cond.fieldLink RX4 43 "KindWords$Convict" "mayToday" "I" ∈ wA := wA_of (w := Cond.fieldLink RX4 43 "KindWords$Convict" "mayToday" "I") (List.mem_append_left _ (List.mem_of_getElem? (i := 75) rfl)) rfl
theorem tw_1_76 : Cond.fieldLink RX2 55 "KindWords$Convict" "mayToday" "I" ∈ wA := wA_of (w := Cond.fieldLink RX2 55 "KindWords$Convict" "mayToday" "I") (List.mem_append_left _ (List.mem_of_getElem? (i := 76) rfl)) rfl
theorem tw_1_77 : Cond.fieldLink RX5 136 "KindWords$Convict" "mayToday" "I" ∈ wA := wA_of (w := Cond.fieldLink RX5 136 "KindWords$Convict" "mayToday" "I") (List.mem_append_left _ (List.mem_of_getElem? (i := 77) rfl)) rfl
theorem tw_1_78 : Cond.fieldLink RX0 31 "KindWords$Convict" "counted" "I" ∈ wA := wA_of (w := Cond.fieldLink RX0 31 "KindWords$Convict" "counted" "I") (List.mem_append_left _ (List.mem_of_getElem? (i := 78) rfl)) rfl
theorem tw_1_79 : Cond.fieldLink RX5 139 "KindWords$Convict" "counted" "I" ∈ wA := wA_of (w := Cond.fieldLink RX5 139 "KindWords$Convict" "counted" "I") (List.mem_append_left _ (List.mem_of_getElem? (i := 79) rfl)) rfl
theorem tw_1_80 : Cond.lays RX0 "KindWords$Convict" "kind" "I" ∈ wA := wA_of (w := Cond.lays RX0 "KindWords$Convict" "kind" "I") (List.mem_append_left _ (List.mem_of_getElem? (i := 80) rfl)) rfl
theorem tw_1_82 : Cond.lays RX0 "KindWords$Convict" "victim" "I" ∈ wA := wA_of (w := Cond.lays RX0 "KindWords$Convict" "victim" "I") (List.mem_append_left _ (List.mem_of_getElem? (i := 82) rfl)) rfl
theorem tw_1_84 : Cond.lays RX0 "KindWords$Convict" "fine" "I" ∈ wA := wA_of (w := Cond.lays RX0 "KindWords$Convict" "fine" "I") (List.mem_append_left _ (List.mem_of_getElem? (i := 84) rfl)) rfl
theorem tw_1_86 : Cond.lays RX0 "KindWords$Convict" "knows" "I" ∈ wA := wA_of (w := Cond.lays RX0 "KindWords$Convict" "knows" "I") (List.mem_append_left _ (List.mem_of_getElem? (i := 86) rfl)) rfl
theorem tw_1_88 : Cond.lays RX0 "KindWords$Convict" "mayToday" "I" ∈ wA := wA_of (w := Cond.lays RX0 "KindWords$Convict" "mayToday" "I") (List.mem_append_left _ (List.mem_of_getElem? (i := 88) rfl)) rfl
theorem tw_1_90 : Cond.lays RX0 "KindWords$Convict" "counted" "I" ∈ wA := wA_of (w := Cond.lays RX0 "KindWords$Convict" "counted" "I") (List.mem_append_left _ (List.mem_of_getElem? (i := 90) rfl)) rfl
theorem tw_1_93 : Cond.fieldLink RX2 11 "KindWords$Town" "victims" "[LKindWords$Victim;" ∈ wA := wA_of (w := Cond.fieldLink RX2 11 "KindWords$Town" "victims" "[LKindWords$Victim;") (List.mem_append_left _ (List.mem_of_getElem? (i := 93) rfl)) rfl
theorem tw_1_94 : Cond.fieldLink RX5 59 "KindWords$Town" "victims" "[LKindWords$Victim;" ∈ wA := wA_of (w := Cond.fieldLink RX5 59 "KindWords$Town" "victims" "[LKindWords$Victim;") (List.mem_append_left _ (List.mem_of_getElem? (i := 94) rfl)) rfl
theorem tw_1_95 : Cond.fieldLink RX2 19 "KindWords$Town" "convicts" "[LKindWords$Convict;" ∈ wA := wA_of (w := Cond.fieldLink RX2 19 "KindWords$Town" "convicts" "[LKindWords$Convict;") (List.mem_append_left _ (List.mem_of_getElem? (i := 95) rfl)) rfl
theorem tw_1_96 : Cond.fieldLink RX4 32 "KindWords$Town" "convicts" "[LKindWords$Convict;" ∈ wA := wA_of (w := Cond.fieldLink RX4 32 "KindWords$Town" "convicts" "[LKindWords$Convict;") (List.mem_append_left _ (List.mem_of_getElem? (i := 96) rfl)) rfl
theorem tw_1_97 : Cond.fieldLink RX1 37 "KindWords$Town" "convicts" "[LKindWords$Convict;" ∈ wA := wA_of (w := Cond.fieldLink RX1 37 "KindWords$Town" "convicts" "[LKindWords$Convict;") (List.mem_append_left _ (List.mem_of_getElem? (i := 97) rfl)) rfl
theorem tw_1_98 : Cond.fieldLink RX5 107 "KindWords$Town" "convicts" "[LKindWords$Convict;" ∈ wA := wA_of (w := Cond.fieldLink RX5 107 "KindWords$Town" "convicts" "[LKindWords$Convict;") (List.mem_append_left _ (List.mem_of_getElem? (i := 98) rfl)) rfl
theorem tw_1_99 : Cond.fieldLink RX2 28 "KindWords$Town" "convictCount" "I" ∈ wA := wA_of (w := Cond.fieldLink RX2 28 "KindWords$Town" "convictCount" "I") (List.mem_append_left _ (List.mem_of_getElem? (i := 99) rfl)) rfl
theorem tw_1_100 : Cond.fieldLink RX4 29 "KindWords$Town" "convictCount" "I" ∈ wA := wA_of (w := Cond.fieldLink RX4 29 "KindWords$Town" "convictCount" "I") (List.mem_append_left _ (List.mem_of_getElem? (i := 100) rfl)) rfl
theorem tw_1_101 : Cond.fieldLink RX1 30 "KindWords$Town" "convictCount" "I" ∈ wA := wA_of (w := Cond.fieldLink RX1 30 "KindWords$Town" "convictCount" "I") (List.mem_append_left _ (List.mem_of_getElem? (i := 101) rfl)) rfl
theorem tw_1_102 : Cond.fieldLink RX5 104 "KindWords$Town" "convictCount" "I" ∈ wA := wA_of (w := Cond.fieldLink RX5 104 "KindWords$Town" "convictCount" "I") (List.mem_append_left _ (List.mem_of_getElem? (i := 102) rfl)) rfl
theorem tw_1_103 : Cond.fieldLink RX2 32 "KindWords$Town" "sheets" "I" ∈ wA := wA_of (w := Cond.fieldLink RX2 32 "KindWords$Town" "sheets" "I") (List.mem_append_left _ (List.mem_of_getElem? (i := 103) rfl)) rfl
theorem tw_1_104 : Cond.fieldLink RX5 72 "KindWords$Town" "sheets" "I" ∈ wA := wA_of (w := Cond.fieldLink RX5 72 "KindWords$Town" "sheets" "I") (List.mem_append_left _ (List.mem_of_getElem? (i := 104) rfl)) rfl
theorem tw_1_105 : Cond.fieldLink RX2 35 "KindWords$Town" "day" "I" ∈ wA := wA_of (w := Cond.fieldLink RX2 35 "KindWords$Town" "day" "I") (List.mem_append_left _ (List.mem_of_getElem? (i := 105) rfl)) rfl
theorem tw_1_106 : Cond.fieldLink RX5 168 "KindWords$Town" "day" "I" ∈ wA := wA_of (w := Cond.fieldLink RX5 168 "KindWords$Town" "day" "I") (List.mem_append_left _ (List.mem_of_getElem? (i := 106) rfl)) rfl
theorem tw_1_107 : Cond.fieldLink RX2 38 "KindWords$Town" "trials" "I" ∈ wA := wA_of (w := Cond.fieldLink RX2 38 "KindWords$Town" "trials" "I") (List.mem_append_left _ (List.mem_of_getElem? (i := 107) rfl)) rfl
theorem tw_1_108 : Cond.fieldLink RX5 182 "KindWords$Town" "trials" "I" ∈ wA := wA_of (w := Cond.fieldLink RX5 182 "KindWords$Town" "trials" "I") (List.mem_append_left _ (List.mem_of_getElem? (i := 108) rfl)) rfl
theorem tw_1_109 : Cond.laysFinal RX2 "KindWords$Town" "victims" "[LKindWords$Victim;" ∈ wA := wA_of (w := Cond.laysFinal RX2 "KindWords$Town" "victims" "[LKindWords$Victim;") (List.mem_append_left _ (List.mem_of_getElem? (i := 109) rfl)) rfl
theorem tw_1_111 : Cond.laysFinal RX2 "KindWords$Town" "convicts" "[LKindWords$Convict;" ∈ wA := wA_of (w := Cond.laysFinal RX2 "KindWords$Town" "convicts" "[LKindWords$Convict;") (List.mem_append_left _ (List.mem_of_getElem? (i := 111) rfl)) rfl
theorem tw_1_113 : Cond.lays RX2 "KindWords$Town" "convictCount" "I" ∈ wA := wA_of (w := Cond.lays RX2 "KindWords$Town" "convictCount" "I") (List.mem_append_left _ (List.mem_of_getElem? (i := 113) rfl)) rfl
theorem tw_1_115 : Cond.lays RX2 "KindWords$Town" "sheets" "I" ∈ wA := wA_of (w := Cond.lays RX2 "KindWords$Town" "sheets" "I") (List.mem_append_left _ (List.mem_of_getElem? (i := 115) rfl)) rfl
theorem tw_1_117 : Cond.lays RX2 "KindWords$Town" "day" "I" ∈ wA := wA_of (w := Cond.lays RX2 "KindWords$Town" "day" "I") (List.mem_append_left _ (List.mem_of_getElem? (i := 117) rfl)) rfl
theorem tw_1_119 : Cond.lays RX2 "KindWords$Town" "trials" "I" ∈ wA := wA_of (w := Cond.lays RX2 "KindWords$Town" "trials" "I") (List.mem_append_left _ (List.mem_of_getElem? (i := 119) rfl)) rfl
theorem tw_1_122 : Cond.classLink RX5 23 "KindWords$Weeks" ∈ wA := wA_of (w := Cond.classLink RX5 23 "KindWords$Weeks") (List.mem_append_left _ (List.mem_of_getElem? (i := 122) rfl)) rfl
theorem tw_1_123 : Cond.instantiable RX4 3 ∈ wA := wA_of (w := Cond.instantiable RX4 3) (List.mem_append_left _ (List.mem_of_getElem? (i := 123) rfl)) rfl
theorem tq_1_124 : Cond.methodLinkNest RX5 25 yX4_init "KindWords" ∈ lw_tbl := List.mem_append_right _ (List.mem_append_left _ (List.mem_of_getElem? (i := 124) rfl))
theorem tw_1_125 : Cond.instanceMethod yX4_init ∈ wA := wA_of (w := Cond.instanceMethod yX4_init) (List.mem_append_left _ (List.mem_of_getElem? (i := 125) rfl)) rfl
theorem tw_1_126 : Cond.code yX4_init cX4_init 1 none ∈ wA := wA_of (w := Cond.code yX4_init cX4_init 1 none) (List.mem_append_left _ (List.mem_of_getElem? (i := 126) rfl)) rfl
theorem tw_1_127 : Cond.methodLink RX4 3 objectInit ∈ wA := wA_of (w := Cond.methodLink RX4 3 objectInit) (List.mem_append_left _ (List.mem_of_getElem? (i := 127) rfl)) rfl
theorem tw_1_128 : Cond.classLink RX4 9 "KindWords$Town" ∈ wA := wA_of (w := Cond.classLink RX4 9 "KindWords$Town") (List.mem_append_left _ (List.mem_of_getElem? (i := 128) rfl)) rfl
theorem tw_1_129 : Cond.methodLink RX4 11 yX2_init ∈ wA := wA_of (w := Cond.methodLink RX4 11 yX2_init) (List.mem_append_left _ (List.mem_of_getElem? (i := 129) rfl)) rfl
theorem tw_1_130 : Cond.fieldLink RX4 12 "KindWords$Weeks" "town" "LKindWords$Town;" ∈ wA := wA_of (w := Cond.fieldLink RX4 12 "KindWords$Weeks" "town" "LKindWords$Town;") (List.mem_append_left _ (List.mem_of_getElem? (i := 130) rfl)) rfl
theorem tw_1_131 : Cond.fieldLink RX5 206 "KindWords$Weeks" "town" "LKindWords$Town;" ∈ wA := wA_of (w := Cond.fieldLink RX5 206 "KindWords$Weeks" "town" "LKindWords$Town;") (List.mem_append_left _ (List.mem_of_getElem? (i := 131) rfl)) rfl
theorem tw_1_132 : Cond.fieldLink RX4 22 "KindWords$Weeks" "seed" "I" ∈ wA := wA_of (w := Cond.fieldLink RX4 22 "KindWords$Weeks" "seed" "I") (List.mem_append_left _ (List.mem_of_getElem? (i := 132) rfl)) rfl
theorem tw_1_133 : Cond.fieldLink RX5 212 "KindWords$Weeks" "seed" "I" ∈ wA := wA_of (w := Cond.fieldLink RX5 212 "KindWords$Weeks" "seed" "I") (List.mem_append_left _ (List.mem_of_getElem? (i := 133) rfl)) rfl
theorem tw_1_134 : Cond.fieldLink RX4 26 "KindWords$Weeks" "counted" "I" ∈ wA := wA_of (w := Cond.fieldLink RX4 26 "KindWords$Weeks" "counted" "I") (List.mem_append_left _ (List.mem_of_getElem? (i := 134) rfl)) rfl
theorem tw_1_135 : Cond.fieldLink RX5 205 "KindWords$Weeks" "counted" "I" ∈ wA := wA_of (w := Cond.fieldLink RX5 205 "KindWords$Weeks" "counted" "I") (List.mem_append_left _ (List.mem_of_getElem? (i := 135) rfl)) rfl
theorem tw_1_136 : Cond.laysFinal RX4 "KindWords$Weeks" "town" "LKindWords$Town;" ∈ wA := wA_of (w := Cond.laysFinal RX4 "KindWords$Weeks" "town" "LKindWords$Town;") (List.mem_append_left _ (List.mem_of_getElem? (i := 136) rfl)) rfl
theorem tw_1_138 : Cond.lays RX4 "KindWords$Weeks" "seed" "I" ∈ wA := wA_of (w := Cond.lays RX4 "KindWords$Weeks" "seed" "I") (List.mem_append_left _ (List.mem_of_getElem? (i := 138) rfl)) rfl
theorem tw_1_140 : Cond.lays RX4 "KindWords$Weeks" "counted" "I" ∈ wA := wA_of (w := Cond.lays RX4 "KindWords$Weeks" "counted" "I") (List.mem_append_left _ (List.mem_of_getElem? (i := 140) rfl)) rfl
theorem tw_1_143 : Cond.classLink RX5 30 "KindWords$Shares" ∈ wA := wA_of (w := Cond.classLink RX5 30 "KindWords$Shares") (List.mem_append_left _ (List.mem_of_getElem? (i := 143) rfl)) rfl
theorem tw_1_144 : Cond.instantiable RX1 3 ∈ wA := wA_of (w := Cond.instantiable RX1 3) (List.mem_append_left _ (List.mem_of_getElem? (i := 144) rfl)) rfl
theorem tq_1_145 : Cond.methodLinkNest RX5 32 yX1_init "KindWords" ∈ lw_tbl := List.mem_append_right _ (List.mem_append_left _ (List.mem_of_getElem? (i := 145) rfl))
theorem tw_1_146 : Cond.instanceMethod yX1_init ∈ wA := wA_of (w := Cond.instanceMethod yX1_init) (List.mem_append_left _ (List.mem_of_getElem? (i := 146) rfl)) rfl
theorem tw_1_147 : Cond.code yX1_init cX1_init 1 none ∈ wA := wA_of (w := Cond.code yX1_init cX1_init 1 none) (List.mem_append_left _ (List.mem_of_getElem? (i := 147) rfl)) rfl
theorem tw_1_148 : Cond.methodLink RX1 3 objectInit ∈ wA := wA_of (w := Cond.methodLink RX1 3 objectInit) (List.mem_append_left _ (List.mem_of_getElem? (i := 148) rfl)) rfl
theorem tw_1_149 : Cond.fieldLink RX1 9 "KindWords$Shares" "needs" "[I" ∈ wA := wA_of (w := Cond.fieldLink RX1 9 "KindWords$Shares" "needs" "[I") (List.mem_append_left _ (List.mem_of_getElem? (i := 149) rfl)) rfl
theorem tw_1_150 : Cond.fieldLink RX1 15 "KindWords$Shares" "left" "[I" ∈ wA := wA_of (w := Cond.fieldLink RX1 15 "KindWords$Shares" "left" "[I") (List.mem_append_left _ (List.mem_of_getElem? (i := 150) rfl)) rfl
theorem tw_1_151 : Cond.fieldLink RX1 36 "KindWords$Shares" "convictCount" "I" ∈ wA := wA_of (w := Cond.fieldLink RX1 36 "KindWords$Shares" "convictCount" "I") (List.mem_append_left _ (List.mem_of_getElem? (i := 151) rfl)) rfl
theorem tw_1_152 : Cond.laysFinal RX1 "KindWords$Shares" "needs" "[I" ∈ wA := wA_of (w := Cond.laysFinal RX1 "KindWords$Shares" "needs" "[I") (List.mem_append_left _ (List.mem_of_getElem? (i := 152) rfl)) rfl
theorem tw_1_154 : Cond.laysFinal RX1 "KindWords$Shares" "left" "[I" ∈ wA := wA_of (w := Cond.laysFinal RX1 "KindWords$Shares" "left" "[I") (List.mem_append_left _ (List.mem_of_getElem? (i := 154) rfl)) rfl
theorem tw_1_156 : Cond.lays RX1 "KindWords$Shares" "convictCount" "I" ∈ wA := wA_of (w := Cond.lays RX1 "KindWords$Shares" "convictCount" "I") (List.mem_append_left _ (List.mem_of_getElem? (i := 156) rfl)) rfl
theorem tw_1_159 : Cond.arrayClass FieldType.int ∈ wA := wA_of (w := Cond.arrayClass FieldType.int) (List.mem_append_left _ (List.mem_of_getElem? (i := 159) rfl)) rfl
theorem tw_1_160 : Cond.fieldLink RX5 9 "KindWords" "page" "[C" ∈ wA := wA_of (w := Cond.fieldLink RX5 9 "KindWords" "page" "[C") (List.mem_append_left _ (List.mem_of_getElem? (i := 160) rfl)) rfl
theorem tw_1_161 : Cond.fieldLink RX5 37 "KindWords" "letters" "I" ∈ wA := wA_of (w := Cond.fieldLink RX5 37 "KindWords" "letters" "I") (List.mem_append_left _ (List.mem_of_getElem? (i := 161) rfl)) rfl
theorem tw_1_162 : Cond.fieldLink RX5 16 "KindWords" "now" "LKindWords$Town;" ∈ wA := wA_of (w := Cond.fieldLink RX5 16 "KindWords" "now" "LKindWords$Town;") (List.mem_append_left _ (List.mem_of_getElem? (i := 162) rfl)) rfl
theorem tw_1_163 : Cond.fieldLink RX5 20 "KindWords" "kept" "LKindWords$Town;" ∈ wA := wA_of (w := Cond.fieldLink RX5 20 "KindWords" "kept" "LKindWords$Town;") (List.mem_append_left _ (List.mem_of_getElem? (i := 163) rfl)) rfl
theorem tw_1_164 : Cond.fieldLink RX5 26 "KindWords" "supposed" "LKindWords$Weeks;" ∈ wA := wA_of (w := Cond.fieldLink RX5 26 "KindWords" "supposed" "LKindWords$Weeks;") (List.mem_append_left _ (List.mem_of_getElem? (i := 164) rfl)) rfl
theorem tw_1_165 : Cond.fieldLink RX5 33 "KindWords" "shares" "LKindWords$Shares;" ∈ wA := wA_of (w := Cond.fieldLink RX5 33 "KindWords" "shares" "LKindWords$Shares;") (List.mem_append_left _ (List.mem_of_getElem? (i := 165) rfl)) rfl
theorem tw_1_166 : Cond.fieldLink RX5 75 "KindWords" "hasTown" "Z" ∈ wA := wA_of (w := Cond.fieldLink RX5 75 "KindWords" "hasTown" "Z") (List.mem_append_left _ (List.mem_of_getElem? (i := 166) rfl)) rfl
theorem tw_1_167 : Cond.fieldLink RX5 79 "KindWords" "hasImage" "Z" ∈ wA := wA_of (w := Cond.fieldLink RX5 79 "KindWords" "hasImage" "Z") (List.mem_append_left _ (List.mem_of_getElem? (i := 167) rfl)) rfl
theorem tw_1_168 : Cond.fieldLink RX5 82 "KindWords" "townsRead" "I" ∈ wA := wA_of (w := Cond.fieldLink RX5 82 "KindWords" "townsRead" "I") (List.mem_append_left _ (List.mem_of_getElem? (i := 168) rfl)) rfl
theorem tw_1_169 : Cond.laysFinal RX5 "KindWords" "page" "[C" ∈ wA := wA_of (w := Cond.laysFinal RX5 "KindWords" "page" "[C") (List.mem_append_left _ (List.mem_of_getElem? (i := 169) rfl)) rfl
theorem tw_1_171 : Cond.lays RX5 "KindWords" "letters" "I" ∈ wA := wA_of (w := Cond.lays RX5 "KindWords" "letters" "I") (List.mem_append_left _ (List.mem_of_getElem? (i := 171) rfl)) rfl
theorem tw_1_173 : Cond.laysFinal RX5 "KindWords" "now" "LKindWords$Town;" ∈ wA := wA_of (w := Cond.laysFinal RX5 "KindWords" "now" "LKindWords$Town;") (List.mem_append_left _ (List.mem_of_getElem? (i := 173) rfl)) rfl
theorem tw_1_175 : Cond.laysFinal RX5 "KindWords" "kept" "LKindWords$Town;" ∈ wA := wA_of (w := Cond.laysFinal RX5 "KindWords" "kept" "LKindWords$Town;") (List.mem_append_left _ (List.mem_of_getElem? (i := 175) rfl)) rfl
theorem tw_1_177 : Cond.laysFinal RX5 "KindWords" "supposed" "LKindWords$Weeks;" ∈ wA := wA_of (w := Cond.laysFinal RX5 "KindWords" "supposed" "LKindWords$Weeks;") (List.mem_append_left _ (List.mem_of_getElem? (i := 177) rfl)) rfl
theorem tw_1_179 : Cond.laysFinal RX5 "KindWords" "shares" "LKindWords$Shares;" ∈ wA := wA_of (w := Cond.laysFinal RX5 "KindWords" "shares" "LKindWords$Shares;") (List.mem_append_left _ (List.mem_of_getElem? (i := 179) rfl)) rfl
theorem tw_1_181 : Cond.lays RX5 "KindWords" "hasTown" "Z" ∈ wA := wA_of (w := Cond.lays RX5 "KindWords" "hasTown" "Z") (List.mem_append_left _ (List.mem_of_getElem? (i := 181) rfl)) rfl
theorem tw_1_183 : Cond.lays RX5 "KindWords" "hasImage" "Z" ∈ wA := wA_of (w := Cond.lays RX5 "KindWords" "hasImage" "Z") (List.mem_append_left _ (List.mem_of_getElem? (i := 183) rfl)) rfl
theorem tw_1_185 : Cond.lays RX5 "KindWords" "townsRead" "I" ∈ wA := wA_of (w := Cond.lays RX5 "KindWords" "townsRead" "I") (List.mem_append_left _ (List.mem_of_getElem? (i := 185) rfl)) rfl
theorem tw_1_188 : Cond.methodLink RL 13 yX5_letter ∈ wA := wA_of (w := Cond.methodLink RL 13 yX5_letter) (List.mem_append_left _ (List.mem_of_getElem? (i := 188) rfl)) rfl
theorem tw_1_189 : Cond.instanceMethod yX5_letter ∈ wA := wA_of (w := Cond.instanceMethod yX5_letter) (List.mem_append_left _ (List.mem_of_getElem? (i := 189) rfl)) rfl
theorem tw_1_190 : Cond.selects RX5 yX5_letter yX5_letter ∈ wA := wA_of (w := Cond.selects RX5 yX5_letter yX5_letter) (List.mem_append_left _ (List.mem_of_getElem? (i := 190) rfl)) rfl
theorem tw_1_191 : Cond.code yX5_letter cX5_letter 2 (some .int) ∈ wA := wA_of (w := Cond.code yX5_letter cX5_letter 2 (some .int)) (List.mem_append_left _ (List.mem_of_getElem? (i := 191) rfl)) rfl
theorem tw_1_192 : Cond.methodLink RL 18 yX5_blank ∈ wA := wA_of (w := Cond.methodLink RL 18 yX5_blank) (List.mem_append_left _ (List.mem_of_getElem? (i := 192) rfl)) rfl
theorem tw_1_193 : Cond.instanceMethod yX5_blank ∈ wA := wA_of (w := Cond.instanceMethod yX5_blank) (List.mem_append_left _ (List.mem_of_getElem? (i := 193) rfl)) rfl
theorem tw_1_194 : Cond.selects RX5 yX5_blank yX5_blank ∈ wA := wA_of (w := Cond.selects RX5 yX5_blank yX5_blank) (List.mem_append_left _ (List.mem_of_getElem? (i := 194) rfl)) rfl
theorem tw_1_195 : Cond.code yX5_blank cX5_blank 2 (some .int) ∈ wA := wA_of (w := Cond.code yX5_blank cX5_blank 2 (some .int)) (List.mem_append_left _ (List.mem_of_getElem? (i := 195) rfl)) rfl
theorem tw_1_196 : Cond.methodLink RL 23 yX5_fault ∈ wA := wA_of (w := Cond.methodLink RL 23 yX5_fault) (List.mem_append_left _ (List.mem_of_getElem? (i := 196) rfl)) rfl
theorem tw_1_197 : Cond.instanceMethod yX5_fault ∈ wA := wA_of (w := Cond.instanceMethod yX5_fault) (List.mem_append_left _ (List.mem_of_getElem? (i := 197) rfl)) rfl
theorem tw_1_198 : Cond.selects RX5 yX5_fault yX5_fault ∈ wA := wA_of (w := Cond.selects RX5 yX5_fault yX5_fault) (List.mem_append_left _ (List.mem_of_getElem? (i := 198) rfl)) rfl
theorem tw_1_199 : Cond.code yX5_fault cX5_fault 2 (some .int) ∈ wA := wA_of (w := Cond.code yX5_fault cX5_fault 2 (some .int)) (List.mem_append_left _ (List.mem_of_getElem? (i := 199) rfl)) rfl
theorem tw_1_200 : Cond.methodLink RX5 41 yX5_fits ∈ wA := wA_of (w := Cond.methodLink RX5 41 yX5_fits) (List.mem_append_left _ (List.mem_of_getElem? (i := 200) rfl)) rfl
theorem tw_1_201 : Cond.static yX5_fits ∈ wA := wA_of (w := Cond.static yX5_fits) (List.mem_append_left _ (List.mem_of_getElem? (i := 201) rfl)) rfl
theorem tw_1_202 : Cond.code yX5_fits cX5_fits 4 (some .boolean) ∈ wA := wA_of (w := Cond.code yX5_fits cX5_fits 4 (some .boolean)) (List.mem_append_left _ (List.mem_of_getElem? (i := 202) rfl)) rfl
theorem tq_1_203 : Cond.stringRef RX5 45 "77,77,77;9" ∈ lw_tbl := List.mem_append_right _ (List.mem_append_left _ (List.mem_of_getElem? (i := 203) rfl))
theorem tw_1_204 : Cond.methodLink RX5 47 yJ0_length_8abf5 ∈ wA := wA_of (w := Cond.methodLink RX5 47 yJ0_length_8abf5) (List.mem_append_left _ (List.mem_of_getElem? (i := 204) rfl)) rfl
theorem tw_1_205 : Cond.instanceMethod yJ0_length_8abf5 ∈ wA := wA_of (w := Cond.instanceMethod yJ0_length_8abf5) (List.mem_append_left _ (List.mem_of_getElem? (i := 205) rfl)) rfl
theorem tw_1_206 : Cond.selects RJ0 yJ0_length_8abf5 yJ0_length_8abf5 ∈ wA := wA_of (w := Cond.selects RJ0 yJ0_length_8abf5 yJ0_length_8abf5) (List.mem_append_left _ (List.mem_of_getElem? (i := 206) rfl)) rfl
theorem tw_1_207 : Cond.code yJ0_length_8abf5 cJ0_length_8abf5 1 (some .int) ∈ wA := wA_of (w := Cond.code yJ0_length_8abf5 cJ0_length_8abf5 1 (some .int)) (List.mem_append_left _ (List.mem_of_getElem? (i := 207) rfl)) rfl
theorem tw_1_208 : Cond.methodLink RJ0 335 yJ0_coder_7d493 ∈ wA := wA_of (w := Cond.methodLink RJ0 335 yJ0_coder_7d493) (List.mem_append_left _ (List.mem_of_getElem? (i := 208) rfl)) rfl
theorem tw_1_209 : Cond.instanceMethod yJ0_coder_7d493 ∈ wA := wA_of (w := Cond.instanceMethod yJ0_coder_7d493) (List.mem_append_left _ (List.mem_of_getElem? (i := 209) rfl)) rfl
theorem tw_1_210 : Cond.selects RJ0 yJ0_coder_7d493 yJ0_coder_7d493 ∈ wA := wA_of (w := Cond.selects RJ0 yJ0_coder_7d493 yJ0_coder_7d493) (List.mem_append_left _ (List.mem_of_getElem? (i := 210) rfl)) rfl
theorem tw_1_211 : Cond.code yJ0_coder_7d493 cJ0_coder_7d493 1 (some .byte) ∈ wA := wA_of (w := Cond.code yJ0_coder_7d493 cJ0_coder_7d493 1 (some .byte)) (List.mem_append_left _ (List.mem_of_getElem? (i := 211) rfl)) rfl
theorem tw_1_212 : Cond.fieldLink RJ0 38 "java/lang/String" "COMPACT_STRINGS" "Z" ∈ wA := wA_of (w := Cond.fieldLink RJ0 38 "java/lang/String" "COMPACT_STRINGS" "Z") (List.mem_append_left _ (List.mem_of_getElem? (i := 212) rfl)) rfl
theorem tw_1_214 : Cond.methodLink RX5 257 yJ0_charAt_5068e ∈ wA := wA_of (w := Cond.methodLink RX5 257 yJ0_charAt_5068e) (List.mem_append_left _ (List.mem_of_getElem? (i := 214) rfl)) rfl
theorem tw_1_215 : Cond.instanceMethod yJ0_charAt_5068e ∈ wA := wA_of (w := Cond.instanceMethod yJ0_charAt_5068e) (List.mem_append_left _ (List.mem_of_getElem? (i := 215) rfl)) rfl
theorem tw_1_216 : Cond.selects RJ0 yJ0_charAt_5068e yJ0_charAt_5068e ∈ wA := wA_of (w := Cond.selects RJ0 yJ0_charAt_5068e yJ0_charAt_5068e) (List.mem_append_left _ (List.mem_of_getElem? (i := 216) rfl)) rfl
theorem tw_1_217 : Cond.code yJ0_charAt_5068e cJ0_charAt_5068e 2 (some .char) ∈ wA := wA_of (w := Cond.code yJ0_charAt_5068e cJ0_charAt_5068e 2 (some .char)) (List.mem_append_left _ (List.mem_of_getElem? (i := 217) rfl)) rfl
theorem tw_1_218 : Cond.methodLink RJ0 492 yJ0_isLatin1_aae02 ∈ wA := wA_of (w := Cond.methodLink RJ0 492 yJ0_isLatin1_aae02) (List.mem_append_left _ (List.mem_of_getElem? (i := 218) rfl)) rfl
theorem tw_1_219 : Cond.instanceMethod yJ0_isLatin1_aae02 ∈ wA := wA_of (w := Cond.instanceMethod yJ0_isLatin1_aae02) (List.mem_append_left _ (List.mem_of_getElem? (i := 219) rfl)) rfl
theorem tw_1_220 : Cond.selects RJ0 yJ0_isLatin1_aae02 yJ0_isLatin1_aae02 ∈ wA := wA_of (w := Cond.selects RJ0 yJ0_isLatin1_aae02 yJ0_isLatin1_aae02) (List.mem_append_left _ (List.mem_of_getElem? (i := 220) rfl)) rfl
theorem tw_1_221 : Cond.code yJ0_isLatin1_aae02 cJ0_isLatin1_aae02 1 (some .boolean) ∈ wA := wA_of (w := Cond.code yJ0_isLatin1_aae02 cJ0_isLatin1_aae02 1 (some .boolean)) (List.mem_append_left _ (List.mem_of_getElem? (i := 221) rfl)) rfl
theorem tw_1_222 : Cond.methodLink RJ0 495 yJ1_charAt_3b067 ∈ wA := wA_of (w := Cond.methodLink RJ0 495 yJ1_charAt_3b067) (List.mem_append_left _ (List.mem_of_getElem? (i := 222) rfl)) rfl
theorem tw_1_223 : Cond.static yJ1_charAt_3b067 ∈ wA := wA_of (w := Cond.static yJ1_charAt_3b067) (List.mem_append_left _ (List.mem_of_getElem? (i := 223) rfl)) rfl
theorem tw_1_224 : Cond.code yJ1_charAt_3b067 cJ1_charAt_3b067 2 (some .char) ∈ wA := wA_of (w := Cond.code yJ1_charAt_3b067 cJ1_charAt_3b067 2 (some .char)) (List.mem_append_left _ (List.mem_of_getElem? (i := 224) rfl)) rfl
theorem tw_1_225 : Cond.methodLink RJ1 9 yJ0_checkIndex_df160 ∈ wA := wA_of (w := Cond.methodLink RJ1 9 yJ0_checkIndex_df160) (List.mem_append_left _ (List.mem_of_getElem? (i := 225) rfl)) rfl
theorem tw_1_226 : Cond.static yJ0_checkIndex_df160 ∈ wA := wA_of (w := Cond.static yJ0_checkIndex_df160) (List.mem_append_left _ (List.mem_of_getElem? (i := 226) rfl)) rfl
theorem tw_1_227 : Cond.code yJ0_checkIndex_df160 cJ0_checkIndex_df160 2 none ∈ wA := wA_of (w := Cond.code yJ0_checkIndex_df160 cJ0_checkIndex_df160 2 none) (List.mem_append_left _ (List.mem_of_getElem? (i := 227) rfl)) rfl
theorem tw_1_228 : Cond.fieldLink RJ0 1053 "jdk/internal/util/Preconditions" "SIOOBE_FORMATTER" "Ljava/util/function/BiFunction;" ∈ wA := wA_of (w := Cond.fieldLink RJ0 1053 "jdk/internal/util/Preconditions" "SIOOBE_FORMATTER" "Ljava/util/function/BiFunction;") (List.mem_append_left _ (List.mem_of_getElem? (i := 228) rfl)) rfl
theorem tw_1_230 : Cond.methodLink RJ0 1059 yJ3_checkIndex_8e157 ∈ wA := wA_of (w := Cond.methodLink RJ0 1059 yJ3_checkIndex_8e157) (List.mem_append_left _ (List.mem_of_getElem? (i := 230) rfl)) rfl
theorem tw_1_231 : Cond.static yJ3_checkIndex_8e157 ∈ wA := wA_of (w := Cond.static yJ3_checkIndex_8e157) (List.mem_append_left _ (List.mem_of_getElem? (i := 231) rfl)) rfl
theorem tw_1_232 : Cond.code yJ3_checkIndex_8e157 cJ3_checkIndex_8e157 3 (some .int) ∈ wA := wA_of (w := Cond.code yJ3_checkIndex_8e157 cJ3_checkIndex_8e157 3 (some .int)) (List.mem_append_left _ (List.mem_of_getElem? (i := 232) rfl)) rfl
theorem tw_1_233 : Cond.methodLink RJ0 498 yJ2_charAt_3b067 ∈ wA := wA_of (w := Cond.methodLink RJ0 498 yJ2_charAt_3b067) (List.mem_append_left _ (List.mem_of_getElem? (i := 233) rfl)) rfl
theorem tw_1_234 : Cond.static yJ2_charAt_3b067 ∈ wA := wA_of (w := Cond.static yJ2_charAt_3b067) (List.mem_append_left _ (List.mem_of_getElem? (i := 234) rfl)) rfl
theorem tw_1_235 : Cond.code yJ2_charAt_3b067 cJ2_charAt_3b067 2 (some .char) ∈ wA := wA_of (w := Cond.code yJ2_charAt_3b067 cJ2_charAt_3b067 2 (some .char)) (List.mem_append_left _ (List.mem_of_getElem? (i := 235) rfl)) rfl
theorem tw_1_236 : Cond.methodLink RJ2 67 yJ2_checkIndex_2214a ∈ wA := wA_of (w := Cond.methodLink RJ2 67 yJ2_checkIndex_2214a) (List.mem_append_left _ (List.mem_of_getElem? (i := 236) rfl)) rfl
theorem tw_1_237 : Cond.static yJ2_checkIndex_2214a ∈ wA := wA_of (w := Cond.static yJ2_checkIndex_2214a) (List.mem_append_left _ (List.mem_of_getElem? (i := 237) rfl)) rfl
theorem tw_1_238 : Cond.code yJ2_checkIndex_2214a cJ2_checkIndex_2214a 2 none ∈ wA := wA_of (w := Cond.code yJ2_checkIndex_2214a cJ2_checkIndex_2214a 2 none) (List.mem_append_left _ (List.mem_of_getElem? (i := 238) rfl)) rfl
theorem tw_1_239 : Cond.methodLink RJ2 48 yJ2_length_9d52b ∈ wA := wA_of (w := Cond.methodLink RJ2 48 yJ2_length_9d52b) (List.mem_append_left _ (List.mem_of_getElem? (i := 239) rfl)) rfl
theorem tw_2_0 : Cond.static yJ2_length_9d52b ∈ wA := wA_of (w := Cond.static yJ2_length_9d52b) (List.mem_append_right _ (List.mem_append_left _ (List.mem_of_getElem? (i := 0) rfl))) rfl
theorem tw_2_1 : Cond.code yJ2_length_9d52b cJ2_length_9d52b 1 (some .int) ∈ wA := wA_of (w := Cond.code yJ2_length_9d52b cJ2_length_9d52b 1 (some .int)) (List.mem_append_right _ (List.mem_append_left _ (List.mem_of_getElem? (i := 1) rfl))) rfl
theorem tw_2_2 : Cond.methodLink RJ2 414 yJ0_checkIndex_df160 ∈ wA := wA_of (w := Cond.methodLink RJ2 414 yJ0_checkIndex_df160) (List.mem_append_right _ (List.mem_append_left _ (List.mem_of_getElem? (i := 2) rfl))) rfl
theorem tw_2_3 : Cond.methodLink RJ2 71 yJ2_getChar_3b067 ∈ wA := wA_of (w := Cond.methodLink RJ2 71 yJ2_getChar_3b067) (List.mem_append_right _ (List.mem_append_left _ (List.mem_of_getElem? (i := 3) rfl))) rfl
theorem tw_2_4 : Cond.static yJ2_getChar_3b067 ∈ wA := wA_of (w := Cond.static yJ2_getChar_3b067) (List.mem_append_right _ (List.mem_append_left _ (List.mem_of_getElem? (i := 4) rfl))) rfl
theorem tw_2_5 : Cond.code yJ2_getChar_3b067 cJ2_getChar_3b067 2 (some .char) ∈ wA := wA_of (w := Cond.code yJ2_getChar_3b067 cJ2_getChar_3b067 2 (some .char)) (List.mem_append_right _ (List.mem_append_left _ (List.mem_of_getElem? (i := 5) rfl))) rfl
theorem tw_2_6 : Cond.fieldLink RJ2 44 "java/lang/StringUTF16" "$assertionsDisabled" "Z" ∈ wA := wA_of (w := Cond.fieldLink RJ2 44 "java/lang/StringUTF16" "$assertionsDisabled" "Z") (List.mem_append_right _ (List.mem_append_left _ (List.mem_of_getElem? (i := 6) rfl))) rfl
theorem tw_2_8 : Cond.fieldLink RJ2 59 "java/lang/StringUTF16" "HI_BYTE_SHIFT" "I" ∈ wA := wA_of (w := Cond.fieldLink RJ2 59 "java/lang/StringUTF16" "HI_BYTE_SHIFT" "I") (List.mem_append_right _ (List.mem_append_left _ (List.mem_of_getElem? (i := 8) rfl))) rfl
theorem tw_2_10 : Cond.fieldLink RJ2 63 "java/lang/StringUTF16" "LO_BYTE_SHIFT" "I" ∈ wA := wA_of (w := Cond.fieldLink RJ2 63 "java/lang/StringUTF16" "LO_BYTE_SHIFT" "I") (List.mem_append_right _ (List.mem_append_left _ (List.mem_of_getElem? (i := 10) rfl))) rfl
theorem tw_2_12 : Cond.arrayClass FieldType.byte ∈ wA := wA_of (w := Cond.arrayClass FieldType.byte) (List.mem_append_right _ (List.mem_append_left _ (List.mem_of_getElem? (i := 12) rfl))) rfl
theorem tw_2_13 : Cond.methodLink RL 27 yX5_town ∈ wA := wA_of (w := Cond.methodLink RL 27 yX5_town) (List.mem_append_right _ (List.mem_append_left _ (List.mem_of_getElem? (i := 13) rfl))) rfl
theorem tw_2_14 : Cond.instanceMethod yX5_town ∈ wA := wA_of (w := Cond.instanceMethod yX5_town) (List.mem_append_right _ (List.mem_append_left _ (List.mem_of_getElem? (i := 14) rfl))) rfl
theorem tw_2_15 : Cond.selects RX5 yX5_town yX5_town ∈ wA := wA_of (w := Cond.selects RX5 yX5_town yX5_town) (List.mem_append_right _ (List.mem_append_left _ (List.mem_of_getElem? (i := 15) rfl))) rfl
theorem tw_2_16 : Cond.code yX5_town cX5_town 3 (some .int) ∈ wA := wA_of (w := Cond.code yX5_town cX5_town 3 (some .int)) (List.mem_append_right _ (List.mem_append_left _ (List.mem_of_getElem? (i := 16) rfl))) rfl
theorem tw_2_17 : Cond.methodLink RX5 53 yX5_fault ∈ wA := wA_of (w := Cond.methodLink RX5 53 yX5_fault) (List.mem_append_right _ (List.mem_append_left _ (List.mem_of_getElem? (i := 17) rfl))) rfl
theorem tw_2_18 : Cond.methodLink RX5 56 yX2_clear ∈ wA := wA_of (w := Cond.methodLink RX5 56 yX2_clear) (List.mem_append_right _ (List.mem_append_left _ (List.mem_of_getElem? (i := 18) rfl))) rfl
theorem tw_2_19 : Cond.instanceMethod yX2_clear ∈ wA := wA_of (w := Cond.instanceMethod yX2_clear) (List.mem_append_right _ (List.mem_append_left _ (List.mem_of_getElem? (i := 19) rfl))) rfl
theorem tw_2_20 : Cond.selects RX2 yX2_clear yX2_clear ∈ wA := wA_of (w := Cond.selects RX2 yX2_clear yX2_clear) (List.mem_append_right _ (List.mem_append_left _ (List.mem_of_getElem? (i := 20) rfl))) rfl
theorem tw_2_21 : Cond.code yX2_clear cX2_clear 2 none ∈ wA := wA_of (w := Cond.code yX2_clear cX2_clear 2 none) (List.mem_append_right _ (List.mem_append_left _ (List.mem_of_getElem? (i := 21) rfl))) rfl
theorem tw_2_22 : Cond.methodLink RX2 25 yX3_clear ∈ wA := wA_of (w := Cond.methodLink RX2 25 yX3_clear) (List.mem_append_right _ (List.mem_append_left _ (List.mem_of_getElem? (i := 22) rfl))) rfl
theorem tw_2_23 : Cond.instanceMethod yX3_clear ∈ wA := wA_of (w := Cond.instanceMethod yX3_clear) (List.mem_append_right _ (List.mem_append_left _ (List.mem_of_getElem? (i := 23) rfl))) rfl
theorem tw_2_24 : Cond.selects RX3 yX3_clear yX3_clear ∈ wA := wA_of (w := Cond.selects RX3 yX3_clear yX3_clear) (List.mem_append_right _ (List.mem_append_left _ (List.mem_of_getElem? (i := 24) rfl))) rfl
theorem tw_2_25 : Cond.code yX3_clear cX3_clear 1 none ∈ wA := wA_of (w := Cond.code yX3_clear cX3_clear 1 none) (List.mem_append_right _ (List.mem_append_left _ (List.mem_of_getElem? (i := 25) rfl))) rfl
theorem tw_2_26 : Cond.methodLink RX3 18 yX3_forgetTrials ∈ wA := wA_of (w := Cond.methodLink RX3 18 yX3_forgetTrials) (List.mem_append_right _ (List.mem_append_left _ (List.mem_of_getElem? (i := 26) rfl))) rfl
theorem tw_2_27 : Cond.instanceMethod yX3_forgetTrials ∈ wA := wA_of (w := Cond.instanceMethod yX3_forgetTrials) (List.mem_append_right _ (List.mem_append_left _ (List.mem_of_getElem? (i := 27) rfl))) rfl
theorem tw_2_28 : Cond.selects RX3 yX3_forgetTrials yX3_forgetTrials ∈ wA := wA_of (w := Cond.selects RX3 yX3_forgetTrials yX3_forgetTrials) (List.mem_append_right _ (List.mem_append_left _ (List.mem_of_getElem? (i := 28) rfl))) rfl
theorem tw_2_29 : Cond.code yX3_forgetTrials cX3_forgetTrials 1 none ∈ wA := wA_of (w := Cond.code yX3_forgetTrials cX3_forgetTrials 1 none) (List.mem_append_right _ (List.mem_append_left _ (List.mem_of_getElem? (i := 29) rfl))) rfl
theorem tw_2_30 : Cond.methodLink RX5 63 yX5_digitAt ∈ wA := wA_of (w := Cond.methodLink RX5 63 yX5_digitAt) (List.mem_append_right _ (List.mem_append_left _ (List.mem_of_getElem? (i := 30) rfl))) rfl
theorem tw_2_32 : Cond.instanceMethod yX5_digitAt ∈ wA := wA_of (w := Cond.instanceMethod yX5_digitAt) (List.mem_append_right _ (List.mem_append_left _ (List.mem_of_getElem? (i := 32) rfl))) rfl
theorem tw_2_33 : Cond.code yX5_digitAt cX5_digitAt 2 (some .int) ∈ wA := wA_of (w := Cond.code yX5_digitAt cX5_digitAt 2 (some .int)) (List.mem_append_right _ (List.mem_append_left _ (List.mem_of_getElem? (i := 33) rfl))) rfl
theorem tw_2_34 : Cond.methodLink RX5 85 yX2_truthsOfAll ∈ wA := wA_of (w := Cond.methodLink RX5 85 yX2_truthsOfAll) (List.mem_append_right _ (List.mem_append_left _ (List.mem_of_getElem? (i := 34) rfl))) rfl
theorem tw_2_35 : Cond.instanceMethod yX2_truthsOfAll ∈ wA := wA_of (w := Cond.instanceMethod yX2_truthsOfAll) (List.mem_append_right _ (List.mem_append_left _ (List.mem_of_getElem? (i := 35) rfl))) rfl
theorem tw_2_36 : Cond.selects RX2 yX2_truthsOfAll yX2_truthsOfAll ∈ wA := wA_of (w := Cond.selects RX2 yX2_truthsOfAll yX2_truthsOfAll) (List.mem_append_right _ (List.mem_append_left _ (List.mem_of_getElem? (i := 36) rfl))) rfl
theorem tw_2_37 : Cond.code yX2_truthsOfAll cX2_truthsOfAll 3 (some .int) ∈ wA := wA_of (w := Cond.code yX2_truthsOfAll cX2_truthsOfAll 3 (some .int)) (List.mem_append_right _ (List.mem_append_left _ (List.mem_of_getElem? (i := 37) rfl))) rfl
theorem tw_2_38 : Cond.methodLink RX2 90 yJ6_bitCount_0f7a4 ∈ wA := wA_of (w := Cond.methodLink RX2 90 yJ6_bitCount_0f7a4) (List.mem_append_right _ (List.mem_append_left _ (List.mem_of_getElem? (i := 38) rfl))) rfl
theorem tw_2_39 : Cond.static yJ6_bitCount_0f7a4 ∈ wA := wA_of (w := Cond.static yJ6_bitCount_0f7a4) (List.mem_append_right _ (List.mem_append_left _ (List.mem_of_getElem? (i := 39) rfl))) rfl
theorem tw_2_40 : Cond.code yJ6_bitCount_0f7a4 cJ6_bitCount_0f7a4 1 (some .int) ∈ wA := wA_of (w := Cond.code yJ6_bitCount_0f7a4 cJ6_bitCount_0f7a4 1 (some .int)) (List.mem_append_right _ (List.mem_append_left _ (List.mem_of_getElem? (i := 40) rfl))) rfl
theorem tw_2_41 : Cond.constant RJ6 265 (1431655765 : Int32) ∈ wA := wA_of (w := Cond.constant RJ6 265 (1431655765 : Int32)) (List.mem_append_right _ (List.mem_append_left _ (List.mem_of_getElem? (i := 41) rfl))) rfl
theorem tw_2_42 : Cond.constant RJ6 266 (858993459 : Int32) ∈ wA := wA_of (w := Cond.constant RJ6 266 (858993459 : Int32)) (List.mem_append_right _ (List.mem_append_left _ (List.mem_of_getElem? (i := 42) rfl))) rfl
theorem tw_2_43 : Cond.constant RJ6 267 (252645135 : Int32) ∈ wA := wA_of (w := Cond.constant RJ6 267 (252645135 : Int32)) (List.mem_append_right _ (List.mem_append_left _ (List.mem_of_getElem? (i := 43) rfl))) rfl
theorem tw_2_44 : Cond.methodLink RL 31 yX5_victim ∈ wA := wA_of (w := Cond.methodLink RL 31 yX5_victim) (List.mem_append_right _ (List.mem_append_left _ (List.mem_of_getElem? (i := 44) rfl))) rfl
theorem tw_2_45 : Cond.instanceMethod yX5_victim ∈ wA := wA_of (w := Cond.instanceMethod yX5_victim) (List.mem_append_right _ (List.mem_append_left _ (List.mem_of_getElem? (i := 45) rfl))) rfl
theorem tw_2_46 : Cond.selects RX5 yX5_victim yX5_victim ∈ wA := wA_of (w := Cond.selects RX5 yX5_victim yX5_victim) (List.mem_append_right _ (List.mem_append_left _ (List.mem_of_getElem? (i := 46) rfl))) rfl
theorem tw_2_47 : Cond.code yX5_victim cX5_victim 3 (some .int) ∈ wA := wA_of (w := Cond.code yX5_victim cX5_victim 3 (some .int)) (List.mem_append_right _ (List.mem_append_left _ (List.mem_of_getElem? (i := 47) rfl))) rfl
theorem tw_2_48 : Cond.methodLink RX5 88 yX5_isVictim ∈ wA := wA_of (w := Cond.methodLink RX5 88 yX5_isVictim) (List.mem_append_right _ (List.mem_append_left _ (List.mem_of_getElem? (i := 48) rfl))) rfl
theorem tw_2_50 : Cond.instanceMethod yX5_isVictim ∈ wA := wA_of (w := Cond.instanceMethod yX5_isVictim) (List.mem_append_right _ (List.mem_append_left _ (List.mem_of_getElem? (i := 50) rfl))) rfl
theorem tw_2_51 : Cond.code yX5_isVictim cX5_isVictim 2 (some .boolean) ∈ wA := wA_of (w := Cond.code yX5_isVictim cX5_isVictim 2 (some .boolean)) (List.mem_append_right _ (List.mem_append_left _ (List.mem_of_getElem? (i := 51) rfl))) rfl
theorem tw_2_52 : Cond.methodLink RX5 95 yX2_convictsOf ∈ wA := wA_of (w := Cond.methodLink RX5 95 yX2_convictsOf) (List.mem_append_right _ (List.mem_append_left _ (List.mem_of_getElem? (i := 52) rfl))) rfl
theorem tw_2_53 : Cond.instanceMethod yX2_convictsOf ∈ wA := wA_of (w := Cond.instanceMethod yX2_convictsOf) (List.mem_append_right _ (List.mem_append_left _ (List.mem_of_getElem? (i := 53) rfl))) rfl
theorem tw_2_54 : Cond.selects RX2 yX2_convictsOf yX2_convictsOf ∈ wA := wA_of (w := Cond.selects RX2 yX2_convictsOf yX2_convictsOf) (List.mem_append_right _ (List.mem_append_left _ (List.mem_of_getElem? (i := 54) rfl))) rfl
theorem tw_2_55 : Cond.code yX2_convictsOf cX2_convictsOf 4 (some .int) ∈ wA := wA_of (w := Cond.code yX2_convictsOf cX2_convictsOf 4 (some .int)) (List.mem_append_right _ (List.mem_append_left _ (List.mem_of_getElem? (i := 55) rfl))) rfl
theorem tw_2_56 : Cond.methodLink RX5 98 yX2_finesOf ∈ wA := wA_of (w := Cond.methodLink RX5 98 yX2_finesOf) (List.mem_append_right _ (List.mem_append_left _ (List.mem_of_getElem? (i := 56) rfl))) rfl
theorem tw_2_57 : Cond.instanceMethod yX2_finesOf ∈ wA := wA_of (w := Cond.instanceMethod yX2_finesOf) (List.mem_append_right _ (List.mem_append_left _ (List.mem_of_getElem? (i := 57) rfl))) rfl
theorem tw_2_58 : Cond.selects RX2 yX2_finesOf yX2_finesOf ∈ wA := wA_of (w := Cond.selects RX2 yX2_finesOf yX2_finesOf) (List.mem_append_right _ (List.mem_append_left _ (List.mem_of_getElem? (i := 58) rfl))) rfl
theorem tw_2_59 : Cond.code yX2_finesOf cX2_finesOf 4 (some .int) ∈ wA := wA_of (w := Cond.code yX2_finesOf cX2_finesOf 4 (some .int)) (List.mem_append_right _ (List.mem_append_left _ (List.mem_of_getElem? (i := 59) rfl))) rfl
theorem tw_2_60 : Cond.methodLink RL 36 yX5_convict ∈ wA := wA_of (w := Cond.methodLink RL 36 yX5_convict) (List.mem_append_right _ (List.mem_append_left _ (List.mem_of_getElem? (i := 60) rfl))) rfl
theorem tw_2_61 : Cond.instanceMethod yX5_convict ∈ wA := wA_of (w := Cond.instanceMethod yX5_convict) (List.mem_append_right _ (List.mem_append_left _ (List.mem_of_getElem? (i := 61) rfl))) rfl
theorem tw_2_62 : Cond.selects RX5 yX5_convict yX5_convict ∈ wA := wA_of (w := Cond.selects RX5 yX5_convict yX5_convict) (List.mem_append_right _ (List.mem_append_left _ (List.mem_of_getElem? (i := 62) rfl))) rfl
theorem tw_2_63 : Cond.code yX5_convict cX5_convict 6 (some .int) ∈ wA := wA_of (w := Cond.code yX5_convict cX5_convict 6 (some .int)) (List.mem_append_right _ (List.mem_append_left _ (List.mem_of_getElem? (i := 63) rfl))) rfl
theorem tw_2_64 : Cond.methodLink RX5 101 yX5_isKind ∈ wA := wA_of (w := Cond.methodLink RX5 101 yX5_isKind) (List.mem_append_right _ (List.mem_append_left _ (List.mem_of_getElem? (i := 64) rfl))) rfl
theorem tw_2_65 : Cond.static yX5_isKind ∈ wA := wA_of (w := Cond.static yX5_isKind) (List.mem_append_right _ (List.mem_append_left _ (List.mem_of_getElem? (i := 65) rfl))) rfl
theorem tw_2_66 : Cond.code yX5_isKind cX5_isKind 1 (some .boolean) ∈ wA := wA_of (w := Cond.code yX5_isKind cX5_isKind 1 (some .boolean)) (List.mem_append_right _ (List.mem_append_left _ (List.mem_of_getElem? (i := 66) rfl))) rfl
theorem tw_2_67 : Cond.methodLink RX5 111 yX0_begin ∈ wA := wA_of (w := Cond.methodLink RX5 111 yX0_begin) (List.mem_append_right _ (List.mem_append_left _ (List.mem_of_getElem? (i := 67) rfl))) rfl
theorem tw_2_68 : Cond.instanceMethod yX0_begin ∈ wA := wA_of (w := Cond.instanceMethod yX0_begin) (List.mem_append_right _ (List.mem_append_left _ (List.mem_of_getElem? (i := 68) rfl))) rfl
theorem tw_2_69 : Cond.selects RX0 yX0_begin yX0_begin ∈ wA := wA_of (w := Cond.selects RX0 yX0_begin yX0_begin) (List.mem_append_right _ (List.mem_append_left _ (List.mem_of_getElem? (i := 69) rfl))) rfl
theorem tw_2_70 : Cond.code yX0_begin cX0_begin 5 none ∈ wA := wA_of (w := Cond.code yX0_begin cX0_begin 5 none) (List.mem_append_right _ (List.mem_append_left _ (List.mem_of_getElem? (i := 70) rfl))) rfl
theorem tw_2_71 : Cond.methodLink RX0 24 yX0_mayEachDay ∈ wA := wA_of (w := Cond.methodLink RX0 24 yX0_mayEachDay) (List.mem_append_right _ (List.mem_append_left _ (List.mem_of_getElem? (i := 71) rfl))) rfl
theorem tw_2_72 : Cond.instanceMethod yX0_mayEachDay ∈ wA := wA_of (w := Cond.instanceMethod yX0_mayEachDay) (List.mem_append_right _ (List.mem_append_left _ (List.mem_of_getElem? (i := 72) rfl))) rfl
theorem tw_2_73 : Cond.selects RX0 yX0_mayEachDay yX0_mayEachDay ∈ wA := wA_of (w := Cond.selects RX0 yX0_mayEachDay yX0_mayEachDay) (List.mem_append_right _ (List.mem_append_left _ (List.mem_of_getElem? (i := 73) rfl))) rfl
theorem tw_2_74 : Cond.code yX0_mayEachDay cX0_mayEachDay 1 (some .int) ∈ wA := wA_of (w := Cond.code yX0_mayEachDay cX0_mayEachDay 1 (some .int)) (List.mem_append_right _ (List.mem_append_left _ (List.mem_of_getElem? (i := 74) rfl))) rfl
theorem tw_2_75 : Cond.methodLink RL 41 yX5_about ∈ wA := wA_of (w := Cond.methodLink RL 41 yX5_about) (List.mem_append_right _ (List.mem_append_left _ (List.mem_of_getElem? (i := 75) rfl))) rfl
theorem tw_2_76 : Cond.instanceMethod yX5_about ∈ wA := wA_of (w := Cond.instanceMethod yX5_about) (List.mem_append_right _ (List.mem_append_left _ (List.mem_of_getElem? (i := 76) rfl))) rfl
theorem tw_2_77 : Cond.selects RX5 yX5_about yX5_about ∈ wA := wA_of (w := Cond.selects RX5 yX5_about yX5_about) (List.mem_append_right _ (List.mem_append_left _ (List.mem_of_getElem? (i := 77) rfl))) rfl
theorem tw_2_78 : Cond.code yX5_about cX5_about 4 (some .int) ∈ wA := wA_of (w := Cond.code yX5_about cX5_about 4 (some .int)) (List.mem_append_right _ (List.mem_append_left _ (List.mem_of_getElem? (i := 78) rfl))) rfl
theorem tw_2_79 : Cond.methodLink RX5 117 yX5_isConvict ∈ wA := wA_of (w := Cond.methodLink RX5 117 yX5_isConvict) (List.mem_append_right _ (List.mem_append_left _ (List.mem_of_getElem? (i := 79) rfl))) rfl
theorem tw_2_81 : Cond.instanceMethod yX5_isConvict ∈ wA := wA_of (w := Cond.instanceMethod yX5_isConvict) (List.mem_append_right _ (List.mem_append_left _ (List.mem_of_getElem? (i := 81) rfl))) rfl
theorem tw_2_82 : Cond.code yX5_isConvict cX5_isConvict 2 (some .boolean) ∈ wA := wA_of (w := Cond.code yX5_isConvict cX5_isConvict 2 (some .boolean)) (List.mem_append_right _ (List.mem_append_left _ (List.mem_of_getElem? (i := 82) rfl))) rfl
theorem tw_2_83 : Cond.methodLink RX5 132 yX2_leftTo ∈ wA := wA_of (w := Cond.methodLink RX5 132 yX2_leftTo) (List.mem_append_right _ (List.mem_append_left _ (List.mem_of_getElem? (i := 83) rfl))) rfl
theorem tw_2_84 : Cond.instanceMethod yX2_leftTo ∈ wA := wA_of (w := Cond.instanceMethod yX2_leftTo) (List.mem_append_right _ (List.mem_append_left _ (List.mem_of_getElem? (i := 84) rfl))) rfl
theorem tw_2_85 : Cond.selects RX2 yX2_leftTo yX2_leftTo ∈ wA := wA_of (w := Cond.selects RX2 yX2_leftTo yX2_leftTo) (List.mem_append_right _ (List.mem_append_left _ (List.mem_of_getElem? (i := 85) rfl))) rfl
theorem tw_2_86 : Cond.code yX2_leftTo cX2_leftTo 2 (some .int) ∈ wA := wA_of (w := Cond.code yX2_leftTo cX2_leftTo 2 (some .int)) (List.mem_append_right _ (List.mem_append_left _ (List.mem_of_getElem? (i := 86) rfl))) rfl
theorem tw_2_87 : Cond.methodLink RX2 76 yX3_trueAndNew ∈ wA := wA_of (w := Cond.methodLink RX2 76 yX3_trueAndNew) (List.mem_append_right _ (List.mem_append_left _ (List.mem_of_getElem? (i := 87) rfl))) rfl
theorem tw_2_88 : Cond.instanceMethod yX3_trueAndNew ∈ wA := wA_of (w := Cond.instanceMethod yX3_trueAndNew) (List.mem_append_right _ (List.mem_append_left _ (List.mem_of_getElem? (i := 88) rfl))) rfl
theorem tw_2_89 : Cond.selects RX3 yX3_trueAndNew yX3_trueAndNew ∈ wA := wA_of (w := Cond.selects RX3 yX3_trueAndNew yX3_trueAndNew) (List.mem_append_right _ (List.mem_append_left _ (List.mem_of_getElem? (i := 89) rfl))) rfl
theorem tw_2_90 : Cond.code yX3_trueAndNew cX3_trueAndNew 1 (some .int) ∈ wA := wA_of (w := Cond.code yX3_trueAndNew cX3_trueAndNew 1 (some .int)) (List.mem_append_right _ (List.mem_append_left _ (List.mem_of_getElem? (i := 90) rfl))) rfl
theorem tw_2_91 : Cond.methodLink RX5 142 yX2_daysFor ∈ wA := wA_of (w := Cond.methodLink RX5 142 yX2_daysFor) (List.mem_append_right _ (List.mem_append_left _ (List.mem_of_getElem? (i := 91) rfl))) rfl
theorem tw_2_92 : Cond.instanceMethod yX2_daysFor ∈ wA := wA_of (w := Cond.instanceMethod yX2_daysFor) (List.mem_append_right _ (List.mem_append_left _ (List.mem_of_getElem? (i := 92) rfl))) rfl
theorem tw_2_93 : Cond.selects RX2 yX2_daysFor yX2_daysFor ∈ wA := wA_of (w := Cond.selects RX2 yX2_daysFor yX2_daysFor) (List.mem_append_right _ (List.mem_append_left _ (List.mem_of_getElem? (i := 93) rfl))) rfl
theorem tw_2_94 : Cond.code yX2_daysFor cX2_daysFor 5 (some .int) ∈ wA := wA_of (w := Cond.code yX2_daysFor cX2_daysFor 5 (some .int)) (List.mem_append_right _ (List.mem_append_left _ (List.mem_of_getElem? (i := 94) rfl))) rfl
theorem tw_2_95 : Cond.methodLink RX2 79 yX0_hasPaid ∈ wA := wA_of (w := Cond.methodLink RX2 79 yX0_hasPaid) (List.mem_append_right _ (List.mem_append_left _ (List.mem_of_getElem? (i := 95) rfl))) rfl
theorem tw_2_96 : Cond.instanceMethod yX0_hasPaid ∈ wA := wA_of (w := Cond.instanceMethod yX0_hasPaid) (List.mem_append_right _ (List.mem_append_left _ (List.mem_of_getElem? (i := 96) rfl))) rfl
theorem tw_2_97 : Cond.selects RX0 yX0_hasPaid yX0_hasPaid ∈ wA := wA_of (w := Cond.selects RX0 yX0_hasPaid yX0_hasPaid) (List.mem_append_right _ (List.mem_append_left _ (List.mem_of_getElem? (i := 97) rfl))) rfl
theorem tw_2_98 : Cond.code yX0_hasPaid cX0_hasPaid 1 (some .boolean) ∈ wA := wA_of (w := Cond.code yX0_hasPaid cX0_hasPaid 1 (some .boolean)) (List.mem_append_right _ (List.mem_append_left _ (List.mem_of_getElem? (i := 98) rfl))) rfl
theorem tw_2_99 : Cond.methodLink RX2 83 yX0_needs ∈ wA := wA_of (w := Cond.methodLink RX2 83 yX0_needs) (List.mem_append_right _ (List.mem_append_left _ (List.mem_of_getElem? (i := 99) rfl))) rfl
theorem tw_2_100 : Cond.instanceMethod yX0_needs ∈ wA := wA_of (w := Cond.instanceMethod yX0_needs) (List.mem_append_right _ (List.mem_append_left _ (List.mem_of_getElem? (i := 100) rfl))) rfl
theorem tw_2_101 : Cond.selects RX0 yX0_needs yX0_needs ∈ wA := wA_of (w := Cond.selects RX0 yX0_needs yX0_needs) (List.mem_append_right _ (List.mem_append_left _ (List.mem_of_getElem? (i := 101) rfl))) rfl
theorem tw_2_102 : Cond.code yX0_needs cX0_needs 1 (some .int) ∈ wA := wA_of (w := Cond.code yX0_needs cX0_needs 1 (some .int)) (List.mem_append_right _ (List.mem_append_left _ (List.mem_of_getElem? (i := 102) rfl))) rfl
theorem tw_2_103 : Cond.methodLink RX0 34 yX0_hasPaid ∈ wA := wA_of (w := Cond.methodLink RX0 34 yX0_hasPaid) (List.mem_append_right _ (List.mem_append_left _ (List.mem_of_getElem? (i := 103) rfl))) rfl
theorem tw_2_104 : Cond.methodLink RX2 86 yX2_leftTo ∈ wA := wA_of (w := Cond.methodLink RX2 86 yX2_leftTo) (List.mem_append_right _ (List.mem_append_left _ (List.mem_of_getElem? (i := 104) rfl))) rfl
theorem tw_2_105 : Cond.methodLink RX2 51 yX0_mayEachDay ∈ wA := wA_of (w := Cond.methodLink RX2 51 yX0_mayEachDay) (List.mem_append_right _ (List.mem_append_left _ (List.mem_of_getElem? (i := 105) rfl))) rfl
theorem tw_2_106 : Cond.methodLink RX5 145 yX2_findFor ∈ wA := wA_of (w := Cond.methodLink RX5 145 yX2_findFor) (List.mem_append_right _ (List.mem_append_left _ (List.mem_of_getElem? (i := 106) rfl))) rfl
theorem tw_2_107 : Cond.instanceMethod yX2_findFor ∈ wA := wA_of (w := Cond.instanceMethod yX2_findFor) (List.mem_append_right _ (List.mem_append_left _ (List.mem_of_getElem? (i := 107) rfl))) rfl
theorem tw_2_108 : Cond.selects RX2 yX2_findFor yX2_findFor ∈ wA := wA_of (w := Cond.selects RX2 yX2_findFor yX2_findFor) (List.mem_append_right _ (List.mem_append_left _ (List.mem_of_getElem? (i := 108) rfl))) rfl
theorem tw_2_109 : Cond.code yX2_findFor cX2_findFor 4 (some .int) ∈ wA := wA_of (w := Cond.code yX2_findFor cX2_findFor 4 (some .int)) (List.mem_append_right _ (List.mem_append_left _ (List.mem_of_getElem? (i := 109) rfl))) rfl
theorem tw_2_110 : Cond.methodLink RL 45 yX5_as ∈ wA := wA_of (w := Cond.methodLink RL 45 yX5_as) (List.mem_append_right _ (List.mem_append_left _ (List.mem_of_getElem? (i := 110) rfl))) rfl
theorem tw_2_111 : Cond.instanceMethod yX5_as ∈ wA := wA_of (w := Cond.instanceMethod yX5_as) (List.mem_append_right _ (List.mem_append_left _ (List.mem_of_getElem? (i := 111) rfl))) rfl
theorem tw_2_112 : Cond.selects RX5 yX5_as yX5_as ∈ wA := wA_of (w := Cond.selects RX5 yX5_as yX5_as) (List.mem_append_right _ (List.mem_append_left _ (List.mem_of_getElem? (i := 112) rfl))) rfl
theorem tw_2_113 : Cond.code yX5_as cX5_as 3 (some .int) ∈ wA := wA_of (w := Cond.code yX5_as cX5_as 3 (some .int)) (List.mem_append_right _ (List.mem_append_left _ (List.mem_of_getElem? (i := 113) rfl))) rfl
theorem tw_2_114 : Cond.methodLink RX5 148 yX0_isA ∈ wA := wA_of (w := Cond.methodLink RX5 148 yX0_isA) (List.mem_append_right _ (List.mem_append_left _ (List.mem_of_getElem? (i := 114) rfl))) rfl
theorem tw_2_115 : Cond.instanceMethod yX0_isA ∈ wA := wA_of (w := Cond.instanceMethod yX0_isA) (List.mem_append_right _ (List.mem_append_left _ (List.mem_of_getElem? (i := 115) rfl))) rfl
theorem tw_2_116 : Cond.selects RX0 yX0_isA yX0_isA ∈ wA := wA_of (w := Cond.selects RX0 yX0_isA yX0_isA) (List.mem_append_right _ (List.mem_append_left _ (List.mem_of_getElem? (i := 116) rfl))) rfl
theorem tw_2_117 : Cond.code yX0_isA cX0_isA 2 (some .boolean) ∈ wA := wA_of (w := Cond.code yX0_isA cX0_isA 2 (some .boolean)) (List.mem_append_right _ (List.mem_append_left _ (List.mem_of_getElem? (i := 117) rfl))) rfl
theorem tw_2_118 : Cond.methodLink RL 49 yX5_say ∈ wA := wA_of (w := Cond.methodLink RL 49 yX5_say) (List.mem_append_right _ (List.mem_append_left _ (List.mem_of_getElem? (i := 118) rfl))) rfl
theorem tw_2_119 : Cond.instanceMethod yX5_say ∈ wA := wA_of (w := Cond.instanceMethod yX5_say) (List.mem_append_right _ (List.mem_append_left _ (List.mem_of_getElem? (i := 119) rfl))) rfl
theorem tw_2_120 : Cond.selects RX5 yX5_say yX5_say ∈ wA := wA_of (w := Cond.selects RX5 yX5_say yX5_say) (List.mem_append_right _ (List.mem_append_left _ (List.mem_of_getElem? (i := 120) rfl))) rfl
theorem tw_2_121 : Cond.code yX5_say cX5_say 4 (some .int) ∈ wA := wA_of (w := Cond.code yX5_say cX5_say 4 (some .int)) (List.mem_append_right _ (List.mem_append_left _ (List.mem_of_getElem? (i := 121) rfl))) rfl
theorem tw_2_122 : Cond.methodLink RX5 151 yX5_isSaying ∈ wA := wA_of (w := Cond.methodLink RX5 151 yX5_isSaying) (List.mem_append_right _ (List.mem_append_left _ (List.mem_of_getElem? (i := 122) rfl))) rfl
theorem tw_2_123 : Cond.static yX5_isSaying ∈ wA := wA_of (w := Cond.static yX5_isSaying) (List.mem_append_right _ (List.mem_append_left _ (List.mem_of_getElem? (i := 123) rfl))) rfl
theorem tw_2_124 : Cond.code yX5_isSaying cX5_isSaying 1 (some .boolean) ∈ wA := wA_of (w := Cond.code yX5_isSaying cX5_isSaying 1 (some .boolean)) (List.mem_append_right _ (List.mem_append_left _ (List.mem_of_getElem? (i := 124) rfl))) rfl
theorem tw_2_125 : Cond.methodLink RX5 154 yX0_hasPaid ∈ wA := wA_of (w := Cond.methodLink RX5 154 yX0_hasPaid) (List.mem_append_right _ (List.mem_append_left _ (List.mem_of_getElem? (i := 125) rfl))) rfl
theorem tw_2_126 : Cond.methodLink RX5 158 yX0_knowsOf ∈ wA := wA_of (w := Cond.methodLink RX5 158 yX0_knowsOf) (List.mem_append_right _ (List.mem_append_left _ (List.mem_of_getElem? (i := 126) rfl))) rfl
theorem tw_2_127 : Cond.instanceMethod yX0_knowsOf ∈ wA := wA_of (w := Cond.instanceMethod yX0_knowsOf) (List.mem_append_right _ (List.mem_append_left _ (List.mem_of_getElem? (i := 127) rfl))) rfl
theorem tw_2_128 : Cond.selects RX0 yX0_knowsOf yX0_knowsOf ∈ wA := wA_of (w := Cond.selects RX0 yX0_knowsOf yX0_knowsOf) (List.mem_append_right _ (List.mem_append_left _ (List.mem_of_getElem? (i := 128) rfl))) rfl
theorem tw_2_129 : Cond.code yX0_knowsOf cX0_knowsOf 2 (some .boolean) ∈ wA := wA_of (w := Cond.code yX0_knowsOf cX0_knowsOf 2 (some .boolean)) (List.mem_append_right _ (List.mem_append_left _ (List.mem_of_getElem? (i := 129) rfl))) rfl
theorem tw_2_130 : Cond.methodLink RX5 161 yX2_hear ∈ wA := wA_of (w := Cond.methodLink RX5 161 yX2_hear) (List.mem_append_right _ (List.mem_append_left _ (List.mem_of_getElem? (i := 130) rfl))) rfl
theorem tw_2_131 : Cond.instanceMethod yX2_hear ∈ wA := wA_of (w := Cond.instanceMethod yX2_hear) (List.mem_append_right _ (List.mem_append_left _ (List.mem_of_getElem? (i := 131) rfl))) rfl
theorem tw_2_132 : Cond.selects RX2 yX2_hear yX2_hear ∈ wA := wA_of (w := Cond.selects RX2 yX2_hear yX2_hear) (List.mem_append_right _ (List.mem_append_left _ (List.mem_of_getElem? (i := 132) rfl))) rfl
theorem tw_2_133 : Cond.code yX2_hear cX2_hear 5 (some .boolean) ∈ wA := wA_of (w := Cond.code yX2_hear cX2_hear 5 (some .boolean)) (List.mem_append_right _ (List.mem_append_left _ (List.mem_of_getElem? (i := 133) rfl))) rfl
theorem tw_2_134 : Cond.methodLink RX2 70 yX0_pay ∈ wA := wA_of (w := Cond.methodLink RX2 70 yX0_pay) (List.mem_append_right _ (List.mem_append_left _ (List.mem_of_getElem? (i := 134) rfl))) rfl
theorem tw_2_135 : Cond.instanceMethod yX0_pay ∈ wA := wA_of (w := Cond.instanceMethod yX0_pay) (List.mem_append_right _ (List.mem_append_left _ (List.mem_of_getElem? (i := 135) rfl))) rfl
theorem tw_2_136 : Cond.selects RX0 yX0_pay yX0_pay ∈ wA := wA_of (w := Cond.selects RX0 yX0_pay yX0_pay) (List.mem_append_right _ (List.mem_append_left _ (List.mem_of_getElem? (i := 136) rfl))) rfl
theorem tw_2_137 : Cond.code yX0_pay cX0_pay 1 none ∈ wA := wA_of (w := Cond.code yX0_pay cX0_pay 1 none) (List.mem_append_right _ (List.mem_append_left _ (List.mem_of_getElem? (i := 137) rfl))) rfl
theorem tw_2_138 : Cond.methodLink RL 53 yX5_learn ∈ wA := wA_of (w := Cond.methodLink RL 53 yX5_learn) (List.mem_append_right _ (List.mem_append_left _ (List.mem_of_getElem? (i := 138) rfl))) rfl
theorem tw_2_139 : Cond.instanceMethod yX5_learn ∈ wA := wA_of (w := Cond.instanceMethod yX5_learn) (List.mem_append_right _ (List.mem_append_left _ (List.mem_of_getElem? (i := 139) rfl))) rfl
theorem tw_2_140 : Cond.selects RX5 yX5_learn yX5_learn ∈ wA := wA_of (w := Cond.selects RX5 yX5_learn yX5_learn) (List.mem_append_right _ (List.mem_append_left _ (List.mem_of_getElem? (i := 140) rfl))) rfl
theorem tw_2_141 : Cond.code yX5_learn cX5_learn 4 (some .int) ∈ wA := wA_of (w := Cond.code yX5_learn cX5_learn 4 (some .int)) (List.mem_append_right _ (List.mem_append_left _ (List.mem_of_getElem? (i := 141) rfl))) rfl
theorem tw_2_142 : Cond.methodLink RL 57 yX5_night ∈ wA := wA_of (w := Cond.methodLink RL 57 yX5_night) (List.mem_append_right _ (List.mem_append_left _ (List.mem_of_getElem? (i := 142) rfl))) rfl
theorem tw_2_143 : Cond.instanceMethod yX5_night ∈ wA := wA_of (w := Cond.instanceMethod yX5_night) (List.mem_append_right _ (List.mem_append_left _ (List.mem_of_getElem? (i := 143) rfl))) rfl
theorem tw_2_144 : Cond.selects RX5 yX5_night yX5_night ∈ wA := wA_of (w := Cond.selects RX5 yX5_night yX5_night) (List.mem_append_right _ (List.mem_append_left _ (List.mem_of_getElem? (i := 144) rfl))) rfl
theorem tw_2_145 : Cond.code yX5_night cX5_night 1 (some .int) ∈ wA := wA_of (w := Cond.code yX5_night cX5_night 1 (some .int)) (List.mem_append_right _ (List.mem_append_left _ (List.mem_of_getElem? (i := 145) rfl))) rfl
theorem tw_2_146 : Cond.methodLink RX5 165 yX2_beginNextDay ∈ wA := wA_of (w := Cond.methodLink RX5 165 yX2_beginNextDay) (List.mem_append_right _ (List.mem_append_left _ (List.mem_of_getElem? (i := 146) rfl))) rfl
theorem tw_2_147 : Cond.instanceMethod yX2_beginNextDay ∈ wA := wA_of (w := Cond.instanceMethod yX2_beginNextDay) (List.mem_append_right _ (List.mem_append_left _ (List.mem_of_getElem? (i := 147) rfl))) rfl
theorem tw_2_148 : Cond.selects RX2 yX2_beginNextDay yX2_beginNextDay ∈ wA := wA_of (w := Cond.selects RX2 yX2_beginNextDay yX2_beginNextDay) (List.mem_append_right _ (List.mem_append_left _ (List.mem_of_getElem? (i := 148) rfl))) rfl
theorem tw_2_149 : Cond.code yX2_beginNextDay cX2_beginNextDay 2 none ∈ wA := wA_of (w := Cond.code yX2_beginNextDay cX2_beginNextDay 2 none) (List.mem_append_right _ (List.mem_append_left _ (List.mem_of_getElem? (i := 149) rfl))) rfl
theorem tw_2_150 : Cond.methodLink RL 61 yX5_most ∈ wA := wA_of (w := Cond.methodLink RL 61 yX5_most) (List.mem_append_right _ (List.mem_append_left _ (List.mem_of_getElem? (i := 150) rfl))) rfl
theorem tw_2_151 : Cond.instanceMethod yX5_most ∈ wA := wA_of (w := Cond.instanceMethod yX5_most) (List.mem_append_right _ (List.mem_append_left _ (List.mem_of_getElem? (i := 151) rfl))) rfl
theorem tw_2_152 : Cond.selects RX5 yX5_most yX5_most ∈ wA := wA_of (w := Cond.selects RX5 yX5_most yX5_most) (List.mem_append_right _ (List.mem_append_left _ (List.mem_of_getElem? (i := 152) rfl))) rfl
theorem tw_2_153 : Cond.code yX5_most cX5_most 3 (some .int) ∈ wA := wA_of (w := Cond.code yX5_most cX5_most 3 (some .int)) (List.mem_append_right _ (List.mem_append_left _ (List.mem_of_getElem? (i := 153) rfl))) rfl
theorem tw_2_154 : Cond.methodLink RX5 171 yX1_mostOfAll ∈ wA := wA_of (w := Cond.methodLink RX5 171 yX1_mostOfAll) (List.mem_append_right _ (List.mem_append_left _ (List.mem_of_getElem? (i := 154) rfl))) rfl
theorem tw_2_155 : Cond.instanceMethod yX1_mostOfAll ∈ wA := wA_of (w := Cond.instanceMethod yX1_mostOfAll) (List.mem_append_right _ (List.mem_append_left _ (List.mem_of_getElem? (i := 155) rfl))) rfl
theorem tw_2_156 : Cond.selects RX1 yX1_mostOfAll yX1_mostOfAll ∈ wA := wA_of (w := Cond.selects RX1 yX1_mostOfAll yX1_mostOfAll) (List.mem_append_right _ (List.mem_append_left _ (List.mem_of_getElem? (i := 156) rfl))) rfl
theorem tw_2_157 : Cond.code yX1_mostOfAll cX1_mostOfAll 4 (some .int) ∈ wA := wA_of (w := Cond.code yX1_mostOfAll cX1_mostOfAll 4 (some .int)) (List.mem_append_right _ (List.mem_append_left _ (List.mem_of_getElem? (i := 157) rfl))) rfl
theorem tw_2_158 : Cond.methodLink RX1 18 yX1_take ∈ wA := wA_of (w := Cond.methodLink RX1 18 yX1_take) (List.mem_append_right _ (List.mem_append_left _ (List.mem_of_getElem? (i := 158) rfl))) rfl
theorem tw_2_160 : Cond.instanceMethod yX1_take ∈ wA := wA_of (w := Cond.instanceMethod yX1_take) (List.mem_append_right _ (List.mem_append_left _ (List.mem_of_getElem? (i := 160) rfl))) rfl
theorem tw_2_161 : Cond.code yX1_take cX1_take 5 none ∈ wA := wA_of (w := Cond.code yX1_take cX1_take 5 none) (List.mem_append_right _ (List.mem_append_left _ (List.mem_of_getElem? (i := 161) rfl))) rfl
theorem tw_2_162 : Cond.methodLink RX1 41 yX0_needs ∈ wA := wA_of (w := Cond.methodLink RX1 41 yX0_needs) (List.mem_append_right _ (List.mem_append_left _ (List.mem_of_getElem? (i := 162) rfl))) rfl
theorem tw_2_163 : Cond.methodLink RX1 49 yX2_leftTo ∈ wA := wA_of (w := Cond.methodLink RX1 49 yX2_leftTo) (List.mem_append_right _ (List.mem_append_left _ (List.mem_of_getElem? (i := 163) rfl))) rfl
theorem tw_2_164 : Cond.methodLink RX1 22 yX1_mostAmong ∈ wA := wA_of (w := Cond.methodLink RX1 22 yX1_mostAmong) (List.mem_append_right _ (List.mem_append_left _ (List.mem_of_getElem? (i := 164) rfl))) rfl
theorem tw_2_166 : Cond.instanceMethod yX1_mostAmong ∈ wA := wA_of (w := Cond.instanceMethod yX1_mostAmong) (List.mem_append_right _ (List.mem_append_left _ (List.mem_of_getElem? (i := 166) rfl))) rfl
theorem tw_2_167 : Cond.code yX1_mostAmong cX1_mostAmong 7 (some .int) ∈ wA := wA_of (w := Cond.code yX1_mostAmong cX1_mostAmong 7 (some .int)) (List.mem_append_right _ (List.mem_append_left _ (List.mem_of_getElem? (i := 167) rfl))) rfl
theorem tw_2_168 : Cond.methodLink RX1 53 yJ6_bitCount_0f7a4 ∈ wA := wA_of (w := Cond.methodLink RX1 53 yJ6_bitCount_0f7a4) (List.mem_append_right _ (List.mem_append_left _ (List.mem_of_getElem? (i := 168) rfl))) rfl
theorem tw_2_169 : Cond.methodLink RX1 58 Lib.Math.min.name ∈ wA := wA_of (w := Cond.methodLink RX1 58 Lib.Math.min.name) (List.mem_append_right _ (List.mem_append_left _ (List.mem_of_getElem? (i := 169) rfl))) rfl
theorem tw_2_170 : Cond.static Lib.Math.min.name ∈ wA := wA_of (w := Cond.static Lib.Math.min.name) (List.mem_append_right _ (List.mem_append_left _ (List.mem_of_getElem? (i := 170) rfl))) rfl
theorem tw_2_171 : Cond.code Lib.Math.min.name cJ9_min_7cf53 2 (some .int) ∈ wA := wA_of (w := Cond.code Lib.Math.min.name cJ9_min_7cf53 2 (some .int)) (List.mem_append_right _ (List.mem_append_left _ (List.mem_of_getElem? (i := 171) rfl))) rfl
theorem tw_2_172 : Cond.methodLink RX5 175 yX2_needsOfAll ∈ wA := wA_of (w := Cond.methodLink RX5 175 yX2_needsOfAll) (List.mem_append_right _ (List.mem_append_left _ (List.mem_of_getElem? (i := 172) rfl))) rfl
theorem tw_2_173 : Cond.instanceMethod yX2_needsOfAll ∈ wA := wA_of (w := Cond.instanceMethod yX2_needsOfAll) (List.mem_append_right _ (List.mem_append_left _ (List.mem_of_getElem? (i := 173) rfl))) rfl
theorem tw_2_174 : Cond.selects RX2 yX2_needsOfAll yX2_needsOfAll ∈ wA := wA_of (w := Cond.selects RX2 yX2_needsOfAll yX2_needsOfAll) (List.mem_append_right _ (List.mem_append_left _ (List.mem_of_getElem? (i := 174) rfl))) rfl
theorem tw_2_175 : Cond.code yX2_needsOfAll cX2_needsOfAll 3 (some .int) ∈ wA := wA_of (w := Cond.code yX2_needsOfAll cX2_needsOfAll 3 (some .int)) (List.mem_append_right _ (List.mem_append_left _ (List.mem_of_getElem? (i := 175) rfl))) rfl
theorem tw_2_176 : Cond.methodLink RL 65 yX5_who ∈ wA := wA_of (w := Cond.methodLink RL 65 yX5_who) (List.mem_append_right _ (List.mem_append_left _ (List.mem_of_getElem? (i := 176) rfl))) rfl
theorem tw_2_177 : Cond.instanceMethod yX5_who ∈ wA := wA_of (w := Cond.instanceMethod yX5_who) (List.mem_append_right _ (List.mem_append_left _ (List.mem_of_getElem? (i := 177) rfl))) rfl
theorem tw_2_178 : Cond.selects RX5 yX5_who yX5_who ∈ wA := wA_of (w := Cond.selects RX5 yX5_who yX5_who) (List.mem_append_right _ (List.mem_append_left _ (List.mem_of_getElem? (i := 178) rfl))) rfl
theorem tw_2_179 : Cond.code yX5_who cX5_who 3 (some .int) ∈ wA := wA_of (w := Cond.code yX5_who cX5_who 3 (some .int)) (List.mem_append_right _ (List.mem_append_left _ (List.mem_of_getElem? (i := 179) rfl))) rfl
theorem tw_2_180 : Cond.methodLink RX5 178 yX1_sayerOf ∈ wA := wA_of (w := Cond.methodLink RX5 178 yX1_sayerOf) (List.mem_append_right _ (List.mem_append_left _ (List.mem_of_getElem? (i := 180) rfl))) rfl
theorem tw_2_181 : Cond.instanceMethod yX1_sayerOf ∈ wA := wA_of (w := Cond.instanceMethod yX1_sayerOf) (List.mem_append_right _ (List.mem_append_left _ (List.mem_of_getElem? (i := 181) rfl))) rfl
theorem tw_2_182 : Cond.selects RX1 yX1_sayerOf yX1_sayerOf ∈ wA := wA_of (w := Cond.selects RX1 yX1_sayerOf yX1_sayerOf) (List.mem_append_right _ (List.mem_append_left _ (List.mem_of_getElem? (i := 182) rfl))) rfl
theorem tw_2_183 : Cond.code yX1_sayerOf cX1_sayerOf 8 (some .int) ∈ wA := wA_of (w := Cond.code yX1_sayerOf cX1_sayerOf 8 (some .int)) (List.mem_append_right _ (List.mem_append_left _ (List.mem_of_getElem? (i := 183) rfl))) rfl
theorem tw_2_184 : Cond.methodLink RX1 26 yX1_firstSayer ∈ wA := wA_of (w := Cond.methodLink RX1 26 yX1_firstSayer) (List.mem_append_right _ (List.mem_append_left _ (List.mem_of_getElem? (i := 184) rfl))) rfl
theorem tw_2_186 : Cond.instanceMethod yX1_firstSayer ∈ wA := wA_of (w := Cond.instanceMethod yX1_firstSayer) (List.mem_append_right _ (List.mem_append_left _ (List.mem_of_getElem? (i := 186) rfl))) rfl
theorem tw_2_187 : Cond.code yX1_firstSayer cX1_firstSayer 6 (some .int) ∈ wA := wA_of (w := Cond.code yX1_firstSayer cX1_firstSayer 6 (some .int)) (List.mem_append_right _ (List.mem_append_left _ (List.mem_of_getElem? (i := 187) rfl))) rfl
theorem tw_2_188 : Cond.methodLink RL 69 yX5_trial ∈ wA := wA_of (w := Cond.methodLink RL 69 yX5_trial) (List.mem_append_right _ (List.mem_append_left _ (List.mem_of_getElem? (i := 188) rfl))) rfl
theorem tw_2_189 : Cond.instanceMethod yX5_trial ∈ wA := wA_of (w := Cond.instanceMethod yX5_trial) (List.mem_append_right _ (List.mem_append_left _ (List.mem_of_getElem? (i := 189) rfl))) rfl
theorem tw_2_190 : Cond.selects RX5 yX5_trial yX5_trial ∈ wA := wA_of (w := Cond.selects RX5 yX5_trial yX5_trial) (List.mem_append_right _ (List.mem_append_left _ (List.mem_of_getElem? (i := 190) rfl))) rfl
theorem tw_2_191 : Cond.code yX5_trial cX5_trial 4 (some .int) ∈ wA := wA_of (w := Cond.code yX5_trial cX5_trial 4 (some .int)) (List.mem_append_right _ (List.mem_append_left _ (List.mem_of_getElem? (i := 191) rfl))) rfl
theorem tw_2_192 : Cond.methodLink RX5 185 yX3_tried ∈ wA := wA_of (w := Cond.methodLink RX5 185 yX3_tried) (List.mem_append_right _ (List.mem_append_left _ (List.mem_of_getElem? (i := 192) rfl))) rfl
theorem tw_2_193 : Cond.instanceMethod yX3_tried ∈ wA := wA_of (w := Cond.instanceMethod yX3_tried) (List.mem_append_right _ (List.mem_append_left _ (List.mem_of_getElem? (i := 193) rfl))) rfl
theorem tw_2_194 : Cond.selects RX3 yX3_tried yX3_tried ∈ wA := wA_of (w := Cond.selects RX3 yX3_tried yX3_tried) (List.mem_append_right _ (List.mem_append_left _ (List.mem_of_getElem? (i := 194) rfl))) rfl
theorem tw_2_195 : Cond.code yX3_tried cX3_tried 3 none ∈ wA := wA_of (w := Cond.code yX3_tried cX3_tried 3 none) (List.mem_append_right _ (List.mem_append_left _ (List.mem_of_getElem? (i := 195) rfl))) rfl
theorem tw_2_196 : Cond.methodLink RL 74 yX5_forget ∈ wA := wA_of (w := Cond.methodLink RL 74 yX5_forget) (List.mem_append_right _ (List.mem_append_left _ (List.mem_of_getElem? (i := 196) rfl))) rfl
theorem tw_2_197 : Cond.instanceMethod yX5_forget ∈ wA := wA_of (w := Cond.instanceMethod yX5_forget) (List.mem_append_right _ (List.mem_append_left _ (List.mem_of_getElem? (i := 197) rfl))) rfl
theorem tw_2_198 : Cond.selects RX5 yX5_forget yX5_forget ∈ wA := wA_of (w := Cond.selects RX5 yX5_forget yX5_forget) (List.mem_append_right _ (List.mem_append_left _ (List.mem_of_getElem? (i := 198) rfl))) rfl
theorem tw_2_199 : Cond.code yX5_forget cX5_forget 2 (some .int) ∈ wA := wA_of (w := Cond.code yX5_forget cX5_forget 2 (some .int)) (List.mem_append_right _ (List.mem_append_left _ (List.mem_of_getElem? (i := 199) rfl))) rfl
theorem tw_2_200 : Cond.methodLink RX5 189 yX2_forgetTrials ∈ wA := wA_of (w := Cond.methodLink RX5 189 yX2_forgetTrials) (List.mem_append_right _ (List.mem_append_left _ (List.mem_of_getElem? (i := 200) rfl))) rfl
theorem tw_2_201 : Cond.instanceMethod yX2_forgetTrials ∈ wA := wA_of (w := Cond.instanceMethod yX2_forgetTrials) (List.mem_append_right _ (List.mem_append_left _ (List.mem_of_getElem? (i := 201) rfl))) rfl
theorem tw_2_202 : Cond.selects RX2 yX2_forgetTrials yX2_forgetTrials ∈ wA := wA_of (w := Cond.selects RX2 yX2_forgetTrials yX2_forgetTrials) (List.mem_append_right _ (List.mem_append_left _ (List.mem_of_getElem? (i := 202) rfl))) rfl
theorem tw_2_203 : Cond.code yX2_forgetTrials cX2_forgetTrials 2 none ∈ wA := wA_of (w := Cond.code yX2_forgetTrials cX2_forgetTrials 2 none) (List.mem_append_right _ (List.mem_append_left _ (List.mem_of_getElem? (i := 203) rfl))) rfl
theorem tw_2_204 : Cond.methodLink RX2 48 yX3_forgetTrials ∈ wA := wA_of (w := Cond.methodLink RX2 48 yX3_forgetTrials) (List.mem_append_right _ (List.mem_append_left _ (List.mem_of_getElem? (i := 204) rfl))) rfl
theorem tw_2_205 : Cond.methodLink RL 78 yX5_truths ∈ wA := wA_of (w := Cond.methodLink RL 78 yX5_truths) (List.mem_append_right _ (List.mem_append_left _ (List.mem_of_getElem? (i := 205) rfl))) rfl
theorem tw_2_206 : Cond.instanceMethod yX5_truths ∈ wA := wA_of (w := Cond.instanceMethod yX5_truths) (List.mem_append_right _ (List.mem_append_left _ (List.mem_of_getElem? (i := 206) rfl))) rfl
theorem tw_2_207 : Cond.selects RX5 yX5_truths yX5_truths ∈ wA := wA_of (w := Cond.selects RX5 yX5_truths yX5_truths) (List.mem_append_right _ (List.mem_append_left _ (List.mem_of_getElem? (i := 207) rfl))) rfl
theorem tw_2_208 : Cond.code yX5_truths cX5_truths 4 (some .int) ∈ wA := wA_of (w := Cond.code yX5_truths cX5_truths 4 (some .int)) (List.mem_append_right _ (List.mem_append_left _ (List.mem_of_getElem? (i := 208) rfl))) rfl
theorem tw_2_209 : Cond.methodLink RX5 192 yX3_possibleSets ∈ wA := wA_of (w := Cond.methodLink RX5 192 yX3_possibleSets) (List.mem_append_right _ (List.mem_append_left _ (List.mem_of_getElem? (i := 209) rfl))) rfl
theorem tw_2_210 : Cond.instanceMethod yX3_possibleSets ∈ wA := wA_of (w := Cond.instanceMethod yX3_possibleSets) (List.mem_append_right _ (List.mem_append_left _ (List.mem_of_getElem? (i := 210) rfl))) rfl
theorem tw_2_211 : Cond.selects RX3 yX3_possibleSets yX3_possibleSets ∈ wA := wA_of (w := Cond.selects RX3 yX3_possibleSets yX3_possibleSets) (List.mem_append_right _ (List.mem_append_left _ (List.mem_of_getElem? (i := 211) rfl))) rfl
theorem tw_2_212 : Cond.code yX3_possibleSets cX3_possibleSets 1 (some .int) ∈ wA := wA_of (w := Cond.code yX3_possibleSets cX3_possibleSets 1 (some .int)) (List.mem_append_right _ (List.mem_append_left _ (List.mem_of_getElem? (i := 212) rfl))) rfl
theorem tw_2_213 : Cond.methodLink RX3 27 yJ6_bitCount_0f7a4 ∈ wA := wA_of (w := Cond.methodLink RX3 27 yJ6_bitCount_0f7a4) (List.mem_append_right _ (List.mem_append_left _ (List.mem_of_getElem? (i := 213) rfl))) rfl
theorem tw_2_214 : Cond.methodLink RL 82 yX5_attempt ∈ wA := wA_of (w := Cond.methodLink RL 82 yX5_attempt) (List.mem_append_right _ (List.mem_append_left _ (List.mem_of_getElem? (i := 214) rfl))) rfl
theorem tw_2_215 : Cond.instanceMethod yX5_attempt ∈ wA := wA_of (w := Cond.instanceMethod yX5_attempt) (List.mem_append_right _ (List.mem_append_left _ (List.mem_of_getElem? (i := 215) rfl))) rfl
theorem tw_2_216 : Cond.selects RX5 yX5_attempt yX5_attempt ∈ wA := wA_of (w := Cond.selects RX5 yX5_attempt yX5_attempt) (List.mem_append_right _ (List.mem_append_left _ (List.mem_of_getElem? (i := 216) rfl))) rfl
theorem tw_2_217 : Cond.code yX5_attempt cX5_attempt 2 (some .int) ∈ wA := wA_of (w := Cond.code yX5_attempt cX5_attempt 2 (some .int)) (List.mem_append_right _ (List.mem_append_left _ (List.mem_of_getElem? (i := 217) rfl))) rfl
theorem tw_2_218 : Cond.methodLink RX5 198 yX3_sayingToTry ∈ wA := wA_of (w := Cond.methodLink RX5 198 yX3_sayingToTry) (List.mem_append_right _ (List.mem_append_left _ (List.mem_of_getElem? (i := 218) rfl))) rfl
theorem tw_2_219 : Cond.instanceMethod yX3_sayingToTry ∈ wA := wA_of (w := Cond.instanceMethod yX3_sayingToTry) (List.mem_append_right _ (List.mem_append_left _ (List.mem_of_getElem? (i := 219) rfl))) rfl
theorem tw_2_220 : Cond.selects RX3 yX3_sayingToTry yX3_sayingToTry ∈ wA := wA_of (w := Cond.selects RX3 yX3_sayingToTry yX3_sayingToTry) (List.mem_append_right _ (List.mem_append_left _ (List.mem_of_getElem? (i := 220) rfl))) rfl
theorem tw_2_221 : Cond.code yX3_sayingToTry cX3_sayingToTry 3 (some .int) ∈ wA := wA_of (w := Cond.code yX3_sayingToTry cX3_sayingToTry 3 (some .int)) (List.mem_append_right _ (List.mem_append_left _ (List.mem_of_getElem? (i := 221) rfl))) rfl
theorem tw_2_222 : Cond.methodLink RX3 33 yX3_possibleSets ∈ wA := wA_of (w := Cond.methodLink RX3 33 yX3_possibleSets) (List.mem_append_right _ (List.mem_append_left _ (List.mem_of_getElem? (i := 222) rfl))) rfl
theorem tw_2_223 : Cond.methodLink RL 86 yX5_weeks ∈ wA := wA_of (w := Cond.methodLink RL 86 yX5_weeks) (List.mem_append_right _ (List.mem_append_left _ (List.mem_of_getElem? (i := 223) rfl))) rfl
theorem tw_2_224 : Cond.instanceMethod yX5_weeks ∈ wA := wA_of (w := Cond.instanceMethod yX5_weeks) (List.mem_append_right _ (List.mem_append_left _ (List.mem_of_getElem? (i := 224) rfl))) rfl
theorem tw_2_225 : Cond.selects RX5 yX5_weeks yX5_weeks ∈ wA := wA_of (w := Cond.selects RX5 yX5_weeks yX5_weeks) (List.mem_append_right _ (List.mem_append_left _ (List.mem_of_getElem? (i := 225) rfl))) rfl
theorem tw_2_226 : Cond.code yX5_weeks cX5_weeks 4 (some .int) ∈ wA := wA_of (w := Cond.code yX5_weeks cX5_weeks 4 (some .int)) (List.mem_append_right _ (List.mem_append_left _ (List.mem_of_getElem? (i := 226) rfl))) rfl
theorem tw_2_227 : Cond.methodLink RX5 201 yX4_run ∈ wA := wA_of (w := Cond.methodLink RX5 201 yX4_run) (List.mem_append_right _ (List.mem_append_left _ (List.mem_of_getElem? (i := 227) rfl))) rfl
theorem tw_2_228 : Cond.instanceMethod yX4_run ∈ wA := wA_of (w := Cond.instanceMethod yX4_run) (List.mem_append_right _ (List.mem_append_left _ (List.mem_of_getElem? (i := 228) rfl))) rfl
theorem tw_2_229 : Cond.selects RX4 yX4_run yX4_run ∈ wA := wA_of (w := Cond.selects RX4 yX4_run yX4_run) (List.mem_append_right _ (List.mem_append_left _ (List.mem_of_getElem? (i := 229) rfl))) rfl
theorem tw_2_230 : Cond.code yX4_run cX4_run 6 none ∈ wA := wA_of (w := Cond.code yX4_run cX4_run 6 none) (List.mem_append_right _ (List.mem_append_left _ (List.mem_of_getElem? (i := 230) rfl))) rfl
theorem tw_2_231 : Cond.methodLink RX4 18 yX2_copy ∈ wA := wA_of (w := Cond.methodLink RX4 18 yX2_copy) (List.mem_append_right _ (List.mem_append_left _ (List.mem_of_getElem? (i := 231) rfl))) rfl
theorem tw_2_232 : Cond.instanceMethod yX2_copy ∈ wA := wA_of (w := Cond.instanceMethod yX2_copy) (List.mem_append_right _ (List.mem_append_left _ (List.mem_of_getElem? (i := 232) rfl))) rfl
theorem tw_2_233 : Cond.selects RX2 yX2_copy yX2_copy ∈ wA := wA_of (w := Cond.selects RX2 yX2_copy yX2_copy) (List.mem_append_right _ (List.mem_append_left _ (List.mem_of_getElem? (i := 233) rfl))) rfl
theorem tw_2_234 : Cond.code yX2_copy cX2_copy 3 none ∈ wA := wA_of (w := Cond.code yX2_copy cX2_copy 3 none) (List.mem_append_right _ (List.mem_append_left _ (List.mem_of_getElem? (i := 234) rfl))) rfl
theorem tw_2_235 : Cond.methodLink RX2 41 yX3_copy ∈ wA := wA_of (w := Cond.methodLink RX2 41 yX3_copy) (List.mem_append_right _ (List.mem_append_left _ (List.mem_of_getElem? (i := 235) rfl))) rfl
theorem tw_2_236 : Cond.instanceMethod yX3_copy ∈ wA := wA_of (w := Cond.instanceMethod yX3_copy) (List.mem_append_right _ (List.mem_append_left _ (List.mem_of_getElem? (i := 236) rfl))) rfl
theorem tw_2_237 : Cond.selects RX3 yX3_copy yX3_copy ∈ wA := wA_of (w := Cond.selects RX3 yX3_copy yX3_copy) (List.mem_append_right _ (List.mem_append_left _ (List.mem_of_getElem? (i := 237) rfl))) rfl
theorem tw_2_238 : Cond.code yX3_copy cX3_copy 2 none ∈ wA := wA_of (w := Cond.code yX3_copy cX3_copy 2 none) (List.mem_append_right _ (List.mem_append_left _ (List.mem_of_getElem? (i := 238) rfl))) rfl
theorem tw_2_239 : Cond.methodLink RX2 45 yX0_copy ∈ wA := wA_of (w := Cond.methodLink RX2 45 yX0_copy) (List.mem_append_right _ (List.mem_append_left _ (List.mem_of_getElem? (i := 239) rfl))) rfl
theorem tw_3_0 : Cond.instanceMethod yX0_copy ∈ wA := wA_of (w := Cond.instanceMethod yX0_copy) (List.mem_append_right _ (List.mem_append_right _ (List.mem_append_left _ (List.mem_of_getElem? (i := 0) rfl)))) rfl
theorem tw_3_1 : Cond.selects RX0 yX0_copy yX0_copy ∈ wA := wA_of (w := Cond.selects RX0 yX0_copy yX0_copy) (List.mem_append_right _ (List.mem_append_right _ (List.mem_append_left _ (List.mem_of_getElem? (i := 1) rfl)))) rfl
theorem tw_3_2 : Cond.code yX0_copy cX0_copy 2 none ∈ wA := wA_of (w := Cond.code yX0_copy cX0_copy 2 none) (List.mem_append_right _ (List.mem_append_right _ (List.mem_append_left _ (List.mem_of_getElem? (i := 2) rfl)))) rfl
theorem tw_3_3 : Cond.methodLink RX4 36 yX4_talk ∈ wA := wA_of (w := Cond.methodLink RX4 36 yX4_talk) (List.mem_append_right _ (List.mem_append_right _ (List.mem_append_left _ (List.mem_of_getElem? (i := 3) rfl)))) rfl
theorem tw_3_5 : Cond.instanceMethod yX4_talk ∈ wA := wA_of (w := Cond.instanceMethod yX4_talk) (List.mem_append_right _ (List.mem_append_right _ (List.mem_append_left _ (List.mem_of_getElem? (i := 5) rfl)))) rfl
theorem tw_3_6 : Cond.code yX4_talk cX4_talk 4 none ∈ wA := wA_of (w := Cond.code yX4_talk cX4_talk 4 none) (List.mem_append_right _ (List.mem_append_right _ (List.mem_append_left _ (List.mem_of_getElem? (i := 6) rfl)))) rfl
theorem tw_3_7 : Cond.methodLink RX4 48 yX0_hasPaid ∈ wA := wA_of (w := Cond.methodLink RX4 48 yX0_hasPaid) (List.mem_append_right _ (List.mem_append_right _ (List.mem_append_left _ (List.mem_of_getElem? (i := 7) rfl)))) rfl
theorem tw_3_8 : Cond.methodLink RX4 52 yX4_draw ∈ wA := wA_of (w := Cond.methodLink RX4 52 yX4_draw) (List.mem_append_right _ (List.mem_append_right _ (List.mem_append_left _ (List.mem_of_getElem? (i := 8) rfl)))) rfl
theorem tw_3_10 : Cond.instanceMethod yX4_draw ∈ wA := wA_of (w := Cond.instanceMethod yX4_draw) (List.mem_append_right _ (List.mem_append_right _ (List.mem_append_left _ (List.mem_of_getElem? (i := 10) rfl)))) rfl
theorem tw_3_11 : Cond.code yX4_draw cX4_draw 1 (some .int) ∈ wA := wA_of (w := Cond.code yX4_draw cX4_draw 1 (some .int)) (List.mem_append_right _ (List.mem_append_right _ (List.mem_append_left _ (List.mem_of_getElem? (i := 11) rfl)))) rfl
theorem tw_3_12 : Cond.constantLong RX4 64 (1103515245 : Int64) ∈ wA := wA_of (w := Cond.constantLong RX4 64 (1103515245 : Int64)) (List.mem_append_right _ (List.mem_append_right _ (List.mem_append_left _ (List.mem_of_getElem? (i := 12) rfl)))) rfl
theorem tw_3_13 : Cond.constantLong RX4 66 (12345 : Int64) ∈ wA := wA_of (w := Cond.constantLong RX4 66 (12345 : Int64)) (List.mem_append_right _ (List.mem_append_right _ (List.mem_append_left _ (List.mem_of_getElem? (i := 13) rfl)))) rfl
theorem tw_3_14 : Cond.constantLong RX4 68 (2147483647 : Int64) ∈ wA := wA_of (w := Cond.constantLong RX4 68 (2147483647 : Int64)) (List.mem_append_right _ (List.mem_append_right _ (List.mem_append_left _ (List.mem_of_getElem? (i := 14) rfl)))) rfl
theorem tw_3_15 : Cond.constant RX4 70 (65536 : Int32) ∈ wA := wA_of (w := Cond.constant RX4 70 (65536 : Int32)) (List.mem_append_right _ (List.mem_append_right _ (List.mem_append_left _ (List.mem_of_getElem? (i := 15) rfl)))) rfl
theorem tw_3_16 : Cond.methodLink RX4 56 yX0_knowsOf ∈ wA := wA_of (w := Cond.methodLink RX4 56 yX0_knowsOf) (List.mem_append_right _ (List.mem_append_right _ (List.mem_append_left _ (List.mem_of_getElem? (i := 16) rfl)))) rfl
theorem tw_3_17 : Cond.methodLink RX4 60 yX2_hear ∈ wA := wA_of (w := Cond.methodLink RX4 60 yX2_hear) (List.mem_append_right _ (List.mem_append_right _ (List.mem_append_left _ (List.mem_of_getElem? (i := 17) rfl)))) rfl
theorem tw_3_18 : Cond.methodLink RX4 40 yX2_beginNextDay ∈ wA := wA_of (w := Cond.methodLink RX4 40 yX2_beginNextDay) (List.mem_append_right _ (List.mem_append_right _ (List.mem_append_left _ (List.mem_of_getElem? (i := 18) rfl)))) rfl
theorem tw_3_19 : Cond.methodLink RX5 209 yX2_paidCount ∈ wA := wA_of (w := Cond.methodLink RX5 209 yX2_paidCount) (List.mem_append_right _ (List.mem_append_right _ (List.mem_append_left _ (List.mem_of_getElem? (i := 19) rfl)))) rfl
theorem tw_3_20 : Cond.instanceMethod yX2_paidCount ∈ wA := wA_of (w := Cond.instanceMethod yX2_paidCount) (List.mem_append_right _ (List.mem_append_right _ (List.mem_append_left _ (List.mem_of_getElem? (i := 20) rfl)))) rfl
theorem tw_3_21 : Cond.selects RX2 yX2_paidCount yX2_paidCount ∈ wA := wA_of (w := Cond.selects RX2 yX2_paidCount yX2_paidCount) (List.mem_append_right _ (List.mem_append_right _ (List.mem_append_left _ (List.mem_of_getElem? (i := 21) rfl)))) rfl
theorem tw_3_22 : Cond.code yX2_paidCount cX2_paidCount 3 (some .int) ∈ wA := wA_of (w := Cond.code yX2_paidCount cX2_paidCount 3 (some .int)) (List.mem_append_right _ (List.mem_append_right _ (List.mem_append_left _ (List.mem_of_getElem? (i := 22) rfl)))) rfl
theorem tw_3_23 : Cond.methodLink RL 91 yX5_image ∈ wA := wA_of (w := Cond.methodLink RL 91 yX5_image) (List.mem_append_right _ (List.mem_append_right _ (List.mem_append_left _ (List.mem_of_getElem? (i := 23) rfl)))) rfl
theorem tw_3_24 : Cond.instanceMethod yX5_image ∈ wA := wA_of (w := Cond.instanceMethod yX5_image) (List.mem_append_right _ (List.mem_append_right _ (List.mem_append_left _ (List.mem_of_getElem? (i := 24) rfl)))) rfl
theorem tw_3_25 : Cond.selects RX5 yX5_image yX5_image ∈ wA := wA_of (w := Cond.selects RX5 yX5_image yX5_image) (List.mem_append_right _ (List.mem_append_right _ (List.mem_append_left _ (List.mem_of_getElem? (i := 25) rfl)))) rfl
theorem tw_3_26 : Cond.code yX5_image cX5_image 1 (some .int) ∈ wA := wA_of (w := Cond.code yX5_image cX5_image 1 (some .int)) (List.mem_append_right _ (List.mem_append_right _ (List.mem_append_left _ (List.mem_of_getElem? (i := 26) rfl)))) rfl
theorem tw_3_27 : Cond.methodLink RX5 215 yX2_copy ∈ wA := wA_of (w := Cond.methodLink RX5 215 yX2_copy) (List.mem_append_right _ (List.mem_append_right _ (List.mem_append_left _ (List.mem_of_getElem? (i := 27) rfl)))) rfl
theorem tw_3_28 : Cond.methodLink RL 95 yX5_restore ∈ wA := wA_of (w := Cond.methodLink RL 95 yX5_restore) (List.mem_append_right _ (List.mem_append_right _ (List.mem_append_left _ (List.mem_of_getElem? (i := 28) rfl)))) rfl
theorem tw_3_29 : Cond.instanceMethod yX5_restore ∈ wA := wA_of (w := Cond.instanceMethod yX5_restore) (List.mem_append_right _ (List.mem_append_right _ (List.mem_append_left _ (List.mem_of_getElem? (i := 29) rfl)))) rfl
theorem tw_3_30 : Cond.selects RX5 yX5_restore yX5_restore ∈ wA := wA_of (w := Cond.selects RX5 yX5_restore yX5_restore) (List.mem_append_right _ (List.mem_append_right _ (List.mem_append_left _ (List.mem_of_getElem? (i := 30) rfl)))) rfl
theorem tw_3_31 : Cond.code yX5_restore cX5_restore 1 (some .int) ∈ wA := wA_of (w := Cond.code yX5_restore cX5_restore 1 (some .int)) (List.mem_append_right _ (List.mem_append_right _ (List.mem_append_left _ (List.mem_of_getElem? (i := 31) rfl)))) rfl
theorem tw_3_32 : Cond.methodLink RL 99 yX5_count ∈ wA := wA_of (w := Cond.methodLink RL 99 yX5_count) (List.mem_append_right _ (List.mem_append_right _ (List.mem_append_left _ (List.mem_of_getElem? (i := 32) rfl)))) rfl
theorem tw_3_33 : Cond.instanceMethod yX5_count ∈ wA := wA_of (w := Cond.instanceMethod yX5_count) (List.mem_append_right _ (List.mem_append_right _ (List.mem_append_left _ (List.mem_of_getElem? (i := 33) rfl)))) rfl
theorem tw_3_34 : Cond.selects RX5 yX5_count yX5_count ∈ wA := wA_of (w := Cond.selects RX5 yX5_count yX5_count) (List.mem_append_right _ (List.mem_append_right _ (List.mem_append_left _ (List.mem_of_getElem? (i := 34) rfl)))) rfl
theorem tw_3_35 : Cond.code yX5_count cX5_count 2 (some .int) ∈ wA := wA_of (w := Cond.code yX5_count cX5_count 2 (some .int)) (List.mem_append_right _ (List.mem_append_right _ (List.mem_append_left _ (List.mem_of_getElem? (i := 35) rfl)))) rfl
theorem tw_3_36 : Cond.methodLink RX5 219 yX2_allConvicts ∈ wA := wA_of (w := Cond.methodLink RX5 219 yX2_allConvicts) (List.mem_append_right _ (List.mem_append_right _ (List.mem_append_left _ (List.mem_of_getElem? (i := 36) rfl)))) rfl
theorem tw_3_37 : Cond.instanceMethod yX2_allConvicts ∈ wA := wA_of (w := Cond.instanceMethod yX2_allConvicts) (List.mem_append_right _ (List.mem_append_right _ (List.mem_append_left _ (List.mem_of_getElem? (i := 37) rfl)))) rfl
theorem tw_3_38 : Cond.selects RX2 yX2_allConvicts yX2_allConvicts ∈ wA := wA_of (w := Cond.selects RX2 yX2_allConvicts yX2_allConvicts) (List.mem_append_right _ (List.mem_append_right _ (List.mem_append_left _ (List.mem_of_getElem? (i := 38) rfl)))) rfl
theorem tw_3_39 : Cond.code yX2_allConvicts cX2_allConvicts 1 (some .int) ∈ wA := wA_of (w := Cond.code yX2_allConvicts cX2_allConvicts 1 (some .int)) (List.mem_append_right _ (List.mem_append_right _ (List.mem_append_left _ (List.mem_of_getElem? (i := 39) rfl)))) rfl
theorem tw_3_40 : Cond.methodLink RX5 222 yX2_usedOfAll ∈ wA := wA_of (w := Cond.methodLink RX5 222 yX2_usedOfAll) (List.mem_append_right _ (List.mem_append_right _ (List.mem_append_left _ (List.mem_of_getElem? (i := 40) rfl)))) rfl
theorem tw_3_41 : Cond.instanceMethod yX2_usedOfAll ∈ wA := wA_of (w := Cond.instanceMethod yX2_usedOfAll) (List.mem_append_right _ (List.mem_append_right _ (List.mem_append_left _ (List.mem_of_getElem? (i := 41) rfl)))) rfl
theorem tw_3_42 : Cond.selects RX2 yX2_usedOfAll yX2_usedOfAll ∈ wA := wA_of (w := Cond.selects RX2 yX2_usedOfAll yX2_usedOfAll) (List.mem_append_right _ (List.mem_append_right _ (List.mem_append_left _ (List.mem_of_getElem? (i := 42) rfl)))) rfl
theorem tw_3_43 : Cond.code yX2_usedOfAll cX2_usedOfAll 3 (some .int) ∈ wA := wA_of (w := Cond.code yX2_usedOfAll cX2_usedOfAll 3 (some .int)) (List.mem_append_right _ (List.mem_append_right _ (List.mem_append_left _ (List.mem_of_getElem? (i := 43) rfl)))) rfl
theorem tw_3_44 : Cond.methodLink RL 103 yX5_digest ∈ wA := wA_of (w := Cond.methodLink RL 103 yX5_digest) (List.mem_append_right _ (List.mem_append_right _ (List.mem_append_left _ (List.mem_of_getElem? (i := 44) rfl)))) rfl
theorem tw_3_45 : Cond.instanceMethod yX5_digest ∈ wA := wA_of (w := Cond.instanceMethod yX5_digest) (List.mem_append_right _ (List.mem_append_right _ (List.mem_append_left _ (List.mem_of_getElem? (i := 45) rfl)))) rfl
theorem tw_3_46 : Cond.selects RX5 yX5_digest yX5_digest ∈ wA := wA_of (w := Cond.selects RX5 yX5_digest yX5_digest) (List.mem_append_right _ (List.mem_append_right _ (List.mem_append_left _ (List.mem_of_getElem? (i := 46) rfl)))) rfl
theorem tw_3_47 : Cond.code yX5_digest cX5_digest 5 (some .long) ∈ wA := wA_of (w := Cond.code yX5_digest cX5_digest 5 (some .long)) (List.mem_append_right _ (List.mem_append_right _ (List.mem_append_left _ (List.mem_of_getElem? (i := 47) rfl)))) rfl
theorem tw_3_48 : Cond.constantLong RX5 225 (883 : Int64) ∈ wA := wA_of (w := Cond.constantLong RX5 225 (883 : Int64)) (List.mem_append_right _ (List.mem_append_right _ (List.mem_append_left _ (List.mem_of_getElem? (i := 48) rfl)))) rfl
theorem tw_3_49 : Cond.methodLink RX5 227 yX5_withVictim ∈ wA := wA_of (w := Cond.methodLink RX5 227 yX5_withVictim) (List.mem_append_right _ (List.mem_append_right _ (List.mem_append_left _ (List.mem_of_getElem? (i := 49) rfl)))) rfl
theorem tw_3_51 : Cond.instanceMethod yX5_withVictim ∈ wA := wA_of (w := Cond.instanceMethod yX5_withVictim) (List.mem_append_right _ (List.mem_append_right _ (List.mem_append_left _ (List.mem_of_getElem? (i := 51) rfl)))) rfl
theorem tw_3_52 : Cond.code yX5_withVictim cX5_withVictim 7 (some .long) ∈ wA := wA_of (w := Cond.code yX5_withVictim cX5_withVictim 7 (some .long)) (List.mem_append_right _ (List.mem_append_right _ (List.mem_append_left _ (List.mem_of_getElem? (i := 52) rfl)))) rfl
theorem tw_3_53 : Cond.methodLink RX5 244 yX5_victim ∈ wA := wA_of (w := Cond.methodLink RX5 244 yX5_victim) (List.mem_append_right _ (List.mem_append_right _ (List.mem_append_left _ (List.mem_of_getElem? (i := 53) rfl)))) rfl
theorem tw_3_54 : Cond.methodLink RX5 234 yX5_with ∈ wA := wA_of (w := Cond.methodLink RX5 234 yX5_with) (List.mem_append_right _ (List.mem_append_right _ (List.mem_append_left _ (List.mem_of_getElem? (i := 54) rfl)))) rfl
theorem tw_3_55 : Cond.static yX5_with ∈ wA := wA_of (w := Cond.static yX5_with) (List.mem_append_right _ (List.mem_append_right _ (List.mem_append_left _ (List.mem_of_getElem? (i := 55) rfl)))) rfl
theorem tw_3_56 : Cond.code yX5_with cX5_with 3 (some .long) ∈ wA := wA_of (w := Cond.code yX5_with cX5_with 3 (some .long)) (List.mem_append_right _ (List.mem_append_right _ (List.mem_append_left _ (List.mem_of_getElem? (i := 56) rfl)))) rfl
theorem tw_3_57 : Cond.constantLong RX5 255 (31 : Int64) ∈ wA := wA_of (w := Cond.constantLong RX5 255 (31 : Int64)) (List.mem_append_right _ (List.mem_append_right _ (List.mem_append_left _ (List.mem_of_getElem? (i := 57) rfl)))) rfl
theorem tw_3_58 : Cond.methodLink RX5 246 yX5_who ∈ wA := wA_of (w := Cond.methodLink RX5 246 yX5_who) (List.mem_append_right _ (List.mem_append_right _ (List.mem_append_left _ (List.mem_of_getElem? (i := 58) rfl)))) rfl
theorem tw_3_59 : Cond.methodLink RX5 249 yX5_truths ∈ wA := wA_of (w := Cond.methodLink RX5 249 yX5_truths) (List.mem_append_right _ (List.mem_append_right _ (List.mem_append_left _ (List.mem_of_getElem? (i := 59) rfl)))) rfl
theorem tw_3_60 : Cond.methodLink RX5 252 yX5_attempt ∈ wA := wA_of (w := Cond.methodLink RX5 252 yX5_attempt) (List.mem_append_right _ (List.mem_append_right _ (List.mem_append_left _ (List.mem_of_getElem? (i := 60) rfl)))) rfl
theorem tw_3_61 : Cond.methodLink RX5 231 yX5_most ∈ wA := wA_of (w := Cond.methodLink RX5 231 yX5_most) (List.mem_append_right _ (List.mem_append_right _ (List.mem_append_left _ (List.mem_of_getElem? (i := 61) rfl)))) rfl
theorem tw_3_62 : Cond.methodLink RX5 237 yX5_about ∈ wA := wA_of (w := Cond.methodLink RX5 237 yX5_about) (List.mem_append_right _ (List.mem_append_right _ (List.mem_append_left _ (List.mem_of_getElem? (i := 62) rfl)))) rfl
theorem tw_3_63 : Cond.methodLink RX5 241 yX5_count ∈ wA := wA_of (w := Cond.methodLink RX5 241 yX5_count) (List.mem_append_right _ (List.mem_append_right _ (List.mem_append_left _ (List.mem_of_getElem? (i := 63) rfl)))) rfl
theorem tw_3_64 : Cond.classLink RL 10 "KindWordsModel" ∈ wA := wA_of (w := Cond.classLink RL 10 "KindWordsModel") (List.mem_append_right _ (List.mem_append_right _ (List.mem_append_left _ (List.mem_of_getElem? (i := 64) rfl)))) rfl
theorem tw_3_65 : Cond.instantiable RX6 27 ∈ wA := wA_of (w := Cond.instantiable RX6 27) (List.mem_append_right _ (List.mem_append_right _ (List.mem_append_left _ (List.mem_of_getElem? (i := 65) rfl)))) rfl
theorem tw_3_66 : Cond.methodLink RL 12 yX6_init ∈ wA := wA_of (w := Cond.methodLink RL 12 yX6_init) (List.mem_append_right _ (List.mem_append_right _ (List.mem_append_left _ (List.mem_of_getElem? (i := 66) rfl)))) rfl
theorem tw_3_67 : Cond.instanceMethod yX6_init ∈ wA := wA_of (w := Cond.instanceMethod yX6_init) (List.mem_append_right _ (List.mem_append_right _ (List.mem_append_left _ (List.mem_of_getElem? (i := 67) rfl)))) rfl
theorem tw_3_68 : Cond.code yX6_init cX6_init 1 none ∈ wA := wA_of (w := Cond.code yX6_init cX6_init 1 none) (List.mem_append_right _ (List.mem_append_right _ (List.mem_append_left _ (List.mem_of_getElem? (i := 68) rfl)))) rfl
theorem tw_3_69 : Cond.methodLink RX6 1 objectInit ∈ wA := wA_of (w := Cond.methodLink RX6 1 objectInit) (List.mem_append_right _ (List.mem_append_right _ (List.mem_append_left _ (List.mem_of_getElem? (i := 69) rfl)))) rfl
theorem tw_3_70 : Cond.fieldLink RX6 7 "KindWordsModel" "page" "[I" ∈ wA := wA_of (w := Cond.fieldLink RX6 7 "KindWordsModel" "page" "[I") (List.mem_append_right _ (List.mem_append_right _ (List.mem_append_left _ (List.mem_of_getElem? (i := 70) rfl)))) rfl
theorem tw_3_71 : Cond.fieldLink RX6 59 "KindWordsModel" "pageMany" "I" ∈ wA := wA_of (w := Cond.fieldLink RX6 59 "KindWordsModel" "pageMany" "I") (List.mem_append_right _ (List.mem_append_right _ (List.mem_append_left _ (List.mem_of_getElem? (i := 71) rfl)))) rfl
theorem tw_3_72 : Cond.fieldLink RX6 81 "KindWordsModel" "isThere" "Z" ∈ wA := wA_of (w := Cond.fieldLink RX6 81 "KindWordsModel" "isThere" "Z") (List.mem_append_right _ (List.mem_append_right _ (List.mem_append_left _ (List.mem_of_getElem? (i := 72) rfl)))) rfl
theorem tw_3_73 : Cond.fieldLink RX6 78 "KindWordsModel" "sheets" "I" ∈ wA := wA_of (w := Cond.fieldLink RX6 78 "KindWordsModel" "sheets" "I") (List.mem_append_right _ (List.mem_append_right _ (List.mem_append_left _ (List.mem_of_getElem? (i := 73) rfl)))) rfl
theorem tw_3_74 : Cond.fieldLink RX6 85 "KindWordsModel" "dayNow" "I" ∈ wA := wA_of (w := Cond.fieldLink RX6 85 "KindWordsModel" "dayNow" "I") (List.mem_append_right _ (List.mem_append_right _ (List.mem_append_left _ (List.mem_of_getElem? (i := 74) rfl)))) rfl
theorem tw_3_75 : Cond.fieldLink RX6 94 "KindWordsModel" "townsRead" "I" ∈ wA := wA_of (w := Cond.fieldLink RX6 94 "KindWordsModel" "townsRead" "I") (List.mem_append_right _ (List.mem_append_right _ (List.mem_append_left _ (List.mem_of_getElem? (i := 75) rfl)))) rfl
theorem tw_3_76 : Cond.fieldLink RX6 13 "KindWordsModel" "truth" "[I" ∈ wA := wA_of (w := Cond.fieldLink RX6 13 "KindWordsModel" "truth" "[I") (List.mem_append_right _ (List.mem_append_right _ (List.mem_append_left _ (List.mem_of_getElem? (i := 76) rfl)))) rfl
theorem tw_3_77 : Cond.fieldLink RX6 16 "KindWordsModel" "used" "[I" ∈ wA := wA_of (w := Cond.fieldLink RX6 16 "KindWordsModel" "used" "[I") (List.mem_append_right _ (List.mem_append_right _ (List.mem_append_left _ (List.mem_of_getElem? (i := 77) rfl)))) rfl
theorem tw_3_78 : Cond.fieldLink RX6 88 "KindWordsModel" "convicts" "I" ∈ wA := wA_of (w := Cond.fieldLink RX6 88 "KindWordsModel" "convicts" "I") (List.mem_append_right _ (List.mem_append_right _ (List.mem_append_left _ (List.mem_of_getElem? (i := 78) rfl)))) rfl
theorem tw_3_79 : Cond.fieldLink RX6 19 "KindWordsModel" "rows" "[I" ∈ wA := wA_of (w := Cond.fieldLink RX6 19 "KindWordsModel" "rows" "[I") (List.mem_append_right _ (List.mem_append_right _ (List.mem_append_left _ (List.mem_of_getElem? (i := 79) rfl)))) rfl
theorem tw_3_80 : Cond.fieldLink RX6 22 "KindWordsModel" "whoSays" "[I" ∈ wA := wA_of (w := Cond.fieldLink RX6 22 "KindWordsModel" "whoSays" "[I") (List.mem_append_right _ (List.mem_append_right _ (List.mem_append_left _ (List.mem_of_getElem? (i := 80) rfl)))) rfl
theorem tw_3_81 : Cond.fieldLink RX6 25 "KindWordsModel" "bestSays" "[I" ∈ wA := wA_of (w := Cond.fieldLink RX6 25 "KindWordsModel" "bestSays" "[I") (List.mem_append_right _ (List.mem_append_right _ (List.mem_append_left _ (List.mem_of_getElem? (i := 81) rfl)))) rfl
theorem tw_3_82 : Cond.fieldLink RX6 28 "KindWordsModel" "saysMany" "[I" ∈ wA := wA_of (w := Cond.fieldLink RX6 28 "KindWordsModel" "saysMany" "[I") (List.mem_append_right _ (List.mem_append_right _ (List.mem_append_left _ (List.mem_of_getElem? (i := 82) rfl)))) rfl
theorem tw_3_83 : Cond.fieldLink RX6 91 "KindWordsModel" "trialMany" "I" ∈ wA := wA_of (w := Cond.fieldLink RX6 91 "KindWordsModel" "trialMany" "I") (List.mem_append_right _ (List.mem_append_right _ (List.mem_append_left _ (List.mem_of_getElem? (i := 83) rfl)))) rfl
theorem tw_3_84 : Cond.fieldLink RX6 31 "KindWordsModel" "trials" "[I" ∈ wA := wA_of (w := Cond.fieldLink RX6 31 "KindWordsModel" "trials" "[I") (List.mem_append_right _ (List.mem_append_right _ (List.mem_append_left _ (List.mem_of_getElem? (i := 84) rfl)))) rfl
theorem tw_3_85 : Cond.fieldLink RX6 176 "KindWordsModel" "seedNow" "I" ∈ wA := wA_of (w := Cond.fieldLink RX6 176 "KindWordsModel" "seedNow" "I") (List.mem_append_right _ (List.mem_append_right _ (List.mem_append_left _ (List.mem_of_getElem? (i := 85) rfl)))) rfl
theorem tw_3_86 : Cond.fieldLink RX6 34 "KindWordsModel" "savedRows" "[I" ∈ wA := wA_of (w := Cond.fieldLink RX6 34 "KindWordsModel" "savedRows" "[I") (List.mem_append_right _ (List.mem_append_right _ (List.mem_append_left _ (List.mem_of_getElem? (i := 86) rfl)))) rfl
theorem tw_3_87 : Cond.fieldLink RX6 37 "KindWordsModel" "savedUsed" "[I" ∈ wA := wA_of (w := Cond.fieldLink RX6 37 "KindWordsModel" "savedUsed" "[I") (List.mem_append_right _ (List.mem_append_right _ (List.mem_append_left _ (List.mem_of_getElem? (i := 87) rfl)))) rfl
theorem tw_3_88 : Cond.fieldLink RX6 49 "KindWordsModel" "keptTown" "I" ∈ wA := wA_of (w := Cond.fieldLink RX6 49 "KindWordsModel" "keptTown" "I") (List.mem_append_right _ (List.mem_append_right _ (List.mem_append_left _ (List.mem_of_getElem? (i := 88) rfl)))) rfl
theorem tw_3_89 : Cond.fieldLink RX6 195 "KindWordsModel" "keptSheets" "I" ∈ wA := wA_of (w := Cond.fieldLink RX6 195 "KindWordsModel" "keptSheets" "I") (List.mem_append_right _ (List.mem_append_right _ (List.mem_append_left _ (List.mem_of_getElem? (i := 89) rfl)))) rfl
theorem tw_3_90 : Cond.fieldLink RX6 198 "KindWordsModel" "keptDay" "I" ∈ wA := wA_of (w := Cond.fieldLink RX6 198 "KindWordsModel" "keptDay" "I") (List.mem_append_right _ (List.mem_append_right _ (List.mem_append_left _ (List.mem_of_getElem? (i := 90) rfl)))) rfl
theorem tw_3_91 : Cond.fieldLink RX6 201 "KindWordsModel" "keptConvicts" "I" ∈ wA := wA_of (w := Cond.fieldLink RX6 201 "KindWordsModel" "keptConvicts" "I") (List.mem_append_right _ (List.mem_append_right _ (List.mem_append_left _ (List.mem_of_getElem? (i := 91) rfl)))) rfl
theorem tw_3_92 : Cond.fieldLink RX6 204 "KindWordsModel" "keptTrialMany" "I" ∈ wA := wA_of (w := Cond.fieldLink RX6 204 "KindWordsModel" "keptTrialMany" "I") (List.mem_append_right _ (List.mem_append_right _ (List.mem_append_left _ (List.mem_of_getElem? (i := 92) rfl)))) rfl
theorem tw_3_93 : Cond.fieldLink RX6 40 "KindWordsModel" "keptRows" "[I" ∈ wA := wA_of (w := Cond.fieldLink RX6 40 "KindWordsModel" "keptRows" "[I") (List.mem_append_right _ (List.mem_append_right _ (List.mem_append_left _ (List.mem_of_getElem? (i := 93) rfl)))) rfl
theorem tw_3_94 : Cond.fieldLink RX6 43 "KindWordsModel" "keptUsed" "[I" ∈ wA := wA_of (w := Cond.fieldLink RX6 43 "KindWordsModel" "keptUsed" "[I") (List.mem_append_right _ (List.mem_append_right _ (List.mem_append_left _ (List.mem_of_getElem? (i := 94) rfl)))) rfl
theorem tw_3_95 : Cond.fieldLink RX6 46 "KindWordsModel" "keptTrials" "[I" ∈ wA := wA_of (w := Cond.fieldLink RX6 46 "KindWordsModel" "keptTrials" "[I") (List.mem_append_right _ (List.mem_append_right _ (List.mem_append_left _ (List.mem_of_getElem? (i := 95) rfl)))) rfl
theorem tw_3_96 : Cond.fieldLink RX6 215 "KindWordsModel" "hash" "J" ∈ wA := wA_of (w := Cond.fieldLink RX6 215 "KindWordsModel" "hash" "J") (List.mem_append_right _ (List.mem_append_right _ (List.mem_append_left _ (List.mem_of_getElem? (i := 96) rfl)))) rfl
theorem tw_3_97 : Cond.laysFinal RX6 "KindWordsModel" "page" "[I" ∈ wA := wA_of (w := Cond.laysFinal RX6 "KindWordsModel" "page" "[I") (List.mem_append_right _ (List.mem_append_right _ (List.mem_append_left _ (List.mem_of_getElem? (i := 97) rfl)))) rfl
theorem tw_3_99 : Cond.lays RX6 "KindWordsModel" "pageMany" "I" ∈ wA := wA_of (w := Cond.lays RX6 "KindWordsModel" "pageMany" "I") (List.mem_append_right _ (List.mem_append_right _ (List.mem_append_left _ (List.mem_of_getElem? (i := 99) rfl)))) rfl
theorem tw_3_101 : Cond.lays RX6 "KindWordsModel" "isThere" "Z" ∈ wA := wA_of (w := Cond.lays RX6 "KindWordsModel" "isThere" "Z") (List.mem_append_right _ (List.mem_append_right _ (List.mem_append_left _ (List.mem_of_getElem? (i := 101) rfl)))) rfl
theorem tw_3_103 : Cond.lays RX6 "KindWordsModel" "sheets" "I" ∈ wA := wA_of (w := Cond.lays RX6 "KindWordsModel" "sheets" "I") (List.mem_append_right _ (List.mem_append_right _ (List.mem_append_left _ (List.mem_of_getElem? (i := 103) rfl)))) rfl
theorem tw_3_105 : Cond.lays RX6 "KindWordsModel" "dayNow" "I" ∈ wA := wA_of (w := Cond.lays RX6 "KindWordsModel" "dayNow" "I") (List.mem_append_right _ (List.mem_append_right _ (List.mem_append_left _ (List.mem_of_getElem? (i := 105) rfl)))) rfl
theorem tw_3_107 : Cond.lays RX6 "KindWordsModel" "townsRead" "I" ∈ wA := wA_of (w := Cond.lays RX6 "KindWordsModel" "townsRead" "I") (List.mem_append_right _ (List.mem_append_right _ (List.mem_append_left _ (List.mem_of_getElem? (i := 107) rfl)))) rfl
theorem tw_3_109 : Cond.laysFinal RX6 "KindWordsModel" "truth" "[I" ∈ wA := wA_of (w := Cond.laysFinal RX6 "KindWordsModel" "truth" "[I") (List.mem_append_right _ (List.mem_append_right _ (List.mem_append_left _ (List.mem_of_getElem? (i := 109) rfl)))) rfl
theorem tw_3_111 : Cond.laysFinal RX6 "KindWordsModel" "used" "[I" ∈ wA := wA_of (w := Cond.laysFinal RX6 "KindWordsModel" "used" "[I") (List.mem_append_right _ (List.mem_append_right _ (List.mem_append_left _ (List.mem_of_getElem? (i := 111) rfl)))) rfl
theorem tw_3_113 : Cond.lays RX6 "KindWordsModel" "convicts" "I" ∈ wA := wA_of (w := Cond.lays RX6 "KindWordsModel" "convicts" "I") (List.mem_append_right _ (List.mem_append_right _ (List.mem_append_left _ (List.mem_of_getElem? (i := 113) rfl)))) rfl
theorem tw_3_115 : Cond.laysFinal RX6 "KindWordsModel" "rows" "[I" ∈ wA := wA_of (w := Cond.laysFinal RX6 "KindWordsModel" "rows" "[I") (List.mem_append_right _ (List.mem_append_right _ (List.mem_append_left _ (List.mem_of_getElem? (i := 115) rfl)))) rfl
theorem tw_3_117 : Cond.laysFinal RX6 "KindWordsModel" "whoSays" "[I" ∈ wA := wA_of (w := Cond.laysFinal RX6 "KindWordsModel" "whoSays" "[I") (List.mem_append_right _ (List.mem_append_right _ (List.mem_append_left _ (List.mem_of_getElem? (i := 117) rfl)))) rfl
theorem tw_3_119 : Cond.laysFinal RX6 "KindWordsModel" "bestSays" "[I" ∈ wA := wA_of (w := Cond.laysFinal RX6 "KindWordsModel" "bestSays" "[I") (List.mem_append_right _ (List.mem_append_right _ (List.mem_append_left _ (List.mem_of_getElem? (i := 119) rfl)))) rfl
theorem tw_3_121 : Cond.laysFinal RX6 "KindWordsModel" "saysMany" "[I" ∈ wA := wA_of (w := Cond.laysFinal RX6 "KindWordsModel" "saysMany" "[I") (List.mem_append_right _ (List.mem_append_right _ (List.mem_append_left _ (List.mem_of_getElem? (i := 121) rfl)))) rfl
theorem tw_3_123 : Cond.lays RX6 "KindWordsModel" "trialMany" "I" ∈ wA := wA_of (w := Cond.lays RX6 "KindWordsModel" "trialMany" "I") (List.mem_append_right _ (List.mem_append_right _ (List.mem_append_left _ (List.mem_of_getElem? (i := 123) rfl)))) rfl
theorem tw_3_125 : Cond.laysFinal RX6 "KindWordsModel" "trials" "[I" ∈ wA := wA_of (w := Cond.laysFinal RX6 "KindWordsModel" "trials" "[I") (List.mem_append_right _ (List.mem_append_right _ (List.mem_append_left _ (List.mem_of_getElem? (i := 125) rfl)))) rfl
theorem tw_3_127 : Cond.lays RX6 "KindWordsModel" "seedNow" "I" ∈ wA := wA_of (w := Cond.lays RX6 "KindWordsModel" "seedNow" "I") (List.mem_append_right _ (List.mem_append_right _ (List.mem_append_left _ (List.mem_of_getElem? (i := 127) rfl)))) rfl
theorem tw_3_129 : Cond.laysFinal RX6 "KindWordsModel" "savedRows" "[I" ∈ wA := wA_of (w := Cond.laysFinal RX6 "KindWordsModel" "savedRows" "[I") (List.mem_append_right _ (List.mem_append_right _ (List.mem_append_left _ (List.mem_of_getElem? (i := 129) rfl)))) rfl
theorem tw_3_131 : Cond.laysFinal RX6 "KindWordsModel" "savedUsed" "[I" ∈ wA := wA_of (w := Cond.laysFinal RX6 "KindWordsModel" "savedUsed" "[I") (List.mem_append_right _ (List.mem_append_right _ (List.mem_append_left _ (List.mem_of_getElem? (i := 131) rfl)))) rfl
theorem tw_3_133 : Cond.lays RX6 "KindWordsModel" "keptTown" "I" ∈ wA := wA_of (w := Cond.lays RX6 "KindWordsModel" "keptTown" "I") (List.mem_append_right _ (List.mem_append_right _ (List.mem_append_left _ (List.mem_of_getElem? (i := 133) rfl)))) rfl
theorem tw_3_135 : Cond.lays RX6 "KindWordsModel" "keptSheets" "I" ∈ wA := wA_of (w := Cond.lays RX6 "KindWordsModel" "keptSheets" "I") (List.mem_append_right _ (List.mem_append_right _ (List.mem_append_left _ (List.mem_of_getElem? (i := 135) rfl)))) rfl
theorem tw_3_137 : Cond.lays RX6 "KindWordsModel" "keptDay" "I" ∈ wA := wA_of (w := Cond.lays RX6 "KindWordsModel" "keptDay" "I") (List.mem_append_right _ (List.mem_append_right _ (List.mem_append_left _ (List.mem_of_getElem? (i := 137) rfl)))) rfl
theorem tw_3_139 : Cond.lays RX6 "KindWordsModel" "keptConvicts" "I" ∈ wA := wA_of (w := Cond.lays RX6 "KindWordsModel" "keptConvicts" "I") (List.mem_append_right _ (List.mem_append_right _ (List.mem_append_left _ (List.mem_of_getElem? (i := 139) rfl)))) rfl
theorem tw_3_141 : Cond.lays RX6 "KindWordsModel" "keptTrialMany" "I" ∈ wA := wA_of (w := Cond.lays RX6 "KindWordsModel" "keptTrialMany" "I") (List.mem_append_right _ (List.mem_append_right _ (List.mem_append_left _ (List.mem_of_getElem? (i := 141) rfl)))) rfl
theorem tw_3_143 : Cond.laysFinal RX6 "KindWordsModel" "keptRows" "[I" ∈ wA := wA_of (w := Cond.laysFinal RX6 "KindWordsModel" "keptRows" "[I") (List.mem_append_right _ (List.mem_append_right _ (List.mem_append_left _ (List.mem_of_getElem? (i := 143) rfl)))) rfl
theorem tw_3_145 : Cond.laysFinal RX6 "KindWordsModel" "keptUsed" "[I" ∈ wA := wA_of (w := Cond.laysFinal RX6 "KindWordsModel" "keptUsed" "[I") (List.mem_append_right _ (List.mem_append_right _ (List.mem_append_left _ (List.mem_of_getElem? (i := 145) rfl)))) rfl
theorem tw_3_147 : Cond.laysFinal RX6 "KindWordsModel" "keptTrials" "[I" ∈ wA := wA_of (w := Cond.laysFinal RX6 "KindWordsModel" "keptTrials" "[I") (List.mem_append_right _ (List.mem_append_right _ (List.mem_append_left _ (List.mem_of_getElem? (i := 147) rfl)))) rfl
theorem tw_3_149 : Cond.lays RX6 "KindWordsModel" "hash" "J" ∈ wA := wA_of (w := Cond.lays RX6 "KindWordsModel" "hash" "J") (List.mem_append_right _ (List.mem_append_right _ (List.mem_append_left _ (List.mem_of_getElem? (i := 149) rfl)))) rfl
theorem tw_3_152 : Cond.methodLink RL 17 yX6_letter ∈ wA := wA_of (w := Cond.methodLink RL 17 yX6_letter) (List.mem_append_right _ (List.mem_append_right _ (List.mem_append_left _ (List.mem_of_getElem? (i := 152) rfl)))) rfl
theorem tw_3_153 : Cond.instanceMethod yX6_letter ∈ wA := wA_of (w := Cond.instanceMethod yX6_letter) (List.mem_append_right _ (List.mem_append_right _ (List.mem_append_left _ (List.mem_of_getElem? (i := 153) rfl)))) rfl
theorem tw_3_154 : Cond.selects RX6 yX6_letter yX6_letter ∈ wA := wA_of (w := Cond.selects RX6 yX6_letter yX6_letter) (List.mem_append_right _ (List.mem_append_right _ (List.mem_append_left _ (List.mem_of_getElem? (i := 154) rfl)))) rfl
theorem tw_3_155 : Cond.code yX6_letter cX6_letter 2 (some .int) ∈ wA := wA_of (w := Cond.code yX6_letter cX6_letter 2 (some .int)) (List.mem_append_right _ (List.mem_append_right _ (List.mem_append_left _ (List.mem_of_getElem? (i := 155) rfl)))) rfl
theorem tw_3_156 : Cond.constantLong RX6 53 (126 : Int64) ∈ wA := wA_of (w := Cond.constantLong RX6 53 (126 : Int64)) (List.mem_append_right _ (List.mem_append_right _ (List.mem_append_left _ (List.mem_of_getElem? (i := 156) rfl)))) rfl
theorem tw_3_157 : Cond.methodLink RX6 55 yX6_in ∈ wA := wA_of (w := Cond.methodLink RX6 55 yX6_in) (List.mem_append_right _ (List.mem_append_right _ (List.mem_append_left _ (List.mem_of_getElem? (i := 157) rfl)))) rfl
theorem tw_3_158 : Cond.static yX6_in ∈ wA := wA_of (w := Cond.static yX6_in) (List.mem_append_right _ (List.mem_append_right _ (List.mem_append_left _ (List.mem_of_getElem? (i := 158) rfl)))) rfl
theorem tw_3_159 : Cond.code yX6_in cX6_in 6 (some .boolean) ∈ wA := wA_of (w := Cond.code yX6_in cX6_in 6 (some .boolean)) (List.mem_append_right _ (List.mem_append_right _ (List.mem_append_left _ (List.mem_of_getElem? (i := 159) rfl)))) rfl
theorem tw_3_160 : Cond.methodLink RL 22 yX6_blank ∈ wA := wA_of (w := Cond.methodLink RL 22 yX6_blank) (List.mem_append_right _ (List.mem_append_right _ (List.mem_append_left _ (List.mem_of_getElem? (i := 160) rfl)))) rfl
theorem tw_3_161 : Cond.instanceMethod yX6_blank ∈ wA := wA_of (w := Cond.instanceMethod yX6_blank) (List.mem_append_right _ (List.mem_append_right _ (List.mem_append_left _ (List.mem_of_getElem? (i := 161) rfl)))) rfl
theorem tw_3_162 : Cond.selects RX6 yX6_blank yX6_blank ∈ wA := wA_of (w := Cond.selects RX6 yX6_blank yX6_blank) (List.mem_append_right _ (List.mem_append_right _ (List.mem_append_left _ (List.mem_of_getElem? (i := 162) rfl)))) rfl
theorem tw_3_163 : Cond.code yX6_blank cX6_blank 2 (some .int) ∈ wA := wA_of (w := Cond.code yX6_blank cX6_blank 2 (some .int)) (List.mem_append_right _ (List.mem_append_right _ (List.mem_append_left _ (List.mem_of_getElem? (i := 163) rfl)))) rfl
theorem tw_3_164 : Cond.methodLink RL 26 yX6_fault ∈ wA := wA_of (w := Cond.methodLink RL 26 yX6_fault) (List.mem_append_right _ (List.mem_append_right _ (List.mem_append_left _ (List.mem_of_getElem? (i := 164) rfl)))) rfl
theorem tw_3_165 : Cond.instanceMethod yX6_fault ∈ wA := wA_of (w := Cond.instanceMethod yX6_fault) (List.mem_append_right _ (List.mem_append_right _ (List.mem_append_left _ (List.mem_of_getElem? (i := 165) rfl)))) rfl
theorem tw_3_166 : Cond.selects RX6 yX6_fault yX6_fault ∈ wA := wA_of (w := Cond.selects RX6 yX6_fault yX6_fault) (List.mem_append_right _ (List.mem_append_right _ (List.mem_append_left _ (List.mem_of_getElem? (i := 166) rfl)))) rfl
theorem tw_3_167 : Cond.code yX6_fault cX6_fault 1 (some .int) ∈ wA := wA_of (w := Cond.code yX6_fault cX6_fault 1 (some .int)) (List.mem_append_right _ (List.mem_append_right _ (List.mem_append_left _ (List.mem_of_getElem? (i := 167) rfl)))) rfl
theorem tw_3_168 : Cond.methodLink RX6 70 yX6_faultOf ∈ wA := wA_of (w := Cond.methodLink RX6 70 yX6_faultOf) (List.mem_append_right _ (List.mem_append_right _ (List.mem_append_left _ (List.mem_of_getElem? (i := 168) rfl)))) rfl
theorem tw_3_170 : Cond.instanceMethod yX6_faultOf ∈ wA := wA_of (w := Cond.instanceMethod yX6_faultOf) (List.mem_append_right _ (List.mem_append_right _ (List.mem_append_left _ (List.mem_of_getElem? (i := 170) rfl)))) rfl
theorem tw_3_171 : Cond.code yX6_faultOf cX6_faultOf 2 (some .int) ∈ wA := wA_of (w := Cond.code yX6_faultOf cX6_faultOf 2 (some .int)) (List.mem_append_right _ (List.mem_append_right _ (List.mem_append_left _ (List.mem_of_getElem? (i := 171) rfl)))) rfl
theorem tw_3_172 : Cond.methodLink RX6 66 yX6_isGood ∈ wA := wA_of (w := Cond.methodLink RX6 66 yX6_isGood) (List.mem_append_right _ (List.mem_append_right _ (List.mem_append_left _ (List.mem_of_getElem? (i := 172) rfl)))) rfl
theorem tw_3_173 : Cond.static yX6_isGood ∈ wA := wA_of (w := Cond.static yX6_isGood) (List.mem_append_right _ (List.mem_append_right _ (List.mem_append_left _ (List.mem_of_getElem? (i := 173) rfl)))) rfl
theorem tw_3_174 : Cond.code yX6_isGood cX6_isGood 3 (some .boolean) ∈ wA := wA_of (w := Cond.code yX6_isGood cX6_isGood 3 (some .boolean)) (List.mem_append_right _ (List.mem_append_right _ (List.mem_append_left _ (List.mem_of_getElem? (i := 174) rfl)))) rfl
theorem tw_3_175 : Cond.constantLong RX6 62 (9 : Int64) ∈ wA := wA_of (w := Cond.constantLong RX6 62 (9 : Int64)) (List.mem_append_right _ (List.mem_append_right _ (List.mem_append_left _ (List.mem_of_getElem? (i := 175) rfl)))) rfl
theorem tw_3_176 : Cond.constantLong RX6 64 (7 : Int64) ∈ wA := wA_of (w := Cond.constantLong RX6 64 (7 : Int64)) (List.mem_append_right _ (List.mem_append_right _ (List.mem_append_left _ (List.mem_of_getElem? (i := 176) rfl)))) rfl
theorem tw_3_177 : Cond.methodLink RL 30 yX6_town ∈ wA := wA_of (w := Cond.methodLink RL 30 yX6_town) (List.mem_append_right _ (List.mem_append_right _ (List.mem_append_left _ (List.mem_of_getElem? (i := 177) rfl)))) rfl
theorem tw_3_178 : Cond.instanceMethod yX6_town ∈ wA := wA_of (w := Cond.instanceMethod yX6_town) (List.mem_append_right _ (List.mem_append_right _ (List.mem_append_left _ (List.mem_of_getElem? (i := 178) rfl)))) rfl
theorem tw_3_179 : Cond.selects RX6 yX6_town yX6_town ∈ wA := wA_of (w := Cond.selects RX6 yX6_town yX6_town) (List.mem_append_right _ (List.mem_append_right _ (List.mem_append_left _ (List.mem_of_getElem? (i := 179) rfl)))) rfl
theorem tw_3_180 : Cond.code yX6_town cX6_town 2 (some .int) ∈ wA := wA_of (w := Cond.code yX6_town cX6_town 2 (some .int)) (List.mem_append_right _ (List.mem_append_right _ (List.mem_append_left _ (List.mem_of_getElem? (i := 180) rfl)))) rfl
theorem tw_3_181 : Cond.methodLink RX6 97 yX6_trueAll ∈ wA := wA_of (w := Cond.methodLink RX6 97 yX6_trueAll) (List.mem_append_right _ (List.mem_append_right _ (List.mem_append_left _ (List.mem_of_getElem? (i := 181) rfl)))) rfl
theorem tw_3_183 : Cond.instanceMethod yX6_trueAll ∈ wA := wA_of (w := Cond.instanceMethod yX6_trueAll) (List.mem_append_right _ (List.mem_append_right _ (List.mem_append_left _ (List.mem_of_getElem? (i := 183) rfl)))) rfl
theorem tw_3_184 : Cond.code yX6_trueAll cX6_trueAll 3 (some .int) ∈ wA := wA_of (w := Cond.code yX6_trueAll cX6_trueAll 3 (some .int)) (List.mem_append_right _ (List.mem_append_right _ (List.mem_append_left _ (List.mem_of_getElem? (i := 184) rfl)))) rfl
theorem tw_3_185 : Cond.methodLink RX6 74 yX6_ones ∈ wA := wA_of (w := Cond.methodLink RX6 74 yX6_ones) (List.mem_append_right _ (List.mem_append_right _ (List.mem_append_left _ (List.mem_of_getElem? (i := 185) rfl)))) rfl
theorem tw_3_186 : Cond.static yX6_ones ∈ wA := wA_of (w := Cond.static yX6_ones) (List.mem_append_right _ (List.mem_append_right _ (List.mem_append_left _ (List.mem_of_getElem? (i := 186) rfl)))) rfl
theorem tw_3_187 : Cond.code yX6_ones cX6_ones 3 (some .int) ∈ wA := wA_of (w := Cond.code yX6_ones cX6_ones 3 (some .int)) (List.mem_append_right _ (List.mem_append_right _ (List.mem_append_left _ (List.mem_of_getElem? (i := 187) rfl)))) rfl
theorem tw_3_188 : Cond.methodLink RL 35 yX6_victim ∈ wA := wA_of (w := Cond.methodLink RL 35 yX6_victim) (List.mem_append_right _ (List.mem_append_right _ (List.mem_append_left _ (List.mem_of_getElem? (i := 188) rfl)))) rfl
theorem tw_3_189 : Cond.instanceMethod yX6_victim ∈ wA := wA_of (w := Cond.instanceMethod yX6_victim) (List.mem_append_right _ (List.mem_append_right _ (List.mem_append_left _ (List.mem_of_getElem? (i := 189) rfl)))) rfl
theorem tw_3_190 : Cond.selects RX6 yX6_victim yX6_victim ∈ wA := wA_of (w := Cond.selects RX6 yX6_victim yX6_victim) (List.mem_append_right _ (List.mem_append_right _ (List.mem_append_left _ (List.mem_of_getElem? (i := 190) rfl)))) rfl
theorem tw_3_191 : Cond.code yX6_victim cX6_victim 3 (some .int) ∈ wA := wA_of (w := Cond.code yX6_victim cX6_victim 3 (some .int)) (List.mem_append_right _ (List.mem_append_right _ (List.mem_append_left _ (List.mem_of_getElem? (i := 191) rfl)))) rfl
theorem tw_3_192 : Cond.methodLink RX6 104 yX6_isVictim ∈ wA := wA_of (w := Cond.methodLink RX6 104 yX6_isVictim) (List.mem_append_right _ (List.mem_append_right _ (List.mem_append_left _ (List.mem_of_getElem? (i := 192) rfl)))) rfl
theorem tw_3_194 : Cond.instanceMethod yX6_isVictim ∈ wA := wA_of (w := Cond.instanceMethod yX6_isVictim) (List.mem_append_right _ (List.mem_append_right _ (List.mem_append_left _ (List.mem_of_getElem? (i := 194) rfl)))) rfl
theorem tw_3_195 : Cond.code yX6_isVictim cX6_isVictim 2 (some .boolean) ∈ wA := wA_of (w := Cond.code yX6_isVictim cX6_isVictim 2 (some .boolean)) (List.mem_append_right _ (List.mem_append_right _ (List.mem_append_left _ (List.mem_of_getElem? (i := 195) rfl)))) rfl
theorem tw_3_196 : Cond.constantLong RX6 100 (2 : Int64) ∈ wA := wA_of (w := Cond.constantLong RX6 100 (2 : Int64)) (List.mem_append_right _ (List.mem_append_right _ (List.mem_append_left _ (List.mem_of_getElem? (i := 196) rfl)))) rfl
theorem tw_3_197 : Cond.methodLink RX6 108 yX6_tellVictim ∈ wA := wA_of (w := Cond.methodLink RX6 108 yX6_tellVictim) (List.mem_append_right _ (List.mem_append_right _ (List.mem_append_left _ (List.mem_of_getElem? (i := 197) rfl)))) rfl
theorem tw_3_199 : Cond.instanceMethod yX6_tellVictim ∈ wA := wA_of (w := Cond.instanceMethod yX6_tellVictim) (List.mem_append_right _ (List.mem_append_right _ (List.mem_append_left _ (List.mem_of_getElem? (i := 199) rfl)))) rfl
theorem tw_3_200 : Cond.code yX6_tellVictim cX6_tellVictim 6 (some .int) ∈ wA := wA_of (w := Cond.code yX6_tellVictim cX6_tellVictim 6 (some .int)) (List.mem_append_right _ (List.mem_append_right _ (List.mem_append_left _ (List.mem_of_getElem? (i := 200) rfl)))) rfl
theorem tw_3_201 : Cond.methodLink RL 40 yX6_convict ∈ wA := wA_of (w := Cond.methodLink RL 40 yX6_convict) (List.mem_append_right _ (List.mem_append_right _ (List.mem_append_left _ (List.mem_of_getElem? (i := 201) rfl)))) rfl
theorem tw_3_202 : Cond.instanceMethod yX6_convict ∈ wA := wA_of (w := Cond.instanceMethod yX6_convict) (List.mem_append_right _ (List.mem_append_right _ (List.mem_append_left _ (List.mem_of_getElem? (i := 202) rfl)))) rfl
theorem tw_3_203 : Cond.selects RX6 yX6_convict yX6_convict ∈ wA := wA_of (w := Cond.selects RX6 yX6_convict yX6_convict) (List.mem_append_right _ (List.mem_append_right _ (List.mem_append_left _ (List.mem_of_getElem? (i := 203) rfl)))) rfl
theorem tw_3_204 : Cond.code yX6_convict cX6_convict 5 (some .int) ∈ wA := wA_of (w := Cond.code yX6_convict cX6_convict 5 (some .int)) (List.mem_append_right _ (List.mem_append_right _ (List.mem_append_left _ (List.mem_of_getElem? (i := 204) rfl)))) rfl
theorem tw_3_205 : Cond.constantLong RX6 112 (4 : Int64) ∈ wA := wA_of (w := Cond.constantLong RX6 112 (4 : Int64)) (List.mem_append_right _ (List.mem_append_right _ (List.mem_append_left _ (List.mem_of_getElem? (i := 205) rfl)))) rfl
theorem tw_3_206 : Cond.constantLong RX6 114 (63 : Int64) ∈ wA := wA_of (w := Cond.constantLong RX6 114 (63 : Int64)) (List.mem_append_right _ (List.mem_append_right _ (List.mem_append_left _ (List.mem_of_getElem? (i := 206) rfl)))) rfl
theorem tw_3_207 : Cond.methodLink RX6 116 yX6_aDay ∈ wA := wA_of (w := Cond.methodLink RX6 116 yX6_aDay) (List.mem_append_right _ (List.mem_append_right _ (List.mem_append_left _ (List.mem_of_getElem? (i := 207) rfl)))) rfl
theorem tw_3_208 : Cond.static yX6_aDay ∈ wA := wA_of (w := Cond.static yX6_aDay) (List.mem_append_right _ (List.mem_append_right _ (List.mem_append_left _ (List.mem_of_getElem? (i := 208) rfl)))) rfl
theorem tw_3_209 : Cond.code yX6_aDay cX6_aDay 1 (some .int) ∈ wA := wA_of (w := Cond.code yX6_aDay cX6_aDay 1 (some .int)) (List.mem_append_right _ (List.mem_append_right _ (List.mem_append_left _ (List.mem_of_getElem? (i := 209) rfl)))) rfl
theorem tw_3_210 : Cond.methodLink RL 44 yX6_about ∈ wA := wA_of (w := Cond.methodLink RL 44 yX6_about) (List.mem_append_right _ (List.mem_append_right _ (List.mem_append_left _ (List.mem_of_getElem? (i := 210) rfl)))) rfl
theorem tw_3_211 : Cond.instanceMethod yX6_about ∈ wA := wA_of (w := Cond.instanceMethod yX6_about) (List.mem_append_right _ (List.mem_append_right _ (List.mem_append_left _ (List.mem_of_getElem? (i := 211) rfl)))) rfl
theorem tw_3_212 : Cond.selects RX6 yX6_about yX6_about ∈ wA := wA_of (w := Cond.selects RX6 yX6_about yX6_about) (List.mem_append_right _ (List.mem_append_right _ (List.mem_append_left _ (List.mem_of_getElem? (i := 212) rfl)))) rfl
theorem tw_3_213 : Cond.code yX6_about cX6_about 3 (some .int) ∈ wA := wA_of (w := Cond.code yX6_about cX6_about 3 (some .int)) (List.mem_append_right _ (List.mem_append_right _ (List.mem_append_left _ (List.mem_of_getElem? (i := 213) rfl)))) rfl
theorem tw_3_214 : Cond.methodLink RX6 131 yX6_isConvict ∈ wA := wA_of (w := Cond.methodLink RX6 131 yX6_isConvict) (List.mem_append_right _ (List.mem_append_right _ (List.mem_append_left _ (List.mem_of_getElem? (i := 214) rfl)))) rfl
theorem tw_3_216 : Cond.instanceMethod yX6_isConvict ∈ wA := wA_of (w := Cond.instanceMethod yX6_isConvict) (List.mem_append_right _ (List.mem_append_right _ (List.mem_append_left _ (List.mem_of_getElem? (i := 216) rfl)))) rfl
theorem tw_3_217 : Cond.code yX6_isConvict cX6_isConvict 2 (some .boolean) ∈ wA := wA_of (w := Cond.code yX6_isConvict cX6_isConvict 2 (some .boolean)) (List.mem_append_right _ (List.mem_append_right _ (List.mem_append_left _ (List.mem_of_getElem? (i := 217) rfl)))) rfl
theorem tw_3_218 : Cond.methodLink RX6 134 yX6_tell ∈ wA := wA_of (w := Cond.methodLink RX6 134 yX6_tell) (List.mem_append_right _ (List.mem_append_right _ (List.mem_append_left _ (List.mem_of_getElem? (i := 218) rfl)))) rfl
theorem tw_3_220 : Cond.instanceMethod yX6_tell ∈ wA := wA_of (w := Cond.instanceMethod yX6_tell) (List.mem_append_right _ (List.mem_append_right _ (List.mem_append_left _ (List.mem_of_getElem? (i := 220) rfl)))) rfl
theorem tw_3_221 : Cond.code yX6_tell cX6_tell 3 (some .int) ∈ wA := wA_of (w := Cond.code yX6_tell cX6_tell 3 (some .int)) (List.mem_append_right _ (List.mem_append_right _ (List.mem_append_left _ (List.mem_of_getElem? (i := 221) rfl)))) rfl
theorem tw_3_222 : Cond.methodLink RX6 122 yX6_leftOf ∈ wA := wA_of (w := Cond.methodLink RX6 122 yX6_leftOf) (List.mem_append_right _ (List.mem_append_right _ (List.mem_append_left _ (List.mem_of_getElem? (i := 222) rfl)))) rfl
theorem tw_3_224 : Cond.instanceMethod yX6_leftOf ∈ wA := wA_of (w := Cond.instanceMethod yX6_leftOf) (List.mem_append_right _ (List.mem_append_right _ (List.mem_append_left _ (List.mem_of_getElem? (i := 224) rfl)))) rfl
theorem tw_3_225 : Cond.code yX6_leftOf cX6_leftOf 3 (some .int) ∈ wA := wA_of (w := Cond.code yX6_leftOf cX6_leftOf 3 (some .int)) (List.mem_append_right _ (List.mem_append_right _ (List.mem_append_left _ (List.mem_of_getElem? (i := 225) rfl)))) rfl
theorem tw_3_226 : Cond.methodLink RX6 125 yX6_daysOf ∈ wA := wA_of (w := Cond.methodLink RX6 125 yX6_daysOf) (List.mem_append_right _ (List.mem_append_right _ (List.mem_append_left _ (List.mem_of_getElem? (i := 226) rfl)))) rfl
theorem tw_3_228 : Cond.instanceMethod yX6_daysOf ∈ wA := wA_of (w := Cond.instanceMethod yX6_daysOf) (List.mem_append_right _ (List.mem_append_right _ (List.mem_append_left _ (List.mem_of_getElem? (i := 228) rfl)))) rfl
theorem tw_3_229 : Cond.code yX6_daysOf cX6_daysOf 5 (some .int) ∈ wA := wA_of (w := Cond.code yX6_daysOf cX6_daysOf 5 (some .int)) (List.mem_append_right _ (List.mem_append_right _ (List.mem_append_left _ (List.mem_of_getElem? (i := 229) rfl)))) rfl
theorem tw_3_230 : Cond.methodLink RX6 119 yX6_needsOf ∈ wA := wA_of (w := Cond.methodLink RX6 119 yX6_needsOf) (List.mem_append_right _ (List.mem_append_right _ (List.mem_append_left _ (List.mem_of_getElem? (i := 230) rfl)))) rfl
theorem tw_3_232 : Cond.instanceMethod yX6_needsOf ∈ wA := wA_of (w := Cond.instanceMethod yX6_needsOf) (List.mem_append_right _ (List.mem_append_right _ (List.mem_append_left _ (List.mem_of_getElem? (i := 232) rfl)))) rfl
theorem tw_3_233 : Cond.code yX6_needsOf cX6_needsOf 3 (some .int) ∈ wA := wA_of (w := Cond.code yX6_needsOf cX6_needsOf 3 (some .int)) (List.mem_append_right _ (List.mem_append_right _ (List.mem_append_left _ (List.mem_of_getElem? (i := 233) rfl)))) rfl
theorem tw_3_234 : Cond.methodLink RX6 128 yX6_findOf ∈ wA := wA_of (w := Cond.methodLink RX6 128 yX6_findOf) (List.mem_append_right _ (List.mem_append_right _ (List.mem_append_left _ (List.mem_of_getElem? (i := 234) rfl)))) rfl
theorem tw_3_236 : Cond.instanceMethod yX6_findOf ∈ wA := wA_of (w := Cond.instanceMethod yX6_findOf) (List.mem_append_right _ (List.mem_append_right _ (List.mem_append_left _ (List.mem_of_getElem? (i := 236) rfl)))) rfl
theorem tw_3_237 : Cond.code yX6_findOf cX6_findOf 5 (some .int) ∈ wA := wA_of (w := Cond.code yX6_findOf cX6_findOf 5 (some .int)) (List.mem_append_right _ (List.mem_append_right _ (List.mem_append_left _ (List.mem_of_getElem? (i := 237) rfl)))) rfl
theorem tw_3_238 : Cond.methodLink RL 48 yX6_as ∈ wA := wA_of (w := Cond.methodLink RL 48 yX6_as) (List.mem_append_right _ (List.mem_append_right _ (List.mem_append_left _ (List.mem_of_getElem? (i := 238) rfl)))) rfl
theorem tw_3_239 : Cond.instanceMethod yX6_as ∈ wA := wA_of (w := Cond.instanceMethod yX6_as) (List.mem_append_right _ (List.mem_append_right _ (List.mem_append_left _ (List.mem_of_getElem? (i := 239) rfl)))) rfl
theorem tw_4_0 : Cond.selects RX6 yX6_as yX6_as ∈ wA := wA_of (w := Cond.selects RX6 yX6_as yX6_as) (List.mem_append_right _ (List.mem_append_right _ (List.mem_append_right _ (List.mem_of_getElem? (i := 0) rfl)))) rfl
theorem tw_4_1 : Cond.code yX6_as cX6_as 5 (some .int) ∈ wA := wA_of (w := Cond.code yX6_as cX6_as 5 (some .int)) (List.mem_append_right _ (List.mem_append_right _ (List.mem_append_right _ (List.mem_of_getElem? (i := 1) rfl)))) rfl
theorem tw_4_2 : Cond.methodLink RL 52 yX6_say ∈ wA := wA_of (w := Cond.methodLink RL 52 yX6_say) (List.mem_append_right _ (List.mem_append_right _ (List.mem_append_right _ (List.mem_of_getElem? (i := 2) rfl)))) rfl
theorem tw_4_3 : Cond.instanceMethod yX6_say ∈ wA := wA_of (w := Cond.instanceMethod yX6_say) (List.mem_append_right _ (List.mem_append_right _ (List.mem_append_right _ (List.mem_of_getElem? (i := 3) rfl)))) rfl
theorem tw_4_4 : Cond.selects RX6 yX6_say yX6_say ∈ wA := wA_of (w := Cond.selects RX6 yX6_say yX6_say) (List.mem_append_right _ (List.mem_append_right _ (List.mem_append_right _ (List.mem_of_getElem? (i := 4) rfl)))) rfl
theorem tw_4_5 : Cond.code yX6_say cX6_say 3 (some .int) ∈ wA := wA_of (w := Cond.code yX6_say cX6_say 3 (some .int)) (List.mem_append_right _ (List.mem_append_right _ (List.mem_append_right _ (List.mem_of_getElem? (i := 5) rfl)))) rfl
theorem tw_4_6 : Cond.methodLink RX6 137 yX6_isSaying ∈ wA := wA_of (w := Cond.methodLink RX6 137 yX6_isSaying) (List.mem_append_right _ (List.mem_append_right _ (List.mem_append_right _ (List.mem_of_getElem? (i := 6) rfl)))) rfl
theorem tw_4_7 : Cond.static yX6_isSaying ∈ wA := wA_of (w := Cond.static yX6_isSaying) (List.mem_append_right _ (List.mem_append_right _ (List.mem_append_right _ (List.mem_of_getElem? (i := 7) rfl)))) rfl
theorem tw_4_8 : Cond.code yX6_isSaying cX6_isSaying 1 (some .boolean) ∈ wA := wA_of (w := Cond.code yX6_isSaying cX6_isSaying 1 (some .boolean)) (List.mem_append_right _ (List.mem_append_right _ (List.mem_append_right _ (List.mem_of_getElem? (i := 8) rfl)))) rfl
theorem tw_4_9 : Cond.constantLong RX6 102 (5 : Int64) ∈ wA := wA_of (w := Cond.constantLong RX6 102 (5 : Int64)) (List.mem_append_right _ (List.mem_append_right _ (List.mem_append_right _ (List.mem_of_getElem? (i := 9) rfl)))) rfl
theorem tw_4_10 : Cond.methodLink RX6 140 yX6_knows ∈ wA := wA_of (w := Cond.methodLink RX6 140 yX6_knows) (List.mem_append_right _ (List.mem_append_right _ (List.mem_append_right _ (List.mem_of_getElem? (i := 10) rfl)))) rfl
theorem tw_4_12 : Cond.instanceMethod yX6_knows ∈ wA := wA_of (w := Cond.instanceMethod yX6_knows) (List.mem_append_right _ (List.mem_append_right _ (List.mem_append_right _ (List.mem_of_getElem? (i := 12) rfl)))) rfl
theorem tw_4_13 : Cond.code yX6_knows cX6_knows 3 (some .boolean) ∈ wA := wA_of (w := Cond.code yX6_knows cX6_knows 3 (some .boolean)) (List.mem_append_right _ (List.mem_append_right _ (List.mem_append_right _ (List.mem_of_getElem? (i := 13) rfl)))) rfl
theorem tw_4_14 : Cond.methodLink RX6 143 yX6_says ∈ wA := wA_of (w := Cond.methodLink RX6 143 yX6_says) (List.mem_append_right _ (List.mem_append_right _ (List.mem_append_right _ (List.mem_of_getElem? (i := 14) rfl)))) rfl
theorem tw_4_16 : Cond.instanceMethod yX6_says ∈ wA := wA_of (w := Cond.instanceMethod yX6_says) (List.mem_append_right _ (List.mem_append_right _ (List.mem_append_right _ (List.mem_of_getElem? (i := 16) rfl)))) rfl
theorem tw_4_17 : Cond.code yX6_says cX6_says 7 (some .int) ∈ wA := wA_of (w := Cond.code yX6_says cX6_says 7 (some .int)) (List.mem_append_right _ (List.mem_append_right _ (List.mem_append_right _ (List.mem_of_getElem? (i := 17) rfl)))) rfl
theorem tw_4_18 : Cond.methodLink RL 56 yX6_learn ∈ wA := wA_of (w := Cond.methodLink RL 56 yX6_learn) (List.mem_append_right _ (List.mem_append_right _ (List.mem_append_right _ (List.mem_of_getElem? (i := 18) rfl)))) rfl
theorem tw_4_19 : Cond.instanceMethod yX6_learn ∈ wA := wA_of (w := Cond.instanceMethod yX6_learn) (List.mem_append_right _ (List.mem_append_right _ (List.mem_append_right _ (List.mem_of_getElem? (i := 19) rfl)))) rfl
theorem tw_4_20 : Cond.selects RX6 yX6_learn yX6_learn ∈ wA := wA_of (w := Cond.selects RX6 yX6_learn yX6_learn) (List.mem_append_right _ (List.mem_append_right _ (List.mem_append_right _ (List.mem_of_getElem? (i := 20) rfl)))) rfl
theorem tw_4_21 : Cond.code yX6_learn cX6_learn 4 (some .int) ∈ wA := wA_of (w := Cond.code yX6_learn cX6_learn 4 (some .int)) (List.mem_append_right _ (List.mem_append_right _ (List.mem_append_right _ (List.mem_of_getElem? (i := 21) rfl)))) rfl
theorem tw_4_22 : Cond.methodLink RL 60 yX6_night ∈ wA := wA_of (w := Cond.methodLink RL 60 yX6_night) (List.mem_append_right _ (List.mem_append_right _ (List.mem_append_right _ (List.mem_of_getElem? (i := 22) rfl)))) rfl
theorem tw_4_23 : Cond.instanceMethod yX6_night ∈ wA := wA_of (w := Cond.instanceMethod yX6_night) (List.mem_append_right _ (List.mem_append_right _ (List.mem_append_right _ (List.mem_of_getElem? (i := 23) rfl)))) rfl
theorem tw_4_24 : Cond.selects RX6 yX6_night yX6_night ∈ wA := wA_of (w := Cond.selects RX6 yX6_night yX6_night) (List.mem_append_right _ (List.mem_append_right _ (List.mem_append_right _ (List.mem_of_getElem? (i := 24) rfl)))) rfl
theorem tw_4_25 : Cond.code yX6_night cX6_night 1 (some .int) ∈ wA := wA_of (w := Cond.code yX6_night cX6_night 1 (some .int)) (List.mem_append_right _ (List.mem_append_right _ (List.mem_append_right _ (List.mem_of_getElem? (i := 25) rfl)))) rfl
theorem tw_4_26 : Cond.methodLink RX6 146 yX6_sleep ∈ wA := wA_of (w := Cond.methodLink RX6 146 yX6_sleep) (List.mem_append_right _ (List.mem_append_right _ (List.mem_append_right _ (List.mem_of_getElem? (i := 26) rfl)))) rfl
theorem tw_4_28 : Cond.instanceMethod yX6_sleep ∈ wA := wA_of (w := Cond.instanceMethod yX6_sleep) (List.mem_append_right _ (List.mem_append_right _ (List.mem_append_right _ (List.mem_of_getElem? (i := 28) rfl)))) rfl
theorem tw_4_29 : Cond.code yX6_sleep cX6_sleep 2 none ∈ wA := wA_of (w := Cond.code yX6_sleep cX6_sleep 2 none) (List.mem_append_right _ (List.mem_append_right _ (List.mem_append_right _ (List.mem_of_getElem? (i := 29) rfl)))) rfl
theorem tw_4_30 : Cond.methodLink RL 64 yX6_most ∈ wA := wA_of (w := Cond.methodLink RL 64 yX6_most) (List.mem_append_right _ (List.mem_append_right _ (List.mem_append_right _ (List.mem_of_getElem? (i := 30) rfl)))) rfl
theorem tw_4_31 : Cond.instanceMethod yX6_most ∈ wA := wA_of (w := Cond.instanceMethod yX6_most) (List.mem_append_right _ (List.mem_append_right _ (List.mem_append_right _ (List.mem_of_getElem? (i := 31) rfl)))) rfl
theorem tw_4_32 : Cond.selects RX6 yX6_most yX6_most ∈ wA := wA_of (w := Cond.selects RX6 yX6_most yX6_most) (List.mem_append_right _ (List.mem_append_right _ (List.mem_append_right _ (List.mem_of_getElem? (i := 32) rfl)))) rfl
theorem tw_4_33 : Cond.code yX6_most cX6_most 3 (some .int) ∈ wA := wA_of (w := Cond.code yX6_most cX6_most 3 (some .int)) (List.mem_append_right _ (List.mem_append_right _ (List.mem_append_right _ (List.mem_of_getElem? (i := 33) rfl)))) rfl
theorem tw_4_34 : Cond.methodLink RX6 159 yX6_mostOf ∈ wA := wA_of (w := Cond.methodLink RX6 159 yX6_mostOf) (List.mem_append_right _ (List.mem_append_right _ (List.mem_append_right _ (List.mem_of_getElem? (i := 34) rfl)))) rfl
theorem tw_4_36 : Cond.instanceMethod yX6_mostOf ∈ wA := wA_of (w := Cond.instanceMethod yX6_mostOf) (List.mem_append_right _ (List.mem_append_right _ (List.mem_append_right _ (List.mem_of_getElem? (i := 36) rfl)))) rfl
theorem tw_4_37 : Cond.code yX6_mostOf cX6_mostOf 3 (some .int) ∈ wA := wA_of (w := Cond.code yX6_mostOf cX6_mostOf 3 (some .int)) (List.mem_append_right _ (List.mem_append_right _ (List.mem_append_right _ (List.mem_of_getElem? (i := 37) rfl)))) rfl
theorem tw_4_38 : Cond.methodLink RX6 156 yX6_layMost ∈ wA := wA_of (w := Cond.methodLink RX6 156 yX6_layMost) (List.mem_append_right _ (List.mem_append_right _ (List.mem_append_right _ (List.mem_of_getElem? (i := 38) rfl)))) rfl
theorem tw_4_40 : Cond.instanceMethod yX6_layMost ∈ wA := wA_of (w := Cond.instanceMethod yX6_layMost) (List.mem_append_right _ (List.mem_append_right _ (List.mem_append_right _ (List.mem_of_getElem? (i := 40) rfl)))) rfl
theorem tw_4_41 : Cond.code yX6_layMost cX6_layMost 5 (some .int) ∈ wA := wA_of (w := Cond.code yX6_layMost cX6_layMost 5 (some .int)) (List.mem_append_right _ (List.mem_append_right _ (List.mem_append_right _ (List.mem_of_getElem? (i := 41) rfl)))) rfl
theorem tw_4_42 : Cond.methodLink RX6 149 yX6_saidBy ∈ wA := wA_of (w := Cond.methodLink RX6 149 yX6_saidBy) (List.mem_append_right _ (List.mem_append_right _ (List.mem_append_right _ (List.mem_of_getElem? (i := 42) rfl)))) rfl
theorem tw_4_44 : Cond.instanceMethod yX6_saidBy ∈ wA := wA_of (w := Cond.instanceMethod yX6_saidBy) (List.mem_append_right _ (List.mem_append_right _ (List.mem_append_right _ (List.mem_of_getElem? (i := 44) rfl)))) rfl
theorem tw_4_45 : Cond.code yX6_saidBy cX6_saidBy 8 (some .int) ∈ wA := wA_of (w := Cond.code yX6_saidBy cX6_saidBy 8 (some .int)) (List.mem_append_right _ (List.mem_append_right _ (List.mem_append_right _ (List.mem_of_getElem? (i := 45) rfl)))) rfl
theorem tw_4_46 : Cond.methodLink RX6 152 yX6_copy ∈ wA := wA_of (w := Cond.methodLink RX6 152 yX6_copy) (List.mem_append_right _ (List.mem_append_right _ (List.mem_append_right _ (List.mem_of_getElem? (i := 46) rfl)))) rfl
theorem tw_4_47 : Cond.static yX6_copy ∈ wA := wA_of (w := Cond.static yX6_copy) (List.mem_append_right _ (List.mem_append_right _ (List.mem_append_right _ (List.mem_of_getElem? (i := 47) rfl)))) rfl
theorem tw_4_48 : Cond.code yX6_copy cX6_copy 3 none ∈ wA := wA_of (w := Cond.code yX6_copy cX6_copy 3 none) (List.mem_append_right _ (List.mem_append_right _ (List.mem_append_right _ (List.mem_of_getElem? (i := 48) rfl)))) rfl
theorem tw_4_49 : Cond.methodLink RX6 162 yX6_needsAll ∈ wA := wA_of (w := Cond.methodLink RX6 162 yX6_needsAll) (List.mem_append_right _ (List.mem_append_right _ (List.mem_append_right _ (List.mem_of_getElem? (i := 49) rfl)))) rfl
theorem tw_4_51 : Cond.instanceMethod yX6_needsAll ∈ wA := wA_of (w := Cond.instanceMethod yX6_needsAll) (List.mem_append_right _ (List.mem_append_right _ (List.mem_append_right _ (List.mem_of_getElem? (i := 51) rfl)))) rfl
theorem tw_4_52 : Cond.code yX6_needsAll cX6_needsAll 3 (some .int) ∈ wA := wA_of (w := Cond.code yX6_needsAll cX6_needsAll 3 (some .int)) (List.mem_append_right _ (List.mem_append_right _ (List.mem_append_right _ (List.mem_of_getElem? (i := 52) rfl)))) rfl
theorem tw_4_53 : Cond.methodLink RL 68 yX6_who ∈ wA := wA_of (w := Cond.methodLink RL 68 yX6_who) (List.mem_append_right _ (List.mem_append_right _ (List.mem_append_right _ (List.mem_of_getElem? (i := 53) rfl)))) rfl
theorem tw_4_54 : Cond.instanceMethod yX6_who ∈ wA := wA_of (w := Cond.instanceMethod yX6_who) (List.mem_append_right _ (List.mem_append_right _ (List.mem_append_right _ (List.mem_of_getElem? (i := 54) rfl)))) rfl
theorem tw_4_55 : Cond.selects RX6 yX6_who yX6_who ∈ wA := wA_of (w := Cond.selects RX6 yX6_who yX6_who) (List.mem_append_right _ (List.mem_append_right _ (List.mem_append_right _ (List.mem_of_getElem? (i := 55) rfl)))) rfl
theorem tw_4_56 : Cond.code yX6_who cX6_who 4 (some .int) ∈ wA := wA_of (w := Cond.code yX6_who cX6_who 4 (some .int)) (List.mem_append_right _ (List.mem_append_right _ (List.mem_append_right _ (List.mem_of_getElem? (i := 56) rfl)))) rfl
theorem tw_4_57 : Cond.methodLink RL 73 yX6_trial ∈ wA := wA_of (w := Cond.methodLink RL 73 yX6_trial) (List.mem_append_right _ (List.mem_append_right _ (List.mem_append_right _ (List.mem_of_getElem? (i := 57) rfl)))) rfl
theorem tw_4_58 : Cond.instanceMethod yX6_trial ∈ wA := wA_of (w := Cond.instanceMethod yX6_trial) (List.mem_append_right _ (List.mem_append_right _ (List.mem_append_right _ (List.mem_of_getElem? (i := 58) rfl)))) rfl
theorem tw_4_59 : Cond.selects RX6 yX6_trial yX6_trial ∈ wA := wA_of (w := Cond.selects RX6 yX6_trial yX6_trial) (List.mem_append_right _ (List.mem_append_right _ (List.mem_append_right _ (List.mem_of_getElem? (i := 59) rfl)))) rfl
theorem tw_4_60 : Cond.code yX6_trial cX6_trial 4 (some .int) ∈ wA := wA_of (w := Cond.code yX6_trial cX6_trial 4 (some .int)) (List.mem_append_right _ (List.mem_append_right _ (List.mem_append_right _ (List.mem_of_getElem? (i := 60) rfl)))) rfl
theorem tw_4_61 : Cond.methodLink RL 77 yX6_forget ∈ wA := wA_of (w := Cond.methodLink RL 77 yX6_forget) (List.mem_append_right _ (List.mem_append_right _ (List.mem_append_right _ (List.mem_of_getElem? (i := 61) rfl)))) rfl
theorem tw_4_62 : Cond.instanceMethod yX6_forget ∈ wA := wA_of (w := Cond.instanceMethod yX6_forget) (List.mem_append_right _ (List.mem_append_right _ (List.mem_append_right _ (List.mem_of_getElem? (i := 62) rfl)))) rfl
theorem tw_4_63 : Cond.selects RX6 yX6_forget yX6_forget ∈ wA := wA_of (w := Cond.selects RX6 yX6_forget yX6_forget) (List.mem_append_right _ (List.mem_append_right _ (List.mem_append_right _ (List.mem_of_getElem? (i := 63) rfl)))) rfl
theorem tw_4_64 : Cond.code yX6_forget cX6_forget 2 (some .int) ∈ wA := wA_of (w := Cond.code yX6_forget cX6_forget 2 (some .int)) (List.mem_append_right _ (List.mem_append_right _ (List.mem_append_right _ (List.mem_of_getElem? (i := 64) rfl)))) rfl
theorem tw_4_65 : Cond.methodLink RL 81 yX6_truths ∈ wA := wA_of (w := Cond.methodLink RL 81 yX6_truths) (List.mem_append_right _ (List.mem_append_right _ (List.mem_append_right _ (List.mem_of_getElem? (i := 65) rfl)))) rfl
theorem tw_4_66 : Cond.instanceMethod yX6_truths ∈ wA := wA_of (w := Cond.instanceMethod yX6_truths) (List.mem_append_right _ (List.mem_append_right _ (List.mem_append_right _ (List.mem_of_getElem? (i := 66) rfl)))) rfl
theorem tw_4_67 : Cond.selects RX6 yX6_truths yX6_truths ∈ wA := wA_of (w := Cond.selects RX6 yX6_truths yX6_truths) (List.mem_append_right _ (List.mem_append_right _ (List.mem_append_right _ (List.mem_of_getElem? (i := 67) rfl)))) rfl
theorem tw_4_68 : Cond.code yX6_truths cX6_truths 3 (some .int) ∈ wA := wA_of (w := Cond.code yX6_truths cX6_truths 3 (some .int)) (List.mem_append_right _ (List.mem_append_right _ (List.mem_append_right _ (List.mem_of_getElem? (i := 68) rfl)))) rfl
theorem tw_4_69 : Cond.methodLink RX6 168 yX6_truthsOf ∈ wA := wA_of (w := Cond.methodLink RX6 168 yX6_truthsOf) (List.mem_append_right _ (List.mem_append_right _ (List.mem_append_right _ (List.mem_of_getElem? (i := 69) rfl)))) rfl
theorem tw_4_71 : Cond.instanceMethod yX6_truthsOf ∈ wA := wA_of (w := Cond.instanceMethod yX6_truthsOf) (List.mem_append_right _ (List.mem_append_right _ (List.mem_append_right _ (List.mem_of_getElem? (i := 71) rfl)))) rfl
theorem tw_4_72 : Cond.code yX6_truthsOf cX6_truthsOf 7 (some .int) ∈ wA := wA_of (w := Cond.code yX6_truthsOf cX6_truthsOf 7 (some .int)) (List.mem_append_right _ (List.mem_append_right _ (List.mem_append_right _ (List.mem_of_getElem? (i := 72) rfl)))) rfl
theorem tw_4_73 : Cond.methodLink RX6 165 yX6_isTried ∈ wA := wA_of (w := Cond.methodLink RX6 165 yX6_isTried) (List.mem_append_right _ (List.mem_append_right _ (List.mem_append_right _ (List.mem_of_getElem? (i := 73) rfl)))) rfl
theorem tw_4_75 : Cond.instanceMethod yX6_isTried ∈ wA := wA_of (w := Cond.instanceMethod yX6_isTried) (List.mem_append_right _ (List.mem_append_right _ (List.mem_append_right _ (List.mem_of_getElem? (i := 75) rfl)))) rfl
theorem tw_4_76 : Cond.code yX6_isTried cX6_isTried 5 (some .boolean) ∈ wA := wA_of (w := Cond.code yX6_isTried cX6_isTried 5 (some .boolean)) (List.mem_append_right _ (List.mem_append_right _ (List.mem_append_right _ (List.mem_of_getElem? (i := 76) rfl)))) rfl
theorem tw_4_77 : Cond.methodLink RL 85 yX6_attempt ∈ wA := wA_of (w := Cond.methodLink RL 85 yX6_attempt) (List.mem_append_right _ (List.mem_append_right _ (List.mem_append_right _ (List.mem_of_getElem? (i := 77) rfl)))) rfl
theorem tw_4_78 : Cond.instanceMethod yX6_attempt ∈ wA := wA_of (w := Cond.instanceMethod yX6_attempt) (List.mem_append_right _ (List.mem_append_right _ (List.mem_append_right _ (List.mem_of_getElem? (i := 78) rfl)))) rfl
theorem tw_4_79 : Cond.selects RX6 yX6_attempt yX6_attempt ∈ wA := wA_of (w := Cond.selects RX6 yX6_attempt yX6_attempt) (List.mem_append_right _ (List.mem_append_right _ (List.mem_append_right _ (List.mem_of_getElem? (i := 79) rfl)))) rfl
theorem tw_4_80 : Cond.code yX6_attempt cX6_attempt 2 (some .int) ∈ wA := wA_of (w := Cond.code yX6_attempt cX6_attempt 2 (some .int)) (List.mem_append_right _ (List.mem_append_right _ (List.mem_append_right _ (List.mem_of_getElem? (i := 80) rfl)))) rfl
theorem tw_4_81 : Cond.methodLink RX6 171 yX6_attemptOf ∈ wA := wA_of (w := Cond.methodLink RX6 171 yX6_attemptOf) (List.mem_append_right _ (List.mem_append_right _ (List.mem_append_right _ (List.mem_of_getElem? (i := 81) rfl)))) rfl
theorem tw_4_83 : Cond.instanceMethod yX6_attemptOf ∈ wA := wA_of (w := Cond.instanceMethod yX6_attemptOf) (List.mem_append_right _ (List.mem_append_right _ (List.mem_append_right _ (List.mem_of_getElem? (i := 83) rfl)))) rfl
theorem tw_4_84 : Cond.code yX6_attemptOf cX6_attemptOf 9 (some .int) ∈ wA := wA_of (w := Cond.code yX6_attemptOf cX6_attemptOf 9 (some .int)) (List.mem_append_right _ (List.mem_append_right _ (List.mem_append_right _ (List.mem_of_getElem? (i := 84) rfl)))) rfl
theorem tw_4_85 : Cond.methodLink RL 90 yX6_weeks ∈ wA := wA_of (w := Cond.methodLink RL 90 yX6_weeks) (List.mem_append_right _ (List.mem_append_right _ (List.mem_append_right _ (List.mem_of_getElem? (i := 85) rfl)))) rfl
theorem tw_4_86 : Cond.instanceMethod yX6_weeks ∈ wA := wA_of (w := Cond.instanceMethod yX6_weeks) (List.mem_append_right _ (List.mem_append_right _ (List.mem_append_right _ (List.mem_of_getElem? (i := 86) rfl)))) rfl
theorem tw_4_87 : Cond.selects RX6 yX6_weeks yX6_weeks ∈ wA := wA_of (w := Cond.selects RX6 yX6_weeks yX6_weeks) (List.mem_append_right _ (List.mem_append_right _ (List.mem_append_right _ (List.mem_of_getElem? (i := 87) rfl)))) rfl
theorem tw_4_88 : Cond.code yX6_weeks cX6_weeks 8 (some .int) ∈ wA := wA_of (w := Cond.code yX6_weeks cX6_weeks 8 (some .int)) (List.mem_append_right _ (List.mem_append_right _ (List.mem_append_right _ (List.mem_of_getElem? (i := 88) rfl)))) rfl
theorem tw_4_89 : Cond.constantLong RX6 187 (40 : Int64) ∈ wA := wA_of (w := Cond.constantLong RX6 187 (40 : Int64)) (List.mem_append_right _ (List.mem_append_right _ (List.mem_append_right _ (List.mem_of_getElem? (i := 89) rfl)))) rfl
theorem tw_4_90 : Cond.methodLink RX6 189 yX6_dayOf ∈ wA := wA_of (w := Cond.methodLink RX6 189 yX6_dayOf) (List.mem_append_right _ (List.mem_append_right _ (List.mem_append_right _ (List.mem_of_getElem? (i := 90) rfl)))) rfl
theorem tw_4_92 : Cond.instanceMethod yX6_dayOf ∈ wA := wA_of (w := Cond.instanceMethod yX6_dayOf) (List.mem_append_right _ (List.mem_append_right _ (List.mem_append_right _ (List.mem_of_getElem? (i := 92) rfl)))) rfl
theorem tw_4_93 : Cond.code yX6_dayOf cX6_dayOf 4 (some .int) ∈ wA := wA_of (w := Cond.code yX6_dayOf cX6_dayOf 4 (some .int)) (List.mem_append_right _ (List.mem_append_right _ (List.mem_append_right _ (List.mem_of_getElem? (i := 93) rfl)))) rfl
theorem tw_4_94 : Cond.methodLink RX6 184 yX6_draw ∈ wA := wA_of (w := Cond.methodLink RX6 184 yX6_draw) (List.mem_append_right _ (List.mem_append_right _ (List.mem_append_right _ (List.mem_of_getElem? (i := 94) rfl)))) rfl
theorem tw_4_96 : Cond.instanceMethod yX6_draw ∈ wA := wA_of (w := Cond.instanceMethod yX6_draw) (List.mem_append_right _ (List.mem_append_right _ (List.mem_append_right _ (List.mem_of_getElem? (i := 96) rfl)))) rfl
theorem tw_4_97 : Cond.code yX6_draw cX6_draw 2 (some .int) ∈ wA := wA_of (w := Cond.code yX6_draw cX6_draw 2 (some .int)) (List.mem_append_right _ (List.mem_append_right _ (List.mem_append_right _ (List.mem_of_getElem? (i := 97) rfl)))) rfl
theorem tw_4_98 : Cond.constantLong RX6 174 (1103515245 : Int64) ∈ wA := wA_of (w := Cond.constantLong RX6 174 (1103515245 : Int64)) (List.mem_append_right _ (List.mem_append_right _ (List.mem_append_right _ (List.mem_of_getElem? (i := 98) rfl)))) rfl
theorem tw_4_99 : Cond.constantLong RX6 179 (12345 : Int64) ∈ wA := wA_of (w := Cond.constantLong RX6 179 (12345 : Int64)) (List.mem_append_right _ (List.mem_append_right _ (List.mem_append_right _ (List.mem_of_getElem? (i := 99) rfl)))) rfl
theorem tw_4_100 : Cond.constantLong RX6 181 (2147483647 : Int64) ∈ wA := wA_of (w := Cond.constantLong RX6 181 (2147483647 : Int64)) (List.mem_append_right _ (List.mem_append_right _ (List.mem_append_right _ (List.mem_of_getElem? (i := 100) rfl)))) rfl
theorem tw_4_101 : Cond.constant RX6 183 (65536 : Int32) ∈ wA := wA_of (w := Cond.constant RX6 183 (65536 : Int32)) (List.mem_append_right _ (List.mem_append_right _ (List.mem_append_right _ (List.mem_of_getElem? (i := 101) rfl)))) rfl
theorem tw_4_102 : Cond.methodLink RX6 192 yX6_paidMany ∈ wA := wA_of (w := Cond.methodLink RX6 192 yX6_paidMany) (List.mem_append_right _ (List.mem_append_right _ (List.mem_append_right _ (List.mem_of_getElem? (i := 102) rfl)))) rfl
theorem tw_4_104 : Cond.instanceMethod yX6_paidMany ∈ wA := wA_of (w := Cond.instanceMethod yX6_paidMany) (List.mem_append_right _ (List.mem_append_right _ (List.mem_append_right _ (List.mem_of_getElem? (i := 104) rfl)))) rfl
theorem tw_4_105 : Cond.code yX6_paidMany cX6_paidMany 3 (some .int) ∈ wA := wA_of (w := Cond.code yX6_paidMany cX6_paidMany 3 (some .int)) (List.mem_append_right _ (List.mem_append_right _ (List.mem_append_right _ (List.mem_of_getElem? (i := 105) rfl)))) rfl
theorem tw_4_106 : Cond.methodLink RL 94 yX6_image ∈ wA := wA_of (w := Cond.methodLink RL 94 yX6_image) (List.mem_append_right _ (List.mem_append_right _ (List.mem_append_right _ (List.mem_of_getElem? (i := 106) rfl)))) rfl
theorem tw_4_107 : Cond.instanceMethod yX6_image ∈ wA := wA_of (w := Cond.instanceMethod yX6_image) (List.mem_append_right _ (List.mem_append_right _ (List.mem_append_right _ (List.mem_of_getElem? (i := 107) rfl)))) rfl
theorem tw_4_108 : Cond.selects RX6 yX6_image yX6_image ∈ wA := wA_of (w := Cond.selects RX6 yX6_image yX6_image) (List.mem_append_right _ (List.mem_append_right _ (List.mem_append_right _ (List.mem_of_getElem? (i := 108) rfl)))) rfl
theorem tw_4_109 : Cond.code yX6_image cX6_image 1 (some .int) ∈ wA := wA_of (w := Cond.code yX6_image cX6_image 1 (some .int)) (List.mem_append_right _ (List.mem_append_right _ (List.mem_append_right _ (List.mem_of_getElem? (i := 109) rfl)))) rfl
theorem tw_4_110 : Cond.methodLink RL 98 yX6_restore ∈ wA := wA_of (w := Cond.methodLink RL 98 yX6_restore) (List.mem_append_right _ (List.mem_append_right _ (List.mem_append_right _ (List.mem_of_getElem? (i := 110) rfl)))) rfl
theorem tw_4_111 : Cond.instanceMethod yX6_restore ∈ wA := wA_of (w := Cond.instanceMethod yX6_restore) (List.mem_append_right _ (List.mem_append_right _ (List.mem_append_right _ (List.mem_of_getElem? (i := 111) rfl)))) rfl
theorem tw_4_112 : Cond.selects RX6 yX6_restore yX6_restore ∈ wA := wA_of (w := Cond.selects RX6 yX6_restore yX6_restore) (List.mem_append_right _ (List.mem_append_right _ (List.mem_append_right _ (List.mem_of_getElem? (i := 112) rfl)))) rfl
theorem tw_4_113 : Cond.code yX6_restore cX6_restore 1 (some .int) ∈ wA := wA_of (w := Cond.code yX6_restore cX6_restore 1 (some .int)) (List.mem_append_right _ (List.mem_append_right _ (List.mem_append_right _ (List.mem_of_getElem? (i := 113) rfl)))) rfl
theorem tw_4_114 : Cond.methodLink RL 102 yX6_count ∈ wA := wA_of (w := Cond.methodLink RL 102 yX6_count) (List.mem_append_right _ (List.mem_append_right _ (List.mem_append_right _ (List.mem_of_getElem? (i := 114) rfl)))) rfl
theorem tw_4_115 : Cond.instanceMethod yX6_count ∈ wA := wA_of (w := Cond.instanceMethod yX6_count) (List.mem_append_right _ (List.mem_append_right _ (List.mem_append_right _ (List.mem_of_getElem? (i := 115) rfl)))) rfl
theorem tw_4_116 : Cond.selects RX6 yX6_count yX6_count ∈ wA := wA_of (w := Cond.selects RX6 yX6_count yX6_count) (List.mem_append_right _ (List.mem_append_right _ (List.mem_append_right _ (List.mem_of_getElem? (i := 116) rfl)))) rfl
theorem tw_4_117 : Cond.code yX6_count cX6_count 2 (some .int) ∈ wA := wA_of (w := Cond.code yX6_count cX6_count 2 (some .int)) (List.mem_append_right _ (List.mem_append_right _ (List.mem_append_right _ (List.mem_of_getElem? (i := 117) rfl)))) rfl
theorem tw_4_118 : Cond.methodLink RX6 210 yX6_countOf ∈ wA := wA_of (w := Cond.methodLink RX6 210 yX6_countOf) (List.mem_append_right _ (List.mem_append_right _ (List.mem_append_right _ (List.mem_of_getElem? (i := 118) rfl)))) rfl
theorem tw_4_120 : Cond.instanceMethod yX6_countOf ∈ wA := wA_of (w := Cond.instanceMethod yX6_countOf) (List.mem_append_right _ (List.mem_append_right _ (List.mem_append_right _ (List.mem_of_getElem? (i := 120) rfl)))) rfl
theorem tw_4_121 : Cond.code yX6_countOf cX6_countOf 2 (some .int) ∈ wA := wA_of (w := Cond.code yX6_countOf cX6_countOf 2 (some .int)) (List.mem_append_right _ (List.mem_append_right _ (List.mem_append_right _ (List.mem_of_getElem? (i := 121) rfl)))) rfl
theorem tw_4_122 : Cond.methodLink RX6 207 yX6_finesAll ∈ wA := wA_of (w := Cond.methodLink RX6 207 yX6_finesAll) (List.mem_append_right _ (List.mem_append_right _ (List.mem_append_right _ (List.mem_of_getElem? (i := 122) rfl)))) rfl
theorem tw_4_124 : Cond.instanceMethod yX6_finesAll ∈ wA := wA_of (w := Cond.instanceMethod yX6_finesAll) (List.mem_append_right _ (List.mem_append_right _ (List.mem_append_right _ (List.mem_of_getElem? (i := 124) rfl)))) rfl
theorem tw_4_125 : Cond.code yX6_finesAll cX6_finesAll 3 (some .int) ∈ wA := wA_of (w := Cond.code yX6_finesAll cX6_finesAll 3 (some .int)) (List.mem_append_right _ (List.mem_append_right _ (List.mem_append_right _ (List.mem_of_getElem? (i := 125) rfl)))) rfl
theorem tw_4_126 : Cond.methodLink RL 107 yX6_digest ∈ wA := wA_of (w := Cond.methodLink RL 107 yX6_digest) (List.mem_append_right _ (List.mem_append_right _ (List.mem_append_right _ (List.mem_of_getElem? (i := 126) rfl)))) rfl
theorem tw_4_127 : Cond.instanceMethod yX6_digest ∈ wA := wA_of (w := Cond.instanceMethod yX6_digest) (List.mem_append_right _ (List.mem_append_right _ (List.mem_append_right _ (List.mem_of_getElem? (i := 127) rfl)))) rfl
theorem tw_4_128 : Cond.selects RX6 yX6_digest yX6_digest ∈ wA := wA_of (w := Cond.selects RX6 yX6_digest yX6_digest) (List.mem_append_right _ (List.mem_append_right _ (List.mem_append_right _ (List.mem_of_getElem? (i := 128) rfl)))) rfl
theorem tw_4_129 : Cond.code yX6_digest cX6_digest 4 (some .long) ∈ wA := wA_of (w := Cond.code yX6_digest cX6_digest 4 (some .long)) (List.mem_append_right _ (List.mem_append_right _ (List.mem_append_right _ (List.mem_of_getElem? (i := 129) rfl)))) rfl
theorem tw_4_130 : Cond.constantLong RX6 223 (883 : Int64) ∈ wA := wA_of (w := Cond.constantLong RX6 223 (883 : Int64)) (List.mem_append_right _ (List.mem_append_right _ (List.mem_append_right _ (List.mem_of_getElem? (i := 130) rfl)))) rfl
theorem tw_4_131 : Cond.methodLink RX6 225 yX6_noteVictim ∈ wA := wA_of (w := Cond.methodLink RX6 225 yX6_noteVictim) (List.mem_append_right _ (List.mem_append_right _ (List.mem_append_right _ (List.mem_of_getElem? (i := 131) rfl)))) rfl
theorem tw_4_133 : Cond.instanceMethod yX6_noteVictim ∈ wA := wA_of (w := Cond.instanceMethod yX6_noteVictim) (List.mem_append_right _ (List.mem_append_right _ (List.mem_append_right _ (List.mem_of_getElem? (i := 133) rfl)))) rfl
theorem tw_4_134 : Cond.code yX6_noteVictim cX6_noteVictim 4 (some .int) ∈ wA := wA_of (w := Cond.code yX6_noteVictim cX6_noteVictim 4 (some .int)) (List.mem_append_right _ (List.mem_append_right _ (List.mem_append_right _ (List.mem_of_getElem? (i := 134) rfl)))) rfl
theorem tw_4_135 : Cond.methodLink RX6 219 yX6_note ∈ wA := wA_of (w := Cond.methodLink RX6 219 yX6_note) (List.mem_append_right _ (List.mem_append_right _ (List.mem_append_right _ (List.mem_of_getElem? (i := 135) rfl)))) rfl
theorem tw_4_137 : Cond.instanceMethod yX6_note ∈ wA := wA_of (w := Cond.instanceMethod yX6_note) (List.mem_append_right _ (List.mem_append_right _ (List.mem_append_right _ (List.mem_of_getElem? (i := 137) rfl)))) rfl
theorem tw_4_138 : Cond.code yX6_note cX6_note 3 none ∈ wA := wA_of (w := Cond.code yX6_note cX6_note 3 none) (List.mem_append_right _ (List.mem_append_right _ (List.mem_append_right _ (List.mem_of_getElem? (i := 138) rfl)))) rfl
theorem tw_4_139 : Cond.constantLong RX6 213 (31 : Int64) ∈ wA := wA_of (w := Cond.constantLong RX6 213 (31 : Int64)) (List.mem_append_right _ (List.mem_append_right _ (List.mem_append_right _ (List.mem_of_getElem? (i := 139) rfl)))) rfl
theorem tw_4_140 : Cond.fieldLink RJ0 9 "java/lang/String" "value" "[B" ∈ wA := wA_of (w := Cond.fieldLink RJ0 9 "java/lang/String" "value" "[B") (List.mem_append_right _ (List.mem_append_right _ (List.mem_append_right _ (List.mem_of_getElem? (i := 140) rfl)))) rfl
theorem tw_4_141 : Cond.fieldLink RJ0 15 "java/lang/String" "coder" "B" ∈ wA := wA_of (w := Cond.fieldLink RJ0 15 "java/lang/String" "coder" "B") (List.mem_append_right _ (List.mem_append_right _ (List.mem_append_right _ (List.mem_of_getElem? (i := 141) rfl)))) rfl
theorem tw_p0 : Cond.selects RX5 yX5_digitAt yX5_digitAt ∈ wA := wA_sel (q := (yX5_digitAt, _)) (List.mem_append_left _ (List.mem_of_getElem? (i := 0) rfl))
theorem tw_p1 : Cond.selects RX5 yX5_isVictim yX5_isVictim ∈ wA := wA_sel (q := (yX5_isVictim, _)) (List.mem_append_left _ (List.mem_of_getElem? (i := 1) rfl))
theorem tw_p2 : Cond.selects RX5 yX5_isConvict yX5_isConvict ∈ wA := wA_sel (q := (yX5_isConvict, _)) (List.mem_append_left _ (List.mem_of_getElem? (i := 2) rfl))
theorem tw_p3 : Cond.selects RX1 yX1_take yX1_take ∈ wA := wA_sel (q := (yX1_take, _)) (List.mem_append_left _ (List.mem_of_getElem? (i := 3) rfl))
theorem tw_p4 : Cond.selects RX1 yX1_mostAmong yX1_mostAmong ∈ wA := wA_sel (q := (yX1_mostAmong, _)) (List.mem_append_left _ (List.mem_of_getElem? (i := 4) rfl))
theorem tw_p5 : Cond.selects RX1 yX1_firstSayer yX1_firstSayer ∈ wA := wA_sel (q := (yX1_firstSayer, _)) (List.mem_append_left _ (List.mem_of_getElem? (i := 5) rfl))
theorem tw_p6 : Cond.selects RX4 yX4_talk yX4_talk ∈ wA := wA_sel (q := (yX4_talk, _)) (List.mem_append_left _ (List.mem_of_getElem? (i := 6) rfl))
theorem tw_p7 : Cond.selects RX4 yX4_draw yX4_draw ∈ wA := wA_sel (q := (yX4_draw, _)) (List.mem_append_left _ (List.mem_of_getElem? (i := 7) rfl))
theorem tw_p8 : Cond.selects RX5 yX5_withVictim yX5_withVictim ∈ wA := wA_sel (q := (yX5_withVictim, _)) (List.mem_append_left _ (List.mem_of_getElem? (i := 8) rfl))
theorem tw_p9 : Cond.selects RX6 yX6_faultOf yX6_faultOf ∈ wA := wA_sel (q := (yX6_faultOf, _)) (List.mem_append_left _ (List.mem_of_getElem? (i := 9) rfl))
theorem tw_p10 : Cond.selects RX6 yX6_trueAll yX6_trueAll ∈ wA := wA_sel (q := (yX6_trueAll, _)) (List.mem_append_left _ (List.mem_of_getElem? (i := 10) rfl))
theorem tw_p11 : Cond.selects RX6 yX6_isVictim yX6_isVictim ∈ wA := wA_sel (q := (yX6_isVictim, _)) (List.mem_append_left _ (List.mem_of_getElem? (i := 11) rfl))
theorem tw_p12 : Cond.selects RX6 yX6_tellVictim yX6_tellVictim ∈ wA := wA_sel (q := (yX6_tellVictim, _)) (List.mem_append_left _ (List.mem_of_getElem? (i := 12) rfl))
theorem tw_p13 : Cond.selects RX6 yX6_isConvict yX6_isConvict ∈ wA := wA_sel (q := (yX6_isConvict, _)) (List.mem_append_left _ (List.mem_of_getElem? (i := 13) rfl))
theorem tw_p14 : Cond.selects RX6 yX6_tell yX6_tell ∈ wA := wA_sel (q := (yX6_tell, _)) (List.mem_append_left _ (List.mem_of_getElem? (i := 14) rfl))
theorem tw_p15 : Cond.selects RX6 yX6_leftOf yX6_leftOf ∈ wA := wA_sel (q := (yX6_leftOf, _)) (List.mem_append_left _ (List.mem_of_getElem? (i := 15) rfl))
theorem tw_p16 : Cond.selects RX6 yX6_daysOf yX6_daysOf ∈ wA := wA_sel (q := (yX6_daysOf, _)) (List.mem_append_right _ (List.mem_append_left _ (List.mem_of_getElem? (i := 0) rfl)))
theorem tw_p17 : Cond.selects RX6 yX6_needsOf yX6_needsOf ∈ wA := wA_sel (q := (yX6_needsOf, _)) (List.mem_append_right _ (List.mem_append_left _ (List.mem_of_getElem? (i := 1) rfl)))
theorem tw_p18 : Cond.selects RX6 yX6_findOf yX6_findOf ∈ wA := wA_sel (q := (yX6_findOf, _)) (List.mem_append_right _ (List.mem_append_left _ (List.mem_of_getElem? (i := 2) rfl)))
theorem tw_p19 : Cond.selects RX6 yX6_knows yX6_knows ∈ wA := wA_sel (q := (yX6_knows, _)) (List.mem_append_right _ (List.mem_append_left _ (List.mem_of_getElem? (i := 3) rfl)))
theorem tw_p20 : Cond.selects RX6 yX6_says yX6_says ∈ wA := wA_sel (q := (yX6_says, _)) (List.mem_append_right _ (List.mem_append_left _ (List.mem_of_getElem? (i := 4) rfl)))
theorem tw_p21 : Cond.selects RX6 yX6_sleep yX6_sleep ∈ wA := wA_sel (q := (yX6_sleep, _)) (List.mem_append_right _ (List.mem_append_left _ (List.mem_of_getElem? (i := 5) rfl)))
theorem tw_p22 : Cond.selects RX6 yX6_mostOf yX6_mostOf ∈ wA := wA_sel (q := (yX6_mostOf, _)) (List.mem_append_right _ (List.mem_append_left _ (List.mem_of_getElem? (i := 6) rfl)))
theorem tw_p23 : Cond.selects RX6 yX6_layMost yX6_layMost ∈ wA := wA_sel (q := (yX6_layMost, _)) (List.mem_append_right _ (List.mem_append_left _ (List.mem_of_getElem? (i := 7) rfl)))
theorem tw_p24 : Cond.selects RX6 yX6_saidBy yX6_saidBy ∈ wA := wA_sel (q := (yX6_saidBy, _)) (List.mem_append_right _ (List.mem_append_left _ (List.mem_of_getElem? (i := 8) rfl)))
theorem tw_p25 : Cond.selects RX6 yX6_needsAll yX6_needsAll ∈ wA := wA_sel (q := (yX6_needsAll, _)) (List.mem_append_right _ (List.mem_append_left _ (List.mem_of_getElem? (i := 9) rfl)))
theorem tw_p26 : Cond.selects RX6 yX6_truthsOf yX6_truthsOf ∈ wA := wA_sel (q := (yX6_truthsOf, _)) (List.mem_append_right _ (List.mem_append_left _ (List.mem_of_getElem? (i := 10) rfl)))
theorem tw_p27 : Cond.selects RX6 yX6_isTried yX6_isTried ∈ wA := wA_sel (q := (yX6_isTried, _)) (List.mem_append_right _ (List.mem_append_left _ (List.mem_of_getElem? (i := 11) rfl)))
theorem tw_p28 : Cond.selects RX6 yX6_attemptOf yX6_attemptOf ∈ wA := wA_sel (q := (yX6_attemptOf, _)) (List.mem_append_right _ (List.mem_append_left _ (List.mem_of_getElem? (i := 12) rfl)))
theorem tw_p29 : Cond.selects RX6 yX6_dayOf yX6_dayOf ∈ wA := wA_sel (q := (yX6_dayOf, _)) (List.mem_append_right _ (List.mem_append_left _ (List.mem_of_getElem? (i := 13) rfl)))
theorem tw_p30 : Cond.selects RX6 yX6_draw yX6_draw ∈ wA := wA_sel (q := (yX6_draw, _)) (List.mem_append_right _ (List.mem_append_left _ (List.mem_of_getElem? (i := 14) rfl)))
theorem tw_p31 : Cond.selects RX6 yX6_paidMany yX6_paidMany ∈ wA := wA_sel (q := (yX6_paidMany, _)) (List.mem_append_right _ (List.mem_append_left _ (List.mem_of_getElem? (i := 15) rfl)))
theorem tw_p32 : Cond.selects RX6 yX6_countOf yX6_countOf ∈ wA := wA_sel (q := (yX6_countOf, _)) (List.mem_append_right _ (List.mem_append_right _ (List.mem_of_getElem? (i := 0) rfl)))
theorem tw_p33 : Cond.selects RX6 yX6_finesAll yX6_finesAll ∈ wA := wA_sel (q := (yX6_finesAll, _)) (List.mem_append_right _ (List.mem_append_right _ (List.mem_of_getElem? (i := 1) rfl)))
theorem tw_p34 : Cond.selects RX6 yX6_noteVictim yX6_noteVictim ∈ wA := wA_sel (q := (yX6_noteVictim, _)) (List.mem_append_right _ (List.mem_append_right _ (List.mem_of_getElem? (i := 2) rfl)))
theorem tw_p35 : Cond.selects RX6 yX6_note yX6_note ∈ wA := wA_sel (q := (yX6_note, _)) (List.mem_append_right _ (List.mem_append_right _ (List.mem_of_getElem? (i := 3) rfl)))
theorem inAX0 : ∀ k, k < 6 → u_lay RX0 TX0 k ∈ wA := fun k hk => match k, hk with
  | 0, _ => tw_1_80
  | 1, _ => tw_1_82
  | 2, _ => tw_1_84
  | 3, _ => tw_1_86
  | 4, _ => tw_1_88
  | 5, _ => tw_1_90
  | k + 6, h => absurd h (by omega)
theorem inWX0 {y : MethodName} {cc : ByteArray} {nL : Nat} {ret : Option FieldType} : ∀ w ∈ u_ws RX0 TX0 6, w ∈ wY y cc nL ret := fun w hw => by
  obtain ⟨k, hk, rfl⟩ := List.mem_map.mp hw
  exact List.mem_cons_of_mem _ (inAX0 k (List.mem_range.mp hk))
theorem inAX1 : ∀ k, k < 3 → u_lay RX1 TX1 k ∈ wA := fun k hk => match k, hk with
  | 0, _ => tw_1_152
  | 1, _ => tw_1_154
  | 2, _ => tw_1_156
  | k + 3, h => absurd h (by omega)
theorem inWX1 {y : MethodName} {cc : ByteArray} {nL : Nat} {ret : Option FieldType} : ∀ w ∈ u_ws RX1 TX1 3, w ∈ wY y cc nL ret := fun w hw => by
  obtain ⟨k, hk, rfl⟩ := List.mem_map.mp hw
  exact List.mem_cons_of_mem _ (inAX1 k (List.mem_range.mp hk))
theorem inAX2 : ∀ k, k < 6 → u_lay RX2 TX2 k ∈ wA := fun k hk => match k, hk with
  | 0, _ => tw_1_109
  | 1, _ => tw_1_111
  | 2, _ => tw_1_113
  | 3, _ => tw_1_115
  | 4, _ => tw_1_117
  | 5, _ => tw_1_119
  | k + 6, h => absurd h (by omega)
theorem inWX2 {y : MethodName} {cc : ByteArray} {nL : Nat} {ret : Option FieldType} : ∀ w ∈ u_ws RX2 TX2 6, w ∈ wY y cc nL ret := fun w hw => by
  obtain ⟨k, hk, rfl⟩ := List.mem_map.mp hw
  exact List.mem_cons_of_mem _ (inAX2 k (List.mem_range.mp hk))
theorem inAX3 : ∀ k, k < 4 → u_lay RX3 TX3 k ∈ wA := fun k hk => match k, hk with
  | 0, _ => tw_1_46
  | 1, _ => tw_1_48
  | 2, _ => tw_1_50
  | 3, _ => tw_1_52
  | k + 4, h => absurd h (by omega)
theorem inWX3 {y : MethodName} {cc : ByteArray} {nL : Nat} {ret : Option FieldType} : ∀ w ∈ u_ws RX3 TX3 4, w ∈ wY y cc nL ret := fun w hw => by
  obtain ⟨k, hk, rfl⟩ := List.mem_map.mp hw
  exact List.mem_cons_of_mem _ (inAX3 k (List.mem_range.mp hk))
theorem inAX4 : ∀ k, k < 3 → u_lay RX4 TX4 k ∈ wA := fun k hk => match k, hk with
  | 0, _ => tw_1_136
  | 1, _ => tw_1_138
  | 2, _ => tw_1_140
  | k + 3, h => absurd h (by omega)
theorem inWX4 {y : MethodName} {cc : ByteArray} {nL : Nat} {ret : Option FieldType} : ∀ w ∈ u_ws RX4 TX4 3, w ∈ wY y cc nL ret := fun w hw => by
  obtain ⟨k, hk, rfl⟩ := List.mem_map.mp hw
  exact List.mem_cons_of_mem _ (inAX4 k (List.mem_range.mp hk))
theorem inAX5 : ∀ k, k < 9 → u_lay RX5 TX5 k ∈ wA := fun k hk => match k, hk with
  | 0, _ => tw_1_169
  | 1, _ => tw_1_171
  | 2, _ => tw_1_173
  | 3, _ => tw_1_175
  | 4, _ => tw_1_177
  | 5, _ => tw_1_179
  | 6, _ => tw_1_181
  | 7, _ => tw_1_183
  | 8, _ => tw_1_185
  | k + 9, h => absurd h (by omega)
theorem inWX5 {y : MethodName} {cc : ByteArray} {nL : Nat} {ret : Option FieldType} : ∀ w ∈ u_ws RX5 TX5 9, w ∈ wY y cc nL ret := fun w hw => by
  obtain ⟨k, hk, rfl⟩ := List.mem_map.mp hw
  exact List.mem_cons_of_mem _ (inAX5 k (List.mem_range.mp hk))
theorem inAX6 : ∀ k, k < 27 → u_lay RX6 TX6 k ∈ wA := fun k hk => match k, hk with
  | 0, _ => tw_3_97
  | 1, _ => tw_3_99
  | 2, _ => tw_3_101
  | 3, _ => tw_3_103
  | 4, _ => tw_3_105
  | 5, _ => tw_3_107
  | 6, _ => tw_3_109
  | 7, _ => tw_3_111
  | 8, _ => tw_3_113
  | 9, _ => tw_3_115
  | 10, _ => tw_3_117
  | 11, _ => tw_3_119
  | 12, _ => tw_3_121
  | 13, _ => tw_3_123
  | 14, _ => tw_3_125
  | 15, _ => tw_3_127
  | 16, _ => tw_3_129
  | 17, _ => tw_3_131
  | 18, _ => tw_3_133
  | 19, _ => tw_3_135
  | 20, _ => tw_3_137
  | 21, _ => tw_3_139
  | 22, _ => tw_3_141
  | 23, _ => tw_3_143
  | 24, _ => tw_3_145
  | 25, _ => tw_3_147
  | 26, _ => tw_3_149
  | k + 27, h => absurd h (by omega)
theorem inWX6 {y : MethodName} {cc : ByteArray} {nL : Nat} {ret : Option FieldType} : ∀ w ∈ u_ws RX6 TX6 27, w ∈ wY y cc nL ret := fun w hw => by
  obtain ⟨k, hk, rfl⟩ := List.mem_map.mp hw
  exact List.mem_cons_of_mem _ (inAX6 k (List.mem_range.mp hk))
