theorem es_mc_0 : (tables_1_3)[7]? = some (.code ⟨"EveryStreet", "sign", "(I)I"⟩ prog_1_method_6_code 2 (Option.some Jvm.ClassFile.FieldType.int)) := rfl
theorem es_mc_1 : (tables_1_3)[15]? = some (.code ⟨"EveryStreet", "end", "(I)Z"⟩ prog_1_method_7_code 2 (Option.some Jvm.ClassFile.FieldType.boolean)) := rfl
theorem es_mc_2 : (tables_1_3)[23]? = some (.code ⟨"EveryStreet", "town", "()I"⟩ prog_1_method_8_code 3 (Option.some Jvm.ClassFile.FieldType.int)) := rfl
theorem es_mc_3 : (tables_1_3)[53]? = some (.code ⟨"EveryStreet", "isCorner", "(I)Z"⟩ prog_1_method_2_code 1 (Option.some Jvm.ClassFile.FieldType.boolean)) := rfl
theorem es_mc_4 : (tables_1_3)[106]? = some (.code ⟨"EveryStreet", "back", "(I)I"⟩ prog_1_method_9_code 3 (Option.some Jvm.ClassFile.FieldType.int)) := rfl
theorem es_mc_5 : (tables_1_3)[110]? = some (.code ⟨"EveryStreet", "street", "(II)I"⟩ prog_1_method_10_code 3 (Option.some Jvm.ClassFile.FieldType.int)) := rfl
theorem es_mc_6 : (tables_1_3)[117]? = some (.code ⟨"EveryStreet", "has", "(II)Z"⟩ prog_1_method_4_code 2 (Option.some Jvm.ClassFile.FieldType.boolean)) := rfl
theorem es_mc_7 : (tables_1_3)[121]? = some (.code ⟨"EveryStreet", "between", "(II)I"⟩ prog_1_method_11_code 3 (Option.some Jvm.ClassFile.FieldType.int)) := rfl
theorem es_mc_8 : (tables_1_3)[126]? = some (.code ⟨"EveryStreet", "turn", "(III)I"⟩ prog_1_method_12_code 4 (Option.some Jvm.ClassFile.FieldType.int)) := rfl
theorem es_mc_9 : (tables_1_3)[135]? = some (.code ⟨"EveryStreet", "service", "(II)I"⟩ prog_1_method_13_code 3 (Option.some Jvm.ClassFile.FieldType.int)) := rfl
theorem es_mc_10 : (tables_1_3)[143]? = some (.code ⟨"EveryStreet", "ahead", "(II)Z"⟩ prog_1_method_14_code 3 (Option.some Jvm.ClassFile.FieldType.boolean)) := rfl
theorem es_mc_11 : (tables_1_3)[152]? = some (.code ⟨"EveryStreet", "shut", "(IZ)Z"⟩ prog_1_method_15_code 4 (Option.some Jvm.ClassFile.FieldType.boolean)) := rfl
theorem es_mc_12 : (tables_1_3)[156]? = some (.code ⟨"EveryStreet", "line", "()I"⟩ prog_1_method_16_code 1 (Option.some Jvm.ClassFile.FieldType.int)) := rfl
theorem es_mc_13 : (tables_1_3)[219]? = some (.code ⟨"EveryStreet", "far", "(II)I"⟩ prog_1_method_17_code 4 (Option.some Jvm.ClassFile.FieldType.int)) := rfl
theorem es_mc_14 : (tables_1_3)[239]? = some (.code ⟨"EveryStreet", "pair", "()I"⟩ prog_1_method_18_code 2 (Option.some Jvm.ClassFile.FieldType.int)) := rfl
theorem es_mc_15 : (tables_1_4)[6]? = some (.code ⟨"EveryStreet", "isOdd", "(I)Z"⟩ prog_1_method_5_code 1 (Option.some Jvm.ClassFile.FieldType.boolean)) := rfl
theorem es_mc_16 : (tables_1_4)[33]? = some (.code ⟨"EveryStreet", "floor", "()I"⟩ prog_1_method_19_code 2 (Option.some Jvm.ClassFile.FieldType.int)) := rfl
theorem es_mc_17 : (tables_1_4)[41]? = some (.code ⟨"EveryStreet", "cut", "(I)I"⟩ prog_1_method_20_code 3 (Option.some Jvm.ClassFile.FieldType.int)) := rfl
theorem es_mc_18 : (tables_1_4)[54]? = some (.code ⟨"EveryStreet", "prove", "(II)I"⟩ prog_1_method_21_code 3 (Option.some Jvm.ClassFile.FieldType.int)) := rfl
theorem es_mc_19 : (tables_1_4)[58]? = some (.code ⟨"EveryStreet", "worth", "()I"⟩ prog_1_method_22_code 2 (Option.some Jvm.ClassFile.FieldType.int)) := rfl
theorem es_mc_20 : (tables_1_4)[70]? = some (.code ⟨"EveryStreet", "drop", "()I"⟩ prog_1_method_23_code 2 (Option.some Jvm.ClassFile.FieldType.int)) := rfl
theorem es_mc_21 : (tables_1_4)[74]? = some (.code ⟨"EveryStreet", "level", "()I"⟩ prog_1_method_24_code 1 (Option.some Jvm.ClassFile.FieldType.int)) := rfl
theorem es_mc_22 : (tables_1_4)[133]? = some (.code ⟨"EveryStreet", "best", "(II)I"⟩ prog_1_method_25_code 3 (Option.some Jvm.ClassFile.FieldType.int)) := rfl
theorem es_mc_23 : (tables_1_4)[216]? = some (.code ⟨"EveryStreet", "some", "(II)I"⟩ prog_1_method_26_code 3 (Option.some Jvm.ClassFile.FieldType.int)) := rfl
theorem es_mc_24 : (tables_1_4)[220]? = some (.code ⟨"EveryStreet", "bars", "(I)I"⟩ prog_1_method_27_code 3 (Option.some Jvm.ClassFile.FieldType.int)) := rfl
theorem es_mc_25 : (tables_1_5)[9]? = some (.code ⟨"EveryStreet", "give", "(I)I"⟩ prog_1_method_28_code 3 (Option.some Jvm.ClassFile.FieldType.int)) := rfl
theorem es_mc_26 : (tables_1_5)[36]? = some (.code ⟨"EveryStreet", "go", "(I)I"⟩ prog_1_method_29_code 3 (Option.some Jvm.ClassFile.FieldType.int)) := rfl
theorem es_mc_27 : (tables_1_5)[46]? = some (.code ⟨"EveryStreet", "undo", "(I)Z"⟩ prog_1_method_30_code 2 (Option.some Jvm.ClassFile.FieldType.boolean)) := rfl
theorem es_mc_28 : (tables_1_5)[50]? = some (.code ⟨"EveryStreet", "judge", "()I"⟩ prog_1_method_31_code 5 (Option.some Jvm.ClassFile.FieldType.int)) := rfl
theorem es_mc_29 : (tables_1_5)[62]? = some (.code ⟨"EveryStreet", "doneByHand", "()I"⟩ prog_1_method_33_code 4 (Option.some Jvm.ClassFile.FieldType.int)) := rfl
theorem es_mc_30 : (tables_1_5)[67]? = some (.code ⟨"EveryStreet", "rest", "()I"⟩ prog_1_method_32_code 2 (Option.some Jvm.ClassFile.FieldType.int)) := rfl
theorem es_mc_31 : (tables_1_5)[71]? = some (.code ⟨"EveryStreet", "timed", "(I)I"⟩ prog_1_method_34_code 2 (Option.some Jvm.ClassFile.FieldType.int)) := rfl
theorem es_mc_32 : (tables_1_5)[74]? = some (.code ⟨"EveryStreet", "isMinute", "(I)Z"⟩ prog_1_method_3_code 1 (Option.some Jvm.ClassFile.FieldType.boolean)) := rfl
theorem es_mc_33 : (tables_1_5)[92]? = some (.code ⟨"EveryStreet", "busy", "(IIII)I"⟩ prog_1_method_35_code 7 (Option.some Jvm.ClassFile.FieldType.int)) := rfl
theorem es_mc_34 : (tables_1_5)[100]? = some (.code ⟨"EveryStreet", "open", "(III)Z"⟩ prog_1_method_36_code 4 (Option.some Jvm.ClassFile.FieldType.boolean)) := rfl
theorem es_mc_35 : (tables_1_5)[104]? = some (.code ⟨"EveryStreet", "soonest", "(II)I"⟩ prog_1_method_37_code 4 (Option.some Jvm.ClassFile.FieldType.int)) := rfl
theorem es_mc_36 : (tables_1_5)[147]? = some (.code ⟨"EveryStreet", "add", "(IZ)I"⟩ prog_1_method_38_code 4 (Option.some Jvm.ClassFile.FieldType.int)) := rfl
theorem es_mc_37 : (tables_1_5)[156]? = some (.code ⟨"EveryStreet", "order", "()I"⟩ prog_1_method_39_code 2 (Option.some Jvm.ClassFile.FieldType.int)) := rfl
theorem es_mc_38 : (tables_1_5)[175]? = some (.code ⟨"EveryStreet", "build", "()I"⟩ prog_1_method_40_code 1 (Option.some Jvm.ClassFile.FieldType.int)) := rfl
theorem es_mc_39 : (tables_1_5)[193]? = some (.code ⟨"EveryStreet", "better", "()I"⟩ prog_1_method_41_code 1 (Option.some Jvm.ClassFile.FieldType.int)) := rfl
theorem es_mc_40 : (tables_1_5)[218]? = some (.code ⟨"EveryStreet", "pass", "(II)I"⟩ prog_1_method_42_code 3 (Option.some Jvm.ClassFile.FieldType.int)) := rfl
theorem es_mc_41 : (tables_1_5)[222]? = some (.code ⟨"EveryStreet", "carts", "(IIII)I"⟩ prog_1_method_43_code 5 (Option.some Jvm.ClassFile.FieldType.int)) := rfl
theorem es_mc_42 : (tables_1_6)[14]? = some (.code ⟨"EveryStreet", "parts", "(I)I"⟩ prog_1_method_44_code 2 (Option.some Jvm.ClassFile.FieldType.int)) := rfl
theorem es_mc_43 : (tables_1_6)[37]? = some (.code ⟨"EveryStreet", "straight", "(III)Z"⟩ prog_1_method_45_code 4 (Option.some Jvm.ClassFile.FieldType.boolean)) := rfl
theorem es_mc_44 : (tables_1_6)[41]? = some (.code ⟨"EveryStreet", "card", "()I"⟩ prog_1_method_46_code 4 (Option.some Jvm.ClassFile.FieldType.int)) := rfl
theorem es_mc_45 : (tables_1_6)[57]? = some (.code ⟨"EveryStreet", "mislead", "(I)I"⟩ prog_1_method_47_code 4 (Option.some Jvm.ClassFile.FieldType.int)) := rfl
theorem es_mc_46 : (tables_1_6)[61]? = some (.code ⟨"EveryStreet", "keep", "(I)Z"⟩ prog_1_method_48_code 2 (Option.some Jvm.ClassFile.FieldType.boolean)) := rfl
theorem es_mc_47 : (tables_1_6)[70]? = some (.code ⟨"EveryStreet", "again", "(I)Z"⟩ prog_1_method_49_code 2 (Option.some Jvm.ClassFile.FieldType.boolean)) := rfl
theorem es_mc_48 : (tables_1_6)[74]? = some (.code ⟨"EveryStreet", "count", "(I)I"⟩ prog_1_method_50_code 2 (Option.some Jvm.ClassFile.FieldType.int)) := rfl
theorem es_mc_49 : (tables_1_6)[82]? = some (.code ⟨"EveryStreet", "row", "(I)I"⟩ prog_1_method_51_code 2 (Option.some Jvm.ClassFile.FieldType.int)) := rfl
theorem es_mc_50 : (tables_1_3)[73]? = some (.code ⟨"EveryStreet$Town", "joining", "(II)I"⟩ prog_10_method_5_code 3 (Option.some Jvm.ClassFile.FieldType.int)) := rfl
theorem es_mc_51 : (tables_1_3)[90]? = some (.code ⟨"EveryStreet$Town", "putStreet", "(IIIIII)V"⟩ prog_10_method_16_code 8 (Option.none : Option Jvm.ClassFile.FieldType)) := rfl
theorem es_mc_52 : (tables_1_3)[94]? = some (.code ⟨"EveryStreet$Town", "putService", "(II)V"⟩ prog_10_method_17_code 4 (Option.none : Option Jvm.ClassFile.FieldType)) := rfl
theorem es_mc_53 : (tables_1_3)[98]? = some (.code ⟨"EveryStreet$Town", "putTurn", "(IIII)V"⟩ prog_10_method_18_code 6 (Option.none : Option Jvm.ClassFile.FieldType)) := rfl
theorem es_mc_54 : (tables_1_3)[114]? = some (.code ⟨"EveryStreet$Town", "isStreet", "(I)Z"⟩ prog_10_method_2_code 2 (Option.some Jvm.ClassFile.FieldType.boolean)) := rfl
theorem es_mc_55 : (tables_1_3)[131]? = some (.code ⟨"EveryStreet$Town", "turnMinutes", "(IIII)I"⟩ prog_10_method_11_code 6 (Option.some Jvm.ClassFile.FieldType.int)) := rfl
theorem es_mc_56 : (tables_1_3)[139]? = some (.code ⟨"EveryStreet$Town", "isService", "(I)Z"⟩ prog_10_method_3_code 2 (Option.some Jvm.ClassFile.FieldType.boolean)) := rfl
theorem es_mc_57 : (tables_1_3)[147]? = some (.code ⟨"EveryStreet$Town", "allAheadOf", "(I)I"⟩ prog_10_method_15_code 5 (Option.some Jvm.ClassFile.FieldType.int)) := rfl
theorem es_mc_58 : (tables_1_3)[164]? = some (.code ⟨"EveryStreet$Town", "allServices", "()I"⟩ prog_10_method_4_code 1 (Option.some Jvm.ClassFile.FieldType.int)) := rfl
theorem es_mc_59 : (tables_1_3)[182]? = some (.code ⟨"EveryStreet$Town", "canDo", "(I)Z"⟩ prog_10_method_13_code 3 (Option.some Jvm.ClassFile.FieldType.boolean)) := rfl
theorem es_mc_60 : (tables_1_3)[186]? = some (.code ⟨"EveryStreet$Town", "passOf", "(I)I"⟩ prog_10_method_12_code 2 (Option.some Jvm.ClassFile.FieldType.int)) := rfl
theorem es_mc_61 : (tables_1_3)[190]? = some (.code ⟨"EveryStreet$Town", "length", "(I)I"⟩ prog_10_method_9_code 2 (Option.some Jvm.ClassFile.FieldType.int)) := rfl
theorem es_mc_62 : (tables_1_3)[195]? = some (.code ⟨"EveryStreet$Town", "goal", "(I)I"⟩ prog_10_method_8_code 2 (Option.some Jvm.ClassFile.FieldType.int)) := rfl
theorem es_mc_63 : (tables_1_3)[199]? = some (.code ⟨"EveryStreet$Town", "origin", "(I)I"⟩ prog_10_method_7_code 2 (Option.some Jvm.ClassFile.FieldType.int)) := rfl
theorem es_mc_64 : (tables_1_3)[233]? = some (.code ⟨"EveryStreet$Town", "lesser", "(I)I"⟩ prog_10_method_10_code 2 (Option.some Jvm.ClassFile.FieldType.int)) := rfl
theorem es_mc_65 : (tables_1_4)[201]? = some (.code ⟨"EveryStreet$Town", "doneWith", "(III)I"⟩ prog_10_method_14_code 5 (Option.some Jvm.ClassFile.FieldType.int)) := rfl
theorem es_mc_66 : (tables_1_4)[211]? = some (.code ⟨"EveryStreet$Town", "passBetween", "(II)I"⟩ prog_10_method_6_code 5 (Option.some Jvm.ClassFile.FieldType.int)) := rfl
theorem es_mc_67 : (tables_1_3)[102]? = some (.code ⟨"EveryStreet$State", "forgetWork", "()V"⟩ prog_9_method_3_code 1 (Option.none : Option Jvm.ClassFile.FieldType)) := rfl
theorem es_mc_68 : (tables_1_5)[40]? = some (.code ⟨"EveryStreet$State", "handEnd", "()I"⟩ prog_9_method_4_code 1 (Option.some Jvm.ClassFile.FieldType.int)) := rfl
theorem es_mc_69 : (tables_1_6)[45]? = some (.code ⟨"EveryStreet$State", "strayPlace", "()I"⟩ prog_9_method_6_code 3 (Option.some Jvm.ClassFile.FieldType.int)) := rfl
theorem es_mc_70 : (tables_1_6)[49]? = some (.code ⟨"EveryStreet$State", "cameBefore", "(I)I"⟩ prog_9_method_5_code 3 (Option.some Jvm.ClassFile.FieldType.int)) := rfl
theorem es_mc_71 : (tables_1_6)[53]? = some (.code ⟨"EveryStreet$State", "isNewWord", "(I)Z"⟩ prog_9_method_7_code 3 (Option.some Jvm.ClassFile.FieldType.boolean)) := rfl
theorem es_mc_72 : (tables_1_6)[65]? = some (.code ⟨"EveryStreet$State", "take", "(LEveryStreet$State;)V"⟩ prog_9_method_2_code 2 (Option.none : Option Jvm.ClassFile.FieldType)) := rfl
theorem es_mc_73 : (tables_1_3)[11]? = some (.code ⟨"EveryStreet$Reader", "take", "(I)I"⟩ prog_6_method_2_code 3 (Option.some Jvm.ClassFile.FieldType.int)) := rfl
theorem es_mc_74 : (tables_1_3)[19]? = some (.code ⟨"EveryStreet$Reader", "cutTo", "(I)Z"⟩ prog_6_method_3_code 2 (Option.some Jvm.ClassFile.FieldType.boolean)) := rfl
theorem es_mc_75 : (tables_1_3)[27]? = some (.code ⟨"EveryStreet$Reader", "read", "(LEveryStreet$Town;)I"⟩ prog_6_method_4_code 3 (Option.some Jvm.ClassFile.FieldType.int)) := rfl
theorem es_mc_76 : (tables_1_3)[34]? = some (.code ⟨"EveryStreet$Reader", "readItem", "(LEveryStreet$Town;)Z"⟩ prog_6_method_7_code 2 (Option.some Jvm.ClassFile.FieldType.boolean)) := rfl
theorem es_mc_77 : (tables_1_3)[38]? = some (.code ⟨"EveryStreet$Reader", "skip", "(I)Z"⟩ prog_6_method_6_code 2 (Option.some Jvm.ClassFile.FieldType.boolean)) := rfl
theorem es_mc_78 : (tables_1_3)[42]? = some (.code ⟨"EveryStreet$Reader", "look", "()I"⟩ prog_6_method_5_code 1 (Option.some Jvm.ClassFile.FieldType.int)) := rfl
theorem es_mc_79 : (tables_1_3)[46]? = some (.code ⟨"EveryStreet$Reader", "readTurn", "(Z)Z"⟩ prog_6_method_8_code 6 (Option.some Jvm.ClassFile.FieldType.boolean)) := rfl
theorem es_mc_80 : (tables_1_3)[50]? = some (.code ⟨"EveryStreet$Reader", "readCorner", "(I)I"⟩ prog_6_method_11_code 3 (Option.some Jvm.ClassFile.FieldType.int)) := rfl
theorem es_mc_81 : (tables_1_3)[57]? = some (.code ⟨"EveryStreet$Reader", "readNumber", "(I)I"⟩ prog_6_method_13_code 4 (Option.some Jvm.ClassFile.FieldType.int)) := rfl
theorem es_mc_82 : (tables_1_3)[61]? = some (.code ⟨"EveryStreet$Reader", "draft", "(IIIII)V"⟩ prog_6_method_14_code 7 (Option.none : Option Jvm.ClassFile.FieldType)) := rfl
theorem es_mc_83 : (tables_1_3)[65]? = some (.code ⟨"EveryStreet$Reader", "readStreet", "(LEveryStreet$Town;)Z"⟩ prog_6_method_9_code 7 (Option.some Jvm.ClassFile.FieldType.boolean)) := rfl
theorem es_mc_84 : (tables_1_3)[69]? = some (.code ⟨"EveryStreet$Reader", "readSecond", "(LEveryStreet$Town;I)I"⟩ prog_6_method_12_code 7 (Option.some Jvm.ClassFile.FieldType.int)) := rfl
theorem es_mc_85 : (tables_1_3)[78]? = some (.code ⟨"EveryStreet$Reader", "readService", "(Z)Z"⟩ prog_6_method_10_code 5 (Option.some Jvm.ClassFile.FieldType.boolean)) := rfl
theorem es_mc_86 : (tables_1_3)[82]? = some (.code ⟨"EveryStreet$Reader", "fits", "(LEveryStreet$Town;)Z"⟩ prog_6_method_15_code 5 (Option.some Jvm.ClassFile.FieldType.boolean)) := rfl
theorem es_mc_87 : (tables_1_3)[86]? = some (.code ⟨"EveryStreet$Reader", "tell", "(LEveryStreet$Town;)V"⟩ prog_6_method_16_code 8 (Option.none : Option Jvm.ClassFile.FieldType)) := rfl
theorem es_mc_88 : (tables_1_3)[203]? = some (.code ⟨"EveryStreet$Row", "clear", "()V"⟩ prog_7_method_2_code 1 (Option.none : Option Jvm.ClassFile.FieldType)) := rfl
theorem es_mc_89 : (tables_1_3)[211]? = some (.code ⟨"EveryStreet$Row", "put", "(I)V"⟩ prog_7_method_3_code 2 (Option.none : Option Jvm.ClassFile.FieldType)) := rfl
theorem es_mc_90 : (tables_1_4)[87]? = some (.code ⟨"EveryStreet$Ways", "doer", "(I)I"⟩ prog_12_method_3_code 3 (Option.some Jvm.ClassFile.FieldType.int)) := rfl
theorem es_mc_91 : (tables_1_4)[93]? = some (.code ⟨"EveryStreet$Ways", "goes", "(I)Z"⟩ prog_12_method_2_code 2 (Option.some Jvm.ClassFile.FieldType.boolean)) := rfl
theorem es_mc_92 : (tables_1_4)[146]? = some (.code ⟨"EveryStreet$Ways", "refresh", "()V"⟩ prog_12_method_8_code 3 (Option.none : Option Jvm.ClassFile.FieldType)) := rfl
theorem es_mc_93 : (tables_1_4)[150]? = some (.code ⟨"EveryStreet$Ways", "listNexts", "(II)V"⟩ prog_12_method_9_code 6 (Option.none : Option Jvm.ClassFile.FieldType)) := rfl
theorem es_mc_94 : (tables_1_4)[154]? = some (.code ⟨"EveryStreet$Ways", "stepMinutes", "(II)I"⟩ prog_12_method_4_code 4 (Option.some Jvm.ClassFile.FieldType.int)) := rfl
theorem es_mc_95 : (tables_1_4)[161]? = some (.code ⟨"EveryStreet$Ways", "turnBetween", "(II)I"⟩ prog_12_method_5_code 3 (Option.some Jvm.ClassFile.FieldType.int)) := rfl
theorem es_mc_96 : (tables_1_4)[166]? = some (.code ⟨"EveryStreet$Ways", "shorten", "(II)V"⟩ prog_12_method_10_code 7 (Option.none : Option Jvm.ClassFile.FieldType)) := rfl
theorem es_mc_97 : (tables_1_4)[177]? = some (.code ⟨"EveryStreet$Ways", "leastMinutes", "(II)I"⟩ prog_12_method_7_code 3 (Option.some Jvm.ClassFile.FieldType.int)) := rfl
theorem es_mc_98 : (tables_1_4)[224]? = some (.code ⟨"EveryStreet$Ways", "hasRound", "(II)Z"⟩ prog_12_method_11_code 9 (Option.some Jvm.ClassFile.FieldType.boolean)) := rfl
theorem es_mc_99 : (tables_1_4)[229]? = some (.code ⟨"EveryStreet$Ways", "link", "(I)V"⟩ prog_12_method_12_code 7 (Option.none : Option Jvm.ClassFile.FieldType)) := rfl
theorem es_mc_100 : (tables_1_4)[233]? = some (.code ⟨"EveryStreet$Ways", "canStep", "(III)Z"⟩ prog_12_method_13_code 4 (Option.some Jvm.ClassFile.FieldType.boolean)) := rfl
theorem es_mc_101 : (tables_1_5)[1]? = some (.code ⟨"EveryStreet$Ways", "spread", "(I)V"⟩ prog_12_method_14_code 6 (Option.none : Option Jvm.ClassFile.FieldType)) := rfl
theorem es_mc_102 : (tables_1_5)[5]? = some (.code ⟨"EveryStreet$Ways", "comingTo", "(I)J"⟩ prog_12_method_15_code 5 (Option.some Jvm.ClassFile.FieldType.long)) := rfl
theorem es_mc_103 : (tables_1_5)[54]? = some (.code ⟨"EveryStreet$Ways", "handTurn", "(I)I"⟩ prog_12_method_6_code 2 (Option.some Jvm.ClassFile.FieldType.int)) := rfl
theorem es_mc_104 : (tables_1_4)[138]? = some (.code ⟨"EveryStreet$Walks", "aimAt", "(II)V"⟩ prog_11_method_4_code 6 (Option.none : Option Jvm.ClassFile.FieldType)) := rfl
theorem es_mc_105 : (tables_1_4)[142]? = some (.code ⟨"EveryStreet$Walks", "prepare", "(I)V"⟩ prog_11_method_2_code 3 (Option.none : Option Jvm.ClassFile.FieldType)) := rfl
theorem es_mc_106 : (tables_1_4)[171]? = some (.code ⟨"EveryStreet$Walks", "leastExit", "(I)I"⟩ prog_11_method_3_code 4 (Option.some Jvm.ClassFile.FieldType.int)) := rfl
theorem es_mc_107 : (tables_1_4)[183]? = some (.code ⟨"EveryStreet$Walks", "minutesLeft", "(II)I"⟩ prog_11_method_5_code 8 (Option.some Jvm.ClassFile.FieldType.int)) := rfl
theorem es_mc_108 : (tables_1_4)[187]? = some (.code ⟨"EveryStreet$Walks", "tell", "(IIILEveryStreet$Row;)I"⟩ prog_11_method_8_code 12 (Option.some Jvm.ClassFile.FieldType.int)) := rfl
theorem es_mc_109 : (tables_1_4)[191]? = some (.code ⟨"EveryStreet$Walks", "minutesFrom", "(III)I"⟩ prog_11_method_6_code 6 (Option.some Jvm.ClassFile.FieldType.int)) := rfl
theorem es_mc_110 : (tables_1_4)[196]? = some (.code ⟨"EveryStreet$Walks", "minutesBy", "(III)I"⟩ prog_11_method_7_code 5 (Option.some Jvm.ClassFile.FieldType.int)) := rfl
theorem es_mc_111 : (tables_1_4)[207]? = some (.code ⟨"EveryStreet$Walks", "firstNext", "(IIII)I"⟩ prog_11_method_9_code 7 (Option.some Jvm.ClassFile.FieldType.int)) := rfl
theorem es_mc_112 : (tables_1_5)[13]? = some (.code ⟨"EveryStreet$Walks", "tourAll", "(I)V"⟩ prog_11_method_10_code 5 (Option.none : Option Jvm.ClassFile.FieldType)) := rfl
theorem es_mc_113 : (tables_1_5)[19]? = some (.code ⟨"EveryStreet$Walks", "leastEntry", "(II)I"⟩ prog_11_method_11_code 5 (Option.some Jvm.ClassFile.FieldType.int)) := rfl
theorem es_mc_114 : (tables_1_5)[25]? = some (.code ⟨"EveryStreet$Walks", "tourOn", "(II)V"⟩ prog_11_method_12_code 9 (Option.none : Option Jvm.ClassFile.FieldType)) := rfl
theorem es_mc_115 : (tables_1_5)[29]? = some (.code ⟨"EveryStreet$Walks", "fewestGiven", "()I"⟩ prog_11_method_13_code 5 (Option.some Jvm.ClassFile.FieldType.int)) := rfl
theorem es_mc_116 : (tables_1_5)[226]? = some (.code ⟨"EveryStreet$Shares", "costByTours", "([II)V"⟩ prog_8_method_2_code 6 (Option.none : Option Jvm.ClassFile.FieldType)) := rfl
theorem es_mc_117 : (tables_1_5)[233]? = some (.code ⟨"EveryStreet$Shares", "share", "(IZLEveryStreet$Row;)I"⟩ prog_8_method_8_code 10 (Option.some Jvm.ClassFile.FieldType.int)) := rfl
theorem es_mc_118 : (tables_1_5)[238]? = some (.code ⟨"EveryStreet$Shares", "leastWith", "(IIZ)I"⟩ prog_8_method_9_code 7 (Option.some Jvm.ClassFile.FieldType.int)) := rfl
theorem es_mc_119 : (tables_1_6)[2]? = some (.code ⟨"EveryStreet$Shares", "joined", "(IIZ)I"⟩ prog_8_method_7_code 4 (Option.some Jvm.ClassFile.FieldType.int)) := rfl
theorem es_mc_120 : (tables_1_6)[9]? = some (.code ⟨"EveryStreet$Shares", "firstShare", "(IIIZ)I"⟩ prog_8_method_10_code 8 (Option.some Jvm.ClassFile.FieldType.int)) := rfl
theorem es_mc_121 : (tables_1_6)[18]? = some (.code ⟨"EveryStreet$Shares", "costByStreets", "()V"⟩ prog_8_method_3_code 4 (Option.none : Option Jvm.ClassFile.FieldType)) := rfl
theorem es_mc_122 : (tables_1_6)[23]? = some (.code ⟨"EveryStreet$Shares", "hasWholeStreets", "(I)Z"⟩ prog_8_method_4_code 3 (Option.some Jvm.ClassFile.FieldType.boolean)) := rfl
theorem es_mc_123 : (tables_1_6)[27]? = some (.code ⟨"EveryStreet$Shares", "hangsTogether", "(I)Z"⟩ prog_8_method_5_code 6 (Option.some Jvm.ClassFile.FieldType.boolean)) := rfl
theorem es_mc_124 : (tables_1_6)[32]? = some (.code ⟨"EveryStreet$Shares", "endsOf", "(I)I"⟩ prog_8_method_6_code 3 (Option.some Jvm.ClassFile.FieldType.int)) := rfl
theorem es_mc_125 : (tables_1_3)[160]? = some (.code ⟨"EveryStreet$Bounds", "tellLine", "(LEveryStreet$Row;)I"⟩ prog_2_method_2_code 8 (Option.some Jvm.ClassFile.FieldType.int)) := rfl
theorem es_mc_126 : (tables_1_3)[168]? = some (.code ⟨"EveryStreet$Bounds", "leastServed", "()I"⟩ prog_2_method_3_code 4 (Option.some Jvm.ClassFile.FieldType.int)) := rfl
theorem es_mc_127 : (tables_1_3)[173]? = some (.code ⟨"EveryStreet$Bounds", "homewardFrom", "(I)I"⟩ prog_2_method_5_code 4 (Option.some Jvm.ClassFile.FieldType.int)) := rfl
theorem es_mc_128 : (tables_1_3)[177]? = some (.code ⟨"EveryStreet$Bounds", "leadsHome", "(II)Z"⟩ prog_2_method_4_code 4 (Option.some Jvm.ClassFile.FieldType.boolean)) := rfl
theorem es_mc_129 : (tables_1_3)[207]? = some (.code ⟨"EveryStreet$Bounds", "tellOdd", "(LEveryStreet$Row;)V"⟩ prog_2_method_7_code 3 (Option.none : Option Jvm.ClassFile.FieldType)) := rfl
theorem es_mc_130 : (tables_1_3)[215]? = some (.code ⟨"EveryStreet$Bounds", "firstHomeward", "(II)I"⟩ prog_2_method_6_code 7 (Option.some Jvm.ClassFile.FieldType.int)) := rfl
theorem es_mc_131 : (tables_1_3)[223]? = some (.code ⟨"EveryStreet$Bounds", "farBetween", "(II)I"⟩ prog_2_method_8_code 3 (Option.some Jvm.ClassFile.FieldType.int)) := rfl
theorem es_mc_132 : (tables_1_3)[227]? = some (.code ⟨"EveryStreet$Bounds", "measure", "()V"⟩ prog_2_method_9_code 5 (Option.none : Option Jvm.ClassFile.FieldType)) := rfl
theorem es_mc_133 : (tables_1_4)[3]? = some (.code ⟨"EveryStreet$Bounds", "leastPairs", "()I"⟩ prog_2_method_10_code 2 (Option.some Jvm.ClassFile.FieldType.int)) := rfl
theorem es_mc_134 : (tables_1_4)[16]? = some (.code ⟨"EveryStreet$Bounds", "firstOther", "(I)I"⟩ prog_2_method_12_code 5 (Option.some Jvm.ClassFile.FieldType.int)) := rfl
theorem es_mc_135 : (tables_1_4)[24]? = some (.code ⟨"EveryStreet$Bounds", "sumWith", "(II)I"⟩ prog_2_method_11_code 5 (Option.some Jvm.ClassFile.FieldType.int)) := rfl
theorem es_mc_136 : (tables_1_4)[29]? = some (.code ⟨"EveryStreet$Bounds", "tellPairs", "(LEveryStreet$Row;)V"⟩ prog_2_method_13_code 6 (Option.none : Option Jvm.ClassFile.FieldType)) := rfl
theorem es_mc_137 : (tables_1_4)[37]? = some (.code ⟨"EveryStreet$Bounds", "lesserOfServices", "()I"⟩ prog_2_method_14_code 3 (Option.some Jvm.ClassFile.FieldType.int)) := rfl
theorem es_mc_138 : (tables_1_4)[46]? = some (.code ⟨"EveryStreet$Bounds", "leastLeaving", "(I)I"⟩ prog_2_method_16_code 4 (Option.some Jvm.ClassFile.FieldType.int)) := rfl
theorem es_mc_139 : (tables_1_4)[50]? = some (.code ⟨"EveryStreet$Bounds", "leaves", "(II)Z"⟩ prog_2_method_15_code 3 (Option.some Jvm.ClassFile.FieldType.boolean)) := rfl
theorem es_mc_140 : (tables_1_4)[62]? = some (.code ⟨"EveryStreet$Bounds", "overborne", "()I"⟩ prog_2_method_17_code 4 (Option.some Jvm.ClassFile.FieldType.int)) := rfl
theorem es_mc_141 : (tables_1_4)[66]? = some (.code ⟨"EveryStreet$Bounds", "proven", "()I"⟩ prog_2_method_18_code 3 (Option.some Jvm.ClassFile.FieldType.int)) := rfl
theorem es_mc_142 : (tables_1_4)[78]? = some (.code ⟨"EveryStreet$Level", "solve", "(LEveryStreet$Row;)I"⟩ prog_4_method_2_code 3 (Option.some Jvm.ClassFile.FieldType.int)) := rfl
theorem es_mc_143 : (tables_1_4)[83]? = some (.code ⟨"EveryStreet$Level", "queueUp", "()V"⟩ prog_4_method_3_code 5 (Option.none : Option Jvm.ClassFile.FieldType)) := rfl
theorem es_mc_144 : (tables_1_4)[105]? = some (.code ⟨"EveryStreet$Level", "choose", "(II)V"⟩ prog_4_method_4_code 7 (Option.none : Option Jvm.ClassFile.FieldType)) := rfl
theorem es_mc_145 : (tables_1_4)[112]? = some (.code ⟨"EveryStreet$Level", "comeBack", "(II)I"⟩ prog_4_method_5_code 8 (Option.some Jvm.ClassFile.FieldType.int)) := rfl
theorem es_mc_146 : (tables_1_4)[118]? = some (.code ⟨"EveryStreet$Level", "searchFrom", "(II)V"⟩ prog_4_method_6_code 8 (Option.none : Option Jvm.ClassFile.FieldType)) := rfl
theorem es_mc_147 : (tables_1_4)[124]? = some (.code ⟨"EveryStreet$Level", "comeNearer", "(II)Z"⟩ prog_4_method_7_code 7 (Option.some Jvm.ClassFile.FieldType.boolean)) := rfl
theorem es_mc_148 : (tables_1_5)[151]? = some (.code ⟨"EveryStreet$Orders", "holds", "(I)Z"⟩ prog_5_method_2_code 3 (Option.some Jvm.ClassFile.FieldType.boolean)) := rfl
theorem es_mc_149 : (tables_1_5)[160]? = some (.code ⟨"EveryStreet$Orders", "minutesNow", "()I"⟩ prog_5_method_3_code 1 (Option.some Jvm.ClassFile.FieldType.int)) := rfl
theorem es_mc_150 : (tables_1_5)[165]? = some (.code ⟨"EveryStreet$Orders", "minutesOf", "([II)I"⟩ prog_5_method_4_code 7 (Option.some Jvm.ClassFile.FieldType.int)) := rfl
theorem es_mc_151 : (tables_1_5)[179]? = some (.code ⟨"EveryStreet$Orders", "buildAnew", "()I"⟩ prog_5_method_6_code 3 (Option.some Jvm.ClassFile.FieldType.int)) := rfl
theorem es_mc_152 : (tables_1_5)[183]? = some (.code ⟨"EveryStreet$Orders", "tryAt", "(III)V"⟩ prog_5_method_7_code 4 (Option.none : Option Jvm.ClassFile.FieldType)) := rfl
theorem es_mc_153 : (tables_1_5)[189]? = some (.code ⟨"EveryStreet$Orders", "consider", "(I)V"⟩ prog_5_method_5_code 3 (Option.none : Option Jvm.ClassFile.FieldType)) := rfl
theorem es_mc_154 : (tables_1_5)[197]? = some (.code ⟨"EveryStreet$Orders", "betterAll", "()I"⟩ prog_5_method_8_code 4 (Option.some Jvm.ClassFile.FieldType.int)) := rfl
theorem es_mc_155 : (tables_1_5)[202]? = some (.code ⟨"EveryStreet$Orders", "trySwaps", "(I)V"⟩ prog_5_method_9_code 4 (Option.none : Option Jvm.ClassFile.FieldType)) := rfl
theorem es_mc_156 : (tables_1_5)[206]? = some (.code ⟨"EveryStreet$Orders", "tryTurnings", "(I)V"⟩ prog_5_method_10_code 5 (Option.none : Option Jvm.ClassFile.FieldType)) := rfl
theorem es_mc_157 : (tables_1_5)[210]? = some (.code ⟨"EveryStreet$Orders", "tryMoves", "(I)V"⟩ prog_5_method_11_code 4 (Option.none : Option Jvm.ClassFile.FieldType)) := rfl
theorem es_mc_158 : (tables_1_5)[214]? = some (.code ⟨"EveryStreet$Orders", "move", "(III)V"⟩ prog_5_method_12_code 6 (Option.none : Option Jvm.ClassFile.FieldType)) := rfl
theorem es_mc_159 : (tables_1_5)[78]? = some (.code ⟨"EveryStreet$Clock", "timeHand", "(ILEveryStreet$Row;)I"⟩ prog_3_method_4_code 8 (Option.some Jvm.ClassFile.FieldType.int)) := rfl
theorem es_mc_160 : (tables_1_5)[84]? = some (.code ⟨"EveryStreet$Clock", "endOf", "(II)I"⟩ prog_3_method_3_code 4 (Option.some Jvm.ClassFile.FieldType.int)) := rfl
theorem es_mc_161 : (tables_1_5)[96]? = some (.code ⟨"EveryStreet$Clock", "busyEntry", "(II)I"⟩ prog_3_method_2_code 3 (Option.some Jvm.ClassFile.FieldType.int)) := rfl
theorem es_mc_162 : (tables_1_5)[108]? = some (.code ⟨"EveryStreet$Clock", "soonestRound", "(II)I"⟩ prog_3_method_6_code 5 (Option.some Jvm.ClassFile.FieldType.int)) := rfl
theorem es_mc_163 : (tables_1_5)[119]? = some (.code ⟨"EveryStreet$Clock", "soonestEnd", "(II)I"⟩ prog_3_method_5_code 8 (Option.some Jvm.ClassFile.FieldType.int)) := rfl
theorem es_mc_164 : (tables_1_5)[123]? = some (.code ⟨"EveryStreet$Clock", "arrive", "(III)V"⟩ prog_3_method_7_code 6 (Option.none : Option Jvm.ClassFile.FieldType)) := rfl
theorem es_mc_165 : (tables_1_5)[128]? = some (.code ⟨"EveryStreet$Clock", "settle", "(I)V"⟩ prog_3_method_9_code 8 (Option.none : Option Jvm.ClassFile.FieldType)) := rfl
theorem es_mc_166 : (tables_1_5)[132]? = some (.code ⟨"EveryStreet$Clock", "goOnFrom", "(II)V"⟩ prog_3_method_10_code 6 (Option.none : Option Jvm.ClassFile.FieldType)) := rfl
theorem es_mc_167 : (tables_1_5)[137]? = some (.code ⟨"EveryStreet$Clock", "takeUp", "(I)Z"⟩ prog_3_method_8_code 5 (Option.some Jvm.ClassFile.FieldType.boolean)) := rfl
theorem es_mc_168 : (tables_1_5)[142]? = some (.code ⟨"EveryStreet$Clock", "soonestAt", "(I)I"⟩ prog_3_method_11_code 4 (Option.some Jvm.ClassFile.FieldType.int)) := rfl
theorem es_mc_169 : (tables_1_6)[147]? = some (.code ⟨"EveryStreetModel", "thrown", "()I"⟩ prog_14_method_1_code 1 (Option.some Jvm.ClassFile.FieldType.int)) := rfl
theorem es_mc_170 : (tables_1_7)[116]? = some (.code ⟨"EveryStreetModel", "sign", "(I)I"⟩ prog_14_method_19_code 3 (Option.some Jvm.ClassFile.FieldType.int)) := rfl
theorem es_mc_171 : (tables_1_7)[120]? = some (.code ⟨"EveryStreetModel", "end", "(I)Z"⟩ prog_14_method_20_code 2 (Option.some Jvm.ClassFile.FieldType.boolean)) := rfl
theorem es_mc_172 : (tables_1_7)[123]? = some (.code ⟨"EveryStreetModel", "in", "(JJJ)Z"⟩ prog_14_method_2_code 6 (Option.some Jvm.ClassFile.FieldType.boolean)) := rfl
theorem es_mc_173 : (tables_1_7)[127]? = some (.code ⟨"EveryStreetModel", "town", "()I"⟩ prog_14_method_28_code 7 (Option.some Jvm.ClassFile.FieldType.int)) := rfl
theorem es_mc_174 : (tables_1_7)[132]? = some (.code ⟨"EveryStreetModel", "passesSign", "(C)Z"⟩ prog_14_method_22_code 3 (Option.some Jvm.ClassFile.FieldType.boolean)) := rfl
theorem es_mc_175 : (tables_1_7)[136]? = some (.code ⟨"EveryStreetModel", "isAt", "(C)Z"⟩ prog_14_method_21_code 2 (Option.some Jvm.ClassFile.FieldType.boolean)) := rfl
theorem es_mc_176 : (tables_1_7)[139]? = some (.code ⟨"EveryStreetModel", "truth", "(Z)I"⟩ prog_14_method_4_code 1 (Option.some Jvm.ClassFile.FieldType.int)) := rfl
theorem es_mc_177 : (tables_1_7)[143]? = some (.code ⟨"EveryStreetModel", "readsTurn", "(Z)Z"⟩ prog_14_method_26_code 5 (Option.some Jvm.ClassFile.FieldType.boolean)) := rfl
theorem es_mc_178 : (tables_1_7)[147]? = some (.code ⟨"EveryStreetModel", "corner", "(I)I"⟩ prog_14_method_24_code 2 (Option.some Jvm.ClassFile.FieldType.int)) := rfl
theorem es_mc_179 : (tables_1_7)[152]? = some (.code ⟨"EveryStreetModel", "turnAt", "(III)I"⟩ prog_14_method_10_code 3 (Option.some Jvm.ClassFile.FieldType.int)) := rfl
theorem es_mc_180 : (tables_1_7)[156]? = some (.code ⟨"EveryStreetModel", "number", "(Z)I"⟩ prog_14_method_25_code 3 (Option.some Jvm.ClassFile.FieldType.int)) := rfl
theorem es_mc_181 : (tables_1_7)[160]? = some (.code ⟨"EveryStreetModel", "isDigit", "()Z"⟩ prog_14_method_23_code 1 (Option.some Jvm.ClassFile.FieldType.boolean)) := rfl
theorem es_mc_182 : (tables_1_7)[166]? = some (.code ⟨"EveryStreetModel", "readsStreet", "()Z"⟩ prog_14_method_27_code 8 (Option.some Jvm.ClassFile.FieldType.boolean)) := rfl
theorem es_mc_183 : (tables_1_7)[170]? = some (.code ⟨"EveryStreetModel", "streetBetween", "(III)I"⟩ prog_14_method_15_code 5 (Option.some Jvm.ClassFile.FieldType.int)) := rfl
theorem es_mc_184 : (tables_1_7)[174]? = some (.code ⟨"EveryStreetModel", "services", "()V"⟩ prog_14_method_34_code 3 (Option.none : Option Jvm.ClassFile.FieldType)) := rfl
theorem es_mc_185 : (tables_1_7)[178]? = some (.code ⟨"EveryStreetModel", "street", "(II)I"⟩ prog_14_method_30_code 3 (Option.some Jvm.ClassFile.FieldType.int)) := rfl
theorem es_mc_186 : (tables_1_7)[182]? = some (.code ⟨"EveryStreetModel", "isStreet", "(I)Z"⟩ prog_14_method_9_code 2 (Option.some Jvm.ClassFile.FieldType.boolean)) := rfl
theorem es_mc_187 : (tables_1_7)[186]? = some (.code ⟨"EveryStreetModel", "lookUp", "(II)I"⟩ prog_14_method_29_code 3 (Option.some Jvm.ClassFile.FieldType.int)) := rfl
theorem es_mc_188 : (tables_1_7)[190]? = some (.code ⟨"EveryStreetModel", "back", "(I)I"⟩ prog_14_method_31_code 3 (Option.some Jvm.ClassFile.FieldType.int)) := rfl
theorem es_mc_189 : (tables_1_7)[195]? = some (.code ⟨"EveryStreetModel", "between", "(II)I"⟩ prog_14_method_32_code 3 (Option.some Jvm.ClassFile.FieldType.int)) := rfl
theorem es_mc_190 : (tables_1_7)[199]? = some (.code ⟨"EveryStreetModel", "turn", "(III)I"⟩ prog_14_method_33_code 4 (Option.some Jvm.ClassFile.FieldType.int)) := rfl
theorem es_mc_191 : (tables_1_7)[202]? = some (.code ⟨"EveryStreetModel", "isCorner", "(I)Z"⟩ prog_14_method_8_code 1 (Option.some Jvm.ClassFile.FieldType.boolean)) := rfl
theorem es_mc_192 : (tables_1_7)[207]? = some (.code ⟨"EveryStreetModel", "turnOf", "(III)I"⟩ prog_14_method_17_code 5 (Option.some Jvm.ClassFile.FieldType.int)) := rfl
theorem es_mc_193 : (tables_1_7)[211]? = some (.code ⟨"EveryStreetModel", "service", "(II)I"⟩ prog_14_method_39_code 3 (Option.some Jvm.ClassFile.FieldType.int)) := rfl
theorem es_mc_194 : (tables_1_7)[215]? = some (.code ⟨"EveryStreetModel", "isService", "(I)Z"⟩ prog_14_method_35_code 2 (Option.some Jvm.ClassFile.FieldType.boolean)) := rfl
theorem es_mc_195 : (tables_1_7)[219]? = some (.code ⟨"EveryStreetModel", "ahead", "(II)Z"⟩ prog_14_method_41_code 3 (Option.some Jvm.ClassFile.FieldType.boolean)) := rfl
theorem es_mc_196 : (tables_1_7)[223]? = some (.code ⟨"EveryStreetModel", "allAhead", "(I)I"⟩ prog_14_method_40_code 5 (Option.some Jvm.ClassFile.FieldType.int)) := rfl
theorem es_mc_197 : (tables_1_7)[226]? = some (.code ⟨"EveryStreetModel", "has", "(II)Z"⟩ prog_14_method_5_code 2 (Option.some Jvm.ClassFile.FieldType.boolean)) := rfl
theorem es_mc_198 : (tables_1_7)[230]? = some (.code ⟨"EveryStreetModel", "shut", "(IZ)Z"⟩ prog_14_method_42_code 3 (Option.some Jvm.ClassFile.FieldType.boolean)) := rfl
theorem es_mc_199 : (tables_1_7)[234]? = some (.code ⟨"EveryStreetModel", "line", "()I"⟩ prog_14_method_45_code 4 (Option.some Jvm.ClassFile.FieldType.int)) := rfl
theorem es_mc_200 : (tables_1_7)[238]? = some (.code ⟨"EveryStreetModel", "goesOn", "(I)Z"⟩ prog_14_method_44_code 7 (Option.some Jvm.ClassFile.FieldType.boolean)) := rfl
theorem es_mc_201 : (tables_1_8)[2]? = some (.code ⟨"EveryStreetModel", "passBetween", "(II)I"⟩ prog_14_method_16_code 5 (Option.some Jvm.ClassFile.FieldType.int)) := rfl
theorem es_mc_202 : (tables_1_8)[6]? = some (.code ⟨"EveryStreetModel", "isDoneBy", "(II)Z"⟩ prog_14_method_37_code 3 (Option.some Jvm.ClassFile.FieldType.boolean)) := rfl
theorem es_mc_203 : (tables_1_8)[10]? = some (.code ⟨"EveryStreetModel", "enters", "(I)V"⟩ prog_14_method_6_code 2 (Option.none : Option Jvm.ClassFile.FieldType)) := rfl
theorem es_mc_204 : (tables_1_8)[14]? = some (.code ⟨"EveryStreetModel", "odd", "()I"⟩ prog_14_method_43_code 3 (Option.some Jvm.ClassFile.FieldType.int)) := rfl
theorem es_mc_205 : (tables_1_8)[18]? = some (.code ⟨"EveryStreetModel", "far", "(II)I"⟩ prog_14_method_47_code 4 (Option.some Jvm.ClassFile.FieldType.int)) := rfl
theorem es_mc_206 : (tables_1_8)[22]? = some (.code ⟨"EveryStreetModel", "measures", "()V"⟩ prog_14_method_46_code 4 (Option.none : Option Jvm.ClassFile.FieldType)) := rfl
theorem es_mc_207 : (tables_1_8)[27]? = some (.code ⟨"EveryStreetModel", "lesser", "(I)I"⟩ prog_14_method_14_code 4 (Option.some Jvm.ClassFile.FieldType.int)) := rfl
theorem es_mc_208 : (tables_1_8)[31]? = some (.code ⟨"EveryStreetModel", "pair", "()I"⟩ prog_14_method_49_code 6 (Option.some Jvm.ClassFile.FieldType.int)) := rfl
theorem es_mc_209 : (tables_1_8)[35]? = some (.code ⟨"EveryStreetModel", "paired", "(I)I"⟩ prog_14_method_48_code 5 (Option.some Jvm.ClassFile.FieldType.int)) := rfl
theorem es_mc_210 : (tables_1_8)[40]? = some (.code ⟨"EveryStreetModel", "floor", "()I"⟩ prog_14_method_50_code 3 (Option.some Jvm.ClassFile.FieldType.int)) := rfl
theorem es_mc_211 : (tables_1_8)[44]? = some (.code ⟨"EveryStreetModel", "cut", "(I)I"⟩ prog_14_method_53_code 4 (Option.some Jvm.ClassFile.FieldType.int)) := rfl
theorem es_mc_212 : (tables_1_8)[49]? = some (.code ⟨"EveryStreetModel", "isOddCut", "(I)Z"⟩ prog_14_method_52_code 2 (Option.some Jvm.ClassFile.FieldType.boolean)) := rfl
theorem es_mc_213 : (tables_1_8)[54]? = some (.code ⟨"EveryStreetModel", "leaves", "(II)Z"⟩ prog_14_method_51_code 3 (Option.some Jvm.ClassFile.FieldType.boolean)) := rfl
theorem es_mc_214 : (tables_1_8)[58]? = some (.code ⟨"EveryStreetModel", "prove", "(II)I"⟩ prog_14_method_54_code 3 (Option.some Jvm.ClassFile.FieldType.int)) := rfl
theorem es_mc_215 : (tables_1_8)[62]? = some (.code ⟨"EveryStreetModel", "worth", "()I"⟩ prog_14_method_55_code 4 (Option.some Jvm.ClassFile.FieldType.int)) := rfl
theorem es_mc_216 : (tables_1_8)[66]? = some (.code ⟨"EveryStreetModel", "drop", "()I"⟩ prog_14_method_56_code 2 (Option.some Jvm.ClassFile.FieldType.int)) := rfl
theorem es_mc_217 : (tables_1_8)[70]? = some (.code ⟨"EveryStreetModel", "level", "()I"⟩ prog_14_method_60_code 6 (Option.some Jvm.ClassFile.FieldType.int)) := rfl
theorem es_mc_218 : (tables_1_8)[74]? = some (.code ⟨"EveryStreetModel", "levelBy", "(I)I"⟩ prog_14_method_59_code 6 (Option.some Jvm.ClassFile.FieldType.int)) := rfl
theorem es_mc_219 : (tables_1_8)[78]? = some (.code ⟨"EveryStreetModel", "isPass", "(I)Z"⟩ prog_14_method_13_code 2 (Option.some Jvm.ClassFile.FieldType.boolean)) := rfl
theorem es_mc_220 : (tables_1_8)[82]? = some (.code ⟨"EveryStreetModel", "ends", "(I)I"⟩ prog_14_method_12_code 2 (Option.some Jvm.ClassFile.FieldType.int)) := rfl
theorem es_mc_221 : (tables_1_8)[86]? = some (.code ⟨"EveryStreetModel", "begins", "(I)I"⟩ prog_14_method_11_code 2 (Option.some Jvm.ClassFile.FieldType.int)) := rfl
theorem es_mc_222 : (tables_1_8)[91]? = some (.code ⟨"EveryStreetModel", "pushes", "()I"⟩ prog_14_method_58_code 6 (Option.some Jvm.ClassFile.FieldType.int)) := rfl
theorem es_mc_223 : (tables_1_8)[95]? = some (.code ⟨"EveryStreetModel", "spreads", "()V"⟩ prog_14_method_57_code 5 (Option.none : Option Jvm.ClassFile.FieldType)) := rfl
theorem es_mc_224 : (tables_1_8)[99]? = some (.code ⟨"EveryStreetModel", "best", "(II)I"⟩ prog_14_method_68_code 4 (Option.some Jvm.ClassFile.FieldType.int)) := rfl
theorem es_mc_225 : (tables_1_8)[103]? = some (.code ⟨"EveryStreetModel", "all", "()I"⟩ prog_14_method_36_code 1 (Option.some Jvm.ClassFile.FieldType.int)) := rfl
theorem es_mc_226 : (tables_1_8)[107]? = some (.code ⟨"EveryStreetModel", "fills", "(III)V"⟩ prog_14_method_66_code 8 (Option.none : Option Jvm.ClassFile.FieldType)) := rfl
theorem es_mc_227 : (tables_1_8)[111]? = some (.code ⟨"EveryStreetModel", "isState", "(I)Z"⟩ prog_14_method_65_code 2 (Option.some Jvm.ClassFile.FieldType.boolean)) := rfl
theorem es_mc_228 : (tables_1_8)[115]? = some (.code ⟨"EveryStreetModel", "corner", "(II)I"⟩ prog_14_method_61_code 3 (Option.some Jvm.ClassFile.FieldType.int)) := rfl
theorem es_mc_229 : (tables_1_8)[119]? = some (.code ⟨"EveryStreetModel", "byNext", "(III)I"⟩ prog_14_method_64_code 7 (Option.some Jvm.ClassFile.FieldType.int)) := rfl
theorem es_mc_230 : (tables_1_8)[123]? = some (.code ⟨"EveryStreetModel", "stepMinutes", "(III)I"⟩ prog_14_method_62_code 5 (Option.some Jvm.ClassFile.FieldType.int)) := rfl
theorem es_mc_231 : (tables_1_8)[127]? = some (.code ⟨"EveryStreetModel", "turnBetween", "(II)I"⟩ prog_14_method_18_code 3 (Option.some Jvm.ClassFile.FieldType.int)) := rfl
theorem es_mc_232 : (tables_1_8)[131]? = some (.code ⟨"EveryStreetModel", "doneBehind", "(III)I"⟩ prog_14_method_38_code 7 (Option.some Jvm.ClassFile.FieldType.int)) := rfl
theorem es_mc_233 : (tables_1_8)[135]? = some (.code ⟨"EveryStreetModel", "remainOf", "(II)I"⟩ prog_14_method_63_code 3 (Option.some Jvm.ClassFile.FieldType.int)) := rfl
theorem es_mc_234 : (tables_1_8)[139]? = some (.code ⟨"EveryStreetModel", "walks", "(III)V"⟩ prog_14_method_67_code 10 (Option.none : Option Jvm.ClassFile.FieldType)) := rfl
theorem es_mc_235 : (tables_1_8)[143]? = some (.code ⟨"EveryStreetModel", "some", "(II)I"⟩ prog_14_method_69_code 4 (Option.some Jvm.ClassFile.FieldType.int)) := rfl
theorem es_mc_236 : (tables_1_8)[147]? = some (.code ⟨"EveryStreetModel", "bars", "(I)I"⟩ prog_14_method_71_code 7 (Option.some Jvm.ClassFile.FieldType.int)) := rfl
theorem es_mc_237 : (tables_1_8)[151]? = some (.code ⟨"EveryStreetModel", "isThere", "(II)Z"⟩ prog_14_method_70_code 3 (Option.some Jvm.ClassFile.FieldType.boolean)) := rfl
theorem es_mc_238 : (tables_1_8)[156]? = some (.code ⟨"EveryStreetModel", "give", "(I)I"⟩ prog_14_method_72_code 6 (Option.some Jvm.ClassFile.FieldType.int)) := rfl
theorem es_mc_239 : (tables_1_8)[160]? = some (.code ⟨"EveryStreetModel", "go", "(I)I"⟩ prog_14_method_73_code 3 (Option.some Jvm.ClassFile.FieldType.int)) := rfl
theorem es_mc_240 : (tables_1_8)[164]? = some (.code ⟨"EveryStreetModel", "undo", "(I)Z"⟩ prog_14_method_74_code 2 (Option.some Jvm.ClassFile.FieldType.boolean)) := rfl
theorem es_mc_241 : (tables_1_8)[168]? = some (.code ⟨"EveryStreetModel", "judge", "()I"⟩ prog_14_method_77_code 5 (Option.some Jvm.ClassFile.FieldType.int)) := rfl
theorem es_mc_242 : (tables_1_8)[172]? = some (.code ⟨"EveryStreetModel", "handPass", "(I)I"⟩ prog_14_method_75_code 2 (Option.some Jvm.ClassFile.FieldType.int)) := rfl
theorem es_mc_243 : (tables_1_8)[176]? = some (.code ⟨"EveryStreetModel", "doneByHand", "()I"⟩ prog_14_method_76_code 3 (Option.some Jvm.ClassFile.FieldType.int)) := rfl
theorem es_mc_244 : (tables_1_8)[180]? = some (.code ⟨"EveryStreetModel", "rest", "()I"⟩ prog_14_method_78_code 5 (Option.some Jvm.ClassFile.FieldType.int)) := rfl
theorem es_mc_245 : (tables_1_8)[184]? = some (.code ⟨"EveryStreetModel", "timed", "(I)I"⟩ prog_14_method_80_code 8 (Option.some Jvm.ClassFile.FieldType.int)) := rfl
theorem es_mc_246 : (tables_1_8)[189]? = some (.code ⟨"EveryStreetModel", "lasts", "(II)I"⟩ prog_14_method_79_code 3 (Option.some Jvm.ClassFile.FieldType.int)) := rfl
theorem es_mc_247 : (tables_1_8)[193]? = some (.code ⟨"EveryStreetModel", "busy", "(IIII)I"⟩ prog_14_method_81_code 9 (Option.some Jvm.ClassFile.FieldType.int)) := rfl
theorem es_mc_248 : (tables_1_8)[198]? = some (.code ⟨"EveryStreetModel", "open", "(III)Z"⟩ prog_14_method_82_code 4 (Option.some Jvm.ClassFile.FieldType.boolean)) := rfl
theorem es_mc_249 : (tables_1_8)[202]? = some (.code ⟨"EveryStreetModel", "soonest", "(II)I"⟩ prog_14_method_85_code 5 (Option.some Jvm.ClassFile.FieldType.int)) := rfl
theorem es_mc_250 : (tables_1_8)[206]? = some (.code ⟨"EveryStreetModel", "laysOut", "()V"⟩ prog_14_method_83_code 5 (Option.none : Option Jvm.ClassFile.FieldType)) := rfl
theorem es_mc_251 : (tables_1_8)[210]? = some (.code ⟨"EveryStreetModel", "hastens", "(II)Z"⟩ prog_14_method_84_code 11 (Option.some Jvm.ClassFile.FieldType.boolean)) := rfl
theorem es_mc_252 : (tables_1_8)[214]? = some (.code ⟨"EveryStreetModel", "add", "(IZ)I"⟩ prog_14_method_90_code 4 (Option.some Jvm.ClassFile.FieldType.int)) := rfl
theorem es_mc_253 : (tables_1_8)[218]? = some (.code ⟨"EveryStreetModel", "canBe", "(IZ)Z"⟩ prog_14_method_89_code 4 (Option.some Jvm.ClassFile.FieldType.boolean)) := rfl
theorem es_mc_254 : (tables_1_8)[222]? = some (.code ⟨"EveryStreetModel", "order", "()I"⟩ prog_14_method_91_code 2 (Option.some Jvm.ClassFile.FieldType.int)) := rfl
theorem es_mc_255 : (tables_1_8)[226]? = some (.code ⟨"EveryStreetModel", "joins", "()V"⟩ prog_14_method_86_code 5 (Option.none : Option Jvm.ClassFile.FieldType)) := rfl
theorem es_mc_256 : (tables_1_8)[230]? = some (.code ⟨"EveryStreetModel", "minutesOf", "([I[ZI)I"⟩ prog_14_method_88_code 7 (Option.some Jvm.ClassFile.FieldType.int)) := rfl
theorem es_mc_257 : (tables_1_8)[233]? = some (.code ⟨"EveryStreetModel", "passOf", "([I[Z[II)I"⟩ prog_14_method_87_code 4 (Option.some Jvm.ClassFile.FieldType.int)) := rfl
theorem es_mc_258 : (tables_1_8)[237]? = some (.code ⟨"EveryStreetModel", "build", "()I"⟩ prog_14_method_93_code 6 (Option.some Jvm.ClassFile.FieldType.int)) := rfl
theorem es_mc_259 : (tables_1_9)[1]? = some (.code ⟨"EveryStreetModel", "tries", "(I)V"⟩ prog_14_method_92_code 4 (Option.none : Option Jvm.ClassFile.FieldType)) := rfl
theorem es_mc_260 : (tables_1_9)[5]? = some (.code ⟨"EveryStreetModel", "better", "()I"⟩ prog_14_method_98_code 5 (Option.some Jvm.ClassFile.FieldType.int)) := rfl
theorem es_mc_261 : (tables_1_9)[9]? = some (.code ⟨"EveryStreetModel", "swaps", "()V"⟩ prog_14_method_95_code 3 (Option.none : Option Jvm.ClassFile.FieldType)) := rfl
theorem es_mc_262 : (tables_1_9)[13]? = some (.code ⟨"EveryStreetModel", "asItIs", "()V"⟩ prog_14_method_94_code 2 (Option.none : Option Jvm.ClassFile.FieldType)) := rfl
theorem es_mc_263 : (tables_1_9)[17]? = some (.code ⟨"EveryStreetModel", "turnsRound", "()V"⟩ prog_14_method_96_code 6 (Option.none : Option Jvm.ClassFile.FieldType)) := rfl
theorem es_mc_264 : (tables_1_9)[21]? = some (.code ⟨"EveryStreetModel", "movesOne", "()V"⟩ prog_14_method_97_code 6 (Option.none : Option Jvm.ClassFile.FieldType)) := rfl
theorem es_mc_265 : (tables_1_9)[25]? = some (.code ⟨"EveryStreetModel", "pass", "(II)I"⟩ prog_14_method_99_code 3 (Option.some Jvm.ClassFile.FieldType.int)) := rfl
theorem es_mc_266 : (tables_1_9)[29]? = some (.code ⟨"EveryStreetModel", "carts", "(IIII)I"⟩ prog_14_method_104_code 6 (Option.some Jvm.ClassFile.FieldType.int)) := rfl
theorem es_mc_267 : (tables_1_9)[34]? = some (.code ⟨"EveryStreetModel", "loadOf", "(I)I"⟩ prog_14_method_103_code 4 (Option.some Jvm.ClassFile.FieldType.int)) := rfl
theorem es_mc_268 : (tables_1_9)[38]? = some (.code ⟨"EveryStreetModel", "shares", "(IZZ)V"⟩ prog_14_method_101_code 8 (Option.none : Option Jvm.ClassFile.FieldType)) := rfl
theorem es_mc_269 : (tables_1_9)[42]? = some (.code ⟨"EveryStreetModel", "joined", "(IIZ)I"⟩ prog_14_method_100_code 4 (Option.some Jvm.ClassFile.FieldType.int)) := rfl
theorem es_mc_270 : (tables_1_9)[46]? = some (.code ⟨"EveryStreetModel", "tellsShares", "(IZZ)V"⟩ prog_14_method_102_code 9 (Option.none : Option Jvm.ClassFile.FieldType)) := rfl
theorem es_mc_271 : (tables_1_9)[50]? = some (.code ⟨"EveryStreetModel", "parts", "(I)I"⟩ prog_14_method_106_code 5 (Option.some Jvm.ClassFile.FieldType.int)) := rfl
theorem es_mc_272 : (tables_1_9)[54]? = some (.code ⟨"EveryStreetModel", "hangs", "(I)Z"⟩ prog_14_method_105_code 8 (Option.some Jvm.ClassFile.FieldType.boolean)) := rfl
theorem es_mc_273 : (tables_1_9)[58]? = some (.code ⟨"EveryStreetModel", "straight", "(III)Z"⟩ prog_14_method_107_code 5 (Option.some Jvm.ClassFile.FieldType.boolean)) := rfl
theorem es_mc_274 : (tables_1_9)[62]? = some (.code ⟨"EveryStreetModel", "card", "()I"⟩ prog_14_method_111_code 3 (Option.some Jvm.ClassFile.FieldType.int)) := rfl
theorem es_mc_275 : (tables_1_9)[66]? = some (.code ⟨"EveryStreetModel", "writes", "()I"⟩ prog_14_method_110_code 3 (Option.some Jvm.ClassFile.FieldType.int)) := rfl
theorem es_mc_276 : (tables_1_9)[70]? = some (.code ⟨"EveryStreetModel", "cameAhead", "(I)I"⟩ prog_14_method_109_code 3 (Option.some Jvm.ClassFile.FieldType.int)) := rfl
theorem es_mc_277 : (tables_1_9)[74]? = some (.code ⟨"EveryStreetModel", "isStraight", "(I)Z"⟩ prog_14_method_108_code 2 (Option.some Jvm.ClassFile.FieldType.boolean)) := rfl
theorem es_mc_278 : (tables_1_9)[78]? = some (.code ⟨"EveryStreetModel", "mislead", "(I)I"⟩ prog_14_method_112_code 2 (Option.some Jvm.ClassFile.FieldType.int)) := rfl
theorem es_mc_279 : (tables_1_9)[82]? = some (.code ⟨"EveryStreetModel", "keep", "(I)Z"⟩ prog_14_method_115_code 2 (Option.some Jvm.ClassFile.FieldType.boolean)) := rfl
theorem es_mc_280 : (tables_1_9)[87]? = some (.code ⟨"EveryStreetModel", "passes", "(IZ)V"⟩ prog_14_method_114_code 4 (Option.none : Option Jvm.ClassFile.FieldType)) := rfl
theorem es_mc_281 : (tables_1_9)[91]? = some (.code ⟨"EveryStreetModel", "passing", "(IIZ)I"⟩ prog_14_method_113_code 5 (Option.some Jvm.ClassFile.FieldType.int)) := rfl
theorem es_mc_282 : (tables_1_9)[95]? = some (.code ⟨"EveryStreetModel", "again", "(I)Z"⟩ prog_14_method_116_code 2 (Option.some Jvm.ClassFile.FieldType.boolean)) := rfl
theorem es_mc_283 : (tables_1_9)[99]? = some (.code ⟨"EveryStreetModel", "count", "(I)I"⟩ prog_14_method_119_code 2 (Option.some Jvm.ClassFile.FieldType.int)) := rfl
theorem es_mc_284 : (tables_1_9)[103]? = some (.code ⟨"EveryStreetModel", "turnsTold", "()I"⟩ prog_14_method_117_code 3 (Option.some Jvm.ClassFile.FieldType.int)) := rfl
theorem es_mc_285 : (tables_1_9)[107]? = some (.code ⟨"EveryStreetModel", "shutMany", "()I"⟩ prog_14_method_118_code 3 (Option.some Jvm.ClassFile.FieldType.int)) := rfl
theorem es_mc_286 : (tables_1_9)[111]? = some (.code ⟨"EveryStreetModel", "row", "(I)I"⟩ prog_14_method_120_code 2 (Option.some Jvm.ClassFile.FieldType.int)) := rfl
theorem es_mc_287 : (tables_1_9)[115]? = some (.code ⟨"EveryStreetModel", "refuse", "()I"⟩ prog_14_method_3_code 1 (Option.some Jvm.ClassFile.FieldType.int)) := rfl
theorem es_mc_288 : (tables_1_4)[9]? = some (.code ⟨"java/lang/Integer", "bitCount", "(I)I"⟩ prog_16_method_49_code 1 (Option.some Jvm.ClassFile.FieldType.int)) := rfl
theorem es_mc_289 : (tables_1_4)[19]? = some (.code ⟨"java/lang/Integer", "numberOfTrailingZeros", "(I)I"⟩ prog_16_method_48_code 2 (Option.some Jvm.ClassFile.FieldType.int)) := rfl
theorem es_mc_290 : (tables_1_1)[38]? = some (.code ⟨"java/util/Arrays", "fill", "([II)V"⟩ prog_21_method_103_code 4 (Option.none : Option Jvm.ClassFile.FieldType)) := rfl
theorem es_mc_291 : (tables_1_4)[98]? = some (.code ⟨"java/util/Arrays", "fill", "([IIII)V"⟩ prog_21_method_104_code 5 (Option.none : Option Jvm.ClassFile.FieldType)) := rfl
theorem es_mc_292 : (tables_1_4)[101]? = some (.code ⟨"java/util/Arrays", "rangeCheck", "(III)V"⟩ prog_21_method_30_code 3 (Option.none : Option Jvm.ClassFile.FieldType)) := rfl
theorem es_mc_293 : (tables_1_4)[236]? = some (.code ⟨"java/util/Arrays", "fill", "([JIIJ)V"⟩ prog_21_method_102_code 6 (Option.none : Option Jvm.ClassFile.FieldType)) := rfl
