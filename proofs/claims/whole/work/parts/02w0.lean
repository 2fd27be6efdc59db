theorem wq_0 : Cond.selects RX7 yX7_lanesTooMuddy yX7_lanesTooMuddy ∈ lw_all := lw_mem (List.mem_of_getElem? (i := 0) (by decide +kernel)) rfl
theorem wq_1 : Cond.selects RX7 yX7_rainOf yX7_rainOf ∈ lw_all := lw_mem (List.mem_of_getElem? (i := 1) (by decide +kernel)) rfl
theorem wq_2 : Cond.selects RX7 yX7_readersAt yX7_readersAt ∈ lw_all := lw_mem (List.mem_of_getElem? (i := 2) (by decide +kernel)) rfl
theorem wq_3 : Cond.selects RX7 yX7_lanesAt yX7_lanesAt ∈ lw_all := lw_mem (List.mem_of_getElem? (i := 3) (by decide +kernel)) rfl
theorem wq_4 : Cond.selects RX7 yX7_readersWhoRead yX7_readersWhoRead ∈ lw_all := lw_mem (List.mem_of_getElem? (i := 4) (by decide +kernel)) rfl
theorem wq_5 : Cond.selects RX7 yX7_booksReservedBy yX7_booksReservedBy ∈ lw_all := lw_mem (List.mem_of_getElem? (i := 5) (by decide +kernel)) rfl
theorem wq_6 : Cond.selects "java/lang/Throwable" (⟨"java/lang/Throwable", "fillInStackTrace", "(I)Ljava/lang/Throwable;"⟩ : MethodName) (⟨"java/lang/Throwable", "fillInStackTrace", "(I)Ljava/lang/Throwable;"⟩ : MethodName) ∈ lw_all := lw_mem (List.mem_of_getElem? (i := 6) (by decide +kernel)) rfl
theorem wq_7 : Cond.selects RJx4a65c yJx4a65c_add_72be8 yJx4a65c_add_72be8 ∈ lw_all := lw_mem (List.mem_of_getElem? (i := 7) (by decide +kernel)) rfl
theorem wq_8 : Cond.selects RJx4a65c yJx4a65c_grow_d5877 yJx4a65c_grow_d5877 ∈ lw_all := lw_mem (List.mem_of_getElem? (i := 8) (by decide +kernel)) rfl
theorem wq_9 : Cond.selects RJx4a65c yJx4a65c_grow_92f84 yJx4a65c_grow_92f84 ∈ lw_all := lw_mem (List.mem_of_getElem? (i := 9) (by decide +kernel)) rfl
theorem wq_10 : Cond.selects RX8 yX8_needHalt yX8_needHalt ∈ lw_all := lw_mem (List.mem_of_getElem? (i := 10) (by decide +kernel)) rfl
theorem wq_11 : Cond.selects RX6 yX6_shorten yX6_shorten ∈ lw_all := lw_mem (List.mem_of_getElem? (i := 11) (by decide +kernel)) rfl
theorem wq_12 : Cond.selects RX8 yX8_needReader yX8_needReader ∈ lw_all := lw_mem (List.mem_of_getElem? (i := 12) (by decide +kernel)) rfl
theorem wq_13 : Cond.selects RX8 yX8_needBook yX8_needBook ∈ lw_all := lw_mem (List.mem_of_getElem? (i := 13) (by decide +kernel)) rfl
theorem wq_14 : Cond.selects RX7 yX7_weather yX7_weather ∈ lw_all := lw_mem (List.mem_of_getElem? (i := 14) (by decide +kernel)) rfl
theorem wq_15 : Cond.selects RX7 yX7_goRound yX7_goRound ∈ lw_all := lw_mem (List.mem_of_getElem? (i := 15) (by decide +kernel)) rfl
theorem wq_16 : Cond.selects RX7 yX7_takeBooksBack yX7_takeBooksBack ∈ lw_all := lw_mem (List.mem_of_getElem? (i := 16) (by decide +kernel)) rfl
theorem wq_17 : Cond.selects RX7 yX7_readerWith yX7_readerWith ∈ lw_all := lw_mem (List.mem_of_getElem? (i := 17) (by decide +kernel)) rfl
theorem wq_18 : Cond.selects RX7 yX7_lendReservedBooks yX7_lendReservedBooks ∈ lw_all := lw_mem (List.mem_of_getElem? (i := 18) (by decide +kernel)) rfl
theorem wq_19 : Cond.selects RX7 yX7_lendOtherBooks yX7_lendOtherBooks ∈ lw_all := lw_mem (List.mem_of_getElem? (i := 19) (by decide +kernel)) rfl
theorem wq_20 : Cond.selects RX7 yX7_lendOtherBookTo yX7_lendOtherBookTo ∈ lw_all := lw_mem (List.mem_of_getElem? (i := 20) (by decide +kernel)) rfl
theorem wq_21 : Cond.selects RX7 yX7_noteVisit yX7_noteVisit ∈ lw_all := lw_mem (List.mem_of_getElem? (i := 21) (by decide +kernel)) rfl
theorem wq_22 : Cond.selects RX8 yX8_loansAhead yX8_loansAhead ∈ lw_all := lw_mem (List.mem_of_getElem? (i := 22) (by decide +kernel)) rfl
theorem wq_23 : Cond.selects RX10 yX10_no yX10_no ∈ lw_all := lw_mem (List.mem_of_getElem? (i := 23) (by decide +kernel)) rfl
theorem wq_24 : Cond.selects RX10 yX10_isHalt yX10_isHalt ∈ lw_all := lw_mem (List.mem_of_getElem? (i := 24) (by decide +kernel)) rfl
theorem wq_25 : Cond.selects RX10 yX10_haltTold yX10_haltTold ∈ lw_all := lw_mem (List.mem_of_getElem? (i := 25) (by decide +kernel)) rfl
theorem wq_26 : Cond.selects RX10 yX10_laneTold yX10_laneTold ∈ lw_all := lw_mem (List.mem_of_getElem? (i := 26) (by decide +kernel)) rfl
theorem wq_27 : Cond.selects RX9 yX9_relax yX9_relax ∈ lw_all := lw_mem (List.mem_of_getElem? (i := 27) (by decide +kernel)) rfl
theorem wq_28 : Cond.selects RX10 yX10_isReader yX10_isReader ∈ lw_all := lw_mem (List.mem_of_getElem? (i := 28) (by decide +kernel)) rfl
theorem wq_29 : Cond.selects RX10 yX10_isBook yX10_isBook ∈ lw_all := lw_mem (List.mem_of_getElem? (i := 29) (by decide +kernel)) rfl
theorem wq_30 : Cond.selects RX10 yX10_bookTold yX10_bookTold ∈ lw_all := lw_mem (List.mem_of_getElem? (i := 30) (by decide +kernel)) rfl
theorem wq_31 : Cond.selects RX10 yX10_readerTold yX10_readerTold ∈ lw_all := lw_mem (List.mem_of_getElem? (i := 31) (by decide +kernel)) rfl
theorem wq_32 : Cond.selects RX9 yX9_serve yX9_serve ∈ lw_all := lw_mem (List.mem_of_getElem? (i := 32) (by decide +kernel)) rfl
theorem wq_33 : Cond.selects RX9 yX9_bringBack yX9_bringBack ∈ lw_all := lw_mem (List.mem_of_getElem? (i := 33) (by decide +kernel)) rfl
theorem wq_34 : Cond.selects RX9 yX9_lend yX9_lend ∈ lw_all := lw_mem (List.mem_of_getElem? (i := 34) (by decide +kernel)) rfl
theorem wq_35 : Cond.selects RX9 yX9_choose yX9_choose ∈ lw_all := lw_mem (List.mem_of_getElem? (i := 35) (by decide +kernel)) rfl
theorem wq_36 : Cond.selects RX10 yX10_counted yX10_counted ∈ lw_all := lw_mem (List.mem_of_getElem? (i := 36) (by decide +kernel)) rfl
theorem wq_37 : Cond.selects RX9 yX9_copy yX9_copy ∈ lw_all := lw_mem (List.mem_of_getElem? (i := 37) (by decide +kernel)) rfl
theorem wq_38 : Cond.initialized RL ∈ lw_all := lw_mem (List.mem_of_getElem? (i := 38) (by decide +kernel)) rfl
theorem wq_39 : Cond.initialized RX8 ∈ lw_all := lw_mem (List.mem_of_getElem? (i := 39) (by decide +kernel)) rfl
theorem wq_40 : Cond.initialized RX7 ∈ lw_all := lw_mem (List.mem_of_getElem? (i := 40) (by decide +kernel)) rfl
theorem wq_41 : Cond.initialized RJxa1e45 ∈ lw_all := lw_mem (List.mem_of_getElem? (i := 41) (by decide +kernel)) rfl
theorem wq_42 : Cond.initialized RJxc12de ∈ lw_all := lw_mem (List.mem_of_getElem? (i := 42) (by decide +kernel)) rfl
theorem wq_43 : Cond.initialized RJx4a65c ∈ lw_all := lw_mem (List.mem_of_getElem? (i := 43) (by decide +kernel)) rfl
theorem wq_44 : Cond.initialized RX6 ∈ lw_all := lw_mem (List.mem_of_getElem? (i := 44) (by decide +kernel)) rfl
theorem wq_45 : Cond.initialized RX5 ∈ lw_all := lw_mem (List.mem_of_getElem? (i := 45) (by decide +kernel)) rfl
theorem wq_46 : Cond.initialized RX10 ∈ lw_all := lw_mem (List.mem_of_getElem? (i := 46) (by decide +kernel)) rfl
theorem wq_47 : Cond.initialized RX9 ∈ lw_all := lw_mem (List.mem_of_getElem? (i := 47) (by decide +kernel)) rfl
theorem wq_48 : Cond.initialized "java/lang/Throwable" ∈ lw_all := lw_mem (List.mem_of_getElem? (i := 48) (by decide +kernel)) rfl
theorem wq_49 : Cond.initialized "java/lang/Exception" ∈ lw_all := lw_mem (List.mem_of_getElem? (i := 49) (by decide +kernel)) rfl
theorem wq_50 : Cond.initialized "java/lang/RuntimeException" ∈ lw_all := lw_mem (List.mem_of_getElem? (i := 50) (by decide +kernel)) rfl
theorem wq_51 : Cond.initialized "java/lang/IllegalStateException" ∈ lw_all := lw_mem (List.mem_of_getElem? (i := 51) (by decide +kernel)) rfl
theorem wq_52 : Cond.initialized RX1 ∈ lw_all := lw_mem (List.mem_of_getElem? (i := 52) (by decide +kernel)) rfl
theorem wq_53 : Cond.initialized RJ8 ∈ lw_all := lw_mem (List.mem_of_getElem? (i := 53) (by decide +kernel)) rfl
theorem wq_54 : Cond.initialized RJ9 ∈ lw_all := lw_mem (List.mem_of_getElem? (i := 54) (by decide +kernel)) rfl
theorem wq_55 : Cond.initialized RJ7 ∈ lw_all := lw_mem (List.mem_of_getElem? (i := 55) (by decide +kernel)) rfl
theorem wq_56 : Cond.initialized RJ10 ∈ lw_all := lw_mem (List.mem_of_getElem? (i := 56) (by decide +kernel)) rfl
theorem wq_57 : Cond.initialized "java/lang/IndexOutOfBoundsException" ∈ lw_all := lw_mem (List.mem_of_getElem? (i := 57) (by decide +kernel)) rfl
theorem wq_58 : Cond.initialized "java/lang/IllegalArgumentException" ∈ lw_all := lw_mem (List.mem_of_getElem? (i := 58) (by decide +kernel)) rfl
theorem wq_59 : Cond.initialized RX2 ∈ lw_all := lw_mem (List.mem_of_getElem? (i := 59) (by decide +kernel)) rfl
theorem wq_60 : Cond.initialized RJ15 ∈ lw_all := lw_mem (List.mem_of_getElem? (i := 60) (by decide +kernel)) rfl
theorem wq_61 : Cond.initialized RJ3 ∈ lw_all := lw_mem (List.mem_of_getElem? (i := 61) (by decide +kernel)) rfl
theorem wq_62 : Cond.initialized RX0 ∈ lw_all := lw_mem (List.mem_of_getElem? (i := 62) (by decide +kernel)) rfl
theorem wq_63 : Cond.initialized RX3 ∈ lw_all := lw_mem (List.mem_of_getElem? (i := 63) (by decide +kernel)) rfl
theorem wq_64 : Cond.initialized RX4 ∈ lw_all := lw_mem (List.mem_of_getElem? (i := 64) (by decide +kernel)) rfl
theorem wq_65 : Cond.initialized RJ6 ∈ lw_all := lw_mem (List.mem_of_getElem? (i := 65) (by decide +kernel)) rfl
theorem wq_66 : Cond.classLink RL 8 "LibraryVan" ∈ lw_all := lw_mem (List.mem_of_getElem? (i := 66) (by decide +kernel)) rfl
theorem wq_67 : Cond.instantiable RX8 2 ∈ lw_all := lw_mem (List.mem_of_getElem? (i := 67) (by decide +kernel)) rfl
theorem wq_68 : Cond.methodLink RL 77 yX8_init ∈ lw_all := lw_mem (List.mem_of_getElem? (i := 68) (by decide +kernel)) rfl
theorem wq_69 : Cond.instanceMethod yX8_init ∈ lw_all := lw_mem (List.mem_of_getElem? (i := 69) (by decide +kernel)) rfl
theorem wq_70 : Cond.code yX8_init cX8_init 1 (Option.none : Option Jvm.ClassFile.FieldType) ∈ lw_all := lw_mem (List.mem_of_getElem? (i := 70) (by decide +kernel)) rfl
theorem wq_71 : Cond.methodLink RX8 1 (⟨"java/lang/Object", "<init>", "()V"⟩ : MethodName) ∈ lw_all := lw_mem (List.mem_of_getElem? (i := 71) (by decide +kernel)) rfl
theorem wq_72 : Cond.instanceMethod (⟨"java/lang/Object", "<init>", "()V"⟩ : MethodName) ∈ lw_all := lw_mem (List.mem_of_getElem? (i := 72) (by decide +kernel)) rfl
theorem wq_73 : Cond.code (⟨"java/lang/Object", "<init>", "()V"⟩ : MethodName) object_method_1_code 1 (Option.none : Option Jvm.ClassFile.FieldType) ∈ lw_all := lw_mem (List.mem_of_getElem? (i := 73) (by decide +kernel)) rfl
theorem wq_74 : Cond.classLink RX8 7 "LibraryVan$World" ∈ lw_all := lw_mem (List.mem_of_getElem? (i := 74) (by decide +kernel)) rfl
theorem wq_75 : Cond.instantiable RX7 9 ∈ lw_all := lw_mem (List.mem_of_getElem? (i := 75) (by decide +kernel)) rfl
theorem wq_76 : Cond.methodLinkNest RX8 9 yX7_init "LibraryVan" ∈ lw_tbl := List.mem_of_getElem? (i := 76) (by decide +kernel)
theorem wq_77 : Cond.instanceMethod yX7_init ∈ lw_all := lw_mem (List.mem_of_getElem? (i := 77) (by decide +kernel)) rfl
theorem wq_78 : Cond.code yX7_init cX7_init 1 (Option.none : Option Jvm.ClassFile.FieldType) ∈ lw_all := lw_mem (List.mem_of_getElem? (i := 78) (by decide +kernel)) rfl
theorem wq_79 : Cond.methodLink RX7 3 (⟨"java/lang/Object", "<init>", "()V"⟩ : MethodName) ∈ lw_all := lw_mem (List.mem_of_getElem? (i := 79) (by decide +kernel)) rfl
theorem wq_80 : Cond.classLink RX7 9 "java/util/ArrayList" ∈ lw_all := lw_mem (List.mem_of_getElem? (i := 80) (by decide +kernel)) rfl
theorem wq_81 : Cond.instantiable RJx4a65c 3 ∈ lw_all := lw_mem (List.mem_of_getElem? (i := 81) (by decide +kernel)) rfl
theorem wq_82 : Cond.methodLink RX7 11 yJx4a65c_init_da8c8 ∈ lw_all := lw_mem (List.mem_of_getElem? (i := 82) (by decide +kernel)) rfl
theorem wq_83 : Cond.instanceMethod yJx4a65c_init_da8c8 ∈ lw_all := lw_mem (List.mem_of_getElem? (i := 83) (by decide +kernel)) rfl
theorem wq_84 : Cond.code yJx4a65c_init_da8c8 cJx4a65c_init_da8c8 1 (Option.none : Option Jvm.ClassFile.FieldType) ∈ lw_all := lw_mem (List.mem_of_getElem? (i := 84) (by decide +kernel)) rfl
theorem wq_85 : Cond.methodLink RJx4a65c 1 yJxc12de_init_da8c8 ∈ lw_all := lw_mem (List.mem_of_getElem? (i := 85) (by decide +kernel)) rfl
theorem wq_86 : Cond.instanceMethod yJxc12de_init_da8c8 ∈ lw_all := lw_mem (List.mem_of_getElem? (i := 86) (by decide +kernel)) rfl
theorem wq_87 : Cond.code yJxc12de_init_da8c8 cJxc12de_init_da8c8 1 (Option.none : Option Jvm.ClassFile.FieldType) ∈ lw_all := lw_mem (List.mem_of_getElem? (i := 87) (by decide +kernel)) rfl
theorem wq_88 : Cond.methodLink RJxc12de 1 yJxa1e45_init_da8c8 ∈ lw_all := lw_mem (List.mem_of_getElem? (i := 88) (by decide +kernel)) rfl
theorem wq_89 : Cond.instanceMethod yJxa1e45_init_da8c8 ∈ lw_all := lw_mem (List.mem_of_getElem? (i := 89) (by decide +kernel)) rfl
theorem wq_90 : Cond.code yJxa1e45_init_da8c8 cJxa1e45_init_da8c8 1 (Option.none : Option Jvm.ClassFile.FieldType) ∈ lw_all := lw_mem (List.mem_of_getElem? (i := 90) (by decide +kernel)) rfl
theorem wq_91 : Cond.methodLink RJxa1e45 1 (⟨"java/lang/Object", "<init>", "()V"⟩ : MethodName) ∈ lw_all := lw_mem (List.mem_of_getElem? (i := 91) (by decide +kernel)) rfl
theorem wq_92 : Cond.fieldLink RJx4a65c 39 "java/util/ArrayList" "DEFAULTCAPACITY_EMPTY_ELEMENTDATA" "[Ljava/lang/Object;" ∈ lw_all := lw_mem (List.mem_of_getElem? (i := 92) (by decide +kernel)) rfl
theorem wq_93 : Cond.laysStatic "java/util/ArrayList" "DEFAULTCAPACITY_EMPTY_ELEMENTDATA" "[Ljava/lang/Object;" ∈ lw_tbl := List.mem_of_getElem? (i := 93) (by decide +kernel)
theorem wq_94 : Cond.fieldLink RJx4a65c 9 "java/util/ArrayList" "elementData" "[Ljava/lang/Object;" ∈ lw_all := lw_mem (List.mem_of_getElem? (i := 94) (by decide +kernel)) rfl
theorem wq_95 : Cond.fieldLink RJx4a65c 48 "java/util/ArrayList" "size" "I" ∈ lw_all := lw_mem (List.mem_of_getElem? (i := 95) (by decide +kernel)) rfl
theorem wq_96 : Cond.fieldLink RJxc12de 7 "java/util/AbstractList" "modCount" "I" ∈ lw_all := lw_mem (List.mem_of_getElem? (i := 96) (by decide +kernel)) rfl
theorem wq_97 : Cond.fieldLink RJx4a65c 63 "java/util/ArrayList" "modCount" "I" ∈ lw_all := lw_mem (List.mem_of_getElem? (i := 97) (by decide +kernel)) rfl
theorem wq_98 : Cond.sameField "java/util/ArrayList" "java/util/AbstractList" "modCount" "I" ∈ lw_tbl := List.mem_of_getElem? (i := 98) (by decide +kernel)
theorem wq_99 : Cond.lays RJx4a65c "java/util/ArrayList" "elementData" "[Ljava/lang/Object;" ∈ lw_all := lw_mem (List.mem_of_getElem? (i := 99) (by decide +kernel)) rfl
theorem wq_101 : Cond.lays RJx4a65c "java/util/ArrayList" "size" "I" ∈ lw_all := lw_mem (List.mem_of_getElem? (i := 101) (by decide +kernel)) rfl
theorem wq_103 : Cond.lays RJx4a65c "java/util/AbstractList" "modCount" "I" ∈ lw_all := lw_mem (List.mem_of_getElem? (i := 103) (by decide +kernel)) rfl
theorem wq_106 : Cond.classLink RX7 27 "LibraryVan$Ways" ∈ lw_all := lw_mem (List.mem_of_getElem? (i := 106) (by decide +kernel)) rfl
theorem wq_107 : Cond.instantiable RX6 1 ∈ lw_all := lw_mem (List.mem_of_getElem? (i := 107) (by decide +kernel)) rfl
theorem wq_108 : Cond.methodLinkNest RX7 29 yX6_init "LibraryVan" ∈ lw_tbl := List.mem_of_getElem? (i := 108) (by decide +kernel)
theorem wq_109 : Cond.instanceMethod yX6_init ∈ lw_all := lw_mem (List.mem_of_getElem? (i := 109) (by decide +kernel)) rfl
theorem wq_110 : Cond.code yX6_init cX6_init 1 (Option.none : Option Jvm.ClassFile.FieldType) ∈ lw_all := lw_mem (List.mem_of_getElem? (i := 110) (by decide +kernel)) rfl
theorem wq_111 : Cond.methodLink RX6 3 (⟨"java/lang/Object", "<init>", "()V"⟩ : MethodName) ∈ lw_all := lw_mem (List.mem_of_getElem? (i := 111) (by decide +kernel)) rfl
theorem wq_112 : Cond.fieldLink RX6 9 "LibraryVan$Ways" "times" "[I" ∈ lw_all := lw_mem (List.mem_of_getElem? (i := 112) (by decide +kernel)) rfl
theorem wq_113 : Cond.laysFinal RX6 "LibraryVan$Ways" "times" "[I" ∈ lw_all := lw_mem (List.mem_of_getElem? (i := 113) (by decide +kernel)) rfl
theorem wq_116 : Cond.arrayClass Jvm.ClassFile.FieldType.int ∈ lw_all := lw_mem (List.mem_of_getElem? (i := 116) (by decide +kernel)) rfl
theorem wq_117 : Cond.classLink RX7 34 "LibraryVan$Round" ∈ lw_all := lw_mem (List.mem_of_getElem? (i := 117) (by decide +kernel)) rfl
theorem wq_118 : Cond.instantiable RX5 3 ∈ lw_all := lw_mem (List.mem_of_getElem? (i := 118) (by decide +kernel)) rfl
theorem wq_119 : Cond.methodLinkNest RX7 36 yX5_init "LibraryVan" ∈ lw_tbl := List.mem_of_getElem? (i := 119) (by decide +kernel)
theorem wq_120 : Cond.instanceMethod yX5_init ∈ lw_all := lw_mem (List.mem_of_getElem? (i := 120) (by decide +kernel)) rfl
theorem wq_121 : Cond.code yX5_init cX5_init 1 (Option.none : Option Jvm.ClassFile.FieldType) ∈ lw_all := lw_mem (List.mem_of_getElem? (i := 121) (by decide +kernel)) rfl
theorem wq_122 : Cond.methodLink RX5 3 (⟨"java/lang/Object", "<init>", "()V"⟩ : MethodName) ∈ lw_all := lw_mem (List.mem_of_getElem? (i := 122) (by decide +kernel)) rfl
theorem wq_123 : Cond.fieldLink RX5 9 "LibraryVan$Round" "halts" "[I" ∈ lw_all := lw_mem (List.mem_of_getElem? (i := 123) (by decide +kernel)) rfl
theorem wq_124 : Cond.fieldLink RX5 19 "LibraryVan$Round" "size" "I" ∈ lw_all := lw_mem (List.mem_of_getElem? (i := 124) (by decide +kernel)) rfl
theorem wq_125 : Cond.fieldLink RX5 15 "LibraryVan$Round" "minutes" "I" ∈ lw_all := lw_mem (List.mem_of_getElem? (i := 125) (by decide +kernel)) rfl
theorem wq_126 : Cond.fieldLinkNest RX7 122 "LibraryVan$Round" "minutes" "I" "LibraryVan" ∈ lw_tbl := List.mem_of_getElem? (i := 126) (by decide +kernel)
theorem wq_127 : Cond.laysFinal RX5 "LibraryVan$Round" "halts" "[I" ∈ lw_all := lw_mem (List.mem_of_getElem? (i := 127) (by decide +kernel)) rfl
theorem wq_129 : Cond.lays RX5 "LibraryVan$Round" "size" "I" ∈ lw_all := lw_mem (List.mem_of_getElem? (i := 129) (by decide +kernel)) rfl
theorem wq_131 : Cond.lays RX5 "LibraryVan$Round" "minutes" "I" ∈ lw_all := lw_mem (List.mem_of_getElem? (i := 131) (by decide +kernel)) rfl
theorem wq_134 : Cond.fieldLink RX7 12 "LibraryVan$World" "halts" "Ljava/util/ArrayList;" ∈ lw_all := lw_mem (List.mem_of_getElem? (i := 134) (by decide +kernel)) rfl
theorem wq_135 : Cond.fieldLinkNest RX8 19 "LibraryVan$World" "halts" "Ljava/util/ArrayList;" "LibraryVan" ∈ lw_tbl := List.mem_of_getElem? (i := 135) (by decide +kernel)
theorem wq_136 : Cond.fieldLink RX7 18 "LibraryVan$World" "lanes" "Ljava/util/ArrayList;" ∈ lw_all := lw_mem (List.mem_of_getElem? (i := 136) (by decide +kernel)) rfl
theorem wq_137 : Cond.fieldLinkNest RX8 60 "LibraryVan$World" "lanes" "Ljava/util/ArrayList;" "LibraryVan" ∈ lw_tbl := List.mem_of_getElem? (i := 137) (by decide +kernel)
theorem wq_138 : Cond.fieldLink RX7 21 "LibraryVan$World" "books" "Ljava/util/ArrayList;" ∈ lw_all := lw_mem (List.mem_of_getElem? (i := 138) (by decide +kernel)) rfl
theorem wq_139 : Cond.fieldLinkNest RX8 112 "LibraryVan$World" "books" "Ljava/util/ArrayList;" "LibraryVan" ∈ lw_tbl := List.mem_of_getElem? (i := 139) (by decide +kernel)
theorem wq_140 : Cond.fieldLink RX7 24 "LibraryVan$World" "readers" "Ljava/util/ArrayList;" ∈ lw_all := lw_mem (List.mem_of_getElem? (i := 140) (by decide +kernel)) rfl
theorem wq_141 : Cond.fieldLinkNest RX8 123 "LibraryVan$World" "readers" "Ljava/util/ArrayList;" "LibraryVan" ∈ lw_tbl := List.mem_of_getElem? (i := 141) (by decide +kernel)
theorem wq_142 : Cond.fieldLink RX7 30 "LibraryVan$World" "ways" "LLibraryVan$Ways;" ∈ lw_all := lw_mem (List.mem_of_getElem? (i := 142) (by decide +kernel)) rfl
theorem wq_143 : Cond.fieldLink RX7 37 "LibraryVan$World" "round" "LLibraryVan$Round;" ∈ lw_all := lw_mem (List.mem_of_getElem? (i := 143) (by decide +kernel)) rfl
theorem wq_144 : Cond.fieldLinkNest RX8 91 "LibraryVan$World" "round" "LLibraryVan$Round;" "LibraryVan" ∈ lw_tbl := List.mem_of_getElem? (i := 144) (by decide +kernel)
theorem wq_145 : Cond.fieldLink RX7 41 "LibraryVan$World" "rain" "[I" ∈ lw_all := lw_mem (List.mem_of_getElem? (i := 145) (by decide +kernel)) rfl
theorem wq_146 : Cond.fieldLink RX7 94 "LibraryVan$World" "day" "I" ∈ lw_all := lw_mem (List.mem_of_getElem? (i := 146) (by decide +kernel)) rfl
theorem wq_147 : Cond.fieldLinkNest RX8 210 "LibraryVan$World" "day" "I" "LibraryVan" ∈ lw_tbl := List.mem_of_getElem? (i := 147) (by decide +kernel)
theorem wq_148 : Cond.fieldLink RX7 97 "LibraryVan$World" "latestMinutes" "I" ∈ lw_all := lw_mem (List.mem_of_getElem? (i := 148) (by decide +kernel)) rfl
theorem wq_149 : Cond.laysFinal RX7 "LibraryVan$World" "halts" "Ljava/util/ArrayList;" ∈ lw_all := lw_mem (List.mem_of_getElem? (i := 149) (by decide +kernel)) rfl
theorem wq_151 : Cond.laysFinal RX7 "LibraryVan$World" "lanes" "Ljava/util/ArrayList;" ∈ lw_all := lw_mem (List.mem_of_getElem? (i := 151) (by decide +kernel)) rfl
theorem wq_153 : Cond.laysFinal RX7 "LibraryVan$World" "books" "Ljava/util/ArrayList;" ∈ lw_all := lw_mem (List.mem_of_getElem? (i := 153) (by decide +kernel)) rfl
theorem wq_155 : Cond.laysFinal RX7 "LibraryVan$World" "readers" "Ljava/util/ArrayList;" ∈ lw_all := lw_mem (List.mem_of_getElem? (i := 155) (by decide +kernel)) rfl
theorem wq_157 : Cond.laysFinal RX7 "LibraryVan$World" "ways" "LLibraryVan$Ways;" ∈ lw_all := lw_mem (List.mem_of_getElem? (i := 157) (by decide +kernel)) rfl
theorem wq_159 : Cond.laysFinal RX7 "LibraryVan$World" "round" "LLibraryVan$Round;" ∈ lw_all := lw_mem (List.mem_of_getElem? (i := 159) (by decide +kernel)) rfl
theorem wq_161 : Cond.laysFinal RX7 "LibraryVan$World" "rain" "[I" ∈ lw_all := lw_mem (List.mem_of_getElem? (i := 161) (by decide +kernel)) rfl
theorem wq_163 : Cond.lays RX7 "LibraryVan$World" "day" "I" ∈ lw_all := lw_mem (List.mem_of_getElem? (i := 163) (by decide +kernel)) rfl
theorem wq_165 : Cond.lays RX7 "LibraryVan$World" "latestMinutes" "I" ∈ lw_all := lw_mem (List.mem_of_getElem? (i := 165) (by decide +kernel)) rfl
theorem wq_168 : Cond.fieldLink RX8 10 "LibraryVan" "now" "LLibraryVan$World;" ∈ lw_all := lw_mem (List.mem_of_getElem? (i := 168) (by decide +kernel)) rfl
theorem wq_169 : Cond.fieldLink RX8 16 "LibraryVan" "trial" "LLibraryVan$World;" ∈ lw_all := lw_mem (List.mem_of_getElem? (i := 169) (by decide +kernel)) rfl
theorem wq_170 : Cond.laysFinal RX8 "LibraryVan" "now" "LLibraryVan$World;" ∈ lw_all := lw_mem (List.mem_of_getElem? (i := 170) (by decide +kernel)) rfl
theorem wq_172 : Cond.laysFinal RX8 "LibraryVan" "trial" "LLibraryVan$World;" ∈ lw_all := lw_mem (List.mem_of_getElem? (i := 172) (by decide +kernel)) rfl
theorem wq_175 : Cond.methodLink RL 148 yX8_daily ∈ lw_all := lw_mem (List.mem_of_getElem? (i := 175) (by decide +kernel)) rfl
theorem wq_176 : Cond.instanceMethod yX8_daily ∈ lw_all := lw_mem (List.mem_of_getElem? (i := 176) (by decide +kernel)) rfl
theorem wq_177 : Cond.selects RX8 yX8_daily yX8_daily ∈ lw_all := lw_mem (List.mem_of_getElem? (i := 177) (by decide +kernel)) rfl
theorem wq_178 : Cond.code yX8_daily cX8_daily 1 (Option.some Jvm.ClassFile.FieldType.double) ∈ lw_all := lw_mem (List.mem_of_getElem? (i := 178) (by decide +kernel)) rfl
theorem wq_179 : Cond.methodLink RX8 180 yX7_loansOfAll ∈ lw_all := lw_mem (List.mem_of_getElem? (i := 179) (by decide +kernel)) rfl
theorem wq_180 : Cond.instanceMethod yX7_loansOfAll ∈ lw_all := lw_mem (List.mem_of_getElem? (i := 180) (by decide +kernel)) rfl
theorem wq_181 : Cond.selects RX7 yX7_loansOfAll yX7_loansOfAll ∈ lw_all := lw_mem (List.mem_of_getElem? (i := 181) (by decide +kernel)) rfl
theorem wq_182 : Cond.code yX7_loansOfAll cX7_loansOfAll 3 (Option.some Jvm.ClassFile.FieldType.int) ∈ lw_all := lw_mem (List.mem_of_getElem? (i := 182) (by decide +kernel)) rfl
theorem wq_183 : Cond.methodLink RX7 45 yJx4a65c_size_8abf5 ∈ lw_all := lw_mem (List.mem_of_getElem? (i := 183) (by decide +kernel)) rfl
theorem wq_184 : Cond.instanceMethod yJx4a65c_size_8abf5 ∈ lw_all := lw_mem (List.mem_of_getElem? (i := 184) (by decide +kernel)) rfl
theorem wq_185 : Cond.selects RJx4a65c yJx4a65c_size_8abf5 yJx4a65c_size_8abf5 ∈ lw_all := lw_mem (List.mem_of_getElem? (i := 185) (by decide +kernel)) rfl
theorem wq_186 : Cond.code yJx4a65c_size_8abf5 cJx4a65c_size_8abf5 1 (Option.some Jvm.ClassFile.FieldType.int) ∈ lw_all := lw_mem (List.mem_of_getElem? (i := 186) (by decide +kernel)) rfl
theorem wq_187 : Cond.methodLink RX7 58 yJx4a65c_get_915e3 ∈ lw_all := lw_mem (List.mem_of_getElem? (i := 187) (by decide +kernel)) rfl
theorem wq_188 : Cond.instanceMethod yJx4a65c_get_915e3 ∈ lw_all := lw_mem (List.mem_of_getElem? (i := 188) (by decide +kernel)) rfl
theorem wq_189 : Cond.selects RJx4a65c yJx4a65c_get_915e3 yJx4a65c_get_915e3 ∈ lw_all := lw_mem (List.mem_of_getElem? (i := 189) (by decide +kernel)) rfl
theorem wq_190 : Cond.code yJx4a65c_get_915e3 cJx4a65c_get_915e3 2 (Option.some (Jvm.ClassFile.FieldType.object "java/lang/Object")) ∈ lw_all := lw_mem (List.mem_of_getElem? (i := 190) (by decide +kernel)) rfl
theorem wq_191 : Cond.methodLink RJx4a65c 118 yJ15_checkIndex_7cf53 ∈ lw_all := lw_mem (List.mem_of_getElem? (i := 191) (by decide +kernel)) rfl
theorem wq_192 : Cond.static yJ15_checkIndex_7cf53 ∈ lw_all := lw_mem (List.mem_of_getElem? (i := 192) (by decide +kernel)) rfl
theorem wq_193 : Cond.code yJ15_checkIndex_7cf53 cJ15_checkIndex_7cf53 2 (Option.some Jvm.ClassFile.FieldType.int) ∈ lw_all := lw_mem (List.mem_of_getElem? (i := 193) (by decide +kernel)) rfl
theorem wq_194 : Cond.methodLink RJ15 105 yJ3_checkIndex_8e157 ∈ lw_all := lw_mem (List.mem_of_getElem? (i := 194) (by decide +kernel)) rfl
theorem wq_195 : Cond.static yJ3_checkIndex_8e157 ∈ lw_all := lw_mem (List.mem_of_getElem? (i := 195) (by decide +kernel)) rfl
theorem wq_196 : Cond.code yJ3_checkIndex_8e157 cJ3_checkIndex_8e157 3 (Option.some Jvm.ClassFile.FieldType.int) ∈ lw_all := lw_mem (List.mem_of_getElem? (i := 196) (by decide +kernel)) rfl
theorem wq_197 : Cond.methodLink RJx4a65c 123 yJx4a65c_elementData_915e3 ∈ lw_all := lw_mem (List.mem_of_getElem? (i := 197) (by decide +kernel)) rfl
theorem wq_198 : Cond.instanceMethod yJx4a65c_elementData_915e3 ∈ lw_all := lw_mem (List.mem_of_getElem? (i := 198) (by decide +kernel)) rfl
theorem wq_199 : Cond.selects RJx4a65c yJx4a65c_elementData_915e3 yJx4a65c_elementData_915e3 ∈ lw_all := lw_mem (List.mem_of_getElem? (i := 199) (by decide +kernel)) rfl
theorem wq_200 : Cond.code yJx4a65c_elementData_915e3 cJx4a65c_elementData_915e3 2 (Option.some (Jvm.ClassFile.FieldType.object "java/lang/Object")) ∈ lw_all := lw_mem (List.mem_of_getElem? (i := 200) (by decide +kernel)) rfl
theorem wq_201 : Cond.classLink RX7 62 "LibraryVan$Book" ∈ lw_all := lw_mem (List.mem_of_getElem? (i := 201) (by decide +kernel)) rfl
theorem wq_202 : Cond.methodLink RL 153 yX8_digest ∈ lw_all := lw_mem (List.mem_of_getElem? (i := 202) (by decide +kernel)) rfl
theorem wq_203 : Cond.instanceMethod yX8_digest ∈ lw_all := lw_mem (List.mem_of_getElem? (i := 203) (by decide +kernel)) rfl
theorem wq_204 : Cond.selects RX8 yX8_digest yX8_digest ∈ lw_all := lw_mem (List.mem_of_getElem? (i := 204) (by decide +kernel)) rfl
theorem wq_205 : Cond.code yX8_digest cX8_digest 3 (Option.some Jvm.ClassFile.FieldType.long) ∈ lw_all := lw_mem (List.mem_of_getElem? (i := 205) (by decide +kernel)) rfl
theorem wq_206 : Cond.constantLong RX8 213 607 ∈ lw_all := lw_mem (List.mem_of_getElem? (i := 206) (by decide +kernel)) rfl
theorem wq_207 : Cond.methodLink RX8 215 yX7_mixVan ∈ lw_all := lw_mem (List.mem_of_getElem? (i := 207) (by decide +kernel)) rfl
theorem wq_208 : Cond.instanceMethod yX7_mixVan ∈ lw_all := lw_mem (List.mem_of_getElem? (i := 208) (by decide +kernel)) rfl
theorem wq_209 : Cond.selects RX7 yX7_mixVan yX7_mixVan ∈ lw_all := lw_mem (List.mem_of_getElem? (i := 209) (by decide +kernel)) rfl
theorem wq_210 : Cond.code yX7_mixVan cX7_mixVan 6 (Option.some Jvm.ClassFile.FieldType.long) ∈ lw_all := lw_mem (List.mem_of_getElem? (i := 210) (by decide +kernel)) rfl
theorem wq_211 : Cond.methodLink RX7 266 yX7_countAnswer ∈ lw_all := lw_mem (List.mem_of_getElem? (i := 211) (by decide +kernel)) rfl
theorem wq_212 : Cond.instanceMethod yX7_countAnswer ∈ lw_all := lw_mem (List.mem_of_getElem? (i := 212) (by decide +kernel)) rfl
theorem wq_213 : Cond.selects RX7 yX7_countAnswer yX7_countAnswer ∈ lw_all := lw_mem (List.mem_of_getElem? (i := 213) (by decide +kernel)) rfl
theorem wq_214 : Cond.code yX7_countAnswer cX7_countAnswer 2 (Option.some Jvm.ClassFile.FieldType.int) ∈ lw_all := lw_mem (List.mem_of_getElem? (i := 214) (by decide +kernel)) rfl
theorem wq_215 : Cond.methodLink RX7 251 yX7_booksOnVan ∈ lw_all := lw_mem (List.mem_of_getElem? (i := 215) (by decide +kernel)) rfl
theorem wq_216 : Cond.instanceMethod yX7_booksOnVan ∈ lw_all := lw_mem (List.mem_of_getElem? (i := 216) (by decide +kernel)) rfl
theorem wq_217 : Cond.selects RX7 yX7_booksOnVan yX7_booksOnVan ∈ lw_all := lw_mem (List.mem_of_getElem? (i := 217) (by decide +kernel)) rfl
theorem wq_218 : Cond.code yX7_booksOnVan cX7_booksOnVan 3 (Option.some Jvm.ClassFile.FieldType.int) ∈ lw_all := lw_mem (List.mem_of_getElem? (i := 218) (by decide +kernel)) rfl
theorem wq_219 : Cond.methodLink RX7 161 yX0_isOnVan ∈ lw_all := lw_mem (List.mem_of_getElem? (i := 219) (by decide +kernel)) rfl
theorem wq_220 : Cond.instanceMethod yX0_isOnVan ∈ lw_all := lw_mem (List.mem_of_getElem? (i := 220) (by decide +kernel)) rfl
theorem wq_221 : Cond.selects RX0 yX0_isOnVan yX0_isOnVan ∈ lw_all := lw_mem (List.mem_of_getElem? (i := 221) (by decide +kernel)) rfl
theorem wq_222 : Cond.code yX0_isOnVan cX0_isOnVan 1 (Option.some Jvm.ClassFile.FieldType.boolean) ∈ lw_all := lw_mem (List.mem_of_getElem? (i := 222) (by decide +kernel)) rfl
theorem wq_223 : Cond.methodLink RX7 254 yX7_loansOfAll ∈ lw_all := lw_mem (List.mem_of_getElem? (i := 223) (by decide +kernel)) rfl
theorem wq_224 : Cond.methodLink RX7 257 yX7_penceOfAll ∈ lw_all := lw_mem (List.mem_of_getElem? (i := 224) (by decide +kernel)) rfl
theorem wq_225 : Cond.instanceMethod yX7_penceOfAll ∈ lw_all := lw_mem (List.mem_of_getElem? (i := 225) (by decide +kernel)) rfl
theorem wq_226 : Cond.selects RX7 yX7_penceOfAll yX7_penceOfAll ∈ lw_all := lw_mem (List.mem_of_getElem? (i := 226) (by decide +kernel)) rfl
theorem wq_227 : Cond.code yX7_penceOfAll cX7_penceOfAll 3 (Option.some Jvm.ClassFile.FieldType.int) ∈ lw_all := lw_mem (List.mem_of_getElem? (i := 227) (by decide +kernel)) rfl
theorem wq_228 : Cond.classLink RX7 82 "LibraryVan$Reader" ∈ lw_all := lw_mem (List.mem_of_getElem? (i := 228) (by decide +kernel)) rfl
theorem wq_229 : Cond.methodLink RX7 260 yX7_lanesTooMuddy ∈ lw_all := lw_mem (List.mem_of_getElem? (i := 229) (by decide +kernel)) rfl
theorem wq_231 : Cond.instanceMethod yX7_lanesTooMuddy ∈ lw_all := lw_mem (List.mem_of_getElem? (i := 231) (by decide +kernel)) rfl
theorem wq_232 : Cond.code yX7_lanesTooMuddy cX7_lanesTooMuddy 3 (Option.some Jvm.ClassFile.FieldType.int) ∈ lw_all := lw_mem (List.mem_of_getElem? (i := 232) (by decide +kernel)) rfl
theorem wq_233 : Cond.classLink RX7 74 "LibraryVan$Lane" ∈ lw_all := lw_mem (List.mem_of_getElem? (i := 233) (by decide +kernel)) rfl
theorem wq_234 : Cond.methodLink RX7 222 yX2_isUsable ∈ lw_all := lw_mem (List.mem_of_getElem? (i := 234) (by decide +kernel)) rfl
theorem wq_235 : Cond.instanceMethod yX2_isUsable ∈ lw_all := lw_mem (List.mem_of_getElem? (i := 235) (by decide +kernel)) rfl
theorem wq_236 : Cond.selects RX2 yX2_isUsable yX2_isUsable ∈ lw_all := lw_mem (List.mem_of_getElem? (i := 236) (by decide +kernel)) rfl
theorem wq_237 : Cond.code yX2_isUsable cX2_isUsable 1 (Option.some Jvm.ClassFile.FieldType.boolean) ∈ lw_all := lw_mem (List.mem_of_getElem? (i := 237) (by decide +kernel)) rfl
theorem wq_238 : Cond.methodLinkNest RX7 269 yX8_mix "LibraryVan" ∈ lw_tbl := List.mem_of_getElem? (i := 238) (by decide +kernel)
theorem wq_239 : Cond.static yX8_mix ∈ lw_all := lw_mem (List.mem_of_getElem? (i := 239) (by decide +kernel)) rfl
theorem wq_240 : Cond.code yX8_mix cX8_mix 4 (Option.some Jvm.ClassFile.FieldType.long) ∈ lw_all := lw_mem (List.mem_of_getElem? (i := 240) (by decide +kernel)) rfl
theorem wq_241 : Cond.constantLong RX8 235 31 ∈ lw_all := lw_mem (List.mem_of_getElem? (i := 241) (by decide +kernel)) rfl
theorem wq_242 : Cond.methodLink RX7 111 yX7_rainOf ∈ lw_all := lw_mem (List.mem_of_getElem? (i := 242) (by decide +kernel)) rfl
theorem wq_244 : Cond.instanceMethod yX7_rainOf ∈ lw_all := lw_mem (List.mem_of_getElem? (i := 244) (by decide +kernel)) rfl
theorem wq_245 : Cond.code yX7_rainOf cX7_rainOf 2 (Option.some Jvm.ClassFile.FieldType.int) ∈ lw_all := lw_mem (List.mem_of_getElem? (i := 245) (by decide +kernel)) rfl
theorem wq_246 : Cond.methodLink RX7 118 yX5_size ∈ lw_all := lw_mem (List.mem_of_getElem? (i := 246) (by decide +kernel)) rfl
theorem wq_247 : Cond.instanceMethod yX5_size ∈ lw_all := lw_mem (List.mem_of_getElem? (i := 247) (by decide +kernel)) rfl
theorem wq_248 : Cond.selects RX5 yX5_size yX5_size ∈ lw_all := lw_mem (List.mem_of_getElem? (i := 248) (by decide +kernel)) rfl
theorem wq_249 : Cond.code yX5_size cX5_size 1 (Option.some Jvm.ClassFile.FieldType.int) ∈ lw_all := lw_mem (List.mem_of_getElem? (i := 249) (by decide +kernel)) rfl
theorem wq_250 : Cond.methodLink RX7 119 yX5_haltAt ∈ lw_all := lw_mem (List.mem_of_getElem? (i := 250) (by decide +kernel)) rfl
theorem wq_251 : Cond.instanceMethod yX5_haltAt ∈ lw_all := lw_mem (List.mem_of_getElem? (i := 251) (by decide +kernel)) rfl
theorem wq_252 : Cond.selects RX5 yX5_haltAt yX5_haltAt ∈ lw_all := lw_mem (List.mem_of_getElem? (i := 252) (by decide +kernel)) rfl
theorem wq_253 : Cond.code yX5_haltAt cX5_haltAt 2 (Option.some Jvm.ClassFile.FieldType.int) ∈ lw_all := lw_mem (List.mem_of_getElem? (i := 253) (by decide +kernel)) rfl
theorem wq_254 : Cond.methodLink RX8 219 yX7_mixHaltsAndLanes ∈ lw_all := lw_mem (List.mem_of_getElem? (i := 254) (by decide +kernel)) rfl
theorem wq_255 : Cond.instanceMethod yX7_mixHaltsAndLanes ∈ lw_all := lw_mem (List.mem_of_getElem? (i := 255) (by decide +kernel)) rfl
theorem wq_256 : Cond.selects RX7 yX7_mixHaltsAndLanes yX7_mixHaltsAndLanes ∈ lw_all := lw_mem (List.mem_of_getElem? (i := 256) (by decide +kernel)) rfl
theorem wq_257 : Cond.code yX7_mixHaltsAndLanes cX7_mixHaltsAndLanes 7 (Option.some Jvm.ClassFile.FieldType.long) ∈ lw_all := lw_mem (List.mem_of_getElem? (i := 257) (by decide +kernel)) rfl
theorem wq_258 : Cond.methodLink RX7 273 yX7_haltAnswer ∈ lw_all := lw_mem (List.mem_of_getElem? (i := 258) (by decide +kernel)) rfl
theorem wq_259 : Cond.instanceMethod yX7_haltAnswer ∈ lw_all := lw_mem (List.mem_of_getElem? (i := 259) (by decide +kernel)) rfl
theorem wq_260 : Cond.selects RX7 yX7_haltAnswer yX7_haltAnswer ∈ lw_all := lw_mem (List.mem_of_getElem? (i := 260) (by decide +kernel)) rfl
theorem wq_261 : Cond.code yX7_haltAnswer cX7_haltAnswer 4 (Option.some Jvm.ClassFile.FieldType.int) ∈ lw_all := lw_mem (List.mem_of_getElem? (i := 261) (by decide +kernel)) rfl
theorem wq_262 : Cond.classLink RX7 68 "LibraryVan$Halt" ∈ lw_all := lw_mem (List.mem_of_getElem? (i := 262) (by decide +kernel)) rfl
theorem wq_263 : Cond.methodLink RX7 198 yX7_readersAt ∈ lw_all := lw_mem (List.mem_of_getElem? (i := 263) (by decide +kernel)) rfl
theorem wq_265 : Cond.instanceMethod yX7_readersAt ∈ lw_all := lw_mem (List.mem_of_getElem? (i := 265) (by decide +kernel)) rfl
theorem wq_266 : Cond.code yX7_readersAt cX7_readersAt 4 (Option.some Jvm.ClassFile.FieldType.int) ∈ lw_all := lw_mem (List.mem_of_getElem? (i := 266) (by decide +kernel)) rfl
theorem wq_267 : Cond.methodLink RX7 201 yX7_lanesAt ∈ lw_all := lw_mem (List.mem_of_getElem? (i := 267) (by decide +kernel)) rfl
theorem wq_269 : Cond.instanceMethod yX7_lanesAt ∈ lw_all := lw_mem (List.mem_of_getElem? (i := 269) (by decide +kernel)) rfl
theorem wq_270 : Cond.code yX7_lanesAt cX7_lanesAt 5 (Option.some Jvm.ClassFile.FieldType.int) ∈ lw_all := lw_mem (List.mem_of_getElem? (i := 270) (by decide +kernel)) rfl
theorem wq_271 : Cond.methodLink RX7 204 yX5_timesOf ∈ lw_all := lw_mem (List.mem_of_getElem? (i := 271) (by decide +kernel)) rfl
theorem wq_272 : Cond.instanceMethod yX5_timesOf ∈ lw_all := lw_mem (List.mem_of_getElem? (i := 272) (by decide +kernel)) rfl
theorem wq_273 : Cond.selects RX5 yX5_timesOf yX5_timesOf ∈ lw_all := lw_mem (List.mem_of_getElem? (i := 273) (by decide +kernel)) rfl
theorem wq_274 : Cond.code yX5_timesOf cX5_timesOf 4 (Option.some Jvm.ClassFile.FieldType.int) ∈ lw_all := lw_mem (List.mem_of_getElem? (i := 274) (by decide +kernel)) rfl
theorem wq_275 : Cond.methodLink RX5 27 yX5_haltAt ∈ lw_all := lw_mem (List.mem_of_getElem? (i := 275) (by decide +kernel)) rfl
theorem wq_276 : Cond.methodLink RX7 276 yX7_laneAnswer ∈ lw_all := lw_mem (List.mem_of_getElem? (i := 276) (by decide +kernel)) rfl
theorem wq_277 : Cond.instanceMethod yX7_laneAnswer ∈ lw_all := lw_mem (List.mem_of_getElem? (i := 277) (by decide +kernel)) rfl
theorem wq_278 : Cond.selects RX7 yX7_laneAnswer yX7_laneAnswer ∈ lw_all := lw_mem (List.mem_of_getElem? (i := 278) (by decide +kernel)) rfl
theorem wq_279 : Cond.code yX7_laneAnswer cX7_laneAnswer 4 (Option.some Jvm.ClassFile.FieldType.int) ∈ lw_all := lw_mem (List.mem_of_getElem? (i := 279) (by decide +kernel)) rfl
theorem wq_280 : Cond.methodLink RX7 225 yX2_minutes ∈ lw_all := lw_mem (List.mem_of_getElem? (i := 280) (by decide +kernel)) rfl
theorem wq_281 : Cond.instanceMethod yX2_minutes ∈ lw_all := lw_mem (List.mem_of_getElem? (i := 281) (by decide +kernel)) rfl
theorem wq_282 : Cond.selects RX2 yX2_minutes yX2_minutes ∈ lw_all := lw_mem (List.mem_of_getElem? (i := 282) (by decide +kernel)) rfl
theorem wq_283 : Cond.code yX2_minutes cX2_minutes 1 (Option.some Jvm.ClassFile.FieldType.int) ∈ lw_all := lw_mem (List.mem_of_getElem? (i := 283) (by decide +kernel)) rfl
theorem wq_284 : Cond.methodLink RX8 222 yX7_mixBooksAndReaders ∈ lw_all := lw_mem (List.mem_of_getElem? (i := 284) (by decide +kernel)) rfl
theorem wq_285 : Cond.instanceMethod yX7_mixBooksAndReaders ∈ lw_all := lw_mem (List.mem_of_getElem? (i := 285) (by decide +kernel)) rfl
theorem wq_286 : Cond.selects RX7 yX7_mixBooksAndReaders yX7_mixBooksAndReaders ∈ lw_all := lw_mem (List.mem_of_getElem? (i := 286) (by decide +kernel)) rfl
theorem wq_287 : Cond.code yX7_mixBooksAndReaders cX7_mixBooksAndReaders 8 (Option.some Jvm.ClassFile.FieldType.long) ∈ lw_all := lw_mem (List.mem_of_getElem? (i := 287) (by decide +kernel)) rfl
theorem wq_288 : Cond.methodLink RX7 279 yX7_bookAnswer ∈ lw_all := lw_mem (List.mem_of_getElem? (i := 288) (by decide +kernel)) rfl
theorem wq_289 : Cond.instanceMethod yX7_bookAnswer ∈ lw_all := lw_mem (List.mem_of_getElem? (i := 289) (by decide +kernel)) rfl
theorem wq_290 : Cond.selects RX7 yX7_bookAnswer yX7_bookAnswer ∈ lw_all := lw_mem (List.mem_of_getElem? (i := 290) (by decide +kernel)) rfl
theorem wq_291 : Cond.code yX7_bookAnswer cX7_bookAnswer 4 (Option.some Jvm.ClassFile.FieldType.int) ∈ lw_all := lw_mem (List.mem_of_getElem? (i := 291) (by decide +kernel)) rfl
theorem wq_292 : Cond.methodLink RX7 190 yX3_size ∈ lw_all := lw_mem (List.mem_of_getElem? (i := 292) (by decide +kernel)) rfl
theorem wq_293 : Cond.instanceMethod yX3_size ∈ lw_all := lw_mem (List.mem_of_getElem? (i := 293) (by decide +kernel)) rfl
theorem wq_294 : Cond.selects RX3 yX3_size yX3_size ∈ lw_all := lw_mem (List.mem_of_getElem? (i := 294) (by decide +kernel)) rfl
theorem wq_295 : Cond.code yX3_size cX3_size 1 (Option.some Jvm.ClassFile.FieldType.int) ∈ lw_all := lw_mem (List.mem_of_getElem? (i := 295) (by decide +kernel)) rfl
theorem wq_296 : Cond.methodLink RX7 169 yX3_first ∈ lw_all := lw_mem (List.mem_of_getElem? (i := 296) (by decide +kernel)) rfl
theorem wq_297 : Cond.instanceMethod yX3_first ∈ lw_all := lw_mem (List.mem_of_getElem? (i := 297) (by decide +kernel)) rfl
theorem wq_298 : Cond.selects RX3 yX3_first yX3_first ∈ lw_all := lw_mem (List.mem_of_getElem? (i := 298) (by decide +kernel)) rfl
theorem wq_299 : Cond.code yX3_first cX3_first 1 (Option.some Jvm.ClassFile.FieldType.int) ∈ lw_all := lw_mem (List.mem_of_getElem? (i := 299) (by decide +kernel)) rfl
theorem wq_300 : Cond.methodLink RX7 230 yX7_readersWhoRead ∈ lw_all := lw_mem (List.mem_of_getElem? (i := 300) (by decide +kernel)) rfl
theorem wq_302 : Cond.instanceMethod yX7_readersWhoRead ∈ lw_all := lw_mem (List.mem_of_getElem? (i := 302) (by decide +kernel)) rfl
theorem wq_303 : Cond.code yX7_readersWhoRead cX7_readersWhoRead 4 (Option.some Jvm.ClassFile.FieldType.int) ∈ lw_all := lw_mem (List.mem_of_getElem? (i := 303) (by decide +kernel)) rfl
theorem wq_304 : Cond.methodLink RX7 194 yX4_hasRead ∈ lw_all := lw_mem (List.mem_of_getElem? (i := 304) (by decide +kernel)) rfl
theorem wq_305 : Cond.instanceMethod yX4_hasRead ∈ lw_all := lw_mem (List.mem_of_getElem? (i := 305) (by decide +kernel)) rfl
theorem wq_306 : Cond.selects RX4 yX4_hasRead yX4_hasRead ∈ lw_all := lw_mem (List.mem_of_getElem? (i := 306) (by decide +kernel)) rfl
theorem wq_307 : Cond.code yX4_hasRead cX4_hasRead 2 (Option.some Jvm.ClassFile.FieldType.boolean) ∈ lw_all := lw_mem (List.mem_of_getElem? (i := 307) (by decide +kernel)) rfl
theorem wq_308 : Cond.methodLink RX7 282 yX3_readerAt ∈ lw_all := lw_mem (List.mem_of_getElem? (i := 308) (by decide +kernel)) rfl
theorem wq_309 : Cond.instanceMethod yX3_readerAt ∈ lw_all := lw_mem (List.mem_of_getElem? (i := 309) (by decide +kernel)) rfl
theorem wq_310 : Cond.selects RX3 yX3_readerAt yX3_readerAt ∈ lw_all := lw_mem (List.mem_of_getElem? (i := 310) (by decide +kernel)) rfl
theorem wq_311 : Cond.code yX3_readerAt cX3_readerAt 2 (Option.some Jvm.ClassFile.FieldType.int) ∈ lw_all := lw_mem (List.mem_of_getElem? (i := 311) (by decide +kernel)) rfl
theorem wq_312 : Cond.methodLink RX7 285 yX7_readerAnswer ∈ lw_all := lw_mem (List.mem_of_getElem? (i := 312) (by decide +kernel)) rfl
theorem wq_313 : Cond.instanceMethod yX7_readerAnswer ∈ lw_all := lw_mem (List.mem_of_getElem? (i := 313) (by decide +kernel)) rfl
theorem wq_314 : Cond.selects RX7 yX7_readerAnswer yX7_readerAnswer ∈ lw_all := lw_mem (List.mem_of_getElem? (i := 314) (by decide +kernel)) rfl
theorem wq_315 : Cond.code yX7_readerAnswer cX7_readerAnswer 4 (Option.some Jvm.ClassFile.FieldType.int) ∈ lw_all := lw_mem (List.mem_of_getElem? (i := 315) (by decide +kernel)) rfl
theorem wq_316 : Cond.methodLink RX7 239 yJ6_bitCount_0f7a4 ∈ lw_all := lw_mem (List.mem_of_getElem? (i := 316) (by decide +kernel)) rfl
theorem wq_317 : Cond.static yJ6_bitCount_0f7a4 ∈ lw_all := lw_mem (List.mem_of_getElem? (i := 317) (by decide +kernel)) rfl
theorem wq_318 : Cond.code yJ6_bitCount_0f7a4 cJ6_bitCount_0f7a4 1 (Option.some Jvm.ClassFile.FieldType.int) ∈ lw_all := lw_mem (List.mem_of_getElem? (i := 318) (by decide +kernel)) rfl
theorem wq_319 : Cond.constant RJ6 265 1431655765 ∈ lw_all := lw_mem (List.mem_of_getElem? (i := 319) (by decide +kernel)) rfl
theorem wq_320 : Cond.constant RJ6 266 858993459 ∈ lw_all := lw_mem (List.mem_of_getElem? (i := 320) (by decide +kernel)) rfl
theorem wq_321 : Cond.constant RJ6 267 252645135 ∈ lw_all := lw_mem (List.mem_of_getElem? (i := 321) (by decide +kernel)) rfl
theorem wq_322 : Cond.methodLink RX7 247 yX7_booksReservedBy ∈ lw_all := lw_mem (List.mem_of_getElem? (i := 322) (by decide +kernel)) rfl
theorem wq_324 : Cond.instanceMethod yX7_booksReservedBy ∈ lw_all := lw_mem (List.mem_of_getElem? (i := 324) (by decide +kernel)) rfl
theorem wq_325 : Cond.code yX7_booksReservedBy cX7_booksReservedBy 4 (Option.some Jvm.ClassFile.FieldType.int) ∈ lw_all := lw_mem (List.mem_of_getElem? (i := 325) (by decide +kernel)) rfl
theorem wq_326 : Cond.methodLink RX7 263 yX3_placeOf ∈ lw_all := lw_mem (List.mem_of_getElem? (i := 326) (by decide +kernel)) rfl
theorem wq_327 : Cond.instanceMethod yX3_placeOf ∈ lw_all := lw_mem (List.mem_of_getElem? (i := 327) (by decide +kernel)) rfl
theorem wq_328 : Cond.selects RX3 yX3_placeOf yX3_placeOf ∈ lw_all := lw_mem (List.mem_of_getElem? (i := 328) (by decide +kernel)) rfl
theorem wq_329 : Cond.code yX3_placeOf cX3_placeOf 3 (Option.some Jvm.ClassFile.FieldType.int) ∈ lw_all := lw_mem (List.mem_of_getElem? (i := 329) (by decide +kernel)) rfl
theorem wq_330 : Cond.methodLink RL 81 yL_addHalt ∈ lw_all := lw_mem (List.mem_of_getElem? (i := 330) (by decide +kernel)) rfl
theorem wq_331 : Cond.static yL_addHalt ∈ lw_all := lw_mem (List.mem_of_getElem? (i := 331) (by decide +kernel)) rfl
theorem wq_332 : Cond.codeWith yL_addHalt method_3_code 3 (Option.some Jvm.ClassFile.FieldType.int) [((0 : Nat), (8 : Nat), (11 : Nat), (13 : Nat))] ∈ lw_all := lw_mem (List.mem_of_getElem? (i := 332) (by decide +kernel)) rfl
theorem wq_333 : Cond.classLink RL 13 "java/lang/IllegalStateException" ∈ lw_all := lw_mem (List.mem_of_getElem? (i := 333) (by decide +kernel)) rfl
theorem wq_334 : Cond.methodLink RL 7 yX8_addHalt ∈ lw_all := lw_mem (List.mem_of_getElem? (i := 334) (by decide +kernel)) rfl
theorem wq_335 : Cond.instanceMethod yX8_addHalt ∈ lw_all := lw_mem (List.mem_of_getElem? (i := 335) (by decide +kernel)) rfl
theorem wq_336 : Cond.selects RX8 yX8_addHalt yX8_addHalt ∈ lw_all := lw_mem (List.mem_of_getElem? (i := 336) (by decide +kernel)) rfl
theorem wq_337 : Cond.code yX8_addHalt cX8_addHalt 2 (Option.some Jvm.ClassFile.FieldType.int) ∈ lw_all := lw_mem (List.mem_of_getElem? (i := 337) (by decide +kernel)) rfl
theorem wq_338 : Cond.methodLink RX8 23 yJx4a65c_size_8abf5 ∈ lw_all := lw_mem (List.mem_of_getElem? (i := 338) (by decide +kernel)) rfl
theorem wq_339 : Cond.classLink RX8 29 "java/lang/IllegalStateException" ∈ lw_all := lw_mem (List.mem_of_getElem? (i := 339) (by decide +kernel)) rfl
theorem wq_340 : Cond.instantiable "java/lang/IllegalStateException" 6 ∈ lw_all := lw_mem (List.mem_of_getElem? (i := 340) (by decide +kernel)) rfl
theorem wq_341 : Cond.castable "java/lang/IllegalStateException" "java/lang/IllegalStateException" ∈ lw_tbl := List.mem_of_getElem? (i := 341) (by decide +kernel)
theorem wq_348 : Cond.selects "java/lang/IllegalStateException" (⟨"java/lang/Throwable", "fillInStackTrace", "(I)Ljava/lang/Throwable;"⟩ : MethodName) (⟨"java/lang/Throwable", "fillInStackTrace", "(I)Ljava/lang/Throwable;"⟩ : MethodName) ∈ lw_all := lw_mem (List.mem_of_getElem? (i := 348) (by decide +kernel)) rfl
theorem wq_349 : Cond.selects "java/lang/IllegalStateException" (⟨"java/lang/Throwable", "fillInStackTrace", "()Ljava/lang/Throwable;"⟩ : MethodName) (⟨"java/lang/Throwable", "fillInStackTrace", "()Ljava/lang/Throwable;"⟩ : MethodName) ∈ lw_all := lw_mem (List.mem_of_getElem? (i := 349) (by decide +kernel)) rfl
theorem wq_350 : Cond.lays "java/lang/IllegalStateException" "java/lang/Throwable" "cause" "Ljava/lang/Throwable;" ∈ lw_all := lw_mem (List.mem_of_getElem? (i := 350) (by decide +kernel)) rfl
theorem wq_351 : Cond.lays "java/lang/Throwable" "java/lang/Throwable" "cause" "Ljava/lang/Throwable;" ∈ lw_all := lw_mem (List.mem_of_getElem? (i := 351) (by decide +kernel)) rfl
theorem wq_352 : Cond.lays "java/lang/IllegalStateException" "java/lang/Throwable" "stackTrace" "[Ljava/lang/StackTraceElement;" ∈ lw_all := lw_mem (List.mem_of_getElem? (i := 352) (by decide +kernel)) rfl
theorem wq_353 : Cond.lays "java/lang/Throwable" "java/lang/Throwable" "stackTrace" "[Ljava/lang/StackTraceElement;" ∈ lw_all := lw_mem (List.mem_of_getElem? (i := 353) (by decide +kernel)) rfl
theorem wq_354 : Cond.lays "java/lang/IllegalStateException" "java/lang/Throwable" "suppressedExceptions" "Ljava/util/List;" ∈ lw_all := lw_mem (List.mem_of_getElem? (i := 354) (by decide +kernel)) rfl
theorem wq_355 : Cond.lays "java/lang/Throwable" "java/lang/Throwable" "suppressedExceptions" "Ljava/util/List;" ∈ lw_all := lw_mem (List.mem_of_getElem? (i := 355) (by decide +kernel)) rfl
theorem wq_356 : Cond.lays "java/lang/IllegalStateException" "java/lang/Throwable" "detailMessage" "Ljava/lang/String;" ∈ lw_all := lw_mem (List.mem_of_getElem? (i := 356) (by decide +kernel)) rfl
theorem wq_357 : Cond.lays "java/lang/Throwable" "java/lang/Throwable" "detailMessage" "Ljava/lang/String;" ∈ lw_all := lw_mem (List.mem_of_getElem? (i := 357) (by decide +kernel)) rfl
theorem wq_358 : Cond.lays "java/lang/IllegalStateException" "java/lang/Throwable" "backtrace" "Ljava/lang/Object;" ∈ lw_all := lw_mem (List.mem_of_getElem? (i := 358) (by decide +kernel)) rfl
theorem wq_359 : Cond.lays "java/lang/Throwable" "java/lang/Throwable" "backtrace" "Ljava/lang/Object;" ∈ lw_all := lw_mem (List.mem_of_getElem? (i := 359) (by decide +kernel)) rfl
theorem wq_360 : Cond.fieldLink "java/lang/Throwable" 198 "java/lang/Throwable" "backtrace" "Ljava/lang/Object;" ∈ lw_all := lw_mem (List.mem_of_getElem? (i := 360) (by decide +kernel)) rfl
theorem wq_362 : Cond.instanceMethod (⟨"java/lang/Throwable", "<init>", "()V"⟩ : MethodName) ∈ lw_all := lw_mem (List.mem_of_getElem? (i := 362) (by decide +kernel)) rfl
theorem wq_363 : Cond.code (⟨"java/lang/Throwable", "<init>", "()V"⟩ : MethodName) prog_25_method_1_code 1 (Option.none : Option Jvm.ClassFile.FieldType) ∈ lw_all := lw_mem (List.mem_of_getElem? (i := 363) (by decide +kernel)) rfl
theorem wq_364 : Cond.methodLink "java/lang/Throwable" 1 (⟨"java/lang/Object", "<init>", "()V"⟩ : MethodName) ∈ lw_all := lw_mem (List.mem_of_getElem? (i := 364) (by decide +kernel)) rfl
theorem wq_365 : Cond.fieldLink "java/lang/Throwable" 13 "java/lang/Throwable" "UNASSIGNED_STACK" "[Ljava/lang/StackTraceElement;" ∈ lw_all := lw_mem (List.mem_of_getElem? (i := 365) (by decide +kernel)) rfl
theorem wq_366 : Cond.laysStatic "java/lang/Throwable" "UNASSIGNED_STACK" "[Ljava/lang/StackTraceElement;" ∈ lw_tbl := List.mem_of_getElem? (i := 366) (by decide +kernel)
theorem wq_367 : Cond.fieldLink "java/lang/Throwable" 20 "java/lang/Throwable" "SUPPRESSED_SENTINEL" "Ljava/util/List;" ∈ lw_all := lw_mem (List.mem_of_getElem? (i := 367) (by decide +kernel)) rfl
theorem wq_368 : Cond.laysStatic "java/lang/Throwable" "SUPPRESSED_SENTINEL" "Ljava/util/List;" ∈ lw_tbl := List.mem_of_getElem? (i := 368) (by decide +kernel)
theorem wq_369 : Cond.methodLink "java/lang/Throwable" 27 (⟨"java/lang/Throwable", "fillInStackTrace", "()Ljava/lang/Throwable;"⟩ : MethodName) ∈ lw_all := lw_mem (List.mem_of_getElem? (i := 369) (by decide +kernel)) rfl
theorem wq_370 : Cond.instanceMethod (⟨"java/lang/Throwable", "fillInStackTrace", "()Ljava/lang/Throwable;"⟩ : MethodName) ∈ lw_all := lw_mem (List.mem_of_getElem? (i := 370) (by decide +kernel)) rfl
theorem wq_372 : Cond.selects "java/lang/IllegalArgumentException" (⟨"java/lang/Throwable", "fillInStackTrace", "()Ljava/lang/Throwable;"⟩ : MethodName) (⟨"java/lang/Throwable", "fillInStackTrace", "()Ljava/lang/Throwable;"⟩ : MethodName) ∈ lw_all := lw_mem (List.mem_of_getElem? (i := 372) (by decide +kernel)) rfl
theorem wq_373 : Cond.selects "java/lang/IndexOutOfBoundsException" (⟨"java/lang/Throwable", "fillInStackTrace", "()Ljava/lang/Throwable;"⟩ : MethodName) (⟨"java/lang/Throwable", "fillInStackTrace", "()Ljava/lang/Throwable;"⟩ : MethodName) ∈ lw_all := lw_mem (List.mem_of_getElem? (i := 373) (by decide +kernel)) rfl
theorem wq_375 : Cond.methodLink "java/lang/Throwable" 202 (⟨"java/lang/Throwable", "fillInStackTrace", "(I)Ljava/lang/Throwable;"⟩ : MethodName) ∈ lw_all := lw_mem (List.mem_of_getElem? (i := 375) (by decide +kernel)) rfl
theorem wq_377 : Cond.instanceMethod (⟨"java/lang/Throwable", "fillInStackTrace", "(I)Ljava/lang/Throwable;"⟩ : MethodName) ∈ lw_all := lw_mem (List.mem_of_getElem? (i := 377) (by decide +kernel)) rfl
theorem wq_378 : Cond.instantiable "java/lang/Throwable" 6 ∈ lw_all := lw_mem (List.mem_of_getElem? (i := 378) (by decide +kernel)) rfl
theorem wq_379 : Cond.native (⟨"java/lang/Throwable", "fillInStackTrace", "(I)Ljava/lang/Throwable;"⟩ : MethodName) ∈ lw_all := lw_mem (List.mem_of_getElem? (i := 379) (by decide +kernel)) rfl
theorem wq_381 : Cond.methodLink RX8 33 (⟨"java/lang/IllegalStateException", "<init>", "(Ljava/lang/String;)V"⟩ : MethodName) ∈ lw_all := lw_mem (List.mem_of_getElem? (i := 381) (by decide +kernel)) rfl
theorem wq_382 : Cond.instanceMethod (⟨"java/lang/IllegalStateException", "<init>", "(Ljava/lang/String;)V"⟩ : MethodName) ∈ lw_all := lw_mem (List.mem_of_getElem? (i := 382) (by decide +kernel)) rfl
theorem wq_383 : Cond.code (⟨"java/lang/IllegalStateException", "<init>", "(Ljava/lang/String;)V"⟩ : MethodName) prog_17_method_2_code 2 (Option.none : Option Jvm.ClassFile.FieldType) ∈ lw_all := lw_mem (List.mem_of_getElem? (i := 383) (by decide +kernel)) rfl
theorem wq_384 : Cond.methodLink "java/lang/IllegalStateException" 7 (⟨"java/lang/RuntimeException", "<init>", "(Ljava/lang/String;)V"⟩ : MethodName) ∈ lw_all := lw_mem (List.mem_of_getElem? (i := 384) (by decide +kernel)) rfl
theorem wq_385 : Cond.instanceMethod (⟨"java/lang/RuntimeException", "<init>", "(Ljava/lang/String;)V"⟩ : MethodName) ∈ lw_all := lw_mem (List.mem_of_getElem? (i := 385) (by decide +kernel)) rfl
theorem wq_386 : Cond.code (⟨"java/lang/RuntimeException", "<init>", "(Ljava/lang/String;)V"⟩ : MethodName) prog_22_method_2_code 2 (Option.none : Option Jvm.ClassFile.FieldType) ∈ lw_all := lw_mem (List.mem_of_getElem? (i := 386) (by decide +kernel)) rfl
theorem wq_387 : Cond.methodLink "java/lang/RuntimeException" 7 (⟨"java/lang/Exception", "<init>", "(Ljava/lang/String;)V"⟩ : MethodName) ∈ lw_all := lw_mem (List.mem_of_getElem? (i := 387) (by decide +kernel)) rfl
theorem wq_388 : Cond.instanceMethod (⟨"java/lang/Exception", "<init>", "(Ljava/lang/String;)V"⟩ : MethodName) ∈ lw_all := lw_mem (List.mem_of_getElem? (i := 388) (by decide +kernel)) rfl
theorem wq_389 : Cond.code (⟨"java/lang/Exception", "<init>", "(Ljava/lang/String;)V"⟩ : MethodName) prog_15_method_2_code 2 (Option.none : Option Jvm.ClassFile.FieldType) ∈ lw_all := lw_mem (List.mem_of_getElem? (i := 389) (by decide +kernel)) rfl
theorem wq_390 : Cond.methodLink "java/lang/Exception" 7 (⟨"java/lang/Throwable", "<init>", "(Ljava/lang/String;)V"⟩ : MethodName) ∈ lw_all := lw_mem (List.mem_of_getElem? (i := 390) (by decide +kernel)) rfl
theorem wq_391 : Cond.instanceMethod (⟨"java/lang/Throwable", "<init>", "(Ljava/lang/String;)V"⟩ : MethodName) ∈ lw_all := lw_mem (List.mem_of_getElem? (i := 391) (by decide +kernel)) rfl
theorem wq_392 : Cond.code (⟨"java/lang/Throwable", "<init>", "(Ljava/lang/String;)V"⟩ : MethodName) prog_25_method_2_code 2 (Option.none : Option Jvm.ClassFile.FieldType) ∈ lw_all := lw_mem (List.mem_of_getElem? (i := 392) (by decide +kernel)) rfl
theorem wq_394 : Cond.fieldLink "java/lang/Throwable" 31 "java/lang/Throwable" "detailMessage" "Ljava/lang/String;" ∈ lw_all := lw_mem (List.mem_of_getElem? (i := 394) (by decide +kernel)) rfl
theorem wq_395 : Cond.fieldLink "java/lang/Throwable" 7 "java/lang/Throwable" "cause" "Ljava/lang/Throwable;" ∈ lw_all := lw_mem (List.mem_of_getElem? (i := 395) (by decide +kernel)) rfl
theorem wq_396 : Cond.fieldLink "java/lang/Throwable" 17 "java/lang/Throwable" "stackTrace" "[Ljava/lang/StackTraceElement;" ∈ lw_all := lw_mem (List.mem_of_getElem? (i := 396) (by decide +kernel)) rfl
theorem wq_397 : Cond.fieldLink "java/lang/Throwable" 24 "java/lang/Throwable" "suppressedExceptions" "Ljava/util/List;" ∈ lw_all := lw_mem (List.mem_of_getElem? (i := 397) (by decide +kernel)) rfl
theorem wq_402 : Cond.lays "java/lang/IllegalStateException" "java/lang/Throwable" "depth" "I" ∈ lw_all := lw_mem (List.mem_of_getElem? (i := 402) (by decide +kernel)) rfl
theorem wq_406 : Cond.arrayClass Jvm.ClassFile.FieldType.byte ∈ lw_all := lw_mem (List.mem_of_getElem? (i := 406) (by decide +kernel)) rfl
theorem wq_407 : Cond.classLink RX8 36 "LibraryVan$Halt" ∈ lw_all := lw_mem (List.mem_of_getElem? (i := 407) (by decide +kernel)) rfl
theorem wq_408 : Cond.instantiable RX1 2 ∈ lw_all := lw_mem (List.mem_of_getElem? (i := 408) (by decide +kernel)) rfl
theorem wq_409 : Cond.methodLinkNest RX8 38 yX1_init "LibraryVan" ∈ lw_tbl := List.mem_of_getElem? (i := 409) (by decide +kernel)
theorem wq_410 : Cond.instanceMethod yX1_init ∈ lw_all := lw_mem (List.mem_of_getElem? (i := 410) (by decide +kernel)) rfl
theorem wq_411 : Cond.code yX1_init cX1_init 1 (Option.none : Option Jvm.ClassFile.FieldType) ∈ lw_all := lw_mem (List.mem_of_getElem? (i := 411) (by decide +kernel)) rfl
theorem wq_412 : Cond.methodLink RX1 1 (⟨"java/lang/Object", "<init>", "()V"⟩ : MethodName) ∈ lw_all := lw_mem (List.mem_of_getElem? (i := 412) (by decide +kernel)) rfl
theorem wq_413 : Cond.fieldLink RX1 7 "LibraryVan$Halt" "served" "I" ∈ lw_all := lw_mem (List.mem_of_getElem? (i := 413) (by decide +kernel)) rfl
theorem wq_414 : Cond.fieldLinkNest RX7 138 "LibraryVan$Halt" "served" "I" "LibraryVan" ∈ lw_tbl := List.mem_of_getElem? (i := 414) (by decide +kernel)
theorem wq_415 : Cond.fieldLink RX1 13 "LibraryVan$Halt" "missed" "I" ∈ lw_all := lw_mem (List.mem_of_getElem? (i := 415) (by decide +kernel)) rfl
theorem wq_416 : Cond.fieldLinkNest RX7 141 "LibraryVan$Halt" "missed" "I" "LibraryVan" ∈ lw_tbl := List.mem_of_getElem? (i := 416) (by decide +kernel)
theorem wq_417 : Cond.lays RX1 "LibraryVan$Halt" "served" "I" ∈ lw_all := lw_mem (List.mem_of_getElem? (i := 417) (by decide +kernel)) rfl
theorem wq_419 : Cond.lays RX1 "LibraryVan$Halt" "missed" "I" ∈ lw_all := lw_mem (List.mem_of_getElem? (i := 419) (by decide +kernel)) rfl
theorem wq_422 : Cond.methodLink RX8 39 yJx4a65c_add_9ea2d ∈ lw_all := lw_mem (List.mem_of_getElem? (i := 422) (by decide +kernel)) rfl
theorem wq_423 : Cond.instanceMethod yJx4a65c_add_9ea2d ∈ lw_all := lw_mem (List.mem_of_getElem? (i := 423) (by decide +kernel)) rfl
theorem wq_424 : Cond.selects RJx4a65c yJx4a65c_add_9ea2d yJx4a65c_add_9ea2d ∈ lw_all := lw_mem (List.mem_of_getElem? (i := 424) (by decide +kernel)) rfl
theorem wq_425 : Cond.code yJx4a65c_add_9ea2d cJx4a65c_add_9ea2d 2 (Option.some Jvm.ClassFile.FieldType.boolean) ∈ lw_all := lw_mem (List.mem_of_getElem? (i := 425) (by decide +kernel)) rfl
theorem wq_426 : Cond.methodLink RJx4a65c 131 yJx4a65c_add_72be8 ∈ lw_all := lw_mem (List.mem_of_getElem? (i := 426) (by decide +kernel)) rfl
theorem wq_428 : Cond.instanceMethod yJx4a65c_add_72be8 ∈ lw_all := lw_mem (List.mem_of_getElem? (i := 428) (by decide +kernel)) rfl
theorem wq_429 : Cond.code yJx4a65c_add_72be8 cJx4a65c_add_72be8 4 (Option.none : Option Jvm.ClassFile.FieldType) ∈ lw_all := lw_mem (List.mem_of_getElem? (i := 429) (by decide +kernel)) rfl
theorem wq_430 : Cond.methodLink RJx4a65c 129 yJx4a65c_grow_d5877 ∈ lw_all := lw_mem (List.mem_of_getElem? (i := 430) (by decide +kernel)) rfl
theorem wq_432 : Cond.instanceMethod yJx4a65c_grow_d5877 ∈ lw_all := lw_mem (List.mem_of_getElem? (i := 432) (by decide +kernel)) rfl
theorem wq_433 : Cond.code yJx4a65c_grow_d5877 cJx4a65c_grow_d5877 1 (Option.some (Jvm.ClassFile.FieldType.array (Jvm.ClassFile.FieldType.object "java/lang/Object"))) ∈ lw_all := lw_mem (List.mem_of_getElem? (i := 433) (by decide +kernel)) rfl
theorem wq_434 : Cond.methodLink RJx4a65c 69 yJx4a65c_grow_92f84 ∈ lw_all := lw_mem (List.mem_of_getElem? (i := 434) (by decide +kernel)) rfl
theorem wq_436 : Cond.instanceMethod yJx4a65c_grow_92f84 ∈ lw_all := lw_mem (List.mem_of_getElem? (i := 436) (by decide +kernel)) rfl
theorem wq_437 : Cond.code yJx4a65c_grow_92f84 cJx4a65c_grow_92f84 4 (Option.some (Jvm.ClassFile.FieldType.array (Jvm.ClassFile.FieldType.object "java/lang/Object"))) ∈ lw_all := lw_mem (List.mem_of_getElem? (i := 437) (by decide +kernel)) rfl
theorem wq_438 : Cond.methodLink RJx4a65c 73 yJ8_newLength_cabcc ∈ lw_all := lw_mem (List.mem_of_getElem? (i := 438) (by decide +kernel)) rfl
theorem wq_439 : Cond.static yJ8_newLength_cabcc ∈ lw_all := lw_mem (List.mem_of_getElem? (i := 439) (by decide +kernel)) rfl
theorem wq_440 : Cond.code yJ8_newLength_cabcc cJ8_newLength_cabcc 4 (Option.some Jvm.ClassFile.FieldType.int) ∈ lw_all := lw_mem (List.mem_of_getElem? (i := 440) (by decide +kernel)) rfl
theorem wq_441 : Cond.methodLink RJ8 194 yJ9_max_7cf53 ∈ lw_all := lw_mem (List.mem_of_getElem? (i := 441) (by decide +kernel)) rfl
