theorem wq_887 : Cond.static yL_count ∈ lw_all := lw_mem (List.mem_of_getElem? (i := 887) (by decide +kernel)) rfl
theorem wq_888 : Cond.codeWith yL_count method_18_code 4 (Option.some Jvm.ClassFile.FieldType.int) [((0 : Nat), (9 : Nat), (12 : Nat), (19 : Nat))] ∈ lw_all := lw_mem (List.mem_of_getElem? (i := 888) (by decide +kernel)) rfl
theorem wq_889 : Cond.methodLink RL 65 yX8_count ∈ lw_all := lw_mem (List.mem_of_getElem? (i := 889) (by decide +kernel)) rfl
theorem wq_890 : Cond.instanceMethod yX8_count ∈ lw_all := lw_mem (List.mem_of_getElem? (i := 890) (by decide +kernel)) rfl
theorem wq_891 : Cond.selects RX8 yX8_count yX8_count ∈ lw_all := lw_mem (List.mem_of_getElem? (i := 891) (by decide +kernel)) rfl
theorem wq_892 : Cond.code yX8_count cX8_count 2 (Option.some Jvm.ClassFile.FieldType.int) ∈ lw_all := lw_mem (List.mem_of_getElem? (i := 892) (by decide +kernel)) rfl
theorem wq_893 : Cond.methodLink RX8 186 yX7_countAnswer ∈ lw_all := lw_mem (List.mem_of_getElem? (i := 893) (by decide +kernel)) rfl
theorem wq_894 : Cond.methodLink RL 139 yL_foresee ∈ lw_all := lw_mem (List.mem_of_getElem? (i := 894) (by decide +kernel)) rfl
theorem wq_895 : Cond.static yL_foresee ∈ lw_all := lw_mem (List.mem_of_getElem? (i := 895) (by decide +kernel)) rfl
theorem wq_896 : Cond.codeWith yL_foresee method_19_code 5 (Option.some Jvm.ClassFile.FieldType.int) [((0 : Nat), (10 : Nat), (13 : Nat), (21 : Nat)), ((0 : Nat), (10 : Nat), (17 : Nat), (19 : Nat))] ∈ lw_all := lw_mem (List.mem_of_getElem? (i := 896) (by decide +kernel)) rfl
theorem wq_897 : Cond.methodLink RL 68 yX8_foresee ∈ lw_all := lw_mem (List.mem_of_getElem? (i := 897) (by decide +kernel)) rfl
theorem wq_898 : Cond.instanceMethod yX8_foresee ∈ lw_all := lw_mem (List.mem_of_getElem? (i := 898) (by decide +kernel)) rfl
theorem wq_899 : Cond.selects RX8 yX8_foresee yX8_foresee ∈ lw_all := lw_mem (List.mem_of_getElem? (i := 899) (by decide +kernel)) rfl
theorem wq_900 : Cond.code yX8_foresee cX8_foresee 3 (Option.some Jvm.ClassFile.FieldType.int) ∈ lw_all := lw_mem (List.mem_of_getElem? (i := 900) (by decide +kernel)) rfl
theorem wq_901 : Cond.methodLink RX8 189 yX7_copyFrom ∈ lw_all := lw_mem (List.mem_of_getElem? (i := 901) (by decide +kernel)) rfl
theorem wq_902 : Cond.instanceMethod yX7_copyFrom ∈ lw_all := lw_mem (List.mem_of_getElem? (i := 902) (by decide +kernel)) rfl
theorem wq_903 : Cond.selects RX7 yX7_copyFrom yX7_copyFrom ∈ lw_all := lw_mem (List.mem_of_getElem? (i := 903) (by decide +kernel)) rfl
theorem wq_904 : Cond.code yX7_copyFrom cX7_copyFrom 3 (Option.none : Option Jvm.ClassFile.FieldType) ∈ lw_all := lw_mem (List.mem_of_getElem? (i := 904) (by decide +kernel)) rfl
theorem wq_905 : Cond.methodLink RX7 70 yX1_copyFrom ∈ lw_all := lw_mem (List.mem_of_getElem? (i := 905) (by decide +kernel)) rfl
theorem wq_906 : Cond.instanceMethod yX1_copyFrom ∈ lw_all := lw_mem (List.mem_of_getElem? (i := 906) (by decide +kernel)) rfl
theorem wq_907 : Cond.selects RX1 yX1_copyFrom yX1_copyFrom ∈ lw_all := lw_mem (List.mem_of_getElem? (i := 907) (by decide +kernel)) rfl
theorem wq_908 : Cond.code yX1_copyFrom cX1_copyFrom 2 (Option.none : Option Jvm.ClassFile.FieldType) ∈ lw_all := lw_mem (List.mem_of_getElem? (i := 908) (by decide +kernel)) rfl
theorem wq_909 : Cond.methodLink RX7 76 yX2_copyFrom ∈ lw_all := lw_mem (List.mem_of_getElem? (i := 909) (by decide +kernel)) rfl
theorem wq_910 : Cond.instanceMethod yX2_copyFrom ∈ lw_all := lw_mem (List.mem_of_getElem? (i := 910) (by decide +kernel)) rfl
theorem wq_911 : Cond.selects RX2 yX2_copyFrom yX2_copyFrom ∈ lw_all := lw_mem (List.mem_of_getElem? (i := 911) (by decide +kernel)) rfl
theorem wq_912 : Cond.code yX2_copyFrom cX2_copyFrom 2 (Option.none : Option Jvm.ClassFile.FieldType) ∈ lw_all := lw_mem (List.mem_of_getElem? (i := 912) (by decide +kernel)) rfl
theorem wq_913 : Cond.methodLink RX7 79 yX0_copyFrom ∈ lw_all := lw_mem (List.mem_of_getElem? (i := 913) (by decide +kernel)) rfl
theorem wq_914 : Cond.instanceMethod yX0_copyFrom ∈ lw_all := lw_mem (List.mem_of_getElem? (i := 914) (by decide +kernel)) rfl
theorem wq_915 : Cond.selects RX0 yX0_copyFrom yX0_copyFrom ∈ lw_all := lw_mem (List.mem_of_getElem? (i := 915) (by decide +kernel)) rfl
theorem wq_916 : Cond.code yX0_copyFrom cX0_copyFrom 2 (Option.none : Option Jvm.ClassFile.FieldType) ∈ lw_all := lw_mem (List.mem_of_getElem? (i := 916) (by decide +kernel)) rfl
theorem wq_917 : Cond.methodLink RX0 47 yX3_copyFrom ∈ lw_all := lw_mem (List.mem_of_getElem? (i := 917) (by decide +kernel)) rfl
theorem wq_918 : Cond.instanceMethod yX3_copyFrom ∈ lw_all := lw_mem (List.mem_of_getElem? (i := 918) (by decide +kernel)) rfl
theorem wq_919 : Cond.selects RX3 yX3_copyFrom yX3_copyFrom ∈ lw_all := lw_mem (List.mem_of_getElem? (i := 919) (by decide +kernel)) rfl
theorem wq_920 : Cond.code yX3_copyFrom cX3_copyFrom 2 (Option.none : Option Jvm.ClassFile.FieldType) ∈ lw_all := lw_mem (List.mem_of_getElem? (i := 920) (by decide +kernel)) rfl
theorem wq_921 : Cond.methodLinkNest RX3 19 yX8_copyRow "LibraryVan" ∈ lw_tbl := List.mem_of_getElem? (i := 921) (by decide +kernel)
theorem wq_922 : Cond.static yX8_copyRow ∈ lw_all := lw_mem (List.mem_of_getElem? (i := 922) (by decide +kernel)) rfl
theorem wq_923 : Cond.code yX8_copyRow cX8_copyRow 3 (Option.none : Option Jvm.ClassFile.FieldType) ∈ lw_all := lw_mem (List.mem_of_getElem? (i := 923) (by decide +kernel)) rfl
theorem wq_924 : Cond.methodLink RX7 84 yX4_copyFrom ∈ lw_all := lw_mem (List.mem_of_getElem? (i := 924) (by decide +kernel)) rfl
theorem wq_925 : Cond.instanceMethod yX4_copyFrom ∈ lw_all := lw_mem (List.mem_of_getElem? (i := 925) (by decide +kernel)) rfl
theorem wq_926 : Cond.selects RX4 yX4_copyFrom yX4_copyFrom ∈ lw_all := lw_mem (List.mem_of_getElem? (i := 926) (by decide +kernel)) rfl
theorem wq_927 : Cond.code yX4_copyFrom cX4_copyFrom 2 (Option.none : Option Jvm.ClassFile.FieldType) ∈ lw_all := lw_mem (List.mem_of_getElem? (i := 927) (by decide +kernel)) rfl
theorem wq_928 : Cond.methodLink RX7 87 yX5_copyFrom ∈ lw_all := lw_mem (List.mem_of_getElem? (i := 928) (by decide +kernel)) rfl
theorem wq_929 : Cond.instanceMethod yX5_copyFrom ∈ lw_all := lw_mem (List.mem_of_getElem? (i := 929) (by decide +kernel)) rfl
theorem wq_930 : Cond.selects RX5 yX5_copyFrom yX5_copyFrom ∈ lw_all := lw_mem (List.mem_of_getElem? (i := 930) (by decide +kernel)) rfl
theorem wq_931 : Cond.code yX5_copyFrom cX5_copyFrom 2 (Option.none : Option Jvm.ClassFile.FieldType) ∈ lw_all := lw_mem (List.mem_of_getElem? (i := 931) (by decide +kernel)) rfl
theorem wq_932 : Cond.methodLinkNest RX5 31 yX8_copyRow "LibraryVan" ∈ lw_tbl := List.mem_of_getElem? (i := 932) (by decide +kernel)
theorem wq_933 : Cond.methodLinkNest RX7 90 yX8_copyRow "LibraryVan" ∈ lw_tbl := List.mem_of_getElem? (i := 933) (by decide +kernel)
theorem wq_934 : Cond.methodLink RX8 193 yX7_missesOfAll ∈ lw_all := lw_mem (List.mem_of_getElem? (i := 934) (by decide +kernel)) rfl
theorem wq_935 : Cond.instanceMethod yX7_missesOfAll ∈ lw_all := lw_mem (List.mem_of_getElem? (i := 935) (by decide +kernel)) rfl
theorem wq_936 : Cond.selects RX7 yX7_missesOfAll yX7_missesOfAll ∈ lw_all := lw_mem (List.mem_of_getElem? (i := 936) (by decide +kernel)) rfl
theorem wq_937 : Cond.code yX7_missesOfAll cX7_missesOfAll 3 (Option.some Jvm.ClassFile.FieldType.int) ∈ lw_all := lw_mem (List.mem_of_getElem? (i := 937) (by decide +kernel)) rfl
theorem wq_938 : Cond.methodLink RX8 196 yX7_booksOnVan ∈ lw_all := lw_mem (List.mem_of_getElem? (i := 938) (by decide +kernel)) rfl
theorem wq_939 : Cond.methodLink RX8 199 yX7_penceOfAll ∈ lw_all := lw_mem (List.mem_of_getElem? (i := 939) (by decide +kernel)) rfl
theorem wq_940 : Cond.methodLink RL 142 yL_gets ∈ lw_all := lw_mem (List.mem_of_getElem? (i := 940) (by decide +kernel)) rfl
theorem wq_941 : Cond.static yL_gets ∈ lw_all := lw_mem (List.mem_of_getElem? (i := 941) (by decide +kernel)) rfl
theorem wq_942 : Cond.codeWith yL_gets method_20_code 5 (Option.some Jvm.ClassFile.FieldType.int) [((0 : Nat), (10 : Nat), (13 : Nat), (19 : Nat))] ∈ lw_all := lw_mem (List.mem_of_getElem? (i := 942) (by decide +kernel)) rfl
theorem wq_943 : Cond.methodLink RL 71 yX8_gets ∈ lw_all := lw_mem (List.mem_of_getElem? (i := 943) (by decide +kernel)) rfl
theorem wq_944 : Cond.instanceMethod yX8_gets ∈ lw_all := lw_mem (List.mem_of_getElem? (i := 944) (by decide +kernel)) rfl
theorem wq_945 : Cond.selects RX8 yX8_gets yX8_gets ∈ lw_all := lw_mem (List.mem_of_getElem? (i := 945) (by decide +kernel)) rfl
theorem wq_946 : Cond.code yX8_gets cX8_gets 4 (Option.some Jvm.ClassFile.FieldType.int) ∈ lw_all := lw_mem (List.mem_of_getElem? (i := 946) (by decide +kernel)) rfl
theorem wq_947 : Cond.methodLink RX8 202 yX7_holderOf ∈ lw_all := lw_mem (List.mem_of_getElem? (i := 947) (by decide +kernel)) rfl
theorem wq_948 : Cond.instanceMethod yX7_holderOf ∈ lw_all := lw_mem (List.mem_of_getElem? (i := 948) (by decide +kernel)) rfl
theorem wq_949 : Cond.selects RX7 yX7_holderOf yX7_holderOf ∈ lw_all := lw_mem (List.mem_of_getElem? (i := 949) (by decide +kernel)) rfl
theorem wq_950 : Cond.code yX7_holderOf cX7_holderOf 2 (Option.some Jvm.ClassFile.FieldType.int) ∈ lw_all := lw_mem (List.mem_of_getElem? (i := 950) (by decide +kernel)) rfl
theorem wq_951 : Cond.methodLink RL 145 yL_advise ∈ lw_all := lw_mem (List.mem_of_getElem? (i := 951) (by decide +kernel)) rfl
theorem wq_952 : Cond.static yL_advise ∈ lw_all := lw_mem (List.mem_of_getElem? (i := 952) (by decide +kernel)) rfl
theorem wq_953 : Cond.codeWith yL_advise method_21_code 4 (Option.some Jvm.ClassFile.FieldType.int) [((0 : Nat), (9 : Nat), (12 : Nat), (21 : Nat)), ((0 : Nat), (9 : Nat), (15 : Nat), (13 : Nat))] ∈ lw_all := lw_mem (List.mem_of_getElem? (i := 953) (by decide +kernel)) rfl
theorem wq_954 : Cond.methodLink RL 74 yX8_advise ∈ lw_all := lw_mem (List.mem_of_getElem? (i := 954) (by decide +kernel)) rfl
theorem wq_955 : Cond.instanceMethod yX8_advise ∈ lw_all := lw_mem (List.mem_of_getElem? (i := 955) (by decide +kernel)) rfl
theorem wq_956 : Cond.selects RX8 yX8_advise yX8_advise ∈ lw_all := lw_mem (List.mem_of_getElem? (i := 956) (by decide +kernel)) rfl
theorem wq_957 : Cond.code yX8_advise cX8_advise 6 (Option.some Jvm.ClassFile.FieldType.int) ∈ lw_all := lw_mem (List.mem_of_getElem? (i := 957) (by decide +kernel)) rfl
theorem wq_959 : Cond.methodLink RX8 207 yX8_loansAhead ∈ lw_all := lw_mem (List.mem_of_getElem? (i := 959) (by decide +kernel)) rfl
theorem wq_961 : Cond.instanceMethod yX8_loansAhead ∈ lw_all := lw_mem (List.mem_of_getElem? (i := 961) (by decide +kernel)) rfl
theorem wq_962 : Cond.code yX8_loansAhead cX8_loansAhead 3 (Option.some Jvm.ClassFile.FieldType.int) ∈ lw_all := lw_mem (List.mem_of_getElem? (i := 962) (by decide +kernel)) rfl
theorem wq_963 : Cond.methodLink RX8 232 yX5_append ∈ lw_all := lw_mem (List.mem_of_getElem? (i := 963) (by decide +kernel)) rfl
theorem wq_964 : Cond.classLink RL 78 "LibraryVanModel" ∈ lw_all := lw_mem (List.mem_of_getElem? (i := 964) (by decide +kernel)) rfl
theorem wq_965 : Cond.instantiable RX10 13 ∈ lw_all := lw_mem (List.mem_of_getElem? (i := 965) (by decide +kernel)) rfl
theorem wq_966 : Cond.methodLink RL 80 yX10_init ∈ lw_all := lw_mem (List.mem_of_getElem? (i := 966) (by decide +kernel)) rfl
theorem wq_967 : Cond.instanceMethod yX10_init ∈ lw_all := lw_mem (List.mem_of_getElem? (i := 967) (by decide +kernel)) rfl
theorem wq_968 : Cond.code yX10_init cX10_init 1 (Option.none : Option Jvm.ClassFile.FieldType) ∈ lw_all := lw_mem (List.mem_of_getElem? (i := 968) (by decide +kernel)) rfl
theorem wq_969 : Cond.methodLink RX10 1 (⟨"java/lang/Object", "<init>", "()V"⟩ : MethodName) ∈ lw_all := lw_mem (List.mem_of_getElem? (i := 969) (by decide +kernel)) rfl
theorem wq_970 : Cond.classLink RX10 29 "LibraryVanModel$State" ∈ lw_all := lw_mem (List.mem_of_getElem? (i := 970) (by decide +kernel)) rfl
theorem wq_971 : Cond.instantiable RX9 17 ∈ lw_all := lw_mem (List.mem_of_getElem? (i := 971) (by decide +kernel)) rfl
theorem wq_972 : Cond.methodLinkNest RX10 31 yX9_init "LibraryVanModel" ∈ lw_tbl := List.mem_of_getElem? (i := 972) (by decide +kernel)
theorem wq_973 : Cond.instanceMethod yX9_init ∈ lw_all := lw_mem (List.mem_of_getElem? (i := 973) (by decide +kernel)) rfl
theorem wq_974 : Cond.code yX9_init cX9_init 2 (Option.none : Option Jvm.ClassFile.FieldType) ∈ lw_all := lw_mem (List.mem_of_getElem? (i := 974) (by decide +kernel)) rfl
theorem wq_975 : Cond.methodLink RX9 9 (⟨"java/lang/Object", "<init>", "()V"⟩ : MethodName) ∈ lw_all := lw_mem (List.mem_of_getElem? (i := 975) (by decide +kernel)) rfl
theorem wq_976 : Cond.fieldLink RX9 58 "LibraryVanModel$State" "day" "I" ∈ lw_all := lw_mem (List.mem_of_getElem? (i := 976) (by decide +kernel)) rfl
theorem wq_977 : Cond.fieldLinkNest RX10 162 "LibraryVanModel$State" "day" "I" "LibraryVanModel" ∈ lw_tbl := List.mem_of_getElem? (i := 977) (by decide +kernel)
theorem wq_978 : Cond.fieldLink RX9 62 "LibraryVanModel$State" "used" "I" ∈ lw_all := lw_mem (List.mem_of_getElem? (i := 978) (by decide +kernel)) rfl
theorem wq_979 : Cond.fieldLinkNest RX10 171 "LibraryVanModel$State" "used" "I" "LibraryVanModel" ∈ lw_tbl := List.mem_of_getElem? (i := 979) (by decide +kernel)
theorem wq_980 : Cond.fieldLink RX9 65 "LibraryVanModel$State" "loans" "I" ∈ lw_all := lw_mem (List.mem_of_getElem? (i := 980) (by decide +kernel)) rfl
theorem wq_981 : Cond.fieldLinkNest RX10 165 "LibraryVanModel$State" "loans" "I" "LibraryVanModel" ∈ lw_tbl := List.mem_of_getElem? (i := 981) (by decide +kernel)
theorem wq_982 : Cond.fieldLink RX9 15 "LibraryVanModel$State" "mud" "[I" ∈ lw_all := lw_mem (List.mem_of_getElem? (i := 982) (by decide +kernel)) rfl
theorem wq_983 : Cond.fieldLinkNest RX10 91 "LibraryVanModel$State" "mud" "[I" "LibraryVanModel" ∈ lw_tbl := List.mem_of_getElem? (i := 983) (by decide +kernel)
theorem wq_984 : Cond.fieldLink RX9 19 "LibraryVanModel$State" "round" "[I" ∈ lw_all := lw_mem (List.mem_of_getElem? (i := 984) (by decide +kernel)) rfl
theorem wq_985 : Cond.fieldLinkNest RX10 78 "LibraryVanModel$State" "round" "[I" "LibraryVanModel" ∈ lw_tbl := List.mem_of_getElem? (i := 985) (by decide +kernel)
theorem wq_986 : Cond.fieldLink RX9 68 "LibraryVanModel$State" "size" "I" ∈ lw_all := lw_mem (List.mem_of_getElem? (i := 986) (by decide +kernel)) rfl
theorem wq_987 : Cond.fieldLinkNest RX10 75 "LibraryVanModel$State" "size" "I" "LibraryVanModel" ∈ lw_tbl := List.mem_of_getElem? (i := 987) (by decide +kernel)
theorem wq_988 : Cond.fieldLink RX9 22 "LibraryVanModel$State" "served" "[I" ∈ lw_all := lw_mem (List.mem_of_getElem? (i := 988) (by decide +kernel)) rfl
theorem wq_989 : Cond.fieldLinkNest RX10 81 "LibraryVanModel$State" "served" "[I" "LibraryVanModel" ∈ lw_tbl := List.mem_of_getElem? (i := 989) (by decide +kernel)
theorem wq_990 : Cond.fieldLink RX9 25 "LibraryVanModel$State" "missed" "[I" ∈ lw_all := lw_mem (List.mem_of_getElem? (i := 990) (by decide +kernel)) rfl
theorem wq_991 : Cond.fieldLinkNest RX10 84 "LibraryVanModel$State" "missed" "[I" "LibraryVanModel" ∈ lw_tbl := List.mem_of_getElem? (i := 991) (by decide +kernel)
theorem wq_992 : Cond.fieldLink RX9 28 "LibraryVanModel$State" "with" "[I" ∈ lw_all := lw_mem (List.mem_of_getElem? (i := 992) (by decide +kernel)) rfl
theorem wq_993 : Cond.fieldLinkNest RX10 104 "LibraryVanModel$State" "with" "[I" "LibraryVanModel" ∈ lw_tbl := List.mem_of_getElem? (i := 993) (by decide +kernel)
theorem wq_994 : Cond.fieldLink RX9 31 "LibraryVanModel$State" "since" "[I" ∈ lw_all := lw_mem (List.mem_of_getElem? (i := 994) (by decide +kernel)) rfl
theorem wq_995 : Cond.fieldLinkNest RX10 129 "LibraryVanModel$State" "since" "[I" "LibraryVanModel" ∈ lw_tbl := List.mem_of_getElem? (i := 995) (by decide +kernel)
theorem wq_996 : Cond.fieldLink RX9 34 "LibraryVanModel$State" "lent" "[I" ∈ lw_all := lw_mem (List.mem_of_getElem? (i := 996) (by decide +kernel)) rfl
theorem wq_997 : Cond.fieldLinkNest RX10 132 "LibraryVanModel$State" "lent" "[I" "LibraryVanModel" ∈ lw_tbl := List.mem_of_getElem? (i := 997) (by decide +kernel)
theorem wq_998 : Cond.fieldLink RX9 37 "LibraryVanModel$State" "queue" "[I" ∈ lw_all := lw_mem (List.mem_of_getElem? (i := 998) (by decide +kernel)) rfl
theorem wq_999 : Cond.fieldLinkNest RX10 116 "LibraryVanModel$State" "queue" "[I" "LibraryVanModel" ∈ lw_tbl := List.mem_of_getElem? (i := 999) (by decide +kernel)
theorem wq_1000 : Cond.fieldLink RX9 40 "LibraryVanModel$State" "queued" "[I" ∈ lw_all := lw_mem (List.mem_of_getElem? (i := 1000) (by decide +kernel)) rfl
theorem wq_1001 : Cond.fieldLinkNest RX10 119 "LibraryVanModel$State" "queued" "[I" "LibraryVanModel" ∈ lw_tbl := List.mem_of_getElem? (i := 1001) (by decide +kernel)
theorem wq_1002 : Cond.fieldLink RX9 43 "LibraryVanModel$State" "read" "[I" ∈ lw_all := lw_mem (List.mem_of_getElem? (i := 1002) (by decide +kernel)) rfl
theorem wq_1003 : Cond.fieldLinkNest RX10 126 "LibraryVanModel$State" "read" "[I" "LibraryVanModel" ∈ lw_tbl := List.mem_of_getElem? (i := 1003) (by decide +kernel)
theorem wq_1004 : Cond.fieldLink RX9 46 "LibraryVanModel$State" "owes" "[I" ∈ lw_all := lw_mem (List.mem_of_getElem? (i := 1004) (by decide +kernel)) rfl
theorem wq_1005 : Cond.fieldLinkNest RX10 146 "LibraryVanModel$State" "owes" "[I" "LibraryVanModel" ∈ lw_tbl := List.mem_of_getElem? (i := 1005) (by decide +kernel)
theorem wq_1006 : Cond.fieldLink RX9 49 "LibraryVanModel$State" "had" "[I" ∈ lw_all := lw_mem (List.mem_of_getElem? (i := 1006) (by decide +kernel)) rfl
theorem wq_1007 : Cond.fieldLinkNest RX10 149 "LibraryVanModel$State" "had" "[I" "LibraryVanModel" ∈ lw_tbl := List.mem_of_getElem? (i := 1007) (by decide +kernel)
theorem wq_1008 : Cond.fieldLink RX9 3 "LibraryVanModel$State" "this$0" "LLibraryVanModel;" ∈ lw_all := lw_mem (List.mem_of_getElem? (i := 1008) (by decide +kernel)) rfl
theorem wq_1009 : Cond.lays RX9 "LibraryVanModel$State" "day" "I" ∈ lw_all := lw_mem (List.mem_of_getElem? (i := 1009) (by decide +kernel)) rfl
theorem wq_1011 : Cond.lays RX9 "LibraryVanModel$State" "used" "I" ∈ lw_all := lw_mem (List.mem_of_getElem? (i := 1011) (by decide +kernel)) rfl
theorem wq_1013 : Cond.lays RX9 "LibraryVanModel$State" "loans" "I" ∈ lw_all := lw_mem (List.mem_of_getElem? (i := 1013) (by decide +kernel)) rfl
theorem wq_1015 : Cond.laysFinal RX9 "LibraryVanModel$State" "mud" "[I" ∈ lw_all := lw_mem (List.mem_of_getElem? (i := 1015) (by decide +kernel)) rfl
theorem wq_1017 : Cond.laysFinal RX9 "LibraryVanModel$State" "round" "[I" ∈ lw_all := lw_mem (List.mem_of_getElem? (i := 1017) (by decide +kernel)) rfl
theorem wq_1019 : Cond.lays RX9 "LibraryVanModel$State" "size" "I" ∈ lw_all := lw_mem (List.mem_of_getElem? (i := 1019) (by decide +kernel)) rfl
theorem wq_1021 : Cond.laysFinal RX9 "LibraryVanModel$State" "served" "[I" ∈ lw_all := lw_mem (List.mem_of_getElem? (i := 1021) (by decide +kernel)) rfl
theorem wq_1023 : Cond.laysFinal RX9 "LibraryVanModel$State" "missed" "[I" ∈ lw_all := lw_mem (List.mem_of_getElem? (i := 1023) (by decide +kernel)) rfl
theorem wq_1025 : Cond.laysFinal RX9 "LibraryVanModel$State" "with" "[I" ∈ lw_all := lw_mem (List.mem_of_getElem? (i := 1025) (by decide +kernel)) rfl
theorem wq_1027 : Cond.laysFinal RX9 "LibraryVanModel$State" "since" "[I" ∈ lw_all := lw_mem (List.mem_of_getElem? (i := 1027) (by decide +kernel)) rfl
theorem wq_1029 : Cond.laysFinal RX9 "LibraryVanModel$State" "lent" "[I" ∈ lw_all := lw_mem (List.mem_of_getElem? (i := 1029) (by decide +kernel)) rfl
theorem wq_1031 : Cond.laysFinal RX9 "LibraryVanModel$State" "queue" "[I" ∈ lw_all := lw_mem (List.mem_of_getElem? (i := 1031) (by decide +kernel)) rfl
theorem wq_1033 : Cond.laysFinal RX9 "LibraryVanModel$State" "queued" "[I" ∈ lw_all := lw_mem (List.mem_of_getElem? (i := 1033) (by decide +kernel)) rfl
theorem wq_1035 : Cond.laysFinal RX9 "LibraryVanModel$State" "read" "[I" ∈ lw_all := lw_mem (List.mem_of_getElem? (i := 1035) (by decide +kernel)) rfl
theorem wq_1037 : Cond.laysFinal RX9 "LibraryVanModel$State" "owes" "[I" ∈ lw_all := lw_mem (List.mem_of_getElem? (i := 1037) (by decide +kernel)) rfl
theorem wq_1039 : Cond.laysFinal RX9 "LibraryVanModel$State" "had" "[I" ∈ lw_all := lw_mem (List.mem_of_getElem? (i := 1039) (by decide +kernel)) rfl
theorem wq_1041 : Cond.laysFinal RX9 "LibraryVanModel$State" "this$0" "LLibraryVanModel;" ∈ lw_all := lw_mem (List.mem_of_getElem? (i := 1041) (by decide +kernel)) rfl
theorem wq_1044 : Cond.fieldLink RX10 41 "LibraryVanModel" "thrown" "I" ∈ lw_all := lw_mem (List.mem_of_getElem? (i := 1044) (by decide +kernel)) rfl
theorem wq_1045 : Cond.fieldLink RX10 44 "LibraryVanModel" "halts" "I" ∈ lw_all := lw_mem (List.mem_of_getElem? (i := 1045) (by decide +kernel)) rfl
theorem wq_1046 : Cond.fieldLinkNest RX9 93 "LibraryVanModel" "halts" "I" "LibraryVanModel" ∈ lw_tbl := List.mem_of_getElem? (i := 1046) (by decide +kernel)
theorem wq_1047 : Cond.fieldLinkNest RX9 82 "LibraryVanModel" "lanes" "I" "LibraryVanModel" ∈ lw_tbl := List.mem_of_getElem? (i := 1047) (by decide +kernel)
theorem wq_1048 : Cond.fieldLink RX10 65 "LibraryVanModel" "lanes" "I" ∈ lw_all := lw_mem (List.mem_of_getElem? (i := 1048) (by decide +kernel)) rfl
theorem wq_1049 : Cond.fieldLink RX10 9 "LibraryVanModel" "lane" "[I" ∈ lw_all := lw_mem (List.mem_of_getElem? (i := 1049) (by decide +kernel)) rfl
theorem wq_1050 : Cond.fieldLinkNest RX9 75 "LibraryVanModel" "lane" "[I" "LibraryVanModel" ∈ lw_tbl := List.mem_of_getElem? (i := 1050) (by decide +kernel)
theorem wq_1051 : Cond.fieldLink RX10 13 "LibraryVanModel" "rain" "[I" ∈ lw_all := lw_mem (List.mem_of_getElem? (i := 1051) (by decide +kernel)) rfl
theorem wq_1052 : Cond.fieldLinkNest RX9 99 "LibraryVanModel" "rain" "[I" "LibraryVanModel" ∈ lw_tbl := List.mem_of_getElem? (i := 1052) (by decide +kernel)
theorem wq_1053 : Cond.fieldLink RX10 16 "LibraryVanModel" "minutes" "I" ∈ lw_all := lw_mem (List.mem_of_getElem? (i := 1053) (by decide +kernel)) rfl
theorem wq_1054 : Cond.fieldLinkNest RX9 114 "LibraryVanModel" "minutes" "I" "LibraryVanModel" ∈ lw_tbl := List.mem_of_getElem? (i := 1054) (by decide +kernel)
theorem wq_1055 : Cond.fieldLink RX10 54 "LibraryVanModel" "books" "I" ∈ lw_all := lw_mem (List.mem_of_getElem? (i := 1055) (by decide +kernel)) rfl
theorem wq_1056 : Cond.fieldLinkNest RX9 96 "LibraryVanModel" "books" "I" "LibraryVanModel" ∈ lw_tbl := List.mem_of_getElem? (i := 1056) (by decide +kernel)
theorem wq_1057 : Cond.fieldLink RX10 20 "LibraryVanModel" "shelf" "[I" ∈ lw_all := lw_mem (List.mem_of_getElem? (i := 1057) (by decide +kernel)) rfl
theorem wq_1058 : Cond.fieldLinkNest RX9 143 "LibraryVanModel" "shelf" "[I" "LibraryVanModel" ∈ lw_tbl := List.mem_of_getElem? (i := 1058) (by decide +kernel)
theorem wq_1059 : Cond.fieldLink RX10 51 "LibraryVanModel" "readers" "I" ∈ lw_all := lw_mem (List.mem_of_getElem? (i := 1059) (by decide +kernel)) rfl
theorem wq_1060 : Cond.fieldLinkNest RX9 121 "LibraryVanModel" "readers" "I" "LibraryVanModel" ∈ lw_tbl := List.mem_of_getElem? (i := 1060) (by decide +kernel)
theorem wq_1061 : Cond.fieldLink RX10 23 "LibraryVanModel" "reader" "[I" ∈ lw_all := lw_mem (List.mem_of_getElem? (i := 1061) (by decide +kernel)) rfl
theorem wq_1062 : Cond.fieldLinkNest RX9 124 "LibraryVanModel" "reader" "[I" "LibraryVanModel" ∈ lw_tbl := List.mem_of_getElem? (i := 1062) (by decide +kernel)
theorem wq_1063 : Cond.fieldLink RX10 26 "LibraryVanModel" "times" "[I" ∈ lw_all := lw_mem (List.mem_of_getElem? (i := 1063) (by decide +kernel)) rfl
theorem wq_1064 : Cond.fieldLinkNest RX9 78 "LibraryVanModel" "times" "[I" "LibraryVanModel" ∈ lw_tbl := List.mem_of_getElem? (i := 1064) (by decide +kernel)
theorem wq_1065 : Cond.fieldLink RX10 34 "LibraryVanModel" "s" "LLibraryVanModel$State;" ∈ lw_all := lw_mem (List.mem_of_getElem? (i := 1065) (by decide +kernel)) rfl
theorem wq_1066 : Cond.fieldLink RX10 38 "LibraryVanModel" "ahead" "LLibraryVanModel$State;" ∈ lw_all := lw_mem (List.mem_of_getElem? (i := 1066) (by decide +kernel)) rfl
theorem wq_1067 : Cond.lays RX10 "LibraryVanModel" "thrown" "I" ∈ lw_all := lw_mem (List.mem_of_getElem? (i := 1067) (by decide +kernel)) rfl
theorem wq_1069 : Cond.lays RX10 "LibraryVanModel" "halts" "I" ∈ lw_all := lw_mem (List.mem_of_getElem? (i := 1069) (by decide +kernel)) rfl
theorem wq_1071 : Cond.lays RX10 "LibraryVanModel" "lanes" "I" ∈ lw_all := lw_mem (List.mem_of_getElem? (i := 1071) (by decide +kernel)) rfl
theorem wq_1073 : Cond.laysFinal RX10 "LibraryVanModel" "lane" "[I" ∈ lw_all := lw_mem (List.mem_of_getElem? (i := 1073) (by decide +kernel)) rfl
theorem wq_1075 : Cond.laysFinal RX10 "LibraryVanModel" "rain" "[I" ∈ lw_all := lw_mem (List.mem_of_getElem? (i := 1075) (by decide +kernel)) rfl
theorem wq_1077 : Cond.lays RX10 "LibraryVanModel" "minutes" "I" ∈ lw_all := lw_mem (List.mem_of_getElem? (i := 1077) (by decide +kernel)) rfl
theorem wq_1079 : Cond.lays RX10 "LibraryVanModel" "books" "I" ∈ lw_all := lw_mem (List.mem_of_getElem? (i := 1079) (by decide +kernel)) rfl
theorem wq_1081 : Cond.laysFinal RX10 "LibraryVanModel" "shelf" "[I" ∈ lw_all := lw_mem (List.mem_of_getElem? (i := 1081) (by decide +kernel)) rfl
theorem wq_1083 : Cond.lays RX10 "LibraryVanModel" "readers" "I" ∈ lw_all := lw_mem (List.mem_of_getElem? (i := 1083) (by decide +kernel)) rfl
theorem wq_1085 : Cond.laysFinal RX10 "LibraryVanModel" "reader" "[I" ∈ lw_all := lw_mem (List.mem_of_getElem? (i := 1085) (by decide +kernel)) rfl
theorem wq_1087 : Cond.laysFinal RX10 "LibraryVanModel" "times" "[I" ∈ lw_all := lw_mem (List.mem_of_getElem? (i := 1087) (by decide +kernel)) rfl
theorem wq_1089 : Cond.laysFinal RX10 "LibraryVanModel" "s" "LLibraryVanModel$State;" ∈ lw_all := lw_mem (List.mem_of_getElem? (i := 1089) (by decide +kernel)) rfl
theorem wq_1091 : Cond.laysFinal RX10 "LibraryVanModel" "ahead" "LLibraryVanModel$State;" ∈ lw_all := lw_mem (List.mem_of_getElem? (i := 1091) (by decide +kernel)) rfl
theorem wq_1094 : Cond.methodLink RL 87 yX10_thrown ∈ lw_all := lw_mem (List.mem_of_getElem? (i := 1094) (by decide +kernel)) rfl
theorem wq_1095 : Cond.instanceMethod yX10_thrown ∈ lw_all := lw_mem (List.mem_of_getElem? (i := 1095) (by decide +kernel)) rfl
theorem wq_1096 : Cond.selects RX10 yX10_thrown yX10_thrown ∈ lw_all := lw_mem (List.mem_of_getElem? (i := 1096) (by decide +kernel)) rfl
theorem wq_1097 : Cond.code yX10_thrown cX10_thrown 1 (Option.some Jvm.ClassFile.FieldType.int) ∈ lw_all := lw_mem (List.mem_of_getElem? (i := 1097) (by decide +kernel)) rfl
theorem wq_1098 : Cond.methodLink RL 86 yX10_addHalt ∈ lw_all := lw_mem (List.mem_of_getElem? (i := 1098) (by decide +kernel)) rfl
theorem wq_1099 : Cond.instanceMethod yX10_addHalt ∈ lw_all := lw_mem (List.mem_of_getElem? (i := 1099) (by decide +kernel)) rfl
theorem wq_1100 : Cond.selects RX10 yX10_addHalt yX10_addHalt ∈ lw_all := lw_mem (List.mem_of_getElem? (i := 1100) (by decide +kernel)) rfl
theorem wq_1101 : Cond.code yX10_addHalt cX10_addHalt 1 (Option.some Jvm.ClassFile.FieldType.int) ∈ lw_all := lw_mem (List.mem_of_getElem? (i := 1101) (by decide +kernel)) rfl
theorem wq_1102 : Cond.methodLink RX10 57 yX10_no ∈ lw_all := lw_mem (List.mem_of_getElem? (i := 1102) (by decide +kernel)) rfl
theorem wq_1104 : Cond.instanceMethod yX10_no ∈ lw_all := lw_mem (List.mem_of_getElem? (i := 1104) (by decide +kernel)) rfl
theorem wq_1105 : Cond.code yX10_no cX10_no 2 (Option.some Jvm.ClassFile.FieldType.int) ∈ lw_all := lw_mem (List.mem_of_getElem? (i := 1105) (by decide +kernel)) rfl
theorem wq_1106 : Cond.methodLink RL 93 yX10_addLane ∈ lw_all := lw_mem (List.mem_of_getElem? (i := 1106) (by decide +kernel)) rfl
theorem wq_1107 : Cond.instanceMethod yX10_addLane ∈ lw_all := lw_mem (List.mem_of_getElem? (i := 1107) (by decide +kernel)) rfl
theorem wq_1108 : Cond.selects RX10 yX10_addLane yX10_addLane ∈ lw_all := lw_mem (List.mem_of_getElem? (i := 1108) (by decide +kernel)) rfl
theorem wq_1109 : Cond.code yX10_addLane cX10_addLane 6 (Option.some Jvm.ClassFile.FieldType.int) ∈ lw_all := lw_mem (List.mem_of_getElem? (i := 1109) (by decide +kernel)) rfl
theorem wq_1110 : Cond.methodLink RX10 61 yX10_isHalt ∈ lw_all := lw_mem (List.mem_of_getElem? (i := 1110) (by decide +kernel)) rfl
theorem wq_1112 : Cond.instanceMethod yX10_isHalt ∈ lw_all := lw_mem (List.mem_of_getElem? (i := 1112) (by decide +kernel)) rfl
theorem wq_1113 : Cond.code yX10_isHalt cX10_isHalt 2 (Option.some Jvm.ClassFile.FieldType.boolean) ∈ lw_all := lw_mem (List.mem_of_getElem? (i := 1113) (by decide +kernel)) rfl
theorem wq_1114 : Cond.methodLink RX10 47 yX10_isIn ∈ lw_all := lw_mem (List.mem_of_getElem? (i := 1114) (by decide +kernel)) rfl
theorem wq_1115 : Cond.static yX10_isIn ∈ lw_all := lw_mem (List.mem_of_getElem? (i := 1115) (by decide +kernel)) rfl
theorem wq_1116 : Cond.code yX10_isIn cX10_isIn 3 (Option.some Jvm.ClassFile.FieldType.boolean) ∈ lw_all := lw_mem (List.mem_of_getElem? (i := 1116) (by decide +kernel)) rfl
theorem wq_1117 : Cond.methodLink RX10 68 (⟨"java/lang/System", "arraycopy", "(Ljava/lang/Object;ILjava/lang/Object;II)V"⟩ : MethodName) ∈ lw_all := lw_mem (List.mem_of_getElem? (i := 1117) (by decide +kernel)) rfl
theorem wq_1118 : Cond.methodLink RL 97 yX10_setRain ∈ lw_all := lw_mem (List.mem_of_getElem? (i := 1118) (by decide +kernel)) rfl
theorem wq_1119 : Cond.instanceMethod yX10_setRain ∈ lw_all := lw_mem (List.mem_of_getElem? (i := 1119) (by decide +kernel)) rfl
theorem wq_1120 : Cond.selects RX10 yX10_setRain yX10_setRain ∈ lw_all := lw_mem (List.mem_of_getElem? (i := 1120) (by decide +kernel)) rfl
theorem wq_1121 : Cond.code yX10_setRain cX10_setRain 4 (Option.some Jvm.ClassFile.FieldType.int) ∈ lw_all := lw_mem (List.mem_of_getElem? (i := 1121) (by decide +kernel)) rfl
theorem wq_1122 : Cond.methodLink RL 100 yX10_setRound ∈ lw_all := lw_mem (List.mem_of_getElem? (i := 1122) (by decide +kernel)) rfl
theorem wq_1123 : Cond.instanceMethod yX10_setRound ∈ lw_all := lw_mem (List.mem_of_getElem? (i := 1123) (by decide +kernel)) rfl
theorem wq_1124 : Cond.selects RX10 yX10_setRound yX10_setRound ∈ lw_all := lw_mem (List.mem_of_getElem? (i := 1124) (by decide +kernel)) rfl
theorem wq_1125 : Cond.code yX10_setRound cX10_setRound 6 (Option.some Jvm.ClassFile.FieldType.int) ∈ lw_all := lw_mem (List.mem_of_getElem? (i := 1125) (by decide +kernel)) rfl
theorem wq_1126 : Cond.constant RX10 74 100000000 ∈ lw_all := lw_mem (List.mem_of_getElem? (i := 1126) (by decide +kernel)) rfl
theorem wq_1127 : Cond.methodLink RL 103 yX10_halt ∈ lw_all := lw_mem (List.mem_of_getElem? (i := 1127) (by decide +kernel)) rfl
theorem wq_1128 : Cond.instanceMethod yX10_halt ∈ lw_all := lw_mem (List.mem_of_getElem? (i := 1128) (by decide +kernel)) rfl
theorem wq_1129 : Cond.selects RX10 yX10_halt yX10_halt ∈ lw_all := lw_mem (List.mem_of_getElem? (i := 1129) (by decide +kernel)) rfl
theorem wq_1130 : Cond.code yX10_halt cX10_halt 3 (Option.some Jvm.ClassFile.FieldType.int) ∈ lw_all := lw_mem (List.mem_of_getElem? (i := 1130) (by decide +kernel)) rfl
theorem wq_1131 : Cond.methodLink RX10 87 yX10_haltTold ∈ lw_all := lw_mem (List.mem_of_getElem? (i := 1131) (by decide +kernel)) rfl
theorem wq_1133 : Cond.instanceMethod yX10_haltTold ∈ lw_all := lw_mem (List.mem_of_getElem? (i := 1133) (by decide +kernel)) rfl
theorem wq_1134 : Cond.code yX10_haltTold cX10_haltTold 7 (Option.some Jvm.ClassFile.FieldType.int) ∈ lw_all := lw_mem (List.mem_of_getElem? (i := 1134) (by decide +kernel)) rfl
theorem wq_1135 : Cond.methodLink RL 106 yX10_lane ∈ lw_all := lw_mem (List.mem_of_getElem? (i := 1135) (by decide +kernel)) rfl
theorem wq_1136 : Cond.instanceMethod yX10_lane ∈ lw_all := lw_mem (List.mem_of_getElem? (i := 1136) (by decide +kernel)) rfl
theorem wq_1137 : Cond.selects RX10 yX10_lane yX10_lane ∈ lw_all := lw_mem (List.mem_of_getElem? (i := 1137) (by decide +kernel)) rfl
theorem wq_1138 : Cond.code yX10_lane cX10_lane 3 (Option.some Jvm.ClassFile.FieldType.int) ∈ lw_all := lw_mem (List.mem_of_getElem? (i := 1138) (by decide +kernel)) rfl
theorem wq_1139 : Cond.methodLink RX10 97 yX10_laneTold ∈ lw_all := lw_mem (List.mem_of_getElem? (i := 1139) (by decide +kernel)) rfl
theorem wq_1141 : Cond.instanceMethod yX10_laneTold ∈ lw_all := lw_mem (List.mem_of_getElem? (i := 1141) (by decide +kernel)) rfl
theorem wq_1142 : Cond.code yX10_laneTold cX10_laneTold 3 (Option.some Jvm.ClassFile.FieldType.int) ∈ lw_all := lw_mem (List.mem_of_getElem? (i := 1142) (by decide +kernel)) rfl
theorem wq_1143 : Cond.methodLink RX10 94 yX9_minutesOf ∈ lw_all := lw_mem (List.mem_of_getElem? (i := 1143) (by decide +kernel)) rfl
theorem wq_1144 : Cond.instanceMethod yX9_minutesOf ∈ lw_all := lw_mem (List.mem_of_getElem? (i := 1144) (by decide +kernel)) rfl
theorem wq_1145 : Cond.selects RX9 yX9_minutesOf yX9_minutesOf ∈ lw_all := lw_mem (List.mem_of_getElem? (i := 1145) (by decide +kernel)) rfl
theorem wq_1146 : Cond.code yX9_minutesOf cX9_minutesOf 2 (Option.some Jvm.ClassFile.FieldType.int) ∈ lw_all := lw_mem (List.mem_of_getElem? (i := 1146) (by decide +kernel)) rfl
theorem wq_1147 : Cond.methodLink RL 109 yX10_way ∈ lw_all := lw_mem (List.mem_of_getElem? (i := 1147) (by decide +kernel)) rfl
theorem wq_1148 : Cond.instanceMethod yX10_way ∈ lw_all := lw_mem (List.mem_of_getElem? (i := 1148) (by decide +kernel)) rfl
theorem wq_1149 : Cond.selects RX10 yX10_way yX10_way ∈ lw_all := lw_mem (List.mem_of_getElem? (i := 1149) (by decide +kernel)) rfl
theorem wq_1150 : Cond.code yX10_way cX10_way 3 (Option.some Jvm.ClassFile.FieldType.int) ∈ lw_all := lw_mem (List.mem_of_getElem? (i := 1150) (by decide +kernel)) rfl
theorem wq_1151 : Cond.methodLink RX10 100 yX9_find ∈ lw_all := lw_mem (List.mem_of_getElem? (i := 1151) (by decide +kernel)) rfl
theorem wq_1152 : Cond.instanceMethod yX9_find ∈ lw_all := lw_mem (List.mem_of_getElem? (i := 1152) (by decide +kernel)) rfl
theorem wq_1153 : Cond.selects RX9 yX9_find yX9_find ∈ lw_all := lw_mem (List.mem_of_getElem? (i := 1153) (by decide +kernel)) rfl
theorem wq_1154 : Cond.code yX9_find cX9_find 3 (Option.none : Option Jvm.ClassFile.FieldType) ∈ lw_all := lw_mem (List.mem_of_getElem? (i := 1154) (by decide +kernel)) rfl
theorem wq_1155 : Cond.constant RX9 81 1000000 ∈ lw_all := lw_mem (List.mem_of_getElem? (i := 1155) (by decide +kernel)) rfl
theorem wq_1156 : Cond.methodLink RX9 85 yX9_minutesOf ∈ lw_all := lw_mem (List.mem_of_getElem? (i := 1156) (by decide +kernel)) rfl
theorem wq_1157 : Cond.methodLink RX9 89 yX9_relax ∈ lw_all := lw_mem (List.mem_of_getElem? (i := 1157) (by decide +kernel)) rfl
theorem wq_1159 : Cond.instanceMethod yX9_relax ∈ lw_all := lw_mem (List.mem_of_getElem? (i := 1159) (by decide +kernel)) rfl
theorem wq_1160 : Cond.code yX9_relax cX9_relax 6 (Option.some Jvm.ClassFile.FieldType.boolean) ∈ lw_all := lw_mem (List.mem_of_getElem? (i := 1160) (by decide +kernel)) rfl
theorem wq_1161 : Cond.constant RX10 103 1000000 ∈ lw_all := lw_mem (List.mem_of_getElem? (i := 1161) (by decide +kernel)) rfl
theorem wq_1162 : Cond.methodLink RL 113 yX10_addBook ∈ lw_all := lw_mem (List.mem_of_getElem? (i := 1162) (by decide +kernel)) rfl
theorem wq_1163 : Cond.instanceMethod yX10_addBook ∈ lw_all := lw_mem (List.mem_of_getElem? (i := 1163) (by decide +kernel)) rfl
theorem wq_1164 : Cond.selects RX10 yX10_addBook yX10_addBook ∈ lw_all := lw_mem (List.mem_of_getElem? (i := 1164) (by decide +kernel)) rfl
theorem wq_1165 : Cond.code yX10_addBook cX10_addBook 2 (Option.some Jvm.ClassFile.FieldType.int) ∈ lw_all := lw_mem (List.mem_of_getElem? (i := 1165) (by decide +kernel)) rfl
theorem wq_1166 : Cond.methodLink RL 117 yX10_addReader ∈ lw_all := lw_mem (List.mem_of_getElem? (i := 1166) (by decide +kernel)) rfl
theorem wq_1167 : Cond.instanceMethod yX10_addReader ∈ lw_all := lw_mem (List.mem_of_getElem? (i := 1167) (by decide +kernel)) rfl
theorem wq_1168 : Cond.selects RX10 yX10_addReader yX10_addReader ∈ lw_all := lw_mem (List.mem_of_getElem? (i := 1168) (by decide +kernel)) rfl
theorem wq_1169 : Cond.code yX10_addReader cX10_addReader 5 (Option.some Jvm.ClassFile.FieldType.int) ∈ lw_all := lw_mem (List.mem_of_getElem? (i := 1169) (by decide +kernel)) rfl
theorem wq_1170 : Cond.methodLink RL 120 yX10_reserve ∈ lw_all := lw_mem (List.mem_of_getElem? (i := 1170) (by decide +kernel)) rfl
theorem wq_1171 : Cond.instanceMethod yX10_reserve ∈ lw_all := lw_mem (List.mem_of_getElem? (i := 1171) (by decide +kernel)) rfl
theorem wq_1172 : Cond.selects RX10 yX10_reserve yX10_reserve ∈ lw_all := lw_mem (List.mem_of_getElem? (i := 1172) (by decide +kernel)) rfl
theorem wq_1173 : Cond.code yX10_reserve cX10_reserve 3 (Option.some Jvm.ClassFile.FieldType.int) ∈ lw_all := lw_mem (List.mem_of_getElem? (i := 1173) (by decide +kernel)) rfl
theorem wq_1174 : Cond.methodLink RX10 107 yX10_isReader ∈ lw_all := lw_mem (List.mem_of_getElem? (i := 1174) (by decide +kernel)) rfl
theorem wq_1176 : Cond.instanceMethod yX10_isReader ∈ lw_all := lw_mem (List.mem_of_getElem? (i := 1176) (by decide +kernel)) rfl
theorem wq_1177 : Cond.code yX10_isReader cX10_isReader 2 (Option.some Jvm.ClassFile.FieldType.boolean) ∈ lw_all := lw_mem (List.mem_of_getElem? (i := 1177) (by decide +kernel)) rfl
theorem wq_1178 : Cond.methodLink RX10 110 yX10_isBook ∈ lw_all := lw_mem (List.mem_of_getElem? (i := 1178) (by decide +kernel)) rfl
theorem wq_1180 : Cond.instanceMethod yX10_isBook ∈ lw_all := lw_mem (List.mem_of_getElem? (i := 1180) (by decide +kernel)) rfl
theorem wq_1181 : Cond.code yX10_isBook cX10_isBook 2 (Option.some Jvm.ClassFile.FieldType.boolean) ∈ lw_all := lw_mem (List.mem_of_getElem? (i := 1181) (by decide +kernel)) rfl
theorem wq_1182 : Cond.methodLink RX10 113 yX9_placeOf ∈ lw_all := lw_mem (List.mem_of_getElem? (i := 1182) (by decide +kernel)) rfl
theorem wq_1183 : Cond.instanceMethod yX9_placeOf ∈ lw_all := lw_mem (List.mem_of_getElem? (i := 1183) (by decide +kernel)) rfl
theorem wq_1184 : Cond.selects RX9 yX9_placeOf yX9_placeOf ∈ lw_all := lw_mem (List.mem_of_getElem? (i := 1184) (by decide +kernel)) rfl
theorem wq_1185 : Cond.code yX9_placeOf cX9_placeOf 4 (Option.some Jvm.ClassFile.FieldType.int) ∈ lw_all := lw_mem (List.mem_of_getElem? (i := 1185) (by decide +kernel)) rfl
theorem wq_1186 : Cond.methodLink RL 123 yX10_cancel ∈ lw_all := lw_mem (List.mem_of_getElem? (i := 1186) (by decide +kernel)) rfl
theorem wq_1187 : Cond.instanceMethod yX10_cancel ∈ lw_all := lw_mem (List.mem_of_getElem? (i := 1187) (by decide +kernel)) rfl
theorem wq_1188 : Cond.selects RX10 yX10_cancel yX10_cancel ∈ lw_all := lw_mem (List.mem_of_getElem? (i := 1188) (by decide +kernel)) rfl
theorem wq_1189 : Cond.code yX10_cancel cX10_cancel 4 (Option.some Jvm.ClassFile.FieldType.int) ∈ lw_all := lw_mem (List.mem_of_getElem? (i := 1189) (by decide +kernel)) rfl
theorem wq_1190 : Cond.methodLink RX10 122 yX9_strike ∈ lw_all := lw_mem (List.mem_of_getElem? (i := 1190) (by decide +kernel)) rfl
theorem wq_1191 : Cond.instanceMethod yX9_strike ∈ lw_all := lw_mem (List.mem_of_getElem? (i := 1191) (by decide +kernel)) rfl
theorem wq_1192 : Cond.selects RX9 yX9_strike yX9_strike ∈ lw_all := lw_mem (List.mem_of_getElem? (i := 1192) (by decide +kernel)) rfl
theorem wq_1193 : Cond.code yX9_strike cX9_strike 4 (Option.none : Option Jvm.ClassFile.FieldType) ∈ lw_all := lw_mem (List.mem_of_getElem? (i := 1193) (by decide +kernel)) rfl
theorem wq_1194 : Cond.methodLink RL 126 yX10_book ∈ lw_all := lw_mem (List.mem_of_getElem? (i := 1194) (by decide +kernel)) rfl
theorem wq_1195 : Cond.instanceMethod yX10_book ∈ lw_all := lw_mem (List.mem_of_getElem? (i := 1195) (by decide +kernel)) rfl
theorem wq_1196 : Cond.selects RX10 yX10_book yX10_book ∈ lw_all := lw_mem (List.mem_of_getElem? (i := 1196) (by decide +kernel)) rfl
theorem wq_1197 : Cond.code yX10_book cX10_book 3 (Option.some Jvm.ClassFile.FieldType.int) ∈ lw_all := lw_mem (List.mem_of_getElem? (i := 1197) (by decide +kernel)) rfl
theorem wq_1198 : Cond.methodLink RX10 135 yX10_bookTold ∈ lw_all := lw_mem (List.mem_of_getElem? (i := 1198) (by decide +kernel)) rfl
theorem wq_1200 : Cond.instanceMethod yX10_bookTold ∈ lw_all := lw_mem (List.mem_of_getElem? (i := 1200) (by decide +kernel)) rfl
theorem wq_1201 : Cond.code yX10_bookTold cX10_bookTold 6 (Option.some Jvm.ClassFile.FieldType.int) ∈ lw_all := lw_mem (List.mem_of_getElem? (i := 1201) (by decide +kernel)) rfl
theorem wq_1202 : Cond.methodLink RL 129 yX10_reader ∈ lw_all := lw_mem (List.mem_of_getElem? (i := 1202) (by decide +kernel)) rfl
theorem wq_1203 : Cond.instanceMethod yX10_reader ∈ lw_all := lw_mem (List.mem_of_getElem? (i := 1203) (by decide +kernel)) rfl
theorem wq_1204 : Cond.selects RX10 yX10_reader yX10_reader ∈ lw_all := lw_mem (List.mem_of_getElem? (i := 1204) (by decide +kernel)) rfl
theorem wq_1205 : Cond.code yX10_reader cX10_reader 3 (Option.some Jvm.ClassFile.FieldType.int) ∈ lw_all := lw_mem (List.mem_of_getElem? (i := 1205) (by decide +kernel)) rfl
theorem wq_1206 : Cond.methodLink RX10 152 yX10_readerTold ∈ lw_all := lw_mem (List.mem_of_getElem? (i := 1206) (by decide +kernel)) rfl
theorem wq_1208 : Cond.instanceMethod yX10_readerTold ∈ lw_all := lw_mem (List.mem_of_getElem? (i := 1208) (by decide +kernel)) rfl
theorem wq_1209 : Cond.code yX10_readerTold cX10_readerTold 5 (Option.some Jvm.ClassFile.FieldType.int) ∈ lw_all := lw_mem (List.mem_of_getElem? (i := 1209) (by decide +kernel)) rfl
theorem wq_1210 : Cond.methodLink RX10 138 yX9_many ∈ lw_all := lw_mem (List.mem_of_getElem? (i := 1210) (by decide +kernel)) rfl
theorem wq_1211 : Cond.instanceMethod yX9_many ∈ lw_all := lw_mem (List.mem_of_getElem? (i := 1211) (by decide +kernel)) rfl
theorem wq_1212 : Cond.selects RX9 yX9_many yX9_many ∈ lw_all := lw_mem (List.mem_of_getElem? (i := 1212) (by decide +kernel)) rfl
theorem wq_1213 : Cond.code yX9_many cX9_many 4 (Option.some Jvm.ClassFile.FieldType.int) ∈ lw_all := lw_mem (List.mem_of_getElem? (i := 1213) (by decide +kernel)) rfl
theorem wq_1214 : Cond.methodLink RX10 141 yJ6_bitCount_0f7a4 ∈ lw_all := lw_mem (List.mem_of_getElem? (i := 1214) (by decide +kernel)) rfl
theorem wq_1215 : Cond.methodLink RL 132 yX10_pay ∈ lw_all := lw_mem (List.mem_of_getElem? (i := 1215) (by decide +kernel)) rfl
theorem wq_1216 : Cond.instanceMethod yX10_pay ∈ lw_all := lw_mem (List.mem_of_getElem? (i := 1216) (by decide +kernel)) rfl
theorem wq_1217 : Cond.selects RX10 yX10_pay yX10_pay ∈ lw_all := lw_mem (List.mem_of_getElem? (i := 1217) (by decide +kernel)) rfl
theorem wq_1218 : Cond.code yX10_pay cX10_pay 3 (Option.some Jvm.ClassFile.FieldType.int) ∈ lw_all := lw_mem (List.mem_of_getElem? (i := 1218) (by decide +kernel)) rfl
theorem wq_1219 : Cond.methodLink RL 135 yX10_pass_ ∈ lw_all := lw_mem (List.mem_of_getElem? (i := 1219) (by decide +kernel)) rfl
theorem wq_1220 : Cond.instanceMethod yX10_pass_ ∈ lw_all := lw_mem (List.mem_of_getElem? (i := 1220) (by decide +kernel)) rfl
theorem wq_1221 : Cond.selects RX10 yX10_pass_ yX10_pass_ ∈ lw_all := lw_mem (List.mem_of_getElem? (i := 1221) (by decide +kernel)) rfl
theorem wq_1222 : Cond.code yX10_pass_ cX10_pass_ 2 (Option.some Jvm.ClassFile.FieldType.int) ∈ lw_all := lw_mem (List.mem_of_getElem? (i := 1222) (by decide +kernel)) rfl
theorem wq_1223 : Cond.methodLink RX10 159 yX10_pass ∈ lw_all := lw_mem (List.mem_of_getElem? (i := 1223) (by decide +kernel)) rfl
theorem wq_1224 : Cond.static yX10_pass ∈ lw_all := lw_mem (List.mem_of_getElem? (i := 1224) (by decide +kernel)) rfl
theorem wq_1225 : Cond.code yX10_pass cX10_pass 4 (Option.some Jvm.ClassFile.FieldType.int) ∈ lw_all := lw_mem (List.mem_of_getElem? (i := 1225) (by decide +kernel)) rfl
theorem wq_1226 : Cond.methodLink RX10 155 yX9_pass ∈ lw_all := lw_mem (List.mem_of_getElem? (i := 1226) (by decide +kernel)) rfl
theorem wq_1227 : Cond.instanceMethod yX9_pass ∈ lw_all := lw_mem (List.mem_of_getElem? (i := 1227) (by decide +kernel)) rfl
theorem wq_1228 : Cond.selects RX9 yX9_pass yX9_pass ∈ lw_all := lw_mem (List.mem_of_getElem? (i := 1228) (by decide +kernel)) rfl
theorem wq_1229 : Cond.code yX9_pass cX9_pass 7 (Option.some Jvm.ClassFile.FieldType.int) ∈ lw_all := lw_mem (List.mem_of_getElem? (i := 1229) (by decide +kernel)) rfl
theorem wq_1230 : Cond.methodLink RX9 102 yJ9_min_7cf53 ∈ lw_all := lw_mem (List.mem_of_getElem? (i := 1230) (by decide +kernel)) rfl
theorem wq_1231 : Cond.methodLink RX9 108 yJ9_max_7cf53 ∈ lw_all := lw_mem (List.mem_of_getElem? (i := 1231) (by decide +kernel)) rfl
theorem wq_1232 : Cond.methodLink RX9 111 yX9_find ∈ lw_all := lw_mem (List.mem_of_getElem? (i := 1232) (by decide +kernel)) rfl
theorem wq_1233 : Cond.methodLink RX9 117 yX9_serve ∈ lw_all := lw_mem (List.mem_of_getElem? (i := 1233) (by decide +kernel)) rfl
theorem wq_1235 : Cond.instanceMethod yX9_serve ∈ lw_all := lw_mem (List.mem_of_getElem? (i := 1235) (by decide +kernel)) rfl
theorem wq_1236 : Cond.code yX9_serve cX9_serve 4 (Option.none : Option Jvm.ClassFile.FieldType) ∈ lw_all := lw_mem (List.mem_of_getElem? (i := 1236) (by decide +kernel)) rfl
theorem wq_1237 : Cond.methodLink RX9 127 yX9_bringBack ∈ lw_all := lw_mem (List.mem_of_getElem? (i := 1237) (by decide +kernel)) rfl
theorem wq_1239 : Cond.instanceMethod yX9_bringBack ∈ lw_all := lw_mem (List.mem_of_getElem? (i := 1239) (by decide +kernel)) rfl
theorem wq_1240 : Cond.code yX9_bringBack cX9_bringBack 4 (Option.none : Option Jvm.ClassFile.FieldType) ∈ lw_all := lw_mem (List.mem_of_getElem? (i := 1240) (by decide +kernel)) rfl
theorem wq_1241 : Cond.methodLink RX9 130 yX9_many ∈ lw_all := lw_mem (List.mem_of_getElem? (i := 1241) (by decide +kernel)) rfl
theorem wq_1242 : Cond.methodLink RX9 133 yX9_strike ∈ lw_all := lw_mem (List.mem_of_getElem? (i := 1242) (by decide +kernel)) rfl
theorem wq_1243 : Cond.methodLink RX9 137 yX9_lend ∈ lw_all := lw_mem (List.mem_of_getElem? (i := 1243) (by decide +kernel)) rfl
theorem wq_1245 : Cond.instanceMethod yX9_lend ∈ lw_all := lw_mem (List.mem_of_getElem? (i := 1245) (by decide +kernel)) rfl
theorem wq_1246 : Cond.code yX9_lend cX9_lend 3 (Option.none : Option Jvm.ClassFile.FieldType) ∈ lw_all := lw_mem (List.mem_of_getElem? (i := 1246) (by decide +kernel)) rfl
theorem wq_1247 : Cond.methodLink RX9 140 yX9_choose ∈ lw_all := lw_mem (List.mem_of_getElem? (i := 1247) (by decide +kernel)) rfl
theorem wq_1249 : Cond.instanceMethod yX9_choose ∈ lw_all := lw_mem (List.mem_of_getElem? (i := 1249) (by decide +kernel)) rfl
theorem wq_1250 : Cond.code yX9_choose cX9_choose 3 (Option.none : Option Jvm.ClassFile.FieldType) ∈ lw_all := lw_mem (List.mem_of_getElem? (i := 1250) (by decide +kernel)) rfl
theorem wq_1251 : Cond.methodLink RL 138 yX10_count ∈ lw_all := lw_mem (List.mem_of_getElem? (i := 1251) (by decide +kernel)) rfl
theorem wq_1252 : Cond.instanceMethod yX10_count ∈ lw_all := lw_mem (List.mem_of_getElem? (i := 1252) (by decide +kernel)) rfl
theorem wq_1253 : Cond.selects RX10 yX10_count yX10_count ∈ lw_all := lw_mem (List.mem_of_getElem? (i := 1253) (by decide +kernel)) rfl
theorem wq_1254 : Cond.code yX10_count cX10_count 2 (Option.some Jvm.ClassFile.FieldType.int) ∈ lw_all := lw_mem (List.mem_of_getElem? (i := 1254) (by decide +kernel)) rfl
theorem wq_1255 : Cond.methodLink RX10 174 yX10_counted ∈ lw_all := lw_mem (List.mem_of_getElem? (i := 1255) (by decide +kernel)) rfl
theorem wq_1257 : Cond.instanceMethod yX10_counted ∈ lw_all := lw_mem (List.mem_of_getElem? (i := 1257) (by decide +kernel)) rfl
theorem wq_1258 : Cond.code yX10_counted cX10_counted 4 (Option.some Jvm.ClassFile.FieldType.int) ∈ lw_all := lw_mem (List.mem_of_getElem? (i := 1258) (by decide +kernel)) rfl
theorem wq_1259 : Cond.methodLink RX10 168 yX9_owed ∈ lw_all := lw_mem (List.mem_of_getElem? (i := 1259) (by decide +kernel)) rfl
theorem wq_1260 : Cond.instanceMethod yX9_owed ∈ lw_all := lw_mem (List.mem_of_getElem? (i := 1260) (by decide +kernel)) rfl
theorem wq_1261 : Cond.selects RX9 yX9_owed yX9_owed ∈ lw_all := lw_mem (List.mem_of_getElem? (i := 1261) (by decide +kernel)) rfl
theorem wq_1262 : Cond.code yX9_owed cX9_owed 3 (Option.some Jvm.ClassFile.FieldType.int) ∈ lw_all := lw_mem (List.mem_of_getElem? (i := 1262) (by decide +kernel)) rfl
theorem wq_1263 : Cond.methodLink RL 141 yX10_foresee ∈ lw_all := lw_mem (List.mem_of_getElem? (i := 1263) (by decide +kernel)) rfl
theorem wq_1264 : Cond.instanceMethod yX10_foresee ∈ lw_all := lw_mem (List.mem_of_getElem? (i := 1264) (by decide +kernel)) rfl
theorem wq_1265 : Cond.selects RX10 yX10_foresee yX10_foresee ∈ lw_all := lw_mem (List.mem_of_getElem? (i := 1265) (by decide +kernel)) rfl
theorem wq_1266 : Cond.code yX10_foresee cX10_foresee 4 (Option.some Jvm.ClassFile.FieldType.int) ∈ lw_all := lw_mem (List.mem_of_getElem? (i := 1266) (by decide +kernel)) rfl
theorem wq_1267 : Cond.methodLink RX10 177 yX9_become ∈ lw_all := lw_mem (List.mem_of_getElem? (i := 1267) (by decide +kernel)) rfl
theorem wq_1268 : Cond.instanceMethod yX9_become ∈ lw_all := lw_mem (List.mem_of_getElem? (i := 1268) (by decide +kernel)) rfl
theorem wq_1269 : Cond.selects RX9 yX9_become yX9_become ∈ lw_all := lw_mem (List.mem_of_getElem? (i := 1269) (by decide +kernel)) rfl
theorem wq_1270 : Cond.code yX9_become cX9_become 2 (Option.none : Option Jvm.ClassFile.FieldType) ∈ lw_all := lw_mem (List.mem_of_getElem? (i := 1270) (by decide +kernel)) rfl
theorem wq_1271 : Cond.methodLink RX9 71 yX9_copy ∈ lw_all := lw_mem (List.mem_of_getElem? (i := 1271) (by decide +kernel)) rfl
theorem wq_1273 : Cond.instanceMethod yX9_copy ∈ lw_all := lw_mem (List.mem_of_getElem? (i := 1273) (by decide +kernel)) rfl
theorem wq_1274 : Cond.code yX9_copy cX9_copy 3 (Option.none : Option Jvm.ClassFile.FieldType) ∈ lw_all := lw_mem (List.mem_of_getElem? (i := 1274) (by decide +kernel)) rfl
theorem wq_1275 : Cond.methodLink RX9 52 (⟨"java/lang/System", "arraycopy", "(Ljava/lang/Object;ILjava/lang/Object;II)V"⟩ : MethodName) ∈ lw_all := lw_mem (List.mem_of_getElem? (i := 1275) (by decide +kernel)) rfl
theorem wq_1276 : Cond.methodLink RX10 181 yX9_missedOnes ∈ lw_all := lw_mem (List.mem_of_getElem? (i := 1276) (by decide +kernel)) rfl
theorem wq_1277 : Cond.instanceMethod yX9_missedOnes ∈ lw_all := lw_mem (List.mem_of_getElem? (i := 1277) (by decide +kernel)) rfl
theorem wq_1278 : Cond.selects RX9 yX9_missedOnes yX9_missedOnes ∈ lw_all := lw_mem (List.mem_of_getElem? (i := 1278) (by decide +kernel)) rfl
theorem wq_1279 : Cond.code yX9_missedOnes cX9_missedOnes 3 (Option.some Jvm.ClassFile.FieldType.int) ∈ lw_all := lw_mem (List.mem_of_getElem? (i := 1279) (by decide +kernel)) rfl
theorem wq_1280 : Cond.methodLink RL 144 yX10_gets ∈ lw_all := lw_mem (List.mem_of_getElem? (i := 1280) (by decide +kernel)) rfl
theorem wq_1281 : Cond.instanceMethod yX10_gets ∈ lw_all := lw_mem (List.mem_of_getElem? (i := 1281) (by decide +kernel)) rfl
theorem wq_1282 : Cond.selects RX10 yX10_gets yX10_gets ∈ lw_all := lw_mem (List.mem_of_getElem? (i := 1282) (by decide +kernel)) rfl
theorem wq_1283 : Cond.code yX10_gets cX10_gets 4 (Option.some Jvm.ClassFile.FieldType.int) ∈ lw_all := lw_mem (List.mem_of_getElem? (i := 1283) (by decide +kernel)) rfl
theorem wq_1284 : Cond.methodLink RL 147 yX10_advise ∈ lw_all := lw_mem (List.mem_of_getElem? (i := 1284) (by decide +kernel)) rfl
theorem wq_1285 : Cond.instanceMethod yX10_advise ∈ lw_all := lw_mem (List.mem_of_getElem? (i := 1285) (by decide +kernel)) rfl
theorem wq_1286 : Cond.selects RX10 yX10_advise yX10_advise ∈ lw_all := lw_mem (List.mem_of_getElem? (i := 1286) (by decide +kernel)) rfl
theorem wq_1287 : Cond.code yX10_advise cX10_advise 6 (Option.some Jvm.ClassFile.FieldType.int) ∈ lw_all := lw_mem (List.mem_of_getElem? (i := 1287) (by decide +kernel)) rfl
theorem wq_1288 : Cond.methodLink RL 152 yX10_daily ∈ lw_all := lw_mem (List.mem_of_getElem? (i := 1288) (by decide +kernel)) rfl
theorem wq_1289 : Cond.instanceMethod yX10_daily ∈ lw_all := lw_mem (List.mem_of_getElem? (i := 1289) (by decide +kernel)) rfl
theorem wq_1290 : Cond.selects RX10 yX10_daily yX10_daily ∈ lw_all := lw_mem (List.mem_of_getElem? (i := 1290) (by decide +kernel)) rfl
theorem wq_1291 : Cond.code yX10_daily cX10_daily 1 (Option.some Jvm.ClassFile.FieldType.double) ∈ lw_all := lw_mem (List.mem_of_getElem? (i := 1291) (by decide +kernel)) rfl
theorem wq_1292 : Cond.methodLink RL 157 yX10_digest ∈ lw_all := lw_mem (List.mem_of_getElem? (i := 1292) (by decide +kernel)) rfl
theorem wq_1293 : Cond.instanceMethod yX10_digest ∈ lw_all := lw_mem (List.mem_of_getElem? (i := 1293) (by decide +kernel)) rfl
theorem wq_1294 : Cond.selects RX10 yX10_digest yX10_digest ∈ lw_all := lw_mem (List.mem_of_getElem? (i := 1294) (by decide +kernel)) rfl
theorem wq_1295 : Cond.code yX10_digest cX10_digest 7 (Option.some Jvm.ClassFile.FieldType.long) ∈ lw_all := lw_mem (List.mem_of_getElem? (i := 1295) (by decide +kernel)) rfl
theorem wq_1296 : Cond.constantLong RX10 184 607 ∈ lw_all := lw_mem (List.mem_of_getElem? (i := 1296) (by decide +kernel)) rfl
theorem wq_1297 : Cond.constantLong RX10 186 31 ∈ lw_all := lw_mem (List.mem_of_getElem? (i := 1297) (by decide +kernel)) rfl
theorem wq_1298 : Cond.arrayClass Jvm.ClassFile.FieldType.long ∈ lw_all := lw_mem (List.mem_of_getElem? (i := 1298) (by decide +kernel)) rfl
theorem wq_1300 : Cond.castable "LibraryVan" "java/lang/Object" ∈ lw_tbl := List.mem_of_getElem? (i := 1300) (by decide +kernel)
theorem wq_1301 : Cond.castable "LibraryVan$World" "java/lang/Object" ∈ lw_tbl := List.mem_of_getElem? (i := 1301) (by decide +kernel)
theorem wq_1302 : Cond.castable "java/util/ArrayList" "java/lang/Object" ∈ lw_tbl := List.mem_of_getElem? (i := 1302) (by decide +kernel)
theorem wq_1303 : Cond.castable "LibraryVan$Ways" "java/lang/Object" ∈ lw_tbl := List.mem_of_getElem? (i := 1303) (by decide +kernel)
theorem wq_1304 : Cond.castable "LibraryVan$Round" "java/lang/Object" ∈ lw_tbl := List.mem_of_getElem? (i := 1304) (by decide +kernel)
theorem wq_1305 : Cond.castable "LibraryVanModel" "java/lang/Object" ∈ lw_tbl := List.mem_of_getElem? (i := 1305) (by decide +kernel)
theorem wq_1306 : Cond.castable "LibraryVanModel$State" "java/lang/Object" ∈ lw_tbl := List.mem_of_getElem? (i := 1306) (by decide +kernel)
theorem wq_1307 : Cond.castable "java/lang/IllegalStateException" "java/lang/Object" ∈ lw_tbl := List.mem_of_getElem? (i := 1307) (by decide +kernel)
theorem wq_1308 : Cond.castable "LibraryVan$Halt" "java/lang/Object" ∈ lw_tbl := List.mem_of_getElem? (i := 1308) (by decide +kernel)
theorem wq_1309 : Cond.castable "java/lang/IndexOutOfBoundsException" "java/lang/Object" ∈ lw_tbl := List.mem_of_getElem? (i := 1309) (by decide +kernel)
theorem wq_1310 : Cond.castable "java/lang/IllegalArgumentException" "java/lang/Object" ∈ lw_tbl := List.mem_of_getElem? (i := 1310) (by decide +kernel)
theorem wq_1311 : Cond.castable "LibraryVan$Lane" "java/lang/Object" ∈ lw_tbl := List.mem_of_getElem? (i := 1311) (by decide +kernel)
theorem wq_1312 : Cond.castable "LibraryVan$Book" "java/lang/Object" ∈ lw_tbl := List.mem_of_getElem? (i := 1312) (by decide +kernel)
theorem wq_1313 : Cond.castable "LibraryVan$Queue" "java/lang/Object" ∈ lw_tbl := List.mem_of_getElem? (i := 1313) (by decide +kernel)
theorem wq_1314 : Cond.castable "LibraryVan$Reader" "java/lang/Object" ∈ lw_tbl := List.mem_of_getElem? (i := 1314) (by decide +kernel)
theorem wq_1315 : Cond.castable "java/lang/Throwable" "java/lang/Object" ∈ lw_tbl := List.mem_of_getElem? (i := 1315) (by decide +kernel)
theorem wq_1316 : Cond.castable "java/lang/String" "java/lang/Object" ∈ lw_tbl := List.mem_of_getElem? (i := 1316) (by decide +kernel)
theorem wq_1318 : Cond.selects "[Ljava/lang/Object;" (⟨"java/lang/Object", "getClass", "()Ljava/lang/Class;"⟩ : MethodName) (⟨"java/lang/Object", "getClass", "()Ljava/lang/Class;"⟩ : MethodName) ∈ lw_all := lw_mem (List.mem_of_getElem? (i := 1318) (by decide +kernel)) rfl
theorem wq_1320 : Cond.castable "[I" "java/lang/Object" ∈ lw_tbl := List.mem_of_getElem? (i := 1320) (by decide +kernel)
theorem wq_1321 : Cond.castable "[B" "java/lang/Object" ∈ lw_tbl := List.mem_of_getElem? (i := 1321) (by decide +kernel)
theorem wq_1322 : Cond.castable "[Ljava/lang/Object;" "java/lang/Object" ∈ lw_tbl := List.mem_of_getElem? (i := 1322) (by decide +kernel)
theorem wq_1323 : Cond.castable "[J" "java/lang/Object" ∈ lw_tbl := List.mem_of_getElem? (i := 1323) (by decide +kernel)
theorem ina_X0 : ∀ w ∈ u_ws RX0 TX0 6, w ∈ lw_all := List.forall_mem_cons.mpr ⟨wq_692, List.forall_mem_cons.mpr ⟨wq_694, List.forall_mem_cons.mpr ⟨wq_696, List.forall_mem_cons.mpr ⟨wq_698, List.forall_mem_cons.mpr ⟨wq_700, List.forall_mem_cons.mpr ⟨wq_702, fun _ h => absurd h List.not_mem_nil⟩⟩⟩⟩⟩⟩
theorem ina_X1 : ∀ w ∈ u_ws RX1 TX1 2, w ∈ lw_all := List.forall_mem_cons.mpr ⟨wq_417, List.forall_mem_cons.mpr ⟨wq_419, fun _ h => absurd h List.not_mem_nil⟩⟩
theorem ina_X2 : ∀ w ∈ u_ws RX2 TX2 5, w ∈ lw_all := List.forall_mem_cons.mpr ⟨wq_556, List.forall_mem_cons.mpr ⟨wq_558, List.forall_mem_cons.mpr ⟨wq_560, List.forall_mem_cons.mpr ⟨wq_562, List.forall_mem_cons.mpr ⟨wq_564, fun _ h => absurd h List.not_mem_nil⟩⟩⟩⟩⟩
theorem ina_X3 : ∀ w ∈ u_ws RX3 TX3 2, w ∈ lw_all := List.forall_mem_cons.mpr ⟨wq_673, List.forall_mem_cons.mpr ⟨wq_675, fun _ h => absurd h List.not_mem_nil⟩⟩
theorem ina_X4 : ∀ w ∈ u_ws RX4 TX4 8, w ∈ lw_all := List.forall_mem_cons.mpr ⟨wq_741, List.forall_mem_cons.mpr ⟨wq_743, List.forall_mem_cons.mpr ⟨wq_745, List.forall_mem_cons.mpr ⟨wq_747, List.forall_mem_cons.mpr ⟨wq_749, List.forall_mem_cons.mpr ⟨wq_751, List.forall_mem_cons.mpr ⟨wq_753, List.forall_mem_cons.mpr ⟨wq_755, fun _ h => absurd h List.not_mem_nil⟩⟩⟩⟩⟩⟩⟩⟩
theorem ina_X5 : ∀ w ∈ u_ws RX5 TX5 3, w ∈ lw_all := List.forall_mem_cons.mpr ⟨wq_127, List.forall_mem_cons.mpr ⟨wq_129, List.forall_mem_cons.mpr ⟨wq_131, fun _ h => absurd h List.not_mem_nil⟩⟩⟩
theorem ina_X6 : ∀ w ∈ u_ws RX6 TX6 1, w ∈ lw_all := List.forall_mem_cons.mpr ⟨wq_113, fun _ h => absurd h List.not_mem_nil⟩
theorem ina_X7 : ∀ w ∈ u_ws RX7 TX7 9, w ∈ lw_all := List.forall_mem_cons.mpr ⟨wq_149, List.forall_mem_cons.mpr ⟨wq_151, List.forall_mem_cons.mpr ⟨wq_153, List.forall_mem_cons.mpr ⟨wq_155, List.forall_mem_cons.mpr ⟨wq_157, List.forall_mem_cons.mpr ⟨wq_159, List.forall_mem_cons.mpr ⟨wq_161, List.forall_mem_cons.mpr ⟨wq_163, List.forall_mem_cons.mpr ⟨wq_165, fun _ h => absurd h List.not_mem_nil⟩⟩⟩⟩⟩⟩⟩⟩⟩
theorem ina_X8 : ∀ w ∈ u_ws RX8 TX8 2, w ∈ lw_all := List.forall_mem_cons.mpr ⟨wq_170, List.forall_mem_cons.mpr ⟨wq_172, fun _ h => absurd h List.not_mem_nil⟩⟩
theorem ina_X9 : ∀ w ∈ u_ws RX9 TX9 17, w ∈ lw_all := List.forall_mem_cons.mpr ⟨wq_1009, List.forall_mem_cons.mpr ⟨wq_1011, List.forall_mem_cons.mpr ⟨wq_1013, List.forall_mem_cons.mpr ⟨wq_1015, List.forall_mem_cons.mpr ⟨wq_1017, List.forall_mem_cons.mpr ⟨wq_1019, List.forall_mem_cons.mpr ⟨wq_1021, List.forall_mem_cons.mpr ⟨wq_1023, List.forall_mem_cons.mpr ⟨wq_1025, List.forall_mem_cons.mpr ⟨wq_1027, List.forall_mem_cons.mpr ⟨wq_1029, List.forall_mem_cons.mpr ⟨wq_1031, List.forall_mem_cons.mpr ⟨wq_1033, List.forall_mem_cons.mpr ⟨wq_1035, List.forall_mem_cons.mpr ⟨wq_1037, List.forall_mem_cons.mpr ⟨wq_1039, List.forall_mem_cons.mpr ⟨wq_1041, fun _ h => absurd h List.not_mem_nil⟩⟩⟩⟩⟩⟩⟩⟩⟩⟩⟩⟩⟩⟩⟩⟩⟩
theorem ina_X10 : ∀ w ∈ u_ws RX10 TX10 13, w ∈ lw_all := List.forall_mem_cons.mpr ⟨wq_1067, List.forall_mem_cons.mpr ⟨wq_1069, List.forall_mem_cons.mpr ⟨wq_1071, List.forall_mem_cons.mpr ⟨wq_1073, List.forall_mem_cons.mpr ⟨wq_1075, List.forall_mem_cons.mpr ⟨wq_1077, List.forall_mem_cons.mpr ⟨wq_1079, List.forall_mem_cons.mpr ⟨wq_1081, List.forall_mem_cons.mpr ⟨wq_1083, List.forall_mem_cons.mpr ⟨wq_1085, List.forall_mem_cons.mpr ⟨wq_1087, List.forall_mem_cons.mpr ⟨wq_1089, List.forall_mem_cons.mpr ⟨wq_1091, fun _ h => absurd h List.not_mem_nil⟩⟩⟩⟩⟩⟩⟩⟩⟩⟩⟩⟩⟩
theorem ina_Jx4a65c : ∀ w ∈ u_ws RJx4a65c TJx4a65c 3, w ∈ lw_all := List.forall_mem_cons.mpr ⟨wq_103, List.forall_mem_cons.mpr ⟨wq_99, List.forall_mem_cons.mpr ⟨wq_101, fun _ h => absurd h List.not_mem_nil⟩⟩⟩
