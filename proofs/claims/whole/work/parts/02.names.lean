def RX0 : String := "LibraryVan$Book"
def TX0 : u_T := fun k => match k with
  | 0 => ("LibraryVan$Book", "number", "I", true)
  | 1 => ("LibraryVan$Book", "shelf", "I", true)
  | 2 => ("LibraryVan$Book", "queue", "LLibraryVan$Queue;", true)
  | 3 => ("LibraryVan$Book", "holder", "I", false)
  | 4 => ("LibraryVan$Book", "since", "I", false)
  | _ => ("LibraryVan$Book", "loans", "I", false)
def tyX0 : Nat → FieldType := fun k => match k with
  | 0 => .int
  | 1 => .int
  | 2 => .object "LibraryVan$Queue"
  | 3 => .int
  | 4 => .int
  | _ => .int
theorem nmX0 : ∀ a, a < 6 → ∀ b, b < 6 → a ≠ b → (TX0 a).2.1 ≠ (TX0 b).2.1 := by decide +kernel
theorem tyX0_ok : ∀ k, k < 6 → parseFieldDescriptor (TX0 k).2.2.1 = some (tyX0 k) := by decide +kernel
abbrev cX0_init : ByteArray := prog_2_method_1_code
def yX0_init : MethodName := ⟨RX0, "<init>", "(II)V"⟩
abbrev cX0_isOnVan : ByteArray := prog_2_method_2_code
def yX0_isOnVan : MethodName := ⟨RX0, "isOnVan", "()Z"⟩
abbrev cX0_lendTo : ByteArray := prog_2_method_3_code
def yX0_lendTo : MethodName := ⟨RX0, "lendTo", "(LLibraryVan$Reader;I)V"⟩
abbrev cX0_comeBackFrom : ByteArray := prog_2_method_4_code
def yX0_comeBackFrom : MethodName := ⟨RX0, "comeBackFrom", "(LLibraryVan$Reader;I)V"⟩
abbrev cX0_copyFrom : ByteArray := prog_2_method_5_code
def yX0_copyFrom : MethodName := ⟨RX0, "copyFrom", "(LLibraryVan$Book;)V"⟩
def RX1 : String := "LibraryVan$Halt"
def TX1 : u_T := fun k => match k with
  | 0 => ("LibraryVan$Halt", "served", "I", false)
  | _ => ("LibraryVan$Halt", "missed", "I", false)
def tyX1 : Nat → FieldType := fun k => match k with
  | 0 => .int
  | _ => .int
theorem nmX1 : ∀ a, a < 2 → ∀ b, b < 2 → a ≠ b → (TX1 a).2.1 ≠ (TX1 b).2.1 := by decide +kernel
theorem tyX1_ok : ∀ k, k < 2 → parseFieldDescriptor (TX1 k).2.2.1 = some (tyX1 k) := by decide +kernel
abbrev cX1_init : ByteArray := prog_3_method_1_code
def yX1_init : MethodName := ⟨RX1, "<init>", "()V"⟩
abbrev cX1_copyFrom : ByteArray := prog_3_method_2_code
def yX1_copyFrom : MethodName := ⟨RX1, "copyFrom", "(LLibraryVan$Halt;)V"⟩
def RX2 : String := "LibraryVan$Lane"
def TX2 : u_T := fun k => match k with
  | 0 => ("LibraryVan$Lane", "a", "I", true)
  | 1 => ("LibraryVan$Lane", "b", "I", true)
  | 2 => ("LibraryVan$Lane", "length", "I", true)
  | 3 => ("LibraryVan$Lane", "clay", "I", true)
  | _ => ("LibraryVan$Lane", "mud", "I", false)
def tyX2 : Nat → FieldType := fun k => match k with
  | 0 => .int
  | 1 => .int
  | 2 => .int
  | 3 => .int
  | _ => .int
theorem nmX2 : ∀ a, a < 5 → ∀ b, b < 5 → a ≠ b → (TX2 a).2.1 ≠ (TX2 b).2.1 := by decide +kernel
theorem tyX2_ok : ∀ k, k < 5 → parseFieldDescriptor (TX2 k).2.2.1 = some (tyX2 k) := by decide +kernel
abbrev cX2_init : ByteArray := prog_4_method_1_code
def yX2_init : MethodName := ⟨RX2, "<init>", "(IIII)V"⟩
abbrev cX2_isUsable : ByteArray := prog_4_method_2_code
def yX2_isUsable : MethodName := ⟨RX2, "isUsable", "()Z"⟩
abbrev cX2_minutes : ByteArray := prog_4_method_3_code
def yX2_minutes : MethodName := ⟨RX2, "minutes", "()I"⟩
abbrev cX2_weather : ByteArray := prog_4_method_4_code
def yX2_weather : MethodName := ⟨RX2, "weather", "(I)V"⟩
abbrev cX2_copyFrom : ByteArray := prog_4_method_5_code
def yX2_copyFrom : MethodName := ⟨RX2, "copyFrom", "(LLibraryVan$Lane;)V"⟩
def RX3 : String := "LibraryVan$Queue"
def TX3 : u_T := fun k => match k with
  | 0 => ("LibraryVan$Queue", "readers", "[I", true)
  | _ => ("LibraryVan$Queue", "size", "I", false)
def tyX3 : Nat → FieldType := fun k => match k with
  | 0 => .array .int
  | _ => .int
theorem nmX3 : ∀ a, a < 2 → ∀ b, b < 2 → a ≠ b → (TX3 a).2.1 ≠ (TX3 b).2.1 := by decide +kernel
theorem tyX3_ok : ∀ k, k < 2 → parseFieldDescriptor (TX3 k).2.2.1 = some (tyX3 k) := by decide +kernel
abbrev cX3_init : ByteArray := prog_5_method_1_code
def yX3_init : MethodName := ⟨RX3, "<init>", "()V"⟩
abbrev cX3_size : ByteArray := prog_5_method_2_code
def yX3_size : MethodName := ⟨RX3, "size", "()I"⟩
abbrev cX3_readerAt : ByteArray := prog_5_method_3_code
def yX3_readerAt : MethodName := ⟨RX3, "readerAt", "(I)I"⟩
abbrev cX3_first : ByteArray := prog_5_method_4_code
def yX3_first : MethodName := ⟨RX3, "first", "()I"⟩
abbrev cX3_placeOf : ByteArray := prog_5_method_5_code
def yX3_placeOf : MethodName := ⟨RX3, "placeOf", "(I)I"⟩
abbrev cX3_join : ByteArray := prog_5_method_6_code
def yX3_join : MethodName := ⟨RX3, "join", "(I)V"⟩
abbrev cX3_dropPlace : ByteArray := prog_5_method_7_code
def yX3_dropPlace : MethodName := ⟨RX3, "dropPlace", "(I)V"⟩
abbrev cX3_copyFrom : ByteArray := prog_5_method_8_code
def yX3_copyFrom : MethodName := ⟨RX3, "copyFrom", "(LLibraryVan$Queue;)V"⟩
def RX4 : String := "LibraryVan$Reader"
def TX4 : u_T := fun k => match k with
  | 0 => ("LibraryVan$Reader", "number", "I", true)
  | 1 => ("LibraryVan$Reader", "halt", "I", true)
  | 2 => ("LibraryVan$Reader", "shelf", "I", true)
  | 3 => ("LibraryVan$Reader", "keeps", "I", true)
  | 4 => ("LibraryVan$Reader", "has", "I", false)
  | 5 => ("LibraryVan$Reader", "read", "I", false)
  | 6 => ("LibraryVan$Reader", "pence", "I", false)
  | _ => ("LibraryVan$Reader", "loans", "I", false)
def tyX4 : Nat → FieldType := fun k => match k with
  | 0 => .int
  | 1 => .int
  | 2 => .int
  | 3 => .int
  | 4 => .int
  | 5 => .int
  | 6 => .int
  | _ => .int
theorem nmX4 : ∀ a, a < 8 → ∀ b, b < 8 → a ≠ b → (TX4 a).2.1 ≠ (TX4 b).2.1 := by decide +kernel
theorem tyX4_ok : ∀ k, k < 8 → parseFieldDescriptor (TX4 k).2.2.1 = some (tyX4 k) := by decide +kernel
abbrev cX4_init : ByteArray := prog_6_method_1_code
def yX4_init : MethodName := ⟨RX4, "<init>", "(IIII)V"⟩
abbrev cX4_takesMore : ByteArray := prog_6_method_2_code
def yX4_takesMore : MethodName := ⟨RX4, "takesMore", "()Z"⟩
abbrev cX4_hasRead : ByteArray := prog_6_method_3_code
def yX4_hasRead : MethodName := ⟨RX4, "hasRead", "(I)Z"⟩
abbrev cX4_copyFrom : ByteArray := prog_6_method_4_code
def yX4_copyFrom : MethodName := ⟨RX4, "copyFrom", "(LLibraryVan$Reader;)V"⟩
def RX5 : String := "LibraryVan$Round"
def TX5 : u_T := fun k => match k with
  | 0 => ("LibraryVan$Round", "halts", "[I", true)
  | 1 => ("LibraryVan$Round", "size", "I", false)
  | _ => ("LibraryVan$Round", "minutes", "I", false)
def tyX5 : Nat → FieldType := fun k => match k with
  | 0 => .array .int
  | 1 => .int
  | _ => .int
theorem nmX5 : ∀ a, a < 3 → ∀ b, b < 3 → a ≠ b → (TX5 a).2.1 ≠ (TX5 b).2.1 := by decide +kernel
theorem tyX5_ok : ∀ k, k < 3 → parseFieldDescriptor (TX5 k).2.2.1 = some (tyX5 k) := by decide +kernel
abbrev cX5_init : ByteArray := prog_7_method_1_code
def yX5_init : MethodName := ⟨RX5, "<init>", "()V"⟩
abbrev cX5_size : ByteArray := prog_7_method_2_code
def yX5_size : MethodName := ⟨RX5, "size", "()I"⟩
abbrev cX5_haltAt : ByteArray := prog_7_method_3_code
def yX5_haltAt : MethodName := ⟨RX5, "haltAt", "(I)I"⟩
abbrev cX5_append : ByteArray := prog_7_method_4_code
def yX5_append : MethodName := ⟨RX5, "append", "(I)V"⟩
abbrev cX5_tellAnew : ByteArray := prog_7_method_5_code
def yX5_tellAnew : MethodName := ⟨RX5, "tellAnew", "(II)V"⟩
abbrev cX5_timesOf : ByteArray := prog_7_method_6_code
def yX5_timesOf : MethodName := ⟨RX5, "timesOf", "(I)I"⟩
abbrev cX5_copyFrom : ByteArray := prog_7_method_7_code
def yX5_copyFrom : MethodName := ⟨RX5, "copyFrom", "(LLibraryVan$Round;)V"⟩
def RX6 : String := "LibraryVan$Ways"
def TX6 : u_T := fun k => match k with
  | _ => ("LibraryVan$Ways", "times", "[I", true)
def tyX6 : Nat → FieldType := fun k => match k with
  | _ => .array .int
theorem nmX6 : ∀ a, a < 1 → ∀ b, b < 1 → a ≠ b → (TX6 a).2.1 ≠ (TX6 b).2.1 := by decide +kernel
theorem tyX6_ok : ∀ k, k < 1 → parseFieldDescriptor (TX6 k).2.2.1 = some (tyX6 k) := by decide +kernel
abbrev cX6_init : ByteArray := prog_8_method_1_code
def yX6_init : MethodName := ⟨RX6, "<init>", "()V"⟩
abbrev cX6_measure : ByteArray := prog_8_method_2_code
def yX6_measure : MethodName := ⟨RX6, "measure", "(ILjava/util/ArrayList;)V"⟩
abbrev cX6_time : ByteArray := prog_8_method_3_code
def yX6_time : MethodName := ⟨RX6, "time", "(II)I"⟩
abbrev cX6_shorten : ByteArray := prog_8_method_4_code
def yX6_shorten : MethodName := ⟨RX6, "shorten", "(III)V"⟩
def RX7 : String := "LibraryVan$World"
def TX7 : u_T := fun k => match k with
  | 0 => ("LibraryVan$World", "halts", "Ljava/util/ArrayList;", true)
  | 1 => ("LibraryVan$World", "lanes", "Ljava/util/ArrayList;", true)
  | 2 => ("LibraryVan$World", "books", "Ljava/util/ArrayList;", true)
  | 3 => ("LibraryVan$World", "readers", "Ljava/util/ArrayList;", true)
  | 4 => ("LibraryVan$World", "ways", "LLibraryVan$Ways;", true)
  | 5 => ("LibraryVan$World", "round", "LLibraryVan$Round;", true)
  | 6 => ("LibraryVan$World", "rain", "[I", true)
  | 7 => ("LibraryVan$World", "day", "I", false)
  | _ => ("LibraryVan$World", "latestMinutes", "I", false)
def tyX7 : Nat → FieldType := fun k => match k with
  | 0 => .object "java/util/ArrayList"
  | 1 => .object "java/util/ArrayList"
  | 2 => .object "java/util/ArrayList"
  | 3 => .object "java/util/ArrayList"
  | 4 => .object "LibraryVan$Ways"
  | 5 => .object "LibraryVan$Round"
  | 6 => .array .int
  | 7 => .int
  | _ => .int
theorem nmX7 : ∀ a, a < 9 → ∀ b, b < 9 → a ≠ b → (TX7 a).2.1 ≠ (TX7 b).2.1 := by decide +kernel
theorem tyX7_ok : ∀ k, k < 9 → parseFieldDescriptor (TX7 k).2.2.1 = some (tyX7 k) := by decide +kernel
abbrev cX7_init : ByteArray := prog_9_method_1_code
def yX7_init : MethodName := ⟨RX7, "<init>", "()V"⟩
abbrev cX7_changeRain : ByteArray := prog_9_method_2_code
def yX7_changeRain : MethodName := ⟨RX7, "changeRain", "(II)I"⟩
abbrev cX7_rainOf : ByteArray := prog_9_method_3_code
def yX7_rainOf : MethodName := ⟨RX7, "rainOf", "(I)I"⟩
abbrev cX7_minutesOfWay : ByteArray := prog_9_method_4_code
def yX7_minutesOfWay : MethodName := ⟨RX7, "minutesOfWay", "(II)I"⟩
abbrev cX7_holderOf : ByteArray := prog_9_method_5_code
def yX7_holderOf : MethodName := ⟨RX7, "holderOf", "(I)I"⟩
abbrev cX7_copyFrom : ByteArray := prog_9_method_6_code
def yX7_copyFrom : MethodName := ⟨RX7, "copyFrom", "(LLibraryVan$World;)V"⟩
abbrev cX7_passDays : ByteArray := prog_9_method_7_code
def yX7_passDays : MethodName := ⟨RX7, "passDays", "(I)V"⟩
abbrev cX7_weather : ByteArray := prog_9_method_8_code
def yX7_weather : MethodName := ⟨RX7, "weather", "()V"⟩
abbrev cX7_goRound : ByteArray := prog_9_method_9_code
def yX7_goRound : MethodName := ⟨RX7, "goRound", "()V"⟩
abbrev cX7_noteVisit : ByteArray := prog_9_method_10_code
def yX7_noteVisit : MethodName := ⟨RX7, "noteVisit", "(IZ)V"⟩
abbrev cX7_takeBooksBack : ByteArray := prog_9_method_11_code
def yX7_takeBooksBack : MethodName := ⟨RX7, "takeBooksBack", "(I)V"⟩
abbrev cX7_lendReservedBooks : ByteArray := prog_9_method_12_code
def yX7_lendReservedBooks : MethodName := ⟨RX7, "lendReservedBooks", "(I)V"⟩
abbrev cX7_readerWith : ByteArray := prog_9_method_13_code
def yX7_readerWith : MethodName := ⟨RX7, "readerWith", "(I)LLibraryVan$Reader;"⟩
abbrev cX7_lendOtherBooks : ByteArray := prog_9_method_14_code
def yX7_lendOtherBooks : MethodName := ⟨RX7, "lendOtherBooks", "(I)V"⟩
abbrev cX7_lendOtherBookTo : ByteArray := prog_9_method_15_code
def yX7_lendOtherBookTo : MethodName := ⟨RX7, "lendOtherBookTo", "(LLibraryVan$Reader;)V"⟩
abbrev cX7_haltAnswer : ByteArray := prog_9_method_16_code
def yX7_haltAnswer : MethodName := ⟨RX7, "haltAnswer", "(II)I"⟩
abbrev cX7_laneAnswer : ByteArray := prog_9_method_17_code
def yX7_laneAnswer : MethodName := ⟨RX7, "laneAnswer", "(II)I"⟩
abbrev cX7_bookAnswer : ByteArray := prog_9_method_18_code
def yX7_bookAnswer : MethodName := ⟨RX7, "bookAnswer", "(II)I"⟩
abbrev cX7_readerAnswer : ByteArray := prog_9_method_19_code
def yX7_readerAnswer : MethodName := ⟨RX7, "readerAnswer", "(II)I"⟩
abbrev cX7_countAnswer : ByteArray := prog_9_method_20_code
def yX7_countAnswer : MethodName := ⟨RX7, "countAnswer", "(I)I"⟩
abbrev cX7_readersAt : ByteArray := prog_9_method_21_code
def yX7_readersAt : MethodName := ⟨RX7, "readersAt", "(I)I"⟩
abbrev cX7_lanesAt : ByteArray := prog_9_method_22_code
def yX7_lanesAt : MethodName := ⟨RX7, "lanesAt", "(I)I"⟩
abbrev cX7_readersWhoRead : ByteArray := prog_9_method_23_code
def yX7_readersWhoRead : MethodName := ⟨RX7, "readersWhoRead", "(I)I"⟩
abbrev cX7_booksReservedBy : ByteArray := prog_9_method_24_code
def yX7_booksReservedBy : MethodName := ⟨RX7, "booksReservedBy", "(I)I"⟩
abbrev cX7_booksOnVan : ByteArray := prog_9_method_25_code
def yX7_booksOnVan : MethodName := ⟨RX7, "booksOnVan", "()I"⟩
abbrev cX7_loansOfAll : ByteArray := prog_9_method_26_code
def yX7_loansOfAll : MethodName := ⟨RX7, "loansOfAll", "()I"⟩
abbrev cX7_missesOfAll : ByteArray := prog_9_method_27_code
def yX7_missesOfAll : MethodName := ⟨RX7, "missesOfAll", "()I"⟩
abbrev cX7_penceOfAll : ByteArray := prog_9_method_28_code
def yX7_penceOfAll : MethodName := ⟨RX7, "penceOfAll", "()I"⟩
abbrev cX7_lanesTooMuddy : ByteArray := prog_9_method_29_code
def yX7_lanesTooMuddy : MethodName := ⟨RX7, "lanesTooMuddy", "()I"⟩
abbrev cX7_mixVan : ByteArray := prog_9_method_30_code
def yX7_mixVan : MethodName := ⟨RX7, "mixVan", "(J)J"⟩
abbrev cX7_mixHaltsAndLanes : ByteArray := prog_9_method_31_code
def yX7_mixHaltsAndLanes : MethodName := ⟨RX7, "mixHaltsAndLanes", "(J)J"⟩
abbrev cX7_mixBooksAndReaders : ByteArray := prog_9_method_32_code
def yX7_mixBooksAndReaders : MethodName := ⟨RX7, "mixBooksAndReaders", "(J)J"⟩
def RX8 : String := "LibraryVan"
def TX8 : u_T := fun k => match k with
  | 0 => ("LibraryVan", "now", "LLibraryVan$World;", true)
  | _ => ("LibraryVan", "trial", "LLibraryVan$World;", true)
def tyX8 : Nat → FieldType := fun k => match k with
  | 0 => .object "LibraryVan$World"
  | _ => .object "LibraryVan$World"
theorem nmX8 : ∀ a, a < 2 → ∀ b, b < 2 → a ≠ b → (TX8 a).2.1 ≠ (TX8 b).2.1 := by decide +kernel
theorem tyX8_ok : ∀ k, k < 2 → parseFieldDescriptor (TX8 k).2.2.1 = some (tyX8 k) := by decide +kernel
abbrev cX8_init : ByteArray := prog_1_method_1_code
def yX8_init : MethodName := ⟨RX8, "<init>", "()V"⟩
abbrev cX8_addHalt : ByteArray := prog_1_method_2_code
def yX8_addHalt : MethodName := ⟨RX8, "addHalt", "()I"⟩
abbrev cX8_addLane : ByteArray := prog_1_method_3_code
def yX8_addLane : MethodName := ⟨RX8, "addLane", "(IIII)I"⟩
abbrev cX8_setRain : ByteArray := prog_1_method_4_code
def yX8_setRain : MethodName := ⟨RX8, "setRain", "(II)I"⟩
abbrev cX8_setRound : ByteArray := prog_1_method_5_code
def yX8_setRound : MethodName := ⟨RX8, "setRound", "(II)I"⟩
abbrev cX8_halt : ByteArray := prog_1_method_6_code
def yX8_halt : MethodName := ⟨RX8, "halt", "(II)I"⟩
abbrev cX8_lane : ByteArray := prog_1_method_7_code
def yX8_lane : MethodName := ⟨RX8, "lane", "(II)I"⟩
abbrev cX8_way : ByteArray := prog_1_method_8_code
def yX8_way : MethodName := ⟨RX8, "way", "(II)I"⟩
abbrev cX8_addBook : ByteArray := prog_1_method_9_code
def yX8_addBook : MethodName := ⟨RX8, "addBook", "(I)I"⟩
abbrev cX8_addReader : ByteArray := prog_1_method_10_code
def yX8_addReader : MethodName := ⟨RX8, "addReader", "(III)I"⟩
abbrev cX8_reserve : ByteArray := prog_1_method_11_code
def yX8_reserve : MethodName := ⟨RX8, "reserve", "(II)I"⟩
abbrev cX8_cancel : ByteArray := prog_1_method_12_code
def yX8_cancel : MethodName := ⟨RX8, "cancel", "(II)I"⟩
abbrev cX8_book : ByteArray := prog_1_method_13_code
def yX8_book : MethodName := ⟨RX8, "book", "(II)I"⟩
abbrev cX8_reader : ByteArray := prog_1_method_14_code
def yX8_reader : MethodName := ⟨RX8, "reader", "(II)I"⟩
abbrev cX8_pay : ByteArray := prog_1_method_15_code
def yX8_pay : MethodName := ⟨RX8, "pay", "(II)I"⟩
abbrev cX8_pass : ByteArray := prog_1_method_16_code
def yX8_pass : MethodName := ⟨RX8, "pass", "(I)I"⟩
abbrev cX8_count : ByteArray := prog_1_method_17_code
def yX8_count : MethodName := ⟨RX8, "count", "(I)I"⟩
abbrev cX8_foresee : ByteArray := prog_1_method_18_code
def yX8_foresee : MethodName := ⟨RX8, "foresee", "(II)I"⟩
abbrev cX8_gets : ByteArray := prog_1_method_19_code
def yX8_gets : MethodName := ⟨RX8, "gets", "(II)I"⟩
abbrev cX8_advise : ByteArray := prog_1_method_20_code
def yX8_advise : MethodName := ⟨RX8, "advise", "(I)I"⟩
abbrev cX8_daily : ByteArray := prog_1_method_21_code
def yX8_daily : MethodName := ⟨RX8, "daily", "()D"⟩
abbrev cX8_digest : ByteArray := prog_1_method_22_code
def yX8_digest : MethodName := ⟨RX8, "digest", "()J"⟩
abbrev cX8_isWithin : ByteArray := prog_1_method_23_code
def yX8_isWithin : MethodName := ⟨RX8, "isWithin", "(III)Z"⟩
abbrev cX8_needKind : ByteArray := prog_1_method_24_code
def yX8_needKind : MethodName := ⟨RX8, "needKind", "(II)V"⟩
abbrev cX8_needDays : ByteArray := prog_1_method_25_code
def yX8_needDays : MethodName := ⟨RX8, "needDays", "(II)V"⟩
abbrev cX8_needHalt : ByteArray := prog_1_method_26_code
def yX8_needHalt : MethodName := ⟨RX8, "needHalt", "(I)V"⟩
abbrev cX8_needBook : ByteArray := prog_1_method_27_code
def yX8_needBook : MethodName := ⟨RX8, "needBook", "(I)V"⟩
abbrev cX8_needReader : ByteArray := prog_1_method_28_code
def yX8_needReader : MethodName := ⟨RX8, "needReader", "(I)V"⟩
abbrev cX8_standsForHalts : ByteArray := prog_1_method_29_code
def yX8_standsForHalts : MethodName := ⟨RX8, "standsForHalts", "(II)Z"⟩
abbrev cX8_loansAhead : ByteArray := prog_1_method_30_code
def yX8_loansAhead : MethodName := ⟨RX8, "loansAhead", "(II)I"⟩
abbrev cX8_mix : ByteArray := prog_1_method_31_code
def yX8_mix : MethodName := ⟨RX8, "mix", "(JJ)J"⟩
abbrev cX8_copyRow : ByteArray := prog_1_method_32_code
def yX8_copyRow : MethodName := ⟨RX8, "copyRow", "([I[I)V"⟩
def RX9 : String := "LibraryVanModel$State"
def TX9 : u_T := fun k => match k with
  | 0 => ("LibraryVanModel$State", "day", "I", false)
  | 1 => ("LibraryVanModel$State", "used", "I", false)
  | 2 => ("LibraryVanModel$State", "loans", "I", false)
  | 3 => ("LibraryVanModel$State", "mud", "[I", true)
  | 4 => ("LibraryVanModel$State", "round", "[I", true)
  | 5 => ("LibraryVanModel$State", "size", "I", false)
  | 6 => ("LibraryVanModel$State", "served", "[I", true)
  | 7 => ("LibraryVanModel$State", "missed", "[I", true)
  | 8 => ("LibraryVanModel$State", "with", "[I", true)
  | 9 => ("LibraryVanModel$State", "since", "[I", true)
  | 10 => ("LibraryVanModel$State", "lent", "[I", true)
  | 11 => ("LibraryVanModel$State", "queue", "[I", true)
  | 12 => ("LibraryVanModel$State", "queued", "[I", true)
  | 13 => ("LibraryVanModel$State", "read", "[I", true)
  | 14 => ("LibraryVanModel$State", "owes", "[I", true)
  | 15 => ("LibraryVanModel$State", "had", "[I", true)
  | _ => ("LibraryVanModel$State", "this$0", "LLibraryVanModel;", true)
def tyX9 : Nat → FieldType := fun k => match k with
  | 0 => .int
  | 1 => .int
  | 2 => .int
  | 3 => .array .int
  | 4 => .array .int
  | 5 => .int
  | 6 => .array .int
  | 7 => .array .int
  | 8 => .array .int
  | 9 => .array .int
  | 10 => .array .int
  | 11 => .array .int
  | 12 => .array .int
  | 13 => .array .int
  | 14 => .array .int
  | 15 => .array .int
  | _ => .object "LibraryVanModel"
theorem nmX9 : ∀ a, a < 17 → ∀ b, b < 17 → a ≠ b → (TX9 a).2.1 ≠ (TX9 b).2.1 := by decide +kernel
theorem tyX9_ok : ∀ k, k < 17 → parseFieldDescriptor (TX9 k).2.2.1 = some (tyX9 k) := by decide +kernel
abbrev cX9_init : ByteArray := prog_12_method_1_code
def yX9_init : MethodName := ⟨RX9, "<init>", "(LLibraryVanModel;)V"⟩
abbrev cX9_copy : ByteArray := prog_12_method_2_code
def yX9_copy : MethodName := ⟨RX9, "copy", "([I[I)V"⟩
abbrev cX9_become : ByteArray := prog_12_method_3_code
def yX9_become : MethodName := ⟨RX9, "become", "(LLibraryVanModel$State;)V"⟩
abbrev cX9_minutesOf : ByteArray := prog_12_method_4_code
def yX9_minutesOf : MethodName := ⟨RX9, "minutesOf", "(I)I"⟩
abbrev cX9_find : ByteArray := prog_12_method_5_code
def yX9_find : MethodName := ⟨RX9, "find", "()V"⟩
abbrev cX9_relax : ByteArray := prog_12_method_6_code
def yX9_relax : MethodName := ⟨RX9, "relax", "(III)Z"⟩
abbrev cX9_many : ByteArray := prog_12_method_7_code
def yX9_many : MethodName := ⟨RX9, "many", "(I)I"⟩
abbrev cX9_placeOf : ByteArray := prog_12_method_8_code
def yX9_placeOf : MethodName := ⟨RX9, "placeOf", "(II)I"⟩
abbrev cX9_strike : ByteArray := prog_12_method_9_code
def yX9_strike : MethodName := ⟨RX9, "strike", "(II)V"⟩
abbrev cX9_pass : ByteArray := prog_12_method_10_code
def yX9_pass : MethodName := ⟨RX9, "pass", "()I"⟩
abbrev cX9_serve : ByteArray := prog_12_method_11_code
def yX9_serve : MethodName := ⟨RX9, "serve", "(I)V"⟩
abbrev cX9_bringBack : ByteArray := prog_12_method_12_code
def yX9_bringBack : MethodName := ⟨RX9, "bringBack", "(I)V"⟩
abbrev cX9_lend : ByteArray := prog_12_method_13_code
def yX9_lend : MethodName := ⟨RX9, "lend", "(II)V"⟩
abbrev cX9_choose : ByteArray := prog_12_method_14_code
def yX9_choose : MethodName := ⟨RX9, "choose", "(I)V"⟩
abbrev cX9_owed : ByteArray := prog_12_method_15_code
def yX9_owed : MethodName := ⟨RX9, "owed", "()I"⟩
abbrev cX9_missedOnes : ByteArray := prog_12_method_16_code
def yX9_missedOnes : MethodName := ⟨RX9, "missedOnes", "()I"⟩
def RX10 : String := "LibraryVanModel"
def TX10 : u_T := fun k => match k with
  | 0 => ("LibraryVanModel", "thrown", "I", false)
  | 1 => ("LibraryVanModel", "halts", "I", false)
  | 2 => ("LibraryVanModel", "lanes", "I", false)
  | 3 => ("LibraryVanModel", "lane", "[I", true)
  | 4 => ("LibraryVanModel", "rain", "[I", true)
  | 5 => ("LibraryVanModel", "minutes", "I", false)
  | 6 => ("LibraryVanModel", "books", "I", false)
  | 7 => ("LibraryVanModel", "shelf", "[I", true)
  | 8 => ("LibraryVanModel", "readers", "I", false)
  | 9 => ("LibraryVanModel", "reader", "[I", true)
  | 10 => ("LibraryVanModel", "times", "[I", true)
  | 11 => ("LibraryVanModel", "s", "LLibraryVanModel$State;", true)
  | _ => ("LibraryVanModel", "ahead", "LLibraryVanModel$State;", true)
def tyX10 : Nat → FieldType := fun k => match k with
  | 0 => .int
  | 1 => .int
  | 2 => .int
  | 3 => .array .int
  | 4 => .array .int
  | 5 => .int
  | 6 => .int
  | 7 => .array .int
  | 8 => .int
  | 9 => .array .int
  | 10 => .array .int
  | 11 => .object "LibraryVanModel$State"
  | _ => .object "LibraryVanModel$State"
theorem nmX10 : ∀ a, a < 13 → ∀ b, b < 13 → a ≠ b → (TX10 a).2.1 ≠ (TX10 b).2.1 := by decide +kernel
theorem tyX10_ok : ∀ k, k < 13 → parseFieldDescriptor (TX10 k).2.2.1 = some (tyX10 k) := by decide +kernel
abbrev cX10_init : ByteArray := prog_11_method_1_code
def yX10_init : MethodName := ⟨RX10, "<init>", "()V"⟩
abbrev cX10_thrown : ByteArray := prog_11_method_2_code
def yX10_thrown : MethodName := ⟨RX10, "thrown", "()I"⟩
abbrev cX10_no : ByteArray := prog_11_method_3_code
def yX10_no : MethodName := ⟨RX10, "no", "(I)I"⟩
abbrev cX10_isIn : ByteArray := prog_11_method_4_code
def yX10_isIn : MethodName := ⟨RX10, "isIn", "(III)Z"⟩
abbrev cX10_isHalt : ByteArray := prog_11_method_5_code
def yX10_isHalt : MethodName := ⟨RX10, "isHalt", "(I)Z"⟩
abbrev cX10_isReader : ByteArray := prog_11_method_6_code
def yX10_isReader : MethodName := ⟨RX10, "isReader", "(I)Z"⟩
abbrev cX10_isBook : ByteArray := prog_11_method_7_code
def yX10_isBook : MethodName := ⟨RX10, "isBook", "(I)Z"⟩
abbrev cX10_addHalt : ByteArray := prog_11_method_8_code
def yX10_addHalt : MethodName := ⟨RX10, "addHalt", "()I"⟩
abbrev cX10_addLane : ByteArray := prog_11_method_9_code
def yX10_addLane : MethodName := ⟨RX10, "addLane", "(IIII)I"⟩
abbrev cX10_setRain : ByteArray := prog_11_method_10_code
def yX10_setRain : MethodName := ⟨RX10, "setRain", "(II)I"⟩
abbrev cX10_setRound : ByteArray := prog_11_method_11_code
def yX10_setRound : MethodName := ⟨RX10, "setRound", "(II)I"⟩
abbrev cX10_haltTold : ByteArray := prog_11_method_12_code
def yX10_haltTold : MethodName := ⟨RX10, "haltTold", "(II)I"⟩
abbrev cX10_halt : ByteArray := prog_11_method_13_code
def yX10_halt : MethodName := ⟨RX10, "halt", "(II)I"⟩
abbrev cX10_laneTold : ByteArray := prog_11_method_14_code
def yX10_laneTold : MethodName := ⟨RX10, "laneTold", "(II)I"⟩
abbrev cX10_lane : ByteArray := prog_11_method_15_code
def yX10_lane : MethodName := ⟨RX10, "lane", "(II)I"⟩
abbrev cX10_way : ByteArray := prog_11_method_16_code
def yX10_way : MethodName := ⟨RX10, "way", "(II)I"⟩
abbrev cX10_addBook : ByteArray := prog_11_method_17_code
def yX10_addBook : MethodName := ⟨RX10, "addBook", "(I)I"⟩
abbrev cX10_addReader : ByteArray := prog_11_method_18_code
def yX10_addReader : MethodName := ⟨RX10, "addReader", "(III)I"⟩
abbrev cX10_reserve : ByteArray := prog_11_method_19_code
def yX10_reserve : MethodName := ⟨RX10, "reserve", "(II)I"⟩
abbrev cX10_cancel : ByteArray := prog_11_method_20_code
def yX10_cancel : MethodName := ⟨RX10, "cancel", "(II)I"⟩
abbrev cX10_bookTold : ByteArray := prog_11_method_21_code
def yX10_bookTold : MethodName := ⟨RX10, "bookTold", "(II)I"⟩
abbrev cX10_book : ByteArray := prog_11_method_22_code
def yX10_book : MethodName := ⟨RX10, "book", "(II)I"⟩
abbrev cX10_readerTold : ByteArray := prog_11_method_23_code
def yX10_readerTold : MethodName := ⟨RX10, "readerTold", "(II)I"⟩
abbrev cX10_reader : ByteArray := prog_11_method_24_code
def yX10_reader : MethodName := ⟨RX10, "reader", "(II)I"⟩
abbrev cX10_pay : ByteArray := prog_11_method_25_code
def yX10_pay : MethodName := ⟨RX10, "pay", "(II)I"⟩
abbrev cX10_pass : ByteArray := prog_11_method_26_code
def yX10_pass : MethodName := ⟨RX10, "pass", "(LLibraryVanModel$State;I)I"⟩
abbrev cX10_pass_ : ByteArray := prog_11_method_27_code
def yX10_pass_ : MethodName := ⟨RX10, "pass", "(I)I"⟩
abbrev cX10_counted : ByteArray := prog_11_method_28_code
def yX10_counted : MethodName := ⟨RX10, "counted", "(I)I"⟩
abbrev cX10_count : ByteArray := prog_11_method_29_code
def yX10_count : MethodName := ⟨RX10, "count", "(I)I"⟩
abbrev cX10_foresee : ByteArray := prog_11_method_30_code
def yX10_foresee : MethodName := ⟨RX10, "foresee", "(II)I"⟩
abbrev cX10_gets : ByteArray := prog_11_method_31_code
def yX10_gets : MethodName := ⟨RX10, "gets", "(II)I"⟩
abbrev cX10_advise : ByteArray := prog_11_method_32_code
def yX10_advise : MethodName := ⟨RX10, "advise", "(I)I"⟩
abbrev cX10_daily : ByteArray := prog_11_method_33_code
def yX10_daily : MethodName := ⟨RX10, "daily", "()D"⟩
abbrev cX10_digest : ByteArray := prog_11_method_34_code
def yX10_digest : MethodName := ⟨RX10, "digest", "()J"⟩
def RJx145de : String := "java/io/Serializable"
def TJx145de : u_T := fun k => match k with
  | _ => ("", "", "", false)
def tyJx145de : Nat → FieldType := fun k => match k with
  | _ => .int
theorem nmJx145de : ∀ a, a < 0 → ∀ b, b < 0 → a ≠ b → (TJx145de a).2.1 ≠ (TJx145de b).2.1 := by decide +kernel
theorem tyJx145de_ok : ∀ k, k < 0 → parseFieldDescriptor (TJx145de k).2.2.1 = some (tyJx145de k) := by decide +kernel
def RJx8e188 : String := "java/lang/Cloneable"
def TJx8e188 : u_T := fun k => match k with
  | _ => ("", "", "", false)
def tyJx8e188 : Nat → FieldType := fun k => match k with
  | _ => .int
theorem nmJx8e188 : ∀ a, a < 0 → ∀ b, b < 0 → a ≠ b → (TJx8e188 a).2.1 ≠ (TJx8e188 b).2.1 := by decide +kernel
theorem tyJx8e188_ok : ∀ k, k < 0 → parseFieldDescriptor (TJx8e188 k).2.2.1 = some (tyJx8e188 k) := by decide +kernel
def RJ6 : String := "java/lang/Integer"
def TJ6 : u_T := fun k => match k with
  | _ => ("", "", "", false)
def tyJ6 : Nat → FieldType := fun k => match k with
  | _ => .int
theorem nmJ6 : ∀ a, a < 0 → ∀ b, b < 0 → a ≠ b → (TJ6 a).2.1 ≠ (TJ6 b).2.1 := by decide +kernel
theorem tyJ6_ok : ∀ k, k < 0 → parseFieldDescriptor (TJ6 k).2.2.1 = some (tyJ6 k) := by decide +kernel
abbrev cJ6_bitCount_0f7a4 : ByteArray := prog_19_method_49_code
def yJ6_bitCount_0f7a4 : MethodName := ⟨RJ6, "bitCount", "(I)I"⟩
def RJxab1ab : String := "java/lang/Iterable"
def TJxab1ab : u_T := fun k => match k with
  | _ => ("", "", "", false)
def tyJxab1ab : Nat → FieldType := fun k => match k with
  | _ => .int
theorem nmJxab1ab : ∀ a, a < 0 → ∀ b, b < 0 → a ≠ b → (TJxab1ab a).2.1 ≠ (TJxab1ab b).2.1 := by decide +kernel
theorem tyJxab1ab_ok : ∀ k, k < 0 → parseFieldDescriptor (TJxab1ab k).2.2.1 = some (tyJxab1ab k) := by decide +kernel
def RJ9 : String := "java/lang/Math"
def TJ9 : u_T := fun k => match k with
  | _ => ("", "", "", false)
def tyJ9 : Nat → FieldType := fun k => match k with
  | _ => .int
theorem nmJ9 : ∀ a, a < 0 → ∀ b, b < 0 → a ≠ b → (TJ9 a).2.1 ≠ (TJ9 b).2.1 := by decide +kernel
theorem tyJ9_ok : ∀ k, k < 0 → parseFieldDescriptor (TJ9 k).2.2.1 = some (tyJ9 k) := by decide +kernel
abbrev cJ9_floorMod_7cf53 : ByteArray := prog_21_method_50_code
def yJ9_floorMod_7cf53 : MethodName := ⟨RJ9, "floorMod", "(II)I"⟩
abbrev cJ9_max_7cf53 : ByteArray := prog_21_method_65_code
def yJ9_max_7cf53 : MethodName := ⟨RJ9, "max", "(II)I"⟩
abbrev cJ9_min_7cf53 : ByteArray := prog_21_method_69_code
def yJ9_min_7cf53 : MethodName := ⟨RJ9, "min", "(II)I"⟩
def RJ0 : String := "java/lang/String"
def TJ0 : u_T := fun k => match k with
  | _ => ("", "", "", false)
def tyJ0 : Nat → FieldType := fun k => match k with
  | _ => .int
theorem nmJ0 : ∀ a, a < 0 → ∀ b, b < 0 → a ≠ b → (TJ0 a).2.1 ≠ (TJ0 b).2.1 := by decide +kernel
theorem tyJ0_ok : ∀ k, k < 0 → parseFieldDescriptor (TJ0 k).2.2.1 = some (tyJ0 k) := by decide +kernel
def RJ10 : String := "java/lang/System"
def TJ10 : u_T := fun k => match k with
  | _ => ("", "", "", false)
def tyJ10 : Nat → FieldType := fun k => match k with
  | _ => .int
theorem nmJ10 : ∀ a, a < 0 → ∀ b, b < 0 → a ≠ b → (TJ10 a).2.1 ≠ (TJ10 b).2.1 := by decide +kernel
theorem tyJ10_ok : ∀ k, k < 0 → parseFieldDescriptor (TJ10 k).2.2.1 = some (tyJ10 k) := by decide +kernel
def RJxa1e45 : String := "java/util/AbstractCollection"
def TJxa1e45 : u_T := fun k => match k with
  | _ => ("", "", "", false)
def tyJxa1e45 : Nat → FieldType := fun k => match k with
  | _ => .int
theorem nmJxa1e45 : ∀ a, a < 0 → ∀ b, b < 0 → a ≠ b → (TJxa1e45 a).2.1 ≠ (TJxa1e45 b).2.1 := by decide +kernel
theorem tyJxa1e45_ok : ∀ k, k < 0 → parseFieldDescriptor (TJxa1e45 k).2.2.1 = some (tyJxa1e45 k) := by decide +kernel
abbrev cJxa1e45_init_da8c8 : ByteArray := prog_26_method_1_code
def yJxa1e45_init_da8c8 : MethodName := ⟨RJxa1e45, "<init>", "()V"⟩
def RJxc12de : String := "java/util/AbstractList"
def TJxc12de : u_T := fun k => match k with
  | _ => ("", "", "", false)
def tyJxc12de : Nat → FieldType := fun k => match k with
  | _ => .int
theorem nmJxc12de : ∀ a, a < 0 → ∀ b, b < 0 → a ≠ b → (TJxc12de a).2.1 ≠ (TJxc12de b).2.1 := by decide +kernel
theorem tyJxc12de_ok : ∀ k, k < 0 → parseFieldDescriptor (TJxc12de k).2.2.1 = some (tyJxc12de k) := by decide +kernel
abbrev cJxc12de_init_da8c8 : ByteArray := prog_27_method_1_code
def yJxc12de_init_da8c8 : MethodName := ⟨RJxc12de, "<init>", "()V"⟩
def RJx4a65c : String := "java/util/ArrayList"
def TJx4a65c : u_T := fun k => match k with
  | 0 => ("java/util/AbstractList", "modCount", "I", false)
  | 1 => ("java/util/ArrayList", "elementData", "[Ljava/lang/Object;", false)
  | _ => ("java/util/ArrayList", "size", "I", false)
def tyJx4a65c : Nat → FieldType := fun k => match k with
  | 0 => .int
  | 1 => .array (.object "java/lang/Object")
  | _ => .int
theorem nmJx4a65c : ∀ a, a < 3 → ∀ b, b < 3 → a ≠ b → (TJx4a65c a).2.1 ≠ (TJx4a65c b).2.1 := by decide +kernel
theorem tyJx4a65c_ok : ∀ k, k < 3 → parseFieldDescriptor (TJx4a65c k).2.2.1 = some (tyJx4a65c k) := by decide +kernel
abbrev cJx4a65c_init_da8c8 : ByteArray := prog_28_method_2_code
def yJx4a65c_init_da8c8 : MethodName := ⟨RJx4a65c, "<init>", "()V"⟩
abbrev cJx4a65c_grow_92f84 : ByteArray := prog_28_method_6_code
def yJx4a65c_grow_92f84 : MethodName := ⟨RJx4a65c, "grow", "(I)[Ljava/lang/Object;"⟩
abbrev cJx4a65c_grow_d5877 : ByteArray := prog_28_method_7_code
def yJx4a65c_grow_d5877 : MethodName := ⟨RJx4a65c, "grow", "()[Ljava/lang/Object;"⟩
abbrev cJx4a65c_size_8abf5 : ByteArray := prog_28_method_8_code
def yJx4a65c_size_8abf5 : MethodName := ⟨RJx4a65c, "size", "()I"⟩
abbrev cJx4a65c_elementData_915e3 : ByteArray := prog_28_method_18_code
def yJx4a65c_elementData_915e3 : MethodName := ⟨RJx4a65c, "elementData", "(I)Ljava/lang/Object;"⟩
abbrev cJx4a65c_get_915e3 : ByteArray := prog_28_method_20_code
def yJx4a65c_get_915e3 : MethodName := ⟨RJx4a65c, "get", "(I)Ljava/lang/Object;"⟩
abbrev cJx4a65c_add_72be8 : ByteArray := prog_28_method_24_code
def yJx4a65c_add_72be8 : MethodName := ⟨RJx4a65c, "add", "(Ljava/lang/Object;[Ljava/lang/Object;I)V"⟩
abbrev cJx4a65c_add_9ea2d : ByteArray := prog_28_method_25_code
def yJx4a65c_add_9ea2d : MethodName := ⟨RJx4a65c, "add", "(Ljava/lang/Object;)Z"⟩
def RJ7 : String := "java/util/Arrays"
def TJ7 : u_T := fun k => match k with
  | _ => ("", "", "", false)
def tyJ7 : Nat → FieldType := fun k => match k with
  | _ => .int
theorem nmJ7 : ∀ a, a < 0 → ∀ b, b < 0 → a ≠ b → (TJ7 a).2.1 ≠ (TJ7 b).2.1 := by decide +kernel
theorem tyJ7_ok : ∀ k, k < 0 → parseFieldDescriptor (TJ7 k).2.2.1 = some (tyJ7 k) := by decide +kernel
abbrev cJ7_copyOf_1904c : ByteArray := prog_29_method_119_code
def yJ7_copyOf_1904c : MethodName := ⟨RJ7, "copyOf", "([Ljava/lang/Object;I)[Ljava/lang/Object;"⟩
abbrev cJ7_copyOf_6403c : ByteArray := prog_29_method_120_code
def yJ7_copyOf_6403c : MethodName := ⟨RJ7, "copyOf", "([Ljava/lang/Object;ILjava/lang/Class;)[Ljava/lang/Object;"⟩
def RJx5ef63 : String := "java/util/Collection"
def TJx5ef63 : u_T := fun k => match k with
  | _ => ("", "", "", false)
def tyJx5ef63 : Nat → FieldType := fun k => match k with
  | _ => .int
theorem nmJx5ef63 : ∀ a, a < 0 → ∀ b, b < 0 → a ≠ b → (TJx5ef63 a).2.1 ≠ (TJx5ef63 b).2.1 := by decide +kernel
theorem tyJx5ef63_ok : ∀ k, k < 0 → parseFieldDescriptor (TJx5ef63 k).2.2.1 = some (tyJx5ef63 k) := by decide +kernel
def RJxbd725 : String := "java/util/List"
def TJxbd725 : u_T := fun k => match k with
  | _ => ("", "", "", false)
def tyJxbd725 : Nat → FieldType := fun k => match k with
  | _ => .int
theorem nmJxbd725 : ∀ a, a < 0 → ∀ b, b < 0 → a ≠ b → (TJxbd725 a).2.1 ≠ (TJxbd725 b).2.1 := by decide +kernel
theorem tyJxbd725_ok : ∀ k, k < 0 → parseFieldDescriptor (TJxbd725 k).2.2.1 = some (tyJxbd725 k) := by decide +kernel
def RJ15 : String := "java/util/Objects"
def TJ15 : u_T := fun k => match k with
  | _ => ("", "", "", false)
def tyJ15 : Nat → FieldType := fun k => match k with
  | _ => .int
theorem nmJ15 : ∀ a, a < 0 → ∀ b, b < 0 → a ≠ b → (TJ15 a).2.1 ≠ (TJ15 b).2.1 := by decide +kernel
theorem tyJ15_ok : ∀ k, k < 0 → parseFieldDescriptor (TJ15 k).2.2.1 = some (tyJ15 k) := by decide +kernel
abbrev cJ15_checkIndex_7cf53 : ByteArray := prog_32_method_17_code
def yJ15_checkIndex_7cf53 : MethodName := ⟨RJ15, "checkIndex", "(II)I"⟩
def RJxf0a74 : String := "java/util/RandomAccess"
def TJxf0a74 : u_T := fun k => match k with
  | _ => ("", "", "", false)
def tyJxf0a74 : Nat → FieldType := fun k => match k with
  | _ => .int
theorem nmJxf0a74 : ∀ a, a < 0 → ∀ b, b < 0 → a ≠ b → (TJxf0a74 a).2.1 ≠ (TJxf0a74 b).2.1 := by decide +kernel
theorem tyJxf0a74_ok : ∀ k, k < 0 → parseFieldDescriptor (TJxf0a74 k).2.2.1 = some (tyJxf0a74 k) := by decide +kernel
def RJxa66e6 : String := "java/util/SequencedCollection"
def TJxa66e6 : u_T := fun k => match k with
  | _ => ("", "", "", false)
def tyJxa66e6 : Nat → FieldType := fun k => match k with
  | _ => .int
theorem nmJxa66e6 : ∀ a, a < 0 → ∀ b, b < 0 → a ≠ b → (TJxa66e6 a).2.1 ≠ (TJxa66e6 b).2.1 := by decide +kernel
theorem tyJxa66e6_ok : ∀ k, k < 0 → parseFieldDescriptor (TJxa66e6 k).2.2.1 = some (tyJxa66e6 k) := by decide +kernel
def RJ8 : String := "jdk/internal/util/ArraysSupport"
def TJ8 : u_T := fun k => match k with
  | _ => ("", "", "", false)
def tyJ8 : Nat → FieldType := fun k => match k with
  | _ => .int
theorem nmJ8 : ∀ a, a < 0 → ∀ b, b < 0 → a ≠ b → (TJ8 a).2.1 ≠ (TJ8 b).2.1 := by decide +kernel
theorem tyJ8_ok : ∀ k, k < 0 → parseFieldDescriptor (TJ8 k).2.2.1 = some (tyJ8 k) := by decide +kernel
abbrev cJ8_newLength_cabcc : ByteArray := prog_35_method_27_code
def yJ8_newLength_cabcc : MethodName := ⟨RJ8, "newLength", "(III)I"⟩
abbrev cJ8_hugeLength_7cf53 : ByteArray := prog_35_method_28_code
def yJ8_hugeLength_7cf53 : MethodName := ⟨RJ8, "hugeLength", "(II)I"⟩
def RJ3 : String := "jdk/internal/util/Preconditions"
def TJ3 : u_T := fun k => match k with
  | _ => ("", "", "", false)
def tyJ3 : Nat → FieldType := fun k => match k with
  | _ => .int
theorem nmJ3 : ∀ a, a < 0 → ∀ b, b < 0 → a ≠ b → (TJ3 a).2.1 ≠ (TJ3 b).2.1 := by decide +kernel
theorem tyJ3_ok : ∀ k, k < 0 → parseFieldDescriptor (TJ3 k).2.2.1 = some (tyJ3 k) := by decide +kernel
abbrev cJ3_checkIndex_8e157 : ByteArray := prog_36_method_11_code
def yJ3_checkIndex_8e157 : MethodName := ⟨RJ3, "checkIndex", "(IILjava/util/function/BiFunction;)I"⟩
def RL : String := "LibraryVanLaw"
abbrev cL_addHalt : ByteArray := method_3_code
def yL_addHalt : MethodName := ⟨RL, "addHalt", "(LLibraryVan;[J)I"⟩
abbrev cL_addLane : ByteArray := method_4_code
def yL_addLane : MethodName := ⟨RL, "addLane", "(LLibraryVan;IIII[J)I"⟩
abbrev cL_setRain : ByteArray := method_5_code
def yL_setRain : MethodName := ⟨RL, "setRain", "(LLibraryVan;II[J)I"⟩
abbrev cL_setRound : ByteArray := method_6_code
def yL_setRound : MethodName := ⟨RL, "setRound", "(LLibraryVan;II[J)I"⟩
abbrev cL_halt : ByteArray := method_7_code
def yL_halt : MethodName := ⟨RL, "halt", "(LLibraryVan;II[J)I"⟩
abbrev cL_lane : ByteArray := method_8_code
def yL_lane : MethodName := ⟨RL, "lane", "(LLibraryVan;II[J)I"⟩
abbrev cL_way : ByteArray := method_9_code
def yL_way : MethodName := ⟨RL, "way", "(LLibraryVan;II[J)I"⟩
abbrev cL_addBook : ByteArray := method_10_code
def yL_addBook : MethodName := ⟨RL, "addBook", "(LLibraryVan;I[J)I"⟩
abbrev cL_addReader : ByteArray := method_11_code
def yL_addReader : MethodName := ⟨RL, "addReader", "(LLibraryVan;III[J)I"⟩
abbrev cL_reserve : ByteArray := method_12_code
def yL_reserve : MethodName := ⟨RL, "reserve", "(LLibraryVan;II[J)I"⟩
abbrev cL_cancel : ByteArray := method_13_code
def yL_cancel : MethodName := ⟨RL, "cancel", "(LLibraryVan;II[J)I"⟩
abbrev cL_book : ByteArray := method_14_code
def yL_book : MethodName := ⟨RL, "book", "(LLibraryVan;II[J)I"⟩
abbrev cL_reader : ByteArray := method_15_code
def yL_reader : MethodName := ⟨RL, "reader", "(LLibraryVan;II[J)I"⟩
abbrev cL_pay : ByteArray := method_16_code
def yL_pay : MethodName := ⟨RL, "pay", "(LLibraryVan;II[J)I"⟩
abbrev cL_pass : ByteArray := method_17_code
def yL_pass : MethodName := ⟨RL, "pass", "(LLibraryVan;I[J)I"⟩
abbrev cL_count : ByteArray := method_18_code
def yL_count : MethodName := ⟨RL, "count", "(LLibraryVan;I[J)I"⟩
abbrev cL_foresee : ByteArray := method_19_code
def yL_foresee : MethodName := ⟨RL, "foresee", "(LLibraryVan;II[J)I"⟩
abbrev cL_gets : ByteArray := method_20_code
def yL_gets : MethodName := ⟨RL, "gets", "(LLibraryVan;II[J)I"⟩
abbrev cL_advise : ByteArray := method_21_code
def yL_advise : MethodName := ⟨RL, "advise", "(LLibraryVan;I[J)I"⟩
abbrev cL_law : ByteArray := code
def yL_law : MethodName := ⟨RL, "law", "([I)Z"⟩
abbrev vwCl : List vw_C := [(RJx4a65c, TJx4a65c, 3), (RX0, TX0, 6), (RX1, TX1, 2), (RX2, TX2, 5), (RX3, TX3, 2), (RX4, TX4, 8), (RX5, TX5, 3), (RX6, TX6, 1), (RX7, TX7, 9), (RX8, TX8, 2), (RX9, TX9, 17), (RX10, TX10, 13)]
def lw_all : List Cond := lw_tbl.filter goodWord
theorem lw_mem {w : Cond} (h : w ∈ lw_tbl) (g : goodWord w = true) : w ∈ lw_all := List.mem_filter.mpr ⟨h, g⟩
theorem lw_all_tbl {w : Cond} (h : w ∈ lw_all) : w ∈ lw_tbl := (List.mem_filter.mp h).1
theorem lw_good : GoodIn lw_all lw_all := fun w h => ⟨h, good_of_word (List.mem_filter.mp h).2⟩
abbrev ws_ (y : MethodName) (cc : ByteArray) (n : Nat) (r : Option FieldType) : List Cond := Cond.code y cc n r :: lw_all
theorem lw_good_ws {y : MethodName} {cc : ByteArray} {n : Nat} {r : Option FieldType} (h : Cond.code y cc n r ∈ lw_all) : GoodIn lw_all (ws_ y cc n r) := fun w hw => (List.mem_cons.mp hw).elim (fun e => by rw [e]; exact lw_good _ h) (fun h => lw_good _ h)
