theorem wq_442 : Cond.static yJ9_max_7cf53 ∈ lw_all := lw_mem (List.mem_of_getElem? (i := 442) (by decide +kernel)) rfl
theorem wq_443 : Cond.code yJ9_max_7cf53 cJ9_max_7cf53 2 (Option.some Jvm.ClassFile.FieldType.int) ∈ lw_all := lw_mem (List.mem_of_getElem? (i := 443) (by decide +kernel)) rfl
theorem wq_444 : Cond.constant RJ8 200 2147483639 ∈ lw_all := lw_mem (List.mem_of_getElem? (i := 444) (by decide +kernel)) rfl
theorem wq_445 : Cond.methodLink RJ8 201 yJ8_hugeLength_7cf53 ∈ lw_all := lw_mem (List.mem_of_getElem? (i := 445) (by decide +kernel)) rfl
theorem wq_446 : Cond.static yJ8_hugeLength_7cf53 ∈ lw_all := lw_mem (List.mem_of_getElem? (i := 446) (by decide +kernel)) rfl
theorem wq_447 : Cond.code yJ8_hugeLength_7cf53 cJ8_hugeLength_7cf53 3 (Option.some Jvm.ClassFile.FieldType.int) ∈ lw_all := lw_mem (List.mem_of_getElem? (i := 447) (by decide +kernel)) rfl
theorem wq_448 : Cond.methodLink RJx4a65c 66 yJ7_copyOf_1904c ∈ lw_all := lw_mem (List.mem_of_getElem? (i := 448) (by decide +kernel)) rfl
theorem wq_449 : Cond.static yJ7_copyOf_1904c ∈ lw_all := lw_mem (List.mem_of_getElem? (i := 449) (by decide +kernel)) rfl
theorem wq_450 : Cond.code yJ7_copyOf_1904c cJ7_copyOf_1904c 2 (Option.some (Jvm.ClassFile.FieldType.array (Jvm.ClassFile.FieldType.object "java/lang/Object"))) ∈ lw_all := lw_mem (List.mem_of_getElem? (i := 450) (by decide +kernel)) rfl
theorem wq_451 : Cond.methodLink RJ7 86 (⟨"java/lang/Object", "getClass", "()Ljava/lang/Class;"⟩ : MethodName) ∈ lw_all := lw_mem (List.mem_of_getElem? (i := 451) (by decide +kernel)) rfl
theorem wq_452 : Cond.instanceMethod (⟨"java/lang/Object", "getClass", "()Ljava/lang/Class;"⟩ : MethodName) ∈ lw_all := lw_mem (List.mem_of_getElem? (i := 452) (by decide +kernel)) rfl
theorem wq_454 : Cond.selects RX8 (⟨"java/lang/Object", "getClass", "()Ljava/lang/Class;"⟩ : MethodName) (⟨"java/lang/Object", "getClass", "()Ljava/lang/Class;"⟩ : MethodName) ∈ lw_all := lw_mem (List.mem_of_getElem? (i := 454) (by decide +kernel)) rfl
theorem wq_455 : Cond.selects RX0 (⟨"java/lang/Object", "getClass", "()Ljava/lang/Class;"⟩ : MethodName) (⟨"java/lang/Object", "getClass", "()Ljava/lang/Class;"⟩ : MethodName) ∈ lw_all := lw_mem (List.mem_of_getElem? (i := 455) (by decide +kernel)) rfl
theorem wq_456 : Cond.selects RX1 (⟨"java/lang/Object", "getClass", "()Ljava/lang/Class;"⟩ : MethodName) (⟨"java/lang/Object", "getClass", "()Ljava/lang/Class;"⟩ : MethodName) ∈ lw_all := lw_mem (List.mem_of_getElem? (i := 456) (by decide +kernel)) rfl
theorem wq_457 : Cond.selects RX2 (⟨"java/lang/Object", "getClass", "()Ljava/lang/Class;"⟩ : MethodName) (⟨"java/lang/Object", "getClass", "()Ljava/lang/Class;"⟩ : MethodName) ∈ lw_all := lw_mem (List.mem_of_getElem? (i := 457) (by decide +kernel)) rfl
theorem wq_458 : Cond.selects RX3 (⟨"java/lang/Object", "getClass", "()Ljava/lang/Class;"⟩ : MethodName) (⟨"java/lang/Object", "getClass", "()Ljava/lang/Class;"⟩ : MethodName) ∈ lw_all := lw_mem (List.mem_of_getElem? (i := 458) (by decide +kernel)) rfl
theorem wq_459 : Cond.selects RX4 (⟨"java/lang/Object", "getClass", "()Ljava/lang/Class;"⟩ : MethodName) (⟨"java/lang/Object", "getClass", "()Ljava/lang/Class;"⟩ : MethodName) ∈ lw_all := lw_mem (List.mem_of_getElem? (i := 459) (by decide +kernel)) rfl
theorem wq_460 : Cond.selects RX5 (⟨"java/lang/Object", "getClass", "()Ljava/lang/Class;"⟩ : MethodName) (⟨"java/lang/Object", "getClass", "()Ljava/lang/Class;"⟩ : MethodName) ∈ lw_all := lw_mem (List.mem_of_getElem? (i := 460) (by decide +kernel)) rfl
theorem wq_461 : Cond.selects RX6 (⟨"java/lang/Object", "getClass", "()Ljava/lang/Class;"⟩ : MethodName) (⟨"java/lang/Object", "getClass", "()Ljava/lang/Class;"⟩ : MethodName) ∈ lw_all := lw_mem (List.mem_of_getElem? (i := 461) (by decide +kernel)) rfl
theorem wq_462 : Cond.selects RX7 (⟨"java/lang/Object", "getClass", "()Ljava/lang/Class;"⟩ : MethodName) (⟨"java/lang/Object", "getClass", "()Ljava/lang/Class;"⟩ : MethodName) ∈ lw_all := lw_mem (List.mem_of_getElem? (i := 462) (by decide +kernel)) rfl
theorem wq_463 : Cond.selects RX10 (⟨"java/lang/Object", "getClass", "()Ljava/lang/Class;"⟩ : MethodName) (⟨"java/lang/Object", "getClass", "()Ljava/lang/Class;"⟩ : MethodName) ∈ lw_all := lw_mem (List.mem_of_getElem? (i := 463) (by decide +kernel)) rfl
theorem wq_464 : Cond.selects RX9 (⟨"java/lang/Object", "getClass", "()Ljava/lang/Class;"⟩ : MethodName) (⟨"java/lang/Object", "getClass", "()Ljava/lang/Class;"⟩ : MethodName) ∈ lw_all := lw_mem (List.mem_of_getElem? (i := 464) (by decide +kernel)) rfl
theorem wq_465 : Cond.selects "java/lang/IllegalArgumentException" (⟨"java/lang/Object", "getClass", "()Ljava/lang/Class;"⟩ : MethodName) (⟨"java/lang/Object", "getClass", "()Ljava/lang/Class;"⟩ : MethodName) ∈ lw_all := lw_mem (List.mem_of_getElem? (i := 465) (by decide +kernel)) rfl
theorem wq_466 : Cond.selects "java/lang/IllegalStateException" (⟨"java/lang/Object", "getClass", "()Ljava/lang/Class;"⟩ : MethodName) (⟨"java/lang/Object", "getClass", "()Ljava/lang/Class;"⟩ : MethodName) ∈ lw_all := lw_mem (List.mem_of_getElem? (i := 466) (by decide +kernel)) rfl
theorem wq_467 : Cond.selects "java/lang/IndexOutOfBoundsException" (⟨"java/lang/Object", "getClass", "()Ljava/lang/Class;"⟩ : MethodName) (⟨"java/lang/Object", "getClass", "()Ljava/lang/Class;"⟩ : MethodName) ∈ lw_all := lw_mem (List.mem_of_getElem? (i := 467) (by decide +kernel)) rfl
theorem wq_468 : Cond.selects RJx4a65c (⟨"java/lang/Object", "getClass", "()Ljava/lang/Class;"⟩ : MethodName) (⟨"java/lang/Object", "getClass", "()Ljava/lang/Class;"⟩ : MethodName) ∈ lw_all := lw_mem (List.mem_of_getElem? (i := 468) (by decide +kernel)) rfl
theorem wq_469 : Cond.native (⟨"java/lang/Object", "getClass", "()Ljava/lang/Class;"⟩ : MethodName) ∈ lw_all := lw_mem (List.mem_of_getElem? (i := 469) (by decide +kernel)) rfl
theorem wq_470 : Cond.methodLink RJ7 300 yJ7_copyOf_6403c ∈ lw_all := lw_mem (List.mem_of_getElem? (i := 470) (by decide +kernel)) rfl
theorem wq_471 : Cond.static yJ7_copyOf_6403c ∈ lw_all := lw_mem (List.mem_of_getElem? (i := 471) (by decide +kernel)) rfl
theorem wq_472 : Cond.code yJ7_copyOf_6403c cJ7_copyOf_6403c 4 (Option.some (Jvm.ClassFile.FieldType.array (Jvm.ClassFile.FieldType.object "java/lang/Object"))) ∈ lw_all := lw_mem (List.mem_of_getElem? (i := 472) (by decide +kernel)) rfl
theorem wq_473 : Cond.classLink RJ7 110 "[Ljava/lang/Object;" ∈ lw_all := lw_mem (List.mem_of_getElem? (i := 473) (by decide +kernel)) rfl
theorem wq_474 : Cond.arrayOver (Jvm.ClassFile.FieldType.object "java/lang/Object") ∈ lw_tbl := List.mem_of_getElem? (i := 474) (by decide +kernel)
theorem wq_475 : Cond.classLink RJ7 2 "java/lang/Object" ∈ lw_all := lw_mem (List.mem_of_getElem? (i := 475) (by decide +kernel)) rfl
theorem wq_476 : Cond.methodLink RJ7 304 yJ9_min_7cf53 ∈ lw_all := lw_mem (List.mem_of_getElem? (i := 476) (by decide +kernel)) rfl
theorem wq_477 : Cond.static yJ9_min_7cf53 ∈ lw_all := lw_mem (List.mem_of_getElem? (i := 477) (by decide +kernel)) rfl
theorem wq_478 : Cond.code yJ9_min_7cf53 cJ9_min_7cf53 2 (Option.some Jvm.ClassFile.FieldType.int) ∈ lw_all := lw_mem (List.mem_of_getElem? (i := 478) (by decide +kernel)) rfl
theorem wq_479 : Cond.methodLink RJ7 150 (⟨"java/lang/System", "arraycopy", "(Ljava/lang/Object;ILjava/lang/Object;II)V"⟩ : MethodName) ∈ lw_all := lw_mem (List.mem_of_getElem? (i := 479) (by decide +kernel)) rfl
theorem wq_480 : Cond.static (⟨"java/lang/System", "arraycopy", "(Ljava/lang/Object;ILjava/lang/Object;II)V"⟩ : MethodName) ∈ lw_all := lw_mem (List.mem_of_getElem? (i := 480) (by decide +kernel)) rfl
theorem wq_481 : Cond.native (⟨"java/lang/System", "arraycopy", "(Ljava/lang/Object;ILjava/lang/Object;II)V"⟩ : MethodName) ∈ lw_all := lw_mem (List.mem_of_getElem? (i := 481) (by decide +kernel)) rfl
theorem wq_482 : Cond.methodLink RJx4a65c 79 yJ9_max_7cf53 ∈ lw_all := lw_mem (List.mem_of_getElem? (i := 482) (by decide +kernel)) rfl
theorem wq_483 : Cond.classLink RJx4a65c 7 "java/lang/Object" ∈ lw_all := lw_mem (List.mem_of_getElem? (i := 483) (by decide +kernel)) rfl
theorem wq_484 : Cond.methodLink RL 90 yL_addLane ∈ lw_all := lw_mem (List.mem_of_getElem? (i := 484) (by decide +kernel)) rfl
theorem wq_485 : Cond.static yL_addLane ∈ lw_all := lw_mem (List.mem_of_getElem? (i := 485) (by decide +kernel)) rfl
theorem wq_486 : Cond.codeWith yL_addLane method_4_code 7 (Option.some Jvm.ClassFile.FieldType.int) [((0 : Nat), (14 : Nat), (17 : Nat), (19 : Nat)), ((0 : Nat), (14 : Nat), (21 : Nat), (21 : Nat)), ((0 : Nat), (14 : Nat), (25 : Nat), (13 : Nat))] ∈ lw_all := lw_mem (List.mem_of_getElem? (i := 486) (by decide +kernel)) rfl
theorem wq_487 : Cond.classLink RL 19 "java/lang/IndexOutOfBoundsException" ∈ lw_all := lw_mem (List.mem_of_getElem? (i := 487) (by decide +kernel)) rfl
theorem wq_488 : Cond.classLink RL 21 "java/lang/IllegalArgumentException" ∈ lw_all := lw_mem (List.mem_of_getElem? (i := 488) (by decide +kernel)) rfl
theorem wq_489 : Cond.methodLink RL 15 yX8_addLane ∈ lw_all := lw_mem (List.mem_of_getElem? (i := 489) (by decide +kernel)) rfl
theorem wq_490 : Cond.instanceMethod yX8_addLane ∈ lw_all := lw_mem (List.mem_of_getElem? (i := 490) (by decide +kernel)) rfl
theorem wq_491 : Cond.selects RX8 yX8_addLane yX8_addLane ∈ lw_all := lw_mem (List.mem_of_getElem? (i := 491) (by decide +kernel)) rfl
theorem wq_492 : Cond.code yX8_addLane cX8_addLane 6 (Option.some Jvm.ClassFile.FieldType.int) ∈ lw_all := lw_mem (List.mem_of_getElem? (i := 492) (by decide +kernel)) rfl
theorem wq_493 : Cond.methodLink RX8 43 yX8_needHalt ∈ lw_all := lw_mem (List.mem_of_getElem? (i := 493) (by decide +kernel)) rfl
theorem wq_495 : Cond.instanceMethod yX8_needHalt ∈ lw_all := lw_mem (List.mem_of_getElem? (i := 495) (by decide +kernel)) rfl
theorem wq_496 : Cond.code yX8_needHalt cX8_needHalt 2 (Option.none : Option Jvm.ClassFile.FieldType) ∈ lw_all := lw_mem (List.mem_of_getElem? (i := 496) (by decide +kernel)) rfl
theorem wq_497 : Cond.methodLink RX8 70 yX8_needKind ∈ lw_all := lw_mem (List.mem_of_getElem? (i := 497) (by decide +kernel)) rfl
theorem wq_498 : Cond.static yX8_needKind ∈ lw_all := lw_mem (List.mem_of_getElem? (i := 498) (by decide +kernel)) rfl
theorem wq_499 : Cond.code yX8_needKind cX8_needKind 2 (Option.none : Option Jvm.ClassFile.FieldType) ∈ lw_all := lw_mem (List.mem_of_getElem? (i := 499) (by decide +kernel)) rfl
theorem wq_500 : Cond.classLink RX8 225 "java/lang/IndexOutOfBoundsException" ∈ lw_all := lw_mem (List.mem_of_getElem? (i := 500) (by decide +kernel)) rfl
theorem wq_501 : Cond.instantiable "java/lang/IndexOutOfBoundsException" 6 ∈ lw_all := lw_mem (List.mem_of_getElem? (i := 501) (by decide +kernel)) rfl
theorem wq_502 : Cond.castable "java/lang/IndexOutOfBoundsException" "java/lang/IndexOutOfBoundsException" ∈ lw_tbl := List.mem_of_getElem? (i := 502) (by decide +kernel)
theorem wq_503 : Cond.selects "java/lang/IndexOutOfBoundsException" (⟨"java/lang/Throwable", "fillInStackTrace", "(I)Ljava/lang/Throwable;"⟩ : MethodName) (⟨"java/lang/Throwable", "fillInStackTrace", "(I)Ljava/lang/Throwable;"⟩ : MethodName) ∈ lw_all := lw_mem (List.mem_of_getElem? (i := 503) (by decide +kernel)) rfl
theorem wq_504 : Cond.lays "java/lang/IndexOutOfBoundsException" "java/lang/Throwable" "cause" "Ljava/lang/Throwable;" ∈ lw_all := lw_mem (List.mem_of_getElem? (i := 504) (by decide +kernel)) rfl
theorem wq_505 : Cond.lays "java/lang/IndexOutOfBoundsException" "java/lang/Throwable" "stackTrace" "[Ljava/lang/StackTraceElement;" ∈ lw_all := lw_mem (List.mem_of_getElem? (i := 505) (by decide +kernel)) rfl
theorem wq_506 : Cond.lays "java/lang/IndexOutOfBoundsException" "java/lang/Throwable" "suppressedExceptions" "Ljava/util/List;" ∈ lw_all := lw_mem (List.mem_of_getElem? (i := 506) (by decide +kernel)) rfl
theorem wq_507 : Cond.lays "java/lang/IndexOutOfBoundsException" "java/lang/Throwable" "detailMessage" "Ljava/lang/String;" ∈ lw_all := lw_mem (List.mem_of_getElem? (i := 507) (by decide +kernel)) rfl
theorem wq_508 : Cond.lays "java/lang/IndexOutOfBoundsException" "java/lang/Throwable" "backtrace" "Ljava/lang/Object;" ∈ lw_all := lw_mem (List.mem_of_getElem? (i := 508) (by decide +kernel)) rfl
theorem wq_510 : Cond.methodLink RX8 229 (⟨"java/lang/IndexOutOfBoundsException", "<init>", "(Ljava/lang/String;)V"⟩ : MethodName) ∈ lw_all := lw_mem (List.mem_of_getElem? (i := 510) (by decide +kernel)) rfl
theorem wq_511 : Cond.instanceMethod (⟨"java/lang/IndexOutOfBoundsException", "<init>", "(Ljava/lang/String;)V"⟩ : MethodName) ∈ lw_all := lw_mem (List.mem_of_getElem? (i := 511) (by decide +kernel)) rfl
theorem wq_512 : Cond.code (⟨"java/lang/IndexOutOfBoundsException", "<init>", "(Ljava/lang/String;)V"⟩ : MethodName) prog_18_method_2_code 2 (Option.none : Option Jvm.ClassFile.FieldType) ∈ lw_all := lw_mem (List.mem_of_getElem? (i := 512) (by decide +kernel)) rfl
theorem wq_513 : Cond.methodLink "java/lang/IndexOutOfBoundsException" 7 (⟨"java/lang/RuntimeException", "<init>", "(Ljava/lang/String;)V"⟩ : MethodName) ∈ lw_all := lw_mem (List.mem_of_getElem? (i := 513) (by decide +kernel)) rfl
theorem wq_514 : Cond.lays "java/lang/IndexOutOfBoundsException" "java/lang/Throwable" "depth" "I" ∈ lw_all := lw_mem (List.mem_of_getElem? (i := 514) (by decide +kernel)) rfl
theorem wq_516 : Cond.classLink RX8 47 "java/lang/IllegalArgumentException" ∈ lw_all := lw_mem (List.mem_of_getElem? (i := 516) (by decide +kernel)) rfl
theorem wq_517 : Cond.instantiable "java/lang/IllegalArgumentException" 6 ∈ lw_all := lw_mem (List.mem_of_getElem? (i := 517) (by decide +kernel)) rfl
theorem wq_518 : Cond.castable "java/lang/IllegalArgumentException" "java/lang/IllegalArgumentException" ∈ lw_tbl := List.mem_of_getElem? (i := 518) (by decide +kernel)
theorem wq_519 : Cond.selects "java/lang/IllegalArgumentException" (⟨"java/lang/Throwable", "fillInStackTrace", "(I)Ljava/lang/Throwable;"⟩ : MethodName) (⟨"java/lang/Throwable", "fillInStackTrace", "(I)Ljava/lang/Throwable;"⟩ : MethodName) ∈ lw_all := lw_mem (List.mem_of_getElem? (i := 519) (by decide +kernel)) rfl
theorem wq_520 : Cond.lays "java/lang/IllegalArgumentException" "java/lang/Throwable" "cause" "Ljava/lang/Throwable;" ∈ lw_all := lw_mem (List.mem_of_getElem? (i := 520) (by decide +kernel)) rfl
theorem wq_521 : Cond.lays "java/lang/IllegalArgumentException" "java/lang/Throwable" "stackTrace" "[Ljava/lang/StackTraceElement;" ∈ lw_all := lw_mem (List.mem_of_getElem? (i := 521) (by decide +kernel)) rfl
theorem wq_522 : Cond.lays "java/lang/IllegalArgumentException" "java/lang/Throwable" "suppressedExceptions" "Ljava/util/List;" ∈ lw_all := lw_mem (List.mem_of_getElem? (i := 522) (by decide +kernel)) rfl
theorem wq_523 : Cond.lays "java/lang/IllegalArgumentException" "java/lang/Throwable" "detailMessage" "Ljava/lang/String;" ∈ lw_all := lw_mem (List.mem_of_getElem? (i := 523) (by decide +kernel)) rfl
theorem wq_524 : Cond.lays "java/lang/IllegalArgumentException" "java/lang/Throwable" "backtrace" "Ljava/lang/Object;" ∈ lw_all := lw_mem (List.mem_of_getElem? (i := 524) (by decide +kernel)) rfl
theorem wq_526 : Cond.methodLink RX8 51 (⟨"java/lang/IllegalArgumentException", "<init>", "(Ljava/lang/String;)V"⟩ : MethodName) ∈ lw_all := lw_mem (List.mem_of_getElem? (i := 526) (by decide +kernel)) rfl
theorem wq_527 : Cond.instanceMethod (⟨"java/lang/IllegalArgumentException", "<init>", "(Ljava/lang/String;)V"⟩ : MethodName) ∈ lw_all := lw_mem (List.mem_of_getElem? (i := 527) (by decide +kernel)) rfl
theorem wq_528 : Cond.code (⟨"java/lang/IllegalArgumentException", "<init>", "(Ljava/lang/String;)V"⟩ : MethodName) prog_16_method_2_code 2 (Option.none : Option Jvm.ClassFile.FieldType) ∈ lw_all := lw_mem (List.mem_of_getElem? (i := 528) (by decide +kernel)) rfl
theorem wq_529 : Cond.methodLink "java/lang/IllegalArgumentException" 7 (⟨"java/lang/RuntimeException", "<init>", "(Ljava/lang/String;)V"⟩ : MethodName) ∈ lw_all := lw_mem (List.mem_of_getElem? (i := 529) (by decide +kernel)) rfl
theorem wq_530 : Cond.lays "java/lang/IllegalArgumentException" "java/lang/Throwable" "depth" "I" ∈ lw_all := lw_mem (List.mem_of_getElem? (i := 530) (by decide +kernel)) rfl
theorem wq_532 : Cond.methodLink RX8 52 yX8_isWithin ∈ lw_all := lw_mem (List.mem_of_getElem? (i := 532) (by decide +kernel)) rfl
theorem wq_533 : Cond.static yX8_isWithin ∈ lw_all := lw_mem (List.mem_of_getElem? (i := 533) (by decide +kernel)) rfl
theorem wq_534 : Cond.code yX8_isWithin cX8_isWithin 3 (Option.some Jvm.ClassFile.FieldType.boolean) ∈ lw_all := lw_mem (List.mem_of_getElem? (i := 534) (by decide +kernel)) rfl
theorem wq_538 : Cond.classLink RX8 65 "LibraryVan$Lane" ∈ lw_all := lw_mem (List.mem_of_getElem? (i := 538) (by decide +kernel)) rfl
theorem wq_539 : Cond.instantiable RX2 5 ∈ lw_all := lw_mem (List.mem_of_getElem? (i := 539) (by decide +kernel)) rfl
theorem wq_540 : Cond.methodLink RX8 67 yX2_init ∈ lw_all := lw_mem (List.mem_of_getElem? (i := 540) (by decide +kernel)) rfl
theorem wq_541 : Cond.instanceMethod yX2_init ∈ lw_all := lw_mem (List.mem_of_getElem? (i := 541) (by decide +kernel)) rfl
theorem wq_542 : Cond.code yX2_init cX2_init 5 (Option.none : Option Jvm.ClassFile.FieldType) ∈ lw_all := lw_mem (List.mem_of_getElem? (i := 542) (by decide +kernel)) rfl
theorem wq_543 : Cond.methodLink RX2 3 (⟨"java/lang/Object", "<init>", "()V"⟩ : MethodName) ∈ lw_all := lw_mem (List.mem_of_getElem? (i := 543) (by decide +kernel)) rfl
theorem wq_544 : Cond.fieldLink RX2 9 "LibraryVan$Lane" "a" "I" ∈ lw_all := lw_mem (List.mem_of_getElem? (i := 544) (by decide +kernel)) rfl
theorem wq_545 : Cond.fieldLinkNest RX6 32 "LibraryVan$Lane" "a" "I" "LibraryVan" ∈ lw_tbl := List.mem_of_getElem? (i := 545) (by decide +kernel)
theorem wq_546 : Cond.fieldLinkNest RX7 207 "LibraryVan$Lane" "a" "I" "LibraryVan" ∈ lw_tbl := List.mem_of_getElem? (i := 546) (by decide +kernel)
theorem wq_547 : Cond.fieldLink RX2 15 "LibraryVan$Lane" "b" "I" ∈ lw_all := lw_mem (List.mem_of_getElem? (i := 547) (by decide +kernel)) rfl
theorem wq_548 : Cond.fieldLinkNest RX6 36 "LibraryVan$Lane" "b" "I" "LibraryVan" ∈ lw_tbl := List.mem_of_getElem? (i := 548) (by decide +kernel)
theorem wq_549 : Cond.fieldLinkNest RX7 210 "LibraryVan$Lane" "b" "I" "LibraryVan" ∈ lw_tbl := List.mem_of_getElem? (i := 549) (by decide +kernel)
theorem wq_550 : Cond.fieldLink RX2 18 "LibraryVan$Lane" "length" "I" ∈ lw_all := lw_mem (List.mem_of_getElem? (i := 550) (by decide +kernel)) rfl
theorem wq_551 : Cond.fieldLinkNest RX7 213 "LibraryVan$Lane" "length" "I" "LibraryVan" ∈ lw_tbl := List.mem_of_getElem? (i := 551) (by decide +kernel)
theorem wq_552 : Cond.fieldLink RX2 21 "LibraryVan$Lane" "clay" "I" ∈ lw_all := lw_mem (List.mem_of_getElem? (i := 552) (by decide +kernel)) rfl
theorem wq_553 : Cond.fieldLinkNest RX7 216 "LibraryVan$Lane" "clay" "I" "LibraryVan" ∈ lw_tbl := List.mem_of_getElem? (i := 553) (by decide +kernel)
theorem wq_554 : Cond.fieldLink RX2 24 "LibraryVan$Lane" "mud" "I" ∈ lw_all := lw_mem (List.mem_of_getElem? (i := 554) (by decide +kernel)) rfl
theorem wq_555 : Cond.fieldLinkNest RX7 219 "LibraryVan$Lane" "mud" "I" "LibraryVan" ∈ lw_tbl := List.mem_of_getElem? (i := 555) (by decide +kernel)
theorem wq_556 : Cond.laysFinal RX2 "LibraryVan$Lane" "a" "I" ∈ lw_all := lw_mem (List.mem_of_getElem? (i := 556) (by decide +kernel)) rfl
theorem wq_558 : Cond.laysFinal RX2 "LibraryVan$Lane" "b" "I" ∈ lw_all := lw_mem (List.mem_of_getElem? (i := 558) (by decide +kernel)) rfl
theorem wq_560 : Cond.laysFinal RX2 "LibraryVan$Lane" "length" "I" ∈ lw_all := lw_mem (List.mem_of_getElem? (i := 560) (by decide +kernel)) rfl
theorem wq_562 : Cond.laysFinal RX2 "LibraryVan$Lane" "clay" "I" ∈ lw_all := lw_mem (List.mem_of_getElem? (i := 562) (by decide +kernel)) rfl
theorem wq_564 : Cond.lays RX2 "LibraryVan$Lane" "mud" "I" ∈ lw_all := lw_mem (List.mem_of_getElem? (i := 564) (by decide +kernel)) rfl
theorem wq_567 : Cond.methodLink RL 94 yL_setRain ∈ lw_all := lw_mem (List.mem_of_getElem? (i := 567) (by decide +kernel)) rfl
theorem wq_568 : Cond.static yL_setRain ∈ lw_all := lw_mem (List.mem_of_getElem? (i := 568) (by decide +kernel)) rfl
theorem wq_569 : Cond.codeWith yL_setRain method_5_code 5 (Option.some Jvm.ClassFile.FieldType.int) [((0 : Nat), (10 : Nat), (13 : Nat), (19 : Nat)), ((0 : Nat), (10 : Nat), (17 : Nat), (21 : Nat))] ∈ lw_all := lw_mem (List.mem_of_getElem? (i := 569) (by decide +kernel)) rfl
theorem wq_570 : Cond.methodLink RL 23 yX8_setRain ∈ lw_all := lw_mem (List.mem_of_getElem? (i := 570) (by decide +kernel)) rfl
theorem wq_571 : Cond.instanceMethod yX8_setRain ∈ lw_all := lw_mem (List.mem_of_getElem? (i := 571) (by decide +kernel)) rfl
theorem wq_572 : Cond.selects RX8 yX8_setRain yX8_setRain ∈ lw_all := lw_mem (List.mem_of_getElem? (i := 572) (by decide +kernel)) rfl
theorem wq_573 : Cond.code yX8_setRain cX8_setRain 3 (Option.some Jvm.ClassFile.FieldType.int) ∈ lw_all := lw_mem (List.mem_of_getElem? (i := 573) (by decide +kernel)) rfl
theorem wq_575 : Cond.methodLink RX8 76 yX7_changeRain ∈ lw_all := lw_mem (List.mem_of_getElem? (i := 575) (by decide +kernel)) rfl
theorem wq_576 : Cond.instanceMethod yX7_changeRain ∈ lw_all := lw_mem (List.mem_of_getElem? (i := 576) (by decide +kernel)) rfl
theorem wq_577 : Cond.selects RX7 yX7_changeRain yX7_changeRain ∈ lw_all := lw_mem (List.mem_of_getElem? (i := 577) (by decide +kernel)) rfl
theorem wq_578 : Cond.code yX7_changeRain cX7_changeRain 4 (Option.some Jvm.ClassFile.FieldType.int) ∈ lw_all := lw_mem (List.mem_of_getElem? (i := 578) (by decide +kernel)) rfl
theorem wq_579 : Cond.methodLink RL 98 yL_setRound ∈ lw_all := lw_mem (List.mem_of_getElem? (i := 579) (by decide +kernel)) rfl
theorem wq_580 : Cond.static yL_setRound ∈ lw_all := lw_mem (List.mem_of_getElem? (i := 580) (by decide +kernel)) rfl
theorem wq_581 : Cond.codeWith yL_setRound method_6_code 5 (Option.some Jvm.ClassFile.FieldType.int) [((0 : Nat), (10 : Nat), (13 : Nat), (21 : Nat))] ∈ lw_all := lw_mem (List.mem_of_getElem? (i := 581) (by decide +kernel)) rfl
theorem wq_582 : Cond.methodLink RL 27 yX8_setRound ∈ lw_all := lw_mem (List.mem_of_getElem? (i := 582) (by decide +kernel)) rfl
theorem wq_583 : Cond.instanceMethod yX8_setRound ∈ lw_all := lw_mem (List.mem_of_getElem? (i := 583) (by decide +kernel)) rfl
theorem wq_584 : Cond.selects RX8 yX8_setRound yX8_setRound ∈ lw_all := lw_mem (List.mem_of_getElem? (i := 584) (by decide +kernel)) rfl
theorem wq_585 : Cond.code yX8_setRound cX8_setRound 3 (Option.some Jvm.ClassFile.FieldType.int) ∈ lw_all := lw_mem (List.mem_of_getElem? (i := 585) (by decide +kernel)) rfl
theorem wq_586 : Cond.constant RX8 80 99999999 ∈ lw_all := lw_mem (List.mem_of_getElem? (i := 586) (by decide +kernel)) rfl
theorem wq_588 : Cond.methodLink RX8 83 yX8_standsForHalts ∈ lw_all := lw_mem (List.mem_of_getElem? (i := 588) (by decide +kernel)) rfl
theorem wq_589 : Cond.static yX8_standsForHalts ∈ lw_all := lw_mem (List.mem_of_getElem? (i := 589) (by decide +kernel)) rfl
theorem wq_590 : Cond.code yX8_standsForHalts cX8_standsForHalts 3 (Option.some Jvm.ClassFile.FieldType.boolean) ∈ lw_all := lw_mem (List.mem_of_getElem? (i := 590) (by decide +kernel)) rfl
theorem wq_593 : Cond.methodLink RX8 95 yX5_tellAnew ∈ lw_all := lw_mem (List.mem_of_getElem? (i := 593) (by decide +kernel)) rfl
theorem wq_594 : Cond.instanceMethod yX5_tellAnew ∈ lw_all := lw_mem (List.mem_of_getElem? (i := 594) (by decide +kernel)) rfl
theorem wq_595 : Cond.selects RX5 yX5_tellAnew yX5_tellAnew ∈ lw_all := lw_mem (List.mem_of_getElem? (i := 595) (by decide +kernel)) rfl
theorem wq_596 : Cond.code yX5_tellAnew cX5_tellAnew 5 (Option.none : Option Jvm.ClassFile.FieldType) ∈ lw_all := lw_mem (List.mem_of_getElem? (i := 596) (by decide +kernel)) rfl
theorem wq_597 : Cond.constant RX5 22 10000000 ∈ lw_all := lw_mem (List.mem_of_getElem? (i := 597) (by decide +kernel)) rfl
theorem wq_598 : Cond.methodLink RX5 23 yX5_append ∈ lw_all := lw_mem (List.mem_of_getElem? (i := 598) (by decide +kernel)) rfl
theorem wq_599 : Cond.instanceMethod yX5_append ∈ lw_all := lw_mem (List.mem_of_getElem? (i := 599) (by decide +kernel)) rfl
theorem wq_600 : Cond.selects RX5 yX5_append yX5_append ∈ lw_all := lw_mem (List.mem_of_getElem? (i := 600) (by decide +kernel)) rfl
theorem wq_601 : Cond.code yX5_append cX5_append 2 (Option.none : Option Jvm.ClassFile.FieldType) ∈ lw_all := lw_mem (List.mem_of_getElem? (i := 601) (by decide +kernel)) rfl
theorem wq_602 : Cond.methodLink RX8 100 yX5_size ∈ lw_all := lw_mem (List.mem_of_getElem? (i := 602) (by decide +kernel)) rfl
theorem wq_603 : Cond.methodLink RL 101 yL_halt ∈ lw_all := lw_mem (List.mem_of_getElem? (i := 603) (by decide +kernel)) rfl
theorem wq_604 : Cond.static yL_halt ∈ lw_all := lw_mem (List.mem_of_getElem? (i := 604) (by decide +kernel)) rfl
theorem wq_605 : Cond.codeWith yL_halt method_7_code 5 (Option.some Jvm.ClassFile.FieldType.int) [((0 : Nat), (10 : Nat), (13 : Nat), (19 : Nat))] ∈ lw_all := lw_mem (List.mem_of_getElem? (i := 605) (by decide +kernel)) rfl
theorem wq_606 : Cond.methodLink RL 30 yX8_halt ∈ lw_all := lw_mem (List.mem_of_getElem? (i := 606) (by decide +kernel)) rfl
theorem wq_607 : Cond.instanceMethod yX8_halt ∈ lw_all := lw_mem (List.mem_of_getElem? (i := 607) (by decide +kernel)) rfl
theorem wq_608 : Cond.selects RX8 yX8_halt yX8_halt ∈ lw_all := lw_mem (List.mem_of_getElem? (i := 608) (by decide +kernel)) rfl
theorem wq_609 : Cond.code yX8_halt cX8_halt 3 (Option.some Jvm.ClassFile.FieldType.int) ∈ lw_all := lw_mem (List.mem_of_getElem? (i := 609) (by decide +kernel)) rfl
theorem wq_610 : Cond.methodLink RX8 101 yX7_haltAnswer ∈ lw_all := lw_mem (List.mem_of_getElem? (i := 610) (by decide +kernel)) rfl
theorem wq_611 : Cond.methodLink RL 104 yL_lane ∈ lw_all := lw_mem (List.mem_of_getElem? (i := 611) (by decide +kernel)) rfl
theorem wq_612 : Cond.static yL_lane ∈ lw_all := lw_mem (List.mem_of_getElem? (i := 612) (by decide +kernel)) rfl
theorem wq_613 : Cond.codeWith yL_lane method_8_code 5 (Option.some Jvm.ClassFile.FieldType.int) [((0 : Nat), (10 : Nat), (13 : Nat), (19 : Nat))] ∈ lw_all := lw_mem (List.mem_of_getElem? (i := 613) (by decide +kernel)) rfl
theorem wq_614 : Cond.methodLink RL 33 yX8_lane ∈ lw_all := lw_mem (List.mem_of_getElem? (i := 614) (by decide +kernel)) rfl
theorem wq_615 : Cond.instanceMethod yX8_lane ∈ lw_all := lw_mem (List.mem_of_getElem? (i := 615) (by decide +kernel)) rfl
theorem wq_616 : Cond.selects RX8 yX8_lane yX8_lane ∈ lw_all := lw_mem (List.mem_of_getElem? (i := 616) (by decide +kernel)) rfl
theorem wq_617 : Cond.code yX8_lane cX8_lane 3 (Option.some Jvm.ClassFile.FieldType.int) ∈ lw_all := lw_mem (List.mem_of_getElem? (i := 617) (by decide +kernel)) rfl
theorem wq_618 : Cond.methodLink RX8 104 yX7_laneAnswer ∈ lw_all := lw_mem (List.mem_of_getElem? (i := 618) (by decide +kernel)) rfl
theorem wq_619 : Cond.methodLink RL 107 yL_way ∈ lw_all := lw_mem (List.mem_of_getElem? (i := 619) (by decide +kernel)) rfl
theorem wq_620 : Cond.static yL_way ∈ lw_all := lw_mem (List.mem_of_getElem? (i := 620) (by decide +kernel)) rfl
theorem wq_621 : Cond.codeWith yL_way method_9_code 5 (Option.some Jvm.ClassFile.FieldType.int) [((0 : Nat), (10 : Nat), (13 : Nat), (19 : Nat))] ∈ lw_all := lw_mem (List.mem_of_getElem? (i := 621) (by decide +kernel)) rfl
theorem wq_622 : Cond.methodLink RL 36 yX8_way ∈ lw_all := lw_mem (List.mem_of_getElem? (i := 622) (by decide +kernel)) rfl
theorem wq_623 : Cond.instanceMethod yX8_way ∈ lw_all := lw_mem (List.mem_of_getElem? (i := 623) (by decide +kernel)) rfl
theorem wq_624 : Cond.selects RX8 yX8_way yX8_way ∈ lw_all := lw_mem (List.mem_of_getElem? (i := 624) (by decide +kernel)) rfl
theorem wq_625 : Cond.code yX8_way cX8_way 3 (Option.some Jvm.ClassFile.FieldType.int) ∈ lw_all := lw_mem (List.mem_of_getElem? (i := 625) (by decide +kernel)) rfl
theorem wq_626 : Cond.methodLink RX8 107 yX7_minutesOfWay ∈ lw_all := lw_mem (List.mem_of_getElem? (i := 626) (by decide +kernel)) rfl
theorem wq_627 : Cond.instanceMethod yX7_minutesOfWay ∈ lw_all := lw_mem (List.mem_of_getElem? (i := 627) (by decide +kernel)) rfl
theorem wq_628 : Cond.selects RX7 yX7_minutesOfWay yX7_minutesOfWay ∈ lw_all := lw_mem (List.mem_of_getElem? (i := 628) (by decide +kernel)) rfl
theorem wq_629 : Cond.code yX7_minutesOfWay cX7_minutesOfWay 4 (Option.some Jvm.ClassFile.FieldType.int) ∈ lw_all := lw_mem (List.mem_of_getElem? (i := 629) (by decide +kernel)) rfl
theorem wq_630 : Cond.methodLink RX7 49 yX6_measure ∈ lw_all := lw_mem (List.mem_of_getElem? (i := 630) (by decide +kernel)) rfl
theorem wq_631 : Cond.instanceMethod yX6_measure ∈ lw_all := lw_mem (List.mem_of_getElem? (i := 631) (by decide +kernel)) rfl
theorem wq_632 : Cond.selects RX6 yX6_measure yX6_measure ∈ lw_all := lw_mem (List.mem_of_getElem? (i := 632) (by decide +kernel)) rfl
theorem wq_633 : Cond.code yX6_measure cX6_measure 7 (Option.none : Option Jvm.ClassFile.FieldType) ∈ lw_all := lw_mem (List.mem_of_getElem? (i := 633) (by decide +kernel)) rfl
theorem wq_634 : Cond.constant RX6 15 1000000 ∈ lw_all := lw_mem (List.mem_of_getElem? (i := 634) (by decide +kernel)) rfl
theorem wq_635 : Cond.methodLink RX6 16 yJx4a65c_size_8abf5 ∈ lw_all := lw_mem (List.mem_of_getElem? (i := 635) (by decide +kernel)) rfl
theorem wq_636 : Cond.methodLink RX6 22 yJx4a65c_get_915e3 ∈ lw_all := lw_mem (List.mem_of_getElem? (i := 636) (by decide +kernel)) rfl
theorem wq_637 : Cond.classLink RX6 26 "LibraryVan$Lane" ∈ lw_all := lw_mem (List.mem_of_getElem? (i := 637) (by decide +kernel)) rfl
theorem wq_638 : Cond.methodLink RX6 28 yX2_isUsable ∈ lw_all := lw_mem (List.mem_of_getElem? (i := 638) (by decide +kernel)) rfl
theorem wq_639 : Cond.methodLink RX6 39 yX2_minutes ∈ lw_all := lw_mem (List.mem_of_getElem? (i := 639) (by decide +kernel)) rfl
theorem wq_640 : Cond.methodLink RX6 42 yX6_shorten ∈ lw_all := lw_mem (List.mem_of_getElem? (i := 640) (by decide +kernel)) rfl
theorem wq_642 : Cond.instanceMethod yX6_shorten ∈ lw_all := lw_mem (List.mem_of_getElem? (i := 642) (by decide +kernel)) rfl
theorem wq_643 : Cond.code yX6_shorten cX6_shorten 5 (Option.none : Option Jvm.ClassFile.FieldType) ∈ lw_all := lw_mem (List.mem_of_getElem? (i := 643) (by decide +kernel)) rfl
theorem wq_644 : Cond.methodLink RX6 46 yX6_time ∈ lw_all := lw_mem (List.mem_of_getElem? (i := 644) (by decide +kernel)) rfl
theorem wq_645 : Cond.instanceMethod yX6_time ∈ lw_all := lw_mem (List.mem_of_getElem? (i := 645) (by decide +kernel)) rfl
theorem wq_646 : Cond.selects RX6 yX6_time yX6_time ∈ lw_all := lw_mem (List.mem_of_getElem? (i := 646) (by decide +kernel)) rfl
theorem wq_647 : Cond.code yX6_time cX6_time 4 (Option.some Jvm.ClassFile.FieldType.int) ∈ lw_all := lw_mem (List.mem_of_getElem? (i := 647) (by decide +kernel)) rfl
theorem wq_648 : Cond.methodLink RX7 53 yX6_time ∈ lw_all := lw_mem (List.mem_of_getElem? (i := 648) (by decide +kernel)) rfl
theorem wq_649 : Cond.constant RX7 57 1000000 ∈ lw_all := lw_mem (List.mem_of_getElem? (i := 649) (by decide +kernel)) rfl
theorem wq_650 : Cond.methodLink RL 110 yL_addBook ∈ lw_all := lw_mem (List.mem_of_getElem? (i := 650) (by decide +kernel)) rfl
theorem wq_651 : Cond.static yL_addBook ∈ lw_all := lw_mem (List.mem_of_getElem? (i := 651) (by decide +kernel)) rfl
theorem wq_652 : Cond.codeWith yL_addBook method_10_code 4 (Option.some Jvm.ClassFile.FieldType.int) [((0 : Nat), (9 : Nat), (12 : Nat), (21 : Nat)), ((0 : Nat), (9 : Nat), (15 : Nat), (13 : Nat))] ∈ lw_all := lw_mem (List.mem_of_getElem? (i := 652) (by decide +kernel)) rfl
theorem wq_653 : Cond.methodLink RL 39 yX8_addBook ∈ lw_all := lw_mem (List.mem_of_getElem? (i := 653) (by decide +kernel)) rfl
theorem wq_654 : Cond.instanceMethod yX8_addBook ∈ lw_all := lw_mem (List.mem_of_getElem? (i := 654) (by decide +kernel)) rfl
theorem wq_655 : Cond.selects RX8 yX8_addBook yX8_addBook ∈ lw_all := lw_mem (List.mem_of_getElem? (i := 655) (by decide +kernel)) rfl
theorem wq_656 : Cond.code yX8_addBook cX8_addBook 3 (Option.some Jvm.ClassFile.FieldType.int) ∈ lw_all := lw_mem (List.mem_of_getElem? (i := 656) (by decide +kernel)) rfl
theorem wq_659 : Cond.classLink RX8 117 "LibraryVan$Book" ∈ lw_all := lw_mem (List.mem_of_getElem? (i := 659) (by decide +kernel)) rfl
theorem wq_660 : Cond.instantiable RX0 6 ∈ lw_all := lw_mem (List.mem_of_getElem? (i := 660) (by decide +kernel)) rfl
theorem wq_661 : Cond.methodLink RX8 119 yX0_init ∈ lw_all := lw_mem (List.mem_of_getElem? (i := 661) (by decide +kernel)) rfl
theorem wq_662 : Cond.instanceMethod yX0_init ∈ lw_all := lw_mem (List.mem_of_getElem? (i := 662) (by decide +kernel)) rfl
theorem wq_663 : Cond.code yX0_init cX0_init 3 (Option.none : Option Jvm.ClassFile.FieldType) ∈ lw_all := lw_mem (List.mem_of_getElem? (i := 663) (by decide +kernel)) rfl
theorem wq_664 : Cond.methodLink RX0 3 (⟨"java/lang/Object", "<init>", "()V"⟩ : MethodName) ∈ lw_all := lw_mem (List.mem_of_getElem? (i := 664) (by decide +kernel)) rfl
theorem wq_665 : Cond.classLink RX0 9 "LibraryVan$Queue" ∈ lw_all := lw_mem (List.mem_of_getElem? (i := 665) (by decide +kernel)) rfl
theorem wq_666 : Cond.instantiable RX3 2 ∈ lw_all := lw_mem (List.mem_of_getElem? (i := 666) (by decide +kernel)) rfl
theorem wq_667 : Cond.methodLinkNest RX0 11 yX3_init "LibraryVan" ∈ lw_tbl := List.mem_of_getElem? (i := 667) (by decide +kernel)
theorem wq_668 : Cond.instanceMethod yX3_init ∈ lw_all := lw_mem (List.mem_of_getElem? (i := 668) (by decide +kernel)) rfl
theorem wq_669 : Cond.code yX3_init cX3_init 1 (Option.none : Option Jvm.ClassFile.FieldType) ∈ lw_all := lw_mem (List.mem_of_getElem? (i := 669) (by decide +kernel)) rfl
theorem wq_670 : Cond.methodLink RX3 3 (⟨"java/lang/Object", "<init>", "()V"⟩ : MethodName) ∈ lw_all := lw_mem (List.mem_of_getElem? (i := 670) (by decide +kernel)) rfl
theorem wq_671 : Cond.fieldLink RX3 9 "LibraryVan$Queue" "readers" "[I" ∈ lw_all := lw_mem (List.mem_of_getElem? (i := 671) (by decide +kernel)) rfl
theorem wq_672 : Cond.fieldLink RX3 15 "LibraryVan$Queue" "size" "I" ∈ lw_all := lw_mem (List.mem_of_getElem? (i := 672) (by decide +kernel)) rfl
theorem wq_673 : Cond.laysFinal RX3 "LibraryVan$Queue" "readers" "[I" ∈ lw_all := lw_mem (List.mem_of_getElem? (i := 673) (by decide +kernel)) rfl
theorem wq_675 : Cond.lays RX3 "LibraryVan$Queue" "size" "I" ∈ lw_all := lw_mem (List.mem_of_getElem? (i := 675) (by decide +kernel)) rfl
theorem wq_678 : Cond.fieldLink RX0 25 "LibraryVan$Book" "number" "I" ∈ lw_all := lw_mem (List.mem_of_getElem? (i := 678) (by decide +kernel)) rfl
theorem wq_679 : Cond.fieldLinkNest RX7 191 "LibraryVan$Book" "number" "I" "LibraryVan" ∈ lw_tbl := List.mem_of_getElem? (i := 679) (by decide +kernel)
theorem wq_680 : Cond.fieldLink RX0 28 "LibraryVan$Book" "shelf" "I" ∈ lw_all := lw_mem (List.mem_of_getElem? (i := 680) (by decide +kernel)) rfl
theorem wq_681 : Cond.fieldLinkNest RX7 186 "LibraryVan$Book" "shelf" "I" "LibraryVan" ∈ lw_tbl := List.mem_of_getElem? (i := 681) (by decide +kernel)
theorem wq_682 : Cond.fieldLink RX0 12 "LibraryVan$Book" "queue" "LLibraryVan$Queue;" ∈ lw_all := lw_mem (List.mem_of_getElem? (i := 682) (by decide +kernel)) rfl
theorem wq_683 : Cond.fieldLinkNest RX8 141 "LibraryVan$Book" "queue" "LLibraryVan$Queue;" "LibraryVan" ∈ lw_tbl := List.mem_of_getElem? (i := 683) (by decide +kernel)
theorem wq_684 : Cond.fieldLinkNest RX7 165 "LibraryVan$Book" "queue" "LLibraryVan$Queue;" "LibraryVan" ∈ lw_tbl := List.mem_of_getElem? (i := 684) (by decide +kernel)
theorem wq_685 : Cond.fieldLink RX0 18 "LibraryVan$Book" "holder" "I" ∈ lw_all := lw_mem (List.mem_of_getElem? (i := 685) (by decide +kernel)) rfl
theorem wq_686 : Cond.fieldLinkNest RX7 64 "LibraryVan$Book" "holder" "I" "LibraryVan" ∈ lw_tbl := List.mem_of_getElem? (i := 686) (by decide +kernel)
theorem wq_687 : Cond.fieldLinkNest RX8 153 "LibraryVan$Book" "holder" "I" "LibraryVan" ∈ lw_tbl := List.mem_of_getElem? (i := 687) (by decide +kernel)
theorem wq_688 : Cond.fieldLink RX0 22 "LibraryVan$Book" "since" "I" ∈ lw_all := lw_mem (List.mem_of_getElem? (i := 688) (by decide +kernel)) rfl
theorem wq_689 : Cond.fieldLinkNest RX7 151 "LibraryVan$Book" "since" "I" "LibraryVan" ∈ lw_tbl := List.mem_of_getElem? (i := 689) (by decide +kernel)
theorem wq_690 : Cond.fieldLink RX0 34 "LibraryVan$Book" "loans" "I" ∈ lw_all := lw_mem (List.mem_of_getElem? (i := 690) (by decide +kernel)) rfl
theorem wq_691 : Cond.fieldLinkNest RX7 227 "LibraryVan$Book" "loans" "I" "LibraryVan" ∈ lw_tbl := List.mem_of_getElem? (i := 691) (by decide +kernel)
theorem wq_692 : Cond.laysFinal RX0 "LibraryVan$Book" "number" "I" ∈ lw_all := lw_mem (List.mem_of_getElem? (i := 692) (by decide +kernel)) rfl
theorem wq_694 : Cond.laysFinal RX0 "LibraryVan$Book" "shelf" "I" ∈ lw_all := lw_mem (List.mem_of_getElem? (i := 694) (by decide +kernel)) rfl
theorem wq_696 : Cond.laysFinal RX0 "LibraryVan$Book" "queue" "LLibraryVan$Queue;" ∈ lw_all := lw_mem (List.mem_of_getElem? (i := 696) (by decide +kernel)) rfl
theorem wq_698 : Cond.lays RX0 "LibraryVan$Book" "holder" "I" ∈ lw_all := lw_mem (List.mem_of_getElem? (i := 698) (by decide +kernel)) rfl
theorem wq_700 : Cond.lays RX0 "LibraryVan$Book" "since" "I" ∈ lw_all := lw_mem (List.mem_of_getElem? (i := 700) (by decide +kernel)) rfl
theorem wq_702 : Cond.lays RX0 "LibraryVan$Book" "loans" "I" ∈ lw_all := lw_mem (List.mem_of_getElem? (i := 702) (by decide +kernel)) rfl
theorem wq_705 : Cond.methodLink RL 114 yL_addReader ∈ lw_all := lw_mem (List.mem_of_getElem? (i := 705) (by decide +kernel)) rfl
theorem wq_706 : Cond.static yL_addReader ∈ lw_all := lw_mem (List.mem_of_getElem? (i := 706) (by decide +kernel)) rfl
theorem wq_707 : Cond.codeWith yL_addReader method_11_code 6 (Option.some Jvm.ClassFile.FieldType.int) [((0 : Nat), (12 : Nat), (15 : Nat), (19 : Nat)), ((0 : Nat), (12 : Nat), (19 : Nat), (21 : Nat)), ((0 : Nat), (12 : Nat), (23 : Nat), (13 : Nat))] ∈ lw_all := lw_mem (List.mem_of_getElem? (i := 707) (by decide +kernel)) rfl
theorem wq_708 : Cond.methodLink RL 43 yX8_addReader ∈ lw_all := lw_mem (List.mem_of_getElem? (i := 708) (by decide +kernel)) rfl
theorem wq_709 : Cond.instanceMethod yX8_addReader ∈ lw_all := lw_mem (List.mem_of_getElem? (i := 709) (by decide +kernel)) rfl
theorem wq_710 : Cond.selects RX8 yX8_addReader yX8_addReader ∈ lw_all := lw_mem (List.mem_of_getElem? (i := 710) (by decide +kernel)) rfl
theorem wq_711 : Cond.code yX8_addReader cX8_addReader 5 (Option.some Jvm.ClassFile.FieldType.int) ∈ lw_all := lw_mem (List.mem_of_getElem? (i := 711) (by decide +kernel)) rfl
theorem wq_714 : Cond.classLink RX8 128 "LibraryVan$Reader" ∈ lw_all := lw_mem (List.mem_of_getElem? (i := 714) (by decide +kernel)) rfl
theorem wq_715 : Cond.instantiable RX4 8 ∈ lw_all := lw_mem (List.mem_of_getElem? (i := 715) (by decide +kernel)) rfl
theorem wq_716 : Cond.methodLink RX8 130 yX4_init ∈ lw_all := lw_mem (List.mem_of_getElem? (i := 716) (by decide +kernel)) rfl
theorem wq_717 : Cond.instanceMethod yX4_init ∈ lw_all := lw_mem (List.mem_of_getElem? (i := 717) (by decide +kernel)) rfl
theorem wq_718 : Cond.code yX4_init cX4_init 5 (Option.none : Option Jvm.ClassFile.FieldType) ∈ lw_all := lw_mem (List.mem_of_getElem? (i := 718) (by decide +kernel)) rfl
theorem wq_719 : Cond.methodLink RX4 3 (⟨"java/lang/Object", "<init>", "()V"⟩ : MethodName) ∈ lw_all := lw_mem (List.mem_of_getElem? (i := 719) (by decide +kernel)) rfl
theorem wq_720 : Cond.fieldLink RX4 9 "LibraryVan$Reader" "number" "I" ∈ lw_all := lw_mem (List.mem_of_getElem? (i := 720) (by decide +kernel)) rfl
theorem wq_721 : Cond.fieldLinkNest RX0 31 "LibraryVan$Reader" "number" "I" "LibraryVan" ∈ lw_tbl := List.mem_of_getElem? (i := 721) (by decide +kernel)
theorem wq_722 : Cond.fieldLink RX4 15 "LibraryVan$Reader" "halt" "I" ∈ lw_all := lw_mem (List.mem_of_getElem? (i := 722) (by decide +kernel)) rfl
theorem wq_723 : Cond.fieldLinkNest RX7 148 "LibraryVan$Reader" "halt" "I" "LibraryVan" ∈ lw_tbl := List.mem_of_getElem? (i := 723) (by decide +kernel)
theorem wq_724 : Cond.fieldLink RX4 18 "LibraryVan$Reader" "shelf" "I" ∈ lw_all := lw_mem (List.mem_of_getElem? (i := 724) (by decide +kernel)) rfl
theorem wq_725 : Cond.fieldLinkNest RX7 189 "LibraryVan$Reader" "shelf" "I" "LibraryVan" ∈ lw_tbl := List.mem_of_getElem? (i := 725) (by decide +kernel)
theorem wq_726 : Cond.fieldLink RX4 21 "LibraryVan$Reader" "keeps" "I" ∈ lw_all := lw_mem (List.mem_of_getElem? (i := 726) (by decide +kernel)) rfl
theorem wq_727 : Cond.fieldLinkNest RX7 154 "LibraryVan$Reader" "keeps" "I" "LibraryVan" ∈ lw_tbl := List.mem_of_getElem? (i := 727) (by decide +kernel)
theorem wq_728 : Cond.fieldLink RX4 24 "LibraryVan$Reader" "has" "I" ∈ lw_all := lw_mem (List.mem_of_getElem? (i := 728) (by decide +kernel)) rfl
theorem wq_729 : Cond.fieldLinkNest RX0 37 "LibraryVan$Reader" "has" "I" "LibraryVan" ∈ lw_tbl := List.mem_of_getElem? (i := 729) (by decide +kernel)
theorem wq_730 : Cond.fieldLinkNest RX7 233 "LibraryVan$Reader" "has" "I" "LibraryVan" ∈ lw_tbl := List.mem_of_getElem? (i := 730) (by decide +kernel)
theorem wq_731 : Cond.fieldLink RX4 27 "LibraryVan$Reader" "read" "I" ∈ lw_all := lw_mem (List.mem_of_getElem? (i := 731) (by decide +kernel)) rfl
theorem wq_732 : Cond.fieldLinkNest RX0 40 "LibraryVan$Reader" "read" "I" "LibraryVan" ∈ lw_tbl := List.mem_of_getElem? (i := 732) (by decide +kernel)
theorem wq_733 : Cond.fieldLinkNest RX7 236 "LibraryVan$Reader" "read" "I" "LibraryVan" ∈ lw_tbl := List.mem_of_getElem? (i := 733) (by decide +kernel)
theorem wq_734 : Cond.fieldLink RX4 30 "LibraryVan$Reader" "pence" "I" ∈ lw_all := lw_mem (List.mem_of_getElem? (i := 734) (by decide +kernel)) rfl
theorem wq_735 : Cond.fieldLinkNest RX0 44 "LibraryVan$Reader" "pence" "I" "LibraryVan" ∈ lw_tbl := List.mem_of_getElem? (i := 735) (by decide +kernel)
theorem wq_736 : Cond.fieldLinkNest RX8 172 "LibraryVan$Reader" "pence" "I" "LibraryVan" ∈ lw_tbl := List.mem_of_getElem? (i := 736) (by decide +kernel)
theorem wq_737 : Cond.fieldLinkNest RX7 244 "LibraryVan$Reader" "pence" "I" "LibraryVan" ∈ lw_tbl := List.mem_of_getElem? (i := 737) (by decide +kernel)
theorem wq_738 : Cond.fieldLinkNest RX0 43 "LibraryVan$Reader" "loans" "I" "LibraryVan" ∈ lw_tbl := List.mem_of_getElem? (i := 738) (by decide +kernel)
theorem wq_739 : Cond.fieldLink RX4 33 "LibraryVan$Reader" "loans" "I" ∈ lw_all := lw_mem (List.mem_of_getElem? (i := 739) (by decide +kernel)) rfl
theorem wq_740 : Cond.fieldLinkNest RX7 250 "LibraryVan$Reader" "loans" "I" "LibraryVan" ∈ lw_tbl := List.mem_of_getElem? (i := 740) (by decide +kernel)
theorem wq_741 : Cond.laysFinal RX4 "LibraryVan$Reader" "number" "I" ∈ lw_all := lw_mem (List.mem_of_getElem? (i := 741) (by decide +kernel)) rfl
theorem wq_743 : Cond.laysFinal RX4 "LibraryVan$Reader" "halt" "I" ∈ lw_all := lw_mem (List.mem_of_getElem? (i := 743) (by decide +kernel)) rfl
theorem wq_745 : Cond.laysFinal RX4 "LibraryVan$Reader" "shelf" "I" ∈ lw_all := lw_mem (List.mem_of_getElem? (i := 745) (by decide +kernel)) rfl
theorem wq_747 : Cond.laysFinal RX4 "LibraryVan$Reader" "keeps" "I" ∈ lw_all := lw_mem (List.mem_of_getElem? (i := 747) (by decide +kernel)) rfl
theorem wq_749 : Cond.lays RX4 "LibraryVan$Reader" "has" "I" ∈ lw_all := lw_mem (List.mem_of_getElem? (i := 749) (by decide +kernel)) rfl
theorem wq_751 : Cond.lays RX4 "LibraryVan$Reader" "read" "I" ∈ lw_all := lw_mem (List.mem_of_getElem? (i := 751) (by decide +kernel)) rfl
theorem wq_753 : Cond.lays RX4 "LibraryVan$Reader" "pence" "I" ∈ lw_all := lw_mem (List.mem_of_getElem? (i := 753) (by decide +kernel)) rfl
theorem wq_755 : Cond.lays RX4 "LibraryVan$Reader" "loans" "I" ∈ lw_all := lw_mem (List.mem_of_getElem? (i := 755) (by decide +kernel)) rfl
theorem wq_758 : Cond.methodLink RL 118 yL_reserve ∈ lw_all := lw_mem (List.mem_of_getElem? (i := 758) (by decide +kernel)) rfl
theorem wq_759 : Cond.static yL_reserve ∈ lw_all := lw_mem (List.mem_of_getElem? (i := 759) (by decide +kernel)) rfl
theorem wq_760 : Cond.codeWith yL_reserve method_12_code 5 (Option.some Jvm.ClassFile.FieldType.int) [((0 : Nat), (10 : Nat), (13 : Nat), (19 : Nat)), ((0 : Nat), (10 : Nat), (17 : Nat), (13 : Nat))] ∈ lw_all := lw_mem (List.mem_of_getElem? (i := 760) (by decide +kernel)) rfl
theorem wq_761 : Cond.methodLink RL 47 yX8_reserve ∈ lw_all := lw_mem (List.mem_of_getElem? (i := 761) (by decide +kernel)) rfl
theorem wq_762 : Cond.instanceMethod yX8_reserve ∈ lw_all := lw_mem (List.mem_of_getElem? (i := 762) (by decide +kernel)) rfl
theorem wq_763 : Cond.selects RX8 yX8_reserve yX8_reserve ∈ lw_all := lw_mem (List.mem_of_getElem? (i := 763) (by decide +kernel)) rfl
theorem wq_764 : Cond.code yX8_reserve cX8_reserve 4 (Option.some Jvm.ClassFile.FieldType.int) ∈ lw_all := lw_mem (List.mem_of_getElem? (i := 764) (by decide +kernel)) rfl
theorem wq_765 : Cond.methodLink RX8 131 yX8_needReader ∈ lw_all := lw_mem (List.mem_of_getElem? (i := 765) (by decide +kernel)) rfl
theorem wq_767 : Cond.instanceMethod yX8_needReader ∈ lw_all := lw_mem (List.mem_of_getElem? (i := 767) (by decide +kernel)) rfl
theorem wq_768 : Cond.code yX8_needReader cX8_needReader 2 (Option.none : Option Jvm.ClassFile.FieldType) ∈ lw_all := lw_mem (List.mem_of_getElem? (i := 768) (by decide +kernel)) rfl
theorem wq_769 : Cond.methodLink RX8 134 yX8_needBook ∈ lw_all := lw_mem (List.mem_of_getElem? (i := 769) (by decide +kernel)) rfl
theorem wq_771 : Cond.instanceMethod yX8_needBook ∈ lw_all := lw_mem (List.mem_of_getElem? (i := 771) (by decide +kernel)) rfl
theorem wq_772 : Cond.code yX8_needBook cX8_needBook 2 (Option.none : Option Jvm.ClassFile.FieldType) ∈ lw_all := lw_mem (List.mem_of_getElem? (i := 772) (by decide +kernel)) rfl
theorem wq_773 : Cond.methodLink RX8 137 yJx4a65c_get_915e3 ∈ lw_all := lw_mem (List.mem_of_getElem? (i := 773) (by decide +kernel)) rfl
theorem wq_774 : Cond.methodLink RX8 145 yX3_placeOf ∈ lw_all := lw_mem (List.mem_of_getElem? (i := 774) (by decide +kernel)) rfl
theorem wq_777 : Cond.methodLink RX8 159 yX3_join ∈ lw_all := lw_mem (List.mem_of_getElem? (i := 777) (by decide +kernel)) rfl
theorem wq_778 : Cond.instanceMethod yX3_join ∈ lw_all := lw_mem (List.mem_of_getElem? (i := 778) (by decide +kernel)) rfl
theorem wq_779 : Cond.selects RX3 yX3_join yX3_join ∈ lw_all := lw_mem (List.mem_of_getElem? (i := 779) (by decide +kernel)) rfl
theorem wq_780 : Cond.code yX3_join cX3_join 2 (Option.none : Option Jvm.ClassFile.FieldType) ∈ lw_all := lw_mem (List.mem_of_getElem? (i := 780) (by decide +kernel)) rfl
theorem wq_781 : Cond.methodLink RX8 162 yX3_size ∈ lw_all := lw_mem (List.mem_of_getElem? (i := 781) (by decide +kernel)) rfl
theorem wq_782 : Cond.methodLink RL 121 yL_cancel ∈ lw_all := lw_mem (List.mem_of_getElem? (i := 782) (by decide +kernel)) rfl
theorem wq_783 : Cond.static yL_cancel ∈ lw_all := lw_mem (List.mem_of_getElem? (i := 783) (by decide +kernel)) rfl
theorem wq_784 : Cond.codeWith yL_cancel method_13_code 5 (Option.some Jvm.ClassFile.FieldType.int) [((0 : Nat), (10 : Nat), (13 : Nat), (19 : Nat))] ∈ lw_all := lw_mem (List.mem_of_getElem? (i := 784) (by decide +kernel)) rfl
theorem wq_785 : Cond.methodLink RL 50 yX8_cancel ∈ lw_all := lw_mem (List.mem_of_getElem? (i := 785) (by decide +kernel)) rfl
theorem wq_786 : Cond.instanceMethod yX8_cancel ∈ lw_all := lw_mem (List.mem_of_getElem? (i := 786) (by decide +kernel)) rfl
theorem wq_787 : Cond.selects RX8 yX8_cancel yX8_cancel ∈ lw_all := lw_mem (List.mem_of_getElem? (i := 787) (by decide +kernel)) rfl
theorem wq_788 : Cond.code yX8_cancel cX8_cancel 5 (Option.some Jvm.ClassFile.FieldType.int) ∈ lw_all := lw_mem (List.mem_of_getElem? (i := 788) (by decide +kernel)) rfl
theorem wq_789 : Cond.methodLink RX8 163 yX3_dropPlace ∈ lw_all := lw_mem (List.mem_of_getElem? (i := 789) (by decide +kernel)) rfl
theorem wq_790 : Cond.instanceMethod yX3_dropPlace ∈ lw_all := lw_mem (List.mem_of_getElem? (i := 790) (by decide +kernel)) rfl
theorem wq_791 : Cond.selects RX3 yX3_dropPlace yX3_dropPlace ∈ lw_all := lw_mem (List.mem_of_getElem? (i := 791) (by decide +kernel)) rfl
theorem wq_792 : Cond.code yX3_dropPlace cX3_dropPlace 3 (Option.none : Option Jvm.ClassFile.FieldType) ∈ lw_all := lw_mem (List.mem_of_getElem? (i := 792) (by decide +kernel)) rfl
theorem wq_793 : Cond.methodLink RL 124 yL_book ∈ lw_all := lw_mem (List.mem_of_getElem? (i := 793) (by decide +kernel)) rfl
theorem wq_794 : Cond.static yL_book ∈ lw_all := lw_mem (List.mem_of_getElem? (i := 794) (by decide +kernel)) rfl
theorem wq_795 : Cond.codeWith yL_book method_14_code 5 (Option.some Jvm.ClassFile.FieldType.int) [((0 : Nat), (10 : Nat), (13 : Nat), (19 : Nat))] ∈ lw_all := lw_mem (List.mem_of_getElem? (i := 795) (by decide +kernel)) rfl
theorem wq_796 : Cond.methodLink RL 53 yX8_book ∈ lw_all := lw_mem (List.mem_of_getElem? (i := 796) (by decide +kernel)) rfl
theorem wq_797 : Cond.instanceMethod yX8_book ∈ lw_all := lw_mem (List.mem_of_getElem? (i := 797) (by decide +kernel)) rfl
theorem wq_798 : Cond.selects RX8 yX8_book yX8_book ∈ lw_all := lw_mem (List.mem_of_getElem? (i := 798) (by decide +kernel)) rfl
theorem wq_799 : Cond.code yX8_book cX8_book 3 (Option.some Jvm.ClassFile.FieldType.int) ∈ lw_all := lw_mem (List.mem_of_getElem? (i := 799) (by decide +kernel)) rfl
theorem wq_800 : Cond.methodLink RX8 166 yX7_bookAnswer ∈ lw_all := lw_mem (List.mem_of_getElem? (i := 800) (by decide +kernel)) rfl
theorem wq_801 : Cond.methodLink RL 127 yL_reader ∈ lw_all := lw_mem (List.mem_of_getElem? (i := 801) (by decide +kernel)) rfl
theorem wq_802 : Cond.static yL_reader ∈ lw_all := lw_mem (List.mem_of_getElem? (i := 802) (by decide +kernel)) rfl
theorem wq_803 : Cond.codeWith yL_reader method_15_code 5 (Option.some Jvm.ClassFile.FieldType.int) [((0 : Nat), (10 : Nat), (13 : Nat), (19 : Nat))] ∈ lw_all := lw_mem (List.mem_of_getElem? (i := 803) (by decide +kernel)) rfl
theorem wq_804 : Cond.methodLink RL 56 yX8_reader ∈ lw_all := lw_mem (List.mem_of_getElem? (i := 804) (by decide +kernel)) rfl
theorem wq_805 : Cond.instanceMethod yX8_reader ∈ lw_all := lw_mem (List.mem_of_getElem? (i := 805) (by decide +kernel)) rfl
theorem wq_806 : Cond.selects RX8 yX8_reader yX8_reader ∈ lw_all := lw_mem (List.mem_of_getElem? (i := 806) (by decide +kernel)) rfl
theorem wq_807 : Cond.code yX8_reader cX8_reader 3 (Option.some Jvm.ClassFile.FieldType.int) ∈ lw_all := lw_mem (List.mem_of_getElem? (i := 807) (by decide +kernel)) rfl
theorem wq_808 : Cond.methodLink RX8 169 yX7_readerAnswer ∈ lw_all := lw_mem (List.mem_of_getElem? (i := 808) (by decide +kernel)) rfl
theorem wq_809 : Cond.methodLink RL 130 yL_pay ∈ lw_all := lw_mem (List.mem_of_getElem? (i := 809) (by decide +kernel)) rfl
theorem wq_810 : Cond.static yL_pay ∈ lw_all := lw_mem (List.mem_of_getElem? (i := 810) (by decide +kernel)) rfl
theorem wq_811 : Cond.codeWith yL_pay method_16_code 5 (Option.some Jvm.ClassFile.FieldType.int) [((0 : Nat), (10 : Nat), (13 : Nat), (19 : Nat)), ((0 : Nat), (10 : Nat), (17 : Nat), (21 : Nat))] ∈ lw_all := lw_mem (List.mem_of_getElem? (i := 811) (by decide +kernel)) rfl
theorem wq_812 : Cond.methodLink RL 59 yX8_pay ∈ lw_all := lw_mem (List.mem_of_getElem? (i := 812) (by decide +kernel)) rfl
theorem wq_813 : Cond.instanceMethod yX8_pay ∈ lw_all := lw_mem (List.mem_of_getElem? (i := 813) (by decide +kernel)) rfl
theorem wq_814 : Cond.selects RX8 yX8_pay yX8_pay ∈ lw_all := lw_mem (List.mem_of_getElem? (i := 814) (by decide +kernel)) rfl
theorem wq_815 : Cond.code yX8_pay cX8_pay 4 (Option.some Jvm.ClassFile.FieldType.int) ∈ lw_all := lw_mem (List.mem_of_getElem? (i := 815) (by decide +kernel)) rfl
theorem wq_817 : Cond.methodLink RL 133 yL_pass ∈ lw_all := lw_mem (List.mem_of_getElem? (i := 817) (by decide +kernel)) rfl
theorem wq_818 : Cond.static yL_pass ∈ lw_all := lw_mem (List.mem_of_getElem? (i := 818) (by decide +kernel)) rfl
theorem wq_819 : Cond.codeWith yL_pass method_17_code 4 (Option.some Jvm.ClassFile.FieldType.int) [((0 : Nat), (9 : Nat), (12 : Nat), (21 : Nat))] ∈ lw_all := lw_mem (List.mem_of_getElem? (i := 819) (by decide +kernel)) rfl
theorem wq_820 : Cond.methodLink RL 62 yX8_pass ∈ lw_all := lw_mem (List.mem_of_getElem? (i := 820) (by decide +kernel)) rfl
theorem wq_821 : Cond.instanceMethod yX8_pass ∈ lw_all := lw_mem (List.mem_of_getElem? (i := 821) (by decide +kernel)) rfl
theorem wq_822 : Cond.selects RX8 yX8_pass yX8_pass ∈ lw_all := lw_mem (List.mem_of_getElem? (i := 822) (by decide +kernel)) rfl
theorem wq_823 : Cond.code yX8_pass cX8_pass 3 (Option.some Jvm.ClassFile.FieldType.int) ∈ lw_all := lw_mem (List.mem_of_getElem? (i := 823) (by decide +kernel)) rfl
theorem wq_824 : Cond.methodLink RX8 177 yX8_needDays ∈ lw_all := lw_mem (List.mem_of_getElem? (i := 824) (by decide +kernel)) rfl
theorem wq_825 : Cond.static yX8_needDays ∈ lw_all := lw_mem (List.mem_of_getElem? (i := 825) (by decide +kernel)) rfl
theorem wq_826 : Cond.code yX8_needDays cX8_needDays 2 (Option.none : Option Jvm.ClassFile.FieldType) ∈ lw_all := lw_mem (List.mem_of_getElem? (i := 826) (by decide +kernel)) rfl
theorem wq_828 : Cond.methodLink RX8 183 yX7_passDays ∈ lw_all := lw_mem (List.mem_of_getElem? (i := 828) (by decide +kernel)) rfl
theorem wq_829 : Cond.instanceMethod yX7_passDays ∈ lw_all := lw_mem (List.mem_of_getElem? (i := 829) (by decide +kernel)) rfl
theorem wq_830 : Cond.selects RX7 yX7_passDays yX7_passDays ∈ lw_all := lw_mem (List.mem_of_getElem? (i := 830) (by decide +kernel)) rfl
theorem wq_831 : Cond.code yX7_passDays cX7_passDays 3 (Option.none : Option Jvm.ClassFile.FieldType) ∈ lw_all := lw_mem (List.mem_of_getElem? (i := 831) (by decide +kernel)) rfl
theorem wq_832 : Cond.methodLink RX7 100 yX7_weather ∈ lw_all := lw_mem (List.mem_of_getElem? (i := 832) (by decide +kernel)) rfl
theorem wq_834 : Cond.instanceMethod yX7_weather ∈ lw_all := lw_mem (List.mem_of_getElem? (i := 834) (by decide +kernel)) rfl
theorem wq_835 : Cond.code yX7_weather cX7_weather 3 (Option.none : Option Jvm.ClassFile.FieldType) ∈ lw_all := lw_mem (List.mem_of_getElem? (i := 835) (by decide +kernel)) rfl
theorem wq_836 : Cond.methodLink RX7 106 yJ9_floorMod_7cf53 ∈ lw_all := lw_mem (List.mem_of_getElem? (i := 836) (by decide +kernel)) rfl
theorem wq_837 : Cond.static yJ9_floorMod_7cf53 ∈ lw_all := lw_mem (List.mem_of_getElem? (i := 837) (by decide +kernel)) rfl
theorem wq_838 : Cond.code yJ9_floorMod_7cf53 cJ9_floorMod_7cf53 3 (Option.some Jvm.ClassFile.FieldType.int) ∈ lw_all := lw_mem (List.mem_of_getElem? (i := 838) (by decide +kernel)) rfl
theorem wq_839 : Cond.methodLink RX7 115 yX2_weather ∈ lw_all := lw_mem (List.mem_of_getElem? (i := 839) (by decide +kernel)) rfl
theorem wq_840 : Cond.instanceMethod yX2_weather ∈ lw_all := lw_mem (List.mem_of_getElem? (i := 840) (by decide +kernel)) rfl
theorem wq_841 : Cond.selects RX2 yX2_weather yX2_weather ∈ lw_all := lw_mem (List.mem_of_getElem? (i := 841) (by decide +kernel)) rfl
theorem wq_842 : Cond.code yX2_weather cX2_weather 2 (Option.none : Option Jvm.ClassFile.FieldType) ∈ lw_all := lw_mem (List.mem_of_getElem? (i := 842) (by decide +kernel)) rfl
theorem wq_843 : Cond.methodLink RX2 27 yJ9_min_7cf53 ∈ lw_all := lw_mem (List.mem_of_getElem? (i := 843) (by decide +kernel)) rfl
theorem wq_844 : Cond.methodLink RX2 33 yJ9_max_7cf53 ∈ lw_all := lw_mem (List.mem_of_getElem? (i := 844) (by decide +kernel)) rfl
theorem wq_845 : Cond.methodLink RX7 103 yX7_goRound ∈ lw_all := lw_mem (List.mem_of_getElem? (i := 845) (by decide +kernel)) rfl
theorem wq_847 : Cond.instanceMethod yX7_goRound ∈ lw_all := lw_mem (List.mem_of_getElem? (i := 847) (by decide +kernel)) rfl
theorem wq_848 : Cond.code yX7_goRound cX7_goRound 8 (Option.none : Option Jvm.ClassFile.FieldType) ∈ lw_all := lw_mem (List.mem_of_getElem? (i := 848) (by decide +kernel)) rfl
theorem wq_849 : Cond.methodLink RX7 125 yX7_takeBooksBack ∈ lw_all := lw_mem (List.mem_of_getElem? (i := 849) (by decide +kernel)) rfl
theorem wq_851 : Cond.instanceMethod yX7_takeBooksBack ∈ lw_all := lw_mem (List.mem_of_getElem? (i := 851) (by decide +kernel)) rfl
theorem wq_852 : Cond.code yX7_takeBooksBack cX7_takeBooksBack 5 (Option.none : Option Jvm.ClassFile.FieldType) ∈ lw_all := lw_mem (List.mem_of_getElem? (i := 852) (by decide +kernel)) rfl
theorem wq_853 : Cond.methodLink RX7 144 yX7_readerWith ∈ lw_all := lw_mem (List.mem_of_getElem? (i := 853) (by decide +kernel)) rfl
theorem wq_855 : Cond.instanceMethod yX7_readerWith ∈ lw_all := lw_mem (List.mem_of_getElem? (i := 855) (by decide +kernel)) rfl
theorem wq_856 : Cond.code yX7_readerWith cX7_readerWith 2 (Option.some (Jvm.ClassFile.FieldType.object "LibraryVan$Reader")) ∈ lw_all := lw_mem (List.mem_of_getElem? (i := 856) (by decide +kernel)) rfl
theorem wq_857 : Cond.methodLink RX7 157 yX0_comeBackFrom ∈ lw_all := lw_mem (List.mem_of_getElem? (i := 857) (by decide +kernel)) rfl
theorem wq_858 : Cond.instanceMethod yX0_comeBackFrom ∈ lw_all := lw_mem (List.mem_of_getElem? (i := 858) (by decide +kernel)) rfl
theorem wq_859 : Cond.selects RX0 yX0_comeBackFrom yX0_comeBackFrom ∈ lw_all := lw_mem (List.mem_of_getElem? (i := 859) (by decide +kernel)) rfl
theorem wq_860 : Cond.code yX0_comeBackFrom cX0_comeBackFrom 3 (Option.none : Option Jvm.ClassFile.FieldType) ∈ lw_all := lw_mem (List.mem_of_getElem? (i := 860) (by decide +kernel)) rfl
theorem wq_861 : Cond.methodLink RX7 128 yX7_lendReservedBooks ∈ lw_all := lw_mem (List.mem_of_getElem? (i := 861) (by decide +kernel)) rfl
theorem wq_863 : Cond.instanceMethod yX7_lendReservedBooks ∈ lw_all := lw_mem (List.mem_of_getElem? (i := 863) (by decide +kernel)) rfl
theorem wq_864 : Cond.code yX7_lendReservedBooks cX7_lendReservedBooks 5 (Option.none : Option Jvm.ClassFile.FieldType) ∈ lw_all := lw_mem (List.mem_of_getElem? (i := 864) (by decide +kernel)) rfl
theorem wq_865 : Cond.methodLink RX7 174 yX4_takesMore ∈ lw_all := lw_mem (List.mem_of_getElem? (i := 865) (by decide +kernel)) rfl
theorem wq_866 : Cond.instanceMethod yX4_takesMore ∈ lw_all := lw_mem (List.mem_of_getElem? (i := 866) (by decide +kernel)) rfl
theorem wq_867 : Cond.selects RX4 yX4_takesMore yX4_takesMore ∈ lw_all := lw_mem (List.mem_of_getElem? (i := 867) (by decide +kernel)) rfl
theorem wq_868 : Cond.code yX4_takesMore cX4_takesMore 1 (Option.some Jvm.ClassFile.FieldType.boolean) ∈ lw_all := lw_mem (List.mem_of_getElem? (i := 868) (by decide +kernel)) rfl
theorem wq_869 : Cond.methodLink RX7 177 yX3_dropPlace ∈ lw_all := lw_mem (List.mem_of_getElem? (i := 869) (by decide +kernel)) rfl
theorem wq_870 : Cond.methodLink RX7 180 yX0_lendTo ∈ lw_all := lw_mem (List.mem_of_getElem? (i := 870) (by decide +kernel)) rfl
theorem wq_871 : Cond.instanceMethod yX0_lendTo ∈ lw_all := lw_mem (List.mem_of_getElem? (i := 871) (by decide +kernel)) rfl
theorem wq_872 : Cond.selects RX0 yX0_lendTo yX0_lendTo ∈ lw_all := lw_mem (List.mem_of_getElem? (i := 872) (by decide +kernel)) rfl
theorem wq_873 : Cond.code yX0_lendTo cX0_lendTo 3 (Option.none : Option Jvm.ClassFile.FieldType) ∈ lw_all := lw_mem (List.mem_of_getElem? (i := 873) (by decide +kernel)) rfl
theorem wq_874 : Cond.methodLink RX7 131 yX7_lendOtherBooks ∈ lw_all := lw_mem (List.mem_of_getElem? (i := 874) (by decide +kernel)) rfl
theorem wq_876 : Cond.instanceMethod yX7_lendOtherBooks ∈ lw_all := lw_mem (List.mem_of_getElem? (i := 876) (by decide +kernel)) rfl
theorem wq_877 : Cond.code yX7_lendOtherBooks cX7_lendOtherBooks 4 (Option.none : Option Jvm.ClassFile.FieldType) ∈ lw_all := lw_mem (List.mem_of_getElem? (i := 877) (by decide +kernel)) rfl
theorem wq_878 : Cond.methodLink RX7 183 yX7_lendOtherBookTo ∈ lw_all := lw_mem (List.mem_of_getElem? (i := 878) (by decide +kernel)) rfl
theorem wq_880 : Cond.instanceMethod yX7_lendOtherBookTo ∈ lw_all := lw_mem (List.mem_of_getElem? (i := 880) (by decide +kernel)) rfl
theorem wq_881 : Cond.code yX7_lendOtherBookTo cX7_lendOtherBookTo 4 (Option.none : Option Jvm.ClassFile.FieldType) ∈ lw_all := lw_mem (List.mem_of_getElem? (i := 881) (by decide +kernel)) rfl
theorem wq_882 : Cond.methodLink RX7 134 yX7_noteVisit ∈ lw_all := lw_mem (List.mem_of_getElem? (i := 882) (by decide +kernel)) rfl
theorem wq_884 : Cond.instanceMethod yX7_noteVisit ∈ lw_all := lw_mem (List.mem_of_getElem? (i := 884) (by decide +kernel)) rfl
theorem wq_885 : Cond.code yX7_noteVisit cX7_noteVisit 4 (Option.none : Option Jvm.ClassFile.FieldType) ∈ lw_all := lw_mem (List.mem_of_getElem? (i := 885) (by decide +kernel)) rfl
theorem wq_886 : Cond.methodLink RL 136 yL_count ∈ lw_all := lw_mem (List.mem_of_getElem? (i := 886) (by decide +kernel)) rfl
