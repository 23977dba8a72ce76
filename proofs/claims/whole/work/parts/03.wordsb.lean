theorem gw_421 : (Jvm.Cond.methodLink "StackCoder$StackCode" (114 : Nat) ({ cls := "StackCoder$RegisterCode", name := "aOf", desc := "(I)I" } : Jvm.MethodName)) ∈ gt := mem_gt 482 (by decide +kernel) rfl
theorem gw_422 : (Jvm.Cond.methodLink "StackCoder$StackCode" (117 : Nat) ({ cls := "StackCoder$StackCode", name := "startFrom", desc := "(I)I" } : Jvm.MethodName)) ∈ gt := mem_gt 483 (by decide +kernel) rfl
theorem gw_424 : (Jvm.Cond.instanceMethod ({ cls := "StackCoder$StackCode", name := "startFrom", desc := "(I)I" } : Jvm.MethodName)) ∈ gt := mem_gt 485 (by decide +kernel) rfl
set_option maxRecDepth 100000 in
theorem gw_425 : (Jvm.Cond.code ({ cls := "StackCoder$StackCode", name := "startFrom", desc := "(I)I" } : Jvm.MethodName) prog_6_method_11_code (3 : Nat) (Option.some Jvm.ClassFile.FieldType.int)) ∈ gt := mem_gt 486 (by rfl) rfl
theorem gw_426 : (Jvm.Cond.methodLink "StackCoder$StackCode" (120 : Nat) ({ cls := "StackCoder$RegisterCode", name := "bOf", desc := "(I)I" } : Jvm.MethodName)) ∈ gt := mem_gt 487 (by decide +kernel) rfl
theorem gw_427 : (Jvm.Cond.methodLink "StackCoder$StackCode" (107 : Nat) ({ cls := "StackCoder$StackCode", name := "writeEnd", desc := "(II)V" } : Jvm.MethodName)) ∈ gt := mem_gt 488 (by decide +kernel) rfl
theorem gw_429 : (Jvm.Cond.instanceMethod ({ cls := "StackCoder$StackCode", name := "writeEnd", desc := "(II)V" } : Jvm.MethodName)) ∈ gt := mem_gt 490 (by decide +kernel) rfl
set_option maxRecDepth 100000 in
theorem gw_430 : (Jvm.Cond.code ({ cls := "StackCoder$StackCode", name := "writeEnd", desc := "(II)V" } : Jvm.MethodName) prog_6_method_12_code (4 : Nat) (Option.none : Option Jvm.ClassFile.FieldType)) ∈ gt := mem_gt 491 (by rfl) rfl
theorem gw_431 : (Jvm.Cond.methodLink "StackCoder$StackCode" (123 : Nat) ({ cls := "StackCoder$Flow", name := "liveAfter", desc := "(I)I" } : Jvm.MethodName)) ∈ gt := mem_gt 492 (by decide +kernel) rfl
theorem gw_432 : (Jvm.Cond.methodLink "StackCoder$StackCode" (128 : Nat) ({ cls := "StackCoder$Flow", name := "setOf", desc := "(I)I" } : Jvm.MethodName)) ∈ gt := mem_gt 493 (by decide +kernel) rfl
theorem gw_433 : (Jvm.Cond.methodLink "StackCoder" (77 : Nat) ({ cls := "StackCoder$StackCode", name := "operationCount", desc := "()I" } : Jvm.MethodName)) ∈ gt := mem_gt 494 (by decide +kernel) rfl
theorem gw_434 : (Jvm.Cond.instanceMethod ({ cls := "StackCoder$StackCode", name := "operationCount", desc := "()I" } : Jvm.MethodName)) ∈ gt := mem_gt 495 (by decide +kernel) rfl
theorem gw_435 : (Jvm.Cond.selects "StackCoder$StackCode" ({ cls := "StackCoder$StackCode", name := "operationCount", desc := "()I" } : Jvm.MethodName) ({ cls := "StackCoder$StackCode", name := "operationCount", desc := "()I" } : Jvm.MethodName)) ∈ gt := mem_gt 496 (by decide +kernel) rfl
set_option maxRecDepth 100000 in
theorem gw_436 : (Jvm.Cond.code ({ cls := "StackCoder$StackCode", name := "operationCount", desc := "()I" } : Jvm.MethodName) prog_6_method_15_code (1 : Nat) (Option.some Jvm.ClassFile.FieldType.int)) ∈ gt := mem_gt 497 (by rfl) rfl
theorem gw_437 : (Jvm.Cond.methodLink "StackCoderLaw" (45 : Nat) ({ cls := "StackCoder", name := "code", desc := "(I)I" } : Jvm.MethodName)) ∈ gt := mem_gt 498 (by decide +kernel) rfl
theorem gw_438 : (Jvm.Cond.instanceMethod ({ cls := "StackCoder", name := "code", desc := "(I)I" } : Jvm.MethodName)) ∈ gt := mem_gt 499 (by decide +kernel) rfl
theorem gw_439 : (Jvm.Cond.selects "StackCoder" ({ cls := "StackCoder", name := "code", desc := "(I)I" } : Jvm.MethodName) ({ cls := "StackCoder", name := "code", desc := "(I)I" } : Jvm.MethodName)) ∈ gt := mem_gt 500 (by decide +kernel) rfl
set_option maxRecDepth 100000 in
theorem gw_440 : (Jvm.Cond.code ({ cls := "StackCoder", name := "code", desc := "(I)I" } : Jvm.MethodName) prog_1_method_7_code (2 : Nat) (Option.some Jvm.ClassFile.FieldType.int)) ∈ gt := mem_gt 501 (by rfl) rfl
theorem gw_441 : (Jvm.Cond.methodLink "StackCoder" (80 : Nat) ({ cls := "StackCoder$StackCode", name := "holds", desc := "(I)Z" } : Jvm.MethodName)) ∈ gt := mem_gt 502 (by decide +kernel) rfl
theorem gw_442 : (Jvm.Cond.instanceMethod ({ cls := "StackCoder$StackCode", name := "holds", desc := "(I)Z" } : Jvm.MethodName)) ∈ gt := mem_gt 503 (by decide +kernel) rfl
theorem gw_443 : (Jvm.Cond.selects "StackCoder$StackCode" ({ cls := "StackCoder$StackCode", name := "holds", desc := "(I)Z" } : Jvm.MethodName) ({ cls := "StackCoder$StackCode", name := "holds", desc := "(I)Z" } : Jvm.MethodName)) ∈ gt := mem_gt 504 (by decide +kernel) rfl
set_option maxRecDepth 100000 in
theorem gw_444 : (Jvm.Cond.code ({ cls := "StackCoder$StackCode", name := "holds", desc := "(I)Z" } : Jvm.MethodName) prog_6_method_14_code (2 : Nat) (Option.some Jvm.ClassFile.FieldType.boolean)) ∈ gt := mem_gt 505 (by rfl) rfl
theorem gw_445 : (Jvm.Cond.methodLink "StackCoder" (81 : Nat) ({ cls := "StackCoder$StackCode", name := "encoded", desc := "(I)I" } : Jvm.MethodName)) ∈ gt := mem_gt 506 (by decide +kernel) rfl
theorem gw_446 : (Jvm.Cond.instanceMethod ({ cls := "StackCoder$StackCode", name := "encoded", desc := "(I)I" } : Jvm.MethodName)) ∈ gt := mem_gt 507 (by decide +kernel) rfl
theorem gw_447 : (Jvm.Cond.selects "StackCoder$StackCode" ({ cls := "StackCoder$StackCode", name := "encoded", desc := "(I)I" } : Jvm.MethodName) ({ cls := "StackCoder$StackCode", name := "encoded", desc := "(I)I" } : Jvm.MethodName)) ∈ gt := mem_gt 508 (by decide +kernel) rfl
set_option maxRecDepth 100000 in
theorem gw_448 : (Jvm.Cond.code ({ cls := "StackCoder$StackCode", name := "encoded", desc := "(I)I" } : Jvm.MethodName) prog_6_method_19_code (3 : Nat) (Option.some Jvm.ClassFile.FieldType.int)) ∈ gt := mem_gt 509 (by rfl) rfl
theorem gw_449 : (Jvm.Cond.methodLink "StackCoderLaw" (50 : Nat) ({ cls := "StackCoder", name := "carried", desc := "(I)I" } : Jvm.MethodName)) ∈ gt := mem_gt 510 (by decide +kernel) rfl
theorem gw_450 : (Jvm.Cond.instanceMethod ({ cls := "StackCoder", name := "carried", desc := "(I)I" } : Jvm.MethodName)) ∈ gt := mem_gt 511 (by decide +kernel) rfl
theorem gw_451 : (Jvm.Cond.selects "StackCoder" ({ cls := "StackCoder", name := "carried", desc := "(I)I" } : Jvm.MethodName) ({ cls := "StackCoder", name := "carried", desc := "(I)I" } : Jvm.MethodName)) ∈ gt := mem_gt 512 (by decide +kernel) rfl
set_option maxRecDepth 100000 in
theorem gw_452 : (Jvm.Cond.code ({ cls := "StackCoder", name := "carried", desc := "(I)I" } : Jvm.MethodName) prog_1_method_8_code (2 : Nat) (Option.some Jvm.ClassFile.FieldType.int)) ∈ gt := mem_gt 513 (by rfl) rfl
theorem gw_453 : (Jvm.Cond.methodLink "StackCoder" (85 : Nat) ({ cls := "StackCoder$Carrying", name := "goalOf", desc := "(I)I" } : Jvm.MethodName)) ∈ gt := mem_gt 514 (by decide +kernel) rfl
theorem gw_454 : (Jvm.Cond.instanceMethod ({ cls := "StackCoder$Carrying", name := "goalOf", desc := "(I)I" } : Jvm.MethodName)) ∈ gt := mem_gt 515 (by decide +kernel) rfl
theorem gw_455 : (Jvm.Cond.selects "StackCoder$Carrying" ({ cls := "StackCoder$Carrying", name := "goalOf", desc := "(I)I" } : Jvm.MethodName) ({ cls := "StackCoder$Carrying", name := "goalOf", desc := "(I)I" } : Jvm.MethodName)) ∈ gt := mem_gt 516 (by decide +kernel) rfl
set_option maxRecDepth 100000 in
theorem gw_456 : (Jvm.Cond.code ({ cls := "StackCoder$Carrying", name := "goalOf", desc := "(I)I" } : Jvm.MethodName) prog_2_method_14_code (2 : Nat) (Option.some Jvm.ClassFile.FieldType.int)) ∈ gt := mem_gt 517 (by rfl) rfl
theorem gw_457 : (Jvm.Cond.methodLink "StackCoderLaw" (54 : Nat) ({ cls := "StackCoder", name := "need", desc := "(I)I" } : Jvm.MethodName)) ∈ gt := mem_gt 518 (by decide +kernel) rfl
theorem gw_458 : (Jvm.Cond.instanceMethod ({ cls := "StackCoder", name := "need", desc := "(I)I" } : Jvm.MethodName)) ∈ gt := mem_gt 519 (by decide +kernel) rfl
theorem gw_459 : (Jvm.Cond.selects "StackCoder" ({ cls := "StackCoder", name := "need", desc := "(I)I" } : Jvm.MethodName) ({ cls := "StackCoder", name := "need", desc := "(I)I" } : Jvm.MethodName)) ∈ gt := mem_gt 520 (by decide +kernel) rfl
set_option maxRecDepth 100000 in
theorem gw_460 : (Jvm.Cond.code ({ cls := "StackCoder", name := "need", desc := "(I)I" } : Jvm.MethodName) prog_1_method_9_code (2 : Nat) (Option.some Jvm.ClassFile.FieldType.int)) ∈ gt := mem_gt 521 (by rfl) rfl
theorem gw_461 : (Jvm.Cond.methodLink "StackCoder" (88 : Nat) ({ cls := "StackCoder$Carrying", name := "needOf", desc := "(I)I" } : Jvm.MethodName)) ∈ gt := mem_gt 522 (by decide +kernel) rfl
theorem gw_462 : (Jvm.Cond.instanceMethod ({ cls := "StackCoder$Carrying", name := "needOf", desc := "(I)I" } : Jvm.MethodName)) ∈ gt := mem_gt 523 (by decide +kernel) rfl
theorem gw_463 : (Jvm.Cond.selects "StackCoder$Carrying" ({ cls := "StackCoder$Carrying", name := "needOf", desc := "(I)I" } : Jvm.MethodName) ({ cls := "StackCoder$Carrying", name := "needOf", desc := "(I)I" } : Jvm.MethodName)) ∈ gt := mem_gt 524 (by decide +kernel) rfl
set_option maxRecDepth 100000 in
theorem gw_464 : (Jvm.Cond.code ({ cls := "StackCoder$Carrying", name := "needOf", desc := "(I)I" } : Jvm.MethodName) prog_2_method_18_code (2 : Nat) (Option.some Jvm.ClassFile.FieldType.int)) ∈ gt := mem_gt 525 (by rfl) rfl
theorem gw_465 : (Jvm.Cond.methodLink "StackCoderLaw" (58 : Nat) ({ cls := "StackCoder", name := "live", desc := "(I)I" } : Jvm.MethodName)) ∈ gt := mem_gt 526 (by decide +kernel) rfl
theorem gw_466 : (Jvm.Cond.instanceMethod ({ cls := "StackCoder", name := "live", desc := "(I)I" } : Jvm.MethodName)) ∈ gt := mem_gt 527 (by decide +kernel) rfl
theorem gw_467 : (Jvm.Cond.selects "StackCoder" ({ cls := "StackCoder", name := "live", desc := "(I)I" } : Jvm.MethodName) ({ cls := "StackCoder", name := "live", desc := "(I)I" } : Jvm.MethodName)) ∈ gt := mem_gt 528 (by decide +kernel) rfl
set_option maxRecDepth 100000 in
theorem gw_468 : (Jvm.Cond.code ({ cls := "StackCoder", name := "live", desc := "(I)I" } : Jvm.MethodName) prog_1_method_10_code (2 : Nat) (Option.some Jvm.ClassFile.FieldType.int)) ∈ gt := mem_gt 529 (by rfl) rfl
theorem gw_469 : (Jvm.Cond.methodLink "StackCoder" (91 : Nat) ({ cls := "StackCoder$Flow", name := "liveBefore", desc := "(I)I" } : Jvm.MethodName)) ∈ gt := mem_gt 530 (by decide +kernel) rfl
theorem gw_470 : (Jvm.Cond.methodLink "StackCoderLaw" (62 : Nat) ({ cls := "StackCoder", name := "stores", desc := "()I" } : Jvm.MethodName)) ∈ gt := mem_gt 531 (by decide +kernel) rfl
theorem gw_471 : (Jvm.Cond.instanceMethod ({ cls := "StackCoder", name := "stores", desc := "()I" } : Jvm.MethodName)) ∈ gt := mem_gt 532 (by decide +kernel) rfl
theorem gw_472 : (Jvm.Cond.selects "StackCoder" ({ cls := "StackCoder", name := "stores", desc := "()I" } : Jvm.MethodName) ({ cls := "StackCoder", name := "stores", desc := "()I" } : Jvm.MethodName)) ∈ gt := mem_gt 533 (by decide +kernel) rfl
set_option maxRecDepth 100000 in
theorem gw_473 : (Jvm.Cond.code ({ cls := "StackCoder", name := "stores", desc := "()I" } : Jvm.MethodName) prog_1_method_11_code (1 : Nat) (Option.some Jvm.ClassFile.FieldType.int)) ∈ gt := mem_gt 534 (by rfl) rfl
theorem gw_474 : (Jvm.Cond.methodLink "StackCoder" (94 : Nat) ({ cls := "StackCoder$StackCode", name := "putCount", desc := "()I" } : Jvm.MethodName)) ∈ gt := mem_gt 535 (by decide +kernel) rfl
theorem gw_475 : (Jvm.Cond.instanceMethod ({ cls := "StackCoder$StackCode", name := "putCount", desc := "()I" } : Jvm.MethodName)) ∈ gt := mem_gt 536 (by decide +kernel) rfl
theorem gw_476 : (Jvm.Cond.selects "StackCoder$StackCode" ({ cls := "StackCoder$StackCode", name := "putCount", desc := "()I" } : Jvm.MethodName) ({ cls := "StackCoder$StackCode", name := "putCount", desc := "()I" } : Jvm.MethodName)) ∈ gt := mem_gt 537 (by decide +kernel) rfl
set_option maxRecDepth 100000 in
theorem gw_477 : (Jvm.Cond.code ({ cls := "StackCoder$StackCode", name := "putCount", desc := "()I" } : Jvm.MethodName) prog_6_method_16_code (1 : Nat) (Option.some Jvm.ClassFile.FieldType.int)) ∈ gt := mem_gt 538 (by rfl) rfl
theorem gw_478 : (Jvm.Cond.methodLink "StackCoderLaw" (66 : Nat) ({ cls := "StackCoder", name := "depth", desc := "()I" } : Jvm.MethodName)) ∈ gt := mem_gt 539 (by decide +kernel) rfl
theorem gw_479 : (Jvm.Cond.instanceMethod ({ cls := "StackCoder", name := "depth", desc := "()I" } : Jvm.MethodName)) ∈ gt := mem_gt 540 (by decide +kernel) rfl
theorem gw_480 : (Jvm.Cond.selects "StackCoder" ({ cls := "StackCoder", name := "depth", desc := "()I" } : Jvm.MethodName) ({ cls := "StackCoder", name := "depth", desc := "()I" } : Jvm.MethodName)) ∈ gt := mem_gt 541 (by decide +kernel) rfl
set_option maxRecDepth 100000 in
theorem gw_481 : (Jvm.Cond.code ({ cls := "StackCoder", name := "depth", desc := "()I" } : Jvm.MethodName) prog_1_method_12_code (1 : Nat) (Option.some Jvm.ClassFile.FieldType.int)) ∈ gt := mem_gt 542 (by rfl) rfl
theorem gw_482 : (Jvm.Cond.methodLink "StackCoder" (97 : Nat) ({ cls := "StackCoder$Carrying", name := "greatestNeed", desc := "()I" } : Jvm.MethodName)) ∈ gt := mem_gt 543 (by decide +kernel) rfl
theorem gw_483 : (Jvm.Cond.instanceMethod ({ cls := "StackCoder$Carrying", name := "greatestNeed", desc := "()I" } : Jvm.MethodName)) ∈ gt := mem_gt 544 (by decide +kernel) rfl
theorem gw_484 : (Jvm.Cond.selects "StackCoder$Carrying" ({ cls := "StackCoder$Carrying", name := "greatestNeed", desc := "()I" } : Jvm.MethodName) ({ cls := "StackCoder$Carrying", name := "greatestNeed", desc := "()I" } : Jvm.MethodName)) ∈ gt := mem_gt 545 (by decide +kernel) rfl
set_option maxRecDepth 100000 in
theorem gw_485 : (Jvm.Cond.code ({ cls := "StackCoder$Carrying", name := "greatestNeed", desc := "()I" } : Jvm.MethodName) prog_2_method_19_code (3 : Nat) (Option.some Jvm.ClassFile.FieldType.int)) ∈ gt := mem_gt 546 (by rfl) rfl
theorem gw_486 : (Jvm.Cond.methodLink "StackCoderLaw" (70 : Nat) ({ cls := "StackCoder", name := "run", desc := "(I)I" } : Jvm.MethodName)) ∈ gt := mem_gt 547 (by decide +kernel) rfl
theorem gw_487 : (Jvm.Cond.instanceMethod ({ cls := "StackCoder", name := "run", desc := "(I)I" } : Jvm.MethodName)) ∈ gt := mem_gt 548 (by decide +kernel) rfl
theorem gw_488 : (Jvm.Cond.selects "StackCoder" ({ cls := "StackCoder", name := "run", desc := "(I)I" } : Jvm.MethodName) ({ cls := "StackCoder", name := "run", desc := "(I)I" } : Jvm.MethodName)) ∈ gt := mem_gt 549 (by decide +kernel) rfl
set_option maxRecDepth 100000 in
theorem gw_489 : (Jvm.Cond.code ({ cls := "StackCoder", name := "run", desc := "(I)I" } : Jvm.MethodName) prog_1_method_13_code (2 : Nat) (Option.some Jvm.ClassFile.FieldType.int)) ∈ gt := mem_gt 550 (by rfl) rfl
theorem gw_490 : (Jvm.Cond.methodLink "StackCoder" (100 : Nat) ({ cls := "StackCoder$Machine", name := "runInstructions", desc := "(LStackCoder$RegisterCode;)I" } : Jvm.MethodName)) ∈ gt := mem_gt 551 (by decide +kernel) rfl
theorem gw_491 : (Jvm.Cond.instanceMethod ({ cls := "StackCoder$Machine", name := "runInstructions", desc := "(LStackCoder$RegisterCode;)I" } : Jvm.MethodName)) ∈ gt := mem_gt 552 (by decide +kernel) rfl
theorem gw_492 : (Jvm.Cond.selects "StackCoder$Machine" ({ cls := "StackCoder$Machine", name := "runInstructions", desc := "(LStackCoder$RegisterCode;)I" } : Jvm.MethodName) ({ cls := "StackCoder$Machine", name := "runInstructions", desc := "(LStackCoder$RegisterCode;)I" } : Jvm.MethodName)) ∈ gt := mem_gt 553 (by decide +kernel) rfl
set_option maxRecDepth 100000 in
theorem gw_493 : (Jvm.Cond.code ({ cls := "StackCoder$Machine", name := "runInstructions", desc := "(LStackCoder$RegisterCode;)I" } : Jvm.MethodName) prog_4_method_2_code (4 : Nat) (Option.some Jvm.ClassFile.FieldType.int)) ∈ gt := mem_gt 554 (by rfl) rfl
theorem gw_494 : (Jvm.Cond.methodLink "StackCoder$Machine" (24 : Nat) ({ cls := "StackCoder$Machine", name := "reset", desc := "()V" } : Jvm.MethodName)) ∈ gt := mem_gt 555 (by decide +kernel) rfl
theorem gw_496 : (Jvm.Cond.instanceMethod ({ cls := "StackCoder$Machine", name := "reset", desc := "()V" } : Jvm.MethodName)) ∈ gt := mem_gt 557 (by decide +kernel) rfl
set_option maxRecDepth 100000 in
theorem gw_497 : (Jvm.Cond.code ({ cls := "StackCoder$Machine", name := "reset", desc := "()V" } : Jvm.MethodName) prog_4_method_4_code (2 : Nat) (Option.none : Option Jvm.ClassFile.FieldType)) ∈ gt := mem_gt 558 (by rfl) rfl
theorem gw_498 : (Jvm.Cond.methodLink "StackCoder$Machine" (27 : Nat) ({ cls := "StackCoder$RegisterCode", name := "holds", desc := "(I)Z" } : Jvm.MethodName)) ∈ gt := mem_gt 559 (by decide +kernel) rfl
theorem gw_499 : (Jvm.Cond.methodLink "StackCoder$Machine" (33 : Nat) ({ cls := "StackCoder$Machine", name := "followInstruction", desc := "(LStackCoder$RegisterCode;I)I" } : Jvm.MethodName)) ∈ gt := mem_gt 560 (by decide +kernel) rfl
theorem gw_501 : (Jvm.Cond.instanceMethod ({ cls := "StackCoder$Machine", name := "followInstruction", desc := "(LStackCoder$RegisterCode;I)I" } : Jvm.MethodName)) ∈ gt := mem_gt 562 (by decide +kernel) rfl
set_option maxRecDepth 100000 in
theorem gw_502 : (Jvm.Cond.code ({ cls := "StackCoder$Machine", name := "followInstruction", desc := "(LStackCoder$RegisterCode;I)I" } : Jvm.MethodName) prog_4_method_5_code (5 : Nat) (Option.some Jvm.ClassFile.FieldType.int)) ∈ gt := mem_gt 563 (by rfl) rfl
theorem gw_503 : (Jvm.Cond.methodLink "StackCoder$Machine" (61 : Nat) ({ cls := "StackCoder$RegisterCode", name := "aOf", desc := "(I)I" } : Jvm.MethodName)) ∈ gt := mem_gt 564 (by decide +kernel) rfl
theorem gw_504 : (Jvm.Cond.methodLink "StackCoder$Machine" (64 : Nat) ({ cls := "StackCoder$RegisterCode", name := "bOf", desc := "(I)I" } : Jvm.MethodName)) ∈ gt := mem_gt 565 (by decide +kernel) rfl
theorem gw_505 : (Jvm.Cond.methodLink "StackCoder$Machine" (67 : Nat) ({ cls := "StackCoder$RegisterCode", name := "operationOf", desc := "(I)I" } : Jvm.MethodName)) ∈ gt := mem_gt 566 (by decide +kernel) rfl
theorem gw_506 : (Jvm.Cond.methodLink "StackCoder$Machine" (70 : Nat) ({ cls := "StackCoder$Machine", name := "cellIndex", desc := "(I)I" } : Jvm.MethodName)) ∈ gt := mem_gt 567 (by decide +kernel) rfl
theorem gw_507 : (Jvm.Cond.static ({ cls := "StackCoder$Machine", name := "cellIndex", desc := "(I)I" } : Jvm.MethodName)) ∈ gt := mem_gt 568 (by decide +kernel) rfl
set_option maxRecDepth 100000 in
theorem gw_508 : (Jvm.Cond.code ({ cls := "StackCoder$Machine", name := "cellIndex", desc := "(I)I" } : Jvm.MethodName) prog_4_method_12_code (1 : Nat) (Option.some Jvm.ClassFile.FieldType.int)) ∈ gt := mem_gt 569 (by rfl) rfl
theorem gw_509 : (Jvm.Cond.methodLink "StackCoder$Machine" (73 : Nat) ({ cls := "StackCoder$Machine", name := "print", desc := "(I)V" } : Jvm.MethodName)) ∈ gt := mem_gt 570 (by decide +kernel) rfl
theorem gw_511 : (Jvm.Cond.instanceMethod ({ cls := "StackCoder$Machine", name := "print", desc := "(I)V" } : Jvm.MethodName)) ∈ gt := mem_gt 572 (by decide +kernel) rfl
set_option maxRecDepth 100000 in
theorem gw_512 : (Jvm.Cond.code ({ cls := "StackCoder$Machine", name := "print", desc := "(I)V" } : Jvm.MethodName) prog_4_method_11_code (2 : Nat) (Option.none : Option Jvm.ClassFile.FieldType)) ∈ gt := mem_gt 573 (by rfl) rfl
theorem gw_513 : (Jvm.Cond.methodLink "StackCoder$Machine" (77 : Nat) ({ cls := "StackCoder$RegisterCode", name := "dOf", desc := "(I)I" } : Jvm.MethodName)) ∈ gt := mem_gt 574 (by decide +kernel) rfl
theorem gw_514 : (Jvm.Cond.instanceMethod ({ cls := "StackCoder$RegisterCode", name := "dOf", desc := "(I)I" } : Jvm.MethodName)) ∈ gt := mem_gt 575 (by decide +kernel) rfl
theorem gw_515 : (Jvm.Cond.selects "StackCoder$RegisterCode" ({ cls := "StackCoder$RegisterCode", name := "dOf", desc := "(I)I" } : Jvm.MethodName) ({ cls := "StackCoder$RegisterCode", name := "dOf", desc := "(I)I" } : Jvm.MethodName)) ∈ gt := mem_gt 576 (by decide +kernel) rfl
set_option maxRecDepth 100000 in
theorem gw_516 : (Jvm.Cond.code ({ cls := "StackCoder$RegisterCode", name := "dOf", desc := "(I)I" } : Jvm.MethodName) prog_5_method_9_code (2 : Nat) (Option.some Jvm.ClassFile.FieldType.int)) ∈ gt := mem_gt 577 (by rfl) rfl
theorem gw_517 : (Jvm.Cond.methodLink "StackCoder$Machine" (80 : Nat) ({ cls := "StackCoder$Machine", name := "valueOf", desc := "(III)I" } : Jvm.MethodName)) ∈ gt := mem_gt 578 (by decide +kernel) rfl
theorem gw_519 : (Jvm.Cond.instanceMethod ({ cls := "StackCoder$Machine", name := "valueOf", desc := "(III)I" } : Jvm.MethodName)) ∈ gt := mem_gt 580 (by decide +kernel) rfl
set_option maxRecDepth 100000 in
theorem gw_520 : (Jvm.Cond.code ({ cls := "StackCoder$Machine", name := "valueOf", desc := "(III)I" } : Jvm.MethodName) prog_4_method_6_code (4 : Nat) (Option.some Jvm.ClassFile.FieldType.int)) ∈ gt := mem_gt 581 (by rfl) rfl
theorem gw_521 : (Jvm.Cond.methodLink "StackCoder" (104 : Nat) ({ cls := "StackCoder$Machine", name := "runOperations", desc := "(LStackCoder$StackCode;)I" } : Jvm.MethodName)) ∈ gt := mem_gt 582 (by decide +kernel) rfl
theorem gw_522 : (Jvm.Cond.instanceMethod ({ cls := "StackCoder$Machine", name := "runOperations", desc := "(LStackCoder$StackCode;)I" } : Jvm.MethodName)) ∈ gt := mem_gt 583 (by decide +kernel) rfl
theorem gw_523 : (Jvm.Cond.selects "StackCoder$Machine" ({ cls := "StackCoder$Machine", name := "runOperations", desc := "(LStackCoder$StackCode;)I" } : Jvm.MethodName) ({ cls := "StackCoder$Machine", name := "runOperations", desc := "(LStackCoder$StackCode;)I" } : Jvm.MethodName)) ∈ gt := mem_gt 584 (by decide +kernel) rfl
set_option maxRecDepth 100000 in
theorem gw_524 : (Jvm.Cond.code ({ cls := "StackCoder$Machine", name := "runOperations", desc := "(LStackCoder$StackCode;)I" } : Jvm.MethodName) prog_4_method_3_code (4 : Nat) (Option.some Jvm.ClassFile.FieldType.int)) ∈ gt := mem_gt 585 (by rfl) rfl
theorem gw_525 : (Jvm.Cond.methodLink "StackCoder$Machine" (44 : Nat) ({ cls := "StackCoder$StackCode", name := "holds", desc := "(I)Z" } : Jvm.MethodName)) ∈ gt := mem_gt 586 (by decide +kernel) rfl
theorem gw_526 : (Jvm.Cond.methodLink "StackCoder$Machine" (47 : Nat) ({ cls := "StackCoder$StackCode", name := "operationAt", desc := "(I)I" } : Jvm.MethodName)) ∈ gt := mem_gt 587 (by decide +kernel) rfl
theorem gw_527 : (Jvm.Cond.instanceMethod ({ cls := "StackCoder$StackCode", name := "operationAt", desc := "(I)I" } : Jvm.MethodName)) ∈ gt := mem_gt 588 (by decide +kernel) rfl
theorem gw_528 : (Jvm.Cond.selects "StackCoder$StackCode" ({ cls := "StackCoder$StackCode", name := "operationAt", desc := "(I)I" } : Jvm.MethodName) ({ cls := "StackCoder$StackCode", name := "operationAt", desc := "(I)I" } : Jvm.MethodName)) ∈ gt := mem_gt 589 (by decide +kernel) rfl
set_option maxRecDepth 100000 in
theorem gw_529 : (Jvm.Cond.code ({ cls := "StackCoder$StackCode", name := "operationAt", desc := "(I)I" } : Jvm.MethodName) prog_6_method_17_code (2 : Nat) (Option.some Jvm.ClassFile.FieldType.int)) ∈ gt := mem_gt 590 (by rfl) rfl
theorem gw_530 : (Jvm.Cond.methodLink "StackCoder$Machine" (51 : Nat) ({ cls := "StackCoder$StackCode", name := "numberAt", desc := "(I)I" } : Jvm.MethodName)) ∈ gt := mem_gt 591 (by decide +kernel) rfl
theorem gw_531 : (Jvm.Cond.instanceMethod ({ cls := "StackCoder$StackCode", name := "numberAt", desc := "(I)I" } : Jvm.MethodName)) ∈ gt := mem_gt 592 (by decide +kernel) rfl
theorem gw_532 : (Jvm.Cond.selects "StackCoder$StackCode" ({ cls := "StackCoder$StackCode", name := "numberAt", desc := "(I)I" } : Jvm.MethodName) ({ cls := "StackCoder$StackCode", name := "numberAt", desc := "(I)I" } : Jvm.MethodName)) ∈ gt := mem_gt 593 (by decide +kernel) rfl
set_option maxRecDepth 100000 in
theorem gw_533 : (Jvm.Cond.code ({ cls := "StackCoder$StackCode", name := "numberAt", desc := "(I)I" } : Jvm.MethodName) prog_6_method_18_code (2 : Nat) (Option.some Jvm.ClassFile.FieldType.int)) ∈ gt := mem_gt 594 (by rfl) rfl
theorem gw_534 : (Jvm.Cond.methodLink "StackCoder$Machine" (54 : Nat) ({ cls := "StackCoder$Machine", name := "followOperation", desc := "(III)I" } : Jvm.MethodName)) ∈ gt := mem_gt 595 (by decide +kernel) rfl
theorem gw_536 : (Jvm.Cond.instanceMethod ({ cls := "StackCoder$Machine", name := "followOperation", desc := "(III)I" } : Jvm.MethodName)) ∈ gt := mem_gt 597 (by decide +kernel) rfl
set_option maxRecDepth 100000 in
theorem gw_537 : (Jvm.Cond.code ({ cls := "StackCoder$Machine", name := "followOperation", desc := "(III)I" } : Jvm.MethodName) prog_4_method_7_code (4 : Nat) (Option.some Jvm.ClassFile.FieldType.int)) ∈ gt := mem_gt 598 (by rfl) rfl
theorem gw_538 : (Jvm.Cond.methodLink "StackCoder$Machine" (83 : Nat) ({ cls := "StackCoder$Machine", name := "push", desc := "(I)V" } : Jvm.MethodName)) ∈ gt := mem_gt 599 (by decide +kernel) rfl
theorem gw_540 : (Jvm.Cond.instanceMethod ({ cls := "StackCoder$Machine", name := "push", desc := "(I)V" } : Jvm.MethodName)) ∈ gt := mem_gt 601 (by decide +kernel) rfl
set_option maxRecDepth 100000 in
theorem gw_541 : (Jvm.Cond.code ({ cls := "StackCoder$Machine", name := "push", desc := "(I)V" } : Jvm.MethodName) prog_4_method_9_code (2 : Nat) (Option.none : Option Jvm.ClassFile.FieldType)) ∈ gt := mem_gt 602 (by rfl) rfl
theorem gw_542 : (Jvm.Cond.methodLink "StackCoder$Machine" (86 : Nat) ({ cls := "StackCoder$Machine", name := "pop", desc := "()I" } : Jvm.MethodName)) ∈ gt := mem_gt 603 (by decide +kernel) rfl
theorem gw_544 : (Jvm.Cond.instanceMethod ({ cls := "StackCoder$Machine", name := "pop", desc := "()I" } : Jvm.MethodName)) ∈ gt := mem_gt 605 (by decide +kernel) rfl
set_option maxRecDepth 100000 in
theorem gw_545 : (Jvm.Cond.code ({ cls := "StackCoder$Machine", name := "pop", desc := "()I" } : Jvm.MethodName) prog_4_method_10_code (1 : Nat) (Option.some Jvm.ClassFile.FieldType.int)) ∈ gt := mem_gt 606 (by rfl) rfl
theorem gw_546 : (Jvm.Cond.methodLink "StackCoder$Machine" (90 : Nat) ({ cls := "StackCoder$Machine", name := "joinTopTwo", desc := "(I)V" } : Jvm.MethodName)) ∈ gt := mem_gt 607 (by decide +kernel) rfl
theorem gw_548 : (Jvm.Cond.instanceMethod ({ cls := "StackCoder$Machine", name := "joinTopTwo", desc := "(I)V" } : Jvm.MethodName)) ∈ gt := mem_gt 609 (by decide +kernel) rfl
set_option maxRecDepth 100000 in
theorem gw_549 : (Jvm.Cond.code ({ cls := "StackCoder$Machine", name := "joinTopTwo", desc := "(I)V" } : Jvm.MethodName) prog_4_method_8_code (4 : Nat) (Option.none : Option Jvm.ClassFile.FieldType)) ∈ gt := mem_gt 610 (by rfl) rfl
theorem gw_550 : (Jvm.Cond.methodLink "StackCoderLaw" (74 : Nat) ({ cls := "StackCoder", name := "out", desc := "(I)I" } : Jvm.MethodName)) ∈ gt := mem_gt 611 (by decide +kernel) rfl
theorem gw_551 : (Jvm.Cond.instanceMethod ({ cls := "StackCoder", name := "out", desc := "(I)I" } : Jvm.MethodName)) ∈ gt := mem_gt 612 (by decide +kernel) rfl
theorem gw_552 : (Jvm.Cond.selects "StackCoder" ({ cls := "StackCoder", name := "out", desc := "(I)I" } : Jvm.MethodName) ({ cls := "StackCoder", name := "out", desc := "(I)I" } : Jvm.MethodName)) ∈ gt := mem_gt 613 (by decide +kernel) rfl
set_option maxRecDepth 100000 in
theorem gw_553 : (Jvm.Cond.code ({ cls := "StackCoder", name := "out", desc := "(I)I" } : Jvm.MethodName) prog_1_method_14_code (2 : Nat) (Option.some Jvm.ClassFile.FieldType.int)) ∈ gt := mem_gt 614 (by rfl) rfl
theorem gw_554 : (Jvm.Cond.methodLink "StackCoder" (108 : Nat) ({ cls := "StackCoder$Machine", name := "printedNumber", desc := "(I)I" } : Jvm.MethodName)) ∈ gt := mem_gt 615 (by decide +kernel) rfl
theorem gw_555 : (Jvm.Cond.instanceMethod ({ cls := "StackCoder$Machine", name := "printedNumber", desc := "(I)I" } : Jvm.MethodName)) ∈ gt := mem_gt 616 (by decide +kernel) rfl
theorem gw_556 : (Jvm.Cond.selects "StackCoder$Machine" ({ cls := "StackCoder$Machine", name := "printedNumber", desc := "(I)I" } : Jvm.MethodName) ({ cls := "StackCoder$Machine", name := "printedNumber", desc := "(I)I" } : Jvm.MethodName)) ∈ gt := mem_gt 617 (by decide +kernel) rfl
set_option maxRecDepth 100000 in
theorem gw_557 : (Jvm.Cond.code ({ cls := "StackCoder$Machine", name := "printedNumber", desc := "(I)I" } : Jvm.MethodName) prog_4_method_13_code (2 : Nat) (Option.some Jvm.ClassFile.FieldType.int)) ∈ gt := mem_gt 618 (by rfl) rfl
theorem gw_558 : (Jvm.Cond.methodLink "StackCoderLaw" (78 : Nat) ({ cls := "StackCoder", name := "steps", desc := "()I" } : Jvm.MethodName)) ∈ gt := mem_gt 619 (by decide +kernel) rfl
theorem gw_559 : (Jvm.Cond.instanceMethod ({ cls := "StackCoder", name := "steps", desc := "()I" } : Jvm.MethodName)) ∈ gt := mem_gt 620 (by decide +kernel) rfl
theorem gw_560 : (Jvm.Cond.selects "StackCoder" ({ cls := "StackCoder", name := "steps", desc := "()I" } : Jvm.MethodName) ({ cls := "StackCoder", name := "steps", desc := "()I" } : Jvm.MethodName)) ∈ gt := mem_gt 621 (by decide +kernel) rfl
set_option maxRecDepth 100000 in
theorem gw_561 : (Jvm.Cond.code ({ cls := "StackCoder", name := "steps", desc := "()I" } : Jvm.MethodName) prog_1_method_15_code (1 : Nat) (Option.some Jvm.ClassFile.FieldType.int)) ∈ gt := mem_gt 622 (by rfl) rfl
theorem gw_562 : (Jvm.Cond.methodLink "StackCoder" (111 : Nat) ({ cls := "StackCoder$Machine", name := "stepCount", desc := "()I" } : Jvm.MethodName)) ∈ gt := mem_gt 623 (by decide +kernel) rfl
theorem gw_563 : (Jvm.Cond.instanceMethod ({ cls := "StackCoder$Machine", name := "stepCount", desc := "()I" } : Jvm.MethodName)) ∈ gt := mem_gt 624 (by decide +kernel) rfl
theorem gw_564 : (Jvm.Cond.selects "StackCoder$Machine" ({ cls := "StackCoder$Machine", name := "stepCount", desc := "()I" } : Jvm.MethodName) ({ cls := "StackCoder$Machine", name := "stepCount", desc := "()I" } : Jvm.MethodName)) ∈ gt := mem_gt 625 (by decide +kernel) rfl
set_option maxRecDepth 100000 in
theorem gw_565 : (Jvm.Cond.code ({ cls := "StackCoder$Machine", name := "stepCount", desc := "()I" } : Jvm.MethodName) prog_4_method_14_code (1 : Nat) (Option.some Jvm.ClassFile.FieldType.int)) ∈ gt := mem_gt 626 (by rfl) rfl
theorem gw_566 : (Jvm.Cond.methodLink "StackCoderLaw" (82 : Nat) ({ cls := "StackCoder", name := "cell", desc := "(I)I" } : Jvm.MethodName)) ∈ gt := mem_gt 627 (by decide +kernel) rfl
theorem gw_567 : (Jvm.Cond.instanceMethod ({ cls := "StackCoder", name := "cell", desc := "(I)I" } : Jvm.MethodName)) ∈ gt := mem_gt 628 (by decide +kernel) rfl
theorem gw_568 : (Jvm.Cond.selects "StackCoder" ({ cls := "StackCoder", name := "cell", desc := "(I)I" } : Jvm.MethodName) ({ cls := "StackCoder", name := "cell", desc := "(I)I" } : Jvm.MethodName)) ∈ gt := mem_gt 629 (by decide +kernel) rfl
set_option maxRecDepth 100000 in
theorem gw_569 : (Jvm.Cond.code ({ cls := "StackCoder", name := "cell", desc := "(I)I" } : Jvm.MethodName) prog_1_method_16_code (2 : Nat) (Option.some Jvm.ClassFile.FieldType.int)) ∈ gt := mem_gt 630 (by rfl) rfl
theorem gw_570 : (Jvm.Cond.methodLink "StackCoder" (114 : Nat) ({ cls := "StackCoder$Machine", name := "cellValue", desc := "(I)I" } : Jvm.MethodName)) ∈ gt := mem_gt 631 (by decide +kernel) rfl
theorem gw_571 : (Jvm.Cond.instanceMethod ({ cls := "StackCoder$Machine", name := "cellValue", desc := "(I)I" } : Jvm.MethodName)) ∈ gt := mem_gt 632 (by decide +kernel) rfl
theorem gw_572 : (Jvm.Cond.selects "StackCoder$Machine" ({ cls := "StackCoder$Machine", name := "cellValue", desc := "(I)I" } : Jvm.MethodName) ({ cls := "StackCoder$Machine", name := "cellValue", desc := "(I)I" } : Jvm.MethodName)) ∈ gt := mem_gt 633 (by decide +kernel) rfl
set_option maxRecDepth 100000 in
theorem gw_573 : (Jvm.Cond.code ({ cls := "StackCoder$Machine", name := "cellValue", desc := "(I)I" } : Jvm.MethodName) prog_4_method_15_code (2 : Nat) (Option.some Jvm.ClassFile.FieldType.int)) ∈ gt := mem_gt 634 (by rfl) rfl
theorem gw_574 : (Jvm.Cond.methodLink "StackCoderLaw" (9 : Nat) ({ cls := "StackCoderLaw", name := "cell", desc := "([II)I" } : Jvm.MethodName)) ∈ gt := mem_gt 635 (by decide +kernel) rfl
theorem gw_575 : (Jvm.Cond.static ({ cls := "StackCoderLaw", name := "cell", desc := "([II)I" } : Jvm.MethodName)) ∈ gt := mem_gt 636 (by decide +kernel) rfl
set_option maxRecDepth 100000 in
theorem gw_576 : (Jvm.Cond.code ({ cls := "StackCoderLaw", name := "cell", desc := "([II)I" } : Jvm.MethodName) method_2_code (2 : Nat) (Option.some Jvm.ClassFile.FieldType.int)) ∈ gt := mem_gt 637 (by rfl) rfl
theorem gw_577 : (Jvm.Cond.classLink "StackCoderLaw" (18 : Nat) "StackCoderModel") ∈ gt := mem_gt 638 (by decide +kernel) rfl
theorem gw_578 : (Jvm.Cond.instantiable "StackCoderModel" (26 : Nat)) ∈ gt := mem_gt 639 (by decide +kernel) rfl
theorem gw_579 : (Jvm.Cond.methodLink "StackCoderLaw" (20 : Nat) ({ cls := "StackCoderModel", name := "<init>", desc := "(I)V" } : Jvm.MethodName)) ∈ gt := mem_gt 640 (by decide +kernel) rfl
theorem gw_580 : (Jvm.Cond.instanceMethod ({ cls := "StackCoderModel", name := "<init>", desc := "(I)V" } : Jvm.MethodName)) ∈ gt := mem_gt 641 (by decide +kernel) rfl
set_option maxRecDepth 100000 in
theorem gw_581 : (Jvm.Cond.code ({ cls := "StackCoderModel", name := "<init>", desc := "(I)V" } : Jvm.MethodName) prog_8_method_1_code (2 : Nat) (Option.none : Option Jvm.ClassFile.FieldType)) ∈ gt := mem_gt 642 (by rfl) rfl
theorem gw_582 : (Jvm.Cond.methodLink "StackCoderModel" (1 : Nat) ({ cls := "java/lang/Object", name := "<init>", desc := "()V" } : Jvm.MethodName)) ∈ gt := mem_gt 643 (by decide +kernel) rfl
theorem gw_583 : (Jvm.Cond.fieldLink "StackCoderModel" (71 : Nat) "StackCoderModel" "most" "I") ∈ gt := mem_gt 644 (by decide +kernel) rfl
theorem gw_584 : (Jvm.Cond.fieldLink "StackCoderModel" (87 : Nat) "StackCoderModel" "size" "I") ∈ gt := mem_gt 645 (by decide +kernel) rfl
theorem gw_585 : (Jvm.Cond.fieldLink "StackCoderModel" (7 : Nat) "StackCoderModel" "operation" "[I") ∈ gt := mem_gt 646 (by decide +kernel) rfl
theorem gw_586 : (Jvm.Cond.fieldLink "StackCoderModel" (13 : Nat) "StackCoderModel" "d" "[I") ∈ gt := mem_gt 647 (by decide +kernel) rfl
theorem gw_587 : (Jvm.Cond.fieldLink "StackCoderModel" (16 : Nat) "StackCoderModel" "a" "[I") ∈ gt := mem_gt 648 (by decide +kernel) rfl
theorem gw_588 : (Jvm.Cond.fieldLink "StackCoderModel" (19 : Nat) "StackCoderModel" "b" "[I") ∈ gt := mem_gt 649 (by decide +kernel) rfl
theorem gw_589 : (Jvm.Cond.fieldLink "StackCoderModel" (83 : Nat) "StackCoderModel" "known" "Z") ∈ gt := mem_gt 650 (by decide +kernel) rfl
theorem gw_590 : (Jvm.Cond.fieldLink "StackCoderModel" (22 : Nat) "StackCoderModel" "begins" "[Z") ∈ gt := mem_gt 651 (by decide +kernel) rfl
theorem gw_591 : (Jvm.Cond.fieldLink "StackCoderModel" (26 : Nat) "StackCoderModel" "alive" "[I") ∈ gt := mem_gt 652 (by decide +kernel) rfl
theorem gw_592 : (Jvm.Cond.fieldLink "StackCoderModel" (29 : Nat) "StackCoderModel" "into" "[I") ∈ gt := mem_gt 653 (by decide +kernel) rfl
theorem gw_593 : (Jvm.Cond.fieldLink "StackCoderModel" (32 : Nat) "StackCoderModel" "forA" "[I") ∈ gt := mem_gt 654 (by decide +kernel) rfl
theorem gw_594 : (Jvm.Cond.fieldLink "StackCoderModel" (35 : Nat) "StackCoderModel" "forB" "[I") ∈ gt := mem_gt 655 (by decide +kernel) rfl
theorem gw_595 : (Jvm.Cond.fieldLink "StackCoderModel" (38 : Nat) "StackCoderModel" "needs" "[I") ∈ gt := mem_gt 656 (by decide +kernel) rfl
theorem gw_596 : (Jvm.Cond.fieldLink "StackCoderModel" (41 : Nat) "StackCoderModel" "reads" "[I") ∈ gt := mem_gt 657 (by decide +kernel) rfl
theorem gw_597 : (Jvm.Cond.fieldLink "StackCoderModel" (44 : Nat) "StackCoderModel" "loads" "[Z") ∈ gt := mem_gt 658 (by decide +kernel) rfl
theorem gw_598 : (Jvm.Cond.fieldLink "StackCoderModel" (141 : Nat) "StackCoderModel" "length" "I") ∈ gt := mem_gt 659 (by decide +kernel) rfl
theorem gw_599 : (Jvm.Cond.fieldLink "StackCoderModel" (47 : Nat) "StackCoderModel" "op" "[I") ∈ gt := mem_gt 660 (by decide +kernel) rfl
theorem gw_600 : (Jvm.Cond.fieldLink "StackCoderModel" (50 : Nat) "StackCoderModel" "number" "[I") ∈ gt := mem_gt 661 (by decide +kernel) rfl
theorem gw_601 : (Jvm.Cond.fieldLink "StackCoderModel" (53 : Nat) "StackCoderModel" "place" "[I") ∈ gt := mem_gt 662 (by decide +kernel) rfl
theorem gw_602 : (Jvm.Cond.fieldLink "StackCoderModel" (56 : Nat) "StackCoderModel" "todo" "[I") ∈ gt := mem_gt 663 (by decide +kernel) rfl
theorem gw_603 : (Jvm.Cond.fieldLink "StackCoderModel" (173 : Nat) "StackCoderModel" "printed" "I") ∈ gt := mem_gt 664 (by decide +kernel) rfl
theorem gw_604 : (Jvm.Cond.fieldLink "StackCoderModel" (59 : Nat) "StackCoderModel" "outs" "[I") ∈ gt := mem_gt 665 (by decide +kernel) rfl
theorem gw_605 : (Jvm.Cond.fieldLink "StackCoderModel" (182 : Nat) "StackCoderModel" "done" "I") ∈ gt := mem_gt 666 (by decide +kernel) rfl
theorem gw_606 : (Jvm.Cond.fieldLink "StackCoderModel" (62 : Nat) "StackCoderModel" "memory" "[I") ∈ gt := mem_gt 667 (by decide +kernel) rfl
theorem gw_607 : (Jvm.Cond.fieldLink "StackCoderModel" (65 : Nat) "StackCoderModel" "register" "[I") ∈ gt := mem_gt 668 (by decide +kernel) rfl
theorem gw_608 : (Jvm.Cond.fieldLink "StackCoderModel" (68 : Nat) "StackCoderModel" "stack" "[I") ∈ gt := mem_gt 669 (by decide +kernel) rfl
theorem gw_609 : (Jvm.Cond.laysFinal "StackCoderModel" "StackCoderModel" "most" "I") ∈ gt := mem_gt 670 (by decide +kernel) rfl
theorem gw_611 : (Jvm.Cond.lays "StackCoderModel" "StackCoderModel" "size" "I") ∈ gt := mem_gt 672 (by decide +kernel) rfl
theorem gw_613 : (Jvm.Cond.laysFinal "StackCoderModel" "StackCoderModel" "operation" "[I") ∈ gt := mem_gt 674 (by decide +kernel) rfl
theorem gw_615 : (Jvm.Cond.laysFinal "StackCoderModel" "StackCoderModel" "d" "[I") ∈ gt := mem_gt 676 (by decide +kernel) rfl
theorem gw_617 : (Jvm.Cond.laysFinal "StackCoderModel" "StackCoderModel" "a" "[I") ∈ gt := mem_gt 678 (by decide +kernel) rfl
theorem gw_619 : (Jvm.Cond.laysFinal "StackCoderModel" "StackCoderModel" "b" "[I") ∈ gt := mem_gt 680 (by decide +kernel) rfl
theorem gw_621 : (Jvm.Cond.lays "StackCoderModel" "StackCoderModel" "known" "Z") ∈ gt := mem_gt 682 (by decide +kernel) rfl
theorem gw_623 : (Jvm.Cond.laysFinal "StackCoderModel" "StackCoderModel" "begins" "[Z") ∈ gt := mem_gt 684 (by decide +kernel) rfl
theorem gw_625 : (Jvm.Cond.laysFinal "StackCoderModel" "StackCoderModel" "alive" "[I") ∈ gt := mem_gt 686 (by decide +kernel) rfl
theorem gw_627 : (Jvm.Cond.laysFinal "StackCoderModel" "StackCoderModel" "into" "[I") ∈ gt := mem_gt 688 (by decide +kernel) rfl
theorem gw_629 : (Jvm.Cond.laysFinal "StackCoderModel" "StackCoderModel" "forA" "[I") ∈ gt := mem_gt 690 (by decide +kernel) rfl
theorem gw_631 : (Jvm.Cond.laysFinal "StackCoderModel" "StackCoderModel" "forB" "[I") ∈ gt := mem_gt 692 (by decide +kernel) rfl
theorem gw_633 : (Jvm.Cond.laysFinal "StackCoderModel" "StackCoderModel" "needs" "[I") ∈ gt := mem_gt 694 (by decide +kernel) rfl
theorem gw_635 : (Jvm.Cond.laysFinal "StackCoderModel" "StackCoderModel" "reads" "[I") ∈ gt := mem_gt 696 (by decide +kernel) rfl
theorem gw_637 : (Jvm.Cond.laysFinal "StackCoderModel" "StackCoderModel" "loads" "[Z") ∈ gt := mem_gt 698 (by decide +kernel) rfl
theorem gw_639 : (Jvm.Cond.lays "StackCoderModel" "StackCoderModel" "length" "I") ∈ gt := mem_gt 700 (by decide +kernel) rfl
theorem gw_641 : (Jvm.Cond.laysFinal "StackCoderModel" "StackCoderModel" "op" "[I") ∈ gt := mem_gt 702 (by decide +kernel) rfl
theorem gw_643 : (Jvm.Cond.laysFinal "StackCoderModel" "StackCoderModel" "number" "[I") ∈ gt := mem_gt 704 (by decide +kernel) rfl
theorem gw_645 : (Jvm.Cond.laysFinal "StackCoderModel" "StackCoderModel" "place" "[I") ∈ gt := mem_gt 706 (by decide +kernel) rfl
theorem gw_647 : (Jvm.Cond.laysFinal "StackCoderModel" "StackCoderModel" "todo" "[I") ∈ gt := mem_gt 708 (by decide +kernel) rfl
theorem gw_649 : (Jvm.Cond.lays "StackCoderModel" "StackCoderModel" "printed" "I") ∈ gt := mem_gt 710 (by decide +kernel) rfl
theorem gw_651 : (Jvm.Cond.laysFinal "StackCoderModel" "StackCoderModel" "outs" "[I") ∈ gt := mem_gt 712 (by decide +kernel) rfl
theorem gw_653 : (Jvm.Cond.lays "StackCoderModel" "StackCoderModel" "done" "I") ∈ gt := mem_gt 714 (by decide +kernel) rfl
theorem gw_655 : (Jvm.Cond.laysFinal "StackCoderModel" "StackCoderModel" "memory" "[I") ∈ gt := mem_gt 716 (by decide +kernel) rfl
theorem gw_657 : (Jvm.Cond.laysFinal "StackCoderModel" "StackCoderModel" "register" "[I") ∈ gt := mem_gt 718 (by decide +kernel) rfl
theorem gw_659 : (Jvm.Cond.laysFinal "StackCoderModel" "StackCoderModel" "stack" "[I") ∈ gt := mem_gt 720 (by decide +kernel) rfl
theorem gw_662 : (Jvm.Cond.methodLink "StackCoderLaw" (25 : Nat) ({ cls := "StackCoderModel", name := "add", desc := "(IIII)I" } : Jvm.MethodName)) ∈ gt := mem_gt 723 (by decide +kernel) rfl
theorem gw_663 : (Jvm.Cond.instanceMethod ({ cls := "StackCoderModel", name := "add", desc := "(IIII)I" } : Jvm.MethodName)) ∈ gt := mem_gt 724 (by decide +kernel) rfl
theorem gw_664 : (Jvm.Cond.selects "StackCoderModel" ({ cls := "StackCoderModel", name := "add", desc := "(IIII)I" } : Jvm.MethodName) ({ cls := "StackCoderModel", name := "add", desc := "(IIII)I" } : Jvm.MethodName)) ∈ gt := mem_gt 725 (by decide +kernel) rfl
set_option maxRecDepth 100000 in
theorem gw_665 : (Jvm.Cond.code ({ cls := "StackCoderModel", name := "add", desc := "(IIII)I" } : Jvm.MethodName) prog_8_method_6_code (5 : Nat) (Option.some Jvm.ClassFile.FieldType.int)) ∈ gt := mem_gt 726 (by rfl) rfl
theorem gw_666 : (Jvm.Cond.methodLink "StackCoderModel" (90 : Nat) ({ cls := "StackCoderModel", name := "isRight", desc := "(IIII)Z" } : Jvm.MethodName)) ∈ gt := mem_gt 727 (by decide +kernel) rfl
theorem gw_667 : (Jvm.Cond.static ({ cls := "StackCoderModel", name := "isRight", desc := "(IIII)Z" } : Jvm.MethodName)) ∈ gt := mem_gt 728 (by decide +kernel) rfl
set_option maxRecDepth 100000 in
theorem gw_668 : (Jvm.Cond.code ({ cls := "StackCoderModel", name := "isRight", desc := "(IIII)Z" } : Jvm.MethodName) prog_8_method_4_code (7 : Nat) (Option.some Jvm.ClassFile.FieldType.boolean)) ∈ gt := mem_gt 729 (by rfl) rfl
theorem gw_669 : (Jvm.Cond.methodLink "StackCoderModel" (75 : Nat) ({ cls := "StackCoderModel", name := "in", desc := "(III)Z" } : Jvm.MethodName)) ∈ gt := mem_gt 730 (by decide +kernel) rfl
theorem gw_670 : (Jvm.Cond.static ({ cls := "StackCoderModel", name := "in", desc := "(III)Z" } : Jvm.MethodName)) ∈ gt := mem_gt 731 (by decide +kernel) rfl
set_option maxRecDepth 100000 in
theorem gw_671 : (Jvm.Cond.code ({ cls := "StackCoderModel", name := "in", desc := "(III)Z" } : Jvm.MethodName) prog_8_method_2_code (3 : Nat) (Option.some Jvm.ClassFile.FieldType.boolean)) ∈ gt := mem_gt 732 (by rfl) rfl
theorem gw_672 : (Jvm.Cond.methodLink "StackCoderModel" (79 : Nat) ({ cls := "StackCoderModel", name := "isRegister", desc := "(I)Z" } : Jvm.MethodName)) ∈ gt := mem_gt 733 (by decide +kernel) rfl
theorem gw_673 : (Jvm.Cond.static ({ cls := "StackCoderModel", name := "isRegister", desc := "(I)Z" } : Jvm.MethodName)) ∈ gt := mem_gt 734 (by decide +kernel) rfl
set_option maxRecDepth 100000 in
theorem gw_674 : (Jvm.Cond.code ({ cls := "StackCoderModel", name := "isRegister", desc := "(I)Z" } : Jvm.MethodName) prog_8_method_3_code (1 : Nat) (Option.some Jvm.ClassFile.FieldType.boolean)) ∈ gt := mem_gt 735 (by rfl) rfl
theorem gw_675 : (Jvm.Cond.methodLink "StackCoderModel" (94 : Nat) ({ cls := "StackCoderModel", name := "put", desc := "(IIIII)V" } : Jvm.MethodName)) ∈ gt := mem_gt 736 (by decide +kernel) rfl
theorem gw_677 : (Jvm.Cond.instanceMethod ({ cls := "StackCoderModel", name := "put", desc := "(IIIII)V" } : Jvm.MethodName)) ∈ gt := mem_gt 738 (by decide +kernel) rfl
set_option maxRecDepth 100000 in
theorem gw_678 : (Jvm.Cond.code ({ cls := "StackCoderModel", name := "put", desc := "(IIIII)V" } : Jvm.MethodName) prog_8_method_5_code (6 : Nat) (Option.none : Option Jvm.ClassFile.FieldType)) ∈ gt := mem_gt 739 (by rfl) rfl
theorem gw_679 : (Jvm.Cond.methodLink "StackCoderLaw" (30 : Nat) ({ cls := "StackCoderModel", name := "set", desc := "(IIIII)Z" } : Jvm.MethodName)) ∈ gt := mem_gt 740 (by decide +kernel) rfl
theorem gw_680 : (Jvm.Cond.instanceMethod ({ cls := "StackCoderModel", name := "set", desc := "(IIIII)Z" } : Jvm.MethodName)) ∈ gt := mem_gt 741 (by decide +kernel) rfl
theorem gw_681 : (Jvm.Cond.selects "StackCoderModel" ({ cls := "StackCoderModel", name := "set", desc := "(IIIII)Z" } : Jvm.MethodName) ({ cls := "StackCoderModel", name := "set", desc := "(IIIII)Z" } : Jvm.MethodName)) ∈ gt := mem_gt 742 (by decide +kernel) rfl
set_option maxRecDepth 100000 in
theorem gw_682 : (Jvm.Cond.code ({ cls := "StackCoderModel", name := "set", desc := "(IIIII)Z" } : Jvm.MethodName) prog_8_method_7_code (6 : Nat) (Option.some Jvm.ClassFile.FieldType.boolean)) ∈ gt := mem_gt 743 (by rfl) rfl
theorem gw_683 : (Jvm.Cond.methodLink "StackCoderLaw" (35 : Nat) ({ cls := "StackCoderModel", name := "cut", desc := "(I)Z" } : Jvm.MethodName)) ∈ gt := mem_gt 744 (by decide +kernel) rfl
theorem gw_684 : (Jvm.Cond.instanceMethod ({ cls := "StackCoderModel", name := "cut", desc := "(I)Z" } : Jvm.MethodName)) ∈ gt := mem_gt 745 (by decide +kernel) rfl
theorem gw_685 : (Jvm.Cond.selects "StackCoderModel" ({ cls := "StackCoderModel", name := "cut", desc := "(I)Z" } : Jvm.MethodName) ({ cls := "StackCoderModel", name := "cut", desc := "(I)Z" } : Jvm.MethodName)) ∈ gt := mem_gt 746 (by decide +kernel) rfl
set_option maxRecDepth 100000 in
theorem gw_686 : (Jvm.Cond.code ({ cls := "StackCoderModel", name := "cut", desc := "(I)Z" } : Jvm.MethodName) prog_8_method_8_code (2 : Nat) (Option.some Jvm.ClassFile.FieldType.boolean)) ∈ gt := mem_gt 747 (by rfl) rfl
theorem gw_687 : (Jvm.Cond.methodLink "StackCoderLaw" (40 : Nat) ({ cls := "StackCoderModel", name := "size", desc := "()I" } : Jvm.MethodName)) ∈ gt := mem_gt 748 (by decide +kernel) rfl
theorem gw_688 : (Jvm.Cond.instanceMethod ({ cls := "StackCoderModel", name := "size", desc := "()I" } : Jvm.MethodName)) ∈ gt := mem_gt 749 (by decide +kernel) rfl
theorem gw_689 : (Jvm.Cond.selects "StackCoderModel" ({ cls := "StackCoderModel", name := "size", desc := "()I" } : Jvm.MethodName) ({ cls := "StackCoderModel", name := "size", desc := "()I" } : Jvm.MethodName)) ∈ gt := mem_gt 750 (by decide +kernel) rfl
set_option maxRecDepth 100000 in
theorem gw_690 : (Jvm.Cond.code ({ cls := "StackCoderModel", name := "size", desc := "()I" } : Jvm.MethodName) prog_8_method_9_code (1 : Nat) (Option.some Jvm.ClassFile.FieldType.int)) ∈ gt := mem_gt 751 (by rfl) rfl
theorem gw_691 : (Jvm.Cond.methodLink "StackCoderLaw" (44 : Nat) ({ cls := "StackCoderModel", name := "length", desc := "()I" } : Jvm.MethodName)) ∈ gt := mem_gt 752 (by decide +kernel) rfl
theorem gw_692 : (Jvm.Cond.instanceMethod ({ cls := "StackCoderModel", name := "length", desc := "()I" } : Jvm.MethodName)) ∈ gt := mem_gt 753 (by decide +kernel) rfl
theorem gw_693 : (Jvm.Cond.selects "StackCoderModel" ({ cls := "StackCoderModel", name := "length", desc := "()I" } : Jvm.MethodName) ({ cls := "StackCoderModel", name := "length", desc := "()I" } : Jvm.MethodName)) ∈ gt := mem_gt 754 (by decide +kernel) rfl
set_option maxRecDepth 100000 in
theorem gw_694 : (Jvm.Cond.code ({ cls := "StackCoderModel", name := "length", desc := "()I" } : Jvm.MethodName) prog_8_method_32_code (1 : Nat) (Option.some Jvm.ClassFile.FieldType.int)) ∈ gt := mem_gt 755 (by rfl) rfl
theorem gw_695 : (Jvm.Cond.methodLink "StackCoderModel" (170 : Nat) ({ cls := "StackCoderModel", name := "work", desc := "()V" } : Jvm.MethodName)) ∈ gt := mem_gt 756 (by decide +kernel) rfl
theorem gw_697 : (Jvm.Cond.instanceMethod ({ cls := "StackCoderModel", name := "work", desc := "()V" } : Jvm.MethodName)) ∈ gt := mem_gt 758 (by decide +kernel) rfl
set_option maxRecDepth 100000 in
theorem gw_698 : (Jvm.Cond.code ({ cls := "StackCoderModel", name := "work", desc := "()V" } : Jvm.MethodName) prog_8_method_31_code (2 : Nat) (Option.none : Option Jvm.ClassFile.FieldType)) ∈ gt := mem_gt 759 (by rfl) rfl
theorem gw_699 : (Jvm.Cond.methodLink "StackCoderModel" (155 : Nat) ({ cls := "StackCoderModel", name := "findBlocks", desc := "()V" } : Jvm.MethodName)) ∈ gt := mem_gt 760 (by decide +kernel) rfl
theorem gw_701 : (Jvm.Cond.instanceMethod ({ cls := "StackCoderModel", name := "findBlocks", desc := "()V" } : Jvm.MethodName)) ∈ gt := mem_gt 762 (by decide +kernel) rfl
set_option maxRecDepth 100000 in
theorem gw_702 : (Jvm.Cond.code ({ cls := "StackCoderModel", name := "findBlocks", desc := "()V" } : Jvm.MethodName) prog_8_method_16_code (2 : Nat) (Option.none : Option Jvm.ClassFile.FieldType)) ∈ gt := mem_gt 763 (by rfl) rfl
theorem gw_703 : (Jvm.Cond.methodLink "StackCoderModel" (107 : Nat) ({ cls := "StackCoderModel", name := "leaves", desc := "(I)Z" } : Jvm.MethodName)) ∈ gt := mem_gt 764 (by decide +kernel) rfl
theorem gw_705 : (Jvm.Cond.instanceMethod ({ cls := "StackCoderModel", name := "leaves", desc := "(I)Z" } : Jvm.MethodName)) ∈ gt := mem_gt 766 (by decide +kernel) rfl
set_option maxRecDepth 100000 in
theorem gw_706 : (Jvm.Cond.code ({ cls := "StackCoderModel", name := "leaves", desc := "(I)Z" } : Jvm.MethodName) prog_8_method_15_code (2 : Nat) (Option.some Jvm.ClassFile.FieldType.boolean)) ∈ gt := mem_gt 767 (by rfl) rfl
theorem gw_707 : (Jvm.Cond.methodLink "StackCoderModel" (158 : Nat) ({ cls := "StackCoderModel", name := "findAlive", desc := "()V" } : Jvm.MethodName)) ∈ gt := mem_gt 768 (by decide +kernel) rfl
theorem gw_709 : (Jvm.Cond.instanceMethod ({ cls := "StackCoderModel", name := "findAlive", desc := "()V" } : Jvm.MethodName)) ∈ gt := mem_gt 770 (by decide +kernel) rfl
set_option maxRecDepth 100000 in
theorem gw_710 : (Jvm.Cond.code ({ cls := "StackCoderModel", name := "findAlive", desc := "()V" } : Jvm.MethodName) prog_8_method_19_code (4 : Nat) (Option.none : Option Jvm.ClassFile.FieldType)) ∈ gt := mem_gt 771 (by rfl) rfl
theorem gw_711 : (Jvm.Cond.methodLink "StackCoderModel" (114 : Nat) ({ cls := "StackCoderModel", name := "behind", desc := "(I)I" } : Jvm.MethodName)) ∈ gt := mem_gt 772 (by decide +kernel) rfl
theorem gw_713 : (Jvm.Cond.instanceMethod ({ cls := "StackCoderModel", name := "behind", desc := "(I)I" } : Jvm.MethodName)) ∈ gt := mem_gt 774 (by decide +kernel) rfl
set_option maxRecDepth 100000 in
theorem gw_714 : (Jvm.Cond.code ({ cls := "StackCoderModel", name := "behind", desc := "(I)I" } : Jvm.MethodName) prog_8_method_17_code (2 : Nat) (Option.some Jvm.ClassFile.FieldType.int)) ∈ gt := mem_gt 775 (by rfl) rfl
theorem gw_715 : (Jvm.Cond.methodLink "StackCoderModel" (110 : Nat) ({ cls := "StackCoderModel", name := "aliveAt", desc := "(I)I" } : Jvm.MethodName)) ∈ gt := mem_gt 776 (by decide +kernel) rfl
theorem gw_717 : (Jvm.Cond.instanceMethod ({ cls := "StackCoderModel", name := "aliveAt", desc := "(I)I" } : Jvm.MethodName)) ∈ gt := mem_gt 778 (by decide +kernel) rfl
set_option maxRecDepth 100000 in
theorem gw_718 : (Jvm.Cond.code ({ cls := "StackCoderModel", name := "aliveAt", desc := "(I)I" } : Jvm.MethodName) prog_8_method_18_code (2 : Nat) (Option.some Jvm.ClassFile.FieldType.int)) ∈ gt := mem_gt 779 (by rfl) rfl
theorem gw_719 : (Jvm.Cond.methodLink "StackCoderModel" (98 : Nat) ({ cls := "StackCoderModel", name := "isWriter", desc := "(I)Z" } : Jvm.MethodName)) ∈ gt := mem_gt 780 (by decide +kernel) rfl
theorem gw_721 : (Jvm.Cond.instanceMethod ({ cls := "StackCoderModel", name := "isWriter", desc := "(I)Z" } : Jvm.MethodName)) ∈ gt := mem_gt 782 (by decide +kernel) rfl
set_option maxRecDepth 100000 in
theorem gw_722 : (Jvm.Cond.code ({ cls := "StackCoderModel", name := "isWriter", desc := "(I)Z" } : Jvm.MethodName) prog_8_method_10_code (2 : Nat) (Option.some Jvm.ClassFile.FieldType.boolean)) ∈ gt := mem_gt 783 (by rfl) rfl
theorem gw_723 : (Jvm.Cond.methodLink "StackCoderModel" (101 : Nat) ({ cls := "StackCoderModel", name := "readsA", desc := "(I)Z" } : Jvm.MethodName)) ∈ gt := mem_gt 784 (by decide +kernel) rfl
theorem gw_725 : (Jvm.Cond.instanceMethod ({ cls := "StackCoderModel", name := "readsA", desc := "(I)Z" } : Jvm.MethodName)) ∈ gt := mem_gt 786 (by decide +kernel) rfl
set_option maxRecDepth 100000 in
theorem gw_726 : (Jvm.Cond.code ({ cls := "StackCoderModel", name := "readsA", desc := "(I)Z" } : Jvm.MethodName) prog_8_method_12_code (2 : Nat) (Option.some Jvm.ClassFile.FieldType.boolean)) ∈ gt := mem_gt 787 (by rfl) rfl
theorem gw_727 : (Jvm.Cond.methodLink "StackCoderModel" (104 : Nat) ({ cls := "StackCoderModel", name := "readsB", desc := "(I)Z" } : Jvm.MethodName)) ∈ gt := mem_gt 788 (by decide +kernel) rfl
theorem gw_729 : (Jvm.Cond.instanceMethod ({ cls := "StackCoderModel", name := "readsB", desc := "(I)Z" } : Jvm.MethodName)) ∈ gt := mem_gt 790 (by decide +kernel) rfl
set_option maxRecDepth 100000 in
theorem gw_730 : (Jvm.Cond.code ({ cls := "StackCoderModel", name := "readsB", desc := "(I)Z" } : Jvm.MethodName) prog_8_method_13_code (2 : Nat) (Option.some Jvm.ClassFile.FieldType.boolean)) ∈ gt := mem_gt 791 (by rfl) rfl
theorem gw_731 : (Jvm.Cond.methodLink "StackCoderModel" (161 : Nat) ({ cls := "StackCoderModel", name := "settle", desc := "(I)V" } : Jvm.MethodName)) ∈ gt := mem_gt 792 (by decide +kernel) rfl
theorem gw_733 : (Jvm.Cond.instanceMethod ({ cls := "StackCoderModel", name := "settle", desc := "(I)V" } : Jvm.MethodName)) ∈ gt := mem_gt 794 (by decide +kernel) rfl
set_option maxRecDepth 100000 in
theorem gw_734 : (Jvm.Cond.code ({ cls := "StackCoderModel", name := "settle", desc := "(I)V" } : Jvm.MethodName) prog_8_method_25_code (6 : Nat) (Option.none : Option Jvm.ClassFile.FieldType)) ∈ gt := mem_gt 795 (by rfl) rfl
theorem gw_735 : (Jvm.Cond.methodLink "StackCoderModel" (131 : Nat) ({ cls := "StackCoderModel", name := "writerBefore", desc := "(II)I" } : Jvm.MethodName)) ∈ gt := mem_gt 796 (by decide +kernel) rfl
theorem gw_737 : (Jvm.Cond.instanceMethod ({ cls := "StackCoderModel", name := "writerBefore", desc := "(II)I" } : Jvm.MethodName)) ∈ gt := mem_gt 798 (by decide +kernel) rfl
set_option maxRecDepth 100000 in
theorem gw_738 : (Jvm.Cond.code ({ cls := "StackCoderModel", name := "writerBefore", desc := "(II)I" } : Jvm.MethodName) prog_8_method_21_code (4 : Nat) (Option.some Jvm.ClassFile.FieldType.int)) ∈ gt := mem_gt 799 (by rfl) rfl
theorem gw_739 : (Jvm.Cond.methodLink "StackCoderModel" (117 : Nat) ({ cls := "StackCoderModel", name := "writes", desc := "(II)Z" } : Jvm.MethodName)) ∈ gt := mem_gt 800 (by decide +kernel) rfl
theorem gw_741 : (Jvm.Cond.instanceMethod ({ cls := "StackCoderModel", name := "writes", desc := "(II)Z" } : Jvm.MethodName)) ∈ gt := mem_gt 802 (by decide +kernel) rfl
set_option maxRecDepth 100000 in
theorem gw_742 : (Jvm.Cond.code ({ cls := "StackCoderModel", name := "writes", desc := "(II)Z" } : Jvm.MethodName) prog_8_method_11_code (3 : Nat) (Option.some Jvm.ClassFile.FieldType.boolean)) ∈ gt := mem_gt 803 (by rfl) rfl
theorem gw_743 : (Jvm.Cond.methodLink "StackCoderModel" (134 : Nat) ({ cls := "StackCoderModel", name := "canCarry", desc := "(II)Z" } : Jvm.MethodName)) ∈ gt := mem_gt 804 (by decide +kernel) rfl
theorem gw_745 : (Jvm.Cond.instanceMethod ({ cls := "StackCoderModel", name := "canCarry", desc := "(II)Z" } : Jvm.MethodName)) ∈ gt := mem_gt 806 (by decide +kernel) rfl
set_option maxRecDepth 100000 in
theorem gw_746 : (Jvm.Cond.code ({ cls := "StackCoderModel", name := "canCarry", desc := "(II)Z" } : Jvm.MethodName) prog_8_method_23_code (8 : Nat) (Option.some Jvm.ClassFile.FieldType.boolean)) ∈ gt := mem_gt 807 (by rfl) rfl
theorem gw_747 : (Jvm.Cond.methodLink "StackCoderModel" (124 : Nat) ({ cls := "StackCoderModel", name := "nextWriter", desc := "(I)I" } : Jvm.MethodName)) ∈ gt := mem_gt 808 (by decide +kernel) rfl
theorem gw_749 : (Jvm.Cond.instanceMethod ({ cls := "StackCoderModel", name := "nextWriter", desc := "(I)I" } : Jvm.MethodName)) ∈ gt := mem_gt 810 (by decide +kernel) rfl
set_option maxRecDepth 100000 in
theorem gw_750 : (Jvm.Cond.code ({ cls := "StackCoderModel", name := "nextWriter", desc := "(I)I" } : Jvm.MethodName) prog_8_method_22_code (5 : Nat) (Option.some Jvm.ClassFile.FieldType.int)) ∈ gt := mem_gt 811 (by rfl) rfl
theorem gw_751 : (Jvm.Cond.methodLink "StackCoderModel" (121 : Nat) ({ cls := "StackCoderModel", name := "blockEnd", desc := "(I)I" } : Jvm.MethodName)) ∈ gt := mem_gt 812 (by decide +kernel) rfl
theorem gw_753 : (Jvm.Cond.instanceMethod ({ cls := "StackCoderModel", name := "blockEnd", desc := "(I)I" } : Jvm.MethodName)) ∈ gt := mem_gt 814 (by decide +kernel) rfl
set_option maxRecDepth 100000 in
theorem gw_754 : (Jvm.Cond.code ({ cls := "StackCoderModel", name := "blockEnd", desc := "(I)I" } : Jvm.MethodName) prog_8_method_20_code (3 : Nat) (Option.some Jvm.ClassFile.FieldType.int)) ∈ gt := mem_gt 815 (by rfl) rfl
theorem gw_755 : (Jvm.Cond.methodLink "StackCoderModel" (127 : Nat) ({ cls := "StackCoderModel", name := "times", desc := "(II)I" } : Jvm.MethodName)) ∈ gt := mem_gt 816 (by decide +kernel) rfl
theorem gw_757 : (Jvm.Cond.instanceMethod ({ cls := "StackCoderModel", name := "times", desc := "(II)I" } : Jvm.MethodName)) ∈ gt := mem_gt 818 (by decide +kernel) rfl
set_option maxRecDepth 100000 in
theorem gw_758 : (Jvm.Cond.code ({ cls := "StackCoderModel", name := "times", desc := "(II)I" } : Jvm.MethodName) prog_8_method_14_code (3 : Nat) (Option.some Jvm.ClassFile.FieldType.int)) ∈ gt := mem_gt 819 (by rfl) rfl
theorem gw_759 : (Jvm.Cond.methodLink "StackCoderModel" (137 : Nat) ({ cls := "StackCoderModel", name := "needOf", desc := "(III)I" } : Jvm.MethodName)) ∈ gt := mem_gt 820 (by decide +kernel) rfl
theorem gw_761 : (Jvm.Cond.instanceMethod ({ cls := "StackCoderModel", name := "needOf", desc := "(III)I" } : Jvm.MethodName)) ∈ gt := mem_gt 822 (by decide +kernel) rfl
set_option maxRecDepth 100000 in
theorem gw_762 : (Jvm.Cond.code ({ cls := "StackCoderModel", name := "needOf", desc := "(III)I" } : Jvm.MethodName) prog_8_method_24_code (6 : Nat) (Option.some Jvm.ClassFile.FieldType.int)) ∈ gt := mem_gt 823 (by rfl) rfl
theorem gw_763 : (Jvm.Cond.methodLink "StackCoderModel" (164 : Nat) ({ cls := "StackCoderModel", name := "writeTree", desc := "(I)V" } : Jvm.MethodName)) ∈ gt := mem_gt 824 (by decide +kernel) rfl
theorem gw_765 : (Jvm.Cond.instanceMethod ({ cls := "StackCoderModel", name := "writeTree", desc := "(I)V" } : Jvm.MethodName)) ∈ gt := mem_gt 826 (by decide +kernel) rfl
set_option maxRecDepth 100000 in
theorem gw_766 : (Jvm.Cond.code ({ cls := "StackCoderModel", name := "writeTree", desc := "(I)V" } : Jvm.MethodName) prog_8_method_28_code (4 : Nat) (Option.none : Option Jvm.ClassFile.FieldType)) ∈ gt := mem_gt 827 (by rfl) rfl
theorem gw_767 : (Jvm.Cond.methodLink "StackCoderModel" (148 : Nat) ({ cls := "StackCoderModel", name := "emitOperation", desc := "(I)V" } : Jvm.MethodName)) ∈ gt := mem_gt 828 (by decide +kernel) rfl
theorem gw_769 : (Jvm.Cond.instanceMethod ({ cls := "StackCoderModel", name := "emitOperation", desc := "(I)V" } : Jvm.MethodName)) ∈ gt := mem_gt 830 (by decide +kernel) rfl
set_option maxRecDepth 100000 in
theorem gw_770 : (Jvm.Cond.code ({ cls := "StackCoderModel", name := "emitOperation", desc := "(I)V" } : Jvm.MethodName) prog_8_method_27_code (3 : Nat) (Option.none : Option Jvm.ClassFile.FieldType)) ∈ gt := mem_gt 831 (by rfl) rfl
theorem gw_771 : (Jvm.Cond.methodLink "StackCoderModel" (144 : Nat) ({ cls := "StackCoderModel", name := "emit", desc := "(II)V" } : Jvm.MethodName)) ∈ gt := mem_gt 832 (by decide +kernel) rfl
theorem gw_773 : (Jvm.Cond.instanceMethod ({ cls := "StackCoderModel", name := "emit", desc := "(II)V" } : Jvm.MethodName)) ∈ gt := mem_gt 834 (by decide +kernel) rfl
set_option maxRecDepth 100000 in
theorem gw_774 : (Jvm.Cond.code ({ cls := "StackCoderModel", name := "emit", desc := "(II)V" } : Jvm.MethodName) prog_8_method_26_code (3 : Nat) (Option.none : Option Jvm.ClassFile.FieldType)) ∈ gt := mem_gt 835 (by rfl) rfl
theorem gw_775 : (Jvm.Cond.methodLink "StackCoderModel" (152 : Nat) ({ cls := "StackCoderModel", name := "open", desc := "(II)I" } : Jvm.MethodName)) ∈ gt := mem_gt 836 (by decide +kernel) rfl
theorem gw_777 : (Jvm.Cond.instanceMethod ({ cls := "StackCoderModel", name := "open", desc := "(II)I" } : Jvm.MethodName)) ∈ gt := mem_gt 838 (by decide +kernel) rfl
set_option maxRecDepth 100000 in
theorem gw_778 : (Jvm.Cond.code ({ cls := "StackCoderModel", name := "open", desc := "(II)I" } : Jvm.MethodName) prog_8_method_29_code (9 : Nat) (Option.some Jvm.ClassFile.FieldType.int)) ∈ gt := mem_gt 839 (by rfl) rfl
theorem gw_779 : (Jvm.Cond.methodLink "StackCoderModel" (167 : Nat) ({ cls := "StackCoderModel", name := "isWanted", desc := "(I)Z" } : Jvm.MethodName)) ∈ gt := mem_gt 840 (by decide +kernel) rfl
theorem gw_781 : (Jvm.Cond.instanceMethod ({ cls := "StackCoderModel", name := "isWanted", desc := "(I)Z" } : Jvm.MethodName)) ∈ gt := mem_gt 842 (by decide +kernel) rfl
set_option maxRecDepth 100000 in
theorem gw_782 : (Jvm.Cond.code ({ cls := "StackCoderModel", name := "isWanted", desc := "(I)Z" } : Jvm.MethodName) prog_8_method_30_code (6 : Nat) (Option.some Jvm.ClassFile.FieldType.boolean)) ∈ gt := mem_gt 843 (by rfl) rfl
theorem gw_783 : (Jvm.Cond.methodLink "StackCoderLaw" (49 : Nat) ({ cls := "StackCoderModel", name := "code", desc := "(I)I" } : Jvm.MethodName)) ∈ gt := mem_gt 844 (by decide +kernel) rfl
theorem gw_784 : (Jvm.Cond.instanceMethod ({ cls := "StackCoderModel", name := "code", desc := "(I)I" } : Jvm.MethodName)) ∈ gt := mem_gt 845 (by decide +kernel) rfl
theorem gw_785 : (Jvm.Cond.selects "StackCoderModel" ({ cls := "StackCoderModel", name := "code", desc := "(I)I" } : Jvm.MethodName) ({ cls := "StackCoderModel", name := "code", desc := "(I)I" } : Jvm.MethodName)) ∈ gt := mem_gt 846 (by decide +kernel) rfl
set_option maxRecDepth 100000 in
theorem gw_786 : (Jvm.Cond.code ({ cls := "StackCoderModel", name := "code", desc := "(I)I" } : Jvm.MethodName) prog_8_method_33_code (2 : Nat) (Option.some Jvm.ClassFile.FieldType.int)) ∈ gt := mem_gt 847 (by rfl) rfl
theorem gw_787 : (Jvm.Cond.methodLink "StackCoderLaw" (53 : Nat) ({ cls := "StackCoderModel", name := "carried", desc := "(I)I" } : Jvm.MethodName)) ∈ gt := mem_gt 848 (by decide +kernel) rfl
theorem gw_788 : (Jvm.Cond.instanceMethod ({ cls := "StackCoderModel", name := "carried", desc := "(I)I" } : Jvm.MethodName)) ∈ gt := mem_gt 849 (by decide +kernel) rfl
theorem gw_789 : (Jvm.Cond.selects "StackCoderModel" ({ cls := "StackCoderModel", name := "carried", desc := "(I)I" } : Jvm.MethodName) ({ cls := "StackCoderModel", name := "carried", desc := "(I)I" } : Jvm.MethodName)) ∈ gt := mem_gt 850 (by decide +kernel) rfl
set_option maxRecDepth 100000 in
theorem gw_790 : (Jvm.Cond.code ({ cls := "StackCoderModel", name := "carried", desc := "(I)I" } : Jvm.MethodName) prog_8_method_34_code (2 : Nat) (Option.some Jvm.ClassFile.FieldType.int)) ∈ gt := mem_gt 851 (by rfl) rfl
theorem gw_791 : (Jvm.Cond.methodLink "StackCoderLaw" (57 : Nat) ({ cls := "StackCoderModel", name := "need", desc := "(I)I" } : Jvm.MethodName)) ∈ gt := mem_gt 852 (by decide +kernel) rfl
theorem gw_792 : (Jvm.Cond.instanceMethod ({ cls := "StackCoderModel", name := "need", desc := "(I)I" } : Jvm.MethodName)) ∈ gt := mem_gt 853 (by decide +kernel) rfl
theorem gw_793 : (Jvm.Cond.selects "StackCoderModel" ({ cls := "StackCoderModel", name := "need", desc := "(I)I" } : Jvm.MethodName) ({ cls := "StackCoderModel", name := "need", desc := "(I)I" } : Jvm.MethodName)) ∈ gt := mem_gt 854 (by decide +kernel) rfl
set_option maxRecDepth 100000 in
theorem gw_794 : (Jvm.Cond.code ({ cls := "StackCoderModel", name := "need", desc := "(I)I" } : Jvm.MethodName) prog_8_method_35_code (2 : Nat) (Option.some Jvm.ClassFile.FieldType.int)) ∈ gt := mem_gt 855 (by rfl) rfl
theorem gw_795 : (Jvm.Cond.methodLink "StackCoderLaw" (61 : Nat) ({ cls := "StackCoderModel", name := "live", desc := "(I)I" } : Jvm.MethodName)) ∈ gt := mem_gt 856 (by decide +kernel) rfl
theorem gw_796 : (Jvm.Cond.instanceMethod ({ cls := "StackCoderModel", name := "live", desc := "(I)I" } : Jvm.MethodName)) ∈ gt := mem_gt 857 (by decide +kernel) rfl
theorem gw_797 : (Jvm.Cond.selects "StackCoderModel" ({ cls := "StackCoderModel", name := "live", desc := "(I)I" } : Jvm.MethodName) ({ cls := "StackCoderModel", name := "live", desc := "(I)I" } : Jvm.MethodName)) ∈ gt := mem_gt 858 (by decide +kernel) rfl
set_option maxRecDepth 100000 in
theorem gw_798 : (Jvm.Cond.code ({ cls := "StackCoderModel", name := "live", desc := "(I)I" } : Jvm.MethodName) prog_8_method_36_code (2 : Nat) (Option.some Jvm.ClassFile.FieldType.int)) ∈ gt := mem_gt 859 (by rfl) rfl
theorem gw_799 : (Jvm.Cond.methodLink "StackCoderLaw" (65 : Nat) ({ cls := "StackCoderModel", name := "stores", desc := "()I" } : Jvm.MethodName)) ∈ gt := mem_gt 860 (by decide +kernel) rfl
theorem gw_800 : (Jvm.Cond.instanceMethod ({ cls := "StackCoderModel", name := "stores", desc := "()I" } : Jvm.MethodName)) ∈ gt := mem_gt 861 (by decide +kernel) rfl
theorem gw_801 : (Jvm.Cond.selects "StackCoderModel" ({ cls := "StackCoderModel", name := "stores", desc := "()I" } : Jvm.MethodName) ({ cls := "StackCoderModel", name := "stores", desc := "()I" } : Jvm.MethodName)) ∈ gt := mem_gt 862 (by decide +kernel) rfl
set_option maxRecDepth 100000 in
theorem gw_802 : (Jvm.Cond.code ({ cls := "StackCoderModel", name := "stores", desc := "()I" } : Jvm.MethodName) prog_8_method_37_code (3 : Nat) (Option.some Jvm.ClassFile.FieldType.int)) ∈ gt := mem_gt 863 (by rfl) rfl
theorem gw_803 : (Jvm.Cond.methodLink "StackCoderLaw" (69 : Nat) ({ cls := "StackCoderModel", name := "depth", desc := "()I" } : Jvm.MethodName)) ∈ gt := mem_gt 864 (by decide +kernel) rfl
theorem gw_804 : (Jvm.Cond.instanceMethod ({ cls := "StackCoderModel", name := "depth", desc := "()I" } : Jvm.MethodName)) ∈ gt := mem_gt 865 (by decide +kernel) rfl
theorem gw_805 : (Jvm.Cond.selects "StackCoderModel" ({ cls := "StackCoderModel", name := "depth", desc := "()I" } : Jvm.MethodName) ({ cls := "StackCoderModel", name := "depth", desc := "()I" } : Jvm.MethodName)) ∈ gt := mem_gt 866 (by decide +kernel) rfl
set_option maxRecDepth 100000 in
theorem gw_806 : (Jvm.Cond.code ({ cls := "StackCoderModel", name := "depth", desc := "()I" } : Jvm.MethodName) prog_8_method_38_code (3 : Nat) (Option.some Jvm.ClassFile.FieldType.int)) ∈ gt := mem_gt 867 (by rfl) rfl
theorem gw_807 : (Jvm.Cond.methodLink "StackCoderLaw" (73 : Nat) ({ cls := "StackCoderModel", name := "run", desc := "(I)I" } : Jvm.MethodName)) ∈ gt := mem_gt 868 (by decide +kernel) rfl
theorem gw_808 : (Jvm.Cond.instanceMethod ({ cls := "StackCoderModel", name := "run", desc := "(I)I" } : Jvm.MethodName)) ∈ gt := mem_gt 869 (by decide +kernel) rfl
theorem gw_809 : (Jvm.Cond.selects "StackCoderModel" ({ cls := "StackCoderModel", name := "run", desc := "(I)I" } : Jvm.MethodName) ({ cls := "StackCoderModel", name := "run", desc := "(I)I" } : Jvm.MethodName)) ∈ gt := mem_gt 870 (by decide +kernel) rfl
set_option maxRecDepth 100000 in
theorem gw_810 : (Jvm.Cond.code ({ cls := "StackCoderModel", name := "run", desc := "(I)I" } : Jvm.MethodName) prog_8_method_44_code (3 : Nat) (Option.some Jvm.ClassFile.FieldType.int)) ∈ gt := mem_gt 871 (by rfl) rfl
theorem gw_811 : (Jvm.Cond.methodLink "StackCoderModel" (188 : Nat) ({ cls := "StackCoderModel", name := "runRegisters", desc := "()V" } : Jvm.MethodName)) ∈ gt := mem_gt 872 (by decide +kernel) rfl
theorem gw_813 : (Jvm.Cond.instanceMethod ({ cls := "StackCoderModel", name := "runRegisters", desc := "()V" } : Jvm.MethodName)) ∈ gt := mem_gt 874 (by decide +kernel) rfl
set_option maxRecDepth 100000 in
theorem gw_814 : (Jvm.Cond.code ({ cls := "StackCoderModel", name := "runRegisters", desc := "()V" } : Jvm.MethodName) prog_8_method_42_code (2 : Nat) (Option.none : Option Jvm.ClassFile.FieldType)) ∈ gt := mem_gt 875 (by rfl) rfl
theorem gw_815 : (Jvm.Cond.methodLink "StackCoderModel" (185 : Nat) ({ cls := "StackCoderModel", name := "instruct", desc := "(I)I" } : Jvm.MethodName)) ∈ gt := mem_gt 876 (by decide +kernel) rfl
theorem gw_817 : (Jvm.Cond.instanceMethod ({ cls := "StackCoderModel", name := "instruct", desc := "(I)I" } : Jvm.MethodName)) ∈ gt := mem_gt 878 (by decide +kernel) rfl
set_option maxRecDepth 100000 in
theorem gw_818 : (Jvm.Cond.code ({ cls := "StackCoderModel", name := "instruct", desc := "(I)I" } : Jvm.MethodName) prog_8_method_41_code (5 : Nat) (Option.some Jvm.ClassFile.FieldType.int)) ∈ gt := mem_gt 879 (by rfl) rfl
theorem gw_819 : (Jvm.Cond.methodLink "StackCoderModel" (176 : Nat) ({ cls := "StackCoderModel", name := "print", desc := "(I)V" } : Jvm.MethodName)) ∈ gt := mem_gt 880 (by decide +kernel) rfl
theorem gw_821 : (Jvm.Cond.instanceMethod ({ cls := "StackCoderModel", name := "print", desc := "(I)V" } : Jvm.MethodName)) ∈ gt := mem_gt 882 (by decide +kernel) rfl
set_option maxRecDepth 100000 in
theorem gw_822 : (Jvm.Cond.code ({ cls := "StackCoderModel", name := "print", desc := "(I)V" } : Jvm.MethodName) prog_8_method_39_code (2 : Nat) (Option.none : Option Jvm.ClassFile.FieldType)) ∈ gt := mem_gt 883 (by rfl) rfl
theorem gw_823 : (Jvm.Cond.methodLink "StackCoderModel" (179 : Nat) ({ cls := "StackCoderModel", name := "combine", desc := "(III)I" } : Jvm.MethodName)) ∈ gt := mem_gt 884 (by decide +kernel) rfl
theorem gw_824 : (Jvm.Cond.static ({ cls := "StackCoderModel", name := "combine", desc := "(III)I" } : Jvm.MethodName)) ∈ gt := mem_gt 885 (by decide +kernel) rfl
set_option maxRecDepth 100000 in
theorem gw_825 : (Jvm.Cond.code ({ cls := "StackCoderModel", name := "combine", desc := "(III)I" } : Jvm.MethodName) prog_8_method_40_code (3 : Nat) (Option.some Jvm.ClassFile.FieldType.int)) ∈ gt := mem_gt 886 (by rfl) rfl
theorem gw_826 : (Jvm.Cond.methodLink "StackCoderModel" (191 : Nat) ({ cls := "StackCoderModel", name := "runStack", desc := "()V" } : Jvm.MethodName)) ∈ gt := mem_gt 887 (by decide +kernel) rfl
theorem gw_828 : (Jvm.Cond.instanceMethod ({ cls := "StackCoderModel", name := "runStack", desc := "()V" } : Jvm.MethodName)) ∈ gt := mem_gt 889 (by decide +kernel) rfl
set_option maxRecDepth 100000 in
theorem gw_829 : (Jvm.Cond.code ({ cls := "StackCoderModel", name := "runStack", desc := "()V" } : Jvm.MethodName) prog_8_method_43_code (7 : Nat) (Option.none : Option Jvm.ClassFile.FieldType)) ∈ gt := mem_gt 890 (by rfl) rfl
theorem gw_830 : (Jvm.Cond.methodLink "StackCoderLaw" (77 : Nat) ({ cls := "StackCoderModel", name := "out", desc := "(I)I" } : Jvm.MethodName)) ∈ gt := mem_gt 891 (by decide +kernel) rfl
theorem gw_831 : (Jvm.Cond.instanceMethod ({ cls := "StackCoderModel", name := "out", desc := "(I)I" } : Jvm.MethodName)) ∈ gt := mem_gt 892 (by decide +kernel) rfl
theorem gw_832 : (Jvm.Cond.selects "StackCoderModel" ({ cls := "StackCoderModel", name := "out", desc := "(I)I" } : Jvm.MethodName) ({ cls := "StackCoderModel", name := "out", desc := "(I)I" } : Jvm.MethodName)) ∈ gt := mem_gt 893 (by decide +kernel) rfl
set_option maxRecDepth 100000 in
theorem gw_833 : (Jvm.Cond.code ({ cls := "StackCoderModel", name := "out", desc := "(I)I" } : Jvm.MethodName) prog_8_method_45_code (2 : Nat) (Option.some Jvm.ClassFile.FieldType.int)) ∈ gt := mem_gt 894 (by rfl) rfl
theorem gw_834 : (Jvm.Cond.methodLink "StackCoderLaw" (81 : Nat) ({ cls := "StackCoderModel", name := "steps", desc := "()I" } : Jvm.MethodName)) ∈ gt := mem_gt 895 (by decide +kernel) rfl
theorem gw_835 : (Jvm.Cond.instanceMethod ({ cls := "StackCoderModel", name := "steps", desc := "()I" } : Jvm.MethodName)) ∈ gt := mem_gt 896 (by decide +kernel) rfl
theorem gw_836 : (Jvm.Cond.selects "StackCoderModel" ({ cls := "StackCoderModel", name := "steps", desc := "()I" } : Jvm.MethodName) ({ cls := "StackCoderModel", name := "steps", desc := "()I" } : Jvm.MethodName)) ∈ gt := mem_gt 897 (by decide +kernel) rfl
set_option maxRecDepth 100000 in
theorem gw_837 : (Jvm.Cond.code ({ cls := "StackCoderModel", name := "steps", desc := "()I" } : Jvm.MethodName) prog_8_method_46_code (1 : Nat) (Option.some Jvm.ClassFile.FieldType.int)) ∈ gt := mem_gt 898 (by rfl) rfl
theorem gw_838 : (Jvm.Cond.methodLink "StackCoderLaw" (84 : Nat) ({ cls := "StackCoderModel", name := "cell", desc := "(I)I" } : Jvm.MethodName)) ∈ gt := mem_gt 899 (by decide +kernel) rfl
theorem gw_839 : (Jvm.Cond.instanceMethod ({ cls := "StackCoderModel", name := "cell", desc := "(I)I" } : Jvm.MethodName)) ∈ gt := mem_gt 900 (by decide +kernel) rfl
theorem gw_840 : (Jvm.Cond.selects "StackCoderModel" ({ cls := "StackCoderModel", name := "cell", desc := "(I)I" } : Jvm.MethodName) ({ cls := "StackCoderModel", name := "cell", desc := "(I)I" } : Jvm.MethodName)) ∈ gt := mem_gt 901 (by decide +kernel) rfl
set_option maxRecDepth 100000 in
theorem gw_841 : (Jvm.Cond.code ({ cls := "StackCoderModel", name := "cell", desc := "(I)I" } : Jvm.MethodName) prog_8_method_47_code (2 : Nat) (Option.some Jvm.ClassFile.FieldType.int)) ∈ gt := mem_gt 902 (by rfl) rfl
theorem gs_0 : (Cond.selects "StackCoder" ⟨"StackCoder", "translate", "()V"⟩ ⟨"StackCoder", "translate", "()V"⟩) ∈ gt := mem_gt 0 (by decide +kernel) rfl
theorem gs_1 : (Cond.selects "StackCoder$Flow" ⟨"StackCoder$Flow", "markBlocks", "()V"⟩ ⟨"StackCoder$Flow", "markBlocks", "()V"⟩) ∈ gt := mem_gt 1 (by decide +kernel) rfl
theorem gs_2 : (Cond.selects "StackCoder$Flow" ⟨"StackCoder$Flow", "markBegin", "(I)V"⟩ ⟨"StackCoder$Flow", "markBegin", "(I)V"⟩) ∈ gt := mem_gt 2 (by decide +kernel) rfl
theorem gs_3 : (Cond.selects "StackCoder$Flow" ⟨"StackCoder$Flow", "flowBack", "()Z"⟩ ⟨"StackCoder$Flow", "flowBack", "()Z"⟩) ∈ gt := mem_gt 3 (by decide +kernel) rfl
theorem gs_4 : (Cond.selects "StackCoder$Flow" ⟨"StackCoder$Flow", "gatherAfter", "(I)I"⟩ ⟨"StackCoder$Flow", "gatherAfter", "(I)I"⟩) ∈ gt := mem_gt 4 (by decide +kernel) rfl
theorem gs_5 : (Cond.selects "StackCoder$Carrying" ⟨"StackCoder$Carrying", "carryInto", "(I)V"⟩ ⟨"StackCoder$Carrying", "carryInto", "(I)V"⟩) ∈ gt := mem_gt 5 (by decide +kernel) rfl
theorem gs_6 : (Cond.selects "StackCoder$Carrying" ⟨"StackCoder$Carrying", "carriable", "(II)I"⟩ ⟨"StackCoder$Carrying", "carriable", "(II)I"⟩) ∈ gt := mem_gt 6 (by decide +kernel) rfl
theorem gs_7 : (Cond.selects "StackCoder$Carrying" ⟨"StackCoder$Carrying", "lastWriter", "(II)I"⟩ ⟨"StackCoder$Carrying", "lastWriter", "(II)I"⟩) ∈ gt := mem_gt 7 (by decide +kernel) rfl
theorem gs_8 : (Cond.selects "StackCoder$Carrying" ⟨"StackCoder$Carrying", "isReadByNoneBut", "(II)Z"⟩ ⟨"StackCoder$Carrying", "isReadByNoneBut", "(II)Z"⟩) ∈ gt := mem_gt 8 (by decide +kernel) rfl
theorem gs_9 : (Cond.selects "StackCoder$Carrying" ⟨"StackCoder$Carrying", "canWait", "(II)Z"⟩ ⟨"StackCoder$Carrying", "canWait", "(II)Z"⟩) ∈ gt := mem_gt 9 (by decide +kernel) rfl
theorem gs_10 : (Cond.selects "StackCoder$Carrying" ⟨"StackCoder$Carrying", "needWith", "(III)I"⟩ ⟨"StackCoder$Carrying", "needWith", "(III)I"⟩) ∈ gt := mem_gt 10 (by decide +kernel) rfl
theorem gs_11 : (Cond.selects "StackCoder$Carrying" ⟨"StackCoder$Carrying", "thingNeed", "(I)I"⟩ ⟨"StackCoder$Carrying", "thingNeed", "(I)I"⟩) ∈ gt := mem_gt 11 (by decide +kernel) rfl
theorem gs_12 : (Cond.selects "StackCoder$Carrying" ⟨"StackCoder$Carrying", "noteTree", "(I)V"⟩ ⟨"StackCoder$Carrying", "noteTree", "(I)V"⟩) ∈ gt := mem_gt 12 (by decide +kernel) rfl
theorem gs_13 : (Cond.selects "StackCoder$Carrying" ⟨"StackCoder$Carrying", "thingReads", "(II)I"⟩ ⟨"StackCoder$Carrying", "thingReads", "(II)I"⟩) ∈ gt := mem_gt 13 (by decide +kernel) rfl
theorem gs_14 : (Cond.selects "StackCoder$Carrying" ⟨"StackCoder$Carrying", "thingLoads", "(I)Z"⟩ ⟨"StackCoder$Carrying", "thingLoads", "(I)Z"⟩) ∈ gt := mem_gt 14 (by decide +kernel) rfl
theorem gs_15 : (Cond.selects "StackCoder$StackCode" ⟨"StackCoder$StackCode", "widthOf", "(I)I"⟩ ⟨"StackCoder$StackCode", "widthOf", "(I)I"⟩) ∈ gt := mem_gt 15 (by decide +kernel) rfl
theorem gs_16 : (Cond.selects "StackCoder$StackCode" ⟨"StackCoder$StackCode", "thingWidth", "(II)I"⟩ ⟨"StackCoder$StackCode", "thingWidth", "(II)I"⟩) ∈ gt := mem_gt 16 (by decide +kernel) rfl
theorem gs_17 : (Cond.selects "StackCoder$StackCode" ⟨"StackCoder$StackCode", "needsSwap", "(I)Z"⟩ ⟨"StackCoder$StackCode", "needsSwap", "(I)Z"⟩) ∈ gt := mem_gt 17 (by decide +kernel) rfl
theorem gs_18 : (Cond.selects "StackCoder$StackCode" ⟨"StackCoder$StackCode", "leavesValue", "(I)Z"⟩ ⟨"StackCoder$StackCode", "leavesValue", "(I)Z"⟩) ∈ gt := mem_gt 18 (by decide +kernel) rfl
theorem gs_19 : (Cond.selects "StackCoder$StackCode" ⟨"StackCoder$StackCode", "writeInstruction", "(I)V"⟩ ⟨"StackCoder$StackCode", "writeInstruction", "(I)V"⟩) ∈ gt := mem_gt 19 (by decide +kernel) rfl
theorem gs_20 : (Cond.selects "StackCoder$StackCode" ⟨"StackCoder$StackCode", "writeThings", "(II)I"⟩ ⟨"StackCoder$StackCode", "writeThings", "(II)I"⟩) ∈ gt := mem_gt 20 (by decide +kernel) rfl
theorem gs_21 : (Cond.selects "StackCoder$StackCode" ⟨"StackCoder$StackCode", "writeThing", "(III)I"⟩ ⟨"StackCoder$StackCode", "writeThing", "(III)I"⟩) ∈ gt := mem_gt 21 (by decide +kernel) rfl
theorem gs_22 : (Cond.selects "StackCoder$StackCode" ⟨"StackCoder$StackCode", "write", "(III)I"⟩ ⟨"StackCoder$StackCode", "write", "(III)I"⟩) ∈ gt := mem_gt 22 (by decide +kernel) rfl
theorem gs_23 : (Cond.selects "StackCoder$StackCode" ⟨"StackCoder$StackCode", "ownNumber", "(I)I"⟩ ⟨"StackCoder$StackCode", "ownNumber", "(I)I"⟩) ∈ gt := mem_gt 23 (by decide +kernel) rfl
theorem gs_24 : (Cond.selects "StackCoder$StackCode" ⟨"StackCoder$StackCode", "startFrom", "(I)I"⟩ ⟨"StackCoder$StackCode", "startFrom", "(I)I"⟩) ∈ gt := mem_gt 24 (by decide +kernel) rfl
theorem gs_25 : (Cond.selects "StackCoder$StackCode" ⟨"StackCoder$StackCode", "writeEnd", "(II)V"⟩ ⟨"StackCoder$StackCode", "writeEnd", "(II)V"⟩) ∈ gt := mem_gt 25 (by decide +kernel) rfl
theorem gs_26 : (Cond.selects "StackCoder$Machine" ⟨"StackCoder$Machine", "reset", "()V"⟩ ⟨"StackCoder$Machine", "reset", "()V"⟩) ∈ gt := mem_gt 26 (by decide +kernel) rfl
theorem gs_27 : (Cond.selects "StackCoder$Machine" ⟨"StackCoder$Machine", "followInstruction", "(LStackCoder$RegisterCode;I)I"⟩ ⟨"StackCoder$Machine", "followInstruction", "(LStackCoder$RegisterCode;I)I"⟩) ∈ gt := mem_gt 27 (by decide +kernel) rfl
theorem gs_28 : (Cond.selects "StackCoder$Machine" ⟨"StackCoder$Machine", "print", "(I)V"⟩ ⟨"StackCoder$Machine", "print", "(I)V"⟩) ∈ gt := mem_gt 28 (by decide +kernel) rfl
theorem gs_29 : (Cond.selects "StackCoder$Machine" ⟨"StackCoder$Machine", "valueOf", "(III)I"⟩ ⟨"StackCoder$Machine", "valueOf", "(III)I"⟩) ∈ gt := mem_gt 29 (by decide +kernel) rfl
theorem gs_30 : (Cond.selects "StackCoder$Machine" ⟨"StackCoder$Machine", "followOperation", "(III)I"⟩ ⟨"StackCoder$Machine", "followOperation", "(III)I"⟩) ∈ gt := mem_gt 30 (by decide +kernel) rfl
theorem gs_31 : (Cond.selects "StackCoder$Machine" ⟨"StackCoder$Machine", "push", "(I)V"⟩ ⟨"StackCoder$Machine", "push", "(I)V"⟩) ∈ gt := mem_gt 31 (by decide +kernel) rfl
theorem gs_32 : (Cond.selects "StackCoder$Machine" ⟨"StackCoder$Machine", "pop", "()I"⟩ ⟨"StackCoder$Machine", "pop", "()I"⟩) ∈ gt := mem_gt 32 (by decide +kernel) rfl
theorem gs_33 : (Cond.selects "StackCoder$Machine" ⟨"StackCoder$Machine", "joinTopTwo", "(I)V"⟩ ⟨"StackCoder$Machine", "joinTopTwo", "(I)V"⟩) ∈ gt := mem_gt 33 (by decide +kernel) rfl
theorem gs_34 : (Cond.selects "StackCoderModel" ⟨"StackCoderModel", "put", "(IIIII)V"⟩ ⟨"StackCoderModel", "put", "(IIIII)V"⟩) ∈ gt := mem_gt 34 (by decide +kernel) rfl
theorem gs_35 : (Cond.selects "StackCoderModel" ⟨"StackCoderModel", "work", "()V"⟩ ⟨"StackCoderModel", "work", "()V"⟩) ∈ gt := mem_gt 35 (by decide +kernel) rfl
theorem gs_36 : (Cond.selects "StackCoderModel" ⟨"StackCoderModel", "findBlocks", "()V"⟩ ⟨"StackCoderModel", "findBlocks", "()V"⟩) ∈ gt := mem_gt 36 (by decide +kernel) rfl
theorem gs_37 : (Cond.selects "StackCoderModel" ⟨"StackCoderModel", "leaves", "(I)Z"⟩ ⟨"StackCoderModel", "leaves", "(I)Z"⟩) ∈ gt := mem_gt 37 (by decide +kernel) rfl
theorem gs_38 : (Cond.selects "StackCoderModel" ⟨"StackCoderModel", "findAlive", "()V"⟩ ⟨"StackCoderModel", "findAlive", "()V"⟩) ∈ gt := mem_gt 38 (by decide +kernel) rfl
theorem gs_39 : (Cond.selects "StackCoderModel" ⟨"StackCoderModel", "behind", "(I)I"⟩ ⟨"StackCoderModel", "behind", "(I)I"⟩) ∈ gt := mem_gt 39 (by decide +kernel) rfl
theorem gs_40 : (Cond.selects "StackCoderModel" ⟨"StackCoderModel", "aliveAt", "(I)I"⟩ ⟨"StackCoderModel", "aliveAt", "(I)I"⟩) ∈ gt := mem_gt 40 (by decide +kernel) rfl
theorem gs_41 : (Cond.selects "StackCoderModel" ⟨"StackCoderModel", "isWriter", "(I)Z"⟩ ⟨"StackCoderModel", "isWriter", "(I)Z"⟩) ∈ gt := mem_gt 41 (by decide +kernel) rfl
theorem gs_42 : (Cond.selects "StackCoderModel" ⟨"StackCoderModel", "readsA", "(I)Z"⟩ ⟨"StackCoderModel", "readsA", "(I)Z"⟩) ∈ gt := mem_gt 42 (by decide +kernel) rfl
theorem gs_43 : (Cond.selects "StackCoderModel" ⟨"StackCoderModel", "readsB", "(I)Z"⟩ ⟨"StackCoderModel", "readsB", "(I)Z"⟩) ∈ gt := mem_gt 43 (by decide +kernel) rfl
theorem gs_44 : (Cond.selects "StackCoderModel" ⟨"StackCoderModel", "settle", "(I)V"⟩ ⟨"StackCoderModel", "settle", "(I)V"⟩) ∈ gt := mem_gt 44 (by decide +kernel) rfl
theorem gs_45 : (Cond.selects "StackCoderModel" ⟨"StackCoderModel", "writerBefore", "(II)I"⟩ ⟨"StackCoderModel", "writerBefore", "(II)I"⟩) ∈ gt := mem_gt 45 (by decide +kernel) rfl
theorem gs_46 : (Cond.selects "StackCoderModel" ⟨"StackCoderModel", "writes", "(II)Z"⟩ ⟨"StackCoderModel", "writes", "(II)Z"⟩) ∈ gt := mem_gt 46 (by decide +kernel) rfl
theorem gs_47 : (Cond.selects "StackCoderModel" ⟨"StackCoderModel", "canCarry", "(II)Z"⟩ ⟨"StackCoderModel", "canCarry", "(II)Z"⟩) ∈ gt := mem_gt 47 (by decide +kernel) rfl
theorem gs_48 : (Cond.selects "StackCoderModel" ⟨"StackCoderModel", "nextWriter", "(I)I"⟩ ⟨"StackCoderModel", "nextWriter", "(I)I"⟩) ∈ gt := mem_gt 48 (by decide +kernel) rfl
theorem gs_49 : (Cond.selects "StackCoderModel" ⟨"StackCoderModel", "blockEnd", "(I)I"⟩ ⟨"StackCoderModel", "blockEnd", "(I)I"⟩) ∈ gt := mem_gt 49 (by decide +kernel) rfl
theorem gs_50 : (Cond.selects "StackCoderModel" ⟨"StackCoderModel", "times", "(II)I"⟩ ⟨"StackCoderModel", "times", "(II)I"⟩) ∈ gt := mem_gt 50 (by decide +kernel) rfl
theorem gs_51 : (Cond.selects "StackCoderModel" ⟨"StackCoderModel", "needOf", "(III)I"⟩ ⟨"StackCoderModel", "needOf", "(III)I"⟩) ∈ gt := mem_gt 51 (by decide +kernel) rfl
theorem gs_52 : (Cond.selects "StackCoderModel" ⟨"StackCoderModel", "writeTree", "(I)V"⟩ ⟨"StackCoderModel", "writeTree", "(I)V"⟩) ∈ gt := mem_gt 52 (by decide +kernel) rfl
theorem gs_53 : (Cond.selects "StackCoderModel" ⟨"StackCoderModel", "emitOperation", "(I)V"⟩ ⟨"StackCoderModel", "emitOperation", "(I)V"⟩) ∈ gt := mem_gt 53 (by decide +kernel) rfl
theorem gs_54 : (Cond.selects "StackCoderModel" ⟨"StackCoderModel", "emit", "(II)V"⟩ ⟨"StackCoderModel", "emit", "(II)V"⟩) ∈ gt := mem_gt 54 (by decide +kernel) rfl
theorem gs_55 : (Cond.selects "StackCoderModel" ⟨"StackCoderModel", "open", "(II)I"⟩ ⟨"StackCoderModel", "open", "(II)I"⟩) ∈ gt := mem_gt 55 (by decide +kernel) rfl
theorem gs_56 : (Cond.selects "StackCoderModel" ⟨"StackCoderModel", "isWanted", "(I)Z"⟩ ⟨"StackCoderModel", "isWanted", "(I)Z"⟩) ∈ gt := mem_gt 56 (by decide +kernel) rfl
theorem gs_57 : (Cond.selects "StackCoderModel" ⟨"StackCoderModel", "runRegisters", "()V"⟩ ⟨"StackCoderModel", "runRegisters", "()V"⟩) ∈ gt := mem_gt 57 (by decide +kernel) rfl
theorem gs_58 : (Cond.selects "StackCoderModel" ⟨"StackCoderModel", "instruct", "(I)I"⟩ ⟨"StackCoderModel", "instruct", "(I)I"⟩) ∈ gt := mem_gt 58 (by decide +kernel) rfl
theorem gs_59 : (Cond.selects "StackCoderModel" ⟨"StackCoderModel", "print", "(I)V"⟩ ⟨"StackCoderModel", "print", "(I)V"⟩) ∈ gt := mem_gt 59 (by decide +kernel) rfl
theorem gs_60 : (Cond.selects "StackCoderModel" ⟨"StackCoderModel", "runStack", "()V"⟩ ⟨"StackCoderModel", "runStack", "()V"⟩) ∈ gt := mem_gt 60 (by decide +kernel) rfl
theorem in_SC : ∀ w ∈ u_ws R_SC T_SC 6, w ∈ gt := List.forall_mem_cons.mpr ⟨gw_171, List.forall_mem_cons.mpr ⟨gw_173, List.forall_mem_cons.mpr ⟨gw_175, List.forall_mem_cons.mpr ⟨gw_177, List.forall_mem_cons.mpr ⟨gw_179, List.forall_mem_cons.mpr ⟨gw_181, fun _ h => absurd h List.not_mem_nil⟩⟩⟩⟩⟩⟩
theorem in_RC : ∀ w ∈ u_ws R_RC T_RC 8, w ∈ gt := List.forall_mem_cons.mpr ⟨gw_31, List.forall_mem_cons.mpr ⟨gw_33, List.forall_mem_cons.mpr ⟨gw_35, List.forall_mem_cons.mpr ⟨gw_37, List.forall_mem_cons.mpr ⟨gw_39, List.forall_mem_cons.mpr ⟨gw_41, List.forall_mem_cons.mpr ⟨gw_43, List.forall_mem_cons.mpr ⟨gw_45, fun _ h => absurd h List.not_mem_nil⟩⟩⟩⟩⟩⟩⟩⟩
theorem in_FL : ∀ w ∈ u_ws R_FL T_FL 4, w ∈ gt := List.forall_mem_cons.mpr ⟨gw_59, List.forall_mem_cons.mpr ⟨gw_61, List.forall_mem_cons.mpr ⟨gw_63, List.forall_mem_cons.mpr ⟨gw_65, fun _ h => absurd h List.not_mem_nil⟩⟩⟩⟩
theorem in_CA : ∀ w ∈ u_ws R_CA T_CA 9, w ∈ gt := List.forall_mem_cons.mpr ⟨gw_84, List.forall_mem_cons.mpr ⟨gw_86, List.forall_mem_cons.mpr ⟨gw_88, List.forall_mem_cons.mpr ⟨gw_90, List.forall_mem_cons.mpr ⟨gw_92, List.forall_mem_cons.mpr ⟨gw_94, List.forall_mem_cons.mpr ⟨gw_96, List.forall_mem_cons.mpr ⟨gw_98, List.forall_mem_cons.mpr ⟨gw_100, fun _ h => absurd h List.not_mem_nil⟩⟩⟩⟩⟩⟩⟩⟩⟩
theorem in_ST : ∀ w ∈ u_ws R_ST T_ST 9, w ∈ gt := List.forall_mem_cons.mpr ⟨gw_118, List.forall_mem_cons.mpr ⟨gw_120, List.forall_mem_cons.mpr ⟨gw_122, List.forall_mem_cons.mpr ⟨gw_124, List.forall_mem_cons.mpr ⟨gw_126, List.forall_mem_cons.mpr ⟨gw_128, List.forall_mem_cons.mpr ⟨gw_130, List.forall_mem_cons.mpr ⟨gw_132, List.forall_mem_cons.mpr ⟨gw_134, fun _ h => absurd h List.not_mem_nil⟩⟩⟩⟩⟩⟩⟩⟩⟩
theorem in_MA : ∀ w ∈ u_ws R_MA T_MA 7, w ∈ gt := List.forall_mem_cons.mpr ⟨gw_150, List.forall_mem_cons.mpr ⟨gw_152, List.forall_mem_cons.mpr ⟨gw_154, List.forall_mem_cons.mpr ⟨gw_156, List.forall_mem_cons.mpr ⟨gw_158, List.forall_mem_cons.mpr ⟨gw_160, List.forall_mem_cons.mpr ⟨gw_162, fun _ h => absurd h List.not_mem_nil⟩⟩⟩⟩⟩⟩⟩
theorem in_MO : ∀ w ∈ u_ws R_MO T_MO 26, w ∈ gt := List.forall_mem_cons.mpr ⟨gw_609, List.forall_mem_cons.mpr ⟨gw_611, List.forall_mem_cons.mpr ⟨gw_613, List.forall_mem_cons.mpr ⟨gw_615, List.forall_mem_cons.mpr ⟨gw_617, List.forall_mem_cons.mpr ⟨gw_619, List.forall_mem_cons.mpr ⟨gw_621, List.forall_mem_cons.mpr ⟨gw_623, List.forall_mem_cons.mpr ⟨gw_625, List.forall_mem_cons.mpr ⟨gw_627, List.forall_mem_cons.mpr ⟨gw_629, List.forall_mem_cons.mpr ⟨gw_631, List.forall_mem_cons.mpr ⟨gw_633, List.forall_mem_cons.mpr ⟨gw_635, List.forall_mem_cons.mpr ⟨gw_637, List.forall_mem_cons.mpr ⟨gw_639, List.forall_mem_cons.mpr ⟨gw_641, List.forall_mem_cons.mpr ⟨gw_643, List.forall_mem_cons.mpr ⟨gw_645, List.forall_mem_cons.mpr ⟨gw_647, List.forall_mem_cons.mpr ⟨gw_649, List.forall_mem_cons.mpr ⟨gw_651, List.forall_mem_cons.mpr ⟨gw_653, List.forall_mem_cons.mpr ⟨gw_655, List.forall_mem_cons.mpr ⟨gw_657, List.forall_mem_cons.mpr ⟨gw_659, fun _ h => absurd h List.not_mem_nil⟩⟩⟩⟩⟩⟩⟩⟩⟩⟩⟩⟩⟩⟩⟩⟩⟩⟩⟩⟩⟩⟩⟩⟩⟩⟩
