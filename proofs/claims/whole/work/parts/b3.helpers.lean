/-! THE LAW'S HELPERS, written by wip/whole/gen3.py -/
theorem tw_0 : (Jvm.Cond.initialized "SpanShelvesLaw") ∈ tw := tw_t 0 (by decide +kernel) (by decide +kernel)
theorem tw_435 : (Jvm.Cond.castable "java/lang/IndexOutOfBoundsException" "java/lang/IndexOutOfBoundsException") ∈ tw := tw_t 435 (by decide +kernel) (by decide +kernel)
theorem tw_543 : (Jvm.Cond.static ({ cls := "SpanShelvesLaw", name := "take", desc := "(LSpanShelves;I[J)I" } : Jvm.MethodName)) ∈ tw := tw_t 543 (by decide +kernel) (by decide +kernel)
theorem tw_544 : (Jvm.Cond.codeWith ({ cls := "SpanShelvesLaw", name := "take", desc := "(LSpanShelves;I[J)I" } : Jvm.MethodName) method_3_code (4 : Nat) (Option.some Jvm.ClassFile.FieldType.int) [((0 : Nat), (9 : Nat), (12 : Nat), (13 : Nat)), ((0 : Nat), (9 : Nat), (15 : Nat), (15 : Nat))]) ∈ tw := tw_t 544 (by decide +kernel) (by decide +kernel)
theorem tw_545 : (Jvm.Cond.classLink "SpanShelvesLaw" (13 : Nat) "java/lang/IndexOutOfBoundsException") ∈ tw := tw_t 545 (by decide +kernel) (by decide +kernel)
theorem tw_546 : (Jvm.Cond.classLink "SpanShelvesLaw" (15 : Nat) "java/lang/IllegalArgumentException") ∈ tw := tw_t 546 (by decide +kernel) (by decide +kernel)
theorem tw_547 : (Jvm.Cond.methodLink "SpanShelvesLaw" (7 : Nat) ({ cls := "SpanShelves", name := "take", desc := "(I)I" } : Jvm.MethodName)) ∈ tw := tw_t 547 (by decide +kernel) (by decide +kernel)
theorem tw_548 : (Jvm.Cond.instanceMethod ({ cls := "SpanShelves", name := "take", desc := "(I)I" } : Jvm.MethodName)) ∈ tw := tw_t 548 (by decide +kernel) (by decide +kernel)
theorem tw_549 : (Jvm.Cond.selects "SpanShelves" ({ cls := "SpanShelves", name := "take", desc := "(I)I" } : Jvm.MethodName) ({ cls := "SpanShelves", name := "take", desc := "(I)I" } : Jvm.MethodName)) ∈ tw := tw_t 549 (by decide +kernel) (by decide +kernel)
theorem tw_550 : (Jvm.Cond.code ({ cls := "SpanShelves", name := "take", desc := "(I)I" } : Jvm.MethodName) prog_1_method_6_code (3 : Nat) (Option.some Jvm.ClassFile.FieldType.int)) ∈ tw := tw_t 550 (by decide +kernel) (by decide +kernel)
theorem tw_563 : (Jvm.Cond.castable "java/lang/IllegalArgumentException" "java/lang/IllegalArgumentException") ∈ tw := tw_t 563 (by decide +kernel) (by decide +kernel)
theorem tw_578 : (Jvm.Cond.static ({ cls := "SpanShelvesLaw", name := "go", desc := "(LSpanShelves;II[J)I" } : Jvm.MethodName)) ∈ tw := tw_t 578 (by decide +kernel) (by decide +kernel)
theorem tw_579 : (Jvm.Cond.codeWith ({ cls := "SpanShelvesLaw", name := "go", desc := "(LSpanShelves;II[J)I" } : Jvm.MethodName) method_4_code (5 : Nat) (Option.some Jvm.ClassFile.FieldType.int) [((0 : Nat), (17 : Nat), (20 : Nat), (13 : Nat))]) ∈ tw := tw_t 579 (by decide +kernel) (by decide +kernel)
theorem tw_580 : (Jvm.Cond.methodLink "SpanShelvesLaw" (17 : Nat) ({ cls := "SpanShelves", name := "go", desc := "(II)Z" } : Jvm.MethodName)) ∈ tw := tw_t 580 (by decide +kernel) (by decide +kernel)
theorem tw_581 : (Jvm.Cond.instanceMethod ({ cls := "SpanShelves", name := "go", desc := "(II)Z" } : Jvm.MethodName)) ∈ tw := tw_t 581 (by decide +kernel) (by decide +kernel)
theorem tw_582 : (Jvm.Cond.selects "SpanShelves" ({ cls := "SpanShelves", name := "go", desc := "(II)Z" } : Jvm.MethodName) ({ cls := "SpanShelves", name := "go", desc := "(II)Z" } : Jvm.MethodName)) ∈ tw := tw_t 582 (by decide +kernel) (by decide +kernel)
theorem tw_583 : (Jvm.Cond.code ({ cls := "SpanShelves", name := "go", desc := "(II)Z" } : Jvm.MethodName) prog_1_method_7_code (4 : Nat) (Option.some Jvm.ClassFile.FieldType.boolean)) ∈ tw := tw_t 583 (by decide +kernel) (by decide +kernel)
theorem tw_589 : (Jvm.Cond.static ({ cls := "SpanShelvesLaw", name := "find", desc := "(LSpanShelves;I[J)I" } : Jvm.MethodName)) ∈ tw := tw_t 589 (by decide +kernel) (by decide +kernel)
theorem tw_590 : (Jvm.Cond.codeWith ({ cls := "SpanShelvesLaw", name := "find", desc := "(LSpanShelves;I[J)I" } : Jvm.MethodName) method_5_code (4 : Nat) (Option.some Jvm.ClassFile.FieldType.int) [((0 : Nat), (9 : Nat), (12 : Nat), (13 : Nat))]) ∈ tw := tw_t 590 (by decide +kernel) (by decide +kernel)
theorem tw_591 : (Jvm.Cond.methodLink "SpanShelvesLaw" (21 : Nat) ({ cls := "SpanShelves", name := "find", desc := "(I)I" } : Jvm.MethodName)) ∈ tw := tw_t 591 (by decide +kernel) (by decide +kernel)
theorem tw_592 : (Jvm.Cond.instanceMethod ({ cls := "SpanShelves", name := "find", desc := "(I)I" } : Jvm.MethodName)) ∈ tw := tw_t 592 (by decide +kernel) (by decide +kernel)
theorem tw_593 : (Jvm.Cond.selects "SpanShelves" ({ cls := "SpanShelves", name := "find", desc := "(I)I" } : Jvm.MethodName) ({ cls := "SpanShelves", name := "find", desc := "(I)I" } : Jvm.MethodName)) ∈ tw := tw_t 593 (by decide +kernel) (by decide +kernel)
theorem tw_594 : (Jvm.Cond.code ({ cls := "SpanShelves", name := "find", desc := "(I)I" } : Jvm.MethodName) prog_1_method_8_code (4 : Nat) (Option.some Jvm.ClassFile.FieldType.int)) ∈ tw := tw_t 594 (by decide +kernel) (by decide +kernel)
theorem tw_608 : (Jvm.Cond.static ({ cls := "SpanShelvesLaw", name := "path", desc := "(LSpanShelves;I[J)I" } : Jvm.MethodName)) ∈ tw := tw_t 608 (by decide +kernel) (by decide +kernel)
theorem tw_609 : (Jvm.Cond.codeWith ({ cls := "SpanShelvesLaw", name := "path", desc := "(LSpanShelves;I[J)I" } : Jvm.MethodName) method_6_code (4 : Nat) (Option.some Jvm.ClassFile.FieldType.int) [((0 : Nat), (9 : Nat), (12 : Nat), (13 : Nat))]) ∈ tw := tw_t 609 (by decide +kernel) (by decide +kernel)
theorem tw_610 : (Jvm.Cond.methodLink "SpanShelvesLaw" (24 : Nat) ({ cls := "SpanShelves", name := "path", desc := "(I)I" } : Jvm.MethodName)) ∈ tw := tw_t 610 (by decide +kernel) (by decide +kernel)
theorem tw_611 : (Jvm.Cond.instanceMethod ({ cls := "SpanShelves", name := "path", desc := "(I)I" } : Jvm.MethodName)) ∈ tw := tw_t 611 (by decide +kernel) (by decide +kernel)
theorem tw_612 : (Jvm.Cond.selects "SpanShelves" ({ cls := "SpanShelves", name := "path", desc := "(I)I" } : Jvm.MethodName) ({ cls := "SpanShelves", name := "path", desc := "(I)I" } : Jvm.MethodName)) ∈ tw := tw_t 612 (by decide +kernel) (by decide +kernel)
theorem tw_613 : (Jvm.Cond.code ({ cls := "SpanShelves", name := "path", desc := "(I)I" } : Jvm.MethodName) prog_1_method_9_code (7 : Nat) (Option.some Jvm.ClassFile.FieldType.int)) ∈ tw := tw_t 613 (by decide +kernel) (by decide +kernel)
theorem tw_636 : (Jvm.Cond.static ({ cls := "SpanShelvesLaw", name := "in", desc := "(LSpanShelves;I[J)I" } : Jvm.MethodName)) ∈ tw := tw_t 636 (by decide +kernel) (by decide +kernel)
theorem tw_637 : (Jvm.Cond.codeWith ({ cls := "SpanShelvesLaw", name := "in", desc := "(LSpanShelves;I[J)I" } : Jvm.MethodName) method_7_code (4 : Nat) (Option.some Jvm.ClassFile.FieldType.int) [((0 : Nat), (16 : Nat), (19 : Nat), (13 : Nat))]) ∈ tw := tw_t 637 (by decide +kernel) (by decide +kernel)
theorem tw_638 : (Jvm.Cond.methodLink "SpanShelvesLaw" (27 : Nat) ({ cls := "SpanShelves", name := "in", desc := "(I)Z" } : Jvm.MethodName)) ∈ tw := tw_t 638 (by decide +kernel) (by decide +kernel)
theorem tw_639 : (Jvm.Cond.instanceMethod ({ cls := "SpanShelves", name := "in", desc := "(I)Z" } : Jvm.MethodName)) ∈ tw := tw_t 639 (by decide +kernel) (by decide +kernel)
theorem tw_640 : (Jvm.Cond.selects "SpanShelves" ({ cls := "SpanShelves", name := "in", desc := "(I)Z" } : Jvm.MethodName) ({ cls := "SpanShelves", name := "in", desc := "(I)Z" } : Jvm.MethodName)) ∈ tw := tw_t 640 (by decide +kernel) (by decide +kernel)
theorem tw_641 : (Jvm.Cond.code ({ cls := "SpanShelves", name := "in", desc := "(I)Z" } : Jvm.MethodName) prog_1_method_10_code (3 : Nat) (Option.some Jvm.ClassFile.FieldType.boolean)) ∈ tw := tw_t 641 (by decide +kernel) (by decide +kernel)
theorem tw_643 : (Jvm.Cond.static ({ cls := "SpanShelvesLaw", name := "out", desc := "(LSpanShelves;I[J)I" } : Jvm.MethodName)) ∈ tw := tw_t 643 (by decide +kernel) (by decide +kernel)
theorem tw_644 : (Jvm.Cond.codeWith ({ cls := "SpanShelvesLaw", name := "out", desc := "(LSpanShelves;I[J)I" } : Jvm.MethodName) method_8_code (4 : Nat) (Option.some Jvm.ClassFile.FieldType.int) [((0 : Nat), (16 : Nat), (19 : Nat), (13 : Nat))]) ∈ tw := tw_t 644 (by decide +kernel) (by decide +kernel)
theorem tw_645 : (Jvm.Cond.methodLink "SpanShelvesLaw" (31 : Nat) ({ cls := "SpanShelves", name := "out", desc := "(I)Z" } : Jvm.MethodName)) ∈ tw := tw_t 645 (by decide +kernel) (by decide +kernel)
theorem tw_646 : (Jvm.Cond.instanceMethod ({ cls := "SpanShelves", name := "out", desc := "(I)Z" } : Jvm.MethodName)) ∈ tw := tw_t 646 (by decide +kernel) (by decide +kernel)
theorem tw_647 : (Jvm.Cond.selects "SpanShelves" ({ cls := "SpanShelves", name := "out", desc := "(I)Z" } : Jvm.MethodName) ({ cls := "SpanShelves", name := "out", desc := "(I)Z" } : Jvm.MethodName)) ∈ tw := tw_t 647 (by decide +kernel) (by decide +kernel)
theorem tw_648 : (Jvm.Cond.code ({ cls := "SpanShelves", name := "out", desc := "(I)Z" } : Jvm.MethodName) prog_1_method_11_code (3 : Nat) (Option.some Jvm.ClassFile.FieldType.boolean)) ∈ tw := tw_t 648 (by decide +kernel) (by decide +kernel)
theorem tw_654 : (Jvm.Cond.static ({ cls := "SpanShelvesLaw", name := "look", desc := "(LSpanShelves;II[J)I" } : Jvm.MethodName)) ∈ tw := tw_t 654 (by decide +kernel) (by decide +kernel)
theorem tw_655 : (Jvm.Cond.codeWith ({ cls := "SpanShelvesLaw", name := "look", desc := "(LSpanShelves;II[J)I" } : Jvm.MethodName) method_9_code (5 : Nat) (Option.some Jvm.ClassFile.FieldType.int) [((0 : Nat), (10 : Nat), (13 : Nat), (13 : Nat))]) ∈ tw := tw_t 655 (by decide +kernel) (by decide +kernel)
theorem tw_656 : (Jvm.Cond.methodLink "SpanShelvesLaw" (34 : Nat) ({ cls := "SpanShelves", name := "look", desc := "(II)I" } : Jvm.MethodName)) ∈ tw := tw_t 656 (by decide +kernel) (by decide +kernel)
theorem tw_657 : (Jvm.Cond.instanceMethod ({ cls := "SpanShelves", name := "look", desc := "(II)I" } : Jvm.MethodName)) ∈ tw := tw_t 657 (by decide +kernel) (by decide +kernel)
theorem tw_658 : (Jvm.Cond.selects "SpanShelves" ({ cls := "SpanShelves", name := "look", desc := "(II)I" } : Jvm.MethodName) ({ cls := "SpanShelves", name := "look", desc := "(II)I" } : Jvm.MethodName)) ∈ tw := tw_t 658 (by decide +kernel) (by decide +kernel)
theorem tw_659 : (Jvm.Cond.code ({ cls := "SpanShelves", name := "look", desc := "(II)I" } : Jvm.MethodName) prog_1_method_12_code (5 : Nat) (Option.some Jvm.ClassFile.FieldType.int)) ∈ tw := tw_t 659 (by decide +kernel) (by decide +kernel)
theorem tw_681 : (Jvm.Cond.static ({ cls := "SpanShelvesLaw", name := "byteAt", desc := "(LSpanShelves;II[J)I" } : Jvm.MethodName)) ∈ tw := tw_t 681 (by decide +kernel) (by decide +kernel)
theorem tw_682 : (Jvm.Cond.codeWith ({ cls := "SpanShelvesLaw", name := "byteAt", desc := "(LSpanShelves;II[J)I" } : Jvm.MethodName) method_10_code (5 : Nat) (Option.some Jvm.ClassFile.FieldType.int) [((0 : Nat), (10 : Nat), (13 : Nat), (13 : Nat))]) ∈ tw := tw_t 682 (by decide +kernel) (by decide +kernel)
theorem tw_683 : (Jvm.Cond.methodLink "SpanShelvesLaw" (38 : Nat) ({ cls := "SpanShelves", name := "byteAt", desc := "(II)I" } : Jvm.MethodName)) ∈ tw := tw_t 683 (by decide +kernel) (by decide +kernel)
theorem tw_684 : (Jvm.Cond.instanceMethod ({ cls := "SpanShelves", name := "byteAt", desc := "(II)I" } : Jvm.MethodName)) ∈ tw := tw_t 684 (by decide +kernel) (by decide +kernel)
theorem tw_685 : (Jvm.Cond.selects "SpanShelves" ({ cls := "SpanShelves", name := "byteAt", desc := "(II)I" } : Jvm.MethodName) ({ cls := "SpanShelves", name := "byteAt", desc := "(II)I" } : Jvm.MethodName)) ∈ tw := tw_t 685 (by decide +kernel) (by decide +kernel)
theorem tw_686 : (Jvm.Cond.code ({ cls := "SpanShelves", name := "byteAt", desc := "(II)I" } : Jvm.MethodName) prog_1_method_14_code (4 : Nat) (Option.some Jvm.ClassFile.FieldType.int)) ∈ tw := tw_t 686 (by decide +kernel) (by decide +kernel)
theorem tw_688 : (Jvm.Cond.static ({ cls := "SpanShelvesLaw", name := "number", desc := "(LSpanShelves;I[J)I" } : Jvm.MethodName)) ∈ tw := tw_t 688 (by decide +kernel) (by decide +kernel)
theorem tw_689 : (Jvm.Cond.codeWith ({ cls := "SpanShelvesLaw", name := "number", desc := "(LSpanShelves;I[J)I" } : Jvm.MethodName) method_11_code (4 : Nat) (Option.some Jvm.ClassFile.FieldType.int) [((0 : Nat), (8 : Nat), (11 : Nat), (13 : Nat)), ((0 : Nat), (8 : Nat), (14 : Nat), (45 : Nat)), ((0 : Nat), (8 : Nat), (17 : Nat), (47 : Nat))]) ∈ tw := tw_t 689 (by decide +kernel) (by decide +kernel)
theorem tw_690 : (Jvm.Cond.classLink "SpanShelvesLaw" (45 : Nat) "java/util/NoSuchElementException") ∈ tw := tw_t 690 (by decide +kernel) (by decide +kernel)
theorem tw_691 : (Jvm.Cond.classLink "SpanShelvesLaw" (47 : Nat) "java/lang/IllegalStateException") ∈ tw := tw_t 691 (by decide +kernel) (by decide +kernel)
theorem tw_692 : (Jvm.Cond.methodLink "SpanShelvesLaw" (41 : Nat) ({ cls := "SpanShelves", name := "number", desc := "(I)J" } : Jvm.MethodName)) ∈ tw := tw_t 692 (by decide +kernel) (by decide +kernel)
theorem tw_693 : (Jvm.Cond.instanceMethod ({ cls := "SpanShelves", name := "number", desc := "(I)J" } : Jvm.MethodName)) ∈ tw := tw_t 693 (by decide +kernel) (by decide +kernel)
theorem tw_694 : (Jvm.Cond.selects "SpanShelves" ({ cls := "SpanShelves", name := "number", desc := "(I)J" } : Jvm.MethodName) ({ cls := "SpanShelves", name := "number", desc := "(I)J" } : Jvm.MethodName)) ∈ tw := tw_t 694 (by decide +kernel) (by decide +kernel)
theorem tw_695 : (Jvm.Cond.code ({ cls := "SpanShelves", name := "number", desc := "(I)J" } : Jvm.MethodName) prog_1_method_15_code (5 : Nat) (Option.some Jvm.ClassFile.FieldType.long)) ∈ tw := tw_t 695 (by decide +kernel) (by decide +kernel)
theorem tw_701 : (Jvm.Cond.castable "java/util/NoSuchElementException" "java/util/NoSuchElementException") ∈ tw := tw_t 701 (by decide +kernel) (by decide +kernel)
theorem tw_726 : (Jvm.Cond.castable "java/lang/IllegalStateException" "java/lang/IllegalStateException") ∈ tw := tw_t 726 (by decide +kernel) (by decide +kernel)
theorem tw_754 : (Jvm.Cond.static ({ cls := "SpanShelvesLaw", name := "total", desc := "(LSpanShelves;II[J)I" } : Jvm.MethodName)) ∈ tw := tw_t 754 (by decide +kernel) (by decide +kernel)
theorem tw_755 : (Jvm.Cond.codeWith ({ cls := "SpanShelvesLaw", name := "total", desc := "(LSpanShelves;II[J)I" } : Jvm.MethodName) method_12_code (5 : Nat) (Option.some Jvm.ClassFile.FieldType.int) [((0 : Nat), (10 : Nat), (13 : Nat), (13 : Nat))]) ∈ tw := tw_t 755 (by decide +kernel) (by decide +kernel)
theorem tw_756 : (Jvm.Cond.methodLink "SpanShelvesLaw" (49 : Nat) ({ cls := "SpanShelves", name := "total", desc := "(II)I" } : Jvm.MethodName)) ∈ tw := tw_t 756 (by decide +kernel) (by decide +kernel)
theorem tw_757 : (Jvm.Cond.instanceMethod ({ cls := "SpanShelves", name := "total", desc := "(II)I" } : Jvm.MethodName)) ∈ tw := tw_t 757 (by decide +kernel) (by decide +kernel)
theorem tw_758 : (Jvm.Cond.selects "SpanShelves" ({ cls := "SpanShelves", name := "total", desc := "(II)I" } : Jvm.MethodName) ({ cls := "SpanShelves", name := "total", desc := "(II)I" } : Jvm.MethodName)) ∈ tw := tw_t 758 (by decide +kernel) (by decide +kernel)
theorem tw_759 : (Jvm.Cond.code ({ cls := "SpanShelves", name := "total", desc := "(II)I" } : Jvm.MethodName) prog_1_method_16_code (3 : Nat) (Option.some Jvm.ClassFile.FieldType.int)) ∈ tw := tw_t 759 (by decide +kernel) (by decide +kernel)
theorem tw_765 : (Jvm.Cond.static ({ cls := "SpanShelvesLaw", name := "kinds", desc := "(LSpanShelves;II[J)I" } : Jvm.MethodName)) ∈ tw := tw_t 765 (by decide +kernel) (by decide +kernel)
theorem tw_766 : (Jvm.Cond.codeWith ({ cls := "SpanShelvesLaw", name := "kinds", desc := "(LSpanShelves;II[J)I" } : Jvm.MethodName) method_13_code (5 : Nat) (Option.some Jvm.ClassFile.FieldType.int) [((0 : Nat), (10 : Nat), (13 : Nat), (13 : Nat))]) ∈ tw := tw_t 766 (by decide +kernel) (by decide +kernel)
theorem tw_767 : (Jvm.Cond.methodLink "SpanShelvesLaw" (52 : Nat) ({ cls := "SpanShelves", name := "kinds", desc := "(II)I" } : Jvm.MethodName)) ∈ tw := tw_t 767 (by decide +kernel) (by decide +kernel)
theorem tw_768 : (Jvm.Cond.instanceMethod ({ cls := "SpanShelves", name := "kinds", desc := "(II)I" } : Jvm.MethodName)) ∈ tw := tw_t 768 (by decide +kernel) (by decide +kernel)
theorem tw_769 : (Jvm.Cond.selects "SpanShelves" ({ cls := "SpanShelves", name := "kinds", desc := "(II)I" } : Jvm.MethodName) ({ cls := "SpanShelves", name := "kinds", desc := "(II)I" } : Jvm.MethodName)) ∈ tw := tw_t 769 (by decide +kernel) (by decide +kernel)
theorem tw_770 : (Jvm.Cond.code ({ cls := "SpanShelves", name := "kinds", desc := "(II)I" } : Jvm.MethodName) prog_1_method_17_code (3 : Nat) (Option.some Jvm.ClassFile.FieldType.int)) ∈ tw := tw_t 770 (by decide +kernel) (by decide +kernel)
theorem tw_772 : (Jvm.Cond.static ({ cls := "SpanShelvesLaw", name := "value", desc := "(LSpanShelves;II[J)I" } : Jvm.MethodName)) ∈ tw := tw_t 772 (by decide +kernel) (by decide +kernel)
theorem tw_773 : (Jvm.Cond.codeWith ({ cls := "SpanShelvesLaw", name := "value", desc := "(LSpanShelves;II[J)I" } : Jvm.MethodName) method_14_code (5 : Nat) (Option.some Jvm.ClassFile.FieldType.int) [((0 : Nat), (10 : Nat), (13 : Nat), (13 : Nat)), ((0 : Nat), (10 : Nat), (17 : Nat), (45 : Nat)), ((0 : Nat), (10 : Nat), (21 : Nat), (15 : Nat)), ((0 : Nat), (10 : Nat), (25 : Nat), (58 : Nat))]) ∈ tw := tw_t 773 (by decide +kernel) (by decide +kernel)
theorem tw_774 : (Jvm.Cond.classLink "SpanShelvesLaw" (58 : Nat) "java/lang/UnsupportedOperationException") ∈ tw := tw_t 774 (by decide +kernel) (by decide +kernel)
theorem tw_775 : (Jvm.Cond.methodLink "SpanShelvesLaw" (55 : Nat) ({ cls := "SpanShelves", name := "value", desc := "(II)I" } : Jvm.MethodName)) ∈ tw := tw_t 775 (by decide +kernel) (by decide +kernel)
theorem tw_776 : (Jvm.Cond.instanceMethod ({ cls := "SpanShelves", name := "value", desc := "(II)I" } : Jvm.MethodName)) ∈ tw := tw_t 776 (by decide +kernel) (by decide +kernel)
theorem tw_777 : (Jvm.Cond.selects "SpanShelves" ({ cls := "SpanShelves", name := "value", desc := "(II)I" } : Jvm.MethodName) ({ cls := "SpanShelves", name := "value", desc := "(II)I" } : Jvm.MethodName)) ∈ tw := tw_t 777 (by decide +kernel) (by decide +kernel)
theorem tw_778 : (Jvm.Cond.code ({ cls := "SpanShelves", name := "value", desc := "(II)I" } : Jvm.MethodName) prog_1_method_18_code (4 : Nat) (Option.some Jvm.ClassFile.FieldType.int)) ∈ tw := tw_t 778 (by decide +kernel) (by decide +kernel)
theorem tw_842 : (Jvm.Cond.castable "java/lang/UnsupportedOperationException" "java/lang/UnsupportedOperationException") ∈ tw := tw_t 842 (by decide +kernel) (by decide +kernel)
theorem tw_857 : (Jvm.Cond.static ({ cls := "SpanShelvesLaw", name := "put", desc := "(LSpanShelves;III[J)I" } : Jvm.MethodName)) ∈ tw := tw_t 857 (by decide +kernel) (by decide +kernel)
theorem tw_858 : (Jvm.Cond.codeWith ({ cls := "SpanShelvesLaw", name := "put", desc := "(LSpanShelves;III[J)I" } : Jvm.MethodName) method_15_code (6 : Nat) (Option.some Jvm.ClassFile.FieldType.int) [((0 : Nat), (12 : Nat), (15 : Nat), (13 : Nat)), ((0 : Nat), (12 : Nat), (19 : Nat), (45 : Nat)), ((0 : Nat), (12 : Nat), (23 : Nat), (15 : Nat)), ((0 : Nat), (12 : Nat), (27 : Nat), (58 : Nat))]) ∈ tw := tw_t 858 (by decide +kernel) (by decide +kernel)
theorem tw_859 : (Jvm.Cond.methodLink "SpanShelvesLaw" (60 : Nat) ({ cls := "SpanShelves", name := "put", desc := "(III)I" } : Jvm.MethodName)) ∈ tw := tw_t 859 (by decide +kernel) (by decide +kernel)
theorem tw_860 : (Jvm.Cond.instanceMethod ({ cls := "SpanShelves", name := "put", desc := "(III)I" } : Jvm.MethodName)) ∈ tw := tw_t 860 (by decide +kernel) (by decide +kernel)
theorem tw_861 : (Jvm.Cond.selects "SpanShelves" ({ cls := "SpanShelves", name := "put", desc := "(III)I" } : Jvm.MethodName) ({ cls := "SpanShelves", name := "put", desc := "(III)I" } : Jvm.MethodName)) ∈ tw := tw_t 861 (by decide +kernel) (by decide +kernel)
theorem tw_862 : (Jvm.Cond.code ({ cls := "SpanShelves", name := "put", desc := "(III)I" } : Jvm.MethodName) prog_1_method_19_code (6 : Nat) (Option.some Jvm.ClassFile.FieldType.int)) ∈ tw := tw_t 862 (by decide +kernel) (by decide +kernel)
theorem tw_869 : (Jvm.Cond.static ({ cls := "SpanShelvesLaw", name := "name", desc := "(LSpanShelves;I[J)I" } : Jvm.MethodName)) ∈ tw := tw_t 869 (by decide +kernel) (by decide +kernel)
theorem tw_870 : (Jvm.Cond.codeWith ({ cls := "SpanShelvesLaw", name := "name", desc := "(LSpanShelves;I[J)I" } : Jvm.MethodName) method_16_code (4 : Nat) (Option.some Jvm.ClassFile.FieldType.int) [((0 : Nat), (9 : Nat), (12 : Nat), (13 : Nat)), ((0 : Nat), (9 : Nat), (15 : Nat), (45 : Nat)), ((0 : Nat), (9 : Nat), (18 : Nat), (47 : Nat)), ((0 : Nat), (9 : Nat), (21 : Nat), (15 : Nat)), ((0 : Nat), (9 : Nat), (24 : Nat), (58 : Nat))]) ∈ tw := tw_t 870 (by decide +kernel) (by decide +kernel)
theorem tw_871 : (Jvm.Cond.methodLink "SpanShelvesLaw" (64 : Nat) ({ cls := "SpanShelves", name := "name", desc := "(I)I" } : Jvm.MethodName)) ∈ tw := tw_t 871 (by decide +kernel) (by decide +kernel)
theorem tw_872 : (Jvm.Cond.instanceMethod ({ cls := "SpanShelves", name := "name", desc := "(I)I" } : Jvm.MethodName)) ∈ tw := tw_t 872 (by decide +kernel) (by decide +kernel)
theorem tw_873 : (Jvm.Cond.selects "SpanShelves" ({ cls := "SpanShelves", name := "name", desc := "(I)I" } : Jvm.MethodName) ({ cls := "SpanShelves", name := "name", desc := "(I)I" } : Jvm.MethodName)) ∈ tw := tw_t 873 (by decide +kernel) (by decide +kernel)
theorem tw_874 : (Jvm.Cond.code ({ cls := "SpanShelves", name := "name", desc := "(I)I" } : Jvm.MethodName) prog_1_method_20_code (4 : Nat) (Option.some Jvm.ClassFile.FieldType.int)) ∈ tw := tw_t 874 (by decide +kernel) (by decide +kernel)
theorem tw_885 : (Jvm.Cond.static ({ cls := "SpanShelvesLaw", name := "drop", desc := "(LSpanShelves;I[J)I" } : Jvm.MethodName)) ∈ tw := tw_t 885 (by decide +kernel) (by decide +kernel)
theorem tw_886 : (Jvm.Cond.codeWith ({ cls := "SpanShelvesLaw", name := "drop", desc := "(LSpanShelves;I[J)I" } : Jvm.MethodName) method_17_code (4 : Nat) (Option.some Jvm.ClassFile.FieldType.int) [((0 : Nat), (9 : Nat), (12 : Nat), (13 : Nat)), ((0 : Nat), (9 : Nat), (15 : Nat), (45 : Nat))]) ∈ tw := tw_t 886 (by decide +kernel) (by decide +kernel)
theorem tw_887 : (Jvm.Cond.methodLink "SpanShelvesLaw" (67 : Nat) ({ cls := "SpanShelves", name := "drop", desc := "(I)I" } : Jvm.MethodName)) ∈ tw := tw_t 887 (by decide +kernel) (by decide +kernel)
theorem tw_888 : (Jvm.Cond.instanceMethod ({ cls := "SpanShelves", name := "drop", desc := "(I)I" } : Jvm.MethodName)) ∈ tw := tw_t 888 (by decide +kernel) (by decide +kernel)
theorem tw_889 : (Jvm.Cond.selects "SpanShelves" ({ cls := "SpanShelves", name := "drop", desc := "(I)I" } : Jvm.MethodName) ({ cls := "SpanShelves", name := "drop", desc := "(I)I" } : Jvm.MethodName)) ∈ tw := tw_t 889 (by decide +kernel) (by decide +kernel)
theorem tw_890 : (Jvm.Cond.code ({ cls := "SpanShelves", name := "drop", desc := "(I)I" } : Jvm.MethodName) prog_1_method_21_code (4 : Nat) (Option.some Jvm.ClassFile.FieldType.int)) ∈ tw := tw_t 890 (by decide +kernel) (by decide +kernel)
theorem tw_892 : (Jvm.Cond.static ({ cls := "SpanShelvesLaw", name := "move", desc := "(LSpanShelves;II[J)I" } : Jvm.MethodName)) ∈ tw := tw_t 892 (by decide +kernel) (by decide +kernel)
theorem tw_893 : (Jvm.Cond.codeWith ({ cls := "SpanShelvesLaw", name := "move", desc := "(LSpanShelves;II[J)I" } : Jvm.MethodName) method_18_code (5 : Nat) (Option.some Jvm.ClassFile.FieldType.int) [((0 : Nat), (17 : Nat), (20 : Nat), (13 : Nat)), ((0 : Nat), (17 : Nat), (24 : Nat), (45 : Nat))]) ∈ tw := tw_t 893 (by decide +kernel) (by decide +kernel)
theorem tw_894 : (Jvm.Cond.methodLink "SpanShelvesLaw" (70 : Nat) ({ cls := "SpanShelves", name := "move", desc := "(II)Z" } : Jvm.MethodName)) ∈ tw := tw_t 894 (by decide +kernel) (by decide +kernel)
theorem tw_895 : (Jvm.Cond.instanceMethod ({ cls := "SpanShelves", name := "move", desc := "(II)Z" } : Jvm.MethodName)) ∈ tw := tw_t 895 (by decide +kernel) (by decide +kernel)
theorem tw_896 : (Jvm.Cond.selects "SpanShelves" ({ cls := "SpanShelves", name := "move", desc := "(II)Z" } : Jvm.MethodName) ({ cls := "SpanShelves", name := "move", desc := "(II)Z" } : Jvm.MethodName)) ∈ tw := tw_t 896 (by decide +kernel) (by decide +kernel)
theorem tw_897 : (Jvm.Cond.code ({ cls := "SpanShelves", name := "move", desc := "(II)Z" } : Jvm.MethodName) prog_1_method_22_code (5 : Nat) (Option.some Jvm.ClassFile.FieldType.boolean)) ∈ tw := tw_t 897 (by decide +kernel) (by decide +kernel)
theorem tw_901 : (Jvm.Cond.static ({ cls := "SpanShelvesLaw", name := "copy", desc := "(LSpanShelves;II[J)I" } : Jvm.MethodName)) ∈ tw := tw_t 901 (by decide +kernel) (by decide +kernel)
theorem tw_902 : (Jvm.Cond.codeWith ({ cls := "SpanShelvesLaw", name := "copy", desc := "(LSpanShelves;II[J)I" } : Jvm.MethodName) method_19_code (5 : Nat) (Option.some Jvm.ClassFile.FieldType.int) [((0 : Nat), (10 : Nat), (13 : Nat), (13 : Nat)), ((0 : Nat), (10 : Nat), (17 : Nat), (45 : Nat)), ((0 : Nat), (10 : Nat), (21 : Nat), (15 : Nat)), ((0 : Nat), (10 : Nat), (25 : Nat), (58 : Nat))]) ∈ tw := tw_t 902 (by decide +kernel) (by decide +kernel)
theorem tw_903 : (Jvm.Cond.methodLink "SpanShelvesLaw" (73 : Nat) ({ cls := "SpanShelves", name := "copy", desc := "(II)I" } : Jvm.MethodName)) ∈ tw := tw_t 903 (by decide +kernel) (by decide +kernel)
theorem tw_904 : (Jvm.Cond.instanceMethod ({ cls := "SpanShelves", name := "copy", desc := "(II)I" } : Jvm.MethodName)) ∈ tw := tw_t 904 (by decide +kernel) (by decide +kernel)
theorem tw_905 : (Jvm.Cond.selects "SpanShelves" ({ cls := "SpanShelves", name := "copy", desc := "(II)I" } : Jvm.MethodName) ({ cls := "SpanShelves", name := "copy", desc := "(II)I" } : Jvm.MethodName)) ∈ tw := tw_t 905 (by decide +kernel) (by decide +kernel)
theorem tw_906 : (Jvm.Cond.code ({ cls := "SpanShelves", name := "copy", desc := "(II)I" } : Jvm.MethodName) prog_1_method_23_code (8 : Nat) (Option.some Jvm.ClassFile.FieldType.int)) ∈ tw := tw_t 906 (by decide +kernel) (by decide +kernel)
theorem tw_912 : (Jvm.Cond.static ({ cls := "SpanShelvesLaw", name := "set", desc := "(LSpanShelves;IIJ[J)I" } : Jvm.MethodName)) ∈ tw := tw_t 912 (by decide +kernel) (by decide +kernel)
theorem tw_913 : (Jvm.Cond.codeWith ({ cls := "SpanShelvesLaw", name := "set", desc := "(LSpanShelves;IIJ[J)I" } : Jvm.MethodName) method_20_code (7 : Nat) (Option.some Jvm.ClassFile.FieldType.int) [((0 : Nat), (12 : Nat), (15 : Nat), (13 : Nat)), ((0 : Nat), (12 : Nat), (19 : Nat), (45 : Nat)), ((0 : Nat), (12 : Nat), (23 : Nat), (15 : Nat)), ((0 : Nat), (12 : Nat), (27 : Nat), (58 : Nat))]) ∈ tw := tw_t 913 (by decide +kernel) (by decide +kernel)
theorem tw_914 : (Jvm.Cond.methodLink "SpanShelvesLaw" (76 : Nat) ({ cls := "SpanShelves", name := "set", desc := "(IIJ)I" } : Jvm.MethodName)) ∈ tw := tw_t 914 (by decide +kernel) (by decide +kernel)
theorem tw_915 : (Jvm.Cond.instanceMethod ({ cls := "SpanShelves", name := "set", desc := "(IIJ)I" } : Jvm.MethodName)) ∈ tw := tw_t 915 (by decide +kernel) (by decide +kernel)
theorem tw_916 : (Jvm.Cond.selects "SpanShelves" ({ cls := "SpanShelves", name := "set", desc := "(IIJ)I" } : Jvm.MethodName) ({ cls := "SpanShelves", name := "set", desc := "(IIJ)I" } : Jvm.MethodName)) ∈ tw := tw_t 916 (by decide +kernel) (by decide +kernel)
theorem tw_917 : (Jvm.Cond.code ({ cls := "SpanShelves", name := "set", desc := "(IIJ)I" } : Jvm.MethodName) prog_1_method_24_code (7 : Nat) (Option.some Jvm.ClassFile.FieldType.int)) ∈ tw := tw_t 917 (by decide +kernel) (by decide +kernel)
theorem tw_919 : (Jvm.Cond.static ({ cls := "SpanShelvesLaw", name := "write", desc := "(LSpanShelves;I[J)I" } : Jvm.MethodName)) ∈ tw := tw_t 919 (by decide +kernel) (by decide +kernel)
theorem tw_920 : (Jvm.Cond.codeWith ({ cls := "SpanShelvesLaw", name := "write", desc := "(LSpanShelves;I[J)I" } : Jvm.MethodName) method_21_code (4 : Nat) (Option.some Jvm.ClassFile.FieldType.int) [((0 : Nat), (9 : Nat), (12 : Nat), (47 : Nat)), ((0 : Nat), (9 : Nat), (15 : Nat), (15 : Nat)), ((0 : Nat), (9 : Nat), (18 : Nat), (58 : Nat))]) ∈ tw := tw_t 920 (by decide +kernel) (by decide +kernel)
theorem tw_921 : (Jvm.Cond.methodLink "SpanShelvesLaw" (80 : Nat) ({ cls := "SpanShelves", name := "write", desc := "(I)I" } : Jvm.MethodName)) ∈ tw := tw_t 921 (by decide +kernel) (by decide +kernel)
theorem tw_922 : (Jvm.Cond.instanceMethod ({ cls := "SpanShelves", name := "write", desc := "(I)I" } : Jvm.MethodName)) ∈ tw := tw_t 922 (by decide +kernel) (by decide +kernel)
theorem tw_923 : (Jvm.Cond.selects "SpanShelves" ({ cls := "SpanShelves", name := "write", desc := "(I)I" } : Jvm.MethodName) ({ cls := "SpanShelves", name := "write", desc := "(I)I" } : Jvm.MethodName)) ∈ tw := tw_t 923 (by decide +kernel) (by decide +kernel)
theorem tw_924 : (Jvm.Cond.code ({ cls := "SpanShelves", name := "write", desc := "(I)I" } : Jvm.MethodName) prog_1_method_27_code (2 : Nat) (Option.some Jvm.ClassFile.FieldType.int)) ∈ tw := tw_t 924 (by decide +kernel) (by decide +kernel)
theorem tw_958 : (Jvm.Cond.static ({ cls := "SpanShelvesLaw", name := "open", desc := "(LSpanShelves;I[J)I" } : Jvm.MethodName)) ∈ tw := tw_t 958 (by decide +kernel) (by decide +kernel)
theorem tw_959 : (Jvm.Cond.codeWith ({ cls := "SpanShelvesLaw", name := "open", desc := "(LSpanShelves;I[J)I" } : Jvm.MethodName) method_22_code (4 : Nat) (Option.some Jvm.ClassFile.FieldType.int) [((0 : Nat), (9 : Nat), (12 : Nat), (47 : Nat)), ((0 : Nat), (9 : Nat), (15 : Nat), (15 : Nat)), ((0 : Nat), (9 : Nat), (18 : Nat), (58 : Nat))]) ∈ tw := tw_t 959 (by decide +kernel) (by decide +kernel)
theorem tw_960 : (Jvm.Cond.methodLink "SpanShelvesLaw" (83 : Nat) ({ cls := "SpanShelves", name := "open", desc := "(I)I" } : Jvm.MethodName)) ∈ tw := tw_t 960 (by decide +kernel) (by decide +kernel)
theorem tw_961 : (Jvm.Cond.instanceMethod ({ cls := "SpanShelves", name := "open", desc := "(I)I" } : Jvm.MethodName)) ∈ tw := tw_t 961 (by decide +kernel) (by decide +kernel)
theorem tw_962 : (Jvm.Cond.selects "SpanShelves" ({ cls := "SpanShelves", name := "open", desc := "(I)I" } : Jvm.MethodName) ({ cls := "SpanShelves", name := "open", desc := "(I)I" } : Jvm.MethodName)) ∈ tw := tw_t 962 (by decide +kernel) (by decide +kernel)
theorem tw_963 : (Jvm.Cond.code ({ cls := "SpanShelves", name := "open", desc := "(I)I" } : Jvm.MethodName) prog_1_method_28_code (2 : Nat) (Option.some Jvm.ClassFile.FieldType.int)) ∈ tw := tw_t 963 (by decide +kernel) (by decide +kernel)
theorem tw_974 : (Jvm.Cond.static ({ cls := "SpanShelvesLaw", name := "close", desc := "(LSpanShelves;[J)I" } : Jvm.MethodName)) ∈ tw := tw_t 974 (by decide +kernel) (by decide +kernel)
theorem tw_975 : (Jvm.Cond.codeWith ({ cls := "SpanShelvesLaw", name := "close", desc := "(LSpanShelves;[J)I" } : Jvm.MethodName) method_23_code (3 : Nat) (Option.some Jvm.ClassFile.FieldType.int) [((0 : Nat), (8 : Nat), (11 : Nat), (47 : Nat))]) ∈ tw := tw_t 975 (by decide +kernel) (by decide +kernel)
theorem tw_976 : (Jvm.Cond.methodLink "SpanShelvesLaw" (86 : Nat) ({ cls := "SpanShelves", name := "close", desc := "()I" } : Jvm.MethodName)) ∈ tw := tw_t 976 (by decide +kernel) (by decide +kernel)
theorem tw_977 : (Jvm.Cond.instanceMethod ({ cls := "SpanShelves", name := "close", desc := "()I" } : Jvm.MethodName)) ∈ tw := tw_t 977 (by decide +kernel) (by decide +kernel)
theorem tw_978 : (Jvm.Cond.selects "SpanShelves" ({ cls := "SpanShelves", name := "close", desc := "()I" } : Jvm.MethodName) ({ cls := "SpanShelves", name := "close", desc := "()I" } : Jvm.MethodName)) ∈ tw := tw_t 978 (by decide +kernel) (by decide +kernel)
theorem tw_979 : (Jvm.Cond.code ({ cls := "SpanShelves", name := "close", desc := "()I" } : Jvm.MethodName) prog_1_method_29_code (1 : Nat) (Option.some Jvm.ClassFile.FieldType.int)) ∈ tw := tw_t 979 (by decide +kernel) (by decide +kernel)
theorem tw_986 : (Jvm.Cond.static ({ cls := "SpanShelvesLaw", name := "lay", desc := "(LSpanShelves;I[J)I" } : Jvm.MethodName)) ∈ tw := tw_t 986 (by decide +kernel) (by decide +kernel)
theorem tw_987 : (Jvm.Cond.codeWith ({ cls := "SpanShelvesLaw", name := "lay", desc := "(LSpanShelves;I[J)I" } : Jvm.MethodName) method_24_code (4 : Nat) (Option.some Jvm.ClassFile.FieldType.int) [((0 : Nat), (9 : Nat), (12 : Nat), (13 : Nat)), ((0 : Nat), (9 : Nat), (15 : Nat), (47 : Nat))]) ∈ tw := tw_t 987 (by decide +kernel) (by decide +kernel)
theorem tw_988 : (Jvm.Cond.methodLink "SpanShelvesLaw" (90 : Nat) ({ cls := "SpanShelves", name := "lay", desc := "(I)I" } : Jvm.MethodName)) ∈ tw := tw_t 988 (by decide +kernel) (by decide +kernel)
theorem tw_989 : (Jvm.Cond.instanceMethod ({ cls := "SpanShelves", name := "lay", desc := "(I)I" } : Jvm.MethodName)) ∈ tw := tw_t 989 (by decide +kernel) (by decide +kernel)
theorem tw_990 : (Jvm.Cond.selects "SpanShelves" ({ cls := "SpanShelves", name := "lay", desc := "(I)I" } : Jvm.MethodName) ({ cls := "SpanShelves", name := "lay", desc := "(I)I" } : Jvm.MethodName)) ∈ tw := tw_t 990 (by decide +kernel) (by decide +kernel)
theorem tw_991 : (Jvm.Cond.code ({ cls := "SpanShelves", name := "lay", desc := "(I)I" } : Jvm.MethodName) prog_1_method_30_code (3 : Nat) (Option.some Jvm.ClassFile.FieldType.int)) ∈ tw := tw_t 991 (by decide +kernel) (by decide +kernel)
theorem mm_X6_byteAt : MM 5 yX6_byteAt cX6_byteAt 4 (some .int) 2 := ⟨by decide, RX6, TX6, 10, rfl, tw_684, tw_685, tw_686, tw_1, by decide +kernel, by decide +kernel, by decide +kernel⟩
theorem mm_X6_close : MM 5 yX6_close cX6_close 1 (some .int) 0 := ⟨by decide, RX6, TX6, 10, rfl, tw_977, tw_978, tw_979, tw_1, by decide +kernel, by decide +kernel, by decide +kernel⟩
theorem mm_X6_copy : MM 5 yX6_copy cX6_copy 8 (some .int) 2 := ⟨by decide, RX6, TX6, 10, rfl, tw_904, tw_905, tw_906, tw_1, by decide +kernel, by decide +kernel, by decide +kernel⟩
theorem mm_X6_drop : MM 5 yX6_drop cX6_drop 4 (some .int) 1 := ⟨by decide, RX6, TX6, 10, rfl, tw_888, tw_889, tw_890, tw_1, by decide +kernel, by decide +kernel, by decide +kernel⟩
theorem mm_X6_find : MM 5 yX6_find cX6_find 4 (some .int) 1 := ⟨by decide, RX6, TX6, 10, rfl, tw_592, tw_593, tw_594, tw_1, by decide +kernel, by decide +kernel, by decide +kernel⟩
theorem mm_X6_go : MM 5 yX6_go cX6_go 4 (some .boolean) 2 := ⟨by decide, RX6, TX6, 10, rfl, tw_581, tw_582, tw_583, tw_1, by decide +kernel, by decide +kernel, by decide +kernel⟩
theorem mm_X6_in : MM 5 yX6_in cX6_in 3 (some .boolean) 1 := ⟨by decide, RX6, TX6, 10, rfl, tw_639, tw_640, tw_641, tw_1, by decide +kernel, by decide +kernel, by decide +kernel⟩
theorem mm_X6_kinds : MM 5 yX6_kinds cX6_kinds 3 (some .int) 2 := ⟨by decide, RX6, TX6, 10, rfl, tw_768, tw_769, tw_770, tw_1, by decide +kernel, by decide +kernel, by decide +kernel⟩
theorem mm_X6_lay : MM 5 yX6_lay cX6_lay 3 (some .int) 1 := ⟨by decide, RX6, TX6, 10, rfl, tw_989, tw_990, tw_991, tw_1, by decide +kernel, by decide +kernel, by decide +kernel⟩
theorem mm_X6_look : MM 5 yX6_look cX6_look 5 (some .int) 2 := ⟨by decide, RX6, TX6, 10, rfl, tw_657, tw_658, tw_659, tw_1, by decide +kernel, by decide +kernel, by decide +kernel⟩
theorem mm_X6_move : MM 5 yX6_move cX6_move 5 (some .boolean) 2 := ⟨by decide, RX6, TX6, 10, rfl, tw_895, tw_896, tw_897, tw_1, by decide +kernel, by decide +kernel, by decide +kernel⟩
theorem mm_X6_name : MM 5 yX6_name cX6_name 4 (some .int) 1 := ⟨by decide, RX6, TX6, 10, rfl, tw_872, tw_873, tw_874, tw_1, by decide +kernel, by decide +kernel, by decide +kernel⟩
theorem mm_X6_number : MM 5 yX6_number cX6_number 5 (some .long) 1 := ⟨by decide, RX6, TX6, 10, rfl, tw_693, tw_694, tw_695, tw_1, by decide +kernel, by decide +kernel, by decide +kernel⟩
theorem mm_X6_open : MM 5 yX6_open cX6_open 2 (some .int) 1 := ⟨by decide, RX6, TX6, 10, rfl, tw_961, tw_962, tw_963, tw_1, by decide +kernel, by decide +kernel, by decide +kernel⟩
theorem mm_X6_out : MM 5 yX6_out cX6_out 3 (some .boolean) 1 := ⟨by decide, RX6, TX6, 10, rfl, tw_646, tw_647, tw_648, tw_1, by decide +kernel, by decide +kernel, by decide +kernel⟩
theorem mm_X6_path : MM 5 yX6_path cX6_path 7 (some .int) 1 := ⟨by decide, RX6, TX6, 10, rfl, tw_611, tw_612, tw_613, tw_1, by decide +kernel, by decide +kernel, by decide +kernel⟩
theorem mm_X6_put : MM 5 yX6_put cX6_put 6 (some .int) 3 := ⟨by decide, RX6, TX6, 10, rfl, tw_860, tw_861, tw_862, tw_1, by decide +kernel, by decide +kernel, by decide +kernel⟩
theorem mm_X6_set : MM 5 yX6_set cX6_set 7 (some .int) 3 := ⟨by decide, RX6, TX6, 10, rfl, tw_915, tw_916, tw_917, tw_1, by decide +kernel, by decide +kernel, by decide +kernel⟩
theorem mm_X6_take : MM 5 yX6_take cX6_take 3 (some .int) 1 := ⟨by decide, RX6, TX6, 10, rfl, tw_548, tw_549, tw_550, tw_1, by decide +kernel, by decide +kernel, by decide +kernel⟩
theorem mm_X6_total : MM 5 yX6_total cX6_total 3 (some .int) 2 := ⟨by decide, RX6, TX6, 10, rfl, tw_757, tw_758, tw_759, tw_1, by decide +kernel, by decide +kernel, by decide +kernel⟩
theorem mm_X6_value : MM 5 yX6_value cX6_value 4 (some .int) 2 := ⟨by decide, RX6, TX6, 10, rfl, tw_776, tw_777, tw_778, tw_1, by decide +kernel, by decide +kernel, by decide +kernel⟩
theorem mm_X6_write : MM 5 yX6_write cX6_write 2 (some .int) 1 := ⟨by decide, RX6, TX6, 10, rfl, tw_922, tw_923, tw_924, tw_1, by decide +kernel, by decide +kernel, by decide +kernel⟩
theorem mh_L_take : MSW yL_take cL_take 4 [(0, 9, 12, 13), (0, 9, 15, 15)] 3 := ⟨tw_543, tw_544, tw_0, by decide +kernel, by decide +kernel, by decide +kernel⟩
theorem mh_L_go : MSW yL_go cL_go 5 [(0, 17, 20, 13)] 4 := ⟨tw_578, tw_579, tw_0, by decide +kernel, by decide +kernel, by decide +kernel⟩
theorem mh_L_find : MSW yL_find cL_find 4 [(0, 9, 12, 13)] 3 := ⟨tw_589, tw_590, tw_0, by decide +kernel, by decide +kernel, by decide +kernel⟩
theorem mh_L_path : MSW yL_path cL_path 4 [(0, 9, 12, 13)] 3 := ⟨tw_608, tw_609, tw_0, by decide +kernel, by decide +kernel, by decide +kernel⟩
theorem mh_L_in : MSW yL_in cL_in 4 [(0, 16, 19, 13)] 3 := ⟨tw_636, tw_637, tw_0, by decide +kernel, by decide +kernel, by decide +kernel⟩
theorem mh_L_out : MSW yL_out cL_out 4 [(0, 16, 19, 13)] 3 := ⟨tw_643, tw_644, tw_0, by decide +kernel, by decide +kernel, by decide +kernel⟩
theorem mh_L_look : MSW yL_look cL_look 5 [(0, 10, 13, 13)] 4 := ⟨tw_654, tw_655, tw_0, by decide +kernel, by decide +kernel, by decide +kernel⟩
theorem mh_L_byteAt : MSW yL_byteAt cL_byteAt 5 [(0, 10, 13, 13)] 4 := ⟨tw_681, tw_682, tw_0, by decide +kernel, by decide +kernel, by decide +kernel⟩
theorem mh_L_number : MSW yL_number cL_number 4 [(0, 8, 11, 13), (0, 8, 14, 45), (0, 8, 17, 47)] 3 := ⟨tw_688, tw_689, tw_0, by decide +kernel, by decide +kernel, by decide +kernel⟩
theorem mh_L_total : MSW yL_total cL_total 5 [(0, 10, 13, 13)] 4 := ⟨tw_754, tw_755, tw_0, by decide +kernel, by decide +kernel, by decide +kernel⟩
theorem mh_L_kinds : MSW yL_kinds cL_kinds 5 [(0, 10, 13, 13)] 4 := ⟨tw_765, tw_766, tw_0, by decide +kernel, by decide +kernel, by decide +kernel⟩
theorem mh_L_value : MSW yL_value cL_value 5 [(0, 10, 13, 13), (0, 10, 17, 45), (0, 10, 21, 15), (0, 10, 25, 58)] 4 := ⟨tw_772, tw_773, tw_0, by decide +kernel, by decide +kernel, by decide +kernel⟩
theorem mh_L_put : MSW yL_put cL_put 6 [(0, 12, 15, 13), (0, 12, 19, 45), (0, 12, 23, 15), (0, 12, 27, 58)] 5 := ⟨tw_857, tw_858, tw_0, by decide +kernel, by decide +kernel, by decide +kernel⟩
theorem mh_L_name : MSW yL_name cL_name 4 [(0, 9, 12, 13), (0, 9, 15, 45), (0, 9, 18, 47), (0, 9, 21, 15), (0, 9, 24, 58)] 3 := ⟨tw_869, tw_870, tw_0, by decide +kernel, by decide +kernel, by decide +kernel⟩
theorem mh_L_drop : MSW yL_drop cL_drop 4 [(0, 9, 12, 13), (0, 9, 15, 45)] 3 := ⟨tw_885, tw_886, tw_0, by decide +kernel, by decide +kernel, by decide +kernel⟩
theorem mh_L_move : MSW yL_move cL_move 5 [(0, 17, 20, 13), (0, 17, 24, 45)] 4 := ⟨tw_892, tw_893, tw_0, by decide +kernel, by decide +kernel, by decide +kernel⟩
theorem mh_L_copy : MSW yL_copy cL_copy 5 [(0, 10, 13, 13), (0, 10, 17, 45), (0, 10, 21, 15), (0, 10, 25, 58)] 4 := ⟨tw_901, tw_902, tw_0, by decide +kernel, by decide +kernel, by decide +kernel⟩
theorem mh_L_set : MSW yL_set cL_set 7 [(0, 12, 15, 13), (0, 12, 19, 45), (0, 12, 23, 15), (0, 12, 27, 58)] 5 := ⟨tw_912, tw_913, tw_0, by decide +kernel, by decide +kernel, by decide +kernel⟩
theorem mh_L_write : MSW yL_write cL_write 4 [(0, 9, 12, 47), (0, 9, 15, 15), (0, 9, 18, 58)] 3 := ⟨tw_919, tw_920, tw_0, by decide +kernel, by decide +kernel, by decide +kernel⟩
theorem mh_L_open : MSW yL_open cL_open 4 [(0, 9, 12, 47), (0, 9, 15, 15), (0, 9, 18, 58)] 3 := ⟨tw_958, tw_959, tw_0, by decide +kernel, by decide +kernel, by decide +kernel⟩
theorem mh_L_close : MSW yL_close cL_close 3 [(0, 8, 11, 47)] 2 := ⟨tw_974, tw_975, tw_0, by decide +kernel, by decide +kernel, by decide +kernel⟩
theorem mh_L_lay : MSW yL_lay cL_lay 4 [(0, 9, 12, 13), (0, 9, 15, 47)] 3 := ⟨tw_986, tw_987, tw_0, by decide +kernel, by decide +kernel, by decide +kernel⟩
theorem dL_take_0 : decode cL_take 0 = .ok (.aload_n 2, 1) := by decide +kernel
theorem dL_take_1 : decode cL_take 1 = .ok (.iconst 0, 1) := by decide +kernel
theorem dL_take_2 : decode cL_take 2 = .ok (.aload_n 0, 1) := by decide +kernel
theorem dL_take_3 : decode cL_take 3 = .ok (.iload_n 1, 1) := by decide +kernel
theorem dL_take_4 : decode cL_take 4 = .ok (.invokevirtual 7, 3) := by decide +kernel
theorem dL_take_7 : decode cL_take 7 = .ok (.i2l, 1) := by decide +kernel
theorem dL_take_8 : decode cL_take 8 = .ok (.lastore, 1) := by decide +kernel
theorem dL_take_9 : decode cL_take 9 = .ok (.goto 9, 3) := by decide +kernel
theorem dL_take_12 : decode cL_take 12 = .ok (.astore_n 3, 1) := by decide +kernel
theorem dL_take_13 : decode cL_take 13 = .ok (.iconst 1, 1) := by decide +kernel
theorem dL_take_14 : decode cL_take 14 = .ok (.ireturn, 1) := by decide +kernel
theorem dL_take_15 : decode cL_take 15 = .ok (.astore_n 3, 1) := by decide +kernel
theorem dL_take_16 : decode cL_take 16 = .ok (.iconst 2, 1) := by decide +kernel
theorem dL_take_17 : decode cL_take 17 = .ok (.ireturn, 1) := by decide +kernel
theorem dL_take_18 : decode cL_take 18 = .ok (.iconst 0, 1) := by decide +kernel
theorem dL_take_19 : decode cL_take 19 = .ok (.ireturn, 1) := by decide +kernel
abbrev rm_L_take : Room := { frames := 127, cells := 2, slots := 12, locals := 3525 }
set_option maxRecDepth 100000 in
set_option maxHeartbeats 4000000 in
theorem c_L_take {l : Launch} {g : Wg} {L : List Nat} {μ μ' : Mem} {a0 : Nat} {a1 : Int32} {a2 : Nat} {res : (String × Mem) ⊕ (Int32 × Mem)} {k : Int32} (hl0 : l.stackTraces = false) (ho : isO μ a0 5 = true) (hf : f_X6_take g.2 a0 a1 μ = some res) (hk : HLP g.2 ["java/lang/IndexOutOfBoundsException", "java/lang/IllegalArgumentException"] a2 Int32.toInt64 res k μ') : MetH l yL_take cL_take 4 [(0, 9, 12, 13), (0, 9, 15, 15)] rm_L_take g L μ [.ref a0, .int a1, .ref a2] k μ' := by
  refine pw_metH (by decide) (Nat.le_of_ble_eq_true rfl) ?_
  intro p e s m args below meth c A ls H locs hC hr hlocks hl hw hX hNC htab
  have hx := hC.1
  have hb := hC.2.1
  have hl : lv_has ls 4 [(0, .ref a0), (1, .int a1), (2, .ref a2)] := hl
  refine lv_aload_n hx hb dL_take_0 rfl (lv_at hl 2 rfl) ?_
  refine lv_iconst (v := 0) hx hb dL_take_1 nc_iconst_0 ?_
  refine lv_aload_n hx hb dL_take_2 rfl (lv_at hl 0 rfl) ?_
  refine lv_iload_n hx hb dL_take_3 rfl (lv_at hl 1 rfl) ?_
  rcases hk with hk | hk
  · obtain ⟨r, μ1, rfl, hwl, rfl⟩ := hk
    refine pw_goX hw (pw_runVX (As := [.int a1]) (rest := [.int 0, .ref a2]) hC mm_X6_take tw_547 (c_X6_take hl0 hf) ⟨by decide, by decide⟩ hw hX ho rfl hl.1 (Nat.le_of_ble_eq_true rfl) ⟨by decide, by decide⟩ rfl dL_take_4) (fun H locs hw => ?_)
    refine W.eq (g2 := F0 m 7 ls [.int r, .int 0, .ref a2]) rfl ?_
    refine lv_i2l hx hb dL_take_7 rfl ?_
    refine pw_last hC hw hwl dL_take_8 (fun H locs hw => ?_)
    refine lv_goto (tgt := 18) hx hb dL_take_9 (by decide) ?_
    refine lv_iconst (v := 0) hx hb dL_take_18 nc_iconst_0 ?_
    exact pw_xiret hC hr hlocks (by decide) (by decide) hw dL_take_19
  · obtain ⟨i, hi, rfl, rfl⟩ := hk
    rcases i with _ | i
    · replace hf : f_X6_take g.2 a0 a1 μ = some (.inl ("java/lang/IndexOutOfBoundsException", μ')) := hf
      refine pw_caught (name := "java/lang/IndexOutOfBoundsException") hC hw (pw_runVX (As := [.int a1]) (rest := [.int 0, .ref a2]) hC mm_X6_take tw_547 (c_X6_take hl0 hf) ⟨by decide, by decide⟩ hw hX ho rfl hl.1 (Nat.le_of_ble_eq_true rfl) ⟨by decide, by decide⟩ rfl dL_take_4) [] ⟨0, 9, 12, 13⟩ [⟨0, 9, 15, 15⟩] (by rw [htab]; rfl) (fun z h => absurd h List.not_mem_nil) (by decide) (by decide) tw_545 tw_435 (fun q H locs hw => ?_)
      refine lv_astore_n (lv' := [(3, .ref q), (0, .ref a0), (1, .int a1), (2, .ref a2)]) hx hb dL_take_12 rfl hl (by decide) rfl (fun ls hl => ?_)
      refine lv_iconst (v := 1) hx hb dL_take_13 nc_iconst_1 ?_
      exact pw_xiret hC hr hlocks (by decide) (by decide) hw dL_take_14
    rcases i with _ | i
    · replace hf : f_X6_take g.2 a0 a1 μ = some (.inl ("java/lang/IllegalArgumentException", μ')) := hf
      refine pw_caught (name := "java/lang/IllegalArgumentException") hC hw (pw_runVX (As := [.int a1]) (rest := [.int 0, .ref a2]) hC mm_X6_take tw_547 (c_X6_take hl0 hf) ⟨by decide, by decide⟩ hw hX ho rfl hl.1 (Nat.le_of_ble_eq_true rfl) ⟨by decide, by decide⟩ rfl dL_take_4) [⟨0, 9, 12, 13⟩] ⟨0, 9, 15, 15⟩ [] (by rw [htab]; rfl) (List.forall_mem_cons.mpr ⟨Or.inr ⟨by decide, "java/lang/IndexOutOfBoundsException", hC.2.2.2.2 _ tw_545, hNC "java/lang/IllegalArgumentException" (by decide) _ (by decide) (by decide)⟩, (fun z h => absurd h List.not_mem_nil)⟩) (by decide) (by decide) tw_546 tw_563 (fun q H locs hw => ?_)
      refine lv_astore_n (lv' := [(3, .ref q), (0, .ref a0), (1, .int a1), (2, .ref a2)]) hx hb dL_take_15 rfl hl (by decide) rfl (fun ls hl => ?_)
      refine lv_iconst (v := 2) hx hb dL_take_16 nc_iconst_2 ?_
      exact pw_xiret hC hr hlocks (by decide) (by decide) hw dL_take_17
    exact absurd hi (by show ¬ i + 2 < 2; omega)
theorem dL_go_0 : decode cL_go 0 = .ok (.aload_n 3, 1) := by decide +kernel
theorem dL_go_1 : decode cL_go 1 = .ok (.iconst 0, 1) := by decide +kernel
theorem dL_go_2 : decode cL_go 2 = .ok (.aload_n 0, 1) := by decide +kernel
theorem dL_go_3 : decode cL_go 3 = .ok (.iload_n 1, 1) := by decide +kernel
theorem dL_go_4 : decode cL_go 4 = .ok (.iload_n 2, 1) := by decide +kernel
theorem dL_go_5 : decode cL_go 5 = .ok (.invokevirtual 17, 3) := by decide +kernel
theorem dL_go_8 : decode cL_go 8 = .ok (.ifCond .eq 7, 3) := by decide +kernel
theorem dL_go_11 : decode cL_go 11 = .ok (.lconst 1, 1) := by decide +kernel
theorem dL_go_12 : decode cL_go 12 = .ok (.goto 4, 3) := by decide +kernel
theorem dL_go_15 : decode cL_go 15 = .ok (.lconst 0, 1) := by decide +kernel
theorem dL_go_16 : decode cL_go 16 = .ok (.lastore, 1) := by decide +kernel
theorem dL_go_17 : decode cL_go 17 = .ok (.goto 7, 3) := by decide +kernel
theorem dL_go_20 : decode cL_go 20 = .ok (.astore 4, 2) := by decide +kernel
theorem dL_go_22 : decode cL_go 22 = .ok (.iconst 1, 1) := by decide +kernel
theorem dL_go_23 : decode cL_go 23 = .ok (.ireturn, 1) := by decide +kernel
theorem dL_go_24 : decode cL_go 24 = .ok (.iconst 0, 1) := by decide +kernel
theorem dL_go_25 : decode cL_go 25 = .ok (.ireturn, 1) := by decide +kernel
abbrev rm_L_go : Room := { frames := 8, cells := 1, slots := 6, locals := 144 }
set_option maxRecDepth 100000 in
set_option maxHeartbeats 4000000 in
theorem c_L_go {l : Launch} {g : Wg} {L : List Nat} {μ μ' : Mem} {a0 : Nat} {a1 : Int32} {a2 : Int32} {a3 : Nat} {res : (String × Mem) ⊕ (Int32 × Mem)} {k : Int32} (hl0 : l.stackTraces = false) (ho : isO μ a0 5 = true) (hf : f_X6_go g.2 a0 a1 a2 μ = some res) (hk : HLP g.2 ["java/lang/IndexOutOfBoundsException"] a3 (fun r => if r = 0 then 0 else 1) res k μ') : MetH l yL_go cL_go 5 [(0, 17, 20, 13)] rm_L_go g L μ [.ref a0, .int a1, .int a2, .ref a3] k μ' := by
  refine pw_metH (by decide) (Nat.le_of_ble_eq_true rfl) ?_
  intro p e s m args below meth c A ls H locs hC hr hlocks hl hw hX hNC htab
  have hx := hC.1
  have hb := hC.2.1
  have hl : lv_has ls 5 [(0, .ref a0), (1, .int a1), (2, .int a2), (3, .ref a3)] := hl
  refine lv_aload_n hx hb dL_go_0 rfl (lv_at hl 3 rfl) ?_
  refine lv_iconst (v := 0) hx hb dL_go_1 nc_iconst_0 ?_
  refine lv_aload_n hx hb dL_go_2 rfl (lv_at hl 0 rfl) ?_
  refine lv_iload_n hx hb dL_go_3 rfl (lv_at hl 1 rfl) ?_
  refine lv_iload_n hx hb dL_go_4 rfl (lv_at hl 2 rfl) ?_
  rcases hk with hk | hk
  · obtain ⟨r, μ1, rfl, hwl, rfl⟩ := hk
    refine pw_goX hw (pw_runVX (As := [.int a1, .int a2]) (rest := [.int 0, .ref a3]) hC mm_X6_go tw_580 (c_X6_go hl0 hf) ⟨by decide, by decide⟩ hw hX ho rfl hl.1 (Nat.le_of_ble_eq_true rfl) ⟨by decide, by decide⟩ rfl dL_go_5) (fun H locs hw => ?_)
    refine W.eq (g2 := F0 m 8 ls [.int r, .int 0, .ref a3]) rfl ?_
    refine lv_if_eq (tgt := 15) hx hb dL_go_8 (by decide) (fun c1 => ?_) (fun c1 => ?_)
    · replace hwl : wrL g.2 μ1 a3 0 = some μ' := by rw [← hwl]; exact congrArg (wrL g.2 μ1 a3) (if_pos c1).symm
      refine lv_lconst (v := 0) hx hb dL_go_15 (by decide +kernel) ?_
      refine pw_last hC hw hwl dL_go_16 (fun H locs hw => ?_)
      refine lv_goto (tgt := 24) hx hb dL_go_17 (by decide) ?_
      refine lv_iconst (v := 0) hx hb dL_go_24 nc_iconst_0 ?_
      exact pw_xiret hC hr hlocks (by decide) (by decide) hw dL_go_25
    · replace hwl : wrL g.2 μ1 a3 1 = some μ' := by rw [← hwl]; exact congrArg (wrL g.2 μ1 a3) (if_neg c1).symm
      refine lv_lconst (v := 1) hx hb dL_go_11 (by decide +kernel) ?_
      refine lv_goto (tgt := 16) hx hb dL_go_12 (by decide) ?_
      refine pw_last hC hw hwl dL_go_16 (fun H locs hw => ?_)
      refine lv_goto (tgt := 24) hx hb dL_go_17 (by decide) ?_
      refine lv_iconst (v := 0) hx hb dL_go_24 nc_iconst_0 ?_
      exact pw_xiret hC hr hlocks (by decide) (by decide) hw dL_go_25
  · obtain ⟨i, hi, rfl, rfl⟩ := hk
    rcases i with _ | i
    · replace hf : f_X6_go g.2 a0 a1 a2 μ = some (.inl ("java/lang/IndexOutOfBoundsException", μ')) := hf
      refine pw_caught (name := "java/lang/IndexOutOfBoundsException") hC hw (pw_runVX (As := [.int a1, .int a2]) (rest := [.int 0, .ref a3]) hC mm_X6_go tw_580 (c_X6_go hl0 hf) ⟨by decide, by decide⟩ hw hX ho rfl hl.1 (Nat.le_of_ble_eq_true rfl) ⟨by decide, by decide⟩ rfl dL_go_5) [] ⟨0, 17, 20, 13⟩ [] (by rw [htab]; rfl) (fun z h => absurd h List.not_mem_nil) (by decide) (by decide) tw_545 tw_435 (fun q H locs hw => ?_)
      refine lv_astore (lv' := [(4, .ref q), (0, .ref a0), (1, .int a1), (2, .int a2), (3, .ref a3)]) hx hb dL_go_20 hl (by decide) rfl (fun ls hl => ?_)
      refine lv_iconst (v := 1) hx hb dL_go_22 nc_iconst_1 ?_
      exact pw_xiret hC hr hlocks (by decide) (by decide) hw dL_go_23
    exact absurd hi (by show ¬ i + 1 < 1; omega)
theorem dL_find_0 : decode cL_find 0 = .ok (.aload_n 2, 1) := by decide +kernel
theorem dL_find_1 : decode cL_find 1 = .ok (.iconst 0, 1) := by decide +kernel
theorem dL_find_2 : decode cL_find 2 = .ok (.aload_n 0, 1) := by decide +kernel
theorem dL_find_3 : decode cL_find 3 = .ok (.iload_n 1, 1) := by decide +kernel
theorem dL_find_4 : decode cL_find 4 = .ok (.invokevirtual 21, 3) := by decide +kernel
theorem dL_find_7 : decode cL_find 7 = .ok (.i2l, 1) := by decide +kernel
theorem dL_find_8 : decode cL_find 8 = .ok (.lastore, 1) := by decide +kernel
theorem dL_find_9 : decode cL_find 9 = .ok (.goto 6, 3) := by decide +kernel
theorem dL_find_12 : decode cL_find 12 = .ok (.astore_n 3, 1) := by decide +kernel
theorem dL_find_13 : decode cL_find 13 = .ok (.iconst 1, 1) := by decide +kernel
theorem dL_find_14 : decode cL_find 14 = .ok (.ireturn, 1) := by decide +kernel
theorem dL_find_15 : decode cL_find 15 = .ok (.iconst 0, 1) := by decide +kernel
theorem dL_find_16 : decode cL_find 16 = .ok (.ireturn, 1) := by decide +kernel
abbrev rm_L_find : Room := { frames := 8, cells := 1, slots := 6, locals := 147 }
set_option maxRecDepth 100000 in
set_option maxHeartbeats 4000000 in
theorem c_L_find {l : Launch} {g : Wg} {L : List Nat} {μ μ' : Mem} {a0 : Nat} {a1 : Int32} {a2 : Nat} {res : (String × Mem) ⊕ (Int32 × Mem)} {k : Int32} (hl0 : l.stackTraces = false) (ho : isO μ a0 5 = true) (hf : f_X6_find g.2 a0 a1 μ = some res) (hk : HLP g.2 ["java/lang/IndexOutOfBoundsException"] a2 Int32.toInt64 res k μ') : MetH l yL_find cL_find 4 [(0, 9, 12, 13)] rm_L_find g L μ [.ref a0, .int a1, .ref a2] k μ' := by
  refine pw_metH (by decide) (Nat.le_of_ble_eq_true rfl) ?_
  intro p e s m args below meth c A ls H locs hC hr hlocks hl hw hX hNC htab
  have hx := hC.1
  have hb := hC.2.1
  have hl : lv_has ls 4 [(0, .ref a0), (1, .int a1), (2, .ref a2)] := hl
  refine lv_aload_n hx hb dL_find_0 rfl (lv_at hl 2 rfl) ?_
  refine lv_iconst (v := 0) hx hb dL_find_1 nc_iconst_0 ?_
  refine lv_aload_n hx hb dL_find_2 rfl (lv_at hl 0 rfl) ?_
  refine lv_iload_n hx hb dL_find_3 rfl (lv_at hl 1 rfl) ?_
  rcases hk with hk | hk
  · obtain ⟨r, μ1, rfl, hwl, rfl⟩ := hk
    refine pw_goX hw (pw_runVX (As := [.int a1]) (rest := [.int 0, .ref a2]) hC mm_X6_find tw_591 (c_X6_find hl0 hf) ⟨by decide, by decide⟩ hw hX ho rfl hl.1 (Nat.le_of_ble_eq_true rfl) ⟨by decide, by decide⟩ rfl dL_find_4) (fun H locs hw => ?_)
    refine W.eq (g2 := F0 m 7 ls [.int r, .int 0, .ref a2]) rfl ?_
    refine lv_i2l hx hb dL_find_7 rfl ?_
    refine pw_last hC hw hwl dL_find_8 (fun H locs hw => ?_)
    refine lv_goto (tgt := 15) hx hb dL_find_9 (by decide) ?_
    refine lv_iconst (v := 0) hx hb dL_find_15 nc_iconst_0 ?_
    exact pw_xiret hC hr hlocks (by decide) (by decide) hw dL_find_16
  · obtain ⟨i, hi, rfl, rfl⟩ := hk
    rcases i with _ | i
    · replace hf : f_X6_find g.2 a0 a1 μ = some (.inl ("java/lang/IndexOutOfBoundsException", μ')) := hf
      refine pw_caught (name := "java/lang/IndexOutOfBoundsException") hC hw (pw_runVX (As := [.int a1]) (rest := [.int 0, .ref a2]) hC mm_X6_find tw_591 (c_X6_find hl0 hf) ⟨by decide, by decide⟩ hw hX ho rfl hl.1 (Nat.le_of_ble_eq_true rfl) ⟨by decide, by decide⟩ rfl dL_find_4) [] ⟨0, 9, 12, 13⟩ [] (by rw [htab]; rfl) (fun z h => absurd h List.not_mem_nil) (by decide) (by decide) tw_545 tw_435 (fun q H locs hw => ?_)
      refine lv_astore_n (lv' := [(3, .ref q), (0, .ref a0), (1, .int a1), (2, .ref a2)]) hx hb dL_find_12 rfl hl (by decide) rfl (fun ls hl => ?_)
      refine lv_iconst (v := 1) hx hb dL_find_13 nc_iconst_1 ?_
      exact pw_xiret hC hr hlocks (by decide) (by decide) hw dL_find_14
    exact absurd hi (by show ¬ i + 1 < 1; omega)
theorem dL_path_0 : decode cL_path 0 = .ok (.aload_n 2, 1) := by decide +kernel
theorem dL_path_1 : decode cL_path 1 = .ok (.iconst 0, 1) := by decide +kernel
theorem dL_path_2 : decode cL_path 2 = .ok (.aload_n 0, 1) := by decide +kernel
theorem dL_path_3 : decode cL_path 3 = .ok (.iload_n 1, 1) := by decide +kernel
theorem dL_path_4 : decode cL_path 4 = .ok (.invokevirtual 24, 3) := by decide +kernel
theorem dL_path_7 : decode cL_path 7 = .ok (.i2l, 1) := by decide +kernel
theorem dL_path_8 : decode cL_path 8 = .ok (.lastore, 1) := by decide +kernel
theorem dL_path_9 : decode cL_path 9 = .ok (.goto 6, 3) := by decide +kernel
theorem dL_path_12 : decode cL_path 12 = .ok (.astore_n 3, 1) := by decide +kernel
theorem dL_path_13 : decode cL_path 13 = .ok (.iconst 1, 1) := by decide +kernel
theorem dL_path_14 : decode cL_path 14 = .ok (.ireturn, 1) := by decide +kernel
theorem dL_path_15 : decode cL_path 15 = .ok (.iconst 0, 1) := by decide +kernel
theorem dL_path_16 : decode cL_path 16 = .ok (.ireturn, 1) := by decide +kernel
abbrev rm_L_path : Room := { frames := 8, cells := 1, slots := 6, locals := 150 }
set_option maxRecDepth 100000 in
set_option maxHeartbeats 4000000 in
theorem c_L_path {l : Launch} {g : Wg} {L : List Nat} {μ μ' : Mem} {a0 : Nat} {a1 : Int32} {a2 : Nat} {res : (String × Mem) ⊕ (Int32 × Mem)} {k : Int32} (hl0 : l.stackTraces = false) (ho : isO μ a0 5 = true) (hf : f_X6_path g.2 a0 a1 μ = some res) (hk : HLP g.2 ["java/lang/IndexOutOfBoundsException"] a2 Int32.toInt64 res k μ') : MetH l yL_path cL_path 4 [(0, 9, 12, 13)] rm_L_path g L μ [.ref a0, .int a1, .ref a2] k μ' := by
  refine pw_metH (by decide) (Nat.le_of_ble_eq_true rfl) ?_
  intro p e s m args below meth c A ls H locs hC hr hlocks hl hw hX hNC htab
  have hx := hC.1
  have hb := hC.2.1
  have hl : lv_has ls 4 [(0, .ref a0), (1, .int a1), (2, .ref a2)] := hl
  refine lv_aload_n hx hb dL_path_0 rfl (lv_at hl 2 rfl) ?_
  refine lv_iconst (v := 0) hx hb dL_path_1 nc_iconst_0 ?_
  refine lv_aload_n hx hb dL_path_2 rfl (lv_at hl 0 rfl) ?_
  refine lv_iload_n hx hb dL_path_3 rfl (lv_at hl 1 rfl) ?_
  rcases hk with hk | hk
  · obtain ⟨r, μ1, rfl, hwl, rfl⟩ := hk
    refine pw_goX hw (pw_runVX (As := [.int a1]) (rest := [.int 0, .ref a2]) hC mm_X6_path tw_610 (c_X6_path hl0 hf) ⟨by decide, by decide⟩ hw hX ho rfl hl.1 (Nat.le_of_ble_eq_true rfl) ⟨by decide, by decide⟩ rfl dL_path_4) (fun H locs hw => ?_)
    refine W.eq (g2 := F0 m 7 ls [.int r, .int 0, .ref a2]) rfl ?_
    refine lv_i2l hx hb dL_path_7 rfl ?_
    refine pw_last hC hw hwl dL_path_8 (fun H locs hw => ?_)
    refine lv_goto (tgt := 15) hx hb dL_path_9 (by decide) ?_
    refine lv_iconst (v := 0) hx hb dL_path_15 nc_iconst_0 ?_
    exact pw_xiret hC hr hlocks (by decide) (by decide) hw dL_path_16
  · obtain ⟨i, hi, rfl, rfl⟩ := hk
    rcases i with _ | i
    · replace hf : f_X6_path g.2 a0 a1 μ = some (.inl ("java/lang/IndexOutOfBoundsException", μ')) := hf
      refine pw_caught (name := "java/lang/IndexOutOfBoundsException") hC hw (pw_runVX (As := [.int a1]) (rest := [.int 0, .ref a2]) hC mm_X6_path tw_610 (c_X6_path hl0 hf) ⟨by decide, by decide⟩ hw hX ho rfl hl.1 (Nat.le_of_ble_eq_true rfl) ⟨by decide, by decide⟩ rfl dL_path_4) [] ⟨0, 9, 12, 13⟩ [] (by rw [htab]; rfl) (fun z h => absurd h List.not_mem_nil) (by decide) (by decide) tw_545 tw_435 (fun q H locs hw => ?_)
      refine lv_astore_n (lv' := [(3, .ref q), (0, .ref a0), (1, .int a1), (2, .ref a2)]) hx hb dL_path_12 rfl hl (by decide) rfl (fun ls hl => ?_)
      refine lv_iconst (v := 1) hx hb dL_path_13 nc_iconst_1 ?_
      exact pw_xiret hC hr hlocks (by decide) (by decide) hw dL_path_14
    exact absurd hi (by show ¬ i + 1 < 1; omega)
theorem dL_in_0 : decode cL_in 0 = .ok (.aload_n 2, 1) := by decide +kernel
theorem dL_in_1 : decode cL_in 1 = .ok (.iconst 0, 1) := by decide +kernel
theorem dL_in_2 : decode cL_in 2 = .ok (.aload_n 0, 1) := by decide +kernel
theorem dL_in_3 : decode cL_in 3 = .ok (.iload_n 1, 1) := by decide +kernel
theorem dL_in_4 : decode cL_in 4 = .ok (.invokevirtual 27, 3) := by decide +kernel
theorem dL_in_7 : decode cL_in 7 = .ok (.ifCond .eq 7, 3) := by decide +kernel
theorem dL_in_10 : decode cL_in 10 = .ok (.lconst 1, 1) := by decide +kernel
theorem dL_in_11 : decode cL_in 11 = .ok (.goto 4, 3) := by decide +kernel
theorem dL_in_14 : decode cL_in 14 = .ok (.lconst 0, 1) := by decide +kernel
theorem dL_in_15 : decode cL_in 15 = .ok (.lastore, 1) := by decide +kernel
theorem dL_in_16 : decode cL_in 16 = .ok (.goto 6, 3) := by decide +kernel
theorem dL_in_19 : decode cL_in 19 = .ok (.astore_n 3, 1) := by decide +kernel
theorem dL_in_20 : decode cL_in 20 = .ok (.iconst 1, 1) := by decide +kernel
theorem dL_in_21 : decode cL_in 21 = .ok (.ireturn, 1) := by decide +kernel
theorem dL_in_22 : decode cL_in 22 = .ok (.iconst 0, 1) := by decide +kernel
theorem dL_in_23 : decode cL_in 23 = .ok (.ireturn, 1) := by decide +kernel
abbrev rm_L_in : Room := { frames := 8, cells := 1, slots := 6, locals := 143 }
set_option maxRecDepth 100000 in
set_option maxHeartbeats 4000000 in
theorem c_L_in {l : Launch} {g : Wg} {L : List Nat} {μ μ' : Mem} {a0 : Nat} {a1 : Int32} {a2 : Nat} {res : (String × Mem) ⊕ (Int32 × Mem)} {k : Int32} (hl0 : l.stackTraces = false) (ho : isO μ a0 5 = true) (hf : f_X6_in g.2 a0 a1 μ = some res) (hk : HLP g.2 ["java/lang/IndexOutOfBoundsException"] a2 (fun r => if r = 0 then 0 else 1) res k μ') : MetH l yL_in cL_in 4 [(0, 16, 19, 13)] rm_L_in g L μ [.ref a0, .int a1, .ref a2] k μ' := by
  refine pw_metH (by decide) (Nat.le_of_ble_eq_true rfl) ?_
  intro p e s m args below meth c A ls H locs hC hr hlocks hl hw hX hNC htab
  have hx := hC.1
  have hb := hC.2.1
  have hl : lv_has ls 4 [(0, .ref a0), (1, .int a1), (2, .ref a2)] := hl
  refine lv_aload_n hx hb dL_in_0 rfl (lv_at hl 2 rfl) ?_
  refine lv_iconst (v := 0) hx hb dL_in_1 nc_iconst_0 ?_
  refine lv_aload_n hx hb dL_in_2 rfl (lv_at hl 0 rfl) ?_
  refine lv_iload_n hx hb dL_in_3 rfl (lv_at hl 1 rfl) ?_
  rcases hk with hk | hk
  · obtain ⟨r, μ1, rfl, hwl, rfl⟩ := hk
    refine pw_goX hw (pw_runVX (As := [.int a1]) (rest := [.int 0, .ref a2]) hC mm_X6_in tw_638 (c_X6_in hl0 hf) ⟨by decide, by decide⟩ hw hX ho rfl hl.1 (Nat.le_of_ble_eq_true rfl) ⟨by decide, by decide⟩ rfl dL_in_4) (fun H locs hw => ?_)
    refine W.eq (g2 := F0 m 7 ls [.int r, .int 0, .ref a2]) rfl ?_
    refine lv_if_eq (tgt := 14) hx hb dL_in_7 (by decide) (fun c1 => ?_) (fun c1 => ?_)
    · replace hwl : wrL g.2 μ1 a2 0 = some μ' := by rw [← hwl]; exact congrArg (wrL g.2 μ1 a2) (if_pos c1).symm
      refine lv_lconst (v := 0) hx hb dL_in_14 (by decide +kernel) ?_
      refine pw_last hC hw hwl dL_in_15 (fun H locs hw => ?_)
      refine lv_goto (tgt := 22) hx hb dL_in_16 (by decide) ?_
      refine lv_iconst (v := 0) hx hb dL_in_22 nc_iconst_0 ?_
      exact pw_xiret hC hr hlocks (by decide) (by decide) hw dL_in_23
    · replace hwl : wrL g.2 μ1 a2 1 = some μ' := by rw [← hwl]; exact congrArg (wrL g.2 μ1 a2) (if_neg c1).symm
      refine lv_lconst (v := 1) hx hb dL_in_10 (by decide +kernel) ?_
      refine lv_goto (tgt := 15) hx hb dL_in_11 (by decide) ?_
      refine pw_last hC hw hwl dL_in_15 (fun H locs hw => ?_)
      refine lv_goto (tgt := 22) hx hb dL_in_16 (by decide) ?_
      refine lv_iconst (v := 0) hx hb dL_in_22 nc_iconst_0 ?_
      exact pw_xiret hC hr hlocks (by decide) (by decide) hw dL_in_23
  · obtain ⟨i, hi, rfl, rfl⟩ := hk
    rcases i with _ | i
    · replace hf : f_X6_in g.2 a0 a1 μ = some (.inl ("java/lang/IndexOutOfBoundsException", μ')) := hf
      refine pw_caught (name := "java/lang/IndexOutOfBoundsException") hC hw (pw_runVX (As := [.int a1]) (rest := [.int 0, .ref a2]) hC mm_X6_in tw_638 (c_X6_in hl0 hf) ⟨by decide, by decide⟩ hw hX ho rfl hl.1 (Nat.le_of_ble_eq_true rfl) ⟨by decide, by decide⟩ rfl dL_in_4) [] ⟨0, 16, 19, 13⟩ [] (by rw [htab]; rfl) (fun z h => absurd h List.not_mem_nil) (by decide) (by decide) tw_545 tw_435 (fun q H locs hw => ?_)
      refine lv_astore_n (lv' := [(3, .ref q), (0, .ref a0), (1, .int a1), (2, .ref a2)]) hx hb dL_in_19 rfl hl (by decide) rfl (fun ls hl => ?_)
      refine lv_iconst (v := 1) hx hb dL_in_20 nc_iconst_1 ?_
      exact pw_xiret hC hr hlocks (by decide) (by decide) hw dL_in_21
    exact absurd hi (by show ¬ i + 1 < 1; omega)
theorem dL_out_0 : decode cL_out 0 = .ok (.aload_n 2, 1) := by decide +kernel
theorem dL_out_1 : decode cL_out 1 = .ok (.iconst 0, 1) := by decide +kernel
theorem dL_out_2 : decode cL_out 2 = .ok (.aload_n 0, 1) := by decide +kernel
theorem dL_out_3 : decode cL_out 3 = .ok (.iload_n 1, 1) := by decide +kernel
theorem dL_out_4 : decode cL_out 4 = .ok (.invokevirtual 31, 3) := by decide +kernel
theorem dL_out_7 : decode cL_out 7 = .ok (.ifCond .eq 7, 3) := by decide +kernel
theorem dL_out_10 : decode cL_out 10 = .ok (.lconst 1, 1) := by decide +kernel
theorem dL_out_11 : decode cL_out 11 = .ok (.goto 4, 3) := by decide +kernel
theorem dL_out_14 : decode cL_out 14 = .ok (.lconst 0, 1) := by decide +kernel
theorem dL_out_15 : decode cL_out 15 = .ok (.lastore, 1) := by decide +kernel
theorem dL_out_16 : decode cL_out 16 = .ok (.goto 6, 3) := by decide +kernel
theorem dL_out_19 : decode cL_out 19 = .ok (.astore_n 3, 1) := by decide +kernel
theorem dL_out_20 : decode cL_out 20 = .ok (.iconst 1, 1) := by decide +kernel
theorem dL_out_21 : decode cL_out 21 = .ok (.ireturn, 1) := by decide +kernel
theorem dL_out_22 : decode cL_out 22 = .ok (.iconst 0, 1) := by decide +kernel
theorem dL_out_23 : decode cL_out 23 = .ok (.ireturn, 1) := by decide +kernel
abbrev rm_L_out : Room := { frames := 8, cells := 1, slots := 6, locals := 143 }
set_option maxRecDepth 100000 in
set_option maxHeartbeats 4000000 in
theorem c_L_out {l : Launch} {g : Wg} {L : List Nat} {μ μ' : Mem} {a0 : Nat} {a1 : Int32} {a2 : Nat} {res : (String × Mem) ⊕ (Int32 × Mem)} {k : Int32} (hl0 : l.stackTraces = false) (ho : isO μ a0 5 = true) (hf : f_X6_out g.2 a0 a1 μ = some res) (hk : HLP g.2 ["java/lang/IndexOutOfBoundsException"] a2 (fun r => if r = 0 then 0 else 1) res k μ') : MetH l yL_out cL_out 4 [(0, 16, 19, 13)] rm_L_out g L μ [.ref a0, .int a1, .ref a2] k μ' := by
  refine pw_metH (by decide) (Nat.le_of_ble_eq_true rfl) ?_
  intro p e s m args below meth c A ls H locs hC hr hlocks hl hw hX hNC htab
  have hx := hC.1
  have hb := hC.2.1
  have hl : lv_has ls 4 [(0, .ref a0), (1, .int a1), (2, .ref a2)] := hl
  refine lv_aload_n hx hb dL_out_0 rfl (lv_at hl 2 rfl) ?_
  refine lv_iconst (v := 0) hx hb dL_out_1 nc_iconst_0 ?_
  refine lv_aload_n hx hb dL_out_2 rfl (lv_at hl 0 rfl) ?_
  refine lv_iload_n hx hb dL_out_3 rfl (lv_at hl 1 rfl) ?_
  rcases hk with hk | hk
  · obtain ⟨r, μ1, rfl, hwl, rfl⟩ := hk
    refine pw_goX hw (pw_runVX (As := [.int a1]) (rest := [.int 0, .ref a2]) hC mm_X6_out tw_645 (c_X6_out hl0 hf) ⟨by decide, by decide⟩ hw hX ho rfl hl.1 (Nat.le_of_ble_eq_true rfl) ⟨by decide, by decide⟩ rfl dL_out_4) (fun H locs hw => ?_)
    refine W.eq (g2 := F0 m 7 ls [.int r, .int 0, .ref a2]) rfl ?_
    refine lv_if_eq (tgt := 14) hx hb dL_out_7 (by decide) (fun c1 => ?_) (fun c1 => ?_)
    · replace hwl : wrL g.2 μ1 a2 0 = some μ' := by rw [← hwl]; exact congrArg (wrL g.2 μ1 a2) (if_pos c1).symm
      refine lv_lconst (v := 0) hx hb dL_out_14 (by decide +kernel) ?_
      refine pw_last hC hw hwl dL_out_15 (fun H locs hw => ?_)
      refine lv_goto (tgt := 22) hx hb dL_out_16 (by decide) ?_
      refine lv_iconst (v := 0) hx hb dL_out_22 nc_iconst_0 ?_
      exact pw_xiret hC hr hlocks (by decide) (by decide) hw dL_out_23
    · replace hwl : wrL g.2 μ1 a2 1 = some μ' := by rw [← hwl]; exact congrArg (wrL g.2 μ1 a2) (if_neg c1).symm
      refine lv_lconst (v := 1) hx hb dL_out_10 (by decide +kernel) ?_
      refine lv_goto (tgt := 15) hx hb dL_out_11 (by decide) ?_
      refine pw_last hC hw hwl dL_out_15 (fun H locs hw => ?_)
      refine lv_goto (tgt := 22) hx hb dL_out_16 (by decide) ?_
      refine lv_iconst (v := 0) hx hb dL_out_22 nc_iconst_0 ?_
      exact pw_xiret hC hr hlocks (by decide) (by decide) hw dL_out_23
  · obtain ⟨i, hi, rfl, rfl⟩ := hk
    rcases i with _ | i
    · replace hf : f_X6_out g.2 a0 a1 μ = some (.inl ("java/lang/IndexOutOfBoundsException", μ')) := hf
      refine pw_caught (name := "java/lang/IndexOutOfBoundsException") hC hw (pw_runVX (As := [.int a1]) (rest := [.int 0, .ref a2]) hC mm_X6_out tw_645 (c_X6_out hl0 hf) ⟨by decide, by decide⟩ hw hX ho rfl hl.1 (Nat.le_of_ble_eq_true rfl) ⟨by decide, by decide⟩ rfl dL_out_4) [] ⟨0, 16, 19, 13⟩ [] (by rw [htab]; rfl) (fun z h => absurd h List.not_mem_nil) (by decide) (by decide) tw_545 tw_435 (fun q H locs hw => ?_)
      refine lv_astore_n (lv' := [(3, .ref q), (0, .ref a0), (1, .int a1), (2, .ref a2)]) hx hb dL_out_19 rfl hl (by decide) rfl (fun ls hl => ?_)
      refine lv_iconst (v := 1) hx hb dL_out_20 nc_iconst_1 ?_
      exact pw_xiret hC hr hlocks (by decide) (by decide) hw dL_out_21
    exact absurd hi (by show ¬ i + 1 < 1; omega)
theorem dL_look_0 : decode cL_look 0 = .ok (.aload_n 3, 1) := by decide +kernel
theorem dL_look_1 : decode cL_look 1 = .ok (.iconst 0, 1) := by decide +kernel
theorem dL_look_2 : decode cL_look 2 = .ok (.aload_n 0, 1) := by decide +kernel
theorem dL_look_3 : decode cL_look 3 = .ok (.iload_n 1, 1) := by decide +kernel
theorem dL_look_4 : decode cL_look 4 = .ok (.iload_n 2, 1) := by decide +kernel
theorem dL_look_5 : decode cL_look 5 = .ok (.invokevirtual 34, 3) := by decide +kernel
theorem dL_look_8 : decode cL_look 8 = .ok (.i2l, 1) := by decide +kernel
theorem dL_look_9 : decode cL_look 9 = .ok (.lastore, 1) := by decide +kernel
theorem dL_look_10 : decode cL_look 10 = .ok (.goto 7, 3) := by decide +kernel
theorem dL_look_13 : decode cL_look 13 = .ok (.astore 4, 2) := by decide +kernel
theorem dL_look_15 : decode cL_look 15 = .ok (.iconst 1, 1) := by decide +kernel
theorem dL_look_16 : decode cL_look 16 = .ok (.ireturn, 1) := by decide +kernel
theorem dL_look_17 : decode cL_look 17 = .ok (.iconst 0, 1) := by decide +kernel
theorem dL_look_18 : decode cL_look 18 = .ok (.ireturn, 1) := by decide +kernel
abbrev rm_L_look : Room := { frames := 8, cells := 1, slots := 6, locals := 145 }
set_option maxRecDepth 100000 in
set_option maxHeartbeats 4000000 in
theorem c_L_look {l : Launch} {g : Wg} {L : List Nat} {μ μ' : Mem} {a0 : Nat} {a1 : Int32} {a2 : Int32} {a3 : Nat} {res : (String × Mem) ⊕ (Int32 × Mem)} {k : Int32} (hl0 : l.stackTraces = false) (ho : isO μ a0 5 = true) (hf : f_X6_look g.2 a0 a1 a2 μ = some res) (hk : HLP g.2 ["java/lang/IndexOutOfBoundsException"] a3 Int32.toInt64 res k μ') : MetH l yL_look cL_look 5 [(0, 10, 13, 13)] rm_L_look g L μ [.ref a0, .int a1, .int a2, .ref a3] k μ' := by
  refine pw_metH (by decide) (Nat.le_of_ble_eq_true rfl) ?_
  intro p e s m args below meth c A ls H locs hC hr hlocks hl hw hX hNC htab
  have hx := hC.1
  have hb := hC.2.1
  have hl : lv_has ls 5 [(0, .ref a0), (1, .int a1), (2, .int a2), (3, .ref a3)] := hl
  refine lv_aload_n hx hb dL_look_0 rfl (lv_at hl 3 rfl) ?_
  refine lv_iconst (v := 0) hx hb dL_look_1 nc_iconst_0 ?_
  refine lv_aload_n hx hb dL_look_2 rfl (lv_at hl 0 rfl) ?_
  refine lv_iload_n hx hb dL_look_3 rfl (lv_at hl 1 rfl) ?_
  refine lv_iload_n hx hb dL_look_4 rfl (lv_at hl 2 rfl) ?_
  rcases hk with hk | hk
  · obtain ⟨r, μ1, rfl, hwl, rfl⟩ := hk
    refine pw_goX hw (pw_runVX (As := [.int a1, .int a2]) (rest := [.int 0, .ref a3]) hC mm_X6_look tw_656 (c_X6_look hl0 hf) ⟨by decide, by decide⟩ hw hX ho rfl hl.1 (Nat.le_of_ble_eq_true rfl) ⟨by decide, by decide⟩ rfl dL_look_5) (fun H locs hw => ?_)
    refine W.eq (g2 := F0 m 8 ls [.int r, .int 0, .ref a3]) rfl ?_
    refine lv_i2l hx hb dL_look_8 rfl ?_
    refine pw_last hC hw hwl dL_look_9 (fun H locs hw => ?_)
    refine lv_goto (tgt := 17) hx hb dL_look_10 (by decide) ?_
    refine lv_iconst (v := 0) hx hb dL_look_17 nc_iconst_0 ?_
    exact pw_xiret hC hr hlocks (by decide) (by decide) hw dL_look_18
  · obtain ⟨i, hi, rfl, rfl⟩ := hk
    rcases i with _ | i
    · replace hf : f_X6_look g.2 a0 a1 a2 μ = some (.inl ("java/lang/IndexOutOfBoundsException", μ')) := hf
      refine pw_caught (name := "java/lang/IndexOutOfBoundsException") hC hw (pw_runVX (As := [.int a1, .int a2]) (rest := [.int 0, .ref a3]) hC mm_X6_look tw_656 (c_X6_look hl0 hf) ⟨by decide, by decide⟩ hw hX ho rfl hl.1 (Nat.le_of_ble_eq_true rfl) ⟨by decide, by decide⟩ rfl dL_look_5) [] ⟨0, 10, 13, 13⟩ [] (by rw [htab]; rfl) (fun z h => absurd h List.not_mem_nil) (by decide) (by decide) tw_545 tw_435 (fun q H locs hw => ?_)
      refine lv_astore (lv' := [(4, .ref q), (0, .ref a0), (1, .int a1), (2, .int a2), (3, .ref a3)]) hx hb dL_look_13 hl (by decide) rfl (fun ls hl => ?_)
      refine lv_iconst (v := 1) hx hb dL_look_15 nc_iconst_1 ?_
      exact pw_xiret hC hr hlocks (by decide) (by decide) hw dL_look_16
    exact absurd hi (by show ¬ i + 1 < 1; omega)
theorem dL_byteAt_0 : decode cL_byteAt 0 = .ok (.aload_n 3, 1) := by decide +kernel
theorem dL_byteAt_1 : decode cL_byteAt 1 = .ok (.iconst 0, 1) := by decide +kernel
theorem dL_byteAt_2 : decode cL_byteAt 2 = .ok (.aload_n 0, 1) := by decide +kernel
theorem dL_byteAt_3 : decode cL_byteAt 3 = .ok (.iload_n 1, 1) := by decide +kernel
theorem dL_byteAt_4 : decode cL_byteAt 4 = .ok (.iload_n 2, 1) := by decide +kernel
theorem dL_byteAt_5 : decode cL_byteAt 5 = .ok (.invokevirtual 38, 3) := by decide +kernel
theorem dL_byteAt_8 : decode cL_byteAt 8 = .ok (.i2l, 1) := by decide +kernel
theorem dL_byteAt_9 : decode cL_byteAt 9 = .ok (.lastore, 1) := by decide +kernel
theorem dL_byteAt_10 : decode cL_byteAt 10 = .ok (.goto 7, 3) := by decide +kernel
theorem dL_byteAt_13 : decode cL_byteAt 13 = .ok (.astore 4, 2) := by decide +kernel
theorem dL_byteAt_15 : decode cL_byteAt 15 = .ok (.iconst 1, 1) := by decide +kernel
theorem dL_byteAt_16 : decode cL_byteAt 16 = .ok (.ireturn, 1) := by decide +kernel
theorem dL_byteAt_17 : decode cL_byteAt 17 = .ok (.iconst 0, 1) := by decide +kernel
theorem dL_byteAt_18 : decode cL_byteAt 18 = .ok (.ireturn, 1) := by decide +kernel
abbrev rm_L_byteAt : Room := { frames := 8, cells := 1, slots := 6, locals := 144 }
set_option maxRecDepth 100000 in
set_option maxHeartbeats 4000000 in
theorem c_L_byteAt {l : Launch} {g : Wg} {L : List Nat} {μ μ' : Mem} {a0 : Nat} {a1 : Int32} {a2 : Int32} {a3 : Nat} {res : (String × Mem) ⊕ (Int32 × Mem)} {k : Int32} (hl0 : l.stackTraces = false) (ho : isO μ a0 5 = true) (hf : f_X6_byteAt g.2 a0 a1 a2 μ = some res) (hk : HLP g.2 ["java/lang/IndexOutOfBoundsException"] a3 Int32.toInt64 res k μ') : MetH l yL_byteAt cL_byteAt 5 [(0, 10, 13, 13)] rm_L_byteAt g L μ [.ref a0, .int a1, .int a2, .ref a3] k μ' := by
  refine pw_metH (by decide) (Nat.le_of_ble_eq_true rfl) ?_
  intro p e s m args below meth c A ls H locs hC hr hlocks hl hw hX hNC htab
  have hx := hC.1
  have hb := hC.2.1
  have hl : lv_has ls 5 [(0, .ref a0), (1, .int a1), (2, .int a2), (3, .ref a3)] := hl
  refine lv_aload_n hx hb dL_byteAt_0 rfl (lv_at hl 3 rfl) ?_
  refine lv_iconst (v := 0) hx hb dL_byteAt_1 nc_iconst_0 ?_
  refine lv_aload_n hx hb dL_byteAt_2 rfl (lv_at hl 0 rfl) ?_
  refine lv_iload_n hx hb dL_byteAt_3 rfl (lv_at hl 1 rfl) ?_
  refine lv_iload_n hx hb dL_byteAt_4 rfl (lv_at hl 2 rfl) ?_
  rcases hk with hk | hk
  · obtain ⟨r, μ1, rfl, hwl, rfl⟩ := hk
    refine pw_goX hw (pw_runVX (As := [.int a1, .int a2]) (rest := [.int 0, .ref a3]) hC mm_X6_byteAt tw_683 (c_X6_byteAt hl0 hf) ⟨by decide, by decide⟩ hw hX ho rfl hl.1 (Nat.le_of_ble_eq_true rfl) ⟨by decide, by decide⟩ rfl dL_byteAt_5) (fun H locs hw => ?_)
    refine W.eq (g2 := F0 m 8 ls [.int r, .int 0, .ref a3]) rfl ?_
    refine lv_i2l hx hb dL_byteAt_8 rfl ?_
    refine pw_last hC hw hwl dL_byteAt_9 (fun H locs hw => ?_)
    refine lv_goto (tgt := 17) hx hb dL_byteAt_10 (by decide) ?_
    refine lv_iconst (v := 0) hx hb dL_byteAt_17 nc_iconst_0 ?_
    exact pw_xiret hC hr hlocks (by decide) (by decide) hw dL_byteAt_18
  · obtain ⟨i, hi, rfl, rfl⟩ := hk
    rcases i with _ | i
    · replace hf : f_X6_byteAt g.2 a0 a1 a2 μ = some (.inl ("java/lang/IndexOutOfBoundsException", μ')) := hf
      refine pw_caught (name := "java/lang/IndexOutOfBoundsException") hC hw (pw_runVX (As := [.int a1, .int a2]) (rest := [.int 0, .ref a3]) hC mm_X6_byteAt tw_683 (c_X6_byteAt hl0 hf) ⟨by decide, by decide⟩ hw hX ho rfl hl.1 (Nat.le_of_ble_eq_true rfl) ⟨by decide, by decide⟩ rfl dL_byteAt_5) [] ⟨0, 10, 13, 13⟩ [] (by rw [htab]; rfl) (fun z h => absurd h List.not_mem_nil) (by decide) (by decide) tw_545 tw_435 (fun q H locs hw => ?_)
      refine lv_astore (lv' := [(4, .ref q), (0, .ref a0), (1, .int a1), (2, .int a2), (3, .ref a3)]) hx hb dL_byteAt_13 hl (by decide) rfl (fun ls hl => ?_)
      refine lv_iconst (v := 1) hx hb dL_byteAt_15 nc_iconst_1 ?_
      exact pw_xiret hC hr hlocks (by decide) (by decide) hw dL_byteAt_16
    exact absurd hi (by show ¬ i + 1 < 1; omega)
theorem dL_number_0 : decode cL_number 0 = .ok (.aload_n 2, 1) := by decide +kernel
theorem dL_number_1 : decode cL_number 1 = .ok (.iconst 0, 1) := by decide +kernel
theorem dL_number_2 : decode cL_number 2 = .ok (.aload_n 0, 1) := by decide +kernel
theorem dL_number_3 : decode cL_number 3 = .ok (.iload_n 1, 1) := by decide +kernel
theorem dL_number_4 : decode cL_number 4 = .ok (.invokevirtual 41, 3) := by decide +kernel
theorem dL_number_7 : decode cL_number 7 = .ok (.lastore, 1) := by decide +kernel
theorem dL_number_8 : decode cL_number 8 = .ok (.goto 12, 3) := by decide +kernel
theorem dL_number_11 : decode cL_number 11 = .ok (.astore_n 3, 1) := by decide +kernel
theorem dL_number_12 : decode cL_number 12 = .ok (.iconst 1, 1) := by decide +kernel
theorem dL_number_13 : decode cL_number 13 = .ok (.ireturn, 1) := by decide +kernel
theorem dL_number_14 : decode cL_number 14 = .ok (.astore_n 3, 1) := by decide +kernel
theorem dL_number_15 : decode cL_number 15 = .ok (.iconst 2, 1) := by decide +kernel
theorem dL_number_16 : decode cL_number 16 = .ok (.ireturn, 1) := by decide +kernel
theorem dL_number_17 : decode cL_number 17 = .ok (.astore_n 3, 1) := by decide +kernel
theorem dL_number_18 : decode cL_number 18 = .ok (.iconst 3, 1) := by decide +kernel
theorem dL_number_19 : decode cL_number 19 = .ok (.ireturn, 1) := by decide +kernel
theorem dL_number_20 : decode cL_number 20 = .ok (.iconst 0, 1) := by decide +kernel
theorem dL_number_21 : decode cL_number 21 = .ok (.ireturn, 1) := by decide +kernel
abbrev rm_L_number : Room := { frames := 8, cells := 3, slots := 18, locals := 145 }
set_option maxRecDepth 100000 in
set_option maxHeartbeats 4000000 in
theorem c_L_number {l : Launch} {g : Wg} {L : List Nat} {μ μ' : Mem} {a0 : Nat} {a1 : Int32} {a2 : Nat} {res : (String × Mem) ⊕ (Int64 × Mem)} {k : Int32} (hl0 : l.stackTraces = false) (ho : isO μ a0 5 = true) (hf : f_X6_number g.2 a0 a1 μ = some res) (hk : HLP g.2 ["java/lang/IndexOutOfBoundsException", "java/util/NoSuchElementException", "java/lang/IllegalStateException"] a2 (fun r => r) res k μ') : MetH l yL_number cL_number 4 [(0, 8, 11, 13), (0, 8, 14, 45), (0, 8, 17, 47)] rm_L_number g L μ [.ref a0, .int a1, .ref a2] k μ' := by
  refine pw_metH (by decide) (Nat.le_of_ble_eq_true rfl) ?_
  intro p e s m args below meth c A ls H locs hC hr hlocks hl hw hX hNC htab
  have hx := hC.1
  have hb := hC.2.1
  have hl : lv_has ls 4 [(0, .ref a0), (1, .int a1), (2, .ref a2)] := hl
  refine lv_aload_n hx hb dL_number_0 rfl (lv_at hl 2 rfl) ?_
  refine lv_iconst (v := 0) hx hb dL_number_1 nc_iconst_0 ?_
  refine lv_aload_n hx hb dL_number_2 rfl (lv_at hl 0 rfl) ?_
  refine lv_iload_n hx hb dL_number_3 rfl (lv_at hl 1 rfl) ?_
  rcases hk with hk | hk
  · obtain ⟨r, μ1, rfl, hwl, rfl⟩ := hk
    refine pw_goX hw (pw_runVX (As := [.int a1]) (rest := [.int 0, .ref a2]) hC mm_X6_number tw_692 (c_X6_number hl0 hf) ⟨by decide, by decide⟩ hw hX ho rfl hl.1 (Nat.le_of_ble_eq_true rfl) ⟨by decide, by decide⟩ rfl dL_number_4) (fun H locs hw => ?_)
    refine W.eq (g2 := F0 m 7 ls [.long r, .int 0, .ref a2]) rfl ?_
    refine pw_last hC hw hwl dL_number_7 (fun H locs hw => ?_)
    refine lv_goto (tgt := 20) hx hb dL_number_8 (by decide) ?_
    refine lv_iconst (v := 0) hx hb dL_number_20 nc_iconst_0 ?_
    exact pw_xiret hC hr hlocks (by decide) (by decide) hw dL_number_21
  · obtain ⟨i, hi, rfl, rfl⟩ := hk
    rcases i with _ | i
    · replace hf : f_X6_number g.2 a0 a1 μ = some (.inl ("java/lang/IndexOutOfBoundsException", μ')) := hf
      refine pw_caught (name := "java/lang/IndexOutOfBoundsException") hC hw (pw_runVX (As := [.int a1]) (rest := [.int 0, .ref a2]) hC mm_X6_number tw_692 (c_X6_number hl0 hf) ⟨by decide, by decide⟩ hw hX ho rfl hl.1 (Nat.le_of_ble_eq_true rfl) ⟨by decide, by decide⟩ rfl dL_number_4) [] ⟨0, 8, 11, 13⟩ [⟨0, 8, 14, 45⟩, ⟨0, 8, 17, 47⟩] (by rw [htab]; rfl) (fun z h => absurd h List.not_mem_nil) (by decide) (by decide) tw_545 tw_435 (fun q H locs hw => ?_)
      refine lv_astore_n (lv' := [(3, .ref q), (0, .ref a0), (1, .int a1), (2, .ref a2)]) hx hb dL_number_11 rfl hl (by decide) rfl (fun ls hl => ?_)
      refine lv_iconst (v := 1) hx hb dL_number_12 nc_iconst_1 ?_
      exact pw_xiret hC hr hlocks (by decide) (by decide) hw dL_number_13
    rcases i with _ | i
    · replace hf : f_X6_number g.2 a0 a1 μ = some (.inl ("java/util/NoSuchElementException", μ')) := hf
      refine pw_caught (name := "java/util/NoSuchElementException") hC hw (pw_runVX (As := [.int a1]) (rest := [.int 0, .ref a2]) hC mm_X6_number tw_692 (c_X6_number hl0 hf) ⟨by decide, by decide⟩ hw hX ho rfl hl.1 (Nat.le_of_ble_eq_true rfl) ⟨by decide, by decide⟩ rfl dL_number_4) [⟨0, 8, 11, 13⟩] ⟨0, 8, 14, 45⟩ [⟨0, 8, 17, 47⟩] (by rw [htab]; rfl) (List.forall_mem_cons.mpr ⟨Or.inr ⟨by decide, "java/lang/IndexOutOfBoundsException", hC.2.2.2.2 _ tw_545, hNC "java/util/NoSuchElementException" (by decide) _ (by decide) (by decide)⟩, (fun z h => absurd h List.not_mem_nil)⟩) (by decide) (by decide) tw_690 tw_701 (fun q H locs hw => ?_)
      refine lv_astore_n (lv' := [(3, .ref q), (0, .ref a0), (1, .int a1), (2, .ref a2)]) hx hb dL_number_14 rfl hl (by decide) rfl (fun ls hl => ?_)
      refine lv_iconst (v := 2) hx hb dL_number_15 nc_iconst_2 ?_
      exact pw_xiret hC hr hlocks (by decide) (by decide) hw dL_number_16
    rcases i with _ | i
    · replace hf : f_X6_number g.2 a0 a1 μ = some (.inl ("java/lang/IllegalStateException", μ')) := hf
      refine pw_caught (name := "java/lang/IllegalStateException") hC hw (pw_runVX (As := [.int a1]) (rest := [.int 0, .ref a2]) hC mm_X6_number tw_692 (c_X6_number hl0 hf) ⟨by decide, by decide⟩ hw hX ho rfl hl.1 (Nat.le_of_ble_eq_true rfl) ⟨by decide, by decide⟩ rfl dL_number_4) [⟨0, 8, 11, 13⟩, ⟨0, 8, 14, 45⟩] ⟨0, 8, 17, 47⟩ [] (by rw [htab]; rfl) (List.forall_mem_cons.mpr ⟨Or.inr ⟨by decide, "java/lang/IndexOutOfBoundsException", hC.2.2.2.2 _ tw_545, hNC "java/lang/IllegalStateException" (by decide) _ (by decide) (by decide)⟩, (List.forall_mem_cons.mpr ⟨Or.inr ⟨by decide, "java/util/NoSuchElementException", hC.2.2.2.2 _ tw_690, hNC "java/lang/IllegalStateException" (by decide) _ (by decide) (by decide)⟩, (fun z h => absurd h List.not_mem_nil)⟩)⟩) (by decide) (by decide) tw_691 tw_726 (fun q H locs hw => ?_)
      refine lv_astore_n (lv' := [(3, .ref q), (0, .ref a0), (1, .int a1), (2, .ref a2)]) hx hb dL_number_17 rfl hl (by decide) rfl (fun ls hl => ?_)
      refine lv_iconst (v := 3) hx hb dL_number_18 nc_iconst_3 ?_
      exact pw_xiret hC hr hlocks (by decide) (by decide) hw dL_number_19
    exact absurd hi (by show ¬ i + 3 < 3; omega)
theorem dL_total_0 : decode cL_total 0 = .ok (.aload_n 3, 1) := by decide +kernel
theorem dL_total_1 : decode cL_total 1 = .ok (.iconst 0, 1) := by decide +kernel
theorem dL_total_2 : decode cL_total 2 = .ok (.aload_n 0, 1) := by decide +kernel
theorem dL_total_3 : decode cL_total 3 = .ok (.iload_n 1, 1) := by decide +kernel
theorem dL_total_4 : decode cL_total 4 = .ok (.iload_n 2, 1) := by decide +kernel
theorem dL_total_5 : decode cL_total 5 = .ok (.invokevirtual 49, 3) := by decide +kernel
theorem dL_total_8 : decode cL_total 8 = .ok (.i2l, 1) := by decide +kernel
theorem dL_total_9 : decode cL_total 9 = .ok (.lastore, 1) := by decide +kernel
theorem dL_total_10 : decode cL_total 10 = .ok (.goto 7, 3) := by decide +kernel
theorem dL_total_13 : decode cL_total 13 = .ok (.astore 4, 2) := by decide +kernel
theorem dL_total_15 : decode cL_total 15 = .ok (.iconst 1, 1) := by decide +kernel
theorem dL_total_16 : decode cL_total 16 = .ok (.ireturn, 1) := by decide +kernel
theorem dL_total_17 : decode cL_total 17 = .ok (.iconst 0, 1) := by decide +kernel
theorem dL_total_18 : decode cL_total 18 = .ok (.ireturn, 1) := by decide +kernel
abbrev rm_L_total : Room := { frames := 127, cells := 1, slots := 6, locals := 3526 }
set_option maxRecDepth 100000 in
set_option maxHeartbeats 4000000 in
theorem c_L_total {l : Launch} {g : Wg} {L : List Nat} {μ μ' : Mem} {a0 : Nat} {a1 : Int32} {a2 : Int32} {a3 : Nat} {res : (String × Mem) ⊕ (Int32 × Mem)} {k : Int32} (hl0 : l.stackTraces = false) (ho : isO μ a0 5 = true) (hf : f_X6_total g.2 a0 a1 a2 μ = some res) (hk : HLP g.2 ["java/lang/IndexOutOfBoundsException"] a3 Int32.toInt64 res k μ') : MetH l yL_total cL_total 5 [(0, 10, 13, 13)] rm_L_total g L μ [.ref a0, .int a1, .int a2, .ref a3] k μ' := by
  refine pw_metH (by decide) (Nat.le_of_ble_eq_true rfl) ?_
  intro p e s m args below meth c A ls H locs hC hr hlocks hl hw hX hNC htab
  have hx := hC.1
  have hb := hC.2.1
  have hl : lv_has ls 5 [(0, .ref a0), (1, .int a1), (2, .int a2), (3, .ref a3)] := hl
  refine lv_aload_n hx hb dL_total_0 rfl (lv_at hl 3 rfl) ?_
  refine lv_iconst (v := 0) hx hb dL_total_1 nc_iconst_0 ?_
  refine lv_aload_n hx hb dL_total_2 rfl (lv_at hl 0 rfl) ?_
  refine lv_iload_n hx hb dL_total_3 rfl (lv_at hl 1 rfl) ?_
  refine lv_iload_n hx hb dL_total_4 rfl (lv_at hl 2 rfl) ?_
  rcases hk with hk | hk
  · obtain ⟨r, μ1, rfl, hwl, rfl⟩ := hk
    refine pw_goX hw (pw_runVX (As := [.int a1, .int a2]) (rest := [.int 0, .ref a3]) hC mm_X6_total tw_756 (c_X6_total hl0 hf) ⟨by decide, by decide⟩ hw hX ho rfl hl.1 (Nat.le_of_ble_eq_true rfl) ⟨by decide, by decide⟩ rfl dL_total_5) (fun H locs hw => ?_)
    refine W.eq (g2 := F0 m 8 ls [.int r, .int 0, .ref a3]) rfl ?_
    refine lv_i2l hx hb dL_total_8 rfl ?_
    refine pw_last hC hw hwl dL_total_9 (fun H locs hw => ?_)
    refine lv_goto (tgt := 17) hx hb dL_total_10 (by decide) ?_
    refine lv_iconst (v := 0) hx hb dL_total_17 nc_iconst_0 ?_
    exact pw_xiret hC hr hlocks (by decide) (by decide) hw dL_total_18
  · obtain ⟨i, hi, rfl, rfl⟩ := hk
    rcases i with _ | i
    · replace hf : f_X6_total g.2 a0 a1 a2 μ = some (.inl ("java/lang/IndexOutOfBoundsException", μ')) := hf
      refine pw_caught (name := "java/lang/IndexOutOfBoundsException") hC hw (pw_runVX (As := [.int a1, .int a2]) (rest := [.int 0, .ref a3]) hC mm_X6_total tw_756 (c_X6_total hl0 hf) ⟨by decide, by decide⟩ hw hX ho rfl hl.1 (Nat.le_of_ble_eq_true rfl) ⟨by decide, by decide⟩ rfl dL_total_5) [] ⟨0, 10, 13, 13⟩ [] (by rw [htab]; rfl) (fun z h => absurd h List.not_mem_nil) (by decide) (by decide) tw_545 tw_435 (fun q H locs hw => ?_)
      refine lv_astore (lv' := [(4, .ref q), (0, .ref a0), (1, .int a1), (2, .int a2), (3, .ref a3)]) hx hb dL_total_13 hl (by decide) rfl (fun ls hl => ?_)
      refine lv_iconst (v := 1) hx hb dL_total_15 nc_iconst_1 ?_
      exact pw_xiret hC hr hlocks (by decide) (by decide) hw dL_total_16
    exact absurd hi (by show ¬ i + 1 < 1; omega)
theorem dL_kinds_0 : decode cL_kinds 0 = .ok (.aload_n 3, 1) := by decide +kernel
theorem dL_kinds_1 : decode cL_kinds 1 = .ok (.iconst 0, 1) := by decide +kernel
theorem dL_kinds_2 : decode cL_kinds 2 = .ok (.aload_n 0, 1) := by decide +kernel
theorem dL_kinds_3 : decode cL_kinds 3 = .ok (.iload_n 1, 1) := by decide +kernel
theorem dL_kinds_4 : decode cL_kinds 4 = .ok (.iload_n 2, 1) := by decide +kernel
theorem dL_kinds_5 : decode cL_kinds 5 = .ok (.invokevirtual 52, 3) := by decide +kernel
theorem dL_kinds_8 : decode cL_kinds 8 = .ok (.i2l, 1) := by decide +kernel
theorem dL_kinds_9 : decode cL_kinds 9 = .ok (.lastore, 1) := by decide +kernel
theorem dL_kinds_10 : decode cL_kinds 10 = .ok (.goto 7, 3) := by decide +kernel
theorem dL_kinds_13 : decode cL_kinds 13 = .ok (.astore 4, 2) := by decide +kernel
theorem dL_kinds_15 : decode cL_kinds 15 = .ok (.iconst 1, 1) := by decide +kernel
theorem dL_kinds_16 : decode cL_kinds 16 = .ok (.ireturn, 1) := by decide +kernel
theorem dL_kinds_17 : decode cL_kinds 17 = .ok (.iconst 0, 1) := by decide +kernel
theorem dL_kinds_18 : decode cL_kinds 18 = .ok (.ireturn, 1) := by decide +kernel
abbrev rm_L_kinds : Room := { frames := 127, cells := 1, slots := 6, locals := 3526 }
set_option maxRecDepth 100000 in
set_option maxHeartbeats 4000000 in
theorem c_L_kinds {l : Launch} {g : Wg} {L : List Nat} {μ μ' : Mem} {a0 : Nat} {a1 : Int32} {a2 : Int32} {a3 : Nat} {res : (String × Mem) ⊕ (Int32 × Mem)} {k : Int32} (hl0 : l.stackTraces = false) (ho : isO μ a0 5 = true) (hf : f_X6_kinds g.2 a0 a1 a2 μ = some res) (hk : HLP g.2 ["java/lang/IndexOutOfBoundsException"] a3 Int32.toInt64 res k μ') : MetH l yL_kinds cL_kinds 5 [(0, 10, 13, 13)] rm_L_kinds g L μ [.ref a0, .int a1, .int a2, .ref a3] k μ' := by
  refine pw_metH (by decide) (Nat.le_of_ble_eq_true rfl) ?_
  intro p e s m args below meth c A ls H locs hC hr hlocks hl hw hX hNC htab
  have hx := hC.1
  have hb := hC.2.1
  have hl : lv_has ls 5 [(0, .ref a0), (1, .int a1), (2, .int a2), (3, .ref a3)] := hl
  refine lv_aload_n hx hb dL_kinds_0 rfl (lv_at hl 3 rfl) ?_
  refine lv_iconst (v := 0) hx hb dL_kinds_1 nc_iconst_0 ?_
  refine lv_aload_n hx hb dL_kinds_2 rfl (lv_at hl 0 rfl) ?_
  refine lv_iload_n hx hb dL_kinds_3 rfl (lv_at hl 1 rfl) ?_
  refine lv_iload_n hx hb dL_kinds_4 rfl (lv_at hl 2 rfl) ?_
  rcases hk with hk | hk
  · obtain ⟨r, μ1, rfl, hwl, rfl⟩ := hk
    refine pw_goX hw (pw_runVX (As := [.int a1, .int a2]) (rest := [.int 0, .ref a3]) hC mm_X6_kinds tw_767 (c_X6_kinds hl0 hf) ⟨by decide, by decide⟩ hw hX ho rfl hl.1 (Nat.le_of_ble_eq_true rfl) ⟨by decide, by decide⟩ rfl dL_kinds_5) (fun H locs hw => ?_)
    refine W.eq (g2 := F0 m 8 ls [.int r, .int 0, .ref a3]) rfl ?_
    refine lv_i2l hx hb dL_kinds_8 rfl ?_
    refine pw_last hC hw hwl dL_kinds_9 (fun H locs hw => ?_)
    refine lv_goto (tgt := 17) hx hb dL_kinds_10 (by decide) ?_
    refine lv_iconst (v := 0) hx hb dL_kinds_17 nc_iconst_0 ?_
    exact pw_xiret hC hr hlocks (by decide) (by decide) hw dL_kinds_18
  · obtain ⟨i, hi, rfl, rfl⟩ := hk
    rcases i with _ | i
    · replace hf : f_X6_kinds g.2 a0 a1 a2 μ = some (.inl ("java/lang/IndexOutOfBoundsException", μ')) := hf
      refine pw_caught (name := "java/lang/IndexOutOfBoundsException") hC hw (pw_runVX (As := [.int a1, .int a2]) (rest := [.int 0, .ref a3]) hC mm_X6_kinds tw_767 (c_X6_kinds hl0 hf) ⟨by decide, by decide⟩ hw hX ho rfl hl.1 (Nat.le_of_ble_eq_true rfl) ⟨by decide, by decide⟩ rfl dL_kinds_5) [] ⟨0, 10, 13, 13⟩ [] (by rw [htab]; rfl) (fun z h => absurd h List.not_mem_nil) (by decide) (by decide) tw_545 tw_435 (fun q H locs hw => ?_)
      refine lv_astore (lv' := [(4, .ref q), (0, .ref a0), (1, .int a1), (2, .int a2), (3, .ref a3)]) hx hb dL_kinds_13 hl (by decide) rfl (fun ls hl => ?_)
      refine lv_iconst (v := 1) hx hb dL_kinds_15 nc_iconst_1 ?_
      exact pw_xiret hC hr hlocks (by decide) (by decide) hw dL_kinds_16
    exact absurd hi (by show ¬ i + 1 < 1; omega)
theorem dL_value_0 : decode cL_value 0 = .ok (.aload_n 3, 1) := by decide +kernel
theorem dL_value_1 : decode cL_value 1 = .ok (.iconst 0, 1) := by decide +kernel
theorem dL_value_2 : decode cL_value 2 = .ok (.aload_n 0, 1) := by decide +kernel
theorem dL_value_3 : decode cL_value 3 = .ok (.iload_n 1, 1) := by decide +kernel
theorem dL_value_4 : decode cL_value 4 = .ok (.iload_n 2, 1) := by decide +kernel
theorem dL_value_5 : decode cL_value 5 = .ok (.invokevirtual 55, 3) := by decide +kernel
theorem dL_value_8 : decode cL_value 8 = .ok (.i2l, 1) := by decide +kernel
theorem dL_value_9 : decode cL_value 9 = .ok (.lastore, 1) := by decide +kernel
theorem dL_value_10 : decode cL_value 10 = .ok (.goto 19, 3) := by decide +kernel
theorem dL_value_13 : decode cL_value 13 = .ok (.astore 4, 2) := by decide +kernel
theorem dL_value_15 : decode cL_value 15 = .ok (.iconst 1, 1) := by decide +kernel
theorem dL_value_16 : decode cL_value 16 = .ok (.ireturn, 1) := by decide +kernel
theorem dL_value_17 : decode cL_value 17 = .ok (.astore 4, 2) := by decide +kernel
theorem dL_value_19 : decode cL_value 19 = .ok (.iconst 2, 1) := by decide +kernel
theorem dL_value_20 : decode cL_value 20 = .ok (.ireturn, 1) := by decide +kernel
theorem dL_value_21 : decode cL_value 21 = .ok (.astore 4, 2) := by decide +kernel
theorem dL_value_23 : decode cL_value 23 = .ok (.iconst 3, 1) := by decide +kernel
theorem dL_value_24 : decode cL_value 24 = .ok (.ireturn, 1) := by decide +kernel
theorem dL_value_25 : decode cL_value 25 = .ok (.astore 4, 2) := by decide +kernel
theorem dL_value_27 : decode cL_value 27 = .ok (.iconst 4, 1) := by decide +kernel
theorem dL_value_28 : decode cL_value 28 = .ok (.ireturn, 1) := by decide +kernel
theorem dL_value_29 : decode cL_value 29 = .ok (.iconst 0, 1) := by decide +kernel
theorem dL_value_30 : decode cL_value 30 = .ok (.ireturn, 1) := by decide +kernel
abbrev rm_L_value : Room := { frames := 127, cells := 5, slots := 30, locals := 3525 }
set_option maxRecDepth 100000 in
set_option maxHeartbeats 4000000 in
theorem c_L_value {l : Launch} {g : Wg} {L : List Nat} {μ μ' : Mem} {a0 : Nat} {a1 : Int32} {a2 : Int32} {a3 : Nat} {res : (String × Mem) ⊕ (Int32 × Mem)} {k : Int32} (hl0 : l.stackTraces = false) (ho : isO μ a0 5 = true) (hf : f_X6_value g.2 a0 a1 a2 μ = some res) (hk : HLP g.2 ["java/lang/IndexOutOfBoundsException", "java/util/NoSuchElementException", "java/lang/IllegalArgumentException", "java/lang/UnsupportedOperationException"] a3 Int32.toInt64 res k μ') : MetH l yL_value cL_value 5 [(0, 10, 13, 13), (0, 10, 17, 45), (0, 10, 21, 15), (0, 10, 25, 58)] rm_L_value g L μ [.ref a0, .int a1, .int a2, .ref a3] k μ' := by
  refine pw_metH (by decide) (Nat.le_of_ble_eq_true rfl) ?_
  intro p e s m args below meth c A ls H locs hC hr hlocks hl hw hX hNC htab
  have hx := hC.1
  have hb := hC.2.1
  have hl : lv_has ls 5 [(0, .ref a0), (1, .int a1), (2, .int a2), (3, .ref a3)] := hl
  refine lv_aload_n hx hb dL_value_0 rfl (lv_at hl 3 rfl) ?_
  refine lv_iconst (v := 0) hx hb dL_value_1 nc_iconst_0 ?_
  refine lv_aload_n hx hb dL_value_2 rfl (lv_at hl 0 rfl) ?_
  refine lv_iload_n hx hb dL_value_3 rfl (lv_at hl 1 rfl) ?_
  refine lv_iload_n hx hb dL_value_4 rfl (lv_at hl 2 rfl) ?_
  rcases hk with hk | hk
  · obtain ⟨r, μ1, rfl, hwl, rfl⟩ := hk
    refine pw_goX hw (pw_runVX (As := [.int a1, .int a2]) (rest := [.int 0, .ref a3]) hC mm_X6_value tw_775 (c_X6_value hl0 hf) ⟨by decide, by decide⟩ hw hX ho rfl hl.1 (Nat.le_of_ble_eq_true rfl) ⟨by decide, by decide⟩ rfl dL_value_5) (fun H locs hw => ?_)
    refine W.eq (g2 := F0 m 8 ls [.int r, .int 0, .ref a3]) rfl ?_
    refine lv_i2l hx hb dL_value_8 rfl ?_
    refine pw_last hC hw hwl dL_value_9 (fun H locs hw => ?_)
    refine lv_goto (tgt := 29) hx hb dL_value_10 (by decide) ?_
    refine lv_iconst (v := 0) hx hb dL_value_29 nc_iconst_0 ?_
    exact pw_xiret hC hr hlocks (by decide) (by decide) hw dL_value_30
  · obtain ⟨i, hi, rfl, rfl⟩ := hk
    rcases i with _ | i
    · replace hf : f_X6_value g.2 a0 a1 a2 μ = some (.inl ("java/lang/IndexOutOfBoundsException", μ')) := hf
      refine pw_caught (name := "java/lang/IndexOutOfBoundsException") hC hw (pw_runVX (As := [.int a1, .int a2]) (rest := [.int 0, .ref a3]) hC mm_X6_value tw_775 (c_X6_value hl0 hf) ⟨by decide, by decide⟩ hw hX ho rfl hl.1 (Nat.le_of_ble_eq_true rfl) ⟨by decide, by decide⟩ rfl dL_value_5) [] ⟨0, 10, 13, 13⟩ [⟨0, 10, 17, 45⟩, ⟨0, 10, 21, 15⟩, ⟨0, 10, 25, 58⟩] (by rw [htab]; rfl) (fun z h => absurd h List.not_mem_nil) (by decide) (by decide) tw_545 tw_435 (fun q H locs hw => ?_)
      refine lv_astore (lv' := [(4, .ref q), (0, .ref a0), (1, .int a1), (2, .int a2), (3, .ref a3)]) hx hb dL_value_13 hl (by decide) rfl (fun ls hl => ?_)
      refine lv_iconst (v := 1) hx hb dL_value_15 nc_iconst_1 ?_
      exact pw_xiret hC hr hlocks (by decide) (by decide) hw dL_value_16
    rcases i with _ | i
    · replace hf : f_X6_value g.2 a0 a1 a2 μ = some (.inl ("java/util/NoSuchElementException", μ')) := hf
      refine pw_caught (name := "java/util/NoSuchElementException") hC hw (pw_runVX (As := [.int a1, .int a2]) (rest := [.int 0, .ref a3]) hC mm_X6_value tw_775 (c_X6_value hl0 hf) ⟨by decide, by decide⟩ hw hX ho rfl hl.1 (Nat.le_of_ble_eq_true rfl) ⟨by decide, by decide⟩ rfl dL_value_5) [⟨0, 10, 13, 13⟩] ⟨0, 10, 17, 45⟩ [⟨0, 10, 21, 15⟩, ⟨0, 10, 25, 58⟩] (by rw [htab]; rfl) (List.forall_mem_cons.mpr ⟨Or.inr ⟨by decide, "java/lang/IndexOutOfBoundsException", hC.2.2.2.2 _ tw_545, hNC "java/util/NoSuchElementException" (by decide) _ (by decide) (by decide)⟩, (fun z h => absurd h List.not_mem_nil)⟩) (by decide) (by decide) tw_690 tw_701 (fun q H locs hw => ?_)
      refine lv_astore (lv' := [(4, .ref q), (0, .ref a0), (1, .int a1), (2, .int a2), (3, .ref a3)]) hx hb dL_value_17 hl (by decide) rfl (fun ls hl => ?_)
      refine lv_iconst (v := 2) hx hb dL_value_19 nc_iconst_2 ?_
      exact pw_xiret hC hr hlocks (by decide) (by decide) hw dL_value_20
    rcases i with _ | i
    · replace hf : f_X6_value g.2 a0 a1 a2 μ = some (.inl ("java/lang/IllegalArgumentException", μ')) := hf
      refine pw_caught (name := "java/lang/IllegalArgumentException") hC hw (pw_runVX (As := [.int a1, .int a2]) (rest := [.int 0, .ref a3]) hC mm_X6_value tw_775 (c_X6_value hl0 hf) ⟨by decide, by decide⟩ hw hX ho rfl hl.1 (Nat.le_of_ble_eq_true rfl) ⟨by decide, by decide⟩ rfl dL_value_5) [⟨0, 10, 13, 13⟩, ⟨0, 10, 17, 45⟩] ⟨0, 10, 21, 15⟩ [⟨0, 10, 25, 58⟩] (by rw [htab]; rfl) (List.forall_mem_cons.mpr ⟨Or.inr ⟨by decide, "java/lang/IndexOutOfBoundsException", hC.2.2.2.2 _ tw_545, hNC "java/lang/IllegalArgumentException" (by decide) _ (by decide) (by decide)⟩, (List.forall_mem_cons.mpr ⟨Or.inr ⟨by decide, "java/util/NoSuchElementException", hC.2.2.2.2 _ tw_690, hNC "java/lang/IllegalArgumentException" (by decide) _ (by decide) (by decide)⟩, (fun z h => absurd h List.not_mem_nil)⟩)⟩) (by decide) (by decide) tw_546 tw_563 (fun q H locs hw => ?_)
      refine lv_astore (lv' := [(4, .ref q), (0, .ref a0), (1, .int a1), (2, .int a2), (3, .ref a3)]) hx hb dL_value_21 hl (by decide) rfl (fun ls hl => ?_)
      refine lv_iconst (v := 3) hx hb dL_value_23 nc_iconst_3 ?_
      exact pw_xiret hC hr hlocks (by decide) (by decide) hw dL_value_24
    rcases i with _ | i
    · replace hf : f_X6_value g.2 a0 a1 a2 μ = some (.inl ("java/lang/UnsupportedOperationException", μ')) := hf
      refine pw_caught (name := "java/lang/UnsupportedOperationException") hC hw (pw_runVX (As := [.int a1, .int a2]) (rest := [.int 0, .ref a3]) hC mm_X6_value tw_775 (c_X6_value hl0 hf) ⟨by decide, by decide⟩ hw hX ho rfl hl.1 (Nat.le_of_ble_eq_true rfl) ⟨by decide, by decide⟩ rfl dL_value_5) [⟨0, 10, 13, 13⟩, ⟨0, 10, 17, 45⟩, ⟨0, 10, 21, 15⟩] ⟨0, 10, 25, 58⟩ [] (by rw [htab]; rfl) (List.forall_mem_cons.mpr ⟨Or.inr ⟨by decide, "java/lang/IndexOutOfBoundsException", hC.2.2.2.2 _ tw_545, hNC "java/lang/UnsupportedOperationException" (by decide) _ (by decide) (by decide)⟩, (List.forall_mem_cons.mpr ⟨Or.inr ⟨by decide, "java/util/NoSuchElementException", hC.2.2.2.2 _ tw_690, hNC "java/lang/UnsupportedOperationException" (by decide) _ (by decide) (by decide)⟩, (List.forall_mem_cons.mpr ⟨Or.inr ⟨by decide, "java/lang/IllegalArgumentException", hC.2.2.2.2 _ tw_546, hNC "java/lang/UnsupportedOperationException" (by decide) _ (by decide) (by decide)⟩, (fun z h => absurd h List.not_mem_nil)⟩)⟩)⟩) (by decide) (by decide) tw_774 tw_842 (fun q H locs hw => ?_)
      refine lv_astore (lv' := [(4, .ref q), (0, .ref a0), (1, .int a1), (2, .int a2), (3, .ref a3)]) hx hb dL_value_25 hl (by decide) rfl (fun ls hl => ?_)
      refine lv_iconst (v := 4) hx hb dL_value_27 nc_iconst_4 ?_
      exact pw_xiret hC hr hlocks (by decide) (by decide) hw dL_value_28
    exact absurd hi (by show ¬ i + 4 < 4; omega)
theorem dL_put_0 : decode cL_put 0 = .ok (.aload 4, 2) := by decide +kernel
theorem dL_put_2 : decode cL_put 2 = .ok (.iconst 0, 1) := by decide +kernel
theorem dL_put_3 : decode cL_put 3 = .ok (.aload_n 0, 1) := by decide +kernel
theorem dL_put_4 : decode cL_put 4 = .ok (.iload_n 1, 1) := by decide +kernel
theorem dL_put_5 : decode cL_put 5 = .ok (.iload_n 2, 1) := by decide +kernel
theorem dL_put_6 : decode cL_put 6 = .ok (.iload_n 3, 1) := by decide +kernel
theorem dL_put_7 : decode cL_put 7 = .ok (.invokevirtual 60, 3) := by decide +kernel
theorem dL_put_10 : decode cL_put 10 = .ok (.i2l, 1) := by decide +kernel
theorem dL_put_11 : decode cL_put 11 = .ok (.lastore, 1) := by decide +kernel
theorem dL_put_12 : decode cL_put 12 = .ok (.goto 19, 3) := by decide +kernel
theorem dL_put_15 : decode cL_put 15 = .ok (.astore 5, 2) := by decide +kernel
theorem dL_put_17 : decode cL_put 17 = .ok (.iconst 1, 1) := by decide +kernel
theorem dL_put_18 : decode cL_put 18 = .ok (.ireturn, 1) := by decide +kernel
theorem dL_put_19 : decode cL_put 19 = .ok (.astore 5, 2) := by decide +kernel
theorem dL_put_21 : decode cL_put 21 = .ok (.iconst 2, 1) := by decide +kernel
theorem dL_put_22 : decode cL_put 22 = .ok (.ireturn, 1) := by decide +kernel
theorem dL_put_23 : decode cL_put 23 = .ok (.astore 5, 2) := by decide +kernel
theorem dL_put_25 : decode cL_put 25 = .ok (.iconst 3, 1) := by decide +kernel
theorem dL_put_26 : decode cL_put 26 = .ok (.ireturn, 1) := by decide +kernel
theorem dL_put_27 : decode cL_put 27 = .ok (.astore 5, 2) := by decide +kernel
theorem dL_put_29 : decode cL_put 29 = .ok (.iconst 4, 1) := by decide +kernel
theorem dL_put_30 : decode cL_put 30 = .ok (.ireturn, 1) := by decide +kernel
theorem dL_put_31 : decode cL_put 31 = .ok (.iconst 0, 1) := by decide +kernel
theorem dL_put_32 : decode cL_put 32 = .ok (.ireturn, 1) := by decide +kernel
abbrev rm_L_put : Room := { frames := 127, cells := 5, slots := 30, locals := 3527 }
set_option maxRecDepth 100000 in
set_option maxHeartbeats 4000000 in
theorem c_L_put {l : Launch} {g : Wg} {L : List Nat} {μ μ' : Mem} {a0 : Nat} {a1 : Int32} {a2 : Int32} {a3 : Int32} {a4 : Nat} {res : (String × Mem) ⊕ (Int32 × Mem)} {k : Int32} (hl0 : l.stackTraces = false) (ho : isO μ a0 5 = true) (hf : f_X6_put g.2 a0 a1 a2 a3 μ = some res) (hk : HLP g.2 ["java/lang/IndexOutOfBoundsException", "java/util/NoSuchElementException", "java/lang/IllegalArgumentException", "java/lang/UnsupportedOperationException"] a4 Int32.toInt64 res k μ') : MetH l yL_put cL_put 6 [(0, 12, 15, 13), (0, 12, 19, 45), (0, 12, 23, 15), (0, 12, 27, 58)] rm_L_put g L μ [.ref a0, .int a1, .int a2, .int a3, .ref a4] k μ' := by
  refine pw_metH (by decide) (Nat.le_of_ble_eq_true rfl) ?_
  intro p e s m args below meth c A ls H locs hC hr hlocks hl hw hX hNC htab
  have hx := hC.1
  have hb := hC.2.1
  have hl : lv_has ls 6 [(0, .ref a0), (1, .int a1), (2, .int a2), (3, .int a3), (4, .ref a4)] := hl
  refine lv_aload hx hb dL_put_0 (lv_at hl 4 rfl) ?_
  refine lv_iconst (v := 0) hx hb dL_put_2 nc_iconst_0 ?_
  refine lv_aload_n hx hb dL_put_3 rfl (lv_at hl 0 rfl) ?_
  refine lv_iload_n hx hb dL_put_4 rfl (lv_at hl 1 rfl) ?_
  refine lv_iload_n hx hb dL_put_5 rfl (lv_at hl 2 rfl) ?_
  refine lv_iload_n hx hb dL_put_6 rfl (lv_at hl 3 rfl) ?_
  rcases hk with hk | hk
  · obtain ⟨r, μ1, rfl, hwl, rfl⟩ := hk
    refine pw_goX hw (pw_runVX (As := [.int a1, .int a2, .int a3]) (rest := [.int 0, .ref a4]) hC mm_X6_put tw_859 (c_X6_put hl0 hf) ⟨by decide, by decide⟩ hw hX ho rfl hl.1 (Nat.le_of_ble_eq_true rfl) ⟨by decide, by decide⟩ rfl dL_put_7) (fun H locs hw => ?_)
    refine W.eq (g2 := F0 m 10 ls [.int r, .int 0, .ref a4]) rfl ?_
    refine lv_i2l hx hb dL_put_10 rfl ?_
    refine pw_last hC hw hwl dL_put_11 (fun H locs hw => ?_)
    refine lv_goto (tgt := 31) hx hb dL_put_12 (by decide) ?_
    refine lv_iconst (v := 0) hx hb dL_put_31 nc_iconst_0 ?_
    exact pw_xiret hC hr hlocks (by decide) (by decide) hw dL_put_32
  · obtain ⟨i, hi, rfl, rfl⟩ := hk
    rcases i with _ | i
    · replace hf : f_X6_put g.2 a0 a1 a2 a3 μ = some (.inl ("java/lang/IndexOutOfBoundsException", μ')) := hf
      refine pw_caught (name := "java/lang/IndexOutOfBoundsException") hC hw (pw_runVX (As := [.int a1, .int a2, .int a3]) (rest := [.int 0, .ref a4]) hC mm_X6_put tw_859 (c_X6_put hl0 hf) ⟨by decide, by decide⟩ hw hX ho rfl hl.1 (Nat.le_of_ble_eq_true rfl) ⟨by decide, by decide⟩ rfl dL_put_7) [] ⟨0, 12, 15, 13⟩ [⟨0, 12, 19, 45⟩, ⟨0, 12, 23, 15⟩, ⟨0, 12, 27, 58⟩] (by rw [htab]; rfl) (fun z h => absurd h List.not_mem_nil) (by decide) (by decide) tw_545 tw_435 (fun q H locs hw => ?_)
      refine lv_astore (lv' := [(5, .ref q), (0, .ref a0), (1, .int a1), (2, .int a2), (3, .int a3), (4, .ref a4)]) hx hb dL_put_15 hl (by decide) rfl (fun ls hl => ?_)
      refine lv_iconst (v := 1) hx hb dL_put_17 nc_iconst_1 ?_
      exact pw_xiret hC hr hlocks (by decide) (by decide) hw dL_put_18
    rcases i with _ | i
    · replace hf : f_X6_put g.2 a0 a1 a2 a3 μ = some (.inl ("java/util/NoSuchElementException", μ')) := hf
      refine pw_caught (name := "java/util/NoSuchElementException") hC hw (pw_runVX (As := [.int a1, .int a2, .int a3]) (rest := [.int 0, .ref a4]) hC mm_X6_put tw_859 (c_X6_put hl0 hf) ⟨by decide, by decide⟩ hw hX ho rfl hl.1 (Nat.le_of_ble_eq_true rfl) ⟨by decide, by decide⟩ rfl dL_put_7) [⟨0, 12, 15, 13⟩] ⟨0, 12, 19, 45⟩ [⟨0, 12, 23, 15⟩, ⟨0, 12, 27, 58⟩] (by rw [htab]; rfl) (List.forall_mem_cons.mpr ⟨Or.inr ⟨by decide, "java/lang/IndexOutOfBoundsException", hC.2.2.2.2 _ tw_545, hNC "java/util/NoSuchElementException" (by decide) _ (by decide) (by decide)⟩, (fun z h => absurd h List.not_mem_nil)⟩) (by decide) (by decide) tw_690 tw_701 (fun q H locs hw => ?_)
      refine lv_astore (lv' := [(5, .ref q), (0, .ref a0), (1, .int a1), (2, .int a2), (3, .int a3), (4, .ref a4)]) hx hb dL_put_19 hl (by decide) rfl (fun ls hl => ?_)
      refine lv_iconst (v := 2) hx hb dL_put_21 nc_iconst_2 ?_
      exact pw_xiret hC hr hlocks (by decide) (by decide) hw dL_put_22
    rcases i with _ | i
    · replace hf : f_X6_put g.2 a0 a1 a2 a3 μ = some (.inl ("java/lang/IllegalArgumentException", μ')) := hf
      refine pw_caught (name := "java/lang/IllegalArgumentException") hC hw (pw_runVX (As := [.int a1, .int a2, .int a3]) (rest := [.int 0, .ref a4]) hC mm_X6_put tw_859 (c_X6_put hl0 hf) ⟨by decide, by decide⟩ hw hX ho rfl hl.1 (Nat.le_of_ble_eq_true rfl) ⟨by decide, by decide⟩ rfl dL_put_7) [⟨0, 12, 15, 13⟩, ⟨0, 12, 19, 45⟩] ⟨0, 12, 23, 15⟩ [⟨0, 12, 27, 58⟩] (by rw [htab]; rfl) (List.forall_mem_cons.mpr ⟨Or.inr ⟨by decide, "java/lang/IndexOutOfBoundsException", hC.2.2.2.2 _ tw_545, hNC "java/lang/IllegalArgumentException" (by decide) _ (by decide) (by decide)⟩, (List.forall_mem_cons.mpr ⟨Or.inr ⟨by decide, "java/util/NoSuchElementException", hC.2.2.2.2 _ tw_690, hNC "java/lang/IllegalArgumentException" (by decide) _ (by decide) (by decide)⟩, (fun z h => absurd h List.not_mem_nil)⟩)⟩) (by decide) (by decide) tw_546 tw_563 (fun q H locs hw => ?_)
      refine lv_astore (lv' := [(5, .ref q), (0, .ref a0), (1, .int a1), (2, .int a2), (3, .int a3), (4, .ref a4)]) hx hb dL_put_23 hl (by decide) rfl (fun ls hl => ?_)
      refine lv_iconst (v := 3) hx hb dL_put_25 nc_iconst_3 ?_
      exact pw_xiret hC hr hlocks (by decide) (by decide) hw dL_put_26
    rcases i with _ | i
    · replace hf : f_X6_put g.2 a0 a1 a2 a3 μ = some (.inl ("java/lang/UnsupportedOperationException", μ')) := hf
      refine pw_caught (name := "java/lang/UnsupportedOperationException") hC hw (pw_runVX (As := [.int a1, .int a2, .int a3]) (rest := [.int 0, .ref a4]) hC mm_X6_put tw_859 (c_X6_put hl0 hf) ⟨by decide, by decide⟩ hw hX ho rfl hl.1 (Nat.le_of_ble_eq_true rfl) ⟨by decide, by decide⟩ rfl dL_put_7) [⟨0, 12, 15, 13⟩, ⟨0, 12, 19, 45⟩, ⟨0, 12, 23, 15⟩] ⟨0, 12, 27, 58⟩ [] (by rw [htab]; rfl) (List.forall_mem_cons.mpr ⟨Or.inr ⟨by decide, "java/lang/IndexOutOfBoundsException", hC.2.2.2.2 _ tw_545, hNC "java/lang/UnsupportedOperationException" (by decide) _ (by decide) (by decide)⟩, (List.forall_mem_cons.mpr ⟨Or.inr ⟨by decide, "java/util/NoSuchElementException", hC.2.2.2.2 _ tw_690, hNC "java/lang/UnsupportedOperationException" (by decide) _ (by decide) (by decide)⟩, (List.forall_mem_cons.mpr ⟨Or.inr ⟨by decide, "java/lang/IllegalArgumentException", hC.2.2.2.2 _ tw_546, hNC "java/lang/UnsupportedOperationException" (by decide) _ (by decide) (by decide)⟩, (fun z h => absurd h List.not_mem_nil)⟩)⟩)⟩) (by decide) (by decide) tw_774 tw_842 (fun q H locs hw => ?_)
      refine lv_astore (lv' := [(5, .ref q), (0, .ref a0), (1, .int a1), (2, .int a2), (3, .int a3), (4, .ref a4)]) hx hb dL_put_27 hl (by decide) rfl (fun ls hl => ?_)
      refine lv_iconst (v := 4) hx hb dL_put_29 nc_iconst_4 ?_
      exact pw_xiret hC hr hlocks (by decide) (by decide) hw dL_put_30
    exact absurd hi (by show ¬ i + 4 < 4; omega)
theorem dL_name_0 : decode cL_name 0 = .ok (.aload_n 2, 1) := by decide +kernel
theorem dL_name_1 : decode cL_name 1 = .ok (.iconst 0, 1) := by decide +kernel
theorem dL_name_2 : decode cL_name 2 = .ok (.aload_n 0, 1) := by decide +kernel
theorem dL_name_3 : decode cL_name 3 = .ok (.iload_n 1, 1) := by decide +kernel
theorem dL_name_4 : decode cL_name 4 = .ok (.invokevirtual 64, 3) := by decide +kernel
theorem dL_name_7 : decode cL_name 7 = .ok (.i2l, 1) := by decide +kernel
theorem dL_name_8 : decode cL_name 8 = .ok (.lastore, 1) := by decide +kernel
theorem dL_name_9 : decode cL_name 9 = .ok (.goto 18, 3) := by decide +kernel
theorem dL_name_12 : decode cL_name 12 = .ok (.astore_n 3, 1) := by decide +kernel
theorem dL_name_13 : decode cL_name 13 = .ok (.iconst 1, 1) := by decide +kernel
theorem dL_name_14 : decode cL_name 14 = .ok (.ireturn, 1) := by decide +kernel
theorem dL_name_15 : decode cL_name 15 = .ok (.astore_n 3, 1) := by decide +kernel
theorem dL_name_16 : decode cL_name 16 = .ok (.iconst 2, 1) := by decide +kernel
theorem dL_name_17 : decode cL_name 17 = .ok (.ireturn, 1) := by decide +kernel
theorem dL_name_18 : decode cL_name 18 = .ok (.astore_n 3, 1) := by decide +kernel
theorem dL_name_19 : decode cL_name 19 = .ok (.iconst 3, 1) := by decide +kernel
theorem dL_name_20 : decode cL_name 20 = .ok (.ireturn, 1) := by decide +kernel
theorem dL_name_21 : decode cL_name 21 = .ok (.astore_n 3, 1) := by decide +kernel
theorem dL_name_22 : decode cL_name 22 = .ok (.iconst 4, 1) := by decide +kernel
theorem dL_name_23 : decode cL_name 23 = .ok (.ireturn, 1) := by decide +kernel
theorem dL_name_24 : decode cL_name 24 = .ok (.astore_n 3, 1) := by decide +kernel
theorem dL_name_25 : decode cL_name 25 = .ok (.iconst 5, 1) := by decide +kernel
theorem dL_name_26 : decode cL_name 26 = .ok (.ireturn, 1) := by decide +kernel
theorem dL_name_27 : decode cL_name 27 = .ok (.iconst 0, 1) := by decide +kernel
theorem dL_name_28 : decode cL_name 28 = .ok (.ireturn, 1) := by decide +kernel
abbrev rm_L_name : Room := { frames := 9, cells := 6, slots := 36, locals := 172 }
set_option maxRecDepth 100000 in
set_option maxHeartbeats 4000000 in
theorem c_L_name {l : Launch} {g : Wg} {L : List Nat} {μ μ' : Mem} {a0 : Nat} {a1 : Int32} {a2 : Nat} {res : (String × Mem) ⊕ (Int32 × Mem)} {k : Int32} (hl0 : l.stackTraces = false) (ho : isO μ a0 5 = true) (hf : f_X6_name g.2 a0 a1 μ = some res) (hk : HLP g.2 ["java/lang/IndexOutOfBoundsException", "java/util/NoSuchElementException", "java/lang/IllegalStateException", "java/lang/IllegalArgumentException", "java/lang/UnsupportedOperationException"] a2 Int32.toInt64 res k μ') : MetH l yL_name cL_name 4 [(0, 9, 12, 13), (0, 9, 15, 45), (0, 9, 18, 47), (0, 9, 21, 15), (0, 9, 24, 58)] rm_L_name g L μ [.ref a0, .int a1, .ref a2] k μ' := by
  refine pw_metH (by decide) (Nat.le_of_ble_eq_true rfl) ?_
  intro p e s m args below meth c A ls H locs hC hr hlocks hl hw hX hNC htab
  have hx := hC.1
  have hb := hC.2.1
  have hl : lv_has ls 4 [(0, .ref a0), (1, .int a1), (2, .ref a2)] := hl
  refine lv_aload_n hx hb dL_name_0 rfl (lv_at hl 2 rfl) ?_
  refine lv_iconst (v := 0) hx hb dL_name_1 nc_iconst_0 ?_
  refine lv_aload_n hx hb dL_name_2 rfl (lv_at hl 0 rfl) ?_
  refine lv_iload_n hx hb dL_name_3 rfl (lv_at hl 1 rfl) ?_
  rcases hk with hk | hk
  · obtain ⟨r, μ1, rfl, hwl, rfl⟩ := hk
    refine pw_goX hw (pw_runVX (As := [.int a1]) (rest := [.int 0, .ref a2]) hC mm_X6_name tw_871 (c_X6_name hl0 hf) ⟨by decide, by decide⟩ hw hX ho rfl hl.1 (Nat.le_of_ble_eq_true rfl) ⟨by decide, by decide⟩ rfl dL_name_4) (fun H locs hw => ?_)
    refine W.eq (g2 := F0 m 7 ls [.int r, .int 0, .ref a2]) rfl ?_
    refine lv_i2l hx hb dL_name_7 rfl ?_
    refine pw_last hC hw hwl dL_name_8 (fun H locs hw => ?_)
    refine lv_goto (tgt := 27) hx hb dL_name_9 (by decide) ?_
    refine lv_iconst (v := 0) hx hb dL_name_27 nc_iconst_0 ?_
    exact pw_xiret hC hr hlocks (by decide) (by decide) hw dL_name_28
  · obtain ⟨i, hi, rfl, rfl⟩ := hk
    rcases i with _ | i
    · replace hf : f_X6_name g.2 a0 a1 μ = some (.inl ("java/lang/IndexOutOfBoundsException", μ')) := hf
      refine pw_caught (name := "java/lang/IndexOutOfBoundsException") hC hw (pw_runVX (As := [.int a1]) (rest := [.int 0, .ref a2]) hC mm_X6_name tw_871 (c_X6_name hl0 hf) ⟨by decide, by decide⟩ hw hX ho rfl hl.1 (Nat.le_of_ble_eq_true rfl) ⟨by decide, by decide⟩ rfl dL_name_4) [] ⟨0, 9, 12, 13⟩ [⟨0, 9, 15, 45⟩, ⟨0, 9, 18, 47⟩, ⟨0, 9, 21, 15⟩, ⟨0, 9, 24, 58⟩] (by rw [htab]; rfl) (fun z h => absurd h List.not_mem_nil) (by decide) (by decide) tw_545 tw_435 (fun q H locs hw => ?_)
      refine lv_astore_n (lv' := [(3, .ref q), (0, .ref a0), (1, .int a1), (2, .ref a2)]) hx hb dL_name_12 rfl hl (by decide) rfl (fun ls hl => ?_)
      refine lv_iconst (v := 1) hx hb dL_name_13 nc_iconst_1 ?_
      exact pw_xiret hC hr hlocks (by decide) (by decide) hw dL_name_14
    rcases i with _ | i
    · replace hf : f_X6_name g.2 a0 a1 μ = some (.inl ("java/util/NoSuchElementException", μ')) := hf
      refine pw_caught (name := "java/util/NoSuchElementException") hC hw (pw_runVX (As := [.int a1]) (rest := [.int 0, .ref a2]) hC mm_X6_name tw_871 (c_X6_name hl0 hf) ⟨by decide, by decide⟩ hw hX ho rfl hl.1 (Nat.le_of_ble_eq_true rfl) ⟨by decide, by decide⟩ rfl dL_name_4) [⟨0, 9, 12, 13⟩] ⟨0, 9, 15, 45⟩ [⟨0, 9, 18, 47⟩, ⟨0, 9, 21, 15⟩, ⟨0, 9, 24, 58⟩] (by rw [htab]; rfl) (List.forall_mem_cons.mpr ⟨Or.inr ⟨by decide, "java/lang/IndexOutOfBoundsException", hC.2.2.2.2 _ tw_545, hNC "java/util/NoSuchElementException" (by decide) _ (by decide) (by decide)⟩, (fun z h => absurd h List.not_mem_nil)⟩) (by decide) (by decide) tw_690 tw_701 (fun q H locs hw => ?_)
      refine lv_astore_n (lv' := [(3, .ref q), (0, .ref a0), (1, .int a1), (2, .ref a2)]) hx hb dL_name_15 rfl hl (by decide) rfl (fun ls hl => ?_)
      refine lv_iconst (v := 2) hx hb dL_name_16 nc_iconst_2 ?_
      exact pw_xiret hC hr hlocks (by decide) (by decide) hw dL_name_17
    rcases i with _ | i
    · replace hf : f_X6_name g.2 a0 a1 μ = some (.inl ("java/lang/IllegalStateException", μ')) := hf
      refine pw_caught (name := "java/lang/IllegalStateException") hC hw (pw_runVX (As := [.int a1]) (rest := [.int 0, .ref a2]) hC mm_X6_name tw_871 (c_X6_name hl0 hf) ⟨by decide, by decide⟩ hw hX ho rfl hl.1 (Nat.le_of_ble_eq_true rfl) ⟨by decide, by decide⟩ rfl dL_name_4) [⟨0, 9, 12, 13⟩, ⟨0, 9, 15, 45⟩] ⟨0, 9, 18, 47⟩ [⟨0, 9, 21, 15⟩, ⟨0, 9, 24, 58⟩] (by rw [htab]; rfl) (List.forall_mem_cons.mpr ⟨Or.inr ⟨by decide, "java/lang/IndexOutOfBoundsException", hC.2.2.2.2 _ tw_545, hNC "java/lang/IllegalStateException" (by decide) _ (by decide) (by decide)⟩, (List.forall_mem_cons.mpr ⟨Or.inr ⟨by decide, "java/util/NoSuchElementException", hC.2.2.2.2 _ tw_690, hNC "java/lang/IllegalStateException" (by decide) _ (by decide) (by decide)⟩, (fun z h => absurd h List.not_mem_nil)⟩)⟩) (by decide) (by decide) tw_691 tw_726 (fun q H locs hw => ?_)
      refine lv_astore_n (lv' := [(3, .ref q), (0, .ref a0), (1, .int a1), (2, .ref a2)]) hx hb dL_name_18 rfl hl (by decide) rfl (fun ls hl => ?_)
      refine lv_iconst (v := 3) hx hb dL_name_19 nc_iconst_3 ?_
      exact pw_xiret hC hr hlocks (by decide) (by decide) hw dL_name_20
    rcases i with _ | i
    · replace hf : f_X6_name g.2 a0 a1 μ = some (.inl ("java/lang/IllegalArgumentException", μ')) := hf
      refine pw_caught (name := "java/lang/IllegalArgumentException") hC hw (pw_runVX (As := [.int a1]) (rest := [.int 0, .ref a2]) hC mm_X6_name tw_871 (c_X6_name hl0 hf) ⟨by decide, by decide⟩ hw hX ho rfl hl.1 (Nat.le_of_ble_eq_true rfl) ⟨by decide, by decide⟩ rfl dL_name_4) [⟨0, 9, 12, 13⟩, ⟨0, 9, 15, 45⟩, ⟨0, 9, 18, 47⟩] ⟨0, 9, 21, 15⟩ [⟨0, 9, 24, 58⟩] (by rw [htab]; rfl) (List.forall_mem_cons.mpr ⟨Or.inr ⟨by decide, "java/lang/IndexOutOfBoundsException", hC.2.2.2.2 _ tw_545, hNC "java/lang/IllegalArgumentException" (by decide) _ (by decide) (by decide)⟩, (List.forall_mem_cons.mpr ⟨Or.inr ⟨by decide, "java/util/NoSuchElementException", hC.2.2.2.2 _ tw_690, hNC "java/lang/IllegalArgumentException" (by decide) _ (by decide) (by decide)⟩, (List.forall_mem_cons.mpr ⟨Or.inr ⟨by decide, "java/lang/IllegalStateException", hC.2.2.2.2 _ tw_691, hNC "java/lang/IllegalArgumentException" (by decide) _ (by decide) (by decide)⟩, (fun z h => absurd h List.not_mem_nil)⟩)⟩)⟩) (by decide) (by decide) tw_546 tw_563 (fun q H locs hw => ?_)
      refine lv_astore_n (lv' := [(3, .ref q), (0, .ref a0), (1, .int a1), (2, .ref a2)]) hx hb dL_name_21 rfl hl (by decide) rfl (fun ls hl => ?_)
      refine lv_iconst (v := 4) hx hb dL_name_22 nc_iconst_4 ?_
      exact pw_xiret hC hr hlocks (by decide) (by decide) hw dL_name_23
    rcases i with _ | i
    · replace hf : f_X6_name g.2 a0 a1 μ = some (.inl ("java/lang/UnsupportedOperationException", μ')) := hf
      refine pw_caught (name := "java/lang/UnsupportedOperationException") hC hw (pw_runVX (As := [.int a1]) (rest := [.int 0, .ref a2]) hC mm_X6_name tw_871 (c_X6_name hl0 hf) ⟨by decide, by decide⟩ hw hX ho rfl hl.1 (Nat.le_of_ble_eq_true rfl) ⟨by decide, by decide⟩ rfl dL_name_4) [⟨0, 9, 12, 13⟩, ⟨0, 9, 15, 45⟩, ⟨0, 9, 18, 47⟩, ⟨0, 9, 21, 15⟩] ⟨0, 9, 24, 58⟩ [] (by rw [htab]; rfl) (List.forall_mem_cons.mpr ⟨Or.inr ⟨by decide, "java/lang/IndexOutOfBoundsException", hC.2.2.2.2 _ tw_545, hNC "java/lang/UnsupportedOperationException" (by decide) _ (by decide) (by decide)⟩, (List.forall_mem_cons.mpr ⟨Or.inr ⟨by decide, "java/util/NoSuchElementException", hC.2.2.2.2 _ tw_690, hNC "java/lang/UnsupportedOperationException" (by decide) _ (by decide) (by decide)⟩, (List.forall_mem_cons.mpr ⟨Or.inr ⟨by decide, "java/lang/IllegalStateException", hC.2.2.2.2 _ tw_691, hNC "java/lang/UnsupportedOperationException" (by decide) _ (by decide) (by decide)⟩, (List.forall_mem_cons.mpr ⟨Or.inr ⟨by decide, "java/lang/IllegalArgumentException", hC.2.2.2.2 _ tw_546, hNC "java/lang/UnsupportedOperationException" (by decide) _ (by decide) (by decide)⟩, (fun z h => absurd h List.not_mem_nil)⟩)⟩)⟩)⟩) (by decide) (by decide) tw_774 tw_842 (fun q H locs hw => ?_)
      refine lv_astore_n (lv' := [(3, .ref q), (0, .ref a0), (1, .int a1), (2, .ref a2)]) hx hb dL_name_24 rfl hl (by decide) rfl (fun ls hl => ?_)
      refine lv_iconst (v := 5) hx hb dL_name_25 nc_iconst_5 ?_
      exact pw_xiret hC hr hlocks (by decide) (by decide) hw dL_name_26
    exact absurd hi (by show ¬ i + 5 < 5; omega)
theorem dL_drop_0 : decode cL_drop 0 = .ok (.aload_n 2, 1) := by decide +kernel
theorem dL_drop_1 : decode cL_drop 1 = .ok (.iconst 0, 1) := by decide +kernel
theorem dL_drop_2 : decode cL_drop 2 = .ok (.aload_n 0, 1) := by decide +kernel
theorem dL_drop_3 : decode cL_drop 3 = .ok (.iload_n 1, 1) := by decide +kernel
theorem dL_drop_4 : decode cL_drop 4 = .ok (.invokevirtual 67, 3) := by decide +kernel
theorem dL_drop_7 : decode cL_drop 7 = .ok (.i2l, 1) := by decide +kernel
theorem dL_drop_8 : decode cL_drop 8 = .ok (.lastore, 1) := by decide +kernel
theorem dL_drop_9 : decode cL_drop 9 = .ok (.goto 9, 3) := by decide +kernel
theorem dL_drop_12 : decode cL_drop 12 = .ok (.astore_n 3, 1) := by decide +kernel
theorem dL_drop_13 : decode cL_drop 13 = .ok (.iconst 1, 1) := by decide +kernel
theorem dL_drop_14 : decode cL_drop 14 = .ok (.ireturn, 1) := by decide +kernel
theorem dL_drop_15 : decode cL_drop 15 = .ok (.astore_n 3, 1) := by decide +kernel
theorem dL_drop_16 : decode cL_drop 16 = .ok (.iconst 2, 1) := by decide +kernel
theorem dL_drop_17 : decode cL_drop 17 = .ok (.ireturn, 1) := by decide +kernel
theorem dL_drop_18 : decode cL_drop 18 = .ok (.iconst 0, 1) := by decide +kernel
theorem dL_drop_19 : decode cL_drop 19 = .ok (.ireturn, 1) := by decide +kernel
abbrev rm_L_drop : Room := { frames := 9, cells := 4, slots := 24, locals := 172 }
set_option maxRecDepth 100000 in
set_option maxHeartbeats 4000000 in
theorem c_L_drop {l : Launch} {g : Wg} {L : List Nat} {μ μ' : Mem} {a0 : Nat} {a1 : Int32} {a2 : Nat} {res : (String × Mem) ⊕ (Int32 × Mem)} {k : Int32} (hl0 : l.stackTraces = false) (ho : isO μ a0 5 = true) (hf : f_X6_drop g.2 a0 a1 μ = some res) (hk : HLP g.2 ["java/lang/IndexOutOfBoundsException", "java/util/NoSuchElementException"] a2 Int32.toInt64 res k μ') : MetH l yL_drop cL_drop 4 [(0, 9, 12, 13), (0, 9, 15, 45)] rm_L_drop g L μ [.ref a0, .int a1, .ref a2] k μ' := by
  refine pw_metH (by decide) (Nat.le_of_ble_eq_true rfl) ?_
  intro p e s m args below meth c A ls H locs hC hr hlocks hl hw hX hNC htab
  have hx := hC.1
  have hb := hC.2.1
  have hl : lv_has ls 4 [(0, .ref a0), (1, .int a1), (2, .ref a2)] := hl
  refine lv_aload_n hx hb dL_drop_0 rfl (lv_at hl 2 rfl) ?_
  refine lv_iconst (v := 0) hx hb dL_drop_1 nc_iconst_0 ?_
  refine lv_aload_n hx hb dL_drop_2 rfl (lv_at hl 0 rfl) ?_
  refine lv_iload_n hx hb dL_drop_3 rfl (lv_at hl 1 rfl) ?_
  rcases hk with hk | hk
  · obtain ⟨r, μ1, rfl, hwl, rfl⟩ := hk
    refine pw_goX hw (pw_runVX (As := [.int a1]) (rest := [.int 0, .ref a2]) hC mm_X6_drop tw_887 (c_X6_drop hl0 hf) ⟨by decide, by decide⟩ hw hX ho rfl hl.1 (Nat.le_of_ble_eq_true rfl) ⟨by decide, by decide⟩ rfl dL_drop_4) (fun H locs hw => ?_)
    refine W.eq (g2 := F0 m 7 ls [.int r, .int 0, .ref a2]) rfl ?_
    refine lv_i2l hx hb dL_drop_7 rfl ?_
    refine pw_last hC hw hwl dL_drop_8 (fun H locs hw => ?_)
    refine lv_goto (tgt := 18) hx hb dL_drop_9 (by decide) ?_
    refine lv_iconst (v := 0) hx hb dL_drop_18 nc_iconst_0 ?_
    exact pw_xiret hC hr hlocks (by decide) (by decide) hw dL_drop_19
  · obtain ⟨i, hi, rfl, rfl⟩ := hk
    rcases i with _ | i
    · replace hf : f_X6_drop g.2 a0 a1 μ = some (.inl ("java/lang/IndexOutOfBoundsException", μ')) := hf
      refine pw_caught (name := "java/lang/IndexOutOfBoundsException") hC hw (pw_runVX (As := [.int a1]) (rest := [.int 0, .ref a2]) hC mm_X6_drop tw_887 (c_X6_drop hl0 hf) ⟨by decide, by decide⟩ hw hX ho rfl hl.1 (Nat.le_of_ble_eq_true rfl) ⟨by decide, by decide⟩ rfl dL_drop_4) [] ⟨0, 9, 12, 13⟩ [⟨0, 9, 15, 45⟩] (by rw [htab]; rfl) (fun z h => absurd h List.not_mem_nil) (by decide) (by decide) tw_545 tw_435 (fun q H locs hw => ?_)
      refine lv_astore_n (lv' := [(3, .ref q), (0, .ref a0), (1, .int a1), (2, .ref a2)]) hx hb dL_drop_12 rfl hl (by decide) rfl (fun ls hl => ?_)
      refine lv_iconst (v := 1) hx hb dL_drop_13 nc_iconst_1 ?_
      exact pw_xiret hC hr hlocks (by decide) (by decide) hw dL_drop_14
    rcases i with _ | i
    · replace hf : f_X6_drop g.2 a0 a1 μ = some (.inl ("java/util/NoSuchElementException", μ')) := hf
      refine pw_caught (name := "java/util/NoSuchElementException") hC hw (pw_runVX (As := [.int a1]) (rest := [.int 0, .ref a2]) hC mm_X6_drop tw_887 (c_X6_drop hl0 hf) ⟨by decide, by decide⟩ hw hX ho rfl hl.1 (Nat.le_of_ble_eq_true rfl) ⟨by decide, by decide⟩ rfl dL_drop_4) [⟨0, 9, 12, 13⟩] ⟨0, 9, 15, 45⟩ [] (by rw [htab]; rfl) (List.forall_mem_cons.mpr ⟨Or.inr ⟨by decide, "java/lang/IndexOutOfBoundsException", hC.2.2.2.2 _ tw_545, hNC "java/util/NoSuchElementException" (by decide) _ (by decide) (by decide)⟩, (fun z h => absurd h List.not_mem_nil)⟩) (by decide) (by decide) tw_690 tw_701 (fun q H locs hw => ?_)
      refine lv_astore_n (lv' := [(3, .ref q), (0, .ref a0), (1, .int a1), (2, .ref a2)]) hx hb dL_drop_15 rfl hl (by decide) rfl (fun ls hl => ?_)
      refine lv_iconst (v := 2) hx hb dL_drop_16 nc_iconst_2 ?_
      exact pw_xiret hC hr hlocks (by decide) (by decide) hw dL_drop_17
    exact absurd hi (by show ¬ i + 2 < 2; omega)
theorem dL_move_0 : decode cL_move 0 = .ok (.aload_n 3, 1) := by decide +kernel
theorem dL_move_1 : decode cL_move 1 = .ok (.iconst 0, 1) := by decide +kernel
theorem dL_move_2 : decode cL_move 2 = .ok (.aload_n 0, 1) := by decide +kernel
theorem dL_move_3 : decode cL_move 3 = .ok (.iload_n 1, 1) := by decide +kernel
theorem dL_move_4 : decode cL_move 4 = .ok (.iload_n 2, 1) := by decide +kernel
theorem dL_move_5 : decode cL_move 5 = .ok (.invokevirtual 70, 3) := by decide +kernel
theorem dL_move_8 : decode cL_move 8 = .ok (.ifCond .eq 7, 3) := by decide +kernel
theorem dL_move_11 : decode cL_move 11 = .ok (.lconst 1, 1) := by decide +kernel
theorem dL_move_12 : decode cL_move 12 = .ok (.goto 4, 3) := by decide +kernel
theorem dL_move_15 : decode cL_move 15 = .ok (.lconst 0, 1) := by decide +kernel
theorem dL_move_16 : decode cL_move 16 = .ok (.lastore, 1) := by decide +kernel
theorem dL_move_17 : decode cL_move 17 = .ok (.goto 11, 3) := by decide +kernel
theorem dL_move_20 : decode cL_move 20 = .ok (.astore 4, 2) := by decide +kernel
theorem dL_move_22 : decode cL_move 22 = .ok (.iconst 1, 1) := by decide +kernel
theorem dL_move_23 : decode cL_move 23 = .ok (.ireturn, 1) := by decide +kernel
theorem dL_move_24 : decode cL_move 24 = .ok (.astore 4, 2) := by decide +kernel
theorem dL_move_26 : decode cL_move 26 = .ok (.iconst 2, 1) := by decide +kernel
theorem dL_move_27 : decode cL_move 27 = .ok (.ireturn, 1) := by decide +kernel
theorem dL_move_28 : decode cL_move 28 = .ok (.iconst 0, 1) := by decide +kernel
theorem dL_move_29 : decode cL_move 29 = .ok (.ireturn, 1) := by decide +kernel
abbrev rm_L_move : Room := { frames := 9, cells := 4, slots := 24, locals := 173 }
set_option maxRecDepth 100000 in
set_option maxHeartbeats 4000000 in
theorem c_L_move {l : Launch} {g : Wg} {L : List Nat} {μ μ' : Mem} {a0 : Nat} {a1 : Int32} {a2 : Int32} {a3 : Nat} {res : (String × Mem) ⊕ (Int32 × Mem)} {k : Int32} (hl0 : l.stackTraces = false) (ho : isO μ a0 5 = true) (hf : f_X6_move g.2 a0 a1 a2 μ = some res) (hk : HLP g.2 ["java/lang/IndexOutOfBoundsException", "java/util/NoSuchElementException"] a3 (fun r => if r = 0 then 0 else 1) res k μ') : MetH l yL_move cL_move 5 [(0, 17, 20, 13), (0, 17, 24, 45)] rm_L_move g L μ [.ref a0, .int a1, .int a2, .ref a3] k μ' := by
  refine pw_metH (by decide) (Nat.le_of_ble_eq_true rfl) ?_
  intro p e s m args below meth c A ls H locs hC hr hlocks hl hw hX hNC htab
  have hx := hC.1
  have hb := hC.2.1
  have hl : lv_has ls 5 [(0, .ref a0), (1, .int a1), (2, .int a2), (3, .ref a3)] := hl
  refine lv_aload_n hx hb dL_move_0 rfl (lv_at hl 3 rfl) ?_
  refine lv_iconst (v := 0) hx hb dL_move_1 nc_iconst_0 ?_
  refine lv_aload_n hx hb dL_move_2 rfl (lv_at hl 0 rfl) ?_
  refine lv_iload_n hx hb dL_move_3 rfl (lv_at hl 1 rfl) ?_
  refine lv_iload_n hx hb dL_move_4 rfl (lv_at hl 2 rfl) ?_
  rcases hk with hk | hk
  · obtain ⟨r, μ1, rfl, hwl, rfl⟩ := hk
    refine pw_goX hw (pw_runVX (As := [.int a1, .int a2]) (rest := [.int 0, .ref a3]) hC mm_X6_move tw_894 (c_X6_move hl0 hf) ⟨by decide, by decide⟩ hw hX ho rfl hl.1 (Nat.le_of_ble_eq_true rfl) ⟨by decide, by decide⟩ rfl dL_move_5) (fun H locs hw => ?_)
    refine W.eq (g2 := F0 m 8 ls [.int r, .int 0, .ref a3]) rfl ?_
    refine lv_if_eq (tgt := 15) hx hb dL_move_8 (by decide) (fun c1 => ?_) (fun c1 => ?_)
    · replace hwl : wrL g.2 μ1 a3 0 = some μ' := by rw [← hwl]; exact congrArg (wrL g.2 μ1 a3) (if_pos c1).symm
      refine lv_lconst (v := 0) hx hb dL_move_15 (by decide +kernel) ?_
      refine pw_last hC hw hwl dL_move_16 (fun H locs hw => ?_)
      refine lv_goto (tgt := 28) hx hb dL_move_17 (by decide) ?_
      refine lv_iconst (v := 0) hx hb dL_move_28 nc_iconst_0 ?_
      exact pw_xiret hC hr hlocks (by decide) (by decide) hw dL_move_29
    · replace hwl : wrL g.2 μ1 a3 1 = some μ' := by rw [← hwl]; exact congrArg (wrL g.2 μ1 a3) (if_neg c1).symm
      refine lv_lconst (v := 1) hx hb dL_move_11 (by decide +kernel) ?_
      refine lv_goto (tgt := 16) hx hb dL_move_12 (by decide) ?_
      refine pw_last hC hw hwl dL_move_16 (fun H locs hw => ?_)
      refine lv_goto (tgt := 28) hx hb dL_move_17 (by decide) ?_
      refine lv_iconst (v := 0) hx hb dL_move_28 nc_iconst_0 ?_
      exact pw_xiret hC hr hlocks (by decide) (by decide) hw dL_move_29
  · obtain ⟨i, hi, rfl, rfl⟩ := hk
    rcases i with _ | i
    · replace hf : f_X6_move g.2 a0 a1 a2 μ = some (.inl ("java/lang/IndexOutOfBoundsException", μ')) := hf
      refine pw_caught (name := "java/lang/IndexOutOfBoundsException") hC hw (pw_runVX (As := [.int a1, .int a2]) (rest := [.int 0, .ref a3]) hC mm_X6_move tw_894 (c_X6_move hl0 hf) ⟨by decide, by decide⟩ hw hX ho rfl hl.1 (Nat.le_of_ble_eq_true rfl) ⟨by decide, by decide⟩ rfl dL_move_5) [] ⟨0, 17, 20, 13⟩ [⟨0, 17, 24, 45⟩] (by rw [htab]; rfl) (fun z h => absurd h List.not_mem_nil) (by decide) (by decide) tw_545 tw_435 (fun q H locs hw => ?_)
      refine lv_astore (lv' := [(4, .ref q), (0, .ref a0), (1, .int a1), (2, .int a2), (3, .ref a3)]) hx hb dL_move_20 hl (by decide) rfl (fun ls hl => ?_)
      refine lv_iconst (v := 1) hx hb dL_move_22 nc_iconst_1 ?_
      exact pw_xiret hC hr hlocks (by decide) (by decide) hw dL_move_23
    rcases i with _ | i
    · replace hf : f_X6_move g.2 a0 a1 a2 μ = some (.inl ("java/util/NoSuchElementException", μ')) := hf
      refine pw_caught (name := "java/util/NoSuchElementException") hC hw (pw_runVX (As := [.int a1, .int a2]) (rest := [.int 0, .ref a3]) hC mm_X6_move tw_894 (c_X6_move hl0 hf) ⟨by decide, by decide⟩ hw hX ho rfl hl.1 (Nat.le_of_ble_eq_true rfl) ⟨by decide, by decide⟩ rfl dL_move_5) [⟨0, 17, 20, 13⟩] ⟨0, 17, 24, 45⟩ [] (by rw [htab]; rfl) (List.forall_mem_cons.mpr ⟨Or.inr ⟨by decide, "java/lang/IndexOutOfBoundsException", hC.2.2.2.2 _ tw_545, hNC "java/util/NoSuchElementException" (by decide) _ (by decide) (by decide)⟩, (fun z h => absurd h List.not_mem_nil)⟩) (by decide) (by decide) tw_690 tw_701 (fun q H locs hw => ?_)
      refine lv_astore (lv' := [(4, .ref q), (0, .ref a0), (1, .int a1), (2, .int a2), (3, .ref a3)]) hx hb dL_move_24 hl (by decide) rfl (fun ls hl => ?_)
      refine lv_iconst (v := 2) hx hb dL_move_26 nc_iconst_2 ?_
      exact pw_xiret hC hr hlocks (by decide) (by decide) hw dL_move_27
    exact absurd hi (by show ¬ i + 2 < 2; omega)
theorem dL_copy_0 : decode cL_copy 0 = .ok (.aload_n 3, 1) := by decide +kernel
theorem dL_copy_1 : decode cL_copy 1 = .ok (.iconst 0, 1) := by decide +kernel
theorem dL_copy_2 : decode cL_copy 2 = .ok (.aload_n 0, 1) := by decide +kernel
theorem dL_copy_3 : decode cL_copy 3 = .ok (.iload_n 1, 1) := by decide +kernel
theorem dL_copy_4 : decode cL_copy 4 = .ok (.iload_n 2, 1) := by decide +kernel
theorem dL_copy_5 : decode cL_copy 5 = .ok (.invokevirtual 73, 3) := by decide +kernel
theorem dL_copy_8 : decode cL_copy 8 = .ok (.i2l, 1) := by decide +kernel
theorem dL_copy_9 : decode cL_copy 9 = .ok (.lastore, 1) := by decide +kernel
theorem dL_copy_10 : decode cL_copy 10 = .ok (.goto 19, 3) := by decide +kernel
theorem dL_copy_13 : decode cL_copy 13 = .ok (.astore 4, 2) := by decide +kernel
theorem dL_copy_15 : decode cL_copy 15 = .ok (.iconst 1, 1) := by decide +kernel
theorem dL_copy_16 : decode cL_copy 16 = .ok (.ireturn, 1) := by decide +kernel
theorem dL_copy_17 : decode cL_copy 17 = .ok (.astore 4, 2) := by decide +kernel
theorem dL_copy_19 : decode cL_copy 19 = .ok (.iconst 2, 1) := by decide +kernel
theorem dL_copy_20 : decode cL_copy 20 = .ok (.ireturn, 1) := by decide +kernel
theorem dL_copy_21 : decode cL_copy 21 = .ok (.astore 4, 2) := by decide +kernel
theorem dL_copy_23 : decode cL_copy 23 = .ok (.iconst 3, 1) := by decide +kernel
theorem dL_copy_24 : decode cL_copy 24 = .ok (.ireturn, 1) := by decide +kernel
theorem dL_copy_25 : decode cL_copy 25 = .ok (.astore 4, 2) := by decide +kernel
theorem dL_copy_27 : decode cL_copy 27 = .ok (.iconst 4, 1) := by decide +kernel
theorem dL_copy_28 : decode cL_copy 28 = .ok (.ireturn, 1) := by decide +kernel
theorem dL_copy_29 : decode cL_copy 29 = .ok (.iconst 0, 1) := by decide +kernel
theorem dL_copy_30 : decode cL_copy 30 = .ok (.ireturn, 1) := by decide +kernel
abbrev rm_L_copy : Room := { frames := 127, cells := 7, slots := 42, locals := 3528 }
set_option maxRecDepth 100000 in
set_option maxHeartbeats 4000000 in
theorem c_L_copy {l : Launch} {g : Wg} {L : List Nat} {μ μ' : Mem} {a0 : Nat} {a1 : Int32} {a2 : Int32} {a3 : Nat} {res : (String × Mem) ⊕ (Int32 × Mem)} {k : Int32} (hl0 : l.stackTraces = false) (ho : isO μ a0 5 = true) (hf : f_X6_copy g.2 a0 a1 a2 μ = some res) (hk : HLP g.2 ["java/lang/IndexOutOfBoundsException", "java/util/NoSuchElementException", "java/lang/IllegalArgumentException", "java/lang/UnsupportedOperationException"] a3 Int32.toInt64 res k μ') : MetH l yL_copy cL_copy 5 [(0, 10, 13, 13), (0, 10, 17, 45), (0, 10, 21, 15), (0, 10, 25, 58)] rm_L_copy g L μ [.ref a0, .int a1, .int a2, .ref a3] k μ' := by
  refine pw_metH (by decide) (Nat.le_of_ble_eq_true rfl) ?_
  intro p e s m args below meth c A ls H locs hC hr hlocks hl hw hX hNC htab
  have hx := hC.1
  have hb := hC.2.1
  have hl : lv_has ls 5 [(0, .ref a0), (1, .int a1), (2, .int a2), (3, .ref a3)] := hl
  refine lv_aload_n hx hb dL_copy_0 rfl (lv_at hl 3 rfl) ?_
  refine lv_iconst (v := 0) hx hb dL_copy_1 nc_iconst_0 ?_
  refine lv_aload_n hx hb dL_copy_2 rfl (lv_at hl 0 rfl) ?_
  refine lv_iload_n hx hb dL_copy_3 rfl (lv_at hl 1 rfl) ?_
  refine lv_iload_n hx hb dL_copy_4 rfl (lv_at hl 2 rfl) ?_
  rcases hk with hk | hk
  · obtain ⟨r, μ1, rfl, hwl, rfl⟩ := hk
    refine pw_goX hw (pw_runVX (As := [.int a1, .int a2]) (rest := [.int 0, .ref a3]) hC mm_X6_copy tw_903 (c_X6_copy hl0 hf) ⟨by decide, by decide⟩ hw hX ho rfl hl.1 (Nat.le_of_ble_eq_true rfl) ⟨by decide, by decide⟩ rfl dL_copy_5) (fun H locs hw => ?_)
    refine W.eq (g2 := F0 m 8 ls [.int r, .int 0, .ref a3]) rfl ?_
    refine lv_i2l hx hb dL_copy_8 rfl ?_
    refine pw_last hC hw hwl dL_copy_9 (fun H locs hw => ?_)
    refine lv_goto (tgt := 29) hx hb dL_copy_10 (by decide) ?_
    refine lv_iconst (v := 0) hx hb dL_copy_29 nc_iconst_0 ?_
    exact pw_xiret hC hr hlocks (by decide) (by decide) hw dL_copy_30
  · obtain ⟨i, hi, rfl, rfl⟩ := hk
    rcases i with _ | i
    · replace hf : f_X6_copy g.2 a0 a1 a2 μ = some (.inl ("java/lang/IndexOutOfBoundsException", μ')) := hf
      refine pw_caught (name := "java/lang/IndexOutOfBoundsException") hC hw (pw_runVX (As := [.int a1, .int a2]) (rest := [.int 0, .ref a3]) hC mm_X6_copy tw_903 (c_X6_copy hl0 hf) ⟨by decide, by decide⟩ hw hX ho rfl hl.1 (Nat.le_of_ble_eq_true rfl) ⟨by decide, by decide⟩ rfl dL_copy_5) [] ⟨0, 10, 13, 13⟩ [⟨0, 10, 17, 45⟩, ⟨0, 10, 21, 15⟩, ⟨0, 10, 25, 58⟩] (by rw [htab]; rfl) (fun z h => absurd h List.not_mem_nil) (by decide) (by decide) tw_545 tw_435 (fun q H locs hw => ?_)
      refine lv_astore (lv' := [(4, .ref q), (0, .ref a0), (1, .int a1), (2, .int a2), (3, .ref a3)]) hx hb dL_copy_13 hl (by decide) rfl (fun ls hl => ?_)
      refine lv_iconst (v := 1) hx hb dL_copy_15 nc_iconst_1 ?_
      exact pw_xiret hC hr hlocks (by decide) (by decide) hw dL_copy_16
    rcases i with _ | i
    · replace hf : f_X6_copy g.2 a0 a1 a2 μ = some (.inl ("java/util/NoSuchElementException", μ')) := hf
      refine pw_caught (name := "java/util/NoSuchElementException") hC hw (pw_runVX (As := [.int a1, .int a2]) (rest := [.int 0, .ref a3]) hC mm_X6_copy tw_903 (c_X6_copy hl0 hf) ⟨by decide, by decide⟩ hw hX ho rfl hl.1 (Nat.le_of_ble_eq_true rfl) ⟨by decide, by decide⟩ rfl dL_copy_5) [⟨0, 10, 13, 13⟩] ⟨0, 10, 17, 45⟩ [⟨0, 10, 21, 15⟩, ⟨0, 10, 25, 58⟩] (by rw [htab]; rfl) (List.forall_mem_cons.mpr ⟨Or.inr ⟨by decide, "java/lang/IndexOutOfBoundsException", hC.2.2.2.2 _ tw_545, hNC "java/util/NoSuchElementException" (by decide) _ (by decide) (by decide)⟩, (fun z h => absurd h List.not_mem_nil)⟩) (by decide) (by decide) tw_690 tw_701 (fun q H locs hw => ?_)
      refine lv_astore (lv' := [(4, .ref q), (0, .ref a0), (1, .int a1), (2, .int a2), (3, .ref a3)]) hx hb dL_copy_17 hl (by decide) rfl (fun ls hl => ?_)
      refine lv_iconst (v := 2) hx hb dL_copy_19 nc_iconst_2 ?_
      exact pw_xiret hC hr hlocks (by decide) (by decide) hw dL_copy_20
    rcases i with _ | i
    · replace hf : f_X6_copy g.2 a0 a1 a2 μ = some (.inl ("java/lang/IllegalArgumentException", μ')) := hf
      refine pw_caught (name := "java/lang/IllegalArgumentException") hC hw (pw_runVX (As := [.int a1, .int a2]) (rest := [.int 0, .ref a3]) hC mm_X6_copy tw_903 (c_X6_copy hl0 hf) ⟨by decide, by decide⟩ hw hX ho rfl hl.1 (Nat.le_of_ble_eq_true rfl) ⟨by decide, by decide⟩ rfl dL_copy_5) [⟨0, 10, 13, 13⟩, ⟨0, 10, 17, 45⟩] ⟨0, 10, 21, 15⟩ [⟨0, 10, 25, 58⟩] (by rw [htab]; rfl) (List.forall_mem_cons.mpr ⟨Or.inr ⟨by decide, "java/lang/IndexOutOfBoundsException", hC.2.2.2.2 _ tw_545, hNC "java/lang/IllegalArgumentException" (by decide) _ (by decide) (by decide)⟩, (List.forall_mem_cons.mpr ⟨Or.inr ⟨by decide, "java/util/NoSuchElementException", hC.2.2.2.2 _ tw_690, hNC "java/lang/IllegalArgumentException" (by decide) _ (by decide) (by decide)⟩, (fun z h => absurd h List.not_mem_nil)⟩)⟩) (by decide) (by decide) tw_546 tw_563 (fun q H locs hw => ?_)
      refine lv_astore (lv' := [(4, .ref q), (0, .ref a0), (1, .int a1), (2, .int a2), (3, .ref a3)]) hx hb dL_copy_21 hl (by decide) rfl (fun ls hl => ?_)
      refine lv_iconst (v := 3) hx hb dL_copy_23 nc_iconst_3 ?_
      exact pw_xiret hC hr hlocks (by decide) (by decide) hw dL_copy_24
    rcases i with _ | i
    · replace hf : f_X6_copy g.2 a0 a1 a2 μ = some (.inl ("java/lang/UnsupportedOperationException", μ')) := hf
      refine pw_caught (name := "java/lang/UnsupportedOperationException") hC hw (pw_runVX (As := [.int a1, .int a2]) (rest := [.int 0, .ref a3]) hC mm_X6_copy tw_903 (c_X6_copy hl0 hf) ⟨by decide, by decide⟩ hw hX ho rfl hl.1 (Nat.le_of_ble_eq_true rfl) ⟨by decide, by decide⟩ rfl dL_copy_5) [⟨0, 10, 13, 13⟩, ⟨0, 10, 17, 45⟩, ⟨0, 10, 21, 15⟩] ⟨0, 10, 25, 58⟩ [] (by rw [htab]; rfl) (List.forall_mem_cons.mpr ⟨Or.inr ⟨by decide, "java/lang/IndexOutOfBoundsException", hC.2.2.2.2 _ tw_545, hNC "java/lang/UnsupportedOperationException" (by decide) _ (by decide) (by decide)⟩, (List.forall_mem_cons.mpr ⟨Or.inr ⟨by decide, "java/util/NoSuchElementException", hC.2.2.2.2 _ tw_690, hNC "java/lang/UnsupportedOperationException" (by decide) _ (by decide) (by decide)⟩, (List.forall_mem_cons.mpr ⟨Or.inr ⟨by decide, "java/lang/IllegalArgumentException", hC.2.2.2.2 _ tw_546, hNC "java/lang/UnsupportedOperationException" (by decide) _ (by decide) (by decide)⟩, (fun z h => absurd h List.not_mem_nil)⟩)⟩)⟩) (by decide) (by decide) tw_774 tw_842 (fun q H locs hw => ?_)
      refine lv_astore (lv' := [(4, .ref q), (0, .ref a0), (1, .int a1), (2, .int a2), (3, .ref a3)]) hx hb dL_copy_25 hl (by decide) rfl (fun ls hl => ?_)
      refine lv_iconst (v := 4) hx hb dL_copy_27 nc_iconst_4 ?_
      exact pw_xiret hC hr hlocks (by decide) (by decide) hw dL_copy_28
    exact absurd hi (by show ¬ i + 4 < 4; omega)
theorem dL_set_0 : decode cL_set 0 = .ok (.aload 5, 2) := by decide +kernel
theorem dL_set_2 : decode cL_set 2 = .ok (.iconst 0, 1) := by decide +kernel
theorem dL_set_3 : decode cL_set 3 = .ok (.aload_n 0, 1) := by decide +kernel
theorem dL_set_4 : decode cL_set 4 = .ok (.iload_n 1, 1) := by decide +kernel
theorem dL_set_5 : decode cL_set 5 = .ok (.iload_n 2, 1) := by decide +kernel
theorem dL_set_6 : decode cL_set 6 = .ok (.lload_n 3, 1) := by decide +kernel
theorem dL_set_7 : decode cL_set 7 = .ok (.invokevirtual 76, 3) := by decide +kernel
theorem dL_set_10 : decode cL_set 10 = .ok (.i2l, 1) := by decide +kernel
theorem dL_set_11 : decode cL_set 11 = .ok (.lastore, 1) := by decide +kernel
theorem dL_set_12 : decode cL_set 12 = .ok (.goto 19, 3) := by decide +kernel
theorem dL_set_15 : decode cL_set 15 = .ok (.astore 6, 2) := by decide +kernel
theorem dL_set_17 : decode cL_set 17 = .ok (.iconst 1, 1) := by decide +kernel
theorem dL_set_18 : decode cL_set 18 = .ok (.ireturn, 1) := by decide +kernel
theorem dL_set_19 : decode cL_set 19 = .ok (.astore 6, 2) := by decide +kernel
theorem dL_set_21 : decode cL_set 21 = .ok (.iconst 2, 1) := by decide +kernel
theorem dL_set_22 : decode cL_set 22 = .ok (.ireturn, 1) := by decide +kernel
theorem dL_set_23 : decode cL_set 23 = .ok (.astore 6, 2) := by decide +kernel
theorem dL_set_25 : decode cL_set 25 = .ok (.iconst 3, 1) := by decide +kernel
theorem dL_set_26 : decode cL_set 26 = .ok (.ireturn, 1) := by decide +kernel
theorem dL_set_27 : decode cL_set 27 = .ok (.astore 6, 2) := by decide +kernel
theorem dL_set_29 : decode cL_set 29 = .ok (.iconst 4, 1) := by decide +kernel
theorem dL_set_30 : decode cL_set 30 = .ok (.ireturn, 1) := by decide +kernel
theorem dL_set_31 : decode cL_set 31 = .ok (.iconst 0, 1) := by decide +kernel
theorem dL_set_32 : decode cL_set 32 = .ok (.ireturn, 1) := by decide +kernel
abbrev rm_L_set : Room := { frames := 9, cells := 5, slots := 30, locals := 184 }
set_option maxRecDepth 100000 in
set_option maxHeartbeats 4000000 in
theorem c_L_set {l : Launch} {g : Wg} {L : List Nat} {μ μ' : Mem} {a0 : Nat} {a1 : Int32} {a2 : Int32} {a3 : Int64} {a5 : Nat} {res : (String × Mem) ⊕ (Int32 × Mem)} {k : Int32} (hl0 : l.stackTraces = false) (ho : isO μ a0 5 = true) (hf : f_X6_set g.2 a0 a1 a2 a3 μ = some res) (hk : HLP g.2 ["java/lang/IndexOutOfBoundsException", "java/util/NoSuchElementException", "java/lang/IllegalArgumentException", "java/lang/UnsupportedOperationException"] a5 Int32.toInt64 res k μ') : MetH l yL_set cL_set 7 [(0, 12, 15, 13), (0, 12, 19, 45), (0, 12, 23, 15), (0, 12, 27, 58)] rm_L_set g L μ [.ref a0, .int a1, .int a2, .long a3, .ref a5] k μ' := by
  refine pw_metH (by decide) (Nat.le_of_ble_eq_true rfl) ?_
  intro p e s m args below meth c A ls H locs hC hr hlocks hl hw hX hNC htab
  have hx := hC.1
  have hb := hC.2.1
  have hl : lv_has ls 7 [(0, .ref a0), (1, .int a1), (2, .int a2), (3, .long a3), (5, .ref a5)] := hl
  refine lv_aload hx hb dL_set_0 (lv_at hl 4 rfl) ?_
  refine lv_iconst (v := 0) hx hb dL_set_2 nc_iconst_0 ?_
  refine lv_aload_n hx hb dL_set_3 rfl (lv_at hl 0 rfl) ?_
  refine lv_iload_n hx hb dL_set_4 rfl (lv_at hl 1 rfl) ?_
  refine lv_iload_n hx hb dL_set_5 rfl (lv_at hl 2 rfl) ?_
  refine lv_lload_n hx hb dL_set_6 rfl (lv_at hl 3 rfl) ?_
  rcases hk with hk | hk
  · obtain ⟨r, μ1, rfl, hwl, rfl⟩ := hk
    refine pw_goX hw (pw_runVX (As := [.int a1, .int a2, .long a3]) (rest := [.int 0, .ref a5]) hC mm_X6_set tw_914 (c_X6_set hl0 hf) ⟨by decide, by decide⟩ hw hX ho rfl hl.1 (Nat.le_of_ble_eq_true rfl) ⟨by decide, by decide⟩ rfl dL_set_7) (fun H locs hw => ?_)
    refine W.eq (g2 := F0 m 10 ls [.int r, .int 0, .ref a5]) rfl ?_
    refine lv_i2l hx hb dL_set_10 rfl ?_
    refine pw_last hC hw hwl dL_set_11 (fun H locs hw => ?_)
    refine lv_goto (tgt := 31) hx hb dL_set_12 (by decide) ?_
    refine lv_iconst (v := 0) hx hb dL_set_31 nc_iconst_0 ?_
    exact pw_xiret hC hr hlocks (by decide) (by decide) hw dL_set_32
  · obtain ⟨i, hi, rfl, rfl⟩ := hk
    rcases i with _ | i
    · replace hf : f_X6_set g.2 a0 a1 a2 a3 μ = some (.inl ("java/lang/IndexOutOfBoundsException", μ')) := hf
      refine pw_caught (name := "java/lang/IndexOutOfBoundsException") hC hw (pw_runVX (As := [.int a1, .int a2, .long a3]) (rest := [.int 0, .ref a5]) hC mm_X6_set tw_914 (c_X6_set hl0 hf) ⟨by decide, by decide⟩ hw hX ho rfl hl.1 (Nat.le_of_ble_eq_true rfl) ⟨by decide, by decide⟩ rfl dL_set_7) [] ⟨0, 12, 15, 13⟩ [⟨0, 12, 19, 45⟩, ⟨0, 12, 23, 15⟩, ⟨0, 12, 27, 58⟩] (by rw [htab]; rfl) (fun z h => absurd h List.not_mem_nil) (by decide) (by decide) tw_545 tw_435 (fun q H locs hw => ?_)
      refine lv_astore (lv' := [(6, .ref q), (0, .ref a0), (1, .int a1), (2, .int a2), (3, .long a3), (5, .ref a5)]) hx hb dL_set_15 hl (by decide) rfl (fun ls hl => ?_)
      refine lv_iconst (v := 1) hx hb dL_set_17 nc_iconst_1 ?_
      exact pw_xiret hC hr hlocks (by decide) (by decide) hw dL_set_18
    rcases i with _ | i
    · replace hf : f_X6_set g.2 a0 a1 a2 a3 μ = some (.inl ("java/util/NoSuchElementException", μ')) := hf
      refine pw_caught (name := "java/util/NoSuchElementException") hC hw (pw_runVX (As := [.int a1, .int a2, .long a3]) (rest := [.int 0, .ref a5]) hC mm_X6_set tw_914 (c_X6_set hl0 hf) ⟨by decide, by decide⟩ hw hX ho rfl hl.1 (Nat.le_of_ble_eq_true rfl) ⟨by decide, by decide⟩ rfl dL_set_7) [⟨0, 12, 15, 13⟩] ⟨0, 12, 19, 45⟩ [⟨0, 12, 23, 15⟩, ⟨0, 12, 27, 58⟩] (by rw [htab]; rfl) (List.forall_mem_cons.mpr ⟨Or.inr ⟨by decide, "java/lang/IndexOutOfBoundsException", hC.2.2.2.2 _ tw_545, hNC "java/util/NoSuchElementException" (by decide) _ (by decide) (by decide)⟩, (fun z h => absurd h List.not_mem_nil)⟩) (by decide) (by decide) tw_690 tw_701 (fun q H locs hw => ?_)
      refine lv_astore (lv' := [(6, .ref q), (0, .ref a0), (1, .int a1), (2, .int a2), (3, .long a3), (5, .ref a5)]) hx hb dL_set_19 hl (by decide) rfl (fun ls hl => ?_)
      refine lv_iconst (v := 2) hx hb dL_set_21 nc_iconst_2 ?_
      exact pw_xiret hC hr hlocks (by decide) (by decide) hw dL_set_22
    rcases i with _ | i
    · replace hf : f_X6_set g.2 a0 a1 a2 a3 μ = some (.inl ("java/lang/IllegalArgumentException", μ')) := hf
      refine pw_caught (name := "java/lang/IllegalArgumentException") hC hw (pw_runVX (As := [.int a1, .int a2, .long a3]) (rest := [.int 0, .ref a5]) hC mm_X6_set tw_914 (c_X6_set hl0 hf) ⟨by decide, by decide⟩ hw hX ho rfl hl.1 (Nat.le_of_ble_eq_true rfl) ⟨by decide, by decide⟩ rfl dL_set_7) [⟨0, 12, 15, 13⟩, ⟨0, 12, 19, 45⟩] ⟨0, 12, 23, 15⟩ [⟨0, 12, 27, 58⟩] (by rw [htab]; rfl) (List.forall_mem_cons.mpr ⟨Or.inr ⟨by decide, "java/lang/IndexOutOfBoundsException", hC.2.2.2.2 _ tw_545, hNC "java/lang/IllegalArgumentException" (by decide) _ (by decide) (by decide)⟩, (List.forall_mem_cons.mpr ⟨Or.inr ⟨by decide, "java/util/NoSuchElementException", hC.2.2.2.2 _ tw_690, hNC "java/lang/IllegalArgumentException" (by decide) _ (by decide) (by decide)⟩, (fun z h => absurd h List.not_mem_nil)⟩)⟩) (by decide) (by decide) tw_546 tw_563 (fun q H locs hw => ?_)
      refine lv_astore (lv' := [(6, .ref q), (0, .ref a0), (1, .int a1), (2, .int a2), (3, .long a3), (5, .ref a5)]) hx hb dL_set_23 hl (by decide) rfl (fun ls hl => ?_)
      refine lv_iconst (v := 3) hx hb dL_set_25 nc_iconst_3 ?_
      exact pw_xiret hC hr hlocks (by decide) (by decide) hw dL_set_26
    rcases i with _ | i
    · replace hf : f_X6_set g.2 a0 a1 a2 a3 μ = some (.inl ("java/lang/UnsupportedOperationException", μ')) := hf
      refine pw_caught (name := "java/lang/UnsupportedOperationException") hC hw (pw_runVX (As := [.int a1, .int a2, .long a3]) (rest := [.int 0, .ref a5]) hC mm_X6_set tw_914 (c_X6_set hl0 hf) ⟨by decide, by decide⟩ hw hX ho rfl hl.1 (Nat.le_of_ble_eq_true rfl) ⟨by decide, by decide⟩ rfl dL_set_7) [⟨0, 12, 15, 13⟩, ⟨0, 12, 19, 45⟩, ⟨0, 12, 23, 15⟩] ⟨0, 12, 27, 58⟩ [] (by rw [htab]; rfl) (List.forall_mem_cons.mpr ⟨Or.inr ⟨by decide, "java/lang/IndexOutOfBoundsException", hC.2.2.2.2 _ tw_545, hNC "java/lang/UnsupportedOperationException" (by decide) _ (by decide) (by decide)⟩, (List.forall_mem_cons.mpr ⟨Or.inr ⟨by decide, "java/util/NoSuchElementException", hC.2.2.2.2 _ tw_690, hNC "java/lang/UnsupportedOperationException" (by decide) _ (by decide) (by decide)⟩, (List.forall_mem_cons.mpr ⟨Or.inr ⟨by decide, "java/lang/IllegalArgumentException", hC.2.2.2.2 _ tw_546, hNC "java/lang/UnsupportedOperationException" (by decide) _ (by decide) (by decide)⟩, (fun z h => absurd h List.not_mem_nil)⟩)⟩)⟩) (by decide) (by decide) tw_774 tw_842 (fun q H locs hw => ?_)
      refine lv_astore (lv' := [(6, .ref q), (0, .ref a0), (1, .int a1), (2, .int a2), (3, .long a3), (5, .ref a5)]) hx hb dL_set_27 hl (by decide) rfl (fun ls hl => ?_)
      refine lv_iconst (v := 4) hx hb dL_set_29 nc_iconst_4 ?_
      exact pw_xiret hC hr hlocks (by decide) (by decide) hw dL_set_30
    exact absurd hi (by show ¬ i + 4 < 4; omega)
theorem dL_write_0 : decode cL_write 0 = .ok (.aload_n 2, 1) := by decide +kernel
theorem dL_write_1 : decode cL_write 1 = .ok (.iconst 0, 1) := by decide +kernel
theorem dL_write_2 : decode cL_write 2 = .ok (.aload_n 0, 1) := by decide +kernel
theorem dL_write_3 : decode cL_write 3 = .ok (.iload_n 1, 1) := by decide +kernel
theorem dL_write_4 : decode cL_write 4 = .ok (.invokevirtual 80, 3) := by decide +kernel
theorem dL_write_7 : decode cL_write 7 = .ok (.i2l, 1) := by decide +kernel
theorem dL_write_8 : decode cL_write 8 = .ok (.lastore, 1) := by decide +kernel
theorem dL_write_9 : decode cL_write 9 = .ok (.goto 12, 3) := by decide +kernel
theorem dL_write_12 : decode cL_write 12 = .ok (.astore_n 3, 1) := by decide +kernel
theorem dL_write_13 : decode cL_write 13 = .ok (.iconst 1, 1) := by decide +kernel
theorem dL_write_14 : decode cL_write 14 = .ok (.ireturn, 1) := by decide +kernel
theorem dL_write_15 : decode cL_write 15 = .ok (.astore_n 3, 1) := by decide +kernel
theorem dL_write_16 : decode cL_write 16 = .ok (.iconst 2, 1) := by decide +kernel
theorem dL_write_17 : decode cL_write 17 = .ok (.ireturn, 1) := by decide +kernel
theorem dL_write_18 : decode cL_write 18 = .ok (.astore_n 3, 1) := by decide +kernel
theorem dL_write_19 : decode cL_write 19 = .ok (.iconst 3, 1) := by decide +kernel
theorem dL_write_20 : decode cL_write 20 = .ok (.ireturn, 1) := by decide +kernel
theorem dL_write_21 : decode cL_write 21 = .ok (.iconst 0, 1) := by decide +kernel
theorem dL_write_22 : decode cL_write 22 = .ok (.ireturn, 1) := by decide +kernel
abbrev rm_L_write : Room := { frames := 127, cells := 3, slots := 18, locals := 3523 }
set_option maxRecDepth 100000 in
set_option maxHeartbeats 4000000 in
theorem c_L_write {l : Launch} {g : Wg} {L : List Nat} {μ μ' : Mem} {a0 : Nat} {a1 : Int32} {a2 : Nat} {res : (String × Mem) ⊕ (Int32 × Mem)} {k : Int32} (hl0 : l.stackTraces = false) (ho : isO μ a0 5 = true) (hf : f_X6_write g.2 a0 a1 μ = some res) (hk : HLP g.2 ["java/lang/IllegalStateException", "java/lang/IllegalArgumentException", "java/lang/UnsupportedOperationException"] a2 Int32.toInt64 res k μ') : MetH l yL_write cL_write 4 [(0, 9, 12, 47), (0, 9, 15, 15), (0, 9, 18, 58)] rm_L_write g L μ [.ref a0, .int a1, .ref a2] k μ' := by
  refine pw_metH (by decide) (Nat.le_of_ble_eq_true rfl) ?_
  intro p e s m args below meth c A ls H locs hC hr hlocks hl hw hX hNC htab
  have hx := hC.1
  have hb := hC.2.1
  have hl : lv_has ls 4 [(0, .ref a0), (1, .int a1), (2, .ref a2)] := hl
  refine lv_aload_n hx hb dL_write_0 rfl (lv_at hl 2 rfl) ?_
  refine lv_iconst (v := 0) hx hb dL_write_1 nc_iconst_0 ?_
  refine lv_aload_n hx hb dL_write_2 rfl (lv_at hl 0 rfl) ?_
  refine lv_iload_n hx hb dL_write_3 rfl (lv_at hl 1 rfl) ?_
  rcases hk with hk | hk
  · obtain ⟨r, μ1, rfl, hwl, rfl⟩ := hk
    refine pw_goX hw (pw_runVX (As := [.int a1]) (rest := [.int 0, .ref a2]) hC mm_X6_write tw_921 (c_X6_write hl0 hf) ⟨by decide, by decide⟩ hw hX ho rfl hl.1 (Nat.le_of_ble_eq_true rfl) ⟨by decide, by decide⟩ rfl dL_write_4) (fun H locs hw => ?_)
    refine W.eq (g2 := F0 m 7 ls [.int r, .int 0, .ref a2]) rfl ?_
    refine lv_i2l hx hb dL_write_7 rfl ?_
    refine pw_last hC hw hwl dL_write_8 (fun H locs hw => ?_)
    refine lv_goto (tgt := 21) hx hb dL_write_9 (by decide) ?_
    refine lv_iconst (v := 0) hx hb dL_write_21 nc_iconst_0 ?_
    exact pw_xiret hC hr hlocks (by decide) (by decide) hw dL_write_22
  · obtain ⟨i, hi, rfl, rfl⟩ := hk
    rcases i with _ | i
    · replace hf : f_X6_write g.2 a0 a1 μ = some (.inl ("java/lang/IllegalStateException", μ')) := hf
      refine pw_caught (name := "java/lang/IllegalStateException") hC hw (pw_runVX (As := [.int a1]) (rest := [.int 0, .ref a2]) hC mm_X6_write tw_921 (c_X6_write hl0 hf) ⟨by decide, by decide⟩ hw hX ho rfl hl.1 (Nat.le_of_ble_eq_true rfl) ⟨by decide, by decide⟩ rfl dL_write_4) [] ⟨0, 9, 12, 47⟩ [⟨0, 9, 15, 15⟩, ⟨0, 9, 18, 58⟩] (by rw [htab]; rfl) (fun z h => absurd h List.not_mem_nil) (by decide) (by decide) tw_691 tw_726 (fun q H locs hw => ?_)
      refine lv_astore_n (lv' := [(3, .ref q), (0, .ref a0), (1, .int a1), (2, .ref a2)]) hx hb dL_write_12 rfl hl (by decide) rfl (fun ls hl => ?_)
      refine lv_iconst (v := 1) hx hb dL_write_13 nc_iconst_1 ?_
      exact pw_xiret hC hr hlocks (by decide) (by decide) hw dL_write_14
    rcases i with _ | i
    · replace hf : f_X6_write g.2 a0 a1 μ = some (.inl ("java/lang/IllegalArgumentException", μ')) := hf
      refine pw_caught (name := "java/lang/IllegalArgumentException") hC hw (pw_runVX (As := [.int a1]) (rest := [.int 0, .ref a2]) hC mm_X6_write tw_921 (c_X6_write hl0 hf) ⟨by decide, by decide⟩ hw hX ho rfl hl.1 (Nat.le_of_ble_eq_true rfl) ⟨by decide, by decide⟩ rfl dL_write_4) [⟨0, 9, 12, 47⟩] ⟨0, 9, 15, 15⟩ [⟨0, 9, 18, 58⟩] (by rw [htab]; rfl) (List.forall_mem_cons.mpr ⟨Or.inr ⟨by decide, "java/lang/IllegalStateException", hC.2.2.2.2 _ tw_691, hNC "java/lang/IllegalArgumentException" (by decide) _ (by decide) (by decide)⟩, (fun z h => absurd h List.not_mem_nil)⟩) (by decide) (by decide) tw_546 tw_563 (fun q H locs hw => ?_)
      refine lv_astore_n (lv' := [(3, .ref q), (0, .ref a0), (1, .int a1), (2, .ref a2)]) hx hb dL_write_15 rfl hl (by decide) rfl (fun ls hl => ?_)
      refine lv_iconst (v := 2) hx hb dL_write_16 nc_iconst_2 ?_
      exact pw_xiret hC hr hlocks (by decide) (by decide) hw dL_write_17
    rcases i with _ | i
    · replace hf : f_X6_write g.2 a0 a1 μ = some (.inl ("java/lang/UnsupportedOperationException", μ')) := hf
      refine pw_caught (name := "java/lang/UnsupportedOperationException") hC hw (pw_runVX (As := [.int a1]) (rest := [.int 0, .ref a2]) hC mm_X6_write tw_921 (c_X6_write hl0 hf) ⟨by decide, by decide⟩ hw hX ho rfl hl.1 (Nat.le_of_ble_eq_true rfl) ⟨by decide, by decide⟩ rfl dL_write_4) [⟨0, 9, 12, 47⟩, ⟨0, 9, 15, 15⟩] ⟨0, 9, 18, 58⟩ [] (by rw [htab]; rfl) (List.forall_mem_cons.mpr ⟨Or.inr ⟨by decide, "java/lang/IllegalStateException", hC.2.2.2.2 _ tw_691, hNC "java/lang/UnsupportedOperationException" (by decide) _ (by decide) (by decide)⟩, (List.forall_mem_cons.mpr ⟨Or.inr ⟨by decide, "java/lang/IllegalArgumentException", hC.2.2.2.2 _ tw_546, hNC "java/lang/UnsupportedOperationException" (by decide) _ (by decide) (by decide)⟩, (fun z h => absurd h List.not_mem_nil)⟩)⟩) (by decide) (by decide) tw_774 tw_842 (fun q H locs hw => ?_)
      refine lv_astore_n (lv' := [(3, .ref q), (0, .ref a0), (1, .int a1), (2, .ref a2)]) hx hb dL_write_18 rfl hl (by decide) rfl (fun ls hl => ?_)
      refine lv_iconst (v := 3) hx hb dL_write_19 nc_iconst_3 ?_
      exact pw_xiret hC hr hlocks (by decide) (by decide) hw dL_write_20
    exact absurd hi (by show ¬ i + 3 < 3; omega)
theorem dL_open_0 : decode cL_open 0 = .ok (.aload_n 2, 1) := by decide +kernel
theorem dL_open_1 : decode cL_open 1 = .ok (.iconst 0, 1) := by decide +kernel
theorem dL_open_2 : decode cL_open 2 = .ok (.aload_n 0, 1) := by decide +kernel
theorem dL_open_3 : decode cL_open 3 = .ok (.iload_n 1, 1) := by decide +kernel
theorem dL_open_4 : decode cL_open 4 = .ok (.invokevirtual 83, 3) := by decide +kernel
theorem dL_open_7 : decode cL_open 7 = .ok (.i2l, 1) := by decide +kernel
theorem dL_open_8 : decode cL_open 8 = .ok (.lastore, 1) := by decide +kernel
theorem dL_open_9 : decode cL_open 9 = .ok (.goto 12, 3) := by decide +kernel
theorem dL_open_12 : decode cL_open 12 = .ok (.astore_n 3, 1) := by decide +kernel
theorem dL_open_13 : decode cL_open 13 = .ok (.iconst 1, 1) := by decide +kernel
theorem dL_open_14 : decode cL_open 14 = .ok (.ireturn, 1) := by decide +kernel
theorem dL_open_15 : decode cL_open 15 = .ok (.astore_n 3, 1) := by decide +kernel
theorem dL_open_16 : decode cL_open 16 = .ok (.iconst 2, 1) := by decide +kernel
theorem dL_open_17 : decode cL_open 17 = .ok (.ireturn, 1) := by decide +kernel
theorem dL_open_18 : decode cL_open 18 = .ok (.astore_n 3, 1) := by decide +kernel
theorem dL_open_19 : decode cL_open 19 = .ok (.iconst 3, 1) := by decide +kernel
theorem dL_open_20 : decode cL_open 20 = .ok (.ireturn, 1) := by decide +kernel
theorem dL_open_21 : decode cL_open 21 = .ok (.iconst 0, 1) := by decide +kernel
theorem dL_open_22 : decode cL_open 22 = .ok (.ireturn, 1) := by decide +kernel
abbrev rm_L_open : Room := { frames := 8, cells := 3, slots := 18, locals := 153 }
set_option maxRecDepth 100000 in
set_option maxHeartbeats 4000000 in
theorem c_L_open {l : Launch} {g : Wg} {L : List Nat} {μ μ' : Mem} {a0 : Nat} {a1 : Int32} {a2 : Nat} {res : (String × Mem) ⊕ (Int32 × Mem)} {k : Int32} (hl0 : l.stackTraces = false) (ho : isO μ a0 5 = true) (hf : f_X6_open g.2 a0 a1 μ = some res) (hk : HLP g.2 ["java/lang/IllegalStateException", "java/lang/IllegalArgumentException", "java/lang/UnsupportedOperationException"] a2 Int32.toInt64 res k μ') : MetH l yL_open cL_open 4 [(0, 9, 12, 47), (0, 9, 15, 15), (0, 9, 18, 58)] rm_L_open g L μ [.ref a0, .int a1, .ref a2] k μ' := by
  refine pw_metH (by decide) (Nat.le_of_ble_eq_true rfl) ?_
  intro p e s m args below meth c A ls H locs hC hr hlocks hl hw hX hNC htab
  have hx := hC.1
  have hb := hC.2.1
  have hl : lv_has ls 4 [(0, .ref a0), (1, .int a1), (2, .ref a2)] := hl
  refine lv_aload_n hx hb dL_open_0 rfl (lv_at hl 2 rfl) ?_
  refine lv_iconst (v := 0) hx hb dL_open_1 nc_iconst_0 ?_
  refine lv_aload_n hx hb dL_open_2 rfl (lv_at hl 0 rfl) ?_
  refine lv_iload_n hx hb dL_open_3 rfl (lv_at hl 1 rfl) ?_
  rcases hk with hk | hk
  · obtain ⟨r, μ1, rfl, hwl, rfl⟩ := hk
    refine pw_goX hw (pw_runVX (As := [.int a1]) (rest := [.int 0, .ref a2]) hC mm_X6_open tw_960 (c_X6_open hl0 hf) ⟨by decide, by decide⟩ hw hX ho rfl hl.1 (Nat.le_of_ble_eq_true rfl) ⟨by decide, by decide⟩ rfl dL_open_4) (fun H locs hw => ?_)
    refine W.eq (g2 := F0 m 7 ls [.int r, .int 0, .ref a2]) rfl ?_
    refine lv_i2l hx hb dL_open_7 rfl ?_
    refine pw_last hC hw hwl dL_open_8 (fun H locs hw => ?_)
    refine lv_goto (tgt := 21) hx hb dL_open_9 (by decide) ?_
    refine lv_iconst (v := 0) hx hb dL_open_21 nc_iconst_0 ?_
    exact pw_xiret hC hr hlocks (by decide) (by decide) hw dL_open_22
  · obtain ⟨i, hi, rfl, rfl⟩ := hk
    rcases i with _ | i
    · replace hf : f_X6_open g.2 a0 a1 μ = some (.inl ("java/lang/IllegalStateException", μ')) := hf
      refine pw_caught (name := "java/lang/IllegalStateException") hC hw (pw_runVX (As := [.int a1]) (rest := [.int 0, .ref a2]) hC mm_X6_open tw_960 (c_X6_open hl0 hf) ⟨by decide, by decide⟩ hw hX ho rfl hl.1 (Nat.le_of_ble_eq_true rfl) ⟨by decide, by decide⟩ rfl dL_open_4) [] ⟨0, 9, 12, 47⟩ [⟨0, 9, 15, 15⟩, ⟨0, 9, 18, 58⟩] (by rw [htab]; rfl) (fun z h => absurd h List.not_mem_nil) (by decide) (by decide) tw_691 tw_726 (fun q H locs hw => ?_)
      refine lv_astore_n (lv' := [(3, .ref q), (0, .ref a0), (1, .int a1), (2, .ref a2)]) hx hb dL_open_12 rfl hl (by decide) rfl (fun ls hl => ?_)
      refine lv_iconst (v := 1) hx hb dL_open_13 nc_iconst_1 ?_
      exact pw_xiret hC hr hlocks (by decide) (by decide) hw dL_open_14
    rcases i with _ | i
    · replace hf : f_X6_open g.2 a0 a1 μ = some (.inl ("java/lang/IllegalArgumentException", μ')) := hf
      refine pw_caught (name := "java/lang/IllegalArgumentException") hC hw (pw_runVX (As := [.int a1]) (rest := [.int 0, .ref a2]) hC mm_X6_open tw_960 (c_X6_open hl0 hf) ⟨by decide, by decide⟩ hw hX ho rfl hl.1 (Nat.le_of_ble_eq_true rfl) ⟨by decide, by decide⟩ rfl dL_open_4) [⟨0, 9, 12, 47⟩] ⟨0, 9, 15, 15⟩ [⟨0, 9, 18, 58⟩] (by rw [htab]; rfl) (List.forall_mem_cons.mpr ⟨Or.inr ⟨by decide, "java/lang/IllegalStateException", hC.2.2.2.2 _ tw_691, hNC "java/lang/IllegalArgumentException" (by decide) _ (by decide) (by decide)⟩, (fun z h => absurd h List.not_mem_nil)⟩) (by decide) (by decide) tw_546 tw_563 (fun q H locs hw => ?_)
      refine lv_astore_n (lv' := [(3, .ref q), (0, .ref a0), (1, .int a1), (2, .ref a2)]) hx hb dL_open_15 rfl hl (by decide) rfl (fun ls hl => ?_)
      refine lv_iconst (v := 2) hx hb dL_open_16 nc_iconst_2 ?_
      exact pw_xiret hC hr hlocks (by decide) (by decide) hw dL_open_17
    rcases i with _ | i
    · replace hf : f_X6_open g.2 a0 a1 μ = some (.inl ("java/lang/UnsupportedOperationException", μ')) := hf
      refine pw_caught (name := "java/lang/UnsupportedOperationException") hC hw (pw_runVX (As := [.int a1]) (rest := [.int 0, .ref a2]) hC mm_X6_open tw_960 (c_X6_open hl0 hf) ⟨by decide, by decide⟩ hw hX ho rfl hl.1 (Nat.le_of_ble_eq_true rfl) ⟨by decide, by decide⟩ rfl dL_open_4) [⟨0, 9, 12, 47⟩, ⟨0, 9, 15, 15⟩] ⟨0, 9, 18, 58⟩ [] (by rw [htab]; rfl) (List.forall_mem_cons.mpr ⟨Or.inr ⟨by decide, "java/lang/IllegalStateException", hC.2.2.2.2 _ tw_691, hNC "java/lang/UnsupportedOperationException" (by decide) _ (by decide) (by decide)⟩, (List.forall_mem_cons.mpr ⟨Or.inr ⟨by decide, "java/lang/IllegalArgumentException", hC.2.2.2.2 _ tw_546, hNC "java/lang/UnsupportedOperationException" (by decide) _ (by decide) (by decide)⟩, (fun z h => absurd h List.not_mem_nil)⟩)⟩) (by decide) (by decide) tw_774 tw_842 (fun q H locs hw => ?_)
      refine lv_astore_n (lv' := [(3, .ref q), (0, .ref a0), (1, .int a1), (2, .ref a2)]) hx hb dL_open_18 rfl hl (by decide) rfl (fun ls hl => ?_)
      refine lv_iconst (v := 3) hx hb dL_open_19 nc_iconst_3 ?_
      exact pw_xiret hC hr hlocks (by decide) (by decide) hw dL_open_20
    exact absurd hi (by show ¬ i + 3 < 3; omega)
theorem dL_close_0 : decode cL_close 0 = .ok (.aload_n 1, 1) := by decide +kernel
theorem dL_close_1 : decode cL_close 1 = .ok (.iconst 0, 1) := by decide +kernel
theorem dL_close_2 : decode cL_close 2 = .ok (.aload_n 0, 1) := by decide +kernel
theorem dL_close_3 : decode cL_close 3 = .ok (.invokevirtual 86, 3) := by decide +kernel
theorem dL_close_6 : decode cL_close 6 = .ok (.i2l, 1) := by decide +kernel
theorem dL_close_7 : decode cL_close 7 = .ok (.lastore, 1) := by decide +kernel
theorem dL_close_8 : decode cL_close 8 = .ok (.goto 6, 3) := by decide +kernel
theorem dL_close_11 : decode cL_close 11 = .ok (.astore_n 2, 1) := by decide +kernel
theorem dL_close_12 : decode cL_close 12 = .ok (.iconst 1, 1) := by decide +kernel
theorem dL_close_13 : decode cL_close 13 = .ok (.ireturn, 1) := by decide +kernel
theorem dL_close_14 : decode cL_close 14 = .ok (.iconst 0, 1) := by decide +kernel
theorem dL_close_15 : decode cL_close 15 = .ok (.ireturn, 1) := by decide +kernel
abbrev rm_L_close : Room := { frames := 8, cells := 1, slots := 6, locals := 140 }
set_option maxRecDepth 100000 in
set_option maxHeartbeats 4000000 in
theorem c_L_close {l : Launch} {g : Wg} {L : List Nat} {μ μ' : Mem} {a0 : Nat} {a1 : Nat} {res : (String × Mem) ⊕ (Int32 × Mem)} {k : Int32} (hl0 : l.stackTraces = false) (ho : isO μ a0 5 = true) (hf : f_X6_close g.2 a0 μ = some res) (hk : HLP g.2 ["java/lang/IllegalStateException"] a1 Int32.toInt64 res k μ') : MetH l yL_close cL_close 3 [(0, 8, 11, 47)] rm_L_close g L μ [.ref a0, .ref a1] k μ' := by
  refine pw_metH (by decide) (Nat.le_of_ble_eq_true rfl) ?_
  intro p e s m args below meth c A ls H locs hC hr hlocks hl hw hX hNC htab
  have hx := hC.1
  have hb := hC.2.1
  have hl : lv_has ls 3 [(0, .ref a0), (1, .ref a1)] := hl
  refine lv_aload_n hx hb dL_close_0 rfl (lv_at hl 1 rfl) ?_
  refine lv_iconst (v := 0) hx hb dL_close_1 nc_iconst_0 ?_
  refine lv_aload_n hx hb dL_close_2 rfl (lv_at hl 0 rfl) ?_
  rcases hk with hk | hk
  · obtain ⟨r, μ1, rfl, hwl, rfl⟩ := hk
    refine pw_goX hw (pw_runVX (As := []) (rest := [.int 0, .ref a1]) hC mm_X6_close tw_976 (c_X6_close hl0 hf) ⟨by decide, by decide⟩ hw hX ho rfl hl.1 (Nat.le_of_ble_eq_true rfl) ⟨by decide, by decide⟩ rfl dL_close_3) (fun H locs hw => ?_)
    refine W.eq (g2 := F0 m 6 ls [.int r, .int 0, .ref a1]) rfl ?_
    refine lv_i2l hx hb dL_close_6 rfl ?_
    refine pw_last hC hw hwl dL_close_7 (fun H locs hw => ?_)
    refine lv_goto (tgt := 14) hx hb dL_close_8 (by decide) ?_
    refine lv_iconst (v := 0) hx hb dL_close_14 nc_iconst_0 ?_
    exact pw_xiret hC hr hlocks (by decide) (by decide) hw dL_close_15
  · obtain ⟨i, hi, rfl, rfl⟩ := hk
    rcases i with _ | i
    · replace hf : f_X6_close g.2 a0 μ = some (.inl ("java/lang/IllegalStateException", μ')) := hf
      refine pw_caught (name := "java/lang/IllegalStateException") hC hw (pw_runVX (As := []) (rest := [.int 0, .ref a1]) hC mm_X6_close tw_976 (c_X6_close hl0 hf) ⟨by decide, by decide⟩ hw hX ho rfl hl.1 (Nat.le_of_ble_eq_true rfl) ⟨by decide, by decide⟩ rfl dL_close_3) [] ⟨0, 8, 11, 47⟩ [] (by rw [htab]; rfl) (fun z h => absurd h List.not_mem_nil) (by decide) (by decide) tw_691 tw_726 (fun q H locs hw => ?_)
      refine lv_astore_n (lv' := [(2, .ref q), (0, .ref a0), (1, .ref a1)]) hx hb dL_close_11 rfl hl (by decide) rfl (fun ls hl => ?_)
      refine lv_iconst (v := 1) hx hb dL_close_12 nc_iconst_1 ?_
      exact pw_xiret hC hr hlocks (by decide) (by decide) hw dL_close_13
    exact absurd hi (by show ¬ i + 1 < 1; omega)
theorem dL_lay_0 : decode cL_lay 0 = .ok (.aload_n 2, 1) := by decide +kernel
theorem dL_lay_1 : decode cL_lay 1 = .ok (.iconst 0, 1) := by decide +kernel
theorem dL_lay_2 : decode cL_lay 2 = .ok (.aload_n 0, 1) := by decide +kernel
theorem dL_lay_3 : decode cL_lay 3 = .ok (.iload_n 1, 1) := by decide +kernel
theorem dL_lay_4 : decode cL_lay 4 = .ok (.invokevirtual 90, 3) := by decide +kernel
theorem dL_lay_7 : decode cL_lay 7 = .ok (.i2l, 1) := by decide +kernel
theorem dL_lay_8 : decode cL_lay 8 = .ok (.lastore, 1) := by decide +kernel
theorem dL_lay_9 : decode cL_lay 9 = .ok (.goto 9, 3) := by decide +kernel
theorem dL_lay_12 : decode cL_lay 12 = .ok (.astore_n 3, 1) := by decide +kernel
theorem dL_lay_13 : decode cL_lay 13 = .ok (.iconst 1, 1) := by decide +kernel
theorem dL_lay_14 : decode cL_lay 14 = .ok (.ireturn, 1) := by decide +kernel
theorem dL_lay_15 : decode cL_lay 15 = .ok (.astore_n 3, 1) := by decide +kernel
theorem dL_lay_16 : decode cL_lay 16 = .ok (.iconst 2, 1) := by decide +kernel
theorem dL_lay_17 : decode cL_lay 17 = .ok (.ireturn, 1) := by decide +kernel
theorem dL_lay_18 : decode cL_lay 18 = .ok (.iconst 0, 1) := by decide +kernel
theorem dL_lay_19 : decode cL_lay 19 = .ok (.ireturn, 1) := by decide +kernel
abbrev rm_L_lay : Room := { frames := 8, cells := 2, slots := 12, locals := 155 }
set_option maxRecDepth 100000 in
set_option maxHeartbeats 4000000 in
theorem c_L_lay {l : Launch} {g : Wg} {L : List Nat} {μ μ' : Mem} {a0 : Nat} {a1 : Int32} {a2 : Nat} {res : (String × Mem) ⊕ (Int32 × Mem)} {k : Int32} (hl0 : l.stackTraces = false) (ho : isO μ a0 5 = true) (hf : f_X6_lay g.2 a0 a1 μ = some res) (hk : HLP g.2 ["java/lang/IndexOutOfBoundsException", "java/lang/IllegalStateException"] a2 Int32.toInt64 res k μ') : MetH l yL_lay cL_lay 4 [(0, 9, 12, 13), (0, 9, 15, 47)] rm_L_lay g L μ [.ref a0, .int a1, .ref a2] k μ' := by
  refine pw_metH (by decide) (Nat.le_of_ble_eq_true rfl) ?_
  intro p e s m args below meth c A ls H locs hC hr hlocks hl hw hX hNC htab
  have hx := hC.1
  have hb := hC.2.1
  have hl : lv_has ls 4 [(0, .ref a0), (1, .int a1), (2, .ref a2)] := hl
  refine lv_aload_n hx hb dL_lay_0 rfl (lv_at hl 2 rfl) ?_
  refine lv_iconst (v := 0) hx hb dL_lay_1 nc_iconst_0 ?_
  refine lv_aload_n hx hb dL_lay_2 rfl (lv_at hl 0 rfl) ?_
  refine lv_iload_n hx hb dL_lay_3 rfl (lv_at hl 1 rfl) ?_
  rcases hk with hk | hk
  · obtain ⟨r, μ1, rfl, hwl, rfl⟩ := hk
    refine pw_goX hw (pw_runVX (As := [.int a1]) (rest := [.int 0, .ref a2]) hC mm_X6_lay tw_988 (c_X6_lay hl0 hf) ⟨by decide, by decide⟩ hw hX ho rfl hl.1 (Nat.le_of_ble_eq_true rfl) ⟨by decide, by decide⟩ rfl dL_lay_4) (fun H locs hw => ?_)
    refine W.eq (g2 := F0 m 7 ls [.int r, .int 0, .ref a2]) rfl ?_
    refine lv_i2l hx hb dL_lay_7 rfl ?_
    refine pw_last hC hw hwl dL_lay_8 (fun H locs hw => ?_)
    refine lv_goto (tgt := 18) hx hb dL_lay_9 (by decide) ?_
    refine lv_iconst (v := 0) hx hb dL_lay_18 nc_iconst_0 ?_
    exact pw_xiret hC hr hlocks (by decide) (by decide) hw dL_lay_19
  · obtain ⟨i, hi, rfl, rfl⟩ := hk
    rcases i with _ | i
    · replace hf : f_X6_lay g.2 a0 a1 μ = some (.inl ("java/lang/IndexOutOfBoundsException", μ')) := hf
      refine pw_caught (name := "java/lang/IndexOutOfBoundsException") hC hw (pw_runVX (As := [.int a1]) (rest := [.int 0, .ref a2]) hC mm_X6_lay tw_988 (c_X6_lay hl0 hf) ⟨by decide, by decide⟩ hw hX ho rfl hl.1 (Nat.le_of_ble_eq_true rfl) ⟨by decide, by decide⟩ rfl dL_lay_4) [] ⟨0, 9, 12, 13⟩ [⟨0, 9, 15, 47⟩] (by rw [htab]; rfl) (fun z h => absurd h List.not_mem_nil) (by decide) (by decide) tw_545 tw_435 (fun q H locs hw => ?_)
      refine lv_astore_n (lv' := [(3, .ref q), (0, .ref a0), (1, .int a1), (2, .ref a2)]) hx hb dL_lay_12 rfl hl (by decide) rfl (fun ls hl => ?_)
      refine lv_iconst (v := 1) hx hb dL_lay_13 nc_iconst_1 ?_
      exact pw_xiret hC hr hlocks (by decide) (by decide) hw dL_lay_14
    rcases i with _ | i
    · replace hf : f_X6_lay g.2 a0 a1 μ = some (.inl ("java/lang/IllegalStateException", μ')) := hf
      refine pw_caught (name := "java/lang/IllegalStateException") hC hw (pw_runVX (As := [.int a1]) (rest := [.int 0, .ref a2]) hC mm_X6_lay tw_988 (c_X6_lay hl0 hf) ⟨by decide, by decide⟩ hw hX ho rfl hl.1 (Nat.le_of_ble_eq_true rfl) ⟨by decide, by decide⟩ rfl dL_lay_4) [⟨0, 9, 12, 13⟩] ⟨0, 9, 15, 47⟩ [] (by rw [htab]; rfl) (List.forall_mem_cons.mpr ⟨Or.inr ⟨by decide, "java/lang/IndexOutOfBoundsException", hC.2.2.2.2 _ tw_545, hNC "java/lang/IllegalStateException" (by decide) _ (by decide) (by decide)⟩, (fun z h => absurd h List.not_mem_nil)⟩) (by decide) (by decide) tw_691 tw_726 (fun q H locs hw => ?_)
      refine lv_astore_n (lv' := [(3, .ref q), (0, .ref a0), (1, .int a1), (2, .ref a2)]) hx hb dL_lay_15 rfl hl (by decide) rfl (fun ls hl => ?_)
      refine lv_iconst (v := 2) hx hb dL_lay_16 nc_iconst_2 ?_
      exact pw_xiret hC hr hlocks (by decide) (by decide) hw dL_lay_17
    exact absurd hi (by show ¬ i + 2 < 2; omega)
