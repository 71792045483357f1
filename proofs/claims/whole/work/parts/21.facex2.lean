theorem tw_67 : (Jvm.Cond.fieldLinkNest "SpanShelves" (253 : Nat) "SpanShelves$Reader" "valuePlace" "I" "SpanShelves") ∈ tw := tw_t 67 (by decide +kernel) (by decide +kernel)
theorem tw_69 : (Jvm.Cond.fieldLinkNest "SpanShelves" (207 : Nat) "SpanShelves$Reader" "elements" "I" "SpanShelves") ∈ tw := tw_t 69 (by decide +kernel) (by decide +kernel)
theorem tw_71 : (Jvm.Cond.fieldLinkNest "SpanShelves" (210 : Nat) "SpanShelves$Reader" "deepest" "I" "SpanShelves") ∈ tw := tw_t 71 (by decide +kernel) (by decide +kernel)
theorem tw_73 : (Jvm.Cond.fieldLinkNest "SpanShelves" (213 : Nat) "SpanShelves$Reader" "documents" "I" "SpanShelves") ∈ tw := tw_t 73 (by decide +kernel) (by decide +kernel)
theorem tw_75 : (Jvm.Cond.fieldLinkNest "SpanShelves" (216 : Nat) "SpanShelves$Reader" "lengths" "I" "SpanShelves") ∈ tw := tw_t 75 (by decide +kernel) (by decide +kernel)
theorem tw_77 : (Jvm.Cond.fieldLinkNest "SpanShelves" (219 : Nat) "SpanShelves$Reader" "lengthSum" "I" "SpanShelves") ∈ tw := tw_t 77 (by decide +kernel) (by decide +kernel)
theorem tw_79 : (Jvm.Cond.fieldLinkNest "SpanShelves" (222 : Nat) "SpanShelves$Reader" "nameBytes" "I" "SpanShelves") ∈ tw := tw_t 79 (by decide +kernel) (by decide +kernel)
theorem tw_82 : (Jvm.Cond.fieldLinkNest "SpanShelves" (225 : Nat) "SpanShelves$Reader" "wanted" "I" "SpanShelves") ∈ tw := tw_t 82 (by decide +kernel) (by decide +kernel)
theorem tw_162 : (Jvm.Cond.fieldLinkNest "SpanShelves" (318 : Nat) "SpanShelves$Sheet" "isThere" "Z" "SpanShelves") ∈ tw := tw_t 162 (by decide +kernel) (by decide +kernel)
theorem tw_179 : (Jvm.Cond.methodLink "SpanShelves" (63 : Nat) ({ cls := "SpanShelves$Span", name := "appendLowestFirst", desc := "(JI)V" } : Jvm.MethodName)) ∈ tw := tw_t 179 (by decide +kernel) (by decide +kernel)
theorem tw_203 : (Jvm.Cond.fieldLinkNest "SpanShelves" (281 : Nat) "SpanShelves$Shelf" "changedPlace" "I" "SpanShelves") ∈ tw := tw_t 203 (by decide +kernel) (by decide +kernel)
theorem tw_205 : (Jvm.Cond.fieldLinkNest "SpanShelves" (284 : Nat) "SpanShelves$Shelf" "changedLengths" "I" "SpanShelves") ∈ tw := tw_t 205 (by decide +kernel) (by decide +kernel)
theorem tw_207 : (Jvm.Cond.fieldLinkNest "SpanShelves" (287 : Nat) "SpanShelves$Shelf" "changedBy" "I" "SpanShelves") ∈ tw := tw_t 207 (by decide +kernel) (by decide +kernel)
theorem tw_288 : (Jvm.Cond.fieldLink "SpanShelves" (21 : Nat) "SpanShelves" "plain" "LSpanShelves$Span;") ∈ tw := tw_t 288 (by decide +kernel) (by decide +kernel)
theorem tw_696 : (Jvm.Cond.methodLink "SpanShelves" (173 : Nat) ({ cls := "SpanShelves", name := "refuseNoElement", desc := "(LSpanShelves$Shelf;)V" } : Jvm.MethodName)) ∈ tw := tw_t 696 (by decide +kernel) (by decide +kernel)
theorem tw_697 : (Jvm.Cond.static ({ cls := "SpanShelves", name := "refuseNoElement", desc := "(LSpanShelves$Shelf;)V" } : Jvm.MethodName)) ∈ tw := tw_t 697 (by decide +kernel) (by decide +kernel)
theorem tw_698 : (Jvm.Cond.code ({ cls := "SpanShelves", name := "refuseNoElement", desc := "(LSpanShelves$Shelf;)V" } : Jvm.MethodName) prog_1_method_36_code (1 : Nat) (Option.none : Option Jvm.ClassFile.FieldType)) ∈ tw := tw_t 698 (by decide +kernel) (by decide +kernel)
theorem tw_715 : (Jvm.Cond.methodLink "SpanShelves" (177 : Nat) ({ cls := "SpanShelves$Shelf", name := "elementType", desc := "()I" } : Jvm.MethodName)) ∈ tw := tw_t 715 (by decide +kernel) (by decide +kernel)
theorem tw_716 : (Jvm.Cond.instanceMethod ({ cls := "SpanShelves$Shelf", name := "elementType", desc := "()I" } : Jvm.MethodName)) ∈ tw := tw_t 716 (by decide +kernel) (by decide +kernel)
theorem tw_717 : (Jvm.Cond.selects "SpanShelves$Shelf" ({ cls := "SpanShelves$Shelf", name := "elementType", desc := "()I" } : Jvm.MethodName) ({ cls := "SpanShelves$Shelf", name := "elementType", desc := "()I" } : Jvm.MethodName)) ∈ tw := tw_t 717 (by decide +kernel) (by decide +kernel)
theorem tw_718 : (Jvm.Cond.code ({ cls := "SpanShelves$Shelf", name := "elementType", desc := "()I" } : Jvm.MethodName) prog_6_method_4_code (1 : Nat) (Option.some Jvm.ClassFile.FieldType.int)) ∈ tw := tw_t 718 (by decide +kernel) (by decide +kernel)
theorem tw_721 : (Jvm.Cond.methodLink "SpanShelves" (180 : Nat) ({ cls := "SpanShelves$Form", name := "isNumber", desc := "(I)Z" } : Jvm.MethodName)) ∈ tw := tw_t 721 (by decide +kernel) (by decide +kernel)
theorem tw_722 : (Jvm.Cond.static ({ cls := "SpanShelves$Form", name := "isNumber", desc := "(I)Z" } : Jvm.MethodName)) ∈ tw := tw_t 722 (by decide +kernel) (by decide +kernel)
theorem tw_723 : (Jvm.Cond.code ({ cls := "SpanShelves$Form", name := "isNumber", desc := "(I)Z" } : Jvm.MethodName) prog_3_method_4_code (1 : Nat) (Option.some Jvm.ClassFile.FieldType.boolean)) ∈ tw := tw_t 723 (by decide +kernel) (by decide +kernel)
theorem tw_740 : (Jvm.Cond.methodLink "SpanShelves" (190 : Nat) ({ cls := "SpanShelves$Shelf", name := "valuePlace", desc := "()I" } : Jvm.MethodName)) ∈ tw := tw_t 740 (by decide +kernel) (by decide +kernel)
theorem tw_741 : (Jvm.Cond.instanceMethod ({ cls := "SpanShelves$Shelf", name := "valuePlace", desc := "()I" } : Jvm.MethodName)) ∈ tw := tw_t 741 (by decide +kernel) (by decide +kernel)
theorem tw_742 : (Jvm.Cond.selects "SpanShelves$Shelf" ({ cls := "SpanShelves$Shelf", name := "valuePlace", desc := "()I" } : Jvm.MethodName) ({ cls := "SpanShelves$Shelf", name := "valuePlace", desc := "()I" } : Jvm.MethodName)) ∈ tw := tw_t 742 (by decide +kernel) (by decide +kernel)
theorem tw_743 : (Jvm.Cond.code ({ cls := "SpanShelves$Shelf", name := "valuePlace", desc := "()I" } : Jvm.MethodName) prog_6_method_5_code (1 : Nat) (Option.some Jvm.ClassFile.FieldType.int)) ∈ tw := tw_t 743 (by decide +kernel) (by decide +kernel)
theorem tw_745 : (Jvm.Cond.methodLink "SpanShelves" (193 : Nat) ({ cls := "SpanShelves$Form", name := "widthOf", desc := "(I)I" } : Jvm.MethodName)) ∈ tw := tw_t 745 (by decide +kernel) (by decide +kernel)
theorem tw_746 : (Jvm.Cond.methodLink "SpanShelves" (196 : Nat) ({ cls := "SpanShelves$Span", name := "intAt", desc := "(I)I" } : Jvm.MethodName)) ∈ tw := tw_t 746 (by decide +kernel) (by decide +kernel)
theorem tw_747 : (Jvm.Cond.methodLink "SpanShelves" (199 : Nat) ({ cls := "SpanShelves$Span", name := "longAt", desc := "(I)J" } : Jvm.MethodName)) ∈ tw := tw_t 747 (by decide +kernel) (by decide +kernel)
theorem tw_748 : (Jvm.Cond.instanceMethod ({ cls := "SpanShelves$Span", name := "longAt", desc := "(I)J" } : Jvm.MethodName)) ∈ tw := tw_t 748 (by decide +kernel) (by decide +kernel)
theorem tw_749 : (Jvm.Cond.selects "SpanShelves$Span" ({ cls := "SpanShelves$Span", name := "longAt", desc := "(I)J" } : Jvm.MethodName) ({ cls := "SpanShelves$Span", name := "longAt", desc := "(I)J" } : Jvm.MethodName)) ∈ tw := tw_t 749 (by decide +kernel) (by decide +kernel)
theorem tw_750 : (Jvm.Cond.code ({ cls := "SpanShelves$Span", name := "longAt", desc := "(I)J" } : Jvm.MethodName) prog_7_method_6_code (2 : Nat) (Option.some Jvm.ClassFile.FieldType.long)) ∈ tw := tw_t 750 (by decide +kernel) (by decide +kernel)
theorem tw_760 : (Jvm.Cond.methodLink "SpanShelves" (203 : Nat) ({ cls := "SpanShelves$Reader", name := "countAll", desc := "(LSpanShelves$Span;I)V" } : Jvm.MethodName)) ∈ tw := tw_t 760 (by decide +kernel) (by decide +kernel)
theorem tw_761 : (Jvm.Cond.instanceMethod ({ cls := "SpanShelves$Reader", name := "countAll", desc := "(LSpanShelves$Span;I)V" } : Jvm.MethodName)) ∈ tw := tw_t 761 (by decide +kernel) (by decide +kernel)
theorem tw_762 : (Jvm.Cond.selects "SpanShelves$Reader" ({ cls := "SpanShelves$Reader", name := "countAll", desc := "(LSpanShelves$Span;I)V" } : Jvm.MethodName) ({ cls := "SpanShelves$Reader", name := "countAll", desc := "(LSpanShelves$Span;I)V" } : Jvm.MethodName)) ∈ tw := tw_t 762 (by decide +kernel) (by decide +kernel)
theorem tw_763 : (Jvm.Cond.code ({ cls := "SpanShelves$Reader", name := "countAll", desc := "(LSpanShelves$Span;I)V" } : Jvm.MethodName) prog_4_method_6_code (3 : Nat) (Option.none : Option Jvm.ClassFile.FieldType)) ∈ tw := tw_t 763 (by decide +kernel) (by decide +kernel)
theorem tw_779 : (Jvm.Cond.methodLink "SpanShelves" (228 : Nat) ({ cls := "SpanShelves$Reader", name := "judgeElement", desc := "(LSpanShelves$Span;ZII)V" } : Jvm.MethodName)) ∈ tw := tw_t 779 (by decide +kernel) (by decide +kernel)
theorem tw_780 : (Jvm.Cond.instanceMethod ({ cls := "SpanShelves$Reader", name := "judgeElement", desc := "(LSpanShelves$Span;ZII)V" } : Jvm.MethodName)) ∈ tw := tw_t 780 (by decide +kernel) (by decide +kernel)
theorem tw_781 : (Jvm.Cond.selects "SpanShelves$Reader" ({ cls := "SpanShelves$Reader", name := "judgeElement", desc := "(LSpanShelves$Span;ZII)V" } : Jvm.MethodName) ({ cls := "SpanShelves$Reader", name := "judgeElement", desc := "(LSpanShelves$Span;ZII)V" } : Jvm.MethodName)) ∈ tw := tw_t 781 (by decide +kernel) (by decide +kernel)
theorem tw_782 : (Jvm.Cond.code ({ cls := "SpanShelves$Reader", name := "judgeElement", desc := "(LSpanShelves$Span;ZII)V" } : Jvm.MethodName) prog_4_method_4_code (5 : Nat) (Option.none : Option Jvm.ClassFile.FieldType)) ∈ tw := tw_t 782 (by decide +kernel) (by decide +kernel)
theorem tw_783 : (Jvm.Cond.methodLink "SpanShelves" (232 : Nat) ({ cls := "SpanShelves$Shelf", name := "draftValue", desc := "(ILSpanShelves$Span;II)V" } : Jvm.MethodName)) ∈ tw := tw_t 783 (by decide +kernel) (by decide +kernel)
theorem tw_784 : (Jvm.Cond.instanceMethod ({ cls := "SpanShelves$Shelf", name := "draftValue", desc := "(ILSpanShelves$Span;II)V" } : Jvm.MethodName)) ∈ tw := tw_t 784 (by decide +kernel) (by decide +kernel)
theorem tw_785 : (Jvm.Cond.selects "SpanShelves$Shelf" ({ cls := "SpanShelves$Shelf", name := "draftValue", desc := "(ILSpanShelves$Span;II)V" } : Jvm.MethodName) ({ cls := "SpanShelves$Shelf", name := "draftValue", desc := "(ILSpanShelves$Span;II)V" } : Jvm.MethodName)) ∈ tw := tw_t 785 (by decide +kernel) (by decide +kernel)
theorem tw_786 : (Jvm.Cond.code ({ cls := "SpanShelves$Shelf", name := "draftValue", desc := "(ILSpanShelves$Span;II)V" } : Jvm.MethodName) prog_6_method_10_code (5 : Nat) (Option.none : Option Jvm.ClassFile.FieldType)) ∈ tw := tw_t 786 (by decide +kernel) (by decide +kernel)
theorem tw_813 : (Jvm.Cond.methodLink "SpanShelves" (236 : Nat) ({ cls := "SpanShelves", name := "finishChange", desc := "(II)I" } : Jvm.MethodName)) ∈ tw := tw_t 813 (by decide +kernel) (by decide +kernel)
theorem tw_815 : (Jvm.Cond.instanceMethod ({ cls := "SpanShelves", name := "finishChange", desc := "(II)I" } : Jvm.MethodName)) ∈ tw := tw_t 815 (by decide +kernel) (by decide +kernel)
theorem tw_816 : (Jvm.Cond.code ({ cls := "SpanShelves", name := "finishChange", desc := "(II)I" } : Jvm.MethodName) prog_1_method_40_code (4 : Nat) (Option.some Jvm.ClassFile.FieldType.int)) ∈ tw := tw_t 816 (by decide +kernel) (by decide +kernel)
theorem tw_864 : (Jvm.Cond.methodLink "SpanShelves" (244 : Nat) ({ cls := "SpanShelves$Cursor", name := "isInRow", desc := "()Z" } : Jvm.MethodName)) ∈ tw := tw_t 864 (by decide +kernel) (by decide +kernel)
theorem tw_865 : (Jvm.Cond.methodLink "SpanShelves" (247 : Nat) ({ cls := "SpanShelves$Shelf", name := "startDraft", desc := "()V" } : Jvm.MethodName)) ∈ tw := tw_t 865 (by decide +kernel) (by decide +kernel)
theorem tw_866 : (Jvm.Cond.methodLink "SpanShelves" (250 : Nat) ({ cls := "SpanShelves$Shelf", name := "keepElements", desc := "(II)V" } : Jvm.MethodName)) ∈ tw := tw_t 866 (by decide +kernel) (by decide +kernel)
theorem tw_867 : (Jvm.Cond.methodLink "SpanShelves" (255 : Nat) ({ cls := "SpanShelves$Shelf", name := "addElement", desc := "(ILSpanShelves$Span;ILSpanShelves$Span;II)V" } : Jvm.MethodName)) ∈ tw := tw_t 867 (by decide +kernel) (by decide +kernel)
theorem tw_876 : (Jvm.Cond.methodLink "SpanShelves" (261 : Nat) ({ cls := "SpanShelves$Reader", name := "judgeName", desc := "(LSpanShelves$Span;)V" } : Jvm.MethodName)) ∈ tw := tw_t 876 (by decide +kernel) (by decide +kernel)
theorem tw_877 : (Jvm.Cond.instanceMethod ({ cls := "SpanShelves$Reader", name := "judgeName", desc := "(LSpanShelves$Span;)V" } : Jvm.MethodName)) ∈ tw := tw_t 877 (by decide +kernel) (by decide +kernel)
theorem tw_878 : (Jvm.Cond.selects "SpanShelves$Reader" ({ cls := "SpanShelves$Reader", name := "judgeName", desc := "(LSpanShelves$Span;)V" } : Jvm.MethodName) ({ cls := "SpanShelves$Reader", name := "judgeName", desc := "(LSpanShelves$Span;)V" } : Jvm.MethodName)) ∈ tw := tw_t 878 (by decide +kernel) (by decide +kernel)
theorem tw_879 : (Jvm.Cond.code ({ cls := "SpanShelves$Reader", name := "judgeName", desc := "(LSpanShelves$Span;)V" } : Jvm.MethodName) prog_4_method_3_code (2 : Nat) (Option.none : Option Jvm.ClassFile.FieldType)) ∈ tw := tw_t 879 (by decide +kernel) (by decide +kernel)
theorem tw_880 : (Jvm.Cond.methodLink "SpanShelves" (264 : Nat) ({ cls := "SpanShelves$Shelf", name := "valueEnd", desc := "()I" } : Jvm.MethodName)) ∈ tw := tw_t 880 (by decide +kernel) (by decide +kernel)
theorem tw_881 : (Jvm.Cond.instanceMethod ({ cls := "SpanShelves$Shelf", name := "valueEnd", desc := "()I" } : Jvm.MethodName)) ∈ tw := tw_t 881 (by decide +kernel) (by decide +kernel)
theorem tw_882 : (Jvm.Cond.selects "SpanShelves$Shelf" ({ cls := "SpanShelves$Shelf", name := "valueEnd", desc := "()I" } : Jvm.MethodName) ({ cls := "SpanShelves$Shelf", name := "valueEnd", desc := "()I" } : Jvm.MethodName)) ∈ tw := tw_t 882 (by decide +kernel) (by decide +kernel)
theorem tw_883 : (Jvm.Cond.code ({ cls := "SpanShelves$Shelf", name := "valueEnd", desc := "()I" } : Jvm.MethodName) prog_6_method_6_code (1 : Nat) (Option.some Jvm.ClassFile.FieldType.int)) ∈ tw := tw_t 883 (by decide +kernel) (by decide +kernel)
theorem tw_898 : (Jvm.Cond.methodLink "SpanShelves" (267 : Nat) ({ cls := "java/lang/Math", name := "min", desc := "(II)I" } : Jvm.MethodName)) ∈ tw := tw_t 898 (by decide +kernel) (by decide +kernel)
theorem tw_899 : (Jvm.Cond.methodLink "SpanShelves" (272 : Nat) ({ cls := "java/lang/Math", name := "max", desc := "(II)I" } : Jvm.MethodName)) ∈ tw := tw_t 899 (by decide +kernel) (by decide +kernel)
theorem tw_907 : (Jvm.Cond.methodLink "SpanShelves" (275 : Nat) ({ cls := "SpanShelves$Reader", name := "levelsIn", desc := "(LSpanShelves$Span;II)I" } : Jvm.MethodName)) ∈ tw := tw_t 907 (by decide +kernel) (by decide +kernel)
theorem tw_908 : (Jvm.Cond.instanceMethod ({ cls := "SpanShelves$Reader", name := "levelsIn", desc := "(LSpanShelves$Span;II)I" } : Jvm.MethodName)) ∈ tw := tw_t 908 (by decide +kernel) (by decide +kernel)
theorem tw_909 : (Jvm.Cond.selects "SpanShelves$Reader" ({ cls := "SpanShelves$Reader", name := "levelsIn", desc := "(LSpanShelves$Span;II)I" } : Jvm.MethodName) ({ cls := "SpanShelves$Reader", name := "levelsIn", desc := "(LSpanShelves$Span;II)I" } : Jvm.MethodName)) ∈ tw := tw_t 909 (by decide +kernel) (by decide +kernel)
theorem tw_910 : (Jvm.Cond.code ({ cls := "SpanShelves$Reader", name := "levelsIn", desc := "(LSpanShelves$Span;II)I" } : Jvm.MethodName) prog_4_method_7_code (4 : Nat) (Option.some Jvm.ClassFile.FieldType.int)) ∈ tw := tw_t 910 (by decide +kernel) (by decide +kernel)
theorem tw_925 : (Jvm.Cond.methodLink "SpanShelves" (293 : Nat) ({ cls := "SpanShelves", name := "refuseNothingOpen", desc := "()V" } : Jvm.MethodName)) ∈ tw := tw_t 925 (by decide +kernel) (by decide +kernel)
theorem tw_927 : (Jvm.Cond.instanceMethod ({ cls := "SpanShelves", name := "refuseNothingOpen", desc := "()V" } : Jvm.MethodName)) ∈ tw := tw_t 927 (by decide +kernel) (by decide +kernel)
theorem tw_928 : (Jvm.Cond.code ({ cls := "SpanShelves", name := "refuseNothingOpen", desc := "()V" } : Jvm.MethodName) prog_1_method_37_code (1 : Nat) (Option.none : Option Jvm.ClassFile.FieldType)) ∈ tw := tw_t 928 (by decide +kernel) (by decide +kernel)
theorem tw_930 : (Jvm.Cond.methodLink "SpanShelves" (296 : Nat) ({ cls := "SpanShelves$Sheet", name := "isInRow", desc := "()Z" } : Jvm.MethodName)) ∈ tw := tw_t 930 (by decide +kernel) (by decide +kernel)
theorem tw_934 : (Jvm.Cond.methodLink "SpanShelves" (300 : Nat) ({ cls := "SpanShelves$Sheet", name := "addElement", desc := "(ILSpanShelves$Span;I)Z" } : Jvm.MethodName)) ∈ tw := tw_t 934 (by decide +kernel) (by decide +kernel)
theorem tw_935 : (Jvm.Cond.instanceMethod ({ cls := "SpanShelves$Sheet", name := "addElement", desc := "(ILSpanShelves$Span;I)Z" } : Jvm.MethodName)) ∈ tw := tw_t 935 (by decide +kernel) (by decide +kernel)
theorem tw_936 : (Jvm.Cond.selects "SpanShelves$Sheet" ({ cls := "SpanShelves$Sheet", name := "addElement", desc := "(ILSpanShelves$Span;I)Z" } : Jvm.MethodName) ({ cls := "SpanShelves$Sheet", name := "addElement", desc := "(ILSpanShelves$Span;I)Z" } : Jvm.MethodName)) ∈ tw := tw_t 936 (by decide +kernel) (by decide +kernel)
theorem tw_937 : (Jvm.Cond.code ({ cls := "SpanShelves$Sheet", name := "addElement", desc := "(ILSpanShelves$Span;I)Z" } : Jvm.MethodName) prog_5_method_10_code (4 : Nat) (Option.some Jvm.ClassFile.FieldType.boolean)) ∈ tw := tw_t 937 (by decide +kernel) (by decide +kernel)
theorem tw_964 : (Jvm.Cond.methodLink "SpanShelves" (309 : Nat) ({ cls := "SpanShelves$Reader", name := "judgeOpening", desc := "(LSpanShelves$Span;ZII)V" } : Jvm.MethodName)) ∈ tw := tw_t 964 (by decide +kernel) (by decide +kernel)
theorem tw_965 : (Jvm.Cond.instanceMethod ({ cls := "SpanShelves$Reader", name := "judgeOpening", desc := "(LSpanShelves$Span;ZII)V" } : Jvm.MethodName)) ∈ tw := tw_t 965 (by decide +kernel) (by decide +kernel)
theorem tw_966 : (Jvm.Cond.selects "SpanShelves$Reader" ({ cls := "SpanShelves$Reader", name := "judgeOpening", desc := "(LSpanShelves$Span;ZII)V" } : Jvm.MethodName) ({ cls := "SpanShelves$Reader", name := "judgeOpening", desc := "(LSpanShelves$Span;ZII)V" } : Jvm.MethodName)) ∈ tw := tw_t 966 (by decide +kernel) (by decide +kernel)
theorem tw_967 : (Jvm.Cond.code ({ cls := "SpanShelves$Reader", name := "judgeOpening", desc := "(LSpanShelves$Span;ZII)V" } : Jvm.MethodName) prog_4_method_5_code (5 : Nat) (Option.none : Option Jvm.ClassFile.FieldType)) ∈ tw := tw_t 967 (by decide +kernel) (by decide +kernel)
theorem tw_969 : (Jvm.Cond.methodLink "SpanShelves" (312 : Nat) ({ cls := "SpanShelves$Sheet", name := "openElement", desc := "(ILSpanShelves$Span;I)Z" } : Jvm.MethodName)) ∈ tw := tw_t 969 (by decide +kernel) (by decide +kernel)
theorem tw_970 : (Jvm.Cond.instanceMethod ({ cls := "SpanShelves$Sheet", name := "openElement", desc := "(ILSpanShelves$Span;I)Z" } : Jvm.MethodName)) ∈ tw := tw_t 970 (by decide +kernel) (by decide +kernel)
theorem tw_971 : (Jvm.Cond.selects "SpanShelves$Sheet" ({ cls := "SpanShelves$Sheet", name := "openElement", desc := "(ILSpanShelves$Span;I)Z" } : Jvm.MethodName) ({ cls := "SpanShelves$Sheet", name := "openElement", desc := "(ILSpanShelves$Span;I)Z" } : Jvm.MethodName)) ∈ tw := tw_t 971 (by decide +kernel) (by decide +kernel)
theorem tw_972 : (Jvm.Cond.code ({ cls := "SpanShelves$Sheet", name := "openElement", desc := "(ILSpanShelves$Span;I)Z" } : Jvm.MethodName) prog_5_method_11_code (7 : Nat) (Option.some Jvm.ClassFile.FieldType.boolean)) ∈ tw := tw_t 972 (by decide +kernel) (by decide +kernel)
theorem tw_980 : (Jvm.Cond.methodLink "SpanShelves" (315 : Nat) ({ cls := "SpanShelves$Sheet", name := "closeInnermost", desc := "()V" } : Jvm.MethodName)) ∈ tw := tw_t 980 (by decide +kernel) (by decide +kernel)
theorem tw_981 : (Jvm.Cond.instanceMethod ({ cls := "SpanShelves$Sheet", name := "closeInnermost", desc := "()V" } : Jvm.MethodName)) ∈ tw := tw_t 981 (by decide +kernel) (by decide +kernel)
theorem tw_982 : (Jvm.Cond.selects "SpanShelves$Sheet" ({ cls := "SpanShelves$Sheet", name := "closeInnermost", desc := "()V" } : Jvm.MethodName) ({ cls := "SpanShelves$Sheet", name := "closeInnermost", desc := "()V" } : Jvm.MethodName)) ∈ tw := tw_t 982 (by decide +kernel) (by decide +kernel)
theorem tw_983 : (Jvm.Cond.code ({ cls := "SpanShelves$Sheet", name := "closeInnermost", desc := "()V" } : Jvm.MethodName) prog_5_method_13_code (1 : Nat) (Option.none : Option Jvm.ClassFile.FieldType)) ∈ tw := tw_t 983 (by decide +kernel) (by decide +kernel)
theorem tw_993 : (Jvm.Cond.methodLink "SpanShelves" (324 : Nat) ({ cls := "SpanShelves$Sheet", name := "takeAway", desc := "()V" } : Jvm.MethodName)) ∈ tw := tw_t 993 (by decide +kernel) (by decide +kernel)
theorem twp_20 : (Jvm.Cond.selects "SpanShelves" ({ cls := "SpanShelves", name := "finishChange", desc := "(II)I" } : Jvm.MethodName) ({ cls := "SpanShelves", name := "finishChange", desc := "(II)I" } : Jvm.MethodName)) ∈ tw := tw_p 20 (q := (({ cls := "SpanShelves", name := "finishChange", desc := "(II)I" } : Jvm.MethodName), 10)) (by decide +kernel) (by decide +kernel)
theorem twp_21 : (Jvm.Cond.selects "SpanShelves" ({ cls := "SpanShelves", name := "refuseNothingOpen", desc := "()V" } : Jvm.MethodName) ({ cls := "SpanShelves", name := "refuseNothingOpen", desc := "()V" } : Jvm.MethodName)) ∈ tw := tw_p 21 (q := (({ cls := "SpanShelves", name := "refuseNothingOpen", desc := "()V" } : Jvm.MethodName), 10)) (by decide +kernel) (by decide +kernel)
theorem fl_X6_21 : FL RX6 21 5 2 := ⟨by decide, RX6, TX6, 10, tyX6, rfl, by decide, rfl, iw_X6, tyX6_ok, nmX6, Or.inl tw_288⟩
theorem fl_X6_207 : FL RX6 207 1 4 := ⟨by decide, RX2, TX2, 12, tyX2, rfl, by decide, rfl, iw_X2, tyX2_ok, nmX2, Or.inr ⟨_, tw_69⟩⟩
theorem fl_X6_210 : FL RX6 210 1 5 := ⟨by decide, RX2, TX2, 12, tyX2, rfl, by decide, rfl, iw_X2, tyX2_ok, nmX2, Or.inr ⟨_, tw_71⟩⟩
theorem fl_X6_213 : FL RX6 213 1 6 := ⟨by decide, RX2, TX2, 12, tyX2, rfl, by decide, rfl, iw_X2, tyX2_ok, nmX2, Or.inr ⟨_, tw_73⟩⟩
theorem fl_X6_216 : FL RX6 216 1 7 := ⟨by decide, RX2, TX2, 12, tyX2, rfl, by decide, rfl, iw_X2, tyX2_ok, nmX2, Or.inr ⟨_, tw_75⟩⟩
theorem fl_X6_219 : FL RX6 219 1 8 := ⟨by decide, RX2, TX2, 12, tyX2, rfl, by decide, rfl, iw_X2, tyX2_ok, nmX2, Or.inr ⟨_, tw_77⟩⟩
theorem fl_X6_222 : FL RX6 222 1 9 := ⟨by decide, RX2, TX2, 12, tyX2, rfl, by decide, rfl, iw_X2, tyX2_ok, nmX2, Or.inr ⟨_, tw_79⟩⟩
theorem fl_X6_225 : FL RX6 225 1 11 := ⟨by decide, RX2, TX2, 12, tyX2, rfl, by decide, rfl, iw_X2, tyX2_ok, nmX2, Or.inr ⟨_, tw_82⟩⟩
theorem fl_X6_253 : FL RX6 253 1 3 := ⟨by decide, RX2, TX2, 12, tyX2, rfl, by decide, rfl, iw_X2, tyX2_ok, nmX2, Or.inr ⟨_, tw_67⟩⟩
theorem fl_X6_281 : FL RX6 281 3 4 := ⟨by decide, RX4, TX4, 7, tyX4, rfl, by decide, rfl, iw_X4, tyX4_ok, nmX4, Or.inr ⟨_, tw_203⟩⟩
theorem fl_X6_284 : FL RX6 284 3 5 := ⟨by decide, RX4, TX4, 7, tyX4, rfl, by decide, rfl, iw_X4, tyX4_ok, nmX4, Or.inr ⟨_, tw_205⟩⟩
theorem fl_X6_287 : FL RX6 287 3 6 := ⟨by decide, RX4, TX4, 7, tyX4, rfl, by decide, rfl, iw_X4, tyX4_ok, nmX4, Or.inr ⟨_, tw_207⟩⟩
theorem fl_X6_318 : FL RX6 318 2 6 := ⟨by decide, RX3, TX3, 7, tyX3, rfl, by decide, rfl, iw_X3, tyX3_ok, nmX3, Or.inr ⟨_, tw_162⟩⟩
theorem mm_X1_isNumber : MS yX1_isNumber cX1_isNumber 1 (some .boolean) 1 := ⟨tw_722, tw_723, tw_9, by decide +kernel, by decide +kernel, by decide +kernel⟩
theorem mm_X2_countAll : MM 1 yX2_countAll cX2_countAll 3 none 2 := ⟨by decide, RX2, TX2, 12, rfl, tw_761, tw_762, tw_763, tw_4, by decide +kernel, by decide +kernel, by decide +kernel⟩
theorem mm_X2_judgeElement : MM 1 yX2_judgeElement cX2_judgeElement 5 none 4 := ⟨by decide, RX2, TX2, 12, rfl, tw_780, tw_781, tw_782, tw_4, by decide +kernel, by decide +kernel, by decide +kernel⟩
theorem mm_X2_judgeName : MM 1 yX2_judgeName cX2_judgeName 2 none 1 := ⟨by decide, RX2, TX2, 12, rfl, tw_877, tw_878, tw_879, tw_4, by decide +kernel, by decide +kernel, by decide +kernel⟩
theorem mm_X2_judgeOpening : MM 1 yX2_judgeOpening cX2_judgeOpening 5 none 4 := ⟨by decide, RX2, TX2, 12, rfl, tw_965, tw_966, tw_967, tw_4, by decide +kernel, by decide +kernel, by decide +kernel⟩
theorem mm_X2_levelsIn : MM 1 yX2_levelsIn cX2_levelsIn 4 (some .int) 3 := ⟨by decide, RX2, TX2, 12, rfl, tw_908, tw_909, tw_910, tw_4, by decide +kernel, by decide +kernel, by decide +kernel⟩
theorem mm_X3_addElement : MM 2 yX3_addElement cX3_addElement 4 (some .boolean) 3 := ⟨by decide, RX3, TX3, 7, rfl, tw_935, tw_936, tw_937, tw_6, by decide +kernel, by decide +kernel, by decide +kernel⟩
theorem mm_X3_closeInnermost : MM 2 yX3_closeInnermost cX3_closeInnermost 1 none 0 := ⟨by decide, RX3, TX3, 7, rfl, tw_981, tw_982, tw_983, tw_6, by decide +kernel, by decide +kernel, by decide +kernel⟩
theorem mm_X3_openElement : MM 2 yX3_openElement cX3_openElement 7 (some .boolean) 3 := ⟨by decide, RX3, TX3, 7, rfl, tw_970, tw_971, tw_972, tw_6, by decide +kernel, by decide +kernel, by decide +kernel⟩
theorem mm_X4_draftValue : MM 3 yX4_draftValue cX4_draftValue 5 none 4 := ⟨by decide, RX4, TX4, 7, rfl, tw_784, tw_785, tw_786, tw_7, by decide +kernel, by decide +kernel, by decide +kernel⟩
theorem mm_X4_elementType : MM 3 yX4_elementType cX4_elementType 1 (some .int) 0 := ⟨by decide, RX4, TX4, 7, rfl, tw_716, tw_717, tw_718, tw_7, by decide +kernel, by decide +kernel, by decide +kernel⟩
theorem mm_X4_valueEnd : MM 3 yX4_valueEnd cX4_valueEnd 1 (some .int) 0 := ⟨by decide, RX4, TX4, 7, rfl, tw_881, tw_882, tw_883, tw_7, by decide +kernel, by decide +kernel, by decide +kernel⟩
theorem mm_X4_valuePlace : MM 3 yX4_valuePlace cX4_valuePlace 1 (some .int) 0 := ⟨by decide, RX4, TX4, 7, rfl, tw_741, tw_742, tw_743, tw_7, by decide +kernel, by decide +kernel, by decide +kernel⟩
theorem mm_X5_longAt : MM 4 yX5_longAt cX5_longAt 2 (some .long) 1 := ⟨by decide, RX5, TX5, 3, rfl, tw_748, tw_749, tw_750, tw_2, by decide +kernel, by decide +kernel, by decide +kernel⟩
theorem mm_X6_finishChange : MM 5 yX6_finishChange cX6_finishChange 4 (some .int) 2 := ⟨by decide, RX6, TX6, 10, rfl, tw_815, twp_20, tw_816, tw_1, by decide +kernel, by decide +kernel, by decide +kernel⟩
theorem mm_X6_refuseNoElement : MS yX6_refuseNoElement cX6_refuseNoElement 1 none 1 := ⟨tw_697, tw_698, tw_1, by decide +kernel, by decide +kernel, by decide +kernel⟩
theorem mm_X6_refuseNothingOpen : MM 5 yX6_refuseNothingOpen cX6_refuseNothingOpen 1 none 0 := ⟨by decide, RX6, TX6, 10, rfl, tw_927, twp_21, tw_928, tw_1, by decide +kernel, by decide +kernel, by decide +kernel⟩
theorem dX6_number_0 : decode cX6_number 0 = .ok (.aload_n 0, 1) := by decide +kernel
theorem dX6_number_1 : decode cX6_number 1 = .ok (.iload_n 1, 1) := by decide +kernel
theorem dX6_number_2 : decode cX6_number 2 = .ok (.invokevirtual 95, 3) := by decide +kernel
theorem dX6_number_5 : decode cX6_number 5 = .ok (.astore_n 2, 1) := by decide +kernel
theorem dX6_number_6 : decode cX6_number 6 = .ok (.aload_n 2, 1) := by decide +kernel
theorem dX6_number_7 : decode cX6_number 7 = .ok (.invokestatic 173, 3) := by decide +kernel
theorem dX6_number_10 : decode cX6_number 10 = .ok (.aload_n 2, 1) := by decide +kernel
theorem dX6_number_11 : decode cX6_number 11 = .ok (.invokevirtual 177, 3) := by decide +kernel
theorem dX6_number_14 : decode cX6_number 14 = .ok (.istore_n 3, 1) := by decide +kernel
theorem dX6_number_15 : decode cX6_number 15 = .ok (.iload_n 3, 1) := by decide +kernel
theorem dX6_number_16 : decode cX6_number 16 = .ok (.invokestatic 180, 3) := by decide +kernel
theorem dX6_number_19 : decode cX6_number 19 = .ok (.ifCond .ne 13, 3) := by decide +kernel
theorem dX6_number_22 : decode cX6_number 22 = .ok (.new 183, 3) := by decide +kernel
theorem dX6_number_25 : decode cX6_number 25 = .ok (.dup, 1) := by decide +kernel
theorem dX6_number_26 : decode cX6_number 26 = .ok (.ldc 185, 2) := by decide +kernel
theorem dX6_number_28 : decode cX6_number 28 = .ok (.invokespecial 187, 3) := by decide +kernel
theorem dX6_number_31 : decode cX6_number 31 = .ok (.athrow, 1) := by decide +kernel
theorem dX6_number_32 : decode cX6_number 32 = .ok (.aload_n 2, 1) := by decide +kernel
theorem dX6_number_33 : decode cX6_number 33 = .ok (.invokevirtual 190, 3) := by decide +kernel
theorem dX6_number_36 : decode cX6_number 36 = .ok (.istore 4, 2) := by decide +kernel
theorem dX6_number_38 : decode cX6_number 38 = .ok (.iload_n 3, 1) := by decide +kernel
theorem dX6_number_39 : decode cX6_number 39 = .ok (.invokestatic 193, 3) := by decide +kernel
theorem dX6_number_42 : decode cX6_number 42 = .ok (.lookupswitch 48 #[(1, 26), (4, 37)], 26) := by decide +kernel
theorem dX6_number_68 : decode cX6_number 68 = .ok (.aload_n 2, 1) := by decide +kernel
theorem dX6_number_69 : decode cX6_number 69 = .ok (.getfield 102, 3) := by decide +kernel
theorem dX6_number_72 : decode cX6_number 72 = .ok (.iload 4, 2) := by decide +kernel
theorem dX6_number_74 : decode cX6_number 74 = .ok (.invokevirtual 160, 3) := by decide +kernel
theorem dX6_number_77 : decode cX6_number 77 = .ok (.i2l, 1) := by decide +kernel
theorem dX6_number_78 : decode cX6_number 78 = .ok (.lreturn, 1) := by decide +kernel
theorem dX6_number_79 : decode cX6_number 79 = .ok (.aload_n 2, 1) := by decide +kernel
theorem dX6_number_80 : decode cX6_number 80 = .ok (.getfield 102, 3) := by decide +kernel
theorem dX6_number_83 : decode cX6_number 83 = .ok (.iload 4, 2) := by decide +kernel
theorem dX6_number_85 : decode cX6_number 85 = .ok (.invokevirtual 196, 3) := by decide +kernel
theorem dX6_number_88 : decode cX6_number 88 = .ok (.i2l, 1) := by decide +kernel
theorem dX6_number_89 : decode cX6_number 89 = .ok (.lreturn, 1) := by decide +kernel
theorem dX6_number_90 : decode cX6_number 90 = .ok (.aload_n 2, 1) := by decide +kernel
theorem dX6_number_91 : decode cX6_number 91 = .ok (.getfield 102, 3) := by decide +kernel
theorem dX6_number_94 : decode cX6_number 94 = .ok (.iload 4, 2) := by decide +kernel
theorem dX6_number_96 : decode cX6_number 96 = .ok (.invokevirtual 199, 3) := by decide +kernel
theorem dX6_number_99 : decode cX6_number 99 = .ok (.lreturn, 1) := by decide +kernel
abbrev rm_X6_number : Room := { frames := 7, cells := 3, slots := 18, locals := 121 }
def f_X6_number (cy : Nat → ClassId) (a0 : Nat) (a1 : Int32) (μ : Mem) : Option ((String × Mem) ⊕ (Int64 × Mem)) :=
  if isO μ a0 5 = true then (obX2 (f_X6_shelfOf cy a0 a1 μ) fun q6 μ3 => obX (f_X6_refuseNoElement cy q6 μ3) fun μ8 => if isO μ8 q6 3 = true then (ob2 (f_X4_elementType cy q6 μ8) fun r14 μ13 => ob2 (f_X1_isNumber cy r14 μ13) fun r17 μ16 => if r17 = 0 then (some (.inl ("java/lang/IllegalStateException", μ16))) else if isO μ16 q6 3 = true then (ob2 (f_X4_valuePlace cy q6 μ16) fun r22 μ21 => ob2 (f_X1_widthOf cy r14 μ21) fun r25 μ24 => if r25 = 1 then ((rdR μ24 q6 3 0).bind fun q27 => if isO μ24 q27 4 = true then (ob2 (f_X5_at cy q27 r22 μ24) fun r32 μ31 => some (.inr ((Int32.toInt64 r32), μ31))) else none) else if r25 = 4 then ((rdR μ24 q6 3 0).bind fun q34 => if isO μ24 q34 4 = true then (ob2 (f_X5_intAt cy q34 r22 μ24) fun r39 μ38 => some (.inr ((Int32.toInt64 r39), μ38))) else none) else if Op.lookupswitch.offset [((1 : Int), (26 : Int)), ((4 : Int), (37 : Int))] 48 (Int32.toInt r25) = 48 then ((rdR μ24 q6 3 0).bind fun q41 => if isO μ24 q41 4 = true then (ob2 (f_X5_longAt cy q41 r22 μ24) fun r46 μ45 => some (.inr (r46, μ45))) else none) else none) else none) else none) else none
set_option maxRecDepth 100000 in
set_option maxHeartbeats 4000000 in
theorem c_X6_number {l : Launch} {g : Wg} {L : List Nat} {μ : Mem} {a0 : Nat} {a1 : Int32} {res : ((String × Mem) ⊕ (Int64 × Mem))} (hl0 : l.stackTraces = false) (hf : f_X6_number g.2 a0 a1 μ = some res) : MetX l yX6_number cX6_number 5 (some .long) rm_X6_number g L μ [.ref a0, .int a1] (rvL res) := by
  refine pw_metX (by decide) (Nat.le_of_ble_eq_true rfl) ?_
  intro p e s m args below meth c A ls H locs hC hr hlocks hl hw hX hno
  have hx := hC.1
  have hb := hC.2.1
  have hl : lv_has ls 5 [(0, .ref a0), (1, .int a1)] := hl
  unfold f_X6_number at hf
  refine lv_aload_n hx hb dX6_number_0 rfl (lv_at hl 0 rfl) ?_
  refine lv_iload_n hx hb dX6_number_1 rfl (lv_at hl 1 rfl) ?_
  obtain ⟨h2, hf⟩ := o_ite hf
  rcases o_bindX2 hf with ⟨er4, h1, rfl⟩ | ⟨q6, μ3, h1, hf⟩
  · exact pw_thru hw hno hlocks (pw_runVX (As := [.int a1]) (rest := []) hC mm_X6_shelfOf tw_429 (c_X6_shelfOf hl0 h1) ⟨by decide, by decide⟩ hw hX h2 rfl hl.1 (Nat.le_of_ble_eq_true rfl) ⟨by decide, by decide⟩ rfl dX6_number_2) (by decide) (by decide)
  · refine pw_goX hw (pw_runVX (As := [.int a1]) (rest := []) hC mm_X6_shelfOf tw_429 (c_X6_shelfOf hl0 h1) ⟨by decide, by decide⟩ hw hX h2 rfl hl.1 (Nat.le_of_ble_eq_true rfl) ⟨by decide, by decide⟩ rfl dX6_number_2) (fun H locs hw => ?_)
    refine W.eq (g2 := F0 m 5 ls [.ref q6]) rfl ?_
    refine W.widen (k := 1) (n := 6) (by decide) (by decide) ?_
    refine lv_astore_n (lv' := [(2, .ref q6), (0, .ref a0), (1, .int a1)]) hx hb dX6_number_5 rfl hl (by decide) rfl (fun ls hl => ?_)
    refine lv_aload_n hx hb dX6_number_6 rfl (lv_at hl 0 rfl) ?_
    rcases o_bindX hf with ⟨er9, h7, rfl⟩ | ⟨μ8, h7, hf⟩
    · exact pw_thru hw hno hlocks (pw_runSX (As := [.ref q6]) (rest := []) hC mm_X6_refuseNoElement tw_696 (c_X6_refuseNoElement hl0 h7) ⟨by decide, by decide⟩ hw hX rfl hl.1 (Nat.le_of_ble_eq_true rfl) ⟨by decide, by decide⟩ rfl dX6_number_7) (by decide) (by decide)
    · refine pw_goX hw (pw_runSX (As := [.ref q6]) (rest := []) hC mm_X6_refuseNoElement tw_696 (c_X6_refuseNoElement hl0 h7) ⟨by decide, by decide⟩ hw hX rfl hl.1 (Nat.le_of_ble_eq_true rfl) ⟨by decide, by decide⟩ rfl dX6_number_7) (fun H locs hw => ?_)
      refine W.eq (g2 := F0 m 10 ls []) rfl ?_
      refine W.widen (k := 2) (n := 12) (by decide) (by decide) ?_
      refine lv_aload_n hx hb dX6_number_10 rfl (lv_at hl 0 rfl) ?_
      obtain ⟨h12, hf⟩ := o_ite hf
      obtain ⟨r14, μ13, h11, hf⟩ := o_bind2 hf
      refine pw_goI hw (pw_runV (As := []) (rest := []) hC mm_X4_elementType tw_715 (c_X4_elementType h11 _) ⟨rfl, rfl, by decide, by decide⟩ hw h12 rfl hl.1 (Nat.le_of_ble_eq_true rfl) ⟨by decide, by decide⟩ rfl dX6_number_11) (fun H locs hw => ?_)
      refine lv_istore_n (lv' := [(3, .int r14), (2, .ref q6), (0, .ref a0), (1, .int a1)]) hx hb dX6_number_14 rfl hl (by decide) rfl (fun ls hl => ?_)
      refine lv_iload_n hx hb dX6_number_15 rfl (lv_at hl 0 rfl) ?_
      obtain ⟨r17, μ16, h15, hf⟩ := o_bind2 hf
      refine pw_goI hw (pw_runS (As := [.int r14]) (rest := []) hC mm_X1_isNumber tw_721 (c_X1_isNumber h15 _) ⟨rfl, rfl, by decide, by decide⟩ hw rfl hl.1 (Nat.le_of_ble_eq_true rfl) ⟨by decide, by decide⟩ rfl dX6_number_16) (fun H locs hw => ?_)
      refine lv_if_ne (tgt := 32) hx hb dX6_number_19 (by decide) (fun c18 => ?_) (fun c18 => ?_)
      · have hf := o_neg c18 hf
        refine lv_aload_n hx hb dX6_number_32 rfl (lv_at hl 1 rfl) ?_
        obtain ⟨h20, hf⟩ := o_ite hf
        obtain ⟨r22, μ21, h19, hf⟩ := o_bind2 hf
        refine pw_goI hw (pw_runV (As := []) (rest := []) hC mm_X4_valuePlace tw_740 (c_X4_valuePlace h19 _) ⟨rfl, rfl, by decide, by decide⟩ hw h20 rfl hl.1 (Nat.le_of_ble_eq_true rfl) ⟨by decide, by decide⟩ rfl dX6_number_33) (fun H locs hw => ?_)
        refine lv_istore (lv' := [(4, .int r22), (3, .int r14), (2, .ref q6), (0, .ref a0), (1, .int a1)]) hx hb dX6_number_36 hl (by decide) rfl (fun ls hl => ?_)
        refine lv_iload_n hx hb dX6_number_38 rfl (lv_at hl 1 rfl) ?_
        obtain ⟨r25, μ24, h23, hf⟩ := o_bind2 hf
        refine pw_goI hw (pw_runS (As := [.int r14]) (rest := []) hC mm_X1_widthOf tw_745 (c_X1_widthOf h23 _) ⟨rfl, rfl, by decide, by decide⟩ hw rfl hl.1 (Nat.le_of_ble_eq_true rfl) ⟨by decide, by decide⟩ rfl dX6_number_39) (fun H locs hw => ?_)
        rcases o_if hf with ⟨c26, hf⟩ | ⟨-, hf⟩
        · refine lv_lookup (off := 26) (tgt := 68) hx hb dX6_number_42 (by decide) (by rw [c26]; decide) (by decide) ?_
          refine lv_aload_n hx hb dX6_number_68 rfl (lv_at hl 2 rfl) ?_
          obtain ⟨q27, h28, hf⟩ := o_bind hf
          refine pw_get hC fl_X6_102 hw (rdR_F h28) dX6_number_69 ?_
          refine lv_iload hx hb dX6_number_72 (lv_at hl 0 rfl) ?_
          obtain ⟨h30, hf⟩ := o_ite hf
          obtain ⟨r32, μ31, h29, hf⟩ := o_bind2 hf
          refine pw_goI hw (pw_runV (As := [.int r22]) (rest := []) hC mm_X5_at tw_537 (c_X5_at h29 _) ⟨rfl, rfl, by decide, by decide⟩ hw h30 rfl hl.1 (Nat.le_of_ble_eq_true rfl) ⟨by decide, by decide⟩ rfl dX6_number_74) (fun H locs hw => ?_)
          refine lv_i2l hx hb dX6_number_77 rfl ?_
          obtain rfl := o_retv hf
          exact pw_xlret hC hr hlocks (by decide) (by decide) hw dX6_number_78
        · rcases o_if hf with ⟨c33, hf⟩ | ⟨-, hf⟩
          · refine lv_lookup (off := 37) (tgt := 79) hx hb dX6_number_42 (by decide) (by rw [c33]; decide) (by decide) ?_
            refine lv_aload_n hx hb dX6_number_79 rfl (lv_at hl 2 rfl) ?_
            obtain ⟨q34, h35, hf⟩ := o_bind hf
            refine pw_get hC fl_X6_102 hw (rdR_F h35) dX6_number_80 ?_
            refine lv_iload hx hb dX6_number_83 (lv_at hl 0 rfl) ?_
            obtain ⟨h37, hf⟩ := o_ite hf
            obtain ⟨r39, μ38, h36, hf⟩ := o_bind2 hf
            refine pw_goI hw (pw_runV (As := [.int r22]) (rest := []) hC mm_X5_intAt tw_746 (c_X5_intAt h36 _) ⟨rfl, rfl, by decide, by decide⟩ hw h37 rfl hl.1 (Nat.le_of_ble_eq_true rfl) ⟨by decide, by decide⟩ rfl dX6_number_85) (fun H locs hw => ?_)
            refine lv_i2l hx hb dX6_number_88 rfl ?_
            obtain rfl := o_retv hf
            exact pw_xlret hC hr hlocks (by decide) (by decide) hw dX6_number_89
          · obtain ⟨c40, hf⟩ := o_ite hf
            refine lv_lookup (off := 48) (tgt := 90) hx hb dX6_number_42 (by decide) c40 (by decide) ?_
            refine lv_aload_n hx hb dX6_number_90 rfl (lv_at hl 2 rfl) ?_
            obtain ⟨q41, h42, hf⟩ := o_bind hf
            refine pw_get hC fl_X6_102 hw (rdR_F h42) dX6_number_91 ?_
            refine lv_iload hx hb dX6_number_94 (lv_at hl 0 rfl) ?_
            obtain ⟨h44, hf⟩ := o_ite hf
            obtain ⟨r46, μ45, h43, hf⟩ := o_bind2 hf
            refine pw_goL hw (pw_runV (As := [.int r22]) (rest := []) hC mm_X5_longAt tw_747 (c_X5_longAt h43 _) ⟨rfl, rfl, by decide, by decide⟩ hw h44 rfl hl.1 (Nat.le_of_ble_eq_true rfl) ⟨by decide, by decide⟩ rfl dX6_number_96) (fun H locs hw => ?_)
            obtain rfl := o_retv hf
            exact pw_xlret hC hr hlocks (by decide) (by decide) hw dX6_number_99
      · have hf := o_pos c18 hf
        obtain rfl := o_retv hf
        exact pw_thrS (text := "the element's value is no number") hC hl0 hw hX hno hlocks rfl tws_X6_183 (by decide) hl.1 dX6_number_22 dX6_number_25 dX6_number_26 dX6_number_28 dX6_number_31 (by decide) (Nat.le_of_ble_eq_true rfl) (by decide) (by decide) (by decide) (by decide)
theorem dX6_total_0 : decode cX6_total 0 = .ok (.aload_n 0, 1) := by decide +kernel
theorem dX6_total_1 : decode cX6_total 1 = .ok (.getfield 27, 3) := by decide +kernel
theorem dX6_total_4 : decode cX6_total 4 = .ok (.aload_n 0, 1) := by decide +kernel
theorem dX6_total_5 : decode cX6_total 5 = .ok (.iload_n 1, 1) := by decide +kernel
theorem dX6_total_6 : decode cX6_total 6 = .ok (.invokevirtual 95, 3) := by decide +kernel
theorem dX6_total_9 : decode cX6_total 9 = .ok (.getfield 102, 3) := by decide +kernel
theorem dX6_total_12 : decode cX6_total 12 = .ok (.iconst (-1), 1) := by decide +kernel
theorem dX6_total_13 : decode cX6_total 13 = .ok (.invokevirtual 203, 3) := by decide +kernel
theorem dX6_total_16 : decode cX6_total 16 = .ok (.iload_n 2, 1) := by decide +kernel
theorem dX6_total_17 : decode cX6_total 17 = .ok (.tableswitch 87 0 5 #[39, 47, 55, 63, 71, 79], 39) := by decide +kernel
theorem dX6_total_56 : decode cX6_total 56 = .ok (.aload_n 0, 1) := by decide +kernel
theorem dX6_total_57 : decode cX6_total 57 = .ok (.getfield 27, 3) := by decide +kernel
theorem dX6_total_60 : decode cX6_total 60 = .ok (.getfield 207, 3) := by decide +kernel
theorem dX6_total_63 : decode cX6_total 63 = .ok (.ireturn, 1) := by decide +kernel
theorem dX6_total_64 : decode cX6_total 64 = .ok (.aload_n 0, 1) := by decide +kernel
theorem dX6_total_65 : decode cX6_total 65 = .ok (.getfield 27, 3) := by decide +kernel
theorem dX6_total_68 : decode cX6_total 68 = .ok (.getfield 210, 3) := by decide +kernel
theorem dX6_total_71 : decode cX6_total 71 = .ok (.ireturn, 1) := by decide +kernel
theorem dX6_total_72 : decode cX6_total 72 = .ok (.aload_n 0, 1) := by decide +kernel
theorem dX6_total_73 : decode cX6_total 73 = .ok (.getfield 27, 3) := by decide +kernel
theorem dX6_total_76 : decode cX6_total 76 = .ok (.getfield 213, 3) := by decide +kernel
theorem dX6_total_79 : decode cX6_total 79 = .ok (.ireturn, 1) := by decide +kernel
theorem dX6_total_80 : decode cX6_total 80 = .ok (.aload_n 0, 1) := by decide +kernel
theorem dX6_total_81 : decode cX6_total 81 = .ok (.getfield 27, 3) := by decide +kernel
theorem dX6_total_84 : decode cX6_total 84 = .ok (.getfield 216, 3) := by decide +kernel
theorem dX6_total_87 : decode cX6_total 87 = .ok (.ireturn, 1) := by decide +kernel
theorem dX6_total_88 : decode cX6_total 88 = .ok (.aload_n 0, 1) := by decide +kernel
theorem dX6_total_89 : decode cX6_total 89 = .ok (.getfield 27, 3) := by decide +kernel
theorem dX6_total_92 : decode cX6_total 92 = .ok (.getfield 219, 3) := by decide +kernel
theorem dX6_total_95 : decode cX6_total 95 = .ok (.ireturn, 1) := by decide +kernel
theorem dX6_total_96 : decode cX6_total 96 = .ok (.aload_n 0, 1) := by decide +kernel
theorem dX6_total_97 : decode cX6_total 97 = .ok (.getfield 27, 3) := by decide +kernel
theorem dX6_total_100 : decode cX6_total 100 = .ok (.getfield 222, 3) := by decide +kernel
theorem dX6_total_103 : decode cX6_total 103 = .ok (.ireturn, 1) := by decide +kernel
theorem dX6_total_104 : decode cX6_total 104 = .ok (.iconst (-1), 1) := by decide +kernel
theorem dX6_total_105 : decode cX6_total 105 = .ok (.ireturn, 1) := by decide +kernel
abbrev rm_X6_total : Room := { frames := 126, cells := 1, slots := 6, locals := 3504 }
def f_X6_total (cy : Nat → ClassId) (a0 : Nat) (a1 : Int32) (a2 : Int32) (μ : Mem) : Option ((String × Mem) ⊕ (Int32 × Mem)) :=
  (rdR μ a0 5 3).bind fun q1 => if isO μ a0 5 = true then (obX2 (f_X6_shelfOf cy a0 a1 μ) fun q8 μ5 => (rdR μ5 q8 3 0).bind fun q9 => if isO μ5 q1 1 = true then ((f_X2_countAll cy q1 q9 (-1) μ5).bind fun μ13 => if Int32.toInt a2 < 0 ∨ 5 < Int32.toInt a2 then (some (.inr ((-1), μ13))) else if a2 = 0 then ((rdR μ13 a0 5 3).bind fun q16 => (rdI μ13 q16 1 4).bind fun v18 => some (.inr (v18, μ13))) else if a2 = 1 then ((rdR μ13 a0 5 3).bind fun q21 => (rdI μ13 q21 1 5).bind fun v23 => some (.inr (v23, μ13))) else if a2 = 2 then ((rdR μ13 a0 5 3).bind fun q26 => (rdI μ13 q26 1 6).bind fun v28 => some (.inr (v28, μ13))) else if a2 = 3 then ((rdR μ13 a0 5 3).bind fun q31 => (rdI μ13 q31 1 7).bind fun v33 => some (.inr (v33, μ13))) else if a2 = 4 then ((rdR μ13 a0 5 3).bind fun q36 => (rdI μ13 q36 1 8).bind fun v38 => some (.inr (v38, μ13))) else if a2 = 5 then ((rdR μ13 a0 5 3).bind fun q41 => (rdI μ13 q41 1 9).bind fun v43 => some (.inr (v43, μ13))) else none) else none) else none
set_option maxRecDepth 100000 in
set_option maxHeartbeats 4000000 in
theorem c_X6_total {l : Launch} {g : Wg} {L : List Nat} {μ : Mem} {a0 : Nat} {a1 : Int32} {a2 : Int32} {res : ((String × Mem) ⊕ (Int32 × Mem))} (hl0 : l.stackTraces = false) (hf : f_X6_total g.2 a0 a1 a2 μ = some res) : MetX l yX6_total cX6_total 3 (some .int) rm_X6_total g L μ [.ref a0, .int a1, .int a2] (rvI res) := by
  refine pw_metX (by decide) (Nat.le_of_ble_eq_true rfl) ?_
  intro p e s m args below meth c A ls H locs hC hr hlocks hl hw hX hno
  have hx := hC.1
  have hb := hC.2.1
  have hl : lv_has ls 3 [(0, .ref a0), (1, .int a1), (2, .int a2)] := hl
  unfold f_X6_total at hf
  refine lv_aload_n hx hb dX6_total_0 rfl (lv_at hl 0 rfl) ?_
  obtain ⟨q1, h2, hf⟩ := o_bind hf
  refine pw_get hC fl_X6_27 hw (rdR_F h2) dX6_total_1 ?_
  refine lv_aload_n hx hb dX6_total_4 rfl (lv_at hl 0 rfl) ?_
  refine lv_iload_n hx hb dX6_total_5 rfl (lv_at hl 1 rfl) ?_
  obtain ⟨h4, hf⟩ := o_ite hf
  rcases o_bindX2 hf with ⟨er6, h3, rfl⟩ | ⟨q8, μ5, h3, hf⟩
  · exact pw_thru hw hno hlocks (pw_runVX (As := [.int a1]) (rest := [.ref q1]) hC mm_X6_shelfOf tw_429 (c_X6_shelfOf hl0 h3) ⟨by decide, by decide⟩ hw hX h4 rfl hl.1 (Nat.le_of_ble_eq_true rfl) ⟨by decide, by decide⟩ rfl dX6_total_6) (by decide) (by decide)
  · refine pw_goX hw (pw_runVX (As := [.int a1]) (rest := [.ref q1]) hC mm_X6_shelfOf tw_429 (c_X6_shelfOf hl0 h3) ⟨by decide, by decide⟩ hw hX h4 rfl hl.1 (Nat.le_of_ble_eq_true rfl) ⟨by decide, by decide⟩ rfl dX6_total_6) (fun H locs hw => ?_)
    refine W.eq (g2 := F0 m 9 ls [.ref q8, .ref q1]) rfl ?_
    refine W.widen (k := 1) (n := 6) (by decide) (by decide) ?_
    obtain ⟨q9, h10, hf⟩ := o_bind hf
    refine pw_get hC fl_X6_102 hw (rdR_F h10) dX6_total_9 ?_
    refine lv_iconst (v := (-1)) hx hb dX6_total_12 nc_iconst_m1 ?_
    obtain ⟨h12, hf⟩ := o_ite hf
    obtain ⟨μ13, h11, hf⟩ := o_bind hf
    refine pw_goV hw (pw_runV (As := [.ref q9, .int (-1)]) (rest := []) hC mm_X2_countAll tw_760 (c_X2_countAll h11 _) ⟨rfl, rfl, by decide, by decide⟩ hw h12 rfl hl.1 (Nat.le_of_ble_eq_true rfl) ⟨by decide, by decide⟩ rfl dX6_total_13) (fun H locs hw => ?_)
    refine lv_iload_n hx hb dX6_total_16 rfl (lv_at hl 2 rfl) ?_
    rcases o_if hf with ⟨c14, hf⟩ | ⟨c14, hf⟩
    · refine lv_tableOut (tgt := 104) hx hb dX6_total_17 c14 (by decide) ?_
      refine lv_iconst (v := (-1)) hx hb dX6_total_104 nc_iconst_m1 ?_
      obtain rfl := o_retv hf
      exact pw_xiret hC hr hlocks (by decide) (by decide) hw dX6_total_105
    · rcases o_if hf with ⟨c15, hf⟩ | ⟨-, hf⟩
      · refine lv_tableIn (tgt := 56) hx hb dX6_total_17 (by rw [c15]; decide) (by rw [c15]; decide) (by rw [c15]; rfl) (by decide) ?_
        refine lv_aload_n hx hb dX6_total_56 rfl (lv_at hl 0 rfl) ?_
        obtain ⟨q16, h17, hf⟩ := o_bind hf
        refine pw_get hC fl_X6_27 hw (rdR_F h17) dX6_total_57 ?_
        obtain ⟨v18, h19, hf⟩ := o_bind hf
        refine pw_get hC fl_X6_207 hw (rdI_F h19) dX6_total_60 ?_
        obtain rfl := o_retv hf
        exact pw_xiret hC hr hlocks (by decide) (by decide) hw dX6_total_63
      · rcases o_if hf with ⟨c20, hf⟩ | ⟨-, hf⟩
        · refine lv_tableIn (tgt := 64) hx hb dX6_total_17 (by rw [c20]; decide) (by rw [c20]; decide) (by rw [c20]; rfl) (by decide) ?_
          refine lv_aload_n hx hb dX6_total_64 rfl (lv_at hl 0 rfl) ?_
          obtain ⟨q21, h22, hf⟩ := o_bind hf
          refine pw_get hC fl_X6_27 hw (rdR_F h22) dX6_total_65 ?_
          obtain ⟨v23, h24, hf⟩ := o_bind hf
          refine pw_get hC fl_X6_210 hw (rdI_F h24) dX6_total_68 ?_
          obtain rfl := o_retv hf
          exact pw_xiret hC hr hlocks (by decide) (by decide) hw dX6_total_71
        · rcases o_if hf with ⟨c25, hf⟩ | ⟨-, hf⟩
          · refine lv_tableIn (tgt := 72) hx hb dX6_total_17 (by rw [c25]; decide) (by rw [c25]; decide) (by rw [c25]; rfl) (by decide) ?_
            refine lv_aload_n hx hb dX6_total_72 rfl (lv_at hl 0 rfl) ?_
            obtain ⟨q26, h27, hf⟩ := o_bind hf
            refine pw_get hC fl_X6_27 hw (rdR_F h27) dX6_total_73 ?_
            obtain ⟨v28, h29, hf⟩ := o_bind hf
            refine pw_get hC fl_X6_213 hw (rdI_F h29) dX6_total_76 ?_
            obtain rfl := o_retv hf
            exact pw_xiret hC hr hlocks (by decide) (by decide) hw dX6_total_79
          · rcases o_if hf with ⟨c30, hf⟩ | ⟨-, hf⟩
            · refine lv_tableIn (tgt := 80) hx hb dX6_total_17 (by rw [c30]; decide) (by rw [c30]; decide) (by rw [c30]; rfl) (by decide) ?_
              refine lv_aload_n hx hb dX6_total_80 rfl (lv_at hl 0 rfl) ?_
              obtain ⟨q31, h32, hf⟩ := o_bind hf
              refine pw_get hC fl_X6_27 hw (rdR_F h32) dX6_total_81 ?_
              obtain ⟨v33, h34, hf⟩ := o_bind hf
              refine pw_get hC fl_X6_216 hw (rdI_F h34) dX6_total_84 ?_
              obtain rfl := o_retv hf
              exact pw_xiret hC hr hlocks (by decide) (by decide) hw dX6_total_87
            · rcases o_if hf with ⟨c35, hf⟩ | ⟨-, hf⟩
              · refine lv_tableIn (tgt := 88) hx hb dX6_total_17 (by rw [c35]; decide) (by rw [c35]; decide) (by rw [c35]; rfl) (by decide) ?_
                refine lv_aload_n hx hb dX6_total_88 rfl (lv_at hl 0 rfl) ?_
                obtain ⟨q36, h37, hf⟩ := o_bind hf
                refine pw_get hC fl_X6_27 hw (rdR_F h37) dX6_total_89 ?_
                obtain ⟨v38, h39, hf⟩ := o_bind hf
                refine pw_get hC fl_X6_219 hw (rdI_F h39) dX6_total_92 ?_
                obtain rfl := o_retv hf
                exact pw_xiret hC hr hlocks (by decide) (by decide) hw dX6_total_95
              · rcases o_if hf with ⟨c40, hf⟩ | ⟨-, hf⟩
                · refine lv_tableIn (tgt := 96) hx hb dX6_total_17 (by rw [c40]; decide) (by rw [c40]; decide) (by rw [c40]; rfl) (by decide) ?_
                  refine lv_aload_n hx hb dX6_total_96 rfl (lv_at hl 0 rfl) ?_
                  obtain ⟨q41, h42, hf⟩ := o_bind hf
                  refine pw_get hC fl_X6_27 hw (rdR_F h42) dX6_total_97 ?_
                  obtain ⟨v43, h44, hf⟩ := o_bind hf
                  refine pw_get hC fl_X6_222 hw (rdI_F h44) dX6_total_100 ?_
                  obtain rfl := o_retv hf
                  exact pw_xiret hC hr hlocks (by decide) (by decide) hw dX6_total_103
                · cases hf
theorem dX6_kinds_0 : decode cX6_kinds 0 = .ok (.aload_n 0, 1) := by decide +kernel
theorem dX6_kinds_1 : decode cX6_kinds 1 = .ok (.getfield 27, 3) := by decide +kernel
theorem dX6_kinds_4 : decode cX6_kinds 4 = .ok (.aload_n 0, 1) := by decide +kernel
theorem dX6_kinds_5 : decode cX6_kinds 5 = .ok (.iload_n 1, 1) := by decide +kernel
theorem dX6_kinds_6 : decode cX6_kinds 6 = .ok (.invokevirtual 95, 3) := by decide +kernel
theorem dX6_kinds_9 : decode cX6_kinds 9 = .ok (.getfield 102, 3) := by decide +kernel
theorem dX6_kinds_12 : decode cX6_kinds 12 = .ok (.iload_n 2, 1) := by decide +kernel
theorem dX6_kinds_13 : decode cX6_kinds 13 = .ok (.invokevirtual 203, 3) := by decide +kernel
theorem dX6_kinds_16 : decode cX6_kinds 16 = .ok (.aload_n 0, 1) := by decide +kernel
theorem dX6_kinds_17 : decode cX6_kinds 17 = .ok (.getfield 27, 3) := by decide +kernel
theorem dX6_kinds_20 : decode cX6_kinds 20 = .ok (.getfield 225, 3) := by decide +kernel
theorem dX6_kinds_23 : decode cX6_kinds 23 = .ok (.ireturn, 1) := by decide +kernel
abbrev rm_X6_kinds : Room := { frames := 126, cells := 1, slots := 6, locals := 3504 }
def f_X6_kinds (cy : Nat → ClassId) (a0 : Nat) (a1 : Int32) (a2 : Int32) (μ : Mem) : Option ((String × Mem) ⊕ (Int32 × Mem)) :=
  (rdR μ a0 5 3).bind fun q1 => if isO μ a0 5 = true then (obX2 (f_X6_shelfOf cy a0 a1 μ) fun q8 μ5 => (rdR μ5 q8 3 0).bind fun q9 => if isO μ5 q1 1 = true then ((f_X2_countAll cy q1 q9 a2 μ5).bind fun μ13 => (rdR μ13 a0 5 3).bind fun q14 => (rdI μ13 q14 1 11).bind fun v16 => some (.inr (v16, μ13))) else none) else none
set_option maxRecDepth 100000 in
set_option maxHeartbeats 4000000 in
theorem c_X6_kinds {l : Launch} {g : Wg} {L : List Nat} {μ : Mem} {a0 : Nat} {a1 : Int32} {a2 : Int32} {res : ((String × Mem) ⊕ (Int32 × Mem))} (hl0 : l.stackTraces = false) (hf : f_X6_kinds g.2 a0 a1 a2 μ = some res) : MetX l yX6_kinds cX6_kinds 3 (some .int) rm_X6_kinds g L μ [.ref a0, .int a1, .int a2] (rvI res) := by
  refine pw_metX (by decide) (Nat.le_of_ble_eq_true rfl) ?_
  intro p e s m args below meth c A ls H locs hC hr hlocks hl hw hX hno
  have hx := hC.1
  have hb := hC.2.1
  have hl : lv_has ls 3 [(0, .ref a0), (1, .int a1), (2, .int a2)] := hl
  unfold f_X6_kinds at hf
  refine lv_aload_n hx hb dX6_kinds_0 rfl (lv_at hl 0 rfl) ?_
  obtain ⟨q1, h2, hf⟩ := o_bind hf
  refine pw_get hC fl_X6_27 hw (rdR_F h2) dX6_kinds_1 ?_
  refine lv_aload_n hx hb dX6_kinds_4 rfl (lv_at hl 0 rfl) ?_
  refine lv_iload_n hx hb dX6_kinds_5 rfl (lv_at hl 1 rfl) ?_
  obtain ⟨h4, hf⟩ := o_ite hf
  rcases o_bindX2 hf with ⟨er6, h3, rfl⟩ | ⟨q8, μ5, h3, hf⟩
  · exact pw_thru hw hno hlocks (pw_runVX (As := [.int a1]) (rest := [.ref q1]) hC mm_X6_shelfOf tw_429 (c_X6_shelfOf hl0 h3) ⟨by decide, by decide⟩ hw hX h4 rfl hl.1 (Nat.le_of_ble_eq_true rfl) ⟨by decide, by decide⟩ rfl dX6_kinds_6) (by decide) (by decide)
  · refine pw_goX hw (pw_runVX (As := [.int a1]) (rest := [.ref q1]) hC mm_X6_shelfOf tw_429 (c_X6_shelfOf hl0 h3) ⟨by decide, by decide⟩ hw hX h4 rfl hl.1 (Nat.le_of_ble_eq_true rfl) ⟨by decide, by decide⟩ rfl dX6_kinds_6) (fun H locs hw => ?_)
    refine W.eq (g2 := F0 m 9 ls [.ref q8, .ref q1]) rfl ?_
    refine W.widen (k := 1) (n := 6) (by decide) (by decide) ?_
    obtain ⟨q9, h10, hf⟩ := o_bind hf
    refine pw_get hC fl_X6_102 hw (rdR_F h10) dX6_kinds_9 ?_
    refine lv_iload_n hx hb dX6_kinds_12 rfl (lv_at hl 2 rfl) ?_
    obtain ⟨h12, hf⟩ := o_ite hf
    obtain ⟨μ13, h11, hf⟩ := o_bind hf
    refine pw_goV hw (pw_runV (As := [.ref q9, .int a2]) (rest := []) hC mm_X2_countAll tw_760 (c_X2_countAll h11 _) ⟨rfl, rfl, by decide, by decide⟩ hw h12 rfl hl.1 (Nat.le_of_ble_eq_true rfl) ⟨by decide, by decide⟩ rfl dX6_kinds_13) (fun H locs hw => ?_)
    refine lv_aload_n hx hb dX6_kinds_16 rfl (lv_at hl 0 rfl) ?_
    obtain ⟨q14, h15, hf⟩ := o_bind hf
    refine pw_get hC fl_X6_27 hw (rdR_F h15) dX6_kinds_17 ?_
    obtain ⟨v16, h17, hf⟩ := o_bind hf
    refine pw_get hC fl_X6_225 hw (rdI_F h17) dX6_kinds_20 ?_
    obtain rfl := o_retv hf
    exact pw_xiret hC hr hlocks (by decide) (by decide) hw dX6_kinds_23
theorem dX6_value_0 : decode cX6_value 0 = .ok (.aload_n 0, 1) := by decide +kernel
theorem dX6_value_1 : decode cX6_value 1 = .ok (.invokevirtual 92, 3) := by decide +kernel
theorem dX6_value_4 : decode cX6_value 4 = .ok (.aload_n 0, 1) := by decide +kernel
theorem dX6_value_5 : decode cX6_value 5 = .ok (.iload_n 1, 1) := by decide +kernel
theorem dX6_value_6 : decode cX6_value 6 = .ok (.invokevirtual 95, 3) := by decide +kernel
theorem dX6_value_9 : decode cX6_value 9 = .ok (.astore_n 3, 1) := by decide +kernel
theorem dX6_value_10 : decode cX6_value 10 = .ok (.aload_n 3, 1) := by decide +kernel
theorem dX6_value_11 : decode cX6_value 11 = .ok (.invokestatic 173, 3) := by decide +kernel
theorem dX6_value_14 : decode cX6_value 14 = .ok (.aload_n 0, 1) := by decide +kernel
theorem dX6_value_15 : decode cX6_value 15 = .ok (.getfield 27, 3) := by decide +kernel
theorem dX6_value_18 : decode cX6_value 18 = .ok (.aload_n 0, 1) := by decide +kernel
theorem dX6_value_19 : decode cX6_value 19 = .ok (.getfield 18, 3) := by decide +kernel
theorem dX6_value_22 : decode cX6_value 22 = .ok (.iconst 0, 1) := by decide +kernel
theorem dX6_value_23 : decode cX6_value 23 = .ok (.iload_n 2, 1) := by decide +kernel
theorem dX6_value_24 : decode cX6_value 24 = .ok (.aload_n 3, 1) := by decide +kernel
theorem dX6_value_25 : decode cX6_value 25 = .ok (.getfield 105, 3) := by decide +kernel
theorem dX6_value_28 : decode cX6_value 28 = .ok (.invokevirtual 136, 3) := by decide +kernel
theorem dX6_value_31 : decode cX6_value 31 = .ok (.invokevirtual 228, 3) := by decide +kernel
theorem dX6_value_34 : decode cX6_value 34 = .ok (.aload_n 0, 1) := by decide +kernel
theorem dX6_value_35 : decode cX6_value 35 = .ok (.aload_n 0, 1) := by decide +kernel
theorem dX6_value_36 : decode cX6_value 36 = .ok (.getfield 27, 3) := by decide +kernel
theorem dX6_value_39 : decode cX6_value 39 = .ok (.getfield 82, 3) := by decide +kernel
theorem dX6_value_42 : decode cX6_value 42 = .ok (.aload_n 0, 1) := by decide +kernel
theorem dX6_value_43 : decode cX6_value 43 = .ok (.getfield 27, 3) := by decide +kernel
theorem dX6_value_46 : decode cX6_value 46 = .ok (.getfield 85, 3) := by decide +kernel
theorem dX6_value_49 : decode cX6_value 49 = .ok (.invokevirtual 99, 3) := by decide +kernel
theorem dX6_value_52 : decode cX6_value 52 = .ok (.aload_n 3, 1) := by decide +kernel
theorem dX6_value_53 : decode cX6_value 53 = .ok (.iload_n 2, 1) := by decide +kernel
theorem dX6_value_54 : decode cX6_value 54 = .ok (.aload_n 0, 1) := by decide +kernel
theorem dX6_value_55 : decode cX6_value 55 = .ok (.getfield 18, 3) := by decide +kernel
theorem dX6_value_58 : decode cX6_value 58 = .ok (.iconst 0, 1) := by decide +kernel
theorem dX6_value_59 : decode cX6_value 59 = .ok (.aload_n 0, 1) := by decide +kernel
theorem dX6_value_60 : decode cX6_value 60 = .ok (.getfield 18, 3) := by decide +kernel
theorem dX6_value_63 : decode cX6_value 63 = .ok (.getfield 73, 3) := by decide +kernel
theorem dX6_value_66 : decode cX6_value 66 = .ok (.invokevirtual 232, 3) := by decide +kernel
theorem dX6_value_69 : decode cX6_value 69 = .ok (.aload_n 0, 1) := by decide +kernel
theorem dX6_value_70 : decode cX6_value 70 = .ok (.iload_n 1, 1) := by decide +kernel
theorem dX6_value_71 : decode cX6_value 71 = .ok (.aload_n 3, 1) := by decide +kernel
theorem dX6_value_72 : decode cX6_value 72 = .ok (.getfield 105, 3) := by decide +kernel
theorem dX6_value_75 : decode cX6_value 75 = .ok (.getfield 112, 3) := by decide +kernel
theorem dX6_value_78 : decode cX6_value 78 = .ok (.invokevirtual 236, 3) := by decide +kernel
theorem dX6_value_81 : decode cX6_value 81 = .ok (.ireturn, 1) := by decide +kernel
abbrev rm_X6_value : Room := { frames := 126, cells := 5, slots := 30, locals := 3502 }
def f_X6_value (cy : Nat → ClassId) (a0 : Nat) (a1 : Int32) (a2 : Int32) (μ : Mem) : Option ((String × Mem) ⊕ (Int32 × Mem)) :=
  if isO μ a0 5 = true then ((f_X6_useTapeUp cy a0 μ).bind fun μ3 => if isO μ3 a0 5 = true then (obX2 (f_X6_shelfOf cy a0 a1 μ3) fun q9 μ6 => obX (f_X6_refuseNoElement cy q9 μ6) fun μ11 => (rdR μ11 a0 5 3).bind fun q14 => (rdR μ11 a0 5 1).bind fun q16 => (rdR μ11 q9 3 1).bind fun q18 => if isO μ11 q18 0 = true then (ob2 (f_X0_depth cy q18 μ11) fun r23 μ22 => if isO μ22 q14 1 = true then ((f_X2_judgeElement cy q14 q16 0 a2 r23 μ22).bind fun μ26 => (rdR μ26 a0 5 3).bind fun q27 => (rdI μ26 q27 1 1).bind fun v29 => (rdR μ26 a0 5 3).bind fun q31 => (rdI μ26 q31 1 2).bind fun v33 => if isO μ26 a0 5 = true then (obX (f_X6_refuseFault cy a0 v29 v33 μ26) fun μ37 => (rdR μ37 a0 5 1).bind fun q40 => (rdR μ37 a0 5 1).bind fun q42 => (rdI μ37 q42 4 1).bind fun v44 => if isO μ37 q9 3 = true then ((f_X4_draftValue cy q9 a2 q40 0 v44 μ37).bind fun μ48 => (rdR μ48 q9 3 1).bind fun q49 => (rdI μ48 q49 0 5).bind fun v51 => if isO μ48 a0 5 = true then (obX2 (f_X6_finishChange cy a0 a1 v51 μ48) fun r58 μ55 => some (.inr (r58, μ55))) else none) else none) else none) else none) else none) else none) else none
set_option maxRecDepth 100000 in
set_option maxHeartbeats 4000000 in
theorem c_X6_value {l : Launch} {g : Wg} {L : List Nat} {μ : Mem} {a0 : Nat} {a1 : Int32} {a2 : Int32} {res : ((String × Mem) ⊕ (Int32 × Mem))} (hl0 : l.stackTraces = false) (hf : f_X6_value g.2 a0 a1 a2 μ = some res) : MetX l yX6_value cX6_value 4 (some .int) rm_X6_value g L μ [.ref a0, .int a1, .int a2] (rvI res) := by
  refine pw_metX (by decide) (Nat.le_of_ble_eq_true rfl) ?_
  intro p e s m args below meth c A ls H locs hC hr hlocks hl hw hX hno
  have hx := hC.1
  have hb := hC.2.1
  have hl : lv_has ls 4 [(0, .ref a0), (1, .int a1), (2, .int a2)] := hl
  unfold f_X6_value at hf
  refine lv_aload_n hx hb dX6_value_0 rfl (lv_at hl 0 rfl) ?_
  obtain ⟨h2, hf⟩ := o_ite hf
  obtain ⟨μ3, h1, hf⟩ := o_bind hf
  refine pw_goV hw (pw_runV (As := []) (rest := []) hC mm_X6_useTapeUp tw_551 (c_X6_useTapeUp h1 _) ⟨rfl, rfl, by decide, by decide⟩ hw h2 rfl hl.1 (Nat.le_of_ble_eq_true rfl) ⟨by decide, by decide⟩ rfl dX6_value_1) (fun H locs hw => ?_)
  refine lv_aload_n hx hb dX6_value_4 rfl (lv_at hl 0 rfl) ?_
  refine lv_iload_n hx hb dX6_value_5 rfl (lv_at hl 1 rfl) ?_
  obtain ⟨h5, hf⟩ := o_ite hf
  rcases o_bindX2 hf with ⟨er7, h4, rfl⟩ | ⟨q9, μ6, h4, hf⟩
  · exact pw_thru hw hno hlocks (pw_runVX (As := [.int a1]) (rest := []) hC mm_X6_shelfOf tw_429 (c_X6_shelfOf hl0 h4) ⟨by decide, by decide⟩ hw hX h5 rfl hl.1 (Nat.le_of_ble_eq_true rfl) ⟨by decide, by decide⟩ rfl dX6_value_6) (by decide) (by decide)
  · refine pw_goX hw (pw_runVX (As := [.int a1]) (rest := []) hC mm_X6_shelfOf tw_429 (c_X6_shelfOf hl0 h4) ⟨by decide, by decide⟩ hw hX h5 rfl hl.1 (Nat.le_of_ble_eq_true rfl) ⟨by decide, by decide⟩ rfl dX6_value_6) (fun H locs hw => ?_)
    refine W.eq (g2 := F0 m 9 ls [.ref q9]) rfl ?_
    refine W.widen (k := 1) (n := 6) (by decide) (by decide) ?_
    refine lv_astore_n (lv' := [(3, .ref q9), (0, .ref a0), (1, .int a1), (2, .int a2)]) hx hb dX6_value_9 rfl hl (by decide) rfl (fun ls hl => ?_)
    refine lv_aload_n hx hb dX6_value_10 rfl (lv_at hl 0 rfl) ?_
    rcases o_bindX hf with ⟨er12, h10, rfl⟩ | ⟨μ11, h10, hf⟩
    · exact pw_thru hw hno hlocks (pw_runSX (As := [.ref q9]) (rest := []) hC mm_X6_refuseNoElement tw_696 (c_X6_refuseNoElement hl0 h10) ⟨by decide, by decide⟩ hw hX rfl hl.1 (Nat.le_of_ble_eq_true rfl) ⟨by decide, by decide⟩ rfl dX6_value_11) (by decide) (by decide)
    · refine pw_goX hw (pw_runSX (As := [.ref q9]) (rest := []) hC mm_X6_refuseNoElement tw_696 (c_X6_refuseNoElement hl0 h10) ⟨by decide, by decide⟩ hw hX rfl hl.1 (Nat.le_of_ble_eq_true rfl) ⟨by decide, by decide⟩ rfl dX6_value_11) (fun H locs hw => ?_)
      refine W.eq (g2 := F0 m 14 ls []) rfl ?_
      refine W.widen (k := 2) (n := 12) (by decide) (by decide) ?_
      refine lv_aload_n hx hb dX6_value_14 rfl (lv_at hl 1 rfl) ?_
      obtain ⟨q14, h15, hf⟩ := o_bind hf
      refine pw_get hC fl_X6_27 hw (rdR_F h15) dX6_value_15 ?_
      refine lv_aload_n hx hb dX6_value_18 rfl (lv_at hl 1 rfl) ?_
      obtain ⟨q16, h17, hf⟩ := o_bind hf
      refine pw_get hC fl_X6_18 hw (rdR_F h17) dX6_value_19 ?_
      refine lv_iconst (v := 0) hx hb dX6_value_22 nc_iconst_0 ?_
      refine lv_iload_n hx hb dX6_value_23 rfl (lv_at hl 3 rfl) ?_
      refine lv_aload_n hx hb dX6_value_24 rfl (lv_at hl 0 rfl) ?_
      obtain ⟨q18, h19, hf⟩ := o_bind hf
      refine pw_get hC fl_X6_105 hw (rdR_F h19) dX6_value_25 ?_
      obtain ⟨h21, hf⟩ := o_ite hf
      obtain ⟨r23, μ22, h20, hf⟩ := o_bind2 hf
      refine pw_goI hw (pw_runV (As := []) (rest := [.int a2, .int 0, .ref q16, .ref q14]) hC mm_X0_depth tw_660 (c_X0_depth h20 _) ⟨rfl, rfl, by decide, by decide⟩ hw h21 rfl hl.1 (Nat.le_of_ble_eq_true rfl) ⟨by decide, by decide⟩ rfl dX6_value_28) (fun H locs hw => ?_)
      obtain ⟨h25, hf⟩ := o_ite hf
      obtain ⟨μ26, h24, hf⟩ := o_bind hf
      refine pw_goV hw (pw_runV (As := [.ref q16, .int 0, .int a2, .int r23]) (rest := []) hC mm_X2_judgeElement tw_779 (c_X2_judgeElement h24 _) ⟨rfl, rfl, by decide, by decide⟩ hw h25 rfl hl.1 (Nat.le_of_ble_eq_true rfl) ⟨by decide, by decide⟩ rfl dX6_value_31) (fun H locs hw => ?_)
      refine lv_aload_n hx hb dX6_value_34 rfl (lv_at hl 1 rfl) ?_
      refine lv_aload_n hx hb dX6_value_35 rfl (lv_at hl 1 rfl) ?_
      obtain ⟨q27, h28, hf⟩ := o_bind hf
      refine pw_get hC fl_X6_27 hw (rdR_F h28) dX6_value_36 ?_
      obtain ⟨v29, h30, hf⟩ := o_bind hf
      refine pw_get hC fl_X6_82 hw (rdI_F h30) dX6_value_39 ?_
      refine lv_aload_n hx hb dX6_value_42 rfl (lv_at hl 1 rfl) ?_
      obtain ⟨q31, h32, hf⟩ := o_bind hf
      refine pw_get hC fl_X6_27 hw (rdR_F h32) dX6_value_43 ?_
      obtain ⟨v33, h34, hf⟩ := o_bind hf
      refine pw_get hC fl_X6_85 hw (rdI_F h34) dX6_value_46 ?_
      obtain ⟨h36, hf⟩ := o_ite hf
      rcases o_bindX hf with ⟨er38, h35, rfl⟩ | ⟨μ37, h35, hf⟩
      · exact pw_thru hw hno hlocks (pw_runVX (As := [.int v29, .int v33]) (rest := []) hC mm_X6_refuseFault tw_557 (c_X6_refuseFault hl0 h35) ⟨by decide, by decide⟩ hw hX h36 rfl hl.1 (Nat.le_of_ble_eq_true rfl) ⟨by decide, by decide⟩ rfl dX6_value_49) (by decide) (by decide)
      · refine pw_goX hw (pw_runVX (As := [.int v29, .int v33]) (rest := []) hC mm_X6_refuseFault tw_557 (c_X6_refuseFault hl0 h35) ⟨by decide, by decide⟩ hw hX h36 rfl hl.1 (Nat.le_of_ble_eq_true rfl) ⟨by decide, by decide⟩ rfl dX6_value_49) (fun H locs hw => ?_)
        refine W.eq (g2 := F0 m 52 ls []) rfl ?_
        refine W.widen (k := 3) (n := 18) (by decide) (by decide) ?_
        refine lv_aload_n hx hb dX6_value_52 rfl (lv_at hl 0 rfl) ?_
        refine lv_iload_n hx hb dX6_value_53 rfl (lv_at hl 3 rfl) ?_
        refine lv_aload_n hx hb dX6_value_54 rfl (lv_at hl 1 rfl) ?_
        obtain ⟨q40, h41, hf⟩ := o_bind hf
        refine pw_get hC fl_X6_18 hw (rdR_F h41) dX6_value_55 ?_
        refine lv_iconst (v := 0) hx hb dX6_value_58 nc_iconst_0 ?_
        refine lv_aload_n hx hb dX6_value_59 rfl (lv_at hl 1 rfl) ?_
        obtain ⟨q42, h43, hf⟩ := o_bind hf
        refine pw_get hC fl_X6_18 hw (rdR_F h43) dX6_value_60 ?_
        obtain ⟨v44, h45, hf⟩ := o_bind hf
        refine pw_get hC fl_X6_73 hw (rdI_F h45) dX6_value_63 ?_
        obtain ⟨h47, hf⟩ := o_ite hf
        obtain ⟨μ48, h46, hf⟩ := o_bind hf
        refine pw_goV hw (pw_runV (As := [.int a2, .ref q40, .int 0, .int v44]) (rest := []) hC mm_X4_draftValue tw_783 (c_X4_draftValue h46 _) ⟨rfl, rfl, by decide, by decide⟩ hw h47 rfl hl.1 (Nat.le_of_ble_eq_true rfl) ⟨by decide, by decide⟩ rfl dX6_value_66) (fun H locs hw => ?_)
        refine lv_aload_n hx hb dX6_value_69 rfl (lv_at hl 1 rfl) ?_
        refine lv_iload_n hx hb dX6_value_70 rfl (lv_at hl 2 rfl) ?_
        refine lv_aload_n hx hb dX6_value_71 rfl (lv_at hl 0 rfl) ?_
        obtain ⟨q49, h50, hf⟩ := o_bind hf
        refine pw_get hC fl_X6_105 hw (rdR_F h50) dX6_value_72 ?_
        obtain ⟨v51, h52, hf⟩ := o_bind hf
        refine pw_get hC fl_X6_112 hw (rdI_F h52) dX6_value_75 ?_
        obtain ⟨h54, hf⟩ := o_ite hf
        rcases o_bindX2 hf with ⟨er56, h53, rfl⟩ | ⟨r58, μ55, h53, hf⟩
        · exact pw_thru hw hno hlocks (pw_runVX (As := [.int a1, .int v51]) (rest := []) hC mm_X6_finishChange tw_813 (c_X6_finishChange hl0 h53) ⟨by decide, by decide⟩ hw hX h54 rfl hl.1 (Nat.le_of_ble_eq_true rfl) ⟨by decide, by decide⟩ rfl dX6_value_78) (by decide) (by decide)
        · refine pw_goX hw (pw_runVX (As := [.int a1, .int v51]) (rest := []) hC mm_X6_finishChange tw_813 (c_X6_finishChange hl0 h53) ⟨by decide, by decide⟩ hw hX h54 rfl hl.1 (Nat.le_of_ble_eq_true rfl) ⟨by decide, by decide⟩ rfl dX6_value_78) (fun H locs hw => ?_)
          refine W.eq (g2 := F0 m 81 ls [.int r58]) rfl ?_
          refine W.widen (k := 5) (n := 30) (by decide) (by decide) ?_
          obtain rfl := o_retv hf
          exact pw_xiret hC hr hlocks (by decide) (by decide) hw dX6_value_81
theorem dX6_put_0 : decode cX6_put 0 = .ok (.aload_n 0, 1) := by decide +kernel
theorem dX6_put_1 : decode cX6_put 1 = .ok (.invokevirtual 92, 3) := by decide +kernel
theorem dX6_put_4 : decode cX6_put 4 = .ok (.aload_n 0, 1) := by decide +kernel
theorem dX6_put_5 : decode cX6_put 5 = .ok (.iload_n 1, 1) := by decide +kernel
theorem dX6_put_6 : decode cX6_put 6 = .ok (.invokevirtual 95, 3) := by decide +kernel
theorem dX6_put_9 : decode cX6_put 9 = .ok (.astore 4, 2) := by decide +kernel
theorem dX6_put_11 : decode cX6_put 11 = .ok (.aload 4, 2) := by decide +kernel
theorem dX6_put_13 : decode cX6_put 13 = .ok (.getfield 105, 3) := by decide +kernel
theorem dX6_put_16 : decode cX6_put 16 = .ok (.astore 5, 2) := by decide +kernel
theorem dX6_put_18 : decode cX6_put 18 = .ok (.iload_n 2, 1) := by decide +kernel
theorem dX6_put_19 : decode cX6_put 19 = .ok (.ifCond .lt 12, 3) := by decide +kernel
theorem dX6_put_22 : decode cX6_put 22 = .ok (.iload_n 2, 1) := by decide +kernel
theorem dX6_put_23 : decode cX6_put 23 = .ok (.aload 5, 2) := by decide +kernel
theorem dX6_put_25 : decode cX6_put 25 = .ok (.getfield 140, 3) := by decide +kernel
theorem dX6_put_28 : decode cX6_put 28 = .ok (.if_icmp .le 13, 3) := by decide +kernel
theorem dX6_put_31 : decode cX6_put 31 = .ok (.new 239, 3) := by decide +kernel
theorem dX6_put_34 : decode cX6_put 34 = .ok (.dup, 1) := by decide +kernel
theorem dX6_put_35 : decode cX6_put 35 = .ok (.ldc 241, 2) := by decide +kernel
theorem dX6_put_37 : decode cX6_put 37 = .ok (.invokespecial 243, 3) := by decide +kernel
theorem dX6_put_40 : decode cX6_put 40 = .ok (.athrow, 1) := by decide +kernel
theorem dX6_put_41 : decode cX6_put 41 = .ok (.aload_n 0, 1) := by decide +kernel
theorem dX6_put_42 : decode cX6_put 42 = .ok (.getfield 27, 3) := by decide +kernel
theorem dX6_put_45 : decode cX6_put 45 = .ok (.aload_n 0, 1) := by decide +kernel
theorem dX6_put_46 : decode cX6_put 46 = .ok (.getfield 18, 3) := by decide +kernel
theorem dX6_put_49 : decode cX6_put 49 = .ok (.aload 5, 2) := by decide +kernel
theorem dX6_put_51 : decode cX6_put 51 = .ok (.invokevirtual 244, 3) := by decide +kernel
theorem dX6_put_54 : decode cX6_put 54 = .ok (.ifCond .ne 7, 3) := by decide +kernel
theorem dX6_put_57 : decode cX6_put 57 = .ok (.iconst 1, 1) := by decide +kernel
theorem dX6_put_58 : decode cX6_put 58 = .ok (.goto 4, 3) := by decide +kernel
theorem dX6_put_61 : decode cX6_put 61 = .ok (.iconst 0, 1) := by decide +kernel
theorem dX6_put_62 : decode cX6_put 62 = .ok (.iload_n 3, 1) := by decide +kernel
theorem dX6_put_63 : decode cX6_put 63 = .ok (.aload 5, 2) := by decide +kernel
theorem dX6_put_65 : decode cX6_put 65 = .ok (.invokevirtual 136, 3) := by decide +kernel
theorem dX6_put_68 : decode cX6_put 68 = .ok (.invokevirtual 228, 3) := by decide +kernel
theorem dX6_put_71 : decode cX6_put 71 = .ok (.aload_n 0, 1) := by decide +kernel
theorem dX6_put_72 : decode cX6_put 72 = .ok (.aload_n 0, 1) := by decide +kernel
theorem dX6_put_73 : decode cX6_put 73 = .ok (.getfield 27, 3) := by decide +kernel
theorem dX6_put_76 : decode cX6_put 76 = .ok (.getfield 82, 3) := by decide +kernel
theorem dX6_put_79 : decode cX6_put 79 = .ok (.aload_n 0, 1) := by decide +kernel
theorem dX6_put_80 : decode cX6_put 80 = .ok (.getfield 27, 3) := by decide +kernel
theorem dX6_put_83 : decode cX6_put 83 = .ok (.getfield 85, 3) := by decide +kernel
theorem dX6_put_86 : decode cX6_put 86 = .ok (.invokevirtual 99, 3) := by decide +kernel
theorem dX6_put_89 : decode cX6_put 89 = .ok (.aload 4, 2) := by decide +kernel
theorem dX6_put_91 : decode cX6_put 91 = .ok (.invokevirtual 247, 3) := by decide +kernel
theorem dX6_put_94 : decode cX6_put 94 = .ok (.aload 4, 2) := by decide +kernel
theorem dX6_put_96 : decode cX6_put 96 = .ok (.iconst 0, 1) := by decide +kernel
theorem dX6_put_97 : decode cX6_put 97 = .ok (.iload_n 2, 1) := by decide +kernel
theorem dX6_put_98 : decode cX6_put 98 = .ok (.invokevirtual 250, 3) := by decide +kernel
theorem dX6_put_101 : decode cX6_put 101 = .ok (.aload 4, 2) := by decide +kernel
theorem dX6_put_103 : decode cX6_put 103 = .ok (.iload_n 3, 1) := by decide +kernel
theorem dX6_put_104 : decode cX6_put 104 = .ok (.aload_n 0, 1) := by decide +kernel
theorem dX6_put_105 : decode cX6_put 105 = .ok (.getfield 18, 3) := by decide +kernel
theorem dX6_put_108 : decode cX6_put 108 = .ok (.iconst 0, 1) := by decide +kernel
theorem dX6_put_109 : decode cX6_put 109 = .ok (.aload_n 0, 1) := by decide +kernel
theorem dX6_put_110 : decode cX6_put 110 = .ok (.getfield 18, 3) := by decide +kernel
theorem dX6_put_113 : decode cX6_put 113 = .ok (.aload_n 0, 1) := by decide +kernel
theorem dX6_put_114 : decode cX6_put 114 = .ok (.getfield 27, 3) := by decide +kernel
theorem dX6_put_117 : decode cX6_put 117 = .ok (.getfield 253, 3) := by decide +kernel
theorem dX6_put_120 : decode cX6_put 120 = .ok (.aload_n 0, 1) := by decide +kernel
theorem dX6_put_121 : decode cX6_put 121 = .ok (.getfield 18, 3) := by decide +kernel
theorem dX6_put_124 : decode cX6_put 124 = .ok (.getfield 73, 3) := by decide +kernel
theorem dX6_put_127 : decode cX6_put 127 = .ok (.invokevirtual 255, 3) := by decide +kernel
theorem dX6_put_130 : decode cX6_put 130 = .ok (.aload 4, 2) := by decide +kernel
theorem dX6_put_132 : decode cX6_put 132 = .ok (.iload_n 2, 1) := by decide +kernel
theorem dX6_put_133 : decode cX6_put 133 = .ok (.aload 5, 2) := by decide +kernel
theorem dX6_put_135 : decode cX6_put 135 = .ok (.getfield 140, 3) := by decide +kernel
theorem dX6_put_138 : decode cX6_put 138 = .ok (.invokevirtual 250, 3) := by decide +kernel
theorem dX6_put_141 : decode cX6_put 141 = .ok (.aload_n 0, 1) := by decide +kernel
theorem dX6_put_142 : decode cX6_put 142 = .ok (.iload_n 1, 1) := by decide +kernel
theorem dX6_put_143 : decode cX6_put 143 = .ok (.iload_n 2, 1) := by decide +kernel
theorem dX6_put_144 : decode cX6_put 144 = .ok (.invokevirtual 236, 3) := by decide +kernel
theorem dX6_put_147 : decode cX6_put 147 = .ok (.ireturn, 1) := by decide +kernel
abbrev rm_X6_put : Room := { frames := 126, cells := 5, slots := 30, locals := 3502 }
def f_X6_put_L31 (cy : Nat → ClassId)  (μ : Mem) : Option ((String × Mem) ⊕ (Int32 × Mem)) :=
  some (.inl ("java/util/NoSuchElementException", μ))
set_option maxRecDepth 100000 in
set_option maxHeartbeats 4000000 in
theorem w_X6_put_L31 {p : Program} {l : Launch} {e : Env} {s : State} {m : MethodId} {args : Array Value} {below : List Frame} {meth : Method} {c : Code} {A : Nat → Prop} {g : Wg} {L : List Nat} {res : ((String × Mem) ⊕ (Int32 × Mem))} (hC : CX p m c cX6_put 6 s args RX6) (hr : meth.sig.returnType = (some .int)) (hlocks : meth.locks = false) (hl0 : l.stackTraces = false) (hX : XS A s s.heap) (hno : ∀ x ∈ c.exceptionTable.toList, False) : ∀  (μ : Mem) (H : Heap) (locs : List Loc) (ls : Array Slot), lv_has ls 6 [] → PW g L μ A s H locs → f_X6_put_L31 g.2  μ = some res → W p l e rm_X6_put s m args below meth c H locs 1 6 (vx_MQ below (QX g L A (rvI res)) (XX g L A (rvI res)) args s 5 30 A) (F0 m 31 ls []) := by
  have hx := hC.1
  have hb := hC.2.1
  intro  μ H locs ls hl hw hf
  unfold f_X6_put_L31 at hf
  obtain rfl := o_retv hf
  exact pw_thrN (text := "no element can have this number") hC hl0 hw hX hno hlocks rfl tws_X6_239 (by decide) hl.1 dX6_put_31 dX6_put_34 dX6_put_35 dX6_put_37 dX6_put_40 (by decide) (Nat.le_of_ble_eq_true rfl) (by decide) (by decide) (by decide) (by decide)
def f_X6_put_L62 (cy : Nat → ClassId) (a0 : Nat) (a1 : Int32) (a2 : Int32) (a3 : Int32) (a4 : Nat) (a5 : Nat) (t0 : Nat) (t1 : Nat) (t2 : Int32) (μ : Mem) : Option ((String × Mem) ⊕ (Int32 × Mem)) :=
  if isO μ a5 0 = true then (ob2 (f_X0_depth cy a5 μ) fun r104 μ103 => if isO μ103 t0 1 = true then ((f_X2_judgeElement cy t0 t1 t2 a3 r104 μ103).bind fun μ107 => (rdR μ107 a0 5 3).bind fun q108 => (rdI μ107 q108 1 1).bind fun v110 => (rdR μ107 a0 5 3).bind fun q112 => (rdI μ107 q112 1 2).bind fun v114 => if isO μ107 a0 5 = true then (obX (f_X6_refuseFault cy a0 v110 v114 μ107) fun μ118 => if isO μ118 a4 3 = true then ((f_X4_startDraft cy a4 μ118).bind fun μ123 => if isO μ123 a4 3 = true then ((f_X4_keepElements cy a4 0 a2 μ123).bind fun μ126 => (rdR μ126 a0 5 1).bind fun q127 => (rdR μ126 a0 5 1).bind fun q129 => (rdR μ126 a0 5 3).bind fun q131 => (rdI μ126 q131 1 3).bind fun v133 => (rdR μ126 a0 5 1).bind fun q135 => (rdI μ126 q135 4 1).bind fun v137 => if isO μ126 a4 3 = true then ((f_X4_addElement cy a4 a3 q127 0 q129 v133 v137 μ126).bind fun μ141 => (rdI μ141 a5 0 7).bind fun v142 => if isO μ141 a4 3 = true then ((f_X4_keepElements cy a4 a2 v142 μ141).bind fun μ146 => if isO μ146 a0 5 = true then (obX2 (f_X6_finishChange cy a0 a1 a2 μ146) fun r152 μ149 => some (.inr (r152, μ149))) else none) else none) else none) else none) else none) else none) else none) else none
set_option maxRecDepth 100000 in
set_option maxHeartbeats 4000000 in
theorem w_X6_put_L62 {p : Program} {l : Launch} {e : Env} {s : State} {m : MethodId} {args : Array Value} {below : List Frame} {meth : Method} {c : Code} {A : Nat → Prop} {g : Wg} {L : List Nat} {res : ((String × Mem) ⊕ (Int32 × Mem))} (hC : CX p m c cX6_put 6 s args RX6) (hr : meth.sig.returnType = (some .int)) (hlocks : meth.locks = false) (hl0 : l.stackTraces = false) (hX : XS A s s.heap) (hno : ∀ x ∈ c.exceptionTable.toList, False) : ∀ (a0 : Nat) (a1 : Int32) (a2 : Int32) (a3 : Int32) (a4 : Nat) (a5 : Nat) (t0 : Nat) (t1 : Nat) (t2 : Int32) (μ : Mem) (H : Heap) (locs : List Loc) (ls : Array Slot), lv_has ls 6 [(0, .ref a0), (1, .int a1), (2, .int a2), (3, .int a3), (4, .ref a4), (5, .ref a5)] → PW g L μ A s H locs → f_X6_put_L62 g.2 a0 a1 a2 a3 a4 a5 t0 t1 t2 μ = some res → W p l e rm_X6_put s m args below meth c H locs 1 6 (vx_MQ below (QX g L A (rvI res)) (XX g L A (rvI res)) args s 5 30 A) (F0 m 62 ls [.int t2, .ref t1, .ref t0]) := by
  have hx := hC.1
  have hb := hC.2.1
  intro a0 a1 a2 a3 a4 a5 t0 t1 t2 μ H locs ls hl hw hf
  unfold f_X6_put_L62 at hf
  refine lv_iload_n hx hb dX6_put_62 rfl (lv_at hl 3 rfl) ?_
  refine lv_aload hx hb dX6_put_63 (lv_at hl 5 rfl) ?_
  obtain ⟨h102, hf⟩ := o_ite hf
  obtain ⟨r104, μ103, h101, hf⟩ := o_bind2 hf
  refine pw_goI hw (pw_runV (As := []) (rest := [.int a3, .int t2, .ref t1, .ref t0]) hC mm_X0_depth tw_660 (c_X0_depth h101 _) ⟨rfl, rfl, by decide, by decide⟩ hw h102 rfl hl.1 (Nat.le_of_ble_eq_true rfl) ⟨by decide, by decide⟩ rfl dX6_put_65) (fun H locs hw => ?_)
  obtain ⟨h106, hf⟩ := o_ite hf
  obtain ⟨μ107, h105, hf⟩ := o_bind hf
  refine pw_goV hw (pw_runV (As := [.ref t1, .int t2, .int a3, .int r104]) (rest := []) hC mm_X2_judgeElement tw_779 (c_X2_judgeElement h105 _) ⟨rfl, rfl, by decide, by decide⟩ hw h106 rfl hl.1 (Nat.le_of_ble_eq_true rfl) ⟨by decide, by decide⟩ rfl dX6_put_68) (fun H locs hw => ?_)
  refine lv_aload_n hx hb dX6_put_71 rfl (lv_at hl 0 rfl) ?_
  refine lv_aload_n hx hb dX6_put_72 rfl (lv_at hl 0 rfl) ?_
  obtain ⟨q108, h109, hf⟩ := o_bind hf
  refine pw_get hC fl_X6_27 hw (rdR_F h109) dX6_put_73 ?_
  obtain ⟨v110, h111, hf⟩ := o_bind hf
  refine pw_get hC fl_X6_82 hw (rdI_F h111) dX6_put_76 ?_
  refine lv_aload_n hx hb dX6_put_79 rfl (lv_at hl 0 rfl) ?_
  obtain ⟨q112, h113, hf⟩ := o_bind hf
  refine pw_get hC fl_X6_27 hw (rdR_F h113) dX6_put_80 ?_
  obtain ⟨v114, h115, hf⟩ := o_bind hf
  refine pw_get hC fl_X6_85 hw (rdI_F h115) dX6_put_83 ?_
  obtain ⟨h117, hf⟩ := o_ite hf
  rcases o_bindX hf with ⟨er119, h116, rfl⟩ | ⟨μ118, h116, hf⟩
  · exact pw_thru hw hno hlocks (pw_runVX (As := [.int v110, .int v114]) (rest := []) hC mm_X6_refuseFault tw_557 (c_X6_refuseFault hl0 h116) ⟨by decide, by decide⟩ hw hX h117 rfl hl.1 (Nat.le_of_ble_eq_true rfl) ⟨by decide, by decide⟩ rfl dX6_put_86) (by decide) (by decide)
  · refine pw_goX hw (pw_runVX (As := [.int v110, .int v114]) (rest := []) hC mm_X6_refuseFault tw_557 (c_X6_refuseFault hl0 h116) ⟨by decide, by decide⟩ hw hX h117 rfl hl.1 (Nat.le_of_ble_eq_true rfl) ⟨by decide, by decide⟩ rfl dX6_put_86) (fun H locs hw => ?_)
    refine W.eq (g2 := F0 m 89 ls []) rfl ?_
    refine W.widen (k := 2) (n := 12) (by decide) (by decide) ?_
    refine lv_aload hx hb dX6_put_89 (lv_at hl 4 rfl) ?_
    obtain ⟨h122, hf⟩ := o_ite hf
    obtain ⟨μ123, h121, hf⟩ := o_bind hf
    refine pw_goV hw (pw_runV (As := []) (rest := []) hC mm_X4_startDraft tw_865 (c_X4_startDraft h121 _) ⟨rfl, rfl, by decide, by decide⟩ hw h122 rfl hl.1 (Nat.le_of_ble_eq_true rfl) ⟨by decide, by decide⟩ rfl dX6_put_91) (fun H locs hw => ?_)
    refine lv_aload hx hb dX6_put_94 (lv_at hl 4 rfl) ?_
    refine lv_iconst (v := 0) hx hb dX6_put_96 nc_iconst_0 ?_
    refine lv_iload_n hx hb dX6_put_97 rfl (lv_at hl 2 rfl) ?_
    obtain ⟨h125, hf⟩ := o_ite hf
    obtain ⟨μ126, h124, hf⟩ := o_bind hf
    refine pw_goV hw (pw_runV (As := [.int 0, .int a2]) (rest := []) hC mm_X4_keepElements tw_866 (c_X4_keepElements h124 _) ⟨rfl, rfl, by decide, by decide⟩ hw h125 rfl hl.1 (Nat.le_of_ble_eq_true rfl) ⟨by decide, by decide⟩ rfl dX6_put_98) (fun H locs hw => ?_)
    refine lv_aload hx hb dX6_put_101 (lv_at hl 4 rfl) ?_
    refine lv_iload_n hx hb dX6_put_103 rfl (lv_at hl 3 rfl) ?_
    refine lv_aload_n hx hb dX6_put_104 rfl (lv_at hl 0 rfl) ?_
    obtain ⟨q127, h128, hf⟩ := o_bind hf
    refine pw_get hC fl_X6_18 hw (rdR_F h128) dX6_put_105 ?_
    refine lv_iconst (v := 0) hx hb dX6_put_108 nc_iconst_0 ?_
    refine lv_aload_n hx hb dX6_put_109 rfl (lv_at hl 0 rfl) ?_
    obtain ⟨q129, h130, hf⟩ := o_bind hf
    refine pw_get hC fl_X6_18 hw (rdR_F h130) dX6_put_110 ?_
    refine lv_aload_n hx hb dX6_put_113 rfl (lv_at hl 0 rfl) ?_
    obtain ⟨q131, h132, hf⟩ := o_bind hf
    refine pw_get hC fl_X6_27 hw (rdR_F h132) dX6_put_114 ?_
    obtain ⟨v133, h134, hf⟩ := o_bind hf
    refine pw_get hC fl_X6_253 hw (rdI_F h134) dX6_put_117 ?_
    refine lv_aload_n hx hb dX6_put_120 rfl (lv_at hl 0 rfl) ?_
    obtain ⟨q135, h136, hf⟩ := o_bind hf
    refine pw_get hC fl_X6_18 hw (rdR_F h136) dX6_put_121 ?_
    obtain ⟨v137, h138, hf⟩ := o_bind hf
    refine pw_get hC fl_X6_73 hw (rdI_F h138) dX6_put_124 ?_
    obtain ⟨h140, hf⟩ := o_ite hf
    obtain ⟨μ141, h139, hf⟩ := o_bind hf
    refine pw_goV hw (pw_runV (As := [.int a3, .ref q127, .int 0, .ref q129, .int v133, .int v137]) (rest := []) hC mm_X4_addElement tw_867 (c_X4_addElement h139 _) ⟨rfl, rfl, by decide, by decide⟩ hw h140 rfl hl.1 (Nat.le_of_ble_eq_true rfl) ⟨by decide, by decide⟩ rfl dX6_put_127) (fun H locs hw => ?_)
    refine lv_aload hx hb dX6_put_130 (lv_at hl 4 rfl) ?_
    refine lv_iload_n hx hb dX6_put_132 rfl (lv_at hl 2 rfl) ?_
    refine lv_aload hx hb dX6_put_133 (lv_at hl 5 rfl) ?_
    obtain ⟨v142, h143, hf⟩ := o_bind hf
    refine pw_get hC fl_X6_140 hw (rdI_F h143) dX6_put_135 ?_
    obtain ⟨h145, hf⟩ := o_ite hf
    obtain ⟨μ146, h144, hf⟩ := o_bind hf
    refine pw_goV hw (pw_runV (As := [.int a2, .int v142]) (rest := []) hC mm_X4_keepElements tw_866 (c_X4_keepElements h144 _) ⟨rfl, rfl, by decide, by decide⟩ hw h145 rfl hl.1 (Nat.le_of_ble_eq_true rfl) ⟨by decide, by decide⟩ rfl dX6_put_138) (fun H locs hw => ?_)
    refine lv_aload_n hx hb dX6_put_141 rfl (lv_at hl 0 rfl) ?_
    refine lv_iload_n hx hb dX6_put_142 rfl (lv_at hl 1 rfl) ?_
    refine lv_iload_n hx hb dX6_put_143 rfl (lv_at hl 2 rfl) ?_
    obtain ⟨h148, hf⟩ := o_ite hf
    rcases o_bindX2 hf with ⟨er150, h147, rfl⟩ | ⟨r152, μ149, h147, hf⟩
    · exact pw_thru hw hno hlocks (pw_runVX (As := [.int a1, .int a2]) (rest := []) hC mm_X6_finishChange tw_813 (c_X6_finishChange hl0 h147) ⟨by decide, by decide⟩ hw hX h148 rfl hl.1 (Nat.le_of_ble_eq_true rfl) ⟨by decide, by decide⟩ rfl dX6_put_144) (by decide) (by decide)
    · refine pw_goX hw (pw_runVX (As := [.int a1, .int a2]) (rest := []) hC mm_X6_finishChange tw_813 (c_X6_finishChange hl0 h147) ⟨by decide, by decide⟩ hw hX h148 rfl hl.1 (Nat.le_of_ble_eq_true rfl) ⟨by decide, by decide⟩ rfl dX6_put_144) (fun H locs hw => ?_)
      refine W.eq (g2 := F0 m 147 ls [.int r152]) rfl ?_
      refine W.widen (k := 4) (n := 24) (by decide) (by decide) ?_
      obtain rfl := o_retv hf
      exact pw_xiret hC hr hlocks (by decide) (by decide) hw dX6_put_147
def f_X6_put (cy : Nat → ClassId) (a0 : Nat) (a1 : Int32) (a2 : Int32) (a3 : Int32) (μ : Mem) : Option ((String × Mem) ⊕ (Int32 × Mem)) :=
  if isO μ a0 5 = true then ((f_X6_useTapeUp cy a0 μ).bind fun μ3 => if isO μ3 a0 5 = true then (obX2 (f_X6_shelfOf cy a0 a1 μ3) fun q9 μ6 => (rdR μ6 q9 3 1).bind fun q10 => if a2 < 0 then (f_X6_put_L31 cy  μ6) else (rdI μ6 q10 0 7).bind fun v13 => if a2 ≤ v13 then ((rdR μ6 a0 5 3).bind fun q16 => (rdR μ6 a0 5 1).bind fun q18 => if isO μ6 q10 0 = true then (ob2 (f_X0_isInRow cy q10 μ6) fun r23 μ22 => if r23 = 0 then (f_X6_put_L62 cy a0 a1 a2 a3 q9 q10 q16 q18 1 μ22) else f_X6_put_L62 cy a0 a1 a2 a3 q9 q10 q16 q18 0 μ22) else none) else f_X6_put_L31 cy  μ6) else none) else none
set_option maxRecDepth 100000 in
set_option maxHeartbeats 4000000 in
theorem c_X6_put {l : Launch} {g : Wg} {L : List Nat} {μ : Mem} {a0 : Nat} {a1 : Int32} {a2 : Int32} {a3 : Int32} {res : ((String × Mem) ⊕ (Int32 × Mem))} (hl0 : l.stackTraces = false) (hf : f_X6_put g.2 a0 a1 a2 a3 μ = some res) : MetX l yX6_put cX6_put 6 (some .int) rm_X6_put g L μ [.ref a0, .int a1, .int a2, .int a3] (rvI res) := by
  refine pw_metX (by decide) (Nat.le_of_ble_eq_true rfl) ?_
  intro p e s m args below meth c A ls H locs hC hr hlocks hl hw hX hno
  have hx := hC.1
  have hb := hC.2.1
  have hl : lv_has ls 6 [(0, .ref a0), (1, .int a1), (2, .int a2), (3, .int a3)] := hl
  unfold f_X6_put at hf
  refine lv_aload_n hx hb dX6_put_0 rfl (lv_at hl 0 rfl) ?_
  obtain ⟨h2, hf⟩ := o_ite hf
  obtain ⟨μ3, h1, hf⟩ := o_bind hf
  refine pw_goV hw (pw_runV (As := []) (rest := []) hC mm_X6_useTapeUp tw_551 (c_X6_useTapeUp h1 _) ⟨rfl, rfl, by decide, by decide⟩ hw h2 rfl hl.1 (Nat.le_of_ble_eq_true rfl) ⟨by decide, by decide⟩ rfl dX6_put_1) (fun H locs hw => ?_)
  refine lv_aload_n hx hb dX6_put_4 rfl (lv_at hl 0 rfl) ?_
  refine lv_iload_n hx hb dX6_put_5 rfl (lv_at hl 1 rfl) ?_
  obtain ⟨h5, hf⟩ := o_ite hf
  rcases o_bindX2 hf with ⟨er7, h4, rfl⟩ | ⟨q9, μ6, h4, hf⟩
  · exact pw_thru hw hno hlocks (pw_runVX (As := [.int a1]) (rest := []) hC mm_X6_shelfOf tw_429 (c_X6_shelfOf hl0 h4) ⟨by decide, by decide⟩ hw hX h5 rfl hl.1 (Nat.le_of_ble_eq_true rfl) ⟨by decide, by decide⟩ rfl dX6_put_6) (by decide) (by decide)
  · refine pw_goX hw (pw_runVX (As := [.int a1]) (rest := []) hC mm_X6_shelfOf tw_429 (c_X6_shelfOf hl0 h4) ⟨by decide, by decide⟩ hw hX h5 rfl hl.1 (Nat.le_of_ble_eq_true rfl) ⟨by decide, by decide⟩ rfl dX6_put_6) (fun H locs hw => ?_)
    refine W.eq (g2 := F0 m 9 ls [.ref q9]) rfl ?_
    refine W.widen (k := 1) (n := 6) (by decide) (by decide) ?_
    refine lv_astore (lv' := [(4, .ref q9), (0, .ref a0), (1, .int a1), (2, .int a2), (3, .int a3)]) hx hb dX6_put_9 hl (by decide) rfl (fun ls hl => ?_)
    refine lv_aload hx hb dX6_put_11 (lv_at hl 0 rfl) ?_
    obtain ⟨q10, h11, hf⟩ := o_bind hf
    refine pw_get hC fl_X6_105 hw (rdR_F h11) dX6_put_13 ?_
    refine lv_astore (lv' := [(5, .ref q10), (4, .ref q9), (0, .ref a0), (1, .int a1), (2, .int a2), (3, .int a3)]) hx hb dX6_put_16 hl (by decide) rfl (fun ls hl => ?_)
    refine lv_iload_n hx hb dX6_put_18 rfl (lv_at hl 4 rfl) ?_
    refine lv_if_lt (tgt := 31) hx hb dX6_put_19 (by decide) (fun c12 => ?_) (fun c12 => ?_)
    · have hf := o_pos c12 hf
      refine W.widen (k := 1) (n := 6) (by decide) (by decide) ?_
      exact w_X6_put_L31 hC hr hlocks hl0 hX hno  _ _ _ ls (lv_sub hl [] rfl) hw hf
    · have hf := o_neg c12 hf
      refine lv_iload_n hx hb dX6_put_22 rfl (lv_at hl 4 rfl) ?_
      refine lv_aload hx hb dX6_put_23 (lv_at hl 0 rfl) ?_
      obtain ⟨v13, h14, hf⟩ := o_bind hf
      refine pw_get hC fl_X6_140 hw (rdI_F h14) dX6_put_25 ?_
      refine lv_icmp_le (tgt := 41) hx hb dX6_put_28 (by decide) (fun c15 => ?_) (fun c15 => ?_)
      · have hf := o_pos c15 hf
        refine lv_aload_n hx hb dX6_put_41 rfl (lv_at hl 2 rfl) ?_
        obtain ⟨q16, h17, hf⟩ := o_bind hf
        refine pw_get hC fl_X6_27 hw (rdR_F h17) dX6_put_42 ?_
        refine lv_aload_n hx hb dX6_put_45 rfl (lv_at hl 2 rfl) ?_
        obtain ⟨q18, h19, hf⟩ := o_bind hf
        refine pw_get hC fl_X6_18 hw (rdR_F h19) dX6_put_46 ?_
        refine lv_aload hx hb dX6_put_49 (lv_at hl 0 rfl) ?_
        obtain ⟨h21, hf⟩ := o_ite hf
        obtain ⟨r23, μ22, h20, hf⟩ := o_bind2 hf
        refine pw_goI hw (pw_runV (As := []) (rest := [.ref q18, .ref q16]) hC mm_X0_isInRow tw_864 (c_X0_isInRow h20 _) ⟨rfl, rfl, by decide, by decide⟩ hw h21 rfl hl.1 (Nat.le_of_ble_eq_true rfl) ⟨by decide, by decide⟩ rfl dX6_put_51) (fun H locs hw => ?_)
        refine lv_if_ne (tgt := 61) hx hb dX6_put_54 (by decide) (fun c24 => ?_) (fun c24 => ?_)
        · have hf := o_neg c24 hf
          refine lv_iconst (v := 0) hx hb dX6_put_61 nc_iconst_0 ?_
          refine W.widen (k := 1) (n := 6) (by decide) (by decide) ?_
          exact w_X6_put_L62 hC hr hlocks hl0 hX hno _ _ _ _ _ _ _ _ _ _ _ _ ls (lv_sub hl [2, 3, 4, 5, 1, 0] rfl) hw hf
        · have hf := o_pos c24 hf
          refine lv_iconst (v := 1) hx hb dX6_put_57 nc_iconst_1 ?_
          refine lv_goto (tgt := 62) hx hb dX6_put_58 (by decide) ?_
          refine W.widen (k := 1) (n := 6) (by decide) (by decide) ?_
          exact w_X6_put_L62 hC hr hlocks hl0 hX hno _ _ _ _ _ _ _ _ _ _ _ _ ls (lv_sub hl [2, 3, 4, 5, 1, 0] rfl) hw hf
      · have hf := o_neg c15 hf
        refine W.widen (k := 1) (n := 6) (by decide) (by decide) ?_
        exact w_X6_put_L31 hC hr hlocks hl0 hX hno  _ _ _ ls (lv_sub hl [] rfl) hw hf
theorem dX6_name_0 : decode cX6_name 0 = .ok (.aload_n 0, 1) := by decide +kernel
theorem dX6_name_1 : decode cX6_name 1 = .ok (.invokevirtual 92, 3) := by decide +kernel
theorem dX6_name_4 : decode cX6_name 4 = .ok (.aload_n 0, 1) := by decide +kernel
theorem dX6_name_5 : decode cX6_name 5 = .ok (.iload_n 1, 1) := by decide +kernel
theorem dX6_name_6 : decode cX6_name 6 = .ok (.invokevirtual 95, 3) := by decide +kernel
theorem dX6_name_9 : decode cX6_name 9 = .ok (.astore_n 2, 1) := by decide +kernel
theorem dX6_name_10 : decode cX6_name 10 = .ok (.aload_n 2, 1) := by decide +kernel
theorem dX6_name_11 : decode cX6_name 11 = .ok (.invokestatic 173, 3) := by decide +kernel
theorem dX6_name_14 : decode cX6_name 14 = .ok (.aload_n 2, 1) := by decide +kernel
theorem dX6_name_15 : decode cX6_name 15 = .ok (.getfield 105, 3) := by decide +kernel
theorem dX6_name_18 : decode cX6_name 18 = .ok (.invokevirtual 244, 3) := by decide +kernel
theorem dX6_name_21 : decode cX6_name 21 = .ok (.ifCond .eq 14, 3) := by decide +kernel
theorem dX6_name_24 : decode cX6_name 24 = .ok (.new 183, 3) := by decide +kernel
theorem dX6_name_27 : decode cX6_name 27 = .ok (.dup, 1) := by decide +kernel
theorem dX6_name_28 : decode cX6_name 28 = .ok (.ldc_w 259, 3) := by decide +kernel
theorem dX6_name_31 : decode cX6_name 31 = .ok (.invokespecial 187, 3) := by decide +kernel
theorem dX6_name_34 : decode cX6_name 34 = .ok (.athrow, 1) := by decide +kernel
theorem dX6_name_35 : decode cX6_name 35 = .ok (.aload_n 0, 1) := by decide +kernel
theorem dX6_name_36 : decode cX6_name 36 = .ok (.getfield 27, 3) := by decide +kernel
theorem dX6_name_39 : decode cX6_name 39 = .ok (.aload_n 0, 1) := by decide +kernel
theorem dX6_name_40 : decode cX6_name 40 = .ok (.getfield 18, 3) := by decide +kernel
theorem dX6_name_43 : decode cX6_name 43 = .ok (.invokevirtual 261, 3) := by decide +kernel
theorem dX6_name_46 : decode cX6_name 46 = .ok (.aload_n 0, 1) := by decide +kernel
theorem dX6_name_47 : decode cX6_name 47 = .ok (.aload_n 0, 1) := by decide +kernel
theorem dX6_name_48 : decode cX6_name 48 = .ok (.getfield 27, 3) := by decide +kernel
theorem dX6_name_51 : decode cX6_name 51 = .ok (.getfield 82, 3) := by decide +kernel
theorem dX6_name_54 : decode cX6_name 54 = .ok (.aload_n 0, 1) := by decide +kernel
theorem dX6_name_55 : decode cX6_name 55 = .ok (.getfield 27, 3) := by decide +kernel
theorem dX6_name_58 : decode cX6_name 58 = .ok (.getfield 85, 3) := by decide +kernel
theorem dX6_name_61 : decode cX6_name 61 = .ok (.invokevirtual 99, 3) := by decide +kernel
theorem dX6_name_64 : decode cX6_name 64 = .ok (.aload_n 2, 1) := by decide +kernel
theorem dX6_name_65 : decode cX6_name 65 = .ok (.getfield 105, 3) := by decide +kernel
theorem dX6_name_68 : decode cX6_name 68 = .ok (.getfield 112, 3) := by decide +kernel
theorem dX6_name_71 : decode cX6_name 71 = .ok (.istore_n 3, 1) := by decide +kernel
theorem dX6_name_72 : decode cX6_name 72 = .ok (.aload_n 2, 1) := by decide +kernel
theorem dX6_name_73 : decode cX6_name 73 = .ok (.invokevirtual 247, 3) := by decide +kernel
theorem dX6_name_76 : decode cX6_name 76 = .ok (.aload_n 2, 1) := by decide +kernel
theorem dX6_name_77 : decode cX6_name 77 = .ok (.iconst 0, 1) := by decide +kernel
theorem dX6_name_78 : decode cX6_name 78 = .ok (.iload_n 3, 1) := by decide +kernel
theorem dX6_name_79 : decode cX6_name 79 = .ok (.invokevirtual 250, 3) := by decide +kernel
theorem dX6_name_82 : decode cX6_name 82 = .ok (.aload_n 2, 1) := by decide +kernel
theorem dX6_name_83 : decode cX6_name 83 = .ok (.aload_n 2, 1) := by decide +kernel
theorem dX6_name_84 : decode cX6_name 84 = .ok (.invokevirtual 177, 3) := by decide +kernel
theorem dX6_name_87 : decode cX6_name 87 = .ok (.aload_n 0, 1) := by decide +kernel
theorem dX6_name_88 : decode cX6_name 88 = .ok (.getfield 18, 3) := by decide +kernel
theorem dX6_name_91 : decode cX6_name 91 = .ok (.iconst 0, 1) := by decide +kernel
theorem dX6_name_92 : decode cX6_name 92 = .ok (.aload_n 2, 1) := by decide +kernel
theorem dX6_name_93 : decode cX6_name 93 = .ok (.getfield 102, 3) := by decide +kernel
theorem dX6_name_96 : decode cX6_name 96 = .ok (.aload_n 2, 1) := by decide +kernel
theorem dX6_name_97 : decode cX6_name 97 = .ok (.invokevirtual 190, 3) := by decide +kernel
theorem dX6_name_100 : decode cX6_name 100 = .ok (.aload_n 2, 1) := by decide +kernel
theorem dX6_name_101 : decode cX6_name 101 = .ok (.invokevirtual 264, 3) := by decide +kernel
theorem dX6_name_104 : decode cX6_name 104 = .ok (.invokevirtual 255, 3) := by decide +kernel
theorem dX6_name_107 : decode cX6_name 107 = .ok (.aload_n 2, 1) := by decide +kernel
theorem dX6_name_108 : decode cX6_name 108 = .ok (.iload_n 3, 1) := by decide +kernel
theorem dX6_name_109 : decode cX6_name 109 = .ok (.iconst 1, 1) := by decide +kernel
theorem dX6_name_110 : decode cX6_name 110 = .ok (.iadd, 1) := by decide +kernel
theorem dX6_name_111 : decode cX6_name 111 = .ok (.aload_n 2, 1) := by decide +kernel
theorem dX6_name_112 : decode cX6_name 112 = .ok (.getfield 105, 3) := by decide +kernel
theorem dX6_name_115 : decode cX6_name 115 = .ok (.getfield 140, 3) := by decide +kernel
theorem dX6_name_118 : decode cX6_name 118 = .ok (.invokevirtual 250, 3) := by decide +kernel
theorem dX6_name_121 : decode cX6_name 121 = .ok (.aload_n 0, 1) := by decide +kernel
theorem dX6_name_122 : decode cX6_name 122 = .ok (.iload_n 1, 1) := by decide +kernel
theorem dX6_name_123 : decode cX6_name 123 = .ok (.iload_n 3, 1) := by decide +kernel
theorem dX6_name_124 : decode cX6_name 124 = .ok (.invokevirtual 236, 3) := by decide +kernel
theorem dX6_name_127 : decode cX6_name 127 = .ok (.ireturn, 1) := by decide +kernel
abbrev rm_X6_name : Room := { frames := 8, cells := 6, slots := 36, locals := 149 }
def f_X6_name (cy : Nat → ClassId) (a0 : Nat) (a1 : Int32) (μ : Mem) : Option ((String × Mem) ⊕ (Int32 × Mem)) :=
  if isO μ a0 5 = true then ((f_X6_useTapeUp cy a0 μ).bind fun μ3 => if isO μ3 a0 5 = true then (obX2 (f_X6_shelfOf cy a0 a1 μ3) fun q9 μ6 => obX (f_X6_refuseNoElement cy q9 μ6) fun μ11 => (rdR μ11 q9 3 1).bind fun q14 => if isO μ11 q14 0 = true then (ob2 (f_X0_isInRow cy q14 μ11) fun r19 μ18 => if r19 = 0 then ((rdR μ18 a0 5 3).bind fun q21 => (rdR μ18 a0 5 1).bind fun q23 => if isO μ18 q21 1 = true then ((f_X2_judgeName cy q21 q23 μ18).bind fun μ27 => (rdR μ27 a0 5 3).bind fun q28 => (rdI μ27 q28 1 1).bind fun v30 => (rdR μ27 a0 5 3).bind fun q32 => (rdI μ27 q32 1 2).bind fun v34 => if isO μ27 a0 5 = true then (obX (f_X6_refuseFault cy a0 v30 v34 μ27) fun μ38 => (rdR μ38 q9 3 1).bind fun q41 => (rdI μ38 q41 0 5).bind fun v43 => if isO μ38 q9 3 = true then ((f_X4_startDraft cy q9 μ38).bind fun μ47 => if isO μ47 q9 3 = true then ((f_X4_keepElements cy q9 0 v43 μ47).bind fun μ50 => if isO μ50 q9 3 = true then (ob2 (f_X4_elementType cy q9 μ50) fun r54 μ53 => (rdR μ53 a0 5 1).bind fun q55 => (rdR μ53 q9 3 0).bind fun q57 => if isO μ53 q9 3 = true then (ob2 (f_X4_valuePlace cy q9 μ53) fun r62 μ61 => if isO μ61 q9 3 = true then (ob2 (f_X4_valueEnd cy q9 μ61) fun r66 μ65 => if isO μ65 q9 3 = true then ((f_X4_addElement cy q9 r54 q55 0 q57 r62 r66 μ65).bind fun μ69 => (rdR μ69 q9 3 1).bind fun q70 => (rdI μ69 q70 0 7).bind fun v72 => if isO μ69 q9 3 = true then ((f_X4_keepElements cy q9 (v43 + 1) v72 μ69).bind fun μ76 => if isO μ76 a0 5 = true then (obX2 (f_X6_finishChange cy a0 a1 v43 μ76) fun r82 μ79 => some (.inr (r82, μ79))) else none) else none) else none) else none) else none) else none) else none) else none) else none) else none) else some (.inl ("java/lang/IllegalStateException", μ18))) else none) else none) else none
set_option maxRecDepth 100000 in
set_option maxHeartbeats 4000000 in
theorem c_X6_name {l : Launch} {g : Wg} {L : List Nat} {μ : Mem} {a0 : Nat} {a1 : Int32} {res : ((String × Mem) ⊕ (Int32 × Mem))} (hl0 : l.stackTraces = false) (hf : f_X6_name g.2 a0 a1 μ = some res) : MetX l yX6_name cX6_name 4 (some .int) rm_X6_name g L μ [.ref a0, .int a1] (rvI res) := by
  refine pw_metX (by decide) (Nat.le_of_ble_eq_true rfl) ?_
  intro p e s m args below meth c A ls H locs hC hr hlocks hl hw hX hno
  have hx := hC.1
  have hb := hC.2.1
  have hl : lv_has ls 4 [(0, .ref a0), (1, .int a1)] := hl
  unfold f_X6_name at hf
  refine lv_aload_n hx hb dX6_name_0 rfl (lv_at hl 0 rfl) ?_
  obtain ⟨h2, hf⟩ := o_ite hf
  obtain ⟨μ3, h1, hf⟩ := o_bind hf
  refine pw_goV hw (pw_runV (As := []) (rest := []) hC mm_X6_useTapeUp tw_551 (c_X6_useTapeUp h1 _) ⟨rfl, rfl, by decide, by decide⟩ hw h2 rfl hl.1 (Nat.le_of_ble_eq_true rfl) ⟨by decide, by decide⟩ rfl dX6_name_1) (fun H locs hw => ?_)
  refine lv_aload_n hx hb dX6_name_4 rfl (lv_at hl 0 rfl) ?_
  refine lv_iload_n hx hb dX6_name_5 rfl (lv_at hl 1 rfl) ?_
  obtain ⟨h5, hf⟩ := o_ite hf
  rcases o_bindX2 hf with ⟨er7, h4, rfl⟩ | ⟨q9, μ6, h4, hf⟩
  · exact pw_thru hw hno hlocks (pw_runVX (As := [.int a1]) (rest := []) hC mm_X6_shelfOf tw_429 (c_X6_shelfOf hl0 h4) ⟨by decide, by decide⟩ hw hX h5 rfl hl.1 (Nat.le_of_ble_eq_true rfl) ⟨by decide, by decide⟩ rfl dX6_name_6) (by decide) (by decide)
  · refine pw_goX hw (pw_runVX (As := [.int a1]) (rest := []) hC mm_X6_shelfOf tw_429 (c_X6_shelfOf hl0 h4) ⟨by decide, by decide⟩ hw hX h5 rfl hl.1 (Nat.le_of_ble_eq_true rfl) ⟨by decide, by decide⟩ rfl dX6_name_6) (fun H locs hw => ?_)
    refine W.eq (g2 := F0 m 9 ls [.ref q9]) rfl ?_
    refine W.widen (k := 1) (n := 6) (by decide) (by decide) ?_
    refine lv_astore_n (lv' := [(2, .ref q9), (0, .ref a0), (1, .int a1)]) hx hb dX6_name_9 rfl hl (by decide) rfl (fun ls hl => ?_)
    refine lv_aload_n hx hb dX6_name_10 rfl (lv_at hl 0 rfl) ?_
    rcases o_bindX hf with ⟨er12, h10, rfl⟩ | ⟨μ11, h10, hf⟩
    · exact pw_thru hw hno hlocks (pw_runSX (As := [.ref q9]) (rest := []) hC mm_X6_refuseNoElement tw_696 (c_X6_refuseNoElement hl0 h10) ⟨by decide, by decide⟩ hw hX rfl hl.1 (Nat.le_of_ble_eq_true rfl) ⟨by decide, by decide⟩ rfl dX6_name_11) (by decide) (by decide)
    · refine pw_goX hw (pw_runSX (As := [.ref q9]) (rest := []) hC mm_X6_refuseNoElement tw_696 (c_X6_refuseNoElement hl0 h10) ⟨by decide, by decide⟩ hw hX rfl hl.1 (Nat.le_of_ble_eq_true rfl) ⟨by decide, by decide⟩ rfl dX6_name_11) (fun H locs hw => ?_)
      refine W.eq (g2 := F0 m 14 ls []) rfl ?_
      refine W.widen (k := 2) (n := 12) (by decide) (by decide) ?_
      refine lv_aload_n hx hb dX6_name_14 rfl (lv_at hl 0 rfl) ?_
      obtain ⟨q14, h15, hf⟩ := o_bind hf
      refine pw_get hC fl_X6_105 hw (rdR_F h15) dX6_name_15 ?_
      obtain ⟨h17, hf⟩ := o_ite hf
      obtain ⟨r19, μ18, h16, hf⟩ := o_bind2 hf
      refine pw_goI hw (pw_runV (As := []) (rest := []) hC mm_X0_isInRow tw_864 (c_X0_isInRow h16 _) ⟨rfl, rfl, by decide, by decide⟩ hw h17 rfl hl.1 (Nat.le_of_ble_eq_true rfl) ⟨by decide, by decide⟩ rfl dX6_name_18) (fun H locs hw => ?_)
      refine lv_if_eq (tgt := 35) hx hb dX6_name_21 (by decide) (fun c20 => ?_) (fun c20 => ?_)
      · have hf := o_pos c20 hf
        refine lv_aload_n hx hb dX6_name_35 rfl (lv_at hl 1 rfl) ?_
        obtain ⟨q21, h22, hf⟩ := o_bind hf
        refine pw_get hC fl_X6_27 hw (rdR_F h22) dX6_name_36 ?_
        refine lv_aload_n hx hb dX6_name_39 rfl (lv_at hl 1 rfl) ?_
        obtain ⟨q23, h24, hf⟩ := o_bind hf
        refine pw_get hC fl_X6_18 hw (rdR_F h24) dX6_name_40 ?_
        obtain ⟨h26, hf⟩ := o_ite hf
        obtain ⟨μ27, h25, hf⟩ := o_bind hf
        refine pw_goV hw (pw_runV (As := [.ref q23]) (rest := []) hC mm_X2_judgeName tw_876 (c_X2_judgeName h25 _) ⟨rfl, rfl, by decide, by decide⟩ hw h26 rfl hl.1 (Nat.le_of_ble_eq_true rfl) ⟨by decide, by decide⟩ rfl dX6_name_43) (fun H locs hw => ?_)
        refine lv_aload_n hx hb dX6_name_46 rfl (lv_at hl 1 rfl) ?_
        refine lv_aload_n hx hb dX6_name_47 rfl (lv_at hl 1 rfl) ?_
        obtain ⟨q28, h29, hf⟩ := o_bind hf
        refine pw_get hC fl_X6_27 hw (rdR_F h29) dX6_name_48 ?_
        obtain ⟨v30, h31, hf⟩ := o_bind hf
        refine pw_get hC fl_X6_82 hw (rdI_F h31) dX6_name_51 ?_
        refine lv_aload_n hx hb dX6_name_54 rfl (lv_at hl 1 rfl) ?_
        obtain ⟨q32, h33, hf⟩ := o_bind hf
        refine pw_get hC fl_X6_27 hw (rdR_F h33) dX6_name_55 ?_
        obtain ⟨v34, h35, hf⟩ := o_bind hf
        refine pw_get hC fl_X6_85 hw (rdI_F h35) dX6_name_58 ?_
        obtain ⟨h37, hf⟩ := o_ite hf
        rcases o_bindX hf with ⟨er39, h36, rfl⟩ | ⟨μ38, h36, hf⟩
        · exact pw_thru hw hno hlocks (pw_runVX (As := [.int v30, .int v34]) (rest := []) hC mm_X6_refuseFault tw_557 (c_X6_refuseFault hl0 h36) ⟨by decide, by decide⟩ hw hX h37 rfl hl.1 (Nat.le_of_ble_eq_true rfl) ⟨by decide, by decide⟩ rfl dX6_name_61) (by decide) (by decide)
        · refine pw_goX hw (pw_runVX (As := [.int v30, .int v34]) (rest := []) hC mm_X6_refuseFault tw_557 (c_X6_refuseFault hl0 h36) ⟨by decide, by decide⟩ hw hX h37 rfl hl.1 (Nat.le_of_ble_eq_true rfl) ⟨by decide, by decide⟩ rfl dX6_name_61) (fun H locs hw => ?_)
          refine W.eq (g2 := F0 m 64 ls []) rfl ?_
          refine W.widen (k := 3) (n := 18) (by decide) (by decide) ?_
          refine lv_aload_n hx hb dX6_name_64 rfl (lv_at hl 0 rfl) ?_
          obtain ⟨q41, h42, hf⟩ := o_bind hf
          refine pw_get hC fl_X6_105 hw (rdR_F h42) dX6_name_65 ?_
          obtain ⟨v43, h44, hf⟩ := o_bind hf
          refine pw_get hC fl_X6_112 hw (rdI_F h44) dX6_name_68 ?_
          refine lv_istore_n (lv' := [(3, .int v43), (2, .ref q9), (0, .ref a0), (1, .int a1)]) hx hb dX6_name_71 rfl hl (by decide) rfl (fun ls hl => ?_)
          refine lv_aload_n hx hb dX6_name_72 rfl (lv_at hl 1 rfl) ?_
          obtain ⟨h46, hf⟩ := o_ite hf
          obtain ⟨μ47, h45, hf⟩ := o_bind hf
          refine pw_goV hw (pw_runV (As := []) (rest := []) hC mm_X4_startDraft tw_865 (c_X4_startDraft h45 _) ⟨rfl, rfl, by decide, by decide⟩ hw h46 rfl hl.1 (Nat.le_of_ble_eq_true rfl) ⟨by decide, by decide⟩ rfl dX6_name_73) (fun H locs hw => ?_)
          refine lv_aload_n hx hb dX6_name_76 rfl (lv_at hl 1 rfl) ?_
          refine lv_iconst (v := 0) hx hb dX6_name_77 nc_iconst_0 ?_
          refine lv_iload_n hx hb dX6_name_78 rfl (lv_at hl 0 rfl) ?_
          obtain ⟨h49, hf⟩ := o_ite hf
          obtain ⟨μ50, h48, hf⟩ := o_bind hf
          refine pw_goV hw (pw_runV (As := [.int 0, .int v43]) (rest := []) hC mm_X4_keepElements tw_866 (c_X4_keepElements h48 _) ⟨rfl, rfl, by decide, by decide⟩ hw h49 rfl hl.1 (Nat.le_of_ble_eq_true rfl) ⟨by decide, by decide⟩ rfl dX6_name_79) (fun H locs hw => ?_)
          refine lv_aload_n hx hb dX6_name_82 rfl (lv_at hl 1 rfl) ?_
          refine lv_aload_n hx hb dX6_name_83 rfl (lv_at hl 1 rfl) ?_
          obtain ⟨h52, hf⟩ := o_ite hf
          obtain ⟨r54, μ53, h51, hf⟩ := o_bind2 hf
          refine pw_goI hw (pw_runV (As := []) (rest := [.ref q9]) hC mm_X4_elementType tw_715 (c_X4_elementType h51 _) ⟨rfl, rfl, by decide, by decide⟩ hw h52 rfl hl.1 (Nat.le_of_ble_eq_true rfl) ⟨by decide, by decide⟩ rfl dX6_name_84) (fun H locs hw => ?_)
          refine lv_aload_n hx hb dX6_name_87 rfl (lv_at hl 2 rfl) ?_
          obtain ⟨q55, h56, hf⟩ := o_bind hf
          refine pw_get hC fl_X6_18 hw (rdR_F h56) dX6_name_88 ?_
          refine lv_iconst (v := 0) hx hb dX6_name_91 nc_iconst_0 ?_
          refine lv_aload_n hx hb dX6_name_92 rfl (lv_at hl 1 rfl) ?_
          obtain ⟨q57, h58, hf⟩ := o_bind hf
          refine pw_get hC fl_X6_102 hw (rdR_F h58) dX6_name_93 ?_
          refine lv_aload_n hx hb dX6_name_96 rfl (lv_at hl 1 rfl) ?_
          obtain ⟨h60, hf⟩ := o_ite hf
          obtain ⟨r62, μ61, h59, hf⟩ := o_bind2 hf
          refine pw_goI hw (pw_runV (As := []) (rest := [.ref q57, .int 0, .ref q55, .int r54, .ref q9]) hC mm_X4_valuePlace tw_740 (c_X4_valuePlace h59 _) ⟨rfl, rfl, by decide, by decide⟩ hw h60 rfl hl.1 (Nat.le_of_ble_eq_true rfl) ⟨by decide, by decide⟩ rfl dX6_name_97) (fun H locs hw => ?_)
          refine lv_aload_n hx hb dX6_name_100 rfl (lv_at hl 1 rfl) ?_
          obtain ⟨h64, hf⟩ := o_ite hf
          obtain ⟨r66, μ65, h63, hf⟩ := o_bind2 hf
          refine pw_goI hw (pw_runV (As := []) (rest := [.int r62, .ref q57, .int 0, .ref q55, .int r54, .ref q9]) hC mm_X4_valueEnd tw_880 (c_X4_valueEnd h63 _) ⟨rfl, rfl, by decide, by decide⟩ hw h64 rfl hl.1 (Nat.le_of_ble_eq_true rfl) ⟨by decide, by decide⟩ rfl dX6_name_101) (fun H locs hw => ?_)
          obtain ⟨h68, hf⟩ := o_ite hf
          obtain ⟨μ69, h67, hf⟩ := o_bind hf
          refine pw_goV hw (pw_runV (As := [.int r54, .ref q55, .int 0, .ref q57, .int r62, .int r66]) (rest := []) hC mm_X4_addElement tw_867 (c_X4_addElement h67 _) ⟨rfl, rfl, by decide, by decide⟩ hw h68 rfl hl.1 (Nat.le_of_ble_eq_true rfl) ⟨by decide, by decide⟩ rfl dX6_name_104) (fun H locs hw => ?_)
          refine lv_aload_n hx hb dX6_name_107 rfl (lv_at hl 1 rfl) ?_
          refine lv_iload_n hx hb dX6_name_108 rfl (lv_at hl 0 rfl) ?_
          refine lv_iconst (v := 1) hx hb dX6_name_109 nc_iconst_1 ?_
          refine lv_iadd hx hb dX6_name_110 ?_
          refine lv_aload_n hx hb dX6_name_111 rfl (lv_at hl 1 rfl) ?_
          obtain ⟨q70, h71, hf⟩ := o_bind hf
          refine pw_get hC fl_X6_105 hw (rdR_F h71) dX6_name_112 ?_
          obtain ⟨v72, h73, hf⟩ := o_bind hf
          refine pw_get hC fl_X6_140 hw (rdI_F h73) dX6_name_115 ?_
          obtain ⟨h75, hf⟩ := o_ite hf
          obtain ⟨μ76, h74, hf⟩ := o_bind hf
          refine pw_goV hw (pw_runV (As := [.int (v43 + 1), .int v72]) (rest := []) hC mm_X4_keepElements tw_866 (c_X4_keepElements h74 _) ⟨rfl, rfl, by decide, by decide⟩ hw h75 rfl hl.1 (Nat.le_of_ble_eq_true rfl) ⟨by decide, by decide⟩ rfl dX6_name_118) (fun H locs hw => ?_)
          refine lv_aload_n hx hb dX6_name_121 rfl (lv_at hl 2 rfl) ?_
          refine lv_iload_n hx hb dX6_name_122 rfl (lv_at hl 3 rfl) ?_
          refine lv_iload_n hx hb dX6_name_123 rfl (lv_at hl 0 rfl) ?_
          obtain ⟨h78, hf⟩ := o_ite hf
          rcases o_bindX2 hf with ⟨er80, h77, rfl⟩ | ⟨r82, μ79, h77, hf⟩
          · exact pw_thru hw hno hlocks (pw_runVX (As := [.int a1, .int v43]) (rest := []) hC mm_X6_finishChange tw_813 (c_X6_finishChange hl0 h77) ⟨by decide, by decide⟩ hw hX h78 rfl hl.1 (Nat.le_of_ble_eq_true rfl) ⟨by decide, by decide⟩ rfl dX6_name_124) (by decide) (by decide)
          · refine pw_goX hw (pw_runVX (As := [.int a1, .int v43]) (rest := []) hC mm_X6_finishChange tw_813 (c_X6_finishChange hl0 h77) ⟨by decide, by decide⟩ hw hX h78 rfl hl.1 (Nat.le_of_ble_eq_true rfl) ⟨by decide, by decide⟩ rfl dX6_name_124) (fun H locs hw => ?_)
            refine W.eq (g2 := F0 m 127 ls [.int r82]) rfl ?_
            refine W.widen (k := 5) (n := 30) (by decide) (by decide) ?_
            obtain rfl := o_retv hf
            exact pw_xiret hC hr hlocks (by decide) (by decide) hw dX6_name_127
      · have hf := o_neg c20 hf
        obtain rfl := o_retv hf
        exact pw_thrSW (text := "the names in a row are fixed") hC hl0 hw hX hno hlocks rfl tws_X6_183 (by decide) hl.1 dX6_name_24 dX6_name_27 dX6_name_28 dX6_name_31 dX6_name_34 (by decide) (Nat.le_of_ble_eq_true rfl) (by decide) (by decide) (by decide) (by decide)
theorem dX6_drop_0 : decode cX6_drop 0 = .ok (.aload_n 0, 1) := by decide +kernel
theorem dX6_drop_1 : decode cX6_drop 1 = .ok (.iload_n 1, 1) := by decide +kernel
theorem dX6_drop_2 : decode cX6_drop 2 = .ok (.invokevirtual 95, 3) := by decide +kernel
theorem dX6_drop_5 : decode cX6_drop 5 = .ok (.astore_n 2, 1) := by decide +kernel
theorem dX6_drop_6 : decode cX6_drop 6 = .ok (.aload_n 2, 1) := by decide +kernel
theorem dX6_drop_7 : decode cX6_drop 7 = .ok (.invokestatic 173, 3) := by decide +kernel
theorem dX6_drop_10 : decode cX6_drop 10 = .ok (.aload_n 2, 1) := by decide +kernel
theorem dX6_drop_11 : decode cX6_drop 11 = .ok (.getfield 105, 3) := by decide +kernel
theorem dX6_drop_14 : decode cX6_drop 14 = .ok (.getfield 112, 3) := by decide +kernel
theorem dX6_drop_17 : decode cX6_drop 17 = .ok (.istore_n 3, 1) := by decide +kernel
theorem dX6_drop_18 : decode cX6_drop 18 = .ok (.aload_n 2, 1) := by decide +kernel
theorem dX6_drop_19 : decode cX6_drop 19 = .ok (.invokevirtual 247, 3) := by decide +kernel
theorem dX6_drop_22 : decode cX6_drop 22 = .ok (.aload_n 2, 1) := by decide +kernel
theorem dX6_drop_23 : decode cX6_drop 23 = .ok (.iconst 0, 1) := by decide +kernel
theorem dX6_drop_24 : decode cX6_drop 24 = .ok (.iload_n 3, 1) := by decide +kernel
theorem dX6_drop_25 : decode cX6_drop 25 = .ok (.invokevirtual 250, 3) := by decide +kernel
theorem dX6_drop_28 : decode cX6_drop 28 = .ok (.aload_n 2, 1) := by decide +kernel
theorem dX6_drop_29 : decode cX6_drop 29 = .ok (.iload_n 3, 1) := by decide +kernel
theorem dX6_drop_30 : decode cX6_drop 30 = .ok (.iconst 1, 1) := by decide +kernel
theorem dX6_drop_31 : decode cX6_drop 31 = .ok (.iadd, 1) := by decide +kernel
theorem dX6_drop_32 : decode cX6_drop 32 = .ok (.aload_n 2, 1) := by decide +kernel
theorem dX6_drop_33 : decode cX6_drop 33 = .ok (.getfield 105, 3) := by decide +kernel
theorem dX6_drop_36 : decode cX6_drop 36 = .ok (.getfield 140, 3) := by decide +kernel
theorem dX6_drop_39 : decode cX6_drop 39 = .ok (.invokevirtual 250, 3) := by decide +kernel
theorem dX6_drop_42 : decode cX6_drop 42 = .ok (.aload_n 0, 1) := by decide +kernel
theorem dX6_drop_43 : decode cX6_drop 43 = .ok (.iload_n 1, 1) := by decide +kernel
theorem dX6_drop_44 : decode cX6_drop 44 = .ok (.iload_n 3, 1) := by decide +kernel
theorem dX6_drop_45 : decode cX6_drop 45 = .ok (.invokevirtual 236, 3) := by decide +kernel
theorem dX6_drop_48 : decode cX6_drop 48 = .ok (.ireturn, 1) := by decide +kernel
abbrev rm_X6_drop : Room := { frames := 8, cells := 4, slots := 24, locals := 149 }
def f_X6_drop (cy : Nat → ClassId) (a0 : Nat) (a1 : Int32) (μ : Mem) : Option ((String × Mem) ⊕ (Int32 × Mem)) :=
  if isO μ a0 5 = true then (obX2 (f_X6_shelfOf cy a0 a1 μ) fun q6 μ3 => obX (f_X6_refuseNoElement cy q6 μ3) fun μ8 => (rdR μ8 q6 3 1).bind fun q11 => (rdI μ8 q11 0 5).bind fun v13 => if isO μ8 q6 3 = true then ((f_X4_startDraft cy q6 μ8).bind fun μ17 => if isO μ17 q6 3 = true then ((f_X4_keepElements cy q6 0 v13 μ17).bind fun μ20 => (rdR μ20 q6 3 1).bind fun q21 => (rdI μ20 q21 0 7).bind fun v23 => if isO μ20 q6 3 = true then ((f_X4_keepElements cy q6 (v13 + 1) v23 μ20).bind fun μ27 => if isO μ27 a0 5 = true then (obX2 (f_X6_finishChange cy a0 a1 v13 μ27) fun r33 μ30 => some (.inr (r33, μ30))) else none) else none) else none) else none) else none
set_option maxRecDepth 100000 in
set_option maxHeartbeats 4000000 in
theorem c_X6_drop {l : Launch} {g : Wg} {L : List Nat} {μ : Mem} {a0 : Nat} {a1 : Int32} {res : ((String × Mem) ⊕ (Int32 × Mem))} (hl0 : l.stackTraces = false) (hf : f_X6_drop g.2 a0 a1 μ = some res) : MetX l yX6_drop cX6_drop 4 (some .int) rm_X6_drop g L μ [.ref a0, .int a1] (rvI res) := by
  refine pw_metX (by decide) (Nat.le_of_ble_eq_true rfl) ?_
  intro p e s m args below meth c A ls H locs hC hr hlocks hl hw hX hno
  have hx := hC.1
  have hb := hC.2.1
  have hl : lv_has ls 4 [(0, .ref a0), (1, .int a1)] := hl
  unfold f_X6_drop at hf
  refine lv_aload_n hx hb dX6_drop_0 rfl (lv_at hl 0 rfl) ?_
  refine lv_iload_n hx hb dX6_drop_1 rfl (lv_at hl 1 rfl) ?_
  obtain ⟨h2, hf⟩ := o_ite hf
  rcases o_bindX2 hf with ⟨er4, h1, rfl⟩ | ⟨q6, μ3, h1, hf⟩
  · exact pw_thru hw hno hlocks (pw_runVX (As := [.int a1]) (rest := []) hC mm_X6_shelfOf tw_429 (c_X6_shelfOf hl0 h1) ⟨by decide, by decide⟩ hw hX h2 rfl hl.1 (Nat.le_of_ble_eq_true rfl) ⟨by decide, by decide⟩ rfl dX6_drop_2) (by decide) (by decide)
  · refine pw_goX hw (pw_runVX (As := [.int a1]) (rest := []) hC mm_X6_shelfOf tw_429 (c_X6_shelfOf hl0 h1) ⟨by decide, by decide⟩ hw hX h2 rfl hl.1 (Nat.le_of_ble_eq_true rfl) ⟨by decide, by decide⟩ rfl dX6_drop_2) (fun H locs hw => ?_)
    refine W.eq (g2 := F0 m 5 ls [.ref q6]) rfl ?_
    refine W.widen (k := 1) (n := 6) (by decide) (by decide) ?_
    refine lv_astore_n (lv' := [(2, .ref q6), (0, .ref a0), (1, .int a1)]) hx hb dX6_drop_5 rfl hl (by decide) rfl (fun ls hl => ?_)
    refine lv_aload_n hx hb dX6_drop_6 rfl (lv_at hl 0 rfl) ?_
    rcases o_bindX hf with ⟨er9, h7, rfl⟩ | ⟨μ8, h7, hf⟩
    · exact pw_thru hw hno hlocks (pw_runSX (As := [.ref q6]) (rest := []) hC mm_X6_refuseNoElement tw_696 (c_X6_refuseNoElement hl0 h7) ⟨by decide, by decide⟩ hw hX rfl hl.1 (Nat.le_of_ble_eq_true rfl) ⟨by decide, by decide⟩ rfl dX6_drop_7) (by decide) (by decide)
    · refine pw_goX hw (pw_runSX (As := [.ref q6]) (rest := []) hC mm_X6_refuseNoElement tw_696 (c_X6_refuseNoElement hl0 h7) ⟨by decide, by decide⟩ hw hX rfl hl.1 (Nat.le_of_ble_eq_true rfl) ⟨by decide, by decide⟩ rfl dX6_drop_7) (fun H locs hw => ?_)
      refine W.eq (g2 := F0 m 10 ls []) rfl ?_
      refine W.widen (k := 2) (n := 12) (by decide) (by decide) ?_
      refine lv_aload_n hx hb dX6_drop_10 rfl (lv_at hl 0 rfl) ?_
      obtain ⟨q11, h12, hf⟩ := o_bind hf
      refine pw_get hC fl_X6_105 hw (rdR_F h12) dX6_drop_11 ?_
      obtain ⟨v13, h14, hf⟩ := o_bind hf
      refine pw_get hC fl_X6_112 hw (rdI_F h14) dX6_drop_14 ?_
      refine lv_istore_n (lv' := [(3, .int v13), (2, .ref q6), (0, .ref a0), (1, .int a1)]) hx hb dX6_drop_17 rfl hl (by decide) rfl (fun ls hl => ?_)
      refine lv_aload_n hx hb dX6_drop_18 rfl (lv_at hl 1 rfl) ?_
      obtain ⟨h16, hf⟩ := o_ite hf
      obtain ⟨μ17, h15, hf⟩ := o_bind hf
      refine pw_goV hw (pw_runV (As := []) (rest := []) hC mm_X4_startDraft tw_865 (c_X4_startDraft h15 _) ⟨rfl, rfl, by decide, by decide⟩ hw h16 rfl hl.1 (Nat.le_of_ble_eq_true rfl) ⟨by decide, by decide⟩ rfl dX6_drop_19) (fun H locs hw => ?_)
      refine lv_aload_n hx hb dX6_drop_22 rfl (lv_at hl 1 rfl) ?_
      refine lv_iconst (v := 0) hx hb dX6_drop_23 nc_iconst_0 ?_
      refine lv_iload_n hx hb dX6_drop_24 rfl (lv_at hl 0 rfl) ?_
      obtain ⟨h19, hf⟩ := o_ite hf
      obtain ⟨μ20, h18, hf⟩ := o_bind hf
      refine pw_goV hw (pw_runV (As := [.int 0, .int v13]) (rest := []) hC mm_X4_keepElements tw_866 (c_X4_keepElements h18 _) ⟨rfl, rfl, by decide, by decide⟩ hw h19 rfl hl.1 (Nat.le_of_ble_eq_true rfl) ⟨by decide, by decide⟩ rfl dX6_drop_25) (fun H locs hw => ?_)
      refine lv_aload_n hx hb dX6_drop_28 rfl (lv_at hl 1 rfl) ?_
      refine lv_iload_n hx hb dX6_drop_29 rfl (lv_at hl 0 rfl) ?_
      refine lv_iconst (v := 1) hx hb dX6_drop_30 nc_iconst_1 ?_
      refine lv_iadd hx hb dX6_drop_31 ?_
      refine lv_aload_n hx hb dX6_drop_32 rfl (lv_at hl 1 rfl) ?_
      obtain ⟨q21, h22, hf⟩ := o_bind hf
      refine pw_get hC fl_X6_105 hw (rdR_F h22) dX6_drop_33 ?_
      obtain ⟨v23, h24, hf⟩ := o_bind hf
      refine pw_get hC fl_X6_140 hw (rdI_F h24) dX6_drop_36 ?_
      obtain ⟨h26, hf⟩ := o_ite hf
      obtain ⟨μ27, h25, hf⟩ := o_bind hf
      refine pw_goV hw (pw_runV (As := [.int (v13 + 1), .int v23]) (rest := []) hC mm_X4_keepElements tw_866 (c_X4_keepElements h25 _) ⟨rfl, rfl, by decide, by decide⟩ hw h26 rfl hl.1 (Nat.le_of_ble_eq_true rfl) ⟨by decide, by decide⟩ rfl dX6_drop_39) (fun H locs hw => ?_)
      refine lv_aload_n hx hb dX6_drop_42 rfl (lv_at hl 2 rfl) ?_
      refine lv_iload_n hx hb dX6_drop_43 rfl (lv_at hl 3 rfl) ?_
      refine lv_iload_n hx hb dX6_drop_44 rfl (lv_at hl 0 rfl) ?_
      obtain ⟨h29, hf⟩ := o_ite hf
      rcases o_bindX2 hf with ⟨er31, h28, rfl⟩ | ⟨r33, μ30, h28, hf⟩
      · exact pw_thru hw hno hlocks (pw_runVX (As := [.int a1, .int v13]) (rest := []) hC mm_X6_finishChange tw_813 (c_X6_finishChange hl0 h28) ⟨by decide, by decide⟩ hw hX h29 rfl hl.1 (Nat.le_of_ble_eq_true rfl) ⟨by decide, by decide⟩ rfl dX6_drop_45) (by decide) (by decide)
      · refine pw_goX hw (pw_runVX (As := [.int a1, .int v13]) (rest := []) hC mm_X6_finishChange tw_813 (c_X6_finishChange hl0 h28) ⟨by decide, by decide⟩ hw hX h29 rfl hl.1 (Nat.le_of_ble_eq_true rfl) ⟨by decide, by decide⟩ rfl dX6_drop_45) (fun H locs hw => ?_)
        refine W.eq (g2 := F0 m 48 ls [.int r33]) rfl ?_
        refine W.widen (k := 4) (n := 24) (by decide) (by decide) ?_
        obtain rfl := o_retv hf
        exact pw_xiret hC hr hlocks (by decide) (by decide) hw dX6_drop_48
theorem dX6_move_0 : decode cX6_move 0 = .ok (.aload_n 0, 1) := by decide +kernel
theorem dX6_move_1 : decode cX6_move 1 = .ok (.iload_n 1, 1) := by decide +kernel
theorem dX6_move_2 : decode cX6_move 2 = .ok (.invokevirtual 95, 3) := by decide +kernel
theorem dX6_move_5 : decode cX6_move 5 = .ok (.astore_n 3, 1) := by decide +kernel
theorem dX6_move_6 : decode cX6_move 6 = .ok (.aload_n 3, 1) := by decide +kernel
theorem dX6_move_7 : decode cX6_move 7 = .ok (.invokestatic 173, 3) := by decide +kernel
theorem dX6_move_10 : decode cX6_move 10 = .ok (.aload_n 3, 1) := by decide +kernel
theorem dX6_move_11 : decode cX6_move 11 = .ok (.getfield 105, 3) := by decide +kernel
theorem dX6_move_14 : decode cX6_move 14 = .ok (.iload_n 2, 1) := by decide +kernel
theorem dX6_move_15 : decode cX6_move 15 = .ok (.invokevirtual 108, 3) := by decide +kernel
theorem dX6_move_18 : decode cX6_move 18 = .ok (.ifCond .ne 5, 3) := by decide +kernel
theorem dX6_move_21 : decode cX6_move 21 = .ok (.iconst 0, 1) := by decide +kernel
theorem dX6_move_22 : decode cX6_move 22 = .ok (.ireturn, 1) := by decide +kernel
theorem dX6_move_23 : decode cX6_move 23 = .ok (.aload_n 3, 1) := by decide +kernel
theorem dX6_move_24 : decode cX6_move 24 = .ok (.getfield 105, 3) := by decide +kernel
theorem dX6_move_27 : decode cX6_move 27 = .ok (.getfield 112, 3) := by decide +kernel
theorem dX6_move_30 : decode cX6_move 30 = .ok (.istore 4, 2) := by decide +kernel
theorem dX6_move_32 : decode cX6_move 32 = .ok (.aload_n 3, 1) := by decide +kernel
theorem dX6_move_33 : decode cX6_move 33 = .ok (.invokevirtual 247, 3) := by decide +kernel
theorem dX6_move_36 : decode cX6_move 36 = .ok (.aload_n 3, 1) := by decide +kernel
theorem dX6_move_37 : decode cX6_move 37 = .ok (.iconst 0, 1) := by decide +kernel
theorem dX6_move_38 : decode cX6_move 38 = .ok (.iload_n 2, 1) := by decide +kernel
theorem dX6_move_39 : decode cX6_move 39 = .ok (.iload 4, 2) := by decide +kernel
theorem dX6_move_41 : decode cX6_move 41 = .ok (.invokestatic 267, 3) := by decide +kernel
theorem dX6_move_44 : decode cX6_move 44 = .ok (.invokevirtual 250, 3) := by decide +kernel
theorem dX6_move_47 : decode cX6_move 47 = .ok (.iload_n 2, 1) := by decide +kernel
theorem dX6_move_48 : decode cX6_move 48 = .ok (.iload 4, 2) := by decide +kernel
theorem dX6_move_50 : decode cX6_move 50 = .ok (.if_icmp .le 14, 3) := by decide +kernel
theorem dX6_move_53 : decode cX6_move 53 = .ok (.aload_n 3, 1) := by decide +kernel
theorem dX6_move_54 : decode cX6_move 54 = .ok (.iload 4, 2) := by decide +kernel
theorem dX6_move_56 : decode cX6_move 56 = .ok (.iconst 1, 1) := by decide +kernel
theorem dX6_move_57 : decode cX6_move 57 = .ok (.iadd, 1) := by decide +kernel
theorem dX6_move_58 : decode cX6_move 58 = .ok (.iload_n 2, 1) := by decide +kernel
theorem dX6_move_59 : decode cX6_move 59 = .ok (.iconst 1, 1) := by decide +kernel
theorem dX6_move_60 : decode cX6_move 60 = .ok (.iadd, 1) := by decide +kernel
theorem dX6_move_61 : decode cX6_move 61 = .ok (.invokevirtual 250, 3) := by decide +kernel
theorem dX6_move_64 : decode cX6_move 64 = .ok (.aload_n 3, 1) := by decide +kernel
theorem dX6_move_65 : decode cX6_move 65 = .ok (.iload 4, 2) := by decide +kernel
theorem dX6_move_67 : decode cX6_move 67 = .ok (.iload 4, 2) := by decide +kernel
theorem dX6_move_69 : decode cX6_move 69 = .ok (.iconst 1, 1) := by decide +kernel
theorem dX6_move_70 : decode cX6_move 70 = .ok (.iadd, 1) := by decide +kernel
theorem dX6_move_71 : decode cX6_move 71 = .ok (.invokevirtual 250, 3) := by decide +kernel
theorem dX6_move_74 : decode cX6_move 74 = .ok (.iload_n 2, 1) := by decide +kernel
theorem dX6_move_75 : decode cX6_move 75 = .ok (.iload 4, 2) := by decide +kernel
theorem dX6_move_77 : decode cX6_move 77 = .ok (.if_icmp .ge 10, 3) := by decide +kernel
theorem dX6_move_80 : decode cX6_move 80 = .ok (.aload_n 3, 1) := by decide +kernel
theorem dX6_move_81 : decode cX6_move 81 = .ok (.iload_n 2, 1) := by decide +kernel
theorem dX6_move_82 : decode cX6_move 82 = .ok (.iload 4, 2) := by decide +kernel
theorem dX6_move_84 : decode cX6_move 84 = .ok (.invokevirtual 250, 3) := by decide +kernel
theorem dX6_move_87 : decode cX6_move 87 = .ok (.aload_n 3, 1) := by decide +kernel
theorem dX6_move_88 : decode cX6_move 88 = .ok (.iload_n 2, 1) := by decide +kernel
theorem dX6_move_89 : decode cX6_move 89 = .ok (.iload 4, 2) := by decide +kernel
theorem dX6_move_91 : decode cX6_move 91 = .ok (.invokestatic 272, 3) := by decide +kernel
theorem dX6_move_94 : decode cX6_move 94 = .ok (.iconst 1, 1) := by decide +kernel
theorem dX6_move_95 : decode cX6_move 95 = .ok (.iadd, 1) := by decide +kernel
theorem dX6_move_96 : decode cX6_move 96 = .ok (.aload_n 3, 1) := by decide +kernel
theorem dX6_move_97 : decode cX6_move 97 = .ok (.getfield 105, 3) := by decide +kernel
theorem dX6_move_100 : decode cX6_move 100 = .ok (.getfield 140, 3) := by decide +kernel
theorem dX6_move_103 : decode cX6_move 103 = .ok (.invokevirtual 250, 3) := by decide +kernel
theorem dX6_move_106 : decode cX6_move 106 = .ok (.aload_n 0, 1) := by decide +kernel
theorem dX6_move_107 : decode cX6_move 107 = .ok (.iload_n 1, 1) := by decide +kernel
theorem dX6_move_108 : decode cX6_move 108 = .ok (.iload_n 2, 1) := by decide +kernel
theorem dX6_move_109 : decode cX6_move 109 = .ok (.invokevirtual 236, 3) := by decide +kernel
theorem dX6_move_112 : decode cX6_move 112 = .ok (.pop, 1) := by decide +kernel
theorem dX6_move_113 : decode cX6_move 113 = .ok (.iconst 1, 1) := by decide +kernel
theorem dX6_move_114 : decode cX6_move 114 = .ok (.ireturn, 1) := by decide +kernel
abbrev rm_X6_move : Room := { frames := 8, cells := 4, slots := 24, locals := 149 }
def f_X6_move_L87 (cy : Nat → ClassId) (a0 : Nat) (a1 : Int32) (a2 : Int32) (a3 : Nat) (a4 : Int32) (μ : Mem) : Option ((String × Mem) ⊕ (Int32 × Mem)) :=
  (rdR μ a3 3 1).bind fun q101 => (rdI μ q101 0 7).bind fun v103 => if isO μ a3 3 = true then ((f_X4_keepElements cy a3 ((if a2 < a4 then a4 else a2) + 1) v103 μ).bind fun μ107 => if isO μ107 a0 5 = true then (obX2 (f_X6_finishChange cy a0 a1 a2 μ107) fun r113 μ110 => some (.inr (1, μ110))) else none) else none
set_option maxRecDepth 100000 in
set_option maxHeartbeats 4000000 in
theorem w_X6_move_L87 {p : Program} {l : Launch} {e : Env} {s : State} {m : MethodId} {args : Array Value} {below : List Frame} {meth : Method} {c : Code} {A : Nat → Prop} {g : Wg} {L : List Nat} {res : ((String × Mem) ⊕ (Int32 × Mem))} (hC : CX p m c cX6_move 5 s args RX6) (hr : meth.sig.returnType = (some .boolean)) (hlocks : meth.locks = false) (hl0 : l.stackTraces = false) (hX : XS A s s.heap) (hno : ∀ x ∈ c.exceptionTable.toList, False) : ∀ (a0 : Nat) (a1 : Int32) (a2 : Int32) (a3 : Nat) (a4 : Int32) (μ : Mem) (H : Heap) (locs : List Loc) (ls : Array Slot), lv_has ls 5 [(0, .ref a0), (1, .int a1), (2, .int a2), (3, .ref a3), (4, .int a4)] → PW g L μ A s H locs → f_X6_move_L87 g.2 a0 a1 a2 a3 a4 μ = some res → W p l e rm_X6_move s m args below meth c H locs 2 12 (vx_MQ below (QX g L A (rvI res)) (XX g L A (rvI res)) args s 4 24 A) (F0 m 87 ls []) := by
  have hx := hC.1
  have hb := hC.2.1
  intro a0 a1 a2 a3 a4 μ H locs ls hl hw hf
  unfold f_X6_move_L87 at hf
  refine lv_aload_n hx hb dX6_move_87 rfl (lv_at hl 3 rfl) ?_
  refine lv_iload_n hx hb dX6_move_88 rfl (lv_at hl 2 rfl) ?_
  refine lv_iload hx hb dX6_move_89 (lv_at hl 4 rfl) ?_
  refine va_mmax hx hb (hC.2.2.1.trans hl.1.symm) hC.2.2.2.1 (hC.2.2.2.2 _ tw_899) (hC.2.2.2.2 _ tw_35) (hC.2.2.2.2 _ tw_3) (hC.2.2.2.2 _ tw_36) (by decide) (Nat.le_of_ble_eq_true rfl) (by first | exact Nat.zero_le _ | decide) (by first | exact Nat.zero_le _ | decide) dX6_move_91 ?_
  refine lv_iconst (v := 1) hx hb dX6_move_94 nc_iconst_1 ?_
  refine lv_iadd hx hb dX6_move_95 ?_
  refine lv_aload_n hx hb dX6_move_96 rfl (lv_at hl 3 rfl) ?_
  obtain ⟨q101, h102, hf⟩ := o_bind hf
  refine pw_get hC fl_X6_105 hw (rdR_F h102) dX6_move_97 ?_
  obtain ⟨v103, h104, hf⟩ := o_bind hf
  refine pw_get hC fl_X6_140 hw (rdI_F h104) dX6_move_100 ?_
  obtain ⟨h106, hf⟩ := o_ite hf
  obtain ⟨μ107, h105, hf⟩ := o_bind hf
  refine pw_goV hw (pw_runV (As := [.int ((if a2 < a4 then a4 else a2) + 1), .int v103]) (rest := []) hC mm_X4_keepElements tw_866 (c_X4_keepElements h105 _) ⟨rfl, rfl, by decide, by decide⟩ hw h106 rfl hl.1 (Nat.le_of_ble_eq_true rfl) ⟨by decide, by decide⟩ rfl dX6_move_103) (fun H locs hw => ?_)
  refine lv_aload_n hx hb dX6_move_106 rfl (lv_at hl 0 rfl) ?_
  refine lv_iload_n hx hb dX6_move_107 rfl (lv_at hl 1 rfl) ?_
  refine lv_iload_n hx hb dX6_move_108 rfl (lv_at hl 2 rfl) ?_
  obtain ⟨h109, hf⟩ := o_ite hf
  rcases o_bindX2 hf with ⟨er111, h108, rfl⟩ | ⟨r113, μ110, h108, hf⟩
  · exact pw_thru hw hno hlocks (pw_runVX (As := [.int a1, .int a2]) (rest := []) hC mm_X6_finishChange tw_813 (c_X6_finishChange hl0 h108) ⟨by decide, by decide⟩ hw hX h109 rfl hl.1 (Nat.le_of_ble_eq_true rfl) ⟨by decide, by decide⟩ rfl dX6_move_109) (by decide) (by decide)
  · refine pw_goX hw (pw_runVX (As := [.int a1, .int a2]) (rest := []) hC mm_X6_finishChange tw_813 (c_X6_finishChange hl0 h108) ⟨by decide, by decide⟩ hw hX h109 rfl hl.1 (Nat.le_of_ble_eq_true rfl) ⟨by decide, by decide⟩ rfl dX6_move_109) (fun H locs hw => ?_)
    refine W.eq (g2 := F0 m 112 ls [.int r113]) rfl ?_
    refine W.widen (k := 4) (n := 24) (by decide) (by decide) ?_
    refine lv_pop hx hb dX6_move_112 rfl ?_
    refine lv_iconst (v := 1) hx hb dX6_move_113 nc_iconst_1 ?_
    obtain rfl := o_retv hf
    exact pw_xzret hC hr hlocks (Or.inr rfl) (by decide) (by decide) hw dX6_move_114
def f_X6_move_L64 (cy : Nat → ClassId) (a0 : Nat) (a1 : Int32) (a2 : Int32) (a3 : Nat) (a4 : Int32) (μ : Mem) : Option ((String × Mem) ⊕ (Int32 × Mem)) :=
  if isO μ a3 3 = true then ((f_X4_keepElements cy a3 a4 (a4 + 1) μ).bind fun μ103 => if a4 ≤ a2 then (f_X6_move_L87 cy a0 a1 a2 a3 a4 μ103) else if isO μ103 a3 3 = true then ((f_X4_keepElements cy a3 a2 a4 μ103).bind fun μ107 => f_X6_move_L87 cy a0 a1 a2 a3 a4 μ107) else none) else none
set_option maxRecDepth 100000 in
set_option maxHeartbeats 4000000 in
theorem w_X6_move_L64 {p : Program} {l : Launch} {e : Env} {s : State} {m : MethodId} {args : Array Value} {below : List Frame} {meth : Method} {c : Code} {A : Nat → Prop} {g : Wg} {L : List Nat} {res : ((String × Mem) ⊕ (Int32 × Mem))} (hC : CX p m c cX6_move 5 s args RX6) (hr : meth.sig.returnType = (some .boolean)) (hlocks : meth.locks = false) (hl0 : l.stackTraces = false) (hX : XS A s s.heap) (hno : ∀ x ∈ c.exceptionTable.toList, False) : ∀ (a0 : Nat) (a1 : Int32) (a2 : Int32) (a3 : Nat) (a4 : Int32) (μ : Mem) (H : Heap) (locs : List Loc) (ls : Array Slot), lv_has ls 5 [(0, .ref a0), (1, .int a1), (2, .int a2), (3, .ref a3), (4, .int a4)] → PW g L μ A s H locs → f_X6_move_L64 g.2 a0 a1 a2 a3 a4 μ = some res → W p l e rm_X6_move s m args below meth c H locs 2 12 (vx_MQ below (QX g L A (rvI res)) (XX g L A (rvI res)) args s 4 24 A) (F0 m 64 ls []) := by
  have hx := hC.1
  have hb := hC.2.1
  intro a0 a1 a2 a3 a4 μ H locs ls hl hw hf
  unfold f_X6_move_L64 at hf
  refine lv_aload_n hx hb dX6_move_64 rfl (lv_at hl 3 rfl) ?_
  refine lv_iload hx hb dX6_move_65 (lv_at hl 4 rfl) ?_
  refine lv_iload hx hb dX6_move_67 (lv_at hl 4 rfl) ?_
  refine lv_iconst (v := 1) hx hb dX6_move_69 nc_iconst_1 ?_
  refine lv_iadd hx hb dX6_move_70 ?_
  obtain ⟨h102, hf⟩ := o_ite hf
  obtain ⟨μ103, h101, hf⟩ := o_bind hf
  refine pw_goV hw (pw_runV (As := [.int a4, .int (a4 + 1)]) (rest := []) hC mm_X4_keepElements tw_866 (c_X4_keepElements h101 _) ⟨rfl, rfl, by decide, by decide⟩ hw h102 rfl hl.1 (Nat.le_of_ble_eq_true rfl) ⟨by decide, by decide⟩ rfl dX6_move_71) (fun H locs hw => ?_)
  refine lv_iload_n hx hb dX6_move_74 rfl (lv_at hl 2 rfl) ?_
  refine lv_iload hx hb dX6_move_75 (lv_at hl 4 rfl) ?_
  refine lv_icmp_ge (tgt := 87) hx hb dX6_move_77 (by decide) (fun c104 => ?_) (fun c104 => ?_)
  · have hf := o_pos c104 hf
    refine W.widen (k := 2) (n := 12) (by decide) (by decide) ?_
    exact w_X6_move_L87 hC hr hlocks hl0 hX hno _ _ _ _ _ _ _ _ ls (lv_sub hl [0, 1, 2, 3, 4] rfl) hw hf
  · have hf := o_neg c104 hf
    refine lv_aload_n hx hb dX6_move_80 rfl (lv_at hl 3 rfl) ?_
    refine lv_iload_n hx hb dX6_move_81 rfl (lv_at hl 2 rfl) ?_
    refine lv_iload hx hb dX6_move_82 (lv_at hl 4 rfl) ?_
    obtain ⟨h106, hf⟩ := o_ite hf
    obtain ⟨μ107, h105, hf⟩ := o_bind hf
    refine pw_goV hw (pw_runV (As := [.int a2, .int a4]) (rest := []) hC mm_X4_keepElements tw_866 (c_X4_keepElements h105 _) ⟨rfl, rfl, by decide, by decide⟩ hw h106 rfl hl.1 (Nat.le_of_ble_eq_true rfl) ⟨by decide, by decide⟩ rfl dX6_move_84) (fun H locs hw => ?_)
    refine W.widen (k := 2) (n := 12) (by decide) (by decide) ?_
    exact w_X6_move_L87 hC hr hlocks hl0 hX hno _ _ _ _ _ _ _ _ ls (lv_sub hl [0, 1, 2, 3, 4] rfl) hw hf
def f_X6_move (cy : Nat → ClassId) (a0 : Nat) (a1 : Int32) (a2 : Int32) (μ : Mem) : Option ((String × Mem) ⊕ (Int32 × Mem)) :=
  if isO μ a0 5 = true then (obX2 (f_X6_shelfOf cy a0 a1 μ) fun q6 μ3 => obX (f_X6_refuseNoElement cy q6 μ3) fun μ8 => (rdR μ8 q6 3 1).bind fun q11 => if isO μ8 q11 0 = true then (ob2 (f_X0_hasElement cy q11 a2 μ8) fun r16 μ15 => if r16 = 0 then (some (.inr (0, μ15))) else (rdR μ15 q6 3 1).bind fun q18 => (rdI μ15 q18 0 5).bind fun v20 => if isO μ15 q6 3 = true then ((f_X4_startDraft cy q6 μ15).bind fun μ24 => if isO μ24 q6 3 = true then ((f_X4_keepElements cy q6 0 (if v20 < a2 then v20 else a2) μ24).bind fun μ27 => if a2 ≤ v20 then (f_X6_move_L64 cy a0 a1 a2 q6 v20 μ27) else if isO μ27 q6 3 = true then ((f_X4_keepElements cy q6 (v20 + 1) (a2 + 1) μ27).bind fun μ31 => f_X6_move_L64 cy a0 a1 a2 q6 v20 μ31) else none) else none) else none) else none) else none
set_option maxRecDepth 100000 in
set_option maxHeartbeats 4000000 in
theorem c_X6_move {l : Launch} {g : Wg} {L : List Nat} {μ : Mem} {a0 : Nat} {a1 : Int32} {a2 : Int32} {res : ((String × Mem) ⊕ (Int32 × Mem))} (hl0 : l.stackTraces = false) (hf : f_X6_move g.2 a0 a1 a2 μ = some res) : MetX l yX6_move cX6_move 5 (some .boolean) rm_X6_move g L μ [.ref a0, .int a1, .int a2] (rvI res) := by
  refine pw_metX (by decide) (Nat.le_of_ble_eq_true rfl) ?_
  intro p e s m args below meth c A ls H locs hC hr hlocks hl hw hX hno
  have hx := hC.1
  have hb := hC.2.1
  have hl : lv_has ls 5 [(0, .ref a0), (1, .int a1), (2, .int a2)] := hl
  unfold f_X6_move at hf
  refine lv_aload_n hx hb dX6_move_0 rfl (lv_at hl 0 rfl) ?_
  refine lv_iload_n hx hb dX6_move_1 rfl (lv_at hl 1 rfl) ?_
  obtain ⟨h2, hf⟩ := o_ite hf
  rcases o_bindX2 hf with ⟨er4, h1, rfl⟩ | ⟨q6, μ3, h1, hf⟩
  · exact pw_thru hw hno hlocks (pw_runVX (As := [.int a1]) (rest := []) hC mm_X6_shelfOf tw_429 (c_X6_shelfOf hl0 h1) ⟨by decide, by decide⟩ hw hX h2 rfl hl.1 (Nat.le_of_ble_eq_true rfl) ⟨by decide, by decide⟩ rfl dX6_move_2) (by decide) (by decide)
  · refine pw_goX hw (pw_runVX (As := [.int a1]) (rest := []) hC mm_X6_shelfOf tw_429 (c_X6_shelfOf hl0 h1) ⟨by decide, by decide⟩ hw hX h2 rfl hl.1 (Nat.le_of_ble_eq_true rfl) ⟨by decide, by decide⟩ rfl dX6_move_2) (fun H locs hw => ?_)
    refine W.eq (g2 := F0 m 5 ls [.ref q6]) rfl ?_
    refine W.widen (k := 1) (n := 6) (by decide) (by decide) ?_
    refine lv_astore_n (lv' := [(3, .ref q6), (0, .ref a0), (1, .int a1), (2, .int a2)]) hx hb dX6_move_5 rfl hl (by decide) rfl (fun ls hl => ?_)
    refine lv_aload_n hx hb dX6_move_6 rfl (lv_at hl 0 rfl) ?_
    rcases o_bindX hf with ⟨er9, h7, rfl⟩ | ⟨μ8, h7, hf⟩
    · exact pw_thru hw hno hlocks (pw_runSX (As := [.ref q6]) (rest := []) hC mm_X6_refuseNoElement tw_696 (c_X6_refuseNoElement hl0 h7) ⟨by decide, by decide⟩ hw hX rfl hl.1 (Nat.le_of_ble_eq_true rfl) ⟨by decide, by decide⟩ rfl dX6_move_7) (by decide) (by decide)
    · refine pw_goX hw (pw_runSX (As := [.ref q6]) (rest := []) hC mm_X6_refuseNoElement tw_696 (c_X6_refuseNoElement hl0 h7) ⟨by decide, by decide⟩ hw hX rfl hl.1 (Nat.le_of_ble_eq_true rfl) ⟨by decide, by decide⟩ rfl dX6_move_7) (fun H locs hw => ?_)
      refine W.eq (g2 := F0 m 10 ls []) rfl ?_
      refine W.widen (k := 2) (n := 12) (by decide) (by decide) ?_
      refine lv_aload_n hx hb dX6_move_10 rfl (lv_at hl 0 rfl) ?_
      obtain ⟨q11, h12, hf⟩ := o_bind hf
      refine pw_get hC fl_X6_105 hw (rdR_F h12) dX6_move_11 ?_
      refine lv_iload_n hx hb dX6_move_14 rfl (lv_at hl 3 rfl) ?_
      obtain ⟨h14, hf⟩ := o_ite hf
      obtain ⟨r16, μ15, h13, hf⟩ := o_bind2 hf
      refine pw_goI hw (pw_runV (As := [.int a2]) (rest := []) hC mm_X0_hasElement tw_584 (c_X0_hasElement h13 _) ⟨rfl, rfl, by decide, by decide⟩ hw h14 rfl hl.1 (Nat.le_of_ble_eq_true rfl) ⟨by decide, by decide⟩ rfl dX6_move_15) (fun H locs hw => ?_)
      refine lv_if_ne (tgt := 23) hx hb dX6_move_18 (by decide) (fun c17 => ?_) (fun c17 => ?_)
      · have hf := o_neg c17 hf
        refine lv_aload_n hx hb dX6_move_23 rfl (lv_at hl 0 rfl) ?_
        obtain ⟨q18, h19, hf⟩ := o_bind hf
        refine pw_get hC fl_X6_105 hw (rdR_F h19) dX6_move_24 ?_
        obtain ⟨v20, h21, hf⟩ := o_bind hf
        refine pw_get hC fl_X6_112 hw (rdI_F h21) dX6_move_27 ?_
        refine lv_istore (lv' := [(4, .int v20), (3, .ref q6), (0, .ref a0), (1, .int a1), (2, .int a2)]) hx hb dX6_move_30 hl (by decide) rfl (fun ls hl => ?_)
        refine lv_aload_n hx hb dX6_move_32 rfl (lv_at hl 1 rfl) ?_
        obtain ⟨h23, hf⟩ := o_ite hf
        obtain ⟨μ24, h22, hf⟩ := o_bind hf
        refine pw_goV hw (pw_runV (As := []) (rest := []) hC mm_X4_startDraft tw_865 (c_X4_startDraft h22 _) ⟨rfl, rfl, by decide, by decide⟩ hw h23 rfl hl.1 (Nat.le_of_ble_eq_true rfl) ⟨by decide, by decide⟩ rfl dX6_move_33) (fun H locs hw => ?_)
        refine lv_aload_n hx hb dX6_move_36 rfl (lv_at hl 1 rfl) ?_
        refine lv_iconst (v := 0) hx hb dX6_move_37 nc_iconst_0 ?_
        refine lv_iload_n hx hb dX6_move_38 rfl (lv_at hl 4 rfl) ?_
        refine lv_iload hx hb dX6_move_39 (lv_at hl 0 rfl) ?_
        refine va_mmin hx hb (hC.2.2.1.trans hl.1.symm) hC.2.2.2.1 (hC.2.2.2.2 _ tw_898) (hC.2.2.2.2 _ tw_284) (hC.2.2.2.2 _ tw_3) (hC.2.2.2.2 _ tw_285) (by decide) (Nat.le_of_ble_eq_true rfl) (by first | exact Nat.zero_le _ | decide) (by first | exact Nat.zero_le _ | decide) dX6_move_41 ?_
        obtain ⟨h26, hf⟩ := o_ite hf
        obtain ⟨μ27, h25, hf⟩ := o_bind hf
        refine pw_goV hw (pw_runV (As := [.int 0, .int (if v20 < a2 then v20 else a2)]) (rest := []) hC mm_X4_keepElements tw_866 (c_X4_keepElements h25 _) ⟨rfl, rfl, by decide, by decide⟩ hw h26 rfl hl.1 (Nat.le_of_ble_eq_true rfl) ⟨by decide, by decide⟩ rfl dX6_move_44) (fun H locs hw => ?_)
        refine lv_iload_n hx hb dX6_move_47 rfl (lv_at hl 4 rfl) ?_
        refine lv_iload hx hb dX6_move_48 (lv_at hl 0 rfl) ?_
        refine lv_icmp_le (tgt := 64) hx hb dX6_move_50 (by decide) (fun c28 => ?_) (fun c28 => ?_)
        · have hf := o_pos c28 hf
          refine W.widen (k := 2) (n := 12) (by decide) (by decide) ?_
          exact w_X6_move_L64 hC hr hlocks hl0 hX hno _ _ _ _ _ _ _ _ ls (lv_sub hl [2, 3, 4, 1, 0] rfl) hw hf
        · have hf := o_neg c28 hf
          refine lv_aload_n hx hb dX6_move_53 rfl (lv_at hl 1 rfl) ?_
          refine lv_iload hx hb dX6_move_54 (lv_at hl 0 rfl) ?_
          refine lv_iconst (v := 1) hx hb dX6_move_56 nc_iconst_1 ?_
          refine lv_iadd hx hb dX6_move_57 ?_
          refine lv_iload_n hx hb dX6_move_58 rfl (lv_at hl 4 rfl) ?_
          refine lv_iconst (v := 1) hx hb dX6_move_59 nc_iconst_1 ?_
          refine lv_iadd hx hb dX6_move_60 ?_
          obtain ⟨h30, hf⟩ := o_ite hf
          obtain ⟨μ31, h29, hf⟩ := o_bind hf
          refine pw_goV hw (pw_runV (As := [.int (v20 + 1), .int (a2 + 1)]) (rest := []) hC mm_X4_keepElements tw_866 (c_X4_keepElements h29 _) ⟨rfl, rfl, by decide, by decide⟩ hw h30 rfl hl.1 (Nat.le_of_ble_eq_true rfl) ⟨by decide, by decide⟩ rfl dX6_move_61) (fun H locs hw => ?_)
          refine W.widen (k := 2) (n := 12) (by decide) (by decide) ?_
          exact w_X6_move_L64 hC hr hlocks hl0 hX hno _ _ _ _ _ _ _ _ ls (lv_sub hl [2, 3, 4, 1, 0] rfl) hw hf
      · have hf := o_pos c17 hf
        refine lv_iconst (v := 0) hx hb dX6_move_21 nc_iconst_0 ?_
        obtain rfl := o_retv hf
        exact pw_xzret hC hr hlocks (Or.inl rfl) (by decide) (by decide) hw dX6_move_22
theorem dX6_copy_0 : decode cX6_copy 0 = .ok (.aload_n 0, 1) := by decide +kernel
theorem dX6_copy_1 : decode cX6_copy 1 = .ok (.iload_n 1, 1) := by decide +kernel
theorem dX6_copy_2 : decode cX6_copy 2 = .ok (.invokevirtual 95, 3) := by decide +kernel
theorem dX6_copy_5 : decode cX6_copy 5 = .ok (.astore_n 3, 1) := by decide +kernel
theorem dX6_copy_6 : decode cX6_copy 6 = .ok (.aload_n 0, 1) := by decide +kernel
theorem dX6_copy_7 : decode cX6_copy 7 = .ok (.iload_n 2, 1) := by decide +kernel
theorem dX6_copy_8 : decode cX6_copy 8 = .ok (.invokevirtual 95, 3) := by decide +kernel
theorem dX6_copy_11 : decode cX6_copy 11 = .ok (.astore 4, 2) := by decide +kernel
theorem dX6_copy_13 : decode cX6_copy 13 = .ok (.aload_n 3, 1) := by decide +kernel
theorem dX6_copy_14 : decode cX6_copy 14 = .ok (.invokestatic 173, 3) := by decide +kernel
theorem dX6_copy_17 : decode cX6_copy 17 = .ok (.aload 4, 2) := by decide +kernel
theorem dX6_copy_19 : decode cX6_copy 19 = .ok (.invokestatic 173, 3) := by decide +kernel
theorem dX6_copy_22 : decode cX6_copy 22 = .ok (.aload 4, 2) := by decide +kernel
theorem dX6_copy_24 : decode cX6_copy 24 = .ok (.invokevirtual 177, 3) := by decide +kernel
theorem dX6_copy_27 : decode cX6_copy 27 = .ok (.istore 5, 2) := by decide +kernel
theorem dX6_copy_29 : decode cX6_copy 29 = .ok (.aload_n 0, 1) := by decide +kernel
theorem dX6_copy_30 : decode cX6_copy 30 = .ok (.getfield 27, 3) := by decide +kernel
theorem dX6_copy_33 : decode cX6_copy 33 = .ok (.aload 4, 2) := by decide +kernel
theorem dX6_copy_35 : decode cX6_copy 35 = .ok (.getfield 102, 3) := by decide +kernel
theorem dX6_copy_38 : decode cX6_copy 38 = .ok (.iload 5, 2) := by decide +kernel
theorem dX6_copy_40 : decode cX6_copy 40 = .ok (.aload 4, 2) := by decide +kernel
theorem dX6_copy_42 : decode cX6_copy 42 = .ok (.invokevirtual 190, 3) := by decide +kernel
theorem dX6_copy_45 : decode cX6_copy 45 = .ok (.invokevirtual 275, 3) := by decide +kernel
theorem dX6_copy_48 : decode cX6_copy 48 = .ok (.istore 6, 2) := by decide +kernel
theorem dX6_copy_50 : decode cX6_copy 50 = .ok (.aload_n 3, 1) := by decide +kernel
theorem dX6_copy_51 : decode cX6_copy 51 = .ok (.getfield 105, 3) := by decide +kernel
theorem dX6_copy_54 : decode cX6_copy 54 = .ok (.invokevirtual 136, 3) := by decide +kernel
theorem dX6_copy_57 : decode cX6_copy 57 = .ok (.iload 6, 2) := by decide +kernel
theorem dX6_copy_59 : decode cX6_copy 59 = .ok (.iadd, 1) := by decide +kernel
theorem dX6_copy_60 : decode cX6_copy 60 = .ok (.bipush 24, 2) := by decide +kernel
theorem dX6_copy_62 : decode cX6_copy 62 = .ok (.if_icmp .le 7, 3) := by decide +kernel
theorem dX6_copy_65 : decode cX6_copy 65 = .ok (.iconst 1, 1) := by decide +kernel
theorem dX6_copy_66 : decode cX6_copy 66 = .ok (.goto 4, 3) := by decide +kernel
theorem dX6_copy_69 : decode cX6_copy 69 = .ok (.iconst 0, 1) := by decide +kernel
theorem dX6_copy_70 : decode cX6_copy 70 = .ok (.istore 7, 2) := by decide +kernel
theorem dX6_copy_72 : decode cX6_copy 72 = .ok (.aload_n 0, 1) := by decide +kernel
theorem dX6_copy_73 : decode cX6_copy 73 = .ok (.iload 7, 2) := by decide +kernel
theorem dX6_copy_75 : decode cX6_copy 75 = .ok (.ifCond .eq 8, 3) := by decide +kernel
theorem dX6_copy_78 : decode cX6_copy 78 = .ok (.bipush 8, 2) := by decide +kernel
theorem dX6_copy_80 : decode cX6_copy 80 = .ok (.goto 4, 3) := by decide +kernel
theorem dX6_copy_83 : decode cX6_copy 83 = .ok (.iconst 0, 1) := by decide +kernel
theorem dX6_copy_84 : decode cX6_copy 84 = .ok (.iload 7, 2) := by decide +kernel
theorem dX6_copy_86 : decode cX6_copy 86 = .ok (.ifCond .eq 7, 3) := by decide +kernel
theorem dX6_copy_89 : decode cX6_copy 89 = .ok (.iconst 0, 1) := by decide +kernel
theorem dX6_copy_90 : decode cX6_copy 90 = .ok (.goto 4, 3) := by decide +kernel
theorem dX6_copy_93 : decode cX6_copy 93 = .ok (.iconst (-1), 1) := by decide +kernel
theorem dX6_copy_94 : decode cX6_copy 94 = .ok (.invokevirtual 99, 3) := by decide +kernel
theorem dX6_copy_97 : decode cX6_copy 97 = .ok (.aload_n 3, 1) := by decide +kernel
theorem dX6_copy_98 : decode cX6_copy 98 = .ok (.iload 5, 2) := by decide +kernel
theorem dX6_copy_100 : decode cX6_copy 100 = .ok (.aload 4, 2) := by decide +kernel
theorem dX6_copy_102 : decode cX6_copy 102 = .ok (.getfield 102, 3) := by decide +kernel
theorem dX6_copy_105 : decode cX6_copy 105 = .ok (.aload 4, 2) := by decide +kernel
theorem dX6_copy_107 : decode cX6_copy 107 = .ok (.invokevirtual 190, 3) := by decide +kernel
theorem dX6_copy_110 : decode cX6_copy 110 = .ok (.aload 4, 2) := by decide +kernel
theorem dX6_copy_112 : decode cX6_copy 112 = .ok (.invokevirtual 264, 3) := by decide +kernel
theorem dX6_copy_115 : decode cX6_copy 115 = .ok (.invokevirtual 232, 3) := by decide +kernel
theorem dX6_copy_118 : decode cX6_copy 118 = .ok (.aload_n 0, 1) := by decide +kernel
theorem dX6_copy_119 : decode cX6_copy 119 = .ok (.iload_n 1, 1) := by decide +kernel
theorem dX6_copy_120 : decode cX6_copy 120 = .ok (.aload_n 3, 1) := by decide +kernel
theorem dX6_copy_121 : decode cX6_copy 121 = .ok (.getfield 105, 3) := by decide +kernel
theorem dX6_copy_124 : decode cX6_copy 124 = .ok (.getfield 112, 3) := by decide +kernel
theorem dX6_copy_127 : decode cX6_copy 127 = .ok (.invokevirtual 236, 3) := by decide +kernel
theorem dX6_copy_130 : decode cX6_copy 130 = .ok (.ireturn, 1) := by decide +kernel
abbrev rm_X6_copy : Room := { frames := 126, cells := 7, slots := 42, locals := 3501 }
def f_X6_copy_L94 (cy : Nat → ClassId) (a0 : Nat) (a1 : Int32) (a3 : Nat) (a4 : Nat) (a5 : Int32) (t0 : Nat) (t1 : Int32) (t2 : Int32) (μ : Mem) : Option ((String × Mem) ⊕ (Int32 × Mem)) :=
  if isO μ t0 5 = true then (obX (f_X6_refuseFault cy t0 t1 t2 μ) fun μ103 => (rdR μ103 a4 3 0).bind fun q106 => if isO μ103 a4 3 = true then (ob2 (f_X4_valuePlace cy a4 μ103) fun r111 μ110 => if isO μ110 a4 3 = true then (ob2 (f_X4_valueEnd cy a4 μ110) fun r115 μ114 => if isO μ114 a3 3 = true then ((f_X4_draftValue cy a3 a5 q106 r111 r115 μ114).bind fun μ118 => (rdR μ118 a3 3 1).bind fun q119 => (rdI μ118 q119 0 5).bind fun v121 => if isO μ118 a0 5 = true then (obX2 (f_X6_finishChange cy a0 a1 v121 μ118) fun r128 μ125 => some (.inr (r128, μ125))) else none) else none) else none) else none) else none
set_option maxRecDepth 100000 in
set_option maxHeartbeats 4000000 in
theorem w_X6_copy_L94 {p : Program} {l : Launch} {e : Env} {s : State} {m : MethodId} {args : Array Value} {below : List Frame} {meth : Method} {c : Code} {A : Nat → Prop} {g : Wg} {L : List Nat} {res : ((String × Mem) ⊕ (Int32 × Mem))} (hC : CX p m c cX6_copy 8 s args RX6) (hr : meth.sig.returnType = (some .int)) (hlocks : meth.locks = false) (hl0 : l.stackTraces = false) (hX : XS A s s.heap) (hno : ∀ x ∈ c.exceptionTable.toList, False) : ∀ (a0 : Nat) (a1 : Int32) (a3 : Nat) (a4 : Nat) (a5 : Int32) (t0 : Nat) (t1 : Int32) (t2 : Int32) (μ : Mem) (H : Heap) (locs : List Loc) (ls : Array Slot), lv_has ls 8 [(0, .ref a0), (1, .int a1), (3, .ref a3), (4, .ref a4), (5, .int a5)] → PW g L μ A s H locs → f_X6_copy_L94 g.2 a0 a1 a3 a4 a5 t0 t1 t2 μ = some res → W p l e rm_X6_copy s m args below meth c H locs 4 24 (vx_MQ below (QX g L A (rvI res)) (XX g L A (rvI res)) args s 7 42 A) (F0 m 94 ls [.int t2, .int t1, .ref t0]) := by
  have hx := hC.1
  have hb := hC.2.1
  intro a0 a1 a3 a4 a5 t0 t1 t2 μ H locs ls hl hw hf
  unfold f_X6_copy_L94 at hf
  obtain ⟨h102, hf⟩ := o_ite hf
  rcases o_bindX hf with ⟨er104, h101, rfl⟩ | ⟨μ103, h101, hf⟩
  · exact pw_thru hw hno hlocks (pw_runVX (As := [.int t1, .int t2]) (rest := []) hC mm_X6_refuseFault tw_557 (c_X6_refuseFault hl0 h101) ⟨by decide, by decide⟩ hw hX h102 rfl hl.1 (Nat.le_of_ble_eq_true rfl) ⟨by decide, by decide⟩ rfl dX6_copy_94) (by decide) (by decide)
  · refine pw_goX hw (pw_runVX (As := [.int t1, .int t2]) (rest := []) hC mm_X6_refuseFault tw_557 (c_X6_refuseFault hl0 h101) ⟨by decide, by decide⟩ hw hX h102 rfl hl.1 (Nat.le_of_ble_eq_true rfl) ⟨by decide, by decide⟩ rfl dX6_copy_94) (fun H locs hw => ?_)
    refine W.eq (g2 := F0 m 97 ls []) rfl ?_
    refine W.widen (k := 5) (n := 30) (by decide) (by decide) ?_
    refine lv_aload_n hx hb dX6_copy_97 rfl (lv_at hl 2 rfl) ?_
    refine lv_iload hx hb dX6_copy_98 (lv_at hl 4 rfl) ?_
    refine lv_aload hx hb dX6_copy_100 (lv_at hl 3 rfl) ?_
    obtain ⟨q106, h107, hf⟩ := o_bind hf
    refine pw_get hC fl_X6_102 hw (rdR_F h107) dX6_copy_102 ?_
    refine lv_aload hx hb dX6_copy_105 (lv_at hl 3 rfl) ?_
    obtain ⟨h109, hf⟩ := o_ite hf
    obtain ⟨r111, μ110, h108, hf⟩ := o_bind2 hf
    refine pw_goI hw (pw_runV (As := []) (rest := [.ref q106, .int a5, .ref a3]) hC mm_X4_valuePlace tw_740 (c_X4_valuePlace h108 _) ⟨rfl, rfl, by decide, by decide⟩ hw h109 rfl hl.1 (Nat.le_of_ble_eq_true rfl) ⟨by decide, by decide⟩ rfl dX6_copy_107) (fun H locs hw => ?_)
    refine lv_aload hx hb dX6_copy_110 (lv_at hl 3 rfl) ?_
    obtain ⟨h113, hf⟩ := o_ite hf
    obtain ⟨r115, μ114, h112, hf⟩ := o_bind2 hf
    refine pw_goI hw (pw_runV (As := []) (rest := [.int r111, .ref q106, .int a5, .ref a3]) hC mm_X4_valueEnd tw_880 (c_X4_valueEnd h112 _) ⟨rfl, rfl, by decide, by decide⟩ hw h113 rfl hl.1 (Nat.le_of_ble_eq_true rfl) ⟨by decide, by decide⟩ rfl dX6_copy_112) (fun H locs hw => ?_)
    obtain ⟨h117, hf⟩ := o_ite hf
    obtain ⟨μ118, h116, hf⟩ := o_bind hf
    refine pw_goV hw (pw_runV (As := [.int a5, .ref q106, .int r111, .int r115]) (rest := []) hC mm_X4_draftValue tw_783 (c_X4_draftValue h116 _) ⟨rfl, rfl, by decide, by decide⟩ hw h117 rfl hl.1 (Nat.le_of_ble_eq_true rfl) ⟨by decide, by decide⟩ rfl dX6_copy_115) (fun H locs hw => ?_)
    refine lv_aload_n hx hb dX6_copy_118 rfl (lv_at hl 0 rfl) ?_
    refine lv_iload_n hx hb dX6_copy_119 rfl (lv_at hl 1 rfl) ?_
    refine lv_aload_n hx hb dX6_copy_120 rfl (lv_at hl 2 rfl) ?_
    obtain ⟨q119, h120, hf⟩ := o_bind hf
    refine pw_get hC fl_X6_105 hw (rdR_F h120) dX6_copy_121 ?_
    obtain ⟨v121, h122, hf⟩ := o_bind hf
    refine pw_get hC fl_X6_112 hw (rdI_F h122) dX6_copy_124 ?_
    obtain ⟨h124, hf⟩ := o_ite hf
    rcases o_bindX2 hf with ⟨er126, h123, rfl⟩ | ⟨r128, μ125, h123, hf⟩
    · exact pw_thru hw hno hlocks (pw_runVX (As := [.int a1, .int v121]) (rest := []) hC mm_X6_finishChange tw_813 (c_X6_finishChange hl0 h123) ⟨by decide, by decide⟩ hw hX h124 rfl hl.1 (Nat.le_of_ble_eq_true rfl) ⟨by decide, by decide⟩ rfl dX6_copy_127) (by decide) (by decide)
    · refine pw_goX hw (pw_runVX (As := [.int a1, .int v121]) (rest := []) hC mm_X6_finishChange tw_813 (c_X6_finishChange hl0 h123) ⟨by decide, by decide⟩ hw hX h124 rfl hl.1 (Nat.le_of_ble_eq_true rfl) ⟨by decide, by decide⟩ rfl dX6_copy_127) (fun H locs hw => ?_)
      refine W.eq (g2 := F0 m 130 ls [.int r128]) rfl ?_
      refine W.widen (k := 7) (n := 42) (by decide) (by decide) ?_
      obtain rfl := o_retv hf
      exact pw_xiret hC hr hlocks (by decide) (by decide) hw dX6_copy_130
def f_X6_copy_L84 (cy : Nat → ClassId) (a0 : Nat) (a1 : Int32) (a3 : Nat) (a4 : Nat) (a5 : Int32) (a7 : Int32) (t0 : Nat) (t1 : Int32) (μ : Mem) : Option ((String × Mem) ⊕ (Int32 × Mem)) :=
  if a7 = 0 then (f_X6_copy_L94 cy a0 a1 a3 a4 a5 t0 t1 (-1) μ) else f_X6_copy_L94 cy a0 a1 a3 a4 a5 t0 t1 0 μ
set_option maxRecDepth 100000 in
set_option maxHeartbeats 4000000 in
theorem w_X6_copy_L84 {p : Program} {l : Launch} {e : Env} {s : State} {m : MethodId} {args : Array Value} {below : List Frame} {meth : Method} {c : Code} {A : Nat → Prop} {g : Wg} {L : List Nat} {res : ((String × Mem) ⊕ (Int32 × Mem))} (hC : CX p m c cX6_copy 8 s args RX6) (hr : meth.sig.returnType = (some .int)) (hlocks : meth.locks = false) (hl0 : l.stackTraces = false) (hX : XS A s s.heap) (hno : ∀ x ∈ c.exceptionTable.toList, False) : ∀ (a0 : Nat) (a1 : Int32) (a3 : Nat) (a4 : Nat) (a5 : Int32) (a7 : Int32) (t0 : Nat) (t1 : Int32) (μ : Mem) (H : Heap) (locs : List Loc) (ls : Array Slot), lv_has ls 8 [(0, .ref a0), (1, .int a1), (3, .ref a3), (4, .ref a4), (5, .int a5), (7, .int a7)] → PW g L μ A s H locs → f_X6_copy_L84 g.2 a0 a1 a3 a4 a5 a7 t0 t1 μ = some res → W p l e rm_X6_copy s m args below meth c H locs 4 24 (vx_MQ below (QX g L A (rvI res)) (XX g L A (rvI res)) args s 7 42 A) (F0 m 84 ls [.int t1, .ref t0]) := by
  have hx := hC.1
  have hb := hC.2.1
  intro a0 a1 a3 a4 a5 a7 t0 t1 μ H locs ls hl hw hf
  unfold f_X6_copy_L84 at hf
  refine lv_iload hx hb dX6_copy_84 (lv_at hl 5 rfl) ?_
  refine lv_if_eq (tgt := 93) hx hb dX6_copy_86 (by decide) (fun c101 => ?_) (fun c101 => ?_)
  · have hf := o_pos c101 hf
    refine lv_iconst (v := (-1)) hx hb dX6_copy_93 nc_iconst_m1 ?_
    refine W.widen (k := 4) (n := 24) (by decide) (by decide) ?_
    exact w_X6_copy_L94 hC hr hlocks hl0 hX hno _ _ _ _ _ _ _ _ _ _ _ ls (lv_sub hl [0, 1, 2, 3, 4] rfl) hw hf
  · have hf := o_neg c101 hf
    refine lv_iconst (v := 0) hx hb dX6_copy_89 nc_iconst_0 ?_
    refine lv_goto (tgt := 94) hx hb dX6_copy_90 (by decide) ?_
    refine W.widen (k := 4) (n := 24) (by decide) (by decide) ?_
    exact w_X6_copy_L94 hC hr hlocks hl0 hX hno _ _ _ _ _ _ _ _ _ _ _ ls (lv_sub hl [0, 1, 2, 3, 4] rfl) hw hf
def f_X6_copy_L70 (cy : Nat → ClassId) (a0 : Nat) (a1 : Int32) (a3 : Nat) (a4 : Nat) (a5 : Int32) (t0 : Int32) (μ : Mem) : Option ((String × Mem) ⊕ (Int32 × Mem)) :=
  if t0 = 0 then (f_X6_copy_L84 cy a0 a1 a3 a4 a5 t0 a0 0 μ) else f_X6_copy_L84 cy a0 a1 a3 a4 a5 t0 a0 8 μ
set_option maxRecDepth 100000 in
set_option maxHeartbeats 4000000 in
theorem w_X6_copy_L70 {p : Program} {l : Launch} {e : Env} {s : State} {m : MethodId} {args : Array Value} {below : List Frame} {meth : Method} {c : Code} {A : Nat → Prop} {g : Wg} {L : List Nat} {res : ((String × Mem) ⊕ (Int32 × Mem))} (hC : CX p m c cX6_copy 8 s args RX6) (hr : meth.sig.returnType = (some .int)) (hlocks : meth.locks = false) (hl0 : l.stackTraces = false) (hX : XS A s s.heap) (hno : ∀ x ∈ c.exceptionTable.toList, False) : ∀ (a0 : Nat) (a1 : Int32) (a3 : Nat) (a4 : Nat) (a5 : Int32) (t0 : Int32) (μ : Mem) (H : Heap) (locs : List Loc) (ls : Array Slot), lv_has ls 8 [(0, .ref a0), (1, .int a1), (3, .ref a3), (4, .ref a4), (5, .int a5)] → PW g L μ A s H locs → f_X6_copy_L70 g.2 a0 a1 a3 a4 a5 t0 μ = some res → W p l e rm_X6_copy s m args below meth c H locs 4 24 (vx_MQ below (QX g L A (rvI res)) (XX g L A (rvI res)) args s 7 42 A) (F0 m 70 ls [.int t0]) := by
  have hx := hC.1
  have hb := hC.2.1
  intro a0 a1 a3 a4 a5 t0 μ H locs ls hl hw hf
  unfold f_X6_copy_L70 at hf
  refine lv_istore (lv' := [(7, .int t0), (0, .ref a0), (1, .int a1), (3, .ref a3), (4, .ref a4), (5, .int a5)]) hx hb dX6_copy_70 hl (by decide) rfl (fun ls hl => ?_)
  refine lv_aload_n hx hb dX6_copy_72 rfl (lv_at hl 1 rfl) ?_
  refine lv_iload hx hb dX6_copy_73 (lv_at hl 0 rfl) ?_
  refine lv_if_eq (tgt := 83) hx hb dX6_copy_75 (by decide) (fun c101 => ?_) (fun c101 => ?_)
  · have hf := o_pos c101 hf
    refine lv_iconst (v := 0) hx hb dX6_copy_83 nc_iconst_0 ?_
    refine W.widen (k := 4) (n := 24) (by decide) (by decide) ?_
    exact w_X6_copy_L84 hC hr hlocks hl0 hX hno _ _ _ _ _ _ _ _ _ _ _ ls (lv_sub hl [1, 2, 3, 4, 5, 0] rfl) hw hf
  · have hf := o_neg c101 hf
    refine lv_bipush (v := 8) hx hb dX6_copy_78 nc_bipush_8 ?_
    refine lv_goto (tgt := 84) hx hb dX6_copy_80 (by decide) ?_
    refine W.widen (k := 4) (n := 24) (by decide) (by decide) ?_
    exact w_X6_copy_L84 hC hr hlocks hl0 hX hno _ _ _ _ _ _ _ _ _ _ _ ls (lv_sub hl [1, 2, 3, 4, 5, 0] rfl) hw hf
def f_X6_copy (cy : Nat → ClassId) (a0 : Nat) (a1 : Int32) (a2 : Int32) (μ : Mem) : Option ((String × Mem) ⊕ (Int32 × Mem)) :=
  if isO μ a0 5 = true then (obX2 (f_X6_shelfOf cy a0 a1 μ) fun q6 μ3 => if isO μ3 a0 5 = true then (obX2 (f_X6_shelfOf cy a0 a2 μ3) fun q12 μ9 => obX (f_X6_refuseNoElement cy q6 μ9) fun μ14 => obX (f_X6_refuseNoElement cy q12 μ14) fun μ18 => if isO μ18 q12 3 = true then (ob2 (f_X4_elementType cy q12 μ18) fun r24 μ23 => (rdR μ23 a0 5 3).bind fun q25 => (rdR μ23 q12 3 0).bind fun q27 => if isO μ23 q12 3 = true then (ob2 (f_X4_valuePlace cy q12 μ23) fun r32 μ31 => if isO μ31 q25 1 = true then (ob2 (f_X2_levelsIn cy q25 q27 r24 r32 μ31) fun r36 μ35 => (rdR μ35 q6 3 1).bind fun q37 => if isO μ35 q37 0 = true then (ob2 (f_X0_depth cy q37 μ35) fun r42 μ41 => if (r42 + r36) ≤ 24 then (f_X6_copy_L70 cy a0 a1 q6 q12 r24 0 μ41) else f_X6_copy_L70 cy a0 a1 q6 q12 r24 1 μ41) else none) else none) else none) else none) else none) else none
set_option maxRecDepth 100000 in
set_option maxHeartbeats 4000000 in
theorem c_X6_copy {l : Launch} {g : Wg} {L : List Nat} {μ : Mem} {a0 : Nat} {a1 : Int32} {a2 : Int32} {res : ((String × Mem) ⊕ (Int32 × Mem))} (hl0 : l.stackTraces = false) (hf : f_X6_copy g.2 a0 a1 a2 μ = some res) : MetX l yX6_copy cX6_copy 8 (some .int) rm_X6_copy g L μ [.ref a0, .int a1, .int a2] (rvI res) := by
  refine pw_metX (by decide) (Nat.le_of_ble_eq_true rfl) ?_
  intro p e s m args below meth c A ls H locs hC hr hlocks hl hw hX hno
  have hx := hC.1
  have hb := hC.2.1
  have hl : lv_has ls 8 [(0, .ref a0), (1, .int a1), (2, .int a2)] := hl
  unfold f_X6_copy at hf
  refine lv_aload_n hx hb dX6_copy_0 rfl (lv_at hl 0 rfl) ?_
  refine lv_iload_n hx hb dX6_copy_1 rfl (lv_at hl 1 rfl) ?_
  obtain ⟨h2, hf⟩ := o_ite hf
  rcases o_bindX2 hf with ⟨er4, h1, rfl⟩ | ⟨q6, μ3, h1, hf⟩
  · exact pw_thru hw hno hlocks (pw_runVX (As := [.int a1]) (rest := []) hC mm_X6_shelfOf tw_429 (c_X6_shelfOf hl0 h1) ⟨by decide, by decide⟩ hw hX h2 rfl hl.1 (Nat.le_of_ble_eq_true rfl) ⟨by decide, by decide⟩ rfl dX6_copy_2) (by decide) (by decide)
  · refine pw_goX hw (pw_runVX (As := [.int a1]) (rest := []) hC mm_X6_shelfOf tw_429 (c_X6_shelfOf hl0 h1) ⟨by decide, by decide⟩ hw hX h2 rfl hl.1 (Nat.le_of_ble_eq_true rfl) ⟨by decide, by decide⟩ rfl dX6_copy_2) (fun H locs hw => ?_)
    refine W.eq (g2 := F0 m 5 ls [.ref q6]) rfl ?_
    refine W.widen (k := 1) (n := 6) (by decide) (by decide) ?_
    refine lv_astore_n (lv' := [(3, .ref q6), (0, .ref a0), (1, .int a1), (2, .int a2)]) hx hb dX6_copy_5 rfl hl (by decide) rfl (fun ls hl => ?_)
    refine lv_aload_n hx hb dX6_copy_6 rfl (lv_at hl 1 rfl) ?_
    refine lv_iload_n hx hb dX6_copy_7 rfl (lv_at hl 3 rfl) ?_
    obtain ⟨h8, hf⟩ := o_ite hf
    rcases o_bindX2 hf with ⟨er10, h7, rfl⟩ | ⟨q12, μ9, h7, hf⟩
    · exact pw_thru hw hno hlocks (pw_runVX (As := [.int a2]) (rest := []) hC mm_X6_shelfOf tw_429 (c_X6_shelfOf hl0 h7) ⟨by decide, by decide⟩ hw hX h8 rfl hl.1 (Nat.le_of_ble_eq_true rfl) ⟨by decide, by decide⟩ rfl dX6_copy_8) (by decide) (by decide)
    · refine pw_goX hw (pw_runVX (As := [.int a2]) (rest := []) hC mm_X6_shelfOf tw_429 (c_X6_shelfOf hl0 h7) ⟨by decide, by decide⟩ hw hX h8 rfl hl.1 (Nat.le_of_ble_eq_true rfl) ⟨by decide, by decide⟩ rfl dX6_copy_8) (fun H locs hw => ?_)
      refine W.eq (g2 := F0 m 11 ls [.ref q12]) rfl ?_
      refine W.widen (k := 2) (n := 12) (by decide) (by decide) ?_
      refine lv_astore (lv' := [(4, .ref q12), (3, .ref q6), (0, .ref a0), (1, .int a1), (2, .int a2)]) hx hb dX6_copy_11 hl (by decide) rfl (fun ls hl => ?_)
      refine lv_aload_n hx hb dX6_copy_13 rfl (lv_at hl 1 rfl) ?_
      rcases o_bindX hf with ⟨er15, h13, rfl⟩ | ⟨μ14, h13, hf⟩
      · exact pw_thru hw hno hlocks (pw_runSX (As := [.ref q6]) (rest := []) hC mm_X6_refuseNoElement tw_696 (c_X6_refuseNoElement hl0 h13) ⟨by decide, by decide⟩ hw hX rfl hl.1 (Nat.le_of_ble_eq_true rfl) ⟨by decide, by decide⟩ rfl dX6_copy_14) (by decide) (by decide)
      · refine pw_goX hw (pw_runSX (As := [.ref q6]) (rest := []) hC mm_X6_refuseNoElement tw_696 (c_X6_refuseNoElement hl0 h13) ⟨by decide, by decide⟩ hw hX rfl hl.1 (Nat.le_of_ble_eq_true rfl) ⟨by decide, by decide⟩ rfl dX6_copy_14) (fun H locs hw => ?_)
        refine W.eq (g2 := F0 m 17 ls []) rfl ?_
        refine W.widen (k := 3) (n := 18) (by decide) (by decide) ?_
        refine lv_aload hx hb dX6_copy_17 (lv_at hl 0 rfl) ?_
        rcases o_bindX hf with ⟨er19, h17, rfl⟩ | ⟨μ18, h17, hf⟩
        · exact pw_thru hw hno hlocks (pw_runSX (As := [.ref q12]) (rest := []) hC mm_X6_refuseNoElement tw_696 (c_X6_refuseNoElement hl0 h17) ⟨by decide, by decide⟩ hw hX rfl hl.1 (Nat.le_of_ble_eq_true rfl) ⟨by decide, by decide⟩ rfl dX6_copy_19) (by decide) (by decide)
        · refine pw_goX hw (pw_runSX (As := [.ref q12]) (rest := []) hC mm_X6_refuseNoElement tw_696 (c_X6_refuseNoElement hl0 h17) ⟨by decide, by decide⟩ hw hX rfl hl.1 (Nat.le_of_ble_eq_true rfl) ⟨by decide, by decide⟩ rfl dX6_copy_19) (fun H locs hw => ?_)
          refine W.eq (g2 := F0 m 22 ls []) rfl ?_
          refine W.widen (k := 4) (n := 24) (by decide) (by decide) ?_
          refine lv_aload hx hb dX6_copy_22 (lv_at hl 0 rfl) ?_
          obtain ⟨h22, hf⟩ := o_ite hf
          obtain ⟨r24, μ23, h21, hf⟩ := o_bind2 hf
          refine pw_goI hw (pw_runV (As := []) (rest := []) hC mm_X4_elementType tw_715 (c_X4_elementType h21 _) ⟨rfl, rfl, by decide, by decide⟩ hw h22 rfl hl.1 (Nat.le_of_ble_eq_true rfl) ⟨by decide, by decide⟩ rfl dX6_copy_24) (fun H locs hw => ?_)
          refine lv_istore (lv' := [(5, .int r24), (4, .ref q12), (3, .ref q6), (0, .ref a0), (1, .int a1), (2, .int a2)]) hx hb dX6_copy_27 hl (by decide) rfl (fun ls hl => ?_)
          refine lv_aload_n hx hb dX6_copy_29 rfl (lv_at hl 3 rfl) ?_
          obtain ⟨q25, h26, hf⟩ := o_bind hf
          refine pw_get hC fl_X6_27 hw (rdR_F h26) dX6_copy_30 ?_
          refine lv_aload hx hb dX6_copy_33 (lv_at hl 1 rfl) ?_
          obtain ⟨q27, h28, hf⟩ := o_bind hf
          refine pw_get hC fl_X6_102 hw (rdR_F h28) dX6_copy_35 ?_
          refine lv_iload hx hb dX6_copy_38 (lv_at hl 0 rfl) ?_
          refine lv_aload hx hb dX6_copy_40 (lv_at hl 1 rfl) ?_
          obtain ⟨h30, hf⟩ := o_ite hf
          obtain ⟨r32, μ31, h29, hf⟩ := o_bind2 hf
          refine pw_goI hw (pw_runV (As := []) (rest := [.int r24, .ref q27, .ref q25]) hC mm_X4_valuePlace tw_740 (c_X4_valuePlace h29 _) ⟨rfl, rfl, by decide, by decide⟩ hw h30 rfl hl.1 (Nat.le_of_ble_eq_true rfl) ⟨by decide, by decide⟩ rfl dX6_copy_42) (fun H locs hw => ?_)
          obtain ⟨h34, hf⟩ := o_ite hf
          obtain ⟨r36, μ35, h33, hf⟩ := o_bind2 hf
          refine pw_goI hw (pw_runV (As := [.ref q27, .int r24, .int r32]) (rest := []) hC mm_X2_levelsIn tw_907 (c_X2_levelsIn h33 _) ⟨rfl, rfl, by decide, by decide⟩ hw h34 rfl hl.1 (Nat.le_of_ble_eq_true rfl) ⟨by decide, by decide⟩ rfl dX6_copy_45) (fun H locs hw => ?_)
          refine lv_istore (lv' := [(6, .int r36), (5, .int r24), (4, .ref q12), (3, .ref q6), (0, .ref a0), (1, .int a1), (2, .int a2)]) hx hb dX6_copy_48 hl (by decide) rfl (fun ls hl => ?_)
          refine lv_aload_n hx hb dX6_copy_50 rfl (lv_at hl 3 rfl) ?_
          obtain ⟨q37, h38, hf⟩ := o_bind hf
          refine pw_get hC fl_X6_105 hw (rdR_F h38) dX6_copy_51 ?_
          obtain ⟨h40, hf⟩ := o_ite hf
          obtain ⟨r42, μ41, h39, hf⟩ := o_bind2 hf
          refine pw_goI hw (pw_runV (As := []) (rest := []) hC mm_X0_depth tw_660 (c_X0_depth h39 _) ⟨rfl, rfl, by decide, by decide⟩ hw h40 rfl hl.1 (Nat.le_of_ble_eq_true rfl) ⟨by decide, by decide⟩ rfl dX6_copy_54) (fun H locs hw => ?_)
          refine lv_iload hx hb dX6_copy_57 (lv_at hl 0 rfl) ?_
          refine lv_iadd hx hb dX6_copy_59 ?_
          refine lv_bipush (v := 24) hx hb dX6_copy_60 nc_bipush_24 ?_
          refine lv_icmp_le (tgt := 69) hx hb dX6_copy_62 (by decide) (fun c43 => ?_) (fun c43 => ?_)
          · have hf := o_pos c43 hf
            refine lv_iconst (v := 0) hx hb dX6_copy_69 nc_iconst_0 ?_
            refine W.widen (k := 4) (n := 24) (by decide) (by decide) ?_
            exact w_X6_copy_L70 hC hr hlocks hl0 hX hno _ _ _ _ _ _ _ _ _ ls (lv_sub hl [4, 5, 3, 2, 1] rfl) hw hf
          · have hf := o_neg c43 hf
            refine lv_iconst (v := 1) hx hb dX6_copy_65 nc_iconst_1 ?_
            refine lv_goto (tgt := 70) hx hb dX6_copy_66 (by decide) ?_
            refine W.widen (k := 4) (n := 24) (by decide) (by decide) ?_
            exact w_X6_copy_L70 hC hr hlocks hl0 hX hno _ _ _ _ _ _ _ _ _ ls (lv_sub hl [4, 5, 3, 2, 1] rfl) hw hf
theorem dX6_set_0 : decode cX6_set 0 = .ok (.aload_n 0, 1) := by decide +kernel
theorem dX6_set_1 : decode cX6_set 1 = .ok (.iload_n 1, 1) := by decide +kernel
theorem dX6_set_2 : decode cX6_set 2 = .ok (.invokevirtual 95, 3) := by decide +kernel
theorem dX6_set_5 : decode cX6_set 5 = .ok (.astore 5, 2) := by decide +kernel
theorem dX6_set_7 : decode cX6_set 7 = .ok (.aload 5, 2) := by decide +kernel
theorem dX6_set_9 : decode cX6_set 9 = .ok (.invokestatic 173, 3) := by decide +kernel
theorem dX6_set_12 : decode cX6_set 12 = .ok (.iconst 0, 1) := by decide +kernel
theorem dX6_set_13 : decode cX6_set 13 = .ok (.istore 6, 2) := by decide +kernel
theorem dX6_set_15 : decode cX6_set 15 = .ok (.iload_n 2, 1) := by decide +kernel
theorem dX6_set_16 : decode cX6_set 16 = .ok (.invokestatic 180, 3) := by decide +kernel
theorem dX6_set_19 : decode cX6_set 19 = .ok (.ifCond .ne 9, 3) := by decide +kernel
theorem dX6_set_22 : decode cX6_set 22 = .ok (.iconst 3, 1) := by decide +kernel
theorem dX6_set_23 : decode cX6_set 23 = .ok (.istore 6, 2) := by decide +kernel
theorem dX6_set_25 : decode cX6_set 25 = .ok (.goto 25, 3) := by decide +kernel
theorem dX6_set_28 : decode cX6_set 28 = .ok (.iload_n 2, 1) := by decide +kernel
theorem dX6_set_29 : decode cX6_set 29 = .ok (.bipush 8, 2) := by decide +kernel
theorem dX6_set_31 : decode cX6_set 31 = .ok (.if_icmp .ne 19, 3) := by decide +kernel
theorem dX6_set_34 : decode cX6_set 34 = .ok (.lload_n 3, 1) := by decide +kernel
theorem dX6_set_35 : decode cX6_set 35 = .ok (.lconst 0, 1) := by decide +kernel
theorem dX6_set_36 : decode cX6_set 36 = .ok (.lcmp, 1) := by decide +kernel
theorem dX6_set_37 : decode cX6_set 37 = .ok (.ifCond .eq 13, 3) := by decide +kernel
theorem dX6_set_40 : decode cX6_set 40 = .ok (.lload_n 3, 1) := by decide +kernel
theorem dX6_set_41 : decode cX6_set 41 = .ok (.lconst 1, 1) := by decide +kernel
theorem dX6_set_42 : decode cX6_set 42 = .ok (.lcmp, 1) := by decide +kernel
theorem dX6_set_43 : decode cX6_set 43 = .ok (.ifCond .eq 7, 3) := by decide +kernel
theorem dX6_set_46 : decode cX6_set 46 = .ok (.bipush 7, 2) := by decide +kernel
theorem dX6_set_48 : decode cX6_set 48 = .ok (.istore 6, 2) := by decide +kernel
theorem dX6_set_50 : decode cX6_set 50 = .ok (.aload_n 0, 1) := by decide +kernel
theorem dX6_set_51 : decode cX6_set 51 = .ok (.iload 6, 2) := by decide +kernel
theorem dX6_set_53 : decode cX6_set 53 = .ok (.iload 6, 2) := by decide +kernel
theorem dX6_set_55 : decode cX6_set 55 = .ok (.ifCond .ne 7, 3) := by decide +kernel
theorem dX6_set_58 : decode cX6_set 58 = .ok (.iconst (-1), 1) := by decide +kernel
theorem dX6_set_59 : decode cX6_set 59 = .ok (.goto 4, 3) := by decide +kernel
theorem dX6_set_62 : decode cX6_set 62 = .ok (.iconst 0, 1) := by decide +kernel
theorem dX6_set_63 : decode cX6_set 63 = .ok (.invokevirtual 99, 3) := by decide +kernel
theorem dX6_set_66 : decode cX6_set 66 = .ok (.aload_n 0, 1) := by decide +kernel
theorem dX6_set_67 : decode cX6_set 67 = .ok (.getfield 21, 3) := by decide +kernel
theorem dX6_set_70 : decode cX6_set 70 = .ok (.invokevirtual 278, 3) := by decide +kernel
theorem dX6_set_73 : decode cX6_set 73 = .ok (.aload_n 0, 1) := by decide +kernel
theorem dX6_set_74 : decode cX6_set 74 = .ok (.getfield 21, 3) := by decide +kernel
theorem dX6_set_77 : decode cX6_set 77 = .ok (.lload_n 3, 1) := by decide +kernel
theorem dX6_set_78 : decode cX6_set 78 = .ok (.iload_n 2, 1) := by decide +kernel
theorem dX6_set_79 : decode cX6_set 79 = .ok (.invokestatic 193, 3) := by decide +kernel
theorem dX6_set_82 : decode cX6_set 82 = .ok (.invokevirtual 63, 3) := by decide +kernel
theorem dX6_set_85 : decode cX6_set 85 = .ok (.aload 5, 2) := by decide +kernel
theorem dX6_set_87 : decode cX6_set 87 = .ok (.iload_n 2, 1) := by decide +kernel
theorem dX6_set_88 : decode cX6_set 88 = .ok (.aload_n 0, 1) := by decide +kernel
theorem dX6_set_89 : decode cX6_set 89 = .ok (.getfield 21, 3) := by decide +kernel
theorem dX6_set_92 : decode cX6_set 92 = .ok (.iconst 0, 1) := by decide +kernel
theorem dX6_set_93 : decode cX6_set 93 = .ok (.aload_n 0, 1) := by decide +kernel
theorem dX6_set_94 : decode cX6_set 94 = .ok (.getfield 21, 3) := by decide +kernel
theorem dX6_set_97 : decode cX6_set 97 = .ok (.getfield 73, 3) := by decide +kernel
theorem dX6_set_100 : decode cX6_set 100 = .ok (.invokevirtual 232, 3) := by decide +kernel
theorem dX6_set_103 : decode cX6_set 103 = .ok (.aload_n 0, 1) := by decide +kernel
theorem dX6_set_104 : decode cX6_set 104 = .ok (.iload_n 1, 1) := by decide +kernel
theorem dX6_set_105 : decode cX6_set 105 = .ok (.aload 5, 2) := by decide +kernel
theorem dX6_set_107 : decode cX6_set 107 = .ok (.getfield 105, 3) := by decide +kernel
theorem dX6_set_110 : decode cX6_set 110 = .ok (.getfield 112, 3) := by decide +kernel
theorem dX6_set_113 : decode cX6_set 113 = .ok (.invokevirtual 236, 3) := by decide +kernel
theorem dX6_set_116 : decode cX6_set 116 = .ok (.ireturn, 1) := by decide +kernel
abbrev rm_X6_set : Room := { frames := 8, cells := 5, slots := 30, locals := 158 }
def f_X6_set_L63 (cy : Nat → ClassId) (a0 : Nat) (a1 : Int32) (a2 : Int32) (a3 : Int64) (a5 : Nat) (t0 : Nat) (t1 : Int32) (t2 : Int32) (μ : Mem) : Option ((String × Mem) ⊕ (Int32 × Mem)) :=
  if isO μ t0 5 = true then (obX (f_X6_refuseFault cy t0 t1 t2 μ) fun μ103 => (rdR μ103 a0 5 2).bind fun q106 => if isO μ103 q106 4 = true then ((f_X5_clear cy q106 μ103).bind fun μ110 => (rdR μ110 a0 5 2).bind fun q111 => ob2 (f_X1_widthOf cy a2 μ110) fun r115 μ114 => if isO μ114 q111 4 = true then ((f_X5_appendLowestFirst cy q111 a3 r115 μ114).bind fun μ118 => (rdR μ118 a0 5 2).bind fun q119 => (rdR μ118 a0 5 2).bind fun q121 => (rdI μ118 q121 4 1).bind fun v123 => if isO μ118 a5 3 = true then ((f_X4_draftValue cy a5 a2 q119 0 v123 μ118).bind fun μ127 => (rdR μ127 a5 3 1).bind fun q128 => (rdI μ127 q128 0 5).bind fun v130 => if isO μ127 a0 5 = true then (obX2 (f_X6_finishChange cy a0 a1 v130 μ127) fun r137 μ134 => some (.inr (r137, μ134))) else none) else none) else none) else none) else none
set_option maxRecDepth 100000 in
set_option maxHeartbeats 4000000 in
theorem w_X6_set_L63 {p : Program} {l : Launch} {e : Env} {s : State} {m : MethodId} {args : Array Value} {below : List Frame} {meth : Method} {c : Code} {A : Nat → Prop} {g : Wg} {L : List Nat} {res : ((String × Mem) ⊕ (Int32 × Mem))} (hC : CX p m c cX6_set 7 s args RX6) (hr : meth.sig.returnType = (some .int)) (hlocks : meth.locks = false) (hl0 : l.stackTraces = false) (hX : XS A s s.heap) (hno : ∀ x ∈ c.exceptionTable.toList, False) : ∀ (a0 : Nat) (a1 : Int32) (a2 : Int32) (a3 : Int64) (a5 : Nat) (t0 : Nat) (t1 : Int32) (t2 : Int32) (μ : Mem) (H : Heap) (locs : List Loc) (ls : Array Slot), lv_has ls 7 [(0, .ref a0), (1, .int a1), (2, .int a2), (3, .long a3), (5, .ref a5)] → PW g L μ A s H locs → f_X6_set_L63 g.2 a0 a1 a2 a3 a5 t0 t1 t2 μ = some res → W p l e rm_X6_set s m args below meth c H locs 2 12 (vx_MQ below (QX g L A (rvI res)) (XX g L A (rvI res)) args s 5 30 A) (F0 m 63 ls [.int t2, .int t1, .ref t0]) := by
  have hx := hC.1
  have hb := hC.2.1
  intro a0 a1 a2 a3 a5 t0 t1 t2 μ H locs ls hl hw hf
  unfold f_X6_set_L63 at hf
  obtain ⟨h102, hf⟩ := o_ite hf
  rcases o_bindX hf with ⟨er104, h101, rfl⟩ | ⟨μ103, h101, hf⟩
  · exact pw_thru hw hno hlocks (pw_runVX (As := [.int t1, .int t2]) (rest := []) hC mm_X6_refuseFault tw_557 (c_X6_refuseFault hl0 h101) ⟨by decide, by decide⟩ hw hX h102 rfl hl.1 (Nat.le_of_ble_eq_true rfl) ⟨by decide, by decide⟩ rfl dX6_set_63) (by decide) (by decide)
  · refine pw_goX hw (pw_runVX (As := [.int t1, .int t2]) (rest := []) hC mm_X6_refuseFault tw_557 (c_X6_refuseFault hl0 h101) ⟨by decide, by decide⟩ hw hX h102 rfl hl.1 (Nat.le_of_ble_eq_true rfl) ⟨by decide, by decide⟩ rfl dX6_set_63) (fun H locs hw => ?_)
    refine W.eq (g2 := F0 m 66 ls []) rfl ?_
    refine W.widen (k := 3) (n := 18) (by decide) (by decide) ?_
    refine lv_aload_n hx hb dX6_set_66 rfl (lv_at hl 0 rfl) ?_
    obtain ⟨q106, h107, hf⟩ := o_bind hf
    refine pw_get hC fl_X6_21 hw (rdR_F h107) dX6_set_67 ?_
    obtain ⟨h109, hf⟩ := o_ite hf
    obtain ⟨μ110, h108, hf⟩ := o_bind hf
    refine pw_goV hw (pw_runV (As := []) (rest := []) hC mm_X5_clear tw_556 (c_X5_clear h108 _) ⟨rfl, rfl, by decide, by decide⟩ hw h109 rfl hl.1 (Nat.le_of_ble_eq_true rfl) ⟨by decide, by decide⟩ rfl dX6_set_70) (fun H locs hw => ?_)
    refine lv_aload_n hx hb dX6_set_73 rfl (lv_at hl 0 rfl) ?_
    obtain ⟨q111, h112, hf⟩ := o_bind hf
    refine pw_get hC fl_X6_21 hw (rdR_F h112) dX6_set_74 ?_
    refine lv_lload_n hx hb dX6_set_77 rfl (lv_at hl 3 rfl) ?_
    refine lv_iload_n hx hb dX6_set_78 rfl (lv_at hl 2 rfl) ?_
    obtain ⟨r115, μ114, h113, hf⟩ := o_bind2 hf
    refine pw_goI hw (pw_runS (As := [.int a2]) (rest := [.long a3, .ref q111]) hC mm_X1_widthOf tw_745 (c_X1_widthOf h113 _) ⟨rfl, rfl, by decide, by decide⟩ hw rfl hl.1 (Nat.le_of_ble_eq_true rfl) ⟨by decide, by decide⟩ rfl dX6_set_79) (fun H locs hw => ?_)
    obtain ⟨h117, hf⟩ := o_ite hf
    obtain ⟨μ118, h116, hf⟩ := o_bind hf
    refine pw_goV hw (pw_runV (As := [.long a3, .int r115]) (rest := []) hC mm_X5_appendLowestFirst tw_179 (c_X5_appendLowestFirst h116 _) ⟨rfl, rfl, by decide, by decide⟩ hw h117 rfl hl.1 (Nat.le_of_ble_eq_true rfl) ⟨by decide, by decide⟩ rfl dX6_set_82) (fun H locs hw => ?_)
    refine lv_aload hx hb dX6_set_85 (lv_at hl 4 rfl) ?_
    refine lv_iload_n hx hb dX6_set_87 rfl (lv_at hl 2 rfl) ?_
    refine lv_aload_n hx hb dX6_set_88 rfl (lv_at hl 0 rfl) ?_
    obtain ⟨q119, h120, hf⟩ := o_bind hf
    refine pw_get hC fl_X6_21 hw (rdR_F h120) dX6_set_89 ?_
    refine lv_iconst (v := 0) hx hb dX6_set_92 nc_iconst_0 ?_
    refine lv_aload_n hx hb dX6_set_93 rfl (lv_at hl 0 rfl) ?_
    obtain ⟨q121, h122, hf⟩ := o_bind hf
    refine pw_get hC fl_X6_21 hw (rdR_F h122) dX6_set_94 ?_
    obtain ⟨v123, h124, hf⟩ := o_bind hf
    refine pw_get hC fl_X6_73 hw (rdI_F h124) dX6_set_97 ?_
    obtain ⟨h126, hf⟩ := o_ite hf
    obtain ⟨μ127, h125, hf⟩ := o_bind hf
    refine pw_goV hw (pw_runV (As := [.int a2, .ref q119, .int 0, .int v123]) (rest := []) hC mm_X4_draftValue tw_783 (c_X4_draftValue h125 _) ⟨rfl, rfl, by decide, by decide⟩ hw h126 rfl hl.1 (Nat.le_of_ble_eq_true rfl) ⟨by decide, by decide⟩ rfl dX6_set_100) (fun H locs hw => ?_)
    refine lv_aload_n hx hb dX6_set_103 rfl (lv_at hl 0 rfl) ?_
    refine lv_iload_n hx hb dX6_set_104 rfl (lv_at hl 1 rfl) ?_
    refine lv_aload hx hb dX6_set_105 (lv_at hl 4 rfl) ?_
    obtain ⟨q128, h129, hf⟩ := o_bind hf
    refine pw_get hC fl_X6_105 hw (rdR_F h129) dX6_set_107 ?_
    obtain ⟨v130, h131, hf⟩ := o_bind hf
    refine pw_get hC fl_X6_112 hw (rdI_F h131) dX6_set_110 ?_
    obtain ⟨h133, hf⟩ := o_ite hf
    rcases o_bindX2 hf with ⟨er135, h132, rfl⟩ | ⟨r137, μ134, h132, hf⟩
    · exact pw_thru hw hno hlocks (pw_runVX (As := [.int a1, .int v130]) (rest := []) hC mm_X6_finishChange tw_813 (c_X6_finishChange hl0 h132) ⟨by decide, by decide⟩ hw hX h133 rfl hl.1 (Nat.le_of_ble_eq_true rfl) ⟨by decide, by decide⟩ rfl dX6_set_113) (by decide) (by decide)
    · refine pw_goX hw (pw_runVX (As := [.int a1, .int v130]) (rest := []) hC mm_X6_finishChange tw_813 (c_X6_finishChange hl0 h132) ⟨by decide, by decide⟩ hw hX h133 rfl hl.1 (Nat.le_of_ble_eq_true rfl) ⟨by decide, by decide⟩ rfl dX6_set_113) (fun H locs hw => ?_)
      refine W.eq (g2 := F0 m 116 ls [.int r137]) rfl ?_
      refine W.widen (k := 5) (n := 30) (by decide) (by decide) ?_
      obtain rfl := o_retv hf
      exact pw_xiret hC hr hlocks (by decide) (by decide) hw dX6_set_116
def f_X6_set_L50 (cy : Nat → ClassId) (a0 : Nat) (a1 : Int32) (a2 : Int32) (a3 : Int64) (a5 : Nat) (a6 : Int32) (μ : Mem) : Option ((String × Mem) ⊕ (Int32 × Mem)) :=
  if a6 = 0 then (f_X6_set_L63 cy a0 a1 a2 a3 a5 a0 a6 (-1) μ) else f_X6_set_L63 cy a0 a1 a2 a3 a5 a0 a6 0 μ
set_option maxRecDepth 100000 in
set_option maxHeartbeats 4000000 in
theorem w_X6_set_L50 {p : Program} {l : Launch} {e : Env} {s : State} {m : MethodId} {args : Array Value} {below : List Frame} {meth : Method} {c : Code} {A : Nat → Prop} {g : Wg} {L : List Nat} {res : ((String × Mem) ⊕ (Int32 × Mem))} (hC : CX p m c cX6_set 7 s args RX6) (hr : meth.sig.returnType = (some .int)) (hlocks : meth.locks = false) (hl0 : l.stackTraces = false) (hX : XS A s s.heap) (hno : ∀ x ∈ c.exceptionTable.toList, False) : ∀ (a0 : Nat) (a1 : Int32) (a2 : Int32) (a3 : Int64) (a5 : Nat) (a6 : Int32) (μ : Mem) (H : Heap) (locs : List Loc) (ls : Array Slot), lv_has ls 7 [(0, .ref a0), (1, .int a1), (2, .int a2), (3, .long a3), (5, .ref a5), (6, .int a6)] → PW g L μ A s H locs → f_X6_set_L50 g.2 a0 a1 a2 a3 a5 a6 μ = some res → W p l e rm_X6_set s m args below meth c H locs 2 12 (vx_MQ below (QX g L A (rvI res)) (XX g L A (rvI res)) args s 5 30 A) (F0 m 50 ls []) := by
  have hx := hC.1
  have hb := hC.2.1
  intro a0 a1 a2 a3 a5 a6 μ H locs ls hl hw hf
  unfold f_X6_set_L50 at hf
  refine lv_aload_n hx hb dX6_set_50 rfl (lv_at hl 0 rfl) ?_
  refine lv_iload hx hb dX6_set_51 (lv_at hl 5 rfl) ?_
  refine lv_iload hx hb dX6_set_53 (lv_at hl 5 rfl) ?_
  refine lv_if_ne (tgt := 62) hx hb dX6_set_55 (by decide) (fun c101 => ?_) (fun c101 => ?_)
  · have hf := o_neg c101 hf
    refine lv_iconst (v := 0) hx hb dX6_set_62 nc_iconst_0 ?_
    refine W.widen (k := 2) (n := 12) (by decide) (by decide) ?_
    exact w_X6_set_L63 hC hr hlocks hl0 hX hno _ _ _ _ _ _ _ _ _ _ _ ls (lv_sub hl [0, 1, 2, 3, 4] rfl) hw hf
  · have hf := o_pos c101 hf
    refine lv_iconst (v := (-1)) hx hb dX6_set_58 nc_iconst_m1 ?_
    refine lv_goto (tgt := 63) hx hb dX6_set_59 (by decide) ?_
    refine W.widen (k := 2) (n := 12) (by decide) (by decide) ?_
    exact w_X6_set_L63 hC hr hlocks hl0 hX hno _ _ _ _ _ _ _ _ _ _ _ ls (lv_sub hl [0, 1, 2, 3, 4] rfl) hw hf
def f_X6_set (cy : Nat → ClassId) (a0 : Nat) (a1 : Int32) (a2 : Int32) (a3 : Int64) (μ : Mem) : Option ((String × Mem) ⊕ (Int32 × Mem)) :=
  if isO μ a0 5 = true then (obX2 (f_X6_shelfOf cy a0 a1 μ) fun q6 μ3 => obX (f_X6_refuseNoElement cy q6 μ3) fun μ8 => ob2 (f_X1_isNumber cy a2 μ8) fun r13 μ12 => if r13 = 0 then (f_X6_set_L50 cy a0 a1 a2 a3 q6 3 μ12) else if a2 = 8 then (if (lg_cmp a3 (0 : Int64)) = 0 then (f_X6_set_L50 cy a0 a1 a2 a3 q6 0 μ12) else if (lg_cmp a3 (1 : Int64)) = 0 then (f_X6_set_L50 cy a0 a1 a2 a3 q6 0 μ12) else f_X6_set_L50 cy a0 a1 a2 a3 q6 7 μ12) else f_X6_set_L50 cy a0 a1 a2 a3 q6 0 μ12) else none
set_option maxRecDepth 100000 in
set_option maxHeartbeats 4000000 in
theorem c_X6_set {l : Launch} {g : Wg} {L : List Nat} {μ : Mem} {a0 : Nat} {a1 : Int32} {a2 : Int32} {a3 : Int64} {res : ((String × Mem) ⊕ (Int32 × Mem))} (hl0 : l.stackTraces = false) (hf : f_X6_set g.2 a0 a1 a2 a3 μ = some res) : MetX l yX6_set cX6_set 7 (some .int) rm_X6_set g L μ [.ref a0, .int a1, .int a2, .long a3] (rvI res) := by
  refine pw_metX (by decide) (Nat.le_of_ble_eq_true rfl) ?_
  intro p e s m args below meth c A ls H locs hC hr hlocks hl hw hX hno
  have hx := hC.1
  have hb := hC.2.1
  have hl : lv_has ls 7 [(0, .ref a0), (1, .int a1), (2, .int a2), (3, .long a3)] := hl
  unfold f_X6_set at hf
  refine lv_aload_n hx hb dX6_set_0 rfl (lv_at hl 0 rfl) ?_
  refine lv_iload_n hx hb dX6_set_1 rfl (lv_at hl 1 rfl) ?_
  obtain ⟨h2, hf⟩ := o_ite hf
  rcases o_bindX2 hf with ⟨er4, h1, rfl⟩ | ⟨q6, μ3, h1, hf⟩
  · exact pw_thru hw hno hlocks (pw_runVX (As := [.int a1]) (rest := []) hC mm_X6_shelfOf tw_429 (c_X6_shelfOf hl0 h1) ⟨by decide, by decide⟩ hw hX h2 rfl hl.1 (Nat.le_of_ble_eq_true rfl) ⟨by decide, by decide⟩ rfl dX6_set_2) (by decide) (by decide)
  · refine pw_goX hw (pw_runVX (As := [.int a1]) (rest := []) hC mm_X6_shelfOf tw_429 (c_X6_shelfOf hl0 h1) ⟨by decide, by decide⟩ hw hX h2 rfl hl.1 (Nat.le_of_ble_eq_true rfl) ⟨by decide, by decide⟩ rfl dX6_set_2) (fun H locs hw => ?_)
    refine W.eq (g2 := F0 m 5 ls [.ref q6]) rfl ?_
    refine W.widen (k := 1) (n := 6) (by decide) (by decide) ?_
    refine lv_astore (lv' := [(5, .ref q6), (0, .ref a0), (1, .int a1), (2, .int a2), (3, .long a3)]) hx hb dX6_set_5 hl (by decide) rfl (fun ls hl => ?_)
    refine lv_aload hx hb dX6_set_7 (lv_at hl 0 rfl) ?_
    rcases o_bindX hf with ⟨er9, h7, rfl⟩ | ⟨μ8, h7, hf⟩
    · exact pw_thru hw hno hlocks (pw_runSX (As := [.ref q6]) (rest := []) hC mm_X6_refuseNoElement tw_696 (c_X6_refuseNoElement hl0 h7) ⟨by decide, by decide⟩ hw hX rfl hl.1 (Nat.le_of_ble_eq_true rfl) ⟨by decide, by decide⟩ rfl dX6_set_9) (by decide) (by decide)
    · refine pw_goX hw (pw_runSX (As := [.ref q6]) (rest := []) hC mm_X6_refuseNoElement tw_696 (c_X6_refuseNoElement hl0 h7) ⟨by decide, by decide⟩ hw hX rfl hl.1 (Nat.le_of_ble_eq_true rfl) ⟨by decide, by decide⟩ rfl dX6_set_9) (fun H locs hw => ?_)
      refine W.eq (g2 := F0 m 12 ls []) rfl ?_
      refine W.widen (k := 2) (n := 12) (by decide) (by decide) ?_
      refine lv_iconst (v := 0) hx hb dX6_set_12 nc_iconst_0 ?_
      refine lv_istore (lv' := [(6, .int 0), (5, .ref q6), (0, .ref a0), (1, .int a1), (2, .int a2), (3, .long a3)]) hx hb dX6_set_13 hl (by decide) rfl (fun ls hl => ?_)
      refine lv_iload_n hx hb dX6_set_15 rfl (lv_at hl 4 rfl) ?_
      obtain ⟨r13, μ12, h11, hf⟩ := o_bind2 hf
      refine pw_goI hw (pw_runS (As := [.int a2]) (rest := []) hC mm_X1_isNumber tw_721 (c_X1_isNumber h11 _) ⟨rfl, rfl, by decide, by decide⟩ hw rfl hl.1 (Nat.le_of_ble_eq_true rfl) ⟨by decide, by decide⟩ rfl dX6_set_16) (fun H locs hw => ?_)
      refine lv_if_ne (tgt := 28) hx hb dX6_set_19 (by decide) (fun c14 => ?_) (fun c14 => ?_)
      · have hf := o_neg c14 hf
        refine lv_iload_n hx hb dX6_set_28 rfl (lv_at hl 4 rfl) ?_
        refine lv_bipush (v := 8) hx hb dX6_set_29 nc_bipush_8 ?_
        refine lv_icmp_ne (tgt := 50) hx hb dX6_set_31 (by decide) (fun c15 => ?_) (fun c15 => ?_)
        · have hf := o_neg c15 hf
          refine W.widen (k := 2) (n := 12) (by decide) (by decide) ?_
          exact w_X6_set_L50 hC hr hlocks hl0 hX hno _ _ _ _ _ _ _ _ _ ls (lv_sub hl [2, 3, 4, 5, 1, 0] rfl) hw hf
        · have hf := o_pos c15 hf
          refine lv_lload_n hx hb dX6_set_34 rfl (lv_at hl 5 rfl) ?_
          refine lv_lconst (v := 0) hx hb dX6_set_35 (by decide +kernel) ?_
          refine W.lcmp hx hb dX6_set_36 ?_
          refine lv_if_eq (tgt := 50) hx hb dX6_set_37 (by decide) (fun c16 => ?_) (fun c16 => ?_)
          · have hf := o_pos c16 hf
            refine W.widen (k := 2) (n := 12) (by decide) (by decide) ?_
            exact w_X6_set_L50 hC hr hlocks hl0 hX hno _ _ _ _ _ _ _ _ _ ls (lv_sub hl [2, 3, 4, 5, 1, 0] rfl) hw hf
          · have hf := o_neg c16 hf
            refine lv_lload_n hx hb dX6_set_40 rfl (lv_at hl 5 rfl) ?_
            refine lv_lconst (v := 1) hx hb dX6_set_41 (by decide +kernel) ?_
            refine W.lcmp hx hb dX6_set_42 ?_
            refine lv_if_eq (tgt := 50) hx hb dX6_set_43 (by decide) (fun c17 => ?_) (fun c17 => ?_)
            · have hf := o_pos c17 hf
              refine W.widen (k := 2) (n := 12) (by decide) (by decide) ?_
              exact w_X6_set_L50 hC hr hlocks hl0 hX hno _ _ _ _ _ _ _ _ _ ls (lv_sub hl [2, 3, 4, 5, 1, 0] rfl) hw hf
            · have hf := o_neg c17 hf
              refine lv_bipush (v := 7) hx hb dX6_set_46 nc_bipush_7 ?_
              refine lv_istore (lv' := [(6, .int 7), (5, .ref q6), (0, .ref a0), (1, .int a1), (2, .int a2), (3, .long a3)]) hx hb dX6_set_48 hl (by decide) rfl (fun ls hl => ?_)
              refine W.widen (k := 2) (n := 12) (by decide) (by decide) ?_
              exact w_X6_set_L50 hC hr hlocks hl0 hX hno _ _ _ _ _ _ _ _ _ ls (lv_sub hl [2, 3, 4, 5, 1, 0] rfl) hw hf
      · have hf := o_pos c14 hf
        refine lv_iconst (v := 3) hx hb dX6_set_22 nc_iconst_3 ?_
        refine lv_istore (lv' := [(6, .int 3), (5, .ref q6), (0, .ref a0), (1, .int a1), (2, .int a2), (3, .long a3)]) hx hb dX6_set_23 hl (by decide) rfl (fun ls hl => ?_)
        refine lv_goto (tgt := 50) hx hb dX6_set_25 (by decide) ?_
        refine W.widen (k := 2) (n := 12) (by decide) (by decide) ?_
        exact w_X6_set_L50 hC hr hlocks hl0 hX hno _ _ _ _ _ _ _ _ _ ls (lv_sub hl [2, 3, 4, 5, 1, 0] rfl) hw hf
theorem dX6_latest_0 : decode cX6_latest 0 = .ok (.aload_n 0, 1) := by decide +kernel
theorem dX6_latest_1 : decode cX6_latest 1 = .ok (.getfield 58, 3) := by decide +kernel
theorem dX6_latest_4 : decode cX6_latest 4 = .ok (.iconst (-1), 1) := by decide +kernel
theorem dX6_latest_5 : decode cX6_latest 5 = .ok (.if_icmp .ne 5, 3) := by decide +kernel
theorem dX6_latest_8 : decode cX6_latest 8 = .ok (.iconst (-1), 1) := by decide +kernel
theorem dX6_latest_9 : decode cX6_latest 9 = .ok (.ireturn, 1) := by decide +kernel
theorem dX6_latest_10 : decode cX6_latest 10 = .ok (.aload_n 0, 1) := by decide +kernel
theorem dX6_latest_11 : decode cX6_latest 11 = .ok (.aload_n 0, 1) := by decide +kernel
theorem dX6_latest_12 : decode cX6_latest 12 = .ok (.getfield 58, 3) := by decide +kernel
theorem dX6_latest_15 : decode cX6_latest 15 = .ok (.invokevirtual 95, 3) := by decide +kernel
theorem dX6_latest_18 : decode cX6_latest 18 = .ok (.astore_n 2, 1) := by decide +kernel
theorem dX6_latest_19 : decode cX6_latest 19 = .ok (.iload_n 1, 1) := by decide +kernel
theorem dX6_latest_20 : decode cX6_latest 20 = .ok (.tableswitch 52 0 3 #[32, 37, 42, 47], 32) := by decide +kernel
theorem dX6_latest_52 : decode cX6_latest 52 = .ok (.aload_n 2, 1) := by decide +kernel
theorem dX6_latest_53 : decode cX6_latest 53 = .ok (.getfield 281, 3) := by decide +kernel
theorem dX6_latest_56 : decode cX6_latest 56 = .ok (.ireturn, 1) := by decide +kernel
theorem dX6_latest_57 : decode cX6_latest 57 = .ok (.aload_n 2, 1) := by decide +kernel
theorem dX6_latest_58 : decode cX6_latest 58 = .ok (.getfield 284, 3) := by decide +kernel
theorem dX6_latest_61 : decode cX6_latest 61 = .ok (.ireturn, 1) := by decide +kernel
theorem dX6_latest_62 : decode cX6_latest 62 = .ok (.aload_n 2, 1) := by decide +kernel
theorem dX6_latest_63 : decode cX6_latest 63 = .ok (.getfield 287, 3) := by decide +kernel
theorem dX6_latest_66 : decode cX6_latest 66 = .ok (.ireturn, 1) := by decide +kernel
theorem dX6_latest_67 : decode cX6_latest 67 = .ok (.aload_n 0, 1) := by decide +kernel
theorem dX6_latest_68 : decode cX6_latest 68 = .ok (.getfield 58, 3) := by decide +kernel
theorem dX6_latest_71 : decode cX6_latest 71 = .ok (.ireturn, 1) := by decide +kernel
theorem dX6_latest_72 : decode cX6_latest 72 = .ok (.iconst (-1), 1) := by decide +kernel
theorem dX6_latest_73 : decode cX6_latest 73 = .ok (.ireturn, 1) := by decide +kernel
abbrev rm_X6_latest : Room := { frames := 7, cells := 1, slots := 6, locals := 121 }
def f_X6_latest (cy : Nat → ClassId) (a0 : Nat) (a1 : Int32) (μ : Mem) : Option ((String × Mem) ⊕ (Int32 × Mem)) :=
  (rdI μ a0 5 9).bind fun v1 => if v1 = (-1) then (some (.inr ((-1), μ))) else (rdI μ a0 5 9).bind fun v4 => if isO μ a0 5 = true then (obX2 (f_X6_shelfOf cy a0 v4 μ) fun q11 μ8 => if Int32.toInt a1 < 0 ∨ 3 < Int32.toInt a1 then (some (.inr ((-1), μ8))) else if a1 = 0 then ((rdI μ8 q11 3 4).bind fun v14 => some (.inr (v14, μ8))) else if a1 = 1 then ((rdI μ8 q11 3 5).bind fun v17 => some (.inr (v17, μ8))) else if a1 = 2 then ((rdI μ8 q11 3 6).bind fun v20 => some (.inr (v20, μ8))) else if a1 = 3 then ((rdI μ8 a0 5 9).bind fun v23 => some (.inr (v23, μ8))) else none) else none
set_option maxRecDepth 100000 in
set_option maxHeartbeats 4000000 in
theorem c_X6_latest {l : Launch} {g : Wg} {L : List Nat} {μ : Mem} {a0 : Nat} {a1 : Int32} {res : ((String × Mem) ⊕ (Int32 × Mem))} (hl0 : l.stackTraces = false) (hf : f_X6_latest g.2 a0 a1 μ = some res) : MetX l yX6_latest cX6_latest 3 (some .int) rm_X6_latest g L μ [.ref a0, .int a1] (rvI res) := by
  refine pw_metX (by decide) (Nat.le_of_ble_eq_true rfl) ?_
  intro p e s m args below meth c A ls H locs hC hr hlocks hl hw hX hno
  have hx := hC.1
  have hb := hC.2.1
  have hl : lv_has ls 3 [(0, .ref a0), (1, .int a1)] := hl
  unfold f_X6_latest at hf
  refine lv_aload_n hx hb dX6_latest_0 rfl (lv_at hl 0 rfl) ?_
  obtain ⟨v1, h2, hf⟩ := o_bind hf
  refine pw_get hC fl_X6_58 hw (rdI_F h2) dX6_latest_1 ?_
  refine lv_iconst (v := (-1)) hx hb dX6_latest_4 nc_iconst_m1 ?_
  refine lv_icmp_ne (tgt := 10) hx hb dX6_latest_5 (by decide) (fun c3 => ?_) (fun c3 => ?_)
  · have hf := o_neg c3 hf
    refine lv_aload_n hx hb dX6_latest_10 rfl (lv_at hl 0 rfl) ?_
    refine lv_aload_n hx hb dX6_latest_11 rfl (lv_at hl 0 rfl) ?_
    obtain ⟨v4, h5, hf⟩ := o_bind hf
    refine pw_get hC fl_X6_58 hw (rdI_F h5) dX6_latest_12 ?_
    obtain ⟨h7, hf⟩ := o_ite hf
    rcases o_bindX2 hf with ⟨er9, h6, rfl⟩ | ⟨q11, μ8, h6, hf⟩
    · exact pw_thru hw hno hlocks (pw_runVX (As := [.int v4]) (rest := []) hC mm_X6_shelfOf tw_429 (c_X6_shelfOf hl0 h6) ⟨by decide, by decide⟩ hw hX h7 rfl hl.1 (Nat.le_of_ble_eq_true rfl) ⟨by decide, by decide⟩ rfl dX6_latest_15) (by decide) (by decide)
    · refine pw_goX hw (pw_runVX (As := [.int v4]) (rest := []) hC mm_X6_shelfOf tw_429 (c_X6_shelfOf hl0 h6) ⟨by decide, by decide⟩ hw hX h7 rfl hl.1 (Nat.le_of_ble_eq_true rfl) ⟨by decide, by decide⟩ rfl dX6_latest_15) (fun H locs hw => ?_)
      refine W.eq (g2 := F0 m 18 ls [.ref q11]) rfl ?_
      refine W.widen (k := 1) (n := 6) (by decide) (by decide) ?_
      refine lv_astore_n (lv' := [(2, .ref q11), (0, .ref a0), (1, .int a1)]) hx hb dX6_latest_18 rfl hl (by decide) rfl (fun ls hl => ?_)
      refine lv_iload_n hx hb dX6_latest_19 rfl (lv_at hl 2 rfl) ?_
      rcases o_if hf with ⟨c12, hf⟩ | ⟨c12, hf⟩
      · refine lv_tableOut (tgt := 72) hx hb dX6_latest_20 c12 (by decide) ?_
        refine lv_iconst (v := (-1)) hx hb dX6_latest_72 nc_iconst_m1 ?_
        obtain rfl := o_retv hf
        exact pw_xiret hC hr hlocks (by decide) (by decide) hw dX6_latest_73
      · rcases o_if hf with ⟨c13, hf⟩ | ⟨-, hf⟩
        · refine lv_tableIn (tgt := 52) hx hb dX6_latest_20 (by rw [c13]; decide) (by rw [c13]; decide) (by rw [c13]; rfl) (by decide) ?_
          refine lv_aload_n hx hb dX6_latest_52 rfl (lv_at hl 0 rfl) ?_
          obtain ⟨v14, h15, hf⟩ := o_bind hf
          refine pw_get hC fl_X6_281 hw (rdI_F h15) dX6_latest_53 ?_
          obtain rfl := o_retv hf
          exact pw_xiret hC hr hlocks (by decide) (by decide) hw dX6_latest_56
        · rcases o_if hf with ⟨c16, hf⟩ | ⟨-, hf⟩
          · refine lv_tableIn (tgt := 57) hx hb dX6_latest_20 (by rw [c16]; decide) (by rw [c16]; decide) (by rw [c16]; rfl) (by decide) ?_
            refine lv_aload_n hx hb dX6_latest_57 rfl (lv_at hl 0 rfl) ?_
            obtain ⟨v17, h18, hf⟩ := o_bind hf
            refine pw_get hC fl_X6_284 hw (rdI_F h18) dX6_latest_58 ?_
            obtain rfl := o_retv hf
            exact pw_xiret hC hr hlocks (by decide) (by decide) hw dX6_latest_61
          · rcases o_if hf with ⟨c19, hf⟩ | ⟨-, hf⟩
            · refine lv_tableIn (tgt := 62) hx hb dX6_latest_20 (by rw [c19]; decide) (by rw [c19]; decide) (by rw [c19]; rfl) (by decide) ?_
              refine lv_aload_n hx hb dX6_latest_62 rfl (lv_at hl 0 rfl) ?_
              obtain ⟨v20, h21, hf⟩ := o_bind hf
              refine pw_get hC fl_X6_287 hw (rdI_F h21) dX6_latest_63 ?_
              obtain rfl := o_retv hf
              exact pw_xiret hC hr hlocks (by decide) (by decide) hw dX6_latest_66
            · rcases o_if hf with ⟨c22, hf⟩ | ⟨-, hf⟩
              · refine lv_tableIn (tgt := 67) hx hb dX6_latest_20 (by rw [c22]; decide) (by rw [c22]; decide) (by rw [c22]; rfl) (by decide) ?_
                refine lv_aload_n hx hb dX6_latest_67 rfl (lv_at hl 1 rfl) ?_
                obtain ⟨v23, h24, hf⟩ := o_bind hf
                refine pw_get hC fl_X6_58 hw (rdI_F h24) dX6_latest_68 ?_
                obtain rfl := o_retv hf
                exact pw_xiret hC hr hlocks (by decide) (by decide) hw dX6_latest_71
              · cases hf
  · have hf := o_pos c3 hf
    refine lv_iconst (v := (-1)) hx hb dX6_latest_8 nc_iconst_m1 ?_
    obtain rfl := o_retv hf
    exact pw_xiret hC hr hlocks (by decide) (by decide) hw dX6_latest_9
theorem dX6_write_0 : decode cX6_write 0 = .ok (.aload_n 0, 1) := by decide +kernel
theorem dX6_write_1 : decode cX6_write 1 = .ok (.invokevirtual 92, 3) := by decide +kernel
theorem dX6_write_4 : decode cX6_write 4 = .ok (.aload_n 0, 1) := by decide +kernel
theorem dX6_write_5 : decode cX6_write 5 = .ok (.invokevirtual 293, 3) := by decide +kernel
theorem dX6_write_8 : decode cX6_write 8 = .ok (.aload_n 0, 1) := by decide +kernel
theorem dX6_write_9 : decode cX6_write 9 = .ok (.getfield 27, 3) := by decide +kernel
theorem dX6_write_12 : decode cX6_write 12 = .ok (.aload_n 0, 1) := by decide +kernel
theorem dX6_write_13 : decode cX6_write 13 = .ok (.getfield 18, 3) := by decide +kernel
theorem dX6_write_16 : decode cX6_write 16 = .ok (.aload_n 0, 1) := by decide +kernel
theorem dX6_write_17 : decode cX6_write 17 = .ok (.getfield 47, 3) := by decide +kernel
theorem dX6_write_20 : decode cX6_write 20 = .ok (.invokevirtual 296, 3) := by decide +kernel
theorem dX6_write_23 : decode cX6_write 23 = .ok (.ifCond .ne 7, 3) := by decide +kernel
theorem dX6_write_26 : decode cX6_write 26 = .ok (.iconst 1, 1) := by decide +kernel
theorem dX6_write_27 : decode cX6_write 27 = .ok (.goto 4, 3) := by decide +kernel
theorem dX6_write_30 : decode cX6_write 30 = .ok (.iconst 0, 1) := by decide +kernel
theorem dX6_write_31 : decode cX6_write 31 = .ok (.iload_n 1, 1) := by decide +kernel
theorem dX6_write_32 : decode cX6_write 32 = .ok (.aload_n 0, 1) := by decide +kernel
theorem dX6_write_33 : decode cX6_write 33 = .ok (.getfield 47, 3) := by decide +kernel
theorem dX6_write_36 : decode cX6_write 36 = .ok (.getfield 297, 3) := by decide +kernel
theorem dX6_write_39 : decode cX6_write 39 = .ok (.invokevirtual 228, 3) := by decide +kernel
theorem dX6_write_42 : decode cX6_write 42 = .ok (.aload_n 0, 1) := by decide +kernel
theorem dX6_write_43 : decode cX6_write 43 = .ok (.aload_n 0, 1) := by decide +kernel
theorem dX6_write_44 : decode cX6_write 44 = .ok (.getfield 27, 3) := by decide +kernel
theorem dX6_write_47 : decode cX6_write 47 = .ok (.getfield 82, 3) := by decide +kernel
theorem dX6_write_50 : decode cX6_write 50 = .ok (.aload_n 0, 1) := by decide +kernel
theorem dX6_write_51 : decode cX6_write 51 = .ok (.getfield 27, 3) := by decide +kernel
theorem dX6_write_54 : decode cX6_write 54 = .ok (.getfield 85, 3) := by decide +kernel
theorem dX6_write_57 : decode cX6_write 57 = .ok (.invokevirtual 99, 3) := by decide +kernel
theorem dX6_write_60 : decode cX6_write 60 = .ok (.aload_n 0, 1) := by decide +kernel
theorem dX6_write_61 : decode cX6_write 61 = .ok (.getfield 47, 3) := by decide +kernel
theorem dX6_write_64 : decode cX6_write 64 = .ok (.iload_n 1, 1) := by decide +kernel
theorem dX6_write_65 : decode cX6_write 65 = .ok (.aload_n 0, 1) := by decide +kernel
theorem dX6_write_66 : decode cX6_write 66 = .ok (.getfield 18, 3) := by decide +kernel
theorem dX6_write_69 : decode cX6_write 69 = .ok (.aload_n 0, 1) := by decide +kernel
theorem dX6_write_70 : decode cX6_write 70 = .ok (.getfield 27, 3) := by decide +kernel
theorem dX6_write_73 : decode cX6_write 73 = .ok (.getfield 253, 3) := by decide +kernel
theorem dX6_write_76 : decode cX6_write 76 = .ok (.invokevirtual 300, 3) := by decide +kernel
theorem dX6_write_79 : decode cX6_write 79 = .ok (.ifCond .ne 14, 3) := by decide +kernel
theorem dX6_write_82 : decode cX6_write 82 = .ok (.new 303, 3) := by decide +kernel
theorem dX6_write_85 : decode cX6_write 85 = .ok (.dup, 1) := by decide +kernel
theorem dX6_write_86 : decode cX6_write 86 = .ok (.ldc_w 305, 3) := by decide +kernel
theorem dX6_write_89 : decode cX6_write 89 = .ok (.invokespecial 307, 3) := by decide +kernel
theorem dX6_write_92 : decode cX6_write 92 = .ok (.athrow, 1) := by decide +kernel
theorem dX6_write_93 : decode cX6_write 93 = .ok (.aload_n 0, 1) := by decide +kernel
theorem dX6_write_94 : decode cX6_write 94 = .ok (.getfield 47, 3) := by decide +kernel
theorem dX6_write_97 : decode cX6_write 97 = .ok (.getfield 308, 3) := by decide +kernel
theorem dX6_write_100 : decode cX6_write 100 = .ok (.getfield 73, 3) := by decide +kernel
theorem dX6_write_103 : decode cX6_write 103 = .ok (.ireturn, 1) := by decide +kernel
abbrev rm_X6_write : Room := { frames := 126, cells := 3, slots := 18, locals := 3502 }
def f_X6_write_L31 (cy : Nat → ClassId) (a0 : Nat) (a1 : Int32) (t0 : Nat) (t1 : Nat) (t2 : Int32) (μ : Mem) : Option ((String × Mem) ⊕ (Int32 × Mem)) :=
  (rdR μ a0 5 6).bind fun q101 => (rdI μ q101 2 5).bind fun v103 => if isO μ t0 1 = true then ((f_X2_judgeElement cy t0 t1 t2 a1 v103 μ).bind fun μ107 => (rdR μ107 a0 5 3).bind fun q108 => (rdI μ107 q108 1 1).bind fun v110 => (rdR μ107 a0 5 3).bind fun q112 => (rdI μ107 q112 1 2).bind fun v114 => if isO μ107 a0 5 = true then (obX (f_X6_refuseFault cy a0 v110 v114 μ107) fun μ118 => (rdR μ118 a0 5 6).bind fun q121 => (rdR μ118 a0 5 1).bind fun q123 => (rdR μ118 a0 5 3).bind fun q125 => (rdI μ118 q125 1 3).bind fun v127 => if isO μ118 q121 2 = true then (ob2 (f_X3_addElement cy q121 a1 q123 v127 μ118) fun r132 μ131 => if r132 = 0 then (some (.inl ("java/lang/UnsupportedOperationException", μ131))) else (rdR μ131 a0 5 6).bind fun q134 => (rdR μ131 q134 2 0).bind fun q136 => (rdI μ131 q136 4 1).bind fun v138 => some (.inr (v138, μ131))) else none) else none) else none
set_option maxRecDepth 100000 in
set_option maxHeartbeats 4000000 in
theorem w_X6_write_L31 {p : Program} {l : Launch} {e : Env} {s : State} {m : MethodId} {args : Array Value} {below : List Frame} {meth : Method} {c : Code} {A : Nat → Prop} {g : Wg} {L : List Nat} {res : ((String × Mem) ⊕ (Int32 × Mem))} (hC : CX p m c cX6_write 2 s args RX6) (hr : meth.sig.returnType = (some .int)) (hlocks : meth.locks = false) (hl0 : l.stackTraces = false) (hX : XS A s s.heap) (hno : ∀ x ∈ c.exceptionTable.toList, False) : ∀ (a0 : Nat) (a1 : Int32) (t0 : Nat) (t1 : Nat) (t2 : Int32) (μ : Mem) (H : Heap) (locs : List Loc) (ls : Array Slot), lv_has ls 2 [(0, .ref a0), (1, .int a1)] → PW g L μ A s H locs → f_X6_write_L31 g.2 a0 a1 t0 t1 t2 μ = some res → W p l e rm_X6_write s m args below meth c H locs 1 6 (vx_MQ below (QX g L A (rvI res)) (XX g L A (rvI res)) args s 3 18 A) (F0 m 31 ls [.int t2, .ref t1, .ref t0]) := by
  have hx := hC.1
  have hb := hC.2.1
  intro a0 a1 t0 t1 t2 μ H locs ls hl hw hf
  unfold f_X6_write_L31 at hf
  refine lv_iload_n hx hb dX6_write_31 rfl (lv_at hl 1 rfl) ?_
  refine lv_aload_n hx hb dX6_write_32 rfl (lv_at hl 0 rfl) ?_
  obtain ⟨q101, h102, hf⟩ := o_bind hf
  refine pw_get hC fl_X6_47 hw (rdR_F h102) dX6_write_33 ?_
  obtain ⟨v103, h104, hf⟩ := o_bind hf
  refine pw_get hC fl_X6_297 hw (rdI_F h104) dX6_write_36 ?_
  obtain ⟨h106, hf⟩ := o_ite hf
  obtain ⟨μ107, h105, hf⟩ := o_bind hf
  refine pw_goV hw (pw_runV (As := [.ref t1, .int t2, .int a1, .int v103]) (rest := []) hC mm_X2_judgeElement tw_779 (c_X2_judgeElement h105 _) ⟨rfl, rfl, by decide, by decide⟩ hw h106 rfl hl.1 (Nat.le_of_ble_eq_true rfl) ⟨by decide, by decide⟩ rfl dX6_write_39) (fun H locs hw => ?_)
  refine lv_aload_n hx hb dX6_write_42 rfl (lv_at hl 0 rfl) ?_
  refine lv_aload_n hx hb dX6_write_43 rfl (lv_at hl 0 rfl) ?_
  obtain ⟨q108, h109, hf⟩ := o_bind hf
  refine pw_get hC fl_X6_27 hw (rdR_F h109) dX6_write_44 ?_
  obtain ⟨v110, h111, hf⟩ := o_bind hf
  refine pw_get hC fl_X6_82 hw (rdI_F h111) dX6_write_47 ?_
  refine lv_aload_n hx hb dX6_write_50 rfl (lv_at hl 0 rfl) ?_
  obtain ⟨q112, h113, hf⟩ := o_bind hf
  refine pw_get hC fl_X6_27 hw (rdR_F h113) dX6_write_51 ?_
  obtain ⟨v114, h115, hf⟩ := o_bind hf
  refine pw_get hC fl_X6_85 hw (rdI_F h115) dX6_write_54 ?_
  obtain ⟨h117, hf⟩ := o_ite hf
  rcases o_bindX hf with ⟨er119, h116, rfl⟩ | ⟨μ118, h116, hf⟩
  · exact pw_thru hw hno hlocks (pw_runVX (As := [.int v110, .int v114]) (rest := []) hC mm_X6_refuseFault tw_557 (c_X6_refuseFault hl0 h116) ⟨by decide, by decide⟩ hw hX h117 rfl hl.1 (Nat.le_of_ble_eq_true rfl) ⟨by decide, by decide⟩ rfl dX6_write_57) (by decide) (by decide)
  · refine pw_goX hw (pw_runVX (As := [.int v110, .int v114]) (rest := []) hC mm_X6_refuseFault tw_557 (c_X6_refuseFault hl0 h116) ⟨by decide, by decide⟩ hw hX h117 rfl hl.1 (Nat.le_of_ble_eq_true rfl) ⟨by decide, by decide⟩ rfl dX6_write_57) (fun H locs hw => ?_)
    refine W.eq (g2 := F0 m 60 ls []) rfl ?_
    refine W.widen (k := 2) (n := 12) (by decide) (by decide) ?_
    refine lv_aload_n hx hb dX6_write_60 rfl (lv_at hl 0 rfl) ?_
    obtain ⟨q121, h122, hf⟩ := o_bind hf
    refine pw_get hC fl_X6_47 hw (rdR_F h122) dX6_write_61 ?_
    refine lv_iload_n hx hb dX6_write_64 rfl (lv_at hl 1 rfl) ?_
    refine lv_aload_n hx hb dX6_write_65 rfl (lv_at hl 0 rfl) ?_
    obtain ⟨q123, h124, hf⟩ := o_bind hf
    refine pw_get hC fl_X6_18 hw (rdR_F h124) dX6_write_66 ?_
    refine lv_aload_n hx hb dX6_write_69 rfl (lv_at hl 0 rfl) ?_
    obtain ⟨q125, h126, hf⟩ := o_bind hf
    refine pw_get hC fl_X6_27 hw (rdR_F h126) dX6_write_70 ?_
    obtain ⟨v127, h128, hf⟩ := o_bind hf
    refine pw_get hC fl_X6_253 hw (rdI_F h128) dX6_write_73 ?_
    obtain ⟨h130, hf⟩ := o_ite hf
    obtain ⟨r132, μ131, h129, hf⟩ := o_bind2 hf
    refine pw_goI hw (pw_runV (As := [.int a1, .ref q123, .int v127]) (rest := []) hC mm_X3_addElement tw_934 (c_X3_addElement h129 _) ⟨rfl, rfl, by decide, by decide⟩ hw h130 rfl hl.1 (Nat.le_of_ble_eq_true rfl) ⟨by decide, by decide⟩ rfl dX6_write_76) (fun H locs hw => ?_)
    refine lv_if_ne (tgt := 93) hx hb dX6_write_79 (by decide) (fun c133 => ?_) (fun c133 => ?_)
    · have hf := o_neg c133 hf
      refine lv_aload_n hx hb dX6_write_93 rfl (lv_at hl 0 rfl) ?_
      obtain ⟨q134, h135, hf⟩ := o_bind hf
      refine pw_get hC fl_X6_47 hw (rdR_F h135) dX6_write_94 ?_
      obtain ⟨q136, h137, hf⟩ := o_bind hf
      refine pw_get hC fl_X6_308 hw (rdR_F h137) dX6_write_97 ?_
      obtain ⟨v138, h139, hf⟩ := o_bind hf
      refine pw_get hC fl_X6_73 hw (rdI_F h139) dX6_write_100 ?_
      obtain rfl := o_retv hf
      exact pw_xiret hC hr hlocks (by decide) (by decide) hw dX6_write_103
    · have hf := o_pos c133 hf
      obtain rfl := o_retv hf
      exact pw_thrSW (text := "the sheet would be too big") hC hl0 hw hX hno hlocks rfl tws_X6_303 (by decide) hl.1 dX6_write_82 dX6_write_85 dX6_write_86 dX6_write_89 dX6_write_92 (by decide) (Nat.le_of_ble_eq_true rfl) (by decide) (by decide) (by decide) (by decide)
def f_X6_write (cy : Nat → ClassId) (a0 : Nat) (a1 : Int32) (μ : Mem) : Option ((String × Mem) ⊕ (Int32 × Mem)) :=
  if isO μ a0 5 = true then ((f_X6_useTapeUp cy a0 μ).bind fun μ3 => if isO μ3 a0 5 = true then (obX (f_X6_refuseNothingOpen cy a0 μ3) fun μ6 => (rdR μ6 a0 5 3).bind fun q9 => (rdR μ6 a0 5 1).bind fun q11 => (rdR μ6 a0 5 6).bind fun q13 => if isO μ6 q13 2 = true then (ob2 (f_X3_isInRow cy q13 μ6) fun r18 μ17 => if r18 = 0 then (f_X6_write_L31 cy a0 a1 q9 q11 1 μ17) else f_X6_write_L31 cy a0 a1 q9 q11 0 μ17) else none) else none) else none
set_option maxRecDepth 100000 in
set_option maxHeartbeats 4000000 in
theorem c_X6_write {l : Launch} {g : Wg} {L : List Nat} {μ : Mem} {a0 : Nat} {a1 : Int32} {res : ((String × Mem) ⊕ (Int32 × Mem))} (hl0 : l.stackTraces = false) (hf : f_X6_write g.2 a0 a1 μ = some res) : MetX l yX6_write cX6_write 2 (some .int) rm_X6_write g L μ [.ref a0, .int a1] (rvI res) := by
  refine pw_metX (by decide) (Nat.le_of_ble_eq_true rfl) ?_
  intro p e s m args below meth c A ls H locs hC hr hlocks hl hw hX hno
  have hx := hC.1
  have hb := hC.2.1
  have hl : lv_has ls 2 [(0, .ref a0), (1, .int a1)] := hl
  unfold f_X6_write at hf
  refine lv_aload_n hx hb dX6_write_0 rfl (lv_at hl 0 rfl) ?_
  obtain ⟨h2, hf⟩ := o_ite hf
  obtain ⟨μ3, h1, hf⟩ := o_bind hf
  refine pw_goV hw (pw_runV (As := []) (rest := []) hC mm_X6_useTapeUp tw_551 (c_X6_useTapeUp h1 _) ⟨rfl, rfl, by decide, by decide⟩ hw h2 rfl hl.1 (Nat.le_of_ble_eq_true rfl) ⟨by decide, by decide⟩ rfl dX6_write_1) (fun H locs hw => ?_)
  refine lv_aload_n hx hb dX6_write_4 rfl (lv_at hl 0 rfl) ?_
  obtain ⟨h5, hf⟩ := o_ite hf
  rcases o_bindX hf with ⟨er7, h4, rfl⟩ | ⟨μ6, h4, hf⟩
  · exact pw_thru hw hno hlocks (pw_runVX (As := []) (rest := []) hC mm_X6_refuseNothingOpen tw_925 (c_X6_refuseNothingOpen hl0 h4) ⟨by decide, by decide⟩ hw hX h5 rfl hl.1 (Nat.le_of_ble_eq_true rfl) ⟨by decide, by decide⟩ rfl dX6_write_5) (by decide) (by decide)
  · refine pw_goX hw (pw_runVX (As := []) (rest := []) hC mm_X6_refuseNothingOpen tw_925 (c_X6_refuseNothingOpen hl0 h4) ⟨by decide, by decide⟩ hw hX h5 rfl hl.1 (Nat.le_of_ble_eq_true rfl) ⟨by decide, by decide⟩ rfl dX6_write_5) (fun H locs hw => ?_)
    refine W.eq (g2 := F0 m 8 ls []) rfl ?_
    refine W.widen (k := 1) (n := 6) (by decide) (by decide) ?_
    refine lv_aload_n hx hb dX6_write_8 rfl (lv_at hl 0 rfl) ?_
    obtain ⟨q9, h10, hf⟩ := o_bind hf
    refine pw_get hC fl_X6_27 hw (rdR_F h10) dX6_write_9 ?_
    refine lv_aload_n hx hb dX6_write_12 rfl (lv_at hl 0 rfl) ?_
    obtain ⟨q11, h12, hf⟩ := o_bind hf
    refine pw_get hC fl_X6_18 hw (rdR_F h12) dX6_write_13 ?_
    refine lv_aload_n hx hb dX6_write_16 rfl (lv_at hl 0 rfl) ?_
    obtain ⟨q13, h14, hf⟩ := o_bind hf
    refine pw_get hC fl_X6_47 hw (rdR_F h14) dX6_write_17 ?_
    obtain ⟨h16, hf⟩ := o_ite hf
    obtain ⟨r18, μ17, h15, hf⟩ := o_bind2 hf
    refine pw_goI hw (pw_runV (As := []) (rest := [.ref q11, .ref q9]) hC mm_X3_isInRow tw_930 (c_X3_isInRow h15 _) ⟨rfl, rfl, by decide, by decide⟩ hw h16 rfl hl.1 (Nat.le_of_ble_eq_true rfl) ⟨by decide, by decide⟩ rfl dX6_write_20) (fun H locs hw => ?_)
    refine lv_if_ne (tgt := 30) hx hb dX6_write_23 (by decide) (fun c19 => ?_) (fun c19 => ?_)
    · have hf := o_neg c19 hf
      refine lv_iconst (v := 0) hx hb dX6_write_30 nc_iconst_0 ?_
      refine W.widen (k := 1) (n := 6) (by decide) (by decide) ?_
      exact w_X6_write_L31 hC hr hlocks hl0 hX hno _ _ _ _ _ _ _ _ ls (lv_sub hl [0, 1] rfl) hw hf
    · have hf := o_pos c19 hf
      refine lv_iconst (v := 1) hx hb dX6_write_26 nc_iconst_1 ?_
      refine lv_goto (tgt := 31) hx hb dX6_write_27 (by decide) ?_
      refine W.widen (k := 1) (n := 6) (by decide) (by decide) ?_
      exact w_X6_write_L31 hC hr hlocks hl0 hX hno _ _ _ _ _ _ _ _ ls (lv_sub hl [0, 1] rfl) hw hf
theorem dX6_open_0 : decode cX6_open 0 = .ok (.aload_n 0, 1) := by decide +kernel
theorem dX6_open_1 : decode cX6_open 1 = .ok (.invokevirtual 92, 3) := by decide +kernel
theorem dX6_open_4 : decode cX6_open 4 = .ok (.aload_n 0, 1) := by decide +kernel
theorem dX6_open_5 : decode cX6_open 5 = .ok (.invokevirtual 293, 3) := by decide +kernel
theorem dX6_open_8 : decode cX6_open 8 = .ok (.aload_n 0, 1) := by decide +kernel
theorem dX6_open_9 : decode cX6_open 9 = .ok (.getfield 27, 3) := by decide +kernel
theorem dX6_open_12 : decode cX6_open 12 = .ok (.aload_n 0, 1) := by decide +kernel
theorem dX6_open_13 : decode cX6_open 13 = .ok (.getfield 18, 3) := by decide +kernel
theorem dX6_open_16 : decode cX6_open 16 = .ok (.aload_n 0, 1) := by decide +kernel
theorem dX6_open_17 : decode cX6_open 17 = .ok (.getfield 47, 3) := by decide +kernel
theorem dX6_open_20 : decode cX6_open 20 = .ok (.invokevirtual 296, 3) := by decide +kernel
theorem dX6_open_23 : decode cX6_open 23 = .ok (.ifCond .ne 7, 3) := by decide +kernel
theorem dX6_open_26 : decode cX6_open 26 = .ok (.iconst 1, 1) := by decide +kernel
theorem dX6_open_27 : decode cX6_open 27 = .ok (.goto 4, 3) := by decide +kernel
theorem dX6_open_30 : decode cX6_open 30 = .ok (.iconst 0, 1) := by decide +kernel
theorem dX6_open_31 : decode cX6_open 31 = .ok (.iload_n 1, 1) := by decide +kernel
theorem dX6_open_32 : decode cX6_open 32 = .ok (.aload_n 0, 1) := by decide +kernel
theorem dX6_open_33 : decode cX6_open 33 = .ok (.getfield 47, 3) := by decide +kernel
theorem dX6_open_36 : decode cX6_open 36 = .ok (.getfield 297, 3) := by decide +kernel
theorem dX6_open_39 : decode cX6_open 39 = .ok (.invokevirtual 309, 3) := by decide +kernel
theorem dX6_open_42 : decode cX6_open 42 = .ok (.aload_n 0, 1) := by decide +kernel
theorem dX6_open_43 : decode cX6_open 43 = .ok (.aload_n 0, 1) := by decide +kernel
theorem dX6_open_44 : decode cX6_open 44 = .ok (.getfield 27, 3) := by decide +kernel
theorem dX6_open_47 : decode cX6_open 47 = .ok (.getfield 82, 3) := by decide +kernel
theorem dX6_open_50 : decode cX6_open 50 = .ok (.aload_n 0, 1) := by decide +kernel
theorem dX6_open_51 : decode cX6_open 51 = .ok (.getfield 27, 3) := by decide +kernel
theorem dX6_open_54 : decode cX6_open 54 = .ok (.getfield 85, 3) := by decide +kernel
theorem dX6_open_57 : decode cX6_open 57 = .ok (.invokevirtual 99, 3) := by decide +kernel
theorem dX6_open_60 : decode cX6_open 60 = .ok (.aload_n 0, 1) := by decide +kernel
theorem dX6_open_61 : decode cX6_open 61 = .ok (.getfield 47, 3) := by decide +kernel
theorem dX6_open_64 : decode cX6_open 64 = .ok (.iload_n 1, 1) := by decide +kernel
theorem dX6_open_65 : decode cX6_open 65 = .ok (.aload_n 0, 1) := by decide +kernel
theorem dX6_open_66 : decode cX6_open 66 = .ok (.getfield 18, 3) := by decide +kernel
theorem dX6_open_69 : decode cX6_open 69 = .ok (.aload_n 0, 1) := by decide +kernel
theorem dX6_open_70 : decode cX6_open 70 = .ok (.getfield 27, 3) := by decide +kernel
theorem dX6_open_73 : decode cX6_open 73 = .ok (.getfield 253, 3) := by decide +kernel
theorem dX6_open_76 : decode cX6_open 76 = .ok (.invokevirtual 312, 3) := by decide +kernel
theorem dX6_open_79 : decode cX6_open 79 = .ok (.ifCond .ne 14, 3) := by decide +kernel
theorem dX6_open_82 : decode cX6_open 82 = .ok (.new 303, 3) := by decide +kernel
theorem dX6_open_85 : decode cX6_open 85 = .ok (.dup, 1) := by decide +kernel
theorem dX6_open_86 : decode cX6_open 86 = .ok (.ldc_w 305, 3) := by decide +kernel
theorem dX6_open_89 : decode cX6_open 89 = .ok (.invokespecial 307, 3) := by decide +kernel
theorem dX6_open_92 : decode cX6_open 92 = .ok (.athrow, 1) := by decide +kernel
theorem dX6_open_93 : decode cX6_open 93 = .ok (.aload_n 0, 1) := by decide +kernel
theorem dX6_open_94 : decode cX6_open 94 = .ok (.getfield 47, 3) := by decide +kernel
theorem dX6_open_97 : decode cX6_open 97 = .ok (.getfield 308, 3) := by decide +kernel
theorem dX6_open_100 : decode cX6_open 100 = .ok (.getfield 73, 3) := by decide +kernel
theorem dX6_open_103 : decode cX6_open 103 = .ok (.ireturn, 1) := by decide +kernel
abbrev rm_X6_open : Room := { frames := 7, cells := 3, slots := 18, locals := 132 }
def f_X6_open_L31 (cy : Nat → ClassId) (a0 : Nat) (a1 : Int32) (t0 : Nat) (t1 : Nat) (t2 : Int32) (μ : Mem) : Option ((String × Mem) ⊕ (Int32 × Mem)) :=
  (rdR μ a0 5 6).bind fun q101 => (rdI μ q101 2 5).bind fun v103 => if isO μ t0 1 = true then ((f_X2_judgeOpening cy t0 t1 t2 a1 v103 μ).bind fun μ107 => (rdR μ107 a0 5 3).bind fun q108 => (rdI μ107 q108 1 1).bind fun v110 => (rdR μ107 a0 5 3).bind fun q112 => (rdI μ107 q112 1 2).bind fun v114 => if isO μ107 a0 5 = true then (obX (f_X6_refuseFault cy a0 v110 v114 μ107) fun μ118 => (rdR μ118 a0 5 6).bind fun q121 => (rdR μ118 a0 5 1).bind fun q123 => (rdR μ118 a0 5 3).bind fun q125 => (rdI μ118 q125 1 3).bind fun v127 => if isO μ118 q121 2 = true then (ob2 (f_X3_openElement cy q121 a1 q123 v127 μ118) fun r132 μ131 => if r132 = 0 then (some (.inl ("java/lang/UnsupportedOperationException", μ131))) else (rdR μ131 a0 5 6).bind fun q134 => (rdR μ131 q134 2 0).bind fun q136 => (rdI μ131 q136 4 1).bind fun v138 => some (.inr (v138, μ131))) else none) else none) else none
set_option maxRecDepth 100000 in
set_option maxHeartbeats 4000000 in
theorem w_X6_open_L31 {p : Program} {l : Launch} {e : Env} {s : State} {m : MethodId} {args : Array Value} {below : List Frame} {meth : Method} {c : Code} {A : Nat → Prop} {g : Wg} {L : List Nat} {res : ((String × Mem) ⊕ (Int32 × Mem))} (hC : CX p m c cX6_open 2 s args RX6) (hr : meth.sig.returnType = (some .int)) (hlocks : meth.locks = false) (hl0 : l.stackTraces = false) (hX : XS A s s.heap) (hno : ∀ x ∈ c.exceptionTable.toList, False) : ∀ (a0 : Nat) (a1 : Int32) (t0 : Nat) (t1 : Nat) (t2 : Int32) (μ : Mem) (H : Heap) (locs : List Loc) (ls : Array Slot), lv_has ls 2 [(0, .ref a0), (1, .int a1)] → PW g L μ A s H locs → f_X6_open_L31 g.2 a0 a1 t0 t1 t2 μ = some res → W p l e rm_X6_open s m args below meth c H locs 1 6 (vx_MQ below (QX g L A (rvI res)) (XX g L A (rvI res)) args s 3 18 A) (F0 m 31 ls [.int t2, .ref t1, .ref t0]) := by
  have hx := hC.1
  have hb := hC.2.1
  intro a0 a1 t0 t1 t2 μ H locs ls hl hw hf
  unfold f_X6_open_L31 at hf
  refine lv_iload_n hx hb dX6_open_31 rfl (lv_at hl 1 rfl) ?_
  refine lv_aload_n hx hb dX6_open_32 rfl (lv_at hl 0 rfl) ?_
  obtain ⟨q101, h102, hf⟩ := o_bind hf
  refine pw_get hC fl_X6_47 hw (rdR_F h102) dX6_open_33 ?_
  obtain ⟨v103, h104, hf⟩ := o_bind hf
  refine pw_get hC fl_X6_297 hw (rdI_F h104) dX6_open_36 ?_
  obtain ⟨h106, hf⟩ := o_ite hf
  obtain ⟨μ107, h105, hf⟩ := o_bind hf
  refine pw_goV hw (pw_runV (As := [.ref t1, .int t2, .int a1, .int v103]) (rest := []) hC mm_X2_judgeOpening tw_964 (c_X2_judgeOpening h105 _) ⟨rfl, rfl, by decide, by decide⟩ hw h106 rfl hl.1 (Nat.le_of_ble_eq_true rfl) ⟨by decide, by decide⟩ rfl dX6_open_39) (fun H locs hw => ?_)
  refine lv_aload_n hx hb dX6_open_42 rfl (lv_at hl 0 rfl) ?_
  refine lv_aload_n hx hb dX6_open_43 rfl (lv_at hl 0 rfl) ?_
  obtain ⟨q108, h109, hf⟩ := o_bind hf
  refine pw_get hC fl_X6_27 hw (rdR_F h109) dX6_open_44 ?_
  obtain ⟨v110, h111, hf⟩ := o_bind hf
  refine pw_get hC fl_X6_82 hw (rdI_F h111) dX6_open_47 ?_
  refine lv_aload_n hx hb dX6_open_50 rfl (lv_at hl 0 rfl) ?_
  obtain ⟨q112, h113, hf⟩ := o_bind hf
  refine pw_get hC fl_X6_27 hw (rdR_F h113) dX6_open_51 ?_
  obtain ⟨v114, h115, hf⟩ := o_bind hf
  refine pw_get hC fl_X6_85 hw (rdI_F h115) dX6_open_54 ?_
  obtain ⟨h117, hf⟩ := o_ite hf
  rcases o_bindX hf with ⟨er119, h116, rfl⟩ | ⟨μ118, h116, hf⟩
  · exact pw_thru hw hno hlocks (pw_runVX (As := [.int v110, .int v114]) (rest := []) hC mm_X6_refuseFault tw_557 (c_X6_refuseFault hl0 h116) ⟨by decide, by decide⟩ hw hX h117 rfl hl.1 (Nat.le_of_ble_eq_true rfl) ⟨by decide, by decide⟩ rfl dX6_open_57) (by decide) (by decide)
  · refine pw_goX hw (pw_runVX (As := [.int v110, .int v114]) (rest := []) hC mm_X6_refuseFault tw_557 (c_X6_refuseFault hl0 h116) ⟨by decide, by decide⟩ hw hX h117 rfl hl.1 (Nat.le_of_ble_eq_true rfl) ⟨by decide, by decide⟩ rfl dX6_open_57) (fun H locs hw => ?_)
    refine W.eq (g2 := F0 m 60 ls []) rfl ?_
    refine W.widen (k := 2) (n := 12) (by decide) (by decide) ?_
    refine lv_aload_n hx hb dX6_open_60 rfl (lv_at hl 0 rfl) ?_
    obtain ⟨q121, h122, hf⟩ := o_bind hf
    refine pw_get hC fl_X6_47 hw (rdR_F h122) dX6_open_61 ?_
    refine lv_iload_n hx hb dX6_open_64 rfl (lv_at hl 1 rfl) ?_
    refine lv_aload_n hx hb dX6_open_65 rfl (lv_at hl 0 rfl) ?_
    obtain ⟨q123, h124, hf⟩ := o_bind hf
    refine pw_get hC fl_X6_18 hw (rdR_F h124) dX6_open_66 ?_
    refine lv_aload_n hx hb dX6_open_69 rfl (lv_at hl 0 rfl) ?_
    obtain ⟨q125, h126, hf⟩ := o_bind hf
    refine pw_get hC fl_X6_27 hw (rdR_F h126) dX6_open_70 ?_
    obtain ⟨v127, h128, hf⟩ := o_bind hf
    refine pw_get hC fl_X6_253 hw (rdI_F h128) dX6_open_73 ?_
    obtain ⟨h130, hf⟩ := o_ite hf
    obtain ⟨r132, μ131, h129, hf⟩ := o_bind2 hf
    refine pw_goI hw (pw_runV (As := [.int a1, .ref q123, .int v127]) (rest := []) hC mm_X3_openElement tw_969 (c_X3_openElement h129 _) ⟨rfl, rfl, by decide, by decide⟩ hw h130 rfl hl.1 (Nat.le_of_ble_eq_true rfl) ⟨by decide, by decide⟩ rfl dX6_open_76) (fun H locs hw => ?_)
    refine lv_if_ne (tgt := 93) hx hb dX6_open_79 (by decide) (fun c133 => ?_) (fun c133 => ?_)
    · have hf := o_neg c133 hf
      refine lv_aload_n hx hb dX6_open_93 rfl (lv_at hl 0 rfl) ?_
      obtain ⟨q134, h135, hf⟩ := o_bind hf
      refine pw_get hC fl_X6_47 hw (rdR_F h135) dX6_open_94 ?_
      obtain ⟨q136, h137, hf⟩ := o_bind hf
      refine pw_get hC fl_X6_308 hw (rdR_F h137) dX6_open_97 ?_
      obtain ⟨v138, h139, hf⟩ := o_bind hf
      refine pw_get hC fl_X6_73 hw (rdI_F h139) dX6_open_100 ?_
      obtain rfl := o_retv hf
      exact pw_xiret hC hr hlocks (by decide) (by decide) hw dX6_open_103
    · have hf := o_pos c133 hf
      obtain rfl := o_retv hf
      exact pw_thrSW (text := "the sheet would be too big") hC hl0 hw hX hno hlocks rfl tws_X6_303 (by decide) hl.1 dX6_open_82 dX6_open_85 dX6_open_86 dX6_open_89 dX6_open_92 (by decide) (Nat.le_of_ble_eq_true rfl) (by decide) (by decide) (by decide) (by decide)
def f_X6_open (cy : Nat → ClassId) (a0 : Nat) (a1 : Int32) (μ : Mem) : Option ((String × Mem) ⊕ (Int32 × Mem)) :=
  if isO μ a0 5 = true then ((f_X6_useTapeUp cy a0 μ).bind fun μ3 => if isO μ3 a0 5 = true then (obX (f_X6_refuseNothingOpen cy a0 μ3) fun μ6 => (rdR μ6 a0 5 3).bind fun q9 => (rdR μ6 a0 5 1).bind fun q11 => (rdR μ6 a0 5 6).bind fun q13 => if isO μ6 q13 2 = true then (ob2 (f_X3_isInRow cy q13 μ6) fun r18 μ17 => if r18 = 0 then (f_X6_open_L31 cy a0 a1 q9 q11 1 μ17) else f_X6_open_L31 cy a0 a1 q9 q11 0 μ17) else none) else none) else none
set_option maxRecDepth 100000 in
set_option maxHeartbeats 4000000 in
theorem c_X6_open {l : Launch} {g : Wg} {L : List Nat} {μ : Mem} {a0 : Nat} {a1 : Int32} {res : ((String × Mem) ⊕ (Int32 × Mem))} (hl0 : l.stackTraces = false) (hf : f_X6_open g.2 a0 a1 μ = some res) : MetX l yX6_open cX6_open 2 (some .int) rm_X6_open g L μ [.ref a0, .int a1] (rvI res) := by
  refine pw_metX (by decide) (Nat.le_of_ble_eq_true rfl) ?_
  intro p e s m args below meth c A ls H locs hC hr hlocks hl hw hX hno
  have hx := hC.1
  have hb := hC.2.1
  have hl : lv_has ls 2 [(0, .ref a0), (1, .int a1)] := hl
  unfold f_X6_open at hf
  refine lv_aload_n hx hb dX6_open_0 rfl (lv_at hl 0 rfl) ?_
  obtain ⟨h2, hf⟩ := o_ite hf
  obtain ⟨μ3, h1, hf⟩ := o_bind hf
  refine pw_goV hw (pw_runV (As := []) (rest := []) hC mm_X6_useTapeUp tw_551 (c_X6_useTapeUp h1 _) ⟨rfl, rfl, by decide, by decide⟩ hw h2 rfl hl.1 (Nat.le_of_ble_eq_true rfl) ⟨by decide, by decide⟩ rfl dX6_open_1) (fun H locs hw => ?_)
  refine lv_aload_n hx hb dX6_open_4 rfl (lv_at hl 0 rfl) ?_
  obtain ⟨h5, hf⟩ := o_ite hf
  rcases o_bindX hf with ⟨er7, h4, rfl⟩ | ⟨μ6, h4, hf⟩
  · exact pw_thru hw hno hlocks (pw_runVX (As := []) (rest := []) hC mm_X6_refuseNothingOpen tw_925 (c_X6_refuseNothingOpen hl0 h4) ⟨by decide, by decide⟩ hw hX h5 rfl hl.1 (Nat.le_of_ble_eq_true rfl) ⟨by decide, by decide⟩ rfl dX6_open_5) (by decide) (by decide)
  · refine pw_goX hw (pw_runVX (As := []) (rest := []) hC mm_X6_refuseNothingOpen tw_925 (c_X6_refuseNothingOpen hl0 h4) ⟨by decide, by decide⟩ hw hX h5 rfl hl.1 (Nat.le_of_ble_eq_true rfl) ⟨by decide, by decide⟩ rfl dX6_open_5) (fun H locs hw => ?_)
    refine W.eq (g2 := F0 m 8 ls []) rfl ?_
    refine W.widen (k := 1) (n := 6) (by decide) (by decide) ?_
    refine lv_aload_n hx hb dX6_open_8 rfl (lv_at hl 0 rfl) ?_
    obtain ⟨q9, h10, hf⟩ := o_bind hf
    refine pw_get hC fl_X6_27 hw (rdR_F h10) dX6_open_9 ?_
    refine lv_aload_n hx hb dX6_open_12 rfl (lv_at hl 0 rfl) ?_
    obtain ⟨q11, h12, hf⟩ := o_bind hf
    refine pw_get hC fl_X6_18 hw (rdR_F h12) dX6_open_13 ?_
    refine lv_aload_n hx hb dX6_open_16 rfl (lv_at hl 0 rfl) ?_
    obtain ⟨q13, h14, hf⟩ := o_bind hf
    refine pw_get hC fl_X6_47 hw (rdR_F h14) dX6_open_17 ?_
    obtain ⟨h16, hf⟩ := o_ite hf
    obtain ⟨r18, μ17, h15, hf⟩ := o_bind2 hf
    refine pw_goI hw (pw_runV (As := []) (rest := [.ref q11, .ref q9]) hC mm_X3_isInRow tw_930 (c_X3_isInRow h15 _) ⟨rfl, rfl, by decide, by decide⟩ hw h16 rfl hl.1 (Nat.le_of_ble_eq_true rfl) ⟨by decide, by decide⟩ rfl dX6_open_20) (fun H locs hw => ?_)
    refine lv_if_ne (tgt := 30) hx hb dX6_open_23 (by decide) (fun c19 => ?_) (fun c19 => ?_)
    · have hf := o_neg c19 hf
      refine lv_iconst (v := 0) hx hb dX6_open_30 nc_iconst_0 ?_
      refine W.widen (k := 1) (n := 6) (by decide) (by decide) ?_
      exact w_X6_open_L31 hC hr hlocks hl0 hX hno _ _ _ _ _ _ _ _ ls (lv_sub hl [0, 1] rfl) hw hf
    · have hf := o_pos c19 hf
      refine lv_iconst (v := 1) hx hb dX6_open_26 nc_iconst_1 ?_
      refine lv_goto (tgt := 31) hx hb dX6_open_27 (by decide) ?_
      refine W.widen (k := 1) (n := 6) (by decide) (by decide) ?_
      exact w_X6_open_L31 hC hr hlocks hl0 hX hno _ _ _ _ _ _ _ _ ls (lv_sub hl [0, 1] rfl) hw hf
theorem dX6_close_0 : decode cX6_close 0 = .ok (.aload_n 0, 1) := by decide +kernel
theorem dX6_close_1 : decode cX6_close 1 = .ok (.invokevirtual 293, 3) := by decide +kernel
theorem dX6_close_4 : decode cX6_close 4 = .ok (.aload_n 0, 1) := by decide +kernel
theorem dX6_close_5 : decode cX6_close 5 = .ok (.getfield 47, 3) := by decide +kernel
theorem dX6_close_8 : decode cX6_close 8 = .ok (.invokevirtual 315, 3) := by decide +kernel
theorem dX6_close_11 : decode cX6_close 11 = .ok (.aload_n 0, 1) := by decide +kernel
theorem dX6_close_12 : decode cX6_close 12 = .ok (.getfield 47, 3) := by decide +kernel
theorem dX6_close_15 : decode cX6_close 15 = .ok (.getfield 297, 3) := by decide +kernel
theorem dX6_close_18 : decode cX6_close 18 = .ok (.ireturn, 1) := by decide +kernel
abbrev rm_X6_close : Room := { frames := 7, cells := 1, slots := 6, locals := 120 }
def f_X6_close (cy : Nat → ClassId) (a0 : Nat) (μ : Mem) : Option ((String × Mem) ⊕ (Int32 × Mem)) :=
  if isO μ a0 5 = true then (obX (f_X6_refuseNothingOpen cy a0 μ) fun μ3 => (rdR μ3 a0 5 6).bind fun q6 => if isO μ3 q6 2 = true then ((f_X3_closeInnermost cy q6 μ3).bind fun μ10 => (rdR μ10 a0 5 6).bind fun q11 => (rdI μ10 q11 2 5).bind fun v13 => some (.inr (v13, μ10))) else none) else none
set_option maxRecDepth 100000 in
set_option maxHeartbeats 4000000 in
theorem c_X6_close {l : Launch} {g : Wg} {L : List Nat} {μ : Mem} {a0 : Nat} {res : ((String × Mem) ⊕ (Int32 × Mem))} (hl0 : l.stackTraces = false) (hf : f_X6_close g.2 a0 μ = some res) : MetX l yX6_close cX6_close 1 (some .int) rm_X6_close g L μ [.ref a0] (rvI res) := by
  refine pw_metX (by decide) (Nat.le_of_ble_eq_true rfl) ?_
  intro p e s m args below meth c A ls H locs hC hr hlocks hl hw hX hno
  have hx := hC.1
  have hb := hC.2.1
  have hl : lv_has ls 1 [(0, .ref a0)] := hl
  unfold f_X6_close at hf
  refine lv_aload_n hx hb dX6_close_0 rfl (lv_at hl 0 rfl) ?_
  obtain ⟨h2, hf⟩ := o_ite hf
  rcases o_bindX hf with ⟨er4, h1, rfl⟩ | ⟨μ3, h1, hf⟩
  · exact pw_thru hw hno hlocks (pw_runVX (As := []) (rest := []) hC mm_X6_refuseNothingOpen tw_925 (c_X6_refuseNothingOpen hl0 h1) ⟨by decide, by decide⟩ hw hX h2 rfl hl.1 (Nat.le_of_ble_eq_true rfl) ⟨by decide, by decide⟩ rfl dX6_close_1) (by decide) (by decide)
  · refine pw_goX hw (pw_runVX (As := []) (rest := []) hC mm_X6_refuseNothingOpen tw_925 (c_X6_refuseNothingOpen hl0 h1) ⟨by decide, by decide⟩ hw hX h2 rfl hl.1 (Nat.le_of_ble_eq_true rfl) ⟨by decide, by decide⟩ rfl dX6_close_1) (fun H locs hw => ?_)
    refine W.eq (g2 := F0 m 4 ls []) rfl ?_
    refine W.widen (k := 1) (n := 6) (by decide) (by decide) ?_
    refine lv_aload_n hx hb dX6_close_4 rfl (lv_at hl 0 rfl) ?_
    obtain ⟨q6, h7, hf⟩ := o_bind hf
    refine pw_get hC fl_X6_47 hw (rdR_F h7) dX6_close_5 ?_
    obtain ⟨h9, hf⟩ := o_ite hf
    obtain ⟨μ10, h8, hf⟩ := o_bind hf
    refine pw_goV hw (pw_runV (As := []) (rest := []) hC mm_X3_closeInnermost tw_980 (c_X3_closeInnermost h8 _) ⟨rfl, rfl, by decide, by decide⟩ hw h9 rfl hl.1 (Nat.le_of_ble_eq_true rfl) ⟨by decide, by decide⟩ rfl dX6_close_8) (fun H locs hw => ?_)
    refine lv_aload_n hx hb dX6_close_11 rfl (lv_at hl 0 rfl) ?_
    obtain ⟨q11, h12, hf⟩ := o_bind hf
    refine pw_get hC fl_X6_47 hw (rdR_F h12) dX6_close_12 ?_
    obtain ⟨v13, h14, hf⟩ := o_bind hf
    refine pw_get hC fl_X6_297 hw (rdI_F h14) dX6_close_15 ?_
    obtain rfl := o_retv hf
    exact pw_xiret hC hr hlocks (by decide) (by decide) hw dX6_close_18
theorem dX6_lay_0 : decode cX6_lay 0 = .ok (.aload_n 0, 1) := by decide +kernel
theorem dX6_lay_1 : decode cX6_lay 1 = .ok (.iload_n 1, 1) := by decide +kernel
theorem dX6_lay_2 : decode cX6_lay 2 = .ok (.invokevirtual 95, 3) := by decide +kernel
theorem dX6_lay_5 : decode cX6_lay 5 = .ok (.astore_n 2, 1) := by decide +kernel
theorem dX6_lay_6 : decode cX6_lay 6 = .ok (.aload_n 0, 1) := by decide +kernel
theorem dX6_lay_7 : decode cX6_lay 7 = .ok (.getfield 47, 3) := by decide +kernel
theorem dX6_lay_10 : decode cX6_lay 10 = .ok (.getfield 318, 3) := by decide +kernel
theorem dX6_lay_13 : decode cX6_lay 13 = .ok (.ifCond .eq 13, 3) := by decide +kernel
theorem dX6_lay_16 : decode cX6_lay 16 = .ok (.aload_n 0, 1) := by decide +kernel
theorem dX6_lay_17 : decode cX6_lay 17 = .ok (.getfield 47, 3) := by decide +kernel
theorem dX6_lay_20 : decode cX6_lay 20 = .ok (.getfield 297, 3) := by decide +kernel
theorem dX6_lay_23 : decode cX6_lay 23 = .ok (.ifCond .le 14, 3) := by decide +kernel
theorem dX6_lay_26 : decode cX6_lay 26 = .ok (.new 183, 3) := by decide +kernel
theorem dX6_lay_29 : decode cX6_lay 29 = .ok (.dup, 1) := by decide +kernel
theorem dX6_lay_30 : decode cX6_lay 30 = .ok (.ldc_w 322, 3) := by decide +kernel
theorem dX6_lay_33 : decode cX6_lay 33 = .ok (.invokespecial 187, 3) := by decide +kernel
theorem dX6_lay_36 : decode cX6_lay 36 = .ok (.athrow, 1) := by decide +kernel
theorem dX6_lay_37 : decode cX6_lay 37 = .ok (.aload_n 2, 1) := by decide +kernel
theorem dX6_lay_38 : decode cX6_lay 38 = .ok (.aload_n 0, 1) := by decide +kernel
theorem dX6_lay_39 : decode cX6_lay 39 = .ok (.getfield 47, 3) := by decide +kernel
theorem dX6_lay_42 : decode cX6_lay 42 = .ok (.getfield 308, 3) := by decide +kernel
theorem dX6_lay_45 : decode cX6_lay 45 = .ok (.invokevirtual 70, 3) := by decide +kernel
theorem dX6_lay_48 : decode cX6_lay 48 = .ok (.aload_n 0, 1) := by decide +kernel
theorem dX6_lay_49 : decode cX6_lay 49 = .ok (.getfield 47, 3) := by decide +kernel
theorem dX6_lay_52 : decode cX6_lay 52 = .ok (.invokevirtual 324, 3) := by decide +kernel
theorem dX6_lay_55 : decode cX6_lay 55 = .ok (.aload_n 2, 1) := by decide +kernel
theorem dX6_lay_56 : decode cX6_lay 56 = .ok (.getfield 102, 3) := by decide +kernel
theorem dX6_lay_59 : decode cX6_lay 59 = .ok (.getfield 73, 3) := by decide +kernel
theorem dX6_lay_62 : decode cX6_lay 62 = .ok (.ireturn, 1) := by decide +kernel
abbrev rm_X6_lay : Room := { frames := 7, cells := 2, slots := 12, locals := 133 }
def f_X6_lay_L26 (cy : Nat → ClassId)  (μ : Mem) : Option ((String × Mem) ⊕ (Int32 × Mem)) :=
  some (.inl ("java/lang/IllegalStateException", μ))
set_option maxRecDepth 100000 in
set_option maxHeartbeats 4000000 in
theorem w_X6_lay_L26 {p : Program} {l : Launch} {e : Env} {s : State} {m : MethodId} {args : Array Value} {below : List Frame} {meth : Method} {c : Code} {A : Nat → Prop} {g : Wg} {L : List Nat} {res : ((String × Mem) ⊕ (Int32 × Mem))} (hC : CX p m c cX6_lay 3 s args RX6) (hr : meth.sig.returnType = (some .int)) (hlocks : meth.locks = false) (hl0 : l.stackTraces = false) (hX : XS A s s.heap) (hno : ∀ x ∈ c.exceptionTable.toList, False) : ∀  (μ : Mem) (H : Heap) (locs : List Loc) (ls : Array Slot), lv_has ls 3 [] → PW g L μ A s H locs → f_X6_lay_L26 g.2  μ = some res → W p l e rm_X6_lay s m args below meth c H locs 1 6 (vx_MQ below (QX g L A (rvI res)) (XX g L A (rvI res)) args s 2 12 A) (F0 m 26 ls []) := by
  have hx := hC.1
  have hb := hC.2.1
  intro  μ H locs ls hl hw hf
  unfold f_X6_lay_L26 at hf
  obtain rfl := o_retv hf
  exact pw_thrSW (text := "there is no sheet that is done") hC hl0 hw hX hno hlocks rfl tws_X6_183 (by decide) hl.1 dX6_lay_26 dX6_lay_29 dX6_lay_30 dX6_lay_33 dX6_lay_36 (by decide) (Nat.le_of_ble_eq_true rfl) (by decide) (by decide) (by decide) (by decide)
def f_X6_lay (cy : Nat → ClassId) (a0 : Nat) (a1 : Int32) (μ : Mem) : Option ((String × Mem) ⊕ (Int32 × Mem)) :=
  if isO μ a0 5 = true then (obX2 (f_X6_shelfOf cy a0 a1 μ) fun q6 μ3 => (rdR μ3 a0 5 6).bind fun q7 => (rdI μ3 q7 2 6).bind fun v9 => if v9 = 0 then (f_X6_lay_L26 cy  μ3) else (rdR μ3 a0 5 6).bind fun q12 => (rdI μ3 q12 2 5).bind fun v14 => if v14 ≤ 0 then ((rdR μ3 a0 5 6).bind fun q17 => (rdR μ3 q17 2 0).bind fun q19 => if isO μ3 q6 3 = true then ((f_X4_become cy q6 q19 μ3).bind fun μ23 => (rdR μ23 a0 5 6).bind fun q24 => if isO μ23 q24 2 = true then ((f_X3_takeAway cy q24 μ23).bind fun μ28 => (rdR μ28 q6 3 0).bind fun q29 => (rdI μ28 q29 4 1).bind fun v31 => some (.inr (v31, μ28))) else none) else none) else f_X6_lay_L26 cy  μ3) else none
set_option maxRecDepth 100000 in
set_option maxHeartbeats 4000000 in
theorem c_X6_lay {l : Launch} {g : Wg} {L : List Nat} {μ : Mem} {a0 : Nat} {a1 : Int32} {res : ((String × Mem) ⊕ (Int32 × Mem))} (hl0 : l.stackTraces = false) (hf : f_X6_lay g.2 a0 a1 μ = some res) : MetX l yX6_lay cX6_lay 3 (some .int) rm_X6_lay g L μ [.ref a0, .int a1] (rvI res) := by
  refine pw_metX (by decide) (Nat.le_of_ble_eq_true rfl) ?_
  intro p e s m args below meth c A ls H locs hC hr hlocks hl hw hX hno
  have hx := hC.1
  have hb := hC.2.1
  have hl : lv_has ls 3 [(0, .ref a0), (1, .int a1)] := hl
  unfold f_X6_lay at hf
  refine lv_aload_n hx hb dX6_lay_0 rfl (lv_at hl 0 rfl) ?_
  refine lv_iload_n hx hb dX6_lay_1 rfl (lv_at hl 1 rfl) ?_
  obtain ⟨h2, hf⟩ := o_ite hf
  rcases o_bindX2 hf with ⟨er4, h1, rfl⟩ | ⟨q6, μ3, h1, hf⟩
  · exact pw_thru hw hno hlocks (pw_runVX (As := [.int a1]) (rest := []) hC mm_X6_shelfOf tw_429 (c_X6_shelfOf hl0 h1) ⟨by decide, by decide⟩ hw hX h2 rfl hl.1 (Nat.le_of_ble_eq_true rfl) ⟨by decide, by decide⟩ rfl dX6_lay_2) (by decide) (by decide)
  · refine pw_goX hw (pw_runVX (As := [.int a1]) (rest := []) hC mm_X6_shelfOf tw_429 (c_X6_shelfOf hl0 h1) ⟨by decide, by decide⟩ hw hX h2 rfl hl.1 (Nat.le_of_ble_eq_true rfl) ⟨by decide, by decide⟩ rfl dX6_lay_2) (fun H locs hw => ?_)
    refine W.eq (g2 := F0 m 5 ls [.ref q6]) rfl ?_
    refine W.widen (k := 1) (n := 6) (by decide) (by decide) ?_
    refine lv_astore_n (lv' := [(2, .ref q6), (0, .ref a0), (1, .int a1)]) hx hb dX6_lay_5 rfl hl (by decide) rfl (fun ls hl => ?_)
    refine lv_aload_n hx hb dX6_lay_6 rfl (lv_at hl 1 rfl) ?_
    obtain ⟨q7, h8, hf⟩ := o_bind hf
    refine pw_get hC fl_X6_47 hw (rdR_F h8) dX6_lay_7 ?_
    obtain ⟨v9, h10, hf⟩ := o_bind hf
    refine pw_get hC fl_X6_318 hw (rdI_F h10) dX6_lay_10 ?_
    refine lv_if_eq (tgt := 26) hx hb dX6_lay_13 (by decide) (fun c11 => ?_) (fun c11 => ?_)
    · have hf := o_pos c11 hf
      refine W.widen (k := 1) (n := 6) (by decide) (by decide) ?_
      exact w_X6_lay_L26 hC hr hlocks hl0 hX hno  _ _ _ ls (lv_sub hl [] rfl) hw hf
    · have hf := o_neg c11 hf
      refine lv_aload_n hx hb dX6_lay_16 rfl (lv_at hl 1 rfl) ?_
      obtain ⟨q12, h13, hf⟩ := o_bind hf
      refine pw_get hC fl_X6_47 hw (rdR_F h13) dX6_lay_17 ?_
      obtain ⟨v14, h15, hf⟩ := o_bind hf
      refine pw_get hC fl_X6_297 hw (rdI_F h15) dX6_lay_20 ?_
      refine lv_if_le (tgt := 37) hx hb dX6_lay_23 (by decide) (fun c16 => ?_) (fun c16 => ?_)
      · have hf := o_pos c16 hf
        refine lv_aload_n hx hb dX6_lay_37 rfl (lv_at hl 0 rfl) ?_
        refine lv_aload_n hx hb dX6_lay_38 rfl (lv_at hl 1 rfl) ?_
        obtain ⟨q17, h18, hf⟩ := o_bind hf
        refine pw_get hC fl_X6_47 hw (rdR_F h18) dX6_lay_39 ?_
        obtain ⟨q19, h20, hf⟩ := o_bind hf
        refine pw_get hC fl_X6_308 hw (rdR_F h20) dX6_lay_42 ?_
        obtain ⟨h22, hf⟩ := o_ite hf
        obtain ⟨μ23, h21, hf⟩ := o_bind hf
        refine pw_goV hw (pw_runV (As := [.ref q19]) (rest := []) hC mm_X4_become tw_223 (c_X4_become h21 _) ⟨rfl, rfl, by decide, by decide⟩ hw h22 rfl hl.1 (Nat.le_of_ble_eq_true rfl) ⟨by decide, by decide⟩ rfl dX6_lay_45) (fun H locs hw => ?_)
        refine lv_aload_n hx hb dX6_lay_48 rfl (lv_at hl 1 rfl) ?_
        obtain ⟨q24, h25, hf⟩ := o_bind hf
        refine pw_get hC fl_X6_47 hw (rdR_F h25) dX6_lay_49 ?_
        obtain ⟨h27, hf⟩ := o_ite hf
        obtain ⟨μ28, h26, hf⟩ := o_bind hf
        refine pw_goV hw (pw_runV (As := []) (rest := []) hC mm_X3_takeAway tw_993 (c_X3_takeAway h26 _) ⟨rfl, rfl, by decide, by decide⟩ hw h27 rfl hl.1 (Nat.le_of_ble_eq_true rfl) ⟨by decide, by decide⟩ rfl dX6_lay_52) (fun H locs hw => ?_)
        refine lv_aload_n hx hb dX6_lay_55 rfl (lv_at hl 0 rfl) ?_
        obtain ⟨q29, h30, hf⟩ := o_bind hf
        refine pw_get hC fl_X6_102 hw (rdR_F h30) dX6_lay_56 ?_
        obtain ⟨v31, h32, hf⟩ := o_bind hf
        refine pw_get hC fl_X6_73 hw (rdI_F h32) dX6_lay_59 ?_
        obtain rfl := o_retv hf
        exact pw_xiret hC hr hlocks (by decide) (by decide) hw dX6_lay_62
      · have hf := o_neg c16 hf
        refine W.widen (k := 1) (n := 6) (by decide) (by decide) ?_
        exact w_X6_lay_L26 hC hr hlocks hl0 hX hno  _ _ _ ls (lv_sub hl [] rfl) hw hf
