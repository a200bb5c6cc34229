def R_Lw : String := "PlaneNetLaw"
theorem wd_63 : (Cond.initialized "PlaneNetLaw") ∈ TT := mem_TT (List.mem_of_getElem? (i := 63) (by decide +kernel)) (by decide +kernel)
theorem wd_80 : (Cond.classLink "PlaneNetLaw" 8 "PlaneNet") ∈ TT := mem_TT (List.mem_of_getElem? (i := 80) (by decide +kernel)) (by decide +kernel)
theorem wd_81 : (Cond.instantiable "PlaneNet" 8) ∈ TT := mem_TT (List.mem_of_getElem? (i := 81) (by decide +kernel)) (by decide +kernel)
theorem wd_82 : (Cond.methodLink "PlaneNetLaw" 54 (⟨"PlaneNet", "<init>", "(I)V"⟩ : MethodName)) ∈ TT := mem_TT (List.mem_of_getElem? (i := 82) (by decide +kernel)) (by decide +kernel)
theorem wd_83 : (Cond.instanceMethod (⟨"PlaneNet", "<init>", "(I)V"⟩ : MethodName)) ∈ TT := mem_TT (List.mem_of_getElem? (i := 83) (by decide +kernel)) (by decide +kernel)
theorem wd_275 : (Cond.methodLink "PlaneNetLaw" 68 (⟨"PlaneNet", "clear", "()I"⟩ : MethodName)) ∈ TT := mem_TT (List.mem_of_getElem? (i := 275) (by decide +kernel)) (by decide +kernel)
theorem wd_276 : (Cond.instanceMethod (⟨"PlaneNet", "clear", "()I"⟩ : MethodName)) ∈ TT := mem_TT (List.mem_of_getElem? (i := 276) (by decide +kernel)) (by decide +kernel)
theorem wd_277 : (Cond.selects "PlaneNet" (⟨"PlaneNet", "clear", "()I"⟩ : MethodName) (⟨"PlaneNet", "clear", "()I"⟩ : MethodName)) ∈ TT := mem_TT (List.mem_of_getElem? (i := 277) (by decide +kernel)) (by decide +kernel)
theorem wd_302 : (Cond.methodLink "PlaneNetLaw" 91 (⟨"PlaneNet", "located", "(I)I"⟩ : MethodName)) ∈ TT := mem_TT (List.mem_of_getElem? (i := 302) (by decide +kernel)) (by decide +kernel)
theorem wd_303 : (Cond.instanceMethod (⟨"PlaneNet", "located", "(I)I"⟩ : MethodName)) ∈ TT := mem_TT (List.mem_of_getElem? (i := 303) (by decide +kernel)) (by decide +kernel)
theorem wd_304 : (Cond.selects "PlaneNet" (⟨"PlaneNet", "located", "(I)I"⟩ : MethodName) (⟨"PlaneNet", "located", "(I)I"⟩ : MethodName)) ∈ TT := mem_TT (List.mem_of_getElem? (i := 304) (by decide +kernel)) (by decide +kernel)
theorem wd_306 : (Cond.methodLink "PlaneNetLaw" 104 (⟨"PlaneNet", "count", "(I)I"⟩ : MethodName)) ∈ TT := mem_TT (List.mem_of_getElem? (i := 306) (by decide +kernel)) (by decide +kernel)
theorem wd_307 : (Cond.instanceMethod (⟨"PlaneNet", "count", "(I)I"⟩ : MethodName)) ∈ TT := mem_TT (List.mem_of_getElem? (i := 307) (by decide +kernel)) (by decide +kernel)
theorem wd_308 : (Cond.selects "PlaneNet" (⟨"PlaneNet", "count", "(I)I"⟩ : MethodName) (⟨"PlaneNet", "count", "(I)I"⟩ : MethodName)) ∈ TT := mem_TT (List.mem_of_getElem? (i := 308) (by decide +kernel)) (by decide +kernel)
theorem wd_412 : (Cond.methodLink "PlaneNetLaw" 48 (⟨"PlaneNetLaw", "cell", "([II)I"⟩ : MethodName)) ∈ TT := mem_TT (List.mem_of_getElem? (i := 412) (by decide +kernel)) (by decide +kernel)
theorem wd_413 : (Cond.static (⟨"PlaneNetLaw", "cell", "([II)I"⟩ : MethodName)) ∈ TT := mem_TT (List.mem_of_getElem? (i := 413) (by decide +kernel)) (by decide +kernel)
theorem wd_414 : (Cond.code (⟨"PlaneNetLaw", "cell", "([II)I"⟩ : MethodName) method_2_code 2 (Option.some .int)) ∈ TT := mem_TT (List.mem_of_getElem? (i := 414) (by decide +kernel)) (by decide +kernel)
theorem wd_415 : (Cond.methodLink "PlaneNetLaw" 60 (⟨"PlaneNetLaw", "add", "(LPlaneNet;II[J)I"⟩ : MethodName)) ∈ TT := mem_TT (List.mem_of_getElem? (i := 415) (by decide +kernel)) (by decide +kernel)
theorem wd_416 : (Cond.static (⟨"PlaneNetLaw", "add", "(LPlaneNet;II[J)I"⟩ : MethodName)) ∈ TT := mem_TT (List.mem_of_getElem? (i := 416) (by decide +kernel)) (by decide +kernel)
theorem wd_417 : (Cond.codeWith (⟨"PlaneNetLaw", "add", "(LPlaneNet;II[J)I"⟩ : MethodName) method_3_code 5 (Option.some .int) [(0, 10, 13, 13), (0, 10, 17, 15)]) ∈ TT := mem_TT (List.mem_of_getElem? (i := 417) (by decide +kernel)) (by decide +kernel)
theorem wd_418 : (Cond.classLink "PlaneNetLaw" 13 "java/lang/IllegalArgumentException") ∈ TT := mem_TT (List.mem_of_getElem? (i := 418) (by decide +kernel)) (by decide +kernel)
theorem wd_419 : (Cond.classLink "PlaneNetLaw" 15 "java/lang/IllegalStateException") ∈ TT := mem_TT (List.mem_of_getElem? (i := 419) (by decide +kernel)) (by decide +kernel)
theorem wd_420 : (Cond.methodLink "PlaneNetLaw" 7 (⟨"PlaneNet", "add", "(II)I"⟩ : MethodName)) ∈ TT := mem_TT (List.mem_of_getElem? (i := 420) (by decide +kernel)) (by decide +kernel)
theorem wd_421 : (Cond.instanceMethod (⟨"PlaneNet", "add", "(II)I"⟩ : MethodName)) ∈ TT := mem_TT (List.mem_of_getElem? (i := 421) (by decide +kernel)) (by decide +kernel)
theorem wd_422 : (Cond.selects "PlaneNet" (⟨"PlaneNet", "add", "(II)I"⟩ : MethodName) (⟨"PlaneNet", "add", "(II)I"⟩ : MethodName)) ∈ TT := mem_TT (List.mem_of_getElem? (i := 422) (by decide +kernel)) (by decide +kernel)
theorem wd_651 : (Cond.methodLink "PlaneNetLaw" 72 (⟨"PlaneNetLaw", "find", "(LPlaneNet;II[J)I"⟩ : MethodName)) ∈ TT := mem_TT (List.mem_of_getElem? (i := 651) (by decide +kernel)) (by decide +kernel)
theorem wd_652 : (Cond.static (⟨"PlaneNetLaw", "find", "(LPlaneNet;II[J)I"⟩ : MethodName)) ∈ TT := mem_TT (List.mem_of_getElem? (i := 652) (by decide +kernel)) (by decide +kernel)
theorem wd_653 : (Cond.codeWith (⟨"PlaneNetLaw", "find", "(LPlaneNet;II[J)I"⟩ : MethodName) method_4_code 5 (Option.some .int) [(0, 10, 13, 13)]) ∈ TT := mem_TT (List.mem_of_getElem? (i := 653) (by decide +kernel)) (by decide +kernel)
theorem wd_654 : (Cond.methodLink "PlaneNetLaw" 17 (⟨"PlaneNet", "find", "(II)I"⟩ : MethodName)) ∈ TT := mem_TT (List.mem_of_getElem? (i := 654) (by decide +kernel)) (by decide +kernel)
theorem wd_655 : (Cond.instanceMethod (⟨"PlaneNet", "find", "(II)I"⟩ : MethodName)) ∈ TT := mem_TT (List.mem_of_getElem? (i := 655) (by decide +kernel)) (by decide +kernel)
theorem wd_656 : (Cond.selects "PlaneNet" (⟨"PlaneNet", "find", "(II)I"⟩ : MethodName) (⟨"PlaneNet", "find", "(II)I"⟩ : MethodName)) ∈ TT := mem_TT (List.mem_of_getElem? (i := 656) (by decide +kernel)) (by decide +kernel)
theorem wd_658 : (Cond.methodLink "PlaneNetLaw" 75 (⟨"PlaneNetLaw", "triangle", "(LPlaneNet;II[J)I"⟩ : MethodName)) ∈ TT := mem_TT (List.mem_of_getElem? (i := 658) (by decide +kernel)) (by decide +kernel)
theorem wd_659 : (Cond.static (⟨"PlaneNetLaw", "triangle", "(LPlaneNet;II[J)I"⟩ : MethodName)) ∈ TT := mem_TT (List.mem_of_getElem? (i := 659) (by decide +kernel)) (by decide +kernel)
theorem wd_660 : (Cond.codeWith (⟨"PlaneNetLaw", "triangle", "(LPlaneNet;II[J)I"⟩ : MethodName) method_5_code 5 (Option.some .int) [(0, 10, 13, 23)]) ∈ TT := mem_TT (List.mem_of_getElem? (i := 660) (by decide +kernel)) (by decide +kernel)
theorem wd_661 : (Cond.classLink "PlaneNetLaw" 23 "java/lang/IndexOutOfBoundsException") ∈ TT := mem_TT (List.mem_of_getElem? (i := 661) (by decide +kernel)) (by decide +kernel)
theorem wd_662 : (Cond.methodLink "PlaneNetLaw" 20 (⟨"PlaneNet", "triangle", "(II)I"⟩ : MethodName)) ∈ TT := mem_TT (List.mem_of_getElem? (i := 662) (by decide +kernel)) (by decide +kernel)
theorem wd_663 : (Cond.instanceMethod (⟨"PlaneNet", "triangle", "(II)I"⟩ : MethodName)) ∈ TT := mem_TT (List.mem_of_getElem? (i := 663) (by decide +kernel)) (by decide +kernel)
theorem wd_664 : (Cond.selects "PlaneNet" (⟨"PlaneNet", "triangle", "(II)I"⟩ : MethodName) (⟨"PlaneNet", "triangle", "(II)I"⟩ : MethodName)) ∈ TT := mem_TT (List.mem_of_getElem? (i := 664) (by decide +kernel)) (by decide +kernel)
theorem wd_713 : (Cond.methodLink "PlaneNetLaw" 78 (⟨"PlaneNetLaw", "neighbours", "(LPlaneNet;I[J)I"⟩ : MethodName)) ∈ TT := mem_TT (List.mem_of_getElem? (i := 713) (by decide +kernel)) (by decide +kernel)
theorem wd_714 : (Cond.static (⟨"PlaneNetLaw", "neighbours", "(LPlaneNet;I[J)I"⟩ : MethodName)) ∈ TT := mem_TT (List.mem_of_getElem? (i := 714) (by decide +kernel)) (by decide +kernel)
theorem wd_715 : (Cond.codeWith (⟨"PlaneNetLaw", "neighbours", "(LPlaneNet;I[J)I"⟩ : MethodName) method_6_code 4 (Option.some .int) [(0, 9, 12, 23)]) ∈ TT := mem_TT (List.mem_of_getElem? (i := 715) (by decide +kernel)) (by decide +kernel)
theorem wd_716 : (Cond.methodLink "PlaneNetLaw" 25 (⟨"PlaneNet", "neighbours", "(I)I"⟩ : MethodName)) ∈ TT := mem_TT (List.mem_of_getElem? (i := 716) (by decide +kernel)) (by decide +kernel)
theorem wd_717 : (Cond.instanceMethod (⟨"PlaneNet", "neighbours", "(I)I"⟩ : MethodName)) ∈ TT := mem_TT (List.mem_of_getElem? (i := 717) (by decide +kernel)) (by decide +kernel)
theorem wd_718 : (Cond.selects "PlaneNet" (⟨"PlaneNet", "neighbours", "(I)I"⟩ : MethodName) (⟨"PlaneNet", "neighbours", "(I)I"⟩ : MethodName)) ∈ TT := mem_TT (List.mem_of_getElem? (i := 718) (by decide +kernel)) (by decide +kernel)
theorem wd_735 : (Cond.methodLink "PlaneNetLaw" 82 (⟨"PlaneNetLaw", "neighbour", "(LPlaneNet;II[J)I"⟩ : MethodName)) ∈ TT := mem_TT (List.mem_of_getElem? (i := 735) (by decide +kernel)) (by decide +kernel)
theorem wd_736 : (Cond.static (⟨"PlaneNetLaw", "neighbour", "(LPlaneNet;II[J)I"⟩ : MethodName)) ∈ TT := mem_TT (List.mem_of_getElem? (i := 736) (by decide +kernel)) (by decide +kernel)
theorem wd_737 : (Cond.codeWith (⟨"PlaneNetLaw", "neighbour", "(LPlaneNet;II[J)I"⟩ : MethodName) method_7_code 5 (Option.some .int) [(0, 10, 13, 23)]) ∈ TT := mem_TT (List.mem_of_getElem? (i := 737) (by decide +kernel)) (by decide +kernel)
theorem wd_738 : (Cond.methodLink "PlaneNetLaw" 29 (⟨"PlaneNet", "neighbour", "(II)I"⟩ : MethodName)) ∈ TT := mem_TT (List.mem_of_getElem? (i := 738) (by decide +kernel)) (by decide +kernel)
theorem wd_739 : (Cond.instanceMethod (⟨"PlaneNet", "neighbour", "(II)I"⟩ : MethodName)) ∈ TT := mem_TT (List.mem_of_getElem? (i := 739) (by decide +kernel)) (by decide +kernel)
theorem wd_740 : (Cond.selects "PlaneNet" (⟨"PlaneNet", "neighbour", "(II)I"⟩ : MethodName) (⟨"PlaneNet", "neighbour", "(II)I"⟩ : MethodName)) ∈ TT := mem_TT (List.mem_of_getElem? (i := 740) (by decide +kernel)) (by decide +kernel)
theorem wd_755 : (Cond.methodLink "PlaneNetLaw" 85 (⟨"PlaneNetLaw", "corner", "(LPlaneNet;I[J)I"⟩ : MethodName)) ∈ TT := mem_TT (List.mem_of_getElem? (i := 755) (by decide +kernel)) (by decide +kernel)
theorem wd_756 : (Cond.static (⟨"PlaneNetLaw", "corner", "(LPlaneNet;I[J)I"⟩ : MethodName)) ∈ TT := mem_TT (List.mem_of_getElem? (i := 756) (by decide +kernel)) (by decide +kernel)
theorem wd_757 : (Cond.codeWith (⟨"PlaneNetLaw", "corner", "(LPlaneNet;I[J)I"⟩ : MethodName) method_8_code 4 (Option.some .int) [(0, 9, 12, 23)]) ∈ TT := mem_TT (List.mem_of_getElem? (i := 757) (by decide +kernel)) (by decide +kernel)
theorem wd_758 : (Cond.methodLink "PlaneNetLaw" 32 (⟨"PlaneNet", "corner", "(I)I"⟩ : MethodName)) ∈ TT := mem_TT (List.mem_of_getElem? (i := 758) (by decide +kernel)) (by decide +kernel)
theorem wd_759 : (Cond.instanceMethod (⟨"PlaneNet", "corner", "(I)I"⟩ : MethodName)) ∈ TT := mem_TT (List.mem_of_getElem? (i := 759) (by decide +kernel)) (by decide +kernel)
theorem wd_760 : (Cond.selects "PlaneNet" (⟨"PlaneNet", "corner", "(I)I"⟩ : MethodName) (⟨"PlaneNet", "corner", "(I)I"⟩ : MethodName)) ∈ TT := mem_TT (List.mem_of_getElem? (i := 760) (by decide +kernel)) (by decide +kernel)
theorem wd_768 : (Cond.methodLink "PlaneNetLaw" 88 (⟨"PlaneNetLaw", "locate", "(LPlaneNet;II[J)I"⟩ : MethodName)) ∈ TT := mem_TT (List.mem_of_getElem? (i := 768) (by decide +kernel)) (by decide +kernel)
theorem wd_769 : (Cond.static (⟨"PlaneNetLaw", "locate", "(LPlaneNet;II[J)I"⟩ : MethodName)) ∈ TT := mem_TT (List.mem_of_getElem? (i := 769) (by decide +kernel)) (by decide +kernel)
theorem wd_770 : (Cond.codeWith (⟨"PlaneNetLaw", "locate", "(LPlaneNet;II[J)I"⟩ : MethodName) method_9_code 5 (Option.some .int) [(0, 10, 13, 13)]) ∈ TT := mem_TT (List.mem_of_getElem? (i := 770) (by decide +kernel)) (by decide +kernel)
theorem wd_771 : (Cond.methodLink "PlaneNetLaw" 35 (⟨"PlaneNet", "locate", "(II)I"⟩ : MethodName)) ∈ TT := mem_TT (List.mem_of_getElem? (i := 771) (by decide +kernel)) (by decide +kernel)
theorem wd_772 : (Cond.instanceMethod (⟨"PlaneNet", "locate", "(II)I"⟩ : MethodName)) ∈ TT := mem_TT (List.mem_of_getElem? (i := 772) (by decide +kernel)) (by decide +kernel)
theorem wd_773 : (Cond.selects "PlaneNet" (⟨"PlaneNet", "locate", "(II)I"⟩ : MethodName) (⟨"PlaneNet", "locate", "(II)I"⟩ : MethodName)) ∈ TT := mem_TT (List.mem_of_getElem? (i := 773) (by decide +kernel)) (by decide +kernel)
theorem wd_791 : (Cond.methodLink "PlaneNetLaw" 95 (⟨"PlaneNetLaw", "nearest", "(LPlaneNet;II[J)I"⟩ : MethodName)) ∈ TT := mem_TT (List.mem_of_getElem? (i := 791) (by decide +kernel)) (by decide +kernel)
theorem wd_792 : (Cond.static (⟨"PlaneNetLaw", "nearest", "(LPlaneNet;II[J)I"⟩ : MethodName)) ∈ TT := mem_TT (List.mem_of_getElem? (i := 792) (by decide +kernel)) (by decide +kernel)
theorem wd_793 : (Cond.codeWith (⟨"PlaneNetLaw", "nearest", "(LPlaneNet;II[J)I"⟩ : MethodName) method_10_code 5 (Option.some .int) [(0, 10, 13, 13), (0, 10, 17, 15)]) ∈ TT := mem_TT (List.mem_of_getElem? (i := 793) (by decide +kernel)) (by decide +kernel)
theorem wd_794 : (Cond.methodLink "PlaneNetLaw" 38 (⟨"PlaneNet", "nearest", "(II)I"⟩ : MethodName)) ∈ TT := mem_TT (List.mem_of_getElem? (i := 794) (by decide +kernel)) (by decide +kernel)
theorem wd_795 : (Cond.instanceMethod (⟨"PlaneNet", "nearest", "(II)I"⟩ : MethodName)) ∈ TT := mem_TT (List.mem_of_getElem? (i := 795) (by decide +kernel)) (by decide +kernel)
theorem wd_796 : (Cond.selects "PlaneNet" (⟨"PlaneNet", "nearest", "(II)I"⟩ : MethodName) (⟨"PlaneNet", "nearest", "(II)I"⟩ : MethodName)) ∈ TT := mem_TT (List.mem_of_getElem? (i := 796) (by decide +kernel)) (by decide +kernel)
theorem wd_799 : (Cond.methodLink "PlaneNetLaw" 98 (⟨"PlaneNetLaw", "closest", "(LPlaneNet;I[J)I"⟩ : MethodName)) ∈ TT := mem_TT (List.mem_of_getElem? (i := 799) (by decide +kernel)) (by decide +kernel)
theorem wd_800 : (Cond.static (⟨"PlaneNetLaw", "closest", "(LPlaneNet;I[J)I"⟩ : MethodName)) ∈ TT := mem_TT (List.mem_of_getElem? (i := 800) (by decide +kernel)) (by decide +kernel)
theorem wd_801 : (Cond.codeWith (⟨"PlaneNetLaw", "closest", "(LPlaneNet;I[J)I"⟩ : MethodName) method_11_code 4 (Option.some .int) [(0, 8, 11, 23), (0, 8, 14, 15)]) ∈ TT := mem_TT (List.mem_of_getElem? (i := 801) (by decide +kernel)) (by decide +kernel)
theorem wd_802 : (Cond.methodLink "PlaneNetLaw" 41 (⟨"PlaneNet", "closest", "(I)J"⟩ : MethodName)) ∈ TT := mem_TT (List.mem_of_getElem? (i := 802) (by decide +kernel)) (by decide +kernel)
theorem wd_803 : (Cond.instanceMethod (⟨"PlaneNet", "closest", "(I)J"⟩ : MethodName)) ∈ TT := mem_TT (List.mem_of_getElem? (i := 803) (by decide +kernel)) (by decide +kernel)
theorem wd_804 : (Cond.selects "PlaneNet" (⟨"PlaneNet", "closest", "(I)J"⟩ : MethodName) (⟨"PlaneNet", "closest", "(I)J"⟩ : MethodName)) ∈ TT := mem_TT (List.mem_of_getElem? (i := 804) (by decide +kernel)) (by decide +kernel)
theorem wd_808 : (Cond.methodLink "PlaneNetLaw" 101 (⟨"PlaneNetLaw", "point", "(LPlaneNet;II[J)I"⟩ : MethodName)) ∈ TT := mem_TT (List.mem_of_getElem? (i := 808) (by decide +kernel)) (by decide +kernel)
theorem wd_809 : (Cond.static (⟨"PlaneNetLaw", "point", "(LPlaneNet;II[J)I"⟩ : MethodName)) ∈ TT := mem_TT (List.mem_of_getElem? (i := 809) (by decide +kernel)) (by decide +kernel)
theorem wd_810 : (Cond.codeWith (⟨"PlaneNetLaw", "point", "(LPlaneNet;II[J)I"⟩ : MethodName) method_12_code 5 (Option.some .int) [(0, 10, 13, 23)]) ∈ TT := mem_TT (List.mem_of_getElem? (i := 810) (by decide +kernel)) (by decide +kernel)
theorem wd_811 : (Cond.methodLink "PlaneNetLaw" 45 (⟨"PlaneNet", "point", "(II)I"⟩ : MethodName)) ∈ TT := mem_TT (List.mem_of_getElem? (i := 811) (by decide +kernel)) (by decide +kernel)
theorem wd_812 : (Cond.instanceMethod (⟨"PlaneNet", "point", "(II)I"⟩ : MethodName)) ∈ TT := mem_TT (List.mem_of_getElem? (i := 812) (by decide +kernel)) (by decide +kernel)
theorem wd_813 : (Cond.selects "PlaneNet" (⟨"PlaneNet", "point", "(II)I"⟩ : MethodName) (⟨"PlaneNet", "point", "(II)I"⟩ : MethodName)) ∈ TT := mem_TT (List.mem_of_getElem? (i := 813) (by decide +kernel)) (by decide +kernel)
theorem wd_816 : (Cond.classLink "PlaneNetLaw" 57 "PlaneNetModel") ∈ TT := mem_TT (List.mem_of_getElem? (i := 816) (by decide +kernel)) (by decide +kernel)
theorem wd_817 : (Cond.instantiable "PlaneNetModel" 26) ∈ TT := mem_TT (List.mem_of_getElem? (i := 817) (by decide +kernel)) (by decide +kernel)
theorem wd_818 : (Cond.methodLink "PlaneNetLaw" 59 (⟨"PlaneNetModel", "<init>", "(I)V"⟩ : MethodName)) ∈ TT := mem_TT (List.mem_of_getElem? (i := 818) (by decide +kernel)) (by decide +kernel)
theorem wd_819 : (Cond.instanceMethod (⟨"PlaneNetModel", "<init>", "(I)V"⟩ : MethodName)) ∈ TT := mem_TT (List.mem_of_getElem? (i := 819) (by decide +kernel)) (by decide +kernel)
theorem wd_901 : (Cond.methodLink "PlaneNetLaw" 64 (⟨"PlaneNetModel", "thrown", "()I"⟩ : MethodName)) ∈ TT := mem_TT (List.mem_of_getElem? (i := 901) (by decide +kernel)) (by decide +kernel)
theorem wd_902 : (Cond.instanceMethod (⟨"PlaneNetModel", "thrown", "()I"⟩ : MethodName)) ∈ TT := mem_TT (List.mem_of_getElem? (i := 902) (by decide +kernel)) (by decide +kernel)
theorem wd_903 : (Cond.selects "PlaneNetModel" (⟨"PlaneNetModel", "thrown", "()I"⟩ : MethodName) (⟨"PlaneNetModel", "thrown", "()I"⟩ : MethodName)) ∈ TT := mem_TT (List.mem_of_getElem? (i := 903) (by decide +kernel)) (by decide +kernel)
theorem wd_905 : (Cond.methodLink "PlaneNetLaw" 63 (⟨"PlaneNetModel", "add", "(II)I"⟩ : MethodName)) ∈ TT := mem_TT (List.mem_of_getElem? (i := 905) (by decide +kernel)) (by decide +kernel)
theorem wd_906 : (Cond.instanceMethod (⟨"PlaneNetModel", "add", "(II)I"⟩ : MethodName)) ∈ TT := mem_TT (List.mem_of_getElem? (i := 906) (by decide +kernel)) (by decide +kernel)
theorem wd_907 : (Cond.selects "PlaneNetModel" (⟨"PlaneNetModel", "add", "(II)I"⟩ : MethodName) (⟨"PlaneNetModel", "add", "(II)I"⟩ : MethodName)) ∈ TT := mem_TT (List.mem_of_getElem? (i := 907) (by decide +kernel)) (by decide +kernel)
theorem wd_929 : (Cond.methodLink "PlaneNetLaw" 71 (⟨"PlaneNetModel", "clear", "()I"⟩ : MethodName)) ∈ TT := mem_TT (List.mem_of_getElem? (i := 929) (by decide +kernel)) (by decide +kernel)
theorem wd_930 : (Cond.instanceMethod (⟨"PlaneNetModel", "clear", "()I"⟩ : MethodName)) ∈ TT := mem_TT (List.mem_of_getElem? (i := 930) (by decide +kernel)) (by decide +kernel)
theorem wd_931 : (Cond.selects "PlaneNetModel" (⟨"PlaneNetModel", "clear", "()I"⟩ : MethodName) (⟨"PlaneNetModel", "clear", "()I"⟩ : MethodName)) ∈ TT := mem_TT (List.mem_of_getElem? (i := 931) (by decide +kernel)) (by decide +kernel)
theorem wd_933 : (Cond.methodLink "PlaneNetLaw" 74 (⟨"PlaneNetModel", "find", "(II)I"⟩ : MethodName)) ∈ TT := mem_TT (List.mem_of_getElem? (i := 933) (by decide +kernel)) (by decide +kernel)
theorem wd_934 : (Cond.instanceMethod (⟨"PlaneNetModel", "find", "(II)I"⟩ : MethodName)) ∈ TT := mem_TT (List.mem_of_getElem? (i := 934) (by decide +kernel)) (by decide +kernel)
theorem wd_935 : (Cond.selects "PlaneNetModel" (⟨"PlaneNetModel", "find", "(II)I"⟩ : MethodName) (⟨"PlaneNetModel", "find", "(II)I"⟩ : MethodName)) ∈ TT := mem_TT (List.mem_of_getElem? (i := 935) (by decide +kernel)) (by decide +kernel)
theorem wd_937 : (Cond.methodLink "PlaneNetLaw" 77 (⟨"PlaneNetModel", "triangle", "(II)I"⟩ : MethodName)) ∈ TT := mem_TT (List.mem_of_getElem? (i := 937) (by decide +kernel)) (by decide +kernel)
theorem wd_938 : (Cond.instanceMethod (⟨"PlaneNetModel", "triangle", "(II)I"⟩ : MethodName)) ∈ TT := mem_TT (List.mem_of_getElem? (i := 938) (by decide +kernel)) (by decide +kernel)
theorem wd_939 : (Cond.selects "PlaneNetModel" (⟨"PlaneNetModel", "triangle", "(II)I"⟩ : MethodName) (⟨"PlaneNetModel", "triangle", "(II)I"⟩ : MethodName)) ∈ TT := mem_TT (List.mem_of_getElem? (i := 939) (by decide +kernel)) (by decide +kernel)
theorem wd_1028 : (Cond.methodLink "PlaneNetLaw" 87 (⟨"PlaneNetModel", "corner", "(I)I"⟩ : MethodName)) ∈ TT := mem_TT (List.mem_of_getElem? (i := 1028) (by decide +kernel)) (by decide +kernel)
theorem wd_1029 : (Cond.instanceMethod (⟨"PlaneNetModel", "corner", "(I)I"⟩ : MethodName)) ∈ TT := mem_TT (List.mem_of_getElem? (i := 1029) (by decide +kernel)) (by decide +kernel)
theorem wd_1030 : (Cond.selects "PlaneNetModel" (⟨"PlaneNetModel", "corner", "(I)I"⟩ : MethodName) (⟨"PlaneNetModel", "corner", "(I)I"⟩ : MethodName)) ∈ TT := mem_TT (List.mem_of_getElem? (i := 1030) (by decide +kernel)) (by decide +kernel)
theorem wd_1032 : (Cond.methodLink "PlaneNetLaw" 81 (⟨"PlaneNetModel", "neighbours", "(I)I"⟩ : MethodName)) ∈ TT := mem_TT (List.mem_of_getElem? (i := 1032) (by decide +kernel)) (by decide +kernel)
theorem wd_1033 : (Cond.instanceMethod (⟨"PlaneNetModel", "neighbours", "(I)I"⟩ : MethodName)) ∈ TT := mem_TT (List.mem_of_getElem? (i := 1033) (by decide +kernel)) (by decide +kernel)
theorem wd_1034 : (Cond.selects "PlaneNetModel" (⟨"PlaneNetModel", "neighbours", "(I)I"⟩ : MethodName) (⟨"PlaneNetModel", "neighbours", "(I)I"⟩ : MethodName)) ∈ TT := mem_TT (List.mem_of_getElem? (i := 1034) (by decide +kernel)) (by decide +kernel)
theorem wd_1056 : (Cond.methodLink "PlaneNetLaw" 84 (⟨"PlaneNetModel", "neighbour", "(II)I"⟩ : MethodName)) ∈ TT := mem_TT (List.mem_of_getElem? (i := 1056) (by decide +kernel)) (by decide +kernel)
theorem wd_1057 : (Cond.instanceMethod (⟨"PlaneNetModel", "neighbour", "(II)I"⟩ : MethodName)) ∈ TT := mem_TT (List.mem_of_getElem? (i := 1057) (by decide +kernel)) (by decide +kernel)
theorem wd_1058 : (Cond.selects "PlaneNetModel" (⟨"PlaneNetModel", "neighbour", "(II)I"⟩ : MethodName) (⟨"PlaneNetModel", "neighbour", "(II)I"⟩ : MethodName)) ∈ TT := mem_TT (List.mem_of_getElem? (i := 1058) (by decide +kernel)) (by decide +kernel)
theorem wd_1060 : (Cond.methodLink "PlaneNetLaw" 90 (⟨"PlaneNetModel", "locate", "(II)I"⟩ : MethodName)) ∈ TT := mem_TT (List.mem_of_getElem? (i := 1060) (by decide +kernel)) (by decide +kernel)
theorem wd_1061 : (Cond.instanceMethod (⟨"PlaneNetModel", "locate", "(II)I"⟩ : MethodName)) ∈ TT := mem_TT (List.mem_of_getElem? (i := 1061) (by decide +kernel)) (by decide +kernel)
theorem wd_1062 : (Cond.selects "PlaneNetModel" (⟨"PlaneNetModel", "locate", "(II)I"⟩ : MethodName) (⟨"PlaneNetModel", "locate", "(II)I"⟩ : MethodName)) ∈ TT := mem_TT (List.mem_of_getElem? (i := 1062) (by decide +kernel)) (by decide +kernel)
theorem wd_1068 : (Cond.methodLink "PlaneNetLaw" 94 (⟨"PlaneNetModel", "located", "(I)I"⟩ : MethodName)) ∈ TT := mem_TT (List.mem_of_getElem? (i := 1068) (by decide +kernel)) (by decide +kernel)
theorem wd_1069 : (Cond.instanceMethod (⟨"PlaneNetModel", "located", "(I)I"⟩ : MethodName)) ∈ TT := mem_TT (List.mem_of_getElem? (i := 1069) (by decide +kernel)) (by decide +kernel)
theorem wd_1070 : (Cond.selects "PlaneNetModel" (⟨"PlaneNetModel", "located", "(I)I"⟩ : MethodName) (⟨"PlaneNetModel", "located", "(I)I"⟩ : MethodName)) ∈ TT := mem_TT (List.mem_of_getElem? (i := 1070) (by decide +kernel)) (by decide +kernel)
theorem wd_1072 : (Cond.methodLink "PlaneNetLaw" 97 (⟨"PlaneNetModel", "nearest", "(II)I"⟩ : MethodName)) ∈ TT := mem_TT (List.mem_of_getElem? (i := 1072) (by decide +kernel)) (by decide +kernel)
theorem wd_1073 : (Cond.instanceMethod (⟨"PlaneNetModel", "nearest", "(II)I"⟩ : MethodName)) ∈ TT := mem_TT (List.mem_of_getElem? (i := 1073) (by decide +kernel)) (by decide +kernel)
theorem wd_1074 : (Cond.selects "PlaneNetModel" (⟨"PlaneNetModel", "nearest", "(II)I"⟩ : MethodName) (⟨"PlaneNetModel", "nearest", "(II)I"⟩ : MethodName)) ∈ TT := mem_TT (List.mem_of_getElem? (i := 1074) (by decide +kernel)) (by decide +kernel)
theorem wd_1076 : (Cond.methodLink "PlaneNetLaw" 100 (⟨"PlaneNetModel", "closest", "(I)J"⟩ : MethodName)) ∈ TT := mem_TT (List.mem_of_getElem? (i := 1076) (by decide +kernel)) (by decide +kernel)
theorem wd_1077 : (Cond.instanceMethod (⟨"PlaneNetModel", "closest", "(I)J"⟩ : MethodName)) ∈ TT := mem_TT (List.mem_of_getElem? (i := 1077) (by decide +kernel)) (by decide +kernel)
theorem wd_1078 : (Cond.selects "PlaneNetModel" (⟨"PlaneNetModel", "closest", "(I)J"⟩ : MethodName) (⟨"PlaneNetModel", "closest", "(I)J"⟩ : MethodName)) ∈ TT := mem_TT (List.mem_of_getElem? (i := 1078) (by decide +kernel)) (by decide +kernel)
theorem wd_1080 : (Cond.methodLink "PlaneNetLaw" 103 (⟨"PlaneNetModel", "point", "(II)I"⟩ : MethodName)) ∈ TT := mem_TT (List.mem_of_getElem? (i := 1080) (by decide +kernel)) (by decide +kernel)
theorem wd_1081 : (Cond.instanceMethod (⟨"PlaneNetModel", "point", "(II)I"⟩ : MethodName)) ∈ TT := mem_TT (List.mem_of_getElem? (i := 1081) (by decide +kernel)) (by decide +kernel)
theorem wd_1082 : (Cond.selects "PlaneNetModel" (⟨"PlaneNetModel", "point", "(II)I"⟩ : MethodName) (⟨"PlaneNetModel", "point", "(II)I"⟩ : MethodName)) ∈ TT := mem_TT (List.mem_of_getElem? (i := 1082) (by decide +kernel)) (by decide +kernel)
theorem wd_1084 : (Cond.methodLink "PlaneNetLaw" 107 (⟨"PlaneNetModel", "count", "(I)I"⟩ : MethodName)) ∈ TT := mem_TT (List.mem_of_getElem? (i := 1084) (by decide +kernel)) (by decide +kernel)
theorem wd_1085 : (Cond.instanceMethod (⟨"PlaneNetModel", "count", "(I)I"⟩ : MethodName)) ∈ TT := mem_TT (List.mem_of_getElem? (i := 1085) (by decide +kernel)) (by decide +kernel)
theorem wd_1086 : (Cond.selects "PlaneNetModel" (⟨"PlaneNetModel", "count", "(I)I"⟩ : MethodName) (⟨"PlaneNetModel", "count", "(I)I"⟩ : MethodName)) ∈ TT := mem_TT (List.mem_of_getElem? (i := 1086) (by decide +kernel)) (by decide +kernel)
theorem wd_1088 : (Cond.arrayClass .long) ∈ TT := mem_TT (List.mem_of_getElem? (i := 1088) (by decide +kernel)) (by decide +kernel)
theorem w_ao : (Cond.arrayOver (.array .int)) ∈ lw_tbl := List.mem_of_getElem? (i := 107) (by decide +kernel)
theorem w_ls1 : (Cond.laysStatic "java/lang/Throwable" "UNASSIGNED_STACK" "[Ljava/lang/StackTraceElement;") ∈ lw_tbl := List.mem_of_getElem? (i := 456) (by decide +kernel)
theorem w_ls2 : (Cond.laysStatic "java/lang/Throwable" "SUPPRESSED_SENTINEL" "Ljava/util/List;") ∈ lw_tbl := List.mem_of_getElem? (i := 458) (by decide +kernel)
abbrev b_Lw_add : ByteArray := method_3_code
def y_Lw_add : MethodName := ⟨R_Lw, "add", "(LPlaneNet;II[J)I"⟩
def w_Lw_add : List Cond := .codeWith y_Lw_add b_Lw_add 5 (some .int) [(0, 10, 13, 13), (0, 10, 17, 15)] :: TT
def rm_Lw_add : Room := { frames := 8, cells := 12, slots := 384, locals := 179 }
theorem gd_Lw_add {h : Cond} : GoodIn (h :: TT) w_Lw_add := gd_of wd_417
theorem dd_Lw_add : y_Lw_add.cls ≠ "java/lang/invoke/MethodHandle" ∧ y_Lw_add.cls ≠ "java/lang/invoke/VarHandle" ∧ (parseMethodDescriptor y_Lw_add.desc).map (fun d => d.parameters.length) = some 4 := ⟨by decide +kernel, by decide +kernel, by decide +kernel⟩
abbrev b_Lw_find : ByteArray := method_4_code
def y_Lw_find : MethodName := ⟨R_Lw, "find", "(LPlaneNet;II[J)I"⟩
def w_Lw_find : List Cond := .codeWith y_Lw_find b_Lw_find 5 (some .int) [(0, 10, 13, 13)] :: TT
def rm_Lw_find : Room := { frames := 8, cells := 1, slots := 6, locals := 144 }
theorem gd_Lw_find {h : Cond} : GoodIn (h :: TT) w_Lw_find := gd_of wd_653
theorem dd_Lw_find : y_Lw_find.cls ≠ "java/lang/invoke/MethodHandle" ∧ y_Lw_find.cls ≠ "java/lang/invoke/VarHandle" ∧ (parseMethodDescriptor y_Lw_find.desc).map (fun d => d.parameters.length) = some 4 := ⟨by decide +kernel, by decide +kernel, by decide +kernel⟩
abbrev b_Lw_triangle : ByteArray := method_5_code
def y_Lw_triangle : MethodName := ⟨R_Lw, "triangle", "(LPlaneNet;II[J)I"⟩
def w_Lw_triangle : List Cond := .codeWith y_Lw_triangle b_Lw_triangle 5 (some .int) [(0, 10, 13, 23)] :: TT
def rm_Lw_triangle : Room := { frames := 7, cells := 1, slots := 6, locals := 154 }
theorem gd_Lw_triangle {h : Cond} : GoodIn (h :: TT) w_Lw_triangle := gd_of wd_660
theorem dd_Lw_triangle : y_Lw_triangle.cls ≠ "java/lang/invoke/MethodHandle" ∧ y_Lw_triangle.cls ≠ "java/lang/invoke/VarHandle" ∧ (parseMethodDescriptor y_Lw_triangle.desc).map (fun d => d.parameters.length) = some 4 := ⟨by decide +kernel, by decide +kernel, by decide +kernel⟩
abbrev b_Lw_neighbours : ByteArray := method_6_code
def y_Lw_neighbours : MethodName := ⟨R_Lw, "neighbours", "(LPlaneNet;I[J)I"⟩
def w_Lw_neighbours : List Cond := .codeWith y_Lw_neighbours b_Lw_neighbours 4 (some .int) [(0, 9, 12, 23)] :: TT
def rm_Lw_neighbours : Room := { frames := 8, cells := 1, slots := 6, locals := 142 }
theorem gd_Lw_neighbours {h : Cond} : GoodIn (h :: TT) w_Lw_neighbours := gd_of wd_715
theorem dd_Lw_neighbours : y_Lw_neighbours.cls ≠ "java/lang/invoke/MethodHandle" ∧ y_Lw_neighbours.cls ≠ "java/lang/invoke/VarHandle" ∧ (parseMethodDescriptor y_Lw_neighbours.desc).map (fun d => d.parameters.length) = some 3 := ⟨by decide +kernel, by decide +kernel, by decide +kernel⟩
abbrev b_Lw_neighbour : ByteArray := method_7_code
def y_Lw_neighbour : MethodName := ⟨R_Lw, "neighbour", "(LPlaneNet;II[J)I"⟩
def w_Lw_neighbour : List Cond := .codeWith y_Lw_neighbour b_Lw_neighbour 5 (some .int) [(0, 10, 13, 23)] :: TT
def rm_Lw_neighbour : Room := { frames := 8, cells := 1, slots := 6, locals := 143 }
theorem gd_Lw_neighbour {h : Cond} : GoodIn (h :: TT) w_Lw_neighbour := gd_of wd_737
theorem dd_Lw_neighbour : y_Lw_neighbour.cls ≠ "java/lang/invoke/MethodHandle" ∧ y_Lw_neighbour.cls ≠ "java/lang/invoke/VarHandle" ∧ (parseMethodDescriptor y_Lw_neighbour.desc).map (fun d => d.parameters.length) = some 4 := ⟨by decide +kernel, by decide +kernel, by decide +kernel⟩
abbrev b_Lw_corner : ByteArray := method_8_code
def y_Lw_corner : MethodName := ⟨R_Lw, "corner", "(LPlaneNet;I[J)I"⟩
def w_Lw_corner : List Cond := .codeWith y_Lw_corner b_Lw_corner 4 (some .int) [(0, 9, 12, 23)] :: TT
def rm_Lw_corner : Room := { frames := 7, cells := 1, slots := 6, locals := 166 }
theorem gd_Lw_corner {h : Cond} : GoodIn (h :: TT) w_Lw_corner := gd_of wd_757
theorem dd_Lw_corner : y_Lw_corner.cls ≠ "java/lang/invoke/MethodHandle" ∧ y_Lw_corner.cls ≠ "java/lang/invoke/VarHandle" ∧ (parseMethodDescriptor y_Lw_corner.desc).map (fun d => d.parameters.length) = some 3 := ⟨by decide +kernel, by decide +kernel, by decide +kernel⟩
abbrev b_Lw_locate : ByteArray := method_9_code
def y_Lw_locate : MethodName := ⟨R_Lw, "locate", "(LPlaneNet;II[J)I"⟩
def w_Lw_locate : List Cond := .codeWith y_Lw_locate b_Lw_locate 5 (some .int) [(0, 10, 13, 13)] :: TT
def rm_Lw_locate : Room := { frames := 8, cells := 1, slots := 6, locals := 155 }
theorem gd_Lw_locate {h : Cond} : GoodIn (h :: TT) w_Lw_locate := gd_of wd_770
theorem dd_Lw_locate : y_Lw_locate.cls ≠ "java/lang/invoke/MethodHandle" ∧ y_Lw_locate.cls ≠ "java/lang/invoke/VarHandle" ∧ (parseMethodDescriptor y_Lw_locate.desc).map (fun d => d.parameters.length) = some 4 := ⟨by decide +kernel, by decide +kernel, by decide +kernel⟩
abbrev b_Lw_nearest : ByteArray := method_10_code
def y_Lw_nearest : MethodName := ⟨R_Lw, "nearest", "(LPlaneNet;II[J)I"⟩
def w_Lw_nearest : List Cond := .codeWith y_Lw_nearest b_Lw_nearest 5 (some .int) [(0, 10, 13, 13), (0, 10, 17, 15)] :: TT
def rm_Lw_nearest : Room := { frames := 8, cells := 1, slots := 6, locals := 143 }
theorem gd_Lw_nearest {h : Cond} : GoodIn (h :: TT) w_Lw_nearest := gd_of wd_793
theorem dd_Lw_nearest : y_Lw_nearest.cls ≠ "java/lang/invoke/MethodHandle" ∧ y_Lw_nearest.cls ≠ "java/lang/invoke/VarHandle" ∧ (parseMethodDescriptor y_Lw_nearest.desc).map (fun d => d.parameters.length) = some 4 := ⟨by decide +kernel, by decide +kernel, by decide +kernel⟩
abbrev b_Lw_closest : ByteArray := method_11_code
def y_Lw_closest : MethodName := ⟨R_Lw, "closest", "(LPlaneNet;I[J)I"⟩
def w_Lw_closest : List Cond := .codeWith y_Lw_closest b_Lw_closest 4 (some .int) [(0, 8, 11, 23), (0, 8, 14, 15)] :: TT
def rm_Lw_closest : Room := { frames := 7, cells := 1, slots := 6, locals := 121 }
theorem gd_Lw_closest {h : Cond} : GoodIn (h :: TT) w_Lw_closest := gd_of wd_801
theorem dd_Lw_closest : y_Lw_closest.cls ≠ "java/lang/invoke/MethodHandle" ∧ y_Lw_closest.cls ≠ "java/lang/invoke/VarHandle" ∧ (parseMethodDescriptor y_Lw_closest.desc).map (fun d => d.parameters.length) = some 3 := ⟨by decide +kernel, by decide +kernel, by decide +kernel⟩
abbrev b_Lw_point : ByteArray := method_12_code
def y_Lw_point : MethodName := ⟨R_Lw, "point", "(LPlaneNet;II[J)I"⟩
def w_Lw_point : List Cond := .codeWith y_Lw_point b_Lw_point 5 (some .int) [(0, 10, 13, 23)] :: TT
def rm_Lw_point : Room := { frames := 8, cells := 1, slots := 6, locals := 143 }
theorem gd_Lw_point {h : Cond} : GoodIn (h :: TT) w_Lw_point := gd_of wd_810
theorem dd_Lw_point : y_Lw_point.cls ≠ "java/lang/invoke/MethodHandle" ∧ y_Lw_point.cls ≠ "java/lang/invoke/VarHandle" ∧ (parseMethodDescriptor y_Lw_point.desc).map (fun d => d.parameters.length) = some 4 := ⟨by decide +kernel, by decide +kernel, by decide +kernel⟩
theorem d_Lw_add_0 : decode b_Lw_add 0 = .ok (.aload_n 3, 1) := by decide +kernel
theorem d_Lw_add_1 : decode b_Lw_add 1 = .ok (.iconst 0, 1) := by decide +kernel
theorem d_Lw_add_2 : decode b_Lw_add 2 = .ok (.aload_n 0, 1) := by decide +kernel
theorem d_Lw_add_3 : decode b_Lw_add 3 = .ok (.iload_n 1, 1) := by decide +kernel
theorem d_Lw_add_4 : decode b_Lw_add 4 = .ok (.iload_n 2, 1) := by decide +kernel
theorem d_Lw_add_5 : decode b_Lw_add 5 = .ok (.invokevirtual 7, 3) := by decide +kernel
theorem d_Lw_add_8 : decode b_Lw_add 8 = .ok (.i2l, 1) := by decide +kernel
theorem d_Lw_add_9 : decode b_Lw_add 9 = .ok (.lastore, 1) := by decide +kernel
theorem d_Lw_add_10 : decode b_Lw_add 10 = .ok (.goto 11, 3) := by decide +kernel
theorem d_Lw_add_13 : decode b_Lw_add 13 = .ok (.astore 4, 2) := by decide +kernel
theorem d_Lw_add_15 : decode b_Lw_add 15 = .ok (.iconst 1, 1) := by decide +kernel
theorem d_Lw_add_16 : decode b_Lw_add 16 = .ok (.ireturn, 1) := by decide +kernel
theorem d_Lw_add_17 : decode b_Lw_add 17 = .ok (.astore 4, 2) := by decide +kernel
theorem d_Lw_add_19 : decode b_Lw_add 19 = .ok (.iconst 2, 1) := by decide +kernel
theorem d_Lw_add_20 : decode b_Lw_add 20 = .ok (.ireturn, 1) := by decide +kernel
theorem d_Lw_add_21 : decode b_Lw_add 21 = .ok (.iconst 0, 1) := by decide +kernel
theorem d_Lw_add_22 : decode b_Lw_add 22 = .ok (.ireturn, 1) := by decide +kernel
theorem d_Lw_find_0 : decode b_Lw_find 0 = .ok (.aload_n 3, 1) := by decide +kernel
theorem d_Lw_find_1 : decode b_Lw_find 1 = .ok (.iconst 0, 1) := by decide +kernel
theorem d_Lw_find_2 : decode b_Lw_find 2 = .ok (.aload_n 0, 1) := by decide +kernel
theorem d_Lw_find_3 : decode b_Lw_find 3 = .ok (.iload_n 1, 1) := by decide +kernel
theorem d_Lw_find_4 : decode b_Lw_find 4 = .ok (.iload_n 2, 1) := by decide +kernel
theorem d_Lw_find_5 : decode b_Lw_find 5 = .ok (.invokevirtual 17, 3) := by decide +kernel
theorem d_Lw_find_8 : decode b_Lw_find 8 = .ok (.i2l, 1) := by decide +kernel
theorem d_Lw_find_9 : decode b_Lw_find 9 = .ok (.lastore, 1) := by decide +kernel
theorem d_Lw_find_10 : decode b_Lw_find 10 = .ok (.goto 7, 3) := by decide +kernel
theorem d_Lw_find_13 : decode b_Lw_find 13 = .ok (.astore 4, 2) := by decide +kernel
theorem d_Lw_find_15 : decode b_Lw_find 15 = .ok (.iconst 1, 1) := by decide +kernel
theorem d_Lw_find_16 : decode b_Lw_find 16 = .ok (.ireturn, 1) := by decide +kernel
theorem d_Lw_find_17 : decode b_Lw_find 17 = .ok (.iconst 0, 1) := by decide +kernel
theorem d_Lw_find_18 : decode b_Lw_find 18 = .ok (.ireturn, 1) := by decide +kernel
theorem d_Lw_triangle_0 : decode b_Lw_triangle 0 = .ok (.aload_n 3, 1) := by decide +kernel
theorem d_Lw_triangle_1 : decode b_Lw_triangle 1 = .ok (.iconst 0, 1) := by decide +kernel
theorem d_Lw_triangle_2 : decode b_Lw_triangle 2 = .ok (.aload_n 0, 1) := by decide +kernel
theorem d_Lw_triangle_3 : decode b_Lw_triangle 3 = .ok (.iload_n 1, 1) := by decide +kernel
theorem d_Lw_triangle_4 : decode b_Lw_triangle 4 = .ok (.iload_n 2, 1) := by decide +kernel
theorem d_Lw_triangle_5 : decode b_Lw_triangle 5 = .ok (.invokevirtual 20, 3) := by decide +kernel
theorem d_Lw_triangle_8 : decode b_Lw_triangle 8 = .ok (.i2l, 1) := by decide +kernel
theorem d_Lw_triangle_9 : decode b_Lw_triangle 9 = .ok (.lastore, 1) := by decide +kernel
theorem d_Lw_triangle_10 : decode b_Lw_triangle 10 = .ok (.goto 7, 3) := by decide +kernel
theorem d_Lw_triangle_13 : decode b_Lw_triangle 13 = .ok (.astore 4, 2) := by decide +kernel
theorem d_Lw_triangle_15 : decode b_Lw_triangle 15 = .ok (.iconst 1, 1) := by decide +kernel
theorem d_Lw_triangle_16 : decode b_Lw_triangle 16 = .ok (.ireturn, 1) := by decide +kernel
theorem d_Lw_triangle_17 : decode b_Lw_triangle 17 = .ok (.iconst 0, 1) := by decide +kernel
theorem d_Lw_triangle_18 : decode b_Lw_triangle 18 = .ok (.ireturn, 1) := by decide +kernel
theorem d_Lw_neighbours_0 : decode b_Lw_neighbours 0 = .ok (.aload_n 2, 1) := by decide +kernel
theorem d_Lw_neighbours_1 : decode b_Lw_neighbours 1 = .ok (.iconst 0, 1) := by decide +kernel
theorem d_Lw_neighbours_2 : decode b_Lw_neighbours 2 = .ok (.aload_n 0, 1) := by decide +kernel
theorem d_Lw_neighbours_3 : decode b_Lw_neighbours 3 = .ok (.iload_n 1, 1) := by decide +kernel
theorem d_Lw_neighbours_4 : decode b_Lw_neighbours 4 = .ok (.invokevirtual 25, 3) := by decide +kernel
theorem d_Lw_neighbours_7 : decode b_Lw_neighbours 7 = .ok (.i2l, 1) := by decide +kernel
theorem d_Lw_neighbours_8 : decode b_Lw_neighbours 8 = .ok (.lastore, 1) := by decide +kernel
theorem d_Lw_neighbours_9 : decode b_Lw_neighbours 9 = .ok (.goto 6, 3) := by decide +kernel
theorem d_Lw_neighbours_12 : decode b_Lw_neighbours 12 = .ok (.astore_n 3, 1) := by decide +kernel
theorem d_Lw_neighbours_13 : decode b_Lw_neighbours 13 = .ok (.iconst 1, 1) := by decide +kernel
theorem d_Lw_neighbours_14 : decode b_Lw_neighbours 14 = .ok (.ireturn, 1) := by decide +kernel
theorem d_Lw_neighbours_15 : decode b_Lw_neighbours 15 = .ok (.iconst 0, 1) := by decide +kernel
theorem d_Lw_neighbours_16 : decode b_Lw_neighbours 16 = .ok (.ireturn, 1) := by decide +kernel
theorem d_Lw_neighbour_0 : decode b_Lw_neighbour 0 = .ok (.aload_n 3, 1) := by decide +kernel
theorem d_Lw_neighbour_1 : decode b_Lw_neighbour 1 = .ok (.iconst 0, 1) := by decide +kernel
theorem d_Lw_neighbour_2 : decode b_Lw_neighbour 2 = .ok (.aload_n 0, 1) := by decide +kernel
theorem d_Lw_neighbour_3 : decode b_Lw_neighbour 3 = .ok (.iload_n 1, 1) := by decide +kernel
theorem d_Lw_neighbour_4 : decode b_Lw_neighbour 4 = .ok (.iload_n 2, 1) := by decide +kernel
theorem d_Lw_neighbour_5 : decode b_Lw_neighbour 5 = .ok (.invokevirtual 29, 3) := by decide +kernel
theorem d_Lw_neighbour_8 : decode b_Lw_neighbour 8 = .ok (.i2l, 1) := by decide +kernel
theorem d_Lw_neighbour_9 : decode b_Lw_neighbour 9 = .ok (.lastore, 1) := by decide +kernel
theorem d_Lw_neighbour_10 : decode b_Lw_neighbour 10 = .ok (.goto 7, 3) := by decide +kernel
theorem d_Lw_neighbour_13 : decode b_Lw_neighbour 13 = .ok (.astore 4, 2) := by decide +kernel
theorem d_Lw_neighbour_15 : decode b_Lw_neighbour 15 = .ok (.iconst 1, 1) := by decide +kernel
theorem d_Lw_neighbour_16 : decode b_Lw_neighbour 16 = .ok (.ireturn, 1) := by decide +kernel
theorem d_Lw_neighbour_17 : decode b_Lw_neighbour 17 = .ok (.iconst 0, 1) := by decide +kernel
theorem d_Lw_neighbour_18 : decode b_Lw_neighbour 18 = .ok (.ireturn, 1) := by decide +kernel
theorem d_Lw_corner_0 : decode b_Lw_corner 0 = .ok (.aload_n 2, 1) := by decide +kernel
theorem d_Lw_corner_1 : decode b_Lw_corner 1 = .ok (.iconst 0, 1) := by decide +kernel
theorem d_Lw_corner_2 : decode b_Lw_corner 2 = .ok (.aload_n 0, 1) := by decide +kernel
theorem d_Lw_corner_3 : decode b_Lw_corner 3 = .ok (.iload_n 1, 1) := by decide +kernel
theorem d_Lw_corner_4 : decode b_Lw_corner 4 = .ok (.invokevirtual 32, 3) := by decide +kernel
theorem d_Lw_corner_7 : decode b_Lw_corner 7 = .ok (.i2l, 1) := by decide +kernel
theorem d_Lw_corner_8 : decode b_Lw_corner 8 = .ok (.lastore, 1) := by decide +kernel
theorem d_Lw_corner_9 : decode b_Lw_corner 9 = .ok (.goto 6, 3) := by decide +kernel
theorem d_Lw_corner_12 : decode b_Lw_corner 12 = .ok (.astore_n 3, 1) := by decide +kernel
theorem d_Lw_corner_13 : decode b_Lw_corner 13 = .ok (.iconst 1, 1) := by decide +kernel
theorem d_Lw_corner_14 : decode b_Lw_corner 14 = .ok (.ireturn, 1) := by decide +kernel
theorem d_Lw_corner_15 : decode b_Lw_corner 15 = .ok (.iconst 0, 1) := by decide +kernel
theorem d_Lw_corner_16 : decode b_Lw_corner 16 = .ok (.ireturn, 1) := by decide +kernel
theorem d_Lw_locate_0 : decode b_Lw_locate 0 = .ok (.aload_n 3, 1) := by decide +kernel
theorem d_Lw_locate_1 : decode b_Lw_locate 1 = .ok (.iconst 0, 1) := by decide +kernel
theorem d_Lw_locate_2 : decode b_Lw_locate 2 = .ok (.aload_n 0, 1) := by decide +kernel
theorem d_Lw_locate_3 : decode b_Lw_locate 3 = .ok (.iload_n 1, 1) := by decide +kernel
theorem d_Lw_locate_4 : decode b_Lw_locate 4 = .ok (.iload_n 2, 1) := by decide +kernel
theorem d_Lw_locate_5 : decode b_Lw_locate 5 = .ok (.invokevirtual 35, 3) := by decide +kernel
theorem d_Lw_locate_8 : decode b_Lw_locate 8 = .ok (.i2l, 1) := by decide +kernel
theorem d_Lw_locate_9 : decode b_Lw_locate 9 = .ok (.lastore, 1) := by decide +kernel
theorem d_Lw_locate_10 : decode b_Lw_locate 10 = .ok (.goto 7, 3) := by decide +kernel
theorem d_Lw_locate_13 : decode b_Lw_locate 13 = .ok (.astore 4, 2) := by decide +kernel
theorem d_Lw_locate_15 : decode b_Lw_locate 15 = .ok (.iconst 1, 1) := by decide +kernel
theorem d_Lw_locate_16 : decode b_Lw_locate 16 = .ok (.ireturn, 1) := by decide +kernel
theorem d_Lw_locate_17 : decode b_Lw_locate 17 = .ok (.iconst 0, 1) := by decide +kernel
theorem d_Lw_locate_18 : decode b_Lw_locate 18 = .ok (.ireturn, 1) := by decide +kernel
theorem d_Lw_nearest_0 : decode b_Lw_nearest 0 = .ok (.aload_n 3, 1) := by decide +kernel
theorem d_Lw_nearest_1 : decode b_Lw_nearest 1 = .ok (.iconst 0, 1) := by decide +kernel
theorem d_Lw_nearest_2 : decode b_Lw_nearest 2 = .ok (.aload_n 0, 1) := by decide +kernel
theorem d_Lw_nearest_3 : decode b_Lw_nearest 3 = .ok (.iload_n 1, 1) := by decide +kernel
theorem d_Lw_nearest_4 : decode b_Lw_nearest 4 = .ok (.iload_n 2, 1) := by decide +kernel
theorem d_Lw_nearest_5 : decode b_Lw_nearest 5 = .ok (.invokevirtual 38, 3) := by decide +kernel
theorem d_Lw_nearest_8 : decode b_Lw_nearest 8 = .ok (.i2l, 1) := by decide +kernel
theorem d_Lw_nearest_9 : decode b_Lw_nearest 9 = .ok (.lastore, 1) := by decide +kernel
theorem d_Lw_nearest_10 : decode b_Lw_nearest 10 = .ok (.goto 11, 3) := by decide +kernel
theorem d_Lw_nearest_13 : decode b_Lw_nearest 13 = .ok (.astore 4, 2) := by decide +kernel
theorem d_Lw_nearest_15 : decode b_Lw_nearest 15 = .ok (.iconst 1, 1) := by decide +kernel
theorem d_Lw_nearest_16 : decode b_Lw_nearest 16 = .ok (.ireturn, 1) := by decide +kernel
theorem d_Lw_nearest_17 : decode b_Lw_nearest 17 = .ok (.astore 4, 2) := by decide +kernel
theorem d_Lw_nearest_19 : decode b_Lw_nearest 19 = .ok (.iconst 2, 1) := by decide +kernel
theorem d_Lw_nearest_20 : decode b_Lw_nearest 20 = .ok (.ireturn, 1) := by decide +kernel
theorem d_Lw_nearest_21 : decode b_Lw_nearest 21 = .ok (.iconst 0, 1) := by decide +kernel
theorem d_Lw_nearest_22 : decode b_Lw_nearest 22 = .ok (.ireturn, 1) := by decide +kernel
theorem d_Lw_closest_0 : decode b_Lw_closest 0 = .ok (.aload_n 2, 1) := by decide +kernel
theorem d_Lw_closest_1 : decode b_Lw_closest 1 = .ok (.iconst 0, 1) := by decide +kernel
theorem d_Lw_closest_2 : decode b_Lw_closest 2 = .ok (.aload_n 0, 1) := by decide +kernel
theorem d_Lw_closest_3 : decode b_Lw_closest 3 = .ok (.iload_n 1, 1) := by decide +kernel
theorem d_Lw_closest_4 : decode b_Lw_closest 4 = .ok (.invokevirtual 41, 3) := by decide +kernel
theorem d_Lw_closest_7 : decode b_Lw_closest 7 = .ok (.lastore, 1) := by decide +kernel
theorem d_Lw_closest_8 : decode b_Lw_closest 8 = .ok (.goto 9, 3) := by decide +kernel
theorem d_Lw_closest_11 : decode b_Lw_closest 11 = .ok (.astore_n 3, 1) := by decide +kernel
theorem d_Lw_closest_12 : decode b_Lw_closest 12 = .ok (.iconst 1, 1) := by decide +kernel
theorem d_Lw_closest_13 : decode b_Lw_closest 13 = .ok (.ireturn, 1) := by decide +kernel
theorem d_Lw_closest_14 : decode b_Lw_closest 14 = .ok (.astore_n 3, 1) := by decide +kernel
theorem d_Lw_closest_15 : decode b_Lw_closest 15 = .ok (.iconst 2, 1) := by decide +kernel
theorem d_Lw_closest_16 : decode b_Lw_closest 16 = .ok (.ireturn, 1) := by decide +kernel
theorem d_Lw_closest_17 : decode b_Lw_closest 17 = .ok (.iconst 0, 1) := by decide +kernel
theorem d_Lw_closest_18 : decode b_Lw_closest 18 = .ok (.ireturn, 1) := by decide +kernel
theorem d_Lw_point_0 : decode b_Lw_point 0 = .ok (.aload_n 3, 1) := by decide +kernel
theorem d_Lw_point_1 : decode b_Lw_point 1 = .ok (.iconst 0, 1) := by decide +kernel
theorem d_Lw_point_2 : decode b_Lw_point 2 = .ok (.aload_n 0, 1) := by decide +kernel
theorem d_Lw_point_3 : decode b_Lw_point 3 = .ok (.iload_n 1, 1) := by decide +kernel
theorem d_Lw_point_4 : decode b_Lw_point 4 = .ok (.iload_n 2, 1) := by decide +kernel
theorem d_Lw_point_5 : decode b_Lw_point 5 = .ok (.invokevirtual 45, 3) := by decide +kernel
theorem d_Lw_point_8 : decode b_Lw_point 8 = .ok (.i2l, 1) := by decide +kernel
theorem d_Lw_point_9 : decode b_Lw_point 9 = .ok (.lastore, 1) := by decide +kernel
theorem d_Lw_point_10 : decode b_Lw_point 10 = .ok (.goto 7, 3) := by decide +kernel
theorem d_Lw_point_13 : decode b_Lw_point 13 = .ok (.astore 4, 2) := by decide +kernel
theorem d_Lw_point_15 : decode b_Lw_point 15 = .ok (.iconst 1, 1) := by decide +kernel
theorem d_Lw_point_16 : decode b_Lw_point 16 = .ok (.ireturn, 1) := by decide +kernel
theorem d_Lw_point_17 : decode b_Lw_point 17 = .ok (.iconst 0, 1) := by decide +kernel
theorem d_Lw_point_18 : decode b_Lw_point 18 = .ok (.ireturn, 1) := by decide +kernel
abbrev b_Lw_cell : ByteArray := method_2_code
def y_Lw_cell : MethodName := ⟨R_Lw, "cell", "([II)I"⟩
def w_Lw_cell : List Cond := .code y_Lw_cell b_Lw_cell 2 (some .int) :: TT
def rm_Lw_cell : Room := { frames := 0, cells := 0, slots := 0, locals := 0 }
theorem gd_Lw_cell {h : Cond} : GoodIn (h :: TT) w_Lw_cell := gd_of wd_414
theorem dd_Lw_cell : y_Lw_cell.cls ≠ "java/lang/invoke/MethodHandle" ∧ y_Lw_cell.cls ≠ "java/lang/invoke/VarHandle" ∧ (parseMethodDescriptor y_Lw_cell.desc).map (fun d => d.parameters.length) = some 2 := ⟨by decide +kernel, by decide +kernel, by decide +kernel⟩
theorem d_Lw_cell_0 : decode b_Lw_cell 0 = .ok (.iload_n 1, 1) := by decide +kernel
theorem d_Lw_cell_1 : decode b_Lw_cell 1 = .ok (.aload_n 0, 1) := by decide +kernel
theorem d_Lw_cell_2 : decode b_Lw_cell 2 = .ok (.arraylength, 1) := by decide +kernel
theorem d_Lw_cell_3 : decode b_Lw_cell 3 = .ok (.if_icmp .ge 9, 3) := by decide +kernel
theorem d_Lw_cell_6 : decode b_Lw_cell 6 = .ok (.aload_n 0, 1) := by decide +kernel
theorem d_Lw_cell_7 : decode b_Lw_cell 7 = .ok (.iload_n 1, 1) := by decide +kernel
theorem d_Lw_cell_8 : decode b_Lw_cell 8 = .ok (.iaload, 1) := by decide +kernel
theorem d_Lw_cell_9 : decode b_Lw_cell 9 = .ok (.goto 4, 3) := by decide +kernel
theorem d_Lw_cell_12 : decode b_Lw_cell 12 = .ok (.iconst 0, 1) := by decide +kernel
theorem d_Lw_cell_13 : decode b_Lw_cell 13 = .ok (.ireturn, 1) := by decide +kernel
theorem d_law_0 : decode code 0 = .ok (.new 8, 3) := by decide +kernel
theorem d_law_3 : decode code 3 = .ok (.dup, 1) := by decide +kernel
theorem d_law_4 : decode code 4 = .ok (.aload_n 0, 1) := by decide +kernel
theorem d_law_5 : decode code 5 = .ok (.iconst 0, 1) := by decide +kernel
theorem d_law_6 : decode code 6 = .ok (.invokestatic 48, 3) := by decide +kernel
theorem d_law_9 : decode code 9 = .ok (.invokespecial 54, 3) := by decide +kernel
theorem d_law_12 : decode code 12 = .ok (.astore_n 1, 1) := by decide +kernel
theorem d_law_13 : decode code 13 = .ok (.new 57, 3) := by decide +kernel
theorem d_law_16 : decode code 16 = .ok (.dup, 1) := by decide +kernel
theorem d_law_17 : decode code 17 = .ok (.aload_n 0, 1) := by decide +kernel
theorem d_law_18 : decode code 18 = .ok (.iconst 0, 1) := by decide +kernel
theorem d_law_19 : decode code 19 = .ok (.invokestatic 48, 3) := by decide +kernel
theorem d_law_22 : decode code 22 = .ok (.invokespecial 59, 3) := by decide +kernel
theorem d_law_25 : decode code 25 = .ok (.astore_n 2, 1) := by decide +kernel
theorem d_law_26 : decode code 26 = .ok (.iconst 1, 1) := by decide +kernel
theorem d_law_27 : decode code 27 = .ok (.newarray .long, 2) := by decide +kernel
theorem d_law_29 : decode code 29 = .ok (.astore_n 3, 1) := by decide +kernel
theorem d_law_30 : decode code 30 = .ok (.iconst 1, 1) := by decide +kernel
theorem d_law_31 : decode code 31 = .ok (.istore 4, 2) := by decide +kernel
theorem d_law_33 : decode code 33 = .ok (.iload 4, 2) := by decide +kernel
theorem d_law_35 : decode code 35 = .ok (.aload_n 0, 1) := by decide +kernel
theorem d_law_36 : decode code 36 = .ok (.arraylength, 1) := by decide +kernel
theorem d_law_37 : decode code 37 = .ok (.iconst 3, 1) := by decide +kernel
theorem d_law_38 : decode code 38 = .ok (.isub, 1) := by decide +kernel
theorem d_law_39 : decode code 39 = .ok (.if_icmp .gt 789, 3) := by decide +kernel
theorem d_law_42 : decode code 42 = .ok (.aload_n 0, 1) := by decide +kernel
theorem d_law_43 : decode code 43 = .ok (.iload 4, 2) := by decide +kernel
theorem d_law_45 : decode code 45 = .ok (.iaload, 1) := by decide +kernel
theorem d_law_46 : decode code 46 = .ok (.bipush 15, 2) := by decide +kernel
theorem d_law_48 : decode code 48 = .ok (.iand, 1) := by decide +kernel
theorem d_law_49 : decode code 49 = .ok (.tableswitch 773 0 12 #[67, 135, 148, 216, 284, 340, 408, 464, 532, 557, 625, 680, 748], 67) := by decide +kernel
theorem d_law_116 : decode code 116 = .ok (.aload_n 1, 1) := by decide +kernel
theorem d_law_117 : decode code 117 = .ok (.aload_n 0, 1) := by decide +kernel
theorem d_law_118 : decode code 118 = .ok (.iload 4, 2) := by decide +kernel
theorem d_law_120 : decode code 120 = .ok (.iconst 1, 1) := by decide +kernel
theorem d_law_121 : decode code 121 = .ok (.iadd, 1) := by decide +kernel
theorem d_law_122 : decode code 122 = .ok (.iaload, 1) := by decide +kernel
theorem d_law_123 : decode code 123 = .ok (.aload_n 0, 1) := by decide +kernel
theorem d_law_124 : decode code 124 = .ok (.iload 4, 2) := by decide +kernel
theorem d_law_126 : decode code 126 = .ok (.iconst 2, 1) := by decide +kernel
theorem d_law_127 : decode code 127 = .ok (.iadd, 1) := by decide +kernel
theorem d_law_128 : decode code 128 = .ok (.iaload, 1) := by decide +kernel
theorem d_law_129 : decode code 129 = .ok (.aload_n 3, 1) := by decide +kernel
theorem d_law_130 : decode code 130 = .ok (.invokestatic 60, 3) := by decide +kernel
theorem d_law_133 : decode code 133 = .ok (.istore 5, 2) := by decide +kernel
theorem d_law_135 : decode code 135 = .ok (.aload_n 2, 1) := by decide +kernel
theorem d_law_136 : decode code 136 = .ok (.aload_n 0, 1) := by decide +kernel
theorem d_law_137 : decode code 137 = .ok (.iload 4, 2) := by decide +kernel
theorem d_law_139 : decode code 139 = .ok (.iconst 1, 1) := by decide +kernel
theorem d_law_140 : decode code 140 = .ok (.iadd, 1) := by decide +kernel
theorem d_law_141 : decode code 141 = .ok (.iaload, 1) := by decide +kernel
theorem d_law_142 : decode code 142 = .ok (.aload_n 0, 1) := by decide +kernel
theorem d_law_143 : decode code 143 = .ok (.iload 4, 2) := by decide +kernel
theorem d_law_145 : decode code 145 = .ok (.iconst 2, 1) := by decide +kernel
theorem d_law_146 : decode code 146 = .ok (.iadd, 1) := by decide +kernel
theorem d_law_147 : decode code 147 = .ok (.iaload, 1) := by decide +kernel
theorem d_law_148 : decode code 148 = .ok (.invokevirtual 63, 3) := by decide +kernel
theorem d_law_151 : decode code 151 = .ok (.istore 6, 2) := by decide +kernel
theorem d_law_153 : decode code 153 = .ok (.aload_n 2, 1) := by decide +kernel
theorem d_law_154 : decode code 154 = .ok (.invokevirtual 64, 3) := by decide +kernel
theorem d_law_157 : decode code 157 = .ok (.iload 5, 2) := by decide +kernel
theorem d_law_159 : decode code 159 = .ok (.if_icmp .eq 5, 3) := by decide +kernel
theorem d_law_162 : decode code 162 = .ok (.iconst 0, 1) := by decide +kernel
theorem d_law_163 : decode code 163 = .ok (.ireturn, 1) := by decide +kernel
theorem d_law_164 : decode code 164 = .ok (.iload 5, 2) := by decide +kernel
theorem d_law_166 : decode code 166 = .ok (.ifCond .ne 15, 3) := by decide +kernel
theorem d_law_169 : decode code 169 = .ok (.aload_n 3, 1) := by decide +kernel
theorem d_law_170 : decode code 170 = .ok (.iconst 0, 1) := by decide +kernel
theorem d_law_171 : decode code 171 = .ok (.laload, 1) := by decide +kernel
theorem d_law_172 : decode code 172 = .ok (.iload 6, 2) := by decide +kernel
theorem d_law_174 : decode code 174 = .ok (.i2l, 1) := by decide +kernel
theorem d_law_175 : decode code 175 = .ok (.lcmp, 1) := by decide +kernel
theorem d_law_176 : decode code 176 = .ok (.ifCond .eq 5, 3) := by decide +kernel
theorem d_law_179 : decode code 179 = .ok (.iconst 0, 1) := by decide +kernel
theorem d_law_180 : decode code 180 = .ok (.ireturn, 1) := by decide +kernel
theorem d_law_181 : decode code 181 = .ok (.goto 641, 3) := by decide +kernel
theorem d_law_184 : decode code 184 = .ok (.aload_n 1, 1) := by decide +kernel
theorem d_law_185 : decode code 185 = .ok (.invokevirtual 68, 3) := by decide +kernel
theorem d_law_188 : decode code 188 = .ok (.aload_n 2, 1) := by decide +kernel
theorem d_law_189 : decode code 189 = .ok (.invokevirtual 71, 3) := by decide +kernel
theorem d_law_192 : decode code 192 = .ok (.if_icmp .eq 630, 3) := by decide +kernel
theorem d_law_195 : decode code 195 = .ok (.iconst 0, 1) := by decide +kernel
theorem d_law_196 : decode code 196 = .ok (.ireturn, 1) := by decide +kernel
theorem d_law_197 : decode code 197 = .ok (.aload_n 1, 1) := by decide +kernel
theorem d_law_198 : decode code 198 = .ok (.aload_n 0, 1) := by decide +kernel
theorem d_law_199 : decode code 199 = .ok (.iload 4, 2) := by decide +kernel
theorem d_law_201 : decode code 201 = .ok (.iconst 1, 1) := by decide +kernel
theorem d_law_202 : decode code 202 = .ok (.iadd, 1) := by decide +kernel
theorem d_law_203 : decode code 203 = .ok (.iaload, 1) := by decide +kernel
theorem d_law_204 : decode code 204 = .ok (.aload_n 0, 1) := by decide +kernel
theorem d_law_205 : decode code 205 = .ok (.iload 4, 2) := by decide +kernel
theorem d_law_207 : decode code 207 = .ok (.iconst 2, 1) := by decide +kernel
theorem d_law_208 : decode code 208 = .ok (.iadd, 1) := by decide +kernel
theorem d_law_209 : decode code 209 = .ok (.iaload, 1) := by decide +kernel
theorem d_law_210 : decode code 210 = .ok (.aload_n 3, 1) := by decide +kernel
theorem d_law_211 : decode code 211 = .ok (.invokestatic 72, 3) := by decide +kernel
theorem d_law_214 : decode code 214 = .ok (.istore 5, 2) := by decide +kernel
theorem d_law_216 : decode code 216 = .ok (.aload_n 2, 1) := by decide +kernel
theorem d_law_217 : decode code 217 = .ok (.aload_n 0, 1) := by decide +kernel
theorem d_law_218 : decode code 218 = .ok (.iload 4, 2) := by decide +kernel
theorem d_law_220 : decode code 220 = .ok (.iconst 1, 1) := by decide +kernel
theorem d_law_221 : decode code 221 = .ok (.iadd, 1) := by decide +kernel
theorem d_law_222 : decode code 222 = .ok (.iaload, 1) := by decide +kernel
theorem d_law_223 : decode code 223 = .ok (.aload_n 0, 1) := by decide +kernel
theorem d_law_224 : decode code 224 = .ok (.iload 4, 2) := by decide +kernel
theorem d_law_226 : decode code 226 = .ok (.iconst 2, 1) := by decide +kernel
theorem d_law_227 : decode code 227 = .ok (.iadd, 1) := by decide +kernel
theorem d_law_228 : decode code 228 = .ok (.iaload, 1) := by decide +kernel
theorem d_law_229 : decode code 229 = .ok (.invokevirtual 74, 3) := by decide +kernel
theorem d_law_232 : decode code 232 = .ok (.istore 6, 2) := by decide +kernel
theorem d_law_234 : decode code 234 = .ok (.aload_n 2, 1) := by decide +kernel
theorem d_law_235 : decode code 235 = .ok (.invokevirtual 64, 3) := by decide +kernel
theorem d_law_238 : decode code 238 = .ok (.iload 5, 2) := by decide +kernel
theorem d_law_240 : decode code 240 = .ok (.if_icmp .eq 5, 3) := by decide +kernel
theorem d_law_243 : decode code 243 = .ok (.iconst 0, 1) := by decide +kernel
theorem d_law_244 : decode code 244 = .ok (.ireturn, 1) := by decide +kernel
theorem d_law_245 : decode code 245 = .ok (.iload 5, 2) := by decide +kernel
theorem d_law_247 : decode code 247 = .ok (.ifCond .ne 15, 3) := by decide +kernel
theorem d_law_250 : decode code 250 = .ok (.aload_n 3, 1) := by decide +kernel
theorem d_law_251 : decode code 251 = .ok (.iconst 0, 1) := by decide +kernel
theorem d_law_252 : decode code 252 = .ok (.laload, 1) := by decide +kernel
theorem d_law_253 : decode code 253 = .ok (.iload 6, 2) := by decide +kernel
theorem d_law_255 : decode code 255 = .ok (.i2l, 1) := by decide +kernel
theorem d_law_256 : decode code 256 = .ok (.lcmp, 1) := by decide +kernel
theorem d_law_257 : decode code 257 = .ok (.ifCond .eq 5, 3) := by decide +kernel
theorem d_law_260 : decode code 260 = .ok (.iconst 0, 1) := by decide +kernel
theorem d_law_261 : decode code 261 = .ok (.ireturn, 1) := by decide +kernel
theorem d_law_262 : decode code 262 = .ok (.goto 560, 3) := by decide +kernel
theorem d_law_265 : decode code 265 = .ok (.aload_n 1, 1) := by decide +kernel
theorem d_law_266 : decode code 266 = .ok (.aload_n 0, 1) := by decide +kernel
theorem d_law_267 : decode code 267 = .ok (.iload 4, 2) := by decide +kernel
theorem d_law_269 : decode code 269 = .ok (.iconst 1, 1) := by decide +kernel
theorem d_law_270 : decode code 270 = .ok (.iadd, 1) := by decide +kernel
theorem d_law_271 : decode code 271 = .ok (.iaload, 1) := by decide +kernel
theorem d_law_272 : decode code 272 = .ok (.aload_n 0, 1) := by decide +kernel
theorem d_law_273 : decode code 273 = .ok (.iload 4, 2) := by decide +kernel
theorem d_law_275 : decode code 275 = .ok (.iconst 2, 1) := by decide +kernel
theorem d_law_276 : decode code 276 = .ok (.iadd, 1) := by decide +kernel
theorem d_law_277 : decode code 277 = .ok (.iaload, 1) := by decide +kernel
theorem d_law_278 : decode code 278 = .ok (.aload_n 3, 1) := by decide +kernel
theorem d_law_279 : decode code 279 = .ok (.invokestatic 75, 3) := by decide +kernel
theorem d_law_282 : decode code 282 = .ok (.istore 5, 2) := by decide +kernel
theorem d_law_284 : decode code 284 = .ok (.aload_n 2, 1) := by decide +kernel
theorem d_law_285 : decode code 285 = .ok (.aload_n 0, 1) := by decide +kernel
theorem d_law_286 : decode code 286 = .ok (.iload 4, 2) := by decide +kernel
theorem d_law_288 : decode code 288 = .ok (.iconst 1, 1) := by decide +kernel
theorem d_law_289 : decode code 289 = .ok (.iadd, 1) := by decide +kernel
theorem d_law_290 : decode code 290 = .ok (.iaload, 1) := by decide +kernel
theorem d_law_291 : decode code 291 = .ok (.aload_n 0, 1) := by decide +kernel
theorem d_law_292 : decode code 292 = .ok (.iload 4, 2) := by decide +kernel
theorem d_law_294 : decode code 294 = .ok (.iconst 2, 1) := by decide +kernel
theorem d_law_295 : decode code 295 = .ok (.iadd, 1) := by decide +kernel
theorem d_law_296 : decode code 296 = .ok (.iaload, 1) := by decide +kernel
theorem d_law_297 : decode code 297 = .ok (.invokevirtual 77, 3) := by decide +kernel
theorem d_law_300 : decode code 300 = .ok (.istore 6, 2) := by decide +kernel
theorem d_law_302 : decode code 302 = .ok (.aload_n 2, 1) := by decide +kernel
theorem d_law_303 : decode code 303 = .ok (.invokevirtual 64, 3) := by decide +kernel
theorem d_law_306 : decode code 306 = .ok (.iload 5, 2) := by decide +kernel
theorem d_law_308 : decode code 308 = .ok (.if_icmp .eq 5, 3) := by decide +kernel
theorem d_law_311 : decode code 311 = .ok (.iconst 0, 1) := by decide +kernel
theorem d_law_312 : decode code 312 = .ok (.ireturn, 1) := by decide +kernel
theorem d_law_313 : decode code 313 = .ok (.iload 5, 2) := by decide +kernel
theorem d_law_315 : decode code 315 = .ok (.ifCond .ne 15, 3) := by decide +kernel
theorem d_law_318 : decode code 318 = .ok (.aload_n 3, 1) := by decide +kernel
theorem d_law_319 : decode code 319 = .ok (.iconst 0, 1) := by decide +kernel
theorem d_law_320 : decode code 320 = .ok (.laload, 1) := by decide +kernel
theorem d_law_321 : decode code 321 = .ok (.iload 6, 2) := by decide +kernel
theorem d_law_323 : decode code 323 = .ok (.i2l, 1) := by decide +kernel
theorem d_law_324 : decode code 324 = .ok (.lcmp, 1) := by decide +kernel
theorem d_law_325 : decode code 325 = .ok (.ifCond .eq 5, 3) := by decide +kernel
theorem d_law_328 : decode code 328 = .ok (.iconst 0, 1) := by decide +kernel
theorem d_law_329 : decode code 329 = .ok (.ireturn, 1) := by decide +kernel
theorem d_law_330 : decode code 330 = .ok (.goto 492, 3) := by decide +kernel
theorem d_law_333 : decode code 333 = .ok (.aload_n 1, 1) := by decide +kernel
theorem d_law_334 : decode code 334 = .ok (.aload_n 0, 1) := by decide +kernel
theorem d_law_335 : decode code 335 = .ok (.iload 4, 2) := by decide +kernel
theorem d_law_337 : decode code 337 = .ok (.iconst 1, 1) := by decide +kernel
theorem d_law_338 : decode code 338 = .ok (.iadd, 1) := by decide +kernel
theorem d_law_339 : decode code 339 = .ok (.iaload, 1) := by decide +kernel
theorem d_law_340 : decode code 340 = .ok (.aload_n 3, 1) := by decide +kernel
theorem d_law_341 : decode code 341 = .ok (.invokestatic 78, 3) := by decide +kernel
theorem d_law_344 : decode code 344 = .ok (.istore 5, 2) := by decide +kernel
theorem d_law_346 : decode code 346 = .ok (.aload_n 2, 1) := by decide +kernel
theorem d_law_347 : decode code 347 = .ok (.aload_n 0, 1) := by decide +kernel
theorem d_law_348 : decode code 348 = .ok (.iload 4, 2) := by decide +kernel
theorem d_law_350 : decode code 350 = .ok (.iconst 1, 1) := by decide +kernel
theorem d_law_351 : decode code 351 = .ok (.iadd, 1) := by decide +kernel
theorem d_law_352 : decode code 352 = .ok (.iaload, 1) := by decide +kernel
theorem d_law_353 : decode code 353 = .ok (.invokevirtual 81, 3) := by decide +kernel
theorem d_law_356 : decode code 356 = .ok (.istore 6, 2) := by decide +kernel
theorem d_law_358 : decode code 358 = .ok (.aload_n 2, 1) := by decide +kernel
theorem d_law_359 : decode code 359 = .ok (.invokevirtual 64, 3) := by decide +kernel
theorem d_law_362 : decode code 362 = .ok (.iload 5, 2) := by decide +kernel
theorem d_law_364 : decode code 364 = .ok (.if_icmp .eq 5, 3) := by decide +kernel
theorem d_law_367 : decode code 367 = .ok (.iconst 0, 1) := by decide +kernel
theorem d_law_368 : decode code 368 = .ok (.ireturn, 1) := by decide +kernel
theorem d_law_369 : decode code 369 = .ok (.iload 5, 2) := by decide +kernel
theorem d_law_371 : decode code 371 = .ok (.ifCond .ne 15, 3) := by decide +kernel
theorem d_law_374 : decode code 374 = .ok (.aload_n 3, 1) := by decide +kernel
theorem d_law_375 : decode code 375 = .ok (.iconst 0, 1) := by decide +kernel
theorem d_law_376 : decode code 376 = .ok (.laload, 1) := by decide +kernel
theorem d_law_377 : decode code 377 = .ok (.iload 6, 2) := by decide +kernel
theorem d_law_379 : decode code 379 = .ok (.i2l, 1) := by decide +kernel
theorem d_law_380 : decode code 380 = .ok (.lcmp, 1) := by decide +kernel
theorem d_law_381 : decode code 381 = .ok (.ifCond .eq 5, 3) := by decide +kernel
theorem d_law_384 : decode code 384 = .ok (.iconst 0, 1) := by decide +kernel
theorem d_law_385 : decode code 385 = .ok (.ireturn, 1) := by decide +kernel
theorem d_law_386 : decode code 386 = .ok (.goto 436, 3) := by decide +kernel
theorem d_law_389 : decode code 389 = .ok (.aload_n 1, 1) := by decide +kernel
theorem d_law_390 : decode code 390 = .ok (.aload_n 0, 1) := by decide +kernel
theorem d_law_391 : decode code 391 = .ok (.iload 4, 2) := by decide +kernel
theorem d_law_393 : decode code 393 = .ok (.iconst 1, 1) := by decide +kernel
theorem d_law_394 : decode code 394 = .ok (.iadd, 1) := by decide +kernel
theorem d_law_395 : decode code 395 = .ok (.iaload, 1) := by decide +kernel
theorem d_law_396 : decode code 396 = .ok (.aload_n 0, 1) := by decide +kernel
theorem d_law_397 : decode code 397 = .ok (.iload 4, 2) := by decide +kernel
theorem d_law_399 : decode code 399 = .ok (.iconst 2, 1) := by decide +kernel
theorem d_law_400 : decode code 400 = .ok (.iadd, 1) := by decide +kernel
theorem d_law_401 : decode code 401 = .ok (.iaload, 1) := by decide +kernel
theorem d_law_402 : decode code 402 = .ok (.aload_n 3, 1) := by decide +kernel
theorem d_law_403 : decode code 403 = .ok (.invokestatic 82, 3) := by decide +kernel
theorem d_law_406 : decode code 406 = .ok (.istore 5, 2) := by decide +kernel
theorem d_law_408 : decode code 408 = .ok (.aload_n 2, 1) := by decide +kernel
theorem d_law_409 : decode code 409 = .ok (.aload_n 0, 1) := by decide +kernel
theorem d_law_410 : decode code 410 = .ok (.iload 4, 2) := by decide +kernel
theorem d_law_412 : decode code 412 = .ok (.iconst 1, 1) := by decide +kernel
theorem d_law_413 : decode code 413 = .ok (.iadd, 1) := by decide +kernel
theorem d_law_414 : decode code 414 = .ok (.iaload, 1) := by decide +kernel
theorem d_law_415 : decode code 415 = .ok (.aload_n 0, 1) := by decide +kernel
theorem d_law_416 : decode code 416 = .ok (.iload 4, 2) := by decide +kernel
theorem d_law_418 : decode code 418 = .ok (.iconst 2, 1) := by decide +kernel
theorem d_law_419 : decode code 419 = .ok (.iadd, 1) := by decide +kernel
theorem d_law_420 : decode code 420 = .ok (.iaload, 1) := by decide +kernel
theorem d_law_421 : decode code 421 = .ok (.invokevirtual 84, 3) := by decide +kernel
theorem d_law_424 : decode code 424 = .ok (.istore 6, 2) := by decide +kernel
theorem d_law_426 : decode code 426 = .ok (.aload_n 2, 1) := by decide +kernel
theorem d_law_427 : decode code 427 = .ok (.invokevirtual 64, 3) := by decide +kernel
theorem d_law_430 : decode code 430 = .ok (.iload 5, 2) := by decide +kernel
theorem d_law_432 : decode code 432 = .ok (.if_icmp .eq 5, 3) := by decide +kernel
theorem d_law_435 : decode code 435 = .ok (.iconst 0, 1) := by decide +kernel
theorem d_law_436 : decode code 436 = .ok (.ireturn, 1) := by decide +kernel
theorem d_law_437 : decode code 437 = .ok (.iload 5, 2) := by decide +kernel
theorem d_law_439 : decode code 439 = .ok (.ifCond .ne 15, 3) := by decide +kernel
theorem d_law_442 : decode code 442 = .ok (.aload_n 3, 1) := by decide +kernel
theorem d_law_443 : decode code 443 = .ok (.iconst 0, 1) := by decide +kernel
theorem d_law_444 : decode code 444 = .ok (.laload, 1) := by decide +kernel
theorem d_law_445 : decode code 445 = .ok (.iload 6, 2) := by decide +kernel
theorem d_law_447 : decode code 447 = .ok (.i2l, 1) := by decide +kernel
theorem d_law_448 : decode code 448 = .ok (.lcmp, 1) := by decide +kernel
theorem d_law_449 : decode code 449 = .ok (.ifCond .eq 5, 3) := by decide +kernel
theorem d_law_452 : decode code 452 = .ok (.iconst 0, 1) := by decide +kernel
theorem d_law_453 : decode code 453 = .ok (.ireturn, 1) := by decide +kernel
theorem d_law_454 : decode code 454 = .ok (.goto 368, 3) := by decide +kernel
theorem d_law_457 : decode code 457 = .ok (.aload_n 1, 1) := by decide +kernel
theorem d_law_458 : decode code 458 = .ok (.aload_n 0, 1) := by decide +kernel
theorem d_law_459 : decode code 459 = .ok (.iload 4, 2) := by decide +kernel
theorem d_law_461 : decode code 461 = .ok (.iconst 1, 1) := by decide +kernel
theorem d_law_462 : decode code 462 = .ok (.iadd, 1) := by decide +kernel
theorem d_law_463 : decode code 463 = .ok (.iaload, 1) := by decide +kernel
theorem d_law_464 : decode code 464 = .ok (.aload_n 3, 1) := by decide +kernel
theorem d_law_465 : decode code 465 = .ok (.invokestatic 85, 3) := by decide +kernel
theorem d_law_468 : decode code 468 = .ok (.istore 5, 2) := by decide +kernel
theorem d_law_470 : decode code 470 = .ok (.aload_n 2, 1) := by decide +kernel
theorem d_law_471 : decode code 471 = .ok (.aload_n 0, 1) := by decide +kernel
theorem d_law_472 : decode code 472 = .ok (.iload 4, 2) := by decide +kernel
theorem d_law_474 : decode code 474 = .ok (.iconst 1, 1) := by decide +kernel
theorem d_law_475 : decode code 475 = .ok (.iadd, 1) := by decide +kernel
theorem d_law_476 : decode code 476 = .ok (.iaload, 1) := by decide +kernel
theorem d_law_477 : decode code 477 = .ok (.invokevirtual 87, 3) := by decide +kernel
theorem d_law_480 : decode code 480 = .ok (.istore 6, 2) := by decide +kernel
theorem d_law_482 : decode code 482 = .ok (.aload_n 2, 1) := by decide +kernel
theorem d_law_483 : decode code 483 = .ok (.invokevirtual 64, 3) := by decide +kernel
theorem d_law_486 : decode code 486 = .ok (.iload 5, 2) := by decide +kernel
theorem d_law_488 : decode code 488 = .ok (.if_icmp .eq 5, 3) := by decide +kernel
theorem d_law_491 : decode code 491 = .ok (.iconst 0, 1) := by decide +kernel
theorem d_law_492 : decode code 492 = .ok (.ireturn, 1) := by decide +kernel
theorem d_law_493 : decode code 493 = .ok (.iload 5, 2) := by decide +kernel
theorem d_law_495 : decode code 495 = .ok (.ifCond .ne 15, 3) := by decide +kernel
theorem d_law_498 : decode code 498 = .ok (.aload_n 3, 1) := by decide +kernel
theorem d_law_499 : decode code 499 = .ok (.iconst 0, 1) := by decide +kernel
theorem d_law_500 : decode code 500 = .ok (.laload, 1) := by decide +kernel
theorem d_law_501 : decode code 501 = .ok (.iload 6, 2) := by decide +kernel
theorem d_law_503 : decode code 503 = .ok (.i2l, 1) := by decide +kernel
theorem d_law_504 : decode code 504 = .ok (.lcmp, 1) := by decide +kernel
theorem d_law_505 : decode code 505 = .ok (.ifCond .eq 5, 3) := by decide +kernel
theorem d_law_508 : decode code 508 = .ok (.iconst 0, 1) := by decide +kernel
theorem d_law_509 : decode code 509 = .ok (.ireturn, 1) := by decide +kernel
theorem d_law_510 : decode code 510 = .ok (.goto 312, 3) := by decide +kernel
theorem d_law_513 : decode code 513 = .ok (.aload_n 1, 1) := by decide +kernel
theorem d_law_514 : decode code 514 = .ok (.aload_n 0, 1) := by decide +kernel
theorem d_law_515 : decode code 515 = .ok (.iload 4, 2) := by decide +kernel
theorem d_law_517 : decode code 517 = .ok (.iconst 1, 1) := by decide +kernel
theorem d_law_518 : decode code 518 = .ok (.iadd, 1) := by decide +kernel
theorem d_law_519 : decode code 519 = .ok (.iaload, 1) := by decide +kernel
theorem d_law_520 : decode code 520 = .ok (.aload_n 0, 1) := by decide +kernel
theorem d_law_521 : decode code 521 = .ok (.iload 4, 2) := by decide +kernel
theorem d_law_523 : decode code 523 = .ok (.iconst 2, 1) := by decide +kernel
theorem d_law_524 : decode code 524 = .ok (.iadd, 1) := by decide +kernel
theorem d_law_525 : decode code 525 = .ok (.iaload, 1) := by decide +kernel
theorem d_law_526 : decode code 526 = .ok (.aload_n 3, 1) := by decide +kernel
theorem d_law_527 : decode code 527 = .ok (.invokestatic 88, 3) := by decide +kernel
theorem d_law_530 : decode code 530 = .ok (.istore 5, 2) := by decide +kernel
theorem d_law_532 : decode code 532 = .ok (.aload_n 2, 1) := by decide +kernel
theorem d_law_533 : decode code 533 = .ok (.aload_n 0, 1) := by decide +kernel
theorem d_law_534 : decode code 534 = .ok (.iload 4, 2) := by decide +kernel
theorem d_law_536 : decode code 536 = .ok (.iconst 1, 1) := by decide +kernel
theorem d_law_537 : decode code 537 = .ok (.iadd, 1) := by decide +kernel
theorem d_law_538 : decode code 538 = .ok (.iaload, 1) := by decide +kernel
theorem d_law_539 : decode code 539 = .ok (.aload_n 0, 1) := by decide +kernel
theorem d_law_540 : decode code 540 = .ok (.iload 4, 2) := by decide +kernel
theorem d_law_542 : decode code 542 = .ok (.iconst 2, 1) := by decide +kernel
theorem d_law_543 : decode code 543 = .ok (.iadd, 1) := by decide +kernel
theorem d_law_544 : decode code 544 = .ok (.iaload, 1) := by decide +kernel
theorem d_law_545 : decode code 545 = .ok (.invokevirtual 90, 3) := by decide +kernel
theorem d_law_548 : decode code 548 = .ok (.istore 6, 2) := by decide +kernel
theorem d_law_550 : decode code 550 = .ok (.aload_n 2, 1) := by decide +kernel
theorem d_law_551 : decode code 551 = .ok (.invokevirtual 64, 3) := by decide +kernel
theorem d_law_554 : decode code 554 = .ok (.iload 5, 2) := by decide +kernel
theorem d_law_556 : decode code 556 = .ok (.if_icmp .eq 5, 3) := by decide +kernel
theorem d_law_559 : decode code 559 = .ok (.iconst 0, 1) := by decide +kernel
theorem d_law_560 : decode code 560 = .ok (.ireturn, 1) := by decide +kernel
theorem d_law_561 : decode code 561 = .ok (.iload 5, 2) := by decide +kernel
theorem d_law_563 : decode code 563 = .ok (.ifCond .ne 15, 3) := by decide +kernel
theorem d_law_566 : decode code 566 = .ok (.aload_n 3, 1) := by decide +kernel
theorem d_law_567 : decode code 567 = .ok (.iconst 0, 1) := by decide +kernel
theorem d_law_568 : decode code 568 = .ok (.laload, 1) := by decide +kernel
theorem d_law_569 : decode code 569 = .ok (.iload 6, 2) := by decide +kernel
theorem d_law_571 : decode code 571 = .ok (.i2l, 1) := by decide +kernel
theorem d_law_572 : decode code 572 = .ok (.lcmp, 1) := by decide +kernel
theorem d_law_573 : decode code 573 = .ok (.ifCond .eq 5, 3) := by decide +kernel
theorem d_law_576 : decode code 576 = .ok (.iconst 0, 1) := by decide +kernel
theorem d_law_577 : decode code 577 = .ok (.ireturn, 1) := by decide +kernel
theorem d_law_578 : decode code 578 = .ok (.goto 244, 3) := by decide +kernel
theorem d_law_581 : decode code 581 = .ok (.aload_n 1, 1) := by decide +kernel
theorem d_law_582 : decode code 582 = .ok (.aload_n 0, 1) := by decide +kernel
theorem d_law_583 : decode code 583 = .ok (.iload 4, 2) := by decide +kernel
theorem d_law_585 : decode code 585 = .ok (.iconst 1, 1) := by decide +kernel
theorem d_law_586 : decode code 586 = .ok (.iadd, 1) := by decide +kernel
theorem d_law_587 : decode code 587 = .ok (.iaload, 1) := by decide +kernel
theorem d_law_588 : decode code 588 = .ok (.invokevirtual 91, 3) := by decide +kernel
theorem d_law_591 : decode code 591 = .ok (.aload_n 2, 1) := by decide +kernel
theorem d_law_592 : decode code 592 = .ok (.aload_n 0, 1) := by decide +kernel
theorem d_law_593 : decode code 593 = .ok (.iload 4, 2) := by decide +kernel
theorem d_law_595 : decode code 595 = .ok (.iconst 1, 1) := by decide +kernel
theorem d_law_596 : decode code 596 = .ok (.iadd, 1) := by decide +kernel
theorem d_law_597 : decode code 597 = .ok (.iaload, 1) := by decide +kernel
theorem d_law_598 : decode code 598 = .ok (.invokevirtual 94, 3) := by decide +kernel
theorem d_law_601 : decode code 601 = .ok (.if_icmp .eq 221, 3) := by decide +kernel
theorem d_law_604 : decode code 604 = .ok (.iconst 0, 1) := by decide +kernel
theorem d_law_605 : decode code 605 = .ok (.ireturn, 1) := by decide +kernel
theorem d_law_606 : decode code 606 = .ok (.aload_n 1, 1) := by decide +kernel
theorem d_law_607 : decode code 607 = .ok (.aload_n 0, 1) := by decide +kernel
theorem d_law_608 : decode code 608 = .ok (.iload 4, 2) := by decide +kernel
theorem d_law_610 : decode code 610 = .ok (.iconst 1, 1) := by decide +kernel
theorem d_law_611 : decode code 611 = .ok (.iadd, 1) := by decide +kernel
theorem d_law_612 : decode code 612 = .ok (.iaload, 1) := by decide +kernel
theorem d_law_613 : decode code 613 = .ok (.aload_n 0, 1) := by decide +kernel
theorem d_law_614 : decode code 614 = .ok (.iload 4, 2) := by decide +kernel
theorem d_law_616 : decode code 616 = .ok (.iconst 2, 1) := by decide +kernel
theorem d_law_617 : decode code 617 = .ok (.iadd, 1) := by decide +kernel
theorem d_law_618 : decode code 618 = .ok (.iaload, 1) := by decide +kernel
theorem d_law_619 : decode code 619 = .ok (.aload_n 3, 1) := by decide +kernel
theorem d_law_620 : decode code 620 = .ok (.invokestatic 95, 3) := by decide +kernel
theorem d_law_623 : decode code 623 = .ok (.istore 5, 2) := by decide +kernel
theorem d_law_625 : decode code 625 = .ok (.aload_n 2, 1) := by decide +kernel
theorem d_law_626 : decode code 626 = .ok (.aload_n 0, 1) := by decide +kernel
theorem d_law_627 : decode code 627 = .ok (.iload 4, 2) := by decide +kernel
theorem d_law_629 : decode code 629 = .ok (.iconst 1, 1) := by decide +kernel
theorem d_law_630 : decode code 630 = .ok (.iadd, 1) := by decide +kernel
theorem d_law_631 : decode code 631 = .ok (.iaload, 1) := by decide +kernel
theorem d_law_632 : decode code 632 = .ok (.aload_n 0, 1) := by decide +kernel
theorem d_law_633 : decode code 633 = .ok (.iload 4, 2) := by decide +kernel
theorem d_law_635 : decode code 635 = .ok (.iconst 2, 1) := by decide +kernel
theorem d_law_636 : decode code 636 = .ok (.iadd, 1) := by decide +kernel
theorem d_law_637 : decode code 637 = .ok (.iaload, 1) := by decide +kernel
theorem d_law_638 : decode code 638 = .ok (.invokevirtual 97, 3) := by decide +kernel
theorem d_law_641 : decode code 641 = .ok (.istore 6, 2) := by decide +kernel
theorem d_law_643 : decode code 643 = .ok (.aload_n 2, 1) := by decide +kernel
theorem d_law_644 : decode code 644 = .ok (.invokevirtual 64, 3) := by decide +kernel
theorem d_law_647 : decode code 647 = .ok (.iload 5, 2) := by decide +kernel
theorem d_law_649 : decode code 649 = .ok (.if_icmp .eq 5, 3) := by decide +kernel
theorem d_law_652 : decode code 652 = .ok (.iconst 0, 1) := by decide +kernel
theorem d_law_653 : decode code 653 = .ok (.ireturn, 1) := by decide +kernel
theorem d_law_654 : decode code 654 = .ok (.iload 5, 2) := by decide +kernel
theorem d_law_656 : decode code 656 = .ok (.ifCond .ne 15, 3) := by decide +kernel
theorem d_law_659 : decode code 659 = .ok (.aload_n 3, 1) := by decide +kernel
theorem d_law_660 : decode code 660 = .ok (.iconst 0, 1) := by decide +kernel
theorem d_law_661 : decode code 661 = .ok (.laload, 1) := by decide +kernel
theorem d_law_662 : decode code 662 = .ok (.iload 6, 2) := by decide +kernel
theorem d_law_664 : decode code 664 = .ok (.i2l, 1) := by decide +kernel
theorem d_law_665 : decode code 665 = .ok (.lcmp, 1) := by decide +kernel
theorem d_law_666 : decode code 666 = .ok (.ifCond .eq 5, 3) := by decide +kernel
theorem d_law_669 : decode code 669 = .ok (.iconst 0, 1) := by decide +kernel
theorem d_law_670 : decode code 670 = .ok (.ireturn, 1) := by decide +kernel
theorem d_law_671 : decode code 671 = .ok (.goto 151, 3) := by decide +kernel
theorem d_law_674 : decode code 674 = .ok (.aload_n 1, 1) := by decide +kernel
theorem d_law_675 : decode code 675 = .ok (.aload_n 0, 1) := by decide +kernel
theorem d_law_676 : decode code 676 = .ok (.iload 4, 2) := by decide +kernel
theorem d_law_678 : decode code 678 = .ok (.iconst 1, 1) := by decide +kernel
theorem d_law_679 : decode code 679 = .ok (.iadd, 1) := by decide +kernel
theorem d_law_680 : decode code 680 = .ok (.iaload, 1) := by decide +kernel
theorem d_law_681 : decode code 681 = .ok (.aload_n 3, 1) := by decide +kernel
theorem d_law_682 : decode code 682 = .ok (.invokestatic 98, 3) := by decide +kernel
theorem d_law_685 : decode code 685 = .ok (.istore 5, 2) := by decide +kernel
theorem d_law_687 : decode code 687 = .ok (.aload_n 2, 1) := by decide +kernel
theorem d_law_688 : decode code 688 = .ok (.aload_n 0, 1) := by decide +kernel
theorem d_law_689 : decode code 689 = .ok (.iload 4, 2) := by decide +kernel
theorem d_law_691 : decode code 691 = .ok (.iconst 1, 1) := by decide +kernel
theorem d_law_692 : decode code 692 = .ok (.iadd, 1) := by decide +kernel
theorem d_law_693 : decode code 693 = .ok (.iaload, 1) := by decide +kernel
theorem d_law_694 : decode code 694 = .ok (.invokevirtual 100, 3) := by decide +kernel
theorem d_law_697 : decode code 697 = .ok (.lstore 6, 2) := by decide +kernel
theorem d_law_699 : decode code 699 = .ok (.aload_n 2, 1) := by decide +kernel
theorem d_law_700 : decode code 700 = .ok (.invokevirtual 64, 3) := by decide +kernel
theorem d_law_703 : decode code 703 = .ok (.iload 5, 2) := by decide +kernel
theorem d_law_705 : decode code 705 = .ok (.if_icmp .eq 5, 3) := by decide +kernel
theorem d_law_708 : decode code 708 = .ok (.iconst 0, 1) := by decide +kernel
theorem d_law_709 : decode code 709 = .ok (.ireturn, 1) := by decide +kernel
theorem d_law_710 : decode code 710 = .ok (.iload 5, 2) := by decide +kernel
theorem d_law_712 : decode code 712 = .ok (.ifCond .ne 14, 3) := by decide +kernel
theorem d_law_715 : decode code 715 = .ok (.aload_n 3, 1) := by decide +kernel
theorem d_law_716 : decode code 716 = .ok (.iconst 0, 1) := by decide +kernel
theorem d_law_717 : decode code 717 = .ok (.laload, 1) := by decide +kernel
theorem d_law_718 : decode code 718 = .ok (.lload 6, 2) := by decide +kernel
theorem d_law_720 : decode code 720 = .ok (.lcmp, 1) := by decide +kernel
theorem d_law_721 : decode code 721 = .ok (.ifCond .eq 5, 3) := by decide +kernel
theorem d_law_724 : decode code 724 = .ok (.iconst 0, 1) := by decide +kernel
theorem d_law_725 : decode code 725 = .ok (.ireturn, 1) := by decide +kernel
theorem d_law_726 : decode code 726 = .ok (.goto 96, 3) := by decide +kernel
theorem d_law_729 : decode code 729 = .ok (.aload_n 1, 1) := by decide +kernel
theorem d_law_730 : decode code 730 = .ok (.aload_n 0, 1) := by decide +kernel
theorem d_law_731 : decode code 731 = .ok (.iload 4, 2) := by decide +kernel
theorem d_law_733 : decode code 733 = .ok (.iconst 1, 1) := by decide +kernel
theorem d_law_734 : decode code 734 = .ok (.iadd, 1) := by decide +kernel
theorem d_law_735 : decode code 735 = .ok (.iaload, 1) := by decide +kernel
theorem d_law_736 : decode code 736 = .ok (.aload_n 0, 1) := by decide +kernel
theorem d_law_737 : decode code 737 = .ok (.iload 4, 2) := by decide +kernel
theorem d_law_739 : decode code 739 = .ok (.iconst 2, 1) := by decide +kernel
theorem d_law_740 : decode code 740 = .ok (.iadd, 1) := by decide +kernel
theorem d_law_741 : decode code 741 = .ok (.iaload, 1) := by decide +kernel
theorem d_law_742 : decode code 742 = .ok (.aload_n 3, 1) := by decide +kernel
theorem d_law_743 : decode code 743 = .ok (.invokestatic 101, 3) := by decide +kernel
theorem d_law_746 : decode code 746 = .ok (.istore 5, 2) := by decide +kernel
theorem d_law_748 : decode code 748 = .ok (.aload_n 2, 1) := by decide +kernel
theorem d_law_749 : decode code 749 = .ok (.aload_n 0, 1) := by decide +kernel
theorem d_law_750 : decode code 750 = .ok (.iload 4, 2) := by decide +kernel
theorem d_law_752 : decode code 752 = .ok (.iconst 1, 1) := by decide +kernel
theorem d_law_753 : decode code 753 = .ok (.iadd, 1) := by decide +kernel
theorem d_law_754 : decode code 754 = .ok (.iaload, 1) := by decide +kernel
theorem d_law_755 : decode code 755 = .ok (.aload_n 0, 1) := by decide +kernel
theorem d_law_756 : decode code 756 = .ok (.iload 4, 2) := by decide +kernel
theorem d_law_758 : decode code 758 = .ok (.iconst 2, 1) := by decide +kernel
theorem d_law_759 : decode code 759 = .ok (.iadd, 1) := by decide +kernel
theorem d_law_760 : decode code 760 = .ok (.iaload, 1) := by decide +kernel
theorem d_law_761 : decode code 761 = .ok (.invokevirtual 103, 3) := by decide +kernel
theorem d_law_764 : decode code 764 = .ok (.istore 6, 2) := by decide +kernel
theorem d_law_766 : decode code 766 = .ok (.aload_n 2, 1) := by decide +kernel
theorem d_law_767 : decode code 767 = .ok (.invokevirtual 64, 3) := by decide +kernel
theorem d_law_770 : decode code 770 = .ok (.iload 5, 2) := by decide +kernel
theorem d_law_772 : decode code 772 = .ok (.if_icmp .eq 5, 3) := by decide +kernel
theorem d_law_775 : decode code 775 = .ok (.iconst 0, 1) := by decide +kernel
theorem d_law_776 : decode code 776 = .ok (.ireturn, 1) := by decide +kernel
theorem d_law_777 : decode code 777 = .ok (.iload 5, 2) := by decide +kernel
theorem d_law_779 : decode code 779 = .ok (.ifCond .ne 15, 3) := by decide +kernel
theorem d_law_782 : decode code 782 = .ok (.aload_n 3, 1) := by decide +kernel
theorem d_law_783 : decode code 783 = .ok (.iconst 0, 1) := by decide +kernel
theorem d_law_784 : decode code 784 = .ok (.laload, 1) := by decide +kernel
theorem d_law_785 : decode code 785 = .ok (.iload 6, 2) := by decide +kernel
theorem d_law_787 : decode code 787 = .ok (.i2l, 1) := by decide +kernel
theorem d_law_788 : decode code 788 = .ok (.lcmp, 1) := by decide +kernel
theorem d_law_789 : decode code 789 = .ok (.ifCond .eq 5, 3) := by decide +kernel
theorem d_law_792 : decode code 792 = .ok (.iconst 0, 1) := by decide +kernel
theorem d_law_793 : decode code 793 = .ok (.ireturn, 1) := by decide +kernel
theorem d_law_794 : decode code 794 = .ok (.goto 28, 3) := by decide +kernel
theorem d_law_797 : decode code 797 = .ok (.aload_n 1, 1) := by decide +kernel
theorem d_law_798 : decode code 798 = .ok (.aload_n 0, 1) := by decide +kernel
theorem d_law_799 : decode code 799 = .ok (.iload 4, 2) := by decide +kernel
theorem d_law_801 : decode code 801 = .ok (.iconst 1, 1) := by decide +kernel
theorem d_law_802 : decode code 802 = .ok (.iadd, 1) := by decide +kernel
theorem d_law_803 : decode code 803 = .ok (.iaload, 1) := by decide +kernel
theorem d_law_804 : decode code 804 = .ok (.invokevirtual 104, 3) := by decide +kernel
theorem d_law_807 : decode code 807 = .ok (.aload_n 2, 1) := by decide +kernel
theorem d_law_808 : decode code 808 = .ok (.aload_n 0, 1) := by decide +kernel
theorem d_law_809 : decode code 809 = .ok (.iload 4, 2) := by decide +kernel
theorem d_law_811 : decode code 811 = .ok (.iconst 1, 1) := by decide +kernel
theorem d_law_812 : decode code 812 = .ok (.iadd, 1) := by decide +kernel
theorem d_law_813 : decode code 813 = .ok (.iaload, 1) := by decide +kernel
theorem d_law_814 : decode code 814 = .ok (.invokevirtual 107, 3) := by decide +kernel
theorem d_law_817 : decode code 817 = .ok (.if_icmp .eq 5, 3) := by decide +kernel
theorem d_law_820 : decode code 820 = .ok (.iconst 0, 1) := by decide +kernel
theorem d_law_821 : decode code 821 = .ok (.ireturn, 1) := by decide +kernel
theorem d_law_822 : decode code 822 = .ok (.iinc 4 3, 3) := by decide +kernel
theorem d_law_825 : decode code 825 = .ok (.goto (-792), 3) := by decide +kernel
theorem d_law_828 : decode code 828 = .ok (.iconst 1, 1) := by decide +kernel
theorem d_law_829 : decode code 829 = .ok (.ireturn, 1) := by decide +kernel
