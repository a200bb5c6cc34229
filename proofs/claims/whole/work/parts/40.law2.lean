def R_Lw : String := "PlaneNetLaw"
theorem wd_417 : (Cond.codeWith (⟨"PlaneNetLaw", "add", "(LPlaneNet;II[J)I"⟩ : MethodName) method_3_code 5 (Option.some .int) [(0, 10, 13, 13), (0, 10, 17, 15)]) ∈ TT := mem_TT (List.mem_of_getElem? (i := 417) (by decide +kernel)) (by decide +kernel)
theorem wd_418 : (Cond.classLink "PlaneNetLaw" 13 "java/lang/IllegalArgumentException") ∈ TT := mem_TT (List.mem_of_getElem? (i := 418) (by decide +kernel)) (by decide +kernel)
theorem wd_419 : (Cond.classLink "PlaneNetLaw" 15 "java/lang/IllegalStateException") ∈ TT := mem_TT (List.mem_of_getElem? (i := 419) (by decide +kernel)) (by decide +kernel)
theorem wd_420 : (Cond.methodLink "PlaneNetLaw" 7 (⟨"PlaneNet", "add", "(II)I"⟩ : MethodName)) ∈ TT := mem_TT (List.mem_of_getElem? (i := 420) (by decide +kernel)) (by decide +kernel)
theorem wd_421 : (Cond.instanceMethod (⟨"PlaneNet", "add", "(II)I"⟩ : MethodName)) ∈ TT := mem_TT (List.mem_of_getElem? (i := 421) (by decide +kernel)) (by decide +kernel)
theorem wd_422 : (Cond.selects "PlaneNet" (⟨"PlaneNet", "add", "(II)I"⟩ : MethodName) (⟨"PlaneNet", "add", "(II)I"⟩ : MethodName)) ∈ TT := mem_TT (List.mem_of_getElem? (i := 422) (by decide +kernel)) (by decide +kernel)
theorem wd_653 : (Cond.codeWith (⟨"PlaneNetLaw", "find", "(LPlaneNet;II[J)I"⟩ : MethodName) method_4_code 5 (Option.some .int) [(0, 10, 13, 13)]) ∈ TT := mem_TT (List.mem_of_getElem? (i := 653) (by decide +kernel)) (by decide +kernel)
theorem wd_654 : (Cond.methodLink "PlaneNetLaw" 17 (⟨"PlaneNet", "find", "(II)I"⟩ : MethodName)) ∈ TT := mem_TT (List.mem_of_getElem? (i := 654) (by decide +kernel)) (by decide +kernel)
theorem wd_655 : (Cond.instanceMethod (⟨"PlaneNet", "find", "(II)I"⟩ : MethodName)) ∈ TT := mem_TT (List.mem_of_getElem? (i := 655) (by decide +kernel)) (by decide +kernel)
theorem wd_656 : (Cond.selects "PlaneNet" (⟨"PlaneNet", "find", "(II)I"⟩ : MethodName) (⟨"PlaneNet", "find", "(II)I"⟩ : MethodName)) ∈ TT := mem_TT (List.mem_of_getElem? (i := 656) (by decide +kernel)) (by decide +kernel)
theorem wd_660 : (Cond.codeWith (⟨"PlaneNetLaw", "triangle", "(LPlaneNet;II[J)I"⟩ : MethodName) method_5_code 5 (Option.some .int) [(0, 10, 13, 23)]) ∈ TT := mem_TT (List.mem_of_getElem? (i := 660) (by decide +kernel)) (by decide +kernel)
theorem wd_661 : (Cond.classLink "PlaneNetLaw" 23 "java/lang/IndexOutOfBoundsException") ∈ TT := mem_TT (List.mem_of_getElem? (i := 661) (by decide +kernel)) (by decide +kernel)
theorem wd_662 : (Cond.methodLink "PlaneNetLaw" 20 (⟨"PlaneNet", "triangle", "(II)I"⟩ : MethodName)) ∈ TT := mem_TT (List.mem_of_getElem? (i := 662) (by decide +kernel)) (by decide +kernel)
theorem wd_663 : (Cond.instanceMethod (⟨"PlaneNet", "triangle", "(II)I"⟩ : MethodName)) ∈ TT := mem_TT (List.mem_of_getElem? (i := 663) (by decide +kernel)) (by decide +kernel)
theorem wd_664 : (Cond.selects "PlaneNet" (⟨"PlaneNet", "triangle", "(II)I"⟩ : MethodName) (⟨"PlaneNet", "triangle", "(II)I"⟩ : MethodName)) ∈ TT := mem_TT (List.mem_of_getElem? (i := 664) (by decide +kernel)) (by decide +kernel)
theorem wd_715 : (Cond.codeWith (⟨"PlaneNetLaw", "neighbours", "(LPlaneNet;I[J)I"⟩ : MethodName) method_6_code 4 (Option.some .int) [(0, 9, 12, 23)]) ∈ TT := mem_TT (List.mem_of_getElem? (i := 715) (by decide +kernel)) (by decide +kernel)
theorem wd_716 : (Cond.methodLink "PlaneNetLaw" 25 (⟨"PlaneNet", "neighbours", "(I)I"⟩ : MethodName)) ∈ TT := mem_TT (List.mem_of_getElem? (i := 716) (by decide +kernel)) (by decide +kernel)
theorem wd_717 : (Cond.instanceMethod (⟨"PlaneNet", "neighbours", "(I)I"⟩ : MethodName)) ∈ TT := mem_TT (List.mem_of_getElem? (i := 717) (by decide +kernel)) (by decide +kernel)
theorem wd_718 : (Cond.selects "PlaneNet" (⟨"PlaneNet", "neighbours", "(I)I"⟩ : MethodName) (⟨"PlaneNet", "neighbours", "(I)I"⟩ : MethodName)) ∈ TT := mem_TT (List.mem_of_getElem? (i := 718) (by decide +kernel)) (by decide +kernel)
theorem wd_737 : (Cond.codeWith (⟨"PlaneNetLaw", "neighbour", "(LPlaneNet;II[J)I"⟩ : MethodName) method_7_code 5 (Option.some .int) [(0, 10, 13, 23)]) ∈ TT := mem_TT (List.mem_of_getElem? (i := 737) (by decide +kernel)) (by decide +kernel)
theorem wd_738 : (Cond.methodLink "PlaneNetLaw" 29 (⟨"PlaneNet", "neighbour", "(II)I"⟩ : MethodName)) ∈ TT := mem_TT (List.mem_of_getElem? (i := 738) (by decide +kernel)) (by decide +kernel)
theorem wd_739 : (Cond.instanceMethod (⟨"PlaneNet", "neighbour", "(II)I"⟩ : MethodName)) ∈ TT := mem_TT (List.mem_of_getElem? (i := 739) (by decide +kernel)) (by decide +kernel)
theorem wd_740 : (Cond.selects "PlaneNet" (⟨"PlaneNet", "neighbour", "(II)I"⟩ : MethodName) (⟨"PlaneNet", "neighbour", "(II)I"⟩ : MethodName)) ∈ TT := mem_TT (List.mem_of_getElem? (i := 740) (by decide +kernel)) (by decide +kernel)
theorem wd_757 : (Cond.codeWith (⟨"PlaneNetLaw", "corner", "(LPlaneNet;I[J)I"⟩ : MethodName) method_8_code 4 (Option.some .int) [(0, 9, 12, 23)]) ∈ TT := mem_TT (List.mem_of_getElem? (i := 757) (by decide +kernel)) (by decide +kernel)
theorem wd_758 : (Cond.methodLink "PlaneNetLaw" 32 (⟨"PlaneNet", "corner", "(I)I"⟩ : MethodName)) ∈ TT := mem_TT (List.mem_of_getElem? (i := 758) (by decide +kernel)) (by decide +kernel)
theorem wd_759 : (Cond.instanceMethod (⟨"PlaneNet", "corner", "(I)I"⟩ : MethodName)) ∈ TT := mem_TT (List.mem_of_getElem? (i := 759) (by decide +kernel)) (by decide +kernel)
theorem wd_760 : (Cond.selects "PlaneNet" (⟨"PlaneNet", "corner", "(I)I"⟩ : MethodName) (⟨"PlaneNet", "corner", "(I)I"⟩ : MethodName)) ∈ TT := mem_TT (List.mem_of_getElem? (i := 760) (by decide +kernel)) (by decide +kernel)
theorem wd_770 : (Cond.codeWith (⟨"PlaneNetLaw", "locate", "(LPlaneNet;II[J)I"⟩ : MethodName) method_9_code 5 (Option.some .int) [(0, 10, 13, 13)]) ∈ TT := mem_TT (List.mem_of_getElem? (i := 770) (by decide +kernel)) (by decide +kernel)
theorem wd_771 : (Cond.methodLink "PlaneNetLaw" 35 (⟨"PlaneNet", "locate", "(II)I"⟩ : MethodName)) ∈ TT := mem_TT (List.mem_of_getElem? (i := 771) (by decide +kernel)) (by decide +kernel)
theorem wd_772 : (Cond.instanceMethod (⟨"PlaneNet", "locate", "(II)I"⟩ : MethodName)) ∈ TT := mem_TT (List.mem_of_getElem? (i := 772) (by decide +kernel)) (by decide +kernel)
theorem wd_773 : (Cond.selects "PlaneNet" (⟨"PlaneNet", "locate", "(II)I"⟩ : MethodName) (⟨"PlaneNet", "locate", "(II)I"⟩ : MethodName)) ∈ TT := mem_TT (List.mem_of_getElem? (i := 773) (by decide +kernel)) (by decide +kernel)
theorem wd_793 : (Cond.codeWith (⟨"PlaneNetLaw", "nearest", "(LPlaneNet;II[J)I"⟩ : MethodName) method_10_code 5 (Option.some .int) [(0, 10, 13, 13), (0, 10, 17, 15)]) ∈ TT := mem_TT (List.mem_of_getElem? (i := 793) (by decide +kernel)) (by decide +kernel)
theorem wd_794 : (Cond.methodLink "PlaneNetLaw" 38 (⟨"PlaneNet", "nearest", "(II)I"⟩ : MethodName)) ∈ TT := mem_TT (List.mem_of_getElem? (i := 794) (by decide +kernel)) (by decide +kernel)
theorem wd_795 : (Cond.instanceMethod (⟨"PlaneNet", "nearest", "(II)I"⟩ : MethodName)) ∈ TT := mem_TT (List.mem_of_getElem? (i := 795) (by decide +kernel)) (by decide +kernel)
theorem wd_796 : (Cond.selects "PlaneNet" (⟨"PlaneNet", "nearest", "(II)I"⟩ : MethodName) (⟨"PlaneNet", "nearest", "(II)I"⟩ : MethodName)) ∈ TT := mem_TT (List.mem_of_getElem? (i := 796) (by decide +kernel)) (by decide +kernel)
theorem wd_801 : (Cond.codeWith (⟨"PlaneNetLaw", "closest", "(LPlaneNet;I[J)I"⟩ : MethodName) method_11_code 4 (Option.some .int) [(0, 8, 11, 23), (0, 8, 14, 15)]) ∈ TT := mem_TT (List.mem_of_getElem? (i := 801) (by decide +kernel)) (by decide +kernel)
theorem wd_802 : (Cond.methodLink "PlaneNetLaw" 41 (⟨"PlaneNet", "closest", "(I)J"⟩ : MethodName)) ∈ TT := mem_TT (List.mem_of_getElem? (i := 802) (by decide +kernel)) (by decide +kernel)
theorem wd_803 : (Cond.instanceMethod (⟨"PlaneNet", "closest", "(I)J"⟩ : MethodName)) ∈ TT := mem_TT (List.mem_of_getElem? (i := 803) (by decide +kernel)) (by decide +kernel)
theorem wd_804 : (Cond.selects "PlaneNet" (⟨"PlaneNet", "closest", "(I)J"⟩ : MethodName) (⟨"PlaneNet", "closest", "(I)J"⟩ : MethodName)) ∈ TT := mem_TT (List.mem_of_getElem? (i := 804) (by decide +kernel)) (by decide +kernel)
theorem wd_810 : (Cond.codeWith (⟨"PlaneNetLaw", "point", "(LPlaneNet;II[J)I"⟩ : MethodName) method_12_code 5 (Option.some .int) [(0, 10, 13, 23)]) ∈ TT := mem_TT (List.mem_of_getElem? (i := 810) (by decide +kernel)) (by decide +kernel)
theorem wd_811 : (Cond.methodLink "PlaneNetLaw" 45 (⟨"PlaneNet", "point", "(II)I"⟩ : MethodName)) ∈ TT := mem_TT (List.mem_of_getElem? (i := 811) (by decide +kernel)) (by decide +kernel)
theorem wd_812 : (Cond.instanceMethod (⟨"PlaneNet", "point", "(II)I"⟩ : MethodName)) ∈ TT := mem_TT (List.mem_of_getElem? (i := 812) (by decide +kernel)) (by decide +kernel)
theorem wd_813 : (Cond.selects "PlaneNet" (⟨"PlaneNet", "point", "(II)I"⟩ : MethodName) (⟨"PlaneNet", "point", "(II)I"⟩ : MethodName)) ∈ TT := mem_TT (List.mem_of_getElem? (i := 813) (by decide +kernel)) (by decide +kernel)
abbrev b_Lw_add : ByteArray := method_3_code
def y_Lw_add : MethodName := ⟨R_Lw, "add", "(LPlaneNet;II[J)I"⟩
def w_Lw_add : List Cond := .codeWith y_Lw_add b_Lw_add 5 (some .int) [(0, 10, 13, 13), (0, 10, 17, 15)] :: TT
def rm_Lw_add : Room := { frames := 8, cells := 12, slots := 384, locals := 179 }
theorem gd_Lw_add {h : Cond} : GoodIn (h :: TT) w_Lw_add := gd_of wd_417
theorem dd_Lw_add : y_Lw_add.cls ≠ "java/lang/invoke/MethodHandle" ∧ y_Lw_add.cls ≠ "java/lang/invoke/VarHandle" ∧ (parseMethodDescriptor y_Lw_add.desc).map (fun d => d.parameters.length) = some 4 := ⟨by decide +kernel, by decide +kernel, by decide +kernel⟩
abbrev b_Lw_find : ByteArray := method_4_code
def y_Lw_find : MethodName := ⟨R_Lw, "find", "(LPlaneNet;II[J)I"⟩
def w_Lw_find : List Cond := .codeWith y_Lw_find b_Lw_find 5 (some .int) [(0, 10, 13, 13)] :: TT
def rm_Lw_find : Room := { frames := 8, cells := 1, slots := 6, locals := 144 }
theorem gd_Lw_find {h : Cond} : GoodIn (h :: TT) w_Lw_find := gd_of wd_653
theorem dd_Lw_find : y_Lw_find.cls ≠ "java/lang/invoke/MethodHandle" ∧ y_Lw_find.cls ≠ "java/lang/invoke/VarHandle" ∧ (parseMethodDescriptor y_Lw_find.desc).map (fun d => d.parameters.length) = some 4 := ⟨by decide +kernel, by decide +kernel, by decide +kernel⟩
abbrev b_Lw_triangle : ByteArray := method_5_code
def y_Lw_triangle : MethodName := ⟨R_Lw, "triangle", "(LPlaneNet;II[J)I"⟩
def w_Lw_triangle : List Cond := .codeWith y_Lw_triangle b_Lw_triangle 5 (some .int) [(0, 10, 13, 23)] :: TT
def rm_Lw_triangle : Room := { frames := 7, cells := 1, slots := 6, locals := 154 }
theorem gd_Lw_triangle {h : Cond} : GoodIn (h :: TT) w_Lw_triangle := gd_of wd_660
theorem dd_Lw_triangle : y_Lw_triangle.cls ≠ "java/lang/invoke/MethodHandle" ∧ y_Lw_triangle.cls ≠ "java/lang/invoke/VarHandle" ∧ (parseMethodDescriptor y_Lw_triangle.desc).map (fun d => d.parameters.length) = some 4 := ⟨by decide +kernel, by decide +kernel, by decide +kernel⟩
abbrev b_Lw_neighbours : ByteArray := method_6_code
def y_Lw_neighbours : MethodName := ⟨R_Lw, "neighbours", "(LPlaneNet;I[J)I"⟩
def w_Lw_neighbours : List Cond := .codeWith y_Lw_neighbours b_Lw_neighbours 4 (some .int) [(0, 9, 12, 23)] :: TT
def rm_Lw_neighbours : Room := { frames := 8, cells := 1, slots := 6, locals := 142 }
theorem gd_Lw_neighbours {h : Cond} : GoodIn (h :: TT) w_Lw_neighbours := gd_of wd_715
theorem dd_Lw_neighbours : y_Lw_neighbours.cls ≠ "java/lang/invoke/MethodHandle" ∧ y_Lw_neighbours.cls ≠ "java/lang/invoke/VarHandle" ∧ (parseMethodDescriptor y_Lw_neighbours.desc).map (fun d => d.parameters.length) = some 3 := ⟨by decide +kernel, by decide +kernel, by decide +kernel⟩
abbrev b_Lw_neighbour : ByteArray := method_7_code
def y_Lw_neighbour : MethodName := ⟨R_Lw, "neighbour", "(LPlaneNet;II[J)I"⟩
def w_Lw_neighbour : List Cond := .codeWith y_Lw_neighbour b_Lw_neighbour 5 (some .int) [(0, 10, 13, 23)] :: TT
def rm_Lw_neighbour : Room := { frames := 8, cells := 1, slots := 6, locals := 143 }
theorem gd_Lw_neighbour {h : Cond} : GoodIn (h :: TT) w_Lw_neighbour := gd_of wd_737
theorem dd_Lw_neighbour : y_Lw_neighbour.cls ≠ "java/lang/invoke/MethodHandle" ∧ y_Lw_neighbour.cls ≠ "java/lang/invoke/VarHandle" ∧ (parseMethodDescriptor y_Lw_neighbour.desc).map (fun d => d.parameters.length) = some 4 := ⟨by decide +kernel, by decide +kernel, by decide +kernel⟩
abbrev b_Lw_corner : ByteArray := method_8_code
def y_Lw_corner : MethodName := ⟨R_Lw, "corner", "(LPlaneNet;I[J)I"⟩
def w_Lw_corner : List Cond := .codeWith y_Lw_corner b_Lw_corner 4 (some .int) [(0, 9, 12, 23)] :: TT
def rm_Lw_corner : Room := { frames := 7, cells := 1, slots := 6, locals := 166 }
theorem gd_Lw_corner {h : Cond} : GoodIn (h :: TT) w_Lw_corner := gd_of wd_757
theorem dd_Lw_corner : y_Lw_corner.cls ≠ "java/lang/invoke/MethodHandle" ∧ y_Lw_corner.cls ≠ "java/lang/invoke/VarHandle" ∧ (parseMethodDescriptor y_Lw_corner.desc).map (fun d => d.parameters.length) = some 3 := ⟨by decide +kernel, by decide +kernel, by decide +kernel⟩
abbrev b_Lw_locate : ByteArray := method_9_code
def y_Lw_locate : MethodName := ⟨R_Lw, "locate", "(LPlaneNet;II[J)I"⟩
def w_Lw_locate : List Cond := .codeWith y_Lw_locate b_Lw_locate 5 (some .int) [(0, 10, 13, 13)] :: TT
def rm_Lw_locate : Room := { frames := 8, cells := 1, slots := 6, locals := 155 }
theorem gd_Lw_locate {h : Cond} : GoodIn (h :: TT) w_Lw_locate := gd_of wd_770
theorem dd_Lw_locate : y_Lw_locate.cls ≠ "java/lang/invoke/MethodHandle" ∧ y_Lw_locate.cls ≠ "java/lang/invoke/VarHandle" ∧ (parseMethodDescriptor y_Lw_locate.desc).map (fun d => d.parameters.length) = some 4 := ⟨by decide +kernel, by decide +kernel, by decide +kernel⟩
abbrev b_Lw_nearest : ByteArray := method_10_code
def y_Lw_nearest : MethodName := ⟨R_Lw, "nearest", "(LPlaneNet;II[J)I"⟩
def w_Lw_nearest : List Cond := .codeWith y_Lw_nearest b_Lw_nearest 5 (some .int) [(0, 10, 13, 13), (0, 10, 17, 15)] :: TT
def rm_Lw_nearest : Room := { frames := 8, cells := 1, slots := 6, locals := 143 }
theorem gd_Lw_nearest {h : Cond} : GoodIn (h :: TT) w_Lw_nearest := gd_of wd_793
theorem dd_Lw_nearest : y_Lw_nearest.cls ≠ "java/lang/invoke/MethodHandle" ∧ y_Lw_nearest.cls ≠ "java/lang/invoke/VarHandle" ∧ (parseMethodDescriptor y_Lw_nearest.desc).map (fun d => d.parameters.length) = some 4 := ⟨by decide +kernel, by decide +kernel, by decide +kernel⟩
abbrev b_Lw_closest : ByteArray := method_11_code
def y_Lw_closest : MethodName := ⟨R_Lw, "closest", "(LPlaneNet;I[J)I"⟩
def w_Lw_closest : List Cond := .codeWith y_Lw_closest b_Lw_closest 4 (some .int) [(0, 8, 11, 23), (0, 8, 14, 15)] :: TT
def rm_Lw_closest : Room := { frames := 7, cells := 1, slots := 6, locals := 121 }
theorem gd_Lw_closest {h : Cond} : GoodIn (h :: TT) w_Lw_closest := gd_of wd_801
theorem dd_Lw_closest : y_Lw_closest.cls ≠ "java/lang/invoke/MethodHandle" ∧ y_Lw_closest.cls ≠ "java/lang/invoke/VarHandle" ∧ (parseMethodDescriptor y_Lw_closest.desc).map (fun d => d.parameters.length) = some 3 := ⟨by decide +kernel, by decide +kernel, by decide +kernel⟩
abbrev b_Lw_point : ByteArray := method_12_code
def y_Lw_point : MethodName := ⟨R_Lw, "point", "(LPlaneNet;II[J)I"⟩
def w_Lw_point : List Cond := .codeWith y_Lw_point b_Lw_point 5 (some .int) [(0, 10, 13, 23)] :: TT
def rm_Lw_point : Room := { frames := 8, cells := 1, slots := 6, locals := 143 }
theorem gd_Lw_point {h : Cond} : GoodIn (h :: TT) w_Lw_point := gd_of wd_810
theorem dd_Lw_point : y_Lw_point.cls ≠ "java/lang/invoke/MethodHandle" ∧ y_Lw_point.cls ≠ "java/lang/invoke/VarHandle" ∧ (parseMethodDescriptor y_Lw_point.desc).map (fun d => d.parameters.length) = some 4 := ⟨by decide +kernel, by decide +kernel, by decide +kernel⟩
theorem d_Lw_add_0 : decode b_Lw_add 0 = .ok (.aload_n 3, 1) := by decide +kernel
theorem d_Lw_add_1 : decode b_Lw_add 1 = .ok (.iconst 0, 1) := by decide +kernel
theorem d_Lw_add_2 : decode b_Lw_add 2 = .ok (.aload_n 0, 1) := by decide +kernel
theorem d_Lw_add_3 : decode b_Lw_add 3 = .ok (.iload_n 1, 1) := by decide +kernel
theorem d_Lw_add_4 : decode b_Lw_add 4 = .ok (.iload_n 2, 1) := by decide +kernel
theorem d_Lw_add_5 : decode b_Lw_add 5 = .ok (.invokevirtual 7, 3) := by decide +kernel
theorem d_Lw_add_8 : decode b_Lw_add 8 = .ok (.i2l, 1) := by decide +kernel
theorem d_Lw_add_9 : decode b_Lw_add 9 = .ok (.lastore, 1) := by decide +kernel
theorem d_Lw_add_10 : decode b_Lw_add 10 = .ok (.goto 11, 3) := by decide +kernel
theorem d_Lw_add_13 : decode b_Lw_add 13 = .ok (.astore 4, 2) := by decide +kernel
theorem d_Lw_add_15 : decode b_Lw_add 15 = .ok (.iconst 1, 1) := by decide +kernel
theorem d_Lw_add_16 : decode b_Lw_add 16 = .ok (.ireturn, 1) := by decide +kernel
theorem d_Lw_add_17 : decode b_Lw_add 17 = .ok (.astore 4, 2) := by decide +kernel
theorem d_Lw_add_19 : decode b_Lw_add 19 = .ok (.iconst 2, 1) := by decide +kernel
theorem d_Lw_add_20 : decode b_Lw_add 20 = .ok (.ireturn, 1) := by decide +kernel
theorem d_Lw_add_21 : decode b_Lw_add 21 = .ok (.iconst 0, 1) := by decide +kernel
theorem d_Lw_add_22 : decode b_Lw_add 22 = .ok (.ireturn, 1) := by decide +kernel
theorem d_Lw_find_0 : decode b_Lw_find 0 = .ok (.aload_n 3, 1) := by decide +kernel
theorem d_Lw_find_1 : decode b_Lw_find 1 = .ok (.iconst 0, 1) := by decide +kernel
theorem d_Lw_find_2 : decode b_Lw_find 2 = .ok (.aload_n 0, 1) := by decide +kernel
theorem d_Lw_find_3 : decode b_Lw_find 3 = .ok (.iload_n 1, 1) := by decide +kernel
theorem d_Lw_find_4 : decode b_Lw_find 4 = .ok (.iload_n 2, 1) := by decide +kernel
theorem d_Lw_find_5 : decode b_Lw_find 5 = .ok (.invokevirtual 17, 3) := by decide +kernel
theorem d_Lw_find_8 : decode b_Lw_find 8 = .ok (.i2l, 1) := by decide +kernel
theorem d_Lw_find_9 : decode b_Lw_find 9 = .ok (.lastore, 1) := by decide +kernel
theorem d_Lw_find_10 : decode b_Lw_find 10 = .ok (.goto 7, 3) := by decide +kernel
theorem d_Lw_find_13 : decode b_Lw_find 13 = .ok (.astore 4, 2) := by decide +kernel
theorem d_Lw_find_15 : decode b_Lw_find 15 = .ok (.iconst 1, 1) := by decide +kernel
theorem d_Lw_find_16 : decode b_Lw_find 16 = .ok (.ireturn, 1) := by decide +kernel
theorem d_Lw_find_17 : decode b_Lw_find 17 = .ok (.iconst 0, 1) := by decide +kernel
theorem d_Lw_find_18 : decode b_Lw_find 18 = .ok (.ireturn, 1) := by decide +kernel
theorem d_Lw_triangle_0 : decode b_Lw_triangle 0 = .ok (.aload_n 3, 1) := by decide +kernel
theorem d_Lw_triangle_1 : decode b_Lw_triangle 1 = .ok (.iconst 0, 1) := by decide +kernel
theorem d_Lw_triangle_2 : decode b_Lw_triangle 2 = .ok (.aload_n 0, 1) := by decide +kernel
theorem d_Lw_triangle_3 : decode b_Lw_triangle 3 = .ok (.iload_n 1, 1) := by decide +kernel
theorem d_Lw_triangle_4 : decode b_Lw_triangle 4 = .ok (.iload_n 2, 1) := by decide +kernel
theorem d_Lw_triangle_5 : decode b_Lw_triangle 5 = .ok (.invokevirtual 20, 3) := by decide +kernel
theorem d_Lw_triangle_8 : decode b_Lw_triangle 8 = .ok (.i2l, 1) := by decide +kernel
theorem d_Lw_triangle_9 : decode b_Lw_triangle 9 = .ok (.lastore, 1) := by decide +kernel
theorem d_Lw_triangle_10 : decode b_Lw_triangle 10 = .ok (.goto 7, 3) := by decide +kernel
theorem d_Lw_triangle_13 : decode b_Lw_triangle 13 = .ok (.astore 4, 2) := by decide +kernel
theorem d_Lw_triangle_15 : decode b_Lw_triangle 15 = .ok (.iconst 1, 1) := by decide +kernel
theorem d_Lw_triangle_16 : decode b_Lw_triangle 16 = .ok (.ireturn, 1) := by decide +kernel
theorem d_Lw_triangle_17 : decode b_Lw_triangle 17 = .ok (.iconst 0, 1) := by decide +kernel
theorem d_Lw_triangle_18 : decode b_Lw_triangle 18 = .ok (.ireturn, 1) := by decide +kernel
theorem d_Lw_neighbours_0 : decode b_Lw_neighbours 0 = .ok (.aload_n 2, 1) := by decide +kernel
theorem d_Lw_neighbours_1 : decode b_Lw_neighbours 1 = .ok (.iconst 0, 1) := by decide +kernel
theorem d_Lw_neighbours_2 : decode b_Lw_neighbours 2 = .ok (.aload_n 0, 1) := by decide +kernel
theorem d_Lw_neighbours_3 : decode b_Lw_neighbours 3 = .ok (.iload_n 1, 1) := by decide +kernel
theorem d_Lw_neighbours_4 : decode b_Lw_neighbours 4 = .ok (.invokevirtual 25, 3) := by decide +kernel
theorem d_Lw_neighbours_7 : decode b_Lw_neighbours 7 = .ok (.i2l, 1) := by decide +kernel
theorem d_Lw_neighbours_8 : decode b_Lw_neighbours 8 = .ok (.lastore, 1) := by decide +kernel
theorem d_Lw_neighbours_9 : decode b_Lw_neighbours 9 = .ok (.goto 6, 3) := by decide +kernel
theorem d_Lw_neighbours_12 : decode b_Lw_neighbours 12 = .ok (.astore_n 3, 1) := by decide +kernel
theorem d_Lw_neighbours_13 : decode b_Lw_neighbours 13 = .ok (.iconst 1, 1) := by decide +kernel
theorem d_Lw_neighbours_14 : decode b_Lw_neighbours 14 = .ok (.ireturn, 1) := by decide +kernel
theorem d_Lw_neighbours_15 : decode b_Lw_neighbours 15 = .ok (.iconst 0, 1) := by decide +kernel
theorem d_Lw_neighbours_16 : decode b_Lw_neighbours 16 = .ok (.ireturn, 1) := by decide +kernel
theorem d_Lw_neighbour_0 : decode b_Lw_neighbour 0 = .ok (.aload_n 3, 1) := by decide +kernel
theorem d_Lw_neighbour_1 : decode b_Lw_neighbour 1 = .ok (.iconst 0, 1) := by decide +kernel
theorem d_Lw_neighbour_2 : decode b_Lw_neighbour 2 = .ok (.aload_n 0, 1) := by decide +kernel
theorem d_Lw_neighbour_3 : decode b_Lw_neighbour 3 = .ok (.iload_n 1, 1) := by decide +kernel
theorem d_Lw_neighbour_4 : decode b_Lw_neighbour 4 = .ok (.iload_n 2, 1) := by decide +kernel
theorem d_Lw_neighbour_5 : decode b_Lw_neighbour 5 = .ok (.invokevirtual 29, 3) := by decide +kernel
theorem d_Lw_neighbour_8 : decode b_Lw_neighbour 8 = .ok (.i2l, 1) := by decide +kernel
theorem d_Lw_neighbour_9 : decode b_Lw_neighbour 9 = .ok (.lastore, 1) := by decide +kernel
theorem d_Lw_neighbour_10 : decode b_Lw_neighbour 10 = .ok (.goto 7, 3) := by decide +kernel
theorem d_Lw_neighbour_13 : decode b_Lw_neighbour 13 = .ok (.astore 4, 2) := by decide +kernel
theorem d_Lw_neighbour_15 : decode b_Lw_neighbour 15 = .ok (.iconst 1, 1) := by decide +kernel
theorem d_Lw_neighbour_16 : decode b_Lw_neighbour 16 = .ok (.ireturn, 1) := by decide +kernel
theorem d_Lw_neighbour_17 : decode b_Lw_neighbour 17 = .ok (.iconst 0, 1) := by decide +kernel
theorem d_Lw_neighbour_18 : decode b_Lw_neighbour 18 = .ok (.ireturn, 1) := by decide +kernel
theorem d_Lw_corner_0 : decode b_Lw_corner 0 = .ok (.aload_n 2, 1) := by decide +kernel
theorem d_Lw_corner_1 : decode b_Lw_corner 1 = .ok (.iconst 0, 1) := by decide +kernel
theorem d_Lw_corner_2 : decode b_Lw_corner 2 = .ok (.aload_n 0, 1) := by decide +kernel
theorem d_Lw_corner_3 : decode b_Lw_corner 3 = .ok (.iload_n 1, 1) := by decide +kernel
theorem d_Lw_corner_4 : decode b_Lw_corner 4 = .ok (.invokevirtual 32, 3) := by decide +kernel
theorem d_Lw_corner_7 : decode b_Lw_corner 7 = .ok (.i2l, 1) := by decide +kernel
theorem d_Lw_corner_8 : decode b_Lw_corner 8 = .ok (.lastore, 1) := by decide +kernel
theorem d_Lw_corner_9 : decode b_Lw_corner 9 = .ok (.goto 6, 3) := by decide +kernel
theorem d_Lw_corner_12 : decode b_Lw_corner 12 = .ok (.astore_n 3, 1) := by decide +kernel
theorem d_Lw_corner_13 : decode b_Lw_corner 13 = .ok (.iconst 1, 1) := by decide +kernel
theorem d_Lw_corner_14 : decode b_Lw_corner 14 = .ok (.ireturn, 1) := by decide +kernel
theorem d_Lw_corner_15 : decode b_Lw_corner 15 = .ok (.iconst 0, 1) := by decide +kernel
theorem d_Lw_corner_16 : decode b_Lw_corner 16 = .ok (.ireturn, 1) := by decide +kernel
theorem d_Lw_locate_0 : decode b_Lw_locate 0 = .ok (.aload_n 3, 1) := by decide +kernel
theorem d_Lw_locate_1 : decode b_Lw_locate 1 = .ok (.iconst 0, 1) := by decide +kernel
theorem d_Lw_locate_2 : decode b_Lw_locate 2 = .ok (.aload_n 0, 1) := by decide +kernel
theorem d_Lw_locate_3 : decode b_Lw_locate 3 = .ok (.iload_n 1, 1) := by decide +kernel
theorem d_Lw_locate_4 : decode b_Lw_locate 4 = .ok (.iload_n 2, 1) := by decide +kernel
theorem d_Lw_locate_5 : decode b_Lw_locate 5 = .ok (.invokevirtual 35, 3) := by decide +kernel
theorem d_Lw_locate_8 : decode b_Lw_locate 8 = .ok (.i2l, 1) := by decide +kernel
theorem d_Lw_locate_9 : decode b_Lw_locate 9 = .ok (.lastore, 1) := by decide +kernel
theorem d_Lw_locate_10 : decode b_Lw_locate 10 = .ok (.goto 7, 3) := by decide +kernel
theorem d_Lw_locate_13 : decode b_Lw_locate 13 = .ok (.astore 4, 2) := by decide +kernel
theorem d_Lw_locate_15 : decode b_Lw_locate 15 = .ok (.iconst 1, 1) := by decide +kernel
theorem d_Lw_locate_16 : decode b_Lw_locate 16 = .ok (.ireturn, 1) := by decide +kernel
theorem d_Lw_locate_17 : decode b_Lw_locate 17 = .ok (.iconst 0, 1) := by decide +kernel
theorem d_Lw_locate_18 : decode b_Lw_locate 18 = .ok (.ireturn, 1) := by decide +kernel
theorem d_Lw_nearest_0 : decode b_Lw_nearest 0 = .ok (.aload_n 3, 1) := by decide +kernel
theorem d_Lw_nearest_1 : decode b_Lw_nearest 1 = .ok (.iconst 0, 1) := by decide +kernel
theorem d_Lw_nearest_2 : decode b_Lw_nearest 2 = .ok (.aload_n 0, 1) := by decide +kernel
theorem d_Lw_nearest_3 : decode b_Lw_nearest 3 = .ok (.iload_n 1, 1) := by decide +kernel
theorem d_Lw_nearest_4 : decode b_Lw_nearest 4 = .ok (.iload_n 2, 1) := by decide +kernel
theorem d_Lw_nearest_5 : decode b_Lw_nearest 5 = .ok (.invokevirtual 38, 3) := by decide +kernel
theorem d_Lw_nearest_8 : decode b_Lw_nearest 8 = .ok (.i2l, 1) := by decide +kernel
theorem d_Lw_nearest_9 : decode b_Lw_nearest 9 = .ok (.lastore, 1) := by decide +kernel
theorem d_Lw_nearest_10 : decode b_Lw_nearest 10 = .ok (.goto 11, 3) := by decide +kernel
theorem d_Lw_nearest_13 : decode b_Lw_nearest 13 = .ok (.astore 4, 2) := by decide +kernel
theorem d_Lw_nearest_15 : decode b_Lw_nearest 15 = .ok (.iconst 1, 1) := by decide +kernel
theorem d_Lw_nearest_16 : decode b_Lw_nearest 16 = .ok (.ireturn, 1) := by decide +kernel
theorem d_Lw_nearest_17 : decode b_Lw_nearest 17 = .ok (.astore 4, 2) := by decide +kernel
theorem d_Lw_nearest_19 : decode b_Lw_nearest 19 = .ok (.iconst 2, 1) := by decide +kernel
theorem d_Lw_nearest_20 : decode b_Lw_nearest 20 = .ok (.ireturn, 1) := by decide +kernel
theorem d_Lw_nearest_21 : decode b_Lw_nearest 21 = .ok (.iconst 0, 1) := by decide +kernel
theorem d_Lw_nearest_22 : decode b_Lw_nearest 22 = .ok (.ireturn, 1) := by decide +kernel
theorem d_Lw_closest_0 : decode b_Lw_closest 0 = .ok (.aload_n 2, 1) := by decide +kernel
theorem d_Lw_closest_1 : decode b_Lw_closest 1 = .ok (.iconst 0, 1) := by decide +kernel
theorem d_Lw_closest_2 : decode b_Lw_closest 2 = .ok (.aload_n 0, 1) := by decide +kernel
theorem d_Lw_closest_3 : decode b_Lw_closest 3 = .ok (.iload_n 1, 1) := by decide +kernel
theorem d_Lw_closest_4 : decode b_Lw_closest 4 = .ok (.invokevirtual 41, 3) := by decide +kernel
theorem d_Lw_closest_7 : decode b_Lw_closest 7 = .ok (.lastore, 1) := by decide +kernel
theorem d_Lw_closest_8 : decode b_Lw_closest 8 = .ok (.goto 9, 3) := by decide +kernel
theorem d_Lw_closest_11 : decode b_Lw_closest 11 = .ok (.astore_n 3, 1) := by decide +kernel
theorem d_Lw_closest_12 : decode b_Lw_closest 12 = .ok (.iconst 1, 1) := by decide +kernel
theorem d_Lw_closest_13 : decode b_Lw_closest 13 = .ok (.ireturn, 1) := by decide +kernel
theorem d_Lw_closest_14 : decode b_Lw_closest 14 = .ok (.astore_n 3, 1) := by decide +kernel
theorem d_Lw_closest_15 : decode b_Lw_closest 15 = .ok (.iconst 2, 1) := by decide +kernel
theorem d_Lw_closest_16 : decode b_Lw_closest 16 = .ok (.ireturn, 1) := by decide +kernel
theorem d_Lw_closest_17 : decode b_Lw_closest 17 = .ok (.iconst 0, 1) := by decide +kernel
theorem d_Lw_closest_18 : decode b_Lw_closest 18 = .ok (.ireturn, 1) := by decide +kernel
theorem d_Lw_point_0 : decode b_Lw_point 0 = .ok (.aload_n 3, 1) := by decide +kernel
theorem d_Lw_point_1 : decode b_Lw_point 1 = .ok (.iconst 0, 1) := by decide +kernel
theorem d_Lw_point_2 : decode b_Lw_point 2 = .ok (.aload_n 0, 1) := by decide +kernel
theorem d_Lw_point_3 : decode b_Lw_point 3 = .ok (.iload_n 1, 1) := by decide +kernel
theorem d_Lw_point_4 : decode b_Lw_point 4 = .ok (.iload_n 2, 1) := by decide +kernel
theorem d_Lw_point_5 : decode b_Lw_point 5 = .ok (.invokevirtual 45, 3) := by decide +kernel
theorem d_Lw_point_8 : decode b_Lw_point 8 = .ok (.i2l, 1) := by decide +kernel
theorem d_Lw_point_9 : decode b_Lw_point 9 = .ok (.lastore, 1) := by decide +kernel
theorem d_Lw_point_10 : decode b_Lw_point 10 = .ok (.goto 7, 3) := by decide +kernel
theorem d_Lw_point_13 : decode b_Lw_point 13 = .ok (.astore 4, 2) := by decide +kernel
theorem d_Lw_point_15 : decode b_Lw_point 15 = .ok (.iconst 1, 1) := by decide +kernel
theorem d_Lw_point_16 : decode b_Lw_point 16 = .ok (.ireturn, 1) := by decide +kernel
theorem d_Lw_point_17 : decode b_Lw_point 17 = .ok (.iconst 0, 1) := by decide +kernel
theorem d_Lw_point_18 : decode b_Lw_point 18 = .ok (.ireturn, 1) := by decide +kernel
